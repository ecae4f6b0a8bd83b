/-! ===== sentences: lists of words ===== -/
def gB (B : List Int) (i : Nat) : Int := (B[i]?).getD 0
/-- a row that holds a list of bytes -/
def RB (B : List Int) (n : Int32) (f : Nat → Int32) : Prop := n = iI B.length ∧ ∀ i, i < B.length → f i = iI (gB B i)
def zwB (w : Nat) : List Int := (zByt.getD w []).map Int32.toInt
def zwS (W : List (List Int)) : List Int := W.flatMap (fun w => 32 :: w)
def zwR (W : List (List Int)) : List Int := (zwS W).tail
def zwG (W : List (List Int)) : List Int := if W = [] then [] else zwR W ++ [32]
def nmW (x : Int) : List Int := if x < 10 then [48 + x] else [48 + x / 10, 48 + x % 10]
section ZNN
variable {N : Nat} {B : List Int} {W V : List (List Int)} {n : Int32} {f : Nat → Int32} {x : Int} {w : List Int}
theorem gB_app (B C : List Int) (i : Nat) : gB (B ++ C) i = if i < B.length then gB B i else gB C (i - B.length) := by
  unfold gB
  rw [List.getElem?_append]
  split <;> rfl
theorem zwS_app (W V : List (List Int)) : zwS (W ++ V) = zwS W ++ zwS V := List.flatMap_append
theorem zwS_cons (w : List Int) (W : List (List Int)) : zwS (w :: W) = 32 :: w ++ zwS W := List.flatMap_cons
theorem zwS_len1 (W : List (List Int)) (w : List Int) : (zwS (W ++ [w])).length = (zwS W).length + 1 + w.length := by
  rw [zwS_app, zwS_cons, List.length_append, List.length_append, List.length_cons]
  show _ + (w.length + 1 + 0) = _
  omega
theorem zwS_ge : W.length ≤ (zwS W).length := by
  induction W with
  | nil => exact Nat.zero_le _
  | cons w W ih =>
    rw [zwS_cons, List.length_append, List.length_cons, List.length_cons]
    omega
theorem zwR_snoc (W : List (List Int)) (w : List Int) : zwR (W ++ [w]) = zwG W ++ w := by
  unfold zwG zwR
  rw [zwS_app]
  cases W with
  | nil => rw [if_pos rfl]; show (32 :: w ++ []).tail = [] ++ w; simp
  | cons v W =>
    rw [if_neg (List.cons_ne_nil _ _), zwS_cons, zwS_cons]
    show (v ++ zwS W) ++ (32 :: w ++ []) = _
    simp
theorem zwG_len : (zwG W).length = (zwS W).length := by
  unfold zwG zwR
  cases W with
  | nil => rfl
  | cons v W =>
    rw [if_neg (List.cons_ne_nil _ _), zwS_cons]
    simp
    omega
theorem zwR_len (W : List (List Int)) : (zwR W).length = (zwS W).length - 1 := by
  unfold zwR
  rw [List.length_tail]
theorem RB_push (h : RB B n f) (x : Int) : RB (B ++ [x]) (iI ((B.length + 1 : Nat) : Int)) (upd f B.length (iI x)) := by
  refine ⟨by rw [List.length_append] <;> rfl, fun i hi => ?_⟩
  rw [List.length_append] at hi
  have hi : i < B.length + 1 := hi
  rw [upd_at, gB_app]
  by_cases q : i = B.length
  · rw [if_pos q, if_neg (by omega), q, Nat.sub_self]
    rfl
  · rw [if_neg q, if_pos (by omega)]
    exact h.2 i (by omega)
theorem RB_nil (f : Nat → Int32) : RB [] 0 f := ⟨rfl, fun i hi => absurd hi (Nat.not_lt_zero i)⟩
theorem X5_put (h : RB B n f) (hl : B.length < 1702) (hx : 0 ≤ x ∧ x ≤ 127) : zT (f_X5_put N n f (iI x)) (fun r => RB (B ++ [x]) r.1 r.2) := by
  obtain ⟨a, rfl⟩ := Int.eq_ofNat_of_zero_le hx.1
  unfold f_X5_put
  rw [h.1, if_pos (by rw [iL1702, iI_lt (by omega) (by omega) (by omega) (by omega)]; omega), zBstI (by omega) (by omega) (by omega), Int.toNat_natCast, ← iI_ofNat a, narB a (by omega), iI_ofNat a, iIp1]
  exact zT_bindE rfl (zT_bindE rfl (zT_some (RB_push h _)))
theorem zwB_chk : ∀ w : Nat, w < 21 → zSlen w = some (iI (zwB w).length) ∧ ∀ j : Nat, j < (zwB w).length → zSch w (iI j) = some (iI (gB (zwB w) j)) ∧ 97 ≤ gB (zwB w) j ∧ gB (zwB w) j ≤ 122 := by decide +kernel
theorem zwB_len : ∀ w : Nat, w < 21 → 1 ≤ (zwB w).length ∧ (zwB w).length ≤ 9 := by decide +kernel
def bgO (w : Nat) : Nat := [0, 4, 9, 16, 20, 26, 32, 37, 45, 50, 56, 61, 68, 74, 79, 87, 94, 104, 109, 114, 118].getD w 0
theorem bgO_lt : ∀ w : Nat, w < 20 → bgO w < 118 := by decide +kernel
end ZNN
