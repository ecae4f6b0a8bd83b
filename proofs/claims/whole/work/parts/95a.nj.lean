/-! ===== sentences: lists of words ===== -/
def gB (B : List Int) (i : Nat) : Int := (B[i]?).getD 0
/-- a row that holds a list of bytes -/
def RB (B : List Int) (n : Int32) (f : Nat → Int32) : Prop := n = iI B.length ∧ ∀ i, i < B.length → f i = iI (gB B i)
def zwB (w : Nat) : List Int := (zByt.getD w []).map Int32.toInt
def zwS (W : List (List Int)) : List Int := W.flatMap (fun w => 32 :: w)
def zwR (W : List (List Int)) : List Int := (zwS W).tail
def zwG (W : List (List Int)) : List Int := if W = [] then [] else zwR W ++ [32]
def nmW (x : Int) : List Int := if x < 10 then [48 + x] else [48 + x / 10, 48 + x % 10]
section ZNN
variable {N : Nat} {B : List Int} {W V : List (List Int)} {n : Int32} {f : Nat → Int32} {x : Int} {w : List Int}
theorem gB_app (B C : List Int) (i : Nat) : gB (B ++ C) i = if i < B.length then gB B i else gB C (i - B.length) := by
  unfold gB
  rw [List.getElem?_append]
  split <;> rfl
theorem zwS_app (W V : List (List Int)) : zwS (W ++ V) = zwS W ++ zwS V := List.flatMap_append
theorem zwS_cons (w : List Int) (W : List (List Int)) : zwS (w :: W) = 32 :: w ++ zwS W := List.flatMap_cons
theorem zwS_len1 (W : List (List Int)) (w : List Int) : (zwS (W ++ [w])).length = (zwS W).length + 1 + w.length := by
  rw [zwS_app, zwS_cons, List.length_append, List.length_append, List.length_cons]
  show _ + (w.length + 1 + 0) = _
  omega
theorem zwS_ge : W.length ≤ (zwS W).length := by
  induction W with
  | nil => exact Nat.zero_le _
  | cons w W ih =>
    rw [zwS_cons, List.length_append, List.length_cons, List.length_cons]
    omega
theorem zwR_snoc (W : List (List Int)) (w : List Int) : zwR (W ++ [w]) = zwG W ++ w := by
  unfold zwG zwR
  rw [zwS_app]
  cases W with
  | nil => rw [if_pos rfl]; show (32 :: w ++ []).tail = [] ++ w; simp
  | cons v W =>
    rw [if_neg (List.cons_ne_nil _ _), zwS_cons, zwS_cons]
    show (v ++ zwS W) ++ (32 :: w ++ []) = _
    simp
theorem zwG_len : (zwG W).length = (zwS W).length := by
  unfold zwG zwR
  cases W with
  | nil => rfl
  | cons v W =>
    rw [if_neg (List.cons_ne_nil _ _), zwS_cons]
    simp
    omega
theorem zwR_len (W : List (List Int)) : (zwR W).length = (zwS W).length - 1 := by
  unfold zwR
  rw [List.length_tail]
theorem RB_push (h : RB B n f) (x : Int) : RB (B ++ [x]) (iI ((B.length + 1 : Nat) : Int)) (upd f B.length (iI x)) := by
  refine ⟨by rw [List.length_append] <;> rfl, fun i hi => ?_⟩
  rw [List.length_append] at hi
  have hi : i < B.length + 1 := hi
  rw [upd_at, gB_app]
  by_cases q : i = B.length
  · rw [if_pos q, if_neg (by omega), q, Nat.sub_self]
    rfl
  · rw [if_neg q, if_pos (by omega)]
    exact h.2 i (by omega)
theorem RB_nil (f : Nat → Int32) : RB [] 0 f := ⟨rfl, fun i hi => absurd hi (Nat.not_lt_zero i)⟩
theorem X5_put (h : RB B n f) (hl : B.length < 1702) (hx : 0 ≤ x ∧ x ≤ 127) : zT (f_X5_put N n f (iI x)) (fun r => RB (B ++ [x]) r.1 r.2) := by
  obtain ⟨a, rfl⟩ := Int.eq_ofNat_of_zero_le hx.1
  unfold f_X5_put
  rw [h.1, if_pos (by rw [iL1702, iI_lt (by omega) (by omega) (by omega) (by omega)]; omega), zBstI (by omega) (by omega) (by omega), Int.toNat_natCast, ← iI_ofNat a, narB a (by omega), iI_ofNat a, iIp1]
  exact zT_bindE rfl (zT_bindE rfl (zT_some (RB_push h _)))
theorem X10_writes (h : RB B n f) (hl : B.length < 2000) : zT (f_X10_writes N n f (iI x)) (fun r => RB (B ++ [x]) r.1 r.2) := by
  unfold f_X10_writes
  rw [h.1, zAstI (by omega) (by omega) (by omega), Int.toNat_natCast, iIp1]
  exact zT_bindE rfl (zT_bindE rfl (zT_some (RB_push h _)))
theorem zwB_chk : ∀ w : Nat, w < 21 → zSlen w = some (iI (zwB w).length) ∧ ∀ j : Nat, j < (zwB w).length → zSch w (iI j) = some (iI (gB (zwB w) j)) ∧ 97 ≤ gB (zwB w) j ∧ gB (zwB w) j ≤ 122 := by decide +kernel
theorem zwB_len : ∀ w : Nat, w < 21 → 1 ≤ (zwB w).length ∧ (zwB w).length ≤ 9 := by decide +kernel
def bgO (w : Nat) : Nat := [0, 4, 9, 16, 20, 26, 32, 37, 45, 50, 56, 61, 68, 74, 79, 87, 94, 104, 109, 114, 118].getD w 0
def bgC (j : Nat) : Nat := (zSpL.take j).countP (fun x => x == 32)
theorem zSp_at : ∀ j : Nat, j < 118 → zSp j = zSpL.getD j 0 := by decide +kernel
theorem bgO_chk : ∀ w : Nat, w < 20 → bgO w + (zwB w).length < 118 ∧ zSpL.getD (bgO w + (zwB w).length) 0 = 32 ∧ (∀ j : Nat, j < (zwB w).length → zSpL.getD (bgO w + j) 0 = iI (gB (zwB w) j)) := by decide +kernel
theorem bgC_chk : ∀ w : Nat, w < 20 → ∀ j : Nat, j < bgO w + 1 → (bgC j < w ↔ j < bgO w) ∧ bgC j ≤ w := by decide +kernel
theorem bgC_step : ∀ j : Nat, j < 118 → bgC (j + 1) = bgC j + if zSpL.getD j 0 = 32 then 1 else 0 := by decide +kernel
theorem bgO_lt : ∀ w : Nat, w < 20 → bgO w < 118 := by decide +kernel
theorem X10_beginOf {w : Nat} (hw : w < 20) (hN : 200 ≤ N) : f_X10_beginOf N zSp (iI w) = some (iI (bgO w)) := by
  have hb := bgO_lt w hw
  unfold f_X10_beginOf
  refine z_eqT (zT_bind (zT_mono (zT_loop (P := fun r => r = iI (bgO w)) (fun n s => ∃ j : Nat, j ≤ bgO w ∧ n = bgO w - j ∧ s = (iI j, iI ((w : Int) - bgC j))) ?_ N (bgO w) (0, iI w) (by omega) ⟨0, by omega, rfl, ?_⟩) (fun a q => zT_some q)))
  · rintro n s c ⟨j, hj, rfl, rfl⟩ ih
    have hc := bgC_chk w hw j (by omega)
    unfold f_X10_beginOf_B4
    dsimp only
    have hl : (0 < iI ((w : Int) - bgC j)) = (0 < (w : Int) - bgC j) := by rw [iL0, iI_lt (by omega) (by omega) (by omega) (by omega)]
    refine zT_ite (fun q => ?_) (fun q => ?_)
    · rw [hl] at q
      have hj2 : j < bgO w := hc.1.mp (by omega)
      have hs := bgC_step j (by omega)
      rw [zAldI (by omega) (by omega) (by omega), Int.toNat_natCast, zSp_at j (by omega)]
      refine zT_bindE rfl ?_
      by_cases q2 : zSpL.getD j 0 = 32
      · rw [if_pos q2] at hs
        rw [if_pos q2]
        exact zT_bindE rfl (zT_bindE rfl (zT_bindE rfl (ih (bgO w - (j + 1)) _ (by omega) ⟨j + 1, by omega, rfl, by rw [iIp1, iIs1, hs]; congr 2 <;> omega⟩)))
      · rw [if_neg q2] at hs
        rw [if_neg q2]
        exact zT_bindE rfl (zT_bindE rfl (zT_bindE rfl (ih (bgO w - (j + 1)) _ (by omega) ⟨j + 1, by omega, rfl, by rw [iIp1, iL0, iI_sub, hs]; congr 2 <;> omega⟩)))
    · rw [hl] at q
      have hj2 : ¬ j < bgO w := fun y => by have := hc.1.mpr y; omega
      exact zT_some (by rw [show j = bgO w by omega])
  · rw [show bgC 0 = 0 from rfl]
    congr 2 <;> omega
end ZNN
