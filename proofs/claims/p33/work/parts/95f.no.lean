/-! ===== sentences: the four calls ===== -/
def okW (W : List (List Int)) : Prop := ∀ w, w ∈ W → ∀ b, b ∈ w → 33 ≤ b ∧ b ≤ 122
def cnS (B : List Int) (k : Nat) : Int := 1 + ((B.take k).count 32 : Nat)
section ZNT
variable {N : Nat} {S : zSt} {st cells : Nat → Int32} {W V : List (List Int)} {B : List Int} {l : Int32 × (Nat → Int32)} {m v e w k : Nat} {x : Int} {y : zEv} {code : Int32} {K : zKT}
theorem okW_app (h1 : okW W) (h2 : okW V) : okW (W ++ V) := fun w hw => (List.mem_append.mp hw).elim (h1 w) (h2 w)
theorem okW_nil : okW [] := fun w hw => by cases hw
theorem okW_cons {w : List Int} (h1 : ∀ b, b ∈ w → 33 ≤ b ∧ b ≤ 122) (h2 : okW W) : okW (w :: W) := fun u hu => by
  rcases List.mem_cons.mp hu with rfl | hu
  · exact h1
  · exact h2 u hu
theorem zwB_ok : ∀ w : Nat, w < 21 → ∀ b, b ∈ zwB w → 33 ≤ b ∧ b ≤ 122 := by decide +kernel
theorem nmW_ok (hx : 0 ≤ x ∧ x < 100) : ∀ b, b ∈ nmW x → 33 ≤ b ∧ b ≤ 122 := by
  intro b hb
  unfold nmW at hb
  split at hb
  · rw [List.mem_singleton.mp hb]; omega
  · rcases List.mem_cons.mp hb with rfl | hb
    · omega
    · rw [List.mem_singleton.mp hb]; omega
theorem evW_ok (hx : okE y) : okW (evW y) := by
  have hb := okE_b hx
  unfold evW
  refine okW_app (okW_app (okW_app ?_ ?_) ?_) ?_
  · unfold evA
    split
    · exact okW_cons (zwB_ok 10 (by omega)) okW_nil
    · refine okW_cons (fun b hb => ?_) (okW_app ?_ (okW_cons (nmW_ok (by omega)) okW_nil))
      · rw [List.mem_singleton.mp hb]; omega
      · split
        · exact okW_nil
        · exact okW_cons (zwB_ok _ (by omega)) okW_nil
  · split
    · exact okW_cons (zwB_ok 11 (by omega)) okW_nil
    · exact okW_nil
  · exact okW_cons (zwB_ok _ (by omega)) okW_nil
  · split
    · exact okW_cons (zwB_ok 17 (by omega)) okW_nil
    · exact okW_nil
theorem voE_ok (h : okC S) (hm : m < S.1) (hv : v < 2) : ∀ e, e ≤ S.2.2.1 m v → okW (voE S m v e) := by
  intro e
  induction e with
  | zero => intro _; exact okW_nil
  | succ e ih =>
    intro he
    exact okW_app (ih (by omega)) (evW_ok (okC_ev h hm hv (by omega)))
theorem snW_ok (h : okS S) (hm : m < S.1) : okW (snW S m) := by
  have h1 := h.1.1
  have hV := h.2 m hm
  unfold okV at hV
  have z1 : ∀ w : Nat, w < 21 → okW [zwB w] := fun w hw => okW_cons (zwB_ok w hw) okW_nil
  have n1 : ∀ x : Int, 0 ≤ x ∧ x < 100 → okW [nmW x] := fun x hx => okW_cons (nmW_ok hx) okW_nil
  have hvo : ∀ v, v < 2 → okW (voW S m v (S.2.2.1 m v)) := by
    intro v hv
    unfold voW
    split
    · exact okW_nil
    · exact okW_app (okW_cons (zwB_ok 9 (by omega)) (n1 _ (by omega))) (voE_ok h.1 hm hv _ (Nat.le_refl _))
  unfold snW snF snE snD snC snB snA
  refine okW_app (okW_app (okW_app (okW_app (okW_app (okW_app (okW_app (okW_app ?_ ?_) ?_) ?_) ?_) (hvo 0 (by omega))) (hvo 1 (by omega))) ?_) (z1 19 (by omega))
  · exact okW_cons (zwB_ok 0 (by omega)) (n1 _ (by omega))
  · split
    · exact z1 1 (by omega)
    · exact okW_nil
  · split
    · exact okW_nil
    · exact okW_cons (zwB_ok 2 (by omega)) (n1 _ (by omega))
  · split
    · unfold kyW
      refine okW_cons (zwB_ok 3 (by omega)) ?_
      split
      · exact z1 4 (by omega)
      · exact okW_cons (nmW_ok (by split <;> omega)) (z1 _ (by split <;> omega))
    · exact okW_nil
  · split
    · exact okW_app (okW_cons (zwB_ok 8 (by omega)) (n1 _ (by omega))) (n1 _ (by omega))
    · exact okW_nil
  · split
    · exact okW_nil
    · exact okW_cons (zwB_ok 18 (by omega)) (n1 _ (by omega))
theorem zwS_mem (h : okW W) : ∀ b, b ∈ zwS W → 32 ≤ b ∧ b ≤ 122 := by
  intro b hb
  obtain ⟨w, hw, hb⟩ := List.mem_flatMap.mp hb
  rcases List.mem_cons.mp hb with rfl | hb
  · omega
  · have := h w hw b hb
    omega
theorem zwR_gB (h : okW W) (hk : k < (zwR W).length) : 32 ≤ gB (zwR W) k ∧ gB (zwR W) k ≤ 122 := by
  unfold gB
  rw [List.getElem?_eq_getElem hk]
  exact zwS_mem h _ (List.mem_of_mem_tail (List.getElem_mem hk))
theorem zwS_cnt (h : okW W) : (zwS W).count 32 = W.length := by
  induction W with
  | nil => rfl
  | cons w W ih =>
    have h0 : w.count 32 = 0 := List.count_eq_zero.mpr (fun hm => by
      have := h w (List.mem_cons_self ..) 32 hm
      omega)
    have h2 := ih (fun u hu => h u (List.mem_cons_of_mem _ hu))
    rw [zwS_cons, List.cons_append, List.count_cons_self, List.count_append, h0, h2, List.length_cons]
    omega
theorem zwR_cnt (h : okW W) (hn : W ≠ []) : 1 + ((zwR W).count 32 : Nat) = W.length := by
  have := zwS_cnt h
  cases W with
  | nil => exact absurd rfl hn
  | cons w W =>
    unfold zwR
    rw [zwS_cons, List.cons_append] at this ⊢
    rw [List.count_cons_self] at this
    show 1 + List.count 32 (w ++ zwS W) = _
    omega
theorem cnS_step (hk : k < B.length) : cnS B (k + 1) = cnS B k + if gB B k = 32 then 1 else 0 := by
  have e := zT_take (B := []) hk
  rw [List.nil_append, List.nil_append] at e
  unfold cnS
  rw [e, List.count_append, List.count_singleton]
  by_cases q : gB B k = 32
  · rw [if_pos q, if_pos (by rw [q] <;> rfl)]; omega
  · rw [if_neg q, if_neg (by simpa using q)]; omega
theorem cnS_b (k : Nat) : 1 ≤ cnS B k ∧ cnS B k ≤ 1 + B.length := by
  unfold cnS
  have h1 := List.count_le_length (a := (32 : Int)) (l := B.take k)
  rw [List.length_take] at h1
  omega
theorem snW_ne (S : zSt) (m : Nat) : snW S m ≠ [] := by
  unfold snW
  intro h
  have := congrArg List.length h
  rw [List.length_append] at this
  exact absurd this (by simp)
theorem snR_len (h : okS S) (hm : m < S.1) : (zwR (snW S m)).length ≤ 1702 := by
  have h1 := snW_len h hm
  have h2 := zwR_len (snW S m)
  omega
theorem X5_at (h : RB B l.1 l.2) (hB : B.length ≤ 1702) (hk : k < B.length) : f_X5_at N l.1 l.2 (iI k) = some (iI (gB B k)) := by
  unfold f_X5_at
  rw [h.1, if_neg (by rw [iL0, iI_lt (by omega) (by omega) (by omega) (by omega)]; omega), if_pos (by rw [iI_lt (by omega) (by omega) (by omega) (by omega)]; omega), if_pos (by rw [iL1702, iI_lt (by omega) (by omega) (by omega) (by omega)]; omega), zAldI (by omega) (by omega) (by omega), z_sb, Int.toNat_natCast, h.2 k hk]
theorem zSubE_rq {β γ : Type} {o : Option (Unit ⊕ Nat)} {P : Prop} [Decidable P] {k : Nat} {F : Nat → γ} {C : Unit → Option (β ⊕ γ)} (h : o = if P then some (.inl ()) else some (.inr k)) : zSubE o F C = if P then C () else some (.inr (F k)) := by
  rw [h]
  by_cases q : P
  · rw [if_pos q, if_pos q] <;> rfl
  · rw [if_neg q, if_neg q] <;> rfl
theorem RB_ext {f g : Nat → Int32} {n : Int32} (h : RB B n f) (hg : ∀ i, i < B.length → g i = f i) : RB B n g := ⟨h.1, fun i hi => by rw [hg i hi]; exact h.2 i hi⟩
theorem X7_append (h : RB B l.1 l.2) (hl : B.length < 600) (hx : 0 ≤ x ∧ x ≤ 127) : zT (f_X7_append N l.1 l.2 (iI x)) (fun r => RB (B ++ [x]) r.1 r.2) := by
  obtain ⟨a, rfl⟩ := Int.eq_ofNat_of_zero_le hx.1
  unfold f_X7_append
  rw [h.1, if_pos (by rw [iL600, iI_lt (by omega) (by omega) (by omega) (by omega)]; omega), zBstI (by omega) (by omega) (by omega), Int.toNat_natCast, ← iI_ofNat a, narB a (by omega), iI_ofNat a, iIp1]
  exact zT_bindE rfl (zT_bindE rfl (zT_some (RB_push h _)))
theorem X9_copy56 {t : Int32 × Int32 × (Nat → Int32)} {tb : Nat → Int32} (h : RB B t.1 t.2.2) (hB : B.length ≤ 600) (hg : ∀ k, k < B.length → 0 ≤ gB B k ∧ gB B k ≤ 127) (hN : 2000 ≤ N) : zT (zLoop (f_X9_copySentence_B56 N t) N (0, 0, tb)) (fun r => RB B r.1 r.2) := by
  refine zT_loop (fun n s => ∃ i : Nat, i ≤ B.length ∧ n = B.length - i ∧ s.1 = iI i ∧ RB (B.take i) s.2.1 s.2.2) ?_ N B.length (0, 0, tb) (by omega) ⟨0, by omega, rfl, rfl, by rw [List.take_zero]; exact RB_nil _⟩
  rintro n ⟨s1, s2⟩ c ⟨i, hi, rfl, q1, hp⟩ ih
  dsimp only at q1 hp
  subst q1
  unfold f_X9_copySentence_B56
  dsimp only
  refine zT_bindE (show f_X5_length N t.1 = some t.1 from rfl) ?_
  rw [h.1]
  refine zT_ite (fun q => ?_) (fun q => ?_)
  · rw [iI_lt (by omega) (by omega) (by omega) (by omega)] at q
    have hi2 : i < B.length := by omega
    have ea := X5_at (N := N) (l := (t.1, t.2.2)) h (by omega) hi2
    dsimp only at ea
    rw [h.1] at ea
    refine zT_bindE ea (zT_bind (zT_mono (X7_append hp (by rw [List.length_take]; omega) (hg i hi2)) (fun u hu => zT_bindE rfl (ih (B.length - (i + 1)) _ (by omega) ⟨i + 1, by omega, rfl, iIp1 _, ?_⟩))))
    have e := zT_take (B := []) hi2
    rw [List.nil_append, List.nil_append] at e
    rw [e]
    exact hu
  · rw [iI_lt (by omega) (by omega) (by omega) (by omega)] at q
    rw [show i = B.length by omega, List.take_length] at hp
    exact zT_some hp
end ZNT
