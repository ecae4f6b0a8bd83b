/-! ===== another key ===== -/
def setV (S : zSt) (m k : Nat) (x : Int) : zSt := (S.1, fun m' k' => if m' = m ∧ k' = k then x else S.2.1 m' k', S.2.2)
def chE (S : zSt) (key : Int) (m v e : Nat) : Int := if 0 ≤ (S.2.2.2 m v e).1 ∧ ¬ shK S key m v e = shS S m v e then 1 else 0
def chV (S : zSt) (key : Int) (m v : Nat) : Nat → Int
  | 0 => 0
  | e + 1 => chV S key m v e + chE S key m v e
def chW (S : zSt) (key : Int) (m : Nat) : Nat → Int
  | 0 => 0
  | v + 1 => chW S key m v + chV S key m v (S.2.2.1 m v)
section ZMF
variable {N : Nat} {S : zSt} {st cells shifts held : Nat → Int32} {size code : Int32} {m v e k i j : Nat}
theorem setV_same (x : Int) : (setV S m k x).2.1 m k = x := if_pos ⟨rfl, rfl⟩
theorem setV_ne {m' k' : Nat} (x : Int) (h : ¬ (m' = m ∧ k' = k)) : (setV S m k x).2.1 m' k' = S.2.1 m' k' := if_neg h
theorem bmS_setV (m' k' : Nat) (x key p : Int) (e : Nat) : bmS (setV S m' k' x) key m v p e = bmS S key m v p e := by
  induction e with
  | zero => rfl
  | succ e ih => rw [bmS, bmS, ih]; rfl
theorem shW_setV (m' k' : Nat) (x key t : Int) (e : Nat) : shW (setV S m' k' x) key m v t e = shW S key m v t e := by
  unfold shW
  rw [bmS_setV]
  rfl
theorem shL_setV (m' k' : Nat) (x key t : Int) (e : Nat) : shL (setV S m' k' x) key m v t e = shL S key m v t e := by
  induction e with
  | zero => exact shW_setV _ _ _ _ _ _
  | succ e ih => rw [shL, shL, ih, shW_setV]
theorem shB_setV (x : Int) (m' : Nat) (hm : m' ≤ m) : shB (setV S m 0 x) v m' = shB S v m' := by
  induction m' with
  | zero => rfl
  | succ m' ih =>
    rw [shB, shB, shL_setV, ih (by omega), setV_ne x (show ¬ (m' = m ∧ 0 = 0) by omega)]
    rfl
theorem shS_setV (key : Int) : shS (setV S m 0 key) m v e = shK S key m v e := by
  unfold shS shK
  rw [shL_setV, setV_same, shB_setV key m (Nat.le_refl _)]
theorem okS_setV (h : okS S) (hm : m < S.1) {key : Int} (hk : -7 ≤ key ∧ key ≤ 7) : okS (setV S m 0 key) := by
  refine ⟨⟨h.1.1, fun m' hm' => ⟨fun k' hk' => ?_, (h.1.2 m' hm').2⟩⟩, fun m' hm' => ?_⟩
  · by_cases q : m' = m ∧ k' = 0
    · obtain ⟨rfl, rfl⟩ := q
      rw [setV_same]
      omega
    · rw [setV_ne _ q]
      exact (h.1.2 m' hm').1 k' hk'
  · have hV := h.2 m' hm'
    unfold okV at hV ⊢
    by_cases q : m' = m
    · subst q
      rw [setV_same, setV_ne key (show ¬ (m' = m' ∧ 1 = 0) by omega), setV_ne key (show ¬ (m' = m' ∧ 2 = 0) by omega), setV_ne key (show ¬ (m' = m' ∧ 3 = 0) by omega), setV_ne key (show ¬ (m' = m' ∧ 4 = 0) by omega), setV_ne key (show ¬ (m' = m' ∧ 5 = 0) by omega), setV_ne key (show ¬ (m' = m' ∧ 6 = 0) by omega)]
      exact ⟨hk, hV.2⟩
    · have hne : ∀ k', (setV S m 0 key).2.1 m' k' = S.2.1 m' k' := fun k' => setV_ne key (fun x => q x.1)
      simp only [hne]
      exact hV
theorem baseI (m : Nat) (k : Nat) : (1 + 201 * iI m) + iI k = iI ((201 * m + 1 + k : Nat) : Int) := by
  rw [iL201, iL1, iI_mul, iI_add, iI_add]
  congr 1
  omega
theorem chE_b (key : Int) : 0 ≤ chE S key m v e ∧ chE S key m v e ≤ 1 := by
  unfold chE
  split <;> omega
theorem chV_b (key : Int) (n : Nat) : 0 ≤ chV S key m v n ∧ chV S key m v n ≤ n := by
  induction n with
  | zero => exact ⟨Int.le_refl _, Int.le_refl _⟩
  | succ n ih =>
    have := chE_b (S := S) (m := m) (v := v) (e := n) key
    unfold chV
    omega
theorem chW_b (h : okC S) (hm : m < S.1) (key : Int) : 0 ≤ chW S key m 2 ∧ chW S key m 2 ≤ 48 := by
  have c0 := okC_C h hm (show 0 < 2 by omega)
  have c1 := okC_C h hm (show 1 < 2 by omega)
  have b0 := chV_b (S := S) (m := m) (v := 0) key (S.2.2.1 m 0)
  have b1 := chV_b (S := S) (m := m) (v := 1) key (S.2.2.1 m 1)
  have e : chW S key m 2 = 0 + chV S key m 0 (S.2.2.1 m 0) + chV S key m 1 (S.2.2.1 m 1) := rfl
  omega
end ZMF
