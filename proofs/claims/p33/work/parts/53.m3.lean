/-! ===== the reference's row of numbers ===== -/
section ZMR
variable {N : Nat} {S : zSt} {st : Nat → Int32} {m v e k : Nat}
theorem okC_ev (h : okC S) (hm : m < S.1) (hv : v < 2) (he : e < S.2.2.1 m v) : okE (S.2.2.2 m v e) := ((h.2 m hm).2 v hv).2 e he
theorem okC_C (h : okC S) (hm : m < S.1) (hv : v < 2) : S.2.2.1 m v ≤ 24 := ((h.2 m hm).2 v hv).1
theorem okE_b {x : zEv} (h : okE x) : (-1 ≤ x.1 ∧ x.1 ≤ 62) ∧ (0 ≤ x.2.1 ∧ x.2.1 ≤ 3) ∧ (0 ≤ x.2.2.1 ∧ x.2.2.1 ≤ 9) ∧ (0 ≤ x.2.2.2 ∧ x.2.2.2 ≤ 1) ∧ (x.1 < 0 → x.1 = -1 ∧ x.2.1 = 0 ∧ x.2.2.2 = 0) := by
  rcases h with h | h <;> omega
def zCl (m v e : Nat) : Int := 201 * m + 10 + 96 * v + 4 * e
theorem zCl_b (h : okC S) (hm : m < S.1) (hv : v < 2) (he : e < S.2.2.1 m v) : 0 ≤ zCl m v e ∧ zCl m v e + 3 < 3217 := by
  have h1 := h.1
  have h2 := okC_C h hm hv
  unfold zCl
  omega
theorem zNb {P : Prop} [Decidable P] : zNar .boolean (iI (if P then 1 else 0)) = some (iI (if P then 1 else 0)) := by
  by_cases h : P
  · rw [if_pos h]; rfl
  · rw [if_neg h]; rfl
theorem z01 {P : Prop} [Decidable P] : (iI (if P then 1 else 0) = 0) = ¬ P := by
  by_cases h : P
  · rw [if_pos h]; simp only [h, not_true_eq_false, eq_iff_iff, iff_false]; decide
  · rw [if_neg h]; simp only [h, not_false_eq_true, eq_iff_iff, iff_true]; rfl
/-- how long a measure lasts -/
def gL (S : zSt) (m : Nat) : Int := 64 * S.2.1 m 1 / S.2.1 m 2
theorem gL_b (h : okS S) (hm : m < S.1) : 4 ≤ gL S m ∧ gL S m ≤ 384 := by
  have hV := h.2 m hm
  unfold gL
  obtain ⟨-, hu, hl, -⟩ := hV
  rcases hl with q | q | q | q <;> rw [q] <;> omega
/-- the ticks of the first events of a voice -/
def gT (S : zSt) (m v : Nat) : Nat → Int
  | 0 => 0
  | e + 1 => gT S m v e + tk (S.2.2.2 m v e).2.2.1
theorem gT_b (h : okC S) (hm : m < S.1) (hv : v < 2) : ∀ e, e ≤ S.2.2.1 m v → 0 ≤ gT S m v e ∧ gT S m v e ≤ 96 * e := by
  intro e
  induction e with
  | zero => intro _; simp [gT]
  | succ e ih =>
    intro he
    have h1 := ih (by omega)
    have h2 := okE_b (okC_ev h hm hv (show e < S.2.2.1 m v by omega))
    have h3 := tk_pos h2.2.2.1.1 h2.2.2.1.2
    show 0 ≤ gT S m v e + _ ∧ gT S m v e + _ ≤ _
    omega
end ZMR
