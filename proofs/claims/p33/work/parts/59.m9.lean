section ZM9
variable {N : Nat} {S : zSt} {st cells shifts : Nat → Int32} {size code : Int32} {m v e k : Nat}
theorem shS_step : shS S m v e = shW S (S.2.1 m 0) m v (if e = 0 then shB S v m else shS S m v (e - 1)) e := by
  match e with
  | 0 => rfl
  | e + 1 => rfl
/-- the event ahead of an event, if there is one, and what the shift is by it -/
theorem pvE (hm : m < S.1) (hv : v < 2) (he : e < S.2.2.1 m v) : (∃ m2 e2 : Nat, (m = m2 ∧ e = e2 + 1 ∨ m = m2 + 1 ∧ e = 0) ∧ m2 < S.1 ∧ (e = 0 → e2 + 1 = S.2.2.1 m2 v) ∧ e2 < S.2.2.1 m2 v ∧ bfE S m v e = some (S.2.2.2 m2 v e2) ∧ shS S m v e = shW S (S.2.1 m 0) m v (shS S m2 v e2) e) ∨ (e = 0 ∧ (m = 0 ∨ ∃ m2, m = m2 + 1 ∧ S.2.2.1 m2 v = 0) ∧ bfE S m v e = none) := by
  match e, he with
  | e2 + 1, he =>
    refine Or.inl ⟨m, e2, Or.inl ⟨rfl, rfl⟩, hm, fun q => by omega, by omega, ?_, ?_⟩
    · unfold bfE
      rw [if_pos (by omega), show ((e2 + 1 : Nat) : Int) - 1 = (e2 : Int) by omega, gE_at hm hv (by omega)]
    · rw [shS_step, if_neg (by omega)]; rfl
  | 0, he =>
    match m, hm with
    | 0, hm =>
      refine Or.inr ⟨rfl, Or.inl rfl, ?_⟩
      unfold bfE gE
      rw [if_neg (by omega), if_neg (by omega)]
    | m2 + 1, hm =>
      have ec : gC S (((m2 + 1 : Nat) : Int) - 1) v = (S.2.2.1 m2 v : Int) := by
        rw [show ((m2 + 1 : Nat) : Int) - 1 = (m2 : Int) by omega, gC_at (by omega) hv]
      rcases Nat.eq_zero_or_pos (S.2.2.1 m2 v) with q | q
      · refine Or.inr ⟨rfl, Or.inr ⟨m2, rfl, q⟩, ?_⟩
        unfold bfE
        rw [if_neg (by omega), ec, q]
        unfold gE
        rw [if_neg (by omega)]
      · refine Or.inl ⟨m2, S.2.2.1 m2 v - 1, Or.inr ⟨rfl, rfl⟩, by omega, fun _ => by omega, by omega, ?_, ?_⟩
        · unfold bfE
          rw [if_neg (by omega), ec, show ((m2 + 1 : Nat) : Int) - 1 = (m2 : Int) by omega, show ((S.2.2.1 m2 v : Nat) : Int) - 1 = ((S.2.2.1 m2 v - 1 : Nat) : Int) by omega, gE_at (by omega) hv (by omega)]
        · rw [shS_step, if_pos rfl, shS_last (by omega)]
theorem tieS {y : zEv} (hy : okE y) {p : Int} (hp : 0 ≤ p) : tieTo (some y) p ↔ (y.1 = p ∧ ¬ y.2.2.2 = 0) := by
  unfold tieTo
  simp only [oT, oN, oP]
  unfold okE at hy
  split <;> omega
theorem tieN {p : Int} : ¬ tieTo none p := by
  unfold tieTo
  simp only [oT]
  omega
end ZM9
