section ZMM
variable {N : Nat} {S : zSt} {st cells shifts held : Nat → Int32} {size code : Int32} {m v e k i j : Nat}
theorem oI_run (h : okS S) : ∀ (k : Nat) (o : zOr), oI S k o → ∃ k', oI S k' (oRun S k o) := by
  intro k
  induction k with
  | zero => exact fun o ho => ⟨0, ho⟩
  | succ k ih =>
    intro o ho
    rw [oRun]
    by_cases q : o.2.2.1 < S.1 ∧ o.2.2.2.2.1 < 200
    · rw [if_pos q]
      exact ih _ (oI_step h ho q)
    · rw [if_neg q]
      exact ⟨_, ho⟩
theorem oEnd_b (h : okS S) : (oEnd S).2.2.2.2.1 ≤ 200 ∧ ∀ i, i < (oEnd S).2.2.2.2.1 → 0 ≤ (oEnd S).2.2.2.2.2 i ∧ (oEnd S).2.2.2.2.2 i < S.1 := by
  obtain ⟨k, hk⟩ := oI_run h 3417 _ oI_0
  exact hk.2.2.2.2.2.2
end ZMM
