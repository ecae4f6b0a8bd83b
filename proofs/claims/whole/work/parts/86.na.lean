section ZNB
variable {N : Nat} {S X : zSt} {st cells shifts held past pf : Nat → Int32} {size code pn : Int32} {m v e k i j nx : Nat} {hs : List zSt} {x : zEv}
/-- the reference's row with an event more -/
abbrev adM (S : zSt) (m v : Nat) (x : zEv) (st : Nat → Int32) : Nat → Int32 := upd (upd (upd (upd (upd st (201 * m + 10 + 96 * v + 4 * S.2.2.1 m v) (iI x.1)) (201 * m + 10 + 96 * v + 4 * S.2.2.1 m v + 1) (iI x.2.1)) (201 * m + 10 + 96 * v + 4 * S.2.2.1 m v + 2) (iI x.2.2.1)) (201 * m + 10 + 96 * v + 4 * S.2.2.1 m v + 3) (iI x.2.2.2)) (201 * m + 8 + v) (iI ((S.2.2.1 m v + 1 : Nat) : Int))
theorem adM_off {p : Nat} (h0 : p ≠ 201 * m + 8 + v) (h : ∀ c, c < 4 → p ≠ 201 * m + 10 + 96 * v + 4 * S.2.2.1 m v + c) : adM S m v x st p = st p := by
  have a0 := h 0 (by omega)
  have a1 := h 1 (by omega)
  have a2 := h 2 (by omega)
  have a3 := h 3 (by omega)
  rw [Nat.add_zero] at a0
  unfold adM
  rw [upd_ne _ _ h0, upd_ne _ _ a3, upd_ne _ _ a2, upd_ne _ _ a1, upd_ne _ _ a0]
theorem RM_setAd (h : okC S) (hR : RM S st) (hm : m < S.1) (hv : v < 2) (hC : S.2.2.1 m v < 24) : RM (setAd S m v x) (adM S m v x st) := by
  have far : ∀ (m' o : Nat), o < 10 → (m' = m + 1 → o ≠ 0) → ∀ c, c < 4 → 201 * m' + o ≠ 201 * m + 10 + 96 * v + 4 * S.2.2.1 m v + c := by
    intro m' o ho h2 c hc q
    have := cell_far (m' := m') (m := m) hv hC hc ho
    omega
  refine ⟨?_, fun m' hm' => ⟨fun k' hk' => ?_, fun v' hv' => ⟨?_, fun e' he' => ?_⟩⟩⟩
  · rw [adM_off (by omega) (fun c hc => by omega)]
    exact hR.1
  · have f := far m' (1 + k') (by omega) (fun _ => by omega)
    rw [adM_off (by omega) (fun c hc q => f c hc (by omega))]
    exact (hR.2 m' hm').1 k' hk'
  · have f := far m' (8 + v') (by omega) (fun _ => by omega)
    by_cases q : m' = m ∧ v' = v
    · obtain ⟨rfl, rfl⟩ := q
      unfold adM
      rw [upd_eq _ _ rfl, setAd_C]
    · rw [adM_off (by omega) (fun c hc q => f c hc (by omega)), setAd_Cne q]
      exact ((hR.2 m' hm').2 v' hv').1
  · have hm2 : m' < S.1 := hm'
    have he24 : e' < 24 := by
      rcases setAd_lt he' with ⟨rfl, rfl, rfl⟩ | ⟨q1, q2⟩
      · exact hC
      · exact Nat.lt_of_lt_of_le q2 (okC_C h hm2 hv')
    have f : ∀ c, c < 4 → 201 * m' + 10 + 96 * v' + 4 * e' + c ≠ 201 * m + 8 + v := by
      intro c hc q
      have := cell_far (m' := m) (m := m') (v := v') (e := e') (c := c) (o := 8 + v) hv' he24 hc (by omega)
      omega
    rcases setAd_lt he' with ⟨rfl, rfl, rfl⟩ | ⟨q1, q2⟩
    · rw [setAd_E]
      have f0 := f 0 (by omega)
      have f1 := f 1 (by omega)
      have f2 := f 2 (by omega)
      have f3 := f 3 (by omega)
      rw [Nat.add_zero] at f0
      unfold adM
      refine ⟨?_, ?_, ?_, ?_⟩
      · rw [upd_ne _ _ f0, upd_ne _ _ (by omega), upd_ne _ _ (by omega), upd_ne _ _ (by omega), upd_eq _ _ rfl]
      · rw [upd_ne _ _ f1, upd_ne _ _ (by omega), upd_ne _ _ (by omega), upd_eq _ _ rfl]
      · rw [upd_ne _ _ f2, upd_ne _ _ (by omega), upd_eq _ _ rfl]
      · rw [upd_ne _ _ f3, upd_eq _ _ rfl]
    · rw [setAd_Ene q1]
      have g : ∀ d, d < 4 → ∀ c, c < 4 → 201 * m' + 10 + 96 * v' + 4 * e' + d ≠ 201 * m + 10 + 96 * v + 4 * S.2.2.1 m v + c := by
        intro d hd c hc q
        have := cell_inj hv hv' hC he24 hd hc q
        exact q1 ⟨this.1, this.2.1, this.2.2.1⟩
      have g0 := g 0 (by omega)
      have f0 := f 0 (by omega)
      rw [Nat.add_zero] at g0 f0
      rw [adM_off f0 g0, adM_off (f 1 (by omega)) (g 1 (by omega)), adM_off (f 2 (by omega)) (g 2 (by omega)), adM_off (f 3 (by omega)) (g 3 (by omega))]
      exact ((hR.2 m' hm').2 v' hv').2 e' q2
end ZNB
