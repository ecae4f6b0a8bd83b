/-! ===== a text that is read: its fault, and reading it into a measure ===== -/
def tkS (S : zSt) (m : Nat) (X : zSt) : zSt := (S.1, (fun m' k => if m' = m ∧ ¬ X.2.1 0 k = -100 then X.2.1 0 k else S.2.1 m' k), (fun m' v => if m' = m then X.2.2.1 0 v else S.2.2.1 m' v), (fun m' v e => if m' = m then X.2.2.2 0 v e else S.2.2.2 m' v e))
section ZOB
variable {N L t w v k m nx : Nat} {T : Nat → Int} {tb text cells rd st held shifts past pf dc : Nat → Int32} {a b c nb hk ht code pn : Int32} {p : Nat × Nat} {s : pS} {lo hi : Int} {S X : zSt} {x : zEv} {hs : List zSt} {K : zKT}
theorem okP_fa (hT : okT T L) : okP T L (faS T L) := by
  have h0 : okP T L (-1000, adv T L 0, drS0) := ⟨adv_ok (by omega), by dsimp only; omega, by dsimp only; omega⟩
  have h1 := okP_vo hT (okP_hd hT h0)
  have h2 : okP T L (bkS T L (voS T L (hdT T L (-1000, adv T L 0, drS0)))) := by
    unfold bkS
    split
    · exact okP_tn hT (okP_tw h1)
    · exact h1
  have h3 := okP_nd (w := 19) hT h2
  unfold faS enS
  split
  · exact okP_fl hT h3
  · exact h3
theorem pk_inj {x y : zEv} (hx : okE x) (hy : okE y) (h : pk x = pk y) : x = y := by
  obtain ⟨x1, x2, x3, x4⟩ := x
  obtain ⟨y1, y2, y3, y4⟩ := y
  unfold okE at hx hy
  unfold pk at h
  dsimp only at hx hy h
  have : x1 = y1 ∧ x2 = y2 ∧ x3 = y3 ∧ x4 = y4 := by
    by_cases q1 : x1 < 0
    · by_cases q2 : y1 < 0
      · rw [if_pos q1, if_pos q2] at h
        omega
      · rw [if_pos q1, if_neg q2] at h
        omega
    · by_cases q2 : y1 < 0
      · rw [if_neg q1, if_pos q2] at h
        omega
      · rw [if_neg q1, if_neg q2] at h
        omega
  obtain ⟨rfl, rfl, rfl, rfl⟩ := this
  rfl
theorem tkS_C (m' v' : Nat) : (tkS S m X).2.2.1 m' v' = if m' = m then X.2.2.1 0 v' else S.2.2.1 m' v' := rfl
theorem tkS_E (m' v' e' : Nat) : (tkS S m X).2.2.2 m' v' e' = if m' = m then X.2.2.2 0 v' e' else S.2.2.2 m' v' e' := rfl
theorem tkS_V (m' k' : Nat) : (tkS S m X).2.1 m' k' = if m' = m ∧ ¬ X.2.1 0 k' = -100 then X.2.1 0 k' else S.2.1 m' k' := rfl
theorem okS_tk (h : okS S) (hA : RDA X hk ht rd) (hB : RDB X rd) : okS (tkS S m X) := by
  obtain ⟨a1, a2, a3, a4, a5, a6, a7⟩ := hA
  refine ⟨⟨h.1.1, fun m' hm' => ⟨fun k' hk' => ?_, fun v' hv' => ⟨?_, fun e' he' => ?_⟩⟩⟩, fun m' hm' => ?_⟩
  · have hs := (h.1.2 m' hm').1 k' hk'
    rw [tkS_V]
    split
    · rcases (show k' = 0 ∨ k' = 1 ∨ k' = 2 ∨ k' = 3 ∨ k' = 4 ∨ k' = 5 ∨ k' = 6 by omega) with rfl | rfl | rfl | rfl | rfl | rfl | rfl
      · rcases a3 with g | g <;> omega
      · rcases a4 with g | g <;> omega
      · rcases a4 with g | g <;> omega
      · omega
      · omega
      · omega
      · omega
    · exact hs
  · rw [tkS_C]
    split
    · exact (hB v' hv').2.1
    · exact ((h.1.2 m' hm').2 v' hv').1
  · rw [tkS_C] at he'
    rw [tkS_E]
    by_cases q : m' = m
    · rw [if_pos q] at he' ⊢
      exact ((hB v' hv').2.2 e' he').2
    · rw [if_neg q] at he' ⊢
      exact ((h.1.2 m' hm').2 v' hv').2 e' he'
  · have hV := h.2 m' hm'
    unfold okV at hV ⊢
    by_cases q : m' = m
    · have e : ∀ k, (tkS S m X).2.1 m' k = if X.2.1 0 k = -100 then S.2.1 m' k else X.2.1 0 k := fun k => by
        rw [tkS_V]
        by_cases y : X.2.1 0 k = -100
        · rw [if_neg (fun z => z.2 y), if_pos y]
        · rw [if_pos ⟨q, y⟩, if_neg y]
      rw [e, e, e, e, e, e, e]
      refine ⟨?_, ?_, ?_, ?_, ?_, ?_, ?_⟩
      · split
        · exact hV.1
        · rcases a3 with g | g <;> omega
      · split
        · exact hV.2.1
        · rcases a4 with g | g <;> omega
      · split
        · exact hV.2.2.1
        · rcases a4 with g | g <;> omega
      · split
        · exact hV.2.2.2.1
        · omega
      · split
        · exact hV.2.2.2.2.1
        · omega
      · split
        · exact hV.2.2.2.2.2.1
        · omega
      · split
        · exact hV.2.2.2.2.2.2
        · omega
    · have e : ∀ k, (tkS S m X).2.1 m' k = S.2.1 m' k := fun k => if_neg (fun z => q z.1)
      rw [e, e, e, e, e, e, e]
      exact hV
theorem X4_takeDraft (h : okC S) (hR : RC S (iI S.1) cells) (hD : DR X dc) (hm : m < S.1) (hN : 200 ≤ N) : zT (f_X4_takeDraft N (iI S.1) cells (iI 1) dc (iI m)) (fun r => RC (tkS S m X) (iI S.1) r) := by
  have h1 := h.1
  obtain ⟨d1, d2, d3⟩ := hD
  have d3' : RC X (iI X.1) dc := by rw [d1]; exact d3
  have ev : f_X4_voiceCell N (iI S.1) (iI m) 0 = some (iI ((m : Int) * 57 + 7 + 0 * 25)) := by
    rw [iL0, X4_voiceCell h (zIn_ m (by omega)) (by unfold zInt; omega), if_pos (by omega)]
  have e57 : iI ((m : Int) * 57 + 7 + 0 * 25) = iI ((57 * m + 7 : Nat) : Int) := by congr 1 <;> omega
  unfold f_X4_takeDraft
  rw [z_be ev, if_neg (by rw [iL0, iI_lt (by omega) (by omega) (by omega) (by omega)]; omega), e57]
  refine zT_bind (zT_mono (P := fun c => (∀ m' k, m' < S.1 → k < 7 → c (57 * m' + k) = iI (if m' = m ∧ ¬ X.2.1 0 k = -100 then X.2.1 0 k else S.2.1 m' k)) ∧ ∀ m' a, 7 ≤ a → a < 57 → c (57 * m' + a) = cells (57 * m' + a)) (zT_loop (fun n z => ∃ j : Nat, j ≤ 7 ∧ n = 7 - j ∧ z.1 = iI j ∧ (∀ m' k, m' < S.1 → k < 7 → z.2 (57 * m' + k) = iI (if m' = m ∧ k < j ∧ ¬ X.2.1 0 k = -100 then X.2.1 0 k else S.2.1 m' k)) ∧ ∀ m' a, 7 ≤ a → a < 57 → z.2 (57 * m' + a) = cells (57 * m' + a)) ?_ N 7 _ (by omega) ⟨0, by omega, rfl, rfl, fun m' k hm' hk' => ?_, fun _ _ _ _ => rfl⟩) ?_)
  · rintro n ⟨z1, z2⟩ kk ⟨j, hj, rfl, rfl, hz, ho⟩ ih
    unfold f_X4_takeDraft_B15
    dsimp only at hz ho ⊢
    refine zT_ite (fun r => ?_) (fun r => ?_)
    · rw [iL7, iI_lt (by omega) (by omega) (by omega) (by omega)] at r
      have hj2 : j < 7 := by omega
      have e4 := X4_value_at (N := N) (m := 0) d2 d3' (by omega) hj2
      rw [d1] at e4
      have bx := (d2.2 0 (by omega)).1 j hj2
      have em : (iI (X.2.1 0 j) = -100) = (X.2.1 0 j = -100) := by
        rw [show (-100 : Int32) = iI (-100) from rfl, iI_eq (by omega) (by omega) (by omega) (by omega)]
      refine zT_bindE e4 ?_
      by_cases q : X.2.1 0 j = -100
      · rw [if_pos (by rw [em]; exact q)]
        refine zT_bindE rfl (zT_bindE rfl (ih (7 - (j + 1)) _ (by omega) ⟨j + 1, by omega, rfl, iIp1 _, fun m' k hm' hk' => ?_, ho⟩))
        dsimp only
        rw [hz m' k hm' hk']
        by_cases y : m' = m ∧ k < j ∧ ¬ X.2.1 0 k = -100
        · rw [if_pos y, if_pos ⟨y.1, by omega, y.2.2⟩]
        · by_cases y2 : k = j
          · rw [if_neg y, if_neg (fun z => z.2.2 (by rw [y2]; exact q))]
          · rw [if_neg y, if_neg (fun z => y ⟨z.1, by omega, z.2.2⟩)]
      · rw [if_neg (by rw [em]; exact q)]
        refine zT_bind (zT_bindE (X4_putValue h hm hj2 _) (zT_some (zT_bindE rfl (ih (7 - (j + 1)) _ (by omega) ⟨j + 1, by omega, rfl, iIp1 _, fun m' k hm' hk' => ?_, fun m' a ha1 ha2 => ?_⟩))))
        · dsimp only
          by_cases y2 : m' = m ∧ k = j
          · rw [upd_eq _ _ (by omega), if_pos ⟨y2.1, by omega, by rw [y2.2]; exact q⟩, y2.2]
          · rw [upd_ne _ _ (fun z => y2 (by have := of57 (by omega) (by omega) z; exact this)), hz m' k hm' hk']
            by_cases y : m' = m ∧ k < j ∧ ¬ X.2.1 0 k = -100
            · rw [if_pos y, if_pos ⟨y.1, by omega, y.2.2⟩]
            · rw [if_neg y, if_neg (fun z => y ⟨z.1, by have := z.2.1; omega, z.2.2⟩)]
        · dsimp only
          rw [upd_ne _ _ (fun z => by have := of57 (by omega) (by omega) z; omega)]
          exact ho m' a ha1 ha2
    · rw [iL7, iI_lt (by omega) (by omega) (by omega) (by omega)] at r
      obtain rfl : j = 7 := by omega
      refine zT_some ⟨fun m' k hm' hk' => ?_, ho⟩
      rw [hz m' k hm' hk']
      by_cases y : m' = m ∧ ¬ X.2.1 0 k = -100
      · rw [if_pos y, if_pos ⟨y.1, hk', y.2⟩]
      · rw [if_neg y, if_neg (fun z => y ⟨z.1, z.2.2⟩)]
  · dsimp only
    rw [if_neg (fun z => absurd z.2.1 (Nat.not_lt_zero _))]
    exact (hR.2 m' hm').1 k hk'
  · rintro c2 ⟨g1, g2⟩
    have ec : zCpy dc c2 912 912 7 (iI ((57 * m + 7 : Nat) : Int)) 50 = some (va_cpy dc c2 7 (57 * m + 7) 50) := by
      rw [iL7, iL50, zCpyI (by omega) (by omega) (by omega) (by omega) (by omega) (by omega) (by omega)]
      rfl
    refine zT_bindE ec (zT_some ⟨rfl, fun m' hm' => ⟨fun k' hk' => ?_, fun v' hv' => ⟨?_, fun e' he' => ?_⟩⟩⟩)
    · have hm2 : m' < S.1 := hm'
      rw [zcpy_at, if_neg (fun z => by
        have := of57 (m := m) (m' := m') (a := k') (b := 57 * m' + k' - 57 * m) (by omega) (by omega) (by omega)
        omega), g1 m' k' hm2 hk', tkS_V]
    · have hm2 : m' < S.1 := hm'
      rw [tkS_C, zcpy_at]
      by_cases q : m' = m
      · subst q
        have := ((d3.2 0 (by omega)).2 v' hv').1
        rw [if_pos (by omega), if_pos rfl, ← this]
        congr 1 <;> omega
      · rw [if_neg (fun z => by
          have := of57 (m := m) (m' := m') (a := 7 + 25 * v') (b := 57 * m' + 7 + 25 * v' - 57 * m) (by omega) (by omega) (by omega)
          omega), if_neg q]
        have := g2 m' (7 + 25 * v') (by omega) (by omega)
        rw [show 57 * m' + 7 + 25 * v' = 57 * m' + (7 + 25 * v') by omega, this]
        have := ((hR.2 m' hm2).2 v' hv').1
        rw [← this]
        congr 1 <;> omega
    · have hm2 : m' < S.1 := hm'
      rw [tkS_C] at he'
      rw [tkS_E, zcpy_at]
      by_cases q : m' = m
      · subst q
        rw [if_pos rfl] at he' ⊢
        have hC := okC_C d2 (m := 0) (v := v') (by omega) hv'
        have := ((d3.2 0 (by omega)).2 v' hv').2 e' he'
        rw [if_pos (by omega), ← this]
        congr 1 <;> omega
      · rw [if_neg q] at he' ⊢
        have hC := okC_C h hm2 hv'
        rw [if_neg (fun z => by
          have := of57 (m := m) (m' := m') (a := 8 + 25 * v' + e') (b := 57 * m' + 8 + 25 * v' + e' - 57 * m) (by omega) (by omega) (by omega)
          omega)]
        have := g2 m' (8 + 25 * v' + e') (by omega) (by omega)
        rw [show 57 * m' + 8 + 25 * v' + e' = 57 * m' + (8 + 25 * v' + e') by omega, this]
        have := ((hR.2 m' hm2).2 v' hv').2 e' he'
        rw [← this]
        congr 1 <;> omega
abbrev stP (hk ht : Int32) (k : Nat) : Prop := k = 3 ∨ (k = 0 ∧ hk = 0) ∨ ((k = 1 ∨ k = 2) ∧ ht = 0)
def tkM (m : Nat) (hk ht : Int32) (rd st : Nat → Int32) (i : Nat) : Int32 := if 201 * m + 1 ≤ i ∧ i < 201 * m + 202 ∧ ¬ stP hk ht (i - (201 * m + 1)) then rd (i - (201 * m + 1)) else st i
theorem RDA_hk (h : RDA X hk ht rd) : (hk = 0 ∨ hk = 1) ∧ (ht = 0 ∨ ht = 1) := by
  obtain ⟨a1, a2, a3, a4, -⟩ := h
  exact ⟨a3.elim (fun g => Or.inr g.1) (fun g => Or.inl g.1), a4.elim (fun g => Or.inr g.1) (fun g => Or.inl g.1)⟩
end ZOB
