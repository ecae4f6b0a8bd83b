/-! ===== a text that is read: its fault, and reading it into a measure ===== -/
def tkS (S : zSt) (m : Nat) (X : zSt) : zSt := (S.1, (fun m' k => if m' = m ∧ ¬ X.2.1 0 k = -100 then X.2.1 0 k else S.2.1 m' k), (fun m' v => if m' = m then X.2.2.1 0 v else S.2.2.1 m' v), (fun m' v e => if m' = m then X.2.2.2 0 v e else S.2.2.2 m' v e))
section ZOB
variable {N L t w v k m nx : Nat} {T : Nat → Int} {tb text cells rd st held shifts past pf dc : Nat → Int32} {a b c nb hk ht code pn : Int32} {p : Nat × Nat} {s : pS} {lo hi : Int} {S X : zSt} {x : zEv} {hs : List zSt} {K : zKT} {M : zMT}
theorem okP_fa (hT : okT T L) : okP T L (faS T L) := by
  have h0 : okP T L (-1000, adv T L 0, drS0) := ⟨adv_ok (by omega), by dsimp only; omega, by dsimp only; omega⟩
  have h1 := okP_vo hT (okP_hd hT h0)
  have h2 : okP T L (bkS T L (voS T L (hdT T L (-1000, adv T L 0, drS0)))) := by
    unfold bkS
    split
    · exact okP_tn hT (okP_tw h1)
    · exact h1
  have h3 := okP_nd (w := 19) hT h2
  unfold faS enS
  split
  · exact okP_fl hT h3
  · exact h3
theorem zk_fault (hN : 20000 ≤ N) (hZ : zZ K M) : zS_fault N zZ K M := by
  obtain ⟨S, hs, nx, L, T, h0, hk, hO, hC, hT, hH, hF, hX, hP, hS, hR⟩ := hZ
  obtain ⟨u1, u2, u3, u4, u5, u6⟩ := h0
  have hTT : okT T L := ⟨u5, u6⟩
  unfold zS_fault
  rw [hS, hT.1, hX.1]
  obtain ⟨r, hr, r1, r2, r3, r4⟩ := X3_findFault (N := N) (a := K.2.2.2.1) (b := K.2.2.2.2.1) (c := K.2.2.2.2.2.1) (nb := K.2.2.2.2.2.2.2.2.2.2.2.2.2.2.2.1) (cells := K.2.2.2.2.2.2.2.2.2.2.2.2.2.2.2.2.2.2.2.2.2.2.2.2.2) (tb := K.2.2.2.2.2.2.2.2.2.2.2.2.2.2.2.2.2.2.2.2.1) hTT ⟨rfl, hT.2⟩ (by omega)
  obtain ⟨q, hq, hF2⟩ := X10_readsAll (N := N) (a := M.2.1) (hk := M.2.2.2.1) (ht := M.2.2.2.2.1) (nb := M.2.2.2.2.2.2.2.2.2.1) (b := M.2.2.2.2.2.2.2.2.2.2.2.2.1) (rd := M.2.2.2.2.2.2.2.2.2.2.2.2.2.2.2.2.1) (text := M.2.2.2.2.2.2.2.2.2.2.2.2.2.2.2.2.2.2.2) hTT ⟨rfl, hX.2⟩ (by omega)
  obtain ⟨f, hf, e1⟩ : ∃ f : Int32 × Int32 × Int32 × Int32 × Int32 × Int32 × (Nat → Int32), f_X10_faultNow N M.2.1 M.2.2.2.1 M.2.2.2.2.1 (iI L) M.2.2.2.2.2.2.2.2.2.1 M.2.2.2.2.2.2.2.2.2.2.2.2.1 M.2.2.2.2.2.2.2.2.2.2.2.2.2.2.2.2.1 zSp M.2.2.2.2.2.2.2.2.2.2.2.2.2.2.2.2.2.2.2 = some f ∧ f.1 = iI (faS T L).1 := by
    unfold f_X10_faultNow
    rw [z_be hq]
    rcases hF2 with ⟨m1, m2, m3, m4⟩ | ⟨m1, m2, m3⟩
    · rw [m2, if_neg ne10, m1]
      exact ⟨_, rfl, rfl⟩
    · rw [m2, if_pos rfl]
      exact ⟨_, rfl, m3⟩
  refine ⟨(r.1, r.2.1, r.2.2.1, r.2.2.2.1, r.2.2.2.2.1, r.2.2.2.2.2), (f.1, 0, f.2.1, f.2.2.1, f.2.2.2.1, f.2.2.2.2.1, f.2.2.2.2.2.1, f.2.2.2.2.2.2), ?_, ?_, ?_, ⟨S, hs, nx, L, T, ⟨u1, u2, u3, u4, u5, u6⟩, hk, hO, hC, ⟨rfl, hT.2⟩, hH, hF, ⟨rfl, hX.2⟩, hP, rfl, hR⟩⟩
  · unfold f_X9_fault
    rw [z_be hr]
  · unfold f_X10_fault
    rw [z_be hf]
  · exact r1.trans e1.symm
theorem pk_inj {x y : zEv} (hx : okE x) (hy : okE y) (h : pk x = pk y) : x = y := by
  obtain ⟨x1, x2, x3, x4⟩ := x
  obtain ⟨y1, y2, y3, y4⟩ := y
  unfold okE at hx hy
  unfold pk at h
  dsimp only at hx hy h
  have : x1 = y1 ∧ x2 = y2 ∧ x3 = y3 ∧ x4 = y4 := by
    by_cases q1 : x1 < 0
    · by_cases q2 : y1 < 0
      · rw [if_pos q1, if_pos q2] at h
        omega
      · rw [if_pos q1, if_neg q2] at h
        omega
    · by_cases q2 : y1 < 0
      · rw [if_neg q1, if_pos q2] at h
        omega
      · rw [if_neg q1, if_neg q2] at h
        omega
  obtain ⟨rfl, rfl, rfl, rfl⟩ := this
  rfl
theorem tkS_C (m' v' : Nat) : (tkS S m X).2.2.1 m' v' = if m' = m then X.2.2.1 0 v' else S.2.2.1 m' v' := rfl
theorem tkS_E (m' v' e' : Nat) : (tkS S m X).2.2.2 m' v' e' = if m' = m then X.2.2.2 0 v' e' else S.2.2.2 m' v' e' := rfl
theorem tkS_V (m' k' : Nat) : (tkS S m X).2.1 m' k' = if m' = m ∧ ¬ X.2.1 0 k' = -100 then X.2.1 0 k' else S.2.1 m' k' := rfl
theorem okS_tk (h : okS S) (hA : RDA X hk ht rd) (hB : RDB X rd) : okS (tkS S m X) := by
  obtain ⟨a1, a2, a3, a4, a5, a6, a7⟩ := hA
  refine ⟨⟨h.1.1, fun m' hm' => ⟨fun k' hk' => ?_, fun v' hv' => ⟨?_, fun e' he' => ?_⟩⟩⟩, fun m' hm' => ?_⟩
  · have hs := (h.1.2 m' hm').1 k' hk'
    rw [tkS_V]
    split
    · rcases (show k' = 0 ∨ k' = 1 ∨ k' = 2 ∨ k' = 3 ∨ k' = 4 ∨ k' = 5 ∨ k' = 6 by omega) with rfl | rfl | rfl | rfl | rfl | rfl | rfl
      · rcases a3 with g | g <;> omega
      · rcases a4 with g | g <;> omega
      · rcases a4 with g | g <;> omega
      · omega
      · omega
      · omega
      · omega
    · exact hs
  · rw [tkS_C]
    split
    · exact (hB v' hv').2.1
    · exact ((h.1.2 m' hm').2 v' hv').1
  · rw [tkS_C] at he'
    rw [tkS_E]
    by_cases q : m' = m
    · rw [if_pos q] at he' ⊢
      exact ((hB v' hv').2.2 e' he').2
    · rw [if_neg q] at he' ⊢
      exact ((h.1.2 m' hm').2 v' hv').2 e' he'
  · have hV := h.2 m' hm'
    unfold okV at hV ⊢
    by_cases q : m' = m
    · have e : ∀ k, (tkS S m X).2.1 m' k = if X.2.1 0 k = -100 then S.2.1 m' k else X.2.1 0 k := fun k => by
        rw [tkS_V]
        by_cases y : X.2.1 0 k = -100
        · rw [if_neg (fun z => z.2 y), if_pos y]
        · rw [if_pos ⟨q, y⟩, if_neg y]
      rw [e, e, e, e, e, e, e]
      refine ⟨?_, ?_, ?_, ?_, ?_, ?_, ?_⟩
      · split
        · exact hV.1
        · rcases a3 with g | g <;> omega
      · split
        · exact hV.2.1
        · rcases a4 with g | g <;> omega
      · split
        · exact hV.2.2.1
        · rcases a4 with g | g <;> omega
      · split
        · exact hV.2.2.2.1
        · omega
      · split
        · exact hV.2.2.2.2.1
        · omega
      · split
        · exact hV.2.2.2.2.2.1
        · omega
      · split
        · exact hV.2.2.2.2.2.2
        · omega
    · have e : ∀ k, (tkS S m X).2.1 m' k = S.2.1 m' k := fun k => if_neg (fun z => q z.1)
      rw [e, e, e, e, e, e, e]
      exact hV
theorem X4_takeDraft (h : okC S) (hR : RC S (iI S.1) cells) (hD : DR X dc) (hm : m < S.1) (hN : 200 ≤ N) : zT (f_X4_takeDraft N (iI S.1) cells (iI 1) dc (iI m)) (fun r => RC (tkS S m X) (iI S.1) r) := by
  have h1 := h.1
  obtain ⟨d1, d2, d3⟩ := hD
  have d3' : RC X (iI X.1) dc := by rw [d1]; exact d3
  have ev : f_X4_voiceCell N (iI S.1) (iI m) 0 = some (iI ((m : Int) * 57 + 7 + 0 * 25)) := by
    rw [iL0, X4_voiceCell h (zIn_ m (by omega)) (by unfold zInt; omega), if_pos (by omega)]
  have e57 : iI ((m : Int) * 57 + 7 + 0 * 25) = iI ((57 * m + 7 : Nat) : Int) := by congr 1 <;> omega
  unfold f_X4_takeDraft
  rw [z_be ev, if_neg (by rw [iL0, iI_lt (by omega) (by omega) (by omega) (by omega)]; omega), e57]
  refine zT_bind (zT_mono (P := fun c => (∀ m' k, m' < S.1 → k < 7 → c (57 * m' + k) = iI (if m' = m ∧ ¬ X.2.1 0 k = -100 then X.2.1 0 k else S.2.1 m' k)) ∧ ∀ m' a, 7 ≤ a → a < 57 → c (57 * m' + a) = cells (57 * m' + a)) (zT_loop (fun n z => ∃ j : Nat, j ≤ 7 ∧ n = 7 - j ∧ z.1 = iI j ∧ (∀ m' k, m' < S.1 → k < 7 → z.2 (57 * m' + k) = iI (if m' = m ∧ k < j ∧ ¬ X.2.1 0 k = -100 then X.2.1 0 k else S.2.1 m' k)) ∧ ∀ m' a, 7 ≤ a → a < 57 → z.2 (57 * m' + a) = cells (57 * m' + a)) ?_ N 7 _ (by omega) ⟨0, by omega, rfl, rfl, fun m' k hm' hk' => ?_, fun _ _ _ _ => rfl⟩) ?_)
  · rintro n ⟨z1, z2⟩ kk ⟨j, hj, rfl, rfl, hz, ho⟩ ih
    unfold f_X4_takeDraft_B15
    dsimp only at hz ho ⊢
    refine zT_ite (fun r => ?_) (fun r => ?_)
    · rw [iL7, iI_lt (by omega) (by omega) (by omega) (by omega)] at r
      have hj2 : j < 7 := by omega
      have e4 := X4_value_at (N := N) (m := 0) d2 d3' (by omega) hj2
      rw [d1] at e4
      have bx := (d2.2 0 (by omega)).1 j hj2
      have em : (iI (X.2.1 0 j) = -100) = (X.2.1 0 j = -100) := by
        rw [show (-100 : Int32) = iI (-100) from rfl, iI_eq (by omega) (by omega) (by omega) (by omega)]
      refine zT_bindE e4 ?_
      by_cases q : X.2.1 0 j = -100
      · rw [if_pos (by rw [em]; exact q)]
        refine zT_bindE rfl (zT_bindE rfl (ih (7 - (j + 1)) _ (by omega) ⟨j + 1, by omega, rfl, iIp1 _, fun m' k hm' hk' => ?_, ho⟩))
        dsimp only
        rw [hz m' k hm' hk']
        by_cases y : m' = m ∧ k < j ∧ ¬ X.2.1 0 k = -100
        · rw [if_pos y, if_pos ⟨y.1, by omega, y.2.2⟩]
        · by_cases y2 : k = j
          · rw [if_neg y, if_neg (fun z => z.2.2 (by rw [y2]; exact q))]
          · rw [if_neg y, if_neg (fun z => y ⟨z.1, by omega, z.2.2⟩)]
      · rw [if_neg (by rw [em]; exact q)]
        refine zT_bind (zT_bindE (X4_putValue h hm hj2 _) (zT_some (zT_bindE rfl (ih (7 - (j + 1)) _ (by omega) ⟨j + 1, by omega, rfl, iIp1 _, fun m' k hm' hk' => ?_, fun m' a ha1 ha2 => ?_⟩))))
        · dsimp only
          by_cases y2 : m' = m ∧ k = j
          · rw [upd_eq _ _ (by omega), if_pos ⟨y2.1, by omega, by rw [y2.2]; exact q⟩, y2.2]
          · rw [upd_ne _ _ (fun z => y2 (by have := of57 (by omega) (by omega) z; exact this)), hz m' k hm' hk']
            by_cases y : m' = m ∧ k < j ∧ ¬ X.2.1 0 k = -100
            · rw [if_pos y, if_pos ⟨y.1, by omega, y.2.2⟩]
            · rw [if_neg y, if_neg (fun z => y ⟨z.1, by have := z.2.1; omega, z.2.2⟩)]
        · dsimp only
          rw [upd_ne _ _ (fun z => by have := of57 (by omega) (by omega) z; omega)]
          exact ho m' a ha1 ha2
    · rw [iL7, iI_lt (by omega) (by omega) (by omega) (by omega)] at r
      obtain rfl : j = 7 := by omega
      refine zT_some ⟨fun m' k hm' hk' => ?_, ho⟩
      rw [hz m' k hm' hk']
      by_cases y : m' = m ∧ ¬ X.2.1 0 k = -100
      · rw [if_pos y, if_pos ⟨y.1, hk', y.2⟩]
      · rw [if_neg y, if_neg (fun z => y ⟨z.1, z.2.2⟩)]
  · dsimp only
    rw [if_neg (fun z => absurd z.2.1 (Nat.not_lt_zero _))]
    exact (hR.2 m' hm').1 k hk'
  · rintro c2 ⟨g1, g2⟩
    have ec : zCpy dc c2 912 912 7 (iI ((57 * m + 7 : Nat) : Int)) 50 = some (va_cpy dc c2 7 (57 * m + 7) 50) := by
      rw [iL7, iL50, zCpyI (by omega) (by omega) (by omega) (by omega) (by omega) (by omega) (by omega)]
      rfl
    refine zT_bindE ec (zT_some ⟨rfl, fun m' hm' => ⟨fun k' hk' => ?_, fun v' hv' => ⟨?_, fun e' he' => ?_⟩⟩⟩)
    · have hm2 : m' < S.1 := hm'
      rw [zcpy_at, if_neg (fun z => by
        have := of57 (m := m) (m' := m') (a := k') (b := 57 * m' + k' - 57 * m) (by omega) (by omega) (by omega)
        omega), g1 m' k' hm2 hk', tkS_V]
    · have hm2 : m' < S.1 := hm'
      rw [tkS_C, zcpy_at]
      by_cases q : m' = m
      · subst q
        have := ((d3.2 0 (by omega)).2 v' hv').1
        rw [if_pos (by omega), if_pos rfl, ← this]
        congr 1 <;> omega
      · rw [if_neg (fun z => by
          have := of57 (m := m) (m' := m') (a := 7 + 25 * v') (b := 57 * m' + 7 + 25 * v' - 57 * m) (by omega) (by omega) (by omega)
          omega), if_neg q]
        have := g2 m' (7 + 25 * v') (by omega) (by omega)
        rw [show 57 * m' + 7 + 25 * v' = 57 * m' + (7 + 25 * v') by omega, this]
        have := ((hR.2 m' hm2).2 v' hv').1
        rw [← this]
        congr 1 <;> omega
    · have hm2 : m' < S.1 := hm'
      rw [tkS_C] at he'
      rw [tkS_E, zcpy_at]
      by_cases q : m' = m
      · subst q
        rw [if_pos rfl] at he' ⊢
        have hC := okC_C d2 (m := 0) (v := v') (by omega) hv'
        have := ((d3.2 0 (by omega)).2 v' hv').2 e' he'
        rw [if_pos (by omega), ← this]
        congr 1 <;> omega
      · rw [if_neg q] at he' ⊢
        have hC := okC_C h hm2 hv'
        rw [if_neg (fun z => by
          have := of57 (m := m) (m' := m') (a := 8 + 25 * v' + e') (b := 57 * m' + 8 + 25 * v' + e' - 57 * m) (by omega) (by omega) (by omega)
          omega)]
        have := g2 m' (8 + 25 * v' + e') (by omega) (by omega)
        rw [show 57 * m' + 8 + 25 * v' + e' = 57 * m' + (8 + 25 * v' + e') by omega, this]
        have := ((hR.2 m' hm2).2 v' hv').2 e' he'
        rw [← this]
        congr 1 <;> omega
abbrev stP (hk ht : Int32) (k : Nat) : Prop := k = 3 ∨ (k = 0 ∧ hk = 0) ∨ ((k = 1 ∨ k = 2) ∧ ht = 0)
def tkM (m : Nat) (hk ht : Int32) (rd st : Nat → Int32) (i : Nat) : Int32 := if 201 * m + 1 ≤ i ∧ i < 201 * m + 202 ∧ ¬ stP hk ht (i - (201 * m + 1)) then rd (i - (201 * m + 1)) else st i
theorem RM_tk (h : okC S) (hR : RM S st) (hm : m < S.1) (hA : RDA X hk ht rd) (hB : RDB X rd) : RM (tkS S m X) (tkM m hk ht rd st) := by
  obtain ⟨a1, a2, a3, a4, a5, a6, a7⟩ := hA
  have far : ∀ m' o, m' ≠ m → o < 201 → tkM m hk ht rd st (201 * m' + 1 + o) = st (201 * m' + 1 + o) := by
    intro m' o hne ho
    unfold tkM
    rw [if_neg (fun z => by omega)]
  have new : ∀ o, o < 201 → ¬ stP hk ht o → tkM m hk ht rd st (201 * m + 1 + o) = rd o := by
    intro o ho hst
    unfold tkM
    rw [show 201 * m + 1 + o - (201 * m + 1) = o by omega, if_pos ⟨by omega, by omega, hst⟩]
  have old : ∀ o, stP hk ht o → tkM m hk ht rd st (201 * m + 1 + o) = st (201 * m + 1 + o) := by
    intro o hst
    unfold tkM
    rw [show 201 * m + 1 + o - (201 * m + 1) = o by omega, if_neg (fun z => z.2.2 hst)]
  refine ⟨?_, fun m' hm' => ⟨fun k' hk' => ?_, fun v' hv' => ⟨?_, fun e' he' => ?_⟩⟩⟩
  · unfold tkM
    rw [if_neg (by omega)]
    exact hR.1
  · have hm2 : m' < S.1 := hm'
    rw [tkS_V]
    by_cases q : m' = m
    · subst q
      have hsv := (hR.2 m' hm2).1 k' hk'
      rcases (show k' = 0 ∨ k' = 1 ∨ k' = 2 ∨ k' = 3 ∨ k' = 4 ∨ k' = 5 ∨ k' = 6 by omega) with rfl | rfl | rfl | rfl | rfl | rfl | rfl
      · rcases a3 with ⟨g1, g2, g3, g4⟩ | ⟨g1, g2⟩
        · rw [new 0 (by omega) (fun z => by rcases z with z | z | z <;> first | omega | (rw [g1] at z; exact absurd z.2 (by decide))), if_pos ⟨rfl, by omega⟩]
          exact g2
        · rw [old 0 (Or.inr (Or.inl ⟨rfl, g1⟩)), if_neg (fun z => z.2 g2)]
          exact hsv
      · rcases a4 with ⟨g1, g2, g3, g4, g5⟩ | ⟨g1, g2, g3⟩
        · rw [new 1 (by omega) (fun z => by rcases z with z | z | z <;> first | omega | (rw [g1] at z; exact absurd z.2 (by decide))), if_pos ⟨rfl, by omega⟩]
          exact g2
        · rw [old 1 (Or.inr (Or.inr ⟨Or.inl rfl, g1⟩)), if_neg (fun z => z.2 g2)]
          exact hsv
      · rcases a4 with ⟨g1, g2, g3, g4, g5⟩ | ⟨g1, g2, g3⟩
        · rw [new 2 (by omega) (fun z => by rcases z with z | z | z <;> first | omega | (rw [g1] at z; exact absurd z.2 (by decide))), if_pos ⟨rfl, by omega⟩]
          exact g3
        · rw [old 2 (Or.inr (Or.inr ⟨Or.inr rfl, g1⟩)), if_neg (fun z => z.2 g3)]
          exact hsv
      · rw [old 3 (Or.inl rfl), if_neg (fun z => z.2 a1)]
        exact hsv
      · rw [new 4 (by omega) (by omega), if_pos ⟨rfl, by omega⟩]
        exact a2.1
      · rw [new 5 (by omega) (by omega), if_pos ⟨rfl, by omega⟩]
        exact a2.2.1
      · rw [new 6 (by omega) (by omega), if_pos ⟨rfl, by omega⟩]
        exact a2.2.2
    · rw [far m' k' q (by omega), if_neg (fun z => q z.1)]
      exact (hR.2 m' hm2).1 k' hk'
  · have hm2 : m' < S.1 := hm'
    rw [tkS_C, show 201 * m' + 8 + v' = 201 * m' + 1 + (7 + v') by omega]
    by_cases q : m' = m
    · subst q
      rw [new (7 + v') (by omega) (by omega), if_pos rfl]
      exact (hB v' hv').1
    · rw [far m' (7 + v') q (by omega), if_neg q, show 201 * m' + 1 + (7 + v') = 201 * m' + 8 + v' by omega]
      exact ((hR.2 m' hm2).2 v' hv').1
  · have hm2 : m' < S.1 := hm'
    rw [tkS_C] at he'
    rw [tkS_E]
    by_cases q : m' = m
    · subst q
      rw [if_pos rfl] at he' ⊢
      obtain ⟨b1, b2, b3⟩ := hB v' hv'
      have g := (b3 e' he').1
      have hn : ∀ c, c < 4 → tkM m' hk ht rd st (201 * m' + 10 + 96 * v' + 4 * e' + c) = rd (9 + 96 * v' + 4 * e' + c) := fun c hc => by
        rw [show 201 * m' + 10 + 96 * v' + 4 * e' + c = 201 * m' + 1 + (9 + 96 * v' + 4 * e' + c) by omega]
        exact new _ (by omega) (by omega)
      have n0 := hn 0 (by omega)
      rw [Nat.add_zero, Nat.add_zero] at n0
      rw [n0, hn 1 (by omega), hn 2 (by omega), hn 3 (by omega)]
      exact g
    · rw [if_neg q] at he' ⊢
      have hC := okC_C h hm2 hv'
      have hn : ∀ c, c < 4 → tkM m hk ht rd st (201 * m' + 10 + 96 * v' + 4 * e' + c) = st (201 * m' + 10 + 96 * v' + 4 * e' + c) := fun c hc => by
        rw [show 201 * m' + 10 + 96 * v' + 4 * e' + c = 201 * m' + 1 + (9 + 96 * v' + 4 * e' + c) by omega]
        exact far m' _ q (by omega)
      have n0 := hn 0 (by omega)
      rw [Nat.add_zero] at n0
      rw [n0, hn 1 (by omega), hn 2 (by omega), hn 3 (by omega)]
      exact ((hR.2 m' hm2).2 v' hv').2 e' he'
theorem X10_ri49 {r4 : Int32 × Int32 × Int32 × Int32 × Int32 × Int32 × (Nat → Int32)} (hm : m < 16) (hhk : r4.2.2.1 = 0 ∨ r4.2.2.1 = 1) (hht : r4.2.2.2.1 = 0 ∨ r4.2.2.2.1 = 1) (hN : 700 ≤ N) : zT (zLoop (f_X10_readInto_B49 N r4 (1 + 201 * iI m)) N (0, st)) (fun r => r = tkM m r4.2.2.1 r4.2.2.2.1 r4.2.2.2.2.2.2 st) := by
  refine zT_loop (fun n z => ∃ j : Nat, j ≤ 201 ∧ n = 201 - j ∧ z.1 = iI j ∧ ∀ i, z.2 i = if i < 201 * m + 1 + j then tkM m r4.2.2.1 r4.2.2.2.1 r4.2.2.2.2.2.2 st i else st i) ?_ N 201 _ (by omega) ⟨0, by omega, rfl, rfl, fun i => ?_⟩
  · rintro n ⟨z1, z2⟩ kk ⟨j, hj, rfl, rfl, hz⟩ ih
    unfold f_X10_readInto_B49
    dsimp only at hz ⊢
    refine zT_ite (fun r => ?_) (fun r => ?_)
    · rw [iL201, iI_lt (by omega) (by omega) (by omega) (by omega)] at r
      have hj2 : j < 201 := by omega
      have hi : f_X10_in N (iI j) 1 2 = _ := X10_in (N := N) (x := j) (a := 1) (b := 2) (by unfold zInt; omega) (by unfold zInt; omega) (by unfold zInt; omega)
      have e3 : (iI (j : Int) = 3) = (j = 3) := by
        rw [iL3, iI_eq (by omega) (by omega) (by omega) (by omega)]
        exact propext ⟨fun h => by omega, fun h => by omega⟩
      have e0 : (iI (j : Int) = 0) = (j = 0) := by
        rw [iL0, iI_eq (by omega) (by omega) (by omega) (by omega)]
        exact propext ⟨fun h => by omega, fun h => by omega⟩
      have ej : f_X10_readInto_J72 N (iI (j : Int), z2) r4 = some (if (j = 1 ∨ j = 2) ∧ r4.2.2.2.1 = 0 then 1 else 0) := by
        unfold f_X10_readInto_J72
        rw [z_be hi]
        by_cases q : (1 : Int) ≤ j ∧ (j : Int) ≤ 2
        · rw [if_pos q, if_neg (show ¬ iI 1 = 0 from ne10)]
          by_cases q2 : r4.2.2.2.1 = 0
          · rw [if_pos q2, if_pos ⟨by omega, q2⟩]
          · rw [if_neg q2, if_neg (fun y => q2 y.2)]
        · rw [if_neg q, if_pos (show iI 0 = 0 from rfl), if_neg (fun y => q (by omega))]
      have es : (if iI (j : Int) = 3 then some (1 : Int32) else if iI (j : Int) = 0 then if r4.2.2.1 = 0 then some 1 else f_X10_readInto_J72 N (iI (j : Int), z2) r4 else f_X10_readInto_J72 N (iI (j : Int), z2) r4) = some (if stP r4.2.2.1 r4.2.2.2.1 j then 1 else 0) := by
        rw [ej]
        by_cases q3 : j = 3
        · rw [if_pos (by rw [e3]; exact q3), if_pos (Or.inl q3)]
        · rw [if_neg (by rw [e3]; exact q3)]
          by_cases q0 : j = 0
          · rw [if_pos (by rw [e0]; exact q0)]
            by_cases q2 : r4.2.2.1 = 0
            · rw [if_pos q2, if_pos (Or.inr (Or.inl ⟨q0, q2⟩))]
            · rw [if_neg q2, if_neg (fun y => by omega), if_neg (fun y => y.elim q3 (fun z => z.elim (fun z => q2 z.2) (fun z => by omega)))]
          · rw [if_neg (by rw [e0]; exact q0)]
            by_cases q1 : (j = 1 ∨ j = 2) ∧ r4.2.2.2.1 = 0
            · rw [if_pos q1, if_pos (Or.inr (Or.inr q1))]
            · rw [if_neg q1, if_neg (fun y => y.elim q3 (fun z => z.elim (fun z => q0 z.1) q1))]
      refine zT_bindE es ?_
      have ev : (if (if stP r4.2.2.1 r4.2.2.2.1 j then (1 : Int32) else 0) = 0 then Option.bind (zAld r4.2.2.2.2.2.2 201 (iI (j : Int))) (fun (x14_ : Int32) => some x14_) else Option.bind (zAld z2 3217 ((1 + 201 * iI (m : Int)) + iI (j : Int))) (fun (x15_ : Int32) => some x15_)) = some (tkM m r4.2.2.1 r4.2.2.2.1 r4.2.2.2.2.2.2 st (201 * m + 1 + j)) := by
        unfold tkM
        rw [show 201 * m + 1 + j - (201 * m + 1) = j by omega]
        by_cases q : stP r4.2.2.1 r4.2.2.2.1 j
        · rw [if_pos q, if_neg ne10, if_neg (fun z => z.2.2 q), baseI, zAldI (by omega) (by omega) (by omega), Int.toNat_natCast, z_sb, hz, if_neg (by omega)]
        · rw [if_neg q, if_pos rfl, if_pos ⟨by omega, by omega, q⟩, z_be (ld201 _ hj2)]
      refine zT_bindE ev ?_
      rw [baseI, zAstI (by omega) (by omega) (by omega), Int.toNat_natCast]
      refine zT_bindE rfl (zT_bindE rfl (ih (201 - (j + 1)) _ (by omega) ⟨j + 1, by omega, rfl, iIp1 _, fun i => ?_⟩))
      dsimp only
      rw [upd_at, hz]
      by_cases q : i = 201 * m + 1 + j
      · rw [if_pos q, if_pos (by omega), q]
      · rw [if_neg q]
        by_cases q2 : i < 201 * m + 1 + j
        · rw [if_pos q2, if_pos (by omega)]
        · rw [if_neg q2, if_neg (by omega)]
    · rw [iL201, iI_lt (by omega) (by omega) (by omega) (by omega)] at r
      obtain rfl : j = 201 := by omega
      refine zT_some (funext fun i => ?_)
      rw [hz]
      by_cases q : i < 201 * m + 1 + 201
      · rw [if_pos q]
      · rw [if_neg q]
        unfold tkM
        rw [if_neg (by omega)]
  · dsimp only
    by_cases q : i < 201 * m + 1 + 0
    · rw [if_pos q]
      unfold tkM
      rw [if_neg (by omega)]
    · rw [if_neg q]
theorem RDA_hk (h : RDA X hk ht rd) : (hk = 0 ∨ hk = 1) ∧ (ht = 0 ∨ ht = 1) := by
  obtain ⟨a1, a2, a3, a4, -⟩ := h
  exact ⟨a3.elim (fun g => Or.inr g.1) (fun g => Or.inl g.1), a4.elim (fun g => Or.inr g.1) (fun g => Or.inl g.1)⟩
theorem zk_readInto (hN : 20000 ≤ N) (hZ : zZ K M) (y1 : Int32) : zS_readInto N zZ K M y1 := by
  obtain ⟨S, hs, nx, L, T, h0, hk, hO, hC, hT, hH, hF, hX, hP, hS, hR⟩ := hZ
  obtain ⟨a1, rfl, hz1⟩ := iI_all y1
  obtain ⟨u1, u2, u3, u4, u5, u6⟩ := h0
  have h0 : zQ0 S hs nx L T := ⟨u1, u2, u3, u4, u5, u6⟩
  have e6 := hC.1
  have h1 := u1.1.1
  rw [e6] at hC
  have hTT : okT T L := ⟨u5, u6⟩
  unfold zS_readInto
  rw [hk.1, hk.2.1, hP.1, e6, hS, hT.1, hX.1]
  by_cases q : 0 ≤ a1 ∧ a1 < S.1
  · obtain ⟨m, rfl⟩ := Int.eq_ofNat_of_zero_le q.1
    have hm : m < S.1 := by omega
    obtain ⟨r, hr, r1, r2, r3, r4⟩ := X3_findFault (N := N) (a := K.2.2.2.1) (b := K.2.2.2.2.1) (c := K.2.2.2.2.2.1) (nb := K.2.2.2.2.2.2.2.2.2.2.2.2.2.2.2.1) (cells := K.2.2.2.2.2.2.2.2.2.2.2.2.2.2.2.2.2.2.2.2.2.2.2.2.2) (tb := K.2.2.2.2.2.2.2.2.2.2.2.2.2.2.2.2.2.2.2.2.1) hTT ⟨rfl, hT.2⟩ (by omega)
    obtain ⟨g, hg, hF2⟩ := X10_readsAll (N := N) (a := M.2.1) (hk := M.2.2.2.1) (ht := M.2.2.2.2.1) (nb := M.2.2.2.2.2.2.2.2.2.1) (b := M.2.2.2.2.2.2.2.2.2.2.2.2.1) (rd := M.2.2.2.2.2.2.2.2.2.2.2.2.2.2.2.2.1) (text := M.2.2.2.2.2.2.2.2.2.2.2.2.2.2.2.2.2.2.2) hTT ⟨rfl, hX.2⟩ (by omega)
    have ef := eqF (okP_fa hTT)
    have em := z_p1 q (X10_isMeasure (N := N) u1.1 hR hz1)
    rcases hF2 with ⟨m1, m2, m3, m4⟩ | ⟨m1, m2, m3⟩
    · obtain ⟨hkk, htt⟩ := RDA_hk m3
      obtain ⟨p, hp, p1, p2, p3⟩ := X1_push (N := N) (n0 := K.2.2.2.2.2.2.2.2.2.2.1) (n1 := K.2.2.2.2.2.2.2.2.2.2.2.1) (n2 := K.2.2.2.2.2.2.2.2.2.2.2.2.1) (n3 := K.2.2.2.2.2.2.2.2.2.2.2.2.2.1) (c0 := K.2.2.2.2.2.2.2.2.2.2.2.2.2.2.2.2.2.2.2.2.2.1) (c1 := K.2.2.2.2.2.2.2.2.2.2.2.2.2.2.2.2.2.2.2.2.2.2.1) (c2 := K.2.2.2.2.2.2.2.2.2.2.2.2.2.2.2.2.2.2.2.2.2.2.2.1) (c3 := K.2.2.2.2.2.2.2.2.2.2.2.2.2.2.2.2.2.2.2.2.2.2.2.2.1) u1.1 hC u4 u2 hk.2.2
      obtain ⟨d, hd, hdR⟩ := X4_takeDraft (N := N) u1.1 hC r4 hm (by omega)
      have hok' := okS_tk (m := m) u1 m3 m4
      obtain ⟨sg, hsg, s1, s2, s3⟩ := X9_settle (N := N) (S := tkS S m (faS T L).2.2) (pn := K.2.2.1) (pf := K.2.2.2.2.2.2.2.2.2.2.2.2.2.2.1) (held := K.2.2.2.2.2.2.2.2.2.2.2.2.2.2.2.2.2.2.1) (shifts := K.2.2.2.2.2.2.2.2.2.2.2.2.2.2.2.2.2.2.2.1) hok' hdR (by omega)
      have c0 := X4_count_at (N := N) (S := tkS S m (faS T L).2.2) (v := 0) hok'.1 hdR hm (by omega)
      have c1 := X4_count_at (N := N) (S := tkS S m (faS T L).2.2) (v := 1) hok'.1 hdR hm (by omega)
      obtain ⟨w, hw, w1, w2⟩ := X10_saves (N := N) u1 hR u3 u2 hP.2 (by omega)
      obtain ⟨t, ht, rfl⟩ := X10_ri49 (N := N) (m := m) (st := M.2.2.2.2.2.2.2.2.2.2.2.2.2.2.2.2.2.2.1) (r4 := g) (by omega) hkk htt (by omega)
      have hRM := RM_tk u1.1 hR hm m3 m4
      have o0 : f_X10_of N (tkM m g.2.2.1 g.2.2.2.1 g.2.2.2.2.2.2 M.2.2.2.2.2.2.2.2.2.2.2.2.2.2.2.2.2.2.1) (iI m) 7 = some (iI ((tkS S m (faS T L).2.2).2.2.1 m 0)) := X10_of_C (S := tkS S m (faS T L).2.2) hok'.1 hRM hm (v := 0) (a := 7) (by omega) rfl
      have o1 : f_X10_of N (tkM m g.2.2.1 g.2.2.2.1 g.2.2.2.2.2.2 M.2.2.2.2.2.2.2.2.2.2.2.2.2.2.2.2.2.2.1) (iI m) 8 = some (iI ((tkS S m (faS T L).2.2).2.2.1 m 1)) := X10_of_C (S := tkS S m (faS T L).2.2) hok'.1 hRM hm (v := 1) (a := 8) (by omega) rfl
      refine ⟨(iI ((tkS S m (faS T L).2.2).2.2.1 m 0) + iI ((tkS S m (faS T L).2.2).2.2.1 m 1), 0, g.2.1, g.2.2.1, g.2.2.2.1, g.2.2.2.2.1, w.1, g.2.2.2.2.2.1, w.2, g.2.2.2.2.2.2, tkM m g.2.2.1 g.2.2.2.1 g.2.2.2.2.2.2 M.2.2.2.2.2.2.2.2.2.2.2.2.2.2.2.2.2.2.1), ?_, Or.inl ⟨(iI ((tkS S m (faS T L).2.2).2.2.1 m 0) + iI ((tkS S m (faS T L).2.2).2.2.1 m 1), p.1, p.2.1, sg.1, r.2.1, r.2.2.1, r.2.2.2.1, p.2.2.1, p.2.2.2.1, p.2.2.2.2.1, p.2.2.2.2.2.1, sg.2.1, r.2.2.2.2.1, d, sg.2.2.1, sg.2.2.2, p.2.2.2.2.2.2.1, p.2.2.2.2.2.2.2.1, p.2.2.2.2.2.2.2.2.1, p.2.2.2.2.2.2.2.2.2, r.2.2.2.2.2), ?_, rfl, rfl, ⟨tkS S m (faS T L).2.2, (S :: hs).take 4, (nx + 1) % 4, L, T, ⟨hok', take4_le, take4_ok u1 u3, by omega, u5, u6⟩, ⟨p1, p2, p3⟩, s1, hdR, ⟨rfl, hT.2⟩, s2, s3, ⟨rfl, hX.2⟩, ⟨w1, w2⟩, rfl, hRM⟩⟩⟩
      · unfold f_X10_readInto
        rw [z_be em, if_neg ne10, z_sb, z_be (X10_ref0 _), if_pos (f00 0), z_be hg, if_neg (by rw [m2]; exact ne10), z_be hw, z_be (show f_X10_base N (iI m) = some (1 + 201 * iI m) from rfl), z_be ht, z_be o0, z_be o1]
      · unfold f_X9_readInto
        rw [zSub_rq (C_rqM u1.1 hz1), if_pos q, z_be hr, if_pos (by rw [r1, ef]; exact m1), z_be hp, z_be (show f_X3_draft N = some () from rfl), r3, z_be hd, z_be (show f_X9_settle N K.2.2.1 (iI S.1) _ _ _ _ = some sg from hsg)]
        rw [show f_X4_count N (iI S.1) d (iI m) 0 = _ from c0, z_sb, show f_X4_count N (iI S.1) d (iI m) 1 = _ from c1, z_sb]
    · refine ⟨(-2000 - g.2.1, 0, g.2.1, g.2.2.1, g.2.2.2.1, g.2.2.2.2.1, iI hs.length, g.2.2.2.2.2.1, M.2.2.2.2.2.2.2.2.2.2.2.2.2.2.1, g.2.2.2.2.2.2, M.2.2.2.2.2.2.2.2.2.2.2.2.2.2.2.2.2.2.1), ?_, Or.inl ⟨(-2000 - r.1, iI nx, iI hs.length, K.2.2.1, r.2.1, r.2.2.1, r.2.2.2.1, K.2.2.2.2.2.2.2.2.2.2.1, K.2.2.2.2.2.2.2.2.2.2.2.1, K.2.2.2.2.2.2.2.2.2.2.2.2.1, K.2.2.2.2.2.2.2.2.2.2.2.2.2.1, K.2.2.2.2.2.2.2.2.2.2.2.2.2.2.1, r.2.2.2.2.1, K.2.2.2.2.2.2.2.2.2.2.2.2.2.2.2.2.1, K.2.2.2.2.2.2.2.2.2.2.2.2.2.2.2.2.2.2.1, K.2.2.2.2.2.2.2.2.2.2.2.2.2.2.2.2.2.2.2.1, K.2.2.2.2.2.2.2.2.2.2.2.2.2.2.2.2.2.2.2.2.2.1, K.2.2.2.2.2.2.2.2.2.2.2.2.2.2.2.2.2.2.2.2.2.2.1, K.2.2.2.2.2.2.2.2.2.2.2.2.2.2.2.2.2.2.2.2.2.2.2.1, K.2.2.2.2.2.2.2.2.2.2.2.2.2.2.2.2.2.2.2.2.2.2.2.2.1, r.2.2.2.2.2), ?_, rfl, ?_, ⟨S, hs, nx, L, T, h0, ⟨rfl, rfl, hk.2.2⟩, hO, hC, ⟨rfl, hT.2⟩, hH, hF, ⟨rfl, hX.2⟩, ⟨rfl, hP.2⟩, rfl, hR⟩⟩⟩
      · unfold f_X10_readInto
        rw [z_be em, if_neg ne10, z_sb, z_be (X10_ref0 _), if_pos (f00 0), z_be hg, if_pos (by rw [m2])]
      · unfold f_X9_readInto
        rw [zSub_rq (C_rqM u1.1 hz1), if_pos q, z_be hr, if_neg (by rw [r1, ef]; exact m1)]
      · dsimp only
        rw [r1, m3]
  · refine ⟨(0, 1, M.2.1, M.2.2.2.1, M.2.2.2.2.1, M.2.2.2.2.2.2.2.2.2.1, iI hs.length, M.2.2.2.2.2.2.2.2.2.2.2.2.1, M.2.2.2.2.2.2.2.2.2.2.2.2.2.2.1, M.2.2.2.2.2.2.2.2.2.2.2.2.2.2.2.2.1, M.2.2.2.2.2.2.2.2.2.2.2.2.2.2.2.2.2.2.1), ?_, Or.inr ⟨?_, rfl, ⟨S, hs, nx, L, T, h0, hk, hO, ⟨e6, hC.2⟩, hT, hH, hF, ⟨rfl, hX.2⟩, ⟨rfl, hP.2⟩, rfl, hR⟩⟩⟩
    · unfold f_X10_readInto
      rw [z_be (z_p0 q (X10_isMeasure u1.1 hR hz1)), if_pos z00, z_sb, z_be (X10_ref1 _), if_neg (f10 1)]
    · unfold f_X9_readInto
      rw [zSub_rq (C_rqM u1.1 hz1), if_neg q]
end ZOB
