/-! ===== reading a text: the reference's voices and the whole ===== -/
section ZOA
variable {N L t w v k : Nat} {T : Nat → Int} {tb text cells rd : Nat → Int32} {a b c nb hk ht : Int32} {p : Nat × Nat} {s : pS} {lo hi : Int} {X : zSt} {x : zEv}
theorem RDV_add (h : RDV X rd v) (hC : X.2.2.1 0 v < 24) {rd' : Nat → Int32} (hv : v < 2) (ho : ∀ k, k < 9 + 96 * v + 4 * X.2.2.1 0 v ∨ 9 + 96 * v + 4 * X.2.2.1 0 v + 4 ≤ k → rd' k = rd k) (hx : okE x) (h4 : RD4 rd' (9 + 96 * v + 4 * X.2.2.1 0 v) x) : RDV (setAd X 0 v x) rd' v := by
  refine ⟨by rw [setAd_C]; omega, fun e he => ?_⟩
  rcases setAd_lt he with ⟨-, -, rfl⟩ | ⟨q1, q2⟩
  · unfold RDe
    rw [setAd_E]
    exact ⟨h4, hx⟩
  · have hne : e ≠ X.2.2.1 0 v := by omega
    obtain ⟨g1, g2⟩ := h.2 e q2
    unfold RDe at g1 ⊢
    rw [setAd_Ene q1, ho _ (Or.inl (by omega)), ho _ (Or.inl (by omega)), ho _ (Or.inl (by omega)), ho _ (Or.inl (by omega))]
    exact ⟨g1, g2⟩
theorem okP_p (h : okP T L s) : (iI s.2.1.1 = iI s.2.1.1) := rfl
theorem evL_f {n : Nat} (hs : s.1 ≠ -1000) : evL T L v n s = s := evL_no (fun y => hs y.1) n
/-- events of a voice, in the reference: from the state s on, which holds none of this voice -/
theorem X10_readsEvents (hT : okT T L) (hx : zTx L T (iI L) text) (h : okP T L s) (h0 : s.1 = -1000) (hv : v < 2) (hC : s.2.2.2.2.1 0 v = 0) (hA : RDA s.2.2 hk ht rd) (hB : ∀ v', v' < 2 → v' ≠ v → RDC s.2.2 rd v' ∧ RDV s.2.2 rd v') (hN : 700 ≤ N) : zT (f_X10_readsEvents N (iI s.2.1.1) (iI L) nb (iI s.2.1.2) rd zSp text (iI v)) (fun r => RP (esS T L v s) hk ht r.1 r.2.1 r.2.2.2.1 r.2.2.2.2) := by
  unfold f_X10_readsEvents esS
  have tgt : beP T s → evL T L v 24 s = evL T L v 23 (evS T L v s) := fun q => by
    show (if beP T s then _ else _) = _
    rw [if_pos q]
  refine zT_loop (P := fun (r : Int32 × Int32 × Int32 × Int32 × (Nat → Int32)) => RP (evL T L v 23 (evS T L v s)) hk ht r.1 r.2.1 r.2.2.2.1 r.2.2.2.2) (fun n (z : Int32 × Int32 × Int32 × Int32 × (Nat → Int32)) => ∃ (j : Nat) (u : pS), j ≤ 24 ∧ n = 24 - j ∧ z.1 = iI j ∧ z.2.1 = iI u.2.1.1 ∧ z.2.2.2.1 = iI u.2.1.2 ∧ okP T L u ∧ u.1 = -1000 ∧ u.2.2.2.2.1 0 v = j ∧ RDA u.2.2 hk ht z.2.2.2.2 ∧ (∀ v', v' < 2 → v' ≠ v → RDC u.2.2 z.2.2.2.2 v' ∧ RDV u.2.2 z.2.2.2.2 v') ∧ RDV u.2.2 z.2.2.2.2 v ∧ ((j = 0 ∧ u = s) ∨ (1 ≤ j ∧ evL T L v (24 - j) u = evL T L v 23 (evS T L v s)))) ?_ N 24 _ (by omega) ⟨0, s, by omega, rfl, rfl, rfl, rfl, h, h0, hC, hA, hB, ⟨by omega, fun e he => by omega⟩, Or.inl ⟨rfl, rfl⟩⟩
  rintro n ⟨z1, z2, z3, z4, z5⟩ kk ⟨j, u, hj, rfl, rfl, rfl, rfl, hu, hu0, huC, huA, huB, huV, htg⟩ ih
  unfold f_X10_readsEvents_B2
  dsimp only at huA huB huV ⊢
  have exit : ∀ (fr to : Int32), fr = iI u.2.1.1 → to = iI u.2.1.2 → (j < 24 → ¬ beP T u) → zT (f_X10_readsEvents_J48 N (iI v) (iI j) fr z3 to z5) (fun r => RP (evL T L v 23 (evS T L v s)) hk ht r.1 r.2.1 r.2.2.2.1 r.2.2.2.2) := by
    intro fr to hfr hto hnb
    subst hfr
    subst hto
    unfold f_X10_readsEvents_J48
    have e7 : (7 : Int32) + iI (v : Int) = iI ((7 + v : Nat) : Int) := iIn 7 v
    rw [e7]
    refine zT_bindE (st201 _ _ (by omega)) ?_
    rcases htg with ⟨rfl, rfl⟩ | ⟨hj1, ht⟩
    · have hnb' : ¬ beP T u := hnb (by omega)
      have e1 : evS T L v u = flS u := if_neg hnb'
      rw [if_neg (by rw [iL0, iI_lt (by omega) (by omega) (by omega) (by omega)]; omega), e1, evL_f (flS_f h), flS_0 h0]
      exact zT_some (Or.inr ⟨fl_ne _, rfl, rfl⟩)
    · have e1 : evL T L v (24 - j) u = u := by
        by_cases q : j < 24
        · exact evL_no (hnb q) _
        · rw [show 24 - j = 0 by omega] <;> rfl
      rw [if_pos (by rw [iL0, iI_lt (by omega) (by omega) (by omega) (by omega)]; omega), ← ht, e1]
      refine zT_some (Or.inl ⟨hu0, rfl, rfl, rfl, ?_, ?_⟩)
      · obtain ⟨a1, a2, a3, a4, a5⟩ := huA
        refine ⟨a1, ?_, ?_, ?_, a5⟩
        · dsimp only
          rw [upd_ne _ _ (by omega), upd_ne _ _ (by omega), upd_ne _ _ (by omega)]; exact a2
        · dsimp only
          rw [upd_ne _ _ (by omega)]; exact a3
        · dsimp only
          rw [upd_ne _ _ (by omega), upd_ne _ _ (by omega)]; exact a4
      · intro v' hv'
        have cv : ∀ {v'}, v' < 2 → RDV u.2.2 z5 v' → RDV u.2.2 (upd z5 (7 + v) (iI j)) v' := fun {v'} hv' g => ⟨g.1, fun e he => by
          obtain ⟨g1, g2⟩ := g.2 e he
          unfold RDe at g1 ⊢
          rw [upd_ne _ _ (by omega), upd_ne _ _ (by omega), upd_ne _ _ (by omega), upd_ne _ _ (by omega)]
          exact ⟨g1, g2⟩⟩
        by_cases q : v' = v
        · subst q
          refine ⟨?_, cv hv' huV⟩
          unfold RDC
          dsimp only
          rw [upd_eq _ _ rfl, huC]
        · obtain ⟨g1, g2⟩ := huB v' hv' q
          refine ⟨?_, cv hv' g2⟩
          unfold RDC at g1 ⊢
          dsimp only
          rw [upd_ne _ _ (by omega)]
          exact g1
  have go : ∀ (fr to : Int32), fr = iI u.2.1.1 → to = iI u.2.1.2 → j < 24 → beP T u → zT (f_X10_readsEvents_J22 N (iI L) (iI j, iI u.2.1.1, z3, iI u.2.1.2, z5) zSp text (iI v) kk fr to) (fun r => RP (evL T L v 23 (evS T L v s)) hk ht r.1 r.2.1 r.2.2.2.1 r.2.2.2.2) := by
    intro fr to hfr hto hj2 hbe
    subst hfr
    subst hto
    unfold f_X10_readsEvents_J22
    dsimp only
    have eat : ((9 : Int32) + 96 * iI (v : Int)) + 4 * iI (j : Int) = iI ((9 + 96 * v + 4 * j : Nat) : Int) := by
      rw [iL9, iL96, iL4, iI_mul, iI_mul, iI_add, iI_add]; congr 1
    have htg2 : evL T L v (24 - (j + 1)) (evS T L v u) = evL T L v 23 (evS T L v s) := by
      rcases htg with ⟨rfl, rfl⟩ | ⟨hj1, ht⟩
      · rfl
      · rw [show 24 - j = (24 - (j + 1)) + 1 by omega, evL, if_pos hbe] at ht
        exact ht
    rw [eat]
    refine zT_bind (zT_mono (X10_readsEvent (v := v) (j := 9 + 96 * v + 4 * j) (nb := z3) (rd := z5) hT hx hu hbe (by omega) hN) ?_)
    rintro ⟨r1, r2, r3, r4, r5⟩ hr
    dsimp only at hr ⊢
    rcases hr with ⟨m1, m2, m3, m4, m5, x, hx1, hx2, hx3⟩ | ⟨m1, m2, m3⟩
    · rw [m2, if_neg ne10]
      refine zT_bindE rfl (ih (24 - (j + 1)) _ (by omega) ⟨j + 1, evS T L v u, by omega, rfl, iIp1 _, m3, m4, okP_ev hT hu, m1, ?_, ?_, ?_, ?_, Or.inr ⟨by omega, htg2⟩⟩)
      · rw [hx3, setAd_C, huC]
      · rw [hx3]
        obtain ⟨a1, a2, a3, a4, a5⟩ := huA
        refine ⟨a1, ?_, ?_, ?_, a5⟩
        · dsimp only
          rw [m5 _ (Or.inl (by omega)), m5 _ (Or.inl (by omega)), m5 _ (Or.inl (by omega))]; exact a2
        · dsimp only
          rw [m5 _ (Or.inl (by omega))]; exact a3
        · dsimp only
          rw [m5 _ (Or.inl (by omega)), m5 _ (Or.inl (by omega))]; exact a4
      · intro v' hv' hne
        obtain ⟨g1, g2, g3⟩ := huB v' hv' hne
        rw [hx3]
        have e1 : (setAd u.2.2 0 v x).2.2.1 0 v' = u.2.2.2.2.1 0 v' := setAd_Cne (fun y => hne y.2)
        refine ⟨?_, ?_, fun e he => ?_⟩
        · unfold RDC at g1 ⊢
          dsimp only
          rw [e1, m5 _ (Or.inl (by omega))]
          exact g1
        · rw [e1]; exact g2
        · rw [e1] at he
          obtain ⟨k1, k2⟩ := g3 e he
          have e2 : (setAd u.2.2 0 v x).2.2.2 0 v' e = u.2.2.2.2.2 0 v' e := setAd_Ene (fun y => hne y.2.1)
          unfold RDe at k1 ⊢
          rw [e2]
          dsimp only
          rw [m5 _ (by omega), m5 _ (by omega), m5 _ (by omega), m5 _ (by omega)]
          exact ⟨k1, k2⟩
      · rw [hx3]
        refine RDV_add huV (by omega) hv ?_ hx1 ?_
        · rw [huC]; exact m5
        · rw [huC]; exact hx2
    · rw [m2, if_pos rfl]
      rw [evL_f m1] at htg2
      rw [← htg2]
      exact zT_some (Or.inr ⟨m1, rfl, m3⟩)
  refine zT_ite (fun r => ?_) (fun r => ?_)
  · rw [iL24, iI_lt (by omega) (by omega) (by omega) (by omega)] at r
    have hj2 : j < 24 := by omega
    refine zT_bindE (X10_isLetter hT hx hu.1) ?_
    by_cases q : 0 ≤ stpT T u.2.1
    · rw [if_pos q, if_neg (show ¬ iI 1 = 0 from ne10)]
      exact go _ _ rfl rfl hj2 ⟨hu0, Or.inl q⟩
    · rw [if_neg q, if_pos (show iI 0 = 0 from rfl)]
      have ew : f_X10_takesWord N (iI u.2.1.1) (iI L) (iI u.2.1.2) zSp text 10 = _ := X10_takesWord (w := 10) (y := 10) hT hx hu.1 (by omega) hN rfl
      have hb := tkP_b hT hu.1
      by_cases q2 : isW T u.2.1 10
      · have e4 : iI (u.2.1.1 : Int) + 4 = iI u.2.1.2 := by
          have := q2.1
          have h4 : (zwB 10).length = 4 := by decide
          rw [iL4, iI_add]; congr 1 <;> omega
        have er : f_X10_isRest N (iI u.2.1.1) (iI L) (iI u.2.1.2) zSp text = some (1, iI u.2.1.1, iI u.2.1.2) := by
          unfold f_X10_isRest
          rw [z_be ew]
          dsimp only
          rw [if_pos q2, if_neg (show ¬ iI 1 = 0 from ne10), z_sb, e4]
          rfl
        refine zT_bindE er ?_
        dsimp only
        rw [if_neg ne10]
        exact go _ _ rfl rfl hj2 ⟨hu0, Or.inr q2⟩
      · have er : f_X10_isRest N (iI u.2.1.1) (iI L) (iI u.2.1.2) zSp text = some (0, iI u.2.1.1, iI u.2.1.2) := by
          unfold f_X10_isRest
          rw [z_be ew]
          dsimp only
          rw [if_neg q2, if_neg q2, if_pos (show iI 0 = 0 from rfl), z_sb]
          rfl
        refine zT_bindE er ?_
        dsimp only
        rw [if_pos rfl]
        exact exit _ _ rfl rfl (fun _ y => y.2.elim q q2)
  · rw [iL24, iI_lt (by omega) (by omega) (by omega) (by omega)] at r
    exact exit _ _ rfl rfl (fun y => absurd y (by omega))
theorem v1S_f (hs : (tnS T L 1 2 (twS T L 9 s)).1 ≠ -1000) : v1S T L s = tnS T L 1 2 (twS T L 9 s) := esS_1 hs
theorem X10_readsVoices (hT : okT T L) (hx : zTx L T (iI L) text) (h : okP T L s) (h0 : s.1 = -1000) (hC : ∀ v, v < 2 → s.2.2.2.2.1 0 v = 0) (hA : RDA s.2.2 hk ht rd) (hB : RDB s.2.2 rd) (hN : 700 ≤ N) : zT (f_X10_readsVoices N (iI s.2.1.1) (iI L) nb (iI s.2.1.2) rd zSp text) (fun r => RP (voS T L s) hk ht r.1 r.2.1 r.2.2.2.1 r.2.2.2.2) := by
  obtain ⟨n, rfl⟩ : ∃ n, N = n + 3 := ⟨N - 3, by omega⟩
  unfold f_X10_readsVoices
  show zT (f_X10_readsVoices_B2 (n + 3) (iI L) zSp text (zLoop (f_X10_readsVoices_B2 (n + 3) (iI L) zSp text) (n + 2)) _) _
  unfold f_X10_readsVoices_B2
  dsimp only
  rw [if_pos (by decide)]
  have e9 : f_X10_takesWord (n + 3) (iI s.2.1.1) (iI L) (iI s.2.1.2) zSp text 9 = _ := R_takesWord (w := 9) (y := 9) hT hx h h0 (by omega) hN rfl
  refine zT_bindE e9 ?_
  dsimp only
  unfold voS
  by_cases q : twP T 9 s
  · rw [if_pos q, if_pos q, if_neg (show ¬ iI 1 = 0 from ne10)]
    have h1 := okP_tw (w := 9) h
    have h01 : (twS T L 9 s).1 = -1000 := by rw [twS_1]; exact h0
    have en : f_X10_takesNumber (n + 3) (iI (twS T L 9 s).2.1.1) (iI L) nb (iI (twS T L 9 s).2.1.2) text 1 2 = _ := R_takesNumber (lo := 1) (hi := 2) (nb := nb) hT hx h1 h01 (by unfold zInt; omega) (by unfold zInt; omega) hN
    refine zT_bindE en ?_
    dsimp only
    have h2 := okP_tn (lo := 1) (hi := 2) hT h1
    by_cases q2 : tnP T 1 2 (twS T L 9 s)
    · have hq := q2.2
      have hv := tnV_1 q2
      rw [if_pos q2, if_neg (show ¬ iI 1 = 0 from ne10)]
      have h02 : (tnS T L 1 2 (twS T L 9 s)).1 = -1000 := by rw [tnS_pos q2]; exact h01
      have hX2 : (tnS T L 1 2 (twS T L 9 s)).2.2 = s.2.2 := by rw [tnS_X, twS_X]
      obtain ⟨f, hf⟩ : ∃ f : Nat, numT T (twS T L 9 s).2.1 = (f : Int) + 1 := ⟨(numT T (twS T L 9 s).2.1 - 1).toNat, by omega⟩
      have hf2 : f < 2 := by omega
      have ef : (tnV T 1 2 (twS T L 9 s) - 1).toNat = f := by omega
      have ev1 : v1S T L s = esS T L f (tnS T L 1 2 (twS T L 9 s)) := by unfold v1S; rw [ef]
      have e1 : iI (numT T (twS T L 9 s).2.1) - 1 = iI (f : Int) := by rw [hf, iIs1]; congr 1 <;> omega
      have e2 : iI (numT T (twS T L 9 s).2.1) + 1 = iI (((f + 2 : Nat)) : Int) := by rw [hf, iIp1]; congr 1
      refine zT_bindE rfl (zT_bindE rfl ?_)
      rw [e1, e2]
      refine zT_bind (zT_mono (X10_readsEvents (v := f) (hk := hk) (ht := ht) (rd := rd) hT hx h2 h02 hf2 (by rw [hX2]; exact hC f hf2) (by rw [hX2]; exact hA) (fun v' hv' _ => by rw [hX2]; exact hB v' hv') hN) ?_)
      rintro ⟨r1, r2, r3, r4, r5⟩ hr
      rw [← ev1] at hr
      have h3 : okP T L (v1S T L s) := okP_es hT h2
      dsimp only at hr ⊢
      rcases hr with ⟨m1, m2, m3, m4, m5, m6⟩ | ⟨m1, m2, m3⟩
      · rw [m2, if_neg ne10, m3, m4]
        show zT (f_X10_readsVoices_B2 (n + 3) (iI L) zSp text (zLoop (f_X10_readsVoices_B2 (n + 3) (iI L) zSp text) (n + 1)) _) _
        unfold f_X10_readsVoices_B2
        dsimp only
        by_cases q3 : f = 0
        · subst q3
          have hv1 : tnV T 1 2 (twS T L 9 s) = 1 := by omega
          have hC3 : (v1S T L s).2.2.2.2.1 0 1 = 0 := by
            rw [ev1, esS_C (by omega), hX2]
            exact hC 1 (by omega)
          generalize v1S T L s = s1 at m1 m5 m6 h3 hC3 ⊢
          rw [if_pos (by decide)]
          have e9 : f_X10_takesWord (n + 3) (iI s1.2.1.1) (iI L) (iI s1.2.1.2) zSp text 9 = _ := R_takesWord (w := 9) (y := 9) hT hx h3 m1 (by omega) hN rfl
          refine zT_bindE e9 ?_
          dsimp only
          by_cases q4 : twP T 9 s1
          · rw [if_pos q4, if_pos (show tnV T 1 2 (twS T L 9 s) = 1 ∧ twP T 9 s1 from ⟨hv1, q4⟩), if_neg (show ¬ iI 1 = 0 from ne10)]
            have h4 := okP_tw (w := 9) h3
            have h04 : (twS T L 9 s1).1 = -1000 := by rw [twS_1]; exact m1
            have en : f_X10_takesNumber (n + 3) (iI (twS T L 9 s1).2.1.1) (iI L) r3 (iI (twS T L 9 s1).2.1.2) text (iI ((0 + 2 : Nat) : Int)) 2 = _ := R_takesNumber (lo := 2) (hi := 2) (nb := r3) hT hx h4 h04 (by unfold zInt; omega) (by unfold zInt; omega) hN
            refine zT_bindE en ?_
            dsimp only
            have h5 := okP_tn (lo := 2) (hi := 2) hT h4
            by_cases q5 : tnP T 2 2 (twS T L 9 s1)
            · have hq5 := q5.2
              have hv5 := tnV_1 q5
              rw [if_pos q5, if_neg (show ¬ iI 1 = 0 from ne10)]
              have h05 : (tnS T L 2 2 (twS T L 9 s1)).1 = -1000 := by rw [tnS_pos q5]; exact h04
              have hX5 : (tnS T L 2 2 (twS T L 9 s1)).2.2 = s1.2.2 := by rw [tnS_X, twS_X]
              have ev2 : v2S T L s1 = esS T L 1 (tnS T L 2 2 (twS T L 9 s1)) := by
                unfold v2S
                rw [show (tnV T 2 2 (twS T L 9 s1) - 1).toNat = 1 by omega]
              have e1 : iI (numT T (twS T L 9 s1).2.1) - 1 = iI ((1 : Nat) : Int) := by rw [iIs1]; congr 1 <;> omega
              have e2 : iI (numT T (twS T L 9 s1).2.1) + 1 = iI ((3 : Nat) : Int) := by rw [iIp1]; congr 1 <;> omega
              refine zT_bindE rfl (zT_bindE rfl ?_)
              rw [e1, e2]
              refine zT_bind (zT_mono (X10_readsEvents (v := 1) (hk := hk) (ht := ht) (rd := r5) hT hx h5 h05 (by omega) (by rw [hX5]; exact hC3) (by rw [hX5]; exact m5) (fun v' hv' _ => by rw [hX5]; exact m6 v' hv') hN) ?_)
              rintro ⟨u1, u2, u3, u4, u5⟩ hu
              rw [← ev2] at hu
              dsimp only at hu ⊢
              rcases hu with ⟨k1, k2, k3, k4, k5, k6⟩ | ⟨k1, k2, k3⟩
              · rw [k2, if_neg ne10]
                show zT (f_X10_readsVoices_B2 (n + 3) (iI L) zSp text (zLoop (f_X10_readsVoices_B2 (n + 3) (iI L) zSp text) n) _) _
                unfold f_X10_readsVoices_B2
                dsimp only
                rw [if_neg (by decide)]
                exact zT_some (Or.inl ⟨k1, rfl, k3, k4, k5, k6⟩)
              · rw [k2, if_pos rfl]
                exact zT_some (Or.inr ⟨k1, rfl, k3⟩)
            · have hf5 : (flS (twS T L 9 s1)).1 ≠ -1000 := flS_f h4
              have ev2 : v2S T L s1 = flS (twS T L 9 s1) := by
                unfold v2S
                rw [tnS_neg q5, esS_1 hf5]
              rw [if_neg q5, if_pos (show iI 0 = 0 from rfl), tnS_neg q5, ev2, flS_0 h04]
              exact zT_some (Or.inr ⟨fl_ne _, rfl, rfl⟩)
          · rw [if_neg q4, if_neg (show ¬ (tnV T 1 2 (twS T L 9 s) = 1 ∧ twP T 9 s1) from fun y => q4 y.2), if_pos (show iI 0 = 0 from rfl), twS_neg q4]
            exact zT_some (Or.inl ⟨m1, rfl, rfl, rfl, m5, m6⟩)
        · obtain rfl : f = 1 := by omega
          rw [if_neg (by decide), if_neg (fun y => by have := y.1; omega)]
          exact zT_some (Or.inl ⟨m1, rfl, rfl, rfl, m5, m6⟩)
      · rw [m2, if_pos rfl, if_neg (fun y => m1 y.2.1)]
        exact zT_some (Or.inr ⟨m1, rfl, m3⟩)
    · have hf2 : (flS (twS T L 9 s)).1 ≠ -1000 := flS_f h1
      have ev1 : v1S T L s = flS (twS T L 9 s) := by
        unfold v1S
        rw [tnS_neg q2, esS_1 hf2]
      rw [if_neg q2, if_pos (show iI 0 = 0 from rfl), tnS_neg q2, ev1, if_neg (fun y => hf2 y.2.1), flS_0 h01]
      exact zT_some (Or.inr ⟨fl_ne _, rfl, rfl⟩)
  · rw [if_neg q, if_neg q, if_pos (show iI 0 = 0 from rfl), twS_neg q]
    exact zT_some (Or.inl ⟨h0, rfl, rfl, rfl, hA, hB⟩)
theorem h4S_1 (hs : s.1 ≠ -1000) : h4S T L s = s := if_neg (fun y => hs y.1)
theorem h5S_1 (hs : s.1 ≠ -1000) : h5S T L s = s := if_neg (fun y => hs y.1)
theorem h6S_1 (hs : s.1 ≠ -1000) : h6S T L s = s := if_neg (fun y => hs y.1)
theorem voS_1 (hs : s.1 ≠ -1000) : voS T L s = s := if_neg (fun y => hs y.1)
theorem bkS_1 (hs : s.1 ≠ -1000) : bkS T L s = s := if_neg (fun y => hs y.1)
theorem enS_1 (hs : s.1 ≠ -1000) : enS T L s = s := by
  have e : ndS T L 19 s = s := by
    unfold ndS
    rw [if_neg (fun y => hs y.1), flS_1 hs]
  unfold enS
  rw [e, flS_1 hs]
  split <;> rfl
def tlS (T : Nat → Int) (L : Nat) (s : pS) : pS := enS T L (bkS T L (voS T L s))
theorem tlS_1 (hs : s.1 ≠ -1000) : tlS T L s = s := by
  unfold tlS
  rw [voS_1 hs, bkS_1 hs, enS_1 hs]
/-- the outcome of reading it all -/
def RF (u : pS) (hk ht ok fr : Int32) (rd : Nat → Int32) : Prop := (u.1 = -1000 ∧ ok = 1 ∧ RDA u.2.2 hk ht rd ∧ RDB u.2.2 rd) ∨ (u.1 ≠ -1000 ∧ ok = 0 ∧ fr = iI u.1)
theorem X10_J123 (hT : okT T L) (hx : zTx L T (iI L) text) (h : okP T L s) (h0 : s.1 = -1000) (hC : ∀ v, v < 2 → s.2.2.2.2.1 0 v = 0) (hA : RDA s.2.2 hk ht rd) (hB : RDB s.2.2 rd) (hN : 700 ≤ N) : zT (f_X10_readsAll_J123 N (iI L) zSp text hk (iI s.2.1.1) ht nb (iI s.2.1.2) rd) (fun r => RF (tlS T L s) r.2.2.1 r.2.2.2.1 r.1 r.2.1 r.2.2.2.2.2.2) := by
  unfold f_X10_readsAll_J123 tlS
  refine zT_bind (zT_mono (X10_readsVoices (nb := nb) hT hx h h0 hC hA hB hN) ?_)
  have h1 := okP_vo hT h
  generalize voS T L s = s at h1 ⊢
  rintro ⟨r1, r2, r3, r4, r5⟩ hr
  dsimp only at hr ⊢
  rcases hr with ⟨m1, m2, m3, m4, m5, m6⟩ | ⟨m1, m2, m3⟩
  · rw [m2, if_neg ne10, m3, m4]
    refine zT_bind (zT_mono (X10_readsBack (nb := r3) hT hx h1 m1 m5 m6 hN) ?_)
    have h2 : okP T L (bkS T L s) := by
      unfold bkS
      split
      · exact okP_tn hT (okP_tw h1)
      · exact h1
    generalize bkS T L s = s at h2 ⊢
    rintro ⟨r1, r2, r3, r4, r5⟩ hr
    dsimp only at hr ⊢
    rcases hr with ⟨m1, m2, m3, m4, m5, m6⟩ | ⟨m1, m2, m3⟩
    · rw [m2, if_neg ne10, m3, m4]
      have ew : f_X10_takesWord N (iI s.2.1.1) (iI L) (iI s.2.1.2) zSp text 19 = _ := R_takesWord (w := 19) (y := 19) hT hx h2 m1 (by omega) hN rfl
      refine zT_bindE ew ?_
      dsimp only
      unfold enS ndS
      by_cases q : twP T 19 s
      · have h3 := okP_tw (w := 19) h2
        have h03 : (twS T L 19 s).1 = -1000 := by rw [twS_1]; exact m1
        have hX3 : (twS T L 19 s).2.2 = s.2.2 := twS_X 19 s
        have hb := tkP_b hT h3.1
        have hk4 := h3.1.2.2.2
        have hk2 := h3.1.2.1
        have hL1 := hT.1
        rw [if_pos q, if_pos q, if_neg (show ¬ iI 1 = 0 from ne10)]
        by_cases q2 : (twS T L 19 s).2.1.1 < (twS T L 19 s).2.1.2
        · rw [if_neg (by rw [iI_eq (by omega) (by omega) (by omega) (by omega)]; omega), if_pos q2, flS_0 h03]
          exact zT_some (Or.inr ⟨fl_ne _, rfl, rfl⟩)
        · rw [if_pos (by congr 1 <;> omega), if_neg q2]
          exact zT_some (Or.inl ⟨h03, rfl, by rw [hX3]; exact m5, by rw [hX3]; exact m6⟩)
      · rw [if_neg q, if_neg q, if_pos (show iI 0 = 0 from rfl), twS_neg q]
        have hf := flS_f h2
        have e1 : (if (flS s).2.1.1 < (flS s).2.1.2 then flS (flS s) else flS s) = flS s := by
          split
          · exact flS_1 hf
          · rfl
        rw [e1, flS_0 m1]
        exact zT_some (Or.inr ⟨fl_ne _, rfl, rfl⟩)
    · rw [m2, if_pos rfl, enS_1 m1]
      exact zT_some (Or.inr ⟨m1, rfl, m3⟩)
  · rw [m2, if_pos rfl, bkS_1 m1, enS_1 m1]
    exact zT_some (Or.inr ⟨m1, rfl, m3⟩)
theorem X10_J105 (hT : okT T L) (hx : zTx L T (iI L) text) (h : okP T L s) (h0 : s.1 = -1000) (hC : ∀ v, v < 2 → s.2.2.2.2.1 0 v = 0) (hA : RDA s.2.2 hk 0 rd) (hB : RDB s.2.2 rd) (hN : 700 ≤ N) : zT (f_X10_readsAll_J105 N (iI L) zSp text (iI s.2.1.1) hk nb (iI s.2.1.2) rd) (fun r => RF (tlS T L (h6S T L s)) r.2.2.1 r.2.2.2.1 r.1 r.2.1 r.2.2.2.2.2.2) := by
  unfold f_X10_readsAll_J105
  have ew : f_X10_takesWord N (iI s.2.1.1) (iI L) (iI s.2.1.2) zSp text 8 = _ := R_takesWord (w := 8) (y := 8) hT hx h h0 (by omega) hN rfl
  refine zT_bindE ew ?_
  dsimp only
  by_cases q : twP T 8 s
  · have h1 := okP_tw (w := 8) h
    have h01 : (twS T L 8 s).1 = -1000 := by rw [twS_1]; exact h0
    have hX1 : (twS T L 8 s).2.2 = s.2.2 := twS_X 8 s
    have h6 : h6S T L s = wX (loP T L (h6U T L s)).2 (setV (h6U T L s).2.2 0 2 (loP T L (h6U T L s)).1) := if_pos q
    have h6o : okP T L (h6S T L s) := okP_h6 hT h
    have h6C : ∀ v, v < 2 → (h6S T L s).2.2.2.2.1 0 v = 0 := fun v hv => by rw [h6]; exact hC v hv
    rw [if_pos q, if_neg (show ¬ iI 1 = 0 from ne10)]
    refine zT_bind (zT_mono (X10_readsTime (a := 0) (nb := nb) (hk := hk) (ht := 0) (rd := rd) hT hx h1 h01 (by rw [hX1]; exact hA) (by rw [hX1]; exact hB) hN) ?_)
    rintro ⟨r1, r2, r3, r4, r5, r6⟩ ⟨g1, hr0⟩
    rw [hX1] at hr0
    have hr : RP (h6S T L s) hk 1 r1 r2 r5 r6 := by rw [h6]; exact hr0
    clear hr0
    dsimp only at g1 ⊢
    subst g1
    rcases hr with ⟨m1, m2, m3, m4, m5, m6⟩ | ⟨m1, m2, m3⟩
    · subst m2
      subst m3
      subst m4
      rw [if_neg ne10]
      exact X10_J123 hT hx h6o m1 h6C m5 m6 hN
    · subst m2
      rw [if_pos rfl, tlS_1 m1]
      exact zT_some (Or.inr ⟨m1, rfl, m3⟩)
  · have h6 : h6S T L s = s := if_neg q
    rw [if_neg q, if_pos (show iI 0 = 0 from rfl), twS_neg q, h6]
    exact X10_J123 hT hx h h0 hC hA hB hN
theorem X10_readsAll (hT : okT T L) (hx : zTx L T (iI L) text) (hN : 700 ≤ N) : zT (f_X10_readsAll N a hk ht (iI L) nb b rd zSp text) (fun r => RF (faS T L) r.2.2.1 r.2.2.2.1 r.1 r.2.1 r.2.2.2.2.2.2) := by
  have ef : faS T L = tlS T L (hdT T L (-1000, adv T L 0, drS0)) := rfl
  rw [ef]
  unfold f_X10_readsAll hdT
  refine zT_bind (zT_mono (P := fun r => ∀ k, k < 201 → r k = 0) (zT_loop (fun n z => ∃ j : Nat, j ≤ 201 ∧ n = 201 - j ∧ z.1 = iI j ∧ ∀ k, k < j → z.2 k = 0) ?_ N 201 _ (by omega) ⟨0, by omega, rfl, rfl, fun k hk => absurd hk (Nat.not_lt_zero k)⟩) ?_)
  · rintro n ⟨z1, z2⟩ kk ⟨j, hj, rfl, rfl, hz⟩ ih
    unfold f_X10_readsAll_B2
    dsimp only at hz ⊢
    refine zT_ite (fun r => ?_) (fun r => ?_)
    · rw [iL201, iI_lt (by omega) (by omega) (by omega) (by omega)] at r
      refine zT_bindE (st201 _ _ (by omega)) (zT_bindE rfl (ih (201 - (j + 1)) _ (by omega) ⟨j + 1, by omega, rfl, iIp1 _, fun k hk => ?_⟩))
      dsimp only
      rw [upd_at]
      by_cases e : k = j
      · rw [if_pos e]
      · rw [if_neg e]; exact hz k (by omega)
    · rw [iL201, iI_lt (by omega) (by omega) (by omega) (by omega)] at r
      obtain rfl : j = 201 := by omega
      exact zT_some hz
  intro z hz
  have e0 : f_X10_next N a (iI L) 0 text = _ := X10_next (t := 0) hT hx (by omega) hN
  refine zT_bindE e0 ?_
  have h0 : okP T L (-1000, adv T L 0, drS0) := ⟨adv_ok (by omega), by dsimp only; omega, by dsimp only; omega⟩
  have hA0 : RDA drS0 0 0 z := by
    have v : ∀ k, drS0.2.1 0 k = if k = 3 then -100 else if k = 2 then -100 else if k = 1 then -100 else if k = 0 then -100 else 0 := by
      intro k
      unfold drS0 drJ drJ drJ drJ drJ setV
      dsimp only
      rw [nwS_V]
      by_cases q3 : k = 3
      · rw [if_pos ⟨rfl, q3⟩, if_pos q3]
      · rw [if_neg (fun y => q3 y.2), if_neg q3]
        by_cases q2 : k = 2
        · rw [if_pos ⟨rfl, q2⟩, if_pos q2]
        · rw [if_neg (fun y => q2 y.2), if_neg q2]
          by_cases q1 : k = 1
          · rw [if_pos ⟨rfl, q1⟩, if_pos q1]
          · rw [if_neg (fun y => q1 y.2), if_neg q1]
            by_cases q0 : k = 0
            · rw [if_pos ⟨rfl, q0⟩, if_pos q0]
            · rw [if_neg (fun y => q0 y.2), if_neg q0, if_pos rfl, if_neg (by omega)]
    unfold RDA
    rw [v, v, v, v, v, v, v, hz _ (by omega), hz _ (by omega), hz _ (by omega)]
    exact ⟨rfl, ⟨rfl, rfl, rfl⟩, Or.inr ⟨rfl, rfl⟩, Or.inr ⟨rfl, rfl, rfl⟩, Or.inl rfl, Or.inl rfl, by decide, by decide⟩
  have hC0 : ∀ v, drS0.2.2.1 0 v = 0 := fun v => rfl
  have hB0 : RDB drS0 z := fun v hv => ⟨by unfold RDC; rw [hC0, hz _ (by omega)] <;> rfl, by rw [hC0]; omega, fun e he => by rw [hC0] at he; omega⟩
  generalize drS0 = X0 at h0 hA0 hC0 hB0 ⊢
  have hs0 : ((-1000, adv T L 0, X0) : pS).1 = -1000 := rfl
  have ew : f_X10_takesWord N (iI (adv T L 0).1) (iI L) (iI (adv T L 0).2) zSp text 0 = _ := R_takesWord (s := (-1000, adv T L 0, X0)) (w := 0) (y := 0) hT hx h0 hs0 (by omega) hN rfl
  refine zT_bindE ew ?_
  dsimp only
  have hX0 : ((-1000, adv T L 0, X0) : pS).2.2 = X0 := rfl
  generalize ((-1000, adv T L 0, X0) : pS) = s at h0 hs0 hX0 ⊢
  unfold ndS
  by_cases q : twP T 0 s
  · rw [if_pos q, if_pos q, if_neg (show ¬ iI 1 = 0 from ne10)]
    have h1 := okP_tw (w := 0) h0
    have h01 : (twS T L 0 s).1 = -1000 := by rw [twS_1]; exact hs0
    have en : f_X10_takesNumber N (iI (twS T L 0 s).2.1.1) (iI L) nb (iI (twS T L 0 s).2.1.2) text 0 999 = _ := R_takesNumber (lo := 0) (hi := 999) (nb := nb) hT hx h1 h01 (by unfold zInt; omega) (by unfold zInt; omega) hN
    refine zT_bindE en ?_
    dsimp only
    have h2 := okP_tn (lo := 0) (hi := 999) hT h1
    by_cases q2 : tnP T 0 999 (twS T L 0 s)
    · rw [if_pos q2, if_neg (show ¬ iI 1 = 0 from ne10)]
      have h02 : (tnS T L 0 999 (twS T L 0 s)).1 = -1000 := by rw [tnS_pos q2]; exact h01
      have hX2 : (tnS T L 0 999 (twS T L 0 s)).2.2 = X0 := by rw [tnS_X, twS_X, hX0]
      generalize tnS T L 0 999 (twS T L 0 s) = s at h2 h02 hX2 ⊢
      have e1 : f_X10_takesWord N (iI s.2.1.1) (iI L) (iI s.2.1.2) zSp text 1 = _ := R_takesWord (w := 1) (y := 1) hT hx h2 h02 (by omega) hN rfl
      refine zT_bindE e1 ?_
      dsimp only
      have e4 : (if iI (if twP T 1 s then 1 else 0) = 0 then some (0 : Int32) else some 1) = some (iI (if twP T 1 s then 1 else 0)) := by
        by_cases q : twP T 1 s
        · rw [if_pos q, if_neg (show ¬ iI 1 = 0 from ne10)] <;> rfl
        · rw [if_neg q, if_pos (show iI 0 = 0 from rfl)] <;> rfl
      refine zT_bindE e4 (zT_bindE (st201 (j := 4) _ _ (by omega)) ?_)
      have hA3 : RDA (h3S T L s).2.2 0 0 (upd z 4 (iI (if twP T 1 s then 1 else 0))) := by
        show RDA (setV s.2.2 0 4 _) 0 0 _
        rw [hX2]
        exact RDA_4 hA0 (by split <;> omega)
      have hB3 : RDB (h3S T L s).2.2 (upd z 4 (iI (if twP T 1 s then 1 else 0))) := by
        show RDB (setV s.2.2 0 4 _) _
        rw [hX2]
        exact RDB_setV hB0 (by omega)
      have hC3 : ∀ v, (h3S T L s).2.2.2.2.1 0 v = 0 := fun v => by
        show s.2.2.2.2.1 0 v = 0
        rw [hX2]; exact hC0 v
      have h3 := okP_h3 h2
      have h03 : (h3S T L s).1 = -1000 := by show (twS T L 1 s).1 = _; rw [twS_1]; exact h02
      show zT (Option.bind (f_X10_readsEnding N (iI (h3S T L s).2.1.1) (iI L) _ (iI (h3S T L s).2.1.2) _ zSp text) _) _
      generalize upd z 4 (iI (if twP T 1 s then 1 else 0)) = z4 at hA3 hB3 ⊢
      generalize h3S T L s = s at h3 h03 hA3 hB3 hC3 ⊢
      refine zT_bind (zT_mono (X10_readsEnding hT hx h3 h03 hA3 hB3 hN) ?_)
      have h4 := okP_h4 hT h3
      have hC4 : ∀ v, (h4S T L s).2.2.2.2.1 0 v = 0 := fun v => by
        unfold h4S
        split
        · exact hC3 v
        · exact hC3 v
      generalize h4S T L s = s at h4 hC4 ⊢
      rintro ⟨r1, r2, r3, r4, r5⟩ hr
      dsimp only at hr ⊢
      rcases hr with ⟨m1, m2, m3, m4, m5, m6⟩ | ⟨m1, m2, m3⟩
      · rw [m2, if_neg ne10, m3, m4]
        have e3 : f_X10_takesWord N (iI s.2.1.1) (iI L) (iI s.2.1.2) zSp text 3 = _ := R_takesWord (w := 3) (y := 3) hT hx h4 m1 (by omega) hN rfl
        refine zT_bindE e3 ?_
        dsimp only
        by_cases q3 : twP T 3 s
        · have h5 := okP_tw (w := 3) h4
          have h05 : (twS T L 3 s).1 = -1000 := by rw [twS_1]; exact m1
          have hX5 : (twS T L 3 s).2.2 = s.2.2 := twS_X 3 s
          have e5 : h5S T L s = wX (kyP T L (twS T L 3 s)).2 (setV s.2.2 0 0 (kyP T L (twS T L 3 s)).1) := if_pos q3
          have h5o : okP T L (h5S T L s) := okP_h5 hT h4
          have hC5 : ∀ v, v < 2 → (h5S T L s).2.2.2.2.1 0 v = 0 := fun v _ => by rw [e5]; exact hC4 v
          rw [if_pos q3, if_neg (show ¬ iI 1 = 0 from ne10)]
          refine zT_bind (zT_mono (X10_readsKey (a := 0) (nb := r3) (hk := 0) (ht := 0) (rd := r5) hT hx h5 h05 (by rw [hX5]; exact m5) (by rw [hX5]; exact m6) hN) ?_)
          rintro ⟨u1, u2, u3, u4, u5, u6⟩ ⟨k1, hu0⟩
          rw [hX5] at hu0
          have hu : RP (h5S T L s) 1 0 u1 u2 u5 u6 := by rw [e5]; exact hu0
          clear hu0
          dsimp only at k1 ⊢
          subst k1
          rcases hu with ⟨n1, n2, n3, n4, n5, n6⟩ | ⟨n1, n2, n3⟩
          · subst n2
            subst n3
            subst n4
            rw [if_neg ne10]
            exact X10_J105 hT hx h5o n1 hC5 n5 n6 hN
          · subst n2
            rw [if_pos rfl, h6S_1 n1, tlS_1 n1]
            exact zT_some (Or.inr ⟨n1, rfl, n3⟩)
        · have e5 : h5S T L s = s := if_neg q3
          rw [if_neg q3, if_pos (show iI 0 = 0 from rfl), twS_neg q3, e5]
          exact X10_J105 hT hx h4 m1 (fun v _ => hC4 v) m5 m6 hN
      · rw [m2, if_pos rfl, h5S_1 m1, h6S_1 m1, tlS_1 m1]
        exact zT_some (Or.inr ⟨m1, rfl, m3⟩)
    · have hf : (flS (twS T L 0 s)).1 ≠ -1000 := flS_f h1
      rw [if_neg q2, if_pos (show iI 0 = 0 from rfl), tnS_neg q2]
      have g3 : (h3S T L (flS (twS T L 0 s))).1 = (flS (twS T L 0 s)).1 := by
        show (twS T L 1 (flS (twS T L 0 s))).1 = _
        rw [twS_1]
      have g3f : (h3S T L (flS (twS T L 0 s))).1 ≠ -1000 := by rw [g3]; exact hf
      rw [h4S_1 g3f, h5S_1 g3f, h6S_1 g3f, tlS_1 g3f]
      refine zT_some (Or.inr ⟨g3f, rfl, ?_⟩)
      rw [g3, flS_0 h01]
  · have hf : (flS s).1 ≠ -1000 := flS_f h0
    have g2 : tnS T L 0 999 (flS s) = flS s := by
      rw [tnS_neg (fun y => hf y.1), flS_1 hf]
    rw [if_neg q, if_neg q, if_pos (show iI 0 = 0 from rfl), twS_neg q, g2]
    have g3 : (h3S T L (flS s)).1 = (flS s).1 := by
      show (twS T L 1 (flS s)).1 = _
      rw [twS_1]
    have g3f : (h3S T L (flS s)).1 ≠ -1000 := by rw [g3]; exact hf
    rw [h4S_1 g3f, h5S_1 g3f, h6S_1 g3f, tlS_1 g3f]
    refine zT_some (Or.inr ⟨g3f, rfl, ?_⟩)
    rw [g3, flS_0 hs0]
end ZOA
