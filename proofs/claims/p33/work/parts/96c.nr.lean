/-! ===== reading a text: the class's reader, events and the whole ===== -/
section ZNW
variable {N L t w v k : Nat} {T : Nat → Int} {tb text cells : Nat → Int32} {a nb : Int32} {p : Nat × Nat} {s : pS} {lo hi : Int} {X : zSt} {x : zEv}
theorem DR_put (h : DR X cells) (hk : k < 7) {x y : Int} (hx : -1000 ≤ x ∧ x ≤ 1000) (hy : y = k) : ∃ c, f_X4_putValue N (iI 1) cells 0 (iI y) (iI x) = some c ∧ DR (setV X 0 k x) c := by
  subst hy
  obtain ⟨h1, h2, h3⟩ := h
  rw [show (1 : Int) = (X.1 : Int) by omega] at h3
  have e := X4_putValue (N := N) (cells := cells) (m := 0) h2 (by omega) hk (iI x)
  rw [h1] at e
  have hr := RC_setV (m := 0) h2 h3 (by omega) hk x
  rw [h1] at hr
  exact ⟨_, e, h1, okC_setV h2 hx, hr⟩
theorem DR_add (h : DR X cells) (hv : v < 2) (hC : X.2.2.1 0 v < 24) (hx : okE x) : ∃ c, f_X4_appendEvent N (iI 1) cells 0 (iI v) (iI (pk x)) = some c ∧ DR (setAd X 0 v x) c := by
  obtain ⟨h1, h2, h3⟩ := h
  rw [show (1 : Int) = (X.1 : Int) by omega] at h3
  have e := X4_appendEvent (N := N) (m := 0) (x := x) h2 h3 (by omega) hv hC
  have hr := RC_setAd (m := 0) (x := x) h2 h3 (by omega) hv hC
  rw [h1] at e hr
  refine ⟨_, e, h1, ⟨h2.1, fun m' hm' => ⟨(h2.2 m' hm').1, fun v' hv' => ⟨?_, fun e' he' => ?_⟩⟩⟩, hr⟩
  · by_cases q : m' = 0 ∧ v' = v
    · obtain ⟨rfl, rfl⟩ := q
      rw [setAd_C]
      omega
    · rw [setAd_Cne q]
      exact ((h2.2 m' hm').2 v' hv').1
  · rcases setAd_lt he' with ⟨rfl, rfl, rfl⟩ | ⟨q1, q2⟩
    · rw [setAd_E]
      exact hx
    · rw [setAd_Ene q1]
      exact ((h2.2 m' hm').2 v' hv').2 e' q2
theorem tnV_in (h : s.1 = -1000 → lo ≤ numT T s.2.1 → numT T s.2.1 ≤ hi → 0 ≤ lo) : 0 ≤ tnV T lo hi s ∧ (0 ≤ hi → tnV T lo hi s ≤ hi) := by
  unfold tnV
  split
  · next q => exact ⟨by have := h q.1 q.2.1 q.2.2; omega, fun _ => q.2.2⟩
  · exact ⟨Int.le_refl _, fun h => h⟩
theorem evE_ok (hT : okT T L) (h : okP T L s) (hb : 0 ≤ stpT T s.2.1) : okE (evE T L s) ∧ 0 ≤ (evE T L s).1 := by
  have h1 := okP_sg (okP_ad h)
  have h2 := okP_tn (lo := 0) (hi := 8) hT h1
  have h3 := okP_du hT h2
  have hv := tnV_in (T := T) (lo := 0) (hi := 8) (s := sgT T L (ad1 T L s)) (fun _ _ _ => by omega)
  have hv2 := hv.2 (by omega)
  have hs := sgL_b T (ad1 T L s)
  have hp := stpT_b (T := T) s.2.1
  have hd : (evD T L s).1 = (duP T L (tnS T L 0 8 (sgT T L (ad1 T L s)))).1 := rfl
  have ht : 0 ≤ (if twP T 17 (evD T L s).2 then (1 : Int) else 0) ∧ (if twP T 17 (evD T L s).2 then (1 : Int) else 0) ≤ 1 := by split <;> omega
  unfold evE
  refine ⟨Or.inr ⟨?_, ?_, ?_, ?_, ?_, ?_, ht.1, ht.2⟩, ?_⟩
  all_goals dsimp only
  all_goals omega
theorem okP_ev (hT : okT T L) (h : okP T L s) : okP T L (evS T L v s) := by
  unfold evS
  split
  · split
    · exact (okP_du hT (okP_ad h)).1
    · exact okP_tw (okP_du hT (okP_tn hT (okP_sg (okP_ad h)))).1
  · exact okP_fl hT h
theorem evS_C (s : pS) (v' : Nat) : (evS T L v s).2.2.2.2.1 0 v' = if beP T s ∧ v' = v then s.2.2.2.2.1 0 v + 1 else s.2.2.2.2.1 0 v' := by
  unfold evS
  by_cases q : beP T s
  · rw [if_pos q]
    have e : ∀ x, (setAd s.2.2 0 v x).2.2.1 0 v' = if beP T s ∧ v' = v then s.2.2.2.2.1 0 v + 1 else s.2.2.2.2.1 0 v' := by
      intro x
      by_cases q2 : v' = v
      · rw [if_pos ⟨q, q2⟩, q2, setAd_C]
      · rw [if_neg (fun y => q2 y.2), setAd_Cne (fun y => q2 y.2)]
    split
    · exact e _
    · exact e _
  · rw [if_neg q, if_neg (fun y => q y.1), flS_p]
theorem X3_readEvent (hT : okT T L) (hx : zTx L T (iI L) tb) (h : okP T L s) (hD : DR s.2.2 cells) {y : Int32} (hv : beP T s → v < 2 ∧ y = iI v ∧ s.2.2.2.2.1 0 v < 24) (hN : 700 ≤ N) : zT (f_X3_readEvent N (iI s.1) (iI s.2.1.1) (iI s.2.1.2) (iI 1) (iI L) cells tb y) (C4 (evS T L v s)) := by
  have h1 := okP_ad h
  unfold f_X3_readEvent
  refine zT_bindE (X3_beginsEvent hT hx h hN) ?_
  unfold evS
  by_cases q : beP T s
  · obtain ⟨hv1, rfl, hC⟩ := hv q
    have e1 : (ad1 T L s).1 = s.1 := rfl
    rw [if_pos q, if_pos q, if_neg (show ¬ iI 1 = 0 from ne10)]
    refine zT_bindE (X3_step hT hx h.1) (zT_bindE (X3_advance hT hx h.1.2.1 hN) ?_)
    have hb := stpT_b (T := T) s.2.1
    by_cases q2 : stpT T s.2.1 < 0
    · rw [if_pos (by rw [iL0, iI_lt (by omega) (by omega) (by omega) (by omega)]; exact q2), if_pos q2]
      have hd := okP_du hT h1
      obtain ⟨c, hc, hc2⟩ := DR_add (N := N) hD hv1 hC (okE_rest (d := (duP T L (ad1 T L s)).1) (by omega))
      refine zT_bindE (X3_readDuration (s := ad1 T L s) hT hx h1 hN) (zT_bindE (X0_ofRest hd.2.1 hd.2.2) (zT_bindE hc (zT_some ⟨rfl, rfl, rfl, hc2⟩)))
    · rw [if_neg (by rw [iL0, iI_lt (by omega) (by omega) (by omega) (by omega)]; exact q2), if_neg q2]
      have h2 := okP_sg h1
      have h3 := okP_tn (lo := 0) (hi := 8) hT h2
      have h4 := okP_du hT h3
      obtain ⟨g1, g2⟩ := evE_ok hT h (show 0 ≤ stpT T s.2.1 by omega)
      obtain ⟨c, hc, hc2⟩ := DR_add (N := N) hD hv1 hC g1
      have et : f_X3_takeNumber N (iI (sgT T L (ad1 T L s)).1) (iI (sgT T L (ad1 T L s)).2.1.1) (iI (sgT T L (ad1 T L s)).2.1.2) (iI L) tb 0 8 = _ := X3_takeNumber (lo := 0) (hi := 8) hT hx h2 (by unfold zInt; omega) (by unfold zInt; omega) hN
      have es1 : (sgT T L (ad1 T L s)).1 = s.1 := by
        unfold sgT
        split
        · rfl
        · rw [twS_1] <;> rfl
      rw [es1] at et
      refine zT_bindE (X3_readSign (s := ad1 T L s) hT hx h1 hN) (zT_bindE et (zT_bindE rfl (zT_bindE (X3_readDuration hT hx h3 hN) (zT_bindE (X3_takeWord hT hx h4.1 (by omega) hN) ?_))))
      have eo : f_X0_ofNote N (7 * iI (tnV T 0 8 (sgT T L (ad1 T L s))) + iI (stpT T s.2.1)) (iI (sgL T (ad1 T L s))) (iI (evD T L s).1) (iI (if twP T 17 (evD T L s).2 then 1 else 0)) = some (iI (pk (evE T L s))) := by
        rw [iL7, iI_mul, iI_add]
        exact X0_ofNote (p := (evE T L s).1) (s := (evE T L s).2.1) (d := (evE T L s).2.2.1) (t := (evE T L s).2.2.2) g1 g2
      refine zT_bindE eo (zT_bindE hc (zT_some ⟨?_, rfl, rfl, hc2⟩))
      show iI (evD T L s).2.1 = iI (twS T L 17 (evD T L s).2).1
      rw [twS_1]
  · rw [if_neg q, if_neg q, if_pos (show iI 0 = 0 from rfl)]
    refine zT_bindE (X3_fail h) (zT_some ⟨rfl, ?_, ?_, ?_⟩)
    all_goals rw [flS_p]
    exact hD
theorem evL_no (h : ¬ beP T s) (n : Nat) : evL T L v n s = s := by
  cases n with
  | zero => rfl
  | succ n => rw [evL, if_neg h]
theorem flS_no (h : okP T L s) : ¬ beP T (flS s) := by
  unfold flS
  split
  · exact fun y => by have := y.1; dsimp only at this; omega
  · next q => exact fun y => q y.1
theorem X3_readEvents (hT : okT T L) (hx : zTx L T (iI L) tb) (h : okP T L s) (hD : DR s.2.2 cells) {y : Int32} (hv : s.1 = -1000 → v < 2 ∧ y = iI v ∧ s.2.2.2.2.1 0 v = 0) (hN : 700 ≤ N) : zT (f_X3_readEvents N (iI s.1) (iI s.2.1.1) (iI s.2.1.2) (iI 1) (iI L) cells tb y) (C4 (esS T L v s)) := by
  unfold f_X3_readEvents
  refine zT_bind (zT_mono (X3_readEvent (v := v) hT hx h hD (fun q => by have := hv q.1; exact ⟨this.1, this.2.1, by omega⟩) hN) ?_)
  rintro ⟨r1, r2, r3, r4⟩ ⟨g1, g2, g3, g4⟩
  dsimp only at g1 g2 g3 g4 ⊢
  unfold esS
  have hC1 := evS_C (T := T) (L := L) (v := v) s v
  by_cases q : beP T s
  · obtain ⟨hv2, rfl, hC⟩ := hv q.1
    rw [if_pos ⟨q, rfl⟩, hC] at hC1
    have h1 := okP_ev (v := v) hT h
    generalize evS T L v s = u at g1 g2 g3 g4 hC1 h1
    refine zT_bind (zT_mono (zT_loop (P := C4 (evL T L v 23 u)) (fun n z => ∃ (j : Nat) (u' : pS), 1 ≤ j ∧ j ≤ 24 ∧ n = 24 - j ∧ z.1 = iI j ∧ C4 u' z.2 ∧ okP T L u' ∧ u'.2.2.2.2.1 0 v ≤ j ∧ evL T L v (24 - j) u' = evL T L v 23 u) ?_ N 23 _ (by omega) ⟨1, u, by omega, by omega, rfl, rfl, ⟨g1, g2, g3, g4⟩, h1, by omega, rfl⟩) (fun r hr => zT_some hr))
    rintro n ⟨z1, z2⟩ k ⟨j, u', hj1, hj2, rfl, rfl, ⟨c1, c2, c3, c4⟩, ho, hCj, hl⟩ ih
    unfold f_X3_readEvents_B7
    dsimp only at c1 c2 c3 c4 ⊢
    refine zT_ite (fun r => ?_) (fun r => ?_)
    · rw [iL24, iI_lt (by omega) (by omega) (by omega) (by omega)] at r
      rw [show 24 - j = (24 - (j + 1)) + 1 by omega, evL] at hl
      rw [c1, c2, c3]
      refine zT_bindE (X3_beginsEvent hT hx ho hN) ?_
      by_cases q2 : beP T u'
      · rw [if_pos q2] at hl ⊢
        rw [if_neg (show ¬ iI 1 = 0 from ne10)]
        refine zT_bind (zT_mono (X3_readEvent (v := v) hT hx ho c4 (fun _ => ⟨hv2, rfl, by omega⟩) hN) (fun r hr => zT_bindE rfl (ih (24 - (j + 1)) _ (by omega) ⟨j + 1, evS T L v u', by omega, by omega, rfl, iIp1 _, hr, okP_ev hT ho, ?_, hl⟩)))
        have := evS_C (T := T) (L := L) (v := v) u' v
        rw [if_pos ⟨q2, rfl⟩] at this
        omega
      · rw [if_neg q2] at hl ⊢
        rw [if_pos (show iI 0 = 0 from rfl), ← hl]
        exact zT_some ⟨rfl, rfl, rfl, c4⟩
    · rw [iL24, iI_lt (by omega) (by omega) (by omega) (by omega)] at r
      rw [show 24 - j = 0 by omega, evL] at hl
      rw [← hl]
      exact zT_some ⟨c1, c2, c3, c4⟩
  · have e1 : evS T L v s = flS s := if_neg q
    have hn := flS_no h
    have hf := okP_fl hT h
    rw [e1] at g1 g2 g3 g4 ⊢
    rw [evL_no hn]
    obtain ⟨n, rfl⟩ : ∃ n, N = n + 1 := ⟨N - 1, by omega⟩
    refine zT_bind (zT_mono (P := C4 (flS s)) ?_ (fun r hr => zT_some hr))
    show zT (f_X3_readEvents_B7 _ _ _ _ _ _ _) _
    unfold f_X3_readEvents_B7
    dsimp only
    rw [if_pos (by decide), g1, g2, g3]
    refine zT_bindE (X3_beginsEvent hT hx hf hN) ?_
    rw [if_neg hn, if_pos (show iI 0 = 0 from rfl)]
    exact zT_some ⟨rfl, rfl, rfl, g4⟩
end ZNW
