/-! ===== reading a text: the class's fault ===== -/
section ZNX
variable {N L t w v k : Nat} {T : Nat → Int} {tb text cells : Nat → Int32} {a b c nb : Int32} {p : Nat × Nat} {s : pS} {lo hi : Int} {X : zSt} {x : zEv}
theorem tnS_X (s : pS) : (tnS T L lo hi s).2.2 = s.2.2 := by
  unfold tnS
  split
  · rfl
  · rw [flS_p]
theorem twS_X (w : Nat) (s : pS) : (twS T L w s).2.2 = s.2.2 := by
  unfold twS
  split <;> rfl
theorem ndS_X (w : Nat) (s : pS) : (ndS T L w s).2.2 = s.2.2 := by
  unfold ndS
  split
  · exact twS_X w s
  · rw [flS_p]
theorem kyP_b (hT : okT T L) (h : okP T L s) : -7 ≤ (kyP T L s).1 ∧ (kyP T L s).1 ≤ 7 := by
  have hv := tnV_in (T := T) (lo := 1) (hi := 7) (s := s) (fun _ _ _ => by omega)
  have hv2 := hv.2 (by omega)
  unfold kyP
  split
  · exact ⟨by dsimp only; omega, by dsimp only; omega⟩
  · split
    · exact ⟨by dsimp only; omega, by dsimp only; omega⟩
    · exact ⟨by dsimp only; omega, by dsimp only; omega⟩
theorem okP_h3 (h : okP T L s) : okP T L (h3S T L s) := okP_tw h
theorem okP_h4 (hT : okT T L) (h : okP T L s) : okP T L (h4S T L s) := by
  unfold h4S
  split
  · exact okP_tn hT (okP_tw h)
  · exact h
theorem okP_h5 (hT : okT T L) (h : okP T L s) : okP T L (h5S T L s) := by
  unfold h5S
  split
  · exact (okP_ky hT (okP_tw h)).1
  · exact h
theorem okP_h6 (hT : okT T L) (h : okP T L s) : okP T L (h6S T L s) := by
  unfold h6S
  split
  · exact okP_tn hT (okP_lo hT (okP_tn hT (okP_tw h)))
  · exact h
theorem okP_hd (hT : okT T L) (h : okP T L s) : okP T L (hdT T L s) := okP_h6 hT (okP_h5 hT (okP_h4 hT (okP_h3 (okP_tn hT (okP_nd hT h)))))
theorem loP_b (hT : okT T L) (h : okP T L s) : 0 ≤ (loP T L s).1 ∧ (loP T L s).1 ≤ 16 := by
  have hv := tnV_in (T := T) (lo := 2) (hi := 16) (s := loS T s) (fun _ _ _ => by omega)
  have hv2 := hv.2 (by omega)
  exact ⟨hv.1, hv2⟩
theorem X3_readHead (hT : okT T L) (hx : zTx L T (iI L) tb) (h : okP T L s) (hD : DR s.2.2 cells) (hN : 700 ≤ N) : zT (f_X3_readHead N (iI s.1) (iI s.2.1.1) (iI s.2.1.2) (iI 1) (iI L) cells tb) (C4 (hdT T L s)) := by
  have h1 := okP_nd (w := 0) hT h
  have h2 := okP_tn (lo := 0) (hi := 999) hT h1
  have e2 : f_X3_takeNumber N (iI (ndS T L 0 s).1) (iI (ndS T L 0 s).2.1.1) (iI (ndS T L 0 s).2.1.2) (iI L) tb 0 999 = _ := X3_takeNumber (lo := 0) (hi := 999) hT hx h1 (by unfold zInt; omega) (by unfold zInt; omega) hN
  have hD2 : DR (tnS T L 0 999 (ndS T L 0 s)).2.2 cells := by rw [tnS_X, ndS_X]; exact hD
  unfold f_X3_readHead hdT
  refine zT_bindE (X3_needWord hT hx h (by omega) hN) (zT_bindE e2 ?_)
  dsimp only
  generalize tnS T L 0 999 (ndS T L 0 s) = s at h2 hD2 ⊢
  refine zT_bindE (X3_takeWord hT hx h2 (by omega) hN) ?_
  dsimp only
  have e4 : (if iI (if twP T 1 s then 1 else 0) = 0 then some (0 : Int32) else some 1) = some (iI (if twP T 1 s then 1 else 0)) := by
    by_cases q : twP T 1 s
    · rw [if_pos q, if_neg (show ¬ iI 1 = 0 from ne10)] <;> rfl
    · rw [if_neg q, if_pos (show iI 0 = 0 from rfl)] <;> rfl
  refine zT_bindE e4 ?_
  obtain ⟨c5, hc5, hD3⟩ := DR_put (N := N) (k := 4) (x := if twP T 1 s then 1 else 0) (y := 4) hD2 (by omega) (by split <;> omega) rfl
  refine zT_bindE hc5 ?_
  have h3 := okP_h3 h2
  have e31 : iI s.1 = iI (h3S T L s).1 := by show _ = iI (twS T L 1 s).1; rw [twS_1]
  have hD3 : DR (h3S T L s).2.2 c5 := hD3
  rw [e31]
  show zT (Option.bind (f_X3_takeWord N (iI (h3S T L s).1) (iI (h3S T L s).2.1.1) (iI (h3S T L s).2.1.2) (iI L) tb 2) _) _
  generalize h3S T L s = s at h3 hD3 ⊢
  refine zT_bindE (X3_takeWord hT hx h3 (by omega) hN) ?_
  dsimp only
  refine zT_bind (zT_mono (P := C4 (h4S T L s)) ?_ ?_)
  · unfold h4S
    by_cases q : twP T 2 s
    · have h4 := okP_tw (w := 2) h3
      have et : f_X3_takeNumber N (iI (twS T L 2 s).1) (iI (twS T L 2 s).2.1.1) (iI (twS T L 2 s).2.1.2) (iI L) tb 1 4 = _ := X3_takeNumber (lo := 1) (hi := 4) hT hx h4 (by unfold zInt; omega) (by unfold zInt; omega) hN
      rw [twS_1] at et
      have hv := tnV_in (T := T) (lo := 1) (hi := 4) (s := twS T L 2 s) (fun _ _ _ => by omega)
      have hv2 := hv.2 (by omega)
      obtain ⟨c6, hc6, hD4⟩ := DR_put (N := N) (k := 6) (x := tnV T 1 4 (twS T L 2 s)) (y := 6) hD3 (by omega) (by omega) rfl
      rw [if_pos q, if_pos q, if_neg (show ¬ iI 1 = 0 from ne10)]
      exact zT_bindE et (zT_bindE hc6 (zT_some ⟨rfl, rfl, rfl, hD4⟩))
    · rw [if_neg q, if_neg q, if_pos (show iI 0 = 0 from rfl), twS_neg q]
      exact zT_some ⟨rfl, rfl, rfl, hD3⟩
  rintro ⟨r1, r2, r3, r4⟩ ⟨g1, g2, g3, hD4⟩
  dsimp only at g1 g2 g3 hD4 ⊢
  rw [g1, g2, g3]
  have h4 := okP_h4 hT h3
  generalize h4S T L s = s at h4 hD4 ⊢
  refine zT_bindE (X3_takeWord hT hx h4 (by omega) hN) ?_
  dsimp only
  refine zT_bind (zT_mono (P := C4 (h5S T L s)) ?_ ?_)
  · unfold h5S
    by_cases q : twP T 3 s
    · have h5 := okP_tw (w := 3) h4
      have et := X3_readKey (N := N) hT hx h5 hN
      rw [twS_1] at et
      have hv := kyP_b hT h5
      obtain ⟨c6, hc6, hD5⟩ := DR_put (N := N) (k := 0) (x := (kyP T L (twS T L 3 s)).1) (y := 0) hD4 (by omega) (by omega) rfl
      rw [if_pos q, if_pos q, if_neg (show ¬ iI 1 = 0 from ne10)]
      exact zT_bindE et (zT_bindE hc6 (zT_some ⟨rfl, rfl, rfl, hD5⟩))
    · rw [if_neg q, if_neg q, if_pos (show iI 0 = 0 from rfl), twS_neg q]
      exact zT_some ⟨rfl, rfl, rfl, hD4⟩
  rintro ⟨r1, r2, r3, r4⟩ ⟨g1, g2, g3, hD5⟩
  dsimp only at g1 g2 g3 hD5 ⊢
  rw [g1, g2, g3]
  have h5 := okP_h5 hT h4
  generalize h5S T L s = s at h5 hD5 ⊢
  refine zT_bindE (X3_takeWord hT hx h5 (by omega) hN) ?_
  dsimp only
  unfold h6S
  by_cases q : twP T 8 s
  · have h6 := okP_tw (w := 8) h5
    have et : f_X3_takeNumber N (iI (twS T L 8 s).1) (iI (twS T L 8 s).2.1.1) (iI (twS T L 8 s).2.1.2) (iI L) tb 1 12 = _ := X3_takeNumber (lo := 1) (hi := 12) hT hx h6 (by unfold zInt; omega) (by unfold zInt; omega) hN
    rw [twS_1] at et
    have hv := tnV_in (T := T) (lo := 1) (hi := 12) (s := twS T L 8 s) (fun _ _ _ => by omega)
    have hv2 := hv.2 (by omega)
    have h7 : okP T L (h6U T L s) := okP_tn hT h6
    obtain ⟨c6, hc6, hD6⟩ := DR_put (N := N) (k := 1) (x := tnV T 1 12 (twS T L 8 s)) (y := 1) hD5 (by omega) (by omega) rfl
    have hl := loP_b hT h7
    obtain ⟨c7, hc7, hD7⟩ := DR_put (N := N) (X := (h6U T L s).2.2) (k := 2) (x := (loP T L (h6U T L s)).1) (y := 2) hD6 (by omega) (by omega) rfl
    rw [if_pos q, if_pos q, if_neg (show ¬ iI 1 = 0 from ne10)]
    exact zT_bindE et (zT_bindE hc6 (zT_bindE (X3_readLower (s := h6U T L s) hT hx h7 hN) (zT_bindE hc7 (zT_some ⟨rfl, rfl, rfl, hD7⟩))))
  · rw [if_neg q, if_neg q, if_pos (show iI 0 = 0 from rfl), twS_neg q]
    exact zT_some ⟨rfl, rfl, rfl, hD5⟩
theorem okP_evL (hT : okT T L) : ∀ n s, okP T L s → okP T L (evL T L v n s) := by
  intro n
  induction n with
  | zero => intro s h; exact h
  | succ n ih =>
    intro s h
    unfold evL
    split
    · exact ih _ (okP_ev hT h)
    · exact h
theorem okP_es (hT : okT T L) (h : okP T L s) : okP T L (esS T L v s) := okP_evL hT _ _ (okP_ev hT h)
theorem evL_C {v' : Nat} (hv : v' ≠ v) : ∀ n s, (evL T L v n s).2.2.2.2.1 0 v' = s.2.2.2.2.1 0 v' := by
  intro n
  induction n with
  | zero => intro s; rfl
  | succ n ih =>
    intro s
    unfold evL
    split
    · rw [ih, evS_C, if_neg (fun y => hv y.2)]
    · rfl
theorem esS_C {v' : Nat} (hv : v' ≠ v) (s : pS) : (esS T L v s).2.2.2.2.1 0 v' = s.2.2.2.2.1 0 v' := by
  unfold esS
  rw [evL_C hv, evS_C, if_neg (fun y => hv y.2)]
theorem evL_1 (h : s.1 ≠ -1000) (n : Nat) : evL T L v n s = s := evL_no (fun y => h y.1) n
theorem flS_1 (h : s.1 ≠ -1000) : flS s = s := if_neg h
theorem esS_1 (h : s.1 ≠ -1000) : esS T L v s = s := by
  unfold esS evS
  rw [if_neg (fun y => h y.1), flS_1 h, evL_1 h]
theorem okP_vo (hT : okT T L) (h : okP T L s) : okP T L (voS T L s) := by
  have h1 : okP T L (v1S T L s) := okP_es hT (okP_tn hT (okP_tw h))
  unfold voS
  split
  · split
    · exact okP_es hT (okP_tn hT (okP_tw h1))
    · exact h1
  · exact h
theorem flS_f (h : okP T L s) : (flS s).1 ≠ -1000 := by
  unfold flS
  split
  · intro y
    dsimp only at y
    omega
  · next q => exact q
theorem tn_ok (h : okP T L s) (q : (tnS T L lo hi s).1 = -1000) : tnP T lo hi s := by
  by_cases r : tnP T lo hi s
  · exact r
  · unfold tnS at q
    rw [if_neg r] at q
    exact absurd q (flS_f h)
theorem tnV_1 (q : tnP T lo hi s) : tnV T lo hi s = numT T s.2.1 := if_pos q
theorem hdT_C (s : pS) (v : Nat) : (hdT T L s).2.2.2.2.1 = s.2.2.2.2.1 := by
  have a4 : ∀ s, (h4S T L s).2.2.2.2.1 = s.2.2.2.2.1 := fun s => by unfold h4S; split <;> rfl
  have a5 : ∀ s, (h5S T L s).2.2.2.2.1 = s.2.2.2.2.1 := fun s => by unfold h5S; split <;> rfl
  have a6 : ∀ s, (h6S T L s).2.2.2.2.1 = s.2.2.2.2.1 := fun s => by unfold h6S; split <;> rfl
  unfold hdT
  rw [a6, a5, a4]
  show (tnS T L 0 999 (ndS T L 0 s)).2.2.2.2.1 = _
  rw [tnS_X, ndS_X]
theorem X4_becomeDraft (hN : 700 ≤ N) : zT (f_X4_becomeDraft N a cells) (fun r => r.1 = iI 1 ∧ DR drS0 r.2) := by
  have h0 : okC (0, (fun _ _ => 0), (fun _ _ => 0), fun _ _ _ => (0, 0, 0, 0)) := ⟨Nat.zero_le _, fun m hm => absurd hm (Nat.not_lt_zero m)⟩
  unfold f_X4_becomeDraft
  refine zT_bind (zT_mono (X4_appendMeasure (S := (0, (fun _ _ => 0), (fun _ _ => 0), fun _ _ _ => (0, 0, 0, 0))) h0 ⟨rfl, fun m hm => absurd hm (Nat.not_lt_zero m)⟩ (by decide) (by omega)) ?_)
  rintro ⟨r1, r2⟩ ⟨g1, g2⟩
  dsimp only at g1 g2 ⊢
  subst g1
  refine zT_bind (zT_mono (P := DR drS0) (zT_loop (fun n (z : Int32 × (Nat → Int32)) => ∃ j : Nat, j ≤ 4 ∧ n = 4 - j ∧ z.1 = iI j ∧ DR (drJ j) z.2) ?_ N 4 _ (by omega) ⟨0, by omega, rfl, rfl, rfl, okC_nwS h0 (by decide), g2⟩) (fun r hr => zT_some ⟨rfl, hr⟩))
  rintro n ⟨z1, z2⟩ k ⟨j, hj, rfl, rfl, hD⟩ ih
  unfold f_X4_becomeDraft_B11
  dsimp only at hD ⊢
  refine zT_ite (fun r => ?_) (fun r => ?_)
  · rw [iL3, iI_lt (by omega) (by omega) (by omega) (by omega)] at r
    obtain rfl : j = 4 := by omega
    exact zT_some hD
  · rw [iL3, iI_lt (by omega) (by omega) (by omega) (by omega)] at r
    obtain ⟨c, hc, hD2⟩ := DR_put (N := N) (k := j) (x := -100) (y := j) hD (by omega) (by omega) rfl
    exact zT_bindE hc (zT_bindE rfl (ih (4 - (j + 1)) _ (by omega) ⟨j + 1, by omega, rfl, iIp1 _, hD2⟩))
theorem X3_findFault (hT : okT T L) (hx : zTx L T (iI L) tb) (hN : 700 ≤ N) : zT (f_X3_findFault N a b c nb (iI L) cells tb) (fun r => r.1 = iI (faS T L).1 ∧ r.2.1 = iI (faS T L).1 ∧ r.2.2.2.2.1 = iI 1 ∧ DR (faS T L).2.2 r.2.2.2.2.2) := by
  unfold f_X3_findFault faS
  refine zT_bind (zT_mono (X4_becomeDraft hN) ?_)
  rintro ⟨d1, d2⟩ ⟨g1, hD⟩
  dsimp only at g1 hD ⊢
  subst g1
  have e0 : f_X3_advance N b 0 (iI L) tb = _ := X3_advance (t := 0) hT hx (by omega) hN
  refine zT_bindE e0 ?_
  have h0 : okP T L (-1000, adv T L 0, drS0) := ⟨adv_ok (by omega), by dsimp only; omega, by dsimp only; omega⟩
  refine zT_bind (zT_mono (X3_readHead (s := (-1000, adv T L 0, drS0)) hT hx h0 hD hN) ?_)
  have hC : ∀ v, (hdT T L (-1000, adv T L 0, drS0)).2.2.2.2.1 0 v = 0 := fun v => by
    rw [hdT_C _ v]
    rfl
  have h1 := okP_hd hT h0
  generalize hdT T L (-1000, adv T L 0, drS0) = s at hC h1 ⊢
  rintro ⟨r1, r2, r3, r4⟩ ⟨g1, g2, g3, hD1⟩
  dsimp only at g1 g2 g3 hD1 ⊢
  rw [g1, g2, g3]
  refine zT_bindE (X3_takeWord hT hx h1 (by omega) hN) ?_
  dsimp only
  refine zT_bind (zT_mono (P := C4 (voS T L s)) ?_ ?_)
  · unfold voS
    by_cases q : twP T 9 s
    · have h2 := okP_tw (w := 9) h1
      have h3 := okP_tn (lo := 1) (hi := 2) hT h2
      have et : f_X3_takeNumber N (iI (twS T L 9 s).1) (iI (twS T L 9 s).2.1.1) (iI (twS T L 9 s).2.1.2) (iI L) tb 1 2 = _ := X3_takeNumber (lo := 1) (hi := 2) hT hx h2 (by unfold zInt; omega) (by unfold zInt; omega) hN
      rw [twS_1] at et
      have hv := tnV_in (T := T) (lo := 1) (hi := 2) (s := twS T L 9 s) (fun _ _ _ => by omega)
      have hv2 := hv.2 (by omega)
      have hD3 : DR (tnS T L 1 2 (twS T L 9 s)).2.2 r4 := by rw [tnS_X, twS_X]; exact hD1
      have hC3 : ∀ v, (tnS T L 1 2 (twS T L 9 s)).2.2.2.2.1 0 v = 0 := fun v => by rw [tnS_X, twS_X]; exact hC v
      rw [if_pos q, if_pos q, if_neg (show ¬ iI 1 = 0 from ne10)]
      refine zT_bindE et ?_
      dsimp only
      rw [iIs1]
      refine zT_bind (zT_mono (P := C4 (v1S T L s)) (X3_readEvents (v := (tnV T 1 2 (twS T L 9 s) - 1).toNat) hT hx h3 hD3 (fun y => ?_) hN) ?_)
      · have := (tn_ok h2 y)
        have e := tnV_1 this
        have := this.2
        exact ⟨by omega, by congr 1 <;> omega, hC3 _⟩
      · rintro ⟨u1, u2, u3, u4⟩ ⟨k1, k2, k3, hD4⟩
        dsimp only at k1 k2 k3 hD4 ⊢
        rw [k1, k2, k3]
        have h4 : okP T L (v1S T L s) := okP_es hT h3
        by_cases q1 : tnV T 1 2 (twS T L 9 s) = 1
        · have hC4 : (v1S T L s).2.2.2.2.1 0 1 = 0 := by
            unfold v1S
            rw [q1]
            show (esS T L 0 _).2.2.2.2.1 0 1 = 0
            rw [esS_C (by omega)]
            exact hC3 1
          rw [if_pos (by rw [q1] <;> rfl)]
          generalize v1S T L s = s1 at hD4 h4 hC4 ⊢
          refine zT_bindE (X3_takeWord hT hx h4 (by omega) hN) ?_
          dsimp only
          by_cases q2 : twP T 9 s1
          · have h5 := okP_tw (w := 9) h4
            have h6 := okP_tn (lo := 2) (hi := 2) hT h5
            have et : f_X3_takeNumber N (iI (twS T L 9 s1).1) (iI (twS T L 9 s1).2.1.1) (iI (twS T L 9 s1).2.1.2) (iI L) tb 2 2 = _ := X3_takeNumber (lo := 2) (hi := 2) hT hx h5 (by unfold zInt; omega) (by unfold zInt; omega) hN
            rw [twS_1] at et
            have hD6 : DR (tnS T L 2 2 (twS T L 9 s1)).2.2 u4 := by rw [tnS_X, twS_X]; exact hD4
            rw [if_pos q2, if_pos (show tnV T 1 2 (twS T L 9 s) = 1 ∧ twP T 9 s1 from ⟨q1, q2⟩), if_neg (show ¬ iI 1 = 0 from ne10)]
            refine zT_bindE et ?_
            dsimp only
            rw [iIs1]
            refine zT_bind (zT_mono (P := C4 (v2S T L s1)) (X3_readEvents (v := (tnV T 2 2 (twS T L 9 s1) - 1).toNat) hT hx h6 hD6 (fun y => ?_) hN) (fun r hr => zT_some hr))
            have := (tn_ok h5 y)
            have e := tnV_1 this
            have h22 := this.2
            have e1 : (tnV T 2 2 (twS T L 9 s1) - 1).toNat = 1 := by omega
            refine ⟨by omega, by congr 1 <;> omega, ?_⟩
            rw [e1, tnS_X, twS_X]
            exact hC4
          · rw [if_neg q2, if_neg (show ¬ (tnV T 1 2 (twS T L 9 s) = 1 ∧ twP T 9 s1) from fun y => q2 y.2), if_pos (show iI 0 = 0 from rfl), twS_neg q2]
            exact zT_some ⟨rfl, rfl, rfl, hD4⟩
        · rw [if_neg (by rw [iL1, iI_eq (by omega) (by omega) (by omega) (by omega)]; exact q1), if_neg (fun y => q1 y.1)]
          exact zT_some ⟨rfl, rfl, rfl, hD4⟩
    · rw [if_neg q, if_neg q, if_pos (show iI 0 = 0 from rfl), twS_neg q]
      exact zT_some ⟨rfl, rfl, rfl, hD1⟩
  have h2 := okP_vo hT h1
  clear hC
  generalize voS T L s = s at h2 ⊢
  rintro ⟨r1, r2, r3, r4⟩ ⟨g1, g2, g3, hD2⟩
  dsimp only at g1 g2 g3 hD2 ⊢
  rw [g1, g2, g3]
  refine zT_bindE (X3_takeWord hT hx h2 (by omega) hN) ?_
  dsimp only
  have h3 : okP T L (bkS T L s) := by
    unfold bkS
    split
    · exact okP_tn hT (okP_tw h2)
    · exact h2
  refine zT_bind (zT_mono (P := C4 (bkS T L s)) ?_ ?_)
  · unfold bkS
    by_cases q : twP T 18 s
    · have h4 := okP_tw (w := 18) h2
      have et : f_X3_takeNumber N (iI (twS T L 18 s).1) (iI (twS T L 18 s).2.1.1) (iI (twS T L 18 s).2.1.2) (iI L) tb 2 4 = _ := X3_takeNumber (lo := 2) (hi := 4) hT hx h4 (by unfold zInt; omega) (by unfold zInt; omega) hN
      rw [twS_1] at et
      have hv := tnV_in (T := T) (lo := 2) (hi := 4) (s := twS T L 18 s) (fun _ _ _ => by omega)
      have hv2 := hv.2 (by omega)
      obtain ⟨c6, hc6, hD4⟩ := DR_put (N := N) (k := 5) (x := tnV T 2 4 (twS T L 18 s)) (y := 5) hD2 (by omega) (by omega) rfl
      rw [if_pos q, if_pos q, if_neg (show ¬ iI 1 = 0 from ne10)]
      exact zT_bindE et (zT_bindE hc6 (zT_some ⟨rfl, rfl, rfl, hD4⟩))
    · rw [if_neg q, if_neg q, if_pos (show iI 0 = 0 from rfl), twS_neg q]
      exact zT_some ⟨rfl, rfl, rfl, hD2⟩
  generalize bkS T L s = s at h3 ⊢
  rintro ⟨r1, r2, r3, r4⟩ ⟨g1, g2, g3, hD3⟩
  dsimp only at g1 g2 g3 hD3 ⊢
  rw [g1, g2, g3]
  refine zT_bindE (X3_needWord hT hx h3 (by omega) hN) ?_
  have hD4 : DR (ndS T L 19 s).2.2 r4 := by rw [ndS_X]; exact hD3
  have h4 := okP_nd (w := 19) hT h3
  unfold enS
  generalize ndS T L 19 s = s at h4 hD4 ⊢
  have hb := tkP_b hT h4.1
  dsimp only
  by_cases q : s.2.1.1 < s.2.1.2
  · rw [if_pos (by rw [iI_lt (by omega) (by omega) (by omega) (by omega)]; omega), if_pos q, z_be (X3_fail h4)]
    exact zT_bindE rfl (zT_some ⟨rfl, rfl, rfl, by rw [flS_p]; exact hD4⟩)
  · rw [if_neg (by rw [iI_lt (by omega) (by omega) (by omega) (by omega)]; omega), if_neg q]
    exact zT_bindE rfl (zT_some ⟨rfl, rfl, rfl, hD4⟩)
end ZNX
