/-! ===== whether a text tells a measure ===== -/
abbrev agE (S : zSt) (m : Nat) (X : zSt) (v : Nat) : Prop := S.2.2.1 m v = X.2.2.1 0 v ∧ ∀ e, e < X.2.2.1 0 v → S.2.2.2 m v e = X.2.2.2 0 v e
abbrev agV (S : zSt) (m : Nat) (X : zSt) : Prop := ∀ k, k < 7 → X.2.1 0 k = -100 ∨ X.2.1 0 k = S.2.1 m k
abbrev agP (S : zSt) (m : Nat) (X : zSt) : Prop := agV S m X ∧ agE S m X 0 ∧ agE S m X 1
def cmE (x : zEv) (c : Nat) : Int := if c = 0 then x.1 else if c = 1 then x.2.1 else if c = 2 then x.2.2.1 else x.2.2.2
section ZOC
variable {N L t w v k m nx e : Nat} {T : Nat → Int} {tb text cells rd st held shifts past pf dc : Nat → Int32} {a b c nb hk ht code pn : Int32} {p : Nat × Nat} {s : pS} {lo hi : Int} {S X : zSt} {x : zEv} {hs : List zSt} {K : zKT}
theorem pk_b {x : zEv} (hx : okE x) : 0 ≤ pk x ∧ pk x ≤ 20000 := by
  have hb := okE_b hx
  unfold pk
  split <;> omega
theorem X4_hasVoiceOf (h : okC S) (hR : RC S (iI S.1) cells) (hD : DR X dc) (hm : m < S.1) (hv : v < 2) (hN : 200 ≤ N) : f_X4_hasVoiceOf N (iI S.1) cells (iI 1) dc (iI m) (iI v) = some (iI (if agE S m X v then 1 else 0)) := by
  obtain ⟨d1, d2, d3⟩ := hD
  have d3' : RC X (iI X.1) dc := by rw [d1]; exact d3
  have hC := okC_C h hm hv
  have hCX := okC_C d2 (m := 0) (v := v) (by omega) hv
  have cS := X4_count_at (N := N) h hR hm hv
  have cX := X4_count_at (N := N) (m := 0) d2 d3' (by omega) hv
  rw [d1] at cX
  have cX' : f_X4_count N (iI 1) dc 0 (iI v) = some (iI (X.2.2.1 0 v)) := cX
  unfold f_X4_hasVoiceOf
  rw [z_be cS, z_be cX']
  by_cases q : S.2.2.1 m v = X.2.2.1 0 v
  · rw [if_pos (by rw [q])]
    refine z_eqT (zT_loop (fun n z => ∃ j : Nat, j ≤ S.2.2.1 m v ∧ n = S.2.2.1 m v - j ∧ z = iI j ∧ ∀ i, i < j → S.2.2.2 m v i = X.2.2.2 0 v i) ?_ N (S.2.2.1 m v) 0 (by omega) ⟨0, by omega, rfl, rfl, fun i hi => absurd hi (Nat.not_lt_zero i)⟩)
    rintro n z kk ⟨j, hj, rfl, rfl, hz⟩ ih
    unfold f_X4_hasVoiceOf_B20
    refine zT_bindE cS (zT_ite (fun r => ?_) (fun r => ?_))
    · rw [iI_lt (by omega) (by omega) (by omega) (by omega)] at r
      have hj2 : j < S.2.2.1 m v := by omega
      have o1 := okC_ev h hm hv hj2
      have o2 := okC_ev d2 (m := 0) (e := j) (by omega) hv (by omega)
      have b1 := pk_b o1
      have b2 := pk_b o2
      have eX := X4_code_at (N := N) (m := 0) (e := j) d2 d3' (by omega) hv (by omega)
      rw [d1] at eX
      have eX' : f_X4_code N (iI 1) dc 0 (iI v) (iI j) = some (iI (pk0 (some (X.2.2.2 0 v j)))) := eX
      refine zT_bindE (X4_code_at h hR hm hv hj2) (zT_bindE eX' ?_)
      have ep : (iI (pk0 (some (S.2.2.2 m v j))) = iI (pk0 (some (X.2.2.2 0 v j)))) = (S.2.2.2 m v j = X.2.2.2 0 v j) := by
        show (iI (pk (S.2.2.2 m v j)) = iI (pk (X.2.2.2 0 v j))) = _
        rw [iI_eq (by omega) (by omega) (by omega) (by omega)]
        exact propext ⟨fun y => pk_inj o1 o2 y, fun y => by rw [y]⟩
      refine zT_ite (fun r2 => ?_) (fun r2 => ?_)
      · rw [ep] at r2
        refine zT_bindE rfl (ih (S.2.2.1 m v - (j + 1)) _ (by omega) ⟨j + 1, by omega, rfl, iIp1 _, fun i hi => ?_⟩)
        by_cases e1 : i = j
        · rw [e1]; exact r2
        · exact hz i (by omega)
      · rw [ep] at r2
        refine zT_some ?_
        rw [if_neg (fun y => r2 (y.2 j (by omega)))]
        rfl
    · rw [iI_lt (by omega) (by omega) (by omega) (by omega)] at r
      refine zT_some ?_
      rw [if_pos ⟨q, fun i hi => hz i (by omega)⟩]
      rfl
  · rw [if_neg (by rw [iI_eq (by omega) (by omega) (by omega) (by omega)]; omega), if_neg (fun y => q y.1)]
    rfl
theorem X4_agreesWith (h : okC S) (hR : RC S (iI S.1) cells) (hD : DR X dc) (hm : m < S.1) (hN : 200 ≤ N) : f_X4_agreesWith N (iI S.1) cells (iI 1) dc (iI m) = some (iI (if agP S m X then 1 else 0)) := by
  have v0 : f_X4_hasVoiceOf N (iI S.1) cells (iI 1) dc (iI m) 0 = _ := X4_hasVoiceOf (v := 0) h hR hD hm (by omega) hN
  have v1 : f_X4_hasVoiceOf N (iI S.1) cells (iI 1) dc (iI m) 1 = _ := X4_hasVoiceOf (v := 1) h hR hD hm (by omega) hN
  obtain ⟨d1, d2, d3⟩ := hD
  have d3' : RC X (iI X.1) dc := by rw [d1]; exact d3
  unfold f_X4_agreesWith
  refine z_eqT (zT_loop (fun n z => ∃ j : Nat, j ≤ 7 ∧ n = 7 - j ∧ z = iI j ∧ ∀ i, i < j → X.2.1 0 i = -100 ∨ X.2.1 0 i = S.2.1 m i) ?_ N 7 0 (by omega) ⟨0, by omega, rfl, rfl, fun i hi => absurd hi (Nat.not_lt_zero i)⟩)
  rintro n z kk ⟨j, hj, rfl, rfl, hz⟩ ih
  unfold f_X4_agreesWith_B2
  refine zT_ite (fun r => ?_) (fun r => ?_)
  · rw [iL7, iI_lt (by omega) (by omega) (by omega) (by omega)] at r
    have hj2 : j < 7 := by omega
    have eX := X4_value_at (N := N) (m := 0) d2 d3' (by omega) hj2
    rw [d1] at eX
    have eX' : f_X4_value N (iI 1) dc 0 (iI j) = some (iI (X.2.1 0 j)) := eX
    have bx := (d2.2 0 (by omega)).1 j hj2
    have bs := (h.2 m hm).1 j hj2
    have em : (iI (X.2.1 0 j) = -100) = (X.2.1 0 j = -100) := by
      rw [show (-100 : Int32) = iI (-100) from rfl, iI_eq (by omega) (by omega) (by omega) (by omega)]
    have nxt : (X.2.1 0 j = -100 ∨ X.2.1 0 j = S.2.1 m j) → ∀ i, i < j + 1 → X.2.1 0 i = -100 ∨ X.2.1 0 i = S.2.1 m i := fun y i hi => by
      by_cases e1 : i = j
      · rw [e1]; exact y
      · exact hz i (by omega)
    refine zT_bindE eX' (zT_ite (fun q => ?_) (fun q => ?_))
    · rw [em] at q
      exact zT_bindE rfl (ih (7 - (j + 1)) _ (by omega) ⟨j + 1, by omega, rfl, iIp1 _, nxt (Or.inl q)⟩)
    · rw [em] at q
      refine zT_bindE (X4_value_at h hR hm hj2) (zT_ite (fun q2 => ?_) (fun q2 => ?_))
      · rw [iI_eq (by omega) (by omega) (by omega) (by omega)] at q2
        exact zT_bindE rfl (ih (7 - (j + 1)) _ (by omega) ⟨j + 1, by omega, rfl, iIp1 _, nxt (Or.inr q2)⟩)
      · rw [iI_eq (by omega) (by omega) (by omega) (by omega)] at q2
        refine zT_some ?_
        rw [if_neg (fun y => (y.1 j hj2).elim q q2)]
        rfl
  · rw [iL7, iI_lt (by omega) (by omega) (by omega) (by omega)] at r
    obtain rfl : j = 7 := by omega
    refine zT_bindE v0 ?_
    by_cases q : agE S m X 0
    · rw [if_pos q, if_neg (show ¬ iI 1 = 0 from ne10)]
      refine zT_bindE v1 ?_
      by_cases q2 : agE S m X 1
      · rw [if_pos q2, if_neg (show ¬ iI 1 = 0 from ne10), if_pos ⟨hz, q, q2⟩]
        exact zT_some rfl
      · rw [if_neg q2, if_pos (show iI 0 = 0 from rfl), if_neg (fun y => q2 y.2.2)]
        exact zT_some rfl
    · rw [if_neg q, if_pos (show iI 0 = 0 from rfl), if_neg (fun y => q y.2.1)]
      exact zT_some rfl
theorem cmE_b {x : zEv} (hx : okE x) (c : Nat) : -1 ≤ cmE x c ∧ cmE x c ≤ 62 := by
  have hb := okE_b hx
  unfold cmE
  split
  · omega
  · split
    · omega
    · split <;> omega
theorem cmE_all {x y : zEv} (h : ∀ c, c < 4 → cmE x c = cmE y c) : x = y := by
  obtain ⟨x1, x2, x3, x4⟩ := x
  obtain ⟨y1, y2, y3, y4⟩ := y
  have h0 : x1 = y1 := h 0 (by omega)
  have h1 : x2 = y2 := h 1 (by omega)
  have h2 : x3 = y3 := h 2 (by omega)
  have h3 : x4 = y4 := h 3 (by omega)
  rw [h0, h1, h2, h3]
theorem RD_cm (hB : RDV X rd v) {k : Nat} (hk : k < 4 * X.2.2.1 0 v) : rd (9 + 96 * v + k) = iI (cmE (X.2.2.2 0 v (k / 4)) (k % 4)) := by
  obtain ⟨g1, g2, g3, g4⟩ := (hB.2 (k / 4) (by omega)).1
  have h4 : k = 4 * (k / 4) + k % 4 := by omega
  unfold cmE
  rcases (show k % 4 = 0 ∨ k % 4 = 1 ∨ k % 4 = 2 ∨ k % 4 = 3 by omega) with q | q | q | q
  · rw [q, if_pos rfl, ← g1]; congr 1 <;> omega
  · rw [q, if_neg (by omega), if_pos rfl, ← g2]; congr 1 <;> omega
  · rw [q, if_neg (by omega), if_neg (by omega), if_pos rfl, ← g3]; congr 1 <;> omega
  · rw [q, if_neg (by omega), if_neg (by omega), if_neg (by omega), ← g4]; congr 1 <;> omega
abbrev exA (S X : zSt) (m j : Nat) : Prop := ∀ k, k < j → k < 4 ∨ X.2.1 0 k = S.2.1 m k
end ZOC
