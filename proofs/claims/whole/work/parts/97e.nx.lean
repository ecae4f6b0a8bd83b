/-! ===== whether a text tells a measure ===== -/
abbrev agE (S : zSt) (m : Nat) (X : zSt) (v : Nat) : Prop := S.2.2.1 m v = X.2.2.1 0 v ∧ ∀ e, e < X.2.2.1 0 v → S.2.2.2 m v e = X.2.2.2 0 v e
abbrev agV (S : zSt) (m : Nat) (X : zSt) : Prop := ∀ k, k < 7 → X.2.1 0 k = -100 ∨ X.2.1 0 k = S.2.1 m k
abbrev agP (S : zSt) (m : Nat) (X : zSt) : Prop := agV S m X ∧ agE S m X 0 ∧ agE S m X 1
def cmE (x : zEv) (c : Nat) : Int := if c = 0 then x.1 else if c = 1 then x.2.1 else if c = 2 then x.2.2.1 else x.2.2.2
section ZOC
variable {N L t w v k m nx e : Nat} {T : Nat → Int} {tb text cells rd st held shifts past pf dc : Nat → Int32} {a b c nb hk ht code pn : Int32} {p : Nat × Nat} {s : pS} {lo hi : Int} {S X : zSt} {x : zEv} {hs : List zSt} {K : zKT} {M : zMT}
theorem pk_b {x : zEv} (hx : okE x) : 0 ≤ pk x ∧ pk x ≤ 20000 := by
  have hb := okE_b hx
  unfold pk
  split <;> omega
theorem X4_hasVoiceOf (h : okC S) (hR : RC S (iI S.1) cells) (hD : DR X dc) (hm : m < S.1) (hv : v < 2) (hN : 200 ≤ N) : f_X4_hasVoiceOf N (iI S.1) cells (iI 1) dc (iI m) (iI v) = some (iI (if agE S m X v then 1 else 0)) := by
  obtain ⟨d1, d2, d3⟩ := hD
  have d3' : RC X (iI X.1) dc := by rw [d1]; exact d3
  have hC := okC_C h hm hv
  have hCX := okC_C d2 (m := 0) (v := v) (by omega) hv
  have cS := X4_count_at (N := N) h hR hm hv
  have cX := X4_count_at (N := N) (m := 0) d2 d3' (by omega) hv
  rw [d1] at cX
  have cX' : f_X4_count N (iI 1) dc 0 (iI v) = some (iI (X.2.2.1 0 v)) := cX
  unfold f_X4_hasVoiceOf
  rw [z_be cS, z_be cX']
  by_cases q : S.2.2.1 m v = X.2.2.1 0 v
  · rw [if_pos (by rw [q])]
    refine z_eqT (zT_loop (fun n z => ∃ j : Nat, j ≤ S.2.2.1 m v ∧ n = S.2.2.1 m v - j ∧ z = iI j ∧ ∀ i, i < j → S.2.2.2 m v i = X.2.2.2 0 v i) ?_ N (S.2.2.1 m v) 0 (by omega) ⟨0, by omega, rfl, rfl, fun i hi => absurd hi (Nat.not_lt_zero i)⟩)
    rintro n z kk ⟨j, hj, rfl, rfl, hz⟩ ih
    unfold f_X4_hasVoiceOf_B20
    refine zT_bindE cS (zT_ite (fun r => ?_) (fun r => ?_))
    · rw [iI_lt (by omega) (by omega) (by omega) (by omega)] at r
      have hj2 : j < S.2.2.1 m v := by omega
      have o1 := okC_ev h hm hv hj2
      have o2 := okC_ev d2 (m := 0) (e := j) (by omega) hv (by omega)
      have b1 := pk_b o1
      have b2 := pk_b o2
      have eX := X4_code_at (N := N) (m := 0) (e := j) d2 d3' (by omega) hv (by omega)
      rw [d1] at eX
      have eX' : f_X4_code N (iI 1) dc 0 (iI v) (iI j) = some (iI (pk0 (some (X.2.2.2 0 v j)))) := eX
      refine zT_bindE (X4_code_at h hR hm hv hj2) (zT_bindE eX' ?_)
      have ep : (iI (pk0 (some (S.2.2.2 m v j))) = iI (pk0 (some (X.2.2.2 0 v j)))) = (S.2.2.2 m v j = X.2.2.2 0 v j) := by
        show (iI (pk (S.2.2.2 m v j)) = iI (pk (X.2.2.2 0 v j))) = _
        rw [iI_eq (by omega) (by omega) (by omega) (by omega)]
        exact propext ⟨fun y => pk_inj o1 o2 y, fun y => by rw [y]⟩
      refine zT_ite (fun r2 => ?_) (fun r2 => ?_)
      · rw [ep] at r2
        refine zT_bindE rfl (ih (S.2.2.1 m v - (j + 1)) _ (by omega) ⟨j + 1, by omega, rfl, iIp1 _, fun i hi => ?_⟩)
        by_cases e1 : i = j
        · rw [e1]; exact r2
        · exact hz i (by omega)
      · rw [ep] at r2
        refine zT_some ?_
        rw [if_neg (fun y => r2 (y.2 j (by omega)))]
        rfl
    · rw [iI_lt (by omega) (by omega) (by omega) (by omega)] at r
      refine zT_some ?_
      rw [if_pos ⟨q, fun i hi => hz i (by omega)⟩]
      rfl
  · rw [if_neg (by rw [iI_eq (by omega) (by omega) (by omega) (by omega)]; omega), if_neg (fun y => q y.1)]
    rfl
theorem X4_agreesWith (h : okC S) (hR : RC S (iI S.1) cells) (hD : DR X dc) (hm : m < S.1) (hN : 200 ≤ N) : f_X4_agreesWith N (iI S.1) cells (iI 1) dc (iI m) = some (iI (if agP S m X then 1 else 0)) := by
  have v0 : f_X4_hasVoiceOf N (iI S.1) cells (iI 1) dc (iI m) 0 = _ := X4_hasVoiceOf (v := 0) h hR hD hm (by omega) hN
  have v1 : f_X4_hasVoiceOf N (iI S.1) cells (iI 1) dc (iI m) 1 = _ := X4_hasVoiceOf (v := 1) h hR hD hm (by omega) hN
  obtain ⟨d1, d2, d3⟩ := hD
  have d3' : RC X (iI X.1) dc := by rw [d1]; exact d3
  unfold f_X4_agreesWith
  refine z_eqT (zT_loop (fun n z => ∃ j : Nat, j ≤ 7 ∧ n = 7 - j ∧ z = iI j ∧ ∀ i, i < j → X.2.1 0 i = -100 ∨ X.2.1 0 i = S.2.1 m i) ?_ N 7 0 (by omega) ⟨0, by omega, rfl, rfl, fun i hi => absurd hi (Nat.not_lt_zero i)⟩)
  rintro n z kk ⟨j, hj, rfl, rfl, hz⟩ ih
  unfold f_X4_agreesWith_B2
  refine zT_ite (fun r => ?_) (fun r => ?_)
  · rw [iL7, iI_lt (by omega) (by omega) (by omega) (by omega)] at r
    have hj2 : j < 7 := by omega
    have eX := X4_value_at (N := N) (m := 0) d2 d3' (by omega) hj2
    rw [d1] at eX
    have eX' : f_X4_value N (iI 1) dc 0 (iI j) = some (iI (X.2.1 0 j)) := eX
    have bx := (d2.2 0 (by omega)).1 j hj2
    have bs := (h.2 m hm).1 j hj2
    have em : (iI (X.2.1 0 j) = -100) = (X.2.1 0 j = -100) := by
      rw [show (-100 : Int32) = iI (-100) from rfl, iI_eq (by omega) (by omega) (by omega) (by omega)]
    have nxt : (X.2.1 0 j = -100 ∨ X.2.1 0 j = S.2.1 m j) → ∀ i, i < j + 1 → X.2.1 0 i = -100 ∨ X.2.1 0 i = S.2.1 m i := fun y i hi => by
      by_cases e1 : i = j
      · rw [e1]; exact y
      · exact hz i (by omega)
    refine zT_bindE eX' (zT_ite (fun q => ?_) (fun q => ?_))
    · rw [em] at q
      exact zT_bindE rfl (ih (7 - (j + 1)) _ (by omega) ⟨j + 1, by omega, rfl, iIp1 _, nxt (Or.inl q)⟩)
    · rw [em] at q
      refine zT_bindE (X4_value_at h hR hm hj2) (zT_ite (fun q2 => ?_) (fun q2 => ?_))
      · rw [iI_eq (by omega) (by omega) (by omega) (by omega)] at q2
        exact zT_bindE rfl (ih (7 - (j + 1)) _ (by omega) ⟨j + 1, by omega, rfl, iIp1 _, nxt (Or.inr q2)⟩)
      · rw [iI_eq (by omega) (by omega) (by omega) (by omega)] at q2
        refine zT_some ?_
        rw [if_neg (fun y => (y.1 j hj2).elim q q2)]
        rfl
  · rw [iL7, iI_lt (by omega) (by omega) (by omega) (by omega)] at r
    obtain rfl : j = 7 := by omega
    refine zT_bindE v0 ?_
    by_cases q : agE S m X 0
    · rw [if_pos q, if_neg (show ¬ iI 1 = 0 from ne10)]
      refine zT_bindE v1 ?_
      by_cases q2 : agE S m X 1
      · rw [if_pos q2, if_neg (show ¬ iI 1 = 0 from ne10), if_pos ⟨hz, q, q2⟩]
        exact zT_some rfl
      · rw [if_neg q2, if_pos (show iI 0 = 0 from rfl), if_neg (fun y => q2 y.2.2)]
        exact zT_some rfl
    · rw [if_neg q, if_pos (show iI 0 = 0 from rfl), if_neg (fun y => q y.2.1)]
      exact zT_some rfl
theorem cmE_b {x : zEv} (hx : okE x) (c : Nat) : -1 ≤ cmE x c ∧ cmE x c ≤ 62 := by
  have hb := okE_b hx
  unfold cmE
  split
  · omega
  · split
    · omega
    · split <;> omega
theorem cmE_all {x y : zEv} (h : ∀ c, c < 4 → cmE x c = cmE y c) : x = y := by
  obtain ⟨x1, x2, x3, x4⟩ := x
  obtain ⟨y1, y2, y3, y4⟩ := y
  have h0 : x1 = y1 := h 0 (by omega)
  have h1 : x2 = y2 := h 1 (by omega)
  have h2 : x3 = y3 := h 2 (by omega)
  have h3 : x4 = y4 := h 3 (by omega)
  rw [h0, h1, h2, h3]
theorem RD_cm (hB : RDV X rd v) {k : Nat} (hk : k < 4 * X.2.2.1 0 v) : rd (9 + 96 * v + k) = iI (cmE (X.2.2.2 0 v (k / 4)) (k % 4)) := by
  obtain ⟨g1, g2, g3, g4⟩ := (hB.2 (k / 4) (by omega)).1
  have h4 : k = 4 * (k / 4) + k % 4 := by omega
  unfold cmE
  rcases (show k % 4 = 0 ∨ k % 4 = 1 ∨ k % 4 = 2 ∨ k % 4 = 3 by omega) with q | q | q | q
  · rw [q, if_pos rfl, ← g1]; congr 1 <;> omega
  · rw [q, if_neg (by omega), if_pos rfl, ← g2]; congr 1 <;> omega
  · rw [q, if_neg (by omega), if_neg (by omega), if_pos rfl, ← g3]; congr 1 <;> omega
  · rw [q, if_neg (by omega), if_neg (by omega), if_neg (by omega), ← g4]; congr 1 <;> omega
theorem ST_cm (hR : RM S st) (hm : m < S.1) (hv : v < 2) {k : Nat} (hk : k < 4 * S.2.2.1 m v) : st (201 * m + 1 + (9 + 96 * v + k)) = iI (cmE (S.2.2.2 m v (k / 4)) (k % 4)) := by
  obtain ⟨g1, g2, g3, g4⟩ := ((hR.2 m hm).2 v hv).2 (k / 4) (by omega)
  have h4 : k = 4 * (k / 4) + k % 4 := by omega
  unfold cmE
  rcases (show k % 4 = 0 ∨ k % 4 = 1 ∨ k % 4 = 2 ∨ k % 4 = 3 by omega) with q | q | q | q
  · rw [q, if_pos rfl, ← g1]; congr 1 <;> omega
  · rw [q, if_neg (by omega), if_pos rfl, ← g2]; congr 1 <;> omega
  · rw [q, if_neg (by omega), if_neg (by omega), if_pos rfl, ← g3]; congr 1 <;> omega
  · rw [q, if_neg (by omega), if_neg (by omega), if_neg (by omega), ← g4]; congr 1 <;> omega
theorem X10_isRead (h : okC S) (hR : RM S st) (hm : m < S.1) (hv : v < 2) (hB : RDB X rd) (hN : 200 ≤ N) : f_X10_isRead N rd st (iI m) (iI v) = some (iI (if agE S m X v then 1 else 0)) := by
  have h1 := h.1
  obtain ⟨b1, b2⟩ := hB v hv
  have hC := okC_C h hm hv
  have hCX := b2.1
  have eo : f_X10_of N st (iI m) (7 + iI v) = some (iI (S.2.2.1 m v)) := by
    rw [iL7, iI_add]
    exact X10_of_C h hR hm hv rfl
  have el : zAld rd 201 (7 + iI v) = some (iI (X.2.2.1 0 v)) := by
    have e7 : (7 : Int32) + iI (v : Int) = iI ((7 + v : Nat) : Int) := iIn 7 v
    rw [e7, ld201 _ (by omega), b1]
  have ei : (if iI (S.2.2.1 m v : Int) = iI (X.2.2.1 0 v) then some (1 : Int32) else some 0) = some (if S.2.2.1 m v = X.2.2.1 0 v then 1 else 0) := by
    by_cases q : S.2.2.1 m v = X.2.2.1 0 v
    · rw [if_pos q, if_pos (by rw [q])]
    · rw [if_neg q, if_neg (by rw [iI_eq (by omega) (by omega) (by omega) (by omega)]; omega)]
  have e9 : (9 : Int32) + 96 * iI (v : Int) = iI ((9 + 96 * v : Nat) : Int) := by
    rw [iL9, iL96, iI_mul, iI_add]; congr 1
  unfold f_X10_isRead
  rw [z_sb, z_be eo, z_be el, z_be ei, e9]
  have hl : zLoop (f_X10_isRead_B39 N rd (iI v) st (iI m) (iI ((9 + 96 * v : Nat) : Int))) N ((if S.2.2.1 m v = X.2.2.1 0 v then 1 else 0), 0) = some (iI (if agE S m X v then 1 else 0)) := by
    refine z_eqT (zT_loop (fun n z => ∃ j : Nat, j ≤ 4 * X.2.2.1 0 v ∧ n = 4 * X.2.2.1 0 v - j ∧ z.2 = iI j ∧ ((z.1 = 1 ∧ S.2.2.1 m v = X.2.2.1 0 v ∧ ∀ i, i < j → cmE (S.2.2.2 m v (i / 4)) (i % 4) = cmE (X.2.2.2 0 v (i / 4)) (i % 4)) ∨ (z.1 = 0 ∧ ¬ agE S m X v))) ?_ N (4 * X.2.2.1 0 v) _ (by omega) ⟨0, by omega, rfl, rfl, ?_⟩)
    · rintro n ⟨z1, z2⟩ kk ⟨j, hj, rfl, rfl, hz⟩ ih
      unfold f_X10_isRead_B39
      dsimp only at hz ⊢
      refine zT_bindE el ?_
      have e4 : (4 : Int32) * iI (X.2.2.1 0 v : Int) = iI ((4 * X.2.2.1 0 v : Nat) : Int) := by rw [iL4, iI_mul]; congr 1
      rw [e4]
      refine zT_ite (fun r => ?_) (fun r => ?_)
      · rw [iI_lt (by omega) (by omega) (by omega) (by omega)] at r
        rcases hz with ⟨rfl, hc, hz⟩ | ⟨rfl, hz⟩
        · rw [if_neg ne10]
          have hj2 : j < 4 * X.2.2.1 0 v := by omega
          have o1 := okC_ev h hm hv (show j / 4 < S.2.2.1 m v by omega)
          have o2 := (b2.2 (j / 4) (by omega)).2
          have c1 := cmE_b o1 (j % 4)
          have c2 := cmE_b o2 (j % 4)
          have ej : iI ((9 + 96 * v : Nat) : Int) + iI (j : Int) = iI ((9 + 96 * v + j : Nat) : Int) := iIn _ _
          have eo2 : f_X10_of N st (iI m) (iI ((9 + 96 * v : Nat) : Int) + iI j) = some (iI (cmE (S.2.2.2 m v (j / 4)) (j % 4))) := by
            rw [ej]
            unfold f_X10_of
            rw [iL1, iL201, iI_mul, iI_add, iI_add, zAldI (by omega) (by omega) (by omega), z_sb, show ((1 : Int) + 201 * m + ((9 + 96 * v + j : Nat) : Int)).toNat = 201 * m + 1 + (9 + 96 * v + j) by omega, ST_cm hR hm hv (by omega)]
          have el2 : zAld rd 201 (iI ((9 + 96 * v : Nat) : Int) + iI j) = some (iI (cmE (X.2.2.2 0 v (j / 4)) (j % 4))) := by
            rw [ej, ld201 _ (by omega), RD_cm b2 hj2]
          refine zT_bindE eo2 (zT_bindE el2 ?_)
          by_cases q : cmE (S.2.2.2 m v (j / 4)) (j % 4) = cmE (X.2.2.2 0 v (j / 4)) (j % 4)
          · rw [if_pos (by rw [q])]
            refine zT_bindE rfl (zT_bindE rfl (ih (4 * X.2.2.1 0 v - (j + 1)) _ (by omega) ⟨j + 1, by omega, rfl, iIp1 _, Or.inl ⟨rfl, hc, fun i hi => ?_⟩⟩))
            by_cases e1 : i = j
            · rw [e1]; exact q
            · exact hz i (by omega)
          · rw [if_neg (by rw [iI_eq (by omega) (by omega) (by omega) (by omega)]; exact q)]
            refine zT_bindE rfl (zT_bindE rfl (ih (4 * X.2.2.1 0 v - (j + 1)) _ (by omega) ⟨j + 1, by omega, rfl, iIp1 _, Or.inr ⟨rfl, fun y => q ?_⟩⟩))
            rw [y.2 (j / 4) (by omega)]
        · rw [if_pos rfl, if_neg hz]
          exact zT_some rfl
      · rw [iI_lt (by omega) (by omega) (by omega) (by omega)] at r
        rcases hz with ⟨rfl, hc, hz⟩ | ⟨rfl, hz⟩
        · rw [if_pos (show agE S m X v from ⟨hc, fun e he => cmE_all (fun c hc2 => by
            have := hz (4 * e + c) (by omega)
            rw [show (4 * e + c) / 4 = e by omega, show (4 * e + c) % 4 = c by omega] at this
            exact this)⟩)]
          exact zT_some rfl
        · rw [if_neg hz]
          exact zT_some rfl
    · dsimp only
      by_cases q : S.2.2.1 m v = X.2.2.1 0 v
      · rw [if_pos q]
        exact Or.inl ⟨rfl, q, fun i hi => absurd hi (Nat.not_lt_zero i)⟩
      · rw [if_neg q]
        exact Or.inr ⟨rfl, fun y => q y.1⟩
  rw [z_be hl]
  by_cases q : agE S m X v
  · rw [if_pos q]; rfl
  · rw [if_neg q]; rfl
abbrev exA (S X : zSt) (m j : Nat) : Prop := ∀ k, k < j → k < 4 ∨ X.2.1 0 k = S.2.1 m k
theorem X10_tellsA {r4 : Int32 × Int32 × Int32 × Int32 × Int32 × Int32 × (Nat → Int32)} (h : okC S) (hR : RM S st) (hm : m < S.1) (hA : RDA X r4.2.2.1 r4.2.2.2.1 r4.2.2.2.2.2.2) {P : Prop} [Decidable P] (hN : 200 ≤ N) : zLoop (f_X10_tells_B55 N st (iI m) r4) N ((if P then 1 else 0), 4) = some (if P ∧ exA S X m 7 then 1 else 0) := by
  obtain ⟨a1, a2, a3, a4, a5, a6, a7⟩ := hA
  refine z_eqT (zT_loop (fun n z => ∃ j : Nat, 4 ≤ j ∧ j ≤ 7 ∧ n = 7 - j ∧ z.2 = iI j ∧ z.1 = if P ∧ exA S X m j then 1 else 0) ?_ N 3 _ (by omega) ⟨4, by omega, by omega, rfl, rfl, ?_⟩)
  · rintro n ⟨z1, z2⟩ kk ⟨j, hj1, hj, rfl, rfl, hz⟩ ih
    unfold f_X10_tells_B55
    dsimp only at hz ⊢
    subst hz
    refine zT_ite (fun r => ?_) (fun r => ?_)
    · rw [iL6, iI_lt (by omega) (by omega) (by omega) (by omega)] at r
      rw [show j = 7 by omega]
      exact zT_some rfl
    · rw [iL6, iI_lt (by omega) (by omega) (by omega) (by omega)] at r
      have bs := (h.2 m hm).1 j (by omega)
      have hx : r4.2.2.2.2.2.2 j = iI (X.2.1 0 j) ∧ -100 ≤ X.2.1 0 j ∧ X.2.1 0 j ≤ 100 := by
        rcases (show j = 4 ∨ j = 5 ∨ j = 6 by omega) with rfl | rfl | rfl
        · exact ⟨a2.1, by omega, by omega⟩
        · exact ⟨a2.2.1, by omega, by omega⟩
        · exact ⟨a2.2.2, by omega, by omega⟩
      have e15 : (if (if P ∧ exA S X m j then (1 : Int32) else 0) = 0 then some (0 : Int32) else Option.bind (f_X10_of N st (iI m) (iI (j : Int))) (fun (r17_ : Int32) => Option.bind (zAld r4.2.2.2.2.2.2 201 (iI (j : Int))) (fun (x18_ : Int32) => if r17_ = x18_ then some 1 else some 0))) = some (if P ∧ exA S X m (j + 1) then 1 else 0) := by
        by_cases q : P ∧ exA S X m j
        · rw [if_pos q, if_neg ne10, z_be (X10_of_V h hR hm (k := j) (a := j) (by omega) rfl), z_be (ld201 _ (by omega)), hx.1]
          by_cases q2 : X.2.1 0 j = S.2.1 m j
          · rw [if_pos (by rw [q2]), if_pos ⟨q.1, fun k h2 => by
              by_cases e1 : k = j
              · exact Or.inr (by rw [e1]; exact q2)
              · exact q.2 k (by omega)⟩]
          · rw [if_neg (by rw [iI_eq (by omega) (by omega) (by omega) (by omega)]; omega), if_neg (fun y => q2 ((y.2 j (by omega)).elim (fun z => absurd z (by omega)) (fun z => z)))]
        · rw [if_neg q, if_pos rfl, if_neg (fun y => q ⟨y.1, fun k h2 => y.2 k (by omega)⟩)]
      exact zT_bindE e15 (zT_bindE rfl (ih (7 - (j + 1)) _ (by omega) ⟨j + 1, by omega, by omega, rfl, iIp1 _, rfl⟩))
  · dsimp only
    by_cases q : P
    · rw [if_pos q, if_pos ⟨q, fun k h1 => Or.inl h1⟩]
    · rw [if_neg q, if_neg (fun y => q y.1)]
theorem zk_tells (hN : 20000 ≤ N) (hZ : zZ K M) (y1 : Int32) : zS_tells N zZ K M y1 := by
  obtain ⟨S, hs, nx, L, T, h0, hk, hO, hC, hT, hH, hF, hX, hP, hS, hR⟩ := hZ
  obtain ⟨a1, rfl, hz1⟩ := iI_all y1
  obtain ⟨u1, u2, u3, u4, u5, u6⟩ := h0
  have h0 : zQ0 S hs nx L T := ⟨u1, u2, u3, u4, u5, u6⟩
  have e6 := hC.1
  have h1 := u1.1.1
  rw [e6] at hC
  have hTT : okT T L := ⟨u5, u6⟩
  unfold zS_tells
  rw [e6, hS, hT.1, hX.1]
  by_cases q : 0 ≤ a1 ∧ a1 < S.1
  · obtain ⟨m, rfl⟩ := Int.eq_ofNat_of_zero_le q.1
    have hm : m < S.1 := by omega
    obtain ⟨r, hr, r1, r2, r3, r4⟩ := X3_findFault (N := N) (a := K.2.2.2.1) (b := K.2.2.2.2.1) (c := K.2.2.2.2.2.1) (nb := K.2.2.2.2.2.2.2.2.2.2.2.2.2.2.2.1) (cells := K.2.2.2.2.2.2.2.2.2.2.2.2.2.2.2.2.2.2.2.2.2.2.2.2.2) (tb := K.2.2.2.2.2.2.2.2.2.2.2.2.2.2.2.2.2.2.2.2.1) hTT ⟨rfl, hT.2⟩ (by omega)
    obtain ⟨g, hg, hF2⟩ := X10_readsAll (N := N) (a := M.2.1) (hk := M.2.2.2.1) (ht := M.2.2.2.2.1) (nb := M.2.2.2.2.2.2.2.2.2.1) (b := M.2.2.2.2.2.2.2.2.2.2.2.2.1) (rd := M.2.2.2.2.2.2.2.2.2.2.2.2.2.2.2.2.1) (text := M.2.2.2.2.2.2.2.2.2.2.2.2.2.2.2.2.2.2.2) hTT ⟨rfl, hX.2⟩ (by omega)
    have ef := eqF (okP_fa hTT)
    have em := z_p1 q (X10_isMeasure (N := N) u1.1 hR hz1)
    rcases hF2 with ⟨m1, m2, m3, m4⟩ | ⟨m1, m2, m3⟩
    · generalize (faS T L).2.2 = X at r4 m3 m4
      have ea := X4_agreesWith (N := N) u1.1 hC r4 hm (by omega)
      have ec : ∃ a : Int32 × Int32 × Int32 × Int32 × Int32 × (Nat → Int32), f_X9_tells N K.2.2.2.1 K.2.2.2.2.1 K.2.2.2.2.2.1 (iI S.1) (iI L) K.2.2.2.2.2.2.2.2.2.2.2.2.2.2.2.1 K.2.2.2.2.2.2.2.2.2.2.2.2.2.2.2.2.1 K.2.2.2.2.2.2.2.2.2.2.2.2.2.2.2.2.2.2.2.2.1 K.2.2.2.2.2.2.2.2.2.2.2.2.2.2.2.2.2.2.2.2.2.2.2.2.2 (iI m) = some (.inl a) ∧ a.1 = if agP S m X then 1 else 0 := by
        unfold f_X9_tells
        rw [zSub_rq (C_rqM u1.1 hz1), if_pos q, z_be hr, if_pos (by rw [r1, ef]; exact m1), z_be (show f_X3_draft N = some () from rfl), r3, z_be ea]
        by_cases y : agP S m X
        · rw [if_pos y, if_neg (show ¬ iI 1 = 0 from ne10), if_pos y]
          exact ⟨_, rfl, rfl⟩
        · rw [if_neg y, if_pos (show iI 0 = 0 from rfl), if_neg y]
          exact ⟨_, rfl, rfl⟩
      have i0 : f_X10_isRead N g.2.2.2.2.2.2 M.2.2.2.2.2.2.2.2.2.2.2.2.2.2.2.2.2.2.1 (iI m) 0 = _ := X10_isRead (N := N) (v := 0) u1.1 hR hm (by omega) m4 (by omega)
      have i1 : f_X10_isRead N g.2.2.2.2.2.2 M.2.2.2.2.2.2.2.2.2.2.2.2.2.2.2.2.2.2.1 (iI m) 1 = _ := X10_isRead (N := N) (v := 1) u1.1 hR hm (by omega) m4 (by omega)
      have e6' : (if iI (if agE S m X 0 then 1 else 0) = 0 then some (0 : Int32) else Option.bind (f_X10_isRead N g.2.2.2.2.2.2 M.2.2.2.2.2.2.2.2.2.2.2.2.2.2.2.2.2.2.1 (iI m) 1) (fun (r19_ : Int32) => if r19_ = 0 then some 0 else some 1)) = some (if agE S m X 0 ∧ agE S m X 1 then 1 else 0) := by
        by_cases y : agE S m X 0
        · rw [if_pos y, if_neg (show ¬ iI 1 = 0 from ne10), z_be i1]
          by_cases y2 : agE S m X 1
          · rw [if_pos y2, if_neg (show ¬ iI 1 = 0 from ne10), if_pos ⟨y, y2⟩]
          · rw [if_neg y2, if_pos (show iI 0 = 0 from rfl), if_neg (fun z => y2 z.2)]
        · rw [if_neg y, if_pos (show iI 0 = 0 from rfl), if_neg (fun z => y z.1)]
      have el := X10_tellsA (N := N) (r4 := g) (P := agE S m X 0 ∧ agE S m X 1) u1.1 hR hm m3 (by omega)
      obtain ⟨a1', a2, a3, a4, a5, a6, a7⟩ := m3
      have o : ∀ k : Nat, k < 7 → f_X10_of N M.2.2.2.2.2.2.2.2.2.2.2.2.2.2.2.2.2.2.1 (iI m) (iI k) = some (iI (S.2.1 m k)) := fun k hk => X10_of_V u1.1 hR hm hk rfl
      have o0 : f_X10_of N M.2.2.2.2.2.2.2.2.2.2.2.2.2.2.2.2.2.2.1 (iI m) 0 = some (iI (S.2.1 m 0)) := o 0 (by omega)
      have o1 : f_X10_of N M.2.2.2.2.2.2.2.2.2.2.2.2.2.2.2.2.2.2.1 (iI m) 1 = some (iI (S.2.1 m 1)) := o 1 (by omega)
      have o2 : f_X10_of N M.2.2.2.2.2.2.2.2.2.2.2.2.2.2.2.2.2.2.1 (iI m) 2 = some (iI (S.2.1 m 2)) := o 2 (by omega)
      have l0 : zAld g.2.2.2.2.2.2 201 0 = some (g.2.2.2.2.2.2 0) := ld201 (j := 0) _ (by omega)
      have l1 : zAld g.2.2.2.2.2.2 201 1 = some (g.2.2.2.2.2.2 1) := ld201 (j := 1) _ (by omega)
      have l2 : zAld g.2.2.2.2.2.2 201 2 = some (g.2.2.2.2.2.2 2) := ld201 (j := 2) _ (by omega)
      have bs : ∀ k, k < 7 → -1000 ≤ S.2.1 m k ∧ S.2.1 m k ≤ 1000 := (u1.1.2 m hm).1
      have b0 := bs 0 (by omega)
      have b1 := bs 1 (by omega)
      have b2 := bs 2 (by omega)
      have e8 : (if g.2.2.1 = 0 then some (1 : Int32) else Option.bind (f_X10_of N M.2.2.2.2.2.2.2.2.2.2.2.2.2.2.2.2.2.2.1 (iI m) 0) (fun (r13_ : Int32) => Option.bind (zAld g.2.2.2.2.2.2 201 0) (fun (x14_ : Int32) => if r13_ = x14_ then some 1 else some 0))) = some (if X.2.1 0 0 = -100 ∨ X.2.1 0 0 = S.2.1 m 0 then 1 else 0) := by
        rcases a3 with ⟨g1, g2, g3, g4⟩ | ⟨g1, g2⟩
        · rw [if_neg (by rw [g1]; exact ne10), z_be o0, z_be l0, g2]
          by_cases y : X.2.1 0 0 = S.2.1 m 0
          · rw [if_pos (by rw [y]), if_pos (Or.inr y)]
          · rw [if_neg (by rw [iI_eq (by omega) (by omega) (by omega) (by omega)]; omega), if_neg (fun z => z.elim (fun z => by omega) y)]
        · rw [if_pos g1, if_pos (Or.inl g2)]
      have hag : agP S m X ↔ (((agE S m X 0 ∧ agE S m X 1) ∧ exA S X m 7) ∧ (X.2.1 0 0 = -100 ∨ X.2.1 0 0 = S.2.1 m 0)) ∧ (X.2.1 0 1 = -100 ∨ X.2.1 0 1 = S.2.1 m 1) ∧ (X.2.1 0 2 = -100 ∨ X.2.1 0 2 = S.2.1 m 2) := by
        constructor
        · rintro ⟨z1, z2, z3⟩
          refine ⟨⟨⟨⟨z2, z3⟩, fun k hk2 => if hk1 : k < 4 then Or.inl hk1 else Or.inr ((z1 k hk2).elim (fun z => ?_) (fun z => z))⟩, z1 0 (by omega)⟩, z1 1 (by omega), z1 2 (by omega)⟩
          rcases (show k = 4 ∨ k = 5 ∨ k = 6 by omega) with rfl | rfl | rfl <;> omega
        · rintro ⟨⟨⟨⟨z1, z2⟩, z3⟩, z4⟩, z5, z6⟩
          refine ⟨fun k hk => ?_, z1, z2⟩
          rcases (show k = 0 ∨ k = 1 ∨ k = 2 ∨ k = 3 ∨ 4 ≤ k by omega) with rfl | rfl | rfl | rfl | z
          · exact z4
          · exact z5
          · exact z6
          · exact Or.inl a1'
          · exact Or.inr ((z3 k hk).elim (fun w => absurd w (by omega)) (fun w => w))
      have em2 : ∃ b : Int32 × Int32 × Int32 × Int32 × Int32 × Int32 × Int32 × (Nat → Int32), f_X10_tells N M.1 M.2.1 M.2.2.2.1 M.2.2.2.2.1 (iI L) M.2.2.2.2.2.2.2.2.2.1 M.2.2.2.2.2.2.2.2.2.2.2.2.1 M.2.2.2.2.2.2.2.2.2.2.2.2.2.2.2.2.1 zSp M.2.2.2.2.2.2.2.2.2.2.2.2.2.2.2.2.2.2.1 M.2.2.2.2.2.2.2.2.2.2.2.2.2.2.2.2.2.2.2 (iI m) = some b ∧ b.1 = (if agP S m X then 1 else 0) ∧ b.2.1 = 0 := by
        unfold f_X10_tells
        rw [z_be em, if_neg ne10, z_sb, z_be (X10_ref0 _), if_pos (f00 0), z_be hg, if_neg (by rw [m2]; exact ne10), z_be i0, z_be e6', z_be el, z_be e8]
        by_cases y1 : (agE S m X 0 ∧ agE S m X 1) ∧ exA S X m 7
        · rw [if_pos y1, if_neg ne10]
          by_cases y2 : X.2.1 0 0 = -100 ∨ X.2.1 0 0 = S.2.1 m 0
          · rw [if_pos y2, if_neg ne10]
            rcases a4 with ⟨g1, g2, g3, g4, g5⟩ | ⟨g1, g2, g3⟩
            · rw [if_neg (by rw [g1]; exact ne10), z_be o1, z_be l1, g2]
              by_cases y3 : X.2.1 0 1 = S.2.1 m 1
              · rw [if_pos (by rw [y3]), z_be o2, z_be l2, g3]
                by_cases y4 : X.2.1 0 2 = S.2.1 m 2
                · rw [if_pos (by rw [y4]), if_pos (hag.mpr ⟨⟨y1, y2⟩, Or.inr y3, Or.inr y4⟩)]
                  exact ⟨_, rfl, rfl, rfl⟩
                · rw [if_neg (by rw [iI_eq (by omega) (by omega) (by omega) (by omega)]; omega), if_neg (fun z => (hag.mp z).2.2.elim (fun z => by omega) y4)]
                  exact ⟨_, rfl, rfl, rfl⟩
              · rw [if_neg (by rw [iI_eq (by omega) (by omega) (by omega) (by omega)]; omega), if_neg (fun z => (hag.mp z).2.1.elim (fun z => by omega) y3)]
                exact ⟨_, rfl, rfl, rfl⟩
            · rw [if_pos g1, if_pos (hag.mpr ⟨⟨y1, y2⟩, Or.inl g2, Or.inl g3⟩)]
              exact ⟨_, rfl, rfl, rfl⟩
          · rw [if_neg y2, if_pos rfl, if_neg (fun z => y2 (hag.mp z).1.2)]
            exact ⟨_, rfl, rfl, rfl⟩
        · rw [if_neg y1, if_pos rfl, if_neg (fun z => y1 (hag.mp z).1.1)]
          exact ⟨_, rfl, rfl, rfl⟩
      obtain ⟨a, hca, ca1⟩ := ec
      obtain ⟨b, hmb, mb1, mb2⟩ := em2
      refine ⟨b, hmb, Or.inl ⟨a, hca, mb2, ca1.trans mb1.symm, ?_, ⟨S, hs, nx, L, T, h0, hk, hO, hC, ⟨rfl, hT.2⟩, hH, hF, ⟨rfl, hX.2⟩, hP, rfl, hR⟩⟩⟩
      rw [ca1]
      by_cases y : agP S m X
      · rw [if_pos y]; exact Or.inr rfl
      · rw [if_neg y]; exact Or.inl rfl
    · refine ⟨(0, 0, g.2.1, g.2.2.1, g.2.2.2.1, g.2.2.2.2.1, g.2.2.2.2.2.1, g.2.2.2.2.2.2), ?_, Or.inl ⟨(0, r.2.1, r.2.2.1, r.2.2.2.1, r.2.2.2.2.1, r.2.2.2.2.2), ?_, rfl, rfl, Or.inl rfl, ⟨S, hs, nx, L, T, h0, hk, hO, hC, ⟨rfl, hT.2⟩, hH, hF, ⟨rfl, hX.2⟩, hP, rfl, hR⟩⟩⟩
      · unfold f_X10_tells
        rw [z_be em, if_neg ne10, z_sb, z_be (X10_ref0 _), if_pos (f00 0), z_be hg, if_pos (by rw [m2])]
      · unfold f_X9_tells
        rw [zSub_rq (C_rqM u1.1 hz1), if_pos q, z_be hr, if_neg (by rw [r1, ef]; exact m1)]
  · refine ⟨(0, 1, M.2.1, M.2.2.2.1, M.2.2.2.2.1, M.2.2.2.2.2.2.2.2.2.1, M.2.2.2.2.2.2.2.2.2.2.2.2.1, M.2.2.2.2.2.2.2.2.2.2.2.2.2.2.2.2.1), ?_, Or.inr ⟨?_, rfl, ⟨S, hs, nx, L, T, h0, hk, hO, ⟨e6, hC.2⟩, hT, hH, hF, ⟨rfl, hX.2⟩, hP, rfl, hR⟩⟩⟩
    · unfold f_X10_tells
      rw [z_be (z_p0 q (X10_isMeasure u1.1 hR hz1)), if_pos z00, z_sb, z_be (X10_ref1 _), if_neg (f10 1)]
    · unfold f_X9_tells
      rw [zSub_rq (C_rqM u1.1 hz1), if_neg q]
end ZOC
