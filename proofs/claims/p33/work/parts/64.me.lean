section ZME
variable {N : Nat} {S : zSt} {st cells shifts held : Nat → Int32} {size code : Int32} {m v e k i j : Nat}
theorem X4_code_at (h : okC S) (hR : RC S (iI S.1) cells) (hm : m < S.1) (hv : v < 2) (he : e < S.2.2.1 m v) : f_X4_code N (iI S.1) cells (iI m) (iI v) (iI e) = some (iI (pk0 (some (S.2.2.2 m v e)))) := by
  have h1 := h.1
  have hC := okC_C h hm hv
  have e1 := X4_code (N := N) h hR (zIn_ m (by omega)) (zIn_ v (by omega)) (zIn_ e (by omega))
  rw [gE_at hm hv he] at e1
  exact e1
theorem X4_count_at (h : okC S) (hR : RC S (iI S.1) cells) (hm : m < S.1) (hv : v < 2) : f_X4_count N (iI S.1) cells (iI m) (iI v) = some (iI (S.2.2.1 m v)) := by
  have h1 := h.1
  rw [X4_count h hR (zIn_ m (by omega)) (zIn_ v (by omega)), gC_at hm hv]
theorem X0_ticks_at (h : okC S) (hm : m < S.1) (hv : v < 2) (he : e < S.2.2.1 m v) : f_X0_ticksOf N (iI (pk0 (some (S.2.2.2 m v e)))) = some (iI (tk (S.2.2.2 m v e).2.2.1)) := X0_ticksOf _ (oOk_some (okC_ev h hm hv he))
theorem X0_isNote_at (h : okC S) (hm : m < S.1) (hv : v < 2) (he : e < S.2.2.1 m v) : f_X0_isNote N (iI (pk0 (some (S.2.2.2 m v e)))) = some (iI (if (S.2.2.2 m v e).1 < 0 then 0 else 1)) := X0_isNote _ (oOk_some (okC_ev h hm hv he))
theorem X6_ticksAbove (h : okS S) (hR : RC S (iI S.1) cells) (hF : FSp S shifts 768) (hm : m < S.1) (hi : i < S.2.2.1 m 0) (hp : 0 ≤ (S.2.2.2 m 0 i).1) (hN : 30 ≤ N) : f_X6_ticksAbove N (iI S.1) shifts cells (iI m) (iI (soS S m 0 i)) (iI (gT S m 0 i)) (zMin (iI (gT S m 0 (i + 1))) (iI (gL S m))) = some (iI (crJ S m i (S.2.2.1 m 1))) := by
  have hC1 := okC_C h.1 hm (show 1 < 2 by omega)
  unfold f_X6_ticksAbove
  refine z_eqT (zT_bind (zT_mono (zT_loop (fun n s => ∃ j : Nat, j ≤ S.2.2.1 m 1 ∧ n = S.2.2.1 m 1 - j ∧ s = (iI (crJ S m i j), iI (gT S m 1 j), iI j)) ?_ N (S.2.2.1 m 1) (0, 0, 0) (by omega) ⟨0, by omega, rfl, rfl⟩) (fun a q => zT_some q)))
  rintro n s c ⟨j, hj, rfl, rfl⟩ ih
  unfold f_X6_ticksAbove_B9
  dsimp only
  refine zT_bindE (X4_count_at (v := 1) h.1 hR hm (by omega)) (zT_ite (fun q => ?_) (fun q => ?_))
  · rw [iI_lt (by omega) (by omega) (by omega) (by omega)] at q
    have hj : j < S.2.2.1 m 1 := by omega
    have tb := togS_b h hm hi hj
    have sb0 := soS_b h.1 hm (show 0 < 2 by omega) hi
    have sb1 := soS_b h.1 hm (show 1 < 2 by omega) hj
    refine zT_bindE (X4_code_at (v := 1) h.1 hR hm (by omega) hj) (zT_bindE (X0_ticks_at h.1 hm (by omega) hj) (zT_bindE rfl (zT_bindE (X0_isNote_at h.1 hm (by omega) hj) ?_)))
    rw [iI_add, show gT S m 1 j + tk (S.2.2.2 m 1 j).2.2.1 = gT S m 1 (j + 1) from rfl]
    refine zT_bindE (a := iI (crJ S m i (j + 1))) ?_ (zT_bindE rfl (ih (S.2.2.1 m 1 - (j + 1)) _ (by omega) ⟨j + 1, by omega, rfl, by rw [iIp1]; rfl⟩))
    rw [crJ]
    unfold crX
    by_cases q1 : (S.2.2.2 m 1 j).1 < 0
    · rw [if_pos q1, if_pos (show iI 0 = 0 from rfl), if_neg (by omega), Int.add_zero]
    · rw [if_neg q1, if_neg (show ¬ iI 1 = 0 by decide)]
      have hs : f_X6_sounding N (iI S.1) shifts cells (iI m) 1 (iI j) = _ := X6_sounding (N := N) (v := 1) h.1 hR hm (by omega) hj (by omega) hF
      rw [z_be hs, z_sb, ifI (by omega) (by omega) (by omega) (by omega)]
      by_cases q2 : soS S m 0 i < soS S m 1 j
      · rw [if_pos q2, if_pos ⟨⟨hp, by omega⟩, q2⟩, togS_cls h hm hi hj, iI_add]
      · rw [if_neg q2, if_neg (fun x => q2 x.2), Int.add_zero]
  · rw [iI_lt (by omega) (by omega) (by omega) (by omega)] at q
    rw [show j = S.2.2.1 m 1 by omega]
    exact zT_some rfl
theorem crJ_rest (hp : (S.2.2.2 m 0 i).1 < 0) (n : Nat) : crJ S m i n = 0 := by
  induction n with
  | zero => rfl
  | succ n ih =>
    rw [crJ, ih]
    unfold crX
    rw [if_neg (by omega)]
    rfl
theorem X6_crossedTicks (h : okS S) (hR : RC S (iI S.1) cells) (hF : FSp S shifts 768) (hm : m < S.1) (hN : 30 ≤ N) : f_X6_crossedTicks N (iI S.1) shifts cells (iI m) = some (iI (crI S m (S.2.2.1 m 0))) := by
  have hC0 := okC_C h.1 hm (show 0 < 2 by omega)
  unfold f_X6_crossedTicks
  rw [z_be (X4_ticks h hR hm)]
  refine z_eqT (zT_bind (zT_mono (zT_loop (fun n s => ∃ i : Nat, i ≤ S.2.2.1 m 0 ∧ n = S.2.2.1 m 0 - i ∧ s = (iI (crI S m i), iI (gT S m 0 i), iI i)) ?_ N (S.2.2.1 m 0) (0, 0, 0) (by omega) ⟨0, by omega, rfl, rfl⟩) (fun a q => zT_some q)))
  rintro n s c ⟨i, hi, rfl, rfl⟩ ih
  unfold f_X6_crossedTicks_B17
  dsimp only
  refine zT_bindE (X4_count_at (v := 0) h.1 hR hm (by omega)) (zT_ite (fun q => ?_) (fun q => ?_))
  · rw [iI_lt (by omega) (by omega) (by omega) (by omega)] at q
    have hi : i < S.2.2.1 m 0 := by omega
    refine zT_bindE (X4_code_at (v := 0) h.1 hR hm (by omega) hi) (zT_bindE (X0_ticks_at h.1 hm (by omega) hi) (zT_bindE rfl (zT_bindE (X0_isNote_at h.1 hm (by omega) hi) ?_)))
    rw [iI_add, show gT S m 0 i + tk (S.2.2.2 m 0 i).2.2.1 = gT S m 0 (i + 1) from rfl]
    refine zT_bindE (a := iI (crI S m (i + 1))) ?_ (zT_bindE rfl (ih (S.2.2.1 m 0 - (i + 1)) _ (by omega) ⟨i + 1, by omega, rfl, by rw [iIp1]; rfl⟩))
    rw [crI]
    by_cases q1 : (S.2.2.2 m 0 i).1 < 0
    · rw [if_pos q1, if_pos (show iI 0 = 0 from rfl), crJ_rest q1, Int.add_zero]
    · rw [if_neg q1, if_neg (show ¬ iI 1 = 0 by decide)]
      have hs : f_X6_sounding N (iI S.1) shifts cells (iI m) 0 (iI i) = _ := X6_sounding (N := N) (v := 0) h.1 hR hm (by omega) hi (by omega) hF
      rw [z_be hs, z_be (X6_ticksAbove h hR hF hm hi (by omega) hN), z_sb, iI_add]
  · rw [iI_lt (by omega) (by omega) (by omega) (by omega)] at q
    rw [show i = S.2.2.1 m 0 by omega]
    exact zT_some rfl
theorem C_crossings (h : okS S) (hR : RC S (iI S.1) cells) (hF : FSp S shifts 768) {a : Int} (ha : zInt a) (hN : 30 ≤ N) : f_X9_crossings N (iI S.1) cells shifts (iI a) = if 0 ≤ a ∧ a < S.1 then some (.inl (iI (crI S a.toNat (S.2.2.1 a.toNat 0)))) else some (.inr 0) := by
  unfold f_X9_crossings
  rw [zSub_rq (C_rqM h.1 ha)]
  by_cases q : 0 ≤ a ∧ a < S.1
  · obtain ⟨m, rfl⟩ := Int.eq_ofNat_of_zero_le q.1
    rw [if_pos q, if_pos q, z_be (X6_crossedTicks h hR hF (by omega) hN)]
    rfl
  · rw [if_neg q, if_neg q]
end ZME
