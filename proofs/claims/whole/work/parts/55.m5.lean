/-! ===== values of a measure in the reference; the event at a tick ===== -/
section ZM5
variable {N : Nat} {S : zSt} {st cells : Nat → Int32} {size code : Int32} {m v e k : Nat}
theorem ne10 : ¬ (1 : Int32) = 0 := by decide
theorem X10_ref0 (c : Int32) : f_X10_refused N c 0 = some (0, 0) := if_neg (by decide)
theorem X10_ref1 (c : Int32) : f_X10_refused N c 1 = some (1, 1) := if_pos (by decide)
theorem X10_ref2 (c : Int32) : f_X10_refused N c 2 = some (1, 2) := if_pos (by decide)
theorem X10_ref3 (c : Int32) : f_X10_refused N c 3 = some (1, 3) := if_pos (by decide)
theorem X10_ref4 (c : Int32) : f_X10_refused N c 4 = some (1, 4) := if_pos (by decide)
theorem X10_ref5 (c : Int32) : f_X10_refused N c 5 = some (1, 5) := if_pos (by decide)
theorem z_p1 {P : Prop} [Decidable P] (h : P) {o : Option Int32} (e : o = some (iI (if P then 1 else 0))) : o = some 1 := by rw [e, if_pos h]; rfl
theorem z_p0 {P : Prop} [Decidable P] (h : ¬ P) {o : Option Int32} (e : o = some (iI (if P then 1 else 0))) : o = some 0 := by rw [e, if_neg h]; rfl
theorem f00 (x : Int32) : ((0, x) : Int32 × Int32).1 = 0 := rfl
theorem f10 (x : Int32) : ¬ ((1, x) : Int32 × Int32).1 = 0 := ne10
theorem z00 : (0 : Int32) = 0 := rfl
theorem X10_measureTold (h : okS S) (hR : RM S st) (hm : m < S.1) {b : Int} (hb : 0 ≤ b ∧ b ≤ 11) (hN : 30 ≤ N) : f_X10_measureTold N st (iI m) (iI b) = some (iI (mv S m b)) := by
  have t7 := X10_lasts (N := N) h hR hm
  have hC0 := okC_C h.1 (v := 0) hm (by omega)
  have hC1 := okC_C h.1 (v := 1) hm (by omega)
  unfold f_X10_measureTold mv
  rw [iL6, iL7, iL8, iL10]
  simp (disch := omega) only [iI_lt, iI_eq, iI_add, iI_sub]
  by_cases c6 : 6 < b
  · rw [if_pos c6]
    by_cases c7 : b = 7
    · rw [if_pos c7, if_pos c7, z_be t7]
    rw [if_neg c7, if_neg c7]
    by_cases c10 : b < 10
    · rw [if_pos c10]
      rcases (show b = 8 ∨ b = 9 by omega) with rfl | rfl
      · rw [z_be (X10_of_C (v := 0) h.1 hR hm (by omega) (by omega))]; rfl
      · rw [z_be (X10_of_C (v := 1) h.1 hR hm (by omega) (by omega))]; rfl
    · rw [if_neg c10]
      rcases (show b = 10 ∨ b = 11 by omega) with rfl | rfl
      · rw [z_be (X10_of_C (v := 0) h.1 hR hm (by omega) (by omega)), show iI (10 - 10) = iI ((0 : Nat) : Int) from rfl, z_be (X10_ticksTo h.1 hR hm (by omega) (Nat.le_refl _) hN)]; rfl
      · rw [z_be (X10_of_C (v := 1) h.1 hR hm (by omega) (by omega)), show iI (11 - 10) = iI ((1 : Nat) : Int) from rfl, z_be (X10_ticksTo h.1 hR hm (by omega) (Nat.le_refl _) hN)]; rfl
  · rw [if_neg c6, if_neg (by omega), if_neg (by omega), if_neg (by omega), if_neg (by omega), if_neg (by omega)]
    obtain ⟨w, rfl⟩ := Int.eq_ofNat_of_zero_le hb.1
    rw [z_be (X10_of_V (k := w) h.1 hR hm (by omega) rfl)]
    rfl
theorem M_measure (h : okS S) (hR : RM S st) {a b : Int} (ha : zInt a) (hb : zInt b) (hN : 30 ≤ N) : f_X10_measure N code st (iI a) (iI b) = if 0 ≤ a ∧ a < S.1 then (if 0 ≤ b ∧ b ≤ 11 then some (iI (mv S a.toNat b), 0) else some (0, 2)) else some (0, 1) := by
  have h1 := h.1.1
  unfold f_X10_measure
  by_cases q : 0 ≤ a ∧ a < S.1
  · rw [if_pos q, z_be (z_p1 q (X10_isMeasure h.1 hR ha)), if_neg ne10]
    have hi := X10_in (N := N) (a := 0) (b := 11) hb (by unfold zInt; omega) (by unfold zInt; omega)
    by_cases q2 : 0 ≤ b ∧ b ≤ 11
    · obtain ⟨m, rfl⟩ := Int.eq_ofNat_of_zero_le q.1
      have e2 : f_X10_in N (iI b) 0 11 = some 1 := z_p1 q2 hi
      rw [if_pos q2, z_be e2, if_neg ne10, z_sb, z_be (X10_ref0 code), if_pos (f00 0), z_be (X10_measureTold h hR (by omega) q2 hN)]
      rfl
    · have e2 : f_X10_in N (iI b) 0 11 = some 0 := z_p0 q2 hi
      rw [if_neg q2, z_be e2, if_pos z00, z_sb, z_be (X10_ref2 code), if_neg (f10 2)]
  · rw [if_neg q, z_be (z_p0 q (X10_isMeasure h.1 hR ha)), if_pos z00, z_sb, z_be (X10_ref1 code), if_neg (f10 1)]
/-- the event of a voice that lasts at a tick: the first e with tick < ticks to e + 1 -/
def evAt (S : zSt) (m v : Nat) (t : Int) : Nat → Nat → Int
  | 0, _ => -1000
  | n + 1, e => if t < gT S m v (e + 1) then e else evAt S m v t n (e + 1)
theorem C_eventAt (h : okC S) (hR : RC S (iI S.1) cells) {a b t : Int} (ha : zInt a) (hb : zInt b) (ht : zInt t) (hN : 30 ≤ N) : f_X9_eventAt N (iI S.1) cells (iI a) (iI b) (iI t) = if 0 ≤ a ∧ a < S.1 ∧ 0 ≤ b ∧ b < 2 then (if 0 ≤ t then some (.inl (iI (evAt S a.toNat b.toNat t (S.2.2.1 a.toNat b.toNat) 0))) else some (.inr 1)) else some (.inr 0) := by
  have h1 := h.1
  unfold f_X9_eventAt
  rw [zSub_rq (C_rqV h ha hb), zSub_rq (C_rqN ht)]
  by_cases q : 0 ≤ a ∧ a < S.1 ∧ 0 ≤ b ∧ b < 2
  · rw [if_pos q, if_pos q]
    by_cases q2 : 0 ≤ t
    · rw [if_pos q2, if_pos q2]
      obtain ⟨m, rfl⟩ := Int.eq_ofNat_of_zero_le q.1
      obtain ⟨v, rfl⟩ := Int.eq_ofNat_of_zero_le q.2.2.1
      have hm : m < S.1 := by omega
      have hv : v < 2 := by omega
      have hC := okC_C h hm hv
      simp only [Int.toNat_natCast]
      unfold zInt at ht
      refine z_eqT (zT_loop (fun n s => ∃ j : Nat, j ≤ S.2.2.1 m v ∧ n = S.2.2.1 m v - j ∧ s = (iI (gT S m v j), iI j) ∧ evAt S m v t (S.2.2.1 m v) 0 = evAt S m v t (S.2.2.1 m v - j) j) ?_ N (S.2.2.1 m v) (0, 0) (by omega) ⟨0, by omega, rfl, rfl, rfl⟩)
      rintro n s k ⟨j, hj, rfl, rfl, hE⟩ ih
      unfold f_X9_eventAt_B16
      dsimp only
      refine zT_bindE (X4_count h hR (zIn_ m (by omega)) (zIn_ v (by omega))) ?_
      rw [gC_at hm hv]
      refine zT_ite (fun q => ?_) (fun q => ?_)
      · rw [iI_lt (by omega) (by omega) (by omega) (by omega)] at q
        have hb := okE_b (okC_ev h hm hv (show j < S.2.2.1 m v by omega))
        have hT := gT_b h hm hv (j + 1) (by omega)
        refine zT_bindE (X4_code h hR (zIn_ m (by omega)) (zIn_ v (by omega)) (zIn_ j (by omega))) (zT_bindE (X0_ticksOf _ (gE_ok h _ _ _)) (zT_bindE rfl ?_))
        rw [gE_at hm hv (by omega), iI_add, show gT S m v j + tk (oD (some (S.2.2.2 m v j))) = gT S m v (j + 1) from rfl]
        rw [show S.2.2.1 m v - j = (S.2.2.1 m v - (j + 1)) + 1 by omega] at hE
        refine zT_ite (fun q3 => ?_) (fun q3 => ?_)
        · rw [iI_lt (by omega) (by omega) (by omega) (by omega)] at q3
          refine zT_some ?_
          rw [hE, evAt, if_pos q3]
        · rw [iI_lt (by omega) (by omega) (by omega) (by omega)] at q3
          rw [evAt, if_neg q3] at hE
          refine zT_bindE rfl (ih (S.2.2.1 m v - (j + 1)) _ (by omega) ⟨j + 1, by omega, rfl, by rw [iL1, iI_add]; rfl, hE⟩)
      · rw [iI_lt (by omega) (by omega) (by omega) (by omega)] at q
        rw [show S.2.2.1 m v - j = 0 by omega] at hE
        exact zT_some (by rw [hE]; rfl)
    · rw [if_neg q2, if_neg q2]
  · rw [if_neg q, if_neg q]
theorem M_eventAt (h : okC S) (hR : RM S st) {a b t : Int} (ha : zInt a) (hb : zInt b) (ht : zInt t) (hN : 30 ≤ N) : f_X10_eventAt N code st (iI a) (iI b) (iI t) = if 0 ≤ a ∧ a < S.1 ∧ 0 ≤ b ∧ b < 2 then (if 0 ≤ t then some (iI (evAt S a.toNat b.toNat t (S.2.2.1 a.toNat b.toNat) 0), 0) else some (0, 2)) else some (0, 1) := by
  have h1 := h.1
  unfold f_X10_eventAt
  unfold zInt at ht
  have hl : (iI t < 0) = (t < 0) := iI_lt (a := t) (b := 0) (by omega) (by omega) (by omega) (by omega)
  by_cases q : 0 ≤ a ∧ a < S.1 ∧ 0 ≤ b ∧ b < 2
  · rw [if_pos q, z_be (z_p1 q (X10_isVoice h hR ha hb)), if_neg ne10]
    by_cases q2 : 0 ≤ t
    · rw [if_pos q2, if_neg (show ¬ iI t < 0 by rw [hl]; omega), z_sb, z_be (X10_ref0 code), if_pos (f00 0)]
      obtain ⟨m, rfl⟩ := Int.eq_ofNat_of_zero_le q.1
      obtain ⟨v, rfl⟩ := Int.eq_ofNat_of_zero_le q.2.2.1
      have hm : m < S.1 := by omega
      have hv : v < 2 := by omega
      have hC := okC_C h hm hv
      simp only [Int.toNat_natCast]
      refine z_eqT (zT_loop (fun n s => ∃ j : Nat, j ≤ S.2.2.1 m v ∧ n = S.2.2.1 m v - j ∧ s = (iI (t - gT S m v j), iI j) ∧ 0 ≤ t - gT S m v j ∧ evAt S m v t (S.2.2.1 m v) 0 = evAt S m v t (S.2.2.1 m v - j) j) ?_ N (S.2.2.1 m v) (iI t, 0) (by omega) ⟨0, by omega, rfl, by simp [gT]; exact iL0, by simp [gT]; omega, rfl⟩)
      rintro n s k ⟨j, hj, rfl, rfl, hp, hE⟩ ih
      unfold f_X10_eventAt_B37
      dsimp only
      rw [iL7, iI_add]
      refine zT_bindE (X10_of_C h hR hm hv rfl) ?_
      refine zT_ite (fun q => ?_) (fun q => ?_)
      · rw [iI_lt (by omega) (by omega) (by omega) (by omega)] at q
        have hb := okE_b (okC_ev h hm hv (show j < S.2.2.1 m v by omega))
        have hT := gT_b h hm hv (j + 1) (by omega)
        refine zT_bindE X10_cell (zT_bindE (zld2 h hR hm hv (by omega)) (zT_bindE (X10_ticksOf hb.2.2.1.1 hb.2.2.1.2) (zT_bindE rfl ?_)))
        rw [iI_sub, show t - gT S m v j - tk (S.2.2.2 m v j).2.2.1 = t - gT S m v (j + 1) by show _ = t - (gT S m v j + _); omega]
        rw [show S.2.2.1 m v - j = (S.2.2.1 m v - (j + 1)) + 1 by omega] at hE
        rw [iL0]
        refine zT_ite (fun q3 => ?_) (fun q3 => ?_)
        · rw [iI_lt (by omega) (by omega) (by omega) (by omega)] at q3
          refine zT_some ?_
          rw [hE, evAt, if_pos (by omega)]
        · rw [iI_lt (by omega) (by omega) (by omega) (by omega)] at q3
          rw [evAt, if_neg (by omega)] at hE
          refine zT_bindE rfl (ih (S.2.2.1 m v - (j + 1)) _ (by omega) ⟨j + 1, by omega, rfl, by rw [iL1, iI_add]; rfl, by omega, hE⟩)
      · rw [iI_lt (by omega) (by omega) (by omega) (by omega)] at q
        rw [show S.2.2.1 m v - j = 0 by omega] at hE
        exact zT_some (by rw [hE]; rfl)
    · rw [if_neg q2, if_pos (show iI t < 0 by rw [hl]; omega), z_sb, z_be (X10_ref2 code), if_neg (f10 2)]
  · rw [if_neg q, z_be (z_p0 q (X10_isVoice h hR ha hb)), if_pos z00, z_sb, z_be (X10_ref1 code), if_neg (f10 1)]
end ZM5
