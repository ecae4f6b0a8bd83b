/-! ===== values of a measure ===== -/
section ZMV
variable {N : Nat} {S : zSt} {st cells : Nat → Int32} {size : Int32} {m v e k : Nat}
theorem gV_at (hm : m < S.1) (hk : k < 7) : gV S m k = S.2.1 m k := by
  unfold gV; rw [if_pos (by omega)]; rfl
theorem gC_at (hm : m < S.1) (hv : v < 2) : gC S m v = (S.2.2.1 m v : Int) := by
  unfold gC; rw [if_pos (by omega)]; rfl
theorem gE_at (hm : m < S.1) (hv : v < 2) (he : e < S.2.2.1 m v) : gE S m v e = some (S.2.2.2 m v e) := by
  unfold gE; rw [if_pos (by simp only [Int.toNat_natCast]; omega)]; rfl
theorem zIn_ (a : Nat) (h : a ≤ 100000) : zInt a := by unfold zInt; omega
theorem X4_ticks (h : okS S) (hR : RC S (iI S.1) cells) (hm : m < S.1) : f_X4_ticks N (iI S.1) cells (iI m) = some (iI (gL S m)) := by
  have hV := h.2 m hm
  have h1 := h.1.1
  obtain ⟨-, hu, hl, -⟩ := hV
  have e1 := X4_value (N := N) (w := 1) h.1 hR (zIn_ m (by omega)) (by unfold zInt; omega)
  have e2 := X4_value (N := N) (w := 2) h.1 hR (zIn_ m (by omega)) (by unfold zInt; omega)
  rw [show gV S m 1 = S.2.1 m 1 from gV_at (k := 1) hm (by omega)] at e1
  rw [show gV S m 2 = S.2.1 m 2 from gV_at (k := 2) hm (by omega)] at e2
  unfold f_X4_ticks
  rw [iL1, iL2, z_be e2, iL0, iL64]
  simp (disch := omega) only [iI_eq]
  rw [if_neg (show ¬ S.2.1 m 2 = 0 by omega), z_be e1, iI_mul, zDivI (by omega) (by omega) (by omega) (by omega)]
  rfl
theorem X4_begin (h : okC S) (hR : RC S (iI S.1) cells) (hm : m < S.1) (hv : v < 2) (he : e ≤ S.2.2.1 m v) (hN : 30 ≤ N) : f_X4_begin N (iI S.1) cells (iI m) (iI v) (iI e) = some (iI (gT S m v e)) := by
  have h1 := h.1
  have hC := okC_C h hm hv
  unfold f_X4_begin
  refine z_eqT (zT_bind (zT_mono (zT_loop (fun n s => ∃ j : Nat, j ≤ e ∧ n = e - j ∧ s = (iI (gT S m v j), iI j)) ?_ N e (0, 0) (by omega) ⟨0, by omega, rfl, rfl⟩) (fun a q => zT_some q)))
  rintro n s k ⟨j, hj, rfl, rfl⟩ ih
  unfold f_X4_begin_B6
  dsimp only
  refine zT_ite (fun q => ?_) (fun q => ?_)
  · rw [iI_lt (by omega) (by omega) (by omega) (by omega)] at q
    have hb := okE_b (okC_ev h hm hv (show j < S.2.2.1 m v by omega))
    have ec := X4_code (N := N) h hR (zIn_ m (by omega)) (zIn_ v (by omega)) (zIn_ j (by omega))
    refine zT_bindE ec (zT_bindE (X0_ticksOf _ (gE_ok h _ _ _)) (zT_bindE rfl (zT_bindE rfl ?_)))
    rw [gE_at hm hv (by omega)]
    exact ih (e - (j + 1)) _ (by omega) ⟨j + 1, by omega, rfl, by rw [iI_add, iL1, iI_add]; rfl⟩
  · rw [iI_lt (by omega) (by omega) (by omega) (by omega)] at q
    exact zT_some (by rw [show j = e by omega])
theorem X4_voiceTicks (h : okC S) (hR : RC S (iI S.1) cells) (hm : m < S.1) (hv : v < 2) (hN : 30 ≤ N) : f_X4_voiceTicks N (iI S.1) cells (iI m) (iI v) = some (iI (gT S m v (S.2.2.1 m v))) := by
  have h1 := h.1
  unfold f_X4_voiceTicks
  rw [z_be (X4_count h hR (zIn_ m (by omega)) (zIn_ v (by omega))), gC_at hm hv, z_be (X4_begin h hR hm hv (Nat.le_refl _) hN)]
/-- the value of a measure by its number -/
def mv (S : zSt) (m : Nat) (w : Int) : Int :=
  if w = 7 then gL S m else if w = 8 then S.2.2.1 m 0 else if w = 9 then S.2.2.1 m 1 else if w = 10 then gT S m 0 (S.2.2.1 m 0) else if w = 11 then gT S m 1 (S.2.2.1 m 1) else S.2.1 m w.toNat
def zRq (P : Prop) [Decidable P] (k : Nat) : Option (Unit ⊕ Nat) := if P then some (.inl ()) else some (.inr k)
theorem zSub_rq {β : Type} {o : Option (Unit ⊕ Nat)} {P : Prop} [Decidable P] {k : Nat} {K : Unit → Option (β ⊕ Nat)} (h : o = if P then some (.inl ()) else some (.inr k)) : zSub o K = if P then K () else some (.inr k) := by
  subst h
  split <;> rfl
theorem C_rqM (h : okC S) {a : Int} (ha : zInt a) : f_X9_requireMeasure N (iI S.1) (iI a) = if 0 ≤ a ∧ a < S.1 then some (.inl ()) else some (.inr 0) := by
  unfold f_X9_requireMeasure
  rw [z_be (X4_hasMeasure h ha)]
  simp only [z01, ite_not]
theorem C_rqV (h : okC S) {a b : Int} (ha : zInt a) (hb : zInt b) : f_X9_requireVoice N (iI S.1) (iI a) (iI b) = if 0 ≤ a ∧ a < S.1 ∧ 0 ≤ b ∧ b < 2 then some (.inl ()) else some (.inr 0) := by
  unfold f_X9_requireVoice
  rw [z_be (X4_hasVoice h ha hb)]
  simp only [z01, ite_not]
theorem C_rqE (h : okC S) (hR : RC S (iI S.1) cells) {a b c : Int} (ha : zInt a) (hb : zInt b) (hc : zInt c) : f_X9_requireEvent N (iI S.1) cells (iI a) (iI b) (iI c) = if 0 ≤ c ∧ c < gC S a b then some (.inl ()) else some (.inr 0) := by
  unfold f_X9_requireEvent
  rw [z_be (X4_hasEvent h hR ha hb hc)]
  simp only [z01, ite_not]
theorem C_rqR {x a b : Int} (hx : zInt x) (ha : zInt a) (hb : zInt b) : f_X9_requireRange N (iI x) (iI a) (iI b) = if a ≤ x ∧ x ≤ b then some (.inl ()) else some (.inr 1) := by
  unfold zInt at hx ha hb
  unfold f_X9_requireRange f_X9_requireRange_J10
  simp (disch := omega) only [iI_lt]
  by_cases q : a ≤ x ∧ x ≤ b
  · rw [if_pos q, if_neg (show ¬ x < a by omega), if_neg (show ¬ b < x by omega)]
  · rw [if_neg q]
    by_cases q2 : x < a
    · rw [if_pos q2]
    · rw [if_neg q2, if_pos (show b < x by omega)]
theorem C_rqN {x : Int} (hx : zInt x) : f_X9_requireNotNegative N (iI x) = if 0 ≤ x then some (.inl ()) else some (.inr 1) := by
  unfold zInt at hx
  unfold f_X9_requireNotNegative
  rw [iL0]
  simp (disch := omega) only [iI_lt]
  by_cases q : 0 ≤ x
  · rw [if_pos q, if_neg (show ¬ x < 0 by omega)]
  · rw [if_neg q, if_pos (show x < 0 by omega)]
theorem C_measure (h : okS S) (hR : RC S (iI S.1) cells) {a b : Int} (ha : zInt a) (hb : zInt b) (hN : 30 ≤ N) : f_X9_measure N (iI S.1) cells (iI a) (iI b) = if 0 ≤ a ∧ a < S.1 then (if 0 ≤ b ∧ b ≤ 11 then some (.inl (iI (mv S a.toNat b))) else some (.inr 1)) else some (.inr 0) := by
  have h1 := h.1.1
  unfold f_X9_measure
  rw [iL0, iL11, zSub_rq (C_rqM h.1 ha), zSub_rq (C_rqR hb (by unfold zInt; omega) (by unfold zInt; omega))]
  by_cases q : 0 ≤ a ∧ a < S.1
  · rw [if_pos q, if_pos q]
    by_cases q2 : 0 ≤ b ∧ b ≤ 11
    · rw [if_pos q2, if_pos q2]
      obtain ⟨m, rfl⟩ := Int.eq_ofNat_of_zero_le q.1
      have hm : m < S.1 := by omega
      have e0 : (0 : Int) = ((0 : Nat) : Int) := rfl
      have e1 : (1 : Int) = ((1 : Nat) : Int) := rfl
      have t7 := X4_ticks (N := N) h hR hm
      have t8 := X4_count (N := N) (v := 0) h.1 hR (zIn_ m (by omega)) (by unfold zInt; omega)
      have t9 := X4_count (N := N) (v := 1) h.1 hR (zIn_ m (by omega)) (by unfold zInt; omega)
      have t10 := X4_voiceTicks (N := N) (v := 0) h.1 hR hm (by omega) hN
      have t11 := X4_voiceTicks (N := N) (v := 1) h.1 hR hm (by omega) hN
      have t12 := X4_value (N := N) h.1 hR (zIn_ m (by omega)) hb
      rw [show gC S m 0 = (S.2.2.1 m 0 : Int) from gC_at (v := 0) hm (by omega)] at t8
      rw [show gC S m 1 = (S.2.2.1 m 1 : Int) from gC_at (v := 1) hm (by omega)] at t9
      rw [iL7, iL8, iL9, iL10, iL1]
      simp (disch := omega) only [iI_eq]
      unfold mv
      simp only [Int.toNat_natCast]
      by_cases c7 : b = 7
      · rw [if_pos c7, if_pos c7, z_be t7]
      rw [if_neg c7, if_neg c7]
      by_cases c8 : b = 8
      · rw [if_pos c8, if_pos c8, z_be t8]
      rw [if_neg c8, if_neg c8]
      by_cases c9 : b = 9
      · rw [if_pos c9, if_pos c9, z_be t9]
      rw [if_neg c9, if_neg c9]
      by_cases c10 : b = 10
      · rw [if_pos c10, if_pos c10]; exact z_be t10
      rw [if_neg c10, if_neg c10]
      by_cases c11 : b = 11
      · rw [if_pos c11, if_pos c11]; exact z_be t11
      rw [if_neg c11, if_neg c11, z_be t12]
      obtain ⟨w, rfl⟩ := Int.eq_ofNat_of_zero_le q2.1
      rw [gV_at hm (by omega)]
      rfl
    · rw [if_neg q2, if_neg q2]
  · rw [if_neg q, if_neg q]
end ZMV
