section ZM8
variable {N : Nat} {S : zSt} {st cells shifts : Nat → Int32} {size code : Int32} {m v e k : Nat}
/-- the cell of an event in the tables -/
abbrev slE (m v e : Nat) : Nat := 48 * m + 24 * v + e
/-- the table holds the shifts of all events ahead of the cell p -/
def FSp (S : zSt) (shifts : Nat → Int32) (p : Nat) : Prop := ∀ m v e, m < S.1 → v < 2 → e < S.2.2.1 m v → slE m v e < p → shifts (slE m v e) = iI (shS S m v e)
theorem X6_shift_at (h : okC S) (hm : m < S.1) (hv : v < 2) (he : e < S.2.2.1 m v) : f_X6_shift N shifts (iI m) (iI v) (iI e) = some (shifts (slE m v e)) := by
  have h1 := h.1
  have hC := okC_C h hm hv
  rw [X6_shift (zIn_ m (by omega)) (zIn_ v (by omega)) (zIn_ e (by omega)), if_pos (by omega)]
  rw [show (((m : Int) * 2 + v) * 24 + e).toNat = slE m v e by unfold slE; omega]
theorem shS_last (hC : S.2.2.1 m v ≠ 0) : shS S m v (S.2.2.1 m v - 1) = shB S v (m + 1) := by
  unfold shS shK
  rw [shB, if_neg hC]
theorem X6_shiftBefore0 (h : okC S) (hR : RC S (iI S.1) cells) (hm : m < S.1) (hv : v < 2) {p : Nat} (hp : 48 * m + 24 * v ≤ p) (hF : FSp S shifts p) : f_X6_shiftBefore N (iI S.1) shifts cells (iI m) (iI v) 0 = some (iI (shB S v m)) := by
  have h1 := h.1
  unfold f_X6_shiftBefore
  rw [if_neg (by decide), iIs1, z_be (X4_count h hR (by unfold zInt; omega) (zIn_ v (by omega))), iIs1]
  have hb := gC_b h ((m : Int) - 1) v
  match m, hm, hp with
  | 0, hm, hp =>
    have e0 : gC S (((0 : Nat) : Int) - 1) v = 0 := by unfold gC; rw [if_neg (by omega)]
    rw [e0, z_be (X6_shift (by unfold zInt; omega) (zIn_ v (by omega)) (by unfold zInt; omega)), if_neg (by omega)]
    rfl
  | m + 1, hm, hp =>
    rw [show (((m + 1 : Nat) : Int) - 1) = (m : Int) by omega, gC_at (by omega) hv]
    have hC := okC_C h (show m < S.1 by omega) hv
    by_cases q : S.2.2.1 m v = 0
    · rw [q, z_be (X6_shift (zIn_ m (by omega)) (zIn_ v (by omega)) (by unfold zInt; omega)), if_neg (by omega), shB, if_pos q]
      rfl
    · rw [show ((S.2.2.1 m v : Nat) : Int) - 1 = ((S.2.2.1 m v - 1 : Nat) : Int) by omega, z_be (X6_shift_at h (by omega) hv (show S.2.2.1 m v - 1 < S.2.2.1 m v by omega)), hF m v (S.2.2.1 m v - 1) (by omega) hv (by omega) (by unfold slE; omega), shS_last q]
theorem X6_put768 {a : Nat} (h : a < 768) {x : Int32} : f_X6_put N 768 shifts (iI a) x = some (upd shifts a x) := by
  unfold f_X6_put
  rw [if_neg (by rw [iL0, iI_lt (by omega) (by omega) (by omega) (by omega)]; omega), if_pos (by rw [iI_ofNat, iI_lt (by omega) (by omega) (by omega) (by omega)]; omega), zAstI (by omega) (by omega) (by omega)]
  rfl
theorem FSp_upd {p : Nat} (hF : FSp S shifts p) {x : Int32} (hx : ∀ m v e, m < S.1 → v < 2 → e < S.2.2.1 m v → slE m v e = p → x = iI (shS S m v e)) : FSp S (upd shifts p x) (p + 1) := by
  intro m v e hm hv he hp
  rw [upd_at]
  split
  · next q => exact hx m v e hm hv he q
  · exact hF m v e hm hv he (by omega)
theorem FSp_up {p q : Nat} (hF : FSp S shifts p) (h : okC S) (hm : m < S.1) (hv : v < 2) (hp : p = 48 * m + 24 * v + S.2.2.1 m v) (hq : q ≤ 48 * m + 24 * (v + 1)) : FSp S shifts q := by
  intro m' v' e' hm' hv' he' hp'
  have hC := okC_C h hm hv
  have hC' := okC_C h hm' hv'
  refine hF m' v' e' hm' hv' he' ?_
  unfold slE at hp' ⊢
  have : m' ≤ m := by omega
  rcases Nat.lt_or_ge m' m with q1 | q1
  · omega
  · obtain rfl : m' = m := by omega
    rcases Nat.lt_or_ge v' v with q2 | q2
    · omega
    · obtain rfl : v' = v := by omega
      omega
theorem slE_inj (h : okC S) {m' v' e' : Nat} (hm : m < S.1) (hv : v < 2) (he : e < S.2.2.1 m v) (hm' : m' < S.1) (hv' : v' < 2) (he' : e' < S.2.2.1 m' v') (q : slE m' v' e' = slE m v e) : m' = m ∧ v' = v ∧ e' = e := by
  have hC := okC_C h hm hv
  have hC' := okC_C h hm' hv'
  unfold slE at q
  omega
theorem okS_key (h : okS S) (hm : m < S.1) : -7 ≤ S.2.1 m 0 ∧ S.2.1 m 0 ≤ 7 := (h.2 m hm).1
theorem X6_findShifts (h : okS S) (hR : RC S (iI S.1) cells) (hN : 30 ≤ N) : zT (f_X6_findShifts N (iI S.1) shifts cells) (fun sh => FSp S sh 768) := by
  have h1 := h.1.1
  unfold f_X6_findShifts
  refine zT_bind (zT_mono (zT_loop (fun n s => ∃ m : Nat, m ≤ S.1 ∧ n = S.1 - m ∧ s.1 = iI m ∧ FSp S s.2 (48 * m)) ?_ N S.1 (0, shifts) (by omega) ⟨0, by omega, rfl, rfl, fun m v e _ _ _ q => by omega⟩) (fun a q => zT_some q))
  rintro n ⟨s1, sh⟩ c ⟨m, hm, rfl, hs, hF⟩ ih
  dsimp only at hs hF
  subst hs
  unfold f_X6_findShifts_B2
  dsimp only
  refine zT_bindE (show f_X4_size N (iI S.1) = some (iI S.1) from rfl) (zT_ite (fun q => ?_) (fun q => ?_))
  · rw [iI_lt (by omega) (by omega) (by omega) (by omega)] at q
    have hm : m < S.1 := by omega
    have hk := okS_key h hm
    have e0 := X4_value (N := N) (w := 0) h.1 hR (zIn_ m (by omega)) (by unfold zInt; omega)
    rw [show gV S m 0 = S.2.1 m 0 from gV_at (k := 0) hm (by omega)] at e0
    refine zT_bindE e0 (zT_bind (zT_mono (zT_loop (P := fun sh => FSp S sh (48 * (m + 1))) (fun n s => ∃ v : Nat, v ≤ 2 ∧ n = 2 - v ∧ s.1 = iI v ∧ FSp S s.2 (48 * m + 24 * v)) ?_ N 2 (0, sh) (by omega) ⟨0, by omega, rfl, rfl, hF⟩) (fun a q => zT_bindE rfl (ih (S.1 - (m + 1)) _ (by omega) ⟨m + 1, by omega, rfl, iIp1 _, q⟩))))
    clear ih hF
    rintro n ⟨s1, sh2⟩ c2 ⟨v, hv, rfl, hs, hF⟩ ih
    dsimp only at hs hF
    subst hs
    unfold f_X6_findShifts_B25
    dsimp only
    refine zT_ite (fun q => ?_) (fun q => ?_)
    · rw [iL2, iI_lt (by omega) (by omega) (by omega) (by omega)] at q
      have hv : v < 2 := by omega
      have hC := okC_C h.1 hm hv
      refine zT_bindE (X6_shiftBefore0 h.1 hR hm hv (Nat.le_refl _) hF) (zT_bind (zT_mono (zT_loop (P := fun sh => FSp S sh (48 * m + 24 * (v + 1))) (fun n s => ∃ e : Nat, e ≤ S.2.2.1 m v ∧ n = S.2.2.1 m v - e ∧ s.1 = iI (if e = 0 then shB S v m else shS S m v (e - 1)) ∧ s.2.1 = iI e ∧ FSp S s.2.2 (48 * m + 24 * v + e)) ?_ N (S.2.2.1 m v) (_, 0, sh2) (by omega) ⟨0, by omega, rfl, rfl, rfl, hF⟩) (fun a q => zT_bindE rfl (ih (2 - (v + 1)) _ (by omega) ⟨v + 1, by omega, rfl, iIp1 _, q⟩))))
      clear ih hF
      rintro n ⟨s1, s2, sh3⟩ c3 ⟨e, he, rfl, hs, hs2, hF⟩ ih
      dsimp only at hs hs2 hF
      subst hs
      subst hs2
      unfold f_X6_findShifts_B42
      dsimp only
      refine zT_bindE (X4_count h.1 hR (zIn_ m (by omega)) (zIn_ v (by omega))) ?_
      rw [gC_at hm hv]
      refine zT_ite (fun q => ?_) (fun q => ?_)
      · rw [iI_lt (by omega) (by omega) (by omega) (by omega)] at q
        have he : e < S.2.2.1 m v := by omega
        have es : shW S (S.2.1 m 0) m v (if e = 0 then shB S v m else shS S m v (e - 1)) e = shS S m v e := by
          match e with
          | 0 => rfl
          | e + 1 => rfl
        refine zT_bindE (X6_shiftWith h.1 hR hm hv he hk _ hN) ?_
        rw [es]
        refine zT_bindE (X6_slot (zIn_ m (by omega)) (zIn_ v (by omega)) (zIn_ e (by omega))) ?_
        rw [if_pos (by omega), show ((m : Int) * 2 + v) * 24 + e = ((slE m v e : Nat) : Int) by unfold slE; omega]
        refine zT_bindE (X6_put768 (by unfold slE; omega)) (zT_bindE rfl (ih (S.2.2.1 m v - (e + 1)) _ (by omega) ⟨e + 1, by omega, rfl, by rw [if_neg (by omega)]; rfl, iIp1 _, ?_⟩))
        refine FSp_upd (p := slE m v e) hF (fun m' v' e' hm' hv' he' q => ?_)
        obtain ⟨rfl, rfl, rfl⟩ := slE_inj h.1 hm hv he hm' hv' he' q
        rfl
      · rw [iI_lt (by omega) (by omega) (by omega) (by omega)] at q
        obtain rfl : e = S.2.2.1 m v := by omega
        exact zT_some (FSp_up hF h.1 hm hv rfl (Nat.le_refl _))
    · rw [iL2, iI_lt (by omega) (by omega) (by omega) (by omega)] at q
      obtain rfl : v = 2 := by omega
      exact zT_some hF
  · rw [iI_lt (by omega) (by omega) (by omega) (by omega)] at q
    obtain rfl : m = S.1 := by omega
    refine zT_some (fun m' v' e' hm' hv' he' _ => hF m' v' e' hm' hv' he' ?_)
    have hC := okC_C h.1 hm' hv'
    unfold slE
    omega
end ZM8
