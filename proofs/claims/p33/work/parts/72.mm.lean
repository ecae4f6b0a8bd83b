/-! ===== what is told of the order ===== -/
def orS (S : zSt) (a : Int) : Int := if a < (oEnd S).2.2.2.2.1 then (oEnd S).2.2.2.2.2 a.toNat else -1000
def tpS (S : zSt) (a : Int) : Nat → Int
  | 0 => 0
  | i + 1 => tpS S a i + (if (oEnd S).2.2.2.2.2 i = a then 1 else 0)
def ptS (S : zSt) : Nat → Int
  | 0 => 0
  | i + 1 => ptS S i + gL S ((oEnd S).2.2.2.2.2 i).toNat
section ZMN
variable {N : Nat} {S : zSt} {st cells shifts held pf : Nat → Int32} {size code pn : Int32} {m v e k i j : Nat}
theorem X2_at (h : okS S) (hF : oF S pn pf) (hi : i < (oEnd S).2.2.2.2.1) : f_X2_at N pn pf (iI i) = some (iI ((oEnd S).2.2.2.2.2 i)) := by
  have hb := oEnd_b h
  unfold f_X2_at
  rw [hF.1, if_neg (by rw [iL0, iI_lt (by omega) (by omega) (by omega) (by omega)]; omega), if_pos (by rw [iI_lt (by omega) (by omega) (by omega) (by omega)]; omega), if_pos (by rw [iL200, iI_lt (by omega) (by omega) (by omega) (by omega)]; omega), zAldI (by omega) (by omega) (by omega), z_sb, Int.toNat_natCast, hF.2 i hi]
theorem C_order (h : okS S) (hF : oF S pn pf) {a : Int} (ha : zInt a) : f_X9_order N pn pf (iI a) = if 0 ≤ a then some (.inl (iI (orS S a))) else some (.inr 1) := by
  have hb := oEnd_b h
  unfold f_X9_order
  rw [zSub_rq (C_rqN ha)]
  unfold zInt at ha
  by_cases q : 0 ≤ a
  · rw [if_pos q, if_pos q, z_be (show f_X2_size N pn = some pn from rfl)]
    have hl : (iI a < pn) = (a < ((oEnd S).2.2.2.2.1 : Int)) := by rw [hF.1]; exact iI_lt (by omega) (by omega) (by omega) (by omega)
    obtain ⟨i, rfl⟩ := Int.eq_ofNat_of_zero_le q
    unfold orS
    by_cases q2 : (i : Int) < ((oEnd S).2.2.2.2.1 : Int)
    · rw [if_pos (by rw [hl]; exact q2), if_pos q2, z_be (X2_at h hF (by omega)), Int.toNat_natCast]
    · rw [if_neg (by rw [hl]; exact q2), if_neg q2]; rfl
  · rw [if_neg q, if_neg q]
theorem X2_timesOf (h : okS S) (hF : oF S pn pf) {a : Int} (ha : zInt a) (hN : 4000 ≤ N) : f_X2_timesOf N pn pf (iI a) = some (iI (tpS S a (oEnd S).2.2.2.2.1)) := by
  have hb := oEnd_b h
  have h1 := h.1.1
  unfold zInt at ha
  unfold f_X2_timesOf
  refine z_eqT (zT_bind (zT_mono (zT_loop (fun n s => ∃ i : Nat, i ≤ (oEnd S).2.2.2.2.1 ∧ n = (oEnd S).2.2.2.2.1 - i ∧ s = (iI (tpS S a i), iI i)) ?_ N (oEnd S).2.2.2.2.1 (0, 0) (by omega) ⟨0, by omega, rfl, rfl⟩) (fun a q => zT_some q)))
  rintro n s c ⟨i, hi, rfl, rfl⟩ ih
  unfold f_X2_timesOf_B4
  dsimp only
  have hl : (iI (i : Int) < pn) = ((i : Int) < ((oEnd S).2.2.2.2.1 : Int)) := by rw [hF.1]; exact iI_lt (by omega) (by omega) (by omega) (by omega)
  refine zT_ite (fun q => ?_) (fun q => ?_)
  · rw [hl] at q
    have hi : i < (oEnd S).2.2.2.2.1 := by omega
    have hp := hb.2 i hi
    have e5 : (if iI ((oEnd S).2.2.2.2.2 i) = iI a then some (1 : Int32) else some 0) = some (iI (if (oEnd S).2.2.2.2.2 i = a then 1 else 0)) := by
      by_cases q : (oEnd S).2.2.2.2.2 i = a
      · rw [if_pos q, if_pos (by rw [q])]; rfl
      · rw [if_neg q, if_neg (by rw [iI_eq (by omega) (by omega) (by omega) (by omega)]; exact q)]; rfl
    refine zT_bindE (X2_at h hF hi) (zT_bindE e5 (zT_bindE rfl (zT_bindE rfl (ih ((oEnd S).2.2.2.2.1 - (i + 1)) _ (by omega) ⟨i + 1, by omega, rfl, by rw [iI_add, iIp1]; rfl⟩))))
  · rw [hl] at q
    rw [show i = (oEnd S).2.2.2.2.1 by omega]
    exact zT_some rfl
theorem C_timesPlayed (h : okS S) (hF : oF S pn pf) {a : Int} (ha : zInt a) (hN : 4000 ≤ N) : f_X9_timesPlayed N pn (iI S.1) pf (iI a) = if 0 ≤ a ∧ a < S.1 then some (.inl (iI (tpS S a (oEnd S).2.2.2.2.1))) else some (.inr 0) := by
  unfold f_X9_timesPlayed
  rw [zSub_rq (C_rqM h.1 ha)]
  by_cases q : 0 ≤ a ∧ a < S.1
  · rw [if_pos q, if_pos q, z_be (X2_timesOf h hF ha hN)]
  · rw [if_neg q, if_neg q]
theorem X2_ticks (h : okS S) (hR : RC S (iI S.1) cells) (hF : oF S pn pf) (hN : 4000 ≤ N) : f_X2_ticks N pn pf (iI S.1) cells = some (iI (ptS S (oEnd S).2.2.2.2.1)) := by
  have hb := oEnd_b h
  have h1 := h.1.1
  unfold f_X2_ticks
  refine z_eqT (zT_bind (zT_mono (zT_loop (fun n s => ∃ i : Nat, i ≤ (oEnd S).2.2.2.2.1 ∧ n = (oEnd S).2.2.2.2.1 - i ∧ s = (iI (ptS S i), iI i)) ?_ N (oEnd S).2.2.2.2.1 (0, 0) (by omega) ⟨0, by omega, rfl, rfl⟩) (fun a q => zT_some q)))
  rintro n s c ⟨i, hi, rfl, rfl⟩ ih
  unfold f_X2_ticks_B4
  dsimp only
  have hl : (iI (i : Int) < pn) = ((i : Int) < ((oEnd S).2.2.2.2.1 : Int)) := by rw [hF.1]; exact iI_lt (by omega) (by omega) (by omega) (by omega)
  refine zT_ite (fun q => ?_) (fun q => ?_)
  · rw [hl] at q
    have hi : i < (oEnd S).2.2.2.2.1 := by omega
    have hp := hb.2 i hi
    obtain ⟨m, hpm⟩ := Int.eq_ofNat_of_zero_le hp.1
    have eL := X4_ticks (N := N) h hR (show m < S.1 by omega)
    refine zT_bindE (X2_at h hF hi) ?_
    rw [hpm]
    refine zT_bindE eL (zT_bindE rfl (zT_bindE rfl (ih ((oEnd S).2.2.2.2.1 - (i + 1)) _ (by omega) ⟨i + 1, by omega, rfl, by rw [iI_add, iIp1, ptS, hpm, Int.toNat_natCast]; rfl⟩)))
  · rw [hl] at q
    rw [show i = (oEnd S).2.2.2.2.1 by omega]
    exact zT_some rfl
end ZMN
