/-! ===== what is told of an event ===== -/
abbrev brP (S : zSt) (m v e : Nat) : Prop := (S.2.2.2 m v e).2.2.2 = 1 ∧ ¬ hoP S m v e
def evv (S : zSt) (m v e : Nat) (w : Int) : Int :=
  if w = 2 then (S.2.2.2 m v e).2.2.1 else if w = 4 then tk (S.2.2.2 m v e).2.2.1 else if w = 5 then gT S m v e else if (S.2.2.2 m v e).1 < 0 then -1000 else if w = 0 then (S.2.2.2 m v e).1 else if w = 1 then (S.2.2.2 m v e).2.1 else if w = 3 then (S.2.2.2 m v e).2.2.2 else if w = 6 then shS S m v e else if w = 7 then soS S m v e else if w = 8 then hdS S v m e else if brP S m v e then 1 else 0
section ZMC
variable {N : Nat} {S : zSt} {st cells shifts held : Nat → Int32} {size code : Int32} {m v e k : Nat}
theorem gC_pos {a b c : Int} (h : 0 ≤ c ∧ c < gC S a b) : (0 ≤ a ∧ a < S.1) ∧ (0 ≤ b ∧ b < 2) ∧ c < (S.2.2.1 a.toNat b.toNat : Int) := by
  have h2 := h.2
  unfold gC at h2
  split at h2
  · next q => exact ⟨⟨q.1, q.2.1⟩, q.2.2, h2⟩
  · omega
theorem oN_s (x : zEv) : oN (some x) = if x.1 < 0 then 0 else 1 := rfl
theorem oP_s {x : zEv} (h : 0 ≤ x.1) : oP (some x) = x.1 := by
  unfold oP
  dsimp only
  rw [if_neg (by omega)]
theorem C_noteValue (h : okC S) (hR : RC S (iI S.1) cells) (hF : FSp S shifts 768) (hH : FH S held (fun _ _ _ => True)) (hm : m < S.1) (hv : v < 2) (he : e < S.2.2.1 m v) (hp : 0 ≤ (S.2.2.2 m v e).1) {w : Int} (hw : 0 ≤ w ∧ w ≤ 9) (h2 : w ≠ 2) (h4 : w ≠ 4) (h5 : w ≠ 5) : f_X9_noteValue N (iI S.1) cells held shifts (iI m) (iI v) (iI e) (iI w) = some (iI (evv S m v e w)) := by
  have h1 := h.1
  have hC := okC_C h hm hv
  have hx := okC_ev h hm hv he
  have hxb := okE_b hx
  have hxo := oOk_some hx
  have e1 := X4_code (N := N) h hR (zIn_ m (by omega)) (zIn_ v (by omega)) (zIn_ e (by omega))
  rw [gE_at hm hv he] at e1
  have ep := oP_s hp
  unfold f_X9_noteValue evv
  rw [if_neg h2, if_neg h4, if_neg h5, if_neg (show ¬ (S.2.2.2 m v e).1 < 0 by omega)]
  refine z_eqT (zT_bindE e1 (zT_ite (fun q => ?_) (fun q => ?_)))
  · rw [iL0, iI_eq (by omega) (by omega) (by omega) (by omega)] at q
    refine zT_bindE (X0_pitchOf _ hxo) (zT_some ?_)
    rw [if_pos q, ep]
  rw [iL0, iI_eq (by omega) (by omega) (by omega) (by omega)] at q
  rw [if_neg q]
  refine zT_ite (fun q => ?_) (fun q => ?_)
  · rw [iL1, iI_eq (by omega) (by omega) (by omega) (by omega)] at q
    refine zT_bindE (X0_signOf _ hxo) (zT_some ?_)
    rw [if_pos q]
    rfl
  rw [iL1, iI_eq (by omega) (by omega) (by omega) (by omega)] at q
  rw [if_neg q]
  refine zT_ite (fun q => ?_) (fun q => ?_)
  · rw [iL3, iI_eq (by omega) (by omega) (by omega) (by omega)] at q
    rw [if_pos q]
    refine zT_bindE (X0_isTied _ hxo) ?_
    rw [show oT (some (S.2.2.2 m v e)) = (S.2.2.2 m v e).2.2.2 from rfl]
    refine zT_ite (fun q2 => zT_some ?_) (fun q2 => zT_some ?_)
    · rw [q2]
    · rw [iL0, iI_eq (by omega) (by omega) (by omega) (by omega)] at q2
      rw [show (S.2.2.2 m v e).2.2.2 = 1 by omega]; rfl
  rw [iL3, iI_eq (by omega) (by omega) (by omega) (by omega)] at q
  rw [if_neg q]
  refine zT_ite (fun q => ?_) (fun q => ?_)
  · rw [iL6, iI_eq (by omega) (by omega) (by omega) (by omega)] at q
    rw [if_pos q]
    refine zT_bindE (X6_shift_at h hm hv he) (zT_some ?_)
    rw [hF m v e hm hv he (by unfold slE; omega)]
  rw [iL6, iI_eq (by omega) (by omega) (by omega) (by omega)] at q
  rw [if_neg q]
  refine zT_ite (fun q => ?_) (fun q => ?_)
  · rw [iL7, iI_eq (by omega) (by omega) (by omega) (by omega)] at q
    rw [if_pos q]
    exact zT_bindE (X6_sounding h hR hm hv he hp hF) (zT_some rfl)
  rw [iL7, iI_eq (by omega) (by omega) (by omega) (by omega)] at q
  rw [if_neg q]
  refine zT_ite (fun q => ?_) (fun q => ?_)
  · rw [iL8, iI_eq (by omega) (by omega) (by omega) (by omega)] at q
    rw [if_pos q, X6_heldE]
    refine zT_bindE (X6_shift_at h hm hv he) (zT_some ?_)
    rw [hH m v e hm hv he trivial]
  rw [iL8, iI_eq (by omega) (by omega) (by omega) (by omega)] at q
  rw [if_neg q]
  refine zT_bindE (X6_isBrokenTie h hR hm hv he hH) ?_
  by_cases q3 : brP S m v e
  · rw [if_pos q3]
    exact zT_ite (fun q4 => absurd q4 ne10) (fun _ => zT_some rfl)
  · rw [if_neg q3]
    exact zT_ite (fun _ => zT_some rfl) (fun q4 => absurd rfl q4)
theorem C_event (h : okC S) (hR : RC S (iI S.1) cells) (hF : FSp S shifts 768) (hH : FH S held (fun _ _ _ => True)) {a b c w : Int} (ha : zInt a) (hb : zInt b) (hc : zInt c) (hw : zInt w) (hN : 30 ≤ N) : f_X9_event N (iI S.1) cells held shifts (iI a) (iI b) (iI c) (iI w) = if 0 ≤ c ∧ c < gC S a b then (if 0 ≤ w ∧ w ≤ 9 then some (.inl (iI (evv S a.toNat b.toNat c.toNat w))) else some (.inr 1)) else some (.inr 0) := by
  have h1 := h.1
  unfold f_X9_event
  rw [zSub_rq (C_rqE h hR ha hb hc), iL0, iL9, zSub_rq (C_rqR hw (by unfold zInt; omega) (by unfold zInt; omega))]
  by_cases q : 0 ≤ c ∧ c < gC S a b
  · rw [if_pos q, if_pos q]
    by_cases q2 : 0 ≤ w ∧ w ≤ 9
    · rw [if_pos q2, if_pos q2]
      have hg := gC_pos q
      obtain ⟨m, rfl⟩ := Int.eq_ofNat_of_zero_le hg.1.1
      obtain ⟨v, rfl⟩ := Int.eq_ofNat_of_zero_le hg.2.1.1
      obtain ⟨e, rfl⟩ := Int.eq_ofNat_of_zero_le q.1
      simp only [Int.toNat_natCast] at hg ⊢
      have hm : m < S.1 := by omega
      have hv : v < 2 := by omega
      have he : e < S.2.2.1 m v := by omega
      have hx := okC_ev h hm hv he
      have hxo := oOk_some hx
      have e1 := X4_code (N := N) h hR ha hb hc
      rw [gE_at hm hv he] at e1
      refine z_eqT (zT_bindE e1 (zT_ite (fun q => ?_) (fun q => ?_)))
      · rw [iL2, iI_eq (by omega) (by omega) (by omega) (by omega)] at q
        refine zT_bindE (X0_durationOf _ hxo) (zT_some ?_)
        unfold evv
        rw [if_pos q]; rfl
      rw [iL2, iI_eq (by omega) (by omega) (by omega) (by omega)] at q
      refine zT_ite (fun q4 => ?_) (fun q4 => ?_)
      · rw [iL4, iI_eq (by omega) (by omega) (by omega) (by omega)] at q4
        refine zT_bindE (X0_ticksOf _ hxo) (zT_some ?_)
        unfold evv
        rw [if_neg q, if_pos q4]; rfl
      rw [iL4, iI_eq (by omega) (by omega) (by omega) (by omega)] at q4
      refine zT_ite (fun q5 => ?_) (fun q5 => ?_)
      · rw [iL5, iI_eq (by omega) (by omega) (by omega) (by omega)] at q5
        refine zT_bindE (X4_begin h hR hm hv (Nat.le_of_lt he) hN) (zT_some ?_)
        unfold evv
        rw [if_neg q, if_neg q4, if_pos q5]
      rw [iL5, iI_eq (by omega) (by omega) (by omega) (by omega)] at q5
      refine zT_bindE (X0_isNote _ hxo) ?_
      rw [oN_s]
      by_cases q6 : (S.2.2.2 m v e).1 < 0
      · rw [if_pos q6]
        refine zT_ite (fun _ => zT_some ?_) (fun q7 => absurd rfl q7)
        unfold evv
        rw [if_neg q, if_neg q4, if_neg q5, if_pos q6]; rfl
      · rw [if_neg q6]
        exact zT_ite (fun q7 => absurd q7 ne10) (fun _ => zT_bindE (C_noteValue h hR hF hH hm hv he (by omega) q2 q q4 q5) (zT_some rfl))
    · rw [if_neg q2, if_neg q2]
  · rw [if_neg q, if_neg q]
end ZMC
