section ZMJ
variable {N : Nat} {S : zSt} {st cells shifts held : Nat → Int32} {size code : Int32} {m v e k i j : Nat}
theorem okS_setSg (h : okS S) (hm : m < S.1) (hv : v < 2) (he : e < S.2.2.1 m v) {x : Int} (hx : okE ((S.2.2.2 m v e).1, x, (S.2.2.2 m v e).2.2)) : okS (setSg S m v e x) := by
  refine ⟨⟨h.1.1, fun m' hm' => ⟨(h.1.2 m' hm').1, fun v' hv' => ⟨((h.1.2 m' hm').2 v' hv').1, fun e' he' => ?_⟩⟩⟩, h.2⟩
  by_cases q : m' = m ∧ v' = v ∧ e' = e
  · obtain ⟨rfl, rfl, rfl⟩ := q
    rw [setSg_same]
    exact hx
  · rw [setSg_ne x q]
    exact ((h.1.2 m' hm').2 v' hv').2 e' he'
theorem ofs2 {m m' a b : Nat} (ha : 10 ≤ a ∧ a ≤ 201) (hb : 10 ≤ b ∧ b ≤ 201) (h : 201 * m' + a = 201 * m + b) : m' = m ∧ a = b := by omega
theorem ofs3 {v v' e e' c d : Nat} (hv : v < 2) (hv' : v' < 2) (he : e < 24) (he' : e' < 24) (hc : c < 4) (hd : d < 4) (h : 10 + 96 * v' + 4 * e' + c = 10 + 96 * v + 4 * e + d) : v' = v ∧ e' = e ∧ c = d := by omega
theorem cell_inj {m m' v v' e e' c d : Nat} (hv : v < 2) (hv' : v' < 2) (he : e < 24) (he' : e' < 24) (hc : c < 4) (hd : d < 4) (h : 201 * m' + 10 + 96 * v' + 4 * e' + c = 201 * m + 10 + 96 * v + 4 * e + d) : m' = m ∧ v' = v ∧ e' = e ∧ c = d := by
  obtain ⟨h1, h2⟩ := ofs2 (m := m) (m' := m') (a := 10 + 96 * v' + 4 * e' + c) (b := 10 + 96 * v + 4 * e + d) (by omega) (by omega) (by omega)
  exact ⟨h1, ofs3 hv hv' he he' hc hd h2⟩
theorem cell_far {m m' v e c o : Nat} (hv : v < 2) (he : e < 24) (hc : c < 4) (ho : o < 10) : 201 * m' + o ≠ 201 * m + 10 + 96 * v + 4 * e + c ∨ (201 * m' + o = 201 * m + 201 ∧ o = 0 ∧ m' = m + 1) := by
  have : ∀ a, 10 ≤ a → a ≤ 201 → 201 * m' + o ≠ 201 * m + a ∨ (201 * m' + o = 201 * m + 201 ∧ o = 0 ∧ m' = m + 1) := by intro a; omega
  have := this (10 + 96 * v + 4 * e + c) (by omega) (by omega)
  omega
theorem nlT_b : -1 ≤ nlT S m v e ∧ nlT S m v e ≤ 1 := by
  unfold nlT
  split
  · split
    · exact shB_b m
    · exact shS_b _ _ _
  · exact bmS_b _ _ _
theorem X6_shiftBefore_at (h : okC S) (hR : RC S (iI S.1) cells) (hF : FSp S shifts 768) (hm : m < S.1) (hv : v < 2) (he : e < S.2.2.1 m v) : f_X6_shiftBefore N (iI S.1) shifts cells (iI m) (iI v) (iI e) = some (iI (if e = 0 then shB S v m else shS S m v (e - 1))) := by
  have h1 := h.1
  have hC := okC_C h hm hv
  by_cases q : e = 0
  · subst q
    rw [if_pos rfl]
    exact X6_shiftBefore0 h hR hm hv (by omega) hF
  · obtain ⟨e2, rfl⟩ : ∃ i, e = i + 1 := ⟨e - 1, by omega⟩
    unfold f_X6_shiftBefore
    rw [if_neg q, if_pos (by rw [iL0, iI_lt (by omega) (by omega) (by omega) (by omega)]; omega), iIs1, show ((e2 + 1 : Nat) : Int) - 1 = (e2 : Int) by omega, z_be (X6_shift_at h hm hv (by omega)), hF m v e2 hm hv (by omega) (by unfold slE; omega)]
    rfl
theorem C_needlessSigns (h : okS S) (hR : RC S (iI S.1) cells) (hF : FSp S shifts 768) {a : Int} (ha : zInt a) (hN : 30 ≤ N) : f_X9_needlessSigns N (iI S.1) cells shifts (iI a) = if 0 ≤ a ∧ a < S.1 then some (.inl (iI (nlW S a.toNat 2))) else some (.inr 0) := by
  have h1 := h.1.1
  unfold f_X9_needlessSigns
  rw [zSub_rq (C_rqM h.1 ha)]
  by_cases q : 0 ≤ a ∧ a < S.1
  · obtain ⟨m, rfl⟩ := Int.eq_ofNat_of_zero_le q.1
    have hm : m < S.1 := by omega
    have hk := okS_key h hm
    rw [if_pos q, if_pos q, Int.toNat_natCast]
    have e0 := X4_value (N := N) (w := 0) h.1 hR (zIn_ m (by omega)) (by unfold zInt; omega)
    rw [show gV S m 0 = S.2.1 m 0 from gV_at (k := 0) hm (by omega)] at e0
    unfold f_X6_signsWithoutEffect
    refine z_eqT (zT_bind (zT_bindE e0 (zT_bind (zT_mono (zT_loop (P := fun r => r = iI (nlW S m 2)) (fun n s => ∃ v : Nat, v ≤ 2 ∧ n = 2 - v ∧ s = (iI (nlW S m v), iI v)) ?_ N 2 (0, 0) (by omega) ⟨0, by omega, rfl, rfl⟩) (fun a q => zT_some (zT_some (by rw [q])))))))
    rintro n s c ⟨v, hv, rfl, rfl⟩ ih
    unfold f_X6_signsWithoutEffect_B15
    dsimp only
    refine zT_ite (fun q => ?_) (fun q => ?_)
    · rw [iL2, iI_lt (by omega) (by omega) (by omega) (by omega)] at q
      have hv : v < 2 := by omega
      have hC := okC_C h.1 hm hv
      refine zT_bind (zT_mono (zT_loop (P := fun r => r = iI (nlW S m (v + 1))) (fun n s => ∃ e : Nat, e ≤ S.2.2.1 m v ∧ n = S.2.2.1 m v - e ∧ s = (iI (nlW S m v + nlV S m v e), iI e)) ?_ N (S.2.2.1 m v) (_, 0) (by omega) ⟨0, by omega, rfl, by rw [nlV, Int.add_zero]; rfl⟩) (fun r q => zT_bindE rfl (ih (2 - (v + 1)) _ (by omega) ⟨v + 1, by omega, rfl, by rw [q, iIp1]; rfl⟩)))
      clear ih
      rintro n s c2 ⟨e, he, rfl, rfl⟩ ih
      unfold f_X6_signsWithoutEffect_B24
      dsimp only
      refine zT_bindE (X4_count_at h.1 hR hm hv) (zT_ite (fun q => ?_) (fun q => ?_))
      · rw [iI_lt (by omega) (by omega) (by omega) (by omega)] at q
        have he : e < S.2.2.1 m v := by omega
        have hx := okC_ev h.1 hm hv he
        have hxb := okE_b hx
        have hb := nlT_b (S := S) (m := m) (v := v) (e := e)
        have hg := sgS_b (S.2.2.2 m v e).2.1
        refine zT_bindE (X4_code_at h.1 hR hm hv he) (zT_bindE (X0_signOf _ (oOk_some hx)) ?_)
        rw [show oS (some (S.2.2.2 m v e)) = (S.2.2.2 m v e).2.1 from rfl]
        refine zT_bindE (a := iI (nlW S m v + nlV S m v (e + 1))) ?_ (zT_bindE rfl (ih (S.2.2.1 m v - (e + 1)) _ (by omega) ⟨e + 1, by omega, rfl, by rw [iIp1]; rfl⟩))
        rw [nlV, ← Int.add_assoc]
        by_cases q3 : (S.2.2.2 m v e).2.1 = 0
        · rw [if_pos (by rw [q3]; rfl)]
          unfold nlE
          rw [if_neg (fun x => by have := x.1; omega), Int.add_zero]
        · rw [if_neg (by rw [iL0, iI_eq (by omega) (by omega) (by omega) (by omega)]; exact q3), z_be (X6_shiftBefore_at h.1 hR hF hm hv he), z_be (X6_shiftWithoutSign h.1 hR hm hv he hk _ hN), z_be (X6_shift_at h.1 hm hv he), hF m v e hm hv he (by unfold slE; omega)]
          have es : shS S m v e = sgS (S.2.2.2 m v e).2.1 := by
            rw [shS_step, shW, if_pos (by omega)]
          have et : (if tieTo (bfE S m v e) (S.2.2.2 m v e).1 then (if e = 0 then shB S v m else shS S m v (e - 1)) else bmS S (S.2.1 m 0) m v (S.2.2.2 m v e).1 e) = nlT S m v e := rfl
          rw [et, es]
          have e5 : (if iI (nlT S m v e) = iI (sgS (S.2.2.2 m v e).2.1) then some (1 : Int32) else some 0) = some (iI (nlE S m v e)) := by
            unfold nlE
            by_cases q4 : nlT S m v e = sgS (S.2.2.2 m v e).2.1
            · rw [if_pos (by rw [q4]), if_pos ⟨by omega, q4⟩]; rfl
            · rw [if_neg (by rw [iI_eq (by omega) (by omega) (by omega) (by omega)]; exact q4), if_neg (fun x => q4 x.2)]; rfl
          rw [z_be e5, z_sb, iI_add]
      · rw [iI_lt (by omega) (by omega) (by omega) (by omega)] at q
        rw [show e = S.2.2.1 m v by omega]
        exact zT_some rfl
    · rw [iL2, iI_lt (by omega) (by omega) (by omega) (by omega)] at q
      rw [show v = 2 by omega]
      exact zT_some rfl
  · rw [if_neg q, if_neg q]
end ZMJ
