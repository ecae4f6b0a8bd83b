section ZMJ
variable {N : Nat} {S : zSt} {st cells shifts held : Nat → Int32} {size code : Int32} {m v e k i j : Nat}
theorem okS_setSg (h : okS S) (hm : m < S.1) (hv : v < 2) (he : e < S.2.2.1 m v) {x : Int} (hx : okE ((S.2.2.2 m v e).1, x, (S.2.2.2 m v e).2.2)) : okS (setSg S m v e x) := by
  refine ⟨⟨h.1.1, fun m' hm' => ⟨(h.1.2 m' hm').1, fun v' hv' => ⟨((h.1.2 m' hm').2 v' hv').1, fun e' he' => ?_⟩⟩⟩, h.2⟩
  by_cases q : m' = m ∧ v' = v ∧ e' = e
  · obtain ⟨rfl, rfl, rfl⟩ := q
    rw [setSg_same]
    exact hx
  · rw [setSg_ne x q]
    exact ((h.1.2 m' hm').2 v' hv').2 e' he'
theorem ofs2 {m m' a b : Nat} (ha : 10 ≤ a ∧ a ≤ 201) (hb : 10 ≤ b ∧ b ≤ 201) (h : 201 * m' + a = 201 * m + b) : m' = m ∧ a = b := by omega
theorem ofs3 {v v' e e' c d : Nat} (hv : v < 2) (hv' : v' < 2) (he : e < 24) (he' : e' < 24) (hc : c < 4) (hd : d < 4) (h : 10 + 96 * v' + 4 * e' + c = 10 + 96 * v + 4 * e + d) : v' = v ∧ e' = e ∧ c = d := by omega
theorem cell_inj {m m' v v' e e' c d : Nat} (hv : v < 2) (hv' : v' < 2) (he : e < 24) (he' : e' < 24) (hc : c < 4) (hd : d < 4) (h : 201 * m' + 10 + 96 * v' + 4 * e' + c = 201 * m + 10 + 96 * v + 4 * e + d) : m' = m ∧ v' = v ∧ e' = e ∧ c = d := by
  obtain ⟨h1, h2⟩ := ofs2 (m := m) (m' := m') (a := 10 + 96 * v' + 4 * e' + c) (b := 10 + 96 * v + 4 * e + d) (by omega) (by omega) (by omega)
  exact ⟨h1, ofs3 hv hv' he he' hc hd h2⟩
theorem cell_far {m m' v e c o : Nat} (hv : v < 2) (he : e < 24) (hc : c < 4) (ho : o < 10) : 201 * m' + o ≠ 201 * m + 10 + 96 * v + 4 * e + c ∨ (201 * m' + o = 201 * m + 201 ∧ o = 0 ∧ m' = m + 1) := by
  have : ∀ a, 10 ≤ a → a ≤ 201 → 201 * m' + o ≠ 201 * m + a ∨ (201 * m' + o = 201 * m + 201 ∧ o = 0 ∧ m' = m + 1) := by intro a; omega
  have := this (10 + 96 * v + 4 * e + c) (by omega) (by omega)
  omega
theorem RM_setSg (h : okC S) (hR : RM S st) (hm : m < S.1) (hv : v < 2) (he : e < S.2.2.1 m v) (x : Int) : RM (setSg S m v e x) (upd st (201 * m + 10 + 96 * v + 4 * e + 1) (iI x)) := by
  have he24 : e < 24 := Nat.lt_of_lt_of_le he (okC_C h hm hv)
  refine ⟨?_, fun m' hm' => ⟨fun k' hk' => ?_, fun v' hv' => ⟨?_, fun e' he' => ?_⟩⟩⟩
  · rw [upd_ne _ _ (by omega)]; exact hR.1
  · rw [upd_ne _ _ (by have := cell_far (m' := m') (m := m) hv he24 (show 1 < 4 by omega) (show 1 + k' < 10 by omega); omega)]
    exact (hR.2 m' hm').1 k' hk'
  · rw [upd_ne _ _ (by have := cell_far (m' := m') (m := m) hv he24 (show 1 < 4 by omega) (show 8 + v' < 10 by omega); omega)]
    exact ((hR.2 m' hm').2 v' hv').1
  · have hm2 : m' < S.1 := hm'
    have he2 : e' < S.2.2.1 m' v' := he'
    have h24 : e' < 24 := Nat.lt_of_lt_of_le he2 (okC_C h hm2 hv')
    obtain ⟨r0, r1, r2, r3⟩ := ((hR.2 m' hm').2 v' hv').2 e' he'
    have c0 : 201 * m' + 10 + 96 * v' + 4 * e' ≠ 201 * m + 10 + 96 * v + 4 * e + 1 := fun q => by
      have := cell_inj (c := 0) hv hv' he24 h24 (by omega) (by omega) q
      omega
    have c2 : 201 * m' + 10 + 96 * v' + 4 * e' + 2 ≠ 201 * m + 10 + 96 * v + 4 * e + 1 := fun q => by
      have := cell_inj (c := 2) hv hv' he24 h24 (by omega) (by omega) q
      omega
    have c3 : 201 * m' + 10 + 96 * v' + 4 * e' + 3 ≠ 201 * m + 10 + 96 * v + 4 * e + 1 := fun q => by
      have := cell_inj (c := 3) hv hv' he24 h24 (by omega) (by omega) q
      omega
    rw [upd_ne _ _ c0, upd_ne _ _ c2, upd_ne _ _ c3]
    by_cases q : m' = m ∧ v' = v ∧ e' = e
    · obtain ⟨rfl, rfl, rfl⟩ := q
      rw [setSg_same, upd_eq _ _ rfl]
      exact ⟨r0, rfl, r2, r3⟩
    · have c1 : 201 * m' + 10 + 96 * v' + 4 * e' + 1 ≠ 201 * m + 10 + 96 * v + 4 * e + 1 := fun q2 => by
        have := cell_inj (c := 1) hv hv' he24 h24 (by omega) (by omega) q2
        exact q ⟨this.1, this.2.1, this.2.2.1⟩
      rw [setSg_ne x q, upd_ne _ _ c1]
      exact ⟨r0, r1, r2, r3⟩
theorem RM_backSg {x : Int} (hR : RM (setSg (setSg S m v e x) m v e (S.2.2.2 m v e).2.1) st) : RM S st := by
  refine ⟨hR.1, fun m' hm' => ⟨(hR.2 m' hm').1, fun v' hv' => ⟨((hR.2 m' hm').2 v' hv').1, fun e' he' => ?_⟩⟩⟩
  have := ((hR.2 m' hm').2 v' hv').2 e' he'
  by_cases q : m' = m ∧ v' = v ∧ e' = e
  · obtain ⟨rfl, rfl, rfl⟩ := q
    rw [setSg_same, setSg_same] at this
    exact this
  · rw [setSg_ne _ q, setSg_ne _ q] at this
    exact this
theorem nlT_b : -1 ≤ nlT S m v e ∧ nlT S m v e ≤ 1 := by
  unfold nlT
  split
  · split
    · exact shB_b m
    · exact shS_b _ _ _
  · exact bmS_b _ _ _
theorem M_needlessSigns (h : okS S) (hR : RM S st) {a : Int} (ha : zInt a) (hN : 2000 ≤ N) : zT (f_X10_needlessSigns N code st (iI a)) (fun r => RM S r.2.2 ∧ if 0 ≤ a ∧ a < S.1 then r.1 = iI (nlW S a.toNat 2) ∧ r.2.1 = 0 else r.2.1 = 1) := by
  have h1 := h.1.1
  unfold f_X10_needlessSigns
  by_cases q : 0 ≤ a ∧ a < S.1
  · rw [z_be (z_p1 q (X10_isMeasure h.1 hR ha)), if_neg ne10, z_sb, z_be (X10_ref0 code), if_pos (f00 0)]
    obtain ⟨m, rfl⟩ := Int.eq_ofNat_of_zero_le q.1
    have hm : m < S.1 := by omega
    refine zT_bind (zT_mono (zT_loop (P := fun r => r.1 = iI (nlW S m 2) ∧ RM S r.2) (fun n s => ∃ v : Nat, v ≤ 2 ∧ n = 2 - v ∧ s.1 = iI (nlW S m v) ∧ s.2.1 = iI v ∧ RM S s.2.2) ?_ N 2 (0, 0, st) (by omega) ⟨0, by omega, rfl, rfl, rfl, hR⟩) (fun r hr => zT_some ⟨hr.2, by rw [if_pos q]; exact ⟨hr.1, rfl⟩⟩))
    clear hR
    rintro n ⟨s1, s2, st1⟩ c ⟨v, hv, rfl, q1, q2, hR1⟩ ih
    dsimp only at q1 q2 hR1
    subst q1; subst q2
    unfold f_X10_needlessSigns_B26
    dsimp only
    refine zT_ite (fun q => ?_) (fun q => ?_)
    · rw [iL2, iI_lt (by omega) (by omega) (by omega) (by omega)] at q
      have hv : v < 2 := by omega
      have hC := okC_C h.1 hm hv
      refine zT_bind (zT_mono (zT_loop (P := fun r => r.1 = iI (nlW S m (v + 1)) ∧ RM S r.2) (fun n s => ∃ e : Nat, e ≤ S.2.2.1 m v ∧ n = S.2.2.1 m v - e ∧ s.1 = iI (nlW S m v + nlV S m v e) ∧ s.2.1 = iI e ∧ RM S s.2.2) ?_ N (S.2.2.1 m v) (_, 0, st1) (by omega) ⟨0, by omega, rfl, by rw [nlV, Int.add_zero], rfl, hR1⟩) (fun r q => zT_bindE rfl (ih (2 - (v + 1)) _ (by omega) ⟨v + 1, by omega, rfl, q.1, iIp1 _, q.2⟩)))
      clear ih
      rintro n ⟨s1, s2, st2⟩ c2 ⟨e, he, rfl, q1, q2, hR2⟩ ih
      dsimp only at q1 q2 hR2
      subst q1; subst q2
      unfold f_X10_needlessSigns_B34
      dsimp only
      rw [iL7, iI_add]
      refine zT_bindE (X10_of_C h.1 hR2 hm hv rfl) (zT_ite (fun q => ?_) (fun q => ?_))
      · rw [iI_lt (by omega) (by omega) (by omega) (by omega)] at q
        have he : e < S.2.2.1 m v := by omega
        have hx := okC_ev h.1 hm hv he
        have hxb := okE_b hx
        have hz := zCl_b h.1 hm hv he
        have ez : (zCl m v e + 1).toNat = 201 * m + 10 + 96 * v + 4 * e + 1 := by unfold zCl; omega
        refine zT_bindE X10_cell (zT_bindE rfl (zT_bindE (zld1 h.1 hR2 hm hv he) (zT_bind (zT_mono (P := fun r => r.1 = iI (nlW S m v + nlV S m v (e + 1)) ∧ RM S r.2) ?_ (fun r q => zT_bindE rfl (ih (S.2.2.1 m v - (e + 1)) _ (by omega) ⟨e + 1, by omega, rfl, q.1, iIp1 _, q.2⟩))))))
        rw [nlV, ← Int.add_assoc, iIp1]
        refine zT_ite (fun q3 => ?_) (fun q3 => ?_)
        · rw [iL0, iI_lt (by omega) (by omega) (by omega) (by omega)] at q3
          have hp : 0 ≤ (S.2.2.2 m v e).1 := by omega
          have hok' : okE ((S.2.2.2 m v e).1, 0, (S.2.2.2 m v e).2.2) := by
            unfold okE at hx ⊢
            dsimp only
            omega
          have h' := okS_setSg h hm hv he hok'
          have hR3 := RM_setSg h.1 hR2 hm hv he 0
          have hR4 := RM_backSg (RM_setSg h'.1 hR3 hm hv he (S.2.2.2 m v e).2.1)
          have hb := nlT_b (S := S) (m := m) (v := v) (e := e)
          have hg := sgS_b (S.2.2.2 m v e).2.1
          rw [zAstI (by omega) (by omega) (by omega), ez]
          refine zT_bindE rfl (zT_bindE (X10_shift (S := setSg S m v e 0) h' hR3 hm hv he (by rw [setSg_same]; exact hp) hN) (zT_bindE (X10_bySign hxb.2.1) ?_))
          rw [shS_sg, zAstI (by omega) (by omega) (by omega), ez]
          have e5 : (if iI (nlT S m v e) = iI (sgS (S.2.2.2 m v e).2.1) then some (1 : Int32) else some 0) = some (iI (nlE S m v e)) := by
            unfold nlE
            by_cases q4 : nlT S m v e = sgS (S.2.2.2 m v e).2.1
            · rw [if_pos (by rw [q4]), if_pos ⟨q3, q4⟩]; rfl
            · rw [if_neg (by rw [iI_eq (by omega) (by omega) (by omega) (by omega)]; exact q4), if_neg (fun x => q4 x.2)]; rfl
          exact zT_bindE e5 (zT_bindE rfl (zT_bindE rfl (zT_some ⟨by rw [iI_add], hR4⟩)))
        · rw [iL0, iI_lt (by omega) (by omega) (by omega) (by omega)] at q3
          refine zT_some ⟨?_, hR2⟩
          unfold nlE
          rw [if_neg (fun x => q3 x.1), Int.add_zero]
      · rw [iI_lt (by omega) (by omega) (by omega) (by omega)] at q
        rw [show e = S.2.2.1 m v by omega]
        exact zT_some ⟨rfl, hR2⟩
    · rw [iL2, iI_lt (by omega) (by omega) (by omega) (by omega)] at q
      rw [show v = 2 by omega]
      exact zT_some ⟨rfl, hR1⟩
  · rw [z_be (z_p0 q (X10_isMeasure h.1 hR ha)), if_pos z00, z_sb, z_be (X10_ref1 code), if_neg (f10 1)]
    exact zT_some ⟨hR, by rw [if_neg q]⟩
theorem X6_shiftBefore_at (h : okC S) (hR : RC S (iI S.1) cells) (hF : FSp S shifts 768) (hm : m < S.1) (hv : v < 2) (he : e < S.2.2.1 m v) : f_X6_shiftBefore N (iI S.1) shifts cells (iI m) (iI v) (iI e) = some (iI (if e = 0 then shB S v m else shS S m v (e - 1))) := by
  have h1 := h.1
  have hC := okC_C h hm hv
  by_cases q : e = 0
  · subst q
    rw [if_pos rfl]
    exact X6_shiftBefore0 h hR hm hv (by omega) hF
  · obtain ⟨e2, rfl⟩ : ∃ i, e = i + 1 := ⟨e - 1, by omega⟩
    unfold f_X6_shiftBefore
    rw [if_neg q, if_pos (by rw [iL0, iI_lt (by omega) (by omega) (by omega) (by omega)]; omega), iIs1, show ((e2 + 1 : Nat) : Int) - 1 = (e2 : Int) by omega, z_be (X6_shift_at h hm hv (by omega)), hF m v e2 hm hv (by omega) (by unfold slE; omega)]
    rfl
theorem C_needlessSigns (h : okS S) (hR : RC S (iI S.1) cells) (hF : FSp S shifts 768) {a : Int} (ha : zInt a) (hN : 30 ≤ N) : f_X9_needlessSigns N (iI S.1) cells shifts (iI a) = if 0 ≤ a ∧ a < S.1 then some (.inl (iI (nlW S a.toNat 2))) else some (.inr 0) := by
  have h1 := h.1.1
  unfold f_X9_needlessSigns
  rw [zSub_rq (C_rqM h.1 ha)]
  by_cases q : 0 ≤ a ∧ a < S.1
  · obtain ⟨m, rfl⟩ := Int.eq_ofNat_of_zero_le q.1
    have hm : m < S.1 := by omega
    have hk := okS_key h hm
    rw [if_pos q, if_pos q, Int.toNat_natCast]
    have e0 := X4_value (N := N) (w := 0) h.1 hR (zIn_ m (by omega)) (by unfold zInt; omega)
    rw [show gV S m 0 = S.2.1 m 0 from gV_at (k := 0) hm (by omega)] at e0
    unfold f_X6_signsWithoutEffect
    refine z_eqT (zT_bind (zT_bindE e0 (zT_bind (zT_mono (zT_loop (P := fun r => r = iI (nlW S m 2)) (fun n s => ∃ v : Nat, v ≤ 2 ∧ n = 2 - v ∧ s = (iI (nlW S m v), iI v)) ?_ N 2 (0, 0) (by omega) ⟨0, by omega, rfl, rfl⟩) (fun a q => zT_some (zT_some (by rw [q])))))))
    rintro n s c ⟨v, hv, rfl, rfl⟩ ih
    unfold f_X6_signsWithoutEffect_B15
    dsimp only
    refine zT_ite (fun q => ?_) (fun q => ?_)
    · rw [iL2, iI_lt (by omega) (by omega) (by omega) (by omega)] at q
      have hv : v < 2 := by omega
      have hC := okC_C h.1 hm hv
      refine zT_bind (zT_mono (zT_loop (P := fun r => r = iI (nlW S m (v + 1))) (fun n s => ∃ e : Nat, e ≤ S.2.2.1 m v ∧ n = S.2.2.1 m v - e ∧ s = (iI (nlW S m v + nlV S m v e), iI e)) ?_ N (S.2.2.1 m v) (_, 0) (by omega) ⟨0, by omega, rfl, by rw [nlV, Int.add_zero]; rfl⟩) (fun r q => zT_bindE rfl (ih (2 - (v + 1)) _ (by omega) ⟨v + 1, by omega, rfl, by rw [q, iIp1]; rfl⟩)))
      clear ih
      rintro n s c2 ⟨e, he, rfl, rfl⟩ ih
      unfold f_X6_signsWithoutEffect_B24
      dsimp only
      refine zT_bindE (X4_count_at h.1 hR hm hv) (zT_ite (fun q => ?_) (fun q => ?_))
      · rw [iI_lt (by omega) (by omega) (by omega) (by omega)] at q
        have he : e < S.2.2.1 m v := by omega
        have hx := okC_ev h.1 hm hv he
        have hxb := okE_b hx
        have hb := nlT_b (S := S) (m := m) (v := v) (e := e)
        have hg := sgS_b (S.2.2.2 m v e).2.1
        refine zT_bindE (X4_code_at h.1 hR hm hv he) (zT_bindE (X0_signOf _ (oOk_some hx)) ?_)
        rw [show oS (some (S.2.2.2 m v e)) = (S.2.2.2 m v e).2.1 from rfl]
        refine zT_bindE (a := iI (nlW S m v + nlV S m v (e + 1))) ?_ (zT_bindE rfl (ih (S.2.2.1 m v - (e + 1)) _ (by omega) ⟨e + 1, by omega, rfl, by rw [iIp1]; rfl⟩))
        rw [nlV, ← Int.add_assoc]
        by_cases q3 : (S.2.2.2 m v e).2.1 = 0
        · rw [if_pos (by rw [q3]; rfl)]
          unfold nlE
          rw [if_neg (fun x => by have := x.1; omega), Int.add_zero]
        · rw [if_neg (by rw [iL0, iI_eq (by omega) (by omega) (by omega) (by omega)]; exact q3), z_be (X6_shiftBefore_at h.1 hR hF hm hv he), z_be (X6_shiftWithoutSign h.1 hR hm hv he hk _ hN), z_be (X6_shift_at h.1 hm hv he), hF m v e hm hv he (by unfold slE; omega)]
          have es : shS S m v e = sgS (S.2.2.2 m v e).2.1 := by
            rw [shS_step, shW, if_pos (by omega)]
          have et : (if tieTo (bfE S m v e) (S.2.2.2 m v e).1 then (if e = 0 then shB S v m else shS S m v (e - 1)) else bmS S (S.2.1 m 0) m v (S.2.2.2 m v e).1 e) = nlT S m v e := rfl
          rw [et, es]
          have e5 : (if iI (nlT S m v e) = iI (sgS (S.2.2.2 m v e).2.1) then some (1 : Int32) else some 0) = some (iI (nlE S m v e)) := by
            unfold nlE
            by_cases q4 : nlT S m v e = sgS (S.2.2.2 m v e).2.1
            · rw [if_pos (by rw [q4]), if_pos ⟨by omega, q4⟩]; rfl
            · rw [if_neg (by rw [iI_eq (by omega) (by omega) (by omega) (by omega)]; exact q4), if_neg (fun x => q4 x.2)]; rfl
          rw [z_be e5, z_sb, iI_add]
      · rw [iI_lt (by omega) (by omega) (by omega) (by omega)] at q
        rw [show e = S.2.2.1 m v by omega]
        exact zT_some rfl
    · rw [iL2, iI_lt (by omega) (by omega) (by omega) (by omega)] at q
      rw [show v = 2 by omega]
      exact zT_some rfl
  · rw [if_neg q, if_neg q]
end ZMJ
