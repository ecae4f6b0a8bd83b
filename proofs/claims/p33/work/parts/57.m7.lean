section ZM7
variable {N : Nat} {S : zSt} {st cells shifts : Nat → Int32} {size code : Int32} {m v e k : Nat}
theorem iIm1 (a : Int) : iI a + -1 = iI (a - 1) := by
  rw [iL1, iI_neg, iI_add]
  rfl
theorem iIp1 (a : Int) : iI a + 1 = iI (a + 1) := iI_add a 1
theorem iIs1 (a : Int) : iI a - 1 = iI (a - 1) := iI_sub a 1
theorem oOk_some {x : zEv} (h : okE x) : oOk (some x) := fun y hy => by cases hy; exact h
theorem smP {x y : zEv} (hx : okE x) (hy : okE y) : (oN (some y) = 1 ∧ oN (some x) = 1 ∧ oP (some y) = oP (some x)) ↔ (0 ≤ x.1 ∧ y.1 = x.1) := by
  simp only [oN, oP]
  unfold okE at hx hy
  split <;> split <;> omega
theorem bfE_ok (h : okC S) (m v e : Int) : oOk (bfE S m v e) := by
  unfold bfE
  split
  · exact gE_ok h _ _ _
  · exact gE_ok h _ _ _
theorem X6_back (h : okC S) (hR : RC S (iI S.1) cells) (hm : m < S.1) (hv : v < 2) {x : zEv} (hx : okE x) {j : Nat} (hj : j ≤ S.2.2.1 m v) {key : Int} (hk : -7 ≤ key ∧ key ≤ 7) (hN : 30 ≤ N) : zLoop (f_X6_shiftWithoutSign_B50 N (iI (pk0 (some x))) (iI key) (iI S.1) cells (iI m) (iI v)) N (iI ((j : Int) - 1)) = some (iI (bmS S key m v x.1 j)) := by
  have h1 := h.1
  have hC := okC_C h hm hv
  have hxo := oOk_some hx
  refine z_eqT (zT_loop (fun n s => n ≤ j ∧ s = iI ((n : Int) - 1) ∧ bmS S key m v x.1 j = bmS S key m v x.1 n) ?_ N j _ (by omega) ⟨Nat.le_refl _, rfl, rfl⟩)
  rintro n s c ⟨hi, rfl, hE⟩ ih
  unfold f_X6_shiftWithoutSign_B50
  refine zT_ite (fun q => ?_) (fun q => ?_)
  · rw [iL0, iI_lt (by omega) (by omega) (by omega) (by omega)] at q
    obtain rfl : n = 0 := by omega
    refine zT_bindE (X0_stepOf _ hxo) (zT_bindE (X6_keyShift hk ?_ hN) (zT_some ?_))
    · have := oB hxo; omega
    · rw [hE]; rfl
  · rw [iL0, iI_lt (by omega) (by omega) (by omega) (by omega)] at q
    obtain ⟨i, rfl⟩ : ∃ i, n = i + 1 := ⟨n - 1, by omega⟩
    rw [show ((i + 1 : Nat) : Int) - 1 = (i : Int) by omega]
    have hy := okC_ev h hm hv (show i < S.2.2.1 m v by omega)
    have hyo := oOk_some hy
    refine zT_bindE (X4_code h hR (zIn_ m (by omega)) (zIn_ v (by omega)) (zIn_ i (by omega))) ?_
    rw [gE_at hm hv (by omega)]
    refine zT_bindE (X0_samePitch _ _ hyo hxo) (zT_ite (fun q2 => ?_) (fun q2 => ?_))
    · rw [z01, smP hx hy] at q2
      refine zT_bindE rfl (ih i _ (by omega) ⟨by omega, iIm1 _, ?_⟩)
      rw [hE, bmS, if_neg]
      unfold okE at hx hy
      omega
    · rw [z01, Classical.not_not, smP hx hy] at q2
      have hb := oB hyo
      refine zT_bindE (X0_signOf _ hyo) (zT_ite (fun q3 => ?_) (fun q3 => ?_))
      · rw [iL0, iI_eq (by omega) (by omega) (by omega) (by omega)] at q3
        refine zT_bindE rfl (ih i _ (by omega) ⟨by omega, iIm1 _, ?_⟩)
        rw [hE, bmS, if_neg]
        have : oS (some (S.2.2.2 m v i)) = (S.2.2.2 m v i).2.1 := rfl
        omega
      · rw [iL0, iI_eq (by omega) (by omega) (by omega) (by omega)] at q3
        refine zT_bindE (X0_signOf _ hyo) (zT_bindE (X6_signShift hb.2.1) (zT_some ?_))
        rw [hE, bmS, if_pos]
        · rfl
        · have : oS (some (S.2.2.2 m v i)) = (S.2.2.2 m v i).2.1 := rfl
          omega
theorem X6_back2 : f_X6_shiftWithoutSign_B50_2 = f_X6_shiftWithoutSign_B50 := rfl
theorem tieTo_of {o : Option zEv} {x : zEv} (ho : oOk o) (hx : okE x) : tieTo o x.1 ↔ (oT o = 1 ∧ (oN o = 1 ∧ oN (some x) = 1 ∧ oP o = oP (some x))) := by
  have hb := oB ho
  unfold tieTo
  simp only [oN, oP]
  unfold okE at hx
  split <;> omega
theorem X6_shiftWithoutSign (h : okC S) (hR : RC S (iI S.1) cells) (hm : m < S.1) (hv : v < 2) (he : e < S.2.2.1 m v) {key : Int} (hk : -7 ≤ key ∧ key ≤ 7) (t : Int) (hN : 30 ≤ N) : f_X6_shiftWithoutSign N (iI S.1) cells (iI m) (iI v) (iI e) (iI key) (iI t) = some (iI (if tieTo (bfE S m v e) (S.2.2.2 m v e).1 then t else bmS S key m v (S.2.2.2 m v e).1 e)) := by
  have h1 := h.1
  have hC := okC_C h hm hv
  have hx := okC_ev h hm hv he
  have ho := bfE_ok h m v e
  have hb := oB ho
  have e1 := X4_code (N := N) h hR (zIn_ m (by omega)) (zIn_ v (by omega)) (zIn_ e (by omega))
  rw [gE_at hm hv he] at e1
  have hB := X6_back (N := N) h hR hm hv hx (Nat.le_of_lt he) hk hN
  have ht := tieTo_of ho hx
  unfold f_X6_shiftWithoutSign
  rw [z_be e1, z_be (X4_codeBefore h hR hm hv he), z_be (X0_isTied _ ho)]
  by_cases q : oT (bfE S m v e) = 0
  · rw [if_pos (show iI (oT (bfE S m v e)) = 0 by rw [q]; rfl), z_sb, iIs1, hB, if_neg (by rw [ht]; omega)]
  · rw [if_neg (show ¬ iI (oT (bfE S m v e)) = 0 by rw [iL0, iI_eq (by omega) (by omega) (by omega) (by omega)]; exact q)]
    by_cases q2 : oN (bfE S m v e) = 1 ∧ oN (some (S.2.2.2 m v e)) = 1 ∧ oP (bfE S m v e) = oP (some (S.2.2.2 m v e))
    · rw [z_be (z_p1 q2 (X0_samePitch _ _ ho (oOk_some hx))), if_neg ne10, if_pos (by rw [ht]; exact ⟨by omega, q2⟩)]
    · rw [z_be (z_p0 q2 (X0_samePitch _ _ ho (oOk_some hx))), if_pos z00, z_sb, iIs1, X6_back2, hB, if_neg (by rw [ht]; exact fun q3 => q2 q3.2)]
theorem X6_shiftWith (h : okC S) (hR : RC S (iI S.1) cells) (hm : m < S.1) (hv : v < 2) (he : e < S.2.2.1 m v) {key : Int} (hk : -7 ≤ key ∧ key ≤ 7) (t : Int) (hN : 30 ≤ N) : f_X6_shiftWith N (iI S.1) cells (iI m) (iI v) (iI e) (iI key) (iI t) = some (iI (shW S key m v t e)) := by
  have h1 := h.1
  have hC := okC_C h hm hv
  have hx := okC_ev h hm hv he
  have hb := oB (oOk_some hx)
  have e1 := X4_code (N := N) h hR (zIn_ m (by omega)) (zIn_ v (by omega)) (zIn_ e (by omega))
  rw [gE_at hm hv he] at e1
  unfold f_X6_shiftWith shW
  rw [z_be e1, z_be (X0_signOf _ (oOk_some hx))]
  have es : oS (some (S.2.2.2 m v e)) = (S.2.2.2 m v e).2.1 := rfl
  rw [es] at hb ⊢
  by_cases q : (S.2.2.2 m v e).2.1 = 0
  · rw [if_pos (show iI (S.2.2.2 m v e).2.1 = 0 by rw [q]; rfl), z_be (X6_shiftWithoutSign h hR hm hv he hk t hN), if_neg (show ¬ 0 < (S.2.2.2 m v e).2.1 by omega)]
  · rw [if_neg (show ¬ iI (S.2.2.2 m v e).2.1 = 0 by rw [iL0, iI_eq (by omega) (by omega) (by omega) (by omega)]; exact q), z_be (X6_signShift hb.2.1), if_pos (show 0 < (S.2.2.2 m v e).2.1 by omega)]
/-! the cells of the shifts -/
theorem X6_slot {a b c : Int} (ha : zInt a) (hb : zInt b) (hc : zInt c) : f_X6_slot N (iI a) (iI b) (iI c) = some (iI (if (0 ≤ a ∧ a < 16) ∧ (0 ≤ b ∧ b < 2) ∧ 0 ≤ c ∧ c < 24 then (a * 2 + b) * 24 + c else -1)) := by
  unfold zInt at ha hb hc
  have l1 : (iI a < 0) = (a < 0) := iI_lt (b := 0) (by omega) (by omega) (by omega) (by omega)
  have l2 : (iI a < 16) = (a < 16) := iI_lt (b := 16) (by omega) (by omega) (by omega) (by omega)
  have l3 : (iI b < 0) = (b < 0) := iI_lt (b := 0) (by omega) (by omega) (by omega) (by omega)
  have l4 : (iI b < 2) = (b < 2) := iI_lt (b := 2) (by omega) (by omega) (by omega) (by omega)
  have l5 : (iI c < 0) = (c < 0) := iI_lt (b := 0) (by omega) (by omega) (by omega) (by omega)
  have l6 : (iI c < 24) = (c < 24) := iI_lt (b := 24) (by omega) (by omega) (by omega) (by omega)
  unfold f_X6_slot
  by_cases q : (0 ≤ a ∧ a < 16) ∧ (0 ≤ b ∧ b < 2) ∧ 0 ≤ c ∧ c < 24
  · rw [if_pos q, if_neg (show ¬ iI a < 0 by rw [l1]; omega), if_pos (show iI a < 16 by rw [l2]; omega), if_neg (show ¬ iI b < 0 by rw [l3]; omega), if_pos (show iI b < 2 by rw [l4]; omega), if_neg (show ¬ iI c < 0 by rw [l5]; omega), if_pos (show iI c < 24 by rw [l6]; omega), z_sb, if_neg ne10]
    rw [iL2, iL24, iI_mul, iI_add, iI_mul, iI_add]
  · rw [if_neg q]
    have e : (if iI a < 0 then some (0 : Int32) else if iI a < 16 then if iI b < 0 then some 0 else if iI b < 2 then if iI c < 0 then some 0 else if iI c < 24 then some 1 else some 0 else some 0 else some 0) = some 0 := by
      split
      · rfl
      · split
        · split
          · rfl
          · split
            · split
              · rfl
              · split
                · next q1 q2 q3 q4 q5 q6 =>
                  rw [l1] at q1; rw [l2] at q2; rw [l3] at q3; rw [l4] at q4; rw [l5] at q5; rw [l6] at q6
                  omega
                · rfl
            · rfl
        · rfl
    rw [e, z_sb, if_pos z00]
    rfl
theorem X6_shift {a b c : Int} (ha : zInt a) (hb : zInt b) (hc : zInt c) : f_X6_shift N shifts (iI a) (iI b) (iI c) = some (if (0 ≤ a ∧ a < 16) ∧ (0 ≤ b ∧ b < 2) ∧ 0 ≤ c ∧ c < 24 then shifts ((a * 2 + b) * 24 + c).toNat else 0) := by
  unfold f_X6_shift
  rw [z_be (X6_slot ha hb hc)]
  by_cases q : (0 ≤ a ∧ a < 16) ∧ (0 ≤ b ∧ b < 2) ∧ 0 ≤ c ∧ c < 24
  · rw [if_pos q, if_pos q, if_neg (by rw [iL0, iI_lt (by omega) (by omega) (by omega) (by omega)]; omega), zAldI (by omega) (by omega) (by omega), z_sb]
  · rw [if_neg q, if_neg q, if_pos (by decide)]
end ZM7
