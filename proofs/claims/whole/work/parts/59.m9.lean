section ZM9
variable {N : Nat} {S : zSt} {st cells shifts : Nat → Int32} {size code : Int32} {m v e k : Nat}
theorem shS_step : shS S m v e = shW S (S.2.1 m 0) m v (if e = 0 then shB S v m else shS S m v (e - 1)) e := by
  match e with
  | 0 => rfl
  | e + 1 => rfl
/-- the event ahead of an event, if there is one, and what the shift is by it -/
theorem pvE (hm : m < S.1) (hv : v < 2) (he : e < S.2.2.1 m v) : (∃ m2 e2 : Nat, (m = m2 ∧ e = e2 + 1 ∨ m = m2 + 1 ∧ e = 0) ∧ m2 < S.1 ∧ (e = 0 → e2 + 1 = S.2.2.1 m2 v) ∧ e2 < S.2.2.1 m2 v ∧ bfE S m v e = some (S.2.2.2 m2 v e2) ∧ shS S m v e = shW S (S.2.1 m 0) m v (shS S m2 v e2) e) ∨ (e = 0 ∧ (m = 0 ∨ ∃ m2, m = m2 + 1 ∧ S.2.2.1 m2 v = 0) ∧ bfE S m v e = none) := by
  match e, he with
  | e2 + 1, he =>
    refine Or.inl ⟨m, e2, Or.inl ⟨rfl, rfl⟩, hm, fun q => by omega, by omega, ?_, ?_⟩
    · unfold bfE
      rw [if_pos (by omega), show ((e2 + 1 : Nat) : Int) - 1 = (e2 : Int) by omega, gE_at hm hv (by omega)]
    · rw [shS_step, if_neg (by omega)]; rfl
  | 0, he =>
    match m, hm with
    | 0, hm =>
      refine Or.inr ⟨rfl, Or.inl rfl, ?_⟩
      unfold bfE gE
      rw [if_neg (by omega), if_neg (by omega)]
    | m2 + 1, hm =>
      have ec : gC S (((m2 + 1 : Nat) : Int) - 1) v = (S.2.2.1 m2 v : Int) := by
        rw [show ((m2 + 1 : Nat) : Int) - 1 = (m2 : Int) by omega, gC_at (by omega) hv]
      rcases Nat.eq_zero_or_pos (S.2.2.1 m2 v) with q | q
      · refine Or.inr ⟨rfl, Or.inr ⟨m2, rfl, q⟩, ?_⟩
        unfold bfE
        rw [if_neg (by omega), ec, q]
        unfold gE
        rw [if_neg (by omega)]
      · refine Or.inl ⟨m2, S.2.2.1 m2 v - 1, Or.inr ⟨rfl, rfl⟩, by omega, fun _ => by omega, by omega, ?_, ?_⟩
        · unfold bfE
          rw [if_neg (by omega), ec, show ((m2 + 1 : Nat) : Int) - 1 = (m2 : Int) by omega, show ((S.2.2.1 m2 v : Nat) : Int) - 1 = ((S.2.2.1 m2 v - 1 : Nat) : Int) by omega, gE_at (by omega) hv (by omega)]
        · rw [shS_step, if_pos rfl, shS_last (by omega)]
theorem tieS {y : zEv} (hy : okE y) {p : Int} (hp : 0 ≤ p) : tieTo (some y) p ↔ (y.1 = p ∧ ¬ y.2.2.2 = 0) := by
  unfold tieTo
  simp only [oT, oN, oP]
  unfold okE at hy
  split <;> omega
theorem tieN {p : Int} : ¬ tieTo none p := by
  unfold tieTo
  simp only [oT]
  omega
theorem X10_byMeasure (h : okS S) (hR : RM S st) (hm : m < S.1) (hv : v < 2) (he : e < S.2.2.1 m v) (hp : 0 ≤ (S.2.2.2 m v e).1) (hN : 30 ≤ N) : f_X10_byMeasure N st (iI m) (iI v) (iI e) = some (iI (bmS S (S.2.1 m 0) m v (S.2.2.2 m v e).1 e)) := by
  have h1 := h.1.1
  have hC := okC_C h.1 hm hv
  have hx := okE_b (okC_ev h.1 hm hv he)
  unfold f_X10_byMeasure
  rw [z_be X10_cell, z_be (zld0 h.1 hR hm hv he), z_sb, iIs1]
  generalize hpp : (S.2.2.2 m v e).1 = p at hp hx ⊢
  refine z_eqT (zT_loop (fun n s => n ≤ e ∧ s = iI ((n : Int) - 1) ∧ bmS S (S.2.1 m 0) m v p e = bmS S (S.2.1 m 0) m v p n) ?_ N e _ (by omega) ⟨Nat.le_refl _, rfl, rfl⟩)
  rintro n s c ⟨hi, rfl, hE⟩ ih
  unfold f_X10_byMeasure_B20
  refine zT_ite (fun q => ?_) (fun q => ?_)
  · rw [iL0, iI_lt (by omega) (by omega) (by omega) (by omega)] at q
    obtain rfl : n = 0 := by omega
    refine zT_bindE (X10_of_V (k := 0) h.1 hR hm (by omega) (a := 0) rfl) (zT_bindE (zRemI (b := 7) (by omega) (by omega) (by omega) (by omega)) (zT_bindE (X10_byKey (okS_key h hm) (by omega)) (zT_some ?_)))
    rw [hE, bmS, if_neg (by omega)]
  · rw [iL0, iI_lt (by omega) (by omega) (by omega) (by omega)] at q
    obtain ⟨i, rfl⟩ : ∃ i, n = i + 1 := ⟨n - 1, by omega⟩
    rw [show ((i + 1 : Nat) : Int) - 1 = (i : Int) by omega]
    have hy := okE_b (okC_ev h.1 hm hv (show i < S.2.2.1 m v by omega))
    have hi : i < S.2.2.1 m v := by omega
    refine zT_bindE X10_cell (zT_bindE (zld0 h.1 hR hm hv hi) (zT_ite (fun q2 => ?_) (fun q2 => ?_)))
    · rw [iI_eq (by omega) (by omega) (by omega) (by omega)] at q2
      refine zT_bindE (zld1 h.1 hR hm hv hi) (zT_ite (fun q3 => ?_) (fun q3 => ?_))
      · rw [iL0, iI_lt (by omega) (by omega) (by omega) (by omega)] at q3
        refine zT_bindE (zld1 h.1 hR hm hv hi) (zT_bindE (X10_bySign hy.2.1) (zT_some ?_))
        rw [hE, bmS, if_pos ⟨q2, q3⟩]
      · rw [iL0, iI_lt (by omega) (by omega) (by omega) (by omega)] at q3
        refine zT_bindE rfl (ih i _ (by omega) ⟨by omega, iIm1 _, ?_⟩)
        rw [hE, bmS, if_neg (fun q4 => q3 q4.2)]
    · rw [iI_eq (by omega) (by omega) (by omega) (by omega)] at q2
      refine zT_bindE rfl (ih i _ (by omega) ⟨by omega, iIm1 _, ?_⟩)
      rw [hE, bmS, if_neg (fun q4 => q2 q4.1)]
theorem X10_shift (h : okS S) (hR : RM S st) (hm : m < S.1) (hv : v < 2) (he : e < S.2.2.1 m v) (hp : 0 ≤ (S.2.2.2 m v e).1) (hN : 2000 ≤ N) : f_X10_shift N st (iI m) (iI v) (iI e) = some (iI (shS S m v e)) := by
  have h1 := h.1.1
  have hC := okC_C h.1 hm hv
  unfold f_X10_shift
  refine z_eqT (zT_loop (fun n s => ∃ a b : Nat, a < S.1 ∧ b < S.2.2.1 a v ∧ n = 24 * a + b ∧ s = (iI a, iI b) ∧ 0 ≤ (S.2.2.2 a v b).1 ∧ shS S m v e = shS S a v b) ?_ N (24 * m + e) _ (by omega) ⟨m, e, hm, he, rfl, rfl, hp, rfl⟩)
  clear hC hp he hm
  rintro n s c ⟨a, b, ha, hb, rfl, rfl, hp, hE⟩ ih
  rw [hE] at ih ⊢
  clear hE
  have hC := okC_C h.1 ha hv
  have hx := okE_b (okC_ev h.1 ha hv hb)
  unfold f_X10_shift_B6
  dsimp only
  refine zT_bindE X10_cell (zT_bindE (zld1 h.1 hR ha hv hb) (zT_ite (fun q => ?_) (fun q => ?_)))
  · rw [iL0, iI_lt (by omega) (by omega) (by omega) (by omega)] at q
    refine zT_bindE (zld1 h.1 hR ha hv hb) (zT_bindE (X10_bySign hx.2.1) (zT_some ?_))
    rw [shS_step, shW, if_pos q]
  · rw [iL0, iI_lt (by omega) (by omega) (by omega) (by omega)] at q
    have hJ : ¬ tieTo (bfE S a v b) (S.2.2.2 a v b).1 → zT (f_X10_shift_J149 N st (iI v) (iI a) (iI b)) (fun x => x = iI (shS S a v b)) := by
      intro ht
      refine zT_bindE (X10_byMeasure h hR ha hv hb hp (by omega)) (zT_some ?_)
      rw [shS_step, shW, if_neg q, if_neg ht]
    have lt0 : ∀ x : Nat, x ≤ 100 → ((0 : Int32) < iI x) = (0 < x) := by
      intro x hx
      rw [iL0, iI_lt (by omega) (by omega) (by omega) (by omega)]
      apply propext; omega
    have lt1 : ∀ x : Nat, x ≤ 100 → (iI x < (0 : Int32)) = False := by
      intro x hx
      rw [iL0, iI_lt (by omega) (by omega) (by omega) (by omega)]
      exact eq_false (by omega)
    rcases pvE ha hv hb with ⟨a2, b2, hab, ha2, hl2, hb2, hbf, hsh⟩ | ⟨rfl, hab, hbf⟩
    · have hC2 := okC_C h.1 ha2 hv
      have hy := okE_b (okC_ev h.1 ha2 hv hb2)
      have e3 : (if (0 : Int32) < iI b then some (iI a) else some (iI a - 1)) = some (iI a2) := by
        rcases hab with ⟨rfl, rfl⟩ | ⟨rfl, rfl⟩
        · rw [if_pos (by rw [lt0 _ (by omega)]; omega)]
        · rw [if_neg (by rw [lt0 _ (by omega)]; omega), iIs1]
          congr 2; omega
      have e4 : (if (0 : Int32) < iI b then some (iI b - 1) else if iI a2 < 0 then some (-1) else Option.bind (f_X10_of N st (iI a2) (7 + iI v)) (fun (r13_ : Int32) => some (r13_ - 1))) = some (iI b2) := by
        rcases hab with ⟨rfl, rfl⟩ | ⟨rfl, rfl⟩
        · rw [if_pos (by rw [lt0 _ (by omega)]; omega), iIs1]
          congr 2; omega
        · rw [if_neg (by rw [lt0 _ (by omega)]; omega), if_neg (by rw [lt1 _ (by omega)]; exact id), iL7, iI_add, z_be (X10_of_C h.1 hR ha2 hv rfl), iIs1]
          have := hl2 rfl
          congr 2; omega
      have e5 : (if iI b2 < 0 then some (-1) else Option.bind (f_X10_cell N (iI a2) (iI v) (iI b2)) (fun (r12_ : Int32) => some r12_)) = some (iI (zCl a2 v b2)) := by
        rw [if_neg (by rw [lt1 _ (by omega)]; exact id), z_be X10_cell]
      have hz := zCl_b h.1 ha2 hv hb2
      refine zT_bindE e3 (zT_bindE e4 (zT_bindE e5 (zT_ite (fun q2 => ?_) (fun q2 => ?_))))
      · rw [iL0, iI_lt (by omega) (by omega) (by omega) (by omega)] at q2
        omega
      · refine zT_bindE (zld0 h.1 hR ha2 hv hb2) (zT_bindE (zld0 h.1 hR ha hv hb) (zT_ite (fun q3 => ?_) (fun q3 => ?_)))
        · rw [iI_eq (by omega) (by omega) (by omega) (by omega)] at q3
          refine zT_bindE (zld3 h.1 hR ha2 hv hb2) (zT_ite (fun q4 => ?_) (fun q4 => ?_))
          · rw [iL0, iI_eq (by omega) (by omega) (by omega) (by omega)] at q4
            exact hJ (by rw [hbf, tieS (okC_ev h.1 ha2 hv hb2) hp]; exact fun x => x.2 q4)
          · rw [iL0, iI_eq (by omega) (by omega) (by omega) (by omega)] at q4
            refine ih (24 * a2 + b2) _ (by omega) ⟨a2, b2, ha2, hb2, rfl, rfl, by omega, ?_⟩
            rw [hsh, shW, if_neg q, if_pos (by rw [hbf, tieS (okC_ev h.1 ha2 hv hb2) hp]; exact ⟨q3, q4⟩)]
        · rw [iI_eq (by omega) (by omega) (by omega) (by omega)] at q3
          exact hJ (by rw [hbf, tieS (okC_ev h.1 ha2 hv hb2) hp]; exact fun x => q3 x.1)
    · have hj := hJ (by rw [hbf]; exact tieN)
      have e5 : (if (-1 : Int32) < 0 then some (-1 : Int32) else Option.bind (f_X10_cell N (iI ((a : Int) - 1)) (iI v) (-1)) (fun (r12_ : Int32) => some r12_)) = some (-1) := rfl
      refine zT_bindE (a := iI ((a : Int) - 1)) (by rw [if_neg (by rw [lt0 _ (by omega)]; omega), iIs1]) (zT_bindE (a := -1) ?_ (zT_bindE e5 (zT_ite (fun _ => hj) (fun q2 => absurd (by decide) q2))))
      rw [if_neg (by rw [lt0 _ (by omega)]; omega)]
      rcases hab with rfl | ⟨a2, rfl, hc⟩
      · rfl
      · rw [show ((a2 + 1 : Nat) : Int) - 1 = (a2 : Int) by omega, if_neg (by rw [lt1 _ (by omega)]; exact id), iL7, iI_add, z_be (X10_of_C h.1 hR (by omega) hv rfl), hc]
        rfl
end ZM9
