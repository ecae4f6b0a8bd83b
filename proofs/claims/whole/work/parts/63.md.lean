/-! ===== crossings ===== -/
def togS (S : zSt) (m i j : Nat) : Int :=
  let lo := if gT S m 0 i < gT S m 1 j then gT S m 1 j else gT S m 0 i
  let hi := if gT S m 0 (i + 1) < gT S m 1 (j + 1) then gT S m 0 (i + 1) else gT S m 1 (j + 1)
  let to := if hi < gL S m then hi else gL S m
  if lo < to then to - lo else 0
def crX (S : zSt) (m i j : Nat) : Int := if (0 ≤ (S.2.2.2 m 0 i).1 ∧ 0 ≤ (S.2.2.2 m 1 j).1) ∧ soS S m 0 i < soS S m 1 j then togS S m i j else 0
def crJ (S : zSt) (m i : Nat) : Nat → Int
  | 0 => 0
  | j + 1 => crJ S m i j + crX S m i j
def crI (S : zSt) (m : Nat) : Nat → Int
  | 0 => 0
  | i + 1 => crI S m i + crJ S m i (S.2.2.1 m 1)
section ZMD
variable {N : Nat} {S : zSt} {st cells shifts held : Nat → Int32} {size code : Int32} {m v e k i j : Nat}
theorem ifI {α : Type} {x y : Int} (h1 : -2147483648 ≤ x) (h2 : x ≤ 2147483647) (h3 : -2147483648 ≤ y) (h4 : y ≤ 2147483647) {A B : α} : (if iI x < iI y then A else B) = (if x < y then A else B) := by
  by_cases q : x < y
  · rw [if_pos q, if_pos (by rw [iI_lt h1 h2 h3 h4]; exact q)]
  · rw [if_neg q, if_neg (by rw [iI_lt h1 h2 h3 h4]; exact q)]
theorem soS_b (h : okC S) (hm : m < S.1) (hv : v < 2) (he : e < S.2.2.1 m v) : -20 ≤ soS S m v e ∧ soS S m v e ≤ 200 := by
  have hx := okE_b (okC_ev h hm hv he)
  have hs := shS_b (S := S) m v e
  unfold soS
  split <;> omega
theorem X10_together (h : okS S) (hR : RM S st) (hm : m < S.1) (hi : i < S.2.2.1 m 0) (hj : j < S.2.2.1 m 1) (hN : 30 ≤ N) : f_X10_together N st (iI m) (iI i) (iI j) = some (iI (togS S m i j)) := by
  have b1 := gT_b h.1 hm (show 0 < 2 by omega) i (by omega)
  have b2 := gT_b h.1 hm (show 1 < 2 by omega) j (by omega)
  have b3 := gT_b h.1 hm (show 0 < 2 by omega) (i + 1) (by omega)
  have b4 := gT_b h.1 hm (show 1 < 2 by omega) (j + 1) (by omega)
  have hC0 := okC_C h.1 hm (show 0 < 2 by omega)
  have hC1 := okC_C h.1 hm (show 1 < 2 by omega)
  have bl := gL_b h hm
  have t1 := X10_ticksTo (N := N) (v := 0) h.1 hR hm (by omega) (show i ≤ S.2.2.1 m 0 by omega) hN
  have t2 := X10_ticksTo (N := N) (v := 1) h.1 hR hm (by omega) (show j ≤ S.2.2.1 m 1 by omega) hN
  have t3 := X10_ticksTo (N := N) (v := 0) h.1 hR hm (by omega) (show i + 1 ≤ S.2.2.1 m 0 by omega) hN
  have t4 := X10_ticksTo (N := N) (v := 1) h.1 hR hm (by omega) (show j + 1 ≤ S.2.2.1 m 1 by omega) hN
  have tl := X10_lasts (N := N) h hR hm
  unfold f_X10_together togS
  rw [iIp1, iIp1]
  refine z_eqT (zT_bindE t1 (zT_bindE t2 (zT_bindE t3 (zT_bindE t4 ?_))))
  generalize gT S m 0 i = a1 at b1 ⊢
  generalize gT S m 1 j = a2 at b2 ⊢
  generalize gT S m 0 (i + 1) = a3 at b3 ⊢
  generalize gT S m 1 (j + 1) = a4 at b4 ⊢
  have e5 : (if iI a2 < iI a1 then some (iI a1) else some (iI a2)) = some (iI (if a1 < a2 then a2 else a1)) := by
    rw [ifI (by omega) (by omega) (by omega) (by omega)]
    by_cases q : a1 < a2
    · rw [if_pos q, if_neg (show ¬ a2 < a1 by omega)]
    · rw [if_neg q]
      by_cases q2 : a2 < a1
      · rw [if_pos q2]
      · rw [if_neg q2, show a1 = a2 by omega]
  have e6 : (if iI a3 < iI a4 then some (iI a3) else some (iI a4)) = some (iI (if a3 < a4 then a3 else a4)) := by
    rw [ifI (by omega) (by omega) (by omega) (by omega)]
    split <;> rfl
  dsimp only
  have b5 : 0 ≤ (if a1 < a2 then a2 else a1) ∧ (if a1 < a2 then a2 else a1) ≤ 10000 := by split <;> omega
  have b6 : 0 ≤ (if a3 < a4 then a3 else a4) ∧ (if a3 < a4 then a3 else a4) ≤ 10000 := by split <;> omega
  refine zT_bindE e5 (zT_bindE e6 (zT_bindE tl ?_))
  generalize (if a1 < a2 then a2 else a1) = a5 at b5 ⊢
  generalize (if a3 < a4 then a3 else a4) = a6 at b6 ⊢
  generalize gL S m = a7 at bl tl ⊢
  have e8 : (if iI a6 < iI a7 then some (iI a6) else Option.bind (f_X10_lasts N st (iI m)) (fun (r9_ : Int32) => some r9_)) = some (iI (if a6 < a7 then a6 else a7)) := by
    rw [z_be tl, ifI (by omega) (by omega) (by omega) (by omega)]
    split <;> rfl
  have b8 : 0 ≤ (if a6 < a7 then a6 else a7) ∧ (if a6 < a7 then a6 else a7) ≤ 10000 := by split <;> omega
  refine zT_bindE e8 ?_
  generalize (if a6 < a7 then a6 else a7) = a8 at b8 ⊢
  rw [iI_sub]
  refine zT_ite (fun q => zT_some ?_) (fun q => zT_some ?_)
  · rw [iI_lt (by omega) (by omega) (by omega) (by omega)] at q
    rw [if_pos q]
  · rw [iI_lt (by omega) (by omega) (by omega) (by omega)] at q
    rw [if_neg q]; rfl
theorem togS_b (h : okS S) (hm : m < S.1) (hi : i < S.2.2.1 m 0) (hj : j < S.2.2.1 m 1) : 0 ≤ togS S m i j ∧ togS S m i j ≤ 10000 := by
  have b1 := gT_b h.1 hm (show 0 < 2 by omega) i (by omega)
  have b2 := gT_b h.1 hm (show 1 < 2 by omega) j (by omega)
  have bl := gL_b h hm
  unfold togS
  dsimp only
  have b5 : 0 ≤ (if gT S m 0 i < gT S m 1 j then gT S m 1 j else gT S m 0 i) := by split <;> omega
  generalize (if gT S m 0 i < gT S m 1 j then gT S m 1 j else gT S m 0 i) = x at b5 ⊢
  generalize (if gT S m 0 (i + 1) < gT S m 1 (j + 1) then gT S m 0 (i + 1) else gT S m 1 (j + 1)) = y
  have b6 : (if y < gL S m then y else gL S m) ≤ gL S m := by split <;> omega
  generalize (if y < gL S m then y else gL S m) = z at b6 ⊢
  split <;> omega
theorem X10_crossed (h : okS S) (hR : RM S st) (hm : m < S.1) (hN : 2000 ≤ N) : f_X10_crossed N st (iI m) = some (iI (crI S m (S.2.2.1 m 0))) := by
  have hC0 := okC_C h.1 hm (show 0 < 2 by omega)
  have hC1 := okC_C h.1 hm (show 1 < 2 by omega)
  unfold f_X10_crossed
  refine z_eqT (zT_bind (zT_mono (zT_loop (fun n s => ∃ i : Nat, i ≤ S.2.2.1 m 0 ∧ n = S.2.2.1 m 0 - i ∧ s = (iI (crI S m i), iI i)) ?_ N (S.2.2.1 m 0) (0, 0) (by omega) ⟨0, by omega, rfl, rfl⟩) (fun a q => zT_some q)))
  rintro n s c ⟨i, hi, rfl, rfl⟩ ih
  unfold f_X10_crossed_B4
  dsimp only
  refine zT_bindE (X10_of_C (v := 0) h.1 hR hm (by omega) (a := 7) rfl) (zT_ite (fun q => ?_) (fun q => ?_))
  · rw [iI_lt (by omega) (by omega) (by omega) (by omega)] at q
    have hi : i < S.2.2.1 m 0 := by omega
    refine zT_bind (zT_mono (zT_loop (P := fun r => r = iI (crI S m (i + 1))) (fun n s => ∃ j : Nat, j ≤ S.2.2.1 m 1 ∧ n = S.2.2.1 m 1 - j ∧ s = (iI (crI S m i + crJ S m i j), iI j)) ?_ N (S.2.2.1 m 1) (_, 0) (by omega) ⟨0, by omega, rfl, by rw [crJ, Int.add_zero]; rfl⟩) (fun r q => zT_bindE rfl (ih (S.2.2.1 m 0 - (i + 1)) _ (by omega) ⟨i + 1, by omega, rfl, by rw [q, iIp1]; rfl⟩)))
    clear ih
    rintro n s c2 ⟨j, hj, rfl, rfl⟩ ih
    unfold f_X10_crossed_B18
    dsimp only
    refine zT_bindE (X10_of_C (v := 1) h.1 hR hm (by omega) (a := 8) rfl) (zT_ite (fun q => ?_) (fun q => ?_))
    · rw [iI_lt (by omega) (by omega) (by omega) (by omega)] at q
      have hj : j < S.2.2.1 m 1 := by omega
      have n0 := X10_isNote (N := N) (v := 0) h.1 hR hm (by omega) hi
      have n1 := X10_isNote (N := N) (v := 1) h.1 hR hm (by omega) hj
      have tb := togS_b h hm hi hj
      have sb0 := soS_b h.1 hm (show 0 < 2 by omega) hi
      have sb1 := soS_b h.1 hm (show 1 < 2 by omega) hj
      refine zT_bindE n0 ?_
      have e7 : (if iI (if (S.2.2.2 m 0 i).1 < 0 then 0 else 1) = 0 then some 0 else Option.bind (f_X10_isNote N st (iI m) 1 (iI j)) (fun (r13_ : Int32) => if r13_ = 0 then some 0 else Option.bind (f_X10_together N st (iI m) (iI i) (iI j)) (fun (r14_ : Int32) => some r14_))) = some (iI (if 0 ≤ (S.2.2.2 m 0 i).1 ∧ 0 ≤ (S.2.2.2 m 1 j).1 then togS S m i j else 0)) := by
        by_cases q1 : (S.2.2.2 m 0 i).1 < 0
        · rw [if_pos q1, if_pos (show iI 0 = 0 from rfl), if_neg (by omega)]; rfl
        · rw [if_neg q1, if_neg (show ¬ iI 1 = 0 by decide)]
          have n1' : f_X10_isNote N st (iI m) 1 (iI j) = _ := n1
          rw [z_be n1']
          by_cases q2 : (S.2.2.2 m 1 j).1 < 0
          · rw [if_pos q2, if_pos (show iI 0 = 0 from rfl), if_neg (by omega)]; rfl
          · rw [if_neg q2, if_neg (show ¬ iI 1 = 0 by decide), z_be (X10_together h hR hm hi hj (by omega)), if_pos (by omega)]
      refine zT_bindE e7 ?_
      have e8 : (if 0 < iI (if 0 ≤ (S.2.2.2 m 0 i).1 ∧ 0 ≤ (S.2.2.2 m 1 j).1 then togS S m i j else 0) then Option.bind (f_X10_sound N st (iI m) 1 (iI j)) (fun (r11_ : Int32) => Option.bind (f_X10_sound N st (iI m) 0 (iI i)) (fun (r12_ : Int32) => if r12_ < r11_ then some (iI (if 0 ≤ (S.2.2.2 m 0 i).1 ∧ 0 ≤ (S.2.2.2 m 1 j).1 then togS S m i j else 0)) else some 0)) else some 0) = some (iI (crX S m i j)) := by
        unfold crX
        by_cases q1 : 0 ≤ (S.2.2.2 m 0 i).1 ∧ 0 ≤ (S.2.2.2 m 1 j).1
        · have s1 : f_X10_sound N st (iI m) 1 (iI j) = _ := X10_sound (N := N) (v := 1) h hR hm (by omega) hj q1.2 hN
          have s0 : f_X10_sound N st (iI m) 0 (iI i) = _ := X10_sound (N := N) (v := 0) h hR hm (by omega) hi q1.1 hN
          rw [if_pos q1, z_be s1, z_be s0]
          by_cases q2 : 0 < togS S m i j
          · rw [if_pos (by rw [iL0, iI_lt (by omega) (by omega) (by omega) (by omega)]; exact q2)]
            by_cases q3 : soS S m 0 i < soS S m 1 j
            · rw [if_pos (by rw [iI_lt (by omega) (by omega) (by omega) (by omega)]; exact q3), if_pos ⟨q1, q3⟩]
            · rw [if_neg (by rw [iI_lt (by omega) (by omega) (by omega) (by omega)]; exact q3), if_neg (fun x => q3 x.2)]; rfl
          · rw [if_neg (by rw [iL0, iI_lt (by omega) (by omega) (by omega) (by omega)]; exact q2)]
            rw [show togS S m i j = 0 by omega]
            split <;> rfl
        · rw [if_neg q1, if_neg (show ¬ ((0 : Int32) < iI 0) by decide), if_neg (fun x => q1 x.1)]; rfl
      refine zT_bindE e8 (zT_bindE rfl (zT_bindE rfl (ih (S.2.2.1 m 1 - (j + 1)) _ (by omega) ⟨j + 1, by omega, rfl, ?_⟩)))
      rw [iIp1, iI_add, crJ, Int.add_assoc]
      rfl
    · rw [iI_lt (by omega) (by omega) (by omega) (by omega)] at q
      rw [show j = S.2.2.1 m 1 by omega]
      exact zT_some rfl
  · rw [iI_lt (by omega) (by omega) (by omega) (by omega)] at q
    rw [show i = S.2.2.1 m 0 by omega]
    exact zT_some rfl
theorem M_crossings (h : okS S) (hR : RM S st) {a : Int} (ha : zInt a) (hN : 2000 ≤ N) : f_X10_crossings N code st (iI a) = if 0 ≤ a ∧ a < S.1 then some (iI (crI S a.toNat (S.2.2.1 a.toNat 0)), 0) else some (0, 1) := by
  unfold f_X10_crossings
  by_cases q : 0 ≤ a ∧ a < S.1
  · obtain ⟨m, rfl⟩ := Int.eq_ofNat_of_zero_le q.1
    rw [if_pos q, z_be (z_p1 q (X10_isMeasure h.1 hR ha)), if_neg ne10, z_sb, z_be (X10_ref0 code), if_pos (f00 0), z_be (X10_crossed h hR (by omega) hN)]
    rfl
  · rw [if_neg q, z_be (z_p0 q (X10_isMeasure h.1 hR ha)), if_pos z00, z_sb, z_be (X10_ref1 code), if_neg (f10 1)]
theorem togS_cls (h : okS S) (hm : m < S.1) (hi : i < S.2.2.1 m 0) (hj : j < S.2.2.1 m 1) : zMax (zMin (iI (gT S m 1 (j + 1))) (zMin (iI (gT S m 0 (i + 1))) (iI (gL S m))) - zMax (iI (gT S m 1 j)) (iI (gT S m 0 i))) 0 = iI (togS S m i j) := by
  have b1 := gT_b h.1 hm (show 0 < 2 by omega) i (by omega)
  have b2 := gT_b h.1 hm (show 1 < 2 by omega) j (by omega)
  have b3 := gT_b h.1 hm (show 0 < 2 by omega) (i + 1) (by omega)
  have b4 := gT_b h.1 hm (show 1 < 2 by omega) (j + 1) (by omega)
  have hC0 := okC_C h.1 hm (show 0 < 2 by omega)
  have hC1 := okC_C h.1 hm (show 1 < 2 by omega)
  have bl := gL_b h hm
  unfold togS
  dsimp only
  generalize gT S m 0 i = a1 at b1 ⊢
  generalize gT S m 1 j = a2 at b2 ⊢
  generalize gT S m 0 (i + 1) = a3 at b3 ⊢
  generalize gT S m 1 (j + 1) = a4 at b4 ⊢
  generalize gL S m = a7 at bl ⊢
  rw [zMinI (by omega) (by omega) (by omega) (by omega), zMinI (by omega) (by omega) (by split <;> omega) (by split <;> omega), zMaxI (by omega) (by omega) (by omega) (by omega), iI_sub, iL0, zMaxI (by (repeat' split) <;> omega) (by (repeat' split) <;> omega) (by omega) (by omega)]
  congr 1
  (repeat' split) <;> omega
end ZMD
