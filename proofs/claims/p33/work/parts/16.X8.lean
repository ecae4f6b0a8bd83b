def f_X8_ofSign (N : Nat) (x0 : Int32) : Option Nat :=
  if x0 = 1 then some 5 else if x0 = 2 then some 6 else some 7
abbrev rm_X8_ofSign : Room := { frames := 0, cells := 0, slots := 0, locals := 0 }
theorem zy_X8_ofSign : zYs yX8_ofSign cX8_ofSign 1 (some (.object "java/lang/String")) 1 := ⟨zw_250, zw_241, zw_248, ⟨by decide, by decide⟩, by decide +kernel⟩
set_option maxHeartbeats 4000000 in
set_option maxRecDepth 100000 in
theorem k_X8_ofSign (l : Launch) (N : Nat) (g : zEnv) (x0 : Int32) (r : Nat) (h : f_X8_ofSign N x0 = some r) : ZR l yX8_ofSign cX8_ofSign 1 (some (.object "java/lang/String")) rm_X8_ofSign g [.int x0] [] (some (.ref (zAK g r))) := by
  refine zR_of (by decide) (Nat.le_of_ble_eq_true rfl) ?_
  intro p e s m below meth c A ls Q R F hRm hr hlocks hP hD hS hl hQ
  subst hRm
  have F : zF p m c cX8_ofSign 1 s (([.int x0] : List Value)).toArray RX8 g A := F
  have hx := F.1.1
  have hb := F.1.2.1
  have hz := F.1.2.2.2.2
  have hl : lv_has ls 1 [(0, .int x0)] := hl
  unfold f_X8_ofSign at h
  refine lv_iload_n hx hb dX8_ofSign_0 rfl (lv_at hl 0 rfl) ?_
  by_cases c1_1_ : x0 = 1
  · rw [if_pos c1_1_] at h
    refine lv_lookup (tgt := 28) (off := 27) hx hb dX8_ofSign_1 (by decide) (by rw [c1_1_] <;> rfl) (by decide) ?_
    refine va_ldcS hx hb F.1.2.2.2.1 (F.2.2.1.2.1 _ zst_X8_9) dX8_ofSign_28 ?_
    obtain rfl := Option.some.inj h
    exact zR_r F hr hlocks hQ dX8_ofSign_30
  rw [if_neg c1_1_] at h
  by_cases c1_2_ : x0 = 2
  · rw [if_pos c1_2_] at h
    refine lv_lookup (tgt := 31) (off := 30) hx hb dX8_ofSign_1 (by decide) (by rw [c1_2_] <;> rfl) (by decide) ?_
    refine va_ldcS hx hb F.1.2.2.2.1 (F.2.2.1.2.1 _ zst_X8_11) dX8_ofSign_31 ?_
    obtain rfl := Option.some.inj h
    exact zR_r F hr hlocks hQ dX8_ofSign_33
  rw [if_neg c1_2_] at h
  refine lv_lookup (tgt := 34) (off := 33) hx hb dX8_ofSign_1 (by decide) (by simp [Op.lookupswitch.offset, (show ¬ (1 : Int) = (x0).toInt from fun q => c1_1_ (Int32.toInt_inj.mp (q.symm.trans (by decide)))), (show ¬ (2 : Int) = (x0).toInt from fun q => c1_2_ (Int32.toInt_inj.mp (q.symm.trans (by decide))))]) (by decide) ?_
  refine va_ldcS hx hb F.1.2.2.2.1 (F.2.2.1.2.1 _ zst_X8_13) dX8_ofSign_34 ?_
  obtain rfl := Option.some.inj h
  exact zR_r F hr hlocks hQ dX8_ofSign_36
def f_X8_ofLength (N : Nat) (x0 : Int32) : Option Nat :=
  if x0 = 0 then some 12 else if x0 = 1 then some 13 else if x0 = 2 then some 14 else if x0 = 3 then some 15 else some 16
abbrev rm_X8_ofLength : Room := { frames := 0, cells := 0, slots := 0, locals := 0 }
theorem zy_X8_ofLength : zYs yX8_ofLength cX8_ofLength 1 (some (.object "java/lang/String")) 1 := ⟨zw_240, zw_241, zw_238, ⟨by decide, by decide⟩, by decide +kernel⟩
set_option maxHeartbeats 4000000 in
set_option maxRecDepth 100000 in
theorem k_X8_ofLength (l : Launch) (N : Nat) (g : zEnv) (x0 : Int32) (r : Nat) (h : f_X8_ofLength N x0 = some r) : ZR l yX8_ofLength cX8_ofLength 1 (some (.object "java/lang/String")) rm_X8_ofLength g [.int x0] [] (some (.ref (zAK g r))) := by
  refine zR_of (by decide) (Nat.le_of_ble_eq_true rfl) ?_
  intro p e s m below meth c A ls Q R F hRm hr hlocks hP hD hS hl hQ
  subst hRm
  have F : zF p m c cX8_ofLength 1 s (([.int x0] : List Value)).toArray RX8 g A := F
  have hx := F.1.1
  have hb := F.1.2.1
  have hz := F.1.2.2.2.2
  have hl : lv_has ls 1 [(0, .int x0)] := hl
  unfold f_X8_ofLength at h
  refine lv_iload_n hx hb dX8_ofLength_0 rfl (lv_at hl 0 rfl) ?_
  by_cases c1_0_ : x0 = 0
  · rw [if_pos c1_0_] at h
    refine lv_tableIn (tgt := 32) hx hb dX8_ofLength_1 (by rw [c1_0_]; decide) (by rw [c1_0_]; decide) (by rw [c1_0_]; rfl) (by decide) ?_
    refine va_ldcS hx hb F.1.2.2.2.1 (F.2.2.1.2.1 _ zst_X8_15) dX8_ofLength_32 ?_
    obtain rfl := Option.some.inj h
    exact zR_r F hr hlocks hQ dX8_ofLength_34
  rw [if_neg c1_0_] at h
  by_cases c1_1_ : x0 = 1
  · rw [if_pos c1_1_] at h
    refine lv_tableIn (tgt := 35) hx hb dX8_ofLength_1 (by rw [c1_1_]; decide) (by rw [c1_1_]; decide) (by rw [c1_1_]; rfl) (by decide) ?_
    refine va_ldcS hx hb F.1.2.2.2.1 (F.2.2.1.2.1 _ zst_X8_17) dX8_ofLength_35 ?_
    obtain rfl := Option.some.inj h
    exact zR_r F hr hlocks hQ dX8_ofLength_37
  rw [if_neg c1_1_] at h
  by_cases c1_2_ : x0 = 2
  · rw [if_pos c1_2_] at h
    refine lv_tableIn (tgt := 38) hx hb dX8_ofLength_1 (by rw [c1_2_]; decide) (by rw [c1_2_]; decide) (by rw [c1_2_]; rfl) (by decide) ?_
    refine va_ldcS hx hb F.1.2.2.2.1 (F.2.2.1.2.1 _ zst_X8_19) dX8_ofLength_38 ?_
    obtain rfl := Option.some.inj h
    exact zR_r F hr hlocks hQ dX8_ofLength_40
  rw [if_neg c1_2_] at h
  by_cases c1_3_ : x0 = 3
  · rw [if_pos c1_3_] at h
    refine lv_tableIn (tgt := 41) hx hb dX8_ofLength_1 (by rw [c1_3_]; decide) (by rw [c1_3_]; decide) (by rw [c1_3_]; rfl) (by decide) ?_
    refine va_ldcS hx hb F.1.2.2.2.1 (F.2.2.1.2.1 _ zst_X8_21) dX8_ofLength_41 ?_
    obtain rfl := Option.some.inj h
    exact zR_r F hr hlocks hQ dX8_ofLength_43
  rw [if_neg c1_3_] at h
  have kd1_ : W p l e rm_X8_ofLength s m (([.int x0] : List Value)).toArray below meth c s.heap [] 0 0 Q (F0 m 44 ls []) := by
    refine va_ldcS hx hb F.1.2.2.2.1 (F.2.2.1.2.1 _ zst_X8_23) dX8_ofLength_44 ?_
    obtain rfl := Option.some.inj h
    exact zR_r F hr hlocks hQ dX8_ofLength_46
  exact lv_tableOut (tgt := 44) hx hb dX8_ofLength_1 (z_sw 0 4 x0 (fun j hj => match j, hj with | 0, _ => c1_0_ | 1, _ => c1_1_ | 2, _ => c1_2_ | 3, _ => c1_3_ | j + 4, hj => absurd hj (by omega))) (by decide) kd1_
def f_X8_letterOf (N : Nat) (x0 : Int32) : Option Int32 :=
  if x0 < 0 then Option.bind (zNar .char 32) (fun (x1_ : Int32) => some 32) else Option.bind (zSlen 20) (fun (x2_ : Int32) => if x0 < x2_ then Option.bind (zSch 20 x0) (fun (x4_ : Int32) => Option.bind (zNar .char x4_) (fun (x5_ : Int32) => some x4_)) else Option.bind (zNar .char 32) (fun (x3_ : Int32) => some 32))
abbrev rm_X8_letterOf : Room := { frames := 6, cells := 0, slots := 0, locals := 200 }
theorem zy_X8_letterOf : zYs yX8_letterOf cX8_letterOf 1 (some .char) 1 := ⟨zw_365, zw_241, zw_360, ⟨by decide, by decide⟩, by decide +kernel⟩
set_option maxHeartbeats 4000000 in
set_option maxRecDepth 100000 in
theorem k_X8_letterOf (l : Launch) (N : Nat) (g : zEnv) (x0 : Int32) (r : Int32) (h : f_X8_letterOf N x0 = some r) : ZR l yX8_letterOf cX8_letterOf 1 (some .char) rm_X8_letterOf g [.int x0] [] (some (.int r)) := by
  refine zR_of (by decide) (Nat.le_of_ble_eq_true rfl) ?_
  intro p e s m below meth c A ls Q R F hRm hr hlocks hP hD hS hl hQ
  subst hRm
  have F : zF p m c cX8_letterOf 1 s (([.int x0] : List Value)).toArray RX8 g A := F
  have hx := F.1.1
  have hb := F.1.2.1
  have hz := F.1.2.2.2.2
  have hl : lv_has ls 1 [(0, .int x0)] := hl
  unfold f_X8_letterOf at h
  refine lv_iload_n hx hb dX8_letterOf_0 rfl (lv_at hl 0 rfl) ?_
  refine z_lt (tgt := 22) hx hb dX8_letterOf_1 (by decide) h (fun h => ?_) (fun h => ?_)
  · refine lv_bipush (v := 32) hx hb dX8_letterOf_22 (by decide) ?_
    obtain ⟨x1_, hnx1_, h⟩ := z_bind h
    have hnx1_ := zNar_spec hnx1_
    obtain rfl := Option.some.inj h
    exact zR_n F hr hlocks hQ hnx1_ dX8_letterOf_24
  · refine lv_iload_n hx hb dX8_letterOf_4 rfl (lv_at hl 0 rfl) ?_
    refine va_ldcS hx hb F.1.2.2.2.1 (F.2.2.1.2.1 _ zst_X8_25) dX8_letterOf_5 ?_
    refine z_slen F hS zw_358 hl.1 (Nat.le_of_ble_eq_true rfl) ⟨Nat.le_of_ble_eq_true rfl, Nat.le_of_ble_eq_true rfl⟩ ⟨Nat.zero_le _, Nat.zero_le _⟩ dX8_letterOf_7 h (fun x2_ h => ?_)
    refine z_cge (tgt := 22) hx hb dX8_letterOf_10 (by decide) h (fun h => ?_) (fun h => ?_)
    · refine lv_bipush (v := 32) hx hb dX8_letterOf_22 (by decide) ?_
      obtain ⟨x3_, hnx3_, h⟩ := z_bind h
      have hnx3_ := zNar_spec hnx3_
      obtain rfl := Option.some.inj h
      exact zR_n F hr hlocks hQ hnx3_ dX8_letterOf_24
    · refine va_ldcS hx hb F.1.2.2.2.1 (F.2.2.1.2.1 _ zst_X8_25) dX8_letterOf_13 ?_
      refine lv_iload_n hx hb dX8_letterOf_15 rfl (lv_at hl 0 rfl) ?_
      refine z_sch F hS zw_359 hl.1 (Nat.le_of_ble_eq_true rfl) ⟨Nat.le_of_ble_eq_true rfl, Nat.le_of_ble_eq_true rfl⟩ ⟨Nat.zero_le _, Nat.zero_le _⟩ dX8_letterOf_16 h (fun x4_ h => ?_)
      refine lv_goto (tgt := 24) hx hb dX8_letterOf_19 (by decide) ?_
      obtain ⟨x5_, hnx5_, h⟩ := z_bind h
      have hnx5_ := zNar_spec hnx5_
      obtain rfl := Option.some.inj h
      exact zR_n F hr hlocks hQ hnx5_ dX8_letterOf_24
