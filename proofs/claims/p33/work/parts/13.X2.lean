def f_X2_size (N : Nat) (v_size : Int32) : Option Int32 :=
  some v_size
abbrev rm_X2_size : Room := { frames := 0, cells := 0, slots := 0, locals := 0 }
theorem zy_X2_size : zYv yX2_size RX2 cX2_size 1 (some .int) 0 := ⟨zw_617, zw_618, zw_77, zw_60, ⟨by decide, by decide⟩, by decide +kernel⟩
set_option maxHeartbeats 4000000 in
set_option maxRecDepth 100000 in
theorem k_X2_size (l : Launch) (N : Nat) (g : zEnv) (a_this a_places : Nat) (v_size : Int32) (r : Int32) (h : f_X2_size N v_size = some r) : ZR l yX2_size cX2_size 1 (some .int) rm_X2_size g [.ref a_this] [zo_X2 a_this a_places v_size] (some (.int r)) := by
  refine zR_of (by decide) (Nat.le_of_ble_eq_true rfl) ?_
  intro p e s m below meth c A ls Q R F hRm hr hlocks hP hD hS hl hQ
  subst hRm
  have F : zF p m c cX2_size 1 s (([.ref a_this] : List Value)).toArray RX2 g A := F
  have hx := F.1.1
  have hb := F.1.2.1
  have hz := F.1.2.2.2.2
  have hl : lv_has ls 1 [(0, .ref a_this)] := hl
  unfold f_X2_size at h
  refine lv_aload_n hx hb dX2_size_0 rfl (lv_at hl 0 rfl) ?_
  refine z_get (C := RX2) (T := TX2) (N := 2) (ci := 1) F zu_wsX20 hP 0 rfl rfl 1 (by decide) zw_59 rfl dX2_size_1 ?_
  obtain rfl := Option.some.inj h
  exact zR_i F hr hlocks hQ dX2_size_4
def f_X2_at (N : Nat) (v_size : Int32) (v_places : Nat → Int32) (x1 : Int32) : Option Int32 :=
  if x1 < 0 then some 0 else if x1 < v_size then if x1 < 200 then Option.bind (zAld v_places 200 x1) (fun (x1_ : Int32) => some x1_) else some 0 else some 0
abbrev rm_X2_at : Room := { frames := 0, cells := 0, slots := 0, locals := 0 }
theorem zy_X2_at : zYv yX2_at RX2 cX2_at 2 (some .int) 1 := ⟨zw_82, zw_83, zw_77, zw_61, ⟨by decide, by decide⟩, by decide +kernel⟩
set_option maxHeartbeats 4000000 in
set_option maxRecDepth 100000 in
theorem k_X2_at (l : Launch) (N : Nat) (g : zEnv) (a_this a_places : Nat) (v_size : Int32) (v_places : Nat → Int32) (x1 : Int32) (r : Int32) (h : f_X2_at N v_size v_places x1 = some r) : ZR l yX2_at cX2_at 2 (some .int) rm_X2_at g [.ref a_this, .int x1] [zo_X2 a_this a_places v_size, (a_places, .inl (zI g, 200, .inl v_places))] (some (.int r)) := by
  refine zR_of (by decide) (Nat.le_of_ble_eq_true rfl) ?_
  intro p e s m below meth c A ls Q R F hRm hr hlocks hP hD hS hl hQ
  subst hRm
  have F : zF p m c cX2_at 2 s (([.ref a_this, .int x1] : List Value)).toArray RX2 g A := F
  have hx := F.1.1
  have hb := F.1.2.1
  have hz := F.1.2.2.2.2
  have hl : lv_has ls 2 [(0, .ref a_this), (1, .int x1)] := hl
  unfold f_X2_at at h
  refine lv_iload_n hx hb dX2_at_0 rfl (lv_at hl 1 rfl) ?_
  refine z_lt (tgt := 28) hx hb dX2_at_1 (by decide) h (fun h => ?_) (fun h => ?_)
  · refine lv_iconst (v := 0) hx hb dX2_at_28 (by decide) ?_
    obtain rfl := Option.some.inj h
    exact zR_i F hr hlocks hQ dX2_at_29
  · refine lv_iload_n hx hb dX2_at_4 rfl (lv_at hl 1 rfl) ?_
    refine lv_aload_n hx hb dX2_at_5 rfl (lv_at hl 0 rfl) ?_
    refine z_get (C := RX2) (T := TX2) (N := 2) (ci := 1) F zu_wsX20 hP 0 rfl rfl 1 (by decide) zw_59 rfl dX2_at_6 ?_
    refine z_cge (tgt := 28) hx hb dX2_at_9 (by decide) h (fun h => ?_) (fun h => ?_)
    · refine lv_iconst (v := 0) hx hb dX2_at_28 (by decide) ?_
      obtain rfl := Option.some.inj h
      exact zR_i F hr hlocks hQ dX2_at_29
    · refine lv_iload_n hx hb dX2_at_12 rfl (lv_at hl 1 rfl) ?_
      refine lv_sipush (v := 200) hx hb dX2_at_13 (by decide) ?_
      refine z_cge (tgt := 28) hx hb dX2_at_16 (by decide) h (fun h => ?_) (fun h => ?_)
      · refine lv_iconst (v := 0) hx hb dX2_at_28 (by decide) ?_
        obtain rfl := Option.some.inj h
        exact zR_i F hr hlocks hQ dX2_at_29
      · refine lv_aload_n hx hb dX2_at_19 rfl (lv_at hl 0 rfl) ?_
        refine z_get (C := RX2) (T := TX2) (N := 2) (ci := 1) F zu_wsX20 hP 0 rfl rfl 0 (by decide) zw_57 rfl dX2_at_20 ?_
        refine lv_iload_n hx hb dX2_at_23 rfl (lv_at hl 1 rfl) ?_
        refine z_iald F hP 1 rfl dX2_at_24 h (fun x1_ h => ?_)
        refine lv_goto (tgt := 29) hx hb dX2_at_25 (by decide) ?_
        obtain rfl := Option.some.inj h
        exact zR_i F hr hlocks hQ dX2_at_29
def f_X2_beginsAnew (N : Nat) (v_p0_size : Int32) (v_p0_cells : Nat → Int32) (x1 : Int32) : Option Int32 :=
  Option.bind (f_X4_value N v_p0_size v_p0_cells x1 4) (fun (r1_ : Int32) => if r1_ = 1 then some 1 else Option.bind (f_X4_value N v_p0_size v_p0_cells x1 6) (fun (r2_ : Int32) => if r2_ = 0 then Option.bind (f_X4_value N v_p0_size v_p0_cells (x1 - 1) 6) (fun (r3_ : Int32) => if r3_ = 0 then some 0 else some 1) else some 0))
abbrev rm_X2_beginsAnew : Room := { frames := 2, cells := 0, slots := 0, locals := 43 }
theorem zy_X2_beginsAnew : zYs yX2_beginsAnew cX2_beginsAnew 2 (some .boolean) 2 := ⟨zw_76, zw_77, zw_71, ⟨by decide, by decide⟩, by decide +kernel⟩
set_option maxHeartbeats 4000000 in
set_option maxRecDepth 100000 in
theorem k_X2_beginsAnew (l : Launch) (N : Nat) (g : zEnv) (a_p0 a_p0_cells : Nat) (v_p0_size : Int32) (v_p0_cells : Nat → Int32) (x1 : Int32) (r : Int32) (h : f_X2_beginsAnew N v_p0_size v_p0_cells x1 = some r) : ZR l yX2_beginsAnew cX2_beginsAnew 2 (some .boolean) rm_X2_beginsAnew g [.ref a_p0, .int x1] [zo_X4 a_p0 a_p0_cells v_p0_size, (a_p0_cells, .inl (zI g, 912, .inl v_p0_cells))] (some (.int r)) := by
  refine zR_of (by decide) (Nat.le_of_ble_eq_true rfl) ?_
  intro p e s m below meth c A ls Q R F hRm hr hlocks hP hD hS hl hQ
  subst hRm
  have F : zF p m c cX2_beginsAnew 2 s (([.ref a_p0, .int x1] : List Value)).toArray RX2 g A := F
  have hx := F.1.1
  have hb := F.1.2.1
  have hz := F.1.2.2.2.2
  have hl : lv_has ls 2 [(0, .ref a_p0), (1, .int x1)] := hl
  unfold f_X2_beginsAnew at h
  refine lv_aload_n hx hb dX2_beginsAnew_0 rfl (lv_at hl 0 rfl) ?_
  refine lv_iload_n hx hb dX2_beginsAnew_1 rfl (lv_at hl 1 rfl) ?_
  refine lv_iconst (v := 4) hx hb dX2_beginsAnew_2 (by decide) ?_
  obtain ⟨r1_, hr1_, h⟩ := z_bind h
  refine zRV F (k_X4_value l N g a_p0 a_p0_cells v_p0_size v_p0_cells x1 4 _ hr1_) zy_X4_value zw_68 hP hD hS [0, 1] rfl rfl (q0 := 0) (he := rfl) (hc := rfl) (rest := []) rfl hl.1 rfl (Nat.le_of_ble_eq_true rfl) ⟨rfl, rfl⟩ ⟨Nat.le_of_ble_eq_true rfl, Nat.le_of_ble_eq_true rfl⟩ ⟨Nat.zero_le _, Nat.zero_le _⟩ dX2_beginsAnew_3 (st1 := [.int r1_]) rfl ?_
  refine lv_iconst (v := 1) hx hb dX2_beginsAnew_6 (by decide) ?_
  refine z_ceq (tgt := 32) hx hb dX2_beginsAnew_7 (by decide) h (fun h => ?_) (fun h => ?_)
  · refine lv_iconst (v := 1) hx hb dX2_beginsAnew_32 (by decide) ?_
    refine lv_goto (tgt := 37) hx hb dX2_beginsAnew_33 (by decide) ?_
    obtain rfl := Option.some.inj h
    exact zR_n F hr hlocks hQ rfl dX2_beginsAnew_37
  · refine lv_aload_n hx hb dX2_beginsAnew_10 rfl (lv_at hl 0 rfl) ?_
    refine lv_iload_n hx hb dX2_beginsAnew_11 rfl (lv_at hl 1 rfl) ?_
    refine lv_bipush (v := 6) hx hb dX2_beginsAnew_12 (by decide) ?_
    obtain ⟨r2_, hr2_, h⟩ := z_bind h
    refine zRV F (k_X4_value l N g a_p0 a_p0_cells v_p0_size v_p0_cells x1 6 _ hr2_) zy_X4_value zw_68 hP hD hS [0, 1] rfl rfl (q0 := 0) (he := rfl) (hc := rfl) (rest := []) rfl hl.1 rfl (Nat.le_of_ble_eq_true rfl) ⟨rfl, rfl⟩ ⟨Nat.le_of_ble_eq_true rfl, Nat.le_of_ble_eq_true rfl⟩ ⟨Nat.zero_le _, Nat.zero_le _⟩ dX2_beginsAnew_14 (st1 := [.int r2_]) rfl ?_
    refine z_ne (tgt := 36) hx hb dX2_beginsAnew_17 (by decide) h (fun h => ?_) (fun h => ?_)
    · refine lv_iconst (v := 0) hx hb dX2_beginsAnew_36 (by decide) ?_
      obtain rfl := Option.some.inj h
      exact zR_n F hr hlocks hQ rfl dX2_beginsAnew_37
    · refine lv_aload_n hx hb dX2_beginsAnew_20 rfl (lv_at hl 0 rfl) ?_
      refine lv_iload_n hx hb dX2_beginsAnew_21 rfl (lv_at hl 1 rfl) ?_
      refine lv_iconst (v := 1) hx hb dX2_beginsAnew_22 (by decide) ?_
      refine lv_isub hx hb dX2_beginsAnew_23 ?_
      refine lv_bipush (v := 6) hx hb dX2_beginsAnew_24 (by decide) ?_
      obtain ⟨r3_, hr3_, h⟩ := z_bind h
      refine zRV F (k_X4_value l N g a_p0 a_p0_cells v_p0_size v_p0_cells (x1 - 1) 6 _ hr3_) zy_X4_value zw_68 hP hD hS [0, 1] rfl rfl (q0 := 0) (he := rfl) (hc := rfl) (rest := []) rfl hl.1 rfl (Nat.le_of_ble_eq_true rfl) ⟨rfl, rfl⟩ ⟨Nat.le_of_ble_eq_true rfl, Nat.le_of_ble_eq_true rfl⟩ ⟨Nat.zero_le _, Nat.zero_le _⟩ dX2_beginsAnew_26 (st1 := [.int r3_]) rfl ?_
      refine z_eq (tgt := 36) hx hb dX2_beginsAnew_29 (by decide) h (fun h => ?_) (fun h => ?_)
      · refine lv_iconst (v := 0) hx hb dX2_beginsAnew_36 (by decide) ?_
        obtain rfl := Option.some.inj h
        exact zR_n F hr hlocks hQ rfl dX2_beginsAnew_37
      · refine lv_iconst (v := 1) hx hb dX2_beginsAnew_32 (by decide) ?_
        refine lv_goto (tgt := 37) hx hb dX2_beginsAnew_33 (by decide) ?_
        obtain rfl := Option.some.inj h
        exact zR_n F hr hlocks hQ rfl dX2_beginsAnew_37
def f_X2_unroll_B18 (N : Nat) (v_p1_size : Int32) (v_p1_cells : Nat → Int32) (kh18_ : Int32 × Int32 × Int32 × Int32 × Int32 × Int32 × (Nat → Int32) → Option (Int32 × (Nat → Int32))) (v18_ : Int32 × Int32 × Int32 × Int32 × Int32 × Int32 × (Nat → Int32)) : Option (Int32 × (Nat → Int32)) :=
  if v18_.2.2.2.2.1 < 3417 then Option.bind (f_X4_size N v_p1_size) (fun (r2_ : Int32) => if v18_.2.2.1 < r2_ then if v18_.2.2.2.2.2.1 < 200 then Option.bind (if v18_.2.2.2.1 = 0 then Option.bind (f_X2_beginsAnew N v_p1_size v_p1_cells v18_.2.2.1) (fun (r16_ : Int32) => if r16_ = 0 then some (v18_.1, v18_.2.1) else some (v18_.2.2.1, 1)) else some (v18_.1, v18_.2.1)) (fun (r3_ : Int32 × Int32) => Option.bind (f_X4_value N v_p1_size v_p1_cells v18_.2.2.1 6) (fun (r4_ : Int32) => Option.bind (if r4_ = 0 then some 0 else if r4_ = r3_.2 then some 0 else some 1) (fun (r5_ : Int32) => Option.bind (if r5_ = 0 then Option.bind (f_X4_value N v_p1_size v_p1_cells v18_.2.2.1 5) (fun (r15_ : Int32) => some r15_) else some 0) (fun (r6_ : Int32) => Option.bind (if r5_ = 0 then Option.bind (zAst v18_.2.2.2.2.2.2 200 v18_.2.2.2.2.2.1 v18_.2.2.1) (fun (w13_ : Nat → Int32) => Option.bind (some (v18_.2.2.2.2.2.1 + 1)) (fun (x14_ : Int32) => some (x14_, w13_))) else some (v18_.2.2.2.2.2.1, v18_.2.2.2.2.2.2)) (fun (r7_ : Int32 × (Nat → Int32)) => Option.bind (if r6_ = 0 then some 0 else if r3_.2 < r6_ then some 1 else some 0) (fun (r8_ : Int32) => Option.bind (if r8_ = 0 then Option.bind (some (v18_.2.2.1 + 1)) (fun (x11_ : Int32) => if r6_ = 0 then some (r3_.1, r3_.2, x11_) else some (x11_, 1, x11_)) else Option.bind (some (r3_.2 + 1)) (fun (x12_ : Int32) => some (r3_.1, x12_, r3_.1))) (fun (r9_ : Int32 × Int32 × Int32) => Option.bind (some (v18_.2.2.2.2.1 + 1)) (fun (x10_ : Int32) => kh18_ (r9_.1, r9_.2.1, r9_.2.2, r8_, x10_, r7_.1, r7_.2))))))))) else some (v18_.2.2.2.2.2.1, v18_.2.2.2.2.2.2) else some (v18_.2.2.2.2.2.1, v18_.2.2.2.2.2.2)) else some (v18_.2.2.2.2.2.1, v18_.2.2.2.2.2.2)
def f_X2_unroll (N : Nat) (v_size : Int32) (v_places : Nat → Int32) (v_p1_size : Int32) (v_p1_cells : Nat → Int32) : Option (Int32 × (Nat → Int32)) :=
  Option.bind (zLoop (f_X2_unroll_B18 N v_p1_size v_p1_cells) N (0, 1, 0, 0, 0, 0, v_places)) (fun (r1_ : Int32 × (Nat → Int32)) => some (r1_.1, r1_.2))
abbrev rm_X2_unroll : Room := { frames := 3, cells := 0, slots := 0, locals := 64 }
theorem zy_X2_unroll : zYv yX2_unroll RX2 cX2_unroll 10 none 1 := ⟨zw_514, zw_515, zw_77, zw_78, ⟨by decide, by decide⟩, by decide +kernel⟩
set_option maxHeartbeats 4000000 in
set_option maxRecDepth 100000 in
theorem k_X2_unroll (l : Launch) (N : Nat) (g : zEnv) (a_this a_places a_p1 a_p1_cells : Nat) (v_size : Int32) (v_places : Nat → Int32) (v_p1_size : Int32) (v_p1_cells : Nat → Int32) (r : Int32 × (Nat → Int32)) (h : f_X2_unroll N v_size v_places v_p1_size v_p1_cells = some r) : ZV l yX2_unroll cX2_unroll 10 none rm_X2_unroll g [.ref a_this, .ref a_p1] [zo_X2 a_this a_places v_size, (a_places, .inl (zI g, 200, .inl v_places)), zo_X4 a_p1 a_p1_cells v_p1_size, (a_p1_cells, .inl (zI g, 912, .inl v_p1_cells))] [zo_X2 a_this a_places r.1, (a_places, .inl (zI g, 200, .inl r.2)), zo_X4 a_p1 a_p1_cells v_p1_size, (a_p1_cells, .inl (zI g, 912, .inl v_p1_cells))] none := by
  refine zV_of (by decide) (Nat.le_of_ble_eq_true rfl) ?_
  intro p e s m below meth c A H locs ls Q R F hRm hr hlocks hP hD hS hl hQ
  subst hRm
  have F : zF p m c cX2_unroll 10 s (([.ref a_this, .ref a_p1] : List Value)).toArray RX2 g A := F
  have hx := F.1.1
  have hb := F.1.2.1
  have hz := F.1.2.2.2.2
  have hl : lv_has ls 10 [(0, .ref a_this), (1, .ref a_p1)] := hl
  unfold f_X2_unroll at h
  refine lv_aload_n hx hb dX2_unroll_0 rfl (lv_at hl 0 rfl) ?_
  refine lv_iconst (v := 0) hx hb dX2_unroll_1 (by decide) ?_
  refine z_put (C := RX2) (T := TX2) (N := 2) (ci := 1) (W1 := [zo_X2 a_this a_places 0, (a_places, .inl (zI g, 200, .inl v_places)), zo_X4 a_p1 a_p1_cells v_p1_size, (a_p1_cells, .inl (zI g, 912, .inl v_p1_cells))]) F zu_wsX20 tyX2 tyX2_ok nmX2 hP hD hS 0 rfl rfl 1 (by decide) zw_59 rfl rfl rfl (Nat.le_of_ble_eq_true rfl) dX2_unroll_2 rfl (fun H locs hP hD hS => ?_)
  refine lv_iconst (v := 0) hx hb dX2_unroll_5 (by decide) ?_
  refine lv_istore_n (lv' := [(2, .int 0), (0, .ref a_this), (1, .ref a_p1)]) hx hb dX2_unroll_6 rfl hl (by decide) rfl (fun ls hl => ?_)
  refine lv_iconst (v := 1) hx hb dX2_unroll_7 (by decide) ?_
  refine lv_istore_n (lv' := [(3, .int 1), (2, .int 0), (0, .ref a_this), (1, .ref a_p1)]) hx hb dX2_unroll_8 rfl hl (by decide) rfl (fun ls hl => ?_)
  refine lv_iconst (v := 0) hx hb dX2_unroll_9 (by decide) ?_
  refine lv_istore (lv' := [(4, .int 0), (3, .int 1), (2, .int 0), (0, .ref a_this), (1, .ref a_p1)]) hx hb dX2_unroll_10 hl (by decide) rfl (fun ls hl => ?_)
  refine lv_iconst (v := 0) hx hb dX2_unroll_12 (by decide) ?_
  refine lv_istore (lv' := [(5, .int 0), (4, .int 0), (3, .int 1), (2, .int 0), (0, .ref a_this), (1, .ref a_p1)]) hx hb dX2_unroll_13 hl (by decide) rfl (fun ls hl => ?_)
  refine lv_iconst (v := 0) hx hb dX2_unroll_15 (by decide) ?_
  refine lv_istore (lv' := [(6, .int 0), (5, .int 0), (4, .int 0), (3, .int 1), (2, .int 0), (0, .ref a_this), (1, .ref a_p1)]) hx hb dX2_unroll_16 hl (by decide) rfl (fun ls hl => ?_)
  obtain ⟨r1_, hA18_, h⟩ := z_bind h
  have k187_ : ∀ (H : Heap) (locs : List Loc) (ls : Array Slot), va_P (zD g) vwCl [zo_X2 a_this a_places r1_.1, (a_places, .inl (zI g, 200, .inl r1_.2)), zo_X4 a_p1 a_p1_cells v_p1_size, (a_p1_cells, .inl (zI g, 912, .inl v_p1_cells))] H → va_D A [zo_X2 a_this a_places r1_.1, (a_places, .inl (zI g, 200, .inl r1_.2)), zo_X4 a_p1 a_p1_cells v_p1_size, (a_p1_cells, .inl (zI g, 912, .inl v_p1_cells))] → va_S A s.heap H locs → lv_has ls 10 [] → W p l e rm_X2_unroll s m (([.ref a_this, .ref a_p1] : List Value)).toArray below meth c H locs 0 0 Q (F0 m 187 ls []) := by
    intro H locs ls hP hD hS hl
    obtain rfl := Option.some.inj h
    exact zV_v F hr hlocks hQ hP hD hS dX2_unroll_187
  have h := hA18_
  have l18_ : ∀ (n18_ : Nat) (v18_ : Int32 × Int32 × Int32 × Int32 × Int32 × Int32 × (Nat → Int32)), zLoop (f_X2_unroll_B18 N v_p1_size v_p1_cells) n18_ v18_ = some r1_ → ∀ (H : Heap) (locs : List Loc) (ls : Array Slot), va_P (zD g) vwCl [zo_X2 a_this a_places v18_.2.2.2.2.2.1, (a_places, .inl (zI g, 200, .inl v18_.2.2.2.2.2.2)), zo_X4 a_p1 a_p1_cells v_p1_size, (a_p1_cells, .inl (zI g, 912, .inl v_p1_cells))] H → va_D A [zo_X2 a_this a_places v18_.2.2.2.2.2.1, (a_places, .inl (zI g, 200, .inl v18_.2.2.2.2.2.2)), zo_X4 a_p1 a_p1_cells v_p1_size, (a_p1_cells, .inl (zI g, 912, .inl v_p1_cells))] → va_S A s.heap H locs → lv_has ls 10 [(0, .ref a_this), (1, .ref a_p1), (2, .int v18_.1), (3, .int v18_.2.1), (4, .int v18_.2.2.1), (5, .int v18_.2.2.2.1), (6, .int v18_.2.2.2.2.1)] → W p l e rm_X2_unroll s m (([.ref a_this, .ref a_p1] : List Value)).toArray below meth c H locs 0 0 Q (F0 m 18 ls []) := by
    intro n18_
    induction n18_ with
    | zero => intro v18_ h; cases h
    | succ n18_ ih18_ =>
      intro v18_ h H locs ls hP hD hS hl
      have h : f_X2_unroll_B18 N v_p1_size v_p1_cells (zLoop (f_X2_unroll_B18 N v_p1_size v_p1_cells) n18_) v18_ = some r1_ := h
      unfold f_X2_unroll_B18 at h
      refine lv_iload hx hb dX2_unroll_18 (lv_at hl 6 rfl) ?_
      refine lv_sipush (v := 3417) hx hb dX2_unroll_20 (by decide) ?_
      refine z_cge (tgt := 187) hx hb dX2_unroll_23 (by decide) h (fun h => ?_) (fun h => ?_)
      · obtain rfl := Option.some.inj h
        exact k187_ _ _ _ hP hD hS (lv_sub hl [] rfl)
      · refine lv_iload hx hb dX2_unroll_26 (lv_at hl 4 rfl) ?_
        refine lv_aload_n hx hb dX2_unroll_28 rfl (lv_at hl 1 rfl) ?_
        obtain ⟨r2_, hr2_, h⟩ := z_bind h
        refine zRV F (k_X4_size l N g a_p1 a_p1_cells v_p1_size _ hr2_) zy_X4_size zw_72 hP hD hS [2] rfl rfl (q0 := 2) (he := rfl) (hc := rfl) (rest := [.int v18_.2.2.1]) rfl hl.1 rfl (Nat.le_of_ble_eq_true rfl) ⟨rfl, rfl⟩ ⟨Nat.le_of_ble_eq_true rfl, Nat.le_of_ble_eq_true rfl⟩ ⟨Nat.zero_le _, Nat.zero_le _⟩ dX2_unroll_29 (st1 := [.int r2_, .int v18_.2.2.1]) rfl ?_
        refine z_cge (tgt := 187) hx hb dX2_unroll_32 (by decide) h (fun h => ?_) (fun h => ?_)
        · obtain rfl := Option.some.inj h
          exact k187_ _ _ _ hP hD hS (lv_sub hl [] rfl)
        · refine lv_aload_n hx hb dX2_unroll_35 rfl (lv_at hl 0 rfl) ?_
          refine z_get (C := RX2) (T := TX2) (N := 2) (ci := 1) F zu_wsX20 hP 0 rfl rfl 1 (by decide) zw_59 rfl dX2_unroll_36 ?_
          refine lv_sipush (v := 200) hx hb dX2_unroll_39 (by decide) ?_
          refine z_cge (tgt := 187) hx hb dX2_unroll_42 (by decide) h (fun h => ?_) (fun h => ?_)
          · obtain rfl := Option.some.inj h
            exact k187_ _ _ _ hP hD hS (lv_sub hl [] rfl)
          · refine lv_iload hx hb dX2_unroll_45 (lv_at hl 5 rfl) ?_
            obtain ⟨r3_, hA64_, h⟩ := z_bind h
            have k64_ : ∀ (H : Heap) (locs : List Loc) (ls : Array Slot), va_P (zD g) vwCl [zo_X2 a_this a_places v18_.2.2.2.2.2.1, (a_places, .inl (zI g, 200, .inl v18_.2.2.2.2.2.2)), zo_X4 a_p1 a_p1_cells v_p1_size, (a_p1_cells, .inl (zI g, 912, .inl v_p1_cells))] H → va_D A [zo_X2 a_this a_places v18_.2.2.2.2.2.1, (a_places, .inl (zI g, 200, .inl v18_.2.2.2.2.2.2)), zo_X4 a_p1 a_p1_cells v_p1_size, (a_p1_cells, .inl (zI g, 912, .inl v_p1_cells))] → va_S A s.heap H locs → lv_has ls 10 [(0, .ref a_this), (1, .ref a_p1), (2, .int r3_.1), (3, .int r3_.2), (4, .int v18_.2.2.1), (6, .int v18_.2.2.2.2.1)] → W p l e rm_X2_unroll s m (([.ref a_this, .ref a_p1] : List Value)).toArray below meth c H locs 0 0 Q (F0 m 64 ls []) := by
              intro H locs ls hP hD hS hl
              refine lv_aload_n hx hb dX2_unroll_64 rfl (lv_at hl 1 rfl) ?_
              refine lv_iload hx hb dX2_unroll_65 (lv_at hl 4 rfl) ?_
              refine lv_bipush (v := 6) hx hb dX2_unroll_67 (by decide) ?_
              obtain ⟨r4_, hr4_, h⟩ := z_bind h
              refine zRV F (k_X4_value l N g a_p1 a_p1_cells v_p1_size v_p1_cells v18_.2.2.1 6 _ hr4_) zy_X4_value zw_68 hP hD hS [2, 3] rfl rfl (q0 := 2) (he := rfl) (hc := rfl) (rest := []) rfl hl.1 rfl (Nat.le_of_ble_eq_true rfl) ⟨rfl, rfl⟩ ⟨Nat.le_of_ble_eq_true rfl, Nat.le_of_ble_eq_true rfl⟩ ⟨Nat.zero_le _, Nat.zero_le _⟩ dX2_unroll_69 (st1 := [.int r4_]) rfl ?_
              refine lv_istore (lv' := [(7, .int r4_), (0, .ref a_this), (1, .ref a_p1), (2, .int r3_.1), (3, .int r3_.2), (4, .int v18_.2.2.1), (6, .int v18_.2.2.2.2.1)]) hx hb dX2_unroll_72 hl (by decide) rfl (fun ls hl => ?_)
              refine lv_iload hx hb dX2_unroll_74 (lv_at hl 0 rfl) ?_
              obtain ⟨r5_, hA90_, h⟩ := z_bind h
              have k90_ : ∀ (H : Heap) (locs : List Loc) (ls : Array Slot), va_P (zD g) vwCl [zo_X2 a_this a_places v18_.2.2.2.2.2.1, (a_places, .inl (zI g, 200, .inl v18_.2.2.2.2.2.2)), zo_X4 a_p1 a_p1_cells v_p1_size, (a_p1_cells, .inl (zI g, 912, .inl v_p1_cells))] H → va_D A [zo_X2 a_this a_places v18_.2.2.2.2.2.1, (a_places, .inl (zI g, 200, .inl v18_.2.2.2.2.2.2)), zo_X4 a_p1 a_p1_cells v_p1_size, (a_p1_cells, .inl (zI g, 912, .inl v_p1_cells))] → va_S A s.heap H locs → lv_has ls 10 [(0, .ref a_this), (1, .ref a_p1), (2, .int r3_.1), (3, .int r3_.2), (4, .int v18_.2.2.1), (6, .int v18_.2.2.2.2.1)] → W p l e rm_X2_unroll s m (([.ref a_this, .ref a_p1] : List Value)).toArray below meth c H locs 0 0 Q (F0 m 90 ls [.int r5_]) := by
                intro H locs ls hP hD hS hl
                refine lv_istore (lv' := [(8, .int r5_), (0, .ref a_this), (1, .ref a_p1), (2, .int r3_.1), (3, .int r3_.2), (4, .int v18_.2.2.1), (6, .int v18_.2.2.2.2.1)]) hx hb dX2_unroll_90 hl (by decide) rfl (fun ls hl => ?_)
                refine lv_iload hx hb dX2_unroll_92 (lv_at hl 0 rfl) ?_
                obtain ⟨r6_, hA108_, h⟩ := z_bind h
                have k108_ : ∀ (H : Heap) (locs : List Loc) (ls : Array Slot), va_P (zD g) vwCl [zo_X2 a_this a_places v18_.2.2.2.2.2.1, (a_places, .inl (zI g, 200, .inl v18_.2.2.2.2.2.2)), zo_X4 a_p1 a_p1_cells v_p1_size, (a_p1_cells, .inl (zI g, 912, .inl v_p1_cells))] H → va_D A [zo_X2 a_this a_places v18_.2.2.2.2.2.1, (a_places, .inl (zI g, 200, .inl v18_.2.2.2.2.2.2)), zo_X4 a_p1 a_p1_cells v_p1_size, (a_p1_cells, .inl (zI g, 912, .inl v_p1_cells))] → va_S A s.heap H locs → lv_has ls 10 [(0, .ref a_this), (1, .ref a_p1), (2, .int r3_.1), (3, .int r3_.2), (4, .int v18_.2.2.1), (6, .int v18_.2.2.2.2.1), (8, .int r5_)] → W p l e rm_X2_unroll s m (([.ref a_this, .ref a_p1] : List Value)).toArray below meth c H locs 0 0 Q (F0 m 108 ls [.int r6_]) := by
                  intro H locs ls hP hD hS hl
                  refine lv_istore (lv' := [(9, .int r6_), (0, .ref a_this), (1, .ref a_p1), (2, .int r3_.1), (3, .int r3_.2), (4, .int v18_.2.2.1), (6, .int v18_.2.2.2.2.1), (8, .int r5_)]) hx hb dX2_unroll_108 hl (by decide) rfl (fun ls hl => ?_)
                  refine lv_iload hx hb dX2_unroll_110 (lv_at hl 7 rfl) ?_
                  obtain ⟨r7_, hA136_, h⟩ := z_bind h
                  have k136_ : ∀ (H : Heap) (locs : List Loc) (ls : Array Slot), va_P (zD g) vwCl [zo_X2 a_this a_places r7_.1, (a_places, .inl (zI g, 200, .inl r7_.2)), zo_X4 a_p1 a_p1_cells v_p1_size, (a_p1_cells, .inl (zI g, 912, .inl v_p1_cells))] H → va_D A [zo_X2 a_this a_places r7_.1, (a_places, .inl (zI g, 200, .inl r7_.2)), zo_X4 a_p1 a_p1_cells v_p1_size, (a_p1_cells, .inl (zI g, 912, .inl v_p1_cells))] → va_S A s.heap H locs → lv_has ls 10 [(0, .ref a_this), (1, .ref a_p1), (2, .int r3_.1), (3, .int r3_.2), (4, .int v18_.2.2.1), (6, .int v18_.2.2.2.2.1), (9, .int r6_)] → W p l e rm_X2_unroll s m (([.ref a_this, .ref a_p1] : List Value)).toArray below meth c H locs 0 0 Q (F0 m 136 ls []) := by
                    intro H locs ls hP hD hS hl
                    refine lv_iload hx hb dX2_unroll_136 (lv_at hl 6 rfl) ?_
                    obtain ⟨r8_, hA152_, h⟩ := z_bind h
                    have k152_ : ∀ (H : Heap) (locs : List Loc) (ls : Array Slot), va_P (zD g) vwCl [zo_X2 a_this a_places r7_.1, (a_places, .inl (zI g, 200, .inl r7_.2)), zo_X4 a_p1 a_p1_cells v_p1_size, (a_p1_cells, .inl (zI g, 912, .inl v_p1_cells))] H → va_D A [zo_X2 a_this a_places r7_.1, (a_places, .inl (zI g, 200, .inl r7_.2)), zo_X4 a_p1 a_p1_cells v_p1_size, (a_p1_cells, .inl (zI g, 912, .inl v_p1_cells))] → va_S A s.heap H locs → lv_has ls 10 [(0, .ref a_this), (1, .ref a_p1), (2, .int r3_.1), (3, .int r3_.2), (4, .int v18_.2.2.1), (6, .int v18_.2.2.2.2.1), (9, .int r6_)] → W p l e rm_X2_unroll s m (([.ref a_this, .ref a_p1] : List Value)).toArray below meth c H locs 0 0 Q (F0 m 152 ls [.int r8_]) := by
                      intro H locs ls hP hD hS hl
                      refine lv_istore (lv' := [(5, .int r8_), (0, .ref a_this), (1, .ref a_p1), (2, .int r3_.1), (3, .int r3_.2), (4, .int v18_.2.2.1), (6, .int v18_.2.2.2.2.1), (9, .int r6_)]) hx hb dX2_unroll_152 hl (by decide) rfl (fun ls hl => ?_)
                      refine lv_iload hx hb dX2_unroll_154 (lv_at hl 0 rfl) ?_
                      obtain ⟨r9_, hA181_, h⟩ := z_bind h
                      have k181_ : ∀ (H : Heap) (locs : List Loc) (ls : Array Slot), va_P (zD g) vwCl [zo_X2 a_this a_places r7_.1, (a_places, .inl (zI g, 200, .inl r7_.2)), zo_X4 a_p1 a_p1_cells v_p1_size, (a_p1_cells, .inl (zI g, 912, .inl v_p1_cells))] H → va_D A [zo_X2 a_this a_places r7_.1, (a_places, .inl (zI g, 200, .inl r7_.2)), zo_X4 a_p1 a_p1_cells v_p1_size, (a_p1_cells, .inl (zI g, 912, .inl v_p1_cells))] → va_S A s.heap H locs → lv_has ls 10 [(0, .ref a_this), (1, .ref a_p1), (2, .int r9_.1), (3, .int r9_.2.1), (4, .int r9_.2.2), (5, .int r8_), (6, .int v18_.2.2.2.2.1)] → W p l e rm_X2_unroll s m (([.ref a_this, .ref a_p1] : List Value)).toArray below meth c H locs 0 0 Q (F0 m 181 ls []) := by
                        intro H locs ls hP hD hS hl
                        refine z_nm h (fun x10_ ex10_ h => ?_)
                        refine lv_iinc (v := x10_) (lv' := [(6, .int x10_), (0, .ref a_this), (1, .ref a_p1), (2, .int r9_.1), (3, .int r9_.2.1), (4, .int r9_.2.2), (5, .int r8_)]) hx hb dX2_unroll_181 hl (k := 6) rfl (by rw [ex10_]; rfl) (by decide) rfl (fun ls hl => ?_)
                        refine lv_goto (tgt := 18) hx hb dX2_unroll_184 (by decide) ?_
                        exact ih18_ _ h _ _ _ hP hD hS (lv_sub hl [1, 2, 3, 4, 5, 6, 0] rfl)
                      have h := hA181_
                      refine z_eq (tgt := 168) hx hb dX2_unroll_156 (by decide) h (fun h => ?_) (fun h => ?_)
                      · refine z_nm h (fun x11_ ex11_ h => ?_)
                        refine lv_iinc (v := x11_) (lv' := [(4, .int x11_), (5, .int r8_), (0, .ref a_this), (1, .ref a_p1), (2, .int r3_.1), (3, .int r3_.2), (6, .int v18_.2.2.2.2.1), (9, .int r6_)]) hx hb dX2_unroll_168 hl (k := 5) rfl (by rw [ex11_]; rfl) (by decide) rfl (fun ls hl => ?_)
                        refine lv_iload hx hb dX2_unroll_171 (lv_at hl 7 rfl) ?_
                        refine z_eq (tgt := 181) hx hb dX2_unroll_173 (by decide) h (fun h => ?_) (fun h => ?_)
                        · obtain rfl := Option.some.inj h
                          exact k181_ _ _ _ hP hD hS (lv_sub hl [2, 3, 4, 5, 0, 1, 6] rfl)
                        · refine lv_iconst (v := 1) hx hb dX2_unroll_176 (by decide) ?_
                          refine lv_istore_n (lv' := [(3, .int 1), (4, .int x11_), (5, .int r8_), (0, .ref a_this), (1, .ref a_p1), (2, .int r3_.1), (6, .int v18_.2.2.2.2.1), (9, .int r6_)]) hx hb dX2_unroll_177 rfl hl (by decide) rfl (fun ls hl => ?_)
                          refine lv_iload hx hb dX2_unroll_178 (lv_at hl 1 rfl) ?_
                          refine lv_istore_n (lv' := [(2, .int x11_), (3, .int 1), (4, .int x11_), (5, .int r8_), (0, .ref a_this), (1, .ref a_p1), (6, .int v18_.2.2.2.2.1), (9, .int r6_)]) hx hb dX2_unroll_180 rfl hl (by decide) rfl (fun ls hl => ?_)
                          obtain rfl := Option.some.inj h
                          exact k181_ _ _ _ hP hD hS (lv_sub hl [4, 5, 0, 1, 2, 3, 6] rfl)
                      · refine z_nm h (fun x12_ ex12_ h => ?_)
                        refine lv_iinc (v := x12_) (lv' := [(3, .int x12_), (5, .int r8_), (0, .ref a_this), (1, .ref a_p1), (2, .int r3_.1), (4, .int v18_.2.2.1), (6, .int v18_.2.2.2.2.1), (9, .int r6_)]) hx hb dX2_unroll_159 hl (k := 4) rfl (by rw [ex12_]; rfl) (by decide) rfl (fun ls hl => ?_)
                        refine lv_iload_n hx hb dX2_unroll_162 rfl (lv_at hl 4 rfl) ?_
                        refine lv_istore (lv' := [(4, .int r3_.1), (3, .int x12_), (5, .int r8_), (0, .ref a_this), (1, .ref a_p1), (2, .int r3_.1), (6, .int v18_.2.2.2.2.1), (9, .int r6_)]) hx hb dX2_unroll_163 hl (by decide) rfl (fun ls hl => ?_)
                        refine lv_goto (tgt := 181) hx hb dX2_unroll_165 (by decide) ?_
                        obtain rfl := Option.some.inj h
                        exact k181_ _ _ _ hP hD hS (lv_sub hl [3, 4, 5, 1, 0, 2, 6] rfl)
                    have h := hA152_
                    refine z_eq (tgt := 151) hx hb dX2_unroll_138 (by decide) h (fun h => ?_) (fun h => ?_)
                    · refine lv_iconst (v := 0) hx hb dX2_unroll_151 (by decide) ?_
                      obtain rfl := Option.some.inj h
                      exact k152_ _ _ _ hP hD hS (lv_sub hl [0, 1, 2, 3, 4, 5, 6] rfl)
                    · refine lv_iload_n hx hb dX2_unroll_141 rfl (lv_at hl 3 rfl) ?_
                      refine lv_iload hx hb dX2_unroll_142 (lv_at hl 6 rfl) ?_
                      refine z_cge (tgt := 151) hx hb dX2_unroll_144 (by decide) h (fun h => ?_) (fun h => ?_)
                      · refine lv_iconst (v := 0) hx hb dX2_unroll_151 (by decide) ?_
                        obtain rfl := Option.some.inj h
                        exact k152_ _ _ _ hP hD hS (lv_sub hl [0, 1, 2, 3, 4, 5, 6] rfl)
                      · refine lv_iconst (v := 1) hx hb dX2_unroll_147 (by decide) ?_
                        refine lv_goto (tgt := 152) hx hb dX2_unroll_148 (by decide) ?_
                        obtain rfl := Option.some.inj h
                        exact k152_ _ _ _ hP hD hS (lv_sub hl [0, 1, 2, 3, 4, 5, 6] rfl)
                  have h := hA136_
                  refine z_ne (tgt := 136) hx hb dX2_unroll_112 (by decide) h (fun h => ?_) (fun h => ?_)
                  · obtain rfl := Option.some.inj h
                    exact k136_ _ _ _ hP hD hS (lv_sub hl [1, 2, 3, 4, 5, 6, 0] rfl)
                  · refine lv_aload_n hx hb dX2_unroll_115 rfl (lv_at hl 1 rfl) ?_
                    refine z_get (C := RX2) (T := TX2) (N := 2) (ci := 1) F zu_wsX20 hP 0 rfl rfl 0 (by decide) zw_57 rfl dX2_unroll_116 ?_
                    refine lv_aload_n hx hb dX2_unroll_119 rfl (lv_at hl 1 rfl) ?_
                    refine z_get (C := RX2) (T := TX2) (N := 2) (ci := 1) F zu_wsX20 hP 0 rfl rfl 1 (by decide) zw_59 rfl dX2_unroll_120 ?_
                    refine lv_iload hx hb dX2_unroll_123 (lv_at hl 5 rfl) ?_
                    refine z_iast F hP hD hS 1 rfl dX2_unroll_125 h (W1 := fun w13_ => [zo_X2 a_this a_places v18_.2.2.2.2.2.1, (a_places, .inl (zI g, 200, .inl w13_)), zo_X4 a_p1 a_p1_cells v_p1_size, (a_p1_cells, .inl (zI g, 912, .inl v_p1_cells))]) (fun _ => rfl) (fun w13_ H locs h hP hD hS => ?_)
                    refine lv_aload_n hx hb dX2_unroll_126 rfl (lv_at hl 1 rfl) ?_
                    refine lv_dup hx hb dX2_unroll_127 rfl ?_
                    refine z_get (C := RX2) (T := TX2) (N := 2) (ci := 1) F zu_wsX20 hP 0 rfl rfl 1 (by decide) zw_59 rfl dX2_unroll_128 ?_
                    refine lv_iconst (v := 1) hx hb dX2_unroll_131 (by decide) ?_
                    refine lv_iadd hx hb dX2_unroll_132 ?_
                    refine z_top Value.int h (fun x14_ h => ?_)
                    refine z_put (C := RX2) (T := TX2) (N := 2) (ci := 1) (W1 := [zo_X2 a_this a_places x14_, (a_places, .inl (zI g, 200, .inl w13_)), zo_X4 a_p1 a_p1_cells v_p1_size, (a_p1_cells, .inl (zI g, 912, .inl v_p1_cells))]) F zu_wsX20 tyX2 tyX2_ok nmX2 hP hD hS 0 rfl rfl 1 (by decide) zw_59 rfl rfl rfl (Nat.le_of_ble_eq_true rfl) dX2_unroll_133 rfl (fun H locs hP hD hS => ?_)
                    obtain rfl := Option.some.inj h
                    exact k136_ _ _ _ hP hD hS (lv_sub hl [1, 2, 3, 4, 5, 6, 0] rfl)
                have h := hA108_
                refine z_eq (tgt := 101) hx hb dX2_unroll_94 (by decide) h (fun h => ?_) (fun h => ?_)
                · refine lv_aload_n hx hb dX2_unroll_101 rfl (lv_at hl 2 rfl) ?_
                  refine lv_iload hx hb dX2_unroll_102 (lv_at hl 5 rfl) ?_
                  refine lv_iconst (v := 5) hx hb dX2_unroll_104 (by decide) ?_
                  obtain ⟨r15_, hr15_, h⟩ := z_bind h
                  refine zRV F (k_X4_value l N g a_p1 a_p1_cells v_p1_size v_p1_cells v18_.2.2.1 5 _ hr15_) zy_X4_value zw_68 hP hD hS [2, 3] rfl rfl (q0 := 2) (he := rfl) (hc := rfl) (rest := []) rfl hl.1 rfl (Nat.le_of_ble_eq_true rfl) ⟨rfl, rfl⟩ ⟨Nat.le_of_ble_eq_true rfl, Nat.le_of_ble_eq_true rfl⟩ ⟨Nat.zero_le _, Nat.zero_le _⟩ dX2_unroll_105 (st1 := [.int r15_]) rfl ?_
                  obtain rfl := Option.some.inj h
                  exact k108_ _ _ _ hP hD hS (lv_sub hl [1, 2, 3, 4, 5, 6, 0] rfl)
                · refine lv_iconst (v := 0) hx hb dX2_unroll_97 (by decide) ?_
                  refine lv_goto (tgt := 108) hx hb dX2_unroll_98 (by decide) ?_
                  obtain rfl := Option.some.inj h
                  exact k108_ _ _ _ hP hD hS (lv_sub hl [1, 2, 3, 4, 5, 6, 0] rfl)
              have h := hA90_
              refine z_eq (tgt := 89) hx hb dX2_unroll_76 (by decide) h (fun h => ?_) (fun h => ?_)
              · refine lv_iconst (v := 0) hx hb dX2_unroll_89 (by decide) ?_
                obtain rfl := Option.some.inj h
                exact k90_ _ _ _ hP hD hS (lv_sub hl [1, 2, 3, 4, 5, 6] rfl)
              · refine lv_iload hx hb dX2_unroll_79 (lv_at hl 0 rfl) ?_
                refine lv_iload_n hx hb dX2_unroll_81 rfl (lv_at hl 4 rfl) ?_
                refine z_ceq (tgt := 89) hx hb dX2_unroll_82 (by decide) h (fun h => ?_) (fun h => ?_)
                · refine lv_iconst (v := 0) hx hb dX2_unroll_89 (by decide) ?_
                  obtain rfl := Option.some.inj h
                  exact k90_ _ _ _ hP hD hS (lv_sub hl [1, 2, 3, 4, 5, 6] rfl)
                · refine lv_iconst (v := 1) hx hb dX2_unroll_85 (by decide) ?_
                  refine lv_goto (tgt := 90) hx hb dX2_unroll_86 (by decide) ?_
                  obtain rfl := Option.some.inj h
                  exact k90_ _ _ _ hP hD hS (lv_sub hl [1, 2, 3, 4, 5, 6] rfl)
            have h := hA64_
            refine z_ne (tgt := 64) hx hb dX2_unroll_47 (by decide) h (fun h => ?_) (fun h => ?_)
            · obtain rfl := Option.some.inj h
              exact k64_ _ _ _ hP hD hS (lv_sub hl [0, 1, 2, 3, 4, 6] rfl)
            · refine lv_aload_n hx hb dX2_unroll_50 rfl (lv_at hl 1 rfl) ?_
              refine lv_iload hx hb dX2_unroll_51 (lv_at hl 4 rfl) ?_
              obtain ⟨r16_, hr16_, h⟩ := z_bind h
              refine zRS F (k_X2_beginsAnew l N g a_p1 a_p1_cells v_p1_size v_p1_cells v18_.2.2.1 _ hr16_) zy_X2_beginsAnew zw_75 hP hD hS [2, 3] rfl rfl (rest := []) rfl hl.1 rfl (Nat.le_of_ble_eq_true rfl) ⟨rfl, rfl⟩ ⟨Nat.le_of_ble_eq_true rfl, Nat.le_of_ble_eq_true rfl⟩ ⟨Nat.zero_le _, Nat.zero_le _⟩ dX2_unroll_53 (st1 := [.int r16_]) rfl ?_
              refine z_eq (tgt := 64) hx hb dX2_unroll_56 (by decide) h (fun h => ?_) (fun h => ?_)
              · obtain rfl := Option.some.inj h
                exact k64_ _ _ _ hP hD hS (lv_sub hl [0, 1, 2, 3, 4, 6] rfl)
              · refine lv_iload hx hb dX2_unroll_59 (lv_at hl 4 rfl) ?_
                refine lv_istore_n (lv' := [(2, .int v18_.2.2.1), (0, .ref a_this), (1, .ref a_p1), (3, .int v18_.2.1), (4, .int v18_.2.2.1), (5, .int v18_.2.2.2.1), (6, .int v18_.2.2.2.2.1)]) hx hb dX2_unroll_61 rfl hl (by decide) rfl (fun ls hl => ?_)
                refine lv_iconst (v := 1) hx hb dX2_unroll_62 (by decide) ?_
                refine lv_istore_n (lv' := [(3, .int 1), (2, .int v18_.2.2.1), (0, .ref a_this), (1, .ref a_p1), (4, .int v18_.2.2.1), (5, .int v18_.2.2.2.1), (6, .int v18_.2.2.2.2.1)]) hx hb dX2_unroll_63 rfl hl (by decide) rfl (fun ls hl => ?_)
                obtain rfl := Option.some.inj h
                exact k64_ _ _ _ hP hD hS (lv_sub hl [2, 3, 1, 0, 4, 6] rfl)
  exact l18_ N _ h _ _ _ hP hD hS (lv_sub hl [5, 6, 4, 3, 2, 1, 0] rfl)
def f_X2_ticks_B4 (N : Nat) (v_size : Int32) (v_places : Nat → Int32) (v_p1_size : Int32) (v_p1_cells : Nat → Int32) (kh4_ : Int32 × Int32 → Option Int32) (v4_ : Int32 × Int32) : Option Int32 :=
  if v4_.2 < v_size then Option.bind (f_X2_at N v_size v_places v4_.2) (fun (r2_ : Int32) => Option.bind (f_X4_ticks N v_p1_size v_p1_cells r2_) (fun (r3_ : Int32) => Option.bind (some (v4_.1 + r3_)) (fun (x4_ : Int32) => Option.bind (some (v4_.2 + 1)) (fun (x5_ : Int32) => kh4_ (x4_, x5_))))) else some v4_.1
def f_X2_ticks (N : Nat) (v_size : Int32) (v_places : Nat → Int32) (v_p1_size : Int32) (v_p1_cells : Nat → Int32) : Option Int32 :=
  Option.bind (zLoop (f_X2_ticks_B4 N v_size v_places v_p1_size v_p1_cells) N (0, 0)) (fun (r1_ : Int32) => some r1_)
abbrev rm_X2_ticks : Room := { frames := 3, cells := 0, slots := 0, locals := 65 }
theorem zy_X2_ticks : zYv yX2_ticks RX2 cX2_ticks 4 (some .int) 1 := ⟨zw_620, zw_621, zw_77, zw_87, ⟨by decide, by decide⟩, by decide +kernel⟩
set_option maxHeartbeats 4000000 in
set_option maxRecDepth 100000 in
theorem k_X2_ticks (l : Launch) (N : Nat) (g : zEnv) (a_this a_places a_p1 a_p1_cells : Nat) (v_size : Int32) (v_places : Nat → Int32) (v_p1_size : Int32) (v_p1_cells : Nat → Int32) (r : Int32) (h : f_X2_ticks N v_size v_places v_p1_size v_p1_cells = some r) : ZR l yX2_ticks cX2_ticks 4 (some .int) rm_X2_ticks g [.ref a_this, .ref a_p1] [zo_X2 a_this a_places v_size, (a_places, .inl (zI g, 200, .inl v_places)), zo_X4 a_p1 a_p1_cells v_p1_size, (a_p1_cells, .inl (zI g, 912, .inl v_p1_cells))] (some (.int r)) := by
  refine zR_of (by decide) (Nat.le_of_ble_eq_true rfl) ?_
  intro p e s m below meth c A ls Q R F hRm hr hlocks hP hD hS hl hQ
  subst hRm
  have F : zF p m c cX2_ticks 4 s (([.ref a_this, .ref a_p1] : List Value)).toArray RX2 g A := F
  have hx := F.1.1
  have hb := F.1.2.1
  have hz := F.1.2.2.2.2
  have hl : lv_has ls 4 [(0, .ref a_this), (1, .ref a_p1)] := hl
  unfold f_X2_ticks at h
  refine lv_iconst (v := 0) hx hb dX2_ticks_0 (by decide) ?_
  refine lv_istore_n (lv' := [(2, .int 0), (0, .ref a_this), (1, .ref a_p1)]) hx hb dX2_ticks_1 rfl hl (by decide) rfl (fun ls hl => ?_)
  refine lv_iconst (v := 0) hx hb dX2_ticks_2 (by decide) ?_
  refine lv_istore_n (lv' := [(3, .int 0), (2, .int 0), (0, .ref a_this), (1, .ref a_p1)]) hx hb dX2_ticks_3 rfl hl (by decide) rfl (fun ls hl => ?_)
  obtain ⟨r1_, hA4_, h⟩ := z_bind h
  have k30_ : ∀ (ls : Array Slot), lv_has ls 4 [(2, .int r1_)] → W p l e rm_X2_ticks s m (([.ref a_this, .ref a_p1] : List Value)).toArray below meth c s.heap [] 0 0 Q (F0 m 30 ls []) := by
    intro ls hl
    refine lv_iload_n hx hb dX2_ticks_30 rfl (lv_at hl 0 rfl) ?_
    obtain rfl := Option.some.inj h
    exact zR_i F hr hlocks hQ dX2_ticks_31
  have h := hA4_
  have l4_ : ∀ (n4_ : Nat) (v4_ : Int32 × Int32), zLoop (f_X2_ticks_B4 N v_size v_places v_p1_size v_p1_cells) n4_ v4_ = some r1_ → ∀ (ls : Array Slot), lv_has ls 4 [(0, .ref a_this), (1, .ref a_p1), (2, .int v4_.1), (3, .int v4_.2)] → W p l e rm_X2_ticks s m (([.ref a_this, .ref a_p1] : List Value)).toArray below meth c s.heap [] 0 0 Q (F0 m 4 ls []) := by
    intro n4_
    induction n4_ with
    | zero => intro v4_ h; cases h
    | succ n4_ ih4_ =>
      intro v4_ h ls hl
      have h : f_X2_ticks_B4 N v_size v_places v_p1_size v_p1_cells (zLoop (f_X2_ticks_B4 N v_size v_places v_p1_size v_p1_cells) n4_) v4_ = some r1_ := h
      unfold f_X2_ticks_B4 at h
      refine lv_iload_n hx hb dX2_ticks_4 rfl (lv_at hl 3 rfl) ?_
      refine lv_aload_n hx hb dX2_ticks_5 rfl (lv_at hl 0 rfl) ?_
      refine z_get (C := RX2) (T := TX2) (N := 2) (ci := 1) F zu_wsX20 hP 0 rfl rfl 1 (by decide) zw_59 rfl dX2_ticks_6 ?_
      refine z_cge (tgt := 30) hx hb dX2_ticks_9 (by decide) h (fun h => ?_) (fun h => ?_)
      · obtain rfl := Option.some.inj h
        exact k30_ _ (lv_sub hl [2] rfl)
      · refine lv_iload_n hx hb dX2_ticks_12 rfl (lv_at hl 2 rfl) ?_
        refine lv_aload_n hx hb dX2_ticks_13 rfl (lv_at hl 1 rfl) ?_
        refine lv_aload_n hx hb dX2_ticks_14 rfl (lv_at hl 0 rfl) ?_
        refine lv_iload_n hx hb dX2_ticks_15 rfl (lv_at hl 3 rfl) ?_
        obtain ⟨r2_, hr2_, h⟩ := z_bind h
        refine zRV F (k_X2_at l N g a_this a_places v_size v_places v4_.2 _ hr2_) zy_X2_at zw_81 hP hD hS [0, 1] rfl rfl (q0 := 0) (he := rfl) (hc := rfl) (rest := [.ref a_p1, .int v4_.1]) rfl hl.1 rfl (Nat.le_of_ble_eq_true rfl) ⟨rfl, rfl⟩ ⟨Nat.le_of_ble_eq_true rfl, Nat.le_of_ble_eq_true rfl⟩ ⟨Nat.zero_le _, Nat.zero_le _⟩ dX2_ticks_16 (st1 := [.int r2_, .ref a_p1, .int v4_.1]) rfl ?_
        obtain ⟨r3_, hr3_, h⟩ := z_bind h
        refine zRV F (k_X4_ticks l N g a_p1 a_p1_cells v_p1_size v_p1_cells r2_ _ hr3_) zy_X4_ticks zw_84 hP hD hS [2, 3] rfl rfl (q0 := 2) (he := rfl) (hc := rfl) (rest := [.int v4_.1]) rfl hl.1 rfl (Nat.le_of_ble_eq_true rfl) ⟨rfl, rfl⟩ ⟨Nat.le_of_ble_eq_true rfl, Nat.le_of_ble_eq_true rfl⟩ ⟨Nat.zero_le _, Nat.zero_le _⟩ dX2_ticks_19 (st1 := [.int r3_, .int v4_.1]) rfl ?_
        refine lv_iadd hx hb dX2_ticks_22 ?_
        refine z_top Value.int h (fun x4_ h => ?_)
        refine lv_istore_n (lv' := [(2, .int x4_), (0, .ref a_this), (1, .ref a_p1), (3, .int v4_.2)]) hx hb dX2_ticks_23 rfl hl (by decide) rfl (fun ls hl => ?_)
        refine z_nm h (fun x5_ ex5_ h => ?_)
        refine lv_iinc (v := x5_) (lv' := [(3, .int x5_), (2, .int x4_), (0, .ref a_this), (1, .ref a_p1)]) hx hb dX2_ticks_24 hl (k := 3) rfl (by rw [ex5_]; rfl) (by decide) rfl (fun ls hl => ?_)
        refine lv_goto (tgt := 4) hx hb dX2_ticks_27 (by decide) ?_
        exact ih4_ _ h _ (lv_sub hl [2, 3, 1, 0] rfl)
  exact l4_ N _ h _ (lv_sub hl [2, 3, 1, 0] rfl)
def f_X2_timesOf_B4 (N : Nat) (v_size : Int32) (v_places : Nat → Int32) (x1 : Int32) (kh4_ : Int32 × Int32 → Option Int32) (v4_ : Int32 × Int32) : Option Int32 :=
  if v4_.2 < v_size then Option.bind (f_X2_at N v_size v_places v4_.2) (fun (r2_ : Int32) => Option.bind (if r2_ = x1 then some 1 else some 0) (fun (r3_ : Int32) => Option.bind (some (v4_.1 + r3_)) (fun (x4_ : Int32) => Option.bind (some (v4_.2 + 1)) (fun (x5_ : Int32) => kh4_ (x4_, x5_))))) else some v4_.1
def f_X2_timesOf (N : Nat) (v_size : Int32) (v_places : Nat → Int32) (x1 : Int32) : Option Int32 :=
  Option.bind (zLoop (f_X2_timesOf_B4 N v_size v_places x1) N (0, 0)) (fun (r1_ : Int32) => some r1_)
abbrev rm_X2_timesOf : Room := { frames := 1, cells := 0, slots := 0, locals := 21 }
theorem zy_X2_timesOf : zYv yX2_timesOf RX2 cX2_timesOf 4 (some .int) 1 := ⟨zw_630, zw_631, zw_77, zw_88, ⟨by decide, by decide⟩, by decide +kernel⟩
set_option maxHeartbeats 4000000 in
set_option maxRecDepth 100000 in
theorem k_X2_timesOf (l : Launch) (N : Nat) (g : zEnv) (a_this a_places : Nat) (v_size : Int32) (v_places : Nat → Int32) (x1 : Int32) (r : Int32) (h : f_X2_timesOf N v_size v_places x1 = some r) : ZR l yX2_timesOf cX2_timesOf 4 (some .int) rm_X2_timesOf g [.ref a_this, .int x1] [zo_X2 a_this a_places v_size, (a_places, .inl (zI g, 200, .inl v_places))] (some (.int r)) := by
  refine zR_of (by decide) (Nat.le_of_ble_eq_true rfl) ?_
  intro p e s m below meth c A ls Q R F hRm hr hlocks hP hD hS hl hQ
  subst hRm
  have F : zF p m c cX2_timesOf 4 s (([.ref a_this, .int x1] : List Value)).toArray RX2 g A := F
  have hx := F.1.1
  have hb := F.1.2.1
  have hz := F.1.2.2.2.2
  have hl : lv_has ls 4 [(0, .ref a_this), (1, .int x1)] := hl
  unfold f_X2_timesOf at h
  refine lv_iconst (v := 0) hx hb dX2_timesOf_0 (by decide) ?_
  refine lv_istore_n (lv' := [(2, .int 0), (0, .ref a_this), (1, .int x1)]) hx hb dX2_timesOf_1 rfl hl (by decide) rfl (fun ls hl => ?_)
  refine lv_iconst (v := 0) hx hb dX2_timesOf_2 (by decide) ?_
  refine lv_istore_n (lv' := [(3, .int 0), (2, .int 0), (0, .ref a_this), (1, .int x1)]) hx hb dX2_timesOf_3 rfl hl (by decide) rfl (fun ls hl => ?_)
  obtain ⟨r1_, hA4_, h⟩ := z_bind h
  have k35_ : ∀ (ls : Array Slot), lv_has ls 4 [(2, .int r1_)] → W p l e rm_X2_timesOf s m (([.ref a_this, .int x1] : List Value)).toArray below meth c s.heap [] 0 0 Q (F0 m 35 ls []) := by
    intro ls hl
    refine lv_iload_n hx hb dX2_timesOf_35 rfl (lv_at hl 0 rfl) ?_
    obtain rfl := Option.some.inj h
    exact zR_i F hr hlocks hQ dX2_timesOf_36
  have h := hA4_
  have l4_ : ∀ (n4_ : Nat) (v4_ : Int32 × Int32), zLoop (f_X2_timesOf_B4 N v_size v_places x1) n4_ v4_ = some r1_ → ∀ (ls : Array Slot), lv_has ls 4 [(0, .ref a_this), (1, .int x1), (2, .int v4_.1), (3, .int v4_.2)] → W p l e rm_X2_timesOf s m (([.ref a_this, .int x1] : List Value)).toArray below meth c s.heap [] 0 0 Q (F0 m 4 ls []) := by
    intro n4_
    induction n4_ with
    | zero => intro v4_ h; cases h
    | succ n4_ ih4_ =>
      intro v4_ h ls hl
      have h : f_X2_timesOf_B4 N v_size v_places x1 (zLoop (f_X2_timesOf_B4 N v_size v_places x1) n4_) v4_ = some r1_ := h
      unfold f_X2_timesOf_B4 at h
      refine lv_iload_n hx hb dX2_timesOf_4 rfl (lv_at hl 3 rfl) ?_
      refine lv_aload_n hx hb dX2_timesOf_5 rfl (lv_at hl 0 rfl) ?_
      refine z_get (C := RX2) (T := TX2) (N := 2) (ci := 1) F zu_wsX20 hP 0 rfl rfl 1 (by decide) zw_59 rfl dX2_timesOf_6 ?_
      refine z_cge (tgt := 35) hx hb dX2_timesOf_9 (by decide) h (fun h => ?_) (fun h => ?_)
      · obtain rfl := Option.some.inj h
        exact k35_ _ (lv_sub hl [2] rfl)
      · refine lv_iload_n hx hb dX2_timesOf_12 rfl (lv_at hl 2 rfl) ?_
        refine lv_aload_n hx hb dX2_timesOf_13 rfl (lv_at hl 0 rfl) ?_
        refine lv_iload_n hx hb dX2_timesOf_14 rfl (lv_at hl 3 rfl) ?_
        obtain ⟨r2_, hr2_, h⟩ := z_bind h
        refine zRV F (k_X2_at l N g a_this a_places v_size v_places v4_.2 _ hr2_) zy_X2_at zw_81 hP hD hS [0, 1] rfl rfl (q0 := 0) (he := rfl) (hc := rfl) (rest := [.int v4_.1]) rfl hl.1 rfl (Nat.le_of_ble_eq_true rfl) ⟨rfl, rfl⟩ ⟨Nat.le_of_ble_eq_true rfl, Nat.le_of_ble_eq_true rfl⟩ ⟨Nat.zero_le _, Nat.zero_le _⟩ dX2_timesOf_15 (st1 := [.int r2_, .int v4_.1]) rfl ?_
        refine lv_iload_n hx hb dX2_timesOf_18 rfl (lv_at hl 1 rfl) ?_
        obtain ⟨r3_, hA27_, h⟩ := z_bind h
        have k27_ : ∀ (ls : Array Slot), lv_has ls 4 [(0, .ref a_this), (1, .int x1), (3, .int v4_.2)] → W p l e rm_X2_timesOf s m (([.ref a_this, .int x1] : List Value)).toArray below meth c s.heap [] 0 0 Q (F0 m 27 ls [.int r3_, .int v4_.1]) := by
          intro ls hl
          refine lv_iadd hx hb dX2_timesOf_27 ?_
          refine z_top Value.int h (fun x4_ h => ?_)
          refine lv_istore_n (lv' := [(2, .int x4_), (0, .ref a_this), (1, .int x1), (3, .int v4_.2)]) hx hb dX2_timesOf_28 rfl hl (by decide) rfl (fun ls hl => ?_)
          refine z_nm h (fun x5_ ex5_ h => ?_)
          refine lv_iinc (v := x5_) (lv' := [(3, .int x5_), (2, .int x4_), (0, .ref a_this), (1, .int x1)]) hx hb dX2_timesOf_29 hl (k := 3) rfl (by rw [ex5_]; rfl) (by decide) rfl (fun ls hl => ?_)
          refine lv_goto (tgt := 4) hx hb dX2_timesOf_32 (by decide) ?_
          exact ih4_ _ h _ (lv_sub hl [2, 3, 1, 0] rfl)
        have h := hA27_
        refine z_cne (tgt := 26) hx hb dX2_timesOf_19 (by decide) h (fun h => ?_) (fun h => ?_)
        · refine lv_iconst (v := 0) hx hb dX2_timesOf_26 (by decide) ?_
          obtain rfl := Option.some.inj h
          exact k27_ _ (lv_sub hl [0, 1, 3] rfl)
        · refine lv_iconst (v := 1) hx hb dX2_timesOf_22 (by decide) ?_
          refine lv_goto (tgt := 27) hx hb dX2_timesOf_23 (by decide) ?_
          obtain rfl := Option.some.inj h
          exact k27_ _ (lv_sub hl [0, 1, 3] rfl)
  exact l4_ N _ h _ (lv_sub hl [2, 3, 1, 0] rfl)
def f_X2_secondsOf (N : Nat) (v_size : Int32) (v_places : Nat → Int32) (v_p1_size : Int32) (v_p1_cells : Nat → Int32) (x2 : Int32) : Option UInt32 :=
  Option.bind (f_X2_at N v_size v_places x2) (fun (r1_ : Int32) => Option.bind (f_X4_value N v_p1_size v_p1_cells r1_ 3) (fun (r2_ : Int32) => Option.bind (some (FP.i2f r2_)) (fun (x3_ : UInt32) => if 0 < (Op.cmpValue (FP.fcmp x3_ FP.fconst0) .l) then Option.bind (f_X4_ticks N v_p1_size v_p1_cells r1_) (fun (r4_ : Int32) => Option.bind (zFmu (1098907648) x3_) (fun (x5_ : UInt32) => Option.bind (zFdi (1114636288) x5_) (fun (x6_ : UInt32) => Option.bind (zFmu (FP.i2f r4_) x6_) (fun (x7_ : UInt32) => some x7_)))) else some FP.fconst0)))
abbrev rm_X2_secondsOf : Room := { frames := 3, cells := 0, slots := 0, locals := 65 }
theorem zy_X2_secondsOf : zYv yX2_secondsOf RX2 cX2_secondsOf 5 (some .float) 2 := ⟨zw_93, zw_94, zw_77, zw_91, ⟨by decide, by decide⟩, by decide +kernel⟩
set_option maxHeartbeats 4000000 in
set_option maxRecDepth 100000 in
theorem k_X2_secondsOf (l : Launch) (N : Nat) (g : zEnv) (a_this a_places a_p1 a_p1_cells : Nat) (v_size : Int32) (v_places : Nat → Int32) (v_p1_size : Int32) (v_p1_cells : Nat → Int32) (x2 : Int32) (r : UInt32) (h : f_X2_secondsOf N v_size v_places v_p1_size v_p1_cells x2 = some r) : ZR l yX2_secondsOf cX2_secondsOf 5 (some .float) rm_X2_secondsOf g [.ref a_this, .ref a_p1, .int x2] [zo_X2 a_this a_places v_size, (a_places, .inl (zI g, 200, .inl v_places)), zo_X4 a_p1 a_p1_cells v_p1_size, (a_p1_cells, .inl (zI g, 912, .inl v_p1_cells))] (some (.float r)) := by
  refine zR_of (by decide) (Nat.le_of_ble_eq_true rfl) ?_
  intro p e s m below meth c A ls Q R F hRm hr hlocks hP hD hS hl hQ
  subst hRm
  have F : zF p m c cX2_secondsOf 5 s (([.ref a_this, .ref a_p1, .int x2] : List Value)).toArray RX2 g A := F
  have hx := F.1.1
  have hb := F.1.2.1
  have hz := F.1.2.2.2.2
  have hl : lv_has ls 5 [(0, .ref a_this), (1, .ref a_p1), (2, .int x2)] := hl
  unfold f_X2_secondsOf at h
  refine lv_aload_n hx hb dX2_secondsOf_0 rfl (lv_at hl 0 rfl) ?_
  refine lv_iload_n hx hb dX2_secondsOf_1 rfl (lv_at hl 2 rfl) ?_
  obtain ⟨r1_, hr1_, h⟩ := z_bind h
  refine zRV F (k_X2_at l N g a_this a_places v_size v_places x2 _ hr1_) zy_X2_at zw_81 hP hD hS [0, 1] rfl rfl (q0 := 0) (he := rfl) (hc := rfl) (rest := []) rfl hl.1 rfl (Nat.le_of_ble_eq_true rfl) ⟨rfl, rfl⟩ ⟨Nat.le_of_ble_eq_true rfl, Nat.le_of_ble_eq_true rfl⟩ ⟨Nat.zero_le _, Nat.zero_le _⟩ dX2_secondsOf_2 (st1 := [.int r1_]) rfl ?_
  refine lv_istore_n (lv' := [(3, .int r1_), (0, .ref a_this), (1, .ref a_p1), (2, .int x2)]) hx hb dX2_secondsOf_5 rfl hl (by decide) rfl (fun ls hl => ?_)
  refine lv_aload_n hx hb dX2_secondsOf_6 rfl (lv_at hl 2 rfl) ?_
  refine lv_iload_n hx hb dX2_secondsOf_7 rfl (lv_at hl 0 rfl) ?_
  refine lv_iconst (v := 3) hx hb dX2_secondsOf_8 (by decide) ?_
  obtain ⟨r2_, hr2_, h⟩ := z_bind h
  refine zRV F (k_X4_value l N g a_p1 a_p1_cells v_p1_size v_p1_cells r1_ 3 _ hr2_) zy_X4_value zw_68 hP hD hS [2, 3] rfl rfl (q0 := 2) (he := rfl) (hc := rfl) (rest := []) rfl hl.1 rfl (Nat.le_of_ble_eq_true rfl) ⟨rfl, rfl⟩ ⟨Nat.le_of_ble_eq_true rfl, Nat.le_of_ble_eq_true rfl⟩ ⟨Nat.zero_le _, Nat.zero_le _⟩ dX2_secondsOf_9 (st1 := [.int r2_]) rfl ?_
  refine lv_i2f hx hb dX2_secondsOf_12 ?_
  refine z_top Value.float h (fun x3_ h => ?_)
  refine lv_fstore (lv' := [(4, .float x3_), (3, .int r1_), (0, .ref a_this), (1, .ref a_p1), (2, .int x2)]) hx hb dX2_secondsOf_13 hl (by decide) rfl (fun ls hl => ?_)
  refine lv_fload hx hb dX2_secondsOf_15 (lv_at hl 0 rfl) ?_
  refine lv_fconst0 hx hb dX2_secondsOf_17 ?_
  refine lv_fcmp hx hb dX2_secondsOf_18 ?_
  refine z_le (tgt := 40) hx hb dX2_secondsOf_19 (by decide) h (fun h => ?_) (fun h => ?_)
  · refine lv_fconst0 hx hb dX2_secondsOf_40 ?_
    obtain rfl := Option.some.inj h
    exact zR_f F hr hlocks hQ dX2_secondsOf_41
  · refine lv_aload_n hx hb dX2_secondsOf_22 rfl (lv_at hl 3 rfl) ?_
    refine lv_iload_n hx hb dX2_secondsOf_23 rfl (lv_at hl 1 rfl) ?_
    obtain ⟨r4_, hr4_, h⟩ := z_bind h
    refine zRV F (k_X4_ticks l N g a_p1 a_p1_cells v_p1_size v_p1_cells r1_ _ hr4_) zy_X4_ticks zw_84 hP hD hS [2, 3] rfl rfl (q0 := 2) (he := rfl) (hc := rfl) (rest := []) rfl hl.1 rfl (Nat.le_of_ble_eq_true rfl) ⟨rfl, rfl⟩ ⟨Nat.le_of_ble_eq_true rfl, Nat.le_of_ble_eq_true rfl⟩ ⟨Nat.zero_le _, Nat.zero_le _⟩ dX2_secondsOf_24 (st1 := [.int r4_]) rfl ?_
    refine lv_i2f hx hb dX2_secondsOf_27 ?_
    refine lv_ldcf hx hb F.1.2.2.2.1 (hz _ zw_89) dX2_secondsOf_28 ?_
    refine lv_ldcf hx hb F.1.2.2.2.1 (hz _ zw_90) dX2_secondsOf_30 ?_
    refine lv_fload hx hb dX2_secondsOf_32 (lv_at hl 0 rfl) ?_
    refine z_fmu hx hb dX2_secondsOf_34 h (fun x5_ h => ?_)
    refine z_fdi hx hb dX2_secondsOf_35 h (fun x6_ h => ?_)
    refine z_fmu hx hb dX2_secondsOf_36 h (fun x7_ h => ?_)
    refine lv_goto (tgt := 41) hx hb dX2_secondsOf_37 (by decide) ?_
    obtain rfl := Option.some.inj h
    exact zR_f F hr hlocks hQ dX2_secondsOf_41
def f_X2_secondsUpTo_B5 (N : Nat) (x2 : Int32) (v_size : Int32) (v_places : Nat → Int32) (v_p1_size : Int32) (v_p1_cells : Nat → Int32) (kh5_ : UInt32 × Int32 → Option UInt32) (v5_ : UInt32 × Int32) : Option UInt32 :=
  if v5_.2 < x2 then if v5_.2 < v_size then Option.bind (f_X2_secondsOf N v_size v_places v_p1_size v_p1_cells v5_.2) (fun (r2_ : UInt32) => Option.bind (zFad v5_.1 r2_) (fun (x3_ : UInt32) => Option.bind (some (v5_.2 + 1)) (fun (x4_ : Int32) => kh5_ (x3_, x4_)))) else some v5_.1 else some v5_.1
def f_X2_secondsUpTo (N : Nat) (v_size : Int32) (v_places : Nat → Int32) (v_p1_size : Int32) (v_p1_cells : Nat → Int32) (x2 : Int32) : Option UInt32 :=
  Option.bind (zLoop (f_X2_secondsUpTo_B5 N x2 v_size v_places v_p1_size v_p1_cells) N (FP.fconst0, 0)) (fun (r1_ : UInt32) => some r1_)
abbrev rm_X2_secondsUpTo : Room := { frames := 4, cells := 0, slots := 0, locals := 89 }
theorem zy_X2_secondsUpTo : zYv yX2_secondsUpTo RX2 cX2_secondsUpTo 5 (some .float) 2 := ⟨zw_634, zw_635, zw_77, zw_95, ⟨by decide, by decide⟩, by decide +kernel⟩
set_option maxHeartbeats 4000000 in
set_option maxRecDepth 100000 in
theorem k_X2_secondsUpTo (l : Launch) (N : Nat) (g : zEnv) (a_this a_places a_p1 a_p1_cells : Nat) (v_size : Int32) (v_places : Nat → Int32) (v_p1_size : Int32) (v_p1_cells : Nat → Int32) (x2 : Int32) (r : UInt32) (h : f_X2_secondsUpTo N v_size v_places v_p1_size v_p1_cells x2 = some r) : ZR l yX2_secondsUpTo cX2_secondsUpTo 5 (some .float) rm_X2_secondsUpTo g [.ref a_this, .ref a_p1, .int x2] [zo_X2 a_this a_places v_size, (a_places, .inl (zI g, 200, .inl v_places)), zo_X4 a_p1 a_p1_cells v_p1_size, (a_p1_cells, .inl (zI g, 912, .inl v_p1_cells))] (some (.float r)) := by
  refine zR_of (by decide) (Nat.le_of_ble_eq_true rfl) ?_
  intro p e s m below meth c A ls Q R F hRm hr hlocks hP hD hS hl hQ
  subst hRm
  have F : zF p m c cX2_secondsUpTo 5 s (([.ref a_this, .ref a_p1, .int x2] : List Value)).toArray RX2 g A := F
  have hx := F.1.1
  have hb := F.1.2.1
  have hz := F.1.2.2.2.2
  have hl : lv_has ls 5 [(0, .ref a_this), (1, .ref a_p1), (2, .int x2)] := hl
  unfold f_X2_secondsUpTo at h
  refine lv_fconst0 hx hb dX2_secondsUpTo_0 ?_
  refine lv_fstore_n (lv' := [(3, .float FP.fconst0), (0, .ref a_this), (1, .ref a_p1), (2, .int x2)]) hx hb dX2_secondsUpTo_1 rfl hl (by decide) rfl (fun ls hl => ?_)
  refine lv_iconst (v := 0) hx hb dX2_secondsUpTo_2 (by decide) ?_
  refine lv_istore (lv' := [(4, .int 0), (3, .float FP.fconst0), (0, .ref a_this), (1, .ref a_p1), (2, .int x2)]) hx hb dX2_secondsUpTo_3 hl (by decide) rfl (fun ls hl => ?_)
  obtain ⟨r1_, hA5_, h⟩ := z_bind h
  have k36_ : ∀ (ls : Array Slot), lv_has ls 5 [(3, .float r1_)] → W p l e rm_X2_secondsUpTo s m (([.ref a_this, .ref a_p1, .int x2] : List Value)).toArray below meth c s.heap [] 0 0 Q (F0 m 36 ls []) := by
    intro ls hl
    refine lv_fload_n hx hb dX2_secondsUpTo_36 rfl (lv_at hl 0 rfl) ?_
    obtain rfl := Option.some.inj h
    exact zR_f F hr hlocks hQ dX2_secondsUpTo_37
  have h := hA5_
  have l5_ : ∀ (n5_ : Nat) (v5_ : UInt32 × Int32), zLoop (f_X2_secondsUpTo_B5 N x2 v_size v_places v_p1_size v_p1_cells) n5_ v5_ = some r1_ → ∀ (ls : Array Slot), lv_has ls 5 [(0, .ref a_this), (1, .ref a_p1), (2, .int x2), (3, .float v5_.1), (4, .int v5_.2)] → W p l e rm_X2_secondsUpTo s m (([.ref a_this, .ref a_p1, .int x2] : List Value)).toArray below meth c s.heap [] 0 0 Q (F0 m 5 ls []) := by
    intro n5_
    induction n5_ with
    | zero => intro v5_ h; cases h
    | succ n5_ ih5_ =>
      intro v5_ h ls hl
      have h : f_X2_secondsUpTo_B5 N x2 v_size v_places v_p1_size v_p1_cells (zLoop (f_X2_secondsUpTo_B5 N x2 v_size v_places v_p1_size v_p1_cells) n5_) v5_ = some r1_ := h
      unfold f_X2_secondsUpTo_B5 at h
      refine lv_iload hx hb dX2_secondsUpTo_5 (lv_at hl 4 rfl) ?_
      refine lv_iload_n hx hb dX2_secondsUpTo_7 rfl (lv_at hl 2 rfl) ?_
      refine z_cge (tgt := 36) hx hb dX2_secondsUpTo_8 (by decide) h (fun h => ?_) (fun h => ?_)
      · obtain rfl := Option.some.inj h
        exact k36_ _ (lv_sub hl [3] rfl)
      · refine lv_iload hx hb dX2_secondsUpTo_11 (lv_at hl 4 rfl) ?_
        refine lv_aload_n hx hb dX2_secondsUpTo_13 rfl (lv_at hl 0 rfl) ?_
        refine z_get (C := RX2) (T := TX2) (N := 2) (ci := 1) F zu_wsX20 hP 0 rfl rfl 1 (by decide) zw_59 rfl dX2_secondsUpTo_14 ?_
        refine z_cge (tgt := 36) hx hb dX2_secondsUpTo_17 (by decide) h (fun h => ?_) (fun h => ?_)
        · obtain rfl := Option.some.inj h
          exact k36_ _ (lv_sub hl [3] rfl)
        · refine lv_fload_n hx hb dX2_secondsUpTo_20 rfl (lv_at hl 3 rfl) ?_
          refine lv_aload_n hx hb dX2_secondsUpTo_21 rfl (lv_at hl 0 rfl) ?_
          refine lv_aload_n hx hb dX2_secondsUpTo_22 rfl (lv_at hl 1 rfl) ?_
          refine lv_iload hx hb dX2_secondsUpTo_23 (lv_at hl 4 rfl) ?_
          obtain ⟨r2_, hr2_, h⟩ := z_bind h
          refine zRV F (k_X2_secondsOf l N g a_this a_places a_p1 a_p1_cells v_size v_places v_p1_size v_p1_cells v5_.2 _ hr2_) zy_X2_secondsOf zw_92 hP hD hS [0, 1, 2, 3] rfl rfl (q0 := 0) (he := rfl) (hc := rfl) (rest := [.float v5_.1]) rfl hl.1 rfl (Nat.le_of_ble_eq_true rfl) ⟨rfl, rfl⟩ ⟨Nat.le_of_ble_eq_true rfl, Nat.le_of_ble_eq_true rfl⟩ ⟨Nat.zero_le _, Nat.zero_le _⟩ dX2_secondsUpTo_25 (st1 := [.float r2_, .float v5_.1]) rfl ?_
          refine z_fad hx hb dX2_secondsUpTo_28 h (fun x3_ h => ?_)
          refine lv_fstore_n (lv' := [(3, .float x3_), (0, .ref a_this), (1, .ref a_p1), (2, .int x2), (4, .int v5_.2)]) hx hb dX2_secondsUpTo_29 rfl hl (by decide) rfl (fun ls hl => ?_)
          refine z_nm h (fun x4_ ex4_ h => ?_)
          refine lv_iinc (v := x4_) (lv' := [(4, .int x4_), (3, .float x3_), (0, .ref a_this), (1, .ref a_p1), (2, .int x2)]) hx hb dX2_secondsUpTo_30 hl (k := 4) rfl (by rw [ex4_]; rfl) (by decide) rfl (fun ls hl => ?_)
          refine lv_goto (tgt := 5) hx hb dX2_secondsUpTo_33 (by decide) ?_
          exact ih5_ _ h _ (lv_sub hl [2, 3, 4, 1, 0] rfl)
  exact l5_ N _ h _ (lv_sub hl [2, 3, 4, 1, 0] rfl)
def f_X2_placesBegunBy_B8 (N : Nat) (v_size : Int32) (x2 : UInt32) (v_places : Nat → Int32) (v_p1_size : Int32) (v_p1_cells : Nat → Int32) (kh8_ : Int32 × UInt32 × Int32 → Option Int32) (v8_ : Int32 × UInt32 × Int32) : Option Int32 :=
  if v_size < v8_.2.2 then some v8_.1 else if 0 < (Op.cmpValue (FP.fcmp v8_.2.1 x2) .g) then some v8_.1 else Option.bind (some (v8_.1 + 1)) (fun (x2_ : Int32) => Option.bind (if v8_.2.2 < v_size then Option.bind (f_X2_secondsOf N v_size v_places v_p1_size v_p1_cells v8_.2.2) (fun (r6_ : UInt32) => some r6_) else some FP.fconst0) (fun (r3_ : UInt32) => Option.bind (zFad v8_.2.1 r3_) (fun (x4_ : UInt32) => Option.bind (some (v8_.2.2 + 1)) (fun (x5_ : Int32) => kh8_ (x2_, x4_, x5_)))))
def f_X2_placesBegunBy (N : Nat) (v_size : Int32) (v_places : Nat → Int32) (v_p1_size : Int32) (v_p1_cells : Nat → Int32) (x2 : UInt32) : Option Int32 :=
  Option.bind (zLoop (f_X2_placesBegunBy_B8 N v_size x2 v_places v_p1_size v_p1_cells) N (0, FP.fconst0, 0)) (fun (r1_ : Int32) => some r1_)
abbrev rm_X2_placesBegunBy : Room := { frames := 4, cells := 0, slots := 0, locals := 89 }
theorem zy_X2_placesBegunBy : zYv yX2_placesBegunBy RX2 cX2_placesBegunBy 6 (some .int) 2 := ⟨zw_638, zw_639, zw_77, zw_96, ⟨by decide, by decide⟩, by decide +kernel⟩
set_option maxHeartbeats 4000000 in
set_option maxRecDepth 100000 in
theorem k_X2_placesBegunBy (l : Launch) (N : Nat) (g : zEnv) (a_this a_places a_p1 a_p1_cells : Nat) (v_size : Int32) (v_places : Nat → Int32) (v_p1_size : Int32) (v_p1_cells : Nat → Int32) (x2 : UInt32) (r : Int32) (h : f_X2_placesBegunBy N v_size v_places v_p1_size v_p1_cells x2 = some r) : ZR l yX2_placesBegunBy cX2_placesBegunBy 6 (some .int) rm_X2_placesBegunBy g [.ref a_this, .ref a_p1, .float x2] [zo_X2 a_this a_places v_size, (a_places, .inl (zI g, 200, .inl v_places)), zo_X4 a_p1 a_p1_cells v_p1_size, (a_p1_cells, .inl (zI g, 912, .inl v_p1_cells))] (some (.int r)) := by
  refine zR_of (by decide) (Nat.le_of_ble_eq_true rfl) ?_
  intro p e s m below meth c A ls Q R F hRm hr hlocks hP hD hS hl hQ
  subst hRm
  have F : zF p m c cX2_placesBegunBy 6 s (([.ref a_this, .ref a_p1, .float x2] : List Value)).toArray RX2 g A := F
  have hx := F.1.1
  have hb := F.1.2.1
  have hz := F.1.2.2.2.2
  have hl : lv_has ls 6 [(0, .ref a_this), (1, .ref a_p1), (2, .float x2)] := hl
  unfold f_X2_placesBegunBy at h
  refine lv_iconst (v := 0) hx hb dX2_placesBegunBy_0 (by decide) ?_
  refine lv_istore_n (lv' := [(3, .int 0), (0, .ref a_this), (1, .ref a_p1), (2, .float x2)]) hx hb dX2_placesBegunBy_1 rfl hl (by decide) rfl (fun ls hl => ?_)
  refine lv_fconst0 hx hb dX2_placesBegunBy_2 ?_
  refine lv_fstore (lv' := [(4, .float FP.fconst0), (3, .int 0), (0, .ref a_this), (1, .ref a_p1), (2, .float x2)]) hx hb dX2_placesBegunBy_3 hl (by decide) rfl (fun ls hl => ?_)
  refine lv_iconst (v := 0) hx hb dX2_placesBegunBy_5 (by decide) ?_
  refine lv_istore (lv' := [(5, .int 0), (4, .float FP.fconst0), (3, .int 0), (0, .ref a_this), (1, .ref a_p1), (2, .float x2)]) hx hb dX2_placesBegunBy_6 hl (by decide) rfl (fun ls hl => ?_)
  obtain ⟨r1_, hA8_, h⟩ := z_bind h
  have k58_ : ∀ (ls : Array Slot), lv_has ls 6 [(3, .int r1_)] → W p l e rm_X2_placesBegunBy s m (([.ref a_this, .ref a_p1, .float x2] : List Value)).toArray below meth c s.heap [] 0 0 Q (F0 m 58 ls []) := by
    intro ls hl
    refine lv_iload_n hx hb dX2_placesBegunBy_58 rfl (lv_at hl 0 rfl) ?_
    obtain rfl := Option.some.inj h
    exact zR_i F hr hlocks hQ dX2_placesBegunBy_59
  have h := hA8_
  have l8_ : ∀ (n8_ : Nat) (v8_ : Int32 × UInt32 × Int32), zLoop (f_X2_placesBegunBy_B8 N v_size x2 v_places v_p1_size v_p1_cells) n8_ v8_ = some r1_ → ∀ (ls : Array Slot), lv_has ls 6 [(0, .ref a_this), (1, .ref a_p1), (2, .float x2), (3, .int v8_.1), (4, .float v8_.2.1), (5, .int v8_.2.2)] → W p l e rm_X2_placesBegunBy s m (([.ref a_this, .ref a_p1, .float x2] : List Value)).toArray below meth c s.heap [] 0 0 Q (F0 m 8 ls []) := by
    intro n8_
    induction n8_ with
    | zero => intro v8_ h; cases h
    | succ n8_ ih8_ =>
      intro v8_ h ls hl
      have h : f_X2_placesBegunBy_B8 N v_size x2 v_places v_p1_size v_p1_cells (zLoop (f_X2_placesBegunBy_B8 N v_size x2 v_places v_p1_size v_p1_cells) n8_) v8_ = some r1_ := h
      unfold f_X2_placesBegunBy_B8 at h
      refine lv_iload hx hb dX2_placesBegunBy_8 (lv_at hl 5 rfl) ?_
      refine lv_aload_n hx hb dX2_placesBegunBy_10 rfl (lv_at hl 0 rfl) ?_
      refine z_get (C := RX2) (T := TX2) (N := 2) (ci := 1) F zu_wsX20 hP 0 rfl rfl 1 (by decide) zw_59 rfl dX2_placesBegunBy_11 ?_
      refine z_cgt (tgt := 58) hx hb dX2_placesBegunBy_14 (by decide) h (fun h => ?_) (fun h => ?_)
      · obtain rfl := Option.some.inj h
        exact k58_ _ (lv_sub hl [3] rfl)
      · refine lv_fload hx hb dX2_placesBegunBy_17 (lv_at hl 4 rfl) ?_
        refine lv_fload_n hx hb dX2_placesBegunBy_19 rfl (lv_at hl 2 rfl) ?_
        refine lv_fcmp hx hb dX2_placesBegunBy_20 ?_
        refine z_gt (tgt := 58) hx hb dX2_placesBegunBy_21 (by decide) h (fun h => ?_) (fun h => ?_)
        · obtain rfl := Option.some.inj h
          exact k58_ _ (lv_sub hl [3] rfl)
        · refine z_nm h (fun x2_ ex2_ h => ?_)
          refine lv_iinc (v := x2_) (lv' := [(3, .int x2_), (0, .ref a_this), (1, .ref a_p1), (2, .float x2), (4, .float v8_.2.1), (5, .int v8_.2.2)]) hx hb dX2_placesBegunBy_24 hl (k := 3) rfl (by rw [ex2_]; rfl) (by decide) rfl (fun ls hl => ?_)
          refine lv_fload hx hb dX2_placesBegunBy_27 (lv_at hl 4 rfl) ?_
          refine lv_iload hx hb dX2_placesBegunBy_29 (lv_at hl 5 rfl) ?_
          refine lv_aload_n hx hb dX2_placesBegunBy_31 rfl (lv_at hl 1 rfl) ?_
          refine z_get (C := RX2) (T := TX2) (N := 2) (ci := 1) F zu_wsX20 hP 0 rfl rfl 1 (by decide) zw_59 rfl dX2_placesBegunBy_32 ?_
          obtain ⟨r3_, hA49_, h⟩ := z_bind h
          have k49_ : ∀ (ls : Array Slot), lv_has ls 6 [(0, .ref a_this), (1, .ref a_p1), (2, .float x2), (3, .int x2_), (5, .int v8_.2.2)] → W p l e rm_X2_placesBegunBy s m (([.ref a_this, .ref a_p1, .float x2] : List Value)).toArray below meth c s.heap [] 0 0 Q (F0 m 49 ls [.float r3_, .float v8_.2.1]) := by
            intro ls hl
            refine z_fad hx hb dX2_placesBegunBy_49 h (fun x4_ h => ?_)
            refine lv_fstore (lv' := [(4, .float x4_), (0, .ref a_this), (1, .ref a_p1), (2, .float x2), (3, .int x2_), (5, .int v8_.2.2)]) hx hb dX2_placesBegunBy_50 hl (by decide) rfl (fun ls hl => ?_)
            refine z_nm h (fun x5_ ex5_ h => ?_)
            refine lv_iinc (v := x5_) (lv' := [(5, .int x5_), (4, .float x4_), (0, .ref a_this), (1, .ref a_p1), (2, .float x2), (3, .int x2_)]) hx hb dX2_placesBegunBy_52 hl (k := 5) rfl (by rw [ex5_]; rfl) (by decide) rfl (fun ls hl => ?_)
            refine lv_goto (tgt := 8) hx hb dX2_placesBegunBy_55 (by decide) ?_
            exact ih8_ _ h _ (lv_sub hl [2, 3, 4, 5, 1, 0] rfl)
          have h := hA49_
          refine z_cge (tgt := 48) hx hb dX2_placesBegunBy_35 (by decide) h (fun h => ?_) (fun h => ?_)
          · refine lv_fconst0 hx hb dX2_placesBegunBy_48 ?_
            obtain rfl := Option.some.inj h
            exact k49_ _ (lv_sub hl [1, 2, 3, 0, 5] rfl)
          · refine lv_aload_n hx hb dX2_placesBegunBy_38 rfl (lv_at hl 1 rfl) ?_
            refine lv_aload_n hx hb dX2_placesBegunBy_39 rfl (lv_at hl 2 rfl) ?_
            refine lv_iload hx hb dX2_placesBegunBy_40 (lv_at hl 5 rfl) ?_
            obtain ⟨r6_, hr6_, h⟩ := z_bind h
            refine zRV F (k_X2_secondsOf l N g a_this a_places a_p1 a_p1_cells v_size v_places v_p1_size v_p1_cells v8_.2.2 _ hr6_) zy_X2_secondsOf zw_92 hP hD hS [0, 1, 2, 3] rfl rfl (q0 := 0) (he := rfl) (hc := rfl) (rest := [.float v8_.2.1]) rfl hl.1 rfl (Nat.le_of_ble_eq_true rfl) ⟨rfl, rfl⟩ ⟨Nat.le_of_ble_eq_true rfl, Nat.le_of_ble_eq_true rfl⟩ ⟨Nat.zero_le _, Nat.zero_le _⟩ dX2_placesBegunBy_42 (st1 := [.float r6_, .float v8_.2.1]) rfl ?_
            refine lv_goto (tgt := 49) hx hb dX2_placesBegunBy_45 (by decide) ?_
            obtain rfl := Option.some.inj h
            exact k49_ _ (lv_sub hl [1, 2, 3, 0, 5] rfl)
  exact l8_ N _ h _ (lv_sub hl [3, 4, 5, 2, 1, 0] rfl)
