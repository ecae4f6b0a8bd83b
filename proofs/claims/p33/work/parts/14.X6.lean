def f_X6_slot (N : Nat) (x0 : Int32) (x1 : Int32) (x2 : Int32) : Option Int32 :=
  Option.bind (if x0 < 0 then some 0 else if x0 < 16 then if x1 < 0 then some 0 else if x1 < 2 then if x2 < 0 then some 0 else if x2 < 24 then some 1 else some 0 else some 0 else some 0) (fun (r1_ : Int32) => if r1_ = 0 then some (-1) else some ((((x0 * 2) + x1) * 24) + x2))
abbrev rm_X6_slot : Room := { frames := 0, cells := 0, slots := 0, locals := 0 }
theorem zy_X6_slot : zYs yX6_slot cX6_slot 4 (some .int) 3 := ⟨zw_403, zw_404, zw_401, ⟨by decide, by decide⟩, by decide +kernel⟩
set_option maxHeartbeats 4000000 in
set_option maxRecDepth 100000 in
theorem k_X6_slot (l : Launch) (N : Nat) (g : zEnv) (x0 : Int32) (x1 : Int32) (x2 : Int32) (r : Int32) (h : f_X6_slot N x0 x1 x2 = some r) : ZR l yX6_slot cX6_slot 4 (some .int) rm_X6_slot g [.int x0, .int x1, .int x2] [] (some (.int r)) := by
  refine zR_of (by decide) (Nat.le_of_ble_eq_true rfl) ?_
  intro p e s m below meth c A ls Q R F hRm hr hlocks hP hD hS hl hQ
  subst hRm
  have F : zF p m c cX6_slot 4 s (([.int x0, .int x1, .int x2] : List Value)).toArray RX6 g A := F
  have hx := F.1.1
  have hb := F.1.2.1
  have hz := F.1.2.2.2.2
  have hl : lv_has ls 4 [(0, .int x0), (1, .int x1), (2, .int x2)] := hl
  unfold f_X6_slot at h
  refine lv_iload_n hx hb dX6_slot_0 rfl (lv_at hl 0 rfl) ?_
  obtain ⟨r1_, hA34_, h⟩ := z_bind h
  have k34_ : ∀ (ls : Array Slot), lv_has ls 4 [(0, .int x0), (1, .int x1), (2, .int x2)] → W p l e rm_X6_slot s m (([.int x0, .int x1, .int x2] : List Value)).toArray below meth c s.heap [] 0 0 Q (F0 m 34 ls [.int r1_]) := by
    intro ls hl
    refine lv_istore_n (lv' := [(3, .int r1_), (0, .int x0), (1, .int x1), (2, .int x2)]) hx hb dX6_slot_34 rfl hl (by decide) rfl (fun ls hl => ?_)
    refine lv_iload_n hx hb dX6_slot_35 rfl (lv_at hl 0 rfl) ?_
    refine z_eq (tgt := 52) hx hb dX6_slot_36 (by decide) h (fun h => ?_) (fun h => ?_)
    · refine lv_iconst (v := (-1)) hx hb dX6_slot_52 (by decide) ?_
      obtain rfl := Option.some.inj h
      exact zR_i F hr hlocks hQ dX6_slot_53
    · refine lv_iload_n hx hb dX6_slot_39 rfl (lv_at hl 1 rfl) ?_
      refine lv_iconst (v := 2) hx hb dX6_slot_40 (by decide) ?_
      refine lv_imul hx hb dX6_slot_41 ?_
      refine lv_iload_n hx hb dX6_slot_42 rfl (lv_at hl 2 rfl) ?_
      refine lv_iadd hx hb dX6_slot_43 ?_
      refine lv_bipush (v := 24) hx hb dX6_slot_44 (by decide) ?_
      refine lv_imul hx hb dX6_slot_46 ?_
      refine lv_iload_n hx hb dX6_slot_47 rfl (lv_at hl 3 rfl) ?_
      refine lv_iadd hx hb dX6_slot_48 ?_
      refine lv_goto (tgt := 53) hx hb dX6_slot_49 (by decide) ?_
      obtain rfl := Option.some.inj h
      exact zR_i F hr hlocks hQ dX6_slot_53
  have h := hA34_
  refine z_lt (tgt := 33) hx hb dX6_slot_1 (by decide) h (fun h => ?_) (fun h => ?_)
  · refine lv_iconst (v := 0) hx hb dX6_slot_33 (by decide) ?_
    obtain rfl := Option.some.inj h
    exact k34_ _ (lv_sub hl [0, 1, 2] rfl)
  · refine lv_iload_n hx hb dX6_slot_4 rfl (lv_at hl 0 rfl) ?_
    refine lv_bipush (v := 16) hx hb dX6_slot_5 (by decide) ?_
    refine z_cge (tgt := 33) hx hb dX6_slot_7 (by decide) h (fun h => ?_) (fun h => ?_)
    · refine lv_iconst (v := 0) hx hb dX6_slot_33 (by decide) ?_
      obtain rfl := Option.some.inj h
      exact k34_ _ (lv_sub hl [0, 1, 2] rfl)
    · refine lv_iload_n hx hb dX6_slot_10 rfl (lv_at hl 1 rfl) ?_
      refine z_lt (tgt := 33) hx hb dX6_slot_11 (by decide) h (fun h => ?_) (fun h => ?_)
      · refine lv_iconst (v := 0) hx hb dX6_slot_33 (by decide) ?_
        obtain rfl := Option.some.inj h
        exact k34_ _ (lv_sub hl [0, 1, 2] rfl)
      · refine lv_iload_n hx hb dX6_slot_14 rfl (lv_at hl 1 rfl) ?_
        refine lv_iconst (v := 2) hx hb dX6_slot_15 (by decide) ?_
        refine z_cge (tgt := 33) hx hb dX6_slot_16 (by decide) h (fun h => ?_) (fun h => ?_)
        · refine lv_iconst (v := 0) hx hb dX6_slot_33 (by decide) ?_
          obtain rfl := Option.some.inj h
          exact k34_ _ (lv_sub hl [0, 1, 2] rfl)
        · refine lv_iload_n hx hb dX6_slot_19 rfl (lv_at hl 2 rfl) ?_
          refine z_lt (tgt := 33) hx hb dX6_slot_20 (by decide) h (fun h => ?_) (fun h => ?_)
          · refine lv_iconst (v := 0) hx hb dX6_slot_33 (by decide) ?_
            obtain rfl := Option.some.inj h
            exact k34_ _ (lv_sub hl [0, 1, 2] rfl)
          · refine lv_iload_n hx hb dX6_slot_23 rfl (lv_at hl 2 rfl) ?_
            refine lv_bipush (v := 24) hx hb dX6_slot_24 (by decide) ?_
            refine z_cge (tgt := 33) hx hb dX6_slot_26 (by decide) h (fun h => ?_) (fun h => ?_)
            · refine lv_iconst (v := 0) hx hb dX6_slot_33 (by decide) ?_
              obtain rfl := Option.some.inj h
              exact k34_ _ (lv_sub hl [0, 1, 2] rfl)
            · refine lv_iconst (v := 1) hx hb dX6_slot_29 (by decide) ?_
              refine lv_goto (tgt := 34) hx hb dX6_slot_30 (by decide) ?_
              obtain rfl := Option.some.inj h
              exact k34_ _ (lv_sub hl [0, 1, 2] rfl)
def f_X6_shift (N : Nat) (v_shifts : Nat → Int32) (x1 : Int32) (x2 : Int32) (x3 : Int32) : Option Int32 :=
  Option.bind (f_X6_slot N x1 x2 x3) (fun (r1_ : Int32) => if r1_ < 0 then some 0 else Option.bind (zAld v_shifts 768 r1_) (fun (x2_ : Int32) => some x2_))
abbrev rm_X6_shift : Room := { frames := 1, cells := 0, slots := 0, locals := 23 }
theorem zy_X6_shift : zYv yX6_shift RX6 cX6_shift 5 (some .int) 3 := ⟨zw_418, zw_419, zw_404, zw_405, ⟨by decide, by decide⟩, by decide +kernel⟩
set_option maxHeartbeats 4000000 in
set_option maxRecDepth 100000 in
theorem k_X6_shift (l : Launch) (N : Nat) (g : zEnv) (a_this a_score a_shifts a_heldTicks : Nat) (v_shifts : Nat → Int32) (x1 : Int32) (x2 : Int32) (x3 : Int32) (r : Int32) (h : f_X6_shift N v_shifts x1 x2 x3 = some r) : ZR l yX6_shift cX6_shift 5 (some .int) rm_X6_shift g [.ref a_this, .int x1, .int x2, .int x3] [zo_X6 a_this a_score a_shifts a_heldTicks, (a_shifts, .inl (zI g, 768, .inl v_shifts))] (some (.int r)) := by
  refine zR_of (by decide) (Nat.le_of_ble_eq_true rfl) ?_
  intro p e s m below meth c A ls Q R F hRm hr hlocks hP hD hS hl hQ
  subst hRm
  have F : zF p m c cX6_shift 5 s (([.ref a_this, .int x1, .int x2, .int x3] : List Value)).toArray RX6 g A := F
  have hx := F.1.1
  have hb := F.1.2.1
  have hz := F.1.2.2.2.2
  have hl : lv_has ls 5 [(0, .ref a_this), (1, .int x1), (2, .int x2), (3, .int x3)] := hl
  unfold f_X6_shift at h
  refine lv_iload_n hx hb dX6_shift_0 rfl (lv_at hl 1 rfl) ?_
  refine lv_iload_n hx hb dX6_shift_1 rfl (lv_at hl 2 rfl) ?_
  refine lv_iload_n hx hb dX6_shift_2 rfl (lv_at hl 3 rfl) ?_
  obtain ⟨r1_, hr1_, h⟩ := z_bind h
  refine zRS F (k_X6_slot l N g x1 x2 x3 _ hr1_) zy_X6_slot zw_402 hP hD hS [] rfl rfl (rest := []) rfl hl.1 rfl (Nat.le_of_ble_eq_true rfl) ⟨rfl, rfl⟩ ⟨Nat.le_of_ble_eq_true rfl, Nat.le_of_ble_eq_true rfl⟩ ⟨Nat.zero_le _, Nat.zero_le _⟩ dX6_shift_3 (st1 := [.int r1_]) rfl ?_
  refine lv_istore (lv' := [(4, .int r1_), (0, .ref a_this), (1, .int x1), (2, .int x2), (3, .int x3)]) hx hb dX6_shift_6 hl (by decide) rfl (fun ls hl => ?_)
  refine lv_iload hx hb dX6_shift_8 (lv_at hl 0 rfl) ?_
  refine z_lt (tgt := 23) hx hb dX6_shift_10 (by decide) h (fun h => ?_) (fun h => ?_)
  · refine lv_iconst (v := 0) hx hb dX6_shift_23 (by decide) ?_
    obtain rfl := Option.some.inj h
    exact zR_i F hr hlocks hQ dX6_shift_24
  · refine lv_aload_n hx hb dX6_shift_13 rfl (lv_at hl 1 rfl) ?_
    refine z_get (C := RX6) (T := TX6) (N := 3) (ci := 5) F zu_wsX60 hP 0 rfl rfl 1 (by decide) zw_397 rfl dX6_shift_14 ?_
    refine lv_iload hx hb dX6_shift_17 (lv_at hl 0 rfl) ?_
    refine z_iald F hP 1 rfl dX6_shift_19 h (fun x2_ h => ?_)
    refine lv_goto (tgt := 24) hx hb dX6_shift_20 (by decide) ?_
    obtain rfl := Option.some.inj h
    exact zR_i F hr hlocks hQ dX6_shift_24
def f_X6_held (N : Nat) (v_heldTicks : Nat → Int32) (x1 : Int32) (x2 : Int32) (x3 : Int32) : Option Int32 :=
  Option.bind (f_X6_slot N x1 x2 x3) (fun (r1_ : Int32) => if r1_ < 0 then some 0 else Option.bind (zAld v_heldTicks 768 r1_) (fun (x2_ : Int32) => some x2_))
abbrev rm_X6_held : Room := { frames := 1, cells := 0, slots := 0, locals := 23 }
theorem zy_X6_held : zYv yX6_held RX6 cX6_held 5 (some .int) 3 := ⟨zw_410, zw_411, zw_404, zw_406, ⟨by decide, by decide⟩, by decide +kernel⟩
set_option maxHeartbeats 4000000 in
set_option maxRecDepth 100000 in
theorem k_X6_held (l : Launch) (N : Nat) (g : zEnv) (a_this a_score a_shifts a_heldTicks : Nat) (v_heldTicks : Nat → Int32) (x1 : Int32) (x2 : Int32) (x3 : Int32) (r : Int32) (h : f_X6_held N v_heldTicks x1 x2 x3 = some r) : ZR l yX6_held cX6_held 5 (some .int) rm_X6_held g [.ref a_this, .int x1, .int x2, .int x3] [zo_X6 a_this a_score a_shifts a_heldTicks, (a_heldTicks, .inl (zI g, 768, .inl v_heldTicks))] (some (.int r)) := by
  refine zR_of (by decide) (Nat.le_of_ble_eq_true rfl) ?_
  intro p e s m below meth c A ls Q R F hRm hr hlocks hP hD hS hl hQ
  subst hRm
  have F : zF p m c cX6_held 5 s (([.ref a_this, .int x1, .int x2, .int x3] : List Value)).toArray RX6 g A := F
  have hx := F.1.1
  have hb := F.1.2.1
  have hz := F.1.2.2.2.2
  have hl : lv_has ls 5 [(0, .ref a_this), (1, .int x1), (2, .int x2), (3, .int x3)] := hl
  unfold f_X6_held at h
  refine lv_iload_n hx hb dX6_held_0 rfl (lv_at hl 1 rfl) ?_
  refine lv_iload_n hx hb dX6_held_1 rfl (lv_at hl 2 rfl) ?_
  refine lv_iload_n hx hb dX6_held_2 rfl (lv_at hl 3 rfl) ?_
  obtain ⟨r1_, hr1_, h⟩ := z_bind h
  refine zRS F (k_X6_slot l N g x1 x2 x3 _ hr1_) zy_X6_slot zw_402 hP hD hS [] rfl rfl (rest := []) rfl hl.1 rfl (Nat.le_of_ble_eq_true rfl) ⟨rfl, rfl⟩ ⟨Nat.le_of_ble_eq_true rfl, Nat.le_of_ble_eq_true rfl⟩ ⟨Nat.zero_le _, Nat.zero_le _⟩ dX6_held_3 (st1 := [.int r1_]) rfl ?_
  refine lv_istore (lv' := [(4, .int r1_), (0, .ref a_this), (1, .int x1), (2, .int x2), (3, .int x3)]) hx hb dX6_held_6 hl (by decide) rfl (fun ls hl => ?_)
  refine lv_iload hx hb dX6_held_8 (lv_at hl 0 rfl) ?_
  refine z_lt (tgt := 23) hx hb dX6_held_10 (by decide) h (fun h => ?_) (fun h => ?_)
  · refine lv_iconst (v := 0) hx hb dX6_held_23 (by decide) ?_
    obtain rfl := Option.some.inj h
    exact zR_i F hr hlocks hQ dX6_held_24
  · refine lv_aload_n hx hb dX6_held_13 rfl (lv_at hl 1 rfl) ?_
    refine z_get (C := RX6) (T := TX6) (N := 3) (ci := 5) F zu_wsX60 hP 0 rfl rfl 2 (by decide) zw_398 rfl dX6_held_14 ?_
    refine lv_iload hx hb dX6_held_17 (lv_at hl 0 rfl) ?_
    refine z_iald F hP 1 rfl dX6_held_19 h (fun x2_ h => ?_)
    refine lv_goto (tgt := 24) hx hb dX6_held_20 (by decide) ?_
    obtain rfl := Option.some.inj h
    exact zR_i F hr hlocks hQ dX6_held_24
def f_X6_isBrokenTie (N : Nat) (v_heldTicks : Nat → Int32) (v_score_size : Int32) (v_score_cells : Nat → Int32) (x1 : Int32) (x2 : Int32) (x3 : Int32) : Option Int32 :=
  Option.bind (f_X4_code N v_score_size v_score_cells x1 x2 x3) (fun (r1_ : Int32) => Option.bind (f_X0_isTied N r1_) (fun (r2_ : Int32) => if r2_ = 0 then some 0 else Option.bind (f_X6_held N v_heldTicks x1 x2 x3) (fun (r3_ : Int32) => Option.bind (f_X0_ticksOf N r1_) (fun (r4_ : Int32) => if r3_ = r4_ then some 1 else some 0))))
abbrev rm_X6_isBrokenTie : Room := { frames := 2, cells := 0, slots := 0, locals := 47 }
theorem zy_X6_isBrokenTie : zYv yX6_isBrokenTie RX6 cX6_isBrokenTie 5 (some .boolean) 3 := ⟨zw_589, zw_590, zw_404, zw_413, ⟨by decide, by decide⟩, by decide +kernel⟩
set_option maxHeartbeats 4000000 in
set_option maxRecDepth 100000 in
theorem k_X6_isBrokenTie (l : Launch) (N : Nat) (g : zEnv) (a_this a_score a_shifts a_heldTicks a_score_cells : Nat) (v_heldTicks : Nat → Int32) (v_score_size : Int32) (v_score_cells : Nat → Int32) (x1 : Int32) (x2 : Int32) (x3 : Int32) (r : Int32) (h : f_X6_isBrokenTie N v_heldTicks v_score_size v_score_cells x1 x2 x3 = some r) : ZR l yX6_isBrokenTie cX6_isBrokenTie 5 (some .boolean) rm_X6_isBrokenTie g [.ref a_this, .int x1, .int x2, .int x3] [zo_X6 a_this a_score a_shifts a_heldTicks, (a_heldTicks, .inl (zI g, 768, .inl v_heldTicks)), zo_X4 a_score a_score_cells v_score_size, (a_score_cells, .inl (zI g, 912, .inl v_score_cells))] (some (.int r)) := by
  refine zR_of (by decide) (Nat.le_of_ble_eq_true rfl) ?_
  intro p e s m below meth c A ls Q R F hRm hr hlocks hP hD hS hl hQ
  subst hRm
  have F : zF p m c cX6_isBrokenTie 5 s (([.ref a_this, .int x1, .int x2, .int x3] : List Value)).toArray RX6 g A := F
  have hx := F.1.1
  have hb := F.1.2.1
  have hz := F.1.2.2.2.2
  have hl : lv_has ls 5 [(0, .ref a_this), (1, .int x1), (2, .int x2), (3, .int x3)] := hl
  unfold f_X6_isBrokenTie at h
  refine lv_aload_n hx hb dX6_isBrokenTie_0 rfl (lv_at hl 0 rfl) ?_
  refine z_get (C := RX6) (T := TX6) (N := 3) (ci := 5) F zu_wsX60 hP 0 rfl rfl 0 (by decide) zw_399 rfl dX6_isBrokenTie_1 ?_
  refine lv_iload_n hx hb dX6_isBrokenTie_4 rfl (lv_at hl 1 rfl) ?_
  refine lv_iload_n hx hb dX6_isBrokenTie_5 rfl (lv_at hl 2 rfl) ?_
  refine lv_iload_n hx hb dX6_isBrokenTie_6 rfl (lv_at hl 3 rfl) ?_
  obtain ⟨r1_, hr1_, h⟩ := z_bind h
  refine zRV F (k_X4_code l N g a_score a_score_cells v_score_size v_score_cells x1 x2 x3 _ hr1_) zy_X4_code zw_407 hP hD hS [2, 3] rfl rfl (q0 := 2) (he := rfl) (hc := rfl) (rest := []) rfl hl.1 rfl (Nat.le_of_ble_eq_true rfl) ⟨rfl, rfl⟩ ⟨Nat.le_of_ble_eq_true rfl, Nat.le_of_ble_eq_true rfl⟩ ⟨Nat.zero_le _, Nat.zero_le _⟩ dX6_isBrokenTie_7 (st1 := [.int r1_]) rfl ?_
  refine lv_istore (lv' := [(4, .int r1_), (0, .ref a_this), (1, .int x1), (2, .int x2), (3, .int x3)]) hx hb dX6_isBrokenTie_10 hl (by decide) rfl (fun ls hl => ?_)
  refine lv_iload hx hb dX6_isBrokenTie_12 (lv_at hl 0 rfl) ?_
  obtain ⟨r2_, hr2_, h⟩ := z_bind h
  refine zRS F (k_X0_isTied l N g r1_ _ hr2_) zy_X0_isTied zw_408 hP hD hS [] rfl rfl (rest := []) rfl hl.1 rfl (Nat.le_of_ble_eq_true rfl) ⟨rfl, rfl⟩ ⟨Nat.le_of_ble_eq_true rfl, Nat.le_of_ble_eq_true rfl⟩ ⟨Nat.zero_le _, Nat.zero_le _⟩ dX6_isBrokenTie_14 (st1 := [.int r2_]) rfl ?_
  refine z_eq (tgt := 39) hx hb dX6_isBrokenTie_17 (by decide) h (fun h => ?_) (fun h => ?_)
  · refine lv_iconst (v := 0) hx hb dX6_isBrokenTie_39 (by decide) ?_
    obtain rfl := Option.some.inj h
    exact zR_n F hr hlocks hQ rfl dX6_isBrokenTie_40
  · refine lv_aload_n hx hb dX6_isBrokenTie_20 rfl (lv_at hl 1 rfl) ?_
    refine lv_iload_n hx hb dX6_isBrokenTie_21 rfl (lv_at hl 2 rfl) ?_
    refine lv_iload_n hx hb dX6_isBrokenTie_22 rfl (lv_at hl 3 rfl) ?_
    refine lv_iload_n hx hb dX6_isBrokenTie_23 rfl (lv_at hl 4 rfl) ?_
    obtain ⟨r3_, hr3_, h⟩ := z_bind h
    refine zRV F (k_X6_held l N g a_this a_score a_shifts a_heldTicks v_heldTicks x1 x2 x3 _ hr3_) zy_X6_held zw_409 hP hD hS [0, 1] rfl rfl (q0 := 0) (he := rfl) (hc := rfl) (rest := []) rfl hl.1 rfl (Nat.le_of_ble_eq_true rfl) ⟨rfl, rfl⟩ ⟨Nat.le_of_ble_eq_true rfl, Nat.le_of_ble_eq_true rfl⟩ ⟨Nat.zero_le _, Nat.zero_le _⟩ dX6_isBrokenTie_24 (st1 := [.int r3_]) rfl ?_
    refine lv_iload hx hb dX6_isBrokenTie_27 (lv_at hl 0 rfl) ?_
    obtain ⟨r4_, hr4_, h⟩ := z_bind h
    refine zRS F (k_X0_ticksOf l N g r1_ _ hr4_) zy_X0_ticksOf zw_412 hP hD hS [] rfl rfl (rest := [.int r3_]) rfl hl.1 rfl (Nat.le_of_ble_eq_true rfl) ⟨rfl, rfl⟩ ⟨Nat.le_of_ble_eq_true rfl, Nat.le_of_ble_eq_true rfl⟩ ⟨Nat.zero_le _, Nat.zero_le _⟩ dX6_isBrokenTie_29 (st1 := [.int r4_, .int r3_]) rfl ?_
    refine z_cne (tgt := 39) hx hb dX6_isBrokenTie_32 (by decide) h (fun h => ?_) (fun h => ?_)
    · refine lv_iconst (v := 0) hx hb dX6_isBrokenTie_39 (by decide) ?_
      obtain rfl := Option.some.inj h
      exact zR_n F hr hlocks hQ rfl dX6_isBrokenTie_40
    · refine lv_iconst (v := 1) hx hb dX6_isBrokenTie_35 (by decide) ?_
      refine lv_goto (tgt := 40) hx hb dX6_isBrokenTie_36 (by decide) ?_
      obtain rfl := Option.some.inj h
      exact zR_n F hr hlocks hQ rfl dX6_isBrokenTie_40
def f_X6_sounding (N : Nat) (v_score_size : Int32) (v_shifts : Nat → Int32) (v_score_cells : Nat → Int32) (x1 : Int32) (x2 : Int32) (x3 : Int32) : Option Int32 :=
  Option.bind (f_X4_code N v_score_size v_score_cells x1 x2 x3) (fun (r1_ : Int32) => Option.bind (f_X0_stepOf N r1_) (fun (r2_ : Int32) => Option.bind (if r2_ < 0 then some 0 else if r2_ < 7 then Option.bind (zAld (zTab 0) 7 r2_) (fun (x6_ : Int32) => some x6_) else some 0) (fun (r3_ : Int32) => Option.bind (f_X0_octaveOf N r1_) (fun (r4_ : Int32) => Option.bind (f_X6_shift N v_shifts x1 x2 x3) (fun (r5_ : Int32) => some (((12 * r4_) + r3_) + r5_))))))
abbrev rm_X6_sounding : Room := { frames := 2, cells := 0, slots := 0, locals := 47 }
theorem zy_X6_sounding : zYv yX6_sounding RX6 cX6_sounding 7 (some .int) 3 := ⟨zw_463, zw_464, zw_404, zw_420, ⟨by decide, by decide⟩, by decide +kernel⟩
set_option maxHeartbeats 4000000 in
set_option maxRecDepth 100000 in
theorem k_X6_sounding (l : Launch) (N : Nat) (g : zEnv) (a_this a_score a_shifts a_heldTicks a_score_cells : Nat) (v_score_size : Int32) (v_shifts : Nat → Int32) (v_score_cells : Nat → Int32) (x1 : Int32) (x2 : Int32) (x3 : Int32) (r : Int32) (h : f_X6_sounding N v_score_size v_shifts v_score_cells x1 x2 x3 = some r) : ZR l yX6_sounding cX6_sounding 7 (some .int) rm_X6_sounding g [.ref a_this, .int x1, .int x2, .int x3] [zo_X6 a_this a_score a_shifts a_heldTicks, zo_X4 a_score a_score_cells v_score_size, (a_shifts, .inl (zI g, 768, .inl v_shifts)), (a_score_cells, .inl (zI g, 912, .inl v_score_cells))] (some (.int r)) := by
  refine zR_of (by decide) (Nat.le_of_ble_eq_true rfl) ?_
  intro p e s m below meth c A ls Q R F hRm hr hlocks hP hD hS hl hQ
  subst hRm
  have F : zF p m c cX6_sounding 7 s (([.ref a_this, .int x1, .int x2, .int x3] : List Value)).toArray RX6 g A := F
  have hx := F.1.1
  have hb := F.1.2.1
  have hz := F.1.2.2.2.2
  have hl : lv_has ls 7 [(0, .ref a_this), (1, .int x1), (2, .int x2), (3, .int x3)] := hl
  unfold f_X6_sounding at h
  refine lv_aload_n hx hb dX6_sounding_0 rfl (lv_at hl 0 rfl) ?_
  refine z_get (C := RX6) (T := TX6) (N := 3) (ci := 5) F zu_wsX60 hP 0 rfl rfl 0 (by decide) zw_399 rfl dX6_sounding_1 ?_
  refine lv_iload_n hx hb dX6_sounding_4 rfl (lv_at hl 1 rfl) ?_
  refine lv_iload_n hx hb dX6_sounding_5 rfl (lv_at hl 2 rfl) ?_
  refine lv_iload_n hx hb dX6_sounding_6 rfl (lv_at hl 3 rfl) ?_
  obtain ⟨r1_, hr1_, h⟩ := z_bind h
  refine zRV F (k_X4_code l N g a_score a_score_cells v_score_size v_score_cells x1 x2 x3 _ hr1_) zy_X4_code zw_407 hP hD hS [1, 3] rfl rfl (q0 := 1) (he := rfl) (hc := rfl) (rest := []) rfl hl.1 rfl (Nat.le_of_ble_eq_true rfl) ⟨rfl, rfl⟩ ⟨Nat.le_of_ble_eq_true rfl, Nat.le_of_ble_eq_true rfl⟩ ⟨Nat.zero_le _, Nat.zero_le _⟩ dX6_sounding_7 (st1 := [.int r1_]) rfl ?_
  refine lv_istore (lv' := [(4, .int r1_), (0, .ref a_this), (1, .int x1), (2, .int x2), (3, .int x3)]) hx hb dX6_sounding_10 hl (by decide) rfl (fun ls hl => ?_)
  refine lv_iload hx hb dX6_sounding_12 (lv_at hl 0 rfl) ?_
  obtain ⟨r2_, hr2_, h⟩ := z_bind h
  refine zRS F (k_X0_stepOf l N g r1_ _ hr2_) zy_X0_stepOf zw_415 hP hD hS [] rfl rfl (rest := []) rfl hl.1 rfl (Nat.le_of_ble_eq_true rfl) ⟨rfl, rfl⟩ ⟨Nat.le_of_ble_eq_true rfl, Nat.le_of_ble_eq_true rfl⟩ ⟨Nat.zero_le _, Nat.zero_le _⟩ dX6_sounding_14 (st1 := [.int r2_]) rfl ?_
  refine lv_istore (lv' := [(5, .int r2_), (4, .int r1_), (0, .ref a_this), (1, .int x1), (2, .int x2), (3, .int x3)]) hx hb dX6_sounding_17 hl (by decide) rfl (fun ls hl => ?_)
  refine lv_iload hx hb dX6_sounding_19 (lv_at hl 0 rfl) ?_
  obtain ⟨r3_, hA43_, h⟩ := z_bind h
  have k43_ : ∀ (ls : Array Slot), lv_has ls 7 [(0, .ref a_this), (1, .int x1), (2, .int x2), (3, .int x3), (4, .int r1_)] → W p l e rm_X6_sounding s m (([.ref a_this, .int x1, .int x2, .int x3] : List Value)).toArray below meth c s.heap [] 0 0 Q (F0 m 43 ls [.int r3_]) := by
    intro ls hl
    refine lv_istore (lv' := [(6, .int r3_), (0, .ref a_this), (1, .int x1), (2, .int x2), (3, .int x3), (4, .int r1_)]) hx hb dX6_sounding_43 hl (by decide) rfl (fun ls hl => ?_)
    refine lv_bipush (v := 12) hx hb dX6_sounding_45 (by decide) ?_
    refine lv_iload hx hb dX6_sounding_47 (lv_at hl 5 rfl) ?_
    obtain ⟨r4_, hr4_, h⟩ := z_bind h
    refine zRS F (k_X0_octaveOf l N g r1_ _ hr4_) zy_X0_octaveOf zw_416 hP hD hS [] rfl rfl (rest := [.int 12]) rfl hl.1 rfl (Nat.le_of_ble_eq_true rfl) ⟨rfl, rfl⟩ ⟨Nat.le_of_ble_eq_true rfl, Nat.le_of_ble_eq_true rfl⟩ ⟨Nat.zero_le _, Nat.zero_le _⟩ dX6_sounding_49 (st1 := [.int r4_, .int 12]) rfl ?_
    refine lv_imul hx hb dX6_sounding_52 ?_
    refine lv_iload hx hb dX6_sounding_53 (lv_at hl 0 rfl) ?_
    refine lv_iadd hx hb dX6_sounding_55 ?_
    refine lv_aload_n hx hb dX6_sounding_56 rfl (lv_at hl 1 rfl) ?_
    refine lv_iload_n hx hb dX6_sounding_57 rfl (lv_at hl 2 rfl) ?_
    refine lv_iload_n hx hb dX6_sounding_58 rfl (lv_at hl 3 rfl) ?_
    refine lv_iload_n hx hb dX6_sounding_59 rfl (lv_at hl 4 rfl) ?_
    obtain ⟨r5_, hr5_, h⟩ := z_bind h
    refine zRV F (k_X6_shift l N g a_this a_score a_shifts a_heldTicks v_shifts x1 x2 x3 _ hr5_) zy_X6_shift zw_417 hP hD hS [0, 2] rfl rfl (q0 := 0) (he := rfl) (hc := rfl) (rest := [.int ((12 * r4_) + r3_)]) rfl hl.1 rfl (Nat.le_of_ble_eq_true rfl) ⟨rfl, rfl⟩ ⟨Nat.le_of_ble_eq_true rfl, Nat.le_of_ble_eq_true rfl⟩ ⟨Nat.zero_le _, Nat.zero_le _⟩ dX6_sounding_60 (st1 := [.int r5_, .int ((12 * r4_) + r3_)]) rfl ?_
    refine lv_iadd hx hb dX6_sounding_63 ?_
    obtain rfl := Option.some.inj h
    exact zR_i F hr hlocks hQ dX6_sounding_64
  have h := hA43_
  refine z_lt (tgt := 42) hx hb dX6_sounding_21 (by decide) h (fun h => ?_) (fun h => ?_)
  · refine lv_iconst (v := 0) hx hb dX6_sounding_42 (by decide) ?_
    obtain rfl := Option.some.inj h
    exact k43_ _ (lv_sub hl [2, 3, 4, 5, 1] rfl)
  · refine lv_iload hx hb dX6_sounding_24 (lv_at hl 0 rfl) ?_
    refine va_gets hx hb (F.2.2.1.2.2.1 0 (by decide)).1 hS F.1.2.2.2.1 (hz _ zw_414) (fun _ h => h) dX6_sounding_26 ?_
    refine z_tlen F 0 (by decide) hS dX6_sounding_29 ?_
    refine z_cge (tgt := 42) hx hb dX6_sounding_30 (by decide) h (fun h => ?_) (fun h => ?_)
    · refine lv_iconst (v := 0) hx hb dX6_sounding_42 (by decide) ?_
      obtain rfl := Option.some.inj h
      exact k43_ _ (lv_sub hl [2, 3, 4, 5, 1] rfl)
    · refine va_gets hx hb (F.2.2.1.2.2.1 0 (by decide)).1 hS F.1.2.2.2.1 (hz _ zw_414) (fun _ h => h) dX6_sounding_33 ?_
      refine lv_iload hx hb dX6_sounding_36 (lv_at hl 0 rfl) ?_
      refine z_tald F 0 (by decide) hS dX6_sounding_38 h (fun x6_ h => ?_)
      refine lv_goto (tgt := 43) hx hb dX6_sounding_39 (by decide) ?_
      obtain rfl := Option.some.inj h
      exact k43_ _ (lv_sub hl [2, 3, 4, 5, 1] rfl)
def f_X6_shiftBefore (N : Nat) (v_score_size : Int32) (v_shifts : Nat → Int32) (v_score_cells : Nat → Int32) (x1 : Int32) (x2 : Int32) (x3 : Int32) : Option Int32 :=
  if 0 < x3 then Option.bind (f_X6_shift N v_shifts x1 x2 (x3 - 1)) (fun (r3_ : Int32) => some r3_) else Option.bind (f_X4_count N v_score_size v_score_cells (x1 - 1) x2) (fun (r1_ : Int32) => Option.bind (f_X6_shift N v_shifts (x1 - 1) x2 (r1_ - 1)) (fun (r2_ : Int32) => some r2_))
abbrev rm_X6_shiftBefore : Room := { frames := 2, cells := 0, slots := 0, locals := 47 }
theorem zy_X6_shiftBefore : zYv yX6_shiftBefore RX6 cX6_shiftBefore 4 (some .int) 3 := ⟨zw_445, zw_446, zw_404, zw_422, ⟨by decide, by decide⟩, by decide +kernel⟩
set_option maxHeartbeats 4000000 in
set_option maxRecDepth 100000 in
theorem k_X6_shiftBefore (l : Launch) (N : Nat) (g : zEnv) (a_this a_score a_shifts a_heldTicks a_score_cells : Nat) (v_score_size : Int32) (v_shifts : Nat → Int32) (v_score_cells : Nat → Int32) (x1 : Int32) (x2 : Int32) (x3 : Int32) (r : Int32) (h : f_X6_shiftBefore N v_score_size v_shifts v_score_cells x1 x2 x3 = some r) : ZR l yX6_shiftBefore cX6_shiftBefore 4 (some .int) rm_X6_shiftBefore g [.ref a_this, .int x1, .int x2, .int x3] [zo_X6 a_this a_score a_shifts a_heldTicks, zo_X4 a_score a_score_cells v_score_size, (a_shifts, .inl (zI g, 768, .inl v_shifts)), (a_score_cells, .inl (zI g, 912, .inl v_score_cells))] (some (.int r)) := by
  refine zR_of (by decide) (Nat.le_of_ble_eq_true rfl) ?_
  intro p e s m below meth c A ls Q R F hRm hr hlocks hP hD hS hl hQ
  subst hRm
  have F : zF p m c cX6_shiftBefore 4 s (([.ref a_this, .int x1, .int x2, .int x3] : List Value)).toArray RX6 g A := F
  have hx := F.1.1
  have hb := F.1.2.1
  have hz := F.1.2.2.2.2
  have hl : lv_has ls 4 [(0, .ref a_this), (1, .int x1), (2, .int x2), (3, .int x3)] := hl
  unfold f_X6_shiftBefore at h
  refine lv_iload_n hx hb dX6_shiftBefore_0 rfl (lv_at hl 3 rfl) ?_
  refine z_le (tgt := 16) hx hb dX6_shiftBefore_1 (by decide) h (fun h => ?_) (fun h => ?_)
  · refine lv_aload_n hx hb dX6_shiftBefore_16 rfl (lv_at hl 0 rfl) ?_
    refine lv_iload_n hx hb dX6_shiftBefore_17 rfl (lv_at hl 1 rfl) ?_
    refine lv_iconst (v := 1) hx hb dX6_shiftBefore_18 (by decide) ?_
    refine lv_isub hx hb dX6_shiftBefore_19 ?_
    refine lv_iload_n hx hb dX6_shiftBefore_20 rfl (lv_at hl 2 rfl) ?_
    refine lv_aload_n hx hb dX6_shiftBefore_21 rfl (lv_at hl 0 rfl) ?_
    refine z_get (C := RX6) (T := TX6) (N := 3) (ci := 5) F zu_wsX60 hP 0 rfl rfl 0 (by decide) zw_399 rfl dX6_shiftBefore_22 ?_
    refine lv_iload_n hx hb dX6_shiftBefore_25 rfl (lv_at hl 1 rfl) ?_
    refine lv_iconst (v := 1) hx hb dX6_shiftBefore_26 (by decide) ?_
    refine lv_isub hx hb dX6_shiftBefore_27 ?_
    refine lv_iload_n hx hb dX6_shiftBefore_28 rfl (lv_at hl 2 rfl) ?_
    obtain ⟨r1_, hr1_, h⟩ := z_bind h
    refine zRV F (k_X4_count l N g a_score a_score_cells v_score_size v_score_cells (x1 - 1) x2 _ hr1_) zy_X4_count zw_421 hP hD hS [1, 3] rfl rfl (q0 := 1) (he := rfl) (hc := rfl) (rest := [.int x2, .int (x1 - 1), .ref a_this]) rfl hl.1 rfl (Nat.le_of_ble_eq_true rfl) ⟨rfl, rfl⟩ ⟨Nat.le_of_ble_eq_true rfl, Nat.le_of_ble_eq_true rfl⟩ ⟨Nat.zero_le _, Nat.zero_le _⟩ dX6_shiftBefore_29 (st1 := [.int r1_, .int x2, .int (x1 - 1), .ref a_this]) rfl ?_
    refine lv_iconst (v := 1) hx hb dX6_shiftBefore_32 (by decide) ?_
    refine lv_isub hx hb dX6_shiftBefore_33 ?_
    obtain ⟨r2_, hr2_, h⟩ := z_bind h
    refine zRV F (k_X6_shift l N g a_this a_score a_shifts a_heldTicks v_shifts (x1 - 1) x2 (r1_ - 1) _ hr2_) zy_X6_shift zw_417 hP hD hS [0, 2] rfl rfl (q0 := 0) (he := rfl) (hc := rfl) (rest := []) rfl hl.1 rfl (Nat.le_of_ble_eq_true rfl) ⟨rfl, rfl⟩ ⟨Nat.le_of_ble_eq_true rfl, Nat.le_of_ble_eq_true rfl⟩ ⟨Nat.zero_le _, Nat.zero_le _⟩ dX6_shiftBefore_34 (st1 := [.int r2_]) rfl ?_
    obtain rfl := Option.some.inj h
    exact zR_i F hr hlocks hQ dX6_shiftBefore_37
  · refine lv_aload_n hx hb dX6_shiftBefore_4 rfl (lv_at hl 0 rfl) ?_
    refine lv_iload_n hx hb dX6_shiftBefore_5 rfl (lv_at hl 1 rfl) ?_
    refine lv_iload_n hx hb dX6_shiftBefore_6 rfl (lv_at hl 2 rfl) ?_
    refine lv_iload_n hx hb dX6_shiftBefore_7 rfl (lv_at hl 3 rfl) ?_
    refine lv_iconst (v := 1) hx hb dX6_shiftBefore_8 (by decide) ?_
    refine lv_isub hx hb dX6_shiftBefore_9 ?_
    obtain ⟨r3_, hr3_, h⟩ := z_bind h
    refine zRV F (k_X6_shift l N g a_this a_score a_shifts a_heldTicks v_shifts x1 x2 (x3 - 1) _ hr3_) zy_X6_shift zw_417 hP hD hS [0, 2] rfl rfl (q0 := 0) (he := rfl) (hc := rfl) (rest := []) rfl hl.1 rfl (Nat.le_of_ble_eq_true rfl) ⟨rfl, rfl⟩ ⟨Nat.le_of_ble_eq_true rfl, Nat.le_of_ble_eq_true rfl⟩ ⟨Nat.zero_le _, Nat.zero_le _⟩ dX6_shiftBefore_10 (st1 := [.int r3_]) rfl ?_
    refine lv_goto (tgt := 37) hx hb dX6_shiftBefore_13 (by decide) ?_
    obtain rfl := Option.some.inj h
    exact zR_i F hr hlocks hQ dX6_shiftBefore_37
def f_X6_signShift (N : Nat) (x0 : Int32) : Option Int32 :=
  if x0 = 1 then some 1 else if x0 = 2 then some (-1) else some 0
abbrev rm_X6_signShift : Room := { frames := 0, cells := 0, slots := 0, locals := 0 }
theorem zy_X6_signShift : zYs yX6_signShift cX6_signShift 1 (some .int) 1 := ⟨zw_433, zw_404, zw_423, ⟨by decide, by decide⟩, by decide +kernel⟩
set_option maxHeartbeats 4000000 in
set_option maxRecDepth 100000 in
theorem k_X6_signShift (l : Launch) (N : Nat) (g : zEnv) (x0 : Int32) (r : Int32) (h : f_X6_signShift N x0 = some r) : ZR l yX6_signShift cX6_signShift 1 (some .int) rm_X6_signShift g [.int x0] [] (some (.int r)) := by
  refine zR_of (by decide) (Nat.le_of_ble_eq_true rfl) ?_
  intro p e s m below meth c A ls Q R F hRm hr hlocks hP hD hS hl hQ
  subst hRm
  have F : zF p m c cX6_signShift 1 s (([.int x0] : List Value)).toArray RX6 g A := F
  have hx := F.1.1
  have hb := F.1.2.1
  have hz := F.1.2.2.2.2
  have hl : lv_has ls 1 [(0, .int x0)] := hl
  unfold f_X6_signShift at h
  refine lv_iload_n hx hb dX6_signShift_0 rfl (lv_at hl 0 rfl) ?_
  refine lv_iconst (v := 1) hx hb dX6_signShift_1 (by decide) ?_
  refine z_cne (tgt := 9) hx hb dX6_signShift_2 (by decide) h (fun h => ?_) (fun h => ?_)
  · refine lv_iload_n hx hb dX6_signShift_9 rfl (lv_at hl 0 rfl) ?_
    refine lv_iconst (v := 2) hx hb dX6_signShift_10 (by decide) ?_
    refine z_cne (tgt := 18) hx hb dX6_signShift_11 (by decide) h (fun h => ?_) (fun h => ?_)
    · refine lv_iconst (v := 0) hx hb dX6_signShift_18 (by decide) ?_
      obtain rfl := Option.some.inj h
      exact zR_i F hr hlocks hQ dX6_signShift_19
    · refine lv_iconst (v := (-1)) hx hb dX6_signShift_14 (by decide) ?_
      refine lv_goto (tgt := 19) hx hb dX6_signShift_15 (by decide) ?_
      obtain rfl := Option.some.inj h
      exact zR_i F hr hlocks hQ dX6_signShift_19
  · refine lv_iconst (v := 1) hx hb dX6_signShift_5 (by decide) ?_
    refine lv_goto (tgt := 19) hx hb dX6_signShift_6 (by decide) ?_
    obtain rfl := Option.some.inj h
    exact zR_i F hr hlocks hQ dX6_signShift_19
def f_X6_keyShift_B34 (N : Nat) (x0 : Int32) (x1 : Int32) (kh34_ : Int32 → Option Int32) (v34_ : Int32) : Option Int32 :=
  if v34_ < 7 then if v34_ < (-x0) then Option.bind (zAld (zTab 2) 7 v34_) (fun (x1_ : Int32) => if x1_ = x1 then some (-1) else Option.bind (some (v34_ + 1)) (fun (x2_ : Int32) => kh34_ x2_)) else some 0 else some 0
def f_X6_keyShift_B34_2 (N : Nat) (x0 : Int32) (x1 : Int32) (kh34_2_ : Int32 → Option Int32) (v34_2_ : Int32) : Option Int32 :=
  if v34_2_ < 7 then if v34_2_ < (-x0) then Option.bind (zAld (zTab 2) 7 v34_2_) (fun (x3_ : Int32) => if x3_ = x1 then some (-1) else Option.bind (some (v34_2_ + 1)) (fun (x4_ : Int32) => kh34_2_ x4_)) else some 0 else some 0
def f_X6_keyShift_B2 (N : Nat) (x0 : Int32) (x1 : Int32) (kh2_ : Int32 → Option Int32) (v2_ : Int32) : Option Int32 :=
  if v2_ < 7 then if v2_ < x0 then Option.bind (zAld (zTab 1) 7 v2_) (fun (x5_ : Int32) => if x5_ = x1 then some 1 else Option.bind (some (v2_ + 1)) (fun (x6_ : Int32) => kh2_ x6_)) else zLoop (f_X6_keyShift_B34_2 N x0 x1) N 0 else zLoop (f_X6_keyShift_B34 N x0 x1) N 0
def f_X6_keyShift (N : Nat) (x0 : Int32) (x1 : Int32) : Option Int32 :=
  zLoop (f_X6_keyShift_B2 N x0 x1) N 0
abbrev rm_X6_keyShift : Room := { frames := 0, cells := 0, slots := 0, locals := 0 }
theorem zy_X6_keyShift : zYs yX6_keyShift cX6_keyShift 3 (some .int) 2 := ⟨zw_435, zw_404, zw_426, ⟨by decide, by decide⟩, by decide +kernel⟩
set_option maxHeartbeats 4000000 in
set_option maxRecDepth 100000 in
theorem k_X6_keyShift (l : Launch) (N : Nat) (g : zEnv) (x0 : Int32) (x1 : Int32) (r : Int32) (h : f_X6_keyShift N x0 x1 = some r) : ZR l yX6_keyShift cX6_keyShift 3 (some .int) rm_X6_keyShift g [.int x0, .int x1] [] (some (.int r)) := by
  refine zR_of (by decide) (Nat.le_of_ble_eq_true rfl) ?_
  intro p e s m below meth c A ls Q R F hRm hr hlocks hP hD hS hl hQ
  subst hRm
  have F : zF p m c cX6_keyShift 3 s (([.int x0, .int x1] : List Value)).toArray RX6 g A := F
  have hx := F.1.1
  have hb := F.1.2.1
  have hz := F.1.2.2.2.2
  have hl : lv_has ls 3 [(0, .int x0), (1, .int x1)] := hl
  unfold f_X6_keyShift at h
  refine lv_iconst (v := 0) hx hb dX6_keyShift_0 (by decide) ?_
  refine lv_istore_n (lv' := [(2, .int 0), (0, .int x0), (1, .int x1)]) hx hb dX6_keyShift_1 rfl hl (by decide) rfl (fun ls hl => ?_)
  have l2_ : ∀ (n2_ : Nat) (v2_ : Int32), zLoop (f_X6_keyShift_B2 N x0 x1) n2_ v2_ = some r → ∀ (ls : Array Slot), lv_has ls 3 [(0, .int x0), (1, .int x1), (2, .int v2_)] → W p l e rm_X6_keyShift s m (([.int x0, .int x1] : List Value)).toArray below meth c s.heap [] 0 0 Q (F0 m 2 ls []) := by
    intro n2_
    induction n2_ with
    | zero => intro v2_ h; cases h
    | succ n2_ ih2_ =>
      intro v2_ h ls hl
      have h : f_X6_keyShift_B2 N x0 x1 (zLoop (f_X6_keyShift_B2 N x0 x1) n2_) v2_ = some r := h
      unfold f_X6_keyShift_B2 at h
      refine lv_iload_n hx hb dX6_keyShift_2 rfl (lv_at hl 2 rfl) ?_
      refine va_gets hx hb (F.2.2.1.2.2.1 1 (by decide)).1 hS F.1.2.2.2.1 (hz _ zw_424) (fun _ h => h) dX6_keyShift_3 ?_
      refine z_tlen F 1 (by decide) hS dX6_keyShift_6 ?_
      refine z_cge (tgt := 32) hx hb dX6_keyShift_7 (by decide) h (fun h => ?_) (fun h => ?_)
      · refine lv_iconst (v := 0) hx hb dX6_keyShift_32 (by decide) ?_
        refine lv_istore_n (lv' := [(2, .int 0), (0, .int x0), (1, .int x1)]) hx hb dX6_keyShift_33 rfl hl (by decide) rfl (fun ls hl => ?_)
        have l34_ : ∀ (n34_ : Nat) (v34_ : Int32), zLoop (f_X6_keyShift_B34 N x0 x1) n34_ v34_ = some r → ∀ (ls : Array Slot), lv_has ls 3 [(0, .int x0), (1, .int x1), (2, .int v34_)] → W p l e rm_X6_keyShift s m (([.int x0, .int x1] : List Value)).toArray below meth c s.heap [] 0 0 Q (F0 m 34 ls []) := by
          intro n34_
          induction n34_ with
          | zero => intro v34_ h; cases h
          | succ n34_ ih34_ =>
            intro v34_ h ls hl
            have h : f_X6_keyShift_B34 N x0 x1 (zLoop (f_X6_keyShift_B34 N x0 x1) n34_) v34_ = some r := h
            unfold f_X6_keyShift_B34 at h
            refine lv_iload_n hx hb dX6_keyShift_34 rfl (lv_at hl 2 rfl) ?_
            refine va_gets hx hb (F.2.2.1.2.2.1 2 (by decide)).1 hS F.1.2.2.2.1 (hz _ zw_425) (fun _ h => h) dX6_keyShift_35 ?_
            refine z_tlen F 2 (by decide) hS dX6_keyShift_38 ?_
            refine z_cge (tgt := 65) hx hb dX6_keyShift_39 (by decide) h (fun h => ?_) (fun h => ?_)
            · refine lv_iconst (v := 0) hx hb dX6_keyShift_65 (by decide) ?_
              obtain rfl := Option.some.inj h
              exact zR_i F hr hlocks hQ dX6_keyShift_66
            · refine lv_iload_n hx hb dX6_keyShift_42 rfl (lv_at hl 2 rfl) ?_
              refine lv_iload_n hx hb dX6_keyShift_43 rfl (lv_at hl 0 rfl) ?_
              refine lv_ineg hx hb dX6_keyShift_44 ?_
              refine z_cge (tgt := 65) hx hb dX6_keyShift_45 (by decide) h (fun h => ?_) (fun h => ?_)
              · refine lv_iconst (v := 0) hx hb dX6_keyShift_65 (by decide) ?_
                obtain rfl := Option.some.inj h
                exact zR_i F hr hlocks hQ dX6_keyShift_66
              · refine va_gets hx hb (F.2.2.1.2.2.1 2 (by decide)).1 hS F.1.2.2.2.1 (hz _ zw_425) (fun _ h => h) dX6_keyShift_48 ?_
                refine lv_iload_n hx hb dX6_keyShift_51 rfl (lv_at hl 2 rfl) ?_
                refine z_tald F 2 (by decide) hS dX6_keyShift_52 h (fun x1_ h => ?_)
                refine lv_iload_n hx hb dX6_keyShift_53 rfl (lv_at hl 1 rfl) ?_
                refine z_cne (tgt := 59) hx hb dX6_keyShift_54 (by decide) h (fun h => ?_) (fun h => ?_)
                · refine z_nm h (fun x2_ ex2_ h => ?_)
                  refine lv_iinc (v := x2_) (lv' := [(2, .int x2_), (0, .int x0), (1, .int x1)]) hx hb dX6_keyShift_59 hl (k := 2) rfl (by rw [ex2_]; rfl) (by decide) rfl (fun ls hl => ?_)
                  refine lv_goto (tgt := 34) hx hb dX6_keyShift_62 (by decide) ?_
                  exact ih34_ _ h _ (lv_sub hl [1, 2, 0] rfl)
                · refine lv_iconst (v := (-1)) hx hb dX6_keyShift_57 (by decide) ?_
                  obtain rfl := Option.some.inj h
                  exact zR_i F hr hlocks hQ dX6_keyShift_58
        exact l34_ N _ h _ (lv_sub hl [1, 2, 0] rfl)
      · refine lv_iload_n hx hb dX6_keyShift_10 rfl (lv_at hl 2 rfl) ?_
        refine lv_iload_n hx hb dX6_keyShift_11 rfl (lv_at hl 0 rfl) ?_
        refine z_cge (tgt := 32) hx hb dX6_keyShift_12 (by decide) h (fun h => ?_) (fun h => ?_)
        · refine lv_iconst (v := 0) hx hb dX6_keyShift_32 (by decide) ?_
          refine lv_istore_n (lv' := [(2, .int 0), (0, .int x0), (1, .int x1)]) hx hb dX6_keyShift_33 rfl hl (by decide) rfl (fun ls hl => ?_)
          have l34_2_ : ∀ (n34_2_ : Nat) (v34_2_ : Int32), zLoop (f_X6_keyShift_B34_2 N x0 x1) n34_2_ v34_2_ = some r → ∀ (ls : Array Slot), lv_has ls 3 [(0, .int x0), (1, .int x1), (2, .int v34_2_)] → W p l e rm_X6_keyShift s m (([.int x0, .int x1] : List Value)).toArray below meth c s.heap [] 0 0 Q (F0 m 34 ls []) := by
            intro n34_2_
            induction n34_2_ with
            | zero => intro v34_2_ h; cases h
            | succ n34_2_ ih34_2_ =>
              intro v34_2_ h ls hl
              have h : f_X6_keyShift_B34_2 N x0 x1 (zLoop (f_X6_keyShift_B34_2 N x0 x1) n34_2_) v34_2_ = some r := h
              unfold f_X6_keyShift_B34_2 at h
              refine lv_iload_n hx hb dX6_keyShift_34 rfl (lv_at hl 2 rfl) ?_
              refine va_gets hx hb (F.2.2.1.2.2.1 2 (by decide)).1 hS F.1.2.2.2.1 (hz _ zw_425) (fun _ h => h) dX6_keyShift_35 ?_
              refine z_tlen F 2 (by decide) hS dX6_keyShift_38 ?_
              refine z_cge (tgt := 65) hx hb dX6_keyShift_39 (by decide) h (fun h => ?_) (fun h => ?_)
              · refine lv_iconst (v := 0) hx hb dX6_keyShift_65 (by decide) ?_
                obtain rfl := Option.some.inj h
                exact zR_i F hr hlocks hQ dX6_keyShift_66
              · refine lv_iload_n hx hb dX6_keyShift_42 rfl (lv_at hl 2 rfl) ?_
                refine lv_iload_n hx hb dX6_keyShift_43 rfl (lv_at hl 0 rfl) ?_
                refine lv_ineg hx hb dX6_keyShift_44 ?_
                refine z_cge (tgt := 65) hx hb dX6_keyShift_45 (by decide) h (fun h => ?_) (fun h => ?_)
                · refine lv_iconst (v := 0) hx hb dX6_keyShift_65 (by decide) ?_
                  obtain rfl := Option.some.inj h
                  exact zR_i F hr hlocks hQ dX6_keyShift_66
                · refine va_gets hx hb (F.2.2.1.2.2.1 2 (by decide)).1 hS F.1.2.2.2.1 (hz _ zw_425) (fun _ h => h) dX6_keyShift_48 ?_
                  refine lv_iload_n hx hb dX6_keyShift_51 rfl (lv_at hl 2 rfl) ?_
                  refine z_tald F 2 (by decide) hS dX6_keyShift_52 h (fun x3_ h => ?_)
                  refine lv_iload_n hx hb dX6_keyShift_53 rfl (lv_at hl 1 rfl) ?_
                  refine z_cne (tgt := 59) hx hb dX6_keyShift_54 (by decide) h (fun h => ?_) (fun h => ?_)
                  · refine z_nm h (fun x4_ ex4_ h => ?_)
                    refine lv_iinc (v := x4_) (lv' := [(2, .int x4_), (0, .int x0), (1, .int x1)]) hx hb dX6_keyShift_59 hl (k := 2) rfl (by rw [ex4_]; rfl) (by decide) rfl (fun ls hl => ?_)
                    refine lv_goto (tgt := 34) hx hb dX6_keyShift_62 (by decide) ?_
                    exact ih34_2_ _ h _ (lv_sub hl [1, 2, 0] rfl)
                  · refine lv_iconst (v := (-1)) hx hb dX6_keyShift_57 (by decide) ?_
                    obtain rfl := Option.some.inj h
                    exact zR_i F hr hlocks hQ dX6_keyShift_58
          exact l34_2_ N _ h _ (lv_sub hl [1, 2, 0] rfl)
        · refine va_gets hx hb (F.2.2.1.2.2.1 1 (by decide)).1 hS F.1.2.2.2.1 (hz _ zw_424) (fun _ h => h) dX6_keyShift_15 ?_
          refine lv_iload_n hx hb dX6_keyShift_18 rfl (lv_at hl 2 rfl) ?_
          refine z_tald F 1 (by decide) hS dX6_keyShift_19 h (fun x5_ h => ?_)
          refine lv_iload_n hx hb dX6_keyShift_20 rfl (lv_at hl 1 rfl) ?_
          refine z_cne (tgt := 26) hx hb dX6_keyShift_21 (by decide) h (fun h => ?_) (fun h => ?_)
          · refine z_nm h (fun x6_ ex6_ h => ?_)
            refine lv_iinc (v := x6_) (lv' := [(2, .int x6_), (0, .int x0), (1, .int x1)]) hx hb dX6_keyShift_26 hl (k := 2) rfl (by rw [ex6_]; rfl) (by decide) rfl (fun ls hl => ?_)
            refine lv_goto (tgt := 2) hx hb dX6_keyShift_29 (by decide) ?_
            exact ih2_ _ h _ (lv_sub hl [1, 2, 0] rfl)
          · refine lv_iconst (v := 1) hx hb dX6_keyShift_24 (by decide) ?_
            obtain rfl := Option.some.inj h
            exact zR_i F hr hlocks hQ dX6_keyShift_25
  exact l2_ N _ h _ (lv_sub hl [1, 2, 0] rfl)
def f_X6_shiftWithoutSign_B50 (N : Nat) (r1_ : Int32) (x4 : Int32) (v_score_size : Int32) (v_score_cells : Nat → Int32) (x1 : Int32) (x2 : Int32) (kh50_ : Int32 → Option Int32) (v50_ : Int32) : Option Int32 :=
  if v50_ < 0 then Option.bind (f_X0_stepOf N r1_) (fun (r5_ : Int32) => Option.bind (f_X6_keyShift N x4 r5_) (fun (r6_ : Int32) => some r6_)) else Option.bind (f_X4_code N v_score_size v_score_cells x1 x2 v50_) (fun (r7_ : Int32) => Option.bind (f_X0_samePitch N r7_ r1_) (fun (r8_ : Int32) => if r8_ = 0 then Option.bind (some (v50_ + (-1))) (fun (x9_ : Int32) => kh50_ x9_) else Option.bind (f_X0_signOf N r7_) (fun (r10_ : Int32) => if r10_ = 0 then Option.bind (some (v50_ + (-1))) (fun (x11_ : Int32) => kh50_ x11_) else Option.bind (f_X0_signOf N r7_) (fun (r12_ : Int32) => Option.bind (f_X6_signShift N r12_) (fun (r13_ : Int32) => some r13_)))))
def f_X6_shiftWithoutSign_B50_2 (N : Nat) (r1_ : Int32) (x4 : Int32) (v_score_size : Int32) (v_score_cells : Nat → Int32) (x1 : Int32) (x2 : Int32) (kh50_2_ : Int32 → Option Int32) (v50_2_ : Int32) : Option Int32 :=
  if v50_2_ < 0 then Option.bind (f_X0_stepOf N r1_) (fun (r16_ : Int32) => Option.bind (f_X6_keyShift N x4 r16_) (fun (r17_ : Int32) => some r17_)) else Option.bind (f_X4_code N v_score_size v_score_cells x1 x2 v50_2_) (fun (r18_ : Int32) => Option.bind (f_X0_samePitch N r18_ r1_) (fun (r19_ : Int32) => if r19_ = 0 then Option.bind (some (v50_2_ + (-1))) (fun (x20_ : Int32) => kh50_2_ x20_) else Option.bind (f_X0_signOf N r18_) (fun (r21_ : Int32) => if r21_ = 0 then Option.bind (some (v50_2_ + (-1))) (fun (x22_ : Int32) => kh50_2_ x22_) else Option.bind (f_X0_signOf N r18_) (fun (r23_ : Int32) => Option.bind (f_X6_signShift N r23_) (fun (r24_ : Int32) => some r24_)))))
def f_X6_shiftWithoutSign (N : Nat) (v_score_size : Int32) (v_score_cells : Nat → Int32) (x1 : Int32) (x2 : Int32) (x3 : Int32) (x4 : Int32) (x5 : Int32) : Option Int32 :=
  Option.bind (f_X4_code N v_score_size v_score_cells x1 x2 x3) (fun (r1_ : Int32) => Option.bind (f_X4_codeBefore N v_score_size v_score_cells x1 x2 x3) (fun (r2_ : Int32) => Option.bind (f_X0_isTied N r2_) (fun (r3_ : Int32) => if r3_ = 0 then Option.bind (some (x3 - 1)) (fun (x4_ : Int32) => zLoop (f_X6_shiftWithoutSign_B50 N r1_ x4 v_score_size v_score_cells x1 x2) N x4_) else Option.bind (f_X0_samePitch N r2_ r1_) (fun (r14_ : Int32) => if r14_ = 0 then Option.bind (some (x3 - 1)) (fun (x15_ : Int32) => zLoop (f_X6_shiftWithoutSign_B50_2 N r1_ x4 v_score_size v_score_cells x1 x2) N x15_) else some x5))))
abbrev rm_X6_shiftWithoutSign : Room := { frames := 3, cells := 0, slots := 0, locals := 70 }
theorem zy_X6_shiftWithoutSign : zYv yX6_shiftWithoutSign RX6 cX6_shiftWithoutSign 10 (some .int) 5 := ⟨zw_438, zw_439, zw_404, zw_436, ⟨by decide, by decide⟩, by decide +kernel⟩
set_option maxHeartbeats 4000000 in
set_option maxRecDepth 100000 in
theorem k_X6_shiftWithoutSign (l : Launch) (N : Nat) (g : zEnv) (a_this a_score a_shifts a_heldTicks a_score_cells : Nat) (v_score_size : Int32) (v_score_cells : Nat → Int32) (x1 : Int32) (x2 : Int32) (x3 : Int32) (x4 : Int32) (x5 : Int32) (r : Int32) (h : f_X6_shiftWithoutSign N v_score_size v_score_cells x1 x2 x3 x4 x5 = some r) : ZR l yX6_shiftWithoutSign cX6_shiftWithoutSign 10 (some .int) rm_X6_shiftWithoutSign g [.ref a_this, .int x1, .int x2, .int x3, .int x4, .int x5] [zo_X6 a_this a_score a_shifts a_heldTicks, zo_X4 a_score a_score_cells v_score_size, (a_score_cells, .inl (zI g, 912, .inl v_score_cells))] (some (.int r)) := by
  refine zR_of (by decide) (Nat.le_of_ble_eq_true rfl) ?_
  intro p e s m below meth c A ls Q R F hRm hr hlocks hP hD hS hl hQ
  subst hRm
  have F : zF p m c cX6_shiftWithoutSign 10 s (([.ref a_this, .int x1, .int x2, .int x3, .int x4, .int x5] : List Value)).toArray RX6 g A := F
  have hx := F.1.1
  have hb := F.1.2.1
  have hz := F.1.2.2.2.2
  have hl : lv_has ls 10 [(0, .ref a_this), (1, .int x1), (2, .int x2), (3, .int x3), (4, .int x4), (5, .int x5)] := hl
  unfold f_X6_shiftWithoutSign at h
  refine lv_aload_n hx hb dX6_shiftWithoutSign_0 rfl (lv_at hl 0 rfl) ?_
  refine z_get (C := RX6) (T := TX6) (N := 3) (ci := 5) F zu_wsX60 hP 0 rfl rfl 0 (by decide) zw_399 rfl dX6_shiftWithoutSign_1 ?_
  refine lv_iload_n hx hb dX6_shiftWithoutSign_4 rfl (lv_at hl 1 rfl) ?_
  refine lv_iload_n hx hb dX6_shiftWithoutSign_5 rfl (lv_at hl 2 rfl) ?_
  refine lv_iload_n hx hb dX6_shiftWithoutSign_6 rfl (lv_at hl 3 rfl) ?_
  obtain ⟨r1_, hr1_, h⟩ := z_bind h
  refine zRV F (k_X4_code l N g a_score a_score_cells v_score_size v_score_cells x1 x2 x3 _ hr1_) zy_X4_code zw_407 hP hD hS [1, 2] rfl rfl (q0 := 1) (he := rfl) (hc := rfl) (rest := []) rfl hl.1 rfl (Nat.le_of_ble_eq_true rfl) ⟨rfl, rfl⟩ ⟨Nat.le_of_ble_eq_true rfl, Nat.le_of_ble_eq_true rfl⟩ ⟨Nat.zero_le _, Nat.zero_le _⟩ dX6_shiftWithoutSign_7 (st1 := [.int r1_]) rfl ?_
  refine lv_istore (lv' := [(6, .int r1_), (0, .ref a_this), (1, .int x1), (2, .int x2), (3, .int x3), (4, .int x4), (5, .int x5)]) hx hb dX6_shiftWithoutSign_10 hl (by decide) rfl (fun ls hl => ?_)
  refine lv_aload_n hx hb dX6_shiftWithoutSign_12 rfl (lv_at hl 1 rfl) ?_
  refine z_get (C := RX6) (T := TX6) (N := 3) (ci := 5) F zu_wsX60 hP 0 rfl rfl 0 (by decide) zw_399 rfl dX6_shiftWithoutSign_13 ?_
  refine lv_iload_n hx hb dX6_shiftWithoutSign_16 rfl (lv_at hl 2 rfl) ?_
  refine lv_iload_n hx hb dX6_shiftWithoutSign_17 rfl (lv_at hl 3 rfl) ?_
  refine lv_iload_n hx hb dX6_shiftWithoutSign_18 rfl (lv_at hl 4 rfl) ?_
  obtain ⟨r2_, hr2_, h⟩ := z_bind h
  refine zRV F (k_X4_codeBefore l N g a_score a_score_cells v_score_size v_score_cells x1 x2 x3 _ hr2_) zy_X4_codeBefore zw_427 hP hD hS [1, 2] rfl rfl (q0 := 1) (he := rfl) (hc := rfl) (rest := []) rfl hl.1 rfl (Nat.le_of_ble_eq_true rfl) ⟨rfl, rfl⟩ ⟨Nat.le_of_ble_eq_true rfl, Nat.le_of_ble_eq_true rfl⟩ ⟨Nat.zero_le _, Nat.zero_le _⟩ dX6_shiftWithoutSign_19 (st1 := [.int r2_]) rfl ?_
  refine lv_istore (lv' := [(7, .int r2_), (6, .int r1_), (0, .ref a_this), (1, .int x1), (2, .int x2), (3, .int x3), (4, .int x4), (5, .int x5)]) hx hb dX6_shiftWithoutSign_22 hl (by decide) rfl (fun ls hl => ?_)
  refine lv_iload hx hb dX6_shiftWithoutSign_24 (lv_at hl 0 rfl) ?_
  obtain ⟨r3_, hr3_, h⟩ := z_bind h
  refine zRS F (k_X0_isTied l N g r2_ _ hr3_) zy_X0_isTied zw_408 hP hD hS [] rfl rfl (rest := []) rfl hl.1 rfl (Nat.le_of_ble_eq_true rfl) ⟨rfl, rfl⟩ ⟨Nat.le_of_ble_eq_true rfl, Nat.le_of_ble_eq_true rfl⟩ ⟨Nat.zero_le _, Nat.zero_le _⟩ dX6_shiftWithoutSign_26 (st1 := [.int r3_]) rfl ?_
  refine z_eq (tgt := 45) hx hb dX6_shiftWithoutSign_29 (by decide) h (fun h => ?_) (fun h => ?_)
  · refine lv_iload_n hx hb dX6_shiftWithoutSign_45 rfl (lv_at hl 5 rfl) ?_
    refine lv_iconst (v := 1) hx hb dX6_shiftWithoutSign_46 (by decide) ?_
    refine lv_isub hx hb dX6_shiftWithoutSign_47 ?_
    refine z_top Value.int h (fun x4_ h => ?_)
    refine lv_istore (lv' := [(8, .int x4_), (7, .int r2_), (6, .int r1_), (0, .ref a_this), (1, .int x1), (2, .int x2), (3, .int x3), (4, .int x4), (5, .int x5)]) hx hb dX6_shiftWithoutSign_48 hl (by decide) rfl (fun ls hl => ?_)
    have l50_ : ∀ (n50_ : Nat) (v50_ : Int32), zLoop (f_X6_shiftWithoutSign_B50 N r1_ x4 v_score_size v_score_cells x1 x2) n50_ v50_ = some r → ∀ (ls : Array Slot), lv_has ls 10 [(0, .ref a_this), (1, .int x1), (2, .int x2), (4, .int x4), (6, .int r1_), (8, .int v50_)] → W p l e rm_X6_shiftWithoutSign s m (([.ref a_this, .int x1, .int x2, .int x3, .int x4, .int x5] : List Value)).toArray below meth c s.heap [] 0 0 Q (F0 m 50 ls []) := by
      intro n50_
      induction n50_ with
      | zero => intro v50_ h; cases h
      | succ n50_ ih50_ =>
        intro v50_ h ls hl
        have h : f_X6_shiftWithoutSign_B50 N r1_ x4 v_score_size v_score_cells x1 x2 (zLoop (f_X6_shiftWithoutSign_B50 N r1_ x4 v_score_size v_score_cells x1 x2) n50_) v50_ = some r := h
        unfold f_X6_shiftWithoutSign_B50 at h
        refine lv_iload hx hb dX6_shiftWithoutSign_50 (lv_at hl 5 rfl) ?_
        refine z_lt (tgt := 101) hx hb dX6_shiftWithoutSign_52 (by decide) h (fun h => ?_) (fun h => ?_)
        · refine lv_iload hx hb dX6_shiftWithoutSign_101 (lv_at hl 3 rfl) ?_
          refine lv_iload hx hb dX6_shiftWithoutSign_103 (lv_at hl 4 rfl) ?_
          obtain ⟨r5_, hr5_, h⟩ := z_bind h
          refine zRS F (k_X0_stepOf l N g r1_ _ hr5_) zy_X0_stepOf zw_415 hP hD hS [] rfl rfl (rest := [.int x4]) rfl hl.1 rfl (Nat.le_of_ble_eq_true rfl) ⟨rfl, rfl⟩ ⟨Nat.le_of_ble_eq_true rfl, Nat.le_of_ble_eq_true rfl⟩ ⟨Nat.zero_le _, Nat.zero_le _⟩ dX6_shiftWithoutSign_105 (st1 := [.int r5_, .int x4]) rfl ?_
          obtain ⟨r6_, hr6_, h⟩ := z_bind h
          refine zRS F (k_X6_keyShift l N g x4 r5_ _ hr6_) zy_X6_keyShift zw_434 hP hD hS [] rfl rfl (rest := []) rfl hl.1 rfl (Nat.le_of_ble_eq_true rfl) ⟨rfl, rfl⟩ ⟨Nat.le_of_ble_eq_true rfl, Nat.le_of_ble_eq_true rfl⟩ ⟨Nat.zero_le _, Nat.zero_le _⟩ dX6_shiftWithoutSign_108 (st1 := [.int r6_]) rfl ?_
          obtain rfl := Option.some.inj h
          exact zR_i F hr hlocks hQ dX6_shiftWithoutSign_111
        · refine lv_aload_n hx hb dX6_shiftWithoutSign_55 rfl (lv_at hl 0 rfl) ?_
          refine z_get (C := RX6) (T := TX6) (N := 3) (ci := 5) F zu_wsX60 hP 0 rfl rfl 0 (by decide) zw_399 rfl dX6_shiftWithoutSign_56 ?_
          refine lv_iload_n hx hb dX6_shiftWithoutSign_59 rfl (lv_at hl 1 rfl) ?_
          refine lv_iload_n hx hb dX6_shiftWithoutSign_60 rfl (lv_at hl 2 rfl) ?_
          refine lv_iload hx hb dX6_shiftWithoutSign_61 (lv_at hl 5 rfl) ?_
          obtain ⟨r7_, hr7_, h⟩ := z_bind h
          refine zRV F (k_X4_code l N g a_score a_score_cells v_score_size v_score_cells x1 x2 v50_ _ hr7_) zy_X4_code zw_407 hP hD hS [1, 2] rfl rfl (q0 := 1) (he := rfl) (hc := rfl) (rest := []) rfl hl.1 rfl (Nat.le_of_ble_eq_true rfl) ⟨rfl, rfl⟩ ⟨Nat.le_of_ble_eq_true rfl, Nat.le_of_ble_eq_true rfl⟩ ⟨Nat.zero_le _, Nat.zero_le _⟩ dX6_shiftWithoutSign_63 (st1 := [.int r7_]) rfl ?_
          refine lv_istore (lv' := [(9, .int r7_), (0, .ref a_this), (1, .int x1), (2, .int x2), (4, .int x4), (6, .int r1_), (8, .int v50_)]) hx hb dX6_shiftWithoutSign_66 hl (by decide) rfl (fun ls hl => ?_)
          refine lv_iload hx hb dX6_shiftWithoutSign_68 (lv_at hl 0 rfl) ?_
          refine lv_iload hx hb dX6_shiftWithoutSign_70 (lv_at hl 5 rfl) ?_
          obtain ⟨r8_, hr8_, h⟩ := z_bind h
          refine zRS F (k_X0_samePitch l N g r7_ r1_ _ hr8_) zy_X0_samePitch zw_430 hP hD hS [] rfl rfl (rest := []) rfl hl.1 rfl (Nat.le_of_ble_eq_true rfl) ⟨rfl, rfl⟩ ⟨Nat.le_of_ble_eq_true rfl, Nat.le_of_ble_eq_true rfl⟩ ⟨Nat.zero_le _, Nat.zero_le _⟩ dX6_shiftWithoutSign_72 (st1 := [.int r8_]) rfl ?_
          refine z_eq (tgt := 95) hx hb dX6_shiftWithoutSign_75 (by decide) h (fun h => ?_) (fun h => ?_)
          · refine z_nm h (fun x9_ ex9_ h => ?_)
            refine lv_iinc (v := x9_) (lv' := [(8, .int x9_), (9, .int r7_), (0, .ref a_this), (1, .int x1), (2, .int x2), (4, .int x4), (6, .int r1_)]) hx hb dX6_shiftWithoutSign_95 hl (k := 6) rfl (by rw [ex9_]; rfl) (by decide) rfl (fun ls hl => ?_)
            refine lv_goto (tgt := 50) hx hb dX6_shiftWithoutSign_98 (by decide) ?_
            exact ih50_ _ h _ (lv_sub hl [2, 3, 4, 5, 6, 0] rfl)
          · refine lv_iload hx hb dX6_shiftWithoutSign_78 (lv_at hl 0 rfl) ?_
            obtain ⟨r10_, hr10_, h⟩ := z_bind h
            refine zRS F (k_X0_signOf l N g r7_ _ hr10_) zy_X0_signOf zw_431 hP hD hS [] rfl rfl (rest := []) rfl hl.1 rfl (Nat.le_of_ble_eq_true rfl) ⟨rfl, rfl⟩ ⟨Nat.le_of_ble_eq_true rfl, Nat.le_of_ble_eq_true rfl⟩ ⟨Nat.zero_le _, Nat.zero_le _⟩ dX6_shiftWithoutSign_80 (st1 := [.int r10_]) rfl ?_
            refine z_eq (tgt := 95) hx hb dX6_shiftWithoutSign_83 (by decide) h (fun h => ?_) (fun h => ?_)
            · refine z_nm h (fun x11_ ex11_ h => ?_)
              refine lv_iinc (v := x11_) (lv' := [(8, .int x11_), (9, .int r7_), (0, .ref a_this), (1, .int x1), (2, .int x2), (4, .int x4), (6, .int r1_)]) hx hb dX6_shiftWithoutSign_95 hl (k := 6) rfl (by rw [ex11_]; rfl) (by decide) rfl (fun ls hl => ?_)
              refine lv_goto (tgt := 50) hx hb dX6_shiftWithoutSign_98 (by decide) ?_
              exact ih50_ _ h _ (lv_sub hl [2, 3, 4, 5, 6, 0] rfl)
            · refine lv_iload hx hb dX6_shiftWithoutSign_86 (lv_at hl 0 rfl) ?_
              obtain ⟨r12_, hr12_, h⟩ := z_bind h
              refine zRS F (k_X0_signOf l N g r7_ _ hr12_) zy_X0_signOf zw_431 hP hD hS [] rfl rfl (rest := []) rfl hl.1 rfl (Nat.le_of_ble_eq_true rfl) ⟨rfl, rfl⟩ ⟨Nat.le_of_ble_eq_true rfl, Nat.le_of_ble_eq_true rfl⟩ ⟨Nat.zero_le _, Nat.zero_le _⟩ dX6_shiftWithoutSign_88 (st1 := [.int r12_]) rfl ?_
              obtain ⟨r13_, hr13_, h⟩ := z_bind h
              refine zRS F (k_X6_signShift l N g r12_ _ hr13_) zy_X6_signShift zw_432 hP hD hS [] rfl rfl (rest := []) rfl hl.1 rfl (Nat.le_of_ble_eq_true rfl) ⟨rfl, rfl⟩ ⟨Nat.le_of_ble_eq_true rfl, Nat.le_of_ble_eq_true rfl⟩ ⟨Nat.zero_le _, Nat.zero_le _⟩ dX6_shiftWithoutSign_91 (st1 := [.int r13_]) rfl ?_
              obtain rfl := Option.some.inj h
              exact zR_i F hr hlocks hQ dX6_shiftWithoutSign_94
    exact l50_ N _ h _ (lv_sub hl [3, 4, 5, 7, 2, 0] rfl)
  · refine lv_iload hx hb dX6_shiftWithoutSign_32 (lv_at hl 0 rfl) ?_
    refine lv_iload hx hb dX6_shiftWithoutSign_34 (lv_at hl 1 rfl) ?_
    obtain ⟨r14_, hr14_, h⟩ := z_bind h
    refine zRS F (k_X0_samePitch l N g r2_ r1_ _ hr14_) zy_X0_samePitch zw_430 hP hD hS [] rfl rfl (rest := []) rfl hl.1 rfl (Nat.le_of_ble_eq_true rfl) ⟨rfl, rfl⟩ ⟨Nat.le_of_ble_eq_true rfl, Nat.le_of_ble_eq_true rfl⟩ ⟨Nat.zero_le _, Nat.zero_le _⟩ dX6_shiftWithoutSign_36 (st1 := [.int r14_]) rfl ?_
    refine z_eq (tgt := 45) hx hb dX6_shiftWithoutSign_39 (by decide) h (fun h => ?_) (fun h => ?_)
    · refine lv_iload_n hx hb dX6_shiftWithoutSign_45 rfl (lv_at hl 5 rfl) ?_
      refine lv_iconst (v := 1) hx hb dX6_shiftWithoutSign_46 (by decide) ?_
      refine lv_isub hx hb dX6_shiftWithoutSign_47 ?_
      refine z_top Value.int h (fun x15_ h => ?_)
      refine lv_istore (lv' := [(8, .int x15_), (7, .int r2_), (6, .int r1_), (0, .ref a_this), (1, .int x1), (2, .int x2), (3, .int x3), (4, .int x4), (5, .int x5)]) hx hb dX6_shiftWithoutSign_48 hl (by decide) rfl (fun ls hl => ?_)
      have l50_2_ : ∀ (n50_2_ : Nat) (v50_2_ : Int32), zLoop (f_X6_shiftWithoutSign_B50_2 N r1_ x4 v_score_size v_score_cells x1 x2) n50_2_ v50_2_ = some r → ∀ (ls : Array Slot), lv_has ls 10 [(0, .ref a_this), (1, .int x1), (2, .int x2), (4, .int x4), (6, .int r1_), (8, .int v50_2_)] → W p l e rm_X6_shiftWithoutSign s m (([.ref a_this, .int x1, .int x2, .int x3, .int x4, .int x5] : List Value)).toArray below meth c s.heap [] 0 0 Q (F0 m 50 ls []) := by
        intro n50_2_
        induction n50_2_ with
        | zero => intro v50_2_ h; cases h
        | succ n50_2_ ih50_2_ =>
          intro v50_2_ h ls hl
          have h : f_X6_shiftWithoutSign_B50_2 N r1_ x4 v_score_size v_score_cells x1 x2 (zLoop (f_X6_shiftWithoutSign_B50_2 N r1_ x4 v_score_size v_score_cells x1 x2) n50_2_) v50_2_ = some r := h
          unfold f_X6_shiftWithoutSign_B50_2 at h
          refine lv_iload hx hb dX6_shiftWithoutSign_50 (lv_at hl 5 rfl) ?_
          refine z_lt (tgt := 101) hx hb dX6_shiftWithoutSign_52 (by decide) h (fun h => ?_) (fun h => ?_)
          · refine lv_iload hx hb dX6_shiftWithoutSign_101 (lv_at hl 3 rfl) ?_
            refine lv_iload hx hb dX6_shiftWithoutSign_103 (lv_at hl 4 rfl) ?_
            obtain ⟨r16_, hr16_, h⟩ := z_bind h
            refine zRS F (k_X0_stepOf l N g r1_ _ hr16_) zy_X0_stepOf zw_415 hP hD hS [] rfl rfl (rest := [.int x4]) rfl hl.1 rfl (Nat.le_of_ble_eq_true rfl) ⟨rfl, rfl⟩ ⟨Nat.le_of_ble_eq_true rfl, Nat.le_of_ble_eq_true rfl⟩ ⟨Nat.zero_le _, Nat.zero_le _⟩ dX6_shiftWithoutSign_105 (st1 := [.int r16_, .int x4]) rfl ?_
            obtain ⟨r17_, hr17_, h⟩ := z_bind h
            refine zRS F (k_X6_keyShift l N g x4 r16_ _ hr17_) zy_X6_keyShift zw_434 hP hD hS [] rfl rfl (rest := []) rfl hl.1 rfl (Nat.le_of_ble_eq_true rfl) ⟨rfl, rfl⟩ ⟨Nat.le_of_ble_eq_true rfl, Nat.le_of_ble_eq_true rfl⟩ ⟨Nat.zero_le _, Nat.zero_le _⟩ dX6_shiftWithoutSign_108 (st1 := [.int r17_]) rfl ?_
            obtain rfl := Option.some.inj h
            exact zR_i F hr hlocks hQ dX6_shiftWithoutSign_111
          · refine lv_aload_n hx hb dX6_shiftWithoutSign_55 rfl (lv_at hl 0 rfl) ?_
            refine z_get (C := RX6) (T := TX6) (N := 3) (ci := 5) F zu_wsX60 hP 0 rfl rfl 0 (by decide) zw_399 rfl dX6_shiftWithoutSign_56 ?_
            refine lv_iload_n hx hb dX6_shiftWithoutSign_59 rfl (lv_at hl 1 rfl) ?_
            refine lv_iload_n hx hb dX6_shiftWithoutSign_60 rfl (lv_at hl 2 rfl) ?_
            refine lv_iload hx hb dX6_shiftWithoutSign_61 (lv_at hl 5 rfl) ?_
            obtain ⟨r18_, hr18_, h⟩ := z_bind h
            refine zRV F (k_X4_code l N g a_score a_score_cells v_score_size v_score_cells x1 x2 v50_2_ _ hr18_) zy_X4_code zw_407 hP hD hS [1, 2] rfl rfl (q0 := 1) (he := rfl) (hc := rfl) (rest := []) rfl hl.1 rfl (Nat.le_of_ble_eq_true rfl) ⟨rfl, rfl⟩ ⟨Nat.le_of_ble_eq_true rfl, Nat.le_of_ble_eq_true rfl⟩ ⟨Nat.zero_le _, Nat.zero_le _⟩ dX6_shiftWithoutSign_63 (st1 := [.int r18_]) rfl ?_
            refine lv_istore (lv' := [(9, .int r18_), (0, .ref a_this), (1, .int x1), (2, .int x2), (4, .int x4), (6, .int r1_), (8, .int v50_2_)]) hx hb dX6_shiftWithoutSign_66 hl (by decide) rfl (fun ls hl => ?_)
            refine lv_iload hx hb dX6_shiftWithoutSign_68 (lv_at hl 0 rfl) ?_
            refine lv_iload hx hb dX6_shiftWithoutSign_70 (lv_at hl 5 rfl) ?_
            obtain ⟨r19_, hr19_, h⟩ := z_bind h
            refine zRS F (k_X0_samePitch l N g r18_ r1_ _ hr19_) zy_X0_samePitch zw_430 hP hD hS [] rfl rfl (rest := []) rfl hl.1 rfl (Nat.le_of_ble_eq_true rfl) ⟨rfl, rfl⟩ ⟨Nat.le_of_ble_eq_true rfl, Nat.le_of_ble_eq_true rfl⟩ ⟨Nat.zero_le _, Nat.zero_le _⟩ dX6_shiftWithoutSign_72 (st1 := [.int r19_]) rfl ?_
            refine z_eq (tgt := 95) hx hb dX6_shiftWithoutSign_75 (by decide) h (fun h => ?_) (fun h => ?_)
            · refine z_nm h (fun x20_ ex20_ h => ?_)
              refine lv_iinc (v := x20_) (lv' := [(8, .int x20_), (9, .int r18_), (0, .ref a_this), (1, .int x1), (2, .int x2), (4, .int x4), (6, .int r1_)]) hx hb dX6_shiftWithoutSign_95 hl (k := 6) rfl (by rw [ex20_]; rfl) (by decide) rfl (fun ls hl => ?_)
              refine lv_goto (tgt := 50) hx hb dX6_shiftWithoutSign_98 (by decide) ?_
              exact ih50_2_ _ h _ (lv_sub hl [2, 3, 4, 5, 6, 0] rfl)
            · refine lv_iload hx hb dX6_shiftWithoutSign_78 (lv_at hl 0 rfl) ?_
              obtain ⟨r21_, hr21_, h⟩ := z_bind h
              refine zRS F (k_X0_signOf l N g r18_ _ hr21_) zy_X0_signOf zw_431 hP hD hS [] rfl rfl (rest := []) rfl hl.1 rfl (Nat.le_of_ble_eq_true rfl) ⟨rfl, rfl⟩ ⟨Nat.le_of_ble_eq_true rfl, Nat.le_of_ble_eq_true rfl⟩ ⟨Nat.zero_le _, Nat.zero_le _⟩ dX6_shiftWithoutSign_80 (st1 := [.int r21_]) rfl ?_
              refine z_eq (tgt := 95) hx hb dX6_shiftWithoutSign_83 (by decide) h (fun h => ?_) (fun h => ?_)
              · refine z_nm h (fun x22_ ex22_ h => ?_)
                refine lv_iinc (v := x22_) (lv' := [(8, .int x22_), (9, .int r18_), (0, .ref a_this), (1, .int x1), (2, .int x2), (4, .int x4), (6, .int r1_)]) hx hb dX6_shiftWithoutSign_95 hl (k := 6) rfl (by rw [ex22_]; rfl) (by decide) rfl (fun ls hl => ?_)
                refine lv_goto (tgt := 50) hx hb dX6_shiftWithoutSign_98 (by decide) ?_
                exact ih50_2_ _ h _ (lv_sub hl [2, 3, 4, 5, 6, 0] rfl)
              · refine lv_iload hx hb dX6_shiftWithoutSign_86 (lv_at hl 0 rfl) ?_
                obtain ⟨r23_, hr23_, h⟩ := z_bind h
                refine zRS F (k_X0_signOf l N g r18_ _ hr23_) zy_X0_signOf zw_431 hP hD hS [] rfl rfl (rest := []) rfl hl.1 rfl (Nat.le_of_ble_eq_true rfl) ⟨rfl, rfl⟩ ⟨Nat.le_of_ble_eq_true rfl, Nat.le_of_ble_eq_true rfl⟩ ⟨Nat.zero_le _, Nat.zero_le _⟩ dX6_shiftWithoutSign_88 (st1 := [.int r23_]) rfl ?_
                obtain ⟨r24_, hr24_, h⟩ := z_bind h
                refine zRS F (k_X6_signShift l N g r23_ _ hr24_) zy_X6_signShift zw_432 hP hD hS [] rfl rfl (rest := []) rfl hl.1 rfl (Nat.le_of_ble_eq_true rfl) ⟨rfl, rfl⟩ ⟨Nat.le_of_ble_eq_true rfl, Nat.le_of_ble_eq_true rfl⟩ ⟨Nat.zero_le _, Nat.zero_le _⟩ dX6_shiftWithoutSign_91 (st1 := [.int r24_]) rfl ?_
                obtain rfl := Option.some.inj h
                exact zR_i F hr hlocks hQ dX6_shiftWithoutSign_94
      exact l50_2_ N _ h _ (lv_sub hl [3, 4, 5, 7, 2, 0] rfl)
    · refine lv_iload hx hb dX6_shiftWithoutSign_42 (lv_at hl 7 rfl) ?_
      obtain rfl := Option.some.inj h
      exact zR_i F hr hlocks hQ dX6_shiftWithoutSign_44
def f_X6_shiftWith (N : Nat) (v_score_size : Int32) (v_score_cells : Nat → Int32) (x1 : Int32) (x2 : Int32) (x3 : Int32) (x4 : Int32) (x5 : Int32) : Option Int32 :=
  Option.bind (f_X4_code N v_score_size v_score_cells x1 x2 x3) (fun (r1_ : Int32) => Option.bind (f_X0_signOf N r1_) (fun (r2_ : Int32) => if r2_ = 0 then Option.bind (f_X6_shiftWithoutSign N v_score_size v_score_cells x1 x2 x3 x4 x5) (fun (r3_ : Int32) => some r3_) else Option.bind (f_X6_signShift N r2_) (fun (r4_ : Int32) => some r4_)))
abbrev rm_X6_shiftWith : Room := { frames := 4, cells := 0, slots := 0, locals := 99 }
theorem zy_X6_shiftWith : zYv yX6_shiftWith RX6 cX6_shiftWith 7 (some .int) 5 := ⟨zw_448, zw_449, zw_404, zw_440, ⟨by decide, by decide⟩, by decide +kernel⟩
set_option maxHeartbeats 4000000 in
set_option maxRecDepth 100000 in
theorem k_X6_shiftWith (l : Launch) (N : Nat) (g : zEnv) (a_this a_score a_shifts a_heldTicks a_score_cells : Nat) (v_score_size : Int32) (v_score_cells : Nat → Int32) (x1 : Int32) (x2 : Int32) (x3 : Int32) (x4 : Int32) (x5 : Int32) (r : Int32) (h : f_X6_shiftWith N v_score_size v_score_cells x1 x2 x3 x4 x5 = some r) : ZR l yX6_shiftWith cX6_shiftWith 7 (some .int) rm_X6_shiftWith g [.ref a_this, .int x1, .int x2, .int x3, .int x4, .int x5] [zo_X6 a_this a_score a_shifts a_heldTicks, zo_X4 a_score a_score_cells v_score_size, (a_score_cells, .inl (zI g, 912, .inl v_score_cells))] (some (.int r)) := by
  refine zR_of (by decide) (Nat.le_of_ble_eq_true rfl) ?_
  intro p e s m below meth c A ls Q R F hRm hr hlocks hP hD hS hl hQ
  subst hRm
  have F : zF p m c cX6_shiftWith 7 s (([.ref a_this, .int x1, .int x2, .int x3, .int x4, .int x5] : List Value)).toArray RX6 g A := F
  have hx := F.1.1
  have hb := F.1.2.1
  have hz := F.1.2.2.2.2
  have hl : lv_has ls 7 [(0, .ref a_this), (1, .int x1), (2, .int x2), (3, .int x3), (4, .int x4), (5, .int x5)] := hl
  unfold f_X6_shiftWith at h
  refine lv_aload_n hx hb dX6_shiftWith_0 rfl (lv_at hl 0 rfl) ?_
  refine z_get (C := RX6) (T := TX6) (N := 3) (ci := 5) F zu_wsX60 hP 0 rfl rfl 0 (by decide) zw_399 rfl dX6_shiftWith_1 ?_
  refine lv_iload_n hx hb dX6_shiftWith_4 rfl (lv_at hl 1 rfl) ?_
  refine lv_iload_n hx hb dX6_shiftWith_5 rfl (lv_at hl 2 rfl) ?_
  refine lv_iload_n hx hb dX6_shiftWith_6 rfl (lv_at hl 3 rfl) ?_
  obtain ⟨r1_, hr1_, h⟩ := z_bind h
  refine zRV F (k_X4_code l N g a_score a_score_cells v_score_size v_score_cells x1 x2 x3 _ hr1_) zy_X4_code zw_407 hP hD hS [1, 2] rfl rfl (q0 := 1) (he := rfl) (hc := rfl) (rest := []) rfl hl.1 rfl (Nat.le_of_ble_eq_true rfl) ⟨rfl, rfl⟩ ⟨Nat.le_of_ble_eq_true rfl, Nat.le_of_ble_eq_true rfl⟩ ⟨Nat.zero_le _, Nat.zero_le _⟩ dX6_shiftWith_7 (st1 := [.int r1_]) rfl ?_
  obtain ⟨r2_, hr2_, h⟩ := z_bind h
  refine zRS F (k_X0_signOf l N g r1_ _ hr2_) zy_X0_signOf zw_431 hP hD hS [] rfl rfl (rest := []) rfl hl.1 rfl (Nat.le_of_ble_eq_true rfl) ⟨rfl, rfl⟩ ⟨Nat.le_of_ble_eq_true rfl, Nat.le_of_ble_eq_true rfl⟩ ⟨Nat.zero_le _, Nat.zero_le _⟩ dX6_shiftWith_10 (st1 := [.int r2_]) rfl ?_
  refine lv_istore (lv' := [(6, .int r2_), (0, .ref a_this), (1, .int x1), (2, .int x2), (3, .int x3), (4, .int x4), (5, .int x5)]) hx hb dX6_shiftWith_13 hl (by decide) rfl (fun ls hl => ?_)
  refine lv_iload hx hb dX6_shiftWith_15 (lv_at hl 0 rfl) ?_
  refine z_eq (tgt := 28) hx hb dX6_shiftWith_17 (by decide) h (fun h => ?_) (fun h => ?_)
  · refine lv_aload_n hx hb dX6_shiftWith_28 rfl (lv_at hl 1 rfl) ?_
    refine lv_iload_n hx hb dX6_shiftWith_29 rfl (lv_at hl 2 rfl) ?_
    refine lv_iload_n hx hb dX6_shiftWith_30 rfl (lv_at hl 3 rfl) ?_
    refine lv_iload_n hx hb dX6_shiftWith_31 rfl (lv_at hl 4 rfl) ?_
    refine lv_iload hx hb dX6_shiftWith_32 (lv_at hl 5 rfl) ?_
    refine lv_iload hx hb dX6_shiftWith_34 (lv_at hl 6 rfl) ?_
    obtain ⟨r3_, hr3_, h⟩ := z_bind h
    refine zRV F (k_X6_shiftWithoutSign l N g a_this a_score a_shifts a_heldTicks a_score_cells v_score_size v_score_cells x1 x2 x3 x4 x5 _ hr3_) zy_X6_shiftWithoutSign zw_437 hP hD hS [0, 1, 2] rfl rfl (q0 := 0) (he := rfl) (hc := rfl) (rest := []) rfl hl.1 rfl (Nat.le_of_ble_eq_true rfl) ⟨rfl, rfl⟩ ⟨Nat.le_of_ble_eq_true rfl, Nat.le_of_ble_eq_true rfl⟩ ⟨Nat.zero_le _, Nat.zero_le _⟩ dX6_shiftWith_36 (st1 := [.int r3_]) rfl ?_
    obtain rfl := Option.some.inj h
    exact zR_i F hr hlocks hQ dX6_shiftWith_39
  · refine lv_iload hx hb dX6_shiftWith_20 (lv_at hl 0 rfl) ?_
    obtain ⟨r4_, hr4_, h⟩ := z_bind h
    refine zRS F (k_X6_signShift l N g r2_ _ hr4_) zy_X6_signShift zw_432 hP hD hS [] rfl rfl (rest := []) rfl hl.1 rfl (Nat.le_of_ble_eq_true rfl) ⟨rfl, rfl⟩ ⟨Nat.le_of_ble_eq_true rfl, Nat.le_of_ble_eq_true rfl⟩ ⟨Nat.zero_le _, Nat.zero_le _⟩ dX6_shiftWith_22 (st1 := [.int r4_]) rfl ?_
    refine lv_goto (tgt := 39) hx hb dX6_shiftWith_25 (by decide) ?_
    obtain rfl := Option.some.inj h
    exact zR_i F hr hlocks hQ dX6_shiftWith_39
def f_X6_put (N : Nat) (n_p0 : Nat) (v_p0 : Nat → Int32) (x1 : Int32) (x2 : Int32) : Option (Nat → Int32) :=
  if x1 < 0 then some v_p0 else if x1 < (Int32.ofNat n_p0) then Option.bind (zAst v_p0 n_p0 x1 x2) (fun (w1_ : Nat → Int32) => some w1_) else some v_p0
abbrev rm_X6_put : Room := { frames := 0, cells := 0, slots := 0, locals := 0 }
theorem zy_X6_put : zYs yX6_put cX6_put 3 none 3 := ⟨zw_451, zw_404, zw_441, ⟨by decide, by decide⟩, by decide +kernel⟩
set_option maxHeartbeats 4000000 in
set_option maxRecDepth 100000 in
theorem k_X6_put (l : Launch) (N : Nat) (g : zEnv) (a_p0 : Nat) (n_p0 : Nat) (v_p0 : Nat → Int32) (x1 : Int32) (x2 : Int32) (r : (Nat → Int32)) (h : f_X6_put N n_p0 v_p0 x1 x2 = some r) : ZV l yX6_put cX6_put 3 none rm_X6_put g [.ref a_p0, .int x1, .int x2] [(a_p0, .inl (zI g, n_p0, .inl v_p0))] [(a_p0, .inl (zI g, n_p0, .inl r))] none := by
  refine zV_of (by decide) (Nat.le_of_ble_eq_true rfl) ?_
  intro p e s m below meth c A H locs ls Q R F hRm hr hlocks hP hD hS hl hQ
  subst hRm
  have F : zF p m c cX6_put 3 s (([.ref a_p0, .int x1, .int x2] : List Value)).toArray RX6 g A := F
  have hx := F.1.1
  have hb := F.1.2.1
  have hz := F.1.2.2.2.2
  have hl : lv_has ls 3 [(0, .ref a_p0), (1, .int x1), (2, .int x2)] := hl
  unfold f_X6_put at h
  refine lv_iload_n hx hb dX6_put_0 rfl (lv_at hl 1 rfl) ?_
  refine z_lt (tgt := 14) hx hb dX6_put_1 (by decide) h (fun h => ?_) (fun h => ?_)
  · obtain rfl := Option.some.inj h
    exact zV_v F hr hlocks hQ hP hD hS dX6_put_14
  · refine lv_iload_n hx hb dX6_put_4 rfl (lv_at hl 1 rfl) ?_
    refine lv_aload_n hx hb dX6_put_5 rfl (lv_at hl 0 rfl) ?_
    refine va_alen (v := (Int32.ofNat n_p0)) hx hb F.2.1 hP 0 0 rfl rfl rfl dX6_put_6 ?_
    refine z_cge (tgt := 14) hx hb dX6_put_7 (by decide) h (fun h => ?_) (fun h => ?_)
    · obtain rfl := Option.some.inj h
      exact zV_v F hr hlocks hQ hP hD hS dX6_put_14
    · refine lv_aload_n hx hb dX6_put_10 rfl (lv_at hl 0 rfl) ?_
      refine lv_iload_n hx hb dX6_put_11 rfl (lv_at hl 1 rfl) ?_
      refine lv_iload_n hx hb dX6_put_12 rfl (lv_at hl 2 rfl) ?_
      refine z_iast F hP hD hS 0 rfl dX6_put_13 h (W1 := fun w1_ => [(a_p0, .inl (zI g, n_p0, .inl w1_))]) (fun _ => rfl) (fun w1_ H locs h hP hD hS => ?_)
      obtain rfl := Option.some.inj h
      exact zV_v F hr hlocks hQ hP hD hS dX6_put_14
def f_X6_findShifts_B42 (N : Nat) (v_score_size : Int32) (v_score_cells : Nat → Int32) (v2_ : Int32 × (Nat → Int32)) (v25_ : Int32 × (Nat → Int32)) (r3_ : Int32) (kh42_ : Int32 × Int32 × (Nat → Int32) → Option (Nat → Int32)) (v42_ : Int32 × Int32 × (Nat → Int32)) : Option (Nat → Int32) :=
  Option.bind (f_X4_count N v_score_size v_score_cells v2_.1 v25_.1) (fun (r9_ : Int32) => if v42_.2.1 < r9_ then Option.bind (f_X6_shiftWith N v_score_size v_score_cells v2_.1 v25_.1 v42_.2.1 r3_ v42_.1) (fun (r10_ : Int32) => Option.bind (f_X6_slot N v2_.1 v25_.1 v42_.2.1) (fun (r11_ : Int32) => Option.bind (f_X6_put N 768 v42_.2.2 r11_ r10_) (fun (r12_ : (Nat → Int32)) => Option.bind (some (v42_.2.1 + 1)) (fun (x13_ : Int32) => kh42_ (r10_, x13_, r12_))))) else some v42_.2.2)
def f_X6_findShifts_B25 (N : Nat) (v_score_size : Int32) (v_score_cells : Nat → Int32) (v2_ : Int32 × (Nat → Int32)) (r3_ : Int32) (kh25_ : Int32 × (Nat → Int32) → Option (Nat → Int32)) (v25_ : Int32 × (Nat → Int32)) : Option (Nat → Int32) :=
  if v25_.1 < 2 then Option.bind (f_X6_shiftBefore N v_score_size v25_.2 v_score_cells v2_.1 v25_.1 0) (fun (r6_ : Int32) => Option.bind (zLoop (f_X6_findShifts_B42 N v_score_size v_score_cells v2_ v25_ r3_) N (r6_, 0, v25_.2)) (fun (r7_ : (Nat → Int32)) => Option.bind (some (v25_.1 + 1)) (fun (x8_ : Int32) => kh25_ (x8_, r7_)))) else some v25_.2
def f_X6_findShifts_B2 (N : Nat) (v_score_size : Int32) (v_score_cells : Nat → Int32) (kh2_ : Int32 × (Nat → Int32) → Option (Nat → Int32)) (v2_ : Int32 × (Nat → Int32)) : Option (Nat → Int32) :=
  Option.bind (f_X4_size N v_score_size) (fun (r2_ : Int32) => if v2_.1 < r2_ then Option.bind (f_X4_value N v_score_size v_score_cells v2_.1 0) (fun (r3_ : Int32) => Option.bind (zLoop (f_X6_findShifts_B25 N v_score_size v_score_cells v2_ r3_) N (0, v2_.2)) (fun (r4_ : (Nat → Int32)) => Option.bind (some (v2_.1 + 1)) (fun (x5_ : Int32) => kh2_ (x5_, r4_)))) else some v2_.2)
def f_X6_findShifts (N : Nat) (v_score_size : Int32) (v_shifts : Nat → Int32) (v_score_cells : Nat → Int32) : Option (Nat → Int32) :=
  Option.bind (zLoop (f_X6_findShifts_B2 N v_score_size v_score_cells) N (0, v_shifts)) (fun (r1_ : (Nat → Int32)) => some r1_)
abbrev rm_X6_findShifts : Room := { frames := 5, cells := 0, slots := 0, locals := 125 }
theorem zy_X6_findShifts : zYv yX6_findShifts RX6 cX6_findShifts 6 none 0 := ⟨zw_508, zw_509, zw_404, zw_452, ⟨by decide, by decide⟩, by decide +kernel⟩
set_option maxHeartbeats 4000000 in
set_option maxRecDepth 100000 in
theorem k_X6_findShifts (l : Launch) (N : Nat) (g : zEnv) (a_this a_score a_shifts a_heldTicks a_score_cells : Nat) (v_score_size : Int32) (v_shifts : Nat → Int32) (v_score_cells : Nat → Int32) (r : (Nat → Int32)) (h : f_X6_findShifts N v_score_size v_shifts v_score_cells = some r) : ZV l yX6_findShifts cX6_findShifts 6 none rm_X6_findShifts g [.ref a_this] [zo_X6 a_this a_score a_shifts a_heldTicks, zo_X4 a_score a_score_cells v_score_size, (a_shifts, .inl (zI g, 768, .inl v_shifts)), (a_score_cells, .inl (zI g, 912, .inl v_score_cells))] [zo_X6 a_this a_score a_shifts a_heldTicks, zo_X4 a_score a_score_cells v_score_size, (a_shifts, .inl (zI g, 768, .inl r)), (a_score_cells, .inl (zI g, 912, .inl v_score_cells))] none := by
  refine zV_of (by decide) (Nat.le_of_ble_eq_true rfl) ?_
  intro p e s m below meth c A H locs ls Q R F hRm hr hlocks hP hD hS hl hQ
  subst hRm
  have F : zF p m c cX6_findShifts 6 s (([.ref a_this] : List Value)).toArray RX6 g A := F
  have hx := F.1.1
  have hb := F.1.2.1
  have hz := F.1.2.2.2.2
  have hl : lv_has ls 6 [(0, .ref a_this)] := hl
  unfold f_X6_findShifts at h
  refine lv_iconst (v := 0) hx hb dX6_findShifts_0 (by decide) ?_
  refine lv_istore_n (lv' := [(1, .int 0), (0, .ref a_this)]) hx hb dX6_findShifts_1 rfl hl (by decide) rfl (fun ls hl => ?_)
  obtain ⟨r1_, hA2_, h⟩ := z_bind h
  have k103_ : ∀ (H : Heap) (locs : List Loc) (ls : Array Slot), va_P (zD g) vwCl [zo_X6 a_this a_score a_shifts a_heldTicks, zo_X4 a_score a_score_cells v_score_size, (a_shifts, .inl (zI g, 768, .inl r1_)), (a_score_cells, .inl (zI g, 912, .inl v_score_cells))] H → va_D A [zo_X6 a_this a_score a_shifts a_heldTicks, zo_X4 a_score a_score_cells v_score_size, (a_shifts, .inl (zI g, 768, .inl r1_)), (a_score_cells, .inl (zI g, 912, .inl v_score_cells))] → va_S A s.heap H locs → lv_has ls 6 [] → W p l e rm_X6_findShifts s m (([.ref a_this] : List Value)).toArray below meth c H locs 0 0 Q (F0 m 103 ls []) := by
    intro H locs ls hP hD hS hl
    obtain rfl := Option.some.inj h
    exact zV_v F hr hlocks hQ hP hD hS dX6_findShifts_103
  have h := hA2_
  have l2_ : ∀ (n2_ : Nat) (v2_ : Int32 × (Nat → Int32)), zLoop (f_X6_findShifts_B2 N v_score_size v_score_cells) n2_ v2_ = some r1_ → ∀ (H : Heap) (locs : List Loc) (ls : Array Slot), va_P (zD g) vwCl [zo_X6 a_this a_score a_shifts a_heldTicks, zo_X4 a_score a_score_cells v_score_size, (a_shifts, .inl (zI g, 768, .inl v2_.2)), (a_score_cells, .inl (zI g, 912, .inl v_score_cells))] H → va_D A [zo_X6 a_this a_score a_shifts a_heldTicks, zo_X4 a_score a_score_cells v_score_size, (a_shifts, .inl (zI g, 768, .inl v2_.2)), (a_score_cells, .inl (zI g, 912, .inl v_score_cells))] → va_S A s.heap H locs → lv_has ls 6 [(0, .ref a_this), (1, .int v2_.1)] → W p l e rm_X6_findShifts s m (([.ref a_this] : List Value)).toArray below meth c H locs 0 0 Q (F0 m 2 ls []) := by
    intro n2_
    induction n2_ with
    | zero => intro v2_ h; cases h
    | succ n2_ ih2_ =>
      intro v2_ h H locs ls hP hD hS hl
      have h : f_X6_findShifts_B2 N v_score_size v_score_cells (zLoop (f_X6_findShifts_B2 N v_score_size v_score_cells) n2_) v2_ = some r1_ := h
      unfold f_X6_findShifts_B2 at h
      refine lv_iload_n hx hb dX6_findShifts_2 rfl (lv_at hl 1 rfl) ?_
      refine lv_aload_n hx hb dX6_findShifts_3 rfl (lv_at hl 0 rfl) ?_
      refine z_get (C := RX6) (T := TX6) (N := 3) (ci := 5) F zu_wsX60 hP 0 rfl rfl 0 (by decide) zw_399 rfl dX6_findShifts_4 ?_
      obtain ⟨r2_, hr2_, h⟩ := z_bind h
      refine zRV F (k_X4_size l N g a_score a_score_cells v_score_size _ hr2_) zy_X4_size zw_442 hP hD hS [1] rfl rfl (q0 := 1) (he := rfl) (hc := rfl) (rest := [.int v2_.1]) rfl hl.1 rfl (Nat.le_of_ble_eq_true rfl) ⟨rfl, rfl⟩ ⟨Nat.le_of_ble_eq_true rfl, Nat.le_of_ble_eq_true rfl⟩ ⟨Nat.zero_le _, Nat.zero_le _⟩ dX6_findShifts_7 (st1 := [.int r2_, .int v2_.1]) rfl ?_
      refine z_cge (tgt := 103) hx hb dX6_findShifts_10 (by decide) h (fun h => ?_) (fun h => ?_)
      · obtain rfl := Option.some.inj h
        exact k103_ _ _ _ hP hD hS (lv_sub hl [] rfl)
      · refine lv_aload_n hx hb dX6_findShifts_13 rfl (lv_at hl 0 rfl) ?_
        refine z_get (C := RX6) (T := TX6) (N := 3) (ci := 5) F zu_wsX60 hP 0 rfl rfl 0 (by decide) zw_399 rfl dX6_findShifts_14 ?_
        refine lv_iload_n hx hb dX6_findShifts_17 rfl (lv_at hl 1 rfl) ?_
        refine lv_iconst (v := 0) hx hb dX6_findShifts_18 (by decide) ?_
        obtain ⟨r3_, hr3_, h⟩ := z_bind h
        refine zRV F (k_X4_value l N g a_score a_score_cells v_score_size v_score_cells v2_.1 0 _ hr3_) zy_X4_value zw_443 hP hD hS [1, 3] rfl rfl (q0 := 1) (he := rfl) (hc := rfl) (rest := []) rfl hl.1 rfl (Nat.le_of_ble_eq_true rfl) ⟨rfl, rfl⟩ ⟨Nat.le_of_ble_eq_true rfl, Nat.le_of_ble_eq_true rfl⟩ ⟨Nat.zero_le _, Nat.zero_le _⟩ dX6_findShifts_19 (st1 := [.int r3_]) rfl ?_
        refine lv_istore_n (lv' := [(2, .int r3_), (0, .ref a_this), (1, .int v2_.1)]) hx hb dX6_findShifts_22 rfl hl (by decide) rfl (fun ls hl => ?_)
        refine lv_iconst (v := 0) hx hb dX6_findShifts_23 (by decide) ?_
        refine lv_istore_n (lv' := [(3, .int 0), (2, .int r3_), (0, .ref a_this), (1, .int v2_.1)]) hx hb dX6_findShifts_24 rfl hl (by decide) rfl (fun ls hl => ?_)
        obtain ⟨r4_, hA25_, h⟩ := z_bind h
        have k97_ : ∀ (H : Heap) (locs : List Loc) (ls : Array Slot), va_P (zD g) vwCl [zo_X6 a_this a_score a_shifts a_heldTicks, zo_X4 a_score a_score_cells v_score_size, (a_shifts, .inl (zI g, 768, .inl r4_)), (a_score_cells, .inl (zI g, 912, .inl v_score_cells))] H → va_D A [zo_X6 a_this a_score a_shifts a_heldTicks, zo_X4 a_score a_score_cells v_score_size, (a_shifts, .inl (zI g, 768, .inl r4_)), (a_score_cells, .inl (zI g, 912, .inl v_score_cells))] → va_S A s.heap H locs → lv_has ls 6 [(0, .ref a_this), (1, .int v2_.1)] → W p l e rm_X6_findShifts s m (([.ref a_this] : List Value)).toArray below meth c H locs 0 0 Q (F0 m 97 ls []) := by
          intro H locs ls hP hD hS hl
          refine z_nm h (fun x5_ ex5_ h => ?_)
          refine lv_iinc (v := x5_) (lv' := [(1, .int x5_), (0, .ref a_this)]) hx hb dX6_findShifts_97 hl (k := 1) rfl (by rw [ex5_]; rfl) (by decide) rfl (fun ls hl => ?_)
          refine lv_goto (tgt := 2) hx hb dX6_findShifts_100 (by decide) ?_
          exact ih2_ _ h _ _ _ hP hD hS (lv_sub hl [1, 0] rfl)
        have h := hA25_
        have l25_ : ∀ (n25_ : Nat) (v25_ : Int32 × (Nat → Int32)), zLoop (f_X6_findShifts_B25 N v_score_size v_score_cells v2_ r3_) n25_ v25_ = some r4_ → ∀ (H : Heap) (locs : List Loc) (ls : Array Slot), va_P (zD g) vwCl [zo_X6 a_this a_score a_shifts a_heldTicks, zo_X4 a_score a_score_cells v_score_size, (a_shifts, .inl (zI g, 768, .inl v25_.2)), (a_score_cells, .inl (zI g, 912, .inl v_score_cells))] H → va_D A [zo_X6 a_this a_score a_shifts a_heldTicks, zo_X4 a_score a_score_cells v_score_size, (a_shifts, .inl (zI g, 768, .inl v25_.2)), (a_score_cells, .inl (zI g, 912, .inl v_score_cells))] → va_S A s.heap H locs → lv_has ls 6 [(0, .ref a_this), (1, .int v2_.1), (2, .int r3_), (3, .int v25_.1)] → W p l e rm_X6_findShifts s m (([.ref a_this] : List Value)).toArray below meth c H locs 0 0 Q (F0 m 25 ls []) := by
          intro n25_
          induction n25_ with
          | zero => intro v25_ h; cases h
          | succ n25_ ih25_ =>
            intro v25_ h H locs ls hP hD hS hl
            have h : f_X6_findShifts_B25 N v_score_size v_score_cells v2_ r3_ (zLoop (f_X6_findShifts_B25 N v_score_size v_score_cells v2_ r3_) n25_) v25_ = some r4_ := h
            unfold f_X6_findShifts_B25 at h
            refine lv_iload_n hx hb dX6_findShifts_25 rfl (lv_at hl 3 rfl) ?_
            refine lv_iconst (v := 2) hx hb dX6_findShifts_26 (by decide) ?_
            refine z_cge (tgt := 97) hx hb dX6_findShifts_27 (by decide) h (fun h => ?_) (fun h => ?_)
            · obtain rfl := Option.some.inj h
              exact k97_ _ _ _ hP hD hS (lv_sub hl [0, 1] rfl)
            · refine lv_aload_n hx hb dX6_findShifts_30 rfl (lv_at hl 0 rfl) ?_
              refine lv_iload_n hx hb dX6_findShifts_31 rfl (lv_at hl 1 rfl) ?_
              refine lv_iload_n hx hb dX6_findShifts_32 rfl (lv_at hl 3 rfl) ?_
              refine lv_iconst (v := 0) hx hb dX6_findShifts_33 (by decide) ?_
              obtain ⟨r6_, hr6_, h⟩ := z_bind h
              refine zRV F (k_X6_shiftBefore l N g a_this a_score a_shifts a_heldTicks a_score_cells v_score_size v25_.2 v_score_cells v2_.1 v25_.1 0 _ hr6_) zy_X6_shiftBefore zw_444 hP hD hS [0, 1, 2, 3] rfl rfl (q0 := 0) (he := rfl) (hc := rfl) (rest := []) rfl hl.1 rfl (Nat.le_of_ble_eq_true rfl) ⟨rfl, rfl⟩ ⟨Nat.le_of_ble_eq_true rfl, Nat.le_of_ble_eq_true rfl⟩ ⟨Nat.zero_le _, Nat.zero_le _⟩ dX6_findShifts_34 (st1 := [.int r6_]) rfl ?_
              refine lv_istore (lv' := [(4, .int r6_), (0, .ref a_this), (1, .int v2_.1), (2, .int r3_), (3, .int v25_.1)]) hx hb dX6_findShifts_37 hl (by decide) rfl (fun ls hl => ?_)
              refine lv_iconst (v := 0) hx hb dX6_findShifts_39 (by decide) ?_
              refine lv_istore (lv' := [(5, .int 0), (4, .int r6_), (0, .ref a_this), (1, .int v2_.1), (2, .int r3_), (3, .int v25_.1)]) hx hb dX6_findShifts_40 hl (by decide) rfl (fun ls hl => ?_)
              obtain ⟨r7_, hA42_, h⟩ := z_bind h
              have k91_ : ∀ (H : Heap) (locs : List Loc) (ls : Array Slot), va_P (zD g) vwCl [zo_X6 a_this a_score a_shifts a_heldTicks, zo_X4 a_score a_score_cells v_score_size, (a_shifts, .inl (zI g, 768, .inl r7_)), (a_score_cells, .inl (zI g, 912, .inl v_score_cells))] H → va_D A [zo_X6 a_this a_score a_shifts a_heldTicks, zo_X4 a_score a_score_cells v_score_size, (a_shifts, .inl (zI g, 768, .inl r7_)), (a_score_cells, .inl (zI g, 912, .inl v_score_cells))] → va_S A s.heap H locs → lv_has ls 6 [(0, .ref a_this), (1, .int v2_.1), (2, .int r3_), (3, .int v25_.1)] → W p l e rm_X6_findShifts s m (([.ref a_this] : List Value)).toArray below meth c H locs 0 0 Q (F0 m 91 ls []) := by
                intro H locs ls hP hD hS hl
                refine z_nm h (fun x8_ ex8_ h => ?_)
                refine lv_iinc (v := x8_) (lv' := [(3, .int x8_), (0, .ref a_this), (1, .int v2_.1), (2, .int r3_)]) hx hb dX6_findShifts_91 hl (k := 3) rfl (by rw [ex8_]; rfl) (by decide) rfl (fun ls hl => ?_)
                refine lv_goto (tgt := 25) hx hb dX6_findShifts_94 (by decide) ?_
                exact ih25_ _ h _ _ _ hP hD hS (lv_sub hl [1, 2, 3, 0] rfl)
              have h := hA42_
              have l42_ : ∀ (n42_ : Nat) (v42_ : Int32 × Int32 × (Nat → Int32)), zLoop (f_X6_findShifts_B42 N v_score_size v_score_cells v2_ v25_ r3_) n42_ v42_ = some r7_ → ∀ (H : Heap) (locs : List Loc) (ls : Array Slot), va_P (zD g) vwCl [zo_X6 a_this a_score a_shifts a_heldTicks, zo_X4 a_score a_score_cells v_score_size, (a_shifts, .inl (zI g, 768, .inl v42_.2.2)), (a_score_cells, .inl (zI g, 912, .inl v_score_cells))] H → va_D A [zo_X6 a_this a_score a_shifts a_heldTicks, zo_X4 a_score a_score_cells v_score_size, (a_shifts, .inl (zI g, 768, .inl v42_.2.2)), (a_score_cells, .inl (zI g, 912, .inl v_score_cells))] → va_S A s.heap H locs → lv_has ls 6 [(0, .ref a_this), (1, .int v2_.1), (2, .int r3_), (3, .int v25_.1), (4, .int v42_.1), (5, .int v42_.2.1)] → W p l e rm_X6_findShifts s m (([.ref a_this] : List Value)).toArray below meth c H locs 0 0 Q (F0 m 42 ls []) := by
                intro n42_
                induction n42_ with
                | zero => intro v42_ h; cases h
                | succ n42_ ih42_ =>
                  intro v42_ h H locs ls hP hD hS hl
                  have h : f_X6_findShifts_B42 N v_score_size v_score_cells v2_ v25_ r3_ (zLoop (f_X6_findShifts_B42 N v_score_size v_score_cells v2_ v25_ r3_) n42_) v42_ = some r7_ := h
                  unfold f_X6_findShifts_B42 at h
                  refine lv_iload hx hb dX6_findShifts_42 (lv_at hl 5 rfl) ?_
                  refine lv_aload_n hx hb dX6_findShifts_44 rfl (lv_at hl 0 rfl) ?_
                  refine z_get (C := RX6) (T := TX6) (N := 3) (ci := 5) F zu_wsX60 hP 0 rfl rfl 0 (by decide) zw_399 rfl dX6_findShifts_45 ?_
                  refine lv_iload_n hx hb dX6_findShifts_48 rfl (lv_at hl 1 rfl) ?_
                  refine lv_iload_n hx hb dX6_findShifts_49 rfl (lv_at hl 3 rfl) ?_
                  obtain ⟨r9_, hr9_, h⟩ := z_bind h
                  refine zRV F (k_X4_count l N g a_score a_score_cells v_score_size v_score_cells v2_.1 v25_.1 _ hr9_) zy_X4_count zw_421 hP hD hS [1, 3] rfl rfl (q0 := 1) (he := rfl) (hc := rfl) (rest := [.int v42_.2.1]) rfl hl.1 rfl (Nat.le_of_ble_eq_true rfl) ⟨rfl, rfl⟩ ⟨Nat.le_of_ble_eq_true rfl, Nat.le_of_ble_eq_true rfl⟩ ⟨Nat.zero_le _, Nat.zero_le _⟩ dX6_findShifts_50 (st1 := [.int r9_, .int v42_.2.1]) rfl ?_
                  refine z_cge (tgt := 91) hx hb dX6_findShifts_53 (by decide) h (fun h => ?_) (fun h => ?_)
                  · obtain rfl := Option.some.inj h
                    exact k91_ _ _ _ hP hD hS (lv_sub hl [0, 1, 2, 3] rfl)
                  · refine lv_aload_n hx hb dX6_findShifts_56 rfl (lv_at hl 0 rfl) ?_
                    refine lv_iload_n hx hb dX6_findShifts_57 rfl (lv_at hl 1 rfl) ?_
                    refine lv_iload_n hx hb dX6_findShifts_58 rfl (lv_at hl 3 rfl) ?_
                    refine lv_iload hx hb dX6_findShifts_59 (lv_at hl 5 rfl) ?_
                    refine lv_iload_n hx hb dX6_findShifts_61 rfl (lv_at hl 2 rfl) ?_
                    refine lv_iload hx hb dX6_findShifts_62 (lv_at hl 4 rfl) ?_
                    obtain ⟨r10_, hr10_, h⟩ := z_bind h
                    refine zRV F (k_X6_shiftWith l N g a_this a_score a_shifts a_heldTicks a_score_cells v_score_size v_score_cells v2_.1 v25_.1 v42_.2.1 r3_ v42_.1 _ hr10_) zy_X6_shiftWith zw_447 hP hD hS [0, 1, 3] rfl rfl (q0 := 0) (he := rfl) (hc := rfl) (rest := []) rfl hl.1 rfl (Nat.le_of_ble_eq_true rfl) ⟨rfl, rfl⟩ ⟨Nat.le_of_ble_eq_true rfl, Nat.le_of_ble_eq_true rfl⟩ ⟨Nat.zero_le _, Nat.zero_le _⟩ dX6_findShifts_64 (st1 := [.int r10_]) rfl ?_
                    refine lv_istore (lv' := [(4, .int r10_), (0, .ref a_this), (1, .int v2_.1), (2, .int r3_), (3, .int v25_.1), (5, .int v42_.2.1)]) hx hb dX6_findShifts_67 hl (by decide) rfl (fun ls hl => ?_)
                    refine lv_aload_n hx hb dX6_findShifts_69 rfl (lv_at hl 1 rfl) ?_
                    refine z_get (C := RX6) (T := TX6) (N := 3) (ci := 5) F zu_wsX60 hP 0 rfl rfl 1 (by decide) zw_397 rfl dX6_findShifts_70 ?_
                    refine lv_iload_n hx hb dX6_findShifts_73 rfl (lv_at hl 2 rfl) ?_
                    refine lv_iload_n hx hb dX6_findShifts_74 rfl (lv_at hl 4 rfl) ?_
                    refine lv_iload hx hb dX6_findShifts_75 (lv_at hl 5 rfl) ?_
                    obtain ⟨r11_, hr11_, h⟩ := z_bind h
                    refine zRS F (k_X6_slot l N g v2_.1 v25_.1 v42_.2.1 _ hr11_) zy_X6_slot zw_402 hP hD hS [] rfl rfl (rest := [.ref a_shifts]) rfl hl.1 rfl (Nat.le_of_ble_eq_true rfl) ⟨rfl, rfl⟩ ⟨Nat.le_of_ble_eq_true rfl, Nat.le_of_ble_eq_true rfl⟩ ⟨Nat.zero_le _, Nat.zero_le _⟩ dX6_findShifts_77 (st1 := [.int r11_, .ref a_shifts]) rfl ?_
                    refine lv_iload hx hb dX6_findShifts_80 (lv_at hl 0 rfl) ?_
                    obtain ⟨r12_, hr12_, h⟩ := z_bind h
                    refine zVS F (k_X6_put l N g a_shifts 768 v42_.2.2 r11_ r10_ _ hr12_) zy_X6_put zw_450 hP hD hS [2] [0, 1, 3] [0, 1, 3, 2] (wr := [zo_X6 a_this a_score a_shifts a_heldTicks, zo_X4 a_score a_score_cells v_score_size, (a_score_cells, .inl (zI g, 912, .inl v_score_cells))]) (W1 := [zo_X6 a_this a_score a_shifts a_heldTicks, zo_X4 a_score a_score_cells v_score_size, (a_shifts, .inl (zI g, 768, .inl r12_)), (a_score_cells, .inl (zI g, 912, .inl v_score_cells))]) rfl rfl rfl rfl (by decide) rfl rfl (rest := []) rfl hl.1 rfl (Nat.le_of_ble_eq_true rfl) ⟨rfl, rfl⟩ ⟨Nat.le_of_ble_eq_true rfl, Nat.le_of_ble_eq_true rfl⟩ ⟨Nat.zero_le _, Nat.zero_le _⟩ dX6_findShifts_82 (st1 := []) rfl (fun H locs hP hD hS => ?_)
                    refine z_nm h (fun x13_ ex13_ h => ?_)
                    refine lv_iinc (v := x13_) (lv' := [(5, .int x13_), (4, .int r10_), (0, .ref a_this), (1, .int v2_.1), (2, .int r3_), (3, .int v25_.1)]) hx hb dX6_findShifts_85 hl (k := 5) rfl (by rw [ex13_]; rfl) (by decide) rfl (fun ls hl => ?_)
                    refine lv_goto (tgt := 42) hx hb dX6_findShifts_88 (by decide) ?_
                    exact ih42_ _ h _ _ _ hP hD hS (lv_sub hl [2, 3, 4, 5, 1, 0] rfl)
              exact l42_ N _ h _ _ _ hP hD hS (lv_sub hl [2, 3, 4, 5, 1, 0] rfl)
        exact l25_ N _ h _ _ _ hP hD hS (lv_sub hl [2, 3, 1, 0] rfl)
  exact l2_ N _ h _ _ _ hP hD hS (lv_sub hl [1, 0] rfl)
def f_X6_findHeldTicks_B44 (N : Nat) (v_score_size : Int32) (v_score_cells : Nat → Int32) (v10_ : Int32 × (Nat → Int32)) (v16_ : Int32 × (Nat → Int32)) (kh44_ : Int32 × Int32 × (Nat → Int32) → Option (Nat → Int32)) (v44_ : Int32 × Int32 × (Nat → Int32)) : Option (Nat → Int32) :=
  if v44_.2.1 < 0 then some v44_.2.2 else Option.bind (f_X4_code N v_score_size v_score_cells v10_.1 v16_.1 v44_.2.1) (fun (r11_ : Int32) => Option.bind (f_X0_ticksOf N r11_) (fun (r12_ : Int32) => Option.bind (f_X4_isHeldTie N v_score_size v_score_cells v10_.1 v16_.1 v44_.2.1) (fun (r13_ : Int32) => Option.bind (if r13_ = 0 then some r12_ else some (r12_ + v44_.1)) (fun (r14_ : Int32) => Option.bind (f_X6_slot N v10_.1 v16_.1 v44_.2.1) (fun (r15_ : Int32) => Option.bind (f_X6_put N 768 v44_.2.2 r15_ r14_) (fun (r16_ : (Nat → Int32)) => Option.bind (some (v44_.2.1 + (-1))) (fun (x17_ : Int32) => kh44_ (r14_, x17_, r16_))))))))
def f_X6_findHeldTicks_B16 (N : Nat) (v10_ : Int32 × (Nat → Int32)) (v_score_size : Int32) (v_score_cells : Nat → Int32) (kh16_ : Int32 × (Nat → Int32) → Option (Nat → Int32)) (v16_ : Int32 × (Nat → Int32)) : Option (Nat → Int32) :=
  if v16_.1 < 2 then Option.bind (f_X6_held N v16_.2 (v10_.1 + 1) v16_.1 0) (fun (r6_ : Int32) => Option.bind (f_X4_count N v_score_size v_score_cells v10_.1 v16_.1) (fun (r7_ : Int32) => Option.bind (some (r7_ - 1)) (fun (x8_ : Int32) => Option.bind (zLoop (f_X6_findHeldTicks_B44 N v_score_size v_score_cells v10_ v16_) N (r6_, x8_, v16_.2)) (fun (r9_ : (Nat → Int32)) => Option.bind (some (v16_.1 + 1)) (fun (x10_ : Int32) => kh16_ (x10_, r9_)))))) else some v16_.2
def f_X6_findHeldTicks_B10 (N : Nat) (v_score_size : Int32) (v_score_cells : Nat → Int32) (kh10_ : Int32 × (Nat → Int32) → Option (Nat → Int32)) (v10_ : Int32 × (Nat → Int32)) : Option (Nat → Int32) :=
  if v10_.1 < 0 then some v10_.2 else Option.bind (zLoop (f_X6_findHeldTicks_B16 N v10_ v_score_size v_score_cells) N (0, v10_.2)) (fun (r4_ : (Nat → Int32)) => Option.bind (some (v10_.1 + (-1))) (fun (x5_ : Int32) => kh10_ (x5_, r4_)))
def f_X6_findHeldTicks (N : Nat) (v_heldTicks : Nat → Int32) (v_score_size : Int32) (v_score_cells : Nat → Int32) : Option (Nat → Int32) :=
  Option.bind (f_X4_size N v_score_size) (fun (r1_ : Int32) => Option.bind (some (r1_ - 1)) (fun (x2_ : Int32) => Option.bind (zLoop (f_X6_findHeldTicks_B10 N v_score_size v_score_cells) N (x2_, v_heldTicks)) (fun (r3_ : (Nat → Int32)) => some r3_)))
abbrev rm_X6_findHeldTicks : Room := { frames := 4, cells := 0, slots := 0, locals := 94 }
theorem zy_X6_findHeldTicks : zYv yX6_findHeldTicks RX6 cX6_findHeldTicks 6 none 0 := ⟨zw_511, zw_512, zw_404, zw_456, ⟨by decide, by decide⟩, by decide +kernel⟩
set_option maxHeartbeats 4000000 in
set_option maxRecDepth 100000 in
theorem k_X6_findHeldTicks (l : Launch) (N : Nat) (g : zEnv) (a_this a_score a_shifts a_heldTicks a_score_cells : Nat) (v_heldTicks : Nat → Int32) (v_score_size : Int32) (v_score_cells : Nat → Int32) (r : (Nat → Int32)) (h : f_X6_findHeldTicks N v_heldTicks v_score_size v_score_cells = some r) : ZV l yX6_findHeldTicks cX6_findHeldTicks 6 none rm_X6_findHeldTicks g [.ref a_this] [zo_X6 a_this a_score a_shifts a_heldTicks, (a_heldTicks, .inl (zI g, 768, .inl v_heldTicks)), zo_X4 a_score a_score_cells v_score_size, (a_score_cells, .inl (zI g, 912, .inl v_score_cells))] [zo_X6 a_this a_score a_shifts a_heldTicks, (a_heldTicks, .inl (zI g, 768, .inl r)), zo_X4 a_score a_score_cells v_score_size, (a_score_cells, .inl (zI g, 912, .inl v_score_cells))] none := by
  refine zV_of (by decide) (Nat.le_of_ble_eq_true rfl) ?_
  intro p e s m below meth c A H locs ls Q R F hRm hr hlocks hP hD hS hl hQ
  subst hRm
  have F : zF p m c cX6_findHeldTicks 6 s (([.ref a_this] : List Value)).toArray RX6 g A := F
  have hx := F.1.1
  have hb := F.1.2.1
  have hz := F.1.2.2.2.2
  have hl : lv_has ls 6 [(0, .ref a_this)] := hl
  unfold f_X6_findHeldTicks at h
  refine lv_aload_n hx hb dX6_findHeldTicks_0 rfl (lv_at hl 0 rfl) ?_
  refine z_get (C := RX6) (T := TX6) (N := 3) (ci := 5) F zu_wsX60 hP 0 rfl rfl 0 (by decide) zw_399 rfl dX6_findHeldTicks_1 ?_
  obtain ⟨r1_, hr1_, h⟩ := z_bind h
  refine zRV F (k_X4_size l N g a_score a_score_cells v_score_size _ hr1_) zy_X4_size zw_442 hP hD hS [2] rfl rfl (q0 := 2) (he := rfl) (hc := rfl) (rest := []) rfl hl.1 rfl (Nat.le_of_ble_eq_true rfl) ⟨rfl, rfl⟩ ⟨Nat.le_of_ble_eq_true rfl, Nat.le_of_ble_eq_true rfl⟩ ⟨Nat.zero_le _, Nat.zero_le _⟩ dX6_findHeldTicks_4 (st1 := [.int r1_]) rfl ?_
  refine lv_iconst (v := 1) hx hb dX6_findHeldTicks_7 (by decide) ?_
  refine lv_isub hx hb dX6_findHeldTicks_8 ?_
  refine z_top Value.int h (fun x2_ h => ?_)
  refine lv_istore_n (lv' := [(1, .int x2_), (0, .ref a_this)]) hx hb dX6_findHeldTicks_9 rfl hl (by decide) rfl (fun ls hl => ?_)
  obtain ⟨r3_, hA10_, h⟩ := z_bind h
  have k122_ : ∀ (H : Heap) (locs : List Loc) (ls : Array Slot), va_P (zD g) vwCl [zo_X6 a_this a_score a_shifts a_heldTicks, (a_heldTicks, .inl (zI g, 768, .inl r3_)), zo_X4 a_score a_score_cells v_score_size, (a_score_cells, .inl (zI g, 912, .inl v_score_cells))] H → va_D A [zo_X6 a_this a_score a_shifts a_heldTicks, (a_heldTicks, .inl (zI g, 768, .inl r3_)), zo_X4 a_score a_score_cells v_score_size, (a_score_cells, .inl (zI g, 912, .inl v_score_cells))] → va_S A s.heap H locs → lv_has ls 6 [] → W p l e rm_X6_findHeldTicks s m (([.ref a_this] : List Value)).toArray below meth c H locs 0 0 Q (F0 m 122 ls []) := by
    intro H locs ls hP hD hS hl
    obtain rfl := Option.some.inj h
    exact zV_v F hr hlocks hQ hP hD hS dX6_findHeldTicks_122
  have h := hA10_
  have l10_ : ∀ (n10_ : Nat) (v10_ : Int32 × (Nat → Int32)), zLoop (f_X6_findHeldTicks_B10 N v_score_size v_score_cells) n10_ v10_ = some r3_ → ∀ (H : Heap) (locs : List Loc) (ls : Array Slot), va_P (zD g) vwCl [zo_X6 a_this a_score a_shifts a_heldTicks, (a_heldTicks, .inl (zI g, 768, .inl v10_.2)), zo_X4 a_score a_score_cells v_score_size, (a_score_cells, .inl (zI g, 912, .inl v_score_cells))] H → va_D A [zo_X6 a_this a_score a_shifts a_heldTicks, (a_heldTicks, .inl (zI g, 768, .inl v10_.2)), zo_X4 a_score a_score_cells v_score_size, (a_score_cells, .inl (zI g, 912, .inl v_score_cells))] → va_S A s.heap H locs → lv_has ls 6 [(0, .ref a_this), (1, .int v10_.1)] → W p l e rm_X6_findHeldTicks s m (([.ref a_this] : List Value)).toArray below meth c H locs 0 0 Q (F0 m 10 ls []) := by
    intro n10_
    induction n10_ with
    | zero => intro v10_ h; cases h
    | succ n10_ ih10_ =>
      intro v10_ h H locs ls hP hD hS hl
      have h : f_X6_findHeldTicks_B10 N v_score_size v_score_cells (zLoop (f_X6_findHeldTicks_B10 N v_score_size v_score_cells) n10_) v10_ = some r3_ := h
      unfold f_X6_findHeldTicks_B10 at h
      refine lv_iload_n hx hb dX6_findHeldTicks_10 rfl (lv_at hl 1 rfl) ?_
      refine z_lt (tgt := 122) hx hb dX6_findHeldTicks_11 (by decide) h (fun h => ?_) (fun h => ?_)
      · obtain rfl := Option.some.inj h
        exact k122_ _ _ _ hP hD hS (lv_sub hl [] rfl)
      · refine lv_iconst (v := 0) hx hb dX6_findHeldTicks_14 (by decide) ?_
        refine lv_istore_n (lv' := [(2, .int 0), (0, .ref a_this), (1, .int v10_.1)]) hx hb dX6_findHeldTicks_15 rfl hl (by decide) rfl (fun ls hl => ?_)
        obtain ⟨r4_, hA16_, h⟩ := z_bind h
        have k116_ : ∀ (H : Heap) (locs : List Loc) (ls : Array Slot), va_P (zD g) vwCl [zo_X6 a_this a_score a_shifts a_heldTicks, (a_heldTicks, .inl (zI g, 768, .inl r4_)), zo_X4 a_score a_score_cells v_score_size, (a_score_cells, .inl (zI g, 912, .inl v_score_cells))] H → va_D A [zo_X6 a_this a_score a_shifts a_heldTicks, (a_heldTicks, .inl (zI g, 768, .inl r4_)), zo_X4 a_score a_score_cells v_score_size, (a_score_cells, .inl (zI g, 912, .inl v_score_cells))] → va_S A s.heap H locs → lv_has ls 6 [(0, .ref a_this), (1, .int v10_.1)] → W p l e rm_X6_findHeldTicks s m (([.ref a_this] : List Value)).toArray below meth c H locs 0 0 Q (F0 m 116 ls []) := by
          intro H locs ls hP hD hS hl
          refine z_nm h (fun x5_ ex5_ h => ?_)
          refine lv_iinc (v := x5_) (lv' := [(1, .int x5_), (0, .ref a_this)]) hx hb dX6_findHeldTicks_116 hl (k := 1) rfl (by rw [ex5_]; rfl) (by decide) rfl (fun ls hl => ?_)
          refine lv_goto (tgt := 10) hx hb dX6_findHeldTicks_119 (by decide) ?_
          exact ih10_ _ h _ _ _ hP hD hS (lv_sub hl [1, 0] rfl)
        have h := hA16_
        have l16_ : ∀ (n16_ : Nat) (v16_ : Int32 × (Nat → Int32)), zLoop (f_X6_findHeldTicks_B16 N v10_ v_score_size v_score_cells) n16_ v16_ = some r4_ → ∀ (H : Heap) (locs : List Loc) (ls : Array Slot), va_P (zD g) vwCl [zo_X6 a_this a_score a_shifts a_heldTicks, (a_heldTicks, .inl (zI g, 768, .inl v16_.2)), zo_X4 a_score a_score_cells v_score_size, (a_score_cells, .inl (zI g, 912, .inl v_score_cells))] H → va_D A [zo_X6 a_this a_score a_shifts a_heldTicks, (a_heldTicks, .inl (zI g, 768, .inl v16_.2)), zo_X4 a_score a_score_cells v_score_size, (a_score_cells, .inl (zI g, 912, .inl v_score_cells))] → va_S A s.heap H locs → lv_has ls 6 [(0, .ref a_this), (1, .int v10_.1), (2, .int v16_.1)] → W p l e rm_X6_findHeldTicks s m (([.ref a_this] : List Value)).toArray below meth c H locs 0 0 Q (F0 m 16 ls []) := by
          intro n16_
          induction n16_ with
          | zero => intro v16_ h; cases h
          | succ n16_ ih16_ =>
            intro v16_ h H locs ls hP hD hS hl
            have h : f_X6_findHeldTicks_B16 N v10_ v_score_size v_score_cells (zLoop (f_X6_findHeldTicks_B16 N v10_ v_score_size v_score_cells) n16_) v16_ = some r4_ := h
            unfold f_X6_findHeldTicks_B16 at h
            refine lv_iload_n hx hb dX6_findHeldTicks_16 rfl (lv_at hl 2 rfl) ?_
            refine lv_iconst (v := 2) hx hb dX6_findHeldTicks_17 (by decide) ?_
            refine z_cge (tgt := 116) hx hb dX6_findHeldTicks_18 (by decide) h (fun h => ?_) (fun h => ?_)
            · obtain rfl := Option.some.inj h
              exact k116_ _ _ _ hP hD hS (lv_sub hl [0, 1] rfl)
            · refine lv_aload_n hx hb dX6_findHeldTicks_21 rfl (lv_at hl 0 rfl) ?_
              refine lv_iload_n hx hb dX6_findHeldTicks_22 rfl (lv_at hl 1 rfl) ?_
              refine lv_iconst (v := 1) hx hb dX6_findHeldTicks_23 (by decide) ?_
              refine lv_iadd hx hb dX6_findHeldTicks_24 ?_
              refine lv_iload_n hx hb dX6_findHeldTicks_25 rfl (lv_at hl 2 rfl) ?_
              refine lv_iconst (v := 0) hx hb dX6_findHeldTicks_26 (by decide) ?_
              obtain ⟨r6_, hr6_, h⟩ := z_bind h
              refine zRV F (k_X6_held l N g a_this a_score a_shifts a_heldTicks v16_.2 (v10_.1 + 1) v16_.1 0 _ hr6_) zy_X6_held zw_409 hP hD hS [0, 1] rfl rfl (q0 := 0) (he := rfl) (hc := rfl) (rest := []) rfl hl.1 rfl (Nat.le_of_ble_eq_true rfl) ⟨rfl, rfl⟩ ⟨Nat.le_of_ble_eq_true rfl, Nat.le_of_ble_eq_true rfl⟩ ⟨Nat.zero_le _, Nat.zero_le _⟩ dX6_findHeldTicks_27 (st1 := [.int r6_]) rfl ?_
              refine lv_istore_n (lv' := [(3, .int r6_), (0, .ref a_this), (1, .int v10_.1), (2, .int v16_.1)]) hx hb dX6_findHeldTicks_30 rfl hl (by decide) rfl (fun ls hl => ?_)
              refine lv_aload_n hx hb dX6_findHeldTicks_31 rfl (lv_at hl 1 rfl) ?_
              refine z_get (C := RX6) (T := TX6) (N := 3) (ci := 5) F zu_wsX60 hP 0 rfl rfl 0 (by decide) zw_399 rfl dX6_findHeldTicks_32 ?_
              refine lv_iload_n hx hb dX6_findHeldTicks_35 rfl (lv_at hl 2 rfl) ?_
              refine lv_iload_n hx hb dX6_findHeldTicks_36 rfl (lv_at hl 3 rfl) ?_
              obtain ⟨r7_, hr7_, h⟩ := z_bind h
              refine zRV F (k_X4_count l N g a_score a_score_cells v_score_size v_score_cells v10_.1 v16_.1 _ hr7_) zy_X4_count zw_421 hP hD hS [2, 3] rfl rfl (q0 := 2) (he := rfl) (hc := rfl) (rest := []) rfl hl.1 rfl (Nat.le_of_ble_eq_true rfl) ⟨rfl, rfl⟩ ⟨Nat.le_of_ble_eq_true rfl, Nat.le_of_ble_eq_true rfl⟩ ⟨Nat.zero_le _, Nat.zero_le _⟩ dX6_findHeldTicks_37 (st1 := [.int r7_]) rfl ?_
              refine lv_iconst (v := 1) hx hb dX6_findHeldTicks_40 (by decide) ?_
              refine lv_isub hx hb dX6_findHeldTicks_41 ?_
              refine z_top Value.int h (fun x8_ h => ?_)
              refine lv_istore (lv' := [(4, .int x8_), (3, .int r6_), (0, .ref a_this), (1, .int v10_.1), (2, .int v16_.1)]) hx hb dX6_findHeldTicks_42 hl (by decide) rfl (fun ls hl => ?_)
              obtain ⟨r9_, hA44_, h⟩ := z_bind h
              have k110_ : ∀ (H : Heap) (locs : List Loc) (ls : Array Slot), va_P (zD g) vwCl [zo_X6 a_this a_score a_shifts a_heldTicks, (a_heldTicks, .inl (zI g, 768, .inl r9_)), zo_X4 a_score a_score_cells v_score_size, (a_score_cells, .inl (zI g, 912, .inl v_score_cells))] H → va_D A [zo_X6 a_this a_score a_shifts a_heldTicks, (a_heldTicks, .inl (zI g, 768, .inl r9_)), zo_X4 a_score a_score_cells v_score_size, (a_score_cells, .inl (zI g, 912, .inl v_score_cells))] → va_S A s.heap H locs → lv_has ls 6 [(0, .ref a_this), (1, .int v10_.1), (2, .int v16_.1)] → W p l e rm_X6_findHeldTicks s m (([.ref a_this] : List Value)).toArray below meth c H locs 0 0 Q (F0 m 110 ls []) := by
                intro H locs ls hP hD hS hl
                refine z_nm h (fun x10_ ex10_ h => ?_)
                refine lv_iinc (v := x10_) (lv' := [(2, .int x10_), (0, .ref a_this), (1, .int v10_.1)]) hx hb dX6_findHeldTicks_110 hl (k := 2) rfl (by rw [ex10_]; rfl) (by decide) rfl (fun ls hl => ?_)
                refine lv_goto (tgt := 16) hx hb dX6_findHeldTicks_113 (by decide) ?_
                exact ih16_ _ h _ _ _ hP hD hS (lv_sub hl [1, 2, 0] rfl)
              have h := hA44_
              have l44_ : ∀ (n44_ : Nat) (v44_ : Int32 × Int32 × (Nat → Int32)), zLoop (f_X6_findHeldTicks_B44 N v_score_size v_score_cells v10_ v16_) n44_ v44_ = some r9_ → ∀ (H : Heap) (locs : List Loc) (ls : Array Slot), va_P (zD g) vwCl [zo_X6 a_this a_score a_shifts a_heldTicks, (a_heldTicks, .inl (zI g, 768, .inl v44_.2.2)), zo_X4 a_score a_score_cells v_score_size, (a_score_cells, .inl (zI g, 912, .inl v_score_cells))] H → va_D A [zo_X6 a_this a_score a_shifts a_heldTicks, (a_heldTicks, .inl (zI g, 768, .inl v44_.2.2)), zo_X4 a_score a_score_cells v_score_size, (a_score_cells, .inl (zI g, 912, .inl v_score_cells))] → va_S A s.heap H locs → lv_has ls 6 [(0, .ref a_this), (1, .int v10_.1), (2, .int v16_.1), (3, .int v44_.1), (4, .int v44_.2.1)] → W p l e rm_X6_findHeldTicks s m (([.ref a_this] : List Value)).toArray below meth c H locs 0 0 Q (F0 m 44 ls []) := by
                intro n44_
                induction n44_ with
                | zero => intro v44_ h; cases h
                | succ n44_ ih44_ =>
                  intro v44_ h H locs ls hP hD hS hl
                  have h : f_X6_findHeldTicks_B44 N v_score_size v_score_cells v10_ v16_ (zLoop (f_X6_findHeldTicks_B44 N v_score_size v_score_cells v10_ v16_) n44_) v44_ = some r9_ := h
                  unfold f_X6_findHeldTicks_B44 at h
                  refine lv_iload hx hb dX6_findHeldTicks_44 (lv_at hl 4 rfl) ?_
                  refine z_lt (tgt := 110) hx hb dX6_findHeldTicks_46 (by decide) h (fun h => ?_) (fun h => ?_)
                  · obtain rfl := Option.some.inj h
                    exact k110_ _ _ _ hP hD hS (lv_sub hl [0, 1, 2] rfl)
                  · refine lv_aload_n hx hb dX6_findHeldTicks_49 rfl (lv_at hl 0 rfl) ?_
                    refine z_get (C := RX6) (T := TX6) (N := 3) (ci := 5) F zu_wsX60 hP 0 rfl rfl 0 (by decide) zw_399 rfl dX6_findHeldTicks_50 ?_
                    refine lv_iload_n hx hb dX6_findHeldTicks_53 rfl (lv_at hl 1 rfl) ?_
                    refine lv_iload_n hx hb dX6_findHeldTicks_54 rfl (lv_at hl 2 rfl) ?_
                    refine lv_iload hx hb dX6_findHeldTicks_55 (lv_at hl 4 rfl) ?_
                    obtain ⟨r11_, hr11_, h⟩ := z_bind h
                    refine zRV F (k_X4_code l N g a_score a_score_cells v_score_size v_score_cells v10_.1 v16_.1 v44_.2.1 _ hr11_) zy_X4_code zw_407 hP hD hS [2, 3] rfl rfl (q0 := 2) (he := rfl) (hc := rfl) (rest := []) rfl hl.1 rfl (Nat.le_of_ble_eq_true rfl) ⟨rfl, rfl⟩ ⟨Nat.le_of_ble_eq_true rfl, Nat.le_of_ble_eq_true rfl⟩ ⟨Nat.zero_le _, Nat.zero_le _⟩ dX6_findHeldTicks_57 (st1 := [.int r11_]) rfl ?_
                    obtain ⟨r12_, hr12_, h⟩ := z_bind h
                    refine zRS F (k_X0_ticksOf l N g r11_ _ hr12_) zy_X0_ticksOf zw_412 hP hD hS [] rfl rfl (rest := []) rfl hl.1 rfl (Nat.le_of_ble_eq_true rfl) ⟨rfl, rfl⟩ ⟨Nat.le_of_ble_eq_true rfl, Nat.le_of_ble_eq_true rfl⟩ ⟨Nat.zero_le _, Nat.zero_le _⟩ dX6_findHeldTicks_60 (st1 := [.int r12_]) rfl ?_
                    refine lv_istore (lv' := [(5, .int r12_), (0, .ref a_this), (1, .int v10_.1), (2, .int v16_.1), (3, .int v44_.1), (4, .int v44_.2.1)]) hx hb dX6_findHeldTicks_63 hl (by decide) rfl (fun ls hl => ?_)
                    refine lv_aload_n hx hb dX6_findHeldTicks_65 rfl (lv_at hl 1 rfl) ?_
                    refine z_get (C := RX6) (T := TX6) (N := 3) (ci := 5) F zu_wsX60 hP 0 rfl rfl 0 (by decide) zw_399 rfl dX6_findHeldTicks_66 ?_
                    refine lv_iload_n hx hb dX6_findHeldTicks_69 rfl (lv_at hl 2 rfl) ?_
                    refine lv_iload_n hx hb dX6_findHeldTicks_70 rfl (lv_at hl 3 rfl) ?_
                    refine lv_iload hx hb dX6_findHeldTicks_71 (lv_at hl 5 rfl) ?_
                    obtain ⟨r13_, hr13_, h⟩ := z_bind h
                    refine zRV F (k_X4_isHeldTie l N g a_score a_score_cells v_score_size v_score_cells v10_.1 v16_.1 v44_.2.1 _ hr13_) zy_X4_isHeldTie zw_453 hP hD hS [2, 3] rfl rfl (q0 := 2) (he := rfl) (hc := rfl) (rest := []) rfl hl.1 rfl (Nat.le_of_ble_eq_true rfl) ⟨rfl, rfl⟩ ⟨Nat.le_of_ble_eq_true rfl, Nat.le_of_ble_eq_true rfl⟩ ⟨Nat.zero_le _, Nat.zero_le _⟩ dX6_findHeldTicks_73 (st1 := [.int r13_]) rfl ?_
                    obtain ⟨r14_, hA88_, h⟩ := z_bind h
                    have k88_ : ∀ (H : Heap) (locs : List Loc) (ls : Array Slot), va_P (zD g) vwCl [zo_X6 a_this a_score a_shifts a_heldTicks, (a_heldTicks, .inl (zI g, 768, .inl v44_.2.2)), zo_X4 a_score a_score_cells v_score_size, (a_score_cells, .inl (zI g, 912, .inl v_score_cells))] H → va_D A [zo_X6 a_this a_score a_shifts a_heldTicks, (a_heldTicks, .inl (zI g, 768, .inl v44_.2.2)), zo_X4 a_score a_score_cells v_score_size, (a_score_cells, .inl (zI g, 912, .inl v_score_cells))] → va_S A s.heap H locs → lv_has ls 6 [(0, .ref a_this), (1, .int v10_.1), (2, .int v16_.1), (4, .int v44_.2.1)] → W p l e rm_X6_findHeldTicks s m (([.ref a_this] : List Value)).toArray below meth c H locs 0 0 Q (F0 m 88 ls [.int r14_]) := by
                      intro H locs ls hP hD hS hl
                      refine lv_istore_n (lv' := [(3, .int r14_), (0, .ref a_this), (1, .int v10_.1), (2, .int v16_.1), (4, .int v44_.2.1)]) hx hb dX6_findHeldTicks_88 rfl hl (by decide) rfl (fun ls hl => ?_)
                      refine lv_aload_n hx hb dX6_findHeldTicks_89 rfl (lv_at hl 1 rfl) ?_
                      refine z_get (C := RX6) (T := TX6) (N := 3) (ci := 5) F zu_wsX60 hP 0 rfl rfl 2 (by decide) zw_398 rfl dX6_findHeldTicks_90 ?_
                      refine lv_iload_n hx hb dX6_findHeldTicks_93 rfl (lv_at hl 2 rfl) ?_
                      refine lv_iload_n hx hb dX6_findHeldTicks_94 rfl (lv_at hl 3 rfl) ?_
                      refine lv_iload hx hb dX6_findHeldTicks_95 (lv_at hl 4 rfl) ?_
                      obtain ⟨r15_, hr15_, h⟩ := z_bind h
                      refine zRS F (k_X6_slot l N g v10_.1 v16_.1 v44_.2.1 _ hr15_) zy_X6_slot zw_402 hP hD hS [] rfl rfl (rest := [.ref a_heldTicks]) rfl hl.1 rfl (Nat.le_of_ble_eq_true rfl) ⟨rfl, rfl⟩ ⟨Nat.le_of_ble_eq_true rfl, Nat.le_of_ble_eq_true rfl⟩ ⟨Nat.zero_le _, Nat.zero_le _⟩ dX6_findHeldTicks_97 (st1 := [.int r15_, .ref a_heldTicks]) rfl ?_
                      refine lv_iload_n hx hb dX6_findHeldTicks_100 rfl (lv_at hl 0 rfl) ?_
                      obtain ⟨r16_, hr16_, h⟩ := z_bind h
                      refine zVS F (k_X6_put l N g a_heldTicks 768 v44_.2.2 r15_ r14_ _ hr16_) zy_X6_put zw_450 hP hD hS [1] [0, 2, 3] [0, 3, 1, 2] (wr := [zo_X6 a_this a_score a_shifts a_heldTicks, zo_X4 a_score a_score_cells v_score_size, (a_score_cells, .inl (zI g, 912, .inl v_score_cells))]) (W1 := [zo_X6 a_this a_score a_shifts a_heldTicks, (a_heldTicks, .inl (zI g, 768, .inl r16_)), zo_X4 a_score a_score_cells v_score_size, (a_score_cells, .inl (zI g, 912, .inl v_score_cells))]) rfl rfl rfl rfl (by decide) rfl rfl (rest := []) rfl hl.1 rfl (Nat.le_of_ble_eq_true rfl) ⟨rfl, rfl⟩ ⟨Nat.le_of_ble_eq_true rfl, Nat.le_of_ble_eq_true rfl⟩ ⟨Nat.zero_le _, Nat.zero_le _⟩ dX6_findHeldTicks_101 (st1 := []) rfl (fun H locs hP hD hS => ?_)
                      refine z_nm h (fun x17_ ex17_ h => ?_)
                      refine lv_iinc (v := x17_) (lv' := [(4, .int x17_), (3, .int r14_), (0, .ref a_this), (1, .int v10_.1), (2, .int v16_.1)]) hx hb dX6_findHeldTicks_104 hl (k := 4) rfl (by rw [ex17_]; rfl) (by decide) rfl (fun ls hl => ?_)
                      refine lv_goto (tgt := 44) hx hb dX6_findHeldTicks_107 (by decide) ?_
                      exact ih44_ _ h _ _ _ hP hD hS (lv_sub hl [2, 3, 4, 1, 0] rfl)
                    have h := hA88_
                    refine z_eq (tgt := 86) hx hb dX6_findHeldTicks_76 (by decide) h (fun h => ?_) (fun h => ?_)
                    · refine lv_iload hx hb dX6_findHeldTicks_86 (lv_at hl 0 rfl) ?_
                      obtain rfl := Option.some.inj h
                      exact k88_ _ _ _ hP hD hS (lv_sub hl [1, 2, 3, 5] rfl)
                    · refine lv_iload hx hb dX6_findHeldTicks_79 (lv_at hl 0 rfl) ?_
                      refine lv_iload_n hx hb dX6_findHeldTicks_81 rfl (lv_at hl 4 rfl) ?_
                      refine lv_iadd hx hb dX6_findHeldTicks_82 ?_
                      refine lv_goto (tgt := 88) hx hb dX6_findHeldTicks_83 (by decide) ?_
                      obtain rfl := Option.some.inj h
                      exact k88_ _ _ _ hP hD hS (lv_sub hl [1, 2, 3, 5] rfl)
              exact l44_ N _ h _ _ _ hP hD hS (lv_sub hl [2, 3, 4, 1, 0] rfl)
        exact l16_ N _ h _ _ _ hP hD hS (lv_sub hl [1, 2, 0] rfl)
  exact l10_ N _ h _ _ _ hP hD hS (lv_sub hl [1, 0] rfl)
def f_X6_changedWith_B24 (N : Nat) (v_score_size : Int32) (v_score_cells : Nat → Int32) (x1 : Int32) (v5_ : Int32 × Int32) (x2 : Int32) (v_shifts : Nat → Int32) (kh24_ : Int32 × Int32 × Int32 → Option Int32) (v24_ : Int32 × Int32 × Int32) : Option Int32 :=
  Option.bind (f_X4_count N v_score_size v_score_cells x1 v5_.2) (fun (r5_ : Int32) => if v24_.2.2 < r5_ then Option.bind (f_X6_shiftWith N v_score_size v_score_cells x1 v5_.2 v24_.2.2 x2 v24_.2.1) (fun (r6_ : Int32) => Option.bind (f_X6_shift N v_shifts x1 v5_.2 v24_.2.2) (fun (r7_ : Int32) => Option.bind (if r6_ = r7_ then some 0 else some 1) (fun (r8_ : Int32) => Option.bind (if r8_ = 0 then some 0 else Option.bind (f_X4_code N v_score_size v_score_cells x1 v5_.2 v24_.2.2) (fun (r12_ : Int32) => Option.bind (f_X0_isNote N r12_) (fun (r13_ : Int32) => if r13_ = 0 then some 0 else some 1))) (fun (r9_ : Int32) => Option.bind (some (v24_.1 + r9_)) (fun (x10_ : Int32) => Option.bind (some (v24_.2.2 + 1)) (fun (x11_ : Int32) => kh24_ (x10_, r6_, x11_))))))) else some v24_.1)
def f_X6_changedWith_B5 (N : Nat) (v_score_size : Int32) (v_shifts : Nat → Int32) (v_score_cells : Nat → Int32) (x1 : Int32) (x2 : Int32) (kh5_ : Int32 × Int32 → Option Int32) (v5_ : Int32 × Int32) : Option Int32 :=
  if v5_.2 < 2 then Option.bind (f_X6_shiftBefore N v_score_size v_shifts v_score_cells x1 v5_.2 0) (fun (r2_ : Int32) => Option.bind (zLoop (f_X6_changedWith_B24 N v_score_size v_score_cells x1 v5_ x2 v_shifts) N (v5_.1, r2_, 0)) (fun (r3_ : Int32) => Option.bind (some (v5_.2 + 1)) (fun (x4_ : Int32) => kh5_ (r3_, x4_)))) else some v5_.1
def f_X6_changedWith (N : Nat) (v_score_size : Int32) (v_shifts : Nat → Int32) (v_score_cells : Nat → Int32) (x1 : Int32) (x2 : Int32) : Option Int32 :=
  Option.bind (zLoop (f_X6_changedWith_B5 N v_score_size v_shifts v_score_cells x1 x2) N (0, 0)) (fun (r1_ : Int32) => some r1_)
abbrev rm_X6_changedWith : Room := { frames := 5, cells := 0, slots := 0, locals := 125 }
theorem zy_X6_changedWith : zYv yX6_changedWith RX6 cX6_changedWith 8 (some .int) 2 := ⟨zw_682, zw_683, zw_404, zw_458, ⟨by decide, by decide⟩, by decide +kernel⟩
set_option maxHeartbeats 4000000 in
set_option maxRecDepth 100000 in
theorem k_X6_changedWith (l : Launch) (N : Nat) (g : zEnv) (a_this a_score a_shifts a_heldTicks a_score_cells : Nat) (v_score_size : Int32) (v_shifts : Nat → Int32) (v_score_cells : Nat → Int32) (x1 : Int32) (x2 : Int32) (r : Int32) (h : f_X6_changedWith N v_score_size v_shifts v_score_cells x1 x2 = some r) : ZR l yX6_changedWith cX6_changedWith 8 (some .int) rm_X6_changedWith g [.ref a_this, .int x1, .int x2] [zo_X6 a_this a_score a_shifts a_heldTicks, zo_X4 a_score a_score_cells v_score_size, (a_shifts, .inl (zI g, 768, .inl v_shifts)), (a_score_cells, .inl (zI g, 912, .inl v_score_cells))] (some (.int r)) := by
  refine zR_of (by decide) (Nat.le_of_ble_eq_true rfl) ?_
  intro p e s m below meth c A ls Q R F hRm hr hlocks hP hD hS hl hQ
  subst hRm
  have F : zF p m c cX6_changedWith 8 s (([.ref a_this, .int x1, .int x2] : List Value)).toArray RX6 g A := F
  have hx := F.1.1
  have hb := F.1.2.1
  have hz := F.1.2.2.2.2
  have hl : lv_has ls 8 [(0, .ref a_this), (1, .int x1), (2, .int x2)] := hl
  unfold f_X6_changedWith at h
  refine lv_iconst (v := 0) hx hb dX6_changedWith_0 (by decide) ?_
  refine lv_istore_n (lv' := [(3, .int 0), (0, .ref a_this), (1, .int x1), (2, .int x2)]) hx hb dX6_changedWith_1 rfl hl (by decide) rfl (fun ls hl => ?_)
  refine lv_iconst (v := 0) hx hb dX6_changedWith_2 (by decide) ?_
  refine lv_istore (lv' := [(4, .int 0), (3, .int 0), (0, .ref a_this), (1, .int x1), (2, .int x2)]) hx hb dX6_changedWith_3 hl (by decide) rfl (fun ls hl => ?_)
  obtain ⟨r1_, hA5_, h⟩ := z_bind h
  have k117_ : ∀ (ls : Array Slot), lv_has ls 8 [(3, .int r1_)] → W p l e rm_X6_changedWith s m (([.ref a_this, .int x1, .int x2] : List Value)).toArray below meth c s.heap [] 0 0 Q (F0 m 117 ls []) := by
    intro ls hl
    refine lv_iload_n hx hb dX6_changedWith_117 rfl (lv_at hl 0 rfl) ?_
    obtain rfl := Option.some.inj h
    exact zR_i F hr hlocks hQ dX6_changedWith_118
  have h := hA5_
  have l5_ : ∀ (n5_ : Nat) (v5_ : Int32 × Int32), zLoop (f_X6_changedWith_B5 N v_score_size v_shifts v_score_cells x1 x2) n5_ v5_ = some r1_ → ∀ (ls : Array Slot), lv_has ls 8 [(0, .ref a_this), (1, .int x1), (2, .int x2), (3, .int v5_.1), (4, .int v5_.2)] → W p l e rm_X6_changedWith s m (([.ref a_this, .int x1, .int x2] : List Value)).toArray below meth c s.heap [] 0 0 Q (F0 m 5 ls []) := by
    intro n5_
    induction n5_ with
    | zero => intro v5_ h; cases h
    | succ n5_ ih5_ =>
      intro v5_ h ls hl
      have h : f_X6_changedWith_B5 N v_score_size v_shifts v_score_cells x1 x2 (zLoop (f_X6_changedWith_B5 N v_score_size v_shifts v_score_cells x1 x2) n5_) v5_ = some r1_ := h
      unfold f_X6_changedWith_B5 at h
      refine lv_iload hx hb dX6_changedWith_5 (lv_at hl 4 rfl) ?_
      refine lv_iconst (v := 2) hx hb dX6_changedWith_7 (by decide) ?_
      refine z_cge (tgt := 117) hx hb dX6_changedWith_8 (by decide) h (fun h => ?_) (fun h => ?_)
      · obtain rfl := Option.some.inj h
        exact k117_ _ (lv_sub hl [3] rfl)
      · refine lv_aload_n hx hb dX6_changedWith_11 rfl (lv_at hl 0 rfl) ?_
        refine lv_iload_n hx hb dX6_changedWith_12 rfl (lv_at hl 1 rfl) ?_
        refine lv_iload hx hb dX6_changedWith_13 (lv_at hl 4 rfl) ?_
        refine lv_iconst (v := 0) hx hb dX6_changedWith_15 (by decide) ?_
        obtain ⟨r2_, hr2_, h⟩ := z_bind h
        refine zRV F (k_X6_shiftBefore l N g a_this a_score a_shifts a_heldTicks a_score_cells v_score_size v_shifts v_score_cells x1 v5_.2 0 _ hr2_) zy_X6_shiftBefore zw_444 hP hD hS [0, 1, 2, 3] rfl rfl (q0 := 0) (he := rfl) (hc := rfl) (rest := []) rfl hl.1 rfl (Nat.le_of_ble_eq_true rfl) ⟨rfl, rfl⟩ ⟨Nat.le_of_ble_eq_true rfl, Nat.le_of_ble_eq_true rfl⟩ ⟨Nat.zero_le _, Nat.zero_le _⟩ dX6_changedWith_16 (st1 := [.int r2_]) rfl ?_
        refine lv_istore (lv' := [(5, .int r2_), (0, .ref a_this), (1, .int x1), (2, .int x2), (3, .int v5_.1), (4, .int v5_.2)]) hx hb dX6_changedWith_19 hl (by decide) rfl (fun ls hl => ?_)
        refine lv_iconst (v := 0) hx hb dX6_changedWith_21 (by decide) ?_
        refine lv_istore (lv' := [(6, .int 0), (5, .int r2_), (0, .ref a_this), (1, .int x1), (2, .int x2), (3, .int v5_.1), (4, .int v5_.2)]) hx hb dX6_changedWith_22 hl (by decide) rfl (fun ls hl => ?_)
        obtain ⟨r3_, hA24_, h⟩ := z_bind h
        have k111_ : ∀ (ls : Array Slot), lv_has ls 8 [(0, .ref a_this), (1, .int x1), (2, .int x2), (3, .int r3_), (4, .int v5_.2)] → W p l e rm_X6_changedWith s m (([.ref a_this, .int x1, .int x2] : List Value)).toArray below meth c s.heap [] 0 0 Q (F0 m 111 ls []) := by
          intro ls hl
          refine z_nm h (fun x4_ ex4_ h => ?_)
          refine lv_iinc (v := x4_) (lv' := [(4, .int x4_), (0, .ref a_this), (1, .int x1), (2, .int x2), (3, .int r3_)]) hx hb dX6_changedWith_111 hl (k := 4) rfl (by rw [ex4_]; rfl) (by decide) rfl (fun ls hl => ?_)
          refine lv_goto (tgt := 5) hx hb dX6_changedWith_114 (by decide) ?_
          exact ih5_ _ h _ (lv_sub hl [1, 2, 3, 4, 0] rfl)
        have h := hA24_
        have l24_ : ∀ (n24_ : Nat) (v24_ : Int32 × Int32 × Int32), zLoop (f_X6_changedWith_B24 N v_score_size v_score_cells x1 v5_ x2 v_shifts) n24_ v24_ = some r3_ → ∀ (ls : Array Slot), lv_has ls 8 [(0, .ref a_this), (1, .int x1), (2, .int x2), (3, .int v24_.1), (4, .int v5_.2), (5, .int v24_.2.1), (6, .int v24_.2.2)] → W p l e rm_X6_changedWith s m (([.ref a_this, .int x1, .int x2] : List Value)).toArray below meth c s.heap [] 0 0 Q (F0 m 24 ls []) := by
          intro n24_
          induction n24_ with
          | zero => intro v24_ h; cases h
          | succ n24_ ih24_ =>
            intro v24_ h ls hl
            have h : f_X6_changedWith_B24 N v_score_size v_score_cells x1 v5_ x2 v_shifts (zLoop (f_X6_changedWith_B24 N v_score_size v_score_cells x1 v5_ x2 v_shifts) n24_) v24_ = some r3_ := h
            unfold f_X6_changedWith_B24 at h
            refine lv_iload hx hb dX6_changedWith_24 (lv_at hl 6 rfl) ?_
            refine lv_aload_n hx hb dX6_changedWith_26 rfl (lv_at hl 0 rfl) ?_
            refine z_get (C := RX6) (T := TX6) (N := 3) (ci := 5) F zu_wsX60 hP 0 rfl rfl 0 (by decide) zw_399 rfl dX6_changedWith_27 ?_
            refine lv_iload_n hx hb dX6_changedWith_30 rfl (lv_at hl 1 rfl) ?_
            refine lv_iload hx hb dX6_changedWith_31 (lv_at hl 4 rfl) ?_
            obtain ⟨r5_, hr5_, h⟩ := z_bind h
            refine zRV F (k_X4_count l N g a_score a_score_cells v_score_size v_score_cells x1 v5_.2 _ hr5_) zy_X4_count zw_421 hP hD hS [1, 3] rfl rfl (q0 := 1) (he := rfl) (hc := rfl) (rest := [.int v24_.2.2]) rfl hl.1 rfl (Nat.le_of_ble_eq_true rfl) ⟨rfl, rfl⟩ ⟨Nat.le_of_ble_eq_true rfl, Nat.le_of_ble_eq_true rfl⟩ ⟨Nat.zero_le _, Nat.zero_le _⟩ dX6_changedWith_33 (st1 := [.int r5_, .int v24_.2.2]) rfl ?_
            refine z_cge (tgt := 111) hx hb dX6_changedWith_36 (by decide) h (fun h => ?_) (fun h => ?_)
            · obtain rfl := Option.some.inj h
              exact k111_ _ (lv_sub hl [0, 1, 2, 3, 4] rfl)
            · refine lv_aload_n hx hb dX6_changedWith_39 rfl (lv_at hl 0 rfl) ?_
              refine lv_iload_n hx hb dX6_changedWith_40 rfl (lv_at hl 1 rfl) ?_
              refine lv_iload hx hb dX6_changedWith_41 (lv_at hl 4 rfl) ?_
              refine lv_iload hx hb dX6_changedWith_43 (lv_at hl 6 rfl) ?_
              refine lv_iload_n hx hb dX6_changedWith_45 rfl (lv_at hl 2 rfl) ?_
              refine lv_iload hx hb dX6_changedWith_46 (lv_at hl 5 rfl) ?_
              obtain ⟨r6_, hr6_, h⟩ := z_bind h
              refine zRV F (k_X6_shiftWith l N g a_this a_score a_shifts a_heldTicks a_score_cells v_score_size v_score_cells x1 v5_.2 v24_.2.2 x2 v24_.2.1 _ hr6_) zy_X6_shiftWith zw_447 hP hD hS [0, 1, 3] rfl rfl (q0 := 0) (he := rfl) (hc := rfl) (rest := []) rfl hl.1 rfl (Nat.le_of_ble_eq_true rfl) ⟨rfl, rfl⟩ ⟨Nat.le_of_ble_eq_true rfl, Nat.le_of_ble_eq_true rfl⟩ ⟨Nat.zero_le _, Nat.zero_le _⟩ dX6_changedWith_48 (st1 := [.int r6_]) rfl ?_
              refine lv_istore (lv' := [(5, .int r6_), (0, .ref a_this), (1, .int x1), (2, .int x2), (3, .int v24_.1), (4, .int v5_.2), (6, .int v24_.2.2)]) hx hb dX6_changedWith_51 hl (by decide) rfl (fun ls hl => ?_)
              refine lv_iload hx hb dX6_changedWith_53 (lv_at hl 0 rfl) ?_
              refine lv_aload_n hx hb dX6_changedWith_55 rfl (lv_at hl 1 rfl) ?_
              refine lv_iload_n hx hb dX6_changedWith_56 rfl (lv_at hl 2 rfl) ?_
              refine lv_iload hx hb dX6_changedWith_57 (lv_at hl 5 rfl) ?_
              refine lv_iload hx hb dX6_changedWith_59 (lv_at hl 6 rfl) ?_
              obtain ⟨r7_, hr7_, h⟩ := z_bind h
              refine zRV F (k_X6_shift l N g a_this a_score a_shifts a_heldTicks v_shifts x1 v5_.2 v24_.2.2 _ hr7_) zy_X6_shift zw_417 hP hD hS [0, 2] rfl rfl (q0 := 0) (he := rfl) (hc := rfl) (rest := [.int r6_]) rfl hl.1 rfl (Nat.le_of_ble_eq_true rfl) ⟨rfl, rfl⟩ ⟨Nat.le_of_ble_eq_true rfl, Nat.le_of_ble_eq_true rfl⟩ ⟨Nat.zero_le _, Nat.zero_le _⟩ dX6_changedWith_61 (st1 := [.int r7_, .int r6_]) rfl ?_
              obtain ⟨r8_, hA72_, h⟩ := z_bind h
              have k72_ : ∀ (ls : Array Slot), lv_has ls 8 [(0, .ref a_this), (1, .int x1), (2, .int x2), (3, .int v24_.1), (4, .int v5_.2), (5, .int r6_), (6, .int v24_.2.2)] → W p l e rm_X6_changedWith s m (([.ref a_this, .int x1, .int x2] : List Value)).toArray below meth c s.heap [] 0 0 Q (F0 m 72 ls [.int r8_]) := by
                intro ls hl
                refine lv_istore (lv' := [(7, .int r8_), (0, .ref a_this), (1, .int x1), (2, .int x2), (3, .int v24_.1), (4, .int v5_.2), (5, .int r6_), (6, .int v24_.2.2)]) hx hb dX6_changedWith_72 hl (by decide) rfl (fun ls hl => ?_)
                refine lv_iload_n hx hb dX6_changedWith_74 rfl (lv_at hl 4 rfl) ?_
                refine lv_iload hx hb dX6_changedWith_75 (lv_at hl 0 rfl) ?_
                obtain ⟨r9_, hA103_, h⟩ := z_bind h
                have k103_ : ∀ (ls : Array Slot), lv_has ls 8 [(0, .ref a_this), (1, .int x1), (2, .int x2), (4, .int v5_.2), (5, .int r6_), (6, .int v24_.2.2)] → W p l e rm_X6_changedWith s m (([.ref a_this, .int x1, .int x2] : List Value)).toArray below meth c s.heap [] 0 0 Q (F0 m 103 ls [.int r9_, .int v24_.1]) := by
                  intro ls hl
                  refine lv_iadd hx hb dX6_changedWith_103 ?_
                  refine z_top Value.int h (fun x10_ h => ?_)
                  refine lv_istore_n (lv' := [(3, .int x10_), (0, .ref a_this), (1, .int x1), (2, .int x2), (4, .int v5_.2), (5, .int r6_), (6, .int v24_.2.2)]) hx hb dX6_changedWith_104 rfl hl (by decide) rfl (fun ls hl => ?_)
                  refine z_nm h (fun x11_ ex11_ h => ?_)
                  refine lv_iinc (v := x11_) (lv' := [(6, .int x11_), (3, .int x10_), (0, .ref a_this), (1, .int x1), (2, .int x2), (4, .int v5_.2), (5, .int r6_)]) hx hb dX6_changedWith_105 hl (k := 6) rfl (by rw [ex11_]; rfl) (by decide) rfl (fun ls hl => ?_)
                  refine lv_goto (tgt := 24) hx hb dX6_changedWith_108 (by decide) ?_
                  exact ih24_ _ h _ (lv_sub hl [2, 3, 4, 1, 5, 6, 0] rfl)
                have h := hA103_
                refine z_eq (tgt := 102) hx hb dX6_changedWith_77 (by decide) h (fun h => ?_) (fun h => ?_)
                · refine lv_iconst (v := 0) hx hb dX6_changedWith_102 (by decide) ?_
                  obtain rfl := Option.some.inj h
                  exact k103_ _ (lv_sub hl [1, 2, 3, 5, 6, 7] rfl)
                · refine lv_aload_n hx hb dX6_changedWith_80 rfl (lv_at hl 1 rfl) ?_
                  refine z_get (C := RX6) (T := TX6) (N := 3) (ci := 5) F zu_wsX60 hP 0 rfl rfl 0 (by decide) zw_399 rfl dX6_changedWith_81 ?_
                  refine lv_iload_n hx hb dX6_changedWith_84 rfl (lv_at hl 2 rfl) ?_
                  refine lv_iload hx hb dX6_changedWith_85 (lv_at hl 5 rfl) ?_
                  refine lv_iload hx hb dX6_changedWith_87 (lv_at hl 7 rfl) ?_
                  obtain ⟨r12_, hr12_, h⟩ := z_bind h
                  refine zRV F (k_X4_code l N g a_score a_score_cells v_score_size v_score_cells x1 v5_.2 v24_.2.2 _ hr12_) zy_X4_code zw_407 hP hD hS [1, 3] rfl rfl (q0 := 1) (he := rfl) (hc := rfl) (rest := [.int v24_.1]) rfl hl.1 rfl (Nat.le_of_ble_eq_true rfl) ⟨rfl, rfl⟩ ⟨Nat.le_of_ble_eq_true rfl, Nat.le_of_ble_eq_true rfl⟩ ⟨Nat.zero_le _, Nat.zero_le _⟩ dX6_changedWith_89 (st1 := [.int r12_, .int v24_.1]) rfl ?_
                  obtain ⟨r13_, hr13_, h⟩ := z_bind h
                  refine zRS F (k_X0_isNote l N g r12_ _ hr13_) zy_X0_isNote zw_457 hP hD hS [] rfl rfl (rest := [.int v24_.1]) rfl hl.1 rfl (Nat.le_of_ble_eq_true rfl) ⟨rfl, rfl⟩ ⟨Nat.le_of_ble_eq_true rfl, Nat.le_of_ble_eq_true rfl⟩ ⟨Nat.zero_le _, Nat.zero_le _⟩ dX6_changedWith_92 (st1 := [.int r13_, .int v24_.1]) rfl ?_
                  refine z_eq (tgt := 102) hx hb dX6_changedWith_95 (by decide) h (fun h => ?_) (fun h => ?_)
                  · refine lv_iconst (v := 0) hx hb dX6_changedWith_102 (by decide) ?_
                    obtain rfl := Option.some.inj h
                    exact k103_ _ (lv_sub hl [1, 2, 3, 5, 6, 7] rfl)
                  · refine lv_iconst (v := 1) hx hb dX6_changedWith_98 (by decide) ?_
                    refine lv_goto (tgt := 103) hx hb dX6_changedWith_99 (by decide) ?_
                    obtain rfl := Option.some.inj h
                    exact k103_ _ (lv_sub hl [1, 2, 3, 5, 6, 7] rfl)
              have h := hA72_
              refine z_ceq (tgt := 71) hx hb dX6_changedWith_64 (by decide) h (fun h => ?_) (fun h => ?_)
              · refine lv_iconst (v := 0) hx hb dX6_changedWith_71 (by decide) ?_
                obtain rfl := Option.some.inj h
                exact k72_ _ (lv_sub hl [1, 2, 3, 4, 5, 0, 6] rfl)
              · refine lv_iconst (v := 1) hx hb dX6_changedWith_67 (by decide) ?_
                refine lv_goto (tgt := 72) hx hb dX6_changedWith_68 (by decide) ?_
                obtain rfl := Option.some.inj h
                exact k72_ _ (lv_sub hl [1, 2, 3, 4, 5, 0, 6] rfl)
        exact l24_ N _ h _ (lv_sub hl [2, 3, 4, 5, 6, 1, 0] rfl)
  exact l5_ N _ h _ (lv_sub hl [2, 3, 4, 1, 0] rfl)
def f_X6_signsWithoutEffect_B24 (N : Nat) (v_score_size : Int32) (v_score_cells : Nat → Int32) (x1 : Int32) (v15_ : Int32 × Int32) (v_shifts : Nat → Int32) (r1_ : Int32) (kh24_ : Int32 × Int32 → Option Int32) (v24_ : Int32 × Int32) : Option Int32 :=
  Option.bind (f_X4_count N v_score_size v_score_cells x1 v15_.2) (fun (r5_ : Int32) => if v24_.2 < r5_ then Option.bind (f_X4_code N v_score_size v_score_cells x1 v15_.2 v24_.2) (fun (r6_ : Int32) => Option.bind (f_X0_signOf N r6_) (fun (r7_ : Int32) => Option.bind (if r7_ = 0 then some v24_.1 else Option.bind (f_X6_shiftBefore N v_score_size v_shifts v_score_cells x1 v15_.2 v24_.2) (fun (r10_ : Int32) => Option.bind (f_X6_shiftWithoutSign N v_score_size v_score_cells x1 v15_.2 v24_.2 r1_ r10_) (fun (r11_ : Int32) => Option.bind (f_X6_shift N v_shifts x1 v15_.2 v24_.2) (fun (r12_ : Int32) => Option.bind (if r11_ = r12_ then some 1 else some 0) (fun (r13_ : Int32) => Option.bind (some (v24_.1 + r13_)) (fun (x14_ : Int32) => some x14_)))))) (fun (r8_ : Int32) => Option.bind (some (v24_.2 + 1)) (fun (x9_ : Int32) => kh24_ (r8_, x9_))))) else some v24_.1)
def f_X6_signsWithoutEffect_B15 (N : Nat) (v_score_size : Int32) (v_score_cells : Nat → Int32) (x1 : Int32) (v_shifts : Nat → Int32) (r1_ : Int32) (kh15_ : Int32 × Int32 → Option Int32) (v15_ : Int32 × Int32) : Option Int32 :=
  if v15_.2 < 2 then Option.bind (zLoop (f_X6_signsWithoutEffect_B24 N v_score_size v_score_cells x1 v15_ v_shifts r1_) N (v15_.1, 0)) (fun (r3_ : Int32) => Option.bind (some (v15_.2 + 1)) (fun (x4_ : Int32) => kh15_ (r3_, x4_))) else some v15_.1
def f_X6_signsWithoutEffect (N : Nat) (v_score_size : Int32) (v_shifts : Nat → Int32) (v_score_cells : Nat → Int32) (x1 : Int32) : Option Int32 :=
  Option.bind (f_X4_value N v_score_size v_score_cells x1 0) (fun (r1_ : Int32) => Option.bind (zLoop (f_X6_signsWithoutEffect_B15 N v_score_size v_score_cells x1 v_shifts r1_) N (0, 0)) (fun (r2_ : Int32) => some r2_))
abbrev rm_X6_signsWithoutEffect : Room := { frames := 4, cells := 0, slots := 0, locals := 99 }
theorem zy_X6_signsWithoutEffect : zYv yX6_signsWithoutEffect RX6 cX6_signsWithoutEffect 8 (some .int) 1 := ⟨zw_687, zw_688, zw_404, zw_459, ⟨by decide, by decide⟩, by decide +kernel⟩
set_option maxHeartbeats 4000000 in
set_option maxRecDepth 100000 in
theorem k_X6_signsWithoutEffect (l : Launch) (N : Nat) (g : zEnv) (a_this a_score a_shifts a_heldTicks a_score_cells : Nat) (v_score_size : Int32) (v_shifts : Nat → Int32) (v_score_cells : Nat → Int32) (x1 : Int32) (r : Int32) (h : f_X6_signsWithoutEffect N v_score_size v_shifts v_score_cells x1 = some r) : ZR l yX6_signsWithoutEffect cX6_signsWithoutEffect 8 (some .int) rm_X6_signsWithoutEffect g [.ref a_this, .int x1] [zo_X6 a_this a_score a_shifts a_heldTicks, zo_X4 a_score a_score_cells v_score_size, (a_shifts, .inl (zI g, 768, .inl v_shifts)), (a_score_cells, .inl (zI g, 912, .inl v_score_cells))] (some (.int r)) := by
  refine zR_of (by decide) (Nat.le_of_ble_eq_true rfl) ?_
  intro p e s m below meth c A ls Q R F hRm hr hlocks hP hD hS hl hQ
  subst hRm
  have F : zF p m c cX6_signsWithoutEffect 8 s (([.ref a_this, .int x1] : List Value)).toArray RX6 g A := F
  have hx := F.1.1
  have hb := F.1.2.1
  have hz := F.1.2.2.2.2
  have hl : lv_has ls 8 [(0, .ref a_this), (1, .int x1)] := hl
  unfold f_X6_signsWithoutEffect at h
  refine lv_aload_n hx hb dX6_signsWithoutEffect_0 rfl (lv_at hl 0 rfl) ?_
  refine z_get (C := RX6) (T := TX6) (N := 3) (ci := 5) F zu_wsX60 hP 0 rfl rfl 0 (by decide) zw_399 rfl dX6_signsWithoutEffect_1 ?_
  refine lv_iload_n hx hb dX6_signsWithoutEffect_4 rfl (lv_at hl 1 rfl) ?_
  refine lv_iconst (v := 0) hx hb dX6_signsWithoutEffect_5 (by decide) ?_
  obtain ⟨r1_, hr1_, h⟩ := z_bind h
  refine zRV F (k_X4_value l N g a_score a_score_cells v_score_size v_score_cells x1 0 _ hr1_) zy_X4_value zw_443 hP hD hS [1, 3] rfl rfl (q0 := 1) (he := rfl) (hc := rfl) (rest := []) rfl hl.1 rfl (Nat.le_of_ble_eq_true rfl) ⟨rfl, rfl⟩ ⟨Nat.le_of_ble_eq_true rfl, Nat.le_of_ble_eq_true rfl⟩ ⟨Nat.zero_le _, Nat.zero_le _⟩ dX6_signsWithoutEffect_6 (st1 := [.int r1_]) rfl ?_
  refine lv_istore_n (lv' := [(2, .int r1_), (0, .ref a_this), (1, .int x1)]) hx hb dX6_signsWithoutEffect_9 rfl hl (by decide) rfl (fun ls hl => ?_)
  refine lv_iconst (v := 0) hx hb dX6_signsWithoutEffect_10 (by decide) ?_
  refine lv_istore_n (lv' := [(3, .int 0), (2, .int r1_), (0, .ref a_this), (1, .int x1)]) hx hb dX6_signsWithoutEffect_11 rfl hl (by decide) rfl (fun ls hl => ?_)
  refine lv_iconst (v := 0) hx hb dX6_signsWithoutEffect_12 (by decide) ?_
  refine lv_istore (lv' := [(4, .int 0), (3, .int 0), (2, .int r1_), (0, .ref a_this), (1, .int x1)]) hx hb dX6_signsWithoutEffect_13 hl (by decide) rfl (fun ls hl => ?_)
  obtain ⟨r2_, hA15_, h⟩ := z_bind h
  have k116_ : ∀ (ls : Array Slot), lv_has ls 8 [(3, .int r2_)] → W p l e rm_X6_signsWithoutEffect s m (([.ref a_this, .int x1] : List Value)).toArray below meth c s.heap [] 0 0 Q (F0 m 116 ls []) := by
    intro ls hl
    refine lv_iload_n hx hb dX6_signsWithoutEffect_116 rfl (lv_at hl 0 rfl) ?_
    obtain rfl := Option.some.inj h
    exact zR_i F hr hlocks hQ dX6_signsWithoutEffect_117
  have h := hA15_
  have l15_ : ∀ (n15_ : Nat) (v15_ : Int32 × Int32), zLoop (f_X6_signsWithoutEffect_B15 N v_score_size v_score_cells x1 v_shifts r1_) n15_ v15_ = some r2_ → ∀ (ls : Array Slot), lv_has ls 8 [(0, .ref a_this), (1, .int x1), (2, .int r1_), (3, .int v15_.1), (4, .int v15_.2)] → W p l e rm_X6_signsWithoutEffect s m (([.ref a_this, .int x1] : List Value)).toArray below meth c s.heap [] 0 0 Q (F0 m 15 ls []) := by
    intro n15_
    induction n15_ with
    | zero => intro v15_ h; cases h
    | succ n15_ ih15_ =>
      intro v15_ h ls hl
      have h : f_X6_signsWithoutEffect_B15 N v_score_size v_score_cells x1 v_shifts r1_ (zLoop (f_X6_signsWithoutEffect_B15 N v_score_size v_score_cells x1 v_shifts r1_) n15_) v15_ = some r2_ := h
      unfold f_X6_signsWithoutEffect_B15 at h
      refine lv_iload hx hb dX6_signsWithoutEffect_15 (lv_at hl 4 rfl) ?_
      refine lv_iconst (v := 2) hx hb dX6_signsWithoutEffect_17 (by decide) ?_
      refine z_cge (tgt := 116) hx hb dX6_signsWithoutEffect_18 (by decide) h (fun h => ?_) (fun h => ?_)
      · obtain rfl := Option.some.inj h
        exact k116_ _ (lv_sub hl [3] rfl)
      · refine lv_iconst (v := 0) hx hb dX6_signsWithoutEffect_21 (by decide) ?_
        refine lv_istore (lv' := [(5, .int 0), (0, .ref a_this), (1, .int x1), (2, .int r1_), (3, .int v15_.1), (4, .int v15_.2)]) hx hb dX6_signsWithoutEffect_22 hl (by decide) rfl (fun ls hl => ?_)
        obtain ⟨r3_, hA24_, h⟩ := z_bind h
        have k110_ : ∀ (ls : Array Slot), lv_has ls 8 [(0, .ref a_this), (1, .int x1), (2, .int r1_), (3, .int r3_), (4, .int v15_.2)] → W p l e rm_X6_signsWithoutEffect s m (([.ref a_this, .int x1] : List Value)).toArray below meth c s.heap [] 0 0 Q (F0 m 110 ls []) := by
          intro ls hl
          refine z_nm h (fun x4_ ex4_ h => ?_)
          refine lv_iinc (v := x4_) (lv' := [(4, .int x4_), (0, .ref a_this), (1, .int x1), (2, .int r1_), (3, .int r3_)]) hx hb dX6_signsWithoutEffect_110 hl (k := 4) rfl (by rw [ex4_]; rfl) (by decide) rfl (fun ls hl => ?_)
          refine lv_goto (tgt := 15) hx hb dX6_signsWithoutEffect_113 (by decide) ?_
          exact ih15_ _ h _ (lv_sub hl [1, 2, 3, 4, 0] rfl)
        have h := hA24_
        have l24_ : ∀ (n24_ : Nat) (v24_ : Int32 × Int32), zLoop (f_X6_signsWithoutEffect_B24 N v_score_size v_score_cells x1 v15_ v_shifts r1_) n24_ v24_ = some r3_ → ∀ (ls : Array Slot), lv_has ls 8 [(0, .ref a_this), (1, .int x1), (2, .int r1_), (3, .int v24_.1), (4, .int v15_.2), (5, .int v24_.2)] → W p l e rm_X6_signsWithoutEffect s m (([.ref a_this, .int x1] : List Value)).toArray below meth c s.heap [] 0 0 Q (F0 m 24 ls []) := by
          intro n24_
          induction n24_ with
          | zero => intro v24_ h; cases h
          | succ n24_ ih24_ =>
            intro v24_ h ls hl
            have h : f_X6_signsWithoutEffect_B24 N v_score_size v_score_cells x1 v15_ v_shifts r1_ (zLoop (f_X6_signsWithoutEffect_B24 N v_score_size v_score_cells x1 v15_ v_shifts r1_) n24_) v24_ = some r3_ := h
            unfold f_X6_signsWithoutEffect_B24 at h
            refine lv_iload hx hb dX6_signsWithoutEffect_24 (lv_at hl 5 rfl) ?_
            refine lv_aload_n hx hb dX6_signsWithoutEffect_26 rfl (lv_at hl 0 rfl) ?_
            refine z_get (C := RX6) (T := TX6) (N := 3) (ci := 5) F zu_wsX60 hP 0 rfl rfl 0 (by decide) zw_399 rfl dX6_signsWithoutEffect_27 ?_
            refine lv_iload_n hx hb dX6_signsWithoutEffect_30 rfl (lv_at hl 1 rfl) ?_
            refine lv_iload hx hb dX6_signsWithoutEffect_31 (lv_at hl 4 rfl) ?_
            obtain ⟨r5_, hr5_, h⟩ := z_bind h
            refine zRV F (k_X4_count l N g a_score a_score_cells v_score_size v_score_cells x1 v15_.2 _ hr5_) zy_X4_count zw_421 hP hD hS [1, 3] rfl rfl (q0 := 1) (he := rfl) (hc := rfl) (rest := [.int v24_.2]) rfl hl.1 rfl (Nat.le_of_ble_eq_true rfl) ⟨rfl, rfl⟩ ⟨Nat.le_of_ble_eq_true rfl, Nat.le_of_ble_eq_true rfl⟩ ⟨Nat.zero_le _, Nat.zero_le _⟩ dX6_signsWithoutEffect_33 (st1 := [.int r5_, .int v24_.2]) rfl ?_
            refine z_cge (tgt := 110) hx hb dX6_signsWithoutEffect_36 (by decide) h (fun h => ?_) (fun h => ?_)
            · obtain rfl := Option.some.inj h
              exact k110_ _ (lv_sub hl [0, 1, 2, 3, 4] rfl)
            · refine lv_aload_n hx hb dX6_signsWithoutEffect_39 rfl (lv_at hl 0 rfl) ?_
              refine z_get (C := RX6) (T := TX6) (N := 3) (ci := 5) F zu_wsX60 hP 0 rfl rfl 0 (by decide) zw_399 rfl dX6_signsWithoutEffect_40 ?_
              refine lv_iload_n hx hb dX6_signsWithoutEffect_43 rfl (lv_at hl 1 rfl) ?_
              refine lv_iload hx hb dX6_signsWithoutEffect_44 (lv_at hl 4 rfl) ?_
              refine lv_iload hx hb dX6_signsWithoutEffect_46 (lv_at hl 5 rfl) ?_
              obtain ⟨r6_, hr6_, h⟩ := z_bind h
              refine zRV F (k_X4_code l N g a_score a_score_cells v_score_size v_score_cells x1 v15_.2 v24_.2 _ hr6_) zy_X4_code zw_407 hP hD hS [1, 3] rfl rfl (q0 := 1) (he := rfl) (hc := rfl) (rest := []) rfl hl.1 rfl (Nat.le_of_ble_eq_true rfl) ⟨rfl, rfl⟩ ⟨Nat.le_of_ble_eq_true rfl, Nat.le_of_ble_eq_true rfl⟩ ⟨Nat.zero_le _, Nat.zero_le _⟩ dX6_signsWithoutEffect_48 (st1 := [.int r6_]) rfl ?_
              obtain ⟨r7_, hr7_, h⟩ := z_bind h
              refine zRS F (k_X0_signOf l N g r6_ _ hr7_) zy_X0_signOf zw_431 hP hD hS [] rfl rfl (rest := []) rfl hl.1 rfl (Nat.le_of_ble_eq_true rfl) ⟨rfl, rfl⟩ ⟨Nat.le_of_ble_eq_true rfl, Nat.le_of_ble_eq_true rfl⟩ ⟨Nat.zero_le _, Nat.zero_le _⟩ dX6_signsWithoutEffect_51 (st1 := [.int r7_]) rfl ?_
              obtain ⟨r8_, hA104_, h⟩ := z_bind h
              have k104_ : ∀ (ls : Array Slot), lv_has ls 8 [(0, .ref a_this), (1, .int x1), (2, .int r1_), (3, .int r8_), (4, .int v15_.2), (5, .int v24_.2)] → W p l e rm_X6_signsWithoutEffect s m (([.ref a_this, .int x1] : List Value)).toArray below meth c s.heap [] 0 0 Q (F0 m 104 ls []) := by
                intro ls hl
                refine z_nm h (fun x9_ ex9_ h => ?_)
                refine lv_iinc (v := x9_) (lv' := [(5, .int x9_), (0, .ref a_this), (1, .int x1), (2, .int r1_), (3, .int r8_), (4, .int v15_.2)]) hx hb dX6_signsWithoutEffect_104 hl (k := 5) rfl (by rw [ex9_]; rfl) (by decide) rfl (fun ls hl => ?_)
                refine lv_goto (tgt := 24) hx hb dX6_signsWithoutEffect_107 (by decide) ?_
                exact ih24_ _ h _ (lv_sub hl [1, 2, 3, 4, 5, 0] rfl)
              have h := hA104_
              refine z_eq (tgt := 104) hx hb dX6_signsWithoutEffect_54 (by decide) h (fun h => ?_) (fun h => ?_)
              · obtain rfl := Option.some.inj h
                exact k104_ _ (lv_sub hl [0, 1, 2, 3, 4, 5] rfl)
              · refine lv_aload_n hx hb dX6_signsWithoutEffect_57 rfl (lv_at hl 0 rfl) ?_
                refine lv_iload_n hx hb dX6_signsWithoutEffect_58 rfl (lv_at hl 1 rfl) ?_
                refine lv_iload hx hb dX6_signsWithoutEffect_59 (lv_at hl 4 rfl) ?_
                refine lv_iload hx hb dX6_signsWithoutEffect_61 (lv_at hl 5 rfl) ?_
                obtain ⟨r10_, hr10_, h⟩ := z_bind h
                refine zRV F (k_X6_shiftBefore l N g a_this a_score a_shifts a_heldTicks a_score_cells v_score_size v_shifts v_score_cells x1 v15_.2 v24_.2 _ hr10_) zy_X6_shiftBefore zw_444 hP hD hS [0, 1, 2, 3] rfl rfl (q0 := 0) (he := rfl) (hc := rfl) (rest := []) rfl hl.1 rfl (Nat.le_of_ble_eq_true rfl) ⟨rfl, rfl⟩ ⟨Nat.le_of_ble_eq_true rfl, Nat.le_of_ble_eq_true rfl⟩ ⟨Nat.zero_le _, Nat.zero_le _⟩ dX6_signsWithoutEffect_63 (st1 := [.int r10_]) rfl ?_
                refine lv_istore (lv' := [(6, .int r10_), (0, .ref a_this), (1, .int x1), (2, .int r1_), (3, .int v24_.1), (4, .int v15_.2), (5, .int v24_.2)]) hx hb dX6_signsWithoutEffect_66 hl (by decide) rfl (fun ls hl => ?_)
                refine lv_aload_n hx hb dX6_signsWithoutEffect_68 rfl (lv_at hl 1 rfl) ?_
                refine lv_iload_n hx hb dX6_signsWithoutEffect_69 rfl (lv_at hl 2 rfl) ?_
                refine lv_iload hx hb dX6_signsWithoutEffect_70 (lv_at hl 5 rfl) ?_
                refine lv_iload hx hb dX6_signsWithoutEffect_72 (lv_at hl 6 rfl) ?_
                refine lv_iload_n hx hb dX6_signsWithoutEffect_74 rfl (lv_at hl 3 rfl) ?_
                refine lv_iload hx hb dX6_signsWithoutEffect_75 (lv_at hl 0 rfl) ?_
                obtain ⟨r11_, hr11_, h⟩ := z_bind h
                refine zRV F (k_X6_shiftWithoutSign l N g a_this a_score a_shifts a_heldTicks a_score_cells v_score_size v_score_cells x1 v15_.2 v24_.2 r1_ r10_ _ hr11_) zy_X6_shiftWithoutSign zw_437 hP hD hS [0, 1, 3] rfl rfl (q0 := 0) (he := rfl) (hc := rfl) (rest := []) rfl hl.1 rfl (Nat.le_of_ble_eq_true rfl) ⟨rfl, rfl⟩ ⟨Nat.le_of_ble_eq_true rfl, Nat.le_of_ble_eq_true rfl⟩ ⟨Nat.zero_le _, Nat.zero_le _⟩ dX6_signsWithoutEffect_77 (st1 := [.int r11_]) rfl ?_
                refine lv_istore (lv' := [(7, .int r11_), (6, .int r10_), (0, .ref a_this), (1, .int x1), (2, .int r1_), (3, .int v24_.1), (4, .int v15_.2), (5, .int v24_.2)]) hx hb dX6_signsWithoutEffect_80 hl (by decide) rfl (fun ls hl => ?_)
                refine lv_iload_n hx hb dX6_signsWithoutEffect_82 rfl (lv_at hl 5 rfl) ?_
                refine lv_iload hx hb dX6_signsWithoutEffect_83 (lv_at hl 0 rfl) ?_
                refine lv_aload_n hx hb dX6_signsWithoutEffect_85 rfl (lv_at hl 2 rfl) ?_
                refine lv_iload_n hx hb dX6_signsWithoutEffect_86 rfl (lv_at hl 3 rfl) ?_
                refine lv_iload hx hb dX6_signsWithoutEffect_87 (lv_at hl 6 rfl) ?_
                refine lv_iload hx hb dX6_signsWithoutEffect_89 (lv_at hl 7 rfl) ?_
                obtain ⟨r12_, hr12_, h⟩ := z_bind h
                refine zRV F (k_X6_shift l N g a_this a_score a_shifts a_heldTicks v_shifts x1 v15_.2 v24_.2 _ hr12_) zy_X6_shift zw_417 hP hD hS [0, 2] rfl rfl (q0 := 0) (he := rfl) (hc := rfl) (rest := [.int r11_, .int v24_.1]) rfl hl.1 rfl (Nat.le_of_ble_eq_true rfl) ⟨rfl, rfl⟩ ⟨Nat.le_of_ble_eq_true rfl, Nat.le_of_ble_eq_true rfl⟩ ⟨Nat.zero_le _, Nat.zero_le _⟩ dX6_signsWithoutEffect_91 (st1 := [.int r12_, .int r11_, .int v24_.1]) rfl ?_
                obtain ⟨r13_, hA102_, h⟩ := z_bind h
                have k102_ : ∀ (ls : Array Slot), lv_has ls 8 [(0, .ref a_this), (1, .int x1), (2, .int r1_), (4, .int v15_.2), (5, .int v24_.2)] → W p l e rm_X6_signsWithoutEffect s m (([.ref a_this, .int x1] : List Value)).toArray below meth c s.heap [] 0 0 Q (F0 m 102 ls [.int r13_, .int v24_.1]) := by
                  intro ls hl
                  refine lv_iadd hx hb dX6_signsWithoutEffect_102 ?_
                  refine z_top Value.int h (fun x14_ h => ?_)
                  refine lv_istore_n (lv' := [(3, .int x14_), (0, .ref a_this), (1, .int x1), (2, .int r1_), (4, .int v15_.2), (5, .int v24_.2)]) hx hb dX6_signsWithoutEffect_103 rfl hl (by decide) rfl (fun ls hl => ?_)
                  obtain rfl := Option.some.inj h
                  exact k104_ _ (lv_sub hl [1, 2, 3, 0, 4, 5] rfl)
                have h := hA102_
                refine z_cne (tgt := 101) hx hb dX6_signsWithoutEffect_94 (by decide) h (fun h => ?_) (fun h => ?_)
                · refine lv_iconst (v := 0) hx hb dX6_signsWithoutEffect_101 (by decide) ?_
                  obtain rfl := Option.some.inj h
                  exact k102_ _ (lv_sub hl [2, 3, 4, 6, 7] rfl)
                · refine lv_iconst (v := 1) hx hb dX6_signsWithoutEffect_97 (by decide) ?_
                  refine lv_goto (tgt := 102) hx hb dX6_signsWithoutEffect_98 (by decide) ?_
                  obtain rfl := Option.some.inj h
                  exact k102_ _ (lv_sub hl [2, 3, 4, 6, 7] rfl)
        exact l24_ N _ h _ (lv_sub hl [1, 2, 3, 4, 5, 0] rfl)
  exact l15_ N _ h _ (lv_sub hl [3, 4, 2, 1, 0] rfl)
def f_X6_ticksAbove_B9 (N : Nat) (v_score_size : Int32) (v_score_cells : Nat → Int32) (x1 : Int32) (v_shifts : Nat → Int32) (x2 : Int32) (x4 : Int32) (x3 : Int32) (kh9_ : Int32 × Int32 × Int32 → Option Int32) (v9_ : Int32 × Int32 × Int32) : Option Int32 :=
  Option.bind (f_X4_count N v_score_size v_score_cells x1 1) (fun (r2_ : Int32) => if v9_.2.2 < r2_ then Option.bind (f_X4_code N v_score_size v_score_cells x1 1 v9_.2.2) (fun (r3_ : Int32) => Option.bind (f_X0_ticksOf N r3_) (fun (r4_ : Int32) => Option.bind (some (v9_.2.1 + r4_)) (fun (x5_ : Int32) => Option.bind (f_X0_isNote N r3_) (fun (r6_ : Int32) => Option.bind (if r6_ = 0 then some v9_.1 else Option.bind (f_X6_sounding N v_score_size v_shifts v_score_cells x1 1 v9_.2.2) (fun (r9_ : Int32) => if x2 < r9_ then Option.bind (some (v9_.1 + (zMax ((zMin x5_ x4) - (zMax v9_.2.1 x3)) 0))) (fun (x10_ : Int32) => some x10_) else some v9_.1)) (fun (r7_ : Int32) => Option.bind (some (v9_.2.2 + 1)) (fun (x8_ : Int32) => kh9_ (r7_, x5_, x8_))))))) else some v9_.1)
def f_X6_ticksAbove (N : Nat) (v_score_size : Int32) (v_shifts : Nat → Int32) (v_score_cells : Nat → Int32) (x1 : Int32) (x2 : Int32) (x3 : Int32) (x4 : Int32) : Option Int32 :=
  Option.bind (zLoop (f_X6_ticksAbove_B9 N v_score_size v_score_cells x1 v_shifts x2 x4 x3) N (0, 0, 0)) (fun (r1_ : Int32) => some r1_)
abbrev rm_X6_ticksAbove : Room := { frames := 3, cells := 0, slots := 0, locals := 73 }
theorem zy_X6_ticksAbove : zYv yX6_ticksAbove RX6 cX6_ticksAbove 10 (some .int) 4 := ⟨zw_468, zw_469, zw_404, zw_465, ⟨by decide, by decide⟩, by decide +kernel⟩
set_option maxHeartbeats 4000000 in
set_option maxRecDepth 100000 in
theorem k_X6_ticksAbove (l : Launch) (N : Nat) (g : zEnv) (a_this a_score a_shifts a_heldTicks a_score_cells : Nat) (v_score_size : Int32) (v_shifts : Nat → Int32) (v_score_cells : Nat → Int32) (x1 : Int32) (x2 : Int32) (x3 : Int32) (x4 : Int32) (r : Int32) (h : f_X6_ticksAbove N v_score_size v_shifts v_score_cells x1 x2 x3 x4 = some r) : ZR l yX6_ticksAbove cX6_ticksAbove 10 (some .int) rm_X6_ticksAbove g [.ref a_this, .int x1, .int x2, .int x3, .int x4] [zo_X6 a_this a_score a_shifts a_heldTicks, zo_X4 a_score a_score_cells v_score_size, (a_shifts, .inl (zI g, 768, .inl v_shifts)), (a_score_cells, .inl (zI g, 912, .inl v_score_cells))] (some (.int r)) := by
  refine zR_of (by decide) (Nat.le_of_ble_eq_true rfl) ?_
  intro p e s m below meth c A ls Q R F hRm hr hlocks hP hD hS hl hQ
  subst hRm
  have F : zF p m c cX6_ticksAbove 10 s (([.ref a_this, .int x1, .int x2, .int x3, .int x4] : List Value)).toArray RX6 g A := F
  have hx := F.1.1
  have hb := F.1.2.1
  have hz := F.1.2.2.2.2
  have hl : lv_has ls 10 [(0, .ref a_this), (1, .int x1), (2, .int x2), (3, .int x3), (4, .int x4)] := hl
  unfold f_X6_ticksAbove at h
  refine lv_iconst (v := 0) hx hb dX6_ticksAbove_0 (by decide) ?_
  refine lv_istore (lv' := [(5, .int 0), (0, .ref a_this), (1, .int x1), (2, .int x2), (3, .int x3), (4, .int x4)]) hx hb dX6_ticksAbove_1 hl (by decide) rfl (fun ls hl => ?_)
  refine lv_iconst (v := 0) hx hb dX6_ticksAbove_3 (by decide) ?_
  refine lv_istore (lv' := [(6, .int 0), (5, .int 0), (0, .ref a_this), (1, .int x1), (2, .int x2), (3, .int x3), (4, .int x4)]) hx hb dX6_ticksAbove_4 hl (by decide) rfl (fun ls hl => ?_)
  refine lv_iconst (v := 0) hx hb dX6_ticksAbove_6 (by decide) ?_
  refine lv_istore (lv' := [(7, .int 0), (6, .int 0), (5, .int 0), (0, .ref a_this), (1, .int x1), (2, .int x2), (3, .int x3), (4, .int x4)]) hx hb dX6_ticksAbove_7 hl (by decide) rfl (fun ls hl => ?_)
  obtain ⟨r1_, hA9_, h⟩ := z_bind h
  have k99_ : ∀ (ls : Array Slot), lv_has ls 10 [(5, .int r1_)] → W p l e rm_X6_ticksAbove s m (([.ref a_this, .int x1, .int x2, .int x3, .int x4] : List Value)).toArray below meth c s.heap [] 0 0 Q (F0 m 99 ls []) := by
    intro ls hl
    refine lv_iload hx hb dX6_ticksAbove_99 (lv_at hl 0 rfl) ?_
    obtain rfl := Option.some.inj h
    exact zR_i F hr hlocks hQ dX6_ticksAbove_101
  have h := hA9_
  have l9_ : ∀ (n9_ : Nat) (v9_ : Int32 × Int32 × Int32), zLoop (f_X6_ticksAbove_B9 N v_score_size v_score_cells x1 v_shifts x2 x4 x3) n9_ v9_ = some r1_ → ∀ (ls : Array Slot), lv_has ls 10 [(0, .ref a_this), (1, .int x1), (2, .int x2), (3, .int x3), (4, .int x4), (5, .int v9_.1), (6, .int v9_.2.1), (7, .int v9_.2.2)] → W p l e rm_X6_ticksAbove s m (([.ref a_this, .int x1, .int x2, .int x3, .int x4] : List Value)).toArray below meth c s.heap [] 0 0 Q (F0 m 9 ls []) := by
    intro n9_
    induction n9_ with
    | zero => intro v9_ h; cases h
    | succ n9_ ih9_ =>
      intro v9_ h ls hl
      have h : f_X6_ticksAbove_B9 N v_score_size v_score_cells x1 v_shifts x2 x4 x3 (zLoop (f_X6_ticksAbove_B9 N v_score_size v_score_cells x1 v_shifts x2 x4 x3) n9_) v9_ = some r1_ := h
      unfold f_X6_ticksAbove_B9 at h
      refine lv_iload hx hb dX6_ticksAbove_9 (lv_at hl 7 rfl) ?_
      refine lv_aload_n hx hb dX6_ticksAbove_11 rfl (lv_at hl 0 rfl) ?_
      refine z_get (C := RX6) (T := TX6) (N := 3) (ci := 5) F zu_wsX60 hP 0 rfl rfl 0 (by decide) zw_399 rfl dX6_ticksAbove_12 ?_
      refine lv_iload_n hx hb dX6_ticksAbove_15 rfl (lv_at hl 1 rfl) ?_
      refine lv_iconst (v := 1) hx hb dX6_ticksAbove_16 (by decide) ?_
      obtain ⟨r2_, hr2_, h⟩ := z_bind h
      refine zRV F (k_X4_count l N g a_score a_score_cells v_score_size v_score_cells x1 1 _ hr2_) zy_X4_count zw_421 hP hD hS [1, 3] rfl rfl (q0 := 1) (he := rfl) (hc := rfl) (rest := [.int v9_.2.2]) rfl hl.1 rfl (Nat.le_of_ble_eq_true rfl) ⟨rfl, rfl⟩ ⟨Nat.le_of_ble_eq_true rfl, Nat.le_of_ble_eq_true rfl⟩ ⟨Nat.zero_le _, Nat.zero_le _⟩ dX6_ticksAbove_17 (st1 := [.int r2_, .int v9_.2.2]) rfl ?_
      refine z_cge (tgt := 99) hx hb dX6_ticksAbove_20 (by decide) h (fun h => ?_) (fun h => ?_)
      · obtain rfl := Option.some.inj h
        exact k99_ _ (lv_sub hl [5] rfl)
      · refine lv_aload_n hx hb dX6_ticksAbove_23 rfl (lv_at hl 0 rfl) ?_
        refine z_get (C := RX6) (T := TX6) (N := 3) (ci := 5) F zu_wsX60 hP 0 rfl rfl 0 (by decide) zw_399 rfl dX6_ticksAbove_24 ?_
        refine lv_iload_n hx hb dX6_ticksAbove_27 rfl (lv_at hl 1 rfl) ?_
        refine lv_iconst (v := 1) hx hb dX6_ticksAbove_28 (by decide) ?_
        refine lv_iload hx hb dX6_ticksAbove_29 (lv_at hl 7 rfl) ?_
        obtain ⟨r3_, hr3_, h⟩ := z_bind h
        refine zRV F (k_X4_code l N g a_score a_score_cells v_score_size v_score_cells x1 1 v9_.2.2 _ hr3_) zy_X4_code zw_407 hP hD hS [1, 3] rfl rfl (q0 := 1) (he := rfl) (hc := rfl) (rest := []) rfl hl.1 rfl (Nat.le_of_ble_eq_true rfl) ⟨rfl, rfl⟩ ⟨Nat.le_of_ble_eq_true rfl, Nat.le_of_ble_eq_true rfl⟩ ⟨Nat.zero_le _, Nat.zero_le _⟩ dX6_ticksAbove_31 (st1 := [.int r3_]) rfl ?_
        refine lv_istore (lv' := [(8, .int r3_), (0, .ref a_this), (1, .int x1), (2, .int x2), (3, .int x3), (4, .int x4), (5, .int v9_.1), (6, .int v9_.2.1), (7, .int v9_.2.2)]) hx hb dX6_ticksAbove_34 hl (by decide) rfl (fun ls hl => ?_)
        refine lv_iload hx hb dX6_ticksAbove_36 (lv_at hl 7 rfl) ?_
        refine lv_iload hx hb dX6_ticksAbove_38 (lv_at hl 0 rfl) ?_
        obtain ⟨r4_, hr4_, h⟩ := z_bind h
        refine zRS F (k_X0_ticksOf l N g r3_ _ hr4_) zy_X0_ticksOf zw_412 hP hD hS [] rfl rfl (rest := [.int v9_.2.1]) rfl hl.1 rfl (Nat.le_of_ble_eq_true rfl) ⟨rfl, rfl⟩ ⟨Nat.le_of_ble_eq_true rfl, Nat.le_of_ble_eq_true rfl⟩ ⟨Nat.zero_le _, Nat.zero_le _⟩ dX6_ticksAbove_40 (st1 := [.int r4_, .int v9_.2.1]) rfl ?_
        refine lv_iadd hx hb dX6_ticksAbove_43 ?_
        refine z_top Value.int h (fun x5_ h => ?_)
        refine lv_istore (lv' := [(9, .int x5_), (8, .int r3_), (0, .ref a_this), (1, .int x1), (2, .int x2), (3, .int x3), (4, .int x4), (5, .int v9_.1), (6, .int v9_.2.1), (7, .int v9_.2.2)]) hx hb dX6_ticksAbove_44 hl (by decide) rfl (fun ls hl => ?_)
        refine lv_iload hx hb dX6_ticksAbove_46 (lv_at hl 1 rfl) ?_
        obtain ⟨r6_, hr6_, h⟩ := z_bind h
        refine zRS F (k_X0_isNote l N g r3_ _ hr6_) zy_X0_isNote zw_457 hP hD hS [] rfl rfl (rest := []) rfl hl.1 rfl (Nat.le_of_ble_eq_true rfl) ⟨rfl, rfl⟩ ⟨Nat.le_of_ble_eq_true rfl, Nat.le_of_ble_eq_true rfl⟩ ⟨Nat.zero_le _, Nat.zero_le _⟩ dX6_ticksAbove_48 (st1 := [.int r6_]) rfl ?_
        obtain ⟨r7_, hA89_, h⟩ := z_bind h
        have k89_ : ∀ (ls : Array Slot), lv_has ls 10 [(0, .ref a_this), (1, .int x1), (2, .int x2), (3, .int x3), (4, .int x4), (5, .int r7_), (7, .int v9_.2.2), (9, .int x5_)] → W p l e rm_X6_ticksAbove s m (([.ref a_this, .int x1, .int x2, .int x3, .int x4] : List Value)).toArray below meth c s.heap [] 0 0 Q (F0 m 89 ls []) := by
          intro ls hl
          refine lv_iload hx hb dX6_ticksAbove_89 (lv_at hl 7 rfl) ?_
          refine lv_istore (lv' := [(6, .int x5_), (0, .ref a_this), (1, .int x1), (2, .int x2), (3, .int x3), (4, .int x4), (5, .int r7_), (7, .int v9_.2.2), (9, .int x5_)]) hx hb dX6_ticksAbove_91 hl (by decide) rfl (fun ls hl => ?_)
          refine z_nm h (fun x8_ ex8_ h => ?_)
          refine lv_iinc (v := x8_) (lv' := [(7, .int x8_), (6, .int x5_), (0, .ref a_this), (1, .int x1), (2, .int x2), (3, .int x3), (4, .int x4), (5, .int r7_), (9, .int x5_)]) hx hb dX6_ticksAbove_93 hl (k := 7) rfl (by rw [ex8_]; rfl) (by decide) rfl (fun ls hl => ?_)
          refine lv_goto (tgt := 9) hx hb dX6_ticksAbove_96 (by decide) ?_
          exact ih9_ _ h _ (lv_sub hl [2, 3, 4, 5, 6, 7, 1, 0] rfl)
        have h := hA89_
        refine z_eq (tgt := 89) hx hb dX6_ticksAbove_51 (by decide) h (fun h => ?_) (fun h => ?_)
        · obtain rfl := Option.some.inj h
          exact k89_ _ (lv_sub hl [2, 3, 4, 5, 6, 7, 9, 0] rfl)
        · refine lv_aload_n hx hb dX6_ticksAbove_54 rfl (lv_at hl 2 rfl) ?_
          refine lv_iload_n hx hb dX6_ticksAbove_55 rfl (lv_at hl 3 rfl) ?_
          refine lv_iconst (v := 1) hx hb dX6_ticksAbove_56 (by decide) ?_
          refine lv_iload hx hb dX6_ticksAbove_57 (lv_at hl 9 rfl) ?_
          obtain ⟨r9_, hr9_, h⟩ := z_bind h
          refine zRV F (k_X6_sounding l N g a_this a_score a_shifts a_heldTicks a_score_cells v_score_size v_shifts v_score_cells x1 1 v9_.2.2 _ hr9_) zy_X6_sounding zw_462 hP hD hS [0, 1, 2, 3] rfl rfl (q0 := 0) (he := rfl) (hc := rfl) (rest := []) rfl hl.1 rfl (Nat.le_of_ble_eq_true rfl) ⟨rfl, rfl⟩ ⟨Nat.le_of_ble_eq_true rfl, Nat.le_of_ble_eq_true rfl⟩ ⟨Nat.zero_le _, Nat.zero_le _⟩ dX6_ticksAbove_59 (st1 := [.int r9_]) rfl ?_
          refine lv_iload_n hx hb dX6_ticksAbove_62 rfl (lv_at hl 4 rfl) ?_
          refine z_cle (tgt := 89) hx hb dX6_ticksAbove_63 (by decide) h (fun h => ?_) (fun h => ?_)
          · obtain rfl := Option.some.inj h
            exact k89_ _ (lv_sub hl [2, 3, 4, 5, 6, 7, 9, 0] rfl)
          · refine lv_iload hx hb dX6_ticksAbove_66 (lv_at hl 7 rfl) ?_
            refine lv_iload hx hb dX6_ticksAbove_68 (lv_at hl 0 rfl) ?_
            refine lv_iload hx hb dX6_ticksAbove_70 (lv_at hl 6 rfl) ?_
            refine va_mmin hx hb (F.1.2.2.1.trans hl.1.symm) F.1.2.2.2.1 (hz _ zw_460) (hz _ zw_44) (hz _ zw_45) (hz _ zw_46) (Nat.le_of_ble_eq_true rfl) (Nat.le_of_ble_eq_true rfl) (Nat.zero_le _) (Nat.zero_le _) dX6_ticksAbove_72 ?_
            refine lv_iload hx hb dX6_ticksAbove_75 (lv_at hl 8 rfl) ?_
            refine lv_iload_n hx hb dX6_ticksAbove_77 rfl (lv_at hl 5 rfl) ?_
            refine va_mmax hx hb (F.1.2.2.1.trans hl.1.symm) F.1.2.2.2.1 (hz _ zw_461) (hz _ zw_214) (hz _ zw_45) (hz _ zw_215) (Nat.le_of_ble_eq_true rfl) (Nat.le_of_ble_eq_true rfl) (Nat.zero_le _) (Nat.zero_le _) dX6_ticksAbove_78 ?_
            refine lv_isub hx hb dX6_ticksAbove_81 ?_
            refine lv_iconst (v := 0) hx hb dX6_ticksAbove_82 (by decide) ?_
            refine va_mmax hx hb (F.1.2.2.1.trans hl.1.symm) F.1.2.2.2.1 (hz _ zw_461) (hz _ zw_214) (hz _ zw_45) (hz _ zw_215) (Nat.le_of_ble_eq_true rfl) (Nat.le_of_ble_eq_true rfl) (Nat.zero_le _) (Nat.zero_le _) dX6_ticksAbove_83 ?_
            refine lv_iadd hx hb dX6_ticksAbove_86 ?_
            refine z_top Value.int h (fun x10_ h => ?_)
            refine lv_istore (lv' := [(5, .int x10_), (9, .int x5_), (8, .int r3_), (0, .ref a_this), (1, .int x1), (2, .int x2), (3, .int x3), (4, .int x4), (6, .int v9_.2.1), (7, .int v9_.2.2)]) hx hb dX6_ticksAbove_87 hl (by decide) rfl (fun ls hl => ?_)
            obtain rfl := Option.some.inj h
            exact k89_ _ (lv_sub hl [3, 4, 5, 6, 7, 0, 9, 1] rfl)
  exact l9_ N _ h _ (lv_sub hl [3, 4, 5, 6, 7, 2, 1, 0] rfl)
def f_X6_crossedTicks_B17 (N : Nat) (v_score_size : Int32) (v_score_cells : Nat → Int32) (x1 : Int32) (v_shifts : Nat → Int32) (r1_ : Int32) (kh17_ : Int32 × Int32 × Int32 → Option Int32) (v17_ : Int32 × Int32 × Int32) : Option Int32 :=
  Option.bind (f_X4_count N v_score_size v_score_cells x1 0) (fun (r3_ : Int32) => if v17_.2.2 < r3_ then Option.bind (f_X4_code N v_score_size v_score_cells x1 0 v17_.2.2) (fun (r4_ : Int32) => Option.bind (f_X0_ticksOf N r4_) (fun (r5_ : Int32) => Option.bind (some (v17_.2.1 + r5_)) (fun (x6_ : Int32) => Option.bind (f_X0_isNote N r4_) (fun (r7_ : Int32) => Option.bind (if r7_ = 0 then some v17_.1 else Option.bind (f_X6_sounding N v_score_size v_shifts v_score_cells x1 0 v17_.2.2) (fun (r10_ : Int32) => Option.bind (f_X6_ticksAbove N v_score_size v_shifts v_score_cells x1 r10_ v17_.2.1 (zMin x6_ r1_)) (fun (r11_ : Int32) => Option.bind (some (v17_.1 + r11_)) (fun (x12_ : Int32) => some x12_)))) (fun (r8_ : Int32) => Option.bind (some (v17_.2.2 + 1)) (fun (x9_ : Int32) => kh17_ (r8_, x6_, x9_))))))) else some v17_.1)
def f_X6_crossedTicks (N : Nat) (v_score_size : Int32) (v_shifts : Nat → Int32) (v_score_cells : Nat → Int32) (x1 : Int32) : Option Int32 :=
  Option.bind (f_X4_ticks N v_score_size v_score_cells x1) (fun (r1_ : Int32) => Option.bind (zLoop (f_X6_crossedTicks_B17 N v_score_size v_score_cells x1 v_shifts r1_) N (0, 0, 0)) (fun (r2_ : Int32) => some r2_))
abbrev rm_X6_crossedTicks : Room := { frames := 4, cells := 0, slots := 0, locals := 102 }
theorem zy_X6_crossedTicks : zYv yX6_crossedTicks RX6 cX6_crossedTicks 8 (some .int) 1 := ⟨zw_605, zw_606, zw_404, zw_470, ⟨by decide, by decide⟩, by decide +kernel⟩
set_option maxHeartbeats 4000000 in
set_option maxRecDepth 100000 in
theorem k_X6_crossedTicks (l : Launch) (N : Nat) (g : zEnv) (a_this a_score a_shifts a_heldTicks a_score_cells : Nat) (v_score_size : Int32) (v_shifts : Nat → Int32) (v_score_cells : Nat → Int32) (x1 : Int32) (r : Int32) (h : f_X6_crossedTicks N v_score_size v_shifts v_score_cells x1 = some r) : ZR l yX6_crossedTicks cX6_crossedTicks 8 (some .int) rm_X6_crossedTicks g [.ref a_this, .int x1] [zo_X6 a_this a_score a_shifts a_heldTicks, zo_X4 a_score a_score_cells v_score_size, (a_shifts, .inl (zI g, 768, .inl v_shifts)), (a_score_cells, .inl (zI g, 912, .inl v_score_cells))] (some (.int r)) := by
  refine zR_of (by decide) (Nat.le_of_ble_eq_true rfl) ?_
  intro p e s m below meth c A ls Q R F hRm hr hlocks hP hD hS hl hQ
  subst hRm
  have F : zF p m c cX6_crossedTicks 8 s (([.ref a_this, .int x1] : List Value)).toArray RX6 g A := F
  have hx := F.1.1
  have hb := F.1.2.1
  have hz := F.1.2.2.2.2
  have hl : lv_has ls 8 [(0, .ref a_this), (1, .int x1)] := hl
  unfold f_X6_crossedTicks at h
  refine lv_aload_n hx hb dX6_crossedTicks_0 rfl (lv_at hl 0 rfl) ?_
  refine z_get (C := RX6) (T := TX6) (N := 3) (ci := 5) F zu_wsX60 hP 0 rfl rfl 0 (by decide) zw_399 rfl dX6_crossedTicks_1 ?_
  refine lv_iload_n hx hb dX6_crossedTicks_4 rfl (lv_at hl 1 rfl) ?_
  obtain ⟨r1_, hr1_, h⟩ := z_bind h
  refine zRV F (k_X4_ticks l N g a_score a_score_cells v_score_size v_score_cells x1 _ hr1_) zy_X4_ticks zw_466 hP hD hS [1, 3] rfl rfl (q0 := 1) (he := rfl) (hc := rfl) (rest := []) rfl hl.1 rfl (Nat.le_of_ble_eq_true rfl) ⟨rfl, rfl⟩ ⟨Nat.le_of_ble_eq_true rfl, Nat.le_of_ble_eq_true rfl⟩ ⟨Nat.zero_le _, Nat.zero_le _⟩ dX6_crossedTicks_5 (st1 := [.int r1_]) rfl ?_
  refine lv_istore_n (lv' := [(2, .int r1_), (0, .ref a_this), (1, .int x1)]) hx hb dX6_crossedTicks_8 rfl hl (by decide) rfl (fun ls hl => ?_)
  refine lv_iconst (v := 0) hx hb dX6_crossedTicks_9 (by decide) ?_
  refine lv_istore_n (lv' := [(3, .int 0), (2, .int r1_), (0, .ref a_this), (1, .int x1)]) hx hb dX6_crossedTicks_10 rfl hl (by decide) rfl (fun ls hl => ?_)
  refine lv_iconst (v := 0) hx hb dX6_crossedTicks_11 (by decide) ?_
  refine lv_istore (lv' := [(4, .int 0), (3, .int 0), (2, .int r1_), (0, .ref a_this), (1, .int x1)]) hx hb dX6_crossedTicks_12 hl (by decide) rfl (fun ls hl => ?_)
  refine lv_iconst (v := 0) hx hb dX6_crossedTicks_14 (by decide) ?_
  refine lv_istore (lv' := [(5, .int 0), (4, .int 0), (3, .int 0), (2, .int r1_), (0, .ref a_this), (1, .int x1)]) hx hb dX6_crossedTicks_15 hl (by decide) rfl (fun ls hl => ?_)
  obtain ⟨r2_, hA17_, h⟩ := z_bind h
  have k96_ : ∀ (ls : Array Slot), lv_has ls 8 [(3, .int r2_)] → W p l e rm_X6_crossedTicks s m (([.ref a_this, .int x1] : List Value)).toArray below meth c s.heap [] 0 0 Q (F0 m 96 ls []) := by
    intro ls hl
    refine lv_iload_n hx hb dX6_crossedTicks_96 rfl (lv_at hl 0 rfl) ?_
    obtain rfl := Option.some.inj h
    exact zR_i F hr hlocks hQ dX6_crossedTicks_97
  have h := hA17_
  have l17_ : ∀ (n17_ : Nat) (v17_ : Int32 × Int32 × Int32), zLoop (f_X6_crossedTicks_B17 N v_score_size v_score_cells x1 v_shifts r1_) n17_ v17_ = some r2_ → ∀ (ls : Array Slot), lv_has ls 8 [(0, .ref a_this), (1, .int x1), (2, .int r1_), (3, .int v17_.1), (4, .int v17_.2.1), (5, .int v17_.2.2)] → W p l e rm_X6_crossedTicks s m (([.ref a_this, .int x1] : List Value)).toArray below meth c s.heap [] 0 0 Q (F0 m 17 ls []) := by
    intro n17_
    induction n17_ with
    | zero => intro v17_ h; cases h
    | succ n17_ ih17_ =>
      intro v17_ h ls hl
      have h : f_X6_crossedTicks_B17 N v_score_size v_score_cells x1 v_shifts r1_ (zLoop (f_X6_crossedTicks_B17 N v_score_size v_score_cells x1 v_shifts r1_) n17_) v17_ = some r2_ := h
      unfold f_X6_crossedTicks_B17 at h
      refine lv_iload hx hb dX6_crossedTicks_17 (lv_at hl 5 rfl) ?_
      refine lv_aload_n hx hb dX6_crossedTicks_19 rfl (lv_at hl 0 rfl) ?_
      refine z_get (C := RX6) (T := TX6) (N := 3) (ci := 5) F zu_wsX60 hP 0 rfl rfl 0 (by decide) zw_399 rfl dX6_crossedTicks_20 ?_
      refine lv_iload_n hx hb dX6_crossedTicks_23 rfl (lv_at hl 1 rfl) ?_
      refine lv_iconst (v := 0) hx hb dX6_crossedTicks_24 (by decide) ?_
      obtain ⟨r3_, hr3_, h⟩ := z_bind h
      refine zRV F (k_X4_count l N g a_score a_score_cells v_score_size v_score_cells x1 0 _ hr3_) zy_X4_count zw_421 hP hD hS [1, 3] rfl rfl (q0 := 1) (he := rfl) (hc := rfl) (rest := [.int v17_.2.2]) rfl hl.1 rfl (Nat.le_of_ble_eq_true rfl) ⟨rfl, rfl⟩ ⟨Nat.le_of_ble_eq_true rfl, Nat.le_of_ble_eq_true rfl⟩ ⟨Nat.zero_le _, Nat.zero_le _⟩ dX6_crossedTicks_25 (st1 := [.int r3_, .int v17_.2.2]) rfl ?_
      refine z_cge (tgt := 96) hx hb dX6_crossedTicks_28 (by decide) h (fun h => ?_) (fun h => ?_)
      · obtain rfl := Option.some.inj h
        exact k96_ _ (lv_sub hl [3] rfl)
      · refine lv_aload_n hx hb dX6_crossedTicks_31 rfl (lv_at hl 0 rfl) ?_
        refine z_get (C := RX6) (T := TX6) (N := 3) (ci := 5) F zu_wsX60 hP 0 rfl rfl 0 (by decide) zw_399 rfl dX6_crossedTicks_32 ?_
        refine lv_iload_n hx hb dX6_crossedTicks_35 rfl (lv_at hl 1 rfl) ?_
        refine lv_iconst (v := 0) hx hb dX6_crossedTicks_36 (by decide) ?_
        refine lv_iload hx hb dX6_crossedTicks_37 (lv_at hl 5 rfl) ?_
        obtain ⟨r4_, hr4_, h⟩ := z_bind h
        refine zRV F (k_X4_code l N g a_score a_score_cells v_score_size v_score_cells x1 0 v17_.2.2 _ hr4_) zy_X4_code zw_407 hP hD hS [1, 3] rfl rfl (q0 := 1) (he := rfl) (hc := rfl) (rest := []) rfl hl.1 rfl (Nat.le_of_ble_eq_true rfl) ⟨rfl, rfl⟩ ⟨Nat.le_of_ble_eq_true rfl, Nat.le_of_ble_eq_true rfl⟩ ⟨Nat.zero_le _, Nat.zero_le _⟩ dX6_crossedTicks_39 (st1 := [.int r4_]) rfl ?_
        refine lv_istore (lv' := [(6, .int r4_), (0, .ref a_this), (1, .int x1), (2, .int r1_), (3, .int v17_.1), (4, .int v17_.2.1), (5, .int v17_.2.2)]) hx hb dX6_crossedTicks_42 hl (by decide) rfl (fun ls hl => ?_)
        refine lv_iload hx hb dX6_crossedTicks_44 (lv_at hl 5 rfl) ?_
        refine lv_iload hx hb dX6_crossedTicks_46 (lv_at hl 0 rfl) ?_
        obtain ⟨r5_, hr5_, h⟩ := z_bind h
        refine zRS F (k_X0_ticksOf l N g r4_ _ hr5_) zy_X0_ticksOf zw_412 hP hD hS [] rfl rfl (rest := [.int v17_.2.1]) rfl hl.1 rfl (Nat.le_of_ble_eq_true rfl) ⟨rfl, rfl⟩ ⟨Nat.le_of_ble_eq_true rfl, Nat.le_of_ble_eq_true rfl⟩ ⟨Nat.zero_le _, Nat.zero_le _⟩ dX6_crossedTicks_48 (st1 := [.int r5_, .int v17_.2.1]) rfl ?_
        refine lv_iadd hx hb dX6_crossedTicks_51 ?_
        refine z_top Value.int h (fun x6_ h => ?_)
        refine lv_istore (lv' := [(7, .int x6_), (6, .int r4_), (0, .ref a_this), (1, .int x1), (2, .int r1_), (3, .int v17_.1), (4, .int v17_.2.1), (5, .int v17_.2.2)]) hx hb dX6_crossedTicks_52 hl (by decide) rfl (fun ls hl => ?_)
        refine lv_iload hx hb dX6_crossedTicks_54 (lv_at hl 1 rfl) ?_
        obtain ⟨r7_, hr7_, h⟩ := z_bind h
        refine zRS F (k_X0_isNote l N g r4_ _ hr7_) zy_X0_isNote zw_457 hP hD hS [] rfl rfl (rest := []) rfl hl.1 rfl (Nat.le_of_ble_eq_true rfl) ⟨rfl, rfl⟩ ⟨Nat.le_of_ble_eq_true rfl, Nat.le_of_ble_eq_true rfl⟩ ⟨Nat.zero_le _, Nat.zero_le _⟩ dX6_crossedTicks_56 (st1 := [.int r7_]) rfl ?_
        obtain ⟨r8_, hA86_, h⟩ := z_bind h
        have k86_ : ∀ (ls : Array Slot), lv_has ls 8 [(0, .ref a_this), (1, .int x1), (2, .int r1_), (3, .int r8_), (5, .int v17_.2.2), (7, .int x6_)] → W p l e rm_X6_crossedTicks s m (([.ref a_this, .int x1] : List Value)).toArray below meth c s.heap [] 0 0 Q (F0 m 86 ls []) := by
          intro ls hl
          refine lv_iload hx hb dX6_crossedTicks_86 (lv_at hl 5 rfl) ?_
          refine lv_istore (lv' := [(4, .int x6_), (0, .ref a_this), (1, .int x1), (2, .int r1_), (3, .int r8_), (5, .int v17_.2.2), (7, .int x6_)]) hx hb dX6_crossedTicks_88 hl (by decide) rfl (fun ls hl => ?_)
          refine z_nm h (fun x9_ ex9_ h => ?_)
          refine lv_iinc (v := x9_) (lv' := [(5, .int x9_), (4, .int x6_), (0, .ref a_this), (1, .int x1), (2, .int r1_), (3, .int r8_), (7, .int x6_)]) hx hb dX6_crossedTicks_90 hl (k := 5) rfl (by rw [ex9_]; rfl) (by decide) rfl (fun ls hl => ?_)
          refine lv_goto (tgt := 17) hx hb dX6_crossedTicks_93 (by decide) ?_
          exact ih17_ _ h _ (lv_sub hl [2, 3, 4, 5, 1, 0] rfl)
        have h := hA86_
        refine z_eq (tgt := 86) hx hb dX6_crossedTicks_59 (by decide) h (fun h => ?_) (fun h => ?_)
        · obtain rfl := Option.some.inj h
          exact k86_ _ (lv_sub hl [2, 3, 4, 5, 7, 0] rfl)
        · refine lv_iload_n hx hb dX6_crossedTicks_62 rfl (lv_at hl 5 rfl) ?_
          refine lv_aload_n hx hb dX6_crossedTicks_63 rfl (lv_at hl 2 rfl) ?_
          refine lv_iload_n hx hb dX6_crossedTicks_64 rfl (lv_at hl 3 rfl) ?_
          refine lv_aload_n hx hb dX6_crossedTicks_65 rfl (lv_at hl 2 rfl) ?_
          refine lv_iload_n hx hb dX6_crossedTicks_66 rfl (lv_at hl 3 rfl) ?_
          refine lv_iconst (v := 0) hx hb dX6_crossedTicks_67 (by decide) ?_
          refine lv_iload hx hb dX6_crossedTicks_68 (lv_at hl 7 rfl) ?_
          obtain ⟨r10_, hr10_, h⟩ := z_bind h
          refine zRV F (k_X6_sounding l N g a_this a_score a_shifts a_heldTicks a_score_cells v_score_size v_shifts v_score_cells x1 0 v17_.2.2 _ hr10_) zy_X6_sounding zw_462 hP hD hS [0, 1, 2, 3] rfl rfl (q0 := 0) (he := rfl) (hc := rfl) (rest := [.int x1, .ref a_this, .int v17_.1]) rfl hl.1 rfl (Nat.le_of_ble_eq_true rfl) ⟨rfl, rfl⟩ ⟨Nat.le_of_ble_eq_true rfl, Nat.le_of_ble_eq_true rfl⟩ ⟨Nat.zero_le _, Nat.zero_le _⟩ dX6_crossedTicks_70 (st1 := [.int r10_, .int x1, .ref a_this, .int v17_.1]) rfl ?_
          refine lv_iload hx hb dX6_crossedTicks_73 (lv_at hl 6 rfl) ?_
          refine lv_iload hx hb dX6_crossedTicks_75 (lv_at hl 0 rfl) ?_
          refine lv_iload_n hx hb dX6_crossedTicks_77 rfl (lv_at hl 4 rfl) ?_
          refine va_mmin hx hb (F.1.2.2.1.trans hl.1.symm) F.1.2.2.2.1 (hz _ zw_460) (hz _ zw_44) (hz _ zw_45) (hz _ zw_46) (Nat.le_of_ble_eq_true rfl) (Nat.le_of_ble_eq_true rfl) (Nat.zero_le _) (Nat.zero_le _) dX6_crossedTicks_78 ?_
          obtain ⟨r11_, hr11_, h⟩ := z_bind h
          refine zRV F (k_X6_ticksAbove l N g a_this a_score a_shifts a_heldTicks a_score_cells v_score_size v_shifts v_score_cells x1 r10_ v17_.2.1 (zMin x6_ r1_) _ hr11_) zy_X6_ticksAbove zw_467 hP hD hS [0, 1, 2, 3] rfl rfl (q0 := 0) (he := rfl) (hc := rfl) (rest := [.int v17_.1]) rfl hl.1 rfl (Nat.le_of_ble_eq_true rfl) ⟨rfl, rfl⟩ ⟨Nat.le_of_ble_eq_true rfl, Nat.le_of_ble_eq_true rfl⟩ ⟨Nat.zero_le _, Nat.zero_le _⟩ dX6_crossedTicks_81 (st1 := [.int r11_, .int v17_.1]) rfl ?_
          refine lv_iadd hx hb dX6_crossedTicks_84 ?_
          refine z_top Value.int h (fun x12_ h => ?_)
          refine lv_istore_n (lv' := [(3, .int x12_), (7, .int x6_), (6, .int r4_), (0, .ref a_this), (1, .int x1), (2, .int r1_), (4, .int v17_.2.1), (5, .int v17_.2.2)]) hx hb dX6_crossedTicks_85 rfl hl (by decide) rfl (fun ls hl => ?_)
          obtain rfl := Option.some.inj h
          exact k86_ _ (lv_sub hl [3, 4, 5, 0, 7, 1] rfl)
  exact l17_ N _ h _ (lv_sub hl [4, 5, 3, 2, 1, 0] rfl)
