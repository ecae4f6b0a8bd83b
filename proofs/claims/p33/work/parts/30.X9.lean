abbrev rm_X1_place : Room := { frames := 0, cells := 0, slots := 0, locals := 0 }
theorem zy_X1_place : zYv yX1_place RX1 cX1_place 2 (some (.object "SpokenBars$Score")) 1 := ⟨zw_48, zw_49, zw_50, zw_35, ⟨by decide, by decide⟩, by decide +kernel⟩
set_option maxHeartbeats 4000000 in
set_option maxRecDepth 100000 in
theorem k_X1_place0 (l : Launch) (g : zEnv) (a_this a_saved a_s0 a_s1 a_s2 a_s3 : Nat) (v_size v_next x1 : Int32) (hq : x1 = 0) : ZR l yX1_place cX1_place 2 (some (.object "SpokenBars$Score")) rm_X1_place g [.ref a_this, .int x1] [zo_X1 a_this a_saved v_size v_next, (a_saved, .inl (zO g, 4, .inr (.inr (.inr (.inr (zSv a_s0 a_s1 a_s2 a_s3))))))] (some (.ref a_s0)) := by
  subst hq
  refine zR_of (by decide) (Nat.le_of_ble_eq_true rfl) ?_
  intro p e s m below meth c A ls Q R F hRm hr hlocks hP hD hS hl hQ
  subst hRm
  have F : zF p m c cX1_place 2 s (([.ref a_this, .int 0] : List Value)).toArray RX1 g A := F
  have hx := F.1.1
  have hb := F.1.2.1
  have hz := F.1.2.2.2.2
  have hl : lv_has ls 2 [(0, .ref a_this), (1, .int 0)] := hl
  refine lv_iload_n hx hb dX1_place_0 rfl (lv_at hl 1 rfl) ?_
  refine lv_if_lt (tgt := 18) hx hb dX1_place_1 (by decide) (fun q => absurd q (by decide)) (fun _ => ?_)
  refine lv_iload_n hx hb dX1_place_4 rfl (lv_at hl 1 rfl) ?_
  refine lv_iconst (v := 4) hx hb dX1_place_5 (by decide) ?_
  refine lv_icmp_ge (tgt := 18) hx hb dX1_place_6 (by decide) (fun q => absurd q (by decide)) (fun _ => ?_)
  refine lv_aload_n hx hb dX1_place_9 rfl (lv_at hl 0 rfl) ?_
  refine z_get (C := RX1) (T := TX1) (N := 3) (ci := 0) F zu_wsX10 hP 0 rfl rfl 0 (by decide) zw_28 rfl dX1_place_10 ?_
  refine lv_iload_n hx hb dX1_place_13 rfl (lv_at hl 1 rfl) ?_
  refine z_aald F hP 1 rfl rfl (j := 0) rfl (by decide) dX1_place_14 rfl ?_
  refine lv_goto (tgt := 19) hx hb dX1_place_15 (by decide) ?_
  exact zR_r F hr hlocks hQ dX1_place_19
set_option maxHeartbeats 4000000 in
set_option maxRecDepth 100000 in
theorem k_X1_place1 (l : Launch) (g : zEnv) (a_this a_saved a_s0 a_s1 a_s2 a_s3 : Nat) (v_size v_next x1 : Int32) (hq : x1 = 1) : ZR l yX1_place cX1_place 2 (some (.object "SpokenBars$Score")) rm_X1_place g [.ref a_this, .int x1] [zo_X1 a_this a_saved v_size v_next, (a_saved, .inl (zO g, 4, .inr (.inr (.inr (.inr (zSv a_s0 a_s1 a_s2 a_s3))))))] (some (.ref a_s1)) := by
  subst hq
  refine zR_of (by decide) (Nat.le_of_ble_eq_true rfl) ?_
  intro p e s m below meth c A ls Q R F hRm hr hlocks hP hD hS hl hQ
  subst hRm
  have F : zF p m c cX1_place 2 s (([.ref a_this, .int 1] : List Value)).toArray RX1 g A := F
  have hx := F.1.1
  have hb := F.1.2.1
  have hz := F.1.2.2.2.2
  have hl : lv_has ls 2 [(0, .ref a_this), (1, .int 1)] := hl
  refine lv_iload_n hx hb dX1_place_0 rfl (lv_at hl 1 rfl) ?_
  refine lv_if_lt (tgt := 18) hx hb dX1_place_1 (by decide) (fun q => absurd q (by decide)) (fun _ => ?_)
  refine lv_iload_n hx hb dX1_place_4 rfl (lv_at hl 1 rfl) ?_
  refine lv_iconst (v := 4) hx hb dX1_place_5 (by decide) ?_
  refine lv_icmp_ge (tgt := 18) hx hb dX1_place_6 (by decide) (fun q => absurd q (by decide)) (fun _ => ?_)
  refine lv_aload_n hx hb dX1_place_9 rfl (lv_at hl 0 rfl) ?_
  refine z_get (C := RX1) (T := TX1) (N := 3) (ci := 0) F zu_wsX10 hP 0 rfl rfl 0 (by decide) zw_28 rfl dX1_place_10 ?_
  refine lv_iload_n hx hb dX1_place_13 rfl (lv_at hl 1 rfl) ?_
  refine z_aald F hP 1 rfl rfl (j := 1) rfl (by decide) dX1_place_14 rfl ?_
  refine lv_goto (tgt := 19) hx hb dX1_place_15 (by decide) ?_
  exact zR_r F hr hlocks hQ dX1_place_19
set_option maxHeartbeats 4000000 in
set_option maxRecDepth 100000 in
theorem k_X1_place2 (l : Launch) (g : zEnv) (a_this a_saved a_s0 a_s1 a_s2 a_s3 : Nat) (v_size v_next x1 : Int32) (hq : x1 = 2) : ZR l yX1_place cX1_place 2 (some (.object "SpokenBars$Score")) rm_X1_place g [.ref a_this, .int x1] [zo_X1 a_this a_saved v_size v_next, (a_saved, .inl (zO g, 4, .inr (.inr (.inr (.inr (zSv a_s0 a_s1 a_s2 a_s3))))))] (some (.ref a_s2)) := by
  subst hq
  refine zR_of (by decide) (Nat.le_of_ble_eq_true rfl) ?_
  intro p e s m below meth c A ls Q R F hRm hr hlocks hP hD hS hl hQ
  subst hRm
  have F : zF p m c cX1_place 2 s (([.ref a_this, .int 2] : List Value)).toArray RX1 g A := F
  have hx := F.1.1
  have hb := F.1.2.1
  have hz := F.1.2.2.2.2
  have hl : lv_has ls 2 [(0, .ref a_this), (1, .int 2)] := hl
  refine lv_iload_n hx hb dX1_place_0 rfl (lv_at hl 1 rfl) ?_
  refine lv_if_lt (tgt := 18) hx hb dX1_place_1 (by decide) (fun q => absurd q (by decide)) (fun _ => ?_)
  refine lv_iload_n hx hb dX1_place_4 rfl (lv_at hl 1 rfl) ?_
  refine lv_iconst (v := 4) hx hb dX1_place_5 (by decide) ?_
  refine lv_icmp_ge (tgt := 18) hx hb dX1_place_6 (by decide) (fun q => absurd q (by decide)) (fun _ => ?_)
  refine lv_aload_n hx hb dX1_place_9 rfl (lv_at hl 0 rfl) ?_
  refine z_get (C := RX1) (T := TX1) (N := 3) (ci := 0) F zu_wsX10 hP 0 rfl rfl 0 (by decide) zw_28 rfl dX1_place_10 ?_
  refine lv_iload_n hx hb dX1_place_13 rfl (lv_at hl 1 rfl) ?_
  refine z_aald F hP 1 rfl rfl (j := 2) rfl (by decide) dX1_place_14 rfl ?_
  refine lv_goto (tgt := 19) hx hb dX1_place_15 (by decide) ?_
  exact zR_r F hr hlocks hQ dX1_place_19
set_option maxHeartbeats 4000000 in
set_option maxRecDepth 100000 in
theorem k_X1_place3 (l : Launch) (g : zEnv) (a_this a_saved a_s0 a_s1 a_s2 a_s3 : Nat) (v_size v_next x1 : Int32) (hq : x1 = 3) : ZR l yX1_place cX1_place 2 (some (.object "SpokenBars$Score")) rm_X1_place g [.ref a_this, .int x1] [zo_X1 a_this a_saved v_size v_next, (a_saved, .inl (zO g, 4, .inr (.inr (.inr (.inr (zSv a_s0 a_s1 a_s2 a_s3))))))] (some (.ref a_s3)) := by
  subst hq
  refine zR_of (by decide) (Nat.le_of_ble_eq_true rfl) ?_
  intro p e s m below meth c A ls Q R F hRm hr hlocks hP hD hS hl hQ
  subst hRm
  have F : zF p m c cX1_place 2 s (([.ref a_this, .int 3] : List Value)).toArray RX1 g A := F
  have hx := F.1.1
  have hb := F.1.2.1
  have hz := F.1.2.2.2.2
  have hl : lv_has ls 2 [(0, .ref a_this), (1, .int 3)] := hl
  refine lv_iload_n hx hb dX1_place_0 rfl (lv_at hl 1 rfl) ?_
  refine lv_if_lt (tgt := 18) hx hb dX1_place_1 (by decide) (fun q => absurd q (by decide)) (fun _ => ?_)
  refine lv_iload_n hx hb dX1_place_4 rfl (lv_at hl 1 rfl) ?_
  refine lv_iconst (v := 4) hx hb dX1_place_5 (by decide) ?_
  refine lv_icmp_ge (tgt := 18) hx hb dX1_place_6 (by decide) (fun q => absurd q (by decide)) (fun _ => ?_)
  refine lv_aload_n hx hb dX1_place_9 rfl (lv_at hl 0 rfl) ?_
  refine z_get (C := RX1) (T := TX1) (N := 3) (ci := 0) F zu_wsX10 hP 0 rfl rfl 0 (by decide) zw_28 rfl dX1_place_10 ?_
  refine lv_iload_n hx hb dX1_place_13 rfl (lv_at hl 1 rfl) ?_
  refine z_aald F hP 1 rfl rfl (j := 3) rfl (by decide) dX1_place_14 rfl ?_
  refine lv_goto (tgt := 19) hx hb dX1_place_15 (by decide) ?_
  exact zR_r F hr hlocks hQ dX1_place_19
def f_X1_push (N : Nat) (v_next : Int32) (v_size : Int32) (v_s0_size : Int32) (v_s1_size : Int32) (v_s2_size : Int32) (v_s3_size : Int32) (v_s0_cells : Nat → Int32) (v_s1_cells : Nat → Int32) (v_s2_cells : Nat → Int32) (v_s3_cells : Nat → Int32) (v_p1_size : Int32) (v_p1_cells : Nat → Int32) : Option (Int32 × Int32 × Int32 × Int32 × Int32 × Int32 × (Nat → Int32) × (Nat → Int32) × (Nat → Int32) × (Nat → Int32)) :=
  if v_next = 0 then Option.bind (f_X4_copyFrom N v_s0_size v_s0_cells v_p1_size v_p1_cells) (fun (r1_ : Int32 × (Nat → Int32)) => Option.bind (zRem (v_next + 1) 4) (fun (x2_ : Int32) => Option.bind (some (zMin (v_size + 1) 4)) (fun (x3_ : Int32) => some (x2_, x3_, r1_.1, v_s1_size, v_s2_size, v_s3_size, r1_.2, v_s1_cells, v_s2_cells, v_s3_cells)))) else if v_next = 1 then Option.bind (f_X4_copyFrom N v_s1_size v_s1_cells v_p1_size v_p1_cells) (fun (r4_ : Int32 × (Nat → Int32)) => Option.bind (zRem (v_next + 1) 4) (fun (x5_ : Int32) => Option.bind (some (zMin (v_size + 1) 4)) (fun (x6_ : Int32) => some (x5_, x6_, v_s0_size, r4_.1, v_s2_size, v_s3_size, v_s0_cells, r4_.2, v_s2_cells, v_s3_cells)))) else if v_next = 2 then Option.bind (f_X4_copyFrom N v_s2_size v_s2_cells v_p1_size v_p1_cells) (fun (r7_ : Int32 × (Nat → Int32)) => Option.bind (zRem (v_next + 1) 4) (fun (x8_ : Int32) => Option.bind (some (zMin (v_size + 1) 4)) (fun (x9_ : Int32) => some (x8_, x9_, v_s0_size, v_s1_size, r7_.1, v_s3_size, v_s0_cells, v_s1_cells, r7_.2, v_s3_cells)))) else if v_next = 3 then Option.bind (f_X4_copyFrom N v_s3_size v_s3_cells v_p1_size v_p1_cells) (fun (r10_ : Int32 × (Nat → Int32)) => Option.bind (zRem (v_next + 1) 4) (fun (x11_ : Int32) => Option.bind (some (zMin (v_size + 1) 4)) (fun (x12_ : Int32) => some (x11_, x12_, v_s0_size, v_s1_size, v_s2_size, r10_.1, v_s0_cells, v_s1_cells, v_s2_cells, r10_.2)))) else none
abbrev rm_X1_push : Room := { frames := 2, cells := 0, slots := 0, locals := 89 }
theorem zy_X1_push : zYv yX1_push RX1 cX1_push 3 none 1 := ⟨zw_521, zw_522, zw_50, zw_54, ⟨by decide, by decide⟩, by decide +kernel⟩
set_option maxHeartbeats 4000000 in
set_option maxRecDepth 100000 in
theorem k_X1_push (l : Launch) (N : Nat) (g : zEnv) (a_this a_saved a_s0 a_s1 a_s2 a_s3 a_s0_cells a_s1_cells a_s2_cells a_s3_cells a_p1 a_p1_cells : Nat) (v_next : Int32) (v_size : Int32) (v_s0_size : Int32) (v_s1_size : Int32) (v_s2_size : Int32) (v_s3_size : Int32) (v_s0_cells : Nat → Int32) (v_s1_cells : Nat → Int32) (v_s2_cells : Nat → Int32) (v_s3_cells : Nat → Int32) (v_p1_size : Int32) (v_p1_cells : Nat → Int32) (r : Int32 × Int32 × Int32 × Int32 × Int32 × Int32 × (Nat → Int32) × (Nat → Int32) × (Nat → Int32) × (Nat → Int32)) (h : f_X1_push N v_next v_size v_s0_size v_s1_size v_s2_size v_s3_size v_s0_cells v_s1_cells v_s2_cells v_s3_cells v_p1_size v_p1_cells = some r) : ZV l yX1_push cX1_push 3 none rm_X1_push g [.ref a_this, .ref a_p1] [zo_X1 a_this a_saved v_size v_next, zo_X4 a_s0 a_s0_cells v_s0_size, zo_X4 a_s1 a_s1_cells v_s1_size, zo_X4 a_s2 a_s2_cells v_s2_size, zo_X4 a_s3 a_s3_cells v_s3_size, (a_saved, .inl (zO g, 4, .inr (.inr (.inr (.inr (zSv a_s0 a_s1 a_s2 a_s3)))))), (a_s0_cells, .inl (zI g, 912, .inl v_s0_cells)), (a_s1_cells, .inl (zI g, 912, .inl v_s1_cells)), (a_s2_cells, .inl (zI g, 912, .inl v_s2_cells)), (a_s3_cells, .inl (zI g, 912, .inl v_s3_cells)), zo_X4 a_p1 a_p1_cells v_p1_size, (a_p1_cells, .inl (zI g, 912, .inl v_p1_cells))] [zo_X1 a_this a_saved r.2.1 r.1, zo_X4 a_s0 a_s0_cells r.2.2.1, zo_X4 a_s1 a_s1_cells r.2.2.2.1, zo_X4 a_s2 a_s2_cells r.2.2.2.2.1, zo_X4 a_s3 a_s3_cells r.2.2.2.2.2.1, (a_saved, .inl (zO g, 4, .inr (.inr (.inr (.inr (zSv a_s0 a_s1 a_s2 a_s3)))))), (a_s0_cells, .inl (zI g, 912, .inl r.2.2.2.2.2.2.1)), (a_s1_cells, .inl (zI g, 912, .inl r.2.2.2.2.2.2.2.1)), (a_s2_cells, .inl (zI g, 912, .inl r.2.2.2.2.2.2.2.2.1)), (a_s3_cells, .inl (zI g, 912, .inl r.2.2.2.2.2.2.2.2.2)), zo_X4 a_p1 a_p1_cells v_p1_size, (a_p1_cells, .inl (zI g, 912, .inl v_p1_cells))] none := by
  refine zV_of (by decide) (Nat.le_of_ble_eq_true rfl) ?_
  intro p e s m below meth c A H locs ls Q R F hRm hr hlocks hP hD hS hl hQ
  subst hRm
  have F : zF p m c cX1_push 3 s (([.ref a_this, .ref a_p1] : List Value)).toArray RX1 g A := F
  have hx := F.1.1
  have hb := F.1.2.1
  have hz := F.1.2.2.2.2
  have hl : lv_has ls 3 [(0, .ref a_this), (1, .ref a_p1)] := hl
  unfold f_X1_push at h
  refine lv_aload_n hx hb dX1_push_0 rfl (lv_at hl 0 rfl) ?_
  refine lv_aload_n hx hb dX1_push_1 rfl (lv_at hl 0 rfl) ?_
  refine z_get (C := RX1) (T := TX1) (N := 3) (ci := 0) F zu_wsX10 hP 0 rfl rfl 2 (by decide) zw_42 rfl dX1_push_2 ?_
  by_cases c5_0_ : v_next = 0
  · rw [if_pos c5_0_] at h
    refine zRV F (k_X1_place0 l g a_this a_saved a_s0 a_s1 a_s2 a_s3 v_size v_next v_next c5_0_) zy_X1_place zw_47 hP hD hS [0, 5] rfl rfl (q0 := 0) (he := rfl) (hc := rfl) (rest := []) rfl hl.1 rfl (Nat.le_of_ble_eq_true rfl) ⟨rfl, rfl⟩ ⟨Nat.le_of_ble_eq_true rfl, Nat.le_of_ble_eq_true rfl⟩ ⟨Nat.zero_le _, Nat.zero_le _⟩ dX1_push_5 (st1 := [.ref a_s0]) rfl ?_
    refine lv_astore_n (lv' := [(2, .ref a_s0), (0, .ref a_this), (1, .ref a_p1)]) hx hb dX1_push_8 rfl hl (by decide) rfl (fun ls hl => ?_)
    refine lv_aload_n hx hb dX1_push_9 rfl (lv_at hl 0 rfl) ?_
    refine lv_ifnull hx hb dX1_push_10 ?_
    refine lv_aload_n hx hb dX1_push_13 rfl (lv_at hl 0 rfl) ?_
    refine lv_aload_n hx hb dX1_push_14 rfl (lv_at hl 2 rfl) ?_
    obtain ⟨r1_, hr1_, h⟩ := z_bind h
    refine zVV F (k_X4_copyFrom l N g a_s0 a_s0_cells a_p1 a_p1_cells v_s0_size v_s0_cells v_p1_size v_p1_cells _ hr1_) zy_X4_copyFrom zw_51 hP hD hS [1, 6, 10, 11] [0, 2, 3, 4, 5, 7, 8, 9] [0, 8, 1, 2, 3, 4, 9, 5, 6, 7, 10, 11] (wr := [zo_X1 a_this a_saved v_size v_next, zo_X4 a_s1 a_s1_cells v_s1_size, zo_X4 a_s2 a_s2_cells v_s2_size, zo_X4 a_s3 a_s3_cells v_s3_size, (a_saved, .inl (zO g, 4, .inr (.inr (.inr (.inr (zSv a_s0 a_s1 a_s2 a_s3)))))), (a_s1_cells, .inl (zI g, 912, .inl v_s1_cells)), (a_s2_cells, .inl (zI g, 912, .inl v_s2_cells)), (a_s3_cells, .inl (zI g, 912, .inl v_s3_cells))]) (W1 := [zo_X1 a_this a_saved v_size v_next, zo_X4 a_s0 a_s0_cells r1_.1, zo_X4 a_s1 a_s1_cells v_s1_size, zo_X4 a_s2 a_s2_cells v_s2_size, zo_X4 a_s3 a_s3_cells v_s3_size, (a_saved, .inl (zO g, 4, .inr (.inr (.inr (.inr (zSv a_s0 a_s1 a_s2 a_s3)))))), (a_s0_cells, .inl (zI g, 912, .inl r1_.2)), (a_s1_cells, .inl (zI g, 912, .inl v_s1_cells)), (a_s2_cells, .inl (zI g, 912, .inl v_s2_cells)), (a_s3_cells, .inl (zI g, 912, .inl v_s3_cells)), zo_X4 a_p1 a_p1_cells v_p1_size, (a_p1_cells, .inl (zI g, 912, .inl v_p1_cells))]) rfl rfl rfl rfl (by decide) rfl rfl (q0 := 1) (he := rfl) (hc := rfl) (rest := []) rfl hl.1 rfl (Nat.le_of_ble_eq_true rfl) ⟨rfl, rfl⟩ ⟨Nat.le_of_ble_eq_true rfl, Nat.le_of_ble_eq_true rfl⟩ ⟨Nat.zero_le _, Nat.zero_le _⟩ dX1_push_15 (st1 := []) rfl (fun H locs hP hD hS => ?_)
    refine lv_aload_n hx hb dX1_push_18 rfl (lv_at hl 1 rfl) ?_
    refine lv_aload_n hx hb dX1_push_19 rfl (lv_at hl 1 rfl) ?_
    refine z_get (C := RX1) (T := TX1) (N := 3) (ci := 0) F zu_wsX10 hP 0 rfl rfl 2 (by decide) zw_42 rfl dX1_push_20 ?_
    refine lv_iconst (v := 1) hx hb dX1_push_23 (by decide) ?_
    refine lv_iadd hx hb dX1_push_24 ?_
    refine lv_iconst (v := 4) hx hb dX1_push_25 (by decide) ?_
    refine z_rem hx hb dX1_push_26 h (fun x2_ h => ?_)
    refine z_put (C := RX1) (T := TX1) (N := 3) (ci := 0) (W1 := [zo_X1 a_this a_saved v_size x2_, zo_X4 a_s0 a_s0_cells r1_.1, zo_X4 a_s1 a_s1_cells v_s1_size, zo_X4 a_s2 a_s2_cells v_s2_size, zo_X4 a_s3 a_s3_cells v_s3_size, (a_saved, .inl (zO g, 4, .inr (.inr (.inr (.inr (zSv a_s0 a_s1 a_s2 a_s3)))))), (a_s0_cells, .inl (zI g, 912, .inl r1_.2)), (a_s1_cells, .inl (zI g, 912, .inl v_s1_cells)), (a_s2_cells, .inl (zI g, 912, .inl v_s2_cells)), (a_s3_cells, .inl (zI g, 912, .inl v_s3_cells)), zo_X4 a_p1 a_p1_cells v_p1_size, (a_p1_cells, .inl (zI g, 912, .inl v_p1_cells))]) F zu_wsX10 tyX1 tyX1_ok nmX1 hP hD hS 0 rfl rfl 2 (by decide) zw_42 rfl rfl rfl (Nat.le_of_ble_eq_true rfl) dX1_push_27 rfl (fun H locs hP hD hS => ?_)
    refine lv_aload_n hx hb dX1_push_30 rfl (lv_at hl 1 rfl) ?_
    refine lv_aload_n hx hb dX1_push_31 rfl (lv_at hl 1 rfl) ?_
    refine z_get (C := RX1) (T := TX1) (N := 3) (ci := 0) F zu_wsX10 hP 0 rfl rfl 1 (by decide) zw_33 rfl dX1_push_32 ?_
    refine lv_iconst (v := 1) hx hb dX1_push_35 (by decide) ?_
    refine lv_iadd hx hb dX1_push_36 ?_
    refine lv_iconst (v := 4) hx hb dX1_push_37 (by decide) ?_
    refine va_mmin hx hb (F.1.2.2.1.trans hl.1.symm) F.1.2.2.2.1 (hz _ zw_43) (hz _ zw_44) (hz _ zw_45) (hz _ zw_46) (Nat.le_of_ble_eq_true rfl) (Nat.le_of_ble_eq_true rfl) (Nat.zero_le _) (Nat.zero_le _) dX1_push_38 ?_
    refine z_top Value.int h (fun x3_ h => ?_)
    refine z_put (C := RX1) (T := TX1) (N := 3) (ci := 0) (W1 := [zo_X1 a_this a_saved x3_ x2_, zo_X4 a_s0 a_s0_cells r1_.1, zo_X4 a_s1 a_s1_cells v_s1_size, zo_X4 a_s2 a_s2_cells v_s2_size, zo_X4 a_s3 a_s3_cells v_s3_size, (a_saved, .inl (zO g, 4, .inr (.inr (.inr (.inr (zSv a_s0 a_s1 a_s2 a_s3)))))), (a_s0_cells, .inl (zI g, 912, .inl r1_.2)), (a_s1_cells, .inl (zI g, 912, .inl v_s1_cells)), (a_s2_cells, .inl (zI g, 912, .inl v_s2_cells)), (a_s3_cells, .inl (zI g, 912, .inl v_s3_cells)), zo_X4 a_p1 a_p1_cells v_p1_size, (a_p1_cells, .inl (zI g, 912, .inl v_p1_cells))]) F zu_wsX10 tyX1 tyX1_ok nmX1 hP hD hS 0 rfl rfl 1 (by decide) zw_33 rfl rfl rfl (Nat.le_of_ble_eq_true rfl) dX1_push_41 rfl (fun H locs hP hD hS => ?_)
    obtain rfl := Option.some.inj h
    exact zV_v F hr hlocks hQ hP hD hS dX1_push_44
  rw [if_neg c5_0_] at h
  by_cases c5_1_ : v_next = 1
  · rw [if_pos c5_1_] at h
    refine zRV F (k_X1_place1 l g a_this a_saved a_s0 a_s1 a_s2 a_s3 v_size v_next v_next c5_1_) zy_X1_place zw_47 hP hD hS [0, 5] rfl rfl (q0 := 0) (he := rfl) (hc := rfl) (rest := []) rfl hl.1 rfl (Nat.le_of_ble_eq_true rfl) ⟨rfl, rfl⟩ ⟨Nat.le_of_ble_eq_true rfl, Nat.le_of_ble_eq_true rfl⟩ ⟨Nat.zero_le _, Nat.zero_le _⟩ dX1_push_5 (st1 := [.ref a_s1]) rfl ?_
    refine lv_astore_n (lv' := [(2, .ref a_s1), (0, .ref a_this), (1, .ref a_p1)]) hx hb dX1_push_8 rfl hl (by decide) rfl (fun ls hl => ?_)
    refine lv_aload_n hx hb dX1_push_9 rfl (lv_at hl 0 rfl) ?_
    refine lv_ifnull hx hb dX1_push_10 ?_
    refine lv_aload_n hx hb dX1_push_13 rfl (lv_at hl 0 rfl) ?_
    refine lv_aload_n hx hb dX1_push_14 rfl (lv_at hl 2 rfl) ?_
    obtain ⟨r4_, hr4_, h⟩ := z_bind h
    refine zVV F (k_X4_copyFrom l N g a_s1 a_s1_cells a_p1 a_p1_cells v_s1_size v_s1_cells v_p1_size v_p1_cells _ hr4_) zy_X4_copyFrom zw_51 hP hD hS [2, 7, 10, 11] [0, 1, 3, 4, 5, 6, 8, 9] [0, 1, 8, 2, 3, 4, 5, 9, 6, 7, 10, 11] (wr := [zo_X1 a_this a_saved v_size v_next, zo_X4 a_s0 a_s0_cells v_s0_size, zo_X4 a_s2 a_s2_cells v_s2_size, zo_X4 a_s3 a_s3_cells v_s3_size, (a_saved, .inl (zO g, 4, .inr (.inr (.inr (.inr (zSv a_s0 a_s1 a_s2 a_s3)))))), (a_s0_cells, .inl (zI g, 912, .inl v_s0_cells)), (a_s2_cells, .inl (zI g, 912, .inl v_s2_cells)), (a_s3_cells, .inl (zI g, 912, .inl v_s3_cells))]) (W1 := [zo_X1 a_this a_saved v_size v_next, zo_X4 a_s0 a_s0_cells v_s0_size, zo_X4 a_s1 a_s1_cells r4_.1, zo_X4 a_s2 a_s2_cells v_s2_size, zo_X4 a_s3 a_s3_cells v_s3_size, (a_saved, .inl (zO g, 4, .inr (.inr (.inr (.inr (zSv a_s0 a_s1 a_s2 a_s3)))))), (a_s0_cells, .inl (zI g, 912, .inl v_s0_cells)), (a_s1_cells, .inl (zI g, 912, .inl r4_.2)), (a_s2_cells, .inl (zI g, 912, .inl v_s2_cells)), (a_s3_cells, .inl (zI g, 912, .inl v_s3_cells)), zo_X4 a_p1 a_p1_cells v_p1_size, (a_p1_cells, .inl (zI g, 912, .inl v_p1_cells))]) rfl rfl rfl rfl (by decide) rfl rfl (q0 := 2) (he := rfl) (hc := rfl) (rest := []) rfl hl.1 rfl (Nat.le_of_ble_eq_true rfl) ⟨rfl, rfl⟩ ⟨Nat.le_of_ble_eq_true rfl, Nat.le_of_ble_eq_true rfl⟩ ⟨Nat.zero_le _, Nat.zero_le _⟩ dX1_push_15 (st1 := []) rfl (fun H locs hP hD hS => ?_)
    refine lv_aload_n hx hb dX1_push_18 rfl (lv_at hl 1 rfl) ?_
    refine lv_aload_n hx hb dX1_push_19 rfl (lv_at hl 1 rfl) ?_
    refine z_get (C := RX1) (T := TX1) (N := 3) (ci := 0) F zu_wsX10 hP 0 rfl rfl 2 (by decide) zw_42 rfl dX1_push_20 ?_
    refine lv_iconst (v := 1) hx hb dX1_push_23 (by decide) ?_
    refine lv_iadd hx hb dX1_push_24 ?_
    refine lv_iconst (v := 4) hx hb dX1_push_25 (by decide) ?_
    refine z_rem hx hb dX1_push_26 h (fun x5_ h => ?_)
    refine z_put (C := RX1) (T := TX1) (N := 3) (ci := 0) (W1 := [zo_X1 a_this a_saved v_size x5_, zo_X4 a_s0 a_s0_cells v_s0_size, zo_X4 a_s1 a_s1_cells r4_.1, zo_X4 a_s2 a_s2_cells v_s2_size, zo_X4 a_s3 a_s3_cells v_s3_size, (a_saved, .inl (zO g, 4, .inr (.inr (.inr (.inr (zSv a_s0 a_s1 a_s2 a_s3)))))), (a_s0_cells, .inl (zI g, 912, .inl v_s0_cells)), (a_s1_cells, .inl (zI g, 912, .inl r4_.2)), (a_s2_cells, .inl (zI g, 912, .inl v_s2_cells)), (a_s3_cells, .inl (zI g, 912, .inl v_s3_cells)), zo_X4 a_p1 a_p1_cells v_p1_size, (a_p1_cells, .inl (zI g, 912, .inl v_p1_cells))]) F zu_wsX10 tyX1 tyX1_ok nmX1 hP hD hS 0 rfl rfl 2 (by decide) zw_42 rfl rfl rfl (Nat.le_of_ble_eq_true rfl) dX1_push_27 rfl (fun H locs hP hD hS => ?_)
    refine lv_aload_n hx hb dX1_push_30 rfl (lv_at hl 1 rfl) ?_
    refine lv_aload_n hx hb dX1_push_31 rfl (lv_at hl 1 rfl) ?_
    refine z_get (C := RX1) (T := TX1) (N := 3) (ci := 0) F zu_wsX10 hP 0 rfl rfl 1 (by decide) zw_33 rfl dX1_push_32 ?_
    refine lv_iconst (v := 1) hx hb dX1_push_35 (by decide) ?_
    refine lv_iadd hx hb dX1_push_36 ?_
    refine lv_iconst (v := 4) hx hb dX1_push_37 (by decide) ?_
    refine va_mmin hx hb (F.1.2.2.1.trans hl.1.symm) F.1.2.2.2.1 (hz _ zw_43) (hz _ zw_44) (hz _ zw_45) (hz _ zw_46) (Nat.le_of_ble_eq_true rfl) (Nat.le_of_ble_eq_true rfl) (Nat.zero_le _) (Nat.zero_le _) dX1_push_38 ?_
    refine z_top Value.int h (fun x6_ h => ?_)
    refine z_put (C := RX1) (T := TX1) (N := 3) (ci := 0) (W1 := [zo_X1 a_this a_saved x6_ x5_, zo_X4 a_s0 a_s0_cells v_s0_size, zo_X4 a_s1 a_s1_cells r4_.1, zo_X4 a_s2 a_s2_cells v_s2_size, zo_X4 a_s3 a_s3_cells v_s3_size, (a_saved, .inl (zO g, 4, .inr (.inr (.inr (.inr (zSv a_s0 a_s1 a_s2 a_s3)))))), (a_s0_cells, .inl (zI g, 912, .inl v_s0_cells)), (a_s1_cells, .inl (zI g, 912, .inl r4_.2)), (a_s2_cells, .inl (zI g, 912, .inl v_s2_cells)), (a_s3_cells, .inl (zI g, 912, .inl v_s3_cells)), zo_X4 a_p1 a_p1_cells v_p1_size, (a_p1_cells, .inl (zI g, 912, .inl v_p1_cells))]) F zu_wsX10 tyX1 tyX1_ok nmX1 hP hD hS 0 rfl rfl 1 (by decide) zw_33 rfl rfl rfl (Nat.le_of_ble_eq_true rfl) dX1_push_41 rfl (fun H locs hP hD hS => ?_)
    obtain rfl := Option.some.inj h
    exact zV_v F hr hlocks hQ hP hD hS dX1_push_44
  rw [if_neg c5_1_] at h
  by_cases c5_2_ : v_next = 2
  · rw [if_pos c5_2_] at h
    refine zRV F (k_X1_place2 l g a_this a_saved a_s0 a_s1 a_s2 a_s3 v_size v_next v_next c5_2_) zy_X1_place zw_47 hP hD hS [0, 5] rfl rfl (q0 := 0) (he := rfl) (hc := rfl) (rest := []) rfl hl.1 rfl (Nat.le_of_ble_eq_true rfl) ⟨rfl, rfl⟩ ⟨Nat.le_of_ble_eq_true rfl, Nat.le_of_ble_eq_true rfl⟩ ⟨Nat.zero_le _, Nat.zero_le _⟩ dX1_push_5 (st1 := [.ref a_s2]) rfl ?_
    refine lv_astore_n (lv' := [(2, .ref a_s2), (0, .ref a_this), (1, .ref a_p1)]) hx hb dX1_push_8 rfl hl (by decide) rfl (fun ls hl => ?_)
    refine lv_aload_n hx hb dX1_push_9 rfl (lv_at hl 0 rfl) ?_
    refine lv_ifnull hx hb dX1_push_10 ?_
    refine lv_aload_n hx hb dX1_push_13 rfl (lv_at hl 0 rfl) ?_
    refine lv_aload_n hx hb dX1_push_14 rfl (lv_at hl 2 rfl) ?_
    obtain ⟨r7_, hr7_, h⟩ := z_bind h
    refine zVV F (k_X4_copyFrom l N g a_s2 a_s2_cells a_p1 a_p1_cells v_s2_size v_s2_cells v_p1_size v_p1_cells _ hr7_) zy_X4_copyFrom zw_51 hP hD hS [3, 8, 10, 11] [0, 1, 2, 4, 5, 6, 7, 9] [0, 1, 2, 8, 3, 4, 5, 6, 9, 7, 10, 11] (wr := [zo_X1 a_this a_saved v_size v_next, zo_X4 a_s0 a_s0_cells v_s0_size, zo_X4 a_s1 a_s1_cells v_s1_size, zo_X4 a_s3 a_s3_cells v_s3_size, (a_saved, .inl (zO g, 4, .inr (.inr (.inr (.inr (zSv a_s0 a_s1 a_s2 a_s3)))))), (a_s0_cells, .inl (zI g, 912, .inl v_s0_cells)), (a_s1_cells, .inl (zI g, 912, .inl v_s1_cells)), (a_s3_cells, .inl (zI g, 912, .inl v_s3_cells))]) (W1 := [zo_X1 a_this a_saved v_size v_next, zo_X4 a_s0 a_s0_cells v_s0_size, zo_X4 a_s1 a_s1_cells v_s1_size, zo_X4 a_s2 a_s2_cells r7_.1, zo_X4 a_s3 a_s3_cells v_s3_size, (a_saved, .inl (zO g, 4, .inr (.inr (.inr (.inr (zSv a_s0 a_s1 a_s2 a_s3)))))), (a_s0_cells, .inl (zI g, 912, .inl v_s0_cells)), (a_s1_cells, .inl (zI g, 912, .inl v_s1_cells)), (a_s2_cells, .inl (zI g, 912, .inl r7_.2)), (a_s3_cells, .inl (zI g, 912, .inl v_s3_cells)), zo_X4 a_p1 a_p1_cells v_p1_size, (a_p1_cells, .inl (zI g, 912, .inl v_p1_cells))]) rfl rfl rfl rfl (by decide) rfl rfl (q0 := 3) (he := rfl) (hc := rfl) (rest := []) rfl hl.1 rfl (Nat.le_of_ble_eq_true rfl) ⟨rfl, rfl⟩ ⟨Nat.le_of_ble_eq_true rfl, Nat.le_of_ble_eq_true rfl⟩ ⟨Nat.zero_le _, Nat.zero_le _⟩ dX1_push_15 (st1 := []) rfl (fun H locs hP hD hS => ?_)
    refine lv_aload_n hx hb dX1_push_18 rfl (lv_at hl 1 rfl) ?_
    refine lv_aload_n hx hb dX1_push_19 rfl (lv_at hl 1 rfl) ?_
    refine z_get (C := RX1) (T := TX1) (N := 3) (ci := 0) F zu_wsX10 hP 0 rfl rfl 2 (by decide) zw_42 rfl dX1_push_20 ?_
    refine lv_iconst (v := 1) hx hb dX1_push_23 (by decide) ?_
    refine lv_iadd hx hb dX1_push_24 ?_
    refine lv_iconst (v := 4) hx hb dX1_push_25 (by decide) ?_
    refine z_rem hx hb dX1_push_26 h (fun x8_ h => ?_)
    refine z_put (C := RX1) (T := TX1) (N := 3) (ci := 0) (W1 := [zo_X1 a_this a_saved v_size x8_, zo_X4 a_s0 a_s0_cells v_s0_size, zo_X4 a_s1 a_s1_cells v_s1_size, zo_X4 a_s2 a_s2_cells r7_.1, zo_X4 a_s3 a_s3_cells v_s3_size, (a_saved, .inl (zO g, 4, .inr (.inr (.inr (.inr (zSv a_s0 a_s1 a_s2 a_s3)))))), (a_s0_cells, .inl (zI g, 912, .inl v_s0_cells)), (a_s1_cells, .inl (zI g, 912, .inl v_s1_cells)), (a_s2_cells, .inl (zI g, 912, .inl r7_.2)), (a_s3_cells, .inl (zI g, 912, .inl v_s3_cells)), zo_X4 a_p1 a_p1_cells v_p1_size, (a_p1_cells, .inl (zI g, 912, .inl v_p1_cells))]) F zu_wsX10 tyX1 tyX1_ok nmX1 hP hD hS 0 rfl rfl 2 (by decide) zw_42 rfl rfl rfl (Nat.le_of_ble_eq_true rfl) dX1_push_27 rfl (fun H locs hP hD hS => ?_)
    refine lv_aload_n hx hb dX1_push_30 rfl (lv_at hl 1 rfl) ?_
    refine lv_aload_n hx hb dX1_push_31 rfl (lv_at hl 1 rfl) ?_
    refine z_get (C := RX1) (T := TX1) (N := 3) (ci := 0) F zu_wsX10 hP 0 rfl rfl 1 (by decide) zw_33 rfl dX1_push_32 ?_
    refine lv_iconst (v := 1) hx hb dX1_push_35 (by decide) ?_
    refine lv_iadd hx hb dX1_push_36 ?_
    refine lv_iconst (v := 4) hx hb dX1_push_37 (by decide) ?_
    refine va_mmin hx hb (F.1.2.2.1.trans hl.1.symm) F.1.2.2.2.1 (hz _ zw_43) (hz _ zw_44) (hz _ zw_45) (hz _ zw_46) (Nat.le_of_ble_eq_true rfl) (Nat.le_of_ble_eq_true rfl) (Nat.zero_le _) (Nat.zero_le _) dX1_push_38 ?_
    refine z_top Value.int h (fun x9_ h => ?_)
    refine z_put (C := RX1) (T := TX1) (N := 3) (ci := 0) (W1 := [zo_X1 a_this a_saved x9_ x8_, zo_X4 a_s0 a_s0_cells v_s0_size, zo_X4 a_s1 a_s1_cells v_s1_size, zo_X4 a_s2 a_s2_cells r7_.1, zo_X4 a_s3 a_s3_cells v_s3_size, (a_saved, .inl (zO g, 4, .inr (.inr (.inr (.inr (zSv a_s0 a_s1 a_s2 a_s3)))))), (a_s0_cells, .inl (zI g, 912, .inl v_s0_cells)), (a_s1_cells, .inl (zI g, 912, .inl v_s1_cells)), (a_s2_cells, .inl (zI g, 912, .inl r7_.2)), (a_s3_cells, .inl (zI g, 912, .inl v_s3_cells)), zo_X4 a_p1 a_p1_cells v_p1_size, (a_p1_cells, .inl (zI g, 912, .inl v_p1_cells))]) F zu_wsX10 tyX1 tyX1_ok nmX1 hP hD hS 0 rfl rfl 1 (by decide) zw_33 rfl rfl rfl (Nat.le_of_ble_eq_true rfl) dX1_push_41 rfl (fun H locs hP hD hS => ?_)
    obtain rfl := Option.some.inj h
    exact zV_v F hr hlocks hQ hP hD hS dX1_push_44
  rw [if_neg c5_2_] at h
  by_cases c5_3_ : v_next = 3
  · rw [if_pos c5_3_] at h
    refine zRV F (k_X1_place3 l g a_this a_saved a_s0 a_s1 a_s2 a_s3 v_size v_next v_next c5_3_) zy_X1_place zw_47 hP hD hS [0, 5] rfl rfl (q0 := 0) (he := rfl) (hc := rfl) (rest := []) rfl hl.1 rfl (Nat.le_of_ble_eq_true rfl) ⟨rfl, rfl⟩ ⟨Nat.le_of_ble_eq_true rfl, Nat.le_of_ble_eq_true rfl⟩ ⟨Nat.zero_le _, Nat.zero_le _⟩ dX1_push_5 (st1 := [.ref a_s3]) rfl ?_
    refine lv_astore_n (lv' := [(2, .ref a_s3), (0, .ref a_this), (1, .ref a_p1)]) hx hb dX1_push_8 rfl hl (by decide) rfl (fun ls hl => ?_)
    refine lv_aload_n hx hb dX1_push_9 rfl (lv_at hl 0 rfl) ?_
    refine lv_ifnull hx hb dX1_push_10 ?_
    refine lv_aload_n hx hb dX1_push_13 rfl (lv_at hl 0 rfl) ?_
    refine lv_aload_n hx hb dX1_push_14 rfl (lv_at hl 2 rfl) ?_
    obtain ⟨r10_, hr10_, h⟩ := z_bind h
    refine zVV F (k_X4_copyFrom l N g a_s3 a_s3_cells a_p1 a_p1_cells v_s3_size v_s3_cells v_p1_size v_p1_cells _ hr10_) zy_X4_copyFrom zw_51 hP hD hS [4, 9, 10, 11] [0, 1, 2, 3, 5, 6, 7, 8] [0, 1, 2, 3, 8, 4, 5, 6, 7, 9, 10, 11] (wr := [zo_X1 a_this a_saved v_size v_next, zo_X4 a_s0 a_s0_cells v_s0_size, zo_X4 a_s1 a_s1_cells v_s1_size, zo_X4 a_s2 a_s2_cells v_s2_size, (a_saved, .inl (zO g, 4, .inr (.inr (.inr (.inr (zSv a_s0 a_s1 a_s2 a_s3)))))), (a_s0_cells, .inl (zI g, 912, .inl v_s0_cells)), (a_s1_cells, .inl (zI g, 912, .inl v_s1_cells)), (a_s2_cells, .inl (zI g, 912, .inl v_s2_cells))]) (W1 := [zo_X1 a_this a_saved v_size v_next, zo_X4 a_s0 a_s0_cells v_s0_size, zo_X4 a_s1 a_s1_cells v_s1_size, zo_X4 a_s2 a_s2_cells v_s2_size, zo_X4 a_s3 a_s3_cells r10_.1, (a_saved, .inl (zO g, 4, .inr (.inr (.inr (.inr (zSv a_s0 a_s1 a_s2 a_s3)))))), (a_s0_cells, .inl (zI g, 912, .inl v_s0_cells)), (a_s1_cells, .inl (zI g, 912, .inl v_s1_cells)), (a_s2_cells, .inl (zI g, 912, .inl v_s2_cells)), (a_s3_cells, .inl (zI g, 912, .inl r10_.2)), zo_X4 a_p1 a_p1_cells v_p1_size, (a_p1_cells, .inl (zI g, 912, .inl v_p1_cells))]) rfl rfl rfl rfl (by decide) rfl rfl (q0 := 4) (he := rfl) (hc := rfl) (rest := []) rfl hl.1 rfl (Nat.le_of_ble_eq_true rfl) ⟨rfl, rfl⟩ ⟨Nat.le_of_ble_eq_true rfl, Nat.le_of_ble_eq_true rfl⟩ ⟨Nat.zero_le _, Nat.zero_le _⟩ dX1_push_15 (st1 := []) rfl (fun H locs hP hD hS => ?_)
    refine lv_aload_n hx hb dX1_push_18 rfl (lv_at hl 1 rfl) ?_
    refine lv_aload_n hx hb dX1_push_19 rfl (lv_at hl 1 rfl) ?_
    refine z_get (C := RX1) (T := TX1) (N := 3) (ci := 0) F zu_wsX10 hP 0 rfl rfl 2 (by decide) zw_42 rfl dX1_push_20 ?_
    refine lv_iconst (v := 1) hx hb dX1_push_23 (by decide) ?_
    refine lv_iadd hx hb dX1_push_24 ?_
    refine lv_iconst (v := 4) hx hb dX1_push_25 (by decide) ?_
    refine z_rem hx hb dX1_push_26 h (fun x11_ h => ?_)
    refine z_put (C := RX1) (T := TX1) (N := 3) (ci := 0) (W1 := [zo_X1 a_this a_saved v_size x11_, zo_X4 a_s0 a_s0_cells v_s0_size, zo_X4 a_s1 a_s1_cells v_s1_size, zo_X4 a_s2 a_s2_cells v_s2_size, zo_X4 a_s3 a_s3_cells r10_.1, (a_saved, .inl (zO g, 4, .inr (.inr (.inr (.inr (zSv a_s0 a_s1 a_s2 a_s3)))))), (a_s0_cells, .inl (zI g, 912, .inl v_s0_cells)), (a_s1_cells, .inl (zI g, 912, .inl v_s1_cells)), (a_s2_cells, .inl (zI g, 912, .inl v_s2_cells)), (a_s3_cells, .inl (zI g, 912, .inl r10_.2)), zo_X4 a_p1 a_p1_cells v_p1_size, (a_p1_cells, .inl (zI g, 912, .inl v_p1_cells))]) F zu_wsX10 tyX1 tyX1_ok nmX1 hP hD hS 0 rfl rfl 2 (by decide) zw_42 rfl rfl rfl (Nat.le_of_ble_eq_true rfl) dX1_push_27 rfl (fun H locs hP hD hS => ?_)
    refine lv_aload_n hx hb dX1_push_30 rfl (lv_at hl 1 rfl) ?_
    refine lv_aload_n hx hb dX1_push_31 rfl (lv_at hl 1 rfl) ?_
    refine z_get (C := RX1) (T := TX1) (N := 3) (ci := 0) F zu_wsX10 hP 0 rfl rfl 1 (by decide) zw_33 rfl dX1_push_32 ?_
    refine lv_iconst (v := 1) hx hb dX1_push_35 (by decide) ?_
    refine lv_iadd hx hb dX1_push_36 ?_
    refine lv_iconst (v := 4) hx hb dX1_push_37 (by decide) ?_
    refine va_mmin hx hb (F.1.2.2.1.trans hl.1.symm) F.1.2.2.2.1 (hz _ zw_43) (hz _ zw_44) (hz _ zw_45) (hz _ zw_46) (Nat.le_of_ble_eq_true rfl) (Nat.le_of_ble_eq_true rfl) (Nat.zero_le _) (Nat.zero_le _) dX1_push_38 ?_
    refine z_top Value.int h (fun x12_ h => ?_)
    refine z_put (C := RX1) (T := TX1) (N := 3) (ci := 0) (W1 := [zo_X1 a_this a_saved x12_ x11_, zo_X4 a_s0 a_s0_cells v_s0_size, zo_X4 a_s1 a_s1_cells v_s1_size, zo_X4 a_s2 a_s2_cells v_s2_size, zo_X4 a_s3 a_s3_cells r10_.1, (a_saved, .inl (zO g, 4, .inr (.inr (.inr (.inr (zSv a_s0 a_s1 a_s2 a_s3)))))), (a_s0_cells, .inl (zI g, 912, .inl v_s0_cells)), (a_s1_cells, .inl (zI g, 912, .inl v_s1_cells)), (a_s2_cells, .inl (zI g, 912, .inl v_s2_cells)), (a_s3_cells, .inl (zI g, 912, .inl r10_.2)), zo_X4 a_p1 a_p1_cells v_p1_size, (a_p1_cells, .inl (zI g, 912, .inl v_p1_cells))]) F zu_wsX10 tyX1 tyX1_ok nmX1 hP hD hS 0 rfl rfl 1 (by decide) zw_33 rfl rfl rfl (Nat.le_of_ble_eq_true rfl) dX1_push_41 rfl (fun H locs hP hD hS => ?_)
    obtain rfl := Option.some.inj h
    exact zV_v F hr hlocks hQ hP hD hS dX1_push_44
  rw [if_neg c5_3_] at h
  cases h
def f_X9_settle (N : Nat) (v_playing_size : Int32) (v_score_size : Int32) (v_playing_places : Nat → Int32) (v_score_cells : Nat → Int32) (v_sounds_heldTicks : Nat → Int32) (v_sounds_shifts : Nat → Int32) : Option (Int32 × (Nat → Int32) × (Nat → Int32) × (Nat → Int32)) :=
  Option.bind (f_X6_findShifts N v_score_size v_sounds_shifts v_score_cells) (fun (r1_ : (Nat → Int32)) => Option.bind (f_X6_findHeldTicks N v_sounds_heldTicks v_score_size v_score_cells) (fun (r2_ : (Nat → Int32)) => Option.bind (f_X2_unroll N v_playing_size v_playing_places v_score_size v_score_cells) (fun (r3_ : Int32 × (Nat → Int32)) => some (r3_.1, r3_.2, r2_, r1_))))
abbrev rm_X9_settle : Room := { frames := 6, cells := 0, slots := 0, locals := 150 }
theorem zy_X9_settle : zYv yX9_settle RX9 cX9_settle 1 none 0 := ⟨zw_525, zw_526, zw_527, zw_516, ⟨by decide, by decide⟩, by decide +kernel⟩
set_option maxHeartbeats 4000000 in
set_option maxRecDepth 100000 in
theorem k_X9_settle (l : Launch) (N : Nat) (g : zEnv) (a_this a_score a_history a_text a_sentence a_reader a_sounds a_playing a_playing_places a_score_cells a_sounds_shifts a_sounds_heldTicks : Nat) (v_playing_size : Int32) (v_score_size : Int32) (v_playing_places : Nat → Int32) (v_score_cells : Nat → Int32) (v_sounds_heldTicks : Nat → Int32) (v_sounds_shifts : Nat → Int32) (r : Int32 × (Nat → Int32) × (Nat → Int32) × (Nat → Int32)) (h : f_X9_settle N v_playing_size v_score_size v_playing_places v_score_cells v_sounds_heldTicks v_sounds_shifts = some r) : ZV l yX9_settle cX9_settle 1 none rm_X9_settle g [.ref a_this] [zo_X9 a_this a_score a_history a_text a_sentence a_reader a_sounds a_playing, zo_X2 a_playing a_playing_places v_playing_size, zo_X4 a_score a_score_cells v_score_size, zo_X6 a_sounds a_score a_sounds_shifts a_sounds_heldTicks, (a_playing_places, .inl (zI g, 200, .inl v_playing_places)), (a_score_cells, .inl (zI g, 912, .inl v_score_cells)), (a_sounds_heldTicks, .inl (zI g, 768, .inl v_sounds_heldTicks)), (a_sounds_shifts, .inl (zI g, 768, .inl v_sounds_shifts))] [zo_X9 a_this a_score a_history a_text a_sentence a_reader a_sounds a_playing, zo_X2 a_playing a_playing_places r.1, zo_X4 a_score a_score_cells v_score_size, zo_X6 a_sounds a_score a_sounds_shifts a_sounds_heldTicks, (a_playing_places, .inl (zI g, 200, .inl r.2.1)), (a_score_cells, .inl (zI g, 912, .inl v_score_cells)), (a_sounds_heldTicks, .inl (zI g, 768, .inl r.2.2.1)), (a_sounds_shifts, .inl (zI g, 768, .inl r.2.2.2))] none := by
  refine zV_of (by decide) (Nat.le_of_ble_eq_true rfl) ?_
  intro p e s m below meth c A H locs ls Q R F hRm hr hlocks hP hD hS hl hQ
  subst hRm
  have F : zF p m c cX9_settle 1 s (([.ref a_this] : List Value)).toArray RX9 g A := F
  have hx := F.1.1
  have hb := F.1.2.1
  have hz := F.1.2.2.2.2
  have hl : lv_has ls 1 [(0, .ref a_this)] := hl
  unfold f_X9_settle at h
  refine lv_aload_n hx hb dX9_settle_0 rfl (lv_at hl 0 rfl) ?_
  refine z_get (C := RX9) (T := TX9) (N := 7) (ci := 7) F zu_wsX90 hP 0 rfl rfl 5 (by decide) zw_493 rfl dX9_settle_1 ?_
  obtain ⟨r1_, hr1_, h⟩ := z_bind h
  refine zVV F (k_X6_findShifts l N g a_sounds a_score a_sounds_shifts a_sounds_heldTicks a_score_cells v_score_size v_sounds_shifts v_score_cells _ hr1_) zy_X6_findShifts zw_507 hP hD hS [3, 2, 7, 5] [0, 1, 4, 6] [0, 1, 5, 4, 2, 7, 3, 6] (wr := [zo_X9 a_this a_score a_history a_text a_sentence a_reader a_sounds a_playing, zo_X2 a_playing a_playing_places v_playing_size, (a_playing_places, .inl (zI g, 200, .inl v_playing_places)), (a_sounds_heldTicks, .inl (zI g, 768, .inl v_sounds_heldTicks))]) (W1 := [zo_X9 a_this a_score a_history a_text a_sentence a_reader a_sounds a_playing, zo_X2 a_playing a_playing_places v_playing_size, zo_X4 a_score a_score_cells v_score_size, zo_X6 a_sounds a_score a_sounds_shifts a_sounds_heldTicks, (a_playing_places, .inl (zI g, 200, .inl v_playing_places)), (a_score_cells, .inl (zI g, 912, .inl v_score_cells)), (a_sounds_heldTicks, .inl (zI g, 768, .inl v_sounds_heldTicks)), (a_sounds_shifts, .inl (zI g, 768, .inl r1_))]) rfl rfl rfl rfl (by decide) rfl rfl (q0 := 3) (he := rfl) (hc := rfl) (rest := []) rfl hl.1 rfl (Nat.le_of_ble_eq_true rfl) ⟨rfl, rfl⟩ ⟨Nat.le_of_ble_eq_true rfl, Nat.le_of_ble_eq_true rfl⟩ ⟨Nat.zero_le _, Nat.zero_le _⟩ dX9_settle_4 (st1 := []) rfl (fun H locs hP hD hS => ?_)
  refine lv_aload_n hx hb dX9_settle_7 rfl (lv_at hl 0 rfl) ?_
  refine z_get (C := RX9) (T := TX9) (N := 7) (ci := 7) F zu_wsX90 hP 0 rfl rfl 5 (by decide) zw_493 rfl dX9_settle_8 ?_
  obtain ⟨r2_, hr2_, h⟩ := z_bind h
  refine zVV F (k_X6_findHeldTicks l N g a_sounds a_score a_sounds_shifts a_sounds_heldTicks a_score_cells v_sounds_heldTicks v_score_size v_score_cells _ hr2_) zy_X6_findHeldTicks zw_510 hP hD hS [3, 6, 2, 5] [0, 1, 4, 7] [0, 1, 6, 4, 2, 7, 5, 3] (wr := [zo_X9 a_this a_score a_history a_text a_sentence a_reader a_sounds a_playing, zo_X2 a_playing a_playing_places v_playing_size, (a_playing_places, .inl (zI g, 200, .inl v_playing_places)), (a_sounds_shifts, .inl (zI g, 768, .inl r1_))]) (W1 := [zo_X9 a_this a_score a_history a_text a_sentence a_reader a_sounds a_playing, zo_X2 a_playing a_playing_places v_playing_size, zo_X4 a_score a_score_cells v_score_size, zo_X6 a_sounds a_score a_sounds_shifts a_sounds_heldTicks, (a_playing_places, .inl (zI g, 200, .inl v_playing_places)), (a_score_cells, .inl (zI g, 912, .inl v_score_cells)), (a_sounds_heldTicks, .inl (zI g, 768, .inl r2_)), (a_sounds_shifts, .inl (zI g, 768, .inl r1_))]) rfl rfl rfl rfl (by decide) rfl rfl (q0 := 3) (he := rfl) (hc := rfl) (rest := []) rfl hl.1 rfl (Nat.le_of_ble_eq_true rfl) ⟨rfl, rfl⟩ ⟨Nat.le_of_ble_eq_true rfl, Nat.le_of_ble_eq_true rfl⟩ ⟨Nat.zero_le _, Nat.zero_le _⟩ dX9_settle_11 (st1 := []) rfl (fun H locs hP hD hS => ?_)
  refine lv_aload_n hx hb dX9_settle_14 rfl (lv_at hl 0 rfl) ?_
  refine z_get (C := RX9) (T := TX9) (N := 7) (ci := 7) F zu_wsX90 hP 0 rfl rfl 6 (by decide) zw_496 rfl dX9_settle_15 ?_
  refine lv_aload_n hx hb dX9_settle_18 rfl (lv_at hl 0 rfl) ?_
  refine z_get (C := RX9) (T := TX9) (N := 7) (ci := 7) F zu_wsX90 hP 0 rfl rfl 0 (by decide) zw_478 rfl dX9_settle_19 ?_
  obtain ⟨r3_, hr3_, h⟩ := z_bind h
  refine zVV F (k_X2_unroll l N g a_playing a_playing_places a_score a_score_cells v_playing_size v_playing_places v_score_size v_score_cells _ hr3_) zy_X2_unroll zw_513 hP hD hS [1, 4, 2, 5] [0, 3, 6, 7] [0, 4, 6, 1, 5, 7, 2, 3] (wr := [zo_X9 a_this a_score a_history a_text a_sentence a_reader a_sounds a_playing, zo_X6 a_sounds a_score a_sounds_shifts a_sounds_heldTicks, (a_sounds_heldTicks, .inl (zI g, 768, .inl r2_)), (a_sounds_shifts, .inl (zI g, 768, .inl r1_))]) (W1 := [zo_X9 a_this a_score a_history a_text a_sentence a_reader a_sounds a_playing, zo_X2 a_playing a_playing_places r3_.1, zo_X4 a_score a_score_cells v_score_size, zo_X6 a_sounds a_score a_sounds_shifts a_sounds_heldTicks, (a_playing_places, .inl (zI g, 200, .inl r3_.2)), (a_score_cells, .inl (zI g, 912, .inl v_score_cells)), (a_sounds_heldTicks, .inl (zI g, 768, .inl r2_)), (a_sounds_shifts, .inl (zI g, 768, .inl r1_))]) rfl rfl rfl rfl (by decide) rfl rfl (q0 := 1) (he := rfl) (hc := rfl) (rest := []) rfl hl.1 rfl (Nat.le_of_ble_eq_true rfl) ⟨rfl, rfl⟩ ⟨Nat.le_of_ble_eq_true rfl, Nat.le_of_ble_eq_true rfl⟩ ⟨Nat.zero_le _, Nat.zero_le _⟩ dX9_settle_22 (st1 := []) rfl (fun H locs hP hD hS => ?_)
  obtain rfl := Option.some.inj h
  exact zV_v F hr hlocks hQ hP hD hS dX9_settle_25
def f_X9_addMeasure (N : Nat) (v_history_next : Int32) (v_history_size : Int32) (v_playing_size : Int32) (v_score_size : Int32) (v_history_s0_size : Int32) (v_history_s1_size : Int32) (v_history_s2_size : Int32) (v_history_s3_size : Int32) (v_playing_places : Nat → Int32) (v_score_cells : Nat → Int32) (v_sounds_heldTicks : Nat → Int32) (v_sounds_shifts : Nat → Int32) (v_history_s0_cells : Nat → Int32) (v_history_s1_cells : Nat → Int32) (v_history_s2_cells : Nat → Int32) (v_history_s3_cells : Nat → Int32) : Option ((Int32 × Int32 × Int32 × Int32 × Int32 × Int32 × Int32 × Int32 × Int32 × (Nat → Int32) × (Nat → Int32) × (Nat → Int32) × (Nat → Int32) × (Nat → Int32) × (Nat → Int32) × (Nat → Int32) × (Nat → Int32)) ⊕ Nat) :=
  Option.bind (f_X4_isFull N v_score_size) (fun (r1_ : Int32) => if r1_ = 0 then Option.bind (f_X1_push N v_history_next v_history_size v_history_s0_size v_history_s1_size v_history_s2_size v_history_s3_size v_history_s0_cells v_history_s1_cells v_history_s2_cells v_history_s3_cells v_score_size v_score_cells) (fun (r2_ : Int32 × Int32 × Int32 × Int32 × Int32 × Int32 × (Nat → Int32) × (Nat → Int32) × (Nat → Int32) × (Nat → Int32)) => Option.bind (f_X4_appendMeasure N v_score_size v_score_cells) (fun (r3_ : Int32 × (Nat → Int32)) => Option.bind (f_X9_settle N v_playing_size r3_.1 v_playing_places r3_.2 v_sounds_heldTicks v_sounds_shifts) (fun (r4_ : Int32 × (Nat → Int32) × (Nat → Int32) × (Nat → Int32)) => Option.bind (f_X4_size N r3_.1) (fun (r5_ : Int32) => some (Sum.inl ((r5_ - 1), r2_.1, r2_.2.1, r4_.1, r3_.1, r2_.2.2.1, r2_.2.2.2.1, r2_.2.2.2.2.1, r2_.2.2.2.2.2.1, r4_.2.1, r3_.2, r4_.2.2.1, r4_.2.2.2, r2_.2.2.2.2.2.2.1, r2_.2.2.2.2.2.2.2.1, r2_.2.2.2.2.2.2.2.2.1, r2_.2.2.2.2.2.2.2.2.2)))))) else some (Sum.inr 2))
abbrev rm_X9_addMeasure : Room := { frames := 7, cells := 0, slots := 0, locals := 170 }
theorem zy_X9_addMeasure : zYv yX9_addMeasure RX9 cX9_addMeasure 1 (some .int) 0 := ⟨zw_763, zw_764, zw_527, zw_529, ⟨by decide, by decide⟩, by decide +kernel⟩
set_option maxHeartbeats 4000000 in
set_option maxRecDepth 100000 in
theorem k_X9_addMeasure (l : Launch) (N : Nat) (g : zEnv) (a_this a_score a_history a_text a_sentence a_reader a_sounds a_playing a_history_saved a_history_s0 a_history_s1 a_history_s2 a_history_s3 a_playing_places a_score_cells a_sounds_shifts a_sounds_heldTicks a_history_s0_cells a_history_s1_cells a_history_s2_cells a_history_s3_cells : Nat) (v_history_next : Int32) (v_history_size : Int32) (v_playing_size : Int32) (v_score_size : Int32) (v_history_s0_size : Int32) (v_history_s1_size : Int32) (v_history_s2_size : Int32) (v_history_s3_size : Int32) (v_playing_places : Nat → Int32) (v_score_cells : Nat → Int32) (v_sounds_heldTicks : Nat → Int32) (v_sounds_shifts : Nat → Int32) (v_history_s0_cells : Nat → Int32) (v_history_s1_cells : Nat → Int32) (v_history_s2_cells : Nat → Int32) (v_history_s3_cells : Nat → Int32) (r : Int32 × Int32 × Int32 × Int32 × Int32 × Int32 × Int32 × Int32 × Int32 × (Nat → Int32) × (Nat → Int32) × (Nat → Int32) × (Nat → Int32) × (Nat → Int32) × (Nat → Int32) × (Nat → Int32) × (Nat → Int32)) (h : f_X9_addMeasure N v_history_next v_history_size v_playing_size v_score_size v_history_s0_size v_history_s1_size v_history_s2_size v_history_s3_size v_playing_places v_score_cells v_sounds_heldTicks v_sounds_shifts v_history_s0_cells v_history_s1_cells v_history_s2_cells v_history_s3_cells = some (Sum.inl r)) : ZV l yX9_addMeasure cX9_addMeasure 1 (some .int) rm_X9_addMeasure g [.ref a_this] [zo_X9 a_this a_score a_history a_text a_sentence a_reader a_sounds a_playing, zo_X1 a_history a_history_saved v_history_size v_history_next, zo_X2 a_playing a_playing_places v_playing_size, zo_X4 a_score a_score_cells v_score_size, zo_X6 a_sounds a_score a_sounds_shifts a_sounds_heldTicks, zo_X4 a_history_s0 a_history_s0_cells v_history_s0_size, zo_X4 a_history_s1 a_history_s1_cells v_history_s1_size, zo_X4 a_history_s2 a_history_s2_cells v_history_s2_size, zo_X4 a_history_s3 a_history_s3_cells v_history_s3_size, (a_history_saved, .inl (zO g, 4, .inr (.inr (.inr (.inr (zSv a_history_s0 a_history_s1 a_history_s2 a_history_s3)))))), (a_playing_places, .inl (zI g, 200, .inl v_playing_places)), (a_score_cells, .inl (zI g, 912, .inl v_score_cells)), (a_sounds_heldTicks, .inl (zI g, 768, .inl v_sounds_heldTicks)), (a_sounds_shifts, .inl (zI g, 768, .inl v_sounds_shifts)), (a_history_s0_cells, .inl (zI g, 912, .inl v_history_s0_cells)), (a_history_s1_cells, .inl (zI g, 912, .inl v_history_s1_cells)), (a_history_s2_cells, .inl (zI g, 912, .inl v_history_s2_cells)), (a_history_s3_cells, .inl (zI g, 912, .inl v_history_s3_cells))] [zo_X9 a_this a_score a_history a_text a_sentence a_reader a_sounds a_playing, zo_X1 a_history a_history_saved r.2.2.1 r.2.1, zo_X2 a_playing a_playing_places r.2.2.2.1, zo_X4 a_score a_score_cells r.2.2.2.2.1, zo_X6 a_sounds a_score a_sounds_shifts a_sounds_heldTicks, zo_X4 a_history_s0 a_history_s0_cells r.2.2.2.2.2.1, zo_X4 a_history_s1 a_history_s1_cells r.2.2.2.2.2.2.1, zo_X4 a_history_s2 a_history_s2_cells r.2.2.2.2.2.2.2.1, zo_X4 a_history_s3 a_history_s3_cells r.2.2.2.2.2.2.2.2.1, (a_history_saved, .inl (zO g, 4, .inr (.inr (.inr (.inr (zSv a_history_s0 a_history_s1 a_history_s2 a_history_s3)))))), (a_playing_places, .inl (zI g, 200, .inl r.2.2.2.2.2.2.2.2.2.1)), (a_score_cells, .inl (zI g, 912, .inl r.2.2.2.2.2.2.2.2.2.2.1)), (a_sounds_heldTicks, .inl (zI g, 768, .inl r.2.2.2.2.2.2.2.2.2.2.2.1)), (a_sounds_shifts, .inl (zI g, 768, .inl r.2.2.2.2.2.2.2.2.2.2.2.2.1)), (a_history_s0_cells, .inl (zI g, 912, .inl r.2.2.2.2.2.2.2.2.2.2.2.2.2.1)), (a_history_s1_cells, .inl (zI g, 912, .inl r.2.2.2.2.2.2.2.2.2.2.2.2.2.2.1)), (a_history_s2_cells, .inl (zI g, 912, .inl r.2.2.2.2.2.2.2.2.2.2.2.2.2.2.2.1)), (a_history_s3_cells, .inl (zI g, 912, .inl r.2.2.2.2.2.2.2.2.2.2.2.2.2.2.2.2))] (some (.int r.1)) := by
  refine zV_of (by decide) (Nat.le_of_ble_eq_true rfl) ?_
  intro p e s m below meth c A H locs ls Q R F hRm hr hlocks hP hD hS hl hQ
  subst hRm
  have F : zF p m c cX9_addMeasure 1 s (([.ref a_this] : List Value)).toArray RX9 g A := F
  have hx := F.1.1
  have hb := F.1.2.1
  have hz := F.1.2.2.2.2
  have hl : lv_has ls 1 [(0, .ref a_this)] := hl
  unfold f_X9_addMeasure at h
  refine lv_aload_n hx hb dX9_addMeasure_0 rfl (lv_at hl 0 rfl) ?_
  refine z_get (C := RX9) (T := TX9) (N := 7) (ci := 7) F zu_wsX90 hP 0 rfl rfl 0 (by decide) zw_478 rfl dX9_addMeasure_1 ?_
  obtain ⟨r1_, hr1_, h⟩ := z_bind h
  refine zRV F (k_X4_isFull l N g a_score a_score_cells v_score_size _ hr1_) zy_X4_isFull zw_519 hP hD hS [3] rfl rfl (q0 := 3) (he := rfl) (hc := rfl) (rest := []) rfl hl.1 rfl (Nat.le_of_ble_eq_true rfl) ⟨rfl, rfl⟩ ⟨Nat.le_of_ble_eq_true rfl, Nat.le_of_ble_eq_true rfl⟩ ⟨Nat.zero_le _, Nat.zero_le _⟩ dX9_addMeasure_4 (st1 := [.int r1_]) rfl ?_
  refine z_eq (tgt := 20) hx hb dX9_addMeasure_7 (by decide) h (fun h => ?_) (fun h => ?_)
  · refine lv_aload_n hx hb dX9_addMeasure_20 rfl (lv_at hl 0 rfl) ?_
    refine z_get (C := RX9) (T := TX9) (N := 7) (ci := 7) F zu_wsX90 hP 0 rfl rfl 1 (by decide) zw_481 rfl dX9_addMeasure_21 ?_
    refine lv_aload_n hx hb dX9_addMeasure_24 rfl (lv_at hl 0 rfl) ?_
    refine z_get (C := RX9) (T := TX9) (N := 7) (ci := 7) F zu_wsX90 hP 0 rfl rfl 0 (by decide) zw_478 rfl dX9_addMeasure_25 ?_
    obtain ⟨r2_, hr2_, h⟩ := z_bind h
    refine zVV F (k_X1_push l N g a_history a_history_saved a_history_s0 a_history_s1 a_history_s2 a_history_s3 a_history_s0_cells a_history_s1_cells a_history_s2_cells a_history_s3_cells a_score a_score_cells v_history_next v_history_size v_history_s0_size v_history_s1_size v_history_s2_size v_history_s3_size v_history_s0_cells v_history_s1_cells v_history_s2_cells v_history_s3_cells v_score_size v_score_cells _ hr2_) zy_X1_push zw_520 hP hD hS [1, 5, 6, 7, 8, 9, 14, 15, 16, 17, 3, 11] [0, 2, 4, 10, 12, 13] [0, 6, 1, 16, 2, 7, 8, 9, 10, 11, 3, 17, 4, 5, 12, 13, 14, 15] (wr := [zo_X9 a_this a_score a_history a_text a_sentence a_reader a_sounds a_playing, zo_X2 a_playing a_playing_places v_playing_size, zo_X6 a_sounds a_score a_sounds_shifts a_sounds_heldTicks, (a_playing_places, .inl (zI g, 200, .inl v_playing_places)), (a_sounds_heldTicks, .inl (zI g, 768, .inl v_sounds_heldTicks)), (a_sounds_shifts, .inl (zI g, 768, .inl v_sounds_shifts))]) (W1 := [zo_X9 a_this a_score a_history a_text a_sentence a_reader a_sounds a_playing, zo_X1 a_history a_history_saved r2_.2.1 r2_.1, zo_X2 a_playing a_playing_places v_playing_size, zo_X4 a_score a_score_cells v_score_size, zo_X6 a_sounds a_score a_sounds_shifts a_sounds_heldTicks, zo_X4 a_history_s0 a_history_s0_cells r2_.2.2.1, zo_X4 a_history_s1 a_history_s1_cells r2_.2.2.2.1, zo_X4 a_history_s2 a_history_s2_cells r2_.2.2.2.2.1, zo_X4 a_history_s3 a_history_s3_cells r2_.2.2.2.2.2.1, (a_history_saved, .inl (zO g, 4, .inr (.inr (.inr (.inr (zSv a_history_s0 a_history_s1 a_history_s2 a_history_s3)))))), (a_playing_places, .inl (zI g, 200, .inl v_playing_places)), (a_score_cells, .inl (zI g, 912, .inl v_score_cells)), (a_sounds_heldTicks, .inl (zI g, 768, .inl v_sounds_heldTicks)), (a_sounds_shifts, .inl (zI g, 768, .inl v_sounds_shifts)), (a_history_s0_cells, .inl (zI g, 912, .inl r2_.2.2.2.2.2.2.1)), (a_history_s1_cells, .inl (zI g, 912, .inl r2_.2.2.2.2.2.2.2.1)), (a_history_s2_cells, .inl (zI g, 912, .inl r2_.2.2.2.2.2.2.2.2.1)), (a_history_s3_cells, .inl (zI g, 912, .inl r2_.2.2.2.2.2.2.2.2.2))]) rfl rfl rfl rfl (by decide) rfl rfl (q0 := 1) (he := rfl) (hc := rfl) (rest := []) rfl hl.1 rfl (Nat.le_of_ble_eq_true rfl) ⟨rfl, rfl⟩ ⟨Nat.le_of_ble_eq_true rfl, Nat.le_of_ble_eq_true rfl⟩ ⟨Nat.zero_le _, Nat.zero_le _⟩ dX9_addMeasure_28 (st1 := []) rfl (fun H locs hP hD hS => ?_)
    refine lv_aload_n hx hb dX9_addMeasure_31 rfl (lv_at hl 0 rfl) ?_
    refine z_get (C := RX9) (T := TX9) (N := 7) (ci := 7) F zu_wsX90 hP 0 rfl rfl 0 (by decide) zw_478 rfl dX9_addMeasure_32 ?_
    obtain ⟨r3_, hr3_, h⟩ := z_bind h
    refine zVV F (k_X4_appendMeasure l N g a_score a_score_cells v_score_size v_score_cells _ hr3_) zy_X4_appendMeasure zw_523 hP hD hS [3, 11] [0, 1, 2, 4, 5, 6, 7, 8, 9, 10, 12, 13, 14, 15, 16, 17] [0, 1, 2, 16, 3, 4, 5, 6, 7, 8, 9, 17, 10, 11, 12, 13, 14, 15] (wr := [zo_X9 a_this a_score a_history a_text a_sentence a_reader a_sounds a_playing, zo_X1 a_history a_history_saved r2_.2.1 r2_.1, zo_X2 a_playing a_playing_places v_playing_size, zo_X6 a_sounds a_score a_sounds_shifts a_sounds_heldTicks, zo_X4 a_history_s0 a_history_s0_cells r2_.2.2.1, zo_X4 a_history_s1 a_history_s1_cells r2_.2.2.2.1, zo_X4 a_history_s2 a_history_s2_cells r2_.2.2.2.2.1, zo_X4 a_history_s3 a_history_s3_cells r2_.2.2.2.2.2.1, (a_history_saved, .inl (zO g, 4, .inr (.inr (.inr (.inr (zSv a_history_s0 a_history_s1 a_history_s2 a_history_s3)))))), (a_playing_places, .inl (zI g, 200, .inl v_playing_places)), (a_sounds_heldTicks, .inl (zI g, 768, .inl v_sounds_heldTicks)), (a_sounds_shifts, .inl (zI g, 768, .inl v_sounds_shifts)), (a_history_s0_cells, .inl (zI g, 912, .inl r2_.2.2.2.2.2.2.1)), (a_history_s1_cells, .inl (zI g, 912, .inl r2_.2.2.2.2.2.2.2.1)), (a_history_s2_cells, .inl (zI g, 912, .inl r2_.2.2.2.2.2.2.2.2.1)), (a_history_s3_cells, .inl (zI g, 912, .inl r2_.2.2.2.2.2.2.2.2.2))]) (W1 := [zo_X9 a_this a_score a_history a_text a_sentence a_reader a_sounds a_playing, zo_X1 a_history a_history_saved r2_.2.1 r2_.1, zo_X2 a_playing a_playing_places v_playing_size, zo_X4 a_score a_score_cells r3_.1, zo_X6 a_sounds a_score a_sounds_shifts a_sounds_heldTicks, zo_X4 a_history_s0 a_history_s0_cells r2_.2.2.1, zo_X4 a_history_s1 a_history_s1_cells r2_.2.2.2.1, zo_X4 a_history_s2 a_history_s2_cells r2_.2.2.2.2.1, zo_X4 a_history_s3 a_history_s3_cells r2_.2.2.2.2.2.1, (a_history_saved, .inl (zO g, 4, .inr (.inr (.inr (.inr (zSv a_history_s0 a_history_s1 a_history_s2 a_history_s3)))))), (a_playing_places, .inl (zI g, 200, .inl v_playing_places)), (a_score_cells, .inl (zI g, 912, .inl r3_.2)), (a_sounds_heldTicks, .inl (zI g, 768, .inl v_sounds_heldTicks)), (a_sounds_shifts, .inl (zI g, 768, .inl v_sounds_shifts)), (a_history_s0_cells, .inl (zI g, 912, .inl r2_.2.2.2.2.2.2.1)), (a_history_s1_cells, .inl (zI g, 912, .inl r2_.2.2.2.2.2.2.2.1)), (a_history_s2_cells, .inl (zI g, 912, .inl r2_.2.2.2.2.2.2.2.2.1)), (a_history_s3_cells, .inl (zI g, 912, .inl r2_.2.2.2.2.2.2.2.2.2))]) rfl rfl rfl rfl (by decide) rfl rfl (q0 := 3) (he := rfl) (hc := rfl) (rest := []) rfl hl.1 rfl (Nat.le_of_ble_eq_true rfl) ⟨rfl, rfl⟩ ⟨Nat.le_of_ble_eq_true rfl, Nat.le_of_ble_eq_true rfl⟩ ⟨Nat.zero_le _, Nat.zero_le _⟩ dX9_addMeasure_35 (st1 := []) rfl (fun H locs hP hD hS => ?_)
    refine lv_aload_n hx hb dX9_addMeasure_38 rfl (lv_at hl 0 rfl) ?_
    obtain ⟨r4_, hr4_, h⟩ := z_bind h
    refine zVV F (k_X9_settle l N g a_this a_score a_history a_text a_sentence a_reader a_sounds a_playing a_playing_places a_score_cells a_sounds_shifts a_sounds_heldTicks v_playing_size r3_.1 v_playing_places r3_.2 v_sounds_heldTicks v_sounds_shifts _ hr4_) zy_X9_settle zw_524 hP hD hS [0, 2, 3, 4, 10, 11, 12, 13] [1, 5, 6, 7, 8, 9, 14, 15, 16, 17] [10, 0, 11, 12, 13, 1, 2, 3, 4, 5, 14, 15, 16, 17, 6, 7, 8, 9] (wr := [zo_X1 a_history a_history_saved r2_.2.1 r2_.1, zo_X4 a_history_s0 a_history_s0_cells r2_.2.2.1, zo_X4 a_history_s1 a_history_s1_cells r2_.2.2.2.1, zo_X4 a_history_s2 a_history_s2_cells r2_.2.2.2.2.1, zo_X4 a_history_s3 a_history_s3_cells r2_.2.2.2.2.2.1, (a_history_saved, .inl (zO g, 4, .inr (.inr (.inr (.inr (zSv a_history_s0 a_history_s1 a_history_s2 a_history_s3)))))), (a_history_s0_cells, .inl (zI g, 912, .inl r2_.2.2.2.2.2.2.1)), (a_history_s1_cells, .inl (zI g, 912, .inl r2_.2.2.2.2.2.2.2.1)), (a_history_s2_cells, .inl (zI g, 912, .inl r2_.2.2.2.2.2.2.2.2.1)), (a_history_s3_cells, .inl (zI g, 912, .inl r2_.2.2.2.2.2.2.2.2.2))]) (W1 := [zo_X9 a_this a_score a_history a_text a_sentence a_reader a_sounds a_playing, zo_X1 a_history a_history_saved r2_.2.1 r2_.1, zo_X2 a_playing a_playing_places r4_.1, zo_X4 a_score a_score_cells r3_.1, zo_X6 a_sounds a_score a_sounds_shifts a_sounds_heldTicks, zo_X4 a_history_s0 a_history_s0_cells r2_.2.2.1, zo_X4 a_history_s1 a_history_s1_cells r2_.2.2.2.1, zo_X4 a_history_s2 a_history_s2_cells r2_.2.2.2.2.1, zo_X4 a_history_s3 a_history_s3_cells r2_.2.2.2.2.2.1, (a_history_saved, .inl (zO g, 4, .inr (.inr (.inr (.inr (zSv a_history_s0 a_history_s1 a_history_s2 a_history_s3)))))), (a_playing_places, .inl (zI g, 200, .inl r4_.2.1)), (a_score_cells, .inl (zI g, 912, .inl r3_.2)), (a_sounds_heldTicks, .inl (zI g, 768, .inl r4_.2.2.1)), (a_sounds_shifts, .inl (zI g, 768, .inl r4_.2.2.2)), (a_history_s0_cells, .inl (zI g, 912, .inl r2_.2.2.2.2.2.2.1)), (a_history_s1_cells, .inl (zI g, 912, .inl r2_.2.2.2.2.2.2.2.1)), (a_history_s2_cells, .inl (zI g, 912, .inl r2_.2.2.2.2.2.2.2.2.1)), (a_history_s3_cells, .inl (zI g, 912, .inl r2_.2.2.2.2.2.2.2.2.2))]) rfl rfl rfl rfl (by decide) rfl rfl (q0 := 0) (he := rfl) (hc := rfl) (rest := []) rfl hl.1 rfl (Nat.le_of_ble_eq_true rfl) ⟨rfl, rfl⟩ ⟨Nat.le_of_ble_eq_true rfl, Nat.le_of_ble_eq_true rfl⟩ ⟨Nat.zero_le _, Nat.zero_le _⟩ dX9_addMeasure_39 (st1 := []) rfl (fun H locs hP hD hS => ?_)
    refine lv_aload_n hx hb dX9_addMeasure_42 rfl (lv_at hl 0 rfl) ?_
    refine z_get (C := RX9) (T := TX9) (N := 7) (ci := 7) F zu_wsX90 hP 0 rfl rfl 0 (by decide) zw_478 rfl dX9_addMeasure_43 ?_
    obtain ⟨r5_, hr5_, h⟩ := z_bind h
    refine zRV F (k_X4_size l N g a_score a_score_cells r3_.1 _ hr5_) zy_X4_size zw_528 hP hD hS [3] rfl rfl (q0 := 3) (he := rfl) (hc := rfl) (rest := []) rfl hl.1 rfl (Nat.le_of_ble_eq_true rfl) ⟨rfl, rfl⟩ ⟨Nat.le_of_ble_eq_true rfl, Nat.le_of_ble_eq_true rfl⟩ ⟨Nat.zero_le _, Nat.zero_le _⟩ dX9_addMeasure_46 (st1 := [.int r5_]) rfl ?_
    refine lv_iconst (v := 1) hx hb dX9_addMeasure_49 (by decide) ?_
    refine lv_isub hx hb dX9_addMeasure_50 ?_
    obtain rfl := Sum.inl.inj (Option.some.inj h)
    exact zV_i F hr hlocks hQ hP hD hS dX9_addMeasure_51
  · cases h
abbrev rx_X9_addMeasure : Room := { frames := 7, cells := 1, slots := 6, locals := 170 }
set_option maxHeartbeats 4000000 in
set_option maxRecDepth 100000 in
theorem kx_X9_addMeasure (l : Launch) (N : Nat) (g : zEnv) (a_this a_score a_history a_text a_sentence a_reader a_sounds a_playing a_history_saved a_history_s0 a_history_s1 a_history_s2 a_history_s3 a_playing_places a_score_cells a_sounds_shifts a_sounds_heldTicks a_history_s0_cells a_history_s1_cells a_history_s2_cells a_history_s3_cells : Nat) (v_history_next : Int32) (v_history_size : Int32) (v_playing_size : Int32) (v_score_size : Int32) (v_history_s0_size : Int32) (v_history_s1_size : Int32) (v_history_s2_size : Int32) (v_history_s3_size : Int32) (v_playing_places : Nat → Int32) (v_score_cells : Nat → Int32) (v_sounds_heldTicks : Nat → Int32) (v_sounds_shifts : Nat → Int32) (v_history_s0_cells : Nat → Int32) (v_history_s1_cells : Nat → Int32) (v_history_s2_cells : Nat → Int32) (v_history_s3_cells : Nat → Int32) (r : Nat) (h : f_X9_addMeasure N v_history_next v_history_size v_playing_size v_score_size v_history_s0_size v_history_s1_size v_history_s2_size v_history_s3_size v_playing_places v_score_cells v_sounds_heldTicks v_sounds_shifts v_history_s0_cells v_history_s1_cells v_history_s2_cells v_history_s3_cells = some (Sum.inr r)) (hfl : l.stackTraces = false) : ZE l yX9_addMeasure cX9_addMeasure 1 (some .int) rx_X9_addMeasure g [.ref a_this] [zo_X9 a_this a_score a_history a_text a_sentence a_reader a_sounds a_playing, zo_X1 a_history a_history_saved v_history_size v_history_next, zo_X2 a_playing a_playing_places v_playing_size, zo_X4 a_score a_score_cells v_score_size, zo_X6 a_sounds a_score a_sounds_shifts a_sounds_heldTicks, zo_X4 a_history_s0 a_history_s0_cells v_history_s0_size, zo_X4 a_history_s1 a_history_s1_cells v_history_s1_size, zo_X4 a_history_s2 a_history_s2_cells v_history_s2_size, zo_X4 a_history_s3 a_history_s3_cells v_history_s3_size, (a_history_saved, .inl (zO g, 4, .inr (.inr (.inr (.inr (zSv a_history_s0 a_history_s1 a_history_s2 a_history_s3)))))), (a_playing_places, .inl (zI g, 200, .inl v_playing_places)), (a_score_cells, .inl (zI g, 912, .inl v_score_cells)), (a_sounds_heldTicks, .inl (zI g, 768, .inl v_sounds_heldTicks)), (a_sounds_shifts, .inl (zI g, 768, .inl v_sounds_shifts)), (a_history_s0_cells, .inl (zI g, 912, .inl v_history_s0_cells)), (a_history_s1_cells, .inl (zI g, 912, .inl v_history_s1_cells)), (a_history_s2_cells, .inl (zI g, 912, .inl v_history_s2_cells)), (a_history_s3_cells, .inl (zI g, 912, .inl v_history_s3_cells))] [zo_X9 a_this a_score a_history a_text a_sentence a_reader a_sounds a_playing, zo_X1 a_history a_history_saved v_history_size v_history_next, zo_X2 a_playing a_playing_places v_playing_size, zo_X4 a_score a_score_cells v_score_size, zo_X6 a_sounds a_score a_sounds_shifts a_sounds_heldTicks, zo_X4 a_history_s0 a_history_s0_cells v_history_s0_size, zo_X4 a_history_s1 a_history_s1_cells v_history_s1_size, zo_X4 a_history_s2 a_history_s2_cells v_history_s2_size, zo_X4 a_history_s3 a_history_s3_cells v_history_s3_size, (a_history_saved, .inl (zO g, 4, .inr (.inr (.inr (.inr (zSv a_history_s0 a_history_s1 a_history_s2 a_history_s3)))))), (a_playing_places, .inl (zI g, 200, .inl v_playing_places)), (a_score_cells, .inl (zI g, 912, .inl v_score_cells)), (a_sounds_heldTicks, .inl (zI g, 768, .inl v_sounds_heldTicks)), (a_sounds_shifts, .inl (zI g, 768, .inl v_sounds_shifts)), (a_history_s0_cells, .inl (zI g, 912, .inl v_history_s0_cells)), (a_history_s1_cells, .inl (zI g, 912, .inl v_history_s1_cells)), (a_history_s2_cells, .inl (zI g, 912, .inl v_history_s2_cells)), (a_history_s3_cells, .inl (zI g, 912, .inl v_history_s3_cells))] r := by
  refine zE_of (by decide) (Nat.le_of_ble_eq_true rfl) ?_
  intro p e s m below meth c A H locs ls Q R F hRm hlocks hN htab hP hD hS hl hQ
  subst hRm
  have F : zF p m c cX9_addMeasure 1 s (([.ref a_this] : List Value)).toArray RX9 g A := F
  have hx := F.1.1
  have hb := F.1.2.1
  have hz := F.1.2.2.2.2
  have hl : lv_has ls 1 [(0, .ref a_this)] := hl
  unfold f_X9_addMeasure at h
  refine lv_aload_n hx hb dX9_addMeasure_0 rfl (lv_at hl 0 rfl) ?_
  refine z_get (C := RX9) (T := TX9) (N := 7) (ci := 7) F zu_wsX90 hP 0 rfl rfl 0 (by decide) zw_478 rfl dX9_addMeasure_1 ?_
  obtain ⟨r1_, hr1_, h⟩ := z_bind h
  refine zRV F (k_X4_isFull l N g a_score a_score_cells v_score_size _ hr1_) zy_X4_isFull zw_519 hP hD hS [3] rfl rfl (q0 := 3) (he := rfl) (hc := rfl) (rest := []) rfl hl.1 rfl (Nat.le_of_ble_eq_true rfl) ⟨rfl, rfl⟩ ⟨Nat.le_of_ble_eq_true rfl, Nat.le_of_ble_eq_true rfl⟩ ⟨Nat.zero_le _, Nat.zero_le _⟩ dX9_addMeasure_4 (st1 := [.int r1_]) rfl ?_
  refine z_eq (tgt := 20) hx hb dX9_addMeasure_7 (by decide) h (fun h => ?_) (fun h => ?_)
  · refine lv_aload_n hx hb dX9_addMeasure_20 rfl (lv_at hl 0 rfl) ?_
    refine z_get (C := RX9) (T := TX9) (N := 7) (ci := 7) F zu_wsX90 hP 0 rfl rfl 1 (by decide) zw_481 rfl dX9_addMeasure_21 ?_
    refine lv_aload_n hx hb dX9_addMeasure_24 rfl (lv_at hl 0 rfl) ?_
    refine z_get (C := RX9) (T := TX9) (N := 7) (ci := 7) F zu_wsX90 hP 0 rfl rfl 0 (by decide) zw_478 rfl dX9_addMeasure_25 ?_
    obtain ⟨r2_, hr2_, h⟩ := z_bind h
    refine zVV F (k_X1_push l N g a_history a_history_saved a_history_s0 a_history_s1 a_history_s2 a_history_s3 a_history_s0_cells a_history_s1_cells a_history_s2_cells a_history_s3_cells a_score a_score_cells v_history_next v_history_size v_history_s0_size v_history_s1_size v_history_s2_size v_history_s3_size v_history_s0_cells v_history_s1_cells v_history_s2_cells v_history_s3_cells v_score_size v_score_cells _ hr2_) zy_X1_push zw_520 hP hD hS [1, 5, 6, 7, 8, 9, 14, 15, 16, 17, 3, 11] [0, 2, 4, 10, 12, 13] [0, 6, 1, 16, 2, 7, 8, 9, 10, 11, 3, 17, 4, 5, 12, 13, 14, 15] (wr := [zo_X9 a_this a_score a_history a_text a_sentence a_reader a_sounds a_playing, zo_X2 a_playing a_playing_places v_playing_size, zo_X6 a_sounds a_score a_sounds_shifts a_sounds_heldTicks, (a_playing_places, .inl (zI g, 200, .inl v_playing_places)), (a_sounds_heldTicks, .inl (zI g, 768, .inl v_sounds_heldTicks)), (a_sounds_shifts, .inl (zI g, 768, .inl v_sounds_shifts))]) (W1 := [zo_X9 a_this a_score a_history a_text a_sentence a_reader a_sounds a_playing, zo_X1 a_history a_history_saved r2_.2.1 r2_.1, zo_X2 a_playing a_playing_places v_playing_size, zo_X4 a_score a_score_cells v_score_size, zo_X6 a_sounds a_score a_sounds_shifts a_sounds_heldTicks, zo_X4 a_history_s0 a_history_s0_cells r2_.2.2.1, zo_X4 a_history_s1 a_history_s1_cells r2_.2.2.2.1, zo_X4 a_history_s2 a_history_s2_cells r2_.2.2.2.2.1, zo_X4 a_history_s3 a_history_s3_cells r2_.2.2.2.2.2.1, (a_history_saved, .inl (zO g, 4, .inr (.inr (.inr (.inr (zSv a_history_s0 a_history_s1 a_history_s2 a_history_s3)))))), (a_playing_places, .inl (zI g, 200, .inl v_playing_places)), (a_score_cells, .inl (zI g, 912, .inl v_score_cells)), (a_sounds_heldTicks, .inl (zI g, 768, .inl v_sounds_heldTicks)), (a_sounds_shifts, .inl (zI g, 768, .inl v_sounds_shifts)), (a_history_s0_cells, .inl (zI g, 912, .inl r2_.2.2.2.2.2.2.1)), (a_history_s1_cells, .inl (zI g, 912, .inl r2_.2.2.2.2.2.2.2.1)), (a_history_s2_cells, .inl (zI g, 912, .inl r2_.2.2.2.2.2.2.2.2.1)), (a_history_s3_cells, .inl (zI g, 912, .inl r2_.2.2.2.2.2.2.2.2.2))]) rfl rfl rfl rfl (by decide) rfl rfl (q0 := 1) (he := rfl) (hc := rfl) (rest := []) rfl hl.1 rfl (Nat.le_of_ble_eq_true rfl) ⟨rfl, rfl⟩ ⟨Nat.le_of_ble_eq_true rfl, Nat.le_of_ble_eq_true rfl⟩ ⟨Nat.zero_le _, Nat.zero_le _⟩ dX9_addMeasure_28 (st1 := []) rfl (fun H locs hP hD hS => ?_)
    refine lv_aload_n hx hb dX9_addMeasure_31 rfl (lv_at hl 0 rfl) ?_
    refine z_get (C := RX9) (T := TX9) (N := 7) (ci := 7) F zu_wsX90 hP 0 rfl rfl 0 (by decide) zw_478 rfl dX9_addMeasure_32 ?_
    obtain ⟨r3_, hr3_, h⟩ := z_bind h
    refine zVV F (k_X4_appendMeasure l N g a_score a_score_cells v_score_size v_score_cells _ hr3_) zy_X4_appendMeasure zw_523 hP hD hS [3, 11] [0, 1, 2, 4, 5, 6, 7, 8, 9, 10, 12, 13, 14, 15, 16, 17] [0, 1, 2, 16, 3, 4, 5, 6, 7, 8, 9, 17, 10, 11, 12, 13, 14, 15] (wr := [zo_X9 a_this a_score a_history a_text a_sentence a_reader a_sounds a_playing, zo_X1 a_history a_history_saved r2_.2.1 r2_.1, zo_X2 a_playing a_playing_places v_playing_size, zo_X6 a_sounds a_score a_sounds_shifts a_sounds_heldTicks, zo_X4 a_history_s0 a_history_s0_cells r2_.2.2.1, zo_X4 a_history_s1 a_history_s1_cells r2_.2.2.2.1, zo_X4 a_history_s2 a_history_s2_cells r2_.2.2.2.2.1, zo_X4 a_history_s3 a_history_s3_cells r2_.2.2.2.2.2.1, (a_history_saved, .inl (zO g, 4, .inr (.inr (.inr (.inr (zSv a_history_s0 a_history_s1 a_history_s2 a_history_s3)))))), (a_playing_places, .inl (zI g, 200, .inl v_playing_places)), (a_sounds_heldTicks, .inl (zI g, 768, .inl v_sounds_heldTicks)), (a_sounds_shifts, .inl (zI g, 768, .inl v_sounds_shifts)), (a_history_s0_cells, .inl (zI g, 912, .inl r2_.2.2.2.2.2.2.1)), (a_history_s1_cells, .inl (zI g, 912, .inl r2_.2.2.2.2.2.2.2.1)), (a_history_s2_cells, .inl (zI g, 912, .inl r2_.2.2.2.2.2.2.2.2.1)), (a_history_s3_cells, .inl (zI g, 912, .inl r2_.2.2.2.2.2.2.2.2.2))]) (W1 := [zo_X9 a_this a_score a_history a_text a_sentence a_reader a_sounds a_playing, zo_X1 a_history a_history_saved r2_.2.1 r2_.1, zo_X2 a_playing a_playing_places v_playing_size, zo_X4 a_score a_score_cells r3_.1, zo_X6 a_sounds a_score a_sounds_shifts a_sounds_heldTicks, zo_X4 a_history_s0 a_history_s0_cells r2_.2.2.1, zo_X4 a_history_s1 a_history_s1_cells r2_.2.2.2.1, zo_X4 a_history_s2 a_history_s2_cells r2_.2.2.2.2.1, zo_X4 a_history_s3 a_history_s3_cells r2_.2.2.2.2.2.1, (a_history_saved, .inl (zO g, 4, .inr (.inr (.inr (.inr (zSv a_history_s0 a_history_s1 a_history_s2 a_history_s3)))))), (a_playing_places, .inl (zI g, 200, .inl v_playing_places)), (a_score_cells, .inl (zI g, 912, .inl r3_.2)), (a_sounds_heldTicks, .inl (zI g, 768, .inl v_sounds_heldTicks)), (a_sounds_shifts, .inl (zI g, 768, .inl v_sounds_shifts)), (a_history_s0_cells, .inl (zI g, 912, .inl r2_.2.2.2.2.2.2.1)), (a_history_s1_cells, .inl (zI g, 912, .inl r2_.2.2.2.2.2.2.2.1)), (a_history_s2_cells, .inl (zI g, 912, .inl r2_.2.2.2.2.2.2.2.2.1)), (a_history_s3_cells, .inl (zI g, 912, .inl r2_.2.2.2.2.2.2.2.2.2))]) rfl rfl rfl rfl (by decide) rfl rfl (q0 := 3) (he := rfl) (hc := rfl) (rest := []) rfl hl.1 rfl (Nat.le_of_ble_eq_true rfl) ⟨rfl, rfl⟩ ⟨Nat.le_of_ble_eq_true rfl, Nat.le_of_ble_eq_true rfl⟩ ⟨Nat.zero_le _, Nat.zero_le _⟩ dX9_addMeasure_35 (st1 := []) rfl (fun H locs hP hD hS => ?_)
    refine lv_aload_n hx hb dX9_addMeasure_38 rfl (lv_at hl 0 rfl) ?_
    obtain ⟨r4_, hr4_, h⟩ := z_bind h
    refine zVV F (k_X9_settle l N g a_this a_score a_history a_text a_sentence a_reader a_sounds a_playing a_playing_places a_score_cells a_sounds_shifts a_sounds_heldTicks v_playing_size r3_.1 v_playing_places r3_.2 v_sounds_heldTicks v_sounds_shifts _ hr4_) zy_X9_settle zw_524 hP hD hS [0, 2, 3, 4, 10, 11, 12, 13] [1, 5, 6, 7, 8, 9, 14, 15, 16, 17] [10, 0, 11, 12, 13, 1, 2, 3, 4, 5, 14, 15, 16, 17, 6, 7, 8, 9] (wr := [zo_X1 a_history a_history_saved r2_.2.1 r2_.1, zo_X4 a_history_s0 a_history_s0_cells r2_.2.2.1, zo_X4 a_history_s1 a_history_s1_cells r2_.2.2.2.1, zo_X4 a_history_s2 a_history_s2_cells r2_.2.2.2.2.1, zo_X4 a_history_s3 a_history_s3_cells r2_.2.2.2.2.2.1, (a_history_saved, .inl (zO g, 4, .inr (.inr (.inr (.inr (zSv a_history_s0 a_history_s1 a_history_s2 a_history_s3)))))), (a_history_s0_cells, .inl (zI g, 912, .inl r2_.2.2.2.2.2.2.1)), (a_history_s1_cells, .inl (zI g, 912, .inl r2_.2.2.2.2.2.2.2.1)), (a_history_s2_cells, .inl (zI g, 912, .inl r2_.2.2.2.2.2.2.2.2.1)), (a_history_s3_cells, .inl (zI g, 912, .inl r2_.2.2.2.2.2.2.2.2.2))]) (W1 := [zo_X9 a_this a_score a_history a_text a_sentence a_reader a_sounds a_playing, zo_X1 a_history a_history_saved r2_.2.1 r2_.1, zo_X2 a_playing a_playing_places r4_.1, zo_X4 a_score a_score_cells r3_.1, zo_X6 a_sounds a_score a_sounds_shifts a_sounds_heldTicks, zo_X4 a_history_s0 a_history_s0_cells r2_.2.2.1, zo_X4 a_history_s1 a_history_s1_cells r2_.2.2.2.1, zo_X4 a_history_s2 a_history_s2_cells r2_.2.2.2.2.1, zo_X4 a_history_s3 a_history_s3_cells r2_.2.2.2.2.2.1, (a_history_saved, .inl (zO g, 4, .inr (.inr (.inr (.inr (zSv a_history_s0 a_history_s1 a_history_s2 a_history_s3)))))), (a_playing_places, .inl (zI g, 200, .inl r4_.2.1)), (a_score_cells, .inl (zI g, 912, .inl r3_.2)), (a_sounds_heldTicks, .inl (zI g, 768, .inl r4_.2.2.1)), (a_sounds_shifts, .inl (zI g, 768, .inl r4_.2.2.2)), (a_history_s0_cells, .inl (zI g, 912, .inl r2_.2.2.2.2.2.2.1)), (a_history_s1_cells, .inl (zI g, 912, .inl r2_.2.2.2.2.2.2.2.1)), (a_history_s2_cells, .inl (zI g, 912, .inl r2_.2.2.2.2.2.2.2.2.1)), (a_history_s3_cells, .inl (zI g, 912, .inl r2_.2.2.2.2.2.2.2.2.2))]) rfl rfl rfl rfl (by decide) rfl rfl (q0 := 0) (he := rfl) (hc := rfl) (rest := []) rfl hl.1 rfl (Nat.le_of_ble_eq_true rfl) ⟨rfl, rfl⟩ ⟨Nat.le_of_ble_eq_true rfl, Nat.le_of_ble_eq_true rfl⟩ ⟨Nat.zero_le _, Nat.zero_le _⟩ dX9_addMeasure_39 (st1 := []) rfl (fun H locs hP hD hS => ?_)
    refine lv_aload_n hx hb dX9_addMeasure_42 rfl (lv_at hl 0 rfl) ?_
    refine z_get (C := RX9) (T := TX9) (N := 7) (ci := 7) F zu_wsX90 hP 0 rfl rfl 0 (by decide) zw_478 rfl dX9_addMeasure_43 ?_
    obtain ⟨r5_, hr5_, h⟩ := z_bind h
    refine zRV F (k_X4_size l N g a_score a_score_cells r3_.1 _ hr5_) zy_X4_size zw_528 hP hD hS [3] rfl rfl (q0 := 3) (he := rfl) (hc := rfl) (rest := []) rfl hl.1 rfl (Nat.le_of_ble_eq_true rfl) ⟨rfl, rfl⟩ ⟨Nat.le_of_ble_eq_true rfl, Nat.le_of_ble_eq_true rfl⟩ ⟨Nat.zero_le _, Nat.zero_le _⟩ dX9_addMeasure_46 (st1 := [.int r5_]) rfl ?_
    refine lv_iconst (v := 1) hx hb dX9_addMeasure_49 (by decide) ?_
    refine lv_isub hx hb dX9_addMeasure_50 ?_
    cases h
  · obtain rfl := Sum.inr.inj (Option.some.inj h)
    exact zThS (k := 2) F hfl hN zw_517 zw_518 zst_X9_68 (fun w h => zu_zx_0 w h) zx_bad_0 (zx_ot_0 _) (by decide +kernel) hP hD hS hl.1 htab hlocks hQ dX9_addMeasure_10 dX9_addMeasure_13 dX9_addMeasure_14 dX9_addMeasure_16 dX9_addMeasure_19 (Nat.le_of_ble_eq_true rfl) (Nat.le_of_ble_eq_true rfl) (Nat.le_of_ble_eq_true rfl) (Nat.le_of_ble_eq_true rfl)
def f_X9_requireMeasure (N : Nat) (v_score_size : Int32) (x1 : Int32) : Option (Unit ⊕ Nat) :=
  Option.bind (f_X4_hasMeasure N v_score_size x1) (fun (r1_ : Int32) => if r1_ = 0 then some (Sum.inr 0) else some (Sum.inl ()))
abbrev rm_X9_requireMeasure : Room := { frames := 6, cells := 0, slots := 0, locals := 90 }
theorem zy_X9_requireMeasure : zYv yX9_requireMeasure RX9 cX9_requireMeasure 2 none 1 := ⟨zw_535, zw_536, zw_527, zw_533, ⟨by decide, by decide⟩, by decide +kernel⟩
set_option maxHeartbeats 4000000 in
set_option maxRecDepth 100000 in
theorem k_X9_requireMeasure (l : Launch) (N : Nat) (g : zEnv) (a_this a_score a_history a_text a_sentence a_reader a_sounds a_playing a_score_cells : Nat) (v_score_size : Int32) (x1 : Int32) (r : Unit) (h : f_X9_requireMeasure N v_score_size x1 = some (Sum.inl r)) : ZR l yX9_requireMeasure cX9_requireMeasure 2 none rm_X9_requireMeasure g [.ref a_this, .int x1] [zo_X9 a_this a_score a_history a_text a_sentence a_reader a_sounds a_playing, zo_X4 a_score a_score_cells v_score_size] none := by
  refine zR_of (by decide) (Nat.le_of_ble_eq_true rfl) ?_
  intro p e s m below meth c A ls Q R F hRm hr hlocks hP hD hS hl hQ
  subst hRm
  have F : zF p m c cX9_requireMeasure 2 s (([.ref a_this, .int x1] : List Value)).toArray RX9 g A := F
  have hx := F.1.1
  have hb := F.1.2.1
  have hz := F.1.2.2.2.2
  have hl : lv_has ls 2 [(0, .ref a_this), (1, .int x1)] := hl
  unfold f_X9_requireMeasure at h
  refine lv_aload_n hx hb dX9_requireMeasure_0 rfl (lv_at hl 0 rfl) ?_
  refine z_get (C := RX9) (T := TX9) (N := 7) (ci := 7) F zu_wsX90 hP 0 rfl rfl 0 (by decide) zw_478 rfl dX9_requireMeasure_1 ?_
  refine lv_iload_n hx hb dX9_requireMeasure_4 rfl (lv_at hl 1 rfl) ?_
  obtain ⟨r1_, hr1_, h⟩ := z_bind h
  refine zRV F (k_X4_hasMeasure l N g a_score a_score_cells v_score_size x1 _ hr1_) zy_X4_hasMeasure zw_532 hP hD hS [1] rfl rfl (q0 := 1) (he := rfl) (hc := rfl) (rest := []) rfl hl.1 rfl (Nat.le_of_ble_eq_true rfl) ⟨rfl, rfl⟩ ⟨Nat.le_of_ble_eq_true rfl, Nat.le_of_ble_eq_true rfl⟩ ⟨Nat.zero_le _, Nat.zero_le _⟩ dX9_requireMeasure_5 (st1 := [.int r1_]) rfl ?_
  refine z_ne (tgt := 22) hx hb dX9_requireMeasure_8 (by decide) h (fun h => ?_) (fun h => ?_)
  · obtain rfl := Sum.inl.inj (Option.some.inj h)
    exact zR_v F hr hlocks hQ dX9_requireMeasure_22
  · cases h
abbrev rx_X9_requireMeasure : Room := { frames := 6, cells := 1, slots := 6, locals := 90 }
set_option maxHeartbeats 4000000 in
set_option maxRecDepth 100000 in
theorem kx_X9_requireMeasure (l : Launch) (N : Nat) (g : zEnv) (a_this a_score a_history a_text a_sentence a_reader a_sounds a_playing a_score_cells : Nat) (v_score_size : Int32) (x1 : Int32) (r : Nat) (h : f_X9_requireMeasure N v_score_size x1 = some (Sum.inr r)) (hfl : l.stackTraces = false) : ZE l yX9_requireMeasure cX9_requireMeasure 2 none rx_X9_requireMeasure g [.ref a_this, .int x1] [zo_X9 a_this a_score a_history a_text a_sentence a_reader a_sounds a_playing, zo_X4 a_score a_score_cells v_score_size] [zo_X9 a_this a_score a_history a_text a_sentence a_reader a_sounds a_playing, zo_X4 a_score a_score_cells v_score_size] r := by
  refine zE_of (by decide) (Nat.le_of_ble_eq_true rfl) ?_
  intro p e s m below meth c A H locs ls Q R F hRm hlocks hN htab hP hD hS hl hQ
  subst hRm
  have F : zF p m c cX9_requireMeasure 2 s (([.ref a_this, .int x1] : List Value)).toArray RX9 g A := F
  have hx := F.1.1
  have hb := F.1.2.1
  have hz := F.1.2.2.2.2
  have hl : lv_has ls 2 [(0, .ref a_this), (1, .int x1)] := hl
  unfold f_X9_requireMeasure at h
  refine lv_aload_n hx hb dX9_requireMeasure_0 rfl (lv_at hl 0 rfl) ?_
  refine z_get (C := RX9) (T := TX9) (N := 7) (ci := 7) F zu_wsX90 hP 0 rfl rfl 0 (by decide) zw_478 rfl dX9_requireMeasure_1 ?_
  refine lv_iload_n hx hb dX9_requireMeasure_4 rfl (lv_at hl 1 rfl) ?_
  obtain ⟨r1_, hr1_, h⟩ := z_bind h
  refine zRV F (k_X4_hasMeasure l N g a_score a_score_cells v_score_size x1 _ hr1_) zy_X4_hasMeasure zw_532 hP hD hS [1] rfl rfl (q0 := 1) (he := rfl) (hc := rfl) (rest := []) rfl hl.1 rfl (Nat.le_of_ble_eq_true rfl) ⟨rfl, rfl⟩ ⟨Nat.le_of_ble_eq_true rfl, Nat.le_of_ble_eq_true rfl⟩ ⟨Nat.zero_le _, Nat.zero_le _⟩ dX9_requireMeasure_5 (st1 := [.int r1_]) rfl ?_
  refine z_ne (tgt := 22) hx hb dX9_requireMeasure_8 (by decide) h (fun h => ?_) (fun h => ?_)
  · cases h
  · obtain rfl := Sum.inr.inj (Option.some.inj h)
    exact zThW (k := 0) F hfl hN zw_530 zw_531 zst_X9_324 (fun w h => zu_zx_1 w h) zx_bad_1 (zx_ot_1 _) (by decide +kernel) hP hD hS hl.1 htab hlocks hQ dX9_requireMeasure_11 dX9_requireMeasure_14 dX9_requireMeasure_15 dX9_requireMeasure_18 dX9_requireMeasure_21 (Nat.le_of_ble_eq_true rfl) (Nat.le_of_ble_eq_true rfl) (Nat.le_of_ble_eq_true rfl) (Nat.le_of_ble_eq_true rfl)
def f_X9_removeMeasure (N : Nat) (v_history_next : Int32) (v_history_size : Int32) (v_playing_size : Int32) (v_score_size : Int32) (v_history_s0_size : Int32) (v_history_s1_size : Int32) (v_history_s2_size : Int32) (v_history_s3_size : Int32) (v_playing_places : Nat → Int32) (v_score_cells : Nat → Int32) (v_sounds_heldTicks : Nat → Int32) (v_sounds_shifts : Nat → Int32) (v_history_s0_cells : Nat → Int32) (v_history_s1_cells : Nat → Int32) (v_history_s2_cells : Nat → Int32) (v_history_s3_cells : Nat → Int32) (x1 : Int32) : Option ((Int32 × Int32 × Int32 × Int32 × Int32 × Int32 × Int32 × Int32 × Int32 × (Nat → Int32) × (Nat → Int32) × (Nat → Int32) × (Nat → Int32) × (Nat → Int32) × (Nat → Int32) × (Nat → Int32) × (Nat → Int32)) ⊕ Nat) :=
  zSub (f_X9_requireMeasure N v_score_size x1) (fun (r1_ : Unit) => Option.bind (f_X1_push N v_history_next v_history_size v_history_s0_size v_history_s1_size v_history_s2_size v_history_s3_size v_history_s0_cells v_history_s1_cells v_history_s2_cells v_history_s3_cells v_score_size v_score_cells) (fun (r2_ : Int32 × Int32 × Int32 × Int32 × Int32 × Int32 × (Nat → Int32) × (Nat → Int32) × (Nat → Int32) × (Nat → Int32)) => Option.bind (f_X4_dropMeasure N v_score_size v_score_cells x1) (fun (r3_ : Int32 × (Nat → Int32)) => Option.bind (f_X9_settle N v_playing_size r3_.1 v_playing_places r3_.2 v_sounds_heldTicks v_sounds_shifts) (fun (r4_ : Int32 × (Nat → Int32) × (Nat → Int32) × (Nat → Int32)) => Option.bind (f_X4_size N r3_.1) (fun (r5_ : Int32) => some (Sum.inl (r5_, r2_.1, r2_.2.1, r4_.1, r3_.1, r2_.2.2.1, r2_.2.2.2.1, r2_.2.2.2.2.1, r2_.2.2.2.2.2.1, r4_.2.1, r3_.2, r4_.2.2.1, r4_.2.2.2, r2_.2.2.2.2.2.2.1, r2_.2.2.2.2.2.2.2.1, r2_.2.2.2.2.2.2.2.2.1, r2_.2.2.2.2.2.2.2.2.2)))))))
abbrev rm_X9_removeMeasure : Room := { frames := 7, cells := 0, slots := 0, locals := 170 }
theorem zy_X9_removeMeasure : zYv yX9_removeMeasure RX9 cX9_removeMeasure 2 (some .int) 1 := ⟨zw_767, zw_768, zw_527, zw_540, ⟨by decide, by decide⟩, by decide +kernel⟩
set_option maxHeartbeats 4000000 in
set_option maxRecDepth 100000 in
theorem k_X9_removeMeasure (l : Launch) (N : Nat) (g : zEnv) (a_this a_score a_history a_text a_sentence a_reader a_sounds a_playing a_history_saved a_history_s0 a_history_s1 a_history_s2 a_history_s3 a_playing_places a_score_cells a_sounds_shifts a_sounds_heldTicks a_history_s0_cells a_history_s1_cells a_history_s2_cells a_history_s3_cells : Nat) (v_history_next : Int32) (v_history_size : Int32) (v_playing_size : Int32) (v_score_size : Int32) (v_history_s0_size : Int32) (v_history_s1_size : Int32) (v_history_s2_size : Int32) (v_history_s3_size : Int32) (v_playing_places : Nat → Int32) (v_score_cells : Nat → Int32) (v_sounds_heldTicks : Nat → Int32) (v_sounds_shifts : Nat → Int32) (v_history_s0_cells : Nat → Int32) (v_history_s1_cells : Nat → Int32) (v_history_s2_cells : Nat → Int32) (v_history_s3_cells : Nat → Int32) (x1 : Int32) (r : Int32 × Int32 × Int32 × Int32 × Int32 × Int32 × Int32 × Int32 × Int32 × (Nat → Int32) × (Nat → Int32) × (Nat → Int32) × (Nat → Int32) × (Nat → Int32) × (Nat → Int32) × (Nat → Int32) × (Nat → Int32)) (h : f_X9_removeMeasure N v_history_next v_history_size v_playing_size v_score_size v_history_s0_size v_history_s1_size v_history_s2_size v_history_s3_size v_playing_places v_score_cells v_sounds_heldTicks v_sounds_shifts v_history_s0_cells v_history_s1_cells v_history_s2_cells v_history_s3_cells x1 = some (Sum.inl r)) : ZV l yX9_removeMeasure cX9_removeMeasure 2 (some .int) rm_X9_removeMeasure g [.ref a_this, .int x1] [zo_X9 a_this a_score a_history a_text a_sentence a_reader a_sounds a_playing, zo_X1 a_history a_history_saved v_history_size v_history_next, zo_X2 a_playing a_playing_places v_playing_size, zo_X4 a_score a_score_cells v_score_size, zo_X6 a_sounds a_score a_sounds_shifts a_sounds_heldTicks, zo_X4 a_history_s0 a_history_s0_cells v_history_s0_size, zo_X4 a_history_s1 a_history_s1_cells v_history_s1_size, zo_X4 a_history_s2 a_history_s2_cells v_history_s2_size, zo_X4 a_history_s3 a_history_s3_cells v_history_s3_size, (a_history_saved, .inl (zO g, 4, .inr (.inr (.inr (.inr (zSv a_history_s0 a_history_s1 a_history_s2 a_history_s3)))))), (a_playing_places, .inl (zI g, 200, .inl v_playing_places)), (a_score_cells, .inl (zI g, 912, .inl v_score_cells)), (a_sounds_heldTicks, .inl (zI g, 768, .inl v_sounds_heldTicks)), (a_sounds_shifts, .inl (zI g, 768, .inl v_sounds_shifts)), (a_history_s0_cells, .inl (zI g, 912, .inl v_history_s0_cells)), (a_history_s1_cells, .inl (zI g, 912, .inl v_history_s1_cells)), (a_history_s2_cells, .inl (zI g, 912, .inl v_history_s2_cells)), (a_history_s3_cells, .inl (zI g, 912, .inl v_history_s3_cells))] [zo_X9 a_this a_score a_history a_text a_sentence a_reader a_sounds a_playing, zo_X1 a_history a_history_saved r.2.2.1 r.2.1, zo_X2 a_playing a_playing_places r.2.2.2.1, zo_X4 a_score a_score_cells r.2.2.2.2.1, zo_X6 a_sounds a_score a_sounds_shifts a_sounds_heldTicks, zo_X4 a_history_s0 a_history_s0_cells r.2.2.2.2.2.1, zo_X4 a_history_s1 a_history_s1_cells r.2.2.2.2.2.2.1, zo_X4 a_history_s2 a_history_s2_cells r.2.2.2.2.2.2.2.1, zo_X4 a_history_s3 a_history_s3_cells r.2.2.2.2.2.2.2.2.1, (a_history_saved, .inl (zO g, 4, .inr (.inr (.inr (.inr (zSv a_history_s0 a_history_s1 a_history_s2 a_history_s3)))))), (a_playing_places, .inl (zI g, 200, .inl r.2.2.2.2.2.2.2.2.2.1)), (a_score_cells, .inl (zI g, 912, .inl r.2.2.2.2.2.2.2.2.2.2.1)), (a_sounds_heldTicks, .inl (zI g, 768, .inl r.2.2.2.2.2.2.2.2.2.2.2.1)), (a_sounds_shifts, .inl (zI g, 768, .inl r.2.2.2.2.2.2.2.2.2.2.2.2.1)), (a_history_s0_cells, .inl (zI g, 912, .inl r.2.2.2.2.2.2.2.2.2.2.2.2.2.1)), (a_history_s1_cells, .inl (zI g, 912, .inl r.2.2.2.2.2.2.2.2.2.2.2.2.2.2.1)), (a_history_s2_cells, .inl (zI g, 912, .inl r.2.2.2.2.2.2.2.2.2.2.2.2.2.2.2.1)), (a_history_s3_cells, .inl (zI g, 912, .inl r.2.2.2.2.2.2.2.2.2.2.2.2.2.2.2.2))] (some (.int r.1)) := by
  refine zV_of (by decide) (Nat.le_of_ble_eq_true rfl) ?_
  intro p e s m below meth c A H locs ls Q R F hRm hr hlocks hP hD hS hl hQ
  subst hRm
  have F : zF p m c cX9_removeMeasure 2 s (([.ref a_this, .int x1] : List Value)).toArray RX9 g A := F
  have hx := F.1.1
  have hb := F.1.2.1
  have hz := F.1.2.2.2.2
  have hl : lv_has ls 2 [(0, .ref a_this), (1, .int x1)] := hl
  unfold f_X9_removeMeasure at h
  refine lv_aload_n hx hb dX9_removeMeasure_0 rfl (lv_at hl 0 rfl) ?_
  refine lv_iload_n hx hb dX9_removeMeasure_1 rfl (lv_at hl 1 rfl) ?_
  obtain ⟨r1_, hr1_, h⟩ := z_subL h
  refine zRV F (k_X9_requireMeasure l N g a_this a_score a_history a_text a_sentence a_reader a_sounds a_playing a_score_cells v_score_size x1 _ hr1_) zy_X9_requireMeasure zw_534 hP hD hS [0, 3] rfl rfl (q0 := 0) (he := rfl) (hc := rfl) (rest := []) rfl hl.1 rfl (Nat.le_of_ble_eq_true rfl) ⟨rfl, rfl⟩ ⟨Nat.le_of_ble_eq_true rfl, Nat.le_of_ble_eq_true rfl⟩ ⟨Nat.zero_le _, Nat.zero_le _⟩ dX9_removeMeasure_2 (st1 := []) rfl ?_
  refine lv_aload_n hx hb dX9_removeMeasure_5 rfl (lv_at hl 0 rfl) ?_
  refine z_get (C := RX9) (T := TX9) (N := 7) (ci := 7) F zu_wsX90 hP 0 rfl rfl 1 (by decide) zw_481 rfl dX9_removeMeasure_6 ?_
  refine lv_aload_n hx hb dX9_removeMeasure_9 rfl (lv_at hl 0 rfl) ?_
  refine z_get (C := RX9) (T := TX9) (N := 7) (ci := 7) F zu_wsX90 hP 0 rfl rfl 0 (by decide) zw_478 rfl dX9_removeMeasure_10 ?_
  obtain ⟨r2_, hr2_, h⟩ := z_bind h
  refine zVV F (k_X1_push l N g a_history a_history_saved a_history_s0 a_history_s1 a_history_s2 a_history_s3 a_history_s0_cells a_history_s1_cells a_history_s2_cells a_history_s3_cells a_score a_score_cells v_history_next v_history_size v_history_s0_size v_history_s1_size v_history_s2_size v_history_s3_size v_history_s0_cells v_history_s1_cells v_history_s2_cells v_history_s3_cells v_score_size v_score_cells _ hr2_) zy_X1_push zw_520 hP hD hS [1, 5, 6, 7, 8, 9, 14, 15, 16, 17, 3, 11] [0, 2, 4, 10, 12, 13] [0, 6, 1, 16, 2, 7, 8, 9, 10, 11, 3, 17, 4, 5, 12, 13, 14, 15] (wr := [zo_X9 a_this a_score a_history a_text a_sentence a_reader a_sounds a_playing, zo_X2 a_playing a_playing_places v_playing_size, zo_X6 a_sounds a_score a_sounds_shifts a_sounds_heldTicks, (a_playing_places, .inl (zI g, 200, .inl v_playing_places)), (a_sounds_heldTicks, .inl (zI g, 768, .inl v_sounds_heldTicks)), (a_sounds_shifts, .inl (zI g, 768, .inl v_sounds_shifts))]) (W1 := [zo_X9 a_this a_score a_history a_text a_sentence a_reader a_sounds a_playing, zo_X1 a_history a_history_saved r2_.2.1 r2_.1, zo_X2 a_playing a_playing_places v_playing_size, zo_X4 a_score a_score_cells v_score_size, zo_X6 a_sounds a_score a_sounds_shifts a_sounds_heldTicks, zo_X4 a_history_s0 a_history_s0_cells r2_.2.2.1, zo_X4 a_history_s1 a_history_s1_cells r2_.2.2.2.1, zo_X4 a_history_s2 a_history_s2_cells r2_.2.2.2.2.1, zo_X4 a_history_s3 a_history_s3_cells r2_.2.2.2.2.2.1, (a_history_saved, .inl (zO g, 4, .inr (.inr (.inr (.inr (zSv a_history_s0 a_history_s1 a_history_s2 a_history_s3)))))), (a_playing_places, .inl (zI g, 200, .inl v_playing_places)), (a_score_cells, .inl (zI g, 912, .inl v_score_cells)), (a_sounds_heldTicks, .inl (zI g, 768, .inl v_sounds_heldTicks)), (a_sounds_shifts, .inl (zI g, 768, .inl v_sounds_shifts)), (a_history_s0_cells, .inl (zI g, 912, .inl r2_.2.2.2.2.2.2.1)), (a_history_s1_cells, .inl (zI g, 912, .inl r2_.2.2.2.2.2.2.2.1)), (a_history_s2_cells, .inl (zI g, 912, .inl r2_.2.2.2.2.2.2.2.2.1)), (a_history_s3_cells, .inl (zI g, 912, .inl r2_.2.2.2.2.2.2.2.2.2))]) rfl rfl rfl rfl (by decide) rfl rfl (q0 := 1) (he := rfl) (hc := rfl) (rest := []) rfl hl.1 rfl (Nat.le_of_ble_eq_true rfl) ⟨rfl, rfl⟩ ⟨Nat.le_of_ble_eq_true rfl, Nat.le_of_ble_eq_true rfl⟩ ⟨Nat.zero_le _, Nat.zero_le _⟩ dX9_removeMeasure_13 (st1 := []) rfl (fun H locs hP hD hS => ?_)
  refine lv_aload_n hx hb dX9_removeMeasure_16 rfl (lv_at hl 0 rfl) ?_
  refine z_get (C := RX9) (T := TX9) (N := 7) (ci := 7) F zu_wsX90 hP 0 rfl rfl 0 (by decide) zw_478 rfl dX9_removeMeasure_17 ?_
  refine lv_iload_n hx hb dX9_removeMeasure_20 rfl (lv_at hl 1 rfl) ?_
  obtain ⟨r3_, hr3_, h⟩ := z_bind h
  refine zVV F (k_X4_dropMeasure l N g a_score a_score_cells v_score_size v_score_cells x1 _ hr3_) zy_X4_dropMeasure zw_537 hP hD hS [3, 11] [0, 1, 2, 4, 5, 6, 7, 8, 9, 10, 12, 13, 14, 15, 16, 17] [0, 1, 2, 16, 3, 4, 5, 6, 7, 8, 9, 17, 10, 11, 12, 13, 14, 15] (wr := [zo_X9 a_this a_score a_history a_text a_sentence a_reader a_sounds a_playing, zo_X1 a_history a_history_saved r2_.2.1 r2_.1, zo_X2 a_playing a_playing_places v_playing_size, zo_X6 a_sounds a_score a_sounds_shifts a_sounds_heldTicks, zo_X4 a_history_s0 a_history_s0_cells r2_.2.2.1, zo_X4 a_history_s1 a_history_s1_cells r2_.2.2.2.1, zo_X4 a_history_s2 a_history_s2_cells r2_.2.2.2.2.1, zo_X4 a_history_s3 a_history_s3_cells r2_.2.2.2.2.2.1, (a_history_saved, .inl (zO g, 4, .inr (.inr (.inr (.inr (zSv a_history_s0 a_history_s1 a_history_s2 a_history_s3)))))), (a_playing_places, .inl (zI g, 200, .inl v_playing_places)), (a_sounds_heldTicks, .inl (zI g, 768, .inl v_sounds_heldTicks)), (a_sounds_shifts, .inl (zI g, 768, .inl v_sounds_shifts)), (a_history_s0_cells, .inl (zI g, 912, .inl r2_.2.2.2.2.2.2.1)), (a_history_s1_cells, .inl (zI g, 912, .inl r2_.2.2.2.2.2.2.2.1)), (a_history_s2_cells, .inl (zI g, 912, .inl r2_.2.2.2.2.2.2.2.2.1)), (a_history_s3_cells, .inl (zI g, 912, .inl r2_.2.2.2.2.2.2.2.2.2))]) (W1 := [zo_X9 a_this a_score a_history a_text a_sentence a_reader a_sounds a_playing, zo_X1 a_history a_history_saved r2_.2.1 r2_.1, zo_X2 a_playing a_playing_places v_playing_size, zo_X4 a_score a_score_cells r3_.1, zo_X6 a_sounds a_score a_sounds_shifts a_sounds_heldTicks, zo_X4 a_history_s0 a_history_s0_cells r2_.2.2.1, zo_X4 a_history_s1 a_history_s1_cells r2_.2.2.2.1, zo_X4 a_history_s2 a_history_s2_cells r2_.2.2.2.2.1, zo_X4 a_history_s3 a_history_s3_cells r2_.2.2.2.2.2.1, (a_history_saved, .inl (zO g, 4, .inr (.inr (.inr (.inr (zSv a_history_s0 a_history_s1 a_history_s2 a_history_s3)))))), (a_playing_places, .inl (zI g, 200, .inl v_playing_places)), (a_score_cells, .inl (zI g, 912, .inl r3_.2)), (a_sounds_heldTicks, .inl (zI g, 768, .inl v_sounds_heldTicks)), (a_sounds_shifts, .inl (zI g, 768, .inl v_sounds_shifts)), (a_history_s0_cells, .inl (zI g, 912, .inl r2_.2.2.2.2.2.2.1)), (a_history_s1_cells, .inl (zI g, 912, .inl r2_.2.2.2.2.2.2.2.1)), (a_history_s2_cells, .inl (zI g, 912, .inl r2_.2.2.2.2.2.2.2.2.1)), (a_history_s3_cells, .inl (zI g, 912, .inl r2_.2.2.2.2.2.2.2.2.2))]) rfl rfl rfl rfl (by decide) rfl rfl (q0 := 3) (he := rfl) (hc := rfl) (rest := []) rfl hl.1 rfl (Nat.le_of_ble_eq_true rfl) ⟨rfl, rfl⟩ ⟨Nat.le_of_ble_eq_true rfl, Nat.le_of_ble_eq_true rfl⟩ ⟨Nat.zero_le _, Nat.zero_le _⟩ dX9_removeMeasure_21 (st1 := []) rfl (fun H locs hP hD hS => ?_)
  refine lv_aload_n hx hb dX9_removeMeasure_24 rfl (lv_at hl 0 rfl) ?_
  obtain ⟨r4_, hr4_, h⟩ := z_bind h
  refine zVV F (k_X9_settle l N g a_this a_score a_history a_text a_sentence a_reader a_sounds a_playing a_playing_places a_score_cells a_sounds_shifts a_sounds_heldTicks v_playing_size r3_.1 v_playing_places r3_.2 v_sounds_heldTicks v_sounds_shifts _ hr4_) zy_X9_settle zw_524 hP hD hS [0, 2, 3, 4, 10, 11, 12, 13] [1, 5, 6, 7, 8, 9, 14, 15, 16, 17] [10, 0, 11, 12, 13, 1, 2, 3, 4, 5, 14, 15, 16, 17, 6, 7, 8, 9] (wr := [zo_X1 a_history a_history_saved r2_.2.1 r2_.1, zo_X4 a_history_s0 a_history_s0_cells r2_.2.2.1, zo_X4 a_history_s1 a_history_s1_cells r2_.2.2.2.1, zo_X4 a_history_s2 a_history_s2_cells r2_.2.2.2.2.1, zo_X4 a_history_s3 a_history_s3_cells r2_.2.2.2.2.2.1, (a_history_saved, .inl (zO g, 4, .inr (.inr (.inr (.inr (zSv a_history_s0 a_history_s1 a_history_s2 a_history_s3)))))), (a_history_s0_cells, .inl (zI g, 912, .inl r2_.2.2.2.2.2.2.1)), (a_history_s1_cells, .inl (zI g, 912, .inl r2_.2.2.2.2.2.2.2.1)), (a_history_s2_cells, .inl (zI g, 912, .inl r2_.2.2.2.2.2.2.2.2.1)), (a_history_s3_cells, .inl (zI g, 912, .inl r2_.2.2.2.2.2.2.2.2.2))]) (W1 := [zo_X9 a_this a_score a_history a_text a_sentence a_reader a_sounds a_playing, zo_X1 a_history a_history_saved r2_.2.1 r2_.1, zo_X2 a_playing a_playing_places r4_.1, zo_X4 a_score a_score_cells r3_.1, zo_X6 a_sounds a_score a_sounds_shifts a_sounds_heldTicks, zo_X4 a_history_s0 a_history_s0_cells r2_.2.2.1, zo_X4 a_history_s1 a_history_s1_cells r2_.2.2.2.1, zo_X4 a_history_s2 a_history_s2_cells r2_.2.2.2.2.1, zo_X4 a_history_s3 a_history_s3_cells r2_.2.2.2.2.2.1, (a_history_saved, .inl (zO g, 4, .inr (.inr (.inr (.inr (zSv a_history_s0 a_history_s1 a_history_s2 a_history_s3)))))), (a_playing_places, .inl (zI g, 200, .inl r4_.2.1)), (a_score_cells, .inl (zI g, 912, .inl r3_.2)), (a_sounds_heldTicks, .inl (zI g, 768, .inl r4_.2.2.1)), (a_sounds_shifts, .inl (zI g, 768, .inl r4_.2.2.2)), (a_history_s0_cells, .inl (zI g, 912, .inl r2_.2.2.2.2.2.2.1)), (a_history_s1_cells, .inl (zI g, 912, .inl r2_.2.2.2.2.2.2.2.1)), (a_history_s2_cells, .inl (zI g, 912, .inl r2_.2.2.2.2.2.2.2.2.1)), (a_history_s3_cells, .inl (zI g, 912, .inl r2_.2.2.2.2.2.2.2.2.2))]) rfl rfl rfl rfl (by decide) rfl rfl (q0 := 0) (he := rfl) (hc := rfl) (rest := []) rfl hl.1 rfl (Nat.le_of_ble_eq_true rfl) ⟨rfl, rfl⟩ ⟨Nat.le_of_ble_eq_true rfl, Nat.le_of_ble_eq_true rfl⟩ ⟨Nat.zero_le _, Nat.zero_le _⟩ dX9_removeMeasure_25 (st1 := []) rfl (fun H locs hP hD hS => ?_)
  refine lv_aload_n hx hb dX9_removeMeasure_28 rfl (lv_at hl 0 rfl) ?_
  refine z_get (C := RX9) (T := TX9) (N := 7) (ci := 7) F zu_wsX90 hP 0 rfl rfl 0 (by decide) zw_478 rfl dX9_removeMeasure_29 ?_
  obtain ⟨r5_, hr5_, h⟩ := z_bind h
  refine zRV F (k_X4_size l N g a_score a_score_cells r3_.1 _ hr5_) zy_X4_size zw_528 hP hD hS [3] rfl rfl (q0 := 3) (he := rfl) (hc := rfl) (rest := []) rfl hl.1 rfl (Nat.le_of_ble_eq_true rfl) ⟨rfl, rfl⟩ ⟨Nat.le_of_ble_eq_true rfl, Nat.le_of_ble_eq_true rfl⟩ ⟨Nat.zero_le _, Nat.zero_le _⟩ dX9_removeMeasure_32 (st1 := [.int r5_]) rfl ?_
  obtain rfl := Sum.inl.inj (Option.some.inj h)
  exact zV_i F hr hlocks hQ hP hD hS dX9_removeMeasure_35
abbrev rx_X9_removeMeasure : Room := { frames := 7, cells := 1, slots := 6, locals := 170 }
set_option maxHeartbeats 4000000 in
set_option maxRecDepth 100000 in
theorem kx_X9_removeMeasure (l : Launch) (N : Nat) (g : zEnv) (a_this a_score a_history a_text a_sentence a_reader a_sounds a_playing a_history_saved a_history_s0 a_history_s1 a_history_s2 a_history_s3 a_playing_places a_score_cells a_sounds_shifts a_sounds_heldTicks a_history_s0_cells a_history_s1_cells a_history_s2_cells a_history_s3_cells : Nat) (v_history_next : Int32) (v_history_size : Int32) (v_playing_size : Int32) (v_score_size : Int32) (v_history_s0_size : Int32) (v_history_s1_size : Int32) (v_history_s2_size : Int32) (v_history_s3_size : Int32) (v_playing_places : Nat → Int32) (v_score_cells : Nat → Int32) (v_sounds_heldTicks : Nat → Int32) (v_sounds_shifts : Nat → Int32) (v_history_s0_cells : Nat → Int32) (v_history_s1_cells : Nat → Int32) (v_history_s2_cells : Nat → Int32) (v_history_s3_cells : Nat → Int32) (x1 : Int32) (r : Nat) (h : f_X9_removeMeasure N v_history_next v_history_size v_playing_size v_score_size v_history_s0_size v_history_s1_size v_history_s2_size v_history_s3_size v_playing_places v_score_cells v_sounds_heldTicks v_sounds_shifts v_history_s0_cells v_history_s1_cells v_history_s2_cells v_history_s3_cells x1 = some (Sum.inr r)) (hfl : l.stackTraces = false) : ZE l yX9_removeMeasure cX9_removeMeasure 2 (some .int) rx_X9_removeMeasure g [.ref a_this, .int x1] [zo_X9 a_this a_score a_history a_text a_sentence a_reader a_sounds a_playing, zo_X1 a_history a_history_saved v_history_size v_history_next, zo_X2 a_playing a_playing_places v_playing_size, zo_X4 a_score a_score_cells v_score_size, zo_X6 a_sounds a_score a_sounds_shifts a_sounds_heldTicks, zo_X4 a_history_s0 a_history_s0_cells v_history_s0_size, zo_X4 a_history_s1 a_history_s1_cells v_history_s1_size, zo_X4 a_history_s2 a_history_s2_cells v_history_s2_size, zo_X4 a_history_s3 a_history_s3_cells v_history_s3_size, (a_history_saved, .inl (zO g, 4, .inr (.inr (.inr (.inr (zSv a_history_s0 a_history_s1 a_history_s2 a_history_s3)))))), (a_playing_places, .inl (zI g, 200, .inl v_playing_places)), (a_score_cells, .inl (zI g, 912, .inl v_score_cells)), (a_sounds_heldTicks, .inl (zI g, 768, .inl v_sounds_heldTicks)), (a_sounds_shifts, .inl (zI g, 768, .inl v_sounds_shifts)), (a_history_s0_cells, .inl (zI g, 912, .inl v_history_s0_cells)), (a_history_s1_cells, .inl (zI g, 912, .inl v_history_s1_cells)), (a_history_s2_cells, .inl (zI g, 912, .inl v_history_s2_cells)), (a_history_s3_cells, .inl (zI g, 912, .inl v_history_s3_cells))] [zo_X9 a_this a_score a_history a_text a_sentence a_reader a_sounds a_playing, zo_X1 a_history a_history_saved v_history_size v_history_next, zo_X2 a_playing a_playing_places v_playing_size, zo_X4 a_score a_score_cells v_score_size, zo_X6 a_sounds a_score a_sounds_shifts a_sounds_heldTicks, zo_X4 a_history_s0 a_history_s0_cells v_history_s0_size, zo_X4 a_history_s1 a_history_s1_cells v_history_s1_size, zo_X4 a_history_s2 a_history_s2_cells v_history_s2_size, zo_X4 a_history_s3 a_history_s3_cells v_history_s3_size, (a_history_saved, .inl (zO g, 4, .inr (.inr (.inr (.inr (zSv a_history_s0 a_history_s1 a_history_s2 a_history_s3)))))), (a_playing_places, .inl (zI g, 200, .inl v_playing_places)), (a_score_cells, .inl (zI g, 912, .inl v_score_cells)), (a_sounds_heldTicks, .inl (zI g, 768, .inl v_sounds_heldTicks)), (a_sounds_shifts, .inl (zI g, 768, .inl v_sounds_shifts)), (a_history_s0_cells, .inl (zI g, 912, .inl v_history_s0_cells)), (a_history_s1_cells, .inl (zI g, 912, .inl v_history_s1_cells)), (a_history_s2_cells, .inl (zI g, 912, .inl v_history_s2_cells)), (a_history_s3_cells, .inl (zI g, 912, .inl v_history_s3_cells))] r := by
  refine zE_of (by decide) (Nat.le_of_ble_eq_true rfl) ?_
  intro p e s m below meth c A H locs ls Q R F hRm hlocks hN htab hP hD hS hl hQ
  subst hRm
  have F : zF p m c cX9_removeMeasure 2 s (([.ref a_this, .int x1] : List Value)).toArray RX9 g A := F
  have hx := F.1.1
  have hb := F.1.2.1
  have hz := F.1.2.2.2.2
  have hl : lv_has ls 2 [(0, .ref a_this), (1, .int x1)] := hl
  unfold f_X9_removeMeasure at h
  refine lv_aload_n hx hb dX9_removeMeasure_0 rfl (lv_at hl 0 rfl) ?_
  refine lv_iload_n hx hb dX9_removeMeasure_1 rfl (lv_at hl 1 rfl) ?_
  refine z_subR h (fun h => ?_) (fun r1_ hr1_ h => ?_)
  · exact zXV F (kx_X9_requireMeasure l N g a_this a_score a_history a_text a_sentence a_reader a_sounds a_playing a_score_cells v_score_size x1 _ h hfl) hN zy_X9_requireMeasure zw_534 hP hD hS [0, 3] [1, 2, 4, 5, 6, 7, 8, 9, 10, 11, 12, 13, 14, 15, 16, 17] [16, 0, 1, 17, 2, 3, 4, 5, 6, 7, 8, 9, 10, 11, 12, 13, 14, 15] (wr := [zo_X1 a_history a_history_saved v_history_size v_history_next, zo_X2 a_playing a_playing_places v_playing_size, zo_X6 a_sounds a_score a_sounds_shifts a_sounds_heldTicks, zo_X4 a_history_s0 a_history_s0_cells v_history_s0_size, zo_X4 a_history_s1 a_history_s1_cells v_history_s1_size, zo_X4 a_history_s2 a_history_s2_cells v_history_s2_size, zo_X4 a_history_s3 a_history_s3_cells v_history_s3_size, (a_history_saved, .inl (zO g, 4, .inr (.inr (.inr (.inr (zSv a_history_s0 a_history_s1 a_history_s2 a_history_s3)))))), (a_playing_places, .inl (zI g, 200, .inl v_playing_places)), (a_score_cells, .inl (zI g, 912, .inl v_score_cells)), (a_sounds_heldTicks, .inl (zI g, 768, .inl v_sounds_heldTicks)), (a_sounds_shifts, .inl (zI g, 768, .inl v_sounds_shifts)), (a_history_s0_cells, .inl (zI g, 912, .inl v_history_s0_cells)), (a_history_s1_cells, .inl (zI g, 912, .inl v_history_s1_cells)), (a_history_s2_cells, .inl (zI g, 912, .inl v_history_s2_cells)), (a_history_s3_cells, .inl (zI g, 912, .inl v_history_s3_cells))]) (W1 := [zo_X9 a_this a_score a_history a_text a_sentence a_reader a_sounds a_playing, zo_X1 a_history a_history_saved v_history_size v_history_next, zo_X2 a_playing a_playing_places v_playing_size, zo_X4 a_score a_score_cells v_score_size, zo_X6 a_sounds a_score a_sounds_shifts a_sounds_heldTicks, zo_X4 a_history_s0 a_history_s0_cells v_history_s0_size, zo_X4 a_history_s1 a_history_s1_cells v_history_s1_size, zo_X4 a_history_s2 a_history_s2_cells v_history_s2_size, zo_X4 a_history_s3 a_history_s3_cells v_history_s3_size, (a_history_saved, .inl (zO g, 4, .inr (.inr (.inr (.inr (zSv a_history_s0 a_history_s1 a_history_s2 a_history_s3)))))), (a_playing_places, .inl (zI g, 200, .inl v_playing_places)), (a_score_cells, .inl (zI g, 912, .inl v_score_cells)), (a_sounds_heldTicks, .inl (zI g, 768, .inl v_sounds_heldTicks)), (a_sounds_shifts, .inl (zI g, 768, .inl v_sounds_shifts)), (a_history_s0_cells, .inl (zI g, 912, .inl v_history_s0_cells)), (a_history_s1_cells, .inl (zI g, 912, .inl v_history_s1_cells)), (a_history_s2_cells, .inl (zI g, 912, .inl v_history_s2_cells)), (a_history_s3_cells, .inl (zI g, 912, .inl v_history_s3_cells))]) rfl rfl rfl rfl (by decide) rfl rfl (q0 := 0) (he := rfl) (hc := rfl) (rest := []) rfl hl.1 rfl (Nat.le_of_ble_eq_true rfl) ⟨rfl, rfl⟩ ⟨Nat.le_of_ble_eq_true rfl, Nat.le_of_ble_eq_true rfl⟩ ⟨Nat.le_of_ble_eq_true rfl, Nat.le_of_ble_eq_true rfl⟩ dX9_removeMeasure_2 htab hlocks hQ
  refine zRV F (k_X9_requireMeasure l N g a_this a_score a_history a_text a_sentence a_reader a_sounds a_playing a_score_cells v_score_size x1 _ hr1_) zy_X9_requireMeasure zw_534 hP hD hS [0, 3] rfl rfl (q0 := 0) (he := rfl) (hc := rfl) (rest := []) rfl hl.1 rfl (Nat.le_of_ble_eq_true rfl) ⟨rfl, rfl⟩ ⟨Nat.le_of_ble_eq_true rfl, Nat.le_of_ble_eq_true rfl⟩ ⟨Nat.zero_le _, Nat.zero_le _⟩ dX9_removeMeasure_2 (st1 := []) rfl ?_
  refine lv_aload_n hx hb dX9_removeMeasure_5 rfl (lv_at hl 0 rfl) ?_
  refine z_get (C := RX9) (T := TX9) (N := 7) (ci := 7) F zu_wsX90 hP 0 rfl rfl 1 (by decide) zw_481 rfl dX9_removeMeasure_6 ?_
  refine lv_aload_n hx hb dX9_removeMeasure_9 rfl (lv_at hl 0 rfl) ?_
  refine z_get (C := RX9) (T := TX9) (N := 7) (ci := 7) F zu_wsX90 hP 0 rfl rfl 0 (by decide) zw_478 rfl dX9_removeMeasure_10 ?_
  obtain ⟨r2_, hr2_, h⟩ := z_bind h
  refine zVV F (k_X1_push l N g a_history a_history_saved a_history_s0 a_history_s1 a_history_s2 a_history_s3 a_history_s0_cells a_history_s1_cells a_history_s2_cells a_history_s3_cells a_score a_score_cells v_history_next v_history_size v_history_s0_size v_history_s1_size v_history_s2_size v_history_s3_size v_history_s0_cells v_history_s1_cells v_history_s2_cells v_history_s3_cells v_score_size v_score_cells _ hr2_) zy_X1_push zw_520 hP hD hS [1, 5, 6, 7, 8, 9, 14, 15, 16, 17, 3, 11] [0, 2, 4, 10, 12, 13] [0, 6, 1, 16, 2, 7, 8, 9, 10, 11, 3, 17, 4, 5, 12, 13, 14, 15] (wr := [zo_X9 a_this a_score a_history a_text a_sentence a_reader a_sounds a_playing, zo_X2 a_playing a_playing_places v_playing_size, zo_X6 a_sounds a_score a_sounds_shifts a_sounds_heldTicks, (a_playing_places, .inl (zI g, 200, .inl v_playing_places)), (a_sounds_heldTicks, .inl (zI g, 768, .inl v_sounds_heldTicks)), (a_sounds_shifts, .inl (zI g, 768, .inl v_sounds_shifts))]) (W1 := [zo_X9 a_this a_score a_history a_text a_sentence a_reader a_sounds a_playing, zo_X1 a_history a_history_saved r2_.2.1 r2_.1, zo_X2 a_playing a_playing_places v_playing_size, zo_X4 a_score a_score_cells v_score_size, zo_X6 a_sounds a_score a_sounds_shifts a_sounds_heldTicks, zo_X4 a_history_s0 a_history_s0_cells r2_.2.2.1, zo_X4 a_history_s1 a_history_s1_cells r2_.2.2.2.1, zo_X4 a_history_s2 a_history_s2_cells r2_.2.2.2.2.1, zo_X4 a_history_s3 a_history_s3_cells r2_.2.2.2.2.2.1, (a_history_saved, .inl (zO g, 4, .inr (.inr (.inr (.inr (zSv a_history_s0 a_history_s1 a_history_s2 a_history_s3)))))), (a_playing_places, .inl (zI g, 200, .inl v_playing_places)), (a_score_cells, .inl (zI g, 912, .inl v_score_cells)), (a_sounds_heldTicks, .inl (zI g, 768, .inl v_sounds_heldTicks)), (a_sounds_shifts, .inl (zI g, 768, .inl v_sounds_shifts)), (a_history_s0_cells, .inl (zI g, 912, .inl r2_.2.2.2.2.2.2.1)), (a_history_s1_cells, .inl (zI g, 912, .inl r2_.2.2.2.2.2.2.2.1)), (a_history_s2_cells, .inl (zI g, 912, .inl r2_.2.2.2.2.2.2.2.2.1)), (a_history_s3_cells, .inl (zI g, 912, .inl r2_.2.2.2.2.2.2.2.2.2))]) rfl rfl rfl rfl (by decide) rfl rfl (q0 := 1) (he := rfl) (hc := rfl) (rest := []) rfl hl.1 rfl (Nat.le_of_ble_eq_true rfl) ⟨rfl, rfl⟩ ⟨Nat.le_of_ble_eq_true rfl, Nat.le_of_ble_eq_true rfl⟩ ⟨Nat.zero_le _, Nat.zero_le _⟩ dX9_removeMeasure_13 (st1 := []) rfl (fun H locs hP hD hS => ?_)
  refine lv_aload_n hx hb dX9_removeMeasure_16 rfl (lv_at hl 0 rfl) ?_
  refine z_get (C := RX9) (T := TX9) (N := 7) (ci := 7) F zu_wsX90 hP 0 rfl rfl 0 (by decide) zw_478 rfl dX9_removeMeasure_17 ?_
  refine lv_iload_n hx hb dX9_removeMeasure_20 rfl (lv_at hl 1 rfl) ?_
  obtain ⟨r3_, hr3_, h⟩ := z_bind h
  refine zVV F (k_X4_dropMeasure l N g a_score a_score_cells v_score_size v_score_cells x1 _ hr3_) zy_X4_dropMeasure zw_537 hP hD hS [3, 11] [0, 1, 2, 4, 5, 6, 7, 8, 9, 10, 12, 13, 14, 15, 16, 17] [0, 1, 2, 16, 3, 4, 5, 6, 7, 8, 9, 17, 10, 11, 12, 13, 14, 15] (wr := [zo_X9 a_this a_score a_history a_text a_sentence a_reader a_sounds a_playing, zo_X1 a_history a_history_saved r2_.2.1 r2_.1, zo_X2 a_playing a_playing_places v_playing_size, zo_X6 a_sounds a_score a_sounds_shifts a_sounds_heldTicks, zo_X4 a_history_s0 a_history_s0_cells r2_.2.2.1, zo_X4 a_history_s1 a_history_s1_cells r2_.2.2.2.1, zo_X4 a_history_s2 a_history_s2_cells r2_.2.2.2.2.1, zo_X4 a_history_s3 a_history_s3_cells r2_.2.2.2.2.2.1, (a_history_saved, .inl (zO g, 4, .inr (.inr (.inr (.inr (zSv a_history_s0 a_history_s1 a_history_s2 a_history_s3)))))), (a_playing_places, .inl (zI g, 200, .inl v_playing_places)), (a_sounds_heldTicks, .inl (zI g, 768, .inl v_sounds_heldTicks)), (a_sounds_shifts, .inl (zI g, 768, .inl v_sounds_shifts)), (a_history_s0_cells, .inl (zI g, 912, .inl r2_.2.2.2.2.2.2.1)), (a_history_s1_cells, .inl (zI g, 912, .inl r2_.2.2.2.2.2.2.2.1)), (a_history_s2_cells, .inl (zI g, 912, .inl r2_.2.2.2.2.2.2.2.2.1)), (a_history_s3_cells, .inl (zI g, 912, .inl r2_.2.2.2.2.2.2.2.2.2))]) (W1 := [zo_X9 a_this a_score a_history a_text a_sentence a_reader a_sounds a_playing, zo_X1 a_history a_history_saved r2_.2.1 r2_.1, zo_X2 a_playing a_playing_places v_playing_size, zo_X4 a_score a_score_cells r3_.1, zo_X6 a_sounds a_score a_sounds_shifts a_sounds_heldTicks, zo_X4 a_history_s0 a_history_s0_cells r2_.2.2.1, zo_X4 a_history_s1 a_history_s1_cells r2_.2.2.2.1, zo_X4 a_history_s2 a_history_s2_cells r2_.2.2.2.2.1, zo_X4 a_history_s3 a_history_s3_cells r2_.2.2.2.2.2.1, (a_history_saved, .inl (zO g, 4, .inr (.inr (.inr (.inr (zSv a_history_s0 a_history_s1 a_history_s2 a_history_s3)))))), (a_playing_places, .inl (zI g, 200, .inl v_playing_places)), (a_score_cells, .inl (zI g, 912, .inl r3_.2)), (a_sounds_heldTicks, .inl (zI g, 768, .inl v_sounds_heldTicks)), (a_sounds_shifts, .inl (zI g, 768, .inl v_sounds_shifts)), (a_history_s0_cells, .inl (zI g, 912, .inl r2_.2.2.2.2.2.2.1)), (a_history_s1_cells, .inl (zI g, 912, .inl r2_.2.2.2.2.2.2.2.1)), (a_history_s2_cells, .inl (zI g, 912, .inl r2_.2.2.2.2.2.2.2.2.1)), (a_history_s3_cells, .inl (zI g, 912, .inl r2_.2.2.2.2.2.2.2.2.2))]) rfl rfl rfl rfl (by decide) rfl rfl (q0 := 3) (he := rfl) (hc := rfl) (rest := []) rfl hl.1 rfl (Nat.le_of_ble_eq_true rfl) ⟨rfl, rfl⟩ ⟨Nat.le_of_ble_eq_true rfl, Nat.le_of_ble_eq_true rfl⟩ ⟨Nat.zero_le _, Nat.zero_le _⟩ dX9_removeMeasure_21 (st1 := []) rfl (fun H locs hP hD hS => ?_)
  refine lv_aload_n hx hb dX9_removeMeasure_24 rfl (lv_at hl 0 rfl) ?_
  obtain ⟨r4_, hr4_, h⟩ := z_bind h
  refine zVV F (k_X9_settle l N g a_this a_score a_history a_text a_sentence a_reader a_sounds a_playing a_playing_places a_score_cells a_sounds_shifts a_sounds_heldTicks v_playing_size r3_.1 v_playing_places r3_.2 v_sounds_heldTicks v_sounds_shifts _ hr4_) zy_X9_settle zw_524 hP hD hS [0, 2, 3, 4, 10, 11, 12, 13] [1, 5, 6, 7, 8, 9, 14, 15, 16, 17] [10, 0, 11, 12, 13, 1, 2, 3, 4, 5, 14, 15, 16, 17, 6, 7, 8, 9] (wr := [zo_X1 a_history a_history_saved r2_.2.1 r2_.1, zo_X4 a_history_s0 a_history_s0_cells r2_.2.2.1, zo_X4 a_history_s1 a_history_s1_cells r2_.2.2.2.1, zo_X4 a_history_s2 a_history_s2_cells r2_.2.2.2.2.1, zo_X4 a_history_s3 a_history_s3_cells r2_.2.2.2.2.2.1, (a_history_saved, .inl (zO g, 4, .inr (.inr (.inr (.inr (zSv a_history_s0 a_history_s1 a_history_s2 a_history_s3)))))), (a_history_s0_cells, .inl (zI g, 912, .inl r2_.2.2.2.2.2.2.1)), (a_history_s1_cells, .inl (zI g, 912, .inl r2_.2.2.2.2.2.2.2.1)), (a_history_s2_cells, .inl (zI g, 912, .inl r2_.2.2.2.2.2.2.2.2.1)), (a_history_s3_cells, .inl (zI g, 912, .inl r2_.2.2.2.2.2.2.2.2.2))]) (W1 := [zo_X9 a_this a_score a_history a_text a_sentence a_reader a_sounds a_playing, zo_X1 a_history a_history_saved r2_.2.1 r2_.1, zo_X2 a_playing a_playing_places r4_.1, zo_X4 a_score a_score_cells r3_.1, zo_X6 a_sounds a_score a_sounds_shifts a_sounds_heldTicks, zo_X4 a_history_s0 a_history_s0_cells r2_.2.2.1, zo_X4 a_history_s1 a_history_s1_cells r2_.2.2.2.1, zo_X4 a_history_s2 a_history_s2_cells r2_.2.2.2.2.1, zo_X4 a_history_s3 a_history_s3_cells r2_.2.2.2.2.2.1, (a_history_saved, .inl (zO g, 4, .inr (.inr (.inr (.inr (zSv a_history_s0 a_history_s1 a_history_s2 a_history_s3)))))), (a_playing_places, .inl (zI g, 200, .inl r4_.2.1)), (a_score_cells, .inl (zI g, 912, .inl r3_.2)), (a_sounds_heldTicks, .inl (zI g, 768, .inl r4_.2.2.1)), (a_sounds_shifts, .inl (zI g, 768, .inl r4_.2.2.2)), (a_history_s0_cells, .inl (zI g, 912, .inl r2_.2.2.2.2.2.2.1)), (a_history_s1_cells, .inl (zI g, 912, .inl r2_.2.2.2.2.2.2.2.1)), (a_history_s2_cells, .inl (zI g, 912, .inl r2_.2.2.2.2.2.2.2.2.1)), (a_history_s3_cells, .inl (zI g, 912, .inl r2_.2.2.2.2.2.2.2.2.2))]) rfl rfl rfl rfl (by decide) rfl rfl (q0 := 0) (he := rfl) (hc := rfl) (rest := []) rfl hl.1 rfl (Nat.le_of_ble_eq_true rfl) ⟨rfl, rfl⟩ ⟨Nat.le_of_ble_eq_true rfl, Nat.le_of_ble_eq_true rfl⟩ ⟨Nat.zero_le _, Nat.zero_le _⟩ dX9_removeMeasure_25 (st1 := []) rfl (fun H locs hP hD hS => ?_)
  refine lv_aload_n hx hb dX9_removeMeasure_28 rfl (lv_at hl 0 rfl) ?_
  refine z_get (C := RX9) (T := TX9) (N := 7) (ci := 7) F zu_wsX90 hP 0 rfl rfl 0 (by decide) zw_478 rfl dX9_removeMeasure_29 ?_
  obtain ⟨r5_, hr5_, h⟩ := z_bind h
  refine zRV F (k_X4_size l N g a_score a_score_cells r3_.1 _ hr5_) zy_X4_size zw_528 hP hD hS [3] rfl rfl (q0 := 3) (he := rfl) (hc := rfl) (rest := []) rfl hl.1 rfl (Nat.le_of_ble_eq_true rfl) ⟨rfl, rfl⟩ ⟨Nat.le_of_ble_eq_true rfl, Nat.le_of_ble_eq_true rfl⟩ ⟨Nat.zero_le _, Nat.zero_le _⟩ dX9_removeMeasure_32 (st1 := [.int r5_]) rfl ?_
  cases h
def f_X9_set (N : Nat) (v_history_next : Int32) (v_history_size : Int32) (v_playing_size : Int32) (v_score_size : Int32) (v_history_s0_size : Int32) (v_history_s1_size : Int32) (v_history_s2_size : Int32) (v_history_s3_size : Int32) (v_playing_places : Nat → Int32) (v_score_cells : Nat → Int32) (v_sounds_heldTicks : Nat → Int32) (v_sounds_shifts : Nat → Int32) (v_history_s0_cells : Nat → Int32) (v_history_s1_cells : Nat → Int32) (v_history_s2_cells : Nat → Int32) (v_history_s3_cells : Nat → Int32) (x1 : Int32) (x2 : Int32) (x3 : Int32) : Option ((Int32 × Int32 × Int32 × Int32 × Int32 × Int32 × Int32 × Int32 × (Nat → Int32) × (Nat → Int32) × (Nat → Int32) × (Nat → Int32) × (Nat → Int32) × (Nat → Int32) × (Nat → Int32) × (Nat → Int32)) ⊕ Nat) :=
  zSub (f_X9_requireMeasure N v_score_size x1) (fun (r1_ : Unit) => Option.bind (f_X4_canHold N x2 x3) (fun (r2_ : Int32) => if r2_ = 0 then some (Sum.inr 1) else Option.bind (f_X1_push N v_history_next v_history_size v_history_s0_size v_history_s1_size v_history_s2_size v_history_s3_size v_history_s0_cells v_history_s1_cells v_history_s2_cells v_history_s3_cells v_score_size v_score_cells) (fun (r3_ : Int32 × Int32 × Int32 × Int32 × Int32 × Int32 × (Nat → Int32) × (Nat → Int32) × (Nat → Int32) × (Nat → Int32)) => Option.bind (f_X4_value N v_score_size v_score_cells x1 x2) (fun (r4_ : Int32) => Option.bind (f_X4_putValue N v_score_size v_score_cells x1 x2 x3) (fun (r5_ : (Nat → Int32)) => Option.bind (f_X9_settle N v_playing_size v_score_size v_playing_places r5_ v_sounds_heldTicks v_sounds_shifts) (fun (r6_ : Int32 × (Nat → Int32) × (Nat → Int32) × (Nat → Int32)) => some (Sum.inl (r4_, r3_.1, r3_.2.1, r6_.1, r3_.2.2.1, r3_.2.2.2.1, r3_.2.2.2.2.1, r3_.2.2.2.2.2.1, r6_.2.1, r5_, r6_.2.2.1, r6_.2.2.2, r3_.2.2.2.2.2.2.1, r3_.2.2.2.2.2.2.2.1, r3_.2.2.2.2.2.2.2.2.1, r3_.2.2.2.2.2.2.2.2.2))))))))
abbrev rm_X9_set : Room := { frames := 7, cells := 0, slots := 0, locals := 170 }
theorem zy_X9_set : zYv yX9_set RX9 cX9_set 5 (some .int) 3 := ⟨zw_770, zw_771, zw_527, zw_546, ⟨by decide, by decide⟩, by decide +kernel⟩
set_option maxHeartbeats 4000000 in
set_option maxRecDepth 100000 in
theorem k_X9_set (l : Launch) (N : Nat) (g : zEnv) (a_this a_score a_history a_text a_sentence a_reader a_sounds a_playing a_history_saved a_history_s0 a_history_s1 a_history_s2 a_history_s3 a_playing_places a_score_cells a_sounds_shifts a_sounds_heldTicks a_history_s0_cells a_history_s1_cells a_history_s2_cells a_history_s3_cells : Nat) (v_history_next : Int32) (v_history_size : Int32) (v_playing_size : Int32) (v_score_size : Int32) (v_history_s0_size : Int32) (v_history_s1_size : Int32) (v_history_s2_size : Int32) (v_history_s3_size : Int32) (v_playing_places : Nat → Int32) (v_score_cells : Nat → Int32) (v_sounds_heldTicks : Nat → Int32) (v_sounds_shifts : Nat → Int32) (v_history_s0_cells : Nat → Int32) (v_history_s1_cells : Nat → Int32) (v_history_s2_cells : Nat → Int32) (v_history_s3_cells : Nat → Int32) (x1 : Int32) (x2 : Int32) (x3 : Int32) (r : Int32 × Int32 × Int32 × Int32 × Int32 × Int32 × Int32 × Int32 × (Nat → Int32) × (Nat → Int32) × (Nat → Int32) × (Nat → Int32) × (Nat → Int32) × (Nat → Int32) × (Nat → Int32) × (Nat → Int32)) (h : f_X9_set N v_history_next v_history_size v_playing_size v_score_size v_history_s0_size v_history_s1_size v_history_s2_size v_history_s3_size v_playing_places v_score_cells v_sounds_heldTicks v_sounds_shifts v_history_s0_cells v_history_s1_cells v_history_s2_cells v_history_s3_cells x1 x2 x3 = some (Sum.inl r)) : ZV l yX9_set cX9_set 5 (some .int) rm_X9_set g [.ref a_this, .int x1, .int x2, .int x3] [zo_X9 a_this a_score a_history a_text a_sentence a_reader a_sounds a_playing, zo_X1 a_history a_history_saved v_history_size v_history_next, zo_X2 a_playing a_playing_places v_playing_size, zo_X4 a_score a_score_cells v_score_size, zo_X6 a_sounds a_score a_sounds_shifts a_sounds_heldTicks, zo_X4 a_history_s0 a_history_s0_cells v_history_s0_size, zo_X4 a_history_s1 a_history_s1_cells v_history_s1_size, zo_X4 a_history_s2 a_history_s2_cells v_history_s2_size, zo_X4 a_history_s3 a_history_s3_cells v_history_s3_size, (a_history_saved, .inl (zO g, 4, .inr (.inr (.inr (.inr (zSv a_history_s0 a_history_s1 a_history_s2 a_history_s3)))))), (a_playing_places, .inl (zI g, 200, .inl v_playing_places)), (a_score_cells, .inl (zI g, 912, .inl v_score_cells)), (a_sounds_heldTicks, .inl (zI g, 768, .inl v_sounds_heldTicks)), (a_sounds_shifts, .inl (zI g, 768, .inl v_sounds_shifts)), (a_history_s0_cells, .inl (zI g, 912, .inl v_history_s0_cells)), (a_history_s1_cells, .inl (zI g, 912, .inl v_history_s1_cells)), (a_history_s2_cells, .inl (zI g, 912, .inl v_history_s2_cells)), (a_history_s3_cells, .inl (zI g, 912, .inl v_history_s3_cells))] [zo_X9 a_this a_score a_history a_text a_sentence a_reader a_sounds a_playing, zo_X1 a_history a_history_saved r.2.2.1 r.2.1, zo_X2 a_playing a_playing_places r.2.2.2.1, zo_X4 a_score a_score_cells v_score_size, zo_X6 a_sounds a_score a_sounds_shifts a_sounds_heldTicks, zo_X4 a_history_s0 a_history_s0_cells r.2.2.2.2.1, zo_X4 a_history_s1 a_history_s1_cells r.2.2.2.2.2.1, zo_X4 a_history_s2 a_history_s2_cells r.2.2.2.2.2.2.1, zo_X4 a_history_s3 a_history_s3_cells r.2.2.2.2.2.2.2.1, (a_history_saved, .inl (zO g, 4, .inr (.inr (.inr (.inr (zSv a_history_s0 a_history_s1 a_history_s2 a_history_s3)))))), (a_playing_places, .inl (zI g, 200, .inl r.2.2.2.2.2.2.2.2.1)), (a_score_cells, .inl (zI g, 912, .inl r.2.2.2.2.2.2.2.2.2.1)), (a_sounds_heldTicks, .inl (zI g, 768, .inl r.2.2.2.2.2.2.2.2.2.2.1)), (a_sounds_shifts, .inl (zI g, 768, .inl r.2.2.2.2.2.2.2.2.2.2.2.1)), (a_history_s0_cells, .inl (zI g, 912, .inl r.2.2.2.2.2.2.2.2.2.2.2.2.1)), (a_history_s1_cells, .inl (zI g, 912, .inl r.2.2.2.2.2.2.2.2.2.2.2.2.2.1)), (a_history_s2_cells, .inl (zI g, 912, .inl r.2.2.2.2.2.2.2.2.2.2.2.2.2.2.1)), (a_history_s3_cells, .inl (zI g, 912, .inl r.2.2.2.2.2.2.2.2.2.2.2.2.2.2.2))] (some (.int r.1)) := by
  refine zV_of (by decide) (Nat.le_of_ble_eq_true rfl) ?_
  intro p e s m below meth c A H locs ls Q R F hRm hr hlocks hP hD hS hl hQ
  subst hRm
  have F : zF p m c cX9_set 5 s (([.ref a_this, .int x1, .int x2, .int x3] : List Value)).toArray RX9 g A := F
  have hx := F.1.1
  have hb := F.1.2.1
  have hz := F.1.2.2.2.2
  have hl : lv_has ls 5 [(0, .ref a_this), (1, .int x1), (2, .int x2), (3, .int x3)] := hl
  unfold f_X9_set at h
  refine lv_aload_n hx hb dX9_set_0 rfl (lv_at hl 0 rfl) ?_
  refine lv_iload_n hx hb dX9_set_1 rfl (lv_at hl 1 rfl) ?_
  obtain ⟨r1_, hr1_, h⟩ := z_subL h
  refine zRV F (k_X9_requireMeasure l N g a_this a_score a_history a_text a_sentence a_reader a_sounds a_playing a_score_cells v_score_size x1 _ hr1_) zy_X9_requireMeasure zw_534 hP hD hS [0, 3] rfl rfl (q0 := 0) (he := rfl) (hc := rfl) (rest := []) rfl hl.1 rfl (Nat.le_of_ble_eq_true rfl) ⟨rfl, rfl⟩ ⟨Nat.le_of_ble_eq_true rfl, Nat.le_of_ble_eq_true rfl⟩ ⟨Nat.zero_le _, Nat.zero_le _⟩ dX9_set_2 (st1 := []) rfl ?_
  refine lv_iload_n hx hb dX9_set_5 rfl (lv_at hl 2 rfl) ?_
  refine lv_iload_n hx hb dX9_set_6 rfl (lv_at hl 3 rfl) ?_
  obtain ⟨r2_, hr2_, h⟩ := z_bind h
  refine zRS F (k_X4_canHold l N g x2 x3 _ hr2_) zy_X4_canHold zw_543 hP hD hS [] rfl rfl (rest := []) rfl hl.1 rfl (Nat.le_of_ble_eq_true rfl) ⟨rfl, rfl⟩ ⟨Nat.le_of_ble_eq_true rfl, Nat.le_of_ble_eq_true rfl⟩ ⟨Nat.zero_le _, Nat.zero_le _⟩ dX9_set_7 (st1 := [.int r2_]) rfl ?_
  refine z_ne (tgt := 23) hx hb dX9_set_10 (by decide) h (fun h => ?_) (fun h => ?_)
  · refine lv_aload_n hx hb dX9_set_23 rfl (lv_at hl 0 rfl) ?_
    refine z_get (C := RX9) (T := TX9) (N := 7) (ci := 7) F zu_wsX90 hP 0 rfl rfl 1 (by decide) zw_481 rfl dX9_set_24 ?_
    refine lv_aload_n hx hb dX9_set_27 rfl (lv_at hl 0 rfl) ?_
    refine z_get (C := RX9) (T := TX9) (N := 7) (ci := 7) F zu_wsX90 hP 0 rfl rfl 0 (by decide) zw_478 rfl dX9_set_28 ?_
    obtain ⟨r3_, hr3_, h⟩ := z_bind h
    refine zVV F (k_X1_push l N g a_history a_history_saved a_history_s0 a_history_s1 a_history_s2 a_history_s3 a_history_s0_cells a_history_s1_cells a_history_s2_cells a_history_s3_cells a_score a_score_cells v_history_next v_history_size v_history_s0_size v_history_s1_size v_history_s2_size v_history_s3_size v_history_s0_cells v_history_s1_cells v_history_s2_cells v_history_s3_cells v_score_size v_score_cells _ hr3_) zy_X1_push zw_520 hP hD hS [1, 5, 6, 7, 8, 9, 14, 15, 16, 17, 3, 11] [0, 2, 4, 10, 12, 13] [0, 6, 1, 16, 2, 7, 8, 9, 10, 11, 3, 17, 4, 5, 12, 13, 14, 15] (wr := [zo_X9 a_this a_score a_history a_text a_sentence a_reader a_sounds a_playing, zo_X2 a_playing a_playing_places v_playing_size, zo_X6 a_sounds a_score a_sounds_shifts a_sounds_heldTicks, (a_playing_places, .inl (zI g, 200, .inl v_playing_places)), (a_sounds_heldTicks, .inl (zI g, 768, .inl v_sounds_heldTicks)), (a_sounds_shifts, .inl (zI g, 768, .inl v_sounds_shifts))]) (W1 := [zo_X9 a_this a_score a_history a_text a_sentence a_reader a_sounds a_playing, zo_X1 a_history a_history_saved r3_.2.1 r3_.1, zo_X2 a_playing a_playing_places v_playing_size, zo_X4 a_score a_score_cells v_score_size, zo_X6 a_sounds a_score a_sounds_shifts a_sounds_heldTicks, zo_X4 a_history_s0 a_history_s0_cells r3_.2.2.1, zo_X4 a_history_s1 a_history_s1_cells r3_.2.2.2.1, zo_X4 a_history_s2 a_history_s2_cells r3_.2.2.2.2.1, zo_X4 a_history_s3 a_history_s3_cells r3_.2.2.2.2.2.1, (a_history_saved, .inl (zO g, 4, .inr (.inr (.inr (.inr (zSv a_history_s0 a_history_s1 a_history_s2 a_history_s3)))))), (a_playing_places, .inl (zI g, 200, .inl v_playing_places)), (a_score_cells, .inl (zI g, 912, .inl v_score_cells)), (a_sounds_heldTicks, .inl (zI g, 768, .inl v_sounds_heldTicks)), (a_sounds_shifts, .inl (zI g, 768, .inl v_sounds_shifts)), (a_history_s0_cells, .inl (zI g, 912, .inl r3_.2.2.2.2.2.2.1)), (a_history_s1_cells, .inl (zI g, 912, .inl r3_.2.2.2.2.2.2.2.1)), (a_history_s2_cells, .inl (zI g, 912, .inl r3_.2.2.2.2.2.2.2.2.1)), (a_history_s3_cells, .inl (zI g, 912, .inl r3_.2.2.2.2.2.2.2.2.2))]) rfl rfl rfl rfl (by decide) rfl rfl (q0 := 1) (he := rfl) (hc := rfl) (rest := []) rfl hl.1 rfl (Nat.le_of_ble_eq_true rfl) ⟨rfl, rfl⟩ ⟨Nat.le_of_ble_eq_true rfl, Nat.le_of_ble_eq_true rfl⟩ ⟨Nat.zero_le _, Nat.zero_le _⟩ dX9_set_31 (st1 := []) rfl (fun H locs hP hD hS => ?_)
    refine lv_aload_n hx hb dX9_set_34 rfl (lv_at hl 0 rfl) ?_
    refine z_get (C := RX9) (T := TX9) (N := 7) (ci := 7) F zu_wsX90 hP 0 rfl rfl 0 (by decide) zw_478 rfl dX9_set_35 ?_
    refine lv_iload_n hx hb dX9_set_38 rfl (lv_at hl 1 rfl) ?_
    refine lv_iload_n hx hb dX9_set_39 rfl (lv_at hl 2 rfl) ?_
    obtain ⟨r4_, hr4_, h⟩ := z_bind h
    refine zRV F (k_X4_value l N g a_score a_score_cells v_score_size v_score_cells x1 x2 _ hr4_) zy_X4_value zw_544 hP hD hS [3, 11] rfl rfl (q0 := 3) (he := rfl) (hc := rfl) (rest := []) rfl hl.1 rfl (Nat.le_of_ble_eq_true rfl) ⟨rfl, rfl⟩ ⟨Nat.le_of_ble_eq_true rfl, Nat.le_of_ble_eq_true rfl⟩ ⟨Nat.zero_le _, Nat.zero_le _⟩ dX9_set_40 (st1 := [.int r4_]) rfl ?_
    refine lv_istore (lv' := [(4, .int r4_), (0, .ref a_this), (1, .int x1), (2, .int x2), (3, .int x3)]) hx hb dX9_set_43 hl (by decide) rfl (fun ls hl => ?_)
    refine lv_aload_n hx hb dX9_set_45 rfl (lv_at hl 1 rfl) ?_
    refine z_get (C := RX9) (T := TX9) (N := 7) (ci := 7) F zu_wsX90 hP 0 rfl rfl 0 (by decide) zw_478 rfl dX9_set_46 ?_
    refine lv_iload_n hx hb dX9_set_49 rfl (lv_at hl 2 rfl) ?_
    refine lv_iload_n hx hb dX9_set_50 rfl (lv_at hl 3 rfl) ?_
    refine lv_iload_n hx hb dX9_set_51 rfl (lv_at hl 4 rfl) ?_
    obtain ⟨r5_, hr5_, h⟩ := z_bind h
    refine zVV F (k_X4_putValue l N g a_score a_score_cells v_score_size v_score_cells x1 x2 x3 _ hr5_) zy_X4_putValue zw_545 hP hD hS [3, 11] [0, 1, 2, 4, 5, 6, 7, 8, 9, 10, 12, 13, 14, 15, 16, 17] [0, 1, 2, 16, 3, 4, 5, 6, 7, 8, 9, 17, 10, 11, 12, 13, 14, 15] (wr := [zo_X9 a_this a_score a_history a_text a_sentence a_reader a_sounds a_playing, zo_X1 a_history a_history_saved r3_.2.1 r3_.1, zo_X2 a_playing a_playing_places v_playing_size, zo_X6 a_sounds a_score a_sounds_shifts a_sounds_heldTicks, zo_X4 a_history_s0 a_history_s0_cells r3_.2.2.1, zo_X4 a_history_s1 a_history_s1_cells r3_.2.2.2.1, zo_X4 a_history_s2 a_history_s2_cells r3_.2.2.2.2.1, zo_X4 a_history_s3 a_history_s3_cells r3_.2.2.2.2.2.1, (a_history_saved, .inl (zO g, 4, .inr (.inr (.inr (.inr (zSv a_history_s0 a_history_s1 a_history_s2 a_history_s3)))))), (a_playing_places, .inl (zI g, 200, .inl v_playing_places)), (a_sounds_heldTicks, .inl (zI g, 768, .inl v_sounds_heldTicks)), (a_sounds_shifts, .inl (zI g, 768, .inl v_sounds_shifts)), (a_history_s0_cells, .inl (zI g, 912, .inl r3_.2.2.2.2.2.2.1)), (a_history_s1_cells, .inl (zI g, 912, .inl r3_.2.2.2.2.2.2.2.1)), (a_history_s2_cells, .inl (zI g, 912, .inl r3_.2.2.2.2.2.2.2.2.1)), (a_history_s3_cells, .inl (zI g, 912, .inl r3_.2.2.2.2.2.2.2.2.2))]) (W1 := [zo_X9 a_this a_score a_history a_text a_sentence a_reader a_sounds a_playing, zo_X1 a_history a_history_saved r3_.2.1 r3_.1, zo_X2 a_playing a_playing_places v_playing_size, zo_X4 a_score a_score_cells v_score_size, zo_X6 a_sounds a_score a_sounds_shifts a_sounds_heldTicks, zo_X4 a_history_s0 a_history_s0_cells r3_.2.2.1, zo_X4 a_history_s1 a_history_s1_cells r3_.2.2.2.1, zo_X4 a_history_s2 a_history_s2_cells r3_.2.2.2.2.1, zo_X4 a_history_s3 a_history_s3_cells r3_.2.2.2.2.2.1, (a_history_saved, .inl (zO g, 4, .inr (.inr (.inr (.inr (zSv a_history_s0 a_history_s1 a_history_s2 a_history_s3)))))), (a_playing_places, .inl (zI g, 200, .inl v_playing_places)), (a_score_cells, .inl (zI g, 912, .inl r5_)), (a_sounds_heldTicks, .inl (zI g, 768, .inl v_sounds_heldTicks)), (a_sounds_shifts, .inl (zI g, 768, .inl v_sounds_shifts)), (a_history_s0_cells, .inl (zI g, 912, .inl r3_.2.2.2.2.2.2.1)), (a_history_s1_cells, .inl (zI g, 912, .inl r3_.2.2.2.2.2.2.2.1)), (a_history_s2_cells, .inl (zI g, 912, .inl r3_.2.2.2.2.2.2.2.2.1)), (a_history_s3_cells, .inl (zI g, 912, .inl r3_.2.2.2.2.2.2.2.2.2))]) rfl rfl rfl rfl (by decide) rfl rfl (q0 := 3) (he := rfl) (hc := rfl) (rest := []) rfl hl.1 rfl (Nat.le_of_ble_eq_true rfl) ⟨rfl, rfl⟩ ⟨Nat.le_of_ble_eq_true rfl, Nat.le_of_ble_eq_true rfl⟩ ⟨Nat.zero_le _, Nat.zero_le _⟩ dX9_set_52 (st1 := []) rfl (fun H locs hP hD hS => ?_)
    refine lv_aload_n hx hb dX9_set_55 rfl (lv_at hl 1 rfl) ?_
    obtain ⟨r6_, hr6_, h⟩ := z_bind h
    refine zVV F (k_X9_settle l N g a_this a_score a_history a_text a_sentence a_reader a_sounds a_playing a_playing_places a_score_cells a_sounds_shifts a_sounds_heldTicks v_playing_size v_score_size v_playing_places r5_ v_sounds_heldTicks v_sounds_shifts _ hr6_) zy_X9_settle zw_524 hP hD hS [0, 2, 3, 4, 10, 11, 12, 13] [1, 5, 6, 7, 8, 9, 14, 15, 16, 17] [10, 0, 11, 12, 13, 1, 2, 3, 4, 5, 14, 15, 16, 17, 6, 7, 8, 9] (wr := [zo_X1 a_history a_history_saved r3_.2.1 r3_.1, zo_X4 a_history_s0 a_history_s0_cells r3_.2.2.1, zo_X4 a_history_s1 a_history_s1_cells r3_.2.2.2.1, zo_X4 a_history_s2 a_history_s2_cells r3_.2.2.2.2.1, zo_X4 a_history_s3 a_history_s3_cells r3_.2.2.2.2.2.1, (a_history_saved, .inl (zO g, 4, .inr (.inr (.inr (.inr (zSv a_history_s0 a_history_s1 a_history_s2 a_history_s3)))))), (a_history_s0_cells, .inl (zI g, 912, .inl r3_.2.2.2.2.2.2.1)), (a_history_s1_cells, .inl (zI g, 912, .inl r3_.2.2.2.2.2.2.2.1)), (a_history_s2_cells, .inl (zI g, 912, .inl r3_.2.2.2.2.2.2.2.2.1)), (a_history_s3_cells, .inl (zI g, 912, .inl r3_.2.2.2.2.2.2.2.2.2))]) (W1 := [zo_X9 a_this a_score a_history a_text a_sentence a_reader a_sounds a_playing, zo_X1 a_history a_history_saved r3_.2.1 r3_.1, zo_X2 a_playing a_playing_places r6_.1, zo_X4 a_score a_score_cells v_score_size, zo_X6 a_sounds a_score a_sounds_shifts a_sounds_heldTicks, zo_X4 a_history_s0 a_history_s0_cells r3_.2.2.1, zo_X4 a_history_s1 a_history_s1_cells r3_.2.2.2.1, zo_X4 a_history_s2 a_history_s2_cells r3_.2.2.2.2.1, zo_X4 a_history_s3 a_history_s3_cells r3_.2.2.2.2.2.1, (a_history_saved, .inl (zO g, 4, .inr (.inr (.inr (.inr (zSv a_history_s0 a_history_s1 a_history_s2 a_history_s3)))))), (a_playing_places, .inl (zI g, 200, .inl r6_.2.1)), (a_score_cells, .inl (zI g, 912, .inl r5_)), (a_sounds_heldTicks, .inl (zI g, 768, .inl r6_.2.2.1)), (a_sounds_shifts, .inl (zI g, 768, .inl r6_.2.2.2)), (a_history_s0_cells, .inl (zI g, 912, .inl r3_.2.2.2.2.2.2.1)), (a_history_s1_cells, .inl (zI g, 912, .inl r3_.2.2.2.2.2.2.2.1)), (a_history_s2_cells, .inl (zI g, 912, .inl r3_.2.2.2.2.2.2.2.2.1)), (a_history_s3_cells, .inl (zI g, 912, .inl r3_.2.2.2.2.2.2.2.2.2))]) rfl rfl rfl rfl (by decide) rfl rfl (q0 := 0) (he := rfl) (hc := rfl) (rest := []) rfl hl.1 rfl (Nat.le_of_ble_eq_true rfl) ⟨rfl, rfl⟩ ⟨Nat.le_of_ble_eq_true rfl, Nat.le_of_ble_eq_true rfl⟩ ⟨Nat.zero_le _, Nat.zero_le _⟩ dX9_set_56 (st1 := []) rfl (fun H locs hP hD hS => ?_)
    refine lv_iload hx hb dX9_set_59 (lv_at hl 0 rfl) ?_
    obtain rfl := Sum.inl.inj (Option.some.inj h)
    exact zV_i F hr hlocks hQ hP hD hS dX9_set_61
  · cases h
abbrev rx_X9_set : Room := { frames := 7, cells := 1, slots := 6, locals := 170 }
set_option maxHeartbeats 4000000 in
set_option maxRecDepth 100000 in
theorem kx_X9_set (l : Launch) (N : Nat) (g : zEnv) (a_this a_score a_history a_text a_sentence a_reader a_sounds a_playing a_history_saved a_history_s0 a_history_s1 a_history_s2 a_history_s3 a_playing_places a_score_cells a_sounds_shifts a_sounds_heldTicks a_history_s0_cells a_history_s1_cells a_history_s2_cells a_history_s3_cells : Nat) (v_history_next : Int32) (v_history_size : Int32) (v_playing_size : Int32) (v_score_size : Int32) (v_history_s0_size : Int32) (v_history_s1_size : Int32) (v_history_s2_size : Int32) (v_history_s3_size : Int32) (v_playing_places : Nat → Int32) (v_score_cells : Nat → Int32) (v_sounds_heldTicks : Nat → Int32) (v_sounds_shifts : Nat → Int32) (v_history_s0_cells : Nat → Int32) (v_history_s1_cells : Nat → Int32) (v_history_s2_cells : Nat → Int32) (v_history_s3_cells : Nat → Int32) (x1 : Int32) (x2 : Int32) (x3 : Int32) (r : Nat) (h : f_X9_set N v_history_next v_history_size v_playing_size v_score_size v_history_s0_size v_history_s1_size v_history_s2_size v_history_s3_size v_playing_places v_score_cells v_sounds_heldTicks v_sounds_shifts v_history_s0_cells v_history_s1_cells v_history_s2_cells v_history_s3_cells x1 x2 x3 = some (Sum.inr r)) (hfl : l.stackTraces = false) : ZE l yX9_set cX9_set 5 (some .int) rx_X9_set g [.ref a_this, .int x1, .int x2, .int x3] [zo_X9 a_this a_score a_history a_text a_sentence a_reader a_sounds a_playing, zo_X1 a_history a_history_saved v_history_size v_history_next, zo_X2 a_playing a_playing_places v_playing_size, zo_X4 a_score a_score_cells v_score_size, zo_X6 a_sounds a_score a_sounds_shifts a_sounds_heldTicks, zo_X4 a_history_s0 a_history_s0_cells v_history_s0_size, zo_X4 a_history_s1 a_history_s1_cells v_history_s1_size, zo_X4 a_history_s2 a_history_s2_cells v_history_s2_size, zo_X4 a_history_s3 a_history_s3_cells v_history_s3_size, (a_history_saved, .inl (zO g, 4, .inr (.inr (.inr (.inr (zSv a_history_s0 a_history_s1 a_history_s2 a_history_s3)))))), (a_playing_places, .inl (zI g, 200, .inl v_playing_places)), (a_score_cells, .inl (zI g, 912, .inl v_score_cells)), (a_sounds_heldTicks, .inl (zI g, 768, .inl v_sounds_heldTicks)), (a_sounds_shifts, .inl (zI g, 768, .inl v_sounds_shifts)), (a_history_s0_cells, .inl (zI g, 912, .inl v_history_s0_cells)), (a_history_s1_cells, .inl (zI g, 912, .inl v_history_s1_cells)), (a_history_s2_cells, .inl (zI g, 912, .inl v_history_s2_cells)), (a_history_s3_cells, .inl (zI g, 912, .inl v_history_s3_cells))] [zo_X9 a_this a_score a_history a_text a_sentence a_reader a_sounds a_playing, zo_X1 a_history a_history_saved v_history_size v_history_next, zo_X2 a_playing a_playing_places v_playing_size, zo_X4 a_score a_score_cells v_score_size, zo_X6 a_sounds a_score a_sounds_shifts a_sounds_heldTicks, zo_X4 a_history_s0 a_history_s0_cells v_history_s0_size, zo_X4 a_history_s1 a_history_s1_cells v_history_s1_size, zo_X4 a_history_s2 a_history_s2_cells v_history_s2_size, zo_X4 a_history_s3 a_history_s3_cells v_history_s3_size, (a_history_saved, .inl (zO g, 4, .inr (.inr (.inr (.inr (zSv a_history_s0 a_history_s1 a_history_s2 a_history_s3)))))), (a_playing_places, .inl (zI g, 200, .inl v_playing_places)), (a_score_cells, .inl (zI g, 912, .inl v_score_cells)), (a_sounds_heldTicks, .inl (zI g, 768, .inl v_sounds_heldTicks)), (a_sounds_shifts, .inl (zI g, 768, .inl v_sounds_shifts)), (a_history_s0_cells, .inl (zI g, 912, .inl v_history_s0_cells)), (a_history_s1_cells, .inl (zI g, 912, .inl v_history_s1_cells)), (a_history_s2_cells, .inl (zI g, 912, .inl v_history_s2_cells)), (a_history_s3_cells, .inl (zI g, 912, .inl v_history_s3_cells))] r := by
  refine zE_of (by decide) (Nat.le_of_ble_eq_true rfl) ?_
  intro p e s m below meth c A H locs ls Q R F hRm hlocks hN htab hP hD hS hl hQ
  subst hRm
  have F : zF p m c cX9_set 5 s (([.ref a_this, .int x1, .int x2, .int x3] : List Value)).toArray RX9 g A := F
  have hx := F.1.1
  have hb := F.1.2.1
  have hz := F.1.2.2.2.2
  have hl : lv_has ls 5 [(0, .ref a_this), (1, .int x1), (2, .int x2), (3, .int x3)] := hl
  unfold f_X9_set at h
  refine lv_aload_n hx hb dX9_set_0 rfl (lv_at hl 0 rfl) ?_
  refine lv_iload_n hx hb dX9_set_1 rfl (lv_at hl 1 rfl) ?_
  refine z_subR h (fun h => ?_) (fun r1_ hr1_ h => ?_)
  · exact zXV F (kx_X9_requireMeasure l N g a_this a_score a_history a_text a_sentence a_reader a_sounds a_playing a_score_cells v_score_size x1 _ h hfl) hN zy_X9_requireMeasure zw_534 hP hD hS [0, 3] [1, 2, 4, 5, 6, 7, 8, 9, 10, 11, 12, 13, 14, 15, 16, 17] [16, 0, 1, 17, 2, 3, 4, 5, 6, 7, 8, 9, 10, 11, 12, 13, 14, 15] (wr := [zo_X1 a_history a_history_saved v_history_size v_history_next, zo_X2 a_playing a_playing_places v_playing_size, zo_X6 a_sounds a_score a_sounds_shifts a_sounds_heldTicks, zo_X4 a_history_s0 a_history_s0_cells v_history_s0_size, zo_X4 a_history_s1 a_history_s1_cells v_history_s1_size, zo_X4 a_history_s2 a_history_s2_cells v_history_s2_size, zo_X4 a_history_s3 a_history_s3_cells v_history_s3_size, (a_history_saved, .inl (zO g, 4, .inr (.inr (.inr (.inr (zSv a_history_s0 a_history_s1 a_history_s2 a_history_s3)))))), (a_playing_places, .inl (zI g, 200, .inl v_playing_places)), (a_score_cells, .inl (zI g, 912, .inl v_score_cells)), (a_sounds_heldTicks, .inl (zI g, 768, .inl v_sounds_heldTicks)), (a_sounds_shifts, .inl (zI g, 768, .inl v_sounds_shifts)), (a_history_s0_cells, .inl (zI g, 912, .inl v_history_s0_cells)), (a_history_s1_cells, .inl (zI g, 912, .inl v_history_s1_cells)), (a_history_s2_cells, .inl (zI g, 912, .inl v_history_s2_cells)), (a_history_s3_cells, .inl (zI g, 912, .inl v_history_s3_cells))]) (W1 := [zo_X9 a_this a_score a_history a_text a_sentence a_reader a_sounds a_playing, zo_X1 a_history a_history_saved v_history_size v_history_next, zo_X2 a_playing a_playing_places v_playing_size, zo_X4 a_score a_score_cells v_score_size, zo_X6 a_sounds a_score a_sounds_shifts a_sounds_heldTicks, zo_X4 a_history_s0 a_history_s0_cells v_history_s0_size, zo_X4 a_history_s1 a_history_s1_cells v_history_s1_size, zo_X4 a_history_s2 a_history_s2_cells v_history_s2_size, zo_X4 a_history_s3 a_history_s3_cells v_history_s3_size, (a_history_saved, .inl (zO g, 4, .inr (.inr (.inr (.inr (zSv a_history_s0 a_history_s1 a_history_s2 a_history_s3)))))), (a_playing_places, .inl (zI g, 200, .inl v_playing_places)), (a_score_cells, .inl (zI g, 912, .inl v_score_cells)), (a_sounds_heldTicks, .inl (zI g, 768, .inl v_sounds_heldTicks)), (a_sounds_shifts, .inl (zI g, 768, .inl v_sounds_shifts)), (a_history_s0_cells, .inl (zI g, 912, .inl v_history_s0_cells)), (a_history_s1_cells, .inl (zI g, 912, .inl v_history_s1_cells)), (a_history_s2_cells, .inl (zI g, 912, .inl v_history_s2_cells)), (a_history_s3_cells, .inl (zI g, 912, .inl v_history_s3_cells))]) rfl rfl rfl rfl (by decide) rfl rfl (q0 := 0) (he := rfl) (hc := rfl) (rest := []) rfl hl.1 rfl (Nat.le_of_ble_eq_true rfl) ⟨rfl, rfl⟩ ⟨Nat.le_of_ble_eq_true rfl, Nat.le_of_ble_eq_true rfl⟩ ⟨Nat.le_of_ble_eq_true rfl, Nat.le_of_ble_eq_true rfl⟩ dX9_set_2 htab hlocks hQ
  refine zRV F (k_X9_requireMeasure l N g a_this a_score a_history a_text a_sentence a_reader a_sounds a_playing a_score_cells v_score_size x1 _ hr1_) zy_X9_requireMeasure zw_534 hP hD hS [0, 3] rfl rfl (q0 := 0) (he := rfl) (hc := rfl) (rest := []) rfl hl.1 rfl (Nat.le_of_ble_eq_true rfl) ⟨rfl, rfl⟩ ⟨Nat.le_of_ble_eq_true rfl, Nat.le_of_ble_eq_true rfl⟩ ⟨Nat.zero_le _, Nat.zero_le _⟩ dX9_set_2 (st1 := []) rfl ?_
  refine lv_iload_n hx hb dX9_set_5 rfl (lv_at hl 2 rfl) ?_
  refine lv_iload_n hx hb dX9_set_6 rfl (lv_at hl 3 rfl) ?_
  obtain ⟨r2_, hr2_, h⟩ := z_bind h
  refine zRS F (k_X4_canHold l N g x2 x3 _ hr2_) zy_X4_canHold zw_543 hP hD hS [] rfl rfl (rest := []) rfl hl.1 rfl (Nat.le_of_ble_eq_true rfl) ⟨rfl, rfl⟩ ⟨Nat.le_of_ble_eq_true rfl, Nat.le_of_ble_eq_true rfl⟩ ⟨Nat.zero_le _, Nat.zero_le _⟩ dX9_set_7 (st1 := [.int r2_]) rfl ?_
  refine z_ne (tgt := 23) hx hb dX9_set_10 (by decide) h (fun h => ?_) (fun h => ?_)
  · refine lv_aload_n hx hb dX9_set_23 rfl (lv_at hl 0 rfl) ?_
    refine z_get (C := RX9) (T := TX9) (N := 7) (ci := 7) F zu_wsX90 hP 0 rfl rfl 1 (by decide) zw_481 rfl dX9_set_24 ?_
    refine lv_aload_n hx hb dX9_set_27 rfl (lv_at hl 0 rfl) ?_
    refine z_get (C := RX9) (T := TX9) (N := 7) (ci := 7) F zu_wsX90 hP 0 rfl rfl 0 (by decide) zw_478 rfl dX9_set_28 ?_
    obtain ⟨r3_, hr3_, h⟩ := z_bind h
    refine zVV F (k_X1_push l N g a_history a_history_saved a_history_s0 a_history_s1 a_history_s2 a_history_s3 a_history_s0_cells a_history_s1_cells a_history_s2_cells a_history_s3_cells a_score a_score_cells v_history_next v_history_size v_history_s0_size v_history_s1_size v_history_s2_size v_history_s3_size v_history_s0_cells v_history_s1_cells v_history_s2_cells v_history_s3_cells v_score_size v_score_cells _ hr3_) zy_X1_push zw_520 hP hD hS [1, 5, 6, 7, 8, 9, 14, 15, 16, 17, 3, 11] [0, 2, 4, 10, 12, 13] [0, 6, 1, 16, 2, 7, 8, 9, 10, 11, 3, 17, 4, 5, 12, 13, 14, 15] (wr := [zo_X9 a_this a_score a_history a_text a_sentence a_reader a_sounds a_playing, zo_X2 a_playing a_playing_places v_playing_size, zo_X6 a_sounds a_score a_sounds_shifts a_sounds_heldTicks, (a_playing_places, .inl (zI g, 200, .inl v_playing_places)), (a_sounds_heldTicks, .inl (zI g, 768, .inl v_sounds_heldTicks)), (a_sounds_shifts, .inl (zI g, 768, .inl v_sounds_shifts))]) (W1 := [zo_X9 a_this a_score a_history a_text a_sentence a_reader a_sounds a_playing, zo_X1 a_history a_history_saved r3_.2.1 r3_.1, zo_X2 a_playing a_playing_places v_playing_size, zo_X4 a_score a_score_cells v_score_size, zo_X6 a_sounds a_score a_sounds_shifts a_sounds_heldTicks, zo_X4 a_history_s0 a_history_s0_cells r3_.2.2.1, zo_X4 a_history_s1 a_history_s1_cells r3_.2.2.2.1, zo_X4 a_history_s2 a_history_s2_cells r3_.2.2.2.2.1, zo_X4 a_history_s3 a_history_s3_cells r3_.2.2.2.2.2.1, (a_history_saved, .inl (zO g, 4, .inr (.inr (.inr (.inr (zSv a_history_s0 a_history_s1 a_history_s2 a_history_s3)))))), (a_playing_places, .inl (zI g, 200, .inl v_playing_places)), (a_score_cells, .inl (zI g, 912, .inl v_score_cells)), (a_sounds_heldTicks, .inl (zI g, 768, .inl v_sounds_heldTicks)), (a_sounds_shifts, .inl (zI g, 768, .inl v_sounds_shifts)), (a_history_s0_cells, .inl (zI g, 912, .inl r3_.2.2.2.2.2.2.1)), (a_history_s1_cells, .inl (zI g, 912, .inl r3_.2.2.2.2.2.2.2.1)), (a_history_s2_cells, .inl (zI g, 912, .inl r3_.2.2.2.2.2.2.2.2.1)), (a_history_s3_cells, .inl (zI g, 912, .inl r3_.2.2.2.2.2.2.2.2.2))]) rfl rfl rfl rfl (by decide) rfl rfl (q0 := 1) (he := rfl) (hc := rfl) (rest := []) rfl hl.1 rfl (Nat.le_of_ble_eq_true rfl) ⟨rfl, rfl⟩ ⟨Nat.le_of_ble_eq_true rfl, Nat.le_of_ble_eq_true rfl⟩ ⟨Nat.zero_le _, Nat.zero_le _⟩ dX9_set_31 (st1 := []) rfl (fun H locs hP hD hS => ?_)
    refine lv_aload_n hx hb dX9_set_34 rfl (lv_at hl 0 rfl) ?_
    refine z_get (C := RX9) (T := TX9) (N := 7) (ci := 7) F zu_wsX90 hP 0 rfl rfl 0 (by decide) zw_478 rfl dX9_set_35 ?_
    refine lv_iload_n hx hb dX9_set_38 rfl (lv_at hl 1 rfl) ?_
    refine lv_iload_n hx hb dX9_set_39 rfl (lv_at hl 2 rfl) ?_
    obtain ⟨r4_, hr4_, h⟩ := z_bind h
    refine zRV F (k_X4_value l N g a_score a_score_cells v_score_size v_score_cells x1 x2 _ hr4_) zy_X4_value zw_544 hP hD hS [3, 11] rfl rfl (q0 := 3) (he := rfl) (hc := rfl) (rest := []) rfl hl.1 rfl (Nat.le_of_ble_eq_true rfl) ⟨rfl, rfl⟩ ⟨Nat.le_of_ble_eq_true rfl, Nat.le_of_ble_eq_true rfl⟩ ⟨Nat.zero_le _, Nat.zero_le _⟩ dX9_set_40 (st1 := [.int r4_]) rfl ?_
    refine lv_istore (lv' := [(4, .int r4_), (0, .ref a_this), (1, .int x1), (2, .int x2), (3, .int x3)]) hx hb dX9_set_43 hl (by decide) rfl (fun ls hl => ?_)
    refine lv_aload_n hx hb dX9_set_45 rfl (lv_at hl 1 rfl) ?_
    refine z_get (C := RX9) (T := TX9) (N := 7) (ci := 7) F zu_wsX90 hP 0 rfl rfl 0 (by decide) zw_478 rfl dX9_set_46 ?_
    refine lv_iload_n hx hb dX9_set_49 rfl (lv_at hl 2 rfl) ?_
    refine lv_iload_n hx hb dX9_set_50 rfl (lv_at hl 3 rfl) ?_
    refine lv_iload_n hx hb dX9_set_51 rfl (lv_at hl 4 rfl) ?_
    obtain ⟨r5_, hr5_, h⟩ := z_bind h
    refine zVV F (k_X4_putValue l N g a_score a_score_cells v_score_size v_score_cells x1 x2 x3 _ hr5_) zy_X4_putValue zw_545 hP hD hS [3, 11] [0, 1, 2, 4, 5, 6, 7, 8, 9, 10, 12, 13, 14, 15, 16, 17] [0, 1, 2, 16, 3, 4, 5, 6, 7, 8, 9, 17, 10, 11, 12, 13, 14, 15] (wr := [zo_X9 a_this a_score a_history a_text a_sentence a_reader a_sounds a_playing, zo_X1 a_history a_history_saved r3_.2.1 r3_.1, zo_X2 a_playing a_playing_places v_playing_size, zo_X6 a_sounds a_score a_sounds_shifts a_sounds_heldTicks, zo_X4 a_history_s0 a_history_s0_cells r3_.2.2.1, zo_X4 a_history_s1 a_history_s1_cells r3_.2.2.2.1, zo_X4 a_history_s2 a_history_s2_cells r3_.2.2.2.2.1, zo_X4 a_history_s3 a_history_s3_cells r3_.2.2.2.2.2.1, (a_history_saved, .inl (zO g, 4, .inr (.inr (.inr (.inr (zSv a_history_s0 a_history_s1 a_history_s2 a_history_s3)))))), (a_playing_places, .inl (zI g, 200, .inl v_playing_places)), (a_sounds_heldTicks, .inl (zI g, 768, .inl v_sounds_heldTicks)), (a_sounds_shifts, .inl (zI g, 768, .inl v_sounds_shifts)), (a_history_s0_cells, .inl (zI g, 912, .inl r3_.2.2.2.2.2.2.1)), (a_history_s1_cells, .inl (zI g, 912, .inl r3_.2.2.2.2.2.2.2.1)), (a_history_s2_cells, .inl (zI g, 912, .inl r3_.2.2.2.2.2.2.2.2.1)), (a_history_s3_cells, .inl (zI g, 912, .inl r3_.2.2.2.2.2.2.2.2.2))]) (W1 := [zo_X9 a_this a_score a_history a_text a_sentence a_reader a_sounds a_playing, zo_X1 a_history a_history_saved r3_.2.1 r3_.1, zo_X2 a_playing a_playing_places v_playing_size, zo_X4 a_score a_score_cells v_score_size, zo_X6 a_sounds a_score a_sounds_shifts a_sounds_heldTicks, zo_X4 a_history_s0 a_history_s0_cells r3_.2.2.1, zo_X4 a_history_s1 a_history_s1_cells r3_.2.2.2.1, zo_X4 a_history_s2 a_history_s2_cells r3_.2.2.2.2.1, zo_X4 a_history_s3 a_history_s3_cells r3_.2.2.2.2.2.1, (a_history_saved, .inl (zO g, 4, .inr (.inr (.inr (.inr (zSv a_history_s0 a_history_s1 a_history_s2 a_history_s3)))))), (a_playing_places, .inl (zI g, 200, .inl v_playing_places)), (a_score_cells, .inl (zI g, 912, .inl r5_)), (a_sounds_heldTicks, .inl (zI g, 768, .inl v_sounds_heldTicks)), (a_sounds_shifts, .inl (zI g, 768, .inl v_sounds_shifts)), (a_history_s0_cells, .inl (zI g, 912, .inl r3_.2.2.2.2.2.2.1)), (a_history_s1_cells, .inl (zI g, 912, .inl r3_.2.2.2.2.2.2.2.1)), (a_history_s2_cells, .inl (zI g, 912, .inl r3_.2.2.2.2.2.2.2.2.1)), (a_history_s3_cells, .inl (zI g, 912, .inl r3_.2.2.2.2.2.2.2.2.2))]) rfl rfl rfl rfl (by decide) rfl rfl (q0 := 3) (he := rfl) (hc := rfl) (rest := []) rfl hl.1 rfl (Nat.le_of_ble_eq_true rfl) ⟨rfl, rfl⟩ ⟨Nat.le_of_ble_eq_true rfl, Nat.le_of_ble_eq_true rfl⟩ ⟨Nat.zero_le _, Nat.zero_le _⟩ dX9_set_52 (st1 := []) rfl (fun H locs hP hD hS => ?_)
    refine lv_aload_n hx hb dX9_set_55 rfl (lv_at hl 1 rfl) ?_
    obtain ⟨r6_, hr6_, h⟩ := z_bind h
    refine zVV F (k_X9_settle l N g a_this a_score a_history a_text a_sentence a_reader a_sounds a_playing a_playing_places a_score_cells a_sounds_shifts a_sounds_heldTicks v_playing_size v_score_size v_playing_places r5_ v_sounds_heldTicks v_sounds_shifts _ hr6_) zy_X9_settle zw_524 hP hD hS [0, 2, 3, 4, 10, 11, 12, 13] [1, 5, 6, 7, 8, 9, 14, 15, 16, 17] [10, 0, 11, 12, 13, 1, 2, 3, 4, 5, 14, 15, 16, 17, 6, 7, 8, 9] (wr := [zo_X1 a_history a_history_saved r3_.2.1 r3_.1, zo_X4 a_history_s0 a_history_s0_cells r3_.2.2.1, zo_X4 a_history_s1 a_history_s1_cells r3_.2.2.2.1, zo_X4 a_history_s2 a_history_s2_cells r3_.2.2.2.2.1, zo_X4 a_history_s3 a_history_s3_cells r3_.2.2.2.2.2.1, (a_history_saved, .inl (zO g, 4, .inr (.inr (.inr (.inr (zSv a_history_s0 a_history_s1 a_history_s2 a_history_s3)))))), (a_history_s0_cells, .inl (zI g, 912, .inl r3_.2.2.2.2.2.2.1)), (a_history_s1_cells, .inl (zI g, 912, .inl r3_.2.2.2.2.2.2.2.1)), (a_history_s2_cells, .inl (zI g, 912, .inl r3_.2.2.2.2.2.2.2.2.1)), (a_history_s3_cells, .inl (zI g, 912, .inl r3_.2.2.2.2.2.2.2.2.2))]) (W1 := [zo_X9 a_this a_score a_history a_text a_sentence a_reader a_sounds a_playing, zo_X1 a_history a_history_saved r3_.2.1 r3_.1, zo_X2 a_playing a_playing_places r6_.1, zo_X4 a_score a_score_cells v_score_size, zo_X6 a_sounds a_score a_sounds_shifts a_sounds_heldTicks, zo_X4 a_history_s0 a_history_s0_cells r3_.2.2.1, zo_X4 a_history_s1 a_history_s1_cells r3_.2.2.2.1, zo_X4 a_history_s2 a_history_s2_cells r3_.2.2.2.2.1, zo_X4 a_history_s3 a_history_s3_cells r3_.2.2.2.2.2.1, (a_history_saved, .inl (zO g, 4, .inr (.inr (.inr (.inr (zSv a_history_s0 a_history_s1 a_history_s2 a_history_s3)))))), (a_playing_places, .inl (zI g, 200, .inl r6_.2.1)), (a_score_cells, .inl (zI g, 912, .inl r5_)), (a_sounds_heldTicks, .inl (zI g, 768, .inl r6_.2.2.1)), (a_sounds_shifts, .inl (zI g, 768, .inl r6_.2.2.2)), (a_history_s0_cells, .inl (zI g, 912, .inl r3_.2.2.2.2.2.2.1)), (a_history_s1_cells, .inl (zI g, 912, .inl r3_.2.2.2.2.2.2.2.1)), (a_history_s2_cells, .inl (zI g, 912, .inl r3_.2.2.2.2.2.2.2.2.1)), (a_history_s3_cells, .inl (zI g, 912, .inl r3_.2.2.2.2.2.2.2.2.2))]) rfl rfl rfl rfl (by decide) rfl rfl (q0 := 0) (he := rfl) (hc := rfl) (rest := []) rfl hl.1 rfl (Nat.le_of_ble_eq_true rfl) ⟨rfl, rfl⟩ ⟨Nat.le_of_ble_eq_true rfl, Nat.le_of_ble_eq_true rfl⟩ ⟨Nat.zero_le _, Nat.zero_le _⟩ dX9_set_56 (st1 := []) rfl (fun H locs hP hD hS => ?_)
    refine lv_iload hx hb dX9_set_59 (lv_at hl 0 rfl) ?_
    cases h
  · obtain rfl := Sum.inr.inj (Option.some.inj h)
    exact zThS (k := 1) F hfl hN zw_541 zw_542 zst_X9_99 (fun w h => zu_zx_2 w h) zx_bad_2 (zx_ot_2 _) (by decide +kernel) hP hD hS hl.1 htab hlocks hQ dX9_set_13 dX9_set_16 dX9_set_17 dX9_set_19 dX9_set_22 (Nat.le_of_ble_eq_true rfl) (Nat.le_of_ble_eq_true rfl) (Nat.le_of_ble_eq_true rfl) (Nat.le_of_ble_eq_true rfl)
def f_X9_requireVoice (N : Nat) (v_score_size : Int32) (x1 : Int32) (x2 : Int32) : Option (Unit ⊕ Nat) :=
  Option.bind (f_X4_hasVoice N v_score_size x1 x2) (fun (r1_ : Int32) => if r1_ = 0 then some (Sum.inr 0) else some (Sum.inl ()))
abbrev rm_X9_requireVoice : Room := { frames := 6, cells := 0, slots := 0, locals := 90 }
theorem zy_X9_requireVoice : zYv yX9_requireVoice RX9 cX9_requireVoice 3 none 2 := ⟨zw_555, zw_556, zw_527, zw_550, ⟨by decide, by decide⟩, by decide +kernel⟩
set_option maxHeartbeats 4000000 in
set_option maxRecDepth 100000 in
theorem k_X9_requireVoice (l : Launch) (N : Nat) (g : zEnv) (a_this a_score a_history a_text a_sentence a_reader a_sounds a_playing a_score_cells : Nat) (v_score_size : Int32) (x1 : Int32) (x2 : Int32) (r : Unit) (h : f_X9_requireVoice N v_score_size x1 x2 = some (Sum.inl r)) : ZR l yX9_requireVoice cX9_requireVoice 3 none rm_X9_requireVoice g [.ref a_this, .int x1, .int x2] [zo_X9 a_this a_score a_history a_text a_sentence a_reader a_sounds a_playing, zo_X4 a_score a_score_cells v_score_size] none := by
  refine zR_of (by decide) (Nat.le_of_ble_eq_true rfl) ?_
  intro p e s m below meth c A ls Q R F hRm hr hlocks hP hD hS hl hQ
  subst hRm
  have F : zF p m c cX9_requireVoice 3 s (([.ref a_this, .int x1, .int x2] : List Value)).toArray RX9 g A := F
  have hx := F.1.1
  have hb := F.1.2.1
  have hz := F.1.2.2.2.2
  have hl : lv_has ls 3 [(0, .ref a_this), (1, .int x1), (2, .int x2)] := hl
  unfold f_X9_requireVoice at h
  refine lv_aload_n hx hb dX9_requireVoice_0 rfl (lv_at hl 0 rfl) ?_
  refine z_get (C := RX9) (T := TX9) (N := 7) (ci := 7) F zu_wsX90 hP 0 rfl rfl 0 (by decide) zw_478 rfl dX9_requireVoice_1 ?_
  refine lv_iload_n hx hb dX9_requireVoice_4 rfl (lv_at hl 1 rfl) ?_
  refine lv_iload_n hx hb dX9_requireVoice_5 rfl (lv_at hl 2 rfl) ?_
  obtain ⟨r1_, hr1_, h⟩ := z_bind h
  refine zRV F (k_X4_hasVoice l N g a_score a_score_cells v_score_size x1 x2 _ hr1_) zy_X4_hasVoice zw_547 hP hD hS [1] rfl rfl (q0 := 1) (he := rfl) (hc := rfl) (rest := []) rfl hl.1 rfl (Nat.le_of_ble_eq_true rfl) ⟨rfl, rfl⟩ ⟨Nat.le_of_ble_eq_true rfl, Nat.le_of_ble_eq_true rfl⟩ ⟨Nat.zero_le _, Nat.zero_le _⟩ dX9_requireVoice_6 (st1 := [.int r1_]) rfl ?_
  refine z_ne (tgt := 23) hx hb dX9_requireVoice_9 (by decide) h (fun h => ?_) (fun h => ?_)
  · obtain rfl := Sum.inl.inj (Option.some.inj h)
    exact zR_v F hr hlocks hQ dX9_requireVoice_23
  · cases h
abbrev rx_X9_requireVoice : Room := { frames := 6, cells := 1, slots := 6, locals := 90 }
set_option maxHeartbeats 4000000 in
set_option maxRecDepth 100000 in
theorem kx_X9_requireVoice (l : Launch) (N : Nat) (g : zEnv) (a_this a_score a_history a_text a_sentence a_reader a_sounds a_playing a_score_cells : Nat) (v_score_size : Int32) (x1 : Int32) (x2 : Int32) (r : Nat) (h : f_X9_requireVoice N v_score_size x1 x2 = some (Sum.inr r)) (hfl : l.stackTraces = false) : ZE l yX9_requireVoice cX9_requireVoice 3 none rx_X9_requireVoice g [.ref a_this, .int x1, .int x2] [zo_X9 a_this a_score a_history a_text a_sentence a_reader a_sounds a_playing, zo_X4 a_score a_score_cells v_score_size] [zo_X9 a_this a_score a_history a_text a_sentence a_reader a_sounds a_playing, zo_X4 a_score a_score_cells v_score_size] r := by
  refine zE_of (by decide) (Nat.le_of_ble_eq_true rfl) ?_
  intro p e s m below meth c A H locs ls Q R F hRm hlocks hN htab hP hD hS hl hQ
  subst hRm
  have F : zF p m c cX9_requireVoice 3 s (([.ref a_this, .int x1, .int x2] : List Value)).toArray RX9 g A := F
  have hx := F.1.1
  have hb := F.1.2.1
  have hz := F.1.2.2.2.2
  have hl : lv_has ls 3 [(0, .ref a_this), (1, .int x1), (2, .int x2)] := hl
  unfold f_X9_requireVoice at h
  refine lv_aload_n hx hb dX9_requireVoice_0 rfl (lv_at hl 0 rfl) ?_
  refine z_get (C := RX9) (T := TX9) (N := 7) (ci := 7) F zu_wsX90 hP 0 rfl rfl 0 (by decide) zw_478 rfl dX9_requireVoice_1 ?_
  refine lv_iload_n hx hb dX9_requireVoice_4 rfl (lv_at hl 1 rfl) ?_
  refine lv_iload_n hx hb dX9_requireVoice_5 rfl (lv_at hl 2 rfl) ?_
  obtain ⟨r1_, hr1_, h⟩ := z_bind h
  refine zRV F (k_X4_hasVoice l N g a_score a_score_cells v_score_size x1 x2 _ hr1_) zy_X4_hasVoice zw_547 hP hD hS [1] rfl rfl (q0 := 1) (he := rfl) (hc := rfl) (rest := []) rfl hl.1 rfl (Nat.le_of_ble_eq_true rfl) ⟨rfl, rfl⟩ ⟨Nat.le_of_ble_eq_true rfl, Nat.le_of_ble_eq_true rfl⟩ ⟨Nat.zero_le _, Nat.zero_le _⟩ dX9_requireVoice_6 (st1 := [.int r1_]) rfl ?_
  refine z_ne (tgt := 23) hx hb dX9_requireVoice_9 (by decide) h (fun h => ?_) (fun h => ?_)
  · cases h
  · obtain rfl := Sum.inr.inj (Option.some.inj h)
    exact zThW (k := 0) F hfl hN zw_530 zw_531 zst_X9_330 (fun w h => zu_zx_1 w h) zx_bad_1 (zx_ot_1 _) (by decide +kernel) hP hD hS hl.1 htab hlocks hQ dX9_requireVoice_12 dX9_requireVoice_15 dX9_requireVoice_16 dX9_requireVoice_19 dX9_requireVoice_22 (Nat.le_of_ble_eq_true rfl) (Nat.le_of_ble_eq_true rfl) (Nat.le_of_ble_eq_true rfl) (Nat.le_of_ble_eq_true rfl)
def f_X9_requireRange_J10 (N : Nat) : Option (Unit ⊕ Nat) :=
  some (Sum.inr 1)
def f_X9_requireRange (N : Nat) (x0 : Int32) (x1 : Int32) (x2 : Int32) : Option (Unit ⊕ Nat) :=
  if x0 < x1 then f_X9_requireRange_J10 N else if x2 < x0 then f_X9_requireRange_J10 N else some (Sum.inl ())
abbrev rm_X9_requireRange : Room := { frames := 6, cells := 0, slots := 0, locals := 90 }
theorem zy_X9_requireRange : zYs yX9_requireRange cX9_requireRange 3 none 3 := ⟨zw_558, zw_527, zw_551, ⟨by decide, by decide⟩, by decide +kernel⟩
set_option maxHeartbeats 4000000 in
set_option maxRecDepth 100000 in
theorem k_X9_requireRange (l : Launch) (N : Nat) (g : zEnv) (x0 : Int32) (x1 : Int32) (x2 : Int32) (r : Unit) (h : f_X9_requireRange N x0 x1 x2 = some (Sum.inl r)) : ZR l yX9_requireRange cX9_requireRange 3 none rm_X9_requireRange g [.int x0, .int x1, .int x2] [] none := by
  refine zR_of (by decide) (Nat.le_of_ble_eq_true rfl) ?_
  intro p e s m below meth c A ls Q R F hRm hr hlocks hP hD hS hl hQ
  subst hRm
  have F : zF p m c cX9_requireRange 3 s (([.int x0, .int x1, .int x2] : List Value)).toArray RX9 g A := F
  have hx := F.1.1
  have hb := F.1.2.1
  have hz := F.1.2.2.2.2
  have hl : lv_has ls 3 [(0, .int x0), (1, .int x1), (2, .int x2)] := hl
  unfold f_X9_requireRange at h
  refine lv_iload_n hx hb dX9_requireRange_0 rfl (lv_at hl 0 rfl) ?_
  refine lv_iload_n hx hb dX9_requireRange_1 rfl (lv_at hl 1 rfl) ?_
  have j10_ : f_X9_requireRange_J10 N = some (Sum.inl r) → ∀ (ls : Array Slot), lv_has ls 3 [] → W p l e rm_X9_requireRange s m (([.int x0, .int x1, .int x2] : List Value)).toArray below meth c s.heap [] 0 0 Q (F0 m 10 ls []) := by
    intro h ls hl
    unfold f_X9_requireRange_J10 at h
    cases h
  refine z_clt (tgt := 10) hx hb dX9_requireRange_2 (by decide) h (fun h => ?_) (fun h => ?_)
  · exact j10_  h _ (lv_sub hl [] rfl)
  · refine lv_iload_n hx hb dX9_requireRange_5 rfl (lv_at hl 0 rfl) ?_
    refine lv_iload_n hx hb dX9_requireRange_6 rfl (lv_at hl 2 rfl) ?_
    refine z_cle (tgt := 21) hx hb dX9_requireRange_7 (by decide) h (fun h => ?_) (fun h => ?_)
    · obtain rfl := Sum.inl.inj (Option.some.inj h)
      exact zR_v F hr hlocks hQ dX9_requireRange_21
    · exact j10_  h _ (lv_sub hl [] rfl)
abbrev rx_X9_requireRange : Room := { frames := 6, cells := 1, slots := 6, locals := 90 }
set_option maxHeartbeats 4000000 in
set_option maxRecDepth 100000 in
theorem kx_X9_requireRange (l : Launch) (N : Nat) (g : zEnv) (x0 : Int32) (x1 : Int32) (x2 : Int32) (r : Nat) (h : f_X9_requireRange N x0 x1 x2 = some (Sum.inr r)) (hfl : l.stackTraces = false) : ZE l yX9_requireRange cX9_requireRange 3 none rx_X9_requireRange g [.int x0, .int x1, .int x2] [] [] r := by
  refine zE_of (by decide) (Nat.le_of_ble_eq_true rfl) ?_
  intro p e s m below meth c A H locs ls Q R F hRm hlocks hN htab hP hD hS hl hQ
  subst hRm
  have F : zF p m c cX9_requireRange 3 s (([.int x0, .int x1, .int x2] : List Value)).toArray RX9 g A := F
  have hx := F.1.1
  have hb := F.1.2.1
  have hz := F.1.2.2.2.2
  have hl : lv_has ls 3 [(0, .int x0), (1, .int x1), (2, .int x2)] := hl
  unfold f_X9_requireRange at h
  refine lv_iload_n hx hb dX9_requireRange_0 rfl (lv_at hl 0 rfl) ?_
  refine lv_iload_n hx hb dX9_requireRange_1 rfl (lv_at hl 1 rfl) ?_
  have j10_ : f_X9_requireRange_J10 N = some (Sum.inr r) → ∀ (H : Heap) (locs : List Loc) (ls : Array Slot), va_P (zD g) vwCl [] H → va_D A [] → va_S A s.heap H locs → lv_has ls 3 [] → W p l e rx_X9_requireRange s m (([.int x0, .int x1, .int x2] : List Value)).toArray below meth c H locs 0 0 Q (F0 m 10 ls []) := by
    intro h H locs ls hP hD hS hl
    unfold f_X9_requireRange_J10 at h
    obtain rfl := Sum.inr.inj (Option.some.inj h)
    exact zThW (k := 1) F hfl hN zw_541 zw_542 zst_X9_339 (fun w h => zu_zx_2 w h) zx_bad_2 (zx_ot_2 _) (by decide +kernel) hP hD hS hl.1 htab hlocks hQ dX9_requireRange_10 dX9_requireRange_13 dX9_requireRange_14 dX9_requireRange_17 dX9_requireRange_20 (Nat.le_of_ble_eq_true rfl) (Nat.le_of_ble_eq_true rfl) (Nat.le_of_ble_eq_true rfl) (Nat.le_of_ble_eq_true rfl)
  refine z_clt (tgt := 10) hx hb dX9_requireRange_2 (by decide) h (fun h => ?_) (fun h => ?_)
  · exact j10_  h _ _ _ hP hD hS (lv_sub hl [] rfl)
  · refine lv_iload_n hx hb dX9_requireRange_5 rfl (lv_at hl 0 rfl) ?_
    refine lv_iload_n hx hb dX9_requireRange_6 rfl (lv_at hl 2 rfl) ?_
    refine z_cle (tgt := 21) hx hb dX9_requireRange_7 (by decide) h (fun h => ?_) (fun h => ?_)
    · cases h
    · exact j10_  h _ _ _ hP hD hS (lv_sub hl [] rfl)
def f_X9_requireRoom (N : Nat) (v_score_size : Int32) (v_score_cells : Nat → Int32) (x1 : Int32) (x2 : Int32) : Option (Unit ⊕ Nat) :=
  Option.bind (f_X4_count N v_score_size v_score_cells x1 x2) (fun (r1_ : Int32) => if r1_ < 24 then some (Sum.inl ()) else some (Sum.inr 2))
abbrev rm_X9_requireRoom : Room := { frames := 6, cells := 0, slots := 0, locals := 90 }
theorem zy_X9_requireRoom : zYv yX9_requireRoom RX9 cX9_requireRoom 3 none 2 := ⟨zw_560, zw_561, zw_527, zw_553, ⟨by decide, by decide⟩, by decide +kernel⟩
set_option maxHeartbeats 4000000 in
set_option maxRecDepth 100000 in
theorem k_X9_requireRoom (l : Launch) (N : Nat) (g : zEnv) (a_this a_score a_history a_text a_sentence a_reader a_sounds a_playing a_score_cells : Nat) (v_score_size : Int32) (v_score_cells : Nat → Int32) (x1 : Int32) (x2 : Int32) (r : Unit) (h : f_X9_requireRoom N v_score_size v_score_cells x1 x2 = some (Sum.inl r)) : ZR l yX9_requireRoom cX9_requireRoom 3 none rm_X9_requireRoom g [.ref a_this, .int x1, .int x2] [zo_X9 a_this a_score a_history a_text a_sentence a_reader a_sounds a_playing, zo_X4 a_score a_score_cells v_score_size, (a_score_cells, .inl (zI g, 912, .inl v_score_cells))] none := by
  refine zR_of (by decide) (Nat.le_of_ble_eq_true rfl) ?_
  intro p e s m below meth c A ls Q R F hRm hr hlocks hP hD hS hl hQ
  subst hRm
  have F : zF p m c cX9_requireRoom 3 s (([.ref a_this, .int x1, .int x2] : List Value)).toArray RX9 g A := F
  have hx := F.1.1
  have hb := F.1.2.1
  have hz := F.1.2.2.2.2
  have hl : lv_has ls 3 [(0, .ref a_this), (1, .int x1), (2, .int x2)] := hl
  unfold f_X9_requireRoom at h
  refine lv_aload_n hx hb dX9_requireRoom_0 rfl (lv_at hl 0 rfl) ?_
  refine z_get (C := RX9) (T := TX9) (N := 7) (ci := 7) F zu_wsX90 hP 0 rfl rfl 0 (by decide) zw_478 rfl dX9_requireRoom_1 ?_
  refine lv_iload_n hx hb dX9_requireRoom_4 rfl (lv_at hl 1 rfl) ?_
  refine lv_iload_n hx hb dX9_requireRoom_5 rfl (lv_at hl 2 rfl) ?_
  obtain ⟨r1_, hr1_, h⟩ := z_bind h
  refine zRV F (k_X4_count l N g a_score a_score_cells v_score_size v_score_cells x1 x2 _ hr1_) zy_X4_count zw_552 hP hD hS [1, 2] rfl rfl (q0 := 1) (he := rfl) (hc := rfl) (rest := []) rfl hl.1 rfl (Nat.le_of_ble_eq_true rfl) ⟨rfl, rfl⟩ ⟨Nat.le_of_ble_eq_true rfl, Nat.le_of_ble_eq_true rfl⟩ ⟨Nat.zero_le _, Nat.zero_le _⟩ dX9_requireRoom_6 (st1 := [.int r1_]) rfl ?_
  refine lv_bipush (v := 24) hx hb dX9_requireRoom_9 (by decide) ?_
  refine z_clt (tgt := 25) hx hb dX9_requireRoom_11 (by decide) h (fun h => ?_) (fun h => ?_)
  · obtain rfl := Sum.inl.inj (Option.some.inj h)
    exact zR_v F hr hlocks hQ dX9_requireRoom_25
  · cases h
abbrev rx_X9_requireRoom : Room := { frames := 6, cells := 1, slots := 6, locals := 90 }
set_option maxHeartbeats 4000000 in
set_option maxRecDepth 100000 in
theorem kx_X9_requireRoom (l : Launch) (N : Nat) (g : zEnv) (a_this a_score a_history a_text a_sentence a_reader a_sounds a_playing a_score_cells : Nat) (v_score_size : Int32) (v_score_cells : Nat → Int32) (x1 : Int32) (x2 : Int32) (r : Nat) (h : f_X9_requireRoom N v_score_size v_score_cells x1 x2 = some (Sum.inr r)) (hfl : l.stackTraces = false) : ZE l yX9_requireRoom cX9_requireRoom 3 none rx_X9_requireRoom g [.ref a_this, .int x1, .int x2] [zo_X9 a_this a_score a_history a_text a_sentence a_reader a_sounds a_playing, zo_X4 a_score a_score_cells v_score_size, (a_score_cells, .inl (zI g, 912, .inl v_score_cells))] [zo_X9 a_this a_score a_history a_text a_sentence a_reader a_sounds a_playing, zo_X4 a_score a_score_cells v_score_size, (a_score_cells, .inl (zI g, 912, .inl v_score_cells))] r := by
  refine zE_of (by decide) (Nat.le_of_ble_eq_true rfl) ?_
  intro p e s m below meth c A H locs ls Q R F hRm hlocks hN htab hP hD hS hl hQ
  subst hRm
  have F : zF p m c cX9_requireRoom 3 s (([.ref a_this, .int x1, .int x2] : List Value)).toArray RX9 g A := F
  have hx := F.1.1
  have hb := F.1.2.1
  have hz := F.1.2.2.2.2
  have hl : lv_has ls 3 [(0, .ref a_this), (1, .int x1), (2, .int x2)] := hl
  unfold f_X9_requireRoom at h
  refine lv_aload_n hx hb dX9_requireRoom_0 rfl (lv_at hl 0 rfl) ?_
  refine z_get (C := RX9) (T := TX9) (N := 7) (ci := 7) F zu_wsX90 hP 0 rfl rfl 0 (by decide) zw_478 rfl dX9_requireRoom_1 ?_
  refine lv_iload_n hx hb dX9_requireRoom_4 rfl (lv_at hl 1 rfl) ?_
  refine lv_iload_n hx hb dX9_requireRoom_5 rfl (lv_at hl 2 rfl) ?_
  obtain ⟨r1_, hr1_, h⟩ := z_bind h
  refine zRV F (k_X4_count l N g a_score a_score_cells v_score_size v_score_cells x1 x2 _ hr1_) zy_X4_count zw_552 hP hD hS [1, 2] rfl rfl (q0 := 1) (he := rfl) (hc := rfl) (rest := []) rfl hl.1 rfl (Nat.le_of_ble_eq_true rfl) ⟨rfl, rfl⟩ ⟨Nat.le_of_ble_eq_true rfl, Nat.le_of_ble_eq_true rfl⟩ ⟨Nat.zero_le _, Nat.zero_le _⟩ dX9_requireRoom_6 (st1 := [.int r1_]) rfl ?_
  refine lv_bipush (v := 24) hx hb dX9_requireRoom_9 (by decide) ?_
  refine z_clt (tgt := 25) hx hb dX9_requireRoom_11 (by decide) h (fun h => ?_) (fun h => ?_)
  · cases h
  · obtain rfl := Sum.inr.inj (Option.some.inj h)
    exact zThW (k := 2) F hfl hN zw_517 zw_518 zst_X9_337 (fun w h => zu_zx_0 w h) zx_bad_0 (zx_ot_0 _) (by decide +kernel) hP hD hS hl.1 htab hlocks hQ dX9_requireRoom_14 dX9_requireRoom_17 dX9_requireRoom_18 dX9_requireRoom_21 dX9_requireRoom_24 (Nat.le_of_ble_eq_true rfl) (Nat.le_of_ble_eq_true rfl) (Nat.le_of_ble_eq_true rfl) (Nat.le_of_ble_eq_true rfl)
def f_X9_addNote (N : Nat) (v_history_next : Int32) (v_history_size : Int32) (v_playing_size : Int32) (v_score_size : Int32) (v_history_s0_size : Int32) (v_history_s1_size : Int32) (v_history_s2_size : Int32) (v_history_s3_size : Int32) (v_playing_places : Nat → Int32) (v_score_cells : Nat → Int32) (v_sounds_heldTicks : Nat → Int32) (v_sounds_shifts : Nat → Int32) (v_history_s0_cells : Nat → Int32) (v_history_s1_cells : Nat → Int32) (v_history_s2_cells : Nat → Int32) (v_history_s3_cells : Nat → Int32) (x1 : Int32) (x2 : Int32) (x3 : Int32) (x4 : Int32) (x5 : Int32) (x6 : Int32) : Option ((Int32 × Int32 × Int32 × Int32 × Int32 × Int32 × Int32 × Int32 × (Nat → Int32) × (Nat → Int32) × (Nat → Int32) × (Nat → Int32) × (Nat → Int32) × (Nat → Int32) × (Nat → Int32) × (Nat → Int32)) ⊕ Nat) :=
  zSub (f_X9_requireVoice N v_score_size x1 x2) (fun (r1_ : Unit) => zSub (f_X9_requireRange N x3 0 62) (fun (r2_ : Unit) => zSub (f_X9_requireRange N x4 0 3) (fun (r3_ : Unit) => zSub (f_X9_requireRange N x5 0 9) (fun (r4_ : Unit) => zSub (f_X9_requireRoom N v_score_size v_score_cells x1 x2) (fun (r5_ : Unit) => Option.bind (f_X1_push N v_history_next v_history_size v_history_s0_size v_history_s1_size v_history_s2_size v_history_s3_size v_history_s0_cells v_history_s1_cells v_history_s2_cells v_history_s3_cells v_score_size v_score_cells) (fun (r6_ : Int32 × Int32 × Int32 × Int32 × Int32 × Int32 × (Nat → Int32) × (Nat → Int32) × (Nat → Int32) × (Nat → Int32)) => Option.bind (f_X0_ofNote N x3 x4 x5 x6) (fun (r7_ : Int32) => Option.bind (f_X4_appendEvent N v_score_size v_score_cells x1 x2 r7_) (fun (r8_ : (Nat → Int32)) => Option.bind (f_X9_settle N v_playing_size v_score_size v_playing_places r8_ v_sounds_heldTicks v_sounds_shifts) (fun (r9_ : Int32 × (Nat → Int32) × (Nat → Int32) × (Nat → Int32)) => Option.bind (f_X4_count N v_score_size r8_ x1 x2) (fun (r10_ : Int32) => some (Sum.inl (r10_, r6_.1, r6_.2.1, r9_.1, r6_.2.2.1, r6_.2.2.2.1, r6_.2.2.2.2.1, r6_.2.2.2.2.2.1, r9_.2.1, r8_, r9_.2.2.1, r9_.2.2.2, r6_.2.2.2.2.2.2.1, r6_.2.2.2.2.2.2.2.1, r6_.2.2.2.2.2.2.2.2.1, r6_.2.2.2.2.2.2.2.2.2))))))))))))
abbrev rm_X9_addNote : Room := { frames := 7, cells := 0, slots := 0, locals := 170 }
theorem zy_X9_addNote : zYv yX9_addNote RX9 cX9_addNote 7 (some .int) 6 := ⟨zw_773, zw_774, zw_527, zw_564, ⟨by decide, by decide⟩, by decide +kernel⟩
set_option maxHeartbeats 4000000 in
set_option maxRecDepth 100000 in
theorem k_X9_addNote (l : Launch) (N : Nat) (g : zEnv) (a_this a_score a_history a_text a_sentence a_reader a_sounds a_playing a_history_saved a_history_s0 a_history_s1 a_history_s2 a_history_s3 a_playing_places a_score_cells a_sounds_shifts a_sounds_heldTicks a_history_s0_cells a_history_s1_cells a_history_s2_cells a_history_s3_cells : Nat) (v_history_next : Int32) (v_history_size : Int32) (v_playing_size : Int32) (v_score_size : Int32) (v_history_s0_size : Int32) (v_history_s1_size : Int32) (v_history_s2_size : Int32) (v_history_s3_size : Int32) (v_playing_places : Nat → Int32) (v_score_cells : Nat → Int32) (v_sounds_heldTicks : Nat → Int32) (v_sounds_shifts : Nat → Int32) (v_history_s0_cells : Nat → Int32) (v_history_s1_cells : Nat → Int32) (v_history_s2_cells : Nat → Int32) (v_history_s3_cells : Nat → Int32) (x1 : Int32) (x2 : Int32) (x3 : Int32) (x4 : Int32) (x5 : Int32) (x6 : Int32) (r : Int32 × Int32 × Int32 × Int32 × Int32 × Int32 × Int32 × Int32 × (Nat → Int32) × (Nat → Int32) × (Nat → Int32) × (Nat → Int32) × (Nat → Int32) × (Nat → Int32) × (Nat → Int32) × (Nat → Int32)) (h : f_X9_addNote N v_history_next v_history_size v_playing_size v_score_size v_history_s0_size v_history_s1_size v_history_s2_size v_history_s3_size v_playing_places v_score_cells v_sounds_heldTicks v_sounds_shifts v_history_s0_cells v_history_s1_cells v_history_s2_cells v_history_s3_cells x1 x2 x3 x4 x5 x6 = some (Sum.inl r)) : ZV l yX9_addNote cX9_addNote 7 (some .int) rm_X9_addNote g [.ref a_this, .int x1, .int x2, .int x3, .int x4, .int x5, .int x6] [zo_X9 a_this a_score a_history a_text a_sentence a_reader a_sounds a_playing, zo_X1 a_history a_history_saved v_history_size v_history_next, zo_X2 a_playing a_playing_places v_playing_size, zo_X4 a_score a_score_cells v_score_size, zo_X6 a_sounds a_score a_sounds_shifts a_sounds_heldTicks, zo_X4 a_history_s0 a_history_s0_cells v_history_s0_size, zo_X4 a_history_s1 a_history_s1_cells v_history_s1_size, zo_X4 a_history_s2 a_history_s2_cells v_history_s2_size, zo_X4 a_history_s3 a_history_s3_cells v_history_s3_size, (a_history_saved, .inl (zO g, 4, .inr (.inr (.inr (.inr (zSv a_history_s0 a_history_s1 a_history_s2 a_history_s3)))))), (a_playing_places, .inl (zI g, 200, .inl v_playing_places)), (a_score_cells, .inl (zI g, 912, .inl v_score_cells)), (a_sounds_heldTicks, .inl (zI g, 768, .inl v_sounds_heldTicks)), (a_sounds_shifts, .inl (zI g, 768, .inl v_sounds_shifts)), (a_history_s0_cells, .inl (zI g, 912, .inl v_history_s0_cells)), (a_history_s1_cells, .inl (zI g, 912, .inl v_history_s1_cells)), (a_history_s2_cells, .inl (zI g, 912, .inl v_history_s2_cells)), (a_history_s3_cells, .inl (zI g, 912, .inl v_history_s3_cells))] [zo_X9 a_this a_score a_history a_text a_sentence a_reader a_sounds a_playing, zo_X1 a_history a_history_saved r.2.2.1 r.2.1, zo_X2 a_playing a_playing_places r.2.2.2.1, zo_X4 a_score a_score_cells v_score_size, zo_X6 a_sounds a_score a_sounds_shifts a_sounds_heldTicks, zo_X4 a_history_s0 a_history_s0_cells r.2.2.2.2.1, zo_X4 a_history_s1 a_history_s1_cells r.2.2.2.2.2.1, zo_X4 a_history_s2 a_history_s2_cells r.2.2.2.2.2.2.1, zo_X4 a_history_s3 a_history_s3_cells r.2.2.2.2.2.2.2.1, (a_history_saved, .inl (zO g, 4, .inr (.inr (.inr (.inr (zSv a_history_s0 a_history_s1 a_history_s2 a_history_s3)))))), (a_playing_places, .inl (zI g, 200, .inl r.2.2.2.2.2.2.2.2.1)), (a_score_cells, .inl (zI g, 912, .inl r.2.2.2.2.2.2.2.2.2.1)), (a_sounds_heldTicks, .inl (zI g, 768, .inl r.2.2.2.2.2.2.2.2.2.2.1)), (a_sounds_shifts, .inl (zI g, 768, .inl r.2.2.2.2.2.2.2.2.2.2.2.1)), (a_history_s0_cells, .inl (zI g, 912, .inl r.2.2.2.2.2.2.2.2.2.2.2.2.1)), (a_history_s1_cells, .inl (zI g, 912, .inl r.2.2.2.2.2.2.2.2.2.2.2.2.2.1)), (a_history_s2_cells, .inl (zI g, 912, .inl r.2.2.2.2.2.2.2.2.2.2.2.2.2.2.1)), (a_history_s3_cells, .inl (zI g, 912, .inl r.2.2.2.2.2.2.2.2.2.2.2.2.2.2.2))] (some (.int r.1)) := by
  refine zV_of (by decide) (Nat.le_of_ble_eq_true rfl) ?_
  intro p e s m below meth c A H locs ls Q R F hRm hr hlocks hP hD hS hl hQ
  subst hRm
  have F : zF p m c cX9_addNote 7 s (([.ref a_this, .int x1, .int x2, .int x3, .int x4, .int x5, .int x6] : List Value)).toArray RX9 g A := F
  have hx := F.1.1
  have hb := F.1.2.1
  have hz := F.1.2.2.2.2
  have hl : lv_has ls 7 [(0, .ref a_this), (1, .int x1), (2, .int x2), (3, .int x3), (4, .int x4), (5, .int x5), (6, .int x6)] := hl
  unfold f_X9_addNote at h
  refine lv_aload_n hx hb dX9_addNote_0 rfl (lv_at hl 0 rfl) ?_
  refine lv_iload_n hx hb dX9_addNote_1 rfl (lv_at hl 1 rfl) ?_
  refine lv_iload_n hx hb dX9_addNote_2 rfl (lv_at hl 2 rfl) ?_
  obtain ⟨r1_, hr1_, h⟩ := z_subL h
  refine zRV F (k_X9_requireVoice l N g a_this a_score a_history a_text a_sentence a_reader a_sounds a_playing a_score_cells v_score_size x1 x2 _ hr1_) zy_X9_requireVoice zw_554 hP hD hS [0, 3] rfl rfl (q0 := 0) (he := rfl) (hc := rfl) (rest := []) rfl hl.1 rfl (Nat.le_of_ble_eq_true rfl) ⟨rfl, rfl⟩ ⟨Nat.le_of_ble_eq_true rfl, Nat.le_of_ble_eq_true rfl⟩ ⟨Nat.zero_le _, Nat.zero_le _⟩ dX9_addNote_3 (st1 := []) rfl ?_
  refine lv_iload_n hx hb dX9_addNote_6 rfl (lv_at hl 3 rfl) ?_
  refine lv_iconst (v := 0) hx hb dX9_addNote_7 (by decide) ?_
  refine lv_bipush (v := 62) hx hb dX9_addNote_8 (by decide) ?_
  obtain ⟨r2_, hr2_, h⟩ := z_subL h
  refine zRS F (k_X9_requireRange l N g x3 0 62 _ hr2_) zy_X9_requireRange zw_557 hP hD hS [] rfl rfl (rest := []) rfl hl.1 rfl (Nat.le_of_ble_eq_true rfl) ⟨rfl, rfl⟩ ⟨Nat.le_of_ble_eq_true rfl, Nat.le_of_ble_eq_true rfl⟩ ⟨Nat.zero_le _, Nat.zero_le _⟩ dX9_addNote_10 (st1 := []) rfl ?_
  refine lv_iload hx hb dX9_addNote_13 (lv_at hl 4 rfl) ?_
  refine lv_iconst (v := 0) hx hb dX9_addNote_15 (by decide) ?_
  refine lv_iconst (v := 3) hx hb dX9_addNote_16 (by decide) ?_
  obtain ⟨r3_, hr3_, h⟩ := z_subL h
  refine zRS F (k_X9_requireRange l N g x4 0 3 _ hr3_) zy_X9_requireRange zw_557 hP hD hS [] rfl rfl (rest := []) rfl hl.1 rfl (Nat.le_of_ble_eq_true rfl) ⟨rfl, rfl⟩ ⟨Nat.le_of_ble_eq_true rfl, Nat.le_of_ble_eq_true rfl⟩ ⟨Nat.zero_le _, Nat.zero_le _⟩ dX9_addNote_17 (st1 := []) rfl ?_
  refine lv_iload hx hb dX9_addNote_20 (lv_at hl 5 rfl) ?_
  refine lv_iconst (v := 0) hx hb dX9_addNote_22 (by decide) ?_
  refine lv_bipush (v := 9) hx hb dX9_addNote_23 (by decide) ?_
  obtain ⟨r4_, hr4_, h⟩ := z_subL h
  refine zRS F (k_X9_requireRange l N g x5 0 9 _ hr4_) zy_X9_requireRange zw_557 hP hD hS [] rfl rfl (rest := []) rfl hl.1 rfl (Nat.le_of_ble_eq_true rfl) ⟨rfl, rfl⟩ ⟨Nat.le_of_ble_eq_true rfl, Nat.le_of_ble_eq_true rfl⟩ ⟨Nat.zero_le _, Nat.zero_le _⟩ dX9_addNote_25 (st1 := []) rfl ?_
  refine lv_aload_n hx hb dX9_addNote_28 rfl (lv_at hl 0 rfl) ?_
  refine lv_iload_n hx hb dX9_addNote_29 rfl (lv_at hl 1 rfl) ?_
  refine lv_iload_n hx hb dX9_addNote_30 rfl (lv_at hl 2 rfl) ?_
  obtain ⟨r5_, hr5_, h⟩ := z_subL h
  refine zRV F (k_X9_requireRoom l N g a_this a_score a_history a_text a_sentence a_reader a_sounds a_playing a_score_cells v_score_size v_score_cells x1 x2 _ hr5_) zy_X9_requireRoom zw_559 hP hD hS [0, 3, 11] rfl rfl (q0 := 0) (he := rfl) (hc := rfl) (rest := []) rfl hl.1 rfl (Nat.le_of_ble_eq_true rfl) ⟨rfl, rfl⟩ ⟨Nat.le_of_ble_eq_true rfl, Nat.le_of_ble_eq_true rfl⟩ ⟨Nat.zero_le _, Nat.zero_le _⟩ dX9_addNote_31 (st1 := []) rfl ?_
  refine lv_aload_n hx hb dX9_addNote_34 rfl (lv_at hl 0 rfl) ?_
  refine z_get (C := RX9) (T := TX9) (N := 7) (ci := 7) F zu_wsX90 hP 0 rfl rfl 1 (by decide) zw_481 rfl dX9_addNote_35 ?_
  refine lv_aload_n hx hb dX9_addNote_38 rfl (lv_at hl 0 rfl) ?_
  refine z_get (C := RX9) (T := TX9) (N := 7) (ci := 7) F zu_wsX90 hP 0 rfl rfl 0 (by decide) zw_478 rfl dX9_addNote_39 ?_
  obtain ⟨r6_, hr6_, h⟩ := z_bind h
  refine zVV F (k_X1_push l N g a_history a_history_saved a_history_s0 a_history_s1 a_history_s2 a_history_s3 a_history_s0_cells a_history_s1_cells a_history_s2_cells a_history_s3_cells a_score a_score_cells v_history_next v_history_size v_history_s0_size v_history_s1_size v_history_s2_size v_history_s3_size v_history_s0_cells v_history_s1_cells v_history_s2_cells v_history_s3_cells v_score_size v_score_cells _ hr6_) zy_X1_push zw_520 hP hD hS [1, 5, 6, 7, 8, 9, 14, 15, 16, 17, 3, 11] [0, 2, 4, 10, 12, 13] [0, 6, 1, 16, 2, 7, 8, 9, 10, 11, 3, 17, 4, 5, 12, 13, 14, 15] (wr := [zo_X9 a_this a_score a_history a_text a_sentence a_reader a_sounds a_playing, zo_X2 a_playing a_playing_places v_playing_size, zo_X6 a_sounds a_score a_sounds_shifts a_sounds_heldTicks, (a_playing_places, .inl (zI g, 200, .inl v_playing_places)), (a_sounds_heldTicks, .inl (zI g, 768, .inl v_sounds_heldTicks)), (a_sounds_shifts, .inl (zI g, 768, .inl v_sounds_shifts))]) (W1 := [zo_X9 a_this a_score a_history a_text a_sentence a_reader a_sounds a_playing, zo_X1 a_history a_history_saved r6_.2.1 r6_.1, zo_X2 a_playing a_playing_places v_playing_size, zo_X4 a_score a_score_cells v_score_size, zo_X6 a_sounds a_score a_sounds_shifts a_sounds_heldTicks, zo_X4 a_history_s0 a_history_s0_cells r6_.2.2.1, zo_X4 a_history_s1 a_history_s1_cells r6_.2.2.2.1, zo_X4 a_history_s2 a_history_s2_cells r6_.2.2.2.2.1, zo_X4 a_history_s3 a_history_s3_cells r6_.2.2.2.2.2.1, (a_history_saved, .inl (zO g, 4, .inr (.inr (.inr (.inr (zSv a_history_s0 a_history_s1 a_history_s2 a_history_s3)))))), (a_playing_places, .inl (zI g, 200, .inl v_playing_places)), (a_score_cells, .inl (zI g, 912, .inl v_score_cells)), (a_sounds_heldTicks, .inl (zI g, 768, .inl v_sounds_heldTicks)), (a_sounds_shifts, .inl (zI g, 768, .inl v_sounds_shifts)), (a_history_s0_cells, .inl (zI g, 912, .inl r6_.2.2.2.2.2.2.1)), (a_history_s1_cells, .inl (zI g, 912, .inl r6_.2.2.2.2.2.2.2.1)), (a_history_s2_cells, .inl (zI g, 912, .inl r6_.2.2.2.2.2.2.2.2.1)), (a_history_s3_cells, .inl (zI g, 912, .inl r6_.2.2.2.2.2.2.2.2.2))]) rfl rfl rfl rfl (by decide) rfl rfl (q0 := 1) (he := rfl) (hc := rfl) (rest := []) rfl hl.1 rfl (Nat.le_of_ble_eq_true rfl) ⟨rfl, rfl⟩ ⟨Nat.le_of_ble_eq_true rfl, Nat.le_of_ble_eq_true rfl⟩ ⟨Nat.zero_le _, Nat.zero_le _⟩ dX9_addNote_42 (st1 := []) rfl (fun H locs hP hD hS => ?_)
  refine lv_aload_n hx hb dX9_addNote_45 rfl (lv_at hl 0 rfl) ?_
  refine z_get (C := RX9) (T := TX9) (N := 7) (ci := 7) F zu_wsX90 hP 0 rfl rfl 0 (by decide) zw_478 rfl dX9_addNote_46 ?_
  refine lv_iload_n hx hb dX9_addNote_49 rfl (lv_at hl 1 rfl) ?_
  refine lv_iload_n hx hb dX9_addNote_50 rfl (lv_at hl 2 rfl) ?_
  refine lv_iload_n hx hb dX9_addNote_51 rfl (lv_at hl 3 rfl) ?_
  refine lv_iload hx hb dX9_addNote_52 (lv_at hl 4 rfl) ?_
  refine lv_iload hx hb dX9_addNote_54 (lv_at hl 5 rfl) ?_
  refine lv_iload hx hb dX9_addNote_56 (lv_at hl 6 rfl) ?_
  obtain ⟨r7_, hr7_, h⟩ := z_bind h
  refine zRS F (k_X0_ofNote l N g x3 x4 x5 x6 _ hr7_) zy_X0_ofNote zw_562 hP hD hS [] rfl rfl (rest := [.int x2, .int x1, .ref a_score]) rfl hl.1 rfl (Nat.le_of_ble_eq_true rfl) ⟨rfl, rfl⟩ ⟨Nat.le_of_ble_eq_true rfl, Nat.le_of_ble_eq_true rfl⟩ ⟨Nat.zero_le _, Nat.zero_le _⟩ dX9_addNote_58 (st1 := [.int r7_, .int x2, .int x1, .ref a_score]) rfl ?_
  obtain ⟨r8_, hr8_, h⟩ := z_bind h
  refine zVV F (k_X4_appendEvent l N g a_score a_score_cells v_score_size v_score_cells x1 x2 r7_ _ hr8_) zy_X4_appendEvent zw_563 hP hD hS [3, 11] [0, 1, 2, 4, 5, 6, 7, 8, 9, 10, 12, 13, 14, 15, 16, 17] [0, 1, 2, 16, 3, 4, 5, 6, 7, 8, 9, 17, 10, 11, 12, 13, 14, 15] (wr := [zo_X9 a_this a_score a_history a_text a_sentence a_reader a_sounds a_playing, zo_X1 a_history a_history_saved r6_.2.1 r6_.1, zo_X2 a_playing a_playing_places v_playing_size, zo_X6 a_sounds a_score a_sounds_shifts a_sounds_heldTicks, zo_X4 a_history_s0 a_history_s0_cells r6_.2.2.1, zo_X4 a_history_s1 a_history_s1_cells r6_.2.2.2.1, zo_X4 a_history_s2 a_history_s2_cells r6_.2.2.2.2.1, zo_X4 a_history_s3 a_history_s3_cells r6_.2.2.2.2.2.1, (a_history_saved, .inl (zO g, 4, .inr (.inr (.inr (.inr (zSv a_history_s0 a_history_s1 a_history_s2 a_history_s3)))))), (a_playing_places, .inl (zI g, 200, .inl v_playing_places)), (a_sounds_heldTicks, .inl (zI g, 768, .inl v_sounds_heldTicks)), (a_sounds_shifts, .inl (zI g, 768, .inl v_sounds_shifts)), (a_history_s0_cells, .inl (zI g, 912, .inl r6_.2.2.2.2.2.2.1)), (a_history_s1_cells, .inl (zI g, 912, .inl r6_.2.2.2.2.2.2.2.1)), (a_history_s2_cells, .inl (zI g, 912, .inl r6_.2.2.2.2.2.2.2.2.1)), (a_history_s3_cells, .inl (zI g, 912, .inl r6_.2.2.2.2.2.2.2.2.2))]) (W1 := [zo_X9 a_this a_score a_history a_text a_sentence a_reader a_sounds a_playing, zo_X1 a_history a_history_saved r6_.2.1 r6_.1, zo_X2 a_playing a_playing_places v_playing_size, zo_X4 a_score a_score_cells v_score_size, zo_X6 a_sounds a_score a_sounds_shifts a_sounds_heldTicks, zo_X4 a_history_s0 a_history_s0_cells r6_.2.2.1, zo_X4 a_history_s1 a_history_s1_cells r6_.2.2.2.1, zo_X4 a_history_s2 a_history_s2_cells r6_.2.2.2.2.1, zo_X4 a_history_s3 a_history_s3_cells r6_.2.2.2.2.2.1, (a_history_saved, .inl (zO g, 4, .inr (.inr (.inr (.inr (zSv a_history_s0 a_history_s1 a_history_s2 a_history_s3)))))), (a_playing_places, .inl (zI g, 200, .inl v_playing_places)), (a_score_cells, .inl (zI g, 912, .inl r8_)), (a_sounds_heldTicks, .inl (zI g, 768, .inl v_sounds_heldTicks)), (a_sounds_shifts, .inl (zI g, 768, .inl v_sounds_shifts)), (a_history_s0_cells, .inl (zI g, 912, .inl r6_.2.2.2.2.2.2.1)), (a_history_s1_cells, .inl (zI g, 912, .inl r6_.2.2.2.2.2.2.2.1)), (a_history_s2_cells, .inl (zI g, 912, .inl r6_.2.2.2.2.2.2.2.2.1)), (a_history_s3_cells, .inl (zI g, 912, .inl r6_.2.2.2.2.2.2.2.2.2))]) rfl rfl rfl rfl (by decide) rfl rfl (q0 := 3) (he := rfl) (hc := rfl) (rest := []) rfl hl.1 rfl (Nat.le_of_ble_eq_true rfl) ⟨rfl, rfl⟩ ⟨Nat.le_of_ble_eq_true rfl, Nat.le_of_ble_eq_true rfl⟩ ⟨Nat.zero_le _, Nat.zero_le _⟩ dX9_addNote_61 (st1 := []) rfl (fun H locs hP hD hS => ?_)
  refine lv_aload_n hx hb dX9_addNote_64 rfl (lv_at hl 0 rfl) ?_
  obtain ⟨r9_, hr9_, h⟩ := z_bind h
  refine zVV F (k_X9_settle l N g a_this a_score a_history a_text a_sentence a_reader a_sounds a_playing a_playing_places a_score_cells a_sounds_shifts a_sounds_heldTicks v_playing_size v_score_size v_playing_places r8_ v_sounds_heldTicks v_sounds_shifts _ hr9_) zy_X9_settle zw_524 hP hD hS [0, 2, 3, 4, 10, 11, 12, 13] [1, 5, 6, 7, 8, 9, 14, 15, 16, 17] [10, 0, 11, 12, 13, 1, 2, 3, 4, 5, 14, 15, 16, 17, 6, 7, 8, 9] (wr := [zo_X1 a_history a_history_saved r6_.2.1 r6_.1, zo_X4 a_history_s0 a_history_s0_cells r6_.2.2.1, zo_X4 a_history_s1 a_history_s1_cells r6_.2.2.2.1, zo_X4 a_history_s2 a_history_s2_cells r6_.2.2.2.2.1, zo_X4 a_history_s3 a_history_s3_cells r6_.2.2.2.2.2.1, (a_history_saved, .inl (zO g, 4, .inr (.inr (.inr (.inr (zSv a_history_s0 a_history_s1 a_history_s2 a_history_s3)))))), (a_history_s0_cells, .inl (zI g, 912, .inl r6_.2.2.2.2.2.2.1)), (a_history_s1_cells, .inl (zI g, 912, .inl r6_.2.2.2.2.2.2.2.1)), (a_history_s2_cells, .inl (zI g, 912, .inl r6_.2.2.2.2.2.2.2.2.1)), (a_history_s3_cells, .inl (zI g, 912, .inl r6_.2.2.2.2.2.2.2.2.2))]) (W1 := [zo_X9 a_this a_score a_history a_text a_sentence a_reader a_sounds a_playing, zo_X1 a_history a_history_saved r6_.2.1 r6_.1, zo_X2 a_playing a_playing_places r9_.1, zo_X4 a_score a_score_cells v_score_size, zo_X6 a_sounds a_score a_sounds_shifts a_sounds_heldTicks, zo_X4 a_history_s0 a_history_s0_cells r6_.2.2.1, zo_X4 a_history_s1 a_history_s1_cells r6_.2.2.2.1, zo_X4 a_history_s2 a_history_s2_cells r6_.2.2.2.2.1, zo_X4 a_history_s3 a_history_s3_cells r6_.2.2.2.2.2.1, (a_history_saved, .inl (zO g, 4, .inr (.inr (.inr (.inr (zSv a_history_s0 a_history_s1 a_history_s2 a_history_s3)))))), (a_playing_places, .inl (zI g, 200, .inl r9_.2.1)), (a_score_cells, .inl (zI g, 912, .inl r8_)), (a_sounds_heldTicks, .inl (zI g, 768, .inl r9_.2.2.1)), (a_sounds_shifts, .inl (zI g, 768, .inl r9_.2.2.2)), (a_history_s0_cells, .inl (zI g, 912, .inl r6_.2.2.2.2.2.2.1)), (a_history_s1_cells, .inl (zI g, 912, .inl r6_.2.2.2.2.2.2.2.1)), (a_history_s2_cells, .inl (zI g, 912, .inl r6_.2.2.2.2.2.2.2.2.1)), (a_history_s3_cells, .inl (zI g, 912, .inl r6_.2.2.2.2.2.2.2.2.2))]) rfl rfl rfl rfl (by decide) rfl rfl (q0 := 0) (he := rfl) (hc := rfl) (rest := []) rfl hl.1 rfl (Nat.le_of_ble_eq_true rfl) ⟨rfl, rfl⟩ ⟨Nat.le_of_ble_eq_true rfl, Nat.le_of_ble_eq_true rfl⟩ ⟨Nat.zero_le _, Nat.zero_le _⟩ dX9_addNote_65 (st1 := []) rfl (fun H locs hP hD hS => ?_)
  refine lv_aload_n hx hb dX9_addNote_68 rfl (lv_at hl 0 rfl) ?_
  refine z_get (C := RX9) (T := TX9) (N := 7) (ci := 7) F zu_wsX90 hP 0 rfl rfl 0 (by decide) zw_478 rfl dX9_addNote_69 ?_
  refine lv_iload_n hx hb dX9_addNote_72 rfl (lv_at hl 1 rfl) ?_
  refine lv_iload_n hx hb dX9_addNote_73 rfl (lv_at hl 2 rfl) ?_
  obtain ⟨r10_, hr10_, h⟩ := z_bind h
  refine zRV F (k_X4_count l N g a_score a_score_cells v_score_size r8_ x1 x2 _ hr10_) zy_X4_count zw_552 hP hD hS [3, 11] rfl rfl (q0 := 3) (he := rfl) (hc := rfl) (rest := []) rfl hl.1 rfl (Nat.le_of_ble_eq_true rfl) ⟨rfl, rfl⟩ ⟨Nat.le_of_ble_eq_true rfl, Nat.le_of_ble_eq_true rfl⟩ ⟨Nat.zero_le _, Nat.zero_le _⟩ dX9_addNote_74 (st1 := [.int r10_]) rfl ?_
  obtain rfl := Sum.inl.inj (Option.some.inj h)
  exact zV_i F hr hlocks hQ hP hD hS dX9_addNote_77
abbrev rx_X9_addNote : Room := { frames := 7, cells := 1, slots := 6, locals := 170 }
set_option maxHeartbeats 4000000 in
set_option maxRecDepth 100000 in
theorem kx_X9_addNote (l : Launch) (N : Nat) (g : zEnv) (a_this a_score a_history a_text a_sentence a_reader a_sounds a_playing a_history_saved a_history_s0 a_history_s1 a_history_s2 a_history_s3 a_playing_places a_score_cells a_sounds_shifts a_sounds_heldTicks a_history_s0_cells a_history_s1_cells a_history_s2_cells a_history_s3_cells : Nat) (v_history_next : Int32) (v_history_size : Int32) (v_playing_size : Int32) (v_score_size : Int32) (v_history_s0_size : Int32) (v_history_s1_size : Int32) (v_history_s2_size : Int32) (v_history_s3_size : Int32) (v_playing_places : Nat → Int32) (v_score_cells : Nat → Int32) (v_sounds_heldTicks : Nat → Int32) (v_sounds_shifts : Nat → Int32) (v_history_s0_cells : Nat → Int32) (v_history_s1_cells : Nat → Int32) (v_history_s2_cells : Nat → Int32) (v_history_s3_cells : Nat → Int32) (x1 : Int32) (x2 : Int32) (x3 : Int32) (x4 : Int32) (x5 : Int32) (x6 : Int32) (r : Nat) (h : f_X9_addNote N v_history_next v_history_size v_playing_size v_score_size v_history_s0_size v_history_s1_size v_history_s2_size v_history_s3_size v_playing_places v_score_cells v_sounds_heldTicks v_sounds_shifts v_history_s0_cells v_history_s1_cells v_history_s2_cells v_history_s3_cells x1 x2 x3 x4 x5 x6 = some (Sum.inr r)) (hfl : l.stackTraces = false) : ZE l yX9_addNote cX9_addNote 7 (some .int) rx_X9_addNote g [.ref a_this, .int x1, .int x2, .int x3, .int x4, .int x5, .int x6] [zo_X9 a_this a_score a_history a_text a_sentence a_reader a_sounds a_playing, zo_X1 a_history a_history_saved v_history_size v_history_next, zo_X2 a_playing a_playing_places v_playing_size, zo_X4 a_score a_score_cells v_score_size, zo_X6 a_sounds a_score a_sounds_shifts a_sounds_heldTicks, zo_X4 a_history_s0 a_history_s0_cells v_history_s0_size, zo_X4 a_history_s1 a_history_s1_cells v_history_s1_size, zo_X4 a_history_s2 a_history_s2_cells v_history_s2_size, zo_X4 a_history_s3 a_history_s3_cells v_history_s3_size, (a_history_saved, .inl (zO g, 4, .inr (.inr (.inr (.inr (zSv a_history_s0 a_history_s1 a_history_s2 a_history_s3)))))), (a_playing_places, .inl (zI g, 200, .inl v_playing_places)), (a_score_cells, .inl (zI g, 912, .inl v_score_cells)), (a_sounds_heldTicks, .inl (zI g, 768, .inl v_sounds_heldTicks)), (a_sounds_shifts, .inl (zI g, 768, .inl v_sounds_shifts)), (a_history_s0_cells, .inl (zI g, 912, .inl v_history_s0_cells)), (a_history_s1_cells, .inl (zI g, 912, .inl v_history_s1_cells)), (a_history_s2_cells, .inl (zI g, 912, .inl v_history_s2_cells)), (a_history_s3_cells, .inl (zI g, 912, .inl v_history_s3_cells))] [zo_X9 a_this a_score a_history a_text a_sentence a_reader a_sounds a_playing, zo_X1 a_history a_history_saved v_history_size v_history_next, zo_X2 a_playing a_playing_places v_playing_size, zo_X4 a_score a_score_cells v_score_size, zo_X6 a_sounds a_score a_sounds_shifts a_sounds_heldTicks, zo_X4 a_history_s0 a_history_s0_cells v_history_s0_size, zo_X4 a_history_s1 a_history_s1_cells v_history_s1_size, zo_X4 a_history_s2 a_history_s2_cells v_history_s2_size, zo_X4 a_history_s3 a_history_s3_cells v_history_s3_size, (a_history_saved, .inl (zO g, 4, .inr (.inr (.inr (.inr (zSv a_history_s0 a_history_s1 a_history_s2 a_history_s3)))))), (a_playing_places, .inl (zI g, 200, .inl v_playing_places)), (a_score_cells, .inl (zI g, 912, .inl v_score_cells)), (a_sounds_heldTicks, .inl (zI g, 768, .inl v_sounds_heldTicks)), (a_sounds_shifts, .inl (zI g, 768, .inl v_sounds_shifts)), (a_history_s0_cells, .inl (zI g, 912, .inl v_history_s0_cells)), (a_history_s1_cells, .inl (zI g, 912, .inl v_history_s1_cells)), (a_history_s2_cells, .inl (zI g, 912, .inl v_history_s2_cells)), (a_history_s3_cells, .inl (zI g, 912, .inl v_history_s3_cells))] r := by
  refine zE_of (by decide) (Nat.le_of_ble_eq_true rfl) ?_
  intro p e s m below meth c A H locs ls Q R F hRm hlocks hN htab hP hD hS hl hQ
  subst hRm
  have F : zF p m c cX9_addNote 7 s (([.ref a_this, .int x1, .int x2, .int x3, .int x4, .int x5, .int x6] : List Value)).toArray RX9 g A := F
  have hx := F.1.1
  have hb := F.1.2.1
  have hz := F.1.2.2.2.2
  have hl : lv_has ls 7 [(0, .ref a_this), (1, .int x1), (2, .int x2), (3, .int x3), (4, .int x4), (5, .int x5), (6, .int x6)] := hl
  unfold f_X9_addNote at h
  refine lv_aload_n hx hb dX9_addNote_0 rfl (lv_at hl 0 rfl) ?_
  refine lv_iload_n hx hb dX9_addNote_1 rfl (lv_at hl 1 rfl) ?_
  refine lv_iload_n hx hb dX9_addNote_2 rfl (lv_at hl 2 rfl) ?_
  refine z_subR h (fun h => ?_) (fun r1_ hr1_ h => ?_)
  · exact zXV F (kx_X9_requireVoice l N g a_this a_score a_history a_text a_sentence a_reader a_sounds a_playing a_score_cells v_score_size x1 x2 _ h hfl) hN zy_X9_requireVoice zw_554 hP hD hS [0, 3] [1, 2, 4, 5, 6, 7, 8, 9, 10, 11, 12, 13, 14, 15, 16, 17] [16, 0, 1, 17, 2, 3, 4, 5, 6, 7, 8, 9, 10, 11, 12, 13, 14, 15] (wr := [zo_X1 a_history a_history_saved v_history_size v_history_next, zo_X2 a_playing a_playing_places v_playing_size, zo_X6 a_sounds a_score a_sounds_shifts a_sounds_heldTicks, zo_X4 a_history_s0 a_history_s0_cells v_history_s0_size, zo_X4 a_history_s1 a_history_s1_cells v_history_s1_size, zo_X4 a_history_s2 a_history_s2_cells v_history_s2_size, zo_X4 a_history_s3 a_history_s3_cells v_history_s3_size, (a_history_saved, .inl (zO g, 4, .inr (.inr (.inr (.inr (zSv a_history_s0 a_history_s1 a_history_s2 a_history_s3)))))), (a_playing_places, .inl (zI g, 200, .inl v_playing_places)), (a_score_cells, .inl (zI g, 912, .inl v_score_cells)), (a_sounds_heldTicks, .inl (zI g, 768, .inl v_sounds_heldTicks)), (a_sounds_shifts, .inl (zI g, 768, .inl v_sounds_shifts)), (a_history_s0_cells, .inl (zI g, 912, .inl v_history_s0_cells)), (a_history_s1_cells, .inl (zI g, 912, .inl v_history_s1_cells)), (a_history_s2_cells, .inl (zI g, 912, .inl v_history_s2_cells)), (a_history_s3_cells, .inl (zI g, 912, .inl v_history_s3_cells))]) (W1 := [zo_X9 a_this a_score a_history a_text a_sentence a_reader a_sounds a_playing, zo_X1 a_history a_history_saved v_history_size v_history_next, zo_X2 a_playing a_playing_places v_playing_size, zo_X4 a_score a_score_cells v_score_size, zo_X6 a_sounds a_score a_sounds_shifts a_sounds_heldTicks, zo_X4 a_history_s0 a_history_s0_cells v_history_s0_size, zo_X4 a_history_s1 a_history_s1_cells v_history_s1_size, zo_X4 a_history_s2 a_history_s2_cells v_history_s2_size, zo_X4 a_history_s3 a_history_s3_cells v_history_s3_size, (a_history_saved, .inl (zO g, 4, .inr (.inr (.inr (.inr (zSv a_history_s0 a_history_s1 a_history_s2 a_history_s3)))))), (a_playing_places, .inl (zI g, 200, .inl v_playing_places)), (a_score_cells, .inl (zI g, 912, .inl v_score_cells)), (a_sounds_heldTicks, .inl (zI g, 768, .inl v_sounds_heldTicks)), (a_sounds_shifts, .inl (zI g, 768, .inl v_sounds_shifts)), (a_history_s0_cells, .inl (zI g, 912, .inl v_history_s0_cells)), (a_history_s1_cells, .inl (zI g, 912, .inl v_history_s1_cells)), (a_history_s2_cells, .inl (zI g, 912, .inl v_history_s2_cells)), (a_history_s3_cells, .inl (zI g, 912, .inl v_history_s3_cells))]) rfl rfl rfl rfl (by decide) rfl rfl (q0 := 0) (he := rfl) (hc := rfl) (rest := []) rfl hl.1 rfl (Nat.le_of_ble_eq_true rfl) ⟨rfl, rfl⟩ ⟨Nat.le_of_ble_eq_true rfl, Nat.le_of_ble_eq_true rfl⟩ ⟨Nat.le_of_ble_eq_true rfl, Nat.le_of_ble_eq_true rfl⟩ dX9_addNote_3 htab hlocks hQ
  refine zRV F (k_X9_requireVoice l N g a_this a_score a_history a_text a_sentence a_reader a_sounds a_playing a_score_cells v_score_size x1 x2 _ hr1_) zy_X9_requireVoice zw_554 hP hD hS [0, 3] rfl rfl (q0 := 0) (he := rfl) (hc := rfl) (rest := []) rfl hl.1 rfl (Nat.le_of_ble_eq_true rfl) ⟨rfl, rfl⟩ ⟨Nat.le_of_ble_eq_true rfl, Nat.le_of_ble_eq_true rfl⟩ ⟨Nat.zero_le _, Nat.zero_le _⟩ dX9_addNote_3 (st1 := []) rfl ?_
  refine lv_iload_n hx hb dX9_addNote_6 rfl (lv_at hl 3 rfl) ?_
  refine lv_iconst (v := 0) hx hb dX9_addNote_7 (by decide) ?_
  refine lv_bipush (v := 62) hx hb dX9_addNote_8 (by decide) ?_
  refine z_subR h (fun h => ?_) (fun r2_ hr2_ h => ?_)
  · exact zXS F (kx_X9_requireRange l N g x3 0 62 _ h hfl) hN zy_X9_requireRange zw_557 hP hD hS [] [0, 1, 2, 3, 4, 5, 6, 7, 8, 9, 10, 11, 12, 13, 14, 15, 16, 17] [0, 1, 2, 3, 4, 5, 6, 7, 8, 9, 10, 11, 12, 13, 14, 15, 16, 17] (wr := [zo_X9 a_this a_score a_history a_text a_sentence a_reader a_sounds a_playing, zo_X1 a_history a_history_saved v_history_size v_history_next, zo_X2 a_playing a_playing_places v_playing_size, zo_X4 a_score a_score_cells v_score_size, zo_X6 a_sounds a_score a_sounds_shifts a_sounds_heldTicks, zo_X4 a_history_s0 a_history_s0_cells v_history_s0_size, zo_X4 a_history_s1 a_history_s1_cells v_history_s1_size, zo_X4 a_history_s2 a_history_s2_cells v_history_s2_size, zo_X4 a_history_s3 a_history_s3_cells v_history_s3_size, (a_history_saved, .inl (zO g, 4, .inr (.inr (.inr (.inr (zSv a_history_s0 a_history_s1 a_history_s2 a_history_s3)))))), (a_playing_places, .inl (zI g, 200, .inl v_playing_places)), (a_score_cells, .inl (zI g, 912, .inl v_score_cells)), (a_sounds_heldTicks, .inl (zI g, 768, .inl v_sounds_heldTicks)), (a_sounds_shifts, .inl (zI g, 768, .inl v_sounds_shifts)), (a_history_s0_cells, .inl (zI g, 912, .inl v_history_s0_cells)), (a_history_s1_cells, .inl (zI g, 912, .inl v_history_s1_cells)), (a_history_s2_cells, .inl (zI g, 912, .inl v_history_s2_cells)), (a_history_s3_cells, .inl (zI g, 912, .inl v_history_s3_cells))]) (W1 := [zo_X9 a_this a_score a_history a_text a_sentence a_reader a_sounds a_playing, zo_X1 a_history a_history_saved v_history_size v_history_next, zo_X2 a_playing a_playing_places v_playing_size, zo_X4 a_score a_score_cells v_score_size, zo_X6 a_sounds a_score a_sounds_shifts a_sounds_heldTicks, zo_X4 a_history_s0 a_history_s0_cells v_history_s0_size, zo_X4 a_history_s1 a_history_s1_cells v_history_s1_size, zo_X4 a_history_s2 a_history_s2_cells v_history_s2_size, zo_X4 a_history_s3 a_history_s3_cells v_history_s3_size, (a_history_saved, .inl (zO g, 4, .inr (.inr (.inr (.inr (zSv a_history_s0 a_history_s1 a_history_s2 a_history_s3)))))), (a_playing_places, .inl (zI g, 200, .inl v_playing_places)), (a_score_cells, .inl (zI g, 912, .inl v_score_cells)), (a_sounds_heldTicks, .inl (zI g, 768, .inl v_sounds_heldTicks)), (a_sounds_shifts, .inl (zI g, 768, .inl v_sounds_shifts)), (a_history_s0_cells, .inl (zI g, 912, .inl v_history_s0_cells)), (a_history_s1_cells, .inl (zI g, 912, .inl v_history_s1_cells)), (a_history_s2_cells, .inl (zI g, 912, .inl v_history_s2_cells)), (a_history_s3_cells, .inl (zI g, 912, .inl v_history_s3_cells))]) rfl rfl rfl rfl (by decide) rfl rfl (rest := []) rfl hl.1 rfl (Nat.le_of_ble_eq_true rfl) ⟨rfl, rfl⟩ ⟨Nat.le_of_ble_eq_true rfl, Nat.le_of_ble_eq_true rfl⟩ ⟨Nat.le_of_ble_eq_true rfl, Nat.le_of_ble_eq_true rfl⟩ dX9_addNote_10 htab hlocks hQ
  refine zRS F (k_X9_requireRange l N g x3 0 62 _ hr2_) zy_X9_requireRange zw_557 hP hD hS [] rfl rfl (rest := []) rfl hl.1 rfl (Nat.le_of_ble_eq_true rfl) ⟨rfl, rfl⟩ ⟨Nat.le_of_ble_eq_true rfl, Nat.le_of_ble_eq_true rfl⟩ ⟨Nat.zero_le _, Nat.zero_le _⟩ dX9_addNote_10 (st1 := []) rfl ?_
  refine lv_iload hx hb dX9_addNote_13 (lv_at hl 4 rfl) ?_
  refine lv_iconst (v := 0) hx hb dX9_addNote_15 (by decide) ?_
  refine lv_iconst (v := 3) hx hb dX9_addNote_16 (by decide) ?_
  refine z_subR h (fun h => ?_) (fun r3_ hr3_ h => ?_)
  · exact zXS F (kx_X9_requireRange l N g x4 0 3 _ h hfl) hN zy_X9_requireRange zw_557 hP hD hS [] [0, 1, 2, 3, 4, 5, 6, 7, 8, 9, 10, 11, 12, 13, 14, 15, 16, 17] [0, 1, 2, 3, 4, 5, 6, 7, 8, 9, 10, 11, 12, 13, 14, 15, 16, 17] (wr := [zo_X9 a_this a_score a_history a_text a_sentence a_reader a_sounds a_playing, zo_X1 a_history a_history_saved v_history_size v_history_next, zo_X2 a_playing a_playing_places v_playing_size, zo_X4 a_score a_score_cells v_score_size, zo_X6 a_sounds a_score a_sounds_shifts a_sounds_heldTicks, zo_X4 a_history_s0 a_history_s0_cells v_history_s0_size, zo_X4 a_history_s1 a_history_s1_cells v_history_s1_size, zo_X4 a_history_s2 a_history_s2_cells v_history_s2_size, zo_X4 a_history_s3 a_history_s3_cells v_history_s3_size, (a_history_saved, .inl (zO g, 4, .inr (.inr (.inr (.inr (zSv a_history_s0 a_history_s1 a_history_s2 a_history_s3)))))), (a_playing_places, .inl (zI g, 200, .inl v_playing_places)), (a_score_cells, .inl (zI g, 912, .inl v_score_cells)), (a_sounds_heldTicks, .inl (zI g, 768, .inl v_sounds_heldTicks)), (a_sounds_shifts, .inl (zI g, 768, .inl v_sounds_shifts)), (a_history_s0_cells, .inl (zI g, 912, .inl v_history_s0_cells)), (a_history_s1_cells, .inl (zI g, 912, .inl v_history_s1_cells)), (a_history_s2_cells, .inl (zI g, 912, .inl v_history_s2_cells)), (a_history_s3_cells, .inl (zI g, 912, .inl v_history_s3_cells))]) (W1 := [zo_X9 a_this a_score a_history a_text a_sentence a_reader a_sounds a_playing, zo_X1 a_history a_history_saved v_history_size v_history_next, zo_X2 a_playing a_playing_places v_playing_size, zo_X4 a_score a_score_cells v_score_size, zo_X6 a_sounds a_score a_sounds_shifts a_sounds_heldTicks, zo_X4 a_history_s0 a_history_s0_cells v_history_s0_size, zo_X4 a_history_s1 a_history_s1_cells v_history_s1_size, zo_X4 a_history_s2 a_history_s2_cells v_history_s2_size, zo_X4 a_history_s3 a_history_s3_cells v_history_s3_size, (a_history_saved, .inl (zO g, 4, .inr (.inr (.inr (.inr (zSv a_history_s0 a_history_s1 a_history_s2 a_history_s3)))))), (a_playing_places, .inl (zI g, 200, .inl v_playing_places)), (a_score_cells, .inl (zI g, 912, .inl v_score_cells)), (a_sounds_heldTicks, .inl (zI g, 768, .inl v_sounds_heldTicks)), (a_sounds_shifts, .inl (zI g, 768, .inl v_sounds_shifts)), (a_history_s0_cells, .inl (zI g, 912, .inl v_history_s0_cells)), (a_history_s1_cells, .inl (zI g, 912, .inl v_history_s1_cells)), (a_history_s2_cells, .inl (zI g, 912, .inl v_history_s2_cells)), (a_history_s3_cells, .inl (zI g, 912, .inl v_history_s3_cells))]) rfl rfl rfl rfl (by decide) rfl rfl (rest := []) rfl hl.1 rfl (Nat.le_of_ble_eq_true rfl) ⟨rfl, rfl⟩ ⟨Nat.le_of_ble_eq_true rfl, Nat.le_of_ble_eq_true rfl⟩ ⟨Nat.le_of_ble_eq_true rfl, Nat.le_of_ble_eq_true rfl⟩ dX9_addNote_17 htab hlocks hQ
  refine zRS F (k_X9_requireRange l N g x4 0 3 _ hr3_) zy_X9_requireRange zw_557 hP hD hS [] rfl rfl (rest := []) rfl hl.1 rfl (Nat.le_of_ble_eq_true rfl) ⟨rfl, rfl⟩ ⟨Nat.le_of_ble_eq_true rfl, Nat.le_of_ble_eq_true rfl⟩ ⟨Nat.zero_le _, Nat.zero_le _⟩ dX9_addNote_17 (st1 := []) rfl ?_
  refine lv_iload hx hb dX9_addNote_20 (lv_at hl 5 rfl) ?_
  refine lv_iconst (v := 0) hx hb dX9_addNote_22 (by decide) ?_
  refine lv_bipush (v := 9) hx hb dX9_addNote_23 (by decide) ?_
  refine z_subR h (fun h => ?_) (fun r4_ hr4_ h => ?_)
  · exact zXS F (kx_X9_requireRange l N g x5 0 9 _ h hfl) hN zy_X9_requireRange zw_557 hP hD hS [] [0, 1, 2, 3, 4, 5, 6, 7, 8, 9, 10, 11, 12, 13, 14, 15, 16, 17] [0, 1, 2, 3, 4, 5, 6, 7, 8, 9, 10, 11, 12, 13, 14, 15, 16, 17] (wr := [zo_X9 a_this a_score a_history a_text a_sentence a_reader a_sounds a_playing, zo_X1 a_history a_history_saved v_history_size v_history_next, zo_X2 a_playing a_playing_places v_playing_size, zo_X4 a_score a_score_cells v_score_size, zo_X6 a_sounds a_score a_sounds_shifts a_sounds_heldTicks, zo_X4 a_history_s0 a_history_s0_cells v_history_s0_size, zo_X4 a_history_s1 a_history_s1_cells v_history_s1_size, zo_X4 a_history_s2 a_history_s2_cells v_history_s2_size, zo_X4 a_history_s3 a_history_s3_cells v_history_s3_size, (a_history_saved, .inl (zO g, 4, .inr (.inr (.inr (.inr (zSv a_history_s0 a_history_s1 a_history_s2 a_history_s3)))))), (a_playing_places, .inl (zI g, 200, .inl v_playing_places)), (a_score_cells, .inl (zI g, 912, .inl v_score_cells)), (a_sounds_heldTicks, .inl (zI g, 768, .inl v_sounds_heldTicks)), (a_sounds_shifts, .inl (zI g, 768, .inl v_sounds_shifts)), (a_history_s0_cells, .inl (zI g, 912, .inl v_history_s0_cells)), (a_history_s1_cells, .inl (zI g, 912, .inl v_history_s1_cells)), (a_history_s2_cells, .inl (zI g, 912, .inl v_history_s2_cells)), (a_history_s3_cells, .inl (zI g, 912, .inl v_history_s3_cells))]) (W1 := [zo_X9 a_this a_score a_history a_text a_sentence a_reader a_sounds a_playing, zo_X1 a_history a_history_saved v_history_size v_history_next, zo_X2 a_playing a_playing_places v_playing_size, zo_X4 a_score a_score_cells v_score_size, zo_X6 a_sounds a_score a_sounds_shifts a_sounds_heldTicks, zo_X4 a_history_s0 a_history_s0_cells v_history_s0_size, zo_X4 a_history_s1 a_history_s1_cells v_history_s1_size, zo_X4 a_history_s2 a_history_s2_cells v_history_s2_size, zo_X4 a_history_s3 a_history_s3_cells v_history_s3_size, (a_history_saved, .inl (zO g, 4, .inr (.inr (.inr (.inr (zSv a_history_s0 a_history_s1 a_history_s2 a_history_s3)))))), (a_playing_places, .inl (zI g, 200, .inl v_playing_places)), (a_score_cells, .inl (zI g, 912, .inl v_score_cells)), (a_sounds_heldTicks, .inl (zI g, 768, .inl v_sounds_heldTicks)), (a_sounds_shifts, .inl (zI g, 768, .inl v_sounds_shifts)), (a_history_s0_cells, .inl (zI g, 912, .inl v_history_s0_cells)), (a_history_s1_cells, .inl (zI g, 912, .inl v_history_s1_cells)), (a_history_s2_cells, .inl (zI g, 912, .inl v_history_s2_cells)), (a_history_s3_cells, .inl (zI g, 912, .inl v_history_s3_cells))]) rfl rfl rfl rfl (by decide) rfl rfl (rest := []) rfl hl.1 rfl (Nat.le_of_ble_eq_true rfl) ⟨rfl, rfl⟩ ⟨Nat.le_of_ble_eq_true rfl, Nat.le_of_ble_eq_true rfl⟩ ⟨Nat.le_of_ble_eq_true rfl, Nat.le_of_ble_eq_true rfl⟩ dX9_addNote_25 htab hlocks hQ
  refine zRS F (k_X9_requireRange l N g x5 0 9 _ hr4_) zy_X9_requireRange zw_557 hP hD hS [] rfl rfl (rest := []) rfl hl.1 rfl (Nat.le_of_ble_eq_true rfl) ⟨rfl, rfl⟩ ⟨Nat.le_of_ble_eq_true rfl, Nat.le_of_ble_eq_true rfl⟩ ⟨Nat.zero_le _, Nat.zero_le _⟩ dX9_addNote_25 (st1 := []) rfl ?_
  refine lv_aload_n hx hb dX9_addNote_28 rfl (lv_at hl 0 rfl) ?_
  refine lv_iload_n hx hb dX9_addNote_29 rfl (lv_at hl 1 rfl) ?_
  refine lv_iload_n hx hb dX9_addNote_30 rfl (lv_at hl 2 rfl) ?_
  refine z_subR h (fun h => ?_) (fun r5_ hr5_ h => ?_)
  · exact zXV F (kx_X9_requireRoom l N g a_this a_score a_history a_text a_sentence a_reader a_sounds a_playing a_score_cells v_score_size v_score_cells x1 x2 _ h hfl) hN zy_X9_requireRoom zw_559 hP hD hS [0, 3, 11] [1, 2, 4, 5, 6, 7, 8, 9, 10, 12, 13, 14, 15, 16, 17] [15, 0, 1, 16, 2, 3, 4, 5, 6, 7, 8, 17, 9, 10, 11, 12, 13, 14] (wr := [zo_X1 a_history a_history_saved v_history_size v_history_next, zo_X2 a_playing a_playing_places v_playing_size, zo_X6 a_sounds a_score a_sounds_shifts a_sounds_heldTicks, zo_X4 a_history_s0 a_history_s0_cells v_history_s0_size, zo_X4 a_history_s1 a_history_s1_cells v_history_s1_size, zo_X4 a_history_s2 a_history_s2_cells v_history_s2_size, zo_X4 a_history_s3 a_history_s3_cells v_history_s3_size, (a_history_saved, .inl (zO g, 4, .inr (.inr (.inr (.inr (zSv a_history_s0 a_history_s1 a_history_s2 a_history_s3)))))), (a_playing_places, .inl (zI g, 200, .inl v_playing_places)), (a_sounds_heldTicks, .inl (zI g, 768, .inl v_sounds_heldTicks)), (a_sounds_shifts, .inl (zI g, 768, .inl v_sounds_shifts)), (a_history_s0_cells, .inl (zI g, 912, .inl v_history_s0_cells)), (a_history_s1_cells, .inl (zI g, 912, .inl v_history_s1_cells)), (a_history_s2_cells, .inl (zI g, 912, .inl v_history_s2_cells)), (a_history_s3_cells, .inl (zI g, 912, .inl v_history_s3_cells))]) (W1 := [zo_X9 a_this a_score a_history a_text a_sentence a_reader a_sounds a_playing, zo_X1 a_history a_history_saved v_history_size v_history_next, zo_X2 a_playing a_playing_places v_playing_size, zo_X4 a_score a_score_cells v_score_size, zo_X6 a_sounds a_score a_sounds_shifts a_sounds_heldTicks, zo_X4 a_history_s0 a_history_s0_cells v_history_s0_size, zo_X4 a_history_s1 a_history_s1_cells v_history_s1_size, zo_X4 a_history_s2 a_history_s2_cells v_history_s2_size, zo_X4 a_history_s3 a_history_s3_cells v_history_s3_size, (a_history_saved, .inl (zO g, 4, .inr (.inr (.inr (.inr (zSv a_history_s0 a_history_s1 a_history_s2 a_history_s3)))))), (a_playing_places, .inl (zI g, 200, .inl v_playing_places)), (a_score_cells, .inl (zI g, 912, .inl v_score_cells)), (a_sounds_heldTicks, .inl (zI g, 768, .inl v_sounds_heldTicks)), (a_sounds_shifts, .inl (zI g, 768, .inl v_sounds_shifts)), (a_history_s0_cells, .inl (zI g, 912, .inl v_history_s0_cells)), (a_history_s1_cells, .inl (zI g, 912, .inl v_history_s1_cells)), (a_history_s2_cells, .inl (zI g, 912, .inl v_history_s2_cells)), (a_history_s3_cells, .inl (zI g, 912, .inl v_history_s3_cells))]) rfl rfl rfl rfl (by decide) rfl rfl (q0 := 0) (he := rfl) (hc := rfl) (rest := []) rfl hl.1 rfl (Nat.le_of_ble_eq_true rfl) ⟨rfl, rfl⟩ ⟨Nat.le_of_ble_eq_true rfl, Nat.le_of_ble_eq_true rfl⟩ ⟨Nat.le_of_ble_eq_true rfl, Nat.le_of_ble_eq_true rfl⟩ dX9_addNote_31 htab hlocks hQ
  refine zRV F (k_X9_requireRoom l N g a_this a_score a_history a_text a_sentence a_reader a_sounds a_playing a_score_cells v_score_size v_score_cells x1 x2 _ hr5_) zy_X9_requireRoom zw_559 hP hD hS [0, 3, 11] rfl rfl (q0 := 0) (he := rfl) (hc := rfl) (rest := []) rfl hl.1 rfl (Nat.le_of_ble_eq_true rfl) ⟨rfl, rfl⟩ ⟨Nat.le_of_ble_eq_true rfl, Nat.le_of_ble_eq_true rfl⟩ ⟨Nat.zero_le _, Nat.zero_le _⟩ dX9_addNote_31 (st1 := []) rfl ?_
  refine lv_aload_n hx hb dX9_addNote_34 rfl (lv_at hl 0 rfl) ?_
  refine z_get (C := RX9) (T := TX9) (N := 7) (ci := 7) F zu_wsX90 hP 0 rfl rfl 1 (by decide) zw_481 rfl dX9_addNote_35 ?_
  refine lv_aload_n hx hb dX9_addNote_38 rfl (lv_at hl 0 rfl) ?_
  refine z_get (C := RX9) (T := TX9) (N := 7) (ci := 7) F zu_wsX90 hP 0 rfl rfl 0 (by decide) zw_478 rfl dX9_addNote_39 ?_
  obtain ⟨r6_, hr6_, h⟩ := z_bind h
  refine zVV F (k_X1_push l N g a_history a_history_saved a_history_s0 a_history_s1 a_history_s2 a_history_s3 a_history_s0_cells a_history_s1_cells a_history_s2_cells a_history_s3_cells a_score a_score_cells v_history_next v_history_size v_history_s0_size v_history_s1_size v_history_s2_size v_history_s3_size v_history_s0_cells v_history_s1_cells v_history_s2_cells v_history_s3_cells v_score_size v_score_cells _ hr6_) zy_X1_push zw_520 hP hD hS [1, 5, 6, 7, 8, 9, 14, 15, 16, 17, 3, 11] [0, 2, 4, 10, 12, 13] [0, 6, 1, 16, 2, 7, 8, 9, 10, 11, 3, 17, 4, 5, 12, 13, 14, 15] (wr := [zo_X9 a_this a_score a_history a_text a_sentence a_reader a_sounds a_playing, zo_X2 a_playing a_playing_places v_playing_size, zo_X6 a_sounds a_score a_sounds_shifts a_sounds_heldTicks, (a_playing_places, .inl (zI g, 200, .inl v_playing_places)), (a_sounds_heldTicks, .inl (zI g, 768, .inl v_sounds_heldTicks)), (a_sounds_shifts, .inl (zI g, 768, .inl v_sounds_shifts))]) (W1 := [zo_X9 a_this a_score a_history a_text a_sentence a_reader a_sounds a_playing, zo_X1 a_history a_history_saved r6_.2.1 r6_.1, zo_X2 a_playing a_playing_places v_playing_size, zo_X4 a_score a_score_cells v_score_size, zo_X6 a_sounds a_score a_sounds_shifts a_sounds_heldTicks, zo_X4 a_history_s0 a_history_s0_cells r6_.2.2.1, zo_X4 a_history_s1 a_history_s1_cells r6_.2.2.2.1, zo_X4 a_history_s2 a_history_s2_cells r6_.2.2.2.2.1, zo_X4 a_history_s3 a_history_s3_cells r6_.2.2.2.2.2.1, (a_history_saved, .inl (zO g, 4, .inr (.inr (.inr (.inr (zSv a_history_s0 a_history_s1 a_history_s2 a_history_s3)))))), (a_playing_places, .inl (zI g, 200, .inl v_playing_places)), (a_score_cells, .inl (zI g, 912, .inl v_score_cells)), (a_sounds_heldTicks, .inl (zI g, 768, .inl v_sounds_heldTicks)), (a_sounds_shifts, .inl (zI g, 768, .inl v_sounds_shifts)), (a_history_s0_cells, .inl (zI g, 912, .inl r6_.2.2.2.2.2.2.1)), (a_history_s1_cells, .inl (zI g, 912, .inl r6_.2.2.2.2.2.2.2.1)), (a_history_s2_cells, .inl (zI g, 912, .inl r6_.2.2.2.2.2.2.2.2.1)), (a_history_s3_cells, .inl (zI g, 912, .inl r6_.2.2.2.2.2.2.2.2.2))]) rfl rfl rfl rfl (by decide) rfl rfl (q0 := 1) (he := rfl) (hc := rfl) (rest := []) rfl hl.1 rfl (Nat.le_of_ble_eq_true rfl) ⟨rfl, rfl⟩ ⟨Nat.le_of_ble_eq_true rfl, Nat.le_of_ble_eq_true rfl⟩ ⟨Nat.zero_le _, Nat.zero_le _⟩ dX9_addNote_42 (st1 := []) rfl (fun H locs hP hD hS => ?_)
  refine lv_aload_n hx hb dX9_addNote_45 rfl (lv_at hl 0 rfl) ?_
  refine z_get (C := RX9) (T := TX9) (N := 7) (ci := 7) F zu_wsX90 hP 0 rfl rfl 0 (by decide) zw_478 rfl dX9_addNote_46 ?_
  refine lv_iload_n hx hb dX9_addNote_49 rfl (lv_at hl 1 rfl) ?_
  refine lv_iload_n hx hb dX9_addNote_50 rfl (lv_at hl 2 rfl) ?_
  refine lv_iload_n hx hb dX9_addNote_51 rfl (lv_at hl 3 rfl) ?_
  refine lv_iload hx hb dX9_addNote_52 (lv_at hl 4 rfl) ?_
  refine lv_iload hx hb dX9_addNote_54 (lv_at hl 5 rfl) ?_
  refine lv_iload hx hb dX9_addNote_56 (lv_at hl 6 rfl) ?_
  obtain ⟨r7_, hr7_, h⟩ := z_bind h
  refine zRS F (k_X0_ofNote l N g x3 x4 x5 x6 _ hr7_) zy_X0_ofNote zw_562 hP hD hS [] rfl rfl (rest := [.int x2, .int x1, .ref a_score]) rfl hl.1 rfl (Nat.le_of_ble_eq_true rfl) ⟨rfl, rfl⟩ ⟨Nat.le_of_ble_eq_true rfl, Nat.le_of_ble_eq_true rfl⟩ ⟨Nat.zero_le _, Nat.zero_le _⟩ dX9_addNote_58 (st1 := [.int r7_, .int x2, .int x1, .ref a_score]) rfl ?_
  obtain ⟨r8_, hr8_, h⟩ := z_bind h
  refine zVV F (k_X4_appendEvent l N g a_score a_score_cells v_score_size v_score_cells x1 x2 r7_ _ hr8_) zy_X4_appendEvent zw_563 hP hD hS [3, 11] [0, 1, 2, 4, 5, 6, 7, 8, 9, 10, 12, 13, 14, 15, 16, 17] [0, 1, 2, 16, 3, 4, 5, 6, 7, 8, 9, 17, 10, 11, 12, 13, 14, 15] (wr := [zo_X9 a_this a_score a_history a_text a_sentence a_reader a_sounds a_playing, zo_X1 a_history a_history_saved r6_.2.1 r6_.1, zo_X2 a_playing a_playing_places v_playing_size, zo_X6 a_sounds a_score a_sounds_shifts a_sounds_heldTicks, zo_X4 a_history_s0 a_history_s0_cells r6_.2.2.1, zo_X4 a_history_s1 a_history_s1_cells r6_.2.2.2.1, zo_X4 a_history_s2 a_history_s2_cells r6_.2.2.2.2.1, zo_X4 a_history_s3 a_history_s3_cells r6_.2.2.2.2.2.1, (a_history_saved, .inl (zO g, 4, .inr (.inr (.inr (.inr (zSv a_history_s0 a_history_s1 a_history_s2 a_history_s3)))))), (a_playing_places, .inl (zI g, 200, .inl v_playing_places)), (a_sounds_heldTicks, .inl (zI g, 768, .inl v_sounds_heldTicks)), (a_sounds_shifts, .inl (zI g, 768, .inl v_sounds_shifts)), (a_history_s0_cells, .inl (zI g, 912, .inl r6_.2.2.2.2.2.2.1)), (a_history_s1_cells, .inl (zI g, 912, .inl r6_.2.2.2.2.2.2.2.1)), (a_history_s2_cells, .inl (zI g, 912, .inl r6_.2.2.2.2.2.2.2.2.1)), (a_history_s3_cells, .inl (zI g, 912, .inl r6_.2.2.2.2.2.2.2.2.2))]) (W1 := [zo_X9 a_this a_score a_history a_text a_sentence a_reader a_sounds a_playing, zo_X1 a_history a_history_saved r6_.2.1 r6_.1, zo_X2 a_playing a_playing_places v_playing_size, zo_X4 a_score a_score_cells v_score_size, zo_X6 a_sounds a_score a_sounds_shifts a_sounds_heldTicks, zo_X4 a_history_s0 a_history_s0_cells r6_.2.2.1, zo_X4 a_history_s1 a_history_s1_cells r6_.2.2.2.1, zo_X4 a_history_s2 a_history_s2_cells r6_.2.2.2.2.1, zo_X4 a_history_s3 a_history_s3_cells r6_.2.2.2.2.2.1, (a_history_saved, .inl (zO g, 4, .inr (.inr (.inr (.inr (zSv a_history_s0 a_history_s1 a_history_s2 a_history_s3)))))), (a_playing_places, .inl (zI g, 200, .inl v_playing_places)), (a_score_cells, .inl (zI g, 912, .inl r8_)), (a_sounds_heldTicks, .inl (zI g, 768, .inl v_sounds_heldTicks)), (a_sounds_shifts, .inl (zI g, 768, .inl v_sounds_shifts)), (a_history_s0_cells, .inl (zI g, 912, .inl r6_.2.2.2.2.2.2.1)), (a_history_s1_cells, .inl (zI g, 912, .inl r6_.2.2.2.2.2.2.2.1)), (a_history_s2_cells, .inl (zI g, 912, .inl r6_.2.2.2.2.2.2.2.2.1)), (a_history_s3_cells, .inl (zI g, 912, .inl r6_.2.2.2.2.2.2.2.2.2))]) rfl rfl rfl rfl (by decide) rfl rfl (q0 := 3) (he := rfl) (hc := rfl) (rest := []) rfl hl.1 rfl (Nat.le_of_ble_eq_true rfl) ⟨rfl, rfl⟩ ⟨Nat.le_of_ble_eq_true rfl, Nat.le_of_ble_eq_true rfl⟩ ⟨Nat.zero_le _, Nat.zero_le _⟩ dX9_addNote_61 (st1 := []) rfl (fun H locs hP hD hS => ?_)
  refine lv_aload_n hx hb dX9_addNote_64 rfl (lv_at hl 0 rfl) ?_
  obtain ⟨r9_, hr9_, h⟩ := z_bind h
  refine zVV F (k_X9_settle l N g a_this a_score a_history a_text a_sentence a_reader a_sounds a_playing a_playing_places a_score_cells a_sounds_shifts a_sounds_heldTicks v_playing_size v_score_size v_playing_places r8_ v_sounds_heldTicks v_sounds_shifts _ hr9_) zy_X9_settle zw_524 hP hD hS [0, 2, 3, 4, 10, 11, 12, 13] [1, 5, 6, 7, 8, 9, 14, 15, 16, 17] [10, 0, 11, 12, 13, 1, 2, 3, 4, 5, 14, 15, 16, 17, 6, 7, 8, 9] (wr := [zo_X1 a_history a_history_saved r6_.2.1 r6_.1, zo_X4 a_history_s0 a_history_s0_cells r6_.2.2.1, zo_X4 a_history_s1 a_history_s1_cells r6_.2.2.2.1, zo_X4 a_history_s2 a_history_s2_cells r6_.2.2.2.2.1, zo_X4 a_history_s3 a_history_s3_cells r6_.2.2.2.2.2.1, (a_history_saved, .inl (zO g, 4, .inr (.inr (.inr (.inr (zSv a_history_s0 a_history_s1 a_history_s2 a_history_s3)))))), (a_history_s0_cells, .inl (zI g, 912, .inl r6_.2.2.2.2.2.2.1)), (a_history_s1_cells, .inl (zI g, 912, .inl r6_.2.2.2.2.2.2.2.1)), (a_history_s2_cells, .inl (zI g, 912, .inl r6_.2.2.2.2.2.2.2.2.1)), (a_history_s3_cells, .inl (zI g, 912, .inl r6_.2.2.2.2.2.2.2.2.2))]) (W1 := [zo_X9 a_this a_score a_history a_text a_sentence a_reader a_sounds a_playing, zo_X1 a_history a_history_saved r6_.2.1 r6_.1, zo_X2 a_playing a_playing_places r9_.1, zo_X4 a_score a_score_cells v_score_size, zo_X6 a_sounds a_score a_sounds_shifts a_sounds_heldTicks, zo_X4 a_history_s0 a_history_s0_cells r6_.2.2.1, zo_X4 a_history_s1 a_history_s1_cells r6_.2.2.2.1, zo_X4 a_history_s2 a_history_s2_cells r6_.2.2.2.2.1, zo_X4 a_history_s3 a_history_s3_cells r6_.2.2.2.2.2.1, (a_history_saved, .inl (zO g, 4, .inr (.inr (.inr (.inr (zSv a_history_s0 a_history_s1 a_history_s2 a_history_s3)))))), (a_playing_places, .inl (zI g, 200, .inl r9_.2.1)), (a_score_cells, .inl (zI g, 912, .inl r8_)), (a_sounds_heldTicks, .inl (zI g, 768, .inl r9_.2.2.1)), (a_sounds_shifts, .inl (zI g, 768, .inl r9_.2.2.2)), (a_history_s0_cells, .inl (zI g, 912, .inl r6_.2.2.2.2.2.2.1)), (a_history_s1_cells, .inl (zI g, 912, .inl r6_.2.2.2.2.2.2.2.1)), (a_history_s2_cells, .inl (zI g, 912, .inl r6_.2.2.2.2.2.2.2.2.1)), (a_history_s3_cells, .inl (zI g, 912, .inl r6_.2.2.2.2.2.2.2.2.2))]) rfl rfl rfl rfl (by decide) rfl rfl (q0 := 0) (he := rfl) (hc := rfl) (rest := []) rfl hl.1 rfl (Nat.le_of_ble_eq_true rfl) ⟨rfl, rfl⟩ ⟨Nat.le_of_ble_eq_true rfl, Nat.le_of_ble_eq_true rfl⟩ ⟨Nat.zero_le _, Nat.zero_le _⟩ dX9_addNote_65 (st1 := []) rfl (fun H locs hP hD hS => ?_)
  refine lv_aload_n hx hb dX9_addNote_68 rfl (lv_at hl 0 rfl) ?_
  refine z_get (C := RX9) (T := TX9) (N := 7) (ci := 7) F zu_wsX90 hP 0 rfl rfl 0 (by decide) zw_478 rfl dX9_addNote_69 ?_
  refine lv_iload_n hx hb dX9_addNote_72 rfl (lv_at hl 1 rfl) ?_
  refine lv_iload_n hx hb dX9_addNote_73 rfl (lv_at hl 2 rfl) ?_
  obtain ⟨r10_, hr10_, h⟩ := z_bind h
  refine zRV F (k_X4_count l N g a_score a_score_cells v_score_size r8_ x1 x2 _ hr10_) zy_X4_count zw_552 hP hD hS [3, 11] rfl rfl (q0 := 3) (he := rfl) (hc := rfl) (rest := []) rfl hl.1 rfl (Nat.le_of_ble_eq_true rfl) ⟨rfl, rfl⟩ ⟨Nat.le_of_ble_eq_true rfl, Nat.le_of_ble_eq_true rfl⟩ ⟨Nat.zero_le _, Nat.zero_le _⟩ dX9_addNote_74 (st1 := [.int r10_]) rfl ?_
  cases h
def f_X9_addRest (N : Nat) (v_history_next : Int32) (v_history_size : Int32) (v_playing_size : Int32) (v_score_size : Int32) (v_history_s0_size : Int32) (v_history_s1_size : Int32) (v_history_s2_size : Int32) (v_history_s3_size : Int32) (v_playing_places : Nat → Int32) (v_score_cells : Nat → Int32) (v_sounds_heldTicks : Nat → Int32) (v_sounds_shifts : Nat → Int32) (v_history_s0_cells : Nat → Int32) (v_history_s1_cells : Nat → Int32) (v_history_s2_cells : Nat → Int32) (v_history_s3_cells : Nat → Int32) (x1 : Int32) (x2 : Int32) (x3 : Int32) : Option ((Int32 × Int32 × Int32 × Int32 × Int32 × Int32 × Int32 × Int32 × (Nat → Int32) × (Nat → Int32) × (Nat → Int32) × (Nat → Int32) × (Nat → Int32) × (Nat → Int32) × (Nat → Int32) × (Nat → Int32)) ⊕ Nat) :=
  zSub (f_X9_requireVoice N v_score_size x1 x2) (fun (r1_ : Unit) => zSub (f_X9_requireRange N x3 0 9) (fun (r2_ : Unit) => zSub (f_X9_requireRoom N v_score_size v_score_cells x1 x2) (fun (r3_ : Unit) => Option.bind (f_X1_push N v_history_next v_history_size v_history_s0_size v_history_s1_size v_history_s2_size v_history_s3_size v_history_s0_cells v_history_s1_cells v_history_s2_cells v_history_s3_cells v_score_size v_score_cells) (fun (r4_ : Int32 × Int32 × Int32 × Int32 × Int32 × Int32 × (Nat → Int32) × (Nat → Int32) × (Nat → Int32) × (Nat → Int32)) => Option.bind (f_X0_ofRest N x3) (fun (r5_ : Int32) => Option.bind (f_X4_appendEvent N v_score_size v_score_cells x1 x2 r5_) (fun (r6_ : (Nat → Int32)) => Option.bind (f_X9_settle N v_playing_size v_score_size v_playing_places r6_ v_sounds_heldTicks v_sounds_shifts) (fun (r7_ : Int32 × (Nat → Int32) × (Nat → Int32) × (Nat → Int32)) => Option.bind (f_X4_count N v_score_size r6_ x1 x2) (fun (r8_ : Int32) => some (Sum.inl (r8_, r4_.1, r4_.2.1, r7_.1, r4_.2.2.1, r4_.2.2.2.1, r4_.2.2.2.2.1, r4_.2.2.2.2.2.1, r7_.2.1, r6_, r7_.2.2.1, r7_.2.2.2, r4_.2.2.2.2.2.2.1, r4_.2.2.2.2.2.2.2.1, r4_.2.2.2.2.2.2.2.2.1, r4_.2.2.2.2.2.2.2.2.2))))))))))
abbrev rm_X9_addRest : Room := { frames := 7, cells := 0, slots := 0, locals := 170 }
theorem zy_X9_addRest : zYv yX9_addRest RX9 cX9_addRest 4 (some .int) 3 := ⟨zw_776, zw_777, zw_527, zw_566, ⟨by decide, by decide⟩, by decide +kernel⟩
set_option maxHeartbeats 4000000 in
set_option maxRecDepth 100000 in
theorem k_X9_addRest (l : Launch) (N : Nat) (g : zEnv) (a_this a_score a_history a_text a_sentence a_reader a_sounds a_playing a_history_saved a_history_s0 a_history_s1 a_history_s2 a_history_s3 a_playing_places a_score_cells a_sounds_shifts a_sounds_heldTicks a_history_s0_cells a_history_s1_cells a_history_s2_cells a_history_s3_cells : Nat) (v_history_next : Int32) (v_history_size : Int32) (v_playing_size : Int32) (v_score_size : Int32) (v_history_s0_size : Int32) (v_history_s1_size : Int32) (v_history_s2_size : Int32) (v_history_s3_size : Int32) (v_playing_places : Nat → Int32) (v_score_cells : Nat → Int32) (v_sounds_heldTicks : Nat → Int32) (v_sounds_shifts : Nat → Int32) (v_history_s0_cells : Nat → Int32) (v_history_s1_cells : Nat → Int32) (v_history_s2_cells : Nat → Int32) (v_history_s3_cells : Nat → Int32) (x1 : Int32) (x2 : Int32) (x3 : Int32) (r : Int32 × Int32 × Int32 × Int32 × Int32 × Int32 × Int32 × Int32 × (Nat → Int32) × (Nat → Int32) × (Nat → Int32) × (Nat → Int32) × (Nat → Int32) × (Nat → Int32) × (Nat → Int32) × (Nat → Int32)) (h : f_X9_addRest N v_history_next v_history_size v_playing_size v_score_size v_history_s0_size v_history_s1_size v_history_s2_size v_history_s3_size v_playing_places v_score_cells v_sounds_heldTicks v_sounds_shifts v_history_s0_cells v_history_s1_cells v_history_s2_cells v_history_s3_cells x1 x2 x3 = some (Sum.inl r)) : ZV l yX9_addRest cX9_addRest 4 (some .int) rm_X9_addRest g [.ref a_this, .int x1, .int x2, .int x3] [zo_X9 a_this a_score a_history a_text a_sentence a_reader a_sounds a_playing, zo_X1 a_history a_history_saved v_history_size v_history_next, zo_X2 a_playing a_playing_places v_playing_size, zo_X4 a_score a_score_cells v_score_size, zo_X6 a_sounds a_score a_sounds_shifts a_sounds_heldTicks, zo_X4 a_history_s0 a_history_s0_cells v_history_s0_size, zo_X4 a_history_s1 a_history_s1_cells v_history_s1_size, zo_X4 a_history_s2 a_history_s2_cells v_history_s2_size, zo_X4 a_history_s3 a_history_s3_cells v_history_s3_size, (a_history_saved, .inl (zO g, 4, .inr (.inr (.inr (.inr (zSv a_history_s0 a_history_s1 a_history_s2 a_history_s3)))))), (a_playing_places, .inl (zI g, 200, .inl v_playing_places)), (a_score_cells, .inl (zI g, 912, .inl v_score_cells)), (a_sounds_heldTicks, .inl (zI g, 768, .inl v_sounds_heldTicks)), (a_sounds_shifts, .inl (zI g, 768, .inl v_sounds_shifts)), (a_history_s0_cells, .inl (zI g, 912, .inl v_history_s0_cells)), (a_history_s1_cells, .inl (zI g, 912, .inl v_history_s1_cells)), (a_history_s2_cells, .inl (zI g, 912, .inl v_history_s2_cells)), (a_history_s3_cells, .inl (zI g, 912, .inl v_history_s3_cells))] [zo_X9 a_this a_score a_history a_text a_sentence a_reader a_sounds a_playing, zo_X1 a_history a_history_saved r.2.2.1 r.2.1, zo_X2 a_playing a_playing_places r.2.2.2.1, zo_X4 a_score a_score_cells v_score_size, zo_X6 a_sounds a_score a_sounds_shifts a_sounds_heldTicks, zo_X4 a_history_s0 a_history_s0_cells r.2.2.2.2.1, zo_X4 a_history_s1 a_history_s1_cells r.2.2.2.2.2.1, zo_X4 a_history_s2 a_history_s2_cells r.2.2.2.2.2.2.1, zo_X4 a_history_s3 a_history_s3_cells r.2.2.2.2.2.2.2.1, (a_history_saved, .inl (zO g, 4, .inr (.inr (.inr (.inr (zSv a_history_s0 a_history_s1 a_history_s2 a_history_s3)))))), (a_playing_places, .inl (zI g, 200, .inl r.2.2.2.2.2.2.2.2.1)), (a_score_cells, .inl (zI g, 912, .inl r.2.2.2.2.2.2.2.2.2.1)), (a_sounds_heldTicks, .inl (zI g, 768, .inl r.2.2.2.2.2.2.2.2.2.2.1)), (a_sounds_shifts, .inl (zI g, 768, .inl r.2.2.2.2.2.2.2.2.2.2.2.1)), (a_history_s0_cells, .inl (zI g, 912, .inl r.2.2.2.2.2.2.2.2.2.2.2.2.1)), (a_history_s1_cells, .inl (zI g, 912, .inl r.2.2.2.2.2.2.2.2.2.2.2.2.2.1)), (a_history_s2_cells, .inl (zI g, 912, .inl r.2.2.2.2.2.2.2.2.2.2.2.2.2.2.1)), (a_history_s3_cells, .inl (zI g, 912, .inl r.2.2.2.2.2.2.2.2.2.2.2.2.2.2.2))] (some (.int r.1)) := by
  refine zV_of (by decide) (Nat.le_of_ble_eq_true rfl) ?_
  intro p e s m below meth c A H locs ls Q R F hRm hr hlocks hP hD hS hl hQ
  subst hRm
  have F : zF p m c cX9_addRest 4 s (([.ref a_this, .int x1, .int x2, .int x3] : List Value)).toArray RX9 g A := F
  have hx := F.1.1
  have hb := F.1.2.1
  have hz := F.1.2.2.2.2
  have hl : lv_has ls 4 [(0, .ref a_this), (1, .int x1), (2, .int x2), (3, .int x3)] := hl
  unfold f_X9_addRest at h
  refine lv_aload_n hx hb dX9_addRest_0 rfl (lv_at hl 0 rfl) ?_
  refine lv_iload_n hx hb dX9_addRest_1 rfl (lv_at hl 1 rfl) ?_
  refine lv_iload_n hx hb dX9_addRest_2 rfl (lv_at hl 2 rfl) ?_
  obtain ⟨r1_, hr1_, h⟩ := z_subL h
  refine zRV F (k_X9_requireVoice l N g a_this a_score a_history a_text a_sentence a_reader a_sounds a_playing a_score_cells v_score_size x1 x2 _ hr1_) zy_X9_requireVoice zw_554 hP hD hS [0, 3] rfl rfl (q0 := 0) (he := rfl) (hc := rfl) (rest := []) rfl hl.1 rfl (Nat.le_of_ble_eq_true rfl) ⟨rfl, rfl⟩ ⟨Nat.le_of_ble_eq_true rfl, Nat.le_of_ble_eq_true rfl⟩ ⟨Nat.zero_le _, Nat.zero_le _⟩ dX9_addRest_3 (st1 := []) rfl ?_
  refine lv_iload_n hx hb dX9_addRest_6 rfl (lv_at hl 3 rfl) ?_
  refine lv_iconst (v := 0) hx hb dX9_addRest_7 (by decide) ?_
  refine lv_bipush (v := 9) hx hb dX9_addRest_8 (by decide) ?_
  obtain ⟨r2_, hr2_, h⟩ := z_subL h
  refine zRS F (k_X9_requireRange l N g x3 0 9 _ hr2_) zy_X9_requireRange zw_557 hP hD hS [] rfl rfl (rest := []) rfl hl.1 rfl (Nat.le_of_ble_eq_true rfl) ⟨rfl, rfl⟩ ⟨Nat.le_of_ble_eq_true rfl, Nat.le_of_ble_eq_true rfl⟩ ⟨Nat.zero_le _, Nat.zero_le _⟩ dX9_addRest_10 (st1 := []) rfl ?_
  refine lv_aload_n hx hb dX9_addRest_13 rfl (lv_at hl 0 rfl) ?_
  refine lv_iload_n hx hb dX9_addRest_14 rfl (lv_at hl 1 rfl) ?_
  refine lv_iload_n hx hb dX9_addRest_15 rfl (lv_at hl 2 rfl) ?_
  obtain ⟨r3_, hr3_, h⟩ := z_subL h
  refine zRV F (k_X9_requireRoom l N g a_this a_score a_history a_text a_sentence a_reader a_sounds a_playing a_score_cells v_score_size v_score_cells x1 x2 _ hr3_) zy_X9_requireRoom zw_559 hP hD hS [0, 3, 11] rfl rfl (q0 := 0) (he := rfl) (hc := rfl) (rest := []) rfl hl.1 rfl (Nat.le_of_ble_eq_true rfl) ⟨rfl, rfl⟩ ⟨Nat.le_of_ble_eq_true rfl, Nat.le_of_ble_eq_true rfl⟩ ⟨Nat.zero_le _, Nat.zero_le _⟩ dX9_addRest_16 (st1 := []) rfl ?_
  refine lv_aload_n hx hb dX9_addRest_19 rfl (lv_at hl 0 rfl) ?_
  refine z_get (C := RX9) (T := TX9) (N := 7) (ci := 7) F zu_wsX90 hP 0 rfl rfl 1 (by decide) zw_481 rfl dX9_addRest_20 ?_
  refine lv_aload_n hx hb dX9_addRest_23 rfl (lv_at hl 0 rfl) ?_
  refine z_get (C := RX9) (T := TX9) (N := 7) (ci := 7) F zu_wsX90 hP 0 rfl rfl 0 (by decide) zw_478 rfl dX9_addRest_24 ?_
  obtain ⟨r4_, hr4_, h⟩ := z_bind h
  refine zVV F (k_X1_push l N g a_history a_history_saved a_history_s0 a_history_s1 a_history_s2 a_history_s3 a_history_s0_cells a_history_s1_cells a_history_s2_cells a_history_s3_cells a_score a_score_cells v_history_next v_history_size v_history_s0_size v_history_s1_size v_history_s2_size v_history_s3_size v_history_s0_cells v_history_s1_cells v_history_s2_cells v_history_s3_cells v_score_size v_score_cells _ hr4_) zy_X1_push zw_520 hP hD hS [1, 5, 6, 7, 8, 9, 14, 15, 16, 17, 3, 11] [0, 2, 4, 10, 12, 13] [0, 6, 1, 16, 2, 7, 8, 9, 10, 11, 3, 17, 4, 5, 12, 13, 14, 15] (wr := [zo_X9 a_this a_score a_history a_text a_sentence a_reader a_sounds a_playing, zo_X2 a_playing a_playing_places v_playing_size, zo_X6 a_sounds a_score a_sounds_shifts a_sounds_heldTicks, (a_playing_places, .inl (zI g, 200, .inl v_playing_places)), (a_sounds_heldTicks, .inl (zI g, 768, .inl v_sounds_heldTicks)), (a_sounds_shifts, .inl (zI g, 768, .inl v_sounds_shifts))]) (W1 := [zo_X9 a_this a_score a_history a_text a_sentence a_reader a_sounds a_playing, zo_X1 a_history a_history_saved r4_.2.1 r4_.1, zo_X2 a_playing a_playing_places v_playing_size, zo_X4 a_score a_score_cells v_score_size, zo_X6 a_sounds a_score a_sounds_shifts a_sounds_heldTicks, zo_X4 a_history_s0 a_history_s0_cells r4_.2.2.1, zo_X4 a_history_s1 a_history_s1_cells r4_.2.2.2.1, zo_X4 a_history_s2 a_history_s2_cells r4_.2.2.2.2.1, zo_X4 a_history_s3 a_history_s3_cells r4_.2.2.2.2.2.1, (a_history_saved, .inl (zO g, 4, .inr (.inr (.inr (.inr (zSv a_history_s0 a_history_s1 a_history_s2 a_history_s3)))))), (a_playing_places, .inl (zI g, 200, .inl v_playing_places)), (a_score_cells, .inl (zI g, 912, .inl v_score_cells)), (a_sounds_heldTicks, .inl (zI g, 768, .inl v_sounds_heldTicks)), (a_sounds_shifts, .inl (zI g, 768, .inl v_sounds_shifts)), (a_history_s0_cells, .inl (zI g, 912, .inl r4_.2.2.2.2.2.2.1)), (a_history_s1_cells, .inl (zI g, 912, .inl r4_.2.2.2.2.2.2.2.1)), (a_history_s2_cells, .inl (zI g, 912, .inl r4_.2.2.2.2.2.2.2.2.1)), (a_history_s3_cells, .inl (zI g, 912, .inl r4_.2.2.2.2.2.2.2.2.2))]) rfl rfl rfl rfl (by decide) rfl rfl (q0 := 1) (he := rfl) (hc := rfl) (rest := []) rfl hl.1 rfl (Nat.le_of_ble_eq_true rfl) ⟨rfl, rfl⟩ ⟨Nat.le_of_ble_eq_true rfl, Nat.le_of_ble_eq_true rfl⟩ ⟨Nat.zero_le _, Nat.zero_le _⟩ dX9_addRest_27 (st1 := []) rfl (fun H locs hP hD hS => ?_)
  refine lv_aload_n hx hb dX9_addRest_30 rfl (lv_at hl 0 rfl) ?_
  refine z_get (C := RX9) (T := TX9) (N := 7) (ci := 7) F zu_wsX90 hP 0 rfl rfl 0 (by decide) zw_478 rfl dX9_addRest_31 ?_
  refine lv_iload_n hx hb dX9_addRest_34 rfl (lv_at hl 1 rfl) ?_
  refine lv_iload_n hx hb dX9_addRest_35 rfl (lv_at hl 2 rfl) ?_
  refine lv_iload_n hx hb dX9_addRest_36 rfl (lv_at hl 3 rfl) ?_
  obtain ⟨r5_, hr5_, h⟩ := z_bind h
  refine zRS F (k_X0_ofRest l N g x3 _ hr5_) zy_X0_ofRest zw_565 hP hD hS [] rfl rfl (rest := [.int x2, .int x1, .ref a_score]) rfl hl.1 rfl (Nat.le_of_ble_eq_true rfl) ⟨rfl, rfl⟩ ⟨Nat.le_of_ble_eq_true rfl, Nat.le_of_ble_eq_true rfl⟩ ⟨Nat.zero_le _, Nat.zero_le _⟩ dX9_addRest_37 (st1 := [.int r5_, .int x2, .int x1, .ref a_score]) rfl ?_
  obtain ⟨r6_, hr6_, h⟩ := z_bind h
  refine zVV F (k_X4_appendEvent l N g a_score a_score_cells v_score_size v_score_cells x1 x2 r5_ _ hr6_) zy_X4_appendEvent zw_563 hP hD hS [3, 11] [0, 1, 2, 4, 5, 6, 7, 8, 9, 10, 12, 13, 14, 15, 16, 17] [0, 1, 2, 16, 3, 4, 5, 6, 7, 8, 9, 17, 10, 11, 12, 13, 14, 15] (wr := [zo_X9 a_this a_score a_history a_text a_sentence a_reader a_sounds a_playing, zo_X1 a_history a_history_saved r4_.2.1 r4_.1, zo_X2 a_playing a_playing_places v_playing_size, zo_X6 a_sounds a_score a_sounds_shifts a_sounds_heldTicks, zo_X4 a_history_s0 a_history_s0_cells r4_.2.2.1, zo_X4 a_history_s1 a_history_s1_cells r4_.2.2.2.1, zo_X4 a_history_s2 a_history_s2_cells r4_.2.2.2.2.1, zo_X4 a_history_s3 a_history_s3_cells r4_.2.2.2.2.2.1, (a_history_saved, .inl (zO g, 4, .inr (.inr (.inr (.inr (zSv a_history_s0 a_history_s1 a_history_s2 a_history_s3)))))), (a_playing_places, .inl (zI g, 200, .inl v_playing_places)), (a_sounds_heldTicks, .inl (zI g, 768, .inl v_sounds_heldTicks)), (a_sounds_shifts, .inl (zI g, 768, .inl v_sounds_shifts)), (a_history_s0_cells, .inl (zI g, 912, .inl r4_.2.2.2.2.2.2.1)), (a_history_s1_cells, .inl (zI g, 912, .inl r4_.2.2.2.2.2.2.2.1)), (a_history_s2_cells, .inl (zI g, 912, .inl r4_.2.2.2.2.2.2.2.2.1)), (a_history_s3_cells, .inl (zI g, 912, .inl r4_.2.2.2.2.2.2.2.2.2))]) (W1 := [zo_X9 a_this a_score a_history a_text a_sentence a_reader a_sounds a_playing, zo_X1 a_history a_history_saved r4_.2.1 r4_.1, zo_X2 a_playing a_playing_places v_playing_size, zo_X4 a_score a_score_cells v_score_size, zo_X6 a_sounds a_score a_sounds_shifts a_sounds_heldTicks, zo_X4 a_history_s0 a_history_s0_cells r4_.2.2.1, zo_X4 a_history_s1 a_history_s1_cells r4_.2.2.2.1, zo_X4 a_history_s2 a_history_s2_cells r4_.2.2.2.2.1, zo_X4 a_history_s3 a_history_s3_cells r4_.2.2.2.2.2.1, (a_history_saved, .inl (zO g, 4, .inr (.inr (.inr (.inr (zSv a_history_s0 a_history_s1 a_history_s2 a_history_s3)))))), (a_playing_places, .inl (zI g, 200, .inl v_playing_places)), (a_score_cells, .inl (zI g, 912, .inl r6_)), (a_sounds_heldTicks, .inl (zI g, 768, .inl v_sounds_heldTicks)), (a_sounds_shifts, .inl (zI g, 768, .inl v_sounds_shifts)), (a_history_s0_cells, .inl (zI g, 912, .inl r4_.2.2.2.2.2.2.1)), (a_history_s1_cells, .inl (zI g, 912, .inl r4_.2.2.2.2.2.2.2.1)), (a_history_s2_cells, .inl (zI g, 912, .inl r4_.2.2.2.2.2.2.2.2.1)), (a_history_s3_cells, .inl (zI g, 912, .inl r4_.2.2.2.2.2.2.2.2.2))]) rfl rfl rfl rfl (by decide) rfl rfl (q0 := 3) (he := rfl) (hc := rfl) (rest := []) rfl hl.1 rfl (Nat.le_of_ble_eq_true rfl) ⟨rfl, rfl⟩ ⟨Nat.le_of_ble_eq_true rfl, Nat.le_of_ble_eq_true rfl⟩ ⟨Nat.zero_le _, Nat.zero_le _⟩ dX9_addRest_40 (st1 := []) rfl (fun H locs hP hD hS => ?_)
  refine lv_aload_n hx hb dX9_addRest_43 rfl (lv_at hl 0 rfl) ?_
  obtain ⟨r7_, hr7_, h⟩ := z_bind h
  refine zVV F (k_X9_settle l N g a_this a_score a_history a_text a_sentence a_reader a_sounds a_playing a_playing_places a_score_cells a_sounds_shifts a_sounds_heldTicks v_playing_size v_score_size v_playing_places r6_ v_sounds_heldTicks v_sounds_shifts _ hr7_) zy_X9_settle zw_524 hP hD hS [0, 2, 3, 4, 10, 11, 12, 13] [1, 5, 6, 7, 8, 9, 14, 15, 16, 17] [10, 0, 11, 12, 13, 1, 2, 3, 4, 5, 14, 15, 16, 17, 6, 7, 8, 9] (wr := [zo_X1 a_history a_history_saved r4_.2.1 r4_.1, zo_X4 a_history_s0 a_history_s0_cells r4_.2.2.1, zo_X4 a_history_s1 a_history_s1_cells r4_.2.2.2.1, zo_X4 a_history_s2 a_history_s2_cells r4_.2.2.2.2.1, zo_X4 a_history_s3 a_history_s3_cells r4_.2.2.2.2.2.1, (a_history_saved, .inl (zO g, 4, .inr (.inr (.inr (.inr (zSv a_history_s0 a_history_s1 a_history_s2 a_history_s3)))))), (a_history_s0_cells, .inl (zI g, 912, .inl r4_.2.2.2.2.2.2.1)), (a_history_s1_cells, .inl (zI g, 912, .inl r4_.2.2.2.2.2.2.2.1)), (a_history_s2_cells, .inl (zI g, 912, .inl r4_.2.2.2.2.2.2.2.2.1)), (a_history_s3_cells, .inl (zI g, 912, .inl r4_.2.2.2.2.2.2.2.2.2))]) (W1 := [zo_X9 a_this a_score a_history a_text a_sentence a_reader a_sounds a_playing, zo_X1 a_history a_history_saved r4_.2.1 r4_.1, zo_X2 a_playing a_playing_places r7_.1, zo_X4 a_score a_score_cells v_score_size, zo_X6 a_sounds a_score a_sounds_shifts a_sounds_heldTicks, zo_X4 a_history_s0 a_history_s0_cells r4_.2.2.1, zo_X4 a_history_s1 a_history_s1_cells r4_.2.2.2.1, zo_X4 a_history_s2 a_history_s2_cells r4_.2.2.2.2.1, zo_X4 a_history_s3 a_history_s3_cells r4_.2.2.2.2.2.1, (a_history_saved, .inl (zO g, 4, .inr (.inr (.inr (.inr (zSv a_history_s0 a_history_s1 a_history_s2 a_history_s3)))))), (a_playing_places, .inl (zI g, 200, .inl r7_.2.1)), (a_score_cells, .inl (zI g, 912, .inl r6_)), (a_sounds_heldTicks, .inl (zI g, 768, .inl r7_.2.2.1)), (a_sounds_shifts, .inl (zI g, 768, .inl r7_.2.2.2)), (a_history_s0_cells, .inl (zI g, 912, .inl r4_.2.2.2.2.2.2.1)), (a_history_s1_cells, .inl (zI g, 912, .inl r4_.2.2.2.2.2.2.2.1)), (a_history_s2_cells, .inl (zI g, 912, .inl r4_.2.2.2.2.2.2.2.2.1)), (a_history_s3_cells, .inl (zI g, 912, .inl r4_.2.2.2.2.2.2.2.2.2))]) rfl rfl rfl rfl (by decide) rfl rfl (q0 := 0) (he := rfl) (hc := rfl) (rest := []) rfl hl.1 rfl (Nat.le_of_ble_eq_true rfl) ⟨rfl, rfl⟩ ⟨Nat.le_of_ble_eq_true rfl, Nat.le_of_ble_eq_true rfl⟩ ⟨Nat.zero_le _, Nat.zero_le _⟩ dX9_addRest_44 (st1 := []) rfl (fun H locs hP hD hS => ?_)
  refine lv_aload_n hx hb dX9_addRest_47 rfl (lv_at hl 0 rfl) ?_
  refine z_get (C := RX9) (T := TX9) (N := 7) (ci := 7) F zu_wsX90 hP 0 rfl rfl 0 (by decide) zw_478 rfl dX9_addRest_48 ?_
  refine lv_iload_n hx hb dX9_addRest_51 rfl (lv_at hl 1 rfl) ?_
  refine lv_iload_n hx hb dX9_addRest_52 rfl (lv_at hl 2 rfl) ?_
  obtain ⟨r8_, hr8_, h⟩ := z_bind h
  refine zRV F (k_X4_count l N g a_score a_score_cells v_score_size r6_ x1 x2 _ hr8_) zy_X4_count zw_552 hP hD hS [3, 11] rfl rfl (q0 := 3) (he := rfl) (hc := rfl) (rest := []) rfl hl.1 rfl (Nat.le_of_ble_eq_true rfl) ⟨rfl, rfl⟩ ⟨Nat.le_of_ble_eq_true rfl, Nat.le_of_ble_eq_true rfl⟩ ⟨Nat.zero_le _, Nat.zero_le _⟩ dX9_addRest_53 (st1 := [.int r8_]) rfl ?_
  obtain rfl := Sum.inl.inj (Option.some.inj h)
  exact zV_i F hr hlocks hQ hP hD hS dX9_addRest_56
abbrev rx_X9_addRest : Room := { frames := 7, cells := 1, slots := 6, locals := 170 }
set_option maxHeartbeats 4000000 in
set_option maxRecDepth 100000 in
theorem kx_X9_addRest (l : Launch) (N : Nat) (g : zEnv) (a_this a_score a_history a_text a_sentence a_reader a_sounds a_playing a_history_saved a_history_s0 a_history_s1 a_history_s2 a_history_s3 a_playing_places a_score_cells a_sounds_shifts a_sounds_heldTicks a_history_s0_cells a_history_s1_cells a_history_s2_cells a_history_s3_cells : Nat) (v_history_next : Int32) (v_history_size : Int32) (v_playing_size : Int32) (v_score_size : Int32) (v_history_s0_size : Int32) (v_history_s1_size : Int32) (v_history_s2_size : Int32) (v_history_s3_size : Int32) (v_playing_places : Nat → Int32) (v_score_cells : Nat → Int32) (v_sounds_heldTicks : Nat → Int32) (v_sounds_shifts : Nat → Int32) (v_history_s0_cells : Nat → Int32) (v_history_s1_cells : Nat → Int32) (v_history_s2_cells : Nat → Int32) (v_history_s3_cells : Nat → Int32) (x1 : Int32) (x2 : Int32) (x3 : Int32) (r : Nat) (h : f_X9_addRest N v_history_next v_history_size v_playing_size v_score_size v_history_s0_size v_history_s1_size v_history_s2_size v_history_s3_size v_playing_places v_score_cells v_sounds_heldTicks v_sounds_shifts v_history_s0_cells v_history_s1_cells v_history_s2_cells v_history_s3_cells x1 x2 x3 = some (Sum.inr r)) (hfl : l.stackTraces = false) : ZE l yX9_addRest cX9_addRest 4 (some .int) rx_X9_addRest g [.ref a_this, .int x1, .int x2, .int x3] [zo_X9 a_this a_score a_history a_text a_sentence a_reader a_sounds a_playing, zo_X1 a_history a_history_saved v_history_size v_history_next, zo_X2 a_playing a_playing_places v_playing_size, zo_X4 a_score a_score_cells v_score_size, zo_X6 a_sounds a_score a_sounds_shifts a_sounds_heldTicks, zo_X4 a_history_s0 a_history_s0_cells v_history_s0_size, zo_X4 a_history_s1 a_history_s1_cells v_history_s1_size, zo_X4 a_history_s2 a_history_s2_cells v_history_s2_size, zo_X4 a_history_s3 a_history_s3_cells v_history_s3_size, (a_history_saved, .inl (zO g, 4, .inr (.inr (.inr (.inr (zSv a_history_s0 a_history_s1 a_history_s2 a_history_s3)))))), (a_playing_places, .inl (zI g, 200, .inl v_playing_places)), (a_score_cells, .inl (zI g, 912, .inl v_score_cells)), (a_sounds_heldTicks, .inl (zI g, 768, .inl v_sounds_heldTicks)), (a_sounds_shifts, .inl (zI g, 768, .inl v_sounds_shifts)), (a_history_s0_cells, .inl (zI g, 912, .inl v_history_s0_cells)), (a_history_s1_cells, .inl (zI g, 912, .inl v_history_s1_cells)), (a_history_s2_cells, .inl (zI g, 912, .inl v_history_s2_cells)), (a_history_s3_cells, .inl (zI g, 912, .inl v_history_s3_cells))] [zo_X9 a_this a_score a_history a_text a_sentence a_reader a_sounds a_playing, zo_X1 a_history a_history_saved v_history_size v_history_next, zo_X2 a_playing a_playing_places v_playing_size, zo_X4 a_score a_score_cells v_score_size, zo_X6 a_sounds a_score a_sounds_shifts a_sounds_heldTicks, zo_X4 a_history_s0 a_history_s0_cells v_history_s0_size, zo_X4 a_history_s1 a_history_s1_cells v_history_s1_size, zo_X4 a_history_s2 a_history_s2_cells v_history_s2_size, zo_X4 a_history_s3 a_history_s3_cells v_history_s3_size, (a_history_saved, .inl (zO g, 4, .inr (.inr (.inr (.inr (zSv a_history_s0 a_history_s1 a_history_s2 a_history_s3)))))), (a_playing_places, .inl (zI g, 200, .inl v_playing_places)), (a_score_cells, .inl (zI g, 912, .inl v_score_cells)), (a_sounds_heldTicks, .inl (zI g, 768, .inl v_sounds_heldTicks)), (a_sounds_shifts, .inl (zI g, 768, .inl v_sounds_shifts)), (a_history_s0_cells, .inl (zI g, 912, .inl v_history_s0_cells)), (a_history_s1_cells, .inl (zI g, 912, .inl v_history_s1_cells)), (a_history_s2_cells, .inl (zI g, 912, .inl v_history_s2_cells)), (a_history_s3_cells, .inl (zI g, 912, .inl v_history_s3_cells))] r := by
  refine zE_of (by decide) (Nat.le_of_ble_eq_true rfl) ?_
  intro p e s m below meth c A H locs ls Q R F hRm hlocks hN htab hP hD hS hl hQ
  subst hRm
  have F : zF p m c cX9_addRest 4 s (([.ref a_this, .int x1, .int x2, .int x3] : List Value)).toArray RX9 g A := F
  have hx := F.1.1
  have hb := F.1.2.1
  have hz := F.1.2.2.2.2
  have hl : lv_has ls 4 [(0, .ref a_this), (1, .int x1), (2, .int x2), (3, .int x3)] := hl
  unfold f_X9_addRest at h
  refine lv_aload_n hx hb dX9_addRest_0 rfl (lv_at hl 0 rfl) ?_
  refine lv_iload_n hx hb dX9_addRest_1 rfl (lv_at hl 1 rfl) ?_
  refine lv_iload_n hx hb dX9_addRest_2 rfl (lv_at hl 2 rfl) ?_
  refine z_subR h (fun h => ?_) (fun r1_ hr1_ h => ?_)
  · exact zXV F (kx_X9_requireVoice l N g a_this a_score a_history a_text a_sentence a_reader a_sounds a_playing a_score_cells v_score_size x1 x2 _ h hfl) hN zy_X9_requireVoice zw_554 hP hD hS [0, 3] [1, 2, 4, 5, 6, 7, 8, 9, 10, 11, 12, 13, 14, 15, 16, 17] [16, 0, 1, 17, 2, 3, 4, 5, 6, 7, 8, 9, 10, 11, 12, 13, 14, 15] (wr := [zo_X1 a_history a_history_saved v_history_size v_history_next, zo_X2 a_playing a_playing_places v_playing_size, zo_X6 a_sounds a_score a_sounds_shifts a_sounds_heldTicks, zo_X4 a_history_s0 a_history_s0_cells v_history_s0_size, zo_X4 a_history_s1 a_history_s1_cells v_history_s1_size, zo_X4 a_history_s2 a_history_s2_cells v_history_s2_size, zo_X4 a_history_s3 a_history_s3_cells v_history_s3_size, (a_history_saved, .inl (zO g, 4, .inr (.inr (.inr (.inr (zSv a_history_s0 a_history_s1 a_history_s2 a_history_s3)))))), (a_playing_places, .inl (zI g, 200, .inl v_playing_places)), (a_score_cells, .inl (zI g, 912, .inl v_score_cells)), (a_sounds_heldTicks, .inl (zI g, 768, .inl v_sounds_heldTicks)), (a_sounds_shifts, .inl (zI g, 768, .inl v_sounds_shifts)), (a_history_s0_cells, .inl (zI g, 912, .inl v_history_s0_cells)), (a_history_s1_cells, .inl (zI g, 912, .inl v_history_s1_cells)), (a_history_s2_cells, .inl (zI g, 912, .inl v_history_s2_cells)), (a_history_s3_cells, .inl (zI g, 912, .inl v_history_s3_cells))]) (W1 := [zo_X9 a_this a_score a_history a_text a_sentence a_reader a_sounds a_playing, zo_X1 a_history a_history_saved v_history_size v_history_next, zo_X2 a_playing a_playing_places v_playing_size, zo_X4 a_score a_score_cells v_score_size, zo_X6 a_sounds a_score a_sounds_shifts a_sounds_heldTicks, zo_X4 a_history_s0 a_history_s0_cells v_history_s0_size, zo_X4 a_history_s1 a_history_s1_cells v_history_s1_size, zo_X4 a_history_s2 a_history_s2_cells v_history_s2_size, zo_X4 a_history_s3 a_history_s3_cells v_history_s3_size, (a_history_saved, .inl (zO g, 4, .inr (.inr (.inr (.inr (zSv a_history_s0 a_history_s1 a_history_s2 a_history_s3)))))), (a_playing_places, .inl (zI g, 200, .inl v_playing_places)), (a_score_cells, .inl (zI g, 912, .inl v_score_cells)), (a_sounds_heldTicks, .inl (zI g, 768, .inl v_sounds_heldTicks)), (a_sounds_shifts, .inl (zI g, 768, .inl v_sounds_shifts)), (a_history_s0_cells, .inl (zI g, 912, .inl v_history_s0_cells)), (a_history_s1_cells, .inl (zI g, 912, .inl v_history_s1_cells)), (a_history_s2_cells, .inl (zI g, 912, .inl v_history_s2_cells)), (a_history_s3_cells, .inl (zI g, 912, .inl v_history_s3_cells))]) rfl rfl rfl rfl (by decide) rfl rfl (q0 := 0) (he := rfl) (hc := rfl) (rest := []) rfl hl.1 rfl (Nat.le_of_ble_eq_true rfl) ⟨rfl, rfl⟩ ⟨Nat.le_of_ble_eq_true rfl, Nat.le_of_ble_eq_true rfl⟩ ⟨Nat.le_of_ble_eq_true rfl, Nat.le_of_ble_eq_true rfl⟩ dX9_addRest_3 htab hlocks hQ
  refine zRV F (k_X9_requireVoice l N g a_this a_score a_history a_text a_sentence a_reader a_sounds a_playing a_score_cells v_score_size x1 x2 _ hr1_) zy_X9_requireVoice zw_554 hP hD hS [0, 3] rfl rfl (q0 := 0) (he := rfl) (hc := rfl) (rest := []) rfl hl.1 rfl (Nat.le_of_ble_eq_true rfl) ⟨rfl, rfl⟩ ⟨Nat.le_of_ble_eq_true rfl, Nat.le_of_ble_eq_true rfl⟩ ⟨Nat.zero_le _, Nat.zero_le _⟩ dX9_addRest_3 (st1 := []) rfl ?_
  refine lv_iload_n hx hb dX9_addRest_6 rfl (lv_at hl 3 rfl) ?_
  refine lv_iconst (v := 0) hx hb dX9_addRest_7 (by decide) ?_
  refine lv_bipush (v := 9) hx hb dX9_addRest_8 (by decide) ?_
  refine z_subR h (fun h => ?_) (fun r2_ hr2_ h => ?_)
  · exact zXS F (kx_X9_requireRange l N g x3 0 9 _ h hfl) hN zy_X9_requireRange zw_557 hP hD hS [] [0, 1, 2, 3, 4, 5, 6, 7, 8, 9, 10, 11, 12, 13, 14, 15, 16, 17] [0, 1, 2, 3, 4, 5, 6, 7, 8, 9, 10, 11, 12, 13, 14, 15, 16, 17] (wr := [zo_X9 a_this a_score a_history a_text a_sentence a_reader a_sounds a_playing, zo_X1 a_history a_history_saved v_history_size v_history_next, zo_X2 a_playing a_playing_places v_playing_size, zo_X4 a_score a_score_cells v_score_size, zo_X6 a_sounds a_score a_sounds_shifts a_sounds_heldTicks, zo_X4 a_history_s0 a_history_s0_cells v_history_s0_size, zo_X4 a_history_s1 a_history_s1_cells v_history_s1_size, zo_X4 a_history_s2 a_history_s2_cells v_history_s2_size, zo_X4 a_history_s3 a_history_s3_cells v_history_s3_size, (a_history_saved, .inl (zO g, 4, .inr (.inr (.inr (.inr (zSv a_history_s0 a_history_s1 a_history_s2 a_history_s3)))))), (a_playing_places, .inl (zI g, 200, .inl v_playing_places)), (a_score_cells, .inl (zI g, 912, .inl v_score_cells)), (a_sounds_heldTicks, .inl (zI g, 768, .inl v_sounds_heldTicks)), (a_sounds_shifts, .inl (zI g, 768, .inl v_sounds_shifts)), (a_history_s0_cells, .inl (zI g, 912, .inl v_history_s0_cells)), (a_history_s1_cells, .inl (zI g, 912, .inl v_history_s1_cells)), (a_history_s2_cells, .inl (zI g, 912, .inl v_history_s2_cells)), (a_history_s3_cells, .inl (zI g, 912, .inl v_history_s3_cells))]) (W1 := [zo_X9 a_this a_score a_history a_text a_sentence a_reader a_sounds a_playing, zo_X1 a_history a_history_saved v_history_size v_history_next, zo_X2 a_playing a_playing_places v_playing_size, zo_X4 a_score a_score_cells v_score_size, zo_X6 a_sounds a_score a_sounds_shifts a_sounds_heldTicks, zo_X4 a_history_s0 a_history_s0_cells v_history_s0_size, zo_X4 a_history_s1 a_history_s1_cells v_history_s1_size, zo_X4 a_history_s2 a_history_s2_cells v_history_s2_size, zo_X4 a_history_s3 a_history_s3_cells v_history_s3_size, (a_history_saved, .inl (zO g, 4, .inr (.inr (.inr (.inr (zSv a_history_s0 a_history_s1 a_history_s2 a_history_s3)))))), (a_playing_places, .inl (zI g, 200, .inl v_playing_places)), (a_score_cells, .inl (zI g, 912, .inl v_score_cells)), (a_sounds_heldTicks, .inl (zI g, 768, .inl v_sounds_heldTicks)), (a_sounds_shifts, .inl (zI g, 768, .inl v_sounds_shifts)), (a_history_s0_cells, .inl (zI g, 912, .inl v_history_s0_cells)), (a_history_s1_cells, .inl (zI g, 912, .inl v_history_s1_cells)), (a_history_s2_cells, .inl (zI g, 912, .inl v_history_s2_cells)), (a_history_s3_cells, .inl (zI g, 912, .inl v_history_s3_cells))]) rfl rfl rfl rfl (by decide) rfl rfl (rest := []) rfl hl.1 rfl (Nat.le_of_ble_eq_true rfl) ⟨rfl, rfl⟩ ⟨Nat.le_of_ble_eq_true rfl, Nat.le_of_ble_eq_true rfl⟩ ⟨Nat.le_of_ble_eq_true rfl, Nat.le_of_ble_eq_true rfl⟩ dX9_addRest_10 htab hlocks hQ
  refine zRS F (k_X9_requireRange l N g x3 0 9 _ hr2_) zy_X9_requireRange zw_557 hP hD hS [] rfl rfl (rest := []) rfl hl.1 rfl (Nat.le_of_ble_eq_true rfl) ⟨rfl, rfl⟩ ⟨Nat.le_of_ble_eq_true rfl, Nat.le_of_ble_eq_true rfl⟩ ⟨Nat.zero_le _, Nat.zero_le _⟩ dX9_addRest_10 (st1 := []) rfl ?_
  refine lv_aload_n hx hb dX9_addRest_13 rfl (lv_at hl 0 rfl) ?_
  refine lv_iload_n hx hb dX9_addRest_14 rfl (lv_at hl 1 rfl) ?_
  refine lv_iload_n hx hb dX9_addRest_15 rfl (lv_at hl 2 rfl) ?_
  refine z_subR h (fun h => ?_) (fun r3_ hr3_ h => ?_)
  · exact zXV F (kx_X9_requireRoom l N g a_this a_score a_history a_text a_sentence a_reader a_sounds a_playing a_score_cells v_score_size v_score_cells x1 x2 _ h hfl) hN zy_X9_requireRoom zw_559 hP hD hS [0, 3, 11] [1, 2, 4, 5, 6, 7, 8, 9, 10, 12, 13, 14, 15, 16, 17] [15, 0, 1, 16, 2, 3, 4, 5, 6, 7, 8, 17, 9, 10, 11, 12, 13, 14] (wr := [zo_X1 a_history a_history_saved v_history_size v_history_next, zo_X2 a_playing a_playing_places v_playing_size, zo_X6 a_sounds a_score a_sounds_shifts a_sounds_heldTicks, zo_X4 a_history_s0 a_history_s0_cells v_history_s0_size, zo_X4 a_history_s1 a_history_s1_cells v_history_s1_size, zo_X4 a_history_s2 a_history_s2_cells v_history_s2_size, zo_X4 a_history_s3 a_history_s3_cells v_history_s3_size, (a_history_saved, .inl (zO g, 4, .inr (.inr (.inr (.inr (zSv a_history_s0 a_history_s1 a_history_s2 a_history_s3)))))), (a_playing_places, .inl (zI g, 200, .inl v_playing_places)), (a_sounds_heldTicks, .inl (zI g, 768, .inl v_sounds_heldTicks)), (a_sounds_shifts, .inl (zI g, 768, .inl v_sounds_shifts)), (a_history_s0_cells, .inl (zI g, 912, .inl v_history_s0_cells)), (a_history_s1_cells, .inl (zI g, 912, .inl v_history_s1_cells)), (a_history_s2_cells, .inl (zI g, 912, .inl v_history_s2_cells)), (a_history_s3_cells, .inl (zI g, 912, .inl v_history_s3_cells))]) (W1 := [zo_X9 a_this a_score a_history a_text a_sentence a_reader a_sounds a_playing, zo_X1 a_history a_history_saved v_history_size v_history_next, zo_X2 a_playing a_playing_places v_playing_size, zo_X4 a_score a_score_cells v_score_size, zo_X6 a_sounds a_score a_sounds_shifts a_sounds_heldTicks, zo_X4 a_history_s0 a_history_s0_cells v_history_s0_size, zo_X4 a_history_s1 a_history_s1_cells v_history_s1_size, zo_X4 a_history_s2 a_history_s2_cells v_history_s2_size, zo_X4 a_history_s3 a_history_s3_cells v_history_s3_size, (a_history_saved, .inl (zO g, 4, .inr (.inr (.inr (.inr (zSv a_history_s0 a_history_s1 a_history_s2 a_history_s3)))))), (a_playing_places, .inl (zI g, 200, .inl v_playing_places)), (a_score_cells, .inl (zI g, 912, .inl v_score_cells)), (a_sounds_heldTicks, .inl (zI g, 768, .inl v_sounds_heldTicks)), (a_sounds_shifts, .inl (zI g, 768, .inl v_sounds_shifts)), (a_history_s0_cells, .inl (zI g, 912, .inl v_history_s0_cells)), (a_history_s1_cells, .inl (zI g, 912, .inl v_history_s1_cells)), (a_history_s2_cells, .inl (zI g, 912, .inl v_history_s2_cells)), (a_history_s3_cells, .inl (zI g, 912, .inl v_history_s3_cells))]) rfl rfl rfl rfl (by decide) rfl rfl (q0 := 0) (he := rfl) (hc := rfl) (rest := []) rfl hl.1 rfl (Nat.le_of_ble_eq_true rfl) ⟨rfl, rfl⟩ ⟨Nat.le_of_ble_eq_true rfl, Nat.le_of_ble_eq_true rfl⟩ ⟨Nat.le_of_ble_eq_true rfl, Nat.le_of_ble_eq_true rfl⟩ dX9_addRest_16 htab hlocks hQ
  refine zRV F (k_X9_requireRoom l N g a_this a_score a_history a_text a_sentence a_reader a_sounds a_playing a_score_cells v_score_size v_score_cells x1 x2 _ hr3_) zy_X9_requireRoom zw_559 hP hD hS [0, 3, 11] rfl rfl (q0 := 0) (he := rfl) (hc := rfl) (rest := []) rfl hl.1 rfl (Nat.le_of_ble_eq_true rfl) ⟨rfl, rfl⟩ ⟨Nat.le_of_ble_eq_true rfl, Nat.le_of_ble_eq_true rfl⟩ ⟨Nat.zero_le _, Nat.zero_le _⟩ dX9_addRest_16 (st1 := []) rfl ?_
  refine lv_aload_n hx hb dX9_addRest_19 rfl (lv_at hl 0 rfl) ?_
  refine z_get (C := RX9) (T := TX9) (N := 7) (ci := 7) F zu_wsX90 hP 0 rfl rfl 1 (by decide) zw_481 rfl dX9_addRest_20 ?_
  refine lv_aload_n hx hb dX9_addRest_23 rfl (lv_at hl 0 rfl) ?_
  refine z_get (C := RX9) (T := TX9) (N := 7) (ci := 7) F zu_wsX90 hP 0 rfl rfl 0 (by decide) zw_478 rfl dX9_addRest_24 ?_
  obtain ⟨r4_, hr4_, h⟩ := z_bind h
  refine zVV F (k_X1_push l N g a_history a_history_saved a_history_s0 a_history_s1 a_history_s2 a_history_s3 a_history_s0_cells a_history_s1_cells a_history_s2_cells a_history_s3_cells a_score a_score_cells v_history_next v_history_size v_history_s0_size v_history_s1_size v_history_s2_size v_history_s3_size v_history_s0_cells v_history_s1_cells v_history_s2_cells v_history_s3_cells v_score_size v_score_cells _ hr4_) zy_X1_push zw_520 hP hD hS [1, 5, 6, 7, 8, 9, 14, 15, 16, 17, 3, 11] [0, 2, 4, 10, 12, 13] [0, 6, 1, 16, 2, 7, 8, 9, 10, 11, 3, 17, 4, 5, 12, 13, 14, 15] (wr := [zo_X9 a_this a_score a_history a_text a_sentence a_reader a_sounds a_playing, zo_X2 a_playing a_playing_places v_playing_size, zo_X6 a_sounds a_score a_sounds_shifts a_sounds_heldTicks, (a_playing_places, .inl (zI g, 200, .inl v_playing_places)), (a_sounds_heldTicks, .inl (zI g, 768, .inl v_sounds_heldTicks)), (a_sounds_shifts, .inl (zI g, 768, .inl v_sounds_shifts))]) (W1 := [zo_X9 a_this a_score a_history a_text a_sentence a_reader a_sounds a_playing, zo_X1 a_history a_history_saved r4_.2.1 r4_.1, zo_X2 a_playing a_playing_places v_playing_size, zo_X4 a_score a_score_cells v_score_size, zo_X6 a_sounds a_score a_sounds_shifts a_sounds_heldTicks, zo_X4 a_history_s0 a_history_s0_cells r4_.2.2.1, zo_X4 a_history_s1 a_history_s1_cells r4_.2.2.2.1, zo_X4 a_history_s2 a_history_s2_cells r4_.2.2.2.2.1, zo_X4 a_history_s3 a_history_s3_cells r4_.2.2.2.2.2.1, (a_history_saved, .inl (zO g, 4, .inr (.inr (.inr (.inr (zSv a_history_s0 a_history_s1 a_history_s2 a_history_s3)))))), (a_playing_places, .inl (zI g, 200, .inl v_playing_places)), (a_score_cells, .inl (zI g, 912, .inl v_score_cells)), (a_sounds_heldTicks, .inl (zI g, 768, .inl v_sounds_heldTicks)), (a_sounds_shifts, .inl (zI g, 768, .inl v_sounds_shifts)), (a_history_s0_cells, .inl (zI g, 912, .inl r4_.2.2.2.2.2.2.1)), (a_history_s1_cells, .inl (zI g, 912, .inl r4_.2.2.2.2.2.2.2.1)), (a_history_s2_cells, .inl (zI g, 912, .inl r4_.2.2.2.2.2.2.2.2.1)), (a_history_s3_cells, .inl (zI g, 912, .inl r4_.2.2.2.2.2.2.2.2.2))]) rfl rfl rfl rfl (by decide) rfl rfl (q0 := 1) (he := rfl) (hc := rfl) (rest := []) rfl hl.1 rfl (Nat.le_of_ble_eq_true rfl) ⟨rfl, rfl⟩ ⟨Nat.le_of_ble_eq_true rfl, Nat.le_of_ble_eq_true rfl⟩ ⟨Nat.zero_le _, Nat.zero_le _⟩ dX9_addRest_27 (st1 := []) rfl (fun H locs hP hD hS => ?_)
  refine lv_aload_n hx hb dX9_addRest_30 rfl (lv_at hl 0 rfl) ?_
  refine z_get (C := RX9) (T := TX9) (N := 7) (ci := 7) F zu_wsX90 hP 0 rfl rfl 0 (by decide) zw_478 rfl dX9_addRest_31 ?_
  refine lv_iload_n hx hb dX9_addRest_34 rfl (lv_at hl 1 rfl) ?_
  refine lv_iload_n hx hb dX9_addRest_35 rfl (lv_at hl 2 rfl) ?_
  refine lv_iload_n hx hb dX9_addRest_36 rfl (lv_at hl 3 rfl) ?_
  obtain ⟨r5_, hr5_, h⟩ := z_bind h
  refine zRS F (k_X0_ofRest l N g x3 _ hr5_) zy_X0_ofRest zw_565 hP hD hS [] rfl rfl (rest := [.int x2, .int x1, .ref a_score]) rfl hl.1 rfl (Nat.le_of_ble_eq_true rfl) ⟨rfl, rfl⟩ ⟨Nat.le_of_ble_eq_true rfl, Nat.le_of_ble_eq_true rfl⟩ ⟨Nat.zero_le _, Nat.zero_le _⟩ dX9_addRest_37 (st1 := [.int r5_, .int x2, .int x1, .ref a_score]) rfl ?_
  obtain ⟨r6_, hr6_, h⟩ := z_bind h
  refine zVV F (k_X4_appendEvent l N g a_score a_score_cells v_score_size v_score_cells x1 x2 r5_ _ hr6_) zy_X4_appendEvent zw_563 hP hD hS [3, 11] [0, 1, 2, 4, 5, 6, 7, 8, 9, 10, 12, 13, 14, 15, 16, 17] [0, 1, 2, 16, 3, 4, 5, 6, 7, 8, 9, 17, 10, 11, 12, 13, 14, 15] (wr := [zo_X9 a_this a_score a_history a_text a_sentence a_reader a_sounds a_playing, zo_X1 a_history a_history_saved r4_.2.1 r4_.1, zo_X2 a_playing a_playing_places v_playing_size, zo_X6 a_sounds a_score a_sounds_shifts a_sounds_heldTicks, zo_X4 a_history_s0 a_history_s0_cells r4_.2.2.1, zo_X4 a_history_s1 a_history_s1_cells r4_.2.2.2.1, zo_X4 a_history_s2 a_history_s2_cells r4_.2.2.2.2.1, zo_X4 a_history_s3 a_history_s3_cells r4_.2.2.2.2.2.1, (a_history_saved, .inl (zO g, 4, .inr (.inr (.inr (.inr (zSv a_history_s0 a_history_s1 a_history_s2 a_history_s3)))))), (a_playing_places, .inl (zI g, 200, .inl v_playing_places)), (a_sounds_heldTicks, .inl (zI g, 768, .inl v_sounds_heldTicks)), (a_sounds_shifts, .inl (zI g, 768, .inl v_sounds_shifts)), (a_history_s0_cells, .inl (zI g, 912, .inl r4_.2.2.2.2.2.2.1)), (a_history_s1_cells, .inl (zI g, 912, .inl r4_.2.2.2.2.2.2.2.1)), (a_history_s2_cells, .inl (zI g, 912, .inl r4_.2.2.2.2.2.2.2.2.1)), (a_history_s3_cells, .inl (zI g, 912, .inl r4_.2.2.2.2.2.2.2.2.2))]) (W1 := [zo_X9 a_this a_score a_history a_text a_sentence a_reader a_sounds a_playing, zo_X1 a_history a_history_saved r4_.2.1 r4_.1, zo_X2 a_playing a_playing_places v_playing_size, zo_X4 a_score a_score_cells v_score_size, zo_X6 a_sounds a_score a_sounds_shifts a_sounds_heldTicks, zo_X4 a_history_s0 a_history_s0_cells r4_.2.2.1, zo_X4 a_history_s1 a_history_s1_cells r4_.2.2.2.1, zo_X4 a_history_s2 a_history_s2_cells r4_.2.2.2.2.1, zo_X4 a_history_s3 a_history_s3_cells r4_.2.2.2.2.2.1, (a_history_saved, .inl (zO g, 4, .inr (.inr (.inr (.inr (zSv a_history_s0 a_history_s1 a_history_s2 a_history_s3)))))), (a_playing_places, .inl (zI g, 200, .inl v_playing_places)), (a_score_cells, .inl (zI g, 912, .inl r6_)), (a_sounds_heldTicks, .inl (zI g, 768, .inl v_sounds_heldTicks)), (a_sounds_shifts, .inl (zI g, 768, .inl v_sounds_shifts)), (a_history_s0_cells, .inl (zI g, 912, .inl r4_.2.2.2.2.2.2.1)), (a_history_s1_cells, .inl (zI g, 912, .inl r4_.2.2.2.2.2.2.2.1)), (a_history_s2_cells, .inl (zI g, 912, .inl r4_.2.2.2.2.2.2.2.2.1)), (a_history_s3_cells, .inl (zI g, 912, .inl r4_.2.2.2.2.2.2.2.2.2))]) rfl rfl rfl rfl (by decide) rfl rfl (q0 := 3) (he := rfl) (hc := rfl) (rest := []) rfl hl.1 rfl (Nat.le_of_ble_eq_true rfl) ⟨rfl, rfl⟩ ⟨Nat.le_of_ble_eq_true rfl, Nat.le_of_ble_eq_true rfl⟩ ⟨Nat.zero_le _, Nat.zero_le _⟩ dX9_addRest_40 (st1 := []) rfl (fun H locs hP hD hS => ?_)
  refine lv_aload_n hx hb dX9_addRest_43 rfl (lv_at hl 0 rfl) ?_
  obtain ⟨r7_, hr7_, h⟩ := z_bind h
  refine zVV F (k_X9_settle l N g a_this a_score a_history a_text a_sentence a_reader a_sounds a_playing a_playing_places a_score_cells a_sounds_shifts a_sounds_heldTicks v_playing_size v_score_size v_playing_places r6_ v_sounds_heldTicks v_sounds_shifts _ hr7_) zy_X9_settle zw_524 hP hD hS [0, 2, 3, 4, 10, 11, 12, 13] [1, 5, 6, 7, 8, 9, 14, 15, 16, 17] [10, 0, 11, 12, 13, 1, 2, 3, 4, 5, 14, 15, 16, 17, 6, 7, 8, 9] (wr := [zo_X1 a_history a_history_saved r4_.2.1 r4_.1, zo_X4 a_history_s0 a_history_s0_cells r4_.2.2.1, zo_X4 a_history_s1 a_history_s1_cells r4_.2.2.2.1, zo_X4 a_history_s2 a_history_s2_cells r4_.2.2.2.2.1, zo_X4 a_history_s3 a_history_s3_cells r4_.2.2.2.2.2.1, (a_history_saved, .inl (zO g, 4, .inr (.inr (.inr (.inr (zSv a_history_s0 a_history_s1 a_history_s2 a_history_s3)))))), (a_history_s0_cells, .inl (zI g, 912, .inl r4_.2.2.2.2.2.2.1)), (a_history_s1_cells, .inl (zI g, 912, .inl r4_.2.2.2.2.2.2.2.1)), (a_history_s2_cells, .inl (zI g, 912, .inl r4_.2.2.2.2.2.2.2.2.1)), (a_history_s3_cells, .inl (zI g, 912, .inl r4_.2.2.2.2.2.2.2.2.2))]) (W1 := [zo_X9 a_this a_score a_history a_text a_sentence a_reader a_sounds a_playing, zo_X1 a_history a_history_saved r4_.2.1 r4_.1, zo_X2 a_playing a_playing_places r7_.1, zo_X4 a_score a_score_cells v_score_size, zo_X6 a_sounds a_score a_sounds_shifts a_sounds_heldTicks, zo_X4 a_history_s0 a_history_s0_cells r4_.2.2.1, zo_X4 a_history_s1 a_history_s1_cells r4_.2.2.2.1, zo_X4 a_history_s2 a_history_s2_cells r4_.2.2.2.2.1, zo_X4 a_history_s3 a_history_s3_cells r4_.2.2.2.2.2.1, (a_history_saved, .inl (zO g, 4, .inr (.inr (.inr (.inr (zSv a_history_s0 a_history_s1 a_history_s2 a_history_s3)))))), (a_playing_places, .inl (zI g, 200, .inl r7_.2.1)), (a_score_cells, .inl (zI g, 912, .inl r6_)), (a_sounds_heldTicks, .inl (zI g, 768, .inl r7_.2.2.1)), (a_sounds_shifts, .inl (zI g, 768, .inl r7_.2.2.2)), (a_history_s0_cells, .inl (zI g, 912, .inl r4_.2.2.2.2.2.2.1)), (a_history_s1_cells, .inl (zI g, 912, .inl r4_.2.2.2.2.2.2.2.1)), (a_history_s2_cells, .inl (zI g, 912, .inl r4_.2.2.2.2.2.2.2.2.1)), (a_history_s3_cells, .inl (zI g, 912, .inl r4_.2.2.2.2.2.2.2.2.2))]) rfl rfl rfl rfl (by decide) rfl rfl (q0 := 0) (he := rfl) (hc := rfl) (rest := []) rfl hl.1 rfl (Nat.le_of_ble_eq_true rfl) ⟨rfl, rfl⟩ ⟨Nat.le_of_ble_eq_true rfl, Nat.le_of_ble_eq_true rfl⟩ ⟨Nat.zero_le _, Nat.zero_le _⟩ dX9_addRest_44 (st1 := []) rfl (fun H locs hP hD hS => ?_)
  refine lv_aload_n hx hb dX9_addRest_47 rfl (lv_at hl 0 rfl) ?_
  refine z_get (C := RX9) (T := TX9) (N := 7) (ci := 7) F zu_wsX90 hP 0 rfl rfl 0 (by decide) zw_478 rfl dX9_addRest_48 ?_
  refine lv_iload_n hx hb dX9_addRest_51 rfl (lv_at hl 1 rfl) ?_
  refine lv_iload_n hx hb dX9_addRest_52 rfl (lv_at hl 2 rfl) ?_
  obtain ⟨r8_, hr8_, h⟩ := z_bind h
  refine zRV F (k_X4_count l N g a_score a_score_cells v_score_size r6_ x1 x2 _ hr8_) zy_X4_count zw_552 hP hD hS [3, 11] rfl rfl (q0 := 3) (he := rfl) (hc := rfl) (rest := []) rfl hl.1 rfl (Nat.le_of_ble_eq_true rfl) ⟨rfl, rfl⟩ ⟨Nat.le_of_ble_eq_true rfl, Nat.le_of_ble_eq_true rfl⟩ ⟨Nat.zero_le _, Nat.zero_le _⟩ dX9_addRest_53 (st1 := [.int r8_]) rfl ?_
  cases h
def f_X9_requireEvent (N : Nat) (v_score_size : Int32) (v_score_cells : Nat → Int32) (x1 : Int32) (x2 : Int32) (x3 : Int32) : Option (Unit ⊕ Nat) :=
  Option.bind (f_X4_hasEvent N v_score_size v_score_cells x1 x2 x3) (fun (r1_ : Int32) => if r1_ = 0 then some (Sum.inr 0) else some (Sum.inl ()))
abbrev rm_X9_requireEvent : Room := { frames := 6, cells := 0, slots := 0, locals := 90 }
theorem zy_X9_requireEvent : zYv yX9_requireEvent RX9 cX9_requireEvent 4 none 3 := ⟨zw_572, zw_573, zw_527, zw_570, ⟨by decide, by decide⟩, by decide +kernel⟩
set_option maxHeartbeats 4000000 in
set_option maxRecDepth 100000 in
theorem k_X9_requireEvent (l : Launch) (N : Nat) (g : zEnv) (a_this a_score a_history a_text a_sentence a_reader a_sounds a_playing a_score_cells : Nat) (v_score_size : Int32) (v_score_cells : Nat → Int32) (x1 : Int32) (x2 : Int32) (x3 : Int32) (r : Unit) (h : f_X9_requireEvent N v_score_size v_score_cells x1 x2 x3 = some (Sum.inl r)) : ZR l yX9_requireEvent cX9_requireEvent 4 none rm_X9_requireEvent g [.ref a_this, .int x1, .int x2, .int x3] [zo_X9 a_this a_score a_history a_text a_sentence a_reader a_sounds a_playing, zo_X4 a_score a_score_cells v_score_size, (a_score_cells, .inl (zI g, 912, .inl v_score_cells))] none := by
  refine zR_of (by decide) (Nat.le_of_ble_eq_true rfl) ?_
  intro p e s m below meth c A ls Q R F hRm hr hlocks hP hD hS hl hQ
  subst hRm
  have F : zF p m c cX9_requireEvent 4 s (([.ref a_this, .int x1, .int x2, .int x3] : List Value)).toArray RX9 g A := F
  have hx := F.1.1
  have hb := F.1.2.1
  have hz := F.1.2.2.2.2
  have hl : lv_has ls 4 [(0, .ref a_this), (1, .int x1), (2, .int x2), (3, .int x3)] := hl
  unfold f_X9_requireEvent at h
  refine lv_aload_n hx hb dX9_requireEvent_0 rfl (lv_at hl 0 rfl) ?_
  refine z_get (C := RX9) (T := TX9) (N := 7) (ci := 7) F zu_wsX90 hP 0 rfl rfl 0 (by decide) zw_478 rfl dX9_requireEvent_1 ?_
  refine lv_iload_n hx hb dX9_requireEvent_4 rfl (lv_at hl 1 rfl) ?_
  refine lv_iload_n hx hb dX9_requireEvent_5 rfl (lv_at hl 2 rfl) ?_
  refine lv_iload_n hx hb dX9_requireEvent_6 rfl (lv_at hl 3 rfl) ?_
  obtain ⟨r1_, hr1_, h⟩ := z_bind h
  refine zRV F (k_X4_hasEvent l N g a_score a_score_cells v_score_size v_score_cells x1 x2 x3 _ hr1_) zy_X4_hasEvent zw_567 hP hD hS [1, 2] rfl rfl (q0 := 1) (he := rfl) (hc := rfl) (rest := []) rfl hl.1 rfl (Nat.le_of_ble_eq_true rfl) ⟨rfl, rfl⟩ ⟨Nat.le_of_ble_eq_true rfl, Nat.le_of_ble_eq_true rfl⟩ ⟨Nat.zero_le _, Nat.zero_le _⟩ dX9_requireEvent_7 (st1 := [.int r1_]) rfl ?_
  refine z_ne (tgt := 24) hx hb dX9_requireEvent_10 (by decide) h (fun h => ?_) (fun h => ?_)
  · obtain rfl := Sum.inl.inj (Option.some.inj h)
    exact zR_v F hr hlocks hQ dX9_requireEvent_24
  · cases h
abbrev rx_X9_requireEvent : Room := { frames := 6, cells := 1, slots := 6, locals := 90 }
set_option maxHeartbeats 4000000 in
set_option maxRecDepth 100000 in
theorem kx_X9_requireEvent (l : Launch) (N : Nat) (g : zEnv) (a_this a_score a_history a_text a_sentence a_reader a_sounds a_playing a_score_cells : Nat) (v_score_size : Int32) (v_score_cells : Nat → Int32) (x1 : Int32) (x2 : Int32) (x3 : Int32) (r : Nat) (h : f_X9_requireEvent N v_score_size v_score_cells x1 x2 x3 = some (Sum.inr r)) (hfl : l.stackTraces = false) : ZE l yX9_requireEvent cX9_requireEvent 4 none rx_X9_requireEvent g [.ref a_this, .int x1, .int x2, .int x3] [zo_X9 a_this a_score a_history a_text a_sentence a_reader a_sounds a_playing, zo_X4 a_score a_score_cells v_score_size, (a_score_cells, .inl (zI g, 912, .inl v_score_cells))] [zo_X9 a_this a_score a_history a_text a_sentence a_reader a_sounds a_playing, zo_X4 a_score a_score_cells v_score_size, (a_score_cells, .inl (zI g, 912, .inl v_score_cells))] r := by
  refine zE_of (by decide) (Nat.le_of_ble_eq_true rfl) ?_
  intro p e s m below meth c A H locs ls Q R F hRm hlocks hN htab hP hD hS hl hQ
  subst hRm
  have F : zF p m c cX9_requireEvent 4 s (([.ref a_this, .int x1, .int x2, .int x3] : List Value)).toArray RX9 g A := F
  have hx := F.1.1
  have hb := F.1.2.1
  have hz := F.1.2.2.2.2
  have hl : lv_has ls 4 [(0, .ref a_this), (1, .int x1), (2, .int x2), (3, .int x3)] := hl
  unfold f_X9_requireEvent at h
  refine lv_aload_n hx hb dX9_requireEvent_0 rfl (lv_at hl 0 rfl) ?_
  refine z_get (C := RX9) (T := TX9) (N := 7) (ci := 7) F zu_wsX90 hP 0 rfl rfl 0 (by decide) zw_478 rfl dX9_requireEvent_1 ?_
  refine lv_iload_n hx hb dX9_requireEvent_4 rfl (lv_at hl 1 rfl) ?_
  refine lv_iload_n hx hb dX9_requireEvent_5 rfl (lv_at hl 2 rfl) ?_
  refine lv_iload_n hx hb dX9_requireEvent_6 rfl (lv_at hl 3 rfl) ?_
  obtain ⟨r1_, hr1_, h⟩ := z_bind h
  refine zRV F (k_X4_hasEvent l N g a_score a_score_cells v_score_size v_score_cells x1 x2 x3 _ hr1_) zy_X4_hasEvent zw_567 hP hD hS [1, 2] rfl rfl (q0 := 1) (he := rfl) (hc := rfl) (rest := []) rfl hl.1 rfl (Nat.le_of_ble_eq_true rfl) ⟨rfl, rfl⟩ ⟨Nat.le_of_ble_eq_true rfl, Nat.le_of_ble_eq_true rfl⟩ ⟨Nat.zero_le _, Nat.zero_le _⟩ dX9_requireEvent_7 (st1 := [.int r1_]) rfl ?_
  refine z_ne (tgt := 24) hx hb dX9_requireEvent_10 (by decide) h (fun h => ?_) (fun h => ?_)
  · cases h
  · obtain rfl := Sum.inr.inj (Option.some.inj h)
    exact zThW (k := 0) F hfl hN zw_530 zw_531 zst_X9_335 (fun w h => zu_zx_1 w h) zx_bad_1 (zx_ot_1 _) (by decide +kernel) hP hD hS hl.1 htab hlocks hQ dX9_requireEvent_13 dX9_requireEvent_16 dX9_requireEvent_17 dX9_requireEvent_20 dX9_requireEvent_23 (Nat.le_of_ble_eq_true rfl) (Nat.le_of_ble_eq_true rfl) (Nat.le_of_ble_eq_true rfl) (Nat.le_of_ble_eq_true rfl)
def f_X9_removeEvent (N : Nat) (v_history_next : Int32) (v_history_size : Int32) (v_playing_size : Int32) (v_score_size : Int32) (v_history_s0_size : Int32) (v_history_s1_size : Int32) (v_history_s2_size : Int32) (v_history_s3_size : Int32) (v_playing_places : Nat → Int32) (v_score_cells : Nat → Int32) (v_sounds_heldTicks : Nat → Int32) (v_sounds_shifts : Nat → Int32) (v_history_s0_cells : Nat → Int32) (v_history_s1_cells : Nat → Int32) (v_history_s2_cells : Nat → Int32) (v_history_s3_cells : Nat → Int32) (x1 : Int32) (x2 : Int32) (x3 : Int32) : Option ((Int32 × Int32 × Int32 × Int32 × Int32 × Int32 × Int32 × Int32 × (Nat → Int32) × (Nat → Int32) × (Nat → Int32) × (Nat → Int32) × (Nat → Int32) × (Nat → Int32) × (Nat → Int32) × (Nat → Int32)) ⊕ Nat) :=
  zSub (f_X9_requireEvent N v_score_size v_score_cells x1 x2 x3) (fun (r1_ : Unit) => Option.bind (f_X1_push N v_history_next v_history_size v_history_s0_size v_history_s1_size v_history_s2_size v_history_s3_size v_history_s0_cells v_history_s1_cells v_history_s2_cells v_history_s3_cells v_score_size v_score_cells) (fun (r2_ : Int32 × Int32 × Int32 × Int32 × Int32 × Int32 × (Nat → Int32) × (Nat → Int32) × (Nat → Int32) × (Nat → Int32)) => Option.bind (f_X4_dropEvent N v_score_size v_score_cells x1 x2 x3) (fun (r3_ : (Nat → Int32)) => Option.bind (f_X9_settle N v_playing_size v_score_size v_playing_places r3_ v_sounds_heldTicks v_sounds_shifts) (fun (r4_ : Int32 × (Nat → Int32) × (Nat → Int32) × (Nat → Int32)) => Option.bind (f_X4_count N v_score_size r3_ x1 x2) (fun (r5_ : Int32) => some (Sum.inl (r5_, r2_.1, r2_.2.1, r4_.1, r2_.2.2.1, r2_.2.2.2.1, r2_.2.2.2.2.1, r2_.2.2.2.2.2.1, r4_.2.1, r3_, r4_.2.2.1, r4_.2.2.2, r2_.2.2.2.2.2.2.1, r2_.2.2.2.2.2.2.2.1, r2_.2.2.2.2.2.2.2.2.1, r2_.2.2.2.2.2.2.2.2.2)))))))
abbrev rm_X9_removeEvent : Room := { frames := 7, cells := 0, slots := 0, locals := 170 }
theorem zy_X9_removeEvent : zYv yX9_removeEvent RX9 cX9_removeEvent 4 (some .int) 3 := ⟨zw_779, zw_780, zw_527, zw_577, ⟨by decide, by decide⟩, by decide +kernel⟩
set_option maxHeartbeats 4000000 in
set_option maxRecDepth 100000 in
theorem k_X9_removeEvent (l : Launch) (N : Nat) (g : zEnv) (a_this a_score a_history a_text a_sentence a_reader a_sounds a_playing a_history_saved a_history_s0 a_history_s1 a_history_s2 a_history_s3 a_playing_places a_score_cells a_sounds_shifts a_sounds_heldTicks a_history_s0_cells a_history_s1_cells a_history_s2_cells a_history_s3_cells : Nat) (v_history_next : Int32) (v_history_size : Int32) (v_playing_size : Int32) (v_score_size : Int32) (v_history_s0_size : Int32) (v_history_s1_size : Int32) (v_history_s2_size : Int32) (v_history_s3_size : Int32) (v_playing_places : Nat → Int32) (v_score_cells : Nat → Int32) (v_sounds_heldTicks : Nat → Int32) (v_sounds_shifts : Nat → Int32) (v_history_s0_cells : Nat → Int32) (v_history_s1_cells : Nat → Int32) (v_history_s2_cells : Nat → Int32) (v_history_s3_cells : Nat → Int32) (x1 : Int32) (x2 : Int32) (x3 : Int32) (r : Int32 × Int32 × Int32 × Int32 × Int32 × Int32 × Int32 × Int32 × (Nat → Int32) × (Nat → Int32) × (Nat → Int32) × (Nat → Int32) × (Nat → Int32) × (Nat → Int32) × (Nat → Int32) × (Nat → Int32)) (h : f_X9_removeEvent N v_history_next v_history_size v_playing_size v_score_size v_history_s0_size v_history_s1_size v_history_s2_size v_history_s3_size v_playing_places v_score_cells v_sounds_heldTicks v_sounds_shifts v_history_s0_cells v_history_s1_cells v_history_s2_cells v_history_s3_cells x1 x2 x3 = some (Sum.inl r)) : ZV l yX9_removeEvent cX9_removeEvent 4 (some .int) rm_X9_removeEvent g [.ref a_this, .int x1, .int x2, .int x3] [zo_X9 a_this a_score a_history a_text a_sentence a_reader a_sounds a_playing, zo_X1 a_history a_history_saved v_history_size v_history_next, zo_X2 a_playing a_playing_places v_playing_size, zo_X4 a_score a_score_cells v_score_size, zo_X6 a_sounds a_score a_sounds_shifts a_sounds_heldTicks, zo_X4 a_history_s0 a_history_s0_cells v_history_s0_size, zo_X4 a_history_s1 a_history_s1_cells v_history_s1_size, zo_X4 a_history_s2 a_history_s2_cells v_history_s2_size, zo_X4 a_history_s3 a_history_s3_cells v_history_s3_size, (a_history_saved, .inl (zO g, 4, .inr (.inr (.inr (.inr (zSv a_history_s0 a_history_s1 a_history_s2 a_history_s3)))))), (a_playing_places, .inl (zI g, 200, .inl v_playing_places)), (a_score_cells, .inl (zI g, 912, .inl v_score_cells)), (a_sounds_heldTicks, .inl (zI g, 768, .inl v_sounds_heldTicks)), (a_sounds_shifts, .inl (zI g, 768, .inl v_sounds_shifts)), (a_history_s0_cells, .inl (zI g, 912, .inl v_history_s0_cells)), (a_history_s1_cells, .inl (zI g, 912, .inl v_history_s1_cells)), (a_history_s2_cells, .inl (zI g, 912, .inl v_history_s2_cells)), (a_history_s3_cells, .inl (zI g, 912, .inl v_history_s3_cells))] [zo_X9 a_this a_score a_history a_text a_sentence a_reader a_sounds a_playing, zo_X1 a_history a_history_saved r.2.2.1 r.2.1, zo_X2 a_playing a_playing_places r.2.2.2.1, zo_X4 a_score a_score_cells v_score_size, zo_X6 a_sounds a_score a_sounds_shifts a_sounds_heldTicks, zo_X4 a_history_s0 a_history_s0_cells r.2.2.2.2.1, zo_X4 a_history_s1 a_history_s1_cells r.2.2.2.2.2.1, zo_X4 a_history_s2 a_history_s2_cells r.2.2.2.2.2.2.1, zo_X4 a_history_s3 a_history_s3_cells r.2.2.2.2.2.2.2.1, (a_history_saved, .inl (zO g, 4, .inr (.inr (.inr (.inr (zSv a_history_s0 a_history_s1 a_history_s2 a_history_s3)))))), (a_playing_places, .inl (zI g, 200, .inl r.2.2.2.2.2.2.2.2.1)), (a_score_cells, .inl (zI g, 912, .inl r.2.2.2.2.2.2.2.2.2.1)), (a_sounds_heldTicks, .inl (zI g, 768, .inl r.2.2.2.2.2.2.2.2.2.2.1)), (a_sounds_shifts, .inl (zI g, 768, .inl r.2.2.2.2.2.2.2.2.2.2.2.1)), (a_history_s0_cells, .inl (zI g, 912, .inl r.2.2.2.2.2.2.2.2.2.2.2.2.1)), (a_history_s1_cells, .inl (zI g, 912, .inl r.2.2.2.2.2.2.2.2.2.2.2.2.2.1)), (a_history_s2_cells, .inl (zI g, 912, .inl r.2.2.2.2.2.2.2.2.2.2.2.2.2.2.1)), (a_history_s3_cells, .inl (zI g, 912, .inl r.2.2.2.2.2.2.2.2.2.2.2.2.2.2.2))] (some (.int r.1)) := by
  refine zV_of (by decide) (Nat.le_of_ble_eq_true rfl) ?_
  intro p e s m below meth c A H locs ls Q R F hRm hr hlocks hP hD hS hl hQ
  subst hRm
  have F : zF p m c cX9_removeEvent 4 s (([.ref a_this, .int x1, .int x2, .int x3] : List Value)).toArray RX9 g A := F
  have hx := F.1.1
  have hb := F.1.2.1
  have hz := F.1.2.2.2.2
  have hl : lv_has ls 4 [(0, .ref a_this), (1, .int x1), (2, .int x2), (3, .int x3)] := hl
  unfold f_X9_removeEvent at h
  refine lv_aload_n hx hb dX9_removeEvent_0 rfl (lv_at hl 0 rfl) ?_
  refine lv_iload_n hx hb dX9_removeEvent_1 rfl (lv_at hl 1 rfl) ?_
  refine lv_iload_n hx hb dX9_removeEvent_2 rfl (lv_at hl 2 rfl) ?_
  refine lv_iload_n hx hb dX9_removeEvent_3 rfl (lv_at hl 3 rfl) ?_
  obtain ⟨r1_, hr1_, h⟩ := z_subL h
  refine zRV F (k_X9_requireEvent l N g a_this a_score a_history a_text a_sentence a_reader a_sounds a_playing a_score_cells v_score_size v_score_cells x1 x2 x3 _ hr1_) zy_X9_requireEvent zw_571 hP hD hS [0, 3, 11] rfl rfl (q0 := 0) (he := rfl) (hc := rfl) (rest := []) rfl hl.1 rfl (Nat.le_of_ble_eq_true rfl) ⟨rfl, rfl⟩ ⟨Nat.le_of_ble_eq_true rfl, Nat.le_of_ble_eq_true rfl⟩ ⟨Nat.zero_le _, Nat.zero_le _⟩ dX9_removeEvent_4 (st1 := []) rfl ?_
  refine lv_aload_n hx hb dX9_removeEvent_7 rfl (lv_at hl 0 rfl) ?_
  refine z_get (C := RX9) (T := TX9) (N := 7) (ci := 7) F zu_wsX90 hP 0 rfl rfl 1 (by decide) zw_481 rfl dX9_removeEvent_8 ?_
  refine lv_aload_n hx hb dX9_removeEvent_11 rfl (lv_at hl 0 rfl) ?_
  refine z_get (C := RX9) (T := TX9) (N := 7) (ci := 7) F zu_wsX90 hP 0 rfl rfl 0 (by decide) zw_478 rfl dX9_removeEvent_12 ?_
  obtain ⟨r2_, hr2_, h⟩ := z_bind h
  refine zVV F (k_X1_push l N g a_history a_history_saved a_history_s0 a_history_s1 a_history_s2 a_history_s3 a_history_s0_cells a_history_s1_cells a_history_s2_cells a_history_s3_cells a_score a_score_cells v_history_next v_history_size v_history_s0_size v_history_s1_size v_history_s2_size v_history_s3_size v_history_s0_cells v_history_s1_cells v_history_s2_cells v_history_s3_cells v_score_size v_score_cells _ hr2_) zy_X1_push zw_520 hP hD hS [1, 5, 6, 7, 8, 9, 14, 15, 16, 17, 3, 11] [0, 2, 4, 10, 12, 13] [0, 6, 1, 16, 2, 7, 8, 9, 10, 11, 3, 17, 4, 5, 12, 13, 14, 15] (wr := [zo_X9 a_this a_score a_history a_text a_sentence a_reader a_sounds a_playing, zo_X2 a_playing a_playing_places v_playing_size, zo_X6 a_sounds a_score a_sounds_shifts a_sounds_heldTicks, (a_playing_places, .inl (zI g, 200, .inl v_playing_places)), (a_sounds_heldTicks, .inl (zI g, 768, .inl v_sounds_heldTicks)), (a_sounds_shifts, .inl (zI g, 768, .inl v_sounds_shifts))]) (W1 := [zo_X9 a_this a_score a_history a_text a_sentence a_reader a_sounds a_playing, zo_X1 a_history a_history_saved r2_.2.1 r2_.1, zo_X2 a_playing a_playing_places v_playing_size, zo_X4 a_score a_score_cells v_score_size, zo_X6 a_sounds a_score a_sounds_shifts a_sounds_heldTicks, zo_X4 a_history_s0 a_history_s0_cells r2_.2.2.1, zo_X4 a_history_s1 a_history_s1_cells r2_.2.2.2.1, zo_X4 a_history_s2 a_history_s2_cells r2_.2.2.2.2.1, zo_X4 a_history_s3 a_history_s3_cells r2_.2.2.2.2.2.1, (a_history_saved, .inl (zO g, 4, .inr (.inr (.inr (.inr (zSv a_history_s0 a_history_s1 a_history_s2 a_history_s3)))))), (a_playing_places, .inl (zI g, 200, .inl v_playing_places)), (a_score_cells, .inl (zI g, 912, .inl v_score_cells)), (a_sounds_heldTicks, .inl (zI g, 768, .inl v_sounds_heldTicks)), (a_sounds_shifts, .inl (zI g, 768, .inl v_sounds_shifts)), (a_history_s0_cells, .inl (zI g, 912, .inl r2_.2.2.2.2.2.2.1)), (a_history_s1_cells, .inl (zI g, 912, .inl r2_.2.2.2.2.2.2.2.1)), (a_history_s2_cells, .inl (zI g, 912, .inl r2_.2.2.2.2.2.2.2.2.1)), (a_history_s3_cells, .inl (zI g, 912, .inl r2_.2.2.2.2.2.2.2.2.2))]) rfl rfl rfl rfl (by decide) rfl rfl (q0 := 1) (he := rfl) (hc := rfl) (rest := []) rfl hl.1 rfl (Nat.le_of_ble_eq_true rfl) ⟨rfl, rfl⟩ ⟨Nat.le_of_ble_eq_true rfl, Nat.le_of_ble_eq_true rfl⟩ ⟨Nat.zero_le _, Nat.zero_le _⟩ dX9_removeEvent_15 (st1 := []) rfl (fun H locs hP hD hS => ?_)
  refine lv_aload_n hx hb dX9_removeEvent_18 rfl (lv_at hl 0 rfl) ?_
  refine z_get (C := RX9) (T := TX9) (N := 7) (ci := 7) F zu_wsX90 hP 0 rfl rfl 0 (by decide) zw_478 rfl dX9_removeEvent_19 ?_
  refine lv_iload_n hx hb dX9_removeEvent_22 rfl (lv_at hl 1 rfl) ?_
  refine lv_iload_n hx hb dX9_removeEvent_23 rfl (lv_at hl 2 rfl) ?_
  refine lv_iload_n hx hb dX9_removeEvent_24 rfl (lv_at hl 3 rfl) ?_
  obtain ⟨r3_, hr3_, h⟩ := z_bind h
  refine zVV F (k_X4_dropEvent l N g a_score a_score_cells v_score_size v_score_cells x1 x2 x3 _ hr3_) zy_X4_dropEvent zw_574 hP hD hS [3, 11] [0, 1, 2, 4, 5, 6, 7, 8, 9, 10, 12, 13, 14, 15, 16, 17] [0, 1, 2, 16, 3, 4, 5, 6, 7, 8, 9, 17, 10, 11, 12, 13, 14, 15] (wr := [zo_X9 a_this a_score a_history a_text a_sentence a_reader a_sounds a_playing, zo_X1 a_history a_history_saved r2_.2.1 r2_.1, zo_X2 a_playing a_playing_places v_playing_size, zo_X6 a_sounds a_score a_sounds_shifts a_sounds_heldTicks, zo_X4 a_history_s0 a_history_s0_cells r2_.2.2.1, zo_X4 a_history_s1 a_history_s1_cells r2_.2.2.2.1, zo_X4 a_history_s2 a_history_s2_cells r2_.2.2.2.2.1, zo_X4 a_history_s3 a_history_s3_cells r2_.2.2.2.2.2.1, (a_history_saved, .inl (zO g, 4, .inr (.inr (.inr (.inr (zSv a_history_s0 a_history_s1 a_history_s2 a_history_s3)))))), (a_playing_places, .inl (zI g, 200, .inl v_playing_places)), (a_sounds_heldTicks, .inl (zI g, 768, .inl v_sounds_heldTicks)), (a_sounds_shifts, .inl (zI g, 768, .inl v_sounds_shifts)), (a_history_s0_cells, .inl (zI g, 912, .inl r2_.2.2.2.2.2.2.1)), (a_history_s1_cells, .inl (zI g, 912, .inl r2_.2.2.2.2.2.2.2.1)), (a_history_s2_cells, .inl (zI g, 912, .inl r2_.2.2.2.2.2.2.2.2.1)), (a_history_s3_cells, .inl (zI g, 912, .inl r2_.2.2.2.2.2.2.2.2.2))]) (W1 := [zo_X9 a_this a_score a_history a_text a_sentence a_reader a_sounds a_playing, zo_X1 a_history a_history_saved r2_.2.1 r2_.1, zo_X2 a_playing a_playing_places v_playing_size, zo_X4 a_score a_score_cells v_score_size, zo_X6 a_sounds a_score a_sounds_shifts a_sounds_heldTicks, zo_X4 a_history_s0 a_history_s0_cells r2_.2.2.1, zo_X4 a_history_s1 a_history_s1_cells r2_.2.2.2.1, zo_X4 a_history_s2 a_history_s2_cells r2_.2.2.2.2.1, zo_X4 a_history_s3 a_history_s3_cells r2_.2.2.2.2.2.1, (a_history_saved, .inl (zO g, 4, .inr (.inr (.inr (.inr (zSv a_history_s0 a_history_s1 a_history_s2 a_history_s3)))))), (a_playing_places, .inl (zI g, 200, .inl v_playing_places)), (a_score_cells, .inl (zI g, 912, .inl r3_)), (a_sounds_heldTicks, .inl (zI g, 768, .inl v_sounds_heldTicks)), (a_sounds_shifts, .inl (zI g, 768, .inl v_sounds_shifts)), (a_history_s0_cells, .inl (zI g, 912, .inl r2_.2.2.2.2.2.2.1)), (a_history_s1_cells, .inl (zI g, 912, .inl r2_.2.2.2.2.2.2.2.1)), (a_history_s2_cells, .inl (zI g, 912, .inl r2_.2.2.2.2.2.2.2.2.1)), (a_history_s3_cells, .inl (zI g, 912, .inl r2_.2.2.2.2.2.2.2.2.2))]) rfl rfl rfl rfl (by decide) rfl rfl (q0 := 3) (he := rfl) (hc := rfl) (rest := []) rfl hl.1 rfl (Nat.le_of_ble_eq_true rfl) ⟨rfl, rfl⟩ ⟨Nat.le_of_ble_eq_true rfl, Nat.le_of_ble_eq_true rfl⟩ ⟨Nat.zero_le _, Nat.zero_le _⟩ dX9_removeEvent_25 (st1 := []) rfl (fun H locs hP hD hS => ?_)
  refine lv_aload_n hx hb dX9_removeEvent_28 rfl (lv_at hl 0 rfl) ?_
  obtain ⟨r4_, hr4_, h⟩ := z_bind h
  refine zVV F (k_X9_settle l N g a_this a_score a_history a_text a_sentence a_reader a_sounds a_playing a_playing_places a_score_cells a_sounds_shifts a_sounds_heldTicks v_playing_size v_score_size v_playing_places r3_ v_sounds_heldTicks v_sounds_shifts _ hr4_) zy_X9_settle zw_524 hP hD hS [0, 2, 3, 4, 10, 11, 12, 13] [1, 5, 6, 7, 8, 9, 14, 15, 16, 17] [10, 0, 11, 12, 13, 1, 2, 3, 4, 5, 14, 15, 16, 17, 6, 7, 8, 9] (wr := [zo_X1 a_history a_history_saved r2_.2.1 r2_.1, zo_X4 a_history_s0 a_history_s0_cells r2_.2.2.1, zo_X4 a_history_s1 a_history_s1_cells r2_.2.2.2.1, zo_X4 a_history_s2 a_history_s2_cells r2_.2.2.2.2.1, zo_X4 a_history_s3 a_history_s3_cells r2_.2.2.2.2.2.1, (a_history_saved, .inl (zO g, 4, .inr (.inr (.inr (.inr (zSv a_history_s0 a_history_s1 a_history_s2 a_history_s3)))))), (a_history_s0_cells, .inl (zI g, 912, .inl r2_.2.2.2.2.2.2.1)), (a_history_s1_cells, .inl (zI g, 912, .inl r2_.2.2.2.2.2.2.2.1)), (a_history_s2_cells, .inl (zI g, 912, .inl r2_.2.2.2.2.2.2.2.2.1)), (a_history_s3_cells, .inl (zI g, 912, .inl r2_.2.2.2.2.2.2.2.2.2))]) (W1 := [zo_X9 a_this a_score a_history a_text a_sentence a_reader a_sounds a_playing, zo_X1 a_history a_history_saved r2_.2.1 r2_.1, zo_X2 a_playing a_playing_places r4_.1, zo_X4 a_score a_score_cells v_score_size, zo_X6 a_sounds a_score a_sounds_shifts a_sounds_heldTicks, zo_X4 a_history_s0 a_history_s0_cells r2_.2.2.1, zo_X4 a_history_s1 a_history_s1_cells r2_.2.2.2.1, zo_X4 a_history_s2 a_history_s2_cells r2_.2.2.2.2.1, zo_X4 a_history_s3 a_history_s3_cells r2_.2.2.2.2.2.1, (a_history_saved, .inl (zO g, 4, .inr (.inr (.inr (.inr (zSv a_history_s0 a_history_s1 a_history_s2 a_history_s3)))))), (a_playing_places, .inl (zI g, 200, .inl r4_.2.1)), (a_score_cells, .inl (zI g, 912, .inl r3_)), (a_sounds_heldTicks, .inl (zI g, 768, .inl r4_.2.2.1)), (a_sounds_shifts, .inl (zI g, 768, .inl r4_.2.2.2)), (a_history_s0_cells, .inl (zI g, 912, .inl r2_.2.2.2.2.2.2.1)), (a_history_s1_cells, .inl (zI g, 912, .inl r2_.2.2.2.2.2.2.2.1)), (a_history_s2_cells, .inl (zI g, 912, .inl r2_.2.2.2.2.2.2.2.2.1)), (a_history_s3_cells, .inl (zI g, 912, .inl r2_.2.2.2.2.2.2.2.2.2))]) rfl rfl rfl rfl (by decide) rfl rfl (q0 := 0) (he := rfl) (hc := rfl) (rest := []) rfl hl.1 rfl (Nat.le_of_ble_eq_true rfl) ⟨rfl, rfl⟩ ⟨Nat.le_of_ble_eq_true rfl, Nat.le_of_ble_eq_true rfl⟩ ⟨Nat.zero_le _, Nat.zero_le _⟩ dX9_removeEvent_29 (st1 := []) rfl (fun H locs hP hD hS => ?_)
  refine lv_aload_n hx hb dX9_removeEvent_32 rfl (lv_at hl 0 rfl) ?_
  refine z_get (C := RX9) (T := TX9) (N := 7) (ci := 7) F zu_wsX90 hP 0 rfl rfl 0 (by decide) zw_478 rfl dX9_removeEvent_33 ?_
  refine lv_iload_n hx hb dX9_removeEvent_36 rfl (lv_at hl 1 rfl) ?_
  refine lv_iload_n hx hb dX9_removeEvent_37 rfl (lv_at hl 2 rfl) ?_
  obtain ⟨r5_, hr5_, h⟩ := z_bind h
  refine zRV F (k_X4_count l N g a_score a_score_cells v_score_size r3_ x1 x2 _ hr5_) zy_X4_count zw_552 hP hD hS [3, 11] rfl rfl (q0 := 3) (he := rfl) (hc := rfl) (rest := []) rfl hl.1 rfl (Nat.le_of_ble_eq_true rfl) ⟨rfl, rfl⟩ ⟨Nat.le_of_ble_eq_true rfl, Nat.le_of_ble_eq_true rfl⟩ ⟨Nat.zero_le _, Nat.zero_le _⟩ dX9_removeEvent_38 (st1 := [.int r5_]) rfl ?_
  obtain rfl := Sum.inl.inj (Option.some.inj h)
  exact zV_i F hr hlocks hQ hP hD hS dX9_removeEvent_41
abbrev rx_X9_removeEvent : Room := { frames := 7, cells := 1, slots := 6, locals := 170 }
set_option maxHeartbeats 4000000 in
set_option maxRecDepth 100000 in
theorem kx_X9_removeEvent (l : Launch) (N : Nat) (g : zEnv) (a_this a_score a_history a_text a_sentence a_reader a_sounds a_playing a_history_saved a_history_s0 a_history_s1 a_history_s2 a_history_s3 a_playing_places a_score_cells a_sounds_shifts a_sounds_heldTicks a_history_s0_cells a_history_s1_cells a_history_s2_cells a_history_s3_cells : Nat) (v_history_next : Int32) (v_history_size : Int32) (v_playing_size : Int32) (v_score_size : Int32) (v_history_s0_size : Int32) (v_history_s1_size : Int32) (v_history_s2_size : Int32) (v_history_s3_size : Int32) (v_playing_places : Nat → Int32) (v_score_cells : Nat → Int32) (v_sounds_heldTicks : Nat → Int32) (v_sounds_shifts : Nat → Int32) (v_history_s0_cells : Nat → Int32) (v_history_s1_cells : Nat → Int32) (v_history_s2_cells : Nat → Int32) (v_history_s3_cells : Nat → Int32) (x1 : Int32) (x2 : Int32) (x3 : Int32) (r : Nat) (h : f_X9_removeEvent N v_history_next v_history_size v_playing_size v_score_size v_history_s0_size v_history_s1_size v_history_s2_size v_history_s3_size v_playing_places v_score_cells v_sounds_heldTicks v_sounds_shifts v_history_s0_cells v_history_s1_cells v_history_s2_cells v_history_s3_cells x1 x2 x3 = some (Sum.inr r)) (hfl : l.stackTraces = false) : ZE l yX9_removeEvent cX9_removeEvent 4 (some .int) rx_X9_removeEvent g [.ref a_this, .int x1, .int x2, .int x3] [zo_X9 a_this a_score a_history a_text a_sentence a_reader a_sounds a_playing, zo_X1 a_history a_history_saved v_history_size v_history_next, zo_X2 a_playing a_playing_places v_playing_size, zo_X4 a_score a_score_cells v_score_size, zo_X6 a_sounds a_score a_sounds_shifts a_sounds_heldTicks, zo_X4 a_history_s0 a_history_s0_cells v_history_s0_size, zo_X4 a_history_s1 a_history_s1_cells v_history_s1_size, zo_X4 a_history_s2 a_history_s2_cells v_history_s2_size, zo_X4 a_history_s3 a_history_s3_cells v_history_s3_size, (a_history_saved, .inl (zO g, 4, .inr (.inr (.inr (.inr (zSv a_history_s0 a_history_s1 a_history_s2 a_history_s3)))))), (a_playing_places, .inl (zI g, 200, .inl v_playing_places)), (a_score_cells, .inl (zI g, 912, .inl v_score_cells)), (a_sounds_heldTicks, .inl (zI g, 768, .inl v_sounds_heldTicks)), (a_sounds_shifts, .inl (zI g, 768, .inl v_sounds_shifts)), (a_history_s0_cells, .inl (zI g, 912, .inl v_history_s0_cells)), (a_history_s1_cells, .inl (zI g, 912, .inl v_history_s1_cells)), (a_history_s2_cells, .inl (zI g, 912, .inl v_history_s2_cells)), (a_history_s3_cells, .inl (zI g, 912, .inl v_history_s3_cells))] [zo_X9 a_this a_score a_history a_text a_sentence a_reader a_sounds a_playing, zo_X1 a_history a_history_saved v_history_size v_history_next, zo_X2 a_playing a_playing_places v_playing_size, zo_X4 a_score a_score_cells v_score_size, zo_X6 a_sounds a_score a_sounds_shifts a_sounds_heldTicks, zo_X4 a_history_s0 a_history_s0_cells v_history_s0_size, zo_X4 a_history_s1 a_history_s1_cells v_history_s1_size, zo_X4 a_history_s2 a_history_s2_cells v_history_s2_size, zo_X4 a_history_s3 a_history_s3_cells v_history_s3_size, (a_history_saved, .inl (zO g, 4, .inr (.inr (.inr (.inr (zSv a_history_s0 a_history_s1 a_history_s2 a_history_s3)))))), (a_playing_places, .inl (zI g, 200, .inl v_playing_places)), (a_score_cells, .inl (zI g, 912, .inl v_score_cells)), (a_sounds_heldTicks, .inl (zI g, 768, .inl v_sounds_heldTicks)), (a_sounds_shifts, .inl (zI g, 768, .inl v_sounds_shifts)), (a_history_s0_cells, .inl (zI g, 912, .inl v_history_s0_cells)), (a_history_s1_cells, .inl (zI g, 912, .inl v_history_s1_cells)), (a_history_s2_cells, .inl (zI g, 912, .inl v_history_s2_cells)), (a_history_s3_cells, .inl (zI g, 912, .inl v_history_s3_cells))] r := by
  refine zE_of (by decide) (Nat.le_of_ble_eq_true rfl) ?_
  intro p e s m below meth c A H locs ls Q R F hRm hlocks hN htab hP hD hS hl hQ
  subst hRm
  have F : zF p m c cX9_removeEvent 4 s (([.ref a_this, .int x1, .int x2, .int x3] : List Value)).toArray RX9 g A := F
  have hx := F.1.1
  have hb := F.1.2.1
  have hz := F.1.2.2.2.2
  have hl : lv_has ls 4 [(0, .ref a_this), (1, .int x1), (2, .int x2), (3, .int x3)] := hl
  unfold f_X9_removeEvent at h
  refine lv_aload_n hx hb dX9_removeEvent_0 rfl (lv_at hl 0 rfl) ?_
  refine lv_iload_n hx hb dX9_removeEvent_1 rfl (lv_at hl 1 rfl) ?_
  refine lv_iload_n hx hb dX9_removeEvent_2 rfl (lv_at hl 2 rfl) ?_
  refine lv_iload_n hx hb dX9_removeEvent_3 rfl (lv_at hl 3 rfl) ?_
  refine z_subR h (fun h => ?_) (fun r1_ hr1_ h => ?_)
  · exact zXV F (kx_X9_requireEvent l N g a_this a_score a_history a_text a_sentence a_reader a_sounds a_playing a_score_cells v_score_size v_score_cells x1 x2 x3 _ h hfl) hN zy_X9_requireEvent zw_571 hP hD hS [0, 3, 11] [1, 2, 4, 5, 6, 7, 8, 9, 10, 12, 13, 14, 15, 16, 17] [15, 0, 1, 16, 2, 3, 4, 5, 6, 7, 8, 17, 9, 10, 11, 12, 13, 14] (wr := [zo_X1 a_history a_history_saved v_history_size v_history_next, zo_X2 a_playing a_playing_places v_playing_size, zo_X6 a_sounds a_score a_sounds_shifts a_sounds_heldTicks, zo_X4 a_history_s0 a_history_s0_cells v_history_s0_size, zo_X4 a_history_s1 a_history_s1_cells v_history_s1_size, zo_X4 a_history_s2 a_history_s2_cells v_history_s2_size, zo_X4 a_history_s3 a_history_s3_cells v_history_s3_size, (a_history_saved, .inl (zO g, 4, .inr (.inr (.inr (.inr (zSv a_history_s0 a_history_s1 a_history_s2 a_history_s3)))))), (a_playing_places, .inl (zI g, 200, .inl v_playing_places)), (a_sounds_heldTicks, .inl (zI g, 768, .inl v_sounds_heldTicks)), (a_sounds_shifts, .inl (zI g, 768, .inl v_sounds_shifts)), (a_history_s0_cells, .inl (zI g, 912, .inl v_history_s0_cells)), (a_history_s1_cells, .inl (zI g, 912, .inl v_history_s1_cells)), (a_history_s2_cells, .inl (zI g, 912, .inl v_history_s2_cells)), (a_history_s3_cells, .inl (zI g, 912, .inl v_history_s3_cells))]) (W1 := [zo_X9 a_this a_score a_history a_text a_sentence a_reader a_sounds a_playing, zo_X1 a_history a_history_saved v_history_size v_history_next, zo_X2 a_playing a_playing_places v_playing_size, zo_X4 a_score a_score_cells v_score_size, zo_X6 a_sounds a_score a_sounds_shifts a_sounds_heldTicks, zo_X4 a_history_s0 a_history_s0_cells v_history_s0_size, zo_X4 a_history_s1 a_history_s1_cells v_history_s1_size, zo_X4 a_history_s2 a_history_s2_cells v_history_s2_size, zo_X4 a_history_s3 a_history_s3_cells v_history_s3_size, (a_history_saved, .inl (zO g, 4, .inr (.inr (.inr (.inr (zSv a_history_s0 a_history_s1 a_history_s2 a_history_s3)))))), (a_playing_places, .inl (zI g, 200, .inl v_playing_places)), (a_score_cells, .inl (zI g, 912, .inl v_score_cells)), (a_sounds_heldTicks, .inl (zI g, 768, .inl v_sounds_heldTicks)), (a_sounds_shifts, .inl (zI g, 768, .inl v_sounds_shifts)), (a_history_s0_cells, .inl (zI g, 912, .inl v_history_s0_cells)), (a_history_s1_cells, .inl (zI g, 912, .inl v_history_s1_cells)), (a_history_s2_cells, .inl (zI g, 912, .inl v_history_s2_cells)), (a_history_s3_cells, .inl (zI g, 912, .inl v_history_s3_cells))]) rfl rfl rfl rfl (by decide) rfl rfl (q0 := 0) (he := rfl) (hc := rfl) (rest := []) rfl hl.1 rfl (Nat.le_of_ble_eq_true rfl) ⟨rfl, rfl⟩ ⟨Nat.le_of_ble_eq_true rfl, Nat.le_of_ble_eq_true rfl⟩ ⟨Nat.le_of_ble_eq_true rfl, Nat.le_of_ble_eq_true rfl⟩ dX9_removeEvent_4 htab hlocks hQ
  refine zRV F (k_X9_requireEvent l N g a_this a_score a_history a_text a_sentence a_reader a_sounds a_playing a_score_cells v_score_size v_score_cells x1 x2 x3 _ hr1_) zy_X9_requireEvent zw_571 hP hD hS [0, 3, 11] rfl rfl (q0 := 0) (he := rfl) (hc := rfl) (rest := []) rfl hl.1 rfl (Nat.le_of_ble_eq_true rfl) ⟨rfl, rfl⟩ ⟨Nat.le_of_ble_eq_true rfl, Nat.le_of_ble_eq_true rfl⟩ ⟨Nat.zero_le _, Nat.zero_le _⟩ dX9_removeEvent_4 (st1 := []) rfl ?_
  refine lv_aload_n hx hb dX9_removeEvent_7 rfl (lv_at hl 0 rfl) ?_
  refine z_get (C := RX9) (T := TX9) (N := 7) (ci := 7) F zu_wsX90 hP 0 rfl rfl 1 (by decide) zw_481 rfl dX9_removeEvent_8 ?_
  refine lv_aload_n hx hb dX9_removeEvent_11 rfl (lv_at hl 0 rfl) ?_
  refine z_get (C := RX9) (T := TX9) (N := 7) (ci := 7) F zu_wsX90 hP 0 rfl rfl 0 (by decide) zw_478 rfl dX9_removeEvent_12 ?_
  obtain ⟨r2_, hr2_, h⟩ := z_bind h
  refine zVV F (k_X1_push l N g a_history a_history_saved a_history_s0 a_history_s1 a_history_s2 a_history_s3 a_history_s0_cells a_history_s1_cells a_history_s2_cells a_history_s3_cells a_score a_score_cells v_history_next v_history_size v_history_s0_size v_history_s1_size v_history_s2_size v_history_s3_size v_history_s0_cells v_history_s1_cells v_history_s2_cells v_history_s3_cells v_score_size v_score_cells _ hr2_) zy_X1_push zw_520 hP hD hS [1, 5, 6, 7, 8, 9, 14, 15, 16, 17, 3, 11] [0, 2, 4, 10, 12, 13] [0, 6, 1, 16, 2, 7, 8, 9, 10, 11, 3, 17, 4, 5, 12, 13, 14, 15] (wr := [zo_X9 a_this a_score a_history a_text a_sentence a_reader a_sounds a_playing, zo_X2 a_playing a_playing_places v_playing_size, zo_X6 a_sounds a_score a_sounds_shifts a_sounds_heldTicks, (a_playing_places, .inl (zI g, 200, .inl v_playing_places)), (a_sounds_heldTicks, .inl (zI g, 768, .inl v_sounds_heldTicks)), (a_sounds_shifts, .inl (zI g, 768, .inl v_sounds_shifts))]) (W1 := [zo_X9 a_this a_score a_history a_text a_sentence a_reader a_sounds a_playing, zo_X1 a_history a_history_saved r2_.2.1 r2_.1, zo_X2 a_playing a_playing_places v_playing_size, zo_X4 a_score a_score_cells v_score_size, zo_X6 a_sounds a_score a_sounds_shifts a_sounds_heldTicks, zo_X4 a_history_s0 a_history_s0_cells r2_.2.2.1, zo_X4 a_history_s1 a_history_s1_cells r2_.2.2.2.1, zo_X4 a_history_s2 a_history_s2_cells r2_.2.2.2.2.1, zo_X4 a_history_s3 a_history_s3_cells r2_.2.2.2.2.2.1, (a_history_saved, .inl (zO g, 4, .inr (.inr (.inr (.inr (zSv a_history_s0 a_history_s1 a_history_s2 a_history_s3)))))), (a_playing_places, .inl (zI g, 200, .inl v_playing_places)), (a_score_cells, .inl (zI g, 912, .inl v_score_cells)), (a_sounds_heldTicks, .inl (zI g, 768, .inl v_sounds_heldTicks)), (a_sounds_shifts, .inl (zI g, 768, .inl v_sounds_shifts)), (a_history_s0_cells, .inl (zI g, 912, .inl r2_.2.2.2.2.2.2.1)), (a_history_s1_cells, .inl (zI g, 912, .inl r2_.2.2.2.2.2.2.2.1)), (a_history_s2_cells, .inl (zI g, 912, .inl r2_.2.2.2.2.2.2.2.2.1)), (a_history_s3_cells, .inl (zI g, 912, .inl r2_.2.2.2.2.2.2.2.2.2))]) rfl rfl rfl rfl (by decide) rfl rfl (q0 := 1) (he := rfl) (hc := rfl) (rest := []) rfl hl.1 rfl (Nat.le_of_ble_eq_true rfl) ⟨rfl, rfl⟩ ⟨Nat.le_of_ble_eq_true rfl, Nat.le_of_ble_eq_true rfl⟩ ⟨Nat.zero_le _, Nat.zero_le _⟩ dX9_removeEvent_15 (st1 := []) rfl (fun H locs hP hD hS => ?_)
  refine lv_aload_n hx hb dX9_removeEvent_18 rfl (lv_at hl 0 rfl) ?_
  refine z_get (C := RX9) (T := TX9) (N := 7) (ci := 7) F zu_wsX90 hP 0 rfl rfl 0 (by decide) zw_478 rfl dX9_removeEvent_19 ?_
  refine lv_iload_n hx hb dX9_removeEvent_22 rfl (lv_at hl 1 rfl) ?_
  refine lv_iload_n hx hb dX9_removeEvent_23 rfl (lv_at hl 2 rfl) ?_
  refine lv_iload_n hx hb dX9_removeEvent_24 rfl (lv_at hl 3 rfl) ?_
  obtain ⟨r3_, hr3_, h⟩ := z_bind h
  refine zVV F (k_X4_dropEvent l N g a_score a_score_cells v_score_size v_score_cells x1 x2 x3 _ hr3_) zy_X4_dropEvent zw_574 hP hD hS [3, 11] [0, 1, 2, 4, 5, 6, 7, 8, 9, 10, 12, 13, 14, 15, 16, 17] [0, 1, 2, 16, 3, 4, 5, 6, 7, 8, 9, 17, 10, 11, 12, 13, 14, 15] (wr := [zo_X9 a_this a_score a_history a_text a_sentence a_reader a_sounds a_playing, zo_X1 a_history a_history_saved r2_.2.1 r2_.1, zo_X2 a_playing a_playing_places v_playing_size, zo_X6 a_sounds a_score a_sounds_shifts a_sounds_heldTicks, zo_X4 a_history_s0 a_history_s0_cells r2_.2.2.1, zo_X4 a_history_s1 a_history_s1_cells r2_.2.2.2.1, zo_X4 a_history_s2 a_history_s2_cells r2_.2.2.2.2.1, zo_X4 a_history_s3 a_history_s3_cells r2_.2.2.2.2.2.1, (a_history_saved, .inl (zO g, 4, .inr (.inr (.inr (.inr (zSv a_history_s0 a_history_s1 a_history_s2 a_history_s3)))))), (a_playing_places, .inl (zI g, 200, .inl v_playing_places)), (a_sounds_heldTicks, .inl (zI g, 768, .inl v_sounds_heldTicks)), (a_sounds_shifts, .inl (zI g, 768, .inl v_sounds_shifts)), (a_history_s0_cells, .inl (zI g, 912, .inl r2_.2.2.2.2.2.2.1)), (a_history_s1_cells, .inl (zI g, 912, .inl r2_.2.2.2.2.2.2.2.1)), (a_history_s2_cells, .inl (zI g, 912, .inl r2_.2.2.2.2.2.2.2.2.1)), (a_history_s3_cells, .inl (zI g, 912, .inl r2_.2.2.2.2.2.2.2.2.2))]) (W1 := [zo_X9 a_this a_score a_history a_text a_sentence a_reader a_sounds a_playing, zo_X1 a_history a_history_saved r2_.2.1 r2_.1, zo_X2 a_playing a_playing_places v_playing_size, zo_X4 a_score a_score_cells v_score_size, zo_X6 a_sounds a_score a_sounds_shifts a_sounds_heldTicks, zo_X4 a_history_s0 a_history_s0_cells r2_.2.2.1, zo_X4 a_history_s1 a_history_s1_cells r2_.2.2.2.1, zo_X4 a_history_s2 a_history_s2_cells r2_.2.2.2.2.1, zo_X4 a_history_s3 a_history_s3_cells r2_.2.2.2.2.2.1, (a_history_saved, .inl (zO g, 4, .inr (.inr (.inr (.inr (zSv a_history_s0 a_history_s1 a_history_s2 a_history_s3)))))), (a_playing_places, .inl (zI g, 200, .inl v_playing_places)), (a_score_cells, .inl (zI g, 912, .inl r3_)), (a_sounds_heldTicks, .inl (zI g, 768, .inl v_sounds_heldTicks)), (a_sounds_shifts, .inl (zI g, 768, .inl v_sounds_shifts)), (a_history_s0_cells, .inl (zI g, 912, .inl r2_.2.2.2.2.2.2.1)), (a_history_s1_cells, .inl (zI g, 912, .inl r2_.2.2.2.2.2.2.2.1)), (a_history_s2_cells, .inl (zI g, 912, .inl r2_.2.2.2.2.2.2.2.2.1)), (a_history_s3_cells, .inl (zI g, 912, .inl r2_.2.2.2.2.2.2.2.2.2))]) rfl rfl rfl rfl (by decide) rfl rfl (q0 := 3) (he := rfl) (hc := rfl) (rest := []) rfl hl.1 rfl (Nat.le_of_ble_eq_true rfl) ⟨rfl, rfl⟩ ⟨Nat.le_of_ble_eq_true rfl, Nat.le_of_ble_eq_true rfl⟩ ⟨Nat.zero_le _, Nat.zero_le _⟩ dX9_removeEvent_25 (st1 := []) rfl (fun H locs hP hD hS => ?_)
  refine lv_aload_n hx hb dX9_removeEvent_28 rfl (lv_at hl 0 rfl) ?_
  obtain ⟨r4_, hr4_, h⟩ := z_bind h
  refine zVV F (k_X9_settle l N g a_this a_score a_history a_text a_sentence a_reader a_sounds a_playing a_playing_places a_score_cells a_sounds_shifts a_sounds_heldTicks v_playing_size v_score_size v_playing_places r3_ v_sounds_heldTicks v_sounds_shifts _ hr4_) zy_X9_settle zw_524 hP hD hS [0, 2, 3, 4, 10, 11, 12, 13] [1, 5, 6, 7, 8, 9, 14, 15, 16, 17] [10, 0, 11, 12, 13, 1, 2, 3, 4, 5, 14, 15, 16, 17, 6, 7, 8, 9] (wr := [zo_X1 a_history a_history_saved r2_.2.1 r2_.1, zo_X4 a_history_s0 a_history_s0_cells r2_.2.2.1, zo_X4 a_history_s1 a_history_s1_cells r2_.2.2.2.1, zo_X4 a_history_s2 a_history_s2_cells r2_.2.2.2.2.1, zo_X4 a_history_s3 a_history_s3_cells r2_.2.2.2.2.2.1, (a_history_saved, .inl (zO g, 4, .inr (.inr (.inr (.inr (zSv a_history_s0 a_history_s1 a_history_s2 a_history_s3)))))), (a_history_s0_cells, .inl (zI g, 912, .inl r2_.2.2.2.2.2.2.1)), (a_history_s1_cells, .inl (zI g, 912, .inl r2_.2.2.2.2.2.2.2.1)), (a_history_s2_cells, .inl (zI g, 912, .inl r2_.2.2.2.2.2.2.2.2.1)), (a_history_s3_cells, .inl (zI g, 912, .inl r2_.2.2.2.2.2.2.2.2.2))]) (W1 := [zo_X9 a_this a_score a_history a_text a_sentence a_reader a_sounds a_playing, zo_X1 a_history a_history_saved r2_.2.1 r2_.1, zo_X2 a_playing a_playing_places r4_.1, zo_X4 a_score a_score_cells v_score_size, zo_X6 a_sounds a_score a_sounds_shifts a_sounds_heldTicks, zo_X4 a_history_s0 a_history_s0_cells r2_.2.2.1, zo_X4 a_history_s1 a_history_s1_cells r2_.2.2.2.1, zo_X4 a_history_s2 a_history_s2_cells r2_.2.2.2.2.1, zo_X4 a_history_s3 a_history_s3_cells r2_.2.2.2.2.2.1, (a_history_saved, .inl (zO g, 4, .inr (.inr (.inr (.inr (zSv a_history_s0 a_history_s1 a_history_s2 a_history_s3)))))), (a_playing_places, .inl (zI g, 200, .inl r4_.2.1)), (a_score_cells, .inl (zI g, 912, .inl r3_)), (a_sounds_heldTicks, .inl (zI g, 768, .inl r4_.2.2.1)), (a_sounds_shifts, .inl (zI g, 768, .inl r4_.2.2.2)), (a_history_s0_cells, .inl (zI g, 912, .inl r2_.2.2.2.2.2.2.1)), (a_history_s1_cells, .inl (zI g, 912, .inl r2_.2.2.2.2.2.2.2.1)), (a_history_s2_cells, .inl (zI g, 912, .inl r2_.2.2.2.2.2.2.2.2.1)), (a_history_s3_cells, .inl (zI g, 912, .inl r2_.2.2.2.2.2.2.2.2.2))]) rfl rfl rfl rfl (by decide) rfl rfl (q0 := 0) (he := rfl) (hc := rfl) (rest := []) rfl hl.1 rfl (Nat.le_of_ble_eq_true rfl) ⟨rfl, rfl⟩ ⟨Nat.le_of_ble_eq_true rfl, Nat.le_of_ble_eq_true rfl⟩ ⟨Nat.zero_le _, Nat.zero_le _⟩ dX9_removeEvent_29 (st1 := []) rfl (fun H locs hP hD hS => ?_)
  refine lv_aload_n hx hb dX9_removeEvent_32 rfl (lv_at hl 0 rfl) ?_
  refine z_get (C := RX9) (T := TX9) (N := 7) (ci := 7) F zu_wsX90 hP 0 rfl rfl 0 (by decide) zw_478 rfl dX9_removeEvent_33 ?_
  refine lv_iload_n hx hb dX9_removeEvent_36 rfl (lv_at hl 1 rfl) ?_
  refine lv_iload_n hx hb dX9_removeEvent_37 rfl (lv_at hl 2 rfl) ?_
  obtain ⟨r5_, hr5_, h⟩ := z_bind h
  refine zRV F (k_X4_count l N g a_score a_score_cells v_score_size r3_ x1 x2 _ hr5_) zy_X4_count zw_552 hP hD hS [3, 11] rfl rfl (q0 := 3) (he := rfl) (hc := rfl) (rest := []) rfl hl.1 rfl (Nat.le_of_ble_eq_true rfl) ⟨rfl, rfl⟩ ⟨Nat.le_of_ble_eq_true rfl, Nat.le_of_ble_eq_true rfl⟩ ⟨Nat.zero_le _, Nat.zero_le _⟩ dX9_removeEvent_38 (st1 := [.int r5_]) rfl ?_
  cases h
def f_X9_measure (N : Nat) (v_score_size : Int32) (v_score_cells : Nat → Int32) (x1 : Int32) (x2 : Int32) : Option (Int32 ⊕ Nat) :=
  zSub (f_X9_requireMeasure N v_score_size x1) (fun (r1_ : Unit) => zSub (f_X9_requireRange N x2 0 11) (fun (r2_ : Unit) => if x2 = 7 then Option.bind (f_X4_ticks N v_score_size v_score_cells x1) (fun (r3_ : Int32) => some (Sum.inl r3_)) else if x2 = 8 then Option.bind (f_X4_count N v_score_size v_score_cells x1 0) (fun (r4_ : Int32) => some (Sum.inl r4_)) else if x2 = 9 then Option.bind (f_X4_count N v_score_size v_score_cells x1 1) (fun (r5_ : Int32) => some (Sum.inl r5_)) else if x2 = 10 then Option.bind (f_X4_voiceTicks N v_score_size v_score_cells x1 0) (fun (r6_ : Int32) => some (Sum.inl r6_)) else if x2 = 11 then Option.bind (f_X4_voiceTicks N v_score_size v_score_cells x1 1) (fun (r7_ : Int32) => some (Sum.inl r7_)) else Option.bind (f_X4_value N v_score_size v_score_cells x1 x2) (fun (r8_ : Int32) => some (Sum.inl r8_))))
abbrev rm_X9_measure : Room := { frames := 7, cells := 0, slots := 0, locals := 112 }
theorem zy_X9_measure : zYv yX9_measure RX9 cX9_measure 3 (some .int) 2 := ⟨zw_700, zw_701, zw_527, zw_580, ⟨by decide, by decide⟩, by decide +kernel⟩
set_option maxHeartbeats 4000000 in
set_option maxRecDepth 100000 in
theorem k_X9_measure (l : Launch) (N : Nat) (g : zEnv) (a_this a_score a_history a_text a_sentence a_reader a_sounds a_playing a_score_cells : Nat) (v_score_size : Int32) (v_score_cells : Nat → Int32) (x1 : Int32) (x2 : Int32) (r : Int32) (h : f_X9_measure N v_score_size v_score_cells x1 x2 = some (Sum.inl r)) : ZR l yX9_measure cX9_measure 3 (some .int) rm_X9_measure g [.ref a_this, .int x1, .int x2] [zo_X9 a_this a_score a_history a_text a_sentence a_reader a_sounds a_playing, zo_X4 a_score a_score_cells v_score_size, (a_score_cells, .inl (zI g, 912, .inl v_score_cells))] (some (.int r)) := by
  refine zR_of (by decide) (Nat.le_of_ble_eq_true rfl) ?_
  intro p e s m below meth c A ls Q R F hRm hr hlocks hP hD hS hl hQ
  subst hRm
  have F : zF p m c cX9_measure 3 s (([.ref a_this, .int x1, .int x2] : List Value)).toArray RX9 g A := F
  have hx := F.1.1
  have hb := F.1.2.1
  have hz := F.1.2.2.2.2
  have hl : lv_has ls 3 [(0, .ref a_this), (1, .int x1), (2, .int x2)] := hl
  unfold f_X9_measure at h
  refine lv_aload_n hx hb dX9_measure_0 rfl (lv_at hl 0 rfl) ?_
  refine lv_iload_n hx hb dX9_measure_1 rfl (lv_at hl 1 rfl) ?_
  obtain ⟨r1_, hr1_, h⟩ := z_subL h
  refine zRV F (k_X9_requireMeasure l N g a_this a_score a_history a_text a_sentence a_reader a_sounds a_playing a_score_cells v_score_size x1 _ hr1_) zy_X9_requireMeasure zw_534 hP hD hS [0, 1] rfl rfl (q0 := 0) (he := rfl) (hc := rfl) (rest := []) rfl hl.1 rfl (Nat.le_of_ble_eq_true rfl) ⟨rfl, rfl⟩ ⟨Nat.le_of_ble_eq_true rfl, Nat.le_of_ble_eq_true rfl⟩ ⟨Nat.zero_le _, Nat.zero_le _⟩ dX9_measure_2 (st1 := []) rfl ?_
  refine lv_iload_n hx hb dX9_measure_5 rfl (lv_at hl 2 rfl) ?_
  refine lv_iconst (v := 0) hx hb dX9_measure_6 (by decide) ?_
  refine lv_bipush (v := 11) hx hb dX9_measure_7 (by decide) ?_
  obtain ⟨r2_, hr2_, h⟩ := z_subL h
  refine zRS F (k_X9_requireRange l N g x2 0 11 _ hr2_) zy_X9_requireRange zw_557 hP hD hS [] rfl rfl (rest := []) rfl hl.1 rfl (Nat.le_of_ble_eq_true rfl) ⟨rfl, rfl⟩ ⟨Nat.le_of_ble_eq_true rfl, Nat.le_of_ble_eq_true rfl⟩ ⟨Nat.zero_le _, Nat.zero_le _⟩ dX9_measure_9 (st1 := []) rfl ?_
  refine lv_iload_n hx hb dX9_measure_12 rfl (lv_at hl 2 rfl) ?_
  by_cases c13_7_ : x2 = 7
  · rw [if_pos c13_7_] at h
    refine lv_tableIn (tgt := 48) hx hb dX9_measure_13 (by rw [c13_7_]; decide) (by rw [c13_7_]; decide) (by rw [c13_7_]; rfl) (by decide) ?_
    refine lv_aload_n hx hb dX9_measure_48 rfl (lv_at hl 0 rfl) ?_
    refine z_get (C := RX9) (T := TX9) (N := 7) (ci := 7) F zu_wsX90 hP 0 rfl rfl 0 (by decide) zw_478 rfl dX9_measure_49 ?_
    refine lv_iload_n hx hb dX9_measure_52 rfl (lv_at hl 1 rfl) ?_
    obtain ⟨r3_, hr3_, h⟩ := z_bind h
    refine zRV F (k_X4_ticks l N g a_score a_score_cells v_score_size v_score_cells x1 _ hr3_) zy_X4_ticks zw_578 hP hD hS [1, 2] rfl rfl (q0 := 1) (he := rfl) (hc := rfl) (rest := []) rfl hl.1 rfl (Nat.le_of_ble_eq_true rfl) ⟨rfl, rfl⟩ ⟨Nat.le_of_ble_eq_true rfl, Nat.le_of_ble_eq_true rfl⟩ ⟨Nat.zero_le _, Nat.zero_le _⟩ dX9_measure_53 (st1 := [.int r3_]) rfl ?_
    obtain rfl := Sum.inl.inj (Option.some.inj h)
    exact zR_i F hr hlocks hQ dX9_measure_56
  rw [if_neg c13_7_] at h
  by_cases c13_8_ : x2 = 8
  · rw [if_pos c13_8_] at h
    refine lv_tableIn (tgt := 57) hx hb dX9_measure_13 (by rw [c13_8_]; decide) (by rw [c13_8_]; decide) (by rw [c13_8_]; rfl) (by decide) ?_
    refine lv_aload_n hx hb dX9_measure_57 rfl (lv_at hl 0 rfl) ?_
    refine z_get (C := RX9) (T := TX9) (N := 7) (ci := 7) F zu_wsX90 hP 0 rfl rfl 0 (by decide) zw_478 rfl dX9_measure_58 ?_
    refine lv_iload_n hx hb dX9_measure_61 rfl (lv_at hl 1 rfl) ?_
    refine lv_iconst (v := 0) hx hb dX9_measure_62 (by decide) ?_
    obtain ⟨r4_, hr4_, h⟩ := z_bind h
    refine zRV F (k_X4_count l N g a_score a_score_cells v_score_size v_score_cells x1 0 _ hr4_) zy_X4_count zw_552 hP hD hS [1, 2] rfl rfl (q0 := 1) (he := rfl) (hc := rfl) (rest := []) rfl hl.1 rfl (Nat.le_of_ble_eq_true rfl) ⟨rfl, rfl⟩ ⟨Nat.le_of_ble_eq_true rfl, Nat.le_of_ble_eq_true rfl⟩ ⟨Nat.zero_le _, Nat.zero_le _⟩ dX9_measure_63 (st1 := [.int r4_]) rfl ?_
    obtain rfl := Sum.inl.inj (Option.some.inj h)
    exact zR_i F hr hlocks hQ dX9_measure_66
  rw [if_neg c13_8_] at h
  by_cases c13_9_ : x2 = 9
  · rw [if_pos c13_9_] at h
    refine lv_tableIn (tgt := 67) hx hb dX9_measure_13 (by rw [c13_9_]; decide) (by rw [c13_9_]; decide) (by rw [c13_9_]; rfl) (by decide) ?_
    refine lv_aload_n hx hb dX9_measure_67 rfl (lv_at hl 0 rfl) ?_
    refine z_get (C := RX9) (T := TX9) (N := 7) (ci := 7) F zu_wsX90 hP 0 rfl rfl 0 (by decide) zw_478 rfl dX9_measure_68 ?_
    refine lv_iload_n hx hb dX9_measure_71 rfl (lv_at hl 1 rfl) ?_
    refine lv_iconst (v := 1) hx hb dX9_measure_72 (by decide) ?_
    obtain ⟨r5_, hr5_, h⟩ := z_bind h
    refine zRV F (k_X4_count l N g a_score a_score_cells v_score_size v_score_cells x1 1 _ hr5_) zy_X4_count zw_552 hP hD hS [1, 2] rfl rfl (q0 := 1) (he := rfl) (hc := rfl) (rest := []) rfl hl.1 rfl (Nat.le_of_ble_eq_true rfl) ⟨rfl, rfl⟩ ⟨Nat.le_of_ble_eq_true rfl, Nat.le_of_ble_eq_true rfl⟩ ⟨Nat.zero_le _, Nat.zero_le _⟩ dX9_measure_73 (st1 := [.int r5_]) rfl ?_
    obtain rfl := Sum.inl.inj (Option.some.inj h)
    exact zR_i F hr hlocks hQ dX9_measure_76
  rw [if_neg c13_9_] at h
  by_cases c13_10_ : x2 = 10
  · rw [if_pos c13_10_] at h
    refine lv_tableIn (tgt := 77) hx hb dX9_measure_13 (by rw [c13_10_]; decide) (by rw [c13_10_]; decide) (by rw [c13_10_]; rfl) (by decide) ?_
    refine lv_aload_n hx hb dX9_measure_77 rfl (lv_at hl 0 rfl) ?_
    refine z_get (C := RX9) (T := TX9) (N := 7) (ci := 7) F zu_wsX90 hP 0 rfl rfl 0 (by decide) zw_478 rfl dX9_measure_78 ?_
    refine lv_iload_n hx hb dX9_measure_81 rfl (lv_at hl 1 rfl) ?_
    refine lv_iconst (v := 0) hx hb dX9_measure_82 (by decide) ?_
    obtain ⟨r6_, hr6_, h⟩ := z_bind h
    refine zRV F (k_X4_voiceTicks l N g a_score a_score_cells v_score_size v_score_cells x1 0 _ hr6_) zy_X4_voiceTicks zw_579 hP hD hS [1, 2] rfl rfl (q0 := 1) (he := rfl) (hc := rfl) (rest := []) rfl hl.1 rfl (Nat.le_of_ble_eq_true rfl) ⟨rfl, rfl⟩ ⟨Nat.le_of_ble_eq_true rfl, Nat.le_of_ble_eq_true rfl⟩ ⟨Nat.zero_le _, Nat.zero_le _⟩ dX9_measure_83 (st1 := [.int r6_]) rfl ?_
    obtain rfl := Sum.inl.inj (Option.some.inj h)
    exact zR_i F hr hlocks hQ dX9_measure_86
  rw [if_neg c13_10_] at h
  by_cases c13_11_ : x2 = 11
  · rw [if_pos c13_11_] at h
    refine lv_tableIn (tgt := 87) hx hb dX9_measure_13 (by rw [c13_11_]; decide) (by rw [c13_11_]; decide) (by rw [c13_11_]; rfl) (by decide) ?_
    refine lv_aload_n hx hb dX9_measure_87 rfl (lv_at hl 0 rfl) ?_
    refine z_get (C := RX9) (T := TX9) (N := 7) (ci := 7) F zu_wsX90 hP 0 rfl rfl 0 (by decide) zw_478 rfl dX9_measure_88 ?_
    refine lv_iload_n hx hb dX9_measure_91 rfl (lv_at hl 1 rfl) ?_
    refine lv_iconst (v := 1) hx hb dX9_measure_92 (by decide) ?_
    obtain ⟨r7_, hr7_, h⟩ := z_bind h
    refine zRV F (k_X4_voiceTicks l N g a_score a_score_cells v_score_size v_score_cells x1 1 _ hr7_) zy_X4_voiceTicks zw_579 hP hD hS [1, 2] rfl rfl (q0 := 1) (he := rfl) (hc := rfl) (rest := []) rfl hl.1 rfl (Nat.le_of_ble_eq_true rfl) ⟨rfl, rfl⟩ ⟨Nat.le_of_ble_eq_true rfl, Nat.le_of_ble_eq_true rfl⟩ ⟨Nat.zero_le _, Nat.zero_le _⟩ dX9_measure_93 (st1 := [.int r7_]) rfl ?_
    obtain rfl := Sum.inl.inj (Option.some.inj h)
    exact zR_i F hr hlocks hQ dX9_measure_96
  rw [if_neg c13_11_] at h
  have kd13_ : W p l e rm_X9_measure s m (([.ref a_this, .int x1, .int x2] : List Value)).toArray below meth c s.heap [] 0 0 Q (F0 m 97 ls []) := by
    refine lv_aload_n hx hb dX9_measure_97 rfl (lv_at hl 0 rfl) ?_
    refine z_get (C := RX9) (T := TX9) (N := 7) (ci := 7) F zu_wsX90 hP 0 rfl rfl 0 (by decide) zw_478 rfl dX9_measure_98 ?_
    refine lv_iload_n hx hb dX9_measure_101 rfl (lv_at hl 1 rfl) ?_
    refine lv_iload_n hx hb dX9_measure_102 rfl (lv_at hl 2 rfl) ?_
    obtain ⟨r8_, hr8_, h⟩ := z_bind h
    refine zRV F (k_X4_value l N g a_score a_score_cells v_score_size v_score_cells x1 x2 _ hr8_) zy_X4_value zw_544 hP hD hS [1, 2] rfl rfl (q0 := 1) (he := rfl) (hc := rfl) (rest := []) rfl hl.1 rfl (Nat.le_of_ble_eq_true rfl) ⟨rfl, rfl⟩ ⟨Nat.le_of_ble_eq_true rfl, Nat.le_of_ble_eq_true rfl⟩ ⟨Nat.zero_le _, Nat.zero_le _⟩ dX9_measure_103 (st1 := [.int r8_]) rfl ?_
    obtain rfl := Sum.inl.inj (Option.some.inj h)
    exact zR_i F hr hlocks hQ dX9_measure_106
  exact lv_tableOut (tgt := 97) hx hb dX9_measure_13 (z_sw 7 5 x2 (fun j hj => match j, hj with | 0, _ => c13_7_ | 1, _ => c13_8_ | 2, _ => c13_9_ | 3, _ => c13_10_ | 4, _ => c13_11_ | j + 5, hj => absurd hj (by omega))) (by decide) kd13_
abbrev rx_X9_measure : Room := { frames := 7, cells := 1, slots := 6, locals := 112 }
set_option maxHeartbeats 4000000 in
set_option maxRecDepth 100000 in
theorem kx_X9_measure (l : Launch) (N : Nat) (g : zEnv) (a_this a_score a_history a_text a_sentence a_reader a_sounds a_playing a_score_cells : Nat) (v_score_size : Int32) (v_score_cells : Nat → Int32) (x1 : Int32) (x2 : Int32) (r : Nat) (h : f_X9_measure N v_score_size v_score_cells x1 x2 = some (Sum.inr r)) (hfl : l.stackTraces = false) : ZE l yX9_measure cX9_measure 3 (some .int) rx_X9_measure g [.ref a_this, .int x1, .int x2] [zo_X9 a_this a_score a_history a_text a_sentence a_reader a_sounds a_playing, zo_X4 a_score a_score_cells v_score_size, (a_score_cells, .inl (zI g, 912, .inl v_score_cells))] [zo_X9 a_this a_score a_history a_text a_sentence a_reader a_sounds a_playing, zo_X4 a_score a_score_cells v_score_size, (a_score_cells, .inl (zI g, 912, .inl v_score_cells))] r := by
  refine zE_of (by decide) (Nat.le_of_ble_eq_true rfl) ?_
  intro p e s m below meth c A H locs ls Q R F hRm hlocks hN htab hP hD hS hl hQ
  subst hRm
  have F : zF p m c cX9_measure 3 s (([.ref a_this, .int x1, .int x2] : List Value)).toArray RX9 g A := F
  have hx := F.1.1
  have hb := F.1.2.1
  have hz := F.1.2.2.2.2
  have hl : lv_has ls 3 [(0, .ref a_this), (1, .int x1), (2, .int x2)] := hl
  unfold f_X9_measure at h
  refine lv_aload_n hx hb dX9_measure_0 rfl (lv_at hl 0 rfl) ?_
  refine lv_iload_n hx hb dX9_measure_1 rfl (lv_at hl 1 rfl) ?_
  refine z_subR h (fun h => ?_) (fun r1_ hr1_ h => ?_)
  · exact zXV F (kx_X9_requireMeasure l N g a_this a_score a_history a_text a_sentence a_reader a_sounds a_playing a_score_cells v_score_size x1 _ h hfl) hN zy_X9_requireMeasure zw_534 hP hD hS [0, 1] [2] [1, 2, 0] (wr := [(a_score_cells, .inl (zI g, 912, .inl v_score_cells))]) (W1 := [zo_X9 a_this a_score a_history a_text a_sentence a_reader a_sounds a_playing, zo_X4 a_score a_score_cells v_score_size, (a_score_cells, .inl (zI g, 912, .inl v_score_cells))]) rfl rfl rfl rfl (by decide) rfl rfl (q0 := 0) (he := rfl) (hc := rfl) (rest := []) rfl hl.1 rfl (Nat.le_of_ble_eq_true rfl) ⟨rfl, rfl⟩ ⟨Nat.le_of_ble_eq_true rfl, Nat.le_of_ble_eq_true rfl⟩ ⟨Nat.le_of_ble_eq_true rfl, Nat.le_of_ble_eq_true rfl⟩ dX9_measure_2 htab hlocks hQ
  refine zRV F (k_X9_requireMeasure l N g a_this a_score a_history a_text a_sentence a_reader a_sounds a_playing a_score_cells v_score_size x1 _ hr1_) zy_X9_requireMeasure zw_534 hP hD hS [0, 1] rfl rfl (q0 := 0) (he := rfl) (hc := rfl) (rest := []) rfl hl.1 rfl (Nat.le_of_ble_eq_true rfl) ⟨rfl, rfl⟩ ⟨Nat.le_of_ble_eq_true rfl, Nat.le_of_ble_eq_true rfl⟩ ⟨Nat.zero_le _, Nat.zero_le _⟩ dX9_measure_2 (st1 := []) rfl ?_
  refine lv_iload_n hx hb dX9_measure_5 rfl (lv_at hl 2 rfl) ?_
  refine lv_iconst (v := 0) hx hb dX9_measure_6 (by decide) ?_
  refine lv_bipush (v := 11) hx hb dX9_measure_7 (by decide) ?_
  refine z_subR h (fun h => ?_) (fun r2_ hr2_ h => ?_)
  · exact zXS F (kx_X9_requireRange l N g x2 0 11 _ h hfl) hN zy_X9_requireRange zw_557 hP hD hS [] [0, 1, 2] [0, 1, 2] (wr := [zo_X9 a_this a_score a_history a_text a_sentence a_reader a_sounds a_playing, zo_X4 a_score a_score_cells v_score_size, (a_score_cells, .inl (zI g, 912, .inl v_score_cells))]) (W1 := [zo_X9 a_this a_score a_history a_text a_sentence a_reader a_sounds a_playing, zo_X4 a_score a_score_cells v_score_size, (a_score_cells, .inl (zI g, 912, .inl v_score_cells))]) rfl rfl rfl rfl (by decide) rfl rfl (rest := []) rfl hl.1 rfl (Nat.le_of_ble_eq_true rfl) ⟨rfl, rfl⟩ ⟨Nat.le_of_ble_eq_true rfl, Nat.le_of_ble_eq_true rfl⟩ ⟨Nat.le_of_ble_eq_true rfl, Nat.le_of_ble_eq_true rfl⟩ dX9_measure_9 htab hlocks hQ
  refine zRS F (k_X9_requireRange l N g x2 0 11 _ hr2_) zy_X9_requireRange zw_557 hP hD hS [] rfl rfl (rest := []) rfl hl.1 rfl (Nat.le_of_ble_eq_true rfl) ⟨rfl, rfl⟩ ⟨Nat.le_of_ble_eq_true rfl, Nat.le_of_ble_eq_true rfl⟩ ⟨Nat.zero_le _, Nat.zero_le _⟩ dX9_measure_9 (st1 := []) rfl ?_
  refine lv_iload_n hx hb dX9_measure_12 rfl (lv_at hl 2 rfl) ?_
  by_cases c13_7_ : x2 = 7
  · rw [if_pos c13_7_] at h
    refine lv_tableIn (tgt := 48) hx hb dX9_measure_13 (by rw [c13_7_]; decide) (by rw [c13_7_]; decide) (by rw [c13_7_]; rfl) (by decide) ?_
    refine lv_aload_n hx hb dX9_measure_48 rfl (lv_at hl 0 rfl) ?_
    refine z_get (C := RX9) (T := TX9) (N := 7) (ci := 7) F zu_wsX90 hP 0 rfl rfl 0 (by decide) zw_478 rfl dX9_measure_49 ?_
    refine lv_iload_n hx hb dX9_measure_52 rfl (lv_at hl 1 rfl) ?_
    obtain ⟨r3_, hr3_, h⟩ := z_bind h
    refine zRV F (k_X4_ticks l N g a_score a_score_cells v_score_size v_score_cells x1 _ hr3_) zy_X4_ticks zw_578 hP hD hS [1, 2] rfl rfl (q0 := 1) (he := rfl) (hc := rfl) (rest := []) rfl hl.1 rfl (Nat.le_of_ble_eq_true rfl) ⟨rfl, rfl⟩ ⟨Nat.le_of_ble_eq_true rfl, Nat.le_of_ble_eq_true rfl⟩ ⟨Nat.zero_le _, Nat.zero_le _⟩ dX9_measure_53 (st1 := [.int r3_]) rfl ?_
    cases h
  rw [if_neg c13_7_] at h
  by_cases c13_8_ : x2 = 8
  · rw [if_pos c13_8_] at h
    refine lv_tableIn (tgt := 57) hx hb dX9_measure_13 (by rw [c13_8_]; decide) (by rw [c13_8_]; decide) (by rw [c13_8_]; rfl) (by decide) ?_
    refine lv_aload_n hx hb dX9_measure_57 rfl (lv_at hl 0 rfl) ?_
    refine z_get (C := RX9) (T := TX9) (N := 7) (ci := 7) F zu_wsX90 hP 0 rfl rfl 0 (by decide) zw_478 rfl dX9_measure_58 ?_
    refine lv_iload_n hx hb dX9_measure_61 rfl (lv_at hl 1 rfl) ?_
    refine lv_iconst (v := 0) hx hb dX9_measure_62 (by decide) ?_
    obtain ⟨r4_, hr4_, h⟩ := z_bind h
    refine zRV F (k_X4_count l N g a_score a_score_cells v_score_size v_score_cells x1 0 _ hr4_) zy_X4_count zw_552 hP hD hS [1, 2] rfl rfl (q0 := 1) (he := rfl) (hc := rfl) (rest := []) rfl hl.1 rfl (Nat.le_of_ble_eq_true rfl) ⟨rfl, rfl⟩ ⟨Nat.le_of_ble_eq_true rfl, Nat.le_of_ble_eq_true rfl⟩ ⟨Nat.zero_le _, Nat.zero_le _⟩ dX9_measure_63 (st1 := [.int r4_]) rfl ?_
    cases h
  rw [if_neg c13_8_] at h
  by_cases c13_9_ : x2 = 9
  · rw [if_pos c13_9_] at h
    refine lv_tableIn (tgt := 67) hx hb dX9_measure_13 (by rw [c13_9_]; decide) (by rw [c13_9_]; decide) (by rw [c13_9_]; rfl) (by decide) ?_
    refine lv_aload_n hx hb dX9_measure_67 rfl (lv_at hl 0 rfl) ?_
    refine z_get (C := RX9) (T := TX9) (N := 7) (ci := 7) F zu_wsX90 hP 0 rfl rfl 0 (by decide) zw_478 rfl dX9_measure_68 ?_
    refine lv_iload_n hx hb dX9_measure_71 rfl (lv_at hl 1 rfl) ?_
    refine lv_iconst (v := 1) hx hb dX9_measure_72 (by decide) ?_
    obtain ⟨r5_, hr5_, h⟩ := z_bind h
    refine zRV F (k_X4_count l N g a_score a_score_cells v_score_size v_score_cells x1 1 _ hr5_) zy_X4_count zw_552 hP hD hS [1, 2] rfl rfl (q0 := 1) (he := rfl) (hc := rfl) (rest := []) rfl hl.1 rfl (Nat.le_of_ble_eq_true rfl) ⟨rfl, rfl⟩ ⟨Nat.le_of_ble_eq_true rfl, Nat.le_of_ble_eq_true rfl⟩ ⟨Nat.zero_le _, Nat.zero_le _⟩ dX9_measure_73 (st1 := [.int r5_]) rfl ?_
    cases h
  rw [if_neg c13_9_] at h
  by_cases c13_10_ : x2 = 10
  · rw [if_pos c13_10_] at h
    refine lv_tableIn (tgt := 77) hx hb dX9_measure_13 (by rw [c13_10_]; decide) (by rw [c13_10_]; decide) (by rw [c13_10_]; rfl) (by decide) ?_
    refine lv_aload_n hx hb dX9_measure_77 rfl (lv_at hl 0 rfl) ?_
    refine z_get (C := RX9) (T := TX9) (N := 7) (ci := 7) F zu_wsX90 hP 0 rfl rfl 0 (by decide) zw_478 rfl dX9_measure_78 ?_
    refine lv_iload_n hx hb dX9_measure_81 rfl (lv_at hl 1 rfl) ?_
    refine lv_iconst (v := 0) hx hb dX9_measure_82 (by decide) ?_
    obtain ⟨r6_, hr6_, h⟩ := z_bind h
    refine zRV F (k_X4_voiceTicks l N g a_score a_score_cells v_score_size v_score_cells x1 0 _ hr6_) zy_X4_voiceTicks zw_579 hP hD hS [1, 2] rfl rfl (q0 := 1) (he := rfl) (hc := rfl) (rest := []) rfl hl.1 rfl (Nat.le_of_ble_eq_true rfl) ⟨rfl, rfl⟩ ⟨Nat.le_of_ble_eq_true rfl, Nat.le_of_ble_eq_true rfl⟩ ⟨Nat.zero_le _, Nat.zero_le _⟩ dX9_measure_83 (st1 := [.int r6_]) rfl ?_
    cases h
  rw [if_neg c13_10_] at h
  by_cases c13_11_ : x2 = 11
  · rw [if_pos c13_11_] at h
    refine lv_tableIn (tgt := 87) hx hb dX9_measure_13 (by rw [c13_11_]; decide) (by rw [c13_11_]; decide) (by rw [c13_11_]; rfl) (by decide) ?_
    refine lv_aload_n hx hb dX9_measure_87 rfl (lv_at hl 0 rfl) ?_
    refine z_get (C := RX9) (T := TX9) (N := 7) (ci := 7) F zu_wsX90 hP 0 rfl rfl 0 (by decide) zw_478 rfl dX9_measure_88 ?_
    refine lv_iload_n hx hb dX9_measure_91 rfl (lv_at hl 1 rfl) ?_
    refine lv_iconst (v := 1) hx hb dX9_measure_92 (by decide) ?_
    obtain ⟨r7_, hr7_, h⟩ := z_bind h
    refine zRV F (k_X4_voiceTicks l N g a_score a_score_cells v_score_size v_score_cells x1 1 _ hr7_) zy_X4_voiceTicks zw_579 hP hD hS [1, 2] rfl rfl (q0 := 1) (he := rfl) (hc := rfl) (rest := []) rfl hl.1 rfl (Nat.le_of_ble_eq_true rfl) ⟨rfl, rfl⟩ ⟨Nat.le_of_ble_eq_true rfl, Nat.le_of_ble_eq_true rfl⟩ ⟨Nat.zero_le _, Nat.zero_le _⟩ dX9_measure_93 (st1 := [.int r7_]) rfl ?_
    cases h
  rw [if_neg c13_11_] at h
  have kd13_ : W p l e rx_X9_measure s m (([.ref a_this, .int x1, .int x2] : List Value)).toArray below meth c H locs 0 0 Q (F0 m 97 ls []) := by
    refine lv_aload_n hx hb dX9_measure_97 rfl (lv_at hl 0 rfl) ?_
    refine z_get (C := RX9) (T := TX9) (N := 7) (ci := 7) F zu_wsX90 hP 0 rfl rfl 0 (by decide) zw_478 rfl dX9_measure_98 ?_
    refine lv_iload_n hx hb dX9_measure_101 rfl (lv_at hl 1 rfl) ?_
    refine lv_iload_n hx hb dX9_measure_102 rfl (lv_at hl 2 rfl) ?_
    obtain ⟨r8_, hr8_, h⟩ := z_bind h
    refine zRV F (k_X4_value l N g a_score a_score_cells v_score_size v_score_cells x1 x2 _ hr8_) zy_X4_value zw_544 hP hD hS [1, 2] rfl rfl (q0 := 1) (he := rfl) (hc := rfl) (rest := []) rfl hl.1 rfl (Nat.le_of_ble_eq_true rfl) ⟨rfl, rfl⟩ ⟨Nat.le_of_ble_eq_true rfl, Nat.le_of_ble_eq_true rfl⟩ ⟨Nat.zero_le _, Nat.zero_le _⟩ dX9_measure_103 (st1 := [.int r8_]) rfl ?_
    cases h
  exact lv_tableOut (tgt := 97) hx hb dX9_measure_13 (z_sw 7 5 x2 (fun j hj => match j, hj with | 0, _ => c13_7_ | 1, _ => c13_8_ | 2, _ => c13_9_ | 3, _ => c13_10_ | 4, _ => c13_11_ | j + 5, hj => absurd hj (by omega))) (by decide) kd13_
def f_X9_noteValue (N : Nat) (v_score_size : Int32) (v_score_cells : Nat → Int32) (v_sounds_heldTicks : Nat → Int32) (v_sounds_shifts : Nat → Int32) (x1 : Int32) (x2 : Int32) (x3 : Int32) (x4 : Int32) : Option Int32 :=
  Option.bind (f_X4_code N v_score_size v_score_cells x1 x2 x3) (fun (r1_ : Int32) => if x4 = 0 then Option.bind (f_X0_pitchOf N r1_) (fun (r2_ : Int32) => some r2_) else if x4 = 1 then Option.bind (f_X0_signOf N r1_) (fun (r3_ : Int32) => some r3_) else if x4 = 3 then Option.bind (f_X0_isTied N r1_) (fun (r4_ : Int32) => if r4_ = 0 then some 0 else some 1) else if x4 = 6 then Option.bind (f_X6_shift N v_sounds_shifts x1 x2 x3) (fun (r5_ : Int32) => some r5_) else if x4 = 7 then Option.bind (f_X6_sounding N v_score_size v_sounds_shifts v_score_cells x1 x2 x3) (fun (r6_ : Int32) => some r6_) else if x4 = 8 then Option.bind (f_X6_held N v_sounds_heldTicks x1 x2 x3) (fun (r7_ : Int32) => some r7_) else Option.bind (f_X6_isBrokenTie N v_sounds_heldTicks v_score_size v_score_cells x1 x2 x3) (fun (r8_ : Int32) => if r8_ = 0 then some 0 else some 1))
abbrev rm_X9_noteValue : Room := { frames := 3, cells := 0, slots := 0, locals := 73 }
theorem zy_X9_noteValue : zYv yX9_noteValue RX9 cX9_noteValue 6 (some .int) 4 := ⟨zw_597, zw_598, zw_527, zw_591, ⟨by decide, by decide⟩, by decide +kernel⟩
set_option maxHeartbeats 4000000 in
set_option maxRecDepth 100000 in
theorem k_X9_noteValue (l : Launch) (N : Nat) (g : zEnv) (a_this a_score a_history a_text a_sentence a_reader a_sounds a_playing a_score_cells a_sounds_shifts a_sounds_heldTicks : Nat) (v_score_size : Int32) (v_score_cells : Nat → Int32) (v_sounds_heldTicks : Nat → Int32) (v_sounds_shifts : Nat → Int32) (x1 : Int32) (x2 : Int32) (x3 : Int32) (x4 : Int32) (r : Int32) (h : f_X9_noteValue N v_score_size v_score_cells v_sounds_heldTicks v_sounds_shifts x1 x2 x3 x4 = some r) : ZR l yX9_noteValue cX9_noteValue 6 (some .int) rm_X9_noteValue g [.ref a_this, .int x1, .int x2, .int x3, .int x4] [zo_X9 a_this a_score a_history a_text a_sentence a_reader a_sounds a_playing, zo_X4 a_score a_score_cells v_score_size, zo_X6 a_sounds a_score a_sounds_shifts a_sounds_heldTicks, (a_score_cells, .inl (zI g, 912, .inl v_score_cells)), (a_sounds_heldTicks, .inl (zI g, 768, .inl v_sounds_heldTicks)), (a_sounds_shifts, .inl (zI g, 768, .inl v_sounds_shifts))] (some (.int r)) := by
  refine zR_of (by decide) (Nat.le_of_ble_eq_true rfl) ?_
  intro p e s m below meth c A ls Q R F hRm hr hlocks hP hD hS hl hQ
  subst hRm
  have F : zF p m c cX9_noteValue 6 s (([.ref a_this, .int x1, .int x2, .int x3, .int x4] : List Value)).toArray RX9 g A := F
  have hx := F.1.1
  have hb := F.1.2.1
  have hz := F.1.2.2.2.2
  have hl : lv_has ls 6 [(0, .ref a_this), (1, .int x1), (2, .int x2), (3, .int x3), (4, .int x4)] := hl
  unfold f_X9_noteValue at h
  refine lv_aload_n hx hb dX9_noteValue_0 rfl (lv_at hl 0 rfl) ?_
  refine z_get (C := RX9) (T := TX9) (N := 7) (ci := 7) F zu_wsX90 hP 0 rfl rfl 0 (by decide) zw_478 rfl dX9_noteValue_1 ?_
  refine lv_iload_n hx hb dX9_noteValue_4 rfl (lv_at hl 1 rfl) ?_
  refine lv_iload_n hx hb dX9_noteValue_5 rfl (lv_at hl 2 rfl) ?_
  refine lv_iload_n hx hb dX9_noteValue_6 rfl (lv_at hl 3 rfl) ?_
  obtain ⟨r1_, hr1_, h⟩ := z_bind h
  refine zRV F (k_X4_code l N g a_score a_score_cells v_score_size v_score_cells x1 x2 x3 _ hr1_) zy_X4_code zw_581 hP hD hS [1, 3] rfl rfl (q0 := 1) (he := rfl) (hc := rfl) (rest := []) rfl hl.1 rfl (Nat.le_of_ble_eq_true rfl) ⟨rfl, rfl⟩ ⟨Nat.le_of_ble_eq_true rfl, Nat.le_of_ble_eq_true rfl⟩ ⟨Nat.zero_le _, Nat.zero_le _⟩ dX9_noteValue_7 (st1 := [.int r1_]) rfl ?_
  refine lv_istore (lv' := [(5, .int r1_), (0, .ref a_this), (1, .int x1), (2, .int x2), (3, .int x3), (4, .int x4)]) hx hb dX9_noteValue_10 hl (by decide) rfl (fun ls hl => ?_)
  refine lv_iload hx hb dX9_noteValue_12 (lv_at hl 5 rfl) ?_
  by_cases c14_0_ : x4 = 0
  · rw [if_pos c14_0_] at h
    refine lv_tableIn (tgt := 64) hx hb dX9_noteValue_14 (by rw [c14_0_]; decide) (by rw [c14_0_]; decide) (by rw [c14_0_]; rfl) (by decide) ?_
    refine lv_iload hx hb dX9_noteValue_64 (lv_at hl 0 rfl) ?_
    obtain ⟨r2_, hr2_, h⟩ := z_bind h
    refine zRS F (k_X0_pitchOf l N g r1_ _ hr2_) zy_X0_pitchOf zw_582 hP hD hS [] rfl rfl (rest := []) rfl hl.1 rfl (Nat.le_of_ble_eq_true rfl) ⟨rfl, rfl⟩ ⟨Nat.le_of_ble_eq_true rfl, Nat.le_of_ble_eq_true rfl⟩ ⟨Nat.zero_le _, Nat.zero_le _⟩ dX9_noteValue_66 (st1 := [.int r2_]) rfl ?_
    obtain rfl := Option.some.inj h
    exact zR_i F hr hlocks hQ dX9_noteValue_69
  rw [if_neg c14_0_] at h
  by_cases c14_1_ : x4 = 1
  · rw [if_pos c14_1_] at h
    refine lv_tableIn (tgt := 70) hx hb dX9_noteValue_14 (by rw [c14_1_]; decide) (by rw [c14_1_]; decide) (by rw [c14_1_]; rfl) (by decide) ?_
    refine lv_iload hx hb dX9_noteValue_70 (lv_at hl 0 rfl) ?_
    obtain ⟨r3_, hr3_, h⟩ := z_bind h
    refine zRS F (k_X0_signOf l N g r1_ _ hr3_) zy_X0_signOf zw_583 hP hD hS [] rfl rfl (rest := []) rfl hl.1 rfl (Nat.le_of_ble_eq_true rfl) ⟨rfl, rfl⟩ ⟨Nat.le_of_ble_eq_true rfl, Nat.le_of_ble_eq_true rfl⟩ ⟨Nat.zero_le _, Nat.zero_le _⟩ dX9_noteValue_72 (st1 := [.int r3_]) rfl ?_
    obtain rfl := Option.some.inj h
    exact zR_i F hr hlocks hQ dX9_noteValue_75
  rw [if_neg c14_1_] at h
  by_cases c14_3_ : x4 = 3
  · rw [if_pos c14_3_] at h
    refine lv_tableIn (tgt := 76) hx hb dX9_noteValue_14 (by rw [c14_3_]; decide) (by rw [c14_3_]; decide) (by rw [c14_3_]; rfl) (by decide) ?_
    refine lv_iload hx hb dX9_noteValue_76 (lv_at hl 0 rfl) ?_
    obtain ⟨r4_, hr4_, h⟩ := z_bind h
    refine zRS F (k_X0_isTied l N g r1_ _ hr4_) zy_X0_isTied zw_584 hP hD hS [] rfl rfl (rest := []) rfl hl.1 rfl (Nat.le_of_ble_eq_true rfl) ⟨rfl, rfl⟩ ⟨Nat.le_of_ble_eq_true rfl, Nat.le_of_ble_eq_true rfl⟩ ⟨Nat.zero_le _, Nat.zero_le _⟩ dX9_noteValue_78 (st1 := [.int r4_]) rfl ?_
    refine z_eq (tgt := 88) hx hb dX9_noteValue_81 (by decide) h (fun h => ?_) (fun h => ?_)
    · refine lv_iconst (v := 0) hx hb dX9_noteValue_88 (by decide) ?_
      obtain rfl := Option.some.inj h
      exact zR_i F hr hlocks hQ dX9_noteValue_89
    · refine lv_iconst (v := 1) hx hb dX9_noteValue_84 (by decide) ?_
      refine lv_goto (tgt := 89) hx hb dX9_noteValue_85 (by decide) ?_
      obtain rfl := Option.some.inj h
      exact zR_i F hr hlocks hQ dX9_noteValue_89
  rw [if_neg c14_3_] at h
  by_cases c14_6_ : x4 = 6
  · rw [if_pos c14_6_] at h
    refine lv_tableIn (tgt := 90) hx hb dX9_noteValue_14 (by rw [c14_6_]; decide) (by rw [c14_6_]; decide) (by rw [c14_6_]; rfl) (by decide) ?_
    refine lv_aload_n hx hb dX9_noteValue_90 rfl (lv_at hl 1 rfl) ?_
    refine z_get (C := RX9) (T := TX9) (N := 7) (ci := 7) F zu_wsX90 hP 0 rfl rfl 5 (by decide) zw_493 rfl dX9_noteValue_91 ?_
    refine lv_iload_n hx hb dX9_noteValue_94 rfl (lv_at hl 2 rfl) ?_
    refine lv_iload_n hx hb dX9_noteValue_95 rfl (lv_at hl 3 rfl) ?_
    refine lv_iload_n hx hb dX9_noteValue_96 rfl (lv_at hl 4 rfl) ?_
    obtain ⟨r5_, hr5_, h⟩ := z_bind h
    refine zRV F (k_X6_shift l N g a_sounds a_score a_sounds_shifts a_sounds_heldTicks v_sounds_shifts x1 x2 x3 _ hr5_) zy_X6_shift zw_585 hP hD hS [2, 5] rfl rfl (q0 := 2) (he := rfl) (hc := rfl) (rest := []) rfl hl.1 rfl (Nat.le_of_ble_eq_true rfl) ⟨rfl, rfl⟩ ⟨Nat.le_of_ble_eq_true rfl, Nat.le_of_ble_eq_true rfl⟩ ⟨Nat.zero_le _, Nat.zero_le _⟩ dX9_noteValue_97 (st1 := [.int r5_]) rfl ?_
    obtain rfl := Option.some.inj h
    exact zR_i F hr hlocks hQ dX9_noteValue_100
  rw [if_neg c14_6_] at h
  by_cases c14_7_ : x4 = 7
  · rw [if_pos c14_7_] at h
    refine lv_tableIn (tgt := 101) hx hb dX9_noteValue_14 (by rw [c14_7_]; decide) (by rw [c14_7_]; decide) (by rw [c14_7_]; rfl) (by decide) ?_
    refine lv_aload_n hx hb dX9_noteValue_101 rfl (lv_at hl 1 rfl) ?_
    refine z_get (C := RX9) (T := TX9) (N := 7) (ci := 7) F zu_wsX90 hP 0 rfl rfl 5 (by decide) zw_493 rfl dX9_noteValue_102 ?_
    refine lv_iload_n hx hb dX9_noteValue_105 rfl (lv_at hl 2 rfl) ?_
    refine lv_iload_n hx hb dX9_noteValue_106 rfl (lv_at hl 3 rfl) ?_
    refine lv_iload_n hx hb dX9_noteValue_107 rfl (lv_at hl 4 rfl) ?_
    obtain ⟨r6_, hr6_, h⟩ := z_bind h
    refine zRV F (k_X6_sounding l N g a_sounds a_score a_sounds_shifts a_sounds_heldTicks a_score_cells v_score_size v_sounds_shifts v_score_cells x1 x2 x3 _ hr6_) zy_X6_sounding zw_586 hP hD hS [2, 1, 5, 3] rfl rfl (q0 := 2) (he := rfl) (hc := rfl) (rest := []) rfl hl.1 rfl (Nat.le_of_ble_eq_true rfl) ⟨rfl, rfl⟩ ⟨Nat.le_of_ble_eq_true rfl, Nat.le_of_ble_eq_true rfl⟩ ⟨Nat.zero_le _, Nat.zero_le _⟩ dX9_noteValue_108 (st1 := [.int r6_]) rfl ?_
    obtain rfl := Option.some.inj h
    exact zR_i F hr hlocks hQ dX9_noteValue_111
  rw [if_neg c14_7_] at h
  by_cases c14_8_ : x4 = 8
  · rw [if_pos c14_8_] at h
    refine lv_tableIn (tgt := 112) hx hb dX9_noteValue_14 (by rw [c14_8_]; decide) (by rw [c14_8_]; decide) (by rw [c14_8_]; rfl) (by decide) ?_
    refine lv_aload_n hx hb dX9_noteValue_112 rfl (lv_at hl 1 rfl) ?_
    refine z_get (C := RX9) (T := TX9) (N := 7) (ci := 7) F zu_wsX90 hP 0 rfl rfl 5 (by decide) zw_493 rfl dX9_noteValue_113 ?_
    refine lv_iload_n hx hb dX9_noteValue_116 rfl (lv_at hl 2 rfl) ?_
    refine lv_iload_n hx hb dX9_noteValue_117 rfl (lv_at hl 3 rfl) ?_
    refine lv_iload_n hx hb dX9_noteValue_118 rfl (lv_at hl 4 rfl) ?_
    obtain ⟨r7_, hr7_, h⟩ := z_bind h
    refine zRV F (k_X6_held l N g a_sounds a_score a_sounds_shifts a_sounds_heldTicks v_sounds_heldTicks x1 x2 x3 _ hr7_) zy_X6_held zw_587 hP hD hS [2, 4] rfl rfl (q0 := 2) (he := rfl) (hc := rfl) (rest := []) rfl hl.1 rfl (Nat.le_of_ble_eq_true rfl) ⟨rfl, rfl⟩ ⟨Nat.le_of_ble_eq_true rfl, Nat.le_of_ble_eq_true rfl⟩ ⟨Nat.zero_le _, Nat.zero_le _⟩ dX9_noteValue_119 (st1 := [.int r7_]) rfl ?_
    obtain rfl := Option.some.inj h
    exact zR_i F hr hlocks hQ dX9_noteValue_122
  rw [if_neg c14_8_] at h
  have kd14_ : W p l e rm_X9_noteValue s m (([.ref a_this, .int x1, .int x2, .int x3, .int x4] : List Value)).toArray below meth c s.heap [] 0 0 Q (F0 m 123 ls []) := by
    refine lv_aload_n hx hb dX9_noteValue_123 rfl (lv_at hl 1 rfl) ?_
    refine z_get (C := RX9) (T := TX9) (N := 7) (ci := 7) F zu_wsX90 hP 0 rfl rfl 5 (by decide) zw_493 rfl dX9_noteValue_124 ?_
    refine lv_iload_n hx hb dX9_noteValue_127 rfl (lv_at hl 2 rfl) ?_
    refine lv_iload_n hx hb dX9_noteValue_128 rfl (lv_at hl 3 rfl) ?_
    refine lv_iload_n hx hb dX9_noteValue_129 rfl (lv_at hl 4 rfl) ?_
    obtain ⟨r8_, hr8_, h⟩ := z_bind h
    refine zRV F (k_X6_isBrokenTie l N g a_sounds a_score a_sounds_shifts a_sounds_heldTicks a_score_cells v_sounds_heldTicks v_score_size v_score_cells x1 x2 x3 _ hr8_) zy_X6_isBrokenTie zw_588 hP hD hS [2, 4, 1, 3] rfl rfl (q0 := 2) (he := rfl) (hc := rfl) (rest := []) rfl hl.1 rfl (Nat.le_of_ble_eq_true rfl) ⟨rfl, rfl⟩ ⟨Nat.le_of_ble_eq_true rfl, Nat.le_of_ble_eq_true rfl⟩ ⟨Nat.zero_le _, Nat.zero_le _⟩ dX9_noteValue_130 (st1 := [.int r8_]) rfl ?_
    refine z_eq (tgt := 140) hx hb dX9_noteValue_133 (by decide) h (fun h => ?_) (fun h => ?_)
    · refine lv_iconst (v := 0) hx hb dX9_noteValue_140 (by decide) ?_
      obtain rfl := Option.some.inj h
      exact zR_i F hr hlocks hQ dX9_noteValue_141
    · refine lv_iconst (v := 1) hx hb dX9_noteValue_136 (by decide) ?_
      refine lv_goto (tgt := 141) hx hb dX9_noteValue_137 (by decide) ?_
      obtain rfl := Option.some.inj h
      exact zR_i F hr hlocks hQ dX9_noteValue_141
  by_cases c14_2_ : x4 = 2
  · exact lv_tableIn (tgt := 123) hx hb dX9_noteValue_14 (by rw [c14_2_]; decide) (by rw [c14_2_]; decide) (by rw [c14_2_]; rfl) (by decide) kd14_
  by_cases c14_4_ : x4 = 4
  · exact lv_tableIn (tgt := 123) hx hb dX9_noteValue_14 (by rw [c14_4_]; decide) (by rw [c14_4_]; decide) (by rw [c14_4_]; rfl) (by decide) kd14_
  by_cases c14_5_ : x4 = 5
  · exact lv_tableIn (tgt := 123) hx hb dX9_noteValue_14 (by rw [c14_5_]; decide) (by rw [c14_5_]; decide) (by rw [c14_5_]; rfl) (by decide) kd14_
  exact lv_tableOut (tgt := 123) hx hb dX9_noteValue_14 (z_sw 0 9 x4 (fun j hj => match j, hj with | 0, _ => c14_0_ | 1, _ => c14_1_ | 2, _ => c14_2_ | 3, _ => c14_3_ | 4, _ => c14_4_ | 5, _ => c14_5_ | 6, _ => c14_6_ | 7, _ => c14_7_ | 8, _ => c14_8_ | j + 9, hj => absurd hj (by omega))) (by decide) kd14_
def f_X9_event (N : Nat) (v_score_size : Int32) (v_score_cells : Nat → Int32) (v_sounds_heldTicks : Nat → Int32) (v_sounds_shifts : Nat → Int32) (x1 : Int32) (x2 : Int32) (x3 : Int32) (x4 : Int32) : Option (Int32 ⊕ Nat) :=
  zSub (f_X9_requireEvent N v_score_size v_score_cells x1 x2 x3) (fun (r1_ : Unit) => zSub (f_X9_requireRange N x4 0 9) (fun (r2_ : Unit) => Option.bind (f_X4_code N v_score_size v_score_cells x1 x2 x3) (fun (r3_ : Int32) => if x4 = 2 then Option.bind (f_X0_durationOf N r3_) (fun (r4_ : Int32) => some (Sum.inl r4_)) else if x4 = 4 then Option.bind (f_X0_ticksOf N r3_) (fun (r5_ : Int32) => some (Sum.inl r5_)) else if x4 = 5 then Option.bind (f_X4_begin N v_score_size v_score_cells x1 x2 x3) (fun (r6_ : Int32) => some (Sum.inl r6_)) else Option.bind (f_X0_isNote N r3_) (fun (r7_ : Int32) => if r7_ = 0 then some (Sum.inl (-1000)) else Option.bind (f_X9_noteValue N v_score_size v_score_cells v_sounds_heldTicks v_sounds_shifts x1 x2 x3 x4) (fun (r8_ : Int32) => some (Sum.inl r8_))))))
abbrev rm_X9_event : Room := { frames := 7, cells := 0, slots := 0, locals := 113 }
theorem zy_X9_event : zYv yX9_event RX9 cX9_event 6 (some .int) 4 := ⟨zw_706, zw_707, zw_527, zw_599, ⟨by decide, by decide⟩, by decide +kernel⟩
set_option maxHeartbeats 4000000 in
set_option maxRecDepth 100000 in
theorem k_X9_event (l : Launch) (N : Nat) (g : zEnv) (a_this a_score a_history a_text a_sentence a_reader a_sounds a_playing a_score_cells a_sounds_shifts a_sounds_heldTicks : Nat) (v_score_size : Int32) (v_score_cells : Nat → Int32) (v_sounds_heldTicks : Nat → Int32) (v_sounds_shifts : Nat → Int32) (x1 : Int32) (x2 : Int32) (x3 : Int32) (x4 : Int32) (r : Int32) (h : f_X9_event N v_score_size v_score_cells v_sounds_heldTicks v_sounds_shifts x1 x2 x3 x4 = some (Sum.inl r)) : ZR l yX9_event cX9_event 6 (some .int) rm_X9_event g [.ref a_this, .int x1, .int x2, .int x3, .int x4] [zo_X9 a_this a_score a_history a_text a_sentence a_reader a_sounds a_playing, zo_X4 a_score a_score_cells v_score_size, zo_X6 a_sounds a_score a_sounds_shifts a_sounds_heldTicks, (a_score_cells, .inl (zI g, 912, .inl v_score_cells)), (a_sounds_heldTicks, .inl (zI g, 768, .inl v_sounds_heldTicks)), (a_sounds_shifts, .inl (zI g, 768, .inl v_sounds_shifts))] (some (.int r)) := by
  refine zR_of (by decide) (Nat.le_of_ble_eq_true rfl) ?_
  intro p e s m below meth c A ls Q R F hRm hr hlocks hP hD hS hl hQ
  subst hRm
  have F : zF p m c cX9_event 6 s (([.ref a_this, .int x1, .int x2, .int x3, .int x4] : List Value)).toArray RX9 g A := F
  have hx := F.1.1
  have hb := F.1.2.1
  have hz := F.1.2.2.2.2
  have hl : lv_has ls 6 [(0, .ref a_this), (1, .int x1), (2, .int x2), (3, .int x3), (4, .int x4)] := hl
  unfold f_X9_event at h
  refine lv_aload_n hx hb dX9_event_0 rfl (lv_at hl 0 rfl) ?_
  refine lv_iload_n hx hb dX9_event_1 rfl (lv_at hl 1 rfl) ?_
  refine lv_iload_n hx hb dX9_event_2 rfl (lv_at hl 2 rfl) ?_
  refine lv_iload_n hx hb dX9_event_3 rfl (lv_at hl 3 rfl) ?_
  obtain ⟨r1_, hr1_, h⟩ := z_subL h
  refine zRV F (k_X9_requireEvent l N g a_this a_score a_history a_text a_sentence a_reader a_sounds a_playing a_score_cells v_score_size v_score_cells x1 x2 x3 _ hr1_) zy_X9_requireEvent zw_571 hP hD hS [0, 1, 3] rfl rfl (q0 := 0) (he := rfl) (hc := rfl) (rest := []) rfl hl.1 rfl (Nat.le_of_ble_eq_true rfl) ⟨rfl, rfl⟩ ⟨Nat.le_of_ble_eq_true rfl, Nat.le_of_ble_eq_true rfl⟩ ⟨Nat.zero_le _, Nat.zero_le _⟩ dX9_event_4 (st1 := []) rfl ?_
  refine lv_iload hx hb dX9_event_7 (lv_at hl 4 rfl) ?_
  refine lv_iconst (v := 0) hx hb dX9_event_9 (by decide) ?_
  refine lv_bipush (v := 9) hx hb dX9_event_10 (by decide) ?_
  obtain ⟨r2_, hr2_, h⟩ := z_subL h
  refine zRS F (k_X9_requireRange l N g x4 0 9 _ hr2_) zy_X9_requireRange zw_557 hP hD hS [] rfl rfl (rest := []) rfl hl.1 rfl (Nat.le_of_ble_eq_true rfl) ⟨rfl, rfl⟩ ⟨Nat.le_of_ble_eq_true rfl, Nat.le_of_ble_eq_true rfl⟩ ⟨Nat.zero_le _, Nat.zero_le _⟩ dX9_event_12 (st1 := []) rfl ?_
  refine lv_aload_n hx hb dX9_event_15 rfl (lv_at hl 0 rfl) ?_
  refine z_get (C := RX9) (T := TX9) (N := 7) (ci := 7) F zu_wsX90 hP 0 rfl rfl 0 (by decide) zw_478 rfl dX9_event_16 ?_
  refine lv_iload_n hx hb dX9_event_19 rfl (lv_at hl 1 rfl) ?_
  refine lv_iload_n hx hb dX9_event_20 rfl (lv_at hl 2 rfl) ?_
  refine lv_iload_n hx hb dX9_event_21 rfl (lv_at hl 3 rfl) ?_
  obtain ⟨r3_, hr3_, h⟩ := z_bind h
  refine zRV F (k_X4_code l N g a_score a_score_cells v_score_size v_score_cells x1 x2 x3 _ hr3_) zy_X4_code zw_581 hP hD hS [1, 3] rfl rfl (q0 := 1) (he := rfl) (hc := rfl) (rest := []) rfl hl.1 rfl (Nat.le_of_ble_eq_true rfl) ⟨rfl, rfl⟩ ⟨Nat.le_of_ble_eq_true rfl, Nat.le_of_ble_eq_true rfl⟩ ⟨Nat.zero_le _, Nat.zero_le _⟩ dX9_event_22 (st1 := [.int r3_]) rfl ?_
  refine lv_istore (lv' := [(5, .int r3_), (0, .ref a_this), (1, .int x1), (2, .int x2), (3, .int x3), (4, .int x4)]) hx hb dX9_event_25 hl (by decide) rfl (fun ls hl => ?_)
  refine lv_iload hx hb dX9_event_27 (lv_at hl 5 rfl) ?_
  by_cases c29_2_ : x4 = 2
  · rw [if_pos c29_2_] at h
    refine lv_tableIn (tgt := 60) hx hb dX9_event_29 (by rw [c29_2_]; decide) (by rw [c29_2_]; decide) (by rw [c29_2_]; rfl) (by decide) ?_
    refine lv_iload hx hb dX9_event_60 (lv_at hl 0 rfl) ?_
    obtain ⟨r4_, hr4_, h⟩ := z_bind h
    refine zRS F (k_X0_durationOf l N g r3_ _ hr4_) zy_X0_durationOf zw_592 hP hD hS [] rfl rfl (rest := []) rfl hl.1 rfl (Nat.le_of_ble_eq_true rfl) ⟨rfl, rfl⟩ ⟨Nat.le_of_ble_eq_true rfl, Nat.le_of_ble_eq_true rfl⟩ ⟨Nat.zero_le _, Nat.zero_le _⟩ dX9_event_62 (st1 := [.int r4_]) rfl ?_
    obtain rfl := Sum.inl.inj (Option.some.inj h)
    exact zR_i F hr hlocks hQ dX9_event_65
  rw [if_neg c29_2_] at h
  by_cases c29_4_ : x4 = 4
  · rw [if_pos c29_4_] at h
    refine lv_tableIn (tgt := 66) hx hb dX9_event_29 (by rw [c29_4_]; decide) (by rw [c29_4_]; decide) (by rw [c29_4_]; rfl) (by decide) ?_
    refine lv_iload hx hb dX9_event_66 (lv_at hl 0 rfl) ?_
    obtain ⟨r5_, hr5_, h⟩ := z_bind h
    refine zRS F (k_X0_ticksOf l N g r3_ _ hr5_) zy_X0_ticksOf zw_593 hP hD hS [] rfl rfl (rest := []) rfl hl.1 rfl (Nat.le_of_ble_eq_true rfl) ⟨rfl, rfl⟩ ⟨Nat.le_of_ble_eq_true rfl, Nat.le_of_ble_eq_true rfl⟩ ⟨Nat.zero_le _, Nat.zero_le _⟩ dX9_event_68 (st1 := [.int r5_]) rfl ?_
    obtain rfl := Sum.inl.inj (Option.some.inj h)
    exact zR_i F hr hlocks hQ dX9_event_71
  rw [if_neg c29_4_] at h
  by_cases c29_5_ : x4 = 5
  · rw [if_pos c29_5_] at h
    refine lv_tableIn (tgt := 72) hx hb dX9_event_29 (by rw [c29_5_]; decide) (by rw [c29_5_]; decide) (by rw [c29_5_]; rfl) (by decide) ?_
    refine lv_aload_n hx hb dX9_event_72 rfl (lv_at hl 1 rfl) ?_
    refine z_get (C := RX9) (T := TX9) (N := 7) (ci := 7) F zu_wsX90 hP 0 rfl rfl 0 (by decide) zw_478 rfl dX9_event_73 ?_
    refine lv_iload_n hx hb dX9_event_76 rfl (lv_at hl 2 rfl) ?_
    refine lv_iload_n hx hb dX9_event_77 rfl (lv_at hl 3 rfl) ?_
    refine lv_iload_n hx hb dX9_event_78 rfl (lv_at hl 4 rfl) ?_
    obtain ⟨r6_, hr6_, h⟩ := z_bind h
    refine zRV F (k_X4_begin l N g a_score a_score_cells v_score_size v_score_cells x1 x2 x3 _ hr6_) zy_X4_begin zw_594 hP hD hS [1, 3] rfl rfl (q0 := 1) (he := rfl) (hc := rfl) (rest := []) rfl hl.1 rfl (Nat.le_of_ble_eq_true rfl) ⟨rfl, rfl⟩ ⟨Nat.le_of_ble_eq_true rfl, Nat.le_of_ble_eq_true rfl⟩ ⟨Nat.zero_le _, Nat.zero_le _⟩ dX9_event_79 (st1 := [.int r6_]) rfl ?_
    obtain rfl := Sum.inl.inj (Option.some.inj h)
    exact zR_i F hr hlocks hQ dX9_event_82
  rw [if_neg c29_5_] at h
  have kd29_ : W p l e rm_X9_event s m (([.ref a_this, .int x1, .int x2, .int x3, .int x4] : List Value)).toArray below meth c s.heap [] 0 0 Q (F0 m 83 ls []) := by
    refine lv_iload hx hb dX9_event_83 (lv_at hl 0 rfl) ?_
    obtain ⟨r7_, hr7_, h⟩ := z_bind h
    refine zRS F (k_X0_isNote l N g r3_ _ hr7_) zy_X0_isNote zw_595 hP hD hS [] rfl rfl (rest := []) rfl hl.1 rfl (Nat.le_of_ble_eq_true rfl) ⟨rfl, rfl⟩ ⟨Nat.le_of_ble_eq_true rfl, Nat.le_of_ble_eq_true rfl⟩ ⟨Nat.zero_le _, Nat.zero_le _⟩ dX9_event_85 (st1 := [.int r7_]) rfl ?_
    refine z_eq (tgt := 103) hx hb dX9_event_88 (by decide) h (fun h => ?_) (fun h => ?_)
    · refine lv_sipush (v := (-1000)) hx hb dX9_event_103 (by decide) ?_
      obtain rfl := Sum.inl.inj (Option.some.inj h)
      exact zR_i F hr hlocks hQ dX9_event_106
    · refine lv_aload_n hx hb dX9_event_91 rfl (lv_at hl 1 rfl) ?_
      refine lv_iload_n hx hb dX9_event_92 rfl (lv_at hl 2 rfl) ?_
      refine lv_iload_n hx hb dX9_event_93 rfl (lv_at hl 3 rfl) ?_
      refine lv_iload_n hx hb dX9_event_94 rfl (lv_at hl 4 rfl) ?_
      refine lv_iload hx hb dX9_event_95 (lv_at hl 5 rfl) ?_
      obtain ⟨r8_, hr8_, h⟩ := z_bind h
      refine zRV F (k_X9_noteValue l N g a_this a_score a_history a_text a_sentence a_reader a_sounds a_playing a_score_cells a_sounds_shifts a_sounds_heldTicks v_score_size v_score_cells v_sounds_heldTicks v_sounds_shifts x1 x2 x3 x4 _ hr8_) zy_X9_noteValue zw_596 hP hD hS [0, 1, 2, 3, 4, 5] rfl rfl (q0 := 0) (he := rfl) (hc := rfl) (rest := []) rfl hl.1 rfl (Nat.le_of_ble_eq_true rfl) ⟨rfl, rfl⟩ ⟨Nat.le_of_ble_eq_true rfl, Nat.le_of_ble_eq_true rfl⟩ ⟨Nat.zero_le _, Nat.zero_le _⟩ dX9_event_97 (st1 := [.int r8_]) rfl ?_
      refine lv_goto (tgt := 106) hx hb dX9_event_100 (by decide) ?_
      obtain rfl := Sum.inl.inj (Option.some.inj h)
      exact zR_i F hr hlocks hQ dX9_event_106
  by_cases c29_3_ : x4 = 3
  · exact lv_tableIn (tgt := 83) hx hb dX9_event_29 (by rw [c29_3_]; decide) (by rw [c29_3_]; decide) (by rw [c29_3_]; rfl) (by decide) kd29_
  exact lv_tableOut (tgt := 83) hx hb dX9_event_29 (z_sw 2 4 x4 (fun j hj => match j, hj with | 0, _ => c29_2_ | 1, _ => c29_3_ | 2, _ => c29_4_ | 3, _ => c29_5_ | j + 4, hj => absurd hj (by omega))) (by decide) kd29_
abbrev rx_X9_event : Room := { frames := 7, cells := 1, slots := 6, locals := 113 }
set_option maxHeartbeats 4000000 in
set_option maxRecDepth 100000 in
theorem kx_X9_event (l : Launch) (N : Nat) (g : zEnv) (a_this a_score a_history a_text a_sentence a_reader a_sounds a_playing a_score_cells a_sounds_shifts a_sounds_heldTicks : Nat) (v_score_size : Int32) (v_score_cells : Nat → Int32) (v_sounds_heldTicks : Nat → Int32) (v_sounds_shifts : Nat → Int32) (x1 : Int32) (x2 : Int32) (x3 : Int32) (x4 : Int32) (r : Nat) (h : f_X9_event N v_score_size v_score_cells v_sounds_heldTicks v_sounds_shifts x1 x2 x3 x4 = some (Sum.inr r)) (hfl : l.stackTraces = false) : ZE l yX9_event cX9_event 6 (some .int) rx_X9_event g [.ref a_this, .int x1, .int x2, .int x3, .int x4] [zo_X9 a_this a_score a_history a_text a_sentence a_reader a_sounds a_playing, zo_X4 a_score a_score_cells v_score_size, zo_X6 a_sounds a_score a_sounds_shifts a_sounds_heldTicks, (a_score_cells, .inl (zI g, 912, .inl v_score_cells)), (a_sounds_heldTicks, .inl (zI g, 768, .inl v_sounds_heldTicks)), (a_sounds_shifts, .inl (zI g, 768, .inl v_sounds_shifts))] [zo_X9 a_this a_score a_history a_text a_sentence a_reader a_sounds a_playing, zo_X4 a_score a_score_cells v_score_size, zo_X6 a_sounds a_score a_sounds_shifts a_sounds_heldTicks, (a_score_cells, .inl (zI g, 912, .inl v_score_cells)), (a_sounds_heldTicks, .inl (zI g, 768, .inl v_sounds_heldTicks)), (a_sounds_shifts, .inl (zI g, 768, .inl v_sounds_shifts))] r := by
  refine zE_of (by decide) (Nat.le_of_ble_eq_true rfl) ?_
  intro p e s m below meth c A H locs ls Q R F hRm hlocks hN htab hP hD hS hl hQ
  subst hRm
  have F : zF p m c cX9_event 6 s (([.ref a_this, .int x1, .int x2, .int x3, .int x4] : List Value)).toArray RX9 g A := F
  have hx := F.1.1
  have hb := F.1.2.1
  have hz := F.1.2.2.2.2
  have hl : lv_has ls 6 [(0, .ref a_this), (1, .int x1), (2, .int x2), (3, .int x3), (4, .int x4)] := hl
  unfold f_X9_event at h
  refine lv_aload_n hx hb dX9_event_0 rfl (lv_at hl 0 rfl) ?_
  refine lv_iload_n hx hb dX9_event_1 rfl (lv_at hl 1 rfl) ?_
  refine lv_iload_n hx hb dX9_event_2 rfl (lv_at hl 2 rfl) ?_
  refine lv_iload_n hx hb dX9_event_3 rfl (lv_at hl 3 rfl) ?_
  refine z_subR h (fun h => ?_) (fun r1_ hr1_ h => ?_)
  · exact zXV F (kx_X9_requireEvent l N g a_this a_score a_history a_text a_sentence a_reader a_sounds a_playing a_score_cells v_score_size v_score_cells x1 x2 x3 _ h hfl) hN zy_X9_requireEvent zw_571 hP hD hS [0, 1, 3] [2, 4, 5] [3, 4, 0, 5, 1, 2] (wr := [zo_X6 a_sounds a_score a_sounds_shifts a_sounds_heldTicks, (a_sounds_heldTicks, .inl (zI g, 768, .inl v_sounds_heldTicks)), (a_sounds_shifts, .inl (zI g, 768, .inl v_sounds_shifts))]) (W1 := [zo_X9 a_this a_score a_history a_text a_sentence a_reader a_sounds a_playing, zo_X4 a_score a_score_cells v_score_size, zo_X6 a_sounds a_score a_sounds_shifts a_sounds_heldTicks, (a_score_cells, .inl (zI g, 912, .inl v_score_cells)), (a_sounds_heldTicks, .inl (zI g, 768, .inl v_sounds_heldTicks)), (a_sounds_shifts, .inl (zI g, 768, .inl v_sounds_shifts))]) rfl rfl rfl rfl (by decide) rfl rfl (q0 := 0) (he := rfl) (hc := rfl) (rest := []) rfl hl.1 rfl (Nat.le_of_ble_eq_true rfl) ⟨rfl, rfl⟩ ⟨Nat.le_of_ble_eq_true rfl, Nat.le_of_ble_eq_true rfl⟩ ⟨Nat.le_of_ble_eq_true rfl, Nat.le_of_ble_eq_true rfl⟩ dX9_event_4 htab hlocks hQ
  refine zRV F (k_X9_requireEvent l N g a_this a_score a_history a_text a_sentence a_reader a_sounds a_playing a_score_cells v_score_size v_score_cells x1 x2 x3 _ hr1_) zy_X9_requireEvent zw_571 hP hD hS [0, 1, 3] rfl rfl (q0 := 0) (he := rfl) (hc := rfl) (rest := []) rfl hl.1 rfl (Nat.le_of_ble_eq_true rfl) ⟨rfl, rfl⟩ ⟨Nat.le_of_ble_eq_true rfl, Nat.le_of_ble_eq_true rfl⟩ ⟨Nat.zero_le _, Nat.zero_le _⟩ dX9_event_4 (st1 := []) rfl ?_
  refine lv_iload hx hb dX9_event_7 (lv_at hl 4 rfl) ?_
  refine lv_iconst (v := 0) hx hb dX9_event_9 (by decide) ?_
  refine lv_bipush (v := 9) hx hb dX9_event_10 (by decide) ?_
  refine z_subR h (fun h => ?_) (fun r2_ hr2_ h => ?_)
  · exact zXS F (kx_X9_requireRange l N g x4 0 9 _ h hfl) hN zy_X9_requireRange zw_557 hP hD hS [] [0, 1, 2, 3, 4, 5] [0, 1, 2, 3, 4, 5] (wr := [zo_X9 a_this a_score a_history a_text a_sentence a_reader a_sounds a_playing, zo_X4 a_score a_score_cells v_score_size, zo_X6 a_sounds a_score a_sounds_shifts a_sounds_heldTicks, (a_score_cells, .inl (zI g, 912, .inl v_score_cells)), (a_sounds_heldTicks, .inl (zI g, 768, .inl v_sounds_heldTicks)), (a_sounds_shifts, .inl (zI g, 768, .inl v_sounds_shifts))]) (W1 := [zo_X9 a_this a_score a_history a_text a_sentence a_reader a_sounds a_playing, zo_X4 a_score a_score_cells v_score_size, zo_X6 a_sounds a_score a_sounds_shifts a_sounds_heldTicks, (a_score_cells, .inl (zI g, 912, .inl v_score_cells)), (a_sounds_heldTicks, .inl (zI g, 768, .inl v_sounds_heldTicks)), (a_sounds_shifts, .inl (zI g, 768, .inl v_sounds_shifts))]) rfl rfl rfl rfl (by decide) rfl rfl (rest := []) rfl hl.1 rfl (Nat.le_of_ble_eq_true rfl) ⟨rfl, rfl⟩ ⟨Nat.le_of_ble_eq_true rfl, Nat.le_of_ble_eq_true rfl⟩ ⟨Nat.le_of_ble_eq_true rfl, Nat.le_of_ble_eq_true rfl⟩ dX9_event_12 htab hlocks hQ
  refine zRS F (k_X9_requireRange l N g x4 0 9 _ hr2_) zy_X9_requireRange zw_557 hP hD hS [] rfl rfl (rest := []) rfl hl.1 rfl (Nat.le_of_ble_eq_true rfl) ⟨rfl, rfl⟩ ⟨Nat.le_of_ble_eq_true rfl, Nat.le_of_ble_eq_true rfl⟩ ⟨Nat.zero_le _, Nat.zero_le _⟩ dX9_event_12 (st1 := []) rfl ?_
  refine lv_aload_n hx hb dX9_event_15 rfl (lv_at hl 0 rfl) ?_
  refine z_get (C := RX9) (T := TX9) (N := 7) (ci := 7) F zu_wsX90 hP 0 rfl rfl 0 (by decide) zw_478 rfl dX9_event_16 ?_
  refine lv_iload_n hx hb dX9_event_19 rfl (lv_at hl 1 rfl) ?_
  refine lv_iload_n hx hb dX9_event_20 rfl (lv_at hl 2 rfl) ?_
  refine lv_iload_n hx hb dX9_event_21 rfl (lv_at hl 3 rfl) ?_
  obtain ⟨r3_, hr3_, h⟩ := z_bind h
  refine zRV F (k_X4_code l N g a_score a_score_cells v_score_size v_score_cells x1 x2 x3 _ hr3_) zy_X4_code zw_581 hP hD hS [1, 3] rfl rfl (q0 := 1) (he := rfl) (hc := rfl) (rest := []) rfl hl.1 rfl (Nat.le_of_ble_eq_true rfl) ⟨rfl, rfl⟩ ⟨Nat.le_of_ble_eq_true rfl, Nat.le_of_ble_eq_true rfl⟩ ⟨Nat.zero_le _, Nat.zero_le _⟩ dX9_event_22 (st1 := [.int r3_]) rfl ?_
  refine lv_istore (lv' := [(5, .int r3_), (0, .ref a_this), (1, .int x1), (2, .int x2), (3, .int x3), (4, .int x4)]) hx hb dX9_event_25 hl (by decide) rfl (fun ls hl => ?_)
  refine lv_iload hx hb dX9_event_27 (lv_at hl 5 rfl) ?_
  by_cases c29_2_ : x4 = 2
  · rw [if_pos c29_2_] at h
    refine lv_tableIn (tgt := 60) hx hb dX9_event_29 (by rw [c29_2_]; decide) (by rw [c29_2_]; decide) (by rw [c29_2_]; rfl) (by decide) ?_
    refine lv_iload hx hb dX9_event_60 (lv_at hl 0 rfl) ?_
    obtain ⟨r4_, hr4_, h⟩ := z_bind h
    refine zRS F (k_X0_durationOf l N g r3_ _ hr4_) zy_X0_durationOf zw_592 hP hD hS [] rfl rfl (rest := []) rfl hl.1 rfl (Nat.le_of_ble_eq_true rfl) ⟨rfl, rfl⟩ ⟨Nat.le_of_ble_eq_true rfl, Nat.le_of_ble_eq_true rfl⟩ ⟨Nat.zero_le _, Nat.zero_le _⟩ dX9_event_62 (st1 := [.int r4_]) rfl ?_
    cases h
  rw [if_neg c29_2_] at h
  by_cases c29_4_ : x4 = 4
  · rw [if_pos c29_4_] at h
    refine lv_tableIn (tgt := 66) hx hb dX9_event_29 (by rw [c29_4_]; decide) (by rw [c29_4_]; decide) (by rw [c29_4_]; rfl) (by decide) ?_
    refine lv_iload hx hb dX9_event_66 (lv_at hl 0 rfl) ?_
    obtain ⟨r5_, hr5_, h⟩ := z_bind h
    refine zRS F (k_X0_ticksOf l N g r3_ _ hr5_) zy_X0_ticksOf zw_593 hP hD hS [] rfl rfl (rest := []) rfl hl.1 rfl (Nat.le_of_ble_eq_true rfl) ⟨rfl, rfl⟩ ⟨Nat.le_of_ble_eq_true rfl, Nat.le_of_ble_eq_true rfl⟩ ⟨Nat.zero_le _, Nat.zero_le _⟩ dX9_event_68 (st1 := [.int r5_]) rfl ?_
    cases h
  rw [if_neg c29_4_] at h
  by_cases c29_5_ : x4 = 5
  · rw [if_pos c29_5_] at h
    refine lv_tableIn (tgt := 72) hx hb dX9_event_29 (by rw [c29_5_]; decide) (by rw [c29_5_]; decide) (by rw [c29_5_]; rfl) (by decide) ?_
    refine lv_aload_n hx hb dX9_event_72 rfl (lv_at hl 1 rfl) ?_
    refine z_get (C := RX9) (T := TX9) (N := 7) (ci := 7) F zu_wsX90 hP 0 rfl rfl 0 (by decide) zw_478 rfl dX9_event_73 ?_
    refine lv_iload_n hx hb dX9_event_76 rfl (lv_at hl 2 rfl) ?_
    refine lv_iload_n hx hb dX9_event_77 rfl (lv_at hl 3 rfl) ?_
    refine lv_iload_n hx hb dX9_event_78 rfl (lv_at hl 4 rfl) ?_
    obtain ⟨r6_, hr6_, h⟩ := z_bind h
    refine zRV F (k_X4_begin l N g a_score a_score_cells v_score_size v_score_cells x1 x2 x3 _ hr6_) zy_X4_begin zw_594 hP hD hS [1, 3] rfl rfl (q0 := 1) (he := rfl) (hc := rfl) (rest := []) rfl hl.1 rfl (Nat.le_of_ble_eq_true rfl) ⟨rfl, rfl⟩ ⟨Nat.le_of_ble_eq_true rfl, Nat.le_of_ble_eq_true rfl⟩ ⟨Nat.zero_le _, Nat.zero_le _⟩ dX9_event_79 (st1 := [.int r6_]) rfl ?_
    cases h
  rw [if_neg c29_5_] at h
  have kd29_ : W p l e rx_X9_event s m (([.ref a_this, .int x1, .int x2, .int x3, .int x4] : List Value)).toArray below meth c H locs 0 0 Q (F0 m 83 ls []) := by
    refine lv_iload hx hb dX9_event_83 (lv_at hl 0 rfl) ?_
    obtain ⟨r7_, hr7_, h⟩ := z_bind h
    refine zRS F (k_X0_isNote l N g r3_ _ hr7_) zy_X0_isNote zw_595 hP hD hS [] rfl rfl (rest := []) rfl hl.1 rfl (Nat.le_of_ble_eq_true rfl) ⟨rfl, rfl⟩ ⟨Nat.le_of_ble_eq_true rfl, Nat.le_of_ble_eq_true rfl⟩ ⟨Nat.zero_le _, Nat.zero_le _⟩ dX9_event_85 (st1 := [.int r7_]) rfl ?_
    refine z_eq (tgt := 103) hx hb dX9_event_88 (by decide) h (fun h => ?_) (fun h => ?_)
    · refine lv_sipush (v := (-1000)) hx hb dX9_event_103 (by decide) ?_
      cases h
    · refine lv_aload_n hx hb dX9_event_91 rfl (lv_at hl 1 rfl) ?_
      refine lv_iload_n hx hb dX9_event_92 rfl (lv_at hl 2 rfl) ?_
      refine lv_iload_n hx hb dX9_event_93 rfl (lv_at hl 3 rfl) ?_
      refine lv_iload_n hx hb dX9_event_94 rfl (lv_at hl 4 rfl) ?_
      refine lv_iload hx hb dX9_event_95 (lv_at hl 5 rfl) ?_
      obtain ⟨r8_, hr8_, h⟩ := z_bind h
      refine zRV F (k_X9_noteValue l N g a_this a_score a_history a_text a_sentence a_reader a_sounds a_playing a_score_cells a_sounds_shifts a_sounds_heldTicks v_score_size v_score_cells v_sounds_heldTicks v_sounds_shifts x1 x2 x3 x4 _ hr8_) zy_X9_noteValue zw_596 hP hD hS [0, 1, 2, 3, 4, 5] rfl rfl (q0 := 0) (he := rfl) (hc := rfl) (rest := []) rfl hl.1 rfl (Nat.le_of_ble_eq_true rfl) ⟨rfl, rfl⟩ ⟨Nat.le_of_ble_eq_true rfl, Nat.le_of_ble_eq_true rfl⟩ ⟨Nat.zero_le _, Nat.zero_le _⟩ dX9_event_97 (st1 := [.int r8_]) rfl ?_
      refine lv_goto (tgt := 106) hx hb dX9_event_100 (by decide) ?_
      cases h
  by_cases c29_3_ : x4 = 3
  · exact lv_tableIn (tgt := 83) hx hb dX9_event_29 (by rw [c29_3_]; decide) (by rw [c29_3_]; decide) (by rw [c29_3_]; rfl) (by decide) kd29_
  exact lv_tableOut (tgt := 83) hx hb dX9_event_29 (z_sw 2 4 x4 (fun j hj => match j, hj with | 0, _ => c29_2_ | 1, _ => c29_3_ | 2, _ => c29_4_ | 3, _ => c29_5_ | j + 4, hj => absurd hj (by omega))) (by decide) kd29_
def f_X9_requireNotNegative (N : Nat) (x0 : Int32) : Option (Unit ⊕ Nat) :=
  if x0 < 0 then some (Sum.inr 1) else some (Sum.inl ())
abbrev rm_X9_requireNotNegative : Room := { frames := 6, cells := 0, slots := 0, locals := 90 }
theorem zy_X9_requireNotNegative : zYs yX9_requireNotNegative cX9_requireNotNegative 1 none 1 := ⟨zw_602, zw_527, zw_600, ⟨by decide, by decide⟩, by decide +kernel⟩
set_option maxHeartbeats 4000000 in
set_option maxRecDepth 100000 in
theorem k_X9_requireNotNegative (l : Launch) (N : Nat) (g : zEnv) (x0 : Int32) (r : Unit) (h : f_X9_requireNotNegative N x0 = some (Sum.inl r)) : ZR l yX9_requireNotNegative cX9_requireNotNegative 1 none rm_X9_requireNotNegative g [.int x0] [] none := by
  refine zR_of (by decide) (Nat.le_of_ble_eq_true rfl) ?_
  intro p e s m below meth c A ls Q R F hRm hr hlocks hP hD hS hl hQ
  subst hRm
  have F : zF p m c cX9_requireNotNegative 1 s (([.int x0] : List Value)).toArray RX9 g A := F
  have hx := F.1.1
  have hb := F.1.2.1
  have hz := F.1.2.2.2.2
  have hl : lv_has ls 1 [(0, .int x0)] := hl
  unfold f_X9_requireNotNegative at h
  refine lv_iload_n hx hb dX9_requireNotNegative_0 rfl (lv_at hl 0 rfl) ?_
  refine z_ge (tgt := 15) hx hb dX9_requireNotNegative_1 (by decide) h (fun h => ?_) (fun h => ?_)
  · obtain rfl := Sum.inl.inj (Option.some.inj h)
    exact zR_v F hr hlocks hQ dX9_requireNotNegative_15
  · cases h
abbrev rx_X9_requireNotNegative : Room := { frames := 6, cells := 1, slots := 6, locals := 90 }
set_option maxHeartbeats 4000000 in
set_option maxRecDepth 100000 in
theorem kx_X9_requireNotNegative (l : Launch) (N : Nat) (g : zEnv) (x0 : Int32) (r : Nat) (h : f_X9_requireNotNegative N x0 = some (Sum.inr r)) (hfl : l.stackTraces = false) : ZE l yX9_requireNotNegative cX9_requireNotNegative 1 none rx_X9_requireNotNegative g [.int x0] [] [] r := by
  refine zE_of (by decide) (Nat.le_of_ble_eq_true rfl) ?_
  intro p e s m below meth c A H locs ls Q R F hRm hlocks hN htab hP hD hS hl hQ
  subst hRm
  have F : zF p m c cX9_requireNotNegative 1 s (([.int x0] : List Value)).toArray RX9 g A := F
  have hx := F.1.1
  have hb := F.1.2.1
  have hz := F.1.2.2.2.2
  have hl : lv_has ls 1 [(0, .int x0)] := hl
  unfold f_X9_requireNotNegative at h
  refine lv_iload_n hx hb dX9_requireNotNegative_0 rfl (lv_at hl 0 rfl) ?_
  refine z_ge (tgt := 15) hx hb dX9_requireNotNegative_1 (by decide) h (fun h => ?_) (fun h => ?_)
  · cases h
  · obtain rfl := Sum.inr.inj (Option.some.inj h)
    exact zThW (k := 1) F hfl hN zw_541 zw_542 zst_X9_341 (fun w h => zu_zx_2 w h) zx_bad_2 (zx_ot_2 _) (by decide +kernel) hP hD hS hl.1 htab hlocks hQ dX9_requireNotNegative_4 dX9_requireNotNegative_7 dX9_requireNotNegative_8 dX9_requireNotNegative_11 dX9_requireNotNegative_14 (Nat.le_of_ble_eq_true rfl) (Nat.le_of_ble_eq_true rfl) (Nat.le_of_ble_eq_true rfl) (Nat.le_of_ble_eq_true rfl)
def f_X9_eventAt_B16 (N : Nat) (v_score_size : Int32) (v_score_cells : Nat → Int32) (x1 : Int32) (x2 : Int32) (x3 : Int32) (kh16_ : Int32 × Int32 → Option (Int32 ⊕ Nat)) (v16_ : Int32 × Int32) : Option (Int32 ⊕ Nat) :=
  Option.bind (f_X4_count N v_score_size v_score_cells x1 x2) (fun (r3_ : Int32) => if v16_.2 < r3_ then Option.bind (f_X4_code N v_score_size v_score_cells x1 x2 v16_.2) (fun (r4_ : Int32) => Option.bind (f_X0_ticksOf N r4_) (fun (r5_ : Int32) => Option.bind (some (v16_.1 + r5_)) (fun (x6_ : Int32) => if x3 < x6_ then some (Sum.inl v16_.2) else Option.bind (some (v16_.2 + 1)) (fun (x7_ : Int32) => kh16_ (x6_, x7_))))) else some (Sum.inl (-1000)))
def f_X9_eventAt (N : Nat) (v_score_size : Int32) (v_score_cells : Nat → Int32) (x1 : Int32) (x2 : Int32) (x3 : Int32) : Option (Int32 ⊕ Nat) :=
  zSub (f_X9_requireVoice N v_score_size x1 x2) (fun (r1_ : Unit) => zSub (f_X9_requireNotNegative N x3) (fun (r2_ : Unit) => zLoop (f_X9_eventAt_B16 N v_score_size v_score_cells x1 x2 x3) N (0, 0)))
abbrev rm_X9_eventAt : Room := { frames := 7, cells := 0, slots := 0, locals := 112 }
theorem zy_X9_eventAt : zYv yX9_eventAt RX9 cX9_eventAt 6 (some .int) 3 := ⟨zw_784, zw_785, zw_527, zw_603, ⟨by decide, by decide⟩, by decide +kernel⟩
set_option maxHeartbeats 4000000 in
set_option maxRecDepth 100000 in
theorem k_X9_eventAt (l : Launch) (N : Nat) (g : zEnv) (a_this a_score a_history a_text a_sentence a_reader a_sounds a_playing a_score_cells : Nat) (v_score_size : Int32) (v_score_cells : Nat → Int32) (x1 : Int32) (x2 : Int32) (x3 : Int32) (r : Int32) (h : f_X9_eventAt N v_score_size v_score_cells x1 x2 x3 = some (Sum.inl r)) : ZR l yX9_eventAt cX9_eventAt 6 (some .int) rm_X9_eventAt g [.ref a_this, .int x1, .int x2, .int x3] [zo_X9 a_this a_score a_history a_text a_sentence a_reader a_sounds a_playing, zo_X4 a_score a_score_cells v_score_size, (a_score_cells, .inl (zI g, 912, .inl v_score_cells))] (some (.int r)) := by
  refine zR_of (by decide) (Nat.le_of_ble_eq_true rfl) ?_
  intro p e s m below meth c A ls Q R F hRm hr hlocks hP hD hS hl hQ
  subst hRm
  have F : zF p m c cX9_eventAt 6 s (([.ref a_this, .int x1, .int x2, .int x3] : List Value)).toArray RX9 g A := F
  have hx := F.1.1
  have hb := F.1.2.1
  have hz := F.1.2.2.2.2
  have hl : lv_has ls 6 [(0, .ref a_this), (1, .int x1), (2, .int x2), (3, .int x3)] := hl
  unfold f_X9_eventAt at h
  refine lv_aload_n hx hb dX9_eventAt_0 rfl (lv_at hl 0 rfl) ?_
  refine lv_iload_n hx hb dX9_eventAt_1 rfl (lv_at hl 1 rfl) ?_
  refine lv_iload_n hx hb dX9_eventAt_2 rfl (lv_at hl 2 rfl) ?_
  obtain ⟨r1_, hr1_, h⟩ := z_subL h
  refine zRV F (k_X9_requireVoice l N g a_this a_score a_history a_text a_sentence a_reader a_sounds a_playing a_score_cells v_score_size x1 x2 _ hr1_) zy_X9_requireVoice zw_554 hP hD hS [0, 1] rfl rfl (q0 := 0) (he := rfl) (hc := rfl) (rest := []) rfl hl.1 rfl (Nat.le_of_ble_eq_true rfl) ⟨rfl, rfl⟩ ⟨Nat.le_of_ble_eq_true rfl, Nat.le_of_ble_eq_true rfl⟩ ⟨Nat.zero_le _, Nat.zero_le _⟩ dX9_eventAt_3 (st1 := []) rfl ?_
  refine lv_iload_n hx hb dX9_eventAt_6 rfl (lv_at hl 3 rfl) ?_
  obtain ⟨r2_, hr2_, h⟩ := z_subL h
  refine zRS F (k_X9_requireNotNegative l N g x3 _ hr2_) zy_X9_requireNotNegative zw_601 hP hD hS [] rfl rfl (rest := []) rfl hl.1 rfl (Nat.le_of_ble_eq_true rfl) ⟨rfl, rfl⟩ ⟨Nat.le_of_ble_eq_true rfl, Nat.le_of_ble_eq_true rfl⟩ ⟨Nat.zero_le _, Nat.zero_le _⟩ dX9_eventAt_7 (st1 := []) rfl ?_
  refine lv_iconst (v := 0) hx hb dX9_eventAt_10 (by decide) ?_
  refine lv_istore (lv' := [(4, .int 0), (0, .ref a_this), (1, .int x1), (2, .int x2), (3, .int x3)]) hx hb dX9_eventAt_11 hl (by decide) rfl (fun ls hl => ?_)
  refine lv_iconst (v := 0) hx hb dX9_eventAt_13 (by decide) ?_
  refine lv_istore (lv' := [(5, .int 0), (4, .int 0), (0, .ref a_this), (1, .int x1), (2, .int x2), (3, .int x3)]) hx hb dX9_eventAt_14 hl (by decide) rfl (fun ls hl => ?_)
  have l16_ : ∀ (n16_ : Nat) (v16_ : Int32 × Int32), zLoop (f_X9_eventAt_B16 N v_score_size v_score_cells x1 x2 x3) n16_ v16_ = some (Sum.inl r) → ∀ (ls : Array Slot), lv_has ls 6 [(0, .ref a_this), (1, .int x1), (2, .int x2), (3, .int x3), (4, .int v16_.1), (5, .int v16_.2)] → W p l e rm_X9_eventAt s m (([.ref a_this, .int x1, .int x2, .int x3] : List Value)).toArray below meth c s.heap [] 0 0 Q (F0 m 16 ls []) := by
    intro n16_
    induction n16_ with
    | zero => intro v16_ h; cases h
    | succ n16_ ih16_ =>
      intro v16_ h ls hl
      have h : f_X9_eventAt_B16 N v_score_size v_score_cells x1 x2 x3 (zLoop (f_X9_eventAt_B16 N v_score_size v_score_cells x1 x2 x3) n16_) v16_ = some (Sum.inl r) := h
      unfold f_X9_eventAt_B16 at h
      refine lv_iload hx hb dX9_eventAt_16 (lv_at hl 5 rfl) ?_
      refine lv_aload_n hx hb dX9_eventAt_18 rfl (lv_at hl 0 rfl) ?_
      refine z_get (C := RX9) (T := TX9) (N := 7) (ci := 7) F zu_wsX90 hP 0 rfl rfl 0 (by decide) zw_478 rfl dX9_eventAt_19 ?_
      refine lv_iload_n hx hb dX9_eventAt_22 rfl (lv_at hl 1 rfl) ?_
      refine lv_iload_n hx hb dX9_eventAt_23 rfl (lv_at hl 2 rfl) ?_
      obtain ⟨r3_, hr3_, h⟩ := z_bind h
      refine zRV F (k_X4_count l N g a_score a_score_cells v_score_size v_score_cells x1 x2 _ hr3_) zy_X4_count zw_552 hP hD hS [1, 2] rfl rfl (q0 := 1) (he := rfl) (hc := rfl) (rest := [.int v16_.2]) rfl hl.1 rfl (Nat.le_of_ble_eq_true rfl) ⟨rfl, rfl⟩ ⟨Nat.le_of_ble_eq_true rfl, Nat.le_of_ble_eq_true rfl⟩ ⟨Nat.zero_le _, Nat.zero_le _⟩ dX9_eventAt_24 (st1 := [.int r3_, .int v16_.2]) rfl ?_
      refine z_cge (tgt := 64) hx hb dX9_eventAt_27 (by decide) h (fun h => ?_) (fun h => ?_)
      · refine lv_sipush (v := (-1000)) hx hb dX9_eventAt_64 (by decide) ?_
        obtain rfl := Sum.inl.inj (Option.some.inj h)
        exact zR_i F hr hlocks hQ dX9_eventAt_67
      · refine lv_iload hx hb dX9_eventAt_30 (lv_at hl 4 rfl) ?_
        refine lv_aload_n hx hb dX9_eventAt_32 rfl (lv_at hl 0 rfl) ?_
        refine z_get (C := RX9) (T := TX9) (N := 7) (ci := 7) F zu_wsX90 hP 0 rfl rfl 0 (by decide) zw_478 rfl dX9_eventAt_33 ?_
        refine lv_iload_n hx hb dX9_eventAt_36 rfl (lv_at hl 1 rfl) ?_
        refine lv_iload_n hx hb dX9_eventAt_37 rfl (lv_at hl 2 rfl) ?_
        refine lv_iload hx hb dX9_eventAt_38 (lv_at hl 5 rfl) ?_
        obtain ⟨r4_, hr4_, h⟩ := z_bind h
        refine zRV F (k_X4_code l N g a_score a_score_cells v_score_size v_score_cells x1 x2 v16_.2 _ hr4_) zy_X4_code zw_581 hP hD hS [1, 2] rfl rfl (q0 := 1) (he := rfl) (hc := rfl) (rest := [.int v16_.1]) rfl hl.1 rfl (Nat.le_of_ble_eq_true rfl) ⟨rfl, rfl⟩ ⟨Nat.le_of_ble_eq_true rfl, Nat.le_of_ble_eq_true rfl⟩ ⟨Nat.zero_le _, Nat.zero_le _⟩ dX9_eventAt_40 (st1 := [.int r4_, .int v16_.1]) rfl ?_
        obtain ⟨r5_, hr5_, h⟩ := z_bind h
        refine zRS F (k_X0_ticksOf l N g r4_ _ hr5_) zy_X0_ticksOf zw_593 hP hD hS [] rfl rfl (rest := [.int v16_.1]) rfl hl.1 rfl (Nat.le_of_ble_eq_true rfl) ⟨rfl, rfl⟩ ⟨Nat.le_of_ble_eq_true rfl, Nat.le_of_ble_eq_true rfl⟩ ⟨Nat.zero_le _, Nat.zero_le _⟩ dX9_eventAt_43 (st1 := [.int r5_, .int v16_.1]) rfl ?_
        refine lv_iadd hx hb dX9_eventAt_46 ?_
        refine z_top Value.int h (fun x6_ h => ?_)
        refine lv_istore (lv' := [(4, .int x6_), (0, .ref a_this), (1, .int x1), (2, .int x2), (3, .int x3), (5, .int v16_.2)]) hx hb dX9_eventAt_47 hl (by decide) rfl (fun ls hl => ?_)
        refine lv_iload_n hx hb dX9_eventAt_49 rfl (lv_at hl 4 rfl) ?_
        refine lv_iload hx hb dX9_eventAt_50 (lv_at hl 0 rfl) ?_
        refine z_cge (tgt := 58) hx hb dX9_eventAt_52 (by decide) h (fun h => ?_) (fun h => ?_)
        · refine z_nm h (fun x7_ ex7_ h => ?_)
          refine lv_iinc (v := x7_) (lv' := [(5, .int x7_), (4, .int x6_), (0, .ref a_this), (1, .int x1), (2, .int x2), (3, .int x3)]) hx hb dX9_eventAt_58 hl (k := 5) rfl (by rw [ex7_]; rfl) (by decide) rfl (fun ls hl => ?_)
          refine lv_goto (tgt := 16) hx hb dX9_eventAt_61 (by decide) ?_
          exact ih16_ _ h _ (lv_sub hl [2, 3, 4, 5, 1, 0] rfl)
        · refine lv_iload hx hb dX9_eventAt_55 (lv_at hl 5 rfl) ?_
          obtain rfl := Sum.inl.inj (Option.some.inj h)
          exact zR_i F hr hlocks hQ dX9_eventAt_57
  exact l16_ N _ h _ (lv_sub hl [2, 3, 4, 5, 1, 0] rfl)
abbrev rx_X9_eventAt : Room := { frames := 7, cells := 1, slots := 6, locals := 112 }
set_option maxHeartbeats 4000000 in
set_option maxRecDepth 100000 in
theorem kx_X9_eventAt (l : Launch) (N : Nat) (g : zEnv) (a_this a_score a_history a_text a_sentence a_reader a_sounds a_playing a_score_cells : Nat) (v_score_size : Int32) (v_score_cells : Nat → Int32) (x1 : Int32) (x2 : Int32) (x3 : Int32) (r : Nat) (h : f_X9_eventAt N v_score_size v_score_cells x1 x2 x3 = some (Sum.inr r)) (hfl : l.stackTraces = false) : ZE l yX9_eventAt cX9_eventAt 6 (some .int) rx_X9_eventAt g [.ref a_this, .int x1, .int x2, .int x3] [zo_X9 a_this a_score a_history a_text a_sentence a_reader a_sounds a_playing, zo_X4 a_score a_score_cells v_score_size, (a_score_cells, .inl (zI g, 912, .inl v_score_cells))] [zo_X9 a_this a_score a_history a_text a_sentence a_reader a_sounds a_playing, zo_X4 a_score a_score_cells v_score_size, (a_score_cells, .inl (zI g, 912, .inl v_score_cells))] r := by
  refine zE_of (by decide) (Nat.le_of_ble_eq_true rfl) ?_
  intro p e s m below meth c A H locs ls Q R F hRm hlocks hN htab hP hD hS hl hQ
  subst hRm
  have F : zF p m c cX9_eventAt 6 s (([.ref a_this, .int x1, .int x2, .int x3] : List Value)).toArray RX9 g A := F
  have hx := F.1.1
  have hb := F.1.2.1
  have hz := F.1.2.2.2.2
  have hl : lv_has ls 6 [(0, .ref a_this), (1, .int x1), (2, .int x2), (3, .int x3)] := hl
  unfold f_X9_eventAt at h
  refine lv_aload_n hx hb dX9_eventAt_0 rfl (lv_at hl 0 rfl) ?_
  refine lv_iload_n hx hb dX9_eventAt_1 rfl (lv_at hl 1 rfl) ?_
  refine lv_iload_n hx hb dX9_eventAt_2 rfl (lv_at hl 2 rfl) ?_
  refine z_subR h (fun h => ?_) (fun r1_ hr1_ h => ?_)
  · exact zXV F (kx_X9_requireVoice l N g a_this a_score a_history a_text a_sentence a_reader a_sounds a_playing a_score_cells v_score_size x1 x2 _ h hfl) hN zy_X9_requireVoice zw_554 hP hD hS [0, 1] [2] [1, 2, 0] (wr := [(a_score_cells, .inl (zI g, 912, .inl v_score_cells))]) (W1 := [zo_X9 a_this a_score a_history a_text a_sentence a_reader a_sounds a_playing, zo_X4 a_score a_score_cells v_score_size, (a_score_cells, .inl (zI g, 912, .inl v_score_cells))]) rfl rfl rfl rfl (by decide) rfl rfl (q0 := 0) (he := rfl) (hc := rfl) (rest := []) rfl hl.1 rfl (Nat.le_of_ble_eq_true rfl) ⟨rfl, rfl⟩ ⟨Nat.le_of_ble_eq_true rfl, Nat.le_of_ble_eq_true rfl⟩ ⟨Nat.le_of_ble_eq_true rfl, Nat.le_of_ble_eq_true rfl⟩ dX9_eventAt_3 htab hlocks hQ
  refine zRV F (k_X9_requireVoice l N g a_this a_score a_history a_text a_sentence a_reader a_sounds a_playing a_score_cells v_score_size x1 x2 _ hr1_) zy_X9_requireVoice zw_554 hP hD hS [0, 1] rfl rfl (q0 := 0) (he := rfl) (hc := rfl) (rest := []) rfl hl.1 rfl (Nat.le_of_ble_eq_true rfl) ⟨rfl, rfl⟩ ⟨Nat.le_of_ble_eq_true rfl, Nat.le_of_ble_eq_true rfl⟩ ⟨Nat.zero_le _, Nat.zero_le _⟩ dX9_eventAt_3 (st1 := []) rfl ?_
  refine lv_iload_n hx hb dX9_eventAt_6 rfl (lv_at hl 3 rfl) ?_
  refine z_subR h (fun h => ?_) (fun r2_ hr2_ h => ?_)
  · exact zXS F (kx_X9_requireNotNegative l N g x3 _ h hfl) hN zy_X9_requireNotNegative zw_601 hP hD hS [] [0, 1, 2] [0, 1, 2] (wr := [zo_X9 a_this a_score a_history a_text a_sentence a_reader a_sounds a_playing, zo_X4 a_score a_score_cells v_score_size, (a_score_cells, .inl (zI g, 912, .inl v_score_cells))]) (W1 := [zo_X9 a_this a_score a_history a_text a_sentence a_reader a_sounds a_playing, zo_X4 a_score a_score_cells v_score_size, (a_score_cells, .inl (zI g, 912, .inl v_score_cells))]) rfl rfl rfl rfl (by decide) rfl rfl (rest := []) rfl hl.1 rfl (Nat.le_of_ble_eq_true rfl) ⟨rfl, rfl⟩ ⟨Nat.le_of_ble_eq_true rfl, Nat.le_of_ble_eq_true rfl⟩ ⟨Nat.le_of_ble_eq_true rfl, Nat.le_of_ble_eq_true rfl⟩ dX9_eventAt_7 htab hlocks hQ
  refine zRS F (k_X9_requireNotNegative l N g x3 _ hr2_) zy_X9_requireNotNegative zw_601 hP hD hS [] rfl rfl (rest := []) rfl hl.1 rfl (Nat.le_of_ble_eq_true rfl) ⟨rfl, rfl⟩ ⟨Nat.le_of_ble_eq_true rfl, Nat.le_of_ble_eq_true rfl⟩ ⟨Nat.zero_le _, Nat.zero_le _⟩ dX9_eventAt_7 (st1 := []) rfl ?_
  refine lv_iconst (v := 0) hx hb dX9_eventAt_10 (by decide) ?_
  refine lv_istore (lv' := [(4, .int 0), (0, .ref a_this), (1, .int x1), (2, .int x2), (3, .int x3)]) hx hb dX9_eventAt_11 hl (by decide) rfl (fun ls hl => ?_)
  refine lv_iconst (v := 0) hx hb dX9_eventAt_13 (by decide) ?_
  refine lv_istore (lv' := [(5, .int 0), (4, .int 0), (0, .ref a_this), (1, .int x1), (2, .int x2), (3, .int x3)]) hx hb dX9_eventAt_14 hl (by decide) rfl (fun ls hl => ?_)
  have l16_ : ∀ (n16_ : Nat) (v16_ : Int32 × Int32), zLoop (f_X9_eventAt_B16 N v_score_size v_score_cells x1 x2 x3) n16_ v16_ = some (Sum.inr r) → ∀ (H : Heap) (locs : List Loc) (ls : Array Slot), va_P (zD g) vwCl [zo_X9 a_this a_score a_history a_text a_sentence a_reader a_sounds a_playing, zo_X4 a_score a_score_cells v_score_size, (a_score_cells, .inl (zI g, 912, .inl v_score_cells))] H → va_D A [zo_X9 a_this a_score a_history a_text a_sentence a_reader a_sounds a_playing, zo_X4 a_score a_score_cells v_score_size, (a_score_cells, .inl (zI g, 912, .inl v_score_cells))] → va_S A s.heap H locs → lv_has ls 6 [(0, .ref a_this), (1, .int x1), (2, .int x2), (3, .int x3), (4, .int v16_.1), (5, .int v16_.2)] → W p l e rx_X9_eventAt s m (([.ref a_this, .int x1, .int x2, .int x3] : List Value)).toArray below meth c H locs 0 0 Q (F0 m 16 ls []) := by
    intro n16_
    induction n16_ with
    | zero => intro v16_ h; cases h
    | succ n16_ ih16_ =>
      intro v16_ h H locs ls hP hD hS hl
      have h : f_X9_eventAt_B16 N v_score_size v_score_cells x1 x2 x3 (zLoop (f_X9_eventAt_B16 N v_score_size v_score_cells x1 x2 x3) n16_) v16_ = some (Sum.inr r) := h
      unfold f_X9_eventAt_B16 at h
      refine lv_iload hx hb dX9_eventAt_16 (lv_at hl 5 rfl) ?_
      refine lv_aload_n hx hb dX9_eventAt_18 rfl (lv_at hl 0 rfl) ?_
      refine z_get (C := RX9) (T := TX9) (N := 7) (ci := 7) F zu_wsX90 hP 0 rfl rfl 0 (by decide) zw_478 rfl dX9_eventAt_19 ?_
      refine lv_iload_n hx hb dX9_eventAt_22 rfl (lv_at hl 1 rfl) ?_
      refine lv_iload_n hx hb dX9_eventAt_23 rfl (lv_at hl 2 rfl) ?_
      obtain ⟨r3_, hr3_, h⟩ := z_bind h
      refine zRV F (k_X4_count l N g a_score a_score_cells v_score_size v_score_cells x1 x2 _ hr3_) zy_X4_count zw_552 hP hD hS [1, 2] rfl rfl (q0 := 1) (he := rfl) (hc := rfl) (rest := [.int v16_.2]) rfl hl.1 rfl (Nat.le_of_ble_eq_true rfl) ⟨rfl, rfl⟩ ⟨Nat.le_of_ble_eq_true rfl, Nat.le_of_ble_eq_true rfl⟩ ⟨Nat.zero_le _, Nat.zero_le _⟩ dX9_eventAt_24 (st1 := [.int r3_, .int v16_.2]) rfl ?_
      refine z_cge (tgt := 64) hx hb dX9_eventAt_27 (by decide) h (fun h => ?_) (fun h => ?_)
      · refine lv_sipush (v := (-1000)) hx hb dX9_eventAt_64 (by decide) ?_
        cases h
      · refine lv_iload hx hb dX9_eventAt_30 (lv_at hl 4 rfl) ?_
        refine lv_aload_n hx hb dX9_eventAt_32 rfl (lv_at hl 0 rfl) ?_
        refine z_get (C := RX9) (T := TX9) (N := 7) (ci := 7) F zu_wsX90 hP 0 rfl rfl 0 (by decide) zw_478 rfl dX9_eventAt_33 ?_
        refine lv_iload_n hx hb dX9_eventAt_36 rfl (lv_at hl 1 rfl) ?_
        refine lv_iload_n hx hb dX9_eventAt_37 rfl (lv_at hl 2 rfl) ?_
        refine lv_iload hx hb dX9_eventAt_38 (lv_at hl 5 rfl) ?_
        obtain ⟨r4_, hr4_, h⟩ := z_bind h
        refine zRV F (k_X4_code l N g a_score a_score_cells v_score_size v_score_cells x1 x2 v16_.2 _ hr4_) zy_X4_code zw_581 hP hD hS [1, 2] rfl rfl (q0 := 1) (he := rfl) (hc := rfl) (rest := [.int v16_.1]) rfl hl.1 rfl (Nat.le_of_ble_eq_true rfl) ⟨rfl, rfl⟩ ⟨Nat.le_of_ble_eq_true rfl, Nat.le_of_ble_eq_true rfl⟩ ⟨Nat.zero_le _, Nat.zero_le _⟩ dX9_eventAt_40 (st1 := [.int r4_, .int v16_.1]) rfl ?_
        obtain ⟨r5_, hr5_, h⟩ := z_bind h
        refine zRS F (k_X0_ticksOf l N g r4_ _ hr5_) zy_X0_ticksOf zw_593 hP hD hS [] rfl rfl (rest := [.int v16_.1]) rfl hl.1 rfl (Nat.le_of_ble_eq_true rfl) ⟨rfl, rfl⟩ ⟨Nat.le_of_ble_eq_true rfl, Nat.le_of_ble_eq_true rfl⟩ ⟨Nat.zero_le _, Nat.zero_le _⟩ dX9_eventAt_43 (st1 := [.int r5_, .int v16_.1]) rfl ?_
        refine lv_iadd hx hb dX9_eventAt_46 ?_
        refine z_top Value.int h (fun x6_ h => ?_)
        refine lv_istore (lv' := [(4, .int x6_), (0, .ref a_this), (1, .int x1), (2, .int x2), (3, .int x3), (5, .int v16_.2)]) hx hb dX9_eventAt_47 hl (by decide) rfl (fun ls hl => ?_)
        refine lv_iload_n hx hb dX9_eventAt_49 rfl (lv_at hl 4 rfl) ?_
        refine lv_iload hx hb dX9_eventAt_50 (lv_at hl 0 rfl) ?_
        refine z_cge (tgt := 58) hx hb dX9_eventAt_52 (by decide) h (fun h => ?_) (fun h => ?_)
        · refine z_nm h (fun x7_ ex7_ h => ?_)
          refine lv_iinc (v := x7_) (lv' := [(5, .int x7_), (4, .int x6_), (0, .ref a_this), (1, .int x1), (2, .int x2), (3, .int x3)]) hx hb dX9_eventAt_58 hl (k := 5) rfl (by rw [ex7_]; rfl) (by decide) rfl (fun ls hl => ?_)
          refine lv_goto (tgt := 16) hx hb dX9_eventAt_61 (by decide) ?_
          exact ih16_ _ h _ _ _ hP hD hS (lv_sub hl [2, 3, 4, 5, 1, 0] rfl)
        · refine lv_iload hx hb dX9_eventAt_55 (lv_at hl 5 rfl) ?_
          cases h
  exact l16_ N _ h _ _ _ hP hD hS (lv_sub hl [2, 3, 4, 5, 1, 0] rfl)
def f_X9_crossings (N : Nat) (v_score_size : Int32) (v_score_cells : Nat → Int32) (v_sounds_shifts : Nat → Int32) (x1 : Int32) : Option (Int32 ⊕ Nat) :=
  zSub (f_X9_requireMeasure N v_score_size x1) (fun (r1_ : Unit) => Option.bind (f_X6_crossedTicks N v_score_size v_sounds_shifts v_score_cells x1) (fun (r2_ : Int32) => some (Sum.inl r2_)))
abbrev rm_X9_crossings : Room := { frames := 7, cells := 0, slots := 0, locals := 129 }
theorem zy_X9_crossings : zYv yX9_crossings RX9 cX9_crossings 2 (some .int) 1 := ⟨zw_721, zw_722, zw_527, zw_607, ⟨by decide, by decide⟩, by decide +kernel⟩
set_option maxHeartbeats 4000000 in
set_option maxRecDepth 100000 in
theorem k_X9_crossings (l : Launch) (N : Nat) (g : zEnv) (a_this a_score a_history a_text a_sentence a_reader a_sounds a_playing a_score_cells a_sounds_shifts a_sounds_heldTicks : Nat) (v_score_size : Int32) (v_score_cells : Nat → Int32) (v_sounds_shifts : Nat → Int32) (x1 : Int32) (r : Int32) (h : f_X9_crossings N v_score_size v_score_cells v_sounds_shifts x1 = some (Sum.inl r)) : ZR l yX9_crossings cX9_crossings 2 (some .int) rm_X9_crossings g [.ref a_this, .int x1] [zo_X9 a_this a_score a_history a_text a_sentence a_reader a_sounds a_playing, zo_X4 a_score a_score_cells v_score_size, zo_X6 a_sounds a_score a_sounds_shifts a_sounds_heldTicks, (a_score_cells, .inl (zI g, 912, .inl v_score_cells)), (a_sounds_shifts, .inl (zI g, 768, .inl v_sounds_shifts))] (some (.int r)) := by
  refine zR_of (by decide) (Nat.le_of_ble_eq_true rfl) ?_
  intro p e s m below meth c A ls Q R F hRm hr hlocks hP hD hS hl hQ
  subst hRm
  have F : zF p m c cX9_crossings 2 s (([.ref a_this, .int x1] : List Value)).toArray RX9 g A := F
  have hx := F.1.1
  have hb := F.1.2.1
  have hz := F.1.2.2.2.2
  have hl : lv_has ls 2 [(0, .ref a_this), (1, .int x1)] := hl
  unfold f_X9_crossings at h
  refine lv_aload_n hx hb dX9_crossings_0 rfl (lv_at hl 0 rfl) ?_
  refine lv_iload_n hx hb dX9_crossings_1 rfl (lv_at hl 1 rfl) ?_
  obtain ⟨r1_, hr1_, h⟩ := z_subL h
  refine zRV F (k_X9_requireMeasure l N g a_this a_score a_history a_text a_sentence a_reader a_sounds a_playing a_score_cells v_score_size x1 _ hr1_) zy_X9_requireMeasure zw_534 hP hD hS [0, 1] rfl rfl (q0 := 0) (he := rfl) (hc := rfl) (rest := []) rfl hl.1 rfl (Nat.le_of_ble_eq_true rfl) ⟨rfl, rfl⟩ ⟨Nat.le_of_ble_eq_true rfl, Nat.le_of_ble_eq_true rfl⟩ ⟨Nat.zero_le _, Nat.zero_le _⟩ dX9_crossings_2 (st1 := []) rfl ?_
  refine lv_aload_n hx hb dX9_crossings_5 rfl (lv_at hl 0 rfl) ?_
  refine z_get (C := RX9) (T := TX9) (N := 7) (ci := 7) F zu_wsX90 hP 0 rfl rfl 5 (by decide) zw_493 rfl dX9_crossings_6 ?_
  refine lv_iload_n hx hb dX9_crossings_9 rfl (lv_at hl 1 rfl) ?_
  obtain ⟨r2_, hr2_, h⟩ := z_bind h
  refine zRV F (k_X6_crossedTicks l N g a_sounds a_score a_sounds_shifts a_sounds_heldTicks a_score_cells v_score_size v_sounds_shifts v_score_cells x1 _ hr2_) zy_X6_crossedTicks zw_604 hP hD hS [2, 1, 4, 3] rfl rfl (q0 := 2) (he := rfl) (hc := rfl) (rest := []) rfl hl.1 rfl (Nat.le_of_ble_eq_true rfl) ⟨rfl, rfl⟩ ⟨Nat.le_of_ble_eq_true rfl, Nat.le_of_ble_eq_true rfl⟩ ⟨Nat.zero_le _, Nat.zero_le _⟩ dX9_crossings_10 (st1 := [.int r2_]) rfl ?_
  obtain rfl := Sum.inl.inj (Option.some.inj h)
  exact zR_i F hr hlocks hQ dX9_crossings_13
abbrev rx_X9_crossings : Room := { frames := 7, cells := 1, slots := 6, locals := 129 }
set_option maxHeartbeats 4000000 in
set_option maxRecDepth 100000 in
theorem kx_X9_crossings (l : Launch) (N : Nat) (g : zEnv) (a_this a_score a_history a_text a_sentence a_reader a_sounds a_playing a_score_cells a_sounds_shifts a_sounds_heldTicks : Nat) (v_score_size : Int32) (v_score_cells : Nat → Int32) (v_sounds_shifts : Nat → Int32) (x1 : Int32) (r : Nat) (h : f_X9_crossings N v_score_size v_score_cells v_sounds_shifts x1 = some (Sum.inr r)) (hfl : l.stackTraces = false) : ZE l yX9_crossings cX9_crossings 2 (some .int) rx_X9_crossings g [.ref a_this, .int x1] [zo_X9 a_this a_score a_history a_text a_sentence a_reader a_sounds a_playing, zo_X4 a_score a_score_cells v_score_size, zo_X6 a_sounds a_score a_sounds_shifts a_sounds_heldTicks, (a_score_cells, .inl (zI g, 912, .inl v_score_cells)), (a_sounds_shifts, .inl (zI g, 768, .inl v_sounds_shifts))] [zo_X9 a_this a_score a_history a_text a_sentence a_reader a_sounds a_playing, zo_X4 a_score a_score_cells v_score_size, zo_X6 a_sounds a_score a_sounds_shifts a_sounds_heldTicks, (a_score_cells, .inl (zI g, 912, .inl v_score_cells)), (a_sounds_shifts, .inl (zI g, 768, .inl v_sounds_shifts))] r := by
  refine zE_of (by decide) (Nat.le_of_ble_eq_true rfl) ?_
  intro p e s m below meth c A H locs ls Q R F hRm hlocks hN htab hP hD hS hl hQ
  subst hRm
  have F : zF p m c cX9_crossings 2 s (([.ref a_this, .int x1] : List Value)).toArray RX9 g A := F
  have hx := F.1.1
  have hb := F.1.2.1
  have hz := F.1.2.2.2.2
  have hl : lv_has ls 2 [(0, .ref a_this), (1, .int x1)] := hl
  unfold f_X9_crossings at h
  refine lv_aload_n hx hb dX9_crossings_0 rfl (lv_at hl 0 rfl) ?_
  refine lv_iload_n hx hb dX9_crossings_1 rfl (lv_at hl 1 rfl) ?_
  refine z_subR h (fun h => ?_) (fun r1_ hr1_ h => ?_)
  · exact zXV F (kx_X9_requireMeasure l N g a_this a_score a_history a_text a_sentence a_reader a_sounds a_playing a_score_cells v_score_size x1 _ h hfl) hN zy_X9_requireMeasure zw_534 hP hD hS [0, 1] [2, 3, 4] [3, 4, 0, 1, 2] (wr := [zo_X6 a_sounds a_score a_sounds_shifts a_sounds_heldTicks, (a_score_cells, .inl (zI g, 912, .inl v_score_cells)), (a_sounds_shifts, .inl (zI g, 768, .inl v_sounds_shifts))]) (W1 := [zo_X9 a_this a_score a_history a_text a_sentence a_reader a_sounds a_playing, zo_X4 a_score a_score_cells v_score_size, zo_X6 a_sounds a_score a_sounds_shifts a_sounds_heldTicks, (a_score_cells, .inl (zI g, 912, .inl v_score_cells)), (a_sounds_shifts, .inl (zI g, 768, .inl v_sounds_shifts))]) rfl rfl rfl rfl (by decide) rfl rfl (q0 := 0) (he := rfl) (hc := rfl) (rest := []) rfl hl.1 rfl (Nat.le_of_ble_eq_true rfl) ⟨rfl, rfl⟩ ⟨Nat.le_of_ble_eq_true rfl, Nat.le_of_ble_eq_true rfl⟩ ⟨Nat.le_of_ble_eq_true rfl, Nat.le_of_ble_eq_true rfl⟩ dX9_crossings_2 htab hlocks hQ
  refine zRV F (k_X9_requireMeasure l N g a_this a_score a_history a_text a_sentence a_reader a_sounds a_playing a_score_cells v_score_size x1 _ hr1_) zy_X9_requireMeasure zw_534 hP hD hS [0, 1] rfl rfl (q0 := 0) (he := rfl) (hc := rfl) (rest := []) rfl hl.1 rfl (Nat.le_of_ble_eq_true rfl) ⟨rfl, rfl⟩ ⟨Nat.le_of_ble_eq_true rfl, Nat.le_of_ble_eq_true rfl⟩ ⟨Nat.zero_le _, Nat.zero_le _⟩ dX9_crossings_2 (st1 := []) rfl ?_
  refine lv_aload_n hx hb dX9_crossings_5 rfl (lv_at hl 0 rfl) ?_
  refine z_get (C := RX9) (T := TX9) (N := 7) (ci := 7) F zu_wsX90 hP 0 rfl rfl 5 (by decide) zw_493 rfl dX9_crossings_6 ?_
  refine lv_iload_n hx hb dX9_crossings_9 rfl (lv_at hl 1 rfl) ?_
  obtain ⟨r2_, hr2_, h⟩ := z_bind h
  refine zRV F (k_X6_crossedTicks l N g a_sounds a_score a_sounds_shifts a_sounds_heldTicks a_score_cells v_score_size v_sounds_shifts v_score_cells x1 _ hr2_) zy_X6_crossedTicks zw_604 hP hD hS [2, 1, 4, 3] rfl rfl (q0 := 2) (he := rfl) (hc := rfl) (rest := []) rfl hl.1 rfl (Nat.le_of_ble_eq_true rfl) ⟨rfl, rfl⟩ ⟨Nat.le_of_ble_eq_true rfl, Nat.le_of_ble_eq_true rfl⟩ ⟨Nat.zero_le _, Nat.zero_le _⟩ dX9_crossings_10 (st1 := [.int r2_]) rfl ?_
  cases h
def f_X9_isOfKind (N : Nat) (v_score_size : Int32) (v_score_cells : Nat → Int32) (v_sounds_heldTicks : Nat → Int32) (x1 : Int32) (x2 : Int32) (x3 : Int32) (x4 : Int32) : Option Int32 :=
  Option.bind (f_X4_code N v_score_size v_score_cells x1 x2 x3) (fun (r1_ : Int32) => if x4 = 1 then some 1 else if x4 = 2 then Option.bind (f_X0_isNote N r1_) (fun (r2_ : Int32) => Option.bind (zNar .boolean r2_) (fun (x3_ : Int32) => some r2_)) else if x4 = 3 then Option.bind (f_X0_isTied N r1_) (fun (r4_ : Int32) => Option.bind (zNar .boolean r4_) (fun (x5_ : Int32) => some r4_)) else Option.bind (f_X6_isBrokenTie N v_sounds_heldTicks v_score_size v_score_cells x1 x2 x3) (fun (r6_ : Int32) => Option.bind (zNar .boolean r6_) (fun (x7_ : Int32) => some r6_)))
abbrev rm_X9_isOfKind : Room := { frames := 3, cells := 0, slots := 0, locals := 71 }
theorem zy_X9_isOfKind : zYv yX9_isOfKind RX9 cX9_isOfKind 6 (some .boolean) 4 := ⟨zw_610, zw_611, zw_527, zw_608, ⟨by decide, by decide⟩, by decide +kernel⟩
set_option maxHeartbeats 4000000 in
set_option maxRecDepth 100000 in
theorem k_X9_isOfKind (l : Launch) (N : Nat) (g : zEnv) (a_this a_score a_history a_text a_sentence a_reader a_sounds a_playing a_score_cells a_sounds_shifts a_sounds_heldTicks : Nat) (v_score_size : Int32) (v_score_cells : Nat → Int32) (v_sounds_heldTicks : Nat → Int32) (x1 : Int32) (x2 : Int32) (x3 : Int32) (x4 : Int32) (r : Int32) (h : f_X9_isOfKind N v_score_size v_score_cells v_sounds_heldTicks x1 x2 x3 x4 = some r) : ZR l yX9_isOfKind cX9_isOfKind 6 (some .boolean) rm_X9_isOfKind g [.ref a_this, .int x1, .int x2, .int x3, .int x4] [zo_X9 a_this a_score a_history a_text a_sentence a_reader a_sounds a_playing, zo_X4 a_score a_score_cells v_score_size, zo_X6 a_sounds a_score a_sounds_shifts a_sounds_heldTicks, (a_score_cells, .inl (zI g, 912, .inl v_score_cells)), (a_sounds_heldTicks, .inl (zI g, 768, .inl v_sounds_heldTicks))] (some (.int r)) := by
  refine zR_of (by decide) (Nat.le_of_ble_eq_true rfl) ?_
  intro p e s m below meth c A ls Q R F hRm hr hlocks hP hD hS hl hQ
  subst hRm
  have F : zF p m c cX9_isOfKind 6 s (([.ref a_this, .int x1, .int x2, .int x3, .int x4] : List Value)).toArray RX9 g A := F
  have hx := F.1.1
  have hb := F.1.2.1
  have hz := F.1.2.2.2.2
  have hl : lv_has ls 6 [(0, .ref a_this), (1, .int x1), (2, .int x2), (3, .int x3), (4, .int x4)] := hl
  unfold f_X9_isOfKind at h
  refine lv_aload_n hx hb dX9_isOfKind_0 rfl (lv_at hl 0 rfl) ?_
  refine z_get (C := RX9) (T := TX9) (N := 7) (ci := 7) F zu_wsX90 hP 0 rfl rfl 0 (by decide) zw_478 rfl dX9_isOfKind_1 ?_
  refine lv_iload_n hx hb dX9_isOfKind_4 rfl (lv_at hl 1 rfl) ?_
  refine lv_iload_n hx hb dX9_isOfKind_5 rfl (lv_at hl 2 rfl) ?_
  refine lv_iload_n hx hb dX9_isOfKind_6 rfl (lv_at hl 3 rfl) ?_
  obtain ⟨r1_, hr1_, h⟩ := z_bind h
  refine zRV F (k_X4_code l N g a_score a_score_cells v_score_size v_score_cells x1 x2 x3 _ hr1_) zy_X4_code zw_581 hP hD hS [1, 3] rfl rfl (q0 := 1) (he := rfl) (hc := rfl) (rest := []) rfl hl.1 rfl (Nat.le_of_ble_eq_true rfl) ⟨rfl, rfl⟩ ⟨Nat.le_of_ble_eq_true rfl, Nat.le_of_ble_eq_true rfl⟩ ⟨Nat.zero_le _, Nat.zero_le _⟩ dX9_isOfKind_7 (st1 := [.int r1_]) rfl ?_
  refine lv_istore (lv' := [(5, .int r1_), (0, .ref a_this), (1, .int x1), (2, .int x2), (3, .int x3), (4, .int x4)]) hx hb dX9_isOfKind_10 hl (by decide) rfl (fun ls hl => ?_)
  refine lv_iload hx hb dX9_isOfKind_12 (lv_at hl 5 rfl) ?_
  by_cases c14_1_ : x4 = 1
  · rw [if_pos c14_1_] at h
    refine lv_tableIn (tgt := 40) hx hb dX9_isOfKind_14 (by rw [c14_1_]; decide) (by rw [c14_1_]; decide) (by rw [c14_1_]; rfl) (by decide) ?_
    refine lv_iconst (v := 1) hx hb dX9_isOfKind_40 (by decide) ?_
    obtain rfl := Option.some.inj h
    exact zR_n F hr hlocks hQ rfl dX9_isOfKind_41
  rw [if_neg c14_1_] at h
  by_cases c14_2_ : x4 = 2
  · rw [if_pos c14_2_] at h
    refine lv_tableIn (tgt := 42) hx hb dX9_isOfKind_14 (by rw [c14_2_]; decide) (by rw [c14_2_]; decide) (by rw [c14_2_]; rfl) (by decide) ?_
    refine lv_iload hx hb dX9_isOfKind_42 (lv_at hl 0 rfl) ?_
    obtain ⟨r2_, hr2_, h⟩ := z_bind h
    refine zRS F (k_X0_isNote l N g r1_ _ hr2_) zy_X0_isNote zw_595 hP hD hS [] rfl rfl (rest := []) rfl hl.1 rfl (Nat.le_of_ble_eq_true rfl) ⟨rfl, rfl⟩ ⟨Nat.le_of_ble_eq_true rfl, Nat.le_of_ble_eq_true rfl⟩ ⟨Nat.zero_le _, Nat.zero_le _⟩ dX9_isOfKind_44 (st1 := [.int r2_]) rfl ?_
    obtain ⟨x3_, hnx3_, h⟩ := z_bind h
    have hnx3_ := zNar_spec hnx3_
    obtain rfl := Option.some.inj h
    exact zR_n F hr hlocks hQ hnx3_ dX9_isOfKind_47
  rw [if_neg c14_2_] at h
  by_cases c14_3_ : x4 = 3
  · rw [if_pos c14_3_] at h
    refine lv_tableIn (tgt := 48) hx hb dX9_isOfKind_14 (by rw [c14_3_]; decide) (by rw [c14_3_]; decide) (by rw [c14_3_]; rfl) (by decide) ?_
    refine lv_iload hx hb dX9_isOfKind_48 (lv_at hl 0 rfl) ?_
    obtain ⟨r4_, hr4_, h⟩ := z_bind h
    refine zRS F (k_X0_isTied l N g r1_ _ hr4_) zy_X0_isTied zw_584 hP hD hS [] rfl rfl (rest := []) rfl hl.1 rfl (Nat.le_of_ble_eq_true rfl) ⟨rfl, rfl⟩ ⟨Nat.le_of_ble_eq_true rfl, Nat.le_of_ble_eq_true rfl⟩ ⟨Nat.zero_le _, Nat.zero_le _⟩ dX9_isOfKind_50 (st1 := [.int r4_]) rfl ?_
    obtain ⟨x5_, hnx5_, h⟩ := z_bind h
    have hnx5_ := zNar_spec hnx5_
    obtain rfl := Option.some.inj h
    exact zR_n F hr hlocks hQ hnx5_ dX9_isOfKind_53
  rw [if_neg c14_3_] at h
  have kd14_ : W p l e rm_X9_isOfKind s m (([.ref a_this, .int x1, .int x2, .int x3, .int x4] : List Value)).toArray below meth c s.heap [] 0 0 Q (F0 m 54 ls []) := by
    refine lv_aload_n hx hb dX9_isOfKind_54 rfl (lv_at hl 1 rfl) ?_
    refine z_get (C := RX9) (T := TX9) (N := 7) (ci := 7) F zu_wsX90 hP 0 rfl rfl 5 (by decide) zw_493 rfl dX9_isOfKind_55 ?_
    refine lv_iload_n hx hb dX9_isOfKind_58 rfl (lv_at hl 2 rfl) ?_
    refine lv_iload_n hx hb dX9_isOfKind_59 rfl (lv_at hl 3 rfl) ?_
    refine lv_iload_n hx hb dX9_isOfKind_60 rfl (lv_at hl 4 rfl) ?_
    obtain ⟨r6_, hr6_, h⟩ := z_bind h
    refine zRV F (k_X6_isBrokenTie l N g a_sounds a_score a_sounds_shifts a_sounds_heldTicks a_score_cells v_sounds_heldTicks v_score_size v_score_cells x1 x2 x3 _ hr6_) zy_X6_isBrokenTie zw_588 hP hD hS [2, 4, 1, 3] rfl rfl (q0 := 2) (he := rfl) (hc := rfl) (rest := []) rfl hl.1 rfl (Nat.le_of_ble_eq_true rfl) ⟨rfl, rfl⟩ ⟨Nat.le_of_ble_eq_true rfl, Nat.le_of_ble_eq_true rfl⟩ ⟨Nat.zero_le _, Nat.zero_le _⟩ dX9_isOfKind_61 (st1 := [.int r6_]) rfl ?_
    obtain ⟨x7_, hnx7_, h⟩ := z_bind h
    have hnx7_ := zNar_spec hnx7_
    obtain rfl := Option.some.inj h
    exact zR_n F hr hlocks hQ hnx7_ dX9_isOfKind_64
  exact lv_tableOut (tgt := 54) hx hb dX9_isOfKind_14 (z_sw 1 3 x4 (fun j hj => match j, hj with | 0, _ => c14_1_ | 1, _ => c14_2_ | 2, _ => c14_3_ | j + 3, hj => absurd hj (by omega))) (by decide) kd14_
def f_X9_eventsOfKind_B27 (N : Nat) (v_score_size : Int32) (v_score_cells : Nat → Int32) (v4_ : Int32 × Int32) (v18_ : Int32 × Int32) (v_sounds_heldTicks : Nat → Int32) (x1 : Int32) (kh27_ : Int32 × Int32 → Option Int32) (v27_ : Int32 × Int32) : Option Int32 :=
  Option.bind (f_X4_count N v_score_size v_score_cells v4_.2 v18_.2) (fun (r7_ : Int32) => if v27_.2 < r7_ then Option.bind (f_X9_isOfKind N v_score_size v_score_cells v_sounds_heldTicks v4_.2 v18_.2 v27_.2 x1) (fun (r8_ : Int32) => Option.bind (if r8_ = 0 then some 0 else some 1) (fun (r9_ : Int32) => Option.bind (some (v27_.1 + r9_)) (fun (x10_ : Int32) => Option.bind (some (v27_.2 + 1)) (fun (x11_ : Int32) => kh27_ (x10_, x11_))))) else some v27_.1)
def f_X9_eventsOfKind_B18 (N : Nat) (v_score_size : Int32) (v_score_cells : Nat → Int32) (v4_ : Int32 × Int32) (v_sounds_heldTicks : Nat → Int32) (x1 : Int32) (kh18_ : Int32 × Int32 → Option Int32) (v18_ : Int32 × Int32) : Option Int32 :=
  if v18_.2 < 2 then Option.bind (zLoop (f_X9_eventsOfKind_B27 N v_score_size v_score_cells v4_ v18_ v_sounds_heldTicks x1) N (v18_.1, 0)) (fun (r5_ : Int32) => Option.bind (some (v18_.2 + 1)) (fun (x6_ : Int32) => kh18_ (r5_, x6_))) else some v18_.1
def f_X9_eventsOfKind_B4 (N : Nat) (v_score_size : Int32) (v_score_cells : Nat → Int32) (v_sounds_heldTicks : Nat → Int32) (x1 : Int32) (kh4_ : Int32 × Int32 → Option Int32) (v4_ : Int32 × Int32) : Option Int32 :=
  Option.bind (f_X4_size N v_score_size) (fun (r2_ : Int32) => if v4_.2 < r2_ then Option.bind (zLoop (f_X9_eventsOfKind_B18 N v_score_size v_score_cells v4_ v_sounds_heldTicks x1) N (v4_.1, 0)) (fun (r3_ : Int32) => Option.bind (some (v4_.2 + 1)) (fun (x4_ : Int32) => kh4_ (r3_, x4_))) else some v4_.1)
def f_X9_eventsOfKind (N : Nat) (v_score_size : Int32) (v_score_cells : Nat → Int32) (v_sounds_heldTicks : Nat → Int32) (x1 : Int32) : Option Int32 :=
  Option.bind (zLoop (f_X9_eventsOfKind_B4 N v_score_size v_score_cells v_sounds_heldTicks x1) N (0, 0)) (fun (r1_ : Int32) => some r1_)
abbrev rm_X9_eventsOfKind : Room := { frames := 4, cells := 0, slots := 0, locals := 96 }
theorem zy_X9_eventsOfKind : zYv yX9_eventsOfKind RX9 cX9_eventsOfKind 6 (some .int) 1 := ⟨zw_624, zw_625, zw_527, zw_612, ⟨by decide, by decide⟩, by decide +kernel⟩
set_option maxHeartbeats 4000000 in
set_option maxRecDepth 100000 in
theorem k_X9_eventsOfKind (l : Launch) (N : Nat) (g : zEnv) (a_this a_score a_history a_text a_sentence a_reader a_sounds a_playing a_score_cells a_sounds_shifts a_sounds_heldTicks : Nat) (v_score_size : Int32) (v_score_cells : Nat → Int32) (v_sounds_heldTicks : Nat → Int32) (x1 : Int32) (r : Int32) (h : f_X9_eventsOfKind N v_score_size v_score_cells v_sounds_heldTicks x1 = some r) : ZR l yX9_eventsOfKind cX9_eventsOfKind 6 (some .int) rm_X9_eventsOfKind g [.ref a_this, .int x1] [zo_X9 a_this a_score a_history a_text a_sentence a_reader a_sounds a_playing, zo_X4 a_score a_score_cells v_score_size, zo_X6 a_sounds a_score a_sounds_shifts a_sounds_heldTicks, (a_score_cells, .inl (zI g, 912, .inl v_score_cells)), (a_sounds_heldTicks, .inl (zI g, 768, .inl v_sounds_heldTicks))] (some (.int r)) := by
  refine zR_of (by decide) (Nat.le_of_ble_eq_true rfl) ?_
  intro p e s m below meth c A ls Q R F hRm hr hlocks hP hD hS hl hQ
  subst hRm
  have F : zF p m c cX9_eventsOfKind 6 s (([.ref a_this, .int x1] : List Value)).toArray RX9 g A := F
  have hx := F.1.1
  have hb := F.1.2.1
  have hz := F.1.2.2.2.2
  have hl : lv_has ls 6 [(0, .ref a_this), (1, .int x1)] := hl
  unfold f_X9_eventsOfKind at h
  refine lv_iconst (v := 0) hx hb dX9_eventsOfKind_0 (by decide) ?_
  refine lv_istore_n (lv' := [(2, .int 0), (0, .ref a_this), (1, .int x1)]) hx hb dX9_eventsOfKind_1 rfl hl (by decide) rfl (fun ls hl => ?_)
  refine lv_iconst (v := 0) hx hb dX9_eventsOfKind_2 (by decide) ?_
  refine lv_istore_n (lv' := [(3, .int 0), (2, .int 0), (0, .ref a_this), (1, .int x1)]) hx hb dX9_eventsOfKind_3 rfl hl (by decide) rfl (fun ls hl => ?_)
  obtain ⟨r1_, hA4_, h⟩ := z_bind h
  have k81_ : ∀ (ls : Array Slot), lv_has ls 6 [(2, .int r1_)] → W p l e rm_X9_eventsOfKind s m (([.ref a_this, .int x1] : List Value)).toArray below meth c s.heap [] 0 0 Q (F0 m 81 ls []) := by
    intro ls hl
    refine lv_iload_n hx hb dX9_eventsOfKind_81 rfl (lv_at hl 0 rfl) ?_
    obtain rfl := Option.some.inj h
    exact zR_i F hr hlocks hQ dX9_eventsOfKind_82
  have h := hA4_
  have l4_ : ∀ (n4_ : Nat) (v4_ : Int32 × Int32), zLoop (f_X9_eventsOfKind_B4 N v_score_size v_score_cells v_sounds_heldTicks x1) n4_ v4_ = some r1_ → ∀ (ls : Array Slot), lv_has ls 6 [(0, .ref a_this), (1, .int x1), (2, .int v4_.1), (3, .int v4_.2)] → W p l e rm_X9_eventsOfKind s m (([.ref a_this, .int x1] : List Value)).toArray below meth c s.heap [] 0 0 Q (F0 m 4 ls []) := by
    intro n4_
    induction n4_ with
    | zero => intro v4_ h; cases h
    | succ n4_ ih4_ =>
      intro v4_ h ls hl
      have h : f_X9_eventsOfKind_B4 N v_score_size v_score_cells v_sounds_heldTicks x1 (zLoop (f_X9_eventsOfKind_B4 N v_score_size v_score_cells v_sounds_heldTicks x1) n4_) v4_ = some r1_ := h
      unfold f_X9_eventsOfKind_B4 at h
      refine lv_iload_n hx hb dX9_eventsOfKind_4 rfl (lv_at hl 3 rfl) ?_
      refine lv_aload_n hx hb dX9_eventsOfKind_5 rfl (lv_at hl 0 rfl) ?_
      refine z_get (C := RX9) (T := TX9) (N := 7) (ci := 7) F zu_wsX90 hP 0 rfl rfl 0 (by decide) zw_478 rfl dX9_eventsOfKind_6 ?_
      obtain ⟨r2_, hr2_, h⟩ := z_bind h
      refine zRV F (k_X4_size l N g a_score a_score_cells v_score_size _ hr2_) zy_X4_size zw_528 hP hD hS [1] rfl rfl (q0 := 1) (he := rfl) (hc := rfl) (rest := [.int v4_.2]) rfl hl.1 rfl (Nat.le_of_ble_eq_true rfl) ⟨rfl, rfl⟩ ⟨Nat.le_of_ble_eq_true rfl, Nat.le_of_ble_eq_true rfl⟩ ⟨Nat.zero_le _, Nat.zero_le _⟩ dX9_eventsOfKind_9 (st1 := [.int r2_, .int v4_.2]) rfl ?_
      refine z_cge (tgt := 81) hx hb dX9_eventsOfKind_12 (by decide) h (fun h => ?_) (fun h => ?_)
      · obtain rfl := Option.some.inj h
        exact k81_ _ (lv_sub hl [2] rfl)
      · refine lv_iconst (v := 0) hx hb dX9_eventsOfKind_15 (by decide) ?_
        refine lv_istore (lv' := [(4, .int 0), (0, .ref a_this), (1, .int x1), (2, .int v4_.1), (3, .int v4_.2)]) hx hb dX9_eventsOfKind_16 hl (by decide) rfl (fun ls hl => ?_)
        obtain ⟨r3_, hA18_, h⟩ := z_bind h
        have k75_ : ∀ (ls : Array Slot), lv_has ls 6 [(0, .ref a_this), (1, .int x1), (2, .int r3_), (3, .int v4_.2)] → W p l e rm_X9_eventsOfKind s m (([.ref a_this, .int x1] : List Value)).toArray below meth c s.heap [] 0 0 Q (F0 m 75 ls []) := by
          intro ls hl
          refine z_nm h (fun x4_ ex4_ h => ?_)
          refine lv_iinc (v := x4_) (lv' := [(3, .int x4_), (0, .ref a_this), (1, .int x1), (2, .int r3_)]) hx hb dX9_eventsOfKind_75 hl (k := 3) rfl (by rw [ex4_]; rfl) (by decide) rfl (fun ls hl => ?_)
          refine lv_goto (tgt := 4) hx hb dX9_eventsOfKind_78 (by decide) ?_
          exact ih4_ _ h _ (lv_sub hl [1, 2, 3, 0] rfl)
        have h := hA18_
        have l18_ : ∀ (n18_ : Nat) (v18_ : Int32 × Int32), zLoop (f_X9_eventsOfKind_B18 N v_score_size v_score_cells v4_ v_sounds_heldTicks x1) n18_ v18_ = some r3_ → ∀ (ls : Array Slot), lv_has ls 6 [(0, .ref a_this), (1, .int x1), (2, .int v18_.1), (3, .int v4_.2), (4, .int v18_.2)] → W p l e rm_X9_eventsOfKind s m (([.ref a_this, .int x1] : List Value)).toArray below meth c s.heap [] 0 0 Q (F0 m 18 ls []) := by
          intro n18_
          induction n18_ with
          | zero => intro v18_ h; cases h
          | succ n18_ ih18_ =>
            intro v18_ h ls hl
            have h : f_X9_eventsOfKind_B18 N v_score_size v_score_cells v4_ v_sounds_heldTicks x1 (zLoop (f_X9_eventsOfKind_B18 N v_score_size v_score_cells v4_ v_sounds_heldTicks x1) n18_) v18_ = some r3_ := h
            unfold f_X9_eventsOfKind_B18 at h
            refine lv_iload hx hb dX9_eventsOfKind_18 (lv_at hl 4 rfl) ?_
            refine lv_iconst (v := 2) hx hb dX9_eventsOfKind_20 (by decide) ?_
            refine z_cge (tgt := 75) hx hb dX9_eventsOfKind_21 (by decide) h (fun h => ?_) (fun h => ?_)
            · obtain rfl := Option.some.inj h
              exact k75_ _ (lv_sub hl [0, 1, 2, 3] rfl)
            · refine lv_iconst (v := 0) hx hb dX9_eventsOfKind_24 (by decide) ?_
              refine lv_istore (lv' := [(5, .int 0), (0, .ref a_this), (1, .int x1), (2, .int v18_.1), (3, .int v4_.2), (4, .int v18_.2)]) hx hb dX9_eventsOfKind_25 hl (by decide) rfl (fun ls hl => ?_)
              obtain ⟨r5_, hA27_, h⟩ := z_bind h
              have k69_ : ∀ (ls : Array Slot), lv_has ls 6 [(0, .ref a_this), (1, .int x1), (2, .int r5_), (3, .int v4_.2), (4, .int v18_.2)] → W p l e rm_X9_eventsOfKind s m (([.ref a_this, .int x1] : List Value)).toArray below meth c s.heap [] 0 0 Q (F0 m 69 ls []) := by
                intro ls hl
                refine z_nm h (fun x6_ ex6_ h => ?_)
                refine lv_iinc (v := x6_) (lv' := [(4, .int x6_), (0, .ref a_this), (1, .int x1), (2, .int r5_), (3, .int v4_.2)]) hx hb dX9_eventsOfKind_69 hl (k := 4) rfl (by rw [ex6_]; rfl) (by decide) rfl (fun ls hl => ?_)
                refine lv_goto (tgt := 18) hx hb dX9_eventsOfKind_72 (by decide) ?_
                exact ih18_ _ h _ (lv_sub hl [1, 2, 3, 4, 0] rfl)
              have h := hA27_
              have l27_ : ∀ (n27_ : Nat) (v27_ : Int32 × Int32), zLoop (f_X9_eventsOfKind_B27 N v_score_size v_score_cells v4_ v18_ v_sounds_heldTicks x1) n27_ v27_ = some r5_ → ∀ (ls : Array Slot), lv_has ls 6 [(0, .ref a_this), (1, .int x1), (2, .int v27_.1), (3, .int v4_.2), (4, .int v18_.2), (5, .int v27_.2)] → W p l e rm_X9_eventsOfKind s m (([.ref a_this, .int x1] : List Value)).toArray below meth c s.heap [] 0 0 Q (F0 m 27 ls []) := by
                intro n27_
                induction n27_ with
                | zero => intro v27_ h; cases h
                | succ n27_ ih27_ =>
                  intro v27_ h ls hl
                  have h : f_X9_eventsOfKind_B27 N v_score_size v_score_cells v4_ v18_ v_sounds_heldTicks x1 (zLoop (f_X9_eventsOfKind_B27 N v_score_size v_score_cells v4_ v18_ v_sounds_heldTicks x1) n27_) v27_ = some r5_ := h
                  unfold f_X9_eventsOfKind_B27 at h
                  refine lv_iload hx hb dX9_eventsOfKind_27 (lv_at hl 5 rfl) ?_
                  refine lv_aload_n hx hb dX9_eventsOfKind_29 rfl (lv_at hl 0 rfl) ?_
                  refine z_get (C := RX9) (T := TX9) (N := 7) (ci := 7) F zu_wsX90 hP 0 rfl rfl 0 (by decide) zw_478 rfl dX9_eventsOfKind_30 ?_
                  refine lv_iload_n hx hb dX9_eventsOfKind_33 rfl (lv_at hl 3 rfl) ?_
                  refine lv_iload hx hb dX9_eventsOfKind_34 (lv_at hl 4 rfl) ?_
                  obtain ⟨r7_, hr7_, h⟩ := z_bind h
                  refine zRV F (k_X4_count l N g a_score a_score_cells v_score_size v_score_cells v4_.2 v18_.2 _ hr7_) zy_X4_count zw_552 hP hD hS [1, 3] rfl rfl (q0 := 1) (he := rfl) (hc := rfl) (rest := [.int v27_.2]) rfl hl.1 rfl (Nat.le_of_ble_eq_true rfl) ⟨rfl, rfl⟩ ⟨Nat.le_of_ble_eq_true rfl, Nat.le_of_ble_eq_true rfl⟩ ⟨Nat.zero_le _, Nat.zero_le _⟩ dX9_eventsOfKind_36 (st1 := [.int r7_, .int v27_.2]) rfl ?_
                  refine z_cge (tgt := 69) hx hb dX9_eventsOfKind_39 (by decide) h (fun h => ?_) (fun h => ?_)
                  · obtain rfl := Option.some.inj h
                    exact k69_ _ (lv_sub hl [0, 1, 2, 3, 4] rfl)
                  · refine lv_iload_n hx hb dX9_eventsOfKind_42 rfl (lv_at hl 2 rfl) ?_
                    refine lv_aload_n hx hb dX9_eventsOfKind_43 rfl (lv_at hl 0 rfl) ?_
                    refine lv_iload_n hx hb dX9_eventsOfKind_44 rfl (lv_at hl 3 rfl) ?_
                    refine lv_iload hx hb dX9_eventsOfKind_45 (lv_at hl 4 rfl) ?_
                    refine lv_iload hx hb dX9_eventsOfKind_47 (lv_at hl 5 rfl) ?_
                    refine lv_iload_n hx hb dX9_eventsOfKind_49 rfl (lv_at hl 1 rfl) ?_
                    obtain ⟨r8_, hr8_, h⟩ := z_bind h
                    refine zRV F (k_X9_isOfKind l N g a_this a_score a_history a_text a_sentence a_reader a_sounds a_playing a_score_cells a_sounds_shifts a_sounds_heldTicks v_score_size v_score_cells v_sounds_heldTicks v4_.2 v18_.2 v27_.2 x1 _ hr8_) zy_X9_isOfKind zw_609 hP hD hS [0, 1, 2, 3, 4] rfl rfl (q0 := 0) (he := rfl) (hc := rfl) (rest := [.int v27_.1]) rfl hl.1 rfl (Nat.le_of_ble_eq_true rfl) ⟨rfl, rfl⟩ ⟨Nat.le_of_ble_eq_true rfl, Nat.le_of_ble_eq_true rfl⟩ ⟨Nat.zero_le _, Nat.zero_le _⟩ dX9_eventsOfKind_50 (st1 := [.int r8_, .int v27_.1]) rfl ?_
                    obtain ⟨r9_, hA61_, h⟩ := z_bind h
                    have k61_ : ∀ (ls : Array Slot), lv_has ls 6 [(0, .ref a_this), (1, .int x1), (3, .int v4_.2), (4, .int v18_.2), (5, .int v27_.2)] → W p l e rm_X9_eventsOfKind s m (([.ref a_this, .int x1] : List Value)).toArray below meth c s.heap [] 0 0 Q (F0 m 61 ls [.int r9_, .int v27_.1]) := by
                      intro ls hl
                      refine lv_iadd hx hb dX9_eventsOfKind_61 ?_
                      refine z_top Value.int h (fun x10_ h => ?_)
                      refine lv_istore_n (lv' := [(2, .int x10_), (0, .ref a_this), (1, .int x1), (3, .int v4_.2), (4, .int v18_.2), (5, .int v27_.2)]) hx hb dX9_eventsOfKind_62 rfl hl (by decide) rfl (fun ls hl => ?_)
                      refine z_nm h (fun x11_ ex11_ h => ?_)
                      refine lv_iinc (v := x11_) (lv' := [(5, .int x11_), (2, .int x10_), (0, .ref a_this), (1, .int x1), (3, .int v4_.2), (4, .int v18_.2)]) hx hb dX9_eventsOfKind_63 hl (k := 5) rfl (by rw [ex11_]; rfl) (by decide) rfl (fun ls hl => ?_)
                      refine lv_goto (tgt := 27) hx hb dX9_eventsOfKind_66 (by decide) ?_
                      exact ih27_ _ h _ (lv_sub hl [2, 3, 1, 4, 5, 0] rfl)
                    have h := hA61_
                    refine z_eq (tgt := 60) hx hb dX9_eventsOfKind_53 (by decide) h (fun h => ?_) (fun h => ?_)
                    · refine lv_iconst (v := 0) hx hb dX9_eventsOfKind_60 (by decide) ?_
                      obtain rfl := Option.some.inj h
                      exact k61_ _ (lv_sub hl [0, 1, 3, 4, 5] rfl)
                    · refine lv_iconst (v := 1) hx hb dX9_eventsOfKind_56 (by decide) ?_
                      refine lv_goto (tgt := 61) hx hb dX9_eventsOfKind_57 (by decide) ?_
                      obtain rfl := Option.some.inj h
                      exact k61_ _ (lv_sub hl [0, 1, 3, 4, 5] rfl)
              exact l27_ N _ h _ (lv_sub hl [1, 2, 3, 4, 5, 0] rfl)
        exact l18_ N _ h _ (lv_sub hl [1, 2, 3, 4, 0] rfl)
  exact l4_ N _ h _ (lv_sub hl [2, 3, 1, 0] rfl)
def f_X9_whole (N : Nat) (v_playing_size : Int32) (v_score_size : Int32) (v_text_length : Int32) (v_playing_places : Nat → Int32) (v_score_cells : Nat → Int32) (v_sounds_heldTicks : Nat → Int32) (x1 : Int32) : Option (Int32 ⊕ Nat) :=
  zSub (f_X9_requireRange N x1 0 8) (fun (r1_ : Unit) => if x1 = 0 then Option.bind (f_X4_size N v_score_size) (fun (r2_ : Int32) => some (Sum.inl r2_)) else if x1 = 5 then Option.bind (f_X4_unevenVoices N v_score_size v_score_cells) (fun (r3_ : Int32) => some (Sum.inl r3_)) else if x1 = 6 then Option.bind (f_X2_size N v_playing_size) (fun (r4_ : Int32) => some (Sum.inl r4_)) else if x1 = 7 then Option.bind (f_X2_ticks N v_playing_size v_playing_places v_score_size v_score_cells) (fun (r5_ : Int32) => some (Sum.inl r5_)) else if x1 = 8 then Option.bind (f_X7_length N v_text_length) (fun (r6_ : Int32) => some (Sum.inl r6_)) else Option.bind (f_X9_eventsOfKind N v_score_size v_score_cells v_sounds_heldTicks x1) (fun (r7_ : Int32) => some (Sum.inl r7_)))
abbrev rm_X9_whole : Room := { frames := 7, cells := 0, slots := 0, locals := 121 }
theorem zy_X9_whole : zYv yX9_whole RX9 cX9_whole 2 (some .int) 1 := ⟨zw_712, zw_713, zw_527, zw_626, ⟨by decide, by decide⟩, by decide +kernel⟩
set_option maxHeartbeats 4000000 in
set_option maxRecDepth 100000 in
theorem k_X9_whole (l : Launch) (N : Nat) (g : zEnv) (a_this a_score a_history a_text a_sentence a_reader a_sounds a_playing a_playing_places a_score_cells a_sounds_shifts a_sounds_heldTicks a_text_bytes : Nat) (v_playing_size : Int32) (v_score_size : Int32) (v_text_length : Int32) (v_playing_places : Nat → Int32) (v_score_cells : Nat → Int32) (v_sounds_heldTicks : Nat → Int32) (x1 : Int32) (r : Int32) (h : f_X9_whole N v_playing_size v_score_size v_text_length v_playing_places v_score_cells v_sounds_heldTicks x1 = some (Sum.inl r)) : ZR l yX9_whole cX9_whole 2 (some .int) rm_X9_whole g [.ref a_this, .int x1] [zo_X9 a_this a_score a_history a_text a_sentence a_reader a_sounds a_playing, zo_X2 a_playing a_playing_places v_playing_size, zo_X4 a_score a_score_cells v_score_size, zo_X6 a_sounds a_score a_sounds_shifts a_sounds_heldTicks, zo_X7 a_text a_text_bytes v_text_length, (a_playing_places, .inl (zI g, 200, .inl v_playing_places)), (a_score_cells, .inl (zI g, 912, .inl v_score_cells)), (a_sounds_heldTicks, .inl (zI g, 768, .inl v_sounds_heldTicks))] (some (.int r)) := by
  refine zR_of (by decide) (Nat.le_of_ble_eq_true rfl) ?_
  intro p e s m below meth c A ls Q R F hRm hr hlocks hP hD hS hl hQ
  subst hRm
  have F : zF p m c cX9_whole 2 s (([.ref a_this, .int x1] : List Value)).toArray RX9 g A := F
  have hx := F.1.1
  have hb := F.1.2.1
  have hz := F.1.2.2.2.2
  have hl : lv_has ls 2 [(0, .ref a_this), (1, .int x1)] := hl
  unfold f_X9_whole at h
  refine lv_iload_n hx hb dX9_whole_0 rfl (lv_at hl 1 rfl) ?_
  refine lv_iconst (v := 0) hx hb dX9_whole_1 (by decide) ?_
  refine lv_bipush (v := 8) hx hb dX9_whole_2 (by decide) ?_
  obtain ⟨r1_, hr1_, h⟩ := z_subL h
  refine zRS F (k_X9_requireRange l N g x1 0 8 _ hr1_) zy_X9_requireRange zw_557 hP hD hS [] rfl rfl (rest := []) rfl hl.1 rfl (Nat.le_of_ble_eq_true rfl) ⟨rfl, rfl⟩ ⟨Nat.le_of_ble_eq_true rfl, Nat.le_of_ble_eq_true rfl⟩ ⟨Nat.zero_le _, Nat.zero_le _⟩ dX9_whole_4 (st1 := []) rfl ?_
  refine lv_iload_n hx hb dX9_whole_7 rfl (lv_at hl 1 rfl) ?_
  by_cases c8_0_ : x1 = 0
  · rw [if_pos c8_0_] at h
    refine lv_tableIn (tgt := 60) hx hb dX9_whole_8 (by rw [c8_0_]; decide) (by rw [c8_0_]; decide) (by rw [c8_0_]; rfl) (by decide) ?_
    refine lv_aload_n hx hb dX9_whole_60 rfl (lv_at hl 0 rfl) ?_
    refine z_get (C := RX9) (T := TX9) (N := 7) (ci := 7) F zu_wsX90 hP 0 rfl rfl 0 (by decide) zw_478 rfl dX9_whole_61 ?_
    obtain ⟨r2_, hr2_, h⟩ := z_bind h
    refine zRV F (k_X4_size l N g a_score a_score_cells v_score_size _ hr2_) zy_X4_size zw_528 hP hD hS [2] rfl rfl (q0 := 2) (he := rfl) (hc := rfl) (rest := []) rfl hl.1 rfl (Nat.le_of_ble_eq_true rfl) ⟨rfl, rfl⟩ ⟨Nat.le_of_ble_eq_true rfl, Nat.le_of_ble_eq_true rfl⟩ ⟨Nat.zero_le _, Nat.zero_le _⟩ dX9_whole_64 (st1 := [.int r2_]) rfl ?_
    obtain rfl := Sum.inl.inj (Option.some.inj h)
    exact zR_i F hr hlocks hQ dX9_whole_67
  rw [if_neg c8_0_] at h
  by_cases c8_5_ : x1 = 5
  · rw [if_pos c8_5_] at h
    refine lv_tableIn (tgt := 68) hx hb dX9_whole_8 (by rw [c8_5_]; decide) (by rw [c8_5_]; decide) (by rw [c8_5_]; rfl) (by decide) ?_
    refine lv_aload_n hx hb dX9_whole_68 rfl (lv_at hl 0 rfl) ?_
    refine z_get (C := RX9) (T := TX9) (N := 7) (ci := 7) F zu_wsX90 hP 0 rfl rfl 0 (by decide) zw_478 rfl dX9_whole_69 ?_
    obtain ⟨r3_, hr3_, h⟩ := z_bind h
    refine zRV F (k_X4_unevenVoices l N g a_score a_score_cells v_score_size v_score_cells _ hr3_) zy_X4_unevenVoices zw_613 hP hD hS [2, 6] rfl rfl (q0 := 2) (he := rfl) (hc := rfl) (rest := []) rfl hl.1 rfl (Nat.le_of_ble_eq_true rfl) ⟨rfl, rfl⟩ ⟨Nat.le_of_ble_eq_true rfl, Nat.le_of_ble_eq_true rfl⟩ ⟨Nat.zero_le _, Nat.zero_le _⟩ dX9_whole_72 (st1 := [.int r3_]) rfl ?_
    obtain rfl := Sum.inl.inj (Option.some.inj h)
    exact zR_i F hr hlocks hQ dX9_whole_75
  rw [if_neg c8_5_] at h
  by_cases c8_6_ : x1 = 6
  · rw [if_pos c8_6_] at h
    refine lv_tableIn (tgt := 76) hx hb dX9_whole_8 (by rw [c8_6_]; decide) (by rw [c8_6_]; decide) (by rw [c8_6_]; rfl) (by decide) ?_
    refine lv_aload_n hx hb dX9_whole_76 rfl (lv_at hl 0 rfl) ?_
    refine z_get (C := RX9) (T := TX9) (N := 7) (ci := 7) F zu_wsX90 hP 0 rfl rfl 6 (by decide) zw_496 rfl dX9_whole_77 ?_
    obtain ⟨r4_, hr4_, h⟩ := z_bind h
    refine zRV F (k_X2_size l N g a_playing a_playing_places v_playing_size _ hr4_) zy_X2_size zw_616 hP hD hS [1] rfl rfl (q0 := 1) (he := rfl) (hc := rfl) (rest := []) rfl hl.1 rfl (Nat.le_of_ble_eq_true rfl) ⟨rfl, rfl⟩ ⟨Nat.le_of_ble_eq_true rfl, Nat.le_of_ble_eq_true rfl⟩ ⟨Nat.zero_le _, Nat.zero_le _⟩ dX9_whole_80 (st1 := [.int r4_]) rfl ?_
    obtain rfl := Sum.inl.inj (Option.some.inj h)
    exact zR_i F hr hlocks hQ dX9_whole_83
  rw [if_neg c8_6_] at h
  by_cases c8_7_ : x1 = 7
  · rw [if_pos c8_7_] at h
    refine lv_tableIn (tgt := 84) hx hb dX9_whole_8 (by rw [c8_7_]; decide) (by rw [c8_7_]; decide) (by rw [c8_7_]; rfl) (by decide) ?_
    refine lv_aload_n hx hb dX9_whole_84 rfl (lv_at hl 0 rfl) ?_
    refine z_get (C := RX9) (T := TX9) (N := 7) (ci := 7) F zu_wsX90 hP 0 rfl rfl 6 (by decide) zw_496 rfl dX9_whole_85 ?_
    refine lv_aload_n hx hb dX9_whole_88 rfl (lv_at hl 0 rfl) ?_
    refine z_get (C := RX9) (T := TX9) (N := 7) (ci := 7) F zu_wsX90 hP 0 rfl rfl 0 (by decide) zw_478 rfl dX9_whole_89 ?_
    obtain ⟨r5_, hr5_, h⟩ := z_bind h
    refine zRV F (k_X2_ticks l N g a_playing a_playing_places a_score a_score_cells v_playing_size v_playing_places v_score_size v_score_cells _ hr5_) zy_X2_ticks zw_619 hP hD hS [1, 5, 2, 6] rfl rfl (q0 := 1) (he := rfl) (hc := rfl) (rest := []) rfl hl.1 rfl (Nat.le_of_ble_eq_true rfl) ⟨rfl, rfl⟩ ⟨Nat.le_of_ble_eq_true rfl, Nat.le_of_ble_eq_true rfl⟩ ⟨Nat.zero_le _, Nat.zero_le _⟩ dX9_whole_92 (st1 := [.int r5_]) rfl ?_
    obtain rfl := Sum.inl.inj (Option.some.inj h)
    exact zR_i F hr hlocks hQ dX9_whole_95
  rw [if_neg c8_7_] at h
  by_cases c8_8_ : x1 = 8
  · rw [if_pos c8_8_] at h
    refine lv_tableIn (tgt := 96) hx hb dX9_whole_8 (by rw [c8_8_]; decide) (by rw [c8_8_]; decide) (by rw [c8_8_]; rfl) (by decide) ?_
    refine lv_aload_n hx hb dX9_whole_96 rfl (lv_at hl 0 rfl) ?_
    refine z_get (C := RX9) (T := TX9) (N := 7) (ci := 7) F zu_wsX90 hP 0 rfl rfl 2 (by decide) zw_484 rfl dX9_whole_97 ?_
    obtain ⟨r6_, hr6_, h⟩ := z_bind h
    refine zRV F (k_X7_length l N g a_text a_text_bytes v_text_length _ hr6_) zy_X7_length zw_622 hP hD hS [4] rfl rfl (q0 := 4) (he := rfl) (hc := rfl) (rest := []) rfl hl.1 rfl (Nat.le_of_ble_eq_true rfl) ⟨rfl, rfl⟩ ⟨Nat.le_of_ble_eq_true rfl, Nat.le_of_ble_eq_true rfl⟩ ⟨Nat.zero_le _, Nat.zero_le _⟩ dX9_whole_100 (st1 := [.int r6_]) rfl ?_
    obtain rfl := Sum.inl.inj (Option.some.inj h)
    exact zR_i F hr hlocks hQ dX9_whole_103
  rw [if_neg c8_8_] at h
  have kd8_ : W p l e rm_X9_whole s m (([.ref a_this, .int x1] : List Value)).toArray below meth c s.heap [] 0 0 Q (F0 m 104 ls []) := by
    refine lv_aload_n hx hb dX9_whole_104 rfl (lv_at hl 0 rfl) ?_
    refine lv_iload_n hx hb dX9_whole_105 rfl (lv_at hl 1 rfl) ?_
    obtain ⟨r7_, hr7_, h⟩ := z_bind h
    refine zRV F (k_X9_eventsOfKind l N g a_this a_score a_history a_text a_sentence a_reader a_sounds a_playing a_score_cells a_sounds_shifts a_sounds_heldTicks v_score_size v_score_cells v_sounds_heldTicks x1 _ hr7_) zy_X9_eventsOfKind zw_623 hP hD hS [0, 2, 3, 6, 7] rfl rfl (q0 := 0) (he := rfl) (hc := rfl) (rest := []) rfl hl.1 rfl (Nat.le_of_ble_eq_true rfl) ⟨rfl, rfl⟩ ⟨Nat.le_of_ble_eq_true rfl, Nat.le_of_ble_eq_true rfl⟩ ⟨Nat.zero_le _, Nat.zero_le _⟩ dX9_whole_106 (st1 := [.int r7_]) rfl ?_
    obtain rfl := Sum.inl.inj (Option.some.inj h)
    exact zR_i F hr hlocks hQ dX9_whole_109
  by_cases c8_1_ : x1 = 1
  · exact lv_tableIn (tgt := 104) hx hb dX9_whole_8 (by rw [c8_1_]; decide) (by rw [c8_1_]; decide) (by rw [c8_1_]; rfl) (by decide) kd8_
  by_cases c8_2_ : x1 = 2
  · exact lv_tableIn (tgt := 104) hx hb dX9_whole_8 (by rw [c8_2_]; decide) (by rw [c8_2_]; decide) (by rw [c8_2_]; rfl) (by decide) kd8_
  by_cases c8_3_ : x1 = 3
  · exact lv_tableIn (tgt := 104) hx hb dX9_whole_8 (by rw [c8_3_]; decide) (by rw [c8_3_]; decide) (by rw [c8_3_]; rfl) (by decide) kd8_
  by_cases c8_4_ : x1 = 4
  · exact lv_tableIn (tgt := 104) hx hb dX9_whole_8 (by rw [c8_4_]; decide) (by rw [c8_4_]; decide) (by rw [c8_4_]; rfl) (by decide) kd8_
  exact lv_tableOut (tgt := 104) hx hb dX9_whole_8 (z_sw 0 9 x1 (fun j hj => match j, hj with | 0, _ => c8_0_ | 1, _ => c8_1_ | 2, _ => c8_2_ | 3, _ => c8_3_ | 4, _ => c8_4_ | 5, _ => c8_5_ | 6, _ => c8_6_ | 7, _ => c8_7_ | 8, _ => c8_8_ | j + 9, hj => absurd hj (by omega))) (by decide) kd8_
abbrev rx_X9_whole : Room := { frames := 7, cells := 1, slots := 6, locals := 121 }
set_option maxHeartbeats 4000000 in
set_option maxRecDepth 100000 in
theorem kx_X9_whole (l : Launch) (N : Nat) (g : zEnv) (a_this a_score a_history a_text a_sentence a_reader a_sounds a_playing a_playing_places a_score_cells a_sounds_shifts a_sounds_heldTicks a_text_bytes : Nat) (v_playing_size : Int32) (v_score_size : Int32) (v_text_length : Int32) (v_playing_places : Nat → Int32) (v_score_cells : Nat → Int32) (v_sounds_heldTicks : Nat → Int32) (x1 : Int32) (r : Nat) (h : f_X9_whole N v_playing_size v_score_size v_text_length v_playing_places v_score_cells v_sounds_heldTicks x1 = some (Sum.inr r)) (hfl : l.stackTraces = false) : ZE l yX9_whole cX9_whole 2 (some .int) rx_X9_whole g [.ref a_this, .int x1] [zo_X9 a_this a_score a_history a_text a_sentence a_reader a_sounds a_playing, zo_X2 a_playing a_playing_places v_playing_size, zo_X4 a_score a_score_cells v_score_size, zo_X6 a_sounds a_score a_sounds_shifts a_sounds_heldTicks, zo_X7 a_text a_text_bytes v_text_length, (a_playing_places, .inl (zI g, 200, .inl v_playing_places)), (a_score_cells, .inl (zI g, 912, .inl v_score_cells)), (a_sounds_heldTicks, .inl (zI g, 768, .inl v_sounds_heldTicks))] [zo_X9 a_this a_score a_history a_text a_sentence a_reader a_sounds a_playing, zo_X2 a_playing a_playing_places v_playing_size, zo_X4 a_score a_score_cells v_score_size, zo_X6 a_sounds a_score a_sounds_shifts a_sounds_heldTicks, zo_X7 a_text a_text_bytes v_text_length, (a_playing_places, .inl (zI g, 200, .inl v_playing_places)), (a_score_cells, .inl (zI g, 912, .inl v_score_cells)), (a_sounds_heldTicks, .inl (zI g, 768, .inl v_sounds_heldTicks))] r := by
  refine zE_of (by decide) (Nat.le_of_ble_eq_true rfl) ?_
  intro p e s m below meth c A H locs ls Q R F hRm hlocks hN htab hP hD hS hl hQ
  subst hRm
  have F : zF p m c cX9_whole 2 s (([.ref a_this, .int x1] : List Value)).toArray RX9 g A := F
  have hx := F.1.1
  have hb := F.1.2.1
  have hz := F.1.2.2.2.2
  have hl : lv_has ls 2 [(0, .ref a_this), (1, .int x1)] := hl
  unfold f_X9_whole at h
  refine lv_iload_n hx hb dX9_whole_0 rfl (lv_at hl 1 rfl) ?_
  refine lv_iconst (v := 0) hx hb dX9_whole_1 (by decide) ?_
  refine lv_bipush (v := 8) hx hb dX9_whole_2 (by decide) ?_
  refine z_subR h (fun h => ?_) (fun r1_ hr1_ h => ?_)
  · exact zXS F (kx_X9_requireRange l N g x1 0 8 _ h hfl) hN zy_X9_requireRange zw_557 hP hD hS [] [0, 1, 2, 3, 4, 5, 6, 7] [0, 1, 2, 3, 4, 5, 6, 7] (wr := [zo_X9 a_this a_score a_history a_text a_sentence a_reader a_sounds a_playing, zo_X2 a_playing a_playing_places v_playing_size, zo_X4 a_score a_score_cells v_score_size, zo_X6 a_sounds a_score a_sounds_shifts a_sounds_heldTicks, zo_X7 a_text a_text_bytes v_text_length, (a_playing_places, .inl (zI g, 200, .inl v_playing_places)), (a_score_cells, .inl (zI g, 912, .inl v_score_cells)), (a_sounds_heldTicks, .inl (zI g, 768, .inl v_sounds_heldTicks))]) (W1 := [zo_X9 a_this a_score a_history a_text a_sentence a_reader a_sounds a_playing, zo_X2 a_playing a_playing_places v_playing_size, zo_X4 a_score a_score_cells v_score_size, zo_X6 a_sounds a_score a_sounds_shifts a_sounds_heldTicks, zo_X7 a_text a_text_bytes v_text_length, (a_playing_places, .inl (zI g, 200, .inl v_playing_places)), (a_score_cells, .inl (zI g, 912, .inl v_score_cells)), (a_sounds_heldTicks, .inl (zI g, 768, .inl v_sounds_heldTicks))]) rfl rfl rfl rfl (by decide) rfl rfl (rest := []) rfl hl.1 rfl (Nat.le_of_ble_eq_true rfl) ⟨rfl, rfl⟩ ⟨Nat.le_of_ble_eq_true rfl, Nat.le_of_ble_eq_true rfl⟩ ⟨Nat.le_of_ble_eq_true rfl, Nat.le_of_ble_eq_true rfl⟩ dX9_whole_4 htab hlocks hQ
  refine zRS F (k_X9_requireRange l N g x1 0 8 _ hr1_) zy_X9_requireRange zw_557 hP hD hS [] rfl rfl (rest := []) rfl hl.1 rfl (Nat.le_of_ble_eq_true rfl) ⟨rfl, rfl⟩ ⟨Nat.le_of_ble_eq_true rfl, Nat.le_of_ble_eq_true rfl⟩ ⟨Nat.zero_le _, Nat.zero_le _⟩ dX9_whole_4 (st1 := []) rfl ?_
  refine lv_iload_n hx hb dX9_whole_7 rfl (lv_at hl 1 rfl) ?_
  by_cases c8_0_ : x1 = 0
  · rw [if_pos c8_0_] at h
    refine lv_tableIn (tgt := 60) hx hb dX9_whole_8 (by rw [c8_0_]; decide) (by rw [c8_0_]; decide) (by rw [c8_0_]; rfl) (by decide) ?_
    refine lv_aload_n hx hb dX9_whole_60 rfl (lv_at hl 0 rfl) ?_
    refine z_get (C := RX9) (T := TX9) (N := 7) (ci := 7) F zu_wsX90 hP 0 rfl rfl 0 (by decide) zw_478 rfl dX9_whole_61 ?_
    obtain ⟨r2_, hr2_, h⟩ := z_bind h
    refine zRV F (k_X4_size l N g a_score a_score_cells v_score_size _ hr2_) zy_X4_size zw_528 hP hD hS [2] rfl rfl (q0 := 2) (he := rfl) (hc := rfl) (rest := []) rfl hl.1 rfl (Nat.le_of_ble_eq_true rfl) ⟨rfl, rfl⟩ ⟨Nat.le_of_ble_eq_true rfl, Nat.le_of_ble_eq_true rfl⟩ ⟨Nat.zero_le _, Nat.zero_le _⟩ dX9_whole_64 (st1 := [.int r2_]) rfl ?_
    cases h
  rw [if_neg c8_0_] at h
  by_cases c8_5_ : x1 = 5
  · rw [if_pos c8_5_] at h
    refine lv_tableIn (tgt := 68) hx hb dX9_whole_8 (by rw [c8_5_]; decide) (by rw [c8_5_]; decide) (by rw [c8_5_]; rfl) (by decide) ?_
    refine lv_aload_n hx hb dX9_whole_68 rfl (lv_at hl 0 rfl) ?_
    refine z_get (C := RX9) (T := TX9) (N := 7) (ci := 7) F zu_wsX90 hP 0 rfl rfl 0 (by decide) zw_478 rfl dX9_whole_69 ?_
    obtain ⟨r3_, hr3_, h⟩ := z_bind h
    refine zRV F (k_X4_unevenVoices l N g a_score a_score_cells v_score_size v_score_cells _ hr3_) zy_X4_unevenVoices zw_613 hP hD hS [2, 6] rfl rfl (q0 := 2) (he := rfl) (hc := rfl) (rest := []) rfl hl.1 rfl (Nat.le_of_ble_eq_true rfl) ⟨rfl, rfl⟩ ⟨Nat.le_of_ble_eq_true rfl, Nat.le_of_ble_eq_true rfl⟩ ⟨Nat.zero_le _, Nat.zero_le _⟩ dX9_whole_72 (st1 := [.int r3_]) rfl ?_
    cases h
  rw [if_neg c8_5_] at h
  by_cases c8_6_ : x1 = 6
  · rw [if_pos c8_6_] at h
    refine lv_tableIn (tgt := 76) hx hb dX9_whole_8 (by rw [c8_6_]; decide) (by rw [c8_6_]; decide) (by rw [c8_6_]; rfl) (by decide) ?_
    refine lv_aload_n hx hb dX9_whole_76 rfl (lv_at hl 0 rfl) ?_
    refine z_get (C := RX9) (T := TX9) (N := 7) (ci := 7) F zu_wsX90 hP 0 rfl rfl 6 (by decide) zw_496 rfl dX9_whole_77 ?_
    obtain ⟨r4_, hr4_, h⟩ := z_bind h
    refine zRV F (k_X2_size l N g a_playing a_playing_places v_playing_size _ hr4_) zy_X2_size zw_616 hP hD hS [1] rfl rfl (q0 := 1) (he := rfl) (hc := rfl) (rest := []) rfl hl.1 rfl (Nat.le_of_ble_eq_true rfl) ⟨rfl, rfl⟩ ⟨Nat.le_of_ble_eq_true rfl, Nat.le_of_ble_eq_true rfl⟩ ⟨Nat.zero_le _, Nat.zero_le _⟩ dX9_whole_80 (st1 := [.int r4_]) rfl ?_
    cases h
  rw [if_neg c8_6_] at h
  by_cases c8_7_ : x1 = 7
  · rw [if_pos c8_7_] at h
    refine lv_tableIn (tgt := 84) hx hb dX9_whole_8 (by rw [c8_7_]; decide) (by rw [c8_7_]; decide) (by rw [c8_7_]; rfl) (by decide) ?_
    refine lv_aload_n hx hb dX9_whole_84 rfl (lv_at hl 0 rfl) ?_
    refine z_get (C := RX9) (T := TX9) (N := 7) (ci := 7) F zu_wsX90 hP 0 rfl rfl 6 (by decide) zw_496 rfl dX9_whole_85 ?_
    refine lv_aload_n hx hb dX9_whole_88 rfl (lv_at hl 0 rfl) ?_
    refine z_get (C := RX9) (T := TX9) (N := 7) (ci := 7) F zu_wsX90 hP 0 rfl rfl 0 (by decide) zw_478 rfl dX9_whole_89 ?_
    obtain ⟨r5_, hr5_, h⟩ := z_bind h
    refine zRV F (k_X2_ticks l N g a_playing a_playing_places a_score a_score_cells v_playing_size v_playing_places v_score_size v_score_cells _ hr5_) zy_X2_ticks zw_619 hP hD hS [1, 5, 2, 6] rfl rfl (q0 := 1) (he := rfl) (hc := rfl) (rest := []) rfl hl.1 rfl (Nat.le_of_ble_eq_true rfl) ⟨rfl, rfl⟩ ⟨Nat.le_of_ble_eq_true rfl, Nat.le_of_ble_eq_true rfl⟩ ⟨Nat.zero_le _, Nat.zero_le _⟩ dX9_whole_92 (st1 := [.int r5_]) rfl ?_
    cases h
  rw [if_neg c8_7_] at h
  by_cases c8_8_ : x1 = 8
  · rw [if_pos c8_8_] at h
    refine lv_tableIn (tgt := 96) hx hb dX9_whole_8 (by rw [c8_8_]; decide) (by rw [c8_8_]; decide) (by rw [c8_8_]; rfl) (by decide) ?_
    refine lv_aload_n hx hb dX9_whole_96 rfl (lv_at hl 0 rfl) ?_
    refine z_get (C := RX9) (T := TX9) (N := 7) (ci := 7) F zu_wsX90 hP 0 rfl rfl 2 (by decide) zw_484 rfl dX9_whole_97 ?_
    obtain ⟨r6_, hr6_, h⟩ := z_bind h
    refine zRV F (k_X7_length l N g a_text a_text_bytes v_text_length _ hr6_) zy_X7_length zw_622 hP hD hS [4] rfl rfl (q0 := 4) (he := rfl) (hc := rfl) (rest := []) rfl hl.1 rfl (Nat.le_of_ble_eq_true rfl) ⟨rfl, rfl⟩ ⟨Nat.le_of_ble_eq_true rfl, Nat.le_of_ble_eq_true rfl⟩ ⟨Nat.zero_le _, Nat.zero_le _⟩ dX9_whole_100 (st1 := [.int r6_]) rfl ?_
    cases h
  rw [if_neg c8_8_] at h
  have kd8_ : W p l e rx_X9_whole s m (([.ref a_this, .int x1] : List Value)).toArray below meth c H locs 0 0 Q (F0 m 104 ls []) := by
    refine lv_aload_n hx hb dX9_whole_104 rfl (lv_at hl 0 rfl) ?_
    refine lv_iload_n hx hb dX9_whole_105 rfl (lv_at hl 1 rfl) ?_
    obtain ⟨r7_, hr7_, h⟩ := z_bind h
    refine zRV F (k_X9_eventsOfKind l N g a_this a_score a_history a_text a_sentence a_reader a_sounds a_playing a_score_cells a_sounds_shifts a_sounds_heldTicks v_score_size v_score_cells v_sounds_heldTicks x1 _ hr7_) zy_X9_eventsOfKind zw_623 hP hD hS [0, 2, 3, 6, 7] rfl rfl (q0 := 0) (he := rfl) (hc := rfl) (rest := []) rfl hl.1 rfl (Nat.le_of_ble_eq_true rfl) ⟨rfl, rfl⟩ ⟨Nat.le_of_ble_eq_true rfl, Nat.le_of_ble_eq_true rfl⟩ ⟨Nat.zero_le _, Nat.zero_le _⟩ dX9_whole_106 (st1 := [.int r7_]) rfl ?_
    cases h
  by_cases c8_1_ : x1 = 1
  · exact lv_tableIn (tgt := 104) hx hb dX9_whole_8 (by rw [c8_1_]; decide) (by rw [c8_1_]; decide) (by rw [c8_1_]; rfl) (by decide) kd8_
  by_cases c8_2_ : x1 = 2
  · exact lv_tableIn (tgt := 104) hx hb dX9_whole_8 (by rw [c8_2_]; decide) (by rw [c8_2_]; decide) (by rw [c8_2_]; rfl) (by decide) kd8_
  by_cases c8_3_ : x1 = 3
  · exact lv_tableIn (tgt := 104) hx hb dX9_whole_8 (by rw [c8_3_]; decide) (by rw [c8_3_]; decide) (by rw [c8_3_]; rfl) (by decide) kd8_
  by_cases c8_4_ : x1 = 4
  · exact lv_tableIn (tgt := 104) hx hb dX9_whole_8 (by rw [c8_4_]; decide) (by rw [c8_4_]; decide) (by rw [c8_4_]; rfl) (by decide) kd8_
  exact lv_tableOut (tgt := 104) hx hb dX9_whole_8 (z_sw 0 9 x1 (fun j hj => match j, hj with | 0, _ => c8_0_ | 1, _ => c8_1_ | 2, _ => c8_2_ | 3, _ => c8_3_ | 4, _ => c8_4_ | 5, _ => c8_5_ | 6, _ => c8_6_ | 7, _ => c8_7_ | 8, _ => c8_8_ | j + 9, hj => absurd hj (by omega))) (by decide) kd8_
def f_X9_order (N : Nat) (v_playing_size : Int32) (v_playing_places : Nat → Int32) (x1 : Int32) : Option (Int32 ⊕ Nat) :=
  zSub (f_X9_requireNotNegative N x1) (fun (r1_ : Unit) => Option.bind (f_X2_size N v_playing_size) (fun (r2_ : Int32) => if x1 < r2_ then Option.bind (f_X2_at N v_playing_size v_playing_places x1) (fun (r3_ : Int32) => some (Sum.inl r3_)) else some (Sum.inl (-1000))))
abbrev rm_X9_order : Room := { frames := 7, cells := 0, slots := 0, locals := 110 }
theorem zy_X9_order : zYv yX9_order RX9 cX9_order 2 (some .int) 1 := ⟨zw_790, zw_791, zw_527, zw_628, ⟨by decide, by decide⟩, by decide +kernel⟩
set_option maxHeartbeats 4000000 in
set_option maxRecDepth 100000 in
theorem k_X9_order (l : Launch) (N : Nat) (g : zEnv) (a_this a_score a_history a_text a_sentence a_reader a_sounds a_playing a_playing_places : Nat) (v_playing_size : Int32) (v_playing_places : Nat → Int32) (x1 : Int32) (r : Int32) (h : f_X9_order N v_playing_size v_playing_places x1 = some (Sum.inl r)) : ZR l yX9_order cX9_order 2 (some .int) rm_X9_order g [.ref a_this, .int x1] [zo_X9 a_this a_score a_history a_text a_sentence a_reader a_sounds a_playing, zo_X2 a_playing a_playing_places v_playing_size, (a_playing_places, .inl (zI g, 200, .inl v_playing_places))] (some (.int r)) := by
  refine zR_of (by decide) (Nat.le_of_ble_eq_true rfl) ?_
  intro p e s m below meth c A ls Q R F hRm hr hlocks hP hD hS hl hQ
  subst hRm
  have F : zF p m c cX9_order 2 s (([.ref a_this, .int x1] : List Value)).toArray RX9 g A := F
  have hx := F.1.1
  have hb := F.1.2.1
  have hz := F.1.2.2.2.2
  have hl : lv_has ls 2 [(0, .ref a_this), (1, .int x1)] := hl
  unfold f_X9_order at h
  refine lv_iload_n hx hb dX9_order_0 rfl (lv_at hl 1 rfl) ?_
  obtain ⟨r1_, hr1_, h⟩ := z_subL h
  refine zRS F (k_X9_requireNotNegative l N g x1 _ hr1_) zy_X9_requireNotNegative zw_601 hP hD hS [] rfl rfl (rest := []) rfl hl.1 rfl (Nat.le_of_ble_eq_true rfl) ⟨rfl, rfl⟩ ⟨Nat.le_of_ble_eq_true rfl, Nat.le_of_ble_eq_true rfl⟩ ⟨Nat.zero_le _, Nat.zero_le _⟩ dX9_order_1 (st1 := []) rfl ?_
  refine lv_iload_n hx hb dX9_order_4 rfl (lv_at hl 1 rfl) ?_
  refine lv_aload_n hx hb dX9_order_5 rfl (lv_at hl 0 rfl) ?_
  refine z_get (C := RX9) (T := TX9) (N := 7) (ci := 7) F zu_wsX90 hP 0 rfl rfl 6 (by decide) zw_496 rfl dX9_order_6 ?_
  obtain ⟨r2_, hr2_, h⟩ := z_bind h
  refine zRV F (k_X2_size l N g a_playing a_playing_places v_playing_size _ hr2_) zy_X2_size zw_616 hP hD hS [1] rfl rfl (q0 := 1) (he := rfl) (hc := rfl) (rest := [.int x1]) rfl hl.1 rfl (Nat.le_of_ble_eq_true rfl) ⟨rfl, rfl⟩ ⟨Nat.le_of_ble_eq_true rfl, Nat.le_of_ble_eq_true rfl⟩ ⟨Nat.zero_le _, Nat.zero_le _⟩ dX9_order_9 (st1 := [.int r2_, .int x1]) rfl ?_
  refine z_cge (tgt := 26) hx hb dX9_order_12 (by decide) h (fun h => ?_) (fun h => ?_)
  · refine lv_sipush (v := (-1000)) hx hb dX9_order_26 (by decide) ?_
    obtain rfl := Sum.inl.inj (Option.some.inj h)
    exact zR_i F hr hlocks hQ dX9_order_29
  · refine lv_aload_n hx hb dX9_order_15 rfl (lv_at hl 0 rfl) ?_
    refine z_get (C := RX9) (T := TX9) (N := 7) (ci := 7) F zu_wsX90 hP 0 rfl rfl 6 (by decide) zw_496 rfl dX9_order_16 ?_
    refine lv_iload_n hx hb dX9_order_19 rfl (lv_at hl 1 rfl) ?_
    obtain ⟨r3_, hr3_, h⟩ := z_bind h
    refine zRV F (k_X2_at l N g a_playing a_playing_places v_playing_size v_playing_places x1 _ hr3_) zy_X2_at zw_627 hP hD hS [1, 2] rfl rfl (q0 := 1) (he := rfl) (hc := rfl) (rest := []) rfl hl.1 rfl (Nat.le_of_ble_eq_true rfl) ⟨rfl, rfl⟩ ⟨Nat.le_of_ble_eq_true rfl, Nat.le_of_ble_eq_true rfl⟩ ⟨Nat.zero_le _, Nat.zero_le _⟩ dX9_order_20 (st1 := [.int r3_]) rfl ?_
    refine lv_goto (tgt := 29) hx hb dX9_order_23 (by decide) ?_
    obtain rfl := Sum.inl.inj (Option.some.inj h)
    exact zR_i F hr hlocks hQ dX9_order_29
abbrev rx_X9_order : Room := { frames := 7, cells := 1, slots := 6, locals := 110 }
set_option maxHeartbeats 4000000 in
set_option maxRecDepth 100000 in
theorem kx_X9_order (l : Launch) (N : Nat) (g : zEnv) (a_this a_score a_history a_text a_sentence a_reader a_sounds a_playing a_playing_places : Nat) (v_playing_size : Int32) (v_playing_places : Nat → Int32) (x1 : Int32) (r : Nat) (h : f_X9_order N v_playing_size v_playing_places x1 = some (Sum.inr r)) (hfl : l.stackTraces = false) : ZE l yX9_order cX9_order 2 (some .int) rx_X9_order g [.ref a_this, .int x1] [zo_X9 a_this a_score a_history a_text a_sentence a_reader a_sounds a_playing, zo_X2 a_playing a_playing_places v_playing_size, (a_playing_places, .inl (zI g, 200, .inl v_playing_places))] [zo_X9 a_this a_score a_history a_text a_sentence a_reader a_sounds a_playing, zo_X2 a_playing a_playing_places v_playing_size, (a_playing_places, .inl (zI g, 200, .inl v_playing_places))] r := by
  refine zE_of (by decide) (Nat.le_of_ble_eq_true rfl) ?_
  intro p e s m below meth c A H locs ls Q R F hRm hlocks hN htab hP hD hS hl hQ
  subst hRm
  have F : zF p m c cX9_order 2 s (([.ref a_this, .int x1] : List Value)).toArray RX9 g A := F
  have hx := F.1.1
  have hb := F.1.2.1
  have hz := F.1.2.2.2.2
  have hl : lv_has ls 2 [(0, .ref a_this), (1, .int x1)] := hl
  unfold f_X9_order at h
  refine lv_iload_n hx hb dX9_order_0 rfl (lv_at hl 1 rfl) ?_
  refine z_subR h (fun h => ?_) (fun r1_ hr1_ h => ?_)
  · exact zXS F (kx_X9_requireNotNegative l N g x1 _ h hfl) hN zy_X9_requireNotNegative zw_601 hP hD hS [] [0, 1, 2] [0, 1, 2] (wr := [zo_X9 a_this a_score a_history a_text a_sentence a_reader a_sounds a_playing, zo_X2 a_playing a_playing_places v_playing_size, (a_playing_places, .inl (zI g, 200, .inl v_playing_places))]) (W1 := [zo_X9 a_this a_score a_history a_text a_sentence a_reader a_sounds a_playing, zo_X2 a_playing a_playing_places v_playing_size, (a_playing_places, .inl (zI g, 200, .inl v_playing_places))]) rfl rfl rfl rfl (by decide) rfl rfl (rest := []) rfl hl.1 rfl (Nat.le_of_ble_eq_true rfl) ⟨rfl, rfl⟩ ⟨Nat.le_of_ble_eq_true rfl, Nat.le_of_ble_eq_true rfl⟩ ⟨Nat.le_of_ble_eq_true rfl, Nat.le_of_ble_eq_true rfl⟩ dX9_order_1 htab hlocks hQ
  refine zRS F (k_X9_requireNotNegative l N g x1 _ hr1_) zy_X9_requireNotNegative zw_601 hP hD hS [] rfl rfl (rest := []) rfl hl.1 rfl (Nat.le_of_ble_eq_true rfl) ⟨rfl, rfl⟩ ⟨Nat.le_of_ble_eq_true rfl, Nat.le_of_ble_eq_true rfl⟩ ⟨Nat.zero_le _, Nat.zero_le _⟩ dX9_order_1 (st1 := []) rfl ?_
  refine lv_iload_n hx hb dX9_order_4 rfl (lv_at hl 1 rfl) ?_
  refine lv_aload_n hx hb dX9_order_5 rfl (lv_at hl 0 rfl) ?_
  refine z_get (C := RX9) (T := TX9) (N := 7) (ci := 7) F zu_wsX90 hP 0 rfl rfl 6 (by decide) zw_496 rfl dX9_order_6 ?_
  obtain ⟨r2_, hr2_, h⟩ := z_bind h
  refine zRV F (k_X2_size l N g a_playing a_playing_places v_playing_size _ hr2_) zy_X2_size zw_616 hP hD hS [1] rfl rfl (q0 := 1) (he := rfl) (hc := rfl) (rest := [.int x1]) rfl hl.1 rfl (Nat.le_of_ble_eq_true rfl) ⟨rfl, rfl⟩ ⟨Nat.le_of_ble_eq_true rfl, Nat.le_of_ble_eq_true rfl⟩ ⟨Nat.zero_le _, Nat.zero_le _⟩ dX9_order_9 (st1 := [.int r2_, .int x1]) rfl ?_
  refine z_cge (tgt := 26) hx hb dX9_order_12 (by decide) h (fun h => ?_) (fun h => ?_)
  · refine lv_sipush (v := (-1000)) hx hb dX9_order_26 (by decide) ?_
    cases h
  · refine lv_aload_n hx hb dX9_order_15 rfl (lv_at hl 0 rfl) ?_
    refine z_get (C := RX9) (T := TX9) (N := 7) (ci := 7) F zu_wsX90 hP 0 rfl rfl 6 (by decide) zw_496 rfl dX9_order_16 ?_
    refine lv_iload_n hx hb dX9_order_19 rfl (lv_at hl 1 rfl) ?_
    obtain ⟨r3_, hr3_, h⟩ := z_bind h
    refine zRV F (k_X2_at l N g a_playing a_playing_places v_playing_size v_playing_places x1 _ hr3_) zy_X2_at zw_627 hP hD hS [1, 2] rfl rfl (q0 := 1) (he := rfl) (hc := rfl) (rest := []) rfl hl.1 rfl (Nat.le_of_ble_eq_true rfl) ⟨rfl, rfl⟩ ⟨Nat.le_of_ble_eq_true rfl, Nat.le_of_ble_eq_true rfl⟩ ⟨Nat.zero_le _, Nat.zero_le _⟩ dX9_order_20 (st1 := [.int r3_]) rfl ?_
    refine lv_goto (tgt := 29) hx hb dX9_order_23 (by decide) ?_
    cases h
def f_X9_timesPlayed (N : Nat) (v_playing_size : Int32) (v_score_size : Int32) (v_playing_places : Nat → Int32) (x1 : Int32) : Option (Int32 ⊕ Nat) :=
  zSub (f_X9_requireMeasure N v_score_size x1) (fun (r1_ : Unit) => Option.bind (f_X2_timesOf N v_playing_size v_playing_places x1) (fun (r2_ : Int32) => some (Sum.inl r2_)))
abbrev rm_X9_timesPlayed : Room := { frames := 7, cells := 0, slots := 0, locals := 111 }
theorem zy_X9_timesPlayed : zYv yX9_timesPlayed RX9 cX9_timesPlayed 2 (some .int) 1 := ⟨zw_724, zw_725, zw_527, zw_632, ⟨by decide, by decide⟩, by decide +kernel⟩
set_option maxHeartbeats 4000000 in
set_option maxRecDepth 100000 in
theorem k_X9_timesPlayed (l : Launch) (N : Nat) (g : zEnv) (a_this a_score a_history a_text a_sentence a_reader a_sounds a_playing a_playing_places a_score_cells : Nat) (v_playing_size : Int32) (v_score_size : Int32) (v_playing_places : Nat → Int32) (x1 : Int32) (r : Int32) (h : f_X9_timesPlayed N v_playing_size v_score_size v_playing_places x1 = some (Sum.inl r)) : ZR l yX9_timesPlayed cX9_timesPlayed 2 (some .int) rm_X9_timesPlayed g [.ref a_this, .int x1] [zo_X9 a_this a_score a_history a_text a_sentence a_reader a_sounds a_playing, zo_X2 a_playing a_playing_places v_playing_size, zo_X4 a_score a_score_cells v_score_size, (a_playing_places, .inl (zI g, 200, .inl v_playing_places))] (some (.int r)) := by
  refine zR_of (by decide) (Nat.le_of_ble_eq_true rfl) ?_
  intro p e s m below meth c A ls Q R F hRm hr hlocks hP hD hS hl hQ
  subst hRm
  have F : zF p m c cX9_timesPlayed 2 s (([.ref a_this, .int x1] : List Value)).toArray RX9 g A := F
  have hx := F.1.1
  have hb := F.1.2.1
  have hz := F.1.2.2.2.2
  have hl : lv_has ls 2 [(0, .ref a_this), (1, .int x1)] := hl
  unfold f_X9_timesPlayed at h
  refine lv_aload_n hx hb dX9_timesPlayed_0 rfl (lv_at hl 0 rfl) ?_
  refine lv_iload_n hx hb dX9_timesPlayed_1 rfl (lv_at hl 1 rfl) ?_
  obtain ⟨r1_, hr1_, h⟩ := z_subL h
  refine zRV F (k_X9_requireMeasure l N g a_this a_score a_history a_text a_sentence a_reader a_sounds a_playing a_score_cells v_score_size x1 _ hr1_) zy_X9_requireMeasure zw_534 hP hD hS [0, 2] rfl rfl (q0 := 0) (he := rfl) (hc := rfl) (rest := []) rfl hl.1 rfl (Nat.le_of_ble_eq_true rfl) ⟨rfl, rfl⟩ ⟨Nat.le_of_ble_eq_true rfl, Nat.le_of_ble_eq_true rfl⟩ ⟨Nat.zero_le _, Nat.zero_le _⟩ dX9_timesPlayed_2 (st1 := []) rfl ?_
  refine lv_aload_n hx hb dX9_timesPlayed_5 rfl (lv_at hl 0 rfl) ?_
  refine z_get (C := RX9) (T := TX9) (N := 7) (ci := 7) F zu_wsX90 hP 0 rfl rfl 6 (by decide) zw_496 rfl dX9_timesPlayed_6 ?_
  refine lv_iload_n hx hb dX9_timesPlayed_9 rfl (lv_at hl 1 rfl) ?_
  obtain ⟨r2_, hr2_, h⟩ := z_bind h
  refine zRV F (k_X2_timesOf l N g a_playing a_playing_places v_playing_size v_playing_places x1 _ hr2_) zy_X2_timesOf zw_629 hP hD hS [1, 3] rfl rfl (q0 := 1) (he := rfl) (hc := rfl) (rest := []) rfl hl.1 rfl (Nat.le_of_ble_eq_true rfl) ⟨rfl, rfl⟩ ⟨Nat.le_of_ble_eq_true rfl, Nat.le_of_ble_eq_true rfl⟩ ⟨Nat.zero_le _, Nat.zero_le _⟩ dX9_timesPlayed_10 (st1 := [.int r2_]) rfl ?_
  obtain rfl := Sum.inl.inj (Option.some.inj h)
  exact zR_i F hr hlocks hQ dX9_timesPlayed_13
abbrev rx_X9_timesPlayed : Room := { frames := 7, cells := 1, slots := 6, locals := 111 }
set_option maxHeartbeats 4000000 in
set_option maxRecDepth 100000 in
theorem kx_X9_timesPlayed (l : Launch) (N : Nat) (g : zEnv) (a_this a_score a_history a_text a_sentence a_reader a_sounds a_playing a_playing_places a_score_cells : Nat) (v_playing_size : Int32) (v_score_size : Int32) (v_playing_places : Nat → Int32) (x1 : Int32) (r : Nat) (h : f_X9_timesPlayed N v_playing_size v_score_size v_playing_places x1 = some (Sum.inr r)) (hfl : l.stackTraces = false) : ZE l yX9_timesPlayed cX9_timesPlayed 2 (some .int) rx_X9_timesPlayed g [.ref a_this, .int x1] [zo_X9 a_this a_score a_history a_text a_sentence a_reader a_sounds a_playing, zo_X2 a_playing a_playing_places v_playing_size, zo_X4 a_score a_score_cells v_score_size, (a_playing_places, .inl (zI g, 200, .inl v_playing_places))] [zo_X9 a_this a_score a_history a_text a_sentence a_reader a_sounds a_playing, zo_X2 a_playing a_playing_places v_playing_size, zo_X4 a_score a_score_cells v_score_size, (a_playing_places, .inl (zI g, 200, .inl v_playing_places))] r := by
  refine zE_of (by decide) (Nat.le_of_ble_eq_true rfl) ?_
  intro p e s m below meth c A H locs ls Q R F hRm hlocks hN htab hP hD hS hl hQ
  subst hRm
  have F : zF p m c cX9_timesPlayed 2 s (([.ref a_this, .int x1] : List Value)).toArray RX9 g A := F
  have hx := F.1.1
  have hb := F.1.2.1
  have hz := F.1.2.2.2.2
  have hl : lv_has ls 2 [(0, .ref a_this), (1, .int x1)] := hl
  unfold f_X9_timesPlayed at h
  refine lv_aload_n hx hb dX9_timesPlayed_0 rfl (lv_at hl 0 rfl) ?_
  refine lv_iload_n hx hb dX9_timesPlayed_1 rfl (lv_at hl 1 rfl) ?_
  refine z_subR h (fun h => ?_) (fun r1_ hr1_ h => ?_)
  · exact zXV F (kx_X9_requireMeasure l N g a_this a_score a_history a_text a_sentence a_reader a_sounds a_playing a_score_cells v_score_size x1 _ h hfl) hN zy_X9_requireMeasure zw_534 hP hD hS [0, 2] [1, 3] [2, 0, 3, 1] (wr := [zo_X2 a_playing a_playing_places v_playing_size, (a_playing_places, .inl (zI g, 200, .inl v_playing_places))]) (W1 := [zo_X9 a_this a_score a_history a_text a_sentence a_reader a_sounds a_playing, zo_X2 a_playing a_playing_places v_playing_size, zo_X4 a_score a_score_cells v_score_size, (a_playing_places, .inl (zI g, 200, .inl v_playing_places))]) rfl rfl rfl rfl (by decide) rfl rfl (q0 := 0) (he := rfl) (hc := rfl) (rest := []) rfl hl.1 rfl (Nat.le_of_ble_eq_true rfl) ⟨rfl, rfl⟩ ⟨Nat.le_of_ble_eq_true rfl, Nat.le_of_ble_eq_true rfl⟩ ⟨Nat.le_of_ble_eq_true rfl, Nat.le_of_ble_eq_true rfl⟩ dX9_timesPlayed_2 htab hlocks hQ
  refine zRV F (k_X9_requireMeasure l N g a_this a_score a_history a_text a_sentence a_reader a_sounds a_playing a_score_cells v_score_size x1 _ hr1_) zy_X9_requireMeasure zw_534 hP hD hS [0, 2] rfl rfl (q0 := 0) (he := rfl) (hc := rfl) (rest := []) rfl hl.1 rfl (Nat.le_of_ble_eq_true rfl) ⟨rfl, rfl⟩ ⟨Nat.le_of_ble_eq_true rfl, Nat.le_of_ble_eq_true rfl⟩ ⟨Nat.zero_le _, Nat.zero_le _⟩ dX9_timesPlayed_2 (st1 := []) rfl ?_
  refine lv_aload_n hx hb dX9_timesPlayed_5 rfl (lv_at hl 0 rfl) ?_
  refine z_get (C := RX9) (T := TX9) (N := 7) (ci := 7) F zu_wsX90 hP 0 rfl rfl 6 (by decide) zw_496 rfl dX9_timesPlayed_6 ?_
  refine lv_iload_n hx hb dX9_timesPlayed_9 rfl (lv_at hl 1 rfl) ?_
  obtain ⟨r2_, hr2_, h⟩ := z_bind h
  refine zRV F (k_X2_timesOf l N g a_playing a_playing_places v_playing_size v_playing_places x1 _ hr2_) zy_X2_timesOf zw_629 hP hD hS [1, 3] rfl rfl (q0 := 1) (he := rfl) (hc := rfl) (rest := []) rfl hl.1 rfl (Nat.le_of_ble_eq_true rfl) ⟨rfl, rfl⟩ ⟨Nat.le_of_ble_eq_true rfl, Nat.le_of_ble_eq_true rfl⟩ ⟨Nat.zero_le _, Nat.zero_le _⟩ dX9_timesPlayed_10 (st1 := [.int r2_]) rfl ?_
  cases h
def f_X9_seconds (N : Nat) (v_playing_size : Int32) (v_score_size : Int32) (v_playing_places : Nat → Int32) (v_score_cells : Nat → Int32) (x1 : Int32) : Option (UInt32 ⊕ Nat) :=
  zSub (f_X9_requireNotNegative N x1) (fun (r1_ : Unit) => Option.bind (f_X2_secondsUpTo N v_playing_size v_playing_places v_score_size v_score_cells x1) (fun (r2_ : UInt32) => some (Sum.inl r2_)))
abbrev rm_X9_seconds : Room := { frames := 7, cells := 0, slots := 0, locals := 113 }
theorem zy_X9_seconds : zYv yX9_seconds RX9 cX9_seconds 2 (some .float) 1 := ⟨zw_794, zw_795, zw_527, zw_636, ⟨by decide, by decide⟩, by decide +kernel⟩
set_option maxHeartbeats 4000000 in
set_option maxRecDepth 100000 in
theorem k_X9_seconds (l : Launch) (N : Nat) (g : zEnv) (a_this a_score a_history a_text a_sentence a_reader a_sounds a_playing a_playing_places a_score_cells : Nat) (v_playing_size : Int32) (v_score_size : Int32) (v_playing_places : Nat → Int32) (v_score_cells : Nat → Int32) (x1 : Int32) (r : UInt32) (h : f_X9_seconds N v_playing_size v_score_size v_playing_places v_score_cells x1 = some (Sum.inl r)) : ZR l yX9_seconds cX9_seconds 2 (some .float) rm_X9_seconds g [.ref a_this, .int x1] [zo_X9 a_this a_score a_history a_text a_sentence a_reader a_sounds a_playing, zo_X2 a_playing a_playing_places v_playing_size, zo_X4 a_score a_score_cells v_score_size, (a_playing_places, .inl (zI g, 200, .inl v_playing_places)), (a_score_cells, .inl (zI g, 912, .inl v_score_cells))] (some (.float r)) := by
  refine zR_of (by decide) (Nat.le_of_ble_eq_true rfl) ?_
  intro p e s m below meth c A ls Q R F hRm hr hlocks hP hD hS hl hQ
  subst hRm
  have F : zF p m c cX9_seconds 2 s (([.ref a_this, .int x1] : List Value)).toArray RX9 g A := F
  have hx := F.1.1
  have hb := F.1.2.1
  have hz := F.1.2.2.2.2
  have hl : lv_has ls 2 [(0, .ref a_this), (1, .int x1)] := hl
  unfold f_X9_seconds at h
  refine lv_iload_n hx hb dX9_seconds_0 rfl (lv_at hl 1 rfl) ?_
  obtain ⟨r1_, hr1_, h⟩ := z_subL h
  refine zRS F (k_X9_requireNotNegative l N g x1 _ hr1_) zy_X9_requireNotNegative zw_601 hP hD hS [] rfl rfl (rest := []) rfl hl.1 rfl (Nat.le_of_ble_eq_true rfl) ⟨rfl, rfl⟩ ⟨Nat.le_of_ble_eq_true rfl, Nat.le_of_ble_eq_true rfl⟩ ⟨Nat.zero_le _, Nat.zero_le _⟩ dX9_seconds_1 (st1 := []) rfl ?_
  refine lv_aload_n hx hb dX9_seconds_4 rfl (lv_at hl 0 rfl) ?_
  refine z_get (C := RX9) (T := TX9) (N := 7) (ci := 7) F zu_wsX90 hP 0 rfl rfl 6 (by decide) zw_496 rfl dX9_seconds_5 ?_
  refine lv_aload_n hx hb dX9_seconds_8 rfl (lv_at hl 0 rfl) ?_
  refine z_get (C := RX9) (T := TX9) (N := 7) (ci := 7) F zu_wsX90 hP 0 rfl rfl 0 (by decide) zw_478 rfl dX9_seconds_9 ?_
  refine lv_iload_n hx hb dX9_seconds_12 rfl (lv_at hl 1 rfl) ?_
  obtain ⟨r2_, hr2_, h⟩ := z_bind h
  refine zRV F (k_X2_secondsUpTo l N g a_playing a_playing_places a_score a_score_cells v_playing_size v_playing_places v_score_size v_score_cells x1 _ hr2_) zy_X2_secondsUpTo zw_633 hP hD hS [1, 3, 2, 4] rfl rfl (q0 := 1) (he := rfl) (hc := rfl) (rest := []) rfl hl.1 rfl (Nat.le_of_ble_eq_true rfl) ⟨rfl, rfl⟩ ⟨Nat.le_of_ble_eq_true rfl, Nat.le_of_ble_eq_true rfl⟩ ⟨Nat.zero_le _, Nat.zero_le _⟩ dX9_seconds_13 (st1 := [.float r2_]) rfl ?_
  obtain rfl := Sum.inl.inj (Option.some.inj h)
  exact zR_f F hr hlocks hQ dX9_seconds_16
abbrev rx_X9_seconds : Room := { frames := 7, cells := 1, slots := 6, locals := 113 }
set_option maxHeartbeats 4000000 in
set_option maxRecDepth 100000 in
theorem kx_X9_seconds (l : Launch) (N : Nat) (g : zEnv) (a_this a_score a_history a_text a_sentence a_reader a_sounds a_playing a_playing_places a_score_cells : Nat) (v_playing_size : Int32) (v_score_size : Int32) (v_playing_places : Nat → Int32) (v_score_cells : Nat → Int32) (x1 : Int32) (r : Nat) (h : f_X9_seconds N v_playing_size v_score_size v_playing_places v_score_cells x1 = some (Sum.inr r)) (hfl : l.stackTraces = false) : ZE l yX9_seconds cX9_seconds 2 (some .float) rx_X9_seconds g [.ref a_this, .int x1] [zo_X9 a_this a_score a_history a_text a_sentence a_reader a_sounds a_playing, zo_X2 a_playing a_playing_places v_playing_size, zo_X4 a_score a_score_cells v_score_size, (a_playing_places, .inl (zI g, 200, .inl v_playing_places)), (a_score_cells, .inl (zI g, 912, .inl v_score_cells))] [zo_X9 a_this a_score a_history a_text a_sentence a_reader a_sounds a_playing, zo_X2 a_playing a_playing_places v_playing_size, zo_X4 a_score a_score_cells v_score_size, (a_playing_places, .inl (zI g, 200, .inl v_playing_places)), (a_score_cells, .inl (zI g, 912, .inl v_score_cells))] r := by
  refine zE_of (by decide) (Nat.le_of_ble_eq_true rfl) ?_
  intro p e s m below meth c A H locs ls Q R F hRm hlocks hN htab hP hD hS hl hQ
  subst hRm
  have F : zF p m c cX9_seconds 2 s (([.ref a_this, .int x1] : List Value)).toArray RX9 g A := F
  have hx := F.1.1
  have hb := F.1.2.1
  have hz := F.1.2.2.2.2
  have hl : lv_has ls 2 [(0, .ref a_this), (1, .int x1)] := hl
  unfold f_X9_seconds at h
  refine lv_iload_n hx hb dX9_seconds_0 rfl (lv_at hl 1 rfl) ?_
  refine z_subR h (fun h => ?_) (fun r1_ hr1_ h => ?_)
  · exact zXS F (kx_X9_requireNotNegative l N g x1 _ h hfl) hN zy_X9_requireNotNegative zw_601 hP hD hS [] [0, 1, 2, 3, 4] [0, 1, 2, 3, 4] (wr := [zo_X9 a_this a_score a_history a_text a_sentence a_reader a_sounds a_playing, zo_X2 a_playing a_playing_places v_playing_size, zo_X4 a_score a_score_cells v_score_size, (a_playing_places, .inl (zI g, 200, .inl v_playing_places)), (a_score_cells, .inl (zI g, 912, .inl v_score_cells))]) (W1 := [zo_X9 a_this a_score a_history a_text a_sentence a_reader a_sounds a_playing, zo_X2 a_playing a_playing_places v_playing_size, zo_X4 a_score a_score_cells v_score_size, (a_playing_places, .inl (zI g, 200, .inl v_playing_places)), (a_score_cells, .inl (zI g, 912, .inl v_score_cells))]) rfl rfl rfl rfl (by decide) rfl rfl (rest := []) rfl hl.1 rfl (Nat.le_of_ble_eq_true rfl) ⟨rfl, rfl⟩ ⟨Nat.le_of_ble_eq_true rfl, Nat.le_of_ble_eq_true rfl⟩ ⟨Nat.le_of_ble_eq_true rfl, Nat.le_of_ble_eq_true rfl⟩ dX9_seconds_1 htab hlocks hQ
  refine zRS F (k_X9_requireNotNegative l N g x1 _ hr1_) zy_X9_requireNotNegative zw_601 hP hD hS [] rfl rfl (rest := []) rfl hl.1 rfl (Nat.le_of_ble_eq_true rfl) ⟨rfl, rfl⟩ ⟨Nat.le_of_ble_eq_true rfl, Nat.le_of_ble_eq_true rfl⟩ ⟨Nat.zero_le _, Nat.zero_le _⟩ dX9_seconds_1 (st1 := []) rfl ?_
  refine lv_aload_n hx hb dX9_seconds_4 rfl (lv_at hl 0 rfl) ?_
  refine z_get (C := RX9) (T := TX9) (N := 7) (ci := 7) F zu_wsX90 hP 0 rfl rfl 6 (by decide) zw_496 rfl dX9_seconds_5 ?_
  refine lv_aload_n hx hb dX9_seconds_8 rfl (lv_at hl 0 rfl) ?_
  refine z_get (C := RX9) (T := TX9) (N := 7) (ci := 7) F zu_wsX90 hP 0 rfl rfl 0 (by decide) zw_478 rfl dX9_seconds_9 ?_
  refine lv_iload_n hx hb dX9_seconds_12 rfl (lv_at hl 1 rfl) ?_
  obtain ⟨r2_, hr2_, h⟩ := z_bind h
  refine zRV F (k_X2_secondsUpTo l N g a_playing a_playing_places a_score a_score_cells v_playing_size v_playing_places v_score_size v_score_cells x1 _ hr2_) zy_X2_secondsUpTo zw_633 hP hD hS [1, 3, 2, 4] rfl rfl (q0 := 1) (he := rfl) (hc := rfl) (rest := []) rfl hl.1 rfl (Nat.le_of_ble_eq_true rfl) ⟨rfl, rfl⟩ ⟨Nat.le_of_ble_eq_true rfl, Nat.le_of_ble_eq_true rfl⟩ ⟨Nat.zero_le _, Nat.zero_le _⟩ dX9_seconds_13 (st1 := [.float r2_]) rfl ?_
  cases h
def f_X9_placeAt (N : Nat) (v_playing_size : Int32) (v_score_size : Int32) (v_playing_places : Nat → Int32) (v_score_cells : Nat → Int32) (x1 : Int32) : Option (Int32 ⊕ Nat) :=
  zSub (f_X9_requireNotNegative N x1) (fun (r1_ : Unit) => Option.bind (f_X2_placesBegunBy N v_playing_size v_playing_places v_score_size v_score_cells (FP.i2f x1)) (fun (r2_ : Int32) => Option.bind (some (r2_ - 1)) (fun (x3_ : Int32) => if x3_ < 0 then some (Sum.inl (-1000)) else Option.bind (f_X2_size N v_playing_size) (fun (r4_ : Int32) => if x3_ < r4_ then some (Sum.inl x3_) else some (Sum.inl (-1000))))))
abbrev rm_X9_placeAt : Room := { frames := 7, cells := 0, slots := 0, locals := 114 }
theorem zy_X9_placeAt : zYv yX9_placeAt RX9 cX9_placeAt 3 (some .int) 1 := ⟨zw_797, zw_798, zw_527, zw_640, ⟨by decide, by decide⟩, by decide +kernel⟩
set_option maxHeartbeats 4000000 in
set_option maxRecDepth 100000 in
theorem k_X9_placeAt (l : Launch) (N : Nat) (g : zEnv) (a_this a_score a_history a_text a_sentence a_reader a_sounds a_playing a_playing_places a_score_cells : Nat) (v_playing_size : Int32) (v_score_size : Int32) (v_playing_places : Nat → Int32) (v_score_cells : Nat → Int32) (x1 : Int32) (r : Int32) (h : f_X9_placeAt N v_playing_size v_score_size v_playing_places v_score_cells x1 = some (Sum.inl r)) : ZR l yX9_placeAt cX9_placeAt 3 (some .int) rm_X9_placeAt g [.ref a_this, .int x1] [zo_X9 a_this a_score a_history a_text a_sentence a_reader a_sounds a_playing, zo_X2 a_playing a_playing_places v_playing_size, zo_X4 a_score a_score_cells v_score_size, (a_playing_places, .inl (zI g, 200, .inl v_playing_places)), (a_score_cells, .inl (zI g, 912, .inl v_score_cells))] (some (.int r)) := by
  refine zR_of (by decide) (Nat.le_of_ble_eq_true rfl) ?_
  intro p e s m below meth c A ls Q R F hRm hr hlocks hP hD hS hl hQ
  subst hRm
  have F : zF p m c cX9_placeAt 3 s (([.ref a_this, .int x1] : List Value)).toArray RX9 g A := F
  have hx := F.1.1
  have hb := F.1.2.1
  have hz := F.1.2.2.2.2
  have hl : lv_has ls 3 [(0, .ref a_this), (1, .int x1)] := hl
  unfold f_X9_placeAt at h
  refine lv_iload_n hx hb dX9_placeAt_0 rfl (lv_at hl 1 rfl) ?_
  obtain ⟨r1_, hr1_, h⟩ := z_subL h
  refine zRS F (k_X9_requireNotNegative l N g x1 _ hr1_) zy_X9_requireNotNegative zw_601 hP hD hS [] rfl rfl (rest := []) rfl hl.1 rfl (Nat.le_of_ble_eq_true rfl) ⟨rfl, rfl⟩ ⟨Nat.le_of_ble_eq_true rfl, Nat.le_of_ble_eq_true rfl⟩ ⟨Nat.zero_le _, Nat.zero_le _⟩ dX9_placeAt_1 (st1 := []) rfl ?_
  refine lv_aload_n hx hb dX9_placeAt_4 rfl (lv_at hl 0 rfl) ?_
  refine z_get (C := RX9) (T := TX9) (N := 7) (ci := 7) F zu_wsX90 hP 0 rfl rfl 6 (by decide) zw_496 rfl dX9_placeAt_5 ?_
  refine lv_aload_n hx hb dX9_placeAt_8 rfl (lv_at hl 0 rfl) ?_
  refine z_get (C := RX9) (T := TX9) (N := 7) (ci := 7) F zu_wsX90 hP 0 rfl rfl 0 (by decide) zw_478 rfl dX9_placeAt_9 ?_
  refine lv_iload_n hx hb dX9_placeAt_12 rfl (lv_at hl 1 rfl) ?_
  refine lv_i2f hx hb dX9_placeAt_13 ?_
  obtain ⟨r2_, hr2_, h⟩ := z_bind h
  refine zRV F (k_X2_placesBegunBy l N g a_playing a_playing_places a_score a_score_cells v_playing_size v_playing_places v_score_size v_score_cells (FP.i2f x1) _ hr2_) zy_X2_placesBegunBy zw_637 hP hD hS [1, 3, 2, 4] rfl rfl (q0 := 1) (he := rfl) (hc := rfl) (rest := []) rfl hl.1 rfl (Nat.le_of_ble_eq_true rfl) ⟨rfl, rfl⟩ ⟨Nat.le_of_ble_eq_true rfl, Nat.le_of_ble_eq_true rfl⟩ ⟨Nat.zero_le _, Nat.zero_le _⟩ dX9_placeAt_14 (st1 := [.int r2_]) rfl ?_
  refine lv_iconst (v := 1) hx hb dX9_placeAt_17 (by decide) ?_
  refine lv_isub hx hb dX9_placeAt_18 ?_
  refine z_top Value.int h (fun x3_ h => ?_)
  refine lv_istore_n (lv' := [(2, .int x3_), (0, .ref a_this), (1, .int x1)]) hx hb dX9_placeAt_19 rfl hl (by decide) rfl (fun ls hl => ?_)
  refine lv_iload_n hx hb dX9_placeAt_20 rfl (lv_at hl 0 rfl) ?_
  refine z_lt (tgt := 39) hx hb dX9_placeAt_21 (by decide) h (fun h => ?_) (fun h => ?_)
  · refine lv_sipush (v := (-1000)) hx hb dX9_placeAt_39 (by decide) ?_
    obtain rfl := Sum.inl.inj (Option.some.inj h)
    exact zR_i F hr hlocks hQ dX9_placeAt_42
  · refine lv_iload_n hx hb dX9_placeAt_24 rfl (lv_at hl 0 rfl) ?_
    refine lv_aload_n hx hb dX9_placeAt_25 rfl (lv_at hl 1 rfl) ?_
    refine z_get (C := RX9) (T := TX9) (N := 7) (ci := 7) F zu_wsX90 hP 0 rfl rfl 6 (by decide) zw_496 rfl dX9_placeAt_26 ?_
    obtain ⟨r4_, hr4_, h⟩ := z_bind h
    refine zRV F (k_X2_size l N g a_playing a_playing_places v_playing_size _ hr4_) zy_X2_size zw_616 hP hD hS [1] rfl rfl (q0 := 1) (he := rfl) (hc := rfl) (rest := [.int x3_]) rfl hl.1 rfl (Nat.le_of_ble_eq_true rfl) ⟨rfl, rfl⟩ ⟨Nat.le_of_ble_eq_true rfl, Nat.le_of_ble_eq_true rfl⟩ ⟨Nat.zero_le _, Nat.zero_le _⟩ dX9_placeAt_29 (st1 := [.int r4_, .int x3_]) rfl ?_
    refine z_cge (tgt := 39) hx hb dX9_placeAt_32 (by decide) h (fun h => ?_) (fun h => ?_)
    · refine lv_sipush (v := (-1000)) hx hb dX9_placeAt_39 (by decide) ?_
      obtain rfl := Sum.inl.inj (Option.some.inj h)
      exact zR_i F hr hlocks hQ dX9_placeAt_42
    · refine lv_iload_n hx hb dX9_placeAt_35 rfl (lv_at hl 0 rfl) ?_
      refine lv_goto (tgt := 42) hx hb dX9_placeAt_36 (by decide) ?_
      obtain rfl := Sum.inl.inj (Option.some.inj h)
      exact zR_i F hr hlocks hQ dX9_placeAt_42
abbrev rx_X9_placeAt : Room := { frames := 7, cells := 1, slots := 6, locals := 114 }
set_option maxHeartbeats 4000000 in
set_option maxRecDepth 100000 in
theorem kx_X9_placeAt (l : Launch) (N : Nat) (g : zEnv) (a_this a_score a_history a_text a_sentence a_reader a_sounds a_playing a_playing_places a_score_cells : Nat) (v_playing_size : Int32) (v_score_size : Int32) (v_playing_places : Nat → Int32) (v_score_cells : Nat → Int32) (x1 : Int32) (r : Nat) (h : f_X9_placeAt N v_playing_size v_score_size v_playing_places v_score_cells x1 = some (Sum.inr r)) (hfl : l.stackTraces = false) : ZE l yX9_placeAt cX9_placeAt 3 (some .int) rx_X9_placeAt g [.ref a_this, .int x1] [zo_X9 a_this a_score a_history a_text a_sentence a_reader a_sounds a_playing, zo_X2 a_playing a_playing_places v_playing_size, zo_X4 a_score a_score_cells v_score_size, (a_playing_places, .inl (zI g, 200, .inl v_playing_places)), (a_score_cells, .inl (zI g, 912, .inl v_score_cells))] [zo_X9 a_this a_score a_history a_text a_sentence a_reader a_sounds a_playing, zo_X2 a_playing a_playing_places v_playing_size, zo_X4 a_score a_score_cells v_score_size, (a_playing_places, .inl (zI g, 200, .inl v_playing_places)), (a_score_cells, .inl (zI g, 912, .inl v_score_cells))] r := by
  refine zE_of (by decide) (Nat.le_of_ble_eq_true rfl) ?_
  intro p e s m below meth c A H locs ls Q R F hRm hlocks hN htab hP hD hS hl hQ
  subst hRm
  have F : zF p m c cX9_placeAt 3 s (([.ref a_this, .int x1] : List Value)).toArray RX9 g A := F
  have hx := F.1.1
  have hb := F.1.2.1
  have hz := F.1.2.2.2.2
  have hl : lv_has ls 3 [(0, .ref a_this), (1, .int x1)] := hl
  unfold f_X9_placeAt at h
  refine lv_iload_n hx hb dX9_placeAt_0 rfl (lv_at hl 1 rfl) ?_
  refine z_subR h (fun h => ?_) (fun r1_ hr1_ h => ?_)
  · exact zXS F (kx_X9_requireNotNegative l N g x1 _ h hfl) hN zy_X9_requireNotNegative zw_601 hP hD hS [] [0, 1, 2, 3, 4] [0, 1, 2, 3, 4] (wr := [zo_X9 a_this a_score a_history a_text a_sentence a_reader a_sounds a_playing, zo_X2 a_playing a_playing_places v_playing_size, zo_X4 a_score a_score_cells v_score_size, (a_playing_places, .inl (zI g, 200, .inl v_playing_places)), (a_score_cells, .inl (zI g, 912, .inl v_score_cells))]) (W1 := [zo_X9 a_this a_score a_history a_text a_sentence a_reader a_sounds a_playing, zo_X2 a_playing a_playing_places v_playing_size, zo_X4 a_score a_score_cells v_score_size, (a_playing_places, .inl (zI g, 200, .inl v_playing_places)), (a_score_cells, .inl (zI g, 912, .inl v_score_cells))]) rfl rfl rfl rfl (by decide) rfl rfl (rest := []) rfl hl.1 rfl (Nat.le_of_ble_eq_true rfl) ⟨rfl, rfl⟩ ⟨Nat.le_of_ble_eq_true rfl, Nat.le_of_ble_eq_true rfl⟩ ⟨Nat.le_of_ble_eq_true rfl, Nat.le_of_ble_eq_true rfl⟩ dX9_placeAt_1 htab hlocks hQ
  refine zRS F (k_X9_requireNotNegative l N g x1 _ hr1_) zy_X9_requireNotNegative zw_601 hP hD hS [] rfl rfl (rest := []) rfl hl.1 rfl (Nat.le_of_ble_eq_true rfl) ⟨rfl, rfl⟩ ⟨Nat.le_of_ble_eq_true rfl, Nat.le_of_ble_eq_true rfl⟩ ⟨Nat.zero_le _, Nat.zero_le _⟩ dX9_placeAt_1 (st1 := []) rfl ?_
  refine lv_aload_n hx hb dX9_placeAt_4 rfl (lv_at hl 0 rfl) ?_
  refine z_get (C := RX9) (T := TX9) (N := 7) (ci := 7) F zu_wsX90 hP 0 rfl rfl 6 (by decide) zw_496 rfl dX9_placeAt_5 ?_
  refine lv_aload_n hx hb dX9_placeAt_8 rfl (lv_at hl 0 rfl) ?_
  refine z_get (C := RX9) (T := TX9) (N := 7) (ci := 7) F zu_wsX90 hP 0 rfl rfl 0 (by decide) zw_478 rfl dX9_placeAt_9 ?_
  refine lv_iload_n hx hb dX9_placeAt_12 rfl (lv_at hl 1 rfl) ?_
  refine lv_i2f hx hb dX9_placeAt_13 ?_
  obtain ⟨r2_, hr2_, h⟩ := z_bind h
  refine zRV F (k_X2_placesBegunBy l N g a_playing a_playing_places a_score a_score_cells v_playing_size v_playing_places v_score_size v_score_cells (FP.i2f x1) _ hr2_) zy_X2_placesBegunBy zw_637 hP hD hS [1, 3, 2, 4] rfl rfl (q0 := 1) (he := rfl) (hc := rfl) (rest := []) rfl hl.1 rfl (Nat.le_of_ble_eq_true rfl) ⟨rfl, rfl⟩ ⟨Nat.le_of_ble_eq_true rfl, Nat.le_of_ble_eq_true rfl⟩ ⟨Nat.zero_le _, Nat.zero_le _⟩ dX9_placeAt_14 (st1 := [.int r2_]) rfl ?_
  refine lv_iconst (v := 1) hx hb dX9_placeAt_17 (by decide) ?_
  refine lv_isub hx hb dX9_placeAt_18 ?_
  refine z_top Value.int h (fun x3_ h => ?_)
  refine lv_istore_n (lv' := [(2, .int x3_), (0, .ref a_this), (1, .int x1)]) hx hb dX9_placeAt_19 rfl hl (by decide) rfl (fun ls hl => ?_)
  refine lv_iload_n hx hb dX9_placeAt_20 rfl (lv_at hl 0 rfl) ?_
  refine z_lt (tgt := 39) hx hb dX9_placeAt_21 (by decide) h (fun h => ?_) (fun h => ?_)
  · refine lv_sipush (v := (-1000)) hx hb dX9_placeAt_39 (by decide) ?_
    cases h
  · refine lv_iload_n hx hb dX9_placeAt_24 rfl (lv_at hl 0 rfl) ?_
    refine lv_aload_n hx hb dX9_placeAt_25 rfl (lv_at hl 1 rfl) ?_
    refine z_get (C := RX9) (T := TX9) (N := 7) (ci := 7) F zu_wsX90 hP 0 rfl rfl 6 (by decide) zw_496 rfl dX9_placeAt_26 ?_
    obtain ⟨r4_, hr4_, h⟩ := z_bind h
    refine zRV F (k_X2_size l N g a_playing a_playing_places v_playing_size _ hr4_) zy_X2_size zw_616 hP hD hS [1] rfl rfl (q0 := 1) (he := rfl) (hc := rfl) (rest := [.int x3_]) rfl hl.1 rfl (Nat.le_of_ble_eq_true rfl) ⟨rfl, rfl⟩ ⟨Nat.le_of_ble_eq_true rfl, Nat.le_of_ble_eq_true rfl⟩ ⟨Nat.zero_le _, Nat.zero_le _⟩ dX9_placeAt_29 (st1 := [.int r4_, .int x3_]) rfl ?_
    refine z_cge (tgt := 39) hx hb dX9_placeAt_32 (by decide) h (fun h => ?_) (fun h => ?_)
    · refine lv_sipush (v := (-1000)) hx hb dX9_placeAt_39 (by decide) ?_
      cases h
    · refine lv_iload_n hx hb dX9_placeAt_35 rfl (lv_at hl 0 rfl) ?_
      refine lv_goto (tgt := 42) hx hb dX9_placeAt_36 (by decide) ?_
      cases h
def f_X9_sentenceLength (N : Nat) (v_score_size : Int32) (v_sentence_length : Int32) (v_sentence_wordCount : Int32) (v_score_cells : Nat → Int32) (v_sentence_bytes : Nat → Int32) (x1 : Int32) : Option ((Int32 × Int32 × Int32 × (Nat → Int32)) ⊕ Nat) :=
  zSub (f_X9_requireMeasure N v_score_size x1) (fun (r1_ : Unit) => Option.bind (f_X5_tellMeasure N v_sentence_length v_sentence_wordCount v_sentence_bytes v_score_size v_score_cells x1) (fun (r2_ : Int32 × Int32 × (Nat → Int32)) => Option.bind (f_X5_length N r2_.1) (fun (r3_ : Int32) => some (Sum.inl (r3_, r2_.1, r2_.2.1, r2_.2.2)))))
abbrev rm_X9_sentenceLength : Room := { frames := 10, cells := 0, slots := 0, locals := 291 }
theorem zy_X9_sentenceLength : zYv yX9_sentenceLength RX9 cX9_sentenceLength 2 (some .int) 1 := ⟨zw_800, zw_801, zw_527, zw_647, ⟨by decide, by decide⟩, by decide +kernel⟩
set_option maxHeartbeats 4000000 in
set_option maxRecDepth 100000 in
theorem k_X9_sentenceLength (l : Launch) (N : Nat) (g : zEnv) (a_this a_score a_history a_text a_sentence a_reader a_sounds a_playing a_score_cells a_sentence_bytes : Nat) (v_score_size : Int32) (v_sentence_length : Int32) (v_sentence_wordCount : Int32) (v_score_cells : Nat → Int32) (v_sentence_bytes : Nat → Int32) (x1 : Int32) (r : Int32 × Int32 × Int32 × (Nat → Int32)) (h : f_X9_sentenceLength N v_score_size v_sentence_length v_sentence_wordCount v_score_cells v_sentence_bytes x1 = some (Sum.inl r)) : ZV l yX9_sentenceLength cX9_sentenceLength 2 (some .int) rm_X9_sentenceLength g [.ref a_this, .int x1] [zo_X9 a_this a_score a_history a_text a_sentence a_reader a_sounds a_playing, zo_X4 a_score a_score_cells v_score_size, zo_X5 a_sentence a_sentence_bytes v_sentence_length v_sentence_wordCount, (a_score_cells, .inl (zI g, 912, .inl v_score_cells)), (a_sentence_bytes, .inl (zY g, 1702, .inl v_sentence_bytes))] [zo_X9 a_this a_score a_history a_text a_sentence a_reader a_sounds a_playing, zo_X4 a_score a_score_cells v_score_size, zo_X5 a_sentence a_sentence_bytes r.2.1 r.2.2.1, (a_score_cells, .inl (zI g, 912, .inl v_score_cells)), (a_sentence_bytes, .inl (zY g, 1702, .inl r.2.2.2))] (some (.int r.1)) := by
  refine zV_of (by decide) (Nat.le_of_ble_eq_true rfl) ?_
  intro p e s m below meth c A H locs ls Q R F hRm hr hlocks hP hD hS hl hQ
  subst hRm
  have F : zF p m c cX9_sentenceLength 2 s (([.ref a_this, .int x1] : List Value)).toArray RX9 g A := F
  have hx := F.1.1
  have hb := F.1.2.1
  have hz := F.1.2.2.2.2
  have hl : lv_has ls 2 [(0, .ref a_this), (1, .int x1)] := hl
  unfold f_X9_sentenceLength at h
  refine lv_aload_n hx hb dX9_sentenceLength_0 rfl (lv_at hl 0 rfl) ?_
  refine lv_iload_n hx hb dX9_sentenceLength_1 rfl (lv_at hl 1 rfl) ?_
  obtain ⟨r1_, hr1_, h⟩ := z_subL h
  refine zRV F (k_X9_requireMeasure l N g a_this a_score a_history a_text a_sentence a_reader a_sounds a_playing a_score_cells v_score_size x1 _ hr1_) zy_X9_requireMeasure zw_534 hP hD hS [0, 1] rfl rfl (q0 := 0) (he := rfl) (hc := rfl) (rest := []) rfl hl.1 rfl (Nat.le_of_ble_eq_true rfl) ⟨rfl, rfl⟩ ⟨Nat.le_of_ble_eq_true rfl, Nat.le_of_ble_eq_true rfl⟩ ⟨Nat.zero_le _, Nat.zero_le _⟩ dX9_sentenceLength_2 (st1 := []) rfl ?_
  refine lv_aload_n hx hb dX9_sentenceLength_5 rfl (lv_at hl 0 rfl) ?_
  refine z_get (C := RX9) (T := TX9) (N := 7) (ci := 7) F zu_wsX90 hP 0 rfl rfl 3 (by decide) zw_487 rfl dX9_sentenceLength_6 ?_
  refine lv_aload_n hx hb dX9_sentenceLength_9 rfl (lv_at hl 0 rfl) ?_
  refine z_get (C := RX9) (T := TX9) (N := 7) (ci := 7) F zu_wsX90 hP 0 rfl rfl 0 (by decide) zw_478 rfl dX9_sentenceLength_10 ?_
  refine lv_iload_n hx hb dX9_sentenceLength_13 rfl (lv_at hl 1 rfl) ?_
  obtain ⟨r2_, hr2_, h⟩ := z_bind h
  refine zVV F (k_X5_tellMeasure l N g a_sentence a_sentence_bytes a_score a_score_cells v_sentence_length v_sentence_wordCount v_sentence_bytes v_score_size v_score_cells x1 _ hr2_) zy_X5_tellMeasure zw_641 hP hD hS [2, 4, 1, 3] [0] [0, 3, 1, 4, 2] (wr := [zo_X9 a_this a_score a_history a_text a_sentence a_reader a_sounds a_playing]) (W1 := [zo_X9 a_this a_score a_history a_text a_sentence a_reader a_sounds a_playing, zo_X4 a_score a_score_cells v_score_size, zo_X5 a_sentence a_sentence_bytes r2_.1 r2_.2.1, (a_score_cells, .inl (zI g, 912, .inl v_score_cells)), (a_sentence_bytes, .inl (zY g, 1702, .inl r2_.2.2))]) rfl rfl rfl rfl (by decide) rfl rfl (q0 := 2) (he := rfl) (hc := rfl) (rest := []) rfl hl.1 rfl (Nat.le_of_ble_eq_true rfl) ⟨rfl, rfl⟩ ⟨Nat.le_of_ble_eq_true rfl, Nat.le_of_ble_eq_true rfl⟩ ⟨Nat.zero_le _, Nat.zero_le _⟩ dX9_sentenceLength_14 (st1 := []) rfl (fun H locs hP hD hS => ?_)
  refine lv_aload_n hx hb dX9_sentenceLength_17 rfl (lv_at hl 0 rfl) ?_
  refine z_get (C := RX9) (T := TX9) (N := 7) (ci := 7) F zu_wsX90 hP 0 rfl rfl 3 (by decide) zw_487 rfl dX9_sentenceLength_18 ?_
  obtain ⟨r3_, hr3_, h⟩ := z_bind h
  refine zRV F (k_X5_length l N g a_sentence a_sentence_bytes r2_.2.1 r2_.1 _ hr3_) zy_X5_length zw_644 hP hD hS [2] rfl rfl (q0 := 2) (he := rfl) (hc := rfl) (rest := []) rfl hl.1 rfl (Nat.le_of_ble_eq_true rfl) ⟨rfl, rfl⟩ ⟨Nat.le_of_ble_eq_true rfl, Nat.le_of_ble_eq_true rfl⟩ ⟨Nat.zero_le _, Nat.zero_le _⟩ dX9_sentenceLength_21 (st1 := [.int r3_]) rfl ?_
  obtain rfl := Sum.inl.inj (Option.some.inj h)
  exact zV_i F hr hlocks hQ hP hD hS dX9_sentenceLength_24
abbrev rx_X9_sentenceLength : Room := { frames := 10, cells := 1, slots := 6, locals := 291 }
set_option maxHeartbeats 4000000 in
set_option maxRecDepth 100000 in
theorem kx_X9_sentenceLength (l : Launch) (N : Nat) (g : zEnv) (a_this a_score a_history a_text a_sentence a_reader a_sounds a_playing a_score_cells a_sentence_bytes : Nat) (v_score_size : Int32) (v_sentence_length : Int32) (v_sentence_wordCount : Int32) (v_score_cells : Nat → Int32) (v_sentence_bytes : Nat → Int32) (x1 : Int32) (r : Nat) (h : f_X9_sentenceLength N v_score_size v_sentence_length v_sentence_wordCount v_score_cells v_sentence_bytes x1 = some (Sum.inr r)) (hfl : l.stackTraces = false) : ZE l yX9_sentenceLength cX9_sentenceLength 2 (some .int) rx_X9_sentenceLength g [.ref a_this, .int x1] [zo_X9 a_this a_score a_history a_text a_sentence a_reader a_sounds a_playing, zo_X4 a_score a_score_cells v_score_size, zo_X5 a_sentence a_sentence_bytes v_sentence_length v_sentence_wordCount, (a_score_cells, .inl (zI g, 912, .inl v_score_cells)), (a_sentence_bytes, .inl (zY g, 1702, .inl v_sentence_bytes))] [zo_X9 a_this a_score a_history a_text a_sentence a_reader a_sounds a_playing, zo_X4 a_score a_score_cells v_score_size, zo_X5 a_sentence a_sentence_bytes v_sentence_length v_sentence_wordCount, (a_score_cells, .inl (zI g, 912, .inl v_score_cells)), (a_sentence_bytes, .inl (zY g, 1702, .inl v_sentence_bytes))] r := by
  refine zE_of (by decide) (Nat.le_of_ble_eq_true rfl) ?_
  intro p e s m below meth c A H locs ls Q R F hRm hlocks hN htab hP hD hS hl hQ
  subst hRm
  have F : zF p m c cX9_sentenceLength 2 s (([.ref a_this, .int x1] : List Value)).toArray RX9 g A := F
  have hx := F.1.1
  have hb := F.1.2.1
  have hz := F.1.2.2.2.2
  have hl : lv_has ls 2 [(0, .ref a_this), (1, .int x1)] := hl
  unfold f_X9_sentenceLength at h
  refine lv_aload_n hx hb dX9_sentenceLength_0 rfl (lv_at hl 0 rfl) ?_
  refine lv_iload_n hx hb dX9_sentenceLength_1 rfl (lv_at hl 1 rfl) ?_
  refine z_subR h (fun h => ?_) (fun r1_ hr1_ h => ?_)
  · exact zXV F (kx_X9_requireMeasure l N g a_this a_score a_history a_text a_sentence a_reader a_sounds a_playing a_score_cells v_score_size x1 _ h hfl) hN zy_X9_requireMeasure zw_534 hP hD hS [0, 1] [2, 3, 4] [3, 4, 0, 1, 2] (wr := [zo_X5 a_sentence a_sentence_bytes v_sentence_length v_sentence_wordCount, (a_score_cells, .inl (zI g, 912, .inl v_score_cells)), (a_sentence_bytes, .inl (zY g, 1702, .inl v_sentence_bytes))]) (W1 := [zo_X9 a_this a_score a_history a_text a_sentence a_reader a_sounds a_playing, zo_X4 a_score a_score_cells v_score_size, zo_X5 a_sentence a_sentence_bytes v_sentence_length v_sentence_wordCount, (a_score_cells, .inl (zI g, 912, .inl v_score_cells)), (a_sentence_bytes, .inl (zY g, 1702, .inl v_sentence_bytes))]) rfl rfl rfl rfl (by decide) rfl rfl (q0 := 0) (he := rfl) (hc := rfl) (rest := []) rfl hl.1 rfl (Nat.le_of_ble_eq_true rfl) ⟨rfl, rfl⟩ ⟨Nat.le_of_ble_eq_true rfl, Nat.le_of_ble_eq_true rfl⟩ ⟨Nat.le_of_ble_eq_true rfl, Nat.le_of_ble_eq_true rfl⟩ dX9_sentenceLength_2 htab hlocks hQ
  refine zRV F (k_X9_requireMeasure l N g a_this a_score a_history a_text a_sentence a_reader a_sounds a_playing a_score_cells v_score_size x1 _ hr1_) zy_X9_requireMeasure zw_534 hP hD hS [0, 1] rfl rfl (q0 := 0) (he := rfl) (hc := rfl) (rest := []) rfl hl.1 rfl (Nat.le_of_ble_eq_true rfl) ⟨rfl, rfl⟩ ⟨Nat.le_of_ble_eq_true rfl, Nat.le_of_ble_eq_true rfl⟩ ⟨Nat.zero_le _, Nat.zero_le _⟩ dX9_sentenceLength_2 (st1 := []) rfl ?_
  refine lv_aload_n hx hb dX9_sentenceLength_5 rfl (lv_at hl 0 rfl) ?_
  refine z_get (C := RX9) (T := TX9) (N := 7) (ci := 7) F zu_wsX90 hP 0 rfl rfl 3 (by decide) zw_487 rfl dX9_sentenceLength_6 ?_
  refine lv_aload_n hx hb dX9_sentenceLength_9 rfl (lv_at hl 0 rfl) ?_
  refine z_get (C := RX9) (T := TX9) (N := 7) (ci := 7) F zu_wsX90 hP 0 rfl rfl 0 (by decide) zw_478 rfl dX9_sentenceLength_10 ?_
  refine lv_iload_n hx hb dX9_sentenceLength_13 rfl (lv_at hl 1 rfl) ?_
  obtain ⟨r2_, hr2_, h⟩ := z_bind h
  refine zVV F (k_X5_tellMeasure l N g a_sentence a_sentence_bytes a_score a_score_cells v_sentence_length v_sentence_wordCount v_sentence_bytes v_score_size v_score_cells x1 _ hr2_) zy_X5_tellMeasure zw_641 hP hD hS [2, 4, 1, 3] [0] [0, 3, 1, 4, 2] (wr := [zo_X9 a_this a_score a_history a_text a_sentence a_reader a_sounds a_playing]) (W1 := [zo_X9 a_this a_score a_history a_text a_sentence a_reader a_sounds a_playing, zo_X4 a_score a_score_cells v_score_size, zo_X5 a_sentence a_sentence_bytes r2_.1 r2_.2.1, (a_score_cells, .inl (zI g, 912, .inl v_score_cells)), (a_sentence_bytes, .inl (zY g, 1702, .inl r2_.2.2))]) rfl rfl rfl rfl (by decide) rfl rfl (q0 := 2) (he := rfl) (hc := rfl) (rest := []) rfl hl.1 rfl (Nat.le_of_ble_eq_true rfl) ⟨rfl, rfl⟩ ⟨Nat.le_of_ble_eq_true rfl, Nat.le_of_ble_eq_true rfl⟩ ⟨Nat.zero_le _, Nat.zero_le _⟩ dX9_sentenceLength_14 (st1 := []) rfl (fun H locs hP hD hS => ?_)
  refine lv_aload_n hx hb dX9_sentenceLength_17 rfl (lv_at hl 0 rfl) ?_
  refine z_get (C := RX9) (T := TX9) (N := 7) (ci := 7) F zu_wsX90 hP 0 rfl rfl 3 (by decide) zw_487 rfl dX9_sentenceLength_18 ?_
  obtain ⟨r3_, hr3_, h⟩ := z_bind h
  refine zRV F (k_X5_length l N g a_sentence a_sentence_bytes r2_.2.1 r2_.1 _ hr3_) zy_X5_length zw_644 hP hD hS [2] rfl rfl (q0 := 2) (he := rfl) (hc := rfl) (rest := []) rfl hl.1 rfl (Nat.le_of_ble_eq_true rfl) ⟨rfl, rfl⟩ ⟨Nat.le_of_ble_eq_true rfl, Nat.le_of_ble_eq_true rfl⟩ ⟨Nat.zero_le _, Nat.zero_le _⟩ dX9_sentenceLength_21 (st1 := [.int r3_]) rfl ?_
  cases h
def f_X9_sentenceByte (N : Nat) (v_score_size : Int32) (v_sentence_length : Int32) (v_sentence_wordCount : Int32) (v_score_cells : Nat → Int32) (v_sentence_bytes : Nat → Int32) (x1 : Int32) (x2 : Int32) : Option ((Int32 × Int32 × Int32 × (Nat → Int32)) ⊕ Nat) :=
  zSub (f_X9_requireMeasure N v_score_size x1) (fun (r1_ : Unit) => zSub (f_X9_requireNotNegative N x2) (fun (r2_ : Unit) => Option.bind (f_X5_tellMeasure N v_sentence_length v_sentence_wordCount v_sentence_bytes v_score_size v_score_cells x1) (fun (r3_ : Int32 × Int32 × (Nat → Int32)) => Option.bind (f_X5_length N r3_.1) (fun (r4_ : Int32) => if x2 < r4_ then Option.bind (f_X5_at N r3_.1 r3_.2.2 x2) (fun (r5_ : Int32) => some (Sum.inl (r5_, r3_.1, r3_.2.1, r3_.2.2))) else some (Sum.inl ((-1000), r3_.1, r3_.2.1, r3_.2.2))))))
abbrev rm_X9_sentenceByte : Room := { frames := 10, cells := 0, slots := 0, locals := 291 }
theorem zy_X9_sentenceByte : zYv yX9_sentenceByte RX9 cX9_sentenceByte 3 (some .int) 2 := ⟨zw_803, zw_804, zw_527, zw_651, ⟨by decide, by decide⟩, by decide +kernel⟩
set_option maxHeartbeats 4000000 in
set_option maxRecDepth 100000 in
theorem k_X9_sentenceByte (l : Launch) (N : Nat) (g : zEnv) (a_this a_score a_history a_text a_sentence a_reader a_sounds a_playing a_score_cells a_sentence_bytes : Nat) (v_score_size : Int32) (v_sentence_length : Int32) (v_sentence_wordCount : Int32) (v_score_cells : Nat → Int32) (v_sentence_bytes : Nat → Int32) (x1 : Int32) (x2 : Int32) (r : Int32 × Int32 × Int32 × (Nat → Int32)) (h : f_X9_sentenceByte N v_score_size v_sentence_length v_sentence_wordCount v_score_cells v_sentence_bytes x1 x2 = some (Sum.inl r)) : ZV l yX9_sentenceByte cX9_sentenceByte 3 (some .int) rm_X9_sentenceByte g [.ref a_this, .int x1, .int x2] [zo_X9 a_this a_score a_history a_text a_sentence a_reader a_sounds a_playing, zo_X4 a_score a_score_cells v_score_size, zo_X5 a_sentence a_sentence_bytes v_sentence_length v_sentence_wordCount, (a_score_cells, .inl (zI g, 912, .inl v_score_cells)), (a_sentence_bytes, .inl (zY g, 1702, .inl v_sentence_bytes))] [zo_X9 a_this a_score a_history a_text a_sentence a_reader a_sounds a_playing, zo_X4 a_score a_score_cells v_score_size, zo_X5 a_sentence a_sentence_bytes r.2.1 r.2.2.1, (a_score_cells, .inl (zI g, 912, .inl v_score_cells)), (a_sentence_bytes, .inl (zY g, 1702, .inl r.2.2.2))] (some (.int r.1)) := by
  refine zV_of (by decide) (Nat.le_of_ble_eq_true rfl) ?_
  intro p e s m below meth c A H locs ls Q R F hRm hr hlocks hP hD hS hl hQ
  subst hRm
  have F : zF p m c cX9_sentenceByte 3 s (([.ref a_this, .int x1, .int x2] : List Value)).toArray RX9 g A := F
  have hx := F.1.1
  have hb := F.1.2.1
  have hz := F.1.2.2.2.2
  have hl : lv_has ls 3 [(0, .ref a_this), (1, .int x1), (2, .int x2)] := hl
  unfold f_X9_sentenceByte at h
  refine lv_aload_n hx hb dX9_sentenceByte_0 rfl (lv_at hl 0 rfl) ?_
  refine lv_iload_n hx hb dX9_sentenceByte_1 rfl (lv_at hl 1 rfl) ?_
  obtain ⟨r1_, hr1_, h⟩ := z_subL h
  refine zRV F (k_X9_requireMeasure l N g a_this a_score a_history a_text a_sentence a_reader a_sounds a_playing a_score_cells v_score_size x1 _ hr1_) zy_X9_requireMeasure zw_534 hP hD hS [0, 1] rfl rfl (q0 := 0) (he := rfl) (hc := rfl) (rest := []) rfl hl.1 rfl (Nat.le_of_ble_eq_true rfl) ⟨rfl, rfl⟩ ⟨Nat.le_of_ble_eq_true rfl, Nat.le_of_ble_eq_true rfl⟩ ⟨Nat.zero_le _, Nat.zero_le _⟩ dX9_sentenceByte_2 (st1 := []) rfl ?_
  refine lv_iload_n hx hb dX9_sentenceByte_5 rfl (lv_at hl 2 rfl) ?_
  obtain ⟨r2_, hr2_, h⟩ := z_subL h
  refine zRS F (k_X9_requireNotNegative l N g x2 _ hr2_) zy_X9_requireNotNegative zw_601 hP hD hS [] rfl rfl (rest := []) rfl hl.1 rfl (Nat.le_of_ble_eq_true rfl) ⟨rfl, rfl⟩ ⟨Nat.le_of_ble_eq_true rfl, Nat.le_of_ble_eq_true rfl⟩ ⟨Nat.zero_le _, Nat.zero_le _⟩ dX9_sentenceByte_6 (st1 := []) rfl ?_
  refine lv_aload_n hx hb dX9_sentenceByte_9 rfl (lv_at hl 0 rfl) ?_
  refine z_get (C := RX9) (T := TX9) (N := 7) (ci := 7) F zu_wsX90 hP 0 rfl rfl 3 (by decide) zw_487 rfl dX9_sentenceByte_10 ?_
  refine lv_aload_n hx hb dX9_sentenceByte_13 rfl (lv_at hl 0 rfl) ?_
  refine z_get (C := RX9) (T := TX9) (N := 7) (ci := 7) F zu_wsX90 hP 0 rfl rfl 0 (by decide) zw_478 rfl dX9_sentenceByte_14 ?_
  refine lv_iload_n hx hb dX9_sentenceByte_17 rfl (lv_at hl 1 rfl) ?_
  obtain ⟨r3_, hr3_, h⟩ := z_bind h
  refine zVV F (k_X5_tellMeasure l N g a_sentence a_sentence_bytes a_score a_score_cells v_sentence_length v_sentence_wordCount v_sentence_bytes v_score_size v_score_cells x1 _ hr3_) zy_X5_tellMeasure zw_641 hP hD hS [2, 4, 1, 3] [0] [0, 3, 1, 4, 2] (wr := [zo_X9 a_this a_score a_history a_text a_sentence a_reader a_sounds a_playing]) (W1 := [zo_X9 a_this a_score a_history a_text a_sentence a_reader a_sounds a_playing, zo_X4 a_score a_score_cells v_score_size, zo_X5 a_sentence a_sentence_bytes r3_.1 r3_.2.1, (a_score_cells, .inl (zI g, 912, .inl v_score_cells)), (a_sentence_bytes, .inl (zY g, 1702, .inl r3_.2.2))]) rfl rfl rfl rfl (by decide) rfl rfl (q0 := 2) (he := rfl) (hc := rfl) (rest := []) rfl hl.1 rfl (Nat.le_of_ble_eq_true rfl) ⟨rfl, rfl⟩ ⟨Nat.le_of_ble_eq_true rfl, Nat.le_of_ble_eq_true rfl⟩ ⟨Nat.zero_le _, Nat.zero_le _⟩ dX9_sentenceByte_18 (st1 := []) rfl (fun H locs hP hD hS => ?_)
  refine lv_iload_n hx hb dX9_sentenceByte_21 rfl (lv_at hl 2 rfl) ?_
  refine lv_aload_n hx hb dX9_sentenceByte_22 rfl (lv_at hl 0 rfl) ?_
  refine z_get (C := RX9) (T := TX9) (N := 7) (ci := 7) F zu_wsX90 hP 0 rfl rfl 3 (by decide) zw_487 rfl dX9_sentenceByte_23 ?_
  obtain ⟨r4_, hr4_, h⟩ := z_bind h
  refine zRV F (k_X5_length l N g a_sentence a_sentence_bytes r3_.2.1 r3_.1 _ hr4_) zy_X5_length zw_644 hP hD hS [2] rfl rfl (q0 := 2) (he := rfl) (hc := rfl) (rest := [.int x2]) rfl hl.1 rfl (Nat.le_of_ble_eq_true rfl) ⟨rfl, rfl⟩ ⟨Nat.le_of_ble_eq_true rfl, Nat.le_of_ble_eq_true rfl⟩ ⟨Nat.zero_le _, Nat.zero_le _⟩ dX9_sentenceByte_26 (st1 := [.int r4_, .int x2]) rfl ?_
  refine z_cge (tgt := 43) hx hb dX9_sentenceByte_29 (by decide) h (fun h => ?_) (fun h => ?_)
  · refine lv_sipush (v := (-1000)) hx hb dX9_sentenceByte_43 (by decide) ?_
    obtain rfl := Sum.inl.inj (Option.some.inj h)
    exact zV_i F hr hlocks hQ hP hD hS dX9_sentenceByte_46
  · refine lv_aload_n hx hb dX9_sentenceByte_32 rfl (lv_at hl 0 rfl) ?_
    refine z_get (C := RX9) (T := TX9) (N := 7) (ci := 7) F zu_wsX90 hP 0 rfl rfl 3 (by decide) zw_487 rfl dX9_sentenceByte_33 ?_
    refine lv_iload_n hx hb dX9_sentenceByte_36 rfl (lv_at hl 2 rfl) ?_
    obtain ⟨r5_, hr5_, h⟩ := z_bind h
    refine zRV F (k_X5_at l N g a_sentence a_sentence_bytes r3_.2.1 r3_.1 r3_.2.2 x2 _ hr5_) zy_X5_at zw_648 hP hD hS [2, 4] rfl rfl (q0 := 2) (he := rfl) (hc := rfl) (rest := []) rfl hl.1 rfl (Nat.le_of_ble_eq_true rfl) ⟨rfl, rfl⟩ ⟨Nat.le_of_ble_eq_true rfl, Nat.le_of_ble_eq_true rfl⟩ ⟨Nat.zero_le _, Nat.zero_le _⟩ dX9_sentenceByte_37 (st1 := [.int r5_]) rfl ?_
    refine lv_goto (tgt := 46) hx hb dX9_sentenceByte_40 (by decide) ?_
    obtain rfl := Sum.inl.inj (Option.some.inj h)
    exact zV_i F hr hlocks hQ hP hD hS dX9_sentenceByte_46
abbrev rx_X9_sentenceByte : Room := { frames := 10, cells := 1, slots := 6, locals := 291 }
set_option maxHeartbeats 4000000 in
set_option maxRecDepth 100000 in
theorem kx_X9_sentenceByte (l : Launch) (N : Nat) (g : zEnv) (a_this a_score a_history a_text a_sentence a_reader a_sounds a_playing a_score_cells a_sentence_bytes : Nat) (v_score_size : Int32) (v_sentence_length : Int32) (v_sentence_wordCount : Int32) (v_score_cells : Nat → Int32) (v_sentence_bytes : Nat → Int32) (x1 : Int32) (x2 : Int32) (r : Nat) (h : f_X9_sentenceByte N v_score_size v_sentence_length v_sentence_wordCount v_score_cells v_sentence_bytes x1 x2 = some (Sum.inr r)) (hfl : l.stackTraces = false) : ZE l yX9_sentenceByte cX9_sentenceByte 3 (some .int) rx_X9_sentenceByte g [.ref a_this, .int x1, .int x2] [zo_X9 a_this a_score a_history a_text a_sentence a_reader a_sounds a_playing, zo_X4 a_score a_score_cells v_score_size, zo_X5 a_sentence a_sentence_bytes v_sentence_length v_sentence_wordCount, (a_score_cells, .inl (zI g, 912, .inl v_score_cells)), (a_sentence_bytes, .inl (zY g, 1702, .inl v_sentence_bytes))] [zo_X9 a_this a_score a_history a_text a_sentence a_reader a_sounds a_playing, zo_X4 a_score a_score_cells v_score_size, zo_X5 a_sentence a_sentence_bytes v_sentence_length v_sentence_wordCount, (a_score_cells, .inl (zI g, 912, .inl v_score_cells)), (a_sentence_bytes, .inl (zY g, 1702, .inl v_sentence_bytes))] r := by
  refine zE_of (by decide) (Nat.le_of_ble_eq_true rfl) ?_
  intro p e s m below meth c A H locs ls Q R F hRm hlocks hN htab hP hD hS hl hQ
  subst hRm
  have F : zF p m c cX9_sentenceByte 3 s (([.ref a_this, .int x1, .int x2] : List Value)).toArray RX9 g A := F
  have hx := F.1.1
  have hb := F.1.2.1
  have hz := F.1.2.2.2.2
  have hl : lv_has ls 3 [(0, .ref a_this), (1, .int x1), (2, .int x2)] := hl
  unfold f_X9_sentenceByte at h
  refine lv_aload_n hx hb dX9_sentenceByte_0 rfl (lv_at hl 0 rfl) ?_
  refine lv_iload_n hx hb dX9_sentenceByte_1 rfl (lv_at hl 1 rfl) ?_
  refine z_subR h (fun h => ?_) (fun r1_ hr1_ h => ?_)
  · exact zXV F (kx_X9_requireMeasure l N g a_this a_score a_history a_text a_sentence a_reader a_sounds a_playing a_score_cells v_score_size x1 _ h hfl) hN zy_X9_requireMeasure zw_534 hP hD hS [0, 1] [2, 3, 4] [3, 4, 0, 1, 2] (wr := [zo_X5 a_sentence a_sentence_bytes v_sentence_length v_sentence_wordCount, (a_score_cells, .inl (zI g, 912, .inl v_score_cells)), (a_sentence_bytes, .inl (zY g, 1702, .inl v_sentence_bytes))]) (W1 := [zo_X9 a_this a_score a_history a_text a_sentence a_reader a_sounds a_playing, zo_X4 a_score a_score_cells v_score_size, zo_X5 a_sentence a_sentence_bytes v_sentence_length v_sentence_wordCount, (a_score_cells, .inl (zI g, 912, .inl v_score_cells)), (a_sentence_bytes, .inl (zY g, 1702, .inl v_sentence_bytes))]) rfl rfl rfl rfl (by decide) rfl rfl (q0 := 0) (he := rfl) (hc := rfl) (rest := []) rfl hl.1 rfl (Nat.le_of_ble_eq_true rfl) ⟨rfl, rfl⟩ ⟨Nat.le_of_ble_eq_true rfl, Nat.le_of_ble_eq_true rfl⟩ ⟨Nat.le_of_ble_eq_true rfl, Nat.le_of_ble_eq_true rfl⟩ dX9_sentenceByte_2 htab hlocks hQ
  refine zRV F (k_X9_requireMeasure l N g a_this a_score a_history a_text a_sentence a_reader a_sounds a_playing a_score_cells v_score_size x1 _ hr1_) zy_X9_requireMeasure zw_534 hP hD hS [0, 1] rfl rfl (q0 := 0) (he := rfl) (hc := rfl) (rest := []) rfl hl.1 rfl (Nat.le_of_ble_eq_true rfl) ⟨rfl, rfl⟩ ⟨Nat.le_of_ble_eq_true rfl, Nat.le_of_ble_eq_true rfl⟩ ⟨Nat.zero_le _, Nat.zero_le _⟩ dX9_sentenceByte_2 (st1 := []) rfl ?_
  refine lv_iload_n hx hb dX9_sentenceByte_5 rfl (lv_at hl 2 rfl) ?_
  refine z_subR h (fun h => ?_) (fun r2_ hr2_ h => ?_)
  · exact zXS F (kx_X9_requireNotNegative l N g x2 _ h hfl) hN zy_X9_requireNotNegative zw_601 hP hD hS [] [0, 1, 2, 3, 4] [0, 1, 2, 3, 4] (wr := [zo_X9 a_this a_score a_history a_text a_sentence a_reader a_sounds a_playing, zo_X4 a_score a_score_cells v_score_size, zo_X5 a_sentence a_sentence_bytes v_sentence_length v_sentence_wordCount, (a_score_cells, .inl (zI g, 912, .inl v_score_cells)), (a_sentence_bytes, .inl (zY g, 1702, .inl v_sentence_bytes))]) (W1 := [zo_X9 a_this a_score a_history a_text a_sentence a_reader a_sounds a_playing, zo_X4 a_score a_score_cells v_score_size, zo_X5 a_sentence a_sentence_bytes v_sentence_length v_sentence_wordCount, (a_score_cells, .inl (zI g, 912, .inl v_score_cells)), (a_sentence_bytes, .inl (zY g, 1702, .inl v_sentence_bytes))]) rfl rfl rfl rfl (by decide) rfl rfl (rest := []) rfl hl.1 rfl (Nat.le_of_ble_eq_true rfl) ⟨rfl, rfl⟩ ⟨Nat.le_of_ble_eq_true rfl, Nat.le_of_ble_eq_true rfl⟩ ⟨Nat.le_of_ble_eq_true rfl, Nat.le_of_ble_eq_true rfl⟩ dX9_sentenceByte_6 htab hlocks hQ
  refine zRS F (k_X9_requireNotNegative l N g x2 _ hr2_) zy_X9_requireNotNegative zw_601 hP hD hS [] rfl rfl (rest := []) rfl hl.1 rfl (Nat.le_of_ble_eq_true rfl) ⟨rfl, rfl⟩ ⟨Nat.le_of_ble_eq_true rfl, Nat.le_of_ble_eq_true rfl⟩ ⟨Nat.zero_le _, Nat.zero_le _⟩ dX9_sentenceByte_6 (st1 := []) rfl ?_
  refine lv_aload_n hx hb dX9_sentenceByte_9 rfl (lv_at hl 0 rfl) ?_
  refine z_get (C := RX9) (T := TX9) (N := 7) (ci := 7) F zu_wsX90 hP 0 rfl rfl 3 (by decide) zw_487 rfl dX9_sentenceByte_10 ?_
  refine lv_aload_n hx hb dX9_sentenceByte_13 rfl (lv_at hl 0 rfl) ?_
  refine z_get (C := RX9) (T := TX9) (N := 7) (ci := 7) F zu_wsX90 hP 0 rfl rfl 0 (by decide) zw_478 rfl dX9_sentenceByte_14 ?_
  refine lv_iload_n hx hb dX9_sentenceByte_17 rfl (lv_at hl 1 rfl) ?_
  obtain ⟨r3_, hr3_, h⟩ := z_bind h
  refine zVV F (k_X5_tellMeasure l N g a_sentence a_sentence_bytes a_score a_score_cells v_sentence_length v_sentence_wordCount v_sentence_bytes v_score_size v_score_cells x1 _ hr3_) zy_X5_tellMeasure zw_641 hP hD hS [2, 4, 1, 3] [0] [0, 3, 1, 4, 2] (wr := [zo_X9 a_this a_score a_history a_text a_sentence a_reader a_sounds a_playing]) (W1 := [zo_X9 a_this a_score a_history a_text a_sentence a_reader a_sounds a_playing, zo_X4 a_score a_score_cells v_score_size, zo_X5 a_sentence a_sentence_bytes r3_.1 r3_.2.1, (a_score_cells, .inl (zI g, 912, .inl v_score_cells)), (a_sentence_bytes, .inl (zY g, 1702, .inl r3_.2.2))]) rfl rfl rfl rfl (by decide) rfl rfl (q0 := 2) (he := rfl) (hc := rfl) (rest := []) rfl hl.1 rfl (Nat.le_of_ble_eq_true rfl) ⟨rfl, rfl⟩ ⟨Nat.le_of_ble_eq_true rfl, Nat.le_of_ble_eq_true rfl⟩ ⟨Nat.zero_le _, Nat.zero_le _⟩ dX9_sentenceByte_18 (st1 := []) rfl (fun H locs hP hD hS => ?_)
  refine lv_iload_n hx hb dX9_sentenceByte_21 rfl (lv_at hl 2 rfl) ?_
  refine lv_aload_n hx hb dX9_sentenceByte_22 rfl (lv_at hl 0 rfl) ?_
  refine z_get (C := RX9) (T := TX9) (N := 7) (ci := 7) F zu_wsX90 hP 0 rfl rfl 3 (by decide) zw_487 rfl dX9_sentenceByte_23 ?_
  obtain ⟨r4_, hr4_, h⟩ := z_bind h
  refine zRV F (k_X5_length l N g a_sentence a_sentence_bytes r3_.2.1 r3_.1 _ hr4_) zy_X5_length zw_644 hP hD hS [2] rfl rfl (q0 := 2) (he := rfl) (hc := rfl) (rest := [.int x2]) rfl hl.1 rfl (Nat.le_of_ble_eq_true rfl) ⟨rfl, rfl⟩ ⟨Nat.le_of_ble_eq_true rfl, Nat.le_of_ble_eq_true rfl⟩ ⟨Nat.zero_le _, Nat.zero_le _⟩ dX9_sentenceByte_26 (st1 := [.int r4_, .int x2]) rfl ?_
  refine z_cge (tgt := 43) hx hb dX9_sentenceByte_29 (by decide) h (fun h => ?_) (fun h => ?_)
  · refine lv_sipush (v := (-1000)) hx hb dX9_sentenceByte_43 (by decide) ?_
    cases h
  · refine lv_aload_n hx hb dX9_sentenceByte_32 rfl (lv_at hl 0 rfl) ?_
    refine z_get (C := RX9) (T := TX9) (N := 7) (ci := 7) F zu_wsX90 hP 0 rfl rfl 3 (by decide) zw_487 rfl dX9_sentenceByte_33 ?_
    refine lv_iload_n hx hb dX9_sentenceByte_36 rfl (lv_at hl 2 rfl) ?_
    obtain ⟨r5_, hr5_, h⟩ := z_bind h
    refine zRV F (k_X5_at l N g a_sentence a_sentence_bytes r3_.2.1 r3_.1 r3_.2.2 x2 _ hr5_) zy_X5_at zw_648 hP hD hS [2, 4] rfl rfl (q0 := 2) (he := rfl) (hc := rfl) (rest := []) rfl hl.1 rfl (Nat.le_of_ble_eq_true rfl) ⟨rfl, rfl⟩ ⟨Nat.le_of_ble_eq_true rfl, Nat.le_of_ble_eq_true rfl⟩ ⟨Nat.zero_le _, Nat.zero_le _⟩ dX9_sentenceByte_37 (st1 := [.int r5_]) rfl ?_
    refine lv_goto (tgt := 46) hx hb dX9_sentenceByte_40 (by decide) ?_
    cases h
def f_X9_words (N : Nat) (v_score_size : Int32) (v_sentence_length : Int32) (v_sentence_wordCount : Int32) (v_score_cells : Nat → Int32) (v_sentence_bytes : Nat → Int32) (x1 : Int32) : Option ((Int32 × Int32 × Int32 × (Nat → Int32)) ⊕ Nat) :=
  zSub (f_X9_requireMeasure N v_score_size x1) (fun (r1_ : Unit) => Option.bind (f_X5_tellMeasure N v_sentence_length v_sentence_wordCount v_sentence_bytes v_score_size v_score_cells x1) (fun (r2_ : Int32 × Int32 × (Nat → Int32)) => Option.bind (f_X5_wordCount N r2_.2.1) (fun (r3_ : Int32) => some (Sum.inl (r3_, r2_.1, r2_.2.1, r2_.2.2)))))
abbrev rm_X9_words : Room := { frames := 10, cells := 0, slots := 0, locals := 291 }
theorem zy_X9_words : zYv yX9_words RX9 cX9_words 2 (some .int) 1 := ⟨zw_806, zw_807, zw_527, zw_655, ⟨by decide, by decide⟩, by decide +kernel⟩
set_option maxHeartbeats 4000000 in
set_option maxRecDepth 100000 in
theorem k_X9_words (l : Launch) (N : Nat) (g : zEnv) (a_this a_score a_history a_text a_sentence a_reader a_sounds a_playing a_score_cells a_sentence_bytes : Nat) (v_score_size : Int32) (v_sentence_length : Int32) (v_sentence_wordCount : Int32) (v_score_cells : Nat → Int32) (v_sentence_bytes : Nat → Int32) (x1 : Int32) (r : Int32 × Int32 × Int32 × (Nat → Int32)) (h : f_X9_words N v_score_size v_sentence_length v_sentence_wordCount v_score_cells v_sentence_bytes x1 = some (Sum.inl r)) : ZV l yX9_words cX9_words 2 (some .int) rm_X9_words g [.ref a_this, .int x1] [zo_X9 a_this a_score a_history a_text a_sentence a_reader a_sounds a_playing, zo_X4 a_score a_score_cells v_score_size, zo_X5 a_sentence a_sentence_bytes v_sentence_length v_sentence_wordCount, (a_score_cells, .inl (zI g, 912, .inl v_score_cells)), (a_sentence_bytes, .inl (zY g, 1702, .inl v_sentence_bytes))] [zo_X9 a_this a_score a_history a_text a_sentence a_reader a_sounds a_playing, zo_X4 a_score a_score_cells v_score_size, zo_X5 a_sentence a_sentence_bytes r.2.1 r.2.2.1, (a_score_cells, .inl (zI g, 912, .inl v_score_cells)), (a_sentence_bytes, .inl (zY g, 1702, .inl r.2.2.2))] (some (.int r.1)) := by
  refine zV_of (by decide) (Nat.le_of_ble_eq_true rfl) ?_
  intro p e s m below meth c A H locs ls Q R F hRm hr hlocks hP hD hS hl hQ
  subst hRm
  have F : zF p m c cX9_words 2 s (([.ref a_this, .int x1] : List Value)).toArray RX9 g A := F
  have hx := F.1.1
  have hb := F.1.2.1
  have hz := F.1.2.2.2.2
  have hl : lv_has ls 2 [(0, .ref a_this), (1, .int x1)] := hl
  unfold f_X9_words at h
  refine lv_aload_n hx hb dX9_words_0 rfl (lv_at hl 0 rfl) ?_
  refine lv_iload_n hx hb dX9_words_1 rfl (lv_at hl 1 rfl) ?_
  obtain ⟨r1_, hr1_, h⟩ := z_subL h
  refine zRV F (k_X9_requireMeasure l N g a_this a_score a_history a_text a_sentence a_reader a_sounds a_playing a_score_cells v_score_size x1 _ hr1_) zy_X9_requireMeasure zw_534 hP hD hS [0, 1] rfl rfl (q0 := 0) (he := rfl) (hc := rfl) (rest := []) rfl hl.1 rfl (Nat.le_of_ble_eq_true rfl) ⟨rfl, rfl⟩ ⟨Nat.le_of_ble_eq_true rfl, Nat.le_of_ble_eq_true rfl⟩ ⟨Nat.zero_le _, Nat.zero_le _⟩ dX9_words_2 (st1 := []) rfl ?_
  refine lv_aload_n hx hb dX9_words_5 rfl (lv_at hl 0 rfl) ?_
  refine z_get (C := RX9) (T := TX9) (N := 7) (ci := 7) F zu_wsX90 hP 0 rfl rfl 3 (by decide) zw_487 rfl dX9_words_6 ?_
  refine lv_aload_n hx hb dX9_words_9 rfl (lv_at hl 0 rfl) ?_
  refine z_get (C := RX9) (T := TX9) (N := 7) (ci := 7) F zu_wsX90 hP 0 rfl rfl 0 (by decide) zw_478 rfl dX9_words_10 ?_
  refine lv_iload_n hx hb dX9_words_13 rfl (lv_at hl 1 rfl) ?_
  obtain ⟨r2_, hr2_, h⟩ := z_bind h
  refine zVV F (k_X5_tellMeasure l N g a_sentence a_sentence_bytes a_score a_score_cells v_sentence_length v_sentence_wordCount v_sentence_bytes v_score_size v_score_cells x1 _ hr2_) zy_X5_tellMeasure zw_641 hP hD hS [2, 4, 1, 3] [0] [0, 3, 1, 4, 2] (wr := [zo_X9 a_this a_score a_history a_text a_sentence a_reader a_sounds a_playing]) (W1 := [zo_X9 a_this a_score a_history a_text a_sentence a_reader a_sounds a_playing, zo_X4 a_score a_score_cells v_score_size, zo_X5 a_sentence a_sentence_bytes r2_.1 r2_.2.1, (a_score_cells, .inl (zI g, 912, .inl v_score_cells)), (a_sentence_bytes, .inl (zY g, 1702, .inl r2_.2.2))]) rfl rfl rfl rfl (by decide) rfl rfl (q0 := 2) (he := rfl) (hc := rfl) (rest := []) rfl hl.1 rfl (Nat.le_of_ble_eq_true rfl) ⟨rfl, rfl⟩ ⟨Nat.le_of_ble_eq_true rfl, Nat.le_of_ble_eq_true rfl⟩ ⟨Nat.zero_le _, Nat.zero_le _⟩ dX9_words_14 (st1 := []) rfl (fun H locs hP hD hS => ?_)
  refine lv_aload_n hx hb dX9_words_17 rfl (lv_at hl 0 rfl) ?_
  refine z_get (C := RX9) (T := TX9) (N := 7) (ci := 7) F zu_wsX90 hP 0 rfl rfl 3 (by decide) zw_487 rfl dX9_words_18 ?_
  obtain ⟨r3_, hr3_, h⟩ := z_bind h
  refine zRV F (k_X5_wordCount l N g a_sentence a_sentence_bytes r2_.1 r2_.2.1 _ hr3_) zy_X5_wordCount zw_652 hP hD hS [2] rfl rfl (q0 := 2) (he := rfl) (hc := rfl) (rest := []) rfl hl.1 rfl (Nat.le_of_ble_eq_true rfl) ⟨rfl, rfl⟩ ⟨Nat.le_of_ble_eq_true rfl, Nat.le_of_ble_eq_true rfl⟩ ⟨Nat.zero_le _, Nat.zero_le _⟩ dX9_words_21 (st1 := [.int r3_]) rfl ?_
  obtain rfl := Sum.inl.inj (Option.some.inj h)
  exact zV_i F hr hlocks hQ hP hD hS dX9_words_24
abbrev rx_X9_words : Room := { frames := 10, cells := 1, slots := 6, locals := 291 }
set_option maxHeartbeats 4000000 in
set_option maxRecDepth 100000 in
theorem kx_X9_words (l : Launch) (N : Nat) (g : zEnv) (a_this a_score a_history a_text a_sentence a_reader a_sounds a_playing a_score_cells a_sentence_bytes : Nat) (v_score_size : Int32) (v_sentence_length : Int32) (v_sentence_wordCount : Int32) (v_score_cells : Nat → Int32) (v_sentence_bytes : Nat → Int32) (x1 : Int32) (r : Nat) (h : f_X9_words N v_score_size v_sentence_length v_sentence_wordCount v_score_cells v_sentence_bytes x1 = some (Sum.inr r)) (hfl : l.stackTraces = false) : ZE l yX9_words cX9_words 2 (some .int) rx_X9_words g [.ref a_this, .int x1] [zo_X9 a_this a_score a_history a_text a_sentence a_reader a_sounds a_playing, zo_X4 a_score a_score_cells v_score_size, zo_X5 a_sentence a_sentence_bytes v_sentence_length v_sentence_wordCount, (a_score_cells, .inl (zI g, 912, .inl v_score_cells)), (a_sentence_bytes, .inl (zY g, 1702, .inl v_sentence_bytes))] [zo_X9 a_this a_score a_history a_text a_sentence a_reader a_sounds a_playing, zo_X4 a_score a_score_cells v_score_size, zo_X5 a_sentence a_sentence_bytes v_sentence_length v_sentence_wordCount, (a_score_cells, .inl (zI g, 912, .inl v_score_cells)), (a_sentence_bytes, .inl (zY g, 1702, .inl v_sentence_bytes))] r := by
  refine zE_of (by decide) (Nat.le_of_ble_eq_true rfl) ?_
  intro p e s m below meth c A H locs ls Q R F hRm hlocks hN htab hP hD hS hl hQ
  subst hRm
  have F : zF p m c cX9_words 2 s (([.ref a_this, .int x1] : List Value)).toArray RX9 g A := F
  have hx := F.1.1
  have hb := F.1.2.1
  have hz := F.1.2.2.2.2
  have hl : lv_has ls 2 [(0, .ref a_this), (1, .int x1)] := hl
  unfold f_X9_words at h
  refine lv_aload_n hx hb dX9_words_0 rfl (lv_at hl 0 rfl) ?_
  refine lv_iload_n hx hb dX9_words_1 rfl (lv_at hl 1 rfl) ?_
  refine z_subR h (fun h => ?_) (fun r1_ hr1_ h => ?_)
  · exact zXV F (kx_X9_requireMeasure l N g a_this a_score a_history a_text a_sentence a_reader a_sounds a_playing a_score_cells v_score_size x1 _ h hfl) hN zy_X9_requireMeasure zw_534 hP hD hS [0, 1] [2, 3, 4] [3, 4, 0, 1, 2] (wr := [zo_X5 a_sentence a_sentence_bytes v_sentence_length v_sentence_wordCount, (a_score_cells, .inl (zI g, 912, .inl v_score_cells)), (a_sentence_bytes, .inl (zY g, 1702, .inl v_sentence_bytes))]) (W1 := [zo_X9 a_this a_score a_history a_text a_sentence a_reader a_sounds a_playing, zo_X4 a_score a_score_cells v_score_size, zo_X5 a_sentence a_sentence_bytes v_sentence_length v_sentence_wordCount, (a_score_cells, .inl (zI g, 912, .inl v_score_cells)), (a_sentence_bytes, .inl (zY g, 1702, .inl v_sentence_bytes))]) rfl rfl rfl rfl (by decide) rfl rfl (q0 := 0) (he := rfl) (hc := rfl) (rest := []) rfl hl.1 rfl (Nat.le_of_ble_eq_true rfl) ⟨rfl, rfl⟩ ⟨Nat.le_of_ble_eq_true rfl, Nat.le_of_ble_eq_true rfl⟩ ⟨Nat.le_of_ble_eq_true rfl, Nat.le_of_ble_eq_true rfl⟩ dX9_words_2 htab hlocks hQ
  refine zRV F (k_X9_requireMeasure l N g a_this a_score a_history a_text a_sentence a_reader a_sounds a_playing a_score_cells v_score_size x1 _ hr1_) zy_X9_requireMeasure zw_534 hP hD hS [0, 1] rfl rfl (q0 := 0) (he := rfl) (hc := rfl) (rest := []) rfl hl.1 rfl (Nat.le_of_ble_eq_true rfl) ⟨rfl, rfl⟩ ⟨Nat.le_of_ble_eq_true rfl, Nat.le_of_ble_eq_true rfl⟩ ⟨Nat.zero_le _, Nat.zero_le _⟩ dX9_words_2 (st1 := []) rfl ?_
  refine lv_aload_n hx hb dX9_words_5 rfl (lv_at hl 0 rfl) ?_
  refine z_get (C := RX9) (T := TX9) (N := 7) (ci := 7) F zu_wsX90 hP 0 rfl rfl 3 (by decide) zw_487 rfl dX9_words_6 ?_
  refine lv_aload_n hx hb dX9_words_9 rfl (lv_at hl 0 rfl) ?_
  refine z_get (C := RX9) (T := TX9) (N := 7) (ci := 7) F zu_wsX90 hP 0 rfl rfl 0 (by decide) zw_478 rfl dX9_words_10 ?_
  refine lv_iload_n hx hb dX9_words_13 rfl (lv_at hl 1 rfl) ?_
  obtain ⟨r2_, hr2_, h⟩ := z_bind h
  refine zVV F (k_X5_tellMeasure l N g a_sentence a_sentence_bytes a_score a_score_cells v_sentence_length v_sentence_wordCount v_sentence_bytes v_score_size v_score_cells x1 _ hr2_) zy_X5_tellMeasure zw_641 hP hD hS [2, 4, 1, 3] [0] [0, 3, 1, 4, 2] (wr := [zo_X9 a_this a_score a_history a_text a_sentence a_reader a_sounds a_playing]) (W1 := [zo_X9 a_this a_score a_history a_text a_sentence a_reader a_sounds a_playing, zo_X4 a_score a_score_cells v_score_size, zo_X5 a_sentence a_sentence_bytes r2_.1 r2_.2.1, (a_score_cells, .inl (zI g, 912, .inl v_score_cells)), (a_sentence_bytes, .inl (zY g, 1702, .inl r2_.2.2))]) rfl rfl rfl rfl (by decide) rfl rfl (q0 := 2) (he := rfl) (hc := rfl) (rest := []) rfl hl.1 rfl (Nat.le_of_ble_eq_true rfl) ⟨rfl, rfl⟩ ⟨Nat.le_of_ble_eq_true rfl, Nat.le_of_ble_eq_true rfl⟩ ⟨Nat.zero_le _, Nat.zero_le _⟩ dX9_words_14 (st1 := []) rfl (fun H locs hP hD hS => ?_)
  refine lv_aload_n hx hb dX9_words_17 rfl (lv_at hl 0 rfl) ?_
  refine z_get (C := RX9) (T := TX9) (N := 7) (ci := 7) F zu_wsX90 hP 0 rfl rfl 3 (by decide) zw_487 rfl dX9_words_18 ?_
  obtain ⟨r3_, hr3_, h⟩ := z_bind h
  refine zRV F (k_X5_wordCount l N g a_sentence a_sentence_bytes r2_.1 r2_.2.1 _ hr3_) zy_X5_wordCount zw_652 hP hD hS [2] rfl rfl (q0 := 2) (he := rfl) (hc := rfl) (rest := []) rfl hl.1 rfl (Nat.le_of_ble_eq_true rfl) ⟨rfl, rfl⟩ ⟨Nat.le_of_ble_eq_true rfl, Nat.le_of_ble_eq_true rfl⟩ ⟨Nat.zero_le _, Nat.zero_le _⟩ dX9_words_21 (st1 := [.int r3_]) rfl ?_
  cases h
def f_X9_copySentence_B56 (N : Nat) (r2_ : Int32 × Int32 × (Nat → Int32)) (kh56_ : Int32 × Int32 × (Nat → Int32) → Option (Int32 × (Nat → Int32))) (v56_ : Int32 × Int32 × (Nat → Int32)) : Option (Int32 × (Nat → Int32)) :=
  Option.bind (f_X5_length N r2_.1) (fun (r8_ : Int32) => if v56_.1 < r8_ then Option.bind (f_X5_at N r2_.1 r2_.2.2 v56_.1) (fun (r9_ : Int32) => Option.bind (f_X7_append N v56_.2.1 v56_.2.2 r9_) (fun (r10_ : Int32 × (Nat → Int32)) => Option.bind (some (v56_.1 + 1)) (fun (x11_ : Int32) => kh56_ (x11_, r10_.1, r10_.2)))) else some (v56_.2.1, v56_.2.2))
def f_X9_copySentence (N : Nat) (v_score_size : Int32) (v_sentence_length : Int32) (v_sentence_wordCount : Int32) (v_text_length : Int32) (v_score_cells : Nat → Int32) (v_sentence_bytes : Nat → Int32) (v_text_bytes : Nat → Int32) (x1 : Int32) : Option ((Int32 × Int32 × Int32 × Int32 × (Nat → Int32) × (Nat → Int32)) ⊕ (Nat × Int32 × Int32 × Int32 × (Nat → Int32) × (Nat → Int32))) :=
  zSubE (f_X9_requireMeasure N v_score_size x1) (fun (e_ : Nat) => (e_, v_sentence_length, v_sentence_wordCount, v_text_length, v_sentence_bytes, v_text_bytes)) (fun (r1_ : Unit) => Option.bind (f_X5_tellMeasure N v_sentence_length v_sentence_wordCount v_sentence_bytes v_score_size v_score_cells x1) (fun (r2_ : Int32 × Int32 × (Nat → Int32)) => Option.bind (f_X5_length N r2_.1) (fun (r3_ : Int32) => if 600 < r3_ then some (Sum.inr (2, r2_.1, r2_.2.1, v_text_length, r2_.2.2, v_text_bytes)) else Option.bind (f_X7_length N v_text_length) (fun (r4_ : Int32) => Option.bind (f_X7_shorten N v_text_length r4_) (fun (r5_ : Int32) => Option.bind (zLoop (f_X9_copySentence_B56 N r2_) N (0, r5_, v_text_bytes)) (fun (r6_ : Int32 × (Nat → Int32)) => Option.bind (f_X7_length N r6_.1) (fun (r7_ : Int32) => some (Sum.inl (r7_, r2_.1, r2_.2.1, r6_.1, r2_.2.2, r6_.2)))))))))
abbrev rm_X9_copySentence : Room := { frames := 10, cells := 0, slots := 0, locals := 291 }
theorem zy_X9_copySentence : zYv yX9_copySentence RX9 cX9_copySentence 3 (some .int) 1 := ⟨zw_809, zw_810, zw_527, zw_662, ⟨by decide, by decide⟩, by decide +kernel⟩
set_option maxHeartbeats 4000000 in
set_option maxRecDepth 100000 in
theorem k_X9_copySentence (l : Launch) (N : Nat) (g : zEnv) (a_this a_score a_history a_text a_sentence a_reader a_sounds a_playing a_score_cells a_sentence_bytes a_text_bytes : Nat) (v_score_size : Int32) (v_sentence_length : Int32) (v_sentence_wordCount : Int32) (v_text_length : Int32) (v_score_cells : Nat → Int32) (v_sentence_bytes : Nat → Int32) (v_text_bytes : Nat → Int32) (x1 : Int32) (r : Int32 × Int32 × Int32 × Int32 × (Nat → Int32) × (Nat → Int32)) (h : f_X9_copySentence N v_score_size v_sentence_length v_sentence_wordCount v_text_length v_score_cells v_sentence_bytes v_text_bytes x1 = some (Sum.inl r)) : ZV l yX9_copySentence cX9_copySentence 3 (some .int) rm_X9_copySentence g [.ref a_this, .int x1] [zo_X9 a_this a_score a_history a_text a_sentence a_reader a_sounds a_playing, zo_X4 a_score a_score_cells v_score_size, zo_X5 a_sentence a_sentence_bytes v_sentence_length v_sentence_wordCount, zo_X7 a_text a_text_bytes v_text_length, (a_score_cells, .inl (zI g, 912, .inl v_score_cells)), (a_sentence_bytes, .inl (zY g, 1702, .inl v_sentence_bytes)), (a_text_bytes, .inl (zY g, 600, .inl v_text_bytes))] [zo_X9 a_this a_score a_history a_text a_sentence a_reader a_sounds a_playing, zo_X4 a_score a_score_cells v_score_size, zo_X5 a_sentence a_sentence_bytes r.2.1 r.2.2.1, zo_X7 a_text a_text_bytes r.2.2.2.1, (a_score_cells, .inl (zI g, 912, .inl v_score_cells)), (a_sentence_bytes, .inl (zY g, 1702, .inl r.2.2.2.2.1)), (a_text_bytes, .inl (zY g, 600, .inl r.2.2.2.2.2))] (some (.int r.1)) := by
  refine zV_of (by decide) (Nat.le_of_ble_eq_true rfl) ?_
  intro p e s m below meth c A H locs ls Q R F hRm hr hlocks hP hD hS hl hQ
  subst hRm
  have F : zF p m c cX9_copySentence 3 s (([.ref a_this, .int x1] : List Value)).toArray RX9 g A := F
  have hx := F.1.1
  have hb := F.1.2.1
  have hz := F.1.2.2.2.2
  have hl : lv_has ls 3 [(0, .ref a_this), (1, .int x1)] := hl
  unfold f_X9_copySentence at h
  refine lv_aload_n hx hb dX9_copySentence_0 rfl (lv_at hl 0 rfl) ?_
  refine lv_iload_n hx hb dX9_copySentence_1 rfl (lv_at hl 1 rfl) ?_
  obtain ⟨r1_, hr1_, h⟩ := z_subLE h
  refine zRV F (k_X9_requireMeasure l N g a_this a_score a_history a_text a_sentence a_reader a_sounds a_playing a_score_cells v_score_size x1 _ hr1_) zy_X9_requireMeasure zw_534 hP hD hS [0, 1] rfl rfl (q0 := 0) (he := rfl) (hc := rfl) (rest := []) rfl hl.1 rfl (Nat.le_of_ble_eq_true rfl) ⟨rfl, rfl⟩ ⟨Nat.le_of_ble_eq_true rfl, Nat.le_of_ble_eq_true rfl⟩ ⟨Nat.zero_le _, Nat.zero_le _⟩ dX9_copySentence_2 (st1 := []) rfl ?_
  refine lv_aload_n hx hb dX9_copySentence_5 rfl (lv_at hl 0 rfl) ?_
  refine z_get (C := RX9) (T := TX9) (N := 7) (ci := 7) F zu_wsX90 hP 0 rfl rfl 3 (by decide) zw_487 rfl dX9_copySentence_6 ?_
  refine lv_aload_n hx hb dX9_copySentence_9 rfl (lv_at hl 0 rfl) ?_
  refine z_get (C := RX9) (T := TX9) (N := 7) (ci := 7) F zu_wsX90 hP 0 rfl rfl 0 (by decide) zw_478 rfl dX9_copySentence_10 ?_
  refine lv_iload_n hx hb dX9_copySentence_13 rfl (lv_at hl 1 rfl) ?_
  obtain ⟨r2_, hr2_, h⟩ := z_bind h
  refine zVV F (k_X5_tellMeasure l N g a_sentence a_sentence_bytes a_score a_score_cells v_sentence_length v_sentence_wordCount v_sentence_bytes v_score_size v_score_cells x1 _ hr2_) zy_X5_tellMeasure zw_641 hP hD hS [2, 5, 1, 4] [0, 3, 6] [0, 5, 3, 1, 6, 4, 2] (wr := [zo_X9 a_this a_score a_history a_text a_sentence a_reader a_sounds a_playing, zo_X7 a_text a_text_bytes v_text_length, (a_text_bytes, .inl (zY g, 600, .inl v_text_bytes))]) (W1 := [zo_X9 a_this a_score a_history a_text a_sentence a_reader a_sounds a_playing, zo_X4 a_score a_score_cells v_score_size, zo_X5 a_sentence a_sentence_bytes r2_.1 r2_.2.1, zo_X7 a_text a_text_bytes v_text_length, (a_score_cells, .inl (zI g, 912, .inl v_score_cells)), (a_sentence_bytes, .inl (zY g, 1702, .inl r2_.2.2)), (a_text_bytes, .inl (zY g, 600, .inl v_text_bytes))]) rfl rfl rfl rfl (by decide) rfl rfl (q0 := 2) (he := rfl) (hc := rfl) (rest := []) rfl hl.1 rfl (Nat.le_of_ble_eq_true rfl) ⟨rfl, rfl⟩ ⟨Nat.le_of_ble_eq_true rfl, Nat.le_of_ble_eq_true rfl⟩ ⟨Nat.zero_le _, Nat.zero_le _⟩ dX9_copySentence_14 (st1 := []) rfl (fun H locs hP hD hS => ?_)
  refine lv_aload_n hx hb dX9_copySentence_17 rfl (lv_at hl 0 rfl) ?_
  refine z_get (C := RX9) (T := TX9) (N := 7) (ci := 7) F zu_wsX90 hP 0 rfl rfl 3 (by decide) zw_487 rfl dX9_copySentence_18 ?_
  obtain ⟨r3_, hr3_, h⟩ := z_bind h
  refine zRV F (k_X5_length l N g a_sentence a_sentence_bytes r2_.2.1 r2_.1 _ hr3_) zy_X5_length zw_644 hP hD hS [2] rfl rfl (q0 := 2) (he := rfl) (hc := rfl) (rest := []) rfl hl.1 rfl (Nat.le_of_ble_eq_true rfl) ⟨rfl, rfl⟩ ⟨Nat.le_of_ble_eq_true rfl, Nat.le_of_ble_eq_true rfl⟩ ⟨Nat.zero_le _, Nat.zero_le _⟩ dX9_copySentence_21 (st1 := [.int r3_]) rfl ?_
  refine lv_sipush (v := 600) hx hb dX9_copySentence_24 (by decide) ?_
  refine z_cle (tgt := 40) hx hb dX9_copySentence_27 (by decide) h (fun h => ?_) (fun h => ?_)
  · refine lv_aload_n hx hb dX9_copySentence_40 rfl (lv_at hl 0 rfl) ?_
    refine z_get (C := RX9) (T := TX9) (N := 7) (ci := 7) F zu_wsX90 hP 0 rfl rfl 2 (by decide) zw_484 rfl dX9_copySentence_41 ?_
    refine lv_aload_n hx hb dX9_copySentence_44 rfl (lv_at hl 0 rfl) ?_
    refine z_get (C := RX9) (T := TX9) (N := 7) (ci := 7) F zu_wsX90 hP 0 rfl rfl 2 (by decide) zw_484 rfl dX9_copySentence_45 ?_
    obtain ⟨r4_, hr4_, h⟩ := z_bind h
    refine zRV F (k_X7_length l N g a_text a_text_bytes v_text_length _ hr4_) zy_X7_length zw_622 hP hD hS [3] rfl rfl (q0 := 3) (he := rfl) (hc := rfl) (rest := [.ref a_text]) rfl hl.1 rfl (Nat.le_of_ble_eq_true rfl) ⟨rfl, rfl⟩ ⟨Nat.le_of_ble_eq_true rfl, Nat.le_of_ble_eq_true rfl⟩ ⟨Nat.zero_le _, Nat.zero_le _⟩ dX9_copySentence_48 (st1 := [.int r4_, .ref a_text]) rfl ?_
    obtain ⟨r5_, hr5_, h⟩ := z_bind h
    refine zVV F (k_X7_shorten l N g a_text a_text_bytes v_text_length r4_ _ hr5_) zy_X7_shorten zw_656 hP hD hS [3] [0, 1, 2, 4, 5, 6] [0, 1, 2, 6, 3, 4, 5] (wr := [zo_X9 a_this a_score a_history a_text a_sentence a_reader a_sounds a_playing, zo_X4 a_score a_score_cells v_score_size, zo_X5 a_sentence a_sentence_bytes r2_.1 r2_.2.1, (a_score_cells, .inl (zI g, 912, .inl v_score_cells)), (a_sentence_bytes, .inl (zY g, 1702, .inl r2_.2.2)), (a_text_bytes, .inl (zY g, 600, .inl v_text_bytes))]) (W1 := [zo_X9 a_this a_score a_history a_text a_sentence a_reader a_sounds a_playing, zo_X4 a_score a_score_cells v_score_size, zo_X5 a_sentence a_sentence_bytes r2_.1 r2_.2.1, zo_X7 a_text a_text_bytes r5_, (a_score_cells, .inl (zI g, 912, .inl v_score_cells)), (a_sentence_bytes, .inl (zY g, 1702, .inl r2_.2.2)), (a_text_bytes, .inl (zY g, 600, .inl v_text_bytes))]) rfl rfl rfl rfl (by decide) rfl rfl (q0 := 3) (he := rfl) (hc := rfl) (rest := []) rfl hl.1 rfl (Nat.le_of_ble_eq_true rfl) ⟨rfl, rfl⟩ ⟨Nat.le_of_ble_eq_true rfl, Nat.le_of_ble_eq_true rfl⟩ ⟨Nat.zero_le _, Nat.zero_le _⟩ dX9_copySentence_51 (st1 := []) rfl (fun H locs hP hD hS => ?_)
    refine lv_iconst (v := 0) hx hb dX9_copySentence_54 (by decide) ?_
    refine lv_istore_n (lv' := [(2, .int 0), (0, .ref a_this), (1, .int x1)]) hx hb dX9_copySentence_55 rfl hl (by decide) rfl (fun ls hl => ?_)
    obtain ⟨r6_, hA56_, h⟩ := z_bind h
    have k88_ : ∀ (H : Heap) (locs : List Loc) (ls : Array Slot), va_P (zD g) vwCl [zo_X9 a_this a_score a_history a_text a_sentence a_reader a_sounds a_playing, zo_X4 a_score a_score_cells v_score_size, zo_X5 a_sentence a_sentence_bytes r2_.1 r2_.2.1, zo_X7 a_text a_text_bytes r6_.1, (a_score_cells, .inl (zI g, 912, .inl v_score_cells)), (a_sentence_bytes, .inl (zY g, 1702, .inl r2_.2.2)), (a_text_bytes, .inl (zY g, 600, .inl r6_.2))] H → va_D A [zo_X9 a_this a_score a_history a_text a_sentence a_reader a_sounds a_playing, zo_X4 a_score a_score_cells v_score_size, zo_X5 a_sentence a_sentence_bytes r2_.1 r2_.2.1, zo_X7 a_text a_text_bytes r6_.1, (a_score_cells, .inl (zI g, 912, .inl v_score_cells)), (a_sentence_bytes, .inl (zY g, 1702, .inl r2_.2.2)), (a_text_bytes, .inl (zY g, 600, .inl r6_.2))] → va_S A s.heap H locs → lv_has ls 3 [(0, .ref a_this)] → W p l e rm_X9_copySentence s m (([.ref a_this, .int x1] : List Value)).toArray below meth c H locs 0 0 Q (F0 m 88 ls []) := by
      intro H locs ls hP hD hS hl
      refine lv_aload_n hx hb dX9_copySentence_88 rfl (lv_at hl 0 rfl) ?_
      refine z_get (C := RX9) (T := TX9) (N := 7) (ci := 7) F zu_wsX90 hP 0 rfl rfl 2 (by decide) zw_484 rfl dX9_copySentence_89 ?_
      obtain ⟨r7_, hr7_, h⟩ := z_bind h
      refine zRV F (k_X7_length l N g a_text a_text_bytes r6_.1 _ hr7_) zy_X7_length zw_622 hP hD hS [3] rfl rfl (q0 := 3) (he := rfl) (hc := rfl) (rest := []) rfl hl.1 rfl (Nat.le_of_ble_eq_true rfl) ⟨rfl, rfl⟩ ⟨Nat.le_of_ble_eq_true rfl, Nat.le_of_ble_eq_true rfl⟩ ⟨Nat.zero_le _, Nat.zero_le _⟩ dX9_copySentence_92 (st1 := [.int r7_]) rfl ?_
      obtain rfl := Sum.inl.inj (Option.some.inj h)
      exact zV_i F hr hlocks hQ hP hD hS dX9_copySentence_95
    have h := hA56_
    have l56_ : ∀ (n56_ : Nat) (v56_ : Int32 × Int32 × (Nat → Int32)), zLoop (f_X9_copySentence_B56 N r2_) n56_ v56_ = some r6_ → ∀ (H : Heap) (locs : List Loc) (ls : Array Slot), va_P (zD g) vwCl [zo_X9 a_this a_score a_history a_text a_sentence a_reader a_sounds a_playing, zo_X4 a_score a_score_cells v_score_size, zo_X5 a_sentence a_sentence_bytes r2_.1 r2_.2.1, zo_X7 a_text a_text_bytes v56_.2.1, (a_score_cells, .inl (zI g, 912, .inl v_score_cells)), (a_sentence_bytes, .inl (zY g, 1702, .inl r2_.2.2)), (a_text_bytes, .inl (zY g, 600, .inl v56_.2.2))] H → va_D A [zo_X9 a_this a_score a_history a_text a_sentence a_reader a_sounds a_playing, zo_X4 a_score a_score_cells v_score_size, zo_X5 a_sentence a_sentence_bytes r2_.1 r2_.2.1, zo_X7 a_text a_text_bytes v56_.2.1, (a_score_cells, .inl (zI g, 912, .inl v_score_cells)), (a_sentence_bytes, .inl (zY g, 1702, .inl r2_.2.2)), (a_text_bytes, .inl (zY g, 600, .inl v56_.2.2))] → va_S A s.heap H locs → lv_has ls 3 [(0, .ref a_this), (2, .int v56_.1)] → W p l e rm_X9_copySentence s m (([.ref a_this, .int x1] : List Value)).toArray below meth c H locs 0 0 Q (F0 m 56 ls []) := by
      intro n56_
      induction n56_ with
      | zero => intro v56_ h; cases h
      | succ n56_ ih56_ =>
        intro v56_ h H locs ls hP hD hS hl
        have h : f_X9_copySentence_B56 N r2_ (zLoop (f_X9_copySentence_B56 N r2_) n56_) v56_ = some r6_ := h
        unfold f_X9_copySentence_B56 at h
        refine lv_iload_n hx hb dX9_copySentence_56 rfl (lv_at hl 1 rfl) ?_
        refine lv_aload_n hx hb dX9_copySentence_57 rfl (lv_at hl 0 rfl) ?_
        refine z_get (C := RX9) (T := TX9) (N := 7) (ci := 7) F zu_wsX90 hP 0 rfl rfl 3 (by decide) zw_487 rfl dX9_copySentence_58 ?_
        obtain ⟨r8_, hr8_, h⟩ := z_bind h
        refine zRV F (k_X5_length l N g a_sentence a_sentence_bytes r2_.2.1 r2_.1 _ hr8_) zy_X5_length zw_644 hP hD hS [2] rfl rfl (q0 := 2) (he := rfl) (hc := rfl) (rest := [.int v56_.1]) rfl hl.1 rfl (Nat.le_of_ble_eq_true rfl) ⟨rfl, rfl⟩ ⟨Nat.le_of_ble_eq_true rfl, Nat.le_of_ble_eq_true rfl⟩ ⟨Nat.zero_le _, Nat.zero_le _⟩ dX9_copySentence_61 (st1 := [.int r8_, .int v56_.1]) rfl ?_
        refine z_cge (tgt := 88) hx hb dX9_copySentence_64 (by decide) h (fun h => ?_) (fun h => ?_)
        · obtain rfl := Option.some.inj h
          exact k88_ _ _ _ hP hD hS (lv_sub hl [0] rfl)
        · refine lv_aload_n hx hb dX9_copySentence_67 rfl (lv_at hl 0 rfl) ?_
          refine z_get (C := RX9) (T := TX9) (N := 7) (ci := 7) F zu_wsX90 hP 0 rfl rfl 2 (by decide) zw_484 rfl dX9_copySentence_68 ?_
          refine lv_aload_n hx hb dX9_copySentence_71 rfl (lv_at hl 0 rfl) ?_
          refine z_get (C := RX9) (T := TX9) (N := 7) (ci := 7) F zu_wsX90 hP 0 rfl rfl 3 (by decide) zw_487 rfl dX9_copySentence_72 ?_
          refine lv_iload_n hx hb dX9_copySentence_75 rfl (lv_at hl 1 rfl) ?_
          obtain ⟨r9_, hr9_, h⟩ := z_bind h
          refine zRV F (k_X5_at l N g a_sentence a_sentence_bytes r2_.2.1 r2_.1 r2_.2.2 v56_.1 _ hr9_) zy_X5_at zw_648 hP hD hS [2, 5] rfl rfl (q0 := 2) (he := rfl) (hc := rfl) (rest := [.ref a_text]) rfl hl.1 rfl (Nat.le_of_ble_eq_true rfl) ⟨rfl, rfl⟩ ⟨Nat.le_of_ble_eq_true rfl, Nat.le_of_ble_eq_true rfl⟩ ⟨Nat.zero_le _, Nat.zero_le _⟩ dX9_copySentence_76 (st1 := [.int r9_, .ref a_text]) rfl ?_
          obtain ⟨r10_, hr10_, h⟩ := z_bind h
          refine zVV F (k_X7_append l N g a_text a_text_bytes v56_.2.1 v56_.2.2 r9_ _ hr10_) zy_X7_append zw_659 hP hD hS [3, 6] [0, 1, 2, 4, 5] [0, 1, 2, 5, 3, 4, 6] (wr := [zo_X9 a_this a_score a_history a_text a_sentence a_reader a_sounds a_playing, zo_X4 a_score a_score_cells v_score_size, zo_X5 a_sentence a_sentence_bytes r2_.1 r2_.2.1, (a_score_cells, .inl (zI g, 912, .inl v_score_cells)), (a_sentence_bytes, .inl (zY g, 1702, .inl r2_.2.2))]) (W1 := [zo_X9 a_this a_score a_history a_text a_sentence a_reader a_sounds a_playing, zo_X4 a_score a_score_cells v_score_size, zo_X5 a_sentence a_sentence_bytes r2_.1 r2_.2.1, zo_X7 a_text a_text_bytes r10_.1, (a_score_cells, .inl (zI g, 912, .inl v_score_cells)), (a_sentence_bytes, .inl (zY g, 1702, .inl r2_.2.2)), (a_text_bytes, .inl (zY g, 600, .inl r10_.2))]) rfl rfl rfl rfl (by decide) rfl rfl (q0 := 3) (he := rfl) (hc := rfl) (rest := []) rfl hl.1 rfl (Nat.le_of_ble_eq_true rfl) ⟨rfl, rfl⟩ ⟨Nat.le_of_ble_eq_true rfl, Nat.le_of_ble_eq_true rfl⟩ ⟨Nat.zero_le _, Nat.zero_le _⟩ dX9_copySentence_79 (st1 := []) rfl (fun H locs hP hD hS => ?_)
          refine z_nm h (fun x11_ ex11_ h => ?_)
          refine lv_iinc (v := x11_) (lv' := [(2, .int x11_), (0, .ref a_this)]) hx hb dX9_copySentence_82 hl (k := 1) rfl (by rw [ex11_]; rfl) (by decide) rfl (fun ls hl => ?_)
          refine lv_goto (tgt := 56) hx hb dX9_copySentence_85 (by decide) ?_
          exact ih56_ _ h _ _ _ hP hD hS (lv_sub hl [1, 0] rfl)
    exact l56_ N _ h _ _ _ hP hD hS (lv_sub hl [1, 0] rfl)
  · cases h
abbrev rx_X9_copySentence : Room := { frames := 10, cells := 1, slots := 6, locals := 291 }
set_option maxHeartbeats 4000000 in
set_option maxRecDepth 100000 in
theorem kx_X9_copySentence (l : Launch) (N : Nat) (g : zEnv) (a_this a_score a_history a_text a_sentence a_reader a_sounds a_playing a_score_cells a_sentence_bytes a_text_bytes : Nat) (v_score_size : Int32) (v_sentence_length : Int32) (v_sentence_wordCount : Int32) (v_text_length : Int32) (v_score_cells : Nat → Int32) (v_sentence_bytes : Nat → Int32) (v_text_bytes : Nat → Int32) (x1 : Int32) (r : Nat × Int32 × Int32 × Int32 × (Nat → Int32) × (Nat → Int32)) (h : f_X9_copySentence N v_score_size v_sentence_length v_sentence_wordCount v_text_length v_score_cells v_sentence_bytes v_text_bytes x1 = some (Sum.inr r)) (hfl : l.stackTraces = false) : ZE l yX9_copySentence cX9_copySentence 3 (some .int) rx_X9_copySentence g [.ref a_this, .int x1] [zo_X9 a_this a_score a_history a_text a_sentence a_reader a_sounds a_playing, zo_X4 a_score a_score_cells v_score_size, zo_X5 a_sentence a_sentence_bytes v_sentence_length v_sentence_wordCount, zo_X7 a_text a_text_bytes v_text_length, (a_score_cells, .inl (zI g, 912, .inl v_score_cells)), (a_sentence_bytes, .inl (zY g, 1702, .inl v_sentence_bytes)), (a_text_bytes, .inl (zY g, 600, .inl v_text_bytes))] [zo_X9 a_this a_score a_history a_text a_sentence a_reader a_sounds a_playing, zo_X4 a_score a_score_cells v_score_size, zo_X5 a_sentence a_sentence_bytes r.2.1 r.2.2.1, zo_X7 a_text a_text_bytes r.2.2.2.1, (a_score_cells, .inl (zI g, 912, .inl v_score_cells)), (a_sentence_bytes, .inl (zY g, 1702, .inl r.2.2.2.2.1)), (a_text_bytes, .inl (zY g, 600, .inl r.2.2.2.2.2))] r.1 := by
  refine zE_of (by decide) (Nat.le_of_ble_eq_true rfl) ?_
  intro p e s m below meth c A H locs ls Q R F hRm hlocks hN htab hP hD hS hl hQ
  subst hRm
  have F : zF p m c cX9_copySentence 3 s (([.ref a_this, .int x1] : List Value)).toArray RX9 g A := F
  have hx := F.1.1
  have hb := F.1.2.1
  have hz := F.1.2.2.2.2
  have hl : lv_has ls 3 [(0, .ref a_this), (1, .int x1)] := hl
  unfold f_X9_copySentence at h
  refine lv_aload_n hx hb dX9_copySentence_0 rfl (lv_at hl 0 rfl) ?_
  refine lv_iload_n hx hb dX9_copySentence_1 rfl (lv_at hl 1 rfl) ?_
  refine z_subRE h (fun e_ h0_ he_ => ?_) (fun r1_ hr1_ h => ?_)
  · subst he_
    exact zXV F (kx_X9_requireMeasure l N g a_this a_score a_history a_text a_sentence a_reader a_sounds a_playing a_score_cells v_score_size x1 _ h0_ hfl) hN zy_X9_requireMeasure zw_534 hP hD hS [0, 1] [2, 3, 4, 5, 6] [5, 6, 0, 1, 2, 3, 4] (wr := [zo_X5 a_sentence a_sentence_bytes v_sentence_length v_sentence_wordCount, zo_X7 a_text a_text_bytes v_text_length, (a_score_cells, .inl (zI g, 912, .inl v_score_cells)), (a_sentence_bytes, .inl (zY g, 1702, .inl v_sentence_bytes)), (a_text_bytes, .inl (zY g, 600, .inl v_text_bytes))]) (W1 := [zo_X9 a_this a_score a_history a_text a_sentence a_reader a_sounds a_playing, zo_X4 a_score a_score_cells v_score_size, zo_X5 a_sentence a_sentence_bytes v_sentence_length v_sentence_wordCount, zo_X7 a_text a_text_bytes v_text_length, (a_score_cells, .inl (zI g, 912, .inl v_score_cells)), (a_sentence_bytes, .inl (zY g, 1702, .inl v_sentence_bytes)), (a_text_bytes, .inl (zY g, 600, .inl v_text_bytes))]) rfl rfl rfl rfl (by decide) rfl rfl (q0 := 0) (he := rfl) (hc := rfl) (rest := []) rfl hl.1 rfl (Nat.le_of_ble_eq_true rfl) ⟨rfl, rfl⟩ ⟨Nat.le_of_ble_eq_true rfl, Nat.le_of_ble_eq_true rfl⟩ ⟨Nat.le_of_ble_eq_true rfl, Nat.le_of_ble_eq_true rfl⟩ dX9_copySentence_2 htab hlocks hQ
  refine zRV F (k_X9_requireMeasure l N g a_this a_score a_history a_text a_sentence a_reader a_sounds a_playing a_score_cells v_score_size x1 _ hr1_) zy_X9_requireMeasure zw_534 hP hD hS [0, 1] rfl rfl (q0 := 0) (he := rfl) (hc := rfl) (rest := []) rfl hl.1 rfl (Nat.le_of_ble_eq_true rfl) ⟨rfl, rfl⟩ ⟨Nat.le_of_ble_eq_true rfl, Nat.le_of_ble_eq_true rfl⟩ ⟨Nat.zero_le _, Nat.zero_le _⟩ dX9_copySentence_2 (st1 := []) rfl ?_
  refine lv_aload_n hx hb dX9_copySentence_5 rfl (lv_at hl 0 rfl) ?_
  refine z_get (C := RX9) (T := TX9) (N := 7) (ci := 7) F zu_wsX90 hP 0 rfl rfl 3 (by decide) zw_487 rfl dX9_copySentence_6 ?_
  refine lv_aload_n hx hb dX9_copySentence_9 rfl (lv_at hl 0 rfl) ?_
  refine z_get (C := RX9) (T := TX9) (N := 7) (ci := 7) F zu_wsX90 hP 0 rfl rfl 0 (by decide) zw_478 rfl dX9_copySentence_10 ?_
  refine lv_iload_n hx hb dX9_copySentence_13 rfl (lv_at hl 1 rfl) ?_
  obtain ⟨r2_, hr2_, h⟩ := z_bind h
  refine zVV F (k_X5_tellMeasure l N g a_sentence a_sentence_bytes a_score a_score_cells v_sentence_length v_sentence_wordCount v_sentence_bytes v_score_size v_score_cells x1 _ hr2_) zy_X5_tellMeasure zw_641 hP hD hS [2, 5, 1, 4] [0, 3, 6] [0, 5, 3, 1, 6, 4, 2] (wr := [zo_X9 a_this a_score a_history a_text a_sentence a_reader a_sounds a_playing, zo_X7 a_text a_text_bytes v_text_length, (a_text_bytes, .inl (zY g, 600, .inl v_text_bytes))]) (W1 := [zo_X9 a_this a_score a_history a_text a_sentence a_reader a_sounds a_playing, zo_X4 a_score a_score_cells v_score_size, zo_X5 a_sentence a_sentence_bytes r2_.1 r2_.2.1, zo_X7 a_text a_text_bytes v_text_length, (a_score_cells, .inl (zI g, 912, .inl v_score_cells)), (a_sentence_bytes, .inl (zY g, 1702, .inl r2_.2.2)), (a_text_bytes, .inl (zY g, 600, .inl v_text_bytes))]) rfl rfl rfl rfl (by decide) rfl rfl (q0 := 2) (he := rfl) (hc := rfl) (rest := []) rfl hl.1 rfl (Nat.le_of_ble_eq_true rfl) ⟨rfl, rfl⟩ ⟨Nat.le_of_ble_eq_true rfl, Nat.le_of_ble_eq_true rfl⟩ ⟨Nat.zero_le _, Nat.zero_le _⟩ dX9_copySentence_14 (st1 := []) rfl (fun H locs hP hD hS => ?_)
  refine lv_aload_n hx hb dX9_copySentence_17 rfl (lv_at hl 0 rfl) ?_
  refine z_get (C := RX9) (T := TX9) (N := 7) (ci := 7) F zu_wsX90 hP 0 rfl rfl 3 (by decide) zw_487 rfl dX9_copySentence_18 ?_
  obtain ⟨r3_, hr3_, h⟩ := z_bind h
  refine zRV F (k_X5_length l N g a_sentence a_sentence_bytes r2_.2.1 r2_.1 _ hr3_) zy_X5_length zw_644 hP hD hS [2] rfl rfl (q0 := 2) (he := rfl) (hc := rfl) (rest := []) rfl hl.1 rfl (Nat.le_of_ble_eq_true rfl) ⟨rfl, rfl⟩ ⟨Nat.le_of_ble_eq_true rfl, Nat.le_of_ble_eq_true rfl⟩ ⟨Nat.zero_le _, Nat.zero_le _⟩ dX9_copySentence_21 (st1 := [.int r3_]) rfl ?_
  refine lv_sipush (v := 600) hx hb dX9_copySentence_24 (by decide) ?_
  refine z_cle (tgt := 40) hx hb dX9_copySentence_27 (by decide) h (fun h => ?_) (fun h => ?_)
  · refine lv_aload_n hx hb dX9_copySentence_40 rfl (lv_at hl 0 rfl) ?_
    refine z_get (C := RX9) (T := TX9) (N := 7) (ci := 7) F zu_wsX90 hP 0 rfl rfl 2 (by decide) zw_484 rfl dX9_copySentence_41 ?_
    refine lv_aload_n hx hb dX9_copySentence_44 rfl (lv_at hl 0 rfl) ?_
    refine z_get (C := RX9) (T := TX9) (N := 7) (ci := 7) F zu_wsX90 hP 0 rfl rfl 2 (by decide) zw_484 rfl dX9_copySentence_45 ?_
    obtain ⟨r4_, hr4_, h⟩ := z_bind h
    refine zRV F (k_X7_length l N g a_text a_text_bytes v_text_length _ hr4_) zy_X7_length zw_622 hP hD hS [3] rfl rfl (q0 := 3) (he := rfl) (hc := rfl) (rest := [.ref a_text]) rfl hl.1 rfl (Nat.le_of_ble_eq_true rfl) ⟨rfl, rfl⟩ ⟨Nat.le_of_ble_eq_true rfl, Nat.le_of_ble_eq_true rfl⟩ ⟨Nat.zero_le _, Nat.zero_le _⟩ dX9_copySentence_48 (st1 := [.int r4_, .ref a_text]) rfl ?_
    obtain ⟨r5_, hr5_, h⟩ := z_bind h
    refine zVV F (k_X7_shorten l N g a_text a_text_bytes v_text_length r4_ _ hr5_) zy_X7_shorten zw_656 hP hD hS [3] [0, 1, 2, 4, 5, 6] [0, 1, 2, 6, 3, 4, 5] (wr := [zo_X9 a_this a_score a_history a_text a_sentence a_reader a_sounds a_playing, zo_X4 a_score a_score_cells v_score_size, zo_X5 a_sentence a_sentence_bytes r2_.1 r2_.2.1, (a_score_cells, .inl (zI g, 912, .inl v_score_cells)), (a_sentence_bytes, .inl (zY g, 1702, .inl r2_.2.2)), (a_text_bytes, .inl (zY g, 600, .inl v_text_bytes))]) (W1 := [zo_X9 a_this a_score a_history a_text a_sentence a_reader a_sounds a_playing, zo_X4 a_score a_score_cells v_score_size, zo_X5 a_sentence a_sentence_bytes r2_.1 r2_.2.1, zo_X7 a_text a_text_bytes r5_, (a_score_cells, .inl (zI g, 912, .inl v_score_cells)), (a_sentence_bytes, .inl (zY g, 1702, .inl r2_.2.2)), (a_text_bytes, .inl (zY g, 600, .inl v_text_bytes))]) rfl rfl rfl rfl (by decide) rfl rfl (q0 := 3) (he := rfl) (hc := rfl) (rest := []) rfl hl.1 rfl (Nat.le_of_ble_eq_true rfl) ⟨rfl, rfl⟩ ⟨Nat.le_of_ble_eq_true rfl, Nat.le_of_ble_eq_true rfl⟩ ⟨Nat.zero_le _, Nat.zero_le _⟩ dX9_copySentence_51 (st1 := []) rfl (fun H locs hP hD hS => ?_)
    refine lv_iconst (v := 0) hx hb dX9_copySentence_54 (by decide) ?_
    refine lv_istore_n (lv' := [(2, .int 0), (0, .ref a_this), (1, .int x1)]) hx hb dX9_copySentence_55 rfl hl (by decide) rfl (fun ls hl => ?_)
    obtain ⟨r6_, hA56_, h⟩ := z_bind h
    have k88_ : ∀ (H : Heap) (locs : List Loc) (ls : Array Slot), va_P (zD g) vwCl [zo_X9 a_this a_score a_history a_text a_sentence a_reader a_sounds a_playing, zo_X4 a_score a_score_cells v_score_size, zo_X5 a_sentence a_sentence_bytes r2_.1 r2_.2.1, zo_X7 a_text a_text_bytes r6_.1, (a_score_cells, .inl (zI g, 912, .inl v_score_cells)), (a_sentence_bytes, .inl (zY g, 1702, .inl r2_.2.2)), (a_text_bytes, .inl (zY g, 600, .inl r6_.2))] H → va_D A [zo_X9 a_this a_score a_history a_text a_sentence a_reader a_sounds a_playing, zo_X4 a_score a_score_cells v_score_size, zo_X5 a_sentence a_sentence_bytes r2_.1 r2_.2.1, zo_X7 a_text a_text_bytes r6_.1, (a_score_cells, .inl (zI g, 912, .inl v_score_cells)), (a_sentence_bytes, .inl (zY g, 1702, .inl r2_.2.2)), (a_text_bytes, .inl (zY g, 600, .inl r6_.2))] → va_S A s.heap H locs → lv_has ls 3 [(0, .ref a_this)] → W p l e rx_X9_copySentence s m (([.ref a_this, .int x1] : List Value)).toArray below meth c H locs 0 0 Q (F0 m 88 ls []) := by
      intro H locs ls hP hD hS hl
      refine lv_aload_n hx hb dX9_copySentence_88 rfl (lv_at hl 0 rfl) ?_
      refine z_get (C := RX9) (T := TX9) (N := 7) (ci := 7) F zu_wsX90 hP 0 rfl rfl 2 (by decide) zw_484 rfl dX9_copySentence_89 ?_
      obtain ⟨r7_, hr7_, h⟩ := z_bind h
      refine zRV F (k_X7_length l N g a_text a_text_bytes r6_.1 _ hr7_) zy_X7_length zw_622 hP hD hS [3] rfl rfl (q0 := 3) (he := rfl) (hc := rfl) (rest := []) rfl hl.1 rfl (Nat.le_of_ble_eq_true rfl) ⟨rfl, rfl⟩ ⟨Nat.le_of_ble_eq_true rfl, Nat.le_of_ble_eq_true rfl⟩ ⟨Nat.zero_le _, Nat.zero_le _⟩ dX9_copySentence_92 (st1 := [.int r7_]) rfl ?_
      cases h
    have h := hA56_
    have l56_ : ∀ (n56_ : Nat) (v56_ : Int32 × Int32 × (Nat → Int32)), zLoop (f_X9_copySentence_B56 N r2_) n56_ v56_ = some r6_ → ∀ (H : Heap) (locs : List Loc) (ls : Array Slot), va_P (zD g) vwCl [zo_X9 a_this a_score a_history a_text a_sentence a_reader a_sounds a_playing, zo_X4 a_score a_score_cells v_score_size, zo_X5 a_sentence a_sentence_bytes r2_.1 r2_.2.1, zo_X7 a_text a_text_bytes v56_.2.1, (a_score_cells, .inl (zI g, 912, .inl v_score_cells)), (a_sentence_bytes, .inl (zY g, 1702, .inl r2_.2.2)), (a_text_bytes, .inl (zY g, 600, .inl v56_.2.2))] H → va_D A [zo_X9 a_this a_score a_history a_text a_sentence a_reader a_sounds a_playing, zo_X4 a_score a_score_cells v_score_size, zo_X5 a_sentence a_sentence_bytes r2_.1 r2_.2.1, zo_X7 a_text a_text_bytes v56_.2.1, (a_score_cells, .inl (zI g, 912, .inl v_score_cells)), (a_sentence_bytes, .inl (zY g, 1702, .inl r2_.2.2)), (a_text_bytes, .inl (zY g, 600, .inl v56_.2.2))] → va_S A s.heap H locs → lv_has ls 3 [(0, .ref a_this), (2, .int v56_.1)] → W p l e rx_X9_copySentence s m (([.ref a_this, .int x1] : List Value)).toArray below meth c H locs 0 0 Q (F0 m 56 ls []) := by
      intro n56_
      induction n56_ with
      | zero => intro v56_ h; cases h
      | succ n56_ ih56_ =>
        intro v56_ h H locs ls hP hD hS hl
        have h : f_X9_copySentence_B56 N r2_ (zLoop (f_X9_copySentence_B56 N r2_) n56_) v56_ = some r6_ := h
        unfold f_X9_copySentence_B56 at h
        refine lv_iload_n hx hb dX9_copySentence_56 rfl (lv_at hl 1 rfl) ?_
        refine lv_aload_n hx hb dX9_copySentence_57 rfl (lv_at hl 0 rfl) ?_
        refine z_get (C := RX9) (T := TX9) (N := 7) (ci := 7) F zu_wsX90 hP 0 rfl rfl 3 (by decide) zw_487 rfl dX9_copySentence_58 ?_
        obtain ⟨r8_, hr8_, h⟩ := z_bind h
        refine zRV F (k_X5_length l N g a_sentence a_sentence_bytes r2_.2.1 r2_.1 _ hr8_) zy_X5_length zw_644 hP hD hS [2] rfl rfl (q0 := 2) (he := rfl) (hc := rfl) (rest := [.int v56_.1]) rfl hl.1 rfl (Nat.le_of_ble_eq_true rfl) ⟨rfl, rfl⟩ ⟨Nat.le_of_ble_eq_true rfl, Nat.le_of_ble_eq_true rfl⟩ ⟨Nat.zero_le _, Nat.zero_le _⟩ dX9_copySentence_61 (st1 := [.int r8_, .int v56_.1]) rfl ?_
        refine z_cge (tgt := 88) hx hb dX9_copySentence_64 (by decide) h (fun h => ?_) (fun h => ?_)
        · obtain rfl := Option.some.inj h
          exact k88_ _ _ _ hP hD hS (lv_sub hl [0] rfl)
        · refine lv_aload_n hx hb dX9_copySentence_67 rfl (lv_at hl 0 rfl) ?_
          refine z_get (C := RX9) (T := TX9) (N := 7) (ci := 7) F zu_wsX90 hP 0 rfl rfl 2 (by decide) zw_484 rfl dX9_copySentence_68 ?_
          refine lv_aload_n hx hb dX9_copySentence_71 rfl (lv_at hl 0 rfl) ?_
          refine z_get (C := RX9) (T := TX9) (N := 7) (ci := 7) F zu_wsX90 hP 0 rfl rfl 3 (by decide) zw_487 rfl dX9_copySentence_72 ?_
          refine lv_iload_n hx hb dX9_copySentence_75 rfl (lv_at hl 1 rfl) ?_
          obtain ⟨r9_, hr9_, h⟩ := z_bind h
          refine zRV F (k_X5_at l N g a_sentence a_sentence_bytes r2_.2.1 r2_.1 r2_.2.2 v56_.1 _ hr9_) zy_X5_at zw_648 hP hD hS [2, 5] rfl rfl (q0 := 2) (he := rfl) (hc := rfl) (rest := [.ref a_text]) rfl hl.1 rfl (Nat.le_of_ble_eq_true rfl) ⟨rfl, rfl⟩ ⟨Nat.le_of_ble_eq_true rfl, Nat.le_of_ble_eq_true rfl⟩ ⟨Nat.zero_le _, Nat.zero_le _⟩ dX9_copySentence_76 (st1 := [.int r9_, .ref a_text]) rfl ?_
          obtain ⟨r10_, hr10_, h⟩ := z_bind h
          refine zVV F (k_X7_append l N g a_text a_text_bytes v56_.2.1 v56_.2.2 r9_ _ hr10_) zy_X7_append zw_659 hP hD hS [3, 6] [0, 1, 2, 4, 5] [0, 1, 2, 5, 3, 4, 6] (wr := [zo_X9 a_this a_score a_history a_text a_sentence a_reader a_sounds a_playing, zo_X4 a_score a_score_cells v_score_size, zo_X5 a_sentence a_sentence_bytes r2_.1 r2_.2.1, (a_score_cells, .inl (zI g, 912, .inl v_score_cells)), (a_sentence_bytes, .inl (zY g, 1702, .inl r2_.2.2))]) (W1 := [zo_X9 a_this a_score a_history a_text a_sentence a_reader a_sounds a_playing, zo_X4 a_score a_score_cells v_score_size, zo_X5 a_sentence a_sentence_bytes r2_.1 r2_.2.1, zo_X7 a_text a_text_bytes r10_.1, (a_score_cells, .inl (zI g, 912, .inl v_score_cells)), (a_sentence_bytes, .inl (zY g, 1702, .inl r2_.2.2)), (a_text_bytes, .inl (zY g, 600, .inl r10_.2))]) rfl rfl rfl rfl (by decide) rfl rfl (q0 := 3) (he := rfl) (hc := rfl) (rest := []) rfl hl.1 rfl (Nat.le_of_ble_eq_true rfl) ⟨rfl, rfl⟩ ⟨Nat.le_of_ble_eq_true rfl, Nat.le_of_ble_eq_true rfl⟩ ⟨Nat.zero_le _, Nat.zero_le _⟩ dX9_copySentence_79 (st1 := []) rfl (fun H locs hP hD hS => ?_)
          refine z_nm h (fun x11_ ex11_ h => ?_)
          refine lv_iinc (v := x11_) (lv' := [(2, .int x11_), (0, .ref a_this)]) hx hb dX9_copySentence_82 hl (k := 1) rfl (by rw [ex11_]; rfl) (by decide) rfl (fun ls hl => ?_)
          refine lv_goto (tgt := 56) hx hb dX9_copySentence_85 (by decide) ?_
          exact ih56_ _ h _ _ _ hP hD hS (lv_sub hl [1, 0] rfl)
    exact l56_ N _ h _ _ _ hP hD hS (lv_sub hl [1, 0] rfl)
  · obtain rfl := Sum.inr.inj (Option.some.inj h)
    exact zThS (k := 2) F hfl hN zw_517 zw_518 zst_X9_211 (fun w h => zu_zx_0 w h) zx_bad_0 (zx_ot_0 _) (by decide +kernel) hP hD hS hl.1 htab hlocks hQ dX9_copySentence_30 dX9_copySentence_33 dX9_copySentence_34 dX9_copySentence_36 dX9_copySentence_39 (Nat.le_of_ble_eq_true rfl) (Nat.le_of_ble_eq_true rfl) (Nat.le_of_ble_eq_true rfl) (Nat.le_of_ble_eq_true rfl)
def f_X9_type (N : Nat) (v_text_length : Int32) (v_text_bytes : Nat → Int32) (x1 : Int32) : Option ((Int32 × Int32 × (Nat → Int32)) ⊕ Nat) :=
  zSub (f_X9_requireRange N x1 0 127) (fun (r1_ : Unit) => Option.bind (f_X7_length N v_text_length) (fun (r2_ : Int32) => if r2_ < 600 then Option.bind (f_X7_append N v_text_length v_text_bytes x1) (fun (r3_ : Int32 × (Nat → Int32)) => Option.bind (f_X7_length N r3_.1) (fun (r4_ : Int32) => some (Sum.inl (r4_, r3_.1, r3_.2)))) else some (Sum.inr 2)))
abbrev rm_X9_type : Room := { frames := 7, cells := 0, slots := 0, locals := 112 }
theorem zy_X9_type : zYv yX9_type RX9 cX9_type 2 (some .int) 1 := ⟨zw_812, zw_813, zw_527, zw_663, ⟨by decide, by decide⟩, by decide +kernel⟩
set_option maxHeartbeats 4000000 in
set_option maxRecDepth 100000 in
theorem k_X9_type (l : Launch) (N : Nat) (g : zEnv) (a_this a_score a_history a_text a_sentence a_reader a_sounds a_playing a_text_bytes : Nat) (v_text_length : Int32) (v_text_bytes : Nat → Int32) (x1 : Int32) (r : Int32 × Int32 × (Nat → Int32)) (h : f_X9_type N v_text_length v_text_bytes x1 = some (Sum.inl r)) : ZV l yX9_type cX9_type 2 (some .int) rm_X9_type g [.ref a_this, .int x1] [zo_X9 a_this a_score a_history a_text a_sentence a_reader a_sounds a_playing, zo_X7 a_text a_text_bytes v_text_length, (a_text_bytes, .inl (zY g, 600, .inl v_text_bytes))] [zo_X9 a_this a_score a_history a_text a_sentence a_reader a_sounds a_playing, zo_X7 a_text a_text_bytes r.2.1, (a_text_bytes, .inl (zY g, 600, .inl r.2.2))] (some (.int r.1)) := by
  refine zV_of (by decide) (Nat.le_of_ble_eq_true rfl) ?_
  intro p e s m below meth c A H locs ls Q R F hRm hr hlocks hP hD hS hl hQ
  subst hRm
  have F : zF p m c cX9_type 2 s (([.ref a_this, .int x1] : List Value)).toArray RX9 g A := F
  have hx := F.1.1
  have hb := F.1.2.1
  have hz := F.1.2.2.2.2
  have hl : lv_has ls 2 [(0, .ref a_this), (1, .int x1)] := hl
  unfold f_X9_type at h
  refine lv_iload_n hx hb dX9_type_0 rfl (lv_at hl 1 rfl) ?_
  refine lv_iconst (v := 0) hx hb dX9_type_1 (by decide) ?_
  refine lv_bipush (v := 127) hx hb dX9_type_2 (by decide) ?_
  obtain ⟨r1_, hr1_, h⟩ := z_subL h
  refine zRS F (k_X9_requireRange l N g x1 0 127 _ hr1_) zy_X9_requireRange zw_557 hP hD hS [] rfl rfl (rest := []) rfl hl.1 rfl (Nat.le_of_ble_eq_true rfl) ⟨rfl, rfl⟩ ⟨Nat.le_of_ble_eq_true rfl, Nat.le_of_ble_eq_true rfl⟩ ⟨Nat.zero_le _, Nat.zero_le _⟩ dX9_type_4 (st1 := []) rfl ?_
  refine lv_aload_n hx hb dX9_type_7 rfl (lv_at hl 0 rfl) ?_
  refine z_get (C := RX9) (T := TX9) (N := 7) (ci := 7) F zu_wsX90 hP 0 rfl rfl 2 (by decide) zw_484 rfl dX9_type_8 ?_
  obtain ⟨r2_, hr2_, h⟩ := z_bind h
  refine zRV F (k_X7_length l N g a_text a_text_bytes v_text_length _ hr2_) zy_X7_length zw_622 hP hD hS [1] rfl rfl (q0 := 1) (he := rfl) (hc := rfl) (rest := []) rfl hl.1 rfl (Nat.le_of_ble_eq_true rfl) ⟨rfl, rfl⟩ ⟨Nat.le_of_ble_eq_true rfl, Nat.le_of_ble_eq_true rfl⟩ ⟨Nat.zero_le _, Nat.zero_le _⟩ dX9_type_11 (st1 := [.int r2_]) rfl ?_
  refine lv_sipush (v := 600) hx hb dX9_type_14 (by decide) ?_
  refine z_clt (tgt := 30) hx hb dX9_type_17 (by decide) h (fun h => ?_) (fun h => ?_)
  · refine lv_aload_n hx hb dX9_type_30 rfl (lv_at hl 0 rfl) ?_
    refine z_get (C := RX9) (T := TX9) (N := 7) (ci := 7) F zu_wsX90 hP 0 rfl rfl 2 (by decide) zw_484 rfl dX9_type_31 ?_
    refine lv_iload_n hx hb dX9_type_34 rfl (lv_at hl 1 rfl) ?_
    obtain ⟨r3_, hr3_, h⟩ := z_bind h
    refine zVV F (k_X7_append l N g a_text a_text_bytes v_text_length v_text_bytes x1 _ hr3_) zy_X7_append zw_659 hP hD hS [1, 2] [0] [0, 1, 2] (wr := [zo_X9 a_this a_score a_history a_text a_sentence a_reader a_sounds a_playing]) (W1 := [zo_X9 a_this a_score a_history a_text a_sentence a_reader a_sounds a_playing, zo_X7 a_text a_text_bytes r3_.1, (a_text_bytes, .inl (zY g, 600, .inl r3_.2))]) rfl rfl rfl rfl (by decide) rfl rfl (q0 := 1) (he := rfl) (hc := rfl) (rest := []) rfl hl.1 rfl (Nat.le_of_ble_eq_true rfl) ⟨rfl, rfl⟩ ⟨Nat.le_of_ble_eq_true rfl, Nat.le_of_ble_eq_true rfl⟩ ⟨Nat.zero_le _, Nat.zero_le _⟩ dX9_type_35 (st1 := []) rfl (fun H locs hP hD hS => ?_)
    refine lv_aload_n hx hb dX9_type_38 rfl (lv_at hl 0 rfl) ?_
    refine z_get (C := RX9) (T := TX9) (N := 7) (ci := 7) F zu_wsX90 hP 0 rfl rfl 2 (by decide) zw_484 rfl dX9_type_39 ?_
    obtain ⟨r4_, hr4_, h⟩ := z_bind h
    refine zRV F (k_X7_length l N g a_text a_text_bytes r3_.1 _ hr4_) zy_X7_length zw_622 hP hD hS [1] rfl rfl (q0 := 1) (he := rfl) (hc := rfl) (rest := []) rfl hl.1 rfl (Nat.le_of_ble_eq_true rfl) ⟨rfl, rfl⟩ ⟨Nat.le_of_ble_eq_true rfl, Nat.le_of_ble_eq_true rfl⟩ ⟨Nat.zero_le _, Nat.zero_le _⟩ dX9_type_42 (st1 := [.int r4_]) rfl ?_
    obtain rfl := Sum.inl.inj (Option.some.inj h)
    exact zV_i F hr hlocks hQ hP hD hS dX9_type_45
  · cases h
abbrev rx_X9_type : Room := { frames := 7, cells := 1, slots := 6, locals := 112 }
set_option maxHeartbeats 4000000 in
set_option maxRecDepth 100000 in
theorem kx_X9_type (l : Launch) (N : Nat) (g : zEnv) (a_this a_score a_history a_text a_sentence a_reader a_sounds a_playing a_text_bytes : Nat) (v_text_length : Int32) (v_text_bytes : Nat → Int32) (x1 : Int32) (r : Nat) (h : f_X9_type N v_text_length v_text_bytes x1 = some (Sum.inr r)) (hfl : l.stackTraces = false) : ZE l yX9_type cX9_type 2 (some .int) rx_X9_type g [.ref a_this, .int x1] [zo_X9 a_this a_score a_history a_text a_sentence a_reader a_sounds a_playing, zo_X7 a_text a_text_bytes v_text_length, (a_text_bytes, .inl (zY g, 600, .inl v_text_bytes))] [zo_X9 a_this a_score a_history a_text a_sentence a_reader a_sounds a_playing, zo_X7 a_text a_text_bytes v_text_length, (a_text_bytes, .inl (zY g, 600, .inl v_text_bytes))] r := by
  refine zE_of (by decide) (Nat.le_of_ble_eq_true rfl) ?_
  intro p e s m below meth c A H locs ls Q R F hRm hlocks hN htab hP hD hS hl hQ
  subst hRm
  have F : zF p m c cX9_type 2 s (([.ref a_this, .int x1] : List Value)).toArray RX9 g A := F
  have hx := F.1.1
  have hb := F.1.2.1
  have hz := F.1.2.2.2.2
  have hl : lv_has ls 2 [(0, .ref a_this), (1, .int x1)] := hl
  unfold f_X9_type at h
  refine lv_iload_n hx hb dX9_type_0 rfl (lv_at hl 1 rfl) ?_
  refine lv_iconst (v := 0) hx hb dX9_type_1 (by decide) ?_
  refine lv_bipush (v := 127) hx hb dX9_type_2 (by decide) ?_
  refine z_subR h (fun h => ?_) (fun r1_ hr1_ h => ?_)
  · exact zXS F (kx_X9_requireRange l N g x1 0 127 _ h hfl) hN zy_X9_requireRange zw_557 hP hD hS [] [0, 1, 2] [0, 1, 2] (wr := [zo_X9 a_this a_score a_history a_text a_sentence a_reader a_sounds a_playing, zo_X7 a_text a_text_bytes v_text_length, (a_text_bytes, .inl (zY g, 600, .inl v_text_bytes))]) (W1 := [zo_X9 a_this a_score a_history a_text a_sentence a_reader a_sounds a_playing, zo_X7 a_text a_text_bytes v_text_length, (a_text_bytes, .inl (zY g, 600, .inl v_text_bytes))]) rfl rfl rfl rfl (by decide) rfl rfl (rest := []) rfl hl.1 rfl (Nat.le_of_ble_eq_true rfl) ⟨rfl, rfl⟩ ⟨Nat.le_of_ble_eq_true rfl, Nat.le_of_ble_eq_true rfl⟩ ⟨Nat.le_of_ble_eq_true rfl, Nat.le_of_ble_eq_true rfl⟩ dX9_type_4 htab hlocks hQ
  refine zRS F (k_X9_requireRange l N g x1 0 127 _ hr1_) zy_X9_requireRange zw_557 hP hD hS [] rfl rfl (rest := []) rfl hl.1 rfl (Nat.le_of_ble_eq_true rfl) ⟨rfl, rfl⟩ ⟨Nat.le_of_ble_eq_true rfl, Nat.le_of_ble_eq_true rfl⟩ ⟨Nat.zero_le _, Nat.zero_le _⟩ dX9_type_4 (st1 := []) rfl ?_
  refine lv_aload_n hx hb dX9_type_7 rfl (lv_at hl 0 rfl) ?_
  refine z_get (C := RX9) (T := TX9) (N := 7) (ci := 7) F zu_wsX90 hP 0 rfl rfl 2 (by decide) zw_484 rfl dX9_type_8 ?_
  obtain ⟨r2_, hr2_, h⟩ := z_bind h
  refine zRV F (k_X7_length l N g a_text a_text_bytes v_text_length _ hr2_) zy_X7_length zw_622 hP hD hS [1] rfl rfl (q0 := 1) (he := rfl) (hc := rfl) (rest := []) rfl hl.1 rfl (Nat.le_of_ble_eq_true rfl) ⟨rfl, rfl⟩ ⟨Nat.le_of_ble_eq_true rfl, Nat.le_of_ble_eq_true rfl⟩ ⟨Nat.zero_le _, Nat.zero_le _⟩ dX9_type_11 (st1 := [.int r2_]) rfl ?_
  refine lv_sipush (v := 600) hx hb dX9_type_14 (by decide) ?_
  refine z_clt (tgt := 30) hx hb dX9_type_17 (by decide) h (fun h => ?_) (fun h => ?_)
  · refine lv_aload_n hx hb dX9_type_30 rfl (lv_at hl 0 rfl) ?_
    refine z_get (C := RX9) (T := TX9) (N := 7) (ci := 7) F zu_wsX90 hP 0 rfl rfl 2 (by decide) zw_484 rfl dX9_type_31 ?_
    refine lv_iload_n hx hb dX9_type_34 rfl (lv_at hl 1 rfl) ?_
    obtain ⟨r3_, hr3_, h⟩ := z_bind h
    refine zVV F (k_X7_append l N g a_text a_text_bytes v_text_length v_text_bytes x1 _ hr3_) zy_X7_append zw_659 hP hD hS [1, 2] [0] [0, 1, 2] (wr := [zo_X9 a_this a_score a_history a_text a_sentence a_reader a_sounds a_playing]) (W1 := [zo_X9 a_this a_score a_history a_text a_sentence a_reader a_sounds a_playing, zo_X7 a_text a_text_bytes r3_.1, (a_text_bytes, .inl (zY g, 600, .inl r3_.2))]) rfl rfl rfl rfl (by decide) rfl rfl (q0 := 1) (he := rfl) (hc := rfl) (rest := []) rfl hl.1 rfl (Nat.le_of_ble_eq_true rfl) ⟨rfl, rfl⟩ ⟨Nat.le_of_ble_eq_true rfl, Nat.le_of_ble_eq_true rfl⟩ ⟨Nat.zero_le _, Nat.zero_le _⟩ dX9_type_35 (st1 := []) rfl (fun H locs hP hD hS => ?_)
    refine lv_aload_n hx hb dX9_type_38 rfl (lv_at hl 0 rfl) ?_
    refine z_get (C := RX9) (T := TX9) (N := 7) (ci := 7) F zu_wsX90 hP 0 rfl rfl 2 (by decide) zw_484 rfl dX9_type_39 ?_
    obtain ⟨r4_, hr4_, h⟩ := z_bind h
    refine zRV F (k_X7_length l N g a_text a_text_bytes r3_.1 _ hr4_) zy_X7_length zw_622 hP hD hS [1] rfl rfl (q0 := 1) (he := rfl) (hc := rfl) (rest := []) rfl hl.1 rfl (Nat.le_of_ble_eq_true rfl) ⟨rfl, rfl⟩ ⟨Nat.le_of_ble_eq_true rfl, Nat.le_of_ble_eq_true rfl⟩ ⟨Nat.zero_le _, Nat.zero_le _⟩ dX9_type_42 (st1 := [.int r4_]) rfl ?_
    cases h
  · obtain rfl := Sum.inr.inj (Option.some.inj h)
    exact zThS (k := 2) F hfl hN zw_517 zw_518 zst_X9_219 (fun w h => zu_zx_0 w h) zx_bad_0 (zx_ot_0 _) (by decide +kernel) hP hD hS hl.1 htab hlocks hQ dX9_type_20 dX9_type_23 dX9_type_24 dX9_type_26 dX9_type_29 (Nat.le_of_ble_eq_true rfl) (Nat.le_of_ble_eq_true rfl) (Nat.le_of_ble_eq_true rfl) (Nat.le_of_ble_eq_true rfl)
def f_X9_cut (N : Nat) (v_text_length : Int32) (x1 : Int32) : Option ((Int32 × Int32) ⊕ Nat) :=
  zSub (f_X9_requireRange N x1 1 600) (fun (r1_ : Unit) => Option.bind (f_X7_length N v_text_length) (fun (r2_ : Int32) => if r2_ < x1 then some (Sum.inr 2) else Option.bind (f_X7_shorten N v_text_length x1) (fun (r3_ : Int32) => Option.bind (f_X7_length N r3_) (fun (r4_ : Int32) => some (Sum.inl (r4_, r3_))))))
abbrev rm_X9_cut : Room := { frames := 7, cells := 0, slots := 0, locals := 112 }
theorem zy_X9_cut : zYv yX9_cut RX9 cX9_cut 2 (some .int) 1 := ⟨zw_815, zw_816, zw_527, zw_664, ⟨by decide, by decide⟩, by decide +kernel⟩
set_option maxHeartbeats 4000000 in
set_option maxRecDepth 100000 in
theorem k_X9_cut (l : Launch) (N : Nat) (g : zEnv) (a_this a_score a_history a_text a_sentence a_reader a_sounds a_playing a_text_bytes : Nat) (v_text_length : Int32) (x1 : Int32) (r : Int32 × Int32) (h : f_X9_cut N v_text_length x1 = some (Sum.inl r)) : ZV l yX9_cut cX9_cut 2 (some .int) rm_X9_cut g [.ref a_this, .int x1] [zo_X9 a_this a_score a_history a_text a_sentence a_reader a_sounds a_playing, zo_X7 a_text a_text_bytes v_text_length] [zo_X9 a_this a_score a_history a_text a_sentence a_reader a_sounds a_playing, zo_X7 a_text a_text_bytes r.2] (some (.int r.1)) := by
  refine zV_of (by decide) (Nat.le_of_ble_eq_true rfl) ?_
  intro p e s m below meth c A H locs ls Q R F hRm hr hlocks hP hD hS hl hQ
  subst hRm
  have F : zF p m c cX9_cut 2 s (([.ref a_this, .int x1] : List Value)).toArray RX9 g A := F
  have hx := F.1.1
  have hb := F.1.2.1
  have hz := F.1.2.2.2.2
  have hl : lv_has ls 2 [(0, .ref a_this), (1, .int x1)] := hl
  unfold f_X9_cut at h
  refine lv_iload_n hx hb dX9_cut_0 rfl (lv_at hl 1 rfl) ?_
  refine lv_iconst (v := 1) hx hb dX9_cut_1 (by decide) ?_
  refine lv_sipush (v := 600) hx hb dX9_cut_2 (by decide) ?_
  obtain ⟨r1_, hr1_, h⟩ := z_subL h
  refine zRS F (k_X9_requireRange l N g x1 1 600 _ hr1_) zy_X9_requireRange zw_557 hP hD hS [] rfl rfl (rest := []) rfl hl.1 rfl (Nat.le_of_ble_eq_true rfl) ⟨rfl, rfl⟩ ⟨Nat.le_of_ble_eq_true rfl, Nat.le_of_ble_eq_true rfl⟩ ⟨Nat.zero_le _, Nat.zero_le _⟩ dX9_cut_5 (st1 := []) rfl ?_
  refine lv_aload_n hx hb dX9_cut_8 rfl (lv_at hl 0 rfl) ?_
  refine z_get (C := RX9) (T := TX9) (N := 7) (ci := 7) F zu_wsX90 hP 0 rfl rfl 2 (by decide) zw_484 rfl dX9_cut_9 ?_
  obtain ⟨r2_, hr2_, h⟩ := z_bind h
  refine zRV F (k_X7_length l N g a_text a_text_bytes v_text_length _ hr2_) zy_X7_length zw_622 hP hD hS [1] rfl rfl (q0 := 1) (he := rfl) (hc := rfl) (rest := []) rfl hl.1 rfl (Nat.le_of_ble_eq_true rfl) ⟨rfl, rfl⟩ ⟨Nat.le_of_ble_eq_true rfl, Nat.le_of_ble_eq_true rfl⟩ ⟨Nat.zero_le _, Nat.zero_le _⟩ dX9_cut_12 (st1 := [.int r2_]) rfl ?_
  refine lv_iload_n hx hb dX9_cut_15 rfl (lv_at hl 1 rfl) ?_
  refine z_cge (tgt := 29) hx hb dX9_cut_16 (by decide) h (fun h => ?_) (fun h => ?_)
  · refine lv_aload_n hx hb dX9_cut_29 rfl (lv_at hl 0 rfl) ?_
    refine z_get (C := RX9) (T := TX9) (N := 7) (ci := 7) F zu_wsX90 hP 0 rfl rfl 2 (by decide) zw_484 rfl dX9_cut_30 ?_
    refine lv_iload_n hx hb dX9_cut_33 rfl (lv_at hl 1 rfl) ?_
    obtain ⟨r3_, hr3_, h⟩ := z_bind h
    refine zVV F (k_X7_shorten l N g a_text a_text_bytes v_text_length x1 _ hr3_) zy_X7_shorten zw_656 hP hD hS [1] [0] [0, 1] (wr := [zo_X9 a_this a_score a_history a_text a_sentence a_reader a_sounds a_playing]) (W1 := [zo_X9 a_this a_score a_history a_text a_sentence a_reader a_sounds a_playing, zo_X7 a_text a_text_bytes r3_]) rfl rfl rfl rfl (by decide) rfl rfl (q0 := 1) (he := rfl) (hc := rfl) (rest := []) rfl hl.1 rfl (Nat.le_of_ble_eq_true rfl) ⟨rfl, rfl⟩ ⟨Nat.le_of_ble_eq_true rfl, Nat.le_of_ble_eq_true rfl⟩ ⟨Nat.zero_le _, Nat.zero_le _⟩ dX9_cut_34 (st1 := []) rfl (fun H locs hP hD hS => ?_)
    refine lv_aload_n hx hb dX9_cut_37 rfl (lv_at hl 0 rfl) ?_
    refine z_get (C := RX9) (T := TX9) (N := 7) (ci := 7) F zu_wsX90 hP 0 rfl rfl 2 (by decide) zw_484 rfl dX9_cut_38 ?_
    obtain ⟨r4_, hr4_, h⟩ := z_bind h
    refine zRV F (k_X7_length l N g a_text a_text_bytes r3_ _ hr4_) zy_X7_length zw_622 hP hD hS [1] rfl rfl (q0 := 1) (he := rfl) (hc := rfl) (rest := []) rfl hl.1 rfl (Nat.le_of_ble_eq_true rfl) ⟨rfl, rfl⟩ ⟨Nat.le_of_ble_eq_true rfl, Nat.le_of_ble_eq_true rfl⟩ ⟨Nat.zero_le _, Nat.zero_le _⟩ dX9_cut_41 (st1 := [.int r4_]) rfl ?_
    obtain rfl := Sum.inl.inj (Option.some.inj h)
    exact zV_i F hr hlocks hQ hP hD hS dX9_cut_44
  · cases h
abbrev rx_X9_cut : Room := { frames := 7, cells := 1, slots := 6, locals := 112 }
set_option maxHeartbeats 4000000 in
set_option maxRecDepth 100000 in
theorem kx_X9_cut (l : Launch) (N : Nat) (g : zEnv) (a_this a_score a_history a_text a_sentence a_reader a_sounds a_playing a_text_bytes : Nat) (v_text_length : Int32) (x1 : Int32) (r : Nat) (h : f_X9_cut N v_text_length x1 = some (Sum.inr r)) (hfl : l.stackTraces = false) : ZE l yX9_cut cX9_cut 2 (some .int) rx_X9_cut g [.ref a_this, .int x1] [zo_X9 a_this a_score a_history a_text a_sentence a_reader a_sounds a_playing, zo_X7 a_text a_text_bytes v_text_length] [zo_X9 a_this a_score a_history a_text a_sentence a_reader a_sounds a_playing, zo_X7 a_text a_text_bytes v_text_length] r := by
  refine zE_of (by decide) (Nat.le_of_ble_eq_true rfl) ?_
  intro p e s m below meth c A H locs ls Q R F hRm hlocks hN htab hP hD hS hl hQ
  subst hRm
  have F : zF p m c cX9_cut 2 s (([.ref a_this, .int x1] : List Value)).toArray RX9 g A := F
  have hx := F.1.1
  have hb := F.1.2.1
  have hz := F.1.2.2.2.2
  have hl : lv_has ls 2 [(0, .ref a_this), (1, .int x1)] := hl
  unfold f_X9_cut at h
  refine lv_iload_n hx hb dX9_cut_0 rfl (lv_at hl 1 rfl) ?_
  refine lv_iconst (v := 1) hx hb dX9_cut_1 (by decide) ?_
  refine lv_sipush (v := 600) hx hb dX9_cut_2 (by decide) ?_
  refine z_subR h (fun h => ?_) (fun r1_ hr1_ h => ?_)
  · exact zXS F (kx_X9_requireRange l N g x1 1 600 _ h hfl) hN zy_X9_requireRange zw_557 hP hD hS [] [0, 1] [0, 1] (wr := [zo_X9 a_this a_score a_history a_text a_sentence a_reader a_sounds a_playing, zo_X7 a_text a_text_bytes v_text_length]) (W1 := [zo_X9 a_this a_score a_history a_text a_sentence a_reader a_sounds a_playing, zo_X7 a_text a_text_bytes v_text_length]) rfl rfl rfl rfl (by decide) rfl rfl (rest := []) rfl hl.1 rfl (Nat.le_of_ble_eq_true rfl) ⟨rfl, rfl⟩ ⟨Nat.le_of_ble_eq_true rfl, Nat.le_of_ble_eq_true rfl⟩ ⟨Nat.le_of_ble_eq_true rfl, Nat.le_of_ble_eq_true rfl⟩ dX9_cut_5 htab hlocks hQ
  refine zRS F (k_X9_requireRange l N g x1 1 600 _ hr1_) zy_X9_requireRange zw_557 hP hD hS [] rfl rfl (rest := []) rfl hl.1 rfl (Nat.le_of_ble_eq_true rfl) ⟨rfl, rfl⟩ ⟨Nat.le_of_ble_eq_true rfl, Nat.le_of_ble_eq_true rfl⟩ ⟨Nat.zero_le _, Nat.zero_le _⟩ dX9_cut_5 (st1 := []) rfl ?_
  refine lv_aload_n hx hb dX9_cut_8 rfl (lv_at hl 0 rfl) ?_
  refine z_get (C := RX9) (T := TX9) (N := 7) (ci := 7) F zu_wsX90 hP 0 rfl rfl 2 (by decide) zw_484 rfl dX9_cut_9 ?_
  obtain ⟨r2_, hr2_, h⟩ := z_bind h
  refine zRV F (k_X7_length l N g a_text a_text_bytes v_text_length _ hr2_) zy_X7_length zw_622 hP hD hS [1] rfl rfl (q0 := 1) (he := rfl) (hc := rfl) (rest := []) rfl hl.1 rfl (Nat.le_of_ble_eq_true rfl) ⟨rfl, rfl⟩ ⟨Nat.le_of_ble_eq_true rfl, Nat.le_of_ble_eq_true rfl⟩ ⟨Nat.zero_le _, Nat.zero_le _⟩ dX9_cut_12 (st1 := [.int r2_]) rfl ?_
  refine lv_iload_n hx hb dX9_cut_15 rfl (lv_at hl 1 rfl) ?_
  refine z_cge (tgt := 29) hx hb dX9_cut_16 (by decide) h (fun h => ?_) (fun h => ?_)
  · refine lv_aload_n hx hb dX9_cut_29 rfl (lv_at hl 0 rfl) ?_
    refine z_get (C := RX9) (T := TX9) (N := 7) (ci := 7) F zu_wsX90 hP 0 rfl rfl 2 (by decide) zw_484 rfl dX9_cut_30 ?_
    refine lv_iload_n hx hb dX9_cut_33 rfl (lv_at hl 1 rfl) ?_
    obtain ⟨r3_, hr3_, h⟩ := z_bind h
    refine zVV F (k_X7_shorten l N g a_text a_text_bytes v_text_length x1 _ hr3_) zy_X7_shorten zw_656 hP hD hS [1] [0] [0, 1] (wr := [zo_X9 a_this a_score a_history a_text a_sentence a_reader a_sounds a_playing]) (W1 := [zo_X9 a_this a_score a_history a_text a_sentence a_reader a_sounds a_playing, zo_X7 a_text a_text_bytes r3_]) rfl rfl rfl rfl (by decide) rfl rfl (q0 := 1) (he := rfl) (hc := rfl) (rest := []) rfl hl.1 rfl (Nat.le_of_ble_eq_true rfl) ⟨rfl, rfl⟩ ⟨Nat.le_of_ble_eq_true rfl, Nat.le_of_ble_eq_true rfl⟩ ⟨Nat.zero_le _, Nat.zero_le _⟩ dX9_cut_34 (st1 := []) rfl (fun H locs hP hD hS => ?_)
    refine lv_aload_n hx hb dX9_cut_37 rfl (lv_at hl 0 rfl) ?_
    refine z_get (C := RX9) (T := TX9) (N := 7) (ci := 7) F zu_wsX90 hP 0 rfl rfl 2 (by decide) zw_484 rfl dX9_cut_38 ?_
    obtain ⟨r4_, hr4_, h⟩ := z_bind h
    refine zRV F (k_X7_length l N g a_text a_text_bytes r3_ _ hr4_) zy_X7_length zw_622 hP hD hS [1] rfl rfl (q0 := 1) (he := rfl) (hc := rfl) (rest := []) rfl hl.1 rfl (Nat.le_of_ble_eq_true rfl) ⟨rfl, rfl⟩ ⟨Nat.le_of_ble_eq_true rfl, Nat.le_of_ble_eq_true rfl⟩ ⟨Nat.zero_le _, Nat.zero_le _⟩ dX9_cut_41 (st1 := [.int r4_]) rfl ?_
    cases h
  · obtain rfl := Sum.inr.inj (Option.some.inj h)
    exact zThS (k := 2) F hfl hN zw_517 zw_518 zst_X9_221 (fun w h => zu_zx_0 w h) zx_bad_0 (zx_ot_0 _) (by decide +kernel) hP hD hS hl.1 htab hlocks hQ dX9_cut_19 dX9_cut_22 dX9_cut_23 dX9_cut_25 dX9_cut_28 (Nat.le_of_ble_eq_true rfl) (Nat.le_of_ble_eq_true rfl) (Nat.le_of_ble_eq_true rfl) (Nat.le_of_ble_eq_true rfl)
def f_X9_clearText (N : Nat) (v_text_length : Int32) : Option (Int32 × Int32) :=
  Option.bind (f_X7_length N v_text_length) (fun (r1_ : Int32) => Option.bind (f_X7_shorten N v_text_length r1_) (fun (r2_ : Int32) => some (r1_, r2_)))
abbrev rm_X9_clearText : Room := { frames := 2, cells := 0, slots := 0, locals := 42 }
theorem zy_X9_clearText : zYv yX9_clearText RX9 cX9_clearText 2 (some .int) 0 := ⟨zw_925, zw_926, zw_527, zw_665, ⟨by decide, by decide⟩, by decide +kernel⟩
set_option maxHeartbeats 4000000 in
set_option maxRecDepth 100000 in
theorem k_X9_clearText (l : Launch) (N : Nat) (g : zEnv) (a_this a_score a_history a_text a_sentence a_reader a_sounds a_playing a_text_bytes : Nat) (v_text_length : Int32) (r : Int32 × Int32) (h : f_X9_clearText N v_text_length = some r) : ZV l yX9_clearText cX9_clearText 2 (some .int) rm_X9_clearText g [.ref a_this] [zo_X9 a_this a_score a_history a_text a_sentence a_reader a_sounds a_playing, zo_X7 a_text a_text_bytes v_text_length] [zo_X9 a_this a_score a_history a_text a_sentence a_reader a_sounds a_playing, zo_X7 a_text a_text_bytes r.2] (some (.int r.1)) := by
  refine zV_of (by decide) (Nat.le_of_ble_eq_true rfl) ?_
  intro p e s m below meth c A H locs ls Q R F hRm hr hlocks hP hD hS hl hQ
  subst hRm
  have F : zF p m c cX9_clearText 2 s (([.ref a_this] : List Value)).toArray RX9 g A := F
  have hx := F.1.1
  have hb := F.1.2.1
  have hz := F.1.2.2.2.2
  have hl : lv_has ls 2 [(0, .ref a_this)] := hl
  unfold f_X9_clearText at h
  refine lv_aload_n hx hb dX9_clearText_0 rfl (lv_at hl 0 rfl) ?_
  refine z_get (C := RX9) (T := TX9) (N := 7) (ci := 7) F zu_wsX90 hP 0 rfl rfl 2 (by decide) zw_484 rfl dX9_clearText_1 ?_
  obtain ⟨r1_, hr1_, h⟩ := z_bind h
  refine zRV F (k_X7_length l N g a_text a_text_bytes v_text_length _ hr1_) zy_X7_length zw_622 hP hD hS [1] rfl rfl (q0 := 1) (he := rfl) (hc := rfl) (rest := []) rfl hl.1 rfl (Nat.le_of_ble_eq_true rfl) ⟨rfl, rfl⟩ ⟨Nat.le_of_ble_eq_true rfl, Nat.le_of_ble_eq_true rfl⟩ ⟨Nat.zero_le _, Nat.zero_le _⟩ dX9_clearText_4 (st1 := [.int r1_]) rfl ?_
  refine lv_istore_n (lv' := [(1, .int r1_), (0, .ref a_this)]) hx hb dX9_clearText_7 rfl hl (by decide) rfl (fun ls hl => ?_)
  refine lv_aload_n hx hb dX9_clearText_8 rfl (lv_at hl 1 rfl) ?_
  refine z_get (C := RX9) (T := TX9) (N := 7) (ci := 7) F zu_wsX90 hP 0 rfl rfl 2 (by decide) zw_484 rfl dX9_clearText_9 ?_
  refine lv_iload_n hx hb dX9_clearText_12 rfl (lv_at hl 0 rfl) ?_
  obtain ⟨r2_, hr2_, h⟩ := z_bind h
  refine zVV F (k_X7_shorten l N g a_text a_text_bytes v_text_length r1_ _ hr2_) zy_X7_shorten zw_656 hP hD hS [1] [0] [0, 1] (wr := [zo_X9 a_this a_score a_history a_text a_sentence a_reader a_sounds a_playing]) (W1 := [zo_X9 a_this a_score a_history a_text a_sentence a_reader a_sounds a_playing, zo_X7 a_text a_text_bytes r2_]) rfl rfl rfl rfl (by decide) rfl rfl (q0 := 1) (he := rfl) (hc := rfl) (rest := []) rfl hl.1 rfl (Nat.le_of_ble_eq_true rfl) ⟨rfl, rfl⟩ ⟨Nat.le_of_ble_eq_true rfl, Nat.le_of_ble_eq_true rfl⟩ ⟨Nat.zero_le _, Nat.zero_le _⟩ dX9_clearText_13 (st1 := []) rfl (fun H locs hP hD hS => ?_)
  refine lv_iload_n hx hb dX9_clearText_16 rfl (lv_at hl 0 rfl) ?_
  obtain rfl := Option.some.inj h
  exact zV_i F hr hlocks hQ hP hD hS dX9_clearText_17
def f_X9_fault (N : Nat) (v_reader_failedAt : Int32) (v_reader_from : Int32) (v_reader_to : Int32) (v_text_length : Int32) (v_reader_draft_size : Int32) (v_text_bytes : Nat → Int32) (v_reader_draft_cells : Nat → Int32) : Option (Int32 × Int32 × Int32 × Int32 × Int32 × (Nat → Int32)) :=
  Option.bind (f_X3_findFault N v_reader_failedAt v_reader_from v_reader_to v_reader_draft_size v_text_length v_reader_draft_cells v_text_bytes) (fun (r1_ : Int32 × Int32 × Int32 × Int32 × Int32 × (Nat → Int32)) => some (r1_.1, r1_.2.1, r1_.2.2.1, r1_.2.2.2.1, r1_.2.2.2.2.1, r1_.2.2.2.2.2))
abbrev rm_X9_fault : Room := { frames := 12, cells := 0, slots := 0, locals := 334 }
theorem zy_X9_fault : zYv yX9_fault RX9 cX9_fault 1 (some .int) 0 := ⟨zw_933, zw_934, zw_527, zw_669, ⟨by decide, by decide⟩, by decide +kernel⟩
set_option maxHeartbeats 4000000 in
set_option maxRecDepth 100000 in
theorem k_X9_fault (l : Launch) (N : Nat) (g : zEnv) (a_this a_score a_history a_text a_sentence a_reader a_sounds a_playing a_reader_draft a_text_bytes a_reader_draft_cells : Nat) (v_reader_failedAt : Int32) (v_reader_from : Int32) (v_reader_to : Int32) (v_text_length : Int32) (v_reader_draft_size : Int32) (v_text_bytes : Nat → Int32) (v_reader_draft_cells : Nat → Int32) (r : Int32 × Int32 × Int32 × Int32 × Int32 × (Nat → Int32)) (h : f_X9_fault N v_reader_failedAt v_reader_from v_reader_to v_text_length v_reader_draft_size v_text_bytes v_reader_draft_cells = some r) : ZV l yX9_fault cX9_fault 1 (some .int) rm_X9_fault g [.ref a_this] [zo_X9 a_this a_score a_history a_text a_sentence a_reader a_sounds a_playing, zo_X3 a_reader a_text a_reader_draft v_reader_from v_reader_to v_reader_failedAt, zo_X7 a_text a_text_bytes v_text_length, zo_X4 a_reader_draft a_reader_draft_cells v_reader_draft_size, (a_text_bytes, .inl (zY g, 600, .inl v_text_bytes)), (a_reader_draft_cells, .inl (zI g, 912, .inl v_reader_draft_cells))] [zo_X9 a_this a_score a_history a_text a_sentence a_reader a_sounds a_playing, zo_X3 a_reader a_text a_reader_draft r.2.2.1 r.2.2.2.1 r.2.1, zo_X7 a_text a_text_bytes v_text_length, zo_X4 a_reader_draft a_reader_draft_cells r.2.2.2.2.1, (a_text_bytes, .inl (zY g, 600, .inl v_text_bytes)), (a_reader_draft_cells, .inl (zI g, 912, .inl r.2.2.2.2.2))] (some (.int r.1)) := by
  refine zV_of (by decide) (Nat.le_of_ble_eq_true rfl) ?_
  intro p e s m below meth c A H locs ls Q R F hRm hr hlocks hP hD hS hl hQ
  subst hRm
  have F : zF p m c cX9_fault 1 s (([.ref a_this] : List Value)).toArray RX9 g A := F
  have hx := F.1.1
  have hb := F.1.2.1
  have hz := F.1.2.2.2.2
  have hl : lv_has ls 1 [(0, .ref a_this)] := hl
  unfold f_X9_fault at h
  refine lv_aload_n hx hb dX9_fault_0 rfl (lv_at hl 0 rfl) ?_
  refine z_get (C := RX9) (T := TX9) (N := 7) (ci := 7) F zu_wsX90 hP 0 rfl rfl 4 (by decide) zw_490 rfl dX9_fault_1 ?_
  obtain ⟨r1_, hr1_, h⟩ := z_bind h
  refine zVV F (k_X3_findFault l N g a_reader a_text a_reader_draft a_reader_draft_cells a_text_bytes v_reader_failedAt v_reader_from v_reader_to v_reader_draft_size v_text_length v_reader_draft_cells v_text_bytes _ hr1_) zy_X3_findFault zw_666 hP hD hS [1, 3, 2, 5, 4] [0] [0, 1, 3, 2, 5, 4] (wr := [zo_X9 a_this a_score a_history a_text a_sentence a_reader a_sounds a_playing]) (W1 := [zo_X9 a_this a_score a_history a_text a_sentence a_reader a_sounds a_playing, zo_X3 a_reader a_text a_reader_draft r1_.2.2.1 r1_.2.2.2.1 r1_.2.1, zo_X7 a_text a_text_bytes v_text_length, zo_X4 a_reader_draft a_reader_draft_cells r1_.2.2.2.2.1, (a_text_bytes, .inl (zY g, 600, .inl v_text_bytes)), (a_reader_draft_cells, .inl (zI g, 912, .inl r1_.2.2.2.2.2))]) rfl rfl rfl rfl (by decide) rfl rfl (q0 := 1) (he := rfl) (hc := rfl) (rest := []) rfl hl.1 rfl (Nat.le_of_ble_eq_true rfl) ⟨rfl, rfl⟩ ⟨Nat.le_of_ble_eq_true rfl, Nat.le_of_ble_eq_true rfl⟩ ⟨Nat.zero_le _, Nat.zero_le _⟩ dX9_fault_4 (st1 := [.int r1_.1]) rfl (fun H locs hP hD hS => ?_)
  obtain rfl := Option.some.inj h
  exact zV_i F hr hlocks hQ hP hD hS dX9_fault_7
def f_X9_readInto (N : Nat) (v_history_next : Int32) (v_history_size : Int32) (v_playing_size : Int32) (v_reader_failedAt : Int32) (v_reader_from : Int32) (v_reader_to : Int32) (v_score_size : Int32) (v_text_length : Int32) (v_history_s0_size : Int32) (v_history_s1_size : Int32) (v_history_s2_size : Int32) (v_history_s3_size : Int32) (v_playing_places : Nat → Int32) (v_reader_draft_size : Int32) (v_score_cells : Nat → Int32) (v_sounds_heldTicks : Nat → Int32) (v_sounds_shifts : Nat → Int32) (v_text_bytes : Nat → Int32) (v_history_s0_cells : Nat → Int32) (v_history_s1_cells : Nat → Int32) (v_history_s2_cells : Nat → Int32) (v_history_s3_cells : Nat → Int32) (v_reader_draft_cells : Nat → Int32) (x1 : Int32) : Option ((Int32 × Int32 × Int32 × Int32 × Int32 × Int32 × Int32 × Int32 × Int32 × Int32 × Int32 × (Nat → Int32) × Int32 × (Nat → Int32) × (Nat → Int32) × (Nat → Int32) × (Nat → Int32) × (Nat → Int32) × (Nat → Int32) × (Nat → Int32) × (Nat → Int32)) ⊕ Nat) :=
  zSub (f_X9_requireMeasure N v_score_size x1) (fun (r1_ : Unit) => Option.bind (f_X3_findFault N v_reader_failedAt v_reader_from v_reader_to v_reader_draft_size v_text_length v_reader_draft_cells v_text_bytes) (fun (r2_ : Int32 × Int32 × Int32 × Int32 × Int32 × (Nat → Int32)) => if r2_.1 = (-1000) then Option.bind (f_X1_push N v_history_next v_history_size v_history_s0_size v_history_s1_size v_history_s2_size v_history_s3_size v_history_s0_cells v_history_s1_cells v_history_s2_cells v_history_s3_cells v_score_size v_score_cells) (fun (r3_ : Int32 × Int32 × Int32 × Int32 × Int32 × Int32 × (Nat → Int32) × (Nat → Int32) × (Nat → Int32) × (Nat → Int32)) => Option.bind (f_X3_draft N) (fun (r4_ : Unit) => Option.bind (f_X4_takeDraft N v_score_size v_score_cells r2_.2.2.2.2.1 r2_.2.2.2.2.2 x1) (fun (r5_ : (Nat → Int32)) => Option.bind (f_X9_settle N v_playing_size v_score_size v_playing_places r5_ v_sounds_heldTicks v_sounds_shifts) (fun (r6_ : Int32 × (Nat → Int32) × (Nat → Int32) × (Nat → Int32)) => Option.bind (f_X4_count N v_score_size r5_ x1 0) (fun (r7_ : Int32) => Option.bind (f_X4_count N v_score_size r5_ x1 1) (fun (r8_ : Int32) => some (Sum.inl ((r7_ + r8_), r3_.1, r3_.2.1, r6_.1, r2_.2.1, r2_.2.2.1, r2_.2.2.2.1, r3_.2.2.1, r3_.2.2.2.1, r3_.2.2.2.2.1, r3_.2.2.2.2.2.1, r6_.2.1, r2_.2.2.2.2.1, r5_, r6_.2.2.1, r6_.2.2.2, r3_.2.2.2.2.2.2.1, r3_.2.2.2.2.2.2.2.1, r3_.2.2.2.2.2.2.2.2.1, r3_.2.2.2.2.2.2.2.2.2, r2_.2.2.2.2.2)))))))) else some (Sum.inl (((-2000) - r2_.1), v_history_next, v_history_size, v_playing_size, r2_.2.1, r2_.2.2.1, r2_.2.2.2.1, v_history_s0_size, v_history_s1_size, v_history_s2_size, v_history_s3_size, v_playing_places, r2_.2.2.2.2.1, v_score_cells, v_sounds_heldTicks, v_sounds_shifts, v_history_s0_cells, v_history_s1_cells, v_history_s2_cells, v_history_s3_cells, r2_.2.2.2.2.2))))
abbrev rm_X9_readInto : Room := { frames := 12, cells := 0, slots := 0, locals := 334 }
theorem zy_X9_readInto : zYv yX9_readInto RX9 cX9_readInto 3 (some .int) 1 := ⟨zw_818, zw_819, zw_527, zw_676, ⟨by decide, by decide⟩, by decide +kernel⟩
set_option maxHeartbeats 4000000 in
set_option maxRecDepth 100000 in
theorem k_X9_readInto (l : Launch) (N : Nat) (g : zEnv) (a_this a_score a_history a_text a_sentence a_reader a_sounds a_playing a_history_saved a_history_s0 a_history_s1 a_history_s2 a_history_s3 a_playing_places a_reader_draft a_score_cells a_sounds_shifts a_sounds_heldTicks a_text_bytes a_history_s0_cells a_history_s1_cells a_history_s2_cells a_history_s3_cells a_reader_draft_cells : Nat) (v_history_next : Int32) (v_history_size : Int32) (v_playing_size : Int32) (v_reader_failedAt : Int32) (v_reader_from : Int32) (v_reader_to : Int32) (v_score_size : Int32) (v_text_length : Int32) (v_history_s0_size : Int32) (v_history_s1_size : Int32) (v_history_s2_size : Int32) (v_history_s3_size : Int32) (v_playing_places : Nat → Int32) (v_reader_draft_size : Int32) (v_score_cells : Nat → Int32) (v_sounds_heldTicks : Nat → Int32) (v_sounds_shifts : Nat → Int32) (v_text_bytes : Nat → Int32) (v_history_s0_cells : Nat → Int32) (v_history_s1_cells : Nat → Int32) (v_history_s2_cells : Nat → Int32) (v_history_s3_cells : Nat → Int32) (v_reader_draft_cells : Nat → Int32) (x1 : Int32) (r : Int32 × Int32 × Int32 × Int32 × Int32 × Int32 × Int32 × Int32 × Int32 × Int32 × Int32 × (Nat → Int32) × Int32 × (Nat → Int32) × (Nat → Int32) × (Nat → Int32) × (Nat → Int32) × (Nat → Int32) × (Nat → Int32) × (Nat → Int32) × (Nat → Int32)) (h : f_X9_readInto N v_history_next v_history_size v_playing_size v_reader_failedAt v_reader_from v_reader_to v_score_size v_text_length v_history_s0_size v_history_s1_size v_history_s2_size v_history_s3_size v_playing_places v_reader_draft_size v_score_cells v_sounds_heldTicks v_sounds_shifts v_text_bytes v_history_s0_cells v_history_s1_cells v_history_s2_cells v_history_s3_cells v_reader_draft_cells x1 = some (Sum.inl r)) : ZV l yX9_readInto cX9_readInto 3 (some .int) rm_X9_readInto g [.ref a_this, .int x1] [zo_X9 a_this a_score a_history a_text a_sentence a_reader a_sounds a_playing, zo_X1 a_history a_history_saved v_history_size v_history_next, zo_X2 a_playing a_playing_places v_playing_size, zo_X3 a_reader a_text a_reader_draft v_reader_from v_reader_to v_reader_failedAt, zo_X4 a_score a_score_cells v_score_size, zo_X6 a_sounds a_score a_sounds_shifts a_sounds_heldTicks, zo_X7 a_text a_text_bytes v_text_length, zo_X4 a_history_s0 a_history_s0_cells v_history_s0_size, zo_X4 a_history_s1 a_history_s1_cells v_history_s1_size, zo_X4 a_history_s2 a_history_s2_cells v_history_s2_size, zo_X4 a_history_s3 a_history_s3_cells v_history_s3_size, (a_history_saved, .inl (zO g, 4, .inr (.inr (.inr (.inr (zSv a_history_s0 a_history_s1 a_history_s2 a_history_s3)))))), (a_playing_places, .inl (zI g, 200, .inl v_playing_places)), zo_X4 a_reader_draft a_reader_draft_cells v_reader_draft_size, (a_score_cells, .inl (zI g, 912, .inl v_score_cells)), (a_sounds_heldTicks, .inl (zI g, 768, .inl v_sounds_heldTicks)), (a_sounds_shifts, .inl (zI g, 768, .inl v_sounds_shifts)), (a_text_bytes, .inl (zY g, 600, .inl v_text_bytes)), (a_history_s0_cells, .inl (zI g, 912, .inl v_history_s0_cells)), (a_history_s1_cells, .inl (zI g, 912, .inl v_history_s1_cells)), (a_history_s2_cells, .inl (zI g, 912, .inl v_history_s2_cells)), (a_history_s3_cells, .inl (zI g, 912, .inl v_history_s3_cells)), (a_reader_draft_cells, .inl (zI g, 912, .inl v_reader_draft_cells))] [zo_X9 a_this a_score a_history a_text a_sentence a_reader a_sounds a_playing, zo_X1 a_history a_history_saved r.2.2.1 r.2.1, zo_X2 a_playing a_playing_places r.2.2.2.1, zo_X3 a_reader a_text a_reader_draft r.2.2.2.2.2.1 r.2.2.2.2.2.2.1 r.2.2.2.2.1, zo_X4 a_score a_score_cells v_score_size, zo_X6 a_sounds a_score a_sounds_shifts a_sounds_heldTicks, zo_X7 a_text a_text_bytes v_text_length, zo_X4 a_history_s0 a_history_s0_cells r.2.2.2.2.2.2.2.1, zo_X4 a_history_s1 a_history_s1_cells r.2.2.2.2.2.2.2.2.1, zo_X4 a_history_s2 a_history_s2_cells r.2.2.2.2.2.2.2.2.2.1, zo_X4 a_history_s3 a_history_s3_cells r.2.2.2.2.2.2.2.2.2.2.1, (a_history_saved, .inl (zO g, 4, .inr (.inr (.inr (.inr (zSv a_history_s0 a_history_s1 a_history_s2 a_history_s3)))))), (a_playing_places, .inl (zI g, 200, .inl r.2.2.2.2.2.2.2.2.2.2.2.1)), zo_X4 a_reader_draft a_reader_draft_cells r.2.2.2.2.2.2.2.2.2.2.2.2.1, (a_score_cells, .inl (zI g, 912, .inl r.2.2.2.2.2.2.2.2.2.2.2.2.2.1)), (a_sounds_heldTicks, .inl (zI g, 768, .inl r.2.2.2.2.2.2.2.2.2.2.2.2.2.2.1)), (a_sounds_shifts, .inl (zI g, 768, .inl r.2.2.2.2.2.2.2.2.2.2.2.2.2.2.2.1)), (a_text_bytes, .inl (zY g, 600, .inl v_text_bytes)), (a_history_s0_cells, .inl (zI g, 912, .inl r.2.2.2.2.2.2.2.2.2.2.2.2.2.2.2.2.1)), (a_history_s1_cells, .inl (zI g, 912, .inl r.2.2.2.2.2.2.2.2.2.2.2.2.2.2.2.2.2.1)), (a_history_s2_cells, .inl (zI g, 912, .inl r.2.2.2.2.2.2.2.2.2.2.2.2.2.2.2.2.2.2.1)), (a_history_s3_cells, .inl (zI g, 912, .inl r.2.2.2.2.2.2.2.2.2.2.2.2.2.2.2.2.2.2.2.1)), (a_reader_draft_cells, .inl (zI g, 912, .inl r.2.2.2.2.2.2.2.2.2.2.2.2.2.2.2.2.2.2.2.2))] (some (.int r.1)) := by
  refine zV_of (by decide) (Nat.le_of_ble_eq_true rfl) ?_
  intro p e s m below meth c A H locs ls Q R F hRm hr hlocks hP hD hS hl hQ
  subst hRm
  have F : zF p m c cX9_readInto 3 s (([.ref a_this, .int x1] : List Value)).toArray RX9 g A := F
  have hx := F.1.1
  have hb := F.1.2.1
  have hz := F.1.2.2.2.2
  have hl : lv_has ls 3 [(0, .ref a_this), (1, .int x1)] := hl
  unfold f_X9_readInto at h
  refine lv_aload_n hx hb dX9_readInto_0 rfl (lv_at hl 0 rfl) ?_
  refine lv_iload_n hx hb dX9_readInto_1 rfl (lv_at hl 1 rfl) ?_
  obtain ⟨r1_, hr1_, h⟩ := z_subL h
  refine zRV F (k_X9_requireMeasure l N g a_this a_score a_history a_text a_sentence a_reader a_sounds a_playing a_score_cells v_score_size x1 _ hr1_) zy_X9_requireMeasure zw_534 hP hD hS [0, 4] rfl rfl (q0 := 0) (he := rfl) (hc := rfl) (rest := []) rfl hl.1 rfl (Nat.le_of_ble_eq_true rfl) ⟨rfl, rfl⟩ ⟨Nat.le_of_ble_eq_true rfl, Nat.le_of_ble_eq_true rfl⟩ ⟨Nat.zero_le _, Nat.zero_le _⟩ dX9_readInto_2 (st1 := []) rfl ?_
  refine lv_aload_n hx hb dX9_readInto_5 rfl (lv_at hl 0 rfl) ?_
  refine z_get (C := RX9) (T := TX9) (N := 7) (ci := 7) F zu_wsX90 hP 0 rfl rfl 4 (by decide) zw_490 rfl dX9_readInto_6 ?_
  obtain ⟨r2_, hr2_, h⟩ := z_bind h
  refine zVV F (k_X3_findFault l N g a_reader a_text a_reader_draft a_reader_draft_cells a_text_bytes v_reader_failedAt v_reader_from v_reader_to v_reader_draft_size v_text_length v_reader_draft_cells v_text_bytes _ hr2_) zy_X3_findFault zw_666 hP hD hS [3, 13, 6, 22, 17] [0, 1, 2, 4, 5, 7, 8, 9, 10, 11, 12, 14, 15, 16, 18, 19, 20, 21] [0, 1, 2, 18, 3, 4, 20, 5, 6, 7, 8, 9, 10, 19, 11, 12, 13, 22, 14, 15, 16, 17, 21] (wr := [zo_X9 a_this a_score a_history a_text a_sentence a_reader a_sounds a_playing, zo_X1 a_history a_history_saved v_history_size v_history_next, zo_X2 a_playing a_playing_places v_playing_size, zo_X4 a_score a_score_cells v_score_size, zo_X6 a_sounds a_score a_sounds_shifts a_sounds_heldTicks, zo_X4 a_history_s0 a_history_s0_cells v_history_s0_size, zo_X4 a_history_s1 a_history_s1_cells v_history_s1_size, zo_X4 a_history_s2 a_history_s2_cells v_history_s2_size, zo_X4 a_history_s3 a_history_s3_cells v_history_s3_size, (a_history_saved, .inl (zO g, 4, .inr (.inr (.inr (.inr (zSv a_history_s0 a_history_s1 a_history_s2 a_history_s3)))))), (a_playing_places, .inl (zI g, 200, .inl v_playing_places)), (a_score_cells, .inl (zI g, 912, .inl v_score_cells)), (a_sounds_heldTicks, .inl (zI g, 768, .inl v_sounds_heldTicks)), (a_sounds_shifts, .inl (zI g, 768, .inl v_sounds_shifts)), (a_history_s0_cells, .inl (zI g, 912, .inl v_history_s0_cells)), (a_history_s1_cells, .inl (zI g, 912, .inl v_history_s1_cells)), (a_history_s2_cells, .inl (zI g, 912, .inl v_history_s2_cells)), (a_history_s3_cells, .inl (zI g, 912, .inl v_history_s3_cells))]) (W1 := [zo_X9 a_this a_score a_history a_text a_sentence a_reader a_sounds a_playing, zo_X1 a_history a_history_saved v_history_size v_history_next, zo_X2 a_playing a_playing_places v_playing_size, zo_X3 a_reader a_text a_reader_draft r2_.2.2.1 r2_.2.2.2.1 r2_.2.1, zo_X4 a_score a_score_cells v_score_size, zo_X6 a_sounds a_score a_sounds_shifts a_sounds_heldTicks, zo_X7 a_text a_text_bytes v_text_length, zo_X4 a_history_s0 a_history_s0_cells v_history_s0_size, zo_X4 a_history_s1 a_history_s1_cells v_history_s1_size, zo_X4 a_history_s2 a_history_s2_cells v_history_s2_size, zo_X4 a_history_s3 a_history_s3_cells v_history_s3_size, (a_history_saved, .inl (zO g, 4, .inr (.inr (.inr (.inr (zSv a_history_s0 a_history_s1 a_history_s2 a_history_s3)))))), (a_playing_places, .inl (zI g, 200, .inl v_playing_places)), zo_X4 a_reader_draft a_reader_draft_cells r2_.2.2.2.2.1, (a_score_cells, .inl (zI g, 912, .inl v_score_cells)), (a_sounds_heldTicks, .inl (zI g, 768, .inl v_sounds_heldTicks)), (a_sounds_shifts, .inl (zI g, 768, .inl v_sounds_shifts)), (a_text_bytes, .inl (zY g, 600, .inl v_text_bytes)), (a_history_s0_cells, .inl (zI g, 912, .inl v_history_s0_cells)), (a_history_s1_cells, .inl (zI g, 912, .inl v_history_s1_cells)), (a_history_s2_cells, .inl (zI g, 912, .inl v_history_s2_cells)), (a_history_s3_cells, .inl (zI g, 912, .inl v_history_s3_cells)), (a_reader_draft_cells, .inl (zI g, 912, .inl r2_.2.2.2.2.2))]) rfl rfl rfl rfl (by decide) rfl rfl (q0 := 3) (he := rfl) (hc := rfl) (rest := []) rfl hl.1 rfl (Nat.le_of_ble_eq_true rfl) ⟨rfl, rfl⟩ ⟨Nat.le_of_ble_eq_true rfl, Nat.le_of_ble_eq_true rfl⟩ ⟨Nat.zero_le _, Nat.zero_le _⟩ dX9_readInto_9 (st1 := [.int r2_.1]) rfl (fun H locs hP hD hS => ?_)
  refine lv_istore_n (lv' := [(2, .int r2_.1), (0, .ref a_this), (1, .int x1)]) hx hb dX9_readInto_12 rfl hl (by decide) rfl (fun ls hl => ?_)
  refine lv_iload_n hx hb dX9_readInto_13 rfl (lv_at hl 0 rfl) ?_
  refine lv_sipush (v := (-1000)) hx hb dX9_readInto_14 (by decide) ?_
  refine z_ceq (tgt := 26) hx hb dX9_readInto_17 (by decide) h (fun h => ?_) (fun h => ?_)
  · refine lv_aload_n hx hb dX9_readInto_26 rfl (lv_at hl 1 rfl) ?_
    refine z_get (C := RX9) (T := TX9) (N := 7) (ci := 7) F zu_wsX90 hP 0 rfl rfl 1 (by decide) zw_481 rfl dX9_readInto_27 ?_
    refine lv_aload_n hx hb dX9_readInto_30 rfl (lv_at hl 1 rfl) ?_
    refine z_get (C := RX9) (T := TX9) (N := 7) (ci := 7) F zu_wsX90 hP 0 rfl rfl 0 (by decide) zw_478 rfl dX9_readInto_31 ?_
    obtain ⟨r3_, hr3_, h⟩ := z_bind h
    refine zVV F (k_X1_push l N g a_history a_history_saved a_history_s0 a_history_s1 a_history_s2 a_history_s3 a_history_s0_cells a_history_s1_cells a_history_s2_cells a_history_s3_cells a_score a_score_cells v_history_next v_history_size v_history_s0_size v_history_s1_size v_history_s2_size v_history_s3_size v_history_s0_cells v_history_s1_cells v_history_s2_cells v_history_s3_cells v_score_size v_score_cells _ hr3_) zy_X1_push zw_520 hP hD hS [1, 7, 8, 9, 10, 11, 18, 19, 20, 21, 4, 14] [0, 2, 3, 5, 6, 12, 13, 15, 16, 17, 22] [0, 11, 1, 2, 21, 3, 4, 12, 13, 14, 15, 16, 5, 6, 22, 7, 8, 9, 17, 18, 19, 20, 10] (wr := [zo_X9 a_this a_score a_history a_text a_sentence a_reader a_sounds a_playing, zo_X2 a_playing a_playing_places v_playing_size, zo_X3 a_reader a_text a_reader_draft r2_.2.2.1 r2_.2.2.2.1 r2_.2.1, zo_X6 a_sounds a_score a_sounds_shifts a_sounds_heldTicks, zo_X7 a_text a_text_bytes v_text_length, (a_playing_places, .inl (zI g, 200, .inl v_playing_places)), zo_X4 a_reader_draft a_reader_draft_cells r2_.2.2.2.2.1, (a_sounds_heldTicks, .inl (zI g, 768, .inl v_sounds_heldTicks)), (a_sounds_shifts, .inl (zI g, 768, .inl v_sounds_shifts)), (a_text_bytes, .inl (zY g, 600, .inl v_text_bytes)), (a_reader_draft_cells, .inl (zI g, 912, .inl r2_.2.2.2.2.2))]) (W1 := [zo_X9 a_this a_score a_history a_text a_sentence a_reader a_sounds a_playing, zo_X1 a_history a_history_saved r3_.2.1 r3_.1, zo_X2 a_playing a_playing_places v_playing_size, zo_X3 a_reader a_text a_reader_draft r2_.2.2.1 r2_.2.2.2.1 r2_.2.1, zo_X4 a_score a_score_cells v_score_size, zo_X6 a_sounds a_score a_sounds_shifts a_sounds_heldTicks, zo_X7 a_text a_text_bytes v_text_length, zo_X4 a_history_s0 a_history_s0_cells r3_.2.2.1, zo_X4 a_history_s1 a_history_s1_cells r3_.2.2.2.1, zo_X4 a_history_s2 a_history_s2_cells r3_.2.2.2.2.1, zo_X4 a_history_s3 a_history_s3_cells r3_.2.2.2.2.2.1, (a_history_saved, .inl (zO g, 4, .inr (.inr (.inr (.inr (zSv a_history_s0 a_history_s1 a_history_s2 a_history_s3)))))), (a_playing_places, .inl (zI g, 200, .inl v_playing_places)), zo_X4 a_reader_draft a_reader_draft_cells r2_.2.2.2.2.1, (a_score_cells, .inl (zI g, 912, .inl v_score_cells)), (a_sounds_heldTicks, .inl (zI g, 768, .inl v_sounds_heldTicks)), (a_sounds_shifts, .inl (zI g, 768, .inl v_sounds_shifts)), (a_text_bytes, .inl (zY g, 600, .inl v_text_bytes)), (a_history_s0_cells, .inl (zI g, 912, .inl r3_.2.2.2.2.2.2.1)), (a_history_s1_cells, .inl (zI g, 912, .inl r3_.2.2.2.2.2.2.2.1)), (a_history_s2_cells, .inl (zI g, 912, .inl r3_.2.2.2.2.2.2.2.2.1)), (a_history_s3_cells, .inl (zI g, 912, .inl r3_.2.2.2.2.2.2.2.2.2)), (a_reader_draft_cells, .inl (zI g, 912, .inl r2_.2.2.2.2.2))]) rfl rfl rfl rfl (by decide) rfl rfl (q0 := 1) (he := rfl) (hc := rfl) (rest := []) rfl hl.1 rfl (Nat.le_of_ble_eq_true rfl) ⟨rfl, rfl⟩ ⟨Nat.le_of_ble_eq_true rfl, Nat.le_of_ble_eq_true rfl⟩ ⟨Nat.zero_le _, Nat.zero_le _⟩ dX9_readInto_34 (st1 := []) rfl (fun H locs hP hD hS => ?_)
    refine lv_aload_n hx hb dX9_readInto_37 rfl (lv_at hl 1 rfl) ?_
    refine z_get (C := RX9) (T := TX9) (N := 7) (ci := 7) F zu_wsX90 hP 0 rfl rfl 0 (by decide) zw_478 rfl dX9_readInto_38 ?_
    refine lv_iload_n hx hb dX9_readInto_41 rfl (lv_at hl 2 rfl) ?_
    refine lv_aload_n hx hb dX9_readInto_42 rfl (lv_at hl 1 rfl) ?_
    refine z_get (C := RX9) (T := TX9) (N := 7) (ci := 7) F zu_wsX90 hP 0 rfl rfl 4 (by decide) zw_490 rfl dX9_readInto_43 ?_
    obtain ⟨r4_, hr4_, h⟩ := z_bind h
    refine zRV F (k_X3_draft l N g a_reader a_text a_reader_draft r2_.2.2.1 r2_.2.2.2.1 r2_.2.1 _ hr4_) zy_X3_draft zw_670 hP hD hS [3] rfl rfl (q0 := 3) (he := rfl) (hc := rfl) (rest := [.int x1, .ref a_score]) rfl hl.1 rfl (Nat.le_of_ble_eq_true rfl) ⟨rfl, rfl⟩ ⟨Nat.le_of_ble_eq_true rfl, Nat.le_of_ble_eq_true rfl⟩ ⟨Nat.zero_le _, Nat.zero_le _⟩ dX9_readInto_46 (st1 := [.ref a_reader_draft, .int x1, .ref a_score]) rfl ?_
    obtain ⟨r5_, hr5_, h⟩ := z_bind h
    refine zVV F (k_X4_takeDraft l N g a_score a_score_cells a_reader_draft a_reader_draft_cells v_score_size v_score_cells r2_.2.2.2.2.1 r2_.2.2.2.2.2 x1 _ hr5_) zy_X4_takeDraft zw_673 hP hD hS [4, 14, 13, 22] [0, 1, 2, 3, 5, 6, 7, 8, 9, 10, 11, 12, 15, 16, 17, 18, 19, 20, 21] [0, 1, 2, 3, 19, 4, 5, 6, 7, 8, 9, 10, 11, 21, 20, 12, 13, 14, 15, 16, 17, 18, 22] (wr := [zo_X9 a_this a_score a_history a_text a_sentence a_reader a_sounds a_playing, zo_X1 a_history a_history_saved r3_.2.1 r3_.1, zo_X2 a_playing a_playing_places v_playing_size, zo_X3 a_reader a_text a_reader_draft r2_.2.2.1 r2_.2.2.2.1 r2_.2.1, zo_X6 a_sounds a_score a_sounds_shifts a_sounds_heldTicks, zo_X7 a_text a_text_bytes v_text_length, zo_X4 a_history_s0 a_history_s0_cells r3_.2.2.1, zo_X4 a_history_s1 a_history_s1_cells r3_.2.2.2.1, zo_X4 a_history_s2 a_history_s2_cells r3_.2.2.2.2.1, zo_X4 a_history_s3 a_history_s3_cells r3_.2.2.2.2.2.1, (a_history_saved, .inl (zO g, 4, .inr (.inr (.inr (.inr (zSv a_history_s0 a_history_s1 a_history_s2 a_history_s3)))))), (a_playing_places, .inl (zI g, 200, .inl v_playing_places)), (a_sounds_heldTicks, .inl (zI g, 768, .inl v_sounds_heldTicks)), (a_sounds_shifts, .inl (zI g, 768, .inl v_sounds_shifts)), (a_text_bytes, .inl (zY g, 600, .inl v_text_bytes)), (a_history_s0_cells, .inl (zI g, 912, .inl r3_.2.2.2.2.2.2.1)), (a_history_s1_cells, .inl (zI g, 912, .inl r3_.2.2.2.2.2.2.2.1)), (a_history_s2_cells, .inl (zI g, 912, .inl r3_.2.2.2.2.2.2.2.2.1)), (a_history_s3_cells, .inl (zI g, 912, .inl r3_.2.2.2.2.2.2.2.2.2))]) (W1 := [zo_X9 a_this a_score a_history a_text a_sentence a_reader a_sounds a_playing, zo_X1 a_history a_history_saved r3_.2.1 r3_.1, zo_X2 a_playing a_playing_places v_playing_size, zo_X3 a_reader a_text a_reader_draft r2_.2.2.1 r2_.2.2.2.1 r2_.2.1, zo_X4 a_score a_score_cells v_score_size, zo_X6 a_sounds a_score a_sounds_shifts a_sounds_heldTicks, zo_X7 a_text a_text_bytes v_text_length, zo_X4 a_history_s0 a_history_s0_cells r3_.2.2.1, zo_X4 a_history_s1 a_history_s1_cells r3_.2.2.2.1, zo_X4 a_history_s2 a_history_s2_cells r3_.2.2.2.2.1, zo_X4 a_history_s3 a_history_s3_cells r3_.2.2.2.2.2.1, (a_history_saved, .inl (zO g, 4, .inr (.inr (.inr (.inr (zSv a_history_s0 a_history_s1 a_history_s2 a_history_s3)))))), (a_playing_places, .inl (zI g, 200, .inl v_playing_places)), zo_X4 a_reader_draft a_reader_draft_cells r2_.2.2.2.2.1, (a_score_cells, .inl (zI g, 912, .inl r5_)), (a_sounds_heldTicks, .inl (zI g, 768, .inl v_sounds_heldTicks)), (a_sounds_shifts, .inl (zI g, 768, .inl v_sounds_shifts)), (a_text_bytes, .inl (zY g, 600, .inl v_text_bytes)), (a_history_s0_cells, .inl (zI g, 912, .inl r3_.2.2.2.2.2.2.1)), (a_history_s1_cells, .inl (zI g, 912, .inl r3_.2.2.2.2.2.2.2.1)), (a_history_s2_cells, .inl (zI g, 912, .inl r3_.2.2.2.2.2.2.2.2.1)), (a_history_s3_cells, .inl (zI g, 912, .inl r3_.2.2.2.2.2.2.2.2.2)), (a_reader_draft_cells, .inl (zI g, 912, .inl r2_.2.2.2.2.2))]) rfl rfl rfl rfl (by decide) rfl rfl (q0 := 4) (he := rfl) (hc := rfl) (rest := []) rfl hl.1 rfl (Nat.le_of_ble_eq_true rfl) ⟨rfl, rfl⟩ ⟨Nat.le_of_ble_eq_true rfl, Nat.le_of_ble_eq_true rfl⟩ ⟨Nat.zero_le _, Nat.zero_le _⟩ dX9_readInto_49 (st1 := []) rfl (fun H locs hP hD hS => ?_)
    refine lv_aload_n hx hb dX9_readInto_52 rfl (lv_at hl 1 rfl) ?_
    obtain ⟨r6_, hr6_, h⟩ := z_bind h
    refine zVV F (k_X9_settle l N g a_this a_score a_history a_text a_sentence a_reader a_sounds a_playing a_playing_places a_score_cells a_sounds_shifts a_sounds_heldTicks v_playing_size v_score_size v_playing_places r5_ v_sounds_heldTicks v_sounds_shifts _ hr6_) zy_X9_settle zw_524 hP hD hS [0, 2, 4, 5, 12, 14, 15, 16] [1, 3, 6, 7, 8, 9, 10, 11, 13, 17, 18, 19, 20, 21, 22] [15, 0, 16, 1, 17, 18, 2, 3, 4, 5, 6, 7, 19, 8, 20, 21, 22, 9, 10, 11, 12, 13, 14] (wr := [zo_X1 a_history a_history_saved r3_.2.1 r3_.1, zo_X3 a_reader a_text a_reader_draft r2_.2.2.1 r2_.2.2.2.1 r2_.2.1, zo_X7 a_text a_text_bytes v_text_length, zo_X4 a_history_s0 a_history_s0_cells r3_.2.2.1, zo_X4 a_history_s1 a_history_s1_cells r3_.2.2.2.1, zo_X4 a_history_s2 a_history_s2_cells r3_.2.2.2.2.1, zo_X4 a_history_s3 a_history_s3_cells r3_.2.2.2.2.2.1, (a_history_saved, .inl (zO g, 4, .inr (.inr (.inr (.inr (zSv a_history_s0 a_history_s1 a_history_s2 a_history_s3)))))), zo_X4 a_reader_draft a_reader_draft_cells r2_.2.2.2.2.1, (a_text_bytes, .inl (zY g, 600, .inl v_text_bytes)), (a_history_s0_cells, .inl (zI g, 912, .inl r3_.2.2.2.2.2.2.1)), (a_history_s1_cells, .inl (zI g, 912, .inl r3_.2.2.2.2.2.2.2.1)), (a_history_s2_cells, .inl (zI g, 912, .inl r3_.2.2.2.2.2.2.2.2.1)), (a_history_s3_cells, .inl (zI g, 912, .inl r3_.2.2.2.2.2.2.2.2.2)), (a_reader_draft_cells, .inl (zI g, 912, .inl r2_.2.2.2.2.2))]) (W1 := [zo_X9 a_this a_score a_history a_text a_sentence a_reader a_sounds a_playing, zo_X1 a_history a_history_saved r3_.2.1 r3_.1, zo_X2 a_playing a_playing_places r6_.1, zo_X3 a_reader a_text a_reader_draft r2_.2.2.1 r2_.2.2.2.1 r2_.2.1, zo_X4 a_score a_score_cells v_score_size, zo_X6 a_sounds a_score a_sounds_shifts a_sounds_heldTicks, zo_X7 a_text a_text_bytes v_text_length, zo_X4 a_history_s0 a_history_s0_cells r3_.2.2.1, zo_X4 a_history_s1 a_history_s1_cells r3_.2.2.2.1, zo_X4 a_history_s2 a_history_s2_cells r3_.2.2.2.2.1, zo_X4 a_history_s3 a_history_s3_cells r3_.2.2.2.2.2.1, (a_history_saved, .inl (zO g, 4, .inr (.inr (.inr (.inr (zSv a_history_s0 a_history_s1 a_history_s2 a_history_s3)))))), (a_playing_places, .inl (zI g, 200, .inl r6_.2.1)), zo_X4 a_reader_draft a_reader_draft_cells r2_.2.2.2.2.1, (a_score_cells, .inl (zI g, 912, .inl r5_)), (a_sounds_heldTicks, .inl (zI g, 768, .inl r6_.2.2.1)), (a_sounds_shifts, .inl (zI g, 768, .inl r6_.2.2.2)), (a_text_bytes, .inl (zY g, 600, .inl v_text_bytes)), (a_history_s0_cells, .inl (zI g, 912, .inl r3_.2.2.2.2.2.2.1)), (a_history_s1_cells, .inl (zI g, 912, .inl r3_.2.2.2.2.2.2.2.1)), (a_history_s2_cells, .inl (zI g, 912, .inl r3_.2.2.2.2.2.2.2.2.1)), (a_history_s3_cells, .inl (zI g, 912, .inl r3_.2.2.2.2.2.2.2.2.2)), (a_reader_draft_cells, .inl (zI g, 912, .inl r2_.2.2.2.2.2))]) rfl rfl rfl rfl (by decide) rfl rfl (q0 := 0) (he := rfl) (hc := rfl) (rest := []) rfl hl.1 rfl (Nat.le_of_ble_eq_true rfl) ⟨rfl, rfl⟩ ⟨Nat.le_of_ble_eq_true rfl, Nat.le_of_ble_eq_true rfl⟩ ⟨Nat.zero_le _, Nat.zero_le _⟩ dX9_readInto_53 (st1 := []) rfl (fun H locs hP hD hS => ?_)
    refine lv_aload_n hx hb dX9_readInto_56 rfl (lv_at hl 1 rfl) ?_
    refine z_get (C := RX9) (T := TX9) (N := 7) (ci := 7) F zu_wsX90 hP 0 rfl rfl 0 (by decide) zw_478 rfl dX9_readInto_57 ?_
    refine lv_iload_n hx hb dX9_readInto_60 rfl (lv_at hl 2 rfl) ?_
    refine lv_iconst (v := 0) hx hb dX9_readInto_61 (by decide) ?_
    obtain ⟨r7_, hr7_, h⟩ := z_bind h
    refine zRV F (k_X4_count l N g a_score a_score_cells v_score_size r5_ x1 0 _ hr7_) zy_X4_count zw_552 hP hD hS [4, 14] rfl rfl (q0 := 4) (he := rfl) (hc := rfl) (rest := []) rfl hl.1 rfl (Nat.le_of_ble_eq_true rfl) ⟨rfl, rfl⟩ ⟨Nat.le_of_ble_eq_true rfl, Nat.le_of_ble_eq_true rfl⟩ ⟨Nat.zero_le _, Nat.zero_le _⟩ dX9_readInto_62 (st1 := [.int r7_]) rfl ?_
    refine lv_aload_n hx hb dX9_readInto_65 rfl (lv_at hl 1 rfl) ?_
    refine z_get (C := RX9) (T := TX9) (N := 7) (ci := 7) F zu_wsX90 hP 0 rfl rfl 0 (by decide) zw_478 rfl dX9_readInto_66 ?_
    refine lv_iload_n hx hb dX9_readInto_69 rfl (lv_at hl 2 rfl) ?_
    refine lv_iconst (v := 1) hx hb dX9_readInto_70 (by decide) ?_
    obtain ⟨r8_, hr8_, h⟩ := z_bind h
    refine zRV F (k_X4_count l N g a_score a_score_cells v_score_size r5_ x1 1 _ hr8_) zy_X4_count zw_552 hP hD hS [4, 14] rfl rfl (q0 := 4) (he := rfl) (hc := rfl) (rest := [.int r7_]) rfl hl.1 rfl (Nat.le_of_ble_eq_true rfl) ⟨rfl, rfl⟩ ⟨Nat.le_of_ble_eq_true rfl, Nat.le_of_ble_eq_true rfl⟩ ⟨Nat.zero_le _, Nat.zero_le _⟩ dX9_readInto_71 (st1 := [.int r8_, .int r7_]) rfl ?_
    refine lv_iadd hx hb dX9_readInto_74 ?_
    obtain rfl := Sum.inl.inj (Option.some.inj h)
    exact zV_i F hr hlocks hQ hP hD hS dX9_readInto_75
  · refine lv_sipush (v := (-2000)) hx hb dX9_readInto_20 (by decide) ?_
    refine lv_iload_n hx hb dX9_readInto_23 rfl (lv_at hl 0 rfl) ?_
    refine lv_isub hx hb dX9_readInto_24 ?_
    obtain rfl := Sum.inl.inj (Option.some.inj h)
    exact zV_i F hr hlocks hQ hP hD hS dX9_readInto_25
abbrev rx_X9_readInto : Room := { frames := 12, cells := 1, slots := 6, locals := 334 }
set_option maxHeartbeats 4000000 in
set_option maxRecDepth 100000 in
theorem kx_X9_readInto (l : Launch) (N : Nat) (g : zEnv) (a_this a_score a_history a_text a_sentence a_reader a_sounds a_playing a_history_saved a_history_s0 a_history_s1 a_history_s2 a_history_s3 a_playing_places a_reader_draft a_score_cells a_sounds_shifts a_sounds_heldTicks a_text_bytes a_history_s0_cells a_history_s1_cells a_history_s2_cells a_history_s3_cells a_reader_draft_cells : Nat) (v_history_next : Int32) (v_history_size : Int32) (v_playing_size : Int32) (v_reader_failedAt : Int32) (v_reader_from : Int32) (v_reader_to : Int32) (v_score_size : Int32) (v_text_length : Int32) (v_history_s0_size : Int32) (v_history_s1_size : Int32) (v_history_s2_size : Int32) (v_history_s3_size : Int32) (v_playing_places : Nat → Int32) (v_reader_draft_size : Int32) (v_score_cells : Nat → Int32) (v_sounds_heldTicks : Nat → Int32) (v_sounds_shifts : Nat → Int32) (v_text_bytes : Nat → Int32) (v_history_s0_cells : Nat → Int32) (v_history_s1_cells : Nat → Int32) (v_history_s2_cells : Nat → Int32) (v_history_s3_cells : Nat → Int32) (v_reader_draft_cells : Nat → Int32) (x1 : Int32) (r : Nat) (h : f_X9_readInto N v_history_next v_history_size v_playing_size v_reader_failedAt v_reader_from v_reader_to v_score_size v_text_length v_history_s0_size v_history_s1_size v_history_s2_size v_history_s3_size v_playing_places v_reader_draft_size v_score_cells v_sounds_heldTicks v_sounds_shifts v_text_bytes v_history_s0_cells v_history_s1_cells v_history_s2_cells v_history_s3_cells v_reader_draft_cells x1 = some (Sum.inr r)) (hfl : l.stackTraces = false) : ZE l yX9_readInto cX9_readInto 3 (some .int) rx_X9_readInto g [.ref a_this, .int x1] [zo_X9 a_this a_score a_history a_text a_sentence a_reader a_sounds a_playing, zo_X1 a_history a_history_saved v_history_size v_history_next, zo_X2 a_playing a_playing_places v_playing_size, zo_X3 a_reader a_text a_reader_draft v_reader_from v_reader_to v_reader_failedAt, zo_X4 a_score a_score_cells v_score_size, zo_X6 a_sounds a_score a_sounds_shifts a_sounds_heldTicks, zo_X7 a_text a_text_bytes v_text_length, zo_X4 a_history_s0 a_history_s0_cells v_history_s0_size, zo_X4 a_history_s1 a_history_s1_cells v_history_s1_size, zo_X4 a_history_s2 a_history_s2_cells v_history_s2_size, zo_X4 a_history_s3 a_history_s3_cells v_history_s3_size, (a_history_saved, .inl (zO g, 4, .inr (.inr (.inr (.inr (zSv a_history_s0 a_history_s1 a_history_s2 a_history_s3)))))), (a_playing_places, .inl (zI g, 200, .inl v_playing_places)), zo_X4 a_reader_draft a_reader_draft_cells v_reader_draft_size, (a_score_cells, .inl (zI g, 912, .inl v_score_cells)), (a_sounds_heldTicks, .inl (zI g, 768, .inl v_sounds_heldTicks)), (a_sounds_shifts, .inl (zI g, 768, .inl v_sounds_shifts)), (a_text_bytes, .inl (zY g, 600, .inl v_text_bytes)), (a_history_s0_cells, .inl (zI g, 912, .inl v_history_s0_cells)), (a_history_s1_cells, .inl (zI g, 912, .inl v_history_s1_cells)), (a_history_s2_cells, .inl (zI g, 912, .inl v_history_s2_cells)), (a_history_s3_cells, .inl (zI g, 912, .inl v_history_s3_cells)), (a_reader_draft_cells, .inl (zI g, 912, .inl v_reader_draft_cells))] [zo_X9 a_this a_score a_history a_text a_sentence a_reader a_sounds a_playing, zo_X1 a_history a_history_saved v_history_size v_history_next, zo_X2 a_playing a_playing_places v_playing_size, zo_X3 a_reader a_text a_reader_draft v_reader_from v_reader_to v_reader_failedAt, zo_X4 a_score a_score_cells v_score_size, zo_X6 a_sounds a_score a_sounds_shifts a_sounds_heldTicks, zo_X7 a_text a_text_bytes v_text_length, zo_X4 a_history_s0 a_history_s0_cells v_history_s0_size, zo_X4 a_history_s1 a_history_s1_cells v_history_s1_size, zo_X4 a_history_s2 a_history_s2_cells v_history_s2_size, zo_X4 a_history_s3 a_history_s3_cells v_history_s3_size, (a_history_saved, .inl (zO g, 4, .inr (.inr (.inr (.inr (zSv a_history_s0 a_history_s1 a_history_s2 a_history_s3)))))), (a_playing_places, .inl (zI g, 200, .inl v_playing_places)), zo_X4 a_reader_draft a_reader_draft_cells v_reader_draft_size, (a_score_cells, .inl (zI g, 912, .inl v_score_cells)), (a_sounds_heldTicks, .inl (zI g, 768, .inl v_sounds_heldTicks)), (a_sounds_shifts, .inl (zI g, 768, .inl v_sounds_shifts)), (a_text_bytes, .inl (zY g, 600, .inl v_text_bytes)), (a_history_s0_cells, .inl (zI g, 912, .inl v_history_s0_cells)), (a_history_s1_cells, .inl (zI g, 912, .inl v_history_s1_cells)), (a_history_s2_cells, .inl (zI g, 912, .inl v_history_s2_cells)), (a_history_s3_cells, .inl (zI g, 912, .inl v_history_s3_cells)), (a_reader_draft_cells, .inl (zI g, 912, .inl v_reader_draft_cells))] r := by
  refine zE_of (by decide) (Nat.le_of_ble_eq_true rfl) ?_
  intro p e s m below meth c A H locs ls Q R F hRm hlocks hN htab hP hD hS hl hQ
  subst hRm
  have F : zF p m c cX9_readInto 3 s (([.ref a_this, .int x1] : List Value)).toArray RX9 g A := F
  have hx := F.1.1
  have hb := F.1.2.1
  have hz := F.1.2.2.2.2
  have hl : lv_has ls 3 [(0, .ref a_this), (1, .int x1)] := hl
  unfold f_X9_readInto at h
  refine lv_aload_n hx hb dX9_readInto_0 rfl (lv_at hl 0 rfl) ?_
  refine lv_iload_n hx hb dX9_readInto_1 rfl (lv_at hl 1 rfl) ?_
  refine z_subR h (fun h => ?_) (fun r1_ hr1_ h => ?_)
  · exact zXV F (kx_X9_requireMeasure l N g a_this a_score a_history a_text a_sentence a_reader a_sounds a_playing a_score_cells v_score_size x1 _ h hfl) hN zy_X9_requireMeasure zw_534 hP hD hS [0, 4] [1, 2, 3, 5, 6, 7, 8, 9, 10, 11, 12, 13, 14, 15, 16, 17, 18, 19, 20, 21, 22] [21, 0, 1, 2, 22, 3, 4, 5, 6, 7, 8, 9, 10, 11, 12, 13, 14, 15, 16, 17, 18, 19, 20] (wr := [zo_X1 a_history a_history_saved v_history_size v_history_next, zo_X2 a_playing a_playing_places v_playing_size, zo_X3 a_reader a_text a_reader_draft v_reader_from v_reader_to v_reader_failedAt, zo_X6 a_sounds a_score a_sounds_shifts a_sounds_heldTicks, zo_X7 a_text a_text_bytes v_text_length, zo_X4 a_history_s0 a_history_s0_cells v_history_s0_size, zo_X4 a_history_s1 a_history_s1_cells v_history_s1_size, zo_X4 a_history_s2 a_history_s2_cells v_history_s2_size, zo_X4 a_history_s3 a_history_s3_cells v_history_s3_size, (a_history_saved, .inl (zO g, 4, .inr (.inr (.inr (.inr (zSv a_history_s0 a_history_s1 a_history_s2 a_history_s3)))))), (a_playing_places, .inl (zI g, 200, .inl v_playing_places)), zo_X4 a_reader_draft a_reader_draft_cells v_reader_draft_size, (a_score_cells, .inl (zI g, 912, .inl v_score_cells)), (a_sounds_heldTicks, .inl (zI g, 768, .inl v_sounds_heldTicks)), (a_sounds_shifts, .inl (zI g, 768, .inl v_sounds_shifts)), (a_text_bytes, .inl (zY g, 600, .inl v_text_bytes)), (a_history_s0_cells, .inl (zI g, 912, .inl v_history_s0_cells)), (a_history_s1_cells, .inl (zI g, 912, .inl v_history_s1_cells)), (a_history_s2_cells, .inl (zI g, 912, .inl v_history_s2_cells)), (a_history_s3_cells, .inl (zI g, 912, .inl v_history_s3_cells)), (a_reader_draft_cells, .inl (zI g, 912, .inl v_reader_draft_cells))]) (W1 := [zo_X9 a_this a_score a_history a_text a_sentence a_reader a_sounds a_playing, zo_X1 a_history a_history_saved v_history_size v_history_next, zo_X2 a_playing a_playing_places v_playing_size, zo_X3 a_reader a_text a_reader_draft v_reader_from v_reader_to v_reader_failedAt, zo_X4 a_score a_score_cells v_score_size, zo_X6 a_sounds a_score a_sounds_shifts a_sounds_heldTicks, zo_X7 a_text a_text_bytes v_text_length, zo_X4 a_history_s0 a_history_s0_cells v_history_s0_size, zo_X4 a_history_s1 a_history_s1_cells v_history_s1_size, zo_X4 a_history_s2 a_history_s2_cells v_history_s2_size, zo_X4 a_history_s3 a_history_s3_cells v_history_s3_size, (a_history_saved, .inl (zO g, 4, .inr (.inr (.inr (.inr (zSv a_history_s0 a_history_s1 a_history_s2 a_history_s3)))))), (a_playing_places, .inl (zI g, 200, .inl v_playing_places)), zo_X4 a_reader_draft a_reader_draft_cells v_reader_draft_size, (a_score_cells, .inl (zI g, 912, .inl v_score_cells)), (a_sounds_heldTicks, .inl (zI g, 768, .inl v_sounds_heldTicks)), (a_sounds_shifts, .inl (zI g, 768, .inl v_sounds_shifts)), (a_text_bytes, .inl (zY g, 600, .inl v_text_bytes)), (a_history_s0_cells, .inl (zI g, 912, .inl v_history_s0_cells)), (a_history_s1_cells, .inl (zI g, 912, .inl v_history_s1_cells)), (a_history_s2_cells, .inl (zI g, 912, .inl v_history_s2_cells)), (a_history_s3_cells, .inl (zI g, 912, .inl v_history_s3_cells)), (a_reader_draft_cells, .inl (zI g, 912, .inl v_reader_draft_cells))]) rfl rfl rfl rfl (by decide) rfl rfl (q0 := 0) (he := rfl) (hc := rfl) (rest := []) rfl hl.1 rfl (Nat.le_of_ble_eq_true rfl) ⟨rfl, rfl⟩ ⟨Nat.le_of_ble_eq_true rfl, Nat.le_of_ble_eq_true rfl⟩ ⟨Nat.le_of_ble_eq_true rfl, Nat.le_of_ble_eq_true rfl⟩ dX9_readInto_2 htab hlocks hQ
  refine zRV F (k_X9_requireMeasure l N g a_this a_score a_history a_text a_sentence a_reader a_sounds a_playing a_score_cells v_score_size x1 _ hr1_) zy_X9_requireMeasure zw_534 hP hD hS [0, 4] rfl rfl (q0 := 0) (he := rfl) (hc := rfl) (rest := []) rfl hl.1 rfl (Nat.le_of_ble_eq_true rfl) ⟨rfl, rfl⟩ ⟨Nat.le_of_ble_eq_true rfl, Nat.le_of_ble_eq_true rfl⟩ ⟨Nat.zero_le _, Nat.zero_le _⟩ dX9_readInto_2 (st1 := []) rfl ?_
  refine lv_aload_n hx hb dX9_readInto_5 rfl (lv_at hl 0 rfl) ?_
  refine z_get (C := RX9) (T := TX9) (N := 7) (ci := 7) F zu_wsX90 hP 0 rfl rfl 4 (by decide) zw_490 rfl dX9_readInto_6 ?_
  obtain ⟨r2_, hr2_, h⟩ := z_bind h
  refine zVV F (k_X3_findFault l N g a_reader a_text a_reader_draft a_reader_draft_cells a_text_bytes v_reader_failedAt v_reader_from v_reader_to v_reader_draft_size v_text_length v_reader_draft_cells v_text_bytes _ hr2_) zy_X3_findFault zw_666 hP hD hS [3, 13, 6, 22, 17] [0, 1, 2, 4, 5, 7, 8, 9, 10, 11, 12, 14, 15, 16, 18, 19, 20, 21] [0, 1, 2, 18, 3, 4, 20, 5, 6, 7, 8, 9, 10, 19, 11, 12, 13, 22, 14, 15, 16, 17, 21] (wr := [zo_X9 a_this a_score a_history a_text a_sentence a_reader a_sounds a_playing, zo_X1 a_history a_history_saved v_history_size v_history_next, zo_X2 a_playing a_playing_places v_playing_size, zo_X4 a_score a_score_cells v_score_size, zo_X6 a_sounds a_score a_sounds_shifts a_sounds_heldTicks, zo_X4 a_history_s0 a_history_s0_cells v_history_s0_size, zo_X4 a_history_s1 a_history_s1_cells v_history_s1_size, zo_X4 a_history_s2 a_history_s2_cells v_history_s2_size, zo_X4 a_history_s3 a_history_s3_cells v_history_s3_size, (a_history_saved, .inl (zO g, 4, .inr (.inr (.inr (.inr (zSv a_history_s0 a_history_s1 a_history_s2 a_history_s3)))))), (a_playing_places, .inl (zI g, 200, .inl v_playing_places)), (a_score_cells, .inl (zI g, 912, .inl v_score_cells)), (a_sounds_heldTicks, .inl (zI g, 768, .inl v_sounds_heldTicks)), (a_sounds_shifts, .inl (zI g, 768, .inl v_sounds_shifts)), (a_history_s0_cells, .inl (zI g, 912, .inl v_history_s0_cells)), (a_history_s1_cells, .inl (zI g, 912, .inl v_history_s1_cells)), (a_history_s2_cells, .inl (zI g, 912, .inl v_history_s2_cells)), (a_history_s3_cells, .inl (zI g, 912, .inl v_history_s3_cells))]) (W1 := [zo_X9 a_this a_score a_history a_text a_sentence a_reader a_sounds a_playing, zo_X1 a_history a_history_saved v_history_size v_history_next, zo_X2 a_playing a_playing_places v_playing_size, zo_X3 a_reader a_text a_reader_draft r2_.2.2.1 r2_.2.2.2.1 r2_.2.1, zo_X4 a_score a_score_cells v_score_size, zo_X6 a_sounds a_score a_sounds_shifts a_sounds_heldTicks, zo_X7 a_text a_text_bytes v_text_length, zo_X4 a_history_s0 a_history_s0_cells v_history_s0_size, zo_X4 a_history_s1 a_history_s1_cells v_history_s1_size, zo_X4 a_history_s2 a_history_s2_cells v_history_s2_size, zo_X4 a_history_s3 a_history_s3_cells v_history_s3_size, (a_history_saved, .inl (zO g, 4, .inr (.inr (.inr (.inr (zSv a_history_s0 a_history_s1 a_history_s2 a_history_s3)))))), (a_playing_places, .inl (zI g, 200, .inl v_playing_places)), zo_X4 a_reader_draft a_reader_draft_cells r2_.2.2.2.2.1, (a_score_cells, .inl (zI g, 912, .inl v_score_cells)), (a_sounds_heldTicks, .inl (zI g, 768, .inl v_sounds_heldTicks)), (a_sounds_shifts, .inl (zI g, 768, .inl v_sounds_shifts)), (a_text_bytes, .inl (zY g, 600, .inl v_text_bytes)), (a_history_s0_cells, .inl (zI g, 912, .inl v_history_s0_cells)), (a_history_s1_cells, .inl (zI g, 912, .inl v_history_s1_cells)), (a_history_s2_cells, .inl (zI g, 912, .inl v_history_s2_cells)), (a_history_s3_cells, .inl (zI g, 912, .inl v_history_s3_cells)), (a_reader_draft_cells, .inl (zI g, 912, .inl r2_.2.2.2.2.2))]) rfl rfl rfl rfl (by decide) rfl rfl (q0 := 3) (he := rfl) (hc := rfl) (rest := []) rfl hl.1 rfl (Nat.le_of_ble_eq_true rfl) ⟨rfl, rfl⟩ ⟨Nat.le_of_ble_eq_true rfl, Nat.le_of_ble_eq_true rfl⟩ ⟨Nat.zero_le _, Nat.zero_le _⟩ dX9_readInto_9 (st1 := [.int r2_.1]) rfl (fun H locs hP hD hS => ?_)
  refine lv_istore_n (lv' := [(2, .int r2_.1), (0, .ref a_this), (1, .int x1)]) hx hb dX9_readInto_12 rfl hl (by decide) rfl (fun ls hl => ?_)
  refine lv_iload_n hx hb dX9_readInto_13 rfl (lv_at hl 0 rfl) ?_
  refine lv_sipush (v := (-1000)) hx hb dX9_readInto_14 (by decide) ?_
  refine z_ceq (tgt := 26) hx hb dX9_readInto_17 (by decide) h (fun h => ?_) (fun h => ?_)
  · refine lv_aload_n hx hb dX9_readInto_26 rfl (lv_at hl 1 rfl) ?_
    refine z_get (C := RX9) (T := TX9) (N := 7) (ci := 7) F zu_wsX90 hP 0 rfl rfl 1 (by decide) zw_481 rfl dX9_readInto_27 ?_
    refine lv_aload_n hx hb dX9_readInto_30 rfl (lv_at hl 1 rfl) ?_
    refine z_get (C := RX9) (T := TX9) (N := 7) (ci := 7) F zu_wsX90 hP 0 rfl rfl 0 (by decide) zw_478 rfl dX9_readInto_31 ?_
    obtain ⟨r3_, hr3_, h⟩ := z_bind h
    refine zVV F (k_X1_push l N g a_history a_history_saved a_history_s0 a_history_s1 a_history_s2 a_history_s3 a_history_s0_cells a_history_s1_cells a_history_s2_cells a_history_s3_cells a_score a_score_cells v_history_next v_history_size v_history_s0_size v_history_s1_size v_history_s2_size v_history_s3_size v_history_s0_cells v_history_s1_cells v_history_s2_cells v_history_s3_cells v_score_size v_score_cells _ hr3_) zy_X1_push zw_520 hP hD hS [1, 7, 8, 9, 10, 11, 18, 19, 20, 21, 4, 14] [0, 2, 3, 5, 6, 12, 13, 15, 16, 17, 22] [0, 11, 1, 2, 21, 3, 4, 12, 13, 14, 15, 16, 5, 6, 22, 7, 8, 9, 17, 18, 19, 20, 10] (wr := [zo_X9 a_this a_score a_history a_text a_sentence a_reader a_sounds a_playing, zo_X2 a_playing a_playing_places v_playing_size, zo_X3 a_reader a_text a_reader_draft r2_.2.2.1 r2_.2.2.2.1 r2_.2.1, zo_X6 a_sounds a_score a_sounds_shifts a_sounds_heldTicks, zo_X7 a_text a_text_bytes v_text_length, (a_playing_places, .inl (zI g, 200, .inl v_playing_places)), zo_X4 a_reader_draft a_reader_draft_cells r2_.2.2.2.2.1, (a_sounds_heldTicks, .inl (zI g, 768, .inl v_sounds_heldTicks)), (a_sounds_shifts, .inl (zI g, 768, .inl v_sounds_shifts)), (a_text_bytes, .inl (zY g, 600, .inl v_text_bytes)), (a_reader_draft_cells, .inl (zI g, 912, .inl r2_.2.2.2.2.2))]) (W1 := [zo_X9 a_this a_score a_history a_text a_sentence a_reader a_sounds a_playing, zo_X1 a_history a_history_saved r3_.2.1 r3_.1, zo_X2 a_playing a_playing_places v_playing_size, zo_X3 a_reader a_text a_reader_draft r2_.2.2.1 r2_.2.2.2.1 r2_.2.1, zo_X4 a_score a_score_cells v_score_size, zo_X6 a_sounds a_score a_sounds_shifts a_sounds_heldTicks, zo_X7 a_text a_text_bytes v_text_length, zo_X4 a_history_s0 a_history_s0_cells r3_.2.2.1, zo_X4 a_history_s1 a_history_s1_cells r3_.2.2.2.1, zo_X4 a_history_s2 a_history_s2_cells r3_.2.2.2.2.1, zo_X4 a_history_s3 a_history_s3_cells r3_.2.2.2.2.2.1, (a_history_saved, .inl (zO g, 4, .inr (.inr (.inr (.inr (zSv a_history_s0 a_history_s1 a_history_s2 a_history_s3)))))), (a_playing_places, .inl (zI g, 200, .inl v_playing_places)), zo_X4 a_reader_draft a_reader_draft_cells r2_.2.2.2.2.1, (a_score_cells, .inl (zI g, 912, .inl v_score_cells)), (a_sounds_heldTicks, .inl (zI g, 768, .inl v_sounds_heldTicks)), (a_sounds_shifts, .inl (zI g, 768, .inl v_sounds_shifts)), (a_text_bytes, .inl (zY g, 600, .inl v_text_bytes)), (a_history_s0_cells, .inl (zI g, 912, .inl r3_.2.2.2.2.2.2.1)), (a_history_s1_cells, .inl (zI g, 912, .inl r3_.2.2.2.2.2.2.2.1)), (a_history_s2_cells, .inl (zI g, 912, .inl r3_.2.2.2.2.2.2.2.2.1)), (a_history_s3_cells, .inl (zI g, 912, .inl r3_.2.2.2.2.2.2.2.2.2)), (a_reader_draft_cells, .inl (zI g, 912, .inl r2_.2.2.2.2.2))]) rfl rfl rfl rfl (by decide) rfl rfl (q0 := 1) (he := rfl) (hc := rfl) (rest := []) rfl hl.1 rfl (Nat.le_of_ble_eq_true rfl) ⟨rfl, rfl⟩ ⟨Nat.le_of_ble_eq_true rfl, Nat.le_of_ble_eq_true rfl⟩ ⟨Nat.zero_le _, Nat.zero_le _⟩ dX9_readInto_34 (st1 := []) rfl (fun H locs hP hD hS => ?_)
    refine lv_aload_n hx hb dX9_readInto_37 rfl (lv_at hl 1 rfl) ?_
    refine z_get (C := RX9) (T := TX9) (N := 7) (ci := 7) F zu_wsX90 hP 0 rfl rfl 0 (by decide) zw_478 rfl dX9_readInto_38 ?_
    refine lv_iload_n hx hb dX9_readInto_41 rfl (lv_at hl 2 rfl) ?_
    refine lv_aload_n hx hb dX9_readInto_42 rfl (lv_at hl 1 rfl) ?_
    refine z_get (C := RX9) (T := TX9) (N := 7) (ci := 7) F zu_wsX90 hP 0 rfl rfl 4 (by decide) zw_490 rfl dX9_readInto_43 ?_
    obtain ⟨r4_, hr4_, h⟩ := z_bind h
    refine zRV F (k_X3_draft l N g a_reader a_text a_reader_draft r2_.2.2.1 r2_.2.2.2.1 r2_.2.1 _ hr4_) zy_X3_draft zw_670 hP hD hS [3] rfl rfl (q0 := 3) (he := rfl) (hc := rfl) (rest := [.int x1, .ref a_score]) rfl hl.1 rfl (Nat.le_of_ble_eq_true rfl) ⟨rfl, rfl⟩ ⟨Nat.le_of_ble_eq_true rfl, Nat.le_of_ble_eq_true rfl⟩ ⟨Nat.zero_le _, Nat.zero_le _⟩ dX9_readInto_46 (st1 := [.ref a_reader_draft, .int x1, .ref a_score]) rfl ?_
    obtain ⟨r5_, hr5_, h⟩ := z_bind h
    refine zVV F (k_X4_takeDraft l N g a_score a_score_cells a_reader_draft a_reader_draft_cells v_score_size v_score_cells r2_.2.2.2.2.1 r2_.2.2.2.2.2 x1 _ hr5_) zy_X4_takeDraft zw_673 hP hD hS [4, 14, 13, 22] [0, 1, 2, 3, 5, 6, 7, 8, 9, 10, 11, 12, 15, 16, 17, 18, 19, 20, 21] [0, 1, 2, 3, 19, 4, 5, 6, 7, 8, 9, 10, 11, 21, 20, 12, 13, 14, 15, 16, 17, 18, 22] (wr := [zo_X9 a_this a_score a_history a_text a_sentence a_reader a_sounds a_playing, zo_X1 a_history a_history_saved r3_.2.1 r3_.1, zo_X2 a_playing a_playing_places v_playing_size, zo_X3 a_reader a_text a_reader_draft r2_.2.2.1 r2_.2.2.2.1 r2_.2.1, zo_X6 a_sounds a_score a_sounds_shifts a_sounds_heldTicks, zo_X7 a_text a_text_bytes v_text_length, zo_X4 a_history_s0 a_history_s0_cells r3_.2.2.1, zo_X4 a_history_s1 a_history_s1_cells r3_.2.2.2.1, zo_X4 a_history_s2 a_history_s2_cells r3_.2.2.2.2.1, zo_X4 a_history_s3 a_history_s3_cells r3_.2.2.2.2.2.1, (a_history_saved, .inl (zO g, 4, .inr (.inr (.inr (.inr (zSv a_history_s0 a_history_s1 a_history_s2 a_history_s3)))))), (a_playing_places, .inl (zI g, 200, .inl v_playing_places)), (a_sounds_heldTicks, .inl (zI g, 768, .inl v_sounds_heldTicks)), (a_sounds_shifts, .inl (zI g, 768, .inl v_sounds_shifts)), (a_text_bytes, .inl (zY g, 600, .inl v_text_bytes)), (a_history_s0_cells, .inl (zI g, 912, .inl r3_.2.2.2.2.2.2.1)), (a_history_s1_cells, .inl (zI g, 912, .inl r3_.2.2.2.2.2.2.2.1)), (a_history_s2_cells, .inl (zI g, 912, .inl r3_.2.2.2.2.2.2.2.2.1)), (a_history_s3_cells, .inl (zI g, 912, .inl r3_.2.2.2.2.2.2.2.2.2))]) (W1 := [zo_X9 a_this a_score a_history a_text a_sentence a_reader a_sounds a_playing, zo_X1 a_history a_history_saved r3_.2.1 r3_.1, zo_X2 a_playing a_playing_places v_playing_size, zo_X3 a_reader a_text a_reader_draft r2_.2.2.1 r2_.2.2.2.1 r2_.2.1, zo_X4 a_score a_score_cells v_score_size, zo_X6 a_sounds a_score a_sounds_shifts a_sounds_heldTicks, zo_X7 a_text a_text_bytes v_text_length, zo_X4 a_history_s0 a_history_s0_cells r3_.2.2.1, zo_X4 a_history_s1 a_history_s1_cells r3_.2.2.2.1, zo_X4 a_history_s2 a_history_s2_cells r3_.2.2.2.2.1, zo_X4 a_history_s3 a_history_s3_cells r3_.2.2.2.2.2.1, (a_history_saved, .inl (zO g, 4, .inr (.inr (.inr (.inr (zSv a_history_s0 a_history_s1 a_history_s2 a_history_s3)))))), (a_playing_places, .inl (zI g, 200, .inl v_playing_places)), zo_X4 a_reader_draft a_reader_draft_cells r2_.2.2.2.2.1, (a_score_cells, .inl (zI g, 912, .inl r5_)), (a_sounds_heldTicks, .inl (zI g, 768, .inl v_sounds_heldTicks)), (a_sounds_shifts, .inl (zI g, 768, .inl v_sounds_shifts)), (a_text_bytes, .inl (zY g, 600, .inl v_text_bytes)), (a_history_s0_cells, .inl (zI g, 912, .inl r3_.2.2.2.2.2.2.1)), (a_history_s1_cells, .inl (zI g, 912, .inl r3_.2.2.2.2.2.2.2.1)), (a_history_s2_cells, .inl (zI g, 912, .inl r3_.2.2.2.2.2.2.2.2.1)), (a_history_s3_cells, .inl (zI g, 912, .inl r3_.2.2.2.2.2.2.2.2.2)), (a_reader_draft_cells, .inl (zI g, 912, .inl r2_.2.2.2.2.2))]) rfl rfl rfl rfl (by decide) rfl rfl (q0 := 4) (he := rfl) (hc := rfl) (rest := []) rfl hl.1 rfl (Nat.le_of_ble_eq_true rfl) ⟨rfl, rfl⟩ ⟨Nat.le_of_ble_eq_true rfl, Nat.le_of_ble_eq_true rfl⟩ ⟨Nat.zero_le _, Nat.zero_le _⟩ dX9_readInto_49 (st1 := []) rfl (fun H locs hP hD hS => ?_)
    refine lv_aload_n hx hb dX9_readInto_52 rfl (lv_at hl 1 rfl) ?_
    obtain ⟨r6_, hr6_, h⟩ := z_bind h
    refine zVV F (k_X9_settle l N g a_this a_score a_history a_text a_sentence a_reader a_sounds a_playing a_playing_places a_score_cells a_sounds_shifts a_sounds_heldTicks v_playing_size v_score_size v_playing_places r5_ v_sounds_heldTicks v_sounds_shifts _ hr6_) zy_X9_settle zw_524 hP hD hS [0, 2, 4, 5, 12, 14, 15, 16] [1, 3, 6, 7, 8, 9, 10, 11, 13, 17, 18, 19, 20, 21, 22] [15, 0, 16, 1, 17, 18, 2, 3, 4, 5, 6, 7, 19, 8, 20, 21, 22, 9, 10, 11, 12, 13, 14] (wr := [zo_X1 a_history a_history_saved r3_.2.1 r3_.1, zo_X3 a_reader a_text a_reader_draft r2_.2.2.1 r2_.2.2.2.1 r2_.2.1, zo_X7 a_text a_text_bytes v_text_length, zo_X4 a_history_s0 a_history_s0_cells r3_.2.2.1, zo_X4 a_history_s1 a_history_s1_cells r3_.2.2.2.1, zo_X4 a_history_s2 a_history_s2_cells r3_.2.2.2.2.1, zo_X4 a_history_s3 a_history_s3_cells r3_.2.2.2.2.2.1, (a_history_saved, .inl (zO g, 4, .inr (.inr (.inr (.inr (zSv a_history_s0 a_history_s1 a_history_s2 a_history_s3)))))), zo_X4 a_reader_draft a_reader_draft_cells r2_.2.2.2.2.1, (a_text_bytes, .inl (zY g, 600, .inl v_text_bytes)), (a_history_s0_cells, .inl (zI g, 912, .inl r3_.2.2.2.2.2.2.1)), (a_history_s1_cells, .inl (zI g, 912, .inl r3_.2.2.2.2.2.2.2.1)), (a_history_s2_cells, .inl (zI g, 912, .inl r3_.2.2.2.2.2.2.2.2.1)), (a_history_s3_cells, .inl (zI g, 912, .inl r3_.2.2.2.2.2.2.2.2.2)), (a_reader_draft_cells, .inl (zI g, 912, .inl r2_.2.2.2.2.2))]) (W1 := [zo_X9 a_this a_score a_history a_text a_sentence a_reader a_sounds a_playing, zo_X1 a_history a_history_saved r3_.2.1 r3_.1, zo_X2 a_playing a_playing_places r6_.1, zo_X3 a_reader a_text a_reader_draft r2_.2.2.1 r2_.2.2.2.1 r2_.2.1, zo_X4 a_score a_score_cells v_score_size, zo_X6 a_sounds a_score a_sounds_shifts a_sounds_heldTicks, zo_X7 a_text a_text_bytes v_text_length, zo_X4 a_history_s0 a_history_s0_cells r3_.2.2.1, zo_X4 a_history_s1 a_history_s1_cells r3_.2.2.2.1, zo_X4 a_history_s2 a_history_s2_cells r3_.2.2.2.2.1, zo_X4 a_history_s3 a_history_s3_cells r3_.2.2.2.2.2.1, (a_history_saved, .inl (zO g, 4, .inr (.inr (.inr (.inr (zSv a_history_s0 a_history_s1 a_history_s2 a_history_s3)))))), (a_playing_places, .inl (zI g, 200, .inl r6_.2.1)), zo_X4 a_reader_draft a_reader_draft_cells r2_.2.2.2.2.1, (a_score_cells, .inl (zI g, 912, .inl r5_)), (a_sounds_heldTicks, .inl (zI g, 768, .inl r6_.2.2.1)), (a_sounds_shifts, .inl (zI g, 768, .inl r6_.2.2.2)), (a_text_bytes, .inl (zY g, 600, .inl v_text_bytes)), (a_history_s0_cells, .inl (zI g, 912, .inl r3_.2.2.2.2.2.2.1)), (a_history_s1_cells, .inl (zI g, 912, .inl r3_.2.2.2.2.2.2.2.1)), (a_history_s2_cells, .inl (zI g, 912, .inl r3_.2.2.2.2.2.2.2.2.1)), (a_history_s3_cells, .inl (zI g, 912, .inl r3_.2.2.2.2.2.2.2.2.2)), (a_reader_draft_cells, .inl (zI g, 912, .inl r2_.2.2.2.2.2))]) rfl rfl rfl rfl (by decide) rfl rfl (q0 := 0) (he := rfl) (hc := rfl) (rest := []) rfl hl.1 rfl (Nat.le_of_ble_eq_true rfl) ⟨rfl, rfl⟩ ⟨Nat.le_of_ble_eq_true rfl, Nat.le_of_ble_eq_true rfl⟩ ⟨Nat.zero_le _, Nat.zero_le _⟩ dX9_readInto_53 (st1 := []) rfl (fun H locs hP hD hS => ?_)
    refine lv_aload_n hx hb dX9_readInto_56 rfl (lv_at hl 1 rfl) ?_
    refine z_get (C := RX9) (T := TX9) (N := 7) (ci := 7) F zu_wsX90 hP 0 rfl rfl 0 (by decide) zw_478 rfl dX9_readInto_57 ?_
    refine lv_iload_n hx hb dX9_readInto_60 rfl (lv_at hl 2 rfl) ?_
    refine lv_iconst (v := 0) hx hb dX9_readInto_61 (by decide) ?_
    obtain ⟨r7_, hr7_, h⟩ := z_bind h
    refine zRV F (k_X4_count l N g a_score a_score_cells v_score_size r5_ x1 0 _ hr7_) zy_X4_count zw_552 hP hD hS [4, 14] rfl rfl (q0 := 4) (he := rfl) (hc := rfl) (rest := []) rfl hl.1 rfl (Nat.le_of_ble_eq_true rfl) ⟨rfl, rfl⟩ ⟨Nat.le_of_ble_eq_true rfl, Nat.le_of_ble_eq_true rfl⟩ ⟨Nat.zero_le _, Nat.zero_le _⟩ dX9_readInto_62 (st1 := [.int r7_]) rfl ?_
    refine lv_aload_n hx hb dX9_readInto_65 rfl (lv_at hl 1 rfl) ?_
    refine z_get (C := RX9) (T := TX9) (N := 7) (ci := 7) F zu_wsX90 hP 0 rfl rfl 0 (by decide) zw_478 rfl dX9_readInto_66 ?_
    refine lv_iload_n hx hb dX9_readInto_69 rfl (lv_at hl 2 rfl) ?_
    refine lv_iconst (v := 1) hx hb dX9_readInto_70 (by decide) ?_
    obtain ⟨r8_, hr8_, h⟩ := z_bind h
    refine zRV F (k_X4_count l N g a_score a_score_cells v_score_size r5_ x1 1 _ hr8_) zy_X4_count zw_552 hP hD hS [4, 14] rfl rfl (q0 := 4) (he := rfl) (hc := rfl) (rest := [.int r7_]) rfl hl.1 rfl (Nat.le_of_ble_eq_true rfl) ⟨rfl, rfl⟩ ⟨Nat.le_of_ble_eq_true rfl, Nat.le_of_ble_eq_true rfl⟩ ⟨Nat.zero_le _, Nat.zero_le _⟩ dX9_readInto_71 (st1 := [.int r8_, .int r7_]) rfl ?_
    refine lv_iadd hx hb dX9_readInto_74 ?_
    cases h
  · refine lv_sipush (v := (-2000)) hx hb dX9_readInto_20 (by decide) ?_
    refine lv_iload_n hx hb dX9_readInto_23 rfl (lv_at hl 0 rfl) ?_
    refine lv_isub hx hb dX9_readInto_24 ?_
    cases h
def f_X9_tells (N : Nat) (v_reader_failedAt : Int32) (v_reader_from : Int32) (v_reader_to : Int32) (v_score_size : Int32) (v_text_length : Int32) (v_reader_draft_size : Int32) (v_score_cells : Nat → Int32) (v_text_bytes : Nat → Int32) (v_reader_draft_cells : Nat → Int32) (x1 : Int32) : Option ((Int32 × Int32 × Int32 × Int32 × Int32 × (Nat → Int32)) ⊕ Nat) :=
  zSub (f_X9_requireMeasure N v_score_size x1) (fun (r1_ : Unit) => Option.bind (f_X3_findFault N v_reader_failedAt v_reader_from v_reader_to v_reader_draft_size v_text_length v_reader_draft_cells v_text_bytes) (fun (r2_ : Int32 × Int32 × Int32 × Int32 × Int32 × (Nat → Int32)) => if r2_.1 = (-1000) then Option.bind (f_X3_draft N) (fun (r3_ : Unit) => Option.bind (f_X4_agreesWith N v_score_size v_score_cells r2_.2.2.2.2.1 r2_.2.2.2.2.2 x1) (fun (r4_ : Int32) => if r4_ = 0 then some (Sum.inl (0, r2_.2.1, r2_.2.2.1, r2_.2.2.2.1, r2_.2.2.2.2.1, r2_.2.2.2.2.2)) else some (Sum.inl (1, r2_.2.1, r2_.2.2.1, r2_.2.2.2.1, r2_.2.2.2.2.1, r2_.2.2.2.2.2)))) else some (Sum.inl (0, r2_.2.1, r2_.2.2.1, r2_.2.2.2.1, r2_.2.2.2.2.1, r2_.2.2.2.2.2))))
abbrev rm_X9_tells : Room := { frames := 12, cells := 0, slots := 0, locals := 334 }
theorem zy_X9_tells : zYv yX9_tells RX9 cX9_tells 2 (some .boolean) 1 := ⟨zw_821, zw_822, zw_527, zw_680, ⟨by decide, by decide⟩, by decide +kernel⟩
set_option maxHeartbeats 4000000 in
set_option maxRecDepth 100000 in
theorem k_X9_tells (l : Launch) (N : Nat) (g : zEnv) (a_this a_score a_history a_text a_sentence a_reader a_sounds a_playing a_reader_draft a_score_cells a_text_bytes a_reader_draft_cells : Nat) (v_reader_failedAt : Int32) (v_reader_from : Int32) (v_reader_to : Int32) (v_score_size : Int32) (v_text_length : Int32) (v_reader_draft_size : Int32) (v_score_cells : Nat → Int32) (v_text_bytes : Nat → Int32) (v_reader_draft_cells : Nat → Int32) (x1 : Int32) (r : Int32 × Int32 × Int32 × Int32 × Int32 × (Nat → Int32)) (h : f_X9_tells N v_reader_failedAt v_reader_from v_reader_to v_score_size v_text_length v_reader_draft_size v_score_cells v_text_bytes v_reader_draft_cells x1 = some (Sum.inl r)) : ZV l yX9_tells cX9_tells 2 (some .boolean) rm_X9_tells g [.ref a_this, .int x1] [zo_X9 a_this a_score a_history a_text a_sentence a_reader a_sounds a_playing, zo_X3 a_reader a_text a_reader_draft v_reader_from v_reader_to v_reader_failedAt, zo_X4 a_score a_score_cells v_score_size, zo_X7 a_text a_text_bytes v_text_length, zo_X4 a_reader_draft a_reader_draft_cells v_reader_draft_size, (a_score_cells, .inl (zI g, 912, .inl v_score_cells)), (a_text_bytes, .inl (zY g, 600, .inl v_text_bytes)), (a_reader_draft_cells, .inl (zI g, 912, .inl v_reader_draft_cells))] [zo_X9 a_this a_score a_history a_text a_sentence a_reader a_sounds a_playing, zo_X3 a_reader a_text a_reader_draft r.2.2.1 r.2.2.2.1 r.2.1, zo_X4 a_score a_score_cells v_score_size, zo_X7 a_text a_text_bytes v_text_length, zo_X4 a_reader_draft a_reader_draft_cells r.2.2.2.2.1, (a_score_cells, .inl (zI g, 912, .inl v_score_cells)), (a_text_bytes, .inl (zY g, 600, .inl v_text_bytes)), (a_reader_draft_cells, .inl (zI g, 912, .inl r.2.2.2.2.2))] (some (.int r.1)) := by
  refine zV_of (by decide) (Nat.le_of_ble_eq_true rfl) ?_
  intro p e s m below meth c A H locs ls Q R F hRm hr hlocks hP hD hS hl hQ
  subst hRm
  have F : zF p m c cX9_tells 2 s (([.ref a_this, .int x1] : List Value)).toArray RX9 g A := F
  have hx := F.1.1
  have hb := F.1.2.1
  have hz := F.1.2.2.2.2
  have hl : lv_has ls 2 [(0, .ref a_this), (1, .int x1)] := hl
  unfold f_X9_tells at h
  refine lv_aload_n hx hb dX9_tells_0 rfl (lv_at hl 0 rfl) ?_
  refine lv_iload_n hx hb dX9_tells_1 rfl (lv_at hl 1 rfl) ?_
  obtain ⟨r1_, hr1_, h⟩ := z_subL h
  refine zRV F (k_X9_requireMeasure l N g a_this a_score a_history a_text a_sentence a_reader a_sounds a_playing a_score_cells v_score_size x1 _ hr1_) zy_X9_requireMeasure zw_534 hP hD hS [0, 2] rfl rfl (q0 := 0) (he := rfl) (hc := rfl) (rest := []) rfl hl.1 rfl (Nat.le_of_ble_eq_true rfl) ⟨rfl, rfl⟩ ⟨Nat.le_of_ble_eq_true rfl, Nat.le_of_ble_eq_true rfl⟩ ⟨Nat.zero_le _, Nat.zero_le _⟩ dX9_tells_2 (st1 := []) rfl ?_
  refine lv_aload_n hx hb dX9_tells_5 rfl (lv_at hl 0 rfl) ?_
  refine z_get (C := RX9) (T := TX9) (N := 7) (ci := 7) F zu_wsX90 hP 0 rfl rfl 4 (by decide) zw_490 rfl dX9_tells_6 ?_
  obtain ⟨r2_, hr2_, h⟩ := z_bind h
  refine zVV F (k_X3_findFault l N g a_reader a_text a_reader_draft a_reader_draft_cells a_text_bytes v_reader_failedAt v_reader_from v_reader_to v_reader_draft_size v_text_length v_reader_draft_cells v_text_bytes _ hr2_) zy_X3_findFault zw_666 hP hD hS [1, 4, 3, 7, 6] [0, 2, 5] [0, 3, 1, 5, 4, 2, 7, 6] (wr := [zo_X9 a_this a_score a_history a_text a_sentence a_reader a_sounds a_playing, zo_X4 a_score a_score_cells v_score_size, (a_score_cells, .inl (zI g, 912, .inl v_score_cells))]) (W1 := [zo_X9 a_this a_score a_history a_text a_sentence a_reader a_sounds a_playing, zo_X3 a_reader a_text a_reader_draft r2_.2.2.1 r2_.2.2.2.1 r2_.2.1, zo_X4 a_score a_score_cells v_score_size, zo_X7 a_text a_text_bytes v_text_length, zo_X4 a_reader_draft a_reader_draft_cells r2_.2.2.2.2.1, (a_score_cells, .inl (zI g, 912, .inl v_score_cells)), (a_text_bytes, .inl (zY g, 600, .inl v_text_bytes)), (a_reader_draft_cells, .inl (zI g, 912, .inl r2_.2.2.2.2.2))]) rfl rfl rfl rfl (by decide) rfl rfl (q0 := 1) (he := rfl) (hc := rfl) (rest := []) rfl hl.1 rfl (Nat.le_of_ble_eq_true rfl) ⟨rfl, rfl⟩ ⟨Nat.le_of_ble_eq_true rfl, Nat.le_of_ble_eq_true rfl⟩ ⟨Nat.zero_le _, Nat.zero_le _⟩ dX9_tells_9 (st1 := [.int r2_.1]) rfl (fun H locs hP hD hS => ?_)
  refine lv_sipush (v := (-1000)) hx hb dX9_tells_12 (by decide) ?_
  refine z_cne (tgt := 40) hx hb dX9_tells_15 (by decide) h (fun h => ?_) (fun h => ?_)
  · refine lv_iconst (v := 0) hx hb dX9_tells_40 (by decide) ?_
    obtain rfl := Sum.inl.inj (Option.some.inj h)
    exact zV_n F hr hlocks hQ rfl hP hD hS dX9_tells_41
  · refine lv_aload_n hx hb dX9_tells_18 rfl (lv_at hl 0 rfl) ?_
    refine z_get (C := RX9) (T := TX9) (N := 7) (ci := 7) F zu_wsX90 hP 0 rfl rfl 0 (by decide) zw_478 rfl dX9_tells_19 ?_
    refine lv_iload_n hx hb dX9_tells_22 rfl (lv_at hl 1 rfl) ?_
    refine lv_aload_n hx hb dX9_tells_23 rfl (lv_at hl 0 rfl) ?_
    refine z_get (C := RX9) (T := TX9) (N := 7) (ci := 7) F zu_wsX90 hP 0 rfl rfl 4 (by decide) zw_490 rfl dX9_tells_24 ?_
    obtain ⟨r3_, hr3_, h⟩ := z_bind h
    refine zRV F (k_X3_draft l N g a_reader a_text a_reader_draft r2_.2.2.1 r2_.2.2.2.1 r2_.2.1 _ hr3_) zy_X3_draft zw_670 hP hD hS [1] rfl rfl (q0 := 1) (he := rfl) (hc := rfl) (rest := [.int x1, .ref a_score]) rfl hl.1 rfl (Nat.le_of_ble_eq_true rfl) ⟨rfl, rfl⟩ ⟨Nat.le_of_ble_eq_true rfl, Nat.le_of_ble_eq_true rfl⟩ ⟨Nat.zero_le _, Nat.zero_le _⟩ dX9_tells_27 (st1 := [.ref a_reader_draft, .int x1, .ref a_score]) rfl ?_
    obtain ⟨r4_, hr4_, h⟩ := z_bind h
    refine zRV F (k_X4_agreesWith l N g a_score a_score_cells a_reader_draft a_reader_draft_cells v_score_size v_score_cells r2_.2.2.2.2.1 r2_.2.2.2.2.2 x1 _ hr4_) zy_X4_agreesWith zw_677 hP hD hS [2, 5, 4, 7] rfl rfl (q0 := 2) (he := rfl) (hc := rfl) (rest := []) rfl hl.1 rfl (Nat.le_of_ble_eq_true rfl) ⟨rfl, rfl⟩ ⟨Nat.le_of_ble_eq_true rfl, Nat.le_of_ble_eq_true rfl⟩ ⟨Nat.zero_le _, Nat.zero_le _⟩ dX9_tells_30 (st1 := [.int r4_]) rfl ?_
    refine z_eq (tgt := 40) hx hb dX9_tells_33 (by decide) h (fun h => ?_) (fun h => ?_)
    · refine lv_iconst (v := 0) hx hb dX9_tells_40 (by decide) ?_
      obtain rfl := Sum.inl.inj (Option.some.inj h)
      exact zV_n F hr hlocks hQ rfl hP hD hS dX9_tells_41
    · refine lv_iconst (v := 1) hx hb dX9_tells_36 (by decide) ?_
      refine lv_goto (tgt := 41) hx hb dX9_tells_37 (by decide) ?_
      obtain rfl := Sum.inl.inj (Option.some.inj h)
      exact zV_n F hr hlocks hQ rfl hP hD hS dX9_tells_41
abbrev rx_X9_tells : Room := { frames := 12, cells := 1, slots := 6, locals := 334 }
set_option maxHeartbeats 4000000 in
set_option maxRecDepth 100000 in
theorem kx_X9_tells (l : Launch) (N : Nat) (g : zEnv) (a_this a_score a_history a_text a_sentence a_reader a_sounds a_playing a_reader_draft a_score_cells a_text_bytes a_reader_draft_cells : Nat) (v_reader_failedAt : Int32) (v_reader_from : Int32) (v_reader_to : Int32) (v_score_size : Int32) (v_text_length : Int32) (v_reader_draft_size : Int32) (v_score_cells : Nat → Int32) (v_text_bytes : Nat → Int32) (v_reader_draft_cells : Nat → Int32) (x1 : Int32) (r : Nat) (h : f_X9_tells N v_reader_failedAt v_reader_from v_reader_to v_score_size v_text_length v_reader_draft_size v_score_cells v_text_bytes v_reader_draft_cells x1 = some (Sum.inr r)) (hfl : l.stackTraces = false) : ZE l yX9_tells cX9_tells 2 (some .boolean) rx_X9_tells g [.ref a_this, .int x1] [zo_X9 a_this a_score a_history a_text a_sentence a_reader a_sounds a_playing, zo_X3 a_reader a_text a_reader_draft v_reader_from v_reader_to v_reader_failedAt, zo_X4 a_score a_score_cells v_score_size, zo_X7 a_text a_text_bytes v_text_length, zo_X4 a_reader_draft a_reader_draft_cells v_reader_draft_size, (a_score_cells, .inl (zI g, 912, .inl v_score_cells)), (a_text_bytes, .inl (zY g, 600, .inl v_text_bytes)), (a_reader_draft_cells, .inl (zI g, 912, .inl v_reader_draft_cells))] [zo_X9 a_this a_score a_history a_text a_sentence a_reader a_sounds a_playing, zo_X3 a_reader a_text a_reader_draft v_reader_from v_reader_to v_reader_failedAt, zo_X4 a_score a_score_cells v_score_size, zo_X7 a_text a_text_bytes v_text_length, zo_X4 a_reader_draft a_reader_draft_cells v_reader_draft_size, (a_score_cells, .inl (zI g, 912, .inl v_score_cells)), (a_text_bytes, .inl (zY g, 600, .inl v_text_bytes)), (a_reader_draft_cells, .inl (zI g, 912, .inl v_reader_draft_cells))] r := by
  refine zE_of (by decide) (Nat.le_of_ble_eq_true rfl) ?_
  intro p e s m below meth c A H locs ls Q R F hRm hlocks hN htab hP hD hS hl hQ
  subst hRm
  have F : zF p m c cX9_tells 2 s (([.ref a_this, .int x1] : List Value)).toArray RX9 g A := F
  have hx := F.1.1
  have hb := F.1.2.1
  have hz := F.1.2.2.2.2
  have hl : lv_has ls 2 [(0, .ref a_this), (1, .int x1)] := hl
  unfold f_X9_tells at h
  refine lv_aload_n hx hb dX9_tells_0 rfl (lv_at hl 0 rfl) ?_
  refine lv_iload_n hx hb dX9_tells_1 rfl (lv_at hl 1 rfl) ?_
  refine z_subR h (fun h => ?_) (fun r1_ hr1_ h => ?_)
  · exact zXV F (kx_X9_requireMeasure l N g a_this a_score a_history a_text a_sentence a_reader a_sounds a_playing a_score_cells v_score_size x1 _ h hfl) hN zy_X9_requireMeasure zw_534 hP hD hS [0, 2] [1, 3, 4, 5, 6, 7] [6, 0, 7, 1, 2, 3, 4, 5] (wr := [zo_X3 a_reader a_text a_reader_draft v_reader_from v_reader_to v_reader_failedAt, zo_X7 a_text a_text_bytes v_text_length, zo_X4 a_reader_draft a_reader_draft_cells v_reader_draft_size, (a_score_cells, .inl (zI g, 912, .inl v_score_cells)), (a_text_bytes, .inl (zY g, 600, .inl v_text_bytes)), (a_reader_draft_cells, .inl (zI g, 912, .inl v_reader_draft_cells))]) (W1 := [zo_X9 a_this a_score a_history a_text a_sentence a_reader a_sounds a_playing, zo_X3 a_reader a_text a_reader_draft v_reader_from v_reader_to v_reader_failedAt, zo_X4 a_score a_score_cells v_score_size, zo_X7 a_text a_text_bytes v_text_length, zo_X4 a_reader_draft a_reader_draft_cells v_reader_draft_size, (a_score_cells, .inl (zI g, 912, .inl v_score_cells)), (a_text_bytes, .inl (zY g, 600, .inl v_text_bytes)), (a_reader_draft_cells, .inl (zI g, 912, .inl v_reader_draft_cells))]) rfl rfl rfl rfl (by decide) rfl rfl (q0 := 0) (he := rfl) (hc := rfl) (rest := []) rfl hl.1 rfl (Nat.le_of_ble_eq_true rfl) ⟨rfl, rfl⟩ ⟨Nat.le_of_ble_eq_true rfl, Nat.le_of_ble_eq_true rfl⟩ ⟨Nat.le_of_ble_eq_true rfl, Nat.le_of_ble_eq_true rfl⟩ dX9_tells_2 htab hlocks hQ
  refine zRV F (k_X9_requireMeasure l N g a_this a_score a_history a_text a_sentence a_reader a_sounds a_playing a_score_cells v_score_size x1 _ hr1_) zy_X9_requireMeasure zw_534 hP hD hS [0, 2] rfl rfl (q0 := 0) (he := rfl) (hc := rfl) (rest := []) rfl hl.1 rfl (Nat.le_of_ble_eq_true rfl) ⟨rfl, rfl⟩ ⟨Nat.le_of_ble_eq_true rfl, Nat.le_of_ble_eq_true rfl⟩ ⟨Nat.zero_le _, Nat.zero_le _⟩ dX9_tells_2 (st1 := []) rfl ?_
  refine lv_aload_n hx hb dX9_tells_5 rfl (lv_at hl 0 rfl) ?_
  refine z_get (C := RX9) (T := TX9) (N := 7) (ci := 7) F zu_wsX90 hP 0 rfl rfl 4 (by decide) zw_490 rfl dX9_tells_6 ?_
  obtain ⟨r2_, hr2_, h⟩ := z_bind h
  refine zVV F (k_X3_findFault l N g a_reader a_text a_reader_draft a_reader_draft_cells a_text_bytes v_reader_failedAt v_reader_from v_reader_to v_reader_draft_size v_text_length v_reader_draft_cells v_text_bytes _ hr2_) zy_X3_findFault zw_666 hP hD hS [1, 4, 3, 7, 6] [0, 2, 5] [0, 3, 1, 5, 4, 2, 7, 6] (wr := [zo_X9 a_this a_score a_history a_text a_sentence a_reader a_sounds a_playing, zo_X4 a_score a_score_cells v_score_size, (a_score_cells, .inl (zI g, 912, .inl v_score_cells))]) (W1 := [zo_X9 a_this a_score a_history a_text a_sentence a_reader a_sounds a_playing, zo_X3 a_reader a_text a_reader_draft r2_.2.2.1 r2_.2.2.2.1 r2_.2.1, zo_X4 a_score a_score_cells v_score_size, zo_X7 a_text a_text_bytes v_text_length, zo_X4 a_reader_draft a_reader_draft_cells r2_.2.2.2.2.1, (a_score_cells, .inl (zI g, 912, .inl v_score_cells)), (a_text_bytes, .inl (zY g, 600, .inl v_text_bytes)), (a_reader_draft_cells, .inl (zI g, 912, .inl r2_.2.2.2.2.2))]) rfl rfl rfl rfl (by decide) rfl rfl (q0 := 1) (he := rfl) (hc := rfl) (rest := []) rfl hl.1 rfl (Nat.le_of_ble_eq_true rfl) ⟨rfl, rfl⟩ ⟨Nat.le_of_ble_eq_true rfl, Nat.le_of_ble_eq_true rfl⟩ ⟨Nat.zero_le _, Nat.zero_le _⟩ dX9_tells_9 (st1 := [.int r2_.1]) rfl (fun H locs hP hD hS => ?_)
  refine lv_sipush (v := (-1000)) hx hb dX9_tells_12 (by decide) ?_
  refine z_cne (tgt := 40) hx hb dX9_tells_15 (by decide) h (fun h => ?_) (fun h => ?_)
  · refine lv_iconst (v := 0) hx hb dX9_tells_40 (by decide) ?_
    cases h
  · refine lv_aload_n hx hb dX9_tells_18 rfl (lv_at hl 0 rfl) ?_
    refine z_get (C := RX9) (T := TX9) (N := 7) (ci := 7) F zu_wsX90 hP 0 rfl rfl 0 (by decide) zw_478 rfl dX9_tells_19 ?_
    refine lv_iload_n hx hb dX9_tells_22 rfl (lv_at hl 1 rfl) ?_
    refine lv_aload_n hx hb dX9_tells_23 rfl (lv_at hl 0 rfl) ?_
    refine z_get (C := RX9) (T := TX9) (N := 7) (ci := 7) F zu_wsX90 hP 0 rfl rfl 4 (by decide) zw_490 rfl dX9_tells_24 ?_
    obtain ⟨r3_, hr3_, h⟩ := z_bind h
    refine zRV F (k_X3_draft l N g a_reader a_text a_reader_draft r2_.2.2.1 r2_.2.2.2.1 r2_.2.1 _ hr3_) zy_X3_draft zw_670 hP hD hS [1] rfl rfl (q0 := 1) (he := rfl) (hc := rfl) (rest := [.int x1, .ref a_score]) rfl hl.1 rfl (Nat.le_of_ble_eq_true rfl) ⟨rfl, rfl⟩ ⟨Nat.le_of_ble_eq_true rfl, Nat.le_of_ble_eq_true rfl⟩ ⟨Nat.zero_le _, Nat.zero_le _⟩ dX9_tells_27 (st1 := [.ref a_reader_draft, .int x1, .ref a_score]) rfl ?_
    obtain ⟨r4_, hr4_, h⟩ := z_bind h
    refine zRV F (k_X4_agreesWith l N g a_score a_score_cells a_reader_draft a_reader_draft_cells v_score_size v_score_cells r2_.2.2.2.2.1 r2_.2.2.2.2.2 x1 _ hr4_) zy_X4_agreesWith zw_677 hP hD hS [2, 5, 4, 7] rfl rfl (q0 := 2) (he := rfl) (hc := rfl) (rest := []) rfl hl.1 rfl (Nat.le_of_ble_eq_true rfl) ⟨rfl, rfl⟩ ⟨Nat.le_of_ble_eq_true rfl, Nat.le_of_ble_eq_true rfl⟩ ⟨Nat.zero_le _, Nat.zero_le _⟩ dX9_tells_30 (st1 := [.int r4_]) rfl ?_
    refine z_eq (tgt := 40) hx hb dX9_tells_33 (by decide) h (fun h => ?_) (fun h => ?_)
    · refine lv_iconst (v := 0) hx hb dX9_tells_40 (by decide) ?_
      cases h
    · refine lv_iconst (v := 1) hx hb dX9_tells_36 (by decide) ?_
      refine lv_goto (tgt := 41) hx hb dX9_tells_37 (by decide) ?_
      cases h
def f_X9_changedBy (N : Nat) (v_score_size : Int32) (v_score_cells : Nat → Int32) (v_sounds_shifts : Nat → Int32) (x1 : Int32) (x2 : Int32) : Option (Int32 ⊕ Nat) :=
  zSub (f_X9_requireMeasure N v_score_size x1) (fun (r1_ : Unit) => zSub (f_X9_requireRange N x2 (-7) 7) (fun (r2_ : Unit) => Option.bind (f_X6_changedWith N v_score_size v_sounds_shifts v_score_cells x1 x2) (fun (r3_ : Int32) => some (Sum.inl r3_))))
abbrev rm_X9_changedBy : Room := { frames := 7, cells := 0, slots := 0, locals := 152 }
theorem zy_X9_changedBy : zYv yX9_changedBy RX9 cX9_changedBy 3 (some .int) 2 := ⟨zw_824, zw_825, zw_527, zw_684, ⟨by decide, by decide⟩, by decide +kernel⟩
set_option maxHeartbeats 4000000 in
set_option maxRecDepth 100000 in
theorem k_X9_changedBy (l : Launch) (N : Nat) (g : zEnv) (a_this a_score a_history a_text a_sentence a_reader a_sounds a_playing a_score_cells a_sounds_shifts a_sounds_heldTicks : Nat) (v_score_size : Int32) (v_score_cells : Nat → Int32) (v_sounds_shifts : Nat → Int32) (x1 : Int32) (x2 : Int32) (r : Int32) (h : f_X9_changedBy N v_score_size v_score_cells v_sounds_shifts x1 x2 = some (Sum.inl r)) : ZR l yX9_changedBy cX9_changedBy 3 (some .int) rm_X9_changedBy g [.ref a_this, .int x1, .int x2] [zo_X9 a_this a_score a_history a_text a_sentence a_reader a_sounds a_playing, zo_X4 a_score a_score_cells v_score_size, zo_X6 a_sounds a_score a_sounds_shifts a_sounds_heldTicks, (a_score_cells, .inl (zI g, 912, .inl v_score_cells)), (a_sounds_shifts, .inl (zI g, 768, .inl v_sounds_shifts))] (some (.int r)) := by
  refine zR_of (by decide) (Nat.le_of_ble_eq_true rfl) ?_
  intro p e s m below meth c A ls Q R F hRm hr hlocks hP hD hS hl hQ
  subst hRm
  have F : zF p m c cX9_changedBy 3 s (([.ref a_this, .int x1, .int x2] : List Value)).toArray RX9 g A := F
  have hx := F.1.1
  have hb := F.1.2.1
  have hz := F.1.2.2.2.2
  have hl : lv_has ls 3 [(0, .ref a_this), (1, .int x1), (2, .int x2)] := hl
  unfold f_X9_changedBy at h
  refine lv_aload_n hx hb dX9_changedBy_0 rfl (lv_at hl 0 rfl) ?_
  refine lv_iload_n hx hb dX9_changedBy_1 rfl (lv_at hl 1 rfl) ?_
  obtain ⟨r1_, hr1_, h⟩ := z_subL h
  refine zRV F (k_X9_requireMeasure l N g a_this a_score a_history a_text a_sentence a_reader a_sounds a_playing a_score_cells v_score_size x1 _ hr1_) zy_X9_requireMeasure zw_534 hP hD hS [0, 1] rfl rfl (q0 := 0) (he := rfl) (hc := rfl) (rest := []) rfl hl.1 rfl (Nat.le_of_ble_eq_true rfl) ⟨rfl, rfl⟩ ⟨Nat.le_of_ble_eq_true rfl, Nat.le_of_ble_eq_true rfl⟩ ⟨Nat.zero_le _, Nat.zero_le _⟩ dX9_changedBy_2 (st1 := []) rfl ?_
  refine lv_iload_n hx hb dX9_changedBy_5 rfl (lv_at hl 2 rfl) ?_
  refine lv_bipush (v := (-7)) hx hb dX9_changedBy_6 (by decide) ?_
  refine lv_bipush (v := 7) hx hb dX9_changedBy_8 (by decide) ?_
  obtain ⟨r2_, hr2_, h⟩ := z_subL h
  refine zRS F (k_X9_requireRange l N g x2 (-7) 7 _ hr2_) zy_X9_requireRange zw_557 hP hD hS [] rfl rfl (rest := []) rfl hl.1 rfl (Nat.le_of_ble_eq_true rfl) ⟨rfl, rfl⟩ ⟨Nat.le_of_ble_eq_true rfl, Nat.le_of_ble_eq_true rfl⟩ ⟨Nat.zero_le _, Nat.zero_le _⟩ dX9_changedBy_10 (st1 := []) rfl ?_
  refine lv_aload_n hx hb dX9_changedBy_13 rfl (lv_at hl 0 rfl) ?_
  refine z_get (C := RX9) (T := TX9) (N := 7) (ci := 7) F zu_wsX90 hP 0 rfl rfl 5 (by decide) zw_493 rfl dX9_changedBy_14 ?_
  refine lv_iload_n hx hb dX9_changedBy_17 rfl (lv_at hl 1 rfl) ?_
  refine lv_iload_n hx hb dX9_changedBy_18 rfl (lv_at hl 2 rfl) ?_
  obtain ⟨r3_, hr3_, h⟩ := z_bind h
  refine zRV F (k_X6_changedWith l N g a_sounds a_score a_sounds_shifts a_sounds_heldTicks a_score_cells v_score_size v_sounds_shifts v_score_cells x1 x2 _ hr3_) zy_X6_changedWith zw_681 hP hD hS [2, 1, 4, 3] rfl rfl (q0 := 2) (he := rfl) (hc := rfl) (rest := []) rfl hl.1 rfl (Nat.le_of_ble_eq_true rfl) ⟨rfl, rfl⟩ ⟨Nat.le_of_ble_eq_true rfl, Nat.le_of_ble_eq_true rfl⟩ ⟨Nat.zero_le _, Nat.zero_le _⟩ dX9_changedBy_19 (st1 := [.int r3_]) rfl ?_
  obtain rfl := Sum.inl.inj (Option.some.inj h)
  exact zR_i F hr hlocks hQ dX9_changedBy_22
abbrev rx_X9_changedBy : Room := { frames := 7, cells := 1, slots := 6, locals := 152 }
set_option maxHeartbeats 4000000 in
set_option maxRecDepth 100000 in
theorem kx_X9_changedBy (l : Launch) (N : Nat) (g : zEnv) (a_this a_score a_history a_text a_sentence a_reader a_sounds a_playing a_score_cells a_sounds_shifts a_sounds_heldTicks : Nat) (v_score_size : Int32) (v_score_cells : Nat → Int32) (v_sounds_shifts : Nat → Int32) (x1 : Int32) (x2 : Int32) (r : Nat) (h : f_X9_changedBy N v_score_size v_score_cells v_sounds_shifts x1 x2 = some (Sum.inr r)) (hfl : l.stackTraces = false) : ZE l yX9_changedBy cX9_changedBy 3 (some .int) rx_X9_changedBy g [.ref a_this, .int x1, .int x2] [zo_X9 a_this a_score a_history a_text a_sentence a_reader a_sounds a_playing, zo_X4 a_score a_score_cells v_score_size, zo_X6 a_sounds a_score a_sounds_shifts a_sounds_heldTicks, (a_score_cells, .inl (zI g, 912, .inl v_score_cells)), (a_sounds_shifts, .inl (zI g, 768, .inl v_sounds_shifts))] [zo_X9 a_this a_score a_history a_text a_sentence a_reader a_sounds a_playing, zo_X4 a_score a_score_cells v_score_size, zo_X6 a_sounds a_score a_sounds_shifts a_sounds_heldTicks, (a_score_cells, .inl (zI g, 912, .inl v_score_cells)), (a_sounds_shifts, .inl (zI g, 768, .inl v_sounds_shifts))] r := by
  refine zE_of (by decide) (Nat.le_of_ble_eq_true rfl) ?_
  intro p e s m below meth c A H locs ls Q R F hRm hlocks hN htab hP hD hS hl hQ
  subst hRm
  have F : zF p m c cX9_changedBy 3 s (([.ref a_this, .int x1, .int x2] : List Value)).toArray RX9 g A := F
  have hx := F.1.1
  have hb := F.1.2.1
  have hz := F.1.2.2.2.2
  have hl : lv_has ls 3 [(0, .ref a_this), (1, .int x1), (2, .int x2)] := hl
  unfold f_X9_changedBy at h
  refine lv_aload_n hx hb dX9_changedBy_0 rfl (lv_at hl 0 rfl) ?_
  refine lv_iload_n hx hb dX9_changedBy_1 rfl (lv_at hl 1 rfl) ?_
  refine z_subR h (fun h => ?_) (fun r1_ hr1_ h => ?_)
  · exact zXV F (kx_X9_requireMeasure l N g a_this a_score a_history a_text a_sentence a_reader a_sounds a_playing a_score_cells v_score_size x1 _ h hfl) hN zy_X9_requireMeasure zw_534 hP hD hS [0, 1] [2, 3, 4] [3, 4, 0, 1, 2] (wr := [zo_X6 a_sounds a_score a_sounds_shifts a_sounds_heldTicks, (a_score_cells, .inl (zI g, 912, .inl v_score_cells)), (a_sounds_shifts, .inl (zI g, 768, .inl v_sounds_shifts))]) (W1 := [zo_X9 a_this a_score a_history a_text a_sentence a_reader a_sounds a_playing, zo_X4 a_score a_score_cells v_score_size, zo_X6 a_sounds a_score a_sounds_shifts a_sounds_heldTicks, (a_score_cells, .inl (zI g, 912, .inl v_score_cells)), (a_sounds_shifts, .inl (zI g, 768, .inl v_sounds_shifts))]) rfl rfl rfl rfl (by decide) rfl rfl (q0 := 0) (he := rfl) (hc := rfl) (rest := []) rfl hl.1 rfl (Nat.le_of_ble_eq_true rfl) ⟨rfl, rfl⟩ ⟨Nat.le_of_ble_eq_true rfl, Nat.le_of_ble_eq_true rfl⟩ ⟨Nat.le_of_ble_eq_true rfl, Nat.le_of_ble_eq_true rfl⟩ dX9_changedBy_2 htab hlocks hQ
  refine zRV F (k_X9_requireMeasure l N g a_this a_score a_history a_text a_sentence a_reader a_sounds a_playing a_score_cells v_score_size x1 _ hr1_) zy_X9_requireMeasure zw_534 hP hD hS [0, 1] rfl rfl (q0 := 0) (he := rfl) (hc := rfl) (rest := []) rfl hl.1 rfl (Nat.le_of_ble_eq_true rfl) ⟨rfl, rfl⟩ ⟨Nat.le_of_ble_eq_true rfl, Nat.le_of_ble_eq_true rfl⟩ ⟨Nat.zero_le _, Nat.zero_le _⟩ dX9_changedBy_2 (st1 := []) rfl ?_
  refine lv_iload_n hx hb dX9_changedBy_5 rfl (lv_at hl 2 rfl) ?_
  refine lv_bipush (v := (-7)) hx hb dX9_changedBy_6 (by decide) ?_
  refine lv_bipush (v := 7) hx hb dX9_changedBy_8 (by decide) ?_
  refine z_subR h (fun h => ?_) (fun r2_ hr2_ h => ?_)
  · exact zXS F (kx_X9_requireRange l N g x2 (-7) 7 _ h hfl) hN zy_X9_requireRange zw_557 hP hD hS [] [0, 1, 2, 3, 4] [0, 1, 2, 3, 4] (wr := [zo_X9 a_this a_score a_history a_text a_sentence a_reader a_sounds a_playing, zo_X4 a_score a_score_cells v_score_size, zo_X6 a_sounds a_score a_sounds_shifts a_sounds_heldTicks, (a_score_cells, .inl (zI g, 912, .inl v_score_cells)), (a_sounds_shifts, .inl (zI g, 768, .inl v_sounds_shifts))]) (W1 := [zo_X9 a_this a_score a_history a_text a_sentence a_reader a_sounds a_playing, zo_X4 a_score a_score_cells v_score_size, zo_X6 a_sounds a_score a_sounds_shifts a_sounds_heldTicks, (a_score_cells, .inl (zI g, 912, .inl v_score_cells)), (a_sounds_shifts, .inl (zI g, 768, .inl v_sounds_shifts))]) rfl rfl rfl rfl (by decide) rfl rfl (rest := []) rfl hl.1 rfl (Nat.le_of_ble_eq_true rfl) ⟨rfl, rfl⟩ ⟨Nat.le_of_ble_eq_true rfl, Nat.le_of_ble_eq_true rfl⟩ ⟨Nat.le_of_ble_eq_true rfl, Nat.le_of_ble_eq_true rfl⟩ dX9_changedBy_10 htab hlocks hQ
  refine zRS F (k_X9_requireRange l N g x2 (-7) 7 _ hr2_) zy_X9_requireRange zw_557 hP hD hS [] rfl rfl (rest := []) rfl hl.1 rfl (Nat.le_of_ble_eq_true rfl) ⟨rfl, rfl⟩ ⟨Nat.le_of_ble_eq_true rfl, Nat.le_of_ble_eq_true rfl⟩ ⟨Nat.zero_le _, Nat.zero_le _⟩ dX9_changedBy_10 (st1 := []) rfl ?_
  refine lv_aload_n hx hb dX9_changedBy_13 rfl (lv_at hl 0 rfl) ?_
  refine z_get (C := RX9) (T := TX9) (N := 7) (ci := 7) F zu_wsX90 hP 0 rfl rfl 5 (by decide) zw_493 rfl dX9_changedBy_14 ?_
  refine lv_iload_n hx hb dX9_changedBy_17 rfl (lv_at hl 1 rfl) ?_
  refine lv_iload_n hx hb dX9_changedBy_18 rfl (lv_at hl 2 rfl) ?_
  obtain ⟨r3_, hr3_, h⟩ := z_bind h
  refine zRV F (k_X6_changedWith l N g a_sounds a_score a_sounds_shifts a_sounds_heldTicks a_score_cells v_score_size v_sounds_shifts v_score_cells x1 x2 _ hr3_) zy_X6_changedWith zw_681 hP hD hS [2, 1, 4, 3] rfl rfl (q0 := 2) (he := rfl) (hc := rfl) (rest := []) rfl hl.1 rfl (Nat.le_of_ble_eq_true rfl) ⟨rfl, rfl⟩ ⟨Nat.le_of_ble_eq_true rfl, Nat.le_of_ble_eq_true rfl⟩ ⟨Nat.zero_le _, Nat.zero_le _⟩ dX9_changedBy_19 (st1 := [.int r3_]) rfl ?_
  cases h
def f_X9_nearestKey_B16 (N : Nat) (v_score_size : Int32) (v_score_cells : Nat → Int32) (x1 : Int32) (v_sounds_shifts : Nat → Int32) (kh16_ : Int32 × Int32 × Int32 → Option Int32) (v16_ : Int32 × Int32 × Int32) : Option Int32 :=
  if 7 < v16_.2.2 then some v16_.1 else Option.bind (f_X4_value N v_score_size v_score_cells x1 0) (fun (r3_ : Int32) => Option.bind (if v16_.2.2 = r3_ then some (v16_.1, v16_.2.1) else Option.bind (f_X6_changedWith N v_score_size v_sounds_shifts v_score_cells x1 v16_.2.2) (fun (r6_ : Int32) => if r6_ < v16_.2.1 then some (v16_.2.2, r6_) else some (v16_.1, v16_.2.1))) (fun (r4_ : Int32 × Int32) => Option.bind (some (v16_.2.2 + 1)) (fun (x5_ : Int32) => kh16_ (r4_.1, r4_.2, x5_))))
def f_X9_nearestKey (N : Nat) (v_score_size : Int32) (v_score_cells : Nat → Int32) (v_sounds_shifts : Nat → Int32) (x1 : Int32) : Option (Int32 ⊕ Nat) :=
  zSub (f_X9_requireMeasure N v_score_size x1) (fun (r1_ : Unit) => Option.bind (zLoop (f_X9_nearestKey_B16 N v_score_size v_score_cells x1 v_sounds_shifts) N ((-1000), 49, (-7))) (fun (r2_ : Int32) => some (Sum.inl r2_)))
abbrev rm_X9_nearestKey : Room := { frames := 7, cells := 0, slots := 0, locals := 152 }
theorem zy_X9_nearestKey : zYv yX9_nearestKey RX9 cX9_nearestKey 6 (some .int) 1 := ⟨zw_827, zw_828, zw_527, zw_685, ⟨by decide, by decide⟩, by decide +kernel⟩
set_option maxHeartbeats 4000000 in
set_option maxRecDepth 100000 in
theorem k_X9_nearestKey (l : Launch) (N : Nat) (g : zEnv) (a_this a_score a_history a_text a_sentence a_reader a_sounds a_playing a_score_cells a_sounds_shifts a_sounds_heldTicks : Nat) (v_score_size : Int32) (v_score_cells : Nat → Int32) (v_sounds_shifts : Nat → Int32) (x1 : Int32) (r : Int32) (h : f_X9_nearestKey N v_score_size v_score_cells v_sounds_shifts x1 = some (Sum.inl r)) : ZR l yX9_nearestKey cX9_nearestKey 6 (some .int) rm_X9_nearestKey g [.ref a_this, .int x1] [zo_X9 a_this a_score a_history a_text a_sentence a_reader a_sounds a_playing, zo_X4 a_score a_score_cells v_score_size, zo_X6 a_sounds a_score a_sounds_shifts a_sounds_heldTicks, (a_score_cells, .inl (zI g, 912, .inl v_score_cells)), (a_sounds_shifts, .inl (zI g, 768, .inl v_sounds_shifts))] (some (.int r)) := by
  refine zR_of (by decide) (Nat.le_of_ble_eq_true rfl) ?_
  intro p e s m below meth c A ls Q R F hRm hr hlocks hP hD hS hl hQ
  subst hRm
  have F : zF p m c cX9_nearestKey 6 s (([.ref a_this, .int x1] : List Value)).toArray RX9 g A := F
  have hx := F.1.1
  have hb := F.1.2.1
  have hz := F.1.2.2.2.2
  have hl : lv_has ls 6 [(0, .ref a_this), (1, .int x1)] := hl
  unfold f_X9_nearestKey at h
  refine lv_aload_n hx hb dX9_nearestKey_0 rfl (lv_at hl 0 rfl) ?_
  refine lv_iload_n hx hb dX9_nearestKey_1 rfl (lv_at hl 1 rfl) ?_
  obtain ⟨r1_, hr1_, h⟩ := z_subL h
  refine zRV F (k_X9_requireMeasure l N g a_this a_score a_history a_text a_sentence a_reader a_sounds a_playing a_score_cells v_score_size x1 _ hr1_) zy_X9_requireMeasure zw_534 hP hD hS [0, 1] rfl rfl (q0 := 0) (he := rfl) (hc := rfl) (rest := []) rfl hl.1 rfl (Nat.le_of_ble_eq_true rfl) ⟨rfl, rfl⟩ ⟨Nat.le_of_ble_eq_true rfl, Nat.le_of_ble_eq_true rfl⟩ ⟨Nat.zero_le _, Nat.zero_le _⟩ dX9_nearestKey_2 (st1 := []) rfl ?_
  refine lv_sipush (v := (-1000)) hx hb dX9_nearestKey_5 (by decide) ?_
  refine lv_istore_n (lv' := [(2, .int (-1000)), (0, .ref a_this), (1, .int x1)]) hx hb dX9_nearestKey_8 rfl hl (by decide) rfl (fun ls hl => ?_)
  refine lv_bipush (v := 49) hx hb dX9_nearestKey_9 (by decide) ?_
  refine lv_istore_n (lv' := [(3, .int 49), (2, .int (-1000)), (0, .ref a_this), (1, .int x1)]) hx hb dX9_nearestKey_11 rfl hl (by decide) rfl (fun ls hl => ?_)
  refine lv_bipush (v := (-7)) hx hb dX9_nearestKey_12 (by decide) ?_
  refine lv_istore (lv' := [(4, .int (-7)), (3, .int 49), (2, .int (-1000)), (0, .ref a_this), (1, .int x1)]) hx hb dX9_nearestKey_14 hl (by decide) rfl (fun ls hl => ?_)
  obtain ⟨r2_, hA16_, h⟩ := z_bind h
  have k67_ : ∀ (ls : Array Slot), lv_has ls 6 [(2, .int r2_)] → W p l e rm_X9_nearestKey s m (([.ref a_this, .int x1] : List Value)).toArray below meth c s.heap [] 0 0 Q (F0 m 67 ls []) := by
    intro ls hl
    refine lv_iload_n hx hb dX9_nearestKey_67 rfl (lv_at hl 0 rfl) ?_
    obtain rfl := Sum.inl.inj (Option.some.inj h)
    exact zR_i F hr hlocks hQ dX9_nearestKey_68
  have h := hA16_
  have l16_ : ∀ (n16_ : Nat) (v16_ : Int32 × Int32 × Int32), zLoop (f_X9_nearestKey_B16 N v_score_size v_score_cells x1 v_sounds_shifts) n16_ v16_ = some r2_ → ∀ (ls : Array Slot), lv_has ls 6 [(0, .ref a_this), (1, .int x1), (2, .int v16_.1), (3, .int v16_.2.1), (4, .int v16_.2.2)] → W p l e rm_X9_nearestKey s m (([.ref a_this, .int x1] : List Value)).toArray below meth c s.heap [] 0 0 Q (F0 m 16 ls []) := by
    intro n16_
    induction n16_ with
    | zero => intro v16_ h; cases h
    | succ n16_ ih16_ =>
      intro v16_ h ls hl
      have h : f_X9_nearestKey_B16 N v_score_size v_score_cells x1 v_sounds_shifts (zLoop (f_X9_nearestKey_B16 N v_score_size v_score_cells x1 v_sounds_shifts) n16_) v16_ = some r2_ := h
      unfold f_X9_nearestKey_B16 at h
      refine lv_iload hx hb dX9_nearestKey_16 (lv_at hl 4 rfl) ?_
      refine lv_bipush (v := 7) hx hb dX9_nearestKey_18 (by decide) ?_
      refine z_cgt (tgt := 67) hx hb dX9_nearestKey_20 (by decide) h (fun h => ?_) (fun h => ?_)
      · obtain rfl := Option.some.inj h
        exact k67_ _ (lv_sub hl [2] rfl)
      · refine lv_iload hx hb dX9_nearestKey_23 (lv_at hl 4 rfl) ?_
        refine lv_aload_n hx hb dX9_nearestKey_25 rfl (lv_at hl 0 rfl) ?_
        refine z_get (C := RX9) (T := TX9) (N := 7) (ci := 7) F zu_wsX90 hP 0 rfl rfl 0 (by decide) zw_478 rfl dX9_nearestKey_26 ?_
        refine lv_iload_n hx hb dX9_nearestKey_29 rfl (lv_at hl 1 rfl) ?_
        refine lv_iconst (v := 0) hx hb dX9_nearestKey_30 (by decide) ?_
        obtain ⟨r3_, hr3_, h⟩ := z_bind h
        refine zRV F (k_X4_value l N g a_score a_score_cells v_score_size v_score_cells x1 0 _ hr3_) zy_X4_value zw_544 hP hD hS [1, 3] rfl rfl (q0 := 1) (he := rfl) (hc := rfl) (rest := [.int v16_.2.2]) rfl hl.1 rfl (Nat.le_of_ble_eq_true rfl) ⟨rfl, rfl⟩ ⟨Nat.le_of_ble_eq_true rfl, Nat.le_of_ble_eq_true rfl⟩ ⟨Nat.zero_le _, Nat.zero_le _⟩ dX9_nearestKey_31 (st1 := [.int r3_, .int v16_.2.2]) rfl ?_
        obtain ⟨r4_, hA61_, h⟩ := z_bind h
        have k61_ : ∀ (ls : Array Slot), lv_has ls 6 [(0, .ref a_this), (1, .int x1), (2, .int r4_.1), (3, .int r4_.2), (4, .int v16_.2.2)] → W p l e rm_X9_nearestKey s m (([.ref a_this, .int x1] : List Value)).toArray below meth c s.heap [] 0 0 Q (F0 m 61 ls []) := by
          intro ls hl
          refine z_nm h (fun x5_ ex5_ h => ?_)
          refine lv_iinc (v := x5_) (lv' := [(4, .int x5_), (0, .ref a_this), (1, .int x1), (2, .int r4_.1), (3, .int r4_.2)]) hx hb dX9_nearestKey_61 hl (k := 4) rfl (by rw [ex5_]; rfl) (by decide) rfl (fun ls hl => ?_)
          refine lv_goto (tgt := 16) hx hb dX9_nearestKey_64 (by decide) ?_
          exact ih16_ _ h _ (lv_sub hl [1, 2, 3, 4, 0] rfl)
        have h := hA61_
        refine z_ceq (tgt := 61) hx hb dX9_nearestKey_34 (by decide) h (fun h => ?_) (fun h => ?_)
        · obtain rfl := Option.some.inj h
          exact k61_ _ (lv_sub hl [0, 1, 2, 3, 4] rfl)
        · refine lv_aload_n hx hb dX9_nearestKey_37 rfl (lv_at hl 0 rfl) ?_
          refine z_get (C := RX9) (T := TX9) (N := 7) (ci := 7) F zu_wsX90 hP 0 rfl rfl 5 (by decide) zw_493 rfl dX9_nearestKey_38 ?_
          refine lv_iload_n hx hb dX9_nearestKey_41 rfl (lv_at hl 1 rfl) ?_
          refine lv_iload hx hb dX9_nearestKey_42 (lv_at hl 4 rfl) ?_
          obtain ⟨r6_, hr6_, h⟩ := z_bind h
          refine zRV F (k_X6_changedWith l N g a_sounds a_score a_sounds_shifts a_sounds_heldTicks a_score_cells v_score_size v_sounds_shifts v_score_cells x1 v16_.2.2 _ hr6_) zy_X6_changedWith zw_681 hP hD hS [2, 1, 4, 3] rfl rfl (q0 := 2) (he := rfl) (hc := rfl) (rest := []) rfl hl.1 rfl (Nat.le_of_ble_eq_true rfl) ⟨rfl, rfl⟩ ⟨Nat.le_of_ble_eq_true rfl, Nat.le_of_ble_eq_true rfl⟩ ⟨Nat.zero_le _, Nat.zero_le _⟩ dX9_nearestKey_44 (st1 := [.int r6_]) rfl ?_
          refine lv_istore (lv' := [(5, .int r6_), (0, .ref a_this), (1, .int x1), (2, .int v16_.1), (3, .int v16_.2.1), (4, .int v16_.2.2)]) hx hb dX9_nearestKey_47 hl (by decide) rfl (fun ls hl => ?_)
          refine lv_iload hx hb dX9_nearestKey_49 (lv_at hl 0 rfl) ?_
          refine lv_iload_n hx hb dX9_nearestKey_51 rfl (lv_at hl 4 rfl) ?_
          refine z_cge (tgt := 61) hx hb dX9_nearestKey_52 (by decide) h (fun h => ?_) (fun h => ?_)
          · obtain rfl := Option.some.inj h
            exact k61_ _ (lv_sub hl [1, 2, 3, 4, 5] rfl)
          · refine lv_iload hx hb dX9_nearestKey_55 (lv_at hl 0 rfl) ?_
            refine lv_istore_n (lv' := [(3, .int r6_), (5, .int r6_), (0, .ref a_this), (1, .int x1), (2, .int v16_.1), (4, .int v16_.2.2)]) hx hb dX9_nearestKey_57 rfl hl (by decide) rfl (fun ls hl => ?_)
            refine lv_iload hx hb dX9_nearestKey_58 (lv_at hl 5 rfl) ?_
            refine lv_istore_n (lv' := [(2, .int v16_.2.2), (3, .int r6_), (5, .int r6_), (0, .ref a_this), (1, .int x1), (4, .int v16_.2.2)]) hx hb dX9_nearestKey_60 rfl hl (by decide) rfl (fun ls hl => ?_)
            obtain rfl := Option.some.inj h
            exact k61_ _ (lv_sub hl [3, 4, 0, 1, 5] rfl)
  exact l16_ N _ h _ (lv_sub hl [3, 4, 2, 1, 0] rfl)
abbrev rx_X9_nearestKey : Room := { frames := 7, cells := 1, slots := 6, locals := 152 }
set_option maxHeartbeats 4000000 in
set_option maxRecDepth 100000 in
theorem kx_X9_nearestKey (l : Launch) (N : Nat) (g : zEnv) (a_this a_score a_history a_text a_sentence a_reader a_sounds a_playing a_score_cells a_sounds_shifts a_sounds_heldTicks : Nat) (v_score_size : Int32) (v_score_cells : Nat → Int32) (v_sounds_shifts : Nat → Int32) (x1 : Int32) (r : Nat) (h : f_X9_nearestKey N v_score_size v_score_cells v_sounds_shifts x1 = some (Sum.inr r)) (hfl : l.stackTraces = false) : ZE l yX9_nearestKey cX9_nearestKey 6 (some .int) rx_X9_nearestKey g [.ref a_this, .int x1] [zo_X9 a_this a_score a_history a_text a_sentence a_reader a_sounds a_playing, zo_X4 a_score a_score_cells v_score_size, zo_X6 a_sounds a_score a_sounds_shifts a_sounds_heldTicks, (a_score_cells, .inl (zI g, 912, .inl v_score_cells)), (a_sounds_shifts, .inl (zI g, 768, .inl v_sounds_shifts))] [zo_X9 a_this a_score a_history a_text a_sentence a_reader a_sounds a_playing, zo_X4 a_score a_score_cells v_score_size, zo_X6 a_sounds a_score a_sounds_shifts a_sounds_heldTicks, (a_score_cells, .inl (zI g, 912, .inl v_score_cells)), (a_sounds_shifts, .inl (zI g, 768, .inl v_sounds_shifts))] r := by
  refine zE_of (by decide) (Nat.le_of_ble_eq_true rfl) ?_
  intro p e s m below meth c A H locs ls Q R F hRm hlocks hN htab hP hD hS hl hQ
  subst hRm
  have F : zF p m c cX9_nearestKey 6 s (([.ref a_this, .int x1] : List Value)).toArray RX9 g A := F
  have hx := F.1.1
  have hb := F.1.2.1
  have hz := F.1.2.2.2.2
  have hl : lv_has ls 6 [(0, .ref a_this), (1, .int x1)] := hl
  unfold f_X9_nearestKey at h
  refine lv_aload_n hx hb dX9_nearestKey_0 rfl (lv_at hl 0 rfl) ?_
  refine lv_iload_n hx hb dX9_nearestKey_1 rfl (lv_at hl 1 rfl) ?_
  refine z_subR h (fun h => ?_) (fun r1_ hr1_ h => ?_)
  · exact zXV F (kx_X9_requireMeasure l N g a_this a_score a_history a_text a_sentence a_reader a_sounds a_playing a_score_cells v_score_size x1 _ h hfl) hN zy_X9_requireMeasure zw_534 hP hD hS [0, 1] [2, 3, 4] [3, 4, 0, 1, 2] (wr := [zo_X6 a_sounds a_score a_sounds_shifts a_sounds_heldTicks, (a_score_cells, .inl (zI g, 912, .inl v_score_cells)), (a_sounds_shifts, .inl (zI g, 768, .inl v_sounds_shifts))]) (W1 := [zo_X9 a_this a_score a_history a_text a_sentence a_reader a_sounds a_playing, zo_X4 a_score a_score_cells v_score_size, zo_X6 a_sounds a_score a_sounds_shifts a_sounds_heldTicks, (a_score_cells, .inl (zI g, 912, .inl v_score_cells)), (a_sounds_shifts, .inl (zI g, 768, .inl v_sounds_shifts))]) rfl rfl rfl rfl (by decide) rfl rfl (q0 := 0) (he := rfl) (hc := rfl) (rest := []) rfl hl.1 rfl (Nat.le_of_ble_eq_true rfl) ⟨rfl, rfl⟩ ⟨Nat.le_of_ble_eq_true rfl, Nat.le_of_ble_eq_true rfl⟩ ⟨Nat.le_of_ble_eq_true rfl, Nat.le_of_ble_eq_true rfl⟩ dX9_nearestKey_2 htab hlocks hQ
  refine zRV F (k_X9_requireMeasure l N g a_this a_score a_history a_text a_sentence a_reader a_sounds a_playing a_score_cells v_score_size x1 _ hr1_) zy_X9_requireMeasure zw_534 hP hD hS [0, 1] rfl rfl (q0 := 0) (he := rfl) (hc := rfl) (rest := []) rfl hl.1 rfl (Nat.le_of_ble_eq_true rfl) ⟨rfl, rfl⟩ ⟨Nat.le_of_ble_eq_true rfl, Nat.le_of_ble_eq_true rfl⟩ ⟨Nat.zero_le _, Nat.zero_le _⟩ dX9_nearestKey_2 (st1 := []) rfl ?_
  refine lv_sipush (v := (-1000)) hx hb dX9_nearestKey_5 (by decide) ?_
  refine lv_istore_n (lv' := [(2, .int (-1000)), (0, .ref a_this), (1, .int x1)]) hx hb dX9_nearestKey_8 rfl hl (by decide) rfl (fun ls hl => ?_)
  refine lv_bipush (v := 49) hx hb dX9_nearestKey_9 (by decide) ?_
  refine lv_istore_n (lv' := [(3, .int 49), (2, .int (-1000)), (0, .ref a_this), (1, .int x1)]) hx hb dX9_nearestKey_11 rfl hl (by decide) rfl (fun ls hl => ?_)
  refine lv_bipush (v := (-7)) hx hb dX9_nearestKey_12 (by decide) ?_
  refine lv_istore (lv' := [(4, .int (-7)), (3, .int 49), (2, .int (-1000)), (0, .ref a_this), (1, .int x1)]) hx hb dX9_nearestKey_14 hl (by decide) rfl (fun ls hl => ?_)
  obtain ⟨r2_, hA16_, h⟩ := z_bind h
  have k67_ : ∀ (H : Heap) (locs : List Loc) (ls : Array Slot), va_P (zD g) vwCl [zo_X9 a_this a_score a_history a_text a_sentence a_reader a_sounds a_playing, zo_X4 a_score a_score_cells v_score_size, zo_X6 a_sounds a_score a_sounds_shifts a_sounds_heldTicks, (a_score_cells, .inl (zI g, 912, .inl v_score_cells)), (a_sounds_shifts, .inl (zI g, 768, .inl v_sounds_shifts))] H → va_D A [zo_X9 a_this a_score a_history a_text a_sentence a_reader a_sounds a_playing, zo_X4 a_score a_score_cells v_score_size, zo_X6 a_sounds a_score a_sounds_shifts a_sounds_heldTicks, (a_score_cells, .inl (zI g, 912, .inl v_score_cells)), (a_sounds_shifts, .inl (zI g, 768, .inl v_sounds_shifts))] → va_S A s.heap H locs → lv_has ls 6 [(2, .int r2_)] → W p l e rx_X9_nearestKey s m (([.ref a_this, .int x1] : List Value)).toArray below meth c H locs 0 0 Q (F0 m 67 ls []) := by
    intro H locs ls hP hD hS hl
    refine lv_iload_n hx hb dX9_nearestKey_67 rfl (lv_at hl 0 rfl) ?_
    cases h
  have h := hA16_
  have l16_ : ∀ (n16_ : Nat) (v16_ : Int32 × Int32 × Int32), zLoop (f_X9_nearestKey_B16 N v_score_size v_score_cells x1 v_sounds_shifts) n16_ v16_ = some r2_ → ∀ (H : Heap) (locs : List Loc) (ls : Array Slot), va_P (zD g) vwCl [zo_X9 a_this a_score a_history a_text a_sentence a_reader a_sounds a_playing, zo_X4 a_score a_score_cells v_score_size, zo_X6 a_sounds a_score a_sounds_shifts a_sounds_heldTicks, (a_score_cells, .inl (zI g, 912, .inl v_score_cells)), (a_sounds_shifts, .inl (zI g, 768, .inl v_sounds_shifts))] H → va_D A [zo_X9 a_this a_score a_history a_text a_sentence a_reader a_sounds a_playing, zo_X4 a_score a_score_cells v_score_size, zo_X6 a_sounds a_score a_sounds_shifts a_sounds_heldTicks, (a_score_cells, .inl (zI g, 912, .inl v_score_cells)), (a_sounds_shifts, .inl (zI g, 768, .inl v_sounds_shifts))] → va_S A s.heap H locs → lv_has ls 6 [(0, .ref a_this), (1, .int x1), (2, .int v16_.1), (3, .int v16_.2.1), (4, .int v16_.2.2)] → W p l e rx_X9_nearestKey s m (([.ref a_this, .int x1] : List Value)).toArray below meth c H locs 0 0 Q (F0 m 16 ls []) := by
    intro n16_
    induction n16_ with
    | zero => intro v16_ h; cases h
    | succ n16_ ih16_ =>
      intro v16_ h H locs ls hP hD hS hl
      have h : f_X9_nearestKey_B16 N v_score_size v_score_cells x1 v_sounds_shifts (zLoop (f_X9_nearestKey_B16 N v_score_size v_score_cells x1 v_sounds_shifts) n16_) v16_ = some r2_ := h
      unfold f_X9_nearestKey_B16 at h
      refine lv_iload hx hb dX9_nearestKey_16 (lv_at hl 4 rfl) ?_
      refine lv_bipush (v := 7) hx hb dX9_nearestKey_18 (by decide) ?_
      refine z_cgt (tgt := 67) hx hb dX9_nearestKey_20 (by decide) h (fun h => ?_) (fun h => ?_)
      · obtain rfl := Option.some.inj h
        exact k67_ _ _ _ hP hD hS (lv_sub hl [2] rfl)
      · refine lv_iload hx hb dX9_nearestKey_23 (lv_at hl 4 rfl) ?_
        refine lv_aload_n hx hb dX9_nearestKey_25 rfl (lv_at hl 0 rfl) ?_
        refine z_get (C := RX9) (T := TX9) (N := 7) (ci := 7) F zu_wsX90 hP 0 rfl rfl 0 (by decide) zw_478 rfl dX9_nearestKey_26 ?_
        refine lv_iload_n hx hb dX9_nearestKey_29 rfl (lv_at hl 1 rfl) ?_
        refine lv_iconst (v := 0) hx hb dX9_nearestKey_30 (by decide) ?_
        obtain ⟨r3_, hr3_, h⟩ := z_bind h
        refine zRV F (k_X4_value l N g a_score a_score_cells v_score_size v_score_cells x1 0 _ hr3_) zy_X4_value zw_544 hP hD hS [1, 3] rfl rfl (q0 := 1) (he := rfl) (hc := rfl) (rest := [.int v16_.2.2]) rfl hl.1 rfl (Nat.le_of_ble_eq_true rfl) ⟨rfl, rfl⟩ ⟨Nat.le_of_ble_eq_true rfl, Nat.le_of_ble_eq_true rfl⟩ ⟨Nat.zero_le _, Nat.zero_le _⟩ dX9_nearestKey_31 (st1 := [.int r3_, .int v16_.2.2]) rfl ?_
        obtain ⟨r4_, hA61_, h⟩ := z_bind h
        have k61_ : ∀ (H : Heap) (locs : List Loc) (ls : Array Slot), va_P (zD g) vwCl [zo_X9 a_this a_score a_history a_text a_sentence a_reader a_sounds a_playing, zo_X4 a_score a_score_cells v_score_size, zo_X6 a_sounds a_score a_sounds_shifts a_sounds_heldTicks, (a_score_cells, .inl (zI g, 912, .inl v_score_cells)), (a_sounds_shifts, .inl (zI g, 768, .inl v_sounds_shifts))] H → va_D A [zo_X9 a_this a_score a_history a_text a_sentence a_reader a_sounds a_playing, zo_X4 a_score a_score_cells v_score_size, zo_X6 a_sounds a_score a_sounds_shifts a_sounds_heldTicks, (a_score_cells, .inl (zI g, 912, .inl v_score_cells)), (a_sounds_shifts, .inl (zI g, 768, .inl v_sounds_shifts))] → va_S A s.heap H locs → lv_has ls 6 [(0, .ref a_this), (1, .int x1), (2, .int r4_.1), (3, .int r4_.2), (4, .int v16_.2.2)] → W p l e rx_X9_nearestKey s m (([.ref a_this, .int x1] : List Value)).toArray below meth c H locs 0 0 Q (F0 m 61 ls []) := by
          intro H locs ls hP hD hS hl
          refine z_nm h (fun x5_ ex5_ h => ?_)
          refine lv_iinc (v := x5_) (lv' := [(4, .int x5_), (0, .ref a_this), (1, .int x1), (2, .int r4_.1), (3, .int r4_.2)]) hx hb dX9_nearestKey_61 hl (k := 4) rfl (by rw [ex5_]; rfl) (by decide) rfl (fun ls hl => ?_)
          refine lv_goto (tgt := 16) hx hb dX9_nearestKey_64 (by decide) ?_
          exact ih16_ _ h _ _ _ hP hD hS (lv_sub hl [1, 2, 3, 4, 0] rfl)
        have h := hA61_
        refine z_ceq (tgt := 61) hx hb dX9_nearestKey_34 (by decide) h (fun h => ?_) (fun h => ?_)
        · obtain rfl := Option.some.inj h
          exact k61_ _ _ _ hP hD hS (lv_sub hl [0, 1, 2, 3, 4] rfl)
        · refine lv_aload_n hx hb dX9_nearestKey_37 rfl (lv_at hl 0 rfl) ?_
          refine z_get (C := RX9) (T := TX9) (N := 7) (ci := 7) F zu_wsX90 hP 0 rfl rfl 5 (by decide) zw_493 rfl dX9_nearestKey_38 ?_
          refine lv_iload_n hx hb dX9_nearestKey_41 rfl (lv_at hl 1 rfl) ?_
          refine lv_iload hx hb dX9_nearestKey_42 (lv_at hl 4 rfl) ?_
          obtain ⟨r6_, hr6_, h⟩ := z_bind h
          refine zRV F (k_X6_changedWith l N g a_sounds a_score a_sounds_shifts a_sounds_heldTicks a_score_cells v_score_size v_sounds_shifts v_score_cells x1 v16_.2.2 _ hr6_) zy_X6_changedWith zw_681 hP hD hS [2, 1, 4, 3] rfl rfl (q0 := 2) (he := rfl) (hc := rfl) (rest := []) rfl hl.1 rfl (Nat.le_of_ble_eq_true rfl) ⟨rfl, rfl⟩ ⟨Nat.le_of_ble_eq_true rfl, Nat.le_of_ble_eq_true rfl⟩ ⟨Nat.zero_le _, Nat.zero_le _⟩ dX9_nearestKey_44 (st1 := [.int r6_]) rfl ?_
          refine lv_istore (lv' := [(5, .int r6_), (0, .ref a_this), (1, .int x1), (2, .int v16_.1), (3, .int v16_.2.1), (4, .int v16_.2.2)]) hx hb dX9_nearestKey_47 hl (by decide) rfl (fun ls hl => ?_)
          refine lv_iload hx hb dX9_nearestKey_49 (lv_at hl 0 rfl) ?_
          refine lv_iload_n hx hb dX9_nearestKey_51 rfl (lv_at hl 4 rfl) ?_
          refine z_cge (tgt := 61) hx hb dX9_nearestKey_52 (by decide) h (fun h => ?_) (fun h => ?_)
          · obtain rfl := Option.some.inj h
            exact k61_ _ _ _ hP hD hS (lv_sub hl [1, 2, 3, 4, 5] rfl)
          · refine lv_iload hx hb dX9_nearestKey_55 (lv_at hl 0 rfl) ?_
            refine lv_istore_n (lv' := [(3, .int r6_), (5, .int r6_), (0, .ref a_this), (1, .int x1), (2, .int v16_.1), (4, .int v16_.2.2)]) hx hb dX9_nearestKey_57 rfl hl (by decide) rfl (fun ls hl => ?_)
            refine lv_iload hx hb dX9_nearestKey_58 (lv_at hl 5 rfl) ?_
            refine lv_istore_n (lv' := [(2, .int v16_.2.2), (3, .int r6_), (5, .int r6_), (0, .ref a_this), (1, .int x1), (4, .int v16_.2.2)]) hx hb dX9_nearestKey_60 rfl hl (by decide) rfl (fun ls hl => ?_)
            obtain rfl := Option.some.inj h
            exact k61_ _ _ _ hP hD hS (lv_sub hl [3, 4, 0, 1, 5] rfl)
  exact l16_ N _ h _ _ _ hP hD hS (lv_sub hl [3, 4, 2, 1, 0] rfl)
def f_X9_needlessSigns (N : Nat) (v_score_size : Int32) (v_score_cells : Nat → Int32) (v_sounds_shifts : Nat → Int32) (x1 : Int32) : Option (Int32 ⊕ Nat) :=
  zSub (f_X9_requireMeasure N v_score_size x1) (fun (r1_ : Unit) => Option.bind (f_X6_signsWithoutEffect N v_score_size v_sounds_shifts v_score_cells x1) (fun (r2_ : Int32) => some (Sum.inl r2_)))
abbrev rm_X9_needlessSigns : Room := { frames := 7, cells := 0, slots := 0, locals := 126 }
theorem zy_X9_needlessSigns : zYv yX9_needlessSigns RX9 cX9_needlessSigns 2 (some .int) 1 := ⟨zw_830, zw_831, zw_527, zw_689, ⟨by decide, by decide⟩, by decide +kernel⟩
set_option maxHeartbeats 4000000 in
set_option maxRecDepth 100000 in
theorem k_X9_needlessSigns (l : Launch) (N : Nat) (g : zEnv) (a_this a_score a_history a_text a_sentence a_reader a_sounds a_playing a_score_cells a_sounds_shifts a_sounds_heldTicks : Nat) (v_score_size : Int32) (v_score_cells : Nat → Int32) (v_sounds_shifts : Nat → Int32) (x1 : Int32) (r : Int32) (h : f_X9_needlessSigns N v_score_size v_score_cells v_sounds_shifts x1 = some (Sum.inl r)) : ZR l yX9_needlessSigns cX9_needlessSigns 2 (some .int) rm_X9_needlessSigns g [.ref a_this, .int x1] [zo_X9 a_this a_score a_history a_text a_sentence a_reader a_sounds a_playing, zo_X4 a_score a_score_cells v_score_size, zo_X6 a_sounds a_score a_sounds_shifts a_sounds_heldTicks, (a_score_cells, .inl (zI g, 912, .inl v_score_cells)), (a_sounds_shifts, .inl (zI g, 768, .inl v_sounds_shifts))] (some (.int r)) := by
  refine zR_of (by decide) (Nat.le_of_ble_eq_true rfl) ?_
  intro p e s m below meth c A ls Q R F hRm hr hlocks hP hD hS hl hQ
  subst hRm
  have F : zF p m c cX9_needlessSigns 2 s (([.ref a_this, .int x1] : List Value)).toArray RX9 g A := F
  have hx := F.1.1
  have hb := F.1.2.1
  have hz := F.1.2.2.2.2
  have hl : lv_has ls 2 [(0, .ref a_this), (1, .int x1)] := hl
  unfold f_X9_needlessSigns at h
  refine lv_aload_n hx hb dX9_needlessSigns_0 rfl (lv_at hl 0 rfl) ?_
  refine lv_iload_n hx hb dX9_needlessSigns_1 rfl (lv_at hl 1 rfl) ?_
  obtain ⟨r1_, hr1_, h⟩ := z_subL h
  refine zRV F (k_X9_requireMeasure l N g a_this a_score a_history a_text a_sentence a_reader a_sounds a_playing a_score_cells v_score_size x1 _ hr1_) zy_X9_requireMeasure zw_534 hP hD hS [0, 1] rfl rfl (q0 := 0) (he := rfl) (hc := rfl) (rest := []) rfl hl.1 rfl (Nat.le_of_ble_eq_true rfl) ⟨rfl, rfl⟩ ⟨Nat.le_of_ble_eq_true rfl, Nat.le_of_ble_eq_true rfl⟩ ⟨Nat.zero_le _, Nat.zero_le _⟩ dX9_needlessSigns_2 (st1 := []) rfl ?_
  refine lv_aload_n hx hb dX9_needlessSigns_5 rfl (lv_at hl 0 rfl) ?_
  refine z_get (C := RX9) (T := TX9) (N := 7) (ci := 7) F zu_wsX90 hP 0 rfl rfl 5 (by decide) zw_493 rfl dX9_needlessSigns_6 ?_
  refine lv_iload_n hx hb dX9_needlessSigns_9 rfl (lv_at hl 1 rfl) ?_
  obtain ⟨r2_, hr2_, h⟩ := z_bind h
  refine zRV F (k_X6_signsWithoutEffect l N g a_sounds a_score a_sounds_shifts a_sounds_heldTicks a_score_cells v_score_size v_sounds_shifts v_score_cells x1 _ hr2_) zy_X6_signsWithoutEffect zw_686 hP hD hS [2, 1, 4, 3] rfl rfl (q0 := 2) (he := rfl) (hc := rfl) (rest := []) rfl hl.1 rfl (Nat.le_of_ble_eq_true rfl) ⟨rfl, rfl⟩ ⟨Nat.le_of_ble_eq_true rfl, Nat.le_of_ble_eq_true rfl⟩ ⟨Nat.zero_le _, Nat.zero_le _⟩ dX9_needlessSigns_10 (st1 := [.int r2_]) rfl ?_
  obtain rfl := Sum.inl.inj (Option.some.inj h)
  exact zR_i F hr hlocks hQ dX9_needlessSigns_13
abbrev rx_X9_needlessSigns : Room := { frames := 7, cells := 1, slots := 6, locals := 126 }
set_option maxHeartbeats 4000000 in
set_option maxRecDepth 100000 in
theorem kx_X9_needlessSigns (l : Launch) (N : Nat) (g : zEnv) (a_this a_score a_history a_text a_sentence a_reader a_sounds a_playing a_score_cells a_sounds_shifts a_sounds_heldTicks : Nat) (v_score_size : Int32) (v_score_cells : Nat → Int32) (v_sounds_shifts : Nat → Int32) (x1 : Int32) (r : Nat) (h : f_X9_needlessSigns N v_score_size v_score_cells v_sounds_shifts x1 = some (Sum.inr r)) (hfl : l.stackTraces = false) : ZE l yX9_needlessSigns cX9_needlessSigns 2 (some .int) rx_X9_needlessSigns g [.ref a_this, .int x1] [zo_X9 a_this a_score a_history a_text a_sentence a_reader a_sounds a_playing, zo_X4 a_score a_score_cells v_score_size, zo_X6 a_sounds a_score a_sounds_shifts a_sounds_heldTicks, (a_score_cells, .inl (zI g, 912, .inl v_score_cells)), (a_sounds_shifts, .inl (zI g, 768, .inl v_sounds_shifts))] [zo_X9 a_this a_score a_history a_text a_sentence a_reader a_sounds a_playing, zo_X4 a_score a_score_cells v_score_size, zo_X6 a_sounds a_score a_sounds_shifts a_sounds_heldTicks, (a_score_cells, .inl (zI g, 912, .inl v_score_cells)), (a_sounds_shifts, .inl (zI g, 768, .inl v_sounds_shifts))] r := by
  refine zE_of (by decide) (Nat.le_of_ble_eq_true rfl) ?_
  intro p e s m below meth c A H locs ls Q R F hRm hlocks hN htab hP hD hS hl hQ
  subst hRm
  have F : zF p m c cX9_needlessSigns 2 s (([.ref a_this, .int x1] : List Value)).toArray RX9 g A := F
  have hx := F.1.1
  have hb := F.1.2.1
  have hz := F.1.2.2.2.2
  have hl : lv_has ls 2 [(0, .ref a_this), (1, .int x1)] := hl
  unfold f_X9_needlessSigns at h
  refine lv_aload_n hx hb dX9_needlessSigns_0 rfl (lv_at hl 0 rfl) ?_
  refine lv_iload_n hx hb dX9_needlessSigns_1 rfl (lv_at hl 1 rfl) ?_
  refine z_subR h (fun h => ?_) (fun r1_ hr1_ h => ?_)
  · exact zXV F (kx_X9_requireMeasure l N g a_this a_score a_history a_text a_sentence a_reader a_sounds a_playing a_score_cells v_score_size x1 _ h hfl) hN zy_X9_requireMeasure zw_534 hP hD hS [0, 1] [2, 3, 4] [3, 4, 0, 1, 2] (wr := [zo_X6 a_sounds a_score a_sounds_shifts a_sounds_heldTicks, (a_score_cells, .inl (zI g, 912, .inl v_score_cells)), (a_sounds_shifts, .inl (zI g, 768, .inl v_sounds_shifts))]) (W1 := [zo_X9 a_this a_score a_history a_text a_sentence a_reader a_sounds a_playing, zo_X4 a_score a_score_cells v_score_size, zo_X6 a_sounds a_score a_sounds_shifts a_sounds_heldTicks, (a_score_cells, .inl (zI g, 912, .inl v_score_cells)), (a_sounds_shifts, .inl (zI g, 768, .inl v_sounds_shifts))]) rfl rfl rfl rfl (by decide) rfl rfl (q0 := 0) (he := rfl) (hc := rfl) (rest := []) rfl hl.1 rfl (Nat.le_of_ble_eq_true rfl) ⟨rfl, rfl⟩ ⟨Nat.le_of_ble_eq_true rfl, Nat.le_of_ble_eq_true rfl⟩ ⟨Nat.le_of_ble_eq_true rfl, Nat.le_of_ble_eq_true rfl⟩ dX9_needlessSigns_2 htab hlocks hQ
  refine zRV F (k_X9_requireMeasure l N g a_this a_score a_history a_text a_sentence a_reader a_sounds a_playing a_score_cells v_score_size x1 _ hr1_) zy_X9_requireMeasure zw_534 hP hD hS [0, 1] rfl rfl (q0 := 0) (he := rfl) (hc := rfl) (rest := []) rfl hl.1 rfl (Nat.le_of_ble_eq_true rfl) ⟨rfl, rfl⟩ ⟨Nat.le_of_ble_eq_true rfl, Nat.le_of_ble_eq_true rfl⟩ ⟨Nat.zero_le _, Nat.zero_le _⟩ dX9_needlessSigns_2 (st1 := []) rfl ?_
  refine lv_aload_n hx hb dX9_needlessSigns_5 rfl (lv_at hl 0 rfl) ?_
  refine z_get (C := RX9) (T := TX9) (N := 7) (ci := 7) F zu_wsX90 hP 0 rfl rfl 5 (by decide) zw_493 rfl dX9_needlessSigns_6 ?_
  refine lv_iload_n hx hb dX9_needlessSigns_9 rfl (lv_at hl 1 rfl) ?_
  obtain ⟨r2_, hr2_, h⟩ := z_bind h
  refine zRV F (k_X6_signsWithoutEffect l N g a_sounds a_score a_sounds_shifts a_sounds_heldTicks a_score_cells v_score_size v_sounds_shifts v_score_cells x1 _ hr2_) zy_X6_signsWithoutEffect zw_686 hP hD hS [2, 1, 4, 3] rfl rfl (q0 := 2) (he := rfl) (hc := rfl) (rest := []) rfl hl.1 rfl (Nat.le_of_ble_eq_true rfl) ⟨rfl, rfl⟩ ⟨Nat.le_of_ble_eq_true rfl, Nat.le_of_ble_eq_true rfl⟩ ⟨Nat.zero_le _, Nat.zero_le _⟩ dX9_needlessSigns_10 (st1 := [.int r2_]) rfl ?_
  cases h
def f_X1_size (N : Nat) (v_size : Int32) : Option Int32 :=
  some v_size
abbrev rm_X1_size : Room := { frames := 0, cells := 0, slots := 0, locals := 0 }
theorem zy_X1_size : zYv yX1_size RX1 cX1_size 1 (some .int) 0 := ⟨zw_691, zw_692, zw_50, zw_34, ⟨by decide, by decide⟩, by decide +kernel⟩
set_option maxHeartbeats 4000000 in
set_option maxRecDepth 100000 in
theorem k_X1_size (l : Launch) (N : Nat) (g : zEnv) (a_this a_saved a_s0 a_s1 a_s2 a_s3 : Nat) (v_next : Int32) (v_size : Int32) (r : Int32) (h : f_X1_size N v_size = some r) : ZR l yX1_size cX1_size 1 (some .int) rm_X1_size g [.ref a_this] [zo_X1 a_this a_saved v_size v_next] (some (.int r)) := by
  refine zR_of (by decide) (Nat.le_of_ble_eq_true rfl) ?_
  intro p e s m below meth c A ls Q R F hRm hr hlocks hP hD hS hl hQ
  subst hRm
  have F : zF p m c cX1_size 1 s (([.ref a_this] : List Value)).toArray RX1 g A := F
  have hx := F.1.1
  have hb := F.1.2.1
  have hz := F.1.2.2.2.2
  have hl : lv_has ls 1 [(0, .ref a_this)] := hl
  unfold f_X1_size at h
  refine lv_aload_n hx hb dX1_size_0 rfl (lv_at hl 0 rfl) ?_
  refine z_get (C := RX1) (T := TX1) (N := 3) (ci := 0) F zu_wsX10 hP 0 rfl rfl 1 (by decide) zw_33 rfl dX1_size_1 ?_
  obtain rfl := Option.some.inj h
  exact zR_i F hr hlocks hQ dX1_size_4
def f_X1_popInto (N : Nat) (v_next : Int32) (v_size : Int32) (v_s0_size : Int32) (v_s1_size : Int32) (v_s2_size : Int32) (v_s3_size : Int32) (v_s0_cells : Nat → Int32) (v_s1_cells : Nat → Int32) (v_s2_cells : Nat → Int32) (v_s3_cells : Nat → Int32) (v_p1_size : Int32) (v_p1_cells : Nat → Int32) : Option (Int32 × Int32 × Int32 × (Nat → Int32)) :=
  Option.bind (zRem ((v_next + 4) - 1) 4) (fun (x1_ : Int32) => if x1_ = 0 then if 0 < v_size then Option.bind (f_X4_copyFrom N v_p1_size v_p1_cells v_s0_size v_s0_cells) (fun (r2_ : Int32 × (Nat → Int32)) => Option.bind (some (v_size - 1)) (fun (x3_ : Int32) => some (x1_, x3_, r2_.1, r2_.2))) else some (v_next, v_size, v_p1_size, v_p1_cells) else if x1_ = 1 then if 0 < v_size then Option.bind (f_X4_copyFrom N v_p1_size v_p1_cells v_s1_size v_s1_cells) (fun (r4_ : Int32 × (Nat → Int32)) => Option.bind (some (v_size - 1)) (fun (x5_ : Int32) => some (x1_, x5_, r4_.1, r4_.2))) else some (v_next, v_size, v_p1_size, v_p1_cells) else if x1_ = 2 then if 0 < v_size then Option.bind (f_X4_copyFrom N v_p1_size v_p1_cells v_s2_size v_s2_cells) (fun (r6_ : Int32 × (Nat → Int32)) => Option.bind (some (v_size - 1)) (fun (x7_ : Int32) => some (x1_, x7_, r6_.1, r6_.2))) else some (v_next, v_size, v_p1_size, v_p1_cells) else if x1_ = 3 then if 0 < v_size then Option.bind (f_X4_copyFrom N v_p1_size v_p1_cells v_s3_size v_s3_cells) (fun (r8_ : Int32 × (Nat → Int32)) => Option.bind (some (v_size - 1)) (fun (x9_ : Int32) => some (x1_, x9_, r8_.1, r8_.2))) else some (v_next, v_size, v_p1_size, v_p1_cells) else none)
abbrev rm_X1_popInto : Room := { frames := 2, cells := 0, slots := 0, locals := 89 }
theorem zy_X1_popInto : zYv yX1_popInto RX1 cX1_popInto 4 none 1 := ⟨zw_694, zw_695, zw_50, zw_55, ⟨by decide, by decide⟩, by decide +kernel⟩
set_option maxHeartbeats 4000000 in
set_option maxRecDepth 100000 in
theorem k_X1_popInto (l : Launch) (N : Nat) (g : zEnv) (a_this a_saved a_s0 a_s1 a_s2 a_s3 a_s0_cells a_s1_cells a_s2_cells a_s3_cells a_p1 a_p1_cells : Nat) (v_next : Int32) (v_size : Int32) (v_s0_size : Int32) (v_s1_size : Int32) (v_s2_size : Int32) (v_s3_size : Int32) (v_s0_cells : Nat → Int32) (v_s1_cells : Nat → Int32) (v_s2_cells : Nat → Int32) (v_s3_cells : Nat → Int32) (v_p1_size : Int32) (v_p1_cells : Nat → Int32) (r : Int32 × Int32 × Int32 × (Nat → Int32)) (h : f_X1_popInto N v_next v_size v_s0_size v_s1_size v_s2_size v_s3_size v_s0_cells v_s1_cells v_s2_cells v_s3_cells v_p1_size v_p1_cells = some r) : ZV l yX1_popInto cX1_popInto 4 none rm_X1_popInto g [.ref a_this, .ref a_p1] [zo_X1 a_this a_saved v_size v_next, zo_X4 a_s0 a_s0_cells v_s0_size, zo_X4 a_s1 a_s1_cells v_s1_size, zo_X4 a_s2 a_s2_cells v_s2_size, zo_X4 a_s3 a_s3_cells v_s3_size, (a_saved, .inl (zO g, 4, .inr (.inr (.inr (.inr (zSv a_s0 a_s1 a_s2 a_s3)))))), (a_s0_cells, .inl (zI g, 912, .inl v_s0_cells)), (a_s1_cells, .inl (zI g, 912, .inl v_s1_cells)), (a_s2_cells, .inl (zI g, 912, .inl v_s2_cells)), (a_s3_cells, .inl (zI g, 912, .inl v_s3_cells)), zo_X4 a_p1 a_p1_cells v_p1_size, (a_p1_cells, .inl (zI g, 912, .inl v_p1_cells))] [zo_X1 a_this a_saved r.2.1 r.1, zo_X4 a_s0 a_s0_cells v_s0_size, zo_X4 a_s1 a_s1_cells v_s1_size, zo_X4 a_s2 a_s2_cells v_s2_size, zo_X4 a_s3 a_s3_cells v_s3_size, (a_saved, .inl (zO g, 4, .inr (.inr (.inr (.inr (zSv a_s0 a_s1 a_s2 a_s3)))))), (a_s0_cells, .inl (zI g, 912, .inl v_s0_cells)), (a_s1_cells, .inl (zI g, 912, .inl v_s1_cells)), (a_s2_cells, .inl (zI g, 912, .inl v_s2_cells)), (a_s3_cells, .inl (zI g, 912, .inl v_s3_cells)), zo_X4 a_p1 a_p1_cells r.2.2.1, (a_p1_cells, .inl (zI g, 912, .inl r.2.2.2))] none := by
  refine zV_of (by decide) (Nat.le_of_ble_eq_true rfl) ?_
  intro p e s m below meth c A H locs ls Q R F hRm hr hlocks hP hD hS hl hQ
  subst hRm
  have F : zF p m c cX1_popInto 4 s (([.ref a_this, .ref a_p1] : List Value)).toArray RX1 g A := F
  have hx := F.1.1
  have hb := F.1.2.1
  have hz := F.1.2.2.2.2
  have hl : lv_has ls 4 [(0, .ref a_this), (1, .ref a_p1)] := hl
  unfold f_X1_popInto at h
  refine lv_aload_n hx hb dX1_popInto_0 rfl (lv_at hl 0 rfl) ?_
  refine z_get (C := RX1) (T := TX1) (N := 3) (ci := 0) F zu_wsX10 hP 0 rfl rfl 2 (by decide) zw_42 rfl dX1_popInto_1 ?_
  refine lv_iconst (v := 4) hx hb dX1_popInto_4 (by decide) ?_
  refine lv_iadd hx hb dX1_popInto_5 ?_
  refine lv_iconst (v := 1) hx hb dX1_popInto_6 (by decide) ?_
  refine lv_isub hx hb dX1_popInto_7 ?_
  refine lv_iconst (v := 4) hx hb dX1_popInto_8 (by decide) ?_
  refine z_rem hx hb dX1_popInto_9 h (fun x1_ h => ?_)
  refine lv_istore_n (lv' := [(2, .int x1_), (0, .ref a_this), (1, .ref a_p1)]) hx hb dX1_popInto_10 rfl hl (by decide) rfl (fun ls hl => ?_)
  refine lv_aload_n hx hb dX1_popInto_11 rfl (lv_at hl 1 rfl) ?_
  refine lv_iload_n hx hb dX1_popInto_12 rfl (lv_at hl 0 rfl) ?_
  by_cases c13_0_ : x1_ = 0
  · rw [if_pos c13_0_] at h
    refine zRV F (k_X1_place0 l g a_this a_saved a_s0 a_s1 a_s2 a_s3 v_size v_next x1_ c13_0_) zy_X1_place zw_47 hP hD hS [0, 5] rfl rfl (q0 := 0) (he := rfl) (hc := rfl) (rest := []) rfl hl.1 rfl (Nat.le_of_ble_eq_true rfl) ⟨rfl, rfl⟩ ⟨Nat.le_of_ble_eq_true rfl, Nat.le_of_ble_eq_true rfl⟩ ⟨Nat.zero_le _, Nat.zero_le _⟩ dX1_popInto_13 (st1 := [.ref a_s0]) rfl ?_
    refine lv_astore_n (lv' := [(3, .ref a_s0), (2, .int x1_), (0, .ref a_this), (1, .ref a_p1)]) hx hb dX1_popInto_16 rfl hl (by decide) rfl (fun ls hl => ?_)
    refine lv_aload_n hx hb dX1_popInto_17 rfl (lv_at hl 2 rfl) ?_
    refine z_get (C := RX1) (T := TX1) (N := 3) (ci := 0) F zu_wsX10 hP 0 rfl rfl 1 (by decide) zw_33 rfl dX1_popInto_18 ?_
    refine z_le (tgt := 48) hx hb dX1_popInto_21 (by decide) h (fun h => ?_) (fun h => ?_)
    · obtain rfl := Option.some.inj h
      exact zV_v F hr hlocks hQ hP hD hS dX1_popInto_48
    · refine lv_aload_n hx hb dX1_popInto_24 rfl (lv_at hl 0 rfl) ?_
      refine lv_ifnull hx hb dX1_popInto_25 ?_
      refine lv_aload_n hx hb dX1_popInto_28 rfl (lv_at hl 3 rfl) ?_
      refine lv_aload_n hx hb dX1_popInto_29 rfl (lv_at hl 0 rfl) ?_
      obtain ⟨r2_, hr2_, h⟩ := z_bind h
      refine zVV F (k_X4_copyFrom l N g a_p1 a_p1_cells a_s0 a_s0_cells v_p1_size v_p1_cells v_s0_size v_s0_cells _ hr2_) zy_X4_copyFrom zw_51 hP hD hS [10, 11, 1, 6] [0, 2, 3, 4, 5, 7, 8, 9] [0, 10, 1, 2, 3, 4, 11, 5, 6, 7, 8, 9] (wr := [zo_X1 a_this a_saved v_size v_next, zo_X4 a_s1 a_s1_cells v_s1_size, zo_X4 a_s2 a_s2_cells v_s2_size, zo_X4 a_s3 a_s3_cells v_s3_size, (a_saved, .inl (zO g, 4, .inr (.inr (.inr (.inr (zSv a_s0 a_s1 a_s2 a_s3)))))), (a_s1_cells, .inl (zI g, 912, .inl v_s1_cells)), (a_s2_cells, .inl (zI g, 912, .inl v_s2_cells)), (a_s3_cells, .inl (zI g, 912, .inl v_s3_cells))]) (W1 := [zo_X1 a_this a_saved v_size v_next, zo_X4 a_s0 a_s0_cells v_s0_size, zo_X4 a_s1 a_s1_cells v_s1_size, zo_X4 a_s2 a_s2_cells v_s2_size, zo_X4 a_s3 a_s3_cells v_s3_size, (a_saved, .inl (zO g, 4, .inr (.inr (.inr (.inr (zSv a_s0 a_s1 a_s2 a_s3)))))), (a_s0_cells, .inl (zI g, 912, .inl v_s0_cells)), (a_s1_cells, .inl (zI g, 912, .inl v_s1_cells)), (a_s2_cells, .inl (zI g, 912, .inl v_s2_cells)), (a_s3_cells, .inl (zI g, 912, .inl v_s3_cells)), zo_X4 a_p1 a_p1_cells r2_.1, (a_p1_cells, .inl (zI g, 912, .inl r2_.2))]) rfl rfl rfl rfl (by decide) rfl rfl (q0 := 10) (he := rfl) (hc := rfl) (rest := []) rfl hl.1 rfl (Nat.le_of_ble_eq_true rfl) ⟨rfl, rfl⟩ ⟨Nat.le_of_ble_eq_true rfl, Nat.le_of_ble_eq_true rfl⟩ ⟨Nat.zero_le _, Nat.zero_le _⟩ dX1_popInto_30 (st1 := []) rfl (fun H locs hP hD hS => ?_)
      refine lv_aload_n hx hb dX1_popInto_33 rfl (lv_at hl 2 rfl) ?_
      refine lv_iload_n hx hb dX1_popInto_34 rfl (lv_at hl 1 rfl) ?_
      refine z_put (C := RX1) (T := TX1) (N := 3) (ci := 0) (W1 := [zo_X1 a_this a_saved v_size x1_, zo_X4 a_s0 a_s0_cells v_s0_size, zo_X4 a_s1 a_s1_cells v_s1_size, zo_X4 a_s2 a_s2_cells v_s2_size, zo_X4 a_s3 a_s3_cells v_s3_size, (a_saved, .inl (zO g, 4, .inr (.inr (.inr (.inr (zSv a_s0 a_s1 a_s2 a_s3)))))), (a_s0_cells, .inl (zI g, 912, .inl v_s0_cells)), (a_s1_cells, .inl (zI g, 912, .inl v_s1_cells)), (a_s2_cells, .inl (zI g, 912, .inl v_s2_cells)), (a_s3_cells, .inl (zI g, 912, .inl v_s3_cells)), zo_X4 a_p1 a_p1_cells r2_.1, (a_p1_cells, .inl (zI g, 912, .inl r2_.2))]) F zu_wsX10 tyX1 tyX1_ok nmX1 hP hD hS 0 rfl rfl 2 (by decide) zw_42 rfl rfl rfl (Nat.le_of_ble_eq_true rfl) dX1_popInto_35 rfl (fun H locs hP hD hS => ?_)
      refine lv_aload_n hx hb dX1_popInto_38 rfl (lv_at hl 2 rfl) ?_
      refine lv_dup hx hb dX1_popInto_39 rfl ?_
      refine z_get (C := RX1) (T := TX1) (N := 3) (ci := 0) F zu_wsX10 hP 0 rfl rfl 1 (by decide) zw_33 rfl dX1_popInto_40 ?_
      refine lv_iconst (v := 1) hx hb dX1_popInto_43 (by decide) ?_
      refine lv_isub hx hb dX1_popInto_44 ?_
      refine z_top Value.int h (fun x3_ h => ?_)
      refine z_put (C := RX1) (T := TX1) (N := 3) (ci := 0) (W1 := [zo_X1 a_this a_saved x3_ x1_, zo_X4 a_s0 a_s0_cells v_s0_size, zo_X4 a_s1 a_s1_cells v_s1_size, zo_X4 a_s2 a_s2_cells v_s2_size, zo_X4 a_s3 a_s3_cells v_s3_size, (a_saved, .inl (zO g, 4, .inr (.inr (.inr (.inr (zSv a_s0 a_s1 a_s2 a_s3)))))), (a_s0_cells, .inl (zI g, 912, .inl v_s0_cells)), (a_s1_cells, .inl (zI g, 912, .inl v_s1_cells)), (a_s2_cells, .inl (zI g, 912, .inl v_s2_cells)), (a_s3_cells, .inl (zI g, 912, .inl v_s3_cells)), zo_X4 a_p1 a_p1_cells r2_.1, (a_p1_cells, .inl (zI g, 912, .inl r2_.2))]) F zu_wsX10 tyX1 tyX1_ok nmX1 hP hD hS 0 rfl rfl 1 (by decide) zw_33 rfl rfl rfl (Nat.le_of_ble_eq_true rfl) dX1_popInto_45 rfl (fun H locs hP hD hS => ?_)
      obtain rfl := Option.some.inj h
      exact zV_v F hr hlocks hQ hP hD hS dX1_popInto_48
  rw [if_neg c13_0_] at h
  by_cases c13_1_ : x1_ = 1
  · rw [if_pos c13_1_] at h
    refine zRV F (k_X1_place1 l g a_this a_saved a_s0 a_s1 a_s2 a_s3 v_size v_next x1_ c13_1_) zy_X1_place zw_47 hP hD hS [0, 5] rfl rfl (q0 := 0) (he := rfl) (hc := rfl) (rest := []) rfl hl.1 rfl (Nat.le_of_ble_eq_true rfl) ⟨rfl, rfl⟩ ⟨Nat.le_of_ble_eq_true rfl, Nat.le_of_ble_eq_true rfl⟩ ⟨Nat.zero_le _, Nat.zero_le _⟩ dX1_popInto_13 (st1 := [.ref a_s1]) rfl ?_
    refine lv_astore_n (lv' := [(3, .ref a_s1), (2, .int x1_), (0, .ref a_this), (1, .ref a_p1)]) hx hb dX1_popInto_16 rfl hl (by decide) rfl (fun ls hl => ?_)
    refine lv_aload_n hx hb dX1_popInto_17 rfl (lv_at hl 2 rfl) ?_
    refine z_get (C := RX1) (T := TX1) (N := 3) (ci := 0) F zu_wsX10 hP 0 rfl rfl 1 (by decide) zw_33 rfl dX1_popInto_18 ?_
    refine z_le (tgt := 48) hx hb dX1_popInto_21 (by decide) h (fun h => ?_) (fun h => ?_)
    · obtain rfl := Option.some.inj h
      exact zV_v F hr hlocks hQ hP hD hS dX1_popInto_48
    · refine lv_aload_n hx hb dX1_popInto_24 rfl (lv_at hl 0 rfl) ?_
      refine lv_ifnull hx hb dX1_popInto_25 ?_
      refine lv_aload_n hx hb dX1_popInto_28 rfl (lv_at hl 3 rfl) ?_
      refine lv_aload_n hx hb dX1_popInto_29 rfl (lv_at hl 0 rfl) ?_
      obtain ⟨r4_, hr4_, h⟩ := z_bind h
      refine zVV F (k_X4_copyFrom l N g a_p1 a_p1_cells a_s1 a_s1_cells v_p1_size v_p1_cells v_s1_size v_s1_cells _ hr4_) zy_X4_copyFrom zw_51 hP hD hS [10, 11, 2, 7] [0, 1, 3, 4, 5, 6, 8, 9] [0, 1, 10, 2, 3, 4, 5, 11, 6, 7, 8, 9] (wr := [zo_X1 a_this a_saved v_size v_next, zo_X4 a_s0 a_s0_cells v_s0_size, zo_X4 a_s2 a_s2_cells v_s2_size, zo_X4 a_s3 a_s3_cells v_s3_size, (a_saved, .inl (zO g, 4, .inr (.inr (.inr (.inr (zSv a_s0 a_s1 a_s2 a_s3)))))), (a_s0_cells, .inl (zI g, 912, .inl v_s0_cells)), (a_s2_cells, .inl (zI g, 912, .inl v_s2_cells)), (a_s3_cells, .inl (zI g, 912, .inl v_s3_cells))]) (W1 := [zo_X1 a_this a_saved v_size v_next, zo_X4 a_s0 a_s0_cells v_s0_size, zo_X4 a_s1 a_s1_cells v_s1_size, zo_X4 a_s2 a_s2_cells v_s2_size, zo_X4 a_s3 a_s3_cells v_s3_size, (a_saved, .inl (zO g, 4, .inr (.inr (.inr (.inr (zSv a_s0 a_s1 a_s2 a_s3)))))), (a_s0_cells, .inl (zI g, 912, .inl v_s0_cells)), (a_s1_cells, .inl (zI g, 912, .inl v_s1_cells)), (a_s2_cells, .inl (zI g, 912, .inl v_s2_cells)), (a_s3_cells, .inl (zI g, 912, .inl v_s3_cells)), zo_X4 a_p1 a_p1_cells r4_.1, (a_p1_cells, .inl (zI g, 912, .inl r4_.2))]) rfl rfl rfl rfl (by decide) rfl rfl (q0 := 10) (he := rfl) (hc := rfl) (rest := []) rfl hl.1 rfl (Nat.le_of_ble_eq_true rfl) ⟨rfl, rfl⟩ ⟨Nat.le_of_ble_eq_true rfl, Nat.le_of_ble_eq_true rfl⟩ ⟨Nat.zero_le _, Nat.zero_le _⟩ dX1_popInto_30 (st1 := []) rfl (fun H locs hP hD hS => ?_)
      refine lv_aload_n hx hb dX1_popInto_33 rfl (lv_at hl 2 rfl) ?_
      refine lv_iload_n hx hb dX1_popInto_34 rfl (lv_at hl 1 rfl) ?_
      refine z_put (C := RX1) (T := TX1) (N := 3) (ci := 0) (W1 := [zo_X1 a_this a_saved v_size x1_, zo_X4 a_s0 a_s0_cells v_s0_size, zo_X4 a_s1 a_s1_cells v_s1_size, zo_X4 a_s2 a_s2_cells v_s2_size, zo_X4 a_s3 a_s3_cells v_s3_size, (a_saved, .inl (zO g, 4, .inr (.inr (.inr (.inr (zSv a_s0 a_s1 a_s2 a_s3)))))), (a_s0_cells, .inl (zI g, 912, .inl v_s0_cells)), (a_s1_cells, .inl (zI g, 912, .inl v_s1_cells)), (a_s2_cells, .inl (zI g, 912, .inl v_s2_cells)), (a_s3_cells, .inl (zI g, 912, .inl v_s3_cells)), zo_X4 a_p1 a_p1_cells r4_.1, (a_p1_cells, .inl (zI g, 912, .inl r4_.2))]) F zu_wsX10 tyX1 tyX1_ok nmX1 hP hD hS 0 rfl rfl 2 (by decide) zw_42 rfl rfl rfl (Nat.le_of_ble_eq_true rfl) dX1_popInto_35 rfl (fun H locs hP hD hS => ?_)
      refine lv_aload_n hx hb dX1_popInto_38 rfl (lv_at hl 2 rfl) ?_
      refine lv_dup hx hb dX1_popInto_39 rfl ?_
      refine z_get (C := RX1) (T := TX1) (N := 3) (ci := 0) F zu_wsX10 hP 0 rfl rfl 1 (by decide) zw_33 rfl dX1_popInto_40 ?_
      refine lv_iconst (v := 1) hx hb dX1_popInto_43 (by decide) ?_
      refine lv_isub hx hb dX1_popInto_44 ?_
      refine z_top Value.int h (fun x5_ h => ?_)
      refine z_put (C := RX1) (T := TX1) (N := 3) (ci := 0) (W1 := [zo_X1 a_this a_saved x5_ x1_, zo_X4 a_s0 a_s0_cells v_s0_size, zo_X4 a_s1 a_s1_cells v_s1_size, zo_X4 a_s2 a_s2_cells v_s2_size, zo_X4 a_s3 a_s3_cells v_s3_size, (a_saved, .inl (zO g, 4, .inr (.inr (.inr (.inr (zSv a_s0 a_s1 a_s2 a_s3)))))), (a_s0_cells, .inl (zI g, 912, .inl v_s0_cells)), (a_s1_cells, .inl (zI g, 912, .inl v_s1_cells)), (a_s2_cells, .inl (zI g, 912, .inl v_s2_cells)), (a_s3_cells, .inl (zI g, 912, .inl v_s3_cells)), zo_X4 a_p1 a_p1_cells r4_.1, (a_p1_cells, .inl (zI g, 912, .inl r4_.2))]) F zu_wsX10 tyX1 tyX1_ok nmX1 hP hD hS 0 rfl rfl 1 (by decide) zw_33 rfl rfl rfl (Nat.le_of_ble_eq_true rfl) dX1_popInto_45 rfl (fun H locs hP hD hS => ?_)
      obtain rfl := Option.some.inj h
      exact zV_v F hr hlocks hQ hP hD hS dX1_popInto_48
  rw [if_neg c13_1_] at h
  by_cases c13_2_ : x1_ = 2
  · rw [if_pos c13_2_] at h
    refine zRV F (k_X1_place2 l g a_this a_saved a_s0 a_s1 a_s2 a_s3 v_size v_next x1_ c13_2_) zy_X1_place zw_47 hP hD hS [0, 5] rfl rfl (q0 := 0) (he := rfl) (hc := rfl) (rest := []) rfl hl.1 rfl (Nat.le_of_ble_eq_true rfl) ⟨rfl, rfl⟩ ⟨Nat.le_of_ble_eq_true rfl, Nat.le_of_ble_eq_true rfl⟩ ⟨Nat.zero_le _, Nat.zero_le _⟩ dX1_popInto_13 (st1 := [.ref a_s2]) rfl ?_
    refine lv_astore_n (lv' := [(3, .ref a_s2), (2, .int x1_), (0, .ref a_this), (1, .ref a_p1)]) hx hb dX1_popInto_16 rfl hl (by decide) rfl (fun ls hl => ?_)
    refine lv_aload_n hx hb dX1_popInto_17 rfl (lv_at hl 2 rfl) ?_
    refine z_get (C := RX1) (T := TX1) (N := 3) (ci := 0) F zu_wsX10 hP 0 rfl rfl 1 (by decide) zw_33 rfl dX1_popInto_18 ?_
    refine z_le (tgt := 48) hx hb dX1_popInto_21 (by decide) h (fun h => ?_) (fun h => ?_)
    · obtain rfl := Option.some.inj h
      exact zV_v F hr hlocks hQ hP hD hS dX1_popInto_48
    · refine lv_aload_n hx hb dX1_popInto_24 rfl (lv_at hl 0 rfl) ?_
      refine lv_ifnull hx hb dX1_popInto_25 ?_
      refine lv_aload_n hx hb dX1_popInto_28 rfl (lv_at hl 3 rfl) ?_
      refine lv_aload_n hx hb dX1_popInto_29 rfl (lv_at hl 0 rfl) ?_
      obtain ⟨r6_, hr6_, h⟩ := z_bind h
      refine zVV F (k_X4_copyFrom l N g a_p1 a_p1_cells a_s2 a_s2_cells v_p1_size v_p1_cells v_s2_size v_s2_cells _ hr6_) zy_X4_copyFrom zw_51 hP hD hS [10, 11, 3, 8] [0, 1, 2, 4, 5, 6, 7, 9] [0, 1, 2, 10, 3, 4, 5, 6, 11, 7, 8, 9] (wr := [zo_X1 a_this a_saved v_size v_next, zo_X4 a_s0 a_s0_cells v_s0_size, zo_X4 a_s1 a_s1_cells v_s1_size, zo_X4 a_s3 a_s3_cells v_s3_size, (a_saved, .inl (zO g, 4, .inr (.inr (.inr (.inr (zSv a_s0 a_s1 a_s2 a_s3)))))), (a_s0_cells, .inl (zI g, 912, .inl v_s0_cells)), (a_s1_cells, .inl (zI g, 912, .inl v_s1_cells)), (a_s3_cells, .inl (zI g, 912, .inl v_s3_cells))]) (W1 := [zo_X1 a_this a_saved v_size v_next, zo_X4 a_s0 a_s0_cells v_s0_size, zo_X4 a_s1 a_s1_cells v_s1_size, zo_X4 a_s2 a_s2_cells v_s2_size, zo_X4 a_s3 a_s3_cells v_s3_size, (a_saved, .inl (zO g, 4, .inr (.inr (.inr (.inr (zSv a_s0 a_s1 a_s2 a_s3)))))), (a_s0_cells, .inl (zI g, 912, .inl v_s0_cells)), (a_s1_cells, .inl (zI g, 912, .inl v_s1_cells)), (a_s2_cells, .inl (zI g, 912, .inl v_s2_cells)), (a_s3_cells, .inl (zI g, 912, .inl v_s3_cells)), zo_X4 a_p1 a_p1_cells r6_.1, (a_p1_cells, .inl (zI g, 912, .inl r6_.2))]) rfl rfl rfl rfl (by decide) rfl rfl (q0 := 10) (he := rfl) (hc := rfl) (rest := []) rfl hl.1 rfl (Nat.le_of_ble_eq_true rfl) ⟨rfl, rfl⟩ ⟨Nat.le_of_ble_eq_true rfl, Nat.le_of_ble_eq_true rfl⟩ ⟨Nat.zero_le _, Nat.zero_le _⟩ dX1_popInto_30 (st1 := []) rfl (fun H locs hP hD hS => ?_)
      refine lv_aload_n hx hb dX1_popInto_33 rfl (lv_at hl 2 rfl) ?_
      refine lv_iload_n hx hb dX1_popInto_34 rfl (lv_at hl 1 rfl) ?_
      refine z_put (C := RX1) (T := TX1) (N := 3) (ci := 0) (W1 := [zo_X1 a_this a_saved v_size x1_, zo_X4 a_s0 a_s0_cells v_s0_size, zo_X4 a_s1 a_s1_cells v_s1_size, zo_X4 a_s2 a_s2_cells v_s2_size, zo_X4 a_s3 a_s3_cells v_s3_size, (a_saved, .inl (zO g, 4, .inr (.inr (.inr (.inr (zSv a_s0 a_s1 a_s2 a_s3)))))), (a_s0_cells, .inl (zI g, 912, .inl v_s0_cells)), (a_s1_cells, .inl (zI g, 912, .inl v_s1_cells)), (a_s2_cells, .inl (zI g, 912, .inl v_s2_cells)), (a_s3_cells, .inl (zI g, 912, .inl v_s3_cells)), zo_X4 a_p1 a_p1_cells r6_.1, (a_p1_cells, .inl (zI g, 912, .inl r6_.2))]) F zu_wsX10 tyX1 tyX1_ok nmX1 hP hD hS 0 rfl rfl 2 (by decide) zw_42 rfl rfl rfl (Nat.le_of_ble_eq_true rfl) dX1_popInto_35 rfl (fun H locs hP hD hS => ?_)
      refine lv_aload_n hx hb dX1_popInto_38 rfl (lv_at hl 2 rfl) ?_
      refine lv_dup hx hb dX1_popInto_39 rfl ?_
      refine z_get (C := RX1) (T := TX1) (N := 3) (ci := 0) F zu_wsX10 hP 0 rfl rfl 1 (by decide) zw_33 rfl dX1_popInto_40 ?_
      refine lv_iconst (v := 1) hx hb dX1_popInto_43 (by decide) ?_
      refine lv_isub hx hb dX1_popInto_44 ?_
      refine z_top Value.int h (fun x7_ h => ?_)
      refine z_put (C := RX1) (T := TX1) (N := 3) (ci := 0) (W1 := [zo_X1 a_this a_saved x7_ x1_, zo_X4 a_s0 a_s0_cells v_s0_size, zo_X4 a_s1 a_s1_cells v_s1_size, zo_X4 a_s2 a_s2_cells v_s2_size, zo_X4 a_s3 a_s3_cells v_s3_size, (a_saved, .inl (zO g, 4, .inr (.inr (.inr (.inr (zSv a_s0 a_s1 a_s2 a_s3)))))), (a_s0_cells, .inl (zI g, 912, .inl v_s0_cells)), (a_s1_cells, .inl (zI g, 912, .inl v_s1_cells)), (a_s2_cells, .inl (zI g, 912, .inl v_s2_cells)), (a_s3_cells, .inl (zI g, 912, .inl v_s3_cells)), zo_X4 a_p1 a_p1_cells r6_.1, (a_p1_cells, .inl (zI g, 912, .inl r6_.2))]) F zu_wsX10 tyX1 tyX1_ok nmX1 hP hD hS 0 rfl rfl 1 (by decide) zw_33 rfl rfl rfl (Nat.le_of_ble_eq_true rfl) dX1_popInto_45 rfl (fun H locs hP hD hS => ?_)
      obtain rfl := Option.some.inj h
      exact zV_v F hr hlocks hQ hP hD hS dX1_popInto_48
  rw [if_neg c13_2_] at h
  by_cases c13_3_ : x1_ = 3
  · rw [if_pos c13_3_] at h
    refine zRV F (k_X1_place3 l g a_this a_saved a_s0 a_s1 a_s2 a_s3 v_size v_next x1_ c13_3_) zy_X1_place zw_47 hP hD hS [0, 5] rfl rfl (q0 := 0) (he := rfl) (hc := rfl) (rest := []) rfl hl.1 rfl (Nat.le_of_ble_eq_true rfl) ⟨rfl, rfl⟩ ⟨Nat.le_of_ble_eq_true rfl, Nat.le_of_ble_eq_true rfl⟩ ⟨Nat.zero_le _, Nat.zero_le _⟩ dX1_popInto_13 (st1 := [.ref a_s3]) rfl ?_
    refine lv_astore_n (lv' := [(3, .ref a_s3), (2, .int x1_), (0, .ref a_this), (1, .ref a_p1)]) hx hb dX1_popInto_16 rfl hl (by decide) rfl (fun ls hl => ?_)
    refine lv_aload_n hx hb dX1_popInto_17 rfl (lv_at hl 2 rfl) ?_
    refine z_get (C := RX1) (T := TX1) (N := 3) (ci := 0) F zu_wsX10 hP 0 rfl rfl 1 (by decide) zw_33 rfl dX1_popInto_18 ?_
    refine z_le (tgt := 48) hx hb dX1_popInto_21 (by decide) h (fun h => ?_) (fun h => ?_)
    · obtain rfl := Option.some.inj h
      exact zV_v F hr hlocks hQ hP hD hS dX1_popInto_48
    · refine lv_aload_n hx hb dX1_popInto_24 rfl (lv_at hl 0 rfl) ?_
      refine lv_ifnull hx hb dX1_popInto_25 ?_
      refine lv_aload_n hx hb dX1_popInto_28 rfl (lv_at hl 3 rfl) ?_
      refine lv_aload_n hx hb dX1_popInto_29 rfl (lv_at hl 0 rfl) ?_
      obtain ⟨r8_, hr8_, h⟩ := z_bind h
      refine zVV F (k_X4_copyFrom l N g a_p1 a_p1_cells a_s3 a_s3_cells v_p1_size v_p1_cells v_s3_size v_s3_cells _ hr8_) zy_X4_copyFrom zw_51 hP hD hS [10, 11, 4, 9] [0, 1, 2, 3, 5, 6, 7, 8] [0, 1, 2, 3, 10, 4, 5, 6, 7, 11, 8, 9] (wr := [zo_X1 a_this a_saved v_size v_next, zo_X4 a_s0 a_s0_cells v_s0_size, zo_X4 a_s1 a_s1_cells v_s1_size, zo_X4 a_s2 a_s2_cells v_s2_size, (a_saved, .inl (zO g, 4, .inr (.inr (.inr (.inr (zSv a_s0 a_s1 a_s2 a_s3)))))), (a_s0_cells, .inl (zI g, 912, .inl v_s0_cells)), (a_s1_cells, .inl (zI g, 912, .inl v_s1_cells)), (a_s2_cells, .inl (zI g, 912, .inl v_s2_cells))]) (W1 := [zo_X1 a_this a_saved v_size v_next, zo_X4 a_s0 a_s0_cells v_s0_size, zo_X4 a_s1 a_s1_cells v_s1_size, zo_X4 a_s2 a_s2_cells v_s2_size, zo_X4 a_s3 a_s3_cells v_s3_size, (a_saved, .inl (zO g, 4, .inr (.inr (.inr (.inr (zSv a_s0 a_s1 a_s2 a_s3)))))), (a_s0_cells, .inl (zI g, 912, .inl v_s0_cells)), (a_s1_cells, .inl (zI g, 912, .inl v_s1_cells)), (a_s2_cells, .inl (zI g, 912, .inl v_s2_cells)), (a_s3_cells, .inl (zI g, 912, .inl v_s3_cells)), zo_X4 a_p1 a_p1_cells r8_.1, (a_p1_cells, .inl (zI g, 912, .inl r8_.2))]) rfl rfl rfl rfl (by decide) rfl rfl (q0 := 10) (he := rfl) (hc := rfl) (rest := []) rfl hl.1 rfl (Nat.le_of_ble_eq_true rfl) ⟨rfl, rfl⟩ ⟨Nat.le_of_ble_eq_true rfl, Nat.le_of_ble_eq_true rfl⟩ ⟨Nat.zero_le _, Nat.zero_le _⟩ dX1_popInto_30 (st1 := []) rfl (fun H locs hP hD hS => ?_)
      refine lv_aload_n hx hb dX1_popInto_33 rfl (lv_at hl 2 rfl) ?_
      refine lv_iload_n hx hb dX1_popInto_34 rfl (lv_at hl 1 rfl) ?_
      refine z_put (C := RX1) (T := TX1) (N := 3) (ci := 0) (W1 := [zo_X1 a_this a_saved v_size x1_, zo_X4 a_s0 a_s0_cells v_s0_size, zo_X4 a_s1 a_s1_cells v_s1_size, zo_X4 a_s2 a_s2_cells v_s2_size, zo_X4 a_s3 a_s3_cells v_s3_size, (a_saved, .inl (zO g, 4, .inr (.inr (.inr (.inr (zSv a_s0 a_s1 a_s2 a_s3)))))), (a_s0_cells, .inl (zI g, 912, .inl v_s0_cells)), (a_s1_cells, .inl (zI g, 912, .inl v_s1_cells)), (a_s2_cells, .inl (zI g, 912, .inl v_s2_cells)), (a_s3_cells, .inl (zI g, 912, .inl v_s3_cells)), zo_X4 a_p1 a_p1_cells r8_.1, (a_p1_cells, .inl (zI g, 912, .inl r8_.2))]) F zu_wsX10 tyX1 tyX1_ok nmX1 hP hD hS 0 rfl rfl 2 (by decide) zw_42 rfl rfl rfl (Nat.le_of_ble_eq_true rfl) dX1_popInto_35 rfl (fun H locs hP hD hS => ?_)
      refine lv_aload_n hx hb dX1_popInto_38 rfl (lv_at hl 2 rfl) ?_
      refine lv_dup hx hb dX1_popInto_39 rfl ?_
      refine z_get (C := RX1) (T := TX1) (N := 3) (ci := 0) F zu_wsX10 hP 0 rfl rfl 1 (by decide) zw_33 rfl dX1_popInto_40 ?_
      refine lv_iconst (v := 1) hx hb dX1_popInto_43 (by decide) ?_
      refine lv_isub hx hb dX1_popInto_44 ?_
      refine z_top Value.int h (fun x9_ h => ?_)
      refine z_put (C := RX1) (T := TX1) (N := 3) (ci := 0) (W1 := [zo_X1 a_this a_saved x9_ x1_, zo_X4 a_s0 a_s0_cells v_s0_size, zo_X4 a_s1 a_s1_cells v_s1_size, zo_X4 a_s2 a_s2_cells v_s2_size, zo_X4 a_s3 a_s3_cells v_s3_size, (a_saved, .inl (zO g, 4, .inr (.inr (.inr (.inr (zSv a_s0 a_s1 a_s2 a_s3)))))), (a_s0_cells, .inl (zI g, 912, .inl v_s0_cells)), (a_s1_cells, .inl (zI g, 912, .inl v_s1_cells)), (a_s2_cells, .inl (zI g, 912, .inl v_s2_cells)), (a_s3_cells, .inl (zI g, 912, .inl v_s3_cells)), zo_X4 a_p1 a_p1_cells r8_.1, (a_p1_cells, .inl (zI g, 912, .inl r8_.2))]) F zu_wsX10 tyX1 tyX1_ok nmX1 hP hD hS 0 rfl rfl 1 (by decide) zw_33 rfl rfl rfl (Nat.le_of_ble_eq_true rfl) dX1_popInto_45 rfl (fun H locs hP hD hS => ?_)
      obtain rfl := Option.some.inj h
      exact zV_v F hr hlocks hQ hP hD hS dX1_popInto_48
  rw [if_neg c13_3_] at h
  cases h
def f_X9_undo (N : Nat) (v_history_next : Int32) (v_history_size : Int32) (v_playing_size : Int32) (v_score_size : Int32) (v_history_s0_size : Int32) (v_history_s1_size : Int32) (v_history_s2_size : Int32) (v_history_s3_size : Int32) (v_playing_places : Nat → Int32) (v_score_cells : Nat → Int32) (v_sounds_heldTicks : Nat → Int32) (v_sounds_shifts : Nat → Int32) (v_history_s0_cells : Nat → Int32) (v_history_s1_cells : Nat → Int32) (v_history_s2_cells : Nat → Int32) (v_history_s3_cells : Nat → Int32) : Option ((Int32 × Int32 × Int32 × Int32 × Int32 × (Nat → Int32) × (Nat → Int32) × (Nat → Int32) × (Nat → Int32)) ⊕ Nat) :=
  Option.bind (f_X1_size N v_history_size) (fun (r1_ : Int32) => if r1_ = 0 then some (Sum.inr 2) else Option.bind (f_X1_popInto N v_history_next v_history_size v_history_s0_size v_history_s1_size v_history_s2_size v_history_s3_size v_history_s0_cells v_history_s1_cells v_history_s2_cells v_history_s3_cells v_score_size v_score_cells) (fun (r2_ : Int32 × Int32 × Int32 × (Nat → Int32)) => Option.bind (f_X9_settle N v_playing_size r2_.2.2.1 v_playing_places r2_.2.2.2 v_sounds_heldTicks v_sounds_shifts) (fun (r3_ : Int32 × (Nat → Int32) × (Nat → Int32) × (Nat → Int32)) => Option.bind (f_X1_size N r2_.2.1) (fun (r4_ : Int32) => some (Sum.inl (r4_, r2_.1, r2_.2.1, r3_.1, r2_.2.2.1, r3_.2.1, r2_.2.2.2, r3_.2.2.1, r3_.2.2.2))))))
abbrev rm_X9_undo : Room := { frames := 7, cells := 0, slots := 0, locals := 170 }
theorem zy_X9_undo : zYv yX9_undo RX9 cX9_undo 1 (some .int) 0 := ⟨zw_833, zw_834, zw_527, zw_696, ⟨by decide, by decide⟩, by decide +kernel⟩
set_option maxHeartbeats 4000000 in
set_option maxRecDepth 100000 in
theorem k_X9_undo (l : Launch) (N : Nat) (g : zEnv) (a_this a_score a_history a_text a_sentence a_reader a_sounds a_playing a_history_saved a_history_s0 a_history_s1 a_history_s2 a_history_s3 a_playing_places a_score_cells a_sounds_shifts a_sounds_heldTicks a_history_s0_cells a_history_s1_cells a_history_s2_cells a_history_s3_cells : Nat) (v_history_next : Int32) (v_history_size : Int32) (v_playing_size : Int32) (v_score_size : Int32) (v_history_s0_size : Int32) (v_history_s1_size : Int32) (v_history_s2_size : Int32) (v_history_s3_size : Int32) (v_playing_places : Nat → Int32) (v_score_cells : Nat → Int32) (v_sounds_heldTicks : Nat → Int32) (v_sounds_shifts : Nat → Int32) (v_history_s0_cells : Nat → Int32) (v_history_s1_cells : Nat → Int32) (v_history_s2_cells : Nat → Int32) (v_history_s3_cells : Nat → Int32) (r : Int32 × Int32 × Int32 × Int32 × Int32 × (Nat → Int32) × (Nat → Int32) × (Nat → Int32) × (Nat → Int32)) (h : f_X9_undo N v_history_next v_history_size v_playing_size v_score_size v_history_s0_size v_history_s1_size v_history_s2_size v_history_s3_size v_playing_places v_score_cells v_sounds_heldTicks v_sounds_shifts v_history_s0_cells v_history_s1_cells v_history_s2_cells v_history_s3_cells = some (Sum.inl r)) : ZV l yX9_undo cX9_undo 1 (some .int) rm_X9_undo g [.ref a_this] [zo_X9 a_this a_score a_history a_text a_sentence a_reader a_sounds a_playing, zo_X1 a_history a_history_saved v_history_size v_history_next, zo_X2 a_playing a_playing_places v_playing_size, zo_X4 a_score a_score_cells v_score_size, zo_X6 a_sounds a_score a_sounds_shifts a_sounds_heldTicks, zo_X4 a_history_s0 a_history_s0_cells v_history_s0_size, zo_X4 a_history_s1 a_history_s1_cells v_history_s1_size, zo_X4 a_history_s2 a_history_s2_cells v_history_s2_size, zo_X4 a_history_s3 a_history_s3_cells v_history_s3_size, (a_history_saved, .inl (zO g, 4, .inr (.inr (.inr (.inr (zSv a_history_s0 a_history_s1 a_history_s2 a_history_s3)))))), (a_playing_places, .inl (zI g, 200, .inl v_playing_places)), (a_score_cells, .inl (zI g, 912, .inl v_score_cells)), (a_sounds_heldTicks, .inl (zI g, 768, .inl v_sounds_heldTicks)), (a_sounds_shifts, .inl (zI g, 768, .inl v_sounds_shifts)), (a_history_s0_cells, .inl (zI g, 912, .inl v_history_s0_cells)), (a_history_s1_cells, .inl (zI g, 912, .inl v_history_s1_cells)), (a_history_s2_cells, .inl (zI g, 912, .inl v_history_s2_cells)), (a_history_s3_cells, .inl (zI g, 912, .inl v_history_s3_cells))] [zo_X9 a_this a_score a_history a_text a_sentence a_reader a_sounds a_playing, zo_X1 a_history a_history_saved r.2.2.1 r.2.1, zo_X2 a_playing a_playing_places r.2.2.2.1, zo_X4 a_score a_score_cells r.2.2.2.2.1, zo_X6 a_sounds a_score a_sounds_shifts a_sounds_heldTicks, zo_X4 a_history_s0 a_history_s0_cells v_history_s0_size, zo_X4 a_history_s1 a_history_s1_cells v_history_s1_size, zo_X4 a_history_s2 a_history_s2_cells v_history_s2_size, zo_X4 a_history_s3 a_history_s3_cells v_history_s3_size, (a_history_saved, .inl (zO g, 4, .inr (.inr (.inr (.inr (zSv a_history_s0 a_history_s1 a_history_s2 a_history_s3)))))), (a_playing_places, .inl (zI g, 200, .inl r.2.2.2.2.2.1)), (a_score_cells, .inl (zI g, 912, .inl r.2.2.2.2.2.2.1)), (a_sounds_heldTicks, .inl (zI g, 768, .inl r.2.2.2.2.2.2.2.1)), (a_sounds_shifts, .inl (zI g, 768, .inl r.2.2.2.2.2.2.2.2)), (a_history_s0_cells, .inl (zI g, 912, .inl v_history_s0_cells)), (a_history_s1_cells, .inl (zI g, 912, .inl v_history_s1_cells)), (a_history_s2_cells, .inl (zI g, 912, .inl v_history_s2_cells)), (a_history_s3_cells, .inl (zI g, 912, .inl v_history_s3_cells))] (some (.int r.1)) := by
  refine zV_of (by decide) (Nat.le_of_ble_eq_true rfl) ?_
  intro p e s m below meth c A H locs ls Q R F hRm hr hlocks hP hD hS hl hQ
  subst hRm
  have F : zF p m c cX9_undo 1 s (([.ref a_this] : List Value)).toArray RX9 g A := F
  have hx := F.1.1
  have hb := F.1.2.1
  have hz := F.1.2.2.2.2
  have hl : lv_has ls 1 [(0, .ref a_this)] := hl
  unfold f_X9_undo at h
  refine lv_aload_n hx hb dX9_undo_0 rfl (lv_at hl 0 rfl) ?_
  refine z_get (C := RX9) (T := TX9) (N := 7) (ci := 7) F zu_wsX90 hP 0 rfl rfl 1 (by decide) zw_481 rfl dX9_undo_1 ?_
  obtain ⟨r1_, hr1_, h⟩ := z_bind h
  refine zRV F (k_X1_size l N g a_history a_history_saved a_history_s0 a_history_s1 a_history_s2 a_history_s3 v_history_next v_history_size _ hr1_) zy_X1_size zw_690 hP hD hS [1] rfl rfl (q0 := 1) (he := rfl) (hc := rfl) (rest := []) rfl hl.1 rfl (Nat.le_of_ble_eq_true rfl) ⟨rfl, rfl⟩ ⟨Nat.le_of_ble_eq_true rfl, Nat.le_of_ble_eq_true rfl⟩ ⟨Nat.zero_le _, Nat.zero_le _⟩ dX9_undo_4 (st1 := [.int r1_]) rfl ?_
  refine z_ne (tgt := 20) hx hb dX9_undo_7 (by decide) h (fun h => ?_) (fun h => ?_)
  · refine lv_aload_n hx hb dX9_undo_20 rfl (lv_at hl 0 rfl) ?_
    refine z_get (C := RX9) (T := TX9) (N := 7) (ci := 7) F zu_wsX90 hP 0 rfl rfl 1 (by decide) zw_481 rfl dX9_undo_21 ?_
    refine lv_aload_n hx hb dX9_undo_24 rfl (lv_at hl 0 rfl) ?_
    refine z_get (C := RX9) (T := TX9) (N := 7) (ci := 7) F zu_wsX90 hP 0 rfl rfl 0 (by decide) zw_478 rfl dX9_undo_25 ?_
    obtain ⟨r2_, hr2_, h⟩ := z_bind h
    refine zVV F (k_X1_popInto l N g a_history a_history_saved a_history_s0 a_history_s1 a_history_s2 a_history_s3 a_history_s0_cells a_history_s1_cells a_history_s2_cells a_history_s3_cells a_score a_score_cells v_history_next v_history_size v_history_s0_size v_history_s1_size v_history_s2_size v_history_s3_size v_history_s0_cells v_history_s1_cells v_history_s2_cells v_history_s3_cells v_score_size v_score_cells _ hr2_) zy_X1_popInto zw_693 hP hD hS [1, 5, 6, 7, 8, 9, 14, 15, 16, 17, 3, 11] [0, 2, 4, 10, 12, 13] [0, 6, 1, 16, 2, 7, 8, 9, 10, 11, 3, 17, 4, 5, 12, 13, 14, 15] (wr := [zo_X9 a_this a_score a_history a_text a_sentence a_reader a_sounds a_playing, zo_X2 a_playing a_playing_places v_playing_size, zo_X6 a_sounds a_score a_sounds_shifts a_sounds_heldTicks, (a_playing_places, .inl (zI g, 200, .inl v_playing_places)), (a_sounds_heldTicks, .inl (zI g, 768, .inl v_sounds_heldTicks)), (a_sounds_shifts, .inl (zI g, 768, .inl v_sounds_shifts))]) (W1 := [zo_X9 a_this a_score a_history a_text a_sentence a_reader a_sounds a_playing, zo_X1 a_history a_history_saved r2_.2.1 r2_.1, zo_X2 a_playing a_playing_places v_playing_size, zo_X4 a_score a_score_cells r2_.2.2.1, zo_X6 a_sounds a_score a_sounds_shifts a_sounds_heldTicks, zo_X4 a_history_s0 a_history_s0_cells v_history_s0_size, zo_X4 a_history_s1 a_history_s1_cells v_history_s1_size, zo_X4 a_history_s2 a_history_s2_cells v_history_s2_size, zo_X4 a_history_s3 a_history_s3_cells v_history_s3_size, (a_history_saved, .inl (zO g, 4, .inr (.inr (.inr (.inr (zSv a_history_s0 a_history_s1 a_history_s2 a_history_s3)))))), (a_playing_places, .inl (zI g, 200, .inl v_playing_places)), (a_score_cells, .inl (zI g, 912, .inl r2_.2.2.2)), (a_sounds_heldTicks, .inl (zI g, 768, .inl v_sounds_heldTicks)), (a_sounds_shifts, .inl (zI g, 768, .inl v_sounds_shifts)), (a_history_s0_cells, .inl (zI g, 912, .inl v_history_s0_cells)), (a_history_s1_cells, .inl (zI g, 912, .inl v_history_s1_cells)), (a_history_s2_cells, .inl (zI g, 912, .inl v_history_s2_cells)), (a_history_s3_cells, .inl (zI g, 912, .inl v_history_s3_cells))]) rfl rfl rfl rfl (by decide) rfl rfl (q0 := 1) (he := rfl) (hc := rfl) (rest := []) rfl hl.1 rfl (Nat.le_of_ble_eq_true rfl) ⟨rfl, rfl⟩ ⟨Nat.le_of_ble_eq_true rfl, Nat.le_of_ble_eq_true rfl⟩ ⟨Nat.zero_le _, Nat.zero_le _⟩ dX9_undo_28 (st1 := []) rfl (fun H locs hP hD hS => ?_)
    refine lv_aload_n hx hb dX9_undo_31 rfl (lv_at hl 0 rfl) ?_
    obtain ⟨r3_, hr3_, h⟩ := z_bind h
    refine zVV F (k_X9_settle l N g a_this a_score a_history a_text a_sentence a_reader a_sounds a_playing a_playing_places a_score_cells a_sounds_shifts a_sounds_heldTicks v_playing_size r2_.2.2.1 v_playing_places r2_.2.2.2 v_sounds_heldTicks v_sounds_shifts _ hr3_) zy_X9_settle zw_524 hP hD hS [0, 2, 3, 4, 10, 11, 12, 13] [1, 5, 6, 7, 8, 9, 14, 15, 16, 17] [10, 0, 11, 12, 13, 1, 2, 3, 4, 5, 14, 15, 16, 17, 6, 7, 8, 9] (wr := [zo_X1 a_history a_history_saved r2_.2.1 r2_.1, zo_X4 a_history_s0 a_history_s0_cells v_history_s0_size, zo_X4 a_history_s1 a_history_s1_cells v_history_s1_size, zo_X4 a_history_s2 a_history_s2_cells v_history_s2_size, zo_X4 a_history_s3 a_history_s3_cells v_history_s3_size, (a_history_saved, .inl (zO g, 4, .inr (.inr (.inr (.inr (zSv a_history_s0 a_history_s1 a_history_s2 a_history_s3)))))), (a_history_s0_cells, .inl (zI g, 912, .inl v_history_s0_cells)), (a_history_s1_cells, .inl (zI g, 912, .inl v_history_s1_cells)), (a_history_s2_cells, .inl (zI g, 912, .inl v_history_s2_cells)), (a_history_s3_cells, .inl (zI g, 912, .inl v_history_s3_cells))]) (W1 := [zo_X9 a_this a_score a_history a_text a_sentence a_reader a_sounds a_playing, zo_X1 a_history a_history_saved r2_.2.1 r2_.1, zo_X2 a_playing a_playing_places r3_.1, zo_X4 a_score a_score_cells r2_.2.2.1, zo_X6 a_sounds a_score a_sounds_shifts a_sounds_heldTicks, zo_X4 a_history_s0 a_history_s0_cells v_history_s0_size, zo_X4 a_history_s1 a_history_s1_cells v_history_s1_size, zo_X4 a_history_s2 a_history_s2_cells v_history_s2_size, zo_X4 a_history_s3 a_history_s3_cells v_history_s3_size, (a_history_saved, .inl (zO g, 4, .inr (.inr (.inr (.inr (zSv a_history_s0 a_history_s1 a_history_s2 a_history_s3)))))), (a_playing_places, .inl (zI g, 200, .inl r3_.2.1)), (a_score_cells, .inl (zI g, 912, .inl r2_.2.2.2)), (a_sounds_heldTicks, .inl (zI g, 768, .inl r3_.2.2.1)), (a_sounds_shifts, .inl (zI g, 768, .inl r3_.2.2.2)), (a_history_s0_cells, .inl (zI g, 912, .inl v_history_s0_cells)), (a_history_s1_cells, .inl (zI g, 912, .inl v_history_s1_cells)), (a_history_s2_cells, .inl (zI g, 912, .inl v_history_s2_cells)), (a_history_s3_cells, .inl (zI g, 912, .inl v_history_s3_cells))]) rfl rfl rfl rfl (by decide) rfl rfl (q0 := 0) (he := rfl) (hc := rfl) (rest := []) rfl hl.1 rfl (Nat.le_of_ble_eq_true rfl) ⟨rfl, rfl⟩ ⟨Nat.le_of_ble_eq_true rfl, Nat.le_of_ble_eq_true rfl⟩ ⟨Nat.zero_le _, Nat.zero_le _⟩ dX9_undo_32 (st1 := []) rfl (fun H locs hP hD hS => ?_)
    refine lv_aload_n hx hb dX9_undo_35 rfl (lv_at hl 0 rfl) ?_
    refine z_get (C := RX9) (T := TX9) (N := 7) (ci := 7) F zu_wsX90 hP 0 rfl rfl 1 (by decide) zw_481 rfl dX9_undo_36 ?_
    obtain ⟨r4_, hr4_, h⟩ := z_bind h
    refine zRV F (k_X1_size l N g a_history a_history_saved a_history_s0 a_history_s1 a_history_s2 a_history_s3 r2_.1 r2_.2.1 _ hr4_) zy_X1_size zw_690 hP hD hS [1] rfl rfl (q0 := 1) (he := rfl) (hc := rfl) (rest := []) rfl hl.1 rfl (Nat.le_of_ble_eq_true rfl) ⟨rfl, rfl⟩ ⟨Nat.le_of_ble_eq_true rfl, Nat.le_of_ble_eq_true rfl⟩ ⟨Nat.zero_le _, Nat.zero_le _⟩ dX9_undo_39 (st1 := [.int r4_]) rfl ?_
    obtain rfl := Sum.inl.inj (Option.some.inj h)
    exact zV_i F hr hlocks hQ hP hD hS dX9_undo_42
  · cases h
abbrev rx_X9_undo : Room := { frames := 7, cells := 1, slots := 6, locals := 170 }
set_option maxHeartbeats 4000000 in
set_option maxRecDepth 100000 in
theorem kx_X9_undo (l : Launch) (N : Nat) (g : zEnv) (a_this a_score a_history a_text a_sentence a_reader a_sounds a_playing a_history_saved a_history_s0 a_history_s1 a_history_s2 a_history_s3 a_playing_places a_score_cells a_sounds_shifts a_sounds_heldTicks a_history_s0_cells a_history_s1_cells a_history_s2_cells a_history_s3_cells : Nat) (v_history_next : Int32) (v_history_size : Int32) (v_playing_size : Int32) (v_score_size : Int32) (v_history_s0_size : Int32) (v_history_s1_size : Int32) (v_history_s2_size : Int32) (v_history_s3_size : Int32) (v_playing_places : Nat → Int32) (v_score_cells : Nat → Int32) (v_sounds_heldTicks : Nat → Int32) (v_sounds_shifts : Nat → Int32) (v_history_s0_cells : Nat → Int32) (v_history_s1_cells : Nat → Int32) (v_history_s2_cells : Nat → Int32) (v_history_s3_cells : Nat → Int32) (r : Nat) (h : f_X9_undo N v_history_next v_history_size v_playing_size v_score_size v_history_s0_size v_history_s1_size v_history_s2_size v_history_s3_size v_playing_places v_score_cells v_sounds_heldTicks v_sounds_shifts v_history_s0_cells v_history_s1_cells v_history_s2_cells v_history_s3_cells = some (Sum.inr r)) (hfl : l.stackTraces = false) : ZE l yX9_undo cX9_undo 1 (some .int) rx_X9_undo g [.ref a_this] [zo_X9 a_this a_score a_history a_text a_sentence a_reader a_sounds a_playing, zo_X1 a_history a_history_saved v_history_size v_history_next, zo_X2 a_playing a_playing_places v_playing_size, zo_X4 a_score a_score_cells v_score_size, zo_X6 a_sounds a_score a_sounds_shifts a_sounds_heldTicks, zo_X4 a_history_s0 a_history_s0_cells v_history_s0_size, zo_X4 a_history_s1 a_history_s1_cells v_history_s1_size, zo_X4 a_history_s2 a_history_s2_cells v_history_s2_size, zo_X4 a_history_s3 a_history_s3_cells v_history_s3_size, (a_history_saved, .inl (zO g, 4, .inr (.inr (.inr (.inr (zSv a_history_s0 a_history_s1 a_history_s2 a_history_s3)))))), (a_playing_places, .inl (zI g, 200, .inl v_playing_places)), (a_score_cells, .inl (zI g, 912, .inl v_score_cells)), (a_sounds_heldTicks, .inl (zI g, 768, .inl v_sounds_heldTicks)), (a_sounds_shifts, .inl (zI g, 768, .inl v_sounds_shifts)), (a_history_s0_cells, .inl (zI g, 912, .inl v_history_s0_cells)), (a_history_s1_cells, .inl (zI g, 912, .inl v_history_s1_cells)), (a_history_s2_cells, .inl (zI g, 912, .inl v_history_s2_cells)), (a_history_s3_cells, .inl (zI g, 912, .inl v_history_s3_cells))] [zo_X9 a_this a_score a_history a_text a_sentence a_reader a_sounds a_playing, zo_X1 a_history a_history_saved v_history_size v_history_next, zo_X2 a_playing a_playing_places v_playing_size, zo_X4 a_score a_score_cells v_score_size, zo_X6 a_sounds a_score a_sounds_shifts a_sounds_heldTicks, zo_X4 a_history_s0 a_history_s0_cells v_history_s0_size, zo_X4 a_history_s1 a_history_s1_cells v_history_s1_size, zo_X4 a_history_s2 a_history_s2_cells v_history_s2_size, zo_X4 a_history_s3 a_history_s3_cells v_history_s3_size, (a_history_saved, .inl (zO g, 4, .inr (.inr (.inr (.inr (zSv a_history_s0 a_history_s1 a_history_s2 a_history_s3)))))), (a_playing_places, .inl (zI g, 200, .inl v_playing_places)), (a_score_cells, .inl (zI g, 912, .inl v_score_cells)), (a_sounds_heldTicks, .inl (zI g, 768, .inl v_sounds_heldTicks)), (a_sounds_shifts, .inl (zI g, 768, .inl v_sounds_shifts)), (a_history_s0_cells, .inl (zI g, 912, .inl v_history_s0_cells)), (a_history_s1_cells, .inl (zI g, 912, .inl v_history_s1_cells)), (a_history_s2_cells, .inl (zI g, 912, .inl v_history_s2_cells)), (a_history_s3_cells, .inl (zI g, 912, .inl v_history_s3_cells))] r := by
  refine zE_of (by decide) (Nat.le_of_ble_eq_true rfl) ?_
  intro p e s m below meth c A H locs ls Q R F hRm hlocks hN htab hP hD hS hl hQ
  subst hRm
  have F : zF p m c cX9_undo 1 s (([.ref a_this] : List Value)).toArray RX9 g A := F
  have hx := F.1.1
  have hb := F.1.2.1
  have hz := F.1.2.2.2.2
  have hl : lv_has ls 1 [(0, .ref a_this)] := hl
  unfold f_X9_undo at h
  refine lv_aload_n hx hb dX9_undo_0 rfl (lv_at hl 0 rfl) ?_
  refine z_get (C := RX9) (T := TX9) (N := 7) (ci := 7) F zu_wsX90 hP 0 rfl rfl 1 (by decide) zw_481 rfl dX9_undo_1 ?_
  obtain ⟨r1_, hr1_, h⟩ := z_bind h
  refine zRV F (k_X1_size l N g a_history a_history_saved a_history_s0 a_history_s1 a_history_s2 a_history_s3 v_history_next v_history_size _ hr1_) zy_X1_size zw_690 hP hD hS [1] rfl rfl (q0 := 1) (he := rfl) (hc := rfl) (rest := []) rfl hl.1 rfl (Nat.le_of_ble_eq_true rfl) ⟨rfl, rfl⟩ ⟨Nat.le_of_ble_eq_true rfl, Nat.le_of_ble_eq_true rfl⟩ ⟨Nat.zero_le _, Nat.zero_le _⟩ dX9_undo_4 (st1 := [.int r1_]) rfl ?_
  refine z_ne (tgt := 20) hx hb dX9_undo_7 (by decide) h (fun h => ?_) (fun h => ?_)
  · refine lv_aload_n hx hb dX9_undo_20 rfl (lv_at hl 0 rfl) ?_
    refine z_get (C := RX9) (T := TX9) (N := 7) (ci := 7) F zu_wsX90 hP 0 rfl rfl 1 (by decide) zw_481 rfl dX9_undo_21 ?_
    refine lv_aload_n hx hb dX9_undo_24 rfl (lv_at hl 0 rfl) ?_
    refine z_get (C := RX9) (T := TX9) (N := 7) (ci := 7) F zu_wsX90 hP 0 rfl rfl 0 (by decide) zw_478 rfl dX9_undo_25 ?_
    obtain ⟨r2_, hr2_, h⟩ := z_bind h
    refine zVV F (k_X1_popInto l N g a_history a_history_saved a_history_s0 a_history_s1 a_history_s2 a_history_s3 a_history_s0_cells a_history_s1_cells a_history_s2_cells a_history_s3_cells a_score a_score_cells v_history_next v_history_size v_history_s0_size v_history_s1_size v_history_s2_size v_history_s3_size v_history_s0_cells v_history_s1_cells v_history_s2_cells v_history_s3_cells v_score_size v_score_cells _ hr2_) zy_X1_popInto zw_693 hP hD hS [1, 5, 6, 7, 8, 9, 14, 15, 16, 17, 3, 11] [0, 2, 4, 10, 12, 13] [0, 6, 1, 16, 2, 7, 8, 9, 10, 11, 3, 17, 4, 5, 12, 13, 14, 15] (wr := [zo_X9 a_this a_score a_history a_text a_sentence a_reader a_sounds a_playing, zo_X2 a_playing a_playing_places v_playing_size, zo_X6 a_sounds a_score a_sounds_shifts a_sounds_heldTicks, (a_playing_places, .inl (zI g, 200, .inl v_playing_places)), (a_sounds_heldTicks, .inl (zI g, 768, .inl v_sounds_heldTicks)), (a_sounds_shifts, .inl (zI g, 768, .inl v_sounds_shifts))]) (W1 := [zo_X9 a_this a_score a_history a_text a_sentence a_reader a_sounds a_playing, zo_X1 a_history a_history_saved r2_.2.1 r2_.1, zo_X2 a_playing a_playing_places v_playing_size, zo_X4 a_score a_score_cells r2_.2.2.1, zo_X6 a_sounds a_score a_sounds_shifts a_sounds_heldTicks, zo_X4 a_history_s0 a_history_s0_cells v_history_s0_size, zo_X4 a_history_s1 a_history_s1_cells v_history_s1_size, zo_X4 a_history_s2 a_history_s2_cells v_history_s2_size, zo_X4 a_history_s3 a_history_s3_cells v_history_s3_size, (a_history_saved, .inl (zO g, 4, .inr (.inr (.inr (.inr (zSv a_history_s0 a_history_s1 a_history_s2 a_history_s3)))))), (a_playing_places, .inl (zI g, 200, .inl v_playing_places)), (a_score_cells, .inl (zI g, 912, .inl r2_.2.2.2)), (a_sounds_heldTicks, .inl (zI g, 768, .inl v_sounds_heldTicks)), (a_sounds_shifts, .inl (zI g, 768, .inl v_sounds_shifts)), (a_history_s0_cells, .inl (zI g, 912, .inl v_history_s0_cells)), (a_history_s1_cells, .inl (zI g, 912, .inl v_history_s1_cells)), (a_history_s2_cells, .inl (zI g, 912, .inl v_history_s2_cells)), (a_history_s3_cells, .inl (zI g, 912, .inl v_history_s3_cells))]) rfl rfl rfl rfl (by decide) rfl rfl (q0 := 1) (he := rfl) (hc := rfl) (rest := []) rfl hl.1 rfl (Nat.le_of_ble_eq_true rfl) ⟨rfl, rfl⟩ ⟨Nat.le_of_ble_eq_true rfl, Nat.le_of_ble_eq_true rfl⟩ ⟨Nat.zero_le _, Nat.zero_le _⟩ dX9_undo_28 (st1 := []) rfl (fun H locs hP hD hS => ?_)
    refine lv_aload_n hx hb dX9_undo_31 rfl (lv_at hl 0 rfl) ?_
    obtain ⟨r3_, hr3_, h⟩ := z_bind h
    refine zVV F (k_X9_settle l N g a_this a_score a_history a_text a_sentence a_reader a_sounds a_playing a_playing_places a_score_cells a_sounds_shifts a_sounds_heldTicks v_playing_size r2_.2.2.1 v_playing_places r2_.2.2.2 v_sounds_heldTicks v_sounds_shifts _ hr3_) zy_X9_settle zw_524 hP hD hS [0, 2, 3, 4, 10, 11, 12, 13] [1, 5, 6, 7, 8, 9, 14, 15, 16, 17] [10, 0, 11, 12, 13, 1, 2, 3, 4, 5, 14, 15, 16, 17, 6, 7, 8, 9] (wr := [zo_X1 a_history a_history_saved r2_.2.1 r2_.1, zo_X4 a_history_s0 a_history_s0_cells v_history_s0_size, zo_X4 a_history_s1 a_history_s1_cells v_history_s1_size, zo_X4 a_history_s2 a_history_s2_cells v_history_s2_size, zo_X4 a_history_s3 a_history_s3_cells v_history_s3_size, (a_history_saved, .inl (zO g, 4, .inr (.inr (.inr (.inr (zSv a_history_s0 a_history_s1 a_history_s2 a_history_s3)))))), (a_history_s0_cells, .inl (zI g, 912, .inl v_history_s0_cells)), (a_history_s1_cells, .inl (zI g, 912, .inl v_history_s1_cells)), (a_history_s2_cells, .inl (zI g, 912, .inl v_history_s2_cells)), (a_history_s3_cells, .inl (zI g, 912, .inl v_history_s3_cells))]) (W1 := [zo_X9 a_this a_score a_history a_text a_sentence a_reader a_sounds a_playing, zo_X1 a_history a_history_saved r2_.2.1 r2_.1, zo_X2 a_playing a_playing_places r3_.1, zo_X4 a_score a_score_cells r2_.2.2.1, zo_X6 a_sounds a_score a_sounds_shifts a_sounds_heldTicks, zo_X4 a_history_s0 a_history_s0_cells v_history_s0_size, zo_X4 a_history_s1 a_history_s1_cells v_history_s1_size, zo_X4 a_history_s2 a_history_s2_cells v_history_s2_size, zo_X4 a_history_s3 a_history_s3_cells v_history_s3_size, (a_history_saved, .inl (zO g, 4, .inr (.inr (.inr (.inr (zSv a_history_s0 a_history_s1 a_history_s2 a_history_s3)))))), (a_playing_places, .inl (zI g, 200, .inl r3_.2.1)), (a_score_cells, .inl (zI g, 912, .inl r2_.2.2.2)), (a_sounds_heldTicks, .inl (zI g, 768, .inl r3_.2.2.1)), (a_sounds_shifts, .inl (zI g, 768, .inl r3_.2.2.2)), (a_history_s0_cells, .inl (zI g, 912, .inl v_history_s0_cells)), (a_history_s1_cells, .inl (zI g, 912, .inl v_history_s1_cells)), (a_history_s2_cells, .inl (zI g, 912, .inl v_history_s2_cells)), (a_history_s3_cells, .inl (zI g, 912, .inl v_history_s3_cells))]) rfl rfl rfl rfl (by decide) rfl rfl (q0 := 0) (he := rfl) (hc := rfl) (rest := []) rfl hl.1 rfl (Nat.le_of_ble_eq_true rfl) ⟨rfl, rfl⟩ ⟨Nat.le_of_ble_eq_true rfl, Nat.le_of_ble_eq_true rfl⟩ ⟨Nat.zero_le _, Nat.zero_le _⟩ dX9_undo_32 (st1 := []) rfl (fun H locs hP hD hS => ?_)
    refine lv_aload_n hx hb dX9_undo_35 rfl (lv_at hl 0 rfl) ?_
    refine z_get (C := RX9) (T := TX9) (N := 7) (ci := 7) F zu_wsX90 hP 0 rfl rfl 1 (by decide) zw_481 rfl dX9_undo_36 ?_
    obtain ⟨r4_, hr4_, h⟩ := z_bind h
    refine zRV F (k_X1_size l N g a_history a_history_saved a_history_s0 a_history_s1 a_history_s2 a_history_s3 r2_.1 r2_.2.1 _ hr4_) zy_X1_size zw_690 hP hD hS [1] rfl rfl (q0 := 1) (he := rfl) (hc := rfl) (rest := []) rfl hl.1 rfl (Nat.le_of_ble_eq_true rfl) ⟨rfl, rfl⟩ ⟨Nat.le_of_ble_eq_true rfl, Nat.le_of_ble_eq_true rfl⟩ ⟨Nat.zero_le _, Nat.zero_le _⟩ dX9_undo_39 (st1 := [.int r4_]) rfl ?_
    cases h
  · obtain rfl := Sum.inr.inj (Option.some.inj h)
    exact zThS (k := 2) F hfl hN zw_517 zw_518 zst_X9_245 (fun w h => zu_zx_0 w h) zx_bad_0 (zx_ot_0 _) (by decide +kernel) hP hD hS hl.1 htab hlocks hQ dX9_undo_10 dX9_undo_13 dX9_undo_14 dX9_undo_16 dX9_undo_19 (Nat.le_of_ble_eq_true rfl) (Nat.le_of_ble_eq_true rfl) (Nat.le_of_ble_eq_true rfl) (Nat.le_of_ble_eq_true rfl)
def f_X9_mix (N : Nat) (x0 : Int64) (x2 : Int64) : Option Int64 :=
  some (((31) * x0) + x2)
abbrev rm_X9_mix : Room := { frames := 0, cells := 0, slots := 0, locals := 0 }
theorem zy_X9_mix : zYs yX9_mix cX9_mix 4 (some .long) 2 := ⟨zw_703, zw_527, zw_698, ⟨by decide, by decide⟩, by decide +kernel⟩
set_option maxHeartbeats 4000000 in
set_option maxRecDepth 100000 in
theorem k_X9_mix (l : Launch) (N : Nat) (g : zEnv) (x0 : Int64) (x2 : Int64) (r : Int64) (h : f_X9_mix N x0 x2 = some r) : ZR l yX9_mix cX9_mix 4 (some .long) rm_X9_mix g [.long x0, .long x2] [] (some (.long r)) := by
  refine zR_of (by decide) (Nat.le_of_ble_eq_true rfl) ?_
  intro p e s m below meth c A ls Q R F hRm hr hlocks hP hD hS hl hQ
  subst hRm
  have F : zF p m c cX9_mix 4 s (([.long x0, .long x2] : List Value)).toArray RX9 g A := F
  have hx := F.1.1
  have hb := F.1.2.1
  have hz := F.1.2.2.2.2
  have hl : lv_has ls 4 [(0, .long x0), (2, .long x2)] := hl
  unfold f_X9_mix at h
  refine lv_ldc2 hx hb F.1.2.2.2.1 (hz _ zw_697) dX9_mix_0 ?_
  refine lv_lload_n hx hb dX9_mix_3 rfl (lv_at hl 0 rfl) ?_
  refine lv_lmul hx hb dX9_mix_4 ?_
  refine lv_lload_n hx hb dX9_mix_5 rfl (lv_at hl 1 rfl) ?_
  refine lv_ladd hx hb dX9_mix_6 ?_
  obtain rfl := Option.some.inj h
  exact zR_l F hr hlocks hQ dX9_mix_7
def f_X9_mixValues_B6 (N : Nat) (v_score_size : Int32) (v_score_cells : Nat → Int32) (x3 : Int32) (kh6_ : Int64 × Int32 → Option (Int64 ⊕ Nat)) (v6_ : Int64 × Int32) : Option (Int64 ⊕ Nat) :=
  if v6_.2 < 12 then zSub (f_X9_measure N v_score_size v_score_cells x3 v6_.2) (fun (r1_ : Int32) => Option.bind (f_X9_mix N v6_.1 ((r1_).toInt64)) (fun (r2_ : Int64) => Option.bind (some (v6_.2 + 1)) (fun (x3_ : Int32) => kh6_ (r2_, x3_)))) else some (Sum.inl v6_.1)
def f_X9_mixValues (N : Nat) (v_score_size : Int32) (v_score_cells : Nat → Int32) (x1 : Int64) (x3 : Int32) : Option (Int64 ⊕ Nat) :=
  zLoop (f_X9_mixValues_B6 N v_score_size v_score_cells x3) N (x1, 0)
abbrev rm_X9_mixValues : Room := { frames := 8, cells := 0, slots := 0, locals := 134 }
theorem zy_X9_mixValues : zYv yX9_mixValues RX9 cX9_mixValues 7 (some .long) 2 := ⟨zw_715, zw_716, zw_527, zw_704, ⟨by decide, by decide⟩, by decide +kernel⟩
set_option maxHeartbeats 4000000 in
set_option maxRecDepth 100000 in
theorem k_X9_mixValues (l : Launch) (N : Nat) (g : zEnv) (a_this a_score a_history a_text a_sentence a_reader a_sounds a_playing a_score_cells : Nat) (v_score_size : Int32) (v_score_cells : Nat → Int32) (x1 : Int64) (x3 : Int32) (r : Int64) (h : f_X9_mixValues N v_score_size v_score_cells x1 x3 = some (Sum.inl r)) : ZR l yX9_mixValues cX9_mixValues 7 (some .long) rm_X9_mixValues g [.ref a_this, .long x1, .int x3] [zo_X9 a_this a_score a_history a_text a_sentence a_reader a_sounds a_playing, zo_X4 a_score a_score_cells v_score_size, (a_score_cells, .inl (zI g, 912, .inl v_score_cells))] (some (.long r)) := by
  refine zR_of (by decide) (Nat.le_of_ble_eq_true rfl) ?_
  intro p e s m below meth c A ls Q R F hRm hr hlocks hP hD hS hl hQ
  subst hRm
  have F : zF p m c cX9_mixValues 7 s (([.ref a_this, .long x1, .int x3] : List Value)).toArray RX9 g A := F
  have hx := F.1.1
  have hb := F.1.2.1
  have hz := F.1.2.2.2.2
  have hl : lv_has ls 7 [(0, .ref a_this), (1, .long x1), (3, .int x3)] := hl
  unfold f_X9_mixValues at h
  refine lv_lload_n hx hb dX9_mixValues_0 rfl (lv_at hl 1 rfl) ?_
  refine lv_lstore (lv' := [(4, .long x1), (0, .ref a_this), (1, .long x1), (3, .int x3)]) hx hb dX9_mixValues_1 hl (by decide) rfl (fun ls hl => ?_)
  refine lv_iconst (v := 0) hx hb dX9_mixValues_3 (by decide) ?_
  refine lv_istore (lv' := [(6, .int 0), (4, .long x1), (0, .ref a_this), (1, .long x1), (3, .int x3)]) hx hb dX9_mixValues_4 hl (by decide) rfl (fun ls hl => ?_)
  have l6_ : ∀ (n6_ : Nat) (v6_ : Int64 × Int32), zLoop (f_X9_mixValues_B6 N v_score_size v_score_cells x3) n6_ v6_ = some (Sum.inl r) → ∀ (ls : Array Slot), lv_has ls 7 [(0, .ref a_this), (3, .int x3), (4, .long v6_.1), (6, .int v6_.2)] → W p l e rm_X9_mixValues s m (([.ref a_this, .long x1, .int x3] : List Value)).toArray below meth c s.heap [] 0 0 Q (F0 m 6 ls []) := by
    intro n6_
    induction n6_ with
    | zero => intro v6_ h; cases h
    | succ n6_ ih6_ =>
      intro v6_ h ls hl
      have h : f_X9_mixValues_B6 N v_score_size v_score_cells x3 (zLoop (f_X9_mixValues_B6 N v_score_size v_score_cells x3) n6_) v6_ = some (Sum.inl r) := h
      unfold f_X9_mixValues_B6 at h
      refine lv_iload hx hb dX9_mixValues_6 (lv_at hl 3 rfl) ?_
      refine lv_bipush (v := 12) hx hb dX9_mixValues_8 (by decide) ?_
      refine z_cge (tgt := 34) hx hb dX9_mixValues_10 (by decide) h (fun h => ?_) (fun h => ?_)
      · refine lv_lload hx hb dX9_mixValues_34 (lv_at hl 2 rfl) ?_
        obtain rfl := Sum.inl.inj (Option.some.inj h)
        exact zR_l F hr hlocks hQ dX9_mixValues_36
      · refine lv_lload hx hb dX9_mixValues_13 (lv_at hl 2 rfl) ?_
        refine lv_aload_n hx hb dX9_mixValues_15 rfl (lv_at hl 0 rfl) ?_
        refine lv_iload_n hx hb dX9_mixValues_16 rfl (lv_at hl 1 rfl) ?_
        refine lv_iload hx hb dX9_mixValues_17 (lv_at hl 3 rfl) ?_
        obtain ⟨r1_, hr1_, h⟩ := z_subL h
        refine zRV F (k_X9_measure l N g a_this a_score a_history a_text a_sentence a_reader a_sounds a_playing a_score_cells v_score_size v_score_cells x3 v6_.2 _ hr1_) zy_X9_measure zw_699 hP hD hS [0, 1, 2] rfl rfl (q0 := 0) (he := rfl) (hc := rfl) (rest := [.long v6_.1]) rfl hl.1 rfl (Nat.le_of_ble_eq_true rfl) ⟨rfl, rfl⟩ ⟨Nat.le_of_ble_eq_true rfl, Nat.le_of_ble_eq_true rfl⟩ ⟨Nat.zero_le _, Nat.zero_le _⟩ dX9_mixValues_19 (st1 := [.int r1_, .long v6_.1]) rfl ?_
        refine lv_i2l hx hb dX9_mixValues_22 rfl ?_
        obtain ⟨r2_, hr2_, h⟩ := z_bind h
        refine zRS F (k_X9_mix l N g v6_.1 ((r1_).toInt64) _ hr2_) zy_X9_mix zw_702 hP hD hS [] rfl rfl (rest := []) rfl hl.1 rfl (Nat.le_of_ble_eq_true rfl) ⟨rfl, rfl⟩ ⟨Nat.le_of_ble_eq_true rfl, Nat.le_of_ble_eq_true rfl⟩ ⟨Nat.zero_le _, Nat.zero_le _⟩ dX9_mixValues_23 (st1 := [.long r2_]) rfl ?_
        refine lv_lstore (lv' := [(4, .long r2_), (0, .ref a_this), (3, .int x3), (6, .int v6_.2)]) hx hb dX9_mixValues_26 hl (by decide) rfl (fun ls hl => ?_)
        refine z_nm h (fun x3_ ex3_ h => ?_)
        refine lv_iinc (v := x3_) (lv' := [(6, .int x3_), (4, .long r2_), (0, .ref a_this), (3, .int x3)]) hx hb dX9_mixValues_28 hl (k := 3) rfl (by rw [ex3_]; rfl) (by decide) rfl (fun ls hl => ?_)
        refine lv_goto (tgt := 6) hx hb dX9_mixValues_31 (by decide) ?_
        exact ih6_ _ h _ (lv_sub hl [2, 3, 1, 0] rfl)
  exact l6_ N _ h _ (lv_sub hl [2, 4, 1, 0] rfl)
def f_X9_mixVoice_B24 (N : Nat) (v_score_size : Int32) (v_score_cells : Nat → Int32) (v_sounds_heldTicks : Nat → Int32) (v_sounds_shifts : Nat → Int32) (x3 : Int32) (x4 : Int32) (v6_ : Int64 × Int32) (kh6_ : Int64 × Int32 → Option (Int64 ⊕ Nat)) (kh24_ : Int64 × Int32 → Option (Int64 ⊕ Nat)) (v24_ : Int64 × Int32) : Option (Int64 ⊕ Nat) :=
  if v24_.2 < 10 then zSub (f_X9_event N v_score_size v_score_cells v_sounds_heldTicks v_sounds_shifts x3 x4 v6_.2 v24_.2) (fun (r3_ : Int32) => Option.bind (f_X9_mix N v24_.1 ((r3_).toInt64)) (fun (r4_ : Int64) => Option.bind (some (v24_.2 + 1)) (fun (x5_ : Int32) => kh24_ (r4_, x5_)))) else Option.bind (some (v6_.2 + 1)) (fun (x2_ : Int32) => kh6_ (v24_.1, x2_))
def f_X9_mixVoice_B6 (N : Nat) (v_score_size : Int32) (v_score_cells : Nat → Int32) (x3 : Int32) (x4 : Int32) (v_sounds_heldTicks : Nat → Int32) (v_sounds_shifts : Nat → Int32) (kh6_ : Int64 × Int32 → Option (Int64 ⊕ Nat)) (v6_ : Int64 × Int32) : Option (Int64 ⊕ Nat) :=
  Option.bind (f_X4_count N v_score_size v_score_cells x3 x4) (fun (r1_ : Int32) => if v6_.2 < r1_ then zLoop (f_X9_mixVoice_B24 N v_score_size v_score_cells v_sounds_heldTicks v_sounds_shifts x3 x4 v6_ kh6_) N (v6_.1, 0) else some (Sum.inl v6_.1))
def f_X9_mixVoice (N : Nat) (v_score_size : Int32) (v_score_cells : Nat → Int32) (v_sounds_heldTicks : Nat → Int32) (v_sounds_shifts : Nat → Int32) (x1 : Int64) (x3 : Int32) (x4 : Int32) : Option (Int64 ⊕ Nat) :=
  zLoop (f_X9_mixVoice_B6 N v_score_size v_score_cells x3 x4 v_sounds_heldTicks v_sounds_shifts) N (x1, 0)
abbrev rm_X9_mixVoice : Room := { frames := 8, cells := 0, slots := 0, locals := 138 }
theorem zy_X9_mixVoice : zYv yX9_mixVoice RX9 cX9_mixVoice 9 (some .long) 3 := ⟨zw_718, zw_719, zw_527, zw_708, ⟨by decide, by decide⟩, by decide +kernel⟩
set_option maxHeartbeats 4000000 in
set_option maxRecDepth 100000 in
theorem k_X9_mixVoice (l : Launch) (N : Nat) (g : zEnv) (a_this a_score a_history a_text a_sentence a_reader a_sounds a_playing a_score_cells a_sounds_shifts a_sounds_heldTicks : Nat) (v_score_size : Int32) (v_score_cells : Nat → Int32) (v_sounds_heldTicks : Nat → Int32) (v_sounds_shifts : Nat → Int32) (x1 : Int64) (x3 : Int32) (x4 : Int32) (r : Int64) (h : f_X9_mixVoice N v_score_size v_score_cells v_sounds_heldTicks v_sounds_shifts x1 x3 x4 = some (Sum.inl r)) : ZR l yX9_mixVoice cX9_mixVoice 9 (some .long) rm_X9_mixVoice g [.ref a_this, .long x1, .int x3, .int x4] [zo_X9 a_this a_score a_history a_text a_sentence a_reader a_sounds a_playing, zo_X4 a_score a_score_cells v_score_size, zo_X6 a_sounds a_score a_sounds_shifts a_sounds_heldTicks, (a_score_cells, .inl (zI g, 912, .inl v_score_cells)), (a_sounds_heldTicks, .inl (zI g, 768, .inl v_sounds_heldTicks)), (a_sounds_shifts, .inl (zI g, 768, .inl v_sounds_shifts))] (some (.long r)) := by
  refine zR_of (by decide) (Nat.le_of_ble_eq_true rfl) ?_
  intro p e s m below meth c A ls Q R F hRm hr hlocks hP hD hS hl hQ
  subst hRm
  have F : zF p m c cX9_mixVoice 9 s (([.ref a_this, .long x1, .int x3, .int x4] : List Value)).toArray RX9 g A := F
  have hx := F.1.1
  have hb := F.1.2.1
  have hz := F.1.2.2.2.2
  have hl : lv_has ls 9 [(0, .ref a_this), (1, .long x1), (3, .int x3), (4, .int x4)] := hl
  unfold f_X9_mixVoice at h
  refine lv_lload_n hx hb dX9_mixVoice_0 rfl (lv_at hl 1 rfl) ?_
  refine lv_lstore (lv' := [(5, .long x1), (0, .ref a_this), (1, .long x1), (3, .int x3), (4, .int x4)]) hx hb dX9_mixVoice_1 hl (by decide) rfl (fun ls hl => ?_)
  refine lv_iconst (v := 0) hx hb dX9_mixVoice_3 (by decide) ?_
  refine lv_istore (lv' := [(7, .int 0), (5, .long x1), (0, .ref a_this), (1, .long x1), (3, .int x3), (4, .int x4)]) hx hb dX9_mixVoice_4 hl (by decide) rfl (fun ls hl => ?_)
  have l6_ : ∀ (n6_ : Nat) (v6_ : Int64 × Int32), zLoop (f_X9_mixVoice_B6 N v_score_size v_score_cells x3 x4 v_sounds_heldTicks v_sounds_shifts) n6_ v6_ = some (Sum.inl r) → ∀ (ls : Array Slot), lv_has ls 9 [(0, .ref a_this), (3, .int x3), (4, .int x4), (5, .long v6_.1), (7, .int v6_.2)] → W p l e rm_X9_mixVoice s m (([.ref a_this, .long x1, .int x3, .int x4] : List Value)).toArray below meth c s.heap [] 0 0 Q (F0 m 6 ls []) := by
    intro n6_
    induction n6_ with
    | zero => intro v6_ h; cases h
    | succ n6_ ih6_ =>
      intro v6_ h ls hl
      have h : f_X9_mixVoice_B6 N v_score_size v_score_cells x3 x4 v_sounds_heldTicks v_sounds_shifts (zLoop (f_X9_mixVoice_B6 N v_score_size v_score_cells x3 x4 v_sounds_heldTicks v_sounds_shifts) n6_) v6_ = some (Sum.inl r) := h
      unfold f_X9_mixVoice_B6 at h
      refine lv_iload hx hb dX9_mixVoice_6 (lv_at hl 4 rfl) ?_
      refine lv_aload_n hx hb dX9_mixVoice_8 rfl (lv_at hl 0 rfl) ?_
      refine z_get (C := RX9) (T := TX9) (N := 7) (ci := 7) F zu_wsX90 hP 0 rfl rfl 0 (by decide) zw_478 rfl dX9_mixVoice_9 ?_
      refine lv_iload_n hx hb dX9_mixVoice_12 rfl (lv_at hl 1 rfl) ?_
      refine lv_iload hx hb dX9_mixVoice_13 (lv_at hl 2 rfl) ?_
      obtain ⟨r1_, hr1_, h⟩ := z_bind h
      refine zRV F (k_X4_count l N g a_score a_score_cells v_score_size v_score_cells x3 x4 _ hr1_) zy_X4_count zw_552 hP hD hS [1, 3] rfl rfl (q0 := 1) (he := rfl) (hc := rfl) (rest := [.int v6_.2]) rfl hl.1 rfl (Nat.le_of_ble_eq_true rfl) ⟨rfl, rfl⟩ ⟨Nat.le_of_ble_eq_true rfl, Nat.le_of_ble_eq_true rfl⟩ ⟨Nat.zero_le _, Nat.zero_le _⟩ dX9_mixVoice_15 (st1 := [.int r1_, .int v6_.2]) rfl ?_
      refine z_cge (tgt := 62) hx hb dX9_mixVoice_18 (by decide) h (fun h => ?_) (fun h => ?_)
      · refine lv_lload hx hb dX9_mixVoice_62 (lv_at hl 3 rfl) ?_
        obtain rfl := Sum.inl.inj (Option.some.inj h)
        exact zR_l F hr hlocks hQ dX9_mixVoice_64
      · refine lv_iconst (v := 0) hx hb dX9_mixVoice_21 (by decide) ?_
        refine lv_istore (lv' := [(8, .int 0), (0, .ref a_this), (3, .int x3), (4, .int x4), (5, .long v6_.1), (7, .int v6_.2)]) hx hb dX9_mixVoice_22 hl (by decide) rfl (fun ls hl => ?_)
        have l24_ : ∀ (n24_ : Nat) (v24_ : Int64 × Int32), zLoop (f_X9_mixVoice_B24 N v_score_size v_score_cells v_sounds_heldTicks v_sounds_shifts x3 x4 v6_ (zLoop (f_X9_mixVoice_B6 N v_score_size v_score_cells x3 x4 v_sounds_heldTicks v_sounds_shifts) n6_)) n24_ v24_ = some (Sum.inl r) → ∀ (ls : Array Slot), lv_has ls 9 [(0, .ref a_this), (3, .int x3), (4, .int x4), (5, .long v24_.1), (7, .int v6_.2), (8, .int v24_.2)] → W p l e rm_X9_mixVoice s m (([.ref a_this, .long x1, .int x3, .int x4] : List Value)).toArray below meth c s.heap [] 0 0 Q (F0 m 24 ls []) := by
          intro n24_
          induction n24_ with
          | zero => intro v24_ h; cases h
          | succ n24_ ih24_ =>
            intro v24_ h ls hl
            have h : f_X9_mixVoice_B24 N v_score_size v_score_cells v_sounds_heldTicks v_sounds_shifts x3 x4 v6_ (zLoop (f_X9_mixVoice_B6 N v_score_size v_score_cells x3 x4 v_sounds_heldTicks v_sounds_shifts) n6_) (zLoop (f_X9_mixVoice_B24 N v_score_size v_score_cells v_sounds_heldTicks v_sounds_shifts x3 x4 v6_ (zLoop (f_X9_mixVoice_B6 N v_score_size v_score_cells x3 x4 v_sounds_heldTicks v_sounds_shifts) n6_)) n24_) v24_ = some (Sum.inl r) := h
            unfold f_X9_mixVoice_B24 at h
            refine lv_iload hx hb dX9_mixVoice_24 (lv_at hl 5 rfl) ?_
            refine lv_bipush (v := 10) hx hb dX9_mixVoice_26 (by decide) ?_
            refine z_cge (tgt := 56) hx hb dX9_mixVoice_28 (by decide) h (fun h => ?_) (fun h => ?_)
            · refine z_nm h (fun x2_ ex2_ h => ?_)
              refine lv_iinc (v := x2_) (lv' := [(7, .int x2_), (0, .ref a_this), (3, .int x3), (4, .int x4), (5, .long v24_.1), (8, .int v24_.2)]) hx hb dX9_mixVoice_56 hl (k := 4) rfl (by rw [ex2_]; rfl) (by decide) rfl (fun ls hl => ?_)
              refine lv_goto (tgt := 6) hx hb dX9_mixVoice_59 (by decide) ?_
              exact ih6_ _ h _ (lv_sub hl [1, 2, 3, 4, 0] rfl)
            · refine lv_lload hx hb dX9_mixVoice_31 (lv_at hl 3 rfl) ?_
              refine lv_aload_n hx hb dX9_mixVoice_33 rfl (lv_at hl 0 rfl) ?_
              refine lv_iload_n hx hb dX9_mixVoice_34 rfl (lv_at hl 1 rfl) ?_
              refine lv_iload hx hb dX9_mixVoice_35 (lv_at hl 2 rfl) ?_
              refine lv_iload hx hb dX9_mixVoice_37 (lv_at hl 4 rfl) ?_
              refine lv_iload hx hb dX9_mixVoice_39 (lv_at hl 5 rfl) ?_
              obtain ⟨r3_, hr3_, h⟩ := z_subL h
              refine zRV F (k_X9_event l N g a_this a_score a_history a_text a_sentence a_reader a_sounds a_playing a_score_cells a_sounds_shifts a_sounds_heldTicks v_score_size v_score_cells v_sounds_heldTicks v_sounds_shifts x3 x4 v6_.2 v24_.2 _ hr3_) zy_X9_event zw_705 hP hD hS [0, 1, 2, 3, 4, 5] rfl rfl (q0 := 0) (he := rfl) (hc := rfl) (rest := [.long v24_.1]) rfl hl.1 rfl (Nat.le_of_ble_eq_true rfl) ⟨rfl, rfl⟩ ⟨Nat.le_of_ble_eq_true rfl, Nat.le_of_ble_eq_true rfl⟩ ⟨Nat.zero_le _, Nat.zero_le _⟩ dX9_mixVoice_41 (st1 := [.int r3_, .long v24_.1]) rfl ?_
              refine lv_i2l hx hb dX9_mixVoice_44 rfl ?_
              obtain ⟨r4_, hr4_, h⟩ := z_bind h
              refine zRS F (k_X9_mix l N g v24_.1 ((r3_).toInt64) _ hr4_) zy_X9_mix zw_702 hP hD hS [] rfl rfl (rest := []) rfl hl.1 rfl (Nat.le_of_ble_eq_true rfl) ⟨rfl, rfl⟩ ⟨Nat.le_of_ble_eq_true rfl, Nat.le_of_ble_eq_true rfl⟩ ⟨Nat.zero_le _, Nat.zero_le _⟩ dX9_mixVoice_45 (st1 := [.long r4_]) rfl ?_
              refine lv_lstore (lv' := [(5, .long r4_), (0, .ref a_this), (3, .int x3), (4, .int x4), (7, .int v6_.2), (8, .int v24_.2)]) hx hb dX9_mixVoice_48 hl (by decide) rfl (fun ls hl => ?_)
              refine z_nm h (fun x5_ ex5_ h => ?_)
              refine lv_iinc (v := x5_) (lv' := [(8, .int x5_), (5, .long r4_), (0, .ref a_this), (3, .int x3), (4, .int x4), (7, .int v6_.2)]) hx hb dX9_mixVoice_50 hl (k := 5) rfl (by rw [ex5_]; rfl) (by decide) rfl (fun ls hl => ?_)
              refine lv_goto (tgt := 24) hx hb dX9_mixVoice_53 (by decide) ?_
              exact ih24_ _ h _ (lv_sub hl [2, 3, 4, 1, 5, 0] rfl)
        exact l24_ N _ h _ (lv_sub hl [1, 2, 3, 4, 5, 0] rfl)
  exact l6_ N _ h _ (lv_sub hl [2, 4, 5, 1, 0] rfl)
def f_X9_mixSentence_B18 (N : Nat) (r1_ : Int32 × Int32 × (Nat → Int32)) (kh18_ : Int64 × Int32 → Option Int64) (v18_ : Int64 × Int32) : Option Int64 :=
  Option.bind (f_X5_length N r1_.1) (fun (r3_ : Int32) => if v18_.2 < r3_ then Option.bind (f_X5_at N r1_.1 r1_.2.2 v18_.2) (fun (r4_ : Int32) => Option.bind (f_X9_mix N v18_.1 ((r4_).toInt64)) (fun (r5_ : Int64) => Option.bind (some (v18_.2 + 1)) (fun (x6_ : Int32) => kh18_ (r5_, x6_)))) else some v18_.1)
def f_X9_mixSentence (N : Nat) (v_score_size : Int32) (v_sentence_length : Int32) (v_sentence_wordCount : Int32) (v_score_cells : Nat → Int32) (v_sentence_bytes : Nat → Int32) (x1 : Int64) (x3 : Int32) : Option (Int64 × Int32 × Int32 × (Nat → Int32)) :=
  Option.bind (f_X5_tellMeasure N v_sentence_length v_sentence_wordCount v_sentence_bytes v_score_size v_score_cells x3) (fun (r1_ : Int32 × Int32 × (Nat → Int32)) => Option.bind (zLoop (f_X9_mixSentence_B18 N r1_) N (x1, 0)) (fun (r2_ : Int64) => some (r2_, r1_.1, r1_.2.1, r1_.2.2)))
abbrev rm_X9_mixSentence : Room := { frames := 10, cells := 0, slots := 0, locals := 291 }
theorem zy_X9_mixSentence : zYv yX9_mixSentence RX9 cX9_mixSentence 7 (some .long) 2 := ⟨zw_727, zw_728, zw_527, zw_709, ⟨by decide, by decide⟩, by decide +kernel⟩
set_option maxHeartbeats 4000000 in
set_option maxRecDepth 100000 in
theorem k_X9_mixSentence (l : Launch) (N : Nat) (g : zEnv) (a_this a_score a_history a_text a_sentence a_reader a_sounds a_playing a_score_cells a_sentence_bytes : Nat) (v_score_size : Int32) (v_sentence_length : Int32) (v_sentence_wordCount : Int32) (v_score_cells : Nat → Int32) (v_sentence_bytes : Nat → Int32) (x1 : Int64) (x3 : Int32) (r : Int64 × Int32 × Int32 × (Nat → Int32)) (h : f_X9_mixSentence N v_score_size v_sentence_length v_sentence_wordCount v_score_cells v_sentence_bytes x1 x3 = some r) : ZV l yX9_mixSentence cX9_mixSentence 7 (some .long) rm_X9_mixSentence g [.ref a_this, .long x1, .int x3] [zo_X9 a_this a_score a_history a_text a_sentence a_reader a_sounds a_playing, zo_X4 a_score a_score_cells v_score_size, zo_X5 a_sentence a_sentence_bytes v_sentence_length v_sentence_wordCount, (a_score_cells, .inl (zI g, 912, .inl v_score_cells)), (a_sentence_bytes, .inl (zY g, 1702, .inl v_sentence_bytes))] [zo_X9 a_this a_score a_history a_text a_sentence a_reader a_sounds a_playing, zo_X4 a_score a_score_cells v_score_size, zo_X5 a_sentence a_sentence_bytes r.2.1 r.2.2.1, (a_score_cells, .inl (zI g, 912, .inl v_score_cells)), (a_sentence_bytes, .inl (zY g, 1702, .inl r.2.2.2))] (some (.long r.1)) := by
  refine zV_of (by decide) (Nat.le_of_ble_eq_true rfl) ?_
  intro p e s m below meth c A H locs ls Q R F hRm hr hlocks hP hD hS hl hQ
  subst hRm
  have F : zF p m c cX9_mixSentence 7 s (([.ref a_this, .long x1, .int x3] : List Value)).toArray RX9 g A := F
  have hx := F.1.1
  have hb := F.1.2.1
  have hz := F.1.2.2.2.2
  have hl : lv_has ls 7 [(0, .ref a_this), (1, .long x1), (3, .int x3)] := hl
  unfold f_X9_mixSentence at h
  refine lv_lload_n hx hb dX9_mixSentence_0 rfl (lv_at hl 1 rfl) ?_
  refine lv_lstore (lv' := [(4, .long x1), (0, .ref a_this), (1, .long x1), (3, .int x3)]) hx hb dX9_mixSentence_1 hl (by decide) rfl (fun ls hl => ?_)
  refine lv_aload_n hx hb dX9_mixSentence_3 rfl (lv_at hl 1 rfl) ?_
  refine z_get (C := RX9) (T := TX9) (N := 7) (ci := 7) F zu_wsX90 hP 0 rfl rfl 3 (by decide) zw_487 rfl dX9_mixSentence_4 ?_
  refine lv_aload_n hx hb dX9_mixSentence_7 rfl (lv_at hl 1 rfl) ?_
  refine z_get (C := RX9) (T := TX9) (N := 7) (ci := 7) F zu_wsX90 hP 0 rfl rfl 0 (by decide) zw_478 rfl dX9_mixSentence_8 ?_
  refine lv_iload_n hx hb dX9_mixSentence_11 rfl (lv_at hl 3 rfl) ?_
  obtain ⟨r1_, hr1_, h⟩ := z_bind h
  refine zVV F (k_X5_tellMeasure l N g a_sentence a_sentence_bytes a_score a_score_cells v_sentence_length v_sentence_wordCount v_sentence_bytes v_score_size v_score_cells x3 _ hr1_) zy_X5_tellMeasure zw_641 hP hD hS [2, 4, 1, 3] [0] [0, 3, 1, 4, 2] (wr := [zo_X9 a_this a_score a_history a_text a_sentence a_reader a_sounds a_playing]) (W1 := [zo_X9 a_this a_score a_history a_text a_sentence a_reader a_sounds a_playing, zo_X4 a_score a_score_cells v_score_size, zo_X5 a_sentence a_sentence_bytes r1_.1 r1_.2.1, (a_score_cells, .inl (zI g, 912, .inl v_score_cells)), (a_sentence_bytes, .inl (zY g, 1702, .inl r1_.2.2))]) rfl rfl rfl rfl (by decide) rfl rfl (q0 := 2) (he := rfl) (hc := rfl) (rest := []) rfl hl.1 rfl (Nat.le_of_ble_eq_true rfl) ⟨rfl, rfl⟩ ⟨Nat.le_of_ble_eq_true rfl, Nat.le_of_ble_eq_true rfl⟩ ⟨Nat.zero_le _, Nat.zero_le _⟩ dX9_mixSentence_12 (st1 := []) rfl (fun H locs hP hD hS => ?_)
  refine lv_iconst (v := 0) hx hb dX9_mixSentence_15 (by decide) ?_
  refine lv_istore (lv' := [(6, .int 0), (4, .long x1), (0, .ref a_this), (1, .long x1), (3, .int x3)]) hx hb dX9_mixSentence_16 hl (by decide) rfl (fun ls hl => ?_)
  obtain ⟨r2_, hA18_, h⟩ := z_bind h
  have k53_ : ∀ (H : Heap) (locs : List Loc) (ls : Array Slot), va_P (zD g) vwCl [zo_X9 a_this a_score a_history a_text a_sentence a_reader a_sounds a_playing, zo_X4 a_score a_score_cells v_score_size, zo_X5 a_sentence a_sentence_bytes r1_.1 r1_.2.1, (a_score_cells, .inl (zI g, 912, .inl v_score_cells)), (a_sentence_bytes, .inl (zY g, 1702, .inl r1_.2.2))] H → va_D A [zo_X9 a_this a_score a_history a_text a_sentence a_reader a_sounds a_playing, zo_X4 a_score a_score_cells v_score_size, zo_X5 a_sentence a_sentence_bytes r1_.1 r1_.2.1, (a_score_cells, .inl (zI g, 912, .inl v_score_cells)), (a_sentence_bytes, .inl (zY g, 1702, .inl r1_.2.2))] → va_S A s.heap H locs → lv_has ls 7 [(4, .long r2_)] → W p l e rm_X9_mixSentence s m (([.ref a_this, .long x1, .int x3] : List Value)).toArray below meth c H locs 0 0 Q (F0 m 53 ls []) := by
    intro H locs ls hP hD hS hl
    refine lv_lload hx hb dX9_mixSentence_53 (lv_at hl 0 rfl) ?_
    obtain rfl := Option.some.inj h
    exact zV_l F hr hlocks hQ hP hD hS dX9_mixSentence_55
  have h := hA18_
  have l18_ : ∀ (n18_ : Nat) (v18_ : Int64 × Int32), zLoop (f_X9_mixSentence_B18 N r1_) n18_ v18_ = some r2_ → ∀ (H : Heap) (locs : List Loc) (ls : Array Slot), va_P (zD g) vwCl [zo_X9 a_this a_score a_history a_text a_sentence a_reader a_sounds a_playing, zo_X4 a_score a_score_cells v_score_size, zo_X5 a_sentence a_sentence_bytes r1_.1 r1_.2.1, (a_score_cells, .inl (zI g, 912, .inl v_score_cells)), (a_sentence_bytes, .inl (zY g, 1702, .inl r1_.2.2))] H → va_D A [zo_X9 a_this a_score a_history a_text a_sentence a_reader a_sounds a_playing, zo_X4 a_score a_score_cells v_score_size, zo_X5 a_sentence a_sentence_bytes r1_.1 r1_.2.1, (a_score_cells, .inl (zI g, 912, .inl v_score_cells)), (a_sentence_bytes, .inl (zY g, 1702, .inl r1_.2.2))] → va_S A s.heap H locs → lv_has ls 7 [(0, .ref a_this), (4, .long v18_.1), (6, .int v18_.2)] → W p l e rm_X9_mixSentence s m (([.ref a_this, .long x1, .int x3] : List Value)).toArray below meth c H locs 0 0 Q (F0 m 18 ls []) := by
    intro n18_
    induction n18_ with
    | zero => intro v18_ h; cases h
    | succ n18_ ih18_ =>
      intro v18_ h H locs ls hP hD hS hl
      have h : f_X9_mixSentence_B18 N r1_ (zLoop (f_X9_mixSentence_B18 N r1_) n18_) v18_ = some r2_ := h
      unfold f_X9_mixSentence_B18 at h
      refine lv_iload hx hb dX9_mixSentence_18 (lv_at hl 2 rfl) ?_
      refine lv_aload_n hx hb dX9_mixSentence_20 rfl (lv_at hl 0 rfl) ?_
      refine z_get (C := RX9) (T := TX9) (N := 7) (ci := 7) F zu_wsX90 hP 0 rfl rfl 3 (by decide) zw_487 rfl dX9_mixSentence_21 ?_
      obtain ⟨r3_, hr3_, h⟩ := z_bind h
      refine zRV F (k_X5_length l N g a_sentence a_sentence_bytes r1_.2.1 r1_.1 _ hr3_) zy_X5_length zw_644 hP hD hS [2] rfl rfl (q0 := 2) (he := rfl) (hc := rfl) (rest := [.int v18_.2]) rfl hl.1 rfl (Nat.le_of_ble_eq_true rfl) ⟨rfl, rfl⟩ ⟨Nat.le_of_ble_eq_true rfl, Nat.le_of_ble_eq_true rfl⟩ ⟨Nat.zero_le _, Nat.zero_le _⟩ dX9_mixSentence_24 (st1 := [.int r3_, .int v18_.2]) rfl ?_
      refine z_cge (tgt := 53) hx hb dX9_mixSentence_27 (by decide) h (fun h => ?_) (fun h => ?_)
      · obtain rfl := Option.some.inj h
        exact k53_ _ _ _ hP hD hS (lv_sub hl [1] rfl)
      · refine lv_lload hx hb dX9_mixSentence_30 (lv_at hl 1 rfl) ?_
        refine lv_aload_n hx hb dX9_mixSentence_32 rfl (lv_at hl 0 rfl) ?_
        refine z_get (C := RX9) (T := TX9) (N := 7) (ci := 7) F zu_wsX90 hP 0 rfl rfl 3 (by decide) zw_487 rfl dX9_mixSentence_33 ?_
        refine lv_iload hx hb dX9_mixSentence_36 (lv_at hl 2 rfl) ?_
        obtain ⟨r4_, hr4_, h⟩ := z_bind h
        refine zRV F (k_X5_at l N g a_sentence a_sentence_bytes r1_.2.1 r1_.1 r1_.2.2 v18_.2 _ hr4_) zy_X5_at zw_648 hP hD hS [2, 4] rfl rfl (q0 := 2) (he := rfl) (hc := rfl) (rest := [.long v18_.1]) rfl hl.1 rfl (Nat.le_of_ble_eq_true rfl) ⟨rfl, rfl⟩ ⟨Nat.le_of_ble_eq_true rfl, Nat.le_of_ble_eq_true rfl⟩ ⟨Nat.zero_le _, Nat.zero_le _⟩ dX9_mixSentence_38 (st1 := [.int r4_, .long v18_.1]) rfl ?_
        refine lv_i2l hx hb dX9_mixSentence_41 rfl ?_
        obtain ⟨r5_, hr5_, h⟩ := z_bind h
        refine zRS F (k_X9_mix l N g v18_.1 ((r4_).toInt64) _ hr5_) zy_X9_mix zw_702 hP hD hS [] rfl rfl (rest := []) rfl hl.1 rfl (Nat.le_of_ble_eq_true rfl) ⟨rfl, rfl⟩ ⟨Nat.le_of_ble_eq_true rfl, Nat.le_of_ble_eq_true rfl⟩ ⟨Nat.zero_le _, Nat.zero_le _⟩ dX9_mixSentence_42 (st1 := [.long r5_]) rfl ?_
        refine lv_lstore (lv' := [(4, .long r5_), (0, .ref a_this), (6, .int v18_.2)]) hx hb dX9_mixSentence_45 hl (by decide) rfl (fun ls hl => ?_)
        refine z_nm h (fun x6_ ex6_ h => ?_)
        refine lv_iinc (v := x6_) (lv' := [(6, .int x6_), (4, .long r5_), (0, .ref a_this)]) hx hb dX9_mixSentence_47 hl (k := 2) rfl (by rw [ex6_]; rfl) (by decide) rfl (fun ls hl => ?_)
        refine lv_goto (tgt := 18) hx hb dX9_mixSentence_50 (by decide) ?_
        exact ih18_ _ h _ _ _ hP hD hS (lv_sub hl [2, 1, 0] rfl)
  exact l18_ N _ h _ _ _ hP hD hS (lv_sub hl [2, 1, 0] rfl)
def f_X9_digest_B113 (N : Nat) (v_playing_size : Int32) (v_playing_places : Nat → Int32) (kh113_ : Int64 × Int32 → Option Int64) (v113_ : Int64 × Int32) : Option Int64 :=
  Option.bind (f_X2_size N v_playing_size) (fun (r7_ : Int32) => if v113_.2 < r7_ then Option.bind (f_X2_at N v_playing_size v_playing_places v113_.2) (fun (r8_ : Int32) => Option.bind (f_X9_mix N v113_.1 ((r8_).toInt64)) (fun (r9_ : Int64) => Option.bind (some (v113_.2 + 1)) (fun (x10_ : Int32) => kh113_ (r9_, x10_)))) else some v113_.1)
def f_X9_digest_B42 (N : Nat) (v_score_size : Int32) (v_score_cells : Nat → Int32) (v_sounds_heldTicks : Nat → Int32) (v_sounds_shifts : Nat → Int32) (v_playing_size : Int32) (v_playing_places : Nat → Int32) (v_reader_failedAt : Int32) (v_reader_from : Int32) (v_reader_to : Int32) (v_reader_draft_size : Int32) (v_text_length : Int32) (v_reader_draft_cells : Nat → Int32) (v_text_bytes : Nat → Int32) (kh42_ : Int64 × Int32 × Int32 × Int32 × (Nat → Int32) → Option ((Int64 × Int32 × Int32 × Int32 × Int32 × Int32 × Int32 × (Nat → Int32) × (Nat → Int32)) ⊕ Nat)) (v42_ : Int64 × Int32 × Int32 × Int32 × (Nat → Int32)) : Option ((Int64 × Int32 × Int32 × Int32 × Int32 × Int32 × Int32 × (Nat → Int32) × (Nat → Int32)) ⊕ Nat) :=
  Option.bind (f_X4_size N v_score_size) (fun (r3_ : Int32) => if v42_.2.1 < r3_ then zSub (f_X9_mixValues N v_score_size v_score_cells v42_.1 v42_.2.1) (fun (r11_ : Int64) => zSub (f_X9_mixVoice N v_score_size v_score_cells v_sounds_heldTicks v_sounds_shifts r11_ v42_.2.1 0) (fun (r12_ : Int64) => zSub (f_X9_mixVoice N v_score_size v_score_cells v_sounds_heldTicks v_sounds_shifts r12_ v42_.2.1 1) (fun (r13_ : Int64) => zSub (f_X9_crossings N v_score_size v_score_cells v_sounds_shifts v42_.2.1) (fun (r14_ : Int32) => Option.bind (f_X9_mix N r13_ ((r14_).toInt64)) (fun (r15_ : Int64) => zSub (f_X9_timesPlayed N v_playing_size v_score_size v_playing_places v42_.2.1) (fun (r16_ : Int32) => Option.bind (f_X9_mix N r15_ ((r16_).toInt64)) (fun (r17_ : Int64) => Option.bind (f_X9_mixSentence N v_score_size v42_.2.2.1 v42_.2.2.2.1 v_score_cells v42_.2.2.2.2 r17_ v42_.2.1) (fun (r18_ : Int64 × Int32 × Int32 × (Nat → Int32)) => Option.bind (some (v42_.2.1 + 1)) (fun (x19_ : Int32) => kh42_ (r18_.1, x19_, r18_.2.1, r18_.2.2.1, r18_.2.2.2)))))))))) else Option.bind (zLoop (f_X9_digest_B113 N v_playing_size v_playing_places) N (v42_.1, 0)) (fun (r4_ : Int64) => Option.bind (f_X3_findFault N v_reader_failedAt v_reader_from v_reader_to v_reader_draft_size v_text_length v_reader_draft_cells v_text_bytes) (fun (r5_ : Int32 × Int32 × Int32 × Int32 × Int32 × (Nat → Int32)) => Option.bind (f_X9_mix N r4_ ((r5_.1).toInt64)) (fun (r6_ : Int64) => some (Sum.inl (r6_, r5_.2.1, r5_.2.2.1, r5_.2.2.2.1, v42_.2.2.1, v42_.2.2.2.1, r5_.2.2.2.2.1, v42_.2.2.2.2, r5_.2.2.2.2.2))))))
def f_X9_digest_B17 (N : Nat) (v_playing_size : Int32) (v_score_size : Int32) (v_text_length : Int32) (v_playing_places : Nat → Int32) (v_score_cells : Nat → Int32) (v_sounds_heldTicks : Nat → Int32) (v_sounds_shifts : Nat → Int32) (v_reader_failedAt : Int32) (v_reader_from : Int32) (v_reader_to : Int32) (v_reader_draft_size : Int32) (v_reader_draft_cells : Nat → Int32) (v_text_bytes : Nat → Int32) (v_sentence_length : Int32) (v_sentence_wordCount : Int32) (v_sentence_bytes : Nat → Int32) (kh17_ : Int64 × Int32 → Option ((Int64 × Int32 × Int32 × Int32 × Int32 × Int32 × Int32 × (Nat → Int32) × (Nat → Int32)) ⊕ Nat)) (v17_ : Int64 × Int32) : Option ((Int64 × Int32 × Int32 × Int32 × Int32 × Int32 × Int32 × (Nat → Int32) × (Nat → Int32)) ⊕ Nat) :=
  if v17_.2 < 9 then zSub (f_X9_whole N v_playing_size v_score_size v_text_length v_playing_places v_score_cells v_sounds_heldTicks v17_.2) (fun (r20_ : Int32) => Option.bind (f_X9_mix N v17_.1 ((r20_).toInt64)) (fun (r21_ : Int64) => Option.bind (some (v17_.2 + 1)) (fun (x22_ : Int32) => kh17_ (r21_, x22_)))) else zLoop (f_X9_digest_B42 N v_score_size v_score_cells v_sounds_heldTicks v_sounds_shifts v_playing_size v_playing_places v_reader_failedAt v_reader_from v_reader_to v_reader_draft_size v_text_length v_reader_draft_cells v_text_bytes) N (v17_.1, 0, v_sentence_length, v_sentence_wordCount, v_sentence_bytes)
def f_X9_digest (N : Nat) (v_history_size : Int32) (v_playing_size : Int32) (v_reader_failedAt : Int32) (v_reader_from : Int32) (v_reader_to : Int32) (v_score_size : Int32) (v_sentence_length : Int32) (v_sentence_wordCount : Int32) (v_text_length : Int32) (v_playing_places : Nat → Int32) (v_reader_draft_size : Int32) (v_score_cells : Nat → Int32) (v_sentence_bytes : Nat → Int32) (v_sounds_heldTicks : Nat → Int32) (v_sounds_shifts : Nat → Int32) (v_text_bytes : Nat → Int32) (v_reader_draft_cells : Nat → Int32) : Option ((Int64 × Int32 × Int32 × Int32 × Int32 × Int32 × Int32 × (Nat → Int32) × (Nat → Int32)) ⊕ Nat) :=
  Option.bind (f_X1_size N v_history_size) (fun (r1_ : Int32) => Option.bind (f_X9_mix N (43179) ((r1_).toInt64)) (fun (r2_ : Int64) => zLoop (f_X9_digest_B17 N v_playing_size v_score_size v_text_length v_playing_places v_score_cells v_sounds_heldTicks v_sounds_shifts v_reader_failedAt v_reader_from v_reader_to v_reader_draft_size v_reader_draft_cells v_text_bytes v_sentence_length v_sentence_wordCount v_sentence_bytes) N (r2_, 0)))
abbrev rm_X9_digest : Room := { frames := 12, cells := 0, slots := 0, locals := 334 }
theorem zy_X9_digest : zYv yX9_digest RX9 cX9_digest 4 (some .long) 0 := ⟨zw_836, zw_837, zw_527, zw_729, ⟨by decide, by decide⟩, by decide +kernel⟩
set_option maxHeartbeats 4000000 in
set_option maxRecDepth 100000 in
theorem k_X9_digest (l : Launch) (N : Nat) (g : zEnv) (a_this a_score a_history a_text a_sentence a_reader a_sounds a_playing a_history_saved a_history_s0 a_history_s1 a_history_s2 a_history_s3 a_playing_places a_reader_draft a_score_cells a_sentence_bytes a_sounds_shifts a_sounds_heldTicks a_text_bytes a_reader_draft_cells : Nat) (v_history_next : Int32) (v_history_size : Int32) (v_playing_size : Int32) (v_reader_failedAt : Int32) (v_reader_from : Int32) (v_reader_to : Int32) (v_score_size : Int32) (v_sentence_length : Int32) (v_sentence_wordCount : Int32) (v_text_length : Int32) (v_playing_places : Nat → Int32) (v_reader_draft_size : Int32) (v_score_cells : Nat → Int32) (v_sentence_bytes : Nat → Int32) (v_sounds_heldTicks : Nat → Int32) (v_sounds_shifts : Nat → Int32) (v_text_bytes : Nat → Int32) (v_reader_draft_cells : Nat → Int32) (r : Int64 × Int32 × Int32 × Int32 × Int32 × Int32 × Int32 × (Nat → Int32) × (Nat → Int32)) (h : f_X9_digest N v_history_size v_playing_size v_reader_failedAt v_reader_from v_reader_to v_score_size v_sentence_length v_sentence_wordCount v_text_length v_playing_places v_reader_draft_size v_score_cells v_sentence_bytes v_sounds_heldTicks v_sounds_shifts v_text_bytes v_reader_draft_cells = some (Sum.inl r)) : ZV l yX9_digest cX9_digest 4 (some .long) rm_X9_digest g [.ref a_this] [zo_X9 a_this a_score a_history a_text a_sentence a_reader a_sounds a_playing, zo_X1 a_history a_history_saved v_history_size v_history_next, zo_X2 a_playing a_playing_places v_playing_size, zo_X3 a_reader a_text a_reader_draft v_reader_from v_reader_to v_reader_failedAt, zo_X4 a_score a_score_cells v_score_size, zo_X5 a_sentence a_sentence_bytes v_sentence_length v_sentence_wordCount, zo_X6 a_sounds a_score a_sounds_shifts a_sounds_heldTicks, zo_X7 a_text a_text_bytes v_text_length, (a_playing_places, .inl (zI g, 200, .inl v_playing_places)), zo_X4 a_reader_draft a_reader_draft_cells v_reader_draft_size, (a_score_cells, .inl (zI g, 912, .inl v_score_cells)), (a_sentence_bytes, .inl (zY g, 1702, .inl v_sentence_bytes)), (a_sounds_heldTicks, .inl (zI g, 768, .inl v_sounds_heldTicks)), (a_sounds_shifts, .inl (zI g, 768, .inl v_sounds_shifts)), (a_text_bytes, .inl (zY g, 600, .inl v_text_bytes)), (a_reader_draft_cells, .inl (zI g, 912, .inl v_reader_draft_cells))] [zo_X9 a_this a_score a_history a_text a_sentence a_reader a_sounds a_playing, zo_X1 a_history a_history_saved v_history_size v_history_next, zo_X2 a_playing a_playing_places v_playing_size, zo_X3 a_reader a_text a_reader_draft r.2.2.1 r.2.2.2.1 r.2.1, zo_X4 a_score a_score_cells v_score_size, zo_X5 a_sentence a_sentence_bytes r.2.2.2.2.1 r.2.2.2.2.2.1, zo_X6 a_sounds a_score a_sounds_shifts a_sounds_heldTicks, zo_X7 a_text a_text_bytes v_text_length, (a_playing_places, .inl (zI g, 200, .inl v_playing_places)), zo_X4 a_reader_draft a_reader_draft_cells r.2.2.2.2.2.2.1, (a_score_cells, .inl (zI g, 912, .inl v_score_cells)), (a_sentence_bytes, .inl (zY g, 1702, .inl r.2.2.2.2.2.2.2.1)), (a_sounds_heldTicks, .inl (zI g, 768, .inl v_sounds_heldTicks)), (a_sounds_shifts, .inl (zI g, 768, .inl v_sounds_shifts)), (a_text_bytes, .inl (zY g, 600, .inl v_text_bytes)), (a_reader_draft_cells, .inl (zI g, 912, .inl r.2.2.2.2.2.2.2.2))] (some (.long r.1)) := by
  refine zV_of (by decide) (Nat.le_of_ble_eq_true rfl) ?_
  intro p e s m below meth c A H locs ls Q R F hRm hr hlocks hP hD hS hl hQ
  subst hRm
  have F : zF p m c cX9_digest 4 s (([.ref a_this] : List Value)).toArray RX9 g A := F
  have hx := F.1.1
  have hb := F.1.2.1
  have hz := F.1.2.2.2.2
  have hl : lv_has ls 4 [(0, .ref a_this)] := hl
  unfold f_X9_digest at h
  refine lv_ldc2 hx hb F.1.2.2.2.1 (hz _ zw_710) dX9_digest_0 ?_
  refine lv_aload_n hx hb dX9_digest_3 rfl (lv_at hl 0 rfl) ?_
  refine z_get (C := RX9) (T := TX9) (N := 7) (ci := 7) F zu_wsX90 hP 0 rfl rfl 1 (by decide) zw_481 rfl dX9_digest_4 ?_
  obtain ⟨r1_, hr1_, h⟩ := z_bind h
  refine zRV F (k_X1_size l N g a_history a_history_saved a_history_s0 a_history_s1 a_history_s2 a_history_s3 v_history_next v_history_size _ hr1_) zy_X1_size zw_690 hP hD hS [1] rfl rfl (q0 := 1) (he := rfl) (hc := rfl) (rest := [.long (43179)]) rfl hl.1 rfl (Nat.le_of_ble_eq_true rfl) ⟨rfl, rfl⟩ ⟨Nat.le_of_ble_eq_true rfl, Nat.le_of_ble_eq_true rfl⟩ ⟨Nat.zero_le _, Nat.zero_le _⟩ dX9_digest_7 (st1 := [.int r1_, .long (43179)]) rfl ?_
  refine lv_i2l hx hb dX9_digest_10 rfl ?_
  obtain ⟨r2_, hr2_, h⟩ := z_bind h
  refine zRS F (k_X9_mix l N g (43179) ((r1_).toInt64) _ hr2_) zy_X9_mix zw_702 hP hD hS [] rfl rfl (rest := []) rfl hl.1 rfl (Nat.le_of_ble_eq_true rfl) ⟨rfl, rfl⟩ ⟨Nat.le_of_ble_eq_true rfl, Nat.le_of_ble_eq_true rfl⟩ ⟨Nat.zero_le _, Nat.zero_le _⟩ dX9_digest_11 (st1 := [.long r2_]) rfl ?_
  refine lv_lstore_n (lv' := [(1, .long r2_), (0, .ref a_this)]) hx hb dX9_digest_14 rfl hl (by decide) rfl (fun ls hl => ?_)
  refine lv_iconst (v := 0) hx hb dX9_digest_15 (by decide) ?_
  refine lv_istore_n (lv' := [(3, .int 0), (1, .long r2_), (0, .ref a_this)]) hx hb dX9_digest_16 rfl hl (by decide) rfl (fun ls hl => ?_)
  have l17_ : ∀ (n17_ : Nat) (v17_ : Int64 × Int32), zLoop (f_X9_digest_B17 N v_playing_size v_score_size v_text_length v_playing_places v_score_cells v_sounds_heldTicks v_sounds_shifts v_reader_failedAt v_reader_from v_reader_to v_reader_draft_size v_reader_draft_cells v_text_bytes v_sentence_length v_sentence_wordCount v_sentence_bytes) n17_ v17_ = some (Sum.inl r) → ∀ (H : Heap) (locs : List Loc) (ls : Array Slot), va_P (zD g) vwCl [zo_X9 a_this a_score a_history a_text a_sentence a_reader a_sounds a_playing, zo_X1 a_history a_history_saved v_history_size v_history_next, zo_X2 a_playing a_playing_places v_playing_size, zo_X3 a_reader a_text a_reader_draft v_reader_from v_reader_to v_reader_failedAt, zo_X4 a_score a_score_cells v_score_size, zo_X5 a_sentence a_sentence_bytes v_sentence_length v_sentence_wordCount, zo_X6 a_sounds a_score a_sounds_shifts a_sounds_heldTicks, zo_X7 a_text a_text_bytes v_text_length, (a_playing_places, .inl (zI g, 200, .inl v_playing_places)), zo_X4 a_reader_draft a_reader_draft_cells v_reader_draft_size, (a_score_cells, .inl (zI g, 912, .inl v_score_cells)), (a_sentence_bytes, .inl (zY g, 1702, .inl v_sentence_bytes)), (a_sounds_heldTicks, .inl (zI g, 768, .inl v_sounds_heldTicks)), (a_sounds_shifts, .inl (zI g, 768, .inl v_sounds_shifts)), (a_text_bytes, .inl (zY g, 600, .inl v_text_bytes)), (a_reader_draft_cells, .inl (zI g, 912, .inl v_reader_draft_cells))] H → va_D A [zo_X9 a_this a_score a_history a_text a_sentence a_reader a_sounds a_playing, zo_X1 a_history a_history_saved v_history_size v_history_next, zo_X2 a_playing a_playing_places v_playing_size, zo_X3 a_reader a_text a_reader_draft v_reader_from v_reader_to v_reader_failedAt, zo_X4 a_score a_score_cells v_score_size, zo_X5 a_sentence a_sentence_bytes v_sentence_length v_sentence_wordCount, zo_X6 a_sounds a_score a_sounds_shifts a_sounds_heldTicks, zo_X7 a_text a_text_bytes v_text_length, (a_playing_places, .inl (zI g, 200, .inl v_playing_places)), zo_X4 a_reader_draft a_reader_draft_cells v_reader_draft_size, (a_score_cells, .inl (zI g, 912, .inl v_score_cells)), (a_sentence_bytes, .inl (zY g, 1702, .inl v_sentence_bytes)), (a_sounds_heldTicks, .inl (zI g, 768, .inl v_sounds_heldTicks)), (a_sounds_shifts, .inl (zI g, 768, .inl v_sounds_shifts)), (a_text_bytes, .inl (zY g, 600, .inl v_text_bytes)), (a_reader_draft_cells, .inl (zI g, 912, .inl v_reader_draft_cells))] → va_S A s.heap H locs → lv_has ls 4 [(0, .ref a_this), (1, .long v17_.1), (3, .int v17_.2)] → W p l e rm_X9_digest s m (([.ref a_this] : List Value)).toArray below meth c H locs 0 0 Q (F0 m 17 ls []) := by
    intro n17_
    induction n17_ with
    | zero => intro v17_ h; cases h
    | succ n17_ ih17_ =>
      intro v17_ h H locs ls hP hD hS hl
      have h : f_X9_digest_B17 N v_playing_size v_score_size v_text_length v_playing_places v_score_cells v_sounds_heldTicks v_sounds_shifts v_reader_failedAt v_reader_from v_reader_to v_reader_draft_size v_reader_draft_cells v_text_bytes v_sentence_length v_sentence_wordCount v_sentence_bytes (zLoop (f_X9_digest_B17 N v_playing_size v_score_size v_text_length v_playing_places v_score_cells v_sounds_heldTicks v_sounds_shifts v_reader_failedAt v_reader_from v_reader_to v_reader_draft_size v_reader_draft_cells v_text_bytes v_sentence_length v_sentence_wordCount v_sentence_bytes) n17_) v17_ = some (Sum.inl r) := h
      unfold f_X9_digest_B17 at h
      refine lv_iload_n hx hb dX9_digest_17 rfl (lv_at hl 2 rfl) ?_
      refine lv_bipush (v := 9) hx hb dX9_digest_18 (by decide) ?_
      refine z_cge (tgt := 40) hx hb dX9_digest_20 (by decide) h (fun h => ?_) (fun h => ?_)
      · refine lv_iconst (v := 0) hx hb dX9_digest_40 (by decide) ?_
        refine lv_istore_n (lv' := [(3, .int 0), (0, .ref a_this), (1, .long v17_.1)]) hx hb dX9_digest_41 rfl hl (by decide) rfl (fun ls hl => ?_)
        have l42_ : ∀ (n42_ : Nat) (v42_ : Int64 × Int32 × Int32 × Int32 × (Nat → Int32)), zLoop (f_X9_digest_B42 N v_score_size v_score_cells v_sounds_heldTicks v_sounds_shifts v_playing_size v_playing_places v_reader_failedAt v_reader_from v_reader_to v_reader_draft_size v_text_length v_reader_draft_cells v_text_bytes) n42_ v42_ = some (Sum.inl r) → ∀ (H : Heap) (locs : List Loc) (ls : Array Slot), va_P (zD g) vwCl [zo_X9 a_this a_score a_history a_text a_sentence a_reader a_sounds a_playing, zo_X1 a_history a_history_saved v_history_size v_history_next, zo_X2 a_playing a_playing_places v_playing_size, zo_X3 a_reader a_text a_reader_draft v_reader_from v_reader_to v_reader_failedAt, zo_X4 a_score a_score_cells v_score_size, zo_X5 a_sentence a_sentence_bytes v42_.2.2.1 v42_.2.2.2.1, zo_X6 a_sounds a_score a_sounds_shifts a_sounds_heldTicks, zo_X7 a_text a_text_bytes v_text_length, (a_playing_places, .inl (zI g, 200, .inl v_playing_places)), zo_X4 a_reader_draft a_reader_draft_cells v_reader_draft_size, (a_score_cells, .inl (zI g, 912, .inl v_score_cells)), (a_sentence_bytes, .inl (zY g, 1702, .inl v42_.2.2.2.2)), (a_sounds_heldTicks, .inl (zI g, 768, .inl v_sounds_heldTicks)), (a_sounds_shifts, .inl (zI g, 768, .inl v_sounds_shifts)), (a_text_bytes, .inl (zY g, 600, .inl v_text_bytes)), (a_reader_draft_cells, .inl (zI g, 912, .inl v_reader_draft_cells))] H → va_D A [zo_X9 a_this a_score a_history a_text a_sentence a_reader a_sounds a_playing, zo_X1 a_history a_history_saved v_history_size v_history_next, zo_X2 a_playing a_playing_places v_playing_size, zo_X3 a_reader a_text a_reader_draft v_reader_from v_reader_to v_reader_failedAt, zo_X4 a_score a_score_cells v_score_size, zo_X5 a_sentence a_sentence_bytes v42_.2.2.1 v42_.2.2.2.1, zo_X6 a_sounds a_score a_sounds_shifts a_sounds_heldTicks, zo_X7 a_text a_text_bytes v_text_length, (a_playing_places, .inl (zI g, 200, .inl v_playing_places)), zo_X4 a_reader_draft a_reader_draft_cells v_reader_draft_size, (a_score_cells, .inl (zI g, 912, .inl v_score_cells)), (a_sentence_bytes, .inl (zY g, 1702, .inl v42_.2.2.2.2)), (a_sounds_heldTicks, .inl (zI g, 768, .inl v_sounds_heldTicks)), (a_sounds_shifts, .inl (zI g, 768, .inl v_sounds_shifts)), (a_text_bytes, .inl (zY g, 600, .inl v_text_bytes)), (a_reader_draft_cells, .inl (zI g, 912, .inl v_reader_draft_cells))] → va_S A s.heap H locs → lv_has ls 4 [(0, .ref a_this), (1, .long v42_.1), (3, .int v42_.2.1)] → W p l e rm_X9_digest s m (([.ref a_this] : List Value)).toArray below meth c H locs 0 0 Q (F0 m 42 ls []) := by
          intro n42_
          induction n42_ with
          | zero => intro v42_ h; cases h
          | succ n42_ ih42_ =>
            intro v42_ h H locs ls hP hD hS hl
            have h : f_X9_digest_B42 N v_score_size v_score_cells v_sounds_heldTicks v_sounds_shifts v_playing_size v_playing_places v_reader_failedAt v_reader_from v_reader_to v_reader_draft_size v_text_length v_reader_draft_cells v_text_bytes (zLoop (f_X9_digest_B42 N v_score_size v_score_cells v_sounds_heldTicks v_sounds_shifts v_playing_size v_playing_places v_reader_failedAt v_reader_from v_reader_to v_reader_draft_size v_text_length v_reader_draft_cells v_text_bytes) n42_) v42_ = some (Sum.inl r) := h
            unfold f_X9_digest_B42 at h
            refine lv_iload_n hx hb dX9_digest_42 rfl (lv_at hl 2 rfl) ?_
            refine lv_aload_n hx hb dX9_digest_43 rfl (lv_at hl 0 rfl) ?_
            refine z_get (C := RX9) (T := TX9) (N := 7) (ci := 7) F zu_wsX90 hP 0 rfl rfl 0 (by decide) zw_478 rfl dX9_digest_44 ?_
            obtain ⟨r3_, hr3_, h⟩ := z_bind h
            refine zRV F (k_X4_size l N g a_score a_score_cells v_score_size _ hr3_) zy_X4_size zw_528 hP hD hS [4] rfl rfl (q0 := 4) (he := rfl) (hc := rfl) (rest := [.int v42_.2.1]) rfl hl.1 rfl (Nat.le_of_ble_eq_true rfl) ⟨rfl, rfl⟩ ⟨Nat.le_of_ble_eq_true rfl, Nat.le_of_ble_eq_true rfl⟩ ⟨Nat.zero_le _, Nat.zero_le _⟩ dX9_digest_47 (st1 := [.int r3_, .int v42_.2.1]) rfl ?_
            refine z_cge (tgt := 111) hx hb dX9_digest_50 (by decide) h (fun h => ?_) (fun h => ?_)
            · refine lv_iconst (v := 0) hx hb dX9_digest_111 (by decide) ?_
              refine lv_istore_n (lv' := [(3, .int 0), (0, .ref a_this), (1, .long v42_.1)]) hx hb dX9_digest_112 rfl hl (by decide) rfl (fun ls hl => ?_)
              obtain ⟨r4_, hA113_, h⟩ := z_bind h
              have k144_ : ∀ (H : Heap) (locs : List Loc) (ls : Array Slot), va_P (zD g) vwCl [zo_X9 a_this a_score a_history a_text a_sentence a_reader a_sounds a_playing, zo_X1 a_history a_history_saved v_history_size v_history_next, zo_X2 a_playing a_playing_places v_playing_size, zo_X3 a_reader a_text a_reader_draft v_reader_from v_reader_to v_reader_failedAt, zo_X4 a_score a_score_cells v_score_size, zo_X5 a_sentence a_sentence_bytes v42_.2.2.1 v42_.2.2.2.1, zo_X6 a_sounds a_score a_sounds_shifts a_sounds_heldTicks, zo_X7 a_text a_text_bytes v_text_length, (a_playing_places, .inl (zI g, 200, .inl v_playing_places)), zo_X4 a_reader_draft a_reader_draft_cells v_reader_draft_size, (a_score_cells, .inl (zI g, 912, .inl v_score_cells)), (a_sentence_bytes, .inl (zY g, 1702, .inl v42_.2.2.2.2)), (a_sounds_heldTicks, .inl (zI g, 768, .inl v_sounds_heldTicks)), (a_sounds_shifts, .inl (zI g, 768, .inl v_sounds_shifts)), (a_text_bytes, .inl (zY g, 600, .inl v_text_bytes)), (a_reader_draft_cells, .inl (zI g, 912, .inl v_reader_draft_cells))] H → va_D A [zo_X9 a_this a_score a_history a_text a_sentence a_reader a_sounds a_playing, zo_X1 a_history a_history_saved v_history_size v_history_next, zo_X2 a_playing a_playing_places v_playing_size, zo_X3 a_reader a_text a_reader_draft v_reader_from v_reader_to v_reader_failedAt, zo_X4 a_score a_score_cells v_score_size, zo_X5 a_sentence a_sentence_bytes v42_.2.2.1 v42_.2.2.2.1, zo_X6 a_sounds a_score a_sounds_shifts a_sounds_heldTicks, zo_X7 a_text a_text_bytes v_text_length, (a_playing_places, .inl (zI g, 200, .inl v_playing_places)), zo_X4 a_reader_draft a_reader_draft_cells v_reader_draft_size, (a_score_cells, .inl (zI g, 912, .inl v_score_cells)), (a_sentence_bytes, .inl (zY g, 1702, .inl v42_.2.2.2.2)), (a_sounds_heldTicks, .inl (zI g, 768, .inl v_sounds_heldTicks)), (a_sounds_shifts, .inl (zI g, 768, .inl v_sounds_shifts)), (a_text_bytes, .inl (zY g, 600, .inl v_text_bytes)), (a_reader_draft_cells, .inl (zI g, 912, .inl v_reader_draft_cells))] → va_S A s.heap H locs → lv_has ls 4 [(0, .ref a_this), (1, .long r4_)] → W p l e rm_X9_digest s m (([.ref a_this] : List Value)).toArray below meth c H locs 0 0 Q (F0 m 144 ls []) := by
                intro H locs ls hP hD hS hl
                refine lv_lload_n hx hb dX9_digest_144 rfl (lv_at hl 1 rfl) ?_
                refine lv_aload_n hx hb dX9_digest_145 rfl (lv_at hl 0 rfl) ?_
                refine z_get (C := RX9) (T := TX9) (N := 7) (ci := 7) F zu_wsX90 hP 0 rfl rfl 4 (by decide) zw_490 rfl dX9_digest_146 ?_
                obtain ⟨r5_, hr5_, h⟩ := z_bind h
                refine zVV F (k_X3_findFault l N g a_reader a_text a_reader_draft a_reader_draft_cells a_text_bytes v_reader_failedAt v_reader_from v_reader_to v_reader_draft_size v_text_length v_reader_draft_cells v_text_bytes _ hr5_) zy_X3_findFault zw_666 hP hD hS [3, 9, 7, 15, 14] [0, 1, 2, 4, 5, 6, 8, 10, 11, 12, 13] [0, 1, 2, 11, 3, 4, 5, 13, 6, 12, 7, 8, 9, 10, 15, 14] (wr := [zo_X9 a_this a_score a_history a_text a_sentence a_reader a_sounds a_playing, zo_X1 a_history a_history_saved v_history_size v_history_next, zo_X2 a_playing a_playing_places v_playing_size, zo_X4 a_score a_score_cells v_score_size, zo_X5 a_sentence a_sentence_bytes v42_.2.2.1 v42_.2.2.2.1, zo_X6 a_sounds a_score a_sounds_shifts a_sounds_heldTicks, (a_playing_places, .inl (zI g, 200, .inl v_playing_places)), (a_score_cells, .inl (zI g, 912, .inl v_score_cells)), (a_sentence_bytes, .inl (zY g, 1702, .inl v42_.2.2.2.2)), (a_sounds_heldTicks, .inl (zI g, 768, .inl v_sounds_heldTicks)), (a_sounds_shifts, .inl (zI g, 768, .inl v_sounds_shifts))]) (W1 := [zo_X9 a_this a_score a_history a_text a_sentence a_reader a_sounds a_playing, zo_X1 a_history a_history_saved v_history_size v_history_next, zo_X2 a_playing a_playing_places v_playing_size, zo_X3 a_reader a_text a_reader_draft r5_.2.2.1 r5_.2.2.2.1 r5_.2.1, zo_X4 a_score a_score_cells v_score_size, zo_X5 a_sentence a_sentence_bytes v42_.2.2.1 v42_.2.2.2.1, zo_X6 a_sounds a_score a_sounds_shifts a_sounds_heldTicks, zo_X7 a_text a_text_bytes v_text_length, (a_playing_places, .inl (zI g, 200, .inl v_playing_places)), zo_X4 a_reader_draft a_reader_draft_cells r5_.2.2.2.2.1, (a_score_cells, .inl (zI g, 912, .inl v_score_cells)), (a_sentence_bytes, .inl (zY g, 1702, .inl v42_.2.2.2.2)), (a_sounds_heldTicks, .inl (zI g, 768, .inl v_sounds_heldTicks)), (a_sounds_shifts, .inl (zI g, 768, .inl v_sounds_shifts)), (a_text_bytes, .inl (zY g, 600, .inl v_text_bytes)), (a_reader_draft_cells, .inl (zI g, 912, .inl r5_.2.2.2.2.2))]) rfl rfl rfl rfl (by decide) rfl rfl (q0 := 3) (he := rfl) (hc := rfl) (rest := [.long r4_]) rfl hl.1 rfl (Nat.le_of_ble_eq_true rfl) ⟨rfl, rfl⟩ ⟨Nat.le_of_ble_eq_true rfl, Nat.le_of_ble_eq_true rfl⟩ ⟨Nat.zero_le _, Nat.zero_le _⟩ dX9_digest_149 (st1 := [.int r5_.1, .long r4_]) rfl (fun H locs hP hD hS => ?_)
                refine lv_i2l hx hb dX9_digest_152 rfl ?_
                obtain ⟨r6_, hr6_, h⟩ := z_bind h
                refine zRS F (k_X9_mix l N g r4_ ((r5_.1).toInt64) _ hr6_) zy_X9_mix zw_702 hP hD hS [] rfl rfl (rest := []) rfl hl.1 rfl (Nat.le_of_ble_eq_true rfl) ⟨rfl, rfl⟩ ⟨Nat.le_of_ble_eq_true rfl, Nat.le_of_ble_eq_true rfl⟩ ⟨Nat.zero_le _, Nat.zero_le _⟩ dX9_digest_153 (st1 := [.long r6_]) rfl ?_
                obtain rfl := Sum.inl.inj (Option.some.inj h)
                exact zV_l F hr hlocks hQ hP hD hS dX9_digest_156
              have h := hA113_
              have l113_ : ∀ (n113_ : Nat) (v113_ : Int64 × Int32), zLoop (f_X9_digest_B113 N v_playing_size v_playing_places) n113_ v113_ = some r4_ → ∀ (H : Heap) (locs : List Loc) (ls : Array Slot), va_P (zD g) vwCl [zo_X9 a_this a_score a_history a_text a_sentence a_reader a_sounds a_playing, zo_X1 a_history a_history_saved v_history_size v_history_next, zo_X2 a_playing a_playing_places v_playing_size, zo_X3 a_reader a_text a_reader_draft v_reader_from v_reader_to v_reader_failedAt, zo_X4 a_score a_score_cells v_score_size, zo_X5 a_sentence a_sentence_bytes v42_.2.2.1 v42_.2.2.2.1, zo_X6 a_sounds a_score a_sounds_shifts a_sounds_heldTicks, zo_X7 a_text a_text_bytes v_text_length, (a_playing_places, .inl (zI g, 200, .inl v_playing_places)), zo_X4 a_reader_draft a_reader_draft_cells v_reader_draft_size, (a_score_cells, .inl (zI g, 912, .inl v_score_cells)), (a_sentence_bytes, .inl (zY g, 1702, .inl v42_.2.2.2.2)), (a_sounds_heldTicks, .inl (zI g, 768, .inl v_sounds_heldTicks)), (a_sounds_shifts, .inl (zI g, 768, .inl v_sounds_shifts)), (a_text_bytes, .inl (zY g, 600, .inl v_text_bytes)), (a_reader_draft_cells, .inl (zI g, 912, .inl v_reader_draft_cells))] H → va_D A [zo_X9 a_this a_score a_history a_text a_sentence a_reader a_sounds a_playing, zo_X1 a_history a_history_saved v_history_size v_history_next, zo_X2 a_playing a_playing_places v_playing_size, zo_X3 a_reader a_text a_reader_draft v_reader_from v_reader_to v_reader_failedAt, zo_X4 a_score a_score_cells v_score_size, zo_X5 a_sentence a_sentence_bytes v42_.2.2.1 v42_.2.2.2.1, zo_X6 a_sounds a_score a_sounds_shifts a_sounds_heldTicks, zo_X7 a_text a_text_bytes v_text_length, (a_playing_places, .inl (zI g, 200, .inl v_playing_places)), zo_X4 a_reader_draft a_reader_draft_cells v_reader_draft_size, (a_score_cells, .inl (zI g, 912, .inl v_score_cells)), (a_sentence_bytes, .inl (zY g, 1702, .inl v42_.2.2.2.2)), (a_sounds_heldTicks, .inl (zI g, 768, .inl v_sounds_heldTicks)), (a_sounds_shifts, .inl (zI g, 768, .inl v_sounds_shifts)), (a_text_bytes, .inl (zY g, 600, .inl v_text_bytes)), (a_reader_draft_cells, .inl (zI g, 912, .inl v_reader_draft_cells))] → va_S A s.heap H locs → lv_has ls 4 [(0, .ref a_this), (1, .long v113_.1), (3, .int v113_.2)] → W p l e rm_X9_digest s m (([.ref a_this] : List Value)).toArray below meth c H locs 0 0 Q (F0 m 113 ls []) := by
                intro n113_
                induction n113_ with
                | zero => intro v113_ h; cases h
                | succ n113_ ih113_ =>
                  intro v113_ h H locs ls hP hD hS hl
                  have h : f_X9_digest_B113 N v_playing_size v_playing_places (zLoop (f_X9_digest_B113 N v_playing_size v_playing_places) n113_) v113_ = some r4_ := h
                  unfold f_X9_digest_B113 at h
                  refine lv_iload_n hx hb dX9_digest_113 rfl (lv_at hl 2 rfl) ?_
                  refine lv_aload_n hx hb dX9_digest_114 rfl (lv_at hl 0 rfl) ?_
                  refine z_get (C := RX9) (T := TX9) (N := 7) (ci := 7) F zu_wsX90 hP 0 rfl rfl 6 (by decide) zw_496 rfl dX9_digest_115 ?_
                  obtain ⟨r7_, hr7_, h⟩ := z_bind h
                  refine zRV F (k_X2_size l N g a_playing a_playing_places v_playing_size _ hr7_) zy_X2_size zw_616 hP hD hS [2] rfl rfl (q0 := 2) (he := rfl) (hc := rfl) (rest := [.int v113_.2]) rfl hl.1 rfl (Nat.le_of_ble_eq_true rfl) ⟨rfl, rfl⟩ ⟨Nat.le_of_ble_eq_true rfl, Nat.le_of_ble_eq_true rfl⟩ ⟨Nat.zero_le _, Nat.zero_le _⟩ dX9_digest_118 (st1 := [.int r7_, .int v113_.2]) rfl ?_
                  refine z_cge (tgt := 144) hx hb dX9_digest_121 (by decide) h (fun h => ?_) (fun h => ?_)
                  · obtain rfl := Option.some.inj h
                    exact k144_ _ _ _ hP hD hS (lv_sub hl [0, 1] rfl)
                  · refine lv_lload_n hx hb dX9_digest_124 rfl (lv_at hl 1 rfl) ?_
                    refine lv_aload_n hx hb dX9_digest_125 rfl (lv_at hl 0 rfl) ?_
                    refine z_get (C := RX9) (T := TX9) (N := 7) (ci := 7) F zu_wsX90 hP 0 rfl rfl 6 (by decide) zw_496 rfl dX9_digest_126 ?_
                    refine lv_iload_n hx hb dX9_digest_129 rfl (lv_at hl 2 rfl) ?_
                    obtain ⟨r8_, hr8_, h⟩ := z_bind h
                    refine zRV F (k_X2_at l N g a_playing a_playing_places v_playing_size v_playing_places v113_.2 _ hr8_) zy_X2_at zw_627 hP hD hS [2, 8] rfl rfl (q0 := 2) (he := rfl) (hc := rfl) (rest := [.long v113_.1]) rfl hl.1 rfl (Nat.le_of_ble_eq_true rfl) ⟨rfl, rfl⟩ ⟨Nat.le_of_ble_eq_true rfl, Nat.le_of_ble_eq_true rfl⟩ ⟨Nat.zero_le _, Nat.zero_le _⟩ dX9_digest_130 (st1 := [.int r8_, .long v113_.1]) rfl ?_
                    refine lv_i2l hx hb dX9_digest_133 rfl ?_
                    obtain ⟨r9_, hr9_, h⟩ := z_bind h
                    refine zRS F (k_X9_mix l N g v113_.1 ((r8_).toInt64) _ hr9_) zy_X9_mix zw_702 hP hD hS [] rfl rfl (rest := []) rfl hl.1 rfl (Nat.le_of_ble_eq_true rfl) ⟨rfl, rfl⟩ ⟨Nat.le_of_ble_eq_true rfl, Nat.le_of_ble_eq_true rfl⟩ ⟨Nat.zero_le _, Nat.zero_le _⟩ dX9_digest_134 (st1 := [.long r9_]) rfl ?_
                    refine lv_lstore_n (lv' := [(1, .long r9_), (0, .ref a_this), (3, .int v113_.2)]) hx hb dX9_digest_137 rfl hl (by decide) rfl (fun ls hl => ?_)
                    refine z_nm h (fun x10_ ex10_ h => ?_)
                    refine lv_iinc (v := x10_) (lv' := [(3, .int x10_), (1, .long r9_), (0, .ref a_this)]) hx hb dX9_digest_138 hl (k := 2) rfl (by rw [ex10_]; rfl) (by decide) rfl (fun ls hl => ?_)
                    refine lv_goto (tgt := 113) hx hb dX9_digest_141 (by decide) ?_
                    exact ih113_ _ h _ _ _ hP hD hS (lv_sub hl [2, 1, 0] rfl)
              exact l113_ N _ h _ _ _ hP hD hS (lv_sub hl [1, 2, 0] rfl)
            · refine lv_aload_n hx hb dX9_digest_53 rfl (lv_at hl 0 rfl) ?_
              refine lv_lload_n hx hb dX9_digest_54 rfl (lv_at hl 1 rfl) ?_
              refine lv_iload_n hx hb dX9_digest_55 rfl (lv_at hl 2 rfl) ?_
              obtain ⟨r11_, hr11_, h⟩ := z_subL h
              refine zRV F (k_X9_mixValues l N g a_this a_score a_history a_text a_sentence a_reader a_sounds a_playing a_score_cells v_score_size v_score_cells v42_.1 v42_.2.1 _ hr11_) zy_X9_mixValues zw_714 hP hD hS [0, 4, 10] rfl rfl (q0 := 0) (he := rfl) (hc := rfl) (rest := []) rfl hl.1 rfl (Nat.le_of_ble_eq_true rfl) ⟨rfl, rfl⟩ ⟨Nat.le_of_ble_eq_true rfl, Nat.le_of_ble_eq_true rfl⟩ ⟨Nat.zero_le _, Nat.zero_le _⟩ dX9_digest_56 (st1 := [.long r11_]) rfl ?_
              refine lv_lstore_n (lv' := [(1, .long r11_), (0, .ref a_this), (3, .int v42_.2.1)]) hx hb dX9_digest_59 rfl hl (by decide) rfl (fun ls hl => ?_)
              refine lv_aload_n hx hb dX9_digest_60 rfl (lv_at hl 1 rfl) ?_
              refine lv_lload_n hx hb dX9_digest_61 rfl (lv_at hl 0 rfl) ?_
              refine lv_iload_n hx hb dX9_digest_62 rfl (lv_at hl 2 rfl) ?_
              refine lv_iconst (v := 0) hx hb dX9_digest_63 (by decide) ?_
              obtain ⟨r12_, hr12_, h⟩ := z_subL h
              refine zRV F (k_X9_mixVoice l N g a_this a_score a_history a_text a_sentence a_reader a_sounds a_playing a_score_cells a_sounds_shifts a_sounds_heldTicks v_score_size v_score_cells v_sounds_heldTicks v_sounds_shifts r11_ v42_.2.1 0 _ hr12_) zy_X9_mixVoice zw_717 hP hD hS [0, 4, 6, 10, 12, 13] rfl rfl (q0 := 0) (he := rfl) (hc := rfl) (rest := []) rfl hl.1 rfl (Nat.le_of_ble_eq_true rfl) ⟨rfl, rfl⟩ ⟨Nat.le_of_ble_eq_true rfl, Nat.le_of_ble_eq_true rfl⟩ ⟨Nat.zero_le _, Nat.zero_le _⟩ dX9_digest_64 (st1 := [.long r12_]) rfl ?_
              refine lv_lstore_n (lv' := [(1, .long r12_), (0, .ref a_this), (3, .int v42_.2.1)]) hx hb dX9_digest_67 rfl hl (by decide) rfl (fun ls hl => ?_)
              refine lv_aload_n hx hb dX9_digest_68 rfl (lv_at hl 1 rfl) ?_
              refine lv_lload_n hx hb dX9_digest_69 rfl (lv_at hl 0 rfl) ?_
              refine lv_iload_n hx hb dX9_digest_70 rfl (lv_at hl 2 rfl) ?_
              refine lv_iconst (v := 1) hx hb dX9_digest_71 (by decide) ?_
              obtain ⟨r13_, hr13_, h⟩ := z_subL h
              refine zRV F (k_X9_mixVoice l N g a_this a_score a_history a_text a_sentence a_reader a_sounds a_playing a_score_cells a_sounds_shifts a_sounds_heldTicks v_score_size v_score_cells v_sounds_heldTicks v_sounds_shifts r12_ v42_.2.1 1 _ hr13_) zy_X9_mixVoice zw_717 hP hD hS [0, 4, 6, 10, 12, 13] rfl rfl (q0 := 0) (he := rfl) (hc := rfl) (rest := []) rfl hl.1 rfl (Nat.le_of_ble_eq_true rfl) ⟨rfl, rfl⟩ ⟨Nat.le_of_ble_eq_true rfl, Nat.le_of_ble_eq_true rfl⟩ ⟨Nat.zero_le _, Nat.zero_le _⟩ dX9_digest_72 (st1 := [.long r13_]) rfl ?_
              refine lv_lstore_n (lv' := [(1, .long r13_), (0, .ref a_this), (3, .int v42_.2.1)]) hx hb dX9_digest_75 rfl hl (by decide) rfl (fun ls hl => ?_)
              refine lv_lload_n hx hb dX9_digest_76 rfl (lv_at hl 0 rfl) ?_
              refine lv_aload_n hx hb dX9_digest_77 rfl (lv_at hl 1 rfl) ?_
              refine lv_iload_n hx hb dX9_digest_78 rfl (lv_at hl 2 rfl) ?_
              obtain ⟨r14_, hr14_, h⟩ := z_subL h
              refine zRV F (k_X9_crossings l N g a_this a_score a_history a_text a_sentence a_reader a_sounds a_playing a_score_cells a_sounds_shifts a_sounds_heldTicks v_score_size v_score_cells v_sounds_shifts v42_.2.1 _ hr14_) zy_X9_crossings zw_720 hP hD hS [0, 4, 6, 10, 13] rfl rfl (q0 := 0) (he := rfl) (hc := rfl) (rest := [.long r13_]) rfl hl.1 rfl (Nat.le_of_ble_eq_true rfl) ⟨rfl, rfl⟩ ⟨Nat.le_of_ble_eq_true rfl, Nat.le_of_ble_eq_true rfl⟩ ⟨Nat.zero_le _, Nat.zero_le _⟩ dX9_digest_79 (st1 := [.int r14_, .long r13_]) rfl ?_
              refine lv_i2l hx hb dX9_digest_82 rfl ?_
              obtain ⟨r15_, hr15_, h⟩ := z_bind h
              refine zRS F (k_X9_mix l N g r13_ ((r14_).toInt64) _ hr15_) zy_X9_mix zw_702 hP hD hS [] rfl rfl (rest := []) rfl hl.1 rfl (Nat.le_of_ble_eq_true rfl) ⟨rfl, rfl⟩ ⟨Nat.le_of_ble_eq_true rfl, Nat.le_of_ble_eq_true rfl⟩ ⟨Nat.zero_le _, Nat.zero_le _⟩ dX9_digest_83 (st1 := [.long r15_]) rfl ?_
              refine lv_lstore_n (lv' := [(1, .long r15_), (0, .ref a_this), (3, .int v42_.2.1)]) hx hb dX9_digest_86 rfl hl (by decide) rfl (fun ls hl => ?_)
              refine lv_lload_n hx hb dX9_digest_87 rfl (lv_at hl 0 rfl) ?_
              refine lv_aload_n hx hb dX9_digest_88 rfl (lv_at hl 1 rfl) ?_
              refine lv_iload_n hx hb dX9_digest_89 rfl (lv_at hl 2 rfl) ?_
              obtain ⟨r16_, hr16_, h⟩ := z_subL h
              refine zRV F (k_X9_timesPlayed l N g a_this a_score a_history a_text a_sentence a_reader a_sounds a_playing a_playing_places a_score_cells v_playing_size v_score_size v_playing_places v42_.2.1 _ hr16_) zy_X9_timesPlayed zw_723 hP hD hS [0, 2, 4, 8] rfl rfl (q0 := 0) (he := rfl) (hc := rfl) (rest := [.long r15_]) rfl hl.1 rfl (Nat.le_of_ble_eq_true rfl) ⟨rfl, rfl⟩ ⟨Nat.le_of_ble_eq_true rfl, Nat.le_of_ble_eq_true rfl⟩ ⟨Nat.zero_le _, Nat.zero_le _⟩ dX9_digest_90 (st1 := [.int r16_, .long r15_]) rfl ?_
              refine lv_i2l hx hb dX9_digest_93 rfl ?_
              obtain ⟨r17_, hr17_, h⟩ := z_bind h
              refine zRS F (k_X9_mix l N g r15_ ((r16_).toInt64) _ hr17_) zy_X9_mix zw_702 hP hD hS [] rfl rfl (rest := []) rfl hl.1 rfl (Nat.le_of_ble_eq_true rfl) ⟨rfl, rfl⟩ ⟨Nat.le_of_ble_eq_true rfl, Nat.le_of_ble_eq_true rfl⟩ ⟨Nat.zero_le _, Nat.zero_le _⟩ dX9_digest_94 (st1 := [.long r17_]) rfl ?_
              refine lv_lstore_n (lv' := [(1, .long r17_), (0, .ref a_this), (3, .int v42_.2.1)]) hx hb dX9_digest_97 rfl hl (by decide) rfl (fun ls hl => ?_)
              refine lv_aload_n hx hb dX9_digest_98 rfl (lv_at hl 1 rfl) ?_
              refine lv_lload_n hx hb dX9_digest_99 rfl (lv_at hl 0 rfl) ?_
              refine lv_iload_n hx hb dX9_digest_100 rfl (lv_at hl 2 rfl) ?_
              obtain ⟨r18_, hr18_, h⟩ := z_bind h
              refine zVV F (k_X9_mixSentence l N g a_this a_score a_history a_text a_sentence a_reader a_sounds a_playing a_score_cells a_sentence_bytes v_score_size v42_.2.2.1 v42_.2.2.2.1 v_score_cells v42_.2.2.2.2 r17_ v42_.2.1 _ hr18_) zy_X9_mixSentence zw_726 hP hD hS [0, 4, 5, 10, 11] [1, 2, 3, 6, 7, 8, 9, 12, 13, 14, 15] [11, 0, 1, 2, 12, 13, 3, 4, 5, 6, 14, 15, 7, 8, 9, 10] (wr := [zo_X1 a_history a_history_saved v_history_size v_history_next, zo_X2 a_playing a_playing_places v_playing_size, zo_X3 a_reader a_text a_reader_draft v_reader_from v_reader_to v_reader_failedAt, zo_X6 a_sounds a_score a_sounds_shifts a_sounds_heldTicks, zo_X7 a_text a_text_bytes v_text_length, (a_playing_places, .inl (zI g, 200, .inl v_playing_places)), zo_X4 a_reader_draft a_reader_draft_cells v_reader_draft_size, (a_sounds_heldTicks, .inl (zI g, 768, .inl v_sounds_heldTicks)), (a_sounds_shifts, .inl (zI g, 768, .inl v_sounds_shifts)), (a_text_bytes, .inl (zY g, 600, .inl v_text_bytes)), (a_reader_draft_cells, .inl (zI g, 912, .inl v_reader_draft_cells))]) (W1 := [zo_X9 a_this a_score a_history a_text a_sentence a_reader a_sounds a_playing, zo_X1 a_history a_history_saved v_history_size v_history_next, zo_X2 a_playing a_playing_places v_playing_size, zo_X3 a_reader a_text a_reader_draft v_reader_from v_reader_to v_reader_failedAt, zo_X4 a_score a_score_cells v_score_size, zo_X5 a_sentence a_sentence_bytes r18_.2.1 r18_.2.2.1, zo_X6 a_sounds a_score a_sounds_shifts a_sounds_heldTicks, zo_X7 a_text a_text_bytes v_text_length, (a_playing_places, .inl (zI g, 200, .inl v_playing_places)), zo_X4 a_reader_draft a_reader_draft_cells v_reader_draft_size, (a_score_cells, .inl (zI g, 912, .inl v_score_cells)), (a_sentence_bytes, .inl (zY g, 1702, .inl r18_.2.2.2)), (a_sounds_heldTicks, .inl (zI g, 768, .inl v_sounds_heldTicks)), (a_sounds_shifts, .inl (zI g, 768, .inl v_sounds_shifts)), (a_text_bytes, .inl (zY g, 600, .inl v_text_bytes)), (a_reader_draft_cells, .inl (zI g, 912, .inl v_reader_draft_cells))]) rfl rfl rfl rfl (by decide) rfl rfl (q0 := 0) (he := rfl) (hc := rfl) (rest := []) rfl hl.1 rfl (Nat.le_of_ble_eq_true rfl) ⟨rfl, rfl⟩ ⟨Nat.le_of_ble_eq_true rfl, Nat.le_of_ble_eq_true rfl⟩ ⟨Nat.zero_le _, Nat.zero_le _⟩ dX9_digest_101 (st1 := [.long r18_.1]) rfl (fun H locs hP hD hS => ?_)
              refine lv_lstore_n (lv' := [(1, .long r18_.1), (0, .ref a_this), (3, .int v42_.2.1)]) hx hb dX9_digest_104 rfl hl (by decide) rfl (fun ls hl => ?_)
              refine z_nm h (fun x19_ ex19_ h => ?_)
              refine lv_iinc (v := x19_) (lv' := [(3, .int x19_), (1, .long r18_.1), (0, .ref a_this)]) hx hb dX9_digest_105 hl (k := 2) rfl (by rw [ex19_]; rfl) (by decide) rfl (fun ls hl => ?_)
              refine lv_goto (tgt := 42) hx hb dX9_digest_108 (by decide) ?_
              exact ih42_ _ h _ _ _ hP hD hS (lv_sub hl [2, 1, 0] rfl)
        exact l42_ N _ h _ _ _ hP hD hS (lv_sub hl [1, 2, 0] rfl)
      · refine lv_lload_n hx hb dX9_digest_23 rfl (lv_at hl 1 rfl) ?_
        refine lv_aload_n hx hb dX9_digest_24 rfl (lv_at hl 0 rfl) ?_
        refine lv_iload_n hx hb dX9_digest_25 rfl (lv_at hl 2 rfl) ?_
        obtain ⟨r20_, hr20_, h⟩ := z_subL h
        refine zRV F (k_X9_whole l N g a_this a_score a_history a_text a_sentence a_reader a_sounds a_playing a_playing_places a_score_cells a_sounds_shifts a_sounds_heldTicks a_text_bytes v_playing_size v_score_size v_text_length v_playing_places v_score_cells v_sounds_heldTicks v17_.2 _ hr20_) zy_X9_whole zw_711 hP hD hS [0, 2, 4, 6, 7, 8, 10, 12] rfl rfl (q0 := 0) (he := rfl) (hc := rfl) (rest := [.long v17_.1]) rfl hl.1 rfl (Nat.le_of_ble_eq_true rfl) ⟨rfl, rfl⟩ ⟨Nat.le_of_ble_eq_true rfl, Nat.le_of_ble_eq_true rfl⟩ ⟨Nat.zero_le _, Nat.zero_le _⟩ dX9_digest_26 (st1 := [.int r20_, .long v17_.1]) rfl ?_
        refine lv_i2l hx hb dX9_digest_29 rfl ?_
        obtain ⟨r21_, hr21_, h⟩ := z_bind h
        refine zRS F (k_X9_mix l N g v17_.1 ((r20_).toInt64) _ hr21_) zy_X9_mix zw_702 hP hD hS [] rfl rfl (rest := []) rfl hl.1 rfl (Nat.le_of_ble_eq_true rfl) ⟨rfl, rfl⟩ ⟨Nat.le_of_ble_eq_true rfl, Nat.le_of_ble_eq_true rfl⟩ ⟨Nat.zero_le _, Nat.zero_le _⟩ dX9_digest_30 (st1 := [.long r21_]) rfl ?_
        refine lv_lstore_n (lv' := [(1, .long r21_), (0, .ref a_this), (3, .int v17_.2)]) hx hb dX9_digest_33 rfl hl (by decide) rfl (fun ls hl => ?_)
        refine z_nm h (fun x22_ ex22_ h => ?_)
        refine lv_iinc (v := x22_) (lv' := [(3, .int x22_), (1, .long r21_), (0, .ref a_this)]) hx hb dX9_digest_34 hl (k := 2) rfl (by rw [ex22_]; rfl) (by decide) rfl (fun ls hl => ?_)
        refine lv_goto (tgt := 17) hx hb dX9_digest_37 (by decide) ?_
        exact ih17_ _ h _ _ _ hP hD hS (lv_sub hl [2, 1, 0] rfl)
  exact l17_ N _ h _ _ _ hP hD hS (lv_sub hl [2, 1, 0] rfl)
