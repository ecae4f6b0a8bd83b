def zSpL : List Int32 := [98, 97, 114, 32, 111, 112, 101, 110, 32, 101, 110, 100, 105, 110, 103, 32, 107, 101, 121, 32, 112, 108, 97, 105, 110, 32, 115, 104, 97, 114, 112, 32, 102, 108, 97, 116, 32, 110, 97, 116, 117, 114, 97, 108, 32, 116, 105, 109, 101, 32, 118, 111, 105, 99, 101, 32, 114, 101, 115, 116, 32, 100, 111, 116, 116, 101, 100, 32, 119, 104, 111, 108, 101, 32, 104, 97, 108, 102, 32, 113, 117, 97, 114, 116, 101, 114, 32, 101, 105, 103, 104, 116, 104, 32, 115, 105, 120, 116, 101, 101, 110, 116, 104, 32, 116, 105, 101, 100, 32, 98, 97, 99, 107, 32, 101, 110, 100, 32]
def zSp : Nat → Int32 := (List.range 118).foldl (fun f i => upd f i (zSpL.getD i 0)) (fun _ => 0)
abbrev rm_X4_init : Room := { frames := 1, cells := 1, slots := 912, locals := 12 }
set_option maxHeartbeats 4000000 in
set_option maxRecDepth 100000 in
theorem k_X4_init (l : Launch) (g : zEnv) (h0 : Nat) : ZI l yX4_init cX4_init 1 rm_X4_init g [.ref h0] [(h0, .inr (3, [.null, .int 0]))] (fun z : Nat => [(h0, .inr (3, [.ref z, .int 0])), (z, .inl (zI g, 912, .inl (fun _ => 0)))]) 1 912 := by
  refine zI_of (by decide) (Nat.le_of_ble_eq_true rfl) ?_
  intro p e s m below meth c A H locs ls Q R F hRm hr hlocks hin hO hP hD hS hl hQ
  subst hRm
  have F : zF p m c cX4_init 1 s (([.ref h0] : List Value)).toArray RX4 g A := F
  have hin : meth.name = "<init>" := hin
  have hx := F.1.1
  have hb := F.1.2.1
  have hz := F.1.2.2.2.2
  have hl : lv_has ls 1 [(0, .ref h0)] := hl
  refine lv_aload_n hx hb dX4_init_0 rfl (lv_at hl 0 rfl) ?_
  refine z_oi F hl.1 zw_20 zw_21 zw_22 ⟨Nat.le_of_ble_eq_true rfl, Nat.le_of_ble_eq_true rfl⟩ dX4_init_1 ?_
  refine lv_aload_n hx hb dX4_init_4 rfl (lv_at hl 0 rfl) ?_
  refine lv_sipush (v := 912) hx hb dX4_init_5 (by decide) ?_
  refine z_newI (N' := 912) F zw_23 hP hD hS (by decide) (by decide) (Nat.le_of_ble_eq_true rfl) (Nat.le_of_ble_eq_true rfl) (Nat.le_of_ble_eq_true rfl) dX4_init_8 (fun q1 H hP hD hS => ?_)
  have hP : va_P (zD g) vwCl [(h0, .inr (3, [.null, .int 0])), (q1, .inl (zI g, 912, .inl (fun _ => 0)))] H := hP
  have hD : va_D A [(h0, .inr (3, [.null, .int 0])), (q1, .inl (zI g, 912, .inl (fun _ => 0)))] := hD
  refine z_putF (T := TX4) (N := 2) (ci := 3) (W1 := [(h0, .inr (3, [.ref q1, .int 0])), (q1, .inl (zI g, 912, .inl (fun _ => 0)))]) F zu_wsX40 tyX4 tyX4_ok nmX4 hP hD hS 0 rfl rfl 0 (by decide) zw_24 rfl hin rfl rfl rfl (Nat.le_of_ble_eq_true rfl) dX4_init_10 rfl (fun H locs hP hD hS => ?_)
  exact zI_v (w1 := (fun z : Nat => [(h0, .inr (3, [.ref z, .int 0])), (z, .inl (zI g, 912, .inl (fun _ => 0)))])) q1 F hr hlocks hQ hP hD rfl hS dX4_init_13
abbrev rm_X1_init : Room := { frames := 2, cells := 9, slots := 3660, locals := 32 }
set_option maxHeartbeats 4000000 in
set_option maxRecDepth 100000 in
theorem k_X1_init (l : Launch) (g : zEnv) (h0 : Nat) : ZI l yX1_init cX1_init 2 rm_X1_init g [.ref h0] [(h0, .inr (0, [.null, .int 0, .int 0]))] (fun z : Nat × Nat × Nat × Nat × Nat × Nat × Nat × Nat × Nat => [(h0, .inr (0, [.ref z.1, .int 0, .int 0])), (z.1, .inl (zO g, 4, .inr (.inr (.inr (.inr (va_up (va_up (va_up (va_up (fun _ => none) 0 (some z.2.1)) 1 (some z.2.2.2.1)) 2 (some z.2.2.2.2.2.1)) 3 (some z.2.2.2.2.2.2.2.1))))))), (z.2.1, .inr (3, [.ref z.2.2.1, .int 0])), (z.2.2.1, .inl (zI g, 912, .inl (fun _ => 0))), (z.2.2.2.1, .inr (3, [.ref z.2.2.2.2.1, .int 0])), (z.2.2.2.2.1, .inl (zI g, 912, .inl (fun _ => 0))), (z.2.2.2.2.2.1, .inr (3, [.ref z.2.2.2.2.2.2.1, .int 0])), (z.2.2.2.2.2.2.1, .inl (zI g, 912, .inl (fun _ => 0))), (z.2.2.2.2.2.2.2.1, .inr (3, [.ref z.2.2.2.2.2.2.2.2, .int 0])), (z.2.2.2.2.2.2.2.2, .inl (zI g, 912, .inl (fun _ => 0)))]) 9 3660 := by
  refine zI_of (by decide) (Nat.le_of_ble_eq_true rfl) ?_
  intro p e s m below meth c A H locs ls Q R F hRm hr hlocks hin hO hP hD hS hl hQ
  subst hRm
  have F : zF p m c cX1_init 2 s (([.ref h0] : List Value)).toArray RX1 g A := F
  have hin : meth.name = "<init>" := hin
  have hx := F.1.1
  have hb := F.1.2.1
  have hz := F.1.2.2.2.2
  have hl : lv_has ls 2 [(0, .ref h0)] := hl
  refine lv_aload_n hx hb dX1_init_0 rfl (lv_at hl 0 rfl) ?_
  refine z_oi F hl.1 zw_26 zw_21 zw_22 ⟨Nat.le_of_ble_eq_true rfl, Nat.le_of_ble_eq_true rfl⟩ dX1_init_1 ?_
  refine lv_aload_n hx hb dX1_init_4 rfl (lv_at hl 0 rfl) ?_
  refine lv_iconst (v := 4) hx hb dX1_init_5 (by decide) ?_
  refine z_newO (N' := 4) F hO zw_27 hP hD hS (by decide) (by decide) (Nat.le_of_ble_eq_true rfl) (Nat.le_of_ble_eq_true rfl) (Nat.le_of_ble_eq_true rfl) dX1_init_6 (fun q1 H hP hD hS => ?_)
  have hP : va_P (zD g) vwCl [(h0, .inr (0, [.null, .int 0, .int 0])), (q1, .inl (zO g, 4, .inr (.inr (.inr (.inr (fun _ => none))))))] H := hP
  have hD : va_D A [(h0, .inr (0, [.null, .int 0, .int 0])), (q1, .inl (zO g, 4, .inr (.inr (.inr (.inr (fun _ => none))))))] := hD
  refine z_putF (T := TX1) (N := 3) (ci := 0) (W1 := [(h0, .inr (0, [.ref q1, .int 0, .int 0])), (q1, .inl (zO g, 4, .inr (.inr (.inr (.inr (fun _ => none))))))]) F zu_wsX10 tyX1 tyX1_ok nmX1 hP hD hS 0 rfl rfl 0 (by decide) zw_28 rfl hin rfl rfl rfl (Nat.le_of_ble_eq_true rfl) dX1_init_9 rfl (fun H locs hP hD hS => ?_)
  refine lv_iconst (v := 0) hx hb dX1_init_12 (by decide) ?_
  refine lv_istore_n (lv' := [(1, .int 0), (0, .ref h0)]) hx hb dX1_init_13 rfl hl (by decide) rfl (fun ls hl => ?_)
  refine lv_iload_n hx hb dX1_init_14 rfl (lv_at hl 0 rfl) ?_
  refine lv_iconst (v := 4) hx hb dX1_init_15 (by decide) ?_
  refine lv_icmp_ge (tgt := 38) hx hb dX1_init_16 (by decide) (fun q => absurd q (by decide)) (fun _ => ?_)
  refine lv_aload_n hx hb dX1_init_19 rfl (lv_at hl 1 rfl) ?_
  refine z_get (C := RX1) (T := TX1) (N := 3) (ci := 0) F zu_wsX10 hP 0 rfl rfl 0 (by decide) zw_28 rfl dX1_init_20 ?_
  refine lv_iload_n hx hb dX1_init_23 rfl (lv_at hl 0 rfl) ?_
  refine z_new (C := RX4) (T := TX4) (N := 2) (ci := 3) (fs := [.null, .int 0]) F zu_wsX40 tyX4 tyX4_ok zw_27 zw_29 zw_30 hP hD hS rfl (by decide) (Nat.le_of_ble_eq_true rfl) (Nat.le_of_ble_eq_true rfl) dX1_init_24 (fun q2 H hP hD hS => ?_)
  have hP : va_P (zD g) vwCl [(h0, .inr (0, [.ref q1, .int 0, .int 0])), (q1, .inl (zO g, 4, .inr (.inr (.inr (.inr (fun _ => none)))))), (q2, .inr (3, [.null, .int 0]))] H := hP
  have hD : va_D A [(h0, .inr (0, [.ref q1, .int 0, .int 0])), (q1, .inl (zO g, 4, .inr (.inr (.inr (.inr (fun _ => none)))))), (q2, .inr (3, [.null, .int 0]))] := hD
  refine lv_dup hx hb dX1_init_27 rfl ?_
  refine zCIN (n := 0) (W1 := fun z3 => [(h0, .inr (0, [.ref q1, .int 0, .int 0])), (q1, .inl (zO g, 4, .inr (.inr (.inr (.inr (fun _ => none)))))), (q2, .inr (3, [.ref z3, .int 0])), (z3, .inl (zI g, 912, .inl (fun _ => 0)))]) F hO (k_X4_init l g q2) zw_25 zw_30 ⟨by decide, by decide⟩ (by decide +kernel) rfl zw_31 (List.mem_of_getElem? (i := 1) rfl) hP hD hS [2] [0, 1] [0, 1, 2, 3] (wr := [(h0, .inr (0, [.ref q1, .int 0, .int 0])), (q1, .inl (zO g, 4, .inr (.inr (.inr (.inr (fun _ => none))))))]) rfl rfl rfl rfl (by decide) (fun _ => rfl) rfl (rest := [.ref q2, .int 0, .ref q1]) (As := []) rfl hl.1 rfl (Nat.le_of_ble_eq_true rfl) ⟨rfl, rfl⟩ ⟨Nat.le_of_ble_eq_true rfl, Nat.le_of_ble_eq_true rfl⟩ ⟨(Nat.le_of_ble_eq_true rfl), (Nat.le_of_ble_eq_true rfl)⟩ dX1_init_28 (fun z3 H locs hP hD hS => ?_)
  have hP : va_P (zD g) vwCl [(h0, .inr (0, [.ref q1, .int 0, .int 0])), (q1, .inl (zO g, 4, .inr (.inr (.inr (.inr (fun _ => none)))))), (q2, .inr (3, [.ref z3, .int 0])), (z3, .inl (zI g, 912, .inl (fun _ => 0)))] H := hP
  have hD : va_D A [(h0, .inr (0, [.ref q1, .int 0, .int 0])), (q1, .inl (zO g, 4, .inr (.inr (.inr (.inr (fun _ => none)))))), (q2, .inr (3, [.ref z3, .int 0])), (z3, .inl (zI g, 912, .inl (fun _ => 0)))] := hD
  refine z_astqO (qk := 2) (W1 := [(h0, .inr (0, [.ref q1, .int 0, .int 0])), (q1, .inl (zO g, 4, .inr (.inr (.inr (.inr (va_up (fun _ => none) 0 (some q2))))))), (q2, .inr (3, [.ref z3, .int 0])), (z3, .inl (zI g, 912, .inl (fun _ => 0)))]) F hP hD hS 1 rfl rfl (zIn (by decide)) dX1_init_31 rfl (fun H locs hP hD hS => ?_)
  refine lv_iinc (v := 1) (lv' := [(1, .int 1), (0, .ref h0)]) hx hb dX1_init_32 hl (k := 0) rfl (by decide) (by decide) rfl (fun ls hl => ?_)
  refine lv_goto (tgt := 14) hx hb dX1_init_35 (by decide) ?_
  refine lv_iload_n hx hb dX1_init_14 rfl (lv_at hl 0 rfl) ?_
  refine lv_iconst (v := 4) hx hb dX1_init_15 (by decide) ?_
  refine lv_icmp_ge (tgt := 38) hx hb dX1_init_16 (by decide) (fun q => absurd q (by decide)) (fun _ => ?_)
  refine lv_aload_n hx hb dX1_init_19 rfl (lv_at hl 1 rfl) ?_
  refine z_get (C := RX1) (T := TX1) (N := 3) (ci := 0) F zu_wsX10 hP 0 rfl rfl 0 (by decide) zw_28 rfl dX1_init_20 ?_
  refine lv_iload_n hx hb dX1_init_23 rfl (lv_at hl 0 rfl) ?_
  refine z_new (C := RX4) (T := TX4) (N := 2) (ci := 3) (fs := [.null, .int 0]) F zu_wsX40 tyX4 tyX4_ok zw_27 zw_29 zw_30 hP hD hS rfl (by decide) (Nat.le_of_ble_eq_true rfl) (Nat.le_of_ble_eq_true rfl) dX1_init_24 (fun q4 H hP hD hS => ?_)
  have hP : va_P (zD g) vwCl [(h0, .inr (0, [.ref q1, .int 0, .int 0])), (q1, .inl (zO g, 4, .inr (.inr (.inr (.inr (va_up (fun _ => none) 0 (some q2))))))), (q2, .inr (3, [.ref z3, .int 0])), (z3, .inl (zI g, 912, .inl (fun _ => 0))), (q4, .inr (3, [.null, .int 0]))] H := hP
  have hD : va_D A [(h0, .inr (0, [.ref q1, .int 0, .int 0])), (q1, .inl (zO g, 4, .inr (.inr (.inr (.inr (va_up (fun _ => none) 0 (some q2))))))), (q2, .inr (3, [.ref z3, .int 0])), (z3, .inl (zI g, 912, .inl (fun _ => 0))), (q4, .inr (3, [.null, .int 0]))] := hD
  refine lv_dup hx hb dX1_init_27 rfl ?_
  refine zCIN (n := 0) (W1 := fun z5 => [(h0, .inr (0, [.ref q1, .int 0, .int 0])), (q1, .inl (zO g, 4, .inr (.inr (.inr (.inr (va_up (fun _ => none) 0 (some q2))))))), (q2, .inr (3, [.ref z3, .int 0])), (z3, .inl (zI g, 912, .inl (fun _ => 0))), (q4, .inr (3, [.ref z5, .int 0])), (z5, .inl (zI g, 912, .inl (fun _ => 0)))]) F hO (k_X4_init l g q4) zw_25 zw_30 ⟨by decide, by decide⟩ (by decide +kernel) rfl zw_31 (List.mem_of_getElem? (i := 1) rfl) hP hD hS [4] [0, 1, 2, 3] [0, 1, 2, 3, 4, 5] (wr := [(h0, .inr (0, [.ref q1, .int 0, .int 0])), (q1, .inl (zO g, 4, .inr (.inr (.inr (.inr (va_up (fun _ => none) 0 (some q2))))))), (q2, .inr (3, [.ref z3, .int 0])), (z3, .inl (zI g, 912, .inl (fun _ => 0)))]) rfl rfl rfl rfl (by decide) (fun _ => rfl) rfl (rest := [.ref q4, .int 1, .ref q1]) (As := []) rfl hl.1 rfl (Nat.le_of_ble_eq_true rfl) ⟨rfl, rfl⟩ ⟨Nat.le_of_ble_eq_true rfl, Nat.le_of_ble_eq_true rfl⟩ ⟨(Nat.le_of_ble_eq_true rfl), (Nat.le_of_ble_eq_true rfl)⟩ dX1_init_28 (fun z5 H locs hP hD hS => ?_)
  have hP : va_P (zD g) vwCl [(h0, .inr (0, [.ref q1, .int 0, .int 0])), (q1, .inl (zO g, 4, .inr (.inr (.inr (.inr (va_up (fun _ => none) 0 (some q2))))))), (q2, .inr (3, [.ref z3, .int 0])), (z3, .inl (zI g, 912, .inl (fun _ => 0))), (q4, .inr (3, [.ref z5, .int 0])), (z5, .inl (zI g, 912, .inl (fun _ => 0)))] H := hP
  have hD : va_D A [(h0, .inr (0, [.ref q1, .int 0, .int 0])), (q1, .inl (zO g, 4, .inr (.inr (.inr (.inr (va_up (fun _ => none) 0 (some q2))))))), (q2, .inr (3, [.ref z3, .int 0])), (z3, .inl (zI g, 912, .inl (fun _ => 0))), (q4, .inr (3, [.ref z5, .int 0])), (z5, .inl (zI g, 912, .inl (fun _ => 0)))] := hD
  refine z_astqO (qk := 4) (W1 := [(h0, .inr (0, [.ref q1, .int 0, .int 0])), (q1, .inl (zO g, 4, .inr (.inr (.inr (.inr (va_up (va_up (fun _ => none) 0 (some q2)) 1 (some q4))))))), (q2, .inr (3, [.ref z3, .int 0])), (z3, .inl (zI g, 912, .inl (fun _ => 0))), (q4, .inr (3, [.ref z5, .int 0])), (z5, .inl (zI g, 912, .inl (fun _ => 0)))]) F hP hD hS 1 rfl rfl (zIn (by decide)) dX1_init_31 rfl (fun H locs hP hD hS => ?_)
  refine lv_iinc (v := 2) (lv' := [(1, .int 2), (0, .ref h0)]) hx hb dX1_init_32 hl (k := 0) rfl (by decide) (by decide) rfl (fun ls hl => ?_)
  refine lv_goto (tgt := 14) hx hb dX1_init_35 (by decide) ?_
  refine lv_iload_n hx hb dX1_init_14 rfl (lv_at hl 0 rfl) ?_
  refine lv_iconst (v := 4) hx hb dX1_init_15 (by decide) ?_
  refine lv_icmp_ge (tgt := 38) hx hb dX1_init_16 (by decide) (fun q => absurd q (by decide)) (fun _ => ?_)
  refine lv_aload_n hx hb dX1_init_19 rfl (lv_at hl 1 rfl) ?_
  refine z_get (C := RX1) (T := TX1) (N := 3) (ci := 0) F zu_wsX10 hP 0 rfl rfl 0 (by decide) zw_28 rfl dX1_init_20 ?_
  refine lv_iload_n hx hb dX1_init_23 rfl (lv_at hl 0 rfl) ?_
  refine z_new (C := RX4) (T := TX4) (N := 2) (ci := 3) (fs := [.null, .int 0]) F zu_wsX40 tyX4 tyX4_ok zw_27 zw_29 zw_30 hP hD hS rfl (by decide) (Nat.le_of_ble_eq_true rfl) (Nat.le_of_ble_eq_true rfl) dX1_init_24 (fun q6 H hP hD hS => ?_)
  have hP : va_P (zD g) vwCl [(h0, .inr (0, [.ref q1, .int 0, .int 0])), (q1, .inl (zO g, 4, .inr (.inr (.inr (.inr (va_up (va_up (fun _ => none) 0 (some q2)) 1 (some q4))))))), (q2, .inr (3, [.ref z3, .int 0])), (z3, .inl (zI g, 912, .inl (fun _ => 0))), (q4, .inr (3, [.ref z5, .int 0])), (z5, .inl (zI g, 912, .inl (fun _ => 0))), (q6, .inr (3, [.null, .int 0]))] H := hP
  have hD : va_D A [(h0, .inr (0, [.ref q1, .int 0, .int 0])), (q1, .inl (zO g, 4, .inr (.inr (.inr (.inr (va_up (va_up (fun _ => none) 0 (some q2)) 1 (some q4))))))), (q2, .inr (3, [.ref z3, .int 0])), (z3, .inl (zI g, 912, .inl (fun _ => 0))), (q4, .inr (3, [.ref z5, .int 0])), (z5, .inl (zI g, 912, .inl (fun _ => 0))), (q6, .inr (3, [.null, .int 0]))] := hD
  refine lv_dup hx hb dX1_init_27 rfl ?_
  refine zCIN (n := 0) (W1 := fun z7 => [(h0, .inr (0, [.ref q1, .int 0, .int 0])), (q1, .inl (zO g, 4, .inr (.inr (.inr (.inr (va_up (va_up (fun _ => none) 0 (some q2)) 1 (some q4))))))), (q2, .inr (3, [.ref z3, .int 0])), (z3, .inl (zI g, 912, .inl (fun _ => 0))), (q4, .inr (3, [.ref z5, .int 0])), (z5, .inl (zI g, 912, .inl (fun _ => 0))), (q6, .inr (3, [.ref z7, .int 0])), (z7, .inl (zI g, 912, .inl (fun _ => 0)))]) F hO (k_X4_init l g q6) zw_25 zw_30 ⟨by decide, by decide⟩ (by decide +kernel) rfl zw_31 (List.mem_of_getElem? (i := 1) rfl) hP hD hS [6] [0, 1, 2, 3, 4, 5] [0, 1, 2, 3, 4, 5, 6, 7] (wr := [(h0, .inr (0, [.ref q1, .int 0, .int 0])), (q1, .inl (zO g, 4, .inr (.inr (.inr (.inr (va_up (va_up (fun _ => none) 0 (some q2)) 1 (some q4))))))), (q2, .inr (3, [.ref z3, .int 0])), (z3, .inl (zI g, 912, .inl (fun _ => 0))), (q4, .inr (3, [.ref z5, .int 0])), (z5, .inl (zI g, 912, .inl (fun _ => 0)))]) rfl rfl rfl rfl (by decide) (fun _ => rfl) rfl (rest := [.ref q6, .int 2, .ref q1]) (As := []) rfl hl.1 rfl (Nat.le_of_ble_eq_true rfl) ⟨rfl, rfl⟩ ⟨Nat.le_of_ble_eq_true rfl, Nat.le_of_ble_eq_true rfl⟩ ⟨(Nat.le_of_ble_eq_true rfl), (Nat.le_of_ble_eq_true rfl)⟩ dX1_init_28 (fun z7 H locs hP hD hS => ?_)
  have hP : va_P (zD g) vwCl [(h0, .inr (0, [.ref q1, .int 0, .int 0])), (q1, .inl (zO g, 4, .inr (.inr (.inr (.inr (va_up (va_up (fun _ => none) 0 (some q2)) 1 (some q4))))))), (q2, .inr (3, [.ref z3, .int 0])), (z3, .inl (zI g, 912, .inl (fun _ => 0))), (q4, .inr (3, [.ref z5, .int 0])), (z5, .inl (zI g, 912, .inl (fun _ => 0))), (q6, .inr (3, [.ref z7, .int 0])), (z7, .inl (zI g, 912, .inl (fun _ => 0)))] H := hP
  have hD : va_D A [(h0, .inr (0, [.ref q1, .int 0, .int 0])), (q1, .inl (zO g, 4, .inr (.inr (.inr (.inr (va_up (va_up (fun _ => none) 0 (some q2)) 1 (some q4))))))), (q2, .inr (3, [.ref z3, .int 0])), (z3, .inl (zI g, 912, .inl (fun _ => 0))), (q4, .inr (3, [.ref z5, .int 0])), (z5, .inl (zI g, 912, .inl (fun _ => 0))), (q6, .inr (3, [.ref z7, .int 0])), (z7, .inl (zI g, 912, .inl (fun _ => 0)))] := hD
  refine z_astqO (qk := 6) (W1 := [(h0, .inr (0, [.ref q1, .int 0, .int 0])), (q1, .inl (zO g, 4, .inr (.inr (.inr (.inr (va_up (va_up (va_up (fun _ => none) 0 (some q2)) 1 (some q4)) 2 (some q6))))))), (q2, .inr (3, [.ref z3, .int 0])), (z3, .inl (zI g, 912, .inl (fun _ => 0))), (q4, .inr (3, [.ref z5, .int 0])), (z5, .inl (zI g, 912, .inl (fun _ => 0))), (q6, .inr (3, [.ref z7, .int 0])), (z7, .inl (zI g, 912, .inl (fun _ => 0)))]) F hP hD hS 1 rfl rfl (zIn (by decide)) dX1_init_31 rfl (fun H locs hP hD hS => ?_)
  refine lv_iinc (v := 3) (lv' := [(1, .int 3), (0, .ref h0)]) hx hb dX1_init_32 hl (k := 0) rfl (by decide) (by decide) rfl (fun ls hl => ?_)
  refine lv_goto (tgt := 14) hx hb dX1_init_35 (by decide) ?_
  refine lv_iload_n hx hb dX1_init_14 rfl (lv_at hl 0 rfl) ?_
  refine lv_iconst (v := 4) hx hb dX1_init_15 (by decide) ?_
  refine lv_icmp_ge (tgt := 38) hx hb dX1_init_16 (by decide) (fun q => absurd q (by decide)) (fun _ => ?_)
  refine lv_aload_n hx hb dX1_init_19 rfl (lv_at hl 1 rfl) ?_
  refine z_get (C := RX1) (T := TX1) (N := 3) (ci := 0) F zu_wsX10 hP 0 rfl rfl 0 (by decide) zw_28 rfl dX1_init_20 ?_
  refine lv_iload_n hx hb dX1_init_23 rfl (lv_at hl 0 rfl) ?_
  refine z_new (C := RX4) (T := TX4) (N := 2) (ci := 3) (fs := [.null, .int 0]) F zu_wsX40 tyX4 tyX4_ok zw_27 zw_29 zw_30 hP hD hS rfl (by decide) (Nat.le_of_ble_eq_true rfl) (Nat.le_of_ble_eq_true rfl) dX1_init_24 (fun q8 H hP hD hS => ?_)
  have hP : va_P (zD g) vwCl [(h0, .inr (0, [.ref q1, .int 0, .int 0])), (q1, .inl (zO g, 4, .inr (.inr (.inr (.inr (va_up (va_up (va_up (fun _ => none) 0 (some q2)) 1 (some q4)) 2 (some q6))))))), (q2, .inr (3, [.ref z3, .int 0])), (z3, .inl (zI g, 912, .inl (fun _ => 0))), (q4, .inr (3, [.ref z5, .int 0])), (z5, .inl (zI g, 912, .inl (fun _ => 0))), (q6, .inr (3, [.ref z7, .int 0])), (z7, .inl (zI g, 912, .inl (fun _ => 0))), (q8, .inr (3, [.null, .int 0]))] H := hP
  have hD : va_D A [(h0, .inr (0, [.ref q1, .int 0, .int 0])), (q1, .inl (zO g, 4, .inr (.inr (.inr (.inr (va_up (va_up (va_up (fun _ => none) 0 (some q2)) 1 (some q4)) 2 (some q6))))))), (q2, .inr (3, [.ref z3, .int 0])), (z3, .inl (zI g, 912, .inl (fun _ => 0))), (q4, .inr (3, [.ref z5, .int 0])), (z5, .inl (zI g, 912, .inl (fun _ => 0))), (q6, .inr (3, [.ref z7, .int 0])), (z7, .inl (zI g, 912, .inl (fun _ => 0))), (q8, .inr (3, [.null, .int 0]))] := hD
  refine lv_dup hx hb dX1_init_27 rfl ?_
  refine zCIN (n := 0) (W1 := fun z9 => [(h0, .inr (0, [.ref q1, .int 0, .int 0])), (q1, .inl (zO g, 4, .inr (.inr (.inr (.inr (va_up (va_up (va_up (fun _ => none) 0 (some q2)) 1 (some q4)) 2 (some q6))))))), (q2, .inr (3, [.ref z3, .int 0])), (z3, .inl (zI g, 912, .inl (fun _ => 0))), (q4, .inr (3, [.ref z5, .int 0])), (z5, .inl (zI g, 912, .inl (fun _ => 0))), (q6, .inr (3, [.ref z7, .int 0])), (z7, .inl (zI g, 912, .inl (fun _ => 0))), (q8, .inr (3, [.ref z9, .int 0])), (z9, .inl (zI g, 912, .inl (fun _ => 0)))]) F hO (k_X4_init l g q8) zw_25 zw_30 ⟨by decide, by decide⟩ (by decide +kernel) rfl zw_31 (List.mem_of_getElem? (i := 1) rfl) hP hD hS [8] [0, 1, 2, 3, 4, 5, 6, 7] [0, 1, 2, 3, 4, 5, 6, 7, 8, 9] (wr := [(h0, .inr (0, [.ref q1, .int 0, .int 0])), (q1, .inl (zO g, 4, .inr (.inr (.inr (.inr (va_up (va_up (va_up (fun _ => none) 0 (some q2)) 1 (some q4)) 2 (some q6))))))), (q2, .inr (3, [.ref z3, .int 0])), (z3, .inl (zI g, 912, .inl (fun _ => 0))), (q4, .inr (3, [.ref z5, .int 0])), (z5, .inl (zI g, 912, .inl (fun _ => 0))), (q6, .inr (3, [.ref z7, .int 0])), (z7, .inl (zI g, 912, .inl (fun _ => 0)))]) rfl rfl rfl rfl (by decide) (fun _ => rfl) rfl (rest := [.ref q8, .int 3, .ref q1]) (As := []) rfl hl.1 rfl (Nat.le_of_ble_eq_true rfl) ⟨rfl, rfl⟩ ⟨Nat.le_of_ble_eq_true rfl, Nat.le_of_ble_eq_true rfl⟩ ⟨(Nat.le_of_ble_eq_true rfl), (Nat.le_of_ble_eq_true rfl)⟩ dX1_init_28 (fun z9 H locs hP hD hS => ?_)
  have hP : va_P (zD g) vwCl [(h0, .inr (0, [.ref q1, .int 0, .int 0])), (q1, .inl (zO g, 4, .inr (.inr (.inr (.inr (va_up (va_up (va_up (fun _ => none) 0 (some q2)) 1 (some q4)) 2 (some q6))))))), (q2, .inr (3, [.ref z3, .int 0])), (z3, .inl (zI g, 912, .inl (fun _ => 0))), (q4, .inr (3, [.ref z5, .int 0])), (z5, .inl (zI g, 912, .inl (fun _ => 0))), (q6, .inr (3, [.ref z7, .int 0])), (z7, .inl (zI g, 912, .inl (fun _ => 0))), (q8, .inr (3, [.ref z9, .int 0])), (z9, .inl (zI g, 912, .inl (fun _ => 0)))] H := hP
  have hD : va_D A [(h0, .inr (0, [.ref q1, .int 0, .int 0])), (q1, .inl (zO g, 4, .inr (.inr (.inr (.inr (va_up (va_up (va_up (fun _ => none) 0 (some q2)) 1 (some q4)) 2 (some q6))))))), (q2, .inr (3, [.ref z3, .int 0])), (z3, .inl (zI g, 912, .inl (fun _ => 0))), (q4, .inr (3, [.ref z5, .int 0])), (z5, .inl (zI g, 912, .inl (fun _ => 0))), (q6, .inr (3, [.ref z7, .int 0])), (z7, .inl (zI g, 912, .inl (fun _ => 0))), (q8, .inr (3, [.ref z9, .int 0])), (z9, .inl (zI g, 912, .inl (fun _ => 0)))] := hD
  refine z_astqO (qk := 8) (W1 := [(h0, .inr (0, [.ref q1, .int 0, .int 0])), (q1, .inl (zO g, 4, .inr (.inr (.inr (.inr (va_up (va_up (va_up (va_up (fun _ => none) 0 (some q2)) 1 (some q4)) 2 (some q6)) 3 (some q8))))))), (q2, .inr (3, [.ref z3, .int 0])), (z3, .inl (zI g, 912, .inl (fun _ => 0))), (q4, .inr (3, [.ref z5, .int 0])), (z5, .inl (zI g, 912, .inl (fun _ => 0))), (q6, .inr (3, [.ref z7, .int 0])), (z7, .inl (zI g, 912, .inl (fun _ => 0))), (q8, .inr (3, [.ref z9, .int 0])), (z9, .inl (zI g, 912, .inl (fun _ => 0)))]) F hP hD hS 1 rfl rfl (zIn (by decide)) dX1_init_31 rfl (fun H locs hP hD hS => ?_)
  refine lv_iinc (v := 4) (lv' := [(1, .int 4), (0, .ref h0)]) hx hb dX1_init_32 hl (k := 0) rfl (by decide) (by decide) rfl (fun ls hl => ?_)
  refine lv_goto (tgt := 14) hx hb dX1_init_35 (by decide) ?_
  refine lv_iload_n hx hb dX1_init_14 rfl (lv_at hl 0 rfl) ?_
  refine lv_iconst (v := 4) hx hb dX1_init_15 (by decide) ?_
  refine lv_icmp_ge (tgt := 38) hx hb dX1_init_16 (by decide) (fun _ => ?_) (fun q => absurd q (by decide))
  exact zI_v (w1 := (fun z : Nat × Nat × Nat × Nat × Nat × Nat × Nat × Nat × Nat => [(h0, .inr (0, [.ref z.1, .int 0, .int 0])), (z.1, .inl (zO g, 4, .inr (.inr (.inr (.inr (va_up (va_up (va_up (va_up (fun _ => none) 0 (some z.2.1)) 1 (some z.2.2.2.1)) 2 (some z.2.2.2.2.2.1)) 3 (some z.2.2.2.2.2.2.2.1))))))), (z.2.1, .inr (3, [.ref z.2.2.1, .int 0])), (z.2.2.1, .inl (zI g, 912, .inl (fun _ => 0))), (z.2.2.2.1, .inr (3, [.ref z.2.2.2.2.1, .int 0])), (z.2.2.2.2.1, .inl (zI g, 912, .inl (fun _ => 0))), (z.2.2.2.2.2.1, .inr (3, [.ref z.2.2.2.2.2.2.1, .int 0])), (z.2.2.2.2.2.2.1, .inl (zI g, 912, .inl (fun _ => 0))), (z.2.2.2.2.2.2.2.1, .inr (3, [.ref z.2.2.2.2.2.2.2.2, .int 0])), (z.2.2.2.2.2.2.2.2, .inl (zI g, 912, .inl (fun _ => 0)))])) (q1, q2, z3, q4, z5, q6, z7, q8, z9) F hr hlocks hQ hP hD rfl hS dX1_init_38
abbrev rm_X7_init : Room := { frames := 1, cells := 1, slots := 600, locals := 12 }
set_option maxHeartbeats 4000000 in
set_option maxRecDepth 100000 in
theorem k_X7_init (l : Launch) (g : zEnv) (h0 : Nat) : ZI l yX7_init cX7_init 1 rm_X7_init g [.ref h0] [(h0, .inr (6, [.null, .int 0]))] (fun z : Nat => [(h0, .inr (6, [.ref z, .int 0])), (z, .inl (zY g, 600, .inl (fun _ => 0)))]) 1 600 := by
  refine zI_of (by decide) (Nat.le_of_ble_eq_true rfl) ?_
  intro p e s m below meth c A H locs ls Q R F hRm hr hlocks hin hO hP hD hS hl hQ
  subst hRm
  have F : zF p m c cX7_init 1 s (([.ref h0] : List Value)).toArray RX7 g A := F
  have hin : meth.name = "<init>" := hin
  have hx := F.1.1
  have hb := F.1.2.1
  have hz := F.1.2.2.2.2
  have hl : lv_has ls 1 [(0, .ref h0)] := hl
  refine lv_aload_n hx hb dX7_init_0 rfl (lv_at hl 0 rfl) ?_
  refine z_oi F hl.1 zw_471 zw_21 zw_22 ⟨Nat.le_of_ble_eq_true rfl, Nat.le_of_ble_eq_true rfl⟩ dX7_init_1 ?_
  refine lv_aload_n hx hb dX7_init_4 rfl (lv_at hl 0 rfl) ?_
  refine lv_sipush (v := 600) hx hb dX7_init_5 (by decide) ?_
  refine z_newY (N' := 600) F zw_324 hP hD hS (by decide) (by decide) (Nat.le_of_ble_eq_true rfl) (Nat.le_of_ble_eq_true rfl) (Nat.le_of_ble_eq_true rfl) dX7_init_8 (fun q1 H hP hD hS => ?_)
  have hP : va_P (zD g) vwCl [(h0, .inr (6, [.null, .int 0])), (q1, .inl (zY g, 600, .inl (fun _ => 0)))] H := hP
  have hD : va_D A [(h0, .inr (6, [.null, .int 0])), (q1, .inl (zY g, 600, .inl (fun _ => 0)))] := hD
  refine z_putF (T := TX7) (N := 2) (ci := 6) (W1 := [(h0, .inr (6, [.ref q1, .int 0])), (q1, .inl (zY g, 600, .inl (fun _ => 0)))]) F zu_wsX70 tyX7 tyX7_ok nmX7 hP hD hS 0 rfl rfl 0 (by decide) zw_125 rfl hin rfl rfl rfl (Nat.le_of_ble_eq_true rfl) dX7_init_10 rfl (fun H locs hP hD hS => ?_)
  exact zI_v (w1 := (fun z : Nat => [(h0, .inr (6, [.ref z, .int 0])), (z, .inl (zY g, 600, .inl (fun _ => 0)))])) q1 F hr hlocks hQ hP hD rfl hS dX7_init_13
abbrev rm_X5_init : Room := { frames := 1, cells := 1, slots := 1702, locals := 12 }
set_option maxHeartbeats 4000000 in
set_option maxRecDepth 100000 in
theorem k_X5_init (l : Launch) (g : zEnv) (h0 : Nat) : ZI l yX5_init cX5_init 1 rm_X5_init g [.ref h0] [(h0, .inr (4, [.null, .int 0, .int 0]))] (fun z : Nat => [(h0, .inr (4, [.ref z, .int 0, .int 0])), (z, .inl (zY g, 1702, .inl (fun _ => 0)))]) 1 1702 := by
  refine zI_of (by decide) (Nat.le_of_ble_eq_true rfl) ?_
  intro p e s m below meth c A H locs ls Q R F hRm hr hlocks hin hO hP hD hS hl hQ
  subst hRm
  have F : zF p m c cX5_init 1 s (([.ref h0] : List Value)).toArray RX5 g A := F
  have hin : meth.name = "<init>" := hin
  have hx := F.1.1
  have hb := F.1.2.1
  have hz := F.1.2.2.2.2
  have hl : lv_has ls 1 [(0, .ref h0)] := hl
  refine lv_aload_n hx hb dX5_init_0 rfl (lv_at hl 0 rfl) ?_
  refine z_oi F hl.1 zw_323 zw_21 zw_22 ⟨Nat.le_of_ble_eq_true rfl, Nat.le_of_ble_eq_true rfl⟩ dX5_init_1 ?_
  refine lv_aload_n hx hb dX5_init_4 rfl (lv_at hl 0 rfl) ?_
  refine lv_sipush (v := 1702) hx hb dX5_init_5 (by decide) ?_
  refine z_newY (N' := 1702) F zw_324 hP hD hS (by decide) (by decide) (Nat.le_of_ble_eq_true rfl) (Nat.le_of_ble_eq_true rfl) (Nat.le_of_ble_eq_true rfl) dX5_init_8 (fun q1 H hP hD hS => ?_)
  have hP : va_P (zD g) vwCl [(h0, .inr (4, [.null, .int 0, .int 0])), (q1, .inl (zY g, 1702, .inl (fun _ => 0)))] H := hP
  have hD : va_D A [(h0, .inr (4, [.null, .int 0, .int 0])), (q1, .inl (zY g, 1702, .inl (fun _ => 0)))] := hD
  refine z_putF (T := TX5) (N := 3) (ci := 4) (W1 := [(h0, .inr (4, [.ref q1, .int 0, .int 0])), (q1, .inl (zY g, 1702, .inl (fun _ => 0)))]) F zu_wsX50 tyX5 tyX5_ok nmX5 hP hD hS 0 rfl rfl 0 (by decide) zw_325 rfl hin rfl rfl rfl (Nat.le_of_ble_eq_true rfl) dX5_init_10 rfl (fun H locs hP hD hS => ?_)
  exact zI_v (w1 := (fun z : Nat => [(h0, .inr (4, [.ref z, .int 0, .int 0])), (z, .inl (zY g, 1702, .inl (fun _ => 0)))])) q1 F hr hlocks hQ hP hD rfl hS dX5_init_13
abbrev rm_X3_init : Room := { frames := 2, cells := 2, slots := 914, locals := 32 }
set_option maxHeartbeats 4000000 in
set_option maxRecDepth 100000 in
theorem k_X3_init (l : Launch) (g : zEnv) (h0 p1 : Nat) : ZI l yX3_init cX3_init 2 rm_X3_init g [.ref h0, .ref p1] [(h0, .inr (2, [.null, .null, .int 0, .int 0, .int 0]))] (fun z : Nat × Nat => [(h0, .inr (2, [.ref p1, .ref z.1, .int 0, .int 0, .int 0])), (z.1, .inr (3, [.ref z.2, .int 0])), (z.2, .inl (zI g, 912, .inl (fun _ => 0)))]) 2 914 := by
  refine zI_of (by decide) (Nat.le_of_ble_eq_true rfl) ?_
  intro p e s m below meth c A H locs ls Q R F hRm hr hlocks hin hO hP hD hS hl hQ
  subst hRm
  have F : zF p m c cX3_init 2 s (([.ref h0, .ref p1] : List Value)).toArray RX3 g A := F
  have hin : meth.name = "<init>" := hin
  have hx := F.1.1
  have hb := F.1.2.1
  have hz := F.1.2.2.2.2
  have hl : lv_has ls 2 [(0, .ref h0), (1, .ref p1)] := hl
  refine lv_aload_n hx hb dX3_init_0 rfl (lv_at hl 0 rfl) ?_
  refine z_oi F hl.1 zw_97 zw_21 zw_22 ⟨Nat.le_of_ble_eq_true rfl, Nat.le_of_ble_eq_true rfl⟩ dX3_init_1 ?_
  refine lv_aload_n hx hb dX3_init_4 rfl (lv_at hl 0 rfl) ?_
  refine z_new (C := RX4) (T := TX4) (N := 2) (ci := 3) (fs := [.null, .int 0]) F zu_wsX40 tyX4 tyX4_ok zw_98 zw_29 zw_30 hP hD hS rfl (by decide) (Nat.le_of_ble_eq_true rfl) (Nat.le_of_ble_eq_true rfl) dX3_init_5 (fun q1 H hP hD hS => ?_)
  have hP : va_P (zD g) vwCl [(h0, .inr (2, [.null, .null, .int 0, .int 0, .int 0])), (q1, .inr (3, [.null, .int 0]))] H := hP
  have hD : va_D A [(h0, .inr (2, [.null, .null, .int 0, .int 0, .int 0])), (q1, .inr (3, [.null, .int 0]))] := hD
  refine lv_dup hx hb dX3_init_8 rfl ?_
  refine zCIN (n := 0) (W1 := fun z2 => [(h0, .inr (2, [.null, .null, .int 0, .int 0, .int 0])), (q1, .inr (3, [.ref z2, .int 0])), (z2, .inl (zI g, 912, .inl (fun _ => 0)))]) F hO (k_X4_init l g q1) zw_25 zw_30 ⟨by decide, by decide⟩ (by decide +kernel) rfl zw_31 (List.mem_of_getElem? (i := 4) rfl) hP hD hS [1] [0] [0, 1, 2] (wr := [(h0, .inr (2, [.null, .null, .int 0, .int 0, .int 0]))]) rfl rfl rfl rfl (by decide) (fun _ => rfl) rfl (rest := [.ref q1, .ref h0]) (As := []) rfl hl.1 rfl (Nat.le_of_ble_eq_true rfl) ⟨rfl, rfl⟩ ⟨Nat.le_of_ble_eq_true rfl, Nat.le_of_ble_eq_true rfl⟩ ⟨(Nat.le_of_ble_eq_true rfl), (Nat.le_of_ble_eq_true rfl)⟩ dX3_init_9 (fun z2 H locs hP hD hS => ?_)
  have hP : va_P (zD g) vwCl [(h0, .inr (2, [.null, .null, .int 0, .int 0, .int 0])), (q1, .inr (3, [.ref z2, .int 0])), (z2, .inl (zI g, 912, .inl (fun _ => 0)))] H := hP
  have hD : va_D A [(h0, .inr (2, [.null, .null, .int 0, .int 0, .int 0])), (q1, .inr (3, [.ref z2, .int 0])), (z2, .inl (zI g, 912, .inl (fun _ => 0)))] := hD
  refine z_putF (T := TX3) (N := 5) (ci := 2) (W1 := [(h0, .inr (2, [.null, .ref q1, .int 0, .int 0, .int 0])), (q1, .inr (3, [.ref z2, .int 0])), (z2, .inl (zI g, 912, .inl (fun _ => 0)))]) F zu_wsX30 tyX3 tyX3_ok nmX3 hP hD hS 0 rfl rfl 1 (by decide) zw_99 rfl hin rfl rfl rfl (Nat.le_of_ble_eq_true rfl) dX3_init_12 rfl (fun H locs hP hD hS => ?_)
  refine lv_aload_n hx hb dX3_init_15 rfl (lv_at hl 0 rfl) ?_
  refine lv_aload_n hx hb dX3_init_16 rfl (lv_at hl 1 rfl) ?_
  refine z_putF (T := TX3) (N := 5) (ci := 2) (W1 := [(h0, .inr (2, [.ref p1, .ref q1, .int 0, .int 0, .int 0])), (q1, .inr (3, [.ref z2, .int 0])), (z2, .inl (zI g, 912, .inl (fun _ => 0)))]) F zu_wsX30 tyX3 tyX3_ok nmX3 hP hD hS 0 rfl rfl 0 (by decide) zw_100 rfl hin rfl rfl rfl (Nat.le_of_ble_eq_true rfl) dX3_init_17 rfl (fun H locs hP hD hS => ?_)
  exact zI_v (w1 := (fun z : Nat × Nat => [(h0, .inr (2, [.ref p1, .ref z.1, .int 0, .int 0, .int 0])), (z.1, .inr (3, [.ref z.2, .int 0])), (z.2, .inl (zI g, 912, .inl (fun _ => 0)))])) (q1, z2) F hr hlocks hQ hP hD rfl hS dX3_init_20
abbrev rm_X6_init : Room := { frames := 1, cells := 2, slots := 1536, locals := 12 }
set_option maxHeartbeats 4000000 in
set_option maxRecDepth 100000 in
theorem k_X6_init (l : Launch) (g : zEnv) (h0 p1 : Nat) : ZI l yX6_init cX6_init 2 rm_X6_init g [.ref h0, .ref p1] [(h0, .inr (5, [.null, .null, .null]))] (fun z : Nat × Nat => [(h0, .inr (5, [.ref p1, .ref z.1, .ref z.2])), (z.1, .inl (zI g, 768, .inl (fun _ => 0))), (z.2, .inl (zI g, 768, .inl (fun _ => 0)))]) 2 1536 := by
  refine zI_of (by decide) (Nat.le_of_ble_eq_true rfl) ?_
  intro p e s m below meth c A H locs ls Q R F hRm hr hlocks hin hO hP hD hS hl hQ
  subst hRm
  have F : zF p m c cX6_init 2 s (([.ref h0, .ref p1] : List Value)).toArray RX6 g A := F
  have hin : meth.name = "<init>" := hin
  have hx := F.1.1
  have hb := F.1.2.1
  have hz := F.1.2.2.2.2
  have hl : lv_has ls 2 [(0, .ref h0), (1, .ref p1)] := hl
  refine lv_aload_n hx hb dX6_init_0 rfl (lv_at hl 0 rfl) ?_
  refine z_oi F hl.1 zw_396 zw_21 zw_22 ⟨Nat.le_of_ble_eq_true rfl, Nat.le_of_ble_eq_true rfl⟩ dX6_init_1 ?_
  refine lv_aload_n hx hb dX6_init_4 rfl (lv_at hl 0 rfl) ?_
  refine lv_sipush (v := 768) hx hb dX6_init_5 (by decide) ?_
  refine z_newI (N' := 768) F zw_23 hP hD hS (by decide) (by decide) (Nat.le_of_ble_eq_true rfl) (Nat.le_of_ble_eq_true rfl) (Nat.le_of_ble_eq_true rfl) dX6_init_8 (fun q1 H hP hD hS => ?_)
  have hP : va_P (zD g) vwCl [(h0, .inr (5, [.null, .null, .null])), (q1, .inl (zI g, 768, .inl (fun _ => 0)))] H := hP
  have hD : va_D A [(h0, .inr (5, [.null, .null, .null])), (q1, .inl (zI g, 768, .inl (fun _ => 0)))] := hD
  refine z_putF (T := TX6) (N := 3) (ci := 5) (W1 := [(h0, .inr (5, [.null, .ref q1, .null])), (q1, .inl (zI g, 768, .inl (fun _ => 0)))]) F zu_wsX60 tyX6 tyX6_ok nmX6 hP hD hS 0 rfl rfl 1 (by decide) zw_397 rfl hin rfl rfl rfl (Nat.le_of_ble_eq_true rfl) dX6_init_10 rfl (fun H locs hP hD hS => ?_)
  refine lv_aload_n hx hb dX6_init_13 rfl (lv_at hl 0 rfl) ?_
  refine lv_sipush (v := 768) hx hb dX6_init_14 (by decide) ?_
  refine z_newI (N' := 768) F zw_23 hP hD hS (by decide) (by decide) (Nat.le_of_ble_eq_true rfl) (Nat.le_of_ble_eq_true rfl) (Nat.le_of_ble_eq_true rfl) dX6_init_17 (fun q2 H hP hD hS => ?_)
  have hP : va_P (zD g) vwCl [(h0, .inr (5, [.null, .ref q1, .null])), (q1, .inl (zI g, 768, .inl (fun _ => 0))), (q2, .inl (zI g, 768, .inl (fun _ => 0)))] H := hP
  have hD : va_D A [(h0, .inr (5, [.null, .ref q1, .null])), (q1, .inl (zI g, 768, .inl (fun _ => 0))), (q2, .inl (zI g, 768, .inl (fun _ => 0)))] := hD
  refine z_putF (T := TX6) (N := 3) (ci := 5) (W1 := [(h0, .inr (5, [.null, .ref q1, .ref q2])), (q1, .inl (zI g, 768, .inl (fun _ => 0))), (q2, .inl (zI g, 768, .inl (fun _ => 0)))]) F zu_wsX60 tyX6 tyX6_ok nmX6 hP hD hS 0 rfl rfl 2 (by decide) zw_398 rfl hin rfl rfl rfl (Nat.le_of_ble_eq_true rfl) dX6_init_19 rfl (fun H locs hP hD hS => ?_)
  refine lv_aload_n hx hb dX6_init_22 rfl (lv_at hl 0 rfl) ?_
  refine lv_aload_n hx hb dX6_init_23 rfl (lv_at hl 1 rfl) ?_
  refine z_putF (T := TX6) (N := 3) (ci := 5) (W1 := [(h0, .inr (5, [.ref p1, .ref q1, .ref q2])), (q1, .inl (zI g, 768, .inl (fun _ => 0))), (q2, .inl (zI g, 768, .inl (fun _ => 0)))]) F zu_wsX60 tyX6 tyX6_ok nmX6 hP hD hS 0 rfl rfl 0 (by decide) zw_399 rfl hin rfl rfl rfl (Nat.le_of_ble_eq_true rfl) dX6_init_24 rfl (fun H locs hP hD hS => ?_)
  exact zI_v (w1 := (fun z : Nat × Nat => [(h0, .inr (5, [.ref p1, .ref z.1, .ref z.2])), (z.1, .inl (zI g, 768, .inl (fun _ => 0))), (z.2, .inl (zI g, 768, .inl (fun _ => 0)))])) (q1, q2) F hr hlocks hQ hP hD rfl hS dX6_init_27
abbrev rm_X2_init : Room := { frames := 1, cells := 1, slots := 200, locals := 12 }
set_option maxHeartbeats 4000000 in
set_option maxRecDepth 100000 in
theorem k_X2_init (l : Launch) (g : zEnv) (h0 : Nat) : ZI l yX2_init cX2_init 1 rm_X2_init g [.ref h0] [(h0, .inr (1, [.null, .int 0]))] (fun z : Nat => [(h0, .inr (1, [.ref z, .int 0])), (z, .inl (zI g, 200, .inl (fun _ => 0)))]) 1 200 := by
  refine zI_of (by decide) (Nat.le_of_ble_eq_true rfl) ?_
  intro p e s m below meth c A H locs ls Q R F hRm hr hlocks hin hO hP hD hS hl hQ
  subst hRm
  have F : zF p m c cX2_init 1 s (([.ref h0] : List Value)).toArray RX2 g A := F
  have hin : meth.name = "<init>" := hin
  have hx := F.1.1
  have hb := F.1.2.1
  have hz := F.1.2.2.2.2
  have hl : lv_has ls 1 [(0, .ref h0)] := hl
  refine lv_aload_n hx hb dX2_init_0 rfl (lv_at hl 0 rfl) ?_
  refine z_oi F hl.1 zw_56 zw_21 zw_22 ⟨Nat.le_of_ble_eq_true rfl, Nat.le_of_ble_eq_true rfl⟩ dX2_init_1 ?_
  refine lv_aload_n hx hb dX2_init_4 rfl (lv_at hl 0 rfl) ?_
  refine lv_sipush (v := 200) hx hb dX2_init_5 (by decide) ?_
  refine z_newI (N' := 200) F zw_23 hP hD hS (by decide) (by decide) (Nat.le_of_ble_eq_true rfl) (Nat.le_of_ble_eq_true rfl) (Nat.le_of_ble_eq_true rfl) dX2_init_8 (fun q1 H hP hD hS => ?_)
  have hP : va_P (zD g) vwCl [(h0, .inr (1, [.null, .int 0])), (q1, .inl (zI g, 200, .inl (fun _ => 0)))] H := hP
  have hD : va_D A [(h0, .inr (1, [.null, .int 0])), (q1, .inl (zI g, 200, .inl (fun _ => 0)))] := hD
  refine z_putF (T := TX2) (N := 2) (ci := 1) (W1 := [(h0, .inr (1, [.ref q1, .int 0])), (q1, .inl (zI g, 200, .inl (fun _ => 0)))]) F zu_wsX20 tyX2 tyX2_ok nmX2 hP hD hS 0 rfl rfl 0 (by decide) zw_57 rfl hin rfl rfl rfl (Nat.le_of_ble_eq_true rfl) dX2_init_10 rfl (fun H locs hP hD hS => ?_)
  exact zI_v (w1 := (fun z : Nat => [(h0, .inr (1, [.ref z, .int 0])), (z, .inl (zI g, 200, .inl (fun _ => 0)))])) q1 F hr hlocks hQ hP hD rfl hS dX2_init_13
abbrev rm_X9_init : Room := { frames := 3, cells := 24, slots := 9544, locals := 53 }
set_option maxHeartbeats 4000000 in
set_option maxRecDepth 100000 in
theorem k_X9_init (l : Launch) (g : zEnv) (h0 : Nat) : ZI l yX9_init cX9_init 1 rm_X9_init g [.ref h0] [(h0, .inr (7, [.null, .null, .null, .null, .null, .null, .null]))] (fun z : Nat × Nat × Nat × Nat × Nat × Nat × Nat × Nat × Nat × Nat × Nat × Nat × Nat × Nat × Nat × Nat × Nat × Nat × Nat × Nat × Nat × Nat × Nat × Nat => [(h0, .inr (7, [.ref z.1, .ref z.2.2.1, .ref z.2.2.2.2.2.2.2.2.2.2.2.2.1, .ref z.2.2.2.2.2.2.2.2.2.2.2.2.2.2.1, .ref z.2.2.2.2.2.2.2.2.2.2.2.2.2.2.2.2.1, .ref z.2.2.2.2.2.2.2.2.2.2.2.2.2.2.2.2.2.2.2.1, .ref z.2.2.2.2.2.2.2.2.2.2.2.2.2.2.2.2.2.2.2.2.2.2.1])), (z.1, .inr (3, [.ref z.2.1, .int 0])), (z.2.1, .inl (zI g, 912, .inl (fun _ => 0))), (z.2.2.1, .inr (0, [.ref z.2.2.2.1, .int 0, .int 0])), (z.2.2.2.1, .inl (zO g, 4, .inr (.inr (.inr (.inr (va_up (va_up (va_up (va_up (fun _ => none) 0 (some z.2.2.2.2.1)) 1 (some z.2.2.2.2.2.2.1)) 2 (some z.2.2.2.2.2.2.2.2.1)) 3 (some z.2.2.2.2.2.2.2.2.2.2.1))))))), (z.2.2.2.2.1, .inr (3, [.ref z.2.2.2.2.2.1, .int 0])), (z.2.2.2.2.2.1, .inl (zI g, 912, .inl (fun _ => 0))), (z.2.2.2.2.2.2.1, .inr (3, [.ref z.2.2.2.2.2.2.2.1, .int 0])), (z.2.2.2.2.2.2.2.1, .inl (zI g, 912, .inl (fun _ => 0))), (z.2.2.2.2.2.2.2.2.1, .inr (3, [.ref z.2.2.2.2.2.2.2.2.2.1, .int 0])), (z.2.2.2.2.2.2.2.2.2.1, .inl (zI g, 912, .inl (fun _ => 0))), (z.2.2.2.2.2.2.2.2.2.2.1, .inr (3, [.ref z.2.2.2.2.2.2.2.2.2.2.2.1, .int 0])), (z.2.2.2.2.2.2.2.2.2.2.2.1, .inl (zI g, 912, .inl (fun _ => 0))), (z.2.2.2.2.2.2.2.2.2.2.2.2.1, .inr (6, [.ref z.2.2.2.2.2.2.2.2.2.2.2.2.2.1, .int 0])), (z.2.2.2.2.2.2.2.2.2.2.2.2.2.1, .inl (zY g, 600, .inl (fun _ => 0))), (z.2.2.2.2.2.2.2.2.2.2.2.2.2.2.1, .inr (4, [.ref z.2.2.2.2.2.2.2.2.2.2.2.2.2.2.2.1, .int 0, .int 0])), (z.2.2.2.2.2.2.2.2.2.2.2.2.2.2.2.1, .inl (zY g, 1702, .inl (fun _ => 0))), (z.2.2.2.2.2.2.2.2.2.2.2.2.2.2.2.2.1, .inr (2, [.ref z.2.2.2.2.2.2.2.2.2.2.2.2.1, .ref z.2.2.2.2.2.2.2.2.2.2.2.2.2.2.2.2.2.1, .int 0, .int 0, .int 0])), (z.2.2.2.2.2.2.2.2.2.2.2.2.2.2.2.2.2.1, .inr (3, [.ref z.2.2.2.2.2.2.2.2.2.2.2.2.2.2.2.2.2.2.1, .int 0])), (z.2.2.2.2.2.2.2.2.2.2.2.2.2.2.2.2.2.2.1, .inl (zI g, 912, .inl (fun _ => 0))), (z.2.2.2.2.2.2.2.2.2.2.2.2.2.2.2.2.2.2.2.1, .inr (5, [.ref z.1, .ref z.2.2.2.2.2.2.2.2.2.2.2.2.2.2.2.2.2.2.2.2.1, .ref z.2.2.2.2.2.2.2.2.2.2.2.2.2.2.2.2.2.2.2.2.2.1])), (z.2.2.2.2.2.2.2.2.2.2.2.2.2.2.2.2.2.2.2.2.1, .inl (zI g, 768, .inl (fun _ => 0))), (z.2.2.2.2.2.2.2.2.2.2.2.2.2.2.2.2.2.2.2.2.2.1, .inl (zI g, 768, .inl (fun _ => 0))), (z.2.2.2.2.2.2.2.2.2.2.2.2.2.2.2.2.2.2.2.2.2.2.1, .inr (1, [.ref z.2.2.2.2.2.2.2.2.2.2.2.2.2.2.2.2.2.2.2.2.2.2.2, .int 0])), (z.2.2.2.2.2.2.2.2.2.2.2.2.2.2.2.2.2.2.2.2.2.2.2, .inl (zI g, 200, .inl (fun _ => 0)))]) 24 9544 := by
  refine zI_of (by decide) (Nat.le_of_ble_eq_true rfl) ?_
  intro p e s m below meth c A H locs ls Q R F hRm hr hlocks hin hO hP hD hS hl hQ
  subst hRm
  have F : zF p m c cX9_init 1 s (([.ref h0] : List Value)).toArray RX9 g A := F
  have hin : meth.name = "<init>" := hin
  have hx := F.1.1
  have hb := F.1.2.1
  have hz := F.1.2.2.2.2
  have hl : lv_has ls 1 [(0, .ref h0)] := hl
  refine lv_aload_n hx hb dX9_init_0 rfl (lv_at hl 0 rfl) ?_
  refine z_oi F hl.1 zw_476 zw_21 zw_22 ⟨Nat.le_of_ble_eq_true rfl, Nat.le_of_ble_eq_true rfl⟩ dX9_init_1 ?_
  refine lv_aload_n hx hb dX9_init_4 rfl (lv_at hl 0 rfl) ?_
  refine z_new (C := RX4) (T := TX4) (N := 2) (ci := 3) (fs := [.null, .int 0]) F zu_wsX40 tyX4 tyX4_ok zw_477 zw_29 zw_30 hP hD hS rfl (by decide) (Nat.le_of_ble_eq_true rfl) (Nat.le_of_ble_eq_true rfl) dX9_init_5 (fun q1 H hP hD hS => ?_)
  have hP : va_P (zD g) vwCl [(h0, .inr (7, [.null, .null, .null, .null, .null, .null, .null])), (q1, .inr (3, [.null, .int 0]))] H := hP
  have hD : va_D A [(h0, .inr (7, [.null, .null, .null, .null, .null, .null, .null])), (q1, .inr (3, [.null, .int 0]))] := hD
  refine lv_dup hx hb dX9_init_8 rfl ?_
  refine zCIN (n := 0) (W1 := fun z2 => [(h0, .inr (7, [.null, .null, .null, .null, .null, .null, .null])), (q1, .inr (3, [.ref z2, .int 0])), (z2, .inl (zI g, 912, .inl (fun _ => 0)))]) F hO (k_X4_init l g q1) zw_25 zw_30 ⟨by decide, by decide⟩ (by decide +kernel) rfl zw_31 (List.mem_of_getElem? (i := 0) rfl) hP hD hS [1] [0] [0, 1, 2] (wr := [(h0, .inr (7, [.null, .null, .null, .null, .null, .null, .null]))]) rfl rfl rfl rfl (by decide) (fun _ => rfl) rfl (rest := [.ref q1, .ref h0]) (As := []) rfl hl.1 rfl (Nat.le_of_ble_eq_true rfl) ⟨rfl, rfl⟩ ⟨Nat.le_of_ble_eq_true rfl, Nat.le_of_ble_eq_true rfl⟩ ⟨(Nat.le_of_ble_eq_true rfl), (Nat.le_of_ble_eq_true rfl)⟩ dX9_init_9 (fun z2 H locs hP hD hS => ?_)
  have hP : va_P (zD g) vwCl [(h0, .inr (7, [.null, .null, .null, .null, .null, .null, .null])), (q1, .inr (3, [.ref z2, .int 0])), (z2, .inl (zI g, 912, .inl (fun _ => 0)))] H := hP
  have hD : va_D A [(h0, .inr (7, [.null, .null, .null, .null, .null, .null, .null])), (q1, .inr (3, [.ref z2, .int 0])), (z2, .inl (zI g, 912, .inl (fun _ => 0)))] := hD
  refine z_putF (T := TX9) (N := 7) (ci := 7) (W1 := [(h0, .inr (7, [.ref q1, .null, .null, .null, .null, .null, .null])), (q1, .inr (3, [.ref z2, .int 0])), (z2, .inl (zI g, 912, .inl (fun _ => 0)))]) F zu_wsX90 tyX9 tyX9_ok nmX9 hP hD hS 0 rfl rfl 0 (by decide) zw_478 rfl hin rfl rfl rfl (Nat.le_of_ble_eq_true rfl) dX9_init_12 rfl (fun H locs hP hD hS => ?_)
  refine lv_aload_n hx hb dX9_init_15 rfl (lv_at hl 0 rfl) ?_
  refine z_new (C := RX1) (T := TX1) (N := 3) (ci := 0) (fs := [.null, .int 0, .int 0]) F zu_wsX10 tyX1 tyX1_ok zw_479 zw_480 zw_50 hP hD hS rfl (by decide) (Nat.le_of_ble_eq_true rfl) (Nat.le_of_ble_eq_true rfl) dX9_init_16 (fun q3 H hP hD hS => ?_)
  have hP : va_P (zD g) vwCl [(h0, .inr (7, [.ref q1, .null, .null, .null, .null, .null, .null])), (q1, .inr (3, [.ref z2, .int 0])), (z2, .inl (zI g, 912, .inl (fun _ => 0))), (q3, .inr (0, [.null, .int 0, .int 0]))] H := hP
  have hD : va_D A [(h0, .inr (7, [.ref q1, .null, .null, .null, .null, .null, .null])), (q1, .inr (3, [.ref z2, .int 0])), (z2, .inl (zI g, 912, .inl (fun _ => 0))), (q3, .inr (0, [.null, .int 0, .int 0]))] := hD
  refine lv_dup hx hb dX9_init_19 rfl ?_
  refine zCI (n := 0) (W1 := fun z4 => [(h0, .inr (7, [.ref q1, .null, .null, .null, .null, .null, .null])), (q1, .inr (3, [.ref z2, .int 0])), (z2, .inl (zI g, 912, .inl (fun _ => 0))), (q3, .inr (0, [.ref z4.1, .int 0, .int 0])), (z4.1, .inl (zO g, 4, .inr (.inr (.inr (.inr (va_up (va_up (va_up (va_up (fun _ => none) 0 (some z4.2.1)) 1 (some z4.2.2.2.1)) 2 (some z4.2.2.2.2.2.1)) 3 (some z4.2.2.2.2.2.2.2.1))))))), (z4.2.1, .inr (3, [.ref z4.2.2.1, .int 0])), (z4.2.2.1, .inl (zI g, 912, .inl (fun _ => 0))), (z4.2.2.2.1, .inr (3, [.ref z4.2.2.2.2.1, .int 0])), (z4.2.2.2.2.1, .inl (zI g, 912, .inl (fun _ => 0))), (z4.2.2.2.2.2.1, .inr (3, [.ref z4.2.2.2.2.2.2.1, .int 0])), (z4.2.2.2.2.2.2.1, .inl (zI g, 912, .inl (fun _ => 0))), (z4.2.2.2.2.2.2.2.1, .inr (3, [.ref z4.2.2.2.2.2.2.2.2, .int 0])), (z4.2.2.2.2.2.2.2.2, .inl (zI g, 912, .inl (fun _ => 0)))]) F hO (k_X1_init l g q3) zw_32 zw_50 ⟨by decide, by decide⟩ (by decide +kernel) rfl zw_498 zw_497 hP hD hS [3] [0, 1, 2] [0, 1, 2, 3, 4, 5, 6, 7, 8, 9, 10, 11, 12] (wr := [(h0, .inr (7, [.ref q1, .null, .null, .null, .null, .null, .null])), (q1, .inr (3, [.ref z2, .int 0])), (z2, .inl (zI g, 912, .inl (fun _ => 0)))]) rfl rfl rfl rfl (by decide) (fun _ => rfl) rfl (rest := [.ref q3, .ref h0]) (As := []) rfl hl.1 rfl (Nat.le_of_ble_eq_true rfl) ⟨rfl, rfl⟩ ⟨Nat.le_of_ble_eq_true rfl, Nat.le_of_ble_eq_true rfl⟩ ⟨(Nat.le_of_ble_eq_true rfl), (Nat.le_of_ble_eq_true rfl)⟩ dX9_init_20 (fun z4 H locs hP hD hS => ?_)
  have hP : va_P (zD g) vwCl [(h0, .inr (7, [.ref q1, .null, .null, .null, .null, .null, .null])), (q1, .inr (3, [.ref z2, .int 0])), (z2, .inl (zI g, 912, .inl (fun _ => 0))), (q3, .inr (0, [.ref z4.1, .int 0, .int 0])), (z4.1, .inl (zO g, 4, .inr (.inr (.inr (.inr (va_up (va_up (va_up (va_up (fun _ => none) 0 (some z4.2.1)) 1 (some z4.2.2.2.1)) 2 (some z4.2.2.2.2.2.1)) 3 (some z4.2.2.2.2.2.2.2.1))))))), (z4.2.1, .inr (3, [.ref z4.2.2.1, .int 0])), (z4.2.2.1, .inl (zI g, 912, .inl (fun _ => 0))), (z4.2.2.2.1, .inr (3, [.ref z4.2.2.2.2.1, .int 0])), (z4.2.2.2.2.1, .inl (zI g, 912, .inl (fun _ => 0))), (z4.2.2.2.2.2.1, .inr (3, [.ref z4.2.2.2.2.2.2.1, .int 0])), (z4.2.2.2.2.2.2.1, .inl (zI g, 912, .inl (fun _ => 0))), (z4.2.2.2.2.2.2.2.1, .inr (3, [.ref z4.2.2.2.2.2.2.2.2, .int 0])), (z4.2.2.2.2.2.2.2.2, .inl (zI g, 912, .inl (fun _ => 0)))] H := hP
  have hD : va_D A [(h0, .inr (7, [.ref q1, .null, .null, .null, .null, .null, .null])), (q1, .inr (3, [.ref z2, .int 0])), (z2, .inl (zI g, 912, .inl (fun _ => 0))), (q3, .inr (0, [.ref z4.1, .int 0, .int 0])), (z4.1, .inl (zO g, 4, .inr (.inr (.inr (.inr (va_up (va_up (va_up (va_up (fun _ => none) 0 (some z4.2.1)) 1 (some z4.2.2.2.1)) 2 (some z4.2.2.2.2.2.1)) 3 (some z4.2.2.2.2.2.2.2.1))))))), (z4.2.1, .inr (3, [.ref z4.2.2.1, .int 0])), (z4.2.2.1, .inl (zI g, 912, .inl (fun _ => 0))), (z4.2.2.2.1, .inr (3, [.ref z4.2.2.2.2.1, .int 0])), (z4.2.2.2.2.1, .inl (zI g, 912, .inl (fun _ => 0))), (z4.2.2.2.2.2.1, .inr (3, [.ref z4.2.2.2.2.2.2.1, .int 0])), (z4.2.2.2.2.2.2.1, .inl (zI g, 912, .inl (fun _ => 0))), (z4.2.2.2.2.2.2.2.1, .inr (3, [.ref z4.2.2.2.2.2.2.2.2, .int 0])), (z4.2.2.2.2.2.2.2.2, .inl (zI g, 912, .inl (fun _ => 0)))] := hD
  refine z_putF (T := TX9) (N := 7) (ci := 7) (W1 := [(h0, .inr (7, [.ref q1, .ref q3, .null, .null, .null, .null, .null])), (q1, .inr (3, [.ref z2, .int 0])), (z2, .inl (zI g, 912, .inl (fun _ => 0))), (q3, .inr (0, [.ref z4.1, .int 0, .int 0])), (z4.1, .inl (zO g, 4, .inr (.inr (.inr (.inr (va_up (va_up (va_up (va_up (fun _ => none) 0 (some z4.2.1)) 1 (some z4.2.2.2.1)) 2 (some z4.2.2.2.2.2.1)) 3 (some z4.2.2.2.2.2.2.2.1))))))), (z4.2.1, .inr (3, [.ref z4.2.2.1, .int 0])), (z4.2.2.1, .inl (zI g, 912, .inl (fun _ => 0))), (z4.2.2.2.1, .inr (3, [.ref z4.2.2.2.2.1, .int 0])), (z4.2.2.2.2.1, .inl (zI g, 912, .inl (fun _ => 0))), (z4.2.2.2.2.2.1, .inr (3, [.ref z4.2.2.2.2.2.2.1, .int 0])), (z4.2.2.2.2.2.2.1, .inl (zI g, 912, .inl (fun _ => 0))), (z4.2.2.2.2.2.2.2.1, .inr (3, [.ref z4.2.2.2.2.2.2.2.2, .int 0])), (z4.2.2.2.2.2.2.2.2, .inl (zI g, 912, .inl (fun _ => 0)))]) F zu_wsX90 tyX9 tyX9_ok nmX9 hP hD hS 0 rfl rfl 1 (by decide) zw_481 rfl hin rfl rfl rfl (Nat.le_of_ble_eq_true rfl) dX9_init_23 rfl (fun H locs hP hD hS => ?_)
  refine lv_aload_n hx hb dX9_init_26 rfl (lv_at hl 0 rfl) ?_
  refine z_new (C := RX7) (T := TX7) (N := 2) (ci := 6) (fs := [.null, .int 0]) F zu_wsX70 tyX7 tyX7_ok zw_482 zw_483 zw_132 hP hD hS rfl (by decide) (Nat.le_of_ble_eq_true rfl) (Nat.le_of_ble_eq_true rfl) dX9_init_27 (fun q5 H hP hD hS => ?_)
  have hP : va_P (zD g) vwCl [(h0, .inr (7, [.ref q1, .ref q3, .null, .null, .null, .null, .null])), (q1, .inr (3, [.ref z2, .int 0])), (z2, .inl (zI g, 912, .inl (fun _ => 0))), (q3, .inr (0, [.ref z4.1, .int 0, .int 0])), (z4.1, .inl (zO g, 4, .inr (.inr (.inr (.inr (va_up (va_up (va_up (va_up (fun _ => none) 0 (some z4.2.1)) 1 (some z4.2.2.2.1)) 2 (some z4.2.2.2.2.2.1)) 3 (some z4.2.2.2.2.2.2.2.1))))))), (z4.2.1, .inr (3, [.ref z4.2.2.1, .int 0])), (z4.2.2.1, .inl (zI g, 912, .inl (fun _ => 0))), (z4.2.2.2.1, .inr (3, [.ref z4.2.2.2.2.1, .int 0])), (z4.2.2.2.2.1, .inl (zI g, 912, .inl (fun _ => 0))), (z4.2.2.2.2.2.1, .inr (3, [.ref z4.2.2.2.2.2.2.1, .int 0])), (z4.2.2.2.2.2.2.1, .inl (zI g, 912, .inl (fun _ => 0))), (z4.2.2.2.2.2.2.2.1, .inr (3, [.ref z4.2.2.2.2.2.2.2.2, .int 0])), (z4.2.2.2.2.2.2.2.2, .inl (zI g, 912, .inl (fun _ => 0))), (q5, .inr (6, [.null, .int 0]))] H := hP
  have hD : va_D A [(h0, .inr (7, [.ref q1, .ref q3, .null, .null, .null, .null, .null])), (q1, .inr (3, [.ref z2, .int 0])), (z2, .inl (zI g, 912, .inl (fun _ => 0))), (q3, .inr (0, [.ref z4.1, .int 0, .int 0])), (z4.1, .inl (zO g, 4, .inr (.inr (.inr (.inr (va_up (va_up (va_up (va_up (fun _ => none) 0 (some z4.2.1)) 1 (some z4.2.2.2.1)) 2 (some z4.2.2.2.2.2.1)) 3 (some z4.2.2.2.2.2.2.2.1))))))), (z4.2.1, .inr (3, [.ref z4.2.2.1, .int 0])), (z4.2.2.1, .inl (zI g, 912, .inl (fun _ => 0))), (z4.2.2.2.1, .inr (3, [.ref z4.2.2.2.2.1, .int 0])), (z4.2.2.2.2.1, .inl (zI g, 912, .inl (fun _ => 0))), (z4.2.2.2.2.2.1, .inr (3, [.ref z4.2.2.2.2.2.2.1, .int 0])), (z4.2.2.2.2.2.2.1, .inl (zI g, 912, .inl (fun _ => 0))), (z4.2.2.2.2.2.2.2.1, .inr (3, [.ref z4.2.2.2.2.2.2.2.2, .int 0])), (z4.2.2.2.2.2.2.2.2, .inl (zI g, 912, .inl (fun _ => 0))), (q5, .inr (6, [.null, .int 0]))] := hD
  refine lv_dup hx hb dX9_init_30 rfl ?_
  refine zCIN (n := 0) (W1 := fun z6 => [(h0, .inr (7, [.ref q1, .ref q3, .null, .null, .null, .null, .null])), (q1, .inr (3, [.ref z2, .int 0])), (z2, .inl (zI g, 912, .inl (fun _ => 0))), (q3, .inr (0, [.ref z4.1, .int 0, .int 0])), (z4.1, .inl (zO g, 4, .inr (.inr (.inr (.inr (va_up (va_up (va_up (va_up (fun _ => none) 0 (some z4.2.1)) 1 (some z4.2.2.2.1)) 2 (some z4.2.2.2.2.2.1)) 3 (some z4.2.2.2.2.2.2.2.1))))))), (z4.2.1, .inr (3, [.ref z4.2.2.1, .int 0])), (z4.2.2.1, .inl (zI g, 912, .inl (fun _ => 0))), (z4.2.2.2.1, .inr (3, [.ref z4.2.2.2.2.1, .int 0])), (z4.2.2.2.2.1, .inl (zI g, 912, .inl (fun _ => 0))), (z4.2.2.2.2.2.1, .inr (3, [.ref z4.2.2.2.2.2.2.1, .int 0])), (z4.2.2.2.2.2.2.1, .inl (zI g, 912, .inl (fun _ => 0))), (z4.2.2.2.2.2.2.2.1, .inr (3, [.ref z4.2.2.2.2.2.2.2.2, .int 0])), (z4.2.2.2.2.2.2.2.2, .inl (zI g, 912, .inl (fun _ => 0))), (q5, .inr (6, [.ref z6, .int 0])), (z6, .inl (zY g, 600, .inl (fun _ => 0)))]) F hO (k_X7_init l g q5) zw_472 zw_132 ⟨by decide, by decide⟩ (by decide +kernel) rfl zw_499 (List.mem_of_getElem? (i := 2) rfl) hP hD hS [13] [0, 1, 2, 3, 4, 5, 6, 7, 8, 9, 10, 11, 12] [0, 1, 2, 3, 4, 5, 6, 7, 8, 9, 10, 11, 12, 13, 14] (wr := [(h0, .inr (7, [.ref q1, .ref q3, .null, .null, .null, .null, .null])), (q1, .inr (3, [.ref z2, .int 0])), (z2, .inl (zI g, 912, .inl (fun _ => 0))), (q3, .inr (0, [.ref z4.1, .int 0, .int 0])), (z4.1, .inl (zO g, 4, .inr (.inr (.inr (.inr (va_up (va_up (va_up (va_up (fun _ => none) 0 (some z4.2.1)) 1 (some z4.2.2.2.1)) 2 (some z4.2.2.2.2.2.1)) 3 (some z4.2.2.2.2.2.2.2.1))))))), (z4.2.1, .inr (3, [.ref z4.2.2.1, .int 0])), (z4.2.2.1, .inl (zI g, 912, .inl (fun _ => 0))), (z4.2.2.2.1, .inr (3, [.ref z4.2.2.2.2.1, .int 0])), (z4.2.2.2.2.1, .inl (zI g, 912, .inl (fun _ => 0))), (z4.2.2.2.2.2.1, .inr (3, [.ref z4.2.2.2.2.2.2.1, .int 0])), (z4.2.2.2.2.2.2.1, .inl (zI g, 912, .inl (fun _ => 0))), (z4.2.2.2.2.2.2.2.1, .inr (3, [.ref z4.2.2.2.2.2.2.2.2, .int 0])), (z4.2.2.2.2.2.2.2.2, .inl (zI g, 912, .inl (fun _ => 0)))]) rfl rfl rfl rfl (by decide) (fun _ => rfl) rfl (rest := [.ref q5, .ref h0]) (As := []) rfl hl.1 rfl (Nat.le_of_ble_eq_true rfl) ⟨rfl, rfl⟩ ⟨Nat.le_of_ble_eq_true rfl, Nat.le_of_ble_eq_true rfl⟩ ⟨(Nat.le_of_ble_eq_true rfl), (Nat.le_of_ble_eq_true rfl)⟩ dX9_init_31 (fun z6 H locs hP hD hS => ?_)
  have hP : va_P (zD g) vwCl [(h0, .inr (7, [.ref q1, .ref q3, .null, .null, .null, .null, .null])), (q1, .inr (3, [.ref z2, .int 0])), (z2, .inl (zI g, 912, .inl (fun _ => 0))), (q3, .inr (0, [.ref z4.1, .int 0, .int 0])), (z4.1, .inl (zO g, 4, .inr (.inr (.inr (.inr (va_up (va_up (va_up (va_up (fun _ => none) 0 (some z4.2.1)) 1 (some z4.2.2.2.1)) 2 (some z4.2.2.2.2.2.1)) 3 (some z4.2.2.2.2.2.2.2.1))))))), (z4.2.1, .inr (3, [.ref z4.2.2.1, .int 0])), (z4.2.2.1, .inl (zI g, 912, .inl (fun _ => 0))), (z4.2.2.2.1, .inr (3, [.ref z4.2.2.2.2.1, .int 0])), (z4.2.2.2.2.1, .inl (zI g, 912, .inl (fun _ => 0))), (z4.2.2.2.2.2.1, .inr (3, [.ref z4.2.2.2.2.2.2.1, .int 0])), (z4.2.2.2.2.2.2.1, .inl (zI g, 912, .inl (fun _ => 0))), (z4.2.2.2.2.2.2.2.1, .inr (3, [.ref z4.2.2.2.2.2.2.2.2, .int 0])), (z4.2.2.2.2.2.2.2.2, .inl (zI g, 912, .inl (fun _ => 0))), (q5, .inr (6, [.ref z6, .int 0])), (z6, .inl (zY g, 600, .inl (fun _ => 0)))] H := hP
  have hD : va_D A [(h0, .inr (7, [.ref q1, .ref q3, .null, .null, .null, .null, .null])), (q1, .inr (3, [.ref z2, .int 0])), (z2, .inl (zI g, 912, .inl (fun _ => 0))), (q3, .inr (0, [.ref z4.1, .int 0, .int 0])), (z4.1, .inl (zO g, 4, .inr (.inr (.inr (.inr (va_up (va_up (va_up (va_up (fun _ => none) 0 (some z4.2.1)) 1 (some z4.2.2.2.1)) 2 (some z4.2.2.2.2.2.1)) 3 (some z4.2.2.2.2.2.2.2.1))))))), (z4.2.1, .inr (3, [.ref z4.2.2.1, .int 0])), (z4.2.2.1, .inl (zI g, 912, .inl (fun _ => 0))), (z4.2.2.2.1, .inr (3, [.ref z4.2.2.2.2.1, .int 0])), (z4.2.2.2.2.1, .inl (zI g, 912, .inl (fun _ => 0))), (z4.2.2.2.2.2.1, .inr (3, [.ref z4.2.2.2.2.2.2.1, .int 0])), (z4.2.2.2.2.2.2.1, .inl (zI g, 912, .inl (fun _ => 0))), (z4.2.2.2.2.2.2.2.1, .inr (3, [.ref z4.2.2.2.2.2.2.2.2, .int 0])), (z4.2.2.2.2.2.2.2.2, .inl (zI g, 912, .inl (fun _ => 0))), (q5, .inr (6, [.ref z6, .int 0])), (z6, .inl (zY g, 600, .inl (fun _ => 0)))] := hD
  refine z_putF (T := TX9) (N := 7) (ci := 7) (W1 := [(h0, .inr (7, [.ref q1, .ref q3, .ref q5, .null, .null, .null, .null])), (q1, .inr (3, [.ref z2, .int 0])), (z2, .inl (zI g, 912, .inl (fun _ => 0))), (q3, .inr (0, [.ref z4.1, .int 0, .int 0])), (z4.1, .inl (zO g, 4, .inr (.inr (.inr (.inr (va_up (va_up (va_up (va_up (fun _ => none) 0 (some z4.2.1)) 1 (some z4.2.2.2.1)) 2 (some z4.2.2.2.2.2.1)) 3 (some z4.2.2.2.2.2.2.2.1))))))), (z4.2.1, .inr (3, [.ref z4.2.2.1, .int 0])), (z4.2.2.1, .inl (zI g, 912, .inl (fun _ => 0))), (z4.2.2.2.1, .inr (3, [.ref z4.2.2.2.2.1, .int 0])), (z4.2.2.2.2.1, .inl (zI g, 912, .inl (fun _ => 0))), (z4.2.2.2.2.2.1, .inr (3, [.ref z4.2.2.2.2.2.2.1, .int 0])), (z4.2.2.2.2.2.2.1, .inl (zI g, 912, .inl (fun _ => 0))), (z4.2.2.2.2.2.2.2.1, .inr (3, [.ref z4.2.2.2.2.2.2.2.2, .int 0])), (z4.2.2.2.2.2.2.2.2, .inl (zI g, 912, .inl (fun _ => 0))), (q5, .inr (6, [.ref z6, .int 0])), (z6, .inl (zY g, 600, .inl (fun _ => 0)))]) F zu_wsX90 tyX9 tyX9_ok nmX9 hP hD hS 0 rfl rfl 2 (by decide) zw_484 rfl hin rfl rfl rfl (Nat.le_of_ble_eq_true rfl) dX9_init_34 rfl (fun H locs hP hD hS => ?_)
  refine lv_aload_n hx hb dX9_init_37 rfl (lv_at hl 0 rfl) ?_
  refine z_new (C := RX5) (T := TX5) (N := 3) (ci := 4) (fs := [.null, .int 0, .int 0]) F zu_wsX50 tyX5 tyX5_ok zw_485 zw_486 zw_336 hP hD hS rfl (by decide) (Nat.le_of_ble_eq_true rfl) (Nat.le_of_ble_eq_true rfl) dX9_init_38 (fun q7 H hP hD hS => ?_)
  have hP : va_P (zD g) vwCl [(h0, .inr (7, [.ref q1, .ref q3, .ref q5, .null, .null, .null, .null])), (q1, .inr (3, [.ref z2, .int 0])), (z2, .inl (zI g, 912, .inl (fun _ => 0))), (q3, .inr (0, [.ref z4.1, .int 0, .int 0])), (z4.1, .inl (zO g, 4, .inr (.inr (.inr (.inr (va_up (va_up (va_up (va_up (fun _ => none) 0 (some z4.2.1)) 1 (some z4.2.2.2.1)) 2 (some z4.2.2.2.2.2.1)) 3 (some z4.2.2.2.2.2.2.2.1))))))), (z4.2.1, .inr (3, [.ref z4.2.2.1, .int 0])), (z4.2.2.1, .inl (zI g, 912, .inl (fun _ => 0))), (z4.2.2.2.1, .inr (3, [.ref z4.2.2.2.2.1, .int 0])), (z4.2.2.2.2.1, .inl (zI g, 912, .inl (fun _ => 0))), (z4.2.2.2.2.2.1, .inr (3, [.ref z4.2.2.2.2.2.2.1, .int 0])), (z4.2.2.2.2.2.2.1, .inl (zI g, 912, .inl (fun _ => 0))), (z4.2.2.2.2.2.2.2.1, .inr (3, [.ref z4.2.2.2.2.2.2.2.2, .int 0])), (z4.2.2.2.2.2.2.2.2, .inl (zI g, 912, .inl (fun _ => 0))), (q5, .inr (6, [.ref z6, .int 0])), (z6, .inl (zY g, 600, .inl (fun _ => 0))), (q7, .inr (4, [.null, .int 0, .int 0]))] H := hP
  have hD : va_D A [(h0, .inr (7, [.ref q1, .ref q3, .ref q5, .null, .null, .null, .null])), (q1, .inr (3, [.ref z2, .int 0])), (z2, .inl (zI g, 912, .inl (fun _ => 0))), (q3, .inr (0, [.ref z4.1, .int 0, .int 0])), (z4.1, .inl (zO g, 4, .inr (.inr (.inr (.inr (va_up (va_up (va_up (va_up (fun _ => none) 0 (some z4.2.1)) 1 (some z4.2.2.2.1)) 2 (some z4.2.2.2.2.2.1)) 3 (some z4.2.2.2.2.2.2.2.1))))))), (z4.2.1, .inr (3, [.ref z4.2.2.1, .int 0])), (z4.2.2.1, .inl (zI g, 912, .inl (fun _ => 0))), (z4.2.2.2.1, .inr (3, [.ref z4.2.2.2.2.1, .int 0])), (z4.2.2.2.2.1, .inl (zI g, 912, .inl (fun _ => 0))), (z4.2.2.2.2.2.1, .inr (3, [.ref z4.2.2.2.2.2.2.1, .int 0])), (z4.2.2.2.2.2.2.1, .inl (zI g, 912, .inl (fun _ => 0))), (z4.2.2.2.2.2.2.2.1, .inr (3, [.ref z4.2.2.2.2.2.2.2.2, .int 0])), (z4.2.2.2.2.2.2.2.2, .inl (zI g, 912, .inl (fun _ => 0))), (q5, .inr (6, [.ref z6, .int 0])), (z6, .inl (zY g, 600, .inl (fun _ => 0))), (q7, .inr (4, [.null, .int 0, .int 0]))] := hD
  refine lv_dup hx hb dX9_init_41 rfl ?_
  refine zCIN (n := 0) (W1 := fun z8 => [(h0, .inr (7, [.ref q1, .ref q3, .ref q5, .null, .null, .null, .null])), (q1, .inr (3, [.ref z2, .int 0])), (z2, .inl (zI g, 912, .inl (fun _ => 0))), (q3, .inr (0, [.ref z4.1, .int 0, .int 0])), (z4.1, .inl (zO g, 4, .inr (.inr (.inr (.inr (va_up (va_up (va_up (va_up (fun _ => none) 0 (some z4.2.1)) 1 (some z4.2.2.2.1)) 2 (some z4.2.2.2.2.2.1)) 3 (some z4.2.2.2.2.2.2.2.1))))))), (z4.2.1, .inr (3, [.ref z4.2.2.1, .int 0])), (z4.2.2.1, .inl (zI g, 912, .inl (fun _ => 0))), (z4.2.2.2.1, .inr (3, [.ref z4.2.2.2.2.1, .int 0])), (z4.2.2.2.2.1, .inl (zI g, 912, .inl (fun _ => 0))), (z4.2.2.2.2.2.1, .inr (3, [.ref z4.2.2.2.2.2.2.1, .int 0])), (z4.2.2.2.2.2.2.1, .inl (zI g, 912, .inl (fun _ => 0))), (z4.2.2.2.2.2.2.2.1, .inr (3, [.ref z4.2.2.2.2.2.2.2.2, .int 0])), (z4.2.2.2.2.2.2.2.2, .inl (zI g, 912, .inl (fun _ => 0))), (q5, .inr (6, [.ref z6, .int 0])), (z6, .inl (zY g, 600, .inl (fun _ => 0))), (q7, .inr (4, [.ref z8, .int 0, .int 0])), (z8, .inl (zY g, 1702, .inl (fun _ => 0)))]) F hO (k_X5_init l g q7) zw_326 zw_336 ⟨by decide, by decide⟩ (by decide +kernel) rfl zw_500 (List.mem_of_getElem? (i := 3) rfl) hP hD hS [15] [0, 1, 2, 3, 4, 5, 6, 7, 8, 9, 10, 11, 12, 13, 14] [0, 1, 2, 3, 4, 5, 6, 7, 8, 9, 10, 11, 12, 13, 14, 15, 16] (wr := [(h0, .inr (7, [.ref q1, .ref q3, .ref q5, .null, .null, .null, .null])), (q1, .inr (3, [.ref z2, .int 0])), (z2, .inl (zI g, 912, .inl (fun _ => 0))), (q3, .inr (0, [.ref z4.1, .int 0, .int 0])), (z4.1, .inl (zO g, 4, .inr (.inr (.inr (.inr (va_up (va_up (va_up (va_up (fun _ => none) 0 (some z4.2.1)) 1 (some z4.2.2.2.1)) 2 (some z4.2.2.2.2.2.1)) 3 (some z4.2.2.2.2.2.2.2.1))))))), (z4.2.1, .inr (3, [.ref z4.2.2.1, .int 0])), (z4.2.2.1, .inl (zI g, 912, .inl (fun _ => 0))), (z4.2.2.2.1, .inr (3, [.ref z4.2.2.2.2.1, .int 0])), (z4.2.2.2.2.1, .inl (zI g, 912, .inl (fun _ => 0))), (z4.2.2.2.2.2.1, .inr (3, [.ref z4.2.2.2.2.2.2.1, .int 0])), (z4.2.2.2.2.2.2.1, .inl (zI g, 912, .inl (fun _ => 0))), (z4.2.2.2.2.2.2.2.1, .inr (3, [.ref z4.2.2.2.2.2.2.2.2, .int 0])), (z4.2.2.2.2.2.2.2.2, .inl (zI g, 912, .inl (fun _ => 0))), (q5, .inr (6, [.ref z6, .int 0])), (z6, .inl (zY g, 600, .inl (fun _ => 0)))]) rfl rfl rfl rfl (by decide) (fun _ => rfl) rfl (rest := [.ref q7, .ref h0]) (As := []) rfl hl.1 rfl (Nat.le_of_ble_eq_true rfl) ⟨rfl, rfl⟩ ⟨Nat.le_of_ble_eq_true rfl, Nat.le_of_ble_eq_true rfl⟩ ⟨(Nat.le_of_ble_eq_true rfl), (Nat.le_of_ble_eq_true rfl)⟩ dX9_init_42 (fun z8 H locs hP hD hS => ?_)
  have hP : va_P (zD g) vwCl [(h0, .inr (7, [.ref q1, .ref q3, .ref q5, .null, .null, .null, .null])), (q1, .inr (3, [.ref z2, .int 0])), (z2, .inl (zI g, 912, .inl (fun _ => 0))), (q3, .inr (0, [.ref z4.1, .int 0, .int 0])), (z4.1, .inl (zO g, 4, .inr (.inr (.inr (.inr (va_up (va_up (va_up (va_up (fun _ => none) 0 (some z4.2.1)) 1 (some z4.2.2.2.1)) 2 (some z4.2.2.2.2.2.1)) 3 (some z4.2.2.2.2.2.2.2.1))))))), (z4.2.1, .inr (3, [.ref z4.2.2.1, .int 0])), (z4.2.2.1, .inl (zI g, 912, .inl (fun _ => 0))), (z4.2.2.2.1, .inr (3, [.ref z4.2.2.2.2.1, .int 0])), (z4.2.2.2.2.1, .inl (zI g, 912, .inl (fun _ => 0))), (z4.2.2.2.2.2.1, .inr (3, [.ref z4.2.2.2.2.2.2.1, .int 0])), (z4.2.2.2.2.2.2.1, .inl (zI g, 912, .inl (fun _ => 0))), (z4.2.2.2.2.2.2.2.1, .inr (3, [.ref z4.2.2.2.2.2.2.2.2, .int 0])), (z4.2.2.2.2.2.2.2.2, .inl (zI g, 912, .inl (fun _ => 0))), (q5, .inr (6, [.ref z6, .int 0])), (z6, .inl (zY g, 600, .inl (fun _ => 0))), (q7, .inr (4, [.ref z8, .int 0, .int 0])), (z8, .inl (zY g, 1702, .inl (fun _ => 0)))] H := hP
  have hD : va_D A [(h0, .inr (7, [.ref q1, .ref q3, .ref q5, .null, .null, .null, .null])), (q1, .inr (3, [.ref z2, .int 0])), (z2, .inl (zI g, 912, .inl (fun _ => 0))), (q3, .inr (0, [.ref z4.1, .int 0, .int 0])), (z4.1, .inl (zO g, 4, .inr (.inr (.inr (.inr (va_up (va_up (va_up (va_up (fun _ => none) 0 (some z4.2.1)) 1 (some z4.2.2.2.1)) 2 (some z4.2.2.2.2.2.1)) 3 (some z4.2.2.2.2.2.2.2.1))))))), (z4.2.1, .inr (3, [.ref z4.2.2.1, .int 0])), (z4.2.2.1, .inl (zI g, 912, .inl (fun _ => 0))), (z4.2.2.2.1, .inr (3, [.ref z4.2.2.2.2.1, .int 0])), (z4.2.2.2.2.1, .inl (zI g, 912, .inl (fun _ => 0))), (z4.2.2.2.2.2.1, .inr (3, [.ref z4.2.2.2.2.2.2.1, .int 0])), (z4.2.2.2.2.2.2.1, .inl (zI g, 912, .inl (fun _ => 0))), (z4.2.2.2.2.2.2.2.1, .inr (3, [.ref z4.2.2.2.2.2.2.2.2, .int 0])), (z4.2.2.2.2.2.2.2.2, .inl (zI g, 912, .inl (fun _ => 0))), (q5, .inr (6, [.ref z6, .int 0])), (z6, .inl (zY g, 600, .inl (fun _ => 0))), (q7, .inr (4, [.ref z8, .int 0, .int 0])), (z8, .inl (zY g, 1702, .inl (fun _ => 0)))] := hD
  refine z_putF (T := TX9) (N := 7) (ci := 7) (W1 := [(h0, .inr (7, [.ref q1, .ref q3, .ref q5, .ref q7, .null, .null, .null])), (q1, .inr (3, [.ref z2, .int 0])), (z2, .inl (zI g, 912, .inl (fun _ => 0))), (q3, .inr (0, [.ref z4.1, .int 0, .int 0])), (z4.1, .inl (zO g, 4, .inr (.inr (.inr (.inr (va_up (va_up (va_up (va_up (fun _ => none) 0 (some z4.2.1)) 1 (some z4.2.2.2.1)) 2 (some z4.2.2.2.2.2.1)) 3 (some z4.2.2.2.2.2.2.2.1))))))), (z4.2.1, .inr (3, [.ref z4.2.2.1, .int 0])), (z4.2.2.1, .inl (zI g, 912, .inl (fun _ => 0))), (z4.2.2.2.1, .inr (3, [.ref z4.2.2.2.2.1, .int 0])), (z4.2.2.2.2.1, .inl (zI g, 912, .inl (fun _ => 0))), (z4.2.2.2.2.2.1, .inr (3, [.ref z4.2.2.2.2.2.2.1, .int 0])), (z4.2.2.2.2.2.2.1, .inl (zI g, 912, .inl (fun _ => 0))), (z4.2.2.2.2.2.2.2.1, .inr (3, [.ref z4.2.2.2.2.2.2.2.2, .int 0])), (z4.2.2.2.2.2.2.2.2, .inl (zI g, 912, .inl (fun _ => 0))), (q5, .inr (6, [.ref z6, .int 0])), (z6, .inl (zY g, 600, .inl (fun _ => 0))), (q7, .inr (4, [.ref z8, .int 0, .int 0])), (z8, .inl (zY g, 1702, .inl (fun _ => 0)))]) F zu_wsX90 tyX9 tyX9_ok nmX9 hP hD hS 0 rfl rfl 3 (by decide) zw_487 rfl hin rfl rfl rfl (Nat.le_of_ble_eq_true rfl) dX9_init_45 rfl (fun H locs hP hD hS => ?_)
  refine lv_aload_n hx hb dX9_init_48 rfl (lv_at hl 0 rfl) ?_
  refine z_new (C := RX3) (T := TX3) (N := 5) (ci := 2) (fs := [.null, .null, .int 0, .int 0, .int 0]) F zu_wsX30 tyX3 tyX3_ok zw_488 zw_489 zw_174 hP hD hS rfl (by decide) (Nat.le_of_ble_eq_true rfl) (Nat.le_of_ble_eq_true rfl) dX9_init_49 (fun q9 H hP hD hS => ?_)
  have hP : va_P (zD g) vwCl [(h0, .inr (7, [.ref q1, .ref q3, .ref q5, .ref q7, .null, .null, .null])), (q1, .inr (3, [.ref z2, .int 0])), (z2, .inl (zI g, 912, .inl (fun _ => 0))), (q3, .inr (0, [.ref z4.1, .int 0, .int 0])), (z4.1, .inl (zO g, 4, .inr (.inr (.inr (.inr (va_up (va_up (va_up (va_up (fun _ => none) 0 (some z4.2.1)) 1 (some z4.2.2.2.1)) 2 (some z4.2.2.2.2.2.1)) 3 (some z4.2.2.2.2.2.2.2.1))))))), (z4.2.1, .inr (3, [.ref z4.2.2.1, .int 0])), (z4.2.2.1, .inl (zI g, 912, .inl (fun _ => 0))), (z4.2.2.2.1, .inr (3, [.ref z4.2.2.2.2.1, .int 0])), (z4.2.2.2.2.1, .inl (zI g, 912, .inl (fun _ => 0))), (z4.2.2.2.2.2.1, .inr (3, [.ref z4.2.2.2.2.2.2.1, .int 0])), (z4.2.2.2.2.2.2.1, .inl (zI g, 912, .inl (fun _ => 0))), (z4.2.2.2.2.2.2.2.1, .inr (3, [.ref z4.2.2.2.2.2.2.2.2, .int 0])), (z4.2.2.2.2.2.2.2.2, .inl (zI g, 912, .inl (fun _ => 0))), (q5, .inr (6, [.ref z6, .int 0])), (z6, .inl (zY g, 600, .inl (fun _ => 0))), (q7, .inr (4, [.ref z8, .int 0, .int 0])), (z8, .inl (zY g, 1702, .inl (fun _ => 0))), (q9, .inr (2, [.null, .null, .int 0, .int 0, .int 0]))] H := hP
  have hD : va_D A [(h0, .inr (7, [.ref q1, .ref q3, .ref q5, .ref q7, .null, .null, .null])), (q1, .inr (3, [.ref z2, .int 0])), (z2, .inl (zI g, 912, .inl (fun _ => 0))), (q3, .inr (0, [.ref z4.1, .int 0, .int 0])), (z4.1, .inl (zO g, 4, .inr (.inr (.inr (.inr (va_up (va_up (va_up (va_up (fun _ => none) 0 (some z4.2.1)) 1 (some z4.2.2.2.1)) 2 (some z4.2.2.2.2.2.1)) 3 (some z4.2.2.2.2.2.2.2.1))))))), (z4.2.1, .inr (3, [.ref z4.2.2.1, .int 0])), (z4.2.2.1, .inl (zI g, 912, .inl (fun _ => 0))), (z4.2.2.2.1, .inr (3, [.ref z4.2.2.2.2.1, .int 0])), (z4.2.2.2.2.1, .inl (zI g, 912, .inl (fun _ => 0))), (z4.2.2.2.2.2.1, .inr (3, [.ref z4.2.2.2.2.2.2.1, .int 0])), (z4.2.2.2.2.2.2.1, .inl (zI g, 912, .inl (fun _ => 0))), (z4.2.2.2.2.2.2.2.1, .inr (3, [.ref z4.2.2.2.2.2.2.2.2, .int 0])), (z4.2.2.2.2.2.2.2.2, .inl (zI g, 912, .inl (fun _ => 0))), (q5, .inr (6, [.ref z6, .int 0])), (z6, .inl (zY g, 600, .inl (fun _ => 0))), (q7, .inr (4, [.ref z8, .int 0, .int 0])), (z8, .inl (zY g, 1702, .inl (fun _ => 0))), (q9, .inr (2, [.null, .null, .int 0, .int 0, .int 0]))] := hD
  refine lv_dup hx hb dX9_init_52 rfl ?_
  refine lv_aload_n hx hb dX9_init_53 rfl (lv_at hl 0 rfl) ?_
  refine z_get (C := RX9) (T := TX9) (N := 7) (ci := 7) F zu_wsX90 hP 0 rfl rfl 2 (by decide) zw_484 rfl dX9_init_54 ?_
  refine zCI (n := 1) (W1 := fun z10 => [(h0, .inr (7, [.ref q1, .ref q3, .ref q5, .ref q7, .null, .null, .null])), (q1, .inr (3, [.ref z2, .int 0])), (z2, .inl (zI g, 912, .inl (fun _ => 0))), (q3, .inr (0, [.ref z4.1, .int 0, .int 0])), (z4.1, .inl (zO g, 4, .inr (.inr (.inr (.inr (va_up (va_up (va_up (va_up (fun _ => none) 0 (some z4.2.1)) 1 (some z4.2.2.2.1)) 2 (some z4.2.2.2.2.2.1)) 3 (some z4.2.2.2.2.2.2.2.1))))))), (z4.2.1, .inr (3, [.ref z4.2.2.1, .int 0])), (z4.2.2.1, .inl (zI g, 912, .inl (fun _ => 0))), (z4.2.2.2.1, .inr (3, [.ref z4.2.2.2.2.1, .int 0])), (z4.2.2.2.2.1, .inl (zI g, 912, .inl (fun _ => 0))), (z4.2.2.2.2.2.1, .inr (3, [.ref z4.2.2.2.2.2.2.1, .int 0])), (z4.2.2.2.2.2.2.1, .inl (zI g, 912, .inl (fun _ => 0))), (z4.2.2.2.2.2.2.2.1, .inr (3, [.ref z4.2.2.2.2.2.2.2.2, .int 0])), (z4.2.2.2.2.2.2.2.2, .inl (zI g, 912, .inl (fun _ => 0))), (q5, .inr (6, [.ref z6, .int 0])), (z6, .inl (zY g, 600, .inl (fun _ => 0))), (q7, .inr (4, [.ref z8, .int 0, .int 0])), (z8, .inl (zY g, 1702, .inl (fun _ => 0))), (q9, .inr (2, [.ref q5, .ref z10.1, .int 0, .int 0, .int 0])), (z10.1, .inr (3, [.ref z10.2, .int 0])), (z10.2, .inl (zI g, 912, .inl (fun _ => 0)))]) F hO (k_X3_init l g q9 q5) zw_101 zw_174 ⟨by decide, by decide⟩ (by decide +kernel) rfl zw_502 zw_501 hP hD hS [17] [0, 1, 2, 3, 4, 5, 6, 7, 8, 9, 10, 11, 12, 13, 14, 15, 16] [0, 1, 2, 3, 4, 5, 6, 7, 8, 9, 10, 11, 12, 13, 14, 15, 16, 17, 18, 19] (wr := [(h0, .inr (7, [.ref q1, .ref q3, .ref q5, .ref q7, .null, .null, .null])), (q1, .inr (3, [.ref z2, .int 0])), (z2, .inl (zI g, 912, .inl (fun _ => 0))), (q3, .inr (0, [.ref z4.1, .int 0, .int 0])), (z4.1, .inl (zO g, 4, .inr (.inr (.inr (.inr (va_up (va_up (va_up (va_up (fun _ => none) 0 (some z4.2.1)) 1 (some z4.2.2.2.1)) 2 (some z4.2.2.2.2.2.1)) 3 (some z4.2.2.2.2.2.2.2.1))))))), (z4.2.1, .inr (3, [.ref z4.2.2.1, .int 0])), (z4.2.2.1, .inl (zI g, 912, .inl (fun _ => 0))), (z4.2.2.2.1, .inr (3, [.ref z4.2.2.2.2.1, .int 0])), (z4.2.2.2.2.1, .inl (zI g, 912, .inl (fun _ => 0))), (z4.2.2.2.2.2.1, .inr (3, [.ref z4.2.2.2.2.2.2.1, .int 0])), (z4.2.2.2.2.2.2.1, .inl (zI g, 912, .inl (fun _ => 0))), (z4.2.2.2.2.2.2.2.1, .inr (3, [.ref z4.2.2.2.2.2.2.2.2, .int 0])), (z4.2.2.2.2.2.2.2.2, .inl (zI g, 912, .inl (fun _ => 0))), (q5, .inr (6, [.ref z6, .int 0])), (z6, .inl (zY g, 600, .inl (fun _ => 0))), (q7, .inr (4, [.ref z8, .int 0, .int 0])), (z8, .inl (zY g, 1702, .inl (fun _ => 0)))]) rfl rfl rfl rfl (by decide) (fun _ => rfl) rfl (rest := [.ref q9, .ref h0]) (As := [.ref q5]) rfl hl.1 rfl (Nat.le_of_ble_eq_true rfl) ⟨rfl, rfl⟩ ⟨Nat.le_of_ble_eq_true rfl, Nat.le_of_ble_eq_true rfl⟩ ⟨(Nat.le_of_ble_eq_true rfl), (Nat.le_of_ble_eq_true rfl)⟩ dX9_init_57 (fun z10 H locs hP hD hS => ?_)
  have hP : va_P (zD g) vwCl [(h0, .inr (7, [.ref q1, .ref q3, .ref q5, .ref q7, .null, .null, .null])), (q1, .inr (3, [.ref z2, .int 0])), (z2, .inl (zI g, 912, .inl (fun _ => 0))), (q3, .inr (0, [.ref z4.1, .int 0, .int 0])), (z4.1, .inl (zO g, 4, .inr (.inr (.inr (.inr (va_up (va_up (va_up (va_up (fun _ => none) 0 (some z4.2.1)) 1 (some z4.2.2.2.1)) 2 (some z4.2.2.2.2.2.1)) 3 (some z4.2.2.2.2.2.2.2.1))))))), (z4.2.1, .inr (3, [.ref z4.2.2.1, .int 0])), (z4.2.2.1, .inl (zI g, 912, .inl (fun _ => 0))), (z4.2.2.2.1, .inr (3, [.ref z4.2.2.2.2.1, .int 0])), (z4.2.2.2.2.1, .inl (zI g, 912, .inl (fun _ => 0))), (z4.2.2.2.2.2.1, .inr (3, [.ref z4.2.2.2.2.2.2.1, .int 0])), (z4.2.2.2.2.2.2.1, .inl (zI g, 912, .inl (fun _ => 0))), (z4.2.2.2.2.2.2.2.1, .inr (3, [.ref z4.2.2.2.2.2.2.2.2, .int 0])), (z4.2.2.2.2.2.2.2.2, .inl (zI g, 912, .inl (fun _ => 0))), (q5, .inr (6, [.ref z6, .int 0])), (z6, .inl (zY g, 600, .inl (fun _ => 0))), (q7, .inr (4, [.ref z8, .int 0, .int 0])), (z8, .inl (zY g, 1702, .inl (fun _ => 0))), (q9, .inr (2, [.ref q5, .ref z10.1, .int 0, .int 0, .int 0])), (z10.1, .inr (3, [.ref z10.2, .int 0])), (z10.2, .inl (zI g, 912, .inl (fun _ => 0)))] H := hP
  have hD : va_D A [(h0, .inr (7, [.ref q1, .ref q3, .ref q5, .ref q7, .null, .null, .null])), (q1, .inr (3, [.ref z2, .int 0])), (z2, .inl (zI g, 912, .inl (fun _ => 0))), (q3, .inr (0, [.ref z4.1, .int 0, .int 0])), (z4.1, .inl (zO g, 4, .inr (.inr (.inr (.inr (va_up (va_up (va_up (va_up (fun _ => none) 0 (some z4.2.1)) 1 (some z4.2.2.2.1)) 2 (some z4.2.2.2.2.2.1)) 3 (some z4.2.2.2.2.2.2.2.1))))))), (z4.2.1, .inr (3, [.ref z4.2.2.1, .int 0])), (z4.2.2.1, .inl (zI g, 912, .inl (fun _ => 0))), (z4.2.2.2.1, .inr (3, [.ref z4.2.2.2.2.1, .int 0])), (z4.2.2.2.2.1, .inl (zI g, 912, .inl (fun _ => 0))), (z4.2.2.2.2.2.1, .inr (3, [.ref z4.2.2.2.2.2.2.1, .int 0])), (z4.2.2.2.2.2.2.1, .inl (zI g, 912, .inl (fun _ => 0))), (z4.2.2.2.2.2.2.2.1, .inr (3, [.ref z4.2.2.2.2.2.2.2.2, .int 0])), (z4.2.2.2.2.2.2.2.2, .inl (zI g, 912, .inl (fun _ => 0))), (q5, .inr (6, [.ref z6, .int 0])), (z6, .inl (zY g, 600, .inl (fun _ => 0))), (q7, .inr (4, [.ref z8, .int 0, .int 0])), (z8, .inl (zY g, 1702, .inl (fun _ => 0))), (q9, .inr (2, [.ref q5, .ref z10.1, .int 0, .int 0, .int 0])), (z10.1, .inr (3, [.ref z10.2, .int 0])), (z10.2, .inl (zI g, 912, .inl (fun _ => 0)))] := hD
  refine z_putF (T := TX9) (N := 7) (ci := 7) (W1 := [(h0, .inr (7, [.ref q1, .ref q3, .ref q5, .ref q7, .ref q9, .null, .null])), (q1, .inr (3, [.ref z2, .int 0])), (z2, .inl (zI g, 912, .inl (fun _ => 0))), (q3, .inr (0, [.ref z4.1, .int 0, .int 0])), (z4.1, .inl (zO g, 4, .inr (.inr (.inr (.inr (va_up (va_up (va_up (va_up (fun _ => none) 0 (some z4.2.1)) 1 (some z4.2.2.2.1)) 2 (some z4.2.2.2.2.2.1)) 3 (some z4.2.2.2.2.2.2.2.1))))))), (z4.2.1, .inr (3, [.ref z4.2.2.1, .int 0])), (z4.2.2.1, .inl (zI g, 912, .inl (fun _ => 0))), (z4.2.2.2.1, .inr (3, [.ref z4.2.2.2.2.1, .int 0])), (z4.2.2.2.2.1, .inl (zI g, 912, .inl (fun _ => 0))), (z4.2.2.2.2.2.1, .inr (3, [.ref z4.2.2.2.2.2.2.1, .int 0])), (z4.2.2.2.2.2.2.1, .inl (zI g, 912, .inl (fun _ => 0))), (z4.2.2.2.2.2.2.2.1, .inr (3, [.ref z4.2.2.2.2.2.2.2.2, .int 0])), (z4.2.2.2.2.2.2.2.2, .inl (zI g, 912, .inl (fun _ => 0))), (q5, .inr (6, [.ref z6, .int 0])), (z6, .inl (zY g, 600, .inl (fun _ => 0))), (q7, .inr (4, [.ref z8, .int 0, .int 0])), (z8, .inl (zY g, 1702, .inl (fun _ => 0))), (q9, .inr (2, [.ref q5, .ref z10.1, .int 0, .int 0, .int 0])), (z10.1, .inr (3, [.ref z10.2, .int 0])), (z10.2, .inl (zI g, 912, .inl (fun _ => 0)))]) F zu_wsX90 tyX9 tyX9_ok nmX9 hP hD hS 0 rfl rfl 4 (by decide) zw_490 rfl hin rfl rfl rfl (Nat.le_of_ble_eq_true rfl) dX9_init_60 rfl (fun H locs hP hD hS => ?_)
  refine lv_aload_n hx hb dX9_init_63 rfl (lv_at hl 0 rfl) ?_
  refine z_new (C := RX6) (T := TX6) (N := 3) (ci := 5) (fs := [.null, .null, .null]) F zu_wsX60 tyX6 tyX6_ok zw_491 zw_492 zw_404 hP hD hS rfl (by decide) (Nat.le_of_ble_eq_true rfl) (Nat.le_of_ble_eq_true rfl) dX9_init_64 (fun q11 H hP hD hS => ?_)
  have hP : va_P (zD g) vwCl [(h0, .inr (7, [.ref q1, .ref q3, .ref q5, .ref q7, .ref q9, .null, .null])), (q1, .inr (3, [.ref z2, .int 0])), (z2, .inl (zI g, 912, .inl (fun _ => 0))), (q3, .inr (0, [.ref z4.1, .int 0, .int 0])), (z4.1, .inl (zO g, 4, .inr (.inr (.inr (.inr (va_up (va_up (va_up (va_up (fun _ => none) 0 (some z4.2.1)) 1 (some z4.2.2.2.1)) 2 (some z4.2.2.2.2.2.1)) 3 (some z4.2.2.2.2.2.2.2.1))))))), (z4.2.1, .inr (3, [.ref z4.2.2.1, .int 0])), (z4.2.2.1, .inl (zI g, 912, .inl (fun _ => 0))), (z4.2.2.2.1, .inr (3, [.ref z4.2.2.2.2.1, .int 0])), (z4.2.2.2.2.1, .inl (zI g, 912, .inl (fun _ => 0))), (z4.2.2.2.2.2.1, .inr (3, [.ref z4.2.2.2.2.2.2.1, .int 0])), (z4.2.2.2.2.2.2.1, .inl (zI g, 912, .inl (fun _ => 0))), (z4.2.2.2.2.2.2.2.1, .inr (3, [.ref z4.2.2.2.2.2.2.2.2, .int 0])), (z4.2.2.2.2.2.2.2.2, .inl (zI g, 912, .inl (fun _ => 0))), (q5, .inr (6, [.ref z6, .int 0])), (z6, .inl (zY g, 600, .inl (fun _ => 0))), (q7, .inr (4, [.ref z8, .int 0, .int 0])), (z8, .inl (zY g, 1702, .inl (fun _ => 0))), (q9, .inr (2, [.ref q5, .ref z10.1, .int 0, .int 0, .int 0])), (z10.1, .inr (3, [.ref z10.2, .int 0])), (z10.2, .inl (zI g, 912, .inl (fun _ => 0))), (q11, .inr (5, [.null, .null, .null]))] H := hP
  have hD : va_D A [(h0, .inr (7, [.ref q1, .ref q3, .ref q5, .ref q7, .ref q9, .null, .null])), (q1, .inr (3, [.ref z2, .int 0])), (z2, .inl (zI g, 912, .inl (fun _ => 0))), (q3, .inr (0, [.ref z4.1, .int 0, .int 0])), (z4.1, .inl (zO g, 4, .inr (.inr (.inr (.inr (va_up (va_up (va_up (va_up (fun _ => none) 0 (some z4.2.1)) 1 (some z4.2.2.2.1)) 2 (some z4.2.2.2.2.2.1)) 3 (some z4.2.2.2.2.2.2.2.1))))))), (z4.2.1, .inr (3, [.ref z4.2.2.1, .int 0])), (z4.2.2.1, .inl (zI g, 912, .inl (fun _ => 0))), (z4.2.2.2.1, .inr (3, [.ref z4.2.2.2.2.1, .int 0])), (z4.2.2.2.2.1, .inl (zI g, 912, .inl (fun _ => 0))), (z4.2.2.2.2.2.1, .inr (3, [.ref z4.2.2.2.2.2.2.1, .int 0])), (z4.2.2.2.2.2.2.1, .inl (zI g, 912, .inl (fun _ => 0))), (z4.2.2.2.2.2.2.2.1, .inr (3, [.ref z4.2.2.2.2.2.2.2.2, .int 0])), (z4.2.2.2.2.2.2.2.2, .inl (zI g, 912, .inl (fun _ => 0))), (q5, .inr (6, [.ref z6, .int 0])), (z6, .inl (zY g, 600, .inl (fun _ => 0))), (q7, .inr (4, [.ref z8, .int 0, .int 0])), (z8, .inl (zY g, 1702, .inl (fun _ => 0))), (q9, .inr (2, [.ref q5, .ref z10.1, .int 0, .int 0, .int 0])), (z10.1, .inr (3, [.ref z10.2, .int 0])), (z10.2, .inl (zI g, 912, .inl (fun _ => 0))), (q11, .inr (5, [.null, .null, .null]))] := hD
  refine lv_dup hx hb dX9_init_67 rfl ?_
  refine lv_aload_n hx hb dX9_init_68 rfl (lv_at hl 0 rfl) ?_
  refine z_get (C := RX9) (T := TX9) (N := 7) (ci := 7) F zu_wsX90 hP 0 rfl rfl 0 (by decide) zw_478 rfl dX9_init_69 ?_
  refine zCI (n := 1) (W1 := fun z12 => [(h0, .inr (7, [.ref q1, .ref q3, .ref q5, .ref q7, .ref q9, .null, .null])), (q1, .inr (3, [.ref z2, .int 0])), (z2, .inl (zI g, 912, .inl (fun _ => 0))), (q3, .inr (0, [.ref z4.1, .int 0, .int 0])), (z4.1, .inl (zO g, 4, .inr (.inr (.inr (.inr (va_up (va_up (va_up (va_up (fun _ => none) 0 (some z4.2.1)) 1 (some z4.2.2.2.1)) 2 (some z4.2.2.2.2.2.1)) 3 (some z4.2.2.2.2.2.2.2.1))))))), (z4.2.1, .inr (3, [.ref z4.2.2.1, .int 0])), (z4.2.2.1, .inl (zI g, 912, .inl (fun _ => 0))), (z4.2.2.2.1, .inr (3, [.ref z4.2.2.2.2.1, .int 0])), (z4.2.2.2.2.1, .inl (zI g, 912, .inl (fun _ => 0))), (z4.2.2.2.2.2.1, .inr (3, [.ref z4.2.2.2.2.2.2.1, .int 0])), (z4.2.2.2.2.2.2.1, .inl (zI g, 912, .inl (fun _ => 0))), (z4.2.2.2.2.2.2.2.1, .inr (3, [.ref z4.2.2.2.2.2.2.2.2, .int 0])), (z4.2.2.2.2.2.2.2.2, .inl (zI g, 912, .inl (fun _ => 0))), (q5, .inr (6, [.ref z6, .int 0])), (z6, .inl (zY g, 600, .inl (fun _ => 0))), (q7, .inr (4, [.ref z8, .int 0, .int 0])), (z8, .inl (zY g, 1702, .inl (fun _ => 0))), (q9, .inr (2, [.ref q5, .ref z10.1, .int 0, .int 0, .int 0])), (z10.1, .inr (3, [.ref z10.2, .int 0])), (z10.2, .inl (zI g, 912, .inl (fun _ => 0))), (q11, .inr (5, [.ref q1, .ref z12.1, .ref z12.2])), (z12.1, .inl (zI g, 768, .inl (fun _ => 0))), (z12.2, .inl (zI g, 768, .inl (fun _ => 0)))]) F hO (k_X6_init l g q11 q1) zw_400 zw_404 ⟨by decide, by decide⟩ (by decide +kernel) rfl zw_504 zw_503 hP hD hS [20] [0, 1, 2, 3, 4, 5, 6, 7, 8, 9, 10, 11, 12, 13, 14, 15, 16, 17, 18, 19] [0, 1, 2, 3, 4, 5, 6, 7, 8, 9, 10, 11, 12, 13, 14, 15, 16, 17, 18, 19, 20, 21, 22] (wr := [(h0, .inr (7, [.ref q1, .ref q3, .ref q5, .ref q7, .ref q9, .null, .null])), (q1, .inr (3, [.ref z2, .int 0])), (z2, .inl (zI g, 912, .inl (fun _ => 0))), (q3, .inr (0, [.ref z4.1, .int 0, .int 0])), (z4.1, .inl (zO g, 4, .inr (.inr (.inr (.inr (va_up (va_up (va_up (va_up (fun _ => none) 0 (some z4.2.1)) 1 (some z4.2.2.2.1)) 2 (some z4.2.2.2.2.2.1)) 3 (some z4.2.2.2.2.2.2.2.1))))))), (z4.2.1, .inr (3, [.ref z4.2.2.1, .int 0])), (z4.2.2.1, .inl (zI g, 912, .inl (fun _ => 0))), (z4.2.2.2.1, .inr (3, [.ref z4.2.2.2.2.1, .int 0])), (z4.2.2.2.2.1, .inl (zI g, 912, .inl (fun _ => 0))), (z4.2.2.2.2.2.1, .inr (3, [.ref z4.2.2.2.2.2.2.1, .int 0])), (z4.2.2.2.2.2.2.1, .inl (zI g, 912, .inl (fun _ => 0))), (z4.2.2.2.2.2.2.2.1, .inr (3, [.ref z4.2.2.2.2.2.2.2.2, .int 0])), (z4.2.2.2.2.2.2.2.2, .inl (zI g, 912, .inl (fun _ => 0))), (q5, .inr (6, [.ref z6, .int 0])), (z6, .inl (zY g, 600, .inl (fun _ => 0))), (q7, .inr (4, [.ref z8, .int 0, .int 0])), (z8, .inl (zY g, 1702, .inl (fun _ => 0))), (q9, .inr (2, [.ref q5, .ref z10.1, .int 0, .int 0, .int 0])), (z10.1, .inr (3, [.ref z10.2, .int 0])), (z10.2, .inl (zI g, 912, .inl (fun _ => 0)))]) rfl rfl rfl rfl (by decide) (fun _ => rfl) rfl (rest := [.ref q11, .ref h0]) (As := [.ref q1]) rfl hl.1 rfl (Nat.le_of_ble_eq_true rfl) ⟨rfl, rfl⟩ ⟨Nat.le_of_ble_eq_true rfl, Nat.le_of_ble_eq_true rfl⟩ ⟨(Nat.le_of_ble_eq_true rfl), (Nat.le_of_ble_eq_true rfl)⟩ dX9_init_72 (fun z12 H locs hP hD hS => ?_)
  have hP : va_P (zD g) vwCl [(h0, .inr (7, [.ref q1, .ref q3, .ref q5, .ref q7, .ref q9, .null, .null])), (q1, .inr (3, [.ref z2, .int 0])), (z2, .inl (zI g, 912, .inl (fun _ => 0))), (q3, .inr (0, [.ref z4.1, .int 0, .int 0])), (z4.1, .inl (zO g, 4, .inr (.inr (.inr (.inr (va_up (va_up (va_up (va_up (fun _ => none) 0 (some z4.2.1)) 1 (some z4.2.2.2.1)) 2 (some z4.2.2.2.2.2.1)) 3 (some z4.2.2.2.2.2.2.2.1))))))), (z4.2.1, .inr (3, [.ref z4.2.2.1, .int 0])), (z4.2.2.1, .inl (zI g, 912, .inl (fun _ => 0))), (z4.2.2.2.1, .inr (3, [.ref z4.2.2.2.2.1, .int 0])), (z4.2.2.2.2.1, .inl (zI g, 912, .inl (fun _ => 0))), (z4.2.2.2.2.2.1, .inr (3, [.ref z4.2.2.2.2.2.2.1, .int 0])), (z4.2.2.2.2.2.2.1, .inl (zI g, 912, .inl (fun _ => 0))), (z4.2.2.2.2.2.2.2.1, .inr (3, [.ref z4.2.2.2.2.2.2.2.2, .int 0])), (z4.2.2.2.2.2.2.2.2, .inl (zI g, 912, .inl (fun _ => 0))), (q5, .inr (6, [.ref z6, .int 0])), (z6, .inl (zY g, 600, .inl (fun _ => 0))), (q7, .inr (4, [.ref z8, .int 0, .int 0])), (z8, .inl (zY g, 1702, .inl (fun _ => 0))), (q9, .inr (2, [.ref q5, .ref z10.1, .int 0, .int 0, .int 0])), (z10.1, .inr (3, [.ref z10.2, .int 0])), (z10.2, .inl (zI g, 912, .inl (fun _ => 0))), (q11, .inr (5, [.ref q1, .ref z12.1, .ref z12.2])), (z12.1, .inl (zI g, 768, .inl (fun _ => 0))), (z12.2, .inl (zI g, 768, .inl (fun _ => 0)))] H := hP
  have hD : va_D A [(h0, .inr (7, [.ref q1, .ref q3, .ref q5, .ref q7, .ref q9, .null, .null])), (q1, .inr (3, [.ref z2, .int 0])), (z2, .inl (zI g, 912, .inl (fun _ => 0))), (q3, .inr (0, [.ref z4.1, .int 0, .int 0])), (z4.1, .inl (zO g, 4, .inr (.inr (.inr (.inr (va_up (va_up (va_up (va_up (fun _ => none) 0 (some z4.2.1)) 1 (some z4.2.2.2.1)) 2 (some z4.2.2.2.2.2.1)) 3 (some z4.2.2.2.2.2.2.2.1))))))), (z4.2.1, .inr (3, [.ref z4.2.2.1, .int 0])), (z4.2.2.1, .inl (zI g, 912, .inl (fun _ => 0))), (z4.2.2.2.1, .inr (3, [.ref z4.2.2.2.2.1, .int 0])), (z4.2.2.2.2.1, .inl (zI g, 912, .inl (fun _ => 0))), (z4.2.2.2.2.2.1, .inr (3, [.ref z4.2.2.2.2.2.2.1, .int 0])), (z4.2.2.2.2.2.2.1, .inl (zI g, 912, .inl (fun _ => 0))), (z4.2.2.2.2.2.2.2.1, .inr (3, [.ref z4.2.2.2.2.2.2.2.2, .int 0])), (z4.2.2.2.2.2.2.2.2, .inl (zI g, 912, .inl (fun _ => 0))), (q5, .inr (6, [.ref z6, .int 0])), (z6, .inl (zY g, 600, .inl (fun _ => 0))), (q7, .inr (4, [.ref z8, .int 0, .int 0])), (z8, .inl (zY g, 1702, .inl (fun _ => 0))), (q9, .inr (2, [.ref q5, .ref z10.1, .int 0, .int 0, .int 0])), (z10.1, .inr (3, [.ref z10.2, .int 0])), (z10.2, .inl (zI g, 912, .inl (fun _ => 0))), (q11, .inr (5, [.ref q1, .ref z12.1, .ref z12.2])), (z12.1, .inl (zI g, 768, .inl (fun _ => 0))), (z12.2, .inl (zI g, 768, .inl (fun _ => 0)))] := hD
  refine z_putF (T := TX9) (N := 7) (ci := 7) (W1 := [(h0, .inr (7, [.ref q1, .ref q3, .ref q5, .ref q7, .ref q9, .ref q11, .null])), (q1, .inr (3, [.ref z2, .int 0])), (z2, .inl (zI g, 912, .inl (fun _ => 0))), (q3, .inr (0, [.ref z4.1, .int 0, .int 0])), (z4.1, .inl (zO g, 4, .inr (.inr (.inr (.inr (va_up (va_up (va_up (va_up (fun _ => none) 0 (some z4.2.1)) 1 (some z4.2.2.2.1)) 2 (some z4.2.2.2.2.2.1)) 3 (some z4.2.2.2.2.2.2.2.1))))))), (z4.2.1, .inr (3, [.ref z4.2.2.1, .int 0])), (z4.2.2.1, .inl (zI g, 912, .inl (fun _ => 0))), (z4.2.2.2.1, .inr (3, [.ref z4.2.2.2.2.1, .int 0])), (z4.2.2.2.2.1, .inl (zI g, 912, .inl (fun _ => 0))), (z4.2.2.2.2.2.1, .inr (3, [.ref z4.2.2.2.2.2.2.1, .int 0])), (z4.2.2.2.2.2.2.1, .inl (zI g, 912, .inl (fun _ => 0))), (z4.2.2.2.2.2.2.2.1, .inr (3, [.ref z4.2.2.2.2.2.2.2.2, .int 0])), (z4.2.2.2.2.2.2.2.2, .inl (zI g, 912, .inl (fun _ => 0))), (q5, .inr (6, [.ref z6, .int 0])), (z6, .inl (zY g, 600, .inl (fun _ => 0))), (q7, .inr (4, [.ref z8, .int 0, .int 0])), (z8, .inl (zY g, 1702, .inl (fun _ => 0))), (q9, .inr (2, [.ref q5, .ref z10.1, .int 0, .int 0, .int 0])), (z10.1, .inr (3, [.ref z10.2, .int 0])), (z10.2, .inl (zI g, 912, .inl (fun _ => 0))), (q11, .inr (5, [.ref q1, .ref z12.1, .ref z12.2])), (z12.1, .inl (zI g, 768, .inl (fun _ => 0))), (z12.2, .inl (zI g, 768, .inl (fun _ => 0)))]) F zu_wsX90 tyX9 tyX9_ok nmX9 hP hD hS 0 rfl rfl 5 (by decide) zw_493 rfl hin rfl rfl rfl (Nat.le_of_ble_eq_true rfl) dX9_init_75 rfl (fun H locs hP hD hS => ?_)
  refine lv_aload_n hx hb dX9_init_78 rfl (lv_at hl 0 rfl) ?_
  refine z_new (C := RX2) (T := TX2) (N := 2) (ci := 1) (fs := [.null, .int 0]) F zu_wsX20 tyX2 tyX2_ok zw_494 zw_495 zw_77 hP hD hS rfl (by decide) (Nat.le_of_ble_eq_true rfl) (Nat.le_of_ble_eq_true rfl) dX9_init_79 (fun q13 H hP hD hS => ?_)
  have hP : va_P (zD g) vwCl [(h0, .inr (7, [.ref q1, .ref q3, .ref q5, .ref q7, .ref q9, .ref q11, .null])), (q1, .inr (3, [.ref z2, .int 0])), (z2, .inl (zI g, 912, .inl (fun _ => 0))), (q3, .inr (0, [.ref z4.1, .int 0, .int 0])), (z4.1, .inl (zO g, 4, .inr (.inr (.inr (.inr (va_up (va_up (va_up (va_up (fun _ => none) 0 (some z4.2.1)) 1 (some z4.2.2.2.1)) 2 (some z4.2.2.2.2.2.1)) 3 (some z4.2.2.2.2.2.2.2.1))))))), (z4.2.1, .inr (3, [.ref z4.2.2.1, .int 0])), (z4.2.2.1, .inl (zI g, 912, .inl (fun _ => 0))), (z4.2.2.2.1, .inr (3, [.ref z4.2.2.2.2.1, .int 0])), (z4.2.2.2.2.1, .inl (zI g, 912, .inl (fun _ => 0))), (z4.2.2.2.2.2.1, .inr (3, [.ref z4.2.2.2.2.2.2.1, .int 0])), (z4.2.2.2.2.2.2.1, .inl (zI g, 912, .inl (fun _ => 0))), (z4.2.2.2.2.2.2.2.1, .inr (3, [.ref z4.2.2.2.2.2.2.2.2, .int 0])), (z4.2.2.2.2.2.2.2.2, .inl (zI g, 912, .inl (fun _ => 0))), (q5, .inr (6, [.ref z6, .int 0])), (z6, .inl (zY g, 600, .inl (fun _ => 0))), (q7, .inr (4, [.ref z8, .int 0, .int 0])), (z8, .inl (zY g, 1702, .inl (fun _ => 0))), (q9, .inr (2, [.ref q5, .ref z10.1, .int 0, .int 0, .int 0])), (z10.1, .inr (3, [.ref z10.2, .int 0])), (z10.2, .inl (zI g, 912, .inl (fun _ => 0))), (q11, .inr (5, [.ref q1, .ref z12.1, .ref z12.2])), (z12.1, .inl (zI g, 768, .inl (fun _ => 0))), (z12.2, .inl (zI g, 768, .inl (fun _ => 0))), (q13, .inr (1, [.null, .int 0]))] H := hP
  have hD : va_D A [(h0, .inr (7, [.ref q1, .ref q3, .ref q5, .ref q7, .ref q9, .ref q11, .null])), (q1, .inr (3, [.ref z2, .int 0])), (z2, .inl (zI g, 912, .inl (fun _ => 0))), (q3, .inr (0, [.ref z4.1, .int 0, .int 0])), (z4.1, .inl (zO g, 4, .inr (.inr (.inr (.inr (va_up (va_up (va_up (va_up (fun _ => none) 0 (some z4.2.1)) 1 (some z4.2.2.2.1)) 2 (some z4.2.2.2.2.2.1)) 3 (some z4.2.2.2.2.2.2.2.1))))))), (z4.2.1, .inr (3, [.ref z4.2.2.1, .int 0])), (z4.2.2.1, .inl (zI g, 912, .inl (fun _ => 0))), (z4.2.2.2.1, .inr (3, [.ref z4.2.2.2.2.1, .int 0])), (z4.2.2.2.2.1, .inl (zI g, 912, .inl (fun _ => 0))), (z4.2.2.2.2.2.1, .inr (3, [.ref z4.2.2.2.2.2.2.1, .int 0])), (z4.2.2.2.2.2.2.1, .inl (zI g, 912, .inl (fun _ => 0))), (z4.2.2.2.2.2.2.2.1, .inr (3, [.ref z4.2.2.2.2.2.2.2.2, .int 0])), (z4.2.2.2.2.2.2.2.2, .inl (zI g, 912, .inl (fun _ => 0))), (q5, .inr (6, [.ref z6, .int 0])), (z6, .inl (zY g, 600, .inl (fun _ => 0))), (q7, .inr (4, [.ref z8, .int 0, .int 0])), (z8, .inl (zY g, 1702, .inl (fun _ => 0))), (q9, .inr (2, [.ref q5, .ref z10.1, .int 0, .int 0, .int 0])), (z10.1, .inr (3, [.ref z10.2, .int 0])), (z10.2, .inl (zI g, 912, .inl (fun _ => 0))), (q11, .inr (5, [.ref q1, .ref z12.1, .ref z12.2])), (z12.1, .inl (zI g, 768, .inl (fun _ => 0))), (z12.2, .inl (zI g, 768, .inl (fun _ => 0))), (q13, .inr (1, [.null, .int 0]))] := hD
  refine lv_dup hx hb dX9_init_82 rfl ?_
  refine zCIN (n := 0) (W1 := fun z14 => [(h0, .inr (7, [.ref q1, .ref q3, .ref q5, .ref q7, .ref q9, .ref q11, .null])), (q1, .inr (3, [.ref z2, .int 0])), (z2, .inl (zI g, 912, .inl (fun _ => 0))), (q3, .inr (0, [.ref z4.1, .int 0, .int 0])), (z4.1, .inl (zO g, 4, .inr (.inr (.inr (.inr (va_up (va_up (va_up (va_up (fun _ => none) 0 (some z4.2.1)) 1 (some z4.2.2.2.1)) 2 (some z4.2.2.2.2.2.1)) 3 (some z4.2.2.2.2.2.2.2.1))))))), (z4.2.1, .inr (3, [.ref z4.2.2.1, .int 0])), (z4.2.2.1, .inl (zI g, 912, .inl (fun _ => 0))), (z4.2.2.2.1, .inr (3, [.ref z4.2.2.2.2.1, .int 0])), (z4.2.2.2.2.1, .inl (zI g, 912, .inl (fun _ => 0))), (z4.2.2.2.2.2.1, .inr (3, [.ref z4.2.2.2.2.2.2.1, .int 0])), (z4.2.2.2.2.2.2.1, .inl (zI g, 912, .inl (fun _ => 0))), (z4.2.2.2.2.2.2.2.1, .inr (3, [.ref z4.2.2.2.2.2.2.2.2, .int 0])), (z4.2.2.2.2.2.2.2.2, .inl (zI g, 912, .inl (fun _ => 0))), (q5, .inr (6, [.ref z6, .int 0])), (z6, .inl (zY g, 600, .inl (fun _ => 0))), (q7, .inr (4, [.ref z8, .int 0, .int 0])), (z8, .inl (zY g, 1702, .inl (fun _ => 0))), (q9, .inr (2, [.ref q5, .ref z10.1, .int 0, .int 0, .int 0])), (z10.1, .inr (3, [.ref z10.2, .int 0])), (z10.2, .inl (zI g, 912, .inl (fun _ => 0))), (q11, .inr (5, [.ref q1, .ref z12.1, .ref z12.2])), (z12.1, .inl (zI g, 768, .inl (fun _ => 0))), (z12.2, .inl (zI g, 768, .inl (fun _ => 0))), (q13, .inr (1, [.ref z14, .int 0])), (z14, .inl (zI g, 200, .inl (fun _ => 0)))]) F hO (k_X2_init l g q13) zw_58 zw_77 ⟨by decide, by decide⟩ (by decide +kernel) rfl zw_505 (List.mem_of_getElem? (i := 5) rfl) hP hD hS [23] [0, 1, 2, 3, 4, 5, 6, 7, 8, 9, 10, 11, 12, 13, 14, 15, 16, 17, 18, 19, 20, 21, 22] [0, 1, 2, 3, 4, 5, 6, 7, 8, 9, 10, 11, 12, 13, 14, 15, 16, 17, 18, 19, 20, 21, 22, 23, 24] (wr := [(h0, .inr (7, [.ref q1, .ref q3, .ref q5, .ref q7, .ref q9, .ref q11, .null])), (q1, .inr (3, [.ref z2, .int 0])), (z2, .inl (zI g, 912, .inl (fun _ => 0))), (q3, .inr (0, [.ref z4.1, .int 0, .int 0])), (z4.1, .inl (zO g, 4, .inr (.inr (.inr (.inr (va_up (va_up (va_up (va_up (fun _ => none) 0 (some z4.2.1)) 1 (some z4.2.2.2.1)) 2 (some z4.2.2.2.2.2.1)) 3 (some z4.2.2.2.2.2.2.2.1))))))), (z4.2.1, .inr (3, [.ref z4.2.2.1, .int 0])), (z4.2.2.1, .inl (zI g, 912, .inl (fun _ => 0))), (z4.2.2.2.1, .inr (3, [.ref z4.2.2.2.2.1, .int 0])), (z4.2.2.2.2.1, .inl (zI g, 912, .inl (fun _ => 0))), (z4.2.2.2.2.2.1, .inr (3, [.ref z4.2.2.2.2.2.2.1, .int 0])), (z4.2.2.2.2.2.2.1, .inl (zI g, 912, .inl (fun _ => 0))), (z4.2.2.2.2.2.2.2.1, .inr (3, [.ref z4.2.2.2.2.2.2.2.2, .int 0])), (z4.2.2.2.2.2.2.2.2, .inl (zI g, 912, .inl (fun _ => 0))), (q5, .inr (6, [.ref z6, .int 0])), (z6, .inl (zY g, 600, .inl (fun _ => 0))), (q7, .inr (4, [.ref z8, .int 0, .int 0])), (z8, .inl (zY g, 1702, .inl (fun _ => 0))), (q9, .inr (2, [.ref q5, .ref z10.1, .int 0, .int 0, .int 0])), (z10.1, .inr (3, [.ref z10.2, .int 0])), (z10.2, .inl (zI g, 912, .inl (fun _ => 0))), (q11, .inr (5, [.ref q1, .ref z12.1, .ref z12.2])), (z12.1, .inl (zI g, 768, .inl (fun _ => 0))), (z12.2, .inl (zI g, 768, .inl (fun _ => 0)))]) rfl rfl rfl rfl (by decide) (fun _ => rfl) rfl (rest := [.ref q13, .ref h0]) (As := []) rfl hl.1 rfl (Nat.le_of_ble_eq_true rfl) ⟨rfl, rfl⟩ ⟨Nat.le_of_ble_eq_true rfl, Nat.le_of_ble_eq_true rfl⟩ ⟨(Nat.le_of_ble_eq_true rfl), (Nat.le_of_ble_eq_true rfl)⟩ dX9_init_83 (fun z14 H locs hP hD hS => ?_)
  have hP : va_P (zD g) vwCl [(h0, .inr (7, [.ref q1, .ref q3, .ref q5, .ref q7, .ref q9, .ref q11, .null])), (q1, .inr (3, [.ref z2, .int 0])), (z2, .inl (zI g, 912, .inl (fun _ => 0))), (q3, .inr (0, [.ref z4.1, .int 0, .int 0])), (z4.1, .inl (zO g, 4, .inr (.inr (.inr (.inr (va_up (va_up (va_up (va_up (fun _ => none) 0 (some z4.2.1)) 1 (some z4.2.2.2.1)) 2 (some z4.2.2.2.2.2.1)) 3 (some z4.2.2.2.2.2.2.2.1))))))), (z4.2.1, .inr (3, [.ref z4.2.2.1, .int 0])), (z4.2.2.1, .inl (zI g, 912, .inl (fun _ => 0))), (z4.2.2.2.1, .inr (3, [.ref z4.2.2.2.2.1, .int 0])), (z4.2.2.2.2.1, .inl (zI g, 912, .inl (fun _ => 0))), (z4.2.2.2.2.2.1, .inr (3, [.ref z4.2.2.2.2.2.2.1, .int 0])), (z4.2.2.2.2.2.2.1, .inl (zI g, 912, .inl (fun _ => 0))), (z4.2.2.2.2.2.2.2.1, .inr (3, [.ref z4.2.2.2.2.2.2.2.2, .int 0])), (z4.2.2.2.2.2.2.2.2, .inl (zI g, 912, .inl (fun _ => 0))), (q5, .inr (6, [.ref z6, .int 0])), (z6, .inl (zY g, 600, .inl (fun _ => 0))), (q7, .inr (4, [.ref z8, .int 0, .int 0])), (z8, .inl (zY g, 1702, .inl (fun _ => 0))), (q9, .inr (2, [.ref q5, .ref z10.1, .int 0, .int 0, .int 0])), (z10.1, .inr (3, [.ref z10.2, .int 0])), (z10.2, .inl (zI g, 912, .inl (fun _ => 0))), (q11, .inr (5, [.ref q1, .ref z12.1, .ref z12.2])), (z12.1, .inl (zI g, 768, .inl (fun _ => 0))), (z12.2, .inl (zI g, 768, .inl (fun _ => 0))), (q13, .inr (1, [.ref z14, .int 0])), (z14, .inl (zI g, 200, .inl (fun _ => 0)))] H := hP
  have hD : va_D A [(h0, .inr (7, [.ref q1, .ref q3, .ref q5, .ref q7, .ref q9, .ref q11, .null])), (q1, .inr (3, [.ref z2, .int 0])), (z2, .inl (zI g, 912, .inl (fun _ => 0))), (q3, .inr (0, [.ref z4.1, .int 0, .int 0])), (z4.1, .inl (zO g, 4, .inr (.inr (.inr (.inr (va_up (va_up (va_up (va_up (fun _ => none) 0 (some z4.2.1)) 1 (some z4.2.2.2.1)) 2 (some z4.2.2.2.2.2.1)) 3 (some z4.2.2.2.2.2.2.2.1))))))), (z4.2.1, .inr (3, [.ref z4.2.2.1, .int 0])), (z4.2.2.1, .inl (zI g, 912, .inl (fun _ => 0))), (z4.2.2.2.1, .inr (3, [.ref z4.2.2.2.2.1, .int 0])), (z4.2.2.2.2.1, .inl (zI g, 912, .inl (fun _ => 0))), (z4.2.2.2.2.2.1, .inr (3, [.ref z4.2.2.2.2.2.2.1, .int 0])), (z4.2.2.2.2.2.2.1, .inl (zI g, 912, .inl (fun _ => 0))), (z4.2.2.2.2.2.2.2.1, .inr (3, [.ref z4.2.2.2.2.2.2.2.2, .int 0])), (z4.2.2.2.2.2.2.2.2, .inl (zI g, 912, .inl (fun _ => 0))), (q5, .inr (6, [.ref z6, .int 0])), (z6, .inl (zY g, 600, .inl (fun _ => 0))), (q7, .inr (4, [.ref z8, .int 0, .int 0])), (z8, .inl (zY g, 1702, .inl (fun _ => 0))), (q9, .inr (2, [.ref q5, .ref z10.1, .int 0, .int 0, .int 0])), (z10.1, .inr (3, [.ref z10.2, .int 0])), (z10.2, .inl (zI g, 912, .inl (fun _ => 0))), (q11, .inr (5, [.ref q1, .ref z12.1, .ref z12.2])), (z12.1, .inl (zI g, 768, .inl (fun _ => 0))), (z12.2, .inl (zI g, 768, .inl (fun _ => 0))), (q13, .inr (1, [.ref z14, .int 0])), (z14, .inl (zI g, 200, .inl (fun _ => 0)))] := hD
  refine z_putF (T := TX9) (N := 7) (ci := 7) (W1 := [(h0, .inr (7, [.ref q1, .ref q3, .ref q5, .ref q7, .ref q9, .ref q11, .ref q13])), (q1, .inr (3, [.ref z2, .int 0])), (z2, .inl (zI g, 912, .inl (fun _ => 0))), (q3, .inr (0, [.ref z4.1, .int 0, .int 0])), (z4.1, .inl (zO g, 4, .inr (.inr (.inr (.inr (va_up (va_up (va_up (va_up (fun _ => none) 0 (some z4.2.1)) 1 (some z4.2.2.2.1)) 2 (some z4.2.2.2.2.2.1)) 3 (some z4.2.2.2.2.2.2.2.1))))))), (z4.2.1, .inr (3, [.ref z4.2.2.1, .int 0])), (z4.2.2.1, .inl (zI g, 912, .inl (fun _ => 0))), (z4.2.2.2.1, .inr (3, [.ref z4.2.2.2.2.1, .int 0])), (z4.2.2.2.2.1, .inl (zI g, 912, .inl (fun _ => 0))), (z4.2.2.2.2.2.1, .inr (3, [.ref z4.2.2.2.2.2.2.1, .int 0])), (z4.2.2.2.2.2.2.1, .inl (zI g, 912, .inl (fun _ => 0))), (z4.2.2.2.2.2.2.2.1, .inr (3, [.ref z4.2.2.2.2.2.2.2.2, .int 0])), (z4.2.2.2.2.2.2.2.2, .inl (zI g, 912, .inl (fun _ => 0))), (q5, .inr (6, [.ref z6, .int 0])), (z6, .inl (zY g, 600, .inl (fun _ => 0))), (q7, .inr (4, [.ref z8, .int 0, .int 0])), (z8, .inl (zY g, 1702, .inl (fun _ => 0))), (q9, .inr (2, [.ref q5, .ref z10.1, .int 0, .int 0, .int 0])), (z10.1, .inr (3, [.ref z10.2, .int 0])), (z10.2, .inl (zI g, 912, .inl (fun _ => 0))), (q11, .inr (5, [.ref q1, .ref z12.1, .ref z12.2])), (z12.1, .inl (zI g, 768, .inl (fun _ => 0))), (z12.2, .inl (zI g, 768, .inl (fun _ => 0))), (q13, .inr (1, [.ref z14, .int 0])), (z14, .inl (zI g, 200, .inl (fun _ => 0)))]) F zu_wsX90 tyX9 tyX9_ok nmX9 hP hD hS 0 rfl rfl 6 (by decide) zw_496 rfl hin rfl rfl rfl (Nat.le_of_ble_eq_true rfl) dX9_init_86 rfl (fun H locs hP hD hS => ?_)
  exact zI_v (w1 := (fun z : Nat × Nat × Nat × Nat × Nat × Nat × Nat × Nat × Nat × Nat × Nat × Nat × Nat × Nat × Nat × Nat × Nat × Nat × Nat × Nat × Nat × Nat × Nat × Nat => [(h0, .inr (7, [.ref z.1, .ref z.2.2.1, .ref z.2.2.2.2.2.2.2.2.2.2.2.2.1, .ref z.2.2.2.2.2.2.2.2.2.2.2.2.2.2.1, .ref z.2.2.2.2.2.2.2.2.2.2.2.2.2.2.2.2.1, .ref z.2.2.2.2.2.2.2.2.2.2.2.2.2.2.2.2.2.2.2.1, .ref z.2.2.2.2.2.2.2.2.2.2.2.2.2.2.2.2.2.2.2.2.2.2.1])), (z.1, .inr (3, [.ref z.2.1, .int 0])), (z.2.1, .inl (zI g, 912, .inl (fun _ => 0))), (z.2.2.1, .inr (0, [.ref z.2.2.2.1, .int 0, .int 0])), (z.2.2.2.1, .inl (zO g, 4, .inr (.inr (.inr (.inr (va_up (va_up (va_up (va_up (fun _ => none) 0 (some z.2.2.2.2.1)) 1 (some z.2.2.2.2.2.2.1)) 2 (some z.2.2.2.2.2.2.2.2.1)) 3 (some z.2.2.2.2.2.2.2.2.2.2.1))))))), (z.2.2.2.2.1, .inr (3, [.ref z.2.2.2.2.2.1, .int 0])), (z.2.2.2.2.2.1, .inl (zI g, 912, .inl (fun _ => 0))), (z.2.2.2.2.2.2.1, .inr (3, [.ref z.2.2.2.2.2.2.2.1, .int 0])), (z.2.2.2.2.2.2.2.1, .inl (zI g, 912, .inl (fun _ => 0))), (z.2.2.2.2.2.2.2.2.1, .inr (3, [.ref z.2.2.2.2.2.2.2.2.2.1, .int 0])), (z.2.2.2.2.2.2.2.2.2.1, .inl (zI g, 912, .inl (fun _ => 0))), (z.2.2.2.2.2.2.2.2.2.2.1, .inr (3, [.ref z.2.2.2.2.2.2.2.2.2.2.2.1, .int 0])), (z.2.2.2.2.2.2.2.2.2.2.2.1, .inl (zI g, 912, .inl (fun _ => 0))), (z.2.2.2.2.2.2.2.2.2.2.2.2.1, .inr (6, [.ref z.2.2.2.2.2.2.2.2.2.2.2.2.2.1, .int 0])), (z.2.2.2.2.2.2.2.2.2.2.2.2.2.1, .inl (zY g, 600, .inl (fun _ => 0))), (z.2.2.2.2.2.2.2.2.2.2.2.2.2.2.1, .inr (4, [.ref z.2.2.2.2.2.2.2.2.2.2.2.2.2.2.2.1, .int 0, .int 0])), (z.2.2.2.2.2.2.2.2.2.2.2.2.2.2.2.1, .inl (zY g, 1702, .inl (fun _ => 0))), (z.2.2.2.2.2.2.2.2.2.2.2.2.2.2.2.2.1, .inr (2, [.ref z.2.2.2.2.2.2.2.2.2.2.2.2.1, .ref z.2.2.2.2.2.2.2.2.2.2.2.2.2.2.2.2.2.1, .int 0, .int 0, .int 0])), (z.2.2.2.2.2.2.2.2.2.2.2.2.2.2.2.2.2.1, .inr (3, [.ref z.2.2.2.2.2.2.2.2.2.2.2.2.2.2.2.2.2.2.1, .int 0])), (z.2.2.2.2.2.2.2.2.2.2.2.2.2.2.2.2.2.2.1, .inl (zI g, 912, .inl (fun _ => 0))), (z.2.2.2.2.2.2.2.2.2.2.2.2.2.2.2.2.2.2.2.1, .inr (5, [.ref z.1, .ref z.2.2.2.2.2.2.2.2.2.2.2.2.2.2.2.2.2.2.2.2.1, .ref z.2.2.2.2.2.2.2.2.2.2.2.2.2.2.2.2.2.2.2.2.2.1])), (z.2.2.2.2.2.2.2.2.2.2.2.2.2.2.2.2.2.2.2.2.1, .inl (zI g, 768, .inl (fun _ => 0))), (z.2.2.2.2.2.2.2.2.2.2.2.2.2.2.2.2.2.2.2.2.2.1, .inl (zI g, 768, .inl (fun _ => 0))), (z.2.2.2.2.2.2.2.2.2.2.2.2.2.2.2.2.2.2.2.2.2.2.1, .inr (1, [.ref z.2.2.2.2.2.2.2.2.2.2.2.2.2.2.2.2.2.2.2.2.2.2.2, .int 0])), (z.2.2.2.2.2.2.2.2.2.2.2.2.2.2.2.2.2.2.2.2.2.2.2, .inl (zI g, 200, .inl (fun _ => 0)))])) (q1, z2, q3, z4.1, z4.2.1, z4.2.2.1, z4.2.2.2.1, z4.2.2.2.2.1, z4.2.2.2.2.2.1, z4.2.2.2.2.2.2.1, z4.2.2.2.2.2.2.2.1, z4.2.2.2.2.2.2.2.2, q5, z6, q7, z8, q9, z10.1, z10.2, q11, z12.1, z12.2, q13, z14) F hr hlocks hQ hP hD rfl hS dX9_init_89
abbrev rm_X10_init : Room := { frames := 1, cells := 7, slots := 19204, locals := 12 }
set_option maxHeartbeats 4000000 in
set_option maxRecDepth 100000 in
theorem k_X10_init (l : Launch) (g : zEnv) (h0 : Nat) : ZI l yX10_init cX10_init 1 rm_X10_init g [.ref h0] [(h0, .inr (8, [.null, .null, .int 0, .null, .int 0, .int 0, .int 0, .int 0, .null, .int 0, .null, .null, .int 0, .int 0, .int 0, .int 0, .null, .int 0, .int 0, .long 0]))] (fun z : Nat × Nat × Nat × Nat × Nat × Nat × Nat => [(h0, .inr (8, [.ref z.1, .ref z.2.1, .int 0, .ref z.2.2.1, .int 0, .int 0, .int 0, .int 0, .ref z.2.2.2.1, .int 0, .ref z.2.2.2.2.1, .ref z.2.2.2.2.2.1, .int 0, .int 0, .int 0, .int 0, .ref z.2.2.2.2.2.2, .int 0, .int 0, .long 0])), (z.1, .inl (zI g, 3217, .inl (fun _ => 0))), (z.2.1, .inl (zI g, 12868, .inl (fun _ => 0))), (z.2.2.1, .inl (zI g, 600, .inl (fun _ => 0))), (z.2.2.2.1, .inl (zI g, 200, .inl (fun _ => 0))), (z.2.2.2.2.1, .inl (zI g, 118, .inl zSp)), (z.2.2.2.2.2.1, .inl (zI g, 2000, .inl (fun _ => 0))), (z.2.2.2.2.2.2, .inl (zI g, 201, .inl (fun _ => 0)))]) 7 19204 := by
  refine zI_of (by decide) (Nat.le_of_ble_eq_true rfl) ?_
  intro p e s m below meth c A H locs ls Q R F hRm hr hlocks hin hO hP hD hS hl hQ
  subst hRm
  have F : zF p m c cX10_init 1 s (([.ref h0] : List Value)).toArray RX10 g A := F
  have hin : meth.name = "<init>" := hin
  have hx := F.1.1
  have hb := F.1.2.1
  have hz := F.1.2.2.2.2
  have hl : lv_has ls 1 [(0, .ref h0)] := hl
  refine lv_aload_n hx hb dX10_init_0 rfl (lv_at hl 0 rfl) ?_
  refine z_oi F hl.1 zw_730 zw_21 zw_22 ⟨Nat.le_of_ble_eq_true rfl, Nat.le_of_ble_eq_true rfl⟩ dX10_init_1 ?_
  refine lv_aload_n hx hb dX10_init_4 rfl (lv_at hl 0 rfl) ?_
  refine lv_sipush (v := 3217) hx hb dX10_init_5 (by decide) ?_
  refine z_newI (N' := 3217) F zw_23 hP hD hS (by decide) (by decide) (Nat.le_of_ble_eq_true rfl) (Nat.le_of_ble_eq_true rfl) (Nat.le_of_ble_eq_true rfl) dX10_init_8 (fun q1 H hP hD hS => ?_)
  have hP : va_P (zD g) vwCl [(h0, .inr (8, [.null, .null, .int 0, .null, .int 0, .int 0, .int 0, .int 0, .null, .int 0, .null, .null, .int 0, .int 0, .int 0, .int 0, .null, .int 0, .int 0, .long 0])), (q1, .inl (zI g, 3217, .inl (fun _ => 0)))] H := hP
  have hD : va_D A [(h0, .inr (8, [.null, .null, .int 0, .null, .int 0, .int 0, .int 0, .int 0, .null, .int 0, .null, .null, .int 0, .int 0, .int 0, .int 0, .null, .int 0, .int 0, .long 0])), (q1, .inl (zI g, 3217, .inl (fun _ => 0)))] := hD
  refine z_putF (T := TX10) (N := 20) (ci := 8) (W1 := [(h0, .inr (8, [.ref q1, .null, .int 0, .null, .int 0, .int 0, .int 0, .int 0, .null, .int 0, .null, .null, .int 0, .int 0, .int 0, .int 0, .null, .int 0, .int 0, .long 0])), (q1, .inl (zI g, 3217, .inl (fun _ => 0)))]) F zu_wsX100 tyX10 tyX10_ok nmX10 hP hD hS 0 rfl rfl 0 (by decide) zw_731 rfl hin rfl rfl rfl (Nat.le_of_ble_eq_true rfl) dX10_init_10 rfl (fun H locs hP hD hS => ?_)
  refine lv_aload_n hx hb dX10_init_13 rfl (lv_at hl 0 rfl) ?_
  refine lv_sipush (v := 12868) hx hb dX10_init_14 (by decide) ?_
  refine z_newI (N' := 12868) F zw_23 hP hD hS (by decide) (by decide) (Nat.le_of_ble_eq_true rfl) (Nat.le_of_ble_eq_true rfl) (Nat.le_of_ble_eq_true rfl) dX10_init_17 (fun q2 H hP hD hS => ?_)
  have hP : va_P (zD g) vwCl [(h0, .inr (8, [.ref q1, .null, .int 0, .null, .int 0, .int 0, .int 0, .int 0, .null, .int 0, .null, .null, .int 0, .int 0, .int 0, .int 0, .null, .int 0, .int 0, .long 0])), (q1, .inl (zI g, 3217, .inl (fun _ => 0))), (q2, .inl (zI g, 12868, .inl (fun _ => 0)))] H := hP
  have hD : va_D A [(h0, .inr (8, [.ref q1, .null, .int 0, .null, .int 0, .int 0, .int 0, .int 0, .null, .int 0, .null, .null, .int 0, .int 0, .int 0, .int 0, .null, .int 0, .int 0, .long 0])), (q1, .inl (zI g, 3217, .inl (fun _ => 0))), (q2, .inl (zI g, 12868, .inl (fun _ => 0)))] := hD
  refine z_putF (T := TX10) (N := 20) (ci := 8) (W1 := [(h0, .inr (8, [.ref q1, .ref q2, .int 0, .null, .int 0, .int 0, .int 0, .int 0, .null, .int 0, .null, .null, .int 0, .int 0, .int 0, .int 0, .null, .int 0, .int 0, .long 0])), (q1, .inl (zI g, 3217, .inl (fun _ => 0))), (q2, .inl (zI g, 12868, .inl (fun _ => 0)))]) F zu_wsX100 tyX10 tyX10_ok nmX10 hP hD hS 0 rfl rfl 1 (by decide) zw_732 rfl hin rfl rfl rfl (Nat.le_of_ble_eq_true rfl) dX10_init_19 rfl (fun H locs hP hD hS => ?_)
  refine lv_aload_n hx hb dX10_init_22 rfl (lv_at hl 0 rfl) ?_
  refine lv_sipush (v := 600) hx hb dX10_init_23 (by decide) ?_
  refine z_newI (N' := 600) F zw_23 hP hD hS (by decide) (by decide) (Nat.le_of_ble_eq_true rfl) (Nat.le_of_ble_eq_true rfl) (Nat.le_of_ble_eq_true rfl) dX10_init_26 (fun q3 H hP hD hS => ?_)
  have hP : va_P (zD g) vwCl [(h0, .inr (8, [.ref q1, .ref q2, .int 0, .null, .int 0, .int 0, .int 0, .int 0, .null, .int 0, .null, .null, .int 0, .int 0, .int 0, .int 0, .null, .int 0, .int 0, .long 0])), (q1, .inl (zI g, 3217, .inl (fun _ => 0))), (q2, .inl (zI g, 12868, .inl (fun _ => 0))), (q3, .inl (zI g, 600, .inl (fun _ => 0)))] H := hP
  have hD : va_D A [(h0, .inr (8, [.ref q1, .ref q2, .int 0, .null, .int 0, .int 0, .int 0, .int 0, .null, .int 0, .null, .null, .int 0, .int 0, .int 0, .int 0, .null, .int 0, .int 0, .long 0])), (q1, .inl (zI g, 3217, .inl (fun _ => 0))), (q2, .inl (zI g, 12868, .inl (fun _ => 0))), (q3, .inl (zI g, 600, .inl (fun _ => 0)))] := hD
  refine z_putF (T := TX10) (N := 20) (ci := 8) (W1 := [(h0, .inr (8, [.ref q1, .ref q2, .int 0, .ref q3, .int 0, .int 0, .int 0, .int 0, .null, .int 0, .null, .null, .int 0, .int 0, .int 0, .int 0, .null, .int 0, .int 0, .long 0])), (q1, .inl (zI g, 3217, .inl (fun _ => 0))), (q2, .inl (zI g, 12868, .inl (fun _ => 0))), (q3, .inl (zI g, 600, .inl (fun _ => 0)))]) F zu_wsX100 tyX10 tyX10_ok nmX10 hP hD hS 0 rfl rfl 3 (by decide) zw_733 rfl hin rfl rfl rfl (Nat.le_of_ble_eq_true rfl) dX10_init_28 rfl (fun H locs hP hD hS => ?_)
  refine lv_aload_n hx hb dX10_init_31 rfl (lv_at hl 0 rfl) ?_
  refine lv_sipush (v := 200) hx hb dX10_init_32 (by decide) ?_
  refine z_newI (N' := 200) F zw_23 hP hD hS (by decide) (by decide) (Nat.le_of_ble_eq_true rfl) (Nat.le_of_ble_eq_true rfl) (Nat.le_of_ble_eq_true rfl) dX10_init_35 (fun q4 H hP hD hS => ?_)
  have hP : va_P (zD g) vwCl [(h0, .inr (8, [.ref q1, .ref q2, .int 0, .ref q3, .int 0, .int 0, .int 0, .int 0, .null, .int 0, .null, .null, .int 0, .int 0, .int 0, .int 0, .null, .int 0, .int 0, .long 0])), (q1, .inl (zI g, 3217, .inl (fun _ => 0))), (q2, .inl (zI g, 12868, .inl (fun _ => 0))), (q3, .inl (zI g, 600, .inl (fun _ => 0))), (q4, .inl (zI g, 200, .inl (fun _ => 0)))] H := hP
  have hD : va_D A [(h0, .inr (8, [.ref q1, .ref q2, .int 0, .ref q3, .int 0, .int 0, .int 0, .int 0, .null, .int 0, .null, .null, .int 0, .int 0, .int 0, .int 0, .null, .int 0, .int 0, .long 0])), (q1, .inl (zI g, 3217, .inl (fun _ => 0))), (q2, .inl (zI g, 12868, .inl (fun _ => 0))), (q3, .inl (zI g, 600, .inl (fun _ => 0))), (q4, .inl (zI g, 200, .inl (fun _ => 0)))] := hD
  refine z_putF (T := TX10) (N := 20) (ci := 8) (W1 := [(h0, .inr (8, [.ref q1, .ref q2, .int 0, .ref q3, .int 0, .int 0, .int 0, .int 0, .ref q4, .int 0, .null, .null, .int 0, .int 0, .int 0, .int 0, .null, .int 0, .int 0, .long 0])), (q1, .inl (zI g, 3217, .inl (fun _ => 0))), (q2, .inl (zI g, 12868, .inl (fun _ => 0))), (q3, .inl (zI g, 600, .inl (fun _ => 0))), (q4, .inl (zI g, 200, .inl (fun _ => 0)))]) F zu_wsX100 tyX10 tyX10_ok nmX10 hP hD hS 0 rfl rfl 8 (by decide) zw_734 rfl hin rfl rfl rfl (Nat.le_of_ble_eq_true rfl) dX10_init_37 rfl (fun H locs hP hD hS => ?_)
  refine lv_aload_n hx hb dX10_init_40 rfl (lv_at hl 0 rfl) ?_
  refine lv_bipush (v := 118) hx hb dX10_init_41 (by decide) ?_
  refine z_newI (N' := 118) F zw_23 hP hD hS (by decide) (by decide) (Nat.le_of_ble_eq_true rfl) (Nat.le_of_ble_eq_true rfl) (Nat.le_of_ble_eq_true rfl) dX10_init_43 (fun q5 H hP hD hS => ?_)
  have hP : va_P (zD g) vwCl [(h0, .inr (8, [.ref q1, .ref q2, .int 0, .ref q3, .int 0, .int 0, .int 0, .int 0, .ref q4, .int 0, .null, .null, .int 0, .int 0, .int 0, .int 0, .null, .int 0, .int 0, .long 0])), (q1, .inl (zI g, 3217, .inl (fun _ => 0))), (q2, .inl (zI g, 12868, .inl (fun _ => 0))), (q3, .inl (zI g, 600, .inl (fun _ => 0))), (q4, .inl (zI g, 200, .inl (fun _ => 0))), (q5, .inl (zI g, 118, .inl (fun _ => 0)))] H := hP
  have hD : va_D A [(h0, .inr (8, [.ref q1, .ref q2, .int 0, .ref q3, .int 0, .int 0, .int 0, .int 0, .ref q4, .int 0, .null, .null, .int 0, .int 0, .int 0, .int 0, .null, .int 0, .int 0, .long 0])), (q1, .inl (zI g, 3217, .inl (fun _ => 0))), (q2, .inl (zI g, 12868, .inl (fun _ => 0))), (q3, .inl (zI g, 600, .inl (fun _ => 0))), (q4, .inl (zI g, 200, .inl (fun _ => 0))), (q5, .inl (zI g, 118, .inl (fun _ => 0)))] := hD
  refine lv_dup hx hb dX10_init_45 rfl ?_
  refine lv_iconst (v := 0) hx hb dX10_init_46 (by decide) ?_
  refine lv_bipush (v := 98) hx hb dX10_init_47 (by decide) ?_
  refine z_iastN (W1 := fun f6 => [(h0, .inr (8, [.ref q1, .ref q2, .int 0, .ref q3, .int 0, .int 0, .int 0, .int 0, .ref q4, .int 0, .null, .null, .int 0, .int 0, .int 0, .int 0, .null, .int 0, .int 0, .long 0])), (q1, .inl (zI g, 3217, .inl (fun _ => 0))), (q2, .inl (zI g, 12868, .inl (fun _ => 0))), (q3, .inl (zI g, 600, .inl (fun _ => 0))), (q4, .inl (zI g, 200, .inl (fun _ => 0))), (q5, .inl (zI g, 118, .inl f6))]) F hP hD hS 5 rfl (zIn (by decide)) dX10_init_49 (fun _ => rfl) (fun f6 H locs ef6 hP hD hS => ?_)
  refine lv_dup hx hb dX10_init_50 rfl ?_
  refine lv_iconst (v := 1) hx hb dX10_init_51 (by decide) ?_
  refine lv_bipush (v := 97) hx hb dX10_init_52 (by decide) ?_
  refine z_iastN (W1 := fun f7 => [(h0, .inr (8, [.ref q1, .ref q2, .int 0, .ref q3, .int 0, .int 0, .int 0, .int 0, .ref q4, .int 0, .null, .null, .int 0, .int 0, .int 0, .int 0, .null, .int 0, .int 0, .long 0])), (q1, .inl (zI g, 3217, .inl (fun _ => 0))), (q2, .inl (zI g, 12868, .inl (fun _ => 0))), (q3, .inl (zI g, 600, .inl (fun _ => 0))), (q4, .inl (zI g, 200, .inl (fun _ => 0))), (q5, .inl (zI g, 118, .inl f7))]) F hP hD hS 5 rfl (zIn (by decide)) dX10_init_54 (fun _ => rfl) (fun f7 H locs ef7 hP hD hS => ?_)
  refine lv_dup hx hb dX10_init_55 rfl ?_
  refine lv_iconst (v := 2) hx hb dX10_init_56 (by decide) ?_
  refine lv_bipush (v := 114) hx hb dX10_init_57 (by decide) ?_
  refine z_iastN (W1 := fun f8 => [(h0, .inr (8, [.ref q1, .ref q2, .int 0, .ref q3, .int 0, .int 0, .int 0, .int 0, .ref q4, .int 0, .null, .null, .int 0, .int 0, .int 0, .int 0, .null, .int 0, .int 0, .long 0])), (q1, .inl (zI g, 3217, .inl (fun _ => 0))), (q2, .inl (zI g, 12868, .inl (fun _ => 0))), (q3, .inl (zI g, 600, .inl (fun _ => 0))), (q4, .inl (zI g, 200, .inl (fun _ => 0))), (q5, .inl (zI g, 118, .inl f8))]) F hP hD hS 5 rfl (zIn (by decide)) dX10_init_59 (fun _ => rfl) (fun f8 H locs ef8 hP hD hS => ?_)
  refine lv_dup hx hb dX10_init_60 rfl ?_
  refine lv_iconst (v := 3) hx hb dX10_init_61 (by decide) ?_
  refine lv_bipush (v := 32) hx hb dX10_init_62 (by decide) ?_
  refine z_iastN (W1 := fun f9 => [(h0, .inr (8, [.ref q1, .ref q2, .int 0, .ref q3, .int 0, .int 0, .int 0, .int 0, .ref q4, .int 0, .null, .null, .int 0, .int 0, .int 0, .int 0, .null, .int 0, .int 0, .long 0])), (q1, .inl (zI g, 3217, .inl (fun _ => 0))), (q2, .inl (zI g, 12868, .inl (fun _ => 0))), (q3, .inl (zI g, 600, .inl (fun _ => 0))), (q4, .inl (zI g, 200, .inl (fun _ => 0))), (q5, .inl (zI g, 118, .inl f9))]) F hP hD hS 5 rfl (zIn (by decide)) dX10_init_64 (fun _ => rfl) (fun f9 H locs ef9 hP hD hS => ?_)
  refine lv_dup hx hb dX10_init_65 rfl ?_
  refine lv_iconst (v := 4) hx hb dX10_init_66 (by decide) ?_
  refine lv_bipush (v := 111) hx hb dX10_init_67 (by decide) ?_
  refine z_iastN (W1 := fun f10 => [(h0, .inr (8, [.ref q1, .ref q2, .int 0, .ref q3, .int 0, .int 0, .int 0, .int 0, .ref q4, .int 0, .null, .null, .int 0, .int 0, .int 0, .int 0, .null, .int 0, .int 0, .long 0])), (q1, .inl (zI g, 3217, .inl (fun _ => 0))), (q2, .inl (zI g, 12868, .inl (fun _ => 0))), (q3, .inl (zI g, 600, .inl (fun _ => 0))), (q4, .inl (zI g, 200, .inl (fun _ => 0))), (q5, .inl (zI g, 118, .inl f10))]) F hP hD hS 5 rfl (zIn (by decide)) dX10_init_69 (fun _ => rfl) (fun f10 H locs ef10 hP hD hS => ?_)
  refine lv_dup hx hb dX10_init_70 rfl ?_
  refine lv_iconst (v := 5) hx hb dX10_init_71 (by decide) ?_
  refine lv_bipush (v := 112) hx hb dX10_init_72 (by decide) ?_
  refine z_iastN (W1 := fun f11 => [(h0, .inr (8, [.ref q1, .ref q2, .int 0, .ref q3, .int 0, .int 0, .int 0, .int 0, .ref q4, .int 0, .null, .null, .int 0, .int 0, .int 0, .int 0, .null, .int 0, .int 0, .long 0])), (q1, .inl (zI g, 3217, .inl (fun _ => 0))), (q2, .inl (zI g, 12868, .inl (fun _ => 0))), (q3, .inl (zI g, 600, .inl (fun _ => 0))), (q4, .inl (zI g, 200, .inl (fun _ => 0))), (q5, .inl (zI g, 118, .inl f11))]) F hP hD hS 5 rfl (zIn (by decide)) dX10_init_74 (fun _ => rfl) (fun f11 H locs ef11 hP hD hS => ?_)
  refine lv_dup hx hb dX10_init_75 rfl ?_
  refine lv_bipush (v := 6) hx hb dX10_init_76 (by decide) ?_
  refine lv_bipush (v := 101) hx hb dX10_init_78 (by decide) ?_
  refine z_iastN (W1 := fun f12 => [(h0, .inr (8, [.ref q1, .ref q2, .int 0, .ref q3, .int 0, .int 0, .int 0, .int 0, .ref q4, .int 0, .null, .null, .int 0, .int 0, .int 0, .int 0, .null, .int 0, .int 0, .long 0])), (q1, .inl (zI g, 3217, .inl (fun _ => 0))), (q2, .inl (zI g, 12868, .inl (fun _ => 0))), (q3, .inl (zI g, 600, .inl (fun _ => 0))), (q4, .inl (zI g, 200, .inl (fun _ => 0))), (q5, .inl (zI g, 118, .inl f12))]) F hP hD hS 5 rfl (zIn (by decide)) dX10_init_80 (fun _ => rfl) (fun f12 H locs ef12 hP hD hS => ?_)
  refine lv_dup hx hb dX10_init_81 rfl ?_
  refine lv_bipush (v := 7) hx hb dX10_init_82 (by decide) ?_
  refine lv_bipush (v := 110) hx hb dX10_init_84 (by decide) ?_
  refine z_iastN (W1 := fun f13 => [(h0, .inr (8, [.ref q1, .ref q2, .int 0, .ref q3, .int 0, .int 0, .int 0, .int 0, .ref q4, .int 0, .null, .null, .int 0, .int 0, .int 0, .int 0, .null, .int 0, .int 0, .long 0])), (q1, .inl (zI g, 3217, .inl (fun _ => 0))), (q2, .inl (zI g, 12868, .inl (fun _ => 0))), (q3, .inl (zI g, 600, .inl (fun _ => 0))), (q4, .inl (zI g, 200, .inl (fun _ => 0))), (q5, .inl (zI g, 118, .inl f13))]) F hP hD hS 5 rfl (zIn (by decide)) dX10_init_86 (fun _ => rfl) (fun f13 H locs ef13 hP hD hS => ?_)
  refine lv_dup hx hb dX10_init_87 rfl ?_
  refine lv_bipush (v := 8) hx hb dX10_init_88 (by decide) ?_
  refine lv_bipush (v := 32) hx hb dX10_init_90 (by decide) ?_
  refine z_iastN (W1 := fun f14 => [(h0, .inr (8, [.ref q1, .ref q2, .int 0, .ref q3, .int 0, .int 0, .int 0, .int 0, .ref q4, .int 0, .null, .null, .int 0, .int 0, .int 0, .int 0, .null, .int 0, .int 0, .long 0])), (q1, .inl (zI g, 3217, .inl (fun _ => 0))), (q2, .inl (zI g, 12868, .inl (fun _ => 0))), (q3, .inl (zI g, 600, .inl (fun _ => 0))), (q4, .inl (zI g, 200, .inl (fun _ => 0))), (q5, .inl (zI g, 118, .inl f14))]) F hP hD hS 5 rfl (zIn (by decide)) dX10_init_92 (fun _ => rfl) (fun f14 H locs ef14 hP hD hS => ?_)
  refine lv_dup hx hb dX10_init_93 rfl ?_
  refine lv_bipush (v := 9) hx hb dX10_init_94 (by decide) ?_
  refine lv_bipush (v := 101) hx hb dX10_init_96 (by decide) ?_
  refine z_iastN (W1 := fun f15 => [(h0, .inr (8, [.ref q1, .ref q2, .int 0, .ref q3, .int 0, .int 0, .int 0, .int 0, .ref q4, .int 0, .null, .null, .int 0, .int 0, .int 0, .int 0, .null, .int 0, .int 0, .long 0])), (q1, .inl (zI g, 3217, .inl (fun _ => 0))), (q2, .inl (zI g, 12868, .inl (fun _ => 0))), (q3, .inl (zI g, 600, .inl (fun _ => 0))), (q4, .inl (zI g, 200, .inl (fun _ => 0))), (q5, .inl (zI g, 118, .inl f15))]) F hP hD hS 5 rfl (zIn (by decide)) dX10_init_98 (fun _ => rfl) (fun f15 H locs ef15 hP hD hS => ?_)
  refine lv_dup hx hb dX10_init_99 rfl ?_
  refine lv_bipush (v := 10) hx hb dX10_init_100 (by decide) ?_
  refine lv_bipush (v := 110) hx hb dX10_init_102 (by decide) ?_
  refine z_iastN (W1 := fun f16 => [(h0, .inr (8, [.ref q1, .ref q2, .int 0, .ref q3, .int 0, .int 0, .int 0, .int 0, .ref q4, .int 0, .null, .null, .int 0, .int 0, .int 0, .int 0, .null, .int 0, .int 0, .long 0])), (q1, .inl (zI g, 3217, .inl (fun _ => 0))), (q2, .inl (zI g, 12868, .inl (fun _ => 0))), (q3, .inl (zI g, 600, .inl (fun _ => 0))), (q4, .inl (zI g, 200, .inl (fun _ => 0))), (q5, .inl (zI g, 118, .inl f16))]) F hP hD hS 5 rfl (zIn (by decide)) dX10_init_104 (fun _ => rfl) (fun f16 H locs ef16 hP hD hS => ?_)
  refine lv_dup hx hb dX10_init_105 rfl ?_
  refine lv_bipush (v := 11) hx hb dX10_init_106 (by decide) ?_
  refine lv_bipush (v := 100) hx hb dX10_init_108 (by decide) ?_
  refine z_iastN (W1 := fun f17 => [(h0, .inr (8, [.ref q1, .ref q2, .int 0, .ref q3, .int 0, .int 0, .int 0, .int 0, .ref q4, .int 0, .null, .null, .int 0, .int 0, .int 0, .int 0, .null, .int 0, .int 0, .long 0])), (q1, .inl (zI g, 3217, .inl (fun _ => 0))), (q2, .inl (zI g, 12868, .inl (fun _ => 0))), (q3, .inl (zI g, 600, .inl (fun _ => 0))), (q4, .inl (zI g, 200, .inl (fun _ => 0))), (q5, .inl (zI g, 118, .inl f17))]) F hP hD hS 5 rfl (zIn (by decide)) dX10_init_110 (fun _ => rfl) (fun f17 H locs ef17 hP hD hS => ?_)
  refine lv_dup hx hb dX10_init_111 rfl ?_
  refine lv_bipush (v := 12) hx hb dX10_init_112 (by decide) ?_
  refine lv_bipush (v := 105) hx hb dX10_init_114 (by decide) ?_
  refine z_iastN (W1 := fun f18 => [(h0, .inr (8, [.ref q1, .ref q2, .int 0, .ref q3, .int 0, .int 0, .int 0, .int 0, .ref q4, .int 0, .null, .null, .int 0, .int 0, .int 0, .int 0, .null, .int 0, .int 0, .long 0])), (q1, .inl (zI g, 3217, .inl (fun _ => 0))), (q2, .inl (zI g, 12868, .inl (fun _ => 0))), (q3, .inl (zI g, 600, .inl (fun _ => 0))), (q4, .inl (zI g, 200, .inl (fun _ => 0))), (q5, .inl (zI g, 118, .inl f18))]) F hP hD hS 5 rfl (zIn (by decide)) dX10_init_116 (fun _ => rfl) (fun f18 H locs ef18 hP hD hS => ?_)
  refine lv_dup hx hb dX10_init_117 rfl ?_
  refine lv_bipush (v := 13) hx hb dX10_init_118 (by decide) ?_
  refine lv_bipush (v := 110) hx hb dX10_init_120 (by decide) ?_
  refine z_iastN (W1 := fun f19 => [(h0, .inr (8, [.ref q1, .ref q2, .int 0, .ref q3, .int 0, .int 0, .int 0, .int 0, .ref q4, .int 0, .null, .null, .int 0, .int 0, .int 0, .int 0, .null, .int 0, .int 0, .long 0])), (q1, .inl (zI g, 3217, .inl (fun _ => 0))), (q2, .inl (zI g, 12868, .inl (fun _ => 0))), (q3, .inl (zI g, 600, .inl (fun _ => 0))), (q4, .inl (zI g, 200, .inl (fun _ => 0))), (q5, .inl (zI g, 118, .inl f19))]) F hP hD hS 5 rfl (zIn (by decide)) dX10_init_122 (fun _ => rfl) (fun f19 H locs ef19 hP hD hS => ?_)
  refine lv_dup hx hb dX10_init_123 rfl ?_
  refine lv_bipush (v := 14) hx hb dX10_init_124 (by decide) ?_
  refine lv_bipush (v := 103) hx hb dX10_init_126 (by decide) ?_
  refine z_iastN (W1 := fun f20 => [(h0, .inr (8, [.ref q1, .ref q2, .int 0, .ref q3, .int 0, .int 0, .int 0, .int 0, .ref q4, .int 0, .null, .null, .int 0, .int 0, .int 0, .int 0, .null, .int 0, .int 0, .long 0])), (q1, .inl (zI g, 3217, .inl (fun _ => 0))), (q2, .inl (zI g, 12868, .inl (fun _ => 0))), (q3, .inl (zI g, 600, .inl (fun _ => 0))), (q4, .inl (zI g, 200, .inl (fun _ => 0))), (q5, .inl (zI g, 118, .inl f20))]) F hP hD hS 5 rfl (zIn (by decide)) dX10_init_128 (fun _ => rfl) (fun f20 H locs ef20 hP hD hS => ?_)
  refine lv_dup hx hb dX10_init_129 rfl ?_
  refine lv_bipush (v := 15) hx hb dX10_init_130 (by decide) ?_
  refine lv_bipush (v := 32) hx hb dX10_init_132 (by decide) ?_
  refine z_iastN (W1 := fun f21 => [(h0, .inr (8, [.ref q1, .ref q2, .int 0, .ref q3, .int 0, .int 0, .int 0, .int 0, .ref q4, .int 0, .null, .null, .int 0, .int 0, .int 0, .int 0, .null, .int 0, .int 0, .long 0])), (q1, .inl (zI g, 3217, .inl (fun _ => 0))), (q2, .inl (zI g, 12868, .inl (fun _ => 0))), (q3, .inl (zI g, 600, .inl (fun _ => 0))), (q4, .inl (zI g, 200, .inl (fun _ => 0))), (q5, .inl (zI g, 118, .inl f21))]) F hP hD hS 5 rfl (zIn (by decide)) dX10_init_134 (fun _ => rfl) (fun f21 H locs ef21 hP hD hS => ?_)
  refine lv_dup hx hb dX10_init_135 rfl ?_
  refine lv_bipush (v := 16) hx hb dX10_init_136 (by decide) ?_
  refine lv_bipush (v := 107) hx hb dX10_init_138 (by decide) ?_
  refine z_iastN (W1 := fun f22 => [(h0, .inr (8, [.ref q1, .ref q2, .int 0, .ref q3, .int 0, .int 0, .int 0, .int 0, .ref q4, .int 0, .null, .null, .int 0, .int 0, .int 0, .int 0, .null, .int 0, .int 0, .long 0])), (q1, .inl (zI g, 3217, .inl (fun _ => 0))), (q2, .inl (zI g, 12868, .inl (fun _ => 0))), (q3, .inl (zI g, 600, .inl (fun _ => 0))), (q4, .inl (zI g, 200, .inl (fun _ => 0))), (q5, .inl (zI g, 118, .inl f22))]) F hP hD hS 5 rfl (zIn (by decide)) dX10_init_140 (fun _ => rfl) (fun f22 H locs ef22 hP hD hS => ?_)
  refine lv_dup hx hb dX10_init_141 rfl ?_
  refine lv_bipush (v := 17) hx hb dX10_init_142 (by decide) ?_
  refine lv_bipush (v := 101) hx hb dX10_init_144 (by decide) ?_
  refine z_iastN (W1 := fun f23 => [(h0, .inr (8, [.ref q1, .ref q2, .int 0, .ref q3, .int 0, .int 0, .int 0, .int 0, .ref q4, .int 0, .null, .null, .int 0, .int 0, .int 0, .int 0, .null, .int 0, .int 0, .long 0])), (q1, .inl (zI g, 3217, .inl (fun _ => 0))), (q2, .inl (zI g, 12868, .inl (fun _ => 0))), (q3, .inl (zI g, 600, .inl (fun _ => 0))), (q4, .inl (zI g, 200, .inl (fun _ => 0))), (q5, .inl (zI g, 118, .inl f23))]) F hP hD hS 5 rfl (zIn (by decide)) dX10_init_146 (fun _ => rfl) (fun f23 H locs ef23 hP hD hS => ?_)
  refine lv_dup hx hb dX10_init_147 rfl ?_
  refine lv_bipush (v := 18) hx hb dX10_init_148 (by decide) ?_
  refine lv_bipush (v := 121) hx hb dX10_init_150 (by decide) ?_
  refine z_iastN (W1 := fun f24 => [(h0, .inr (8, [.ref q1, .ref q2, .int 0, .ref q3, .int 0, .int 0, .int 0, .int 0, .ref q4, .int 0, .null, .null, .int 0, .int 0, .int 0, .int 0, .null, .int 0, .int 0, .long 0])), (q1, .inl (zI g, 3217, .inl (fun _ => 0))), (q2, .inl (zI g, 12868, .inl (fun _ => 0))), (q3, .inl (zI g, 600, .inl (fun _ => 0))), (q4, .inl (zI g, 200, .inl (fun _ => 0))), (q5, .inl (zI g, 118, .inl f24))]) F hP hD hS 5 rfl (zIn (by decide)) dX10_init_152 (fun _ => rfl) (fun f24 H locs ef24 hP hD hS => ?_)
  refine lv_dup hx hb dX10_init_153 rfl ?_
  refine lv_bipush (v := 19) hx hb dX10_init_154 (by decide) ?_
  refine lv_bipush (v := 32) hx hb dX10_init_156 (by decide) ?_
  refine z_iastN (W1 := fun f25 => [(h0, .inr (8, [.ref q1, .ref q2, .int 0, .ref q3, .int 0, .int 0, .int 0, .int 0, .ref q4, .int 0, .null, .null, .int 0, .int 0, .int 0, .int 0, .null, .int 0, .int 0, .long 0])), (q1, .inl (zI g, 3217, .inl (fun _ => 0))), (q2, .inl (zI g, 12868, .inl (fun _ => 0))), (q3, .inl (zI g, 600, .inl (fun _ => 0))), (q4, .inl (zI g, 200, .inl (fun _ => 0))), (q5, .inl (zI g, 118, .inl f25))]) F hP hD hS 5 rfl (zIn (by decide)) dX10_init_158 (fun _ => rfl) (fun f25 H locs ef25 hP hD hS => ?_)
  refine lv_dup hx hb dX10_init_159 rfl ?_
  refine lv_bipush (v := 20) hx hb dX10_init_160 (by decide) ?_
  refine lv_bipush (v := 112) hx hb dX10_init_162 (by decide) ?_
  refine z_iastN (W1 := fun f26 => [(h0, .inr (8, [.ref q1, .ref q2, .int 0, .ref q3, .int 0, .int 0, .int 0, .int 0, .ref q4, .int 0, .null, .null, .int 0, .int 0, .int 0, .int 0, .null, .int 0, .int 0, .long 0])), (q1, .inl (zI g, 3217, .inl (fun _ => 0))), (q2, .inl (zI g, 12868, .inl (fun _ => 0))), (q3, .inl (zI g, 600, .inl (fun _ => 0))), (q4, .inl (zI g, 200, .inl (fun _ => 0))), (q5, .inl (zI g, 118, .inl f26))]) F hP hD hS 5 rfl (zIn (by decide)) dX10_init_164 (fun _ => rfl) (fun f26 H locs ef26 hP hD hS => ?_)
  refine lv_dup hx hb dX10_init_165 rfl ?_
  refine lv_bipush (v := 21) hx hb dX10_init_166 (by decide) ?_
  refine lv_bipush (v := 108) hx hb dX10_init_168 (by decide) ?_
  refine z_iastN (W1 := fun f27 => [(h0, .inr (8, [.ref q1, .ref q2, .int 0, .ref q3, .int 0, .int 0, .int 0, .int 0, .ref q4, .int 0, .null, .null, .int 0, .int 0, .int 0, .int 0, .null, .int 0, .int 0, .long 0])), (q1, .inl (zI g, 3217, .inl (fun _ => 0))), (q2, .inl (zI g, 12868, .inl (fun _ => 0))), (q3, .inl (zI g, 600, .inl (fun _ => 0))), (q4, .inl (zI g, 200, .inl (fun _ => 0))), (q5, .inl (zI g, 118, .inl f27))]) F hP hD hS 5 rfl (zIn (by decide)) dX10_init_170 (fun _ => rfl) (fun f27 H locs ef27 hP hD hS => ?_)
  refine lv_dup hx hb dX10_init_171 rfl ?_
  refine lv_bipush (v := 22) hx hb dX10_init_172 (by decide) ?_
  refine lv_bipush (v := 97) hx hb dX10_init_174 (by decide) ?_
  refine z_iastN (W1 := fun f28 => [(h0, .inr (8, [.ref q1, .ref q2, .int 0, .ref q3, .int 0, .int 0, .int 0, .int 0, .ref q4, .int 0, .null, .null, .int 0, .int 0, .int 0, .int 0, .null, .int 0, .int 0, .long 0])), (q1, .inl (zI g, 3217, .inl (fun _ => 0))), (q2, .inl (zI g, 12868, .inl (fun _ => 0))), (q3, .inl (zI g, 600, .inl (fun _ => 0))), (q4, .inl (zI g, 200, .inl (fun _ => 0))), (q5, .inl (zI g, 118, .inl f28))]) F hP hD hS 5 rfl (zIn (by decide)) dX10_init_176 (fun _ => rfl) (fun f28 H locs ef28 hP hD hS => ?_)
  refine lv_dup hx hb dX10_init_177 rfl ?_
  refine lv_bipush (v := 23) hx hb dX10_init_178 (by decide) ?_
  refine lv_bipush (v := 105) hx hb dX10_init_180 (by decide) ?_
  refine z_iastN (W1 := fun f29 => [(h0, .inr (8, [.ref q1, .ref q2, .int 0, .ref q3, .int 0, .int 0, .int 0, .int 0, .ref q4, .int 0, .null, .null, .int 0, .int 0, .int 0, .int 0, .null, .int 0, .int 0, .long 0])), (q1, .inl (zI g, 3217, .inl (fun _ => 0))), (q2, .inl (zI g, 12868, .inl (fun _ => 0))), (q3, .inl (zI g, 600, .inl (fun _ => 0))), (q4, .inl (zI g, 200, .inl (fun _ => 0))), (q5, .inl (zI g, 118, .inl f29))]) F hP hD hS 5 rfl (zIn (by decide)) dX10_init_182 (fun _ => rfl) (fun f29 H locs ef29 hP hD hS => ?_)
  refine lv_dup hx hb dX10_init_183 rfl ?_
  refine lv_bipush (v := 24) hx hb dX10_init_184 (by decide) ?_
  refine lv_bipush (v := 110) hx hb dX10_init_186 (by decide) ?_
  refine z_iastN (W1 := fun f30 => [(h0, .inr (8, [.ref q1, .ref q2, .int 0, .ref q3, .int 0, .int 0, .int 0, .int 0, .ref q4, .int 0, .null, .null, .int 0, .int 0, .int 0, .int 0, .null, .int 0, .int 0, .long 0])), (q1, .inl (zI g, 3217, .inl (fun _ => 0))), (q2, .inl (zI g, 12868, .inl (fun _ => 0))), (q3, .inl (zI g, 600, .inl (fun _ => 0))), (q4, .inl (zI g, 200, .inl (fun _ => 0))), (q5, .inl (zI g, 118, .inl f30))]) F hP hD hS 5 rfl (zIn (by decide)) dX10_init_188 (fun _ => rfl) (fun f30 H locs ef30 hP hD hS => ?_)
  refine lv_dup hx hb dX10_init_189 rfl ?_
  refine lv_bipush (v := 25) hx hb dX10_init_190 (by decide) ?_
  refine lv_bipush (v := 32) hx hb dX10_init_192 (by decide) ?_
  refine z_iastN (W1 := fun f31 => [(h0, .inr (8, [.ref q1, .ref q2, .int 0, .ref q3, .int 0, .int 0, .int 0, .int 0, .ref q4, .int 0, .null, .null, .int 0, .int 0, .int 0, .int 0, .null, .int 0, .int 0, .long 0])), (q1, .inl (zI g, 3217, .inl (fun _ => 0))), (q2, .inl (zI g, 12868, .inl (fun _ => 0))), (q3, .inl (zI g, 600, .inl (fun _ => 0))), (q4, .inl (zI g, 200, .inl (fun _ => 0))), (q5, .inl (zI g, 118, .inl f31))]) F hP hD hS 5 rfl (zIn (by decide)) dX10_init_194 (fun _ => rfl) (fun f31 H locs ef31 hP hD hS => ?_)
  refine lv_dup hx hb dX10_init_195 rfl ?_
  refine lv_bipush (v := 26) hx hb dX10_init_196 (by decide) ?_
  refine lv_bipush (v := 115) hx hb dX10_init_198 (by decide) ?_
  refine z_iastN (W1 := fun f32 => [(h0, .inr (8, [.ref q1, .ref q2, .int 0, .ref q3, .int 0, .int 0, .int 0, .int 0, .ref q4, .int 0, .null, .null, .int 0, .int 0, .int 0, .int 0, .null, .int 0, .int 0, .long 0])), (q1, .inl (zI g, 3217, .inl (fun _ => 0))), (q2, .inl (zI g, 12868, .inl (fun _ => 0))), (q3, .inl (zI g, 600, .inl (fun _ => 0))), (q4, .inl (zI g, 200, .inl (fun _ => 0))), (q5, .inl (zI g, 118, .inl f32))]) F hP hD hS 5 rfl (zIn (by decide)) dX10_init_200 (fun _ => rfl) (fun f32 H locs ef32 hP hD hS => ?_)
  refine lv_dup hx hb dX10_init_201 rfl ?_
  refine lv_bipush (v := 27) hx hb dX10_init_202 (by decide) ?_
  refine lv_bipush (v := 104) hx hb dX10_init_204 (by decide) ?_
  refine z_iastN (W1 := fun f33 => [(h0, .inr (8, [.ref q1, .ref q2, .int 0, .ref q3, .int 0, .int 0, .int 0, .int 0, .ref q4, .int 0, .null, .null, .int 0, .int 0, .int 0, .int 0, .null, .int 0, .int 0, .long 0])), (q1, .inl (zI g, 3217, .inl (fun _ => 0))), (q2, .inl (zI g, 12868, .inl (fun _ => 0))), (q3, .inl (zI g, 600, .inl (fun _ => 0))), (q4, .inl (zI g, 200, .inl (fun _ => 0))), (q5, .inl (zI g, 118, .inl f33))]) F hP hD hS 5 rfl (zIn (by decide)) dX10_init_206 (fun _ => rfl) (fun f33 H locs ef33 hP hD hS => ?_)
  refine lv_dup hx hb dX10_init_207 rfl ?_
  refine lv_bipush (v := 28) hx hb dX10_init_208 (by decide) ?_
  refine lv_bipush (v := 97) hx hb dX10_init_210 (by decide) ?_
  refine z_iastN (W1 := fun f34 => [(h0, .inr (8, [.ref q1, .ref q2, .int 0, .ref q3, .int 0, .int 0, .int 0, .int 0, .ref q4, .int 0, .null, .null, .int 0, .int 0, .int 0, .int 0, .null, .int 0, .int 0, .long 0])), (q1, .inl (zI g, 3217, .inl (fun _ => 0))), (q2, .inl (zI g, 12868, .inl (fun _ => 0))), (q3, .inl (zI g, 600, .inl (fun _ => 0))), (q4, .inl (zI g, 200, .inl (fun _ => 0))), (q5, .inl (zI g, 118, .inl f34))]) F hP hD hS 5 rfl (zIn (by decide)) dX10_init_212 (fun _ => rfl) (fun f34 H locs ef34 hP hD hS => ?_)
  refine lv_dup hx hb dX10_init_213 rfl ?_
  refine lv_bipush (v := 29) hx hb dX10_init_214 (by decide) ?_
  refine lv_bipush (v := 114) hx hb dX10_init_216 (by decide) ?_
  refine z_iastN (W1 := fun f35 => [(h0, .inr (8, [.ref q1, .ref q2, .int 0, .ref q3, .int 0, .int 0, .int 0, .int 0, .ref q4, .int 0, .null, .null, .int 0, .int 0, .int 0, .int 0, .null, .int 0, .int 0, .long 0])), (q1, .inl (zI g, 3217, .inl (fun _ => 0))), (q2, .inl (zI g, 12868, .inl (fun _ => 0))), (q3, .inl (zI g, 600, .inl (fun _ => 0))), (q4, .inl (zI g, 200, .inl (fun _ => 0))), (q5, .inl (zI g, 118, .inl f35))]) F hP hD hS 5 rfl (zIn (by decide)) dX10_init_218 (fun _ => rfl) (fun f35 H locs ef35 hP hD hS => ?_)
  refine lv_dup hx hb dX10_init_219 rfl ?_
  refine lv_bipush (v := 30) hx hb dX10_init_220 (by decide) ?_
  refine lv_bipush (v := 112) hx hb dX10_init_222 (by decide) ?_
  refine z_iastN (W1 := fun f36 => [(h0, .inr (8, [.ref q1, .ref q2, .int 0, .ref q3, .int 0, .int 0, .int 0, .int 0, .ref q4, .int 0, .null, .null, .int 0, .int 0, .int 0, .int 0, .null, .int 0, .int 0, .long 0])), (q1, .inl (zI g, 3217, .inl (fun _ => 0))), (q2, .inl (zI g, 12868, .inl (fun _ => 0))), (q3, .inl (zI g, 600, .inl (fun _ => 0))), (q4, .inl (zI g, 200, .inl (fun _ => 0))), (q5, .inl (zI g, 118, .inl f36))]) F hP hD hS 5 rfl (zIn (by decide)) dX10_init_224 (fun _ => rfl) (fun f36 H locs ef36 hP hD hS => ?_)
  refine lv_dup hx hb dX10_init_225 rfl ?_
  refine lv_bipush (v := 31) hx hb dX10_init_226 (by decide) ?_
  refine lv_bipush (v := 32) hx hb dX10_init_228 (by decide) ?_
  refine z_iastN (W1 := fun f37 => [(h0, .inr (8, [.ref q1, .ref q2, .int 0, .ref q3, .int 0, .int 0, .int 0, .int 0, .ref q4, .int 0, .null, .null, .int 0, .int 0, .int 0, .int 0, .null, .int 0, .int 0, .long 0])), (q1, .inl (zI g, 3217, .inl (fun _ => 0))), (q2, .inl (zI g, 12868, .inl (fun _ => 0))), (q3, .inl (zI g, 600, .inl (fun _ => 0))), (q4, .inl (zI g, 200, .inl (fun _ => 0))), (q5, .inl (zI g, 118, .inl f37))]) F hP hD hS 5 rfl (zIn (by decide)) dX10_init_230 (fun _ => rfl) (fun f37 H locs ef37 hP hD hS => ?_)
  refine lv_dup hx hb dX10_init_231 rfl ?_
  refine lv_bipush (v := 32) hx hb dX10_init_232 (by decide) ?_
  refine lv_bipush (v := 102) hx hb dX10_init_234 (by decide) ?_
  refine z_iastN (W1 := fun f38 => [(h0, .inr (8, [.ref q1, .ref q2, .int 0, .ref q3, .int 0, .int 0, .int 0, .int 0, .ref q4, .int 0, .null, .null, .int 0, .int 0, .int 0, .int 0, .null, .int 0, .int 0, .long 0])), (q1, .inl (zI g, 3217, .inl (fun _ => 0))), (q2, .inl (zI g, 12868, .inl (fun _ => 0))), (q3, .inl (zI g, 600, .inl (fun _ => 0))), (q4, .inl (zI g, 200, .inl (fun _ => 0))), (q5, .inl (zI g, 118, .inl f38))]) F hP hD hS 5 rfl (zIn (by decide)) dX10_init_236 (fun _ => rfl) (fun f38 H locs ef38 hP hD hS => ?_)
  refine lv_dup hx hb dX10_init_237 rfl ?_
  refine lv_bipush (v := 33) hx hb dX10_init_238 (by decide) ?_
  refine lv_bipush (v := 108) hx hb dX10_init_240 (by decide) ?_
  refine z_iastN (W1 := fun f39 => [(h0, .inr (8, [.ref q1, .ref q2, .int 0, .ref q3, .int 0, .int 0, .int 0, .int 0, .ref q4, .int 0, .null, .null, .int 0, .int 0, .int 0, .int 0, .null, .int 0, .int 0, .long 0])), (q1, .inl (zI g, 3217, .inl (fun _ => 0))), (q2, .inl (zI g, 12868, .inl (fun _ => 0))), (q3, .inl (zI g, 600, .inl (fun _ => 0))), (q4, .inl (zI g, 200, .inl (fun _ => 0))), (q5, .inl (zI g, 118, .inl f39))]) F hP hD hS 5 rfl (zIn (by decide)) dX10_init_242 (fun _ => rfl) (fun f39 H locs ef39 hP hD hS => ?_)
  refine lv_dup hx hb dX10_init_243 rfl ?_
  refine lv_bipush (v := 34) hx hb dX10_init_244 (by decide) ?_
  refine lv_bipush (v := 97) hx hb dX10_init_246 (by decide) ?_
  refine z_iastN (W1 := fun f40 => [(h0, .inr (8, [.ref q1, .ref q2, .int 0, .ref q3, .int 0, .int 0, .int 0, .int 0, .ref q4, .int 0, .null, .null, .int 0, .int 0, .int 0, .int 0, .null, .int 0, .int 0, .long 0])), (q1, .inl (zI g, 3217, .inl (fun _ => 0))), (q2, .inl (zI g, 12868, .inl (fun _ => 0))), (q3, .inl (zI g, 600, .inl (fun _ => 0))), (q4, .inl (zI g, 200, .inl (fun _ => 0))), (q5, .inl (zI g, 118, .inl f40))]) F hP hD hS 5 rfl (zIn (by decide)) dX10_init_248 (fun _ => rfl) (fun f40 H locs ef40 hP hD hS => ?_)
  refine lv_dup hx hb dX10_init_249 rfl ?_
  refine lv_bipush (v := 35) hx hb dX10_init_250 (by decide) ?_
  refine lv_bipush (v := 116) hx hb dX10_init_252 (by decide) ?_
  refine z_iastN (W1 := fun f41 => [(h0, .inr (8, [.ref q1, .ref q2, .int 0, .ref q3, .int 0, .int 0, .int 0, .int 0, .ref q4, .int 0, .null, .null, .int 0, .int 0, .int 0, .int 0, .null, .int 0, .int 0, .long 0])), (q1, .inl (zI g, 3217, .inl (fun _ => 0))), (q2, .inl (zI g, 12868, .inl (fun _ => 0))), (q3, .inl (zI g, 600, .inl (fun _ => 0))), (q4, .inl (zI g, 200, .inl (fun _ => 0))), (q5, .inl (zI g, 118, .inl f41))]) F hP hD hS 5 rfl (zIn (by decide)) dX10_init_254 (fun _ => rfl) (fun f41 H locs ef41 hP hD hS => ?_)
  refine lv_dup hx hb dX10_init_255 rfl ?_
  refine lv_bipush (v := 36) hx hb dX10_init_256 (by decide) ?_
  refine lv_bipush (v := 32) hx hb dX10_init_258 (by decide) ?_
  refine z_iastN (W1 := fun f42 => [(h0, .inr (8, [.ref q1, .ref q2, .int 0, .ref q3, .int 0, .int 0, .int 0, .int 0, .ref q4, .int 0, .null, .null, .int 0, .int 0, .int 0, .int 0, .null, .int 0, .int 0, .long 0])), (q1, .inl (zI g, 3217, .inl (fun _ => 0))), (q2, .inl (zI g, 12868, .inl (fun _ => 0))), (q3, .inl (zI g, 600, .inl (fun _ => 0))), (q4, .inl (zI g, 200, .inl (fun _ => 0))), (q5, .inl (zI g, 118, .inl f42))]) F hP hD hS 5 rfl (zIn (by decide)) dX10_init_260 (fun _ => rfl) (fun f42 H locs ef42 hP hD hS => ?_)
  refine lv_dup hx hb dX10_init_261 rfl ?_
  refine lv_bipush (v := 37) hx hb dX10_init_262 (by decide) ?_
  refine lv_bipush (v := 110) hx hb dX10_init_264 (by decide) ?_
  refine z_iastN (W1 := fun f43 => [(h0, .inr (8, [.ref q1, .ref q2, .int 0, .ref q3, .int 0, .int 0, .int 0, .int 0, .ref q4, .int 0, .null, .null, .int 0, .int 0, .int 0, .int 0, .null, .int 0, .int 0, .long 0])), (q1, .inl (zI g, 3217, .inl (fun _ => 0))), (q2, .inl (zI g, 12868, .inl (fun _ => 0))), (q3, .inl (zI g, 600, .inl (fun _ => 0))), (q4, .inl (zI g, 200, .inl (fun _ => 0))), (q5, .inl (zI g, 118, .inl f43))]) F hP hD hS 5 rfl (zIn (by decide)) dX10_init_266 (fun _ => rfl) (fun f43 H locs ef43 hP hD hS => ?_)
  refine lv_dup hx hb dX10_init_267 rfl ?_
  refine lv_bipush (v := 38) hx hb dX10_init_268 (by decide) ?_
  refine lv_bipush (v := 97) hx hb dX10_init_270 (by decide) ?_
  refine z_iastN (W1 := fun f44 => [(h0, .inr (8, [.ref q1, .ref q2, .int 0, .ref q3, .int 0, .int 0, .int 0, .int 0, .ref q4, .int 0, .null, .null, .int 0, .int 0, .int 0, .int 0, .null, .int 0, .int 0, .long 0])), (q1, .inl (zI g, 3217, .inl (fun _ => 0))), (q2, .inl (zI g, 12868, .inl (fun _ => 0))), (q3, .inl (zI g, 600, .inl (fun _ => 0))), (q4, .inl (zI g, 200, .inl (fun _ => 0))), (q5, .inl (zI g, 118, .inl f44))]) F hP hD hS 5 rfl (zIn (by decide)) dX10_init_272 (fun _ => rfl) (fun f44 H locs ef44 hP hD hS => ?_)
  refine lv_dup hx hb dX10_init_273 rfl ?_
  refine lv_bipush (v := 39) hx hb dX10_init_274 (by decide) ?_
  refine lv_bipush (v := 116) hx hb dX10_init_276 (by decide) ?_
  refine z_iastN (W1 := fun f45 => [(h0, .inr (8, [.ref q1, .ref q2, .int 0, .ref q3, .int 0, .int 0, .int 0, .int 0, .ref q4, .int 0, .null, .null, .int 0, .int 0, .int 0, .int 0, .null, .int 0, .int 0, .long 0])), (q1, .inl (zI g, 3217, .inl (fun _ => 0))), (q2, .inl (zI g, 12868, .inl (fun _ => 0))), (q3, .inl (zI g, 600, .inl (fun _ => 0))), (q4, .inl (zI g, 200, .inl (fun _ => 0))), (q5, .inl (zI g, 118, .inl f45))]) F hP hD hS 5 rfl (zIn (by decide)) dX10_init_278 (fun _ => rfl) (fun f45 H locs ef45 hP hD hS => ?_)
  refine lv_dup hx hb dX10_init_279 rfl ?_
  refine lv_bipush (v := 40) hx hb dX10_init_280 (by decide) ?_
  refine lv_bipush (v := 117) hx hb dX10_init_282 (by decide) ?_
  refine z_iastN (W1 := fun f46 => [(h0, .inr (8, [.ref q1, .ref q2, .int 0, .ref q3, .int 0, .int 0, .int 0, .int 0, .ref q4, .int 0, .null, .null, .int 0, .int 0, .int 0, .int 0, .null, .int 0, .int 0, .long 0])), (q1, .inl (zI g, 3217, .inl (fun _ => 0))), (q2, .inl (zI g, 12868, .inl (fun _ => 0))), (q3, .inl (zI g, 600, .inl (fun _ => 0))), (q4, .inl (zI g, 200, .inl (fun _ => 0))), (q5, .inl (zI g, 118, .inl f46))]) F hP hD hS 5 rfl (zIn (by decide)) dX10_init_284 (fun _ => rfl) (fun f46 H locs ef46 hP hD hS => ?_)
  refine lv_dup hx hb dX10_init_285 rfl ?_
  refine lv_bipush (v := 41) hx hb dX10_init_286 (by decide) ?_
  refine lv_bipush (v := 114) hx hb dX10_init_288 (by decide) ?_
  refine z_iastN (W1 := fun f47 => [(h0, .inr (8, [.ref q1, .ref q2, .int 0, .ref q3, .int 0, .int 0, .int 0, .int 0, .ref q4, .int 0, .null, .null, .int 0, .int 0, .int 0, .int 0, .null, .int 0, .int 0, .long 0])), (q1, .inl (zI g, 3217, .inl (fun _ => 0))), (q2, .inl (zI g, 12868, .inl (fun _ => 0))), (q3, .inl (zI g, 600, .inl (fun _ => 0))), (q4, .inl (zI g, 200, .inl (fun _ => 0))), (q5, .inl (zI g, 118, .inl f47))]) F hP hD hS 5 rfl (zIn (by decide)) dX10_init_290 (fun _ => rfl) (fun f47 H locs ef47 hP hD hS => ?_)
  refine lv_dup hx hb dX10_init_291 rfl ?_
  refine lv_bipush (v := 42) hx hb dX10_init_292 (by decide) ?_
  refine lv_bipush (v := 97) hx hb dX10_init_294 (by decide) ?_
  refine z_iastN (W1 := fun f48 => [(h0, .inr (8, [.ref q1, .ref q2, .int 0, .ref q3, .int 0, .int 0, .int 0, .int 0, .ref q4, .int 0, .null, .null, .int 0, .int 0, .int 0, .int 0, .null, .int 0, .int 0, .long 0])), (q1, .inl (zI g, 3217, .inl (fun _ => 0))), (q2, .inl (zI g, 12868, .inl (fun _ => 0))), (q3, .inl (zI g, 600, .inl (fun _ => 0))), (q4, .inl (zI g, 200, .inl (fun _ => 0))), (q5, .inl (zI g, 118, .inl f48))]) F hP hD hS 5 rfl (zIn (by decide)) dX10_init_296 (fun _ => rfl) (fun f48 H locs ef48 hP hD hS => ?_)
  refine lv_dup hx hb dX10_init_297 rfl ?_
  refine lv_bipush (v := 43) hx hb dX10_init_298 (by decide) ?_
  refine lv_bipush (v := 108) hx hb dX10_init_300 (by decide) ?_
  refine z_iastN (W1 := fun f49 => [(h0, .inr (8, [.ref q1, .ref q2, .int 0, .ref q3, .int 0, .int 0, .int 0, .int 0, .ref q4, .int 0, .null, .null, .int 0, .int 0, .int 0, .int 0, .null, .int 0, .int 0, .long 0])), (q1, .inl (zI g, 3217, .inl (fun _ => 0))), (q2, .inl (zI g, 12868, .inl (fun _ => 0))), (q3, .inl (zI g, 600, .inl (fun _ => 0))), (q4, .inl (zI g, 200, .inl (fun _ => 0))), (q5, .inl (zI g, 118, .inl f49))]) F hP hD hS 5 rfl (zIn (by decide)) dX10_init_302 (fun _ => rfl) (fun f49 H locs ef49 hP hD hS => ?_)
  refine lv_dup hx hb dX10_init_303 rfl ?_
  refine lv_bipush (v := 44) hx hb dX10_init_304 (by decide) ?_
  refine lv_bipush (v := 32) hx hb dX10_init_306 (by decide) ?_
  refine z_iastN (W1 := fun f50 => [(h0, .inr (8, [.ref q1, .ref q2, .int 0, .ref q3, .int 0, .int 0, .int 0, .int 0, .ref q4, .int 0, .null, .null, .int 0, .int 0, .int 0, .int 0, .null, .int 0, .int 0, .long 0])), (q1, .inl (zI g, 3217, .inl (fun _ => 0))), (q2, .inl (zI g, 12868, .inl (fun _ => 0))), (q3, .inl (zI g, 600, .inl (fun _ => 0))), (q4, .inl (zI g, 200, .inl (fun _ => 0))), (q5, .inl (zI g, 118, .inl f50))]) F hP hD hS 5 rfl (zIn (by decide)) dX10_init_308 (fun _ => rfl) (fun f50 H locs ef50 hP hD hS => ?_)
  refine lv_dup hx hb dX10_init_309 rfl ?_
  refine lv_bipush (v := 45) hx hb dX10_init_310 (by decide) ?_
  refine lv_bipush (v := 116) hx hb dX10_init_312 (by decide) ?_
  refine z_iastN (W1 := fun f51 => [(h0, .inr (8, [.ref q1, .ref q2, .int 0, .ref q3, .int 0, .int 0, .int 0, .int 0, .ref q4, .int 0, .null, .null, .int 0, .int 0, .int 0, .int 0, .null, .int 0, .int 0, .long 0])), (q1, .inl (zI g, 3217, .inl (fun _ => 0))), (q2, .inl (zI g, 12868, .inl (fun _ => 0))), (q3, .inl (zI g, 600, .inl (fun _ => 0))), (q4, .inl (zI g, 200, .inl (fun _ => 0))), (q5, .inl (zI g, 118, .inl f51))]) F hP hD hS 5 rfl (zIn (by decide)) dX10_init_314 (fun _ => rfl) (fun f51 H locs ef51 hP hD hS => ?_)
  refine lv_dup hx hb dX10_init_315 rfl ?_
  refine lv_bipush (v := 46) hx hb dX10_init_316 (by decide) ?_
  refine lv_bipush (v := 105) hx hb dX10_init_318 (by decide) ?_
  refine z_iastN (W1 := fun f52 => [(h0, .inr (8, [.ref q1, .ref q2, .int 0, .ref q3, .int 0, .int 0, .int 0, .int 0, .ref q4, .int 0, .null, .null, .int 0, .int 0, .int 0, .int 0, .null, .int 0, .int 0, .long 0])), (q1, .inl (zI g, 3217, .inl (fun _ => 0))), (q2, .inl (zI g, 12868, .inl (fun _ => 0))), (q3, .inl (zI g, 600, .inl (fun _ => 0))), (q4, .inl (zI g, 200, .inl (fun _ => 0))), (q5, .inl (zI g, 118, .inl f52))]) F hP hD hS 5 rfl (zIn (by decide)) dX10_init_320 (fun _ => rfl) (fun f52 H locs ef52 hP hD hS => ?_)
  refine lv_dup hx hb dX10_init_321 rfl ?_
  refine lv_bipush (v := 47) hx hb dX10_init_322 (by decide) ?_
  refine lv_bipush (v := 109) hx hb dX10_init_324 (by decide) ?_
  refine z_iastN (W1 := fun f53 => [(h0, .inr (8, [.ref q1, .ref q2, .int 0, .ref q3, .int 0, .int 0, .int 0, .int 0, .ref q4, .int 0, .null, .null, .int 0, .int 0, .int 0, .int 0, .null, .int 0, .int 0, .long 0])), (q1, .inl (zI g, 3217, .inl (fun _ => 0))), (q2, .inl (zI g, 12868, .inl (fun _ => 0))), (q3, .inl (zI g, 600, .inl (fun _ => 0))), (q4, .inl (zI g, 200, .inl (fun _ => 0))), (q5, .inl (zI g, 118, .inl f53))]) F hP hD hS 5 rfl (zIn (by decide)) dX10_init_326 (fun _ => rfl) (fun f53 H locs ef53 hP hD hS => ?_)
  refine lv_dup hx hb dX10_init_327 rfl ?_
  refine lv_bipush (v := 48) hx hb dX10_init_328 (by decide) ?_
  refine lv_bipush (v := 101) hx hb dX10_init_330 (by decide) ?_
  refine z_iastN (W1 := fun f54 => [(h0, .inr (8, [.ref q1, .ref q2, .int 0, .ref q3, .int 0, .int 0, .int 0, .int 0, .ref q4, .int 0, .null, .null, .int 0, .int 0, .int 0, .int 0, .null, .int 0, .int 0, .long 0])), (q1, .inl (zI g, 3217, .inl (fun _ => 0))), (q2, .inl (zI g, 12868, .inl (fun _ => 0))), (q3, .inl (zI g, 600, .inl (fun _ => 0))), (q4, .inl (zI g, 200, .inl (fun _ => 0))), (q5, .inl (zI g, 118, .inl f54))]) F hP hD hS 5 rfl (zIn (by decide)) dX10_init_332 (fun _ => rfl) (fun f54 H locs ef54 hP hD hS => ?_)
  refine lv_dup hx hb dX10_init_333 rfl ?_
  refine lv_bipush (v := 49) hx hb dX10_init_334 (by decide) ?_
  refine lv_bipush (v := 32) hx hb dX10_init_336 (by decide) ?_
  refine z_iastN (W1 := fun f55 => [(h0, .inr (8, [.ref q1, .ref q2, .int 0, .ref q3, .int 0, .int 0, .int 0, .int 0, .ref q4, .int 0, .null, .null, .int 0, .int 0, .int 0, .int 0, .null, .int 0, .int 0, .long 0])), (q1, .inl (zI g, 3217, .inl (fun _ => 0))), (q2, .inl (zI g, 12868, .inl (fun _ => 0))), (q3, .inl (zI g, 600, .inl (fun _ => 0))), (q4, .inl (zI g, 200, .inl (fun _ => 0))), (q5, .inl (zI g, 118, .inl f55))]) F hP hD hS 5 rfl (zIn (by decide)) dX10_init_338 (fun _ => rfl) (fun f55 H locs ef55 hP hD hS => ?_)
  refine lv_dup hx hb dX10_init_339 rfl ?_
  refine lv_bipush (v := 50) hx hb dX10_init_340 (by decide) ?_
  refine lv_bipush (v := 118) hx hb dX10_init_342 (by decide) ?_
  refine z_iastN (W1 := fun f56 => [(h0, .inr (8, [.ref q1, .ref q2, .int 0, .ref q3, .int 0, .int 0, .int 0, .int 0, .ref q4, .int 0, .null, .null, .int 0, .int 0, .int 0, .int 0, .null, .int 0, .int 0, .long 0])), (q1, .inl (zI g, 3217, .inl (fun _ => 0))), (q2, .inl (zI g, 12868, .inl (fun _ => 0))), (q3, .inl (zI g, 600, .inl (fun _ => 0))), (q4, .inl (zI g, 200, .inl (fun _ => 0))), (q5, .inl (zI g, 118, .inl f56))]) F hP hD hS 5 rfl (zIn (by decide)) dX10_init_344 (fun _ => rfl) (fun f56 H locs ef56 hP hD hS => ?_)
  refine lv_dup hx hb dX10_init_345 rfl ?_
  refine lv_bipush (v := 51) hx hb dX10_init_346 (by decide) ?_
  refine lv_bipush (v := 111) hx hb dX10_init_348 (by decide) ?_
  refine z_iastN (W1 := fun f57 => [(h0, .inr (8, [.ref q1, .ref q2, .int 0, .ref q3, .int 0, .int 0, .int 0, .int 0, .ref q4, .int 0, .null, .null, .int 0, .int 0, .int 0, .int 0, .null, .int 0, .int 0, .long 0])), (q1, .inl (zI g, 3217, .inl (fun _ => 0))), (q2, .inl (zI g, 12868, .inl (fun _ => 0))), (q3, .inl (zI g, 600, .inl (fun _ => 0))), (q4, .inl (zI g, 200, .inl (fun _ => 0))), (q5, .inl (zI g, 118, .inl f57))]) F hP hD hS 5 rfl (zIn (by decide)) dX10_init_350 (fun _ => rfl) (fun f57 H locs ef57 hP hD hS => ?_)
  refine lv_dup hx hb dX10_init_351 rfl ?_
  refine lv_bipush (v := 52) hx hb dX10_init_352 (by decide) ?_
  refine lv_bipush (v := 105) hx hb dX10_init_354 (by decide) ?_
  refine z_iastN (W1 := fun f58 => [(h0, .inr (8, [.ref q1, .ref q2, .int 0, .ref q3, .int 0, .int 0, .int 0, .int 0, .ref q4, .int 0, .null, .null, .int 0, .int 0, .int 0, .int 0, .null, .int 0, .int 0, .long 0])), (q1, .inl (zI g, 3217, .inl (fun _ => 0))), (q2, .inl (zI g, 12868, .inl (fun _ => 0))), (q3, .inl (zI g, 600, .inl (fun _ => 0))), (q4, .inl (zI g, 200, .inl (fun _ => 0))), (q5, .inl (zI g, 118, .inl f58))]) F hP hD hS 5 rfl (zIn (by decide)) dX10_init_356 (fun _ => rfl) (fun f58 H locs ef58 hP hD hS => ?_)
  refine lv_dup hx hb dX10_init_357 rfl ?_
  refine lv_bipush (v := 53) hx hb dX10_init_358 (by decide) ?_
  refine lv_bipush (v := 99) hx hb dX10_init_360 (by decide) ?_
  refine z_iastN (W1 := fun f59 => [(h0, .inr (8, [.ref q1, .ref q2, .int 0, .ref q3, .int 0, .int 0, .int 0, .int 0, .ref q4, .int 0, .null, .null, .int 0, .int 0, .int 0, .int 0, .null, .int 0, .int 0, .long 0])), (q1, .inl (zI g, 3217, .inl (fun _ => 0))), (q2, .inl (zI g, 12868, .inl (fun _ => 0))), (q3, .inl (zI g, 600, .inl (fun _ => 0))), (q4, .inl (zI g, 200, .inl (fun _ => 0))), (q5, .inl (zI g, 118, .inl f59))]) F hP hD hS 5 rfl (zIn (by decide)) dX10_init_362 (fun _ => rfl) (fun f59 H locs ef59 hP hD hS => ?_)
  refine lv_dup hx hb dX10_init_363 rfl ?_
  refine lv_bipush (v := 54) hx hb dX10_init_364 (by decide) ?_
  refine lv_bipush (v := 101) hx hb dX10_init_366 (by decide) ?_
  refine z_iastN (W1 := fun f60 => [(h0, .inr (8, [.ref q1, .ref q2, .int 0, .ref q3, .int 0, .int 0, .int 0, .int 0, .ref q4, .int 0, .null, .null, .int 0, .int 0, .int 0, .int 0, .null, .int 0, .int 0, .long 0])), (q1, .inl (zI g, 3217, .inl (fun _ => 0))), (q2, .inl (zI g, 12868, .inl (fun _ => 0))), (q3, .inl (zI g, 600, .inl (fun _ => 0))), (q4, .inl (zI g, 200, .inl (fun _ => 0))), (q5, .inl (zI g, 118, .inl f60))]) F hP hD hS 5 rfl (zIn (by decide)) dX10_init_368 (fun _ => rfl) (fun f60 H locs ef60 hP hD hS => ?_)
  refine lv_dup hx hb dX10_init_369 rfl ?_
  refine lv_bipush (v := 55) hx hb dX10_init_370 (by decide) ?_
  refine lv_bipush (v := 32) hx hb dX10_init_372 (by decide) ?_
  refine z_iastN (W1 := fun f61 => [(h0, .inr (8, [.ref q1, .ref q2, .int 0, .ref q3, .int 0, .int 0, .int 0, .int 0, .ref q4, .int 0, .null, .null, .int 0, .int 0, .int 0, .int 0, .null, .int 0, .int 0, .long 0])), (q1, .inl (zI g, 3217, .inl (fun _ => 0))), (q2, .inl (zI g, 12868, .inl (fun _ => 0))), (q3, .inl (zI g, 600, .inl (fun _ => 0))), (q4, .inl (zI g, 200, .inl (fun _ => 0))), (q5, .inl (zI g, 118, .inl f61))]) F hP hD hS 5 rfl (zIn (by decide)) dX10_init_374 (fun _ => rfl) (fun f61 H locs ef61 hP hD hS => ?_)
  refine lv_dup hx hb dX10_init_375 rfl ?_
  refine lv_bipush (v := 56) hx hb dX10_init_376 (by decide) ?_
  refine lv_bipush (v := 114) hx hb dX10_init_378 (by decide) ?_
  refine z_iastN (W1 := fun f62 => [(h0, .inr (8, [.ref q1, .ref q2, .int 0, .ref q3, .int 0, .int 0, .int 0, .int 0, .ref q4, .int 0, .null, .null, .int 0, .int 0, .int 0, .int 0, .null, .int 0, .int 0, .long 0])), (q1, .inl (zI g, 3217, .inl (fun _ => 0))), (q2, .inl (zI g, 12868, .inl (fun _ => 0))), (q3, .inl (zI g, 600, .inl (fun _ => 0))), (q4, .inl (zI g, 200, .inl (fun _ => 0))), (q5, .inl (zI g, 118, .inl f62))]) F hP hD hS 5 rfl (zIn (by decide)) dX10_init_380 (fun _ => rfl) (fun f62 H locs ef62 hP hD hS => ?_)
  refine lv_dup hx hb dX10_init_381 rfl ?_
  refine lv_bipush (v := 57) hx hb dX10_init_382 (by decide) ?_
  refine lv_bipush (v := 101) hx hb dX10_init_384 (by decide) ?_
  refine z_iastN (W1 := fun f63 => [(h0, .inr (8, [.ref q1, .ref q2, .int 0, .ref q3, .int 0, .int 0, .int 0, .int 0, .ref q4, .int 0, .null, .null, .int 0, .int 0, .int 0, .int 0, .null, .int 0, .int 0, .long 0])), (q1, .inl (zI g, 3217, .inl (fun _ => 0))), (q2, .inl (zI g, 12868, .inl (fun _ => 0))), (q3, .inl (zI g, 600, .inl (fun _ => 0))), (q4, .inl (zI g, 200, .inl (fun _ => 0))), (q5, .inl (zI g, 118, .inl f63))]) F hP hD hS 5 rfl (zIn (by decide)) dX10_init_386 (fun _ => rfl) (fun f63 H locs ef63 hP hD hS => ?_)
  refine lv_dup hx hb dX10_init_387 rfl ?_
  refine lv_bipush (v := 58) hx hb dX10_init_388 (by decide) ?_
  refine lv_bipush (v := 115) hx hb dX10_init_390 (by decide) ?_
  refine z_iastN (W1 := fun f64 => [(h0, .inr (8, [.ref q1, .ref q2, .int 0, .ref q3, .int 0, .int 0, .int 0, .int 0, .ref q4, .int 0, .null, .null, .int 0, .int 0, .int 0, .int 0, .null, .int 0, .int 0, .long 0])), (q1, .inl (zI g, 3217, .inl (fun _ => 0))), (q2, .inl (zI g, 12868, .inl (fun _ => 0))), (q3, .inl (zI g, 600, .inl (fun _ => 0))), (q4, .inl (zI g, 200, .inl (fun _ => 0))), (q5, .inl (zI g, 118, .inl f64))]) F hP hD hS 5 rfl (zIn (by decide)) dX10_init_392 (fun _ => rfl) (fun f64 H locs ef64 hP hD hS => ?_)
  refine lv_dup hx hb dX10_init_393 rfl ?_
  refine lv_bipush (v := 59) hx hb dX10_init_394 (by decide) ?_
  refine lv_bipush (v := 116) hx hb dX10_init_396 (by decide) ?_
  refine z_iastN (W1 := fun f65 => [(h0, .inr (8, [.ref q1, .ref q2, .int 0, .ref q3, .int 0, .int 0, .int 0, .int 0, .ref q4, .int 0, .null, .null, .int 0, .int 0, .int 0, .int 0, .null, .int 0, .int 0, .long 0])), (q1, .inl (zI g, 3217, .inl (fun _ => 0))), (q2, .inl (zI g, 12868, .inl (fun _ => 0))), (q3, .inl (zI g, 600, .inl (fun _ => 0))), (q4, .inl (zI g, 200, .inl (fun _ => 0))), (q5, .inl (zI g, 118, .inl f65))]) F hP hD hS 5 rfl (zIn (by decide)) dX10_init_398 (fun _ => rfl) (fun f65 H locs ef65 hP hD hS => ?_)
  refine lv_dup hx hb dX10_init_399 rfl ?_
  refine lv_bipush (v := 60) hx hb dX10_init_400 (by decide) ?_
  refine lv_bipush (v := 32) hx hb dX10_init_402 (by decide) ?_
  refine z_iastN (W1 := fun f66 => [(h0, .inr (8, [.ref q1, .ref q2, .int 0, .ref q3, .int 0, .int 0, .int 0, .int 0, .ref q4, .int 0, .null, .null, .int 0, .int 0, .int 0, .int 0, .null, .int 0, .int 0, .long 0])), (q1, .inl (zI g, 3217, .inl (fun _ => 0))), (q2, .inl (zI g, 12868, .inl (fun _ => 0))), (q3, .inl (zI g, 600, .inl (fun _ => 0))), (q4, .inl (zI g, 200, .inl (fun _ => 0))), (q5, .inl (zI g, 118, .inl f66))]) F hP hD hS 5 rfl (zIn (by decide)) dX10_init_404 (fun _ => rfl) (fun f66 H locs ef66 hP hD hS => ?_)
  refine lv_dup hx hb dX10_init_405 rfl ?_
  refine lv_bipush (v := 61) hx hb dX10_init_406 (by decide) ?_
  refine lv_bipush (v := 100) hx hb dX10_init_408 (by decide) ?_
  refine z_iastN (W1 := fun f67 => [(h0, .inr (8, [.ref q1, .ref q2, .int 0, .ref q3, .int 0, .int 0, .int 0, .int 0, .ref q4, .int 0, .null, .null, .int 0, .int 0, .int 0, .int 0, .null, .int 0, .int 0, .long 0])), (q1, .inl (zI g, 3217, .inl (fun _ => 0))), (q2, .inl (zI g, 12868, .inl (fun _ => 0))), (q3, .inl (zI g, 600, .inl (fun _ => 0))), (q4, .inl (zI g, 200, .inl (fun _ => 0))), (q5, .inl (zI g, 118, .inl f67))]) F hP hD hS 5 rfl (zIn (by decide)) dX10_init_410 (fun _ => rfl) (fun f67 H locs ef67 hP hD hS => ?_)
  refine lv_dup hx hb dX10_init_411 rfl ?_
  refine lv_bipush (v := 62) hx hb dX10_init_412 (by decide) ?_
  refine lv_bipush (v := 111) hx hb dX10_init_414 (by decide) ?_
  refine z_iastN (W1 := fun f68 => [(h0, .inr (8, [.ref q1, .ref q2, .int 0, .ref q3, .int 0, .int 0, .int 0, .int 0, .ref q4, .int 0, .null, .null, .int 0, .int 0, .int 0, .int 0, .null, .int 0, .int 0, .long 0])), (q1, .inl (zI g, 3217, .inl (fun _ => 0))), (q2, .inl (zI g, 12868, .inl (fun _ => 0))), (q3, .inl (zI g, 600, .inl (fun _ => 0))), (q4, .inl (zI g, 200, .inl (fun _ => 0))), (q5, .inl (zI g, 118, .inl f68))]) F hP hD hS 5 rfl (zIn (by decide)) dX10_init_416 (fun _ => rfl) (fun f68 H locs ef68 hP hD hS => ?_)
  refine lv_dup hx hb dX10_init_417 rfl ?_
  refine lv_bipush (v := 63) hx hb dX10_init_418 (by decide) ?_
  refine lv_bipush (v := 116) hx hb dX10_init_420 (by decide) ?_
  refine z_iastN (W1 := fun f69 => [(h0, .inr (8, [.ref q1, .ref q2, .int 0, .ref q3, .int 0, .int 0, .int 0, .int 0, .ref q4, .int 0, .null, .null, .int 0, .int 0, .int 0, .int 0, .null, .int 0, .int 0, .long 0])), (q1, .inl (zI g, 3217, .inl (fun _ => 0))), (q2, .inl (zI g, 12868, .inl (fun _ => 0))), (q3, .inl (zI g, 600, .inl (fun _ => 0))), (q4, .inl (zI g, 200, .inl (fun _ => 0))), (q5, .inl (zI g, 118, .inl f69))]) F hP hD hS 5 rfl (zIn (by decide)) dX10_init_422 (fun _ => rfl) (fun f69 H locs ef69 hP hD hS => ?_)
  refine lv_dup hx hb dX10_init_423 rfl ?_
  refine lv_bipush (v := 64) hx hb dX10_init_424 (by decide) ?_
  refine lv_bipush (v := 116) hx hb dX10_init_426 (by decide) ?_
  refine z_iastN (W1 := fun f70 => [(h0, .inr (8, [.ref q1, .ref q2, .int 0, .ref q3, .int 0, .int 0, .int 0, .int 0, .ref q4, .int 0, .null, .null, .int 0, .int 0, .int 0, .int 0, .null, .int 0, .int 0, .long 0])), (q1, .inl (zI g, 3217, .inl (fun _ => 0))), (q2, .inl (zI g, 12868, .inl (fun _ => 0))), (q3, .inl (zI g, 600, .inl (fun _ => 0))), (q4, .inl (zI g, 200, .inl (fun _ => 0))), (q5, .inl (zI g, 118, .inl f70))]) F hP hD hS 5 rfl (zIn (by decide)) dX10_init_428 (fun _ => rfl) (fun f70 H locs ef70 hP hD hS => ?_)
  refine lv_dup hx hb dX10_init_429 rfl ?_
  refine lv_bipush (v := 65) hx hb dX10_init_430 (by decide) ?_
  refine lv_bipush (v := 101) hx hb dX10_init_432 (by decide) ?_
  refine z_iastN (W1 := fun f71 => [(h0, .inr (8, [.ref q1, .ref q2, .int 0, .ref q3, .int 0, .int 0, .int 0, .int 0, .ref q4, .int 0, .null, .null, .int 0, .int 0, .int 0, .int 0, .null, .int 0, .int 0, .long 0])), (q1, .inl (zI g, 3217, .inl (fun _ => 0))), (q2, .inl (zI g, 12868, .inl (fun _ => 0))), (q3, .inl (zI g, 600, .inl (fun _ => 0))), (q4, .inl (zI g, 200, .inl (fun _ => 0))), (q5, .inl (zI g, 118, .inl f71))]) F hP hD hS 5 rfl (zIn (by decide)) dX10_init_434 (fun _ => rfl) (fun f71 H locs ef71 hP hD hS => ?_)
  refine lv_dup hx hb dX10_init_435 rfl ?_
  refine lv_bipush (v := 66) hx hb dX10_init_436 (by decide) ?_
  refine lv_bipush (v := 100) hx hb dX10_init_438 (by decide) ?_
  refine z_iastN (W1 := fun f72 => [(h0, .inr (8, [.ref q1, .ref q2, .int 0, .ref q3, .int 0, .int 0, .int 0, .int 0, .ref q4, .int 0, .null, .null, .int 0, .int 0, .int 0, .int 0, .null, .int 0, .int 0, .long 0])), (q1, .inl (zI g, 3217, .inl (fun _ => 0))), (q2, .inl (zI g, 12868, .inl (fun _ => 0))), (q3, .inl (zI g, 600, .inl (fun _ => 0))), (q4, .inl (zI g, 200, .inl (fun _ => 0))), (q5, .inl (zI g, 118, .inl f72))]) F hP hD hS 5 rfl (zIn (by decide)) dX10_init_440 (fun _ => rfl) (fun f72 H locs ef72 hP hD hS => ?_)
  refine lv_dup hx hb dX10_init_441 rfl ?_
  refine lv_bipush (v := 67) hx hb dX10_init_442 (by decide) ?_
  refine lv_bipush (v := 32) hx hb dX10_init_444 (by decide) ?_
  refine z_iastN (W1 := fun f73 => [(h0, .inr (8, [.ref q1, .ref q2, .int 0, .ref q3, .int 0, .int 0, .int 0, .int 0, .ref q4, .int 0, .null, .null, .int 0, .int 0, .int 0, .int 0, .null, .int 0, .int 0, .long 0])), (q1, .inl (zI g, 3217, .inl (fun _ => 0))), (q2, .inl (zI g, 12868, .inl (fun _ => 0))), (q3, .inl (zI g, 600, .inl (fun _ => 0))), (q4, .inl (zI g, 200, .inl (fun _ => 0))), (q5, .inl (zI g, 118, .inl f73))]) F hP hD hS 5 rfl (zIn (by decide)) dX10_init_446 (fun _ => rfl) (fun f73 H locs ef73 hP hD hS => ?_)
  refine lv_dup hx hb dX10_init_447 rfl ?_
  refine lv_bipush (v := 68) hx hb dX10_init_448 (by decide) ?_
  refine lv_bipush (v := 119) hx hb dX10_init_450 (by decide) ?_
  refine z_iastN (W1 := fun f74 => [(h0, .inr (8, [.ref q1, .ref q2, .int 0, .ref q3, .int 0, .int 0, .int 0, .int 0, .ref q4, .int 0, .null, .null, .int 0, .int 0, .int 0, .int 0, .null, .int 0, .int 0, .long 0])), (q1, .inl (zI g, 3217, .inl (fun _ => 0))), (q2, .inl (zI g, 12868, .inl (fun _ => 0))), (q3, .inl (zI g, 600, .inl (fun _ => 0))), (q4, .inl (zI g, 200, .inl (fun _ => 0))), (q5, .inl (zI g, 118, .inl f74))]) F hP hD hS 5 rfl (zIn (by decide)) dX10_init_452 (fun _ => rfl) (fun f74 H locs ef74 hP hD hS => ?_)
  refine lv_dup hx hb dX10_init_453 rfl ?_
  refine lv_bipush (v := 69) hx hb dX10_init_454 (by decide) ?_
  refine lv_bipush (v := 104) hx hb dX10_init_456 (by decide) ?_
  refine z_iastN (W1 := fun f75 => [(h0, .inr (8, [.ref q1, .ref q2, .int 0, .ref q3, .int 0, .int 0, .int 0, .int 0, .ref q4, .int 0, .null, .null, .int 0, .int 0, .int 0, .int 0, .null, .int 0, .int 0, .long 0])), (q1, .inl (zI g, 3217, .inl (fun _ => 0))), (q2, .inl (zI g, 12868, .inl (fun _ => 0))), (q3, .inl (zI g, 600, .inl (fun _ => 0))), (q4, .inl (zI g, 200, .inl (fun _ => 0))), (q5, .inl (zI g, 118, .inl f75))]) F hP hD hS 5 rfl (zIn (by decide)) dX10_init_458 (fun _ => rfl) (fun f75 H locs ef75 hP hD hS => ?_)
  refine lv_dup hx hb dX10_init_459 rfl ?_
  refine lv_bipush (v := 70) hx hb dX10_init_460 (by decide) ?_
  refine lv_bipush (v := 111) hx hb dX10_init_462 (by decide) ?_
  refine z_iastN (W1 := fun f76 => [(h0, .inr (8, [.ref q1, .ref q2, .int 0, .ref q3, .int 0, .int 0, .int 0, .int 0, .ref q4, .int 0, .null, .null, .int 0, .int 0, .int 0, .int 0, .null, .int 0, .int 0, .long 0])), (q1, .inl (zI g, 3217, .inl (fun _ => 0))), (q2, .inl (zI g, 12868, .inl (fun _ => 0))), (q3, .inl (zI g, 600, .inl (fun _ => 0))), (q4, .inl (zI g, 200, .inl (fun _ => 0))), (q5, .inl (zI g, 118, .inl f76))]) F hP hD hS 5 rfl (zIn (by decide)) dX10_init_464 (fun _ => rfl) (fun f76 H locs ef76 hP hD hS => ?_)
  refine lv_dup hx hb dX10_init_465 rfl ?_
  refine lv_bipush (v := 71) hx hb dX10_init_466 (by decide) ?_
  refine lv_bipush (v := 108) hx hb dX10_init_468 (by decide) ?_
  refine z_iastN (W1 := fun f77 => [(h0, .inr (8, [.ref q1, .ref q2, .int 0, .ref q3, .int 0, .int 0, .int 0, .int 0, .ref q4, .int 0, .null, .null, .int 0, .int 0, .int 0, .int 0, .null, .int 0, .int 0, .long 0])), (q1, .inl (zI g, 3217, .inl (fun _ => 0))), (q2, .inl (zI g, 12868, .inl (fun _ => 0))), (q3, .inl (zI g, 600, .inl (fun _ => 0))), (q4, .inl (zI g, 200, .inl (fun _ => 0))), (q5, .inl (zI g, 118, .inl f77))]) F hP hD hS 5 rfl (zIn (by decide)) dX10_init_470 (fun _ => rfl) (fun f77 H locs ef77 hP hD hS => ?_)
  refine lv_dup hx hb dX10_init_471 rfl ?_
  refine lv_bipush (v := 72) hx hb dX10_init_472 (by decide) ?_
  refine lv_bipush (v := 101) hx hb dX10_init_474 (by decide) ?_
  refine z_iastN (W1 := fun f78 => [(h0, .inr (8, [.ref q1, .ref q2, .int 0, .ref q3, .int 0, .int 0, .int 0, .int 0, .ref q4, .int 0, .null, .null, .int 0, .int 0, .int 0, .int 0, .null, .int 0, .int 0, .long 0])), (q1, .inl (zI g, 3217, .inl (fun _ => 0))), (q2, .inl (zI g, 12868, .inl (fun _ => 0))), (q3, .inl (zI g, 600, .inl (fun _ => 0))), (q4, .inl (zI g, 200, .inl (fun _ => 0))), (q5, .inl (zI g, 118, .inl f78))]) F hP hD hS 5 rfl (zIn (by decide)) dX10_init_476 (fun _ => rfl) (fun f78 H locs ef78 hP hD hS => ?_)
  refine lv_dup hx hb dX10_init_477 rfl ?_
  refine lv_bipush (v := 73) hx hb dX10_init_478 (by decide) ?_
  refine lv_bipush (v := 32) hx hb dX10_init_480 (by decide) ?_
  refine z_iastN (W1 := fun f79 => [(h0, .inr (8, [.ref q1, .ref q2, .int 0, .ref q3, .int 0, .int 0, .int 0, .int 0, .ref q4, .int 0, .null, .null, .int 0, .int 0, .int 0, .int 0, .null, .int 0, .int 0, .long 0])), (q1, .inl (zI g, 3217, .inl (fun _ => 0))), (q2, .inl (zI g, 12868, .inl (fun _ => 0))), (q3, .inl (zI g, 600, .inl (fun _ => 0))), (q4, .inl (zI g, 200, .inl (fun _ => 0))), (q5, .inl (zI g, 118, .inl f79))]) F hP hD hS 5 rfl (zIn (by decide)) dX10_init_482 (fun _ => rfl) (fun f79 H locs ef79 hP hD hS => ?_)
  refine lv_dup hx hb dX10_init_483 rfl ?_
  refine lv_bipush (v := 74) hx hb dX10_init_484 (by decide) ?_
  refine lv_bipush (v := 104) hx hb dX10_init_486 (by decide) ?_
  refine z_iastN (W1 := fun f80 => [(h0, .inr (8, [.ref q1, .ref q2, .int 0, .ref q3, .int 0, .int 0, .int 0, .int 0, .ref q4, .int 0, .null, .null, .int 0, .int 0, .int 0, .int 0, .null, .int 0, .int 0, .long 0])), (q1, .inl (zI g, 3217, .inl (fun _ => 0))), (q2, .inl (zI g, 12868, .inl (fun _ => 0))), (q3, .inl (zI g, 600, .inl (fun _ => 0))), (q4, .inl (zI g, 200, .inl (fun _ => 0))), (q5, .inl (zI g, 118, .inl f80))]) F hP hD hS 5 rfl (zIn (by decide)) dX10_init_488 (fun _ => rfl) (fun f80 H locs ef80 hP hD hS => ?_)
  refine lv_dup hx hb dX10_init_489 rfl ?_
  refine lv_bipush (v := 75) hx hb dX10_init_490 (by decide) ?_
  refine lv_bipush (v := 97) hx hb dX10_init_492 (by decide) ?_
  refine z_iastN (W1 := fun f81 => [(h0, .inr (8, [.ref q1, .ref q2, .int 0, .ref q3, .int 0, .int 0, .int 0, .int 0, .ref q4, .int 0, .null, .null, .int 0, .int 0, .int 0, .int 0, .null, .int 0, .int 0, .long 0])), (q1, .inl (zI g, 3217, .inl (fun _ => 0))), (q2, .inl (zI g, 12868, .inl (fun _ => 0))), (q3, .inl (zI g, 600, .inl (fun _ => 0))), (q4, .inl (zI g, 200, .inl (fun _ => 0))), (q5, .inl (zI g, 118, .inl f81))]) F hP hD hS 5 rfl (zIn (by decide)) dX10_init_494 (fun _ => rfl) (fun f81 H locs ef81 hP hD hS => ?_)
  refine lv_dup hx hb dX10_init_495 rfl ?_
  refine lv_bipush (v := 76) hx hb dX10_init_496 (by decide) ?_
  refine lv_bipush (v := 108) hx hb dX10_init_498 (by decide) ?_
  refine z_iastN (W1 := fun f82 => [(h0, .inr (8, [.ref q1, .ref q2, .int 0, .ref q3, .int 0, .int 0, .int 0, .int 0, .ref q4, .int 0, .null, .null, .int 0, .int 0, .int 0, .int 0, .null, .int 0, .int 0, .long 0])), (q1, .inl (zI g, 3217, .inl (fun _ => 0))), (q2, .inl (zI g, 12868, .inl (fun _ => 0))), (q3, .inl (zI g, 600, .inl (fun _ => 0))), (q4, .inl (zI g, 200, .inl (fun _ => 0))), (q5, .inl (zI g, 118, .inl f82))]) F hP hD hS 5 rfl (zIn (by decide)) dX10_init_500 (fun _ => rfl) (fun f82 H locs ef82 hP hD hS => ?_)
  refine lv_dup hx hb dX10_init_501 rfl ?_
  refine lv_bipush (v := 77) hx hb dX10_init_502 (by decide) ?_
  refine lv_bipush (v := 102) hx hb dX10_init_504 (by decide) ?_
  refine z_iastN (W1 := fun f83 => [(h0, .inr (8, [.ref q1, .ref q2, .int 0, .ref q3, .int 0, .int 0, .int 0, .int 0, .ref q4, .int 0, .null, .null, .int 0, .int 0, .int 0, .int 0, .null, .int 0, .int 0, .long 0])), (q1, .inl (zI g, 3217, .inl (fun _ => 0))), (q2, .inl (zI g, 12868, .inl (fun _ => 0))), (q3, .inl (zI g, 600, .inl (fun _ => 0))), (q4, .inl (zI g, 200, .inl (fun _ => 0))), (q5, .inl (zI g, 118, .inl f83))]) F hP hD hS 5 rfl (zIn (by decide)) dX10_init_506 (fun _ => rfl) (fun f83 H locs ef83 hP hD hS => ?_)
  refine lv_dup hx hb dX10_init_507 rfl ?_
  refine lv_bipush (v := 78) hx hb dX10_init_508 (by decide) ?_
  refine lv_bipush (v := 32) hx hb dX10_init_510 (by decide) ?_
  refine z_iastN (W1 := fun f84 => [(h0, .inr (8, [.ref q1, .ref q2, .int 0, .ref q3, .int 0, .int 0, .int 0, .int 0, .ref q4, .int 0, .null, .null, .int 0, .int 0, .int 0, .int 0, .null, .int 0, .int 0, .long 0])), (q1, .inl (zI g, 3217, .inl (fun _ => 0))), (q2, .inl (zI g, 12868, .inl (fun _ => 0))), (q3, .inl (zI g, 600, .inl (fun _ => 0))), (q4, .inl (zI g, 200, .inl (fun _ => 0))), (q5, .inl (zI g, 118, .inl f84))]) F hP hD hS 5 rfl (zIn (by decide)) dX10_init_512 (fun _ => rfl) (fun f84 H locs ef84 hP hD hS => ?_)
  refine lv_dup hx hb dX10_init_513 rfl ?_
  refine lv_bipush (v := 79) hx hb dX10_init_514 (by decide) ?_
  refine lv_bipush (v := 113) hx hb dX10_init_516 (by decide) ?_
  refine z_iastN (W1 := fun f85 => [(h0, .inr (8, [.ref q1, .ref q2, .int 0, .ref q3, .int 0, .int 0, .int 0, .int 0, .ref q4, .int 0, .null, .null, .int 0, .int 0, .int 0, .int 0, .null, .int 0, .int 0, .long 0])), (q1, .inl (zI g, 3217, .inl (fun _ => 0))), (q2, .inl (zI g, 12868, .inl (fun _ => 0))), (q3, .inl (zI g, 600, .inl (fun _ => 0))), (q4, .inl (zI g, 200, .inl (fun _ => 0))), (q5, .inl (zI g, 118, .inl f85))]) F hP hD hS 5 rfl (zIn (by decide)) dX10_init_518 (fun _ => rfl) (fun f85 H locs ef85 hP hD hS => ?_)
  refine lv_dup hx hb dX10_init_519 rfl ?_
  refine lv_bipush (v := 80) hx hb dX10_init_520 (by decide) ?_
  refine lv_bipush (v := 117) hx hb dX10_init_522 (by decide) ?_
  refine z_iastN (W1 := fun f86 => [(h0, .inr (8, [.ref q1, .ref q2, .int 0, .ref q3, .int 0, .int 0, .int 0, .int 0, .ref q4, .int 0, .null, .null, .int 0, .int 0, .int 0, .int 0, .null, .int 0, .int 0, .long 0])), (q1, .inl (zI g, 3217, .inl (fun _ => 0))), (q2, .inl (zI g, 12868, .inl (fun _ => 0))), (q3, .inl (zI g, 600, .inl (fun _ => 0))), (q4, .inl (zI g, 200, .inl (fun _ => 0))), (q5, .inl (zI g, 118, .inl f86))]) F hP hD hS 5 rfl (zIn (by decide)) dX10_init_524 (fun _ => rfl) (fun f86 H locs ef86 hP hD hS => ?_)
  refine lv_dup hx hb dX10_init_525 rfl ?_
  refine lv_bipush (v := 81) hx hb dX10_init_526 (by decide) ?_
  refine lv_bipush (v := 97) hx hb dX10_init_528 (by decide) ?_
  refine z_iastN (W1 := fun f87 => [(h0, .inr (8, [.ref q1, .ref q2, .int 0, .ref q3, .int 0, .int 0, .int 0, .int 0, .ref q4, .int 0, .null, .null, .int 0, .int 0, .int 0, .int 0, .null, .int 0, .int 0, .long 0])), (q1, .inl (zI g, 3217, .inl (fun _ => 0))), (q2, .inl (zI g, 12868, .inl (fun _ => 0))), (q3, .inl (zI g, 600, .inl (fun _ => 0))), (q4, .inl (zI g, 200, .inl (fun _ => 0))), (q5, .inl (zI g, 118, .inl f87))]) F hP hD hS 5 rfl (zIn (by decide)) dX10_init_530 (fun _ => rfl) (fun f87 H locs ef87 hP hD hS => ?_)
  refine lv_dup hx hb dX10_init_531 rfl ?_
  refine lv_bipush (v := 82) hx hb dX10_init_532 (by decide) ?_
  refine lv_bipush (v := 114) hx hb dX10_init_534 (by decide) ?_
  refine z_iastN (W1 := fun f88 => [(h0, .inr (8, [.ref q1, .ref q2, .int 0, .ref q3, .int 0, .int 0, .int 0, .int 0, .ref q4, .int 0, .null, .null, .int 0, .int 0, .int 0, .int 0, .null, .int 0, .int 0, .long 0])), (q1, .inl (zI g, 3217, .inl (fun _ => 0))), (q2, .inl (zI g, 12868, .inl (fun _ => 0))), (q3, .inl (zI g, 600, .inl (fun _ => 0))), (q4, .inl (zI g, 200, .inl (fun _ => 0))), (q5, .inl (zI g, 118, .inl f88))]) F hP hD hS 5 rfl (zIn (by decide)) dX10_init_536 (fun _ => rfl) (fun f88 H locs ef88 hP hD hS => ?_)
  refine lv_dup hx hb dX10_init_537 rfl ?_
  refine lv_bipush (v := 83) hx hb dX10_init_538 (by decide) ?_
  refine lv_bipush (v := 116) hx hb dX10_init_540 (by decide) ?_
  refine z_iastN (W1 := fun f89 => [(h0, .inr (8, [.ref q1, .ref q2, .int 0, .ref q3, .int 0, .int 0, .int 0, .int 0, .ref q4, .int 0, .null, .null, .int 0, .int 0, .int 0, .int 0, .null, .int 0, .int 0, .long 0])), (q1, .inl (zI g, 3217, .inl (fun _ => 0))), (q2, .inl (zI g, 12868, .inl (fun _ => 0))), (q3, .inl (zI g, 600, .inl (fun _ => 0))), (q4, .inl (zI g, 200, .inl (fun _ => 0))), (q5, .inl (zI g, 118, .inl f89))]) F hP hD hS 5 rfl (zIn (by decide)) dX10_init_542 (fun _ => rfl) (fun f89 H locs ef89 hP hD hS => ?_)
  refine lv_dup hx hb dX10_init_543 rfl ?_
  refine lv_bipush (v := 84) hx hb dX10_init_544 (by decide) ?_
  refine lv_bipush (v := 101) hx hb dX10_init_546 (by decide) ?_
  refine z_iastN (W1 := fun f90 => [(h0, .inr (8, [.ref q1, .ref q2, .int 0, .ref q3, .int 0, .int 0, .int 0, .int 0, .ref q4, .int 0, .null, .null, .int 0, .int 0, .int 0, .int 0, .null, .int 0, .int 0, .long 0])), (q1, .inl (zI g, 3217, .inl (fun _ => 0))), (q2, .inl (zI g, 12868, .inl (fun _ => 0))), (q3, .inl (zI g, 600, .inl (fun _ => 0))), (q4, .inl (zI g, 200, .inl (fun _ => 0))), (q5, .inl (zI g, 118, .inl f90))]) F hP hD hS 5 rfl (zIn (by decide)) dX10_init_548 (fun _ => rfl) (fun f90 H locs ef90 hP hD hS => ?_)
  refine lv_dup hx hb dX10_init_549 rfl ?_
  refine lv_bipush (v := 85) hx hb dX10_init_550 (by decide) ?_
  refine lv_bipush (v := 114) hx hb dX10_init_552 (by decide) ?_
  refine z_iastN (W1 := fun f91 => [(h0, .inr (8, [.ref q1, .ref q2, .int 0, .ref q3, .int 0, .int 0, .int 0, .int 0, .ref q4, .int 0, .null, .null, .int 0, .int 0, .int 0, .int 0, .null, .int 0, .int 0, .long 0])), (q1, .inl (zI g, 3217, .inl (fun _ => 0))), (q2, .inl (zI g, 12868, .inl (fun _ => 0))), (q3, .inl (zI g, 600, .inl (fun _ => 0))), (q4, .inl (zI g, 200, .inl (fun _ => 0))), (q5, .inl (zI g, 118, .inl f91))]) F hP hD hS 5 rfl (zIn (by decide)) dX10_init_554 (fun _ => rfl) (fun f91 H locs ef91 hP hD hS => ?_)
  refine lv_dup hx hb dX10_init_555 rfl ?_
  refine lv_bipush (v := 86) hx hb dX10_init_556 (by decide) ?_
  refine lv_bipush (v := 32) hx hb dX10_init_558 (by decide) ?_
  refine z_iastN (W1 := fun f92 => [(h0, .inr (8, [.ref q1, .ref q2, .int 0, .ref q3, .int 0, .int 0, .int 0, .int 0, .ref q4, .int 0, .null, .null, .int 0, .int 0, .int 0, .int 0, .null, .int 0, .int 0, .long 0])), (q1, .inl (zI g, 3217, .inl (fun _ => 0))), (q2, .inl (zI g, 12868, .inl (fun _ => 0))), (q3, .inl (zI g, 600, .inl (fun _ => 0))), (q4, .inl (zI g, 200, .inl (fun _ => 0))), (q5, .inl (zI g, 118, .inl f92))]) F hP hD hS 5 rfl (zIn (by decide)) dX10_init_560 (fun _ => rfl) (fun f92 H locs ef92 hP hD hS => ?_)
  refine lv_dup hx hb dX10_init_561 rfl ?_
  refine lv_bipush (v := 87) hx hb dX10_init_562 (by decide) ?_
  refine lv_bipush (v := 101) hx hb dX10_init_564 (by decide) ?_
  refine z_iastN (W1 := fun f93 => [(h0, .inr (8, [.ref q1, .ref q2, .int 0, .ref q3, .int 0, .int 0, .int 0, .int 0, .ref q4, .int 0, .null, .null, .int 0, .int 0, .int 0, .int 0, .null, .int 0, .int 0, .long 0])), (q1, .inl (zI g, 3217, .inl (fun _ => 0))), (q2, .inl (zI g, 12868, .inl (fun _ => 0))), (q3, .inl (zI g, 600, .inl (fun _ => 0))), (q4, .inl (zI g, 200, .inl (fun _ => 0))), (q5, .inl (zI g, 118, .inl f93))]) F hP hD hS 5 rfl (zIn (by decide)) dX10_init_566 (fun _ => rfl) (fun f93 H locs ef93 hP hD hS => ?_)
  refine lv_dup hx hb dX10_init_567 rfl ?_
  refine lv_bipush (v := 88) hx hb dX10_init_568 (by decide) ?_
  refine lv_bipush (v := 105) hx hb dX10_init_570 (by decide) ?_
  refine z_iastN (W1 := fun f94 => [(h0, .inr (8, [.ref q1, .ref q2, .int 0, .ref q3, .int 0, .int 0, .int 0, .int 0, .ref q4, .int 0, .null, .null, .int 0, .int 0, .int 0, .int 0, .null, .int 0, .int 0, .long 0])), (q1, .inl (zI g, 3217, .inl (fun _ => 0))), (q2, .inl (zI g, 12868, .inl (fun _ => 0))), (q3, .inl (zI g, 600, .inl (fun _ => 0))), (q4, .inl (zI g, 200, .inl (fun _ => 0))), (q5, .inl (zI g, 118, .inl f94))]) F hP hD hS 5 rfl (zIn (by decide)) dX10_init_572 (fun _ => rfl) (fun f94 H locs ef94 hP hD hS => ?_)
  refine lv_dup hx hb dX10_init_573 rfl ?_
  refine lv_bipush (v := 89) hx hb dX10_init_574 (by decide) ?_
  refine lv_bipush (v := 103) hx hb dX10_init_576 (by decide) ?_
  refine z_iastN (W1 := fun f95 => [(h0, .inr (8, [.ref q1, .ref q2, .int 0, .ref q3, .int 0, .int 0, .int 0, .int 0, .ref q4, .int 0, .null, .null, .int 0, .int 0, .int 0, .int 0, .null, .int 0, .int 0, .long 0])), (q1, .inl (zI g, 3217, .inl (fun _ => 0))), (q2, .inl (zI g, 12868, .inl (fun _ => 0))), (q3, .inl (zI g, 600, .inl (fun _ => 0))), (q4, .inl (zI g, 200, .inl (fun _ => 0))), (q5, .inl (zI g, 118, .inl f95))]) F hP hD hS 5 rfl (zIn (by decide)) dX10_init_578 (fun _ => rfl) (fun f95 H locs ef95 hP hD hS => ?_)
  refine lv_dup hx hb dX10_init_579 rfl ?_
  refine lv_bipush (v := 90) hx hb dX10_init_580 (by decide) ?_
  refine lv_bipush (v := 104) hx hb dX10_init_582 (by decide) ?_
  refine z_iastN (W1 := fun f96 => [(h0, .inr (8, [.ref q1, .ref q2, .int 0, .ref q3, .int 0, .int 0, .int 0, .int 0, .ref q4, .int 0, .null, .null, .int 0, .int 0, .int 0, .int 0, .null, .int 0, .int 0, .long 0])), (q1, .inl (zI g, 3217, .inl (fun _ => 0))), (q2, .inl (zI g, 12868, .inl (fun _ => 0))), (q3, .inl (zI g, 600, .inl (fun _ => 0))), (q4, .inl (zI g, 200, .inl (fun _ => 0))), (q5, .inl (zI g, 118, .inl f96))]) F hP hD hS 5 rfl (zIn (by decide)) dX10_init_584 (fun _ => rfl) (fun f96 H locs ef96 hP hD hS => ?_)
  refine lv_dup hx hb dX10_init_585 rfl ?_
  refine lv_bipush (v := 91) hx hb dX10_init_586 (by decide) ?_
  refine lv_bipush (v := 116) hx hb dX10_init_588 (by decide) ?_
  refine z_iastN (W1 := fun f97 => [(h0, .inr (8, [.ref q1, .ref q2, .int 0, .ref q3, .int 0, .int 0, .int 0, .int 0, .ref q4, .int 0, .null, .null, .int 0, .int 0, .int 0, .int 0, .null, .int 0, .int 0, .long 0])), (q1, .inl (zI g, 3217, .inl (fun _ => 0))), (q2, .inl (zI g, 12868, .inl (fun _ => 0))), (q3, .inl (zI g, 600, .inl (fun _ => 0))), (q4, .inl (zI g, 200, .inl (fun _ => 0))), (q5, .inl (zI g, 118, .inl f97))]) F hP hD hS 5 rfl (zIn (by decide)) dX10_init_590 (fun _ => rfl) (fun f97 H locs ef97 hP hD hS => ?_)
  refine lv_dup hx hb dX10_init_591 rfl ?_
  refine lv_bipush (v := 92) hx hb dX10_init_592 (by decide) ?_
  refine lv_bipush (v := 104) hx hb dX10_init_594 (by decide) ?_
  refine z_iastN (W1 := fun f98 => [(h0, .inr (8, [.ref q1, .ref q2, .int 0, .ref q3, .int 0, .int 0, .int 0, .int 0, .ref q4, .int 0, .null, .null, .int 0, .int 0, .int 0, .int 0, .null, .int 0, .int 0, .long 0])), (q1, .inl (zI g, 3217, .inl (fun _ => 0))), (q2, .inl (zI g, 12868, .inl (fun _ => 0))), (q3, .inl (zI g, 600, .inl (fun _ => 0))), (q4, .inl (zI g, 200, .inl (fun _ => 0))), (q5, .inl (zI g, 118, .inl f98))]) F hP hD hS 5 rfl (zIn (by decide)) dX10_init_596 (fun _ => rfl) (fun f98 H locs ef98 hP hD hS => ?_)
  refine lv_dup hx hb dX10_init_597 rfl ?_
  refine lv_bipush (v := 93) hx hb dX10_init_598 (by decide) ?_
  refine lv_bipush (v := 32) hx hb dX10_init_600 (by decide) ?_
  refine z_iastN (W1 := fun f99 => [(h0, .inr (8, [.ref q1, .ref q2, .int 0, .ref q3, .int 0, .int 0, .int 0, .int 0, .ref q4, .int 0, .null, .null, .int 0, .int 0, .int 0, .int 0, .null, .int 0, .int 0, .long 0])), (q1, .inl (zI g, 3217, .inl (fun _ => 0))), (q2, .inl (zI g, 12868, .inl (fun _ => 0))), (q3, .inl (zI g, 600, .inl (fun _ => 0))), (q4, .inl (zI g, 200, .inl (fun _ => 0))), (q5, .inl (zI g, 118, .inl f99))]) F hP hD hS 5 rfl (zIn (by decide)) dX10_init_602 (fun _ => rfl) (fun f99 H locs ef99 hP hD hS => ?_)
  refine lv_dup hx hb dX10_init_603 rfl ?_
  refine lv_bipush (v := 94) hx hb dX10_init_604 (by decide) ?_
  refine lv_bipush (v := 115) hx hb dX10_init_606 (by decide) ?_
  refine z_iastN (W1 := fun f100 => [(h0, .inr (8, [.ref q1, .ref q2, .int 0, .ref q3, .int 0, .int 0, .int 0, .int 0, .ref q4, .int 0, .null, .null, .int 0, .int 0, .int 0, .int 0, .null, .int 0, .int 0, .long 0])), (q1, .inl (zI g, 3217, .inl (fun _ => 0))), (q2, .inl (zI g, 12868, .inl (fun _ => 0))), (q3, .inl (zI g, 600, .inl (fun _ => 0))), (q4, .inl (zI g, 200, .inl (fun _ => 0))), (q5, .inl (zI g, 118, .inl f100))]) F hP hD hS 5 rfl (zIn (by decide)) dX10_init_608 (fun _ => rfl) (fun f100 H locs ef100 hP hD hS => ?_)
  refine lv_dup hx hb dX10_init_609 rfl ?_
  refine lv_bipush (v := 95) hx hb dX10_init_610 (by decide) ?_
  refine lv_bipush (v := 105) hx hb dX10_init_612 (by decide) ?_
  refine z_iastN (W1 := fun f101 => [(h0, .inr (8, [.ref q1, .ref q2, .int 0, .ref q3, .int 0, .int 0, .int 0, .int 0, .ref q4, .int 0, .null, .null, .int 0, .int 0, .int 0, .int 0, .null, .int 0, .int 0, .long 0])), (q1, .inl (zI g, 3217, .inl (fun _ => 0))), (q2, .inl (zI g, 12868, .inl (fun _ => 0))), (q3, .inl (zI g, 600, .inl (fun _ => 0))), (q4, .inl (zI g, 200, .inl (fun _ => 0))), (q5, .inl (zI g, 118, .inl f101))]) F hP hD hS 5 rfl (zIn (by decide)) dX10_init_614 (fun _ => rfl) (fun f101 H locs ef101 hP hD hS => ?_)
  refine lv_dup hx hb dX10_init_615 rfl ?_
  refine lv_bipush (v := 96) hx hb dX10_init_616 (by decide) ?_
  refine lv_bipush (v := 120) hx hb dX10_init_618 (by decide) ?_
  refine z_iastN (W1 := fun f102 => [(h0, .inr (8, [.ref q1, .ref q2, .int 0, .ref q3, .int 0, .int 0, .int 0, .int 0, .ref q4, .int 0, .null, .null, .int 0, .int 0, .int 0, .int 0, .null, .int 0, .int 0, .long 0])), (q1, .inl (zI g, 3217, .inl (fun _ => 0))), (q2, .inl (zI g, 12868, .inl (fun _ => 0))), (q3, .inl (zI g, 600, .inl (fun _ => 0))), (q4, .inl (zI g, 200, .inl (fun _ => 0))), (q5, .inl (zI g, 118, .inl f102))]) F hP hD hS 5 rfl (zIn (by decide)) dX10_init_620 (fun _ => rfl) (fun f102 H locs ef102 hP hD hS => ?_)
  refine lv_dup hx hb dX10_init_621 rfl ?_
  refine lv_bipush (v := 97) hx hb dX10_init_622 (by decide) ?_
  refine lv_bipush (v := 116) hx hb dX10_init_624 (by decide) ?_
  refine z_iastN (W1 := fun f103 => [(h0, .inr (8, [.ref q1, .ref q2, .int 0, .ref q3, .int 0, .int 0, .int 0, .int 0, .ref q4, .int 0, .null, .null, .int 0, .int 0, .int 0, .int 0, .null, .int 0, .int 0, .long 0])), (q1, .inl (zI g, 3217, .inl (fun _ => 0))), (q2, .inl (zI g, 12868, .inl (fun _ => 0))), (q3, .inl (zI g, 600, .inl (fun _ => 0))), (q4, .inl (zI g, 200, .inl (fun _ => 0))), (q5, .inl (zI g, 118, .inl f103))]) F hP hD hS 5 rfl (zIn (by decide)) dX10_init_626 (fun _ => rfl) (fun f103 H locs ef103 hP hD hS => ?_)
  refine lv_dup hx hb dX10_init_627 rfl ?_
  refine lv_bipush (v := 98) hx hb dX10_init_628 (by decide) ?_
  refine lv_bipush (v := 101) hx hb dX10_init_630 (by decide) ?_
  refine z_iastN (W1 := fun f104 => [(h0, .inr (8, [.ref q1, .ref q2, .int 0, .ref q3, .int 0, .int 0, .int 0, .int 0, .ref q4, .int 0, .null, .null, .int 0, .int 0, .int 0, .int 0, .null, .int 0, .int 0, .long 0])), (q1, .inl (zI g, 3217, .inl (fun _ => 0))), (q2, .inl (zI g, 12868, .inl (fun _ => 0))), (q3, .inl (zI g, 600, .inl (fun _ => 0))), (q4, .inl (zI g, 200, .inl (fun _ => 0))), (q5, .inl (zI g, 118, .inl f104))]) F hP hD hS 5 rfl (zIn (by decide)) dX10_init_632 (fun _ => rfl) (fun f104 H locs ef104 hP hD hS => ?_)
  refine lv_dup hx hb dX10_init_633 rfl ?_
  refine lv_bipush (v := 99) hx hb dX10_init_634 (by decide) ?_
  refine lv_bipush (v := 101) hx hb dX10_init_636 (by decide) ?_
  refine z_iastN (W1 := fun f105 => [(h0, .inr (8, [.ref q1, .ref q2, .int 0, .ref q3, .int 0, .int 0, .int 0, .int 0, .ref q4, .int 0, .null, .null, .int 0, .int 0, .int 0, .int 0, .null, .int 0, .int 0, .long 0])), (q1, .inl (zI g, 3217, .inl (fun _ => 0))), (q2, .inl (zI g, 12868, .inl (fun _ => 0))), (q3, .inl (zI g, 600, .inl (fun _ => 0))), (q4, .inl (zI g, 200, .inl (fun _ => 0))), (q5, .inl (zI g, 118, .inl f105))]) F hP hD hS 5 rfl (zIn (by decide)) dX10_init_638 (fun _ => rfl) (fun f105 H locs ef105 hP hD hS => ?_)
  refine lv_dup hx hb dX10_init_639 rfl ?_
  refine lv_bipush (v := 100) hx hb dX10_init_640 (by decide) ?_
  refine lv_bipush (v := 110) hx hb dX10_init_642 (by decide) ?_
  refine z_iastN (W1 := fun f106 => [(h0, .inr (8, [.ref q1, .ref q2, .int 0, .ref q3, .int 0, .int 0, .int 0, .int 0, .ref q4, .int 0, .null, .null, .int 0, .int 0, .int 0, .int 0, .null, .int 0, .int 0, .long 0])), (q1, .inl (zI g, 3217, .inl (fun _ => 0))), (q2, .inl (zI g, 12868, .inl (fun _ => 0))), (q3, .inl (zI g, 600, .inl (fun _ => 0))), (q4, .inl (zI g, 200, .inl (fun _ => 0))), (q5, .inl (zI g, 118, .inl f106))]) F hP hD hS 5 rfl (zIn (by decide)) dX10_init_644 (fun _ => rfl) (fun f106 H locs ef106 hP hD hS => ?_)
  refine lv_dup hx hb dX10_init_645 rfl ?_
  refine lv_bipush (v := 101) hx hb dX10_init_646 (by decide) ?_
  refine lv_bipush (v := 116) hx hb dX10_init_648 (by decide) ?_
  refine z_iastN (W1 := fun f107 => [(h0, .inr (8, [.ref q1, .ref q2, .int 0, .ref q3, .int 0, .int 0, .int 0, .int 0, .ref q4, .int 0, .null, .null, .int 0, .int 0, .int 0, .int 0, .null, .int 0, .int 0, .long 0])), (q1, .inl (zI g, 3217, .inl (fun _ => 0))), (q2, .inl (zI g, 12868, .inl (fun _ => 0))), (q3, .inl (zI g, 600, .inl (fun _ => 0))), (q4, .inl (zI g, 200, .inl (fun _ => 0))), (q5, .inl (zI g, 118, .inl f107))]) F hP hD hS 5 rfl (zIn (by decide)) dX10_init_650 (fun _ => rfl) (fun f107 H locs ef107 hP hD hS => ?_)
  refine lv_dup hx hb dX10_init_651 rfl ?_
  refine lv_bipush (v := 102) hx hb dX10_init_652 (by decide) ?_
  refine lv_bipush (v := 104) hx hb dX10_init_654 (by decide) ?_
  refine z_iastN (W1 := fun f108 => [(h0, .inr (8, [.ref q1, .ref q2, .int 0, .ref q3, .int 0, .int 0, .int 0, .int 0, .ref q4, .int 0, .null, .null, .int 0, .int 0, .int 0, .int 0, .null, .int 0, .int 0, .long 0])), (q1, .inl (zI g, 3217, .inl (fun _ => 0))), (q2, .inl (zI g, 12868, .inl (fun _ => 0))), (q3, .inl (zI g, 600, .inl (fun _ => 0))), (q4, .inl (zI g, 200, .inl (fun _ => 0))), (q5, .inl (zI g, 118, .inl f108))]) F hP hD hS 5 rfl (zIn (by decide)) dX10_init_656 (fun _ => rfl) (fun f108 H locs ef108 hP hD hS => ?_)
  refine lv_dup hx hb dX10_init_657 rfl ?_
  refine lv_bipush (v := 103) hx hb dX10_init_658 (by decide) ?_
  refine lv_bipush (v := 32) hx hb dX10_init_660 (by decide) ?_
  refine z_iastN (W1 := fun f109 => [(h0, .inr (8, [.ref q1, .ref q2, .int 0, .ref q3, .int 0, .int 0, .int 0, .int 0, .ref q4, .int 0, .null, .null, .int 0, .int 0, .int 0, .int 0, .null, .int 0, .int 0, .long 0])), (q1, .inl (zI g, 3217, .inl (fun _ => 0))), (q2, .inl (zI g, 12868, .inl (fun _ => 0))), (q3, .inl (zI g, 600, .inl (fun _ => 0))), (q4, .inl (zI g, 200, .inl (fun _ => 0))), (q5, .inl (zI g, 118, .inl f109))]) F hP hD hS 5 rfl (zIn (by decide)) dX10_init_662 (fun _ => rfl) (fun f109 H locs ef109 hP hD hS => ?_)
  refine lv_dup hx hb dX10_init_663 rfl ?_
  refine lv_bipush (v := 104) hx hb dX10_init_664 (by decide) ?_
  refine lv_bipush (v := 116) hx hb dX10_init_666 (by decide) ?_
  refine z_iastN (W1 := fun f110 => [(h0, .inr (8, [.ref q1, .ref q2, .int 0, .ref q3, .int 0, .int 0, .int 0, .int 0, .ref q4, .int 0, .null, .null, .int 0, .int 0, .int 0, .int 0, .null, .int 0, .int 0, .long 0])), (q1, .inl (zI g, 3217, .inl (fun _ => 0))), (q2, .inl (zI g, 12868, .inl (fun _ => 0))), (q3, .inl (zI g, 600, .inl (fun _ => 0))), (q4, .inl (zI g, 200, .inl (fun _ => 0))), (q5, .inl (zI g, 118, .inl f110))]) F hP hD hS 5 rfl (zIn (by decide)) dX10_init_668 (fun _ => rfl) (fun f110 H locs ef110 hP hD hS => ?_)
  refine lv_dup hx hb dX10_init_669 rfl ?_
  refine lv_bipush (v := 105) hx hb dX10_init_670 (by decide) ?_
  refine lv_bipush (v := 105) hx hb dX10_init_672 (by decide) ?_
  refine z_iastN (W1 := fun f111 => [(h0, .inr (8, [.ref q1, .ref q2, .int 0, .ref q3, .int 0, .int 0, .int 0, .int 0, .ref q4, .int 0, .null, .null, .int 0, .int 0, .int 0, .int 0, .null, .int 0, .int 0, .long 0])), (q1, .inl (zI g, 3217, .inl (fun _ => 0))), (q2, .inl (zI g, 12868, .inl (fun _ => 0))), (q3, .inl (zI g, 600, .inl (fun _ => 0))), (q4, .inl (zI g, 200, .inl (fun _ => 0))), (q5, .inl (zI g, 118, .inl f111))]) F hP hD hS 5 rfl (zIn (by decide)) dX10_init_674 (fun _ => rfl) (fun f111 H locs ef111 hP hD hS => ?_)
  refine lv_dup hx hb dX10_init_675 rfl ?_
  refine lv_bipush (v := 106) hx hb dX10_init_676 (by decide) ?_
  refine lv_bipush (v := 101) hx hb dX10_init_678 (by decide) ?_
  refine z_iastN (W1 := fun f112 => [(h0, .inr (8, [.ref q1, .ref q2, .int 0, .ref q3, .int 0, .int 0, .int 0, .int 0, .ref q4, .int 0, .null, .null, .int 0, .int 0, .int 0, .int 0, .null, .int 0, .int 0, .long 0])), (q1, .inl (zI g, 3217, .inl (fun _ => 0))), (q2, .inl (zI g, 12868, .inl (fun _ => 0))), (q3, .inl (zI g, 600, .inl (fun _ => 0))), (q4, .inl (zI g, 200, .inl (fun _ => 0))), (q5, .inl (zI g, 118, .inl f112))]) F hP hD hS 5 rfl (zIn (by decide)) dX10_init_680 (fun _ => rfl) (fun f112 H locs ef112 hP hD hS => ?_)
  refine lv_dup hx hb dX10_init_681 rfl ?_
  refine lv_bipush (v := 107) hx hb dX10_init_682 (by decide) ?_
  refine lv_bipush (v := 100) hx hb dX10_init_684 (by decide) ?_
  refine z_iastN (W1 := fun f113 => [(h0, .inr (8, [.ref q1, .ref q2, .int 0, .ref q3, .int 0, .int 0, .int 0, .int 0, .ref q4, .int 0, .null, .null, .int 0, .int 0, .int 0, .int 0, .null, .int 0, .int 0, .long 0])), (q1, .inl (zI g, 3217, .inl (fun _ => 0))), (q2, .inl (zI g, 12868, .inl (fun _ => 0))), (q3, .inl (zI g, 600, .inl (fun _ => 0))), (q4, .inl (zI g, 200, .inl (fun _ => 0))), (q5, .inl (zI g, 118, .inl f113))]) F hP hD hS 5 rfl (zIn (by decide)) dX10_init_686 (fun _ => rfl) (fun f113 H locs ef113 hP hD hS => ?_)
  refine lv_dup hx hb dX10_init_687 rfl ?_
  refine lv_bipush (v := 108) hx hb dX10_init_688 (by decide) ?_
  refine lv_bipush (v := 32) hx hb dX10_init_690 (by decide) ?_
  refine z_iastN (W1 := fun f114 => [(h0, .inr (8, [.ref q1, .ref q2, .int 0, .ref q3, .int 0, .int 0, .int 0, .int 0, .ref q4, .int 0, .null, .null, .int 0, .int 0, .int 0, .int 0, .null, .int 0, .int 0, .long 0])), (q1, .inl (zI g, 3217, .inl (fun _ => 0))), (q2, .inl (zI g, 12868, .inl (fun _ => 0))), (q3, .inl (zI g, 600, .inl (fun _ => 0))), (q4, .inl (zI g, 200, .inl (fun _ => 0))), (q5, .inl (zI g, 118, .inl f114))]) F hP hD hS 5 rfl (zIn (by decide)) dX10_init_692 (fun _ => rfl) (fun f114 H locs ef114 hP hD hS => ?_)
  refine lv_dup hx hb dX10_init_693 rfl ?_
  refine lv_bipush (v := 109) hx hb dX10_init_694 (by decide) ?_
  refine lv_bipush (v := 98) hx hb dX10_init_696 (by decide) ?_
  refine z_iastN (W1 := fun f115 => [(h0, .inr (8, [.ref q1, .ref q2, .int 0, .ref q3, .int 0, .int 0, .int 0, .int 0, .ref q4, .int 0, .null, .null, .int 0, .int 0, .int 0, .int 0, .null, .int 0, .int 0, .long 0])), (q1, .inl (zI g, 3217, .inl (fun _ => 0))), (q2, .inl (zI g, 12868, .inl (fun _ => 0))), (q3, .inl (zI g, 600, .inl (fun _ => 0))), (q4, .inl (zI g, 200, .inl (fun _ => 0))), (q5, .inl (zI g, 118, .inl f115))]) F hP hD hS 5 rfl (zIn (by decide)) dX10_init_698 (fun _ => rfl) (fun f115 H locs ef115 hP hD hS => ?_)
  refine lv_dup hx hb dX10_init_699 rfl ?_
  refine lv_bipush (v := 110) hx hb dX10_init_700 (by decide) ?_
  refine lv_bipush (v := 97) hx hb dX10_init_702 (by decide) ?_
  refine z_iastN (W1 := fun f116 => [(h0, .inr (8, [.ref q1, .ref q2, .int 0, .ref q3, .int 0, .int 0, .int 0, .int 0, .ref q4, .int 0, .null, .null, .int 0, .int 0, .int 0, .int 0, .null, .int 0, .int 0, .long 0])), (q1, .inl (zI g, 3217, .inl (fun _ => 0))), (q2, .inl (zI g, 12868, .inl (fun _ => 0))), (q3, .inl (zI g, 600, .inl (fun _ => 0))), (q4, .inl (zI g, 200, .inl (fun _ => 0))), (q5, .inl (zI g, 118, .inl f116))]) F hP hD hS 5 rfl (zIn (by decide)) dX10_init_704 (fun _ => rfl) (fun f116 H locs ef116 hP hD hS => ?_)
  refine lv_dup hx hb dX10_init_705 rfl ?_
  refine lv_bipush (v := 111) hx hb dX10_init_706 (by decide) ?_
  refine lv_bipush (v := 99) hx hb dX10_init_708 (by decide) ?_
  refine z_iastN (W1 := fun f117 => [(h0, .inr (8, [.ref q1, .ref q2, .int 0, .ref q3, .int 0, .int 0, .int 0, .int 0, .ref q4, .int 0, .null, .null, .int 0, .int 0, .int 0, .int 0, .null, .int 0, .int 0, .long 0])), (q1, .inl (zI g, 3217, .inl (fun _ => 0))), (q2, .inl (zI g, 12868, .inl (fun _ => 0))), (q3, .inl (zI g, 600, .inl (fun _ => 0))), (q4, .inl (zI g, 200, .inl (fun _ => 0))), (q5, .inl (zI g, 118, .inl f117))]) F hP hD hS 5 rfl (zIn (by decide)) dX10_init_710 (fun _ => rfl) (fun f117 H locs ef117 hP hD hS => ?_)
  refine lv_dup hx hb dX10_init_711 rfl ?_
  refine lv_bipush (v := 112) hx hb dX10_init_712 (by decide) ?_
  refine lv_bipush (v := 107) hx hb dX10_init_714 (by decide) ?_
  refine z_iastN (W1 := fun f118 => [(h0, .inr (8, [.ref q1, .ref q2, .int 0, .ref q3, .int 0, .int 0, .int 0, .int 0, .ref q4, .int 0, .null, .null, .int 0, .int 0, .int 0, .int 0, .null, .int 0, .int 0, .long 0])), (q1, .inl (zI g, 3217, .inl (fun _ => 0))), (q2, .inl (zI g, 12868, .inl (fun _ => 0))), (q3, .inl (zI g, 600, .inl (fun _ => 0))), (q4, .inl (zI g, 200, .inl (fun _ => 0))), (q5, .inl (zI g, 118, .inl f118))]) F hP hD hS 5 rfl (zIn (by decide)) dX10_init_716 (fun _ => rfl) (fun f118 H locs ef118 hP hD hS => ?_)
  refine lv_dup hx hb dX10_init_717 rfl ?_
  refine lv_bipush (v := 113) hx hb dX10_init_718 (by decide) ?_
  refine lv_bipush (v := 32) hx hb dX10_init_720 (by decide) ?_
  refine z_iastN (W1 := fun f119 => [(h0, .inr (8, [.ref q1, .ref q2, .int 0, .ref q3, .int 0, .int 0, .int 0, .int 0, .ref q4, .int 0, .null, .null, .int 0, .int 0, .int 0, .int 0, .null, .int 0, .int 0, .long 0])), (q1, .inl (zI g, 3217, .inl (fun _ => 0))), (q2, .inl (zI g, 12868, .inl (fun _ => 0))), (q3, .inl (zI g, 600, .inl (fun _ => 0))), (q4, .inl (zI g, 200, .inl (fun _ => 0))), (q5, .inl (zI g, 118, .inl f119))]) F hP hD hS 5 rfl (zIn (by decide)) dX10_init_722 (fun _ => rfl) (fun f119 H locs ef119 hP hD hS => ?_)
  refine lv_dup hx hb dX10_init_723 rfl ?_
  refine lv_bipush (v := 114) hx hb dX10_init_724 (by decide) ?_
  refine lv_bipush (v := 101) hx hb dX10_init_726 (by decide) ?_
  refine z_iastN (W1 := fun f120 => [(h0, .inr (8, [.ref q1, .ref q2, .int 0, .ref q3, .int 0, .int 0, .int 0, .int 0, .ref q4, .int 0, .null, .null, .int 0, .int 0, .int 0, .int 0, .null, .int 0, .int 0, .long 0])), (q1, .inl (zI g, 3217, .inl (fun _ => 0))), (q2, .inl (zI g, 12868, .inl (fun _ => 0))), (q3, .inl (zI g, 600, .inl (fun _ => 0))), (q4, .inl (zI g, 200, .inl (fun _ => 0))), (q5, .inl (zI g, 118, .inl f120))]) F hP hD hS 5 rfl (zIn (by decide)) dX10_init_728 (fun _ => rfl) (fun f120 H locs ef120 hP hD hS => ?_)
  refine lv_dup hx hb dX10_init_729 rfl ?_
  refine lv_bipush (v := 115) hx hb dX10_init_730 (by decide) ?_
  refine lv_bipush (v := 110) hx hb dX10_init_732 (by decide) ?_
  refine z_iastN (W1 := fun f121 => [(h0, .inr (8, [.ref q1, .ref q2, .int 0, .ref q3, .int 0, .int 0, .int 0, .int 0, .ref q4, .int 0, .null, .null, .int 0, .int 0, .int 0, .int 0, .null, .int 0, .int 0, .long 0])), (q1, .inl (zI g, 3217, .inl (fun _ => 0))), (q2, .inl (zI g, 12868, .inl (fun _ => 0))), (q3, .inl (zI g, 600, .inl (fun _ => 0))), (q4, .inl (zI g, 200, .inl (fun _ => 0))), (q5, .inl (zI g, 118, .inl f121))]) F hP hD hS 5 rfl (zIn (by decide)) dX10_init_734 (fun _ => rfl) (fun f121 H locs ef121 hP hD hS => ?_)
  refine lv_dup hx hb dX10_init_735 rfl ?_
  refine lv_bipush (v := 116) hx hb dX10_init_736 (by decide) ?_
  refine lv_bipush (v := 100) hx hb dX10_init_738 (by decide) ?_
  refine z_iastN (W1 := fun f122 => [(h0, .inr (8, [.ref q1, .ref q2, .int 0, .ref q3, .int 0, .int 0, .int 0, .int 0, .ref q4, .int 0, .null, .null, .int 0, .int 0, .int 0, .int 0, .null, .int 0, .int 0, .long 0])), (q1, .inl (zI g, 3217, .inl (fun _ => 0))), (q2, .inl (zI g, 12868, .inl (fun _ => 0))), (q3, .inl (zI g, 600, .inl (fun _ => 0))), (q4, .inl (zI g, 200, .inl (fun _ => 0))), (q5, .inl (zI g, 118, .inl f122))]) F hP hD hS 5 rfl (zIn (by decide)) dX10_init_740 (fun _ => rfl) (fun f122 H locs ef122 hP hD hS => ?_)
  refine lv_dup hx hb dX10_init_741 rfl ?_
  refine lv_bipush (v := 117) hx hb dX10_init_742 (by decide) ?_
  refine lv_bipush (v := 32) hx hb dX10_init_744 (by decide) ?_
  refine z_iastN (W1 := fun f123 => [(h0, .inr (8, [.ref q1, .ref q2, .int 0, .ref q3, .int 0, .int 0, .int 0, .int 0, .ref q4, .int 0, .null, .null, .int 0, .int 0, .int 0, .int 0, .null, .int 0, .int 0, .long 0])), (q1, .inl (zI g, 3217, .inl (fun _ => 0))), (q2, .inl (zI g, 12868, .inl (fun _ => 0))), (q3, .inl (zI g, 600, .inl (fun _ => 0))), (q4, .inl (zI g, 200, .inl (fun _ => 0))), (q5, .inl (zI g, 118, .inl f123))]) F hP hD hS 5 rfl (zIn (by decide)) dX10_init_746 (fun _ => rfl) (fun f123 H locs ef123 hP hD hS => ?_)
  refine z_putF (T := TX10) (N := 20) (ci := 8) (W1 := [(h0, .inr (8, [.ref q1, .ref q2, .int 0, .ref q3, .int 0, .int 0, .int 0, .int 0, .ref q4, .int 0, .ref q5, .null, .int 0, .int 0, .int 0, .int 0, .null, .int 0, .int 0, .long 0])), (q1, .inl (zI g, 3217, .inl (fun _ => 0))), (q2, .inl (zI g, 12868, .inl (fun _ => 0))), (q3, .inl (zI g, 600, .inl (fun _ => 0))), (q4, .inl (zI g, 200, .inl (fun _ => 0))), (q5, .inl (zI g, 118, .inl f123))]) F zu_wsX100 tyX10 tyX10_ok nmX10 hP hD hS 0 rfl rfl 10 (by decide) zw_735 rfl hin rfl rfl rfl (Nat.le_of_ble_eq_true rfl) dX10_init_747 rfl (fun H locs hP hD hS => ?_)
  refine lv_aload_n hx hb dX10_init_750 rfl (lv_at hl 0 rfl) ?_
  refine lv_sipush (v := 2000) hx hb dX10_init_751 (by decide) ?_
  refine z_newI (N' := 2000) F zw_23 hP hD hS (by decide) (by decide) (Nat.le_of_ble_eq_true rfl) (Nat.le_of_ble_eq_true rfl) (Nat.le_of_ble_eq_true rfl) dX10_init_754 (fun q124 H hP hD hS => ?_)
  have hP : va_P (zD g) vwCl [(h0, .inr (8, [.ref q1, .ref q2, .int 0, .ref q3, .int 0, .int 0, .int 0, .int 0, .ref q4, .int 0, .ref q5, .null, .int 0, .int 0, .int 0, .int 0, .null, .int 0, .int 0, .long 0])), (q1, .inl (zI g, 3217, .inl (fun _ => 0))), (q2, .inl (zI g, 12868, .inl (fun _ => 0))), (q3, .inl (zI g, 600, .inl (fun _ => 0))), (q4, .inl (zI g, 200, .inl (fun _ => 0))), (q5, .inl (zI g, 118, .inl f123)), (q124, .inl (zI g, 2000, .inl (fun _ => 0)))] H := hP
  have hD : va_D A [(h0, .inr (8, [.ref q1, .ref q2, .int 0, .ref q3, .int 0, .int 0, .int 0, .int 0, .ref q4, .int 0, .ref q5, .null, .int 0, .int 0, .int 0, .int 0, .null, .int 0, .int 0, .long 0])), (q1, .inl (zI g, 3217, .inl (fun _ => 0))), (q2, .inl (zI g, 12868, .inl (fun _ => 0))), (q3, .inl (zI g, 600, .inl (fun _ => 0))), (q4, .inl (zI g, 200, .inl (fun _ => 0))), (q5, .inl (zI g, 118, .inl f123)), (q124, .inl (zI g, 2000, .inl (fun _ => 0)))] := hD
  refine z_putF (T := TX10) (N := 20) (ci := 8) (W1 := [(h0, .inr (8, [.ref q1, .ref q2, .int 0, .ref q3, .int 0, .int 0, .int 0, .int 0, .ref q4, .int 0, .ref q5, .ref q124, .int 0, .int 0, .int 0, .int 0, .null, .int 0, .int 0, .long 0])), (q1, .inl (zI g, 3217, .inl (fun _ => 0))), (q2, .inl (zI g, 12868, .inl (fun _ => 0))), (q3, .inl (zI g, 600, .inl (fun _ => 0))), (q4, .inl (zI g, 200, .inl (fun _ => 0))), (q5, .inl (zI g, 118, .inl f123)), (q124, .inl (zI g, 2000, .inl (fun _ => 0)))]) F zu_wsX100 tyX10 tyX10_ok nmX10 hP hD hS 0 rfl rfl 11 (by decide) zw_736 rfl hin rfl rfl rfl (Nat.le_of_ble_eq_true rfl) dX10_init_756 rfl (fun H locs hP hD hS => ?_)
  refine lv_aload_n hx hb dX10_init_759 rfl (lv_at hl 0 rfl) ?_
  refine lv_sipush (v := 201) hx hb dX10_init_760 (by decide) ?_
  refine z_newI (N' := 201) F zw_23 hP hD hS (by decide) (by decide) (Nat.le_of_ble_eq_true rfl) (Nat.le_of_ble_eq_true rfl) (Nat.le_of_ble_eq_true rfl) dX10_init_763 (fun q125 H hP hD hS => ?_)
  have hP : va_P (zD g) vwCl [(h0, .inr (8, [.ref q1, .ref q2, .int 0, .ref q3, .int 0, .int 0, .int 0, .int 0, .ref q4, .int 0, .ref q5, .ref q124, .int 0, .int 0, .int 0, .int 0, .null, .int 0, .int 0, .long 0])), (q1, .inl (zI g, 3217, .inl (fun _ => 0))), (q2, .inl (zI g, 12868, .inl (fun _ => 0))), (q3, .inl (zI g, 600, .inl (fun _ => 0))), (q4, .inl (zI g, 200, .inl (fun _ => 0))), (q5, .inl (zI g, 118, .inl f123)), (q124, .inl (zI g, 2000, .inl (fun _ => 0))), (q125, .inl (zI g, 201, .inl (fun _ => 0)))] H := hP
  have hD : va_D A [(h0, .inr (8, [.ref q1, .ref q2, .int 0, .ref q3, .int 0, .int 0, .int 0, .int 0, .ref q4, .int 0, .ref q5, .ref q124, .int 0, .int 0, .int 0, .int 0, .null, .int 0, .int 0, .long 0])), (q1, .inl (zI g, 3217, .inl (fun _ => 0))), (q2, .inl (zI g, 12868, .inl (fun _ => 0))), (q3, .inl (zI g, 600, .inl (fun _ => 0))), (q4, .inl (zI g, 200, .inl (fun _ => 0))), (q5, .inl (zI g, 118, .inl f123)), (q124, .inl (zI g, 2000, .inl (fun _ => 0))), (q125, .inl (zI g, 201, .inl (fun _ => 0)))] := hD
  refine z_putF (T := TX10) (N := 20) (ci := 8) (W1 := [(h0, .inr (8, [.ref q1, .ref q2, .int 0, .ref q3, .int 0, .int 0, .int 0, .int 0, .ref q4, .int 0, .ref q5, .ref q124, .int 0, .int 0, .int 0, .int 0, .ref q125, .int 0, .int 0, .long 0])), (q1, .inl (zI g, 3217, .inl (fun _ => 0))), (q2, .inl (zI g, 12868, .inl (fun _ => 0))), (q3, .inl (zI g, 600, .inl (fun _ => 0))), (q4, .inl (zI g, 200, .inl (fun _ => 0))), (q5, .inl (zI g, 118, .inl f123)), (q124, .inl (zI g, 2000, .inl (fun _ => 0))), (q125, .inl (zI g, 201, .inl (fun _ => 0)))]) F zu_wsX100 tyX10 tyX10_ok nmX10 hP hD hS 0 rfl rfl 16 (by decide) zw_737 rfl hin rfl rfl rfl (Nat.le_of_ble_eq_true rfl) dX10_init_765 rfl (fun H locs hP hD hS => ?_)
  subst ef6
  subst ef7
  subst ef8
  subst ef9
  subst ef10
  subst ef11
  subst ef12
  subst ef13
  subst ef14
  subst ef15
  subst ef16
  subst ef17
  subst ef18
  subst ef19
  subst ef20
  subst ef21
  subst ef22
  subst ef23
  subst ef24
  subst ef25
  subst ef26
  subst ef27
  subst ef28
  subst ef29
  subst ef30
  subst ef31
  subst ef32
  subst ef33
  subst ef34
  subst ef35
  subst ef36
  subst ef37
  subst ef38
  subst ef39
  subst ef40
  subst ef41
  subst ef42
  subst ef43
  subst ef44
  subst ef45
  subst ef46
  subst ef47
  subst ef48
  subst ef49
  subst ef50
  subst ef51
  subst ef52
  subst ef53
  subst ef54
  subst ef55
  subst ef56
  subst ef57
  subst ef58
  subst ef59
  subst ef60
  subst ef61
  subst ef62
  subst ef63
  subst ef64
  subst ef65
  subst ef66
  subst ef67
  subst ef68
  subst ef69
  subst ef70
  subst ef71
  subst ef72
  subst ef73
  subst ef74
  subst ef75
  subst ef76
  subst ef77
  subst ef78
  subst ef79
  subst ef80
  subst ef81
  subst ef82
  subst ef83
  subst ef84
  subst ef85
  subst ef86
  subst ef87
  subst ef88
  subst ef89
  subst ef90
  subst ef91
  subst ef92
  subst ef93
  subst ef94
  subst ef95
  subst ef96
  subst ef97
  subst ef98
  subst ef99
  subst ef100
  subst ef101
  subst ef102
  subst ef103
  subst ef104
  subst ef105
  subst ef106
  subst ef107
  subst ef108
  subst ef109
  subst ef110
  subst ef111
  subst ef112
  subst ef113
  subst ef114
  subst ef115
  subst ef116
  subst ef117
  subst ef118
  subst ef119
  subst ef120
  subst ef121
  subst ef122
  subst ef123
  exact zI_v (w1 := (fun z : Nat × Nat × Nat × Nat × Nat × Nat × Nat => [(h0, .inr (8, [.ref z.1, .ref z.2.1, .int 0, .ref z.2.2.1, .int 0, .int 0, .int 0, .int 0, .ref z.2.2.2.1, .int 0, .ref z.2.2.2.2.1, .ref z.2.2.2.2.2.1, .int 0, .int 0, .int 0, .int 0, .ref z.2.2.2.2.2.2, .int 0, .int 0, .long 0])), (z.1, .inl (zI g, 3217, .inl (fun _ => 0))), (z.2.1, .inl (zI g, 12868, .inl (fun _ => 0))), (z.2.2.1, .inl (zI g, 600, .inl (fun _ => 0))), (z.2.2.2.1, .inl (zI g, 200, .inl (fun _ => 0))), (z.2.2.2.2.1, .inl (zI g, 118, .inl zSp)), (z.2.2.2.2.2.1, .inl (zI g, 2000, .inl (fun _ => 0))), (z.2.2.2.2.2.2, .inl (zI g, 201, .inl (fun _ => 0)))])) (q1, q2, q3, q4, q5, q124, q125) F hr hlocks hQ hP hD rfl hS dX10_init_768
