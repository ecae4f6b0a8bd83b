def f_X7_length (N : Nat) (v_length : Int32) : Option Int32 :=
  some v_length
abbrev rm_X7_length : Room := { frames := 0, cells := 0, slots := 0, locals := 0 }
theorem zy_X7_length : zYv yX7_length RX7 cX7_length 1 (some .int) 0 := ⟨zw_130, zw_131, zw_132, zw_124, ⟨by decide, by decide⟩, by decide +kernel⟩
set_option maxHeartbeats 4000000 in
set_option maxRecDepth 100000 in
theorem k_X7_length (l : Launch) (N : Nat) (g : zEnv) (a_this a_bytes : Nat) (v_length : Int32) (r : Int32) (h : f_X7_length N v_length = some r) : ZR l yX7_length cX7_length 1 (some .int) rm_X7_length g [.ref a_this] [zo_X7 a_this a_bytes v_length] (some (.int r)) := by
  refine zR_of (by decide) (Nat.le_of_ble_eq_true rfl) ?_
  intro p e s m below meth c A ls Q R F hRm hr hlocks hP hD hS hl hQ
  subst hRm
  have F : zF p m c cX7_length 1 s (([.ref a_this] : List Value)).toArray RX7 g A := F
  have hx := F.1.1
  have hb := F.1.2.1
  have hz := F.1.2.2.2.2
  have hl : lv_has ls 1 [(0, .ref a_this)] := hl
  unfold f_X7_length at h
  refine lv_aload_n hx hb dX7_length_0 rfl (lv_at hl 0 rfl) ?_
  refine z_get (C := RX7) (T := TX7) (N := 2) (ci := 6) F zu_wsX70 hP 0 rfl rfl 1 (by decide) zw_123 rfl dX7_length_1 ?_
  obtain rfl := Option.some.inj h
  exact zR_i F hr hlocks hQ dX7_length_4
def f_X7_at (N : Nat) (v_length : Int32) (v_bytes : Nat → Int32) (x1 : Int32) : Option Int32 :=
  if x1 < 0 then some 0 else if x1 < v_length then if x1 < 600 then Option.bind (zAld v_bytes 600 x1) (fun (x1_ : Int32) => some x1_) else some 0 else some 0
abbrev rm_X7_at : Room := { frames := 0, cells := 0, slots := 0, locals := 0 }
theorem zy_X7_at : zYv yX7_at RX7 cX7_at 2 (some .int) 1 := ⟨zw_134, zw_135, zw_132, zw_126, ⟨by decide, by decide⟩, by decide +kernel⟩
set_option maxHeartbeats 4000000 in
set_option maxRecDepth 100000 in
theorem k_X7_at (l : Launch) (N : Nat) (g : zEnv) (a_this a_bytes : Nat) (v_length : Int32) (v_bytes : Nat → Int32) (x1 : Int32) (r : Int32) (h : f_X7_at N v_length v_bytes x1 = some r) : ZR l yX7_at cX7_at 2 (some .int) rm_X7_at g [.ref a_this, .int x1] [zo_X7 a_this a_bytes v_length, (a_bytes, .inl (zY g, 600, .inl v_bytes))] (some (.int r)) := by
  refine zR_of (by decide) (Nat.le_of_ble_eq_true rfl) ?_
  intro p e s m below meth c A ls Q R F hRm hr hlocks hP hD hS hl hQ
  subst hRm
  have F : zF p m c cX7_at 2 s (([.ref a_this, .int x1] : List Value)).toArray RX7 g A := F
  have hx := F.1.1
  have hb := F.1.2.1
  have hz := F.1.2.2.2.2
  have hl : lv_has ls 2 [(0, .ref a_this), (1, .int x1)] := hl
  unfold f_X7_at at h
  refine lv_iload_n hx hb dX7_at_0 rfl (lv_at hl 1 rfl) ?_
  refine z_lt (tgt := 28) hx hb dX7_at_1 (by decide) h (fun h => ?_) (fun h => ?_)
  · refine lv_iconst (v := 0) hx hb dX7_at_28 (by decide) ?_
    obtain rfl := Option.some.inj h
    exact zR_i F hr hlocks hQ dX7_at_29
  · refine lv_iload_n hx hb dX7_at_4 rfl (lv_at hl 1 rfl) ?_
    refine lv_aload_n hx hb dX7_at_5 rfl (lv_at hl 0 rfl) ?_
    refine z_get (C := RX7) (T := TX7) (N := 2) (ci := 6) F zu_wsX70 hP 0 rfl rfl 1 (by decide) zw_123 rfl dX7_at_6 ?_
    refine z_cge (tgt := 28) hx hb dX7_at_9 (by decide) h (fun h => ?_) (fun h => ?_)
    · refine lv_iconst (v := 0) hx hb dX7_at_28 (by decide) ?_
      obtain rfl := Option.some.inj h
      exact zR_i F hr hlocks hQ dX7_at_29
    · refine lv_iload_n hx hb dX7_at_12 rfl (lv_at hl 1 rfl) ?_
      refine lv_sipush (v := 600) hx hb dX7_at_13 (by decide) ?_
      refine z_cge (tgt := 28) hx hb dX7_at_16 (by decide) h (fun h => ?_) (fun h => ?_)
      · refine lv_iconst (v := 0) hx hb dX7_at_28 (by decide) ?_
        obtain rfl := Option.some.inj h
        exact zR_i F hr hlocks hQ dX7_at_29
      · refine lv_aload_n hx hb dX7_at_19 rfl (lv_at hl 0 rfl) ?_
        refine z_get (C := RX7) (T := TX7) (N := 2) (ci := 6) F zu_wsX70 hP 0 rfl rfl 0 (by decide) zw_125 rfl dX7_at_20 ?_
        refine lv_iload_n hx hb dX7_at_23 rfl (lv_at hl 1 rfl) ?_
        refine z_bald F hP 1 rfl dX7_at_24 h (fun x1_ h => ?_)
        refine lv_goto (tgt := 29) hx hb dX7_at_25 (by decide) ?_
        obtain rfl := Option.some.inj h
        exact zR_i F hr hlocks hQ dX7_at_29
def f_X7_append (N : Nat) (v_length : Int32) (v_bytes : Nat → Int32) (x1 : Int32) : Option (Int32 × (Nat → Int32)) :=
  if v_length < 600 then Option.bind (zBst v_bytes 600 v_length ((x1).toInt8.toInt32)) (fun (w1_ : Nat → Int32) => Option.bind (some (v_length + 1)) (fun (x2_ : Int32) => some (x2_, w1_))) else some (v_length, v_bytes)
abbrev rm_X7_append : Room := { frames := 0, cells := 0, slots := 0, locals := 0 }
theorem zy_X7_append : zYv yX7_append RX7 cX7_append 2 none 1 := ⟨zw_660, zw_661, zw_132, zw_473, ⟨by decide, by decide⟩, by decide +kernel⟩
set_option maxHeartbeats 4000000 in
set_option maxRecDepth 100000 in
theorem k_X7_append (l : Launch) (N : Nat) (g : zEnv) (a_this a_bytes : Nat) (v_length : Int32) (v_bytes : Nat → Int32) (x1 : Int32) (r : Int32 × (Nat → Int32)) (h : f_X7_append N v_length v_bytes x1 = some r) : ZV l yX7_append cX7_append 2 none rm_X7_append g [.ref a_this, .int x1] [zo_X7 a_this a_bytes v_length, (a_bytes, .inl (zY g, 600, .inl v_bytes))] [zo_X7 a_this a_bytes r.1, (a_bytes, .inl (zY g, 600, .inl r.2))] none := by
  refine zV_of (by decide) (Nat.le_of_ble_eq_true rfl) ?_
  intro p e s m below meth c A H locs ls Q R F hRm hr hlocks hP hD hS hl hQ
  subst hRm
  have F : zF p m c cX7_append 2 s (([.ref a_this, .int x1] : List Value)).toArray RX7 g A := F
  have hx := F.1.1
  have hb := F.1.2.1
  have hz := F.1.2.2.2.2
  have hl : lv_has ls 2 [(0, .ref a_this), (1, .int x1)] := hl
  unfold f_X7_append at h
  refine lv_aload_n hx hb dX7_append_0 rfl (lv_at hl 0 rfl) ?_
  refine z_get (C := RX7) (T := TX7) (N := 2) (ci := 6) F zu_wsX70 hP 0 rfl rfl 1 (by decide) zw_123 rfl dX7_append_1 ?_
  refine lv_sipush (v := 600) hx hb dX7_append_4 (by decide) ?_
  refine z_cge (tgt := 31) hx hb dX7_append_7 (by decide) h (fun h => ?_) (fun h => ?_)
  · obtain rfl := Option.some.inj h
    exact zV_v F hr hlocks hQ hP hD hS dX7_append_31
  · refine lv_aload_n hx hb dX7_append_10 rfl (lv_at hl 0 rfl) ?_
    refine z_get (C := RX7) (T := TX7) (N := 2) (ci := 6) F zu_wsX70 hP 0 rfl rfl 0 (by decide) zw_125 rfl dX7_append_11 ?_
    refine lv_aload_n hx hb dX7_append_14 rfl (lv_at hl 0 rfl) ?_
    refine z_get (C := RX7) (T := TX7) (N := 2) (ci := 6) F zu_wsX70 hP 0 rfl rfl 1 (by decide) zw_123 rfl dX7_append_15 ?_
    refine lv_iload_n hx hb dX7_append_18 rfl (lv_at hl 1 rfl) ?_
    refine lv_i2b hx hb dX7_append_19 rfl ?_
    refine z_bast F hP hD hS 1 rfl dX7_append_20 h (W1 := fun w1_ => [zo_X7 a_this a_bytes v_length, (a_bytes, .inl (zY g, 600, .inl w1_))]) (fun _ => rfl) (fun w1_ H locs h hP hD hS => ?_)
    refine lv_aload_n hx hb dX7_append_21 rfl (lv_at hl 0 rfl) ?_
    refine lv_dup hx hb dX7_append_22 rfl ?_
    refine z_get (C := RX7) (T := TX7) (N := 2) (ci := 6) F zu_wsX70 hP 0 rfl rfl 1 (by decide) zw_123 rfl dX7_append_23 ?_
    refine lv_iconst (v := 1) hx hb dX7_append_26 (by decide) ?_
    refine lv_iadd hx hb dX7_append_27 ?_
    refine z_top Value.int h (fun x2_ h => ?_)
    refine z_put (C := RX7) (T := TX7) (N := 2) (ci := 6) (W1 := [zo_X7 a_this a_bytes x2_, (a_bytes, .inl (zY g, 600, .inl w1_))]) F zu_wsX70 tyX7 tyX7_ok nmX7 hP hD hS 0 rfl rfl 1 (by decide) zw_123 rfl rfl rfl (Nat.le_of_ble_eq_true rfl) dX7_append_28 rfl (fun H locs hP hD hS => ?_)
    obtain rfl := Option.some.inj h
    exact zV_v F hr hlocks hQ hP hD hS dX7_append_31
def f_X7_shorten (N : Nat) (v_length : Int32) (x1 : Int32) : Option Int32 :=
  Option.bind (some (zMax (v_length - x1) 0)) (fun (x1_ : Int32) => some x1_)
abbrev rm_X7_shorten : Room := { frames := 1, cells := 0, slots := 0, locals := 21 }
theorem zy_X7_shorten : zYv yX7_shorten RX7 cX7_shorten 2 none 1 := ⟨zw_657, zw_658, zw_132, zw_475, ⟨by decide, by decide⟩, by decide +kernel⟩
set_option maxHeartbeats 4000000 in
set_option maxRecDepth 100000 in
theorem k_X7_shorten (l : Launch) (N : Nat) (g : zEnv) (a_this a_bytes : Nat) (v_length : Int32) (x1 : Int32) (r : Int32) (h : f_X7_shorten N v_length x1 = some r) : ZV l yX7_shorten cX7_shorten 2 none rm_X7_shorten g [.ref a_this, .int x1] [zo_X7 a_this a_bytes v_length] [zo_X7 a_this a_bytes r] none := by
  refine zV_of (by decide) (Nat.le_of_ble_eq_true rfl) ?_
  intro p e s m below meth c A H locs ls Q R F hRm hr hlocks hP hD hS hl hQ
  subst hRm
  have F : zF p m c cX7_shorten 2 s (([.ref a_this, .int x1] : List Value)).toArray RX7 g A := F
  have hx := F.1.1
  have hb := F.1.2.1
  have hz := F.1.2.2.2.2
  have hl : lv_has ls 2 [(0, .ref a_this), (1, .int x1)] := hl
  unfold f_X7_shorten at h
  refine lv_aload_n hx hb dX7_shorten_0 rfl (lv_at hl 0 rfl) ?_
  refine lv_aload_n hx hb dX7_shorten_1 rfl (lv_at hl 0 rfl) ?_
  refine z_get (C := RX7) (T := TX7) (N := 2) (ci := 6) F zu_wsX70 hP 0 rfl rfl 1 (by decide) zw_123 rfl dX7_shorten_2 ?_
  refine lv_iload_n hx hb dX7_shorten_5 rfl (lv_at hl 1 rfl) ?_
  refine lv_isub hx hb dX7_shorten_6 ?_
  refine lv_iconst (v := 0) hx hb dX7_shorten_7 (by decide) ?_
  refine va_mmax hx hb (F.1.2.2.1.trans hl.1.symm) F.1.2.2.2.1 (hz _ zw_474) (hz _ zw_214) (hz _ zw_45) (hz _ zw_215) (Nat.le_of_ble_eq_true rfl) (Nat.le_of_ble_eq_true rfl) (Nat.zero_le _) (Nat.zero_le _) dX7_shorten_8 ?_
  refine z_top Value.int h (fun x1_ h => ?_)
  refine z_put (C := RX7) (T := TX7) (N := 2) (ci := 6) (W1 := [zo_X7 a_this a_bytes x1_]) F zu_wsX70 tyX7 tyX7_ok nmX7 hP hD hS 0 rfl rfl 1 (by decide) zw_123 rfl rfl rfl (Nat.le_of_ble_eq_true rfl) dX7_shorten_11 rfl (fun H locs hP hD hS => ?_)
  obtain rfl := Option.some.inj h
  exact zV_v F hr hlocks hQ hP hD hS dX7_shorten_14
