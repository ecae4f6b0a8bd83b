def f_X0_ofNote (N : Nat) (x0 : Int32) (x1 : Int32) (x2 : Int32) (x3 : Int32) : Option Int32 :=
  Option.bind (if x3 = 0 then some 0 else some 16) (fun (r1_ : Int32) => some (((((8192 : Int32) ||| (x0 <<< ((7 : Int32) &&& (31 : Int32)))) ||| (x1 <<< ((5 : Int32) &&& (31 : Int32)))) ||| r1_) ||| x2))
abbrev rm_X0_ofNote : Room := { frames := 0, cells := 0, slots := 0, locals := 0 }
theorem zy_X0_ofNote : zYs yX0_ofNote cX0_ofNote 4 (some .int) 4 := ⟨zw_267, zw_7, zw_0, ⟨by decide, by decide⟩, by decide +kernel⟩
set_option maxHeartbeats 4000000 in
set_option maxRecDepth 100000 in
theorem k_X0_ofNote (l : Launch) (N : Nat) (g : zEnv) (x0 : Int32) (x1 : Int32) (x2 : Int32) (x3 : Int32) (r : Int32) (h : f_X0_ofNote N x0 x1 x2 x3 = some r) : ZR l yX0_ofNote cX0_ofNote 4 (some .int) rm_X0_ofNote g [.int x0, .int x1, .int x2, .int x3] [] (some (.int r)) := by
  refine zR_of (by decide) (Nat.le_of_ble_eq_true rfl) ?_
  intro p e s m below meth c A ls Q R F hRm hr hlocks hP hD hS hl hQ
  subst hRm
  have F : zF p m c cX0_ofNote 4 s (([.int x0, .int x1, .int x2, .int x3] : List Value)).toArray RX0 g A := F
  have hx := F.1.1
  have hb := F.1.2.1
  have hz := F.1.2.2.2.2
  have hl : lv_has ls 4 [(0, .int x0), (1, .int x1), (2, .int x2), (3, .int x3)] := hl
  unfold f_X0_ofNote at h
  refine lv_sipush (v := 8192) hx hb dX0_ofNote_0 (by decide) ?_
  refine lv_iload_n hx hb dX0_ofNote_3 rfl (lv_at hl 0 rfl) ?_
  refine lv_bipush (v := 7) hx hb dX0_ofNote_4 (by decide) ?_
  refine lv_ishl hx hb dX0_ofNote_6 ?_
  refine lv_ior hx hb dX0_ofNote_7 ?_
  refine lv_iload_n hx hb dX0_ofNote_8 rfl (lv_at hl 1 rfl) ?_
  refine lv_iconst (v := 5) hx hb dX0_ofNote_9 (by decide) ?_
  refine lv_ishl hx hb dX0_ofNote_10 ?_
  refine lv_ior hx hb dX0_ofNote_11 ?_
  refine lv_iload_n hx hb dX0_ofNote_12 rfl (lv_at hl 3 rfl) ?_
  obtain ⟨r1_, hA22_, h⟩ := z_bind h
  have k22_ : ∀ (ls : Array Slot), lv_has ls 4 [(2, .int x2)] → W p l e rm_X0_ofNote s m (([.int x0, .int x1, .int x2, .int x3] : List Value)).toArray below meth c s.heap [] 0 0 Q (F0 m 22 ls [.int r1_, .int (((8192 : Int32) ||| (x0 <<< ((7 : Int32) &&& (31 : Int32)))) ||| (x1 <<< ((5 : Int32) &&& (31 : Int32))))]) := by
    intro ls hl
    refine lv_ior hx hb dX0_ofNote_22 ?_
    refine lv_iload_n hx hb dX0_ofNote_23 rfl (lv_at hl 0 rfl) ?_
    refine lv_ior hx hb dX0_ofNote_24 ?_
    obtain rfl := Option.some.inj h
    exact zR_i F hr hlocks hQ dX0_ofNote_25
  have h := hA22_
  refine z_eq (tgt := 21) hx hb dX0_ofNote_13 (by decide) h (fun h => ?_) (fun h => ?_)
  · refine lv_iconst (v := 0) hx hb dX0_ofNote_21 (by decide) ?_
    obtain rfl := Option.some.inj h
    exact k22_ _ (lv_sub hl [2] rfl)
  · refine lv_bipush (v := 16) hx hb dX0_ofNote_16 (by decide) ?_
    refine lv_goto (tgt := 22) hx hb dX0_ofNote_18 (by decide) ?_
    obtain rfl := Option.some.inj h
    exact k22_ _ (lv_sub hl [2] rfl)
def f_X0_ofRest (N : Nat) (x0 : Int32) : Option Int32 :=
  some ((16384 : Int32) ||| x0)
abbrev rm_X0_ofRest : Room := { frames := 0, cells := 0, slots := 0, locals := 0 }
theorem zy_X0_ofRest : zYs yX0_ofRest cX0_ofRest 1 (some .int) 1 := ⟨zw_259, zw_7, zw_1, ⟨by decide, by decide⟩, by decide +kernel⟩
set_option maxHeartbeats 4000000 in
set_option maxRecDepth 100000 in
theorem k_X0_ofRest (l : Launch) (N : Nat) (g : zEnv) (x0 : Int32) (r : Int32) (h : f_X0_ofRest N x0 = some r) : ZR l yX0_ofRest cX0_ofRest 1 (some .int) rm_X0_ofRest g [.int x0] [] (some (.int r)) := by
  refine zR_of (by decide) (Nat.le_of_ble_eq_true rfl) ?_
  intro p e s m below meth c A ls Q R F hRm hr hlocks hP hD hS hl hQ
  subst hRm
  have F : zF p m c cX0_ofRest 1 s (([.int x0] : List Value)).toArray RX0 g A := F
  have hx := F.1.1
  have hb := F.1.2.1
  have hz := F.1.2.2.2.2
  have hl : lv_has ls 1 [(0, .int x0)] := hl
  unfold f_X0_ofRest at h
  refine lv_sipush (v := 16384) hx hb dX0_ofRest_0 (by decide) ?_
  refine lv_iload_n hx hb dX0_ofRest_3 rfl (lv_at hl 0 rfl) ?_
  refine lv_ior hx hb dX0_ofRest_4 ?_
  obtain rfl := Option.some.inj h
  exact zR_i F hr hlocks hQ dX0_ofRest_5
def f_X0_isNote (N : Nat) (x0 : Int32) : Option Int32 :=
  if (x0 &&& (8192 : Int32)) = 0 then some 0 else some 1
abbrev rm_X0_isNote : Room := { frames := 0, cells := 0, slots := 0, locals := 0 }
theorem zy_X0_isNote : zYs yX0_isNote cX0_isNote 1 (some .boolean) 1 := ⟨zw_18, zw_7, zw_2, ⟨by decide, by decide⟩, by decide +kernel⟩
set_option maxHeartbeats 4000000 in
set_option maxRecDepth 100000 in
theorem k_X0_isNote (l : Launch) (N : Nat) (g : zEnv) (x0 : Int32) (r : Int32) (h : f_X0_isNote N x0 = some r) : ZR l yX0_isNote cX0_isNote 1 (some .boolean) rm_X0_isNote g [.int x0] [] (some (.int r)) := by
  refine zR_of (by decide) (Nat.le_of_ble_eq_true rfl) ?_
  intro p e s m below meth c A ls Q R F hRm hr hlocks hP hD hS hl hQ
  subst hRm
  have F : zF p m c cX0_isNote 1 s (([.int x0] : List Value)).toArray RX0 g A := F
  have hx := F.1.1
  have hb := F.1.2.1
  have hz := F.1.2.2.2.2
  have hl : lv_has ls 1 [(0, .int x0)] := hl
  unfold f_X0_isNote at h
  refine lv_iload_n hx hb dX0_isNote_0 rfl (lv_at hl 0 rfl) ?_
  refine lv_sipush (v := 8192) hx hb dX0_isNote_1 (by decide) ?_
  refine lv_iand hx hb dX0_isNote_4 ?_
  refine z_eq (tgt := 12) hx hb dX0_isNote_5 (by decide) h (fun h => ?_) (fun h => ?_)
  · refine lv_iconst (v := 0) hx hb dX0_isNote_12 (by decide) ?_
    obtain rfl := Option.some.inj h
    exact zR_n F hr hlocks hQ rfl dX0_isNote_13
  · refine lv_iconst (v := 1) hx hb dX0_isNote_8 (by decide) ?_
    refine lv_goto (tgt := 13) hx hb dX0_isNote_9 (by decide) ?_
    obtain rfl := Option.some.inj h
    exact zR_n F hr hlocks hQ rfl dX0_isNote_13
def f_X0_isTied (N : Nat) (x0 : Int32) : Option Int32 :=
  if (x0 &&& (16 : Int32)) = 0 then some 0 else some 1
abbrev rm_X0_isTied : Room := { frames := 0, cells := 0, slots := 0, locals := 0 }
theorem zy_X0_isTied : zYs yX0_isTied cX0_isTied 1 (some .boolean) 1 := ⟨zw_310, zw_7, zw_3, ⟨by decide, by decide⟩, by decide +kernel⟩
set_option maxHeartbeats 4000000 in
set_option maxRecDepth 100000 in
theorem k_X0_isTied (l : Launch) (N : Nat) (g : zEnv) (x0 : Int32) (r : Int32) (h : f_X0_isTied N x0 = some r) : ZR l yX0_isTied cX0_isTied 1 (some .boolean) rm_X0_isTied g [.int x0] [] (some (.int r)) := by
  refine zR_of (by decide) (Nat.le_of_ble_eq_true rfl) ?_
  intro p e s m below meth c A ls Q R F hRm hr hlocks hP hD hS hl hQ
  subst hRm
  have F : zF p m c cX0_isTied 1 s (([.int x0] : List Value)).toArray RX0 g A := F
  have hx := F.1.1
  have hb := F.1.2.1
  have hz := F.1.2.2.2.2
  have hl : lv_has ls 1 [(0, .int x0)] := hl
  unfold f_X0_isTied at h
  refine lv_iload_n hx hb dX0_isTied_0 rfl (lv_at hl 0 rfl) ?_
  refine lv_bipush (v := 16) hx hb dX0_isTied_1 (by decide) ?_
  refine lv_iand hx hb dX0_isTied_3 ?_
  refine z_eq (tgt := 11) hx hb dX0_isTied_4 (by decide) h (fun h => ?_) (fun h => ?_)
  · refine lv_iconst (v := 0) hx hb dX0_isTied_11 (by decide) ?_
    obtain rfl := Option.some.inj h
    exact zR_n F hr hlocks hQ rfl dX0_isTied_12
  · refine lv_iconst (v := 1) hx hb dX0_isTied_7 (by decide) ?_
    refine lv_goto (tgt := 12) hx hb dX0_isTied_8 (by decide) ?_
    obtain rfl := Option.some.inj h
    exact zR_n F hr hlocks hQ rfl dX0_isTied_12
def f_X0_pitchOf (N : Nat) (x0 : Int32) : Option Int32 :=
  some ((x0 >>> ((7 : Int32) &&& (31 : Int32))) &&& (63 : Int32))
abbrev rm_X0_pitchOf : Room := { frames := 0, cells := 0, slots := 0, locals := 0 }
theorem zy_X0_pitchOf : zYs yX0_pitchOf cX0_pitchOf 1 (some .int) 1 := ⟨zw_6, zw_7, zw_4, ⟨by decide, by decide⟩, by decide +kernel⟩
set_option maxHeartbeats 4000000 in
set_option maxRecDepth 100000 in
theorem k_X0_pitchOf (l : Launch) (N : Nat) (g : zEnv) (x0 : Int32) (r : Int32) (h : f_X0_pitchOf N x0 = some r) : ZR l yX0_pitchOf cX0_pitchOf 1 (some .int) rm_X0_pitchOf g [.int x0] [] (some (.int r)) := by
  refine zR_of (by decide) (Nat.le_of_ble_eq_true rfl) ?_
  intro p e s m below meth c A ls Q R F hRm hr hlocks hP hD hS hl hQ
  subst hRm
  have F : zF p m c cX0_pitchOf 1 s (([.int x0] : List Value)).toArray RX0 g A := F
  have hx := F.1.1
  have hb := F.1.2.1
  have hz := F.1.2.2.2.2
  have hl : lv_has ls 1 [(0, .int x0)] := hl
  unfold f_X0_pitchOf at h
  refine lv_iload_n hx hb dX0_pitchOf_0 rfl (lv_at hl 0 rfl) ?_
  refine lv_bipush (v := 7) hx hb dX0_pitchOf_1 (by decide) ?_
  refine lv_ishr hx hb dX0_pitchOf_3 ?_
  refine lv_bipush (v := 63) hx hb dX0_pitchOf_4 (by decide) ?_
  refine lv_iand hx hb dX0_pitchOf_6 ?_
  obtain rfl := Option.some.inj h
  exact zR_i F hr hlocks hQ dX0_pitchOf_7
def f_X0_octaveOf (N : Nat) (x0 : Int32) : Option Int32 :=
  Option.bind (f_X0_pitchOf N x0) (fun (r1_ : Int32) => Option.bind (zDiv r1_ 7) (fun (x2_ : Int32) => some x2_))
abbrev rm_X0_octaveOf : Room := { frames := 1, cells := 0, slots := 0, locals := 20 }
theorem zy_X0_octaveOf : zYs yX0_octaveOf cX0_octaveOf 1 (some .int) 1 := ⟨zw_370, zw_7, zw_8, ⟨by decide, by decide⟩, by decide +kernel⟩
set_option maxHeartbeats 4000000 in
set_option maxRecDepth 100000 in
theorem k_X0_octaveOf (l : Launch) (N : Nat) (g : zEnv) (x0 : Int32) (r : Int32) (h : f_X0_octaveOf N x0 = some r) : ZR l yX0_octaveOf cX0_octaveOf 1 (some .int) rm_X0_octaveOf g [.int x0] [] (some (.int r)) := by
  refine zR_of (by decide) (Nat.le_of_ble_eq_true rfl) ?_
  intro p e s m below meth c A ls Q R F hRm hr hlocks hP hD hS hl hQ
  subst hRm
  have F : zF p m c cX0_octaveOf 1 s (([.int x0] : List Value)).toArray RX0 g A := F
  have hx := F.1.1
  have hb := F.1.2.1
  have hz := F.1.2.2.2.2
  have hl : lv_has ls 1 [(0, .int x0)] := hl
  unfold f_X0_octaveOf at h
  refine lv_iload_n hx hb dX0_octaveOf_0 rfl (lv_at hl 0 rfl) ?_
  obtain ⟨r1_, hr1_, h⟩ := z_bind h
  refine zRS F (k_X0_pitchOf l N g x0 _ hr1_) zy_X0_pitchOf zw_5 hP hD hS [] rfl rfl (rest := []) rfl hl.1 rfl (Nat.le_of_ble_eq_true rfl) ⟨rfl, rfl⟩ ⟨Nat.le_of_ble_eq_true rfl, Nat.le_of_ble_eq_true rfl⟩ ⟨Nat.zero_le _, Nat.zero_le _⟩ dX0_octaveOf_1 (st1 := [.int r1_]) rfl ?_
  refine lv_bipush (v := 7) hx hb dX0_octaveOf_4 (by decide) ?_
  refine z_div hx hb dX0_octaveOf_6 h (fun x2_ h => ?_)
  obtain rfl := Option.some.inj h
  exact zR_i F hr hlocks hQ dX0_octaveOf_7
def f_X0_stepOf (N : Nat) (x0 : Int32) : Option Int32 :=
  Option.bind (f_X0_pitchOf N x0) (fun (r1_ : Int32) => Option.bind (zRem r1_ 7) (fun (x2_ : Int32) => some x2_))
abbrev rm_X0_stepOf : Room := { frames := 1, cells := 0, slots := 0, locals := 20 }
theorem zy_X0_stepOf : zYs yX0_stepOf cX0_stepOf 1 (some .int) 1 := ⟨zw_363, zw_7, zw_9, ⟨by decide, by decide⟩, by decide +kernel⟩
set_option maxHeartbeats 4000000 in
set_option maxRecDepth 100000 in
theorem k_X0_stepOf (l : Launch) (N : Nat) (g : zEnv) (x0 : Int32) (r : Int32) (h : f_X0_stepOf N x0 = some r) : ZR l yX0_stepOf cX0_stepOf 1 (some .int) rm_X0_stepOf g [.int x0] [] (some (.int r)) := by
  refine zR_of (by decide) (Nat.le_of_ble_eq_true rfl) ?_
  intro p e s m below meth c A ls Q R F hRm hr hlocks hP hD hS hl hQ
  subst hRm
  have F : zF p m c cX0_stepOf 1 s (([.int x0] : List Value)).toArray RX0 g A := F
  have hx := F.1.1
  have hb := F.1.2.1
  have hz := F.1.2.2.2.2
  have hl : lv_has ls 1 [(0, .int x0)] := hl
  unfold f_X0_stepOf at h
  refine lv_iload_n hx hb dX0_stepOf_0 rfl (lv_at hl 0 rfl) ?_
  obtain ⟨r1_, hr1_, h⟩ := z_bind h
  refine zRS F (k_X0_pitchOf l N g x0 _ hr1_) zy_X0_pitchOf zw_5 hP hD hS [] rfl rfl (rest := []) rfl hl.1 rfl (Nat.le_of_ble_eq_true rfl) ⟨rfl, rfl⟩ ⟨Nat.le_of_ble_eq_true rfl, Nat.le_of_ble_eq_true rfl⟩ ⟨Nat.zero_le _, Nat.zero_le _⟩ dX0_stepOf_1 (st1 := [.int r1_]) rfl ?_
  refine lv_bipush (v := 7) hx hb dX0_stepOf_4 (by decide) ?_
  refine z_rem hx hb dX0_stepOf_6 h (fun x2_ h => ?_)
  obtain rfl := Option.some.inj h
  exact zR_i F hr hlocks hQ dX0_stepOf_7
def f_X0_signOf (N : Nat) (x0 : Int32) : Option Int32 :=
  some ((x0 >>> ((5 : Int32) &&& (31 : Int32))) &&& (3 : Int32))
abbrev rm_X0_signOf : Room := { frames := 0, cells := 0, slots := 0, locals := 0 }
theorem zy_X0_signOf : zYs yX0_signOf cX0_signOf 1 (some .int) 1 := ⟨zw_367, zw_7, zw_10, ⟨by decide, by decide⟩, by decide +kernel⟩
set_option maxHeartbeats 4000000 in
set_option maxRecDepth 100000 in
theorem k_X0_signOf (l : Launch) (N : Nat) (g : zEnv) (x0 : Int32) (r : Int32) (h : f_X0_signOf N x0 = some r) : ZR l yX0_signOf cX0_signOf 1 (some .int) rm_X0_signOf g [.int x0] [] (some (.int r)) := by
  refine zR_of (by decide) (Nat.le_of_ble_eq_true rfl) ?_
  intro p e s m below meth c A ls Q R F hRm hr hlocks hP hD hS hl hQ
  subst hRm
  have F : zF p m c cX0_signOf 1 s (([.int x0] : List Value)).toArray RX0 g A := F
  have hx := F.1.1
  have hb := F.1.2.1
  have hz := F.1.2.2.2.2
  have hl : lv_has ls 1 [(0, .int x0)] := hl
  unfold f_X0_signOf at h
  refine lv_iload_n hx hb dX0_signOf_0 rfl (lv_at hl 0 rfl) ?_
  refine lv_iconst (v := 5) hx hb dX0_signOf_1 (by decide) ?_
  refine lv_ishr hx hb dX0_signOf_2 ?_
  refine lv_iconst (v := 3) hx hb dX0_signOf_3 (by decide) ?_
  refine lv_iand hx hb dX0_signOf_4 ?_
  obtain rfl := Option.some.inj h
  exact zR_i F hr hlocks hQ dX0_signOf_5
def f_X0_durationOf (N : Nat) (x0 : Int32) : Option Int32 :=
  some (x0 &&& (15 : Int32))
abbrev rm_X0_durationOf : Room := { frames := 0, cells := 0, slots := 0, locals := 0 }
theorem zy_X0_durationOf : zYs yX0_durationOf cX0_durationOf 1 (some .int) 1 := ⟨zw_13, zw_7, zw_11, ⟨by decide, by decide⟩, by decide +kernel⟩
set_option maxHeartbeats 4000000 in
set_option maxRecDepth 100000 in
theorem k_X0_durationOf (l : Launch) (N : Nat) (g : zEnv) (x0 : Int32) (r : Int32) (h : f_X0_durationOf N x0 = some r) : ZR l yX0_durationOf cX0_durationOf 1 (some .int) rm_X0_durationOf g [.int x0] [] (some (.int r)) := by
  refine zR_of (by decide) (Nat.le_of_ble_eq_true rfl) ?_
  intro p e s m below meth c A ls Q R F hRm hr hlocks hP hD hS hl hQ
  subst hRm
  have F : zF p m c cX0_durationOf 1 s (([.int x0] : List Value)).toArray RX0 g A := F
  have hx := F.1.1
  have hb := F.1.2.1
  have hz := F.1.2.2.2.2
  have hl : lv_has ls 1 [(0, .int x0)] := hl
  unfold f_X0_durationOf at h
  refine lv_iload_n hx hb dX0_durationOf_0 rfl (lv_at hl 0 rfl) ?_
  refine lv_bipush (v := 15) hx hb dX0_durationOf_1 (by decide) ?_
  refine lv_iand hx hb dX0_durationOf_3 ?_
  obtain rfl := Option.some.inj h
  exact zR_i F hr hlocks hQ dX0_durationOf_4
def f_X0_isDotted (N : Nat) (x0 : Int32) : Option Int32 :=
  Option.bind (f_X0_durationOf N x0) (fun (r1_ : Int32) => Option.bind (zRem r1_ 2) (fun (x2_ : Int32) => if x2_ = 1 then some 1 else some 0))
abbrev rm_X0_isDotted : Room := { frames := 1, cells := 0, slots := 0, locals := 20 }
theorem zy_X0_isDotted : zYs yX0_isDotted cX0_isDotted 1 (some .boolean) 1 := ⟨zw_372, zw_7, zw_14, ⟨by decide, by decide⟩, by decide +kernel⟩
set_option maxHeartbeats 4000000 in
set_option maxRecDepth 100000 in
theorem k_X0_isDotted (l : Launch) (N : Nat) (g : zEnv) (x0 : Int32) (r : Int32) (h : f_X0_isDotted N x0 = some r) : ZR l yX0_isDotted cX0_isDotted 1 (some .boolean) rm_X0_isDotted g [.int x0] [] (some (.int r)) := by
  refine zR_of (by decide) (Nat.le_of_ble_eq_true rfl) ?_
  intro p e s m below meth c A ls Q R F hRm hr hlocks hP hD hS hl hQ
  subst hRm
  have F : zF p m c cX0_isDotted 1 s (([.int x0] : List Value)).toArray RX0 g A := F
  have hx := F.1.1
  have hb := F.1.2.1
  have hz := F.1.2.2.2.2
  have hl : lv_has ls 1 [(0, .int x0)] := hl
  unfold f_X0_isDotted at h
  refine lv_iload_n hx hb dX0_isDotted_0 rfl (lv_at hl 0 rfl) ?_
  obtain ⟨r1_, hr1_, h⟩ := z_bind h
  refine zRS F (k_X0_durationOf l N g x0 _ hr1_) zy_X0_durationOf zw_12 hP hD hS [] rfl rfl (rest := []) rfl hl.1 rfl (Nat.le_of_ble_eq_true rfl) ⟨rfl, rfl⟩ ⟨Nat.le_of_ble_eq_true rfl, Nat.le_of_ble_eq_true rfl⟩ ⟨Nat.zero_le _, Nat.zero_le _⟩ dX0_isDotted_1 (st1 := [.int r1_]) rfl ?_
  refine lv_iconst (v := 2) hx hb dX0_isDotted_4 (by decide) ?_
  refine z_rem hx hb dX0_isDotted_5 h (fun x2_ h => ?_)
  refine lv_iconst (v := 1) hx hb dX0_isDotted_6 (by decide) ?_
  refine z_cne (tgt := 14) hx hb dX0_isDotted_7 (by decide) h (fun h => ?_) (fun h => ?_)
  · refine lv_iconst (v := 0) hx hb dX0_isDotted_14 (by decide) ?_
    obtain rfl := Option.some.inj h
    exact zR_n F hr hlocks hQ rfl dX0_isDotted_15
  · refine lv_iconst (v := 1) hx hb dX0_isDotted_10 (by decide) ?_
    refine lv_goto (tgt := 15) hx hb dX0_isDotted_11 (by decide) ?_
    obtain rfl := Option.some.inj h
    exact zR_n F hr hlocks hQ rfl dX0_isDotted_15
def f_X0_lengthOf (N : Nat) (x0 : Int32) : Option Int32 :=
  Option.bind (f_X0_durationOf N x0) (fun (r1_ : Int32) => Option.bind (zDiv r1_ 2) (fun (x2_ : Int32) => some x2_))
abbrev rm_X0_lengthOf : Room := { frames := 1, cells := 0, slots := 0, locals := 20 }
theorem zy_X0_lengthOf : zYs yX0_lengthOf cX0_lengthOf 1 (some .int) 1 := ⟨zw_374, zw_7, zw_15, ⟨by decide, by decide⟩, by decide +kernel⟩
set_option maxHeartbeats 4000000 in
set_option maxRecDepth 100000 in
theorem k_X0_lengthOf (l : Launch) (N : Nat) (g : zEnv) (x0 : Int32) (r : Int32) (h : f_X0_lengthOf N x0 = some r) : ZR l yX0_lengthOf cX0_lengthOf 1 (some .int) rm_X0_lengthOf g [.int x0] [] (some (.int r)) := by
  refine zR_of (by decide) (Nat.le_of_ble_eq_true rfl) ?_
  intro p e s m below meth c A ls Q R F hRm hr hlocks hP hD hS hl hQ
  subst hRm
  have F : zF p m c cX0_lengthOf 1 s (([.int x0] : List Value)).toArray RX0 g A := F
  have hx := F.1.1
  have hb := F.1.2.1
  have hz := F.1.2.2.2.2
  have hl : lv_has ls 1 [(0, .int x0)] := hl
  unfold f_X0_lengthOf at h
  refine lv_iload_n hx hb dX0_lengthOf_0 rfl (lv_at hl 0 rfl) ?_
  obtain ⟨r1_, hr1_, h⟩ := z_bind h
  refine zRS F (k_X0_durationOf l N g x0 _ hr1_) zy_X0_durationOf zw_12 hP hD hS [] rfl rfl (rest := []) rfl hl.1 rfl (Nat.le_of_ble_eq_true rfl) ⟨rfl, rfl⟩ ⟨Nat.le_of_ble_eq_true rfl, Nat.le_of_ble_eq_true rfl⟩ ⟨Nat.zero_le _, Nat.zero_le _⟩ dX0_lengthOf_1 (st1 := [.int r1_]) rfl ?_
  refine lv_iconst (v := 2) hx hb dX0_lengthOf_4 (by decide) ?_
  refine z_div hx hb dX0_lengthOf_5 h (fun x2_ h => ?_)
  obtain rfl := Option.some.inj h
  exact zR_i F hr hlocks hQ dX0_lengthOf_6
def f_X0_ticksOf (N : Nat) (x0 : Int32) : Option Int32 :=
  Option.bind (f_X0_durationOf N x0) (fun (r1_ : Int32) => Option.bind (zDiv r1_ 2) (fun (x2_ : Int32) => Option.bind (some ((64 : Int32) >>> (x2_ &&& (31 : Int32)))) (fun (x3_ : Int32) => Option.bind (zRem r1_ 2) (fun (x4_ : Int32) => if x4_ = 1 then Option.bind (zDiv x3_ 2) (fun (x5_ : Int32) => some (x3_ + x5_)) else some x3_))))
abbrev rm_X0_ticksOf : Room := { frames := 1, cells := 0, slots := 0, locals := 20 }
theorem zy_X0_ticksOf : zYs yX0_ticksOf cX0_ticksOf 3 (some .int) 1 := ⟨zw_296, zw_7, zw_16, ⟨by decide, by decide⟩, by decide +kernel⟩
set_option maxHeartbeats 4000000 in
set_option maxRecDepth 100000 in
theorem k_X0_ticksOf (l : Launch) (N : Nat) (g : zEnv) (x0 : Int32) (r : Int32) (h : f_X0_ticksOf N x0 = some r) : ZR l yX0_ticksOf cX0_ticksOf 3 (some .int) rm_X0_ticksOf g [.int x0] [] (some (.int r)) := by
  refine zR_of (by decide) (Nat.le_of_ble_eq_true rfl) ?_
  intro p e s m below meth c A ls Q R F hRm hr hlocks hP hD hS hl hQ
  subst hRm
  have F : zF p m c cX0_ticksOf 3 s (([.int x0] : List Value)).toArray RX0 g A := F
  have hx := F.1.1
  have hb := F.1.2.1
  have hz := F.1.2.2.2.2
  have hl : lv_has ls 3 [(0, .int x0)] := hl
  unfold f_X0_ticksOf at h
  refine lv_iload_n hx hb dX0_ticksOf_0 rfl (lv_at hl 0 rfl) ?_
  obtain ⟨r1_, hr1_, h⟩ := z_bind h
  refine zRS F (k_X0_durationOf l N g x0 _ hr1_) zy_X0_durationOf zw_12 hP hD hS [] rfl rfl (rest := []) rfl hl.1 rfl (Nat.le_of_ble_eq_true rfl) ⟨rfl, rfl⟩ ⟨Nat.le_of_ble_eq_true rfl, Nat.le_of_ble_eq_true rfl⟩ ⟨Nat.zero_le _, Nat.zero_le _⟩ dX0_ticksOf_1 (st1 := [.int r1_]) rfl ?_
  refine lv_istore_n (lv' := [(1, .int r1_), (0, .int x0)]) hx hb dX0_ticksOf_4 rfl hl (by decide) rfl (fun ls hl => ?_)
  refine lv_bipush (v := 64) hx hb dX0_ticksOf_5 (by decide) ?_
  refine lv_iload_n hx hb dX0_ticksOf_7 rfl (lv_at hl 0 rfl) ?_
  refine lv_iconst (v := 2) hx hb dX0_ticksOf_8 (by decide) ?_
  refine z_div hx hb dX0_ticksOf_9 h (fun x2_ h => ?_)
  refine lv_ishr hx hb dX0_ticksOf_10 ?_
  refine z_top Value.int h (fun x3_ h => ?_)
  refine lv_istore_n (lv' := [(2, .int x3_), (1, .int r1_), (0, .int x0)]) hx hb dX0_ticksOf_11 rfl hl (by decide) rfl (fun ls hl => ?_)
  refine lv_iload_n hx hb dX0_ticksOf_12 rfl (lv_at hl 1 rfl) ?_
  refine lv_iconst (v := 2) hx hb dX0_ticksOf_13 (by decide) ?_
  refine z_rem hx hb dX0_ticksOf_14 h (fun x4_ h => ?_)
  refine lv_iconst (v := 1) hx hb dX0_ticksOf_15 (by decide) ?_
  refine z_cne (tgt := 27) hx hb dX0_ticksOf_16 (by decide) h (fun h => ?_) (fun h => ?_)
  · refine lv_iload_n hx hb dX0_ticksOf_27 rfl (lv_at hl 0 rfl) ?_
    obtain rfl := Option.some.inj h
    exact zR_i F hr hlocks hQ dX0_ticksOf_28
  · refine lv_iload_n hx hb dX0_ticksOf_19 rfl (lv_at hl 0 rfl) ?_
    refine lv_iload_n hx hb dX0_ticksOf_20 rfl (lv_at hl 0 rfl) ?_
    refine lv_iconst (v := 2) hx hb dX0_ticksOf_21 (by decide) ?_
    refine z_div hx hb dX0_ticksOf_22 h (fun x5_ h => ?_)
    refine lv_iadd hx hb dX0_ticksOf_23 ?_
    refine lv_goto (tgt := 28) hx hb dX0_ticksOf_24 (by decide) ?_
    obtain rfl := Option.some.inj h
    exact zR_i F hr hlocks hQ dX0_ticksOf_28
def f_X0_samePitch (N : Nat) (x0 : Int32) (x1 : Int32) : Option Int32 :=
  Option.bind (f_X0_isNote N x0) (fun (r1_ : Int32) => if r1_ = 0 then some 0 else Option.bind (f_X0_isNote N x1) (fun (r2_ : Int32) => if r2_ = 0 then some 0 else Option.bind (f_X0_pitchOf N x0) (fun (r3_ : Int32) => Option.bind (f_X0_pitchOf N x1) (fun (r4_ : Int32) => if r3_ = r4_ then some 1 else some 0))))
abbrev rm_X0_samePitch : Room := { frames := 1, cells := 0, slots := 0, locals := 20 }
theorem zy_X0_samePitch : zYs yX0_samePitch cX0_samePitch 2 (some .boolean) 2 := ⟨zw_315, zw_7, zw_19, ⟨by decide, by decide⟩, by decide +kernel⟩
set_option maxHeartbeats 4000000 in
set_option maxRecDepth 100000 in
theorem k_X0_samePitch (l : Launch) (N : Nat) (g : zEnv) (x0 : Int32) (x1 : Int32) (r : Int32) (h : f_X0_samePitch N x0 x1 = some r) : ZR l yX0_samePitch cX0_samePitch 2 (some .boolean) rm_X0_samePitch g [.int x0, .int x1] [] (some (.int r)) := by
  refine zR_of (by decide) (Nat.le_of_ble_eq_true rfl) ?_
  intro p e s m below meth c A ls Q R F hRm hr hlocks hP hD hS hl hQ
  subst hRm
  have F : zF p m c cX0_samePitch 2 s (([.int x0, .int x1] : List Value)).toArray RX0 g A := F
  have hx := F.1.1
  have hb := F.1.2.1
  have hz := F.1.2.2.2.2
  have hl : lv_has ls 2 [(0, .int x0), (1, .int x1)] := hl
  unfold f_X0_samePitch at h
  refine lv_iload_n hx hb dX0_samePitch_0 rfl (lv_at hl 0 rfl) ?_
  obtain ⟨r1_, hr1_, h⟩ := z_bind h
  refine zRS F (k_X0_isNote l N g x0 _ hr1_) zy_X0_isNote zw_17 hP hD hS [] rfl rfl (rest := []) rfl hl.1 rfl (Nat.le_of_ble_eq_true rfl) ⟨rfl, rfl⟩ ⟨Nat.le_of_ble_eq_true rfl, Nat.le_of_ble_eq_true rfl⟩ ⟨Nat.zero_le _, Nat.zero_le _⟩ dX0_samePitch_1 (st1 := [.int r1_]) rfl ?_
  refine z_eq (tgt := 29) hx hb dX0_samePitch_4 (by decide) h (fun h => ?_) (fun h => ?_)
  · refine lv_iconst (v := 0) hx hb dX0_samePitch_29 (by decide) ?_
    obtain rfl := Option.some.inj h
    exact zR_n F hr hlocks hQ rfl dX0_samePitch_30
  · refine lv_iload_n hx hb dX0_samePitch_7 rfl (lv_at hl 1 rfl) ?_
    obtain ⟨r2_, hr2_, h⟩ := z_bind h
    refine zRS F (k_X0_isNote l N g x1 _ hr2_) zy_X0_isNote zw_17 hP hD hS [] rfl rfl (rest := []) rfl hl.1 rfl (Nat.le_of_ble_eq_true rfl) ⟨rfl, rfl⟩ ⟨Nat.le_of_ble_eq_true rfl, Nat.le_of_ble_eq_true rfl⟩ ⟨Nat.zero_le _, Nat.zero_le _⟩ dX0_samePitch_8 (st1 := [.int r2_]) rfl ?_
    refine z_eq (tgt := 29) hx hb dX0_samePitch_11 (by decide) h (fun h => ?_) (fun h => ?_)
    · refine lv_iconst (v := 0) hx hb dX0_samePitch_29 (by decide) ?_
      obtain rfl := Option.some.inj h
      exact zR_n F hr hlocks hQ rfl dX0_samePitch_30
    · refine lv_iload_n hx hb dX0_samePitch_14 rfl (lv_at hl 0 rfl) ?_
      obtain ⟨r3_, hr3_, h⟩ := z_bind h
      refine zRS F (k_X0_pitchOf l N g x0 _ hr3_) zy_X0_pitchOf zw_5 hP hD hS [] rfl rfl (rest := []) rfl hl.1 rfl (Nat.le_of_ble_eq_true rfl) ⟨rfl, rfl⟩ ⟨Nat.le_of_ble_eq_true rfl, Nat.le_of_ble_eq_true rfl⟩ ⟨Nat.zero_le _, Nat.zero_le _⟩ dX0_samePitch_15 (st1 := [.int r3_]) rfl ?_
      refine lv_iload_n hx hb dX0_samePitch_18 rfl (lv_at hl 1 rfl) ?_
      obtain ⟨r4_, hr4_, h⟩ := z_bind h
      refine zRS F (k_X0_pitchOf l N g x1 _ hr4_) zy_X0_pitchOf zw_5 hP hD hS [] rfl rfl (rest := [.int r3_]) rfl hl.1 rfl (Nat.le_of_ble_eq_true rfl) ⟨rfl, rfl⟩ ⟨Nat.le_of_ble_eq_true rfl, Nat.le_of_ble_eq_true rfl⟩ ⟨Nat.zero_le _, Nat.zero_le _⟩ dX0_samePitch_19 (st1 := [.int r4_, .int r3_]) rfl ?_
      refine z_cne (tgt := 29) hx hb dX0_samePitch_22 (by decide) h (fun h => ?_) (fun h => ?_)
      · refine lv_iconst (v := 0) hx hb dX0_samePitch_29 (by decide) ?_
        obtain rfl := Option.some.inj h
        exact zR_n F hr hlocks hQ rfl dX0_samePitch_30
      · refine lv_iconst (v := 1) hx hb dX0_samePitch_25 (by decide) ?_
        refine lv_goto (tgt := 30) hx hb dX0_samePitch_26 (by decide) ?_
        obtain rfl := Option.some.inj h
        exact zR_n F hr hlocks hQ rfl dX0_samePitch_30
