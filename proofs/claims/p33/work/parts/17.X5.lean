def f_X5_length (N : Nat) (v_length : Int32) : Option Int32 :=
  some v_length
abbrev rm_X5_length : Room := { frames := 0, cells := 0, slots := 0, locals := 0 }
theorem zy_X5_length : zYv yX5_length RX5 cX5_length 1 (some .int) 0 := ⟨zw_645, zw_646, zw_336, zw_328, ⟨by decide, by decide⟩, by decide +kernel⟩
set_option maxHeartbeats 4000000 in
set_option maxRecDepth 100000 in
theorem k_X5_length (l : Launch) (N : Nat) (g : zEnv) (a_this a_bytes : Nat) (v_wordCount : Int32) (v_length : Int32) (r : Int32) (h : f_X5_length N v_length = some r) : ZR l yX5_length cX5_length 1 (some .int) rm_X5_length g [.ref a_this] [zo_X5 a_this a_bytes v_length v_wordCount] (some (.int r)) := by
  refine zR_of (by decide) (Nat.le_of_ble_eq_true rfl) ?_
  intro p e s m below meth c A ls Q R F hRm hr hlocks hP hD hS hl hQ
  subst hRm
  have F : zF p m c cX5_length 1 s (([.ref a_this] : List Value)).toArray RX5 g A := F
  have hx := F.1.1
  have hb := F.1.2.1
  have hz := F.1.2.2.2.2
  have hl : lv_has ls 1 [(0, .ref a_this)] := hl
  unfold f_X5_length at h
  refine lv_aload_n hx hb dX5_length_0 rfl (lv_at hl 0 rfl) ?_
  refine z_get (C := RX5) (T := TX5) (N := 3) (ci := 4) F zu_wsX50 hP 0 rfl rfl 1 (by decide) zw_327 rfl dX5_length_1 ?_
  obtain rfl := Option.some.inj h
  exact zR_i F hr hlocks hQ dX5_length_4
def f_X5_wordCount (N : Nat) (v_wordCount : Int32) : Option Int32 :=
  some v_wordCount
abbrev rm_X5_wordCount : Room := { frames := 0, cells := 0, slots := 0, locals := 0 }
theorem zy_X5_wordCount : zYv yX5_wordCount RX5 cX5_wordCount 1 (some .int) 0 := ⟨zw_653, zw_654, zw_336, zw_330, ⟨by decide, by decide⟩, by decide +kernel⟩
set_option maxHeartbeats 4000000 in
set_option maxRecDepth 100000 in
theorem k_X5_wordCount (l : Launch) (N : Nat) (g : zEnv) (a_this a_bytes : Nat) (v_length : Int32) (v_wordCount : Int32) (r : Int32) (h : f_X5_wordCount N v_wordCount = some r) : ZR l yX5_wordCount cX5_wordCount 1 (some .int) rm_X5_wordCount g [.ref a_this] [zo_X5 a_this a_bytes v_length v_wordCount] (some (.int r)) := by
  refine zR_of (by decide) (Nat.le_of_ble_eq_true rfl) ?_
  intro p e s m below meth c A ls Q R F hRm hr hlocks hP hD hS hl hQ
  subst hRm
  have F : zF p m c cX5_wordCount 1 s (([.ref a_this] : List Value)).toArray RX5 g A := F
  have hx := F.1.1
  have hb := F.1.2.1
  have hz := F.1.2.2.2.2
  have hl : lv_has ls 1 [(0, .ref a_this)] := hl
  unfold f_X5_wordCount at h
  refine lv_aload_n hx hb dX5_wordCount_0 rfl (lv_at hl 0 rfl) ?_
  refine z_get (C := RX5) (T := TX5) (N := 3) (ci := 4) F zu_wsX50 hP 0 rfl rfl 2 (by decide) zw_329 rfl dX5_wordCount_1 ?_
  obtain rfl := Option.some.inj h
  exact zR_i F hr hlocks hQ dX5_wordCount_4
def f_X5_at (N : Nat) (v_length : Int32) (v_bytes : Nat → Int32) (x1 : Int32) : Option Int32 :=
  if x1 < 0 then some 0 else if x1 < v_length then if x1 < 1702 then Option.bind (zAld v_bytes 1702 x1) (fun (x1_ : Int32) => some x1_) else some 0 else some 0
abbrev rm_X5_at : Room := { frames := 0, cells := 0, slots := 0, locals := 0 }
theorem zy_X5_at : zYv yX5_at RX5 cX5_at 2 (some .int) 1 := ⟨zw_649, zw_650, zw_336, zw_331, ⟨by decide, by decide⟩, by decide +kernel⟩
set_option maxHeartbeats 4000000 in
set_option maxRecDepth 100000 in
theorem k_X5_at (l : Launch) (N : Nat) (g : zEnv) (a_this a_bytes : Nat) (v_wordCount : Int32) (v_length : Int32) (v_bytes : Nat → Int32) (x1 : Int32) (r : Int32) (h : f_X5_at N v_length v_bytes x1 = some r) : ZR l yX5_at cX5_at 2 (some .int) rm_X5_at g [.ref a_this, .int x1] [zo_X5 a_this a_bytes v_length v_wordCount, (a_bytes, .inl (zY g, 1702, .inl v_bytes))] (some (.int r)) := by
  refine zR_of (by decide) (Nat.le_of_ble_eq_true rfl) ?_
  intro p e s m below meth c A ls Q R F hRm hr hlocks hP hD hS hl hQ
  subst hRm
  have F : zF p m c cX5_at 2 s (([.ref a_this, .int x1] : List Value)).toArray RX5 g A := F
  have hx := F.1.1
  have hb := F.1.2.1
  have hz := F.1.2.2.2.2
  have hl : lv_has ls 2 [(0, .ref a_this), (1, .int x1)] := hl
  unfold f_X5_at at h
  refine lv_iload_n hx hb dX5_at_0 rfl (lv_at hl 1 rfl) ?_
  refine z_lt (tgt := 28) hx hb dX5_at_1 (by decide) h (fun h => ?_) (fun h => ?_)
  · refine lv_iconst (v := 0) hx hb dX5_at_28 (by decide) ?_
    obtain rfl := Option.some.inj h
    exact zR_i F hr hlocks hQ dX5_at_29
  · refine lv_iload_n hx hb dX5_at_4 rfl (lv_at hl 1 rfl) ?_
    refine lv_aload_n hx hb dX5_at_5 rfl (lv_at hl 0 rfl) ?_
    refine z_get (C := RX5) (T := TX5) (N := 3) (ci := 4) F zu_wsX50 hP 0 rfl rfl 1 (by decide) zw_327 rfl dX5_at_6 ?_
    refine z_cge (tgt := 28) hx hb dX5_at_9 (by decide) h (fun h => ?_) (fun h => ?_)
    · refine lv_iconst (v := 0) hx hb dX5_at_28 (by decide) ?_
      obtain rfl := Option.some.inj h
      exact zR_i F hr hlocks hQ dX5_at_29
    · refine lv_iload_n hx hb dX5_at_12 rfl (lv_at hl 1 rfl) ?_
      refine lv_sipush (v := 1702) hx hb dX5_at_13 (by decide) ?_
      refine z_cge (tgt := 28) hx hb dX5_at_16 (by decide) h (fun h => ?_) (fun h => ?_)
      · refine lv_iconst (v := 0) hx hb dX5_at_28 (by decide) ?_
        obtain rfl := Option.some.inj h
        exact zR_i F hr hlocks hQ dX5_at_29
      · refine lv_aload_n hx hb dX5_at_19 rfl (lv_at hl 0 rfl) ?_
        refine z_get (C := RX5) (T := TX5) (N := 3) (ci := 4) F zu_wsX50 hP 0 rfl rfl 0 (by decide) zw_325 rfl dX5_at_20 ?_
        refine lv_iload_n hx hb dX5_at_23 rfl (lv_at hl 1 rfl) ?_
        refine z_bald F hP 1 rfl dX5_at_24 h (fun x1_ h => ?_)
        refine lv_goto (tgt := 29) hx hb dX5_at_25 (by decide) ?_
        obtain rfl := Option.some.inj h
        exact zR_i F hr hlocks hQ dX5_at_29
def f_X5_put (N : Nat) (v_length : Int32) (v_bytes : Nat → Int32) (x1 : Int32) : Option (Int32 × (Nat → Int32)) :=
  if v_length < 1702 then Option.bind (zBst v_bytes 1702 v_length ((x1).toInt8.toInt32)) (fun (w1_ : Nat → Int32) => Option.bind (some (v_length + 1)) (fun (x2_ : Int32) => some (x2_, w1_))) else some (v_length, v_bytes)
abbrev rm_X5_put : Room := { frames := 0, cells := 0, slots := 0, locals := 0 }
theorem zy_X5_put : zYv yX5_put RX5 cX5_put 2 none 1 := ⟨zw_334, zw_335, zw_336, zw_332, ⟨by decide, by decide⟩, by decide +kernel⟩
set_option maxHeartbeats 4000000 in
set_option maxRecDepth 100000 in
theorem k_X5_put (l : Launch) (N : Nat) (g : zEnv) (a_this a_bytes : Nat) (v_wordCount : Int32) (v_length : Int32) (v_bytes : Nat → Int32) (x1 : Int32) (r : Int32 × (Nat → Int32)) (h : f_X5_put N v_length v_bytes x1 = some r) : ZV l yX5_put cX5_put 2 none rm_X5_put g [.ref a_this, .int x1] [zo_X5 a_this a_bytes v_length v_wordCount, (a_bytes, .inl (zY g, 1702, .inl v_bytes))] [zo_X5 a_this a_bytes r.1 v_wordCount, (a_bytes, .inl (zY g, 1702, .inl r.2))] none := by
  refine zV_of (by decide) (Nat.le_of_ble_eq_true rfl) ?_
  intro p e s m below meth c A H locs ls Q R F hRm hr hlocks hP hD hS hl hQ
  subst hRm
  have F : zF p m c cX5_put 2 s (([.ref a_this, .int x1] : List Value)).toArray RX5 g A := F
  have hx := F.1.1
  have hb := F.1.2.1
  have hz := F.1.2.2.2.2
  have hl : lv_has ls 2 [(0, .ref a_this), (1, .int x1)] := hl
  unfold f_X5_put at h
  refine lv_aload_n hx hb dX5_put_0 rfl (lv_at hl 0 rfl) ?_
  refine z_get (C := RX5) (T := TX5) (N := 3) (ci := 4) F zu_wsX50 hP 0 rfl rfl 1 (by decide) zw_327 rfl dX5_put_1 ?_
  refine lv_sipush (v := 1702) hx hb dX5_put_4 (by decide) ?_
  refine z_cge (tgt := 31) hx hb dX5_put_7 (by decide) h (fun h => ?_) (fun h => ?_)
  · obtain rfl := Option.some.inj h
    exact zV_v F hr hlocks hQ hP hD hS dX5_put_31
  · refine lv_aload_n hx hb dX5_put_10 rfl (lv_at hl 0 rfl) ?_
    refine z_get (C := RX5) (T := TX5) (N := 3) (ci := 4) F zu_wsX50 hP 0 rfl rfl 0 (by decide) zw_325 rfl dX5_put_11 ?_
    refine lv_aload_n hx hb dX5_put_14 rfl (lv_at hl 0 rfl) ?_
    refine z_get (C := RX5) (T := TX5) (N := 3) (ci := 4) F zu_wsX50 hP 0 rfl rfl 1 (by decide) zw_327 rfl dX5_put_15 ?_
    refine lv_iload_n hx hb dX5_put_18 rfl (lv_at hl 1 rfl) ?_
    refine lv_i2b hx hb dX5_put_19 rfl ?_
    refine z_bast F hP hD hS 1 rfl dX5_put_20 h (W1 := fun w1_ => [zo_X5 a_this a_bytes v_length v_wordCount, (a_bytes, .inl (zY g, 1702, .inl w1_))]) (fun _ => rfl) (fun w1_ H locs h hP hD hS => ?_)
    refine lv_aload_n hx hb dX5_put_21 rfl (lv_at hl 0 rfl) ?_
    refine lv_dup hx hb dX5_put_22 rfl ?_
    refine z_get (C := RX5) (T := TX5) (N := 3) (ci := 4) F zu_wsX50 hP 0 rfl rfl 1 (by decide) zw_327 rfl dX5_put_23 ?_
    refine lv_iconst (v := 1) hx hb dX5_put_26 (by decide) ?_
    refine lv_iadd hx hb dX5_put_27 ?_
    refine z_top Value.int h (fun x2_ h => ?_)
    refine z_put (C := RX5) (T := TX5) (N := 3) (ci := 4) (W1 := [zo_X5 a_this a_bytes x2_ v_wordCount, (a_bytes, .inl (zY g, 1702, .inl w1_))]) F zu_wsX50 tyX5 tyX5_ok nmX5 hP hD hS 0 rfl rfl 1 (by decide) zw_327 rfl rfl rfl (Nat.le_of_ble_eq_true rfl) dX5_put_28 rfl (fun H locs hP hD hS => ?_)
    obtain rfl := Option.some.inj h
    exact zV_v F hr hlocks hQ hP hD hS dX5_put_31
def f_X5_beginWord (N : Nat) (v_length : Int32) (v_wordCount : Int32) (v_bytes : Nat → Int32) : Option (Int32 × Int32 × (Nat → Int32)) :=
  Option.bind (if 0 < v_wordCount then Option.bind (f_X5_put N v_length v_bytes 32) (fun (r3_ : Int32 × (Nat → Int32)) => some (r3_.1, r3_.2)) else some (v_length, v_bytes)) (fun (r1_ : Int32 × (Nat → Int32)) => Option.bind (some (v_wordCount + 1)) (fun (x2_ : Int32) => some (r1_.1, x2_, r1_.2)))
abbrev rm_X5_beginWord : Room := { frames := 1, cells := 0, slots := 0, locals := 21 }
theorem zy_X5_beginWord : zYv yX5_beginWord RX5 cX5_beginWord 1 none 0 := ⟨zw_339, zw_340, zw_336, zw_337, ⟨by decide, by decide⟩, by decide +kernel⟩
set_option maxHeartbeats 4000000 in
set_option maxRecDepth 100000 in
theorem k_X5_beginWord (l : Launch) (N : Nat) (g : zEnv) (a_this a_bytes : Nat) (v_length : Int32) (v_wordCount : Int32) (v_bytes : Nat → Int32) (r : Int32 × Int32 × (Nat → Int32)) (h : f_X5_beginWord N v_length v_wordCount v_bytes = some r) : ZV l yX5_beginWord cX5_beginWord 1 none rm_X5_beginWord g [.ref a_this] [zo_X5 a_this a_bytes v_length v_wordCount, (a_bytes, .inl (zY g, 1702, .inl v_bytes))] [zo_X5 a_this a_bytes r.1 r.2.1, (a_bytes, .inl (zY g, 1702, .inl r.2.2))] none := by
  refine zV_of (by decide) (Nat.le_of_ble_eq_true rfl) ?_
  intro p e s m below meth c A H locs ls Q R F hRm hr hlocks hP hD hS hl hQ
  subst hRm
  have F : zF p m c cX5_beginWord 1 s (([.ref a_this] : List Value)).toArray RX5 g A := F
  have hx := F.1.1
  have hb := F.1.2.1
  have hz := F.1.2.2.2.2
  have hl : lv_has ls 1 [(0, .ref a_this)] := hl
  unfold f_X5_beginWord at h
  refine lv_aload_n hx hb dX5_beginWord_0 rfl (lv_at hl 0 rfl) ?_
  refine z_get (C := RX5) (T := TX5) (N := 3) (ci := 4) F zu_wsX50 hP 0 rfl rfl 2 (by decide) zw_329 rfl dX5_beginWord_1 ?_
  obtain ⟨r1_, hA13_, h⟩ := z_bind h
  have k13_ : ∀ (H : Heap) (locs : List Loc) (ls : Array Slot), va_P (zD g) vwCl [zo_X5 a_this a_bytes r1_.1 v_wordCount, (a_bytes, .inl (zY g, 1702, .inl r1_.2))] H → va_D A [zo_X5 a_this a_bytes r1_.1 v_wordCount, (a_bytes, .inl (zY g, 1702, .inl r1_.2))] → va_S A s.heap H locs → lv_has ls 1 [(0, .ref a_this)] → W p l e rm_X5_beginWord s m (([.ref a_this] : List Value)).toArray below meth c H locs 0 0 Q (F0 m 13 ls []) := by
    intro H locs ls hP hD hS hl
    refine lv_aload_n hx hb dX5_beginWord_13 rfl (lv_at hl 0 rfl) ?_
    refine lv_dup hx hb dX5_beginWord_14 rfl ?_
    refine z_get (C := RX5) (T := TX5) (N := 3) (ci := 4) F zu_wsX50 hP 0 rfl rfl 2 (by decide) zw_329 rfl dX5_beginWord_15 ?_
    refine lv_iconst (v := 1) hx hb dX5_beginWord_18 (by decide) ?_
    refine lv_iadd hx hb dX5_beginWord_19 ?_
    refine z_top Value.int h (fun x2_ h => ?_)
    refine z_put (C := RX5) (T := TX5) (N := 3) (ci := 4) (W1 := [zo_X5 a_this a_bytes r1_.1 x2_, (a_bytes, .inl (zY g, 1702, .inl r1_.2))]) F zu_wsX50 tyX5 tyX5_ok nmX5 hP hD hS 0 rfl rfl 2 (by decide) zw_329 rfl rfl rfl (Nat.le_of_ble_eq_true rfl) dX5_beginWord_20 rfl (fun H locs hP hD hS => ?_)
    obtain rfl := Option.some.inj h
    exact zV_v F hr hlocks hQ hP hD hS dX5_beginWord_23
  have h := hA13_
  refine z_le (tgt := 13) hx hb dX5_beginWord_4 (by decide) h (fun h => ?_) (fun h => ?_)
  · obtain rfl := Option.some.inj h
    exact k13_ _ _ _ hP hD hS (lv_sub hl [0] rfl)
  · refine lv_aload_n hx hb dX5_beginWord_7 rfl (lv_at hl 0 rfl) ?_
    refine lv_bipush (v := 32) hx hb dX5_beginWord_8 (by decide) ?_
    obtain ⟨r3_, hr3_, h⟩ := z_bind h
    refine zVV F (k_X5_put l N g a_this a_bytes v_wordCount v_length v_bytes 32 _ hr3_) zy_X5_put zw_333 hP hD hS [0, 1] [] [0, 1] (wr := []) (W1 := [zo_X5 a_this a_bytes r3_.1 v_wordCount, (a_bytes, .inl (zY g, 1702, .inl r3_.2))]) rfl rfl rfl rfl (by decide) rfl rfl (q0 := 0) (he := rfl) (hc := rfl) (rest := []) rfl hl.1 rfl (Nat.le_of_ble_eq_true rfl) ⟨rfl, rfl⟩ ⟨Nat.le_of_ble_eq_true rfl, Nat.le_of_ble_eq_true rfl⟩ ⟨Nat.zero_le _, Nat.zero_le _⟩ dX5_beginWord_10 (st1 := []) rfl (fun H locs hP hD hS => ?_)
    obtain rfl := Option.some.inj h
    exact k13_ _ _ _ hP hD hS (lv_sub hl [0] rfl)
def f_X5_tellWord_B6 (N : Nat) (x1 : Nat) (kh6_ : Int32 × Int32 × (Nat → Int32) → Option (Int32 × (Nat → Int32))) (v6_ : Int32 × Int32 × (Nat → Int32)) : Option (Int32 × (Nat → Int32)) :=
  Option.bind (zSlen x1) (fun (x3_ : Int32) => if v6_.1 < x3_ then Option.bind (zSch x1 v6_.1) (fun (x4_ : Int32) => Option.bind (f_X5_put N v6_.2.1 v6_.2.2 x4_) (fun (r5_ : Int32 × (Nat → Int32)) => Option.bind (some (v6_.1 + 1)) (fun (x6_ : Int32) => kh6_ (x6_, r5_.1, r5_.2)))) else some (v6_.2.1, v6_.2.2))
def f_X5_tellWord (N : Nat) (v_length : Int32) (v_wordCount : Int32) (v_bytes : Nat → Int32) (x1 : Nat) : Option (Int32 × Int32 × (Nat → Int32)) :=
  Option.bind (f_X5_beginWord N v_length v_wordCount v_bytes) (fun (r1_ : Int32 × Int32 × (Nat → Int32)) => Option.bind (zLoop (f_X5_tellWord_B6 N x1) N (0, r1_.1, r1_.2.2)) (fun (r2_ : Int32 × (Nat → Int32)) => some (r2_.1, r1_.2.1, r2_.2)))
abbrev rm_X5_tellWord : Room := { frames := 6, cells := 0, slots := 0, locals := 200 }
theorem zy_X5_tellWord : zYv yX5_tellWord RX5 cX5_tellWord 3 none 1 := ⟨zw_346, zw_347, zw_336, zw_343, ⟨by decide, by decide⟩, by decide +kernel⟩
set_option maxHeartbeats 4000000 in
set_option maxRecDepth 100000 in
theorem k_X5_tellWord (l : Launch) (N : Nat) (g : zEnv) (a_this a_bytes : Nat) (v_length : Int32) (v_wordCount : Int32) (v_bytes : Nat → Int32) (x1 : Nat) (r : Int32 × Int32 × (Nat → Int32)) (h : f_X5_tellWord N v_length v_wordCount v_bytes x1 = some r) : ZV l yX5_tellWord cX5_tellWord 3 none rm_X5_tellWord g [.ref a_this, .ref (zAK g x1)] [zo_X5 a_this a_bytes v_length v_wordCount, (a_bytes, .inl (zY g, 1702, .inl v_bytes))] [zo_X5 a_this a_bytes r.1 r.2.1, (a_bytes, .inl (zY g, 1702, .inl r.2.2))] none := by
  refine zV_of (by decide) (Nat.le_of_ble_eq_true rfl) ?_
  intro p e s m below meth c A H locs ls Q R F hRm hr hlocks hP hD hS hl hQ
  subst hRm
  have F : zF p m c cX5_tellWord 3 s (([.ref a_this, .ref (zAK g x1)] : List Value)).toArray RX5 g A := F
  have hx := F.1.1
  have hb := F.1.2.1
  have hz := F.1.2.2.2.2
  have hl : lv_has ls 3 [(0, .ref a_this), (1, .ref (zAK g x1))] := hl
  unfold f_X5_tellWord at h
  refine lv_aload_n hx hb dX5_tellWord_0 rfl (lv_at hl 0 rfl) ?_
  obtain ⟨r1_, hr1_, h⟩ := z_bind h
  refine zVV F (k_X5_beginWord l N g a_this a_bytes v_length v_wordCount v_bytes _ hr1_) zy_X5_beginWord zw_338 hP hD hS [0, 1] [] [0, 1] (wr := []) (W1 := [zo_X5 a_this a_bytes r1_.1 r1_.2.1, (a_bytes, .inl (zY g, 1702, .inl r1_.2.2))]) rfl rfl rfl rfl (by decide) rfl rfl (q0 := 0) (he := rfl) (hc := rfl) (rest := []) rfl hl.1 rfl (Nat.le_of_ble_eq_true rfl) ⟨rfl, rfl⟩ ⟨Nat.le_of_ble_eq_true rfl, Nat.le_of_ble_eq_true rfl⟩ ⟨Nat.zero_le _, Nat.zero_le _⟩ dX5_tellWord_1 (st1 := []) rfl (fun H locs hP hD hS => ?_)
  refine lv_iconst (v := 0) hx hb dX5_tellWord_4 (by decide) ?_
  refine lv_istore_n (lv' := [(2, .int 0), (0, .ref a_this), (1, .ref (zAK g x1))]) hx hb dX5_tellWord_5 rfl hl (by decide) rfl (fun ls hl => ?_)
  obtain ⟨r2_, hA6_, h⟩ := z_bind h
  have k29_ : ∀ (H : Heap) (locs : List Loc) (ls : Array Slot), va_P (zD g) vwCl [zo_X5 a_this a_bytes r2_.1 r1_.2.1, (a_bytes, .inl (zY g, 1702, .inl r2_.2))] H → va_D A [zo_X5 a_this a_bytes r2_.1 r1_.2.1, (a_bytes, .inl (zY g, 1702, .inl r2_.2))] → va_S A s.heap H locs → lv_has ls 3 [] → W p l e rm_X5_tellWord s m (([.ref a_this, .ref (zAK g x1)] : List Value)).toArray below meth c H locs 0 0 Q (F0 m 29 ls []) := by
    intro H locs ls hP hD hS hl
    obtain rfl := Option.some.inj h
    exact zV_v F hr hlocks hQ hP hD hS dX5_tellWord_29
  have h := hA6_
  have l6_ : ∀ (n6_ : Nat) (v6_ : Int32 × Int32 × (Nat → Int32)), zLoop (f_X5_tellWord_B6 N x1) n6_ v6_ = some r2_ → ∀ (H : Heap) (locs : List Loc) (ls : Array Slot), va_P (zD g) vwCl [zo_X5 a_this a_bytes v6_.2.1 r1_.2.1, (a_bytes, .inl (zY g, 1702, .inl v6_.2.2))] H → va_D A [zo_X5 a_this a_bytes v6_.2.1 r1_.2.1, (a_bytes, .inl (zY g, 1702, .inl v6_.2.2))] → va_S A s.heap H locs → lv_has ls 3 [(0, .ref a_this), (1, .ref (zAK g x1)), (2, .int v6_.1)] → W p l e rm_X5_tellWord s m (([.ref a_this, .ref (zAK g x1)] : List Value)).toArray below meth c H locs 0 0 Q (F0 m 6 ls []) := by
    intro n6_
    induction n6_ with
    | zero => intro v6_ h; cases h
    | succ n6_ ih6_ =>
      intro v6_ h H locs ls hP hD hS hl
      have h : f_X5_tellWord_B6 N x1 (zLoop (f_X5_tellWord_B6 N x1) n6_) v6_ = some r2_ := h
      unfold f_X5_tellWord_B6 at h
      refine lv_iload_n hx hb dX5_tellWord_6 rfl (lv_at hl 2 rfl) ?_
      refine lv_aload_n hx hb dX5_tellWord_7 rfl (lv_at hl 1 rfl) ?_
      refine z_slen F hS zw_341 hl.1 (Nat.le_of_ble_eq_true rfl) ⟨Nat.le_of_ble_eq_true rfl, Nat.le_of_ble_eq_true rfl⟩ ⟨Nat.zero_le _, Nat.zero_le _⟩ dX5_tellWord_8 h (fun x3_ h => ?_)
      refine z_cge (tgt := 29) hx hb dX5_tellWord_11 (by decide) h (fun h => ?_) (fun h => ?_)
      · obtain rfl := Option.some.inj h
        exact k29_ _ _ _ hP hD hS (lv_sub hl [] rfl)
      · refine lv_aload_n hx hb dX5_tellWord_14 rfl (lv_at hl 0 rfl) ?_
        refine lv_aload_n hx hb dX5_tellWord_15 rfl (lv_at hl 1 rfl) ?_
        refine lv_iload_n hx hb dX5_tellWord_16 rfl (lv_at hl 2 rfl) ?_
        refine z_sch F hS zw_342 hl.1 (Nat.le_of_ble_eq_true rfl) ⟨Nat.le_of_ble_eq_true rfl, Nat.le_of_ble_eq_true rfl⟩ ⟨Nat.zero_le _, Nat.zero_le _⟩ dX5_tellWord_17 h (fun x4_ h => ?_)
        obtain ⟨r5_, hr5_, h⟩ := z_bind h
        refine zVV F (k_X5_put l N g a_this a_bytes r1_.2.1 v6_.2.1 v6_.2.2 x4_ _ hr5_) zy_X5_put zw_333 hP hD hS [0, 1] [] [0, 1] (wr := []) (W1 := [zo_X5 a_this a_bytes r5_.1 r1_.2.1, (a_bytes, .inl (zY g, 1702, .inl r5_.2))]) rfl rfl rfl rfl (by decide) rfl rfl (q0 := 0) (he := rfl) (hc := rfl) (rest := []) rfl hl.1 rfl (Nat.le_of_ble_eq_true rfl) ⟨rfl, rfl⟩ ⟨Nat.le_of_ble_eq_true rfl, Nat.le_of_ble_eq_true rfl⟩ ⟨Nat.zero_le _, Nat.zero_le _⟩ dX5_tellWord_20 (st1 := []) rfl (fun H locs hP hD hS => ?_)
        refine z_nm h (fun x6_ ex6_ h => ?_)
        refine lv_iinc (v := x6_) (lv' := [(2, .int x6_), (0, .ref a_this), (1, .ref (zAK g x1))]) hx hb dX5_tellWord_23 hl (k := 2) rfl (by rw [ex6_]; rfl) (by decide) rfl (fun ls hl => ?_)
        refine lv_goto (tgt := 6) hx hb dX5_tellWord_26 (by decide) ?_
        exact ih6_ _ h _ _ _ hP hD hS (lv_sub hl [1, 2, 0] rfl)
  exact l6_ N _ h _ _ _ hP hD hS (lv_sub hl [1, 2, 0] rfl)
def f_X5_tellNumber (N : Nat) (v_length : Int32) (v_wordCount : Int32) (v_bytes : Nat → Int32) (x1 : Int32) : Option (Int32 × Int32 × (Nat → Int32)) :=
  Option.bind (f_X5_beginWord N v_length v_wordCount v_bytes) (fun (r1_ : Int32 × Int32 × (Nat → Int32)) => Option.bind (if x1 < 10 then some (r1_.1, r1_.2.2) else Option.bind (zDiv x1 10) (fun (x5_ : Int32) => Option.bind (f_X5_put N r1_.1 r1_.2.2 (48 + x5_)) (fun (r6_ : Int32 × (Nat → Int32)) => some (r6_.1, r6_.2)))) (fun (r2_ : Int32 × (Nat → Int32)) => Option.bind (zRem x1 10) (fun (x3_ : Int32) => Option.bind (f_X5_put N r2_.1 r2_.2 (48 + x3_)) (fun (r4_ : Int32 × (Nat → Int32)) => some (r4_.1, r1_.2.1, r4_.2)))))
abbrev rm_X5_tellNumber : Room := { frames := 2, cells := 0, slots := 0, locals := 41 }
theorem zy_X5_tellNumber : zYv yX5_tellNumber RX5 cX5_tellNumber 2 none 1 := ⟨zw_349, zw_350, zw_336, zw_344, ⟨by decide, by decide⟩, by decide +kernel⟩
set_option maxHeartbeats 4000000 in
set_option maxRecDepth 100000 in
theorem k_X5_tellNumber (l : Launch) (N : Nat) (g : zEnv) (a_this a_bytes : Nat) (v_length : Int32) (v_wordCount : Int32) (v_bytes : Nat → Int32) (x1 : Int32) (r : Int32 × Int32 × (Nat → Int32)) (h : f_X5_tellNumber N v_length v_wordCount v_bytes x1 = some r) : ZV l yX5_tellNumber cX5_tellNumber 2 none rm_X5_tellNumber g [.ref a_this, .int x1] [zo_X5 a_this a_bytes v_length v_wordCount, (a_bytes, .inl (zY g, 1702, .inl v_bytes))] [zo_X5 a_this a_bytes r.1 r.2.1, (a_bytes, .inl (zY g, 1702, .inl r.2.2))] none := by
  refine zV_of (by decide) (Nat.le_of_ble_eq_true rfl) ?_
  intro p e s m below meth c A H locs ls Q R F hRm hr hlocks hP hD hS hl hQ
  subst hRm
  have F : zF p m c cX5_tellNumber 2 s (([.ref a_this, .int x1] : List Value)).toArray RX5 g A := F
  have hx := F.1.1
  have hb := F.1.2.1
  have hz := F.1.2.2.2.2
  have hl : lv_has ls 2 [(0, .ref a_this), (1, .int x1)] := hl
  unfold f_X5_tellNumber at h
  refine lv_aload_n hx hb dX5_tellNumber_0 rfl (lv_at hl 0 rfl) ?_
  obtain ⟨r1_, hr1_, h⟩ := z_bind h
  refine zVV F (k_X5_beginWord l N g a_this a_bytes v_length v_wordCount v_bytes _ hr1_) zy_X5_beginWord zw_338 hP hD hS [0, 1] [] [0, 1] (wr := []) (W1 := [zo_X5 a_this a_bytes r1_.1 r1_.2.1, (a_bytes, .inl (zY g, 1702, .inl r1_.2.2))]) rfl rfl rfl rfl (by decide) rfl rfl (q0 := 0) (he := rfl) (hc := rfl) (rest := []) rfl hl.1 rfl (Nat.le_of_ble_eq_true rfl) ⟨rfl, rfl⟩ ⟨Nat.le_of_ble_eq_true rfl, Nat.le_of_ble_eq_true rfl⟩ ⟨Nat.zero_le _, Nat.zero_le _⟩ dX5_tellNumber_1 (st1 := []) rfl (fun H locs hP hD hS => ?_)
  refine lv_iload_n hx hb dX5_tellNumber_4 rfl (lv_at hl 1 rfl) ?_
  refine lv_bipush (v := 10) hx hb dX5_tellNumber_5 (by decide) ?_
  obtain ⟨r2_, hA21_, h⟩ := z_bind h
  have k21_ : ∀ (H : Heap) (locs : List Loc) (ls : Array Slot), va_P (zD g) vwCl [zo_X5 a_this a_bytes r2_.1 r1_.2.1, (a_bytes, .inl (zY g, 1702, .inl r2_.2))] H → va_D A [zo_X5 a_this a_bytes r2_.1 r1_.2.1, (a_bytes, .inl (zY g, 1702, .inl r2_.2))] → va_S A s.heap H locs → lv_has ls 2 [(0, .ref a_this), (1, .int x1)] → W p l e rm_X5_tellNumber s m (([.ref a_this, .int x1] : List Value)).toArray below meth c H locs 0 0 Q (F0 m 21 ls []) := by
    intro H locs ls hP hD hS hl
    refine lv_aload_n hx hb dX5_tellNumber_21 rfl (lv_at hl 0 rfl) ?_
    refine lv_bipush (v := 48) hx hb dX5_tellNumber_22 (by decide) ?_
    refine lv_iload_n hx hb dX5_tellNumber_24 rfl (lv_at hl 1 rfl) ?_
    refine lv_bipush (v := 10) hx hb dX5_tellNumber_25 (by decide) ?_
    refine z_rem hx hb dX5_tellNumber_27 h (fun x3_ h => ?_)
    refine lv_iadd hx hb dX5_tellNumber_28 ?_
    obtain ⟨r4_, hr4_, h⟩ := z_bind h
    refine zVV F (k_X5_put l N g a_this a_bytes r1_.2.1 r2_.1 r2_.2 (48 + x3_) _ hr4_) zy_X5_put zw_333 hP hD hS [0, 1] [] [0, 1] (wr := []) (W1 := [zo_X5 a_this a_bytes r4_.1 r1_.2.1, (a_bytes, .inl (zY g, 1702, .inl r4_.2))]) rfl rfl rfl rfl (by decide) rfl rfl (q0 := 0) (he := rfl) (hc := rfl) (rest := []) rfl hl.1 rfl (Nat.le_of_ble_eq_true rfl) ⟨rfl, rfl⟩ ⟨Nat.le_of_ble_eq_true rfl, Nat.le_of_ble_eq_true rfl⟩ ⟨Nat.zero_le _, Nat.zero_le _⟩ dX5_tellNumber_29 (st1 := []) rfl (fun H locs hP hD hS => ?_)
    obtain rfl := Option.some.inj h
    exact zV_v F hr hlocks hQ hP hD hS dX5_tellNumber_32
  have h := hA21_
  refine z_clt (tgt := 21) hx hb dX5_tellNumber_7 (by decide) h (fun h => ?_) (fun h => ?_)
  · obtain rfl := Option.some.inj h
    exact k21_ _ _ _ hP hD hS (lv_sub hl [0, 1] rfl)
  · refine lv_aload_n hx hb dX5_tellNumber_10 rfl (lv_at hl 0 rfl) ?_
    refine lv_bipush (v := 48) hx hb dX5_tellNumber_11 (by decide) ?_
    refine lv_iload_n hx hb dX5_tellNumber_13 rfl (lv_at hl 1 rfl) ?_
    refine lv_bipush (v := 10) hx hb dX5_tellNumber_14 (by decide) ?_
    refine z_div hx hb dX5_tellNumber_16 h (fun x5_ h => ?_)
    refine lv_iadd hx hb dX5_tellNumber_17 ?_
    obtain ⟨r6_, hr6_, h⟩ := z_bind h
    refine zVV F (k_X5_put l N g a_this a_bytes r1_.2.1 r1_.1 r1_.2.2 (48 + x5_) _ hr6_) zy_X5_put zw_333 hP hD hS [0, 1] [] [0, 1] (wr := []) (W1 := [zo_X5 a_this a_bytes r6_.1 r1_.2.1, (a_bytes, .inl (zY g, 1702, .inl r6_.2))]) rfl rfl rfl rfl (by decide) rfl rfl (q0 := 0) (he := rfl) (hc := rfl) (rest := []) rfl hl.1 rfl (Nat.le_of_ble_eq_true rfl) ⟨rfl, rfl⟩ ⟨Nat.le_of_ble_eq_true rfl, Nat.le_of_ble_eq_true rfl⟩ ⟨Nat.zero_le _, Nat.zero_le _⟩ dX5_tellNumber_18 (st1 := []) rfl (fun H locs hP hD hS => ?_)
    obtain rfl := Option.some.inj h
    exact k21_ _ _ _ hP hD hS (lv_sub hl [0, 1] rfl)
def f_X5_tellNumbered (N : Nat) (v_length : Int32) (v_wordCount : Int32) (v_bytes : Nat → Int32) (x1 : Nat) (x2 : Int32) : Option (Int32 × Int32 × (Nat → Int32)) :=
  Option.bind (f_X5_tellWord N v_length v_wordCount v_bytes x1) (fun (r1_ : Int32 × Int32 × (Nat → Int32)) => Option.bind (f_X5_tellNumber N r1_.1 r1_.2.1 r1_.2.2 x2) (fun (r2_ : Int32 × Int32 × (Nat → Int32)) => some (r2_.1, r2_.2.1, r2_.2.2)))
abbrev rm_X5_tellNumbered : Room := { frames := 7, cells := 0, slots := 0, locals := 222 }
theorem zy_X5_tellNumbered : zYv yX5_tellNumbered RX5 cX5_tellNumbered 3 none 2 := ⟨zw_380, zw_381, zw_336, zw_351, ⟨by decide, by decide⟩, by decide +kernel⟩
set_option maxHeartbeats 4000000 in
set_option maxRecDepth 100000 in
theorem k_X5_tellNumbered (l : Launch) (N : Nat) (g : zEnv) (a_this a_bytes : Nat) (v_length : Int32) (v_wordCount : Int32) (v_bytes : Nat → Int32) (x1 : Nat) (x2 : Int32) (r : Int32 × Int32 × (Nat → Int32)) (h : f_X5_tellNumbered N v_length v_wordCount v_bytes x1 x2 = some r) : ZV l yX5_tellNumbered cX5_tellNumbered 3 none rm_X5_tellNumbered g [.ref a_this, .ref (zAK g x1), .int x2] [zo_X5 a_this a_bytes v_length v_wordCount, (a_bytes, .inl (zY g, 1702, .inl v_bytes))] [zo_X5 a_this a_bytes r.1 r.2.1, (a_bytes, .inl (zY g, 1702, .inl r.2.2))] none := by
  refine zV_of (by decide) (Nat.le_of_ble_eq_true rfl) ?_
  intro p e s m below meth c A H locs ls Q R F hRm hr hlocks hP hD hS hl hQ
  subst hRm
  have F : zF p m c cX5_tellNumbered 3 s (([.ref a_this, .ref (zAK g x1), .int x2] : List Value)).toArray RX5 g A := F
  have hx := F.1.1
  have hb := F.1.2.1
  have hz := F.1.2.2.2.2
  have hl : lv_has ls 3 [(0, .ref a_this), (1, .ref (zAK g x1)), (2, .int x2)] := hl
  unfold f_X5_tellNumbered at h
  refine lv_aload_n hx hb dX5_tellNumbered_0 rfl (lv_at hl 0 rfl) ?_
  refine lv_aload_n hx hb dX5_tellNumbered_1 rfl (lv_at hl 1 rfl) ?_
  obtain ⟨r1_, hr1_, h⟩ := z_bind h
  refine zVV F (k_X5_tellWord l N g a_this a_bytes v_length v_wordCount v_bytes x1 _ hr1_) zy_X5_tellWord zw_345 hP hD hS [0, 1] [] [0, 1] (wr := []) (W1 := [zo_X5 a_this a_bytes r1_.1 r1_.2.1, (a_bytes, .inl (zY g, 1702, .inl r1_.2.2))]) rfl rfl rfl rfl (by decide) rfl rfl (q0 := 0) (he := rfl) (hc := rfl) (rest := []) rfl hl.1 rfl (Nat.le_of_ble_eq_true rfl) ⟨rfl, rfl⟩ ⟨Nat.le_of_ble_eq_true rfl, Nat.le_of_ble_eq_true rfl⟩ ⟨Nat.zero_le _, Nat.zero_le _⟩ dX5_tellNumbered_2 (st1 := []) rfl (fun H locs hP hD hS => ?_)
  refine lv_aload_n hx hb dX5_tellNumbered_5 rfl (lv_at hl 0 rfl) ?_
  refine lv_iload_n hx hb dX5_tellNumbered_6 rfl (lv_at hl 2 rfl) ?_
  obtain ⟨r2_, hr2_, h⟩ := z_bind h
  refine zVV F (k_X5_tellNumber l N g a_this a_bytes r1_.1 r1_.2.1 r1_.2.2 x2 _ hr2_) zy_X5_tellNumber zw_348 hP hD hS [0, 1] [] [0, 1] (wr := []) (W1 := [zo_X5 a_this a_bytes r2_.1 r2_.2.1, (a_bytes, .inl (zY g, 1702, .inl r2_.2.2))]) rfl rfl rfl rfl (by decide) rfl rfl (q0 := 0) (he := rfl) (hc := rfl) (rest := []) rfl hl.1 rfl (Nat.le_of_ble_eq_true rfl) ⟨rfl, rfl⟩ ⟨Nat.le_of_ble_eq_true rfl, Nat.le_of_ble_eq_true rfl⟩ ⟨Nat.zero_le _, Nat.zero_le _⟩ dX5_tellNumbered_7 (st1 := []) rfl (fun H locs hP hD hS => ?_)
  obtain rfl := Option.some.inj h
  exact zV_v F hr hlocks hQ hP hD hS dX5_tellNumbered_10
def f_X5_differsFromBefore (N : Nat) (v_p0_size : Int32) (v_p0_cells : Nat → Int32) (x1 : Int32) (x2 : Int32) : Option Int32 :=
  Option.bind (f_X4_value N v_p0_size v_p0_cells x1 x2) (fun (r1_ : Int32) => Option.bind (f_X4_value N v_p0_size v_p0_cells (x1 - 1) x2) (fun (r2_ : Int32) => if r1_ = r2_ then some 0 else some 1))
abbrev rm_X5_differsFromBefore : Room := { frames := 2, cells := 0, slots := 0, locals := 43 }
theorem zy_X5_differsFromBefore : zYs yX5_differsFromBefore cX5_differsFromBefore 3 (some .boolean) 3 := ⟨zw_388, zw_336, zw_353, ⟨by decide, by decide⟩, by decide +kernel⟩
set_option maxHeartbeats 4000000 in
set_option maxRecDepth 100000 in
theorem k_X5_differsFromBefore (l : Launch) (N : Nat) (g : zEnv) (a_p0 a_p0_cells : Nat) (v_p0_size : Int32) (v_p0_cells : Nat → Int32) (x1 : Int32) (x2 : Int32) (r : Int32) (h : f_X5_differsFromBefore N v_p0_size v_p0_cells x1 x2 = some r) : ZR l yX5_differsFromBefore cX5_differsFromBefore 3 (some .boolean) rm_X5_differsFromBefore g [.ref a_p0, .int x1, .int x2] [zo_X4 a_p0 a_p0_cells v_p0_size, (a_p0_cells, .inl (zI g, 912, .inl v_p0_cells))] (some (.int r)) := by
  refine zR_of (by decide) (Nat.le_of_ble_eq_true rfl) ?_
  intro p e s m below meth c A ls Q R F hRm hr hlocks hP hD hS hl hQ
  subst hRm
  have F : zF p m c cX5_differsFromBefore 3 s (([.ref a_p0, .int x1, .int x2] : List Value)).toArray RX5 g A := F
  have hx := F.1.1
  have hb := F.1.2.1
  have hz := F.1.2.2.2.2
  have hl : lv_has ls 3 [(0, .ref a_p0), (1, .int x1), (2, .int x2)] := hl
  unfold f_X5_differsFromBefore at h
  refine lv_aload_n hx hb dX5_differsFromBefore_0 rfl (lv_at hl 0 rfl) ?_
  refine lv_iload_n hx hb dX5_differsFromBefore_1 rfl (lv_at hl 1 rfl) ?_
  refine lv_iload_n hx hb dX5_differsFromBefore_2 rfl (lv_at hl 2 rfl) ?_
  obtain ⟨r1_, hr1_, h⟩ := z_bind h
  refine zRV F (k_X4_value l N g a_p0 a_p0_cells v_p0_size v_p0_cells x1 x2 _ hr1_) zy_X4_value zw_352 hP hD hS [0, 1] rfl rfl (q0 := 0) (he := rfl) (hc := rfl) (rest := []) rfl hl.1 rfl (Nat.le_of_ble_eq_true rfl) ⟨rfl, rfl⟩ ⟨Nat.le_of_ble_eq_true rfl, Nat.le_of_ble_eq_true rfl⟩ ⟨Nat.zero_le _, Nat.zero_le _⟩ dX5_differsFromBefore_3 (st1 := [.int r1_]) rfl ?_
  refine lv_aload_n hx hb dX5_differsFromBefore_6 rfl (lv_at hl 0 rfl) ?_
  refine lv_iload_n hx hb dX5_differsFromBefore_7 rfl (lv_at hl 1 rfl) ?_
  refine lv_iconst (v := 1) hx hb dX5_differsFromBefore_8 (by decide) ?_
  refine lv_isub hx hb dX5_differsFromBefore_9 ?_
  refine lv_iload_n hx hb dX5_differsFromBefore_10 rfl (lv_at hl 2 rfl) ?_
  obtain ⟨r2_, hr2_, h⟩ := z_bind h
  refine zRV F (k_X4_value l N g a_p0 a_p0_cells v_p0_size v_p0_cells (x1 - 1) x2 _ hr2_) zy_X4_value zw_352 hP hD hS [0, 1] rfl rfl (q0 := 0) (he := rfl) (hc := rfl) (rest := [.int r1_]) rfl hl.1 rfl (Nat.le_of_ble_eq_true rfl) ⟨rfl, rfl⟩ ⟨Nat.le_of_ble_eq_true rfl, Nat.le_of_ble_eq_true rfl⟩ ⟨Nat.zero_le _, Nat.zero_le _⟩ dX5_differsFromBefore_11 (st1 := [.int r2_, .int r1_]) rfl ?_
  refine z_ceq (tgt := 21) hx hb dX5_differsFromBefore_14 (by decide) h (fun h => ?_) (fun h => ?_)
  · refine lv_iconst (v := 0) hx hb dX5_differsFromBefore_21 (by decide) ?_
    obtain rfl := Option.some.inj h
    exact zR_n F hr hlocks hQ rfl dX5_differsFromBefore_22
  · refine lv_iconst (v := 1) hx hb dX5_differsFromBefore_17 (by decide) ?_
    refine lv_goto (tgt := 22) hx hb dX5_differsFromBefore_18 (by decide) ?_
    obtain rfl := Option.some.inj h
    exact zR_n F hr hlocks hQ rfl dX5_differsFromBefore_22
def f_X5_tellKey (N : Nat) (v_length : Int32) (v_wordCount : Int32) (v_bytes : Nat → Int32) (x1 : Int32) : Option (Int32 × Int32 × (Nat → Int32)) :=
  Option.bind (f_X5_tellWord N v_length v_wordCount v_bytes 3) (fun (r1_ : Int32 × Int32 × (Nat → Int32)) => if x1 = 0 then Option.bind (f_X5_tellWord N r1_.1 r1_.2.1 r1_.2.2 4) (fun (r5_ : Int32 × Int32 × (Nat → Int32)) => some (r5_.1, r5_.2.1, r5_.2.2)) else Option.bind (f_X5_tellNumber N r1_.1 r1_.2.1 r1_.2.2 (zAbs x1)) (fun (r2_ : Int32 × Int32 × (Nat → Int32)) => Option.bind (if 0 < x1 then some 5 else some 6) (fun (r3_ : Nat) => Option.bind (f_X5_tellWord N r2_.1 r2_.2.1 r2_.2.2 r3_) (fun (r4_ : Int32 × Int32 × (Nat → Int32)) => some (r4_.1, r4_.2.1, r4_.2.2)))))
abbrev rm_X5_tellKey : Room := { frames := 7, cells := 0, slots := 0, locals := 222 }
theorem zy_X5_tellKey : zYv yX5_tellKey RX5 cX5_tellKey 2 none 1 := ⟨zw_390, zw_391, zw_336, zw_357, ⟨by decide, by decide⟩, by decide +kernel⟩
set_option maxHeartbeats 4000000 in
set_option maxRecDepth 100000 in
theorem k_X5_tellKey (l : Launch) (N : Nat) (g : zEnv) (a_this a_bytes : Nat) (v_length : Int32) (v_wordCount : Int32) (v_bytes : Nat → Int32) (x1 : Int32) (r : Int32 × Int32 × (Nat → Int32)) (h : f_X5_tellKey N v_length v_wordCount v_bytes x1 = some r) : ZV l yX5_tellKey cX5_tellKey 2 none rm_X5_tellKey g [.ref a_this, .int x1] [zo_X5 a_this a_bytes v_length v_wordCount, (a_bytes, .inl (zY g, 1702, .inl v_bytes))] [zo_X5 a_this a_bytes r.1 r.2.1, (a_bytes, .inl (zY g, 1702, .inl r.2.2))] none := by
  refine zV_of (by decide) (Nat.le_of_ble_eq_true rfl) ?_
  intro p e s m below meth c A H locs ls Q R F hRm hr hlocks hP hD hS hl hQ
  subst hRm
  have F : zF p m c cX5_tellKey 2 s (([.ref a_this, .int x1] : List Value)).toArray RX5 g A := F
  have hx := F.1.1
  have hb := F.1.2.1
  have hz := F.1.2.2.2.2
  have hl : lv_has ls 2 [(0, .ref a_this), (1, .int x1)] := hl
  unfold f_X5_tellKey at h
  refine lv_aload_n hx hb dX5_tellKey_0 rfl (lv_at hl 0 rfl) ?_
  refine va_ldcS hx hb F.1.2.2.2.1 (F.2.2.1.2.1 _ zst_X5_63) dX5_tellKey_1 ?_
  obtain ⟨r1_, hr1_, h⟩ := z_bind h
  refine zVV F (k_X5_tellWord l N g a_this a_bytes v_length v_wordCount v_bytes 3 _ hr1_) zy_X5_tellWord zw_345 hP hD hS [0, 1] [] [0, 1] (wr := []) (W1 := [zo_X5 a_this a_bytes r1_.1 r1_.2.1, (a_bytes, .inl (zY g, 1702, .inl r1_.2.2))]) rfl rfl rfl rfl (by decide) rfl rfl (q0 := 0) (he := rfl) (hc := rfl) (rest := []) rfl hl.1 rfl (Nat.le_of_ble_eq_true rfl) ⟨rfl, rfl⟩ ⟨Nat.le_of_ble_eq_true rfl, Nat.le_of_ble_eq_true rfl⟩ ⟨Nat.zero_le _, Nat.zero_le _⟩ dX5_tellKey_3 (st1 := []) rfl (fun H locs hP hD hS => ?_)
  refine lv_iload_n hx hb dX5_tellKey_6 rfl (lv_at hl 1 rfl) ?_
  refine z_ne (tgt := 19) hx hb dX5_tellKey_7 (by decide) h (fun h => ?_) (fun h => ?_)
  · refine lv_aload_n hx hb dX5_tellKey_19 rfl (lv_at hl 0 rfl) ?_
    refine lv_iload_n hx hb dX5_tellKey_20 rfl (lv_at hl 1 rfl) ?_
    refine va_mabs hx hb (F.1.2.2.1.trans hl.1.symm) F.1.2.2.2.1 (hz _ zw_354) (hz _ zw_355) (hz _ zw_45) (hz _ zw_356) (Nat.le_of_ble_eq_true rfl) (Nat.le_of_ble_eq_true rfl) (Nat.zero_le _) (Nat.zero_le _) dX5_tellKey_21 ?_
    obtain ⟨r2_, hr2_, h⟩ := z_bind h
    refine zVV F (k_X5_tellNumber l N g a_this a_bytes r1_.1 r1_.2.1 r1_.2.2 (zAbs x1) _ hr2_) zy_X5_tellNumber zw_348 hP hD hS [0, 1] [] [0, 1] (wr := []) (W1 := [zo_X5 a_this a_bytes r2_.1 r2_.2.1, (a_bytes, .inl (zY g, 1702, .inl r2_.2.2))]) rfl rfl rfl rfl (by decide) rfl rfl (q0 := 0) (he := rfl) (hc := rfl) (rest := []) rfl hl.1 rfl (Nat.le_of_ble_eq_true rfl) ⟨rfl, rfl⟩ ⟨Nat.le_of_ble_eq_true rfl, Nat.le_of_ble_eq_true rfl⟩ ⟨Nat.zero_le _, Nat.zero_le _⟩ dX5_tellKey_24 (st1 := []) rfl (fun H locs hP hD hS => ?_)
    refine lv_aload_n hx hb dX5_tellKey_27 rfl (lv_at hl 0 rfl) ?_
    refine lv_iload_n hx hb dX5_tellKey_28 rfl (lv_at hl 1 rfl) ?_
    obtain ⟨r3_, hA39_, h⟩ := z_bind h
    have k39_ : ∀ (H : Heap) (locs : List Loc) (ls : Array Slot), va_P (zD g) vwCl [zo_X5 a_this a_bytes r2_.1 r2_.2.1, (a_bytes, .inl (zY g, 1702, .inl r2_.2.2))] H → va_D A [zo_X5 a_this a_bytes r2_.1 r2_.2.1, (a_bytes, .inl (zY g, 1702, .inl r2_.2.2))] → va_S A s.heap H locs → lv_has ls 2 [] → W p l e rm_X5_tellKey s m (([.ref a_this, .int x1] : List Value)).toArray below meth c H locs 0 0 Q (F0 m 39 ls [.ref (zAK g r3_), .ref a_this]) := by
      intro H locs ls hP hD hS hl
      obtain ⟨r4_, hr4_, h⟩ := z_bind h
      refine zVV F (k_X5_tellWord l N g a_this a_bytes r2_.1 r2_.2.1 r2_.2.2 r3_ _ hr4_) zy_X5_tellWord zw_345 hP hD hS [0, 1] [] [0, 1] (wr := []) (W1 := [zo_X5 a_this a_bytes r4_.1 r4_.2.1, (a_bytes, .inl (zY g, 1702, .inl r4_.2.2))]) rfl rfl rfl rfl (by decide) rfl rfl (q0 := 0) (he := rfl) (hc := rfl) (rest := []) rfl hl.1 rfl (Nat.le_of_ble_eq_true rfl) ⟨rfl, rfl⟩ ⟨Nat.le_of_ble_eq_true rfl, Nat.le_of_ble_eq_true rfl⟩ ⟨Nat.zero_le _, Nat.zero_le _⟩ dX5_tellKey_39 (st1 := []) rfl (fun H locs hP hD hS => ?_)
      obtain rfl := Option.some.inj h
      exact zV_v F hr hlocks hQ hP hD hS dX5_tellKey_42
    have h := hA39_
    refine z_le (tgt := 37) hx hb dX5_tellKey_29 (by decide) h (fun h => ?_) (fun h => ?_)
    · refine va_ldcS hx hb F.1.2.2.2.1 (F.2.2.1.2.1 _ zst_X5_75) dX5_tellKey_37 ?_
      obtain rfl := Option.some.inj h
      exact k39_ _ _ _ hP hD hS (lv_sub hl [] rfl)
    · refine va_ldcS hx hb F.1.2.2.2.1 (F.2.2.1.2.1 _ zst_X5_73) dX5_tellKey_32 ?_
      refine lv_goto (tgt := 39) hx hb dX5_tellKey_34 (by decide) ?_
      obtain rfl := Option.some.inj h
      exact k39_ _ _ _ hP hD hS (lv_sub hl [] rfl)
  · refine lv_aload_n hx hb dX5_tellKey_10 rfl (lv_at hl 0 rfl) ?_
    refine va_ldcS hx hb F.1.2.2.2.1 (F.2.2.1.2.1 _ zst_X5_65) dX5_tellKey_11 ?_
    obtain ⟨r5_, hr5_, h⟩ := z_bind h
    refine zVV F (k_X5_tellWord l N g a_this a_bytes r1_.1 r1_.2.1 r1_.2.2 4 _ hr5_) zy_X5_tellWord zw_345 hP hD hS [0, 1] [] [0, 1] (wr := []) (W1 := [zo_X5 a_this a_bytes r5_.1 r5_.2.1, (a_bytes, .inl (zY g, 1702, .inl r5_.2.2))]) rfl rfl rfl rfl (by decide) rfl rfl (q0 := 0) (he := rfl) (hc := rfl) (rest := []) rfl hl.1 rfl (Nat.le_of_ble_eq_true rfl) ⟨rfl, rfl⟩ ⟨Nat.le_of_ble_eq_true rfl, Nat.le_of_ble_eq_true rfl⟩ ⟨Nat.zero_le _, Nat.zero_le _⟩ dX5_tellKey_13 (st1 := []) rfl (fun H locs hP hD hS => ?_)
    refine lv_goto (tgt := 42) hx hb dX5_tellKey_16 (by decide) ?_
    obtain rfl := Option.some.inj h
    exact zV_v F hr hlocks hQ hP hD hS dX5_tellKey_42
def f_X5_tellEvent (N : Nat) (v_length : Int32) (v_wordCount : Int32) (v_bytes : Nat → Int32) (x1 : Int32) : Option (Int32 × Int32 × (Nat → Int32)) :=
  Option.bind (f_X0_isNote N x1) (fun (r1_ : Int32) => Option.bind (if r1_ = 0 then Option.bind (f_X5_tellWord N v_length v_wordCount v_bytes 10) (fun (r11_ : Int32 × Int32 × (Nat → Int32)) => some (r11_.1, r11_.2.1, r11_.2.2)) else Option.bind (f_X5_beginWord N v_length v_wordCount v_bytes) (fun (r12_ : Int32 × Int32 × (Nat → Int32)) => Option.bind (f_X0_stepOf N x1) (fun (r13_ : Int32) => Option.bind (f_X8_letterOf N r13_) (fun (r14_ : Int32) => Option.bind (f_X5_put N r12_.1 r12_.2.2 r14_) (fun (r15_ : Int32 × (Nat → Int32)) => Option.bind (f_X0_signOf N x1) (fun (r16_ : Int32) => Option.bind (if r16_ = 0 then some (r15_.1, r12_.2.1, r15_.2) else Option.bind (f_X0_signOf N x1) (fun (r20_ : Int32) => Option.bind (f_X8_ofSign N r20_) (fun (r21_ : Nat) => Option.bind (f_X5_tellWord N r15_.1 r12_.2.1 r15_.2 r21_) (fun (r22_ : Int32 × Int32 × (Nat → Int32)) => some (r22_.1, r22_.2.1, r22_.2.2))))) (fun (r17_ : Int32 × Int32 × (Nat → Int32)) => Option.bind (f_X0_octaveOf N x1) (fun (r18_ : Int32) => Option.bind (f_X5_tellNumber N r17_.1 r17_.2.1 r17_.2.2 r18_) (fun (r19_ : Int32 × Int32 × (Nat → Int32)) => some (r19_.1, r19_.2.1, r19_.2.2)))))))))) (fun (r2_ : Int32 × Int32 × (Nat → Int32)) => Option.bind (f_X0_isDotted N x1) (fun (r3_ : Int32) => Option.bind (if r3_ = 0 then some (r2_.1, r2_.2.1, r2_.2.2) else Option.bind (f_X5_tellWord N r2_.1 r2_.2.1 r2_.2.2 11) (fun (r10_ : Int32 × Int32 × (Nat → Int32)) => some (r10_.1, r10_.2.1, r10_.2.2))) (fun (r4_ : Int32 × Int32 × (Nat → Int32)) => Option.bind (f_X0_lengthOf N x1) (fun (r5_ : Int32) => Option.bind (f_X8_ofLength N r5_) (fun (r6_ : Nat) => Option.bind (f_X5_tellWord N r4_.1 r4_.2.1 r4_.2.2 r6_) (fun (r7_ : Int32 × Int32 × (Nat → Int32)) => Option.bind (f_X0_isTied N x1) (fun (r8_ : Int32) => if r8_ = 0 then some (r7_.1, r7_.2.1, r7_.2.2) else Option.bind (f_X5_tellWord N r7_.1 r7_.2.1 r7_.2.2 17) (fun (r9_ : Int32 × Int32 × (Nat → Int32)) => some (r9_.1, r9_.2.1, r9_.2.2))))))))))
abbrev rm_X5_tellEvent : Room := { frames := 7, cells := 0, slots := 0, locals := 222 }
theorem zy_X5_tellEvent : zYv yX5_tellEvent RX5 cX5_tellEvent 2 none 1 := ⟨zw_384, zw_385, zw_336, zw_377, ⟨by decide, by decide⟩, by decide +kernel⟩
set_option maxHeartbeats 4000000 in
set_option maxRecDepth 100000 in
theorem k_X5_tellEvent (l : Launch) (N : Nat) (g : zEnv) (a_this a_bytes : Nat) (v_length : Int32) (v_wordCount : Int32) (v_bytes : Nat → Int32) (x1 : Int32) (r : Int32 × Int32 × (Nat → Int32)) (h : f_X5_tellEvent N v_length v_wordCount v_bytes x1 = some r) : ZV l yX5_tellEvent cX5_tellEvent 2 none rm_X5_tellEvent g [.ref a_this, .int x1] [zo_X5 a_this a_bytes v_length v_wordCount, (a_bytes, .inl (zY g, 1702, .inl v_bytes))] [zo_X5 a_this a_bytes r.1 r.2.1, (a_bytes, .inl (zY g, 1702, .inl r.2.2))] none := by
  refine zV_of (by decide) (Nat.le_of_ble_eq_true rfl) ?_
  intro p e s m below meth c A H locs ls Q R F hRm hr hlocks hP hD hS hl hQ
  subst hRm
  have F : zF p m c cX5_tellEvent 2 s (([.ref a_this, .int x1] : List Value)).toArray RX5 g A := F
  have hx := F.1.1
  have hb := F.1.2.1
  have hz := F.1.2.2.2.2
  have hl : lv_has ls 2 [(0, .ref a_this), (1, .int x1)] := hl
  unfold f_X5_tellEvent at h
  refine lv_iload_n hx hb dX5_tellEvent_0 rfl (lv_at hl 1 rfl) ?_
  obtain ⟨r1_, hr1_, h⟩ := z_bind h
  refine zRS F (k_X0_isNote l N g x1 _ hr1_) zy_X0_isNote zw_361 hP hD hS [] rfl rfl (rest := []) rfl hl.1 rfl (Nat.le_of_ble_eq_true rfl) ⟨rfl, rfl⟩ ⟨Nat.le_of_ble_eq_true rfl, Nat.le_of_ble_eq_true rfl⟩ ⟨Nat.zero_le _, Nat.zero_le _⟩ dX5_tellEvent_1 (st1 := [.int r1_]) rfl ?_
  obtain ⟨r2_, hA57_, h⟩ := z_bind h
  have k57_ : ∀ (H : Heap) (locs : List Loc) (ls : Array Slot), va_P (zD g) vwCl [zo_X5 a_this a_bytes r2_.1 r2_.2.1, (a_bytes, .inl (zY g, 1702, .inl r2_.2.2))] H → va_D A [zo_X5 a_this a_bytes r2_.1 r2_.2.1, (a_bytes, .inl (zY g, 1702, .inl r2_.2.2))] → va_S A s.heap H locs → lv_has ls 2 [(0, .ref a_this), (1, .int x1)] → W p l e rm_X5_tellEvent s m (([.ref a_this, .int x1] : List Value)).toArray below meth c H locs 0 0 Q (F0 m 57 ls []) := by
    intro H locs ls hP hD hS hl
    refine lv_iload_n hx hb dX5_tellEvent_57 rfl (lv_at hl 1 rfl) ?_
    obtain ⟨r3_, hr3_, h⟩ := z_bind h
    refine zRS F (k_X0_isDotted l N g x1 _ hr3_) zy_X0_isDotted zw_371 hP hD hS [] rfl rfl (rest := []) rfl hl.1 rfl (Nat.le_of_ble_eq_true rfl) ⟨rfl, rfl⟩ ⟨Nat.le_of_ble_eq_true rfl, Nat.le_of_ble_eq_true rfl⟩ ⟨Nat.zero_le _, Nat.zero_le _⟩ dX5_tellEvent_58 (st1 := [.int r3_]) rfl ?_
    obtain ⟨r4_, hA70_, h⟩ := z_bind h
    have k70_ : ∀ (H : Heap) (locs : List Loc) (ls : Array Slot), va_P (zD g) vwCl [zo_X5 a_this a_bytes r4_.1 r4_.2.1, (a_bytes, .inl (zY g, 1702, .inl r4_.2.2))] H → va_D A [zo_X5 a_this a_bytes r4_.1 r4_.2.1, (a_bytes, .inl (zY g, 1702, .inl r4_.2.2))] → va_S A s.heap H locs → lv_has ls 2 [(0, .ref a_this), (1, .int x1)] → W p l e rm_X5_tellEvent s m (([.ref a_this, .int x1] : List Value)).toArray below meth c H locs 0 0 Q (F0 m 70 ls []) := by
      intro H locs ls hP hD hS hl
      refine lv_aload_n hx hb dX5_tellEvent_70 rfl (lv_at hl 0 rfl) ?_
      refine lv_iload_n hx hb dX5_tellEvent_71 rfl (lv_at hl 1 rfl) ?_
      obtain ⟨r5_, hr5_, h⟩ := z_bind h
      refine zRS F (k_X0_lengthOf l N g x1 _ hr5_) zy_X0_lengthOf zw_373 hP hD hS [] rfl rfl (rest := [.ref a_this]) rfl hl.1 rfl (Nat.le_of_ble_eq_true rfl) ⟨rfl, rfl⟩ ⟨Nat.le_of_ble_eq_true rfl, Nat.le_of_ble_eq_true rfl⟩ ⟨Nat.zero_le _, Nat.zero_le _⟩ dX5_tellEvent_72 (st1 := [.int r5_, .ref a_this]) rfl ?_
      obtain ⟨r6_, hr6_, h⟩ := z_bind h
      refine zRS F (k_X8_ofLength l N g r5_ _ hr6_) zy_X8_ofLength zw_375 hP hD hS [] rfl rfl (rest := [.ref a_this]) rfl hl.1 rfl (Nat.le_of_ble_eq_true rfl) ⟨rfl, rfl⟩ ⟨Nat.le_of_ble_eq_true rfl, Nat.le_of_ble_eq_true rfl⟩ ⟨Nat.zero_le _, Nat.zero_le _⟩ dX5_tellEvent_75 (st1 := [.ref (zAK g r6_), .ref a_this]) rfl ?_
      obtain ⟨r7_, hr7_, h⟩ := z_bind h
      refine zVV F (k_X5_tellWord l N g a_this a_bytes r4_.1 r4_.2.1 r4_.2.2 r6_ _ hr7_) zy_X5_tellWord zw_345 hP hD hS [0, 1] [] [0, 1] (wr := []) (W1 := [zo_X5 a_this a_bytes r7_.1 r7_.2.1, (a_bytes, .inl (zY g, 1702, .inl r7_.2.2))]) rfl rfl rfl rfl (by decide) rfl rfl (q0 := 0) (he := rfl) (hc := rfl) (rest := []) rfl hl.1 rfl (Nat.le_of_ble_eq_true rfl) ⟨rfl, rfl⟩ ⟨Nat.le_of_ble_eq_true rfl, Nat.le_of_ble_eq_true rfl⟩ ⟨Nat.zero_le _, Nat.zero_le _⟩ dX5_tellEvent_78 (st1 := []) rfl (fun H locs hP hD hS => ?_)
      refine lv_iload_n hx hb dX5_tellEvent_81 rfl (lv_at hl 1 rfl) ?_
      obtain ⟨r8_, hr8_, h⟩ := z_bind h
      refine zRS F (k_X0_isTied l N g x1 _ hr8_) zy_X0_isTied zw_376 hP hD hS [] rfl rfl (rest := []) rfl hl.1 rfl (Nat.le_of_ble_eq_true rfl) ⟨rfl, rfl⟩ ⟨Nat.le_of_ble_eq_true rfl, Nat.le_of_ble_eq_true rfl⟩ ⟨Nat.zero_le _, Nat.zero_le _⟩ dX5_tellEvent_82 (st1 := [.int r8_]) rfl ?_
      refine z_eq (tgt := 94) hx hb dX5_tellEvent_85 (by decide) h (fun h => ?_) (fun h => ?_)
      · obtain rfl := Option.some.inj h
        exact zV_v F hr hlocks hQ hP hD hS dX5_tellEvent_94
      · refine lv_aload_n hx hb dX5_tellEvent_88 rfl (lv_at hl 0 rfl) ?_
        refine va_ldcS hx hb F.1.2.2.2.1 (F.2.2.1.2.1 _ zst_X5_134) dX5_tellEvent_89 ?_
        obtain ⟨r9_, hr9_, h⟩ := z_bind h
        refine zVV F (k_X5_tellWord l N g a_this a_bytes r7_.1 r7_.2.1 r7_.2.2 17 _ hr9_) zy_X5_tellWord zw_345 hP hD hS [0, 1] [] [0, 1] (wr := []) (W1 := [zo_X5 a_this a_bytes r9_.1 r9_.2.1, (a_bytes, .inl (zY g, 1702, .inl r9_.2.2))]) rfl rfl rfl rfl (by decide) rfl rfl (q0 := 0) (he := rfl) (hc := rfl) (rest := []) rfl hl.1 rfl (Nat.le_of_ble_eq_true rfl) ⟨rfl, rfl⟩ ⟨Nat.le_of_ble_eq_true rfl, Nat.le_of_ble_eq_true rfl⟩ ⟨Nat.zero_le _, Nat.zero_le _⟩ dX5_tellEvent_91 (st1 := []) rfl (fun H locs hP hD hS => ?_)
        obtain rfl := Option.some.inj h
        exact zV_v F hr hlocks hQ hP hD hS dX5_tellEvent_94
    have h := hA70_
    refine z_eq (tgt := 70) hx hb dX5_tellEvent_61 (by decide) h (fun h => ?_) (fun h => ?_)
    · obtain rfl := Option.some.inj h
      exact k70_ _ _ _ hP hD hS (lv_sub hl [0, 1] rfl)
    · refine lv_aload_n hx hb dX5_tellEvent_64 rfl (lv_at hl 0 rfl) ?_
      refine va_ldcS hx hb F.1.2.2.2.1 (F.2.2.1.2.1 _ zst_X5_123) dX5_tellEvent_65 ?_
      obtain ⟨r10_, hr10_, h⟩ := z_bind h
      refine zVV F (k_X5_tellWord l N g a_this a_bytes r2_.1 r2_.2.1 r2_.2.2 11 _ hr10_) zy_X5_tellWord zw_345 hP hD hS [0, 1] [] [0, 1] (wr := []) (W1 := [zo_X5 a_this a_bytes r10_.1 r10_.2.1, (a_bytes, .inl (zY g, 1702, .inl r10_.2.2))]) rfl rfl rfl rfl (by decide) rfl rfl (q0 := 0) (he := rfl) (hc := rfl) (rest := []) rfl hl.1 rfl (Nat.le_of_ble_eq_true rfl) ⟨rfl, rfl⟩ ⟨Nat.le_of_ble_eq_true rfl, Nat.le_of_ble_eq_true rfl⟩ ⟨Nat.zero_le _, Nat.zero_le _⟩ dX5_tellEvent_67 (st1 := []) rfl (fun H locs hP hD hS => ?_)
      obtain rfl := Option.some.inj h
      exact k70_ _ _ _ hP hD hS (lv_sub hl [0, 1] rfl)
  have h := hA57_
  refine z_eq (tgt := 51) hx hb dX5_tellEvent_4 (by decide) h (fun h => ?_) (fun h => ?_)
  · refine lv_aload_n hx hb dX5_tellEvent_51 rfl (lv_at hl 0 rfl) ?_
    refine va_ldcS hx hb F.1.2.2.2.1 (F.2.2.1.2.1 _ zst_X5_118) dX5_tellEvent_52 ?_
    obtain ⟨r11_, hr11_, h⟩ := z_bind h
    refine zVV F (k_X5_tellWord l N g a_this a_bytes v_length v_wordCount v_bytes 10 _ hr11_) zy_X5_tellWord zw_345 hP hD hS [0, 1] [] [0, 1] (wr := []) (W1 := [zo_X5 a_this a_bytes r11_.1 r11_.2.1, (a_bytes, .inl (zY g, 1702, .inl r11_.2.2))]) rfl rfl rfl rfl (by decide) rfl rfl (q0 := 0) (he := rfl) (hc := rfl) (rest := []) rfl hl.1 rfl (Nat.le_of_ble_eq_true rfl) ⟨rfl, rfl⟩ ⟨Nat.le_of_ble_eq_true rfl, Nat.le_of_ble_eq_true rfl⟩ ⟨Nat.zero_le _, Nat.zero_le _⟩ dX5_tellEvent_54 (st1 := []) rfl (fun H locs hP hD hS => ?_)
    obtain rfl := Option.some.inj h
    exact k57_ _ _ _ hP hD hS (lv_sub hl [0, 1] rfl)
  · refine lv_aload_n hx hb dX5_tellEvent_7 rfl (lv_at hl 0 rfl) ?_
    obtain ⟨r12_, hr12_, h⟩ := z_bind h
    refine zVV F (k_X5_beginWord l N g a_this a_bytes v_length v_wordCount v_bytes _ hr12_) zy_X5_beginWord zw_338 hP hD hS [0, 1] [] [0, 1] (wr := []) (W1 := [zo_X5 a_this a_bytes r12_.1 r12_.2.1, (a_bytes, .inl (zY g, 1702, .inl r12_.2.2))]) rfl rfl rfl rfl (by decide) rfl rfl (q0 := 0) (he := rfl) (hc := rfl) (rest := []) rfl hl.1 rfl (Nat.le_of_ble_eq_true rfl) ⟨rfl, rfl⟩ ⟨Nat.le_of_ble_eq_true rfl, Nat.le_of_ble_eq_true rfl⟩ ⟨Nat.zero_le _, Nat.zero_le _⟩ dX5_tellEvent_8 (st1 := []) rfl (fun H locs hP hD hS => ?_)
    refine lv_aload_n hx hb dX5_tellEvent_11 rfl (lv_at hl 0 rfl) ?_
    refine lv_iload_n hx hb dX5_tellEvent_12 rfl (lv_at hl 1 rfl) ?_
    obtain ⟨r13_, hr13_, h⟩ := z_bind h
    refine zRS F (k_X0_stepOf l N g x1 _ hr13_) zy_X0_stepOf zw_362 hP hD hS [] rfl rfl (rest := [.ref a_this]) rfl hl.1 rfl (Nat.le_of_ble_eq_true rfl) ⟨rfl, rfl⟩ ⟨Nat.le_of_ble_eq_true rfl, Nat.le_of_ble_eq_true rfl⟩ ⟨Nat.zero_le _, Nat.zero_le _⟩ dX5_tellEvent_13 (st1 := [.int r13_, .ref a_this]) rfl ?_
    obtain ⟨r14_, hr14_, h⟩ := z_bind h
    refine zRS F (k_X8_letterOf l N g r13_ _ hr14_) zy_X8_letterOf zw_364 hP hD hS [] rfl rfl (rest := [.ref a_this]) rfl hl.1 rfl (Nat.le_of_ble_eq_true rfl) ⟨rfl, rfl⟩ ⟨Nat.le_of_ble_eq_true rfl, Nat.le_of_ble_eq_true rfl⟩ ⟨Nat.zero_le _, Nat.zero_le _⟩ dX5_tellEvent_16 (st1 := [.int r14_, .ref a_this]) rfl ?_
    obtain ⟨r15_, hr15_, h⟩ := z_bind h
    refine zVV F (k_X5_put l N g a_this a_bytes r12_.2.1 r12_.1 r12_.2.2 r14_ _ hr15_) zy_X5_put zw_333 hP hD hS [0, 1] [] [0, 1] (wr := []) (W1 := [zo_X5 a_this a_bytes r15_.1 r12_.2.1, (a_bytes, .inl (zY g, 1702, .inl r15_.2))]) rfl rfl rfl rfl (by decide) rfl rfl (q0 := 0) (he := rfl) (hc := rfl) (rest := []) rfl hl.1 rfl (Nat.le_of_ble_eq_true rfl) ⟨rfl, rfl⟩ ⟨Nat.le_of_ble_eq_true rfl, Nat.le_of_ble_eq_true rfl⟩ ⟨Nat.zero_le _, Nat.zero_le _⟩ dX5_tellEvent_19 (st1 := []) rfl (fun H locs hP hD hS => ?_)
    refine lv_iload_n hx hb dX5_tellEvent_22 rfl (lv_at hl 1 rfl) ?_
    obtain ⟨r16_, hr16_, h⟩ := z_bind h
    refine zRS F (k_X0_signOf l N g x1 _ hr16_) zy_X0_signOf zw_366 hP hD hS [] rfl rfl (rest := []) rfl hl.1 rfl (Nat.le_of_ble_eq_true rfl) ⟨rfl, rfl⟩ ⟨Nat.le_of_ble_eq_true rfl, Nat.le_of_ble_eq_true rfl⟩ ⟨Nat.zero_le _, Nat.zero_le _⟩ dX5_tellEvent_23 (st1 := [.int r16_]) rfl ?_
    obtain ⟨r17_, hA40_, h⟩ := z_bind h
    have k40_ : ∀ (H : Heap) (locs : List Loc) (ls : Array Slot), va_P (zD g) vwCl [zo_X5 a_this a_bytes r17_.1 r17_.2.1, (a_bytes, .inl (zY g, 1702, .inl r17_.2.2))] H → va_D A [zo_X5 a_this a_bytes r17_.1 r17_.2.1, (a_bytes, .inl (zY g, 1702, .inl r17_.2.2))] → va_S A s.heap H locs → lv_has ls 2 [(0, .ref a_this), (1, .int x1)] → W p l e rm_X5_tellEvent s m (([.ref a_this, .int x1] : List Value)).toArray below meth c H locs 0 0 Q (F0 m 40 ls []) := by
      intro H locs ls hP hD hS hl
      refine lv_aload_n hx hb dX5_tellEvent_40 rfl (lv_at hl 0 rfl) ?_
      refine lv_iload_n hx hb dX5_tellEvent_41 rfl (lv_at hl 1 rfl) ?_
      obtain ⟨r18_, hr18_, h⟩ := z_bind h
      refine zRS F (k_X0_octaveOf l N g x1 _ hr18_) zy_X0_octaveOf zw_369 hP hD hS [] rfl rfl (rest := [.ref a_this]) rfl hl.1 rfl (Nat.le_of_ble_eq_true rfl) ⟨rfl, rfl⟩ ⟨Nat.le_of_ble_eq_true rfl, Nat.le_of_ble_eq_true rfl⟩ ⟨Nat.zero_le _, Nat.zero_le _⟩ dX5_tellEvent_42 (st1 := [.int r18_, .ref a_this]) rfl ?_
      obtain ⟨r19_, hr19_, h⟩ := z_bind h
      refine zVV F (k_X5_tellNumber l N g a_this a_bytes r17_.1 r17_.2.1 r17_.2.2 r18_ _ hr19_) zy_X5_tellNumber zw_348 hP hD hS [0, 1] [] [0, 1] (wr := []) (W1 := [zo_X5 a_this a_bytes r19_.1 r19_.2.1, (a_bytes, .inl (zY g, 1702, .inl r19_.2.2))]) rfl rfl rfl rfl (by decide) rfl rfl (q0 := 0) (he := rfl) (hc := rfl) (rest := []) rfl hl.1 rfl (Nat.le_of_ble_eq_true rfl) ⟨rfl, rfl⟩ ⟨Nat.le_of_ble_eq_true rfl, Nat.le_of_ble_eq_true rfl⟩ ⟨Nat.zero_le _, Nat.zero_le _⟩ dX5_tellEvent_45 (st1 := []) rfl (fun H locs hP hD hS => ?_)
      refine lv_goto (tgt := 57) hx hb dX5_tellEvent_48 (by decide) ?_
      obtain rfl := Option.some.inj h
      exact k57_ _ _ _ hP hD hS (lv_sub hl [0, 1] rfl)
    have h := hA40_
    refine z_eq (tgt := 40) hx hb dX5_tellEvent_26 (by decide) h (fun h => ?_) (fun h => ?_)
    · obtain rfl := Option.some.inj h
      exact k40_ _ _ _ hP hD hS (lv_sub hl [0, 1] rfl)
    · refine lv_aload_n hx hb dX5_tellEvent_29 rfl (lv_at hl 0 rfl) ?_
      refine lv_iload_n hx hb dX5_tellEvent_30 rfl (lv_at hl 1 rfl) ?_
      obtain ⟨r20_, hr20_, h⟩ := z_bind h
      refine zRS F (k_X0_signOf l N g x1 _ hr20_) zy_X0_signOf zw_366 hP hD hS [] rfl rfl (rest := [.ref a_this]) rfl hl.1 rfl (Nat.le_of_ble_eq_true rfl) ⟨rfl, rfl⟩ ⟨Nat.le_of_ble_eq_true rfl, Nat.le_of_ble_eq_true rfl⟩ ⟨Nat.zero_le _, Nat.zero_le _⟩ dX5_tellEvent_31 (st1 := [.int r20_, .ref a_this]) rfl ?_
      obtain ⟨r21_, hr21_, h⟩ := z_bind h
      refine zRS F (k_X8_ofSign l N g r20_ _ hr21_) zy_X8_ofSign zw_368 hP hD hS [] rfl rfl (rest := [.ref a_this]) rfl hl.1 rfl (Nat.le_of_ble_eq_true rfl) ⟨rfl, rfl⟩ ⟨Nat.le_of_ble_eq_true rfl, Nat.le_of_ble_eq_true rfl⟩ ⟨Nat.zero_le _, Nat.zero_le _⟩ dX5_tellEvent_34 (st1 := [.ref (zAK g r21_), .ref a_this]) rfl ?_
      obtain ⟨r22_, hr22_, h⟩ := z_bind h
      refine zVV F (k_X5_tellWord l N g a_this a_bytes r15_.1 r12_.2.1 r15_.2 r21_ _ hr22_) zy_X5_tellWord zw_345 hP hD hS [0, 1] [] [0, 1] (wr := []) (W1 := [zo_X5 a_this a_bytes r22_.1 r22_.2.1, (a_bytes, .inl (zY g, 1702, .inl r22_.2.2))]) rfl rfl rfl rfl (by decide) rfl rfl (q0 := 0) (he := rfl) (hc := rfl) (rest := []) rfl hl.1 rfl (Nat.le_of_ble_eq_true rfl) ⟨rfl, rfl⟩ ⟨Nat.le_of_ble_eq_true rfl, Nat.le_of_ble_eq_true rfl⟩ ⟨Nat.zero_le _, Nat.zero_le _⟩ dX5_tellEvent_37 (st1 := []) rfl (fun H locs hP hD hS => ?_)
      obtain rfl := Option.some.inj h
      exact k40_ _ _ _ hP hD hS (lv_sub hl [0, 1] rfl)
def f_X5_tellVoice_B21 (N : Nat) (v_p1_size : Int32) (v_p1_cells : Nat → Int32) (x2 : Int32) (x3 : Int32) (kh21_ : Int32 × Int32 × Int32 × (Nat → Int32) → Option (Int32 × Int32 × (Nat → Int32))) (v21_ : Int32 × Int32 × Int32 × (Nat → Int32)) : Option (Int32 × Int32 × (Nat → Int32)) :=
  Option.bind (f_X4_count N v_p1_size v_p1_cells x2 x3) (fun (r4_ : Int32) => if v21_.1 < r4_ then Option.bind (f_X4_code N v_p1_size v_p1_cells x2 x3 v21_.1) (fun (r5_ : Int32) => Option.bind (f_X5_tellEvent N v21_.2.1 v21_.2.2.1 v21_.2.2.2 r5_) (fun (r6_ : Int32 × Int32 × (Nat → Int32)) => Option.bind (some (v21_.1 + 1)) (fun (x7_ : Int32) => kh21_ (x7_, r6_.1, r6_.2.1, r6_.2.2)))) else some (v21_.2.1, v21_.2.2.1, v21_.2.2.2))
def f_X5_tellVoice (N : Nat) (v_length : Int32) (v_wordCount : Int32) (v_bytes : Nat → Int32) (v_p1_size : Int32) (v_p1_cells : Nat → Int32) (x2 : Int32) (x3 : Int32) : Option (Int32 × Int32 × (Nat → Int32)) :=
  Option.bind (f_X4_count N v_p1_size v_p1_cells x2 x3) (fun (r1_ : Int32) => Option.bind (if 0 < r1_ then Option.bind (f_X5_tellNumbered N v_length v_wordCount v_bytes 9 (x3 + 1)) (fun (r8_ : Int32 × Int32 × (Nat → Int32)) => some (r8_.1, r8_.2.1, r8_.2.2)) else some (v_length, v_wordCount, v_bytes)) (fun (r2_ : Int32 × Int32 × (Nat → Int32)) => Option.bind (zLoop (f_X5_tellVoice_B21 N v_p1_size v_p1_cells x2 x3) N (0, r2_.1, r2_.2.1, r2_.2.2)) (fun (r3_ : Int32 × Int32 × (Nat → Int32)) => some (r3_.1, r3_.2.1, r3_.2.2))))
abbrev rm_X5_tellVoice : Room := { frames := 8, cells := 0, slots := 0, locals := 244 }
theorem zy_X5_tellVoice : zYv yX5_tellVoice RX5 cX5_tellVoice 5 none 3 := ⟨zw_393, zw_394, zw_336, zw_386, ⟨by decide, by decide⟩, by decide +kernel⟩
set_option maxHeartbeats 4000000 in
set_option maxRecDepth 100000 in
theorem k_X5_tellVoice (l : Launch) (N : Nat) (g : zEnv) (a_this a_bytes a_p1 a_p1_cells : Nat) (v_length : Int32) (v_wordCount : Int32) (v_bytes : Nat → Int32) (v_p1_size : Int32) (v_p1_cells : Nat → Int32) (x2 : Int32) (x3 : Int32) (r : Int32 × Int32 × (Nat → Int32)) (h : f_X5_tellVoice N v_length v_wordCount v_bytes v_p1_size v_p1_cells x2 x3 = some r) : ZV l yX5_tellVoice cX5_tellVoice 5 none rm_X5_tellVoice g [.ref a_this, .ref a_p1, .int x2, .int x3] [zo_X5 a_this a_bytes v_length v_wordCount, (a_bytes, .inl (zY g, 1702, .inl v_bytes)), zo_X4 a_p1 a_p1_cells v_p1_size, (a_p1_cells, .inl (zI g, 912, .inl v_p1_cells))] [zo_X5 a_this a_bytes r.1 r.2.1, (a_bytes, .inl (zY g, 1702, .inl r.2.2)), zo_X4 a_p1 a_p1_cells v_p1_size, (a_p1_cells, .inl (zI g, 912, .inl v_p1_cells))] none := by
  refine zV_of (by decide) (Nat.le_of_ble_eq_true rfl) ?_
  intro p e s m below meth c A H locs ls Q R F hRm hr hlocks hP hD hS hl hQ
  subst hRm
  have F : zF p m c cX5_tellVoice 5 s (([.ref a_this, .ref a_p1, .int x2, .int x3] : List Value)).toArray RX5 g A := F
  have hx := F.1.1
  have hb := F.1.2.1
  have hz := F.1.2.2.2.2
  have hl : lv_has ls 5 [(0, .ref a_this), (1, .ref a_p1), (2, .int x2), (3, .int x3)] := hl
  unfold f_X5_tellVoice at h
  refine lv_aload_n hx hb dX5_tellVoice_0 rfl (lv_at hl 1 rfl) ?_
  refine lv_iload_n hx hb dX5_tellVoice_1 rfl (lv_at hl 2 rfl) ?_
  refine lv_iload_n hx hb dX5_tellVoice_2 rfl (lv_at hl 3 rfl) ?_
  obtain ⟨r1_, hr1_, h⟩ := z_bind h
  refine zRV F (k_X4_count l N g a_p1 a_p1_cells v_p1_size v_p1_cells x2 x3 _ hr1_) zy_X4_count zw_378 hP hD hS [2, 3] rfl rfl (q0 := 2) (he := rfl) (hc := rfl) (rest := []) rfl hl.1 rfl (Nat.le_of_ble_eq_true rfl) ⟨rfl, rfl⟩ ⟨Nat.le_of_ble_eq_true rfl, Nat.le_of_ble_eq_true rfl⟩ ⟨Nat.zero_le _, Nat.zero_le _⟩ dX5_tellVoice_3 (st1 := [.int r1_]) rfl ?_
  obtain ⟨r2_, hA18_, h⟩ := z_bind h
  have k18_ : ∀ (H : Heap) (locs : List Loc) (ls : Array Slot), va_P (zD g) vwCl [zo_X5 a_this a_bytes r2_.1 r2_.2.1, (a_bytes, .inl (zY g, 1702, .inl r2_.2.2)), zo_X4 a_p1 a_p1_cells v_p1_size, (a_p1_cells, .inl (zI g, 912, .inl v_p1_cells))] H → va_D A [zo_X5 a_this a_bytes r2_.1 r2_.2.1, (a_bytes, .inl (zY g, 1702, .inl r2_.2.2)), zo_X4 a_p1 a_p1_cells v_p1_size, (a_p1_cells, .inl (zI g, 912, .inl v_p1_cells))] → va_S A s.heap H locs → lv_has ls 5 [(0, .ref a_this), (1, .ref a_p1), (2, .int x2), (3, .int x3)] → W p l e rm_X5_tellVoice s m (([.ref a_this, .ref a_p1, .int x2, .int x3] : List Value)).toArray below meth c H locs 0 0 Q (F0 m 18 ls []) := by
    intro H locs ls hP hD hS hl
    refine lv_iconst (v := 0) hx hb dX5_tellVoice_18 (by decide) ?_
    refine lv_istore (lv' := [(4, .int 0), (0, .ref a_this), (1, .ref a_p1), (2, .int x2), (3, .int x3)]) hx hb dX5_tellVoice_19 hl (by decide) rfl (fun ls hl => ?_)
    obtain ⟨r3_, hA21_, h⟩ := z_bind h
    have k50_ : ∀ (H : Heap) (locs : List Loc) (ls : Array Slot), va_P (zD g) vwCl [zo_X5 a_this a_bytes r3_.1 r3_.2.1, (a_bytes, .inl (zY g, 1702, .inl r3_.2.2)), zo_X4 a_p1 a_p1_cells v_p1_size, (a_p1_cells, .inl (zI g, 912, .inl v_p1_cells))] H → va_D A [zo_X5 a_this a_bytes r3_.1 r3_.2.1, (a_bytes, .inl (zY g, 1702, .inl r3_.2.2)), zo_X4 a_p1 a_p1_cells v_p1_size, (a_p1_cells, .inl (zI g, 912, .inl v_p1_cells))] → va_S A s.heap H locs → lv_has ls 5 [] → W p l e rm_X5_tellVoice s m (([.ref a_this, .ref a_p1, .int x2, .int x3] : List Value)).toArray below meth c H locs 0 0 Q (F0 m 50 ls []) := by
      intro H locs ls hP hD hS hl
      obtain rfl := Option.some.inj h
      exact zV_v F hr hlocks hQ hP hD hS dX5_tellVoice_50
    have h := hA21_
    have l21_ : ∀ (n21_ : Nat) (v21_ : Int32 × Int32 × Int32 × (Nat → Int32)), zLoop (f_X5_tellVoice_B21 N v_p1_size v_p1_cells x2 x3) n21_ v21_ = some r3_ → ∀ (H : Heap) (locs : List Loc) (ls : Array Slot), va_P (zD g) vwCl [zo_X5 a_this a_bytes v21_.2.1 v21_.2.2.1, (a_bytes, .inl (zY g, 1702, .inl v21_.2.2.2)), zo_X4 a_p1 a_p1_cells v_p1_size, (a_p1_cells, .inl (zI g, 912, .inl v_p1_cells))] H → va_D A [zo_X5 a_this a_bytes v21_.2.1 v21_.2.2.1, (a_bytes, .inl (zY g, 1702, .inl v21_.2.2.2)), zo_X4 a_p1 a_p1_cells v_p1_size, (a_p1_cells, .inl (zI g, 912, .inl v_p1_cells))] → va_S A s.heap H locs → lv_has ls 5 [(0, .ref a_this), (1, .ref a_p1), (2, .int x2), (3, .int x3), (4, .int v21_.1)] → W p l e rm_X5_tellVoice s m (([.ref a_this, .ref a_p1, .int x2, .int x3] : List Value)).toArray below meth c H locs 0 0 Q (F0 m 21 ls []) := by
      intro n21_
      induction n21_ with
      | zero => intro v21_ h; cases h
      | succ n21_ ih21_ =>
        intro v21_ h H locs ls hP hD hS hl
        have h : f_X5_tellVoice_B21 N v_p1_size v_p1_cells x2 x3 (zLoop (f_X5_tellVoice_B21 N v_p1_size v_p1_cells x2 x3) n21_) v21_ = some r3_ := h
        unfold f_X5_tellVoice_B21 at h
        refine lv_iload hx hb dX5_tellVoice_21 (lv_at hl 4 rfl) ?_
        refine lv_aload_n hx hb dX5_tellVoice_23 rfl (lv_at hl 1 rfl) ?_
        refine lv_iload_n hx hb dX5_tellVoice_24 rfl (lv_at hl 2 rfl) ?_
        refine lv_iload_n hx hb dX5_tellVoice_25 rfl (lv_at hl 3 rfl) ?_
        obtain ⟨r4_, hr4_, h⟩ := z_bind h
        refine zRV F (k_X4_count l N g a_p1 a_p1_cells v_p1_size v_p1_cells x2 x3 _ hr4_) zy_X4_count zw_378 hP hD hS [2, 3] rfl rfl (q0 := 2) (he := rfl) (hc := rfl) (rest := [.int v21_.1]) rfl hl.1 rfl (Nat.le_of_ble_eq_true rfl) ⟨rfl, rfl⟩ ⟨Nat.le_of_ble_eq_true rfl, Nat.le_of_ble_eq_true rfl⟩ ⟨Nat.zero_le _, Nat.zero_le _⟩ dX5_tellVoice_26 (st1 := [.int r4_, .int v21_.1]) rfl ?_
        refine z_cge (tgt := 50) hx hb dX5_tellVoice_29 (by decide) h (fun h => ?_) (fun h => ?_)
        · obtain rfl := Option.some.inj h
          exact k50_ _ _ _ hP hD hS (lv_sub hl [] rfl)
        · refine lv_aload_n hx hb dX5_tellVoice_32 rfl (lv_at hl 0 rfl) ?_
          refine lv_aload_n hx hb dX5_tellVoice_33 rfl (lv_at hl 1 rfl) ?_
          refine lv_iload_n hx hb dX5_tellVoice_34 rfl (lv_at hl 2 rfl) ?_
          refine lv_iload_n hx hb dX5_tellVoice_35 rfl (lv_at hl 3 rfl) ?_
          refine lv_iload hx hb dX5_tellVoice_36 (lv_at hl 4 rfl) ?_
          obtain ⟨r5_, hr5_, h⟩ := z_bind h
          refine zRV F (k_X4_code l N g a_p1 a_p1_cells v_p1_size v_p1_cells x2 x3 v21_.1 _ hr5_) zy_X4_code zw_382 hP hD hS [2, 3] rfl rfl (q0 := 2) (he := rfl) (hc := rfl) (rest := [.ref a_this]) rfl hl.1 rfl (Nat.le_of_ble_eq_true rfl) ⟨rfl, rfl⟩ ⟨Nat.le_of_ble_eq_true rfl, Nat.le_of_ble_eq_true rfl⟩ ⟨Nat.zero_le _, Nat.zero_le _⟩ dX5_tellVoice_38 (st1 := [.int r5_, .ref a_this]) rfl ?_
          obtain ⟨r6_, hr6_, h⟩ := z_bind h
          refine zVV F (k_X5_tellEvent l N g a_this a_bytes v21_.2.1 v21_.2.2.1 v21_.2.2.2 r5_ _ hr6_) zy_X5_tellEvent zw_383 hP hD hS [0, 1] [2, 3] [2, 3, 0, 1] (wr := [zo_X4 a_p1 a_p1_cells v_p1_size, (a_p1_cells, .inl (zI g, 912, .inl v_p1_cells))]) (W1 := [zo_X5 a_this a_bytes r6_.1 r6_.2.1, (a_bytes, .inl (zY g, 1702, .inl r6_.2.2)), zo_X4 a_p1 a_p1_cells v_p1_size, (a_p1_cells, .inl (zI g, 912, .inl v_p1_cells))]) rfl rfl rfl rfl (by decide) rfl rfl (q0 := 0) (he := rfl) (hc := rfl) (rest := []) rfl hl.1 rfl (Nat.le_of_ble_eq_true rfl) ⟨rfl, rfl⟩ ⟨Nat.le_of_ble_eq_true rfl, Nat.le_of_ble_eq_true rfl⟩ ⟨Nat.zero_le _, Nat.zero_le _⟩ dX5_tellVoice_41 (st1 := []) rfl (fun H locs hP hD hS => ?_)
          refine z_nm h (fun x7_ ex7_ h => ?_)
          refine lv_iinc (v := x7_) (lv' := [(4, .int x7_), (0, .ref a_this), (1, .ref a_p1), (2, .int x2), (3, .int x3)]) hx hb dX5_tellVoice_44 hl (k := 4) rfl (by rw [ex7_]; rfl) (by decide) rfl (fun ls hl => ?_)
          refine lv_goto (tgt := 21) hx hb dX5_tellVoice_47 (by decide) ?_
          exact ih21_ _ h _ _ _ hP hD hS (lv_sub hl [1, 2, 3, 4, 0] rfl)
    exact l21_ N _ h _ _ _ hP hD hS (lv_sub hl [1, 2, 3, 4, 0] rfl)
  have h := hA18_
  refine z_le (tgt := 18) hx hb dX5_tellVoice_6 (by decide) h (fun h => ?_) (fun h => ?_)
  · obtain rfl := Option.some.inj h
    exact k18_ _ _ _ hP hD hS (lv_sub hl [0, 1, 2, 3] rfl)
  · refine lv_aload_n hx hb dX5_tellVoice_9 rfl (lv_at hl 0 rfl) ?_
    refine va_ldcS hx hb F.1.2.2.2.1 (F.2.2.1.2.1 _ zst_X5_80) dX5_tellVoice_10 ?_
    refine lv_iload_n hx hb dX5_tellVoice_12 rfl (lv_at hl 3 rfl) ?_
    refine lv_iconst (v := 1) hx hb dX5_tellVoice_13 (by decide) ?_
    refine lv_iadd hx hb dX5_tellVoice_14 ?_
    obtain ⟨r8_, hr8_, h⟩ := z_bind h
    refine zVV F (k_X5_tellNumbered l N g a_this a_bytes v_length v_wordCount v_bytes 9 (x3 + 1) _ hr8_) zy_X5_tellNumbered zw_379 hP hD hS [0, 1] [2, 3] [2, 3, 0, 1] (wr := [zo_X4 a_p1 a_p1_cells v_p1_size, (a_p1_cells, .inl (zI g, 912, .inl v_p1_cells))]) (W1 := [zo_X5 a_this a_bytes r8_.1 r8_.2.1, (a_bytes, .inl (zY g, 1702, .inl r8_.2.2)), zo_X4 a_p1 a_p1_cells v_p1_size, (a_p1_cells, .inl (zI g, 912, .inl v_p1_cells))]) rfl rfl rfl rfl (by decide) rfl rfl (q0 := 0) (he := rfl) (hc := rfl) (rest := []) rfl hl.1 rfl (Nat.le_of_ble_eq_true rfl) ⟨rfl, rfl⟩ ⟨Nat.le_of_ble_eq_true rfl, Nat.le_of_ble_eq_true rfl⟩ ⟨Nat.zero_le _, Nat.zero_le _⟩ dX5_tellVoice_15 (st1 := []) rfl (fun H locs hP hD hS => ?_)
    obtain rfl := Option.some.inj h
    exact k18_ _ _ _ hP hD hS (lv_sub hl [0, 1, 2, 3] rfl)
def f_X5_tellMeasure_B127 (N : Nat) (v_p1_size : Int32) (v_p1_cells : Nat → Int32) (x2 : Int32) (kh127_ : Int32 × Int32 × Int32 × (Nat → Int32) → Option (Int32 × Int32 × (Nat → Int32))) (v127_ : Int32 × Int32 × Int32 × (Nat → Int32)) : Option (Int32 × Int32 × (Nat → Int32)) :=
  if v127_.1 < 2 then Option.bind (f_X5_tellVoice N v127_.2.1 v127_.2.2.1 v127_.2.2.2 v_p1_size v_p1_cells x2 v127_.1) (fun (r14_ : Int32 × Int32 × (Nat → Int32)) => Option.bind (some (v127_.1 + 1)) (fun (x15_ : Int32) => kh127_ (x15_, r14_.1, r14_.2.1, r14_.2.2))) else some (v127_.2.1, v127_.2.2.1, v127_.2.2.2)
def f_X5_tellMeasure_J103 (N : Nat) (v_p1_size : Int32) (v_p1_cells : Nat → Int32) (x2 : Int32) (r6_ : Int32 × Int32 × (Nat → Int32)) : Option (Int32 × Int32 × (Nat → Int32)) :=
  Option.bind (f_X4_value N v_p1_size v_p1_cells x2 1) (fun (r16_ : Int32) => Option.bind (f_X5_tellNumbered N r6_.1 r6_.2.1 r6_.2.2 8 r16_) (fun (r17_ : Int32 × Int32 × (Nat → Int32)) => Option.bind (f_X4_value N v_p1_size v_p1_cells x2 2) (fun (r18_ : Int32) => Option.bind (f_X5_tellNumber N r17_.1 r17_.2.1 r17_.2.2 r18_) (fun (r19_ : Int32 × Int32 × (Nat → Int32)) => some (r19_.1, r19_.2.1, r19_.2.2)))))
def f_X5_tellMeasure_J71 (N : Nat) (v_p1_size : Int32) (v_p1_cells : Nat → Int32) (x2 : Int32) (r5_ : Int32 × Int32 × (Nat → Int32)) : Option (Int32 × Int32 × (Nat → Int32)) :=
  Option.bind (f_X4_value N v_p1_size v_p1_cells x2 0) (fun (r22_ : Int32) => Option.bind (f_X5_tellKey N r5_.1 r5_.2.1 r5_.2.2 r22_) (fun (r23_ : Int32 × Int32 × (Nat → Int32)) => some (r23_.1, r23_.2.1, r23_.2.2)))
def f_X5_tellMeasure (N : Nat) (v_length : Int32) (v_wordCount : Int32) (v_bytes : Nat → Int32) (v_p1_size : Int32) (v_p1_cells : Nat → Int32) (x2 : Int32) : Option (Int32 × Int32 × (Nat → Int32)) :=
  Option.bind (f_X5_tellNumbered N 0 0 v_bytes 0 (x2 + 1)) (fun (r1_ : Int32 × Int32 × (Nat → Int32)) => Option.bind (f_X4_value N v_p1_size v_p1_cells x2 4) (fun (r2_ : Int32) => Option.bind (if r2_ = 1 then Option.bind (f_X5_tellWord N r1_.1 r1_.2.1 r1_.2.2 1) (fun (r27_ : Int32 × Int32 × (Nat → Int32)) => some (r27_.1, r27_.2.1, r27_.2.2)) else some (r1_.1, r1_.2.1, r1_.2.2)) (fun (r3_ : Int32 × Int32 × (Nat → Int32)) => Option.bind (f_X4_value N v_p1_size v_p1_cells x2 6) (fun (r4_ : Int32) => Option.bind (if r4_ = 0 then some (r3_.1, r3_.2.1, r3_.2.2) else Option.bind (f_X4_value N v_p1_size v_p1_cells x2 6) (fun (r25_ : Int32) => Option.bind (f_X5_tellNumbered N r3_.1 r3_.2.1 r3_.2.2 2 r25_) (fun (r26_ : Int32 × Int32 × (Nat → Int32)) => some (r26_.1, r26_.2.1, r26_.2.2)))) (fun (r5_ : Int32 × Int32 × (Nat → Int32)) => Option.bind (if x2 = 0 then f_X5_tellMeasure_J71 N v_p1_size v_p1_cells x2 r5_ else Option.bind (f_X5_differsFromBefore N v_p1_size v_p1_cells x2 0) (fun (r24_ : Int32) => if r24_ = 0 then some (r5_.1, r5_.2.1, r5_.2.2) else f_X5_tellMeasure_J71 N v_p1_size v_p1_cells x2 r5_)) (fun (r6_ : Int32 × Int32 × (Nat → Int32)) => Option.bind (if x2 = 0 then f_X5_tellMeasure_J103 N v_p1_size v_p1_cells x2 r6_ else Option.bind (f_X5_differsFromBefore N v_p1_size v_p1_cells x2 1) (fun (r20_ : Int32) => if r20_ = 0 then Option.bind (f_X5_differsFromBefore N v_p1_size v_p1_cells x2 2) (fun (r21_ : Int32) => if r21_ = 0 then some (r6_.1, r6_.2.1, r6_.2.2) else f_X5_tellMeasure_J103 N v_p1_size v_p1_cells x2 r6_) else f_X5_tellMeasure_J103 N v_p1_size v_p1_cells x2 r6_)) (fun (r7_ : Int32 × Int32 × (Nat → Int32)) => Option.bind (zLoop (f_X5_tellMeasure_B127 N v_p1_size v_p1_cells x2) N (0, r7_.1, r7_.2.1, r7_.2.2)) (fun (r8_ : Int32 × Int32 × (Nat → Int32)) => Option.bind (f_X4_value N v_p1_size v_p1_cells x2 5) (fun (r9_ : Int32) => Option.bind (if r9_ = 0 then some (r8_.1, r8_.2.1, r8_.2.2) else Option.bind (f_X4_value N v_p1_size v_p1_cells x2 5) (fun (r12_ : Int32) => Option.bind (f_X5_tellNumbered N r8_.1 r8_.2.1 r8_.2.2 18 r12_) (fun (r13_ : Int32 × Int32 × (Nat → Int32)) => some (r13_.1, r13_.2.1, r13_.2.2)))) (fun (r10_ : Int32 × Int32 × (Nat → Int32)) => Option.bind (f_X5_tellWord N r10_.1 r10_.2.1 r10_.2.2 19) (fun (r11_ : Int32 × Int32 × (Nat → Int32)) => some (r11_.1, r11_.2.1, r11_.2.2))))))))))))
abbrev rm_X5_tellMeasure : Room := { frames := 9, cells := 0, slots := 0, locals := 268 }
theorem zy_X5_tellMeasure : zYv yX5_tellMeasure RX5 cX5_tellMeasure 4 none 2 := ⟨zw_642, zw_643, zw_336, zw_395, ⟨by decide, by decide⟩, by decide +kernel⟩
set_option maxHeartbeats 4000000 in
set_option maxRecDepth 100000 in
theorem k_X5_tellMeasure (l : Launch) (N : Nat) (g : zEnv) (a_this a_bytes a_p1 a_p1_cells : Nat) (v_length : Int32) (v_wordCount : Int32) (v_bytes : Nat → Int32) (v_p1_size : Int32) (v_p1_cells : Nat → Int32) (x2 : Int32) (r : Int32 × Int32 × (Nat → Int32)) (h : f_X5_tellMeasure N v_length v_wordCount v_bytes v_p1_size v_p1_cells x2 = some r) : ZV l yX5_tellMeasure cX5_tellMeasure 4 none rm_X5_tellMeasure g [.ref a_this, .ref a_p1, .int x2] [zo_X5 a_this a_bytes v_length v_wordCount, (a_bytes, .inl (zY g, 1702, .inl v_bytes)), zo_X4 a_p1 a_p1_cells v_p1_size, (a_p1_cells, .inl (zI g, 912, .inl v_p1_cells))] [zo_X5 a_this a_bytes r.1 r.2.1, (a_bytes, .inl (zY g, 1702, .inl r.2.2)), zo_X4 a_p1 a_p1_cells v_p1_size, (a_p1_cells, .inl (zI g, 912, .inl v_p1_cells))] none := by
  refine zV_of (by decide) (Nat.le_of_ble_eq_true rfl) ?_
  intro p e s m below meth c A H locs ls Q R F hRm hr hlocks hP hD hS hl hQ
  subst hRm
  have F : zF p m c cX5_tellMeasure 4 s (([.ref a_this, .ref a_p1, .int x2] : List Value)).toArray RX5 g A := F
  have hx := F.1.1
  have hb := F.1.2.1
  have hz := F.1.2.2.2.2
  have hl : lv_has ls 4 [(0, .ref a_this), (1, .ref a_p1), (2, .int x2)] := hl
  unfold f_X5_tellMeasure at h
  refine lv_aload_n hx hb dX5_tellMeasure_0 rfl (lv_at hl 0 rfl) ?_
  refine lv_iconst (v := 0) hx hb dX5_tellMeasure_1 (by decide) ?_
  refine z_put (C := RX5) (T := TX5) (N := 3) (ci := 4) (W1 := [zo_X5 a_this a_bytes 0 v_wordCount, (a_bytes, .inl (zY g, 1702, .inl v_bytes)), zo_X4 a_p1 a_p1_cells v_p1_size, (a_p1_cells, .inl (zI g, 912, .inl v_p1_cells))]) F zu_wsX50 tyX5 tyX5_ok nmX5 hP hD hS 0 rfl rfl 1 (by decide) zw_327 rfl rfl rfl (Nat.le_of_ble_eq_true rfl) dX5_tellMeasure_2 rfl (fun H locs hP hD hS => ?_)
  refine lv_aload_n hx hb dX5_tellMeasure_5 rfl (lv_at hl 0 rfl) ?_
  refine lv_iconst (v := 0) hx hb dX5_tellMeasure_6 (by decide) ?_
  refine z_put (C := RX5) (T := TX5) (N := 3) (ci := 4) (W1 := [zo_X5 a_this a_bytes 0 0, (a_bytes, .inl (zY g, 1702, .inl v_bytes)), zo_X4 a_p1 a_p1_cells v_p1_size, (a_p1_cells, .inl (zI g, 912, .inl v_p1_cells))]) F zu_wsX50 tyX5 tyX5_ok nmX5 hP hD hS 0 rfl rfl 2 (by decide) zw_329 rfl rfl rfl (Nat.le_of_ble_eq_true rfl) dX5_tellMeasure_7 rfl (fun H locs hP hD hS => ?_)
  refine lv_aload_n hx hb dX5_tellMeasure_10 rfl (lv_at hl 0 rfl) ?_
  refine va_ldcS hx hb F.1.2.2.2.1 (F.2.2.1.2.1 _ zst_X5_22) dX5_tellMeasure_11 ?_
  refine lv_iload_n hx hb dX5_tellMeasure_13 rfl (lv_at hl 2 rfl) ?_
  refine lv_iconst (v := 1) hx hb dX5_tellMeasure_14 (by decide) ?_
  refine lv_iadd hx hb dX5_tellMeasure_15 ?_
  obtain ⟨r1_, hr1_, h⟩ := z_bind h
  refine zVV F (k_X5_tellNumbered l N g a_this a_bytes 0 0 v_bytes 0 (x2 + 1) _ hr1_) zy_X5_tellNumbered zw_379 hP hD hS [0, 1] [2, 3] [2, 3, 0, 1] (wr := [zo_X4 a_p1 a_p1_cells v_p1_size, (a_p1_cells, .inl (zI g, 912, .inl v_p1_cells))]) (W1 := [zo_X5 a_this a_bytes r1_.1 r1_.2.1, (a_bytes, .inl (zY g, 1702, .inl r1_.2.2)), zo_X4 a_p1 a_p1_cells v_p1_size, (a_p1_cells, .inl (zI g, 912, .inl v_p1_cells))]) rfl rfl rfl rfl (by decide) rfl rfl (q0 := 0) (he := rfl) (hc := rfl) (rest := []) rfl hl.1 rfl (Nat.le_of_ble_eq_true rfl) ⟨rfl, rfl⟩ ⟨Nat.le_of_ble_eq_true rfl, Nat.le_of_ble_eq_true rfl⟩ ⟨Nat.zero_le _, Nat.zero_le _⟩ dX5_tellMeasure_16 (st1 := []) rfl (fun H locs hP hD hS => ?_)
  refine lv_aload_n hx hb dX5_tellMeasure_19 rfl (lv_at hl 1 rfl) ?_
  refine lv_iload_n hx hb dX5_tellMeasure_20 rfl (lv_at hl 2 rfl) ?_
  refine lv_iconst (v := 4) hx hb dX5_tellMeasure_21 (by decide) ?_
  obtain ⟨r2_, hr2_, h⟩ := z_bind h
  refine zRV F (k_X4_value l N g a_p1 a_p1_cells v_p1_size v_p1_cells x2 4 _ hr2_) zy_X4_value zw_352 hP hD hS [2, 3] rfl rfl (q0 := 2) (he := rfl) (hc := rfl) (rest := []) rfl hl.1 rfl (Nat.le_of_ble_eq_true rfl) ⟨rfl, rfl⟩ ⟨Nat.le_of_ble_eq_true rfl, Nat.le_of_ble_eq_true rfl⟩ ⟨Nat.zero_le _, Nat.zero_le _⟩ dX5_tellMeasure_22 (st1 := [.int r2_]) rfl ?_
  refine lv_iconst (v := 1) hx hb dX5_tellMeasure_25 (by decide) ?_
  obtain ⟨r3_, hA35_, h⟩ := z_bind h
  have k35_ : ∀ (H : Heap) (locs : List Loc) (ls : Array Slot), va_P (zD g) vwCl [zo_X5 a_this a_bytes r3_.1 r3_.2.1, (a_bytes, .inl (zY g, 1702, .inl r3_.2.2)), zo_X4 a_p1 a_p1_cells v_p1_size, (a_p1_cells, .inl (zI g, 912, .inl v_p1_cells))] H → va_D A [zo_X5 a_this a_bytes r3_.1 r3_.2.1, (a_bytes, .inl (zY g, 1702, .inl r3_.2.2)), zo_X4 a_p1 a_p1_cells v_p1_size, (a_p1_cells, .inl (zI g, 912, .inl v_p1_cells))] → va_S A s.heap H locs → lv_has ls 4 [(0, .ref a_this), (1, .ref a_p1), (2, .int x2)] → W p l e rm_X5_tellMeasure s m (([.ref a_this, .ref a_p1, .int x2] : List Value)).toArray below meth c H locs 0 0 Q (F0 m 35 ls []) := by
    intro H locs ls hP hD hS hl
    refine lv_aload_n hx hb dX5_tellMeasure_35 rfl (lv_at hl 1 rfl) ?_
    refine lv_iload_n hx hb dX5_tellMeasure_36 rfl (lv_at hl 2 rfl) ?_
    refine lv_bipush (v := 6) hx hb dX5_tellMeasure_37 (by decide) ?_
    obtain ⟨r4_, hr4_, h⟩ := z_bind h
    refine zRV F (k_X4_value l N g a_p1 a_p1_cells v_p1_size v_p1_cells x2 6 _ hr4_) zy_X4_value zw_352 hP hD hS [2, 3] rfl rfl (q0 := 2) (he := rfl) (hc := rfl) (rest := []) rfl hl.1 rfl (Nat.le_of_ble_eq_true rfl) ⟨rfl, rfl⟩ ⟨Nat.le_of_ble_eq_true rfl, Nat.le_of_ble_eq_true rfl⟩ ⟨Nat.zero_le _, Nat.zero_le _⟩ dX5_tellMeasure_39 (st1 := [.int r4_]) rfl ?_
    obtain ⟨r5_, hA58_, h⟩ := z_bind h
    have k58_ : ∀ (H : Heap) (locs : List Loc) (ls : Array Slot), va_P (zD g) vwCl [zo_X5 a_this a_bytes r5_.1 r5_.2.1, (a_bytes, .inl (zY g, 1702, .inl r5_.2.2)), zo_X4 a_p1 a_p1_cells v_p1_size, (a_p1_cells, .inl (zI g, 912, .inl v_p1_cells))] H → va_D A [zo_X5 a_this a_bytes r5_.1 r5_.2.1, (a_bytes, .inl (zY g, 1702, .inl r5_.2.2)), zo_X4 a_p1 a_p1_cells v_p1_size, (a_p1_cells, .inl (zI g, 912, .inl v_p1_cells))] → va_S A s.heap H locs → lv_has ls 4 [(0, .ref a_this), (1, .ref a_p1), (2, .int x2)] → W p l e rm_X5_tellMeasure s m (([.ref a_this, .ref a_p1, .int x2] : List Value)).toArray below meth c H locs 0 0 Q (F0 m 58 ls []) := by
      intro H locs ls hP hD hS hl
      refine lv_iload_n hx hb dX5_tellMeasure_58 rfl (lv_at hl 2 rfl) ?_
      obtain ⟨r6_, hA81_, h⟩ := z_bind h
      have k81_ : ∀ (H : Heap) (locs : List Loc) (ls : Array Slot), va_P (zD g) vwCl [zo_X5 a_this a_bytes r6_.1 r6_.2.1, (a_bytes, .inl (zY g, 1702, .inl r6_.2.2)), zo_X4 a_p1 a_p1_cells v_p1_size, (a_p1_cells, .inl (zI g, 912, .inl v_p1_cells))] H → va_D A [zo_X5 a_this a_bytes r6_.1 r6_.2.1, (a_bytes, .inl (zY g, 1702, .inl r6_.2.2)), zo_X4 a_p1 a_p1_cells v_p1_size, (a_p1_cells, .inl (zI g, 912, .inl v_p1_cells))] → va_S A s.heap H locs → lv_has ls 4 [(0, .ref a_this), (1, .ref a_p1), (2, .int x2)] → W p l e rm_X5_tellMeasure s m (([.ref a_this, .ref a_p1, .int x2] : List Value)).toArray below meth c H locs 0 0 Q (F0 m 81 ls []) := by
        intro H locs ls hP hD hS hl
        refine lv_iload_n hx hb dX5_tellMeasure_81 rfl (lv_at hl 2 rfl) ?_
        obtain ⟨r7_, hA125_, h⟩ := z_bind h
        have k125_ : ∀ (H : Heap) (locs : List Loc) (ls : Array Slot), va_P (zD g) vwCl [zo_X5 a_this a_bytes r7_.1 r7_.2.1, (a_bytes, .inl (zY g, 1702, .inl r7_.2.2)), zo_X4 a_p1 a_p1_cells v_p1_size, (a_p1_cells, .inl (zI g, 912, .inl v_p1_cells))] H → va_D A [zo_X5 a_this a_bytes r7_.1 r7_.2.1, (a_bytes, .inl (zY g, 1702, .inl r7_.2.2)), zo_X4 a_p1 a_p1_cells v_p1_size, (a_p1_cells, .inl (zI g, 912, .inl v_p1_cells))] → va_S A s.heap H locs → lv_has ls 4 [(0, .ref a_this), (1, .ref a_p1), (2, .int x2)] → W p l e rm_X5_tellMeasure s m (([.ref a_this, .ref a_p1, .int x2] : List Value)).toArray below meth c H locs 0 0 Q (F0 m 125 ls []) := by
          intro H locs ls hP hD hS hl
          refine lv_iconst (v := 0) hx hb dX5_tellMeasure_125 (by decide) ?_
          refine lv_istore_n (lv' := [(3, .int 0), (0, .ref a_this), (1, .ref a_p1), (2, .int x2)]) hx hb dX5_tellMeasure_126 rfl hl (by decide) rfl (fun ls hl => ?_)
          obtain ⟨r8_, hA127_, h⟩ := z_bind h
          have k145_ : ∀ (H : Heap) (locs : List Loc) (ls : Array Slot), va_P (zD g) vwCl [zo_X5 a_this a_bytes r8_.1 r8_.2.1, (a_bytes, .inl (zY g, 1702, .inl r8_.2.2)), zo_X4 a_p1 a_p1_cells v_p1_size, (a_p1_cells, .inl (zI g, 912, .inl v_p1_cells))] H → va_D A [zo_X5 a_this a_bytes r8_.1 r8_.2.1, (a_bytes, .inl (zY g, 1702, .inl r8_.2.2)), zo_X4 a_p1 a_p1_cells v_p1_size, (a_p1_cells, .inl (zI g, 912, .inl v_p1_cells))] → va_S A s.heap H locs → lv_has ls 4 [(0, .ref a_this), (1, .ref a_p1), (2, .int x2)] → W p l e rm_X5_tellMeasure s m (([.ref a_this, .ref a_p1, .int x2] : List Value)).toArray below meth c H locs 0 0 Q (F0 m 145 ls []) := by
            intro H locs ls hP hD hS hl
            refine lv_aload_n hx hb dX5_tellMeasure_145 rfl (lv_at hl 1 rfl) ?_
            refine lv_iload_n hx hb dX5_tellMeasure_146 rfl (lv_at hl 2 rfl) ?_
            refine lv_iconst (v := 5) hx hb dX5_tellMeasure_147 (by decide) ?_
            obtain ⟨r9_, hr9_, h⟩ := z_bind h
            refine zRV F (k_X4_value l N g a_p1 a_p1_cells v_p1_size v_p1_cells x2 5 _ hr9_) zy_X4_value zw_352 hP hD hS [2, 3] rfl rfl (q0 := 2) (he := rfl) (hc := rfl) (rest := []) rfl hl.1 rfl (Nat.le_of_ble_eq_true rfl) ⟨rfl, rfl⟩ ⟨Nat.le_of_ble_eq_true rfl, Nat.le_of_ble_eq_true rfl⟩ ⟨Nat.zero_le _, Nat.zero_le _⟩ dX5_tellMeasure_148 (st1 := [.int r9_]) rfl ?_
            obtain ⟨r10_, hA166_, h⟩ := z_bind h
            have k166_ : ∀ (H : Heap) (locs : List Loc) (ls : Array Slot), va_P (zD g) vwCl [zo_X5 a_this a_bytes r10_.1 r10_.2.1, (a_bytes, .inl (zY g, 1702, .inl r10_.2.2)), zo_X4 a_p1 a_p1_cells v_p1_size, (a_p1_cells, .inl (zI g, 912, .inl v_p1_cells))] H → va_D A [zo_X5 a_this a_bytes r10_.1 r10_.2.1, (a_bytes, .inl (zY g, 1702, .inl r10_.2.2)), zo_X4 a_p1 a_p1_cells v_p1_size, (a_p1_cells, .inl (zI g, 912, .inl v_p1_cells))] → va_S A s.heap H locs → lv_has ls 4 [(0, .ref a_this)] → W p l e rm_X5_tellMeasure s m (([.ref a_this, .ref a_p1, .int x2] : List Value)).toArray below meth c H locs 0 0 Q (F0 m 166 ls []) := by
              intro H locs ls hP hD hS hl
              refine lv_aload_n hx hb dX5_tellMeasure_166 rfl (lv_at hl 0 rfl) ?_
              refine va_ldcS hx hb F.1.2.2.2.1 (F.2.2.1.2.1 _ zst_X5_61) dX5_tellMeasure_167 ?_
              obtain ⟨r11_, hr11_, h⟩ := z_bind h
              refine zVV F (k_X5_tellWord l N g a_this a_bytes r10_.1 r10_.2.1 r10_.2.2 19 _ hr11_) zy_X5_tellWord zw_345 hP hD hS [0, 1] [2, 3] [2, 3, 0, 1] (wr := [zo_X4 a_p1 a_p1_cells v_p1_size, (a_p1_cells, .inl (zI g, 912, .inl v_p1_cells))]) (W1 := [zo_X5 a_this a_bytes r11_.1 r11_.2.1, (a_bytes, .inl (zY g, 1702, .inl r11_.2.2)), zo_X4 a_p1 a_p1_cells v_p1_size, (a_p1_cells, .inl (zI g, 912, .inl v_p1_cells))]) rfl rfl rfl rfl (by decide) rfl rfl (q0 := 0) (he := rfl) (hc := rfl) (rest := []) rfl hl.1 rfl (Nat.le_of_ble_eq_true rfl) ⟨rfl, rfl⟩ ⟨Nat.le_of_ble_eq_true rfl, Nat.le_of_ble_eq_true rfl⟩ ⟨Nat.zero_le _, Nat.zero_le _⟩ dX5_tellMeasure_169 (st1 := []) rfl (fun H locs hP hD hS => ?_)
              obtain rfl := Option.some.inj h
              exact zV_v F hr hlocks hQ hP hD hS dX5_tellMeasure_172
            have h := hA166_
            refine z_eq (tgt := 166) hx hb dX5_tellMeasure_151 (by decide) h (fun h => ?_) (fun h => ?_)
            · obtain rfl := Option.some.inj h
              exact k166_ _ _ _ hP hD hS (lv_sub hl [0] rfl)
            · refine lv_aload_n hx hb dX5_tellMeasure_154 rfl (lv_at hl 0 rfl) ?_
              refine va_ldcS hx hb F.1.2.2.2.1 (F.2.2.1.2.1 _ zst_X5_59) dX5_tellMeasure_155 ?_
              refine lv_aload_n hx hb dX5_tellMeasure_157 rfl (lv_at hl 1 rfl) ?_
              refine lv_iload_n hx hb dX5_tellMeasure_158 rfl (lv_at hl 2 rfl) ?_
              refine lv_iconst (v := 5) hx hb dX5_tellMeasure_159 (by decide) ?_
              obtain ⟨r12_, hr12_, h⟩ := z_bind h
              refine zRV F (k_X4_value l N g a_p1 a_p1_cells v_p1_size v_p1_cells x2 5 _ hr12_) zy_X4_value zw_352 hP hD hS [2, 3] rfl rfl (q0 := 2) (he := rfl) (hc := rfl) (rest := [.ref (zAK g 18), .ref a_this]) rfl hl.1 rfl (Nat.le_of_ble_eq_true rfl) ⟨rfl, rfl⟩ ⟨Nat.le_of_ble_eq_true rfl, Nat.le_of_ble_eq_true rfl⟩ ⟨Nat.zero_le _, Nat.zero_le _⟩ dX5_tellMeasure_160 (st1 := [.int r12_, .ref (zAK g 18), .ref a_this]) rfl ?_
              obtain ⟨r13_, hr13_, h⟩ := z_bind h
              refine zVV F (k_X5_tellNumbered l N g a_this a_bytes r8_.1 r8_.2.1 r8_.2.2 18 r12_ _ hr13_) zy_X5_tellNumbered zw_379 hP hD hS [0, 1] [2, 3] [2, 3, 0, 1] (wr := [zo_X4 a_p1 a_p1_cells v_p1_size, (a_p1_cells, .inl (zI g, 912, .inl v_p1_cells))]) (W1 := [zo_X5 a_this a_bytes r13_.1 r13_.2.1, (a_bytes, .inl (zY g, 1702, .inl r13_.2.2)), zo_X4 a_p1 a_p1_cells v_p1_size, (a_p1_cells, .inl (zI g, 912, .inl v_p1_cells))]) rfl rfl rfl rfl (by decide) rfl rfl (q0 := 0) (he := rfl) (hc := rfl) (rest := []) rfl hl.1 rfl (Nat.le_of_ble_eq_true rfl) ⟨rfl, rfl⟩ ⟨Nat.le_of_ble_eq_true rfl, Nat.le_of_ble_eq_true rfl⟩ ⟨Nat.zero_le _, Nat.zero_le _⟩ dX5_tellMeasure_163 (st1 := []) rfl (fun H locs hP hD hS => ?_)
              obtain rfl := Option.some.inj h
              exact k166_ _ _ _ hP hD hS (lv_sub hl [0] rfl)
          have h := hA127_
          have l127_ : ∀ (n127_ : Nat) (v127_ : Int32 × Int32 × Int32 × (Nat → Int32)), zLoop (f_X5_tellMeasure_B127 N v_p1_size v_p1_cells x2) n127_ v127_ = some r8_ → ∀ (H : Heap) (locs : List Loc) (ls : Array Slot), va_P (zD g) vwCl [zo_X5 a_this a_bytes v127_.2.1 v127_.2.2.1, (a_bytes, .inl (zY g, 1702, .inl v127_.2.2.2)), zo_X4 a_p1 a_p1_cells v_p1_size, (a_p1_cells, .inl (zI g, 912, .inl v_p1_cells))] H → va_D A [zo_X5 a_this a_bytes v127_.2.1 v127_.2.2.1, (a_bytes, .inl (zY g, 1702, .inl v127_.2.2.2)), zo_X4 a_p1 a_p1_cells v_p1_size, (a_p1_cells, .inl (zI g, 912, .inl v_p1_cells))] → va_S A s.heap H locs → lv_has ls 4 [(0, .ref a_this), (1, .ref a_p1), (2, .int x2), (3, .int v127_.1)] → W p l e rm_X5_tellMeasure s m (([.ref a_this, .ref a_p1, .int x2] : List Value)).toArray below meth c H locs 0 0 Q (F0 m 127 ls []) := by
            intro n127_
            induction n127_ with
            | zero => intro v127_ h; cases h
            | succ n127_ ih127_ =>
              intro v127_ h H locs ls hP hD hS hl
              have h : f_X5_tellMeasure_B127 N v_p1_size v_p1_cells x2 (zLoop (f_X5_tellMeasure_B127 N v_p1_size v_p1_cells x2) n127_) v127_ = some r8_ := h
              unfold f_X5_tellMeasure_B127 at h
              refine lv_iload_n hx hb dX5_tellMeasure_127 rfl (lv_at hl 3 rfl) ?_
              refine lv_iconst (v := 2) hx hb dX5_tellMeasure_128 (by decide) ?_
              refine z_cge (tgt := 145) hx hb dX5_tellMeasure_129 (by decide) h (fun h => ?_) (fun h => ?_)
              · obtain rfl := Option.some.inj h
                exact k145_ _ _ _ hP hD hS (lv_sub hl [0, 1, 2] rfl)
              · refine lv_aload_n hx hb dX5_tellMeasure_132 rfl (lv_at hl 0 rfl) ?_
                refine lv_aload_n hx hb dX5_tellMeasure_133 rfl (lv_at hl 1 rfl) ?_
                refine lv_iload_n hx hb dX5_tellMeasure_134 rfl (lv_at hl 2 rfl) ?_
                refine lv_iload_n hx hb dX5_tellMeasure_135 rfl (lv_at hl 3 rfl) ?_
                obtain ⟨r14_, hr14_, h⟩ := z_bind h
                refine zVV F (k_X5_tellVoice l N g a_this a_bytes a_p1 a_p1_cells v127_.2.1 v127_.2.2.1 v127_.2.2.2 v_p1_size v_p1_cells x2 v127_.1 _ hr14_) zy_X5_tellVoice zw_392 hP hD hS [0, 1, 2, 3] [] [0, 1, 2, 3] (wr := []) (W1 := [zo_X5 a_this a_bytes r14_.1 r14_.2.1, (a_bytes, .inl (zY g, 1702, .inl r14_.2.2)), zo_X4 a_p1 a_p1_cells v_p1_size, (a_p1_cells, .inl (zI g, 912, .inl v_p1_cells))]) rfl rfl rfl rfl (by decide) rfl rfl (q0 := 0) (he := rfl) (hc := rfl) (rest := []) rfl hl.1 rfl (Nat.le_of_ble_eq_true rfl) ⟨rfl, rfl⟩ ⟨Nat.le_of_ble_eq_true rfl, Nat.le_of_ble_eq_true rfl⟩ ⟨Nat.zero_le _, Nat.zero_le _⟩ dX5_tellMeasure_136 (st1 := []) rfl (fun H locs hP hD hS => ?_)
                refine z_nm h (fun x15_ ex15_ h => ?_)
                refine lv_iinc (v := x15_) (lv' := [(3, .int x15_), (0, .ref a_this), (1, .ref a_p1), (2, .int x2)]) hx hb dX5_tellMeasure_139 hl (k := 3) rfl (by rw [ex15_]; rfl) (by decide) rfl (fun ls hl => ?_)
                refine lv_goto (tgt := 127) hx hb dX5_tellMeasure_142 (by decide) ?_
                exact ih127_ _ h _ _ _ hP hD hS (lv_sub hl [1, 2, 3, 0] rfl)
          exact l127_ N _ h _ _ _ hP hD hS (lv_sub hl [1, 2, 3, 0] rfl)
        have h := hA125_
        have j103_ : f_X5_tellMeasure_J103 N v_p1_size v_p1_cells x2 r6_ = some r7_ → ∀ (H : Heap) (locs : List Loc) (ls : Array Slot), va_P (zD g) vwCl [zo_X5 a_this a_bytes r6_.1 r6_.2.1, (a_bytes, .inl (zY g, 1702, .inl r6_.2.2)), zo_X4 a_p1 a_p1_cells v_p1_size, (a_p1_cells, .inl (zI g, 912, .inl v_p1_cells))] H → va_D A [zo_X5 a_this a_bytes r6_.1 r6_.2.1, (a_bytes, .inl (zY g, 1702, .inl r6_.2.2)), zo_X4 a_p1 a_p1_cells v_p1_size, (a_p1_cells, .inl (zI g, 912, .inl v_p1_cells))] → va_S A s.heap H locs → lv_has ls 4 [(0, .ref a_this), (1, .ref a_p1), (2, .int x2)] → W p l e rm_X5_tellMeasure s m (([.ref a_this, .ref a_p1, .int x2] : List Value)).toArray below meth c H locs 0 0 Q (F0 m 103 ls []) := by
          intro h H locs ls hP hD hS hl
          unfold f_X5_tellMeasure_J103 at h
          refine lv_aload_n hx hb dX5_tellMeasure_103 rfl (lv_at hl 0 rfl) ?_
          refine va_ldcS hx hb F.1.2.2.2.1 (F.2.2.1.2.1 _ zst_X5_50) dX5_tellMeasure_104 ?_
          refine lv_aload_n hx hb dX5_tellMeasure_106 rfl (lv_at hl 1 rfl) ?_
          refine lv_iload_n hx hb dX5_tellMeasure_107 rfl (lv_at hl 2 rfl) ?_
          refine lv_iconst (v := 1) hx hb dX5_tellMeasure_108 (by decide) ?_
          obtain ⟨r16_, hr16_, h⟩ := z_bind h
          refine zRV F (k_X4_value l N g a_p1 a_p1_cells v_p1_size v_p1_cells x2 1 _ hr16_) zy_X4_value zw_352 hP hD hS [2, 3] rfl rfl (q0 := 2) (he := rfl) (hc := rfl) (rest := [.ref (zAK g 8), .ref a_this]) rfl hl.1 rfl (Nat.le_of_ble_eq_true rfl) ⟨rfl, rfl⟩ ⟨Nat.le_of_ble_eq_true rfl, Nat.le_of_ble_eq_true rfl⟩ ⟨Nat.zero_le _, Nat.zero_le _⟩ dX5_tellMeasure_109 (st1 := [.int r16_, .ref (zAK g 8), .ref a_this]) rfl ?_
          obtain ⟨r17_, hr17_, h⟩ := z_bind h
          refine zVV F (k_X5_tellNumbered l N g a_this a_bytes r6_.1 r6_.2.1 r6_.2.2 8 r16_ _ hr17_) zy_X5_tellNumbered zw_379 hP hD hS [0, 1] [2, 3] [2, 3, 0, 1] (wr := [zo_X4 a_p1 a_p1_cells v_p1_size, (a_p1_cells, .inl (zI g, 912, .inl v_p1_cells))]) (W1 := [zo_X5 a_this a_bytes r17_.1 r17_.2.1, (a_bytes, .inl (zY g, 1702, .inl r17_.2.2)), zo_X4 a_p1 a_p1_cells v_p1_size, (a_p1_cells, .inl (zI g, 912, .inl v_p1_cells))]) rfl rfl rfl rfl (by decide) rfl rfl (q0 := 0) (he := rfl) (hc := rfl) (rest := []) rfl hl.1 rfl (Nat.le_of_ble_eq_true rfl) ⟨rfl, rfl⟩ ⟨Nat.le_of_ble_eq_true rfl, Nat.le_of_ble_eq_true rfl⟩ ⟨Nat.zero_le _, Nat.zero_le _⟩ dX5_tellMeasure_112 (st1 := []) rfl (fun H locs hP hD hS => ?_)
          refine lv_aload_n hx hb dX5_tellMeasure_115 rfl (lv_at hl 0 rfl) ?_
          refine lv_aload_n hx hb dX5_tellMeasure_116 rfl (lv_at hl 1 rfl) ?_
          refine lv_iload_n hx hb dX5_tellMeasure_117 rfl (lv_at hl 2 rfl) ?_
          refine lv_iconst (v := 2) hx hb dX5_tellMeasure_118 (by decide) ?_
          obtain ⟨r18_, hr18_, h⟩ := z_bind h
          refine zRV F (k_X4_value l N g a_p1 a_p1_cells v_p1_size v_p1_cells x2 2 _ hr18_) zy_X4_value zw_352 hP hD hS [2, 3] rfl rfl (q0 := 2) (he := rfl) (hc := rfl) (rest := [.ref a_this]) rfl hl.1 rfl (Nat.le_of_ble_eq_true rfl) ⟨rfl, rfl⟩ ⟨Nat.le_of_ble_eq_true rfl, Nat.le_of_ble_eq_true rfl⟩ ⟨Nat.zero_le _, Nat.zero_le _⟩ dX5_tellMeasure_119 (st1 := [.int r18_, .ref a_this]) rfl ?_
          obtain ⟨r19_, hr19_, h⟩ := z_bind h
          refine zVV F (k_X5_tellNumber l N g a_this a_bytes r17_.1 r17_.2.1 r17_.2.2 r18_ _ hr19_) zy_X5_tellNumber zw_348 hP hD hS [0, 1] [2, 3] [2, 3, 0, 1] (wr := [zo_X4 a_p1 a_p1_cells v_p1_size, (a_p1_cells, .inl (zI g, 912, .inl v_p1_cells))]) (W1 := [zo_X5 a_this a_bytes r19_.1 r19_.2.1, (a_bytes, .inl (zY g, 1702, .inl r19_.2.2)), zo_X4 a_p1 a_p1_cells v_p1_size, (a_p1_cells, .inl (zI g, 912, .inl v_p1_cells))]) rfl rfl rfl rfl (by decide) rfl rfl (q0 := 0) (he := rfl) (hc := rfl) (rest := []) rfl hl.1 rfl (Nat.le_of_ble_eq_true rfl) ⟨rfl, rfl⟩ ⟨Nat.le_of_ble_eq_true rfl, Nat.le_of_ble_eq_true rfl⟩ ⟨Nat.zero_le _, Nat.zero_le _⟩ dX5_tellMeasure_122 (st1 := []) rfl (fun H locs hP hD hS => ?_)
          obtain rfl := Option.some.inj h
          exact k125_ _ _ _ hP hD hS (lv_sub hl [0, 1, 2] rfl)
        refine z_eq (tgt := 103) hx hb dX5_tellMeasure_82 (by decide) h (fun h => ?_) (fun h => ?_)
        · exact j103_  h _ _ _ hP hD hS (lv_sub hl [0, 1, 2] rfl)
        · refine lv_aload_n hx hb dX5_tellMeasure_85 rfl (lv_at hl 1 rfl) ?_
          refine lv_iload_n hx hb dX5_tellMeasure_86 rfl (lv_at hl 2 rfl) ?_
          refine lv_iconst (v := 1) hx hb dX5_tellMeasure_87 (by decide) ?_
          obtain ⟨r20_, hr20_, h⟩ := z_bind h
          refine zRS F (k_X5_differsFromBefore l N g a_p1 a_p1_cells v_p1_size v_p1_cells x2 1 _ hr20_) zy_X5_differsFromBefore zw_387 hP hD hS [2, 3] rfl rfl (rest := []) rfl hl.1 rfl (Nat.le_of_ble_eq_true rfl) ⟨rfl, rfl⟩ ⟨Nat.le_of_ble_eq_true rfl, Nat.le_of_ble_eq_true rfl⟩ ⟨Nat.zero_le _, Nat.zero_le _⟩ dX5_tellMeasure_88 (st1 := [.int r20_]) rfl ?_
          refine z_ne (tgt := 103) hx hb dX5_tellMeasure_91 (by decide) h (fun h => ?_) (fun h => ?_)
          · exact j103_  h _ _ _ hP hD hS (lv_sub hl [0, 1, 2] rfl)
          · refine lv_aload_n hx hb dX5_tellMeasure_94 rfl (lv_at hl 1 rfl) ?_
            refine lv_iload_n hx hb dX5_tellMeasure_95 rfl (lv_at hl 2 rfl) ?_
            refine lv_iconst (v := 2) hx hb dX5_tellMeasure_96 (by decide) ?_
            obtain ⟨r21_, hr21_, h⟩ := z_bind h
            refine zRS F (k_X5_differsFromBefore l N g a_p1 a_p1_cells v_p1_size v_p1_cells x2 2 _ hr21_) zy_X5_differsFromBefore zw_387 hP hD hS [2, 3] rfl rfl (rest := []) rfl hl.1 rfl (Nat.le_of_ble_eq_true rfl) ⟨rfl, rfl⟩ ⟨Nat.le_of_ble_eq_true rfl, Nat.le_of_ble_eq_true rfl⟩ ⟨Nat.zero_le _, Nat.zero_le _⟩ dX5_tellMeasure_97 (st1 := [.int r21_]) rfl ?_
            refine z_eq (tgt := 125) hx hb dX5_tellMeasure_100 (by decide) h (fun h => ?_) (fun h => ?_)
            · obtain rfl := Option.some.inj h
              exact k125_ _ _ _ hP hD hS (lv_sub hl [0, 1, 2] rfl)
            · exact j103_  h _ _ _ hP hD hS (lv_sub hl [0, 1, 2] rfl)
      have h := hA81_
      have j71_ : f_X5_tellMeasure_J71 N v_p1_size v_p1_cells x2 r5_ = some r6_ → ∀ (H : Heap) (locs : List Loc) (ls : Array Slot), va_P (zD g) vwCl [zo_X5 a_this a_bytes r5_.1 r5_.2.1, (a_bytes, .inl (zY g, 1702, .inl r5_.2.2)), zo_X4 a_p1 a_p1_cells v_p1_size, (a_p1_cells, .inl (zI g, 912, .inl v_p1_cells))] H → va_D A [zo_X5 a_this a_bytes r5_.1 r5_.2.1, (a_bytes, .inl (zY g, 1702, .inl r5_.2.2)), zo_X4 a_p1 a_p1_cells v_p1_size, (a_p1_cells, .inl (zI g, 912, .inl v_p1_cells))] → va_S A s.heap H locs → lv_has ls 4 [(0, .ref a_this), (1, .ref a_p1), (2, .int x2)] → W p l e rm_X5_tellMeasure s m (([.ref a_this, .ref a_p1, .int x2] : List Value)).toArray below meth c H locs 0 0 Q (F0 m 71 ls []) := by
        intro h H locs ls hP hD hS hl
        unfold f_X5_tellMeasure_J71 at h
        refine lv_aload_n hx hb dX5_tellMeasure_71 rfl (lv_at hl 0 rfl) ?_
        refine lv_aload_n hx hb dX5_tellMeasure_72 rfl (lv_at hl 1 rfl) ?_
        refine lv_iload_n hx hb dX5_tellMeasure_73 rfl (lv_at hl 2 rfl) ?_
        refine lv_iconst (v := 0) hx hb dX5_tellMeasure_74 (by decide) ?_
        obtain ⟨r22_, hr22_, h⟩ := z_bind h
        refine zRV F (k_X4_value l N g a_p1 a_p1_cells v_p1_size v_p1_cells x2 0 _ hr22_) zy_X4_value zw_352 hP hD hS [2, 3] rfl rfl (q0 := 2) (he := rfl) (hc := rfl) (rest := [.ref a_this]) rfl hl.1 rfl (Nat.le_of_ble_eq_true rfl) ⟨rfl, rfl⟩ ⟨Nat.le_of_ble_eq_true rfl, Nat.le_of_ble_eq_true rfl⟩ ⟨Nat.zero_le _, Nat.zero_le _⟩ dX5_tellMeasure_75 (st1 := [.int r22_, .ref a_this]) rfl ?_
        obtain ⟨r23_, hr23_, h⟩ := z_bind h
        refine zVV F (k_X5_tellKey l N g a_this a_bytes r5_.1 r5_.2.1 r5_.2.2 r22_ _ hr23_) zy_X5_tellKey zw_389 hP hD hS [0, 1] [2, 3] [2, 3, 0, 1] (wr := [zo_X4 a_p1 a_p1_cells v_p1_size, (a_p1_cells, .inl (zI g, 912, .inl v_p1_cells))]) (W1 := [zo_X5 a_this a_bytes r23_.1 r23_.2.1, (a_bytes, .inl (zY g, 1702, .inl r23_.2.2)), zo_X4 a_p1 a_p1_cells v_p1_size, (a_p1_cells, .inl (zI g, 912, .inl v_p1_cells))]) rfl rfl rfl rfl (by decide) rfl rfl (q0 := 0) (he := rfl) (hc := rfl) (rest := []) rfl hl.1 rfl (Nat.le_of_ble_eq_true rfl) ⟨rfl, rfl⟩ ⟨Nat.le_of_ble_eq_true rfl, Nat.le_of_ble_eq_true rfl⟩ ⟨Nat.zero_le _, Nat.zero_le _⟩ dX5_tellMeasure_78 (st1 := []) rfl (fun H locs hP hD hS => ?_)
        obtain rfl := Option.some.inj h
        exact k81_ _ _ _ hP hD hS (lv_sub hl [0, 1, 2] rfl)
      refine z_eq (tgt := 71) hx hb dX5_tellMeasure_59 (by decide) h (fun h => ?_) (fun h => ?_)
      · exact j71_  h _ _ _ hP hD hS (lv_sub hl [0, 1, 2] rfl)
      · refine lv_aload_n hx hb dX5_tellMeasure_62 rfl (lv_at hl 1 rfl) ?_
        refine lv_iload_n hx hb dX5_tellMeasure_63 rfl (lv_at hl 2 rfl) ?_
        refine lv_iconst (v := 0) hx hb dX5_tellMeasure_64 (by decide) ?_
        obtain ⟨r24_, hr24_, h⟩ := z_bind h
        refine zRS F (k_X5_differsFromBefore l N g a_p1 a_p1_cells v_p1_size v_p1_cells x2 0 _ hr24_) zy_X5_differsFromBefore zw_387 hP hD hS [2, 3] rfl rfl (rest := []) rfl hl.1 rfl (Nat.le_of_ble_eq_true rfl) ⟨rfl, rfl⟩ ⟨Nat.le_of_ble_eq_true rfl, Nat.le_of_ble_eq_true rfl⟩ ⟨Nat.zero_le _, Nat.zero_le _⟩ dX5_tellMeasure_65 (st1 := [.int r24_]) rfl ?_
        refine z_eq (tgt := 81) hx hb dX5_tellMeasure_68 (by decide) h (fun h => ?_) (fun h => ?_)
        · obtain rfl := Option.some.inj h
          exact k81_ _ _ _ hP hD hS (lv_sub hl [0, 1, 2] rfl)
        · exact j71_  h _ _ _ hP hD hS (lv_sub hl [0, 1, 2] rfl)
    have h := hA58_
    refine z_eq (tgt := 58) hx hb dX5_tellMeasure_42 (by decide) h (fun h => ?_) (fun h => ?_)
    · obtain rfl := Option.some.inj h
      exact k58_ _ _ _ hP hD hS (lv_sub hl [0, 1, 2] rfl)
    · refine lv_aload_n hx hb dX5_tellMeasure_45 rfl (lv_at hl 0 rfl) ?_
      refine va_ldcS hx hb F.1.2.2.2.1 (F.2.2.1.2.1 _ zst_X5_40) dX5_tellMeasure_46 ?_
      refine lv_aload_n hx hb dX5_tellMeasure_48 rfl (lv_at hl 1 rfl) ?_
      refine lv_iload_n hx hb dX5_tellMeasure_49 rfl (lv_at hl 2 rfl) ?_
      refine lv_bipush (v := 6) hx hb dX5_tellMeasure_50 (by decide) ?_
      obtain ⟨r25_, hr25_, h⟩ := z_bind h
      refine zRV F (k_X4_value l N g a_p1 a_p1_cells v_p1_size v_p1_cells x2 6 _ hr25_) zy_X4_value zw_352 hP hD hS [2, 3] rfl rfl (q0 := 2) (he := rfl) (hc := rfl) (rest := [.ref (zAK g 2), .ref a_this]) rfl hl.1 rfl (Nat.le_of_ble_eq_true rfl) ⟨rfl, rfl⟩ ⟨Nat.le_of_ble_eq_true rfl, Nat.le_of_ble_eq_true rfl⟩ ⟨Nat.zero_le _, Nat.zero_le _⟩ dX5_tellMeasure_52 (st1 := [.int r25_, .ref (zAK g 2), .ref a_this]) rfl ?_
      obtain ⟨r26_, hr26_, h⟩ := z_bind h
      refine zVV F (k_X5_tellNumbered l N g a_this a_bytes r3_.1 r3_.2.1 r3_.2.2 2 r25_ _ hr26_) zy_X5_tellNumbered zw_379 hP hD hS [0, 1] [2, 3] [2, 3, 0, 1] (wr := [zo_X4 a_p1 a_p1_cells v_p1_size, (a_p1_cells, .inl (zI g, 912, .inl v_p1_cells))]) (W1 := [zo_X5 a_this a_bytes r26_.1 r26_.2.1, (a_bytes, .inl (zY g, 1702, .inl r26_.2.2)), zo_X4 a_p1 a_p1_cells v_p1_size, (a_p1_cells, .inl (zI g, 912, .inl v_p1_cells))]) rfl rfl rfl rfl (by decide) rfl rfl (q0 := 0) (he := rfl) (hc := rfl) (rest := []) rfl hl.1 rfl (Nat.le_of_ble_eq_true rfl) ⟨rfl, rfl⟩ ⟨Nat.le_of_ble_eq_true rfl, Nat.le_of_ble_eq_true rfl⟩ ⟨Nat.zero_le _, Nat.zero_le _⟩ dX5_tellMeasure_55 (st1 := []) rfl (fun H locs hP hD hS => ?_)
      obtain rfl := Option.some.inj h
      exact k58_ _ _ _ hP hD hS (lv_sub hl [0, 1, 2] rfl)
  have h := hA35_
  refine z_cne (tgt := 35) hx hb dX5_tellMeasure_26 (by decide) h (fun h => ?_) (fun h => ?_)
  · obtain rfl := Option.some.inj h
    exact k35_ _ _ _ hP hD hS (lv_sub hl [0, 1, 2] rfl)
  · refine lv_aload_n hx hb dX5_tellMeasure_29 rfl (lv_at hl 0 rfl) ?_
    refine va_ldcS hx hb F.1.2.2.2.1 (F.2.2.1.2.1 _ zst_X5_34) dX5_tellMeasure_30 ?_
    obtain ⟨r27_, hr27_, h⟩ := z_bind h
    refine zVV F (k_X5_tellWord l N g a_this a_bytes r1_.1 r1_.2.1 r1_.2.2 1 _ hr27_) zy_X5_tellWord zw_345 hP hD hS [0, 1] [2, 3] [2, 3, 0, 1] (wr := [zo_X4 a_p1 a_p1_cells v_p1_size, (a_p1_cells, .inl (zI g, 912, .inl v_p1_cells))]) (W1 := [zo_X5 a_this a_bytes r27_.1 r27_.2.1, (a_bytes, .inl (zY g, 1702, .inl r27_.2.2)), zo_X4 a_p1 a_p1_cells v_p1_size, (a_p1_cells, .inl (zI g, 912, .inl v_p1_cells))]) rfl rfl rfl rfl (by decide) rfl rfl (q0 := 0) (he := rfl) (hc := rfl) (rest := []) rfl hl.1 rfl (Nat.le_of_ble_eq_true rfl) ⟨rfl, rfl⟩ ⟨Nat.le_of_ble_eq_true rfl, Nat.le_of_ble_eq_true rfl⟩ ⟨Nat.zero_le _, Nat.zero_le _⟩ dX5_tellMeasure_32 (st1 := []) rfl (fun H locs hP hD hS => ?_)
    obtain rfl := Option.some.inj h
    exact k35_ _ _ _ hP hD hS (lv_sub hl [0, 1, 2] rfl)
