def f_X3_draft (N : Nat) : Option Unit :=
  some ()
abbrev rm_X3_draft : Room := { frames := 0, cells := 0, slots := 0, locals := 0 }
theorem zy_X3_draft : zYv yX3_draft RX3 cX3_draft 1 (some (.object "SpokenBars$Score")) 0 := ⟨zw_671, zw_672, zw_174, zw_102, ⟨by decide, by decide⟩, by decide +kernel⟩
set_option maxHeartbeats 4000000 in
set_option maxRecDepth 100000 in
theorem k_X3_draft (l : Launch) (N : Nat) (g : zEnv) (a_this a_text a_draft : Nat) (v_from : Int32) (v_to : Int32) (v_failedAt : Int32) (r : Unit) (h : f_X3_draft N = some r) : ZR l yX3_draft cX3_draft 1 (some (.object "SpokenBars$Score")) rm_X3_draft g [.ref a_this] [zo_X3 a_this a_text a_draft v_from v_to v_failedAt] (some (.ref a_draft)) := by
  refine zR_of (by decide) (Nat.le_of_ble_eq_true rfl) ?_
  intro p e s m below meth c A ls Q R F hRm hr hlocks hP hD hS hl hQ
  subst hRm
  have F : zF p m c cX3_draft 1 s (([.ref a_this] : List Value)).toArray RX3 g A := F
  have hx := F.1.1
  have hb := F.1.2.1
  have hz := F.1.2.2.2.2
  have hl : lv_has ls 1 [(0, .ref a_this)] := hl
  unfold f_X3_draft at h
  refine lv_aload_n hx hb dX3_draft_0 rfl (lv_at hl 0 rfl) ?_
  refine z_get (C := RX3) (T := TX3) (N := 5) (ci := 2) F zu_wsX30 hP 0 rfl rfl 1 (by decide) zw_99 rfl dX3_draft_1 ?_
  obtain rfl := Option.some.inj h
  exact zR_r F hr hlocks hQ dX3_draft_4
def f_X3_advance_B59 (N : Nat) (v_text_length : Int32) (v_text_bytes : Nat → Int32) (kh59_ : Int32 → Option Int32) (v59_ : Int32) : Option Int32 :=
  Option.bind (f_X7_length N v_text_length) (fun (r3_ : Int32) => if v59_ < r3_ then Option.bind (f_X7_at N v_text_length v_text_bytes v59_) (fun (r4_ : Int32) => if r4_ = 32 then some v59_ else Option.bind (some (v59_ + 1)) (fun (x5_ : Int32) => kh59_ x5_)) else some v59_)
def f_X3_advance_B8 (N : Nat) (v_text_length : Int32) (v_text_bytes : Nat → Int32) (kh8_ : Int32 → Option Int32) (v8_ : Int32) : Option Int32 :=
  Option.bind (f_X7_length N v_text_length) (fun (r6_ : Int32) => if v8_ < r6_ then Option.bind (f_X7_at N v_text_length v_text_bytes v8_) (fun (r7_ : Int32) => if r7_ = 32 then Option.bind (some (v8_ + 1)) (fun (x8_ : Int32) => kh8_ x8_) else some v8_) else some v8_)
def f_X3_advance (N : Nat) (v_from : Int32) (v_to : Int32) (v_text_length : Int32) (v_text_bytes : Nat → Int32) : Option (Int32 × Int32) :=
  Option.bind (zLoop (f_X3_advance_B8 N v_text_length v_text_bytes) N v_to) (fun (r1_ : Int32) => Option.bind (zLoop (f_X3_advance_B59 N v_text_length v_text_bytes) N r1_) (fun (r2_ : Int32) => some (r1_, r2_)))
abbrev rm_X3_advance : Room := { frames := 1, cells := 0, slots := 0, locals := 21 }
theorem zy_X3_advance : zYv yX3_advance RX3 cX3_advance 1 none 0 := ⟨zw_176, zw_177, zw_174, zw_136, ⟨by decide, by decide⟩, by decide +kernel⟩
set_option maxHeartbeats 4000000 in
set_option maxRecDepth 100000 in
theorem k_X3_advance (l : Launch) (N : Nat) (g : zEnv) (a_this a_text a_draft a_text_bytes : Nat) (v_failedAt : Int32) (v_from : Int32) (v_to : Int32) (v_text_length : Int32) (v_text_bytes : Nat → Int32) (r : Int32 × Int32) (h : f_X3_advance N v_from v_to v_text_length v_text_bytes = some r) : ZV l yX3_advance cX3_advance 1 none rm_X3_advance g [.ref a_this] [zo_X3 a_this a_text a_draft v_from v_to v_failedAt, zo_X7 a_text a_text_bytes v_text_length, (a_text_bytes, .inl (zY g, 600, .inl v_text_bytes))] [zo_X3 a_this a_text a_draft r.1 r.2 v_failedAt, zo_X7 a_text a_text_bytes v_text_length, (a_text_bytes, .inl (zY g, 600, .inl v_text_bytes))] none := by
  refine zV_of (by decide) (Nat.le_of_ble_eq_true rfl) ?_
  intro p e s m below meth c A H locs ls Q R F hRm hr hlocks hP hD hS hl hQ
  subst hRm
  have F : zF p m c cX3_advance 1 s (([.ref a_this] : List Value)).toArray RX3 g A := F
  have hx := F.1.1
  have hb := F.1.2.1
  have hz := F.1.2.2.2.2
  have hl : lv_has ls 1 [(0, .ref a_this)] := hl
  unfold f_X3_advance at h
  refine lv_aload_n hx hb dX3_advance_0 rfl (lv_at hl 0 rfl) ?_
  refine lv_aload_n hx hb dX3_advance_1 rfl (lv_at hl 0 rfl) ?_
  refine z_get (C := RX3) (T := TX3) (N := 5) (ci := 2) F zu_wsX30 hP 0 rfl rfl 3 (by decide) zw_127 rfl dX3_advance_2 ?_
  refine z_put (C := RX3) (T := TX3) (N := 5) (ci := 2) (W1 := [zo_X3 a_this a_text a_draft v_to v_to v_failedAt, zo_X7 a_text a_text_bytes v_text_length, (a_text_bytes, .inl (zY g, 600, .inl v_text_bytes))]) F zu_wsX30 tyX3 tyX3_ok nmX3 hP hD hS 0 rfl rfl 2 (by decide) zw_128 rfl rfl rfl (Nat.le_of_ble_eq_true rfl) dX3_advance_5 rfl (fun H locs hP hD hS => ?_)
  obtain ⟨r1_, hA8_, h⟩ := z_bind h
  have k51_ : ∀ (H : Heap) (locs : List Loc) (ls : Array Slot), va_P (zD g) vwCl [zo_X3 a_this a_text a_draft r1_ v_to v_failedAt, zo_X7 a_text a_text_bytes v_text_length, (a_text_bytes, .inl (zY g, 600, .inl v_text_bytes))] H → va_D A [zo_X3 a_this a_text a_draft r1_ v_to v_failedAt, zo_X7 a_text a_text_bytes v_text_length, (a_text_bytes, .inl (zY g, 600, .inl v_text_bytes))] → va_S A s.heap H locs → lv_has ls 1 [(0, .ref a_this)] → W p l e rm_X3_advance s m (([.ref a_this] : List Value)).toArray below meth c H locs 0 0 Q (F0 m 51 ls []) := by
    intro H locs ls hP hD hS hl
    refine lv_aload_n hx hb dX3_advance_51 rfl (lv_at hl 0 rfl) ?_
    refine lv_aload_n hx hb dX3_advance_52 rfl (lv_at hl 0 rfl) ?_
    refine z_get (C := RX3) (T := TX3) (N := 5) (ci := 2) F zu_wsX30 hP 0 rfl rfl 2 (by decide) zw_128 rfl dX3_advance_53 ?_
    refine z_put (C := RX3) (T := TX3) (N := 5) (ci := 2) (W1 := [zo_X3 a_this a_text a_draft r1_ r1_ v_failedAt, zo_X7 a_text a_text_bytes v_text_length, (a_text_bytes, .inl (zY g, 600, .inl v_text_bytes))]) F zu_wsX30 tyX3 tyX3_ok nmX3 hP hD hS 0 rfl rfl 3 (by decide) zw_127 rfl rfl rfl (Nat.le_of_ble_eq_true rfl) dX3_advance_56 rfl (fun H locs hP hD hS => ?_)
    obtain ⟨r2_, hA59_, h⟩ := z_bind h
    have k102_ : ∀ (H : Heap) (locs : List Loc) (ls : Array Slot), va_P (zD g) vwCl [zo_X3 a_this a_text a_draft r1_ r2_ v_failedAt, zo_X7 a_text a_text_bytes v_text_length, (a_text_bytes, .inl (zY g, 600, .inl v_text_bytes))] H → va_D A [zo_X3 a_this a_text a_draft r1_ r2_ v_failedAt, zo_X7 a_text a_text_bytes v_text_length, (a_text_bytes, .inl (zY g, 600, .inl v_text_bytes))] → va_S A s.heap H locs → lv_has ls 1 [] → W p l e rm_X3_advance s m (([.ref a_this] : List Value)).toArray below meth c H locs 0 0 Q (F0 m 102 ls []) := by
      intro H locs ls hP hD hS hl
      obtain rfl := Option.some.inj h
      exact zV_v F hr hlocks hQ hP hD hS dX3_advance_102
    have h := hA59_
    have l59_ : ∀ (n59_ : Nat) (v59_ : Int32), zLoop (f_X3_advance_B59 N v_text_length v_text_bytes) n59_ v59_ = some r2_ → ∀ (H : Heap) (locs : List Loc) (ls : Array Slot), va_P (zD g) vwCl [zo_X3 a_this a_text a_draft r1_ v59_ v_failedAt, zo_X7 a_text a_text_bytes v_text_length, (a_text_bytes, .inl (zY g, 600, .inl v_text_bytes))] H → va_D A [zo_X3 a_this a_text a_draft r1_ v59_ v_failedAt, zo_X7 a_text a_text_bytes v_text_length, (a_text_bytes, .inl (zY g, 600, .inl v_text_bytes))] → va_S A s.heap H locs → lv_has ls 1 [(0, .ref a_this)] → W p l e rm_X3_advance s m (([.ref a_this] : List Value)).toArray below meth c H locs 0 0 Q (F0 m 59 ls []) := by
      intro n59_
      induction n59_ with
      | zero => intro v59_ h; cases h
      | succ n59_ ih59_ =>
        intro v59_ h H locs ls hP hD hS hl
        have h : f_X3_advance_B59 N v_text_length v_text_bytes (zLoop (f_X3_advance_B59 N v_text_length v_text_bytes) n59_) v59_ = some r2_ := h
        unfold f_X3_advance_B59 at h
        refine lv_aload_n hx hb dX3_advance_59 rfl (lv_at hl 0 rfl) ?_
        refine z_get (C := RX3) (T := TX3) (N := 5) (ci := 2) F zu_wsX30 hP 0 rfl rfl 3 (by decide) zw_127 rfl dX3_advance_60 ?_
        refine lv_aload_n hx hb dX3_advance_63 rfl (lv_at hl 0 rfl) ?_
        refine z_get (C := RX3) (T := TX3) (N := 5) (ci := 2) F zu_wsX30 hP 0 rfl rfl 0 (by decide) zw_100 rfl dX3_advance_64 ?_
        obtain ⟨r3_, hr3_, h⟩ := z_bind h
        refine zRV F (k_X7_length l N g a_text a_text_bytes v_text_length _ hr3_) zy_X7_length zw_129 hP hD hS [1] rfl rfl (q0 := 1) (he := rfl) (hc := rfl) (rest := [.int v59_]) rfl hl.1 rfl (Nat.le_of_ble_eq_true rfl) ⟨rfl, rfl⟩ ⟨Nat.le_of_ble_eq_true rfl, Nat.le_of_ble_eq_true rfl⟩ ⟨Nat.zero_le _, Nat.zero_le _⟩ dX3_advance_67 (st1 := [.int r3_, .int v59_]) rfl ?_
        refine z_cge (tgt := 102) hx hb dX3_advance_70 (by decide) h (fun h => ?_) (fun h => ?_)
        · obtain rfl := Option.some.inj h
          exact k102_ _ _ _ hP hD hS (lv_sub hl [] rfl)
        · refine lv_aload_n hx hb dX3_advance_73 rfl (lv_at hl 0 rfl) ?_
          refine z_get (C := RX3) (T := TX3) (N := 5) (ci := 2) F zu_wsX30 hP 0 rfl rfl 0 (by decide) zw_100 rfl dX3_advance_74 ?_
          refine lv_aload_n hx hb dX3_advance_77 rfl (lv_at hl 0 rfl) ?_
          refine z_get (C := RX3) (T := TX3) (N := 5) (ci := 2) F zu_wsX30 hP 0 rfl rfl 3 (by decide) zw_127 rfl dX3_advance_78 ?_
          obtain ⟨r4_, hr4_, h⟩ := z_bind h
          refine zRV F (k_X7_at l N g a_text a_text_bytes v_text_length v_text_bytes v59_ _ hr4_) zy_X7_at zw_133 hP hD hS [1, 2] rfl rfl (q0 := 1) (he := rfl) (hc := rfl) (rest := []) rfl hl.1 rfl (Nat.le_of_ble_eq_true rfl) ⟨rfl, rfl⟩ ⟨Nat.le_of_ble_eq_true rfl, Nat.le_of_ble_eq_true rfl⟩ ⟨Nat.zero_le _, Nat.zero_le _⟩ dX3_advance_81 (st1 := [.int r4_]) rfl ?_
          refine lv_bipush (v := 32) hx hb dX3_advance_84 (by decide) ?_
          refine z_ceq (tgt := 102) hx hb dX3_advance_86 (by decide) h (fun h => ?_) (fun h => ?_)
          · obtain rfl := Option.some.inj h
            exact k102_ _ _ _ hP hD hS (lv_sub hl [] rfl)
          · refine lv_aload_n hx hb dX3_advance_89 rfl (lv_at hl 0 rfl) ?_
            refine lv_dup hx hb dX3_advance_90 rfl ?_
            refine z_get (C := RX3) (T := TX3) (N := 5) (ci := 2) F zu_wsX30 hP 0 rfl rfl 3 (by decide) zw_127 rfl dX3_advance_91 ?_
            refine lv_iconst (v := 1) hx hb dX3_advance_94 (by decide) ?_
            refine lv_iadd hx hb dX3_advance_95 ?_
            refine z_top Value.int h (fun x5_ h => ?_)
            refine z_put (C := RX3) (T := TX3) (N := 5) (ci := 2) (W1 := [zo_X3 a_this a_text a_draft r1_ x5_ v_failedAt, zo_X7 a_text a_text_bytes v_text_length, (a_text_bytes, .inl (zY g, 600, .inl v_text_bytes))]) F zu_wsX30 tyX3 tyX3_ok nmX3 hP hD hS 0 rfl rfl 3 (by decide) zw_127 rfl rfl rfl (Nat.le_of_ble_eq_true rfl) dX3_advance_96 rfl (fun H locs hP hD hS => ?_)
            refine lv_goto (tgt := 59) hx hb dX3_advance_99 (by decide) ?_
            exact ih59_ _ h _ _ _ hP hD hS (lv_sub hl [0] rfl)
    exact l59_ N _ h _ _ _ hP hD hS (lv_sub hl [0] rfl)
  have h := hA8_
  have l8_ : ∀ (n8_ : Nat) (v8_ : Int32), zLoop (f_X3_advance_B8 N v_text_length v_text_bytes) n8_ v8_ = some r1_ → ∀ (H : Heap) (locs : List Loc) (ls : Array Slot), va_P (zD g) vwCl [zo_X3 a_this a_text a_draft v8_ v_to v_failedAt, zo_X7 a_text a_text_bytes v_text_length, (a_text_bytes, .inl (zY g, 600, .inl v_text_bytes))] H → va_D A [zo_X3 a_this a_text a_draft v8_ v_to v_failedAt, zo_X7 a_text a_text_bytes v_text_length, (a_text_bytes, .inl (zY g, 600, .inl v_text_bytes))] → va_S A s.heap H locs → lv_has ls 1 [(0, .ref a_this)] → W p l e rm_X3_advance s m (([.ref a_this] : List Value)).toArray below meth c H locs 0 0 Q (F0 m 8 ls []) := by
    intro n8_
    induction n8_ with
    | zero => intro v8_ h; cases h
    | succ n8_ ih8_ =>
      intro v8_ h H locs ls hP hD hS hl
      have h : f_X3_advance_B8 N v_text_length v_text_bytes (zLoop (f_X3_advance_B8 N v_text_length v_text_bytes) n8_) v8_ = some r1_ := h
      unfold f_X3_advance_B8 at h
      refine lv_aload_n hx hb dX3_advance_8 rfl (lv_at hl 0 rfl) ?_
      refine z_get (C := RX3) (T := TX3) (N := 5) (ci := 2) F zu_wsX30 hP 0 rfl rfl 2 (by decide) zw_128 rfl dX3_advance_9 ?_
      refine lv_aload_n hx hb dX3_advance_12 rfl (lv_at hl 0 rfl) ?_
      refine z_get (C := RX3) (T := TX3) (N := 5) (ci := 2) F zu_wsX30 hP 0 rfl rfl 0 (by decide) zw_100 rfl dX3_advance_13 ?_
      obtain ⟨r6_, hr6_, h⟩ := z_bind h
      refine zRV F (k_X7_length l N g a_text a_text_bytes v_text_length _ hr6_) zy_X7_length zw_129 hP hD hS [1] rfl rfl (q0 := 1) (he := rfl) (hc := rfl) (rest := [.int v8_]) rfl hl.1 rfl (Nat.le_of_ble_eq_true rfl) ⟨rfl, rfl⟩ ⟨Nat.le_of_ble_eq_true rfl, Nat.le_of_ble_eq_true rfl⟩ ⟨Nat.zero_le _, Nat.zero_le _⟩ dX3_advance_16 (st1 := [.int r6_, .int v8_]) rfl ?_
      refine z_cge (tgt := 51) hx hb dX3_advance_19 (by decide) h (fun h => ?_) (fun h => ?_)
      · obtain rfl := Option.some.inj h
        exact k51_ _ _ _ hP hD hS (lv_sub hl [0] rfl)
      · refine lv_aload_n hx hb dX3_advance_22 rfl (lv_at hl 0 rfl) ?_
        refine z_get (C := RX3) (T := TX3) (N := 5) (ci := 2) F zu_wsX30 hP 0 rfl rfl 0 (by decide) zw_100 rfl dX3_advance_23 ?_
        refine lv_aload_n hx hb dX3_advance_26 rfl (lv_at hl 0 rfl) ?_
        refine z_get (C := RX3) (T := TX3) (N := 5) (ci := 2) F zu_wsX30 hP 0 rfl rfl 2 (by decide) zw_128 rfl dX3_advance_27 ?_
        obtain ⟨r7_, hr7_, h⟩ := z_bind h
        refine zRV F (k_X7_at l N g a_text a_text_bytes v_text_length v_text_bytes v8_ _ hr7_) zy_X7_at zw_133 hP hD hS [1, 2] rfl rfl (q0 := 1) (he := rfl) (hc := rfl) (rest := []) rfl hl.1 rfl (Nat.le_of_ble_eq_true rfl) ⟨rfl, rfl⟩ ⟨Nat.le_of_ble_eq_true rfl, Nat.le_of_ble_eq_true rfl⟩ ⟨Nat.zero_le _, Nat.zero_le _⟩ dX3_advance_30 (st1 := [.int r7_]) rfl ?_
        refine lv_bipush (v := 32) hx hb dX3_advance_33 (by decide) ?_
        refine z_cne (tgt := 51) hx hb dX3_advance_35 (by decide) h (fun h => ?_) (fun h => ?_)
        · obtain rfl := Option.some.inj h
          exact k51_ _ _ _ hP hD hS (lv_sub hl [0] rfl)
        · refine lv_aload_n hx hb dX3_advance_38 rfl (lv_at hl 0 rfl) ?_
          refine lv_dup hx hb dX3_advance_39 rfl ?_
          refine z_get (C := RX3) (T := TX3) (N := 5) (ci := 2) F zu_wsX30 hP 0 rfl rfl 2 (by decide) zw_128 rfl dX3_advance_40 ?_
          refine lv_iconst (v := 1) hx hb dX3_advance_43 (by decide) ?_
          refine lv_iadd hx hb dX3_advance_44 ?_
          refine z_top Value.int h (fun x8_ h => ?_)
          refine z_put (C := RX3) (T := TX3) (N := 5) (ci := 2) (W1 := [zo_X3 a_this a_text a_draft x8_ v_to v_failedAt, zo_X7 a_text a_text_bytes v_text_length, (a_text_bytes, .inl (zY g, 600, .inl v_text_bytes))]) F zu_wsX30 tyX3 tyX3_ok nmX3 hP hD hS 0 rfl rfl 2 (by decide) zw_128 rfl rfl rfl (Nat.le_of_ble_eq_true rfl) dX3_advance_45 rfl (fun H locs hP hD hS => ?_)
          refine lv_goto (tgt := 8) hx hb dX3_advance_48 (by decide) ?_
          exact ih8_ _ h _ _ _ hP hD hS (lv_sub hl [0] rfl)
  exact l8_ N _ h _ _ _ hP hD hS (lv_sub hl [0] rfl)
def f_X3_isWord_B20 (N : Nat) (x1 : Nat) (v_text_length : Int32) (v_text_bytes : Nat → Int32) (v_from : Int32) (kh20_ : Int32 → Option Int32) (v20_ : Int32) : Option Int32 :=
  Option.bind (zSlen x1) (fun (x2_ : Int32) => if v20_ < x2_ then Option.bind (f_X7_at N v_text_length v_text_bytes (v_from + v20_)) (fun (r3_ : Int32) => Option.bind (zSch x1 v20_) (fun (x4_ : Int32) => if r3_ = x4_ then Option.bind (some (v20_ + 1)) (fun (x5_ : Int32) => kh20_ x5_) else some 0)) else some 1)
def f_X3_isWord (N : Nat) (v_from : Int32) (v_to : Int32) (v_text_length : Int32) (v_text_bytes : Nat → Int32) (x1 : Nat) : Option Int32 :=
  Option.bind (zSlen x1) (fun (x1_ : Int32) => if (v_to - v_from) = x1_ then zLoop (f_X3_isWord_B20 N x1 v_text_length v_text_bytes v_from) N 0 else some 0)
abbrev rm_X3_isWord : Room := { frames := 6, cells := 0, slots := 0, locals := 200 }
theorem zy_X3_isWord : zYv yX3_isWord RX3 cX3_isWord 3 (some .boolean) 1 := ⟨zw_172, zw_173, zw_174, zw_169, ⟨by decide, by decide⟩, by decide +kernel⟩
set_option maxHeartbeats 4000000 in
set_option maxRecDepth 100000 in
theorem k_X3_isWord (l : Launch) (N : Nat) (g : zEnv) (a_this a_text a_draft a_text_bytes : Nat) (v_failedAt : Int32) (v_from : Int32) (v_to : Int32) (v_text_length : Int32) (v_text_bytes : Nat → Int32) (x1 : Nat) (r : Int32) (h : f_X3_isWord N v_from v_to v_text_length v_text_bytes x1 = some r) : ZR l yX3_isWord cX3_isWord 3 (some .boolean) rm_X3_isWord g [.ref a_this, .ref (zAK g x1)] [zo_X3 a_this a_text a_draft v_from v_to v_failedAt, zo_X7 a_text a_text_bytes v_text_length, (a_text_bytes, .inl (zY g, 600, .inl v_text_bytes))] (some (.int r)) := by
  refine zR_of (by decide) (Nat.le_of_ble_eq_true rfl) ?_
  intro p e s m below meth c A ls Q R F hRm hr hlocks hP hD hS hl hQ
  subst hRm
  have F : zF p m c cX3_isWord 3 s (([.ref a_this, .ref (zAK g x1)] : List Value)).toArray RX3 g A := F
  have hx := F.1.1
  have hb := F.1.2.1
  have hz := F.1.2.2.2.2
  have hl : lv_has ls 3 [(0, .ref a_this), (1, .ref (zAK g x1))] := hl
  unfold f_X3_isWord at h
  refine lv_aload_n hx hb dX3_isWord_0 rfl (lv_at hl 0 rfl) ?_
  refine z_get (C := RX3) (T := TX3) (N := 5) (ci := 2) F zu_wsX30 hP 0 rfl rfl 3 (by decide) zw_127 rfl dX3_isWord_1 ?_
  refine lv_aload_n hx hb dX3_isWord_4 rfl (lv_at hl 0 rfl) ?_
  refine z_get (C := RX3) (T := TX3) (N := 5) (ci := 2) F zu_wsX30 hP 0 rfl rfl 2 (by decide) zw_128 rfl dX3_isWord_5 ?_
  refine lv_isub hx hb dX3_isWord_8 ?_
  refine lv_aload_n hx hb dX3_isWord_9 rfl (lv_at hl 1 rfl) ?_
  refine z_slen F hS zw_163 hl.1 (Nat.le_of_ble_eq_true rfl) ⟨Nat.le_of_ble_eq_true rfl, Nat.le_of_ble_eq_true rfl⟩ ⟨Nat.zero_le _, Nat.zero_le _⟩ dX3_isWord_10 h (fun x1_ h => ?_)
  refine z_ceq (tgt := 18) hx hb dX3_isWord_13 (by decide) h (fun h => ?_) (fun h => ?_)
  · refine lv_iconst (v := 0) hx hb dX3_isWord_18 (by decide) ?_
    refine lv_istore_n (lv' := [(2, .int 0), (0, .ref a_this), (1, .ref (zAK g x1))]) hx hb dX3_isWord_19 rfl hl (by decide) rfl (fun ls hl => ?_)
    have l20_ : ∀ (n20_ : Nat) (v20_ : Int32), zLoop (f_X3_isWord_B20 N x1 v_text_length v_text_bytes v_from) n20_ v20_ = some r → ∀ (ls : Array Slot), lv_has ls 3 [(0, .ref a_this), (1, .ref (zAK g x1)), (2, .int v20_)] → W p l e rm_X3_isWord s m (([.ref a_this, .ref (zAK g x1)] : List Value)).toArray below meth c s.heap [] 0 0 Q (F0 m 20 ls []) := by
      intro n20_
      induction n20_ with
      | zero => intro v20_ h; cases h
      | succ n20_ ih20_ =>
        intro v20_ h ls hl
        have h : f_X3_isWord_B20 N x1 v_text_length v_text_bytes v_from (zLoop (f_X3_isWord_B20 N x1 v_text_length v_text_bytes v_from) n20_) v20_ = some r := h
        unfold f_X3_isWord_B20 at h
        refine lv_iload_n hx hb dX3_isWord_20 rfl (lv_at hl 2 rfl) ?_
        refine lv_aload_n hx hb dX3_isWord_21 rfl (lv_at hl 1 rfl) ?_
        refine z_slen F hS zw_163 hl.1 (Nat.le_of_ble_eq_true rfl) ⟨Nat.le_of_ble_eq_true rfl, Nat.le_of_ble_eq_true rfl⟩ ⟨Nat.zero_le _, Nat.zero_le _⟩ dX3_isWord_22 h (fun x2_ h => ?_)
        refine z_cge (tgt := 57) hx hb dX3_isWord_25 (by decide) h (fun h => ?_) (fun h => ?_)
        · refine lv_iconst (v := 1) hx hb dX3_isWord_57 (by decide) ?_
          obtain rfl := Option.some.inj h
          exact zR_n F hr hlocks hQ rfl dX3_isWord_58
        · refine lv_aload_n hx hb dX3_isWord_28 rfl (lv_at hl 0 rfl) ?_
          refine z_get (C := RX3) (T := TX3) (N := 5) (ci := 2) F zu_wsX30 hP 0 rfl rfl 0 (by decide) zw_100 rfl dX3_isWord_29 ?_
          refine lv_aload_n hx hb dX3_isWord_32 rfl (lv_at hl 0 rfl) ?_
          refine z_get (C := RX3) (T := TX3) (N := 5) (ci := 2) F zu_wsX30 hP 0 rfl rfl 2 (by decide) zw_128 rfl dX3_isWord_33 ?_
          refine lv_iload_n hx hb dX3_isWord_36 rfl (lv_at hl 2 rfl) ?_
          refine lv_iadd hx hb dX3_isWord_37 ?_
          obtain ⟨r3_, hr3_, h⟩ := z_bind h
          refine zRV F (k_X7_at l N g a_text a_text_bytes v_text_length v_text_bytes (v_from + v20_) _ hr3_) zy_X7_at zw_133 hP hD hS [1, 2] rfl rfl (q0 := 1) (he := rfl) (hc := rfl) (rest := []) rfl hl.1 rfl (Nat.le_of_ble_eq_true rfl) ⟨rfl, rfl⟩ ⟨Nat.le_of_ble_eq_true rfl, Nat.le_of_ble_eq_true rfl⟩ ⟨Nat.zero_le _, Nat.zero_le _⟩ dX3_isWord_38 (st1 := [.int r3_]) rfl ?_
          refine lv_aload_n hx hb dX3_isWord_41 rfl (lv_at hl 1 rfl) ?_
          refine lv_iload_n hx hb dX3_isWord_42 rfl (lv_at hl 2 rfl) ?_
          refine z_sch F hS zw_166 hl.1 (Nat.le_of_ble_eq_true rfl) ⟨Nat.le_of_ble_eq_true rfl, Nat.le_of_ble_eq_true rfl⟩ ⟨Nat.zero_le _, Nat.zero_le _⟩ dX3_isWord_43 h (fun x4_ h => ?_)
          refine z_ceq (tgt := 51) hx hb dX3_isWord_46 (by decide) h (fun h => ?_) (fun h => ?_)
          · refine z_nm h (fun x5_ ex5_ h => ?_)
            refine lv_iinc (v := x5_) (lv' := [(2, .int x5_), (0, .ref a_this), (1, .ref (zAK g x1))]) hx hb dX3_isWord_51 hl (k := 2) rfl (by rw [ex5_]; rfl) (by decide) rfl (fun ls hl => ?_)
            refine lv_goto (tgt := 20) hx hb dX3_isWord_54 (by decide) ?_
            exact ih20_ _ h _ (lv_sub hl [1, 2, 0] rfl)
          · refine lv_iconst (v := 0) hx hb dX3_isWord_49 (by decide) ?_
            obtain rfl := Option.some.inj h
            exact zR_n F hr hlocks hQ rfl dX3_isWord_50
    exact l20_ N _ h _ (lv_sub hl [1, 2, 0] rfl)
  · refine lv_iconst (v := 0) hx hb dX3_isWord_16 (by decide) ?_
    obtain rfl := Option.some.inj h
    exact zR_n F hr hlocks hQ rfl dX3_isWord_17
def f_X3_takeWord (N : Nat) (v_failedAt : Int32) (v_from : Int32) (v_to : Int32) (v_text_length : Int32) (v_text_bytes : Nat → Int32) (x1 : Nat) : Option (Int32 × Int32 × Int32) :=
  Option.bind (if v_failedAt = (-1000) then Option.bind (f_X3_isWord N v_from v_to v_text_length v_text_bytes x1) (fun (r5_ : Int32) => if r5_ = 0 then some 0 else some 1) else some 0) (fun (r1_ : Int32) => Option.bind (if r1_ = 0 then some (v_from, v_to) else Option.bind (f_X3_advance N v_from v_to v_text_length v_text_bytes) (fun (r4_ : Int32 × Int32) => some (r4_.1, r4_.2))) (fun (r2_ : Int32 × Int32) => Option.bind (zNar .boolean r1_) (fun (x3_ : Int32) => some (r1_, r2_.1, r2_.2))))
abbrev rm_X3_takeWord : Room := { frames := 7, cells := 0, slots := 0, locals := 222 }
theorem zy_X3_takeWord : zYv yX3_takeWord RX3 cX3_takeWord 3 (some .boolean) 1 := ⟨zw_181, zw_182, zw_174, zw_178, ⟨by decide, by decide⟩, by decide +kernel⟩
set_option maxHeartbeats 4000000 in
set_option maxRecDepth 100000 in
theorem k_X3_takeWord (l : Launch) (N : Nat) (g : zEnv) (a_this a_text a_draft a_text_bytes : Nat) (v_failedAt : Int32) (v_from : Int32) (v_to : Int32) (v_text_length : Int32) (v_text_bytes : Nat → Int32) (x1 : Nat) (r : Int32 × Int32 × Int32) (h : f_X3_takeWord N v_failedAt v_from v_to v_text_length v_text_bytes x1 = some r) : ZV l yX3_takeWord cX3_takeWord 3 (some .boolean) rm_X3_takeWord g [.ref a_this, .ref (zAK g x1)] [zo_X3 a_this a_text a_draft v_from v_to v_failedAt, zo_X7 a_text a_text_bytes v_text_length, (a_text_bytes, .inl (zY g, 600, .inl v_text_bytes))] [zo_X3 a_this a_text a_draft r.2.1 r.2.2 v_failedAt, zo_X7 a_text a_text_bytes v_text_length, (a_text_bytes, .inl (zY g, 600, .inl v_text_bytes))] (some (.int r.1)) := by
  refine zV_of (by decide) (Nat.le_of_ble_eq_true rfl) ?_
  intro p e s m below meth c A H locs ls Q R F hRm hr hlocks hP hD hS hl hQ
  subst hRm
  have F : zF p m c cX3_takeWord 3 s (([.ref a_this, .ref (zAK g x1)] : List Value)).toArray RX3 g A := F
  have hx := F.1.1
  have hb := F.1.2.1
  have hz := F.1.2.2.2.2
  have hl : lv_has ls 3 [(0, .ref a_this), (1, .ref (zAK g x1))] := hl
  unfold f_X3_takeWord at h
  refine lv_aload_n hx hb dX3_takeWord_0 rfl (lv_at hl 0 rfl) ?_
  refine z_get (C := RX3) (T := TX3) (N := 5) (ci := 2) F zu_wsX30 hP 0 rfl rfl 4 (by decide) zw_170 rfl dX3_takeWord_1 ?_
  refine lv_sipush (v := (-1000)) hx hb dX3_takeWord_4 (by decide) ?_
  obtain ⟨r1_, hA23_, h⟩ := z_bind h
  have k23_ : ∀ (H : Heap) (locs : List Loc) (ls : Array Slot), va_P (zD g) vwCl [zo_X3 a_this a_text a_draft v_from v_to v_failedAt, zo_X7 a_text a_text_bytes v_text_length, (a_text_bytes, .inl (zY g, 600, .inl v_text_bytes))] H → va_D A [zo_X3 a_this a_text a_draft v_from v_to v_failedAt, zo_X7 a_text a_text_bytes v_text_length, (a_text_bytes, .inl (zY g, 600, .inl v_text_bytes))] → va_S A s.heap H locs → lv_has ls 3 [(0, .ref a_this)] → W p l e rm_X3_takeWord s m (([.ref a_this, .ref (zAK g x1)] : List Value)).toArray below meth c H locs 0 0 Q (F0 m 23 ls [.int r1_]) := by
    intro H locs ls hP hD hS hl
    refine lv_istore_n (lv' := [(2, .int r1_), (0, .ref a_this)]) hx hb dX3_takeWord_23 rfl hl (by decide) rfl (fun ls hl => ?_)
    refine lv_iload_n hx hb dX3_takeWord_24 rfl (lv_at hl 0 rfl) ?_
    obtain ⟨r2_, hA32_, h⟩ := z_bind h
    have k32_ : ∀ (H : Heap) (locs : List Loc) (ls : Array Slot), va_P (zD g) vwCl [zo_X3 a_this a_text a_draft r2_.1 r2_.2 v_failedAt, zo_X7 a_text a_text_bytes v_text_length, (a_text_bytes, .inl (zY g, 600, .inl v_text_bytes))] H → va_D A [zo_X3 a_this a_text a_draft r2_.1 r2_.2 v_failedAt, zo_X7 a_text a_text_bytes v_text_length, (a_text_bytes, .inl (zY g, 600, .inl v_text_bytes))] → va_S A s.heap H locs → lv_has ls 3 [(2, .int r1_)] → W p l e rm_X3_takeWord s m (([.ref a_this, .ref (zAK g x1)] : List Value)).toArray below meth c H locs 0 0 Q (F0 m 32 ls []) := by
      intro H locs ls hP hD hS hl
      refine lv_iload_n hx hb dX3_takeWord_32 rfl (lv_at hl 0 rfl) ?_
      obtain ⟨x3_, hnx3_, h⟩ := z_bind h
      have hnx3_ := zNar_spec hnx3_
      obtain rfl := Option.some.inj h
      exact zV_n F hr hlocks hQ hnx3_ hP hD hS dX3_takeWord_33
    have h := hA32_
    refine z_eq (tgt := 32) hx hb dX3_takeWord_25 (by decide) h (fun h => ?_) (fun h => ?_)
    · obtain rfl := Option.some.inj h
      exact k32_ _ _ _ hP hD hS (lv_sub hl [0] rfl)
    · refine lv_aload_n hx hb dX3_takeWord_28 rfl (lv_at hl 1 rfl) ?_
      obtain ⟨r4_, hr4_, h⟩ := z_bind h
      refine zVV F (k_X3_advance l N g a_this a_text a_draft a_text_bytes v_failedAt v_from v_to v_text_length v_text_bytes _ hr4_) zy_X3_advance zw_175 hP hD hS [0, 1, 2] [] [0, 1, 2] (wr := []) (W1 := [zo_X3 a_this a_text a_draft r4_.1 r4_.2 v_failedAt, zo_X7 a_text a_text_bytes v_text_length, (a_text_bytes, .inl (zY g, 600, .inl v_text_bytes))]) rfl rfl rfl rfl (by decide) rfl rfl (q0 := 0) (he := rfl) (hc := rfl) (rest := []) rfl hl.1 rfl (Nat.le_of_ble_eq_true rfl) ⟨rfl, rfl⟩ ⟨Nat.le_of_ble_eq_true rfl, Nat.le_of_ble_eq_true rfl⟩ ⟨Nat.zero_le _, Nat.zero_le _⟩ dX3_takeWord_29 (st1 := []) rfl (fun H locs hP hD hS => ?_)
      obtain rfl := Option.some.inj h
      exact k32_ _ _ _ hP hD hS (lv_sub hl [0] rfl)
  have h := hA23_
  refine z_cne (tgt := 22) hx hb dX3_takeWord_7 (by decide) h (fun h => ?_) (fun h => ?_)
  · refine lv_iconst (v := 0) hx hb dX3_takeWord_22 (by decide) ?_
    obtain rfl := Option.some.inj h
    exact k23_ _ _ _ hP hD hS (lv_sub hl [0] rfl)
  · refine lv_aload_n hx hb dX3_takeWord_10 rfl (lv_at hl 0 rfl) ?_
    refine lv_aload_n hx hb dX3_takeWord_11 rfl (lv_at hl 1 rfl) ?_
    obtain ⟨r5_, hr5_, h⟩ := z_bind h
    refine zRV F (k_X3_isWord l N g a_this a_text a_draft a_text_bytes v_failedAt v_from v_to v_text_length v_text_bytes x1 _ hr5_) zy_X3_isWord zw_171 hP hD hS [0, 1, 2] rfl rfl (q0 := 0) (he := rfl) (hc := rfl) (rest := []) rfl hl.1 rfl (Nat.le_of_ble_eq_true rfl) ⟨rfl, rfl⟩ ⟨Nat.le_of_ble_eq_true rfl, Nat.le_of_ble_eq_true rfl⟩ ⟨Nat.zero_le _, Nat.zero_le _⟩ dX3_takeWord_12 (st1 := [.int r5_]) rfl ?_
    refine z_eq (tgt := 22) hx hb dX3_takeWord_15 (by decide) h (fun h => ?_) (fun h => ?_)
    · refine lv_iconst (v := 0) hx hb dX3_takeWord_22 (by decide) ?_
      obtain rfl := Option.some.inj h
      exact k23_ _ _ _ hP hD hS (lv_sub hl [0] rfl)
    · refine lv_iconst (v := 1) hx hb dX3_takeWord_18 (by decide) ?_
      refine lv_goto (tgt := 23) hx hb dX3_takeWord_19 (by decide) ?_
      obtain rfl := Option.some.inj h
      exact k23_ _ _ _ hP hD hS (lv_sub hl [0] rfl)
def f_X3_fail (N : Nat) (v_failedAt : Int32) (v_from : Int32) : Option Int32 :=
  if v_failedAt = (-1000) then some v_from else some v_failedAt
abbrev rm_X3_fail : Room := { frames := 0, cells := 0, slots := 0, locals := 0 }
theorem zy_X3_fail : zYv yX3_fail RX3 cX3_fail 1 none 0 := ⟨zw_184, zw_185, zw_174, zw_179, ⟨by decide, by decide⟩, by decide +kernel⟩
set_option maxHeartbeats 4000000 in
set_option maxRecDepth 100000 in
theorem k_X3_fail (l : Launch) (N : Nat) (g : zEnv) (a_this a_text a_draft : Nat) (v_to : Int32) (v_failedAt : Int32) (v_from : Int32) (r : Int32) (h : f_X3_fail N v_failedAt v_from = some r) : ZV l yX3_fail cX3_fail 1 none rm_X3_fail g [.ref a_this] [zo_X3 a_this a_text a_draft v_from v_to v_failedAt] [zo_X3 a_this a_text a_draft v_from v_to r] none := by
  refine zV_of (by decide) (Nat.le_of_ble_eq_true rfl) ?_
  intro p e s m below meth c A H locs ls Q R F hRm hr hlocks hP hD hS hl hQ
  subst hRm
  have F : zF p m c cX3_fail 1 s (([.ref a_this] : List Value)).toArray RX3 g A := F
  have hx := F.1.1
  have hb := F.1.2.1
  have hz := F.1.2.2.2.2
  have hl : lv_has ls 1 [(0, .ref a_this)] := hl
  unfold f_X3_fail at h
  refine lv_aload_n hx hb dX3_fail_0 rfl (lv_at hl 0 rfl) ?_
  refine z_get (C := RX3) (T := TX3) (N := 5) (ci := 2) F zu_wsX30 hP 0 rfl rfl 4 (by decide) zw_170 rfl dX3_fail_1 ?_
  refine lv_sipush (v := (-1000)) hx hb dX3_fail_4 (by decide) ?_
  refine z_cne (tgt := 18) hx hb dX3_fail_7 (by decide) h (fun h => ?_) (fun h => ?_)
  · obtain rfl := Option.some.inj h
    exact zV_v F hr hlocks hQ hP hD hS dX3_fail_18
  · refine lv_aload_n hx hb dX3_fail_10 rfl (lv_at hl 0 rfl) ?_
    refine lv_aload_n hx hb dX3_fail_11 rfl (lv_at hl 0 rfl) ?_
    refine z_get (C := RX3) (T := TX3) (N := 5) (ci := 2) F zu_wsX30 hP 0 rfl rfl 2 (by decide) zw_128 rfl dX3_fail_12 ?_
    refine z_put (C := RX3) (T := TX3) (N := 5) (ci := 2) (W1 := [zo_X3 a_this a_text a_draft v_from v_to v_from]) F zu_wsX30 tyX3 tyX3_ok nmX3 hP hD hS 0 rfl rfl 4 (by decide) zw_170 rfl rfl rfl (Nat.le_of_ble_eq_true rfl) dX3_fail_15 rfl (fun H locs hP hD hS => ?_)
    obtain rfl := Option.some.inj h
    exact zV_v F hr hlocks hQ hP hD hS dX3_fail_18
def f_X3_needWord (N : Nat) (v_failedAt : Int32) (v_from : Int32) (v_to : Int32) (v_text_length : Int32) (v_text_bytes : Nat → Int32) (x1 : Nat) : Option (Int32 × Int32 × Int32) :=
  Option.bind (f_X3_takeWord N v_failedAt v_from v_to v_text_length v_text_bytes x1) (fun (r1_ : Int32 × Int32 × Int32) => if r1_.1 = 0 then Option.bind (f_X3_fail N v_failedAt r1_.2.1) (fun (r2_ : Int32) => some (r2_, r1_.2.1, r1_.2.2)) else some (v_failedAt, r1_.2.1, r1_.2.2))
abbrev rm_X3_needWord : Room := { frames := 8, cells := 0, slots := 0, locals := 244 }
theorem zy_X3_needWord : zYv yX3_needWord RX3 cX3_needWord 2 none 1 := ⟨zw_196, zw_197, zw_174, zw_186, ⟨by decide, by decide⟩, by decide +kernel⟩
set_option maxHeartbeats 4000000 in
set_option maxRecDepth 100000 in
theorem k_X3_needWord (l : Launch) (N : Nat) (g : zEnv) (a_this a_text a_draft a_text_bytes : Nat) (v_failedAt : Int32) (v_from : Int32) (v_to : Int32) (v_text_length : Int32) (v_text_bytes : Nat → Int32) (x1 : Nat) (r : Int32 × Int32 × Int32) (h : f_X3_needWord N v_failedAt v_from v_to v_text_length v_text_bytes x1 = some r) : ZV l yX3_needWord cX3_needWord 2 none rm_X3_needWord g [.ref a_this, .ref (zAK g x1)] [zo_X3 a_this a_text a_draft v_from v_to v_failedAt, zo_X7 a_text a_text_bytes v_text_length, (a_text_bytes, .inl (zY g, 600, .inl v_text_bytes))] [zo_X3 a_this a_text a_draft r.2.1 r.2.2 r.1, zo_X7 a_text a_text_bytes v_text_length, (a_text_bytes, .inl (zY g, 600, .inl v_text_bytes))] none := by
  refine zV_of (by decide) (Nat.le_of_ble_eq_true rfl) ?_
  intro p e s m below meth c A H locs ls Q R F hRm hr hlocks hP hD hS hl hQ
  subst hRm
  have F : zF p m c cX3_needWord 2 s (([.ref a_this, .ref (zAK g x1)] : List Value)).toArray RX3 g A := F
  have hx := F.1.1
  have hb := F.1.2.1
  have hz := F.1.2.2.2.2
  have hl : lv_has ls 2 [(0, .ref a_this), (1, .ref (zAK g x1))] := hl
  unfold f_X3_needWord at h
  refine lv_aload_n hx hb dX3_needWord_0 rfl (lv_at hl 0 rfl) ?_
  refine lv_aload_n hx hb dX3_needWord_1 rfl (lv_at hl 1 rfl) ?_
  obtain ⟨r1_, hr1_, h⟩ := z_bind h
  refine zVV F (k_X3_takeWord l N g a_this a_text a_draft a_text_bytes v_failedAt v_from v_to v_text_length v_text_bytes x1 _ hr1_) zy_X3_takeWord zw_180 hP hD hS [0, 1, 2] [] [0, 1, 2] (wr := []) (W1 := [zo_X3 a_this a_text a_draft r1_.2.1 r1_.2.2 v_failedAt, zo_X7 a_text a_text_bytes v_text_length, (a_text_bytes, .inl (zY g, 600, .inl v_text_bytes))]) rfl rfl rfl rfl (by decide) rfl rfl (q0 := 0) (he := rfl) (hc := rfl) (rest := []) rfl hl.1 rfl (Nat.le_of_ble_eq_true rfl) ⟨rfl, rfl⟩ ⟨Nat.le_of_ble_eq_true rfl, Nat.le_of_ble_eq_true rfl⟩ ⟨Nat.zero_le _, Nat.zero_le _⟩ dX3_needWord_2 (st1 := [.int r1_.1]) rfl (fun H locs hP hD hS => ?_)
  refine z_ne (tgt := 12) hx hb dX3_needWord_5 (by decide) h (fun h => ?_) (fun h => ?_)
  · obtain rfl := Option.some.inj h
    exact zV_v F hr hlocks hQ hP hD hS dX3_needWord_12
  · refine lv_aload_n hx hb dX3_needWord_8 rfl (lv_at hl 0 rfl) ?_
    obtain ⟨r2_, hr2_, h⟩ := z_bind h
    refine zVV F (k_X3_fail l N g a_this a_text a_draft r1_.2.2 v_failedAt r1_.2.1 _ hr2_) zy_X3_fail zw_183 hP hD hS [0] [1, 2] [2, 0, 1] (wr := [zo_X7 a_text a_text_bytes v_text_length, (a_text_bytes, .inl (zY g, 600, .inl v_text_bytes))]) (W1 := [zo_X3 a_this a_text a_draft r1_.2.1 r1_.2.2 r2_, zo_X7 a_text a_text_bytes v_text_length, (a_text_bytes, .inl (zY g, 600, .inl v_text_bytes))]) rfl rfl rfl rfl (by decide) rfl rfl (q0 := 0) (he := rfl) (hc := rfl) (rest := []) rfl hl.1 rfl (Nat.le_of_ble_eq_true rfl) ⟨rfl, rfl⟩ ⟨Nat.le_of_ble_eq_true rfl, Nat.le_of_ble_eq_true rfl⟩ ⟨Nat.zero_le _, Nat.zero_le _⟩ dX3_needWord_9 (st1 := []) rfl (fun H locs hP hD hS => ?_)
    obtain rfl := Option.some.inj h
    exact zV_v F hr hlocks hQ hP hD hS dX3_needWord_12
def f_X3_number_B33 (N : Nat) (v_to : Int32) (v_text_length : Int32) (v_text_bytes : Nat → Int32) (kh33_ : Int32 × Int32 → Option Int32) (v33_ : Int32 × Int32) : Option Int32 :=
  if v33_.2 < v_to then Option.bind (f_X7_at N v_text_length v_text_bytes v33_.2) (fun (r1_ : Int32) => Option.bind (some (r1_ - 48)) (fun (x2_ : Int32) => if x2_ < 0 then some (-1) else if 9 < x2_ then some (-1) else Option.bind (some ((10 * v33_.1) + x2_)) (fun (x3_ : Int32) => Option.bind (some (v33_.2 + 1)) (fun (x4_ : Int32) => kh33_ (x3_, x4_))))) else some v33_.1
def f_X3_number (N : Nat) (v_from : Int32) (v_to : Int32) (v_text_length : Int32) (v_text_bytes : Nat → Int32) : Option Int32 :=
  if v_to = v_from then some (-1) else if 3 < (v_to - v_from) then some (-1) else zLoop (f_X3_number_B33 N v_to v_text_length v_text_bytes) N (0, v_from)
abbrev rm_X3_number : Room := { frames := 1, cells := 0, slots := 0, locals := 21 }
theorem zy_X3_number : zYv yX3_number RX3 cX3_number 4 (some .int) 0 := ⟨zw_189, zw_190, zw_174, zw_187, ⟨by decide, by decide⟩, by decide +kernel⟩
set_option maxHeartbeats 4000000 in
set_option maxRecDepth 100000 in
theorem k_X3_number (l : Launch) (N : Nat) (g : zEnv) (a_this a_text a_draft a_text_bytes : Nat) (v_failedAt : Int32) (v_from : Int32) (v_to : Int32) (v_text_length : Int32) (v_text_bytes : Nat → Int32) (r : Int32) (h : f_X3_number N v_from v_to v_text_length v_text_bytes = some r) : ZR l yX3_number cX3_number 4 (some .int) rm_X3_number g [.ref a_this] [zo_X3 a_this a_text a_draft v_from v_to v_failedAt, zo_X7 a_text a_text_bytes v_text_length, (a_text_bytes, .inl (zY g, 600, .inl v_text_bytes))] (some (.int r)) := by
  refine zR_of (by decide) (Nat.le_of_ble_eq_true rfl) ?_
  intro p e s m below meth c A ls Q R F hRm hr hlocks hP hD hS hl hQ
  subst hRm
  have F : zF p m c cX3_number 4 s (([.ref a_this] : List Value)).toArray RX3 g A := F
  have hx := F.1.1
  have hb := F.1.2.1
  have hz := F.1.2.2.2.2
  have hl : lv_has ls 4 [(0, .ref a_this)] := hl
  unfold f_X3_number at h
  refine lv_aload_n hx hb dX3_number_0 rfl (lv_at hl 0 rfl) ?_
  refine z_get (C := RX3) (T := TX3) (N := 5) (ci := 2) F zu_wsX30 hP 0 rfl rfl 3 (by decide) zw_127 rfl dX3_number_1 ?_
  refine lv_aload_n hx hb dX3_number_4 rfl (lv_at hl 0 rfl) ?_
  refine z_get (C := RX3) (T := TX3) (N := 5) (ci := 2) F zu_wsX30 hP 0 rfl rfl 2 (by decide) zw_128 rfl dX3_number_5 ?_
  refine z_ceq (tgt := 24) hx hb dX3_number_8 (by decide) h (fun h => ?_) (fun h => ?_)
  · refine lv_iconst (v := (-1)) hx hb dX3_number_24 (by decide) ?_
    obtain rfl := Option.some.inj h
    exact zR_i F hr hlocks hQ dX3_number_25
  · refine lv_aload_n hx hb dX3_number_11 rfl (lv_at hl 0 rfl) ?_
    refine z_get (C := RX3) (T := TX3) (N := 5) (ci := 2) F zu_wsX30 hP 0 rfl rfl 3 (by decide) zw_127 rfl dX3_number_12 ?_
    refine lv_aload_n hx hb dX3_number_15 rfl (lv_at hl 0 rfl) ?_
    refine z_get (C := RX3) (T := TX3) (N := 5) (ci := 2) F zu_wsX30 hP 0 rfl rfl 2 (by decide) zw_128 rfl dX3_number_16 ?_
    refine lv_isub hx hb dX3_number_19 ?_
    refine lv_iconst (v := 3) hx hb dX3_number_20 (by decide) ?_
    refine z_cle (tgt := 26) hx hb dX3_number_21 (by decide) h (fun h => ?_) (fun h => ?_)
    · refine lv_iconst (v := 0) hx hb dX3_number_26 (by decide) ?_
      refine lv_istore_n (lv' := [(1, .int 0), (0, .ref a_this)]) hx hb dX3_number_27 rfl hl (by decide) rfl (fun ls hl => ?_)
      refine lv_aload_n hx hb dX3_number_28 rfl (lv_at hl 1 rfl) ?_
      refine z_get (C := RX3) (T := TX3) (N := 5) (ci := 2) F zu_wsX30 hP 0 rfl rfl 2 (by decide) zw_128 rfl dX3_number_29 ?_
      refine lv_istore_n (lv' := [(2, .int v_from), (1, .int 0), (0, .ref a_this)]) hx hb dX3_number_32 rfl hl (by decide) rfl (fun ls hl => ?_)
      have l33_ : ∀ (n33_ : Nat) (v33_ : Int32 × Int32), zLoop (f_X3_number_B33 N v_to v_text_length v_text_bytes) n33_ v33_ = some r → ∀ (ls : Array Slot), lv_has ls 4 [(0, .ref a_this), (1, .int v33_.1), (2, .int v33_.2)] → W p l e rm_X3_number s m (([.ref a_this] : List Value)).toArray below meth c s.heap [] 0 0 Q (F0 m 33 ls []) := by
        intro n33_
        induction n33_ with
        | zero => intro v33_ h; cases h
        | succ n33_ ih33_ =>
          intro v33_ h ls hl
          have h : f_X3_number_B33 N v_to v_text_length v_text_bytes (zLoop (f_X3_number_B33 N v_to v_text_length v_text_bytes) n33_) v33_ = some r := h
          unfold f_X3_number_B33 at h
          refine lv_iload_n hx hb dX3_number_33 rfl (lv_at hl 2 rfl) ?_
          refine lv_aload_n hx hb dX3_number_34 rfl (lv_at hl 0 rfl) ?_
          refine z_get (C := RX3) (T := TX3) (N := 5) (ci := 2) F zu_wsX30 hP 0 rfl rfl 3 (by decide) zw_127 rfl dX3_number_35 ?_
          refine z_cge (tgt := 78) hx hb dX3_number_38 (by decide) h (fun h => ?_) (fun h => ?_)
          · refine lv_iload_n hx hb dX3_number_78 rfl (lv_at hl 1 rfl) ?_
            obtain rfl := Option.some.inj h
            exact zR_i F hr hlocks hQ dX3_number_79
          · refine lv_aload_n hx hb dX3_number_41 rfl (lv_at hl 0 rfl) ?_
            refine z_get (C := RX3) (T := TX3) (N := 5) (ci := 2) F zu_wsX30 hP 0 rfl rfl 0 (by decide) zw_100 rfl dX3_number_42 ?_
            refine lv_iload_n hx hb dX3_number_45 rfl (lv_at hl 2 rfl) ?_
            obtain ⟨r1_, hr1_, h⟩ := z_bind h
            refine zRV F (k_X7_at l N g a_text a_text_bytes v_text_length v_text_bytes v33_.2 _ hr1_) zy_X7_at zw_133 hP hD hS [1, 2] rfl rfl (q0 := 1) (he := rfl) (hc := rfl) (rest := []) rfl hl.1 rfl (Nat.le_of_ble_eq_true rfl) ⟨rfl, rfl⟩ ⟨Nat.le_of_ble_eq_true rfl, Nat.le_of_ble_eq_true rfl⟩ ⟨Nat.zero_le _, Nat.zero_le _⟩ dX3_number_46 (st1 := [.int r1_]) rfl ?_
            refine lv_bipush (v := 48) hx hb dX3_number_49 (by decide) ?_
            refine lv_isub hx hb dX3_number_51 ?_
            refine z_top Value.int h (fun x2_ h => ?_)
            refine lv_istore_n (lv' := [(3, .int x2_), (0, .ref a_this), (1, .int v33_.1), (2, .int v33_.2)]) hx hb dX3_number_52 rfl hl (by decide) rfl (fun ls hl => ?_)
            refine lv_iload_n hx hb dX3_number_53 rfl (lv_at hl 0 rfl) ?_
            refine z_lt (tgt := 63) hx hb dX3_number_54 (by decide) h (fun h => ?_) (fun h => ?_)
            · refine lv_iconst (v := (-1)) hx hb dX3_number_63 (by decide) ?_
              obtain rfl := Option.some.inj h
              exact zR_i F hr hlocks hQ dX3_number_64
            · refine lv_iload_n hx hb dX3_number_57 rfl (lv_at hl 0 rfl) ?_
              refine lv_bipush (v := 9) hx hb dX3_number_58 (by decide) ?_
              refine z_cle (tgt := 65) hx hb dX3_number_60 (by decide) h (fun h => ?_) (fun h => ?_)
              · refine lv_bipush (v := 10) hx hb dX3_number_65 (by decide) ?_
                refine lv_iload_n hx hb dX3_number_67 rfl (lv_at hl 2 rfl) ?_
                refine lv_imul hx hb dX3_number_68 ?_
                refine lv_iload_n hx hb dX3_number_69 rfl (lv_at hl 0 rfl) ?_
                refine lv_iadd hx hb dX3_number_70 ?_
                refine z_top Value.int h (fun x3_ h => ?_)
                refine lv_istore_n (lv' := [(1, .int x3_), (3, .int x2_), (0, .ref a_this), (2, .int v33_.2)]) hx hb dX3_number_71 rfl hl (by decide) rfl (fun ls hl => ?_)
                refine z_nm h (fun x4_ ex4_ h => ?_)
                refine lv_iinc (v := x4_) (lv' := [(2, .int x4_), (1, .int x3_), (3, .int x2_), (0, .ref a_this)]) hx hb dX3_number_72 hl (k := 3) rfl (by rw [ex4_]; rfl) (by decide) rfl (fun ls hl => ?_)
                refine lv_goto (tgt := 33) hx hb dX3_number_75 (by decide) ?_
                exact ih33_ _ h _ (lv_sub hl [3, 1, 0] rfl)
              · refine lv_iconst (v := (-1)) hx hb dX3_number_63 (by decide) ?_
                obtain rfl := Option.some.inj h
                exact zR_i F hr hlocks hQ dX3_number_64
      exact l33_ N _ h _ (lv_sub hl [2, 1, 0] rfl)
    · refine lv_iconst (v := (-1)) hx hb dX3_number_24 (by decide) ?_
      obtain rfl := Option.some.inj h
      exact zR_i F hr hlocks hQ dX3_number_25
def f_X3_takeNumber_J25 (N : Nat) (v_failedAt : Int32) (z2_ : Int32) (z3_ : Int32) : Option (Int32 × Int32 × Int32 × Int32) :=
  Option.bind (f_X3_fail N v_failedAt z2_) (fun (r4_ : Int32) => some (0, r4_, z2_, z3_))
def f_X3_takeNumber (N : Nat) (v_failedAt : Int32) (v_from : Int32) (v_to : Int32) (v_text_length : Int32) (v_text_bytes : Nat → Int32) (x1 : Int32) (x2 : Int32) : Option (Int32 × Int32 × Int32 × Int32) :=
  Option.bind (f_X3_number N v_from v_to v_text_length v_text_bytes) (fun (r1_ : Int32) => if v_failedAt = (-1000) then if r1_ < x1 then f_X3_takeNumber_J25 N v_failedAt v_from v_to else if x2 < r1_ then f_X3_takeNumber_J25 N v_failedAt v_from v_to else Option.bind (f_X3_advance N v_from v_to v_text_length v_text_bytes) (fun (r5_ : Int32 × Int32) => some (r1_, v_failedAt, r5_.1, r5_.2)) else f_X3_takeNumber_J25 N v_failedAt v_from v_to)
abbrev rm_X3_takeNumber : Room := { frames := 2, cells := 0, slots := 0, locals := 44 }
theorem zy_X3_takeNumber : zYv yX3_takeNumber RX3 cX3_takeNumber 4 (some .int) 2 := ⟨zw_193, zw_194, zw_174, zw_191, ⟨by decide, by decide⟩, by decide +kernel⟩
set_option maxHeartbeats 4000000 in
set_option maxRecDepth 100000 in
theorem k_X3_takeNumber (l : Launch) (N : Nat) (g : zEnv) (a_this a_text a_draft a_text_bytes : Nat) (v_failedAt : Int32) (v_from : Int32) (v_to : Int32) (v_text_length : Int32) (v_text_bytes : Nat → Int32) (x1 : Int32) (x2 : Int32) (r : Int32 × Int32 × Int32 × Int32) (h : f_X3_takeNumber N v_failedAt v_from v_to v_text_length v_text_bytes x1 x2 = some r) : ZV l yX3_takeNumber cX3_takeNumber 4 (some .int) rm_X3_takeNumber g [.ref a_this, .int x1, .int x2] [zo_X3 a_this a_text a_draft v_from v_to v_failedAt, zo_X7 a_text a_text_bytes v_text_length, (a_text_bytes, .inl (zY g, 600, .inl v_text_bytes))] [zo_X3 a_this a_text a_draft r.2.2.1 r.2.2.2 r.2.1, zo_X7 a_text a_text_bytes v_text_length, (a_text_bytes, .inl (zY g, 600, .inl v_text_bytes))] (some (.int r.1)) := by
  refine zV_of (by decide) (Nat.le_of_ble_eq_true rfl) ?_
  intro p e s m below meth c A H locs ls Q R F hRm hr hlocks hP hD hS hl hQ
  subst hRm
  have F : zF p m c cX3_takeNumber 4 s (([.ref a_this, .int x1, .int x2] : List Value)).toArray RX3 g A := F
  have hx := F.1.1
  have hb := F.1.2.1
  have hz := F.1.2.2.2.2
  have hl : lv_has ls 4 [(0, .ref a_this), (1, .int x1), (2, .int x2)] := hl
  unfold f_X3_takeNumber at h
  refine lv_aload_n hx hb dX3_takeNumber_0 rfl (lv_at hl 0 rfl) ?_
  obtain ⟨r1_, hr1_, h⟩ := z_bind h
  refine zRV F (k_X3_number l N g a_this a_text a_draft a_text_bytes v_failedAt v_from v_to v_text_length v_text_bytes _ hr1_) zy_X3_number zw_188 hP hD hS [0, 1, 2] rfl rfl (q0 := 0) (he := rfl) (hc := rfl) (rest := []) rfl hl.1 rfl (Nat.le_of_ble_eq_true rfl) ⟨rfl, rfl⟩ ⟨Nat.le_of_ble_eq_true rfl, Nat.le_of_ble_eq_true rfl⟩ ⟨Nat.zero_le _, Nat.zero_le _⟩ dX3_takeNumber_1 (st1 := [.int r1_]) rfl ?_
  refine lv_istore_n (lv' := [(3, .int r1_), (0, .ref a_this), (1, .int x1), (2, .int x2)]) hx hb dX3_takeNumber_4 rfl hl (by decide) rfl (fun ls hl => ?_)
  refine lv_aload_n hx hb dX3_takeNumber_5 rfl (lv_at hl 1 rfl) ?_
  refine z_get (C := RX3) (T := TX3) (N := 5) (ci := 2) F zu_wsX30 hP 0 rfl rfl 4 (by decide) zw_170 rfl dX3_takeNumber_6 ?_
  refine lv_sipush (v := (-1000)) hx hb dX3_takeNumber_9 (by decide) ?_
  have j25_ : ∀ (z2_ : Int32) (z3_ : Int32), f_X3_takeNumber_J25 N v_failedAt z2_ z3_ = some r → ∀ (H : Heap) (locs : List Loc) (ls : Array Slot), va_P (zD g) vwCl [zo_X3 a_this a_text a_draft z2_ z3_ v_failedAt, zo_X7 a_text a_text_bytes v_text_length, (a_text_bytes, .inl (zY g, 600, .inl v_text_bytes))] H → va_D A [zo_X3 a_this a_text a_draft z2_ z3_ v_failedAt, zo_X7 a_text a_text_bytes v_text_length, (a_text_bytes, .inl (zY g, 600, .inl v_text_bytes))] → va_S A s.heap H locs → lv_has ls 4 [(0, .ref a_this)] → W p l e rm_X3_takeNumber s m (([.ref a_this, .int x1, .int x2] : List Value)).toArray below meth c H locs 0 0 Q (F0 m 25 ls []) := by
    intro z2_ z3_ h H locs ls hP hD hS hl
    unfold f_X3_takeNumber_J25 at h
    refine lv_aload_n hx hb dX3_takeNumber_25 rfl (lv_at hl 0 rfl) ?_
    obtain ⟨r4_, hr4_, h⟩ := z_bind h
    refine zVV F (k_X3_fail l N g a_this a_text a_draft z3_ v_failedAt z2_ _ hr4_) zy_X3_fail zw_183 hP hD hS [0] [1, 2] [2, 0, 1] (wr := [zo_X7 a_text a_text_bytes v_text_length, (a_text_bytes, .inl (zY g, 600, .inl v_text_bytes))]) (W1 := [zo_X3 a_this a_text a_draft z2_ z3_ r4_, zo_X7 a_text a_text_bytes v_text_length, (a_text_bytes, .inl (zY g, 600, .inl v_text_bytes))]) rfl rfl rfl rfl (by decide) rfl rfl (q0 := 0) (he := rfl) (hc := rfl) (rest := []) rfl hl.1 rfl (Nat.le_of_ble_eq_true rfl) ⟨rfl, rfl⟩ ⟨Nat.le_of_ble_eq_true rfl, Nat.le_of_ble_eq_true rfl⟩ ⟨Nat.zero_le _, Nat.zero_le _⟩ dX3_takeNumber_26 (st1 := []) rfl (fun H locs hP hD hS => ?_)
    refine lv_iconst (v := 0) hx hb dX3_takeNumber_29 (by decide) ?_
    obtain rfl := Option.some.inj h
    exact zV_i F hr hlocks hQ hP hD hS dX3_takeNumber_30
  refine z_cne (tgt := 25) hx hb dX3_takeNumber_12 (by decide) h (fun h => ?_) (fun h => ?_)
  · exact j25_ v_from v_to h _ _ _ hP hD hS (lv_sub hl [1] rfl)
  · refine lv_iload_n hx hb dX3_takeNumber_15 rfl (lv_at hl 0 rfl) ?_
    refine lv_iload_n hx hb dX3_takeNumber_16 rfl (lv_at hl 2 rfl) ?_
    refine z_clt (tgt := 25) hx hb dX3_takeNumber_17 (by decide) h (fun h => ?_) (fun h => ?_)
    · exact j25_ v_from v_to h _ _ _ hP hD hS (lv_sub hl [1] rfl)
    · refine lv_iload_n hx hb dX3_takeNumber_20 rfl (lv_at hl 0 rfl) ?_
      refine lv_iload_n hx hb dX3_takeNumber_21 rfl (lv_at hl 3 rfl) ?_
      refine z_cle (tgt := 31) hx hb dX3_takeNumber_22 (by decide) h (fun h => ?_) (fun h => ?_)
      · refine lv_aload_n hx hb dX3_takeNumber_31 rfl (lv_at hl 1 rfl) ?_
        obtain ⟨r5_, hr5_, h⟩ := z_bind h
        refine zVV F (k_X3_advance l N g a_this a_text a_draft a_text_bytes v_failedAt v_from v_to v_text_length v_text_bytes _ hr5_) zy_X3_advance zw_175 hP hD hS [0, 1, 2] [] [0, 1, 2] (wr := []) (W1 := [zo_X3 a_this a_text a_draft r5_.1 r5_.2 v_failedAt, zo_X7 a_text a_text_bytes v_text_length, (a_text_bytes, .inl (zY g, 600, .inl v_text_bytes))]) rfl rfl rfl rfl (by decide) rfl rfl (q0 := 0) (he := rfl) (hc := rfl) (rest := []) rfl hl.1 rfl (Nat.le_of_ble_eq_true rfl) ⟨rfl, rfl⟩ ⟨Nat.le_of_ble_eq_true rfl, Nat.le_of_ble_eq_true rfl⟩ ⟨Nat.zero_le _, Nat.zero_le _⟩ dX3_takeNumber_32 (st1 := []) rfl (fun H locs hP hD hS => ?_)
        refine lv_iload_n hx hb dX3_takeNumber_35 rfl (lv_at hl 0 rfl) ?_
        obtain rfl := Option.some.inj h
        exact zV_i F hr hlocks hQ hP hD hS dX3_takeNumber_36
      · exact j25_ v_from v_to h _ _ _ hP hD hS (lv_sub hl [1] rfl)
def f_X3_readKey (N : Nat) (v_failedAt : Int32) (v_from : Int32) (v_to : Int32) (v_text_length : Int32) (v_text_bytes : Nat → Int32) : Option (Int32 × Int32 × Int32 × Int32) :=
  Option.bind (f_X3_takeWord N v_failedAt v_from v_to v_text_length v_text_bytes 4) (fun (r1_ : Int32 × Int32 × Int32) => if r1_.1 = 0 then Option.bind (f_X3_takeNumber N v_failedAt r1_.2.1 r1_.2.2 v_text_length v_text_bytes 1 7) (fun (r2_ : Int32 × Int32 × Int32 × Int32) => Option.bind (f_X3_takeWord N r2_.2.1 r2_.2.2.1 r2_.2.2.2 v_text_length v_text_bytes 5) (fun (r3_ : Int32 × Int32 × Int32) => if r3_.1 = 0 then Option.bind (f_X3_needWord N r2_.2.1 r3_.2.1 r3_.2.2 v_text_length v_text_bytes 6) (fun (r4_ : Int32 × Int32 × Int32) => some ((-r2_.1), r4_.1, r4_.2.1, r4_.2.2)) else some (r2_.1, r2_.2.1, r3_.2.1, r3_.2.2))) else some (0, v_failedAt, r1_.2.1, r1_.2.2))
abbrev rm_X3_readKey : Room := { frames := 9, cells := 0, slots := 0, locals := 265 }
theorem zy_X3_readKey : zYv yX3_readKey RX3 cX3_readKey 2 (some .int) 0 := ⟨zw_205, zw_206, zw_174, zw_198, ⟨by decide, by decide⟩, by decide +kernel⟩
set_option maxHeartbeats 4000000 in
set_option maxRecDepth 100000 in
theorem k_X3_readKey (l : Launch) (N : Nat) (g : zEnv) (a_this a_text a_draft a_text_bytes : Nat) (v_failedAt : Int32) (v_from : Int32) (v_to : Int32) (v_text_length : Int32) (v_text_bytes : Nat → Int32) (r : Int32 × Int32 × Int32 × Int32) (h : f_X3_readKey N v_failedAt v_from v_to v_text_length v_text_bytes = some r) : ZV l yX3_readKey cX3_readKey 2 (some .int) rm_X3_readKey g [.ref a_this] [zo_X3 a_this a_text a_draft v_from v_to v_failedAt, zo_X7 a_text a_text_bytes v_text_length, (a_text_bytes, .inl (zY g, 600, .inl v_text_bytes))] [zo_X3 a_this a_text a_draft r.2.2.1 r.2.2.2 r.2.1, zo_X7 a_text a_text_bytes v_text_length, (a_text_bytes, .inl (zY g, 600, .inl v_text_bytes))] (some (.int r.1)) := by
  refine zV_of (by decide) (Nat.le_of_ble_eq_true rfl) ?_
  intro p e s m below meth c A H locs ls Q R F hRm hr hlocks hP hD hS hl hQ
  subst hRm
  have F : zF p m c cX3_readKey 2 s (([.ref a_this] : List Value)).toArray RX3 g A := F
  have hx := F.1.1
  have hb := F.1.2.1
  have hz := F.1.2.2.2.2
  have hl : lv_has ls 2 [(0, .ref a_this)] := hl
  unfold f_X3_readKey at h
  refine lv_aload_n hx hb dX3_readKey_0 rfl (lv_at hl 0 rfl) ?_
  refine va_ldcS hx hb F.1.2.2.2.1 (F.2.2.1.2.1 _ zst_X3_89) dX3_readKey_1 ?_
  obtain ⟨r1_, hr1_, h⟩ := z_bind h
  refine zVV F (k_X3_takeWord l N g a_this a_text a_draft a_text_bytes v_failedAt v_from v_to v_text_length v_text_bytes 4 _ hr1_) zy_X3_takeWord zw_180 hP hD hS [0, 1, 2] [] [0, 1, 2] (wr := []) (W1 := [zo_X3 a_this a_text a_draft r1_.2.1 r1_.2.2 v_failedAt, zo_X7 a_text a_text_bytes v_text_length, (a_text_bytes, .inl (zY g, 600, .inl v_text_bytes))]) rfl rfl rfl rfl (by decide) rfl rfl (q0 := 0) (he := rfl) (hc := rfl) (rest := []) rfl hl.1 rfl (Nat.le_of_ble_eq_true rfl) ⟨rfl, rfl⟩ ⟨Nat.le_of_ble_eq_true rfl, Nat.le_of_ble_eq_true rfl⟩ ⟨Nat.zero_le _, Nat.zero_le _⟩ dX3_readKey_3 (st1 := [.int r1_.1]) rfl (fun H locs hP hD hS => ?_)
  refine z_eq (tgt := 11) hx hb dX3_readKey_6 (by decide) h (fun h => ?_) (fun h => ?_)
  · refine lv_aload_n hx hb dX3_readKey_11 rfl (lv_at hl 0 rfl) ?_
    refine lv_iconst (v := 1) hx hb dX3_readKey_12 (by decide) ?_
    refine lv_bipush (v := 7) hx hb dX3_readKey_13 (by decide) ?_
    obtain ⟨r2_, hr2_, h⟩ := z_bind h
    refine zVV F (k_X3_takeNumber l N g a_this a_text a_draft a_text_bytes v_failedAt r1_.2.1 r1_.2.2 v_text_length v_text_bytes 1 7 _ hr2_) zy_X3_takeNumber zw_192 hP hD hS [0, 1, 2] [] [0, 1, 2] (wr := []) (W1 := [zo_X3 a_this a_text a_draft r2_.2.2.1 r2_.2.2.2 r2_.2.1, zo_X7 a_text a_text_bytes v_text_length, (a_text_bytes, .inl (zY g, 600, .inl v_text_bytes))]) rfl rfl rfl rfl (by decide) rfl rfl (q0 := 0) (he := rfl) (hc := rfl) (rest := []) rfl hl.1 rfl (Nat.le_of_ble_eq_true rfl) ⟨rfl, rfl⟩ ⟨Nat.le_of_ble_eq_true rfl, Nat.le_of_ble_eq_true rfl⟩ ⟨Nat.zero_le _, Nat.zero_le _⟩ dX3_readKey_15 (st1 := [.int r2_.1]) rfl (fun H locs hP hD hS => ?_)
    refine lv_istore_n (lv' := [(1, .int r2_.1), (0, .ref a_this)]) hx hb dX3_readKey_18 rfl hl (by decide) rfl (fun ls hl => ?_)
    refine lv_aload_n hx hb dX3_readKey_19 rfl (lv_at hl 1 rfl) ?_
    refine va_ldcS hx hb F.1.2.2.2.1 (F.2.2.1.2.1 _ zst_X3_91) dX3_readKey_20 ?_
    obtain ⟨r3_, hr3_, h⟩ := z_bind h
    refine zVV F (k_X3_takeWord l N g a_this a_text a_draft a_text_bytes r2_.2.1 r2_.2.2.1 r2_.2.2.2 v_text_length v_text_bytes 5 _ hr3_) zy_X3_takeWord zw_180 hP hD hS [0, 1, 2] [] [0, 1, 2] (wr := []) (W1 := [zo_X3 a_this a_text a_draft r3_.2.1 r3_.2.2 r2_.2.1, zo_X7 a_text a_text_bytes v_text_length, (a_text_bytes, .inl (zY g, 600, .inl v_text_bytes))]) rfl rfl rfl rfl (by decide) rfl rfl (q0 := 0) (he := rfl) (hc := rfl) (rest := []) rfl hl.1 rfl (Nat.le_of_ble_eq_true rfl) ⟨rfl, rfl⟩ ⟨Nat.le_of_ble_eq_true rfl, Nat.le_of_ble_eq_true rfl⟩ ⟨Nat.zero_le _, Nat.zero_le _⟩ dX3_readKey_22 (st1 := [.int r3_.1]) rfl (fun H locs hP hD hS => ?_)
    refine z_eq (tgt := 30) hx hb dX3_readKey_25 (by decide) h (fun h => ?_) (fun h => ?_)
    · refine lv_aload_n hx hb dX3_readKey_30 rfl (lv_at hl 1 rfl) ?_
      refine va_ldcS hx hb F.1.2.2.2.1 (F.2.2.1.2.1 _ zst_X3_93) dX3_readKey_31 ?_
      obtain ⟨r4_, hr4_, h⟩ := z_bind h
      refine zVV F (k_X3_needWord l N g a_this a_text a_draft a_text_bytes r2_.2.1 r3_.2.1 r3_.2.2 v_text_length v_text_bytes 6 _ hr4_) zy_X3_needWord zw_195 hP hD hS [0, 1, 2] [] [0, 1, 2] (wr := []) (W1 := [zo_X3 a_this a_text a_draft r4_.2.1 r4_.2.2 r4_.1, zo_X7 a_text a_text_bytes v_text_length, (a_text_bytes, .inl (zY g, 600, .inl v_text_bytes))]) rfl rfl rfl rfl (by decide) rfl rfl (q0 := 0) (he := rfl) (hc := rfl) (rest := []) rfl hl.1 rfl (Nat.le_of_ble_eq_true rfl) ⟨rfl, rfl⟩ ⟨Nat.le_of_ble_eq_true rfl, Nat.le_of_ble_eq_true rfl⟩ ⟨Nat.zero_le _, Nat.zero_le _⟩ dX3_readKey_33 (st1 := []) rfl (fun H locs hP hD hS => ?_)
      refine lv_iload_n hx hb dX3_readKey_36 rfl (lv_at hl 0 rfl) ?_
      refine lv_ineg hx hb dX3_readKey_37 ?_
      obtain rfl := Option.some.inj h
      exact zV_i F hr hlocks hQ hP hD hS dX3_readKey_38
    · refine lv_iload_n hx hb dX3_readKey_28 rfl (lv_at hl 0 rfl) ?_
      obtain rfl := Option.some.inj h
      exact zV_i F hr hlocks hQ hP hD hS dX3_readKey_29
  · refine lv_iconst (v := 0) hx hb dX3_readKey_9 (by decide) ?_
    obtain rfl := Option.some.inj h
    exact zV_i F hr hlocks hQ hP hD hS dX3_readKey_10
def f_X3_readLower (N : Nat) (v_failedAt : Int32) (v_from : Int32) (v_to : Int32) (v_text_length : Int32) (v_text_bytes : Nat → Int32) : Option (Int32 × Int32 × Int32 × Int32) :=
  Option.bind (f_X3_number N v_from v_to v_text_length v_text_bytes) (fun (r1_ : Int32) => Option.bind (f_X4_canHold N 2 r1_) (fun (r2_ : Int32) => Option.bind (if r2_ = 0 then Option.bind (f_X3_fail N v_failedAt v_from) (fun (r5_ : Int32) => some r5_) else some v_failedAt) (fun (r3_ : Int32) => Option.bind (f_X3_takeNumber N r3_ v_from v_to v_text_length v_text_bytes 2 16) (fun (r4_ : Int32 × Int32 × Int32 × Int32) => some (r4_.1, r4_.2.1, r4_.2.2.1, r4_.2.2.2)))))
abbrev rm_X3_readLower : Room := { frames := 3, cells := 0, slots := 0, locals := 67 }
theorem zy_X3_readLower : zYv yX3_readLower RX3 cX3_readLower 1 (some .int) 0 := ⟨zw_208, zw_209, zw_174, zw_202, ⟨by decide, by decide⟩, by decide +kernel⟩
set_option maxHeartbeats 4000000 in
set_option maxRecDepth 100000 in
theorem k_X3_readLower (l : Launch) (N : Nat) (g : zEnv) (a_this a_text a_draft a_text_bytes : Nat) (v_failedAt : Int32) (v_from : Int32) (v_to : Int32) (v_text_length : Int32) (v_text_bytes : Nat → Int32) (r : Int32 × Int32 × Int32 × Int32) (h : f_X3_readLower N v_failedAt v_from v_to v_text_length v_text_bytes = some r) : ZV l yX3_readLower cX3_readLower 1 (some .int) rm_X3_readLower g [.ref a_this] [zo_X3 a_this a_text a_draft v_from v_to v_failedAt, zo_X7 a_text a_text_bytes v_text_length, (a_text_bytes, .inl (zY g, 600, .inl v_text_bytes))] [zo_X3 a_this a_text a_draft r.2.2.1 r.2.2.2 r.2.1, zo_X7 a_text a_text_bytes v_text_length, (a_text_bytes, .inl (zY g, 600, .inl v_text_bytes))] (some (.int r.1)) := by
  refine zV_of (by decide) (Nat.le_of_ble_eq_true rfl) ?_
  intro p e s m below meth c A H locs ls Q R F hRm hr hlocks hP hD hS hl hQ
  subst hRm
  have F : zF p m c cX3_readLower 1 s (([.ref a_this] : List Value)).toArray RX3 g A := F
  have hx := F.1.1
  have hb := F.1.2.1
  have hz := F.1.2.2.2.2
  have hl : lv_has ls 1 [(0, .ref a_this)] := hl
  unfold f_X3_readLower at h
  refine lv_iconst (v := 2) hx hb dX3_readLower_0 (by decide) ?_
  refine lv_aload_n hx hb dX3_readLower_1 rfl (lv_at hl 0 rfl) ?_
  obtain ⟨r1_, hr1_, h⟩ := z_bind h
  refine zRV F (k_X3_number l N g a_this a_text a_draft a_text_bytes v_failedAt v_from v_to v_text_length v_text_bytes _ hr1_) zy_X3_number zw_188 hP hD hS [0, 1, 2] rfl rfl (q0 := 0) (he := rfl) (hc := rfl) (rest := [.int 2]) rfl hl.1 rfl (Nat.le_of_ble_eq_true rfl) ⟨rfl, rfl⟩ ⟨Nat.le_of_ble_eq_true rfl, Nat.le_of_ble_eq_true rfl⟩ ⟨Nat.zero_le _, Nat.zero_le _⟩ dX3_readLower_2 (st1 := [.int r1_, .int 2]) rfl ?_
  obtain ⟨r2_, hr2_, h⟩ := z_bind h
  refine zRS F (k_X4_canHold l N g 2 r1_ _ hr2_) zy_X4_canHold zw_200 hP hD hS [] rfl rfl (rest := []) rfl hl.1 rfl (Nat.le_of_ble_eq_true rfl) ⟨rfl, rfl⟩ ⟨Nat.le_of_ble_eq_true rfl, Nat.le_of_ble_eq_true rfl⟩ ⟨Nat.zero_le _, Nat.zero_le _⟩ dX3_readLower_5 (st1 := [.int r2_]) rfl ?_
  obtain ⟨r3_, hA15_, h⟩ := z_bind h
  have k15_ : ∀ (H : Heap) (locs : List Loc) (ls : Array Slot), va_P (zD g) vwCl [zo_X3 a_this a_text a_draft v_from v_to r3_, zo_X7 a_text a_text_bytes v_text_length, (a_text_bytes, .inl (zY g, 600, .inl v_text_bytes))] H → va_D A [zo_X3 a_this a_text a_draft v_from v_to r3_, zo_X7 a_text a_text_bytes v_text_length, (a_text_bytes, .inl (zY g, 600, .inl v_text_bytes))] → va_S A s.heap H locs → lv_has ls 1 [(0, .ref a_this)] → W p l e rm_X3_readLower s m (([.ref a_this] : List Value)).toArray below meth c H locs 0 0 Q (F0 m 15 ls []) := by
    intro H locs ls hP hD hS hl
    refine lv_aload_n hx hb dX3_readLower_15 rfl (lv_at hl 0 rfl) ?_
    refine lv_iconst (v := 2) hx hb dX3_readLower_16 (by decide) ?_
    refine lv_bipush (v := 16) hx hb dX3_readLower_17 (by decide) ?_
    obtain ⟨r4_, hr4_, h⟩ := z_bind h
    refine zVV F (k_X3_takeNumber l N g a_this a_text a_draft a_text_bytes r3_ v_from v_to v_text_length v_text_bytes 2 16 _ hr4_) zy_X3_takeNumber zw_192 hP hD hS [0, 1, 2] [] [0, 1, 2] (wr := []) (W1 := [zo_X3 a_this a_text a_draft r4_.2.2.1 r4_.2.2.2 r4_.2.1, zo_X7 a_text a_text_bytes v_text_length, (a_text_bytes, .inl (zY g, 600, .inl v_text_bytes))]) rfl rfl rfl rfl (by decide) rfl rfl (q0 := 0) (he := rfl) (hc := rfl) (rest := []) rfl hl.1 rfl (Nat.le_of_ble_eq_true rfl) ⟨rfl, rfl⟩ ⟨Nat.le_of_ble_eq_true rfl, Nat.le_of_ble_eq_true rfl⟩ ⟨Nat.zero_le _, Nat.zero_le _⟩ dX3_readLower_19 (st1 := [.int r4_.1]) rfl (fun H locs hP hD hS => ?_)
    obtain rfl := Option.some.inj h
    exact zV_i F hr hlocks hQ hP hD hS dX3_readLower_22
  have h := hA15_
  refine z_ne (tgt := 15) hx hb dX3_readLower_8 (by decide) h (fun h => ?_) (fun h => ?_)
  · obtain rfl := Option.some.inj h
    exact k15_ _ _ _ hP hD hS (lv_sub hl [0] rfl)
  · refine lv_aload_n hx hb dX3_readLower_11 rfl (lv_at hl 0 rfl) ?_
    obtain ⟨r5_, hr5_, h⟩ := z_bind h
    refine zVV F (k_X3_fail l N g a_this a_text a_draft v_to v_failedAt v_from _ hr5_) zy_X3_fail zw_183 hP hD hS [0] [1, 2] [2, 0, 1] (wr := [zo_X7 a_text a_text_bytes v_text_length, (a_text_bytes, .inl (zY g, 600, .inl v_text_bytes))]) (W1 := [zo_X3 a_this a_text a_draft v_from v_to r5_, zo_X7 a_text a_text_bytes v_text_length, (a_text_bytes, .inl (zY g, 600, .inl v_text_bytes))]) rfl rfl rfl rfl (by decide) rfl rfl (q0 := 0) (he := rfl) (hc := rfl) (rest := []) rfl hl.1 rfl (Nat.le_of_ble_eq_true rfl) ⟨rfl, rfl⟩ ⟨Nat.le_of_ble_eq_true rfl, Nat.le_of_ble_eq_true rfl⟩ ⟨Nat.zero_le _, Nat.zero_le _⟩ dX3_readLower_12 (st1 := []) rfl (fun H locs hP hD hS => ?_)
    obtain rfl := Option.some.inj h
    exact k15_ _ _ _ hP hD hS (lv_sub hl [0] rfl)
def f_X3_readHead (N : Nat) (v_failedAt : Int32) (v_from : Int32) (v_to : Int32) (v_draft_size : Int32) (v_text_length : Int32) (v_draft_cells : Nat → Int32) (v_text_bytes : Nat → Int32) : Option (Int32 × Int32 × Int32 × (Nat → Int32)) :=
  Option.bind (f_X3_needWord N v_failedAt v_from v_to v_text_length v_text_bytes 0) (fun (r1_ : Int32 × Int32 × Int32) => Option.bind (f_X3_takeNumber N r1_.1 r1_.2.1 r1_.2.2 v_text_length v_text_bytes 0 999) (fun (r2_ : Int32 × Int32 × Int32 × Int32) => Option.bind (f_X3_takeWord N r2_.2.1 r2_.2.2.1 r2_.2.2.2 v_text_length v_text_bytes 1) (fun (r3_ : Int32 × Int32 × Int32) => Option.bind (if r3_.1 = 0 then some 0 else some 1) (fun (r4_ : Int32) => Option.bind (f_X4_putValue N v_draft_size v_draft_cells 0 4 r4_) (fun (r5_ : (Nat → Int32)) => Option.bind (f_X3_takeWord N r2_.2.1 r3_.2.1 r3_.2.2 v_text_length v_text_bytes 2) (fun (r6_ : Int32 × Int32 × Int32) => Option.bind (if r6_.1 = 0 then some (r2_.2.1, r6_.2.1, r6_.2.2, r5_) else Option.bind (f_X3_takeNumber N r2_.2.1 r6_.2.1 r6_.2.2 v_text_length v_text_bytes 1 4) (fun (r17_ : Int32 × Int32 × Int32 × Int32) => Option.bind (f_X4_putValue N v_draft_size r5_ 0 6 r17_.1) (fun (r18_ : (Nat → Int32)) => some (r17_.2.1, r17_.2.2.1, r17_.2.2.2, r18_)))) (fun (r7_ : Int32 × Int32 × Int32 × (Nat → Int32)) => Option.bind (f_X3_takeWord N r7_.1 r7_.2.1 r7_.2.2.1 v_text_length v_text_bytes 3) (fun (r8_ : Int32 × Int32 × Int32) => Option.bind (if r8_.1 = 0 then some (r7_.1, r8_.2.1, r8_.2.2, r7_.2.2.2) else Option.bind (f_X3_readKey N r7_.1 r8_.2.1 r8_.2.2 v_text_length v_text_bytes) (fun (r15_ : Int32 × Int32 × Int32 × Int32) => Option.bind (f_X4_putValue N v_draft_size r7_.2.2.2 0 0 r15_.1) (fun (r16_ : (Nat → Int32)) => some (r15_.2.1, r15_.2.2.1, r15_.2.2.2, r16_)))) (fun (r9_ : Int32 × Int32 × Int32 × (Nat → Int32)) => Option.bind (f_X3_takeWord N r9_.1 r9_.2.1 r9_.2.2.1 v_text_length v_text_bytes 8) (fun (r10_ : Int32 × Int32 × Int32) => if r10_.1 = 0 then some (r9_.1, r10_.2.1, r10_.2.2, r9_.2.2.2) else Option.bind (f_X3_takeNumber N r9_.1 r10_.2.1 r10_.2.2 v_text_length v_text_bytes 1 12) (fun (r11_ : Int32 × Int32 × Int32 × Int32) => Option.bind (f_X4_putValue N v_draft_size r9_.2.2.2 0 1 r11_.1) (fun (r12_ : (Nat → Int32)) => Option.bind (f_X3_readLower N r11_.2.1 r11_.2.2.1 r11_.2.2.2 v_text_length v_text_bytes) (fun (r13_ : Int32 × Int32 × Int32 × Int32) => Option.bind (f_X4_putValue N v_draft_size r12_ 0 2 r13_.1) (fun (r14_ : (Nat → Int32)) => some (r13_.2.1, r13_.2.2.1, r13_.2.2.2, r14_)))))))))))))))
abbrev rm_X3_readHead : Room := { frames := 10, cells := 0, slots := 0, locals := 286 }
theorem zy_X3_readHead : zYv yX3_readHead RX3 cX3_readHead 1 none 0 := ⟨zw_277, zw_278, zw_174, zw_210, ⟨by decide, by decide⟩, by decide +kernel⟩
set_option maxHeartbeats 4000000 in
set_option maxRecDepth 100000 in
theorem k_X3_readHead (l : Launch) (N : Nat) (g : zEnv) (a_this a_text a_draft a_draft_cells a_text_bytes : Nat) (v_failedAt : Int32) (v_from : Int32) (v_to : Int32) (v_draft_size : Int32) (v_text_length : Int32) (v_draft_cells : Nat → Int32) (v_text_bytes : Nat → Int32) (r : Int32 × Int32 × Int32 × (Nat → Int32)) (h : f_X3_readHead N v_failedAt v_from v_to v_draft_size v_text_length v_draft_cells v_text_bytes = some r) : ZV l yX3_readHead cX3_readHead 1 none rm_X3_readHead g [.ref a_this] [zo_X3 a_this a_text a_draft v_from v_to v_failedAt, zo_X4 a_draft a_draft_cells v_draft_size, zo_X7 a_text a_text_bytes v_text_length, (a_draft_cells, .inl (zI g, 912, .inl v_draft_cells)), (a_text_bytes, .inl (zY g, 600, .inl v_text_bytes))] [zo_X3 a_this a_text a_draft r.2.1 r.2.2.1 r.1, zo_X4 a_draft a_draft_cells v_draft_size, zo_X7 a_text a_text_bytes v_text_length, (a_draft_cells, .inl (zI g, 912, .inl r.2.2.2)), (a_text_bytes, .inl (zY g, 600, .inl v_text_bytes))] none := by
  refine zV_of (by decide) (Nat.le_of_ble_eq_true rfl) ?_
  intro p e s m below meth c A H locs ls Q R F hRm hr hlocks hP hD hS hl hQ
  subst hRm
  have F : zF p m c cX3_readHead 1 s (([.ref a_this] : List Value)).toArray RX3 g A := F
  have hx := F.1.1
  have hb := F.1.2.1
  have hz := F.1.2.2.2.2
  have hl : lv_has ls 1 [(0, .ref a_this)] := hl
  unfold f_X3_readHead at h
  refine lv_aload_n hx hb dX3_readHead_0 rfl (lv_at hl 0 rfl) ?_
  refine va_ldcS hx hb F.1.2.2.2.1 (F.2.2.1.2.1 _ zst_X3_72) dX3_readHead_1 ?_
  obtain ⟨r1_, hr1_, h⟩ := z_bind h
  refine zVV F (k_X3_needWord l N g a_this a_text a_draft a_text_bytes v_failedAt v_from v_to v_text_length v_text_bytes 0 _ hr1_) zy_X3_needWord zw_195 hP hD hS [0, 2, 4] [1, 3] [2, 0, 3, 1, 4] (wr := [zo_X4 a_draft a_draft_cells v_draft_size, (a_draft_cells, .inl (zI g, 912, .inl v_draft_cells))]) (W1 := [zo_X3 a_this a_text a_draft r1_.2.1 r1_.2.2 r1_.1, zo_X4 a_draft a_draft_cells v_draft_size, zo_X7 a_text a_text_bytes v_text_length, (a_draft_cells, .inl (zI g, 912, .inl v_draft_cells)), (a_text_bytes, .inl (zY g, 600, .inl v_text_bytes))]) rfl rfl rfl rfl (by decide) rfl rfl (q0 := 0) (he := rfl) (hc := rfl) (rest := []) rfl hl.1 rfl (Nat.le_of_ble_eq_true rfl) ⟨rfl, rfl⟩ ⟨Nat.le_of_ble_eq_true rfl, Nat.le_of_ble_eq_true rfl⟩ ⟨Nat.zero_le _, Nat.zero_le _⟩ dX3_readHead_3 (st1 := []) rfl (fun H locs hP hD hS => ?_)
  refine lv_aload_n hx hb dX3_readHead_6 rfl (lv_at hl 0 rfl) ?_
  refine lv_iconst (v := 0) hx hb dX3_readHead_7 (by decide) ?_
  refine lv_sipush (v := 999) hx hb dX3_readHead_8 (by decide) ?_
  obtain ⟨r2_, hr2_, h⟩ := z_bind h
  refine zVV F (k_X3_takeNumber l N g a_this a_text a_draft a_text_bytes r1_.1 r1_.2.1 r1_.2.2 v_text_length v_text_bytes 0 999 _ hr2_) zy_X3_takeNumber zw_192 hP hD hS [0, 2, 4] [1, 3] [2, 0, 3, 1, 4] (wr := [zo_X4 a_draft a_draft_cells v_draft_size, (a_draft_cells, .inl (zI g, 912, .inl v_draft_cells))]) (W1 := [zo_X3 a_this a_text a_draft r2_.2.2.1 r2_.2.2.2 r2_.2.1, zo_X4 a_draft a_draft_cells v_draft_size, zo_X7 a_text a_text_bytes v_text_length, (a_draft_cells, .inl (zI g, 912, .inl v_draft_cells)), (a_text_bytes, .inl (zY g, 600, .inl v_text_bytes))]) rfl rfl rfl rfl (by decide) rfl rfl (q0 := 0) (he := rfl) (hc := rfl) (rest := []) rfl hl.1 rfl (Nat.le_of_ble_eq_true rfl) ⟨rfl, rfl⟩ ⟨Nat.le_of_ble_eq_true rfl, Nat.le_of_ble_eq_true rfl⟩ ⟨Nat.zero_le _, Nat.zero_le _⟩ dX3_readHead_11 (st1 := [.int r2_.1]) rfl (fun H locs hP hD hS => ?_)
  refine lv_pop hx hb dX3_readHead_14 rfl ?_
  refine lv_aload_n hx hb dX3_readHead_15 rfl (lv_at hl 0 rfl) ?_
  refine z_get (C := RX3) (T := TX3) (N := 5) (ci := 2) F zu_wsX30 hP 0 rfl rfl 1 (by decide) zw_99 rfl dX3_readHead_16 ?_
  refine lv_iconst (v := 0) hx hb dX3_readHead_19 (by decide) ?_
  refine lv_iconst (v := 4) hx hb dX3_readHead_20 (by decide) ?_
  refine lv_aload_n hx hb dX3_readHead_21 rfl (lv_at hl 0 rfl) ?_
  refine va_ldcS hx hb F.1.2.2.2.1 (F.2.2.1.2.1 _ zst_X3_74) dX3_readHead_22 ?_
  obtain ⟨r3_, hr3_, h⟩ := z_bind h
  refine zVV F (k_X3_takeWord l N g a_this a_text a_draft a_text_bytes r2_.2.1 r2_.2.2.1 r2_.2.2.2 v_text_length v_text_bytes 1 _ hr3_) zy_X3_takeWord zw_180 hP hD hS [0, 2, 4] [1, 3] [2, 0, 3, 1, 4] (wr := [zo_X4 a_draft a_draft_cells v_draft_size, (a_draft_cells, .inl (zI g, 912, .inl v_draft_cells))]) (W1 := [zo_X3 a_this a_text a_draft r3_.2.1 r3_.2.2 r2_.2.1, zo_X4 a_draft a_draft_cells v_draft_size, zo_X7 a_text a_text_bytes v_text_length, (a_draft_cells, .inl (zI g, 912, .inl v_draft_cells)), (a_text_bytes, .inl (zY g, 600, .inl v_text_bytes))]) rfl rfl rfl rfl (by decide) rfl rfl (q0 := 0) (he := rfl) (hc := rfl) (rest := [.int 4, .int 0, .ref a_draft]) rfl hl.1 rfl (Nat.le_of_ble_eq_true rfl) ⟨rfl, rfl⟩ ⟨Nat.le_of_ble_eq_true rfl, Nat.le_of_ble_eq_true rfl⟩ ⟨Nat.zero_le _, Nat.zero_le _⟩ dX3_readHead_24 (st1 := [.int r3_.1, .int 4, .int 0, .ref a_draft]) rfl (fun H locs hP hD hS => ?_)
  obtain ⟨r4_, hA35_, h⟩ := z_bind h
  have k35_ : ∀ (H : Heap) (locs : List Loc) (ls : Array Slot), va_P (zD g) vwCl [zo_X3 a_this a_text a_draft r3_.2.1 r3_.2.2 r2_.2.1, zo_X4 a_draft a_draft_cells v_draft_size, zo_X7 a_text a_text_bytes v_text_length, (a_draft_cells, .inl (zI g, 912, .inl v_draft_cells)), (a_text_bytes, .inl (zY g, 600, .inl v_text_bytes))] H → va_D A [zo_X3 a_this a_text a_draft r3_.2.1 r3_.2.2 r2_.2.1, zo_X4 a_draft a_draft_cells v_draft_size, zo_X7 a_text a_text_bytes v_text_length, (a_draft_cells, .inl (zI g, 912, .inl v_draft_cells)), (a_text_bytes, .inl (zY g, 600, .inl v_text_bytes))] → va_S A s.heap H locs → lv_has ls 1 [(0, .ref a_this)] → W p l e rm_X3_readHead s m (([.ref a_this] : List Value)).toArray below meth c H locs 0 0 Q (F0 m 35 ls [.int r4_, .int 4, .int 0, .ref a_draft]) := by
    intro H locs ls hP hD hS hl
    obtain ⟨r5_, hr5_, h⟩ := z_bind h
    refine zVV F (k_X4_putValue l N g a_draft a_draft_cells v_draft_size v_draft_cells 0 4 r4_ _ hr5_) zy_X4_putValue zw_203 hP hD hS [1, 3] [0, 2, 4] [0, 3, 1, 4, 2] (wr := [zo_X3 a_this a_text a_draft r3_.2.1 r3_.2.2 r2_.2.1, zo_X7 a_text a_text_bytes v_text_length, (a_text_bytes, .inl (zY g, 600, .inl v_text_bytes))]) (W1 := [zo_X3 a_this a_text a_draft r3_.2.1 r3_.2.2 r2_.2.1, zo_X4 a_draft a_draft_cells v_draft_size, zo_X7 a_text a_text_bytes v_text_length, (a_draft_cells, .inl (zI g, 912, .inl r5_)), (a_text_bytes, .inl (zY g, 600, .inl v_text_bytes))]) rfl rfl rfl rfl (by decide) rfl rfl (q0 := 1) (he := rfl) (hc := rfl) (rest := []) rfl hl.1 rfl (Nat.le_of_ble_eq_true rfl) ⟨rfl, rfl⟩ ⟨Nat.le_of_ble_eq_true rfl, Nat.le_of_ble_eq_true rfl⟩ ⟨Nat.zero_le _, Nat.zero_le _⟩ dX3_readHead_35 (st1 := []) rfl (fun H locs hP hD hS => ?_)
    refine lv_aload_n hx hb dX3_readHead_38 rfl (lv_at hl 0 rfl) ?_
    refine va_ldcS hx hb F.1.2.2.2.1 (F.2.2.1.2.1 _ zst_X3_76) dX3_readHead_39 ?_
    obtain ⟨r6_, hr6_, h⟩ := z_bind h
    refine zVV F (k_X3_takeWord l N g a_this a_text a_draft a_text_bytes r2_.2.1 r3_.2.1 r3_.2.2 v_text_length v_text_bytes 2 _ hr6_) zy_X3_takeWord zw_180 hP hD hS [0, 2, 4] [1, 3] [2, 0, 3, 1, 4] (wr := [zo_X4 a_draft a_draft_cells v_draft_size, (a_draft_cells, .inl (zI g, 912, .inl r5_))]) (W1 := [zo_X3 a_this a_text a_draft r6_.2.1 r6_.2.2 r2_.2.1, zo_X4 a_draft a_draft_cells v_draft_size, zo_X7 a_text a_text_bytes v_text_length, (a_draft_cells, .inl (zI g, 912, .inl r5_)), (a_text_bytes, .inl (zY g, 600, .inl v_text_bytes))]) rfl rfl rfl rfl (by decide) rfl rfl (q0 := 0) (he := rfl) (hc := rfl) (rest := []) rfl hl.1 rfl (Nat.le_of_ble_eq_true rfl) ⟨rfl, rfl⟩ ⟨Nat.le_of_ble_eq_true rfl, Nat.le_of_ble_eq_true rfl⟩ ⟨Nat.zero_le _, Nat.zero_le _⟩ dX3_readHead_41 (st1 := [.int r6_.1]) rfl (fun H locs hP hD hS => ?_)
    obtain ⟨r7_, hA63_, h⟩ := z_bind h
    have k63_ : ∀ (H : Heap) (locs : List Loc) (ls : Array Slot), va_P (zD g) vwCl [zo_X3 a_this a_text a_draft r7_.2.1 r7_.2.2.1 r7_.1, zo_X4 a_draft a_draft_cells v_draft_size, zo_X7 a_text a_text_bytes v_text_length, (a_draft_cells, .inl (zI g, 912, .inl r7_.2.2.2)), (a_text_bytes, .inl (zY g, 600, .inl v_text_bytes))] H → va_D A [zo_X3 a_this a_text a_draft r7_.2.1 r7_.2.2.1 r7_.1, zo_X4 a_draft a_draft_cells v_draft_size, zo_X7 a_text a_text_bytes v_text_length, (a_draft_cells, .inl (zI g, 912, .inl r7_.2.2.2)), (a_text_bytes, .inl (zY g, 600, .inl v_text_bytes))] → va_S A s.heap H locs → lv_has ls 1 [(0, .ref a_this)] → W p l e rm_X3_readHead s m (([.ref a_this] : List Value)).toArray below meth c H locs 0 0 Q (F0 m 63 ls []) := by
      intro H locs ls hP hD hS hl
      refine lv_aload_n hx hb dX3_readHead_63 rfl (lv_at hl 0 rfl) ?_
      refine va_ldcS hx hb F.1.2.2.2.1 (F.2.2.1.2.1 _ zst_X3_78) dX3_readHead_64 ?_
      obtain ⟨r8_, hr8_, h⟩ := z_bind h
      refine zVV F (k_X3_takeWord l N g a_this a_text a_draft a_text_bytes r7_.1 r7_.2.1 r7_.2.2.1 v_text_length v_text_bytes 3 _ hr8_) zy_X3_takeWord zw_180 hP hD hS [0, 2, 4] [1, 3] [2, 0, 3, 1, 4] (wr := [zo_X4 a_draft a_draft_cells v_draft_size, (a_draft_cells, .inl (zI g, 912, .inl r7_.2.2.2))]) (W1 := [zo_X3 a_this a_text a_draft r8_.2.1 r8_.2.2 r7_.1, zo_X4 a_draft a_draft_cells v_draft_size, zo_X7 a_text a_text_bytes v_text_length, (a_draft_cells, .inl (zI g, 912, .inl r7_.2.2.2)), (a_text_bytes, .inl (zY g, 600, .inl v_text_bytes))]) rfl rfl rfl rfl (by decide) rfl rfl (q0 := 0) (he := rfl) (hc := rfl) (rest := []) rfl hl.1 rfl (Nat.le_of_ble_eq_true rfl) ⟨rfl, rfl⟩ ⟨Nat.le_of_ble_eq_true rfl, Nat.le_of_ble_eq_true rfl⟩ ⟨Nat.zero_le _, Nat.zero_le _⟩ dX3_readHead_66 (st1 := [.int r8_.1]) rfl (fun H locs hP hD hS => ?_)
      obtain ⟨r9_, hA85_, h⟩ := z_bind h
      have k85_ : ∀ (H : Heap) (locs : List Loc) (ls : Array Slot), va_P (zD g) vwCl [zo_X3 a_this a_text a_draft r9_.2.1 r9_.2.2.1 r9_.1, zo_X4 a_draft a_draft_cells v_draft_size, zo_X7 a_text a_text_bytes v_text_length, (a_draft_cells, .inl (zI g, 912, .inl r9_.2.2.2)), (a_text_bytes, .inl (zY g, 600, .inl v_text_bytes))] H → va_D A [zo_X3 a_this a_text a_draft r9_.2.1 r9_.2.2.1 r9_.1, zo_X4 a_draft a_draft_cells v_draft_size, zo_X7 a_text a_text_bytes v_text_length, (a_draft_cells, .inl (zI g, 912, .inl r9_.2.2.2)), (a_text_bytes, .inl (zY g, 600, .inl v_text_bytes))] → va_S A s.heap H locs → lv_has ls 1 [(0, .ref a_this)] → W p l e rm_X3_readHead s m (([.ref a_this] : List Value)).toArray below meth c H locs 0 0 Q (F0 m 85 ls []) := by
        intro H locs ls hP hD hS hl
        refine lv_aload_n hx hb dX3_readHead_85 rfl (lv_at hl 0 rfl) ?_
        refine va_ldcS hx hb F.1.2.2.2.1 (F.2.2.1.2.1 _ zst_X3_84) dX3_readHead_86 ?_
        obtain ⟨r10_, hr10_, h⟩ := z_bind h
        refine zVV F (k_X3_takeWord l N g a_this a_text a_draft a_text_bytes r9_.1 r9_.2.1 r9_.2.2.1 v_text_length v_text_bytes 8 _ hr10_) zy_X3_takeWord zw_180 hP hD hS [0, 2, 4] [1, 3] [2, 0, 3, 1, 4] (wr := [zo_X4 a_draft a_draft_cells v_draft_size, (a_draft_cells, .inl (zI g, 912, .inl r9_.2.2.2))]) (W1 := [zo_X3 a_this a_text a_draft r10_.2.1 r10_.2.2 r9_.1, zo_X4 a_draft a_draft_cells v_draft_size, zo_X7 a_text a_text_bytes v_text_length, (a_draft_cells, .inl (zI g, 912, .inl r9_.2.2.2)), (a_text_bytes, .inl (zY g, 600, .inl v_text_bytes))]) rfl rfl rfl rfl (by decide) rfl rfl (q0 := 0) (he := rfl) (hc := rfl) (rest := []) rfl hl.1 rfl (Nat.le_of_ble_eq_true rfl) ⟨rfl, rfl⟩ ⟨Nat.le_of_ble_eq_true rfl, Nat.le_of_ble_eq_true rfl⟩ ⟨Nat.zero_le _, Nat.zero_le _⟩ dX3_readHead_88 (st1 := [.int r10_.1]) rfl (fun H locs hP hD hS => ?_)
        refine z_eq (tgt := 123) hx hb dX3_readHead_91 (by decide) h (fun h => ?_) (fun h => ?_)
        · obtain rfl := Option.some.inj h
          exact zV_v F hr hlocks hQ hP hD hS dX3_readHead_123
        · refine lv_aload_n hx hb dX3_readHead_94 rfl (lv_at hl 0 rfl) ?_
          refine z_get (C := RX3) (T := TX3) (N := 5) (ci := 2) F zu_wsX30 hP 0 rfl rfl 1 (by decide) zw_99 rfl dX3_readHead_95 ?_
          refine lv_iconst (v := 0) hx hb dX3_readHead_98 (by decide) ?_
          refine lv_iconst (v := 1) hx hb dX3_readHead_99 (by decide) ?_
          refine lv_aload_n hx hb dX3_readHead_100 rfl (lv_at hl 0 rfl) ?_
          refine lv_iconst (v := 1) hx hb dX3_readHead_101 (by decide) ?_
          refine lv_bipush (v := 12) hx hb dX3_readHead_102 (by decide) ?_
          obtain ⟨r11_, hr11_, h⟩ := z_bind h
          refine zVV F (k_X3_takeNumber l N g a_this a_text a_draft a_text_bytes r9_.1 r10_.2.1 r10_.2.2 v_text_length v_text_bytes 1 12 _ hr11_) zy_X3_takeNumber zw_192 hP hD hS [0, 2, 4] [1, 3] [2, 0, 3, 1, 4] (wr := [zo_X4 a_draft a_draft_cells v_draft_size, (a_draft_cells, .inl (zI g, 912, .inl r9_.2.2.2))]) (W1 := [zo_X3 a_this a_text a_draft r11_.2.2.1 r11_.2.2.2 r11_.2.1, zo_X4 a_draft a_draft_cells v_draft_size, zo_X7 a_text a_text_bytes v_text_length, (a_draft_cells, .inl (zI g, 912, .inl r9_.2.2.2)), (a_text_bytes, .inl (zY g, 600, .inl v_text_bytes))]) rfl rfl rfl rfl (by decide) rfl rfl (q0 := 0) (he := rfl) (hc := rfl) (rest := [.int 1, .int 0, .ref a_draft]) rfl hl.1 rfl (Nat.le_of_ble_eq_true rfl) ⟨rfl, rfl⟩ ⟨Nat.le_of_ble_eq_true rfl, Nat.le_of_ble_eq_true rfl⟩ ⟨Nat.zero_le _, Nat.zero_le _⟩ dX3_readHead_104 (st1 := [.int r11_.1, .int 1, .int 0, .ref a_draft]) rfl (fun H locs hP hD hS => ?_)
          obtain ⟨r12_, hr12_, h⟩ := z_bind h
          refine zVV F (k_X4_putValue l N g a_draft a_draft_cells v_draft_size r9_.2.2.2 0 1 r11_.1 _ hr12_) zy_X4_putValue zw_203 hP hD hS [1, 3] [0, 2, 4] [0, 3, 1, 4, 2] (wr := [zo_X3 a_this a_text a_draft r11_.2.2.1 r11_.2.2.2 r11_.2.1, zo_X7 a_text a_text_bytes v_text_length, (a_text_bytes, .inl (zY g, 600, .inl v_text_bytes))]) (W1 := [zo_X3 a_this a_text a_draft r11_.2.2.1 r11_.2.2.2 r11_.2.1, zo_X4 a_draft a_draft_cells v_draft_size, zo_X7 a_text a_text_bytes v_text_length, (a_draft_cells, .inl (zI g, 912, .inl r12_)), (a_text_bytes, .inl (zY g, 600, .inl v_text_bytes))]) rfl rfl rfl rfl (by decide) rfl rfl (q0 := 1) (he := rfl) (hc := rfl) (rest := []) rfl hl.1 rfl (Nat.le_of_ble_eq_true rfl) ⟨rfl, rfl⟩ ⟨Nat.le_of_ble_eq_true rfl, Nat.le_of_ble_eq_true rfl⟩ ⟨Nat.zero_le _, Nat.zero_le _⟩ dX3_readHead_107 (st1 := []) rfl (fun H locs hP hD hS => ?_)
          refine lv_aload_n hx hb dX3_readHead_110 rfl (lv_at hl 0 rfl) ?_
          refine z_get (C := RX3) (T := TX3) (N := 5) (ci := 2) F zu_wsX30 hP 0 rfl rfl 1 (by decide) zw_99 rfl dX3_readHead_111 ?_
          refine lv_iconst (v := 0) hx hb dX3_readHead_114 (by decide) ?_
          refine lv_iconst (v := 2) hx hb dX3_readHead_115 (by decide) ?_
          refine lv_aload_n hx hb dX3_readHead_116 rfl (lv_at hl 0 rfl) ?_
          obtain ⟨r13_, hr13_, h⟩ := z_bind h
          refine zVV F (k_X3_readLower l N g a_this a_text a_draft a_text_bytes r11_.2.1 r11_.2.2.1 r11_.2.2.2 v_text_length v_text_bytes _ hr13_) zy_X3_readLower zw_207 hP hD hS [0, 2, 4] [1, 3] [2, 0, 3, 1, 4] (wr := [zo_X4 a_draft a_draft_cells v_draft_size, (a_draft_cells, .inl (zI g, 912, .inl r12_))]) (W1 := [zo_X3 a_this a_text a_draft r13_.2.2.1 r13_.2.2.2 r13_.2.1, zo_X4 a_draft a_draft_cells v_draft_size, zo_X7 a_text a_text_bytes v_text_length, (a_draft_cells, .inl (zI g, 912, .inl r12_)), (a_text_bytes, .inl (zY g, 600, .inl v_text_bytes))]) rfl rfl rfl rfl (by decide) rfl rfl (q0 := 0) (he := rfl) (hc := rfl) (rest := [.int 2, .int 0, .ref a_draft]) rfl hl.1 rfl (Nat.le_of_ble_eq_true rfl) ⟨rfl, rfl⟩ ⟨Nat.le_of_ble_eq_true rfl, Nat.le_of_ble_eq_true rfl⟩ ⟨Nat.zero_le _, Nat.zero_le _⟩ dX3_readHead_117 (st1 := [.int r13_.1, .int 2, .int 0, .ref a_draft]) rfl (fun H locs hP hD hS => ?_)
          obtain ⟨r14_, hr14_, h⟩ := z_bind h
          refine zVV F (k_X4_putValue l N g a_draft a_draft_cells v_draft_size r12_ 0 2 r13_.1 _ hr14_) zy_X4_putValue zw_203 hP hD hS [1, 3] [0, 2, 4] [0, 3, 1, 4, 2] (wr := [zo_X3 a_this a_text a_draft r13_.2.2.1 r13_.2.2.2 r13_.2.1, zo_X7 a_text a_text_bytes v_text_length, (a_text_bytes, .inl (zY g, 600, .inl v_text_bytes))]) (W1 := [zo_X3 a_this a_text a_draft r13_.2.2.1 r13_.2.2.2 r13_.2.1, zo_X4 a_draft a_draft_cells v_draft_size, zo_X7 a_text a_text_bytes v_text_length, (a_draft_cells, .inl (zI g, 912, .inl r14_)), (a_text_bytes, .inl (zY g, 600, .inl v_text_bytes))]) rfl rfl rfl rfl (by decide) rfl rfl (q0 := 1) (he := rfl) (hc := rfl) (rest := []) rfl hl.1 rfl (Nat.le_of_ble_eq_true rfl) ⟨rfl, rfl⟩ ⟨Nat.le_of_ble_eq_true rfl, Nat.le_of_ble_eq_true rfl⟩ ⟨Nat.zero_le _, Nat.zero_le _⟩ dX3_readHead_120 (st1 := []) rfl (fun H locs hP hD hS => ?_)
          obtain rfl := Option.some.inj h
          exact zV_v F hr hlocks hQ hP hD hS dX3_readHead_123
      have h := hA85_
      refine z_eq (tgt := 85) hx hb dX3_readHead_69 (by decide) h (fun h => ?_) (fun h => ?_)
      · obtain rfl := Option.some.inj h
        exact k85_ _ _ _ hP hD hS (lv_sub hl [0] rfl)
      · refine lv_aload_n hx hb dX3_readHead_72 rfl (lv_at hl 0 rfl) ?_
        refine z_get (C := RX3) (T := TX3) (N := 5) (ci := 2) F zu_wsX30 hP 0 rfl rfl 1 (by decide) zw_99 rfl dX3_readHead_73 ?_
        refine lv_iconst (v := 0) hx hb dX3_readHead_76 (by decide) ?_
        refine lv_iconst (v := 0) hx hb dX3_readHead_77 (by decide) ?_
        refine lv_aload_n hx hb dX3_readHead_78 rfl (lv_at hl 0 rfl) ?_
        obtain ⟨r15_, hr15_, h⟩ := z_bind h
        refine zVV F (k_X3_readKey l N g a_this a_text a_draft a_text_bytes r7_.1 r8_.2.1 r8_.2.2 v_text_length v_text_bytes _ hr15_) zy_X3_readKey zw_204 hP hD hS [0, 2, 4] [1, 3] [2, 0, 3, 1, 4] (wr := [zo_X4 a_draft a_draft_cells v_draft_size, (a_draft_cells, .inl (zI g, 912, .inl r7_.2.2.2))]) (W1 := [zo_X3 a_this a_text a_draft r15_.2.2.1 r15_.2.2.2 r15_.2.1, zo_X4 a_draft a_draft_cells v_draft_size, zo_X7 a_text a_text_bytes v_text_length, (a_draft_cells, .inl (zI g, 912, .inl r7_.2.2.2)), (a_text_bytes, .inl (zY g, 600, .inl v_text_bytes))]) rfl rfl rfl rfl (by decide) rfl rfl (q0 := 0) (he := rfl) (hc := rfl) (rest := [.int 0, .int 0, .ref a_draft]) rfl hl.1 rfl (Nat.le_of_ble_eq_true rfl) ⟨rfl, rfl⟩ ⟨Nat.le_of_ble_eq_true rfl, Nat.le_of_ble_eq_true rfl⟩ ⟨Nat.zero_le _, Nat.zero_le _⟩ dX3_readHead_79 (st1 := [.int r15_.1, .int 0, .int 0, .ref a_draft]) rfl (fun H locs hP hD hS => ?_)
        obtain ⟨r16_, hr16_, h⟩ := z_bind h
        refine zVV F (k_X4_putValue l N g a_draft a_draft_cells v_draft_size r7_.2.2.2 0 0 r15_.1 _ hr16_) zy_X4_putValue zw_203 hP hD hS [1, 3] [0, 2, 4] [0, 3, 1, 4, 2] (wr := [zo_X3 a_this a_text a_draft r15_.2.2.1 r15_.2.2.2 r15_.2.1, zo_X7 a_text a_text_bytes v_text_length, (a_text_bytes, .inl (zY g, 600, .inl v_text_bytes))]) (W1 := [zo_X3 a_this a_text a_draft r15_.2.2.1 r15_.2.2.2 r15_.2.1, zo_X4 a_draft a_draft_cells v_draft_size, zo_X7 a_text a_text_bytes v_text_length, (a_draft_cells, .inl (zI g, 912, .inl r16_)), (a_text_bytes, .inl (zY g, 600, .inl v_text_bytes))]) rfl rfl rfl rfl (by decide) rfl rfl (q0 := 1) (he := rfl) (hc := rfl) (rest := []) rfl hl.1 rfl (Nat.le_of_ble_eq_true rfl) ⟨rfl, rfl⟩ ⟨Nat.le_of_ble_eq_true rfl, Nat.le_of_ble_eq_true rfl⟩ ⟨Nat.zero_le _, Nat.zero_le _⟩ dX3_readHead_82 (st1 := []) rfl (fun H locs hP hD hS => ?_)
        obtain rfl := Option.some.inj h
        exact k85_ _ _ _ hP hD hS (lv_sub hl [0] rfl)
    have h := hA63_
    refine z_eq (tgt := 63) hx hb dX3_readHead_44 (by decide) h (fun h => ?_) (fun h => ?_)
    · obtain rfl := Option.some.inj h
      exact k63_ _ _ _ hP hD hS (lv_sub hl [0] rfl)
    · refine lv_aload_n hx hb dX3_readHead_47 rfl (lv_at hl 0 rfl) ?_
      refine z_get (C := RX3) (T := TX3) (N := 5) (ci := 2) F zu_wsX30 hP 0 rfl rfl 1 (by decide) zw_99 rfl dX3_readHead_48 ?_
      refine lv_iconst (v := 0) hx hb dX3_readHead_51 (by decide) ?_
      refine lv_bipush (v := 6) hx hb dX3_readHead_52 (by decide) ?_
      refine lv_aload_n hx hb dX3_readHead_54 rfl (lv_at hl 0 rfl) ?_
      refine lv_iconst (v := 1) hx hb dX3_readHead_55 (by decide) ?_
      refine lv_iconst (v := 4) hx hb dX3_readHead_56 (by decide) ?_
      obtain ⟨r17_, hr17_, h⟩ := z_bind h
      refine zVV F (k_X3_takeNumber l N g a_this a_text a_draft a_text_bytes r2_.2.1 r6_.2.1 r6_.2.2 v_text_length v_text_bytes 1 4 _ hr17_) zy_X3_takeNumber zw_192 hP hD hS [0, 2, 4] [1, 3] [2, 0, 3, 1, 4] (wr := [zo_X4 a_draft a_draft_cells v_draft_size, (a_draft_cells, .inl (zI g, 912, .inl r5_))]) (W1 := [zo_X3 a_this a_text a_draft r17_.2.2.1 r17_.2.2.2 r17_.2.1, zo_X4 a_draft a_draft_cells v_draft_size, zo_X7 a_text a_text_bytes v_text_length, (a_draft_cells, .inl (zI g, 912, .inl r5_)), (a_text_bytes, .inl (zY g, 600, .inl v_text_bytes))]) rfl rfl rfl rfl (by decide) rfl rfl (q0 := 0) (he := rfl) (hc := rfl) (rest := [.int 6, .int 0, .ref a_draft]) rfl hl.1 rfl (Nat.le_of_ble_eq_true rfl) ⟨rfl, rfl⟩ ⟨Nat.le_of_ble_eq_true rfl, Nat.le_of_ble_eq_true rfl⟩ ⟨Nat.zero_le _, Nat.zero_le _⟩ dX3_readHead_57 (st1 := [.int r17_.1, .int 6, .int 0, .ref a_draft]) rfl (fun H locs hP hD hS => ?_)
      obtain ⟨r18_, hr18_, h⟩ := z_bind h
      refine zVV F (k_X4_putValue l N g a_draft a_draft_cells v_draft_size r5_ 0 6 r17_.1 _ hr18_) zy_X4_putValue zw_203 hP hD hS [1, 3] [0, 2, 4] [0, 3, 1, 4, 2] (wr := [zo_X3 a_this a_text a_draft r17_.2.2.1 r17_.2.2.2 r17_.2.1, zo_X7 a_text a_text_bytes v_text_length, (a_text_bytes, .inl (zY g, 600, .inl v_text_bytes))]) (W1 := [zo_X3 a_this a_text a_draft r17_.2.2.1 r17_.2.2.2 r17_.2.1, zo_X4 a_draft a_draft_cells v_draft_size, zo_X7 a_text a_text_bytes v_text_length, (a_draft_cells, .inl (zI g, 912, .inl r18_)), (a_text_bytes, .inl (zY g, 600, .inl v_text_bytes))]) rfl rfl rfl rfl (by decide) rfl rfl (q0 := 1) (he := rfl) (hc := rfl) (rest := []) rfl hl.1 rfl (Nat.le_of_ble_eq_true rfl) ⟨rfl, rfl⟩ ⟨Nat.le_of_ble_eq_true rfl, Nat.le_of_ble_eq_true rfl⟩ ⟨Nat.zero_le _, Nat.zero_le _⟩ dX3_readHead_60 (st1 := []) rfl (fun H locs hP hD hS => ?_)
      obtain rfl := Option.some.inj h
      exact k63_ _ _ _ hP hD hS (lv_sub hl [0] rfl)
  have h := hA35_
  refine z_eq (tgt := 34) hx hb dX3_readHead_27 (by decide) h (fun h => ?_) (fun h => ?_)
  · refine lv_iconst (v := 0) hx hb dX3_readHead_34 (by decide) ?_
    obtain rfl := Option.some.inj h
    exact k35_ _ _ _ hP hD hS (lv_sub hl [0] rfl)
  · refine lv_iconst (v := 1) hx hb dX3_readHead_30 (by decide) ?_
    refine lv_goto (tgt := 35) hx hb dX3_readHead_31 (by decide) ?_
    obtain rfl := Option.some.inj h
    exact k35_ _ _ _ hP hD hS (lv_sub hl [0] rfl)
def f_X3_step (N : Nat) (v_from : Int32) (v_to : Int32) (v_text_length : Int32) (v_text_bytes : Nat → Int32) : Option Int32 :=
  if (v_to - v_from) = 1 then Option.bind (f_X7_at N v_text_length v_text_bytes v_from) (fun (r1_ : Int32) => Option.bind (zSix 20 (((r1_).toUInt32 % 65536).toInt32)) (fun (x2_ : Int32) => some x2_)) else some (-1)
abbrev rm_X3_step : Room := { frames := 6, cells := 0, slots := 0, locals := 200 }
theorem zy_X3_step : zYv yX3_step RX3 cX3_step 1 (some .int) 0 := ⟨zw_235, zw_236, zw_174, zw_233, ⟨by decide, by decide⟩, by decide +kernel⟩
set_option maxHeartbeats 4000000 in
set_option maxRecDepth 100000 in
theorem k_X3_step (l : Launch) (N : Nat) (g : zEnv) (a_this a_text a_draft a_text_bytes : Nat) (v_failedAt : Int32) (v_from : Int32) (v_to : Int32) (v_text_length : Int32) (v_text_bytes : Nat → Int32) (r : Int32) (h : f_X3_step N v_from v_to v_text_length v_text_bytes = some r) : ZR l yX3_step cX3_step 1 (some .int) rm_X3_step g [.ref a_this] [zo_X3 a_this a_text a_draft v_from v_to v_failedAt, zo_X7 a_text a_text_bytes v_text_length, (a_text_bytes, .inl (zY g, 600, .inl v_text_bytes))] (some (.int r)) := by
  refine zR_of (by decide) (Nat.le_of_ble_eq_true rfl) ?_
  intro p e s m below meth c A ls Q R F hRm hr hlocks hP hD hS hl hQ
  subst hRm
  have F : zF p m c cX3_step 1 s (([.ref a_this] : List Value)).toArray RX3 g A := F
  have hx := F.1.1
  have hb := F.1.2.1
  have hz := F.1.2.2.2.2
  have hl : lv_has ls 1 [(0, .ref a_this)] := hl
  unfold f_X3_step at h
  refine lv_aload_n hx hb dX3_step_0 rfl (lv_at hl 0 rfl) ?_
  refine z_get (C := RX3) (T := TX3) (N := 5) (ci := 2) F zu_wsX30 hP 0 rfl rfl 3 (by decide) zw_127 rfl dX3_step_1 ?_
  refine lv_aload_n hx hb dX3_step_4 rfl (lv_at hl 0 rfl) ?_
  refine z_get (C := RX3) (T := TX3) (N := 5) (ci := 2) F zu_wsX30 hP 0 rfl rfl 2 (by decide) zw_128 rfl dX3_step_5 ?_
  refine lv_isub hx hb dX3_step_8 ?_
  refine lv_iconst (v := 1) hx hb dX3_step_9 (by decide) ?_
  refine z_cne (tgt := 33) hx hb dX3_step_10 (by decide) h (fun h => ?_) (fun h => ?_)
  · refine lv_iconst (v := (-1)) hx hb dX3_step_33 (by decide) ?_
    obtain rfl := Option.some.inj h
    exact zR_i F hr hlocks hQ dX3_step_34
  · refine va_ldcS hx hb F.1.2.2.2.1 (F.2.2.1.2.1 _ zst_X3_162) dX3_step_13 ?_
    refine lv_aload_n hx hb dX3_step_15 rfl (lv_at hl 0 rfl) ?_
    refine z_get (C := RX3) (T := TX3) (N := 5) (ci := 2) F zu_wsX30 hP 0 rfl rfl 0 (by decide) zw_100 rfl dX3_step_16 ?_
    refine lv_aload_n hx hb dX3_step_19 rfl (lv_at hl 0 rfl) ?_
    refine z_get (C := RX3) (T := TX3) (N := 5) (ci := 2) F zu_wsX30 hP 0 rfl rfl 2 (by decide) zw_128 rfl dX3_step_20 ?_
    obtain ⟨r1_, hr1_, h⟩ := z_bind h
    refine zRV F (k_X7_at l N g a_text a_text_bytes v_text_length v_text_bytes v_from _ hr1_) zy_X7_at zw_133 hP hD hS [1, 2] rfl rfl (q0 := 1) (he := rfl) (hc := rfl) (rest := [.ref (zAK g 20)]) rfl hl.1 rfl (Nat.le_of_ble_eq_true rfl) ⟨rfl, rfl⟩ ⟨Nat.le_of_ble_eq_true rfl, Nat.le_of_ble_eq_true rfl⟩ ⟨Nat.zero_le _, Nat.zero_le _⟩ dX3_step_23 (st1 := [.int r1_, .ref (zAK g 20)]) rfl ?_
    refine lv_i2c hx hb dX3_step_26 rfl ?_
    refine z_six F hS zw_230 hl.1 (Nat.le_of_ble_eq_true rfl) ⟨Nat.le_of_ble_eq_true rfl, Nat.le_of_ble_eq_true rfl⟩ ⟨Nat.zero_le _, Nat.zero_le _⟩ dX3_step_27 h (fun x2_ h => ?_)
    refine lv_goto (tgt := 34) hx hb dX3_step_30 (by decide) ?_
    obtain rfl := Option.some.inj h
    exact zR_i F hr hlocks hQ dX3_step_34
def f_X3_beginsEvent (N : Nat) (v_failedAt : Int32) (v_from : Int32) (v_to : Int32) (v_text_length : Int32) (v_text_bytes : Nat → Int32) : Option Int32 :=
  if v_failedAt = (-1000) then Option.bind (f_X3_step N v_from v_to v_text_length v_text_bytes) (fun (r1_ : Int32) => if r1_ < 0 then Option.bind (f_X3_isWord N v_from v_to v_text_length v_text_bytes 10) (fun (r2_ : Int32) => if r2_ = 0 then some 0 else some 1) else some 1) else some 0
abbrev rm_X3_beginsEvent : Room := { frames := 7, cells := 0, slots := 0, locals := 222 }
theorem zy_X3_beginsEvent : zYv yX3_beginsEvent RX3 cX3_beginsEvent 1 (some .boolean) 0 := ⟨zw_253, zw_254, zw_174, zw_237, ⟨by decide, by decide⟩, by decide +kernel⟩
set_option maxHeartbeats 4000000 in
set_option maxRecDepth 100000 in
theorem k_X3_beginsEvent (l : Launch) (N : Nat) (g : zEnv) (a_this a_text a_draft a_text_bytes : Nat) (v_failedAt : Int32) (v_from : Int32) (v_to : Int32) (v_text_length : Int32) (v_text_bytes : Nat → Int32) (r : Int32) (h : f_X3_beginsEvent N v_failedAt v_from v_to v_text_length v_text_bytes = some r) : ZR l yX3_beginsEvent cX3_beginsEvent 1 (some .boolean) rm_X3_beginsEvent g [.ref a_this] [zo_X3 a_this a_text a_draft v_from v_to v_failedAt, zo_X7 a_text a_text_bytes v_text_length, (a_text_bytes, .inl (zY g, 600, .inl v_text_bytes))] (some (.int r)) := by
  refine zR_of (by decide) (Nat.le_of_ble_eq_true rfl) ?_
  intro p e s m below meth c A ls Q R F hRm hr hlocks hP hD hS hl hQ
  subst hRm
  have F : zF p m c cX3_beginsEvent 1 s (([.ref a_this] : List Value)).toArray RX3 g A := F
  have hx := F.1.1
  have hb := F.1.2.1
  have hz := F.1.2.2.2.2
  have hl : lv_has ls 1 [(0, .ref a_this)] := hl
  unfold f_X3_beginsEvent at h
  refine lv_aload_n hx hb dX3_beginsEvent_0 rfl (lv_at hl 0 rfl) ?_
  refine z_get (C := RX3) (T := TX3) (N := 5) (ci := 2) F zu_wsX30 hP 0 rfl rfl 4 (by decide) zw_170 rfl dX3_beginsEvent_1 ?_
  refine lv_sipush (v := (-1000)) hx hb dX3_beginsEvent_4 (by decide) ?_
  refine z_cne (tgt := 30) hx hb dX3_beginsEvent_7 (by decide) h (fun h => ?_) (fun h => ?_)
  · refine lv_iconst (v := 0) hx hb dX3_beginsEvent_30 (by decide) ?_
    obtain rfl := Option.some.inj h
    exact zR_n F hr hlocks hQ rfl dX3_beginsEvent_31
  · refine lv_aload_n hx hb dX3_beginsEvent_10 rfl (lv_at hl 0 rfl) ?_
    obtain ⟨r1_, hr1_, h⟩ := z_bind h
    refine zRV F (k_X3_step l N g a_this a_text a_draft a_text_bytes v_failedAt v_from v_to v_text_length v_text_bytes _ hr1_) zy_X3_step zw_234 hP hD hS [0, 1, 2] rfl rfl (q0 := 0) (he := rfl) (hc := rfl) (rest := []) rfl hl.1 rfl (Nat.le_of_ble_eq_true rfl) ⟨rfl, rfl⟩ ⟨Nat.le_of_ble_eq_true rfl, Nat.le_of_ble_eq_true rfl⟩ ⟨Nat.zero_le _, Nat.zero_le _⟩ dX3_beginsEvent_11 (st1 := [.int r1_]) rfl ?_
    refine z_ge (tgt := 26) hx hb dX3_beginsEvent_14 (by decide) h (fun h => ?_) (fun h => ?_)
    · refine lv_iconst (v := 1) hx hb dX3_beginsEvent_26 (by decide) ?_
      refine lv_goto (tgt := 31) hx hb dX3_beginsEvent_27 (by decide) ?_
      obtain rfl := Option.some.inj h
      exact zR_n F hr hlocks hQ rfl dX3_beginsEvent_31
    · refine lv_aload_n hx hb dX3_beginsEvent_17 rfl (lv_at hl 0 rfl) ?_
      refine va_ldcS hx hb F.1.2.2.2.1 (F.2.2.1.2.1 _ zst_X3_112) dX3_beginsEvent_18 ?_
      obtain ⟨r2_, hr2_, h⟩ := z_bind h
      refine zRV F (k_X3_isWord l N g a_this a_text a_draft a_text_bytes v_failedAt v_from v_to v_text_length v_text_bytes 10 _ hr2_) zy_X3_isWord zw_171 hP hD hS [0, 1, 2] rfl rfl (q0 := 0) (he := rfl) (hc := rfl) (rest := []) rfl hl.1 rfl (Nat.le_of_ble_eq_true rfl) ⟨rfl, rfl⟩ ⟨Nat.le_of_ble_eq_true rfl, Nat.le_of_ble_eq_true rfl⟩ ⟨Nat.zero_le _, Nat.zero_le _⟩ dX3_beginsEvent_20 (st1 := [.int r2_]) rfl ?_
      refine z_eq (tgt := 30) hx hb dX3_beginsEvent_23 (by decide) h (fun h => ?_) (fun h => ?_)
      · refine lv_iconst (v := 0) hx hb dX3_beginsEvent_30 (by decide) ?_
        obtain rfl := Option.some.inj h
        exact zR_n F hr hlocks hQ rfl dX3_beginsEvent_31
      · refine lv_iconst (v := 1) hx hb dX3_beginsEvent_26 (by decide) ?_
        refine lv_goto (tgt := 31) hx hb dX3_beginsEvent_27 (by decide) ?_
        obtain rfl := Option.some.inj h
        exact zR_n F hr hlocks hQ rfl dX3_beginsEvent_31
def f_X3_readDuration_B17 (N : Nat) (v_failedAt : Int32) (v_text_length : Int32) (v_text_bytes : Nat → Int32) (r2_ : Int32) (kh17_ : Int32 × Int32 × Int32 → Option (Int32 × Int32 × Int32 × Int32)) (v17_ : Int32 × Int32 × Int32) : Option (Int32 × Int32 × Int32 × Int32) :=
  if v17_.1 < 5 then Option.bind (f_X8_ofLength N v17_.1) (fun (r4_ : Nat) => Option.bind (f_X3_takeWord N v_failedAt v17_.2.1 v17_.2.2 v_text_length v_text_bytes r4_) (fun (r5_ : Int32 × Int32 × Int32) => if r5_.1 = 0 then Option.bind (some (v17_.1 + 1)) (fun (x6_ : Int32) => kh17_ (x6_, r5_.2.1, r5_.2.2)) else some (((2 * v17_.1) + r2_), v_failedAt, r5_.2.1, r5_.2.2))) else Option.bind (f_X3_fail N v_failedAt v17_.2.1) (fun (r3_ : Int32) => some (0, r3_, v17_.2.1, v17_.2.2))
def f_X3_readDuration (N : Nat) (v_failedAt : Int32) (v_from : Int32) (v_to : Int32) (v_text_length : Int32) (v_text_bytes : Nat → Int32) : Option (Int32 × Int32 × Int32 × Int32) :=
  Option.bind (f_X3_takeWord N v_failedAt v_from v_to v_text_length v_text_bytes 11) (fun (r1_ : Int32 × Int32 × Int32) => Option.bind (if r1_.1 = 0 then some 0 else some 1) (fun (r2_ : Int32) => zLoop (f_X3_readDuration_B17 N v_failedAt v_text_length v_text_bytes r2_) N (0, r1_.2.1, r1_.2.2)))
abbrev rm_X3_readDuration : Room := { frames := 8, cells := 0, slots := 0, locals := 244 }
theorem zy_X3_readDuration : zYv yX3_readDuration RX3 cX3_readDuration 3 (some .int) 0 := ⟨zw_256, zw_257, zw_174, zw_242, ⟨by decide, by decide⟩, by decide +kernel⟩
set_option maxHeartbeats 4000000 in
set_option maxRecDepth 100000 in
theorem k_X3_readDuration (l : Launch) (N : Nat) (g : zEnv) (a_this a_text a_draft a_text_bytes : Nat) (v_failedAt : Int32) (v_from : Int32) (v_to : Int32) (v_text_length : Int32) (v_text_bytes : Nat → Int32) (r : Int32 × Int32 × Int32 × Int32) (h : f_X3_readDuration N v_failedAt v_from v_to v_text_length v_text_bytes = some r) : ZV l yX3_readDuration cX3_readDuration 3 (some .int) rm_X3_readDuration g [.ref a_this] [zo_X3 a_this a_text a_draft v_from v_to v_failedAt, zo_X7 a_text a_text_bytes v_text_length, (a_text_bytes, .inl (zY g, 600, .inl v_text_bytes))] [zo_X3 a_this a_text a_draft r.2.2.1 r.2.2.2 r.2.1, zo_X7 a_text a_text_bytes v_text_length, (a_text_bytes, .inl (zY g, 600, .inl v_text_bytes))] (some (.int r.1)) := by
  refine zV_of (by decide) (Nat.le_of_ble_eq_true rfl) ?_
  intro p e s m below meth c A H locs ls Q R F hRm hr hlocks hP hD hS hl hQ
  subst hRm
  have F : zF p m c cX3_readDuration 3 s (([.ref a_this] : List Value)).toArray RX3 g A := F
  have hx := F.1.1
  have hb := F.1.2.1
  have hz := F.1.2.2.2.2
  have hl : lv_has ls 3 [(0, .ref a_this)] := hl
  unfold f_X3_readDuration at h
  refine lv_aload_n hx hb dX3_readDuration_0 rfl (lv_at hl 0 rfl) ?_
  refine va_ldcS hx hb F.1.2.2.2.1 (F.2.2.1.2.1 _ zst_X3_142) dX3_readDuration_1 ?_
  obtain ⟨r1_, hr1_, h⟩ := z_bind h
  refine zVV F (k_X3_takeWord l N g a_this a_text a_draft a_text_bytes v_failedAt v_from v_to v_text_length v_text_bytes 11 _ hr1_) zy_X3_takeWord zw_180 hP hD hS [0, 1, 2] [] [0, 1, 2] (wr := []) (W1 := [zo_X3 a_this a_text a_draft r1_.2.1 r1_.2.2 v_failedAt, zo_X7 a_text a_text_bytes v_text_length, (a_text_bytes, .inl (zY g, 600, .inl v_text_bytes))]) rfl rfl rfl rfl (by decide) rfl rfl (q0 := 0) (he := rfl) (hc := rfl) (rest := []) rfl hl.1 rfl (Nat.le_of_ble_eq_true rfl) ⟨rfl, rfl⟩ ⟨Nat.le_of_ble_eq_true rfl, Nat.le_of_ble_eq_true rfl⟩ ⟨Nat.zero_le _, Nat.zero_le _⟩ dX3_readDuration_3 (st1 := [.int r1_.1]) rfl (fun H locs hP hD hS => ?_)
  obtain ⟨r2_, hA14_, h⟩ := z_bind h
  have k14_ : ∀ (H : Heap) (locs : List Loc) (ls : Array Slot), va_P (zD g) vwCl [zo_X3 a_this a_text a_draft r1_.2.1 r1_.2.2 v_failedAt, zo_X7 a_text a_text_bytes v_text_length, (a_text_bytes, .inl (zY g, 600, .inl v_text_bytes))] H → va_D A [zo_X3 a_this a_text a_draft r1_.2.1 r1_.2.2 v_failedAt, zo_X7 a_text a_text_bytes v_text_length, (a_text_bytes, .inl (zY g, 600, .inl v_text_bytes))] → va_S A s.heap H locs → lv_has ls 3 [(0, .ref a_this)] → W p l e rm_X3_readDuration s m (([.ref a_this] : List Value)).toArray below meth c H locs 0 0 Q (F0 m 14 ls [.int r2_]) := by
    intro H locs ls hP hD hS hl
    refine lv_istore_n (lv' := [(1, .int r2_), (0, .ref a_this)]) hx hb dX3_readDuration_14 rfl hl (by decide) rfl (fun ls hl => ?_)
    refine lv_iconst (v := 0) hx hb dX3_readDuration_15 (by decide) ?_
    refine lv_istore_n (lv' := [(2, .int 0), (1, .int r2_), (0, .ref a_this)]) hx hb dX3_readDuration_16 rfl hl (by decide) rfl (fun ls hl => ?_)
    have l17_ : ∀ (n17_ : Nat) (v17_ : Int32 × Int32 × Int32), zLoop (f_X3_readDuration_B17 N v_failedAt v_text_length v_text_bytes r2_) n17_ v17_ = some r → ∀ (H : Heap) (locs : List Loc) (ls : Array Slot), va_P (zD g) vwCl [zo_X3 a_this a_text a_draft v17_.2.1 v17_.2.2 v_failedAt, zo_X7 a_text a_text_bytes v_text_length, (a_text_bytes, .inl (zY g, 600, .inl v_text_bytes))] H → va_D A [zo_X3 a_this a_text a_draft v17_.2.1 v17_.2.2 v_failedAt, zo_X7 a_text a_text_bytes v_text_length, (a_text_bytes, .inl (zY g, 600, .inl v_text_bytes))] → va_S A s.heap H locs → lv_has ls 3 [(0, .ref a_this), (1, .int r2_), (2, .int v17_.1)] → W p l e rm_X3_readDuration s m (([.ref a_this] : List Value)).toArray below meth c H locs 0 0 Q (F0 m 17 ls []) := by
      intro n17_
      induction n17_ with
      | zero => intro v17_ h; cases h
      | succ n17_ ih17_ =>
        intro v17_ h H locs ls hP hD hS hl
        have h : f_X3_readDuration_B17 N v_failedAt v_text_length v_text_bytes r2_ (zLoop (f_X3_readDuration_B17 N v_failedAt v_text_length v_text_bytes r2_) n17_) v17_ = some r := h
        unfold f_X3_readDuration_B17 at h
        refine lv_iload_n hx hb dX3_readDuration_17 rfl (lv_at hl 2 rfl) ?_
        refine lv_iconst (v := 5) hx hb dX3_readDuration_18 (by decide) ?_
        refine z_cge (tgt := 45) hx hb dX3_readDuration_19 (by decide) h (fun h => ?_) (fun h => ?_)
        · refine lv_aload_n hx hb dX3_readDuration_45 rfl (lv_at hl 0 rfl) ?_
          obtain ⟨r3_, hr3_, h⟩ := z_bind h
          refine zVV F (k_X3_fail l N g a_this a_text a_draft v17_.2.2 v_failedAt v17_.2.1 _ hr3_) zy_X3_fail zw_183 hP hD hS [0] [1, 2] [2, 0, 1] (wr := [zo_X7 a_text a_text_bytes v_text_length, (a_text_bytes, .inl (zY g, 600, .inl v_text_bytes))]) (W1 := [zo_X3 a_this a_text a_draft v17_.2.1 v17_.2.2 r3_, zo_X7 a_text a_text_bytes v_text_length, (a_text_bytes, .inl (zY g, 600, .inl v_text_bytes))]) rfl rfl rfl rfl (by decide) rfl rfl (q0 := 0) (he := rfl) (hc := rfl) (rest := []) rfl hl.1 rfl (Nat.le_of_ble_eq_true rfl) ⟨rfl, rfl⟩ ⟨Nat.le_of_ble_eq_true rfl, Nat.le_of_ble_eq_true rfl⟩ ⟨Nat.zero_le _, Nat.zero_le _⟩ dX3_readDuration_46 (st1 := []) rfl (fun H locs hP hD hS => ?_)
          refine lv_iconst (v := 0) hx hb dX3_readDuration_49 (by decide) ?_
          obtain rfl := Option.some.inj h
          exact zV_i F hr hlocks hQ hP hD hS dX3_readDuration_50
        · refine lv_aload_n hx hb dX3_readDuration_22 rfl (lv_at hl 0 rfl) ?_
          refine lv_iload_n hx hb dX3_readDuration_23 rfl (lv_at hl 2 rfl) ?_
          obtain ⟨r4_, hr4_, h⟩ := z_bind h
          refine zRS F (k_X8_ofLength l N g v17_.1 _ hr4_) zy_X8_ofLength zw_239 hP hD hS [] rfl rfl (rest := [.ref a_this]) rfl hl.1 rfl (Nat.le_of_ble_eq_true rfl) ⟨rfl, rfl⟩ ⟨Nat.le_of_ble_eq_true rfl, Nat.le_of_ble_eq_true rfl⟩ ⟨Nat.zero_le _, Nat.zero_le _⟩ dX3_readDuration_24 (st1 := [.ref (zAK g r4_), .ref a_this]) rfl ?_
          obtain ⟨r5_, hr5_, h⟩ := z_bind h
          refine zVV F (k_X3_takeWord l N g a_this a_text a_draft a_text_bytes v_failedAt v17_.2.1 v17_.2.2 v_text_length v_text_bytes r4_ _ hr5_) zy_X3_takeWord zw_180 hP hD hS [0, 1, 2] [] [0, 1, 2] (wr := []) (W1 := [zo_X3 a_this a_text a_draft r5_.2.1 r5_.2.2 v_failedAt, zo_X7 a_text a_text_bytes v_text_length, (a_text_bytes, .inl (zY g, 600, .inl v_text_bytes))]) rfl rfl rfl rfl (by decide) rfl rfl (q0 := 0) (he := rfl) (hc := rfl) (rest := []) rfl hl.1 rfl (Nat.le_of_ble_eq_true rfl) ⟨rfl, rfl⟩ ⟨Nat.le_of_ble_eq_true rfl, Nat.le_of_ble_eq_true rfl⟩ ⟨Nat.zero_le _, Nat.zero_le _⟩ dX3_readDuration_27 (st1 := [.int r5_.1]) rfl (fun H locs hP hD hS => ?_)
          refine z_eq (tgt := 39) hx hb dX3_readDuration_30 (by decide) h (fun h => ?_) (fun h => ?_)
          · refine z_nm h (fun x6_ ex6_ h => ?_)
            refine lv_iinc (v := x6_) (lv' := [(2, .int x6_), (0, .ref a_this), (1, .int r2_)]) hx hb dX3_readDuration_39 hl (k := 2) rfl (by rw [ex6_]; rfl) (by decide) rfl (fun ls hl => ?_)
            refine lv_goto (tgt := 17) hx hb dX3_readDuration_42 (by decide) ?_
            exact ih17_ _ h _ _ _ hP hD hS (lv_sub hl [1, 2, 0] rfl)
          · refine lv_iconst (v := 2) hx hb dX3_readDuration_33 (by decide) ?_
            refine lv_iload_n hx hb dX3_readDuration_34 rfl (lv_at hl 2 rfl) ?_
            refine lv_imul hx hb dX3_readDuration_35 ?_
            refine lv_iload_n hx hb dX3_readDuration_36 rfl (lv_at hl 1 rfl) ?_
            refine lv_iadd hx hb dX3_readDuration_37 ?_
            obtain rfl := Option.some.inj h
            exact zV_i F hr hlocks hQ hP hD hS dX3_readDuration_38
    exact l17_ N _ h _ _ _ hP hD hS (lv_sub hl [2, 1, 0] rfl)
  have h := hA14_
  refine z_eq (tgt := 13) hx hb dX3_readDuration_6 (by decide) h (fun h => ?_) (fun h => ?_)
  · refine lv_iconst (v := 0) hx hb dX3_readDuration_13 (by decide) ?_
    obtain rfl := Option.some.inj h
    exact k14_ _ _ _ hP hD hS (lv_sub hl [0] rfl)
  · refine lv_iconst (v := 1) hx hb dX3_readDuration_9 (by decide) ?_
    refine lv_goto (tgt := 14) hx hb dX3_readDuration_10 (by decide) ?_
    obtain rfl := Option.some.inj h
    exact k14_ _ _ _ hP hD hS (lv_sub hl [0] rfl)
def f_X3_readSign_B2 (N : Nat) (v_failedAt : Int32) (v_text_length : Int32) (v_text_bytes : Nat → Int32) (kh2_ : Int32 × Int32 × Int32 → Option (Int32 × Int32 × Int32)) (v2_ : Int32 × Int32 × Int32) : Option (Int32 × Int32 × Int32) :=
  if 3 < v2_.1 then some (0, v2_.2.1, v2_.2.2) else Option.bind (f_X8_ofSign N v2_.1) (fun (r1_ : Nat) => Option.bind (f_X3_takeWord N v_failedAt v2_.2.1 v2_.2.2 v_text_length v_text_bytes r1_) (fun (r2_ : Int32 × Int32 × Int32) => if r2_.1 = 0 then Option.bind (some (v2_.1 + 1)) (fun (x3_ : Int32) => kh2_ (x3_, r2_.2.1, r2_.2.2)) else some (v2_.1, r2_.2.1, r2_.2.2)))
def f_X3_readSign (N : Nat) (v_failedAt : Int32) (v_from : Int32) (v_to : Int32) (v_text_length : Int32) (v_text_bytes : Nat → Int32) : Option (Int32 × Int32 × Int32) :=
  zLoop (f_X3_readSign_B2 N v_failedAt v_text_length v_text_bytes) N (1, v_from, v_to)
abbrev rm_X3_readSign : Room := { frames := 8, cells := 0, slots := 0, locals := 244 }
theorem zy_X3_readSign : zYv yX3_readSign RX3 cX3_readSign 2 (some .int) 0 := ⟨zw_264, zw_265, zw_174, zw_251, ⟨by decide, by decide⟩, by decide +kernel⟩
set_option maxHeartbeats 4000000 in
set_option maxRecDepth 100000 in
theorem k_X3_readSign (l : Launch) (N : Nat) (g : zEnv) (a_this a_text a_draft a_text_bytes : Nat) (v_failedAt : Int32) (v_from : Int32) (v_to : Int32) (v_text_length : Int32) (v_text_bytes : Nat → Int32) (r : Int32 × Int32 × Int32) (h : f_X3_readSign N v_failedAt v_from v_to v_text_length v_text_bytes = some r) : ZV l yX3_readSign cX3_readSign 2 (some .int) rm_X3_readSign g [.ref a_this] [zo_X3 a_this a_text a_draft v_from v_to v_failedAt, zo_X7 a_text a_text_bytes v_text_length, (a_text_bytes, .inl (zY g, 600, .inl v_text_bytes))] [zo_X3 a_this a_text a_draft r.2.1 r.2.2 v_failedAt, zo_X7 a_text a_text_bytes v_text_length, (a_text_bytes, .inl (zY g, 600, .inl v_text_bytes))] (some (.int r.1)) := by
  refine zV_of (by decide) (Nat.le_of_ble_eq_true rfl) ?_
  intro p e s m below meth c A H locs ls Q R F hRm hr hlocks hP hD hS hl hQ
  subst hRm
  have F : zF p m c cX3_readSign 2 s (([.ref a_this] : List Value)).toArray RX3 g A := F
  have hx := F.1.1
  have hb := F.1.2.1
  have hz := F.1.2.2.2.2
  have hl : lv_has ls 2 [(0, .ref a_this)] := hl
  unfold f_X3_readSign at h
  refine lv_iconst (v := 1) hx hb dX3_readSign_0 (by decide) ?_
  refine lv_istore_n (lv' := [(1, .int 1), (0, .ref a_this)]) hx hb dX3_readSign_1 rfl hl (by decide) rfl (fun ls hl => ?_)
  have l2_ : ∀ (n2_ : Nat) (v2_ : Int32 × Int32 × Int32), zLoop (f_X3_readSign_B2 N v_failedAt v_text_length v_text_bytes) n2_ v2_ = some r → ∀ (H : Heap) (locs : List Loc) (ls : Array Slot), va_P (zD g) vwCl [zo_X3 a_this a_text a_draft v2_.2.1 v2_.2.2 v_failedAt, zo_X7 a_text a_text_bytes v_text_length, (a_text_bytes, .inl (zY g, 600, .inl v_text_bytes))] H → va_D A [zo_X3 a_this a_text a_draft v2_.2.1 v2_.2.2 v_failedAt, zo_X7 a_text a_text_bytes v_text_length, (a_text_bytes, .inl (zY g, 600, .inl v_text_bytes))] → va_S A s.heap H locs → lv_has ls 2 [(0, .ref a_this), (1, .int v2_.1)] → W p l e rm_X3_readSign s m (([.ref a_this] : List Value)).toArray below meth c H locs 0 0 Q (F0 m 2 ls []) := by
    intro n2_
    induction n2_ with
    | zero => intro v2_ h; cases h
    | succ n2_ ih2_ =>
      intro v2_ h H locs ls hP hD hS hl
      have h : f_X3_readSign_B2 N v_failedAt v_text_length v_text_bytes (zLoop (f_X3_readSign_B2 N v_failedAt v_text_length v_text_bytes) n2_) v2_ = some r := h
      unfold f_X3_readSign_B2 at h
      refine lv_iload_n hx hb dX3_readSign_2 rfl (lv_at hl 1 rfl) ?_
      refine lv_iconst (v := 3) hx hb dX3_readSign_3 (by decide) ?_
      refine z_cgt (tgt := 26) hx hb dX3_readSign_4 (by decide) h (fun h => ?_) (fun h => ?_)
      · refine lv_iconst (v := 0) hx hb dX3_readSign_26 (by decide) ?_
        obtain rfl := Option.some.inj h
        exact zV_i F hr hlocks hQ hP hD hS dX3_readSign_27
      · refine lv_aload_n hx hb dX3_readSign_7 rfl (lv_at hl 0 rfl) ?_
        refine lv_iload_n hx hb dX3_readSign_8 rfl (lv_at hl 1 rfl) ?_
        obtain ⟨r1_, hr1_, h⟩ := z_bind h
        refine zRS F (k_X8_ofSign l N g v2_.1 _ hr1_) zy_X8_ofSign zw_249 hP hD hS [] rfl rfl (rest := [.ref a_this]) rfl hl.1 rfl (Nat.le_of_ble_eq_true rfl) ⟨rfl, rfl⟩ ⟨Nat.le_of_ble_eq_true rfl, Nat.le_of_ble_eq_true rfl⟩ ⟨Nat.zero_le _, Nat.zero_le _⟩ dX3_readSign_9 (st1 := [.ref (zAK g r1_), .ref a_this]) rfl ?_
        obtain ⟨r2_, hr2_, h⟩ := z_bind h
        refine zVV F (k_X3_takeWord l N g a_this a_text a_draft a_text_bytes v_failedAt v2_.2.1 v2_.2.2 v_text_length v_text_bytes r1_ _ hr2_) zy_X3_takeWord zw_180 hP hD hS [0, 1, 2] [] [0, 1, 2] (wr := []) (W1 := [zo_X3 a_this a_text a_draft r2_.2.1 r2_.2.2 v_failedAt, zo_X7 a_text a_text_bytes v_text_length, (a_text_bytes, .inl (zY g, 600, .inl v_text_bytes))]) rfl rfl rfl rfl (by decide) rfl rfl (q0 := 0) (he := rfl) (hc := rfl) (rest := []) rfl hl.1 rfl (Nat.le_of_ble_eq_true rfl) ⟨rfl, rfl⟩ ⟨Nat.le_of_ble_eq_true rfl, Nat.le_of_ble_eq_true rfl⟩ ⟨Nat.zero_le _, Nat.zero_le _⟩ dX3_readSign_12 (st1 := [.int r2_.1]) rfl (fun H locs hP hD hS => ?_)
        refine z_eq (tgt := 20) hx hb dX3_readSign_15 (by decide) h (fun h => ?_) (fun h => ?_)
        · refine z_nm h (fun x3_ ex3_ h => ?_)
          refine lv_iinc (v := x3_) (lv' := [(1, .int x3_), (0, .ref a_this)]) hx hb dX3_readSign_20 hl (k := 1) rfl (by rw [ex3_]; rfl) (by decide) rfl (fun ls hl => ?_)
          refine lv_goto (tgt := 2) hx hb dX3_readSign_23 (by decide) ?_
          exact ih2_ _ h _ _ _ hP hD hS (lv_sub hl [1, 0] rfl)
        · refine lv_iload_n hx hb dX3_readSign_18 rfl (lv_at hl 1 rfl) ?_
          obtain rfl := Option.some.inj h
          exact zV_i F hr hlocks hQ hP hD hS dX3_readSign_19
  exact l2_ N _ h _ _ _ hP hD hS (lv_sub hl [1, 0] rfl)
def f_X3_readEvent (N : Nat) (v_failedAt : Int32) (v_from : Int32) (v_to : Int32) (v_draft_size : Int32) (v_text_length : Int32) (v_draft_cells : Nat → Int32) (v_text_bytes : Nat → Int32) (x1 : Int32) : Option (Int32 × Int32 × Int32 × (Nat → Int32)) :=
  Option.bind (f_X3_beginsEvent N v_failedAt v_from v_to v_text_length v_text_bytes) (fun (r1_ : Int32) => if r1_ = 0 then Option.bind (f_X3_fail N v_failedAt v_from) (fun (r14_ : Int32) => some (r14_, v_from, v_to, v_draft_cells)) else Option.bind (f_X3_step N v_from v_to v_text_length v_text_bytes) (fun (r2_ : Int32) => Option.bind (f_X3_advance N v_from v_to v_text_length v_text_bytes) (fun (r3_ : Int32 × Int32) => if r2_ < 0 then Option.bind (f_X3_readDuration N v_failedAt r3_.1 r3_.2 v_text_length v_text_bytes) (fun (r11_ : Int32 × Int32 × Int32 × Int32) => Option.bind (f_X0_ofRest N r11_.1) (fun (r12_ : Int32) => Option.bind (f_X4_appendEvent N v_draft_size v_draft_cells 0 x1 r12_) (fun (r13_ : (Nat → Int32)) => some (r11_.2.1, r11_.2.2.1, r11_.2.2.2, r13_)))) else Option.bind (f_X3_readSign N v_failedAt r3_.1 r3_.2 v_text_length v_text_bytes) (fun (r4_ : Int32 × Int32 × Int32) => Option.bind (f_X3_takeNumber N v_failedAt r4_.2.1 r4_.2.2 v_text_length v_text_bytes 0 8) (fun (r5_ : Int32 × Int32 × Int32 × Int32) => Option.bind (some ((7 * r5_.1) + r2_)) (fun (x6_ : Int32) => Option.bind (f_X3_readDuration N r5_.2.1 r5_.2.2.1 r5_.2.2.2 v_text_length v_text_bytes) (fun (r7_ : Int32 × Int32 × Int32 × Int32) => Option.bind (f_X3_takeWord N r7_.2.1 r7_.2.2.1 r7_.2.2.2 v_text_length v_text_bytes 17) (fun (r8_ : Int32 × Int32 × Int32) => Option.bind (f_X0_ofNote N x6_ r4_.1 r7_.1 r8_.1) (fun (r9_ : Int32) => Option.bind (f_X4_appendEvent N v_draft_size v_draft_cells 0 x1 r9_) (fun (r10_ : (Nat → Int32)) => some (r7_.2.1, r8_.2.1, r8_.2.2, r10_)))))))))))
abbrev rm_X3_readEvent : Room := { frames := 9, cells := 0, slots := 0, locals := 266 }
theorem zy_X3_readEvent : zYv yX3_readEvent RX3 cX3_readEvent 6 none 1 := ⟨zw_270, zw_271, zw_174, zw_268, ⟨by decide, by decide⟩, by decide +kernel⟩
set_option maxHeartbeats 4000000 in
set_option maxRecDepth 100000 in
theorem k_X3_readEvent (l : Launch) (N : Nat) (g : zEnv) (a_this a_text a_draft a_draft_cells a_text_bytes : Nat) (v_failedAt : Int32) (v_from : Int32) (v_to : Int32) (v_draft_size : Int32) (v_text_length : Int32) (v_draft_cells : Nat → Int32) (v_text_bytes : Nat → Int32) (x1 : Int32) (r : Int32 × Int32 × Int32 × (Nat → Int32)) (h : f_X3_readEvent N v_failedAt v_from v_to v_draft_size v_text_length v_draft_cells v_text_bytes x1 = some r) : ZV l yX3_readEvent cX3_readEvent 6 none rm_X3_readEvent g [.ref a_this, .int x1] [zo_X3 a_this a_text a_draft v_from v_to v_failedAt, zo_X4 a_draft a_draft_cells v_draft_size, zo_X7 a_text a_text_bytes v_text_length, (a_draft_cells, .inl (zI g, 912, .inl v_draft_cells)), (a_text_bytes, .inl (zY g, 600, .inl v_text_bytes))] [zo_X3 a_this a_text a_draft r.2.1 r.2.2.1 r.1, zo_X4 a_draft a_draft_cells v_draft_size, zo_X7 a_text a_text_bytes v_text_length, (a_draft_cells, .inl (zI g, 912, .inl r.2.2.2)), (a_text_bytes, .inl (zY g, 600, .inl v_text_bytes))] none := by
  refine zV_of (by decide) (Nat.le_of_ble_eq_true rfl) ?_
  intro p e s m below meth c A H locs ls Q R F hRm hr hlocks hP hD hS hl hQ
  subst hRm
  have F : zF p m c cX3_readEvent 6 s (([.ref a_this, .int x1] : List Value)).toArray RX3 g A := F
  have hx := F.1.1
  have hb := F.1.2.1
  have hz := F.1.2.2.2.2
  have hl : lv_has ls 6 [(0, .ref a_this), (1, .int x1)] := hl
  unfold f_X3_readEvent at h
  refine lv_aload_n hx hb dX3_readEvent_0 rfl (lv_at hl 0 rfl) ?_
  obtain ⟨r1_, hr1_, h⟩ := z_bind h
  refine zRV F (k_X3_beginsEvent l N g a_this a_text a_draft a_text_bytes v_failedAt v_from v_to v_text_length v_text_bytes _ hr1_) zy_X3_beginsEvent zw_252 hP hD hS [0, 2, 4] rfl rfl (q0 := 0) (he := rfl) (hc := rfl) (rest := []) rfl hl.1 rfl (Nat.le_of_ble_eq_true rfl) ⟨rfl, rfl⟩ ⟨Nat.le_of_ble_eq_true rfl, Nat.le_of_ble_eq_true rfl⟩ ⟨Nat.zero_le _, Nat.zero_le _⟩ dX3_readEvent_1 (st1 := [.int r1_]) rfl ?_
  refine z_ne (tgt := 12) hx hb dX3_readEvent_4 (by decide) h (fun h => ?_) (fun h => ?_)
  · refine lv_aload_n hx hb dX3_readEvent_12 rfl (lv_at hl 0 rfl) ?_
    obtain ⟨r2_, hr2_, h⟩ := z_bind h
    refine zRV F (k_X3_step l N g a_this a_text a_draft a_text_bytes v_failedAt v_from v_to v_text_length v_text_bytes _ hr2_) zy_X3_step zw_234 hP hD hS [0, 2, 4] rfl rfl (q0 := 0) (he := rfl) (hc := rfl) (rest := []) rfl hl.1 rfl (Nat.le_of_ble_eq_true rfl) ⟨rfl, rfl⟩ ⟨Nat.le_of_ble_eq_true rfl, Nat.le_of_ble_eq_true rfl⟩ ⟨Nat.zero_le _, Nat.zero_le _⟩ dX3_readEvent_13 (st1 := [.int r2_]) rfl ?_
    refine lv_istore_n (lv' := [(2, .int r2_), (0, .ref a_this), (1, .int x1)]) hx hb dX3_readEvent_16 rfl hl (by decide) rfl (fun ls hl => ?_)
    refine lv_aload_n hx hb dX3_readEvent_17 rfl (lv_at hl 1 rfl) ?_
    obtain ⟨r3_, hr3_, h⟩ := z_bind h
    refine zVV F (k_X3_advance l N g a_this a_text a_draft a_text_bytes v_failedAt v_from v_to v_text_length v_text_bytes _ hr3_) zy_X3_advance zw_175 hP hD hS [0, 2, 4] [1, 3] [2, 0, 3, 1, 4] (wr := [zo_X4 a_draft a_draft_cells v_draft_size, (a_draft_cells, .inl (zI g, 912, .inl v_draft_cells))]) (W1 := [zo_X3 a_this a_text a_draft r3_.1 r3_.2 v_failedAt, zo_X4 a_draft a_draft_cells v_draft_size, zo_X7 a_text a_text_bytes v_text_length, (a_draft_cells, .inl (zI g, 912, .inl v_draft_cells)), (a_text_bytes, .inl (zY g, 600, .inl v_text_bytes))]) rfl rfl rfl rfl (by decide) rfl rfl (q0 := 0) (he := rfl) (hc := rfl) (rest := []) rfl hl.1 rfl (Nat.le_of_ble_eq_true rfl) ⟨rfl, rfl⟩ ⟨Nat.le_of_ble_eq_true rfl, Nat.le_of_ble_eq_true rfl⟩ ⟨Nat.zero_le _, Nat.zero_le _⟩ dX3_readEvent_18 (st1 := []) rfl (fun H locs hP hD hS => ?_)
    refine lv_iload_n hx hb dX3_readEvent_21 rfl (lv_at hl 0 rfl) ?_
    refine z_ge (tgt := 42) hx hb dX3_readEvent_22 (by decide) h (fun h => ?_) (fun h => ?_)
    · refine lv_aload_n hx hb dX3_readEvent_42 rfl (lv_at hl 1 rfl) ?_
      obtain ⟨r4_, hr4_, h⟩ := z_bind h
      refine zVV F (k_X3_readSign l N g a_this a_text a_draft a_text_bytes v_failedAt r3_.1 r3_.2 v_text_length v_text_bytes _ hr4_) zy_X3_readSign zw_263 hP hD hS [0, 2, 4] [1, 3] [2, 0, 3, 1, 4] (wr := [zo_X4 a_draft a_draft_cells v_draft_size, (a_draft_cells, .inl (zI g, 912, .inl v_draft_cells))]) (W1 := [zo_X3 a_this a_text a_draft r4_.2.1 r4_.2.2 v_failedAt, zo_X4 a_draft a_draft_cells v_draft_size, zo_X7 a_text a_text_bytes v_text_length, (a_draft_cells, .inl (zI g, 912, .inl v_draft_cells)), (a_text_bytes, .inl (zY g, 600, .inl v_text_bytes))]) rfl rfl rfl rfl (by decide) rfl rfl (q0 := 0) (he := rfl) (hc := rfl) (rest := []) rfl hl.1 rfl (Nat.le_of_ble_eq_true rfl) ⟨rfl, rfl⟩ ⟨Nat.le_of_ble_eq_true rfl, Nat.le_of_ble_eq_true rfl⟩ ⟨Nat.zero_le _, Nat.zero_le _⟩ dX3_readEvent_43 (st1 := [.int r4_.1]) rfl (fun H locs hP hD hS => ?_)
      refine lv_istore_n (lv' := [(3, .int r4_.1), (2, .int r2_), (0, .ref a_this), (1, .int x1)]) hx hb dX3_readEvent_46 rfl hl (by decide) rfl (fun ls hl => ?_)
      refine lv_bipush (v := 7) hx hb dX3_readEvent_47 (by decide) ?_
      refine lv_aload_n hx hb dX3_readEvent_49 rfl (lv_at hl 2 rfl) ?_
      refine lv_iconst (v := 0) hx hb dX3_readEvent_50 (by decide) ?_
      refine lv_bipush (v := 8) hx hb dX3_readEvent_51 (by decide) ?_
      obtain ⟨r5_, hr5_, h⟩ := z_bind h
      refine zVV F (k_X3_takeNumber l N g a_this a_text a_draft a_text_bytes v_failedAt r4_.2.1 r4_.2.2 v_text_length v_text_bytes 0 8 _ hr5_) zy_X3_takeNumber zw_192 hP hD hS [0, 2, 4] [1, 3] [2, 0, 3, 1, 4] (wr := [zo_X4 a_draft a_draft_cells v_draft_size, (a_draft_cells, .inl (zI g, 912, .inl v_draft_cells))]) (W1 := [zo_X3 a_this a_text a_draft r5_.2.2.1 r5_.2.2.2 r5_.2.1, zo_X4 a_draft a_draft_cells v_draft_size, zo_X7 a_text a_text_bytes v_text_length, (a_draft_cells, .inl (zI g, 912, .inl v_draft_cells)), (a_text_bytes, .inl (zY g, 600, .inl v_text_bytes))]) rfl rfl rfl rfl (by decide) rfl rfl (q0 := 0) (he := rfl) (hc := rfl) (rest := [.int 7]) rfl hl.1 rfl (Nat.le_of_ble_eq_true rfl) ⟨rfl, rfl⟩ ⟨Nat.le_of_ble_eq_true rfl, Nat.le_of_ble_eq_true rfl⟩ ⟨Nat.zero_le _, Nat.zero_le _⟩ dX3_readEvent_53 (st1 := [.int r5_.1, .int 7]) rfl (fun H locs hP hD hS => ?_)
      refine lv_imul hx hb dX3_readEvent_56 ?_
      refine lv_iload_n hx hb dX3_readEvent_57 rfl (lv_at hl 1 rfl) ?_
      refine lv_iadd hx hb dX3_readEvent_58 ?_
      refine z_top Value.int h (fun x6_ h => ?_)
      refine lv_istore (lv' := [(4, .int x6_), (3, .int r4_.1), (2, .int r2_), (0, .ref a_this), (1, .int x1)]) hx hb dX3_readEvent_59 hl (by decide) rfl (fun ls hl => ?_)
      refine lv_aload_n hx hb dX3_readEvent_61 rfl (lv_at hl 3 rfl) ?_
      obtain ⟨r7_, hr7_, h⟩ := z_bind h
      refine zVV F (k_X3_readDuration l N g a_this a_text a_draft a_text_bytes r5_.2.1 r5_.2.2.1 r5_.2.2.2 v_text_length v_text_bytes _ hr7_) zy_X3_readDuration zw_255 hP hD hS [0, 2, 4] [1, 3] [2, 0, 3, 1, 4] (wr := [zo_X4 a_draft a_draft_cells v_draft_size, (a_draft_cells, .inl (zI g, 912, .inl v_draft_cells))]) (W1 := [zo_X3 a_this a_text a_draft r7_.2.2.1 r7_.2.2.2 r7_.2.1, zo_X4 a_draft a_draft_cells v_draft_size, zo_X7 a_text a_text_bytes v_text_length, (a_draft_cells, .inl (zI g, 912, .inl v_draft_cells)), (a_text_bytes, .inl (zY g, 600, .inl v_text_bytes))]) rfl rfl rfl rfl (by decide) rfl rfl (q0 := 0) (he := rfl) (hc := rfl) (rest := []) rfl hl.1 rfl (Nat.le_of_ble_eq_true rfl) ⟨rfl, rfl⟩ ⟨Nat.le_of_ble_eq_true rfl, Nat.le_of_ble_eq_true rfl⟩ ⟨Nat.zero_le _, Nat.zero_le _⟩ dX3_readEvent_62 (st1 := [.int r7_.1]) rfl (fun H locs hP hD hS => ?_)
      refine lv_istore (lv' := [(5, .int r7_.1), (4, .int x6_), (3, .int r4_.1), (2, .int r2_), (0, .ref a_this), (1, .int x1)]) hx hb dX3_readEvent_65 hl (by decide) rfl (fun ls hl => ?_)
      refine lv_aload_n hx hb dX3_readEvent_67 rfl (lv_at hl 4 rfl) ?_
      refine z_get (C := RX3) (T := TX3) (N := 5) (ci := 2) F zu_wsX30 hP 0 rfl rfl 1 (by decide) zw_99 rfl dX3_readEvent_68 ?_
      refine lv_iconst (v := 0) hx hb dX3_readEvent_71 (by decide) ?_
      refine lv_iload_n hx hb dX3_readEvent_72 rfl (lv_at hl 5 rfl) ?_
      refine lv_iload hx hb dX3_readEvent_73 (lv_at hl 1 rfl) ?_
      refine lv_iload_n hx hb dX3_readEvent_75 rfl (lv_at hl 2 rfl) ?_
      refine lv_iload hx hb dX3_readEvent_76 (lv_at hl 0 rfl) ?_
      refine lv_aload_n hx hb dX3_readEvent_78 rfl (lv_at hl 4 rfl) ?_
      refine va_ldcS hx hb F.1.2.2.2.1 (F.2.2.1.2.1 _ zst_X3_132) dX3_readEvent_79 ?_
      obtain ⟨r8_, hr8_, h⟩ := z_bind h
      refine zVV F (k_X3_takeWord l N g a_this a_text a_draft a_text_bytes r7_.2.1 r7_.2.2.1 r7_.2.2.2 v_text_length v_text_bytes 17 _ hr8_) zy_X3_takeWord zw_180 hP hD hS [0, 2, 4] [1, 3] [2, 0, 3, 1, 4] (wr := [zo_X4 a_draft a_draft_cells v_draft_size, (a_draft_cells, .inl (zI g, 912, .inl v_draft_cells))]) (W1 := [zo_X3 a_this a_text a_draft r8_.2.1 r8_.2.2 r7_.2.1, zo_X4 a_draft a_draft_cells v_draft_size, zo_X7 a_text a_text_bytes v_text_length, (a_draft_cells, .inl (zI g, 912, .inl v_draft_cells)), (a_text_bytes, .inl (zY g, 600, .inl v_text_bytes))]) rfl rfl rfl rfl (by decide) rfl rfl (q0 := 0) (he := rfl) (hc := rfl) (rest := [.int r7_.1, .int r4_.1, .int x6_, .int x1, .int 0, .ref a_draft]) rfl hl.1 rfl (Nat.le_of_ble_eq_true rfl) ⟨rfl, rfl⟩ ⟨Nat.le_of_ble_eq_true rfl, Nat.le_of_ble_eq_true rfl⟩ ⟨Nat.zero_le _, Nat.zero_le _⟩ dX3_readEvent_81 (st1 := [.int r8_.1, .int r7_.1, .int r4_.1, .int x6_, .int x1, .int 0, .ref a_draft]) rfl (fun H locs hP hD hS => ?_)
      obtain ⟨r9_, hr9_, h⟩ := z_bind h
      refine zRS F (k_X0_ofNote l N g x6_ r4_.1 r7_.1 r8_.1 _ hr9_) zy_X0_ofNote zw_266 hP hD hS [] rfl rfl (rest := [.int x1, .int 0, .ref a_draft]) rfl hl.1 rfl (Nat.le_of_ble_eq_true rfl) ⟨rfl, rfl⟩ ⟨Nat.le_of_ble_eq_true rfl, Nat.le_of_ble_eq_true rfl⟩ ⟨Nat.zero_le _, Nat.zero_le _⟩ dX3_readEvent_84 (st1 := [.int r9_, .int x1, .int 0, .ref a_draft]) rfl ?_
      obtain ⟨r10_, hr10_, h⟩ := z_bind h
      refine zVV F (k_X4_appendEvent l N g a_draft a_draft_cells v_draft_size v_draft_cells 0 x1 r9_ _ hr10_) zy_X4_appendEvent zw_260 hP hD hS [1, 3] [0, 2, 4] [0, 3, 1, 4, 2] (wr := [zo_X3 a_this a_text a_draft r8_.2.1 r8_.2.2 r7_.2.1, zo_X7 a_text a_text_bytes v_text_length, (a_text_bytes, .inl (zY g, 600, .inl v_text_bytes))]) (W1 := [zo_X3 a_this a_text a_draft r8_.2.1 r8_.2.2 r7_.2.1, zo_X4 a_draft a_draft_cells v_draft_size, zo_X7 a_text a_text_bytes v_text_length, (a_draft_cells, .inl (zI g, 912, .inl r10_)), (a_text_bytes, .inl (zY g, 600, .inl v_text_bytes))]) rfl rfl rfl rfl (by decide) rfl rfl (q0 := 1) (he := rfl) (hc := rfl) (rest := []) rfl hl.1 rfl (Nat.le_of_ble_eq_true rfl) ⟨rfl, rfl⟩ ⟨Nat.le_of_ble_eq_true rfl, Nat.le_of_ble_eq_true rfl⟩ ⟨Nat.zero_le _, Nat.zero_le _⟩ dX3_readEvent_87 (st1 := []) rfl (fun H locs hP hD hS => ?_)
      obtain rfl := Option.some.inj h
      exact zV_v F hr hlocks hQ hP hD hS dX3_readEvent_90
    · refine lv_aload_n hx hb dX3_readEvent_25 rfl (lv_at hl 1 rfl) ?_
      refine z_get (C := RX3) (T := TX3) (N := 5) (ci := 2) F zu_wsX30 hP 0 rfl rfl 1 (by decide) zw_99 rfl dX3_readEvent_26 ?_
      refine lv_iconst (v := 0) hx hb dX3_readEvent_29 (by decide) ?_
      refine lv_iload_n hx hb dX3_readEvent_30 rfl (lv_at hl 2 rfl) ?_
      refine lv_aload_n hx hb dX3_readEvent_31 rfl (lv_at hl 1 rfl) ?_
      obtain ⟨r11_, hr11_, h⟩ := z_bind h
      refine zVV F (k_X3_readDuration l N g a_this a_text a_draft a_text_bytes v_failedAt r3_.1 r3_.2 v_text_length v_text_bytes _ hr11_) zy_X3_readDuration zw_255 hP hD hS [0, 2, 4] [1, 3] [2, 0, 3, 1, 4] (wr := [zo_X4 a_draft a_draft_cells v_draft_size, (a_draft_cells, .inl (zI g, 912, .inl v_draft_cells))]) (W1 := [zo_X3 a_this a_text a_draft r11_.2.2.1 r11_.2.2.2 r11_.2.1, zo_X4 a_draft a_draft_cells v_draft_size, zo_X7 a_text a_text_bytes v_text_length, (a_draft_cells, .inl (zI g, 912, .inl v_draft_cells)), (a_text_bytes, .inl (zY g, 600, .inl v_text_bytes))]) rfl rfl rfl rfl (by decide) rfl rfl (q0 := 0) (he := rfl) (hc := rfl) (rest := [.int x1, .int 0, .ref a_draft]) rfl hl.1 rfl (Nat.le_of_ble_eq_true rfl) ⟨rfl, rfl⟩ ⟨Nat.le_of_ble_eq_true rfl, Nat.le_of_ble_eq_true rfl⟩ ⟨Nat.zero_le _, Nat.zero_le _⟩ dX3_readEvent_32 (st1 := [.int r11_.1, .int x1, .int 0, .ref a_draft]) rfl (fun H locs hP hD hS => ?_)
      obtain ⟨r12_, hr12_, h⟩ := z_bind h
      refine zRS F (k_X0_ofRest l N g r11_.1 _ hr12_) zy_X0_ofRest zw_258 hP hD hS [] rfl rfl (rest := [.int x1, .int 0, .ref a_draft]) rfl hl.1 rfl (Nat.le_of_ble_eq_true rfl) ⟨rfl, rfl⟩ ⟨Nat.le_of_ble_eq_true rfl, Nat.le_of_ble_eq_true rfl⟩ ⟨Nat.zero_le _, Nat.zero_le _⟩ dX3_readEvent_35 (st1 := [.int r12_, .int x1, .int 0, .ref a_draft]) rfl ?_
      obtain ⟨r13_, hr13_, h⟩ := z_bind h
      refine zVV F (k_X4_appendEvent l N g a_draft a_draft_cells v_draft_size v_draft_cells 0 x1 r12_ _ hr13_) zy_X4_appendEvent zw_260 hP hD hS [1, 3] [0, 2, 4] [0, 3, 1, 4, 2] (wr := [zo_X3 a_this a_text a_draft r11_.2.2.1 r11_.2.2.2 r11_.2.1, zo_X7 a_text a_text_bytes v_text_length, (a_text_bytes, .inl (zY g, 600, .inl v_text_bytes))]) (W1 := [zo_X3 a_this a_text a_draft r11_.2.2.1 r11_.2.2.2 r11_.2.1, zo_X4 a_draft a_draft_cells v_draft_size, zo_X7 a_text a_text_bytes v_text_length, (a_draft_cells, .inl (zI g, 912, .inl r13_)), (a_text_bytes, .inl (zY g, 600, .inl v_text_bytes))]) rfl rfl rfl rfl (by decide) rfl rfl (q0 := 1) (he := rfl) (hc := rfl) (rest := []) rfl hl.1 rfl (Nat.le_of_ble_eq_true rfl) ⟨rfl, rfl⟩ ⟨Nat.le_of_ble_eq_true rfl, Nat.le_of_ble_eq_true rfl⟩ ⟨Nat.zero_le _, Nat.zero_le _⟩ dX3_readEvent_38 (st1 := []) rfl (fun H locs hP hD hS => ?_)
      obtain rfl := Option.some.inj h
      exact zV_v F hr hlocks hQ hP hD hS dX3_readEvent_41
  · refine lv_aload_n hx hb dX3_readEvent_7 rfl (lv_at hl 0 rfl) ?_
    obtain ⟨r14_, hr14_, h⟩ := z_bind h
    refine zVV F (k_X3_fail l N g a_this a_text a_draft v_to v_failedAt v_from _ hr14_) zy_X3_fail zw_183 hP hD hS [0] [1, 2, 3, 4] [4, 0, 1, 2, 3] (wr := [zo_X4 a_draft a_draft_cells v_draft_size, zo_X7 a_text a_text_bytes v_text_length, (a_draft_cells, .inl (zI g, 912, .inl v_draft_cells)), (a_text_bytes, .inl (zY g, 600, .inl v_text_bytes))]) (W1 := [zo_X3 a_this a_text a_draft v_from v_to r14_, zo_X4 a_draft a_draft_cells v_draft_size, zo_X7 a_text a_text_bytes v_text_length, (a_draft_cells, .inl (zI g, 912, .inl v_draft_cells)), (a_text_bytes, .inl (zY g, 600, .inl v_text_bytes))]) rfl rfl rfl rfl (by decide) rfl rfl (q0 := 0) (he := rfl) (hc := rfl) (rest := []) rfl hl.1 rfl (Nat.le_of_ble_eq_true rfl) ⟨rfl, rfl⟩ ⟨Nat.le_of_ble_eq_true rfl, Nat.le_of_ble_eq_true rfl⟩ ⟨Nat.zero_le _, Nat.zero_le _⟩ dX3_readEvent_8 (st1 := []) rfl (fun H locs hP hD hS => ?_)
    obtain rfl := Option.some.inj h
    exact zV_v F hr hlocks hQ hP hD hS dX3_readEvent_11
def f_X3_readEvents_B7 (N : Nat) (v_text_length : Int32) (v_text_bytes : Nat → Int32) (v_draft_size : Int32) (x1 : Int32) (kh7_ : Int32 × Int32 × Int32 × Int32 × (Nat → Int32) → Option (Int32 × Int32 × Int32 × (Nat → Int32))) (v7_ : Int32 × Int32 × Int32 × Int32 × (Nat → Int32)) : Option (Int32 × Int32 × Int32 × (Nat → Int32)) :=
  if v7_.1 < 24 then Option.bind (f_X3_beginsEvent N v7_.2.1 v7_.2.2.1 v7_.2.2.2.1 v_text_length v_text_bytes) (fun (r3_ : Int32) => if r3_ = 0 then some (v7_.2.1, v7_.2.2.1, v7_.2.2.2.1, v7_.2.2.2.2) else Option.bind (f_X3_readEvent N v7_.2.1 v7_.2.2.1 v7_.2.2.2.1 v_draft_size v_text_length v7_.2.2.2.2 v_text_bytes x1) (fun (r4_ : Int32 × Int32 × Int32 × (Nat → Int32)) => Option.bind (some (v7_.1 + 1)) (fun (x5_ : Int32) => kh7_ (x5_, r4_.1, r4_.2.1, r4_.2.2.1, r4_.2.2.2)))) else some (v7_.2.1, v7_.2.2.1, v7_.2.2.2.1, v7_.2.2.2.2)
def f_X3_readEvents (N : Nat) (v_failedAt : Int32) (v_from : Int32) (v_to : Int32) (v_draft_size : Int32) (v_text_length : Int32) (v_draft_cells : Nat → Int32) (v_text_bytes : Nat → Int32) (x1 : Int32) : Option (Int32 × Int32 × Int32 × (Nat → Int32)) :=
  Option.bind (f_X3_readEvent N v_failedAt v_from v_to v_draft_size v_text_length v_draft_cells v_text_bytes x1) (fun (r1_ : Int32 × Int32 × Int32 × (Nat → Int32)) => Option.bind (zLoop (f_X3_readEvents_B7 N v_text_length v_text_bytes v_draft_size x1) N (1, r1_.1, r1_.2.1, r1_.2.2.1, r1_.2.2.2)) (fun (r2_ : Int32 × Int32 × Int32 × (Nat → Int32)) => some (r2_.1, r2_.2.1, r2_.2.2.1, r2_.2.2.2)))
abbrev rm_X3_readEvents : Room := { frames := 10, cells := 0, slots := 0, locals := 291 }
theorem zy_X3_readEvents : zYv yX3_readEvents RX3 cX3_readEvents 3 none 1 := ⟨zw_280, zw_281, zw_174, zw_272, ⟨by decide, by decide⟩, by decide +kernel⟩
set_option maxHeartbeats 4000000 in
set_option maxRecDepth 100000 in
theorem k_X3_readEvents (l : Launch) (N : Nat) (g : zEnv) (a_this a_text a_draft a_draft_cells a_text_bytes : Nat) (v_failedAt : Int32) (v_from : Int32) (v_to : Int32) (v_draft_size : Int32) (v_text_length : Int32) (v_draft_cells : Nat → Int32) (v_text_bytes : Nat → Int32) (x1 : Int32) (r : Int32 × Int32 × Int32 × (Nat → Int32)) (h : f_X3_readEvents N v_failedAt v_from v_to v_draft_size v_text_length v_draft_cells v_text_bytes x1 = some r) : ZV l yX3_readEvents cX3_readEvents 3 none rm_X3_readEvents g [.ref a_this, .int x1] [zo_X3 a_this a_text a_draft v_from v_to v_failedAt, zo_X4 a_draft a_draft_cells v_draft_size, zo_X7 a_text a_text_bytes v_text_length, (a_draft_cells, .inl (zI g, 912, .inl v_draft_cells)), (a_text_bytes, .inl (zY g, 600, .inl v_text_bytes))] [zo_X3 a_this a_text a_draft r.2.1 r.2.2.1 r.1, zo_X4 a_draft a_draft_cells v_draft_size, zo_X7 a_text a_text_bytes v_text_length, (a_draft_cells, .inl (zI g, 912, .inl r.2.2.2)), (a_text_bytes, .inl (zY g, 600, .inl v_text_bytes))] none := by
  refine zV_of (by decide) (Nat.le_of_ble_eq_true rfl) ?_
  intro p e s m below meth c A H locs ls Q R F hRm hr hlocks hP hD hS hl hQ
  subst hRm
  have F : zF p m c cX3_readEvents 3 s (([.ref a_this, .int x1] : List Value)).toArray RX3 g A := F
  have hx := F.1.1
  have hb := F.1.2.1
  have hz := F.1.2.2.2.2
  have hl : lv_has ls 3 [(0, .ref a_this), (1, .int x1)] := hl
  unfold f_X3_readEvents at h
  refine lv_aload_n hx hb dX3_readEvents_0 rfl (lv_at hl 0 rfl) ?_
  refine lv_iload_n hx hb dX3_readEvents_1 rfl (lv_at hl 1 rfl) ?_
  obtain ⟨r1_, hr1_, h⟩ := z_bind h
  refine zVV F (k_X3_readEvent l N g a_this a_text a_draft a_draft_cells a_text_bytes v_failedAt v_from v_to v_draft_size v_text_length v_draft_cells v_text_bytes x1 _ hr1_) zy_X3_readEvent zw_269 hP hD hS [0, 1, 2, 3, 4] [] [0, 1, 2, 3, 4] (wr := []) (W1 := [zo_X3 a_this a_text a_draft r1_.2.1 r1_.2.2.1 r1_.1, zo_X4 a_draft a_draft_cells v_draft_size, zo_X7 a_text a_text_bytes v_text_length, (a_draft_cells, .inl (zI g, 912, .inl r1_.2.2.2)), (a_text_bytes, .inl (zY g, 600, .inl v_text_bytes))]) rfl rfl rfl rfl (by decide) rfl rfl (q0 := 0) (he := rfl) (hc := rfl) (rest := []) rfl hl.1 rfl (Nat.le_of_ble_eq_true rfl) ⟨rfl, rfl⟩ ⟨Nat.le_of_ble_eq_true rfl, Nat.le_of_ble_eq_true rfl⟩ ⟨Nat.zero_le _, Nat.zero_le _⟩ dX3_readEvents_2 (st1 := []) rfl (fun H locs hP hD hS => ?_)
  refine lv_iconst (v := 1) hx hb dX3_readEvents_5 (by decide) ?_
  refine lv_istore_n (lv' := [(2, .int 1), (0, .ref a_this), (1, .int x1)]) hx hb dX3_readEvents_6 rfl hl (by decide) rfl (fun ls hl => ?_)
  obtain ⟨r2_, hA7_, h⟩ := z_bind h
  have k31_ : ∀ (H : Heap) (locs : List Loc) (ls : Array Slot), va_P (zD g) vwCl [zo_X3 a_this a_text a_draft r2_.2.1 r2_.2.2.1 r2_.1, zo_X4 a_draft a_draft_cells v_draft_size, zo_X7 a_text a_text_bytes v_text_length, (a_draft_cells, .inl (zI g, 912, .inl r2_.2.2.2)), (a_text_bytes, .inl (zY g, 600, .inl v_text_bytes))] H → va_D A [zo_X3 a_this a_text a_draft r2_.2.1 r2_.2.2.1 r2_.1, zo_X4 a_draft a_draft_cells v_draft_size, zo_X7 a_text a_text_bytes v_text_length, (a_draft_cells, .inl (zI g, 912, .inl r2_.2.2.2)), (a_text_bytes, .inl (zY g, 600, .inl v_text_bytes))] → va_S A s.heap H locs → lv_has ls 3 [] → W p l e rm_X3_readEvents s m (([.ref a_this, .int x1] : List Value)).toArray below meth c H locs 0 0 Q (F0 m 31 ls []) := by
    intro H locs ls hP hD hS hl
    obtain rfl := Option.some.inj h
    exact zV_v F hr hlocks hQ hP hD hS dX3_readEvents_31
  have h := hA7_
  have l7_ : ∀ (n7_ : Nat) (v7_ : Int32 × Int32 × Int32 × Int32 × (Nat → Int32)), zLoop (f_X3_readEvents_B7 N v_text_length v_text_bytes v_draft_size x1) n7_ v7_ = some r2_ → ∀ (H : Heap) (locs : List Loc) (ls : Array Slot), va_P (zD g) vwCl [zo_X3 a_this a_text a_draft v7_.2.2.1 v7_.2.2.2.1 v7_.2.1, zo_X4 a_draft a_draft_cells v_draft_size, zo_X7 a_text a_text_bytes v_text_length, (a_draft_cells, .inl (zI g, 912, .inl v7_.2.2.2.2)), (a_text_bytes, .inl (zY g, 600, .inl v_text_bytes))] H → va_D A [zo_X3 a_this a_text a_draft v7_.2.2.1 v7_.2.2.2.1 v7_.2.1, zo_X4 a_draft a_draft_cells v_draft_size, zo_X7 a_text a_text_bytes v_text_length, (a_draft_cells, .inl (zI g, 912, .inl v7_.2.2.2.2)), (a_text_bytes, .inl (zY g, 600, .inl v_text_bytes))] → va_S A s.heap H locs → lv_has ls 3 [(0, .ref a_this), (1, .int x1), (2, .int v7_.1)] → W p l e rm_X3_readEvents s m (([.ref a_this, .int x1] : List Value)).toArray below meth c H locs 0 0 Q (F0 m 7 ls []) := by
    intro n7_
    induction n7_ with
    | zero => intro v7_ h; cases h
    | succ n7_ ih7_ =>
      intro v7_ h H locs ls hP hD hS hl
      have h : f_X3_readEvents_B7 N v_text_length v_text_bytes v_draft_size x1 (zLoop (f_X3_readEvents_B7 N v_text_length v_text_bytes v_draft_size x1) n7_) v7_ = some r2_ := h
      unfold f_X3_readEvents_B7 at h
      refine lv_iload_n hx hb dX3_readEvents_7 rfl (lv_at hl 2 rfl) ?_
      refine lv_bipush (v := 24) hx hb dX3_readEvents_8 (by decide) ?_
      refine z_cge (tgt := 31) hx hb dX3_readEvents_10 (by decide) h (fun h => ?_) (fun h => ?_)
      · obtain rfl := Option.some.inj h
        exact k31_ _ _ _ hP hD hS (lv_sub hl [] rfl)
      · refine lv_aload_n hx hb dX3_readEvents_13 rfl (lv_at hl 0 rfl) ?_
        obtain ⟨r3_, hr3_, h⟩ := z_bind h
        refine zRV F (k_X3_beginsEvent l N g a_this a_text a_draft a_text_bytes v7_.2.1 v7_.2.2.1 v7_.2.2.2.1 v_text_length v_text_bytes _ hr3_) zy_X3_beginsEvent zw_252 hP hD hS [0, 2, 4] rfl rfl (q0 := 0) (he := rfl) (hc := rfl) (rest := []) rfl hl.1 rfl (Nat.le_of_ble_eq_true rfl) ⟨rfl, rfl⟩ ⟨Nat.le_of_ble_eq_true rfl, Nat.le_of_ble_eq_true rfl⟩ ⟨Nat.zero_le _, Nat.zero_le _⟩ dX3_readEvents_14 (st1 := [.int r3_]) rfl ?_
        refine z_eq (tgt := 31) hx hb dX3_readEvents_17 (by decide) h (fun h => ?_) (fun h => ?_)
        · obtain rfl := Option.some.inj h
          exact k31_ _ _ _ hP hD hS (lv_sub hl [] rfl)
        · refine lv_aload_n hx hb dX3_readEvents_20 rfl (lv_at hl 0 rfl) ?_
          refine lv_iload_n hx hb dX3_readEvents_21 rfl (lv_at hl 1 rfl) ?_
          obtain ⟨r4_, hr4_, h⟩ := z_bind h
          refine zVV F (k_X3_readEvent l N g a_this a_text a_draft a_draft_cells a_text_bytes v7_.2.1 v7_.2.2.1 v7_.2.2.2.1 v_draft_size v_text_length v7_.2.2.2.2 v_text_bytes x1 _ hr4_) zy_X3_readEvent zw_269 hP hD hS [0, 1, 2, 3, 4] [] [0, 1, 2, 3, 4] (wr := []) (W1 := [zo_X3 a_this a_text a_draft r4_.2.1 r4_.2.2.1 r4_.1, zo_X4 a_draft a_draft_cells v_draft_size, zo_X7 a_text a_text_bytes v_text_length, (a_draft_cells, .inl (zI g, 912, .inl r4_.2.2.2)), (a_text_bytes, .inl (zY g, 600, .inl v_text_bytes))]) rfl rfl rfl rfl (by decide) rfl rfl (q0 := 0) (he := rfl) (hc := rfl) (rest := []) rfl hl.1 rfl (Nat.le_of_ble_eq_true rfl) ⟨rfl, rfl⟩ ⟨Nat.le_of_ble_eq_true rfl, Nat.le_of_ble_eq_true rfl⟩ ⟨Nat.zero_le _, Nat.zero_le _⟩ dX3_readEvents_22 (st1 := []) rfl (fun H locs hP hD hS => ?_)
          refine z_nm h (fun x5_ ex5_ h => ?_)
          refine lv_iinc (v := x5_) (lv' := [(2, .int x5_), (0, .ref a_this), (1, .int x1)]) hx hb dX3_readEvents_25 hl (k := 2) rfl (by rw [ex5_]; rfl) (by decide) rfl (fun ls hl => ?_)
          refine lv_goto (tgt := 7) hx hb dX3_readEvents_28 (by decide) ?_
          exact ih7_ _ h _ _ _ hP hD hS (lv_sub hl [1, 2, 0] rfl)
  exact l7_ N _ h _ _ _ hP hD hS (lv_sub hl [1, 2, 0] rfl)
def f_X3_findFault (N : Nat) (v_failedAt : Int32) (v_from : Int32) (v_to : Int32) (v_draft_size : Int32) (v_text_length : Int32) (v_draft_cells : Nat → Int32) (v_text_bytes : Nat → Int32) : Option (Int32 × Int32 × Int32 × Int32 × Int32 × (Nat → Int32)) :=
  Option.bind (f_X4_becomeDraft N v_draft_size v_draft_cells) (fun (r1_ : Int32 × (Nat → Int32)) => Option.bind (f_X3_advance N v_from 0 v_text_length v_text_bytes) (fun (r2_ : Int32 × Int32) => Option.bind (f_X3_readHead N (-1000) r2_.1 r2_.2 r1_.1 v_text_length r1_.2 v_text_bytes) (fun (r3_ : Int32 × Int32 × Int32 × (Nat → Int32)) => Option.bind (f_X3_takeWord N r3_.1 r3_.2.1 r3_.2.2.1 v_text_length v_text_bytes 9) (fun (r4_ : Int32 × Int32 × Int32) => Option.bind (if r4_.1 = 0 then some (r3_.1, r4_.2.1, r4_.2.2, r3_.2.2.2) else Option.bind (f_X3_takeNumber N r3_.1 r4_.2.1 r4_.2.2 v_text_length v_text_bytes 1 2) (fun (r13_ : Int32 × Int32 × Int32 × Int32) => Option.bind (f_X3_readEvents N r13_.2.1 r13_.2.2.1 r13_.2.2.2 r1_.1 v_text_length r3_.2.2.2 v_text_bytes (r13_.1 - 1)) (fun (r14_ : Int32 × Int32 × Int32 × (Nat → Int32)) => if r13_.1 = 1 then Option.bind (f_X3_takeWord N r14_.1 r14_.2.1 r14_.2.2.1 v_text_length v_text_bytes 9) (fun (r15_ : Int32 × Int32 × Int32) => if r15_.1 = 0 then some (r14_.1, r15_.2.1, r15_.2.2, r14_.2.2.2) else Option.bind (f_X3_takeNumber N r14_.1 r15_.2.1 r15_.2.2 v_text_length v_text_bytes 2 2) (fun (r16_ : Int32 × Int32 × Int32 × Int32) => Option.bind (f_X3_readEvents N r16_.2.1 r16_.2.2.1 r16_.2.2.2 r1_.1 v_text_length r14_.2.2.2 v_text_bytes (r16_.1 - 1)) (fun (r17_ : Int32 × Int32 × Int32 × (Nat → Int32)) => some (r17_.1, r17_.2.1, r17_.2.2.1, r17_.2.2.2)))) else some (r14_.1, r14_.2.1, r14_.2.2.1, r14_.2.2.2)))) (fun (r5_ : Int32 × Int32 × Int32 × (Nat → Int32)) => Option.bind (f_X3_takeWord N r5_.1 r5_.2.1 r5_.2.2.1 v_text_length v_text_bytes 18) (fun (r6_ : Int32 × Int32 × Int32) => Option.bind (if r6_.1 = 0 then some (r5_.1, r6_.2.1, r6_.2.2, r5_.2.2.2) else Option.bind (f_X3_takeNumber N r5_.1 r6_.2.1 r6_.2.2 v_text_length v_text_bytes 2 4) (fun (r11_ : Int32 × Int32 × Int32 × Int32) => Option.bind (f_X4_putValue N r1_.1 r5_.2.2.2 0 5 r11_.1) (fun (r12_ : (Nat → Int32)) => some (r11_.2.1, r11_.2.2.1, r11_.2.2.2, r12_)))) (fun (r7_ : Int32 × Int32 × Int32 × (Nat → Int32)) => Option.bind (f_X3_needWord N r7_.1 r7_.2.1 r7_.2.2.1 v_text_length v_text_bytes 19) (fun (r8_ : Int32 × Int32 × Int32) => Option.bind (if r8_.2.1 < r8_.2.2 then Option.bind (f_X3_fail N r8_.1 r8_.2.1) (fun (r10_ : Int32) => some r10_) else some r8_.1) (fun (r9_ : Int32) => some (r9_, r9_, r8_.2.1, r8_.2.2, r1_.1, r7_.2.2.2))))))))))
abbrev rm_X3_findFault : Room := { frames := 11, cells := 0, slots := 0, locals := 313 }
theorem zy_X3_findFault : zYv yX3_findFault RX3 cX3_findFault 2 (some .int) 0 := ⟨zw_667, zw_668, zw_174, zw_282, ⟨by decide, by decide⟩, by decide +kernel⟩
set_option maxHeartbeats 4000000 in
set_option maxRecDepth 100000 in
theorem k_X3_findFault (l : Launch) (N : Nat) (g : zEnv) (a_this a_text a_draft a_draft_cells a_text_bytes : Nat) (v_failedAt : Int32) (v_from : Int32) (v_to : Int32) (v_draft_size : Int32) (v_text_length : Int32) (v_draft_cells : Nat → Int32) (v_text_bytes : Nat → Int32) (r : Int32 × Int32 × Int32 × Int32 × Int32 × (Nat → Int32)) (h : f_X3_findFault N v_failedAt v_from v_to v_draft_size v_text_length v_draft_cells v_text_bytes = some r) : ZV l yX3_findFault cX3_findFault 2 (some .int) rm_X3_findFault g [.ref a_this] [zo_X3 a_this a_text a_draft v_from v_to v_failedAt, zo_X4 a_draft a_draft_cells v_draft_size, zo_X7 a_text a_text_bytes v_text_length, (a_draft_cells, .inl (zI g, 912, .inl v_draft_cells)), (a_text_bytes, .inl (zY g, 600, .inl v_text_bytes))] [zo_X3 a_this a_text a_draft r.2.2.1 r.2.2.2.1 r.2.1, zo_X4 a_draft a_draft_cells r.2.2.2.2.1, zo_X7 a_text a_text_bytes v_text_length, (a_draft_cells, .inl (zI g, 912, .inl r.2.2.2.2.2)), (a_text_bytes, .inl (zY g, 600, .inl v_text_bytes))] (some (.int r.1)) := by
  refine zV_of (by decide) (Nat.le_of_ble_eq_true rfl) ?_
  intro p e s m below meth c A H locs ls Q R F hRm hr hlocks hP hD hS hl hQ
  subst hRm
  have F : zF p m c cX3_findFault 2 s (([.ref a_this] : List Value)).toArray RX3 g A := F
  have hx := F.1.1
  have hb := F.1.2.1
  have hz := F.1.2.2.2.2
  have hl : lv_has ls 2 [(0, .ref a_this)] := hl
  unfold f_X3_findFault at h
  refine lv_aload_n hx hb dX3_findFault_0 rfl (lv_at hl 0 rfl) ?_
  refine z_get (C := RX3) (T := TX3) (N := 5) (ci := 2) F zu_wsX30 hP 0 rfl rfl 1 (by decide) zw_99 rfl dX3_findFault_1 ?_
  obtain ⟨r1_, hr1_, h⟩ := z_bind h
  refine zVV F (k_X4_becomeDraft l N g a_draft a_draft_cells v_draft_size v_draft_cells _ hr1_) zy_X4_becomeDraft zw_273 hP hD hS [1, 3] [0, 2, 4] [0, 3, 1, 4, 2] (wr := [zo_X3 a_this a_text a_draft v_from v_to v_failedAt, zo_X7 a_text a_text_bytes v_text_length, (a_text_bytes, .inl (zY g, 600, .inl v_text_bytes))]) (W1 := [zo_X3 a_this a_text a_draft v_from v_to v_failedAt, zo_X4 a_draft a_draft_cells r1_.1, zo_X7 a_text a_text_bytes v_text_length, (a_draft_cells, .inl (zI g, 912, .inl r1_.2)), (a_text_bytes, .inl (zY g, 600, .inl v_text_bytes))]) rfl rfl rfl rfl (by decide) rfl rfl (q0 := 1) (he := rfl) (hc := rfl) (rest := []) rfl hl.1 rfl (Nat.le_of_ble_eq_true rfl) ⟨rfl, rfl⟩ ⟨Nat.le_of_ble_eq_true rfl, Nat.le_of_ble_eq_true rfl⟩ ⟨Nat.zero_le _, Nat.zero_le _⟩ dX3_findFault_4 (st1 := []) rfl (fun H locs hP hD hS => ?_)
  refine lv_aload_n hx hb dX3_findFault_7 rfl (lv_at hl 0 rfl) ?_
  refine lv_sipush (v := (-1000)) hx hb dX3_findFault_8 (by decide) ?_
  refine z_put (C := RX3) (T := TX3) (N := 5) (ci := 2) (W1 := [zo_X3 a_this a_text a_draft v_from v_to (-1000), zo_X4 a_draft a_draft_cells r1_.1, zo_X7 a_text a_text_bytes v_text_length, (a_draft_cells, .inl (zI g, 912, .inl r1_.2)), (a_text_bytes, .inl (zY g, 600, .inl v_text_bytes))]) F zu_wsX30 tyX3 tyX3_ok nmX3 hP hD hS 0 rfl rfl 4 (by decide) zw_170 rfl rfl rfl (Nat.le_of_ble_eq_true rfl) dX3_findFault_11 rfl (fun H locs hP hD hS => ?_)
  refine lv_aload_n hx hb dX3_findFault_14 rfl (lv_at hl 0 rfl) ?_
  refine lv_iconst (v := 0) hx hb dX3_findFault_15 (by decide) ?_
  refine z_put (C := RX3) (T := TX3) (N := 5) (ci := 2) (W1 := [zo_X3 a_this a_text a_draft v_from 0 (-1000), zo_X4 a_draft a_draft_cells r1_.1, zo_X7 a_text a_text_bytes v_text_length, (a_draft_cells, .inl (zI g, 912, .inl r1_.2)), (a_text_bytes, .inl (zY g, 600, .inl v_text_bytes))]) F zu_wsX30 tyX3 tyX3_ok nmX3 hP hD hS 0 rfl rfl 3 (by decide) zw_127 rfl rfl rfl (Nat.le_of_ble_eq_true rfl) dX3_findFault_16 rfl (fun H locs hP hD hS => ?_)
  refine lv_aload_n hx hb dX3_findFault_19 rfl (lv_at hl 0 rfl) ?_
  obtain ⟨r2_, hr2_, h⟩ := z_bind h
  refine zVV F (k_X3_advance l N g a_this a_text a_draft a_text_bytes (-1000) v_from 0 v_text_length v_text_bytes _ hr2_) zy_X3_advance zw_175 hP hD hS [0, 2, 4] [1, 3] [2, 0, 3, 1, 4] (wr := [zo_X4 a_draft a_draft_cells r1_.1, (a_draft_cells, .inl (zI g, 912, .inl r1_.2))]) (W1 := [zo_X3 a_this a_text a_draft r2_.1 r2_.2 (-1000), zo_X4 a_draft a_draft_cells r1_.1, zo_X7 a_text a_text_bytes v_text_length, (a_draft_cells, .inl (zI g, 912, .inl r1_.2)), (a_text_bytes, .inl (zY g, 600, .inl v_text_bytes))]) rfl rfl rfl rfl (by decide) rfl rfl (q0 := 0) (he := rfl) (hc := rfl) (rest := []) rfl hl.1 rfl (Nat.le_of_ble_eq_true rfl) ⟨rfl, rfl⟩ ⟨Nat.le_of_ble_eq_true rfl, Nat.le_of_ble_eq_true rfl⟩ ⟨Nat.zero_le _, Nat.zero_le _⟩ dX3_findFault_20 (st1 := []) rfl (fun H locs hP hD hS => ?_)
  refine lv_aload_n hx hb dX3_findFault_23 rfl (lv_at hl 0 rfl) ?_
  obtain ⟨r3_, hr3_, h⟩ := z_bind h
  refine zVV F (k_X3_readHead l N g a_this a_text a_draft a_draft_cells a_text_bytes (-1000) r2_.1 r2_.2 r1_.1 v_text_length r1_.2 v_text_bytes _ hr3_) zy_X3_readHead zw_276 hP hD hS [0, 1, 2, 3, 4] [] [0, 1, 2, 3, 4] (wr := []) (W1 := [zo_X3 a_this a_text a_draft r3_.2.1 r3_.2.2.1 r3_.1, zo_X4 a_draft a_draft_cells r1_.1, zo_X7 a_text a_text_bytes v_text_length, (a_draft_cells, .inl (zI g, 912, .inl r3_.2.2.2)), (a_text_bytes, .inl (zY g, 600, .inl v_text_bytes))]) rfl rfl rfl rfl (by decide) rfl rfl (q0 := 0) (he := rfl) (hc := rfl) (rest := []) rfl hl.1 rfl (Nat.le_of_ble_eq_true rfl) ⟨rfl, rfl⟩ ⟨Nat.le_of_ble_eq_true rfl, Nat.le_of_ble_eq_true rfl⟩ ⟨Nat.zero_le _, Nat.zero_le _⟩ dX3_findFault_24 (st1 := []) rfl (fun H locs hP hD hS => ?_)
  refine lv_aload_n hx hb dX3_findFault_27 rfl (lv_at hl 0 rfl) ?_
  refine va_ldcS hx hb F.1.2.2.2.1 (F.2.2.1.2.1 _ zst_X3_40) dX3_findFault_28 ?_
  obtain ⟨r4_, hr4_, h⟩ := z_bind h
  refine zVV F (k_X3_takeWord l N g a_this a_text a_draft a_text_bytes r3_.1 r3_.2.1 r3_.2.2.1 v_text_length v_text_bytes 9 _ hr4_) zy_X3_takeWord zw_180 hP hD hS [0, 2, 4] [1, 3] [2, 0, 3, 1, 4] (wr := [zo_X4 a_draft a_draft_cells r1_.1, (a_draft_cells, .inl (zI g, 912, .inl r3_.2.2.2))]) (W1 := [zo_X3 a_this a_text a_draft r4_.2.1 r4_.2.2 r3_.1, zo_X4 a_draft a_draft_cells r1_.1, zo_X7 a_text a_text_bytes v_text_length, (a_draft_cells, .inl (zI g, 912, .inl r3_.2.2.2)), (a_text_bytes, .inl (zY g, 600, .inl v_text_bytes))]) rfl rfl rfl rfl (by decide) rfl rfl (q0 := 0) (he := rfl) (hc := rfl) (rest := []) rfl hl.1 rfl (Nat.le_of_ble_eq_true rfl) ⟨rfl, rfl⟩ ⟨Nat.le_of_ble_eq_true rfl, Nat.le_of_ble_eq_true rfl⟩ ⟨Nat.zero_le _, Nat.zero_le _⟩ dX3_findFault_30 (st1 := [.int r4_.1]) rfl (fun H locs hP hD hS => ?_)
  obtain ⟨r5_, hA76_, h⟩ := z_bind h
  have k76_ : ∀ (H : Heap) (locs : List Loc) (ls : Array Slot), va_P (zD g) vwCl [zo_X3 a_this a_text a_draft r5_.2.1 r5_.2.2.1 r5_.1, zo_X4 a_draft a_draft_cells r1_.1, zo_X7 a_text a_text_bytes v_text_length, (a_draft_cells, .inl (zI g, 912, .inl r5_.2.2.2)), (a_text_bytes, .inl (zY g, 600, .inl v_text_bytes))] H → va_D A [zo_X3 a_this a_text a_draft r5_.2.1 r5_.2.2.1 r5_.1, zo_X4 a_draft a_draft_cells r1_.1, zo_X7 a_text a_text_bytes v_text_length, (a_draft_cells, .inl (zI g, 912, .inl r5_.2.2.2)), (a_text_bytes, .inl (zY g, 600, .inl v_text_bytes))] → va_S A s.heap H locs → lv_has ls 2 [(0, .ref a_this)] → W p l e rm_X3_findFault s m (([.ref a_this] : List Value)).toArray below meth c H locs 0 0 Q (F0 m 76 ls []) := by
    intro H locs ls hP hD hS hl
    refine lv_aload_n hx hb dX3_findFault_76 rfl (lv_at hl 0 rfl) ?_
    refine va_ldcS hx hb F.1.2.2.2.1 (F.2.2.1.2.1 _ zst_X3_54) dX3_findFault_77 ?_
    obtain ⟨r6_, hr6_, h⟩ := z_bind h
    refine zVV F (k_X3_takeWord l N g a_this a_text a_draft a_text_bytes r5_.1 r5_.2.1 r5_.2.2.1 v_text_length v_text_bytes 18 _ hr6_) zy_X3_takeWord zw_180 hP hD hS [0, 2, 4] [1, 3] [2, 0, 3, 1, 4] (wr := [zo_X4 a_draft a_draft_cells r1_.1, (a_draft_cells, .inl (zI g, 912, .inl r5_.2.2.2))]) (W1 := [zo_X3 a_this a_text a_draft r6_.2.1 r6_.2.2 r5_.1, zo_X4 a_draft a_draft_cells r1_.1, zo_X7 a_text a_text_bytes v_text_length, (a_draft_cells, .inl (zI g, 912, .inl r5_.2.2.2)), (a_text_bytes, .inl (zY g, 600, .inl v_text_bytes))]) rfl rfl rfl rfl (by decide) rfl rfl (q0 := 0) (he := rfl) (hc := rfl) (rest := []) rfl hl.1 rfl (Nat.le_of_ble_eq_true rfl) ⟨rfl, rfl⟩ ⟨Nat.le_of_ble_eq_true rfl, Nat.le_of_ble_eq_true rfl⟩ ⟨Nat.zero_le _, Nat.zero_le _⟩ dX3_findFault_79 (st1 := [.int r6_.1]) rfl (fun H locs hP hD hS => ?_)
    obtain ⟨r7_, hA100_, h⟩ := z_bind h
    have k100_ : ∀ (H : Heap) (locs : List Loc) (ls : Array Slot), va_P (zD g) vwCl [zo_X3 a_this a_text a_draft r7_.2.1 r7_.2.2.1 r7_.1, zo_X4 a_draft a_draft_cells r1_.1, zo_X7 a_text a_text_bytes v_text_length, (a_draft_cells, .inl (zI g, 912, .inl r7_.2.2.2)), (a_text_bytes, .inl (zY g, 600, .inl v_text_bytes))] H → va_D A [zo_X3 a_this a_text a_draft r7_.2.1 r7_.2.2.1 r7_.1, zo_X4 a_draft a_draft_cells r1_.1, zo_X7 a_text a_text_bytes v_text_length, (a_draft_cells, .inl (zI g, 912, .inl r7_.2.2.2)), (a_text_bytes, .inl (zY g, 600, .inl v_text_bytes))] → va_S A s.heap H locs → lv_has ls 2 [(0, .ref a_this)] → W p l e rm_X3_findFault s m (([.ref a_this] : List Value)).toArray below meth c H locs 0 0 Q (F0 m 100 ls []) := by
      intro H locs ls hP hD hS hl
      refine lv_aload_n hx hb dX3_findFault_100 rfl (lv_at hl 0 rfl) ?_
      refine va_ldcS hx hb F.1.2.2.2.1 (F.2.2.1.2.1 _ zst_X3_60) dX3_findFault_101 ?_
      obtain ⟨r8_, hr8_, h⟩ := z_bind h
      refine zVV F (k_X3_needWord l N g a_this a_text a_draft a_text_bytes r7_.1 r7_.2.1 r7_.2.2.1 v_text_length v_text_bytes 19 _ hr8_) zy_X3_needWord zw_195 hP hD hS [0, 2, 4] [1, 3] [2, 0, 3, 1, 4] (wr := [zo_X4 a_draft a_draft_cells r1_.1, (a_draft_cells, .inl (zI g, 912, .inl r7_.2.2.2))]) (W1 := [zo_X3 a_this a_text a_draft r8_.2.1 r8_.2.2 r8_.1, zo_X4 a_draft a_draft_cells r1_.1, zo_X7 a_text a_text_bytes v_text_length, (a_draft_cells, .inl (zI g, 912, .inl r7_.2.2.2)), (a_text_bytes, .inl (zY g, 600, .inl v_text_bytes))]) rfl rfl rfl rfl (by decide) rfl rfl (q0 := 0) (he := rfl) (hc := rfl) (rest := []) rfl hl.1 rfl (Nat.le_of_ble_eq_true rfl) ⟨rfl, rfl⟩ ⟨Nat.le_of_ble_eq_true rfl, Nat.le_of_ble_eq_true rfl⟩ ⟨Nat.zero_le _, Nat.zero_le _⟩ dX3_findFault_103 (st1 := []) rfl (fun H locs hP hD hS => ?_)
      refine lv_aload_n hx hb dX3_findFault_106 rfl (lv_at hl 0 rfl) ?_
      refine z_get (C := RX3) (T := TX3) (N := 5) (ci := 2) F zu_wsX30 hP 0 rfl rfl 2 (by decide) zw_128 rfl dX3_findFault_107 ?_
      refine lv_aload_n hx hb dX3_findFault_110 rfl (lv_at hl 0 rfl) ?_
      refine z_get (C := RX3) (T := TX3) (N := 5) (ci := 2) F zu_wsX30 hP 0 rfl rfl 3 (by decide) zw_127 rfl dX3_findFault_111 ?_
      obtain ⟨r9_, hA121_, h⟩ := z_bind h
      have k121_ : ∀ (H : Heap) (locs : List Loc) (ls : Array Slot), va_P (zD g) vwCl [zo_X3 a_this a_text a_draft r8_.2.1 r8_.2.2 r9_, zo_X4 a_draft a_draft_cells r1_.1, zo_X7 a_text a_text_bytes v_text_length, (a_draft_cells, .inl (zI g, 912, .inl r7_.2.2.2)), (a_text_bytes, .inl (zY g, 600, .inl v_text_bytes))] H → va_D A [zo_X3 a_this a_text a_draft r8_.2.1 r8_.2.2 r9_, zo_X4 a_draft a_draft_cells r1_.1, zo_X7 a_text a_text_bytes v_text_length, (a_draft_cells, .inl (zI g, 912, .inl r7_.2.2.2)), (a_text_bytes, .inl (zY g, 600, .inl v_text_bytes))] → va_S A s.heap H locs → lv_has ls 2 [(0, .ref a_this)] → W p l e rm_X3_findFault s m (([.ref a_this] : List Value)).toArray below meth c H locs 0 0 Q (F0 m 121 ls []) := by
        intro H locs ls hP hD hS hl
        refine lv_aload_n hx hb dX3_findFault_121 rfl (lv_at hl 0 rfl) ?_
        refine z_get (C := RX3) (T := TX3) (N := 5) (ci := 2) F zu_wsX30 hP 0 rfl rfl 4 (by decide) zw_170 rfl dX3_findFault_122 ?_
        obtain rfl := Option.some.inj h
        exact zV_i F hr hlocks hQ hP hD hS dX3_findFault_125
      have h := hA121_
      refine z_cge (tgt := 121) hx hb dX3_findFault_114 (by decide) h (fun h => ?_) (fun h => ?_)
      · obtain rfl := Option.some.inj h
        exact k121_ _ _ _ hP hD hS (lv_sub hl [0] rfl)
      · refine lv_aload_n hx hb dX3_findFault_117 rfl (lv_at hl 0 rfl) ?_
        obtain ⟨r10_, hr10_, h⟩ := z_bind h
        refine zVV F (k_X3_fail l N g a_this a_text a_draft r8_.2.2 r8_.1 r8_.2.1 _ hr10_) zy_X3_fail zw_183 hP hD hS [0] [1, 2, 3, 4] [4, 0, 1, 2, 3] (wr := [zo_X4 a_draft a_draft_cells r1_.1, zo_X7 a_text a_text_bytes v_text_length, (a_draft_cells, .inl (zI g, 912, .inl r7_.2.2.2)), (a_text_bytes, .inl (zY g, 600, .inl v_text_bytes))]) (W1 := [zo_X3 a_this a_text a_draft r8_.2.1 r8_.2.2 r10_, zo_X4 a_draft a_draft_cells r1_.1, zo_X7 a_text a_text_bytes v_text_length, (a_draft_cells, .inl (zI g, 912, .inl r7_.2.2.2)), (a_text_bytes, .inl (zY g, 600, .inl v_text_bytes))]) rfl rfl rfl rfl (by decide) rfl rfl (q0 := 0) (he := rfl) (hc := rfl) (rest := []) rfl hl.1 rfl (Nat.le_of_ble_eq_true rfl) ⟨rfl, rfl⟩ ⟨Nat.le_of_ble_eq_true rfl, Nat.le_of_ble_eq_true rfl⟩ ⟨Nat.zero_le _, Nat.zero_le _⟩ dX3_findFault_118 (st1 := []) rfl (fun H locs hP hD hS => ?_)
        obtain rfl := Option.some.inj h
        exact k121_ _ _ _ hP hD hS (lv_sub hl [0] rfl)
    have h := hA100_
    refine z_eq (tgt := 100) hx hb dX3_findFault_82 (by decide) h (fun h => ?_) (fun h => ?_)
    · obtain rfl := Option.some.inj h
      exact k100_ _ _ _ hP hD hS (lv_sub hl [0] rfl)
    · refine lv_aload_n hx hb dX3_findFault_85 rfl (lv_at hl 0 rfl) ?_
      refine z_get (C := RX3) (T := TX3) (N := 5) (ci := 2) F zu_wsX30 hP 0 rfl rfl 1 (by decide) zw_99 rfl dX3_findFault_86 ?_
      refine lv_iconst (v := 0) hx hb dX3_findFault_89 (by decide) ?_
      refine lv_iconst (v := 5) hx hb dX3_findFault_90 (by decide) ?_
      refine lv_aload_n hx hb dX3_findFault_91 rfl (lv_at hl 0 rfl) ?_
      refine lv_iconst (v := 2) hx hb dX3_findFault_92 (by decide) ?_
      refine lv_iconst (v := 4) hx hb dX3_findFault_93 (by decide) ?_
      obtain ⟨r11_, hr11_, h⟩ := z_bind h
      refine zVV F (k_X3_takeNumber l N g a_this a_text a_draft a_text_bytes r5_.1 r6_.2.1 r6_.2.2 v_text_length v_text_bytes 2 4 _ hr11_) zy_X3_takeNumber zw_192 hP hD hS [0, 2, 4] [1, 3] [2, 0, 3, 1, 4] (wr := [zo_X4 a_draft a_draft_cells r1_.1, (a_draft_cells, .inl (zI g, 912, .inl r5_.2.2.2))]) (W1 := [zo_X3 a_this a_text a_draft r11_.2.2.1 r11_.2.2.2 r11_.2.1, zo_X4 a_draft a_draft_cells r1_.1, zo_X7 a_text a_text_bytes v_text_length, (a_draft_cells, .inl (zI g, 912, .inl r5_.2.2.2)), (a_text_bytes, .inl (zY g, 600, .inl v_text_bytes))]) rfl rfl rfl rfl (by decide) rfl rfl (q0 := 0) (he := rfl) (hc := rfl) (rest := [.int 5, .int 0, .ref a_draft]) rfl hl.1 rfl (Nat.le_of_ble_eq_true rfl) ⟨rfl, rfl⟩ ⟨Nat.le_of_ble_eq_true rfl, Nat.le_of_ble_eq_true rfl⟩ ⟨Nat.zero_le _, Nat.zero_le _⟩ dX3_findFault_94 (st1 := [.int r11_.1, .int 5, .int 0, .ref a_draft]) rfl (fun H locs hP hD hS => ?_)
      obtain ⟨r12_, hr12_, h⟩ := z_bind h
      refine zVV F (k_X4_putValue l N g a_draft a_draft_cells r1_.1 r5_.2.2.2 0 5 r11_.1 _ hr12_) zy_X4_putValue zw_203 hP hD hS [1, 3] [0, 2, 4] [0, 3, 1, 4, 2] (wr := [zo_X3 a_this a_text a_draft r11_.2.2.1 r11_.2.2.2 r11_.2.1, zo_X7 a_text a_text_bytes v_text_length, (a_text_bytes, .inl (zY g, 600, .inl v_text_bytes))]) (W1 := [zo_X3 a_this a_text a_draft r11_.2.2.1 r11_.2.2.2 r11_.2.1, zo_X4 a_draft a_draft_cells r1_.1, zo_X7 a_text a_text_bytes v_text_length, (a_draft_cells, .inl (zI g, 912, .inl r12_)), (a_text_bytes, .inl (zY g, 600, .inl v_text_bytes))]) rfl rfl rfl rfl (by decide) rfl rfl (q0 := 1) (he := rfl) (hc := rfl) (rest := []) rfl hl.1 rfl (Nat.le_of_ble_eq_true rfl) ⟨rfl, rfl⟩ ⟨Nat.le_of_ble_eq_true rfl, Nat.le_of_ble_eq_true rfl⟩ ⟨Nat.zero_le _, Nat.zero_le _⟩ dX3_findFault_97 (st1 := []) rfl (fun H locs hP hD hS => ?_)
      obtain rfl := Option.some.inj h
      exact k100_ _ _ _ hP hD hS (lv_sub hl [0] rfl)
  have h := hA76_
  refine z_eq (tgt := 76) hx hb dX3_findFault_33 (by decide) h (fun h => ?_) (fun h => ?_)
  · obtain rfl := Option.some.inj h
    exact k76_ _ _ _ hP hD hS (lv_sub hl [0] rfl)
  · refine lv_aload_n hx hb dX3_findFault_36 rfl (lv_at hl 0 rfl) ?_
    refine lv_iconst (v := 1) hx hb dX3_findFault_37 (by decide) ?_
    refine lv_iconst (v := 2) hx hb dX3_findFault_38 (by decide) ?_
    obtain ⟨r13_, hr13_, h⟩ := z_bind h
    refine zVV F (k_X3_takeNumber l N g a_this a_text a_draft a_text_bytes r3_.1 r4_.2.1 r4_.2.2 v_text_length v_text_bytes 1 2 _ hr13_) zy_X3_takeNumber zw_192 hP hD hS [0, 2, 4] [1, 3] [2, 0, 3, 1, 4] (wr := [zo_X4 a_draft a_draft_cells r1_.1, (a_draft_cells, .inl (zI g, 912, .inl r3_.2.2.2))]) (W1 := [zo_X3 a_this a_text a_draft r13_.2.2.1 r13_.2.2.2 r13_.2.1, zo_X4 a_draft a_draft_cells r1_.1, zo_X7 a_text a_text_bytes v_text_length, (a_draft_cells, .inl (zI g, 912, .inl r3_.2.2.2)), (a_text_bytes, .inl (zY g, 600, .inl v_text_bytes))]) rfl rfl rfl rfl (by decide) rfl rfl (q0 := 0) (he := rfl) (hc := rfl) (rest := []) rfl hl.1 rfl (Nat.le_of_ble_eq_true rfl) ⟨rfl, rfl⟩ ⟨Nat.le_of_ble_eq_true rfl, Nat.le_of_ble_eq_true rfl⟩ ⟨Nat.zero_le _, Nat.zero_le _⟩ dX3_findFault_39 (st1 := [.int r13_.1]) rfl (fun H locs hP hD hS => ?_)
    refine lv_istore_n (lv' := [(1, .int r13_.1), (0, .ref a_this)]) hx hb dX3_findFault_42 rfl hl (by decide) rfl (fun ls hl => ?_)
    refine lv_aload_n hx hb dX3_findFault_43 rfl (lv_at hl 1 rfl) ?_
    refine lv_iload_n hx hb dX3_findFault_44 rfl (lv_at hl 0 rfl) ?_
    refine lv_iconst (v := 1) hx hb dX3_findFault_45 (by decide) ?_
    refine lv_isub hx hb dX3_findFault_46 ?_
    obtain ⟨r14_, hr14_, h⟩ := z_bind h
    refine zVV F (k_X3_readEvents l N g a_this a_text a_draft a_draft_cells a_text_bytes r13_.2.1 r13_.2.2.1 r13_.2.2.2 r1_.1 v_text_length r3_.2.2.2 v_text_bytes (r13_.1 - 1) _ hr14_) zy_X3_readEvents zw_279 hP hD hS [0, 1, 2, 3, 4] [] [0, 1, 2, 3, 4] (wr := []) (W1 := [zo_X3 a_this a_text a_draft r14_.2.1 r14_.2.2.1 r14_.1, zo_X4 a_draft a_draft_cells r1_.1, zo_X7 a_text a_text_bytes v_text_length, (a_draft_cells, .inl (zI g, 912, .inl r14_.2.2.2)), (a_text_bytes, .inl (zY g, 600, .inl v_text_bytes))]) rfl rfl rfl rfl (by decide) rfl rfl (q0 := 0) (he := rfl) (hc := rfl) (rest := []) rfl hl.1 rfl (Nat.le_of_ble_eq_true rfl) ⟨rfl, rfl⟩ ⟨Nat.le_of_ble_eq_true rfl, Nat.le_of_ble_eq_true rfl⟩ ⟨Nat.zero_le _, Nat.zero_le _⟩ dX3_findFault_47 (st1 := []) rfl (fun H locs hP hD hS => ?_)
    refine lv_iload_n hx hb dX3_findFault_50 rfl (lv_at hl 0 rfl) ?_
    refine lv_iconst (v := 1) hx hb dX3_findFault_51 (by decide) ?_
    refine z_cne (tgt := 76) hx hb dX3_findFault_52 (by decide) h (fun h => ?_) (fun h => ?_)
    · obtain rfl := Option.some.inj h
      exact k76_ _ _ _ hP hD hS (lv_sub hl [1] rfl)
    · refine lv_aload_n hx hb dX3_findFault_55 rfl (lv_at hl 1 rfl) ?_
      refine va_ldcS hx hb F.1.2.2.2.1 (F.2.2.1.2.1 _ zst_X3_40) dX3_findFault_56 ?_
      obtain ⟨r15_, hr15_, h⟩ := z_bind h
      refine zVV F (k_X3_takeWord l N g a_this a_text a_draft a_text_bytes r14_.1 r14_.2.1 r14_.2.2.1 v_text_length v_text_bytes 9 _ hr15_) zy_X3_takeWord zw_180 hP hD hS [0, 2, 4] [1, 3] [2, 0, 3, 1, 4] (wr := [zo_X4 a_draft a_draft_cells r1_.1, (a_draft_cells, .inl (zI g, 912, .inl r14_.2.2.2))]) (W1 := [zo_X3 a_this a_text a_draft r15_.2.1 r15_.2.2 r14_.1, zo_X4 a_draft a_draft_cells r1_.1, zo_X7 a_text a_text_bytes v_text_length, (a_draft_cells, .inl (zI g, 912, .inl r14_.2.2.2)), (a_text_bytes, .inl (zY g, 600, .inl v_text_bytes))]) rfl rfl rfl rfl (by decide) rfl rfl (q0 := 0) (he := rfl) (hc := rfl) (rest := []) rfl hl.1 rfl (Nat.le_of_ble_eq_true rfl) ⟨rfl, rfl⟩ ⟨Nat.le_of_ble_eq_true rfl, Nat.le_of_ble_eq_true rfl⟩ ⟨Nat.zero_le _, Nat.zero_le _⟩ dX3_findFault_58 (st1 := [.int r15_.1]) rfl (fun H locs hP hD hS => ?_)
      refine z_eq (tgt := 76) hx hb dX3_findFault_61 (by decide) h (fun h => ?_) (fun h => ?_)
      · obtain rfl := Option.some.inj h
        exact k76_ _ _ _ hP hD hS (lv_sub hl [1] rfl)
      · refine lv_aload_n hx hb dX3_findFault_64 rfl (lv_at hl 1 rfl) ?_
        refine lv_aload_n hx hb dX3_findFault_65 rfl (lv_at hl 1 rfl) ?_
        refine lv_iconst (v := 2) hx hb dX3_findFault_66 (by decide) ?_
        refine lv_iconst (v := 2) hx hb dX3_findFault_67 (by decide) ?_
        obtain ⟨r16_, hr16_, h⟩ := z_bind h
        refine zVV F (k_X3_takeNumber l N g a_this a_text a_draft a_text_bytes r14_.1 r15_.2.1 r15_.2.2 v_text_length v_text_bytes 2 2 _ hr16_) zy_X3_takeNumber zw_192 hP hD hS [0, 2, 4] [1, 3] [2, 0, 3, 1, 4] (wr := [zo_X4 a_draft a_draft_cells r1_.1, (a_draft_cells, .inl (zI g, 912, .inl r14_.2.2.2))]) (W1 := [zo_X3 a_this a_text a_draft r16_.2.2.1 r16_.2.2.2 r16_.2.1, zo_X4 a_draft a_draft_cells r1_.1, zo_X7 a_text a_text_bytes v_text_length, (a_draft_cells, .inl (zI g, 912, .inl r14_.2.2.2)), (a_text_bytes, .inl (zY g, 600, .inl v_text_bytes))]) rfl rfl rfl rfl (by decide) rfl rfl (q0 := 0) (he := rfl) (hc := rfl) (rest := [.ref a_this]) rfl hl.1 rfl (Nat.le_of_ble_eq_true rfl) ⟨rfl, rfl⟩ ⟨Nat.le_of_ble_eq_true rfl, Nat.le_of_ble_eq_true rfl⟩ ⟨Nat.zero_le _, Nat.zero_le _⟩ dX3_findFault_68 (st1 := [.int r16_.1, .ref a_this]) rfl (fun H locs hP hD hS => ?_)
        refine lv_iconst (v := 1) hx hb dX3_findFault_71 (by decide) ?_
        refine lv_isub hx hb dX3_findFault_72 ?_
        obtain ⟨r17_, hr17_, h⟩ := z_bind h
        refine zVV F (k_X3_readEvents l N g a_this a_text a_draft a_draft_cells a_text_bytes r16_.2.1 r16_.2.2.1 r16_.2.2.2 r1_.1 v_text_length r14_.2.2.2 v_text_bytes (r16_.1 - 1) _ hr17_) zy_X3_readEvents zw_279 hP hD hS [0, 1, 2, 3, 4] [] [0, 1, 2, 3, 4] (wr := []) (W1 := [zo_X3 a_this a_text a_draft r17_.2.1 r17_.2.2.1 r17_.1, zo_X4 a_draft a_draft_cells r1_.1, zo_X7 a_text a_text_bytes v_text_length, (a_draft_cells, .inl (zI g, 912, .inl r17_.2.2.2)), (a_text_bytes, .inl (zY g, 600, .inl v_text_bytes))]) rfl rfl rfl rfl (by decide) rfl rfl (q0 := 0) (he := rfl) (hc := rfl) (rest := []) rfl hl.1 rfl (Nat.le_of_ble_eq_true rfl) ⟨rfl, rfl⟩ ⟨Nat.le_of_ble_eq_true rfl, Nat.le_of_ble_eq_true rfl⟩ ⟨Nat.zero_le _, Nat.zero_le _⟩ dX3_findFault_73 (st1 := []) rfl (fun H locs hP hD hS => ?_)
        obtain rfl := Option.some.inj h
        exact k76_ _ _ _ hP hD hS (lv_sub hl [1] rfl)
