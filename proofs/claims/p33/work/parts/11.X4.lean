def f_X4_canHold (N : Nat) (x0 : Int32) (x1 : Int32) : Option Int32 :=
  if x0 = 0 then if x1 < (-7) then some 0 else if 7 < x1 then some 0 else some 1 else if x0 = 1 then if x1 < 1 then some 0 else if 12 < x1 then some 0 else some 1 else if x0 = 2 then if x1 = 2 then some 1 else if x1 = 4 then some 1 else if x1 = 8 then some 1 else if x1 = 16 then some 1 else some 0 else if x0 = 3 then if x1 < 20 then some 0 else if 300 < x1 then some 0 else some 1 else if x0 = 4 then if x1 = 0 then some 1 else if x1 = 1 then some 1 else some 0 else if x0 = 5 then if x1 = 0 then some 1 else if x1 < 2 then some 0 else if 4 < x1 then some 0 else some 1 else if x0 = 6 then if x1 < 0 then some 0 else if 4 < x1 then some 0 else some 1 else some 0
abbrev rm_X4_canHold : Room := { frames := 0, cells := 0, slots := 0, locals := 0 }
theorem zy_X4_canHold : zYs yX4_canHold cX4_canHold 2 (some .boolean) 2 := ⟨zw_201, zw_30, zw_199, ⟨by decide, by decide⟩, by decide +kernel⟩
set_option maxHeartbeats 4000000 in
set_option maxRecDepth 100000 in
theorem k_X4_canHold (l : Launch) (N : Nat) (g : zEnv) (x0 : Int32) (x1 : Int32) (r : Int32) (h : f_X4_canHold N x0 x1 = some r) : ZR l yX4_canHold cX4_canHold 2 (some .boolean) rm_X4_canHold g [.int x0, .int x1] [] (some (.int r)) := by
  refine zR_of (by decide) (Nat.le_of_ble_eq_true rfl) ?_
  intro p e s m below meth c A ls Q R F hRm hr hlocks hP hD hS hl hQ
  subst hRm
  have F : zF p m c cX4_canHold 2 s (([.int x0, .int x1] : List Value)).toArray RX4 g A := F
  have hx := F.1.1
  have hb := F.1.2.1
  have hz := F.1.2.2.2.2
  have hl : lv_has ls 2 [(0, .int x0), (1, .int x1)] := hl
  unfold f_X4_canHold at h
  refine lv_iload_n hx hb dX4_canHold_0 rfl (lv_at hl 0 rfl) ?_
  by_cases c1_0_ : x0 = 0
  · rw [if_pos c1_0_] at h
    refine lv_tableIn (tgt := 44) hx hb dX4_canHold_1 (by rw [c1_0_]; decide) (by rw [c1_0_]; decide) (by rw [c1_0_]; rfl) (by decide) ?_
    refine lv_iload_n hx hb dX4_canHold_44 rfl (lv_at hl 1 rfl) ?_
    refine lv_bipush (v := (-7)) hx hb dX4_canHold_45 (by decide) ?_
    refine z_clt (tgt := 60) hx hb dX4_canHold_47 (by decide) h (fun h => ?_) (fun h => ?_)
    · refine lv_iconst (v := 0) hx hb dX4_canHold_60 (by decide) ?_
      obtain rfl := Option.some.inj h
      exact zR_n F hr hlocks hQ rfl dX4_canHold_61
    · refine lv_iload_n hx hb dX4_canHold_50 rfl (lv_at hl 1 rfl) ?_
      refine lv_bipush (v := 7) hx hb dX4_canHold_51 (by decide) ?_
      refine z_cgt (tgt := 60) hx hb dX4_canHold_53 (by decide) h (fun h => ?_) (fun h => ?_)
      · refine lv_iconst (v := 0) hx hb dX4_canHold_60 (by decide) ?_
        obtain rfl := Option.some.inj h
        exact zR_n F hr hlocks hQ rfl dX4_canHold_61
      · refine lv_iconst (v := 1) hx hb dX4_canHold_56 (by decide) ?_
        refine lv_goto (tgt := 61) hx hb dX4_canHold_57 (by decide) ?_
        obtain rfl := Option.some.inj h
        exact zR_n F hr hlocks hQ rfl dX4_canHold_61
  rw [if_neg c1_0_] at h
  by_cases c1_1_ : x0 = 1
  · rw [if_pos c1_1_] at h
    refine lv_tableIn (tgt := 62) hx hb dX4_canHold_1 (by rw [c1_1_]; decide) (by rw [c1_1_]; decide) (by rw [c1_1_]; rfl) (by decide) ?_
    refine lv_iload_n hx hb dX4_canHold_62 rfl (lv_at hl 1 rfl) ?_
    refine lv_iconst (v := 1) hx hb dX4_canHold_63 (by decide) ?_
    refine z_clt (tgt := 77) hx hb dX4_canHold_64 (by decide) h (fun h => ?_) (fun h => ?_)
    · refine lv_iconst (v := 0) hx hb dX4_canHold_77 (by decide) ?_
      obtain rfl := Option.some.inj h
      exact zR_n F hr hlocks hQ rfl dX4_canHold_78
    · refine lv_iload_n hx hb dX4_canHold_67 rfl (lv_at hl 1 rfl) ?_
      refine lv_bipush (v := 12) hx hb dX4_canHold_68 (by decide) ?_
      refine z_cgt (tgt := 77) hx hb dX4_canHold_70 (by decide) h (fun h => ?_) (fun h => ?_)
      · refine lv_iconst (v := 0) hx hb dX4_canHold_77 (by decide) ?_
        obtain rfl := Option.some.inj h
        exact zR_n F hr hlocks hQ rfl dX4_canHold_78
      · refine lv_iconst (v := 1) hx hb dX4_canHold_73 (by decide) ?_
        refine lv_goto (tgt := 78) hx hb dX4_canHold_74 (by decide) ?_
        obtain rfl := Option.some.inj h
        exact zR_n F hr hlocks hQ rfl dX4_canHold_78
  rw [if_neg c1_1_] at h
  by_cases c1_2_ : x0 = 2
  · rw [if_pos c1_2_] at h
    refine lv_tableIn (tgt := 79) hx hb dX4_canHold_1 (by rw [c1_2_]; decide) (by rw [c1_2_]; decide) (by rw [c1_2_]; rfl) (by decide) ?_
    refine lv_iload_n hx hb dX4_canHold_79 rfl (lv_at hl 1 rfl) ?_
    refine lv_iconst (v := 2) hx hb dX4_canHold_80 (by decide) ?_
    refine z_ceq (tgt := 101) hx hb dX4_canHold_81 (by decide) h (fun h => ?_) (fun h => ?_)
    · refine lv_iconst (v := 1) hx hb dX4_canHold_101 (by decide) ?_
      refine lv_goto (tgt := 106) hx hb dX4_canHold_102 (by decide) ?_
      obtain rfl := Option.some.inj h
      exact zR_n F hr hlocks hQ rfl dX4_canHold_106
    · refine lv_iload_n hx hb dX4_canHold_84 rfl (lv_at hl 1 rfl) ?_
      refine lv_iconst (v := 4) hx hb dX4_canHold_85 (by decide) ?_
      refine z_ceq (tgt := 101) hx hb dX4_canHold_86 (by decide) h (fun h => ?_) (fun h => ?_)
      · refine lv_iconst (v := 1) hx hb dX4_canHold_101 (by decide) ?_
        refine lv_goto (tgt := 106) hx hb dX4_canHold_102 (by decide) ?_
        obtain rfl := Option.some.inj h
        exact zR_n F hr hlocks hQ rfl dX4_canHold_106
      · refine lv_iload_n hx hb dX4_canHold_89 rfl (lv_at hl 1 rfl) ?_
        refine lv_bipush (v := 8) hx hb dX4_canHold_90 (by decide) ?_
        refine z_ceq (tgt := 101) hx hb dX4_canHold_92 (by decide) h (fun h => ?_) (fun h => ?_)
        · refine lv_iconst (v := 1) hx hb dX4_canHold_101 (by decide) ?_
          refine lv_goto (tgt := 106) hx hb dX4_canHold_102 (by decide) ?_
          obtain rfl := Option.some.inj h
          exact zR_n F hr hlocks hQ rfl dX4_canHold_106
        · refine lv_iload_n hx hb dX4_canHold_95 rfl (lv_at hl 1 rfl) ?_
          refine lv_bipush (v := 16) hx hb dX4_canHold_96 (by decide) ?_
          refine z_cne (tgt := 105) hx hb dX4_canHold_98 (by decide) h (fun h => ?_) (fun h => ?_)
          · refine lv_iconst (v := 0) hx hb dX4_canHold_105 (by decide) ?_
            obtain rfl := Option.some.inj h
            exact zR_n F hr hlocks hQ rfl dX4_canHold_106
          · refine lv_iconst (v := 1) hx hb dX4_canHold_101 (by decide) ?_
            refine lv_goto (tgt := 106) hx hb dX4_canHold_102 (by decide) ?_
            obtain rfl := Option.some.inj h
            exact zR_n F hr hlocks hQ rfl dX4_canHold_106
  rw [if_neg c1_2_] at h
  by_cases c1_3_ : x0 = 3
  · rw [if_pos c1_3_] at h
    refine lv_tableIn (tgt := 107) hx hb dX4_canHold_1 (by rw [c1_3_]; decide) (by rw [c1_3_]; decide) (by rw [c1_3_]; rfl) (by decide) ?_
    refine lv_iload_n hx hb dX4_canHold_107 rfl (lv_at hl 1 rfl) ?_
    refine lv_bipush (v := 20) hx hb dX4_canHold_108 (by decide) ?_
    refine z_clt (tgt := 124) hx hb dX4_canHold_110 (by decide) h (fun h => ?_) (fun h => ?_)
    · refine lv_iconst (v := 0) hx hb dX4_canHold_124 (by decide) ?_
      obtain rfl := Option.some.inj h
      exact zR_n F hr hlocks hQ rfl dX4_canHold_125
    · refine lv_iload_n hx hb dX4_canHold_113 rfl (lv_at hl 1 rfl) ?_
      refine lv_sipush (v := 300) hx hb dX4_canHold_114 (by decide) ?_
      refine z_cgt (tgt := 124) hx hb dX4_canHold_117 (by decide) h (fun h => ?_) (fun h => ?_)
      · refine lv_iconst (v := 0) hx hb dX4_canHold_124 (by decide) ?_
        obtain rfl := Option.some.inj h
        exact zR_n F hr hlocks hQ rfl dX4_canHold_125
      · refine lv_iconst (v := 1) hx hb dX4_canHold_120 (by decide) ?_
        refine lv_goto (tgt := 125) hx hb dX4_canHold_121 (by decide) ?_
        obtain rfl := Option.some.inj h
        exact zR_n F hr hlocks hQ rfl dX4_canHold_125
  rw [if_neg c1_3_] at h
  by_cases c1_4_ : x0 = 4
  · rw [if_pos c1_4_] at h
    refine lv_tableIn (tgt := 126) hx hb dX4_canHold_1 (by rw [c1_4_]; decide) (by rw [c1_4_]; decide) (by rw [c1_4_]; rfl) (by decide) ?_
    refine lv_iload_n hx hb dX4_canHold_126 rfl (lv_at hl 1 rfl) ?_
    refine z_eq (tgt := 135) hx hb dX4_canHold_127 (by decide) h (fun h => ?_) (fun h => ?_)
    · refine lv_iconst (v := 1) hx hb dX4_canHold_135 (by decide) ?_
      refine lv_goto (tgt := 140) hx hb dX4_canHold_136 (by decide) ?_
      obtain rfl := Option.some.inj h
      exact zR_n F hr hlocks hQ rfl dX4_canHold_140
    · refine lv_iload_n hx hb dX4_canHold_130 rfl (lv_at hl 1 rfl) ?_
      refine lv_iconst (v := 1) hx hb dX4_canHold_131 (by decide) ?_
      refine z_cne (tgt := 139) hx hb dX4_canHold_132 (by decide) h (fun h => ?_) (fun h => ?_)
      · refine lv_iconst (v := 0) hx hb dX4_canHold_139 (by decide) ?_
        obtain rfl := Option.some.inj h
        exact zR_n F hr hlocks hQ rfl dX4_canHold_140
      · refine lv_iconst (v := 1) hx hb dX4_canHold_135 (by decide) ?_
        refine lv_goto (tgt := 140) hx hb dX4_canHold_136 (by decide) ?_
        obtain rfl := Option.some.inj h
        exact zR_n F hr hlocks hQ rfl dX4_canHold_140
  rw [if_neg c1_4_] at h
  by_cases c1_5_ : x0 = 5
  · rw [if_pos c1_5_] at h
    refine lv_tableIn (tgt := 141) hx hb dX4_canHold_1 (by rw [c1_5_]; decide) (by rw [c1_5_]; decide) (by rw [c1_5_]; rfl) (by decide) ?_
    refine lv_iload_n hx hb dX4_canHold_141 rfl (lv_at hl 1 rfl) ?_
    refine z_eq (tgt := 155) hx hb dX4_canHold_142 (by decide) h (fun h => ?_) (fun h => ?_)
    · refine lv_iconst (v := 1) hx hb dX4_canHold_155 (by decide) ?_
      refine lv_goto (tgt := 160) hx hb dX4_canHold_156 (by decide) ?_
      obtain rfl := Option.some.inj h
      exact zR_n F hr hlocks hQ rfl dX4_canHold_160
    · refine lv_iload_n hx hb dX4_canHold_145 rfl (lv_at hl 1 rfl) ?_
      refine lv_iconst (v := 2) hx hb dX4_canHold_146 (by decide) ?_
      refine z_clt (tgt := 159) hx hb dX4_canHold_147 (by decide) h (fun h => ?_) (fun h => ?_)
      · refine lv_iconst (v := 0) hx hb dX4_canHold_159 (by decide) ?_
        obtain rfl := Option.some.inj h
        exact zR_n F hr hlocks hQ rfl dX4_canHold_160
      · refine lv_iload_n hx hb dX4_canHold_150 rfl (lv_at hl 1 rfl) ?_
        refine lv_iconst (v := 4) hx hb dX4_canHold_151 (by decide) ?_
        refine z_cgt (tgt := 159) hx hb dX4_canHold_152 (by decide) h (fun h => ?_) (fun h => ?_)
        · refine lv_iconst (v := 0) hx hb dX4_canHold_159 (by decide) ?_
          obtain rfl := Option.some.inj h
          exact zR_n F hr hlocks hQ rfl dX4_canHold_160
        · refine lv_iconst (v := 1) hx hb dX4_canHold_155 (by decide) ?_
          refine lv_goto (tgt := 160) hx hb dX4_canHold_156 (by decide) ?_
          obtain rfl := Option.some.inj h
          exact zR_n F hr hlocks hQ rfl dX4_canHold_160
  rw [if_neg c1_5_] at h
  by_cases c1_6_ : x0 = 6
  · rw [if_pos c1_6_] at h
    refine lv_tableIn (tgt := 161) hx hb dX4_canHold_1 (by rw [c1_6_]; decide) (by rw [c1_6_]; decide) (by rw [c1_6_]; rfl) (by decide) ?_
    refine lv_iload_n hx hb dX4_canHold_161 rfl (lv_at hl 1 rfl) ?_
    refine z_lt (tgt := 174) hx hb dX4_canHold_162 (by decide) h (fun h => ?_) (fun h => ?_)
    · refine lv_iconst (v := 0) hx hb dX4_canHold_174 (by decide) ?_
      obtain rfl := Option.some.inj h
      exact zR_n F hr hlocks hQ rfl dX4_canHold_175
    · refine lv_iload_n hx hb dX4_canHold_165 rfl (lv_at hl 1 rfl) ?_
      refine lv_iconst (v := 4) hx hb dX4_canHold_166 (by decide) ?_
      refine z_cgt (tgt := 174) hx hb dX4_canHold_167 (by decide) h (fun h => ?_) (fun h => ?_)
      · refine lv_iconst (v := 0) hx hb dX4_canHold_174 (by decide) ?_
        obtain rfl := Option.some.inj h
        exact zR_n F hr hlocks hQ rfl dX4_canHold_175
      · refine lv_iconst (v := 1) hx hb dX4_canHold_170 (by decide) ?_
        refine lv_goto (tgt := 175) hx hb dX4_canHold_171 (by decide) ?_
        obtain rfl := Option.some.inj h
        exact zR_n F hr hlocks hQ rfl dX4_canHold_175
  rw [if_neg c1_6_] at h
  have kd1_ : W p l e rm_X4_canHold s m (([.int x0, .int x1] : List Value)).toArray below meth c s.heap [] 0 0 Q (F0 m 176 ls []) := by
    refine lv_iconst (v := 0) hx hb dX4_canHold_176 (by decide) ?_
    obtain rfl := Option.some.inj h
    exact zR_n F hr hlocks hQ rfl dX4_canHold_177
  exact lv_tableOut (tgt := 176) hx hb dX4_canHold_1 (z_sw 0 7 x0 (fun j hj => match j, hj with | 0, _ => c1_0_ | 1, _ => c1_1_ | 2, _ => c1_2_ | 3, _ => c1_3_ | 4, _ => c1_4_ | 5, _ => c1_5_ | 6, _ => c1_6_ | j + 7, hj => absurd hj (by omega))) (by decide) kd1_
def f_X4_size (N : Nat) (v_size : Int32) : Option Int32 :=
  some v_size
abbrev rm_X4_size : Room := { frames := 0, cells := 0, slots := 0, locals := 0 }
theorem zy_X4_size : zYv yX4_size RX4 cX4_size 1 (some .int) 0 := ⟨zw_73, zw_74, zw_30, zw_62, ⟨by decide, by decide⟩, by decide +kernel⟩
set_option maxHeartbeats 4000000 in
set_option maxRecDepth 100000 in
theorem k_X4_size (l : Launch) (N : Nat) (g : zEnv) (a_this a_cells : Nat) (v_size : Int32) (r : Int32) (h : f_X4_size N v_size = some r) : ZR l yX4_size cX4_size 1 (some .int) rm_X4_size g [.ref a_this] [zo_X4 a_this a_cells v_size] (some (.int r)) := by
  refine zR_of (by decide) (Nat.le_of_ble_eq_true rfl) ?_
  intro p e s m below meth c A ls Q R F hRm hr hlocks hP hD hS hl hQ
  subst hRm
  have F : zF p m c cX4_size 1 s (([.ref a_this] : List Value)).toArray RX4 g A := F
  have hx := F.1.1
  have hb := F.1.2.1
  have hz := F.1.2.2.2.2
  have hl : lv_has ls 1 [(0, .ref a_this)] := hl
  unfold f_X4_size at h
  refine lv_aload_n hx hb dX4_size_0 rfl (lv_at hl 0 rfl) ?_
  refine z_get (C := RX4) (T := TX4) (N := 2) (ci := 3) F zu_wsX40 hP 0 rfl rfl 1 (by decide) zw_36 rfl dX4_size_1 ?_
  obtain rfl := Option.some.inj h
  exact zR_i F hr hlocks hQ dX4_size_4
def f_X4_isFull (N : Nat) (v_size : Int32) : Option Int32 :=
  if v_size < 16 then some 0 else some 1
abbrev rm_X4_isFull : Room := { frames := 0, cells := 0, slots := 0, locals := 0 }
theorem zy_X4_isFull : zYv yX4_isFull RX4 cX4_isFull 1 (some .boolean) 0 := ⟨zw_111, zw_112, zw_30, zw_103, ⟨by decide, by decide⟩, by decide +kernel⟩
set_option maxHeartbeats 4000000 in
set_option maxRecDepth 100000 in
theorem k_X4_isFull (l : Launch) (N : Nat) (g : zEnv) (a_this a_cells : Nat) (v_size : Int32) (r : Int32) (h : f_X4_isFull N v_size = some r) : ZR l yX4_isFull cX4_isFull 1 (some .boolean) rm_X4_isFull g [.ref a_this] [zo_X4 a_this a_cells v_size] (some (.int r)) := by
  refine zR_of (by decide) (Nat.le_of_ble_eq_true rfl) ?_
  intro p e s m below meth c A ls Q R F hRm hr hlocks hP hD hS hl hQ
  subst hRm
  have F : zF p m c cX4_isFull 1 s (([.ref a_this] : List Value)).toArray RX4 g A := F
  have hx := F.1.1
  have hb := F.1.2.1
  have hz := F.1.2.2.2.2
  have hl : lv_has ls 1 [(0, .ref a_this)] := hl
  unfold f_X4_isFull at h
  refine lv_aload_n hx hb dX4_isFull_0 rfl (lv_at hl 0 rfl) ?_
  refine z_get (C := RX4) (T := TX4) (N := 2) (ci := 3) F zu_wsX40 hP 0 rfl rfl 1 (by decide) zw_36 rfl dX4_isFull_1 ?_
  refine lv_bipush (v := 16) hx hb dX4_isFull_4 (by decide) ?_
  refine z_clt (tgt := 13) hx hb dX4_isFull_6 (by decide) h (fun h => ?_) (fun h => ?_)
  · refine lv_iconst (v := 0) hx hb dX4_isFull_13 (by decide) ?_
    obtain rfl := Option.some.inj h
    exact zR_n F hr hlocks hQ rfl dX4_isFull_14
  · refine lv_iconst (v := 1) hx hb dX4_isFull_9 (by decide) ?_
    refine lv_goto (tgt := 14) hx hb dX4_isFull_10 (by decide) ?_
    obtain rfl := Option.some.inj h
    exact zR_n F hr hlocks hQ rfl dX4_isFull_14
def f_X4_hasMeasure (N : Nat) (v_size : Int32) (x1 : Int32) : Option Int32 :=
  if x1 < 0 then some 0 else if x1 < v_size then some 1 else some 0
abbrev rm_X4_hasMeasure : Room := { frames := 0, cells := 0, slots := 0, locals := 0 }
theorem zy_X4_hasMeasure : zYv yX4_hasMeasure RX4 cX4_hasMeasure 2 (some .boolean) 1 := ⟨zw_65, zw_66, zw_30, zw_63, ⟨by decide, by decide⟩, by decide +kernel⟩
set_option maxHeartbeats 4000000 in
set_option maxRecDepth 100000 in
theorem k_X4_hasMeasure (l : Launch) (N : Nat) (g : zEnv) (a_this a_cells : Nat) (v_size : Int32) (x1 : Int32) (r : Int32) (h : f_X4_hasMeasure N v_size x1 = some r) : ZR l yX4_hasMeasure cX4_hasMeasure 2 (some .boolean) rm_X4_hasMeasure g [.ref a_this, .int x1] [zo_X4 a_this a_cells v_size] (some (.int r)) := by
  refine zR_of (by decide) (Nat.le_of_ble_eq_true rfl) ?_
  intro p e s m below meth c A ls Q R F hRm hr hlocks hP hD hS hl hQ
  subst hRm
  have F : zF p m c cX4_hasMeasure 2 s (([.ref a_this, .int x1] : List Value)).toArray RX4 g A := F
  have hx := F.1.1
  have hb := F.1.2.1
  have hz := F.1.2.2.2.2
  have hl : lv_has ls 2 [(0, .ref a_this), (1, .int x1)] := hl
  unfold f_X4_hasMeasure at h
  refine lv_iload_n hx hb dX4_hasMeasure_0 rfl (lv_at hl 1 rfl) ?_
  refine z_lt (tgt := 16) hx hb dX4_hasMeasure_1 (by decide) h (fun h => ?_) (fun h => ?_)
  · refine lv_iconst (v := 0) hx hb dX4_hasMeasure_16 (by decide) ?_
    obtain rfl := Option.some.inj h
    exact zR_n F hr hlocks hQ rfl dX4_hasMeasure_17
  · refine lv_iload_n hx hb dX4_hasMeasure_4 rfl (lv_at hl 1 rfl) ?_
    refine lv_aload_n hx hb dX4_hasMeasure_5 rfl (lv_at hl 0 rfl) ?_
    refine z_get (C := RX4) (T := TX4) (N := 2) (ci := 3) F zu_wsX40 hP 0 rfl rfl 1 (by decide) zw_36 rfl dX4_hasMeasure_6 ?_
    refine z_cge (tgt := 16) hx hb dX4_hasMeasure_9 (by decide) h (fun h => ?_) (fun h => ?_)
    · refine lv_iconst (v := 0) hx hb dX4_hasMeasure_16 (by decide) ?_
      obtain rfl := Option.some.inj h
      exact zR_n F hr hlocks hQ rfl dX4_hasMeasure_17
    · refine lv_iconst (v := 1) hx hb dX4_hasMeasure_12 (by decide) ?_
      refine lv_goto (tgt := 17) hx hb dX4_hasMeasure_13 (by decide) ?_
      obtain rfl := Option.some.inj h
      exact zR_n F hr hlocks hQ rfl dX4_hasMeasure_17
def f_X4_voiceCell (N : Nat) (v_size : Int32) (x1 : Int32) (x2 : Int32) : Option Int32 :=
  Option.bind (if x1 < 0 then some 0 else if x1 < v_size then if x2 < 0 then some 0 else if x2 < 2 then some 1 else some 0 else some 0) (fun (r1_ : Int32) => if r1_ = 0 then some (-1) else some (((x1 * 57) + 7) + (x2 * 25)))
abbrev rm_X4_voiceCell : Room := { frames := 0, cells := 0, slots := 0, locals := 0 }
theorem zy_X4_voiceCell : zYv yX4_voiceCell RX4 cX4_voiceCell 4 (some .int) 2 := ⟨zw_245, zw_246, zw_30, zw_243, ⟨by decide, by decide⟩, by decide +kernel⟩
set_option maxHeartbeats 4000000 in
set_option maxRecDepth 100000 in
theorem k_X4_voiceCell (l : Launch) (N : Nat) (g : zEnv) (a_this a_cells : Nat) (v_size : Int32) (x1 : Int32) (x2 : Int32) (r : Int32) (h : f_X4_voiceCell N v_size x1 x2 = some r) : ZR l yX4_voiceCell cX4_voiceCell 4 (some .int) rm_X4_voiceCell g [.ref a_this, .int x1, .int x2] [zo_X4 a_this a_cells v_size] (some (.int r)) := by
  refine zR_of (by decide) (Nat.le_of_ble_eq_true rfl) ?_
  intro p e s m below meth c A ls Q R F hRm hr hlocks hP hD hS hl hQ
  subst hRm
  have F : zF p m c cX4_voiceCell 4 s (([.ref a_this, .int x1, .int x2] : List Value)).toArray RX4 g A := F
  have hx := F.1.1
  have hb := F.1.2.1
  have hz := F.1.2.2.2.2
  have hl : lv_has ls 4 [(0, .ref a_this), (1, .int x1), (2, .int x2)] := hl
  unfold f_X4_voiceCell at h
  refine lv_iload_n hx hb dX4_voiceCell_0 rfl (lv_at hl 1 rfl) ?_
  obtain ⟨r1_, hA26_, h⟩ := z_bind h
  have k26_ : ∀ (ls : Array Slot), lv_has ls 4 [(1, .int x1), (2, .int x2)] → W p l e rm_X4_voiceCell s m (([.ref a_this, .int x1, .int x2] : List Value)).toArray below meth c s.heap [] 0 0 Q (F0 m 26 ls [.int r1_]) := by
    intro ls hl
    refine lv_istore_n (lv' := [(3, .int r1_), (1, .int x1), (2, .int x2)]) hx hb dX4_voiceCell_26 rfl hl (by decide) rfl (fun ls hl => ?_)
    refine lv_iload_n hx hb dX4_voiceCell_27 rfl (lv_at hl 0 rfl) ?_
    refine z_eq (tgt := 46) hx hb dX4_voiceCell_28 (by decide) h (fun h => ?_) (fun h => ?_)
    · refine lv_iconst (v := (-1)) hx hb dX4_voiceCell_46 (by decide) ?_
      obtain rfl := Option.some.inj h
      exact zR_i F hr hlocks hQ dX4_voiceCell_47
    · refine lv_iload_n hx hb dX4_voiceCell_31 rfl (lv_at hl 1 rfl) ?_
      refine lv_bipush (v := 57) hx hb dX4_voiceCell_32 (by decide) ?_
      refine lv_imul hx hb dX4_voiceCell_34 ?_
      refine lv_bipush (v := 7) hx hb dX4_voiceCell_35 (by decide) ?_
      refine lv_iadd hx hb dX4_voiceCell_37 ?_
      refine lv_iload_n hx hb dX4_voiceCell_38 rfl (lv_at hl 2 rfl) ?_
      refine lv_bipush (v := 25) hx hb dX4_voiceCell_39 (by decide) ?_
      refine lv_imul hx hb dX4_voiceCell_41 ?_
      refine lv_iadd hx hb dX4_voiceCell_42 ?_
      refine lv_goto (tgt := 47) hx hb dX4_voiceCell_43 (by decide) ?_
      obtain rfl := Option.some.inj h
      exact zR_i F hr hlocks hQ dX4_voiceCell_47
  have h := hA26_
  refine z_lt (tgt := 25) hx hb dX4_voiceCell_1 (by decide) h (fun h => ?_) (fun h => ?_)
  · refine lv_iconst (v := 0) hx hb dX4_voiceCell_25 (by decide) ?_
    obtain rfl := Option.some.inj h
    exact k26_ _ (lv_sub hl [1, 2] rfl)
  · refine lv_iload_n hx hb dX4_voiceCell_4 rfl (lv_at hl 1 rfl) ?_
    refine lv_aload_n hx hb dX4_voiceCell_5 rfl (lv_at hl 0 rfl) ?_
    refine z_get (C := RX4) (T := TX4) (N := 2) (ci := 3) F zu_wsX40 hP 0 rfl rfl 1 (by decide) zw_36 rfl dX4_voiceCell_6 ?_
    refine z_cge (tgt := 25) hx hb dX4_voiceCell_9 (by decide) h (fun h => ?_) (fun h => ?_)
    · refine lv_iconst (v := 0) hx hb dX4_voiceCell_25 (by decide) ?_
      obtain rfl := Option.some.inj h
      exact k26_ _ (lv_sub hl [1, 2] rfl)
    · refine lv_iload_n hx hb dX4_voiceCell_12 rfl (lv_at hl 2 rfl) ?_
      refine z_lt (tgt := 25) hx hb dX4_voiceCell_13 (by decide) h (fun h => ?_) (fun h => ?_)
      · refine lv_iconst (v := 0) hx hb dX4_voiceCell_25 (by decide) ?_
        obtain rfl := Option.some.inj h
        exact k26_ _ (lv_sub hl [1, 2] rfl)
      · refine lv_iload_n hx hb dX4_voiceCell_16 rfl (lv_at hl 2 rfl) ?_
        refine lv_iconst (v := 2) hx hb dX4_voiceCell_17 (by decide) ?_
        refine z_cge (tgt := 25) hx hb dX4_voiceCell_18 (by decide) h (fun h => ?_) (fun h => ?_)
        · refine lv_iconst (v := 0) hx hb dX4_voiceCell_25 (by decide) ?_
          obtain rfl := Option.some.inj h
          exact k26_ _ (lv_sub hl [1, 2] rfl)
        · refine lv_iconst (v := 1) hx hb dX4_voiceCell_21 (by decide) ?_
          refine lv_goto (tgt := 26) hx hb dX4_voiceCell_22 (by decide) ?_
          obtain rfl := Option.some.inj h
          exact k26_ _ (lv_sub hl [1, 2] rfl)
def f_X4_hasVoice (N : Nat) (v_size : Int32) (x1 : Int32) (x2 : Int32) : Option Int32 :=
  Option.bind (f_X4_voiceCell N v_size x1 x2) (fun (r1_ : Int32) => if r1_ < 0 then some 0 else some 1)
abbrev rm_X4_hasVoice : Room := { frames := 1, cells := 0, slots := 0, locals := 23 }
theorem zy_X4_hasVoice : zYv yX4_hasVoice RX4 cX4_hasVoice 3 (some .boolean) 2 := ⟨zw_548, zw_549, zw_30, zw_283, ⟨by decide, by decide⟩, by decide +kernel⟩
set_option maxHeartbeats 4000000 in
set_option maxRecDepth 100000 in
theorem k_X4_hasVoice (l : Launch) (N : Nat) (g : zEnv) (a_this a_cells : Nat) (v_size : Int32) (x1 : Int32) (x2 : Int32) (r : Int32) (h : f_X4_hasVoice N v_size x1 x2 = some r) : ZR l yX4_hasVoice cX4_hasVoice 3 (some .boolean) rm_X4_hasVoice g [.ref a_this, .int x1, .int x2] [zo_X4 a_this a_cells v_size] (some (.int r)) := by
  refine zR_of (by decide) (Nat.le_of_ble_eq_true rfl) ?_
  intro p e s m below meth c A ls Q R F hRm hr hlocks hP hD hS hl hQ
  subst hRm
  have F : zF p m c cX4_hasVoice 3 s (([.ref a_this, .int x1, .int x2] : List Value)).toArray RX4 g A := F
  have hx := F.1.1
  have hb := F.1.2.1
  have hz := F.1.2.2.2.2
  have hl : lv_has ls 3 [(0, .ref a_this), (1, .int x1), (2, .int x2)] := hl
  unfold f_X4_hasVoice at h
  refine lv_aload_n hx hb dX4_hasVoice_0 rfl (lv_at hl 0 rfl) ?_
  refine lv_iload_n hx hb dX4_hasVoice_1 rfl (lv_at hl 1 rfl) ?_
  refine lv_iload_n hx hb dX4_hasVoice_2 rfl (lv_at hl 2 rfl) ?_
  obtain ⟨r1_, hr1_, h⟩ := z_bind h
  refine zRV F (k_X4_voiceCell l N g a_this a_cells v_size x1 x2 _ hr1_) zy_X4_voiceCell zw_244 hP hD hS [0] rfl rfl (q0 := 0) (he := rfl) (hc := rfl) (rest := []) rfl hl.1 rfl (Nat.le_of_ble_eq_true rfl) ⟨rfl, rfl⟩ ⟨Nat.le_of_ble_eq_true rfl, Nat.le_of_ble_eq_true rfl⟩ ⟨Nat.zero_le _, Nat.zero_le _⟩ dX4_hasVoice_3 (st1 := [.int r1_]) rfl ?_
  refine z_lt (tgt := 13) hx hb dX4_hasVoice_6 (by decide) h (fun h => ?_) (fun h => ?_)
  · refine lv_iconst (v := 0) hx hb dX4_hasVoice_13 (by decide) ?_
    obtain rfl := Option.some.inj h
    exact zR_n F hr hlocks hQ rfl dX4_hasVoice_14
  · refine lv_iconst (v := 1) hx hb dX4_hasVoice_9 (by decide) ?_
    refine lv_goto (tgt := 14) hx hb dX4_hasVoice_10 (by decide) ?_
    obtain rfl := Option.some.inj h
    exact zR_n F hr hlocks hQ rfl dX4_hasVoice_14
def f_X4_count (N : Nat) (v_size : Int32) (v_cells : Nat → Int32) (x1 : Int32) (x2 : Int32) : Option Int32 :=
  Option.bind (f_X4_voiceCell N v_size x1 x2) (fun (r1_ : Int32) => if r1_ < 0 then some 0 else Option.bind (zAld v_cells 912 r1_) (fun (x2_ : Int32) => some x2_))
abbrev rm_X4_count : Room := { frames := 1, cells := 0, slots := 0, locals := 23 }
theorem zy_X4_count : zYv yX4_count RX4 cX4_count 4 (some .int) 2 := ⟨zw_286, zw_287, zw_30, zw_284, ⟨by decide, by decide⟩, by decide +kernel⟩
set_option maxHeartbeats 4000000 in
set_option maxRecDepth 100000 in
theorem k_X4_count (l : Launch) (N : Nat) (g : zEnv) (a_this a_cells : Nat) (v_size : Int32) (v_cells : Nat → Int32) (x1 : Int32) (x2 : Int32) (r : Int32) (h : f_X4_count N v_size v_cells x1 x2 = some r) : ZR l yX4_count cX4_count 4 (some .int) rm_X4_count g [.ref a_this, .int x1, .int x2] [zo_X4 a_this a_cells v_size, (a_cells, .inl (zI g, 912, .inl v_cells))] (some (.int r)) := by
  refine zR_of (by decide) (Nat.le_of_ble_eq_true rfl) ?_
  intro p e s m below meth c A ls Q R F hRm hr hlocks hP hD hS hl hQ
  subst hRm
  have F : zF p m c cX4_count 4 s (([.ref a_this, .int x1, .int x2] : List Value)).toArray RX4 g A := F
  have hx := F.1.1
  have hb := F.1.2.1
  have hz := F.1.2.2.2.2
  have hl : lv_has ls 4 [(0, .ref a_this), (1, .int x1), (2, .int x2)] := hl
  unfold f_X4_count at h
  refine lv_aload_n hx hb dX4_count_0 rfl (lv_at hl 0 rfl) ?_
  refine lv_iload_n hx hb dX4_count_1 rfl (lv_at hl 1 rfl) ?_
  refine lv_iload_n hx hb dX4_count_2 rfl (lv_at hl 2 rfl) ?_
  obtain ⟨r1_, hr1_, h⟩ := z_bind h
  refine zRV F (k_X4_voiceCell l N g a_this a_cells v_size x1 x2 _ hr1_) zy_X4_voiceCell zw_244 hP hD hS [0] rfl rfl (q0 := 0) (he := rfl) (hc := rfl) (rest := []) rfl hl.1 rfl (Nat.le_of_ble_eq_true rfl) ⟨rfl, rfl⟩ ⟨Nat.le_of_ble_eq_true rfl, Nat.le_of_ble_eq_true rfl⟩ ⟨Nat.zero_le _, Nat.zero_le _⟩ dX4_count_3 (st1 := [.int r1_]) rfl ?_
  refine lv_istore_n (lv' := [(3, .int r1_), (0, .ref a_this), (1, .int x1), (2, .int x2)]) hx hb dX4_count_6 rfl hl (by decide) rfl (fun ls hl => ?_)
  refine lv_iload_n hx hb dX4_count_7 rfl (lv_at hl 0 rfl) ?_
  refine z_lt (tgt := 20) hx hb dX4_count_8 (by decide) h (fun h => ?_) (fun h => ?_)
  · refine lv_iconst (v := 0) hx hb dX4_count_20 (by decide) ?_
    obtain rfl := Option.some.inj h
    exact zR_i F hr hlocks hQ dX4_count_21
  · refine lv_aload_n hx hb dX4_count_11 rfl (lv_at hl 1 rfl) ?_
    refine z_get (C := RX4) (T := TX4) (N := 2) (ci := 3) F zu_wsX40 hP 0 rfl rfl 0 (by decide) zw_24 rfl dX4_count_12 ?_
    refine lv_iload_n hx hb dX4_count_15 rfl (lv_at hl 0 rfl) ?_
    refine z_iald F hP 1 rfl dX4_count_16 h (fun x2_ h => ?_)
    refine lv_goto (tgt := 21) hx hb dX4_count_17 (by decide) ?_
    obtain rfl := Option.some.inj h
    exact zR_i F hr hlocks hQ dX4_count_21
def f_X4_hasEvent (N : Nat) (v_size : Int32) (v_cells : Nat → Int32) (x1 : Int32) (x2 : Int32) (x3 : Int32) : Option Int32 :=
  if x3 < 0 then some 0 else Option.bind (f_X4_count N v_size v_cells x1 x2) (fun (r1_ : Int32) => if x3 < r1_ then some 1 else some 0)
abbrev rm_X4_hasEvent : Room := { frames := 2, cells := 0, slots := 0, locals := 46 }
theorem zy_X4_hasEvent : zYv yX4_hasEvent RX4 cX4_hasEvent 4 (some .boolean) 3 := ⟨zw_568, zw_569, zw_30, zw_288, ⟨by decide, by decide⟩, by decide +kernel⟩
set_option maxHeartbeats 4000000 in
set_option maxRecDepth 100000 in
theorem k_X4_hasEvent (l : Launch) (N : Nat) (g : zEnv) (a_this a_cells : Nat) (v_size : Int32) (v_cells : Nat → Int32) (x1 : Int32) (x2 : Int32) (x3 : Int32) (r : Int32) (h : f_X4_hasEvent N v_size v_cells x1 x2 x3 = some r) : ZR l yX4_hasEvent cX4_hasEvent 4 (some .boolean) rm_X4_hasEvent g [.ref a_this, .int x1, .int x2, .int x3] [zo_X4 a_this a_cells v_size, (a_cells, .inl (zI g, 912, .inl v_cells))] (some (.int r)) := by
  refine zR_of (by decide) (Nat.le_of_ble_eq_true rfl) ?_
  intro p e s m below meth c A ls Q R F hRm hr hlocks hP hD hS hl hQ
  subst hRm
  have F : zF p m c cX4_hasEvent 4 s (([.ref a_this, .int x1, .int x2, .int x3] : List Value)).toArray RX4 g A := F
  have hx := F.1.1
  have hb := F.1.2.1
  have hz := F.1.2.2.2.2
  have hl : lv_has ls 4 [(0, .ref a_this), (1, .int x1), (2, .int x2), (3, .int x3)] := hl
  unfold f_X4_hasEvent at h
  refine lv_iload_n hx hb dX4_hasEvent_0 rfl (lv_at hl 3 rfl) ?_
  refine z_lt (tgt := 18) hx hb dX4_hasEvent_1 (by decide) h (fun h => ?_) (fun h => ?_)
  · refine lv_iconst (v := 0) hx hb dX4_hasEvent_18 (by decide) ?_
    obtain rfl := Option.some.inj h
    exact zR_n F hr hlocks hQ rfl dX4_hasEvent_19
  · refine lv_iload_n hx hb dX4_hasEvent_4 rfl (lv_at hl 3 rfl) ?_
    refine lv_aload_n hx hb dX4_hasEvent_5 rfl (lv_at hl 0 rfl) ?_
    refine lv_iload_n hx hb dX4_hasEvent_6 rfl (lv_at hl 1 rfl) ?_
    refine lv_iload_n hx hb dX4_hasEvent_7 rfl (lv_at hl 2 rfl) ?_
    obtain ⟨r1_, hr1_, h⟩ := z_bind h
    refine zRV F (k_X4_count l N g a_this a_cells v_size v_cells x1 x2 _ hr1_) zy_X4_count zw_285 hP hD hS [0, 1] rfl rfl (q0 := 0) (he := rfl) (hc := rfl) (rest := [.int x3]) rfl hl.1 rfl (Nat.le_of_ble_eq_true rfl) ⟨rfl, rfl⟩ ⟨Nat.le_of_ble_eq_true rfl, Nat.le_of_ble_eq_true rfl⟩ ⟨Nat.zero_le _, Nat.zero_le _⟩ dX4_hasEvent_8 (st1 := [.int r1_, .int x3]) rfl ?_
    refine z_cge (tgt := 18) hx hb dX4_hasEvent_11 (by decide) h (fun h => ?_) (fun h => ?_)
    · refine lv_iconst (v := 0) hx hb dX4_hasEvent_18 (by decide) ?_
      obtain rfl := Option.some.inj h
      exact zR_n F hr hlocks hQ rfl dX4_hasEvent_19
    · refine lv_iconst (v := 1) hx hb dX4_hasEvent_14 (by decide) ?_
      refine lv_goto (tgt := 19) hx hb dX4_hasEvent_15 (by decide) ?_
      obtain rfl := Option.some.inj h
      exact zR_n F hr hlocks hQ rfl dX4_hasEvent_19
def f_X4_value (N : Nat) (v_size : Int32) (v_cells : Nat → Int32) (x1 : Int32) (x2 : Int32) : Option Int32 :=
  Option.bind (f_X4_hasMeasure N v_size x1) (fun (r1_ : Int32) => if r1_ = 0 then some 0 else if x2 < 0 then some 0 else if x2 < 7 then Option.bind (zAld v_cells 912 ((x1 * 57) + x2)) (fun (x2_ : Int32) => some x2_) else some 0)
abbrev rm_X4_value : Room := { frames := 1, cells := 0, slots := 0, locals := 21 }
theorem zy_X4_value : zYv yX4_value RX4 cX4_value 3 (some .int) 2 := ⟨zw_69, zw_70, zw_30, zw_67, ⟨by decide, by decide⟩, by decide +kernel⟩
set_option maxHeartbeats 4000000 in
set_option maxRecDepth 100000 in
theorem k_X4_value (l : Launch) (N : Nat) (g : zEnv) (a_this a_cells : Nat) (v_size : Int32) (v_cells : Nat → Int32) (x1 : Int32) (x2 : Int32) (r : Int32) (h : f_X4_value N v_size v_cells x1 x2 = some r) : ZR l yX4_value cX4_value 3 (some .int) rm_X4_value g [.ref a_this, .int x1, .int x2] [zo_X4 a_this a_cells v_size, (a_cells, .inl (zI g, 912, .inl v_cells))] (some (.int r)) := by
  refine zR_of (by decide) (Nat.le_of_ble_eq_true rfl) ?_
  intro p e s m below meth c A ls Q R F hRm hr hlocks hP hD hS hl hQ
  subst hRm
  have F : zF p m c cX4_value 3 s (([.ref a_this, .int x1, .int x2] : List Value)).toArray RX4 g A := F
  have hx := F.1.1
  have hb := F.1.2.1
  have hz := F.1.2.2.2.2
  have hl : lv_has ls 3 [(0, .ref a_this), (1, .int x1), (2, .int x2)] := hl
  unfold f_X4_value at h
  refine lv_aload_n hx hb dX4_value_0 rfl (lv_at hl 0 rfl) ?_
  refine lv_iload_n hx hb dX4_value_1 rfl (lv_at hl 1 rfl) ?_
  obtain ⟨r1_, hr1_, h⟩ := z_bind h
  refine zRV F (k_X4_hasMeasure l N g a_this a_cells v_size x1 _ hr1_) zy_X4_hasMeasure zw_64 hP hD hS [0] rfl rfl (q0 := 0) (he := rfl) (hc := rfl) (rest := []) rfl hl.1 rfl (Nat.le_of_ble_eq_true rfl) ⟨rfl, rfl⟩ ⟨Nat.le_of_ble_eq_true rfl, Nat.le_of_ble_eq_true rfl⟩ ⟨Nat.zero_le _, Nat.zero_le _⟩ dX4_value_2 (st1 := [.int r1_]) rfl ?_
  refine z_eq (tgt := 32) hx hb dX4_value_5 (by decide) h (fun h => ?_) (fun h => ?_)
  · refine lv_iconst (v := 0) hx hb dX4_value_32 (by decide) ?_
    obtain rfl := Option.some.inj h
    exact zR_i F hr hlocks hQ dX4_value_33
  · refine lv_iload_n hx hb dX4_value_8 rfl (lv_at hl 2 rfl) ?_
    refine z_lt (tgt := 32) hx hb dX4_value_9 (by decide) h (fun h => ?_) (fun h => ?_)
    · refine lv_iconst (v := 0) hx hb dX4_value_32 (by decide) ?_
      obtain rfl := Option.some.inj h
      exact zR_i F hr hlocks hQ dX4_value_33
    · refine lv_iload_n hx hb dX4_value_12 rfl (lv_at hl 2 rfl) ?_
      refine lv_bipush (v := 7) hx hb dX4_value_13 (by decide) ?_
      refine z_cge (tgt := 32) hx hb dX4_value_15 (by decide) h (fun h => ?_) (fun h => ?_)
      · refine lv_iconst (v := 0) hx hb dX4_value_32 (by decide) ?_
        obtain rfl := Option.some.inj h
        exact zR_i F hr hlocks hQ dX4_value_33
      · refine lv_aload_n hx hb dX4_value_18 rfl (lv_at hl 0 rfl) ?_
        refine z_get (C := RX4) (T := TX4) (N := 2) (ci := 3) F zu_wsX40 hP 0 rfl rfl 0 (by decide) zw_24 rfl dX4_value_19 ?_
        refine lv_iload_n hx hb dX4_value_22 rfl (lv_at hl 1 rfl) ?_
        refine lv_bipush (v := 57) hx hb dX4_value_23 (by decide) ?_
        refine lv_imul hx hb dX4_value_25 ?_
        refine lv_iload_n hx hb dX4_value_26 rfl (lv_at hl 2 rfl) ?_
        refine lv_iadd hx hb dX4_value_27 ?_
        refine z_iald F hP 1 rfl dX4_value_28 h (fun x2_ h => ?_)
        refine lv_goto (tgt := 33) hx hb dX4_value_29 (by decide) ?_
        obtain rfl := Option.some.inj h
        exact zR_i F hr hlocks hQ dX4_value_33
def f_X4_putValue (N : Nat) (v_size : Int32) (v_cells : Nat → Int32) (x1 : Int32) (x2 : Int32) (x3 : Int32) : Option (Nat → Int32) :=
  Option.bind (f_X4_hasMeasure N v_size x1) (fun (r1_ : Int32) => if r1_ = 0 then some v_cells else if x2 < 0 then some v_cells else if x2 < 7 then Option.bind (zAst v_cells 912 ((x1 * 57) + x2) x3) (fun (w2_ : Nat → Int32) => some w2_) else some v_cells)
abbrev rm_X4_putValue : Room := { frames := 1, cells := 0, slots := 0, locals := 21 }
theorem zy_X4_putValue : zYv yX4_putValue RX4 cX4_putValue 4 none 3 := ⟨zw_116, zw_117, zw_30, zw_109, ⟨by decide, by decide⟩, by decide +kernel⟩
set_option maxHeartbeats 4000000 in
set_option maxRecDepth 100000 in
theorem k_X4_putValue (l : Launch) (N : Nat) (g : zEnv) (a_this a_cells : Nat) (v_size : Int32) (v_cells : Nat → Int32) (x1 : Int32) (x2 : Int32) (x3 : Int32) (r : (Nat → Int32)) (h : f_X4_putValue N v_size v_cells x1 x2 x3 = some r) : ZV l yX4_putValue cX4_putValue 4 none rm_X4_putValue g [.ref a_this, .int x1, .int x2, .int x3] [zo_X4 a_this a_cells v_size, (a_cells, .inl (zI g, 912, .inl v_cells))] [zo_X4 a_this a_cells v_size, (a_cells, .inl (zI g, 912, .inl r))] none := by
  refine zV_of (by decide) (Nat.le_of_ble_eq_true rfl) ?_
  intro p e s m below meth c A H locs ls Q R F hRm hr hlocks hP hD hS hl hQ
  subst hRm
  have F : zF p m c cX4_putValue 4 s (([.ref a_this, .int x1, .int x2, .int x3] : List Value)).toArray RX4 g A := F
  have hx := F.1.1
  have hb := F.1.2.1
  have hz := F.1.2.2.2.2
  have hl : lv_has ls 4 [(0, .ref a_this), (1, .int x1), (2, .int x2), (3, .int x3)] := hl
  unfold f_X4_putValue at h
  refine lv_aload_n hx hb dX4_putValue_0 rfl (lv_at hl 0 rfl) ?_
  refine lv_iload_n hx hb dX4_putValue_1 rfl (lv_at hl 1 rfl) ?_
  obtain ⟨r1_, hr1_, h⟩ := z_bind h
  refine zRV F (k_X4_hasMeasure l N g a_this a_cells v_size x1 _ hr1_) zy_X4_hasMeasure zw_64 hP hD hS [0] rfl rfl (q0 := 0) (he := rfl) (hc := rfl) (rest := []) rfl hl.1 rfl (Nat.le_of_ble_eq_true rfl) ⟨rfl, rfl⟩ ⟨Nat.le_of_ble_eq_true rfl, Nat.le_of_ble_eq_true rfl⟩ ⟨Nat.zero_le _, Nat.zero_le _⟩ dX4_putValue_2 (st1 := [.int r1_]) rfl ?_
  refine z_eq (tgt := 30) hx hb dX4_putValue_5 (by decide) h (fun h => ?_) (fun h => ?_)
  · obtain rfl := Option.some.inj h
    exact zV_v F hr hlocks hQ hP hD hS dX4_putValue_30
  · refine lv_iload_n hx hb dX4_putValue_8 rfl (lv_at hl 2 rfl) ?_
    refine z_lt (tgt := 30) hx hb dX4_putValue_9 (by decide) h (fun h => ?_) (fun h => ?_)
    · obtain rfl := Option.some.inj h
      exact zV_v F hr hlocks hQ hP hD hS dX4_putValue_30
    · refine lv_iload_n hx hb dX4_putValue_12 rfl (lv_at hl 2 rfl) ?_
      refine lv_bipush (v := 7) hx hb dX4_putValue_13 (by decide) ?_
      refine z_cge (tgt := 30) hx hb dX4_putValue_15 (by decide) h (fun h => ?_) (fun h => ?_)
      · obtain rfl := Option.some.inj h
        exact zV_v F hr hlocks hQ hP hD hS dX4_putValue_30
      · refine lv_aload_n hx hb dX4_putValue_18 rfl (lv_at hl 0 rfl) ?_
        refine z_get (C := RX4) (T := TX4) (N := 2) (ci := 3) F zu_wsX40 hP 0 rfl rfl 0 (by decide) zw_24 rfl dX4_putValue_19 ?_
        refine lv_iload_n hx hb dX4_putValue_22 rfl (lv_at hl 1 rfl) ?_
        refine lv_bipush (v := 57) hx hb dX4_putValue_23 (by decide) ?_
        refine lv_imul hx hb dX4_putValue_25 ?_
        refine lv_iload_n hx hb dX4_putValue_26 rfl (lv_at hl 2 rfl) ?_
        refine lv_iadd hx hb dX4_putValue_27 ?_
        refine lv_iload_n hx hb dX4_putValue_28 rfl (lv_at hl 3 rfl) ?_
        refine z_iast F hP hD hS 1 rfl dX4_putValue_29 h (W1 := fun w2_ => [zo_X4 a_this a_cells v_size, (a_cells, .inl (zI g, 912, .inl w2_))]) (fun _ => rfl) (fun w2_ H locs h hP hD hS => ?_)
        obtain rfl := Option.some.inj h
        exact zV_v F hr hlocks hQ hP hD hS dX4_putValue_30
def f_X4_code (N : Nat) (v_size : Int32) (v_cells : Nat → Int32) (x1 : Int32) (x2 : Int32) (x3 : Int32) : Option Int32 :=
  Option.bind (f_X4_voiceCell N v_size x1 x2) (fun (r1_ : Int32) => if r1_ < 0 then some 0 else if x3 < 0 then some 0 else Option.bind (zAld v_cells 912 r1_) (fun (x2_ : Int32) => if x3 < x2_ then Option.bind (zAld v_cells 912 ((r1_ + 1) + x3)) (fun (x3_ : Int32) => some x3_) else some 0))
abbrev rm_X4_code : Room := { frames := 1, cells := 0, slots := 0, locals := 23 }
theorem zy_X4_code : zYv yX4_code RX4 cX4_code 5 (some .int) 3 := ⟨zw_293, zw_294, zw_30, zw_289, ⟨by decide, by decide⟩, by decide +kernel⟩
set_option maxHeartbeats 4000000 in
set_option maxRecDepth 100000 in
theorem k_X4_code (l : Launch) (N : Nat) (g : zEnv) (a_this a_cells : Nat) (v_size : Int32) (v_cells : Nat → Int32) (x1 : Int32) (x2 : Int32) (x3 : Int32) (r : Int32) (h : f_X4_code N v_size v_cells x1 x2 x3 = some r) : ZR l yX4_code cX4_code 5 (some .int) rm_X4_code g [.ref a_this, .int x1, .int x2, .int x3] [zo_X4 a_this a_cells v_size, (a_cells, .inl (zI g, 912, .inl v_cells))] (some (.int r)) := by
  refine zR_of (by decide) (Nat.le_of_ble_eq_true rfl) ?_
  intro p e s m below meth c A ls Q R F hRm hr hlocks hP hD hS hl hQ
  subst hRm
  have F : zF p m c cX4_code 5 s (([.ref a_this, .int x1, .int x2, .int x3] : List Value)).toArray RX4 g A := F
  have hx := F.1.1
  have hb := F.1.2.1
  have hz := F.1.2.2.2.2
  have hl : lv_has ls 5 [(0, .ref a_this), (1, .int x1), (2, .int x2), (3, .int x3)] := hl
  unfold f_X4_code at h
  refine lv_aload_n hx hb dX4_code_0 rfl (lv_at hl 0 rfl) ?_
  refine lv_iload_n hx hb dX4_code_1 rfl (lv_at hl 1 rfl) ?_
  refine lv_iload_n hx hb dX4_code_2 rfl (lv_at hl 2 rfl) ?_
  obtain ⟨r1_, hr1_, h⟩ := z_bind h
  refine zRV F (k_X4_voiceCell l N g a_this a_cells v_size x1 x2 _ hr1_) zy_X4_voiceCell zw_244 hP hD hS [0] rfl rfl (q0 := 0) (he := rfl) (hc := rfl) (rest := []) rfl hl.1 rfl (Nat.le_of_ble_eq_true rfl) ⟨rfl, rfl⟩ ⟨Nat.le_of_ble_eq_true rfl, Nat.le_of_ble_eq_true rfl⟩ ⟨Nat.zero_le _, Nat.zero_le _⟩ dX4_code_3 (st1 := [.int r1_]) rfl ?_
  refine lv_istore (lv' := [(4, .int r1_), (0, .ref a_this), (1, .int x1), (2, .int x2), (3, .int x3)]) hx hb dX4_code_6 hl (by decide) rfl (fun ls hl => ?_)
  refine lv_iload hx hb dX4_code_8 (lv_at hl 0 rfl) ?_
  refine z_lt (tgt := 42) hx hb dX4_code_10 (by decide) h (fun h => ?_) (fun h => ?_)
  · refine lv_iconst (v := 0) hx hb dX4_code_42 (by decide) ?_
    obtain rfl := Option.some.inj h
    exact zR_i F hr hlocks hQ dX4_code_43
  · refine lv_iload_n hx hb dX4_code_13 rfl (lv_at hl 4 rfl) ?_
    refine z_lt (tgt := 42) hx hb dX4_code_14 (by decide) h (fun h => ?_) (fun h => ?_)
    · refine lv_iconst (v := 0) hx hb dX4_code_42 (by decide) ?_
      obtain rfl := Option.some.inj h
      exact zR_i F hr hlocks hQ dX4_code_43
    · refine lv_iload_n hx hb dX4_code_17 rfl (lv_at hl 4 rfl) ?_
      refine lv_aload_n hx hb dX4_code_18 rfl (lv_at hl 1 rfl) ?_
      refine z_get (C := RX4) (T := TX4) (N := 2) (ci := 3) F zu_wsX40 hP 0 rfl rfl 0 (by decide) zw_24 rfl dX4_code_19 ?_
      refine lv_iload hx hb dX4_code_22 (lv_at hl 0 rfl) ?_
      refine z_iald F hP 1 rfl dX4_code_24 h (fun x2_ h => ?_)
      refine z_cge (tgt := 42) hx hb dX4_code_25 (by decide) h (fun h => ?_) (fun h => ?_)
      · refine lv_iconst (v := 0) hx hb dX4_code_42 (by decide) ?_
        obtain rfl := Option.some.inj h
        exact zR_i F hr hlocks hQ dX4_code_43
      · refine lv_aload_n hx hb dX4_code_28 rfl (lv_at hl 1 rfl) ?_
        refine z_get (C := RX4) (T := TX4) (N := 2) (ci := 3) F zu_wsX40 hP 0 rfl rfl 0 (by decide) zw_24 rfl dX4_code_29 ?_
        refine lv_iload hx hb dX4_code_32 (lv_at hl 0 rfl) ?_
        refine lv_iconst (v := 1) hx hb dX4_code_34 (by decide) ?_
        refine lv_iadd hx hb dX4_code_35 ?_
        refine lv_iload_n hx hb dX4_code_36 rfl (lv_at hl 4 rfl) ?_
        refine lv_iadd hx hb dX4_code_37 ?_
        refine z_iald F hP 1 rfl dX4_code_38 h (fun x3_ h => ?_)
        refine lv_goto (tgt := 43) hx hb dX4_code_39 (by decide) ?_
        obtain rfl := Option.some.inj h
        exact zR_i F hr hlocks hQ dX4_code_43
def f_J7_rangeCheck_23922 (N : Nat) (x0 : Int32) (x1 : Int32) (x2 : Int32) : Option Unit :=
  if x2 < x1 then none else if x1 < 0 then none else if x0 < x2 then none else some ()
abbrev rm_J7_rangeCheck_23922 : Room := { frames := 0, cells := 0, slots := 0, locals := 0 }
theorem zy_J7_rangeCheck_23922 : zYs yJ7_rangeCheck_23922 cJ7_rangeCheck_23922 3 none 3 := ⟨zw_106, zw_107, zw_104, ⟨by decide, by decide⟩, by decide +kernel⟩
set_option maxHeartbeats 4000000 in
set_option maxRecDepth 100000 in
theorem k_J7_rangeCheck_23922 (l : Launch) (N : Nat) (g : zEnv) (x0 : Int32) (x1 : Int32) (x2 : Int32) (r : Unit) (h : f_J7_rangeCheck_23922 N x0 x1 x2 = some r) : ZR l yJ7_rangeCheck_23922 cJ7_rangeCheck_23922 3 none rm_J7_rangeCheck_23922 g [.int x0, .int x1, .int x2] [] none := by
  refine zR_of (by decide) (Nat.le_of_ble_eq_true rfl) ?_
  intro p e s m below meth c A ls Q R F hRm hr hlocks hP hD hS hl hQ
  subst hRm
  have F : zF p m c cJ7_rangeCheck_23922 3 s (([.int x0, .int x1, .int x2] : List Value)).toArray RJ7 g A := F
  have hx := F.1.1
  have hb := F.1.2.1
  have hz := F.1.2.2.2.2
  have hl : lv_has ls 3 [(0, .int x0), (1, .int x1), (2, .int x2)] := hl
  unfold f_J7_rangeCheck_23922 at h
  refine lv_iload_n hx hb dJ7_rangeCheck_23922_0 rfl (lv_at hl 1 rfl) ?_
  refine lv_iload_n hx hb dJ7_rangeCheck_23922_1 rfl (lv_at hl 2 rfl) ?_
  refine z_cle (tgt := 46) hx hb dJ7_rangeCheck_23922_2 (by decide) h (fun h => ?_) (fun h => ?_)
  · refine lv_iload_n hx hb dJ7_rangeCheck_23922_46 rfl (lv_at hl 1 rfl) ?_
    refine z_ge (tgt := 59) hx hb dJ7_rangeCheck_23922_47 (by decide) h (fun h => ?_) (fun h => ?_)
    · refine lv_iload_n hx hb dJ7_rangeCheck_23922_59 rfl (lv_at hl 2 rfl) ?_
      refine lv_iload_n hx hb dJ7_rangeCheck_23922_60 rfl (lv_at hl 0 rfl) ?_
      refine z_cle (tgt := 73) hx hb dJ7_rangeCheck_23922_61 (by decide) h (fun h => ?_) (fun h => ?_)
      · obtain rfl := Option.some.inj h
        exact zR_v F hr hlocks hQ dJ7_rangeCheck_23922_73
      · cases h
    · cases h
  · cases h
def f_J7_fill_fda19_B10 (N : Nat) (x2 : Int32) (n_p0 : Nat) (x3 : Int32) (kh10_ : Int32 × (Nat → Int32) → Option (Nat → Int32)) (v10_ : Int32 × (Nat → Int32)) : Option (Nat → Int32) :=
  if v10_.1 < x2 then Option.bind (zAst v10_.2 n_p0 v10_.1 x3) (fun (w3_ : Nat → Int32) => Option.bind (some (v10_.1 + 1)) (fun (x4_ : Int32) => kh10_ (x4_, w3_))) else some v10_.2
def f_J7_fill_fda19 (N : Nat) (n_p0 : Nat) (v_p0 : Nat → Int32) (x1 : Int32) (x2 : Int32) (x3 : Int32) : Option (Nat → Int32) :=
  Option.bind (f_J7_rangeCheck_23922 N (Int32.ofNat n_p0) x1 x2) (fun (r1_ : Unit) => Option.bind (zLoop (f_J7_fill_fda19_B10 N x2 n_p0 x3) N (x1, v_p0)) (fun (r2_ : (Nat → Int32)) => some r2_))
abbrev rm_J7_fill_fda19 : Room := { frames := 1, cells := 0, slots := 0, locals := 22 }
theorem zy_J7_fill_fda19 : zYs yJ7_fill_fda19 cJ7_fill_fda19 5 none 4 := ⟨zw_114, zw_107, zw_108, ⟨by decide, by decide⟩, by decide +kernel⟩
set_option maxHeartbeats 4000000 in
set_option maxRecDepth 100000 in
theorem k_J7_fill_fda19 (l : Launch) (N : Nat) (g : zEnv) (a_p0 : Nat) (n_p0 : Nat) (v_p0 : Nat → Int32) (x1 : Int32) (x2 : Int32) (x3 : Int32) (r : (Nat → Int32)) (h : f_J7_fill_fda19 N n_p0 v_p0 x1 x2 x3 = some r) : ZV l yJ7_fill_fda19 cJ7_fill_fda19 5 none rm_J7_fill_fda19 g [.ref a_p0, .int x1, .int x2, .int x3] [(a_p0, .inl (zI g, n_p0, .inl v_p0))] [(a_p0, .inl (zI g, n_p0, .inl r))] none := by
  refine zV_of (by decide) (Nat.le_of_ble_eq_true rfl) ?_
  intro p e s m below meth c A H locs ls Q R F hRm hr hlocks hP hD hS hl hQ
  subst hRm
  have F : zF p m c cJ7_fill_fda19 5 s (([.ref a_p0, .int x1, .int x2, .int x3] : List Value)).toArray RJ7 g A := F
  have hx := F.1.1
  have hb := F.1.2.1
  have hz := F.1.2.2.2.2
  have hl : lv_has ls 5 [(0, .ref a_p0), (1, .int x1), (2, .int x2), (3, .int x3)] := hl
  unfold f_J7_fill_fda19 at h
  refine lv_aload_n hx hb dJ7_fill_fda19_0 rfl (lv_at hl 0 rfl) ?_
  refine va_alen (v := (Int32.ofNat n_p0)) hx hb F.2.1 hP 0 0 rfl rfl rfl dJ7_fill_fda19_1 ?_
  refine lv_iload_n hx hb dJ7_fill_fda19_2 rfl (lv_at hl 1 rfl) ?_
  refine lv_iload_n hx hb dJ7_fill_fda19_3 rfl (lv_at hl 2 rfl) ?_
  obtain ⟨r1_, hr1_, h⟩ := z_bind h
  refine zRS F (k_J7_rangeCheck_23922 l N g (Int32.ofNat n_p0) x1 x2 _ hr1_) zy_J7_rangeCheck_23922 zw_105 hP hD hS [] rfl rfl (rest := []) rfl hl.1 rfl (Nat.le_of_ble_eq_true rfl) ⟨rfl, rfl⟩ ⟨Nat.le_of_ble_eq_true rfl, Nat.le_of_ble_eq_true rfl⟩ ⟨Nat.zero_le _, Nat.zero_le _⟩ dJ7_fill_fda19_4 (st1 := []) rfl ?_
  refine lv_iload_n hx hb dJ7_fill_fda19_7 rfl (lv_at hl 1 rfl) ?_
  refine lv_istore (lv' := [(4, .int x1), (0, .ref a_p0), (1, .int x1), (2, .int x2), (3, .int x3)]) hx hb dJ7_fill_fda19_8 hl (by decide) rfl (fun ls hl => ?_)
  obtain ⟨r2_, hA10_, h⟩ := z_bind h
  have k27_ : ∀ (H : Heap) (locs : List Loc) (ls : Array Slot), va_P (zD g) vwCl [(a_p0, .inl (zI g, n_p0, .inl r2_))] H → va_D A [(a_p0, .inl (zI g, n_p0, .inl r2_))] → va_S A s.heap H locs → lv_has ls 5 [] → W p l e rm_J7_fill_fda19 s m (([.ref a_p0, .int x1, .int x2, .int x3] : List Value)).toArray below meth c H locs 0 0 Q (F0 m 27 ls []) := by
    intro H locs ls hP hD hS hl
    obtain rfl := Option.some.inj h
    exact zV_v F hr hlocks hQ hP hD hS dJ7_fill_fda19_27
  have h := hA10_
  have l10_ : ∀ (n10_ : Nat) (v10_ : Int32 × (Nat → Int32)), zLoop (f_J7_fill_fda19_B10 N x2 n_p0 x3) n10_ v10_ = some r2_ → ∀ (H : Heap) (locs : List Loc) (ls : Array Slot), va_P (zD g) vwCl [(a_p0, .inl (zI g, n_p0, .inl v10_.2))] H → va_D A [(a_p0, .inl (zI g, n_p0, .inl v10_.2))] → va_S A s.heap H locs → lv_has ls 5 [(0, .ref a_p0), (2, .int x2), (3, .int x3), (4, .int v10_.1)] → W p l e rm_J7_fill_fda19 s m (([.ref a_p0, .int x1, .int x2, .int x3] : List Value)).toArray below meth c H locs 0 0 Q (F0 m 10 ls []) := by
    intro n10_
    induction n10_ with
    | zero => intro v10_ h; cases h
    | succ n10_ ih10_ =>
      intro v10_ h H locs ls hP hD hS hl
      have h : f_J7_fill_fda19_B10 N x2 n_p0 x3 (zLoop (f_J7_fill_fda19_B10 N x2 n_p0 x3) n10_) v10_ = some r2_ := h
      unfold f_J7_fill_fda19_B10 at h
      refine lv_iload hx hb dJ7_fill_fda19_10 (lv_at hl 3 rfl) ?_
      refine lv_iload_n hx hb dJ7_fill_fda19_12 rfl (lv_at hl 1 rfl) ?_
      refine z_cge (tgt := 27) hx hb dJ7_fill_fda19_13 (by decide) h (fun h => ?_) (fun h => ?_)
      · obtain rfl := Option.some.inj h
        exact k27_ _ _ _ hP hD hS (lv_sub hl [] rfl)
      · refine lv_aload_n hx hb dJ7_fill_fda19_16 rfl (lv_at hl 0 rfl) ?_
        refine lv_iload hx hb dJ7_fill_fda19_17 (lv_at hl 3 rfl) ?_
        refine lv_iload_n hx hb dJ7_fill_fda19_19 rfl (lv_at hl 2 rfl) ?_
        refine z_iast F hP hD hS 0 rfl dJ7_fill_fda19_20 h (W1 := fun w3_ => [(a_p0, .inl (zI g, n_p0, .inl w3_))]) (fun _ => rfl) (fun w3_ H locs h hP hD hS => ?_)
        refine z_nm h (fun x4_ ex4_ h => ?_)
        refine lv_iinc (v := x4_) (lv' := [(4, .int x4_), (0, .ref a_p0), (2, .int x2), (3, .int x3)]) hx hb dJ7_fill_fda19_21 hl (k := 3) rfl (by rw [ex4_]; rfl) (by decide) rfl (fun ls hl => ?_)
        refine lv_goto (tgt := 10) hx hb dJ7_fill_fda19_24 (by decide) ?_
        exact ih10_ _ h _ _ _ hP hD hS (lv_sub hl [1, 2, 3, 0] rfl)
  exact l10_ N _ h _ _ _ hP hD hS (lv_sub hl [1, 3, 4, 0] rfl)
def f_X4_appendMeasure (N : Nat) (v_size : Int32) (v_cells : Nat → Int32) : Option (Int32 × (Nat → Int32)) :=
  Option.bind (f_X4_isFull N v_size) (fun (r1_ : Int32) => if r1_ = 0 then Option.bind (some (v_size - 1)) (fun (x2_ : Int32) => Option.bind (f_J7_fill_fda19 N 912 v_cells (v_size * 57) ((v_size + 1) * 57) 0) (fun (r3_ : (Nat → Int32)) => Option.bind (some (v_size + 1)) (fun (x4_ : Int32) => Option.bind (if x2_ < 0 then some 1 else some 0) (fun (r5_ : Int32) => Option.bind (if r5_ = 0 then Option.bind (f_X4_value N x4_ r3_ x2_ 0) (fun (r17_ : Int32) => some r17_) else some 0) (fun (r6_ : Int32) => Option.bind (f_X4_putValue N x4_ r3_ (x4_ - 1) 0 r6_) (fun (r7_ : (Nat → Int32)) => Option.bind (if r5_ = 0 then Option.bind (f_X4_value N x4_ r7_ x2_ 1) (fun (r16_ : Int32) => some r16_) else some 4) (fun (r8_ : Int32) => Option.bind (f_X4_putValue N x4_ r7_ (x4_ - 1) 1 r8_) (fun (r9_ : (Nat → Int32)) => Option.bind (if r5_ = 0 then Option.bind (f_X4_value N x4_ r9_ x2_ 2) (fun (r15_ : Int32) => some r15_) else some 4) (fun (r10_ : Int32) => Option.bind (f_X4_putValue N x4_ r9_ (x4_ - 1) 2 r10_) (fun (r11_ : (Nat → Int32)) => Option.bind (if r5_ = 0 then Option.bind (f_X4_value N x4_ r11_ x2_ 3) (fun (r14_ : Int32) => some r14_) else some 120) (fun (r12_ : Int32) => Option.bind (f_X4_putValue N x4_ r11_ (x4_ - 1) 3 r12_) (fun (r13_ : (Nat → Int32)) => some (x4_, r13_))))))))))))) else some (v_size, v_cells))
abbrev rm_X4_appendMeasure : Room := { frames := 2, cells := 0, slots := 0, locals := 46 }
theorem zy_X4_appendMeasure : zYv yX4_appendMeasure RX4 cX4_appendMeasure 3 none 0 := ⟨zw_120, zw_121, zw_30, zw_118, ⟨by decide, by decide⟩, by decide +kernel⟩
set_option maxHeartbeats 4000000 in
set_option maxRecDepth 100000 in
theorem k_X4_appendMeasure (l : Launch) (N : Nat) (g : zEnv) (a_this a_cells : Nat) (v_size : Int32) (v_cells : Nat → Int32) (r : Int32 × (Nat → Int32)) (h : f_X4_appendMeasure N v_size v_cells = some r) : ZV l yX4_appendMeasure cX4_appendMeasure 3 none rm_X4_appendMeasure g [.ref a_this] [zo_X4 a_this a_cells v_size, (a_cells, .inl (zI g, 912, .inl v_cells))] [zo_X4 a_this a_cells r.1, (a_cells, .inl (zI g, 912, .inl r.2))] none := by
  refine zV_of (by decide) (Nat.le_of_ble_eq_true rfl) ?_
  intro p e s m below meth c A H locs ls Q R F hRm hr hlocks hP hD hS hl hQ
  subst hRm
  have F : zF p m c cX4_appendMeasure 3 s (([.ref a_this] : List Value)).toArray RX4 g A := F
  have hx := F.1.1
  have hb := F.1.2.1
  have hz := F.1.2.2.2.2
  have hl : lv_has ls 3 [(0, .ref a_this)] := hl
  unfold f_X4_appendMeasure at h
  refine lv_aload_n hx hb dX4_appendMeasure_0 rfl (lv_at hl 0 rfl) ?_
  obtain ⟨r1_, hr1_, h⟩ := z_bind h
  refine zRV F (k_X4_isFull l N g a_this a_cells v_size _ hr1_) zy_X4_isFull zw_110 hP hD hS [0] rfl rfl (q0 := 0) (he := rfl) (hc := rfl) (rest := []) rfl hl.1 rfl (Nat.le_of_ble_eq_true rfl) ⟨rfl, rfl⟩ ⟨Nat.le_of_ble_eq_true rfl, Nat.le_of_ble_eq_true rfl⟩ ⟨Nat.zero_le _, Nat.zero_le _⟩ dX4_appendMeasure_1 (st1 := [.int r1_]) rfl ?_
  refine z_eq (tgt := 8) hx hb dX4_appendMeasure_4 (by decide) h (fun h => ?_) (fun h => ?_)
  · refine lv_aload_n hx hb dX4_appendMeasure_8 rfl (lv_at hl 0 rfl) ?_
    refine z_get (C := RX4) (T := TX4) (N := 2) (ci := 3) F zu_wsX40 hP 0 rfl rfl 1 (by decide) zw_36 rfl dX4_appendMeasure_9 ?_
    refine lv_iconst (v := 1) hx hb dX4_appendMeasure_12 (by decide) ?_
    refine lv_isub hx hb dX4_appendMeasure_13 ?_
    refine z_top Value.int h (fun x2_ h => ?_)
    refine lv_istore_n (lv' := [(1, .int x2_), (0, .ref a_this)]) hx hb dX4_appendMeasure_14 rfl hl (by decide) rfl (fun ls hl => ?_)
    refine lv_aload_n hx hb dX4_appendMeasure_15 rfl (lv_at hl 1 rfl) ?_
    refine z_get (C := RX4) (T := TX4) (N := 2) (ci := 3) F zu_wsX40 hP 0 rfl rfl 0 (by decide) zw_24 rfl dX4_appendMeasure_16 ?_
    refine lv_aload_n hx hb dX4_appendMeasure_19 rfl (lv_at hl 1 rfl) ?_
    refine z_get (C := RX4) (T := TX4) (N := 2) (ci := 3) F zu_wsX40 hP 0 rfl rfl 1 (by decide) zw_36 rfl dX4_appendMeasure_20 ?_
    refine lv_bipush (v := 57) hx hb dX4_appendMeasure_23 (by decide) ?_
    refine lv_imul hx hb dX4_appendMeasure_25 ?_
    refine lv_aload_n hx hb dX4_appendMeasure_26 rfl (lv_at hl 1 rfl) ?_
    refine z_get (C := RX4) (T := TX4) (N := 2) (ci := 3) F zu_wsX40 hP 0 rfl rfl 1 (by decide) zw_36 rfl dX4_appendMeasure_27 ?_
    refine lv_iconst (v := 1) hx hb dX4_appendMeasure_30 (by decide) ?_
    refine lv_iadd hx hb dX4_appendMeasure_31 ?_
    refine lv_bipush (v := 57) hx hb dX4_appendMeasure_32 (by decide) ?_
    refine lv_imul hx hb dX4_appendMeasure_34 ?_
    refine lv_iconst (v := 0) hx hb dX4_appendMeasure_35 (by decide) ?_
    obtain ⟨r3_, hr3_, h⟩ := z_bind h
    refine zVS F (k_J7_fill_fda19 l N g a_cells 912 v_cells (v_size * 57) ((v_size + 1) * 57) 0 _ hr3_) zy_J7_fill_fda19 zw_113 hP hD hS [1] [0] [0, 1] (wr := [zo_X4 a_this a_cells v_size]) (W1 := [zo_X4 a_this a_cells v_size, (a_cells, .inl (zI g, 912, .inl r3_))]) rfl rfl rfl rfl (by decide) rfl rfl (rest := []) rfl hl.1 rfl (Nat.le_of_ble_eq_true rfl) ⟨rfl, rfl⟩ ⟨Nat.le_of_ble_eq_true rfl, Nat.le_of_ble_eq_true rfl⟩ ⟨Nat.zero_le _, Nat.zero_le _⟩ dX4_appendMeasure_36 (st1 := []) rfl (fun H locs hP hD hS => ?_)
    refine lv_aload_n hx hb dX4_appendMeasure_39 rfl (lv_at hl 1 rfl) ?_
    refine lv_dup hx hb dX4_appendMeasure_40 rfl ?_
    refine z_get (C := RX4) (T := TX4) (N := 2) (ci := 3) F zu_wsX40 hP 0 rfl rfl 1 (by decide) zw_36 rfl dX4_appendMeasure_41 ?_
    refine lv_iconst (v := 1) hx hb dX4_appendMeasure_44 (by decide) ?_
    refine lv_iadd hx hb dX4_appendMeasure_45 ?_
    refine z_top Value.int h (fun x4_ h => ?_)
    refine z_put (C := RX4) (T := TX4) (N := 2) (ci := 3) (W1 := [zo_X4 a_this a_cells x4_, (a_cells, .inl (zI g, 912, .inl r3_))]) F zu_wsX40 tyX4 tyX4_ok nmX4 hP hD hS 0 rfl rfl 1 (by decide) zw_36 rfl rfl rfl (Nat.le_of_ble_eq_true rfl) dX4_appendMeasure_46 rfl (fun H locs hP hD hS => ?_)
    refine lv_iload_n hx hb dX4_appendMeasure_49 rfl (lv_at hl 0 rfl) ?_
    obtain ⟨r5_, hA58_, h⟩ := z_bind h
    have k58_ : ∀ (H : Heap) (locs : List Loc) (ls : Array Slot), va_P (zD g) vwCl [zo_X4 a_this a_cells x4_, (a_cells, .inl (zI g, 912, .inl r3_))] H → va_D A [zo_X4 a_this a_cells x4_, (a_cells, .inl (zI g, 912, .inl r3_))] → va_S A s.heap H locs → lv_has ls 3 [(0, .ref a_this), (1, .int x2_)] → W p l e rm_X4_appendMeasure s m (([.ref a_this] : List Value)).toArray below meth c H locs 0 0 Q (F0 m 58 ls [.int r5_]) := by
      intro H locs ls hP hD hS hl
      refine lv_istore_n (lv' := [(2, .int r5_), (0, .ref a_this), (1, .int x2_)]) hx hb dX4_appendMeasure_58 rfl hl (by decide) rfl (fun ls hl => ?_)
      refine lv_aload_n hx hb dX4_appendMeasure_59 rfl (lv_at hl 1 rfl) ?_
      refine lv_aload_n hx hb dX4_appendMeasure_60 rfl (lv_at hl 1 rfl) ?_
      refine z_get (C := RX4) (T := TX4) (N := 2) (ci := 3) F zu_wsX40 hP 0 rfl rfl 1 (by decide) zw_36 rfl dX4_appendMeasure_61 ?_
      refine lv_iconst (v := 1) hx hb dX4_appendMeasure_64 (by decide) ?_
      refine lv_isub hx hb dX4_appendMeasure_65 ?_
      refine lv_iconst (v := 0) hx hb dX4_appendMeasure_66 (by decide) ?_
      refine lv_iload_n hx hb dX4_appendMeasure_67 rfl (lv_at hl 0 rfl) ?_
      obtain ⟨r6_, hA81_, h⟩ := z_bind h
      have k81_ : ∀ (H : Heap) (locs : List Loc) (ls : Array Slot), va_P (zD g) vwCl [zo_X4 a_this a_cells x4_, (a_cells, .inl (zI g, 912, .inl r3_))] H → va_D A [zo_X4 a_this a_cells x4_, (a_cells, .inl (zI g, 912, .inl r3_))] → va_S A s.heap H locs → lv_has ls 3 [(0, .ref a_this), (1, .int x2_), (2, .int r5_)] → W p l e rm_X4_appendMeasure s m (([.ref a_this] : List Value)).toArray below meth c H locs 0 0 Q (F0 m 81 ls [.int r6_, .int 0, .int (x4_ - 1), .ref a_this]) := by
        intro H locs ls hP hD hS hl
        obtain ⟨r7_, hr7_, h⟩ := z_bind h
        refine zVV F (k_X4_putValue l N g a_this a_cells x4_ r3_ (x4_ - 1) 0 r6_ _ hr7_) zy_X4_putValue zw_115 hP hD hS [0, 1] [] [0, 1] (wr := []) (W1 := [zo_X4 a_this a_cells x4_, (a_cells, .inl (zI g, 912, .inl r7_))]) rfl rfl rfl rfl (by decide) rfl rfl (q0 := 0) (he := rfl) (hc := rfl) (rest := []) rfl hl.1 rfl (Nat.le_of_ble_eq_true rfl) ⟨rfl, rfl⟩ ⟨Nat.le_of_ble_eq_true rfl, Nat.le_of_ble_eq_true rfl⟩ ⟨Nat.zero_le _, Nat.zero_le _⟩ dX4_appendMeasure_81 (st1 := []) rfl (fun H locs hP hD hS => ?_)
        refine lv_aload_n hx hb dX4_appendMeasure_84 rfl (lv_at hl 0 rfl) ?_
        refine lv_aload_n hx hb dX4_appendMeasure_85 rfl (lv_at hl 0 rfl) ?_
        refine z_get (C := RX4) (T := TX4) (N := 2) (ci := 3) F zu_wsX40 hP 0 rfl rfl 1 (by decide) zw_36 rfl dX4_appendMeasure_86 ?_
        refine lv_iconst (v := 1) hx hb dX4_appendMeasure_89 (by decide) ?_
        refine lv_isub hx hb dX4_appendMeasure_90 ?_
        refine lv_iconst (v := 1) hx hb dX4_appendMeasure_91 (by decide) ?_
        refine lv_iload_n hx hb dX4_appendMeasure_92 rfl (lv_at hl 2 rfl) ?_
        obtain ⟨r8_, hA106_, h⟩ := z_bind h
        have k106_ : ∀ (H : Heap) (locs : List Loc) (ls : Array Slot), va_P (zD g) vwCl [zo_X4 a_this a_cells x4_, (a_cells, .inl (zI g, 912, .inl r7_))] H → va_D A [zo_X4 a_this a_cells x4_, (a_cells, .inl (zI g, 912, .inl r7_))] → va_S A s.heap H locs → lv_has ls 3 [(0, .ref a_this), (1, .int x2_), (2, .int r5_)] → W p l e rm_X4_appendMeasure s m (([.ref a_this] : List Value)).toArray below meth c H locs 0 0 Q (F0 m 106 ls [.int r8_, .int 1, .int (x4_ - 1), .ref a_this]) := by
          intro H locs ls hP hD hS hl
          obtain ⟨r9_, hr9_, h⟩ := z_bind h
          refine zVV F (k_X4_putValue l N g a_this a_cells x4_ r7_ (x4_ - 1) 1 r8_ _ hr9_) zy_X4_putValue zw_115 hP hD hS [0, 1] [] [0, 1] (wr := []) (W1 := [zo_X4 a_this a_cells x4_, (a_cells, .inl (zI g, 912, .inl r9_))]) rfl rfl rfl rfl (by decide) rfl rfl (q0 := 0) (he := rfl) (hc := rfl) (rest := []) rfl hl.1 rfl (Nat.le_of_ble_eq_true rfl) ⟨rfl, rfl⟩ ⟨Nat.le_of_ble_eq_true rfl, Nat.le_of_ble_eq_true rfl⟩ ⟨Nat.zero_le _, Nat.zero_le _⟩ dX4_appendMeasure_106 (st1 := []) rfl (fun H locs hP hD hS => ?_)
          refine lv_aload_n hx hb dX4_appendMeasure_109 rfl (lv_at hl 0 rfl) ?_
          refine lv_aload_n hx hb dX4_appendMeasure_110 rfl (lv_at hl 0 rfl) ?_
          refine z_get (C := RX4) (T := TX4) (N := 2) (ci := 3) F zu_wsX40 hP 0 rfl rfl 1 (by decide) zw_36 rfl dX4_appendMeasure_111 ?_
          refine lv_iconst (v := 1) hx hb dX4_appendMeasure_114 (by decide) ?_
          refine lv_isub hx hb dX4_appendMeasure_115 ?_
          refine lv_iconst (v := 2) hx hb dX4_appendMeasure_116 (by decide) ?_
          refine lv_iload_n hx hb dX4_appendMeasure_117 rfl (lv_at hl 2 rfl) ?_
          obtain ⟨r10_, hA131_, h⟩ := z_bind h
          have k131_ : ∀ (H : Heap) (locs : List Loc) (ls : Array Slot), va_P (zD g) vwCl [zo_X4 a_this a_cells x4_, (a_cells, .inl (zI g, 912, .inl r9_))] H → va_D A [zo_X4 a_this a_cells x4_, (a_cells, .inl (zI g, 912, .inl r9_))] → va_S A s.heap H locs → lv_has ls 3 [(0, .ref a_this), (1, .int x2_), (2, .int r5_)] → W p l e rm_X4_appendMeasure s m (([.ref a_this] : List Value)).toArray below meth c H locs 0 0 Q (F0 m 131 ls [.int r10_, .int 2, .int (x4_ - 1), .ref a_this]) := by
            intro H locs ls hP hD hS hl
            obtain ⟨r11_, hr11_, h⟩ := z_bind h
            refine zVV F (k_X4_putValue l N g a_this a_cells x4_ r9_ (x4_ - 1) 2 r10_ _ hr11_) zy_X4_putValue zw_115 hP hD hS [0, 1] [] [0, 1] (wr := []) (W1 := [zo_X4 a_this a_cells x4_, (a_cells, .inl (zI g, 912, .inl r11_))]) rfl rfl rfl rfl (by decide) rfl rfl (q0 := 0) (he := rfl) (hc := rfl) (rest := []) rfl hl.1 rfl (Nat.le_of_ble_eq_true rfl) ⟨rfl, rfl⟩ ⟨Nat.le_of_ble_eq_true rfl, Nat.le_of_ble_eq_true rfl⟩ ⟨Nat.zero_le _, Nat.zero_le _⟩ dX4_appendMeasure_131 (st1 := []) rfl (fun H locs hP hD hS => ?_)
            refine lv_aload_n hx hb dX4_appendMeasure_134 rfl (lv_at hl 0 rfl) ?_
            refine lv_aload_n hx hb dX4_appendMeasure_135 rfl (lv_at hl 0 rfl) ?_
            refine z_get (C := RX4) (T := TX4) (N := 2) (ci := 3) F zu_wsX40 hP 0 rfl rfl 1 (by decide) zw_36 rfl dX4_appendMeasure_136 ?_
            refine lv_iconst (v := 1) hx hb dX4_appendMeasure_139 (by decide) ?_
            refine lv_isub hx hb dX4_appendMeasure_140 ?_
            refine lv_iconst (v := 3) hx hb dX4_appendMeasure_141 (by decide) ?_
            refine lv_iload_n hx hb dX4_appendMeasure_142 rfl (lv_at hl 2 rfl) ?_
            obtain ⟨r12_, hA157_, h⟩ := z_bind h
            have k157_ : ∀ (H : Heap) (locs : List Loc) (ls : Array Slot), va_P (zD g) vwCl [zo_X4 a_this a_cells x4_, (a_cells, .inl (zI g, 912, .inl r11_))] H → va_D A [zo_X4 a_this a_cells x4_, (a_cells, .inl (zI g, 912, .inl r11_))] → va_S A s.heap H locs → lv_has ls 3 [] → W p l e rm_X4_appendMeasure s m (([.ref a_this] : List Value)).toArray below meth c H locs 0 0 Q (F0 m 157 ls [.int r12_, .int 3, .int (x4_ - 1), .ref a_this]) := by
              intro H locs ls hP hD hS hl
              obtain ⟨r13_, hr13_, h⟩ := z_bind h
              refine zVV F (k_X4_putValue l N g a_this a_cells x4_ r11_ (x4_ - 1) 3 r12_ _ hr13_) zy_X4_putValue zw_115 hP hD hS [0, 1] [] [0, 1] (wr := []) (W1 := [zo_X4 a_this a_cells x4_, (a_cells, .inl (zI g, 912, .inl r13_))]) rfl rfl rfl rfl (by decide) rfl rfl (q0 := 0) (he := rfl) (hc := rfl) (rest := []) rfl hl.1 rfl (Nat.le_of_ble_eq_true rfl) ⟨rfl, rfl⟩ ⟨Nat.le_of_ble_eq_true rfl, Nat.le_of_ble_eq_true rfl⟩ ⟨Nat.zero_le _, Nat.zero_le _⟩ dX4_appendMeasure_157 (st1 := []) rfl (fun H locs hP hD hS => ?_)
              obtain rfl := Option.some.inj h
              exact zV_v F hr hlocks hQ hP hD hS dX4_appendMeasure_160
            have h := hA157_
            refine z_eq (tgt := 151) hx hb dX4_appendMeasure_143 (by decide) h (fun h => ?_) (fun h => ?_)
            · refine lv_aload_n hx hb dX4_appendMeasure_151 rfl (lv_at hl 0 rfl) ?_
              refine lv_iload_n hx hb dX4_appendMeasure_152 rfl (lv_at hl 1 rfl) ?_
              refine lv_iconst (v := 3) hx hb dX4_appendMeasure_153 (by decide) ?_
              obtain ⟨r14_, hr14_, h⟩ := z_bind h
              refine zRV F (k_X4_value l N g a_this a_cells x4_ r11_ x2_ 3 _ hr14_) zy_X4_value zw_79 hP hD hS [0, 1] rfl rfl (q0 := 0) (he := rfl) (hc := rfl) (rest := [.int 3, .int (x4_ - 1), .ref a_this]) rfl hl.1 rfl (Nat.le_of_ble_eq_true rfl) ⟨rfl, rfl⟩ ⟨Nat.le_of_ble_eq_true rfl, Nat.le_of_ble_eq_true rfl⟩ ⟨Nat.zero_le _, Nat.zero_le _⟩ dX4_appendMeasure_154 (st1 := [.int r14_, .int 3, .int (x4_ - 1), .ref a_this]) rfl ?_
              obtain rfl := Option.some.inj h
              exact k157_ _ _ _ hP hD hS (lv_sub hl [] rfl)
            · refine lv_bipush (v := 120) hx hb dX4_appendMeasure_146 (by decide) ?_
              refine lv_goto (tgt := 157) hx hb dX4_appendMeasure_148 (by decide) ?_
              obtain rfl := Option.some.inj h
              exact k157_ _ _ _ hP hD hS (lv_sub hl [] rfl)
          have h := hA131_
          refine z_eq (tgt := 125) hx hb dX4_appendMeasure_118 (by decide) h (fun h => ?_) (fun h => ?_)
          · refine lv_aload_n hx hb dX4_appendMeasure_125 rfl (lv_at hl 0 rfl) ?_
            refine lv_iload_n hx hb dX4_appendMeasure_126 rfl (lv_at hl 1 rfl) ?_
            refine lv_iconst (v := 2) hx hb dX4_appendMeasure_127 (by decide) ?_
            obtain ⟨r15_, hr15_, h⟩ := z_bind h
            refine zRV F (k_X4_value l N g a_this a_cells x4_ r9_ x2_ 2 _ hr15_) zy_X4_value zw_79 hP hD hS [0, 1] rfl rfl (q0 := 0) (he := rfl) (hc := rfl) (rest := [.int 2, .int (x4_ - 1), .ref a_this]) rfl hl.1 rfl (Nat.le_of_ble_eq_true rfl) ⟨rfl, rfl⟩ ⟨Nat.le_of_ble_eq_true rfl, Nat.le_of_ble_eq_true rfl⟩ ⟨Nat.zero_le _, Nat.zero_le _⟩ dX4_appendMeasure_128 (st1 := [.int r15_, .int 2, .int (x4_ - 1), .ref a_this]) rfl ?_
            obtain rfl := Option.some.inj h
            exact k131_ _ _ _ hP hD hS (lv_sub hl [0, 1, 2] rfl)
          · refine lv_iconst (v := 4) hx hb dX4_appendMeasure_121 (by decide) ?_
            refine lv_goto (tgt := 131) hx hb dX4_appendMeasure_122 (by decide) ?_
            obtain rfl := Option.some.inj h
            exact k131_ _ _ _ hP hD hS (lv_sub hl [0, 1, 2] rfl)
        have h := hA106_
        refine z_eq (tgt := 100) hx hb dX4_appendMeasure_93 (by decide) h (fun h => ?_) (fun h => ?_)
        · refine lv_aload_n hx hb dX4_appendMeasure_100 rfl (lv_at hl 0 rfl) ?_
          refine lv_iload_n hx hb dX4_appendMeasure_101 rfl (lv_at hl 1 rfl) ?_
          refine lv_iconst (v := 1) hx hb dX4_appendMeasure_102 (by decide) ?_
          obtain ⟨r16_, hr16_, h⟩ := z_bind h
          refine zRV F (k_X4_value l N g a_this a_cells x4_ r7_ x2_ 1 _ hr16_) zy_X4_value zw_79 hP hD hS [0, 1] rfl rfl (q0 := 0) (he := rfl) (hc := rfl) (rest := [.int 1, .int (x4_ - 1), .ref a_this]) rfl hl.1 rfl (Nat.le_of_ble_eq_true rfl) ⟨rfl, rfl⟩ ⟨Nat.le_of_ble_eq_true rfl, Nat.le_of_ble_eq_true rfl⟩ ⟨Nat.zero_le _, Nat.zero_le _⟩ dX4_appendMeasure_103 (st1 := [.int r16_, .int 1, .int (x4_ - 1), .ref a_this]) rfl ?_
          obtain rfl := Option.some.inj h
          exact k106_ _ _ _ hP hD hS (lv_sub hl [0, 1, 2] rfl)
        · refine lv_iconst (v := 4) hx hb dX4_appendMeasure_96 (by decide) ?_
          refine lv_goto (tgt := 106) hx hb dX4_appendMeasure_97 (by decide) ?_
          obtain rfl := Option.some.inj h
          exact k106_ _ _ _ hP hD hS (lv_sub hl [0, 1, 2] rfl)
      have h := hA81_
      refine z_eq (tgt := 75) hx hb dX4_appendMeasure_68 (by decide) h (fun h => ?_) (fun h => ?_)
      · refine lv_aload_n hx hb dX4_appendMeasure_75 rfl (lv_at hl 1 rfl) ?_
        refine lv_iload_n hx hb dX4_appendMeasure_76 rfl (lv_at hl 2 rfl) ?_
        refine lv_iconst (v := 0) hx hb dX4_appendMeasure_77 (by decide) ?_
        obtain ⟨r17_, hr17_, h⟩ := z_bind h
        refine zRV F (k_X4_value l N g a_this a_cells x4_ r3_ x2_ 0 _ hr17_) zy_X4_value zw_79 hP hD hS [0, 1] rfl rfl (q0 := 0) (he := rfl) (hc := rfl) (rest := [.int 0, .int (x4_ - 1), .ref a_this]) rfl hl.1 rfl (Nat.le_of_ble_eq_true rfl) ⟨rfl, rfl⟩ ⟨Nat.le_of_ble_eq_true rfl, Nat.le_of_ble_eq_true rfl⟩ ⟨Nat.zero_le _, Nat.zero_le _⟩ dX4_appendMeasure_78 (st1 := [.int r17_, .int 0, .int (x4_ - 1), .ref a_this]) rfl ?_
        obtain rfl := Option.some.inj h
        exact k81_ _ _ _ hP hD hS (lv_sub hl [1, 2, 0] rfl)
      · refine lv_iconst (v := 0) hx hb dX4_appendMeasure_71 (by decide) ?_
        refine lv_goto (tgt := 81) hx hb dX4_appendMeasure_72 (by decide) ?_
        obtain rfl := Option.some.inj h
        exact k81_ _ _ _ hP hD hS (lv_sub hl [1, 2, 0] rfl)
    have h := hA58_
    refine z_ge (tgt := 57) hx hb dX4_appendMeasure_50 (by decide) h (fun h => ?_) (fun h => ?_)
    · refine lv_iconst (v := 0) hx hb dX4_appendMeasure_57 (by decide) ?_
      obtain rfl := Option.some.inj h
      exact k58_ _ _ _ hP hD hS (lv_sub hl [1, 0] rfl)
    · refine lv_iconst (v := 1) hx hb dX4_appendMeasure_53 (by decide) ?_
      refine lv_goto (tgt := 58) hx hb dX4_appendMeasure_54 (by decide) ?_
      obtain rfl := Option.some.inj h
      exact k58_ _ _ _ hP hD hS (lv_sub hl [1, 0] rfl)
  · obtain rfl := Option.some.inj h
    exact zV_v F hr hlocks hQ hP hD hS dX4_appendMeasure_7
def f_X4_dropMeasure (N : Nat) (v_size : Int32) (v_cells : Nat → Int32) (x1 : Int32) : Option (Int32 × (Nat → Int32)) :=
  Option.bind (f_X4_hasMeasure N v_size x1) (fun (r1_ : Int32) => if r1_ = 0 then some (v_size, v_cells) else Option.bind (some ((v_size - x1) - 1)) (fun (x2_ : Int32) => Option.bind (zCpy v_cells v_cells 912 912 ((x1 + 1) * 57) (x1 * 57) (x2_ * 57)) (fun (w3_ : Nat → Int32) => Option.bind (some (v_size - 1)) (fun (x4_ : Int32) => some (x4_, w3_)))))
abbrev rm_X4_dropMeasure : Room := { frames := 1, cells := 0, slots := 0, locals := 68 }
theorem zy_X4_dropMeasure : zYv yX4_dropMeasure RX4 cX4_dropMeasure 3 none 1 := ⟨zw_538, zw_539, zw_30, zw_290, ⟨by decide, by decide⟩, by decide +kernel⟩
set_option maxHeartbeats 4000000 in
set_option maxRecDepth 100000 in
theorem k_X4_dropMeasure (l : Launch) (N : Nat) (g : zEnv) (a_this a_cells : Nat) (v_size : Int32) (v_cells : Nat → Int32) (x1 : Int32) (r : Int32 × (Nat → Int32)) (h : f_X4_dropMeasure N v_size v_cells x1 = some r) : ZV l yX4_dropMeasure cX4_dropMeasure 3 none rm_X4_dropMeasure g [.ref a_this, .int x1] [zo_X4 a_this a_cells v_size, (a_cells, .inl (zI g, 912, .inl v_cells))] [zo_X4 a_this a_cells r.1, (a_cells, .inl (zI g, 912, .inl r.2))] none := by
  refine zV_of (by decide) (Nat.le_of_ble_eq_true rfl) ?_
  intro p e s m below meth c A H locs ls Q R F hRm hr hlocks hP hD hS hl hQ
  subst hRm
  have F : zF p m c cX4_dropMeasure 3 s (([.ref a_this, .int x1] : List Value)).toArray RX4 g A := F
  have hx := F.1.1
  have hb := F.1.2.1
  have hz := F.1.2.2.2.2
  have hl : lv_has ls 3 [(0, .ref a_this), (1, .int x1)] := hl
  unfold f_X4_dropMeasure at h
  refine lv_aload_n hx hb dX4_dropMeasure_0 rfl (lv_at hl 0 rfl) ?_
  refine lv_iload_n hx hb dX4_dropMeasure_1 rfl (lv_at hl 1 rfl) ?_
  obtain ⟨r1_, hr1_, h⟩ := z_bind h
  refine zRV F (k_X4_hasMeasure l N g a_this a_cells v_size x1 _ hr1_) zy_X4_hasMeasure zw_64 hP hD hS [0] rfl rfl (q0 := 0) (he := rfl) (hc := rfl) (rest := []) rfl hl.1 rfl (Nat.le_of_ble_eq_true rfl) ⟨rfl, rfl⟩ ⟨Nat.le_of_ble_eq_true rfl, Nat.le_of_ble_eq_true rfl⟩ ⟨Nat.zero_le _, Nat.zero_le _⟩ dX4_dropMeasure_2 (st1 := [.int r1_]) rfl ?_
  refine z_eq (tgt := 52) hx hb dX4_dropMeasure_5 (by decide) h (fun h => ?_) (fun h => ?_)
  · obtain rfl := Option.some.inj h
    exact zV_v F hr hlocks hQ hP hD hS dX4_dropMeasure_52
  · refine lv_aload_n hx hb dX4_dropMeasure_8 rfl (lv_at hl 0 rfl) ?_
    refine z_get (C := RX4) (T := TX4) (N := 2) (ci := 3) F zu_wsX40 hP 0 rfl rfl 1 (by decide) zw_36 rfl dX4_dropMeasure_9 ?_
    refine lv_iload_n hx hb dX4_dropMeasure_12 rfl (lv_at hl 1 rfl) ?_
    refine lv_isub hx hb dX4_dropMeasure_13 ?_
    refine lv_iconst (v := 1) hx hb dX4_dropMeasure_14 (by decide) ?_
    refine lv_isub hx hb dX4_dropMeasure_15 ?_
    refine z_top Value.int h (fun x2_ h => ?_)
    refine lv_istore_n (lv' := [(2, .int x2_), (0, .ref a_this), (1, .int x1)]) hx hb dX4_dropMeasure_16 rfl hl (by decide) rfl (fun ls hl => ?_)
    refine lv_aload_n hx hb dX4_dropMeasure_17 rfl (lv_at hl 1 rfl) ?_
    refine z_get (C := RX4) (T := TX4) (N := 2) (ci := 3) F zu_wsX40 hP 0 rfl rfl 0 (by decide) zw_24 rfl dX4_dropMeasure_18 ?_
    refine lv_iload_n hx hb dX4_dropMeasure_21 rfl (lv_at hl 2 rfl) ?_
    refine lv_iconst (v := 1) hx hb dX4_dropMeasure_22 (by decide) ?_
    refine lv_iadd hx hb dX4_dropMeasure_23 ?_
    refine lv_bipush (v := 57) hx hb dX4_dropMeasure_24 (by decide) ?_
    refine lv_imul hx hb dX4_dropMeasure_26 ?_
    refine lv_aload_n hx hb dX4_dropMeasure_27 rfl (lv_at hl 1 rfl) ?_
    refine z_get (C := RX4) (T := TX4) (N := 2) (ci := 3) F zu_wsX40 hP 0 rfl rfl 0 (by decide) zw_24 rfl dX4_dropMeasure_28 ?_
    refine lv_iload_n hx hb dX4_dropMeasure_31 rfl (lv_at hl 2 rfl) ?_
    refine lv_bipush (v := 57) hx hb dX4_dropMeasure_32 (by decide) ?_
    refine lv_imul hx hb dX4_dropMeasure_34 ?_
    refine lv_iload_n hx hb dX4_dropMeasure_35 rfl (lv_at hl 0 rfl) ?_
    refine lv_bipush (v := 57) hx hb dX4_dropMeasure_36 (by decide) ?_
    refine lv_imul hx hb dX4_dropMeasure_38 ?_
    refine z_copy F hP hD hS hl.1 1 1 rfl rfl zw_37 zw_38 zw_39 zw_40 (Nat.le_of_ble_eq_true rfl) (Nat.le_of_ble_eq_true rfl) dX4_dropMeasure_39 h (W1 := fun w3_ => [zo_X4 a_this a_cells v_size, (a_cells, .inl (zI g, 912, .inl w3_))]) (fun _ => rfl) (fun w3_ H locs h hP hD hS => ?_)
    refine lv_aload_n hx hb dX4_dropMeasure_42 rfl (lv_at hl 1 rfl) ?_
    refine lv_dup hx hb dX4_dropMeasure_43 rfl ?_
    refine z_get (C := RX4) (T := TX4) (N := 2) (ci := 3) F zu_wsX40 hP 0 rfl rfl 1 (by decide) zw_36 rfl dX4_dropMeasure_44 ?_
    refine lv_iconst (v := 1) hx hb dX4_dropMeasure_47 (by decide) ?_
    refine lv_isub hx hb dX4_dropMeasure_48 ?_
    refine z_top Value.int h (fun x4_ h => ?_)
    refine z_put (C := RX4) (T := TX4) (N := 2) (ci := 3) (W1 := [zo_X4 a_this a_cells x4_, (a_cells, .inl (zI g, 912, .inl w3_))]) F zu_wsX40 tyX4 tyX4_ok nmX4 hP hD hS 0 rfl rfl 1 (by decide) zw_36 rfl rfl rfl (Nat.le_of_ble_eq_true rfl) dX4_dropMeasure_49 rfl (fun H locs hP hD hS => ?_)
    obtain rfl := Option.some.inj h
    exact zV_v F hr hlocks hQ hP hD hS dX4_dropMeasure_52
def f_X4_appendEvent (N : Nat) (v_size : Int32) (v_cells : Nat → Int32) (x1 : Int32) (x2 : Int32) (x3 : Int32) : Option (Nat → Int32) :=
  Option.bind (f_X4_voiceCell N v_size x1 x2) (fun (r1_ : Int32) => if r1_ < 0 then some v_cells else Option.bind (zAld v_cells 912 r1_) (fun (x2_ : Int32) => if x2_ < 24 then Option.bind (zAld v_cells 912 r1_) (fun (x3_ : Int32) => Option.bind (zAst v_cells 912 r1_ (x3_ + 1)) (fun (w4_ : Nat → Int32) => Option.bind (zAld w4_ 912 r1_) (fun (x5_ : Int32) => Option.bind (zAst w4_ 912 (r1_ + x5_) x3) (fun (w6_ : Nat → Int32) => some w6_)))) else some v_cells))
abbrev rm_X4_appendEvent : Room := { frames := 1, cells := 0, slots := 0, locals := 23 }
theorem zy_X4_appendEvent : zYv yX4_appendEvent RX4 cX4_appendEvent 5 none 3 := ⟨zw_261, zw_262, zw_30, zw_247, ⟨by decide, by decide⟩, by decide +kernel⟩
set_option maxHeartbeats 4000000 in
set_option maxRecDepth 100000 in
theorem k_X4_appendEvent (l : Launch) (N : Nat) (g : zEnv) (a_this a_cells : Nat) (v_size : Int32) (v_cells : Nat → Int32) (x1 : Int32) (x2 : Int32) (x3 : Int32) (r : (Nat → Int32)) (h : f_X4_appendEvent N v_size v_cells x1 x2 x3 = some r) : ZV l yX4_appendEvent cX4_appendEvent 5 none rm_X4_appendEvent g [.ref a_this, .int x1, .int x2, .int x3] [zo_X4 a_this a_cells v_size, (a_cells, .inl (zI g, 912, .inl v_cells))] [zo_X4 a_this a_cells v_size, (a_cells, .inl (zI g, 912, .inl r))] none := by
  refine zV_of (by decide) (Nat.le_of_ble_eq_true rfl) ?_
  intro p e s m below meth c A H locs ls Q R F hRm hr hlocks hP hD hS hl hQ
  subst hRm
  have F : zF p m c cX4_appendEvent 5 s (([.ref a_this, .int x1, .int x2, .int x3] : List Value)).toArray RX4 g A := F
  have hx := F.1.1
  have hb := F.1.2.1
  have hz := F.1.2.2.2.2
  have hl : lv_has ls 5 [(0, .ref a_this), (1, .int x1), (2, .int x2), (3, .int x3)] := hl
  unfold f_X4_appendEvent at h
  refine lv_aload_n hx hb dX4_appendEvent_0 rfl (lv_at hl 0 rfl) ?_
  refine lv_iload_n hx hb dX4_appendEvent_1 rfl (lv_at hl 1 rfl) ?_
  refine lv_iload_n hx hb dX4_appendEvent_2 rfl (lv_at hl 2 rfl) ?_
  obtain ⟨r1_, hr1_, h⟩ := z_bind h
  refine zRV F (k_X4_voiceCell l N g a_this a_cells v_size x1 x2 _ hr1_) zy_X4_voiceCell zw_244 hP hD hS [0] rfl rfl (q0 := 0) (he := rfl) (hc := rfl) (rest := []) rfl hl.1 rfl (Nat.le_of_ble_eq_true rfl) ⟨rfl, rfl⟩ ⟨Nat.le_of_ble_eq_true rfl, Nat.le_of_ble_eq_true rfl⟩ ⟨Nat.zero_le _, Nat.zero_le _⟩ dX4_appendEvent_3 (st1 := [.int r1_]) rfl ?_
  refine lv_istore (lv' := [(4, .int r1_), (0, .ref a_this), (1, .int x1), (2, .int x2), (3, .int x3)]) hx hb dX4_appendEvent_6 hl (by decide) rfl (fun ls hl => ?_)
  refine lv_iload hx hb dX4_appendEvent_8 (lv_at hl 0 rfl) ?_
  refine z_lt (tgt := 52) hx hb dX4_appendEvent_10 (by decide) h (fun h => ?_) (fun h => ?_)
  · obtain rfl := Option.some.inj h
    exact zV_v F hr hlocks hQ hP hD hS dX4_appendEvent_52
  · refine lv_aload_n hx hb dX4_appendEvent_13 rfl (lv_at hl 1 rfl) ?_
    refine z_get (C := RX4) (T := TX4) (N := 2) (ci := 3) F zu_wsX40 hP 0 rfl rfl 0 (by decide) zw_24 rfl dX4_appendEvent_14 ?_
    refine lv_iload hx hb dX4_appendEvent_17 (lv_at hl 0 rfl) ?_
    refine z_iald F hP 1 rfl dX4_appendEvent_19 h (fun x2_ h => ?_)
    refine lv_bipush (v := 24) hx hb dX4_appendEvent_20 (by decide) ?_
    refine z_cge (tgt := 52) hx hb dX4_appendEvent_22 (by decide) h (fun h => ?_) (fun h => ?_)
    · obtain rfl := Option.some.inj h
      exact zV_v F hr hlocks hQ hP hD hS dX4_appendEvent_52
    · refine lv_aload_n hx hb dX4_appendEvent_25 rfl (lv_at hl 1 rfl) ?_
      refine z_get (C := RX4) (T := TX4) (N := 2) (ci := 3) F zu_wsX40 hP 0 rfl rfl 0 (by decide) zw_24 rfl dX4_appendEvent_26 ?_
      refine lv_iload hx hb dX4_appendEvent_29 (lv_at hl 0 rfl) ?_
      refine lv_dup2_11 hx hb dX4_appendEvent_31 rfl rfl ?_
      refine z_iald F hP 1 rfl dX4_appendEvent_32 h (fun x3_ h => ?_)
      refine lv_iconst (v := 1) hx hb dX4_appendEvent_33 (by decide) ?_
      refine lv_iadd hx hb dX4_appendEvent_34 ?_
      refine z_iast F hP hD hS 1 rfl dX4_appendEvent_35 h (W1 := fun w4_ => [zo_X4 a_this a_cells v_size, (a_cells, .inl (zI g, 912, .inl w4_))]) (fun _ => rfl) (fun w4_ H locs h hP hD hS => ?_)
      refine lv_aload_n hx hb dX4_appendEvent_36 rfl (lv_at hl 1 rfl) ?_
      refine z_get (C := RX4) (T := TX4) (N := 2) (ci := 3) F zu_wsX40 hP 0 rfl rfl 0 (by decide) zw_24 rfl dX4_appendEvent_37 ?_
      refine lv_iload hx hb dX4_appendEvent_40 (lv_at hl 0 rfl) ?_
      refine lv_aload_n hx hb dX4_appendEvent_42 rfl (lv_at hl 1 rfl) ?_
      refine z_get (C := RX4) (T := TX4) (N := 2) (ci := 3) F zu_wsX40 hP 0 rfl rfl 0 (by decide) zw_24 rfl dX4_appendEvent_43 ?_
      refine lv_iload hx hb dX4_appendEvent_46 (lv_at hl 0 rfl) ?_
      refine z_iald F hP 1 rfl dX4_appendEvent_48 h (fun x5_ h => ?_)
      refine lv_iadd hx hb dX4_appendEvent_49 ?_
      refine lv_iload_n hx hb dX4_appendEvent_50 rfl (lv_at hl 4 rfl) ?_
      refine z_iast F hP hD hS 1 rfl dX4_appendEvent_51 h (W1 := fun w6_ => [zo_X4 a_this a_cells v_size, (a_cells, .inl (zI g, 912, .inl w6_))]) (fun _ => rfl) (fun w6_ H locs h hP hD hS => ?_)
      obtain rfl := Option.some.inj h
      exact zV_v F hr hlocks hQ hP hD hS dX4_appendEvent_52
def f_X4_dropEvent (N : Nat) (v_size : Int32) (v_cells : Nat → Int32) (x1 : Int32) (x2 : Int32) (x3 : Int32) : Option (Nat → Int32) :=
  Option.bind (f_X4_voiceCell N v_size x1 x2) (fun (r1_ : Int32) => if r1_ < 0 then some v_cells else if x3 < 0 then some v_cells else Option.bind (zAld v_cells 912 r1_) (fun (x2_ : Int32) => if x3 < x2_ then Option.bind (some ((r1_ + 1) + x3)) (fun (x3_ : Int32) => Option.bind (zAld v_cells 912 r1_) (fun (x4_ : Int32) => Option.bind (zCpy v_cells v_cells 912 912 (x3_ + 1) x3_ ((x4_ - x3) - 1)) (fun (w5_ : Nat → Int32) => Option.bind (zAld w5_ 912 r1_) (fun (x6_ : Int32) => Option.bind (zAst w5_ 912 r1_ (x6_ - 1)) (fun (w7_ : Nat → Int32) => some w7_))))) else some v_cells))
abbrev rm_X4_dropEvent : Room := { frames := 1, cells := 0, slots := 0, locals := 68 }
theorem zy_X4_dropEvent : zYv yX4_dropEvent RX4 cX4_dropEvent 6 none 3 := ⟨zw_575, zw_576, zw_30, zw_291, ⟨by decide, by decide⟩, by decide +kernel⟩
set_option maxHeartbeats 4000000 in
set_option maxRecDepth 100000 in
theorem k_X4_dropEvent (l : Launch) (N : Nat) (g : zEnv) (a_this a_cells : Nat) (v_size : Int32) (v_cells : Nat → Int32) (x1 : Int32) (x2 : Int32) (x3 : Int32) (r : (Nat → Int32)) (h : f_X4_dropEvent N v_size v_cells x1 x2 x3 = some r) : ZV l yX4_dropEvent cX4_dropEvent 6 none rm_X4_dropEvent g [.ref a_this, .int x1, .int x2, .int x3] [zo_X4 a_this a_cells v_size, (a_cells, .inl (zI g, 912, .inl v_cells))] [zo_X4 a_this a_cells v_size, (a_cells, .inl (zI g, 912, .inl r))] none := by
  refine zV_of (by decide) (Nat.le_of_ble_eq_true rfl) ?_
  intro p e s m below meth c A H locs ls Q R F hRm hr hlocks hP hD hS hl hQ
  subst hRm
  have F : zF p m c cX4_dropEvent 6 s (([.ref a_this, .int x1, .int x2, .int x3] : List Value)).toArray RX4 g A := F
  have hx := F.1.1
  have hb := F.1.2.1
  have hz := F.1.2.2.2.2
  have hl : lv_has ls 6 [(0, .ref a_this), (1, .int x1), (2, .int x2), (3, .int x3)] := hl
  unfold f_X4_dropEvent at h
  refine lv_aload_n hx hb dX4_dropEvent_0 rfl (lv_at hl 0 rfl) ?_
  refine lv_iload_n hx hb dX4_dropEvent_1 rfl (lv_at hl 1 rfl) ?_
  refine lv_iload_n hx hb dX4_dropEvent_2 rfl (lv_at hl 2 rfl) ?_
  obtain ⟨r1_, hr1_, h⟩ := z_bind h
  refine zRV F (k_X4_voiceCell l N g a_this a_cells v_size x1 x2 _ hr1_) zy_X4_voiceCell zw_244 hP hD hS [0] rfl rfl (q0 := 0) (he := rfl) (hc := rfl) (rest := []) rfl hl.1 rfl (Nat.le_of_ble_eq_true rfl) ⟨rfl, rfl⟩ ⟨Nat.le_of_ble_eq_true rfl, Nat.le_of_ble_eq_true rfl⟩ ⟨Nat.zero_le _, Nat.zero_le _⟩ dX4_dropEvent_3 (st1 := [.int r1_]) rfl ?_
  refine lv_istore (lv' := [(4, .int r1_), (0, .ref a_this), (1, .int x1), (2, .int x2), (3, .int x3)]) hx hb dX4_dropEvent_6 hl (by decide) rfl (fun ls hl => ?_)
  refine lv_iload hx hb dX4_dropEvent_8 (lv_at hl 0 rfl) ?_
  refine z_lt (tgt := 75) hx hb dX4_dropEvent_10 (by decide) h (fun h => ?_) (fun h => ?_)
  · obtain rfl := Option.some.inj h
    exact zV_v F hr hlocks hQ hP hD hS dX4_dropEvent_75
  · refine lv_iload_n hx hb dX4_dropEvent_13 rfl (lv_at hl 4 rfl) ?_
    refine z_lt (tgt := 75) hx hb dX4_dropEvent_14 (by decide) h (fun h => ?_) (fun h => ?_)
    · obtain rfl := Option.some.inj h
      exact zV_v F hr hlocks hQ hP hD hS dX4_dropEvent_75
    · refine lv_iload_n hx hb dX4_dropEvent_17 rfl (lv_at hl 4 rfl) ?_
      refine lv_aload_n hx hb dX4_dropEvent_18 rfl (lv_at hl 1 rfl) ?_
      refine z_get (C := RX4) (T := TX4) (N := 2) (ci := 3) F zu_wsX40 hP 0 rfl rfl 0 (by decide) zw_24 rfl dX4_dropEvent_19 ?_
      refine lv_iload hx hb dX4_dropEvent_22 (lv_at hl 0 rfl) ?_
      refine z_iald F hP 1 rfl dX4_dropEvent_24 h (fun x2_ h => ?_)
      refine z_cge (tgt := 75) hx hb dX4_dropEvent_25 (by decide) h (fun h => ?_) (fun h => ?_)
      · obtain rfl := Option.some.inj h
        exact zV_v F hr hlocks hQ hP hD hS dX4_dropEvent_75
      · refine lv_iload hx hb dX4_dropEvent_28 (lv_at hl 0 rfl) ?_
        refine lv_iconst (v := 1) hx hb dX4_dropEvent_30 (by decide) ?_
        refine lv_iadd hx hb dX4_dropEvent_31 ?_
        refine lv_iload_n hx hb dX4_dropEvent_32 rfl (lv_at hl 4 rfl) ?_
        refine lv_iadd hx hb dX4_dropEvent_33 ?_
        refine z_top Value.int h (fun x3_ h => ?_)
        refine lv_istore (lv' := [(5, .int x3_), (4, .int r1_), (0, .ref a_this), (1, .int x1), (2, .int x2), (3, .int x3)]) hx hb dX4_dropEvent_34 hl (by decide) rfl (fun ls hl => ?_)
        refine lv_aload_n hx hb dX4_dropEvent_36 rfl (lv_at hl 2 rfl) ?_
        refine z_get (C := RX4) (T := TX4) (N := 2) (ci := 3) F zu_wsX40 hP 0 rfl rfl 0 (by decide) zw_24 rfl dX4_dropEvent_37 ?_
        refine lv_iload hx hb dX4_dropEvent_40 (lv_at hl 0 rfl) ?_
        refine lv_iconst (v := 1) hx hb dX4_dropEvent_42 (by decide) ?_
        refine lv_iadd hx hb dX4_dropEvent_43 ?_
        refine lv_aload_n hx hb dX4_dropEvent_44 rfl (lv_at hl 2 rfl) ?_
        refine z_get (C := RX4) (T := TX4) (N := 2) (ci := 3) F zu_wsX40 hP 0 rfl rfl 0 (by decide) zw_24 rfl dX4_dropEvent_45 ?_
        refine lv_iload hx hb dX4_dropEvent_48 (lv_at hl 0 rfl) ?_
        refine lv_aload_n hx hb dX4_dropEvent_50 rfl (lv_at hl 2 rfl) ?_
        refine z_get (C := RX4) (T := TX4) (N := 2) (ci := 3) F zu_wsX40 hP 0 rfl rfl 0 (by decide) zw_24 rfl dX4_dropEvent_51 ?_
        refine lv_iload hx hb dX4_dropEvent_54 (lv_at hl 1 rfl) ?_
        refine z_iald F hP 1 rfl dX4_dropEvent_56 h (fun x4_ h => ?_)
        refine lv_iload_n hx hb dX4_dropEvent_57 rfl (lv_at hl 5 rfl) ?_
        refine lv_isub hx hb dX4_dropEvent_58 ?_
        refine lv_iconst (v := 1) hx hb dX4_dropEvent_59 (by decide) ?_
        refine lv_isub hx hb dX4_dropEvent_60 ?_
        refine z_copy F hP hD hS hl.1 1 1 rfl rfl zw_37 zw_38 zw_39 zw_40 (Nat.le_of_ble_eq_true rfl) (Nat.le_of_ble_eq_true rfl) dX4_dropEvent_61 h (W1 := fun w5_ => [zo_X4 a_this a_cells v_size, (a_cells, .inl (zI g, 912, .inl w5_))]) (fun _ => rfl) (fun w5_ H locs h hP hD hS => ?_)
        refine lv_aload_n hx hb dX4_dropEvent_64 rfl (lv_at hl 2 rfl) ?_
        refine z_get (C := RX4) (T := TX4) (N := 2) (ci := 3) F zu_wsX40 hP 0 rfl rfl 0 (by decide) zw_24 rfl dX4_dropEvent_65 ?_
        refine lv_iload hx hb dX4_dropEvent_68 (lv_at hl 1 rfl) ?_
        refine lv_dup2_11 hx hb dX4_dropEvent_70 rfl rfl ?_
        refine z_iald F hP 1 rfl dX4_dropEvent_71 h (fun x6_ h => ?_)
        refine lv_iconst (v := 1) hx hb dX4_dropEvent_72 (by decide) ?_
        refine lv_isub hx hb dX4_dropEvent_73 ?_
        refine z_iast F hP hD hS 1 rfl dX4_dropEvent_74 h (W1 := fun w7_ => [zo_X4 a_this a_cells v_size, (a_cells, .inl (zI g, 912, .inl w7_))]) (fun _ => rfl) (fun w7_ H locs h hP hD hS => ?_)
        obtain rfl := Option.some.inj h
        exact zV_v F hr hlocks hQ hP hD hS dX4_dropEvent_75
def f_X4_copyFrom (N : Nat) (v_size : Int32) (v_cells : Nat → Int32) (v_p1_size : Int32) (v_p1_cells : Nat → Int32) : Option (Int32 × (Nat → Int32)) :=
  Option.bind (zCpy v_p1_cells v_cells 912 912 0 0 (v_p1_size * 57)) (fun (w1_ : Nat → Int32) => some (v_p1_size, w1_))
abbrev rm_X4_copyFrom : Room := { frames := 1, cells := 0, slots := 0, locals := 68 }
theorem zy_X4_copyFrom : zYv yX4_copyFrom RX4 cX4_copyFrom 2 none 1 := ⟨zw_52, zw_53, zw_30, zw_41, ⟨by decide, by decide⟩, by decide +kernel⟩
set_option maxHeartbeats 4000000 in
set_option maxRecDepth 100000 in
theorem k_X4_copyFrom (l : Launch) (N : Nat) (g : zEnv) (a_this a_cells a_p1 a_p1_cells : Nat) (v_size : Int32) (v_cells : Nat → Int32) (v_p1_size : Int32) (v_p1_cells : Nat → Int32) (r : Int32 × (Nat → Int32)) (h : f_X4_copyFrom N v_size v_cells v_p1_size v_p1_cells = some r) : ZV l yX4_copyFrom cX4_copyFrom 2 none rm_X4_copyFrom g [.ref a_this, .ref a_p1] [zo_X4 a_this a_cells v_size, (a_cells, .inl (zI g, 912, .inl v_cells)), zo_X4 a_p1 a_p1_cells v_p1_size, (a_p1_cells, .inl (zI g, 912, .inl v_p1_cells))] [zo_X4 a_this a_cells r.1, (a_cells, .inl (zI g, 912, .inl r.2)), zo_X4 a_p1 a_p1_cells v_p1_size, (a_p1_cells, .inl (zI g, 912, .inl v_p1_cells))] none := by
  refine zV_of (by decide) (Nat.le_of_ble_eq_true rfl) ?_
  intro p e s m below meth c A H locs ls Q R F hRm hr hlocks hP hD hS hl hQ
  subst hRm
  have F : zF p m c cX4_copyFrom 2 s (([.ref a_this, .ref a_p1] : List Value)).toArray RX4 g A := F
  have hx := F.1.1
  have hb := F.1.2.1
  have hz := F.1.2.2.2.2
  have hl : lv_has ls 2 [(0, .ref a_this), (1, .ref a_p1)] := hl
  unfold f_X4_copyFrom at h
  refine lv_aload_n hx hb dX4_copyFrom_0 rfl (lv_at hl 1 rfl) ?_
  refine z_get (C := RX4) (T := TX4) (N := 2) (ci := 3) F zu_wsX40 hP 2 rfl rfl 0 (by decide) zw_24 rfl dX4_copyFrom_1 ?_
  refine lv_iconst (v := 0) hx hb dX4_copyFrom_4 (by decide) ?_
  refine lv_aload_n hx hb dX4_copyFrom_5 rfl (lv_at hl 0 rfl) ?_
  refine z_get (C := RX4) (T := TX4) (N := 2) (ci := 3) F zu_wsX40 hP 0 rfl rfl 0 (by decide) zw_24 rfl dX4_copyFrom_6 ?_
  refine lv_iconst (v := 0) hx hb dX4_copyFrom_9 (by decide) ?_
  refine lv_aload_n hx hb dX4_copyFrom_10 rfl (lv_at hl 1 rfl) ?_
  refine z_get (C := RX4) (T := TX4) (N := 2) (ci := 3) F zu_wsX40 hP 2 rfl rfl 1 (by decide) zw_36 rfl dX4_copyFrom_11 ?_
  refine lv_bipush (v := 57) hx hb dX4_copyFrom_14 (by decide) ?_
  refine lv_imul hx hb dX4_copyFrom_16 ?_
  refine z_copy F hP hD hS hl.1 3 1 rfl rfl zw_37 zw_38 zw_39 zw_40 (Nat.le_of_ble_eq_true rfl) (Nat.le_of_ble_eq_true rfl) dX4_copyFrom_17 h (W1 := fun w1_ => [zo_X4 a_this a_cells v_size, (a_cells, .inl (zI g, 912, .inl w1_)), zo_X4 a_p1 a_p1_cells v_p1_size, (a_p1_cells, .inl (zI g, 912, .inl v_p1_cells))]) (fun _ => rfl) (fun w1_ H locs h hP hD hS => ?_)
  refine lv_aload_n hx hb dX4_copyFrom_20 rfl (lv_at hl 0 rfl) ?_
  refine lv_aload_n hx hb dX4_copyFrom_21 rfl (lv_at hl 1 rfl) ?_
  refine z_get (C := RX4) (T := TX4) (N := 2) (ci := 3) F zu_wsX40 hP 2 rfl rfl 1 (by decide) zw_36 rfl dX4_copyFrom_22 ?_
  refine z_put (C := RX4) (T := TX4) (N := 2) (ci := 3) (W1 := [zo_X4 a_this a_cells v_p1_size, (a_cells, .inl (zI g, 912, .inl w1_)), zo_X4 a_p1 a_p1_cells v_p1_size, (a_p1_cells, .inl (zI g, 912, .inl v_p1_cells))]) F zu_wsX40 tyX4 tyX4_ok nmX4 hP hD hS 0 rfl rfl 1 (by decide) zw_36 rfl rfl rfl (Nat.le_of_ble_eq_true rfl) dX4_copyFrom_25 rfl (fun H locs hP hD hS => ?_)
  obtain rfl := Option.some.inj h
  exact zV_v F hr hlocks hQ hP hD hS dX4_copyFrom_28
def f_X4_ticks (N : Nat) (v_size : Int32) (v_cells : Nat → Int32) (x1 : Int32) : Option Int32 :=
  Option.bind (f_X4_value N v_size v_cells x1 2) (fun (r1_ : Int32) => if r1_ = 0 then some 0 else Option.bind (f_X4_value N v_size v_cells x1 1) (fun (r2_ : Int32) => Option.bind (zDiv (64 * r2_) r1_) (fun (x3_ : Int32) => some x3_)))
abbrev rm_X4_ticks : Room := { frames := 2, cells := 0, slots := 0, locals := 43 }
theorem zy_X4_ticks : zYv yX4_ticks RX4 cX4_ticks 3 (some .int) 1 := ⟨zw_85, zw_86, zw_30, zw_80, ⟨by decide, by decide⟩, by decide +kernel⟩
set_option maxHeartbeats 4000000 in
set_option maxRecDepth 100000 in
theorem k_X4_ticks (l : Launch) (N : Nat) (g : zEnv) (a_this a_cells : Nat) (v_size : Int32) (v_cells : Nat → Int32) (x1 : Int32) (r : Int32) (h : f_X4_ticks N v_size v_cells x1 = some r) : ZR l yX4_ticks cX4_ticks 3 (some .int) rm_X4_ticks g [.ref a_this, .int x1] [zo_X4 a_this a_cells v_size, (a_cells, .inl (zI g, 912, .inl v_cells))] (some (.int r)) := by
  refine zR_of (by decide) (Nat.le_of_ble_eq_true rfl) ?_
  intro p e s m below meth c A ls Q R F hRm hr hlocks hP hD hS hl hQ
  subst hRm
  have F : zF p m c cX4_ticks 3 s (([.ref a_this, .int x1] : List Value)).toArray RX4 g A := F
  have hx := F.1.1
  have hb := F.1.2.1
  have hz := F.1.2.2.2.2
  have hl : lv_has ls 3 [(0, .ref a_this), (1, .int x1)] := hl
  unfold f_X4_ticks at h
  refine lv_aload_n hx hb dX4_ticks_0 rfl (lv_at hl 0 rfl) ?_
  refine lv_iload_n hx hb dX4_ticks_1 rfl (lv_at hl 1 rfl) ?_
  refine lv_iconst (v := 2) hx hb dX4_ticks_2 (by decide) ?_
  obtain ⟨r1_, hr1_, h⟩ := z_bind h
  refine zRV F (k_X4_value l N g a_this a_cells v_size v_cells x1 2 _ hr1_) zy_X4_value zw_79 hP hD hS [0, 1] rfl rfl (q0 := 0) (he := rfl) (hc := rfl) (rest := []) rfl hl.1 rfl (Nat.le_of_ble_eq_true rfl) ⟨rfl, rfl⟩ ⟨Nat.le_of_ble_eq_true rfl, Nat.le_of_ble_eq_true rfl⟩ ⟨Nat.zero_le _, Nat.zero_le _⟩ dX4_ticks_3 (st1 := [.int r1_]) rfl ?_
  refine lv_istore_n (lv' := [(2, .int r1_), (0, .ref a_this), (1, .int x1)]) hx hb dX4_ticks_6 rfl hl (by decide) rfl (fun ls hl => ?_)
  refine lv_iload_n hx hb dX4_ticks_7 rfl (lv_at hl 0 rfl) ?_
  refine z_ne (tgt := 15) hx hb dX4_ticks_8 (by decide) h (fun h => ?_) (fun h => ?_)
  · refine lv_bipush (v := 64) hx hb dX4_ticks_15 (by decide) ?_
    refine lv_aload_n hx hb dX4_ticks_17 rfl (lv_at hl 1 rfl) ?_
    refine lv_iload_n hx hb dX4_ticks_18 rfl (lv_at hl 2 rfl) ?_
    refine lv_iconst (v := 1) hx hb dX4_ticks_19 (by decide) ?_
    obtain ⟨r2_, hr2_, h⟩ := z_bind h
    refine zRV F (k_X4_value l N g a_this a_cells v_size v_cells x1 1 _ hr2_) zy_X4_value zw_79 hP hD hS [0, 1] rfl rfl (q0 := 0) (he := rfl) (hc := rfl) (rest := [.int 64]) rfl hl.1 rfl (Nat.le_of_ble_eq_true rfl) ⟨rfl, rfl⟩ ⟨Nat.le_of_ble_eq_true rfl, Nat.le_of_ble_eq_true rfl⟩ ⟨Nat.zero_le _, Nat.zero_le _⟩ dX4_ticks_20 (st1 := [.int r2_, .int 64]) rfl ?_
    refine lv_imul hx hb dX4_ticks_23 ?_
    refine lv_iload_n hx hb dX4_ticks_24 rfl (lv_at hl 0 rfl) ?_
    refine z_div hx hb dX4_ticks_25 h (fun x3_ h => ?_)
    obtain rfl := Option.some.inj h
    exact zR_i F hr hlocks hQ dX4_ticks_26
  · refine lv_iconst (v := 0) hx hb dX4_ticks_11 (by decide) ?_
    refine lv_goto (tgt := 26) hx hb dX4_ticks_12 (by decide) ?_
    obtain rfl := Option.some.inj h
    exact zR_i F hr hlocks hQ dX4_ticks_26
def f_X4_begin_B6 (N : Nat) (x3 : Int32) (v_size : Int32) (v_cells : Nat → Int32) (x1 : Int32) (x2 : Int32) (kh6_ : Int32 × Int32 → Option Int32) (v6_ : Int32 × Int32) : Option Int32 :=
  if v6_.2 < x3 then Option.bind (f_X4_code N v_size v_cells x1 x2 v6_.2) (fun (r2_ : Int32) => Option.bind (f_X0_ticksOf N r2_) (fun (r3_ : Int32) => Option.bind (some (v6_.1 + r3_)) (fun (x4_ : Int32) => Option.bind (some (v6_.2 + 1)) (fun (x5_ : Int32) => kh6_ (x4_, x5_))))) else some v6_.1
def f_X4_begin (N : Nat) (v_size : Int32) (v_cells : Nat → Int32) (x1 : Int32) (x2 : Int32) (x3 : Int32) : Option Int32 :=
  Option.bind (zLoop (f_X4_begin_B6 N x3 v_size v_cells x1 x2) N (0, 0)) (fun (r1_ : Int32) => some r1_)
abbrev rm_X4_begin : Room := { frames := 2, cells := 0, slots := 0, locals := 47 }
theorem zy_X4_begin : zYv yX4_begin RX4 cX4_begin 6 (some .int) 3 := ⟨zw_299, zw_300, zw_30, zw_297, ⟨by decide, by decide⟩, by decide +kernel⟩
set_option maxHeartbeats 4000000 in
set_option maxRecDepth 100000 in
theorem k_X4_begin (l : Launch) (N : Nat) (g : zEnv) (a_this a_cells : Nat) (v_size : Int32) (v_cells : Nat → Int32) (x1 : Int32) (x2 : Int32) (x3 : Int32) (r : Int32) (h : f_X4_begin N v_size v_cells x1 x2 x3 = some r) : ZR l yX4_begin cX4_begin 6 (some .int) rm_X4_begin g [.ref a_this, .int x1, .int x2, .int x3] [zo_X4 a_this a_cells v_size, (a_cells, .inl (zI g, 912, .inl v_cells))] (some (.int r)) := by
  refine zR_of (by decide) (Nat.le_of_ble_eq_true rfl) ?_
  intro p e s m below meth c A ls Q R F hRm hr hlocks hP hD hS hl hQ
  subst hRm
  have F : zF p m c cX4_begin 6 s (([.ref a_this, .int x1, .int x2, .int x3] : List Value)).toArray RX4 g A := F
  have hx := F.1.1
  have hb := F.1.2.1
  have hz := F.1.2.2.2.2
  have hl : lv_has ls 6 [(0, .ref a_this), (1, .int x1), (2, .int x2), (3, .int x3)] := hl
  unfold f_X4_begin at h
  refine lv_iconst (v := 0) hx hb dX4_begin_0 (by decide) ?_
  refine lv_istore (lv' := [(4, .int 0), (0, .ref a_this), (1, .int x1), (2, .int x2), (3, .int x3)]) hx hb dX4_begin_1 hl (by decide) rfl (fun ls hl => ?_)
  refine lv_iconst (v := 0) hx hb dX4_begin_3 (by decide) ?_
  refine lv_istore (lv' := [(5, .int 0), (4, .int 0), (0, .ref a_this), (1, .int x1), (2, .int x2), (3, .int x3)]) hx hb dX4_begin_4 hl (by decide) rfl (fun ls hl => ?_)
  obtain ⟨r1_, hA6_, h⟩ := z_bind h
  have k34_ : ∀ (ls : Array Slot), lv_has ls 6 [(4, .int r1_)] → W p l e rm_X4_begin s m (([.ref a_this, .int x1, .int x2, .int x3] : List Value)).toArray below meth c s.heap [] 0 0 Q (F0 m 34 ls []) := by
    intro ls hl
    refine lv_iload hx hb dX4_begin_34 (lv_at hl 0 rfl) ?_
    obtain rfl := Option.some.inj h
    exact zR_i F hr hlocks hQ dX4_begin_36
  have h := hA6_
  have l6_ : ∀ (n6_ : Nat) (v6_ : Int32 × Int32), zLoop (f_X4_begin_B6 N x3 v_size v_cells x1 x2) n6_ v6_ = some r1_ → ∀ (ls : Array Slot), lv_has ls 6 [(0, .ref a_this), (1, .int x1), (2, .int x2), (3, .int x3), (4, .int v6_.1), (5, .int v6_.2)] → W p l e rm_X4_begin s m (([.ref a_this, .int x1, .int x2, .int x3] : List Value)).toArray below meth c s.heap [] 0 0 Q (F0 m 6 ls []) := by
    intro n6_
    induction n6_ with
    | zero => intro v6_ h; cases h
    | succ n6_ ih6_ =>
      intro v6_ h ls hl
      have h : f_X4_begin_B6 N x3 v_size v_cells x1 x2 (zLoop (f_X4_begin_B6 N x3 v_size v_cells x1 x2) n6_) v6_ = some r1_ := h
      unfold f_X4_begin_B6 at h
      refine lv_iload hx hb dX4_begin_6 (lv_at hl 5 rfl) ?_
      refine lv_iload_n hx hb dX4_begin_8 rfl (lv_at hl 3 rfl) ?_
      refine z_cge (tgt := 34) hx hb dX4_begin_9 (by decide) h (fun h => ?_) (fun h => ?_)
      · obtain rfl := Option.some.inj h
        exact k34_ _ (lv_sub hl [4] rfl)
      · refine lv_iload hx hb dX4_begin_12 (lv_at hl 4 rfl) ?_
        refine lv_aload_n hx hb dX4_begin_14 rfl (lv_at hl 0 rfl) ?_
        refine lv_iload_n hx hb dX4_begin_15 rfl (lv_at hl 1 rfl) ?_
        refine lv_iload_n hx hb dX4_begin_16 rfl (lv_at hl 2 rfl) ?_
        refine lv_iload hx hb dX4_begin_17 (lv_at hl 5 rfl) ?_
        obtain ⟨r2_, hr2_, h⟩ := z_bind h
        refine zRV F (k_X4_code l N g a_this a_cells v_size v_cells x1 x2 v6_.2 _ hr2_) zy_X4_code zw_292 hP hD hS [0, 1] rfl rfl (q0 := 0) (he := rfl) (hc := rfl) (rest := [.int v6_.1]) rfl hl.1 rfl (Nat.le_of_ble_eq_true rfl) ⟨rfl, rfl⟩ ⟨Nat.le_of_ble_eq_true rfl, Nat.le_of_ble_eq_true rfl⟩ ⟨Nat.zero_le _, Nat.zero_le _⟩ dX4_begin_19 (st1 := [.int r2_, .int v6_.1]) rfl ?_
        obtain ⟨r3_, hr3_, h⟩ := z_bind h
        refine zRS F (k_X0_ticksOf l N g r2_ _ hr3_) zy_X0_ticksOf zw_295 hP hD hS [] rfl rfl (rest := [.int v6_.1]) rfl hl.1 rfl (Nat.le_of_ble_eq_true rfl) ⟨rfl, rfl⟩ ⟨Nat.le_of_ble_eq_true rfl, Nat.le_of_ble_eq_true rfl⟩ ⟨Nat.zero_le _, Nat.zero_le _⟩ dX4_begin_22 (st1 := [.int r3_, .int v6_.1]) rfl ?_
        refine lv_iadd hx hb dX4_begin_25 ?_
        refine z_top Value.int h (fun x4_ h => ?_)
        refine lv_istore (lv' := [(4, .int x4_), (0, .ref a_this), (1, .int x1), (2, .int x2), (3, .int x3), (5, .int v6_.2)]) hx hb dX4_begin_26 hl (by decide) rfl (fun ls hl => ?_)
        refine z_nm h (fun x5_ ex5_ h => ?_)
        refine lv_iinc (v := x5_) (lv' := [(5, .int x5_), (4, .int x4_), (0, .ref a_this), (1, .int x1), (2, .int x2), (3, .int x3)]) hx hb dX4_begin_28 hl (k := 5) rfl (by rw [ex5_]; rfl) (by decide) rfl (fun ls hl => ?_)
        refine lv_goto (tgt := 6) hx hb dX4_begin_31 (by decide) ?_
        exact ih6_ _ h _ (lv_sub hl [2, 3, 4, 5, 1, 0] rfl)
  exact l6_ N _ h _ (lv_sub hl [2, 3, 4, 5, 1, 0] rfl)
def f_X4_voiceTicks (N : Nat) (v_size : Int32) (v_cells : Nat → Int32) (x1 : Int32) (x2 : Int32) : Option Int32 :=
  Option.bind (f_X4_count N v_size v_cells x1 x2) (fun (r1_ : Int32) => Option.bind (f_X4_begin N v_size v_cells x1 x2 r1_) (fun (r2_ : Int32) => some r2_))
abbrev rm_X4_voiceTicks : Room := { frames := 3, cells := 0, slots := 0, locals := 72 }
theorem zy_X4_voiceTicks : zYv yX4_voiceTicks RX4 cX4_voiceTicks 3 (some .int) 2 := ⟨zw_303, zw_304, zw_30, zw_301, ⟨by decide, by decide⟩, by decide +kernel⟩
set_option maxHeartbeats 4000000 in
set_option maxRecDepth 100000 in
theorem k_X4_voiceTicks (l : Launch) (N : Nat) (g : zEnv) (a_this a_cells : Nat) (v_size : Int32) (v_cells : Nat → Int32) (x1 : Int32) (x2 : Int32) (r : Int32) (h : f_X4_voiceTicks N v_size v_cells x1 x2 = some r) : ZR l yX4_voiceTicks cX4_voiceTicks 3 (some .int) rm_X4_voiceTicks g [.ref a_this, .int x1, .int x2] [zo_X4 a_this a_cells v_size, (a_cells, .inl (zI g, 912, .inl v_cells))] (some (.int r)) := by
  refine zR_of (by decide) (Nat.le_of_ble_eq_true rfl) ?_
  intro p e s m below meth c A ls Q R F hRm hr hlocks hP hD hS hl hQ
  subst hRm
  have F : zF p m c cX4_voiceTicks 3 s (([.ref a_this, .int x1, .int x2] : List Value)).toArray RX4 g A := F
  have hx := F.1.1
  have hb := F.1.2.1
  have hz := F.1.2.2.2.2
  have hl : lv_has ls 3 [(0, .ref a_this), (1, .int x1), (2, .int x2)] := hl
  unfold f_X4_voiceTicks at h
  refine lv_aload_n hx hb dX4_voiceTicks_0 rfl (lv_at hl 0 rfl) ?_
  refine lv_iload_n hx hb dX4_voiceTicks_1 rfl (lv_at hl 1 rfl) ?_
  refine lv_iload_n hx hb dX4_voiceTicks_2 rfl (lv_at hl 2 rfl) ?_
  refine lv_aload_n hx hb dX4_voiceTicks_3 rfl (lv_at hl 0 rfl) ?_
  refine lv_iload_n hx hb dX4_voiceTicks_4 rfl (lv_at hl 1 rfl) ?_
  refine lv_iload_n hx hb dX4_voiceTicks_5 rfl (lv_at hl 2 rfl) ?_
  obtain ⟨r1_, hr1_, h⟩ := z_bind h
  refine zRV F (k_X4_count l N g a_this a_cells v_size v_cells x1 x2 _ hr1_) zy_X4_count zw_285 hP hD hS [0, 1] rfl rfl (q0 := 0) (he := rfl) (hc := rfl) (rest := [.int x2, .int x1, .ref a_this]) rfl hl.1 rfl (Nat.le_of_ble_eq_true rfl) ⟨rfl, rfl⟩ ⟨Nat.le_of_ble_eq_true rfl, Nat.le_of_ble_eq_true rfl⟩ ⟨Nat.zero_le _, Nat.zero_le _⟩ dX4_voiceTicks_6 (st1 := [.int r1_, .int x2, .int x1, .ref a_this]) rfl ?_
  obtain ⟨r2_, hr2_, h⟩ := z_bind h
  refine zRV F (k_X4_begin l N g a_this a_cells v_size v_cells x1 x2 r1_ _ hr2_) zy_X4_begin zw_298 hP hD hS [0, 1] rfl rfl (q0 := 0) (he := rfl) (hc := rfl) (rest := []) rfl hl.1 rfl (Nat.le_of_ble_eq_true rfl) ⟨rfl, rfl⟩ ⟨Nat.le_of_ble_eq_true rfl, Nat.le_of_ble_eq_true rfl⟩ ⟨Nat.zero_le _, Nat.zero_le _⟩ dX4_voiceTicks_9 (st1 := [.int r2_]) rfl ?_
  obtain rfl := Option.some.inj h
  exact zR_i F hr hlocks hQ dX4_voiceTicks_12
def f_X4_unevenVoices_B14 (N : Nat) (v_size : Int32) (v_cells : Nat → Int32) (v4_ : Int32 × Int32) (kh14_ : Int32 × Int32 → Option Int32) (v14_ : Int32 × Int32) : Option Int32 :=
  if v14_.2 < 2 then Option.bind (f_X4_count N v_size v_cells v4_.2 v14_.2) (fun (r4_ : Int32) => Option.bind (if 0 < r4_ then Option.bind (f_X4_voiceTicks N v_size v_cells v4_.2 v14_.2) (fun (r9_ : Int32) => Option.bind (f_X4_ticks N v_size v_cells v4_.2) (fun (r10_ : Int32) => if r9_ = r10_ then some 0 else some 1)) else some 0) (fun (r5_ : Int32) => Option.bind (if r5_ = 0 then some 0 else some 1) (fun (r6_ : Int32) => Option.bind (some (v14_.1 + r6_)) (fun (x7_ : Int32) => Option.bind (some (v14_.2 + 1)) (fun (x8_ : Int32) => kh14_ (x7_, x8_)))))) else some v14_.1
def f_X4_unevenVoices_B4 (N : Nat) (v_size : Int32) (v_cells : Nat → Int32) (kh4_ : Int32 × Int32 → Option Int32) (v4_ : Int32 × Int32) : Option Int32 :=
  if v4_.2 < v_size then Option.bind (zLoop (f_X4_unevenVoices_B14 N v_size v_cells v4_) N (v4_.1, 0)) (fun (r2_ : Int32) => Option.bind (some (v4_.2 + 1)) (fun (x3_ : Int32) => kh4_ (r2_, x3_))) else some v4_.1
def f_X4_unevenVoices (N : Nat) (v_size : Int32) (v_cells : Nat → Int32) : Option Int32 :=
  Option.bind (zLoop (f_X4_unevenVoices_B4 N v_size v_cells) N (0, 0)) (fun (r1_ : Int32) => some r1_)
abbrev rm_X4_unevenVoices : Room := { frames := 4, cells := 0, slots := 0, locals := 94 }
theorem zy_X4_unevenVoices : zYv yX4_unevenVoices RX4 cX4_unevenVoices 5 (some .int) 0 := ⟨zw_614, zw_615, zw_30, zw_306, ⟨by decide, by decide⟩, by decide +kernel⟩
set_option maxHeartbeats 4000000 in
set_option maxRecDepth 100000 in
theorem k_X4_unevenVoices (l : Launch) (N : Nat) (g : zEnv) (a_this a_cells : Nat) (v_size : Int32) (v_cells : Nat → Int32) (r : Int32) (h : f_X4_unevenVoices N v_size v_cells = some r) : ZR l yX4_unevenVoices cX4_unevenVoices 5 (some .int) rm_X4_unevenVoices g [.ref a_this] [zo_X4 a_this a_cells v_size, (a_cells, .inl (zI g, 912, .inl v_cells))] (some (.int r)) := by
  refine zR_of (by decide) (Nat.le_of_ble_eq_true rfl) ?_
  intro p e s m below meth c A ls Q R F hRm hr hlocks hP hD hS hl hQ
  subst hRm
  have F : zF p m c cX4_unevenVoices 5 s (([.ref a_this] : List Value)).toArray RX4 g A := F
  have hx := F.1.1
  have hb := F.1.2.1
  have hz := F.1.2.2.2.2
  have hl : lv_has ls 5 [(0, .ref a_this)] := hl
  unfold f_X4_unevenVoices at h
  refine lv_iconst (v := 0) hx hb dX4_unevenVoices_0 (by decide) ?_
  refine lv_istore_n (lv' := [(1, .int 0), (0, .ref a_this)]) hx hb dX4_unevenVoices_1 rfl hl (by decide) rfl (fun ls hl => ?_)
  refine lv_iconst (v := 0) hx hb dX4_unevenVoices_2 (by decide) ?_
  refine lv_istore_n (lv' := [(2, .int 0), (1, .int 0), (0, .ref a_this)]) hx hb dX4_unevenVoices_3 rfl hl (by decide) rfl (fun ls hl => ?_)
  obtain ⟨r1_, hA4_, h⟩ := z_bind h
  have k74_ : ∀ (ls : Array Slot), lv_has ls 5 [(1, .int r1_)] → W p l e rm_X4_unevenVoices s m (([.ref a_this] : List Value)).toArray below meth c s.heap [] 0 0 Q (F0 m 74 ls []) := by
    intro ls hl
    refine lv_iload_n hx hb dX4_unevenVoices_74 rfl (lv_at hl 0 rfl) ?_
    obtain rfl := Option.some.inj h
    exact zR_i F hr hlocks hQ dX4_unevenVoices_75
  have h := hA4_
  have l4_ : ∀ (n4_ : Nat) (v4_ : Int32 × Int32), zLoop (f_X4_unevenVoices_B4 N v_size v_cells) n4_ v4_ = some r1_ → ∀ (ls : Array Slot), lv_has ls 5 [(0, .ref a_this), (1, .int v4_.1), (2, .int v4_.2)] → W p l e rm_X4_unevenVoices s m (([.ref a_this] : List Value)).toArray below meth c s.heap [] 0 0 Q (F0 m 4 ls []) := by
    intro n4_
    induction n4_ with
    | zero => intro v4_ h; cases h
    | succ n4_ ih4_ =>
      intro v4_ h ls hl
      have h : f_X4_unevenVoices_B4 N v_size v_cells (zLoop (f_X4_unevenVoices_B4 N v_size v_cells) n4_) v4_ = some r1_ := h
      unfold f_X4_unevenVoices_B4 at h
      refine lv_iload_n hx hb dX4_unevenVoices_4 rfl (lv_at hl 2 rfl) ?_
      refine lv_aload_n hx hb dX4_unevenVoices_5 rfl (lv_at hl 0 rfl) ?_
      refine z_get (C := RX4) (T := TX4) (N := 2) (ci := 3) F zu_wsX40 hP 0 rfl rfl 1 (by decide) zw_36 rfl dX4_unevenVoices_6 ?_
      refine z_cge (tgt := 74) hx hb dX4_unevenVoices_9 (by decide) h (fun h => ?_) (fun h => ?_)
      · obtain rfl := Option.some.inj h
        exact k74_ _ (lv_sub hl [1] rfl)
      · refine lv_iconst (v := 0) hx hb dX4_unevenVoices_12 (by decide) ?_
        refine lv_istore_n (lv' := [(3, .int 0), (0, .ref a_this), (1, .int v4_.1), (2, .int v4_.2)]) hx hb dX4_unevenVoices_13 rfl hl (by decide) rfl (fun ls hl => ?_)
        obtain ⟨r2_, hA14_, h⟩ := z_bind h
        have k68_ : ∀ (ls : Array Slot), lv_has ls 5 [(0, .ref a_this), (1, .int r2_), (2, .int v4_.2)] → W p l e rm_X4_unevenVoices s m (([.ref a_this] : List Value)).toArray below meth c s.heap [] 0 0 Q (F0 m 68 ls []) := by
          intro ls hl
          refine z_nm h (fun x3_ ex3_ h => ?_)
          refine lv_iinc (v := x3_) (lv' := [(2, .int x3_), (0, .ref a_this), (1, .int r2_)]) hx hb dX4_unevenVoices_68 hl (k := 2) rfl (by rw [ex3_]; rfl) (by decide) rfl (fun ls hl => ?_)
          refine lv_goto (tgt := 4) hx hb dX4_unevenVoices_71 (by decide) ?_
          exact ih4_ _ h _ (lv_sub hl [1, 2, 0] rfl)
        have h := hA14_
        have l14_ : ∀ (n14_ : Nat) (v14_ : Int32 × Int32), zLoop (f_X4_unevenVoices_B14 N v_size v_cells v4_) n14_ v14_ = some r2_ → ∀ (ls : Array Slot), lv_has ls 5 [(0, .ref a_this), (1, .int v14_.1), (2, .int v4_.2), (3, .int v14_.2)] → W p l e rm_X4_unevenVoices s m (([.ref a_this] : List Value)).toArray below meth c s.heap [] 0 0 Q (F0 m 14 ls []) := by
          intro n14_
          induction n14_ with
          | zero => intro v14_ h; cases h
          | succ n14_ ih14_ =>
            intro v14_ h ls hl
            have h : f_X4_unevenVoices_B14 N v_size v_cells v4_ (zLoop (f_X4_unevenVoices_B14 N v_size v_cells v4_) n14_) v14_ = some r2_ := h
            unfold f_X4_unevenVoices_B14 at h
            refine lv_iload_n hx hb dX4_unevenVoices_14 rfl (lv_at hl 3 rfl) ?_
            refine lv_iconst (v := 2) hx hb dX4_unevenVoices_15 (by decide) ?_
            refine z_cge (tgt := 68) hx hb dX4_unevenVoices_16 (by decide) h (fun h => ?_) (fun h => ?_)
            · obtain rfl := Option.some.inj h
              exact k68_ _ (lv_sub hl [0, 1, 2] rfl)
            · refine lv_aload_n hx hb dX4_unevenVoices_19 rfl (lv_at hl 0 rfl) ?_
              refine lv_iload_n hx hb dX4_unevenVoices_20 rfl (lv_at hl 2 rfl) ?_
              refine lv_iload_n hx hb dX4_unevenVoices_21 rfl (lv_at hl 3 rfl) ?_
              obtain ⟨r4_, hr4_, h⟩ := z_bind h
              refine zRV F (k_X4_count l N g a_this a_cells v_size v_cells v4_.2 v14_.2 _ hr4_) zy_X4_count zw_285 hP hD hS [0, 1] rfl rfl (q0 := 0) (he := rfl) (hc := rfl) (rest := []) rfl hl.1 rfl (Nat.le_of_ble_eq_true rfl) ⟨rfl, rfl⟩ ⟨Nat.le_of_ble_eq_true rfl, Nat.le_of_ble_eq_true rfl⟩ ⟨Nat.zero_le _, Nat.zero_le _⟩ dX4_unevenVoices_22 (st1 := [.int r4_]) rfl ?_
              obtain ⟨r5_, hA47_, h⟩ := z_bind h
              have k47_ : ∀ (ls : Array Slot), lv_has ls 5 [(0, .ref a_this), (1, .int v14_.1), (2, .int v4_.2), (3, .int v14_.2)] → W p l e rm_X4_unevenVoices s m (([.ref a_this] : List Value)).toArray below meth c s.heap [] 0 0 Q (F0 m 47 ls [.int r5_]) := by
                intro ls hl
                refine lv_istore (lv' := [(4, .int r5_), (0, .ref a_this), (1, .int v14_.1), (2, .int v4_.2), (3, .int v14_.2)]) hx hb dX4_unevenVoices_47 hl (by decide) rfl (fun ls hl => ?_)
                refine lv_iload_n hx hb dX4_unevenVoices_49 rfl (lv_at hl 2 rfl) ?_
                refine lv_iload hx hb dX4_unevenVoices_50 (lv_at hl 0 rfl) ?_
                obtain ⟨r6_, hA60_, h⟩ := z_bind h
                have k60_ : ∀ (ls : Array Slot), lv_has ls 5 [(0, .ref a_this), (2, .int v4_.2), (3, .int v14_.2)] → W p l e rm_X4_unevenVoices s m (([.ref a_this] : List Value)).toArray below meth c s.heap [] 0 0 Q (F0 m 60 ls [.int r6_, .int v14_.1]) := by
                  intro ls hl
                  refine lv_iadd hx hb dX4_unevenVoices_60 ?_
                  refine z_top Value.int h (fun x7_ h => ?_)
                  refine lv_istore_n (lv' := [(1, .int x7_), (0, .ref a_this), (2, .int v4_.2), (3, .int v14_.2)]) hx hb dX4_unevenVoices_61 rfl hl (by decide) rfl (fun ls hl => ?_)
                  refine z_nm h (fun x8_ ex8_ h => ?_)
                  refine lv_iinc (v := x8_) (lv' := [(3, .int x8_), (1, .int x7_), (0, .ref a_this), (2, .int v4_.2)]) hx hb dX4_unevenVoices_62 hl (k := 3) rfl (by rw [ex8_]; rfl) (by decide) rfl (fun ls hl => ?_)
                  refine lv_goto (tgt := 14) hx hb dX4_unevenVoices_65 (by decide) ?_
                  exact ih14_ _ h _ (lv_sub hl [2, 1, 3, 0] rfl)
                have h := hA60_
                refine z_eq (tgt := 59) hx hb dX4_unevenVoices_52 (by decide) h (fun h => ?_) (fun h => ?_)
                · refine lv_iconst (v := 0) hx hb dX4_unevenVoices_59 (by decide) ?_
                  obtain rfl := Option.some.inj h
                  exact k60_ _ (lv_sub hl [1, 3, 4] rfl)
                · refine lv_iconst (v := 1) hx hb dX4_unevenVoices_55 (by decide) ?_
                  refine lv_goto (tgt := 60) hx hb dX4_unevenVoices_56 (by decide) ?_
                  obtain rfl := Option.some.inj h
                  exact k60_ _ (lv_sub hl [1, 3, 4] rfl)
              have h := hA47_
              refine z_le (tgt := 46) hx hb dX4_unevenVoices_25 (by decide) h (fun h => ?_) (fun h => ?_)
              · refine lv_iconst (v := 0) hx hb dX4_unevenVoices_46 (by decide) ?_
                obtain rfl := Option.some.inj h
                exact k47_ _ (lv_sub hl [0, 1, 2, 3] rfl)
              · refine lv_aload_n hx hb dX4_unevenVoices_28 rfl (lv_at hl 0 rfl) ?_
                refine lv_iload_n hx hb dX4_unevenVoices_29 rfl (lv_at hl 2 rfl) ?_
                refine lv_iload_n hx hb dX4_unevenVoices_30 rfl (lv_at hl 3 rfl) ?_
                obtain ⟨r9_, hr9_, h⟩ := z_bind h
                refine zRV F (k_X4_voiceTicks l N g a_this a_cells v_size v_cells v4_.2 v14_.2 _ hr9_) zy_X4_voiceTicks zw_302 hP hD hS [0, 1] rfl rfl (q0 := 0) (he := rfl) (hc := rfl) (rest := []) rfl hl.1 rfl (Nat.le_of_ble_eq_true rfl) ⟨rfl, rfl⟩ ⟨Nat.le_of_ble_eq_true rfl, Nat.le_of_ble_eq_true rfl⟩ ⟨Nat.zero_le _, Nat.zero_le _⟩ dX4_unevenVoices_31 (st1 := [.int r9_]) rfl ?_
                refine lv_aload_n hx hb dX4_unevenVoices_34 rfl (lv_at hl 0 rfl) ?_
                refine lv_iload_n hx hb dX4_unevenVoices_35 rfl (lv_at hl 2 rfl) ?_
                obtain ⟨r10_, hr10_, h⟩ := z_bind h
                refine zRV F (k_X4_ticks l N g a_this a_cells v_size v_cells v4_.2 _ hr10_) zy_X4_ticks zw_305 hP hD hS [0, 1] rfl rfl (q0 := 0) (he := rfl) (hc := rfl) (rest := [.int r9_]) rfl hl.1 rfl (Nat.le_of_ble_eq_true rfl) ⟨rfl, rfl⟩ ⟨Nat.le_of_ble_eq_true rfl, Nat.le_of_ble_eq_true rfl⟩ ⟨Nat.zero_le _, Nat.zero_le _⟩ dX4_unevenVoices_36 (st1 := [.int r10_, .int r9_]) rfl ?_
                refine z_ceq (tgt := 46) hx hb dX4_unevenVoices_39 (by decide) h (fun h => ?_) (fun h => ?_)
                · refine lv_iconst (v := 0) hx hb dX4_unevenVoices_46 (by decide) ?_
                  obtain rfl := Option.some.inj h
                  exact k47_ _ (lv_sub hl [0, 1, 2, 3] rfl)
                · refine lv_iconst (v := 1) hx hb dX4_unevenVoices_42 (by decide) ?_
                  refine lv_goto (tgt := 47) hx hb dX4_unevenVoices_43 (by decide) ?_
                  obtain rfl := Option.some.inj h
                  exact k47_ _ (lv_sub hl [0, 1, 2, 3] rfl)
        exact l14_ N _ h _ (lv_sub hl [1, 2, 3, 0] rfl)
  exact l4_ N _ h _ (lv_sub hl [2, 1, 0] rfl)
def f_X4_codeBefore (N : Nat) (v_size : Int32) (v_cells : Nat → Int32) (x1 : Int32) (x2 : Int32) (x3 : Int32) : Option Int32 :=
  if 0 < x3 then Option.bind (f_X4_code N v_size v_cells x1 x2 (x3 - 1)) (fun (r3_ : Int32) => some r3_) else Option.bind (f_X4_count N v_size v_cells (x1 - 1) x2) (fun (r1_ : Int32) => Option.bind (f_X4_code N v_size v_cells (x1 - 1) x2 (r1_ - 1)) (fun (r2_ : Int32) => some r2_))
abbrev rm_X4_codeBefore : Room := { frames := 2, cells := 0, slots := 0, locals := 47 }
theorem zy_X4_codeBefore : zYv yX4_codeBefore RX4 cX4_codeBefore 4 (some .int) 3 := ⟨zw_428, zw_429, zw_30, zw_307, ⟨by decide, by decide⟩, by decide +kernel⟩
set_option maxHeartbeats 4000000 in
set_option maxRecDepth 100000 in
theorem k_X4_codeBefore (l : Launch) (N : Nat) (g : zEnv) (a_this a_cells : Nat) (v_size : Int32) (v_cells : Nat → Int32) (x1 : Int32) (x2 : Int32) (x3 : Int32) (r : Int32) (h : f_X4_codeBefore N v_size v_cells x1 x2 x3 = some r) : ZR l yX4_codeBefore cX4_codeBefore 4 (some .int) rm_X4_codeBefore g [.ref a_this, .int x1, .int x2, .int x3] [zo_X4 a_this a_cells v_size, (a_cells, .inl (zI g, 912, .inl v_cells))] (some (.int r)) := by
  refine zR_of (by decide) (Nat.le_of_ble_eq_true rfl) ?_
  intro p e s m below meth c A ls Q R F hRm hr hlocks hP hD hS hl hQ
  subst hRm
  have F : zF p m c cX4_codeBefore 4 s (([.ref a_this, .int x1, .int x2, .int x3] : List Value)).toArray RX4 g A := F
  have hx := F.1.1
  have hb := F.1.2.1
  have hz := F.1.2.2.2.2
  have hl : lv_has ls 4 [(0, .ref a_this), (1, .int x1), (2, .int x2), (3, .int x3)] := hl
  unfold f_X4_codeBefore at h
  refine lv_iload_n hx hb dX4_codeBefore_0 rfl (lv_at hl 3 rfl) ?_
  refine z_le (tgt := 16) hx hb dX4_codeBefore_1 (by decide) h (fun h => ?_) (fun h => ?_)
  · refine lv_aload_n hx hb dX4_codeBefore_16 rfl (lv_at hl 0 rfl) ?_
    refine lv_iload_n hx hb dX4_codeBefore_17 rfl (lv_at hl 1 rfl) ?_
    refine lv_iconst (v := 1) hx hb dX4_codeBefore_18 (by decide) ?_
    refine lv_isub hx hb dX4_codeBefore_19 ?_
    refine lv_iload_n hx hb dX4_codeBefore_20 rfl (lv_at hl 2 rfl) ?_
    refine lv_aload_n hx hb dX4_codeBefore_21 rfl (lv_at hl 0 rfl) ?_
    refine lv_iload_n hx hb dX4_codeBefore_22 rfl (lv_at hl 1 rfl) ?_
    refine lv_iconst (v := 1) hx hb dX4_codeBefore_23 (by decide) ?_
    refine lv_isub hx hb dX4_codeBefore_24 ?_
    refine lv_iload_n hx hb dX4_codeBefore_25 rfl (lv_at hl 2 rfl) ?_
    obtain ⟨r1_, hr1_, h⟩ := z_bind h
    refine zRV F (k_X4_count l N g a_this a_cells v_size v_cells (x1 - 1) x2 _ hr1_) zy_X4_count zw_285 hP hD hS [0, 1] rfl rfl (q0 := 0) (he := rfl) (hc := rfl) (rest := [.int x2, .int (x1 - 1), .ref a_this]) rfl hl.1 rfl (Nat.le_of_ble_eq_true rfl) ⟨rfl, rfl⟩ ⟨Nat.le_of_ble_eq_true rfl, Nat.le_of_ble_eq_true rfl⟩ ⟨Nat.zero_le _, Nat.zero_le _⟩ dX4_codeBefore_26 (st1 := [.int r1_, .int x2, .int (x1 - 1), .ref a_this]) rfl ?_
    refine lv_iconst (v := 1) hx hb dX4_codeBefore_29 (by decide) ?_
    refine lv_isub hx hb dX4_codeBefore_30 ?_
    obtain ⟨r2_, hr2_, h⟩ := z_bind h
    refine zRV F (k_X4_code l N g a_this a_cells v_size v_cells (x1 - 1) x2 (r1_ - 1) _ hr2_) zy_X4_code zw_292 hP hD hS [0, 1] rfl rfl (q0 := 0) (he := rfl) (hc := rfl) (rest := []) rfl hl.1 rfl (Nat.le_of_ble_eq_true rfl) ⟨rfl, rfl⟩ ⟨Nat.le_of_ble_eq_true rfl, Nat.le_of_ble_eq_true rfl⟩ ⟨Nat.zero_le _, Nat.zero_le _⟩ dX4_codeBefore_31 (st1 := [.int r2_]) rfl ?_
    obtain rfl := Option.some.inj h
    exact zR_i F hr hlocks hQ dX4_codeBefore_34
  · refine lv_aload_n hx hb dX4_codeBefore_4 rfl (lv_at hl 0 rfl) ?_
    refine lv_iload_n hx hb dX4_codeBefore_5 rfl (lv_at hl 1 rfl) ?_
    refine lv_iload_n hx hb dX4_codeBefore_6 rfl (lv_at hl 2 rfl) ?_
    refine lv_iload_n hx hb dX4_codeBefore_7 rfl (lv_at hl 3 rfl) ?_
    refine lv_iconst (v := 1) hx hb dX4_codeBefore_8 (by decide) ?_
    refine lv_isub hx hb dX4_codeBefore_9 ?_
    obtain ⟨r3_, hr3_, h⟩ := z_bind h
    refine zRV F (k_X4_code l N g a_this a_cells v_size v_cells x1 x2 (x3 - 1) _ hr3_) zy_X4_code zw_292 hP hD hS [0, 1] rfl rfl (q0 := 0) (he := rfl) (hc := rfl) (rest := []) rfl hl.1 rfl (Nat.le_of_ble_eq_true rfl) ⟨rfl, rfl⟩ ⟨Nat.le_of_ble_eq_true rfl, Nat.le_of_ble_eq_true rfl⟩ ⟨Nat.zero_le _, Nat.zero_le _⟩ dX4_codeBefore_10 (st1 := [.int r3_]) rfl ?_
    refine lv_goto (tgt := 34) hx hb dX4_codeBefore_13 (by decide) ?_
    obtain rfl := Option.some.inj h
    exact zR_i F hr hlocks hQ dX4_codeBefore_34
def f_X4_codeAfter (N : Nat) (v_size : Int32) (v_cells : Nat → Int32) (x1 : Int32) (x2 : Int32) (x3 : Int32) : Option Int32 :=
  Option.bind (f_X4_count N v_size v_cells x1 x2) (fun (r1_ : Int32) => if (x3 + 1) < r1_ then Option.bind (f_X4_code N v_size v_cells x1 x2 (x3 + 1)) (fun (r3_ : Int32) => some r3_) else Option.bind (f_X4_code N v_size v_cells (x1 + 1) x2 0) (fun (r2_ : Int32) => some r2_))
abbrev rm_X4_codeAfter : Room := { frames := 2, cells := 0, slots := 0, locals := 47 }
theorem zy_X4_codeAfter : zYv yX4_codeAfter RX4 cX4_codeAfter 4 (some .int) 3 := ⟨zw_312, zw_313, zw_30, zw_308, ⟨by decide, by decide⟩, by decide +kernel⟩
set_option maxHeartbeats 4000000 in
set_option maxRecDepth 100000 in
theorem k_X4_codeAfter (l : Launch) (N : Nat) (g : zEnv) (a_this a_cells : Nat) (v_size : Int32) (v_cells : Nat → Int32) (x1 : Int32) (x2 : Int32) (x3 : Int32) (r : Int32) (h : f_X4_codeAfter N v_size v_cells x1 x2 x3 = some r) : ZR l yX4_codeAfter cX4_codeAfter 4 (some .int) rm_X4_codeAfter g [.ref a_this, .int x1, .int x2, .int x3] [zo_X4 a_this a_cells v_size, (a_cells, .inl (zI g, 912, .inl v_cells))] (some (.int r)) := by
  refine zR_of (by decide) (Nat.le_of_ble_eq_true rfl) ?_
  intro p e s m below meth c A ls Q R F hRm hr hlocks hP hD hS hl hQ
  subst hRm
  have F : zF p m c cX4_codeAfter 4 s (([.ref a_this, .int x1, .int x2, .int x3] : List Value)).toArray RX4 g A := F
  have hx := F.1.1
  have hb := F.1.2.1
  have hz := F.1.2.2.2.2
  have hl : lv_has ls 4 [(0, .ref a_this), (1, .int x1), (2, .int x2), (3, .int x3)] := hl
  unfold f_X4_codeAfter at h
  refine lv_iload_n hx hb dX4_codeAfter_0 rfl (lv_at hl 3 rfl) ?_
  refine lv_iconst (v := 1) hx hb dX4_codeAfter_1 (by decide) ?_
  refine lv_iadd hx hb dX4_codeAfter_2 ?_
  refine lv_aload_n hx hb dX4_codeAfter_3 rfl (lv_at hl 0 rfl) ?_
  refine lv_iload_n hx hb dX4_codeAfter_4 rfl (lv_at hl 1 rfl) ?_
  refine lv_iload_n hx hb dX4_codeAfter_5 rfl (lv_at hl 2 rfl) ?_
  obtain ⟨r1_, hr1_, h⟩ := z_bind h
  refine zRV F (k_X4_count l N g a_this a_cells v_size v_cells x1 x2 _ hr1_) zy_X4_count zw_285 hP hD hS [0, 1] rfl rfl (q0 := 0) (he := rfl) (hc := rfl) (rest := [.int (x3 + 1)]) rfl hl.1 rfl (Nat.le_of_ble_eq_true rfl) ⟨rfl, rfl⟩ ⟨Nat.le_of_ble_eq_true rfl, Nat.le_of_ble_eq_true rfl⟩ ⟨Nat.zero_le _, Nat.zero_le _⟩ dX4_codeAfter_6 (st1 := [.int r1_, .int (x3 + 1)]) rfl ?_
  refine z_cge (tgt := 24) hx hb dX4_codeAfter_9 (by decide) h (fun h => ?_) (fun h => ?_)
  · refine lv_aload_n hx hb dX4_codeAfter_24 rfl (lv_at hl 0 rfl) ?_
    refine lv_iload_n hx hb dX4_codeAfter_25 rfl (lv_at hl 1 rfl) ?_
    refine lv_iconst (v := 1) hx hb dX4_codeAfter_26 (by decide) ?_
    refine lv_iadd hx hb dX4_codeAfter_27 ?_
    refine lv_iload_n hx hb dX4_codeAfter_28 rfl (lv_at hl 2 rfl) ?_
    refine lv_iconst (v := 0) hx hb dX4_codeAfter_29 (by decide) ?_
    obtain ⟨r2_, hr2_, h⟩ := z_bind h
    refine zRV F (k_X4_code l N g a_this a_cells v_size v_cells (x1 + 1) x2 0 _ hr2_) zy_X4_code zw_292 hP hD hS [0, 1] rfl rfl (q0 := 0) (he := rfl) (hc := rfl) (rest := []) rfl hl.1 rfl (Nat.le_of_ble_eq_true rfl) ⟨rfl, rfl⟩ ⟨Nat.le_of_ble_eq_true rfl, Nat.le_of_ble_eq_true rfl⟩ ⟨Nat.zero_le _, Nat.zero_le _⟩ dX4_codeAfter_30 (st1 := [.int r2_]) rfl ?_
    obtain rfl := Option.some.inj h
    exact zR_i F hr hlocks hQ dX4_codeAfter_33
  · refine lv_aload_n hx hb dX4_codeAfter_12 rfl (lv_at hl 0 rfl) ?_
    refine lv_iload_n hx hb dX4_codeAfter_13 rfl (lv_at hl 1 rfl) ?_
    refine lv_iload_n hx hb dX4_codeAfter_14 rfl (lv_at hl 2 rfl) ?_
    refine lv_iload_n hx hb dX4_codeAfter_15 rfl (lv_at hl 3 rfl) ?_
    refine lv_iconst (v := 1) hx hb dX4_codeAfter_16 (by decide) ?_
    refine lv_iadd hx hb dX4_codeAfter_17 ?_
    obtain ⟨r3_, hr3_, h⟩ := z_bind h
    refine zRV F (k_X4_code l N g a_this a_cells v_size v_cells x1 x2 (x3 + 1) _ hr3_) zy_X4_code zw_292 hP hD hS [0, 1] rfl rfl (q0 := 0) (he := rfl) (hc := rfl) (rest := []) rfl hl.1 rfl (Nat.le_of_ble_eq_true rfl) ⟨rfl, rfl⟩ ⟨Nat.le_of_ble_eq_true rfl, Nat.le_of_ble_eq_true rfl⟩ ⟨Nat.zero_le _, Nat.zero_le _⟩ dX4_codeAfter_18 (st1 := [.int r3_]) rfl ?_
    refine lv_goto (tgt := 33) hx hb dX4_codeAfter_21 (by decide) ?_
    obtain rfl := Option.some.inj h
    exact zR_i F hr hlocks hQ dX4_codeAfter_33
def f_X4_isHeldTie (N : Nat) (v_size : Int32) (v_cells : Nat → Int32) (x1 : Int32) (x2 : Int32) (x3 : Int32) : Option Int32 :=
  Option.bind (f_X4_code N v_size v_cells x1 x2 x3) (fun (r1_ : Int32) => Option.bind (f_X0_isTied N r1_) (fun (r2_ : Int32) => if r2_ = 0 then some 0 else Option.bind (f_X4_codeAfter N v_size v_cells x1 x2 x3) (fun (r3_ : Int32) => Option.bind (f_X0_samePitch N r1_ r3_) (fun (r4_ : Int32) => if r4_ = 0 then some 0 else some 1))))
abbrev rm_X4_isHeldTie : Room := { frames := 3, cells := 0, slots := 0, locals := 70 }
theorem zy_X4_isHeldTie : zYv yX4_isHeldTie RX4 cX4_isHeldTie 5 (some .boolean) 3 := ⟨zw_454, zw_455, zw_30, zw_316, ⟨by decide, by decide⟩, by decide +kernel⟩
set_option maxHeartbeats 4000000 in
set_option maxRecDepth 100000 in
theorem k_X4_isHeldTie (l : Launch) (N : Nat) (g : zEnv) (a_this a_cells : Nat) (v_size : Int32) (v_cells : Nat → Int32) (x1 : Int32) (x2 : Int32) (x3 : Int32) (r : Int32) (h : f_X4_isHeldTie N v_size v_cells x1 x2 x3 = some r) : ZR l yX4_isHeldTie cX4_isHeldTie 5 (some .boolean) rm_X4_isHeldTie g [.ref a_this, .int x1, .int x2, .int x3] [zo_X4 a_this a_cells v_size, (a_cells, .inl (zI g, 912, .inl v_cells))] (some (.int r)) := by
  refine zR_of (by decide) (Nat.le_of_ble_eq_true rfl) ?_
  intro p e s m below meth c A ls Q R F hRm hr hlocks hP hD hS hl hQ
  subst hRm
  have F : zF p m c cX4_isHeldTie 5 s (([.ref a_this, .int x1, .int x2, .int x3] : List Value)).toArray RX4 g A := F
  have hx := F.1.1
  have hb := F.1.2.1
  have hz := F.1.2.2.2.2
  have hl : lv_has ls 5 [(0, .ref a_this), (1, .int x1), (2, .int x2), (3, .int x3)] := hl
  unfold f_X4_isHeldTie at h
  refine lv_aload_n hx hb dX4_isHeldTie_0 rfl (lv_at hl 0 rfl) ?_
  refine lv_iload_n hx hb dX4_isHeldTie_1 rfl (lv_at hl 1 rfl) ?_
  refine lv_iload_n hx hb dX4_isHeldTie_2 rfl (lv_at hl 2 rfl) ?_
  refine lv_iload_n hx hb dX4_isHeldTie_3 rfl (lv_at hl 3 rfl) ?_
  obtain ⟨r1_, hr1_, h⟩ := z_bind h
  refine zRV F (k_X4_code l N g a_this a_cells v_size v_cells x1 x2 x3 _ hr1_) zy_X4_code zw_292 hP hD hS [0, 1] rfl rfl (q0 := 0) (he := rfl) (hc := rfl) (rest := []) rfl hl.1 rfl (Nat.le_of_ble_eq_true rfl) ⟨rfl, rfl⟩ ⟨Nat.le_of_ble_eq_true rfl, Nat.le_of_ble_eq_true rfl⟩ ⟨Nat.zero_le _, Nat.zero_le _⟩ dX4_isHeldTie_4 (st1 := [.int r1_]) rfl ?_
  refine lv_istore (lv' := [(4, .int r1_), (0, .ref a_this), (1, .int x1), (2, .int x2), (3, .int x3)]) hx hb dX4_isHeldTie_7 hl (by decide) rfl (fun ls hl => ?_)
  refine lv_iload hx hb dX4_isHeldTie_9 (lv_at hl 0 rfl) ?_
  obtain ⟨r2_, hr2_, h⟩ := z_bind h
  refine zRS F (k_X0_isTied l N g r1_ _ hr2_) zy_X0_isTied zw_309 hP hD hS [] rfl rfl (rest := []) rfl hl.1 rfl (Nat.le_of_ble_eq_true rfl) ⟨rfl, rfl⟩ ⟨Nat.le_of_ble_eq_true rfl, Nat.le_of_ble_eq_true rfl⟩ ⟨Nat.zero_le _, Nat.zero_le _⟩ dX4_isHeldTie_11 (st1 := [.int r2_]) rfl ?_
  refine z_eq (tgt := 36) hx hb dX4_isHeldTie_14 (by decide) h (fun h => ?_) (fun h => ?_)
  · refine lv_iconst (v := 0) hx hb dX4_isHeldTie_36 (by decide) ?_
    obtain rfl := Option.some.inj h
    exact zR_n F hr hlocks hQ rfl dX4_isHeldTie_37
  · refine lv_iload hx hb dX4_isHeldTie_17 (lv_at hl 0 rfl) ?_
    refine lv_aload_n hx hb dX4_isHeldTie_19 rfl (lv_at hl 1 rfl) ?_
    refine lv_iload_n hx hb dX4_isHeldTie_20 rfl (lv_at hl 2 rfl) ?_
    refine lv_iload_n hx hb dX4_isHeldTie_21 rfl (lv_at hl 3 rfl) ?_
    refine lv_iload_n hx hb dX4_isHeldTie_22 rfl (lv_at hl 4 rfl) ?_
    obtain ⟨r3_, hr3_, h⟩ := z_bind h
    refine zRV F (k_X4_codeAfter l N g a_this a_cells v_size v_cells x1 x2 x3 _ hr3_) zy_X4_codeAfter zw_311 hP hD hS [0, 1] rfl rfl (q0 := 0) (he := rfl) (hc := rfl) (rest := [.int r1_]) rfl hl.1 rfl (Nat.le_of_ble_eq_true rfl) ⟨rfl, rfl⟩ ⟨Nat.le_of_ble_eq_true rfl, Nat.le_of_ble_eq_true rfl⟩ ⟨Nat.zero_le _, Nat.zero_le _⟩ dX4_isHeldTie_23 (st1 := [.int r3_, .int r1_]) rfl ?_
    obtain ⟨r4_, hr4_, h⟩ := z_bind h
    refine zRS F (k_X0_samePitch l N g r1_ r3_ _ hr4_) zy_X0_samePitch zw_314 hP hD hS [] rfl rfl (rest := []) rfl hl.1 rfl (Nat.le_of_ble_eq_true rfl) ⟨rfl, rfl⟩ ⟨Nat.le_of_ble_eq_true rfl, Nat.le_of_ble_eq_true rfl⟩ ⟨Nat.zero_le _, Nat.zero_le _⟩ dX4_isHeldTie_26 (st1 := [.int r4_]) rfl ?_
    refine z_eq (tgt := 36) hx hb dX4_isHeldTie_29 (by decide) h (fun h => ?_) (fun h => ?_)
    · refine lv_iconst (v := 0) hx hb dX4_isHeldTie_36 (by decide) ?_
      obtain rfl := Option.some.inj h
      exact zR_n F hr hlocks hQ rfl dX4_isHeldTie_37
    · refine lv_iconst (v := 1) hx hb dX4_isHeldTie_32 (by decide) ?_
      refine lv_goto (tgt := 37) hx hb dX4_isHeldTie_33 (by decide) ?_
      obtain rfl := Option.some.inj h
      exact zR_n F hr hlocks hQ rfl dX4_isHeldTie_37
def f_X4_becomeDraft_B11 (N : Nat) (r1_ : Int32 × (Nat → Int32)) (kh11_ : Int32 × (Nat → Int32) → Option (Nat → Int32)) (v11_ : Int32 × (Nat → Int32)) : Option (Nat → Int32) :=
  if 3 < v11_.1 then some v11_.2 else Option.bind (f_X4_putValue N r1_.1 v11_.2 0 v11_.1 (-100)) (fun (r3_ : (Nat → Int32)) => Option.bind (some (v11_.1 + 1)) (fun (x4_ : Int32) => kh11_ (x4_, r3_)))
def f_X4_becomeDraft (N : Nat) (v_size : Int32) (v_cells : Nat → Int32) : Option (Int32 × (Nat → Int32)) :=
  Option.bind (f_X4_appendMeasure N 0 v_cells) (fun (r1_ : Int32 × (Nat → Int32)) => Option.bind (zLoop (f_X4_becomeDraft_B11 N r1_) N (0, r1_.2)) (fun (r2_ : (Nat → Int32)) => some (r1_.1, r2_)))
abbrev rm_X4_becomeDraft : Room := { frames := 3, cells := 0, slots := 0, locals := 68 }
theorem zy_X4_becomeDraft : zYv yX4_becomeDraft RX4 cX4_becomeDraft 2 none 0 := ⟨zw_274, zw_275, zw_30, zw_122, ⟨by decide, by decide⟩, by decide +kernel⟩
set_option maxHeartbeats 4000000 in
set_option maxRecDepth 100000 in
theorem k_X4_becomeDraft (l : Launch) (N : Nat) (g : zEnv) (a_this a_cells : Nat) (v_size : Int32) (v_cells : Nat → Int32) (r : Int32 × (Nat → Int32)) (h : f_X4_becomeDraft N v_size v_cells = some r) : ZV l yX4_becomeDraft cX4_becomeDraft 2 none rm_X4_becomeDraft g [.ref a_this] [zo_X4 a_this a_cells v_size, (a_cells, .inl (zI g, 912, .inl v_cells))] [zo_X4 a_this a_cells r.1, (a_cells, .inl (zI g, 912, .inl r.2))] none := by
  refine zV_of (by decide) (Nat.le_of_ble_eq_true rfl) ?_
  intro p e s m below meth c A H locs ls Q R F hRm hr hlocks hP hD hS hl hQ
  subst hRm
  have F : zF p m c cX4_becomeDraft 2 s (([.ref a_this] : List Value)).toArray RX4 g A := F
  have hx := F.1.1
  have hb := F.1.2.1
  have hz := F.1.2.2.2.2
  have hl : lv_has ls 2 [(0, .ref a_this)] := hl
  unfold f_X4_becomeDraft at h
  refine lv_aload_n hx hb dX4_becomeDraft_0 rfl (lv_at hl 0 rfl) ?_
  refine lv_iconst (v := 0) hx hb dX4_becomeDraft_1 (by decide) ?_
  refine z_put (C := RX4) (T := TX4) (N := 2) (ci := 3) (W1 := [zo_X4 a_this a_cells 0, (a_cells, .inl (zI g, 912, .inl v_cells))]) F zu_wsX40 tyX4 tyX4_ok nmX4 hP hD hS 0 rfl rfl 1 (by decide) zw_36 rfl rfl rfl (Nat.le_of_ble_eq_true rfl) dX4_becomeDraft_2 rfl (fun H locs hP hD hS => ?_)
  refine lv_aload_n hx hb dX4_becomeDraft_5 rfl (lv_at hl 0 rfl) ?_
  obtain ⟨r1_, hr1_, h⟩ := z_bind h
  refine zVV F (k_X4_appendMeasure l N g a_this a_cells 0 v_cells _ hr1_) zy_X4_appendMeasure zw_119 hP hD hS [0, 1] [] [0, 1] (wr := []) (W1 := [zo_X4 a_this a_cells r1_.1, (a_cells, .inl (zI g, 912, .inl r1_.2))]) rfl rfl rfl rfl (by decide) rfl rfl (q0 := 0) (he := rfl) (hc := rfl) (rest := []) rfl hl.1 rfl (Nat.le_of_ble_eq_true rfl) ⟨rfl, rfl⟩ ⟨Nat.le_of_ble_eq_true rfl, Nat.le_of_ble_eq_true rfl⟩ ⟨Nat.zero_le _, Nat.zero_le _⟩ dX4_becomeDraft_6 (st1 := []) rfl (fun H locs hP hD hS => ?_)
  refine lv_iconst (v := 0) hx hb dX4_becomeDraft_9 (by decide) ?_
  refine lv_istore_n (lv' := [(1, .int 0), (0, .ref a_this)]) hx hb dX4_becomeDraft_10 rfl hl (by decide) rfl (fun ls hl => ?_)
  obtain ⟨r2_, hA11_, h⟩ := z_bind h
  have k30_ : ∀ (H : Heap) (locs : List Loc) (ls : Array Slot), va_P (zD g) vwCl [zo_X4 a_this a_cells r1_.1, (a_cells, .inl (zI g, 912, .inl r2_))] H → va_D A [zo_X4 a_this a_cells r1_.1, (a_cells, .inl (zI g, 912, .inl r2_))] → va_S A s.heap H locs → lv_has ls 2 [] → W p l e rm_X4_becomeDraft s m (([.ref a_this] : List Value)).toArray below meth c H locs 0 0 Q (F0 m 30 ls []) := by
    intro H locs ls hP hD hS hl
    obtain rfl := Option.some.inj h
    exact zV_v F hr hlocks hQ hP hD hS dX4_becomeDraft_30
  have h := hA11_
  have l11_ : ∀ (n11_ : Nat) (v11_ : Int32 × (Nat → Int32)), zLoop (f_X4_becomeDraft_B11 N r1_) n11_ v11_ = some r2_ → ∀ (H : Heap) (locs : List Loc) (ls : Array Slot), va_P (zD g) vwCl [zo_X4 a_this a_cells r1_.1, (a_cells, .inl (zI g, 912, .inl v11_.2))] H → va_D A [zo_X4 a_this a_cells r1_.1, (a_cells, .inl (zI g, 912, .inl v11_.2))] → va_S A s.heap H locs → lv_has ls 2 [(0, .ref a_this), (1, .int v11_.1)] → W p l e rm_X4_becomeDraft s m (([.ref a_this] : List Value)).toArray below meth c H locs 0 0 Q (F0 m 11 ls []) := by
    intro n11_
    induction n11_ with
    | zero => intro v11_ h; cases h
    | succ n11_ ih11_ =>
      intro v11_ h H locs ls hP hD hS hl
      have h : f_X4_becomeDraft_B11 N r1_ (zLoop (f_X4_becomeDraft_B11 N r1_) n11_) v11_ = some r2_ := h
      unfold f_X4_becomeDraft_B11 at h
      refine lv_iload_n hx hb dX4_becomeDraft_11 rfl (lv_at hl 1 rfl) ?_
      refine lv_iconst (v := 3) hx hb dX4_becomeDraft_12 (by decide) ?_
      refine z_cgt (tgt := 30) hx hb dX4_becomeDraft_13 (by decide) h (fun h => ?_) (fun h => ?_)
      · obtain rfl := Option.some.inj h
        exact k30_ _ _ _ hP hD hS (lv_sub hl [] rfl)
      · refine lv_aload_n hx hb dX4_becomeDraft_16 rfl (lv_at hl 0 rfl) ?_
        refine lv_iconst (v := 0) hx hb dX4_becomeDraft_17 (by decide) ?_
        refine lv_iload_n hx hb dX4_becomeDraft_18 rfl (lv_at hl 1 rfl) ?_
        refine lv_bipush (v := (-100)) hx hb dX4_becomeDraft_19 (by decide) ?_
        obtain ⟨r3_, hr3_, h⟩ := z_bind h
        refine zVV F (k_X4_putValue l N g a_this a_cells r1_.1 v11_.2 0 v11_.1 (-100) _ hr3_) zy_X4_putValue zw_115 hP hD hS [0, 1] [] [0, 1] (wr := []) (W1 := [zo_X4 a_this a_cells r1_.1, (a_cells, .inl (zI g, 912, .inl r3_))]) rfl rfl rfl rfl (by decide) rfl rfl (q0 := 0) (he := rfl) (hc := rfl) (rest := []) rfl hl.1 rfl (Nat.le_of_ble_eq_true rfl) ⟨rfl, rfl⟩ ⟨Nat.le_of_ble_eq_true rfl, Nat.le_of_ble_eq_true rfl⟩ ⟨Nat.zero_le _, Nat.zero_le _⟩ dX4_becomeDraft_21 (st1 := []) rfl (fun H locs hP hD hS => ?_)
        refine z_nm h (fun x4_ ex4_ h => ?_)
        refine lv_iinc (v := x4_) (lv' := [(1, .int x4_), (0, .ref a_this)]) hx hb dX4_becomeDraft_24 hl (k := 1) rfl (by rw [ex4_]; rfl) (by decide) rfl (fun ls hl => ?_)
        refine lv_goto (tgt := 11) hx hb dX4_becomeDraft_27 (by decide) ?_
        exact ih11_ _ h _ _ _ hP hD hS (lv_sub hl [1, 0] rfl)
  exact l11_ N _ h _ _ _ hP hD hS (lv_sub hl [1, 0] rfl)
def f_X4_takeDraft_B15 (N : Nat) (v_p2_size : Int32) (v_p2_cells : Nat → Int32) (v_size : Int32) (x1 : Int32) (kh15_ : Int32 × (Nat → Int32) → Option (Nat → Int32)) (v15_ : Int32 × (Nat → Int32)) : Option (Nat → Int32) :=
  if v15_.1 < 7 then Option.bind (f_X4_value N v_p2_size v_p2_cells 0 v15_.1) (fun (r4_ : Int32) => Option.bind (if r4_ = (-100) then some v15_.2 else Option.bind (f_X4_putValue N v_size v15_.2 x1 v15_.1 r4_) (fun (r7_ : (Nat → Int32)) => some r7_)) (fun (r5_ : (Nat → Int32)) => Option.bind (some (v15_.1 + 1)) (fun (x6_ : Int32) => kh15_ (x6_, r5_)))) else some v15_.2
def f_X4_takeDraft (N : Nat) (v_size : Int32) (v_cells : Nat → Int32) (v_p2_size : Int32) (v_p2_cells : Nat → Int32) (x1 : Int32) : Option (Nat → Int32) :=
  Option.bind (f_X4_voiceCell N v_size x1 0) (fun (r1_ : Int32) => if r1_ < 0 then some v_cells else Option.bind (zLoop (f_X4_takeDraft_B15 N v_p2_size v_p2_cells v_size x1) N (0, v_cells)) (fun (r2_ : (Nat → Int32)) => Option.bind (zCpy v_p2_cells r2_ 912 912 7 r1_ 50) (fun (w3_ : Nat → Int32) => some w3_)))
abbrev rm_X4_takeDraft : Room := { frames := 2, cells := 0, slots := 0, locals := 68 }
theorem zy_X4_takeDraft : zYv yX4_takeDraft RX4 cX4_takeDraft 6 none 2 := ⟨zw_674, zw_675, zw_30, zw_317, ⟨by decide, by decide⟩, by decide +kernel⟩
set_option maxHeartbeats 4000000 in
set_option maxRecDepth 100000 in
theorem k_X4_takeDraft (l : Launch) (N : Nat) (g : zEnv) (a_this a_cells a_p2 a_p2_cells : Nat) (v_size : Int32) (v_cells : Nat → Int32) (v_p2_size : Int32) (v_p2_cells : Nat → Int32) (x1 : Int32) (r : (Nat → Int32)) (h : f_X4_takeDraft N v_size v_cells v_p2_size v_p2_cells x1 = some r) : ZV l yX4_takeDraft cX4_takeDraft 6 none rm_X4_takeDraft g [.ref a_this, .int x1, .ref a_p2] [zo_X4 a_this a_cells v_size, (a_cells, .inl (zI g, 912, .inl v_cells)), zo_X4 a_p2 a_p2_cells v_p2_size, (a_p2_cells, .inl (zI g, 912, .inl v_p2_cells))] [zo_X4 a_this a_cells v_size, (a_cells, .inl (zI g, 912, .inl r)), zo_X4 a_p2 a_p2_cells v_p2_size, (a_p2_cells, .inl (zI g, 912, .inl v_p2_cells))] none := by
  refine zV_of (by decide) (Nat.le_of_ble_eq_true rfl) ?_
  intro p e s m below meth c A H locs ls Q R F hRm hr hlocks hP hD hS hl hQ
  subst hRm
  have F : zF p m c cX4_takeDraft 6 s (([.ref a_this, .int x1, .ref a_p2] : List Value)).toArray RX4 g A := F
  have hx := F.1.1
  have hb := F.1.2.1
  have hz := F.1.2.2.2.2
  have hl : lv_has ls 6 [(0, .ref a_this), (1, .int x1), (2, .ref a_p2)] := hl
  unfold f_X4_takeDraft at h
  refine lv_aload_n hx hb dX4_takeDraft_0 rfl (lv_at hl 0 rfl) ?_
  refine lv_iload_n hx hb dX4_takeDraft_1 rfl (lv_at hl 1 rfl) ?_
  refine lv_iconst (v := 0) hx hb dX4_takeDraft_2 (by decide) ?_
  obtain ⟨r1_, hr1_, h⟩ := z_bind h
  refine zRV F (k_X4_voiceCell l N g a_this a_cells v_size x1 0 _ hr1_) zy_X4_voiceCell zw_244 hP hD hS [0] rfl rfl (q0 := 0) (he := rfl) (hc := rfl) (rest := []) rfl hl.1 rfl (Nat.le_of_ble_eq_true rfl) ⟨rfl, rfl⟩ ⟨Nat.le_of_ble_eq_true rfl, Nat.le_of_ble_eq_true rfl⟩ ⟨Nat.zero_le _, Nat.zero_le _⟩ dX4_takeDraft_3 (st1 := [.int r1_]) rfl ?_
  refine lv_istore_n (lv' := [(3, .int r1_), (0, .ref a_this), (1, .int x1), (2, .ref a_p2)]) hx hb dX4_takeDraft_6 rfl hl (by decide) rfl (fun ls hl => ?_)
  refine lv_iload_n hx hb dX4_takeDraft_7 rfl (lv_at hl 0 rfl) ?_
  refine z_ge (tgt := 12) hx hb dX4_takeDraft_8 (by decide) h (fun h => ?_) (fun h => ?_)
  · refine lv_iconst (v := 0) hx hb dX4_takeDraft_12 (by decide) ?_
    refine lv_istore (lv' := [(4, .int 0), (3, .int r1_), (0, .ref a_this), (1, .int x1), (2, .ref a_p2)]) hx hb dX4_takeDraft_13 hl (by decide) rfl (fun ls hl => ?_)
    obtain ⟨r2_, hA15_, h⟩ := z_bind h
    have k53_ : ∀ (H : Heap) (locs : List Loc) (ls : Array Slot), va_P (zD g) vwCl [zo_X4 a_this a_cells v_size, (a_cells, .inl (zI g, 912, .inl r2_)), zo_X4 a_p2 a_p2_cells v_p2_size, (a_p2_cells, .inl (zI g, 912, .inl v_p2_cells))] H → va_D A [zo_X4 a_this a_cells v_size, (a_cells, .inl (zI g, 912, .inl r2_)), zo_X4 a_p2 a_p2_cells v_p2_size, (a_p2_cells, .inl (zI g, 912, .inl v_p2_cells))] → va_S A s.heap H locs → lv_has ls 6 [(0, .ref a_this), (2, .ref a_p2), (3, .int r1_)] → W p l e rm_X4_takeDraft s m (([.ref a_this, .int x1, .ref a_p2] : List Value)).toArray below meth c H locs 0 0 Q (F0 m 53 ls []) := by
      intro H locs ls hP hD hS hl
      refine lv_aload_n hx hb dX4_takeDraft_53 rfl (lv_at hl 1 rfl) ?_
      refine z_get (C := RX4) (T := TX4) (N := 2) (ci := 3) F zu_wsX40 hP 2 rfl rfl 0 (by decide) zw_24 rfl dX4_takeDraft_54 ?_
      refine lv_bipush (v := 7) hx hb dX4_takeDraft_57 (by decide) ?_
      refine lv_aload_n hx hb dX4_takeDraft_59 rfl (lv_at hl 0 rfl) ?_
      refine z_get (C := RX4) (T := TX4) (N := 2) (ci := 3) F zu_wsX40 hP 0 rfl rfl 0 (by decide) zw_24 rfl dX4_takeDraft_60 ?_
      refine lv_iload_n hx hb dX4_takeDraft_63 rfl (lv_at hl 2 rfl) ?_
      refine lv_bipush (v := 50) hx hb dX4_takeDraft_64 (by decide) ?_
      refine z_copy F hP hD hS hl.1 3 1 rfl rfl zw_37 zw_38 zw_39 zw_40 (Nat.le_of_ble_eq_true rfl) (Nat.le_of_ble_eq_true rfl) dX4_takeDraft_66 h (W1 := fun w3_ => [zo_X4 a_this a_cells v_size, (a_cells, .inl (zI g, 912, .inl w3_)), zo_X4 a_p2 a_p2_cells v_p2_size, (a_p2_cells, .inl (zI g, 912, .inl v_p2_cells))]) (fun _ => rfl) (fun w3_ H locs h hP hD hS => ?_)
      obtain rfl := Option.some.inj h
      exact zV_v F hr hlocks hQ hP hD hS dX4_takeDraft_69
    have h := hA15_
    have l15_ : ∀ (n15_ : Nat) (v15_ : Int32 × (Nat → Int32)), zLoop (f_X4_takeDraft_B15 N v_p2_size v_p2_cells v_size x1) n15_ v15_ = some r2_ → ∀ (H : Heap) (locs : List Loc) (ls : Array Slot), va_P (zD g) vwCl [zo_X4 a_this a_cells v_size, (a_cells, .inl (zI g, 912, .inl v15_.2)), zo_X4 a_p2 a_p2_cells v_p2_size, (a_p2_cells, .inl (zI g, 912, .inl v_p2_cells))] H → va_D A [zo_X4 a_this a_cells v_size, (a_cells, .inl (zI g, 912, .inl v15_.2)), zo_X4 a_p2 a_p2_cells v_p2_size, (a_p2_cells, .inl (zI g, 912, .inl v_p2_cells))] → va_S A s.heap H locs → lv_has ls 6 [(0, .ref a_this), (1, .int x1), (2, .ref a_p2), (3, .int r1_), (4, .int v15_.1)] → W p l e rm_X4_takeDraft s m (([.ref a_this, .int x1, .ref a_p2] : List Value)).toArray below meth c H locs 0 0 Q (F0 m 15 ls []) := by
      intro n15_
      induction n15_ with
      | zero => intro v15_ h; cases h
      | succ n15_ ih15_ =>
        intro v15_ h H locs ls hP hD hS hl
        have h : f_X4_takeDraft_B15 N v_p2_size v_p2_cells v_size x1 (zLoop (f_X4_takeDraft_B15 N v_p2_size v_p2_cells v_size x1) n15_) v15_ = some r2_ := h
        unfold f_X4_takeDraft_B15 at h
        refine lv_iload hx hb dX4_takeDraft_15 (lv_at hl 4 rfl) ?_
        refine lv_bipush (v := 7) hx hb dX4_takeDraft_17 (by decide) ?_
        refine z_cge (tgt := 53) hx hb dX4_takeDraft_19 (by decide) h (fun h => ?_) (fun h => ?_)
        · obtain rfl := Option.some.inj h
          exact k53_ _ _ _ hP hD hS (lv_sub hl [0, 2, 3] rfl)
        · refine lv_aload_n hx hb dX4_takeDraft_22 rfl (lv_at hl 2 rfl) ?_
          refine lv_iconst (v := 0) hx hb dX4_takeDraft_23 (by decide) ?_
          refine lv_iload hx hb dX4_takeDraft_24 (lv_at hl 4 rfl) ?_
          obtain ⟨r4_, hr4_, h⟩ := z_bind h
          refine zRV F (k_X4_value l N g a_p2 a_p2_cells v_p2_size v_p2_cells 0 v15_.1 _ hr4_) zy_X4_value zw_79 hP hD hS [2, 3] rfl rfl (q0 := 2) (he := rfl) (hc := rfl) (rest := []) rfl hl.1 rfl (Nat.le_of_ble_eq_true rfl) ⟨rfl, rfl⟩ ⟨Nat.le_of_ble_eq_true rfl, Nat.le_of_ble_eq_true rfl⟩ ⟨Nat.zero_le _, Nat.zero_le _⟩ dX4_takeDraft_26 (st1 := [.int r4_]) rfl ?_
          refine lv_istore (lv' := [(5, .int r4_), (0, .ref a_this), (1, .int x1), (2, .ref a_p2), (3, .int r1_), (4, .int v15_.1)]) hx hb dX4_takeDraft_29 hl (by decide) rfl (fun ls hl => ?_)
          refine lv_iload hx hb dX4_takeDraft_31 (lv_at hl 0 rfl) ?_
          refine lv_bipush (v := (-100)) hx hb dX4_takeDraft_33 (by decide) ?_
          obtain ⟨r5_, hA47_, h⟩ := z_bind h
          have k47_ : ∀ (H : Heap) (locs : List Loc) (ls : Array Slot), va_P (zD g) vwCl [zo_X4 a_this a_cells v_size, (a_cells, .inl (zI g, 912, .inl r5_)), zo_X4 a_p2 a_p2_cells v_p2_size, (a_p2_cells, .inl (zI g, 912, .inl v_p2_cells))] H → va_D A [zo_X4 a_this a_cells v_size, (a_cells, .inl (zI g, 912, .inl r5_)), zo_X4 a_p2 a_p2_cells v_p2_size, (a_p2_cells, .inl (zI g, 912, .inl v_p2_cells))] → va_S A s.heap H locs → lv_has ls 6 [(0, .ref a_this), (1, .int x1), (2, .ref a_p2), (3, .int r1_), (4, .int v15_.1)] → W p l e rm_X4_takeDraft s m (([.ref a_this, .int x1, .ref a_p2] : List Value)).toArray below meth c H locs 0 0 Q (F0 m 47 ls []) := by
            intro H locs ls hP hD hS hl
            refine z_nm h (fun x6_ ex6_ h => ?_)
            refine lv_iinc (v := x6_) (lv' := [(4, .int x6_), (0, .ref a_this), (1, .int x1), (2, .ref a_p2), (3, .int r1_)]) hx hb dX4_takeDraft_47 hl (k := 4) rfl (by rw [ex6_]; rfl) (by decide) rfl (fun ls hl => ?_)
            refine lv_goto (tgt := 15) hx hb dX4_takeDraft_50 (by decide) ?_
            exact ih15_ _ h _ _ _ hP hD hS (lv_sub hl [1, 2, 3, 4, 0] rfl)
          have h := hA47_
          refine z_ceq (tgt := 47) hx hb dX4_takeDraft_35 (by decide) h (fun h => ?_) (fun h => ?_)
          · obtain rfl := Option.some.inj h
            exact k47_ _ _ _ hP hD hS (lv_sub hl [1, 2, 3, 4, 5] rfl)
          · refine lv_aload_n hx hb dX4_takeDraft_38 rfl (lv_at hl 1 rfl) ?_
            refine lv_iload_n hx hb dX4_takeDraft_39 rfl (lv_at hl 2 rfl) ?_
            refine lv_iload hx hb dX4_takeDraft_40 (lv_at hl 5 rfl) ?_
            refine lv_iload hx hb dX4_takeDraft_42 (lv_at hl 0 rfl) ?_
            obtain ⟨r7_, hr7_, h⟩ := z_bind h
            refine zVV F (k_X4_putValue l N g a_this a_cells v_size v15_.2 x1 v15_.1 r4_ _ hr7_) zy_X4_putValue zw_115 hP hD hS [0, 1] [2, 3] [2, 3, 0, 1] (wr := [zo_X4 a_p2 a_p2_cells v_p2_size, (a_p2_cells, .inl (zI g, 912, .inl v_p2_cells))]) (W1 := [zo_X4 a_this a_cells v_size, (a_cells, .inl (zI g, 912, .inl r7_)), zo_X4 a_p2 a_p2_cells v_p2_size, (a_p2_cells, .inl (zI g, 912, .inl v_p2_cells))]) rfl rfl rfl rfl (by decide) rfl rfl (q0 := 0) (he := rfl) (hc := rfl) (rest := []) rfl hl.1 rfl (Nat.le_of_ble_eq_true rfl) ⟨rfl, rfl⟩ ⟨Nat.le_of_ble_eq_true rfl, Nat.le_of_ble_eq_true rfl⟩ ⟨Nat.zero_le _, Nat.zero_le _⟩ dX4_takeDraft_44 (st1 := []) rfl (fun H locs hP hD hS => ?_)
            obtain rfl := Option.some.inj h
            exact k47_ _ _ _ hP hD hS (lv_sub hl [1, 2, 3, 4, 5] rfl)
    exact l15_ N _ h _ _ _ hP hD hS (lv_sub hl [2, 3, 4, 1, 0] rfl)
  · obtain rfl := Option.some.inj h
    exact zV_v F hr hlocks hQ hP hD hS dX4_takeDraft_11
def f_X4_hasVoiceOf_B20 (N : Nat) (v_size : Int32) (v_cells : Nat → Int32) (x1 : Int32) (x3 : Int32) (v_p2_size : Int32) (v_p2_cells : Nat → Int32) (kh20_ : Int32 → Option Int32) (v20_ : Int32) : Option Int32 :=
  Option.bind (f_X4_count N v_size v_cells x1 x3) (fun (r3_ : Int32) => if v20_ < r3_ then Option.bind (f_X4_code N v_size v_cells x1 x3 v20_) (fun (r4_ : Int32) => Option.bind (f_X4_code N v_p2_size v_p2_cells 0 x3 v20_) (fun (r5_ : Int32) => if r4_ = r5_ then Option.bind (some (v20_ + 1)) (fun (x6_ : Int32) => kh20_ x6_) else some 0)) else some 1)
def f_X4_hasVoiceOf (N : Nat) (v_size : Int32) (v_cells : Nat → Int32) (v_p2_size : Int32) (v_p2_cells : Nat → Int32) (x1 : Int32) (x3 : Int32) : Option Int32 :=
  Option.bind (f_X4_count N v_size v_cells x1 x3) (fun (r1_ : Int32) => Option.bind (f_X4_count N v_p2_size v_p2_cells 0 x3) (fun (r2_ : Int32) => if r1_ = r2_ then zLoop (f_X4_hasVoiceOf_B20 N v_size v_cells x1 x3 v_p2_size v_p2_cells) N 0 else some 0))
abbrev rm_X4_hasVoiceOf : Room := { frames := 2, cells := 0, slots := 0, locals := 47 }
theorem zy_X4_hasVoiceOf : zYv yX4_hasVoiceOf RX4 cX4_hasVoiceOf 5 (some .boolean) 3 := ⟨zw_320, zw_321, zw_30, zw_318, ⟨by decide, by decide⟩, by decide +kernel⟩
set_option maxHeartbeats 4000000 in
set_option maxRecDepth 100000 in
theorem k_X4_hasVoiceOf (l : Launch) (N : Nat) (g : zEnv) (a_this a_cells a_p2 a_p2_cells : Nat) (v_size : Int32) (v_cells : Nat → Int32) (v_p2_size : Int32) (v_p2_cells : Nat → Int32) (x1 : Int32) (x3 : Int32) (r : Int32) (h : f_X4_hasVoiceOf N v_size v_cells v_p2_size v_p2_cells x1 x3 = some r) : ZR l yX4_hasVoiceOf cX4_hasVoiceOf 5 (some .boolean) rm_X4_hasVoiceOf g [.ref a_this, .int x1, .ref a_p2, .int x3] [zo_X4 a_this a_cells v_size, (a_cells, .inl (zI g, 912, .inl v_cells)), zo_X4 a_p2 a_p2_cells v_p2_size, (a_p2_cells, .inl (zI g, 912, .inl v_p2_cells))] (some (.int r)) := by
  refine zR_of (by decide) (Nat.le_of_ble_eq_true rfl) ?_
  intro p e s m below meth c A ls Q R F hRm hr hlocks hP hD hS hl hQ
  subst hRm
  have F : zF p m c cX4_hasVoiceOf 5 s (([.ref a_this, .int x1, .ref a_p2, .int x3] : List Value)).toArray RX4 g A := F
  have hx := F.1.1
  have hb := F.1.2.1
  have hz := F.1.2.2.2.2
  have hl : lv_has ls 5 [(0, .ref a_this), (1, .int x1), (2, .ref a_p2), (3, .int x3)] := hl
  unfold f_X4_hasVoiceOf at h
  refine lv_aload_n hx hb dX4_hasVoiceOf_0 rfl (lv_at hl 0 rfl) ?_
  refine lv_iload_n hx hb dX4_hasVoiceOf_1 rfl (lv_at hl 1 rfl) ?_
  refine lv_iload_n hx hb dX4_hasVoiceOf_2 rfl (lv_at hl 3 rfl) ?_
  obtain ⟨r1_, hr1_, h⟩ := z_bind h
  refine zRV F (k_X4_count l N g a_this a_cells v_size v_cells x1 x3 _ hr1_) zy_X4_count zw_285 hP hD hS [0, 1] rfl rfl (q0 := 0) (he := rfl) (hc := rfl) (rest := []) rfl hl.1 rfl (Nat.le_of_ble_eq_true rfl) ⟨rfl, rfl⟩ ⟨Nat.le_of_ble_eq_true rfl, Nat.le_of_ble_eq_true rfl⟩ ⟨Nat.zero_le _, Nat.zero_le _⟩ dX4_hasVoiceOf_3 (st1 := [.int r1_]) rfl ?_
  refine lv_aload_n hx hb dX4_hasVoiceOf_6 rfl (lv_at hl 2 rfl) ?_
  refine lv_iconst (v := 0) hx hb dX4_hasVoiceOf_7 (by decide) ?_
  refine lv_iload_n hx hb dX4_hasVoiceOf_8 rfl (lv_at hl 3 rfl) ?_
  obtain ⟨r2_, hr2_, h⟩ := z_bind h
  refine zRV F (k_X4_count l N g a_p2 a_p2_cells v_p2_size v_p2_cells 0 x3 _ hr2_) zy_X4_count zw_285 hP hD hS [2, 3] rfl rfl (q0 := 2) (he := rfl) (hc := rfl) (rest := [.int r1_]) rfl hl.1 rfl (Nat.le_of_ble_eq_true rfl) ⟨rfl, rfl⟩ ⟨Nat.le_of_ble_eq_true rfl, Nat.le_of_ble_eq_true rfl⟩ ⟨Nat.zero_le _, Nat.zero_le _⟩ dX4_hasVoiceOf_9 (st1 := [.int r2_, .int r1_]) rfl ?_
  refine z_ceq (tgt := 17) hx hb dX4_hasVoiceOf_12 (by decide) h (fun h => ?_) (fun h => ?_)
  · refine lv_iconst (v := 0) hx hb dX4_hasVoiceOf_17 (by decide) ?_
    refine lv_istore (lv' := [(4, .int 0), (0, .ref a_this), (1, .int x1), (2, .ref a_p2), (3, .int x3)]) hx hb dX4_hasVoiceOf_18 hl (by decide) rfl (fun ls hl => ?_)
    have l20_ : ∀ (n20_ : Nat) (v20_ : Int32), zLoop (f_X4_hasVoiceOf_B20 N v_size v_cells x1 x3 v_p2_size v_p2_cells) n20_ v20_ = some r → ∀ (ls : Array Slot), lv_has ls 5 [(0, .ref a_this), (1, .int x1), (2, .ref a_p2), (3, .int x3), (4, .int v20_)] → W p l e rm_X4_hasVoiceOf s m (([.ref a_this, .int x1, .ref a_p2, .int x3] : List Value)).toArray below meth c s.heap [] 0 0 Q (F0 m 20 ls []) := by
      intro n20_
      induction n20_ with
      | zero => intro v20_ h; cases h
      | succ n20_ ih20_ =>
        intro v20_ h ls hl
        have h : f_X4_hasVoiceOf_B20 N v_size v_cells x1 x3 v_p2_size v_p2_cells (zLoop (f_X4_hasVoiceOf_B20 N v_size v_cells x1 x3 v_p2_size v_p2_cells) n20_) v20_ = some r := h
        unfold f_X4_hasVoiceOf_B20 at h
        refine lv_iload hx hb dX4_hasVoiceOf_20 (lv_at hl 4 rfl) ?_
        refine lv_aload_n hx hb dX4_hasVoiceOf_22 rfl (lv_at hl 0 rfl) ?_
        refine lv_iload_n hx hb dX4_hasVoiceOf_23 rfl (lv_at hl 1 rfl) ?_
        refine lv_iload_n hx hb dX4_hasVoiceOf_24 rfl (lv_at hl 3 rfl) ?_
        obtain ⟨r3_, hr3_, h⟩ := z_bind h
        refine zRV F (k_X4_count l N g a_this a_cells v_size v_cells x1 x3 _ hr3_) zy_X4_count zw_285 hP hD hS [0, 1] rfl rfl (q0 := 0) (he := rfl) (hc := rfl) (rest := [.int v20_]) rfl hl.1 rfl (Nat.le_of_ble_eq_true rfl) ⟨rfl, rfl⟩ ⟨Nat.le_of_ble_eq_true rfl, Nat.le_of_ble_eq_true rfl⟩ ⟨Nat.zero_le _, Nat.zero_le _⟩ dX4_hasVoiceOf_25 (st1 := [.int r3_, .int v20_]) rfl ?_
        refine z_cge (tgt := 58) hx hb dX4_hasVoiceOf_28 (by decide) h (fun h => ?_) (fun h => ?_)
        · refine lv_iconst (v := 1) hx hb dX4_hasVoiceOf_58 (by decide) ?_
          obtain rfl := Option.some.inj h
          exact zR_n F hr hlocks hQ rfl dX4_hasVoiceOf_59
        · refine lv_aload_n hx hb dX4_hasVoiceOf_31 rfl (lv_at hl 0 rfl) ?_
          refine lv_iload_n hx hb dX4_hasVoiceOf_32 rfl (lv_at hl 1 rfl) ?_
          refine lv_iload_n hx hb dX4_hasVoiceOf_33 rfl (lv_at hl 3 rfl) ?_
          refine lv_iload hx hb dX4_hasVoiceOf_34 (lv_at hl 4 rfl) ?_
          obtain ⟨r4_, hr4_, h⟩ := z_bind h
          refine zRV F (k_X4_code l N g a_this a_cells v_size v_cells x1 x3 v20_ _ hr4_) zy_X4_code zw_292 hP hD hS [0, 1] rfl rfl (q0 := 0) (he := rfl) (hc := rfl) (rest := []) rfl hl.1 rfl (Nat.le_of_ble_eq_true rfl) ⟨rfl, rfl⟩ ⟨Nat.le_of_ble_eq_true rfl, Nat.le_of_ble_eq_true rfl⟩ ⟨Nat.zero_le _, Nat.zero_le _⟩ dX4_hasVoiceOf_36 (st1 := [.int r4_]) rfl ?_
          refine lv_aload_n hx hb dX4_hasVoiceOf_39 rfl (lv_at hl 2 rfl) ?_
          refine lv_iconst (v := 0) hx hb dX4_hasVoiceOf_40 (by decide) ?_
          refine lv_iload_n hx hb dX4_hasVoiceOf_41 rfl (lv_at hl 3 rfl) ?_
          refine lv_iload hx hb dX4_hasVoiceOf_42 (lv_at hl 4 rfl) ?_
          obtain ⟨r5_, hr5_, h⟩ := z_bind h
          refine zRV F (k_X4_code l N g a_p2 a_p2_cells v_p2_size v_p2_cells 0 x3 v20_ _ hr5_) zy_X4_code zw_292 hP hD hS [2, 3] rfl rfl (q0 := 2) (he := rfl) (hc := rfl) (rest := [.int r4_]) rfl hl.1 rfl (Nat.le_of_ble_eq_true rfl) ⟨rfl, rfl⟩ ⟨Nat.le_of_ble_eq_true rfl, Nat.le_of_ble_eq_true rfl⟩ ⟨Nat.zero_le _, Nat.zero_le _⟩ dX4_hasVoiceOf_44 (st1 := [.int r5_, .int r4_]) rfl ?_
          refine z_ceq (tgt := 52) hx hb dX4_hasVoiceOf_47 (by decide) h (fun h => ?_) (fun h => ?_)
          · refine z_nm h (fun x6_ ex6_ h => ?_)
            refine lv_iinc (v := x6_) (lv' := [(4, .int x6_), (0, .ref a_this), (1, .int x1), (2, .ref a_p2), (3, .int x3)]) hx hb dX4_hasVoiceOf_52 hl (k := 4) rfl (by rw [ex6_]; rfl) (by decide) rfl (fun ls hl => ?_)
            refine lv_goto (tgt := 20) hx hb dX4_hasVoiceOf_55 (by decide) ?_
            exact ih20_ _ h _ (lv_sub hl [1, 2, 3, 4, 0] rfl)
          · refine lv_iconst (v := 0) hx hb dX4_hasVoiceOf_50 (by decide) ?_
            obtain rfl := Option.some.inj h
            exact zR_n F hr hlocks hQ rfl dX4_hasVoiceOf_51
    exact l20_ N _ h _ (lv_sub hl [1, 2, 3, 4, 0] rfl)
  · refine lv_iconst (v := 0) hx hb dX4_hasVoiceOf_15 (by decide) ?_
    obtain rfl := Option.some.inj h
    exact zR_n F hr hlocks hQ rfl dX4_hasVoiceOf_16
def f_X4_agreesWith_B2 (N : Nat) (v_p2_size : Int32) (v_p2_cells : Nat → Int32) (v_size : Int32) (v_cells : Nat → Int32) (x1 : Int32) (kh2_ : Int32 → Option Int32) (v2_ : Int32) : Option Int32 :=
  if v2_ < 7 then Option.bind (f_X4_value N v_p2_size v_p2_cells 0 v2_) (fun (r3_ : Int32) => if r3_ = (-100) then Option.bind (some (v2_ + 1)) (fun (x4_ : Int32) => kh2_ x4_) else Option.bind (f_X4_value N v_size v_cells x1 v2_) (fun (r5_ : Int32) => if r3_ = r5_ then Option.bind (some (v2_ + 1)) (fun (x6_ : Int32) => kh2_ x6_) else some 0)) else Option.bind (f_X4_hasVoiceOf N v_size v_cells v_p2_size v_p2_cells x1 0) (fun (r1_ : Int32) => if r1_ = 0 then some 0 else Option.bind (f_X4_hasVoiceOf N v_size v_cells v_p2_size v_p2_cells x1 1) (fun (r2_ : Int32) => if r2_ = 0 then some 0 else some 1))
def f_X4_agreesWith (N : Nat) (v_size : Int32) (v_cells : Nat → Int32) (v_p2_size : Int32) (v_p2_cells : Nat → Int32) (x1 : Int32) : Option Int32 :=
  zLoop (f_X4_agreesWith_B2 N v_p2_size v_p2_cells v_size v_cells x1) N 0
abbrev rm_X4_agreesWith : Room := { frames := 3, cells := 0, slots := 0, locals := 71 }
theorem zy_X4_agreesWith : zYv yX4_agreesWith RX4 cX4_agreesWith 5 (some .boolean) 2 := ⟨zw_678, zw_679, zw_30, zw_322, ⟨by decide, by decide⟩, by decide +kernel⟩
set_option maxHeartbeats 4000000 in
set_option maxRecDepth 100000 in
theorem k_X4_agreesWith (l : Launch) (N : Nat) (g : zEnv) (a_this a_cells a_p2 a_p2_cells : Nat) (v_size : Int32) (v_cells : Nat → Int32) (v_p2_size : Int32) (v_p2_cells : Nat → Int32) (x1 : Int32) (r : Int32) (h : f_X4_agreesWith N v_size v_cells v_p2_size v_p2_cells x1 = some r) : ZR l yX4_agreesWith cX4_agreesWith 5 (some .boolean) rm_X4_agreesWith g [.ref a_this, .int x1, .ref a_p2] [zo_X4 a_this a_cells v_size, (a_cells, .inl (zI g, 912, .inl v_cells)), zo_X4 a_p2 a_p2_cells v_p2_size, (a_p2_cells, .inl (zI g, 912, .inl v_p2_cells))] (some (.int r)) := by
  refine zR_of (by decide) (Nat.le_of_ble_eq_true rfl) ?_
  intro p e s m below meth c A ls Q R F hRm hr hlocks hP hD hS hl hQ
  subst hRm
  have F : zF p m c cX4_agreesWith 5 s (([.ref a_this, .int x1, .ref a_p2] : List Value)).toArray RX4 g A := F
  have hx := F.1.1
  have hb := F.1.2.1
  have hz := F.1.2.2.2.2
  have hl : lv_has ls 5 [(0, .ref a_this), (1, .int x1), (2, .ref a_p2)] := hl
  unfold f_X4_agreesWith at h
  refine lv_iconst (v := 0) hx hb dX4_agreesWith_0 (by decide) ?_
  refine lv_istore_n (lv' := [(3, .int 0), (0, .ref a_this), (1, .int x1), (2, .ref a_p2)]) hx hb dX4_agreesWith_1 rfl hl (by decide) rfl (fun ls hl => ?_)
  have l2_ : ∀ (n2_ : Nat) (v2_ : Int32), zLoop (f_X4_agreesWith_B2 N v_p2_size v_p2_cells v_size v_cells x1) n2_ v2_ = some r → ∀ (ls : Array Slot), lv_has ls 5 [(0, .ref a_this), (1, .int x1), (2, .ref a_p2), (3, .int v2_)] → W p l e rm_X4_agreesWith s m (([.ref a_this, .int x1, .ref a_p2] : List Value)).toArray below meth c s.heap [] 0 0 Q (F0 m 2 ls []) := by
    intro n2_
    induction n2_ with
    | zero => intro v2_ h; cases h
    | succ n2_ ih2_ =>
      intro v2_ h ls hl
      have h : f_X4_agreesWith_B2 N v_p2_size v_p2_cells v_size v_cells x1 (zLoop (f_X4_agreesWith_B2 N v_p2_size v_p2_cells v_size v_cells x1) n2_) v2_ = some r := h
      unfold f_X4_agreesWith_B2 at h
      refine lv_iload_n hx hb dX4_agreesWith_2 rfl (lv_at hl 3 rfl) ?_
      refine lv_bipush (v := 7) hx hb dX4_agreesWith_3 (by decide) ?_
      refine z_cge (tgt := 42) hx hb dX4_agreesWith_5 (by decide) h (fun h => ?_) (fun h => ?_)
      · refine lv_aload_n hx hb dX4_agreesWith_42 rfl (lv_at hl 0 rfl) ?_
        refine lv_iload_n hx hb dX4_agreesWith_43 rfl (lv_at hl 1 rfl) ?_
        refine lv_aload_n hx hb dX4_agreesWith_44 rfl (lv_at hl 2 rfl) ?_
        refine lv_iconst (v := 0) hx hb dX4_agreesWith_45 (by decide) ?_
        obtain ⟨r1_, hr1_, h⟩ := z_bind h
        refine zRV F (k_X4_hasVoiceOf l N g a_this a_cells a_p2 a_p2_cells v_size v_cells v_p2_size v_p2_cells x1 0 _ hr1_) zy_X4_hasVoiceOf zw_319 hP hD hS [0, 1, 2, 3] rfl rfl (q0 := 0) (he := rfl) (hc := rfl) (rest := []) rfl hl.1 rfl (Nat.le_of_ble_eq_true rfl) ⟨rfl, rfl⟩ ⟨Nat.le_of_ble_eq_true rfl, Nat.le_of_ble_eq_true rfl⟩ ⟨Nat.zero_le _, Nat.zero_le _⟩ dX4_agreesWith_46 (st1 := [.int r1_]) rfl ?_
        refine z_eq (tgt := 66) hx hb dX4_agreesWith_49 (by decide) h (fun h => ?_) (fun h => ?_)
        · refine lv_iconst (v := 0) hx hb dX4_agreesWith_66 (by decide) ?_
          obtain rfl := Option.some.inj h
          exact zR_n F hr hlocks hQ rfl dX4_agreesWith_67
        · refine lv_aload_n hx hb dX4_agreesWith_52 rfl (lv_at hl 0 rfl) ?_
          refine lv_iload_n hx hb dX4_agreesWith_53 rfl (lv_at hl 1 rfl) ?_
          refine lv_aload_n hx hb dX4_agreesWith_54 rfl (lv_at hl 2 rfl) ?_
          refine lv_iconst (v := 1) hx hb dX4_agreesWith_55 (by decide) ?_
          obtain ⟨r2_, hr2_, h⟩ := z_bind h
          refine zRV F (k_X4_hasVoiceOf l N g a_this a_cells a_p2 a_p2_cells v_size v_cells v_p2_size v_p2_cells x1 1 _ hr2_) zy_X4_hasVoiceOf zw_319 hP hD hS [0, 1, 2, 3] rfl rfl (q0 := 0) (he := rfl) (hc := rfl) (rest := []) rfl hl.1 rfl (Nat.le_of_ble_eq_true rfl) ⟨rfl, rfl⟩ ⟨Nat.le_of_ble_eq_true rfl, Nat.le_of_ble_eq_true rfl⟩ ⟨Nat.zero_le _, Nat.zero_le _⟩ dX4_agreesWith_56 (st1 := [.int r2_]) rfl ?_
          refine z_eq (tgt := 66) hx hb dX4_agreesWith_59 (by decide) h (fun h => ?_) (fun h => ?_)
          · refine lv_iconst (v := 0) hx hb dX4_agreesWith_66 (by decide) ?_
            obtain rfl := Option.some.inj h
            exact zR_n F hr hlocks hQ rfl dX4_agreesWith_67
          · refine lv_iconst (v := 1) hx hb dX4_agreesWith_62 (by decide) ?_
            refine lv_goto (tgt := 67) hx hb dX4_agreesWith_63 (by decide) ?_
            obtain rfl := Option.some.inj h
            exact zR_n F hr hlocks hQ rfl dX4_agreesWith_67
      · refine lv_aload_n hx hb dX4_agreesWith_8 rfl (lv_at hl 2 rfl) ?_
        refine lv_iconst (v := 0) hx hb dX4_agreesWith_9 (by decide) ?_
        refine lv_iload_n hx hb dX4_agreesWith_10 rfl (lv_at hl 3 rfl) ?_
        obtain ⟨r3_, hr3_, h⟩ := z_bind h
        refine zRV F (k_X4_value l N g a_p2 a_p2_cells v_p2_size v_p2_cells 0 v2_ _ hr3_) zy_X4_value zw_79 hP hD hS [2, 3] rfl rfl (q0 := 2) (he := rfl) (hc := rfl) (rest := []) rfl hl.1 rfl (Nat.le_of_ble_eq_true rfl) ⟨rfl, rfl⟩ ⟨Nat.le_of_ble_eq_true rfl, Nat.le_of_ble_eq_true rfl⟩ ⟨Nat.zero_le _, Nat.zero_le _⟩ dX4_agreesWith_11 (st1 := [.int r3_]) rfl ?_
        refine lv_istore (lv' := [(4, .int r3_), (0, .ref a_this), (1, .int x1), (2, .ref a_p2), (3, .int v2_)]) hx hb dX4_agreesWith_14 hl (by decide) rfl (fun ls hl => ?_)
        refine lv_iload hx hb dX4_agreesWith_16 (lv_at hl 0 rfl) ?_
        refine lv_bipush (v := (-100)) hx hb dX4_agreesWith_18 (by decide) ?_
        refine z_ceq (tgt := 36) hx hb dX4_agreesWith_20 (by decide) h (fun h => ?_) (fun h => ?_)
        · refine z_nm h (fun x4_ ex4_ h => ?_)
          refine lv_iinc (v := x4_) (lv' := [(3, .int x4_), (4, .int r3_), (0, .ref a_this), (1, .int x1), (2, .ref a_p2)]) hx hb dX4_agreesWith_36 hl (k := 4) rfl (by rw [ex4_]; rfl) (by decide) rfl (fun ls hl => ?_)
          refine lv_goto (tgt := 2) hx hb dX4_agreesWith_39 (by decide) ?_
          exact ih2_ _ h _ (lv_sub hl [2, 3, 4, 0] rfl)
        · refine lv_iload hx hb dX4_agreesWith_23 (lv_at hl 0 rfl) ?_
          refine lv_aload_n hx hb dX4_agreesWith_25 rfl (lv_at hl 1 rfl) ?_
          refine lv_iload_n hx hb dX4_agreesWith_26 rfl (lv_at hl 2 rfl) ?_
          refine lv_iload_n hx hb dX4_agreesWith_27 rfl (lv_at hl 4 rfl) ?_
          obtain ⟨r5_, hr5_, h⟩ := z_bind h
          refine zRV F (k_X4_value l N g a_this a_cells v_size v_cells x1 v2_ _ hr5_) zy_X4_value zw_79 hP hD hS [0, 1] rfl rfl (q0 := 0) (he := rfl) (hc := rfl) (rest := [.int r3_]) rfl hl.1 rfl (Nat.le_of_ble_eq_true rfl) ⟨rfl, rfl⟩ ⟨Nat.le_of_ble_eq_true rfl, Nat.le_of_ble_eq_true rfl⟩ ⟨Nat.zero_le _, Nat.zero_le _⟩ dX4_agreesWith_28 (st1 := [.int r5_, .int r3_]) rfl ?_
          refine z_ceq (tgt := 36) hx hb dX4_agreesWith_31 (by decide) h (fun h => ?_) (fun h => ?_)
          · refine z_nm h (fun x6_ ex6_ h => ?_)
            refine lv_iinc (v := x6_) (lv' := [(3, .int x6_), (4, .int r3_), (0, .ref a_this), (1, .int x1), (2, .ref a_p2)]) hx hb dX4_agreesWith_36 hl (k := 4) rfl (by rw [ex6_]; rfl) (by decide) rfl (fun ls hl => ?_)
            refine lv_goto (tgt := 2) hx hb dX4_agreesWith_39 (by decide) ?_
            exact ih2_ _ h _ (lv_sub hl [2, 3, 4, 0] rfl)
          · refine lv_iconst (v := 0) hx hb dX4_agreesWith_34 (by decide) ?_
            obtain rfl := Option.some.inj h
            exact zR_n F hr hlocks hQ rfl dX4_agreesWith_35
  exact l2_ N _ h _ (lv_sub hl [1, 2, 3, 0] rfl)
