/-! ===== refused ===== -/
section ZRF
variable {p : Program} {l : Launch} {e : Env} {s : State} {m : MethodId} {args : Array Value} {below : List Frame} {meth : Method} {c : Code} {H : Heap} {locs : List Loc} {Q : State → Prop}
variable {N : Nat} {g : zEnv} {j : zJ} {q : Nat → Nat} {A : Nat → Prop} {ls : Array Slot} {S : zSt} {hs : List zSt} {L : Nat} {T : Nat → Int} {K : zKT}
theorem gC_out {S : zSt} {a b : Int} (h : ¬ (0 ≤ a ∧ a < S.1 ∧ 0 ≤ b ∧ b < 2)) : gC S a b = 0 := by
  unfold gC
  rw [if_neg h]
theorem gC_in0 {S : zSt} {m v : Nat} (hm : m < S.1) (hv : v < 2) : gC S (m : Int) (v : Int) = (S.2.2.1 m v : Int) := by
  unfold gC
  rw [if_pos (by omega), Int.toNat_natCast, Int.toNat_natCast]
abbrev rm_L_refused : Room := { frames := 40, cells := 200, slots := 1200, locals := 2000 }
theorem iI_ge600 {a : Int} (h : 600 ≤ a) (h2 : a ≤ 100000) : (600 : Int32) ≤ iI a := by
  rw [show (600 : Int32) = iI 600 from rfl, Int32.le_iff_toInt_le, iI_toInt (by omega) (by omega), iI_toInt (by omega) (by omega)]
  exact h
theorem iI_lt600 {a : Int} (h : a < 600) (h2 : 0 ≤ a) : ¬ (600 : Int32) ≤ iI a := by
  rw [show (600 : Int32) = iI 600 from rfl, Int32.le_iff_toInt_le, iI_toInt (by omega) (by omega), iI_toInt (by omega) (by omega)]
  omega
theorem iI_pos {a : Int} (h : 0 < a) (h2 : a ≤ 100000) : ¬ iI a ≤ 0 := by
  rw [show (0 : Int32) = iI 0 from rfl, Int32.le_iff_toInt_le, iI_toInt (by omega) (by omega), iI_toInt (by omega) (by omega)]
  omega
theorem iI_npos {a : Int} (h : a ≤ 0) (h2 : -100000 ≤ a) : iI a ≤ 0 := by
  rw [show (0 : Int32) = iI 0 from rfl, Int32.le_iff_toInt_le, iI_toInt (by omega) (by omega), iI_toInt (by omega) (by omega)]
  exact h
set_option maxHeartbeats 8000000 in
set_option maxRecDepth 100000 in
theorem rf_00 (hN2 : 20000 ≤ N) (hfl : l.stackTraces = false) (F : zF p m c cL_refused 6 s args RL g A) (hN : zN s) (hJ : va_K (zD g) vwCl (zJT j) s) (hZ : zC S hs L T K) (hP : va_P (zD g) vwCl (zcW g q K) H) (hD : va_D A (zcW g q K)) (hS : va_S A s.heap H locs) (hl : lv_has ls 6 [(0, .ref (q 0)), (1, .long (mxD S hs.length L T)), (3, .int (iI (S.1 : Int))), (4, .int 0), (5, .int (iI (S.1 : Int)))]) 
    (kk : ∀ (K : zKT) (H : Heap) (locs : List Loc) (ls : Array Slot), zC S hs L T K → va_P (zD g) vwCl (zcW g q K) H → va_D A (zcW g q K) → va_S A s.heap H locs → lv_has ls 6 [(0, .ref (q 0)), (1, .long (mxD S hs.length L T)), (3, .int (iI (S.1 : Int))), (4, .int 0), (5, .int (iI (S.1 : Int)))] → W p l e rm_L_refused s m args below meth c H locs 6 36 Q (F0 m 112 ls [])) : W p l e rm_L_refused s m args below meth c H locs 0 0 Q (F0 m 32 ls []) := by
  have hx := F.1.1
  have hb := F.1.2.1
  have hz := F.1.2.2.2.2
  obtain ⟨z1, z2, z3, z4, z5⟩ := zC_ok hZ
  have z6 := z1.1.1
  have hc0 : 0 < S.1 → S.2.2.1 0 0 ≤ 24 ∧ S.2.2.1 0 1 ≤ 24 := fun h => ⟨((z1.1.2 0 h).2 0 (by omega)).1, ((z1.1.2 0 h).2 1 (by omega)).1⟩
  refine lv_aload_n hx hb dL_refused_32 rfl (lv_at hl 0 rfl) ?_
  refine lv_iload hx hb dL_refused_33 (lv_at hl 4 rfl) ?_
  refine zcw0 (klx0_L_removing l N g j q K (iI (S.1 : Int)) (dx_removeMeasure (N := N) hZ (a := (S.1 : Int)) (zIn_ S.1 (by omega)) (by omega) (ea := rfl)) hfl) F hN hJ zyl_L_removing zw_840 ⟨by decide, by decide⟩ (n := 2) (by decide +kernel) zw_838 hP hD hS rfl hl.1 (rest := []) rfl (Nat.le_of_ble_eq_true rfl) ⟨rfl, rfl⟩ ⟨Nat.le_of_ble_eq_true rfl, Nat.le_of_ble_eq_true rfl⟩ ⟨Nat.le_of_ble_eq_true rfl, Nat.le_of_ble_eq_true rfl⟩ dL_refused_35 (fun H locs hP hD hS => ?_)
  refine lv_iconst (v := (-1)) hx hb dL_refused_38 (by decide) ?_
  refine lv_icmp_ne (tgt := 254) hx hb dL_refused_39 (by decide) (fun q9 => absurd q9 (by decide)) (fun _ => ?_)
  refine lv_aload_n hx hb dL_refused_42 rfl (lv_at hl 0 rfl) ?_
  refine lv_iload hx hb dL_refused_43 (lv_at hl 4 rfl) ?_
  refine lv_bipush (v := 9) hx hb dL_refused_45 (by decide) ?_
  refine lv_bipush (v := 99) hx hb dL_refused_47 (by decide) ?_
  refine zcw0 (klx0_L_setting l N g j q K (iI (S.1 : Int)) 9 99 (dx_set (N := N) hZ (a := (S.1 : Int)) (b := 9) (c := 99) (zIn_ S.1 (by omega)) (by omega) (ea := rfl) (eb := (by decide)) (ec := (by decide))) hfl) F hN hJ zyl_L_setting zw_840 ⟨by decide, by decide⟩ (n := 4) (by decide +kernel) zw_842 hP hD hS rfl hl.1 (rest := []) rfl (Nat.le_of_ble_eq_true rfl) ⟨rfl, rfl⟩ ⟨Nat.le_of_ble_eq_true rfl, Nat.le_of_ble_eq_true rfl⟩ ⟨Nat.le_of_ble_eq_true rfl, Nat.le_of_ble_eq_true rfl⟩ dL_refused_49 (fun H locs hP hD hS => ?_)
  refine lv_sipush (v := (-2001)) hx hb dL_refused_52 (by decide) ?_
  refine lv_icmp_ne (tgt := 254) hx hb dL_refused_55 (by decide) (fun q9 => absurd q9 (by decide)) (fun _ => ?_)
  refine lv_aload_n hx hb dL_refused_58 rfl (lv_at hl 0 rfl) ?_
  refine lv_iload hx hb dL_refused_59 (lv_at hl 4 rfl) ?_
  refine lv_iconst (v := 0) hx hb dL_refused_61 (by decide) ?_
  refine lv_bipush (v := 63) hx hb dL_refused_62 (by decide) ?_
  refine lv_iconst (v := 0) hx hb dL_refused_64 (by decide) ?_
  refine lv_iconst (v := 0) hx hb dL_refused_65 (by decide) ?_
  refine zcw0 (klx0_L_noting l N g j q K (iI (S.1 : Int)) 0 63 0 0 (dx_addNote0 (N := N) hZ (a := (S.1 : Int)) (b := 0) (c := 63) (d := 0) (w := 0) (zIn_ S.1 (by omega)) (by unfold zInt; omega) (by omega) (ea := rfl) (eb := (by decide)) (ec := (by decide)) (ed := (by decide)) (ew := (by decide))) hfl) F hN hJ zyl_L_noting zw_840 ⟨by decide, by decide⟩ (n := 6) (by decide +kernel) zw_845 hP hD hS rfl hl.1 (rest := []) rfl (Nat.le_of_ble_eq_true rfl) ⟨rfl, rfl⟩ ⟨Nat.le_of_ble_eq_true rfl, Nat.le_of_ble_eq_true rfl⟩ ⟨Nat.le_of_ble_eq_true rfl, Nat.le_of_ble_eq_true rfl⟩ dL_refused_66 (fun H locs hP hD hS => ?_)
  refine lv_iconst (v := (-1)) hx hb dL_refused_69 (by decide) ?_
  refine lv_icmp_ne (tgt := 254) hx hb dL_refused_70 (by decide) (fun q9 => absurd q9 (by decide)) (fun _ => ?_)
  refine lv_aload_n hx hb dL_refused_73 rfl (lv_at hl 0 rfl) ?_
  refine lv_iload hx hb dL_refused_74 (lv_at hl 4 rfl) ?_
  refine lv_iconst (v := 2) hx hb dL_refused_76 (by decide) ?_
  refine lv_bipush (v := 10) hx hb dL_refused_77 (by decide) ?_
  refine zcw0 (klx0_L_resting l N g j q K (iI (S.1 : Int)) 2 10 (dx_addRest0 (N := N) hZ (a := (S.1 : Int)) (b := 2) (c := 10) (zIn_ S.1 (by omega)) (by unfold zInt; omega) (by omega) (ea := rfl) (eb := (by decide)) (ec := (by decide))) hfl) F hN hJ zyl_L_resting zw_840 ⟨by decide, by decide⟩ (n := 4) (by decide +kernel) zw_848 hP hD hS rfl hl.1 (rest := []) rfl (Nat.le_of_ble_eq_true rfl) ⟨rfl, rfl⟩ ⟨Nat.le_of_ble_eq_true rfl, Nat.le_of_ble_eq_true rfl⟩ ⟨Nat.le_of_ble_eq_true rfl, Nat.le_of_ble_eq_true rfl⟩ dL_refused_79 (fun H locs hP hD hS => ?_)
  refine lv_iconst (v := (-1)) hx hb dL_refused_82 (by decide) ?_
  refine lv_icmp_ne (tgt := 254) hx hb dL_refused_83 (by decide) (fun q9 => absurd q9 (by decide)) (fun _ => ?_)
  refine lv_aload_n hx hb dL_refused_86 rfl (lv_at hl 0 rfl) ?_
  refine lv_iload hx hb dL_refused_87 (lv_at hl 4 rfl) ?_
  refine lv_iconst (v := 0) hx hb dL_refused_89 (by decide) ?_
  refine lv_iconst (v := 0) hx hb dL_refused_90 (by decide) ?_
  refine zcw0 (klx0_L_dropping l N g j q K (iI (S.1 : Int)) 0 0 (dx_removeEvent (N := N) hZ (a := (S.1 : Int)) (b := 0) (c := 0) (zIn_ S.1 (by omega)) (by unfold zInt; omega) (by unfold zInt; omega) (by rw [gC_out (by omega)]; omega) (ea := rfl) (eb := (by decide)) (ec := (by decide))) hfl) F hN hJ zyl_L_dropping zw_840 ⟨by decide, by decide⟩ (n := 4) (by decide +kernel) zw_851 hP hD hS rfl hl.1 (rest := []) rfl (Nat.le_of_ble_eq_true rfl) ⟨rfl, rfl⟩ ⟨Nat.le_of_ble_eq_true rfl, Nat.le_of_ble_eq_true rfl⟩ ⟨Nat.le_of_ble_eq_true rfl, Nat.le_of_ble_eq_true rfl⟩ dL_refused_91 (fun H locs hP hD hS => ?_)
  refine lv_iconst (v := (-1)) hx hb dL_refused_94 (by decide) ?_
  refine lv_icmp_ne (tgt := 254) hx hb dL_refused_95 (by decide) (fun q9 => absurd q9 (by decide)) (fun _ => ?_)
  refine lv_aload_n hx hb dL_refused_98 rfl (lv_at hl 0 rfl) ?_
  refine lv_iload hx hb dL_refused_99 (lv_at hl 4 rfl) ?_
  refine lv_bipush (v := 12) hx hb dL_refused_101 (by decide) ?_
  refine zcw0 (klx0_L_measuring l N g j q K (iI (S.1 : Int)) 12 ((d_measure (N := N) hN2 hZ (a := (S.1 : Int)) (b := 12) (zIn_ S.1 (by omega)) (by unfold zInt; omega) (ea := rfl) (eb := (by decide))).trans (by rw [if_neg (by omega)])) hfl) F hN hJ zyl_L_measuring zw_840 ⟨by decide, by decide⟩ (n := 3) (by decide +kernel) zw_854 hP hD hS rfl hl.1 (rest := []) rfl (Nat.le_of_ble_eq_true rfl) ⟨rfl, rfl⟩ ⟨Nat.le_of_ble_eq_true rfl, Nat.le_of_ble_eq_true rfl⟩ ⟨Nat.le_of_ble_eq_true rfl, Nat.le_of_ble_eq_true rfl⟩ dL_refused_103 (fun H locs hP hD hS => ?_)
  refine lv_sipush (v := (-2001)) hx hb dL_refused_106 (by decide) ?_
  refine lv_icmp_ne (tgt := 254) hx hb dL_refused_109 (by decide) (fun q9 => absurd q9 (by decide)) (fun _ => ?_)
  exact kk _ _ _ _ hZ hP hD hS (lv_sub hl [0, 1, 2, 3, 4] rfl)
set_option maxHeartbeats 8000000 in
set_option maxRecDepth 100000 in
theorem rf_01 (hN2 : 20000 ≤ N) (hfl : l.stackTraces = false) (F : zF p m c cL_refused 6 s args RL g A) (hN : zN s) (hJ : va_K (zD g) vwCl (zJT j) s) (hZ : zC S hs L T K) (hP : va_P (zD g) vwCl (zcW g q K) H) (hD : va_D A (zcW g q K)) (hS : va_S A s.heap H locs) (hl : lv_has ls 6 [(0, .ref (q 0)), (1, .long (mxD S hs.length L T)), (3, .int (iI (S.1 : Int))), (4, .int 0), (5, .int (iI (S.1 : Int)))]) 
    (kk : ∀ (K : zKT) (H : Heap) (locs : List Loc) (ls : Array Slot), zC S hs L T K → va_P (zD g) vwCl (zcW g q K) H → va_D A (zcW g q K) → va_S A s.heap H locs → lv_has ls 6 [(0, .ref (q 0)), (1, .long (mxD S hs.length L T)), (3, .int (iI (S.1 : Int))), (4, .int 0), (5, .int (iI (S.1 : Int)))] → W p l e rm_L_refused s m args below meth c H locs 13 78 Q (F0 m 191 ls [])) : W p l e rm_L_refused s m args below meth c H locs 6 36 Q (F0 m 112 ls []) := by
  have hx := F.1.1
  have hb := F.1.2.1
  have hz := F.1.2.2.2.2
  obtain ⟨z1, z2, z3, z4, z5⟩ := zC_ok hZ
  have z6 := z1.1.1
  have hc0 : 0 < S.1 → S.2.2.1 0 0 ≤ 24 ∧ S.2.2.1 0 1 ≤ 24 := fun h => ⟨((z1.1.2 0 h).2 0 (by omega)).1, ((z1.1.2 0 h).2 1 (by omega)).1⟩
  refine lv_aload_n hx hb dL_refused_112 rfl (lv_at hl 0 rfl) ?_
  refine lv_iload hx hb dL_refused_113 (lv_at hl 4 rfl) ?_
  refine lv_iconst (v := 0) hx hb dL_refused_115 (by decide) ?_
  refine lv_iconst (v := 0) hx hb dL_refused_116 (by decide) ?_
  refine lv_bipush (v := 10) hx hb dL_refused_117 (by decide) ?_
  refine zcw0 (klx0_L_asking l N g j q K (iI (S.1 : Int)) 0 0 10 ((d_event (N := N) hN2 hZ (a := (S.1 : Int)) (b := 0) (c := 0) (w := 10) (zIn_ S.1 (by omega)) (by unfold zInt; omega) (by unfold zInt; omega) (by unfold zInt; omega) (ea := rfl) (eb := (by decide)) (ec := (by decide)) (ew := (by decide))).trans (by rw [if_neg (by rw [gC_out (by omega)]; omega)])) hfl) F hN hJ zyl_L_asking zw_840 ⟨by decide, by decide⟩ (n := 5) (by decide +kernel) zw_857 hP hD hS rfl hl.1 (rest := []) rfl (Nat.le_of_ble_eq_true rfl) ⟨rfl, rfl⟩ ⟨Nat.le_of_ble_eq_true rfl, Nat.le_of_ble_eq_true rfl⟩ ⟨Nat.le_of_ble_eq_true rfl, Nat.le_of_ble_eq_true rfl⟩ dL_refused_119 (fun H locs hP hD hS => ?_)
  refine lv_sipush (v := (-2001)) hx hb dL_refused_122 (by decide) ?_
  refine lv_icmp_ne (tgt := 254) hx hb dL_refused_125 (by decide) (fun q9 => absurd q9 (by decide)) (fun _ => ?_)
  refine lv_aload_n hx hb dL_refused_128 rfl (lv_at hl 0 rfl) ?_
  refine lv_iload hx hb dL_refused_129 (lv_at hl 4 rfl) ?_
  refine lv_iconst (v := 0) hx hb dL_refused_131 (by decide) ?_
  refine lv_iconst (v := (-1)) hx hb dL_refused_132 (by decide) ?_
  refine zcw0 (klx0_L_finding l N g j q K (iI (S.1 : Int)) 0 (-1) ((d_eventAt (N := N) hN2 hZ (a := (S.1 : Int)) (b := 0) (t := (-1)) (zIn_ S.1 (by omega)) (by unfold zInt; omega) (by unfold zInt; omega) (ea := rfl) (eb := (by decide)) (et := (by decide))).trans (by rw [if_neg (by omega)])) hfl) F hN hJ zyl_L_finding zw_840 ⟨by decide, by decide⟩ (n := 4) (by decide +kernel) zw_860 hP hD hS rfl hl.1 (rest := []) rfl (Nat.le_of_ble_eq_true rfl) ⟨rfl, rfl⟩ ⟨Nat.le_of_ble_eq_true rfl, Nat.le_of_ble_eq_true rfl⟩ ⟨Nat.le_of_ble_eq_true rfl, Nat.le_of_ble_eq_true rfl⟩ dL_refused_133 (fun H locs hP hD hS => ?_)
  refine lv_iconst (v := (-1)) hx hb dL_refused_136 (by decide) ?_
  refine lv_icmp_ne (tgt := 254) hx hb dL_refused_137 (by decide) (fun q9 => absurd q9 (by decide)) (fun _ => ?_)
  refine lv_aload_n hx hb dL_refused_140 rfl (lv_at hl 0 rfl) ?_
  refine lv_iload hx hb dL_refused_141 (lv_at hl 4 rfl) ?_
  refine zcw0 (klx0_L_crossing l N g j q K (iI (S.1 : Int)) ((d_crossings (N := N) hN2 hZ (a := (S.1 : Int)) (zIn_ S.1 (by omega)) (ea := rfl)).trans (by rw [if_neg (by omega)])) hfl) F hN hJ zyl_L_crossing zw_840 ⟨by decide, by decide⟩ (n := 2) (by decide +kernel) zw_863 hP hD hS rfl hl.1 (rest := []) rfl (Nat.le_of_ble_eq_true rfl) ⟨rfl, rfl⟩ ⟨Nat.le_of_ble_eq_true rfl, Nat.le_of_ble_eq_true rfl⟩ ⟨Nat.le_of_ble_eq_true rfl, Nat.le_of_ble_eq_true rfl⟩ dL_refused_143 (fun H locs hP hD hS => ?_)
  refine lv_iconst (v := (-1)) hx hb dL_refused_146 (by decide) ?_
  refine lv_icmp_ne (tgt := 254) hx hb dL_refused_147 (by decide) (fun q9 => absurd q9 (by decide)) (fun _ => ?_)
  refine lv_aload_n hx hb dL_refused_150 rfl (lv_at hl 0 rfl) ?_
  refine lv_iload hx hb dL_refused_151 (lv_at hl 4 rfl) ?_
  refine zcw0 (klx0_L_playing l N g j q K (iI (S.1 : Int)) ((d_timesPlayed (N := N) hN2 hZ (a := (S.1 : Int)) (zIn_ S.1 (by omega)) (ea := rfl)).trans (by rw [if_neg (by omega)])) hfl) F hN hJ zyl_L_playing zw_840 ⟨by decide, by decide⟩ (n := 2) (by decide +kernel) zw_866 hP hD hS rfl hl.1 (rest := []) rfl (Nat.le_of_ble_eq_true rfl) ⟨rfl, rfl⟩ ⟨Nat.le_of_ble_eq_true rfl, Nat.le_of_ble_eq_true rfl⟩ ⟨Nat.le_of_ble_eq_true rfl, Nat.le_of_ble_eq_true rfl⟩ dL_refused_153 (fun H locs hP hD hS => ?_)
  refine lv_iconst (v := (-1)) hx hb dL_refused_156 (by decide) ?_
  refine lv_icmp_ne (tgt := 254) hx hb dL_refused_157 (by decide) (fun q9 => absurd q9 (by decide)) (fun _ => ?_)
  refine lv_aload_n hx hb dL_refused_160 rfl (lv_at hl 0 rfl) ?_
  refine lv_iload hx hb dL_refused_161 (lv_at hl 4 rfl) ?_
  refine zcw0 (klx0_L_sizing l N g j q K (iI (S.1 : Int)) (dx_sentenceLength (N := N) hZ (a := (S.1 : Int)) (zIn_ S.1 (by omega)) (by omega) (ea := rfl)) hfl) F hN hJ zyl_L_sizing zw_840 ⟨by decide, by decide⟩ (n := 2) (by decide +kernel) zw_869 hP hD hS rfl hl.1 (rest := []) rfl (Nat.le_of_ble_eq_true rfl) ⟨rfl, rfl⟩ ⟨Nat.le_of_ble_eq_true rfl, Nat.le_of_ble_eq_true rfl⟩ ⟨Nat.le_of_ble_eq_true rfl, Nat.le_of_ble_eq_true rfl⟩ dL_refused_163 (fun H locs hP hD hS => ?_)
  refine lv_iconst (v := (-1)) hx hb dL_refused_166 (by decide) ?_
  refine lv_icmp_ne (tgt := 254) hx hb dL_refused_167 (by decide) (fun q9 => absurd q9 (by decide)) (fun _ => ?_)
  refine lv_aload_n hx hb dL_refused_170 rfl (lv_at hl 0 rfl) ?_
  refine lv_iload hx hb dL_refused_171 (lv_at hl 4 rfl) ?_
  refine lv_iconst (v := (-1)) hx hb dL_refused_173 (by decide) ?_
  refine zcw0 (klx0_L_spelling l N g j q K (iI (S.1 : Int)) (-1) (dx_sentenceByte (N := N) hZ (a := (S.1 : Int)) (b := (-1)) (zIn_ S.1 (by omega)) (by omega) (ea := rfl) (eb := (by decide))) hfl) F hN hJ zyl_L_spelling zw_840 ⟨by decide, by decide⟩ (n := 3) (by decide +kernel) zw_872 hP hD hS rfl hl.1 (rest := []) rfl (Nat.le_of_ble_eq_true rfl) ⟨rfl, rfl⟩ ⟨Nat.le_of_ble_eq_true rfl, Nat.le_of_ble_eq_true rfl⟩ ⟨Nat.le_of_ble_eq_true rfl, Nat.le_of_ble_eq_true rfl⟩ dL_refused_174 (fun H locs hP hD hS => ?_)
  refine lv_iconst (v := (-1)) hx hb dL_refused_177 (by decide) ?_
  refine lv_icmp_ne (tgt := 254) hx hb dL_refused_178 (by decide) (fun q9 => absurd q9 (by decide)) (fun _ => ?_)
  refine lv_aload_n hx hb dL_refused_181 rfl (lv_at hl 0 rfl) ?_
  refine lv_iload hx hb dL_refused_182 (lv_at hl 4 rfl) ?_
  refine zcw0 (klx0_L_wording l N g j q K (iI (S.1 : Int)) (dx_words (N := N) hZ (a := (S.1 : Int)) (zIn_ S.1 (by omega)) (by omega) (ea := rfl)) hfl) F hN hJ zyl_L_wording zw_840 ⟨by decide, by decide⟩ (n := 2) (by decide +kernel) zw_875 hP hD hS rfl hl.1 (rest := []) rfl (Nat.le_of_ble_eq_true rfl) ⟨rfl, rfl⟩ ⟨Nat.le_of_ble_eq_true rfl, Nat.le_of_ble_eq_true rfl⟩ ⟨Nat.le_of_ble_eq_true rfl, Nat.le_of_ble_eq_true rfl⟩ dL_refused_184 (fun H locs hP hD hS => ?_)
  refine lv_iconst (v := (-1)) hx hb dL_refused_187 (by decide) ?_
  refine lv_icmp_ne (tgt := 254) hx hb dL_refused_188 (by decide) (fun q9 => absurd q9 (by decide)) (fun _ => ?_)
  exact kk _ _ _ _ hZ hP hD hS (lv_sub hl [0, 1, 2, 3, 4] rfl)
set_option maxHeartbeats 8000000 in
set_option maxRecDepth 100000 in
theorem rf_02 (hN2 : 20000 ≤ N) (hfl : l.stackTraces = false) (F : zF p m c cL_refused 6 s args RL g A) (hN : zN s) (hJ : va_K (zD g) vwCl (zJT j) s) (hZ : zC S hs L T K) (hP : va_P (zD g) vwCl (zcW g q K) H) (hD : va_D A (zcW g q K)) (hS : va_S A s.heap H locs) (hl : lv_has ls 6 [(0, .ref (q 0)), (1, .long (mxD S hs.length L T)), (3, .int (iI (S.1 : Int))), (4, .int 0), (5, .int (iI (S.1 : Int)))]) 
    (kk : ∀ (K : zKT) (H : Heap) (locs : List Loc) (ls : Array Slot), zC S hs L T K → va_P (zD g) vwCl (zcW g q K) H → va_D A (zcW g q K) → va_S A s.heap H locs → lv_has ls 6 [(0, .ref (q 0)), (1, .long (mxD S hs.length L T)), (3, .int (iI (S.1 : Int))), (4, .int 0), (5, .int (iI (S.1 : Int)))] → W p l e rm_L_refused s m args below meth c H locs 19 114 Q (F0 m 256 ls [])) : W p l e rm_L_refused s m args below meth c H locs 13 78 Q (F0 m 191 ls []) := by
  have hx := F.1.1
  have hb := F.1.2.1
  have hz := F.1.2.2.2.2
  obtain ⟨z1, z2, z3, z4, z5⟩ := zC_ok hZ
  have z6 := z1.1.1
  have hc0 : 0 < S.1 → S.2.2.1 0 0 ≤ 24 ∧ S.2.2.1 0 1 ≤ 24 := fun h => ⟨((z1.1.2 0 h).2 0 (by omega)).1, ((z1.1.2 0 h).2 1 (by omega)).1⟩
  refine lv_aload_n hx hb dL_refused_191 rfl (lv_at hl 0 rfl) ?_
  refine lv_iload hx hb dL_refused_192 (lv_at hl 4 rfl) ?_
  obtain ⟨r1, h2, e3, hZ4⟩ := dx_copySentence (N := N) hZ (a := (S.1 : Int)) (zIn_ S.1 (by omega)) (by omega) (ea := rfl)
  refine zcw0 (klx0_L_copying l N g j q K (iI (S.1 : Int)) r1 h2 hfl e3) F hN hJ zyl_L_copying zw_840 ⟨by decide, by decide⟩ (n := 2) (by decide +kernel) zw_878 hP hD hS rfl hl.1 (rest := []) rfl (Nat.le_of_ble_eq_true rfl) ⟨rfl, rfl⟩ ⟨Nat.le_of_ble_eq_true rfl, Nat.le_of_ble_eq_true rfl⟩ ⟨Nat.le_of_ble_eq_true rfl, Nat.le_of_ble_eq_true rfl⟩ dL_refused_194 (fun H locs hP hD hS => ?_)
  refine lv_iconst (v := (-1)) hx hb dL_refused_197 (by decide) ?_
  refine lv_icmp_ne (tgt := 254) hx hb dL_refused_198 (by decide) (fun q9 => absurd q9 (by decide)) (fun _ => ?_)
  refine lv_aload_n hx hb dL_refused_201 rfl (lv_at hl 0 rfl) ?_
  refine lv_iload hx hb dL_refused_202 (lv_at hl 4 rfl) ?_
  refine zcw0 (klx0_L_reading l N g j q (k2_copySentence K r1) (iI (S.1 : Int)) (dx_readInto (N := N) hZ4 (a := (S.1 : Int)) (zIn_ S.1 (by omega)) (by omega) (ea := rfl)) hfl) F hN hJ zyl_L_reading zw_840 ⟨by decide, by decide⟩ (n := 2) (by decide +kernel) zw_881 hP hD hS rfl hl.1 (rest := []) rfl (Nat.le_of_ble_eq_true rfl) ⟨rfl, rfl⟩ ⟨Nat.le_of_ble_eq_true rfl, Nat.le_of_ble_eq_true rfl⟩ ⟨Nat.le_of_ble_eq_true rfl, Nat.le_of_ble_eq_true rfl⟩ dL_refused_204 (fun H locs hP hD hS => ?_)
  refine lv_iconst (v := (-1)) hx hb dL_refused_207 (by decide) ?_
  refine lv_icmp_ne (tgt := 254) hx hb dL_refused_208 (by decide) (fun q9 => absurd q9 (by decide)) (fun _ => ?_)
  refine lv_aload_n hx hb dL_refused_211 rfl (lv_at hl 0 rfl) ?_
  refine lv_iload hx hb dL_refused_212 (lv_at hl 4 rfl) ?_
  refine zcw0 (klx0_L_telling l N g j q (k2_copySentence K r1) (iI (S.1 : Int)) (dx_tells (N := N) hZ4 (a := (S.1 : Int)) (zIn_ S.1 (by omega)) (by omega) (ea := rfl)) hfl) F hN hJ zyl_L_telling zw_840 ⟨by decide, by decide⟩ (n := 2) (by decide +kernel) zw_884 hP hD hS rfl hl.1 (rest := []) rfl (Nat.le_of_ble_eq_true rfl) ⟨rfl, rfl⟩ ⟨Nat.le_of_ble_eq_true rfl, Nat.le_of_ble_eq_true rfl⟩ ⟨Nat.le_of_ble_eq_true rfl, Nat.le_of_ble_eq_true rfl⟩ dL_refused_214 (fun H locs hP hD hS => ?_)
  refine lv_iconst (v := (-1)) hx hb dL_refused_217 (by decide) ?_
  refine lv_icmp_ne (tgt := 254) hx hb dL_refused_218 (by decide) (fun q9 => absurd q9 (by decide)) (fun _ => ?_)
  refine lv_aload_n hx hb dL_refused_221 rfl (lv_at hl 0 rfl) ?_
  refine lv_iload hx hb dL_refused_222 (lv_at hl 4 rfl) ?_
  refine lv_bipush (v := 8) hx hb dL_refused_224 (by decide) ?_
  refine zcw0 (klx0_L_changing l N g j q (k2_copySentence K r1) (iI (S.1 : Int)) 8 ((d_changedBy (N := N) hN2 hZ4 (a := (S.1 : Int)) (b := 8) (zIn_ S.1 (by omega)) (by unfold zInt; omega) (ea := rfl) (eb := (by decide))).trans (by rw [if_neg (by omega)])) hfl) F hN hJ zyl_L_changing zw_840 ⟨by decide, by decide⟩ (n := 3) (by decide +kernel) zw_887 hP hD hS rfl hl.1 (rest := []) rfl (Nat.le_of_ble_eq_true rfl) ⟨rfl, rfl⟩ ⟨Nat.le_of_ble_eq_true rfl, Nat.le_of_ble_eq_true rfl⟩ ⟨Nat.le_of_ble_eq_true rfl, Nat.le_of_ble_eq_true rfl⟩ dL_refused_226 (fun H locs hP hD hS => ?_)
  refine lv_iconst (v := (-1)) hx hb dL_refused_229 (by decide) ?_
  refine lv_icmp_ne (tgt := 254) hx hb dL_refused_230 (by decide) (fun q9 => absurd q9 (by decide)) (fun _ => ?_)
  refine lv_aload_n hx hb dL_refused_233 rfl (lv_at hl 0 rfl) ?_
  refine lv_iload hx hb dL_refused_234 (lv_at hl 4 rfl) ?_
  refine zcw0 (klx0_L_nearing l N g j q (k2_copySentence K r1) (iI (S.1 : Int)) ((d_nearestKey (N := N) hN2 hZ4 (a := (S.1 : Int)) (zIn_ S.1 (by omega)) (ea := rfl)).trans (by rw [if_neg (by omega)])) hfl) F hN hJ zyl_L_nearing zw_840 ⟨by decide, by decide⟩ (n := 2) (by decide +kernel) zw_890 hP hD hS rfl hl.1 (rest := []) rfl (Nat.le_of_ble_eq_true rfl) ⟨rfl, rfl⟩ ⟨Nat.le_of_ble_eq_true rfl, Nat.le_of_ble_eq_true rfl⟩ ⟨Nat.le_of_ble_eq_true rfl, Nat.le_of_ble_eq_true rfl⟩ dL_refused_236 (fun H locs hP hD hS => ?_)
  refine lv_bipush (v := (-100)) hx hb dL_refused_239 (by decide) ?_
  refine lv_icmp_ne (tgt := 254) hx hb dL_refused_241 (by decide) (fun q9 => absurd q9 (by decide)) (fun _ => ?_)
  refine lv_aload_n hx hb dL_refused_244 rfl (lv_at hl 0 rfl) ?_
  refine lv_iload hx hb dL_refused_245 (lv_at hl 4 rfl) ?_
  refine zcw0 (klx0_L_sparing l N g j q (k2_copySentence K r1) (iI (S.1 : Int)) ((d_needlessSigns (N := N) hN2 hZ4 (a := (S.1 : Int)) (zIn_ S.1 (by omega)) (ea := rfl)).trans (by rw [if_neg (by omega)])) hfl) F hN hJ zyl_L_sparing zw_840 ⟨by decide, by decide⟩ (n := 2) (by decide +kernel) zw_893 hP hD hS rfl hl.1 (rest := []) rfl (Nat.le_of_ble_eq_true rfl) ⟨rfl, rfl⟩ ⟨Nat.le_of_ble_eq_true rfl, Nat.le_of_ble_eq_true rfl⟩ ⟨Nat.le_of_ble_eq_true rfl, Nat.le_of_ble_eq_true rfl⟩ dL_refused_247 (fun H locs hP hD hS => ?_)
  refine lv_iconst (v := (-1)) hx hb dL_refused_250 (by decide) ?_
  refine lv_icmp_eq (tgt := 256) hx hb dL_refused_251 (by decide) (fun _ => ?_) (fun q9 => absurd q9 (by decide))
  exact kk _ _ _ _ hZ4 hP hD hS (lv_sub hl [0, 1, 2, 3, 4] rfl)
set_option maxHeartbeats 8000000 in
set_option maxRecDepth 100000 in
theorem rf_10 (hN2 : 20000 ≤ N) (hfl : l.stackTraces = false) (F : zF p m c cL_refused 6 s args RL g A) (hN : zN s) (hJ : va_K (zD g) vwCl (zJT j) s) (hZ : zC S hs L T K) (hP : va_P (zD g) vwCl (zcW g q K) H) (hD : va_D A (zcW g q K)) (hS : va_S A s.heap H locs) (hl : lv_has ls 6 [(0, .ref (q 0)), (1, .long (mxD S hs.length L T)), (3, .int (iI (S.1 : Int))), (4, .int 1), (5, .int (-1))]) 
    (kk : ∀ (K : zKT) (H : Heap) (locs : List Loc) (ls : Array Slot), zC S hs L T K → va_P (zD g) vwCl (zcW g q K) H → va_D A (zcW g q K) → va_S A s.heap H locs → lv_has ls 6 [(0, .ref (q 0)), (1, .long (mxD S hs.length L T)), (3, .int (iI (S.1 : Int))), (4, .int 1), (5, .int (-1))] → W p l e rm_L_refused s m args below meth c H locs 25 150 Q (F0 m 112 ls [])) : W p l e rm_L_refused s m args below meth c H locs 19 114 Q (F0 m 32 ls []) := by
  have hx := F.1.1
  have hb := F.1.2.1
  have hz := F.1.2.2.2.2
  obtain ⟨z1, z2, z3, z4, z5⟩ := zC_ok hZ
  have z6 := z1.1.1
  have hc0 : 0 < S.1 → S.2.2.1 0 0 ≤ 24 ∧ S.2.2.1 0 1 ≤ 24 := fun h => ⟨((z1.1.2 0 h).2 0 (by omega)).1, ((z1.1.2 0 h).2 1 (by omega)).1⟩
  refine lv_aload_n hx hb dL_refused_32 rfl (lv_at hl 0 rfl) ?_
  refine lv_iload hx hb dL_refused_33 (lv_at hl 4 rfl) ?_
  refine zcw0 (klx0_L_removing l N g j q K (-1) (dx_removeMeasure (N := N) hZ (a := (-1)) (by unfold zInt; omega) (by omega) (ea := (by decide))) hfl) F hN hJ zyl_L_removing zw_840 ⟨by decide, by decide⟩ (n := 2) (by decide +kernel) zw_838 hP hD hS rfl hl.1 (rest := []) rfl (Nat.le_of_ble_eq_true rfl) ⟨rfl, rfl⟩ ⟨Nat.le_of_ble_eq_true rfl, Nat.le_of_ble_eq_true rfl⟩ ⟨Nat.le_of_ble_eq_true rfl, Nat.le_of_ble_eq_true rfl⟩ dL_refused_35 (fun H locs hP hD hS => ?_)
  refine lv_iconst (v := (-1)) hx hb dL_refused_38 (by decide) ?_
  refine lv_icmp_ne (tgt := 254) hx hb dL_refused_39 (by decide) (fun q9 => absurd q9 (by decide)) (fun _ => ?_)
  refine lv_aload_n hx hb dL_refused_42 rfl (lv_at hl 0 rfl) ?_
  refine lv_iload hx hb dL_refused_43 (lv_at hl 4 rfl) ?_
  refine lv_bipush (v := 9) hx hb dL_refused_45 (by decide) ?_
  refine lv_bipush (v := 99) hx hb dL_refused_47 (by decide) ?_
  refine zcw0 (klx0_L_setting l N g j q K (-1) 9 99 (dx_set (N := N) hZ (a := (-1)) (b := 9) (c := 99) (by unfold zInt; omega) (by omega) (ea := (by decide)) (eb := (by decide)) (ec := (by decide))) hfl) F hN hJ zyl_L_setting zw_840 ⟨by decide, by decide⟩ (n := 4) (by decide +kernel) zw_842 hP hD hS rfl hl.1 (rest := []) rfl (Nat.le_of_ble_eq_true rfl) ⟨rfl, rfl⟩ ⟨Nat.le_of_ble_eq_true rfl, Nat.le_of_ble_eq_true rfl⟩ ⟨Nat.le_of_ble_eq_true rfl, Nat.le_of_ble_eq_true rfl⟩ dL_refused_49 (fun H locs hP hD hS => ?_)
  refine lv_sipush (v := (-2001)) hx hb dL_refused_52 (by decide) ?_
  refine lv_icmp_ne (tgt := 254) hx hb dL_refused_55 (by decide) (fun q9 => absurd q9 (by decide)) (fun _ => ?_)
  refine lv_aload_n hx hb dL_refused_58 rfl (lv_at hl 0 rfl) ?_
  refine lv_iload hx hb dL_refused_59 (lv_at hl 4 rfl) ?_
  refine lv_iconst (v := 0) hx hb dL_refused_61 (by decide) ?_
  refine lv_bipush (v := 63) hx hb dL_refused_62 (by decide) ?_
  refine lv_iconst (v := 0) hx hb dL_refused_64 (by decide) ?_
  refine lv_iconst (v := 0) hx hb dL_refused_65 (by decide) ?_
  refine zcw0 (klx0_L_noting l N g j q K (-1) 0 63 0 0 (dx_addNote0 (N := N) hZ (a := (-1)) (b := 0) (c := 63) (d := 0) (w := 0) (by unfold zInt; omega) (by unfold zInt; omega) (by omega) (ea := (by decide)) (eb := (by decide)) (ec := (by decide)) (ed := (by decide)) (ew := (by decide))) hfl) F hN hJ zyl_L_noting zw_840 ⟨by decide, by decide⟩ (n := 6) (by decide +kernel) zw_845 hP hD hS rfl hl.1 (rest := []) rfl (Nat.le_of_ble_eq_true rfl) ⟨rfl, rfl⟩ ⟨Nat.le_of_ble_eq_true rfl, Nat.le_of_ble_eq_true rfl⟩ ⟨Nat.le_of_ble_eq_true rfl, Nat.le_of_ble_eq_true rfl⟩ dL_refused_66 (fun H locs hP hD hS => ?_)
  refine lv_iconst (v := (-1)) hx hb dL_refused_69 (by decide) ?_
  refine lv_icmp_ne (tgt := 254) hx hb dL_refused_70 (by decide) (fun q9 => absurd q9 (by decide)) (fun _ => ?_)
  refine lv_aload_n hx hb dL_refused_73 rfl (lv_at hl 0 rfl) ?_
  refine lv_iload hx hb dL_refused_74 (lv_at hl 4 rfl) ?_
  refine lv_iconst (v := 2) hx hb dL_refused_76 (by decide) ?_
  refine lv_bipush (v := 10) hx hb dL_refused_77 (by decide) ?_
  refine zcw0 (klx0_L_resting l N g j q K (-1) 2 10 (dx_addRest0 (N := N) hZ (a := (-1)) (b := 2) (c := 10) (by unfold zInt; omega) (by unfold zInt; omega) (by omega) (ea := (by decide)) (eb := (by decide)) (ec := (by decide))) hfl) F hN hJ zyl_L_resting zw_840 ⟨by decide, by decide⟩ (n := 4) (by decide +kernel) zw_848 hP hD hS rfl hl.1 (rest := []) rfl (Nat.le_of_ble_eq_true rfl) ⟨rfl, rfl⟩ ⟨Nat.le_of_ble_eq_true rfl, Nat.le_of_ble_eq_true rfl⟩ ⟨Nat.le_of_ble_eq_true rfl, Nat.le_of_ble_eq_true rfl⟩ dL_refused_79 (fun H locs hP hD hS => ?_)
  refine lv_iconst (v := (-1)) hx hb dL_refused_82 (by decide) ?_
  refine lv_icmp_ne (tgt := 254) hx hb dL_refused_83 (by decide) (fun q9 => absurd q9 (by decide)) (fun _ => ?_)
  refine lv_aload_n hx hb dL_refused_86 rfl (lv_at hl 0 rfl) ?_
  refine lv_iload hx hb dL_refused_87 (lv_at hl 4 rfl) ?_
  refine lv_iconst (v := 0) hx hb dL_refused_89 (by decide) ?_
  refine lv_iconst (v := 0) hx hb dL_refused_90 (by decide) ?_
  refine zcw0 (klx0_L_dropping l N g j q K (-1) 0 0 (dx_removeEvent (N := N) hZ (a := (-1)) (b := 0) (c := 0) (by unfold zInt; omega) (by unfold zInt; omega) (by unfold zInt; omega) (by rw [gC_out (by omega)]; omega) (ea := (by decide)) (eb := (by decide)) (ec := (by decide))) hfl) F hN hJ zyl_L_dropping zw_840 ⟨by decide, by decide⟩ (n := 4) (by decide +kernel) zw_851 hP hD hS rfl hl.1 (rest := []) rfl (Nat.le_of_ble_eq_true rfl) ⟨rfl, rfl⟩ ⟨Nat.le_of_ble_eq_true rfl, Nat.le_of_ble_eq_true rfl⟩ ⟨Nat.le_of_ble_eq_true rfl, Nat.le_of_ble_eq_true rfl⟩ dL_refused_91 (fun H locs hP hD hS => ?_)
  refine lv_iconst (v := (-1)) hx hb dL_refused_94 (by decide) ?_
  refine lv_icmp_ne (tgt := 254) hx hb dL_refused_95 (by decide) (fun q9 => absurd q9 (by decide)) (fun _ => ?_)
  refine lv_aload_n hx hb dL_refused_98 rfl (lv_at hl 0 rfl) ?_
  refine lv_iload hx hb dL_refused_99 (lv_at hl 4 rfl) ?_
  refine lv_bipush (v := 12) hx hb dL_refused_101 (by decide) ?_
  refine zcw0 (klx0_L_measuring l N g j q K (-1) 12 ((d_measure (N := N) hN2 hZ (a := (-1)) (b := 12) (by unfold zInt; omega) (by unfold zInt; omega) (ea := (by decide)) (eb := (by decide))).trans (by rw [if_neg (by omega)])) hfl) F hN hJ zyl_L_measuring zw_840 ⟨by decide, by decide⟩ (n := 3) (by decide +kernel) zw_854 hP hD hS rfl hl.1 (rest := []) rfl (Nat.le_of_ble_eq_true rfl) ⟨rfl, rfl⟩ ⟨Nat.le_of_ble_eq_true rfl, Nat.le_of_ble_eq_true rfl⟩ ⟨Nat.le_of_ble_eq_true rfl, Nat.le_of_ble_eq_true rfl⟩ dL_refused_103 (fun H locs hP hD hS => ?_)
  refine lv_sipush (v := (-2001)) hx hb dL_refused_106 (by decide) ?_
  refine lv_icmp_ne (tgt := 254) hx hb dL_refused_109 (by decide) (fun q9 => absurd q9 (by decide)) (fun _ => ?_)
  exact kk _ _ _ _ hZ hP hD hS (lv_sub hl [0, 1, 2, 3, 4] rfl)
set_option maxHeartbeats 8000000 in
set_option maxRecDepth 100000 in
theorem rf_11 (hN2 : 20000 ≤ N) (hfl : l.stackTraces = false) (F : zF p m c cL_refused 6 s args RL g A) (hN : zN s) (hJ : va_K (zD g) vwCl (zJT j) s) (hZ : zC S hs L T K) (hP : va_P (zD g) vwCl (zcW g q K) H) (hD : va_D A (zcW g q K)) (hS : va_S A s.heap H locs) (hl : lv_has ls 6 [(0, .ref (q 0)), (1, .long (mxD S hs.length L T)), (3, .int (iI (S.1 : Int))), (4, .int 1), (5, .int (-1))]) 
    (kk : ∀ (K : zKT) (H : Heap) (locs : List Loc) (ls : Array Slot), zC S hs L T K → va_P (zD g) vwCl (zcW g q K) H → va_D A (zcW g q K) → va_S A s.heap H locs → lv_has ls 6 [(0, .ref (q 0)), (1, .long (mxD S hs.length L T)), (3, .int (iI (S.1 : Int))), (4, .int 1), (5, .int (-1))] → W p l e rm_L_refused s m args below meth c H locs 32 192 Q (F0 m 191 ls [])) : W p l e rm_L_refused s m args below meth c H locs 25 150 Q (F0 m 112 ls []) := by
  have hx := F.1.1
  have hb := F.1.2.1
  have hz := F.1.2.2.2.2
  obtain ⟨z1, z2, z3, z4, z5⟩ := zC_ok hZ
  have z6 := z1.1.1
  have hc0 : 0 < S.1 → S.2.2.1 0 0 ≤ 24 ∧ S.2.2.1 0 1 ≤ 24 := fun h => ⟨((z1.1.2 0 h).2 0 (by omega)).1, ((z1.1.2 0 h).2 1 (by omega)).1⟩
  refine lv_aload_n hx hb dL_refused_112 rfl (lv_at hl 0 rfl) ?_
  refine lv_iload hx hb dL_refused_113 (lv_at hl 4 rfl) ?_
  refine lv_iconst (v := 0) hx hb dL_refused_115 (by decide) ?_
  refine lv_iconst (v := 0) hx hb dL_refused_116 (by decide) ?_
  refine lv_bipush (v := 10) hx hb dL_refused_117 (by decide) ?_
  refine zcw0 (klx0_L_asking l N g j q K (-1) 0 0 10 ((d_event (N := N) hN2 hZ (a := (-1)) (b := 0) (c := 0) (w := 10) (by unfold zInt; omega) (by unfold zInt; omega) (by unfold zInt; omega) (by unfold zInt; omega) (ea := (by decide)) (eb := (by decide)) (ec := (by decide)) (ew := (by decide))).trans (by rw [if_neg (by rw [gC_out (by omega)]; omega)])) hfl) F hN hJ zyl_L_asking zw_840 ⟨by decide, by decide⟩ (n := 5) (by decide +kernel) zw_857 hP hD hS rfl hl.1 (rest := []) rfl (Nat.le_of_ble_eq_true rfl) ⟨rfl, rfl⟩ ⟨Nat.le_of_ble_eq_true rfl, Nat.le_of_ble_eq_true rfl⟩ ⟨Nat.le_of_ble_eq_true rfl, Nat.le_of_ble_eq_true rfl⟩ dL_refused_119 (fun H locs hP hD hS => ?_)
  refine lv_sipush (v := (-2001)) hx hb dL_refused_122 (by decide) ?_
  refine lv_icmp_ne (tgt := 254) hx hb dL_refused_125 (by decide) (fun q9 => absurd q9 (by decide)) (fun _ => ?_)
  refine lv_aload_n hx hb dL_refused_128 rfl (lv_at hl 0 rfl) ?_
  refine lv_iload hx hb dL_refused_129 (lv_at hl 4 rfl) ?_
  refine lv_iconst (v := 0) hx hb dL_refused_131 (by decide) ?_
  refine lv_iconst (v := (-1)) hx hb dL_refused_132 (by decide) ?_
  refine zcw0 (klx0_L_finding l N g j q K (-1) 0 (-1) ((d_eventAt (N := N) hN2 hZ (a := (-1)) (b := 0) (t := (-1)) (by unfold zInt; omega) (by unfold zInt; omega) (by unfold zInt; omega) (ea := (by decide)) (eb := (by decide)) (et := (by decide))).trans (by rw [if_neg (by omega)])) hfl) F hN hJ zyl_L_finding zw_840 ⟨by decide, by decide⟩ (n := 4) (by decide +kernel) zw_860 hP hD hS rfl hl.1 (rest := []) rfl (Nat.le_of_ble_eq_true rfl) ⟨rfl, rfl⟩ ⟨Nat.le_of_ble_eq_true rfl, Nat.le_of_ble_eq_true rfl⟩ ⟨Nat.le_of_ble_eq_true rfl, Nat.le_of_ble_eq_true rfl⟩ dL_refused_133 (fun H locs hP hD hS => ?_)
  refine lv_iconst (v := (-1)) hx hb dL_refused_136 (by decide) ?_
  refine lv_icmp_ne (tgt := 254) hx hb dL_refused_137 (by decide) (fun q9 => absurd q9 (by decide)) (fun _ => ?_)
  refine lv_aload_n hx hb dL_refused_140 rfl (lv_at hl 0 rfl) ?_
  refine lv_iload hx hb dL_refused_141 (lv_at hl 4 rfl) ?_
  refine zcw0 (klx0_L_crossing l N g j q K (-1) ((d_crossings (N := N) hN2 hZ (a := (-1)) (by unfold zInt; omega) (ea := (by decide))).trans (by rw [if_neg (by omega)])) hfl) F hN hJ zyl_L_crossing zw_840 ⟨by decide, by decide⟩ (n := 2) (by decide +kernel) zw_863 hP hD hS rfl hl.1 (rest := []) rfl (Nat.le_of_ble_eq_true rfl) ⟨rfl, rfl⟩ ⟨Nat.le_of_ble_eq_true rfl, Nat.le_of_ble_eq_true rfl⟩ ⟨Nat.le_of_ble_eq_true rfl, Nat.le_of_ble_eq_true rfl⟩ dL_refused_143 (fun H locs hP hD hS => ?_)
  refine lv_iconst (v := (-1)) hx hb dL_refused_146 (by decide) ?_
  refine lv_icmp_ne (tgt := 254) hx hb dL_refused_147 (by decide) (fun q9 => absurd q9 (by decide)) (fun _ => ?_)
  refine lv_aload_n hx hb dL_refused_150 rfl (lv_at hl 0 rfl) ?_
  refine lv_iload hx hb dL_refused_151 (lv_at hl 4 rfl) ?_
  refine zcw0 (klx0_L_playing l N g j q K (-1) ((d_timesPlayed (N := N) hN2 hZ (a := (-1)) (by unfold zInt; omega) (ea := (by decide))).trans (by rw [if_neg (by omega)])) hfl) F hN hJ zyl_L_playing zw_840 ⟨by decide, by decide⟩ (n := 2) (by decide +kernel) zw_866 hP hD hS rfl hl.1 (rest := []) rfl (Nat.le_of_ble_eq_true rfl) ⟨rfl, rfl⟩ ⟨Nat.le_of_ble_eq_true rfl, Nat.le_of_ble_eq_true rfl⟩ ⟨Nat.le_of_ble_eq_true rfl, Nat.le_of_ble_eq_true rfl⟩ dL_refused_153 (fun H locs hP hD hS => ?_)
  refine lv_iconst (v := (-1)) hx hb dL_refused_156 (by decide) ?_
  refine lv_icmp_ne (tgt := 254) hx hb dL_refused_157 (by decide) (fun q9 => absurd q9 (by decide)) (fun _ => ?_)
  refine lv_aload_n hx hb dL_refused_160 rfl (lv_at hl 0 rfl) ?_
  refine lv_iload hx hb dL_refused_161 (lv_at hl 4 rfl) ?_
  refine zcw0 (klx0_L_sizing l N g j q K (-1) (dx_sentenceLength (N := N) hZ (a := (-1)) (by unfold zInt; omega) (by omega) (ea := (by decide))) hfl) F hN hJ zyl_L_sizing zw_840 ⟨by decide, by decide⟩ (n := 2) (by decide +kernel) zw_869 hP hD hS rfl hl.1 (rest := []) rfl (Nat.le_of_ble_eq_true rfl) ⟨rfl, rfl⟩ ⟨Nat.le_of_ble_eq_true rfl, Nat.le_of_ble_eq_true rfl⟩ ⟨Nat.le_of_ble_eq_true rfl, Nat.le_of_ble_eq_true rfl⟩ dL_refused_163 (fun H locs hP hD hS => ?_)
  refine lv_iconst (v := (-1)) hx hb dL_refused_166 (by decide) ?_
  refine lv_icmp_ne (tgt := 254) hx hb dL_refused_167 (by decide) (fun q9 => absurd q9 (by decide)) (fun _ => ?_)
  refine lv_aload_n hx hb dL_refused_170 rfl (lv_at hl 0 rfl) ?_
  refine lv_iload hx hb dL_refused_171 (lv_at hl 4 rfl) ?_
  refine lv_iconst (v := (-1)) hx hb dL_refused_173 (by decide) ?_
  refine zcw0 (klx0_L_spelling l N g j q K (-1) (-1) (dx_sentenceByte (N := N) hZ (a := (-1)) (b := (-1)) (by unfold zInt; omega) (by omega) (ea := (by decide)) (eb := (by decide))) hfl) F hN hJ zyl_L_spelling zw_840 ⟨by decide, by decide⟩ (n := 3) (by decide +kernel) zw_872 hP hD hS rfl hl.1 (rest := []) rfl (Nat.le_of_ble_eq_true rfl) ⟨rfl, rfl⟩ ⟨Nat.le_of_ble_eq_true rfl, Nat.le_of_ble_eq_true rfl⟩ ⟨Nat.le_of_ble_eq_true rfl, Nat.le_of_ble_eq_true rfl⟩ dL_refused_174 (fun H locs hP hD hS => ?_)
  refine lv_iconst (v := (-1)) hx hb dL_refused_177 (by decide) ?_
  refine lv_icmp_ne (tgt := 254) hx hb dL_refused_178 (by decide) (fun q9 => absurd q9 (by decide)) (fun _ => ?_)
  refine lv_aload_n hx hb dL_refused_181 rfl (lv_at hl 0 rfl) ?_
  refine lv_iload hx hb dL_refused_182 (lv_at hl 4 rfl) ?_
  refine zcw0 (klx0_L_wording l N g j q K (-1) (dx_words (N := N) hZ (a := (-1)) (by unfold zInt; omega) (by omega) (ea := (by decide))) hfl) F hN hJ zyl_L_wording zw_840 ⟨by decide, by decide⟩ (n := 2) (by decide +kernel) zw_875 hP hD hS rfl hl.1 (rest := []) rfl (Nat.le_of_ble_eq_true rfl) ⟨rfl, rfl⟩ ⟨Nat.le_of_ble_eq_true rfl, Nat.le_of_ble_eq_true rfl⟩ ⟨Nat.le_of_ble_eq_true rfl, Nat.le_of_ble_eq_true rfl⟩ dL_refused_184 (fun H locs hP hD hS => ?_)
  refine lv_iconst (v := (-1)) hx hb dL_refused_187 (by decide) ?_
  refine lv_icmp_ne (tgt := 254) hx hb dL_refused_188 (by decide) (fun q9 => absurd q9 (by decide)) (fun _ => ?_)
  exact kk _ _ _ _ hZ hP hD hS (lv_sub hl [0, 1, 2, 3, 4] rfl)
set_option maxHeartbeats 8000000 in
set_option maxRecDepth 100000 in
theorem rf_12 (hN2 : 20000 ≤ N) (hfl : l.stackTraces = false) (F : zF p m c cL_refused 6 s args RL g A) (hN : zN s) (hJ : va_K (zD g) vwCl (zJT j) s) (hZ : zC S hs L T K) (hP : va_P (zD g) vwCl (zcW g q K) H) (hD : va_D A (zcW g q K)) (hS : va_S A s.heap H locs) (hl : lv_has ls 6 [(0, .ref (q 0)), (1, .long (mxD S hs.length L T)), (3, .int (iI (S.1 : Int))), (4, .int 1), (5, .int (-1))]) 
    (kk : ∀ (K : zKT) (H : Heap) (locs : List Loc) (ls : Array Slot), zC S hs L T K → va_P (zD g) vwCl (zcW g q K) H → va_D A (zcW g q K) → va_S A s.heap H locs → lv_has ls 6 [(0, .ref (q 0)), (1, .long (mxD S hs.length L T)), (3, .int (iI (S.1 : Int))), (4, .int 1), (5, .int (-1))] → W p l e rm_L_refused s m args below meth c H locs 38 228 Q (F0 m 256 ls [])) : W p l e rm_L_refused s m args below meth c H locs 32 192 Q (F0 m 191 ls []) := by
  have hx := F.1.1
  have hb := F.1.2.1
  have hz := F.1.2.2.2.2
  obtain ⟨z1, z2, z3, z4, z5⟩ := zC_ok hZ
  have z6 := z1.1.1
  have hc0 : 0 < S.1 → S.2.2.1 0 0 ≤ 24 ∧ S.2.2.1 0 1 ≤ 24 := fun h => ⟨((z1.1.2 0 h).2 0 (by omega)).1, ((z1.1.2 0 h).2 1 (by omega)).1⟩
  refine lv_aload_n hx hb dL_refused_191 rfl (lv_at hl 0 rfl) ?_
  refine lv_iload hx hb dL_refused_192 (lv_at hl 4 rfl) ?_
  obtain ⟨r1, h2, e3, hZ4⟩ := dx_copySentence (N := N) hZ (a := (-1)) (by unfold zInt; omega) (by omega) (ya := (-1)) (ea := (by decide))
  refine zcw0 (klx0_L_copying l N g j q K (-1) r1 h2 hfl e3) F hN hJ zyl_L_copying zw_840 ⟨by decide, by decide⟩ (n := 2) (by decide +kernel) zw_878 hP hD hS rfl hl.1 (rest := []) rfl (Nat.le_of_ble_eq_true rfl) ⟨rfl, rfl⟩ ⟨Nat.le_of_ble_eq_true rfl, Nat.le_of_ble_eq_true rfl⟩ ⟨Nat.le_of_ble_eq_true rfl, Nat.le_of_ble_eq_true rfl⟩ dL_refused_194 (fun H locs hP hD hS => ?_)
  refine lv_iconst (v := (-1)) hx hb dL_refused_197 (by decide) ?_
  refine lv_icmp_ne (tgt := 254) hx hb dL_refused_198 (by decide) (fun q9 => absurd q9 (by decide)) (fun _ => ?_)
  refine lv_aload_n hx hb dL_refused_201 rfl (lv_at hl 0 rfl) ?_
  refine lv_iload hx hb dL_refused_202 (lv_at hl 4 rfl) ?_
  refine zcw0 (klx0_L_reading l N g j q (k2_copySentence K r1) (-1) (dx_readInto (N := N) hZ4 (a := (-1)) (by unfold zInt; omega) (by omega) (ea := (by decide))) hfl) F hN hJ zyl_L_reading zw_840 ⟨by decide, by decide⟩ (n := 2) (by decide +kernel) zw_881 hP hD hS rfl hl.1 (rest := []) rfl (Nat.le_of_ble_eq_true rfl) ⟨rfl, rfl⟩ ⟨Nat.le_of_ble_eq_true rfl, Nat.le_of_ble_eq_true rfl⟩ ⟨Nat.le_of_ble_eq_true rfl, Nat.le_of_ble_eq_true rfl⟩ dL_refused_204 (fun H locs hP hD hS => ?_)
  refine lv_iconst (v := (-1)) hx hb dL_refused_207 (by decide) ?_
  refine lv_icmp_ne (tgt := 254) hx hb dL_refused_208 (by decide) (fun q9 => absurd q9 (by decide)) (fun _ => ?_)
  refine lv_aload_n hx hb dL_refused_211 rfl (lv_at hl 0 rfl) ?_
  refine lv_iload hx hb dL_refused_212 (lv_at hl 4 rfl) ?_
  refine zcw0 (klx0_L_telling l N g j q (k2_copySentence K r1) (-1) (dx_tells (N := N) hZ4 (a := (-1)) (by unfold zInt; omega) (by omega) (ea := (by decide))) hfl) F hN hJ zyl_L_telling zw_840 ⟨by decide, by decide⟩ (n := 2) (by decide +kernel) zw_884 hP hD hS rfl hl.1 (rest := []) rfl (Nat.le_of_ble_eq_true rfl) ⟨rfl, rfl⟩ ⟨Nat.le_of_ble_eq_true rfl, Nat.le_of_ble_eq_true rfl⟩ ⟨Nat.le_of_ble_eq_true rfl, Nat.le_of_ble_eq_true rfl⟩ dL_refused_214 (fun H locs hP hD hS => ?_)
  refine lv_iconst (v := (-1)) hx hb dL_refused_217 (by decide) ?_
  refine lv_icmp_ne (tgt := 254) hx hb dL_refused_218 (by decide) (fun q9 => absurd q9 (by decide)) (fun _ => ?_)
  refine lv_aload_n hx hb dL_refused_221 rfl (lv_at hl 0 rfl) ?_
  refine lv_iload hx hb dL_refused_222 (lv_at hl 4 rfl) ?_
  refine lv_bipush (v := 8) hx hb dL_refused_224 (by decide) ?_
  refine zcw0 (klx0_L_changing l N g j q (k2_copySentence K r1) (-1) 8 ((d_changedBy (N := N) hN2 hZ4 (a := (-1)) (b := 8) (by unfold zInt; omega) (by unfold zInt; omega) (ea := (by decide)) (eb := (by decide))).trans (by rw [if_neg (by omega)])) hfl) F hN hJ zyl_L_changing zw_840 ⟨by decide, by decide⟩ (n := 3) (by decide +kernel) zw_887 hP hD hS rfl hl.1 (rest := []) rfl (Nat.le_of_ble_eq_true rfl) ⟨rfl, rfl⟩ ⟨Nat.le_of_ble_eq_true rfl, Nat.le_of_ble_eq_true rfl⟩ ⟨Nat.le_of_ble_eq_true rfl, Nat.le_of_ble_eq_true rfl⟩ dL_refused_226 (fun H locs hP hD hS => ?_)
  refine lv_iconst (v := (-1)) hx hb dL_refused_229 (by decide) ?_
  refine lv_icmp_ne (tgt := 254) hx hb dL_refused_230 (by decide) (fun q9 => absurd q9 (by decide)) (fun _ => ?_)
  refine lv_aload_n hx hb dL_refused_233 rfl (lv_at hl 0 rfl) ?_
  refine lv_iload hx hb dL_refused_234 (lv_at hl 4 rfl) ?_
  refine zcw0 (klx0_L_nearing l N g j q (k2_copySentence K r1) (-1) ((d_nearestKey (N := N) hN2 hZ4 (a := (-1)) (by unfold zInt; omega) (ea := (by decide))).trans (by rw [if_neg (by omega)])) hfl) F hN hJ zyl_L_nearing zw_840 ⟨by decide, by decide⟩ (n := 2) (by decide +kernel) zw_890 hP hD hS rfl hl.1 (rest := []) rfl (Nat.le_of_ble_eq_true rfl) ⟨rfl, rfl⟩ ⟨Nat.le_of_ble_eq_true rfl, Nat.le_of_ble_eq_true rfl⟩ ⟨Nat.le_of_ble_eq_true rfl, Nat.le_of_ble_eq_true rfl⟩ dL_refused_236 (fun H locs hP hD hS => ?_)
  refine lv_bipush (v := (-100)) hx hb dL_refused_239 (by decide) ?_
  refine lv_icmp_ne (tgt := 254) hx hb dL_refused_241 (by decide) (fun q9 => absurd q9 (by decide)) (fun _ => ?_)
  refine lv_aload_n hx hb dL_refused_244 rfl (lv_at hl 0 rfl) ?_
  refine lv_iload hx hb dL_refused_245 (lv_at hl 4 rfl) ?_
  refine zcw0 (klx0_L_sparing l N g j q (k2_copySentence K r1) (-1) ((d_needlessSigns (N := N) hN2 hZ4 (a := (-1)) (by unfold zInt; omega) (ea := (by decide))).trans (by rw [if_neg (by omega)])) hfl) F hN hJ zyl_L_sparing zw_840 ⟨by decide, by decide⟩ (n := 2) (by decide +kernel) zw_893 hP hD hS rfl hl.1 (rest := []) rfl (Nat.le_of_ble_eq_true rfl) ⟨rfl, rfl⟩ ⟨Nat.le_of_ble_eq_true rfl, Nat.le_of_ble_eq_true rfl⟩ ⟨Nat.le_of_ble_eq_true rfl, Nat.le_of_ble_eq_true rfl⟩ dL_refused_247 (fun H locs hP hD hS => ?_)
  refine lv_iconst (v := (-1)) hx hb dL_refused_250 (by decide) ?_
  refine lv_icmp_eq (tgt := 256) hx hb dL_refused_251 (by decide) (fun _ => ?_) (fun q9 => absurd q9 (by decide))
  exact kk _ _ _ _ hZ4 hP hD hS (lv_sub hl [0, 1, 2, 3, 4] rfl)
set_option maxHeartbeats 8000000 in
set_option maxRecDepth 100000 in
theorem rf_A (hN2 : 20000 ≤ N) (hfl : l.stackTraces = false) (F : zF p m c cL_refused 6 s args RL g A) (hN : zN s) (hJ : va_K (zD g) vwCl (zJT j) s) (hZ : zC S hs L T K) (hP : va_P (zD g) vwCl (zcW g q K) H) (hD : va_D A (zcW g q K)) (hS : va_S A s.heap H locs) (hl : lv_has ls 6 [(0, .ref (q 0)), (1, .long (mxD S hs.length L T)), (3, .int (iI (S.1 : Int)))]) 
    (kk : ∀ (K : zKT) (H : Heap) (locs : List Loc) (ls : Array Slot), zC S hs L T K → va_P (zD g) vwCl (zcW g q K) H → va_D A (zcW g q K) → va_S A s.heap H locs → lv_has ls 6 [(0, .ref (q 0)), (1, .long (mxD S hs.length L T)), (3, .int (iI (S.1 : Int)))] → W p l e rm_L_refused s m args below meth c H locs 47 282 Q (F0 m 348 ls [])) : W p l e rm_L_refused s m args below meth c H locs 38 228 Q (F0 m 262 ls []) := by
  have hx := F.1.1
  have hb := F.1.2.1
  have hz := F.1.2.2.2.2
  obtain ⟨z1, z2, z3, z4, z5⟩ := zC_ok hZ
  have z6 := z1.1.1
  have hc0 : 0 < S.1 → S.2.2.1 0 0 ≤ 24 ∧ S.2.2.1 0 1 ≤ 24 := fun h => ⟨((z1.1.2 0 h).2 0 (by omega)).1, ((z1.1.2 0 h).2 1 (by omega)).1⟩
  refine lv_aload_n hx hb dL_refused_262 rfl (lv_at hl 0 rfl) ?_
  refine lv_iconst (v := (-1)) hx hb dL_refused_263 (by decide) ?_
  refine zcw0 (klx1_L_counting l N g j q K (-1) ((d_whole (N := N) hN2 hZ (w := (-1)) (by unfold zInt; omega) (ew := (by decide))).trans (by rw [if_neg (by omega)])) hfl) F hN hJ zyl_L_counting zw_840 ⟨by decide, by decide⟩ (n := 2) (by decide +kernel) zw_896 hP hD hS rfl hl.1 (rest := []) rfl (Nat.le_of_ble_eq_true rfl) ⟨rfl, rfl⟩ ⟨Nat.le_of_ble_eq_true rfl, Nat.le_of_ble_eq_true rfl⟩ ⟨Nat.le_of_ble_eq_true rfl, Nat.le_of_ble_eq_true rfl⟩ dL_refused_264 (fun H locs hP hD hS => ?_)
  refine lv_iconst (v := (-1)) hx hb dL_refused_267 (by decide) ?_
  refine lv_icmp_ne (tgt := 377) hx hb dL_refused_268 (by decide) (fun q9 => absurd q9 (by decide)) (fun _ => ?_)
  refine lv_aload_n hx hb dL_refused_271 rfl (lv_at hl 0 rfl) ?_
  refine lv_bipush (v := 9) hx hb dL_refused_272 (by decide) ?_
  refine zcw0 (klx1_L_counting l N g j q K 9 ((d_whole (N := N) hN2 hZ (w := 9) (by unfold zInt; omega) (ew := (by decide))).trans (by rw [if_neg (by omega)])) hfl) F hN hJ zyl_L_counting zw_840 ⟨by decide, by decide⟩ (n := 2) (by decide +kernel) zw_896 hP hD hS rfl hl.1 (rest := []) rfl (Nat.le_of_ble_eq_true rfl) ⟨rfl, rfl⟩ ⟨Nat.le_of_ble_eq_true rfl, Nat.le_of_ble_eq_true rfl⟩ ⟨Nat.le_of_ble_eq_true rfl, Nat.le_of_ble_eq_true rfl⟩ dL_refused_274 (fun H locs hP hD hS => ?_)
  refine lv_iconst (v := (-1)) hx hb dL_refused_277 (by decide) ?_
  refine lv_icmp_ne (tgt := 377) hx hb dL_refused_278 (by decide) (fun q9 => absurd q9 (by decide)) (fun _ => ?_)
  refine lv_aload_n hx hb dL_refused_281 rfl (lv_at hl 0 rfl) ?_
  refine lv_iconst (v := (-1)) hx hb dL_refused_282 (by decide) ?_
  refine zcw0 (klx1_L_ordering l N g j q K (-1) ((d_order (N := N) hN2 hZ (a := (-1)) (by unfold zInt; omega) (ea := (by decide))).trans (by rw [if_neg (by omega)])) hfl) F hN hJ zyl_L_ordering zw_840 ⟨by decide, by decide⟩ (n := 2) (by decide +kernel) zw_899 hP hD hS rfl hl.1 (rest := []) rfl (Nat.le_of_ble_eq_true rfl) ⟨rfl, rfl⟩ ⟨Nat.le_of_ble_eq_true rfl, Nat.le_of_ble_eq_true rfl⟩ ⟨Nat.le_of_ble_eq_true rfl, Nat.le_of_ble_eq_true rfl⟩ dL_refused_283 (fun H locs hP hD hS => ?_)
  refine lv_iconst (v := (-1)) hx hb dL_refused_286 (by decide) ?_
  refine lv_icmp_ne (tgt := 377) hx hb dL_refused_287 (by decide) (fun q9 => absurd q9 (by decide)) (fun _ => ?_)
  refine lv_aload_n hx hb dL_refused_290 rfl (lv_at hl 0 rfl) ?_
  refine lv_iconst (v := (-1)) hx hb dL_refused_291 (by decide) ?_
  refine zcw0 (klx1_L_lasting l N g j q K (-1) ((d_seconds (N := N) hN2 hZ (a := (-1)) (by unfold zInt; omega) (ea := (by decide))).trans (by rw [if_neg (by omega)])) hfl) F hN hJ zyl_L_lasting zw_840 ⟨by decide, by decide⟩ (n := 2) (by decide +kernel) zw_902 hP hD hS rfl hl.1 (rest := []) rfl (Nat.le_of_ble_eq_true rfl) ⟨rfl, rfl⟩ ⟨Nat.le_of_ble_eq_true rfl, Nat.le_of_ble_eq_true rfl⟩ ⟨Nat.le_of_ble_eq_true rfl, Nat.le_of_ble_eq_true rfl⟩ dL_refused_292 (fun H locs hP hD hS => ?_)
  refine lv_iconst (v := (-1)) hx hb dL_refused_295 (by decide) ?_
  refine lv_icmp_ne (tgt := 377) hx hb dL_refused_296 (by decide) (fun q9 => absurd q9 (by decide)) (fun _ => ?_)
  refine lv_aload_n hx hb dL_refused_299 rfl (lv_at hl 0 rfl) ?_
  refine lv_iconst (v := (-1)) hx hb dL_refused_300 (by decide) ?_
  refine zcw0 (klx1_L_placing l N g j q K (-1) ((d_placeAt (N := N) hN2 hZ (a := (-1)) (by unfold zInt; omega) (ea := (by decide))).trans (by rw [if_neg (by omega)])) hfl) F hN hJ zyl_L_placing zw_840 ⟨by decide, by decide⟩ (n := 2) (by decide +kernel) zw_905 hP hD hS rfl hl.1 (rest := []) rfl (Nat.le_of_ble_eq_true rfl) ⟨rfl, rfl⟩ ⟨Nat.le_of_ble_eq_true rfl, Nat.le_of_ble_eq_true rfl⟩ ⟨Nat.le_of_ble_eq_true rfl, Nat.le_of_ble_eq_true rfl⟩ dL_refused_301 (fun H locs hP hD hS => ?_)
  refine lv_iconst (v := (-1)) hx hb dL_refused_304 (by decide) ?_
  refine lv_icmp_ne (tgt := 377) hx hb dL_refused_305 (by decide) (fun q9 => absurd q9 (by decide)) (fun _ => ?_)
  refine lv_aload_n hx hb dL_refused_308 rfl (lv_at hl 0 rfl) ?_
  refine lv_iconst (v := (-1)) hx hb dL_refused_309 (by decide) ?_
  refine zcw0 (klx1_L_typing l N g j q K (-1) (dx_type1 (N := N) hZ (a := (-1)) (by unfold zInt; omega) (by omega) (ea := (by decide))) hfl) F hN hJ zyl_L_typing zw_840 ⟨by decide, by decide⟩ (n := 2) (by decide +kernel) zw_908 hP hD hS rfl hl.1 (rest := []) rfl (Nat.le_of_ble_eq_true rfl) ⟨rfl, rfl⟩ ⟨Nat.le_of_ble_eq_true rfl, Nat.le_of_ble_eq_true rfl⟩ ⟨Nat.le_of_ble_eq_true rfl, Nat.le_of_ble_eq_true rfl⟩ dL_refused_310 (fun H locs hP hD hS => ?_)
  refine lv_iconst (v := (-1)) hx hb dL_refused_313 (by decide) ?_
  refine lv_icmp_ne (tgt := 377) hx hb dL_refused_314 (by decide) (fun q9 => absurd q9 (by decide)) (fun _ => ?_)
  refine lv_aload_n hx hb dL_refused_317 rfl (lv_at hl 0 rfl) ?_
  refine lv_sipush (v := 128) hx hb dL_refused_318 (by decide) ?_
  refine zcw0 (klx1_L_typing l N g j q K 128 (dx_type1 (N := N) hZ (a := 128) (by unfold zInt; omega) (by omega) (ea := (by decide))) hfl) F hN hJ zyl_L_typing zw_840 ⟨by decide, by decide⟩ (n := 2) (by decide +kernel) zw_908 hP hD hS rfl hl.1 (rest := []) rfl (Nat.le_of_ble_eq_true rfl) ⟨rfl, rfl⟩ ⟨Nat.le_of_ble_eq_true rfl, Nat.le_of_ble_eq_true rfl⟩ ⟨Nat.le_of_ble_eq_true rfl, Nat.le_of_ble_eq_true rfl⟩ dL_refused_321 (fun H locs hP hD hS => ?_)
  refine lv_iconst (v := (-1)) hx hb dL_refused_324 (by decide) ?_
  refine lv_icmp_ne (tgt := 377) hx hb dL_refused_325 (by decide) (fun q9 => absurd q9 (by decide)) (fun _ => ?_)
  refine lv_aload_n hx hb dL_refused_328 rfl (lv_at hl 0 rfl) ?_
  refine lv_iconst (v := 0) hx hb dL_refused_329 (by decide) ?_
  refine zcw0 (klx1_L_cutting l N g j q K 0 (dx_cut1 (N := N) hZ (a := 0) (by unfold zInt; omega) (by omega) (ea := (by decide))) hfl) F hN hJ zyl_L_cutting zw_840 ⟨by decide, by decide⟩ (n := 2) (by decide +kernel) zw_911 hP hD hS rfl hl.1 (rest := []) rfl (Nat.le_of_ble_eq_true rfl) ⟨rfl, rfl⟩ ⟨Nat.le_of_ble_eq_true rfl, Nat.le_of_ble_eq_true rfl⟩ ⟨Nat.le_of_ble_eq_true rfl, Nat.le_of_ble_eq_true rfl⟩ dL_refused_330 (fun H locs hP hD hS => ?_)
  refine lv_iconst (v := (-1)) hx hb dL_refused_333 (by decide) ?_
  refine lv_icmp_ne (tgt := 377) hx hb dL_refused_334 (by decide) (fun q9 => absurd q9 (by decide)) (fun _ => ?_)
  refine lv_aload_n hx hb dL_refused_337 rfl (lv_at hl 0 rfl) ?_
  refine lv_sipush (v := 601) hx hb dL_refused_338 (by decide) ?_
  refine zcw0 (klx1_L_cutting l N g j q K 601 (dx_cut1 (N := N) hZ (a := 601) (by unfold zInt; omega) (by omega) (ea := (by decide))) hfl) F hN hJ zyl_L_cutting zw_840 ⟨by decide, by decide⟩ (n := 2) (by decide +kernel) zw_911 hP hD hS rfl hl.1 (rest := []) rfl (Nat.le_of_ble_eq_true rfl) ⟨rfl, rfl⟩ ⟨Nat.le_of_ble_eq_true rfl, Nat.le_of_ble_eq_true rfl⟩ ⟨Nat.le_of_ble_eq_true rfl, Nat.le_of_ble_eq_true rfl⟩ dL_refused_341 (fun H locs hP hD hS => ?_)
  refine lv_iconst (v := (-1)) hx hb dL_refused_344 (by decide) ?_
  refine lv_icmp_ne (tgt := 377) hx hb dL_refused_345 (by decide) (fun q9 => absurd q9 (by decide)) (fun _ => ?_)
  exact kk _ _ _ _ hZ hP hD hS (lv_sub hl [0, 1, 2] rfl)
set_option maxHeartbeats 8000000 in
set_option maxRecDepth 100000 in
theorem rf_B (hN2 : 20000 ≤ N) (hfl : l.stackTraces = false) (F : zF p m c cL_refused 6 s args RL g A) (hN : zN s) (hJ : va_K (zD g) vwCl (zJT j) s) (hZ : zC S hs L T K) (hP : va_P (zD g) vwCl (zcW g q K) H) (hD : va_D A (zcW g q K)) (hS : va_S A s.heap H locs) (hl : lv_has ls 6 [(0, .ref (q 0)), (1, .long (mxD S hs.length L T)), (3, .int (iI (S.1 : Int)))])
    (kk : ∀ (K : zKT) (H : Heap) (locs : List Loc) (ls : Array Slot), zC S hs L T K → va_P (zD g) vwCl (zcW g q K) H → va_D A (zcW g q K) → va_S A s.heap H locs → lv_has ls 6 [(0, .ref (q 0)), (1, .long (mxD S hs.length L T)), (3, .int (iI (S.1 : Int)))] → W p l e rm_L_refused s m args below meth c H locs 48 288 Q (F0 m 379 ls [])) : W p l e rm_L_refused s m args below meth c H locs 47 282 Q (F0 m 348 ls []) := by
  have hx := F.1.1
  have hb := F.1.2.1
  have hz := F.1.2.2.2.2
  obtain ⟨z1, z2, z3, z4, z5⟩ := zC_ok hZ
  have z6 := z1.1.1
  have hc0 : 0 < S.1 → S.2.2.1 0 0 ≤ 24 ∧ S.2.2.1 0 1 ≤ 24 := fun h => ⟨((z1.1.2 0 h).2 0 (by omega)).1, ((z1.1.2 0 h).2 1 (by omega)).1⟩
  by_cases qc : L < 600
  · refine lv_aload_n hx hb dL_refused_348 rfl (lv_at hl 0 rfl) ?_
    refine lv_bipush (v := 8) hx hb dL_refused_349 (by decide) ?_
    refine cd0_whole 8 (a := iI (L : Int)) ((d_whole (N := N) hN2 hZ (w := 8) (by unfold zInt; omega) (ew := by decide)).trans (by rw [if_pos (by omega)]; rfl)) F zw_788 hP hD hS hl.1 (Nat.le_of_ble_eq_true rfl) ⟨Nat.le_of_ble_eq_true rfl, Nat.le_of_ble_eq_true rfl⟩ ⟨Nat.le_of_ble_eq_true rfl, Nat.le_of_ble_eq_true rfl⟩ dL_refused_351 (fun H locs hP hD hS => ?_)
    refine lv_sipush (v := 600) hx hb dL_refused_354 (by decide) ?_
    refine lv_icmp_ge (tgt := 379) hx hb dL_refused_357 (by decide) (fun q9 => absurd q9 (iI_lt600 (by omega) (by omega))) (fun _ => ?_)
    refine lv_aload_n hx hb dL_refused_360 rfl (lv_at hl 0 rfl) ?_
    refine lv_aload_n hx hb dL_refused_361 rfl (lv_at hl 0 rfl) ?_
    refine lv_bipush (v := 8) hx hb dL_refused_362 (by decide) ?_
    refine cd0_whole 8 (a := iI (L : Int)) ((d_whole (N := N) hN2 hZ (w := 8) (by unfold zInt; omega) (ew := by decide)).trans (by rw [if_pos (by omega)]; rfl)) F zw_788 hP hD hS hl.1 (Nat.le_of_ble_eq_true rfl) ⟨Nat.le_of_ble_eq_true rfl, Nat.le_of_ble_eq_true rfl⟩ ⟨Nat.le_of_ble_eq_true rfl, Nat.le_of_ble_eq_true rfl⟩ dL_refused_364 (fun H locs hP hD hS => ?_)
    refine lv_iconst (v := 1) hx hb dL_refused_367 (by decide) ?_
    refine lv_iadd hx hb dL_refused_368 ?_
    rw [show ((iI (L : Int)) + 1) = (iI ((L : Int) + 1)) from (by rw [show (1 : Int32) = iI 1 from rfl, iI_add])]
    refine zcw0 (klx2_L_cutting l N g j q K (iI ((L : Int) + 1)) (dx_cut2 (N := N) hZ (a := ((L : Int) + 1)) (by unfold zInt; omega) (by omega) (by omega) (ea := rfl)) hfl) F hN hJ zyl_L_cutting zw_840 ⟨by decide, by decide⟩ (n := 2) (by decide +kernel) zw_911 hP hD hS rfl hl.1 (rest := []) rfl (Nat.le_of_ble_eq_true rfl) ⟨rfl, rfl⟩ ⟨Nat.le_of_ble_eq_true rfl, Nat.le_of_ble_eq_true rfl⟩ ⟨Nat.le_of_ble_eq_true rfl, Nat.le_of_ble_eq_true rfl⟩ dL_refused_369 (fun H locs hP hD hS => ?_)
    refine lv_bipush (v := (-2)) hx hb dL_refused_372 (by decide) ?_
    refine lv_icmp_eq (tgt := 379) hx hb dL_refused_374 (by decide) (fun _ => ?_) (fun q9 => absurd q9 (by decide))
    exact kk _ _ _ _ hZ hP hD hS (lv_sub hl [0, 1, 2] rfl)
  · refine lv_aload_n hx hb dL_refused_348 rfl (lv_at hl 0 rfl) ?_
    refine lv_bipush (v := 8) hx hb dL_refused_349 (by decide) ?_
    refine cd0_whole 8 (a := iI (L : Int)) ((d_whole (N := N) hN2 hZ (w := 8) (by unfold zInt; omega) (ew := by decide)).trans (by rw [if_pos (by omega)]; rfl)) F zw_788 hP hD hS hl.1 (Nat.le_of_ble_eq_true rfl) ⟨Nat.le_of_ble_eq_true rfl, Nat.le_of_ble_eq_true rfl⟩ ⟨Nat.le_of_ble_eq_true rfl, Nat.le_of_ble_eq_true rfl⟩ dL_refused_351 (fun H locs hP hD hS => ?_)
    refine lv_sipush (v := 600) hx hb dL_refused_354 (by decide) ?_
    refine lv_icmp_ge (tgt := 379) hx hb dL_refused_357 (by decide) (fun _ => ?_) (fun q9 => absurd (iI_ge600 (by omega) (by omega)) q9)
    refine W.widen (k := 48) (n := 288) (Nat.le_of_ble_eq_true rfl) (Nat.le_of_ble_eq_true rfl) ?_
    exact kk _ _ _ _ hZ hP hD hS (lv_sub hl [0, 1, 2] rfl)
set_option maxHeartbeats 8000000 in
set_option maxRecDepth 100000 in
theorem rf_C (hN2 : 20000 ≤ N) (hfl : l.stackTraces = false) (F : zF p m c cL_refused 6 s args RL g A) (hN : zN s) (hJ : va_K (zD g) vwCl (zJT j) s) (hZ : zC S hs L T K) (hP : va_P (zD g) vwCl (zcW g q K) H) (hD : va_D A (zcW g q K)) (hS : va_S A s.heap H locs) (hl : lv_has ls 6 [(0, .ref (q 0)), (1, .long (mxD S hs.length L T)), (3, .int (iI (S.1 : Int)))]) (qn : 0 < S.1)
    (kk : ∀ (K : zKT) (H : Heap) (locs : List Loc) (ls : Array Slot), zC S hs L T K → va_P (zD g) vwCl (zcW g q K) H → va_D A (zcW g q K) → va_S A s.heap H locs → lv_has ls 6 [(0, .ref (q 0)), (1, .long (mxD S hs.length L T)), (3, .int (iI (S.1 : Int)))] → W p l e rm_L_refused s m args below meth c H locs 64 384 Q (F0 m 604 ls [])) : W p l e rm_L_refused s m args below meth c H locs 48 288 Q (F0 m 379 ls []) := by
  have hx := F.1.1
  have hb := F.1.2.1
  have hz := F.1.2.2.2.2
  obtain ⟨z1, z2, z3, z4, z5⟩ := zC_ok hZ
  have z6 := z1.1.1
  have hc0 : 0 < S.1 → S.2.2.1 0 0 ≤ 24 ∧ S.2.2.1 0 1 ≤ 24 := fun h => ⟨((z1.1.2 0 h).2 0 (by omega)).1, ((z1.1.2 0 h).2 1 (by omega)).1⟩
  have hc1 := hc0 qn
  refine lv_iload_n hx hb dL_refused_379 rfl (lv_at hl 2 rfl) ?_
  refine lv_if_le (tgt := 604) hx hb dL_refused_380 (by decide) (fun q9 => absurd q9 (iI_pos (by omega) (by omega))) (fun _ => ?_)
  refine lv_aload_n hx hb dL_refused_383 rfl (lv_at hl 0 rfl) ?_
  refine lv_iconst (v := 0) hx hb dL_refused_384 (by decide) ?_
  refine lv_iconst (v := (-1)) hx hb dL_refused_385 (by decide) ?_
  refine lv_iconst (v := 0) hx hb dL_refused_386 (by decide) ?_
  refine zcw0 (klx1_L_setting l N g j q K 0 (-1) 0 (dx_set1 (N := N) hZ (a := 0) (b := (-1)) (c := 0) (by unfold zInt; omega) (by unfold zInt; omega) (by unfold zInt; omega) (by omega) (by decide) (ea := (by decide)) (eb := (by decide)) (ec := (by decide))) hfl) F hN hJ zyl_L_setting zw_840 ⟨by decide, by decide⟩ (n := 4) (by decide +kernel) zw_842 hP hD hS rfl hl.1 (rest := []) rfl (Nat.le_of_ble_eq_true rfl) ⟨rfl, rfl⟩ ⟨Nat.le_of_ble_eq_true rfl, Nat.le_of_ble_eq_true rfl⟩ ⟨Nat.le_of_ble_eq_true rfl, Nat.le_of_ble_eq_true rfl⟩ dL_refused_387 (fun H locs hP hD hS => ?_)
  refine lv_sipush (v := (-2002)) hx hb dL_refused_390 (by decide) ?_
  refine lv_icmp_ne (tgt := 602) hx hb dL_refused_393 (by decide) (fun q9 => absurd q9 (by decide)) (fun _ => ?_)
  refine lv_aload_n hx hb dL_refused_396 rfl (lv_at hl 0 rfl) ?_
  refine lv_iconst (v := 0) hx hb dL_refused_397 (by decide) ?_
  refine lv_bipush (v := 7) hx hb dL_refused_398 (by decide) ?_
  refine lv_iconst (v := 0) hx hb dL_refused_400 (by decide) ?_
  refine zcw0 (klx1_L_setting l N g j q K 0 7 0 (dx_set1 (N := N) hZ (a := 0) (b := 7) (c := 0) (by unfold zInt; omega) (by unfold zInt; omega) (by unfold zInt; omega) (by omega) (by decide) (ea := (by decide)) (eb := (by decide)) (ec := (by decide))) hfl) F hN hJ zyl_L_setting zw_840 ⟨by decide, by decide⟩ (n := 4) (by decide +kernel) zw_842 hP hD hS rfl hl.1 (rest := []) rfl (Nat.le_of_ble_eq_true rfl) ⟨rfl, rfl⟩ ⟨Nat.le_of_ble_eq_true rfl, Nat.le_of_ble_eq_true rfl⟩ ⟨Nat.le_of_ble_eq_true rfl, Nat.le_of_ble_eq_true rfl⟩ dL_refused_401 (fun H locs hP hD hS => ?_)
  refine lv_sipush (v := (-2002)) hx hb dL_refused_404 (by decide) ?_
  refine lv_icmp_ne (tgt := 602) hx hb dL_refused_407 (by decide) (fun q9 => absurd q9 (by decide)) (fun _ => ?_)
  refine lv_aload_n hx hb dL_refused_410 rfl (lv_at hl 0 rfl) ?_
  refine lv_iconst (v := 0) hx hb dL_refused_411 (by decide) ?_
  refine lv_iconst (v := 0) hx hb dL_refused_412 (by decide) ?_
  refine lv_bipush (v := 8) hx hb dL_refused_413 (by decide) ?_
  refine zcw0 (klx1_L_setting l N g j q K 0 0 8 (dx_set1 (N := N) hZ (a := 0) (b := 0) (c := 8) (by unfold zInt; omega) (by unfold zInt; omega) (by unfold zInt; omega) (by omega) (by decide) (ea := (by decide)) (eb := (by decide)) (ec := (by decide))) hfl) F hN hJ zyl_L_setting zw_840 ⟨by decide, by decide⟩ (n := 4) (by decide +kernel) zw_842 hP hD hS rfl hl.1 (rest := []) rfl (Nat.le_of_ble_eq_true rfl) ⟨rfl, rfl⟩ ⟨Nat.le_of_ble_eq_true rfl, Nat.le_of_ble_eq_true rfl⟩ ⟨Nat.le_of_ble_eq_true rfl, Nat.le_of_ble_eq_true rfl⟩ dL_refused_415 (fun H locs hP hD hS => ?_)
  refine lv_sipush (v := (-2002)) hx hb dL_refused_418 (by decide) ?_
  refine lv_icmp_ne (tgt := 602) hx hb dL_refused_421 (by decide) (fun q9 => absurd q9 (by decide)) (fun _ => ?_)
  refine lv_aload_n hx hb dL_refused_424 rfl (lv_at hl 0 rfl) ?_
  refine lv_iconst (v := 0) hx hb dL_refused_425 (by decide) ?_
  refine lv_iconst (v := 0) hx hb dL_refused_426 (by decide) ?_
  refine lv_bipush (v := (-8)) hx hb dL_refused_427 (by decide) ?_
  refine zcw0 (klx1_L_setting l N g j q K 0 0 (-8) (dx_set1 (N := N) hZ (a := 0) (b := 0) (c := (-8)) (by unfold zInt; omega) (by unfold zInt; omega) (by unfold zInt; omega) (by omega) (by decide) (ea := (by decide)) (eb := (by decide)) (ec := (by decide))) hfl) F hN hJ zyl_L_setting zw_840 ⟨by decide, by decide⟩ (n := 4) (by decide +kernel) zw_842 hP hD hS rfl hl.1 (rest := []) rfl (Nat.le_of_ble_eq_true rfl) ⟨rfl, rfl⟩ ⟨Nat.le_of_ble_eq_true rfl, Nat.le_of_ble_eq_true rfl⟩ ⟨Nat.le_of_ble_eq_true rfl, Nat.le_of_ble_eq_true rfl⟩ dL_refused_429 (fun H locs hP hD hS => ?_)
  refine lv_sipush (v := (-2002)) hx hb dL_refused_432 (by decide) ?_
  refine lv_icmp_ne (tgt := 602) hx hb dL_refused_435 (by decide) (fun q9 => absurd q9 (by decide)) (fun _ => ?_)
  refine lv_aload_n hx hb dL_refused_438 rfl (lv_at hl 0 rfl) ?_
  refine lv_iconst (v := 0) hx hb dL_refused_439 (by decide) ?_
  refine lv_iconst (v := 1) hx hb dL_refused_440 (by decide) ?_
  refine lv_iconst (v := 0) hx hb dL_refused_441 (by decide) ?_
  refine zcw0 (klx1_L_setting l N g j q K 0 1 0 (dx_set1 (N := N) hZ (a := 0) (b := 1) (c := 0) (by unfold zInt; omega) (by unfold zInt; omega) (by unfold zInt; omega) (by omega) (by decide) (ea := (by decide)) (eb := (by decide)) (ec := (by decide))) hfl) F hN hJ zyl_L_setting zw_840 ⟨by decide, by decide⟩ (n := 4) (by decide +kernel) zw_842 hP hD hS rfl hl.1 (rest := []) rfl (Nat.le_of_ble_eq_true rfl) ⟨rfl, rfl⟩ ⟨Nat.le_of_ble_eq_true rfl, Nat.le_of_ble_eq_true rfl⟩ ⟨Nat.le_of_ble_eq_true rfl, Nat.le_of_ble_eq_true rfl⟩ dL_refused_442 (fun H locs hP hD hS => ?_)
  refine lv_sipush (v := (-2002)) hx hb dL_refused_445 (by decide) ?_
  refine lv_icmp_ne (tgt := 602) hx hb dL_refused_448 (by decide) (fun q9 => absurd q9 (by decide)) (fun _ => ?_)
  refine lv_aload_n hx hb dL_refused_451 rfl (lv_at hl 0 rfl) ?_
  refine lv_iconst (v := 0) hx hb dL_refused_452 (by decide) ?_
  refine lv_iconst (v := 1) hx hb dL_refused_453 (by decide) ?_
  refine lv_bipush (v := 13) hx hb dL_refused_454 (by decide) ?_
  refine zcw0 (klx1_L_setting l N g j q K 0 1 13 (dx_set1 (N := N) hZ (a := 0) (b := 1) (c := 13) (by unfold zInt; omega) (by unfold zInt; omega) (by unfold zInt; omega) (by omega) (by decide) (ea := (by decide)) (eb := (by decide)) (ec := (by decide))) hfl) F hN hJ zyl_L_setting zw_840 ⟨by decide, by decide⟩ (n := 4) (by decide +kernel) zw_842 hP hD hS rfl hl.1 (rest := []) rfl (Nat.le_of_ble_eq_true rfl) ⟨rfl, rfl⟩ ⟨Nat.le_of_ble_eq_true rfl, Nat.le_of_ble_eq_true rfl⟩ ⟨Nat.le_of_ble_eq_true rfl, Nat.le_of_ble_eq_true rfl⟩ dL_refused_456 (fun H locs hP hD hS => ?_)
  refine lv_sipush (v := (-2002)) hx hb dL_refused_459 (by decide) ?_
  refine lv_icmp_ne (tgt := 602) hx hb dL_refused_462 (by decide) (fun q9 => absurd q9 (by decide)) (fun _ => ?_)
  refine lv_aload_n hx hb dL_refused_465 rfl (lv_at hl 0 rfl) ?_
  refine lv_iconst (v := 0) hx hb dL_refused_466 (by decide) ?_
  refine lv_iconst (v := 2) hx hb dL_refused_467 (by decide) ?_
  refine lv_iconst (v := 1) hx hb dL_refused_468 (by decide) ?_
  refine zcw0 (klx1_L_setting l N g j q K 0 2 1 (dx_set1 (N := N) hZ (a := 0) (b := 2) (c := 1) (by unfold zInt; omega) (by unfold zInt; omega) (by unfold zInt; omega) (by omega) (by decide) (ea := (by decide)) (eb := (by decide)) (ec := (by decide))) hfl) F hN hJ zyl_L_setting zw_840 ⟨by decide, by decide⟩ (n := 4) (by decide +kernel) zw_842 hP hD hS rfl hl.1 (rest := []) rfl (Nat.le_of_ble_eq_true rfl) ⟨rfl, rfl⟩ ⟨Nat.le_of_ble_eq_true rfl, Nat.le_of_ble_eq_true rfl⟩ ⟨Nat.le_of_ble_eq_true rfl, Nat.le_of_ble_eq_true rfl⟩ dL_refused_469 (fun H locs hP hD hS => ?_)
  refine lv_sipush (v := (-2002)) hx hb dL_refused_472 (by decide) ?_
  refine lv_icmp_ne (tgt := 602) hx hb dL_refused_475 (by decide) (fun q9 => absurd q9 (by decide)) (fun _ => ?_)
  refine lv_aload_n hx hb dL_refused_478 rfl (lv_at hl 0 rfl) ?_
  refine lv_iconst (v := 0) hx hb dL_refused_479 (by decide) ?_
  refine lv_iconst (v := 2) hx hb dL_refused_480 (by decide) ?_
  refine lv_bipush (v := 6) hx hb dL_refused_481 (by decide) ?_
  refine zcw0 (klx1_L_setting l N g j q K 0 2 6 (dx_set1 (N := N) hZ (a := 0) (b := 2) (c := 6) (by unfold zInt; omega) (by unfold zInt; omega) (by unfold zInt; omega) (by omega) (by decide) (ea := (by decide)) (eb := (by decide)) (ec := (by decide))) hfl) F hN hJ zyl_L_setting zw_840 ⟨by decide, by decide⟩ (n := 4) (by decide +kernel) zw_842 hP hD hS rfl hl.1 (rest := []) rfl (Nat.le_of_ble_eq_true rfl) ⟨rfl, rfl⟩ ⟨Nat.le_of_ble_eq_true rfl, Nat.le_of_ble_eq_true rfl⟩ ⟨Nat.le_of_ble_eq_true rfl, Nat.le_of_ble_eq_true rfl⟩ dL_refused_483 (fun H locs hP hD hS => ?_)
  refine lv_sipush (v := (-2002)) hx hb dL_refused_486 (by decide) ?_
  refine lv_icmp_ne (tgt := 602) hx hb dL_refused_489 (by decide) (fun q9 => absurd q9 (by decide)) (fun _ => ?_)
  refine lv_aload_n hx hb dL_refused_492 rfl (lv_at hl 0 rfl) ?_
  refine lv_iconst (v := 0) hx hb dL_refused_493 (by decide) ?_
  refine lv_iconst (v := 2) hx hb dL_refused_494 (by decide) ?_
  refine lv_bipush (v := 32) hx hb dL_refused_495 (by decide) ?_
  refine zcw0 (klx1_L_setting l N g j q K 0 2 32 (dx_set1 (N := N) hZ (a := 0) (b := 2) (c := 32) (by unfold zInt; omega) (by unfold zInt; omega) (by unfold zInt; omega) (by omega) (by decide) (ea := (by decide)) (eb := (by decide)) (ec := (by decide))) hfl) F hN hJ zyl_L_setting zw_840 ⟨by decide, by decide⟩ (n := 4) (by decide +kernel) zw_842 hP hD hS rfl hl.1 (rest := []) rfl (Nat.le_of_ble_eq_true rfl) ⟨rfl, rfl⟩ ⟨Nat.le_of_ble_eq_true rfl, Nat.le_of_ble_eq_true rfl⟩ ⟨Nat.le_of_ble_eq_true rfl, Nat.le_of_ble_eq_true rfl⟩ dL_refused_497 (fun H locs hP hD hS => ?_)
  refine lv_sipush (v := (-2002)) hx hb dL_refused_500 (by decide) ?_
  refine lv_icmp_ne (tgt := 602) hx hb dL_refused_503 (by decide) (fun q9 => absurd q9 (by decide)) (fun _ => ?_)
  refine lv_aload_n hx hb dL_refused_506 rfl (lv_at hl 0 rfl) ?_
  refine lv_iconst (v := 0) hx hb dL_refused_507 (by decide) ?_
  refine lv_iconst (v := 3) hx hb dL_refused_508 (by decide) ?_
  refine lv_bipush (v := 19) hx hb dL_refused_509 (by decide) ?_
  refine zcw0 (klx1_L_setting l N g j q K 0 3 19 (dx_set1 (N := N) hZ (a := 0) (b := 3) (c := 19) (by unfold zInt; omega) (by unfold zInt; omega) (by unfold zInt; omega) (by omega) (by decide) (ea := (by decide)) (eb := (by decide)) (ec := (by decide))) hfl) F hN hJ zyl_L_setting zw_840 ⟨by decide, by decide⟩ (n := 4) (by decide +kernel) zw_842 hP hD hS rfl hl.1 (rest := []) rfl (Nat.le_of_ble_eq_true rfl) ⟨rfl, rfl⟩ ⟨Nat.le_of_ble_eq_true rfl, Nat.le_of_ble_eq_true rfl⟩ ⟨Nat.le_of_ble_eq_true rfl, Nat.le_of_ble_eq_true rfl⟩ dL_refused_511 (fun H locs hP hD hS => ?_)
  refine lv_sipush (v := (-2002)) hx hb dL_refused_514 (by decide) ?_
  refine lv_icmp_ne (tgt := 602) hx hb dL_refused_517 (by decide) (fun q9 => absurd q9 (by decide)) (fun _ => ?_)
  refine lv_aload_n hx hb dL_refused_520 rfl (lv_at hl 0 rfl) ?_
  refine lv_iconst (v := 0) hx hb dL_refused_521 (by decide) ?_
  refine lv_iconst (v := 3) hx hb dL_refused_522 (by decide) ?_
  refine lv_sipush (v := 301) hx hb dL_refused_523 (by decide) ?_
  refine zcw0 (klx1_L_setting l N g j q K 0 3 301 (dx_set1 (N := N) hZ (a := 0) (b := 3) (c := 301) (by unfold zInt; omega) (by unfold zInt; omega) (by unfold zInt; omega) (by omega) (by decide) (ea := (by decide)) (eb := (by decide)) (ec := (by decide))) hfl) F hN hJ zyl_L_setting zw_840 ⟨by decide, by decide⟩ (n := 4) (by decide +kernel) zw_842 hP hD hS rfl hl.1 (rest := []) rfl (Nat.le_of_ble_eq_true rfl) ⟨rfl, rfl⟩ ⟨Nat.le_of_ble_eq_true rfl, Nat.le_of_ble_eq_true rfl⟩ ⟨Nat.le_of_ble_eq_true rfl, Nat.le_of_ble_eq_true rfl⟩ dL_refused_526 (fun H locs hP hD hS => ?_)
  refine lv_sipush (v := (-2002)) hx hb dL_refused_529 (by decide) ?_
  refine lv_icmp_ne (tgt := 602) hx hb dL_refused_532 (by decide) (fun q9 => absurd q9 (by decide)) (fun _ => ?_)
  refine lv_aload_n hx hb dL_refused_535 rfl (lv_at hl 0 rfl) ?_
  refine lv_iconst (v := 0) hx hb dL_refused_536 (by decide) ?_
  refine lv_iconst (v := 4) hx hb dL_refused_537 (by decide) ?_
  refine lv_iconst (v := 2) hx hb dL_refused_538 (by decide) ?_
  refine zcw0 (klx1_L_setting l N g j q K 0 4 2 (dx_set1 (N := N) hZ (a := 0) (b := 4) (c := 2) (by unfold zInt; omega) (by unfold zInt; omega) (by unfold zInt; omega) (by omega) (by decide) (ea := (by decide)) (eb := (by decide)) (ec := (by decide))) hfl) F hN hJ zyl_L_setting zw_840 ⟨by decide, by decide⟩ (n := 4) (by decide +kernel) zw_842 hP hD hS rfl hl.1 (rest := []) rfl (Nat.le_of_ble_eq_true rfl) ⟨rfl, rfl⟩ ⟨Nat.le_of_ble_eq_true rfl, Nat.le_of_ble_eq_true rfl⟩ ⟨Nat.le_of_ble_eq_true rfl, Nat.le_of_ble_eq_true rfl⟩ dL_refused_539 (fun H locs hP hD hS => ?_)
  refine lv_sipush (v := (-2002)) hx hb dL_refused_542 (by decide) ?_
  refine lv_icmp_ne (tgt := 602) hx hb dL_refused_545 (by decide) (fun q9 => absurd q9 (by decide)) (fun _ => ?_)
  refine lv_aload_n hx hb dL_refused_548 rfl (lv_at hl 0 rfl) ?_
  refine lv_iconst (v := 0) hx hb dL_refused_549 (by decide) ?_
  refine lv_iconst (v := 5) hx hb dL_refused_550 (by decide) ?_
  refine lv_iconst (v := 1) hx hb dL_refused_551 (by decide) ?_
  refine zcw0 (klx1_L_setting l N g j q K 0 5 1 (dx_set1 (N := N) hZ (a := 0) (b := 5) (c := 1) (by unfold zInt; omega) (by unfold zInt; omega) (by unfold zInt; omega) (by omega) (by decide) (ea := (by decide)) (eb := (by decide)) (ec := (by decide))) hfl) F hN hJ zyl_L_setting zw_840 ⟨by decide, by decide⟩ (n := 4) (by decide +kernel) zw_842 hP hD hS rfl hl.1 (rest := []) rfl (Nat.le_of_ble_eq_true rfl) ⟨rfl, rfl⟩ ⟨Nat.le_of_ble_eq_true rfl, Nat.le_of_ble_eq_true rfl⟩ ⟨Nat.le_of_ble_eq_true rfl, Nat.le_of_ble_eq_true rfl⟩ dL_refused_552 (fun H locs hP hD hS => ?_)
  refine lv_sipush (v := (-2002)) hx hb dL_refused_555 (by decide) ?_
  refine lv_icmp_ne (tgt := 602) hx hb dL_refused_558 (by decide) (fun q9 => absurd q9 (by decide)) (fun _ => ?_)
  refine lv_aload_n hx hb dL_refused_561 rfl (lv_at hl 0 rfl) ?_
  refine lv_iconst (v := 0) hx hb dL_refused_562 (by decide) ?_
  refine lv_iconst (v := 5) hx hb dL_refused_563 (by decide) ?_
  refine lv_iconst (v := 5) hx hb dL_refused_564 (by decide) ?_
  refine zcw0 (klx1_L_setting l N g j q K 0 5 5 (dx_set1 (N := N) hZ (a := 0) (b := 5) (c := 5) (by unfold zInt; omega) (by unfold zInt; omega) (by unfold zInt; omega) (by omega) (by decide) (ea := (by decide)) (eb := (by decide)) (ec := (by decide))) hfl) F hN hJ zyl_L_setting zw_840 ⟨by decide, by decide⟩ (n := 4) (by decide +kernel) zw_842 hP hD hS rfl hl.1 (rest := []) rfl (Nat.le_of_ble_eq_true rfl) ⟨rfl, rfl⟩ ⟨Nat.le_of_ble_eq_true rfl, Nat.le_of_ble_eq_true rfl⟩ ⟨Nat.le_of_ble_eq_true rfl, Nat.le_of_ble_eq_true rfl⟩ dL_refused_565 (fun H locs hP hD hS => ?_)
  refine lv_sipush (v := (-2002)) hx hb dL_refused_568 (by decide) ?_
  refine lv_icmp_ne (tgt := 602) hx hb dL_refused_571 (by decide) (fun q9 => absurd q9 (by decide)) (fun _ => ?_)
  refine lv_aload_n hx hb dL_refused_574 rfl (lv_at hl 0 rfl) ?_
  refine lv_iconst (v := 0) hx hb dL_refused_575 (by decide) ?_
  refine lv_bipush (v := 6) hx hb dL_refused_576 (by decide) ?_
  refine lv_iconst (v := 5) hx hb dL_refused_578 (by decide) ?_
  refine zcw0 (klx1_L_setting l N g j q K 0 6 5 (dx_set1 (N := N) hZ (a := 0) (b := 6) (c := 5) (by unfold zInt; omega) (by unfold zInt; omega) (by unfold zInt; omega) (by omega) (by decide) (ea := (by decide)) (eb := (by decide)) (ec := (by decide))) hfl) F hN hJ zyl_L_setting zw_840 ⟨by decide, by decide⟩ (n := 4) (by decide +kernel) zw_842 hP hD hS rfl hl.1 (rest := []) rfl (Nat.le_of_ble_eq_true rfl) ⟨rfl, rfl⟩ ⟨Nat.le_of_ble_eq_true rfl, Nat.le_of_ble_eq_true rfl⟩ ⟨Nat.le_of_ble_eq_true rfl, Nat.le_of_ble_eq_true rfl⟩ dL_refused_579 (fun H locs hP hD hS => ?_)
  refine lv_sipush (v := (-2002)) hx hb dL_refused_582 (by decide) ?_
  refine lv_icmp_ne (tgt := 602) hx hb dL_refused_585 (by decide) (fun q9 => absurd q9 (by decide)) (fun _ => ?_)
  refine lv_aload_n hx hb dL_refused_588 rfl (lv_at hl 0 rfl) ?_
  refine lv_iconst (v := 0) hx hb dL_refused_589 (by decide) ?_
  refine lv_bipush (v := 6) hx hb dL_refused_590 (by decide) ?_
  refine lv_iconst (v := (-1)) hx hb dL_refused_592 (by decide) ?_
  refine zcw0 (klx1_L_setting l N g j q K 0 6 (-1) (dx_set1 (N := N) hZ (a := 0) (b := 6) (c := (-1)) (by unfold zInt; omega) (by unfold zInt; omega) (by unfold zInt; omega) (by omega) (by decide) (ea := (by decide)) (eb := (by decide)) (ec := (by decide))) hfl) F hN hJ zyl_L_setting zw_840 ⟨by decide, by decide⟩ (n := 4) (by decide +kernel) zw_842 hP hD hS rfl hl.1 (rest := []) rfl (Nat.le_of_ble_eq_true rfl) ⟨rfl, rfl⟩ ⟨Nat.le_of_ble_eq_true rfl, Nat.le_of_ble_eq_true rfl⟩ ⟨Nat.le_of_ble_eq_true rfl, Nat.le_of_ble_eq_true rfl⟩ dL_refused_593 (fun H locs hP hD hS => ?_)
  refine lv_sipush (v := (-2002)) hx hb dL_refused_596 (by decide) ?_
  refine lv_icmp_eq (tgt := 604) hx hb dL_refused_599 (by decide) (fun _ => ?_) (fun q9 => absurd q9 (by decide))
  exact kk _ _ _ _ hZ hP hD hS (lv_sub hl [0, 1, 2] rfl)
set_option maxHeartbeats 8000000 in
set_option maxRecDepth 100000 in
theorem rf_D (hN2 : 20000 ≤ N) (hfl : l.stackTraces = false) (F : zF p m c cL_refused 6 s args RL g A) (hN : zN s) (hJ : va_K (zD g) vwCl (zJT j) s) (hZ : zC S hs L T K) (hP : va_P (zD g) vwCl (zcW g q K) H) (hD : va_D A (zcW g q K)) (hS : va_S A s.heap H locs) (hl : lv_has ls 6 [(0, .ref (q 0)), (1, .long (mxD S hs.length L T)), (3, .int (iI (S.1 : Int)))]) (qn : 0 < S.1)
    (kk : ∀ (K : zKT) (H : Heap) (locs : List Loc) (ls : Array Slot), zC S hs L T K → va_P (zD g) vwCl (zcW g q K) H → va_D A (zcW g q K) → va_S A s.heap H locs → lv_has ls 6 [(0, .ref (q 0)), (1, .long (mxD S hs.length L T)), (3, .int (iI (S.1 : Int)))] → W p l e rm_L_refused s m args below meth c H locs 76 456 Q (F0 m 770 ls [])) : W p l e rm_L_refused s m args below meth c H locs 64 384 Q (F0 m 604 ls []) := by
  have hx := F.1.1
  have hb := F.1.2.1
  have hz := F.1.2.2.2.2
  obtain ⟨z1, z2, z3, z4, z5⟩ := zC_ok hZ
  have z6 := z1.1.1
  have hc0 : 0 < S.1 → S.2.2.1 0 0 ≤ 24 ∧ S.2.2.1 0 1 ≤ 24 := fun h => ⟨((z1.1.2 0 h).2 0 (by omega)).1, ((z1.1.2 0 h).2 1 (by omega)).1⟩
  have hc1 := hc0 qn
  refine lv_iload_n hx hb dL_refused_604 rfl (lv_at hl 2 rfl) ?_
  refine lv_if_le (tgt := 770) hx hb dL_refused_605 (by decide) (fun q9 => absurd q9 (iI_pos (by omega) (by omega))) (fun _ => ?_)
  refine lv_aload_n hx hb dL_refused_608 rfl (lv_at hl 0 rfl) ?_
  refine lv_iconst (v := 0) hx hb dL_refused_609 (by decide) ?_
  refine lv_iconst (v := 2) hx hb dL_refused_610 (by decide) ?_
  refine lv_bipush (v := 63) hx hb dL_refused_611 (by decide) ?_
  refine lv_iconst (v := 0) hx hb dL_refused_613 (by decide) ?_
  refine lv_iconst (v := 0) hx hb dL_refused_614 (by decide) ?_
  refine zcw0 (klx0_L_noting l N g j q K 0 2 63 0 0 (dx_addNote0 (N := N) hZ (a := 0) (b := 2) (c := 63) (d := 0) (w := 0) (by unfold zInt; omega) (by unfold zInt; omega) (by omega) (ea := (by decide)) (eb := (by decide)) (ec := (by decide)) (ed := (by decide)) (ew := (by decide))) hfl) F hN hJ zyl_L_noting zw_840 ⟨by decide, by decide⟩ (n := 6) (by decide +kernel) zw_845 hP hD hS rfl hl.1 (rest := []) rfl (Nat.le_of_ble_eq_true rfl) ⟨rfl, rfl⟩ ⟨Nat.le_of_ble_eq_true rfl, Nat.le_of_ble_eq_true rfl⟩ ⟨Nat.le_of_ble_eq_true rfl, Nat.le_of_ble_eq_true rfl⟩ dL_refused_615 (fun H locs hP hD hS => ?_)
  refine lv_iconst (v := (-1)) hx hb dL_refused_618 (by decide) ?_
  refine lv_icmp_ne (tgt := 768) hx hb dL_refused_619 (by decide) (fun q9 => absurd q9 (by decide)) (fun _ => ?_)
  refine lv_aload_n hx hb dL_refused_622 rfl (lv_at hl 0 rfl) ?_
  refine lv_iconst (v := 0) hx hb dL_refused_623 (by decide) ?_
  refine lv_iconst (v := (-1)) hx hb dL_refused_624 (by decide) ?_
  refine lv_iconst (v := 0) hx hb dL_refused_625 (by decide) ?_
  refine lv_iconst (v := 0) hx hb dL_refused_626 (by decide) ?_
  refine lv_iconst (v := 0) hx hb dL_refused_627 (by decide) ?_
  refine zcw0 (klx0_L_noting l N g j q K 0 (-1) 0 0 0 (dx_addNote0 (N := N) hZ (a := 0) (b := (-1)) (c := 0) (d := 0) (w := 0) (by unfold zInt; omega) (by unfold zInt; omega) (by omega) (ea := (by decide)) (eb := (by decide)) (ec := (by decide)) (ed := (by decide)) (ew := (by decide))) hfl) F hN hJ zyl_L_noting zw_840 ⟨by decide, by decide⟩ (n := 6) (by decide +kernel) zw_845 hP hD hS rfl hl.1 (rest := []) rfl (Nat.le_of_ble_eq_true rfl) ⟨rfl, rfl⟩ ⟨Nat.le_of_ble_eq_true rfl, Nat.le_of_ble_eq_true rfl⟩ ⟨Nat.le_of_ble_eq_true rfl, Nat.le_of_ble_eq_true rfl⟩ dL_refused_628 (fun H locs hP hD hS => ?_)
  refine lv_iconst (v := (-1)) hx hb dL_refused_631 (by decide) ?_
  refine lv_icmp_ne (tgt := 768) hx hb dL_refused_632 (by decide) (fun q9 => absurd q9 (by decide)) (fun _ => ?_)
  refine lv_aload_n hx hb dL_refused_635 rfl (lv_at hl 0 rfl) ?_
  refine lv_iconst (v := 0) hx hb dL_refused_636 (by decide) ?_
  refine lv_iconst (v := 0) hx hb dL_refused_637 (by decide) ?_
  refine lv_bipush (v := 63) hx hb dL_refused_638 (by decide) ?_
  refine lv_iconst (v := 0) hx hb dL_refused_640 (by decide) ?_
  refine lv_iconst (v := 0) hx hb dL_refused_641 (by decide) ?_
  refine zcw0 (klx1_L_noting l N g j q K 0 0 63 0 0 (dx_addNote1 (N := N) hZ (a := 0) (b := 0) (c := 63) (d := 0) (w := 0) (by unfold zInt; omega) (by unfold zInt; omega) (by unfold zInt; omega) (by unfold zInt; omega) (by unfold zInt; omega) (by omega) (by decide) (ea := (by decide)) (eb := (by decide)) (ec := (by decide)) (ed := (by decide)) (ew := (by decide))) hfl) F hN hJ zyl_L_noting zw_840 ⟨by decide, by decide⟩ (n := 6) (by decide +kernel) zw_845 hP hD hS rfl hl.1 (rest := []) rfl (Nat.le_of_ble_eq_true rfl) ⟨rfl, rfl⟩ ⟨Nat.le_of_ble_eq_true rfl, Nat.le_of_ble_eq_true rfl⟩ ⟨Nat.le_of_ble_eq_true rfl, Nat.le_of_ble_eq_true rfl⟩ dL_refused_642 (fun H locs hP hD hS => ?_)
  refine lv_bipush (v := (-2)) hx hb dL_refused_645 (by decide) ?_
  refine lv_icmp_ne (tgt := 768) hx hb dL_refused_647 (by decide) (fun q9 => absurd q9 (by decide)) (fun _ => ?_)
  refine lv_aload_n hx hb dL_refused_650 rfl (lv_at hl 0 rfl) ?_
  refine lv_iconst (v := 0) hx hb dL_refused_651 (by decide) ?_
  refine lv_iconst (v := 1) hx hb dL_refused_652 (by decide) ?_
  refine lv_iconst (v := (-1)) hx hb dL_refused_653 (by decide) ?_
  refine lv_iconst (v := 0) hx hb dL_refused_654 (by decide) ?_
  refine lv_iconst (v := 0) hx hb dL_refused_655 (by decide) ?_
  refine zcw0 (klx1_L_noting l N g j q K 0 1 (-1) 0 0 (dx_addNote1 (N := N) hZ (a := 0) (b := 1) (c := (-1)) (d := 0) (w := 0) (by unfold zInt; omega) (by unfold zInt; omega) (by unfold zInt; omega) (by unfold zInt; omega) (by unfold zInt; omega) (by omega) (by decide) (ea := (by decide)) (eb := (by decide)) (ec := (by decide)) (ed := (by decide)) (ew := (by decide))) hfl) F hN hJ zyl_L_noting zw_840 ⟨by decide, by decide⟩ (n := 6) (by decide +kernel) zw_845 hP hD hS rfl hl.1 (rest := []) rfl (Nat.le_of_ble_eq_true rfl) ⟨rfl, rfl⟩ ⟨Nat.le_of_ble_eq_true rfl, Nat.le_of_ble_eq_true rfl⟩ ⟨Nat.le_of_ble_eq_true rfl, Nat.le_of_ble_eq_true rfl⟩ dL_refused_656 (fun H locs hP hD hS => ?_)
  refine lv_bipush (v := (-2)) hx hb dL_refused_659 (by decide) ?_
  refine lv_icmp_ne (tgt := 768) hx hb dL_refused_661 (by decide) (fun q9 => absurd q9 (by decide)) (fun _ => ?_)
  refine lv_aload_n hx hb dL_refused_664 rfl (lv_at hl 0 rfl) ?_
  refine lv_iconst (v := 0) hx hb dL_refused_665 (by decide) ?_
  refine lv_iconst (v := 0) hx hb dL_refused_666 (by decide) ?_
  refine lv_iconst (v := 0) hx hb dL_refused_667 (by decide) ?_
  refine lv_iconst (v := 4) hx hb dL_refused_668 (by decide) ?_
  refine lv_iconst (v := 0) hx hb dL_refused_669 (by decide) ?_
  refine zcw0 (klx1_L_noting l N g j q K 0 0 0 4 0 (dx_addNote1 (N := N) hZ (a := 0) (b := 0) (c := 0) (d := 4) (w := 0) (by unfold zInt; omega) (by unfold zInt; omega) (by unfold zInt; omega) (by unfold zInt; omega) (by unfold zInt; omega) (by omega) (by decide) (ea := (by decide)) (eb := (by decide)) (ec := (by decide)) (ed := (by decide)) (ew := (by decide))) hfl) F hN hJ zyl_L_noting zw_840 ⟨by decide, by decide⟩ (n := 6) (by decide +kernel) zw_845 hP hD hS rfl hl.1 (rest := []) rfl (Nat.le_of_ble_eq_true rfl) ⟨rfl, rfl⟩ ⟨Nat.le_of_ble_eq_true rfl, Nat.le_of_ble_eq_true rfl⟩ ⟨Nat.le_of_ble_eq_true rfl, Nat.le_of_ble_eq_true rfl⟩ dL_refused_670 (fun H locs hP hD hS => ?_)
  refine lv_bipush (v := (-2)) hx hb dL_refused_673 (by decide) ?_
  refine lv_icmp_ne (tgt := 768) hx hb dL_refused_675 (by decide) (fun q9 => absurd q9 (by decide)) (fun _ => ?_)
  refine lv_aload_n hx hb dL_refused_678 rfl (lv_at hl 0 rfl) ?_
  refine lv_iconst (v := 0) hx hb dL_refused_679 (by decide) ?_
  refine lv_iconst (v := 1) hx hb dL_refused_680 (by decide) ?_
  refine lv_iconst (v := 0) hx hb dL_refused_681 (by decide) ?_
  refine lv_iconst (v := 0) hx hb dL_refused_682 (by decide) ?_
  refine lv_bipush (v := 10) hx hb dL_refused_683 (by decide) ?_
  refine zcw0 (klx1_L_noting l N g j q K 0 1 0 0 10 (dx_addNote1 (N := N) hZ (a := 0) (b := 1) (c := 0) (d := 0) (w := 10) (by unfold zInt; omega) (by unfold zInt; omega) (by unfold zInt; omega) (by unfold zInt; omega) (by unfold zInt; omega) (by omega) (by decide) (ea := (by decide)) (eb := (by decide)) (ec := (by decide)) (ed := (by decide)) (ew := (by decide))) hfl) F hN hJ zyl_L_noting zw_840 ⟨by decide, by decide⟩ (n := 6) (by decide +kernel) zw_845 hP hD hS rfl hl.1 (rest := []) rfl (Nat.le_of_ble_eq_true rfl) ⟨rfl, rfl⟩ ⟨Nat.le_of_ble_eq_true rfl, Nat.le_of_ble_eq_true rfl⟩ ⟨Nat.le_of_ble_eq_true rfl, Nat.le_of_ble_eq_true rfl⟩ dL_refused_685 (fun H locs hP hD hS => ?_)
  refine lv_bipush (v := (-2)) hx hb dL_refused_688 (by decide) ?_
  refine lv_icmp_ne (tgt := 768) hx hb dL_refused_690 (by decide) (fun q9 => absurd q9 (by decide)) (fun _ => ?_)
  refine lv_aload_n hx hb dL_refused_693 rfl (lv_at hl 0 rfl) ?_
  refine lv_iconst (v := 0) hx hb dL_refused_694 (by decide) ?_
  refine lv_iconst (v := (-1)) hx hb dL_refused_695 (by decide) ?_
  refine lv_iconst (v := 0) hx hb dL_refused_696 (by decide) ?_
  refine zcw0 (klx0_L_resting l N g j q K 0 (-1) 0 (dx_addRest0 (N := N) hZ (a := 0) (b := (-1)) (c := 0) (by unfold zInt; omega) (by unfold zInt; omega) (by omega) (ea := (by decide)) (eb := (by decide)) (ec := (by decide))) hfl) F hN hJ zyl_L_resting zw_840 ⟨by decide, by decide⟩ (n := 4) (by decide +kernel) zw_848 hP hD hS rfl hl.1 (rest := []) rfl (Nat.le_of_ble_eq_true rfl) ⟨rfl, rfl⟩ ⟨Nat.le_of_ble_eq_true rfl, Nat.le_of_ble_eq_true rfl⟩ ⟨Nat.le_of_ble_eq_true rfl, Nat.le_of_ble_eq_true rfl⟩ dL_refused_697 (fun H locs hP hD hS => ?_)
  refine lv_iconst (v := (-1)) hx hb dL_refused_700 (by decide) ?_
  refine lv_icmp_ne (tgt := 768) hx hb dL_refused_701 (by decide) (fun q9 => absurd q9 (by decide)) (fun _ => ?_)
  refine lv_aload_n hx hb dL_refused_704 rfl (lv_at hl 0 rfl) ?_
  refine lv_iconst (v := 0) hx hb dL_refused_705 (by decide) ?_
  refine lv_iconst (v := 0) hx hb dL_refused_706 (by decide) ?_
  refine lv_bipush (v := 10) hx hb dL_refused_707 (by decide) ?_
  refine zcw0 (klx1_L_resting l N g j q K 0 0 10 (dx_addRest1 (N := N) hZ (a := 0) (b := 0) (c := 10) (by unfold zInt; omega) (by unfold zInt; omega) (by unfold zInt; omega) (by omega) (by decide) (ea := (by decide)) (eb := (by decide)) (ec := (by decide))) hfl) F hN hJ zyl_L_resting zw_840 ⟨by decide, by decide⟩ (n := 4) (by decide +kernel) zw_848 hP hD hS rfl hl.1 (rest := []) rfl (Nat.le_of_ble_eq_true rfl) ⟨rfl, rfl⟩ ⟨Nat.le_of_ble_eq_true rfl, Nat.le_of_ble_eq_true rfl⟩ ⟨Nat.le_of_ble_eq_true rfl, Nat.le_of_ble_eq_true rfl⟩ dL_refused_709 (fun H locs hP hD hS => ?_)
  refine lv_bipush (v := (-2)) hx hb dL_refused_712 (by decide) ?_
  refine lv_icmp_ne (tgt := 768) hx hb dL_refused_714 (by decide) (fun q9 => absurd q9 (by decide)) (fun _ => ?_)
  refine lv_aload_n hx hb dL_refused_717 rfl (lv_at hl 0 rfl) ?_
  refine lv_iconst (v := 0) hx hb dL_refused_718 (by decide) ?_
  refine lv_iconst (v := 1) hx hb dL_refused_719 (by decide) ?_
  refine lv_iconst (v := (-1)) hx hb dL_refused_720 (by decide) ?_
  refine zcw0 (klx1_L_resting l N g j q K 0 1 (-1) (dx_addRest1 (N := N) hZ (a := 0) (b := 1) (c := (-1)) (by unfold zInt; omega) (by unfold zInt; omega) (by unfold zInt; omega) (by omega) (by decide) (ea := (by decide)) (eb := (by decide)) (ec := (by decide))) hfl) F hN hJ zyl_L_resting zw_840 ⟨by decide, by decide⟩ (n := 4) (by decide +kernel) zw_848 hP hD hS rfl hl.1 (rest := []) rfl (Nat.le_of_ble_eq_true rfl) ⟨rfl, rfl⟩ ⟨Nat.le_of_ble_eq_true rfl, Nat.le_of_ble_eq_true rfl⟩ ⟨Nat.le_of_ble_eq_true rfl, Nat.le_of_ble_eq_true rfl⟩ dL_refused_721 (fun H locs hP hD hS => ?_)
  refine lv_bipush (v := (-2)) hx hb dL_refused_724 (by decide) ?_
  refine lv_icmp_ne (tgt := 768) hx hb dL_refused_726 (by decide) (fun q9 => absurd q9 (by decide)) (fun _ => ?_)
  refine lv_aload_n hx hb dL_refused_729 rfl (lv_at hl 0 rfl) ?_
  refine lv_iconst (v := 0) hx hb dL_refused_730 (by decide) ?_
  refine lv_iconst (v := 2) hx hb dL_refused_731 (by decide) ?_
  refine lv_iconst (v := 0) hx hb dL_refused_732 (by decide) ?_
  refine zcw0 (klx0_L_dropping l N g j q K 0 2 0 (dx_removeEvent (N := N) hZ (a := 0) (b := 2) (c := 0) (by unfold zInt; omega) (by unfold zInt; omega) (by unfold zInt; omega) (by rw [gC_out (by omega)]; omega) (ea := (by decide)) (eb := (by decide)) (ec := (by decide))) hfl) F hN hJ zyl_L_dropping zw_840 ⟨by decide, by decide⟩ (n := 4) (by decide +kernel) zw_851 hP hD hS rfl hl.1 (rest := []) rfl (Nat.le_of_ble_eq_true rfl) ⟨rfl, rfl⟩ ⟨Nat.le_of_ble_eq_true rfl, Nat.le_of_ble_eq_true rfl⟩ ⟨Nat.le_of_ble_eq_true rfl, Nat.le_of_ble_eq_true rfl⟩ dL_refused_733 (fun H locs hP hD hS => ?_)
  refine lv_iconst (v := (-1)) hx hb dL_refused_736 (by decide) ?_
  refine lv_icmp_ne (tgt := 768) hx hb dL_refused_737 (by decide) (fun q9 => absurd q9 (by decide)) (fun _ => ?_)
  refine lv_aload_n hx hb dL_refused_740 rfl (lv_at hl 0 rfl) ?_
  refine lv_iconst (v := 0) hx hb dL_refused_741 (by decide) ?_
  refine lv_iconst (v := 0) hx hb dL_refused_742 (by decide) ?_
  refine lv_iconst (v := (-1)) hx hb dL_refused_743 (by decide) ?_
  refine zcw0 (klx0_L_dropping l N g j q K 0 0 (-1) (dx_removeEvent (N := N) hZ (a := 0) (b := 0) (c := (-1)) (by unfold zInt; omega) (by unfold zInt; omega) (by unfold zInt; omega) (by omega) (ea := (by decide)) (eb := (by decide)) (ec := (by decide))) hfl) F hN hJ zyl_L_dropping zw_840 ⟨by decide, by decide⟩ (n := 4) (by decide +kernel) zw_851 hP hD hS rfl hl.1 (rest := []) rfl (Nat.le_of_ble_eq_true rfl) ⟨rfl, rfl⟩ ⟨Nat.le_of_ble_eq_true rfl, Nat.le_of_ble_eq_true rfl⟩ ⟨Nat.le_of_ble_eq_true rfl, Nat.le_of_ble_eq_true rfl⟩ dL_refused_744 (fun H locs hP hD hS => ?_)
  refine lv_iconst (v := (-1)) hx hb dL_refused_747 (by decide) ?_
  refine lv_icmp_ne (tgt := 768) hx hb dL_refused_748 (by decide) (fun q9 => absurd q9 (by decide)) (fun _ => ?_)
  refine lv_aload_n hx hb dL_refused_751 rfl (lv_at hl 0 rfl) ?_
  refine lv_iconst (v := 0) hx hb dL_refused_752 (by decide) ?_
  refine lv_iconst (v := 1) hx hb dL_refused_753 (by decide) ?_
  refine lv_aload_n hx hb dL_refused_754 rfl (lv_at hl 0 rfl) ?_
  refine lv_iconst (v := 0) hx hb dL_refused_755 (by decide) ?_
  refine lv_bipush (v := 9) hx hb dL_refused_756 (by decide) ?_
  refine cd0_measure 0 9 (a := iI (S.2.2.1 0 1 : Int)) ((d_measure (N := N) hN2 hZ (a := 0) (b := 9) (by unfold zInt; omega) (by unfold zInt; omega) (ea := by decide) (eb := by decide)).trans (by rw [if_pos (by omega), if_pos (by omega)]; rfl)) F zw_781 hP hD hS hl.1 (Nat.le_of_ble_eq_true rfl) ⟨Nat.le_of_ble_eq_true rfl, Nat.le_of_ble_eq_true rfl⟩ ⟨Nat.le_of_ble_eq_true rfl, Nat.le_of_ble_eq_true rfl⟩ dL_refused_758 (fun H locs hP hD hS => ?_)
  refine zcw0 (klx0_L_dropping l N g j q K 0 1 (iI (S.2.2.1 0 1 : Int)) (dx_removeEvent (N := N) hZ (a := 0) (b := 1) (c := (S.2.2.1 0 1 : Int)) (by unfold zInt; omega) (by unfold zInt; omega) (zIn_ (S.2.2.1 0 1) (by omega)) (by rw [show gC S 0 1 = (S.2.2.1 0 1 : Int) from gC_in0 (m := 0) (v := 1) (by omega) (by omega)]; omega) (ea := (by decide)) (eb := (by decide)) (ec := rfl)) hfl) F hN hJ zyl_L_dropping zw_840 ⟨by decide, by decide⟩ (n := 4) (by decide +kernel) zw_851 hP hD hS rfl hl.1 (rest := []) rfl (Nat.le_of_ble_eq_true rfl) ⟨rfl, rfl⟩ ⟨Nat.le_of_ble_eq_true rfl, Nat.le_of_ble_eq_true rfl⟩ ⟨Nat.le_of_ble_eq_true rfl, Nat.le_of_ble_eq_true rfl⟩ dL_refused_761 (fun H locs hP hD hS => ?_)
  refine lv_iconst (v := (-1)) hx hb dL_refused_764 (by decide) ?_
  refine lv_icmp_eq (tgt := 770) hx hb dL_refused_765 (by decide) (fun _ => ?_) (fun q9 => absurd q9 (by decide))
  exact kk _ _ _ _ hZ hP hD hS (lv_sub hl [0, 1, 2] rfl)
set_option maxHeartbeats 8000000 in
set_option maxRecDepth 100000 in
theorem rf_E (hN2 : 20000 ≤ N) (hfl : l.stackTraces = false) (F : zF p m c cL_refused 6 s args RL g A) (hN : zN s) (hJ : va_K (zD g) vwCl (zJT j) s) (hZ : zC S hs L T K) (hP : va_P (zD g) vwCl (zcW g q K) H) (hD : va_D A (zcW g q K)) (hS : va_S A s.heap H locs) (hl : lv_has ls 6 [(0, .ref (q 0)), (1, .long (mxD S hs.length L T)), (3, .int (iI (S.1 : Int)))]) (qn : 0 < S.1)
    (kk : ∀ (K : zKT) (H : Heap) (locs : List Loc) (ls : Array Slot), zC S hs L T K → va_P (zD g) vwCl (zcW g q K) H → va_D A (zcW g q K) → va_S A s.heap H locs → lv_has ls 6 [(0, .ref (q 0)), (1, .long (mxD S hs.length L T)), (3, .int (iI (S.1 : Int)))] → W p l e rm_L_refused s m args below meth c H locs 80 480 Q (F0 m 836 ls [])) : W p l e rm_L_refused s m args below meth c H locs 76 456 Q (F0 m 770 ls []) := by
  have hx := F.1.1
  have hb := F.1.2.1
  have hz := F.1.2.2.2.2
  obtain ⟨z1, z2, z3, z4, z5⟩ := zC_ok hZ
  have z6 := z1.1.1
  have hc0 : 0 < S.1 → S.2.2.1 0 0 ≤ 24 ∧ S.2.2.1 0 1 ≤ 24 := fun h => ⟨((z1.1.2 0 h).2 0 (by omega)).1, ((z1.1.2 0 h).2 1 (by omega)).1⟩
  have hc1 := hc0 qn
  refine lv_iload_n hx hb dL_refused_770 rfl (lv_at hl 2 rfl) ?_
  refine lv_if_le (tgt := 937) hx hb dL_refused_771 (by decide) (fun q9 => absurd q9 (iI_pos (by omega) (by omega))) (fun _ => ?_)
  refine lv_aload_n hx hb dL_refused_774 rfl (lv_at hl 0 rfl) ?_
  refine lv_iconst (v := 0) hx hb dL_refused_775 (by decide) ?_
  refine lv_iconst (v := (-1)) hx hb dL_refused_776 (by decide) ?_
  refine zcw0 (klx1_L_measuring l N g j q K 0 (-1) ((d_measure (N := N) hN2 hZ (a := 0) (b := (-1)) (by unfold zInt; omega) (by unfold zInt; omega) (ea := (by decide)) (eb := (by decide))).trans (by rw [if_pos (by omega), if_neg (by omega)])) hfl) F hN hJ zyl_L_measuring zw_840 ⟨by decide, by decide⟩ (n := 3) (by decide +kernel) zw_854 hP hD hS rfl hl.1 (rest := []) rfl (Nat.le_of_ble_eq_true rfl) ⟨rfl, rfl⟩ ⟨Nat.le_of_ble_eq_true rfl, Nat.le_of_ble_eq_true rfl⟩ ⟨Nat.le_of_ble_eq_true rfl, Nat.le_of_ble_eq_true rfl⟩ dL_refused_777 (fun H locs hP hD hS => ?_)
  refine lv_sipush (v := (-2002)) hx hb dL_refused_780 (by decide) ?_
  refine lv_icmp_ne (tgt := 935) hx hb dL_refused_783 (by decide) (fun q9 => absurd q9 (by decide)) (fun _ => ?_)
  refine lv_aload_n hx hb dL_refused_786 rfl (lv_at hl 0 rfl) ?_
  refine lv_iload_n hx hb dL_refused_787 rfl (lv_at hl 2 rfl) ?_
  refine lv_iconst (v := 1) hx hb dL_refused_788 (by decide) ?_
  refine lv_isub hx hb dL_refused_789 ?_
  rw [show ((iI (S.1 : Int)) - 1) = (iI ((S.1 : Int) - 1)) from (by rw [show (1 : Int32) = iI 1 from rfl, iI_sub])]
  refine lv_bipush (v := 12) hx hb dL_refused_790 (by decide) ?_
  refine zcw0 (klx1_L_measuring l N g j q K (iI ((S.1 : Int) - 1)) 12 ((d_measure (N := N) hN2 hZ (a := ((S.1 : Int) - 1)) (b := 12) (by unfold zInt; omega) (by unfold zInt; omega) (ea := rfl) (eb := (by decide))).trans (by rw [if_pos (by omega), if_neg (by omega)])) hfl) F hN hJ zyl_L_measuring zw_840 ⟨by decide, by decide⟩ (n := 3) (by decide +kernel) zw_854 hP hD hS rfl hl.1 (rest := []) rfl (Nat.le_of_ble_eq_true rfl) ⟨rfl, rfl⟩ ⟨Nat.le_of_ble_eq_true rfl, Nat.le_of_ble_eq_true rfl⟩ ⟨Nat.le_of_ble_eq_true rfl, Nat.le_of_ble_eq_true rfl⟩ dL_refused_792 (fun H locs hP hD hS => ?_)
  refine lv_sipush (v := (-2002)) hx hb dL_refused_795 (by decide) ?_
  refine lv_icmp_ne (tgt := 935) hx hb dL_refused_798 (by decide) (fun q9 => absurd q9 (by decide)) (fun _ => ?_)
  refine lv_aload_n hx hb dL_refused_801 rfl (lv_at hl 0 rfl) ?_
  refine lv_iconst (v := 0) hx hb dL_refused_802 (by decide) ?_
  refine lv_iconst (v := 2) hx hb dL_refused_803 (by decide) ?_
  refine lv_iconst (v := 0) hx hb dL_refused_804 (by decide) ?_
  refine lv_iconst (v := 0) hx hb dL_refused_805 (by decide) ?_
  refine zcw0 (klx0_L_asking l N g j q K 0 2 0 0 ((d_event (N := N) hN2 hZ (a := 0) (b := 2) (c := 0) (w := 0) (by unfold zInt; omega) (by unfold zInt; omega) (by unfold zInt; omega) (by unfold zInt; omega) (ea := (by decide)) (eb := (by decide)) (ec := (by decide)) (ew := (by decide))).trans (by rw [if_neg (by rw [gC_out (by omega)]; omega)])) hfl) F hN hJ zyl_L_asking zw_840 ⟨by decide, by decide⟩ (n := 5) (by decide +kernel) zw_857 hP hD hS rfl hl.1 (rest := []) rfl (Nat.le_of_ble_eq_true rfl) ⟨rfl, rfl⟩ ⟨Nat.le_of_ble_eq_true rfl, Nat.le_of_ble_eq_true rfl⟩ ⟨Nat.le_of_ble_eq_true rfl, Nat.le_of_ble_eq_true rfl⟩ dL_refused_806 (fun H locs hP hD hS => ?_)
  refine lv_sipush (v := (-2001)) hx hb dL_refused_809 (by decide) ?_
  refine lv_icmp_ne (tgt := 935) hx hb dL_refused_812 (by decide) (fun q9 => absurd q9 (by decide)) (fun _ => ?_)
  refine lv_aload_n hx hb dL_refused_815 rfl (lv_at hl 0 rfl) ?_
  refine lv_iconst (v := 0) hx hb dL_refused_816 (by decide) ?_
  refine lv_iconst (v := 0) hx hb dL_refused_817 (by decide) ?_
  refine lv_aload_n hx hb dL_refused_818 rfl (lv_at hl 0 rfl) ?_
  refine lv_iconst (v := 0) hx hb dL_refused_819 (by decide) ?_
  refine lv_bipush (v := 8) hx hb dL_refused_820 (by decide) ?_
  refine cd0_measure 0 8 (a := iI (S.2.2.1 0 0 : Int)) ((d_measure (N := N) hN2 hZ (a := 0) (b := 8) (by unfold zInt; omega) (by unfold zInt; omega) (ea := by decide) (eb := by decide)).trans (by rw [if_pos (by omega), if_pos (by omega)]; rfl)) F zw_781 hP hD hS hl.1 (Nat.le_of_ble_eq_true rfl) ⟨Nat.le_of_ble_eq_true rfl, Nat.le_of_ble_eq_true rfl⟩ ⟨Nat.le_of_ble_eq_true rfl, Nat.le_of_ble_eq_true rfl⟩ dL_refused_822 (fun H locs hP hD hS => ?_)
  refine lv_bipush (v := 11) hx hb dL_refused_825 (by decide) ?_
  refine zcw0 (klx0_L_asking l N g j q K 0 0 (iI (S.2.2.1 0 0 : Int)) 11 ((d_event (N := N) hN2 hZ (a := 0) (b := 0) (c := (S.2.2.1 0 0 : Int)) (w := 11) (by unfold zInt; omega) (by unfold zInt; omega) (zIn_ (S.2.2.1 0 0) (by omega)) (by unfold zInt; omega) (ea := (by decide)) (eb := (by decide)) (ec := rfl) (ew := (by decide))).trans (by rw [if_neg (by rw [show gC S 0 0 = (S.2.2.1 0 0 : Int) from gC_in0 (m := 0) (v := 0) (by omega) (by omega)]; omega)])) hfl) F hN hJ zyl_L_asking zw_840 ⟨by decide, by decide⟩ (n := 5) (by decide +kernel) zw_857 hP hD hS rfl hl.1 (rest := []) rfl (Nat.le_of_ble_eq_true rfl) ⟨rfl, rfl⟩ ⟨Nat.le_of_ble_eq_true rfl, Nat.le_of_ble_eq_true rfl⟩ ⟨Nat.le_of_ble_eq_true rfl, Nat.le_of_ble_eq_true rfl⟩ dL_refused_827 (fun H locs hP hD hS => ?_)
  refine lv_sipush (v := (-2001)) hx hb dL_refused_830 (by decide) ?_
  refine lv_icmp_ne (tgt := 935) hx hb dL_refused_833 (by decide) (fun q9 => absurd q9 (by decide)) (fun _ => ?_)
  exact kk _ _ _ _ hZ hP hD hS (lv_sub hl [0, 1, 2] rfl)
set_option maxHeartbeats 8000000 in
set_option maxRecDepth 100000 in
theorem rf_F (hN2 : 20000 ≤ N) (hfl : l.stackTraces = false) (F : zF p m c cL_refused 6 s args RL g A) (hN : zN s) (hJ : va_K (zD g) vwCl (zJT j) s) (hZ : zC S hs L T K) (hP : va_P (zD g) vwCl (zcW g q K) H) (hD : va_D A (zcW g q K)) (hS : va_S A s.heap H locs) (hl : lv_has ls 6 [(0, .ref (q 0)), (1, .long (mxD S hs.length L T)), (3, .int (iI (S.1 : Int)))]) (qn : 0 < S.1)
    (kk : ∀ (K : zKT) (H : Heap) (locs : List Loc) (ls : Array Slot), zC S hs L T K → va_P (zD g) vwCl (zcW g q K) H → va_D A (zcW g q K) → va_S A s.heap H locs → lv_has ls 6 [(0, .ref (q 0)), (1, .long (mxD S hs.length L T)), (3, .int (iI (S.1 : Int)))] → W p l e rm_L_refused s m args below meth c H locs 82 492 Q (F0 m 875 ls [])) : W p l e rm_L_refused s m args below meth c H locs 80 480 Q (F0 m 836 ls []) := by
  have hx := F.1.1
  have hb := F.1.2.1
  have hz := F.1.2.2.2.2
  obtain ⟨z1, z2, z3, z4, z5⟩ := zC_ok hZ
  have z6 := z1.1.1
  have hc0 : 0 < S.1 → S.2.2.1 0 0 ≤ 24 ∧ S.2.2.1 0 1 ≤ 24 := fun h => ⟨((z1.1.2 0 h).2 0 (by omega)).1, ((z1.1.2 0 h).2 1 (by omega)).1⟩
  have hc1 := hc0 qn
  by_cases qc : 0 < S.2.2.1 0 0
  · refine lv_aload_n hx hb dL_refused_836 rfl (lv_at hl 0 rfl) ?_
    refine lv_iconst (v := 0) hx hb dL_refused_837 (by decide) ?_
    refine lv_bipush (v := 8) hx hb dL_refused_838 (by decide) ?_
    refine cd0_measure 0 8 (a := iI (S.2.2.1 0 0 : Int)) ((d_measure (N := N) hN2 hZ (a := 0) (b := 8) (by unfold zInt; omega) (by unfold zInt; omega) (ea := by decide) (eb := by decide)).trans (by rw [if_pos (by omega), if_pos (by omega)]; rfl)) F zw_781 hP hD hS hl.1 (Nat.le_of_ble_eq_true rfl) ⟨Nat.le_of_ble_eq_true rfl, Nat.le_of_ble_eq_true rfl⟩ ⟨Nat.le_of_ble_eq_true rfl, Nat.le_of_ble_eq_true rfl⟩ dL_refused_840 (fun H locs hP hD hS => ?_)
    refine lv_if_le (tgt := 875) hx hb dL_refused_843 (by decide) (fun q9 => absurd q9 (iI_pos (by omega) (by omega))) (fun _ => ?_)
    refine lv_aload_n hx hb dL_refused_846 rfl (lv_at hl 0 rfl) ?_
    refine lv_iconst (v := 0) hx hb dL_refused_847 (by decide) ?_
    refine lv_iconst (v := 0) hx hb dL_refused_848 (by decide) ?_
    refine lv_iconst (v := 0) hx hb dL_refused_849 (by decide) ?_
    refine lv_bipush (v := 10) hx hb dL_refused_850 (by decide) ?_
    refine zcw0 (klx1_L_asking l N g j q K 0 0 0 10 ((d_event (N := N) hN2 hZ (a := 0) (b := 0) (c := 0) (w := 10) (by unfold zInt; omega) (by unfold zInt; omega) (by unfold zInt; omega) (by unfold zInt; omega) (ea := (by decide)) (eb := (by decide)) (ec := (by decide)) (ew := (by decide))).trans (by rw [if_pos (by rw [show gC S 0 0 = (S.2.2.1 0 0 : Int) from gC_in0 (m := 0) (v := 0) (by omega) (by omega)]; omega), if_neg (by omega)])) hfl) F hN hJ zyl_L_asking zw_840 ⟨by decide, by decide⟩ (n := 5) (by decide +kernel) zw_857 hP hD hS rfl hl.1 (rest := []) rfl (Nat.le_of_ble_eq_true rfl) ⟨rfl, rfl⟩ ⟨Nat.le_of_ble_eq_true rfl, Nat.le_of_ble_eq_true rfl⟩ ⟨Nat.le_of_ble_eq_true rfl, Nat.le_of_ble_eq_true rfl⟩ dL_refused_852 (fun H locs hP hD hS => ?_)
    refine lv_sipush (v := (-2002)) hx hb dL_refused_855 (by decide) ?_
    refine lv_icmp_ne (tgt := 935) hx hb dL_refused_858 (by decide) (fun q9 => absurd q9 (by decide)) (fun _ => ?_)
    refine lv_aload_n hx hb dL_refused_861 rfl (lv_at hl 0 rfl) ?_
    refine lv_iconst (v := 0) hx hb dL_refused_862 (by decide) ?_
    refine lv_iconst (v := 0) hx hb dL_refused_863 (by decide) ?_
    refine lv_iconst (v := 0) hx hb dL_refused_864 (by decide) ?_
    refine lv_iconst (v := (-1)) hx hb dL_refused_865 (by decide) ?_
    refine zcw0 (klx1_L_asking l N g j q K 0 0 0 (-1) ((d_event (N := N) hN2 hZ (a := 0) (b := 0) (c := 0) (w := (-1)) (by unfold zInt; omega) (by unfold zInt; omega) (by unfold zInt; omega) (by unfold zInt; omega) (ea := (by decide)) (eb := (by decide)) (ec := (by decide)) (ew := (by decide))).trans (by rw [if_pos (by rw [show gC S 0 0 = (S.2.2.1 0 0 : Int) from gC_in0 (m := 0) (v := 0) (by omega) (by omega)]; omega), if_neg (by omega)])) hfl) F hN hJ zyl_L_asking zw_840 ⟨by decide, by decide⟩ (n := 5) (by decide +kernel) zw_857 hP hD hS rfl hl.1 (rest := []) rfl (Nat.le_of_ble_eq_true rfl) ⟨rfl, rfl⟩ ⟨Nat.le_of_ble_eq_true rfl, Nat.le_of_ble_eq_true rfl⟩ ⟨Nat.le_of_ble_eq_true rfl, Nat.le_of_ble_eq_true rfl⟩ dL_refused_866 (fun H locs hP hD hS => ?_)
    refine lv_sipush (v := (-2002)) hx hb dL_refused_869 (by decide) ?_
    refine lv_icmp_ne (tgt := 935) hx hb dL_refused_872 (by decide) (fun q9 => absurd q9 (by decide)) (fun _ => ?_)
    exact kk _ _ _ _ hZ hP hD hS (lv_sub hl [0, 1, 2] rfl)
  · refine lv_aload_n hx hb dL_refused_836 rfl (lv_at hl 0 rfl) ?_
    refine lv_iconst (v := 0) hx hb dL_refused_837 (by decide) ?_
    refine lv_bipush (v := 8) hx hb dL_refused_838 (by decide) ?_
    refine cd0_measure 0 8 (a := iI (S.2.2.1 0 0 : Int)) ((d_measure (N := N) hN2 hZ (a := 0) (b := 8) (by unfold zInt; omega) (by unfold zInt; omega) (ea := by decide) (eb := by decide)).trans (by rw [if_pos (by omega), if_pos (by omega)]; rfl)) F zw_781 hP hD hS hl.1 (Nat.le_of_ble_eq_true rfl) ⟨Nat.le_of_ble_eq_true rfl, Nat.le_of_ble_eq_true rfl⟩ ⟨Nat.le_of_ble_eq_true rfl, Nat.le_of_ble_eq_true rfl⟩ dL_refused_840 (fun H locs hP hD hS => ?_)
    refine lv_if_le (tgt := 875) hx hb dL_refused_843 (by decide) (fun _ => ?_) (fun q9 => absurd (iI_npos (by omega) (by omega)) q9)
    refine W.widen (k := 82) (n := 492) (Nat.le_of_ble_eq_true rfl) (Nat.le_of_ble_eq_true rfl) ?_
    exact kk _ _ _ _ hZ hP hD hS (lv_sub hl [0, 1, 2] rfl)
set_option maxHeartbeats 8000000 in
set_option maxRecDepth 100000 in
theorem rf_G (hN2 : 20000 ≤ N) (hfl : l.stackTraces = false) (F : zF p m c cL_refused 6 s args RL g A) (hN : zN s) (hJ : va_K (zD g) vwCl (zJT j) s) (hZ : zC S hs L T K) (hP : va_P (zD g) vwCl (zcW g q K) H) (hD : va_D A (zcW g q K)) (hS : va_S A s.heap H locs) (hl : lv_has ls 6 [(0, .ref (q 0)), (1, .long (mxD S hs.length L T)), (3, .int (iI (S.1 : Int)))]) (qn : 0 < S.1)
    (kk : ∀ (K : zKT) (H : Heap) (locs : List Loc) (ls : Array Slot), zC S hs L T K → va_P (zD g) vwCl (zcW g q K) H → va_D A (zcW g q K) → va_S A s.heap H locs → lv_has ls 6 [(0, .ref (q 0)), (1, .long (mxD S hs.length L T)), (3, .int (iI (S.1 : Int)))] → W p l e rm_L_refused s m args below meth c H locs 87 522 Q (F0 m 937 ls [])) : W p l e rm_L_refused s m args below meth c H locs 82 492 Q (F0 m 875 ls []) := by
  have hx := F.1.1
  have hb := F.1.2.1
  have hz := F.1.2.2.2.2
  obtain ⟨z1, z2, z3, z4, z5⟩ := zC_ok hZ
  have z6 := z1.1.1
  have hc0 : 0 < S.1 → S.2.2.1 0 0 ≤ 24 ∧ S.2.2.1 0 1 ≤ 24 := fun h => ⟨((z1.1.2 0 h).2 0 (by omega)).1, ((z1.1.2 0 h).2 1 (by omega)).1⟩
  have hc1 := hc0 qn
  refine lv_aload_n hx hb dL_refused_875 rfl (lv_at hl 0 rfl) ?_
  refine lv_iconst (v := 0) hx hb dL_refused_876 (by decide) ?_
  refine lv_iconst (v := 2) hx hb dL_refused_877 (by decide) ?_
  refine lv_iconst (v := 0) hx hb dL_refused_878 (by decide) ?_
  refine zcw0 (klx0_L_finding l N g j q K 0 2 0 ((d_eventAt (N := N) hN2 hZ (a := 0) (b := 2) (t := 0) (by unfold zInt; omega) (by unfold zInt; omega) (by unfold zInt; omega) (ea := (by decide)) (eb := (by decide)) (et := (by decide))).trans (by rw [if_neg (by omega)])) hfl) F hN hJ zyl_L_finding zw_840 ⟨by decide, by decide⟩ (n := 4) (by decide +kernel) zw_860 hP hD hS rfl hl.1 (rest := []) rfl (Nat.le_of_ble_eq_true rfl) ⟨rfl, rfl⟩ ⟨Nat.le_of_ble_eq_true rfl, Nat.le_of_ble_eq_true rfl⟩ ⟨Nat.le_of_ble_eq_true rfl, Nat.le_of_ble_eq_true rfl⟩ dL_refused_879 (fun H locs hP hD hS => ?_)
  refine lv_iconst (v := (-1)) hx hb dL_refused_882 (by decide) ?_
  refine lv_icmp_ne (tgt := 935) hx hb dL_refused_883 (by decide) (fun q9 => absurd q9 (by decide)) (fun _ => ?_)
  refine lv_aload_n hx hb dL_refused_886 rfl (lv_at hl 0 rfl) ?_
  refine lv_iconst (v := 0) hx hb dL_refused_887 (by decide) ?_
  refine lv_iconst (v := 1) hx hb dL_refused_888 (by decide) ?_
  refine lv_iconst (v := (-1)) hx hb dL_refused_889 (by decide) ?_
  refine zcw0 (klx1_L_finding l N g j q K 0 1 (-1) ((d_eventAt (N := N) hN2 hZ (a := 0) (b := 1) (t := (-1)) (by unfold zInt; omega) (by unfold zInt; omega) (by unfold zInt; omega) (ea := (by decide)) (eb := (by decide)) (et := (by decide))).trans (by rw [if_pos (by omega), if_neg (by omega)])) hfl) F hN hJ zyl_L_finding zw_840 ⟨by decide, by decide⟩ (n := 4) (by decide +kernel) zw_860 hP hD hS rfl hl.1 (rest := []) rfl (Nat.le_of_ble_eq_true rfl) ⟨rfl, rfl⟩ ⟨Nat.le_of_ble_eq_true rfl, Nat.le_of_ble_eq_true rfl⟩ ⟨Nat.le_of_ble_eq_true rfl, Nat.le_of_ble_eq_true rfl⟩ dL_refused_890 (fun H locs hP hD hS => ?_)
  refine lv_bipush (v := (-2)) hx hb dL_refused_893 (by decide) ?_
  refine lv_icmp_ne (tgt := 935) hx hb dL_refused_895 (by decide) (fun q9 => absurd q9 (by decide)) (fun _ => ?_)
  refine lv_aload_n hx hb dL_refused_898 rfl (lv_at hl 0 rfl) ?_
  refine lv_iconst (v := 0) hx hb dL_refused_899 (by decide) ?_
  refine lv_iconst (v := (-1)) hx hb dL_refused_900 (by decide) ?_
  refine zcw0 (klx1_L_spelling l N g j q K 0 (-1) (dx_byteNeg (N := N) hZ (a := 0) (b := (-1)) (by unfold zInt; omega) (by unfold zInt; omega) (by omega) (by omega) (ea := (by decide)) (eb := (by decide))) hfl) F hN hJ zyl_L_spelling zw_840 ⟨by decide, by decide⟩ (n := 3) (by decide +kernel) zw_872 hP hD hS rfl hl.1 (rest := []) rfl (Nat.le_of_ble_eq_true rfl) ⟨rfl, rfl⟩ ⟨Nat.le_of_ble_eq_true rfl, Nat.le_of_ble_eq_true rfl⟩ ⟨Nat.le_of_ble_eq_true rfl, Nat.le_of_ble_eq_true rfl⟩ dL_refused_901 (fun H locs hP hD hS => ?_)
  refine lv_bipush (v := (-2)) hx hb dL_refused_904 (by decide) ?_
  refine lv_icmp_ne (tgt := 935) hx hb dL_refused_906 (by decide) (fun q9 => absurd q9 (by decide)) (fun _ => ?_)
  refine lv_aload_n hx hb dL_refused_909 rfl (lv_at hl 0 rfl) ?_
  refine lv_iconst (v := 0) hx hb dL_refused_910 (by decide) ?_
  refine lv_bipush (v := 8) hx hb dL_refused_911 (by decide) ?_
  refine zcw0 (klx1_L_changing l N g j q K 0 8 ((d_changedBy (N := N) hN2 hZ (a := 0) (b := 8) (by unfold zInt; omega) (by unfold zInt; omega) (ea := (by decide)) (eb := (by decide))).trans (by rw [if_pos (by omega), if_neg (by omega)])) hfl) F hN hJ zyl_L_changing zw_840 ⟨by decide, by decide⟩ (n := 3) (by decide +kernel) zw_887 hP hD hS rfl hl.1 (rest := []) rfl (Nat.le_of_ble_eq_true rfl) ⟨rfl, rfl⟩ ⟨Nat.le_of_ble_eq_true rfl, Nat.le_of_ble_eq_true rfl⟩ ⟨Nat.le_of_ble_eq_true rfl, Nat.le_of_ble_eq_true rfl⟩ dL_refused_913 (fun H locs hP hD hS => ?_)
  refine lv_bipush (v := (-2)) hx hb dL_refused_916 (by decide) ?_
  refine lv_icmp_ne (tgt := 935) hx hb dL_refused_918 (by decide) (fun q9 => absurd q9 (by decide)) (fun _ => ?_)
  refine lv_aload_n hx hb dL_refused_921 rfl (lv_at hl 0 rfl) ?_
  refine lv_iload_n hx hb dL_refused_922 rfl (lv_at hl 2 rfl) ?_
  refine lv_iconst (v := 1) hx hb dL_refused_923 (by decide) ?_
  refine lv_isub hx hb dL_refused_924 ?_
  rw [show ((iI (S.1 : Int)) - 1) = (iI ((S.1 : Int) - 1)) from (by rw [show (1 : Int32) = iI 1 from rfl, iI_sub])]
  refine lv_bipush (v := (-8)) hx hb dL_refused_925 (by decide) ?_
  refine zcw0 (klx1_L_changing l N g j q K (iI ((S.1 : Int) - 1)) (-8) ((d_changedBy (N := N) hN2 hZ (a := ((S.1 : Int) - 1)) (b := (-8)) (by unfold zInt; omega) (by unfold zInt; omega) (ea := rfl) (eb := (by decide))).trans (by rw [if_pos (by omega), if_neg (by omega)])) hfl) F hN hJ zyl_L_changing zw_840 ⟨by decide, by decide⟩ (n := 3) (by decide +kernel) zw_887 hP hD hS rfl hl.1 (rest := []) rfl (Nat.le_of_ble_eq_true rfl) ⟨rfl, rfl⟩ ⟨Nat.le_of_ble_eq_true rfl, Nat.le_of_ble_eq_true rfl⟩ ⟨Nat.le_of_ble_eq_true rfl, Nat.le_of_ble_eq_true rfl⟩ dL_refused_927 (fun H locs hP hD hS => ?_)
  refine lv_bipush (v := (-2)) hx hb dL_refused_930 (by decide) ?_
  refine lv_icmp_eq (tgt := 937) hx hb dL_refused_932 (by decide) (fun _ => ?_) (fun q9 => absurd q9 (by decide))
  exact kk _ _ _ _ hZ hP hD hS (lv_sub hl [0, 1, 2] rfl)
set_option maxHeartbeats 8000000 in
set_option maxRecDepth 100000 in
theorem refused_ok (l : Launch) (hfl : l.stackTraces = false) (hN2 : 20000 ≤ N) (g : zEnv) (j : zJ) (q : Nat → Nat) (S : zSt) (hs : List zSt) (L : Nat) (T : Nat → Int) : ZU l yL_refused cL_refused 6 (some .boolean) rm_L_refused g j q [.ref (q 0)] (zC S hs L T) (zC S hs L T) (some (.int 1)) 200 1200 := by
  refine zU_of (by decide) (Nat.le_of_ble_eq_true rfl) ?_
  intro p e s m below meth c A H locs ls Q R K hZ F hRm hr hlocks hN hJ hO hP hD hS hl hQ
  subst hRm
  have F : zF p m c cL_refused 6 s (([.ref (q 0)] : List Value)).toArray RL g A := F
  have hx := F.1.1
  have hb := F.1.2.1
  have hz := F.1.2.2.2.2
  obtain ⟨z1, z2, z3, z4, z5⟩ := zC_ok hZ
  have z6 := z1.1.1
  have hl : lv_has ls 6 [(0, .ref (q 0))] := hl
  refine lv_aload_n hx hb dL_refused_0 rfl (lv_at hl 0 rfl) ?_
  obtain ⟨r2, h3, e4, hZ5⟩ := d_digest (N := N) hN2 hZ
  refine cd0_digest (a := r2) h3 F zw_835 hP hD hS hl.1 (Nat.le_of_ble_eq_true rfl) ⟨Nat.le_of_ble_eq_true rfl, Nat.le_of_ble_eq_true rfl⟩ ⟨Nat.le_of_ble_eq_true rfl, Nat.le_of_ble_eq_true rfl⟩ dL_refused_1 (fun H locs hP hD hS => ?_)
  rw [e4]
  refine lv_lstore_n (lv' := [(1, .long (mxD S hs.length L T)), (0, .ref (q 0))]) hx hb dL_refused_4 rfl hl (by decide) rfl (fun ls hl => ?_)
  refine lv_aload_n hx hb dL_refused_5 rfl (lv_at hl 1 rfl) ?_
  refine lv_iconst (v := 0) hx hb dL_refused_6 (by decide) ?_
  refine cd0_whole 0 (a := iI (S.1 : Int)) ((d_whole (N := N) hN2 hZ5 (w := 0) (by unfold zInt; omega) (ew := by decide)).trans (by rw [if_pos (by omega)]; rfl)) F zw_788 hP hD hS hl.1 (Nat.le_of_ble_eq_true rfl) ⟨Nat.le_of_ble_eq_true rfl, Nat.le_of_ble_eq_true rfl⟩ ⟨Nat.le_of_ble_eq_true rfl, Nat.le_of_ble_eq_true rfl⟩ dL_refused_7 (fun H locs hP hD hS => ?_)
  refine lv_istore_n (lv' := [(3, .int (iI (S.1 : Int))), (1, .long (mxD S hs.length L T)), (0, .ref (q 0))]) hx hb dL_refused_10 rfl hl (by decide) rfl (fun ls hl => ?_)
  refine lv_iconst (v := 0) hx hb dL_refused_11 (by decide) ?_
  refine lv_istore (lv' := [(4, .int 0), (3, .int (iI (S.1 : Int))), (1, .long (mxD S hs.length L T)), (0, .ref (q 0))]) hx hb dL_refused_12 hl (by decide) rfl (fun ls hl => ?_)
  refine lv_iload hx hb dL_refused_14 (lv_at hl 0 rfl) ?_
  refine lv_iconst (v := 2) hx hb dL_refused_16 (by decide) ?_
  refine lv_icmp_ge (tgt := 262) hx hb dL_refused_17 (by decide) (fun q9 => absurd q9 (by decide)) (fun _ => ?_)
  refine lv_iload hx hb dL_refused_20 (lv_at hl 0 rfl) ?_
  refine lv_if_ne (tgt := 29) hx hb dL_refused_22 (by decide) (fun q9 => absurd q9 (by decide)) (fun _ => ?_)
  refine lv_iload_n hx hb dL_refused_25 rfl (lv_at hl 1 rfl) ?_
  refine lv_goto (tgt := 30) hx hb dL_refused_26 (by decide) ?_
  refine lv_istore (lv' := [(5, .int (iI (S.1 : Int))), (4, .int 0), (3, .int (iI (S.1 : Int))), (1, .long (mxD S hs.length L T)), (0, .ref (q 0))]) hx hb dL_refused_30 hl (by decide) rfl (fun ls hl => ?_)
  refine rf_00 hN2 hfl F hN hJ hZ5 hP hD hS (lv_sub hl [4, 3, 2, 1, 0] rfl) (fun K H locs ls hZ hP hD hS hl => ?_)
  refine rf_01 hN2 hfl F hN hJ hZ hP hD hS (lv_sub hl [0, 1, 2, 3, 4] rfl) (fun K H locs ls hZ hP hD hS hl => ?_)
  refine rf_02 hN2 hfl F hN hJ hZ hP hD hS (lv_sub hl [0, 1, 2, 3, 4] rfl) (fun K H locs ls hZ hP hD hS hl => ?_)
  refine lv_iinc (v := 1) (lv' := [(4, .int 1), (0, .ref (q 0)), (1, .long (mxD S hs.length L T)), (3, .int (iI (S.1 : Int))), (5, .int (iI (S.1 : Int)))]) hx hb dL_refused_256 hl (k := 3) rfl (by decide) (by decide) rfl (fun ls hl => ?_)
  refine lv_goto (tgt := 14) hx hb dL_refused_259 (by decide) ?_
  refine lv_iload hx hb dL_refused_14 (lv_at hl 0 rfl) ?_
  refine lv_iconst (v := 2) hx hb dL_refused_16 (by decide) ?_
  refine lv_icmp_ge (tgt := 262) hx hb dL_refused_17 (by decide) (fun q9 => absurd q9 (by decide)) (fun _ => ?_)
  refine lv_iload hx hb dL_refused_20 (lv_at hl 0 rfl) ?_
  refine lv_if_ne (tgt := 29) hx hb dL_refused_22 (by decide) (fun _ => ?_) (fun q9 => absurd q9 (by decide))
  refine lv_iconst (v := (-1)) hx hb dL_refused_29 (by decide) ?_
  refine lv_istore (lv' := [(5, .int (-1)), (4, .int 1), (0, .ref (q 0)), (1, .long (mxD S hs.length L T)), (3, .int (iI (S.1 : Int)))]) hx hb dL_refused_30 hl (by decide) rfl (fun ls hl => ?_)
  refine rf_10 hN2 hfl F hN hJ hZ hP hD hS (lv_sub hl [2, 3, 4, 1, 0] rfl) (fun K H locs ls hZ hP hD hS hl => ?_)
  refine rf_11 hN2 hfl F hN hJ hZ hP hD hS (lv_sub hl [0, 1, 2, 3, 4] rfl) (fun K H locs ls hZ hP hD hS hl => ?_)
  refine rf_12 hN2 hfl F hN hJ hZ hP hD hS (lv_sub hl [0, 1, 2, 3, 4] rfl) (fun K H locs ls hZ hP hD hS hl => ?_)
  refine lv_iinc (v := 2) (lv' := [(4, .int 2), (0, .ref (q 0)), (1, .long (mxD S hs.length L T)), (3, .int (iI (S.1 : Int))), (5, .int (-1))]) hx hb dL_refused_256 hl (k := 3) rfl (by decide) (by decide) rfl (fun ls hl => ?_)
  refine lv_goto (tgt := 14) hx hb dL_refused_259 (by decide) ?_
  refine lv_iload hx hb dL_refused_14 (lv_at hl 0 rfl) ?_
  refine lv_iconst (v := 2) hx hb dL_refused_16 (by decide) ?_
  refine lv_icmp_ge (tgt := 262) hx hb dL_refused_17 (by decide) (fun _ => ?_) (fun q9 => absurd q9 (by decide))
  refine rf_A hN2 hfl F hN hJ hZ hP hD hS (lv_sub hl [1, 2, 3] rfl) (fun K H locs ls hZ hP hD hS hl => ?_)
  refine rf_B hN2 hfl F hN hJ hZ hP hD hS (lv_sub hl [0, 1, 2] rfl) (fun K H locs ls hZ hP hD hS hl => ?_)
  by_cases qn : 0 < S.1
  · refine rf_C hN2 hfl F hN hJ hZ hP hD hS (lv_sub hl [0, 1, 2] rfl) qn (fun K H locs ls hZ hP hD hS hl => ?_)
    refine rf_D hN2 hfl F hN hJ hZ hP hD hS (lv_sub hl [0, 1, 2] rfl) qn (fun K H locs ls hZ hP hD hS hl => ?_)
    refine rf_E hN2 hfl F hN hJ hZ hP hD hS (lv_sub hl [0, 1, 2] rfl) qn (fun K H locs ls hZ hP hD hS hl => ?_)
    refine rf_F hN2 hfl F hN hJ hZ hP hD hS (lv_sub hl [0, 1, 2] rfl) qn (fun K H locs ls hZ hP hD hS hl => ?_)
    refine rf_G hN2 hfl F hN hJ hZ hP hD hS (lv_sub hl [0, 1, 2] rfl) qn (fun K H locs ls hZ hP hD hS hl => ?_)
    refine lv_aload_n hx hb dL_refused_937 rfl (lv_at hl 0 rfl) ?_
    obtain ⟨r7, h8, e9, hZ10⟩ := d_digest (N := N) hN2 hZ
    refine cd0_digest (a := r7) h8 F zw_835 hP hD hS hl.1 (Nat.le_of_ble_eq_true rfl) ⟨Nat.le_of_ble_eq_true rfl, Nat.le_of_ble_eq_true rfl⟩ ⟨Nat.le_of_ble_eq_true rfl, Nat.le_of_ble_eq_true rfl⟩ dL_refused_938 (fun H locs hP hD hS => ?_)
    rw [e9]
    refine lv_lload_n hx hb dL_refused_941 rfl (lv_at hl 1 rfl) ?_
    refine W.lcmp hx hb dL_refused_942 ?_
    rw [zcmp_self]
    refine lv_if_ne (tgt := 950) hx hb dL_refused_943 (by decide) (fun q9 => absurd q9 (by decide)) (fun _ => ?_)
    refine lv_iconst (v := 1) hx hb dL_refused_946 (by decide) ?_
    refine lv_goto (tgt := 951) hx hb dL_refused_947 (by decide) ?_
    exact zU_z hZ10 F hr hlocks hQ ⟨Nat.le_of_ble_eq_true rfl, Nat.le_of_ble_eq_true rfl⟩ rfl hP hD hS dL_refused_951
  · refine lv_iload_n hx hb dL_refused_379 rfl (lv_at hl 2 rfl) ?_
    refine lv_if_le (tgt := 604) hx hb dL_refused_380 (by decide) (fun _ => ?_) (fun q9 => absurd (iI_npos (by omega) (by omega)) q9)
    refine lv_iload_n hx hb dL_refused_604 rfl (lv_at hl 2 rfl) ?_
    refine lv_if_le (tgt := 770) hx hb dL_refused_605 (by decide) (fun _ => ?_) (fun q9 => absurd (iI_npos (by omega) (by omega)) q9)
    refine lv_iload_n hx hb dL_refused_770 rfl (lv_at hl 2 rfl) ?_
    refine lv_if_le (tgt := 937) hx hb dL_refused_771 (by decide) (fun _ => ?_) (fun q9 => absurd (iI_npos (by omega) (by omega)) q9)
    refine lv_aload_n hx hb dL_refused_937 rfl (lv_at hl 0 rfl) ?_
    obtain ⟨r12, h13, e14, hZ15⟩ := d_digest (N := N) hN2 hZ
    refine cd0_digest (a := r12) h13 F zw_835 hP hD hS hl.1 (Nat.le_of_ble_eq_true rfl) ⟨Nat.le_of_ble_eq_true rfl, Nat.le_of_ble_eq_true rfl⟩ ⟨Nat.le_of_ble_eq_true rfl, Nat.le_of_ble_eq_true rfl⟩ dL_refused_938 (fun H locs hP hD hS => ?_)
    rw [e14]
    refine lv_lload_n hx hb dL_refused_941 rfl (lv_at hl 1 rfl) ?_
    refine W.lcmp hx hb dL_refused_942 ?_
    rw [zcmp_self]
    refine lv_if_ne (tgt := 950) hx hb dL_refused_943 (by decide) (fun q9 => absurd q9 (by decide)) (fun _ => ?_)
    refine lv_iconst (v := 1) hx hb dL_refused_946 (by decide) ?_
    refine lv_goto (tgt := 951) hx hb dL_refused_947 (by decide) ?_
    exact zU_z hZ15 F hr hlocks hQ ⟨Nat.le_of_ble_eq_true rfl, Nat.le_of_ble_eq_true rfl⟩ rfl hP hD hS dL_refused_951
end ZRF
