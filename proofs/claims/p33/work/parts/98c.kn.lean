/-! ===== music that is reckoned by hand ===== -/
theorem q2_ {P Q : Prop} [Decidable P] [Decidable Q] {z v : Int} {y : Int32} {A B : Option (Int32 ⊕ Nat)} (hp : P) (hq : Q) (hz : z = v) (hy : iI v = y) : (if P then (if Q then some (.inl (iI z)) else A) else B) = some (.inl y) := by
  rw [if_pos hp, if_pos hq, hz, hy]
theorem q1_ {P : Prop} [Decidable P] {z v : Int} {y : Int32} {B : Option (Int32 ⊕ Nat)} (hp : P) (hz : z = v) (hy : iI v = y) : (if P then some (.inl (iI z)) else B) = some (.inl y) := by
  rw [if_pos hp, hz, hy]
theorem q1f {P : Prop} [Decidable P] {z : UInt32} {B : Option (UInt32 ⊕ Nat)} (hp : P) : (if P then some (.inl z) else B) = some (.inl z) := if_pos hp
section ZFW
variable {p : Program} {l : Launch} {e : Env} {R : Room} {s : State} {m : MethodId} {args : Array Value} {below : List Frame} {meth : Method} {c : Code} {H : Heap} {locs : List Loc} {cells slots : Nat} {Q : State → Prop} {cc : ByteArray} {pc : Nat} {ls : Array Slot} {rest : List Value}
theorem va_ldcwF {T : State} (X : Stand p l e R s m args below meth c T locs cells slots) (hexec : p.tables.exec = Jvm.exec) {own : String} {index : Nat} {v : UInt32} (hown : s.vm.findClass own = some m.cls) (hconst : (Cond.constantFloat own index v).before args s = true) {g : JFrame} (hg : g.method = m) (hdg : decode c.code g.pc = .ok (.ldc_w index, 3)) :
    ∀ target, Steps p.tables e below (T.setTop { g with pc := g.pc + 3, stack := .float v :: g.stack }) target → Steps p.tables e below (T.setTop g) target := by
  obtain ⟨k, cf, hk, hcf, hcp⟩ := Cond.constantFloat_spec hown hconst
  obtain ⟨k', hk', he⟩ := X.warmed.alike.2.2 _ _ hk
  intro target hrest
  subst hg
  jvm_step X.here [hexec, hdg, ldc_w.wp_float (s := T) (f := g) X.here.top hk' (by rw [he]; exact hcf) hcp]
  exact hrest
theorem lv_ldcfw (hexec : p.tables.exec = Jvm.exec) (hb : c.code = cc) {own : String} {index : Nat} {v : UInt32} (hown : s.vm.findClass own = some m.cls) (hconst : (Jvm.Cond.constantFloat own index v).before args s = true) (hdg : decode cc pc = .ok (.ldc_w index, 3)) (k : W p l e R s m args below meth c H locs cells slots Q (F0 m (pc + 3) ls (.float v :: rest))) : W p l e R s m args below meth c H locs cells slots Q (F0 m pc ls rest) := by
  intro T hT X
  obtain ⟨t, a, b⟩ := k T hT X
  exact ⟨t, va_ldcwF X hexec hown hconst (g := F0 m pc ls rest) rfl (by rw [hb]; exact hdg) t a, b⟩
end ZFW
abbrev rm_L_known : Room := { frames := 44, cells := 0, slots := 0, locals := 2400 }
def kS1 : zSt := nwS kS0
def kS2 : zSt := setV kS1 0 0 1
def kS3 : zSt := setAd kS2 0 0 (31, 0, 4, 0)
def kS4 : zSt := setAd kS3 0 0 (31, 3, 4, 1)
def kS5 : zSt := setAd kS4 0 0 (31, 0, 4, 0)
def kS6 : zSt := setAd kS5 0 0 (31, 0, 5, 1)
def kS7 : zSt := nwS kS6
def kS8 : zSt := setAd kS7 1 0 (31, 0, 4, 0)
def kS9 : zSt := setAd kS8 1 0 (31, 0, 4, 0)
def kS10 : zSt := nwS kS9
def kS11 : zSt := setV kS10 1 6 1
def kS12 : zSt := setV kS11 1 5 2
def kS13 : zSt := setV kS12 2 6 2
def kS14 : zSt := nwS kS13
def kS15 : zSt := setAd kS14 3 0 (28, 0, 2, 0)
def kS16 : zSt := setAd kS15 3 0 (40, 0, 2, 0)
def kS17 : zSt := setAd kS16 3 1 (-1, 0, 6, 0)
def kS18 : zSt := setAd kS17 3 1 (29, 0, 4, 0)
def kS19 : zSt := setAd kS18 3 1 (41, 0, 4, 0)
set_option maxRecDepth 100000 in
theorem kt_ok : txOk (7089072771180818288) (7308814938316301157) (2319670884600015969) (8367741023402683494) (2338609990704588142) = true := by decide +kernel
set_option maxRecDepth 100000 in
theorem kt_v : (faS (txS (7089072771180818288) (7308814938316301157) (2319670884600015969) (8367741023402683494) (2338609990704588142)).2 (txS (7089072771180818288) (7308814938316301157) (2319670884600015969) (8367741023402683494) (2338609990704588142)).1).1 = 38 := by decide +kernel
set_option maxRecDepth 100000 in
theorem kt_ty : tyOk (100) = true := by decide +kernel
set_option maxRecDepth 100000 in
theorem kt_ln : (txS (7089072771180818288) (7308814938316301157) (2319670884600015969) (8367741023402683494) (2338609990704588142)).1 + 8 ≤ 600 := by decide +kernel
def kS20 : zSt := tkS kS19 3 (faS (tyS (100) 8 (txS (7089072771180818288) (7308814938316301157) (2319670884600015969) (8367741023402683494) (2338609990704588142))).2 (tyS (100) 8 (txS (7089072771180818288) (7308814938316301157) (2319670884600015969) (8367741023402683494) (2338609990704588142))).1).2.2
-- kn_ok: the state that is read
set_option maxRecDepth 100000 in
theorem kn_n : kS20.1 = 4 := by decide +kernel
set_option maxRecDepth 100000 in
theorem kn_v : ∀ m, m < 4 → ∀ k, k < 7 → -1000 ≤ kS20.2.1 m k ∧ kS20.2.1 m k ≤ 1000 := by decide +kernel
set_option maxRecDepth 100000 in
theorem kn_c : ∀ m, m < 4 → ∀ v, v < 2 → kS20.2.2.1 m v ≤ 24 := by decide +kernel
def okEb (x : zEv) : Bool := (decide (x.1 = -1) && (decide (x.2.1 = 0) && (decide (0 ≤ x.2.2.1) && (decide (x.2.2.1 ≤ 9) && decide (x.2.2.2 = 0))))) || (decide (0 ≤ x.1) && (decide (x.1 ≤ 62) && (decide (0 ≤ x.2.1) && (decide (x.2.1 ≤ 3) && (decide (0 ≤ x.2.2.1) && (decide (x.2.2.1 ≤ 9) && (decide (0 ≤ x.2.2.2) && decide (x.2.2.2 ≤ 1))))))))
theorem okEb_ok {x : zEv} (h : okEb x = true) : okE x := by
  unfold okEb at h
  simp only [Bool.or_eq_true, Bool.and_eq_true, decide_eq_true_eq] at h
  unfold okE
  omega
set_option maxRecDepth 100000 in
theorem kn_e : ∀ m, m < 4 → ∀ v, v < 2 → ∀ e, e < kS20.2.2.1 m v → okEb (kS20.2.2.2 m v e) = true := by decide +kernel
set_option maxRecDepth 100000 in
theorem kn_w : ∀ m, m < 4 → okV (kS20.2.1 m) := by
  unfold okV
  decide +kernel
theorem kn_ok : okS kS20 := by
  refine ⟨⟨by rw [kn_n]; omega, fun m hm => ?_⟩, fun m hm => kn_w m (by rw [kn_n] at hm; exact hm)⟩
  rw [kn_n] at hm
  exact ⟨kn_v m hm, fun v hv => ⟨kn_c m hm v hv, fun e he => okEb_ok (kn_e m hm v hv e he)⟩⟩
section ZKN
variable {p : Program} {l : Launch} {e : Env} {s : State} {m : MethodId} {args : Array Value} {below : List Frame} {meth : Method} {c : Code} {H : Heap} {locs : List Loc} {Q : State → Prop}
variable {N : Nat} {g : zEnv} {j : zJ} {q : Nat → Nat} {A : Nat → Prop} {ls : Array Slot} {K : zKT}
set_option maxHeartbeats 8000000 in
set_option maxRecDepth 100000 in
theorem kn_s0 (hN2 : 20000 ≤ N) (F : zF p m c cL_known 2 s args RL g A) (hN : zN s) (hJ : va_K (zD g) vwCl (zJT j) s) (hO : zO4 s) (hZ : zC kS0 [] 0 (fun _ => 0) K) (hP : va_P (zD g) vwCl (zcW g q K) H) (hD : va_D A (zcW g q K)) (hS : va_S A s.heap H locs) (hl : lv_has ls 2 [(0, .ref (q 0))])
    (kk : ∀ (K : zKT) (H : Heap) (locs : List Loc) (ls : Array Slot), zC kS9 [kS8, kS7, kS6, kS5] 0 (fun _ => 0) K → va_P (zD g) vwCl (zcW g q K) H → va_D A (zcW g q K) → va_S A s.heap H locs → lv_has ls 2 [(0, .ref (q 0))] → W p l e rm_L_known s m args below meth c H locs 0 0 Q (F0 m 183 ls [])) : W p l e rm_L_known s m args below meth c H locs 0 0 Q (F0 m 0 ls []) := by
  have hx := F.1.1
  have hb := F.1.2.1
  have hz := F.1.2.2.2.2
  refine lv_aload_n hx hb dL_known_0 rfl (lv_at hl 0 rfl) ?_
  obtain ⟨r1, h2, e3, hZ4⟩ := d_addMeasure (N := N) hN2 hZ (by decide +kernel)
  have hZ4 : zC kS1 [kS0] 0 (fun _ => 0) (k1_addMeasure K r1) := hZ4
  refine cd0_addMeasure (a := r1) h2 F zw_762 hP hD hS hl.1 (Nat.le_of_ble_eq_true rfl) ⟨Nat.le_of_ble_eq_true rfl, Nat.le_of_ble_eq_true rfl⟩ ⟨Nat.le_of_ble_eq_true rfl, Nat.le_of_ble_eq_true rfl⟩ dL_known_1 (fun H locs hP hD hS => ?_)
  rw [(e3.trans (by decide +kernel) : r1.1 = (0 : Int32))]
  refine lv_if_ne (tgt := 115) hx hb dL_known_4 (by decide) (fun q9 => absurd q9 (by decide)) (fun _ => ?_)
  refine lv_aload_n hx hb dL_known_7 rfl (lv_at hl 0 rfl) ?_
  refine lv_iconst (v := 0) hx hb dL_known_8 (by decide) ?_
  refine lv_iconst (v := 0) hx hb dL_known_9 (by decide) ?_
  refine lv_iconst (v := 1) hx hb dL_known_10 (by decide) ?_
  obtain ⟨r5, h6, e7, hZ8⟩ := d_set (N := N) hN2 hZ4 (x := 0) (y := 0) (z := 1) (by decide +kernel) (by decide) (by unfold zInt; omega) (by unfold zInt; omega) (yx := 0) (ex := by decide) (yy := 0) (ey := by decide) (yz := 1) (ez := by decide)
  have hZ8 : zC kS2 [kS1, kS0] 0 (fun _ => 0) (k1_set (k1_addMeasure K r1) r5) := hZ8
  refine cd0_set 0 0 1 (a := r5) h6 F zw_769 hP hD hS hl.1 (Nat.le_of_ble_eq_true rfl) ⟨Nat.le_of_ble_eq_true rfl, Nat.le_of_ble_eq_true rfl⟩ ⟨Nat.le_of_ble_eq_true rfl, Nat.le_of_ble_eq_true rfl⟩ dL_known_11 (fun H locs hP hD hS => ?_)
  rw [(e7.trans (by decide +kernel) : r5.1 = (0 : Int32))]
  refine lv_if_ne (tgt := 115) hx hb dL_known_14 (by decide) (fun q9 => absurd q9 (by decide)) (fun _ => ?_)
  refine lv_aload_n hx hb dL_known_17 rfl (lv_at hl 0 rfl) ?_
  refine lv_iconst (v := 0) hx hb dL_known_18 (by decide) ?_
  refine lv_iconst (v := 0) hx hb dL_known_19 (by decide) ?_
  refine lv_bipush (v := 31) hx hb dL_known_20 (by decide) ?_
  refine lv_iconst (v := 0) hx hb dL_known_22 (by decide) ?_
  refine lv_iconst (v := 4) hx hb dL_known_23 (by decide) ?_
  refine lv_iconst (v := 0) hx hb dL_known_24 (by decide) ?_
  obtain ⟨r9, h10, e11, hZ12⟩ := d_addNote (N := N) hN2 hZ8 (x := 0) (y := 0) (p := 31) (s := 0) (d := 4) (y6 := 0) (by decide +kernel) (by decide) (by decide +kernel) (yx := 0) (ex := by decide) (yy := 0) (ey := by decide) (yp := 31) (ep := by decide) (ys := 0) (es := by decide) (yd := 4) (ed := by decide)
  have hZ12 : zC kS3 [kS2, kS1, kS0] 0 (fun _ => 0) (k1_addNote (k1_set (k1_addMeasure K r1) r5) r9) := hZ12
  refine cd0_addNote 0 0 31 0 4 0 (a := r9) h10 F zw_772 hP hD hS hl.1 (Nat.le_of_ble_eq_true rfl) ⟨Nat.le_of_ble_eq_true rfl, Nat.le_of_ble_eq_true rfl⟩ ⟨Nat.le_of_ble_eq_true rfl, Nat.le_of_ble_eq_true rfl⟩ dL_known_25 (fun H locs hP hD hS => ?_)
  rw [(e11.trans (by decide +kernel) : r9.1 = (1 : Int32))]
  refine lv_iconst (v := 1) hx hb dL_known_28 (by decide) ?_
  refine lv_icmp_ne (tgt := 115) hx hb dL_known_29 (by decide) (fun q9 => absurd q9 (by decide)) (fun _ => ?_)
  refine lv_aload_n hx hb dL_known_32 rfl (lv_at hl 0 rfl) ?_
  refine lv_iconst (v := 0) hx hb dL_known_33 (by decide) ?_
  refine lv_iconst (v := 0) hx hb dL_known_34 (by decide) ?_
  refine lv_bipush (v := 31) hx hb dL_known_35 (by decide) ?_
  refine lv_iconst (v := 3) hx hb dL_known_37 (by decide) ?_
  refine lv_iconst (v := 4) hx hb dL_known_38 (by decide) ?_
  refine lv_iconst (v := 1) hx hb dL_known_39 (by decide) ?_
  obtain ⟨r13, h14, e15, hZ16⟩ := d_addNote (N := N) hN2 hZ12 (x := 0) (y := 0) (p := 31) (s := 3) (d := 4) (y6 := 1) (by decide +kernel) (by decide) (by decide +kernel) (yx := 0) (ex := by decide) (yy := 0) (ey := by decide) (yp := 31) (ep := by decide) (ys := 3) (es := by decide) (yd := 4) (ed := by decide)
  have hZ16 : zC kS4 [kS3, kS2, kS1, kS0] 0 (fun _ => 0) (k1_addNote (k1_addNote (k1_set (k1_addMeasure K r1) r5) r9) r13) := hZ16
  refine cd0_addNote 0 0 31 3 4 1 (a := r13) h14 F zw_772 hP hD hS hl.1 (Nat.le_of_ble_eq_true rfl) ⟨Nat.le_of_ble_eq_true rfl, Nat.le_of_ble_eq_true rfl⟩ ⟨Nat.le_of_ble_eq_true rfl, Nat.le_of_ble_eq_true rfl⟩ dL_known_40 (fun H locs hP hD hS => ?_)
  rw [(e15.trans (by decide +kernel) : r13.1 = (2 : Int32))]
  refine lv_iconst (v := 2) hx hb dL_known_43 (by decide) ?_
  refine lv_icmp_ne (tgt := 115) hx hb dL_known_44 (by decide) (fun q9 => absurd q9 (by decide)) (fun _ => ?_)
  refine lv_aload_n hx hb dL_known_47 rfl (lv_at hl 0 rfl) ?_
  refine lv_iconst (v := 0) hx hb dL_known_48 (by decide) ?_
  refine lv_iconst (v := 0) hx hb dL_known_49 (by decide) ?_
  refine lv_bipush (v := 31) hx hb dL_known_50 (by decide) ?_
  refine lv_iconst (v := 0) hx hb dL_known_52 (by decide) ?_
  refine lv_iconst (v := 4) hx hb dL_known_53 (by decide) ?_
  refine lv_iconst (v := 0) hx hb dL_known_54 (by decide) ?_
  obtain ⟨r17, h18, e19, hZ20⟩ := d_addNote (N := N) hN2 hZ16 (x := 0) (y := 0) (p := 31) (s := 0) (d := 4) (y6 := 0) (by decide +kernel) (by decide) (by decide +kernel) (yx := 0) (ex := by decide) (yy := 0) (ey := by decide) (yp := 31) (ep := by decide) (ys := 0) (es := by decide) (yd := 4) (ed := by decide)
  have hZ20 : zC kS5 [kS4, kS3, kS2, kS1] 0 (fun _ => 0) (k1_addNote (k1_addNote (k1_addNote (k1_set (k1_addMeasure K r1) r5) r9) r13) r17) := hZ20
  refine cd0_addNote 0 0 31 0 4 0 (a := r17) h18 F zw_772 hP hD hS hl.1 (Nat.le_of_ble_eq_true rfl) ⟨Nat.le_of_ble_eq_true rfl, Nat.le_of_ble_eq_true rfl⟩ ⟨Nat.le_of_ble_eq_true rfl, Nat.le_of_ble_eq_true rfl⟩ dL_known_55 (fun H locs hP hD hS => ?_)
  rw [(e19.trans (by decide +kernel) : r17.1 = (3 : Int32))]
  refine lv_iconst (v := 3) hx hb dL_known_58 (by decide) ?_
  refine lv_icmp_ne (tgt := 115) hx hb dL_known_59 (by decide) (fun q9 => absurd q9 (by decide)) (fun _ => ?_)
  refine lv_aload_n hx hb dL_known_62 rfl (lv_at hl 0 rfl) ?_
  refine lv_iconst (v := 0) hx hb dL_known_63 (by decide) ?_
  refine lv_iconst (v := 0) hx hb dL_known_64 (by decide) ?_
  refine lv_bipush (v := 31) hx hb dL_known_65 (by decide) ?_
  refine lv_iconst (v := 0) hx hb dL_known_67 (by decide) ?_
  refine lv_iconst (v := 5) hx hb dL_known_68 (by decide) ?_
  refine lv_iconst (v := 1) hx hb dL_known_69 (by decide) ?_
  obtain ⟨r21, h22, e23, hZ24⟩ := d_addNote (N := N) hN2 hZ20 (x := 0) (y := 0) (p := 31) (s := 0) (d := 5) (y6 := 1) (by decide +kernel) (by decide) (by decide +kernel) (yx := 0) (ex := by decide) (yy := 0) (ey := by decide) (yp := 31) (ep := by decide) (ys := 0) (es := by decide) (yd := 5) (ed := by decide)
  have hZ24 : zC kS6 [kS5, kS4, kS3, kS2] 0 (fun _ => 0) (k1_addNote (k1_addNote (k1_addNote (k1_addNote (k1_set (k1_addMeasure K r1) r5) r9) r13) r17) r21) := hZ24
  refine cd0_addNote 0 0 31 0 5 1 (a := r21) h22 F zw_772 hP hD hS hl.1 (Nat.le_of_ble_eq_true rfl) ⟨Nat.le_of_ble_eq_true rfl, Nat.le_of_ble_eq_true rfl⟩ ⟨Nat.le_of_ble_eq_true rfl, Nat.le_of_ble_eq_true rfl⟩ dL_known_70 (fun H locs hP hD hS => ?_)
  rw [(e23.trans (by decide +kernel) : r21.1 = (4 : Int32))]
  refine lv_iconst (v := 4) hx hb dL_known_73 (by decide) ?_
  refine lv_icmp_ne (tgt := 115) hx hb dL_known_74 (by decide) (fun q9 => absurd q9 (by decide)) (fun _ => ?_)
  refine lv_aload_n hx hb dL_known_77 rfl (lv_at hl 0 rfl) ?_
  obtain ⟨r25, h26, e27, hZ28⟩ := d_addMeasure (N := N) hN2 hZ24 (by decide +kernel)
  have hZ28 : zC kS7 [kS6, kS5, kS4, kS3] 0 (fun _ => 0) (k1_addMeasure (k1_addNote (k1_addNote (k1_addNote (k1_addNote (k1_set (k1_addMeasure K r1) r5) r9) r13) r17) r21) r25) := hZ28
  refine cd0_addMeasure (a := r25) h26 F zw_762 hP hD hS hl.1 (Nat.le_of_ble_eq_true rfl) ⟨Nat.le_of_ble_eq_true rfl, Nat.le_of_ble_eq_true rfl⟩ ⟨Nat.le_of_ble_eq_true rfl, Nat.le_of_ble_eq_true rfl⟩ dL_known_78 (fun H locs hP hD hS => ?_)
  rw [(e27.trans (by decide +kernel) : r25.1 = (1 : Int32))]
  refine lv_iconst (v := 1) hx hb dL_known_81 (by decide) ?_
  refine lv_icmp_ne (tgt := 115) hx hb dL_known_82 (by decide) (fun q9 => absurd q9 (by decide)) (fun _ => ?_)
  refine lv_aload_n hx hb dL_known_85 rfl (lv_at hl 0 rfl) ?_
  refine lv_iconst (v := 1) hx hb dL_known_86 (by decide) ?_
  refine lv_iconst (v := 0) hx hb dL_known_87 (by decide) ?_
  refine lv_bipush (v := 31) hx hb dL_known_88 (by decide) ?_
  refine lv_iconst (v := 0) hx hb dL_known_90 (by decide) ?_
  refine lv_iconst (v := 4) hx hb dL_known_91 (by decide) ?_
  refine lv_iconst (v := 0) hx hb dL_known_92 (by decide) ?_
  obtain ⟨r29, h30, e31, hZ32⟩ := d_addNote (N := N) hN2 hZ28 (x := 1) (y := 0) (p := 31) (s := 0) (d := 4) (y6 := 0) (by decide +kernel) (by decide) (by decide +kernel) (yx := 1) (ex := by decide) (yy := 0) (ey := by decide) (yp := 31) (ep := by decide) (ys := 0) (es := by decide) (yd := 4) (ed := by decide)
  have hZ32 : zC kS8 [kS7, kS6, kS5, kS4] 0 (fun _ => 0) (k1_addNote (k1_addMeasure (k1_addNote (k1_addNote (k1_addNote (k1_addNote (k1_set (k1_addMeasure K r1) r5) r9) r13) r17) r21) r25) r29) := hZ32
  refine cd0_addNote 1 0 31 0 4 0 (a := r29) h30 F zw_772 hP hD hS hl.1 (Nat.le_of_ble_eq_true rfl) ⟨Nat.le_of_ble_eq_true rfl, Nat.le_of_ble_eq_true rfl⟩ ⟨Nat.le_of_ble_eq_true rfl, Nat.le_of_ble_eq_true rfl⟩ dL_known_93 (fun H locs hP hD hS => ?_)
  rw [(e31.trans (by decide +kernel) : r29.1 = (1 : Int32))]
  refine lv_iconst (v := 1) hx hb dL_known_96 (by decide) ?_
  refine lv_icmp_ne (tgt := 115) hx hb dL_known_97 (by decide) (fun q9 => absurd q9 (by decide)) (fun _ => ?_)
  refine lv_aload_n hx hb dL_known_100 rfl (lv_at hl 0 rfl) ?_
  refine lv_iconst (v := 1) hx hb dL_known_101 (by decide) ?_
  refine lv_iconst (v := 0) hx hb dL_known_102 (by decide) ?_
  refine lv_bipush (v := 31) hx hb dL_known_103 (by decide) ?_
  refine lv_iconst (v := 0) hx hb dL_known_105 (by decide) ?_
  refine lv_iconst (v := 4) hx hb dL_known_106 (by decide) ?_
  refine lv_iconst (v := 0) hx hb dL_known_107 (by decide) ?_
  obtain ⟨r33, h34, e35, hZ36⟩ := d_addNote (N := N) hN2 hZ32 (x := 1) (y := 0) (p := 31) (s := 0) (d := 4) (y6 := 0) (by decide +kernel) (by decide) (by decide +kernel) (yx := 1) (ex := by decide) (yy := 0) (ey := by decide) (yp := 31) (ep := by decide) (ys := 0) (es := by decide) (yd := 4) (ed := by decide)
  have hZ36 : zC kS9 [kS8, kS7, kS6, kS5] 0 (fun _ => 0) (k1_addNote (k1_addNote (k1_addMeasure (k1_addNote (k1_addNote (k1_addNote (k1_addNote (k1_set (k1_addMeasure K r1) r5) r9) r13) r17) r21) r25) r29) r33) := hZ36
  refine cd0_addNote 1 0 31 0 4 0 (a := r33) h34 F zw_772 hP hD hS hl.1 (Nat.le_of_ble_eq_true rfl) ⟨Nat.le_of_ble_eq_true rfl, Nat.le_of_ble_eq_true rfl⟩ ⟨Nat.le_of_ble_eq_true rfl, Nat.le_of_ble_eq_true rfl⟩ dL_known_108 (fun H locs hP hD hS => ?_)
  rw [(e35.trans (by decide +kernel) : r33.1 = (2 : Int32))]
  refine lv_iconst (v := 2) hx hb dL_known_111 (by decide) ?_
  refine lv_icmp_eq (tgt := 117) hx hb dL_known_112 (by decide) (fun _ => ?_) (fun q9 => absurd q9 (by decide))
  refine lv_aload_n hx hb dL_known_117 rfl (lv_at hl 0 rfl) ?_
  refine lv_iconst (v := 0) hx hb dL_known_118 (by decide) ?_
  refine lv_iconst (v := 0) hx hb dL_known_119 (by decide) ?_
  refine lv_iconst (v := 0) hx hb dL_known_120 (by decide) ?_
  refine lv_bipush (v := 7) hx hb dL_known_121 (by decide) ?_
  refine cd0_event 0 0 0 7 (a := 54) ((d_event (N := N) hN2 hZ36 (a := 0) (b := 0) (c := 0) (w := 7) (by unfold zInt; omega) (by unfold zInt; omega) (by unfold zInt; omega) (by unfold zInt; omega) (ea := by decide) (eb := by decide) (ec := by decide) (ew := by decide)).trans (q2_ (v := 54) (by decide +kernel) (by decide +kernel) (by decide +kernel) (by decide))) F zw_782 hP hD hS hl.1 (Nat.le_of_ble_eq_true rfl) ⟨Nat.le_of_ble_eq_true rfl, Nat.le_of_ble_eq_true rfl⟩ ⟨Nat.le_of_ble_eq_true rfl, Nat.le_of_ble_eq_true rfl⟩ dL_known_123 (fun H locs hP hD hS => ?_)
  refine lv_bipush (v := 54) hx hb dL_known_126 (by decide) ?_
  refine lv_icmp_ne (tgt := 318) hx hb dL_known_128 (by decide) (fun q9 => absurd q9 (by decide)) (fun _ => ?_)
  refine lv_aload_n hx hb dL_known_131 rfl (lv_at hl 0 rfl) ?_
  refine lv_iconst (v := 0) hx hb dL_known_132 (by decide) ?_
  refine lv_iconst (v := 0) hx hb dL_known_133 (by decide) ?_
  refine lv_iconst (v := 1) hx hb dL_known_134 (by decide) ?_
  refine lv_bipush (v := 7) hx hb dL_known_135 (by decide) ?_
  refine cd0_event 0 0 1 7 (a := 53) ((d_event (N := N) hN2 hZ36 (a := 0) (b := 0) (c := 1) (w := 7) (by unfold zInt; omega) (by unfold zInt; omega) (by unfold zInt; omega) (by unfold zInt; omega) (ea := by decide) (eb := by decide) (ec := by decide) (ew := by decide)).trans (q2_ (v := 53) (by decide +kernel) (by decide +kernel) (by decide +kernel) (by decide))) F zw_782 hP hD hS hl.1 (Nat.le_of_ble_eq_true rfl) ⟨Nat.le_of_ble_eq_true rfl, Nat.le_of_ble_eq_true rfl⟩ ⟨Nat.le_of_ble_eq_true rfl, Nat.le_of_ble_eq_true rfl⟩ dL_known_137 (fun H locs hP hD hS => ?_)
  refine lv_bipush (v := 53) hx hb dL_known_140 (by decide) ?_
  refine lv_icmp_ne (tgt := 318) hx hb dL_known_142 (by decide) (fun q9 => absurd q9 (by decide)) (fun _ => ?_)
  refine lv_aload_n hx hb dL_known_145 rfl (lv_at hl 0 rfl) ?_
  refine lv_iconst (v := 0) hx hb dL_known_146 (by decide) ?_
  refine lv_iconst (v := 0) hx hb dL_known_147 (by decide) ?_
  refine lv_iconst (v := 2) hx hb dL_known_148 (by decide) ?_
  refine lv_bipush (v := 6) hx hb dL_known_149 (by decide) ?_
  refine cd0_event 0 0 2 6 (a := 0) ((d_event (N := N) hN2 hZ36 (a := 0) (b := 0) (c := 2) (w := 6) (by unfold zInt; omega) (by unfold zInt; omega) (by unfold zInt; omega) (by unfold zInt; omega) (ea := by decide) (eb := by decide) (ec := by decide) (ew := by decide)).trans (q2_ (v := 0) (by decide +kernel) (by decide +kernel) (by decide +kernel) (by decide))) F zw_782 hP hD hS hl.1 (Nat.le_of_ble_eq_true rfl) ⟨Nat.le_of_ble_eq_true rfl, Nat.le_of_ble_eq_true rfl⟩ ⟨Nat.le_of_ble_eq_true rfl, Nat.le_of_ble_eq_true rfl⟩ dL_known_151 (fun H locs hP hD hS => ?_)
  refine lv_if_ne (tgt := 318) hx hb dL_known_154 (by decide) (fun q9 => absurd q9 (by decide)) (fun _ => ?_)
  refine lv_aload_n hx hb dL_known_157 rfl (lv_at hl 0 rfl) ?_
  refine lv_iconst (v := 0) hx hb dL_known_158 (by decide) ?_
  refine lv_iconst (v := 0) hx hb dL_known_159 (by decide) ?_
  refine lv_iconst (v := 3) hx hb dL_known_160 (by decide) ?_
  refine lv_bipush (v := 6) hx hb dL_known_161 (by decide) ?_
  refine cd0_event 0 0 3 6 (a := 0) ((d_event (N := N) hN2 hZ36 (a := 0) (b := 0) (c := 3) (w := 6) (by unfold zInt; omega) (by unfold zInt; omega) (by unfold zInt; omega) (by unfold zInt; omega) (ea := by decide) (eb := by decide) (ec := by decide) (ew := by decide)).trans (q2_ (v := 0) (by decide +kernel) (by decide +kernel) (by decide +kernel) (by decide))) F zw_782 hP hD hS hl.1 (Nat.le_of_ble_eq_true rfl) ⟨Nat.le_of_ble_eq_true rfl, Nat.le_of_ble_eq_true rfl⟩ ⟨Nat.le_of_ble_eq_true rfl, Nat.le_of_ble_eq_true rfl⟩ dL_known_163 (fun H locs hP hD hS => ?_)
  refine lv_if_ne (tgt := 318) hx hb dL_known_166 (by decide) (fun q9 => absurd q9 (by decide)) (fun _ => ?_)
  refine lv_aload_n hx hb dL_known_169 rfl (lv_at hl 0 rfl) ?_
  refine lv_iconst (v := 1) hx hb dL_known_170 (by decide) ?_
  refine lv_iconst (v := 0) hx hb dL_known_171 (by decide) ?_
  refine lv_iconst (v := 0) hx hb dL_known_172 (by decide) ?_
  refine lv_bipush (v := 7) hx hb dL_known_173 (by decide) ?_
  refine cd0_event 1 0 0 7 (a := 53) ((d_event (N := N) hN2 hZ36 (a := 1) (b := 0) (c := 0) (w := 7) (by unfold zInt; omega) (by unfold zInt; omega) (by unfold zInt; omega) (by unfold zInt; omega) (ea := by decide) (eb := by decide) (ec := by decide) (ew := by decide)).trans (q2_ (v := 53) (by decide +kernel) (by decide +kernel) (by decide +kernel) (by decide))) F zw_782 hP hD hS hl.1 (Nat.le_of_ble_eq_true rfl) ⟨Nat.le_of_ble_eq_true rfl, Nat.le_of_ble_eq_true rfl⟩ ⟨Nat.le_of_ble_eq_true rfl, Nat.le_of_ble_eq_true rfl⟩ dL_known_175 (fun H locs hP hD hS => ?_)
  refine lv_bipush (v := 53) hx hb dL_known_178 (by decide) ?_
  refine lv_icmp_ne (tgt := 318) hx hb dL_known_180 (by decide) (fun q9 => absurd q9 (by decide)) (fun _ => ?_)
  exact kk _ _ _ _ hZ36 hP hD hS hl
set_option maxHeartbeats 8000000 in
set_option maxRecDepth 100000 in
theorem kn_s1 (hN2 : 20000 ≤ N) (F : zF p m c cL_known 2 s args RL g A) (hN : zN s) (hJ : va_K (zD g) vwCl (zJT j) s) (hO : zO4 s) (hZ : zC kS9 [kS8, kS7, kS6, kS5] 0 (fun _ => 0) K) (hP : va_P (zD g) vwCl (zcW g q K) H) (hD : va_D A (zcW g q K)) (hS : va_S A s.heap H locs) (hl : lv_has ls 2 [(0, .ref (q 0))])
    (kk : ∀ (K : zKT) (H : Heap) (locs : List Loc) (ls : Array Slot), zC kS9 [kS8, kS7, kS6, kS5] 0 (fun _ => 0) K → va_P (zD g) vwCl (zcW g q K) H → va_D A (zcW g q K) → va_S A s.heap H locs → lv_has ls 2 [(0, .ref (q 0))] → W p l e rm_L_known s m args below meth c H locs 0 0 Q (F0 m 348 ls [])) : W p l e rm_L_known s m args below meth c H locs 0 0 Q (F0 m 183 ls []) := by
  have hx := F.1.1
  have hb := F.1.2.1
  have hz := F.1.2.2.2.2
  refine lv_aload_n hx hb dL_known_183 rfl (lv_at hl 0 rfl) ?_
  refine lv_iconst (v := 1) hx hb dL_known_184 (by decide) ?_
  refine lv_iconst (v := 0) hx hb dL_known_185 (by decide) ?_
  refine lv_iconst (v := 1) hx hb dL_known_186 (by decide) ?_
  refine lv_bipush (v := 7) hx hb dL_known_187 (by decide) ?_
  refine cd0_event 1 0 1 7 (a := 54) ((d_event (N := N) hN2 hZ (a := 1) (b := 0) (c := 1) (w := 7) (by unfold zInt; omega) (by unfold zInt; omega) (by unfold zInt; omega) (by unfold zInt; omega) (ea := by decide) (eb := by decide) (ec := by decide) (ew := by decide)).trans (q2_ (v := 54) (by decide +kernel) (by decide +kernel) (by decide +kernel) (by decide))) F zw_782 hP hD hS hl.1 (Nat.le_of_ble_eq_true rfl) ⟨Nat.le_of_ble_eq_true rfl, Nat.le_of_ble_eq_true rfl⟩ ⟨Nat.le_of_ble_eq_true rfl, Nat.le_of_ble_eq_true rfl⟩ dL_known_189 (fun H locs hP hD hS => ?_)
  refine lv_bipush (v := 54) hx hb dL_known_192 (by decide) ?_
  refine lv_icmp_ne (tgt := 318) hx hb dL_known_194 (by decide) (fun q9 => absurd q9 (by decide)) (fun _ => ?_)
  refine lv_aload_n hx hb dL_known_197 rfl (lv_at hl 0 rfl) ?_
  refine lv_iconst (v := 0) hx hb dL_known_198 (by decide) ?_
  refine lv_iconst (v := 0) hx hb dL_known_199 (by decide) ?_
  refine lv_iconst (v := 1) hx hb dL_known_200 (by decide) ?_
  refine lv_bipush (v := 8) hx hb dL_known_201 (by decide) ?_
  refine cd0_event 0 0 1 8 (a := 32) ((d_event (N := N) hN2 hZ (a := 0) (b := 0) (c := 1) (w := 8) (by unfold zInt; omega) (by unfold zInt; omega) (by unfold zInt; omega) (by unfold zInt; omega) (ea := by decide) (eb := by decide) (ec := by decide) (ew := by decide)).trans (q2_ (v := 32) (by decide +kernel) (by decide +kernel) (by decide +kernel) (by decide))) F zw_782 hP hD hS hl.1 (Nat.le_of_ble_eq_true rfl) ⟨Nat.le_of_ble_eq_true rfl, Nat.le_of_ble_eq_true rfl⟩ ⟨Nat.le_of_ble_eq_true rfl, Nat.le_of_ble_eq_true rfl⟩ dL_known_203 (fun H locs hP hD hS => ?_)
  refine lv_bipush (v := 32) hx hb dL_known_206 (by decide) ?_
  refine lv_icmp_ne (tgt := 318) hx hb dL_known_208 (by decide) (fun q9 => absurd q9 (by decide)) (fun _ => ?_)
  refine lv_aload_n hx hb dL_known_211 rfl (lv_at hl 0 rfl) ?_
  refine lv_iconst (v := 0) hx hb dL_known_212 (by decide) ?_
  refine lv_iconst (v := 0) hx hb dL_known_213 (by decide) ?_
  refine lv_iconst (v := 3) hx hb dL_known_214 (by decide) ?_
  refine lv_bipush (v := 8) hx hb dL_known_215 (by decide) ?_
  refine cd0_event 0 0 3 8 (a := 40) ((d_event (N := N) hN2 hZ (a := 0) (b := 0) (c := 3) (w := 8) (by unfold zInt; omega) (by unfold zInt; omega) (by unfold zInt; omega) (by unfold zInt; omega) (ea := by decide) (eb := by decide) (ec := by decide) (ew := by decide)).trans (q2_ (v := 40) (by decide +kernel) (by decide +kernel) (by decide +kernel) (by decide))) F zw_782 hP hD hS hl.1 (Nat.le_of_ble_eq_true rfl) ⟨Nat.le_of_ble_eq_true rfl, Nat.le_of_ble_eq_true rfl⟩ ⟨Nat.le_of_ble_eq_true rfl, Nat.le_of_ble_eq_true rfl⟩ dL_known_217 (fun H locs hP hD hS => ?_)
  refine lv_bipush (v := 40) hx hb dL_known_220 (by decide) ?_
  refine lv_icmp_ne (tgt := 318) hx hb dL_known_222 (by decide) (fun q9 => absurd q9 (by decide)) (fun _ => ?_)
  refine lv_aload_n hx hb dL_known_225 rfl (lv_at hl 0 rfl) ?_
  refine lv_iconst (v := 0) hx hb dL_known_226 (by decide) ?_
  refine lv_iconst (v := 0) hx hb dL_known_227 (by decide) ?_
  refine lv_iconst (v := 3) hx hb dL_known_228 (by decide) ?_
  refine lv_iconst (v := 4) hx hb dL_known_229 (by decide) ?_
  refine cd0_event 0 0 3 4 (a := 24) ((d_event (N := N) hN2 hZ (a := 0) (b := 0) (c := 3) (w := 4) (by unfold zInt; omega) (by unfold zInt; omega) (by unfold zInt; omega) (by unfold zInt; omega) (ea := by decide) (eb := by decide) (ec := by decide) (ew := by decide)).trans (q2_ (v := 24) (by decide +kernel) (by decide +kernel) (by decide +kernel) (by decide))) F zw_782 hP hD hS hl.1 (Nat.le_of_ble_eq_true rfl) ⟨Nat.le_of_ble_eq_true rfl, Nat.le_of_ble_eq_true rfl⟩ ⟨Nat.le_of_ble_eq_true rfl, Nat.le_of_ble_eq_true rfl⟩ dL_known_230 (fun H locs hP hD hS => ?_)
  refine lv_bipush (v := 24) hx hb dL_known_233 (by decide) ?_
  refine lv_icmp_ne (tgt := 318) hx hb dL_known_235 (by decide) (fun q9 => absurd q9 (by decide)) (fun _ => ?_)
  refine lv_aload_n hx hb dL_known_238 rfl (lv_at hl 0 rfl) ?_
  refine lv_iconst (v := 0) hx hb dL_known_239 (by decide) ?_
  refine lv_iconst (v := 0) hx hb dL_known_240 (by decide) ?_
  refine lv_iconst (v := 3) hx hb dL_known_241 (by decide) ?_
  refine lv_iconst (v := 5) hx hb dL_known_242 (by decide) ?_
  refine cd0_event 0 0 3 5 (a := 48) ((d_event (N := N) hN2 hZ (a := 0) (b := 0) (c := 3) (w := 5) (by unfold zInt; omega) (by unfold zInt; omega) (by unfold zInt; omega) (by unfold zInt; omega) (ea := by decide) (eb := by decide) (ec := by decide) (ew := by decide)).trans (q2_ (v := 48) (by decide +kernel) (by decide +kernel) (by decide +kernel) (by decide))) F zw_782 hP hD hS hl.1 (Nat.le_of_ble_eq_true rfl) ⟨Nat.le_of_ble_eq_true rfl, Nat.le_of_ble_eq_true rfl⟩ ⟨Nat.le_of_ble_eq_true rfl, Nat.le_of_ble_eq_true rfl⟩ dL_known_243 (fun H locs hP hD hS => ?_)
  refine lv_bipush (v := 48) hx hb dL_known_246 (by decide) ?_
  refine lv_icmp_ne (tgt := 318) hx hb dL_known_248 (by decide) (fun q9 => absurd q9 (by decide)) (fun _ => ?_)
  refine lv_aload_n hx hb dL_known_251 rfl (lv_at hl 0 rfl) ?_
  refine lv_iconst (v := 0) hx hb dL_known_252 (by decide) ?_
  refine lv_bipush (v := 10) hx hb dL_known_253 (by decide) ?_
  refine cd0_measure 0 10 (a := 72) ((d_measure (N := N) hN2 hZ (a := 0) (b := 10) (by unfold zInt; omega) (by unfold zInt; omega) (ea := by decide) (eb := by decide)).trans (q2_ (v := 72) (by decide +kernel) (by decide +kernel) (by decide +kernel) (by decide))) F zw_781 hP hD hS hl.1 (Nat.le_of_ble_eq_true rfl) ⟨Nat.le_of_ble_eq_true rfl, Nat.le_of_ble_eq_true rfl⟩ ⟨Nat.le_of_ble_eq_true rfl, Nat.le_of_ble_eq_true rfl⟩ dL_known_255 (fun H locs hP hD hS => ?_)
  refine lv_bipush (v := 72) hx hb dL_known_258 (by decide) ?_
  refine lv_icmp_ne (tgt := 318) hx hb dL_known_260 (by decide) (fun q9 => absurd q9 (by decide)) (fun _ => ?_)
  refine lv_aload_n hx hb dL_known_263 rfl (lv_at hl 0 rfl) ?_
  refine lv_iconst (v := 0) hx hb dL_known_264 (by decide) ?_
  refine lv_bipush (v := 7) hx hb dL_known_265 (by decide) ?_
  refine cd0_measure 0 7 (a := 64) ((d_measure (N := N) hN2 hZ (a := 0) (b := 7) (by unfold zInt; omega) (by unfold zInt; omega) (ea := by decide) (eb := by decide)).trans (q2_ (v := 64) (by decide +kernel) (by decide +kernel) (by decide +kernel) (by decide))) F zw_781 hP hD hS hl.1 (Nat.le_of_ble_eq_true rfl) ⟨Nat.le_of_ble_eq_true rfl, Nat.le_of_ble_eq_true rfl⟩ ⟨Nat.le_of_ble_eq_true rfl, Nat.le_of_ble_eq_true rfl⟩ dL_known_267 (fun H locs hP hD hS => ?_)
  refine lv_bipush (v := 64) hx hb dL_known_270 (by decide) ?_
  refine lv_icmp_ne (tgt := 318) hx hb dL_known_272 (by decide) (fun q9 => absurd q9 (by decide)) (fun _ => ?_)
  refine lv_aload_n hx hb dL_known_275 rfl (lv_at hl 0 rfl) ?_
  refine lv_iconst (v := 4) hx hb dL_known_276 (by decide) ?_
  refine cd0_whole 4 (a := 0) ((d_whole (N := N) hN2 hZ (w := 4) (by unfold zInt; omega) (ew := by decide)).trans (q1_ (v := 0) (by decide +kernel) (by decide +kernel) (by decide))) F zw_788 hP hD hS hl.1 (Nat.le_of_ble_eq_true rfl) ⟨Nat.le_of_ble_eq_true rfl, Nat.le_of_ble_eq_true rfl⟩ ⟨Nat.le_of_ble_eq_true rfl, Nat.le_of_ble_eq_true rfl⟩ dL_known_277 (fun H locs hP hD hS => ?_)
  refine lv_if_ne (tgt := 318) hx hb dL_known_280 (by decide) (fun q9 => absurd q9 (by decide)) (fun _ => ?_)
  refine lv_aload_n hx hb dL_known_283 rfl (lv_at hl 0 rfl) ?_
  refine lv_iconst (v := 5) hx hb dL_known_284 (by decide) ?_
  refine cd0_whole 5 (a := 2) ((d_whole (N := N) hN2 hZ (w := 5) (by unfold zInt; omega) (ew := by decide)).trans (q1_ (v := 2) (by decide +kernel) (by decide +kernel) (by decide))) F zw_788 hP hD hS hl.1 (Nat.le_of_ble_eq_true rfl) ⟨Nat.le_of_ble_eq_true rfl, Nat.le_of_ble_eq_true rfl⟩ ⟨Nat.le_of_ble_eq_true rfl, Nat.le_of_ble_eq_true rfl⟩ dL_known_285 (fun H locs hP hD hS => ?_)
  refine lv_iconst (v := 2) hx hb dL_known_288 (by decide) ?_
  refine lv_icmp_ne (tgt := 318) hx hb dL_known_289 (by decide) (fun q9 => absurd q9 (by decide)) (fun _ => ?_)
  refine lv_aload_n hx hb dL_known_292 rfl (lv_at hl 0 rfl) ?_
  refine lv_iconst (v := 0) hx hb dL_known_293 (by decide) ?_
  refine lv_iconst (v := 0) hx hb dL_known_294 (by decide) ?_
  refine lv_bipush (v := 71) hx hb dL_known_295 (by decide) ?_
  refine cd0_eventAt 0 0 71 (a := 3) ((d_eventAt (N := N) hN2 hZ (a := 0) (b := 0) (t := 71) (by unfold zInt; omega) (by unfold zInt; omega) (by unfold zInt; omega) (ea := by decide) (eb := by decide) (et := by decide)).trans (q2_ (v := 3) (by decide +kernel) (by decide +kernel) (by decide +kernel) (by decide))) F zw_783 hP hD hS hl.1 (Nat.le_of_ble_eq_true rfl) ⟨Nat.le_of_ble_eq_true rfl, Nat.le_of_ble_eq_true rfl⟩ ⟨Nat.le_of_ble_eq_true rfl, Nat.le_of_ble_eq_true rfl⟩ dL_known_297 (fun H locs hP hD hS => ?_)
  refine lv_iconst (v := 3) hx hb dL_known_300 (by decide) ?_
  refine lv_icmp_ne (tgt := 318) hx hb dL_known_301 (by decide) (fun q9 => absurd q9 (by decide)) (fun _ => ?_)
  refine lv_aload_n hx hb dL_known_304 rfl (lv_at hl 0 rfl) ?_
  refine lv_iconst (v := 0) hx hb dL_known_305 (by decide) ?_
  refine lv_iconst (v := 0) hx hb dL_known_306 (by decide) ?_
  refine lv_bipush (v := 72) hx hb dL_known_307 (by decide) ?_
  refine cd0_eventAt 0 0 72 (a := (-1000)) ((d_eventAt (N := N) hN2 hZ (a := 0) (b := 0) (t := 72) (by unfold zInt; omega) (by unfold zInt; omega) (by unfold zInt; omega) (ea := by decide) (eb := by decide) (et := by decide)).trans (q2_ (v := (-1000)) (by decide +kernel) (by decide +kernel) (by decide +kernel) (by decide))) F zw_783 hP hD hS hl.1 (Nat.le_of_ble_eq_true rfl) ⟨Nat.le_of_ble_eq_true rfl, Nat.le_of_ble_eq_true rfl⟩ ⟨Nat.le_of_ble_eq_true rfl, Nat.le_of_ble_eq_true rfl⟩ dL_known_309 (fun H locs hP hD hS => ?_)
  refine lv_sipush (v := (-1000)) hx hb dL_known_312 (by decide) ?_
  refine lv_icmp_eq (tgt := 320) hx hb dL_known_315 (by decide) (fun _ => ?_) (fun q9 => absurd q9 (by decide))
  refine lv_aload_n hx hb dL_known_320 rfl (lv_at hl 0 rfl) ?_
  refine lv_iconst (v := 0) hx hb dL_known_321 (by decide) ?_
  refine cd0_needlessSigns 0 (a := 0) ((d_needlessSigns (N := N) hN2 hZ (a := 0) (by unfold zInt; omega) (ea := by decide)).trans (q1_ (v := 0) (by decide +kernel) (by decide +kernel) (by decide))) F zw_829 hP hD hS hl.1 (Nat.le_of_ble_eq_true rfl) ⟨Nat.le_of_ble_eq_true rfl, Nat.le_of_ble_eq_true rfl⟩ ⟨Nat.le_of_ble_eq_true rfl, Nat.le_of_ble_eq_true rfl⟩ dL_known_322 (fun H locs hP hD hS => ?_)
  refine lv_if_ne (tgt := 377) hx hb dL_known_325 (by decide) (fun q9 => absurd q9 (by decide)) (fun _ => ?_)
  refine lv_aload_n hx hb dL_known_328 rfl (lv_at hl 0 rfl) ?_
  refine lv_iconst (v := 0) hx hb dL_known_329 (by decide) ?_
  refine lv_iconst (v := 0) hx hb dL_known_330 (by decide) ?_
  refine cd0_changedBy 0 0 (a := 1) ((d_changedBy (N := N) hN2 hZ (a := 0) (b := 0) (by unfold zInt; omega) (by unfold zInt; omega) (ea := by decide) (eb := by decide)).trans (q2_ (v := 1) (by decide +kernel) (by decide +kernel) (by decide +kernel) (by decide))) F zw_823 hP hD hS hl.1 (Nat.le_of_ble_eq_true rfl) ⟨Nat.le_of_ble_eq_true rfl, Nat.le_of_ble_eq_true rfl⟩ ⟨Nat.le_of_ble_eq_true rfl, Nat.le_of_ble_eq_true rfl⟩ dL_known_331 (fun H locs hP hD hS => ?_)
  refine lv_iconst (v := 1) hx hb dL_known_334 (by decide) ?_
  refine lv_icmp_ne (tgt := 377) hx hb dL_known_335 (by decide) (fun q9 => absurd q9 (by decide)) (fun _ => ?_)
  refine lv_aload_n hx hb dL_known_338 rfl (lv_at hl 0 rfl) ?_
  refine lv_iconst (v := 1) hx hb dL_known_339 (by decide) ?_
  refine lv_iconst (v := (-1)) hx hb dL_known_340 (by decide) ?_
  refine cd0_changedBy 1 (-1) (a := 1) ((d_changedBy (N := N) hN2 hZ (a := 1) (b := -1) (by unfold zInt; omega) (by unfold zInt; omega) (ea := by decide) (eb := by decide)).trans (q2_ (v := 1) (by decide +kernel) (by decide +kernel) (by decide +kernel) (by decide))) F zw_823 hP hD hS hl.1 (Nat.le_of_ble_eq_true rfl) ⟨Nat.le_of_ble_eq_true rfl, Nat.le_of_ble_eq_true rfl⟩ ⟨Nat.le_of_ble_eq_true rfl, Nat.le_of_ble_eq_true rfl⟩ dL_known_341 (fun H locs hP hD hS => ?_)
  refine lv_iconst (v := 1) hx hb dL_known_344 (by decide) ?_
  refine lv_icmp_ne (tgt := 377) hx hb dL_known_345 (by decide) (fun q9 => absurd q9 (by decide)) (fun _ => ?_)
  exact kk _ _ _ _ hZ hP hD hS hl
set_option maxHeartbeats 8000000 in
set_option maxRecDepth 100000 in
theorem kn_s2 (hN2 : 20000 ≤ N) (F : zF p m c cL_known 2 s args RL g A) (hN : zN s) (hJ : va_K (zD g) vwCl (zJT j) s) (hO : zO4 s) (hZ : zC kS9 [kS8, kS7, kS6, kS5] 0 (fun _ => 0) K) (hP : va_P (zD g) vwCl (zcW g q K) H) (hD : va_D A (zcW g q K)) (hS : va_S A s.heap H locs) (hl : lv_has ls 2 [(0, .ref (q 0))])
    (kk : ∀ (K : zKT) (H : Heap) (locs : List Loc) (ls : Array Slot), zC kS14 [kS13, kS12, kS11, kS10] 0 (fun _ => 0) K → va_P (zD g) vwCl (zcW g q K) H → va_D A (zcW g q K) → va_S A s.heap H locs → lv_has ls 2 [(0, .ref (q 0))] → W p l e rm_L_known s m args below meth c H locs 0 0 Q (F0 m 480 ls [])) : W p l e rm_L_known s m args below meth c H locs 0 0 Q (F0 m 348 ls []) := by
  have hx := F.1.1
  have hb := F.1.2.1
  have hz := F.1.2.2.2.2
  refine lv_aload_n hx hb dL_known_348 rfl (lv_at hl 0 rfl) ?_
  refine lv_iconst (v := 1) hx hb dL_known_349 (by decide) ?_
  refine cd0_nearestKey 1 (a := 2) ((d_nearestKey (N := N) hN2 hZ (a := 1) (by unfold zInt; omega) (ea := by decide)).trans (q1_ (v := 2) (by decide +kernel) (by decide +kernel) (by decide))) F zw_826 hP hD hS hl.1 (Nat.le_of_ble_eq_true rfl) ⟨Nat.le_of_ble_eq_true rfl, Nat.le_of_ble_eq_true rfl⟩ ⟨Nat.le_of_ble_eq_true rfl, Nat.le_of_ble_eq_true rfl⟩ dL_known_350 (fun H locs hP hD hS => ?_)
  refine lv_iconst (v := 2) hx hb dL_known_353 (by decide) ?_
  refine lv_icmp_ne (tgt := 377) hx hb dL_known_354 (by decide) (fun q9 => absurd q9 (by decide)) (fun _ => ?_)
  refine lv_aload_n hx hb dL_known_357 rfl (lv_at hl 0 rfl) ?_
  refine lv_iconst (v := 0) hx hb dL_known_358 (by decide) ?_
  obtain ⟨r97, h98, e99, hZ100⟩ := d_words (N := N) hN2 hZ (m := 0) (by decide +kernel) (ym := 0) (em := by decide)
  refine cd0_words 0 (a := r97) h98 F zw_805 hP hD hS hl.1 (Nat.le_of_ble_eq_true rfl) ⟨Nat.le_of_ble_eq_true rfl, Nat.le_of_ble_eq_true rfl⟩ ⟨Nat.le_of_ble_eq_true rfl, Nat.le_of_ble_eq_true rfl⟩ dL_known_359 (fun H locs hP hD hS => ?_)
  rw [(e99.trans (by decide +kernel) : r97.1 = (27 : Int32))]
  refine lv_bipush (v := 27) hx hb dL_known_362 (by decide) ?_
  refine lv_icmp_ne (tgt := 377) hx hb dL_known_364 (by decide) (fun q9 => absurd q9 (by decide)) (fun _ => ?_)
  refine lv_aload_n hx hb dL_known_367 rfl (lv_at hl 0 rfl) ?_
  refine lv_iconst (v := 1) hx hb dL_known_368 (by decide) ?_
  obtain ⟨r101, h102, e103, hZ104⟩ := d_words (N := N) hN2 hZ100 (m := 1) (by decide +kernel) (ym := 1) (em := by decide)
  refine cd0_words 1 (a := r101) h102 F zw_805 hP hD hS hl.1 (Nat.le_of_ble_eq_true rfl) ⟨Nat.le_of_ble_eq_true rfl, Nat.le_of_ble_eq_true rfl⟩ ⟨Nat.le_of_ble_eq_true rfl, Nat.le_of_ble_eq_true rfl⟩ dL_known_369 (fun H locs hP hD hS => ?_)
  rw [(e103.trans (by decide +kernel) : r101.1 = (11 : Int32))]
  refine lv_bipush (v := 11) hx hb dL_known_372 (by decide) ?_
  refine lv_icmp_eq (tgt := 379) hx hb dL_known_374 (by decide) (fun _ => ?_) (fun q9 => absurd q9 (by decide))
  refine lv_aload_n hx hb dL_known_379 rfl (lv_at hl 0 rfl) ?_
  obtain ⟨r105, h106, e107, hZ108⟩ := d_addMeasure (N := N) hN2 hZ104 (by decide +kernel)
  have hZ108 : zC kS10 [kS9, kS8, kS7, kS6] 0 (fun _ => 0) (k1_addMeasure (k1_words (k1_words K r97) r101) r105) := hZ108
  refine cd0_addMeasure (a := r105) h106 F zw_762 hP hD hS hl.1 (Nat.le_of_ble_eq_true rfl) ⟨Nat.le_of_ble_eq_true rfl, Nat.le_of_ble_eq_true rfl⟩ ⟨Nat.le_of_ble_eq_true rfl, Nat.le_of_ble_eq_true rfl⟩ dL_known_380 (fun H locs hP hD hS => ?_)
  rw [(e107.trans (by decide +kernel) : r105.1 = (2 : Int32))]
  refine lv_iconst (v := 2) hx hb dL_known_383 (by decide) ?_
  refine lv_icmp_ne (tgt := 521) hx hb dL_known_384 (by decide) (fun q9 => absurd q9 (by decide)) (fun _ => ?_)
  refine lv_aload_n hx hb dL_known_387 rfl (lv_at hl 0 rfl) ?_
  refine lv_iconst (v := 1) hx hb dL_known_388 (by decide) ?_
  refine lv_bipush (v := 6) hx hb dL_known_389 (by decide) ?_
  refine lv_iconst (v := 1) hx hb dL_known_391 (by decide) ?_
  obtain ⟨r109, h110, e111, hZ112⟩ := d_set (N := N) hN2 hZ108 (x := 1) (y := 6) (z := 1) (by decide +kernel) (by decide) (by unfold zInt; omega) (by unfold zInt; omega) (yx := 1) (ex := by decide) (yy := 6) (ey := by decide) (yz := 1) (ez := by decide)
  have hZ112 : zC kS11 [kS10, kS9, kS8, kS7] 0 (fun _ => 0) (k1_set (k1_addMeasure (k1_words (k1_words K r97) r101) r105) r109) := hZ112
  refine cd0_set 1 6 1 (a := r109) h110 F zw_769 hP hD hS hl.1 (Nat.le_of_ble_eq_true rfl) ⟨Nat.le_of_ble_eq_true rfl, Nat.le_of_ble_eq_true rfl⟩ ⟨Nat.le_of_ble_eq_true rfl, Nat.le_of_ble_eq_true rfl⟩ dL_known_392 (fun H locs hP hD hS => ?_)
  rw [(e111.trans (by decide +kernel) : r109.1 = (0 : Int32))]
  refine lv_if_ne (tgt := 521) hx hb dL_known_395 (by decide) (fun q9 => absurd q9 (by decide)) (fun _ => ?_)
  refine lv_aload_n hx hb dL_known_398 rfl (lv_at hl 0 rfl) ?_
  refine lv_iconst (v := 1) hx hb dL_known_399 (by decide) ?_
  refine lv_iconst (v := 5) hx hb dL_known_400 (by decide) ?_
  refine lv_iconst (v := 2) hx hb dL_known_401 (by decide) ?_
  obtain ⟨r113, h114, e115, hZ116⟩ := d_set (N := N) hN2 hZ112 (x := 1) (y := 5) (z := 2) (by decide +kernel) (by decide) (by unfold zInt; omega) (by unfold zInt; omega) (yx := 1) (ex := by decide) (yy := 5) (ey := by decide) (yz := 2) (ez := by decide)
  have hZ116 : zC kS12 [kS11, kS10, kS9, kS8] 0 (fun _ => 0) (k1_set (k1_set (k1_addMeasure (k1_words (k1_words K r97) r101) r105) r109) r113) := hZ116
  refine cd0_set 1 5 2 (a := r113) h114 F zw_769 hP hD hS hl.1 (Nat.le_of_ble_eq_true rfl) ⟨Nat.le_of_ble_eq_true rfl, Nat.le_of_ble_eq_true rfl⟩ ⟨Nat.le_of_ble_eq_true rfl, Nat.le_of_ble_eq_true rfl⟩ dL_known_402 (fun H locs hP hD hS => ?_)
  rw [(e115.trans (by decide +kernel) : r113.1 = (0 : Int32))]
  refine lv_if_ne (tgt := 521) hx hb dL_known_405 (by decide) (fun q9 => absurd q9 (by decide)) (fun _ => ?_)
  refine lv_aload_n hx hb dL_known_408 rfl (lv_at hl 0 rfl) ?_
  refine lv_iconst (v := 2) hx hb dL_known_409 (by decide) ?_
  refine lv_bipush (v := 6) hx hb dL_known_410 (by decide) ?_
  refine lv_iconst (v := 2) hx hb dL_known_412 (by decide) ?_
  obtain ⟨r117, h118, e119, hZ120⟩ := d_set (N := N) hN2 hZ116 (x := 2) (y := 6) (z := 2) (by decide +kernel) (by decide) (by unfold zInt; omega) (by unfold zInt; omega) (yx := 2) (ex := by decide) (yy := 6) (ey := by decide) (yz := 2) (ez := by decide)
  have hZ120 : zC kS13 [kS12, kS11, kS10, kS9] 0 (fun _ => 0) (k1_set (k1_set (k1_set (k1_addMeasure (k1_words (k1_words K r97) r101) r105) r109) r113) r117) := hZ120
  refine cd0_set 2 6 2 (a := r117) h118 F zw_769 hP hD hS hl.1 (Nat.le_of_ble_eq_true rfl) ⟨Nat.le_of_ble_eq_true rfl, Nat.le_of_ble_eq_true rfl⟩ ⟨Nat.le_of_ble_eq_true rfl, Nat.le_of_ble_eq_true rfl⟩ dL_known_413 (fun H locs hP hD hS => ?_)
  rw [(e119.trans (by decide +kernel) : r117.1 = (0 : Int32))]
  refine lv_if_ne (tgt := 521) hx hb dL_known_416 (by decide) (fun q9 => absurd q9 (by decide)) (fun _ => ?_)
  refine lv_aload_n hx hb dL_known_419 rfl (lv_at hl 0 rfl) ?_
  obtain ⟨r121, h122, e123, hZ124⟩ := d_addMeasure (N := N) hN2 hZ120 (by decide +kernel)
  have hZ124 : zC kS14 [kS13, kS12, kS11, kS10] 0 (fun _ => 0) (k1_addMeasure (k1_set (k1_set (k1_set (k1_addMeasure (k1_words (k1_words K r97) r101) r105) r109) r113) r117) r121) := hZ124
  refine cd0_addMeasure (a := r121) h122 F zw_762 hP hD hS hl.1 (Nat.le_of_ble_eq_true rfl) ⟨Nat.le_of_ble_eq_true rfl, Nat.le_of_ble_eq_true rfl⟩ ⟨Nat.le_of_ble_eq_true rfl, Nat.le_of_ble_eq_true rfl⟩ dL_known_420 (fun H locs hP hD hS => ?_)
  rw [(e123.trans (by decide +kernel) : r121.1 = (3 : Int32))]
  refine lv_iconst (v := 3) hx hb dL_known_423 (by decide) ?_
  refine lv_icmp_ne (tgt := 521) hx hb dL_known_424 (by decide) (fun q9 => absurd q9 (by decide)) (fun _ => ?_)
  refine lv_aload_n hx hb dL_known_427 rfl (lv_at hl 0 rfl) ?_
  refine lv_bipush (v := 6) hx hb dL_known_428 (by decide) ?_
  refine cd0_whole 6 (a := 5) ((d_whole (N := N) hN2 hZ124 (w := 6) (by unfold zInt; omega) (ew := by decide)).trans (q1_ (v := 5) (by decide +kernel) (by decide +kernel) (by decide))) F zw_788 hP hD hS hl.1 (Nat.le_of_ble_eq_true rfl) ⟨Nat.le_of_ble_eq_true rfl, Nat.le_of_ble_eq_true rfl⟩ ⟨Nat.le_of_ble_eq_true rfl, Nat.le_of_ble_eq_true rfl⟩ dL_known_430 (fun H locs hP hD hS => ?_)
  refine lv_iconst (v := 5) hx hb dL_known_433 (by decide) ?_
  refine lv_icmp_ne (tgt := 521) hx hb dL_known_434 (by decide) (fun q9 => absurd q9 (by decide)) (fun _ => ?_)
  refine lv_aload_n hx hb dL_known_437 rfl (lv_at hl 0 rfl) ?_
  refine lv_iconst (v := 0) hx hb dL_known_438 (by decide) ?_
  refine cd0_order 0 (a := 0) ((d_order (N := N) hN2 hZ124 (a := 0) (by unfold zInt; omega) (ea := by decide)).trans (q1_ (v := 0) (by decide +kernel) (by decide +kernel) (by decide))) F zw_789 hP hD hS hl.1 (Nat.le_of_ble_eq_true rfl) ⟨Nat.le_of_ble_eq_true rfl, Nat.le_of_ble_eq_true rfl⟩ ⟨Nat.le_of_ble_eq_true rfl, Nat.le_of_ble_eq_true rfl⟩ dL_known_439 (fun H locs hP hD hS => ?_)
  refine lv_if_ne (tgt := 521) hx hb dL_known_442 (by decide) (fun q9 => absurd q9 (by decide)) (fun _ => ?_)
  refine lv_aload_n hx hb dL_known_445 rfl (lv_at hl 0 rfl) ?_
  refine lv_iconst (v := 1) hx hb dL_known_446 (by decide) ?_
  refine cd0_order 1 (a := 1) ((d_order (N := N) hN2 hZ124 (a := 1) (by unfold zInt; omega) (ea := by decide)).trans (q1_ (v := 1) (by decide +kernel) (by decide +kernel) (by decide))) F zw_789 hP hD hS hl.1 (Nat.le_of_ble_eq_true rfl) ⟨Nat.le_of_ble_eq_true rfl, Nat.le_of_ble_eq_true rfl⟩ ⟨Nat.le_of_ble_eq_true rfl, Nat.le_of_ble_eq_true rfl⟩ dL_known_447 (fun H locs hP hD hS => ?_)
  refine lv_iconst (v := 1) hx hb dL_known_450 (by decide) ?_
  refine lv_icmp_ne (tgt := 521) hx hb dL_known_451 (by decide) (fun q9 => absurd q9 (by decide)) (fun _ => ?_)
  refine lv_aload_n hx hb dL_known_454 rfl (lv_at hl 0 rfl) ?_
  refine lv_iconst (v := 2) hx hb dL_known_455 (by decide) ?_
  refine cd0_order 2 (a := 0) ((d_order (N := N) hN2 hZ124 (a := 2) (by unfold zInt; omega) (ea := by decide)).trans (q1_ (v := 0) (by decide +kernel) (by decide +kernel) (by decide))) F zw_789 hP hD hS hl.1 (Nat.le_of_ble_eq_true rfl) ⟨Nat.le_of_ble_eq_true rfl, Nat.le_of_ble_eq_true rfl⟩ ⟨Nat.le_of_ble_eq_true rfl, Nat.le_of_ble_eq_true rfl⟩ dL_known_456 (fun H locs hP hD hS => ?_)
  refine lv_if_ne (tgt := 521) hx hb dL_known_459 (by decide) (fun q9 => absurd q9 (by decide)) (fun _ => ?_)
  refine lv_aload_n hx hb dL_known_462 rfl (lv_at hl 0 rfl) ?_
  refine lv_iconst (v := 3) hx hb dL_known_463 (by decide) ?_
  refine cd0_order 3 (a := 2) ((d_order (N := N) hN2 hZ124 (a := 3) (by unfold zInt; omega) (ea := by decide)).trans (q1_ (v := 2) (by decide +kernel) (by decide +kernel) (by decide))) F zw_789 hP hD hS hl.1 (Nat.le_of_ble_eq_true rfl) ⟨Nat.le_of_ble_eq_true rfl, Nat.le_of_ble_eq_true rfl⟩ ⟨Nat.le_of_ble_eq_true rfl, Nat.le_of_ble_eq_true rfl⟩ dL_known_464 (fun H locs hP hD hS => ?_)
  refine lv_iconst (v := 2) hx hb dL_known_467 (by decide) ?_
  refine lv_icmp_ne (tgt := 521) hx hb dL_known_468 (by decide) (fun q9 => absurd q9 (by decide)) (fun _ => ?_)
  refine lv_aload_n hx hb dL_known_471 rfl (lv_at hl 0 rfl) ?_
  refine lv_iconst (v := 4) hx hb dL_known_472 (by decide) ?_
  refine cd0_order 4 (a := 3) ((d_order (N := N) hN2 hZ124 (a := 4) (by unfold zInt; omega) (ea := by decide)).trans (q1_ (v := 3) (by decide +kernel) (by decide +kernel) (by decide))) F zw_789 hP hD hS hl.1 (Nat.le_of_ble_eq_true rfl) ⟨Nat.le_of_ble_eq_true rfl, Nat.le_of_ble_eq_true rfl⟩ ⟨Nat.le_of_ble_eq_true rfl, Nat.le_of_ble_eq_true rfl⟩ dL_known_473 (fun H locs hP hD hS => ?_)
  refine lv_iconst (v := 3) hx hb dL_known_476 (by decide) ?_
  refine lv_icmp_ne (tgt := 521) hx hb dL_known_477 (by decide) (fun q9 => absurd q9 (by decide)) (fun _ => ?_)
  exact kk _ _ _ _ hZ124 hP hD hS hl
set_option maxHeartbeats 8000000 in
set_option maxRecDepth 100000 in
theorem kn_s3 (hN2 : 20000 ≤ N) (F : zF p m c cL_known 2 s args RL g A) (hN : zN s) (hJ : va_K (zD g) vwCl (zJT j) s) (hO : zO4 s) (hZ : zC kS14 [kS13, kS12, kS11, kS10] 0 (fun _ => 0) K) (hP : va_P (zD g) vwCl (zcW g q K) H) (hD : va_D A (zcW g q K)) (hS : va_S A s.heap H locs) (hl : lv_has ls 2 [(0, .ref (q 0))])
    (kk : ∀ (K : zKT) (H : Heap) (locs : List Loc) (ls : Array Slot), zC kS15 [kS14, kS13, kS12, kS11] 0 (fun _ => 0) K → va_P (zD g) vwCl (zcW g q K) H → va_D A (zcW g q K) → va_S A s.heap H locs → lv_has ls 2 [(0, .ref (q 0))] → W p l e rm_L_known s m args below meth c H locs 0 0 Q (F0 m 632 ls [])) : W p l e rm_L_known s m args below meth c H locs 0 0 Q (F0 m 480 ls []) := by
  have hx := F.1.1
  have hb := F.1.2.1
  have hz := F.1.2.2.2.2
  refine lv_aload_n hx hb dL_known_480 rfl (lv_at hl 0 rfl) ?_
  refine lv_iconst (v := 5) hx hb dL_known_481 (by decide) ?_
  refine cd0_order 5 (a := (-1000)) ((d_order (N := N) hN2 hZ (a := 5) (by unfold zInt; omega) (ea := by decide)).trans (q1_ (v := (-1000)) (by decide +kernel) (by decide +kernel) (by decide))) F zw_789 hP hD hS hl.1 (Nat.le_of_ble_eq_true rfl) ⟨Nat.le_of_ble_eq_true rfl, Nat.le_of_ble_eq_true rfl⟩ ⟨Nat.le_of_ble_eq_true rfl, Nat.le_of_ble_eq_true rfl⟩ dL_known_482 (fun H locs hP hD hS => ?_)
  refine lv_sipush (v := (-1000)) hx hb dL_known_485 (by decide) ?_
  refine lv_icmp_ne (tgt := 521) hx hb dL_known_488 (by decide) (fun q9 => absurd q9 (by decide)) (fun _ => ?_)
  refine lv_aload_n hx hb dL_known_491 rfl (lv_at hl 0 rfl) ?_
  refine lv_iconst (v := 0) hx hb dL_known_492 (by decide) ?_
  refine cd0_timesPlayed 0 (a := 2) ((d_timesPlayed (N := N) hN2 hZ (a := 0) (by unfold zInt; omega) (ea := by decide)).trans (q1_ (v := 2) (by decide +kernel) (by decide +kernel) (by decide))) F zw_792 hP hD hS hl.1 (Nat.le_of_ble_eq_true rfl) ⟨Nat.le_of_ble_eq_true rfl, Nat.le_of_ble_eq_true rfl⟩ ⟨Nat.le_of_ble_eq_true rfl, Nat.le_of_ble_eq_true rfl⟩ dL_known_493 (fun H locs hP hD hS => ?_)
  refine lv_iconst (v := 2) hx hb dL_known_496 (by decide) ?_
  refine lv_icmp_ne (tgt := 521) hx hb dL_known_497 (by decide) (fun q9 => absurd q9 (by decide)) (fun _ => ?_)
  refine lv_aload_n hx hb dL_known_500 rfl (lv_at hl 0 rfl) ?_
  refine lv_iconst (v := 3) hx hb dL_known_501 (by decide) ?_
  refine cd0_timesPlayed 3 (a := 1) ((d_timesPlayed (N := N) hN2 hZ (a := 3) (by unfold zInt; omega) (ea := by decide)).trans (q1_ (v := 1) (by decide +kernel) (by decide +kernel) (by decide))) F zw_792 hP hD hS hl.1 (Nat.le_of_ble_eq_true rfl) ⟨Nat.le_of_ble_eq_true rfl, Nat.le_of_ble_eq_true rfl⟩ ⟨Nat.le_of_ble_eq_true rfl, Nat.le_of_ble_eq_true rfl⟩ dL_known_502 (fun H locs hP hD hS => ?_)
  refine lv_iconst (v := 1) hx hb dL_known_505 (by decide) ?_
  refine lv_icmp_ne (tgt := 521) hx hb dL_known_506 (by decide) (fun q9 => absurd q9 (by decide)) (fun _ => ?_)
  refine lv_aload_n hx hb dL_known_509 rfl (lv_at hl 0 rfl) ?_
  refine lv_bipush (v := 7) hx hb dL_known_510 (by decide) ?_
  refine cd0_whole 7 (a := 320) ((d_whole (N := N) hN2 hZ (w := 7) (by unfold zInt; omega) (ew := by decide)).trans (q1_ (v := 320) (by decide +kernel) (by decide +kernel) (by decide))) F zw_788 hP hD hS hl.1 (Nat.le_of_ble_eq_true rfl) ⟨Nat.le_of_ble_eq_true rfl, Nat.le_of_ble_eq_true rfl⟩ ⟨Nat.le_of_ble_eq_true rfl, Nat.le_of_ble_eq_true rfl⟩ dL_known_512 (fun H locs hP hD hS => ?_)
  refine lv_sipush (v := 320) hx hb dL_known_515 (by decide) ?_
  refine lv_icmp_eq (tgt := 523) hx hb dL_known_518 (by decide) (fun _ => ?_) (fun q9 => absurd q9 (by decide))
  refine lv_aload_n hx hb dL_known_523 rfl (lv_at hl 0 rfl) ?_
  refine lv_iconst (v := 0) hx hb dL_known_524 (by decide) ?_
  refine cd0_seconds 0 (a := smA kS14 0) ((d_seconds (N := N) hN2 hZ (a := 0) (by unfold zInt; omega) (ea := by decide)).trans (q1f (by decide +kernel))) F zw_793 hP hD hS hl.1 (Nat.le_of_ble_eq_true rfl) ⟨Nat.le_of_ble_eq_true rfl, Nat.le_of_ble_eq_true rfl⟩ ⟨Nat.le_of_ble_eq_true rfl, Nat.le_of_ble_eq_true rfl⟩ dL_known_525 (fun H locs hP hD hS => ?_)
  refine lv_fconst0 hx hb dL_known_528 ?_
  refine lv_fcmp hx hb dL_known_529 ?_
  rw [show Op.cmpValue (FP.fcmp (smA kS14 0) FP.fconst0) .l = 0 from by decide +kernel]
  refine lv_if_ne (tgt := 615) hx hb dL_known_530 (by decide) (fun q9 => absurd q9 (by decide)) (fun _ => ?_)
  refine lv_aload_n hx hb dL_known_533 rfl (lv_at hl 0 rfl) ?_
  refine lv_iconst (v := 1) hx hb dL_known_534 (by decide) ?_
  refine cd0_seconds 1 (a := smA kS14 1) ((d_seconds (N := N) hN2 hZ (a := 1) (by unfold zInt; omega) (ea := by decide)).trans (q1f (by decide +kernel))) F zw_793 hP hD hS hl.1 (Nat.le_of_ble_eq_true rfl) ⟨Nat.le_of_ble_eq_true rfl, Nat.le_of_ble_eq_true rfl⟩ ⟨Nat.le_of_ble_eq_true rfl, Nat.le_of_ble_eq_true rfl⟩ dL_known_535 (fun H locs hP hD hS => ?_)
  refine lv_fconst2 hx hb dL_known_538 ?_
  refine lv_fcmp hx hb dL_known_539 ?_
  rw [show Op.cmpValue (FP.fcmp (smA kS14 1) FP.fconst2) .l = 0 from by decide +kernel]
  refine lv_if_ne (tgt := 615) hx hb dL_known_540 (by decide) (fun q9 => absurd q9 (by decide)) (fun _ => ?_)
  refine lv_aload_n hx hb dL_known_543 rfl (lv_at hl 0 rfl) ?_
  refine lv_iconst (v := 5) hx hb dL_known_544 (by decide) ?_
  refine cd0_seconds 5 (a := smA kS14 5) ((d_seconds (N := N) hN2 hZ (a := 5) (by unfold zInt; omega) (ea := by decide)).trans (q1f (by decide +kernel))) F zw_793 hP hD hS hl.1 (Nat.le_of_ble_eq_true rfl) ⟨Nat.le_of_ble_eq_true rfl, Nat.le_of_ble_eq_true rfl⟩ ⟨Nat.le_of_ble_eq_true rfl, Nat.le_of_ble_eq_true rfl⟩ dL_known_545 (fun H locs hP hD hS => ?_)
  refine lv_ldcfw hx hb F.1.2.2.2.1 (hz _ zw_992) dL_known_548 ?_
  refine lv_fcmp hx hb dL_known_551 ?_
  rw [show Op.cmpValue (FP.fcmp (smA kS14 5) (1092616192)) .l = 0 from by decide +kernel]
  refine lv_if_ne (tgt := 615) hx hb dL_known_552 (by decide) (fun q9 => absurd q9 (by decide)) (fun _ => ?_)
  refine lv_aload_n hx hb dL_known_555 rfl (lv_at hl 0 rfl) ?_
  refine lv_bipush (v := 99) hx hb dL_known_556 (by decide) ?_
  refine cd0_seconds 99 (a := smA kS14 99) ((d_seconds (N := N) hN2 hZ (a := 99) (by unfold zInt; omega) (ea := by decide)).trans (q1f (by decide +kernel))) F zw_793 hP hD hS hl.1 (Nat.le_of_ble_eq_true rfl) ⟨Nat.le_of_ble_eq_true rfl, Nat.le_of_ble_eq_true rfl⟩ ⟨Nat.le_of_ble_eq_true rfl, Nat.le_of_ble_eq_true rfl⟩ dL_known_558 (fun H locs hP hD hS => ?_)
  refine lv_ldcfw hx hb F.1.2.2.2.1 (hz _ zw_992) dL_known_561 ?_
  refine lv_fcmp hx hb dL_known_564 ?_
  rw [show Op.cmpValue (FP.fcmp (smA kS14 99) (1092616192)) .l = 0 from by decide +kernel]
  refine lv_if_ne (tgt := 615) hx hb dL_known_565 (by decide) (fun q9 => absurd q9 (by decide)) (fun _ => ?_)
  refine lv_aload_n hx hb dL_known_568 rfl (lv_at hl 0 rfl) ?_
  refine lv_iconst (v := 0) hx hb dL_known_569 (by decide) ?_
  refine cd0_placeAt 0 (a := 0) ((d_placeAt (N := N) hN2 hZ (a := 0) (by unfold zInt; omega) (ea := by decide)).trans (q1_ (v := 0) (by decide +kernel) (by decide +kernel) (by decide))) F zw_796 hP hD hS hl.1 (Nat.le_of_ble_eq_true rfl) ⟨Nat.le_of_ble_eq_true rfl, Nat.le_of_ble_eq_true rfl⟩ ⟨Nat.le_of_ble_eq_true rfl, Nat.le_of_ble_eq_true rfl⟩ dL_known_570 (fun H locs hP hD hS => ?_)
  refine lv_if_ne (tgt := 615) hx hb dL_known_573 (by decide) (fun q9 => absurd q9 (by decide)) (fun _ => ?_)
  refine lv_aload_n hx hb dL_known_576 rfl (lv_at hl 0 rfl) ?_
  refine lv_iconst (v := 1) hx hb dL_known_577 (by decide) ?_
  refine cd0_placeAt 1 (a := 0) ((d_placeAt (N := N) hN2 hZ (a := 1) (by unfold zInt; omega) (ea := by decide)).trans (q1_ (v := 0) (by decide +kernel) (by decide +kernel) (by decide))) F zw_796 hP hD hS hl.1 (Nat.le_of_ble_eq_true rfl) ⟨Nat.le_of_ble_eq_true rfl, Nat.le_of_ble_eq_true rfl⟩ ⟨Nat.le_of_ble_eq_true rfl, Nat.le_of_ble_eq_true rfl⟩ dL_known_578 (fun H locs hP hD hS => ?_)
  refine lv_if_ne (tgt := 615) hx hb dL_known_581 (by decide) (fun q9 => absurd q9 (by decide)) (fun _ => ?_)
  refine lv_aload_n hx hb dL_known_584 rfl (lv_at hl 0 rfl) ?_
  refine lv_iconst (v := 2) hx hb dL_known_585 (by decide) ?_
  refine cd0_placeAt 2 (a := 1) ((d_placeAt (N := N) hN2 hZ (a := 2) (by unfold zInt; omega) (ea := by decide)).trans (q1_ (v := 1) (by decide +kernel) (by decide +kernel) (by decide))) F zw_796 hP hD hS hl.1 (Nat.le_of_ble_eq_true rfl) ⟨Nat.le_of_ble_eq_true rfl, Nat.le_of_ble_eq_true rfl⟩ ⟨Nat.le_of_ble_eq_true rfl, Nat.le_of_ble_eq_true rfl⟩ dL_known_586 (fun H locs hP hD hS => ?_)
  refine lv_iconst (v := 1) hx hb dL_known_589 (by decide) ?_
  refine lv_icmp_ne (tgt := 615) hx hb dL_known_590 (by decide) (fun q9 => absurd q9 (by decide)) (fun _ => ?_)
  refine lv_aload_n hx hb dL_known_593 rfl (lv_at hl 0 rfl) ?_
  refine lv_bipush (v := 9) hx hb dL_known_594 (by decide) ?_
  refine cd0_placeAt 9 (a := 4) ((d_placeAt (N := N) hN2 hZ (a := 9) (by unfold zInt; omega) (ea := by decide)).trans (q1_ (v := 4) (by decide +kernel) (by decide +kernel) (by decide))) F zw_796 hP hD hS hl.1 (Nat.le_of_ble_eq_true rfl) ⟨Nat.le_of_ble_eq_true rfl, Nat.le_of_ble_eq_true rfl⟩ ⟨Nat.le_of_ble_eq_true rfl, Nat.le_of_ble_eq_true rfl⟩ dL_known_596 (fun H locs hP hD hS => ?_)
  refine lv_iconst (v := 4) hx hb dL_known_599 (by decide) ?_
  refine lv_icmp_ne (tgt := 615) hx hb dL_known_600 (by decide) (fun q9 => absurd q9 (by decide)) (fun _ => ?_)
  refine lv_aload_n hx hb dL_known_603 rfl (lv_at hl 0 rfl) ?_
  refine lv_bipush (v := 10) hx hb dL_known_604 (by decide) ?_
  refine cd0_placeAt 10 (a := (-1000)) ((d_placeAt (N := N) hN2 hZ (a := 10) (by unfold zInt; omega) (ea := by decide)).trans (q1_ (v := (-1000)) (by decide +kernel) (by decide +kernel) (by decide))) F zw_796 hP hD hS hl.1 (Nat.le_of_ble_eq_true rfl) ⟨Nat.le_of_ble_eq_true rfl, Nat.le_of_ble_eq_true rfl⟩ ⟨Nat.le_of_ble_eq_true rfl, Nat.le_of_ble_eq_true rfl⟩ dL_known_606 (fun H locs hP hD hS => ?_)
  refine lv_sipush (v := (-1000)) hx hb dL_known_609 (by decide) ?_
  refine lv_icmp_eq (tgt := 617) hx hb dL_known_612 (by decide) (fun _ => ?_) (fun q9 => absurd q9 (by decide))
  refine lv_aload_n hx hb dL_known_617 rfl (lv_at hl 0 rfl) ?_
  refine lv_iconst (v := 3) hx hb dL_known_618 (by decide) ?_
  refine lv_iconst (v := 0) hx hb dL_known_619 (by decide) ?_
  refine lv_bipush (v := 28) hx hb dL_known_620 (by decide) ?_
  refine lv_iconst (v := 0) hx hb dL_known_622 (by decide) ?_
  refine lv_iconst (v := 2) hx hb dL_known_623 (by decide) ?_
  refine lv_iconst (v := 0) hx hb dL_known_624 (by decide) ?_
  obtain ⟨r182, h183, e184, hZ185⟩ := d_addNote (N := N) hN2 hZ (x := 3) (y := 0) (p := 28) (s := 0) (d := 2) (y6 := 0) (by decide +kernel) (by decide) (by decide +kernel) (yx := 3) (ex := by decide) (yy := 0) (ey := by decide) (yp := 28) (ep := by decide) (ys := 0) (es := by decide) (yd := 2) (ed := by decide)
  have hZ185 : zC kS15 [kS14, kS13, kS12, kS11] 0 (fun _ => 0) (k1_addNote K r182) := hZ185
  refine cd0_addNote 3 0 28 0 2 0 (a := r182) h183 F zw_772 hP hD hS hl.1 (Nat.le_of_ble_eq_true rfl) ⟨Nat.le_of_ble_eq_true rfl, Nat.le_of_ble_eq_true rfl⟩ ⟨Nat.le_of_ble_eq_true rfl, Nat.le_of_ble_eq_true rfl⟩ dL_known_625 (fun H locs hP hD hS => ?_)
  rw [(e184.trans (by decide +kernel) : r182.1 = (1 : Int32))]
  refine lv_iconst (v := 1) hx hb dL_known_628 (by decide) ?_
  refine lv_icmp_ne (tgt := 699) hx hb dL_known_629 (by decide) (fun q9 => absurd q9 (by decide)) (fun _ => ?_)
  exact kk _ _ _ _ hZ185 hP hD hS hl
set_option maxHeartbeats 8000000 in
set_option maxRecDepth 100000 in
theorem kn_s4 (hN2 : 20000 ≤ N) (F : zF p m c cL_known 2 s args RL g A) (hN : zN s) (hJ : va_K (zD g) vwCl (zJT j) s) (hO : zO4 s) (hZ : zC kS15 [kS14, kS13, kS12, kS11] 0 (fun _ => 0) K) (hP : va_P (zD g) vwCl (zcW g q K) H) (hD : va_D A (zcW g q K)) (hS : va_S A s.heap H locs) (hl : lv_has ls 2 [(0, .ref (q 0))])
    (kk : ∀ (K : zKT) (H : Heap) (locs : List Loc) (ls : Array Slot), zC kS20 [kS19, kS18, kS17, kS16] (tyS (100) 8 (txS (7089072771180818288) (7308814938316301157) (2319670884600015969) (8367741023402683494) (2338609990704588142))).1 (tyS (100) 8 (txS (7089072771180818288) (7308814938316301157) (2319670884600015969) (8367741023402683494) (2338609990704588142))).2 K → va_P (zD g) vwCl (zcW g q K) H → va_D A (zcW g q K) → va_S A s.heap H locs → lv_has ls 2 [(1, .int 38), (0, .ref (q 0))] → W p l e rm_L_known s m args below meth c H locs 0 0 Q (F0 m 828 ls [])) : W p l e rm_L_known s m args below meth c H locs 0 0 Q (F0 m 632 ls []) := by
  have hx := F.1.1
  have hb := F.1.2.1
  have hz := F.1.2.2.2.2
  refine lv_aload_n hx hb dL_known_632 rfl (lv_at hl 0 rfl) ?_
  refine lv_iconst (v := 3) hx hb dL_known_633 (by decide) ?_
  refine lv_iconst (v := 0) hx hb dL_known_634 (by decide) ?_
  refine lv_bipush (v := 40) hx hb dL_known_635 (by decide) ?_
  refine lv_iconst (v := 0) hx hb dL_known_637 (by decide) ?_
  refine lv_iconst (v := 2) hx hb dL_known_638 (by decide) ?_
  refine lv_iconst (v := 0) hx hb dL_known_639 (by decide) ?_
  obtain ⟨r186, h187, e188, hZ189⟩ := d_addNote (N := N) hN2 hZ (x := 3) (y := 0) (p := 40) (s := 0) (d := 2) (y6 := 0) (by decide +kernel) (by decide) (by decide +kernel) (yx := 3) (ex := by decide) (yy := 0) (ey := by decide) (yp := 40) (ep := by decide) (ys := 0) (es := by decide) (yd := 2) (ed := by decide)
  have hZ189 : zC kS16 [kS15, kS14, kS13, kS12] 0 (fun _ => 0) (k1_addNote K r186) := hZ189
  refine cd0_addNote 3 0 40 0 2 0 (a := r186) h187 F zw_772 hP hD hS hl.1 (Nat.le_of_ble_eq_true rfl) ⟨Nat.le_of_ble_eq_true rfl, Nat.le_of_ble_eq_true rfl⟩ ⟨Nat.le_of_ble_eq_true rfl, Nat.le_of_ble_eq_true rfl⟩ dL_known_640 (fun H locs hP hD hS => ?_)
  rw [(e188.trans (by decide +kernel) : r186.1 = (2 : Int32))]
  refine lv_iconst (v := 2) hx hb dL_known_643 (by decide) ?_
  refine lv_icmp_ne (tgt := 699) hx hb dL_known_644 (by decide) (fun q9 => absurd q9 (by decide)) (fun _ => ?_)
  refine lv_aload_n hx hb dL_known_647 rfl (lv_at hl 0 rfl) ?_
  refine lv_iconst (v := 3) hx hb dL_known_648 (by decide) ?_
  refine lv_iconst (v := 1) hx hb dL_known_649 (by decide) ?_
  refine lv_bipush (v := 6) hx hb dL_known_650 (by decide) ?_
  obtain ⟨r190, h191, e192, hZ193⟩ := d_addRest (N := N) hN2 hZ189 (x := 3) (y := 1) (d := 6) (by decide +kernel) (by decide) (by decide +kernel) (yx := 3) (ex := by decide) (yy := 1) (ey := by decide) (yd := 6) (ed := by decide)
  have hZ193 : zC kS17 [kS16, kS15, kS14, kS13] 0 (fun _ => 0) (k1_addRest (k1_addNote K r186) r190) := hZ193
  refine cd0_addRest 3 1 6 (a := r190) h191 F zw_775 hP hD hS hl.1 (Nat.le_of_ble_eq_true rfl) ⟨Nat.le_of_ble_eq_true rfl, Nat.le_of_ble_eq_true rfl⟩ ⟨Nat.le_of_ble_eq_true rfl, Nat.le_of_ble_eq_true rfl⟩ dL_known_652 (fun H locs hP hD hS => ?_)
  rw [(e192.trans (by decide +kernel) : r190.1 = (1 : Int32))]
  refine lv_iconst (v := 1) hx hb dL_known_655 (by decide) ?_
  refine lv_icmp_ne (tgt := 699) hx hb dL_known_656 (by decide) (fun q9 => absurd q9 (by decide)) (fun _ => ?_)
  refine lv_aload_n hx hb dL_known_659 rfl (lv_at hl 0 rfl) ?_
  refine lv_iconst (v := 3) hx hb dL_known_660 (by decide) ?_
  refine lv_iconst (v := 1) hx hb dL_known_661 (by decide) ?_
  refine lv_bipush (v := 29) hx hb dL_known_662 (by decide) ?_
  refine lv_iconst (v := 0) hx hb dL_known_664 (by decide) ?_
  refine lv_iconst (v := 4) hx hb dL_known_665 (by decide) ?_
  refine lv_iconst (v := 0) hx hb dL_known_666 (by decide) ?_
  obtain ⟨r194, h195, e196, hZ197⟩ := d_addNote (N := N) hN2 hZ193 (x := 3) (y := 1) (p := 29) (s := 0) (d := 4) (y6 := 0) (by decide +kernel) (by decide) (by decide +kernel) (yx := 3) (ex := by decide) (yy := 1) (ey := by decide) (yp := 29) (ep := by decide) (ys := 0) (es := by decide) (yd := 4) (ed := by decide)
  have hZ197 : zC kS18 [kS17, kS16, kS15, kS14] 0 (fun _ => 0) (k1_addNote (k1_addRest (k1_addNote K r186) r190) r194) := hZ197
  refine cd0_addNote 3 1 29 0 4 0 (a := r194) h195 F zw_772 hP hD hS hl.1 (Nat.le_of_ble_eq_true rfl) ⟨Nat.le_of_ble_eq_true rfl, Nat.le_of_ble_eq_true rfl⟩ ⟨Nat.le_of_ble_eq_true rfl, Nat.le_of_ble_eq_true rfl⟩ dL_known_667 (fun H locs hP hD hS => ?_)
  rw [(e196.trans (by decide +kernel) : r194.1 = (2 : Int32))]
  refine lv_iconst (v := 2) hx hb dL_known_670 (by decide) ?_
  refine lv_icmp_ne (tgt := 699) hx hb dL_known_671 (by decide) (fun q9 => absurd q9 (by decide)) (fun _ => ?_)
  refine lv_aload_n hx hb dL_known_674 rfl (lv_at hl 0 rfl) ?_
  refine lv_iconst (v := 3) hx hb dL_known_675 (by decide) ?_
  refine lv_iconst (v := 1) hx hb dL_known_676 (by decide) ?_
  refine lv_bipush (v := 41) hx hb dL_known_677 (by decide) ?_
  refine lv_iconst (v := 0) hx hb dL_known_679 (by decide) ?_
  refine lv_iconst (v := 4) hx hb dL_known_680 (by decide) ?_
  refine lv_iconst (v := 0) hx hb dL_known_681 (by decide) ?_
  obtain ⟨r198, h199, e200, hZ201⟩ := d_addNote (N := N) hN2 hZ197 (x := 3) (y := 1) (p := 41) (s := 0) (d := 4) (y6 := 0) (by decide +kernel) (by decide) (by decide +kernel) (yx := 3) (ex := by decide) (yy := 1) (ey := by decide) (yp := 41) (ep := by decide) (ys := 0) (es := by decide) (yd := 4) (ed := by decide)
  have hZ201 : zC kS19 [kS18, kS17, kS16, kS15] 0 (fun _ => 0) (k1_addNote (k1_addNote (k1_addRest (k1_addNote K r186) r190) r194) r198) := hZ201
  refine cd0_addNote 3 1 41 0 4 0 (a := r198) h199 F zw_772 hP hD hS hl.1 (Nat.le_of_ble_eq_true rfl) ⟨Nat.le_of_ble_eq_true rfl, Nat.le_of_ble_eq_true rfl⟩ ⟨Nat.le_of_ble_eq_true rfl, Nat.le_of_ble_eq_true rfl⟩ dL_known_682 (fun H locs hP hD hS => ?_)
  rw [(e200.trans (by decide +kernel) : r198.1 = (3 : Int32))]
  refine lv_iconst (v := 3) hx hb dL_known_685 (by decide) ?_
  refine lv_icmp_ne (tgt := 699) hx hb dL_known_686 (by decide) (fun q9 => absurd q9 (by decide)) (fun _ => ?_)
  refine lv_aload_n hx hb dL_known_689 rfl (lv_at hl 0 rfl) ?_
  refine lv_iconst (v := 3) hx hb dL_known_690 (by decide) ?_
  refine cd0_crossings 3 (a := 32) ((d_crossings (N := N) hN2 hZ201 (a := 3) (by unfold zInt; omega) (ea := by decide)).trans (q1_ (v := 32) (by decide +kernel) (by decide +kernel) (by decide))) F zw_786 hP hD hS hl.1 (Nat.le_of_ble_eq_true rfl) ⟨Nat.le_of_ble_eq_true rfl, Nat.le_of_ble_eq_true rfl⟩ ⟨Nat.le_of_ble_eq_true rfl, Nat.le_of_ble_eq_true rfl⟩ dL_known_691 (fun H locs hP hD hS => ?_)
  refine lv_bipush (v := 32) hx hb dL_known_694 (by decide) ?_
  refine lv_icmp_eq (tgt := 701) hx hb dL_known_696 (by decide) (fun _ => ?_) (fun q9 => absurd q9 (by decide))
  refine lv_aload_n hx hb dL_known_701 rfl (lv_at hl 0 rfl) ?_
  refine lv_ldc2 hx hb F.1.2.2.2.1 (hz _ zw_993) dL_known_702 ?_
  refine lv_ldc2 hx hb F.1.2.2.2.1 (hz _ zw_994) dL_known_705 ?_
  refine lv_ldc2 hx hb F.1.2.2.2.1 (hz _ zw_995) dL_known_708 ?_
  refine lv_ldc2 hx hb F.1.2.2.2.1 (hz _ zw_996) dL_known_711 ?_
  refine lv_ldc2 hx hb F.1.2.2.2.1 (hz _ zw_997) dL_known_714 ?_
  refine zcu (n := 6) [] [] [0, 1, 2, 3, 4, 5, 6, 7, 8, 9, 10, 11, 12, 13, 14, 15, 16, 17, 18, 19, 20, 21, 22, 23, 24] [0, 1, 2, 3, 4, 5, 6, 7, 8, 9, 10, 11, 12, 13, 14, 15, 16, 17, 18, 19, 20, 21, 22, 23, 24] (faultOf_ok l N hN2 g j q kS19 [kS18, kS17, kS16, kS15] (7089072771180818288) (7308814938316301157) (2319670884600015969) (8367741023402683494) (2338609990704588142) kt_ok (v := 38) (by rw [kt_v]; decide)) ⟨_, _, hZ201⟩ F hN hJ hO ⟨zw_990, zw_840, zw_935, ⟨by decide, by decide⟩, by decide +kernel⟩ zw_989 hP hD hS rfl rfl rfl (by decide) (fun _ => rfl) (by decide) rfl hl.1 (rest := []) rfl (Nat.le_of_ble_eq_true rfl) ⟨rfl, rfl⟩ ⟨Nat.le_of_ble_eq_true rfl, Nat.le_of_ble_eq_true rfl⟩ ⟨Nat.le_of_ble_eq_true rfl, Nat.le_of_ble_eq_true rfl⟩ dL_known_717 (st1 := [.int 38]) rfl (fun K H locs hZ hP hD hS => ?_)
  refine lv_istore_n (lv' := [(1, .int 38), (0, .ref (q 0))]) hx hb dL_known_720 rfl hl (by decide) rfl (fun ls hl => ?_)
  refine lv_aload_n hx hb dL_known_721 rfl (lv_at hl 1 rfl) ?_
  refine lv_ldc2 hx hb F.1.2.2.2.1 (hz _ zw_940) dL_known_722 ?_
  refine zcu (n := 2) [] [] [0, 1, 2, 3, 4, 5, 6, 7, 8, 9, 10, 11, 12, 13, 14, 15, 16, 17, 18, 19, 20, 21, 22, 23, 24] [0, 1, 2, 3, 4, 5, 6, 7, 8, 9, 10, 11, 12, 13, 14, 15, 16, 17, 18, 19, 20, 21, 22, 23, 24] (types_ok l g j q kS19 [kS18, kS17, kS16, kS15] (100) kt_ty (L := (txS (7089072771180818288) (7308814938316301157) (2319670884600015969) (8367741023402683494) (2338609990704588142)).1) (T := (txS (7089072771180818288) (7308814938316301157) (2319670884600015969) (8367741023402683494) (2338609990704588142)).2) kt_ln) hZ F hN hJ hO ⟨zw_931, zw_840, zw_929, ⟨by decide, by decide⟩, by decide +kernel⟩ zw_930 hP hD hS rfl rfl rfl (by decide) (fun _ => rfl) (by decide) rfl hl.1 (rest := []) rfl (Nat.le_of_ble_eq_true rfl) ⟨rfl, rfl⟩ ⟨Nat.le_of_ble_eq_true rfl, Nat.le_of_ble_eq_true rfl⟩ ⟨Nat.le_of_ble_eq_true rfl, Nat.le_of_ble_eq_true rfl⟩ dL_known_725 (st1 := []) rfl (fun K H locs hZ hP hD hS => ?_)
  refine lv_iload_n hx hb dL_known_728 rfl (lv_at hl 0 rfl) ?_
  refine lv_bipush (v := 38) hx hb dL_known_729 (by decide) ?_
  refine lv_icmp_ne (tgt := 859) hx hb dL_known_731 (by decide) (fun q9 => absurd q9 (by decide)) (fun _ => ?_)
  refine lv_aload_n hx hb dL_known_734 rfl (lv_at hl 1 rfl) ?_
  obtain ⟨r205, h206, e207, hZ208⟩ := d_fault (N := N) hN2 hZ
  refine cd0_fault (a := r205) h206 F zw_932 hP hD hS hl.1 (Nat.le_of_ble_eq_true rfl) ⟨Nat.le_of_ble_eq_true rfl, Nat.le_of_ble_eq_true rfl⟩ ⟨Nat.le_of_ble_eq_true rfl, Nat.le_of_ble_eq_true rfl⟩ dL_known_735 (fun H locs hP hD hS => ?_)
  rw [(e207.trans (by decide +kernel) : r205.1 = ((-1000) : Int32))]
  refine lv_sipush (v := (-1000)) hx hb dL_known_738 (by decide) ?_
  refine lv_icmp_ne (tgt := 859) hx hb dL_known_741 (by decide) (fun q9 => absurd q9 (by decide)) (fun _ => ?_)
  refine lv_aload_n hx hb dL_known_744 rfl (lv_at hl 1 rfl) ?_
  refine lv_iconst (v := 3) hx hb dL_known_745 (by decide) ?_
  obtain ⟨r209, h210, e211, hZ212⟩ := d_tells (N := N) hN2 hZ208 (m := 3) (by decide +kernel) (ym := 3) (em := by decide)
  refine cd0_tells 3 (a := r209) h210 F zw_820 hP hD hS hl.1 (Nat.le_of_ble_eq_true rfl) ⟨Nat.le_of_ble_eq_true rfl, Nat.le_of_ble_eq_true rfl⟩ ⟨Nat.le_of_ble_eq_true rfl, Nat.le_of_ble_eq_true rfl⟩ dL_known_746 (fun H locs hP hD hS => ?_)
  rw [(e211.trans (by decide +kernel) : r209.1 = (0 : Int32))]
  refine lv_if_ne (tgt := 859) hx hb dL_known_749 (by decide) (fun q9 => absurd q9 (by decide)) (fun _ => ?_)
  refine lv_aload_n hx hb dL_known_752 rfl (lv_at hl 1 rfl) ?_
  refine lv_iconst (v := 3) hx hb dL_known_753 (by decide) ?_
  obtain ⟨r213, h214, e215, hZ216⟩ := d_readInto (N := N) hN2 hZ212 (m := 3) (by decide +kernel) (by decide +kernel) kn_ok (ym := 3) (em := by decide)
  have hZ216 : zC kS20 [kS19, kS18, kS17, kS16] (tyS (100) 8 (txS (7089072771180818288) (7308814938316301157) (2319670884600015969) (8367741023402683494) (2338609990704588142))).1 (tyS (100) 8 (txS (7089072771180818288) (7308814938316301157) (2319670884600015969) (8367741023402683494) (2338609990704588142))).2 (k1_readInto (k1_tells (k1_fault K r205) r209) r213) := hZ216
  refine cd0_readInto 3 (a := r213) h214 F zw_817 hP hD hS hl.1 (Nat.le_of_ble_eq_true rfl) ⟨Nat.le_of_ble_eq_true rfl, Nat.le_of_ble_eq_true rfl⟩ ⟨Nat.le_of_ble_eq_true rfl, Nat.le_of_ble_eq_true rfl⟩ dL_known_754 (fun H locs hP hD hS => ?_)
  rw [(e215.trans (by decide +kernel) : r213.1 = (1 : Int32))]
  refine lv_iconst (v := 1) hx hb dL_known_757 (by decide) ?_
  refine lv_icmp_ne (tgt := 859) hx hb dL_known_758 (by decide) (fun q9 => absurd q9 (by decide)) (fun _ => ?_)
  refine lv_aload_n hx hb dL_known_761 rfl (lv_at hl 1 rfl) ?_
  refine lv_iconst (v := 3) hx hb dL_known_762 (by decide) ?_
  obtain ⟨r217, h218, e219, hZ220⟩ := d_tells (N := N) hN2 hZ216 (m := 3) (by decide +kernel) (ym := 3) (em := by decide)
  refine cd0_tells 3 (a := r217) h218 F zw_820 hP hD hS hl.1 (Nat.le_of_ble_eq_true rfl) ⟨Nat.le_of_ble_eq_true rfl, Nat.le_of_ble_eq_true rfl⟩ ⟨Nat.le_of_ble_eq_true rfl, Nat.le_of_ble_eq_true rfl⟩ dL_known_763 (fun H locs hP hD hS => ?_)
  rw [(e219.trans (by decide +kernel) : r217.1 = (1 : Int32))]
  refine lv_if_eq (tgt := 859) hx hb dL_known_766 (by decide) (fun q9 => absurd q9 (by decide)) (fun _ => ?_)
  refine lv_aload_n hx hb dL_known_769 rfl (lv_at hl 1 rfl) ?_
  refine lv_iconst (v := 3) hx hb dL_known_770 (by decide) ?_
  refine lv_iconst (v := 4) hx hb dL_known_771 (by decide) ?_
  refine cd0_measure 3 4 (a := 1) ((d_measure (N := N) hN2 hZ220 (a := 3) (b := 4) (by unfold zInt; omega) (by unfold zInt; omega) (ea := by decide) (eb := by decide)).trans (q2_ (v := 1) (by decide +kernel) (by decide +kernel) (by decide +kernel) (by decide))) F zw_781 hP hD hS hl.1 (Nat.le_of_ble_eq_true rfl) ⟨Nat.le_of_ble_eq_true rfl, Nat.le_of_ble_eq_true rfl⟩ ⟨Nat.le_of_ble_eq_true rfl, Nat.le_of_ble_eq_true rfl⟩ dL_known_772 (fun H locs hP hD hS => ?_)
  refine lv_iconst (v := 1) hx hb dL_known_775 (by decide) ?_
  refine lv_icmp_ne (tgt := 859) hx hb dL_known_776 (by decide) (fun q9 => absurd q9 (by decide)) (fun _ => ?_)
  refine lv_aload_n hx hb dL_known_779 rfl (lv_at hl 1 rfl) ?_
  refine lv_iconst (v := 3) hx hb dL_known_780 (by decide) ?_
  refine lv_bipush (v := 9) hx hb dL_known_781 (by decide) ?_
  refine cd0_measure 3 9 (a := 0) ((d_measure (N := N) hN2 hZ220 (a := 3) (b := 9) (by unfold zInt; omega) (by unfold zInt; omega) (ea := by decide) (eb := by decide)).trans (q2_ (v := 0) (by decide +kernel) (by decide +kernel) (by decide +kernel) (by decide))) F zw_781 hP hD hS hl.1 (Nat.le_of_ble_eq_true rfl) ⟨Nat.le_of_ble_eq_true rfl, Nat.le_of_ble_eq_true rfl⟩ ⟨Nat.le_of_ble_eq_true rfl, Nat.le_of_ble_eq_true rfl⟩ dL_known_783 (fun H locs hP hD hS => ?_)
  refine lv_if_ne (tgt := 859) hx hb dL_known_786 (by decide) (fun q9 => absurd q9 (by decide)) (fun _ => ?_)
  refine lv_aload_n hx hb dL_known_789 rfl (lv_at hl 1 rfl) ?_
  refine lv_iconst (v := 3) hx hb dL_known_790 (by decide) ?_
  refine lv_iconst (v := 0) hx hb dL_known_791 (by decide) ?_
  refine lv_iconst (v := 0) hx hb dL_known_792 (by decide) ?_
  refine lv_iconst (v := 0) hx hb dL_known_793 (by decide) ?_
  refine cd0_event 3 0 0 0 (a := 5) ((d_event (N := N) hN2 hZ220 (a := 3) (b := 0) (c := 0) (w := 0) (by unfold zInt; omega) (by unfold zInt; omega) (by unfold zInt; omega) (by unfold zInt; omega) (ea := by decide) (eb := by decide) (ec := by decide) (ew := by decide)).trans (q2_ (v := 5) (by decide +kernel) (by decide +kernel) (by decide +kernel) (by decide))) F zw_782 hP hD hS hl.1 (Nat.le_of_ble_eq_true rfl) ⟨Nat.le_of_ble_eq_true rfl, Nat.le_of_ble_eq_true rfl⟩ ⟨Nat.le_of_ble_eq_true rfl, Nat.le_of_ble_eq_true rfl⟩ dL_known_794 (fun H locs hP hD hS => ?_)
  refine lv_iconst (v := 5) hx hb dL_known_797 (by decide) ?_
  refine lv_icmp_ne (tgt := 859) hx hb dL_known_798 (by decide) (fun q9 => absurd q9 (by decide)) (fun _ => ?_)
  refine lv_aload_n hx hb dL_known_801 rfl (lv_at hl 1 rfl) ?_
  refine lv_iconst (v := 3) hx hb dL_known_802 (by decide) ?_
  refine lv_iconst (v := 0) hx hb dL_known_803 (by decide) ?_
  refine lv_iconst (v := 0) hx hb dL_known_804 (by decide) ?_
  refine lv_bipush (v := 7) hx hb dL_known_805 (by decide) ?_
  refine cd0_event 3 0 0 7 (a := 8) ((d_event (N := N) hN2 hZ220 (a := 3) (b := 0) (c := 0) (w := 7) (by unfold zInt; omega) (by unfold zInt; omega) (by unfold zInt; omega) (by unfold zInt; omega) (ea := by decide) (eb := by decide) (ec := by decide) (ew := by decide)).trans (q2_ (v := 8) (by decide +kernel) (by decide +kernel) (by decide +kernel) (by decide))) F zw_782 hP hD hS hl.1 (Nat.le_of_ble_eq_true rfl) ⟨Nat.le_of_ble_eq_true rfl, Nat.le_of_ble_eq_true rfl⟩ ⟨Nat.le_of_ble_eq_true rfl, Nat.le_of_ble_eq_true rfl⟩ dL_known_807 (fun H locs hP hD hS => ?_)
  refine lv_bipush (v := 8) hx hb dL_known_810 (by decide) ?_
  refine lv_icmp_ne (tgt := 859) hx hb dL_known_812 (by decide) (fun q9 => absurd q9 (by decide)) (fun _ => ?_)
  refine lv_aload_n hx hb dL_known_815 rfl (lv_at hl 1 rfl) ?_
  refine lv_iconst (v := 3) hx hb dL_known_816 (by decide) ?_
  refine lv_iconst (v := 0) hx hb dL_known_817 (by decide) ?_
  refine lv_iconst (v := 0) hx hb dL_known_818 (by decide) ?_
  refine lv_bipush (v := 9) hx hb dL_known_819 (by decide) ?_
  refine cd0_event 3 0 0 9 (a := 1) ((d_event (N := N) hN2 hZ220 (a := 3) (b := 0) (c := 0) (w := 9) (by unfold zInt; omega) (by unfold zInt; omega) (by unfold zInt; omega) (by unfold zInt; omega) (ea := by decide) (eb := by decide) (ec := by decide) (ew := by decide)).trans (q2_ (v := 1) (by decide +kernel) (by decide +kernel) (by decide +kernel) (by decide))) F zw_782 hP hD hS hl.1 (Nat.le_of_ble_eq_true rfl) ⟨Nat.le_of_ble_eq_true rfl, Nat.le_of_ble_eq_true rfl⟩ ⟨Nat.le_of_ble_eq_true rfl, Nat.le_of_ble_eq_true rfl⟩ dL_known_821 (fun H locs hP hD hS => ?_)
  refine lv_iconst (v := 1) hx hb dL_known_824 (by decide) ?_
  refine lv_icmp_ne (tgt := 859) hx hb dL_known_825 (by decide) (fun q9 => absurd q9 (by decide)) (fun _ => ?_)
  exact kk _ _ _ _ hZ220 hP hD hS hl
end ZKN
set_option maxHeartbeats 8000000 in
set_option maxRecDepth 100000 in
theorem known_ok (l : Launch) (N : Nat) (hN2 : 20000 ≤ N) (g : zEnv) (j : zJ) (q : Nat → Nat) : ZU l yL_known cL_known 2 (some .boolean) rm_L_known g j q [.ref (q 0)] (zC kS0 [] 0 (fun _ => 0)) (fun K => ∃ S hs L T, zC S hs L T K) (some (.int 1)) 0 0 := by
  refine zU_of (by decide) (Nat.le_of_ble_eq_true rfl) ?_
  intro p e s m below meth c A H locs ls Q R K hZ F hRm hr hlocks hN hJ hO hP hD hS hl hQ
  subst hRm
  have F : zF p m c cL_known 2 s (([.ref (q 0)] : List Value)).toArray RL g A := F
  have hl : lv_has ls 2 [(0, .ref (q 0))] := hl
  refine kn_s0 hN2 F hN hJ hO hZ hP hD hS hl (fun K H locs ls hZ hP hD hS hl => ?_)
  refine kn_s1 hN2 F hN hJ hO hZ hP hD hS hl (fun K H locs ls hZ hP hD hS hl => ?_)
  refine kn_s2 hN2 F hN hJ hO hZ hP hD hS hl (fun K H locs ls hZ hP hD hS hl => ?_)
  refine kn_s3 hN2 F hN hJ hO hZ hP hD hS hl (fun K H locs ls hZ hP hD hS hl => ?_)
  refine kn_s4 hN2 F hN hJ hO hZ hP hD hS hl (fun K H locs ls hZ hP hD hS hl => ?_)
  have hx := F.1.1
  have hb := F.1.2.1
  have hz := F.1.2.2.2.2
  refine lv_aload_n hx hb dL_known_828 rfl (lv_at hl 1 rfl) ?_
  obtain ⟨r236, h237, e238, hZ239⟩ := d_undo (N := N) (X := kS19) (hs := [kS18, kS17, kS16]) hN2 hZ
  refine cd0_undo (a := r236) h237 F zw_832 hP hD hS hl.1 (Nat.le_of_ble_eq_true rfl) ⟨Nat.le_of_ble_eq_true rfl, Nat.le_of_ble_eq_true rfl⟩ ⟨Nat.le_of_ble_eq_true rfl, Nat.le_of_ble_eq_true rfl⟩ dL_known_829 (fun H locs hP hD hS => ?_)
  rw [(e238.trans (by decide +kernel) : r236.1 = (3 : Int32))]
  refine lv_iconst (v := 3) hx hb dL_known_832 (by decide) ?_
  refine lv_icmp_ne (tgt := 859) hx hb dL_known_833 (by decide) (fun q9 => absurd q9 (by decide)) (fun _ => ?_)
  refine lv_aload_n hx hb dL_known_836 rfl (lv_at hl 1 rfl) ?_
  refine lv_iconst (v := 3) hx hb dL_known_837 (by decide) ?_
  refine lv_bipush (v := 9) hx hb dL_known_838 (by decide) ?_
  refine cd0_measure 3 9 (a := 3) ((d_measure (N := N) hN2 hZ239 (a := 3) (b := 9) (by unfold zInt; omega) (by unfold zInt; omega) (ea := by decide) (eb := by decide)).trans (q2_ (v := 3) (by decide +kernel) (by decide +kernel) (by decide +kernel) (by decide))) F zw_781 hP hD hS hl.1 (Nat.le_of_ble_eq_true rfl) ⟨Nat.le_of_ble_eq_true rfl, Nat.le_of_ble_eq_true rfl⟩ ⟨Nat.le_of_ble_eq_true rfl, Nat.le_of_ble_eq_true rfl⟩ dL_known_840 (fun H locs hP hD hS => ?_)
  refine lv_iconst (v := 3) hx hb dL_known_843 (by decide) ?_
  refine lv_icmp_ne (tgt := 859) hx hb dL_known_844 (by decide) (fun q9 => absurd q9 (by decide)) (fun _ => ?_)
  refine lv_aload_n hx hb dL_known_847 rfl (lv_at hl 1 rfl) ?_
  refine lv_iconst (v := 3) hx hb dL_known_848 (by decide) ?_
  obtain ⟨r243, h244, e245, hZ246⟩ := d_tells (N := N) hN2 hZ239 (m := 3) (by decide +kernel) (ym := 3) (em := by decide)
  refine cd0_tells 3 (a := r243) h244 F zw_820 hP hD hS hl.1 (Nat.le_of_ble_eq_true rfl) ⟨Nat.le_of_ble_eq_true rfl, Nat.le_of_ble_eq_true rfl⟩ ⟨Nat.le_of_ble_eq_true rfl, Nat.le_of_ble_eq_true rfl⟩ dL_known_849 (fun H locs hP hD hS => ?_)
  rw [(e245.trans (by decide +kernel) : r243.1 = (0 : Int32))]
  refine lv_if_ne (tgt := 859) hx hb dL_known_852 (by decide) (fun q9 => absurd q9 (by decide)) (fun _ => ?_)
  refine lv_iconst (v := 1) hx hb dL_known_855 (by decide) ?_
  refine lv_goto (tgt := 860) hx hb dL_known_856 (by decide) ?_
  exact zU_z ⟨_, _, _, _, hZ246⟩ F hr hlocks hQ ⟨Nat.le_refl _, Nat.le_refl _⟩ rfl hP hD hS dL_known_860
