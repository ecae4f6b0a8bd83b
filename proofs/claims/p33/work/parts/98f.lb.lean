/-! ===== the law's loop of twelve steps ===== -/
theorem vp_in_iI {k n : Nat} (h : k < n) (h2 : n ≤ 100000) : vp_in (iI (k : Int)) n := by
  rw [show iI (k : Int) = nI k from Int32.ofInt_eq_ofNat]
  exact vp_in_nI h (by omega)
/-- a call of a method that reads the script and changes nothing -/
theorem zRX {p : Program} {l : Launch} {e : Env} {R : Room} {s : State} {m : MethodId} {args : Array Value} {below : List Frame} {meth : Method} {c : Code} {H : Heap} {locs : List Loc} {cells slots : Nat} {Q : State → Prop} {cc bytes : ByteArray} {nL maxL index n pc : Nat} {own : String} {y : MethodName} {ret : Option FieldType} {rm : Room} {g : zEnv} {A : Nat → Prop} {W0 : va_W} {As rest st0 st1 : List Value} {ls : Array Slot} {v : Option Value} {b L : Nat} {xs : Nat → Int32}
    (F : zF p m c cc nL s args own g A) (hM : ∀ sz : Nat, b < sz → Met l y (Cond.code y bytes maxL ret :: ZW) rm (va_Pc As (fun U => zPre g [] sz U ∧ va_X b L xs U U.heap)) (fun _ st oc t => oc = .returned v ∧ t.heap = st.heap) 0 0 (fun _ => False)) (hX : va_X b L xs s s.heap) (hbl : b < s.heap.size) (hbA : ¬ A b) (hy : zYs y bytes maxL ret n) (hl : Cond.methodLink own index y ∈ ZW) (hP : va_P (zD g) vwCl W0 H) (hD : va_D A W0) (hS : va_S A s.heap H locs)
    (hAs : As.length = n) (hls : ls.size = nL) (hst0 : st0 = As.reverse ++ rest) (hroom : (rest.map fun v => v.category).sum ≤ 8) (hr : rm.cells = 0 ∧ rm.slots = 0) (hR : rm.frames + 1 ≤ R.frames ∧ 8 + (maxL + 11) + rm.locals ≤ R.locals) (hcs : cells ≤ R.cells ∧ slots ≤ R.slots) (hdg : decode cc pc = .ok (.invokestatic index, 3)) (h1 : v.toList ++ rest = st1)
    (kk : W p l e R s m args below meth c H locs cells slots Q (F0 m (pc + 3) ls st1)) : W p l e R s m args below meth c H locs cells slots Q (F0 m pc ls st0) :=
  zCut (a := #[]) (W.runS F.1 (hM H.size (Nat.lt_of_lt_of_le hbl hS.1)) ⟨zCallB F hy.2.2.1 hy.2.1 hy.2.2.2.1 hy.2.2.2.2 hl hr.1 hr.2 hR, F.1.2.2.2.2 _ hy.1⟩ ⟨zPreX_blind g H.size _ b L xs, fun U hU hW => ⟨rfl, zPre_at F hP hD hS [] rfl rfl U hU hW, by
    rw [hU]
    exact va_X.moved hW.alike (hX.kept (hS.2.1 b hbl hbA))⟩⟩ rfl hAs hls hst0 (lv_room hroom) hdg ⟨hcs.1, hcs.2⟩) h1 kk
section ZLA
variable {p : Program} {l : Launch} {e : Env} {s : State} {m : MethodId} {args : Array Value} {below : List Frame} {meth : Method} {c : Code} {H : Heap} {locs : List Loc} {cells slots : Nat} {Q : State → Prop}
variable {N : Nat} {g : zEnv} {j : zJ} {q : Nat → Nat} {A : Nat → Prop} {ls : Array Slot} {S : zSt} {hs : List zSt} {K : zKT} {b b9 k mm : Nat} {e9 : va_E} {x kd : Int32}
set_option maxHeartbeats 8000000 in
set_option maxRecDepth 100000 in
theorem lg_note (hN2 : 20000 ≤ N) (hfl : l.stackTraces = false) (F : zF p m c code 9 s args RL g A) (hN : zN s) (hJ : va_K (zD g) vwCl (zJT j) s) (hO : zO4 s) (hcs : cells + 300 ≤ room_1.cells ∧ slots + 2000 ≤ room_1.slots) (hZ : zC S hs 0 (fun _ => 0) K) (hB : lwB S k) (hk : k < 12) (hm : mm < S.1) (hP : va_P (zD g) vwCl (zcW g q K ++ [(b9, e9)]) H) (hD : va_D A (zcW g q K ++ [(b9, e9)])) (hS : va_S A s.heap H locs) (hl : lv_has ls 9 [(8, .int 0), (7, .int kd), (6, .int (iI (mm : Int))), (5, .int (iI (S.1 : Int))), (4, .int x), (0, .ref b), (1, .ref (q 0)), (2, .ref b9), (3, .int (iI (k : Int)))])
    (kk : ∀ (S1 : zSt) (K1 : zKT) (H1 : Heap) (locs1 : List Loc) (ls1 : Array Slot), zC S1 ((S :: hs).take 4) 0 (fun _ => 0) K1 → lwB S1 (k + 1) → va_P (zD g) vwCl (zcW g q K1 ++ [(b9, e9)]) H1 → va_D A (zcW g q K1 ++ [(b9, e9)]) → va_S A s.heap H1 locs1 → lv_has ls1 9 [(8, .int 1), (0, .ref b), (1, .ref (q 0)), (2, .ref b9), (3, .int (iI (k : Int)))] → W p l e room_1 s m args below meth c H1 locs1 (cells + 1) (slots + 6) Q (F0 m 402 ls1 [])) : W p l e room_1 s m args below meth c H locs cells slots Q (F0 m 350 ls []) := by
  have hx := F.1.1
  have hb := F.1.2.1
  have hz := F.1.2.2.2.2
  obtain ⟨z1, z2, z3, z4, z5⟩ := zC_ok hZ
  have z6 := z1.1.1
  have hB1 := hB.1
  have hB2 := hB.2
  have hcs1 := hcs.1
  have hcs2 := hcs.2
  have hV0 : -7 ≤ S.2.1 mm 0 ∧ S.2.1 mm 0 ≤ 7 := (z1.2 mm hm).1
  have hC0 := hB2 mm 0
  refine lv_aload_n hx hb dL_law_350 rfl (lv_at hl 6 rfl) ?_
  refine lv_iload hx hb dL_law_351 (lv_at hl 2 rfl) ?_
  refine lv_iload hx hb dL_law_353 (lv_at hl 4 rfl) ?_
  refine lv_bipush (v := 8) hx hb dL_law_355 (by decide) ?_
  refine lv_ishr hx hb dL_law_357 ?_
  refine lv_iconst (v := 2) hx hb dL_law_358 (by decide) ?_
  obtain ⟨p1, ha2, hb3, hM4⟩ := part_ok l g (x >>> (8 &&& 31)) (n := 2) (by omega) (by omega)
  refine zRS F hM4 zy_L_part zw_1011 hP hD hS [] rfl rfl rfl hl.1 (rest := [.int (iI (mm : Int)), .ref (q 0)]) rfl (Nat.le_of_ble_eq_true rfl) ⟨rfl, rfl⟩ ⟨Nat.le_of_ble_eq_true rfl, Nat.le_of_ble_eq_true rfl⟩ ⟨by omega, by omega⟩ dL_law_359 (st1 := .int (iI p1) :: [.int (iI (mm : Int)), .ref (q 0)]) rfl ?_
  obtain ⟨i5, rfl⟩ := Int.eq_ofNat_of_zero_le ha2
  refine lv_iload hx hb dL_law_362 (lv_at hl 4 rfl) ?_
  refine lv_iconst (v := 4) hx hb dL_law_364 (by decide) ?_
  refine lv_ishr hx hb dL_law_365 ?_
  refine lv_bipush (v := 63) hx hb dL_law_366 (by decide) ?_
  obtain ⟨p6, ha7, hb8, hM9⟩ := part_ok l g (x >>> (4 &&& 31)) (n := 63) (by omega) (by omega)
  refine zRS F hM9 zy_L_part zw_1011 hP hD hS [] rfl rfl rfl hl.1 (rest := [.int (iI (i5 : Int)), .int (iI (mm : Int)), .ref (q 0)]) rfl (Nat.le_of_ble_eq_true rfl) ⟨rfl, rfl⟩ ⟨Nat.le_of_ble_eq_true rfl, Nat.le_of_ble_eq_true rfl⟩ ⟨by omega, by omega⟩ dL_law_368 (st1 := .int (iI p6) :: [.int (iI (i5 : Int)), .int (iI (mm : Int)), .ref (q 0)]) rfl ?_
  refine lv_iload hx hb dL_law_371 (lv_at hl 4 rfl) ?_
  refine lv_bipush (v := 6) hx hb dL_law_373 (by decide) ?_
  refine lv_ishr hx hb dL_law_375 ?_
  refine lv_iconst (v := 4) hx hb dL_law_376 (by decide) ?_
  obtain ⟨p10, ha11, hb12, hM13⟩ := part_ok l g (x >>> (6 &&& 31)) (n := 4) (by omega) (by omega)
  refine zRS F hM13 zy_L_part zw_1011 hP hD hS [] rfl rfl rfl hl.1 (rest := [.int (iI p6), .int (iI (i5 : Int)), .int (iI (mm : Int)), .ref (q 0)]) rfl (Nat.le_of_ble_eq_true rfl) ⟨rfl, rfl⟩ ⟨Nat.le_of_ble_eq_true rfl, Nat.le_of_ble_eq_true rfl⟩ ⟨by omega, by omega⟩ dL_law_377 (st1 := .int (iI p10) :: [.int (iI p6), .int (iI (i5 : Int)), .int (iI (mm : Int)), .ref (q 0)]) rfl ?_
  refine lv_iload hx hb dL_law_380 (lv_at hl 4 rfl) ?_
  refine lv_iconst (v := 5) hx hb dL_law_382 (by decide) ?_
  refine lv_ishr hx hb dL_law_383 ?_
  refine lv_bipush (v := 10) hx hb dL_law_384 (by decide) ?_
  obtain ⟨p14, ha15, hb16, hM17⟩ := part_ok l g (x >>> (5 &&& 31)) (n := 10) (by omega) (by omega)
  refine zRS F hM17 zy_L_part zw_1011 hP hD hS [] rfl rfl rfl hl.1 (rest := [.int (iI p10), .int (iI p6), .int (iI (i5 : Int)), .int (iI (mm : Int)), .ref (q 0)]) rfl (Nat.le_of_ble_eq_true rfl) ⟨rfl, rfl⟩ ⟨Nat.le_of_ble_eq_true rfl, Nat.le_of_ble_eq_true rfl⟩ ⟨by omega, by omega⟩ dL_law_386 (st1 := .int (iI p14) :: [.int (iI p10), .int (iI p6), .int (iI (i5 : Int)), .int (iI (mm : Int)), .ref (q 0)]) rfl ?_
  have hC9 := hB2 mm i5
  obtain ⟨r18, h19, e20, hZ21⟩ := d_addNote (N := N) hN2 hZ (x := (mm : Int)) (y := (i5 : Int)) (p := p6) (s := p10) (d := p14) (y6 := 1) (by omega) (by unfold nP; omega) (by rw [gC_in0 hm (by omega)]; have := hB2 mm i5; omega) (ex := rfl) (ey := rfl) (ep := rfl) (es := rfl) (ed := rfl)
  have e20 : r18.1 = iI ((S.2.2.1 mm i5 + 1 : Nat) : Int) := e20
  have hZ21 : zC (setAd S mm i5 (p6, p10, p14, tdI 1)) ((S :: hs).take 4) 0 (fun _ => 0) (k1_addNote K r18) := hZ21
  refine zcw1 (kl_L_noting l N g j q K (iI (mm : Int)) (iI (i5 : Int)) (iI p6) (iI p10) (iI p14) r18 h19) F hN hJ zyl_L_noting zw_840 ⟨by decide, by decide⟩ (n := 6) (by decide +kernel) zw_845 hP hD hS rfl hl.1 (rest := []) rfl (Nat.le_of_ble_eq_true rfl) ⟨rfl, rfl⟩ ⟨Nat.le_of_ble_eq_true rfl, Nat.le_of_ble_eq_true rfl⟩ ⟨by omega, by omega⟩ dL_law_389 (fun H locs hP hD hS => ?_)
  rw [e20]
  refine lv_if_le (tgt := 399) hx hb dL_law_392 (by decide) (fun q9 => absurd q9 (iI_pos (by omega) (by omega))) (fun _ => ?_)
  refine lv_iconst (v := 1) hx hb dL_law_395 (by decide) ?_
  refine lv_goto (tgt := 400) hx hb dL_law_396 (by decide) ?_
  refine lv_istore (lv' := [(8, .int 1), (7, .int kd), (6, .int (iI (mm : Int))), (5, .int (iI (S.1 : Int))), (4, .int x), (0, .ref b), (1, .ref (q 0)), (2, .ref b9), (3, .int (iI (k : Int)))]) hx hb dL_law_400 hl (by decide) rfl (fun ls hl => ?_)
  exact kk _ _ _ _ _ hZ21 (lwB_ad hB) hP hD hS (lv_sub hl [0, 5, 6, 7, 8] rfl)
set_option maxHeartbeats 8000000 in
set_option maxRecDepth 100000 in
theorem lg_0 (hN2 : 20000 ≤ N) (hfl : l.stackTraces = false) (F : zF p m c code 9 s args RL g A) (hN : zN s) (hJ : va_K (zD g) vwCl (zJT j) s) (hO : zO4 s) (hcs : cells + 300 ≤ room_1.cells ∧ slots + 2000 ≤ room_1.slots) (hZ : zC S hs 0 (fun _ => 0) K) (hB : lwB S k) (hk : k < 12) (hm : mm < S.1)  (hP : va_P (zD g) vwCl (zcW g q K ++ [(b9, e9)]) H) (hD : va_D A (zcW g q K ++ [(b9, e9)])) (hS : va_S A s.heap H locs) (hl : lv_has ls 9 [(7, .int 0), (6, .int (iI (mm : Int))), (5, .int (iI (S.1 : Int))), (4, .int x), (0, .ref b), (1, .ref (q 0)), (2, .ref b9), (3, .int (iI (k : Int)))])
    (kk : ∀ (S1 : zSt) (K1 : zKT) (H1 : Heap) (locs1 : List Loc) (ls1 : Array Slot), zC S1 ((S :: hs).take 4) 0 (fun _ => 0) K1 → lwB S1 (k + 1) → va_P (zD g) vwCl (zcW g q K1 ++ [(b9, e9)]) H1 → va_D A (zcW g q K1 ++ [(b9, e9)]) → va_S A s.heap H1 locs1 → lv_has ls1 9 [(8, .int 1), (0, .ref b), (1, .ref (q 0)), (2, .ref b9), (3, .int (iI (k : Int)))] → W p l e room_1 s m args below meth c H1 locs1 (cells + 1) (slots + 6) Q (F0 m 402 ls1 [])) : W p l e room_1 s m args below meth c H locs cells slots Q (F0 m 145 ls []) := by
  have hx := F.1.1
  have hb := F.1.2.1
  have hz := F.1.2.2.2.2
  obtain ⟨z1, z2, z3, z4, z5⟩ := zC_ok hZ
  have z6 := z1.1.1
  have hB1 := hB.1
  have hB2 := hB.2
  have hcs1 := hcs.1
  have hcs2 := hcs.2
  have hV0 : -7 ≤ S.2.1 mm 0 ∧ S.2.1 mm 0 ≤ 7 := (z1.2 mm hm).1
  have hC0 := hB2 mm 0
  refine lv_iload hx hb dL_law_145 (lv_at hl 0 rfl) ?_
  refine lv_if_ne (tgt := 163) hx hb dL_law_147 (by decide) (fun q9 => absurd q9 (by decide)) (fun _ => ?_)
  refine lv_aload_n hx hb dL_law_150 rfl (lv_at hl 5 rfl) ?_
  obtain ⟨r1, h2, e3, hZ4⟩ := d_addMeasure (N := N) hN2 hZ (by omega)
  refine zcw1 (kl_L_adding l N g j q K  r1 h2) F hN hJ zyl_L_adding zw_840 ⟨by decide, by decide⟩ (n := 1) (by decide +kernel) zw_919 hP hD hS rfl hl.1 (rest := []) rfl (Nat.le_of_ble_eq_true rfl) ⟨rfl, rfl⟩ ⟨Nat.le_of_ble_eq_true rfl, Nat.le_of_ble_eq_true rfl⟩ ⟨by omega, by omega⟩ dL_law_151 (fun H locs hP hD hS => ?_)
  rw [e3]
  refine lv_iload hx hb dL_law_154 (lv_at hl 2 rfl) ?_
  refine lv_icmp_ne (tgt := 163) hx hb dL_law_156 (by decide) (fun q9 => absurd rfl q9) (fun _ => ?_)
  refine lv_iconst (v := 1) hx hb dL_law_159 (by decide) ?_
  refine lv_goto (tgt := 164) hx hb dL_law_160 (by decide) ?_
  refine lv_istore (lv' := [(8, .int 1), (7, .int 0), (6, .int (iI (mm : Int))), (5, .int (iI (S.1 : Int))), (4, .int x), (0, .ref b), (1, .ref (q 0)), (2, .ref b9), (3, .int (iI (k : Int)))]) hx hb dL_law_164 hl (by decide) rfl (fun ls hl => ?_)
  refine lv_iload hx hb dL_law_166 (lv_at hl 0 rfl) ?_
  refine lv_if_ne (tgt := 196) hx hb dL_law_168 (by decide) (fun _ => ?_) (fun q9 => absurd q9 (by decide))
  refine lv_iconst (v := 1) hx hb dL_law_196 (by decide) ?_
  refine lv_goto (tgt := 201) hx hb dL_law_197 (by decide) ?_
  refine lv_istore (lv' := [(8, .int 1), (7, .int 0), (6, .int (iI (mm : Int))), (5, .int (iI (S.1 : Int))), (4, .int x), (0, .ref b), (1, .ref (q 0)), (2, .ref b9), (3, .int (iI (k : Int)))]) hx hb dL_law_201 hl (by decide) rfl (fun ls hl => ?_)
  refine lv_iload hx hb dL_law_203 (lv_at hl 0 rfl) ?_
  refine lv_if_ne (tgt := 238) hx hb dL_law_205 (by decide) (fun _ => ?_) (fun q9 => absurd q9 (by decide))
  refine lv_iconst (v := 1) hx hb dL_law_238 (by decide) ?_
  refine lv_goto (tgt := 243) hx hb dL_law_239 (by decide) ?_
  refine lv_istore (lv' := [(8, .int 1), (7, .int 0), (6, .int (iI (mm : Int))), (5, .int (iI (S.1 : Int))), (4, .int x), (0, .ref b), (1, .ref (q 0)), (2, .ref b9), (3, .int (iI (k : Int)))]) hx hb dL_law_243 hl (by decide) rfl (fun ls hl => ?_)
  refine lv_iload hx hb dL_law_245 (lv_at hl 0 rfl) ?_
  refine lv_if_ne (tgt := 293) hx hb dL_law_247 (by decide) (fun _ => ?_) (fun q9 => absurd q9 (by decide))
  refine lv_iconst (v := 1) hx hb dL_law_293 (by decide) ?_
  refine lv_goto (tgt := 298) hx hb dL_law_294 (by decide) ?_
  refine lv_istore (lv' := [(8, .int 1), (7, .int 0), (6, .int (iI (mm : Int))), (5, .int (iI (S.1 : Int))), (4, .int x), (0, .ref b), (1, .ref (q 0)), (2, .ref b9), (3, .int (iI (k : Int)))]) hx hb dL_law_298 hl (by decide) rfl (fun ls hl => ?_)
  refine lv_iload hx hb dL_law_300 (lv_at hl 0 rfl) ?_
  refine lv_if_ne (tgt := 338) hx hb dL_law_302 (by decide) (fun _ => ?_) (fun q9 => absurd q9 (by decide))
  refine lv_iconst (v := 1) hx hb dL_law_338 (by decide) ?_
  refine lv_goto (tgt := 343) hx hb dL_law_339 (by decide) ?_
  refine lv_istore (lv' := [(8, .int 1), (7, .int 0), (6, .int (iI (mm : Int))), (5, .int (iI (S.1 : Int))), (4, .int x), (0, .ref b), (1, .ref (q 0)), (2, .ref b9), (3, .int (iI (k : Int)))]) hx hb dL_law_343 hl (by decide) rfl (fun ls hl => ?_)
  refine lv_iload hx hb dL_law_345 (lv_at hl 0 rfl) ?_
  refine lv_if_ne (tgt := 395) hx hb dL_law_347 (by decide) (fun _ => ?_) (fun q9 => absurd q9 (by decide))
  refine lv_iconst (v := 1) hx hb dL_law_395 (by decide) ?_
  refine lv_goto (tgt := 400) hx hb dL_law_396 (by decide) ?_
  refine lv_istore (lv' := [(8, .int 1), (7, .int 0), (6, .int (iI (mm : Int))), (5, .int (iI (S.1 : Int))), (4, .int x), (0, .ref b), (1, .ref (q 0)), (2, .ref b9), (3, .int (iI (k : Int)))]) hx hb dL_law_400 hl (by decide) rfl (fun ls hl => ?_)
  exact kk _ _ _ _ _ hZ4 (lwB_nw hB) hP hD hS (lv_sub hl [0, 5, 6, 7, 8] rfl)
set_option maxHeartbeats 8000000 in
set_option maxRecDepth 100000 in
theorem lg_1a (hN2 : 20000 ≤ N) (hfl : l.stackTraces = false) (F : zF p m c code 9 s args RL g A) (hN : zN s) (hJ : va_K (zD g) vwCl (zJT j) s) (hO : zO4 s) (hcs : cells + 300 ≤ room_1.cells ∧ slots + 2000 ≤ room_1.slots) (hZ : zC S hs 0 (fun _ => 0) K) (hB : lwB S k) (hk : k < 12) (hm : mm < S.1) (q1 : 1 < S.1) (hP : va_P (zD g) vwCl (zcW g q K ++ [(b9, e9)]) H) (hD : va_D A (zcW g q K ++ [(b9, e9)])) (hS : va_S A s.heap H locs) (hl : lv_has ls 9 [(7, .int 1), (6, .int (iI (mm : Int))), (5, .int (iI (S.1 : Int))), (4, .int x), (0, .ref b), (1, .ref (q 0)), (2, .ref b9), (3, .int (iI (k : Int)))])
    (kk : ∀ (S1 : zSt) (K1 : zKT) (H1 : Heap) (locs1 : List Loc) (ls1 : Array Slot), zC S1 ((S :: hs).take 4) 0 (fun _ => 0) K1 → lwB S1 (k + 1) → va_P (zD g) vwCl (zcW g q K1 ++ [(b9, e9)]) H1 → va_D A (zcW g q K1 ++ [(b9, e9)]) → va_S A s.heap H1 locs1 → lv_has ls1 9 [(8, .int 1), (0, .ref b), (1, .ref (q 0)), (2, .ref b9), (3, .int (iI (k : Int)))] → W p l e room_1 s m args below meth c H1 locs1 (cells + 1) (slots + 6) Q (F0 m 402 ls1 [])) : W p l e room_1 s m args below meth c H locs cells slots Q (F0 m 145 ls []) := by
  have hx := F.1.1
  have hb := F.1.2.1
  have hz := F.1.2.2.2.2
  obtain ⟨z1, z2, z3, z4, z5⟩ := zC_ok hZ
  have z6 := z1.1.1
  have hB1 := hB.1
  have hB2 := hB.2
  have hcs1 := hcs.1
  have hcs2 := hcs.2
  have hV0 : -7 ≤ S.2.1 mm 0 ∧ S.2.1 mm 0 ≤ 7 := (z1.2 mm hm).1
  have hC0 := hB2 mm 0
  refine lv_iload hx hb dL_law_145 (lv_at hl 0 rfl) ?_
  refine lv_if_ne (tgt := 163) hx hb dL_law_147 (by decide) (fun _ => ?_) (fun q9 => absurd q9 (by decide))
  refine lv_iconst (v := 0) hx hb dL_law_163 (by decide) ?_
  refine lv_istore (lv' := [(8, .int 0), (7, .int 1), (6, .int (iI (mm : Int))), (5, .int (iI (S.1 : Int))), (4, .int x), (0, .ref b), (1, .ref (q 0)), (2, .ref b9), (3, .int (iI (k : Int)))]) hx hb dL_law_164 hl (by decide) rfl (fun ls hl => ?_)
  refine lv_iload hx hb dL_law_166 (lv_at hl 0 rfl) ?_
  refine lv_if_ne (tgt := 196) hx hb dL_law_168 (by decide) (fun q9 => absurd q9 (by decide)) (fun _ => ?_)
  refine lv_iload hx hb dL_law_171 (lv_at hl 1 rfl) ?_
  refine lv_iconst (v := 1) hx hb dL_law_173 (by decide) ?_
  refine lv_icmp_ne (tgt := 200) hx hb dL_law_174 (by decide) (fun q9 => absurd q9 (by decide)) (fun _ => ?_)
  refine lv_iload hx hb dL_law_177 (lv_at hl 3 rfl) ?_
  refine lv_iconst (v := 1) hx hb dL_law_179 (by decide) ?_
  refine lv_icmp_le (tgt := 200) hx hb dL_law_180 (by decide) (fun q9 => absurd q9 (by rw [show (1 : Int32) = iI 1 from rfl, iI_le_ (by omega) (by omega) (by omega) (by omega)]; omega)) (fun _ => ?_)
  refine lv_aload_n hx hb dL_law_183 rfl (lv_at hl 6 rfl) ?_
  refine lv_iload hx hb dL_law_184 (lv_at hl 2 rfl) ?_
  obtain ⟨r1, h2, e3, hZ4⟩ := d_removeMeasure (N := N) hN2 hZ (m := mm) hm (em := rfl)
  refine cd1_removeMeasure (iI (mm : Int)) (a := r1) h2 F zw_766 hP hD hS hl.1 (Nat.le_of_ble_eq_true rfl) ⟨Nat.le_of_ble_eq_true rfl, Nat.le_of_ble_eq_true rfl⟩ ⟨by omega, by omega⟩ dL_law_186 (fun H locs hP hD hS => ?_)
  rw [e3]
  refine lv_iload hx hb dL_law_189 (lv_at hl 3 rfl) ?_
  refine lv_iconst (v := 1) hx hb dL_law_191 (by decide) ?_
  refine lv_isub hx hb dL_law_192 ?_
  rw [show ((iI (S.1 : Int)) - 1) = (iI ((S.1 - 1 : Nat) : Int)) from (by rw [show (1 : Int32) = iI 1 from rfl, iI_sub]; exact congrArg iI (by omega))]
  refine lv_icmp_ne (tgt := 200) hx hb dL_law_193 (by decide) (fun q9 => absurd rfl q9) (fun _ => ?_)
  refine lv_iconst (v := 1) hx hb dL_law_196 (by decide) ?_
  refine lv_goto (tgt := 201) hx hb dL_law_197 (by decide) ?_
  refine lv_istore (lv' := [(8, .int 1), (7, .int 1), (6, .int (iI (mm : Int))), (5, .int (iI (S.1 : Int))), (4, .int x), (0, .ref b), (1, .ref (q 0)), (2, .ref b9), (3, .int (iI (k : Int)))]) hx hb dL_law_201 hl (by decide) rfl (fun ls hl => ?_)
  refine lv_iload hx hb dL_law_203 (lv_at hl 0 rfl) ?_
  refine lv_if_ne (tgt := 238) hx hb dL_law_205 (by decide) (fun _ => ?_) (fun q9 => absurd q9 (by decide))
  refine lv_iconst (v := 1) hx hb dL_law_238 (by decide) ?_
  refine lv_goto (tgt := 243) hx hb dL_law_239 (by decide) ?_
  refine lv_istore (lv' := [(8, .int 1), (7, .int 1), (6, .int (iI (mm : Int))), (5, .int (iI (S.1 : Int))), (4, .int x), (0, .ref b), (1, .ref (q 0)), (2, .ref b9), (3, .int (iI (k : Int)))]) hx hb dL_law_243 hl (by decide) rfl (fun ls hl => ?_)
  refine lv_iload hx hb dL_law_245 (lv_at hl 0 rfl) ?_
  refine lv_if_ne (tgt := 293) hx hb dL_law_247 (by decide) (fun _ => ?_) (fun q9 => absurd q9 (by decide))
  refine lv_iconst (v := 1) hx hb dL_law_293 (by decide) ?_
  refine lv_goto (tgt := 298) hx hb dL_law_294 (by decide) ?_
  refine lv_istore (lv' := [(8, .int 1), (7, .int 1), (6, .int (iI (mm : Int))), (5, .int (iI (S.1 : Int))), (4, .int x), (0, .ref b), (1, .ref (q 0)), (2, .ref b9), (3, .int (iI (k : Int)))]) hx hb dL_law_298 hl (by decide) rfl (fun ls hl => ?_)
  refine lv_iload hx hb dL_law_300 (lv_at hl 0 rfl) ?_
  refine lv_if_ne (tgt := 338) hx hb dL_law_302 (by decide) (fun _ => ?_) (fun q9 => absurd q9 (by decide))
  refine lv_iconst (v := 1) hx hb dL_law_338 (by decide) ?_
  refine lv_goto (tgt := 343) hx hb dL_law_339 (by decide) ?_
  refine lv_istore (lv' := [(8, .int 1), (7, .int 1), (6, .int (iI (mm : Int))), (5, .int (iI (S.1 : Int))), (4, .int x), (0, .ref b), (1, .ref (q 0)), (2, .ref b9), (3, .int (iI (k : Int)))]) hx hb dL_law_343 hl (by decide) rfl (fun ls hl => ?_)
  refine lv_iload hx hb dL_law_345 (lv_at hl 0 rfl) ?_
  refine lv_if_ne (tgt := 395) hx hb dL_law_347 (by decide) (fun _ => ?_) (fun q9 => absurd q9 (by decide))
  refine lv_iconst (v := 1) hx hb dL_law_395 (by decide) ?_
  refine lv_goto (tgt := 400) hx hb dL_law_396 (by decide) ?_
  refine lv_istore (lv' := [(8, .int 1), (7, .int 1), (6, .int (iI (mm : Int))), (5, .int (iI (S.1 : Int))), (4, .int x), (0, .ref b), (1, .ref (q 0)), (2, .ref b9), (3, .int (iI (k : Int)))]) hx hb dL_law_400 hl (by decide) rfl (fun ls hl => ?_)
  refine W.widen (k := cells + 1) (n := slots + 6) (by omega) (by omega) ?_
  exact kk _ _ _ _ _ hZ4 (lwB_dr hB q1) hP hD hS (lv_sub hl [0, 5, 6, 7, 8] rfl)
set_option maxHeartbeats 8000000 in
set_option maxRecDepth 100000 in
theorem lg_1b (hN2 : 20000 ≤ N) (hfl : l.stackTraces = false) (F : zF p m c code 9 s args RL g A) (hN : zN s) (hJ : va_K (zD g) vwCl (zJT j) s) (hO : zO4 s) (hcs : cells + 300 ≤ room_1.cells ∧ slots + 2000 ≤ room_1.slots) (hZ : zC S hs 0 (fun _ => 0) K) (hB : lwB S k) (hk : k < 12) (hm : mm < S.1) (q1 : ¬ 1 < S.1) (hP : va_P (zD g) vwCl (zcW g q K ++ [(b9, e9)]) H) (hD : va_D A (zcW g q K ++ [(b9, e9)])) (hS : va_S A s.heap H locs) (hl : lv_has ls 9 [(7, .int 1), (6, .int (iI (mm : Int))), (5, .int (iI (S.1 : Int))), (4, .int x), (0, .ref b), (1, .ref (q 0)), (2, .ref b9), (3, .int (iI (k : Int)))])
    (kk : ∀ (S1 : zSt) (K1 : zKT) (H1 : Heap) (locs1 : List Loc) (ls1 : Array Slot), zC S1 ((S :: hs).take 4) 0 (fun _ => 0) K1 → lwB S1 (k + 1) → va_P (zD g) vwCl (zcW g q K1 ++ [(b9, e9)]) H1 → va_D A (zcW g q K1 ++ [(b9, e9)]) → va_S A s.heap H1 locs1 → lv_has ls1 9 [(8, .int 1), (0, .ref b), (1, .ref (q 0)), (2, .ref b9), (3, .int (iI (k : Int)))] → W p l e room_1 s m args below meth c H1 locs1 (cells + 1) (slots + 6) Q (F0 m 402 ls1 [])) : W p l e room_1 s m args below meth c H locs cells slots Q (F0 m 145 ls []) := by
  have hx := F.1.1
  have hb := F.1.2.1
  have hz := F.1.2.2.2.2
  obtain ⟨z1, z2, z3, z4, z5⟩ := zC_ok hZ
  have z6 := z1.1.1
  have hB1 := hB.1
  have hB2 := hB.2
  have hcs1 := hcs.1
  have hcs2 := hcs.2
  have hV0 : -7 ≤ S.2.1 mm 0 ∧ S.2.1 mm 0 ≤ 7 := (z1.2 mm hm).1
  have hC0 := hB2 mm 0
  refine lv_iload hx hb dL_law_145 (lv_at hl 0 rfl) ?_
  refine lv_if_ne (tgt := 163) hx hb dL_law_147 (by decide) (fun _ => ?_) (fun q9 => absurd q9 (by decide))
  refine lv_iconst (v := 0) hx hb dL_law_163 (by decide) ?_
  refine lv_istore (lv' := [(8, .int 0), (7, .int 1), (6, .int (iI (mm : Int))), (5, .int (iI (S.1 : Int))), (4, .int x), (0, .ref b), (1, .ref (q 0)), (2, .ref b9), (3, .int (iI (k : Int)))]) hx hb dL_law_164 hl (by decide) rfl (fun ls hl => ?_)
  refine lv_iload hx hb dL_law_166 (lv_at hl 0 rfl) ?_
  refine lv_if_ne (tgt := 196) hx hb dL_law_168 (by decide) (fun q9 => absurd q9 (by decide)) (fun _ => ?_)
  refine lv_iload hx hb dL_law_171 (lv_at hl 1 rfl) ?_
  refine lv_iconst (v := 1) hx hb dL_law_173 (by decide) ?_
  refine lv_icmp_ne (tgt := 200) hx hb dL_law_174 (by decide) (fun q9 => absurd q9 (by decide)) (fun _ => ?_)
  refine lv_iload hx hb dL_law_177 (lv_at hl 3 rfl) ?_
  refine lv_iconst (v := 1) hx hb dL_law_179 (by decide) ?_
  refine lv_icmp_le (tgt := 200) hx hb dL_law_180 (by decide) (fun _ => ?_) (fun q9 => absurd (by rw [show (1 : Int32) = iI 1 from rfl, iI_le_ (by omega) (by omega) (by omega) (by omega)]; omega) q9)
  refine lv_iconst (v := 0) hx hb dL_law_200 (by decide) ?_
  refine lv_istore (lv' := [(8, .int 0), (7, .int 1), (6, .int (iI (mm : Int))), (5, .int (iI (S.1 : Int))), (4, .int x), (0, .ref b), (1, .ref (q 0)), (2, .ref b9), (3, .int (iI (k : Int)))]) hx hb dL_law_201 hl (by decide) rfl (fun ls hl => ?_)
  refine lv_iload hx hb dL_law_203 (lv_at hl 0 rfl) ?_
  refine lv_if_ne (tgt := 238) hx hb dL_law_205 (by decide) (fun q9 => absurd q9 (by decide)) (fun _ => ?_)
  refine lv_iload hx hb dL_law_208 (lv_at hl 1 rfl) ?_
  refine lv_iconst (v := 2) hx hb dL_law_210 (by decide) ?_
  refine lv_icmp_ne (tgt := 242) hx hb dL_law_211 (by decide) (fun _ => ?_) (fun q9 => absurd q9 (by decide))
  refine lv_iconst (v := 0) hx hb dL_law_242 (by decide) ?_
  refine lv_istore (lv' := [(8, .int 0), (7, .int 1), (6, .int (iI (mm : Int))), (5, .int (iI (S.1 : Int))), (4, .int x), (0, .ref b), (1, .ref (q 0)), (2, .ref b9), (3, .int (iI (k : Int)))]) hx hb dL_law_243 hl (by decide) rfl (fun ls hl => ?_)
  refine lv_iload hx hb dL_law_245 (lv_at hl 0 rfl) ?_
  refine lv_if_ne (tgt := 293) hx hb dL_law_247 (by decide) (fun q9 => absurd q9 (by decide)) (fun _ => ?_)
  refine lv_iload hx hb dL_law_250 (lv_at hl 1 rfl) ?_
  refine lv_iconst (v := 3) hx hb dL_law_252 (by decide) ?_
  refine lv_icmp_ne (tgt := 297) hx hb dL_law_253 (by decide) (fun _ => ?_) (fun q9 => absurd q9 (by decide))
  refine lv_iconst (v := 0) hx hb dL_law_297 (by decide) ?_
  refine lv_istore (lv' := [(8, .int 0), (7, .int 1), (6, .int (iI (mm : Int))), (5, .int (iI (S.1 : Int))), (4, .int x), (0, .ref b), (1, .ref (q 0)), (2, .ref b9), (3, .int (iI (k : Int)))]) hx hb dL_law_298 hl (by decide) rfl (fun ls hl => ?_)
  refine lv_iload hx hb dL_law_300 (lv_at hl 0 rfl) ?_
  refine lv_if_ne (tgt := 338) hx hb dL_law_302 (by decide) (fun q9 => absurd q9 (by decide)) (fun _ => ?_)
  refine lv_iload hx hb dL_law_305 (lv_at hl 1 rfl) ?_
  refine lv_iconst (v := 4) hx hb dL_law_307 (by decide) ?_
  refine lv_icmp_ne (tgt := 342) hx hb dL_law_308 (by decide) (fun _ => ?_) (fun q9 => absurd q9 (by decide))
  refine lv_iconst (v := 0) hx hb dL_law_342 (by decide) ?_
  refine lv_istore (lv' := [(8, .int 0), (7, .int 1), (6, .int (iI (mm : Int))), (5, .int (iI (S.1 : Int))), (4, .int x), (0, .ref b), (1, .ref (q 0)), (2, .ref b9), (3, .int (iI (k : Int)))]) hx hb dL_law_343 hl (by decide) rfl (fun ls hl => ?_)
  refine lv_iload hx hb dL_law_345 (lv_at hl 0 rfl) ?_
  refine lv_if_ne (tgt := 395) hx hb dL_law_347 (by decide) (fun q9 => absurd q9 (by decide)) (fun _ => ?_)
  exact lg_note hN2 hfl F hN hJ hO hcs hZ hB hk hm hP hD hS (lv_sub hl [0, 1, 2, 3, 4, 5, 6, 7, 8] rfl) kk
set_option maxHeartbeats 8000000 in
set_option maxRecDepth 100000 in
theorem lg_2 (hN2 : 20000 ≤ N) (hfl : l.stackTraces = false) (F : zF p m c code 9 s args RL g A) (hN : zN s) (hJ : va_K (zD g) vwCl (zJT j) s) (hO : zO4 s) (hcs : cells + 300 ≤ room_1.cells ∧ slots + 2000 ≤ room_1.slots) (hZ : zC S hs 0 (fun _ => 0) K) (hB : lwB S k) (hk : k < 12) (hm : mm < S.1)  (hP : va_P (zD g) vwCl (zcW g q K ++ [(b9, e9)]) H) (hD : va_D A (zcW g q K ++ [(b9, e9)])) (hS : va_S A s.heap H locs) (hl : lv_has ls 9 [(7, .int 2), (6, .int (iI (mm : Int))), (5, .int (iI (S.1 : Int))), (4, .int x), (0, .ref b), (1, .ref (q 0)), (2, .ref b9), (3, .int (iI (k : Int)))])
    (kk : ∀ (S1 : zSt) (K1 : zKT) (H1 : Heap) (locs1 : List Loc) (ls1 : Array Slot), zC S1 ((S :: hs).take 4) 0 (fun _ => 0) K1 → lwB S1 (k + 1) → va_P (zD g) vwCl (zcW g q K1 ++ [(b9, e9)]) H1 → va_D A (zcW g q K1 ++ [(b9, e9)]) → va_S A s.heap H1 locs1 → lv_has ls1 9 [(8, .int 1), (0, .ref b), (1, .ref (q 0)), (2, .ref b9), (3, .int (iI (k : Int)))] → W p l e room_1 s m args below meth c H1 locs1 (cells + 1) (slots + 6) Q (F0 m 402 ls1 [])) : W p l e room_1 s m args below meth c H locs cells slots Q (F0 m 145 ls []) := by
  have hx := F.1.1
  have hb := F.1.2.1
  have hz := F.1.2.2.2.2
  obtain ⟨z1, z2, z3, z4, z5⟩ := zC_ok hZ
  have z6 := z1.1.1
  have hB1 := hB.1
  have hB2 := hB.2
  have hcs1 := hcs.1
  have hcs2 := hcs.2
  have hV0 : -7 ≤ S.2.1 mm 0 ∧ S.2.1 mm 0 ≤ 7 := (z1.2 mm hm).1
  have hC0 := hB2 mm 0
  refine lv_iload hx hb dL_law_145 (lv_at hl 0 rfl) ?_
  refine lv_if_ne (tgt := 163) hx hb dL_law_147 (by decide) (fun _ => ?_) (fun q9 => absurd q9 (by decide))
  refine lv_iconst (v := 0) hx hb dL_law_163 (by decide) ?_
  refine lv_istore (lv' := [(8, .int 0), (7, .int 2), (6, .int (iI (mm : Int))), (5, .int (iI (S.1 : Int))), (4, .int x), (0, .ref b), (1, .ref (q 0)), (2, .ref b9), (3, .int (iI (k : Int)))]) hx hb dL_law_164 hl (by decide) rfl (fun ls hl => ?_)
  refine lv_iload hx hb dL_law_166 (lv_at hl 0 rfl) ?_
  refine lv_if_ne (tgt := 196) hx hb dL_law_168 (by decide) (fun q9 => absurd q9 (by decide)) (fun _ => ?_)
  refine lv_iload hx hb dL_law_171 (lv_at hl 1 rfl) ?_
  refine lv_iconst (v := 1) hx hb dL_law_173 (by decide) ?_
  refine lv_icmp_ne (tgt := 200) hx hb dL_law_174 (by decide) (fun _ => ?_) (fun q9 => absurd q9 (by decide))
  refine lv_iconst (v := 0) hx hb dL_law_200 (by decide) ?_
  refine lv_istore (lv' := [(8, .int 0), (7, .int 2), (6, .int (iI (mm : Int))), (5, .int (iI (S.1 : Int))), (4, .int x), (0, .ref b), (1, .ref (q 0)), (2, .ref b9), (3, .int (iI (k : Int)))]) hx hb dL_law_201 hl (by decide) rfl (fun ls hl => ?_)
  refine lv_iload hx hb dL_law_203 (lv_at hl 0 rfl) ?_
  refine lv_if_ne (tgt := 238) hx hb dL_law_205 (by decide) (fun q9 => absurd q9 (by decide)) (fun _ => ?_)
  refine lv_iload hx hb dL_law_208 (lv_at hl 1 rfl) ?_
  refine lv_iconst (v := 2) hx hb dL_law_210 (by decide) ?_
  refine lv_icmp_ne (tgt := 242) hx hb dL_law_211 (by decide) (fun q9 => absurd q9 (by decide)) (fun _ => ?_)
  refine lv_aload_n hx hb dL_law_214 rfl (lv_at hl 6 rfl) ?_
  refine lv_iload hx hb dL_law_215 (lv_at hl 2 rfl) ?_
  refine lv_iconst (v := 0) hx hb dL_law_217 (by decide) ?_
  refine lv_iload hx hb dL_law_218 (lv_at hl 4 rfl) ?_
  refine lv_iconst (v := 5) hx hb dL_law_220 (by decide) ?_
  refine lv_ishr hx hb dL_law_221 ?_
  refine lv_bipush (v := 15) hx hb dL_law_222 (by decide) ?_
  obtain ⟨p1, ha2, hb3, hM4⟩ := part_ok l g (x >>> (5 &&& 31)) (n := 15) (by omega) (by omega)
  refine zRS F hM4 zy_L_part zw_1011 hP hD hS [] rfl rfl rfl hl.1 (rest := [.int 0, .int (iI (mm : Int)), .ref (q 0)]) rfl (Nat.le_of_ble_eq_true rfl) ⟨rfl, rfl⟩ ⟨Nat.le_of_ble_eq_true rfl, Nat.le_of_ble_eq_true rfl⟩ ⟨by omega, by omega⟩ dL_law_224 (st1 := .int (iI p1) :: [.int 0, .int (iI (mm : Int)), .ref (q 0)]) rfl ?_
  refine lv_bipush (v := 7) hx hb dL_law_227 (by decide) ?_
  refine lv_isub hx hb dL_law_229 ?_
  rw [show ((iI p1) - 7) = (iI (p1 - 7)) from (by rw [show (7 : Int32) = iI 7 from rfl, iI_sub])]
  obtain ⟨r5, h6, e7, hZ8⟩ := d_set (N := N) hN2 hZ (x := (mm : Int)) (y := 0) (z := (p1 - 7)) (by omega) (Or.inl ⟨rfl, by omega, by omega⟩) (by unfold zInt; omega) (by unfold zInt; omega) (ex := rfl) (yy := 0) (ey := by decide) (ez := rfl)
  have e7 : r5.1 = iI (S.2.1 mm 0) := e7
  have hZ8 : zC (setV S mm 0 (p1 - 7)) ((S :: hs).take 4) 0 (fun _ => 0) (k1_set K r5) := hZ8
  refine zcw1 (kl_L_setting l N g j q K (iI (mm : Int)) 0 (iI (p1 - 7)) r5 h6) F hN hJ zyl_L_setting zw_840 ⟨by decide, by decide⟩ (n := 4) (by decide +kernel) zw_842 hP hD hS rfl hl.1 (rest := []) rfl (Nat.le_of_ble_eq_true rfl) ⟨rfl, rfl⟩ ⟨Nat.le_of_ble_eq_true rfl, Nat.le_of_ble_eq_true rfl⟩ ⟨by omega, by omega⟩ dL_law_230 (fun H locs hP hD hS => ?_)
  rw [e7]
  refine lv_bipush (v := (-8)) hx hb dL_law_233 (by decide) ?_
  refine lv_icmp_le (tgt := 242) hx hb dL_law_235 (by decide) (fun q9 => absurd q9 (by rw [show (-8 : Int32) = iI (-8) from rfl, iI_le_ (by omega) (by omega) (by omega) (by omega)]; omega)) (fun _ => ?_)
  refine lv_iconst (v := 1) hx hb dL_law_238 (by decide) ?_
  refine lv_goto (tgt := 243) hx hb dL_law_239 (by decide) ?_
  refine lv_istore (lv' := [(8, .int 1), (7, .int 2), (6, .int (iI (mm : Int))), (5, .int (iI (S.1 : Int))), (4, .int x), (0, .ref b), (1, .ref (q 0)), (2, .ref b9), (3, .int (iI (k : Int)))]) hx hb dL_law_243 hl (by decide) rfl (fun ls hl => ?_)
  refine lv_iload hx hb dL_law_245 (lv_at hl 0 rfl) ?_
  refine lv_if_ne (tgt := 293) hx hb dL_law_247 (by decide) (fun _ => ?_) (fun q9 => absurd q9 (by decide))
  refine lv_iconst (v := 1) hx hb dL_law_293 (by decide) ?_
  refine lv_goto (tgt := 298) hx hb dL_law_294 (by decide) ?_
  refine lv_istore (lv' := [(8, .int 1), (7, .int 2), (6, .int (iI (mm : Int))), (5, .int (iI (S.1 : Int))), (4, .int x), (0, .ref b), (1, .ref (q 0)), (2, .ref b9), (3, .int (iI (k : Int)))]) hx hb dL_law_298 hl (by decide) rfl (fun ls hl => ?_)
  refine lv_iload hx hb dL_law_300 (lv_at hl 0 rfl) ?_
  refine lv_if_ne (tgt := 338) hx hb dL_law_302 (by decide) (fun _ => ?_) (fun q9 => absurd q9 (by decide))
  refine lv_iconst (v := 1) hx hb dL_law_338 (by decide) ?_
  refine lv_goto (tgt := 343) hx hb dL_law_339 (by decide) ?_
  refine lv_istore (lv' := [(8, .int 1), (7, .int 2), (6, .int (iI (mm : Int))), (5, .int (iI (S.1 : Int))), (4, .int x), (0, .ref b), (1, .ref (q 0)), (2, .ref b9), (3, .int (iI (k : Int)))]) hx hb dL_law_343 hl (by decide) rfl (fun ls hl => ?_)
  refine lv_iload hx hb dL_law_345 (lv_at hl 0 rfl) ?_
  refine lv_if_ne (tgt := 395) hx hb dL_law_347 (by decide) (fun _ => ?_) (fun q9 => absurd q9 (by decide))
  refine lv_iconst (v := 1) hx hb dL_law_395 (by decide) ?_
  refine lv_goto (tgt := 400) hx hb dL_law_396 (by decide) ?_
  refine lv_istore (lv' := [(8, .int 1), (7, .int 2), (6, .int (iI (mm : Int))), (5, .int (iI (S.1 : Int))), (4, .int x), (0, .ref b), (1, .ref (q 0)), (2, .ref b9), (3, .int (iI (k : Int)))]) hx hb dL_law_400 hl (by decide) rfl (fun ls hl => ?_)
  exact kk _ _ _ _ _ hZ8 (lwB_set hB) hP hD hS (lv_sub hl [0, 5, 6, 7, 8] rfl)
set_option maxHeartbeats 8000000 in
set_option maxRecDepth 100000 in
theorem lg_3a (hN2 : 20000 ≤ N) (hfl : l.stackTraces = false) (F : zF p m c code 9 s args RL g A) (hN : zN s) (hJ : va_K (zD g) vwCl (zJT j) s) (hO : zO4 s) (hcs : cells + 300 ≤ room_1.cells ∧ slots + 2000 ≤ room_1.slots) (hZ : zC S hs 0 (fun _ => 0) K) (hB : lwB S k) (hk : k < 12) (hm : mm < S.1) (q3 : 0 < S.2.2.1 mm 0) (hP : va_P (zD g) vwCl (zcW g q K ++ [(b9, e9)]) H) (hD : va_D A (zcW g q K ++ [(b9, e9)])) (hS : va_S A s.heap H locs) (hl : lv_has ls 9 [(7, .int 3), (6, .int (iI (mm : Int))), (5, .int (iI (S.1 : Int))), (4, .int x), (0, .ref b), (1, .ref (q 0)), (2, .ref b9), (3, .int (iI (k : Int)))])
    (kk : ∀ (S1 : zSt) (K1 : zKT) (H1 : Heap) (locs1 : List Loc) (ls1 : Array Slot), zC S1 ((S :: hs).take 4) 0 (fun _ => 0) K1 → lwB S1 (k + 1) → va_P (zD g) vwCl (zcW g q K1 ++ [(b9, e9)]) H1 → va_D A (zcW g q K1 ++ [(b9, e9)]) → va_S A s.heap H1 locs1 → lv_has ls1 9 [(8, .int 1), (0, .ref b), (1, .ref (q 0)), (2, .ref b9), (3, .int (iI (k : Int)))] → W p l e room_1 s m args below meth c H1 locs1 (cells + 1) (slots + 6) Q (F0 m 402 ls1 [])) : W p l e room_1 s m args below meth c H locs cells slots Q (F0 m 145 ls []) := by
  have hx := F.1.1
  have hb := F.1.2.1
  have hz := F.1.2.2.2.2
  obtain ⟨z1, z2, z3, z4, z5⟩ := zC_ok hZ
  have z6 := z1.1.1
  have hB1 := hB.1
  have hB2 := hB.2
  have hcs1 := hcs.1
  have hcs2 := hcs.2
  have hV0 : -7 ≤ S.2.1 mm 0 ∧ S.2.1 mm 0 ≤ 7 := (z1.2 mm hm).1
  have hC0 := hB2 mm 0
  refine lv_iload hx hb dL_law_145 (lv_at hl 0 rfl) ?_
  refine lv_if_ne (tgt := 163) hx hb dL_law_147 (by decide) (fun _ => ?_) (fun q9 => absurd q9 (by decide))
  refine lv_iconst (v := 0) hx hb dL_law_163 (by decide) ?_
  refine lv_istore (lv' := [(8, .int 0), (7, .int 3), (6, .int (iI (mm : Int))), (5, .int (iI (S.1 : Int))), (4, .int x), (0, .ref b), (1, .ref (q 0)), (2, .ref b9), (3, .int (iI (k : Int)))]) hx hb dL_law_164 hl (by decide) rfl (fun ls hl => ?_)
  refine lv_iload hx hb dL_law_166 (lv_at hl 0 rfl) ?_
  refine lv_if_ne (tgt := 196) hx hb dL_law_168 (by decide) (fun q9 => absurd q9 (by decide)) (fun _ => ?_)
  refine lv_iload hx hb dL_law_171 (lv_at hl 1 rfl) ?_
  refine lv_iconst (v := 1) hx hb dL_law_173 (by decide) ?_
  refine lv_icmp_ne (tgt := 200) hx hb dL_law_174 (by decide) (fun _ => ?_) (fun q9 => absurd q9 (by decide))
  refine lv_iconst (v := 0) hx hb dL_law_200 (by decide) ?_
  refine lv_istore (lv' := [(8, .int 0), (7, .int 3), (6, .int (iI (mm : Int))), (5, .int (iI (S.1 : Int))), (4, .int x), (0, .ref b), (1, .ref (q 0)), (2, .ref b9), (3, .int (iI (k : Int)))]) hx hb dL_law_201 hl (by decide) rfl (fun ls hl => ?_)
  refine lv_iload hx hb dL_law_203 (lv_at hl 0 rfl) ?_
  refine lv_if_ne (tgt := 238) hx hb dL_law_205 (by decide) (fun q9 => absurd q9 (by decide)) (fun _ => ?_)
  refine lv_iload hx hb dL_law_208 (lv_at hl 1 rfl) ?_
  refine lv_iconst (v := 2) hx hb dL_law_210 (by decide) ?_
  refine lv_icmp_ne (tgt := 242) hx hb dL_law_211 (by decide) (fun _ => ?_) (fun q9 => absurd q9 (by decide))
  refine lv_iconst (v := 0) hx hb dL_law_242 (by decide) ?_
  refine lv_istore (lv' := [(8, .int 0), (7, .int 3), (6, .int (iI (mm : Int))), (5, .int (iI (S.1 : Int))), (4, .int x), (0, .ref b), (1, .ref (q 0)), (2, .ref b9), (3, .int (iI (k : Int)))]) hx hb dL_law_243 hl (by decide) rfl (fun ls hl => ?_)
  refine lv_iload hx hb dL_law_245 (lv_at hl 0 rfl) ?_
  refine lv_if_ne (tgt := 293) hx hb dL_law_247 (by decide) (fun q9 => absurd q9 (by decide)) (fun _ => ?_)
  refine lv_iload hx hb dL_law_250 (lv_at hl 1 rfl) ?_
  refine lv_iconst (v := 3) hx hb dL_law_252 (by decide) ?_
  refine lv_icmp_ne (tgt := 297) hx hb dL_law_253 (by decide) (fun q9 => absurd q9 (by decide)) (fun _ => ?_)
  refine lv_aload_n hx hb dL_law_256 rfl (lv_at hl 6 rfl) ?_
  refine lv_iload hx hb dL_law_257 (lv_at hl 2 rfl) ?_
  refine lv_bipush (v := 8) hx hb dL_law_259 (by decide) ?_
  refine cd1_measure (iI (mm : Int)) 8 (a := iI (S.2.2.1 mm 0 : Int)) ((d_measure (N := N) hN2 hZ (a := (mm : Int)) (b := 8) (zIn_ mm (by omega)) (by unfold zInt; omega) (ea := rfl) (eb := by decide)).trans (by rw [if_pos (by omega), if_pos (by omega)]; rfl)) F zw_781 hP hD hS hl.1 (Nat.le_of_ble_eq_true rfl) ⟨Nat.le_of_ble_eq_true rfl, Nat.le_of_ble_eq_true rfl⟩ ⟨by omega, by omega⟩ dL_law_261 (fun H locs hP hD hS => ?_)
  refine lv_if_le (tgt := 297) hx hb dL_law_264 (by decide) (fun q9 => absurd q9 (iI_pos (by omega) (by omega))) (fun _ => ?_)
  refine lv_aload_n hx hb dL_law_267 rfl (lv_at hl 6 rfl) ?_
  refine lv_iload hx hb dL_law_268 (lv_at hl 2 rfl) ?_
  refine lv_iconst (v := 0) hx hb dL_law_270 (by decide) ?_
  refine lv_iload hx hb dL_law_271 (lv_at hl 4 rfl) ?_
  refine lv_bipush (v := 6) hx hb dL_law_273 (by decide) ?_
  refine lv_ishr hx hb dL_law_275 ?_
  refine lv_aload_n hx hb dL_law_276 rfl (lv_at hl 6 rfl) ?_
  refine lv_iload hx hb dL_law_277 (lv_at hl 2 rfl) ?_
  refine lv_bipush (v := 8) hx hb dL_law_279 (by decide) ?_
  refine cd1_measure (iI (mm : Int)) 8 (a := iI (S.2.2.1 mm 0 : Int)) ((d_measure (N := N) hN2 hZ (a := (mm : Int)) (b := 8) (zIn_ mm (by omega)) (by unfold zInt; omega) (ea := rfl) (eb := by decide)).trans (by rw [if_pos (by omega), if_pos (by omega)]; rfl)) F zw_781 hP hD hS hl.1 (Nat.le_of_ble_eq_true rfl) ⟨Nat.le_of_ble_eq_true rfl, Nat.le_of_ble_eq_true rfl⟩ ⟨by omega, by omega⟩ dL_law_281 (fun H locs hP hD hS => ?_)
  obtain ⟨p1, ha2, hb3, hM4⟩ := part_ok l g (x >>> (6 &&& 31)) (n := (S.2.2.1 mm 0 : Int)) (by omega) (by omega)
  refine zRS F hM4 zy_L_part zw_1011 hP hD hS [] rfl rfl rfl hl.1 (rest := [.int 0, .int (iI (mm : Int)), .ref (q 0)]) rfl (Nat.le_of_ble_eq_true rfl) ⟨rfl, rfl⟩ ⟨Nat.le_of_ble_eq_true rfl, Nat.le_of_ble_eq_true rfl⟩ ⟨by omega, by omega⟩ dL_law_284 (st1 := .int (iI p1) :: [.int 0, .int (iI (mm : Int)), .ref (q 0)]) rfl ?_
  obtain ⟨i5, rfl⟩ := Int.eq_ofNat_of_zero_le ha2
  obtain ⟨r6, h7, e8, hZ9⟩ := d_removeEvent (N := N) hN2 hZ (m := mm) (v := 0) (e := i5) hm (by omega) (by omega) (em := rfl) (yv := 0) (ev := by decide) (ee := rfl)
  refine zcw1 (kl_L_dropping l N g j q K (iI (mm : Int)) 0 (iI (i5 : Int)) r6 h7) F hN hJ zyl_L_dropping zw_840 ⟨by decide, by decide⟩ (n := 4) (by decide +kernel) zw_851 hP hD hS rfl hl.1 (rest := []) rfl (Nat.le_of_ble_eq_true rfl) ⟨rfl, rfl⟩ ⟨Nat.le_of_ble_eq_true rfl, Nat.le_of_ble_eq_true rfl⟩ ⟨by omega, by omega⟩ dL_law_287 (fun H locs hP hD hS => ?_)
  rw [e8]
  refine lv_if_lt (tgt := 297) hx hb dL_law_290 (by decide) (fun q9 => absurd q9 (by rw [iL0, iI_lt (by omega) (by omega) (by omega) (by omega)]; omega)) (fun _ => ?_)
  refine lv_iconst (v := 1) hx hb dL_law_293 (by decide) ?_
  refine lv_goto (tgt := 298) hx hb dL_law_294 (by decide) ?_
  refine lv_istore (lv' := [(8, .int 1), (7, .int 3), (6, .int (iI (mm : Int))), (5, .int (iI (S.1 : Int))), (4, .int x), (0, .ref b), (1, .ref (q 0)), (2, .ref b9), (3, .int (iI (k : Int)))]) hx hb dL_law_298 hl (by decide) rfl (fun ls hl => ?_)
  refine lv_iload hx hb dL_law_300 (lv_at hl 0 rfl) ?_
  refine lv_if_ne (tgt := 338) hx hb dL_law_302 (by decide) (fun _ => ?_) (fun q9 => absurd q9 (by decide))
  refine lv_iconst (v := 1) hx hb dL_law_338 (by decide) ?_
  refine lv_goto (tgt := 343) hx hb dL_law_339 (by decide) ?_
  refine lv_istore (lv' := [(8, .int 1), (7, .int 3), (6, .int (iI (mm : Int))), (5, .int (iI (S.1 : Int))), (4, .int x), (0, .ref b), (1, .ref (q 0)), (2, .ref b9), (3, .int (iI (k : Int)))]) hx hb dL_law_343 hl (by decide) rfl (fun ls hl => ?_)
  refine lv_iload hx hb dL_law_345 (lv_at hl 0 rfl) ?_
  refine lv_if_ne (tgt := 395) hx hb dL_law_347 (by decide) (fun _ => ?_) (fun q9 => absurd q9 (by decide))
  refine lv_iconst (v := 1) hx hb dL_law_395 (by decide) ?_
  refine lv_goto (tgt := 400) hx hb dL_law_396 (by decide) ?_
  refine lv_istore (lv' := [(8, .int 1), (7, .int 3), (6, .int (iI (mm : Int))), (5, .int (iI (S.1 : Int))), (4, .int x), (0, .ref b), (1, .ref (q 0)), (2, .ref b9), (3, .int (iI (k : Int)))]) hx hb dL_law_400 hl (by decide) rfl (fun ls hl => ?_)
  exact kk _ _ _ _ _ hZ9 (lwB_rm hB) hP hD hS (lv_sub hl [0, 5, 6, 7, 8] rfl)
set_option maxHeartbeats 8000000 in
set_option maxRecDepth 100000 in
theorem lg_3b (hN2 : 20000 ≤ N) (hfl : l.stackTraces = false) (F : zF p m c code 9 s args RL g A) (hN : zN s) (hJ : va_K (zD g) vwCl (zJT j) s) (hO : zO4 s) (hcs : cells + 300 ≤ room_1.cells ∧ slots + 2000 ≤ room_1.slots) (hZ : zC S hs 0 (fun _ => 0) K) (hB : lwB S k) (hk : k < 12) (hm : mm < S.1) (q3 : ¬ 0 < S.2.2.1 mm 0) (hP : va_P (zD g) vwCl (zcW g q K ++ [(b9, e9)]) H) (hD : va_D A (zcW g q K ++ [(b9, e9)])) (hS : va_S A s.heap H locs) (hl : lv_has ls 9 [(7, .int 3), (6, .int (iI (mm : Int))), (5, .int (iI (S.1 : Int))), (4, .int x), (0, .ref b), (1, .ref (q 0)), (2, .ref b9), (3, .int (iI (k : Int)))])
    (kk : ∀ (S1 : zSt) (K1 : zKT) (H1 : Heap) (locs1 : List Loc) (ls1 : Array Slot), zC S1 ((S :: hs).take 4) 0 (fun _ => 0) K1 → lwB S1 (k + 1) → va_P (zD g) vwCl (zcW g q K1 ++ [(b9, e9)]) H1 → va_D A (zcW g q K1 ++ [(b9, e9)]) → va_S A s.heap H1 locs1 → lv_has ls1 9 [(8, .int 1), (0, .ref b), (1, .ref (q 0)), (2, .ref b9), (3, .int (iI (k : Int)))] → W p l e room_1 s m args below meth c H1 locs1 (cells + 1) (slots + 6) Q (F0 m 402 ls1 [])) : W p l e room_1 s m args below meth c H locs cells slots Q (F0 m 145 ls []) := by
  have hx := F.1.1
  have hb := F.1.2.1
  have hz := F.1.2.2.2.2
  obtain ⟨z1, z2, z3, z4, z5⟩ := zC_ok hZ
  have z6 := z1.1.1
  have hB1 := hB.1
  have hB2 := hB.2
  have hcs1 := hcs.1
  have hcs2 := hcs.2
  have hV0 : -7 ≤ S.2.1 mm 0 ∧ S.2.1 mm 0 ≤ 7 := (z1.2 mm hm).1
  have hC0 := hB2 mm 0
  refine lv_iload hx hb dL_law_145 (lv_at hl 0 rfl) ?_
  refine lv_if_ne (tgt := 163) hx hb dL_law_147 (by decide) (fun _ => ?_) (fun q9 => absurd q9 (by decide))
  refine lv_iconst (v := 0) hx hb dL_law_163 (by decide) ?_
  refine lv_istore (lv' := [(8, .int 0), (7, .int 3), (6, .int (iI (mm : Int))), (5, .int (iI (S.1 : Int))), (4, .int x), (0, .ref b), (1, .ref (q 0)), (2, .ref b9), (3, .int (iI (k : Int)))]) hx hb dL_law_164 hl (by decide) rfl (fun ls hl => ?_)
  refine lv_iload hx hb dL_law_166 (lv_at hl 0 rfl) ?_
  refine lv_if_ne (tgt := 196) hx hb dL_law_168 (by decide) (fun q9 => absurd q9 (by decide)) (fun _ => ?_)
  refine lv_iload hx hb dL_law_171 (lv_at hl 1 rfl) ?_
  refine lv_iconst (v := 1) hx hb dL_law_173 (by decide) ?_
  refine lv_icmp_ne (tgt := 200) hx hb dL_law_174 (by decide) (fun _ => ?_) (fun q9 => absurd q9 (by decide))
  refine lv_iconst (v := 0) hx hb dL_law_200 (by decide) ?_
  refine lv_istore (lv' := [(8, .int 0), (7, .int 3), (6, .int (iI (mm : Int))), (5, .int (iI (S.1 : Int))), (4, .int x), (0, .ref b), (1, .ref (q 0)), (2, .ref b9), (3, .int (iI (k : Int)))]) hx hb dL_law_201 hl (by decide) rfl (fun ls hl => ?_)
  refine lv_iload hx hb dL_law_203 (lv_at hl 0 rfl) ?_
  refine lv_if_ne (tgt := 238) hx hb dL_law_205 (by decide) (fun q9 => absurd q9 (by decide)) (fun _ => ?_)
  refine lv_iload hx hb dL_law_208 (lv_at hl 1 rfl) ?_
  refine lv_iconst (v := 2) hx hb dL_law_210 (by decide) ?_
  refine lv_icmp_ne (tgt := 242) hx hb dL_law_211 (by decide) (fun _ => ?_) (fun q9 => absurd q9 (by decide))
  refine lv_iconst (v := 0) hx hb dL_law_242 (by decide) ?_
  refine lv_istore (lv' := [(8, .int 0), (7, .int 3), (6, .int (iI (mm : Int))), (5, .int (iI (S.1 : Int))), (4, .int x), (0, .ref b), (1, .ref (q 0)), (2, .ref b9), (3, .int (iI (k : Int)))]) hx hb dL_law_243 hl (by decide) rfl (fun ls hl => ?_)
  refine lv_iload hx hb dL_law_245 (lv_at hl 0 rfl) ?_
  refine lv_if_ne (tgt := 293) hx hb dL_law_247 (by decide) (fun q9 => absurd q9 (by decide)) (fun _ => ?_)
  refine lv_iload hx hb dL_law_250 (lv_at hl 1 rfl) ?_
  refine lv_iconst (v := 3) hx hb dL_law_252 (by decide) ?_
  refine lv_icmp_ne (tgt := 297) hx hb dL_law_253 (by decide) (fun q9 => absurd q9 (by decide)) (fun _ => ?_)
  refine lv_aload_n hx hb dL_law_256 rfl (lv_at hl 6 rfl) ?_
  refine lv_iload hx hb dL_law_257 (lv_at hl 2 rfl) ?_
  refine lv_bipush (v := 8) hx hb dL_law_259 (by decide) ?_
  refine cd1_measure (iI (mm : Int)) 8 (a := iI (S.2.2.1 mm 0 : Int)) ((d_measure (N := N) hN2 hZ (a := (mm : Int)) (b := 8) (zIn_ mm (by omega)) (by unfold zInt; omega) (ea := rfl) (eb := by decide)).trans (by rw [if_pos (by omega), if_pos (by omega)]; rfl)) F zw_781 hP hD hS hl.1 (Nat.le_of_ble_eq_true rfl) ⟨Nat.le_of_ble_eq_true rfl, Nat.le_of_ble_eq_true rfl⟩ ⟨by omega, by omega⟩ dL_law_261 (fun H locs hP hD hS => ?_)
  refine lv_if_le (tgt := 297) hx hb dL_law_264 (by decide) (fun _ => ?_) (fun q9 => absurd (iI_npos (by omega) (by omega)) q9)
  refine lv_iconst (v := 0) hx hb dL_law_297 (by decide) ?_
  refine lv_istore (lv' := [(8, .int 0), (7, .int 3), (6, .int (iI (mm : Int))), (5, .int (iI (S.1 : Int))), (4, .int x), (0, .ref b), (1, .ref (q 0)), (2, .ref b9), (3, .int (iI (k : Int)))]) hx hb dL_law_298 hl (by decide) rfl (fun ls hl => ?_)
  refine lv_iload hx hb dL_law_300 (lv_at hl 0 rfl) ?_
  refine lv_if_ne (tgt := 338) hx hb dL_law_302 (by decide) (fun q9 => absurd q9 (by decide)) (fun _ => ?_)
  refine lv_iload hx hb dL_law_305 (lv_at hl 1 rfl) ?_
  refine lv_iconst (v := 4) hx hb dL_law_307 (by decide) ?_
  refine lv_icmp_ne (tgt := 342) hx hb dL_law_308 (by decide) (fun _ => ?_) (fun q9 => absurd q9 (by decide))
  refine lv_iconst (v := 0) hx hb dL_law_342 (by decide) ?_
  refine lv_istore (lv' := [(8, .int 0), (7, .int 3), (6, .int (iI (mm : Int))), (5, .int (iI (S.1 : Int))), (4, .int x), (0, .ref b), (1, .ref (q 0)), (2, .ref b9), (3, .int (iI (k : Int)))]) hx hb dL_law_343 hl (by decide) rfl (fun ls hl => ?_)
  refine lv_iload hx hb dL_law_345 (lv_at hl 0 rfl) ?_
  refine lv_if_ne (tgt := 395) hx hb dL_law_347 (by decide) (fun q9 => absurd q9 (by decide)) (fun _ => ?_)
  exact lg_note hN2 hfl F hN hJ hO hcs hZ hB hk hm hP hD hS (lv_sub hl [0, 1, 2, 3, 4, 5, 6, 7, 8] rfl) kk
set_option maxHeartbeats 8000000 in
set_option maxRecDepth 100000 in
theorem lg_4 (hN2 : 20000 ≤ N) (hfl : l.stackTraces = false) (F : zF p m c code 9 s args RL g A) (hN : zN s) (hJ : va_K (zD g) vwCl (zJT j) s) (hO : zO4 s) (hcs : cells + 300 ≤ room_1.cells ∧ slots + 2000 ≤ room_1.slots) (hZ : zC S hs 0 (fun _ => 0) K) (hB : lwB S k) (hk : k < 12) (hm : mm < S.1)  (hP : va_P (zD g) vwCl (zcW g q K ++ [(b9, e9)]) H) (hD : va_D A (zcW g q K ++ [(b9, e9)])) (hS : va_S A s.heap H locs) (hl : lv_has ls 9 [(7, .int 4), (6, .int (iI (mm : Int))), (5, .int (iI (S.1 : Int))), (4, .int x), (0, .ref b), (1, .ref (q 0)), (2, .ref b9), (3, .int (iI (k : Int)))])
    (kk : ∀ (S1 : zSt) (K1 : zKT) (H1 : Heap) (locs1 : List Loc) (ls1 : Array Slot), zC S1 ((S :: hs).take 4) 0 (fun _ => 0) K1 → lwB S1 (k + 1) → va_P (zD g) vwCl (zcW g q K1 ++ [(b9, e9)]) H1 → va_D A (zcW g q K1 ++ [(b9, e9)]) → va_S A s.heap H1 locs1 → lv_has ls1 9 [(8, .int 1), (0, .ref b), (1, .ref (q 0)), (2, .ref b9), (3, .int (iI (k : Int)))] → W p l e room_1 s m args below meth c H1 locs1 (cells + 1) (slots + 6) Q (F0 m 402 ls1 [])) : W p l e room_1 s m args below meth c H locs cells slots Q (F0 m 145 ls []) := by
  have hx := F.1.1
  have hb := F.1.2.1
  have hz := F.1.2.2.2.2
  obtain ⟨z1, z2, z3, z4, z5⟩ := zC_ok hZ
  have z6 := z1.1.1
  have hB1 := hB.1
  have hB2 := hB.2
  have hcs1 := hcs.1
  have hcs2 := hcs.2
  have hV0 : -7 ≤ S.2.1 mm 0 ∧ S.2.1 mm 0 ≤ 7 := (z1.2 mm hm).1
  have hC0 := hB2 mm 0
  refine lv_iload hx hb dL_law_145 (lv_at hl 0 rfl) ?_
  refine lv_if_ne (tgt := 163) hx hb dL_law_147 (by decide) (fun _ => ?_) (fun q9 => absurd q9 (by decide))
  refine lv_iconst (v := 0) hx hb dL_law_163 (by decide) ?_
  refine lv_istore (lv' := [(8, .int 0), (7, .int 4), (6, .int (iI (mm : Int))), (5, .int (iI (S.1 : Int))), (4, .int x), (0, .ref b), (1, .ref (q 0)), (2, .ref b9), (3, .int (iI (k : Int)))]) hx hb dL_law_164 hl (by decide) rfl (fun ls hl => ?_)
  refine lv_iload hx hb dL_law_166 (lv_at hl 0 rfl) ?_
  refine lv_if_ne (tgt := 196) hx hb dL_law_168 (by decide) (fun q9 => absurd q9 (by decide)) (fun _ => ?_)
  refine lv_iload hx hb dL_law_171 (lv_at hl 1 rfl) ?_
  refine lv_iconst (v := 1) hx hb dL_law_173 (by decide) ?_
  refine lv_icmp_ne (tgt := 200) hx hb dL_law_174 (by decide) (fun _ => ?_) (fun q9 => absurd q9 (by decide))
  refine lv_iconst (v := 0) hx hb dL_law_200 (by decide) ?_
  refine lv_istore (lv' := [(8, .int 0), (7, .int 4), (6, .int (iI (mm : Int))), (5, .int (iI (S.1 : Int))), (4, .int x), (0, .ref b), (1, .ref (q 0)), (2, .ref b9), (3, .int (iI (k : Int)))]) hx hb dL_law_201 hl (by decide) rfl (fun ls hl => ?_)
  refine lv_iload hx hb dL_law_203 (lv_at hl 0 rfl) ?_
  refine lv_if_ne (tgt := 238) hx hb dL_law_205 (by decide) (fun q9 => absurd q9 (by decide)) (fun _ => ?_)
  refine lv_iload hx hb dL_law_208 (lv_at hl 1 rfl) ?_
  refine lv_iconst (v := 2) hx hb dL_law_210 (by decide) ?_
  refine lv_icmp_ne (tgt := 242) hx hb dL_law_211 (by decide) (fun _ => ?_) (fun q9 => absurd q9 (by decide))
  refine lv_iconst (v := 0) hx hb dL_law_242 (by decide) ?_
  refine lv_istore (lv' := [(8, .int 0), (7, .int 4), (6, .int (iI (mm : Int))), (5, .int (iI (S.1 : Int))), (4, .int x), (0, .ref b), (1, .ref (q 0)), (2, .ref b9), (3, .int (iI (k : Int)))]) hx hb dL_law_243 hl (by decide) rfl (fun ls hl => ?_)
  refine lv_iload hx hb dL_law_245 (lv_at hl 0 rfl) ?_
  refine lv_if_ne (tgt := 293) hx hb dL_law_247 (by decide) (fun q9 => absurd q9 (by decide)) (fun _ => ?_)
  refine lv_iload hx hb dL_law_250 (lv_at hl 1 rfl) ?_
  refine lv_iconst (v := 3) hx hb dL_law_252 (by decide) ?_
  refine lv_icmp_ne (tgt := 297) hx hb dL_law_253 (by decide) (fun _ => ?_) (fun q9 => absurd q9 (by decide))
  refine lv_iconst (v := 0) hx hb dL_law_297 (by decide) ?_
  refine lv_istore (lv' := [(8, .int 0), (7, .int 4), (6, .int (iI (mm : Int))), (5, .int (iI (S.1 : Int))), (4, .int x), (0, .ref b), (1, .ref (q 0)), (2, .ref b9), (3, .int (iI (k : Int)))]) hx hb dL_law_298 hl (by decide) rfl (fun ls hl => ?_)
  refine lv_iload hx hb dL_law_300 (lv_at hl 0 rfl) ?_
  refine lv_if_ne (tgt := 338) hx hb dL_law_302 (by decide) (fun q9 => absurd q9 (by decide)) (fun _ => ?_)
  refine lv_iload hx hb dL_law_305 (lv_at hl 1 rfl) ?_
  refine lv_iconst (v := 4) hx hb dL_law_307 (by decide) ?_
  refine lv_icmp_ne (tgt := 342) hx hb dL_law_308 (by decide) (fun q9 => absurd q9 (by decide)) (fun _ => ?_)
  refine lv_aload_n hx hb dL_law_311 rfl (lv_at hl 6 rfl) ?_
  refine lv_iload hx hb dL_law_312 (lv_at hl 2 rfl) ?_
  refine lv_iload hx hb dL_law_314 (lv_at hl 4 rfl) ?_
  refine lv_bipush (v := 7) hx hb dL_law_316 (by decide) ?_
  refine lv_ishr hx hb dL_law_318 ?_
  refine lv_iconst (v := 2) hx hb dL_law_319 (by decide) ?_
  obtain ⟨p1, ha2, hb3, hM4⟩ := part_ok l g (x >>> (7 &&& 31)) (n := 2) (by omega) (by omega)
  refine zRS F hM4 zy_L_part zw_1011 hP hD hS [] rfl rfl rfl hl.1 (rest := [.int (iI (mm : Int)), .ref (q 0)]) rfl (Nat.le_of_ble_eq_true rfl) ⟨rfl, rfl⟩ ⟨Nat.le_of_ble_eq_true rfl, Nat.le_of_ble_eq_true rfl⟩ ⟨by omega, by omega⟩ dL_law_320 (st1 := .int (iI p1) :: [.int (iI (mm : Int)), .ref (q 0)]) rfl ?_
  obtain ⟨i5, rfl⟩ := Int.eq_ofNat_of_zero_le ha2
  refine lv_iload hx hb dL_law_323 (lv_at hl 4 rfl) ?_
  refine lv_iconst (v := 5) hx hb dL_law_325 (by decide) ?_
  refine lv_ishr hx hb dL_law_326 ?_
  refine lv_bipush (v := 10) hx hb dL_law_327 (by decide) ?_
  obtain ⟨p6, ha7, hb8, hM9⟩ := part_ok l g (x >>> (5 &&& 31)) (n := 10) (by omega) (by omega)
  refine zRS F hM9 zy_L_part zw_1011 hP hD hS [] rfl rfl rfl hl.1 (rest := [.int (iI (i5 : Int)), .int (iI (mm : Int)), .ref (q 0)]) rfl (Nat.le_of_ble_eq_true rfl) ⟨rfl, rfl⟩ ⟨Nat.le_of_ble_eq_true rfl, Nat.le_of_ble_eq_true rfl⟩ ⟨by omega, by omega⟩ dL_law_329 (st1 := .int (iI p6) :: [.int (iI (i5 : Int)), .int (iI (mm : Int)), .ref (q 0)]) rfl ?_
  have hC9 := hB2 mm i5
  obtain ⟨r10, h11, e12, hZ13⟩ := d_addRest (N := N) hN2 hZ (x := (mm : Int)) (y := (i5 : Int)) (d := p6) (by omega) (by omega) (by rw [gC_in0 hm (by omega)]; have := hB2 mm i5; omega) (ex := rfl) (ey := rfl) (ed := rfl)
  have e12 : r10.1 = iI ((S.2.2.1 mm i5 + 1 : Nat) : Int) := e12
  have hZ13 : zC (setAd S mm i5 (-1, 0, p6, 0)) ((S :: hs).take 4) 0 (fun _ => 0) (k1_addRest K r10) := hZ13
  refine zcw1 (kl_L_resting l N g j q K (iI (mm : Int)) (iI (i5 : Int)) (iI p6) r10 h11) F hN hJ zyl_L_resting zw_840 ⟨by decide, by decide⟩ (n := 4) (by decide +kernel) zw_848 hP hD hS rfl hl.1 (rest := []) rfl (Nat.le_of_ble_eq_true rfl) ⟨rfl, rfl⟩ ⟨Nat.le_of_ble_eq_true rfl, Nat.le_of_ble_eq_true rfl⟩ ⟨by omega, by omega⟩ dL_law_332 (fun H locs hP hD hS => ?_)
  rw [e12]
  refine lv_if_le (tgt := 342) hx hb dL_law_335 (by decide) (fun q9 => absurd q9 (iI_pos (by omega) (by omega))) (fun _ => ?_)
  refine lv_iconst (v := 1) hx hb dL_law_338 (by decide) ?_
  refine lv_goto (tgt := 343) hx hb dL_law_339 (by decide) ?_
  refine lv_istore (lv' := [(8, .int 1), (7, .int 4), (6, .int (iI (mm : Int))), (5, .int (iI (S.1 : Int))), (4, .int x), (0, .ref b), (1, .ref (q 0)), (2, .ref b9), (3, .int (iI (k : Int)))]) hx hb dL_law_343 hl (by decide) rfl (fun ls hl => ?_)
  refine lv_iload hx hb dL_law_345 (lv_at hl 0 rfl) ?_
  refine lv_if_ne (tgt := 395) hx hb dL_law_347 (by decide) (fun _ => ?_) (fun q9 => absurd q9 (by decide))
  refine lv_iconst (v := 1) hx hb dL_law_395 (by decide) ?_
  refine lv_goto (tgt := 400) hx hb dL_law_396 (by decide) ?_
  refine lv_istore (lv' := [(8, .int 1), (7, .int 4), (6, .int (iI (mm : Int))), (5, .int (iI (S.1 : Int))), (4, .int x), (0, .ref b), (1, .ref (q 0)), (2, .ref b9), (3, .int (iI (k : Int)))]) hx hb dL_law_400 hl (by decide) rfl (fun ls hl => ?_)
  exact kk _ _ _ _ _ hZ13 (lwB_ad hB) hP hD hS (lv_sub hl [0, 5, 6, 7, 8] rfl)
set_option maxHeartbeats 8000000 in
set_option maxRecDepth 100000 in
theorem lg_5 (hN2 : 20000 ≤ N) (hfl : l.stackTraces = false) (F : zF p m c code 9 s args RL g A) (hN : zN s) (hJ : va_K (zD g) vwCl (zJT j) s) (hO : zO4 s) (hcs : cells + 300 ≤ room_1.cells ∧ slots + 2000 ≤ room_1.slots) (hZ : zC S hs 0 (fun _ => 0) K) (hB : lwB S k) (hk : k < 12) (hm : mm < S.1) (n0 : ¬ kd = 0) (n1 : ¬ kd = 1) (n2 : ¬ kd = 2) (n3 : ¬ kd = 3) (n4 : ¬ kd = 4) (hP : va_P (zD g) vwCl (zcW g q K ++ [(b9, e9)]) H) (hD : va_D A (zcW g q K ++ [(b9, e9)])) (hS : va_S A s.heap H locs) (hl : lv_has ls 9 [(7, .int kd), (6, .int (iI (mm : Int))), (5, .int (iI (S.1 : Int))), (4, .int x), (0, .ref b), (1, .ref (q 0)), (2, .ref b9), (3, .int (iI (k : Int)))])
    (kk : ∀ (S1 : zSt) (K1 : zKT) (H1 : Heap) (locs1 : List Loc) (ls1 : Array Slot), zC S1 ((S :: hs).take 4) 0 (fun _ => 0) K1 → lwB S1 (k + 1) → va_P (zD g) vwCl (zcW g q K1 ++ [(b9, e9)]) H1 → va_D A (zcW g q K1 ++ [(b9, e9)]) → va_S A s.heap H1 locs1 → lv_has ls1 9 [(8, .int 1), (0, .ref b), (1, .ref (q 0)), (2, .ref b9), (3, .int (iI (k : Int)))] → W p l e room_1 s m args below meth c H1 locs1 (cells + 1) (slots + 6) Q (F0 m 402 ls1 [])) : W p l e room_1 s m args below meth c H locs cells slots Q (F0 m 145 ls []) := by
  have hx := F.1.1
  have hb := F.1.2.1
  have hz := F.1.2.2.2.2
  obtain ⟨z1, z2, z3, z4, z5⟩ := zC_ok hZ
  have z6 := z1.1.1
  have hB1 := hB.1
  have hB2 := hB.2
  have hcs1 := hcs.1
  have hcs2 := hcs.2
  have hV0 : -7 ≤ S.2.1 mm 0 ∧ S.2.1 mm 0 ≤ 7 := (z1.2 mm hm).1
  have hC0 := hB2 mm 0
  refine lv_iload hx hb dL_law_145 (lv_at hl 0 rfl) ?_
  refine lv_if_ne (tgt := 163) hx hb dL_law_147 (by decide) (fun _ => ?_) (fun q9 => absurd q9 n0)
  refine lv_iconst (v := 0) hx hb dL_law_163 (by decide) ?_
  refine lv_istore (lv' := [(8, .int 0), (7, .int kd), (6, .int (iI (mm : Int))), (5, .int (iI (S.1 : Int))), (4, .int x), (0, .ref b), (1, .ref (q 0)), (2, .ref b9), (3, .int (iI (k : Int)))]) hx hb dL_law_164 hl (by decide) rfl (fun ls hl => ?_)
  refine lv_iload hx hb dL_law_166 (lv_at hl 0 rfl) ?_
  refine lv_if_ne (tgt := 196) hx hb dL_law_168 (by decide) (fun q9 => absurd q9 (by decide)) (fun _ => ?_)
  refine lv_iload hx hb dL_law_171 (lv_at hl 1 rfl) ?_
  refine lv_iconst (v := 1) hx hb dL_law_173 (by decide) ?_
  refine lv_icmp_ne (tgt := 200) hx hb dL_law_174 (by decide) (fun _ => ?_) (fun q9 => absurd q9 n1)
  refine lv_iconst (v := 0) hx hb dL_law_200 (by decide) ?_
  refine lv_istore (lv' := [(8, .int 0), (7, .int kd), (6, .int (iI (mm : Int))), (5, .int (iI (S.1 : Int))), (4, .int x), (0, .ref b), (1, .ref (q 0)), (2, .ref b9), (3, .int (iI (k : Int)))]) hx hb dL_law_201 hl (by decide) rfl (fun ls hl => ?_)
  refine lv_iload hx hb dL_law_203 (lv_at hl 0 rfl) ?_
  refine lv_if_ne (tgt := 238) hx hb dL_law_205 (by decide) (fun q9 => absurd q9 (by decide)) (fun _ => ?_)
  refine lv_iload hx hb dL_law_208 (lv_at hl 1 rfl) ?_
  refine lv_iconst (v := 2) hx hb dL_law_210 (by decide) ?_
  refine lv_icmp_ne (tgt := 242) hx hb dL_law_211 (by decide) (fun _ => ?_) (fun q9 => absurd q9 n2)
  refine lv_iconst (v := 0) hx hb dL_law_242 (by decide) ?_
  refine lv_istore (lv' := [(8, .int 0), (7, .int kd), (6, .int (iI (mm : Int))), (5, .int (iI (S.1 : Int))), (4, .int x), (0, .ref b), (1, .ref (q 0)), (2, .ref b9), (3, .int (iI (k : Int)))]) hx hb dL_law_243 hl (by decide) rfl (fun ls hl => ?_)
  refine lv_iload hx hb dL_law_245 (lv_at hl 0 rfl) ?_
  refine lv_if_ne (tgt := 293) hx hb dL_law_247 (by decide) (fun q9 => absurd q9 (by decide)) (fun _ => ?_)
  refine lv_iload hx hb dL_law_250 (lv_at hl 1 rfl) ?_
  refine lv_iconst (v := 3) hx hb dL_law_252 (by decide) ?_
  refine lv_icmp_ne (tgt := 297) hx hb dL_law_253 (by decide) (fun _ => ?_) (fun q9 => absurd q9 n3)
  refine lv_iconst (v := 0) hx hb dL_law_297 (by decide) ?_
  refine lv_istore (lv' := [(8, .int 0), (7, .int kd), (6, .int (iI (mm : Int))), (5, .int (iI (S.1 : Int))), (4, .int x), (0, .ref b), (1, .ref (q 0)), (2, .ref b9), (3, .int (iI (k : Int)))]) hx hb dL_law_298 hl (by decide) rfl (fun ls hl => ?_)
  refine lv_iload hx hb dL_law_300 (lv_at hl 0 rfl) ?_
  refine lv_if_ne (tgt := 338) hx hb dL_law_302 (by decide) (fun q9 => absurd q9 (by decide)) (fun _ => ?_)
  refine lv_iload hx hb dL_law_305 (lv_at hl 1 rfl) ?_
  refine lv_iconst (v := 4) hx hb dL_law_307 (by decide) ?_
  refine lv_icmp_ne (tgt := 342) hx hb dL_law_308 (by decide) (fun _ => ?_) (fun q9 => absurd q9 n4)
  refine lv_iconst (v := 0) hx hb dL_law_342 (by decide) ?_
  refine lv_istore (lv' := [(8, .int 0), (7, .int kd), (6, .int (iI (mm : Int))), (5, .int (iI (S.1 : Int))), (4, .int x), (0, .ref b), (1, .ref (q 0)), (2, .ref b9), (3, .int (iI (k : Int)))]) hx hb dL_law_343 hl (by decide) rfl (fun ls hl => ?_)
  refine lv_iload hx hb dL_law_345 (lv_at hl 0 rfl) ?_
  refine lv_if_ne (tgt := 395) hx hb dL_law_347 (by decide) (fun q9 => absurd q9 (by decide)) (fun _ => ?_)
  exact lg_note hN2 hfl F hN hJ hO hcs hZ hB hk hm hP hD hS (lv_sub hl [0, 1, 2, 3, 4, 5, 6, 7, 8] rfl) kk
set_option maxHeartbeats 8000000 in
set_option maxRecDepth 100000 in
theorem lg_chain (hN2 : 20000 ≤ N) (hfl : l.stackTraces = false) (F : zF p m c code 9 s args RL g A) (hN : zN s) (hJ : va_K (zD g) vwCl (zJT j) s) (hO : zO4 s) (hcs : cells + 300 ≤ room_1.cells ∧ slots + 2000 ≤ room_1.slots) (hZ : zC S hs 0 (fun _ => 0) K) (hB : lwB S k) (hk : k < 12) (hm : mm < S.1) (hP : va_P (zD g) vwCl (zcW g q K ++ [(b9, e9)]) H) (hD : va_D A (zcW g q K ++ [(b9, e9)])) (hS : va_S A s.heap H locs) (hl : lv_has ls 9 [(7, .int kd), (6, .int (iI (mm : Int))), (5, .int (iI (S.1 : Int))), (4, .int x), (0, .ref b), (1, .ref (q 0)), (2, .ref b9), (3, .int (iI (k : Int)))])
    (kk : ∀ (S1 : zSt) (K1 : zKT) (H1 : Heap) (locs1 : List Loc) (ls1 : Array Slot), zC S1 ((S :: hs).take 4) 0 (fun _ => 0) K1 → lwB S1 (k + 1) → va_P (zD g) vwCl (zcW g q K1 ++ [(b9, e9)]) H1 → va_D A (zcW g q K1 ++ [(b9, e9)]) → va_S A s.heap H1 locs1 → lv_has ls1 9 [(8, .int 1), (0, .ref b), (1, .ref (q 0)), (2, .ref b9), (3, .int (iI (k : Int)))] → W p l e room_1 s m args below meth c H1 locs1 (cells + 1) (slots + 6) Q (F0 m 402 ls1 [])) : W p l e room_1 s m args below meth c H locs cells slots Q (F0 m 145 ls []) := by
  by_cases n0 : kd = 0
  · subst n0
    exact lg_0 hN2 hfl F hN hJ hO hcs hZ hB hk hm hP hD hS hl kk
  by_cases n1 : kd = 1
  · subst n1
    by_cases q1 : 1 < S.1
    · exact lg_1a hN2 hfl F hN hJ hO hcs hZ hB hk hm q1 hP hD hS hl kk
    · exact lg_1b hN2 hfl F hN hJ hO hcs hZ hB hk hm q1 hP hD hS hl kk
  by_cases n2 : kd = 2
  · subst n2
    exact lg_2 hN2 hfl F hN hJ hO hcs hZ hB hk hm hP hD hS hl kk
  by_cases n3 : kd = 3
  · subst n3
    by_cases q3 : 0 < S.2.2.1 mm 0
    · exact lg_3a hN2 hfl F hN hJ hO hcs hZ hB hk hm q3 hP hD hS hl kk
    · exact lg_3b hN2 hfl F hN hJ hO hcs hZ hB hk hm q3 hP hD hS hl kk
  by_cases n4 : kd = 4
  · subst n4
    exact lg_4 hN2 hfl F hN hJ hO hcs hZ hB hk hm hP hD hS hl kk
  exact lg_5 hN2 hfl F hN hJ hO hcs hZ hB hk hm n0 n1 n2 n3 n4 hP hD hS hl kk
end ZLA
