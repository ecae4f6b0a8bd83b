/-! ===== the law's loop ===== -/
/-- what is to be shown of the two pure programs: every call answers alike and keeps Z -/
def zKeeps (N : Nat) (Z : zKT → zMT → Prop) : Prop := ∀ (K : zKT) (M : zMT), Z K M → (zS_addMeasure N Z K M) ∧ (∀ (y1 : Int32), zS_removeMeasure N Z K M y1) ∧ (∀ (y1 : Int32) (y2 : Int32) (y3 : Int32), zS_set N Z K M y1 y2 y3) ∧ (∀ (y1 : Int32) (y2 : Int32) (y3 : Int32) (y4 : Int32) (y5 : Int32) (y6 : Int32), zS_addNote N Z K M y1 y2 y3 y4 y5 y6) ∧ (∀ (y1 : Int32) (y2 : Int32) (y3 : Int32), zS_addRest N Z K M y1 y2 y3) ∧ (∀ (y1 : Int32) (y2 : Int32) (y3 : Int32), zS_removeEvent N Z K M y1 y2 y3) ∧ (∀ (y1 : Int32) (y2 : Int32), zS_measure N Z K M y1 y2) ∧ (∀ (y1 : Int32) (y2 : Int32) (y3 : Int32) (y4 : Int32), zS_event N Z K M y1 y2 y3 y4) ∧ (∀ (y1 : Int32) (y2 : Int32) (y3 : Int32), zS_eventAt N Z K M y1 y2 y3) ∧ (∀ (y1 : Int32), zS_crossings N Z K M y1) ∧ (∀ (y1 : Int32), zS_whole N Z K M y1) ∧ (∀ (y1 : Int32), zS_order N Z K M y1) ∧ (∀ (y1 : Int32), zS_timesPlayed N Z K M y1) ∧ (∀ (y1 : Int32), zS_seconds N Z K M y1) ∧ (∀ (y1 : Int32), zS_placeAt N Z K M y1) ∧ (∀ (y1 : Int32), zS_sentenceLength N Z K M y1) ∧ (∀ (y1 : Int32) (y2 : Int32), zS_sentenceByte N Z K M y1 y2) ∧ (∀ (y1 : Int32), zS_words N Z K M y1) ∧ (∀ (y1 : Int32), zS_copySentence N Z K M y1) ∧ (∀ (y1 : Int32), zS_type N Z K M y1) ∧ (∀ (y1 : Int32), zS_cut N Z K M y1) ∧ (zS_clearText N Z K M) ∧ (zS_fault N Z K M) ∧ (∀ (y1 : Int32), zS_readInto N Z K M y1) ∧ (∀ (y1 : Int32), zS_tells N Z K M y1) ∧ (∀ (y1 : Int32) (y2 : Int32), zS_changedBy N Z K M y1 y2) ∧ (∀ (y1 : Int32), zS_nearestKey N Z K M y1) ∧ (∀ (y1 : Int32), zS_needlessSigns N Z K M y1) ∧ (zS_undo N Z K M) ∧ (zS_digest N Z K M)
theorem zNI (i k : Nat) : nI i + nI k = nI (i + k) := (Int32.ofNat_add i k).symm
theorem zGo {L i : Nat} (hL : L ≤ 3584) (hi : i ≤ 4000) : (Int32.ofNat L - 7 < nI i) ↔ L < i + 7 := by
  have e1 : Int32.ofNat L - 7 = Int32.ofInt ((L : Int) - 7) := by
    rw [Int32.ofInt_sub, Int32.ofInt_eq_ofNat]; rfl
  have e2 : nI i = Int32.ofInt (i : Int) := Int32.ofInt_eq_ofNat.symm
  rw [e1, e2, Int32.lt_iff_toInt_lt, Int32.toInt_ofInt_of_le (by omega) (by omega), Int32.toInt_ofInt_of_le (by omega) (by omega)]
  omega
section ZLP
variable {p : Program} {l : Launch} {e : Env} {s : State} {m : MethodId} {below : List Frame} {meth : Method} {c : Code}
variable {g : zEnv} {j : zJ} {b L N : Nat} {xs : Nat → Int32} {q : Nat → Nat} {Z : zKT → zMT → Prop}
set_option maxHeartbeats 8000000 in
set_option maxRecDepth 100000 in
theorem law_loop (hL : L ≤ 3584) (F : zF p m c code 8 s #[Value.ref b] RL g (fun q : Nat => s.heap.size ≤ q)) (hN : zN s) (hJ : va_K (zD g) vwCl (zJT j) s) (hfl : l.stackTraces = false) (hX : va_X b L xs s s.heap) (hbl : b < s.heap.size) (hr : meth.sig.returnType = ret) (hlocks : meth.locks = false) (hZ : zKeeps N Z) :
    ∀ (n i : Nat), i ≤ L → L + 1 ≤ i + n → ∀ (K : zKT) (M : zMT) (fo : Nat → Int64) (fd : Nat → UInt64), Z K M → ∀ (H : Heap) (locs : List Loc) (ls : Array Slot), va_P (zD g) vwCl (zLW g j q K M fo fd) H → va_D (fun q : Nat => s.heap.size ≤ q) (zLW g j q K M fo fd) → va_S (fun q : Nat => s.heap.size ≤ q) s.heap H locs → lv_has ls 8 [(0, .ref b), (1, .ref (q 0)), (2, .ref (q 25)), (3, .ref (q 33)), (4, .ref (q 34)), (5, .int (nI i))] → W p l e room_1 s m #[Value.ref b] below meth c H locs (100 + i) (100000 + 6 * i) (lw_Z below #[Value.ref b] s) (F0 m 28 ls []) := by
  have hx := F.1.1
  have hb := F.1.2.1
  have hbA : ¬ (fun q : Nat => s.heap.size ≤ q) b := Nat.not_le.mpr hbl
  intro n
  induction n with
  | zero => intro i h1 h2; exact absurd h2 (by omega)
  | succ n ih =>
    intro i hi hin K M fo fd hz H locs ls hP hD hS hl
    refine lv_iload hx hb dL_law_28 (lv_at hl 5 rfl) ?_
    refine lv_aload_n hx hb dL_law_30 rfl (lv_at hl 0 rfl) ?_
    refine va_slen hx hb hX hbl hbA hS dL_law_31 ?_
    refine lv_bipush (v := 7) hx hb dL_law_32 (by decide) ?_
    refine lv_isub hx hb dL_law_34 ?_
    refine lv_icmp_gt (tgt := 1989) hx hb dL_law_35 (by decide) (fun _ => ?_) (fun hc => ?_)
    · refine lv_iconst (v := 1) hx hb dL_law_1989 (by decide) ?_
      refine va_forget (fun q hq => hS.2.2 q hq) ?_
      refine W.widen (k := 601024) (n := 7293034) (by omega) (by omega) ?_
      exact lw_ret (d0 := s.drawn) (Drawn.sameBut.refl s.drawn lw_cs) hx hb hr hlocks dL_law_1990
    · have hlt : i + 7 ≤ L := Nat.not_lt.mp (fun h => hc ((zGo hL (by omega)).mpr h))
      have hi0 : vp_in (nI i) L := vp_in_nI (by omega) (by omega)
      have hi1 : vp_in (nI i + 1) L := by rw [show nI i + 1 = nI (i + 1) from zNI i 1]; exact vp_in_nI (by omega) (by omega)
      have hi2 : vp_in (nI i + 2) L := by rw [show nI i + 2 = nI (i + 2) from zNI i 2]; exact vp_in_nI (by omega) (by omega)
      have hi3 : vp_in (nI i + 3) L := by rw [show nI i + 3 = nI (i + 3) from zNI i 3]; exact vp_in_nI (by omega) (by omega)
      have hi4 : vp_in (nI i + 4) L := by rw [show nI i + 4 = nI (i + 4) from zNI i 4]; exact vp_in_nI (by omega) (by omega)
      have hi5 : vp_in (nI i + 5) L := by rw [show nI i + 5 = nI (i + 5) from zNI i 5]; exact vp_in_nI (by omega) (by omega)
      have hi6 : vp_in (nI i + 6) L := by rw [show nI i + 6 = nI (i + 6) from zNI i 6]; exact vp_in_nI (by omega) (by omega)
      have hcs : 100 + i + 1 ≤ room_1.cells ∧ 100000 + 6 * i + 6 ≤ room_1.slots := ⟨Nat.le_trans (show 100 + i + 1 ≤ 4000 by omega) (Nat.le_of_ble_eq_true rfl), Nat.le_trans (show 100000 + 6 * i + 6 ≤ 200000 by omega) (Nat.le_of_ble_eq_true rfl)⟩
      have kend : ∀ (K1 : zKT) (M1 : zMT) (fo1 : Nat → Int64) (fd1 : Nat → UInt64) (H1 : Heap) (locs1 : List Loc) (ls1 : Array Slot), Z K1 M1 → va_P (zD g) vwCl (zLW g j q K1 M1 fo1 fd1) H1 → va_D (fun q : Nat => s.heap.size ≤ q) (zLW g j q K1 M1 fo1 fd1) → va_S (fun q : Nat => s.heap.size ≤ q) s.heap H1 locs1 → lv_has ls1 8 [(0, .ref b), (1, .ref (q 0)), (2, .ref (q 25)), (3, .ref (q 33)), (4, .ref (q 34)), (5, .int (nI i))] → W p l e room_1 s m #[Value.ref b] below meth c H1 locs1 (100 + i + 1) (100000 + 6 * i + 6) (lw_Z below #[Value.ref b] s) (F0 m 1983 ls1 []) := by
        intro K1 M1 fo1 fd1 H1 locs1 ls1 hz1 hP1 hD1 hS1 hl1
        refine lv_iinc (v := nI (i + 7)) (lv' := [(5, .int (nI (i + 7))), (0, .ref b), (1, .ref (q 0)), (2, .ref (q 25)), (3, .ref (q 33)), (4, .ref (q 34))]) hx hb dL_law_1983 hl1 (k := 5) rfl (by rw [← zNI i 7]; rfl) (by decide) rfl (fun ls hl => ?_)
        refine lv_goto (tgt := 28) hx hb dL_law_1986 (by decide) ?_
        refine W.widen (k := 100 + (i + 7)) (n := 100000 + 6 * (i + 7)) (by omega) (by omega) ?_
        exact ih (i + 7) hlt (by omega) K1 M1 fo1 fd1 hz1 H1 locs1 ls hP1 hD1 hS1 (lv_sub hl [1, 2, 3, 4, 5, 0] rfl)
      have hZa := hZ K M hz
      refine lv_aload_n hx hb dL_law_38 rfl (lv_at hl 0 rfl) ?_
      refine lv_iload hx hb dL_law_39 (lv_at hl 5 rfl) ?_
      refine va_sld hx hb hX hbl hbA hS hi0 dL_law_41 ?_
      refine lv_bipush (v := 31) hx hb dL_law_42 (by decide) ?_
      refine lv_iand hx hb dL_law_44 ?_
      generalize hw : (xs (nI i).toNatClampNeg &&& (31 : Int32)) = w
      by_cases c0 : w = 0
      · refine lv_tableIn (tgt := 180) hx hb dL_law_45 (by rw [c0]; decide) (by rw [c0]; decide) (by rw [c0]; rfl) (by decide) ?_
        exact lc_addMeasure F hN hJ hfl hX hbl hbA hcs hP hD hS hi1 hi2 hi3 hi4 hi5 hi6 hl (hZa.1) kend
      by_cases c1 : w = 1
      · refine lv_tableIn (tgt := 224) hx hb dL_law_45 (by rw [c1]; decide) (by rw [c1]; decide) (by rw [c1]; rfl) (by decide) ?_
        exact lc_removeMeasure F hN hJ hfl hX hbl hbA hcs hP hD hS hi1 hi2 hi3 hi4 hi5 hi6 hl (hZa.2.1 _) kend
      by_cases c2 : w = 2
      · refine lv_tableIn (tgt := 280) hx hb dL_law_45 (by rw [c2]; decide) (by rw [c2]; decide) (by rw [c2]; rfl) (by decide) ?_
        exact lc_set F hN hJ hfl hX hbl hbA hcs hP hD hS hi1 hi2 hi3 hi4 hi5 hi6 hl (hZa.2.2.1 _ _ _) kend
      by_cases c3 : w = 3
      · refine lv_tableIn (tgt := 360) hx hb dL_law_45 (by rw [c3]; decide) (by rw [c3]; decide) (by rw [c3]; rfl) (by decide) ?_
        exact lc_addNote F hN hJ hfl hX hbl hbA hcs hP hD hS hi1 hi2 hi3 hi4 hi5 hi6 hl (hZa.2.2.2.1 _ _ _ _ _ _) kend
      by_cases c4 : w = 4
      · refine lv_tableIn (tgt := 494) hx hb dL_law_45 (by rw [c4]; decide) (by rw [c4]; decide) (by rw [c4]; rfl) (by decide) ?_
        exact lc_addRest F hN hJ hfl hX hbl hbA hcs hP hD hS hi1 hi2 hi3 hi4 hi5 hi6 hl (hZa.2.2.2.2.1 _ _ _) kend
      by_cases c5 : w = 5
      · refine lv_tableIn (tgt := 574) hx hb dL_law_45 (by rw [c5]; decide) (by rw [c5]; decide) (by rw [c5]; rfl) (by decide) ?_
        exact lc_removeEvent F hN hJ hfl hX hbl hbA hcs hP hD hS hi1 hi2 hi3 hi4 hi5 hi6 hl (hZa.2.2.2.2.2.1 _ _ _) kend
      by_cases c6 : w = 6
      · refine lv_tableIn (tgt := 654) hx hb dL_law_45 (by rw [c6]; decide) (by rw [c6]; decide) (by rw [c6]; rfl) (by decide) ?_
        exact lc_measure F hN hJ hfl hX hbl hbA hcs hP hD hS hi1 hi2 hi3 hi4 hi5 hi6 hl (hZa.2.2.2.2.2.2.1 _ _) kend
      by_cases c7 : w = 7
      · refine lv_tableIn (tgt := 722) hx hb dL_law_45 (by rw [c7]; decide) (by rw [c7]; decide) (by rw [c7]; rfl) (by decide) ?_
        exact lc_event F hN hJ hfl hX hbl hbA hcs hP hD hS hi1 hi2 hi3 hi4 hi5 hi6 hl (hZa.2.2.2.2.2.2.2.1 _ _ _ _) kend
      by_cases c8 : w = 8
      · refine lv_tableIn (tgt := 814) hx hb dL_law_45 (by rw [c8]; decide) (by rw [c8]; decide) (by rw [c8]; rfl) (by decide) ?_
        exact lc_eventAt F hN hJ hfl hX hbl hbA hcs hP hD hS hi1 hi2 hi3 hi4 hi5 hi6 hl (hZa.2.2.2.2.2.2.2.2.1 _ _ _) kend
      by_cases c9 : w = 9
      · refine lv_tableIn (tgt := 894) hx hb dL_law_45 (by rw [c9]; decide) (by rw [c9]; decide) (by rw [c9]; rfl) (by decide) ?_
        exact lc_crossings F hN hJ hfl hX hbl hbA hcs hP hD hS hi1 hi2 hi3 hi4 hi5 hi6 hl (hZa.2.2.2.2.2.2.2.2.2.1 _) kend
      by_cases c10 : w = 10
      · refine lv_tableIn (tgt := 950) hx hb dL_law_45 (by rw [c10]; decide) (by rw [c10]; decide) (by rw [c10]; rfl) (by decide) ?_
        exact lc_whole F hN hJ hfl hX hbl hbA hcs hP hD hS hi1 hi2 hi3 hi4 hi5 hi6 hl (hZa.2.2.2.2.2.2.2.2.2.2.1 _) kend
      by_cases c11 : w = 11
      · refine lv_tableIn (tgt := 1006) hx hb dL_law_45 (by rw [c11]; decide) (by rw [c11]; decide) (by rw [c11]; rfl) (by decide) ?_
        exact lc_order F hN hJ hfl hX hbl hbA hcs hP hD hS hi1 hi2 hi3 hi4 hi5 hi6 hl (hZa.2.2.2.2.2.2.2.2.2.2.2.1 _) kend
      by_cases c12 : w = 12
      · refine lv_tableIn (tgt := 1062) hx hb dL_law_45 (by rw [c12]; decide) (by rw [c12]; decide) (by rw [c12]; rfl) (by decide) ?_
        exact lc_timesPlayed F hN hJ hfl hX hbl hbA hcs hP hD hS hi1 hi2 hi3 hi4 hi5 hi6 hl (hZa.2.2.2.2.2.2.2.2.2.2.2.2.1 _) kend
      by_cases c13 : w = 13
      · refine lv_tableIn (tgt := 1118) hx hb dL_law_45 (by rw [c13]; decide) (by rw [c13]; decide) (by rw [c13]; rfl) (by decide) ?_
        exact lc_seconds F hN hJ hfl hX hbl hbA hcs hP hD hS hi1 hi2 hi3 hi4 hi5 hi6 hl (hZa.2.2.2.2.2.2.2.2.2.2.2.2.2.1 _) kend
      by_cases c14 : w = 14
      · refine lv_tableIn (tgt := 1196) hx hb dL_law_45 (by rw [c14]; decide) (by rw [c14]; decide) (by rw [c14]; rfl) (by decide) ?_
        exact lc_placeAt F hN hJ hfl hX hbl hbA hcs hP hD hS hi1 hi2 hi3 hi4 hi5 hi6 hl (hZa.2.2.2.2.2.2.2.2.2.2.2.2.2.2.1 _) kend
      by_cases c15 : w = 15
      · refine lv_tableIn (tgt := 1252) hx hb dL_law_45 (by rw [c15]; decide) (by rw [c15]; decide) (by rw [c15]; rfl) (by decide) ?_
        exact lc_sentenceLength F hN hJ hfl hX hbl hbA hcs hP hD hS hi1 hi2 hi3 hi4 hi5 hi6 hl (hZa.2.2.2.2.2.2.2.2.2.2.2.2.2.2.2.1 _) kend
      by_cases c16 : w = 16
      · refine lv_tableIn (tgt := 1308) hx hb dL_law_45 (by rw [c16]; decide) (by rw [c16]; decide) (by rw [c16]; rfl) (by decide) ?_
        exact lc_sentenceByte F hN hJ hfl hX hbl hbA hcs hP hD hS hi1 hi2 hi3 hi4 hi5 hi6 hl (hZa.2.2.2.2.2.2.2.2.2.2.2.2.2.2.2.2.1 _ _) kend
      by_cases c17 : w = 17
      · refine lv_tableIn (tgt := 1376) hx hb dL_law_45 (by rw [c17]; decide) (by rw [c17]; decide) (by rw [c17]; rfl) (by decide) ?_
        exact lc_words F hN hJ hfl hX hbl hbA hcs hP hD hS hi1 hi2 hi3 hi4 hi5 hi6 hl (hZa.2.2.2.2.2.2.2.2.2.2.2.2.2.2.2.2.2.1 _) kend
      by_cases c18 : w = 18
      · refine lv_tableIn (tgt := 1432) hx hb dL_law_45 (by rw [c18]; decide) (by rw [c18]; decide) (by rw [c18]; rfl) (by decide) ?_
        exact lc_copySentence F hN hJ hfl hX hbl hbA hcs hP hD hS hi1 hi2 hi3 hi4 hi5 hi6 hl (hZa.2.2.2.2.2.2.2.2.2.2.2.2.2.2.2.2.2.2.1 _) kend
      by_cases c19 : w = 19
      · refine lv_tableIn (tgt := 1488) hx hb dL_law_45 (by rw [c19]; decide) (by rw [c19]; decide) (by rw [c19]; rfl) (by decide) ?_
        exact lc_type F hN hJ hfl hX hbl hbA hcs hP hD hS hi1 hi2 hi3 hi4 hi5 hi6 hl (hZa.2.2.2.2.2.2.2.2.2.2.2.2.2.2.2.2.2.2.2.1 _) kend
      by_cases c20 : w = 20
      · refine lv_tableIn (tgt := 1544) hx hb dL_law_45 (by rw [c20]; decide) (by rw [c20]; decide) (by rw [c20]; rfl) (by decide) ?_
        exact lc_cut F hN hJ hfl hX hbl hbA hcs hP hD hS hi1 hi2 hi3 hi4 hi5 hi6 hl (hZa.2.2.2.2.2.2.2.2.2.2.2.2.2.2.2.2.2.2.2.2.1 _) kend
      by_cases c21 : w = 21
      · refine lv_tableIn (tgt := 1600) hx hb dL_law_45 (by rw [c21]; decide) (by rw [c21]; decide) (by rw [c21]; rfl) (by decide) ?_
        exact lc_clearText F hN hJ hfl hX hbl hbA hcs hP hD hS hi1 hi2 hi3 hi4 hi5 hi6 hl (hZa.2.2.2.2.2.2.2.2.2.2.2.2.2.2.2.2.2.2.2.2.2.1) kend
      by_cases c22 : w = 22
      · refine lv_tableIn (tgt := 1613) hx hb dL_law_45 (by rw [c22]; decide) (by rw [c22]; decide) (by rw [c22]; rfl) (by decide) ?_
        exact lc_fault F hN hJ hfl hX hbl hbA hcs hP hD hS hi1 hi2 hi3 hi4 hi5 hi6 hl (hZa.2.2.2.2.2.2.2.2.2.2.2.2.2.2.2.2.2.2.2.2.2.2.1) kend
      by_cases c23 : w = 23
      · refine lv_tableIn (tgt := 1626) hx hb dL_law_45 (by rw [c23]; decide) (by rw [c23]; decide) (by rw [c23]; rfl) (by decide) ?_
        exact lc_readInto F hN hJ hfl hX hbl hbA hcs hP hD hS hi1 hi2 hi3 hi4 hi5 hi6 hl (hZa.2.2.2.2.2.2.2.2.2.2.2.2.2.2.2.2.2.2.2.2.2.2.2.1 _) kend
      by_cases c24 : w = 24
      · refine lv_tableIn (tgt := 1682) hx hb dL_law_45 (by rw [c24]; decide) (by rw [c24]; decide) (by rw [c24]; rfl) (by decide) ?_
        exact lc_tells F hN hJ hfl hX hbl hbA hcs hP hD hS hi1 hi2 hi3 hi4 hi5 hi6 hl (hZa.2.2.2.2.2.2.2.2.2.2.2.2.2.2.2.2.2.2.2.2.2.2.2.2.1 _) kend
      by_cases c25 : w = 25
      · refine lv_tableIn (tgt := 1745) hx hb dL_law_45 (by rw [c25]; decide) (by rw [c25]; decide) (by rw [c25]; rfl) (by decide) ?_
        exact lc_changedBy F hN hJ hfl hX hbl hbA hcs hP hD hS hi1 hi2 hi3 hi4 hi5 hi6 hl (hZa.2.2.2.2.2.2.2.2.2.2.2.2.2.2.2.2.2.2.2.2.2.2.2.2.2.1 _ _) kend
      by_cases c26 : w = 26
      · refine lv_tableIn (tgt := 1813) hx hb dL_law_45 (by rw [c26]; decide) (by rw [c26]; decide) (by rw [c26]; rfl) (by decide) ?_
        exact lc_nearestKey F hN hJ hfl hX hbl hbA hcs hP hD hS hi1 hi2 hi3 hi4 hi5 hi6 hl (hZa.2.2.2.2.2.2.2.2.2.2.2.2.2.2.2.2.2.2.2.2.2.2.2.2.2.2.1 _) kend
      by_cases c27 : w = 27
      · refine lv_tableIn (tgt := 1869) hx hb dL_law_45 (by rw [c27]; decide) (by rw [c27]; decide) (by rw [c27]; rfl) (by decide) ?_
        exact lc_needlessSigns F hN hJ hfl hX hbl hbA hcs hP hD hS hi1 hi2 hi3 hi4 hi5 hi6 hl (hZa.2.2.2.2.2.2.2.2.2.2.2.2.2.2.2.2.2.2.2.2.2.2.2.2.2.2.2.1 _) kend
      by_cases c28 : w = 28
      · refine lv_tableIn (tgt := 1925) hx hb dL_law_45 (by rw [c28]; decide) (by rw [c28]; decide) (by rw [c28]; rfl) (by decide) ?_
        exact lc_undo F hN hJ hfl hX hbl hbA hcs hP hD hS hi1 hi2 hi3 hi4 hi5 hi6 hl (hZa.2.2.2.2.2.2.2.2.2.2.2.2.2.2.2.2.2.2.2.2.2.2.2.2.2.2.2.2.1) kend
      by_cases c29 : w = 29
      · refine lv_tableIn (tgt := 1969) hx hb dL_law_45 (by rw [c29]; decide) (by rw [c29]; decide) (by rw [c29]; rfl) (by decide) ?_
        exact lc_digest F hN hJ hfl hX hbl hbA hcs hP hD hS hi1 hi2 hi3 hi4 hi5 hi6 hl (hZa.2.2.2.2.2.2.2.2.2.2.2.2.2.2.2.2.2.2.2.2.2.2.2.2.2.2.2.2.2) kend
      refine lv_tableOut (tgt := 1983) hx hb dL_law_45 (z_sw 0 30 w (fun j hj => match j, hj with | 0, _ => c0 | 1, _ => c1 | 2, _ => c2 | 3, _ => c3 | 4, _ => c4 | 5, _ => c5 | 6, _ => c6 | 7, _ => c7 | 8, _ => c8 | 9, _ => c9 | 10, _ => c10 | 11, _ => c11 | 12, _ => c12 | 13, _ => c13 | 14, _ => c14 | 15, _ => c15 | 16, _ => c16 | 17, _ => c17 | 18, _ => c18 | 19, _ => c19 | 20, _ => c20 | 21, _ => c21 | 22, _ => c22 | 23, _ => c23 | 24, _ => c24 | 25, _ => c25 | 26, _ => c26 | 27, _ => c27 | 28, _ => c28 | 29, _ => c29 | j + 30, hj => absurd hj (by omega))) (by decide) ?_
      exact W.widen (Nat.le_succ _) (Nat.le_add_right _ 6) (kend K M fo fd H locs ls hz hP hD hS hl)
end ZLP
