/-! ===== texts that are typed by words of eight bytes ===== -/
/-- the byte at a place of a word, as the law takes it out -/
def tyB (w : Int64) (x : Int32) : Int32 := ((w >>> ((8 * x).toInt64 &&& 63)) &&& (255)).toInt32
/-- a text and what is typed behind it: the bytes of a word from place k - 1 down -/
def tyS (w : Int64) : Nat → Nat × (Nat → Int) → Nat × (Nat → Int)
  | 0, s => s
  | k + 1, s => tyS w k (if tyB w (iI (k : Nat)) = 0 then s else (s.1 + 1, fun i => if i = s.1 then (tyB w (iI (k : Nat))).toInt else s.2 i))
def tyOk (w : Int64) : Bool := (List.range 8).all (fun k => decide (0 ≤ (tyB w (iI (k : Nat))).toInt ∧ (tyB w (iI (k : Nat))).toInt ≤ 127))
theorem tyOk_at {w : Int64} (h : tyOk w = true) {k : Nat} (hk : k < 8) : 0 ≤ (tyB w (iI (k : Nat))).toInt ∧ (tyB w (iI (k : Nat))).toInt ≤ 127 := of_decide_eq_true (List.all_eq_true.mp h k (List.mem_range.mpr hk))
theorem tyS_len (w : Int64) : ∀ (k : Nat) (s : Nat × (Nat → Int)), (tyS w k s).1 ≤ s.1 + k
  | 0, s => Nat.le_refl _
  | k + 1, s => by
    have := tyS_len w k (if tyB w (iI (k : Nat)) = 0 then s else (s.1 + 1, fun i => if i = s.1 then (tyB w (iI (k : Nat))).toInt else s.2 i))
    unfold tyS
    split at this
    · next q => rw [if_pos q]; omega
    · next q => rw [if_neg q]; dsimp only at this; omega
theorem zC_cong {S : zSt} {hs : List zSt} {L : Nat} {T T1 : Nat → Int} {K : zKT} (hZ : zC S hs L T K) (h : ∀ i, i < L → T i = T1 i) : zC S hs L T1 K := by
  obtain ⟨nx, ⟨u1, u2, u3, u4, u5, u6⟩, hk, hO, hC, hT, hH, hF⟩ := hZ
  exact ⟨nx, ⟨u1, u2, u3, u4, u5, fun i hi => by rw [← h i hi]; exact u6 i hi⟩, hk, hO, hC, ⟨hT.1, fun i hi => by rw [← h i hi]; exact hT.2 i hi⟩, hH, hF⟩
abbrev rm_L_types : Room := { frames := 30, cells := 0, slots := 0, locals := 1000 }
abbrev rm_L_faultOf : Room := { frames := 34, cells := 0, slots := 0, locals := 1400 }
abbrev rm_L_texts : Room := { frames := 38, cells := 0, slots := 0, locals := 1800 }
section ZTY
variable {p : Program} {l : Launch} {e : Env} {R : Room} {s : State} {m : MethodId} {args : Array Value} {below : List Frame} {meth : Method} {c : Code} {Q : State → Prop}
variable {N : Nat} {g : zEnv} {j : zJ} {q : Nat → Nat} {A : Nat → Prop} {S : zSt} {hs : List zSt} {w : Int64} {cells slots : Nat}
set_option maxHeartbeats 8000000 in
set_option maxRecDepth 100000 in
theorem ty_loop (hw : tyOk w = true) (F : zF p m c cL_types 5 s args RL g A) (hR : 30 ≤ R.frames ∧ 1000 ≤ R.locals) (hcs : cells ≤ R.cells ∧ slots ≤ R.slots) : ∀ n : Nat, n ≤ 8 → ∀ (L : Nat) (T : Nat → Int) (K : zKT), zC S hs L T K → L + n ≤ 600 → ∀ (H : Heap) (locs : List Loc) (ls : Array Slot), va_P (zD g) vwCl (zcW g q K) H → va_D A (zcW g q K) → va_S A s.heap H locs → lv_has ls 5 [(0, .ref (q 0)), (1, .long w), (3, .int (iI ((n : Int) - 1)))] →
    (∀ (K1 : zKT) (H1 : Heap) (locs1 : List Loc) (ls1 : Array Slot), zC S hs (tyS w n (L, T)).1 (tyS w n (L, T)).2 K1 → va_P (zD g) vwCl (zcW g q K1) H1 → va_D A (zcW g q K1) → va_S A s.heap H1 locs1 → W p l e R s m args below meth c H1 locs1 cells slots Q (F0 m 38 ls1 [])) → W p l e R s m args below meth c H locs cells slots Q (F0 m 3 ls []) := by
  have hx := F.1.1
  have hb := F.1.2.1
  have hz := F.1.2.2.2.2
  intro n
  induction n with
  | zero =>
    intro hn L T K hZ hL H locs ls hP hD hS hl kk
    refine lv_iload_n hx hb dL_types_3 rfl (lv_at hl 2 rfl) ?_
    refine lv_if_lt (tgt := 38) hx hb dL_types_4 (by decide) (fun _ => kk K H locs ls hZ hP hD hS) (fun q9 => absurd (by decide) q9)
  | succ n ih =>
    intro hn L T K hZ hL H locs ls hP hD hS hl kk
    have e0 : (((n + 1 : Nat) : Int) - 1) = (n : Int) := by omega
    rw [e0] at hl
    have hbt := tyOk_at hw (show n < 8 by omega)
    refine lv_iload_n hx hb dL_types_3 rfl (lv_at hl 2 rfl) ?_
    refine lv_if_lt (tgt := 38) hx hb dL_types_4 (by decide) (fun q9 => absurd q9 (by rw [iL0, iI_lt (by omega) (by omega) (by omega) (by omega)]; omega)) (fun _ => ?_)
    refine lv_lload_n hx hb dL_types_7 rfl (lv_at hl 1 rfl) ?_
    refine lv_bipush (v := 8) hx hb dL_types_8 (by decide) ?_
    refine lv_iload_n hx hb dL_types_10 rfl (lv_at hl 2 rfl) ?_
    refine lv_imul hx hb dL_types_11 ?_
    refine lv_lshr hx hb dL_types_12 rfl ?_
    refine lv_ldc2 hx hb F.1.2.2.2.1 (hz _ zw_928) dL_types_13 ?_
    refine lv_land hx hb dL_types_16 ?_
    refine lv_l2i (v := tyB w (iI (n : Nat))) hx hb dL_types_17 rfl ?_
    refine lv_istore (lv' := [(4, .int (tyB w (iI (n : Nat)))), (0, .ref (q 0)), (1, .long w), (3, .int (iI (n : Int)))]) hx hb dL_types_18 hl (by decide) rfl (fun ls hl => ?_)
    refine lv_iload hx hb dL_types_20 (lv_at hl 0 rfl) ?_
    have ei : iI (n : Int) + Int32.ofInt (-1) = iI ((n : Int) - 1) := by rw [show Int32.ofInt (-1) = iI (-1) from rfl, iI_add, show (n : Int) + -1 = (n : Int) - 1 by omega]
    refine lv_if_eq (tgt := 32) hx hb dL_types_22 (by decide) (fun hb0 => ?_) (fun hb0 => ?_)
    · refine lv_iinc (v := iI ((n : Int) - 1)) (lv' := [(3, .int (iI ((n : Int) - 1))), (4, .int (tyB w (iI (n : Nat)))), (0, .ref (q 0)), (1, .long w)]) hx hb dL_types_32 hl (k := 3) rfl ei (by decide) rfl (fun ls hl => ?_)
      refine lv_goto (tgt := 3) hx hb dL_types_35 (by decide) ?_
      refine ih (by omega) L T K hZ (by omega) H locs ls hP hD hS (lv_sub hl [2, 3, 0] rfl) (fun K1 H1 locs1 ls1 h1 => kk K1 H1 locs1 ls1 ?_)
      unfold tyS
      rw [if_pos hb0]
      exact h1
    · obtain ⟨r, h, e1, hZ1⟩ := d_type (N := 20000) hZ (a := (tyB w (iI (n : Nat))).toInt) (by unfold zInt; omega) hbt (by omega) (ea := (Int32.ofInt_toInt _).symm)
      refine lv_aload_n hx hb dL_types_25 rfl (lv_at hl 1 rfl) ?_
      refine lv_iload hx hb dL_types_26 (lv_at hl 0 rfl) ?_
      refine cd0_type _ h F zw_811 hP hD hS hl.1 (Nat.le_of_ble_eq_true rfl) ⟨Nat.le_trans (Nat.le_of_ble_eq_true rfl) hR.1, Nat.le_trans (Nat.le_of_ble_eq_true rfl) hR.2⟩ hcs dL_types_28 (fun H locs hP hD hS => ?_)
      refine lv_pop hx hb dL_types_31 rfl ?_
      refine lv_iinc (v := iI ((n : Int) - 1)) (lv' := [(3, .int (iI ((n : Int) - 1))), (4, .int (tyB w (iI (n : Nat)))), (0, .ref (q 0)), (1, .long w)]) hx hb dL_types_32 hl (k := 3) rfl ei (by decide) rfl (fun ls hl => ?_)
      refine lv_goto (tgt := 3) hx hb dL_types_35 (by decide) ?_
      refine ih (by omega) (L + 1) _ _ hZ1 (by omega) H locs ls hP hD hS (lv_sub hl [2, 3, 0] rfl) (fun K1 H1 locs1 ls1 h1 => kk K1 H1 locs1 ls1 ?_)
      unfold tyS
      rw [if_neg hb0]
      exact h1
set_option maxHeartbeats 4000000 in
set_option maxRecDepth 100000 in
theorem types_ok (l : Launch) (g : zEnv) (j : zJ) (q : Nat → Nat) (S : zSt) (hs : List zSt) (w : Int64) (hw : tyOk w = true) {L : Nat} {T : Nat → Int} (hL : L + 8 ≤ 600) : ZU l yL_types cL_types 5 none rm_L_types g j q [.ref (q 0), .long w] (zC S hs L T) (zC S hs (tyS w 8 (L, T)).1 (tyS w 8 (L, T)).2) none 0 0 := by
  refine zU_of (by decide) (Nat.le_of_ble_eq_true rfl) ?_
  intro p e s m below meth c A H locs ls Q R K hZ F hRm hr hlocks hN hJ hO hP hD hS hl hQ
  subst hRm
  have F : zF p m c cL_types 5 s (([.ref (q 0), .long w] : List Value)).toArray RL g A := F
  have hx := F.1.1
  have hb := F.1.2.1
  have hl : lv_has ls 5 [(0, .ref (q 0)), (1, .long w)] := hl
  refine lv_bipush (v := 7) hx hb dL_types_0 (by decide) ?_
  refine lv_istore_n (lv' := [(3, .int (iI (((8 : Nat) : Int) - 1))), (0, .ref (q 0)), (1, .long w)]) hx hb dL_types_2 rfl hl (by decide) rfl (fun ls hl => ?_)
  refine ty_loop hw F ⟨Nat.le_of_ble_eq_true rfl, Nat.le_of_ble_eq_true rfl⟩ ⟨Nat.zero_le _, Nat.zero_le _⟩ 8 (by omega) L T K hZ (by omega) H locs ls hP hD hS (lv_sub hl [1, 2, 0] rfl) (fun K1 H1 locs1 ls1 h1 hP hD hS => ?_)
  exact zU_v h1 F hr hlocks hQ ⟨Nat.le_refl _, Nat.le_refl _⟩ hP hD hS dL_types_38
end ZTY
/-- the text of five words -/
def txS (a b c d e : Int64) : Nat × (Nat → Int) := tyS e 8 (tyS d 8 (tyS c 8 (tyS b 8 (tyS a 8 (0, fun _ => 0)))))
def txOk (a b c d e : Int64) : Bool := tyOk a && (tyOk b && (tyOk c && (tyOk d && tyOk e)))
set_option maxHeartbeats 8000000 in
set_option maxRecDepth 100000 in
theorem faultOf_ok (l : Launch) (N : Nat) (hN2 : 20000 ≤ N) (g : zEnv) (j : zJ) (q : Nat → Nat) (S : zSt) (hs : List zSt) (w1 w2 w3 w4 w5 : Int64) (hw : txOk w1 w2 w3 w4 w5 = true) {v : Int32} (hv : iI (faS (txS w1 w2 w3 w4 w5).2 (txS w1 w2 w3 w4 w5).1).1 = v) : ZU l yL_faultOf cL_faultOf 11 (some .int) rm_L_faultOf g j q [.ref (q 0), .long w1, .long w2, .long w3, .long w4, .long w5] (fun K => ∃ L T, zC S hs L T K) (zC S hs (txS w1 w2 w3 w4 w5).1 (txS w1 w2 w3 w4 w5).2) (some (.int v)) 0 0 := by
  subst hv
  refine zU_of (by decide) (Nat.le_of_ble_eq_true rfl) ?_
  intro p e s m below meth c A H locs ls Q R K hZ F hRm hr hlocks hN hJ hO hP hD hS hl hQ
  subst hRm
  have F : zF p m c cL_faultOf 11 s (([.ref (q 0), .long w1, .long w2, .long w3, .long w4, .long w5] : List Value)).toArray RL g A := F
  have hx := F.1.1
  have hb := F.1.2.1
  have hl : lv_has ls 11 [(0, .ref (q 0)), (1, .long w1), (3, .long w2), (5, .long w3), (7, .long w4), (9, .long w5)] := hl
  unfold txOk at hw
  rw [Bool.and_eq_true, Bool.and_eq_true, Bool.and_eq_true, Bool.and_eq_true] at hw
  obtain ⟨L, T, hZ⟩ := hZ
  obtain ⟨r, h, e1, hZ1⟩ := d_clearText (N := N) hZ
  refine lv_aload_n hx hb dL_faultOf_0 rfl (lv_at hl 0 rfl) ?_
  refine cd0_clearText h F zw_924 hP hD hS hl.1 (Nat.le_of_ble_eq_true rfl) ⟨Nat.le_of_ble_eq_true rfl, Nat.le_of_ble_eq_true rfl⟩ ⟨Nat.le_of_ble_eq_true rfl, Nat.le_of_ble_eq_true rfl⟩ dL_faultOf_1 (fun H locs hP hD hS => ?_)
  refine lv_pop hx hb dL_faultOf_4 rfl ?_
  have hZ := zC_cong (T1 := fun _ => 0) hZ1 (fun i hi => absurd hi (Nat.not_lt_zero i))
  refine lv_aload_n hx hb dL_faultOf_5 rfl (lv_at hl 0 rfl) ?_
  refine lv_lload_n hx hb dL_faultOf_6 rfl (lv_at hl 1 rfl) ?_
  have hL0 := tyS_len w1 8 ((0, fun _ => 0) : Nat × (Nat → Int))
  refine zcu (n := 2) [] [] [0, 1, 2, 3, 4, 5, 6, 7, 8, 9, 10, 11, 12, 13, 14, 15, 16, 17, 18, 19, 20, 21, 22, 23, 24] [0, 1, 2, 3, 4, 5, 6, 7, 8, 9, 10, 11, 12, 13, 14, 15, 16, 17, 18, 19, 20, 21, 22, 23, 24] (types_ok l g j q S hs w1 hw.1 (L := ((0, fun _ => 0) : Nat × (Nat → Int)).1) (T := ((0, fun _ => 0) : Nat × (Nat → Int)).2) (by dsimp only at *; omega)) hZ F hN hJ hO ⟨zw_931, zw_840, zw_929, ⟨by decide, by decide⟩, by decide +kernel⟩ zw_930 hP hD hS rfl rfl rfl (by decide) (fun _ => rfl) (by decide) rfl hl.1 (rest := []) rfl (Nat.le_of_ble_eq_true rfl) ⟨rfl, rfl⟩ ⟨Nat.le_of_ble_eq_true rfl, Nat.le_of_ble_eq_true rfl⟩ ⟨Nat.le_of_ble_eq_true rfl, Nat.le_of_ble_eq_true rfl⟩ dL_faultOf_7 (st1 := []) rfl (fun K H locs hZ hP hD hS => ?_)
  refine lv_aload_n hx hb dL_faultOf_10 rfl (lv_at hl 0 rfl) ?_
  refine lv_lload_n hx hb dL_faultOf_11 rfl (lv_at hl 2 rfl) ?_
  have hL1 := tyS_len w2 8 (tyS w1 8 ((0, fun _ => 0) : Nat × (Nat → Int)))
  refine zcu (n := 2) [] [] [0, 1, 2, 3, 4, 5, 6, 7, 8, 9, 10, 11, 12, 13, 14, 15, 16, 17, 18, 19, 20, 21, 22, 23, 24] [0, 1, 2, 3, 4, 5, 6, 7, 8, 9, 10, 11, 12, 13, 14, 15, 16, 17, 18, 19, 20, 21, 22, 23, 24] (types_ok l g j q S hs w2 hw.2.1 (L := (tyS w1 8 ((0, fun _ => 0) : Nat × (Nat → Int))).1) (T := (tyS w1 8 ((0, fun _ => 0) : Nat × (Nat → Int))).2) (by dsimp only at *; omega)) hZ F hN hJ hO ⟨zw_931, zw_840, zw_929, ⟨by decide, by decide⟩, by decide +kernel⟩ zw_930 hP hD hS rfl rfl rfl (by decide) (fun _ => rfl) (by decide) rfl hl.1 (rest := []) rfl (Nat.le_of_ble_eq_true rfl) ⟨rfl, rfl⟩ ⟨Nat.le_of_ble_eq_true rfl, Nat.le_of_ble_eq_true rfl⟩ ⟨Nat.le_of_ble_eq_true rfl, Nat.le_of_ble_eq_true rfl⟩ dL_faultOf_12 (st1 := []) rfl (fun K H locs hZ hP hD hS => ?_)
  refine lv_aload_n hx hb dL_faultOf_15 rfl (lv_at hl 0 rfl) ?_
  refine lv_lload hx hb dL_faultOf_16 (lv_at hl 3 rfl) ?_
  have hL2 := tyS_len w3 8 (tyS w2 8 (tyS w1 8 ((0, fun _ => 0) : Nat × (Nat → Int))))
  refine zcu (n := 2) [] [] [0, 1, 2, 3, 4, 5, 6, 7, 8, 9, 10, 11, 12, 13, 14, 15, 16, 17, 18, 19, 20, 21, 22, 23, 24] [0, 1, 2, 3, 4, 5, 6, 7, 8, 9, 10, 11, 12, 13, 14, 15, 16, 17, 18, 19, 20, 21, 22, 23, 24] (types_ok l g j q S hs w3 hw.2.2.1 (L := (tyS w2 8 (tyS w1 8 ((0, fun _ => 0) : Nat × (Nat → Int)))).1) (T := (tyS w2 8 (tyS w1 8 ((0, fun _ => 0) : Nat × (Nat → Int)))).2) (by dsimp only at *; omega)) hZ F hN hJ hO ⟨zw_931, zw_840, zw_929, ⟨by decide, by decide⟩, by decide +kernel⟩ zw_930 hP hD hS rfl rfl rfl (by decide) (fun _ => rfl) (by decide) rfl hl.1 (rest := []) rfl (Nat.le_of_ble_eq_true rfl) ⟨rfl, rfl⟩ ⟨Nat.le_of_ble_eq_true rfl, Nat.le_of_ble_eq_true rfl⟩ ⟨Nat.le_of_ble_eq_true rfl, Nat.le_of_ble_eq_true rfl⟩ dL_faultOf_18 (st1 := []) rfl (fun K H locs hZ hP hD hS => ?_)
  refine lv_aload_n hx hb dL_faultOf_21 rfl (lv_at hl 0 rfl) ?_
  refine lv_lload hx hb dL_faultOf_22 (lv_at hl 4 rfl) ?_
  have hL3 := tyS_len w4 8 (tyS w3 8 (tyS w2 8 (tyS w1 8 ((0, fun _ => 0) : Nat × (Nat → Int)))))
  refine zcu (n := 2) [] [] [0, 1, 2, 3, 4, 5, 6, 7, 8, 9, 10, 11, 12, 13, 14, 15, 16, 17, 18, 19, 20, 21, 22, 23, 24] [0, 1, 2, 3, 4, 5, 6, 7, 8, 9, 10, 11, 12, 13, 14, 15, 16, 17, 18, 19, 20, 21, 22, 23, 24] (types_ok l g j q S hs w4 hw.2.2.2.1 (L := (tyS w3 8 (tyS w2 8 (tyS w1 8 ((0, fun _ => 0) : Nat × (Nat → Int))))).1) (T := (tyS w3 8 (tyS w2 8 (tyS w1 8 ((0, fun _ => 0) : Nat × (Nat → Int))))).2) (by dsimp only at *; omega)) hZ F hN hJ hO ⟨zw_931, zw_840, zw_929, ⟨by decide, by decide⟩, by decide +kernel⟩ zw_930 hP hD hS rfl rfl rfl (by decide) (fun _ => rfl) (by decide) rfl hl.1 (rest := []) rfl (Nat.le_of_ble_eq_true rfl) ⟨rfl, rfl⟩ ⟨Nat.le_of_ble_eq_true rfl, Nat.le_of_ble_eq_true rfl⟩ ⟨Nat.le_of_ble_eq_true rfl, Nat.le_of_ble_eq_true rfl⟩ dL_faultOf_24 (st1 := []) rfl (fun K H locs hZ hP hD hS => ?_)
  refine lv_aload_n hx hb dL_faultOf_27 rfl (lv_at hl 0 rfl) ?_
  refine lv_lload hx hb dL_faultOf_28 (lv_at hl 5 rfl) ?_
  have hL4 := tyS_len w5 8 (tyS w4 8 (tyS w3 8 (tyS w2 8 (tyS w1 8 ((0, fun _ => 0) : Nat × (Nat → Int))))))
  refine zcu (n := 2) [] [] [0, 1, 2, 3, 4, 5, 6, 7, 8, 9, 10, 11, 12, 13, 14, 15, 16, 17, 18, 19, 20, 21, 22, 23, 24] [0, 1, 2, 3, 4, 5, 6, 7, 8, 9, 10, 11, 12, 13, 14, 15, 16, 17, 18, 19, 20, 21, 22, 23, 24] (types_ok l g j q S hs w5 hw.2.2.2.2 (L := (tyS w4 8 (tyS w3 8 (tyS w2 8 (tyS w1 8 ((0, fun _ => 0) : Nat × (Nat → Int)))))).1) (T := (tyS w4 8 (tyS w3 8 (tyS w2 8 (tyS w1 8 ((0, fun _ => 0) : Nat × (Nat → Int)))))).2) (by dsimp only at *; omega)) hZ F hN hJ hO ⟨zw_931, zw_840, zw_929, ⟨by decide, by decide⟩, by decide +kernel⟩ zw_930 hP hD hS rfl rfl rfl (by decide) (fun _ => rfl) (by decide) rfl hl.1 (rest := []) rfl (Nat.le_of_ble_eq_true rfl) ⟨rfl, rfl⟩ ⟨Nat.le_of_ble_eq_true rfl, Nat.le_of_ble_eq_true rfl⟩ ⟨Nat.le_of_ble_eq_true rfl, Nat.le_of_ble_eq_true rfl⟩ dL_faultOf_30 (st1 := []) rfl (fun K H locs hZ hP hD hS => ?_)
  obtain ⟨r, h, e2, hZ2⟩ := d_fault (N := N) hN2 hZ
  refine lv_aload_n hx hb dL_faultOf_33 rfl (lv_at hl 0 rfl) ?_
  refine cd0_fault h F zw_932 hP hD hS hl.1 (Nat.le_of_ble_eq_true rfl) ⟨Nat.le_of_ble_eq_true rfl, Nat.le_of_ble_eq_true rfl⟩ ⟨Nat.le_of_ble_eq_true rfl, Nat.le_of_ble_eq_true rfl⟩ dL_faultOf_34 (fun H locs hP hD hS => ?_)
  rw [e2]
  exact zU_i hZ2 F hr hlocks hQ ⟨Nat.le_refl _, Nat.le_refl _⟩ hP hD hS dL_faultOf_37
/-! ===== texts with their faults ===== -/
section ZTX
variable {p : Program} {l : Launch} {e : Env} {s : State} {m : MethodId} {args : Array Value} {below : List Frame} {meth : Method} {c : Code} {H : Heap} {locs : List Loc} {Q : State → Prop}
variable {N : Nat} {g : zEnv} {j : zJ} {q : Nat → Nat} {A : Nat → Prop} {ls : Array Slot} {S : zSt} {hs : List zSt} {K : zKT}
set_option maxRecDepth 100000 in
theorem tx_ok0 : txOk 0 0 0 0 0 = true := by decide +kernel
set_option maxRecDepth 100000 in
theorem tx_v0 : (faS (txS 0 0 0 0 0).2 (txS 0 0 0 0 0).1).1 = 0 := by decide +kernel
set_option maxRecDepth 100000 in
theorem tx_ok1 : txOk (25185) 0 0 0 0 = true := by decide +kernel
set_option maxRecDepth 100000 in
theorem tx_v1 : (faS (txS (25185) 0 0 0 0).2 (txS (25185) 0 0 0 0).1).1 = 0 := by decide +kernel
set_option maxRecDepth 100000 in
theorem tx_ok2 : txOk (6447474) 0 0 0 0 = true := by decide +kernel
set_option maxRecDepth 100000 in
theorem tx_v2 : (faS (txS (6447474) 0 0 0 0).2 (txS (6447474) 0 0 0 0).1).1 = 3 := by decide +kernel
set_option maxRecDepth 100000 in
theorem tx_ok3 : txOk (1650553376) 0 0 0 0 = true := by decide +kernel
set_option maxRecDepth 100000 in
theorem tx_v3 : (faS (txS (1650553376) 0 0 0 0).2 (txS (1650553376) 0 0 0 0).1).1 = 4 := by decide +kernel
set_option maxRecDepth 100000 in
theorem tx_ok4 : txOk (7089072771046597998) (100) 0 0 0 = true := by decide +kernel
set_option maxRecDepth 100000 in
theorem tx_v4 : (faS (txS (7089072771046597998) (100) 0 0 0).2 (txS (7089072771046597998) (100) 0 0 0).1).1 = -1000 := by decide +kernel
set_option maxRecDepth 100000 in
theorem tx_ok5 : txOk (7089072771046597998) (6561912) 0 0 0 = true := by decide +kernel
set_option maxRecDepth 100000 in
theorem tx_v5 : (faS (txS (7089072771046597998) (6561912) 0 0 0).2 (txS (7089072771046597998) (6561912) 0 0 0).1).1 = 10 := by decide +kernel
set_option maxRecDepth 100000 in
theorem tx_ok6 : txOk (7089072771047632944) (543518308) 0 0 0 = true := by decide +kernel
set_option maxRecDepth 100000 in
theorem tx_v6 : (faS (txS (7089072771047632944) (543518308) 0 0 0).2 (txS (7089072771047632944) (543518308) 0 0 0).1).1 = 4 := by decide +kernel
set_option maxRecDepth 100000 in
theorem tx_ok7 : txOk (7089072771046600560) (111523664326244) 0 0 0 = true := by decide +kernel
set_option maxRecDepth 100000 in
theorem tx_v7 : (faS (txS (7089072771046600560) (111523664326244) 0 0 0).2 (txS (7089072771046600560) (111523664326244) 0 0 0).1).1 = -1000 := by decide +kernel
set_option maxRecDepth 100000 in
theorem tx_ok8 : txOk (7089072771046597998) (7235435665548451941) (28260) 0 0 = true := by decide +kernel
set_option maxRecDepth 100000 in
theorem tx_v8 : (faS (txS (7089072771046597998) (7235435665548451941) (28260) 0 0).2 (txS (7089072771046597998) (7235435665548451941) (28260) 0 0).1).1 = 13 := by decide +kernel
set_option maxRecDepth 100000 in
theorem tx_ok9 : txOk (7089072771046597998) (7235435665551617636) 0 0 0 = true := by decide +kernel
set_option maxRecDepth 100000 in
theorem tx_v9 : (faS (txS (7089072771046597998) (7235435665551617636) 0 0 0).2 (txS (7089072771046597998) (7235435665551617636) 0 0 0).1).1 = 13 := by decide +kernel
set_option maxRecDepth 100000 in
theorem tx_ok10 : txOk (7089072771046599525) (8728028993559486836) (543518308) 0 0 = true := by decide +kernel
set_option maxRecDepth 100000 in
theorem tx_v10 : (faS (txS (7089072771046599525) (8728028993559486836) (543518308) 0 0).2 (txS (7089072771046599525) (8728028993559486836) (543518308) 0 0).1).1 = 10 := by decide +kernel
set_option maxRecDepth 100000 in
theorem tx_ok11 : txOk (7089072771046599525) (8728032292262142313) (472989920868) 0 0 = true := by decide +kernel
set_option maxRecDepth 100000 in
theorem tx_v11 : (faS (txS (7089072771046599525) (8728032292262142313) (472989920868) 0 0).2 (txS (7089072771046599525) (8728032292262142313) (472989920868) 0 0).1).1 = 12 := by decide +kernel
set_option maxRecDepth 100000 in
theorem tx_ok12 : txOk (7089072771046599525) (8728037789652509044) (543518308) 0 0 = true := by decide +kernel
set_option maxRecDepth 100000 in
theorem tx_v12 : (faS (txS (7089072771046599525) (8728037789652509044) (543518308) 0 0).2 (txS (7089072771046599525) (8728037789652509044) (543518308) 0 0).1).1 = 10 := by decide +kernel
set_option maxRecDepth 100000 in
theorem tx_ok13 : txOk (7089072771046601833) (7882742131032531045) (28260) 0 0 = true := by decide +kernel
set_option maxRecDepth 100000 in
theorem tx_v13 : (faS (txS (7089072771046601833) (7882742131032531045) (28260) 0 0).2 (txS (7089072771046601833) (7882742131032531045) (28260) 0 0).1).1 = 13 := by decide +kernel
set_option maxRecDepth 100000 in
theorem tx_ok14 : txOk (7089072771046601833) (7882742118465156128) (6647396) 0 0 = true := by decide +kernel
set_option maxRecDepth 100000 in
theorem tx_v14 : (faS (txS (7089072771046601833) (7882742118465156128) (6647396) 0 0).2 (txS (7089072771046601833) (7882742118465156128) (6647396) 0 0).1).1 = 11 := by decide +kernel
set_option maxRecDepth 100000 in
theorem tx_ok15 : txOk (7089072771046602351) (7594024585631134309) (8319310044343330336) (8534155694509666592) (1919251316) = true := by decide +kernel
set_option maxRecDepth 100000 in
theorem tx_v15 : (faS (txS (7089072771046602351) (7594024585631134309) (8319310044343330336) (8534155694509666592) (1919251316)).2 (txS (7089072771046602351) (7594024585631134309) (8319310044343330336) (8534155694509666592) (1919251316)).1).1 = 24 := by decide +kernel
set_option maxRecDepth 100000 in
theorem tx_ok16 : txOk (7089072771046602351) (7594024585614357093) (8319310044343330336) (8534155694509666592) (1919251316) = true := by decide +kernel
set_option maxRecDepth 100000 in
theorem tx_v16 : (faS (txS (7089072771046602351) (7594024585614357093) (8319310044343330336) (8534155694509666592) (1919251316)).2 (txS (7089072771046602351) (7594024585614357093) (8319310044343330336) (8534155694509666592) (1919251316)).1).1 = 30 := by decide +kernel
set_option maxRecDepth 100000 in
theorem tx_ok17 : txOk (7089072771046602351) (7594024585614353774) (100) 0 0 = true := by decide +kernel
set_option maxRecDepth 100000 in
theorem tx_v17 : (faS (txS (7089072771046602351) (7594024585614353774) (100) 0 0).2 (txS (7089072771046602351) (7594024585614353774) (100) 0 0).1).1 = 14 := by decide +kernel
set_option maxRecDepth 100000 in
theorem tx_ok18 : txOk (7089072771046602351) (7594024585614353184) (8175547842767974944) (6647396) 0 = true := by decide +kernel
set_option maxRecDepth 100000 in
theorem tx_v18 : (faS (txS (7089072771046602351) (7594024585614353184) (8175547842767974944) (6647396) 0).2 (txS (7089072771046602351) (7594024585614353184) (8175547842767974944) (6647396) 0).1).1 = 16 := by decide +kernel
set_option maxRecDepth 100000 in
theorem tx_ok19 : txOk (7089072771046602351) (7594024585614354464) (3756126838186996837) (114) 0 = true := by decide +kernel
set_option maxRecDepth 100000 in
theorem tx_v19 : (faS (txS (7089072771046602351) (7594024585614354464) (3756126838186996837) (114) 0).2 (txS (7089072771046602351) (7594024585614354464) (3756126838186996837) (114) 0).1).1 = 14 := by decide +kernel
set_option maxRecDepth 100000 in
theorem tx_ok20 : txOk (7089072771046602351) (7594024585614353184) (4116414808376636517) (114) 0 = true := by decide +kernel
set_option maxRecDepth 100000 in
theorem tx_v20 : (faS (txS (7089072771046602351) (7594024585614353184) (4116414808376636517) (114) 0).2 (txS (7089072771046602351) (7594024585614353184) (4116414808376636517) (114) 0).1).1 = 16 := by decide +kernel
set_option maxRecDepth 100000 in
theorem tx_ok21 : txOk (7089072771046602351) (7594024585614353184) (3756128986056648037) (7959101285144555108) 0 = true := by decide +kernel
set_option maxRecDepth 100000 in
theorem tx_v21 : (faS (txS (7089072771046602351) (7594024585614353184) (3756128986056648037) (7959101285144555108) 0).2 (txS (7089072771046602351) (7594024585614353184) (3756128986056648037) (7959101285144555108) 0).1).1 = 18 := by decide +kernel
set_option maxRecDepth 100000 in
theorem tx_ok22 : txOk (7089072771046597217) (7163855027631910500) 0 0 0 = true := by decide +kernel
set_option maxRecDepth 100000 in
theorem tx_v22 : (faS (txS (7089072771046597217) (7163855027631910500) 0 0 0).2 (txS (7089072771046597217) (7163855027631910500) 0 0 0).1).1 = 11 := by decide +kernel
set_option maxRecDepth 100000 in
theorem tx_ok23 : txOk (2314958379134492720) (3472592111192138784) (32) 0 0 = true := by decide +kernel
set_option maxRecDepth 100000 in
theorem tx_v23 : (faS (txS (2314958379134492720) (3472592111192138784) (32) 0 0).2 (txS (2314958379134492720) (3472592111192138784) (32) 0 0).1).1 = -1000 := by decide +kernel
set_option maxRecDepth 100000 in
theorem tx_ok24 : txOk (7089072771046597217) (7163855031927533669) (472989920868) 0 0 = true := by decide +kernel
set_option maxRecDepth 100000 in
theorem tx_v24 : (faS (txS (7089072771046597217) (7163855031927533669) (472989920868) 0 0).2 (txS (7089072771046597217) (7163855031927533669) (472989920868) 0 0).1).1 = 13 := by decide +kernel
set_option maxRecDepth 100000 in
theorem tx_ok25 : txOk (7089072771046602351) (7594024585614357093) (8319310044343330336) (8388347261668912740) 0 = true := by decide +kernel
set_option maxRecDepth 100000 in
theorem tx_v25 : (faS (txS (7089072771046602351) (7594024585614357093) (8319310044343330336) (8388347261668912740) 0).2 (txS (7089072771046602351) (7594024585614357093) (8319310044343330336) (8388347261668912740) 0).1).1 = 24 := by decide +kernel
set_option maxRecDepth 100000 in
theorem tx_ok26 : txOk (7089072771046602351) (7594024585647911525) (8319310044343330336) (6647396) 0 = true := by decide +kernel
set_option maxRecDepth 100000 in
theorem tx_v26 : (faS (txS (7089072771046602351) (7594024585647911525) (8319310044343330336) (6647396) 0).2 (txS (7089072771046602351) (7594024585647911525) (8319310044343330336) (6647396) 0).1).1 = 12 := by decide +kernel
set_option maxRecDepth 100000 in
theorem tx_ok27 : txOk (7089072771046600560) (7308814908268047904) (6647396) 0 0 = true := by decide +kernel
set_option maxRecDepth 100000 in
theorem tx_v27 : (faS (txS (7089072771046600560) (7308814908268047904) (6647396) 0 0).2 (txS (7089072771046600560) (7308814908268047904) (6647396) 0 0).1).1 = 11 := by decide +kernel
set_option maxRecDepth 100000 in
theorem tx_ok28 : txOk (7089072772237780334) (100) 0 0 0 = true := by decide +kernel
set_option maxRecDepth 100000 in
theorem tx_v28 : (faS (txS (7089072772237780334) (100) 0 0 0).2 (txS (7089072772237780334) (100) 0 0 0).1).1 = 4 := by decide +kernel
set_option maxRecDepth 100000 in
theorem tx_ok29 : txOk (4783229761832904046) (100) 0 0 0 = true := by decide +kernel
set_option maxRecDepth 100000 in
theorem tx_v29 : (faS (txS (4783229761832904046) (100) 0 0 0).2 (txS (4783229761832904046) (100) 0 0 0).1).1 = 0 := by decide +kernel
set_option maxRecDepth 100000 in
theorem tx_ok30 : txOk (7089072771046599525) (8728099688637099552) (8388356062053412916) (2319407916637318756) 0 = true := by decide +kernel
set_option maxRecDepth 100000 in
theorem tx_v30 : (faS (txS (7089072771046599525) (8728099688637099552) (8388356062053412916) (2319407916637318756) 0).2 (txS (7089072771046599525) (8728099688637099552) (8388356062053412916) (2319407916637318756) 0).1).1 = -1000 := by decide +kernel
set_option maxRecDepth 100000 in
theorem tx_ok31 : txOk (7089072771046602351) (7594024585614353184) (3756116856866742390) (1869177701) 0 = true := by decide +kernel
set_option maxRecDepth 100000 in
theorem tx_v31 : (faS (txS (7089072771046602351) (7594024585614353184) (3756116856866742390) (1869177701) 0).2 (txS (7089072771046602351) (7594024585614353184) (3756116856866742390) (1869177701) 0).1).1 = 28 := by decide +kernel
set_option maxHeartbeats 8000000 in
set_option maxRecDepth 100000 in
theorem tx_s0 (hN2 : 20000 ≤ N) (F : zF p m c cL_texts 1 s args RL g A) (hN : zN s) (hJ : va_K (zD g) vwCl (zJT j) s) (hO : zO4 s) (hZ : ∃ L T, zC S hs L T K) (hP : va_P (zD g) vwCl (zcW g q K) H) (hD : va_D A (zcW g q K)) (hS : va_S A s.heap H locs) (hl : lv_has ls 1 [(0, .ref (q 0))])
    (kk : ∀ (K : zKT) (H : Heap) (locs : List Loc) (ls : Array Slot), (∃ L T, zC S hs L T K) → va_P (zD g) vwCl (zcW g q K) H → va_D A (zcW g q K) → va_S A s.heap H locs → lv_has ls 1 [(0, .ref (q 0))] → W p l e rm_L_texts s m args below meth c H locs 0 0 Q (F0 m 153 ls [])) : W p l e rm_L_texts s m args below meth c H locs 0 0 Q (F0 m 0 ls []) := by
  have hx := F.1.1
  have hb := F.1.2.1
  have hz := F.1.2.2.2.2
  refine lv_aload_n hx hb dL_texts_0 rfl (lv_at hl 0 rfl) ?_
  refine lv_lconst (v := 0) hx hb dL_texts_1 (by decide) ?_
  refine lv_lconst (v := 0) hx hb dL_texts_2 (by decide) ?_
  refine lv_lconst (v := 0) hx hb dL_texts_3 (by decide) ?_
  refine lv_lconst (v := 0) hx hb dL_texts_4 (by decide) ?_
  refine lv_lconst (v := 0) hx hb dL_texts_5 (by decide) ?_
  refine zcu (n := 6) [] [] [0, 1, 2, 3, 4, 5, 6, 7, 8, 9, 10, 11, 12, 13, 14, 15, 16, 17, 18, 19, 20, 21, 22, 23, 24] [0, 1, 2, 3, 4, 5, 6, 7, 8, 9, 10, 11, 12, 13, 14, 15, 16, 17, 18, 19, 20, 21, 22, 23, 24] (faultOf_ok l N hN2 g j q S hs 0 0 0 0 0 tx_ok0 (v := 0) (by rw [tx_v0]; decide)) hZ F hN hJ hO ⟨zw_990, zw_840, zw_935, ⟨by decide, by decide⟩, by decide +kernel⟩ zw_989 hP hD hS rfl rfl rfl (by decide) (fun _ => rfl) (by decide) rfl hl.1 (rest := []) rfl (Nat.le_of_ble_eq_true rfl) ⟨rfl, rfl⟩ ⟨Nat.le_of_ble_eq_true rfl, Nat.le_of_ble_eq_true rfl⟩ ⟨Nat.le_of_ble_eq_true rfl, Nat.le_of_ble_eq_true rfl⟩ dL_texts_6 (st1 := [.int 0]) rfl (fun K H locs hZ hP hD hS => ?_)
  refine lv_if_ne (tgt := 56) hx hb dL_texts_9 (by decide) (fun q9 => absurd q9 (by decide)) (fun _ => ?_)
  refine lv_aload_n hx hb dL_texts_12 rfl (lv_at hl 0 rfl) ?_
  refine lv_ldc2 hx hb F.1.2.2.2.1 (hz _ zw_936) dL_texts_13 ?_
  refine lv_lconst (v := 0) hx hb dL_texts_16 (by decide) ?_
  refine lv_lconst (v := 0) hx hb dL_texts_17 (by decide) ?_
  refine lv_lconst (v := 0) hx hb dL_texts_18 (by decide) ?_
  refine lv_lconst (v := 0) hx hb dL_texts_19 (by decide) ?_
  refine zcu (n := 6) [] [] [0, 1, 2, 3, 4, 5, 6, 7, 8, 9, 10, 11, 12, 13, 14, 15, 16, 17, 18, 19, 20, 21, 22, 23, 24] [0, 1, 2, 3, 4, 5, 6, 7, 8, 9, 10, 11, 12, 13, 14, 15, 16, 17, 18, 19, 20, 21, 22, 23, 24] (faultOf_ok l N hN2 g j q S hs (25185) 0 0 0 0 tx_ok1 (v := 0) (by rw [tx_v1]; decide)) ⟨_, _, hZ⟩ F hN hJ hO ⟨zw_990, zw_840, zw_935, ⟨by decide, by decide⟩, by decide +kernel⟩ zw_989 hP hD hS rfl rfl rfl (by decide) (fun _ => rfl) (by decide) rfl hl.1 (rest := []) rfl (Nat.le_of_ble_eq_true rfl) ⟨rfl, rfl⟩ ⟨Nat.le_of_ble_eq_true rfl, Nat.le_of_ble_eq_true rfl⟩ ⟨Nat.le_of_ble_eq_true rfl, Nat.le_of_ble_eq_true rfl⟩ dL_texts_20 (st1 := [.int 0]) rfl (fun K H locs hZ hP hD hS => ?_)
  refine lv_if_ne (tgt := 56) hx hb dL_texts_23 (by decide) (fun q9 => absurd q9 (by decide)) (fun _ => ?_)
  refine lv_aload_n hx hb dL_texts_26 rfl (lv_at hl 0 rfl) ?_
  refine lv_ldc2 hx hb F.1.2.2.2.1 (hz _ zw_937) dL_texts_27 ?_
  refine lv_lconst (v := 0) hx hb dL_texts_30 (by decide) ?_
  refine lv_lconst (v := 0) hx hb dL_texts_31 (by decide) ?_
  refine lv_lconst (v := 0) hx hb dL_texts_32 (by decide) ?_
  refine lv_lconst (v := 0) hx hb dL_texts_33 (by decide) ?_
  refine zcu (n := 6) [] [] [0, 1, 2, 3, 4, 5, 6, 7, 8, 9, 10, 11, 12, 13, 14, 15, 16, 17, 18, 19, 20, 21, 22, 23, 24] [0, 1, 2, 3, 4, 5, 6, 7, 8, 9, 10, 11, 12, 13, 14, 15, 16, 17, 18, 19, 20, 21, 22, 23, 24] (faultOf_ok l N hN2 g j q S hs (6447474) 0 0 0 0 tx_ok2 (v := 3) (by rw [tx_v2]; decide)) ⟨_, _, hZ⟩ F hN hJ hO ⟨zw_990, zw_840, zw_935, ⟨by decide, by decide⟩, by decide +kernel⟩ zw_989 hP hD hS rfl rfl rfl (by decide) (fun _ => rfl) (by decide) rfl hl.1 (rest := []) rfl (Nat.le_of_ble_eq_true rfl) ⟨rfl, rfl⟩ ⟨Nat.le_of_ble_eq_true rfl, Nat.le_of_ble_eq_true rfl⟩ ⟨Nat.le_of_ble_eq_true rfl, Nat.le_of_ble_eq_true rfl⟩ dL_texts_34 (st1 := [.int 3]) rfl (fun K H locs hZ hP hD hS => ?_)
  refine lv_iconst (v := 3) hx hb dL_texts_37 (by decide) ?_
  refine lv_icmp_ne (tgt := 56) hx hb dL_texts_38 (by decide) (fun q9 => absurd q9 (by decide)) (fun _ => ?_)
  refine lv_aload_n hx hb dL_texts_41 rfl (lv_at hl 0 rfl) ?_
  refine lv_ldc2 hx hb F.1.2.2.2.1 (hz _ zw_938) dL_texts_42 ?_
  refine lv_lconst (v := 0) hx hb dL_texts_45 (by decide) ?_
  refine lv_lconst (v := 0) hx hb dL_texts_46 (by decide) ?_
  refine lv_lconst (v := 0) hx hb dL_texts_47 (by decide) ?_
  refine lv_lconst (v := 0) hx hb dL_texts_48 (by decide) ?_
  refine zcu (n := 6) [] [] [0, 1, 2, 3, 4, 5, 6, 7, 8, 9, 10, 11, 12, 13, 14, 15, 16, 17, 18, 19, 20, 21, 22, 23, 24] [0, 1, 2, 3, 4, 5, 6, 7, 8, 9, 10, 11, 12, 13, 14, 15, 16, 17, 18, 19, 20, 21, 22, 23, 24] (faultOf_ok l N hN2 g j q S hs (1650553376) 0 0 0 0 tx_ok3 (v := 4) (by rw [tx_v3]; decide)) ⟨_, _, hZ⟩ F hN hJ hO ⟨zw_990, zw_840, zw_935, ⟨by decide, by decide⟩, by decide +kernel⟩ zw_989 hP hD hS rfl rfl rfl (by decide) (fun _ => rfl) (by decide) rfl hl.1 (rest := []) rfl (Nat.le_of_ble_eq_true rfl) ⟨rfl, rfl⟩ ⟨Nat.le_of_ble_eq_true rfl, Nat.le_of_ble_eq_true rfl⟩ ⟨Nat.le_of_ble_eq_true rfl, Nat.le_of_ble_eq_true rfl⟩ dL_texts_49 (st1 := [.int 4]) rfl (fun K H locs hZ hP hD hS => ?_)
  refine lv_iconst (v := 4) hx hb dL_texts_52 (by decide) ?_
  refine lv_icmp_eq (tgt := 58) hx hb dL_texts_53 (by decide) (fun _ => ?_) (fun q9 => absurd q9 (by decide))
  refine lv_aload_n hx hb dL_texts_58 rfl (lv_at hl 0 rfl) ?_
  refine lv_ldc2 hx hb F.1.2.2.2.1 (hz _ zw_939) dL_texts_59 ?_
  refine lv_ldc2 hx hb F.1.2.2.2.1 (hz _ zw_940) dL_texts_62 ?_
  refine lv_lconst (v := 0) hx hb dL_texts_65 (by decide) ?_
  refine lv_lconst (v := 0) hx hb dL_texts_66 (by decide) ?_
  refine lv_lconst (v := 0) hx hb dL_texts_67 (by decide) ?_
  refine zcu (n := 6) [] [] [0, 1, 2, 3, 4, 5, 6, 7, 8, 9, 10, 11, 12, 13, 14, 15, 16, 17, 18, 19, 20, 21, 22, 23, 24] [0, 1, 2, 3, 4, 5, 6, 7, 8, 9, 10, 11, 12, 13, 14, 15, 16, 17, 18, 19, 20, 21, 22, 23, 24] (faultOf_ok l N hN2 g j q S hs (7089072771046597998) (100) 0 0 0 tx_ok4 (v := (-1000)) (by rw [tx_v4]; decide)) ⟨_, _, hZ⟩ F hN hJ hO ⟨zw_990, zw_840, zw_935, ⟨by decide, by decide⟩, by decide +kernel⟩ zw_989 hP hD hS rfl rfl rfl (by decide) (fun _ => rfl) (by decide) rfl hl.1 (rest := []) rfl (Nat.le_of_ble_eq_true rfl) ⟨rfl, rfl⟩ ⟨Nat.le_of_ble_eq_true rfl, Nat.le_of_ble_eq_true rfl⟩ ⟨Nat.le_of_ble_eq_true rfl, Nat.le_of_ble_eq_true rfl⟩ dL_texts_68 (st1 := [.int (-1000)]) rfl (fun K H locs hZ hP hD hS => ?_)
  refine lv_sipush (v := (-1000)) hx hb dL_texts_71 (by decide) ?_
  refine lv_icmp_ne (tgt := 131) hx hb dL_texts_74 (by decide) (fun q9 => absurd q9 (by decide)) (fun _ => ?_)
  refine lv_aload_n hx hb dL_texts_77 rfl (lv_at hl 0 rfl) ?_
  refine lv_ldc2 hx hb F.1.2.2.2.1 (hz _ zw_939) dL_texts_78 ?_
  refine lv_ldc2 hx hb F.1.2.2.2.1 (hz _ zw_941) dL_texts_81 ?_
  refine lv_lconst (v := 0) hx hb dL_texts_84 (by decide) ?_
  refine lv_lconst (v := 0) hx hb dL_texts_85 (by decide) ?_
  refine lv_lconst (v := 0) hx hb dL_texts_86 (by decide) ?_
  refine zcu (n := 6) [] [] [0, 1, 2, 3, 4, 5, 6, 7, 8, 9, 10, 11, 12, 13, 14, 15, 16, 17, 18, 19, 20, 21, 22, 23, 24] [0, 1, 2, 3, 4, 5, 6, 7, 8, 9, 10, 11, 12, 13, 14, 15, 16, 17, 18, 19, 20, 21, 22, 23, 24] (faultOf_ok l N hN2 g j q S hs (7089072771046597998) (6561912) 0 0 0 tx_ok5 (v := 10) (by rw [tx_v5]; decide)) ⟨_, _, hZ⟩ F hN hJ hO ⟨zw_990, zw_840, zw_935, ⟨by decide, by decide⟩, by decide +kernel⟩ zw_989 hP hD hS rfl rfl rfl (by decide) (fun _ => rfl) (by decide) rfl hl.1 (rest := []) rfl (Nat.le_of_ble_eq_true rfl) ⟨rfl, rfl⟩ ⟨Nat.le_of_ble_eq_true rfl, Nat.le_of_ble_eq_true rfl⟩ ⟨Nat.le_of_ble_eq_true rfl, Nat.le_of_ble_eq_true rfl⟩ dL_texts_87 (st1 := [.int 10]) rfl (fun K H locs hZ hP hD hS => ?_)
  refine lv_bipush (v := 10) hx hb dL_texts_90 (by decide) ?_
  refine lv_icmp_ne (tgt := 131) hx hb dL_texts_92 (by decide) (fun q9 => absurd q9 (by decide)) (fun _ => ?_)
  refine lv_aload_n hx hb dL_texts_95 rfl (lv_at hl 0 rfl) ?_
  refine lv_ldc2 hx hb F.1.2.2.2.1 (hz _ zw_942) dL_texts_96 ?_
  refine lv_ldc2 hx hb F.1.2.2.2.1 (hz _ zw_943) dL_texts_99 ?_
  refine lv_lconst (v := 0) hx hb dL_texts_102 (by decide) ?_
  refine lv_lconst (v := 0) hx hb dL_texts_103 (by decide) ?_
  refine lv_lconst (v := 0) hx hb dL_texts_104 (by decide) ?_
  refine zcu (n := 6) [] [] [0, 1, 2, 3, 4, 5, 6, 7, 8, 9, 10, 11, 12, 13, 14, 15, 16, 17, 18, 19, 20, 21, 22, 23, 24] [0, 1, 2, 3, 4, 5, 6, 7, 8, 9, 10, 11, 12, 13, 14, 15, 16, 17, 18, 19, 20, 21, 22, 23, 24] (faultOf_ok l N hN2 g j q S hs (7089072771047632944) (543518308) 0 0 0 tx_ok6 (v := 4) (by rw [tx_v6]; decide)) ⟨_, _, hZ⟩ F hN hJ hO ⟨zw_990, zw_840, zw_935, ⟨by decide, by decide⟩, by decide +kernel⟩ zw_989 hP hD hS rfl rfl rfl (by decide) (fun _ => rfl) (by decide) rfl hl.1 (rest := []) rfl (Nat.le_of_ble_eq_true rfl) ⟨rfl, rfl⟩ ⟨Nat.le_of_ble_eq_true rfl, Nat.le_of_ble_eq_true rfl⟩ ⟨Nat.le_of_ble_eq_true rfl, Nat.le_of_ble_eq_true rfl⟩ dL_texts_105 (st1 := [.int 4]) rfl (fun K H locs hZ hP hD hS => ?_)
  refine lv_iconst (v := 4) hx hb dL_texts_108 (by decide) ?_
  refine lv_icmp_ne (tgt := 131) hx hb dL_texts_109 (by decide) (fun q9 => absurd q9 (by decide)) (fun _ => ?_)
  refine lv_aload_n hx hb dL_texts_112 rfl (lv_at hl 0 rfl) ?_
  refine lv_ldc2 hx hb F.1.2.2.2.1 (hz _ zw_944) dL_texts_113 ?_
  refine lv_ldc2 hx hb F.1.2.2.2.1 (hz _ zw_945) dL_texts_116 ?_
  refine lv_lconst (v := 0) hx hb dL_texts_119 (by decide) ?_
  refine lv_lconst (v := 0) hx hb dL_texts_120 (by decide) ?_
  refine lv_lconst (v := 0) hx hb dL_texts_121 (by decide) ?_
  refine zcu (n := 6) [] [] [0, 1, 2, 3, 4, 5, 6, 7, 8, 9, 10, 11, 12, 13, 14, 15, 16, 17, 18, 19, 20, 21, 22, 23, 24] [0, 1, 2, 3, 4, 5, 6, 7, 8, 9, 10, 11, 12, 13, 14, 15, 16, 17, 18, 19, 20, 21, 22, 23, 24] (faultOf_ok l N hN2 g j q S hs (7089072771046600560) (111523664326244) 0 0 0 tx_ok7 (v := (-1000)) (by rw [tx_v7]; decide)) ⟨_, _, hZ⟩ F hN hJ hO ⟨zw_990, zw_840, zw_935, ⟨by decide, by decide⟩, by decide +kernel⟩ zw_989 hP hD hS rfl rfl rfl (by decide) (fun _ => rfl) (by decide) rfl hl.1 (rest := []) rfl (Nat.le_of_ble_eq_true rfl) ⟨rfl, rfl⟩ ⟨Nat.le_of_ble_eq_true rfl, Nat.le_of_ble_eq_true rfl⟩ ⟨Nat.le_of_ble_eq_true rfl, Nat.le_of_ble_eq_true rfl⟩ dL_texts_122 (st1 := [.int (-1000)]) rfl (fun K H locs hZ hP hD hS => ?_)
  refine lv_sipush (v := (-1000)) hx hb dL_texts_125 (by decide) ?_
  refine lv_icmp_eq (tgt := 133) hx hb dL_texts_128 (by decide) (fun _ => ?_) (fun q9 => absurd q9 (by decide))
  refine lv_aload_n hx hb dL_texts_133 rfl (lv_at hl 0 rfl) ?_
  refine lv_ldc2 hx hb F.1.2.2.2.1 (hz _ zw_939) dL_texts_134 ?_
  refine lv_ldc2 hx hb F.1.2.2.2.1 (hz _ zw_946) dL_texts_137 ?_
  refine lv_ldc2 hx hb F.1.2.2.2.1 (hz _ zw_947) dL_texts_140 ?_
  refine lv_lconst (v := 0) hx hb dL_texts_143 (by decide) ?_
  refine lv_lconst (v := 0) hx hb dL_texts_144 (by decide) ?_
  refine zcu (n := 6) [] [] [0, 1, 2, 3, 4, 5, 6, 7, 8, 9, 10, 11, 12, 13, 14, 15, 16, 17, 18, 19, 20, 21, 22, 23, 24] [0, 1, 2, 3, 4, 5, 6, 7, 8, 9, 10, 11, 12, 13, 14, 15, 16, 17, 18, 19, 20, 21, 22, 23, 24] (faultOf_ok l N hN2 g j q S hs (7089072771046597998) (7235435665548451941) (28260) 0 0 tx_ok8 (v := 13) (by rw [tx_v8]; decide)) ⟨_, _, hZ⟩ F hN hJ hO ⟨zw_990, zw_840, zw_935, ⟨by decide, by decide⟩, by decide +kernel⟩ zw_989 hP hD hS rfl rfl rfl (by decide) (fun _ => rfl) (by decide) rfl hl.1 (rest := []) rfl (Nat.le_of_ble_eq_true rfl) ⟨rfl, rfl⟩ ⟨Nat.le_of_ble_eq_true rfl, Nat.le_of_ble_eq_true rfl⟩ ⟨Nat.le_of_ble_eq_true rfl, Nat.le_of_ble_eq_true rfl⟩ dL_texts_145 (st1 := [.int 13]) rfl (fun K H locs hZ hP hD hS => ?_)
  refine lv_bipush (v := 13) hx hb dL_texts_148 (by decide) ?_
  refine lv_icmp_ne (tgt := 211) hx hb dL_texts_150 (by decide) (fun q9 => absurd q9 (by decide)) (fun _ => ?_)
  exact kk _ _ _ _ ⟨_, _, hZ⟩ hP hD hS hl
set_option maxHeartbeats 8000000 in
set_option maxRecDepth 100000 in
theorem tx_s1 (hN2 : 20000 ≤ N) (F : zF p m c cL_texts 1 s args RL g A) (hN : zN s) (hJ : va_K (zD g) vwCl (zJT j) s) (hO : zO4 s) (hZ : ∃ L T, zC S hs L T K) (hP : va_P (zD g) vwCl (zcW g q K) H) (hD : va_D A (zcW g q K)) (hS : va_S A s.heap H locs) (hl : lv_has ls 1 [(0, .ref (q 0))])
    (kk : ∀ (K : zKT) (H : Heap) (locs : List Loc) (ls : Array Slot), (∃ L T, zC S hs L T K) → va_P (zD g) vwCl (zcW g q K) H → va_D A (zcW g q K) → va_S A s.heap H locs → lv_has ls 1 [(0, .ref (q 0))] → W p l e rm_L_texts s m args below meth c H locs 0 0 Q (F0 m 343 ls [])) : W p l e rm_L_texts s m args below meth c H locs 0 0 Q (F0 m 153 ls []) := by
  have hx := F.1.1
  have hb := F.1.2.1
  have hz := F.1.2.2.2.2
  refine lv_aload_n hx hb dL_texts_153 rfl (lv_at hl 0 rfl) ?_
  refine lv_ldc2 hx hb F.1.2.2.2.1 (hz _ zw_939) dL_texts_154 ?_
  refine lv_ldc2 hx hb F.1.2.2.2.1 (hz _ zw_948) dL_texts_157 ?_
  refine lv_lconst (v := 0) hx hb dL_texts_160 (by decide) ?_
  refine lv_lconst (v := 0) hx hb dL_texts_161 (by decide) ?_
  refine lv_lconst (v := 0) hx hb dL_texts_162 (by decide) ?_
  refine zcu (n := 6) [] [] [0, 1, 2, 3, 4, 5, 6, 7, 8, 9, 10, 11, 12, 13, 14, 15, 16, 17, 18, 19, 20, 21, 22, 23, 24] [0, 1, 2, 3, 4, 5, 6, 7, 8, 9, 10, 11, 12, 13, 14, 15, 16, 17, 18, 19, 20, 21, 22, 23, 24] (faultOf_ok l N hN2 g j q S hs (7089072771046597998) (7235435665551617636) 0 0 0 tx_ok9 (v := 13) (by rw [tx_v9]; decide)) hZ F hN hJ hO ⟨zw_990, zw_840, zw_935, ⟨by decide, by decide⟩, by decide +kernel⟩ zw_989 hP hD hS rfl rfl rfl (by decide) (fun _ => rfl) (by decide) rfl hl.1 (rest := []) rfl (Nat.le_of_ble_eq_true rfl) ⟨rfl, rfl⟩ ⟨Nat.le_of_ble_eq_true rfl, Nat.le_of_ble_eq_true rfl⟩ ⟨Nat.le_of_ble_eq_true rfl, Nat.le_of_ble_eq_true rfl⟩ dL_texts_163 (st1 := [.int 13]) rfl (fun K H locs hZ hP hD hS => ?_)
  refine lv_bipush (v := 13) hx hb dL_texts_166 (by decide) ?_
  refine lv_icmp_ne (tgt := 211) hx hb dL_texts_168 (by decide) (fun q9 => absurd q9 (by decide)) (fun _ => ?_)
  refine lv_aload_n hx hb dL_texts_171 rfl (lv_at hl 0 rfl) ?_
  refine lv_ldc2 hx hb F.1.2.2.2.1 (hz _ zw_949) dL_texts_172 ?_
  refine lv_ldc2 hx hb F.1.2.2.2.1 (hz _ zw_950) dL_texts_175 ?_
  refine lv_ldc2 hx hb F.1.2.2.2.1 (hz _ zw_943) dL_texts_178 ?_
  refine lv_lconst (v := 0) hx hb dL_texts_181 (by decide) ?_
  refine lv_lconst (v := 0) hx hb dL_texts_182 (by decide) ?_
  refine zcu (n := 6) [] [] [0, 1, 2, 3, 4, 5, 6, 7, 8, 9, 10, 11, 12, 13, 14, 15, 16, 17, 18, 19, 20, 21, 22, 23, 24] [0, 1, 2, 3, 4, 5, 6, 7, 8, 9, 10, 11, 12, 13, 14, 15, 16, 17, 18, 19, 20, 21, 22, 23, 24] (faultOf_ok l N hN2 g j q S hs (7089072771046599525) (8728028993559486836) (543518308) 0 0 tx_ok10 (v := 10) (by rw [tx_v10]; decide)) ⟨_, _, hZ⟩ F hN hJ hO ⟨zw_990, zw_840, zw_935, ⟨by decide, by decide⟩, by decide +kernel⟩ zw_989 hP hD hS rfl rfl rfl (by decide) (fun _ => rfl) (by decide) rfl hl.1 (rest := []) rfl (Nat.le_of_ble_eq_true rfl) ⟨rfl, rfl⟩ ⟨Nat.le_of_ble_eq_true rfl, Nat.le_of_ble_eq_true rfl⟩ ⟨Nat.le_of_ble_eq_true rfl, Nat.le_of_ble_eq_true rfl⟩ dL_texts_183 (st1 := [.int 10]) rfl (fun K H locs hZ hP hD hS => ?_)
  refine lv_bipush (v := 10) hx hb dL_texts_186 (by decide) ?_
  refine lv_icmp_ne (tgt := 211) hx hb dL_texts_188 (by decide) (fun q9 => absurd q9 (by decide)) (fun _ => ?_)
  refine lv_aload_n hx hb dL_texts_191 rfl (lv_at hl 0 rfl) ?_
  refine lv_ldc2 hx hb F.1.2.2.2.1 (hz _ zw_949) dL_texts_192 ?_
  refine lv_ldc2 hx hb F.1.2.2.2.1 (hz _ zw_951) dL_texts_195 ?_
  refine lv_ldc2 hx hb F.1.2.2.2.1 (hz _ zw_952) dL_texts_198 ?_
  refine lv_lconst (v := 0) hx hb dL_texts_201 (by decide) ?_
  refine lv_lconst (v := 0) hx hb dL_texts_202 (by decide) ?_
  refine zcu (n := 6) [] [] [0, 1, 2, 3, 4, 5, 6, 7, 8, 9, 10, 11, 12, 13, 14, 15, 16, 17, 18, 19, 20, 21, 22, 23, 24] [0, 1, 2, 3, 4, 5, 6, 7, 8, 9, 10, 11, 12, 13, 14, 15, 16, 17, 18, 19, 20, 21, 22, 23, 24] (faultOf_ok l N hN2 g j q S hs (7089072771046599525) (8728032292262142313) (472989920868) 0 0 tx_ok11 (v := 12) (by rw [tx_v11]; decide)) ⟨_, _, hZ⟩ F hN hJ hO ⟨zw_990, zw_840, zw_935, ⟨by decide, by decide⟩, by decide +kernel⟩ zw_989 hP hD hS rfl rfl rfl (by decide) (fun _ => rfl) (by decide) rfl hl.1 (rest := []) rfl (Nat.le_of_ble_eq_true rfl) ⟨rfl, rfl⟩ ⟨Nat.le_of_ble_eq_true rfl, Nat.le_of_ble_eq_true rfl⟩ ⟨Nat.le_of_ble_eq_true rfl, Nat.le_of_ble_eq_true rfl⟩ dL_texts_203 (st1 := [.int 12]) rfl (fun K H locs hZ hP hD hS => ?_)
  refine lv_bipush (v := 12) hx hb dL_texts_206 (by decide) ?_
  refine lv_icmp_eq (tgt := 213) hx hb dL_texts_208 (by decide) (fun _ => ?_) (fun q9 => absurd q9 (by decide))
  refine lv_aload_n hx hb dL_texts_213 rfl (lv_at hl 0 rfl) ?_
  refine lv_ldc2 hx hb F.1.2.2.2.1 (hz _ zw_949) dL_texts_214 ?_
  refine lv_ldc2 hx hb F.1.2.2.2.1 (hz _ zw_953) dL_texts_217 ?_
  refine lv_ldc2 hx hb F.1.2.2.2.1 (hz _ zw_943) dL_texts_220 ?_
  refine lv_lconst (v := 0) hx hb dL_texts_223 (by decide) ?_
  refine lv_lconst (v := 0) hx hb dL_texts_224 (by decide) ?_
  refine zcu (n := 6) [] [] [0, 1, 2, 3, 4, 5, 6, 7, 8, 9, 10, 11, 12, 13, 14, 15, 16, 17, 18, 19, 20, 21, 22, 23, 24] [0, 1, 2, 3, 4, 5, 6, 7, 8, 9, 10, 11, 12, 13, 14, 15, 16, 17, 18, 19, 20, 21, 22, 23, 24] (faultOf_ok l N hN2 g j q S hs (7089072771046599525) (8728037789652509044) (543518308) 0 0 tx_ok12 (v := 10) (by rw [tx_v12]; decide)) ⟨_, _, hZ⟩ F hN hJ hO ⟨zw_990, zw_840, zw_935, ⟨by decide, by decide⟩, by decide +kernel⟩ zw_989 hP hD hS rfl rfl rfl (by decide) (fun _ => rfl) (by decide) rfl hl.1 (rest := []) rfl (Nat.le_of_ble_eq_true rfl) ⟨rfl, rfl⟩ ⟨Nat.le_of_ble_eq_true rfl, Nat.le_of_ble_eq_true rfl⟩ ⟨Nat.le_of_ble_eq_true rfl, Nat.le_of_ble_eq_true rfl⟩ dL_texts_225 (st1 := [.int 10]) rfl (fun K H locs hZ hP hD hS => ?_)
  refine lv_bipush (v := 10) hx hb dL_texts_228 (by decide) ?_
  refine lv_icmp_ne (tgt := 297) hx hb dL_texts_230 (by decide) (fun q9 => absurd q9 (by decide)) (fun _ => ?_)
  refine lv_aload_n hx hb dL_texts_233 rfl (lv_at hl 0 rfl) ?_
  refine lv_ldc2 hx hb F.1.2.2.2.1 (hz _ zw_954) dL_texts_234 ?_
  refine lv_ldc2 hx hb F.1.2.2.2.1 (hz _ zw_955) dL_texts_237 ?_
  refine lv_ldc2 hx hb F.1.2.2.2.1 (hz _ zw_947) dL_texts_240 ?_
  refine lv_lconst (v := 0) hx hb dL_texts_243 (by decide) ?_
  refine lv_lconst (v := 0) hx hb dL_texts_244 (by decide) ?_
  refine zcu (n := 6) [] [] [0, 1, 2, 3, 4, 5, 6, 7, 8, 9, 10, 11, 12, 13, 14, 15, 16, 17, 18, 19, 20, 21, 22, 23, 24] [0, 1, 2, 3, 4, 5, 6, 7, 8, 9, 10, 11, 12, 13, 14, 15, 16, 17, 18, 19, 20, 21, 22, 23, 24] (faultOf_ok l N hN2 g j q S hs (7089072771046601833) (7882742131032531045) (28260) 0 0 tx_ok13 (v := 13) (by rw [tx_v13]; decide)) ⟨_, _, hZ⟩ F hN hJ hO ⟨zw_990, zw_840, zw_935, ⟨by decide, by decide⟩, by decide +kernel⟩ zw_989 hP hD hS rfl rfl rfl (by decide) (fun _ => rfl) (by decide) rfl hl.1 (rest := []) rfl (Nat.le_of_ble_eq_true rfl) ⟨rfl, rfl⟩ ⟨Nat.le_of_ble_eq_true rfl, Nat.le_of_ble_eq_true rfl⟩ ⟨Nat.le_of_ble_eq_true rfl, Nat.le_of_ble_eq_true rfl⟩ dL_texts_245 (st1 := [.int 13]) rfl (fun K H locs hZ hP hD hS => ?_)
  refine lv_bipush (v := 13) hx hb dL_texts_248 (by decide) ?_
  refine lv_icmp_ne (tgt := 297) hx hb dL_texts_250 (by decide) (fun q9 => absurd q9 (by decide)) (fun _ => ?_)
  refine lv_aload_n hx hb dL_texts_253 rfl (lv_at hl 0 rfl) ?_
  refine lv_ldc2 hx hb F.1.2.2.2.1 (hz _ zw_954) dL_texts_254 ?_
  refine lv_ldc2 hx hb F.1.2.2.2.1 (hz _ zw_956) dL_texts_257 ?_
  refine lv_ldc2 hx hb F.1.2.2.2.1 (hz _ zw_957) dL_texts_260 ?_
  refine lv_lconst (v := 0) hx hb dL_texts_263 (by decide) ?_
  refine lv_lconst (v := 0) hx hb dL_texts_264 (by decide) ?_
  refine zcu (n := 6) [] [] [0, 1, 2, 3, 4, 5, 6, 7, 8, 9, 10, 11, 12, 13, 14, 15, 16, 17, 18, 19, 20, 21, 22, 23, 24] [0, 1, 2, 3, 4, 5, 6, 7, 8, 9, 10, 11, 12, 13, 14, 15, 16, 17, 18, 19, 20, 21, 22, 23, 24] (faultOf_ok l N hN2 g j q S hs (7089072771046601833) (7882742118465156128) (6647396) 0 0 tx_ok14 (v := 11) (by rw [tx_v14]; decide)) ⟨_, _, hZ⟩ F hN hJ hO ⟨zw_990, zw_840, zw_935, ⟨by decide, by decide⟩, by decide +kernel⟩ zw_989 hP hD hS rfl rfl rfl (by decide) (fun _ => rfl) (by decide) rfl hl.1 (rest := []) rfl (Nat.le_of_ble_eq_true rfl) ⟨rfl, rfl⟩ ⟨Nat.le_of_ble_eq_true rfl, Nat.le_of_ble_eq_true rfl⟩ ⟨Nat.le_of_ble_eq_true rfl, Nat.le_of_ble_eq_true rfl⟩ dL_texts_265 (st1 := [.int 11]) rfl (fun K H locs hZ hP hD hS => ?_)
  refine lv_bipush (v := 11) hx hb dL_texts_268 (by decide) ?_
  refine lv_icmp_ne (tgt := 297) hx hb dL_texts_270 (by decide) (fun q9 => absurd q9 (by decide)) (fun _ => ?_)
  refine lv_aload_n hx hb dL_texts_273 rfl (lv_at hl 0 rfl) ?_
  refine lv_ldc2 hx hb F.1.2.2.2.1 (hz _ zw_958) dL_texts_274 ?_
  refine lv_ldc2 hx hb F.1.2.2.2.1 (hz _ zw_959) dL_texts_277 ?_
  refine lv_ldc2 hx hb F.1.2.2.2.1 (hz _ zw_960) dL_texts_280 ?_
  refine lv_ldc2 hx hb F.1.2.2.2.1 (hz _ zw_961) dL_texts_283 ?_
  refine lv_ldc2 hx hb F.1.2.2.2.1 (hz _ zw_962) dL_texts_286 ?_
  refine zcu (n := 6) [] [] [0, 1, 2, 3, 4, 5, 6, 7, 8, 9, 10, 11, 12, 13, 14, 15, 16, 17, 18, 19, 20, 21, 22, 23, 24] [0, 1, 2, 3, 4, 5, 6, 7, 8, 9, 10, 11, 12, 13, 14, 15, 16, 17, 18, 19, 20, 21, 22, 23, 24] (faultOf_ok l N hN2 g j q S hs (7089072771046602351) (7594024585631134309) (8319310044343330336) (8534155694509666592) (1919251316) tx_ok15 (v := 24) (by rw [tx_v15]; decide)) ⟨_, _, hZ⟩ F hN hJ hO ⟨zw_990, zw_840, zw_935, ⟨by decide, by decide⟩, by decide +kernel⟩ zw_989 hP hD hS rfl rfl rfl (by decide) (fun _ => rfl) (by decide) rfl hl.1 (rest := []) rfl (Nat.le_of_ble_eq_true rfl) ⟨rfl, rfl⟩ ⟨Nat.le_of_ble_eq_true rfl, Nat.le_of_ble_eq_true rfl⟩ ⟨Nat.le_of_ble_eq_true rfl, Nat.le_of_ble_eq_true rfl⟩ dL_texts_289 (st1 := [.int 24]) rfl (fun K H locs hZ hP hD hS => ?_)
  refine lv_bipush (v := 24) hx hb dL_texts_292 (by decide) ?_
  refine lv_icmp_eq (tgt := 299) hx hb dL_texts_294 (by decide) (fun _ => ?_) (fun q9 => absurd q9 (by decide))
  refine lv_aload_n hx hb dL_texts_299 rfl (lv_at hl 0 rfl) ?_
  refine lv_ldc2 hx hb F.1.2.2.2.1 (hz _ zw_958) dL_texts_300 ?_
  refine lv_ldc2 hx hb F.1.2.2.2.1 (hz _ zw_963) dL_texts_303 ?_
  refine lv_ldc2 hx hb F.1.2.2.2.1 (hz _ zw_960) dL_texts_306 ?_
  refine lv_ldc2 hx hb F.1.2.2.2.1 (hz _ zw_961) dL_texts_309 ?_
  refine lv_ldc2 hx hb F.1.2.2.2.1 (hz _ zw_962) dL_texts_312 ?_
  refine zcu (n := 6) [] [] [0, 1, 2, 3, 4, 5, 6, 7, 8, 9, 10, 11, 12, 13, 14, 15, 16, 17, 18, 19, 20, 21, 22, 23, 24] [0, 1, 2, 3, 4, 5, 6, 7, 8, 9, 10, 11, 12, 13, 14, 15, 16, 17, 18, 19, 20, 21, 22, 23, 24] (faultOf_ok l N hN2 g j q S hs (7089072771046602351) (7594024585614357093) (8319310044343330336) (8534155694509666592) (1919251316) tx_ok16 (v := 30) (by rw [tx_v16]; decide)) ⟨_, _, hZ⟩ F hN hJ hO ⟨zw_990, zw_840, zw_935, ⟨by decide, by decide⟩, by decide +kernel⟩ zw_989 hP hD hS rfl rfl rfl (by decide) (fun _ => rfl) (by decide) rfl hl.1 (rest := []) rfl (Nat.le_of_ble_eq_true rfl) ⟨rfl, rfl⟩ ⟨Nat.le_of_ble_eq_true rfl, Nat.le_of_ble_eq_true rfl⟩ ⟨Nat.le_of_ble_eq_true rfl, Nat.le_of_ble_eq_true rfl⟩ dL_texts_315 (st1 := [.int 30]) rfl (fun K H locs hZ hP hD hS => ?_)
  refine lv_bipush (v := 30) hx hb dL_texts_318 (by decide) ?_
  refine lv_icmp_ne (tgt := 387) hx hb dL_texts_320 (by decide) (fun q9 => absurd q9 (by decide)) (fun _ => ?_)
  refine lv_aload_n hx hb dL_texts_323 rfl (lv_at hl 0 rfl) ?_
  refine lv_ldc2 hx hb F.1.2.2.2.1 (hz _ zw_958) dL_texts_324 ?_
  refine lv_ldc2 hx hb F.1.2.2.2.1 (hz _ zw_964) dL_texts_327 ?_
  refine lv_ldc2 hx hb F.1.2.2.2.1 (hz _ zw_940) dL_texts_330 ?_
  refine lv_lconst (v := 0) hx hb dL_texts_333 (by decide) ?_
  refine lv_lconst (v := 0) hx hb dL_texts_334 (by decide) ?_
  refine zcu (n := 6) [] [] [0, 1, 2, 3, 4, 5, 6, 7, 8, 9, 10, 11, 12, 13, 14, 15, 16, 17, 18, 19, 20, 21, 22, 23, 24] [0, 1, 2, 3, 4, 5, 6, 7, 8, 9, 10, 11, 12, 13, 14, 15, 16, 17, 18, 19, 20, 21, 22, 23, 24] (faultOf_ok l N hN2 g j q S hs (7089072771046602351) (7594024585614353774) (100) 0 0 tx_ok17 (v := 14) (by rw [tx_v17]; decide)) ⟨_, _, hZ⟩ F hN hJ hO ⟨zw_990, zw_840, zw_935, ⟨by decide, by decide⟩, by decide +kernel⟩ zw_989 hP hD hS rfl rfl rfl (by decide) (fun _ => rfl) (by decide) rfl hl.1 (rest := []) rfl (Nat.le_of_ble_eq_true rfl) ⟨rfl, rfl⟩ ⟨Nat.le_of_ble_eq_true rfl, Nat.le_of_ble_eq_true rfl⟩ ⟨Nat.le_of_ble_eq_true rfl, Nat.le_of_ble_eq_true rfl⟩ dL_texts_335 (st1 := [.int 14]) rfl (fun K H locs hZ hP hD hS => ?_)
  refine lv_bipush (v := 14) hx hb dL_texts_338 (by decide) ?_
  refine lv_icmp_ne (tgt := 387) hx hb dL_texts_340 (by decide) (fun q9 => absurd q9 (by decide)) (fun _ => ?_)
  exact kk _ _ _ _ ⟨_, _, hZ⟩ hP hD hS hl
set_option maxHeartbeats 8000000 in
set_option maxRecDepth 100000 in
theorem tx_s2 (hN2 : 20000 ≤ N) (F : zF p m c cL_texts 1 s args RL g A) (hN : zN s) (hJ : va_K (zD g) vwCl (zJT j) s) (hO : zO4 s) (hZ : ∃ L T, zC S hs L T K) (hP : va_P (zD g) vwCl (zcW g q K) H) (hD : va_D A (zcW g q K)) (hS : va_S A s.heap H locs) (hl : lv_has ls 1 [(0, .ref (q 0))])
    (kk : ∀ (K : zKT) (H : Heap) (locs : List Loc) (ls : Array Slot), (∃ L T, zC S hs L T K) → va_P (zD g) vwCl (zcW g q K) H → va_D A (zcW g q K) → va_S A s.heap H locs → lv_has ls 1 [(0, .ref (q 0))] → W p l e rm_L_texts s m args below meth c H locs 0 0 Q (F0 m 538 ls [])) : W p l e rm_L_texts s m args below meth c H locs 0 0 Q (F0 m 343 ls []) := by
  have hx := F.1.1
  have hb := F.1.2.1
  have hz := F.1.2.2.2.2
  refine lv_aload_n hx hb dL_texts_343 rfl (lv_at hl 0 rfl) ?_
  refine lv_ldc2 hx hb F.1.2.2.2.1 (hz _ zw_958) dL_texts_344 ?_
  refine lv_ldc2 hx hb F.1.2.2.2.1 (hz _ zw_965) dL_texts_347 ?_
  refine lv_ldc2 hx hb F.1.2.2.2.1 (hz _ zw_966) dL_texts_350 ?_
  refine lv_ldc2 hx hb F.1.2.2.2.1 (hz _ zw_957) dL_texts_353 ?_
  refine lv_lconst (v := 0) hx hb dL_texts_356 (by decide) ?_
  refine zcu (n := 6) [] [] [0, 1, 2, 3, 4, 5, 6, 7, 8, 9, 10, 11, 12, 13, 14, 15, 16, 17, 18, 19, 20, 21, 22, 23, 24] [0, 1, 2, 3, 4, 5, 6, 7, 8, 9, 10, 11, 12, 13, 14, 15, 16, 17, 18, 19, 20, 21, 22, 23, 24] (faultOf_ok l N hN2 g j q S hs (7089072771046602351) (7594024585614353184) (8175547842767974944) (6647396) 0 tx_ok18 (v := 16) (by rw [tx_v18]; decide)) hZ F hN hJ hO ⟨zw_990, zw_840, zw_935, ⟨by decide, by decide⟩, by decide +kernel⟩ zw_989 hP hD hS rfl rfl rfl (by decide) (fun _ => rfl) (by decide) rfl hl.1 (rest := []) rfl (Nat.le_of_ble_eq_true rfl) ⟨rfl, rfl⟩ ⟨Nat.le_of_ble_eq_true rfl, Nat.le_of_ble_eq_true rfl⟩ ⟨Nat.le_of_ble_eq_true rfl, Nat.le_of_ble_eq_true rfl⟩ dL_texts_357 (st1 := [.int 16]) rfl (fun K H locs hZ hP hD hS => ?_)
  refine lv_bipush (v := 16) hx hb dL_texts_360 (by decide) ?_
  refine lv_icmp_ne (tgt := 387) hx hb dL_texts_362 (by decide) (fun q9 => absurd q9 (by decide)) (fun _ => ?_)
  refine lv_aload_n hx hb dL_texts_365 rfl (lv_at hl 0 rfl) ?_
  refine lv_ldc2 hx hb F.1.2.2.2.1 (hz _ zw_958) dL_texts_366 ?_
  refine lv_ldc2 hx hb F.1.2.2.2.1 (hz _ zw_967) dL_texts_369 ?_
  refine lv_ldc2 hx hb F.1.2.2.2.1 (hz _ zw_968) dL_texts_372 ?_
  refine lv_ldc2 hx hb F.1.2.2.2.1 (hz _ zw_969) dL_texts_375 ?_
  refine lv_lconst (v := 0) hx hb dL_texts_378 (by decide) ?_
  refine zcu (n := 6) [] [] [0, 1, 2, 3, 4, 5, 6, 7, 8, 9, 10, 11, 12, 13, 14, 15, 16, 17, 18, 19, 20, 21, 22, 23, 24] [0, 1, 2, 3, 4, 5, 6, 7, 8, 9, 10, 11, 12, 13, 14, 15, 16, 17, 18, 19, 20, 21, 22, 23, 24] (faultOf_ok l N hN2 g j q S hs (7089072771046602351) (7594024585614354464) (3756126838186996837) (114) 0 tx_ok19 (v := 14) (by rw [tx_v19]; decide)) ⟨_, _, hZ⟩ F hN hJ hO ⟨zw_990, zw_840, zw_935, ⟨by decide, by decide⟩, by decide +kernel⟩ zw_989 hP hD hS rfl rfl rfl (by decide) (fun _ => rfl) (by decide) rfl hl.1 (rest := []) rfl (Nat.le_of_ble_eq_true rfl) ⟨rfl, rfl⟩ ⟨Nat.le_of_ble_eq_true rfl, Nat.le_of_ble_eq_true rfl⟩ ⟨Nat.le_of_ble_eq_true rfl, Nat.le_of_ble_eq_true rfl⟩ dL_texts_379 (st1 := [.int 14]) rfl (fun K H locs hZ hP hD hS => ?_)
  refine lv_bipush (v := 14) hx hb dL_texts_382 (by decide) ?_
  refine lv_icmp_eq (tgt := 389) hx hb dL_texts_384 (by decide) (fun _ => ?_) (fun q9 => absurd q9 (by decide))
  refine lv_aload_n hx hb dL_texts_389 rfl (lv_at hl 0 rfl) ?_
  refine lv_ldc2 hx hb F.1.2.2.2.1 (hz _ zw_958) dL_texts_390 ?_
  refine lv_ldc2 hx hb F.1.2.2.2.1 (hz _ zw_965) dL_texts_393 ?_
  refine lv_ldc2 hx hb F.1.2.2.2.1 (hz _ zw_970) dL_texts_396 ?_
  refine lv_ldc2 hx hb F.1.2.2.2.1 (hz _ zw_969) dL_texts_399 ?_
  refine lv_lconst (v := 0) hx hb dL_texts_402 (by decide) ?_
  refine zcu (n := 6) [] [] [0, 1, 2, 3, 4, 5, 6, 7, 8, 9, 10, 11, 12, 13, 14, 15, 16, 17, 18, 19, 20, 21, 22, 23, 24] [0, 1, 2, 3, 4, 5, 6, 7, 8, 9, 10, 11, 12, 13, 14, 15, 16, 17, 18, 19, 20, 21, 22, 23, 24] (faultOf_ok l N hN2 g j q S hs (7089072771046602351) (7594024585614353184) (4116414808376636517) (114) 0 tx_ok20 (v := 16) (by rw [tx_v20]; decide)) ⟨_, _, hZ⟩ F hN hJ hO ⟨zw_990, zw_840, zw_935, ⟨by decide, by decide⟩, by decide +kernel⟩ zw_989 hP hD hS rfl rfl rfl (by decide) (fun _ => rfl) (by decide) rfl hl.1 (rest := []) rfl (Nat.le_of_ble_eq_true rfl) ⟨rfl, rfl⟩ ⟨Nat.le_of_ble_eq_true rfl, Nat.le_of_ble_eq_true rfl⟩ ⟨Nat.le_of_ble_eq_true rfl, Nat.le_of_ble_eq_true rfl⟩ dL_texts_403 (st1 := [.int 16]) rfl (fun K H locs hZ hP hD hS => ?_)
  refine lv_bipush (v := 16) hx hb dL_texts_406 (by decide) ?_
  refine lv_icmp_ne (tgt := 472) hx hb dL_texts_408 (by decide) (fun q9 => absurd q9 (by decide)) (fun _ => ?_)
  refine lv_aload_n hx hb dL_texts_411 rfl (lv_at hl 0 rfl) ?_
  refine lv_ldc2 hx hb F.1.2.2.2.1 (hz _ zw_958) dL_texts_412 ?_
  refine lv_ldc2 hx hb F.1.2.2.2.1 (hz _ zw_965) dL_texts_415 ?_
  refine lv_ldc2 hx hb F.1.2.2.2.1 (hz _ zw_971) dL_texts_418 ?_
  refine lv_ldc2 hx hb F.1.2.2.2.1 (hz _ zw_972) dL_texts_421 ?_
  refine lv_lconst (v := 0) hx hb dL_texts_424 (by decide) ?_
  refine zcu (n := 6) [] [] [0, 1, 2, 3, 4, 5, 6, 7, 8, 9, 10, 11, 12, 13, 14, 15, 16, 17, 18, 19, 20, 21, 22, 23, 24] [0, 1, 2, 3, 4, 5, 6, 7, 8, 9, 10, 11, 12, 13, 14, 15, 16, 17, 18, 19, 20, 21, 22, 23, 24] (faultOf_ok l N hN2 g j q S hs (7089072771046602351) (7594024585614353184) (3756128986056648037) (7959101285144555108) 0 tx_ok21 (v := 18) (by rw [tx_v21]; decide)) ⟨_, _, hZ⟩ F hN hJ hO ⟨zw_990, zw_840, zw_935, ⟨by decide, by decide⟩, by decide +kernel⟩ zw_989 hP hD hS rfl rfl rfl (by decide) (fun _ => rfl) (by decide) rfl hl.1 (rest := []) rfl (Nat.le_of_ble_eq_true rfl) ⟨rfl, rfl⟩ ⟨Nat.le_of_ble_eq_true rfl, Nat.le_of_ble_eq_true rfl⟩ ⟨Nat.le_of_ble_eq_true rfl, Nat.le_of_ble_eq_true rfl⟩ dL_texts_425 (st1 := [.int 18]) rfl (fun K H locs hZ hP hD hS => ?_)
  refine lv_bipush (v := 18) hx hb dL_texts_428 (by decide) ?_
  refine lv_icmp_ne (tgt := 472) hx hb dL_texts_430 (by decide) (fun q9 => absurd q9 (by decide)) (fun _ => ?_)
  refine lv_aload_n hx hb dL_texts_433 rfl (lv_at hl 0 rfl) ?_
  refine lv_ldc2 hx hb F.1.2.2.2.1 (hz _ zw_973) dL_texts_434 ?_
  refine lv_ldc2 hx hb F.1.2.2.2.1 (hz _ zw_974) dL_texts_437 ?_
  refine lv_lconst (v := 0) hx hb dL_texts_440 (by decide) ?_
  refine lv_lconst (v := 0) hx hb dL_texts_441 (by decide) ?_
  refine lv_lconst (v := 0) hx hb dL_texts_442 (by decide) ?_
  refine zcu (n := 6) [] [] [0, 1, 2, 3, 4, 5, 6, 7, 8, 9, 10, 11, 12, 13, 14, 15, 16, 17, 18, 19, 20, 21, 22, 23, 24] [0, 1, 2, 3, 4, 5, 6, 7, 8, 9, 10, 11, 12, 13, 14, 15, 16, 17, 18, 19, 20, 21, 22, 23, 24] (faultOf_ok l N hN2 g j q S hs (7089072771046597217) (7163855027631910500) 0 0 0 tx_ok22 (v := 11) (by rw [tx_v22]; decide)) ⟨_, _, hZ⟩ F hN hJ hO ⟨zw_990, zw_840, zw_935, ⟨by decide, by decide⟩, by decide +kernel⟩ zw_989 hP hD hS rfl rfl rfl (by decide) (fun _ => rfl) (by decide) rfl hl.1 (rest := []) rfl (Nat.le_of_ble_eq_true rfl) ⟨rfl, rfl⟩ ⟨Nat.le_of_ble_eq_true rfl, Nat.le_of_ble_eq_true rfl⟩ ⟨Nat.le_of_ble_eq_true rfl, Nat.le_of_ble_eq_true rfl⟩ dL_texts_443 (st1 := [.int 11]) rfl (fun K H locs hZ hP hD hS => ?_)
  refine lv_bipush (v := 11) hx hb dL_texts_446 (by decide) ?_
  refine lv_icmp_ne (tgt := 472) hx hb dL_texts_448 (by decide) (fun q9 => absurd q9 (by decide)) (fun _ => ?_)
  refine lv_aload_n hx hb dL_texts_451 rfl (lv_at hl 0 rfl) ?_
  refine lv_ldc2 hx hb F.1.2.2.2.1 (hz _ zw_975) dL_texts_452 ?_
  refine lv_ldc2 hx hb F.1.2.2.2.1 (hz _ zw_976) dL_texts_455 ?_
  refine lv_ldc2 hx hb F.1.2.2.2.1 (hz _ zw_977) dL_texts_458 ?_
  refine lv_lconst (v := 0) hx hb dL_texts_461 (by decide) ?_
  refine lv_lconst (v := 0) hx hb dL_texts_462 (by decide) ?_
  refine zcu (n := 6) [] [] [0, 1, 2, 3, 4, 5, 6, 7, 8, 9, 10, 11, 12, 13, 14, 15, 16, 17, 18, 19, 20, 21, 22, 23, 24] [0, 1, 2, 3, 4, 5, 6, 7, 8, 9, 10, 11, 12, 13, 14, 15, 16, 17, 18, 19, 20, 21, 22, 23, 24] (faultOf_ok l N hN2 g j q S hs (2314958379134492720) (3472592111192138784) (32) 0 0 tx_ok23 (v := (-1000)) (by rw [tx_v23]; decide)) ⟨_, _, hZ⟩ F hN hJ hO ⟨zw_990, zw_840, zw_935, ⟨by decide, by decide⟩, by decide +kernel⟩ zw_989 hP hD hS rfl rfl rfl (by decide) (fun _ => rfl) (by decide) rfl hl.1 (rest := []) rfl (Nat.le_of_ble_eq_true rfl) ⟨rfl, rfl⟩ ⟨Nat.le_of_ble_eq_true rfl, Nat.le_of_ble_eq_true rfl⟩ ⟨Nat.le_of_ble_eq_true rfl, Nat.le_of_ble_eq_true rfl⟩ dL_texts_463 (st1 := [.int (-1000)]) rfl (fun K H locs hZ hP hD hS => ?_)
  refine lv_sipush (v := (-1000)) hx hb dL_texts_466 (by decide) ?_
  refine lv_icmp_eq (tgt := 474) hx hb dL_texts_469 (by decide) (fun _ => ?_) (fun q9 => absurd q9 (by decide))
  refine lv_aload_n hx hb dL_texts_474 rfl (lv_at hl 0 rfl) ?_
  refine lv_ldc2 hx hb F.1.2.2.2.1 (hz _ zw_973) dL_texts_475 ?_
  refine lv_ldc2 hx hb F.1.2.2.2.1 (hz _ zw_978) dL_texts_478 ?_
  refine lv_ldc2 hx hb F.1.2.2.2.1 (hz _ zw_952) dL_texts_481 ?_
  refine lv_lconst (v := 0) hx hb dL_texts_484 (by decide) ?_
  refine lv_lconst (v := 0) hx hb dL_texts_485 (by decide) ?_
  refine zcu (n := 6) [] [] [0, 1, 2, 3, 4, 5, 6, 7, 8, 9, 10, 11, 12, 13, 14, 15, 16, 17, 18, 19, 20, 21, 22, 23, 24] [0, 1, 2, 3, 4, 5, 6, 7, 8, 9, 10, 11, 12, 13, 14, 15, 16, 17, 18, 19, 20, 21, 22, 23, 24] (faultOf_ok l N hN2 g j q S hs (7089072771046597217) (7163855031927533669) (472989920868) 0 0 tx_ok24 (v := 13) (by rw [tx_v24]; decide)) ⟨_, _, hZ⟩ F hN hJ hO ⟨zw_990, zw_840, zw_935, ⟨by decide, by decide⟩, by decide +kernel⟩ zw_989 hP hD hS rfl rfl rfl (by decide) (fun _ => rfl) (by decide) rfl hl.1 (rest := []) rfl (Nat.le_of_ble_eq_true rfl) ⟨rfl, rfl⟩ ⟨Nat.le_of_ble_eq_true rfl, Nat.le_of_ble_eq_true rfl⟩ ⟨Nat.le_of_ble_eq_true rfl, Nat.le_of_ble_eq_true rfl⟩ dL_texts_486 (st1 := [.int 13]) rfl (fun K H locs hZ hP hD hS => ?_)
  refine lv_bipush (v := 13) hx hb dL_texts_489 (by decide) ?_
  refine lv_icmp_ne (tgt := 558) hx hb dL_texts_491 (by decide) (fun q9 => absurd q9 (by decide)) (fun _ => ?_)
  refine lv_aload_n hx hb dL_texts_494 rfl (lv_at hl 0 rfl) ?_
  refine lv_ldc2 hx hb F.1.2.2.2.1 (hz _ zw_958) dL_texts_495 ?_
  refine lv_ldc2 hx hb F.1.2.2.2.1 (hz _ zw_963) dL_texts_498 ?_
  refine lv_ldc2 hx hb F.1.2.2.2.1 (hz _ zw_960) dL_texts_501 ?_
  refine lv_ldc2 hx hb F.1.2.2.2.1 (hz _ zw_979) dL_texts_504 ?_
  refine lv_lconst (v := 0) hx hb dL_texts_507 (by decide) ?_
  refine zcu (n := 6) [] [] [0, 1, 2, 3, 4, 5, 6, 7, 8, 9, 10, 11, 12, 13, 14, 15, 16, 17, 18, 19, 20, 21, 22, 23, 24] [0, 1, 2, 3, 4, 5, 6, 7, 8, 9, 10, 11, 12, 13, 14, 15, 16, 17, 18, 19, 20, 21, 22, 23, 24] (faultOf_ok l N hN2 g j q S hs (7089072771046602351) (7594024585614357093) (8319310044343330336) (8388347261668912740) 0 tx_ok25 (v := 24) (by rw [tx_v25]; decide)) ⟨_, _, hZ⟩ F hN hJ hO ⟨zw_990, zw_840, zw_935, ⟨by decide, by decide⟩, by decide +kernel⟩ zw_989 hP hD hS rfl rfl rfl (by decide) (fun _ => rfl) (by decide) rfl hl.1 (rest := []) rfl (Nat.le_of_ble_eq_true rfl) ⟨rfl, rfl⟩ ⟨Nat.le_of_ble_eq_true rfl, Nat.le_of_ble_eq_true rfl⟩ ⟨Nat.le_of_ble_eq_true rfl, Nat.le_of_ble_eq_true rfl⟩ dL_texts_508 (st1 := [.int 24]) rfl (fun K H locs hZ hP hD hS => ?_)
  refine lv_bipush (v := 24) hx hb dL_texts_511 (by decide) ?_
  refine lv_icmp_ne (tgt := 558) hx hb dL_texts_513 (by decide) (fun q9 => absurd q9 (by decide)) (fun _ => ?_)
  refine lv_aload_n hx hb dL_texts_516 rfl (lv_at hl 0 rfl) ?_
  refine lv_ldc2 hx hb F.1.2.2.2.1 (hz _ zw_958) dL_texts_517 ?_
  refine lv_ldc2 hx hb F.1.2.2.2.1 (hz _ zw_980) dL_texts_520 ?_
  refine lv_ldc2 hx hb F.1.2.2.2.1 (hz _ zw_960) dL_texts_523 ?_
  refine lv_ldc2 hx hb F.1.2.2.2.1 (hz _ zw_957) dL_texts_526 ?_
  refine lv_lconst (v := 0) hx hb dL_texts_529 (by decide) ?_
  refine zcu (n := 6) [] [] [0, 1, 2, 3, 4, 5, 6, 7, 8, 9, 10, 11, 12, 13, 14, 15, 16, 17, 18, 19, 20, 21, 22, 23, 24] [0, 1, 2, 3, 4, 5, 6, 7, 8, 9, 10, 11, 12, 13, 14, 15, 16, 17, 18, 19, 20, 21, 22, 23, 24] (faultOf_ok l N hN2 g j q S hs (7089072771046602351) (7594024585647911525) (8319310044343330336) (6647396) 0 tx_ok26 (v := 12) (by rw [tx_v26]; decide)) ⟨_, _, hZ⟩ F hN hJ hO ⟨zw_990, zw_840, zw_935, ⟨by decide, by decide⟩, by decide +kernel⟩ zw_989 hP hD hS rfl rfl rfl (by decide) (fun _ => rfl) (by decide) rfl hl.1 (rest := []) rfl (Nat.le_of_ble_eq_true rfl) ⟨rfl, rfl⟩ ⟨Nat.le_of_ble_eq_true rfl, Nat.le_of_ble_eq_true rfl⟩ ⟨Nat.le_of_ble_eq_true rfl, Nat.le_of_ble_eq_true rfl⟩ dL_texts_530 (st1 := [.int 12]) rfl (fun K H locs hZ hP hD hS => ?_)
  refine lv_bipush (v := 12) hx hb dL_texts_533 (by decide) ?_
  refine lv_icmp_ne (tgt := 558) hx hb dL_texts_535 (by decide) (fun q9 => absurd q9 (by decide)) (fun _ => ?_)
  exact kk _ _ _ _ ⟨_, _, hZ⟩ hP hD hS hl
end ZTX
set_option maxHeartbeats 8000000 in
set_option maxRecDepth 100000 in
theorem texts_ok (l : Launch) (N : Nat) (hN2 : 20000 ≤ N) (g : zEnv) (j : zJ) (q : Nat → Nat) (S : zSt) (hs : List zSt) : ZU l yL_texts cL_texts 1 (some .boolean) rm_L_texts g j q [.ref (q 0)] (fun K => ∃ L T, zC S hs L T K) (fun K => ∃ L T, zC S hs L T K) (some (.int 1)) 0 0 := by
  refine zU_of (by decide) (Nat.le_of_ble_eq_true rfl) ?_
  intro p e s m below meth c A H locs ls Q R K hZ F hRm hr hlocks hN hJ hO hP hD hS hl hQ
  subst hRm
  have F : zF p m c cL_texts 1 s (([.ref (q 0)] : List Value)).toArray RL g A := F
  have hl : lv_has ls 1 [(0, .ref (q 0))] := hl
  refine tx_s0 hN2 F hN hJ hO hZ hP hD hS hl (fun K H locs ls hZ hP hD hS hl => ?_)
  refine tx_s1 hN2 F hN hJ hO hZ hP hD hS hl (fun K H locs ls hZ hP hD hS hl => ?_)
  refine tx_s2 hN2 F hN hJ hO hZ hP hD hS hl (fun K H locs ls hZ hP hD hS hl => ?_)
  have hx := F.1.1
  have hb := F.1.2.1
  have hz := F.1.2.2.2.2
  refine lv_aload_n hx hb dL_texts_538 rfl (lv_at hl 0 rfl) ?_
  refine lv_ldc2 hx hb F.1.2.2.2.1 (hz _ zw_944) dL_texts_539 ?_
  refine lv_ldc2 hx hb F.1.2.2.2.1 (hz _ zw_981) dL_texts_542 ?_
  refine lv_ldc2 hx hb F.1.2.2.2.1 (hz _ zw_957) dL_texts_545 ?_
  refine lv_lconst (v := 0) hx hb dL_texts_548 (by decide) ?_
  refine lv_lconst (v := 0) hx hb dL_texts_549 (by decide) ?_
  refine zcu (n := 6) [] [] [0, 1, 2, 3, 4, 5, 6, 7, 8, 9, 10, 11, 12, 13, 14, 15, 16, 17, 18, 19, 20, 21, 22, 23, 24] [0, 1, 2, 3, 4, 5, 6, 7, 8, 9, 10, 11, 12, 13, 14, 15, 16, 17, 18, 19, 20, 21, 22, 23, 24] (faultOf_ok l N hN2 g j q S hs (7089072771046600560) (7308814908268047904) (6647396) 0 0 tx_ok27 (v := 11) (by rw [tx_v27]; decide)) hZ F hN hJ hO ⟨zw_990, zw_840, zw_935, ⟨by decide, by decide⟩, by decide +kernel⟩ zw_989 hP hD hS rfl rfl rfl (by decide) (fun _ => rfl) (by decide) rfl hl.1 (rest := []) rfl (Nat.le_of_ble_eq_true rfl) ⟨rfl, rfl⟩ ⟨Nat.le_of_ble_eq_true rfl, Nat.le_of_ble_eq_true rfl⟩ ⟨Nat.le_of_ble_eq_true rfl, Nat.le_of_ble_eq_true rfl⟩ dL_texts_550 (st1 := [.int 11]) rfl (fun K H locs hZ hP hD hS => ?_)
  refine lv_bipush (v := 11) hx hb dL_texts_553 (by decide) ?_
  refine lv_icmp_eq (tgt := 560) hx hb dL_texts_555 (by decide) (fun _ => ?_) (fun q9 => absurd q9 (by decide))
  refine lv_aload_n hx hb dL_texts_560 rfl (lv_at hl 0 rfl) ?_
  refine lv_ldc2 hx hb F.1.2.2.2.1 (hz _ zw_982) dL_texts_561 ?_
  refine lv_ldc2 hx hb F.1.2.2.2.1 (hz _ zw_940) dL_texts_564 ?_
  refine lv_lconst (v := 0) hx hb dL_texts_567 (by decide) ?_
  refine lv_lconst (v := 0) hx hb dL_texts_568 (by decide) ?_
  refine lv_lconst (v := 0) hx hb dL_texts_569 (by decide) ?_
  refine zcu (n := 6) [] [] [0, 1, 2, 3, 4, 5, 6, 7, 8, 9, 10, 11, 12, 13, 14, 15, 16, 17, 18, 19, 20, 21, 22, 23, 24] [0, 1, 2, 3, 4, 5, 6, 7, 8, 9, 10, 11, 12, 13, 14, 15, 16, 17, 18, 19, 20, 21, 22, 23, 24] (faultOf_ok l N hN2 g j q S hs (7089072772237780334) (100) 0 0 0 tx_ok28 (v := 4) (by rw [tx_v28]; decide)) ⟨_, _, hZ⟩ F hN hJ hO ⟨zw_990, zw_840, zw_935, ⟨by decide, by decide⟩, by decide +kernel⟩ zw_989 hP hD hS rfl rfl rfl (by decide) (fun _ => rfl) (by decide) rfl hl.1 (rest := []) rfl (Nat.le_of_ble_eq_true rfl) ⟨rfl, rfl⟩ ⟨Nat.le_of_ble_eq_true rfl, Nat.le_of_ble_eq_true rfl⟩ ⟨Nat.le_of_ble_eq_true rfl, Nat.le_of_ble_eq_true rfl⟩ dL_texts_570 (st1 := [.int 4]) rfl (fun K H locs hZ hP hD hS => ?_)
  refine lv_iconst (v := 4) hx hb dL_texts_573 (by decide) ?_
  refine lv_icmp_ne (tgt := 638) hx hb dL_texts_574 (by decide) (fun q9 => absurd q9 (by decide)) (fun _ => ?_)
  refine lv_aload_n hx hb dL_texts_577 rfl (lv_at hl 0 rfl) ?_
  refine lv_ldc2 hx hb F.1.2.2.2.1 (hz _ zw_983) dL_texts_578 ?_
  refine lv_ldc2 hx hb F.1.2.2.2.1 (hz _ zw_940) dL_texts_581 ?_
  refine lv_lconst (v := 0) hx hb dL_texts_584 (by decide) ?_
  refine lv_lconst (v := 0) hx hb dL_texts_585 (by decide) ?_
  refine lv_lconst (v := 0) hx hb dL_texts_586 (by decide) ?_
  refine zcu (n := 6) [] [] [0, 1, 2, 3, 4, 5, 6, 7, 8, 9, 10, 11, 12, 13, 14, 15, 16, 17, 18, 19, 20, 21, 22, 23, 24] [0, 1, 2, 3, 4, 5, 6, 7, 8, 9, 10, 11, 12, 13, 14, 15, 16, 17, 18, 19, 20, 21, 22, 23, 24] (faultOf_ok l N hN2 g j q S hs (4783229761832904046) (100) 0 0 0 tx_ok29 (v := 0) (by rw [tx_v29]; decide)) ⟨_, _, hZ⟩ F hN hJ hO ⟨zw_990, zw_840, zw_935, ⟨by decide, by decide⟩, by decide +kernel⟩ zw_989 hP hD hS rfl rfl rfl (by decide) (fun _ => rfl) (by decide) rfl hl.1 (rest := []) rfl (Nat.le_of_ble_eq_true rfl) ⟨rfl, rfl⟩ ⟨Nat.le_of_ble_eq_true rfl, Nat.le_of_ble_eq_true rfl⟩ ⟨Nat.le_of_ble_eq_true rfl, Nat.le_of_ble_eq_true rfl⟩ dL_texts_587 (st1 := [.int 0]) rfl (fun K H locs hZ hP hD hS => ?_)
  refine lv_if_ne (tgt := 638) hx hb dL_texts_590 (by decide) (fun q9 => absurd q9 (by decide)) (fun _ => ?_)
  refine lv_aload_n hx hb dL_texts_593 rfl (lv_at hl 0 rfl) ?_
  refine lv_ldc2 hx hb F.1.2.2.2.1 (hz _ zw_949) dL_texts_594 ?_
  refine lv_ldc2 hx hb F.1.2.2.2.1 (hz _ zw_984) dL_texts_597 ?_
  refine lv_ldc2 hx hb F.1.2.2.2.1 (hz _ zw_985) dL_texts_600 ?_
  refine lv_ldc2 hx hb F.1.2.2.2.1 (hz _ zw_986) dL_texts_603 ?_
  refine lv_lconst (v := 0) hx hb dL_texts_606 (by decide) ?_
  refine zcu (n := 6) [] [] [0, 1, 2, 3, 4, 5, 6, 7, 8, 9, 10, 11, 12, 13, 14, 15, 16, 17, 18, 19, 20, 21, 22, 23, 24] [0, 1, 2, 3, 4, 5, 6, 7, 8, 9, 10, 11, 12, 13, 14, 15, 16, 17, 18, 19, 20, 21, 22, 23, 24] (faultOf_ok l N hN2 g j q S hs (7089072771046599525) (8728099688637099552) (8388356062053412916) (2319407916637318756) 0 tx_ok30 (v := (-1000)) (by rw [tx_v30]; decide)) ⟨_, _, hZ⟩ F hN hJ hO ⟨zw_990, zw_840, zw_935, ⟨by decide, by decide⟩, by decide +kernel⟩ zw_989 hP hD hS rfl rfl rfl (by decide) (fun _ => rfl) (by decide) rfl hl.1 (rest := []) rfl (Nat.le_of_ble_eq_true rfl) ⟨rfl, rfl⟩ ⟨Nat.le_of_ble_eq_true rfl, Nat.le_of_ble_eq_true rfl⟩ ⟨Nat.le_of_ble_eq_true rfl, Nat.le_of_ble_eq_true rfl⟩ dL_texts_607 (st1 := [.int (-1000)]) rfl (fun K H locs hZ hP hD hS => ?_)
  refine lv_sipush (v := (-1000)) hx hb dL_texts_610 (by decide) ?_
  refine lv_icmp_ne (tgt := 638) hx hb dL_texts_613 (by decide) (fun q9 => absurd q9 (by decide)) (fun _ => ?_)
  refine lv_aload_n hx hb dL_texts_616 rfl (lv_at hl 0 rfl) ?_
  refine lv_ldc2 hx hb F.1.2.2.2.1 (hz _ zw_958) dL_texts_617 ?_
  refine lv_ldc2 hx hb F.1.2.2.2.1 (hz _ zw_965) dL_texts_620 ?_
  refine lv_ldc2 hx hb F.1.2.2.2.1 (hz _ zw_987) dL_texts_623 ?_
  refine lv_ldc2 hx hb F.1.2.2.2.1 (hz _ zw_988) dL_texts_626 ?_
  refine lv_lconst (v := 0) hx hb dL_texts_629 (by decide) ?_
  refine zcu (n := 6) [] [] [0, 1, 2, 3, 4, 5, 6, 7, 8, 9, 10, 11, 12, 13, 14, 15, 16, 17, 18, 19, 20, 21, 22, 23, 24] [0, 1, 2, 3, 4, 5, 6, 7, 8, 9, 10, 11, 12, 13, 14, 15, 16, 17, 18, 19, 20, 21, 22, 23, 24] (faultOf_ok l N hN2 g j q S hs (7089072771046602351) (7594024585614353184) (3756116856866742390) (1869177701) 0 tx_ok31 (v := 28) (by rw [tx_v31]; decide)) ⟨_, _, hZ⟩ F hN hJ hO ⟨zw_990, zw_840, zw_935, ⟨by decide, by decide⟩, by decide +kernel⟩ zw_989 hP hD hS rfl rfl rfl (by decide) (fun _ => rfl) (by decide) rfl hl.1 (rest := []) rfl (Nat.le_of_ble_eq_true rfl) ⟨rfl, rfl⟩ ⟨Nat.le_of_ble_eq_true rfl, Nat.le_of_ble_eq_true rfl⟩ ⟨Nat.le_of_ble_eq_true rfl, Nat.le_of_ble_eq_true rfl⟩ dL_texts_630 (st1 := [.int 28]) rfl (fun K H locs hZ hP hD hS => ?_)
  refine lv_bipush (v := 28) hx hb dL_texts_633 (by decide) ?_
  refine lv_icmp_eq (tgt := 640) hx hb dL_texts_635 (by decide) (fun _ => ?_) (fun q9 => absurd q9 (by decide))
  refine lv_iconst (v := 1) hx hb dL_texts_640 (by decide) ?_
  exact zU_z ⟨_, _, hZ⟩ F hr hlocks hQ ⟨Nat.le_refl _, Nat.le_refl _⟩ rfl hP hD hS dL_texts_641
