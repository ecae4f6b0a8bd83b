/-! ===== a round of the law's loop; undoing ===== -/
section ZLB
variable {p : Program} {l : Launch} {e : Env} {s : State} {m : MethodId} {args : Array Value} {below : List Frame} {meth : Method} {c : Code} {Q : State → Prop}
variable {N : Nat} {g : zEnv} {j : zJ} {q : Nat → Nat} {A : Nat → Prop} {b b9 L : Nat} {xs : Nat → Int32}
set_option maxHeartbeats 8000000 in
set_option maxRecDepth 100000 in
theorem lg_round {cells slots : Nat} {S : zSt} {hs : List zSt} {K : zKT} {k : Nat} {f : Nat → Int64} {H : Heap} {locs : List Loc} {ls : Array Slot} (hN2 : 20000 ≤ N) (hfl : l.stackTraces = false) (hL : L ≤ 260) (F : zF p m c code 9 s args RL g A) (hN : zN s) (hJ : va_K (zD g) vwCl (zJT j) s) (hO : zO4 s) (hX : va_X b L xs s s.heap) (hbl : b < s.heap.size) (hbA : ¬ A b) (hcs : cells + 300 ≤ room_1.cells ∧ slots + 2000 ≤ room_1.slots) (hZ : zC S hs 0 (fun _ => 0) K) (hB : lwB S k) (hk : k < 12) (hP : va_P (zD g) vwCl (zcW g q K ++ [(b9, .inl (j, 16, .inr (.inl f)))]) H) (hD : va_D A (zcW g q K ++ [(b9, .inl (j, 16, .inr (.inl f)))])) (hS : va_S A s.heap H locs) (hl : lv_has ls 9 [(0, .ref b), (1, .ref (q 0)), (2, .ref b9), (3, .int (iI (k : Int)))])
    (kk : ∀ (S1 : zSt) (K1 : zKT) (H1 : Heap) (locs1 : List Loc) (ls1 : Array Slot), zC S1 ((S :: hs).take 4) 0 (fun _ => 0) K1 → lwB S1 (k + 1) → va_P (zD g) vwCl (zcW g q K1 ++ [(b9, .inl (j, 16, .inr (.inl (vp_updL f k (mxD S hs.length 0 (fun _ => 0))))))]) H1 → va_D A (zcW g q K1 ++ [(b9, .inl (j, 16, .inr (.inl (vp_updL f k (mxD S hs.length 0 (fun _ => 0))))))]) → va_S A s.heap H1 locs1 → lv_has ls1 9 [(0, .ref b), (1, .ref (q 0)), (2, .ref b9), (3, .int (iI (k : Int)))] → W p l e room_1 s m args below meth c H1 locs1 (cells + 1 + 200) (slots + 6 + 1200) Q (F0 m 416 ls1 [])) : W p l e room_1 s m args below meth c H locs cells slots Q (F0 m 104 ls []) := by
  have hx := F.1.1
  have hb := F.1.2.1
  have hz := F.1.2.2.2.2
  obtain ⟨z1, z2, z3, z4, z5⟩ := zC_ok hZ
  have z6 := z1.1.1
  have hB1 := hB.1
  have hcs1 := hcs.1
  have hcs2 := hcs.2
  obtain ⟨x, hx9⟩ := take_ok l g (b := b) (L := L) (xs := xs) hL (k := k) (by omega)
  refine lv_aload_n hx hb dL_law_104 rfl (lv_at hl 0 rfl) ?_
  refine lv_iload_n hx hb dL_law_105 rfl (lv_at hl 3 rfl) ?_
  refine zRX F hx9 hX hbl hbA zy_L_take zw_1009 hP hD hS rfl hl.1 (rest := []) rfl (Nat.le_of_ble_eq_true rfl) ⟨rfl, rfl⟩ ⟨Nat.le_of_ble_eq_true rfl, Nat.le_of_ble_eq_true rfl⟩ ⟨by omega, by omega⟩ dL_law_106 (st1 := [.int x]) rfl ?_
  refine lv_istore (lv' := [(4, .int x), (0, .ref b), (1, .ref (q 0)), (2, .ref b9), (3, .int (iI (k : Int)))]) hx hb dL_law_109 hl (by decide) rfl (fun ls hl => ?_)
  refine lv_aload_n hx hb dL_law_111 rfl (lv_at hl 2 rfl) ?_
  refine lv_iconst (v := 0) hx hb dL_law_112 (by decide) ?_
  refine cd1_whole 0 (a := iI (S.1 : Int)) ((d_whole (N := N) hN2 hZ (w := 0) (by unfold zInt; omega) (ew := by decide)).trans (by rw [if_pos (by omega)]; rfl)) F zw_788 hP hD hS hl.1 (Nat.le_of_ble_eq_true rfl) ⟨Nat.le_of_ble_eq_true rfl, Nat.le_of_ble_eq_true rfl⟩ ⟨by omega, by omega⟩ dL_law_113 (fun H locs hP hD hS => ?_)
  refine lv_istore (lv' := [(5, .int (iI (S.1 : Int))), (4, .int x), (0, .ref b), (1, .ref (q 0)), (2, .ref b9), (3, .int (iI (k : Int)))]) hx hb dL_law_116 hl (by decide) rfl (fun ls hl => ?_)
  refine lv_iload hx hb dL_law_118 (lv_at hl 1 rfl) ?_
  refine lv_iconst (v := 3) hx hb dL_law_120 (by decide) ?_
  refine lv_ishr hx hb dL_law_121 ?_
  refine lv_iload hx hb dL_law_122 (lv_at hl 0 rfl) ?_
  obtain ⟨p1, ha2, hb3, hM4⟩ := part_ok l g (x >>> (3 &&& 31)) (n := (S.1 : Int)) (by omega) (by omega)
  refine zRS F hM4 zy_L_part zw_1011 hP hD hS [] rfl rfl rfl hl.1 (rest := []) rfl (Nat.le_of_ble_eq_true rfl) ⟨rfl, rfl⟩ ⟨Nat.le_of_ble_eq_true rfl, Nat.le_of_ble_eq_true rfl⟩ ⟨by omega, by omega⟩ dL_law_124 (st1 := .int (iI p1) :: []) rfl ?_
  obtain ⟨i5, rfl⟩ := Int.eq_ofNat_of_zero_le ha2
  refine lv_istore (lv' := [(6, .int (iI (i5 : Int))), (5, .int (iI (S.1 : Int))), (4, .int x), (0, .ref b), (1, .ref (q 0)), (2, .ref b9), (3, .int (iI (k : Int)))]) hx hb dL_law_127 hl (by decide) rfl (fun ls hl => ?_)
  refine lv_aload_n hx hb dL_law_129 rfl (lv_at hl 5 rfl) ?_
  refine lv_iload_n hx hb dL_law_130 rfl (lv_at hl 6 rfl) ?_
  refine lv_aload_n hx hb dL_law_131 rfl (lv_at hl 4 rfl) ?_
  obtain ⟨r6, h7, e8, hZ9⟩ := d_digest (N := N) hN2 hZ
  refine cd1_digest (a := r6) h7 F zw_835 hP hD hS hl.1 (Nat.le_of_ble_eq_true rfl) ⟨Nat.le_of_ble_eq_true rfl, Nat.le_of_ble_eq_true rfl⟩ ⟨by omega, by omega⟩ dL_law_132 (fun H locs hP hD hS => ?_)
  rw [e8]
  refine va_last hx hb hJ hP hD hS 25 0 rfl rfl (vp_in_iI (by omega) (by omega)) dL_law_135 (fun H locs hP hD hS => ?_)
  rw [iI_nat (by omega) (by omega), Int.toNat_natCast] at hP hD
  have hP : va_P (zD g) vwCl (zcW g q (k1_digest K r6) ++ [(b9, .inl (j, 16, .inr (.inl (vp_updL f k (mxD S hs.length 0 (fun _ => 0))))))]) H := hP
  have hD : va_D A (zcW g q (k1_digest K r6) ++ [(b9, .inl (j, 16, .inr (.inl (vp_updL f k (mxD S hs.length 0 (fun _ => 0))))))]) := hD
  refine lv_iload hx hb dL_law_136 (lv_at hl 2 rfl) ?_
  refine lv_bipush (v := 7) hx hb dL_law_138 (by decide) ?_
  obtain ⟨p10, ha11, hb12, hM13⟩ := part_ok l g x (n := 7) (by omega) (by omega)
  refine zRS F hM13 zy_L_part zw_1011 hP hD hS [] rfl rfl rfl hl.1 (rest := []) rfl (Nat.le_of_ble_eq_true rfl) ⟨rfl, rfl⟩ ⟨Nat.le_of_ble_eq_true rfl, Nat.le_of_ble_eq_true rfl⟩ ⟨by omega, by omega⟩ dL_law_140 (st1 := .int (iI p10) :: []) rfl ?_
  refine lv_istore (lv' := [(7, .int (iI p10)), (6, .int (iI (i5 : Int))), (5, .int (iI (S.1 : Int))), (4, .int x), (0, .ref b), (1, .ref (q 0)), (2, .ref b9), (3, .int (iI (k : Int)))]) hx hb dL_law_143 hl (by decide) rfl (fun ls hl => ?_)
  refine lg_chain hN2 hfl F hN hJ hO hcs hZ9 hB hk (by omega) hP hD hS (lv_sub hl [0, 1, 2, 3, 4, 5, 6, 7] rfl) (fun S1 K H locs ls hZ hB hP hD hS hl => ?_)
  refine lv_iload hx hb dL_law_402 (lv_at hl 0 rfl) ?_
  refine lv_if_eq (tgt := 414) hx hb dL_law_404 (by decide) (fun q9 => absurd q9 (by decide)) (fun _ => ?_)
  refine lv_aload_n hx hb dL_law_407 rfl (lv_at hl 2 rfl) ?_
  refine zcu (n := 1) [(b9, .inl (j, 16, .inr (.inl (vp_updL f k (mxD S hs.length 0 (fun _ => 0))))))] [25] [1, 2, 3, 4, 5, 6, 7, 8, 9, 10, 11, 12, 13, 14, 15, 16, 17, 18, 19, 20, 21, 22, 23, 24, 25, 0] [0, 1, 2, 3, 4, 5, 6, 7, 8, 9, 10, 11, 12, 13, 14, 15, 16, 17, 18, 19, 20, 21, 22, 23, 24] (refused_ok l hfl hN2 g j q _ _ _ _) hZ F hN hJ hO ⟨zw_923, zw_840, zw_914, ⟨by decide, by decide⟩, by decide +kernel⟩ zw_922 hP hD hS rfl rfl rfl (by decide) (fun _ => rfl) (by decide) rfl hl.1 (rest := []) rfl (Nat.le_of_ble_eq_true rfl) ⟨rfl, rfl⟩ ⟨Nat.le_of_ble_eq_true rfl, Nat.le_of_ble_eq_true rfl⟩ ⟨by omega, by omega⟩ dL_law_408 (st1 := [.int 1]) rfl (fun K H locs hZ hP hD hS => ?_)
  refine lv_if_ne (tgt := 416) hx hb dL_law_411 (by decide) (fun _ => ?_) (fun q9 => absurd q9 (by decide))
  exact kk _ _ _ _ _ hZ hB hP hD hS (lv_sub hl [1, 2, 3, 4] rfl)
set_option maxHeartbeats 8000000 in
set_option maxRecDepth 100000 in
theorem lg_loop (hN2 : 20000 ≤ N) (hfl : l.stackTraces = false) (hL : L ≤ 260) (F : zF p m c code 9 s args RL g A) (hN : zN s) (hJ : va_K (zD g) vwCl (zJT j) s) (hO : zO4 s) (hX : va_X b L xs s s.heap) (hbl : b < s.heap.size) (hbA : ¬ A b)
    (kk : ∀ (S : zSt) (hs : List zSt) (K : zKT) (f : Nat → Int64) (H : Heap) (locs : List Loc) (ls : Array Slot), zC S hs 0 (fun _ => 0) K → lwI 12 hs f → va_P (zD g) vwCl (zcW g q K ++ [(b9, .inl (j, 16, .inr (.inl f)))]) H → va_D A (zcW g q K ++ [(b9, .inl (j, 16, .inr (.inl f)))]) → va_S A s.heap H locs → lv_has ls 9 [(1, .ref (q 0)), (2, .ref b9)] → W p l e room_1 s m args below meth c H locs (4000 + 210 * 12) (400000 + 1300 * 12) Q (F0 m 422 ls [])) :
    ∀ n k : Nat, k + n = 12 → ∀ (S : zSt) (hs : List zSt) (K : zKT) (f : Nat → Int64), zC S hs 0 (fun _ => 0) K → lwB S k → lwI k hs f → ∀ (H : Heap) (locs : List Loc) (ls : Array Slot), va_P (zD g) vwCl (zcW g q K ++ [(b9, .inl (j, 16, .inr (.inl f)))]) H → va_D A (zcW g q K ++ [(b9, .inl (j, 16, .inr (.inl f)))]) → va_S A s.heap H locs → lv_has ls 9 [(0, .ref b), (1, .ref (q 0)), (2, .ref b9), (3, .int (iI (k : Int)))] → W p l e room_1 s m args below meth c H locs (4000 + 210 * k) (400000 + 1300 * k) Q (F0 m 98 ls []) := by
  have hx := F.1.1
  have hb := F.1.2.1
  intro n
  induction n with
  | zero =>
    intro k hk S hs K f hZ hB hI H locs ls hP hD hS hl
    obtain rfl : k = 12 := by omega
    refine lv_iload_n hx hb dL_law_98 rfl (lv_at hl 3 rfl) ?_
    refine lv_bipush (v := 12) hx hb dL_law_99 (by decide) ?_
    refine lv_icmp_ge (tgt := 422) hx hb dL_law_101 (by decide) (fun _ => ?_) (fun q9 => absurd (by decide) q9)
    exact kk S hs K f H locs ls hZ hI hP hD hS (lv_sub hl [1, 2] rfl)
  | succ n ih =>
    intro k hk S hs K f hZ hB hI H locs ls hP hD hS hl
    refine lv_iload_n hx hb dL_law_98 rfl (lv_at hl 3 rfl) ?_
    refine lv_bipush (v := 12) hx hb dL_law_99 (by decide) ?_
    refine lv_icmp_ge (tgt := 422) hx hb dL_law_101 (by decide) (fun q9 => absurd q9 (by rw [show (12 : Int32) = iI 12 from rfl, iI_le_ (by omega) (by omega) (by omega) (by omega)]; omega)) (fun _ => ?_)
    refine lg_round hN2 hfl hL F hN hJ hO hX hbl hbA ⟨Nat.le_trans (show 4000 + 210 * k + 300 ≤ 10000 by omega) (Nat.le_of_ble_eq_true rfl), Nat.le_trans (show 400000 + 1300 * k + 2000 ≤ 1000000 by omega) (Nat.le_of_ble_eq_true rfl)⟩ hZ hB (by omega) hP hD hS hl (fun S1 K1 H1 locs1 ls1 hZ1 hB1 hP1 hD1 hS1 hl1 => ?_)
    refine lv_iinc (v := iI ((k + 1 : Nat) : Int)) (lv' := [(3, .int (iI ((k + 1 : Nat) : Int))), (0, .ref b), (1, .ref (q 0)), (2, .ref b9)]) hx hb dL_law_416 hl1 (k := 3) rfl (iI_up k) (by decide) rfl (fun ls hl => ?_)
    refine lv_goto (tgt := 98) hx hb dL_law_419 (by decide) ?_
    refine W.widen (k := 4000 + 210 * (k + 1)) (n := 400000 + 1300 * (k + 1)) (by omega) (by omega) ?_
    exact ih (k + 1) (by omega) S1 _ K1 _ hZ1 hB1 (lwI_step hI hB.1.1) H1 _ ls hP1 hD1 hS1 (lv_sub hl [1, 2, 3, 0] rfl)
theorem rep_cons {α : Type} (X : α) (hs : List α) : ∀ n : Nat, List.replicate n X ++ X :: hs = List.replicate (n + 1) X ++ hs
  | 0 => rfl
  | n + 1 => congrArg (List.cons X) (rep_cons X hs n)
theorem rep_len {α : Type} (X : α) (hs : List α) (n : Nat) : (List.replicate n X ++ hs).length = hs.length + n := by
  rw [List.length_append, List.length_replicate, Nat.add_comm]
section ZUB
variable {cells slots kn : Nat} {X : zSt} {f : Nat → Int64}
set_option maxHeartbeats 8000000 in
set_option maxRecDepth 100000 in
theorem ud_set (hN2 : 20000 ≤ N) (F : zF p m c code 9 s args RL g A) (hcs : cells ≤ room_1.cells ∧ slots ≤ room_1.slots) (hX1 : 1 ≤ X.1) (hkn : kn ≤ 4) : ∀ n jn : Nat, jn + n = 4 → ∀ (hs : List zSt) (K : zKT), zC X hs 0 (fun _ => 0) K → hs.length = jn → ∀ (H : Heap) (locs : List Loc) (ls : Array Slot), va_P (zD g) vwCl (zcW g q K ++ [(b9, .inl (j, 16, .inr (.inl f)))]) H → va_D A (zcW g q K ++ [(b9, .inl (j, 16, .inr (.inl f)))]) → va_S A s.heap H locs → lv_has ls 9 [(5, .int (iI (jn : Int))), (4, .int (iI (X.2.1 0 3))), (1, .ref (q 0)), (2, .ref b9), (3, .int (iI (kn : Int)))] →
    (∀ (K1 : zKT) (H1 : Heap) (locs1 : List Loc) (ls1 : Array Slot), zC X (List.replicate n X ++ hs) 0 (fun _ => 0) K1 → va_P (zD g) vwCl (zcW g q K1 ++ [(b9, .inl (j, 16, .inr (.inl f)))]) H1 → va_D A (zcW g q K1 ++ [(b9, .inl (j, 16, .inr (.inl f)))]) → va_S A s.heap H1 locs1 → lv_has ls1 9 [(1, .ref (q 0)), (2, .ref b9), (3, .int (iI (kn : Int)))] → W p l e room_1 s m args below meth c H1 locs1 cells slots Q (F0 m 476 ls1 [])) → W p l e room_1 s m args below meth c H locs cells slots Q (F0 m 449 ls []) := by
  have hx := F.1.1
  have hb := F.1.2.1
  intro n
  induction n with
  | zero =>
    intro jn hj hs K hZ hh H locs ls hP hD hS hl kk
    obtain rfl : jn = 4 := by omega
    refine lv_iload hx hb dL_law_449 (lv_at hl 0 rfl) ?_
    refine lv_iconst (v := 4) hx hb dL_law_451 (by decide) ?_
    refine lv_icmp_ge (tgt := 476) hx hb dL_law_452 (by decide) (fun _ => ?_) (fun q9 => absurd (by decide) q9)
    exact kk K H locs ls hZ hP hD hS (lv_sub hl [2, 3, 4] rfl)
  | succ n ih =>
    intro jn hj hs K hZ hh H locs ls hP hD hS hl kk
    refine lv_iload hx hb dL_law_449 (lv_at hl 0 rfl) ?_
    refine lv_iconst (v := 4) hx hb dL_law_451 (by decide) ?_
    refine lv_icmp_ge (tgt := 476) hx hb dL_law_452 (by decide) (fun q9 => absurd q9 (by rw [show (4 : Int32) = iI 4 from rfl, iI_le_ (by omega) (by omega) (by omega) (by omega)]; omega)) (fun _ => ?_)
    obtain ⟨z1, -⟩ := zC_ok hZ
    have hV := (z1.2 0 (by omega)).2.2.2.1
    refine lv_aload_n hx hb dL_law_455 rfl (lv_at hl 2 rfl) ?_
    refine lv_iconst (v := 0) hx hb dL_law_456 (by decide) ?_
    refine lv_iconst (v := 3) hx hb dL_law_457 (by decide) ?_
    refine lv_iload hx hb dL_law_458 (lv_at hl 1 rfl) ?_
    obtain ⟨r1, h2, e3, hZ4⟩ := d_set (N := N) hN2 hZ (x := 0) (y := 3) (z := X.2.1 0 3) (by omega) (Or.inr (Or.inr (Or.inr (Or.inl ⟨rfl, hV.1, hV.2⟩)))) (by unfold zInt; omega) (by unfold zInt; omega) (yx := 0) (ex := by decide) (yy := 3) (ey := by decide) (ez := rfl)
    have e3 : r1.1 = iI (X.2.1 0 3) := e3
    have hZ4 : zC (setV X 0 3 (X.2.1 0 3)) ((X :: hs).take 4) 0 (fun _ => 0) (k1_set K r1) := hZ4
    rw [setV_id, List.take_of_length_le (by rw [List.length_cons]; omega)] at hZ4
    refine cd1_set 0 3 (iI (X.2.1 0 3)) (a := r1) h2 F zw_769 hP hD hS hl.1 (Nat.le_of_ble_eq_true rfl) ⟨Nat.le_of_ble_eq_true rfl, Nat.le_of_ble_eq_true rfl⟩ ⟨by omega, by omega⟩ dL_law_460 (fun H locs hP hD hS => ?_)
    rw [e3]
    refine lv_iload hx hb dL_law_463 (lv_at hl 1 rfl) ?_
    refine lv_icmp_eq (tgt := 470) hx hb dL_law_465 (by decide) (fun _ => ?_) (fun q9 => absurd rfl q9)
    refine lv_iinc (v := iI ((jn + 1 : Nat) : Int)) (lv' := [(5, .int (iI ((jn + 1 : Nat) : Int))), (4, .int (iI (X.2.1 0 3))), (1, .ref (q 0)), (2, .ref b9), (3, .int (iI (kn : Int)))]) hx hb dL_law_470 hl (k := 0) rfl (iI_up jn) (by decide) rfl (fun ls hl => ?_)
    refine lv_goto (tgt := 449) hx hb dL_law_473 (by decide) ?_
    refine ih (jn + 1) (by omega) (X :: hs) _ hZ4 (by rw [List.length_cons, hh]) H _ ls hP hD hS hl (fun K1 H1 locs1 ls1 h1 => kk K1 H1 locs1 ls1 ?_)
    rw [← rep_cons]
    exact h1
set_option maxHeartbeats 8000000 in
set_option maxRecDepth 100000 in
theorem ud_undo (hN2 : 20000 ≤ N) (F : zF p m c code 9 s args RL g A) (hcs : cells ≤ room_1.cells ∧ slots ≤ room_1.slots) (hX1 : 1 ≤ X.1) {hs : List zSt} (hh : hs.length = kn) (hkn : kn ≤ 4) : ∀ n : Nat, n ≤ 4 → ∀ K : zKT, zC X (List.replicate n X ++ hs) 0 (fun _ => 0) K → ∀ (H : Heap) (locs : List Loc) (ls : Array Slot), va_P (zD g) vwCl (zcW g q K ++ [(b9, .inl (j, 16, .inr (.inl f)))]) H → va_D A (zcW g q K ++ [(b9, .inl (j, 16, .inr (.inl f)))]) → va_S A s.heap H locs → lv_has ls 9 [(5, .int (iI ((kn + n : Nat) : Int))), (1, .ref (q 0)), (2, .ref b9), (3, .int (iI (kn : Int)))] →
    (∀ (K1 : zKT) (H1 : Heap) (locs1 : List Loc) (ls1 : Array Slot), zC X hs 0 (fun _ => 0) K1 → va_P (zD g) vwCl (zcW g q K1 ++ [(b9, .inl (j, 16, .inr (.inl f)))]) H1 → va_D A (zcW g q K1 ++ [(b9, .inl (j, 16, .inr (.inl f)))]) → va_S A s.heap H1 locs1 → lv_has ls1 9 [(1, .ref (q 0)), (2, .ref b9), (3, .int (iI (kn : Int)))] → W p l e room_1 s m args below meth c H1 locs1 cells slots Q (F0 m 520 ls1 [])) → W p l e room_1 s m args below meth c H locs cells slots Q (F0 m 495 ls []) := by
  have hx := F.1.1
  have hb := F.1.2.1
  intro n
  induction n with
  | zero =>
    intro hn K hZ H locs ls hP hD hS hl kk
    refine lv_iload hx hb dL_law_495 (lv_at hl 0 rfl) ?_
    refine lv_iload_n hx hb dL_law_497 rfl (lv_at hl 3 rfl) ?_
    refine lv_icmp_le (tgt := 520) hx hb dL_law_498 (by decide) (fun _ => ?_) (fun q9 => absurd (Int32.le_refl _) q9)
    exact kk K H locs ls hZ hP hD hS (lv_sub hl [1, 2, 3] rfl)
  | succ n ih =>
    intro hn K hZ H locs ls hP hD hS hl kk
    have hZ : zC X (X :: (List.replicate n X ++ hs)) 0 (fun _ => 0) K := hZ
    refine lv_iload hx hb dL_law_495 (lv_at hl 0 rfl) ?_
    refine lv_iload_n hx hb dL_law_497 rfl (lv_at hl 3 rfl) ?_
    refine lv_icmp_le (tgt := 520) hx hb dL_law_498 (by decide) (fun q9 => absurd q9 (by rw [iI_le_ (by omega) (by omega) (by omega) (by omega)]; omega)) (fun _ => ?_)
    refine lv_aload_n hx hb dL_law_501 rfl (lv_at hl 1 rfl) ?_
    obtain ⟨r1, h2, e3, hZ4⟩ := d_undo (N := N) hN2 hZ
    rw [rep_len, hh] at e3
    refine cd1_undo (a := r1) h2 F zw_832 hP hD hS hl.1 (Nat.le_of_ble_eq_true rfl) ⟨Nat.le_of_ble_eq_true rfl, Nat.le_of_ble_eq_true rfl⟩ ⟨by omega, by omega⟩ dL_law_502 (fun H locs hP hD hS => ?_)
    rw [e3]
    refine lv_iload hx hb dL_law_505 (lv_at hl 0 rfl) ?_
    refine lv_iconst (v := 1) hx hb dL_law_507 (by decide) ?_
    refine lv_isub hx hb dL_law_508 ?_
    rw [show ((iI ((kn + (n + 1) : Nat) : Int)) - 1) = (iI ((kn + n : Nat) : Int)) from (by rw [show (1 : Int32) = iI 1 from rfl, iI_sub]; exact congrArg iI (by omega))]
    refine lv_icmp_eq (tgt := 514) hx hb dL_law_509 (by decide) (fun _ => ?_) (fun q9 => absurd rfl q9)
    refine lv_iinc (v := iI ((kn + n : Nat) : Int)) (lv' := [(5, .int (iI ((kn + n : Nat) : Int))), (1, .ref (q 0)), (2, .ref b9), (3, .int (iI (kn : Int)))]) hx hb dL_law_514 hl (k := 0) rfl (by rw [show Int32.ofInt (-1) = iI (-1) from rfl, iI_add]; exact congrArg iI (by omega)) (by decide) rfl (fun ls hl => ?_)
    refine lv_goto (tgt := 495) hx hb dL_law_517 (by decide) ?_
    exact ih (by omega) _ hZ4 H _ ls hP hD hS hl kk
set_option maxHeartbeats 8000000 in
set_option maxRecDepth 100000 in
theorem ud_round (hN2 : 20000 ≤ N) (F : zF p m c code 9 s args RL g A) (hcs : cells ≤ room_1.cells ∧ slots ≤ room_1.slots) (hX1 : 1 ≤ X.1) (hJ : va_K (zD g) vwCl (zJT j) s) {S : zSt} {hs : List zSt} {K : zKT} {H : Heap} {locs : List Loc} {ls : Array Slot} (hh : hs.length = kn) (hkn : kn < 4) (hf : f (8 + kn) = mxD X 4 0 (fun _ => 0)) (hZ : zC S (X :: hs) 0 (fun _ => 0) K) (hP : va_P (zD g) vwCl (zcW g q K ++ [(b9, .inl (j, 16, .inr (.inl f)))]) H) (hD : va_D A (zcW g q K ++ [(b9, .inl (j, 16, .inr (.inl f)))])) (hS : va_S A s.heap H locs) (hl : lv_has ls 9 [(1, .ref (q 0)), (2, .ref b9), (3, .int (iI (kn : Int)))])
    (kk : ∀ (K1 : zKT) (H1 : Heap) (locs1 : List Loc) (ls1 : Array Slot), zC X hs 0 (fun _ => 0) K1 → va_P (zD g) vwCl (zcW g q K1 ++ [(b9, .inl (j, 16, .inr (.inl f)))]) H1 → va_D A (zcW g q K1 ++ [(b9, .inl (j, 16, .inr (.inl f)))]) → va_S A s.heap H1 locs1 → lv_has ls1 9 [(1, .ref (q 0)), (2, .ref b9), (3, .int (iI ((kn : Int) - 1)))] → W p l e room_1 s m args below meth c H1 locs1 cells slots Q (F0 m 424 ls1 [])) : W p l e room_1 s m args below meth c H locs cells slots Q (F0 m 424 ls []) := by
  have hx := F.1.1
  have hb := F.1.2.1
  obtain ⟨z1, z2, z3, -⟩ := zC_ok hZ
  have z7 := z3 X (List.mem_cons_self ..)
  refine lv_iload_n hx hb dL_law_424 rfl (lv_at hl 2 rfl) ?_
  refine lv_if_lt (tgt := 526) hx hb dL_law_425 (by decide) (fun q9 => absurd q9 (by rw [iL0, iI_lt (by omega) (by omega) (by omega) (by omega)]; omega)) (fun _ => ?_)
  refine lv_aload_n hx hb dL_law_428 rfl (lv_at hl 0 rfl) ?_
  obtain ⟨r1, h2, e3, hZ4⟩ := d_undo (N := N) hN2 hZ
  rw [hh] at e3
  refine cd1_undo (a := r1) h2 F zw_832 hP hD hS hl.1 (Nat.le_of_ble_eq_true rfl) ⟨Nat.le_of_ble_eq_true rfl, Nat.le_of_ble_eq_true rfl⟩ ⟨by omega, by omega⟩ dL_law_429 (fun H locs hP hD hS => ?_)
  rw [e3]
  refine lv_iload_n hx hb dL_law_432 rfl (lv_at hl 2 rfl) ?_
  refine lv_icmp_eq (tgt := 438) hx hb dL_law_433 (by decide) (fun _ => ?_) (fun q9 => absurd rfl q9)
  refine lv_aload_n hx hb dL_law_438 rfl (lv_at hl 0 rfl) ?_
  refine lv_iconst (v := 0) hx hb dL_law_439 (by decide) ?_
  refine lv_iconst (v := 3) hx hb dL_law_440 (by decide) ?_
  refine cd1_measure 0 3 (a := iI (X.2.1 0 3)) ((d_measure (N := N) hN2 hZ4 (a := 0) (b := 3) (by unfold zInt; omega) (by unfold zInt; omega) (ea := by decide) (eb := by decide)).trans (by rw [if_pos (by omega), if_pos (by omega)]; rfl)) F zw_781 hP hD hS hl.1 (Nat.le_of_ble_eq_true rfl) ⟨Nat.le_of_ble_eq_true rfl, Nat.le_of_ble_eq_true rfl⟩ ⟨by omega, by omega⟩ dL_law_441 (fun H locs hP hD hS => ?_)
  refine lv_istore (lv' := [(4, .int (iI (X.2.1 0 3))), (1, .ref (q 0)), (2, .ref b9), (3, .int (iI (kn : Int)))]) hx hb dL_law_444 hl (by decide) rfl (fun ls hl => ?_)
  refine lv_iload_n hx hb dL_law_446 rfl (lv_at hl 3 rfl) ?_
  refine lv_istore (lv' := [(5, .int (iI (kn : Int))), (4, .int (iI (X.2.1 0 3))), (1, .ref (q 0)), (2, .ref b9), (3, .int (iI (kn : Int)))]) hx hb dL_law_447 hl (by decide) rfl (fun ls hl => ?_)
  refine ud_set hN2 F hcs hX1 (by omega) (4 - kn) kn (by omega) hs _ hZ4 hh H _ ls hP hD hS (lv_sub hl [0, 1, 2, 3, 4] rfl) (fun K H locs ls hZ hP hD hS hl => ?_)
  refine lv_aload_n hx hb dL_law_476 rfl (lv_at hl 0 rfl) ?_
  obtain ⟨r9, h10, e11, hZ12⟩ := d_digest (N := N) hN2 hZ
  rw [rep_len, show hs.length + (4 - kn) = 4 by omega] at e11
  refine cd1_digest (a := r9) h10 F zw_835 hP hD hS hl.1 (Nat.le_of_ble_eq_true rfl) ⟨Nat.le_of_ble_eq_true rfl, Nat.le_of_ble_eq_true rfl⟩ ⟨by omega, by omega⟩ dL_law_477 (fun H locs hP hD hS => ?_)
  rw [e11]
  refine lv_aload_n hx hb dL_law_480 rfl (lv_at hl 1 rfl) ?_
  refine lv_bipush (v := 8) hx hb dL_law_481 (by decide) ?_
  refine lv_iload_n hx hb dL_law_483 rfl (lv_at hl 2 rfl) ?_
  refine lv_iadd hx hb dL_law_484 ?_
  rw [show (8 + (iI (kn : Int))) = (iI ((8 + kn : Nat) : Int)) from (by rw [show (8 : Int32) = iI 8 from rfl, iI_add]; exact congrArg iI (by omega))]
  refine va_lald hx hb hJ hP 25 0 rfl rfl (vp_in_iI (by omega) (by omega)) dL_law_485 ?_
  rw [iI_nat (by omega) (by omega), Int.toNat_natCast, hf]
  refine W.lcmp hx hb dL_law_486 ?_
  rw [zcmp_self]
  refine lv_if_eq (tgt := 492) hx hb dL_law_487 (by decide) (fun _ => ?_) (fun q9 => absurd q9 (by decide))
  refine lv_iconst (v := 4) hx hb dL_law_492 (by decide) ?_
  refine lv_istore (lv' := [(5, .int 4), (1, .ref (q 0)), (2, .ref b9), (3, .int (iI (kn : Int)))]) hx hb dL_law_493 hl (by decide) rfl (fun ls hl => ?_)
  have hl : lv_has ls 9 [(5, .int (iI ((kn + (4 - kn) : Nat) : Int))), (1, .ref (q 0)), (2, .ref b9), (3, .int (iI (kn : Int)))] := by rw [show kn + (4 - kn) = 4 by omega]; exact lv_sub hl [0, 1, 2, 3] rfl
  refine ud_undo hN2 F hcs hX1 hh (by omega) (4 - kn) (by omega) _ hZ12 H _ ls hP hD hS hl (fun K H locs ls hZ hP hD hS hl => ?_)
  refine lv_iinc (v := iI ((kn : Int) - 1)) (lv' := [(3, .int (iI ((kn : Int) - 1))), (1, .ref (q 0)), (2, .ref b9)]) hx hb dL_law_520 hl (k := 2) rfl (by rw [show Int32.ofInt (-1) = iI (-1) from rfl, iI_add]; exact congrArg iI (by omega)) (by decide) rfl (fun ls hl => ?_)
  refine lv_goto (tgt := 424) hx hb dL_law_523 (by decide) ?_
  exact kk K H _ ls hZ hP hD hS (lv_sub hl [1, 2, 0] rfl)
end ZUB
set_option maxHeartbeats 8000000 in
set_option maxRecDepth 100000 in
theorem ud_loop {cells slots : Nat} {f : Nat → Int64} (hN2 : 20000 ≤ N) (F : zF p m c code 9 s args RL g A) (hcs : cells ≤ room_1.cells ∧ slots ≤ room_1.slots) (hJ : va_K (zD g) vwCl (zJT j) s)
    (kk : ∀ (S : zSt) (K : zKT) (H : Heap) (locs : List Loc) (ls : Array Slot), zC S [] 0 (fun _ => 0) K → va_P (zD g) vwCl (zcW g q K ++ [(b9, .inl (j, 16, .inr (.inl f)))]) H → va_D A (zcW g q K ++ [(b9, .inl (j, 16, .inr (.inl f)))]) → va_S A s.heap H locs → lv_has ls 9 [(1, .ref (q 0)), (2, .ref b9)] → W p l e room_1 s m args below meth c H locs cells slots Q (F0 m 526 ls [])) :
    ∀ (hs : List zSt) (S : zSt) (K : zKT), zC S hs 0 (fun _ => 0) K → hs.length ≤ 4 → (∀ i X, hs[i]? = some X → 1 ≤ X.1 ∧ f (7 + hs.length - i) = mxD X 4 0 (fun _ => 0)) → ∀ (H : Heap) (locs : List Loc) (ls : Array Slot), va_P (zD g) vwCl (zcW g q K ++ [(b9, .inl (j, 16, .inr (.inl f)))]) H → va_D A (zcW g q K ++ [(b9, .inl (j, 16, .inr (.inl f)))]) → va_S A s.heap H locs → lv_has ls 9 [(1, .ref (q 0)), (2, .ref b9), (3, .int (iI ((hs.length : Int) - 1)))] → W p l e room_1 s m args below meth c H locs cells slots Q (F0 m 424 ls []) := by
  have hx := F.1.1
  have hb := F.1.2.1
  intro hs
  induction hs with
  | nil =>
    intro S K hZ hh hf H locs ls hP hD hS hl
    refine lv_iload_n hx hb dL_law_424 rfl (lv_at hl 2 rfl) ?_
    refine lv_if_lt (tgt := 526) hx hb dL_law_425 (by decide) (fun _ => ?_) (fun q9 => absurd (by decide) q9)
    exact kk S K H locs ls hZ hP hD hS (lv_sub hl [0, 1] rfl)
  | cons X t ih =>
    intro S K hZ hh hf H locs ls hP hD hS hl
    have hh : t.length + 1 ≤ 4 := hh
    obtain ⟨h1, h2⟩ := hf 0 X rfl
    rw [show 7 + (X :: t).length - 0 = 8 + t.length by rw [List.length_cons]; omega] at h2
    rw [show (((X :: t).length : Int) - 1) = (t.length : Int) by rw [List.length_cons]; omega] at hl
    refine ud_round hN2 F hcs h1 hJ rfl (by omega) h2 hZ hP hD hS hl (fun K1 H1 locs1 ls1 hZ1 hP1 hD1 hS1 hl1 => ?_)
    refine ih X K1 hZ1 (by omega) (fun i Y hY => ?_) H1 locs1 ls1 hP1 hD1 hS1 hl1
    obtain ⟨p1, p2⟩ := hf (i + 1) Y (by rw [List.getElem?_cons_succ]; exact hY)
    rw [show 7 + (X :: t).length - (i + 1) = 7 + t.length - i by rw [List.length_cons]; omega] at p2
    exact ⟨p1, p2⟩
set_option maxHeartbeats 8000000 in
set_option maxRecDepth 100000 in
theorem lg_end (hN2 : 20000 ≤ N) (hfl : l.stackTraces = false) (F : zF p m c code 9 s #[Value.ref b] RL g A) (hN : zN s) (hJ : va_K (zD g) vwCl (zJT j) s) (hO : zO4 s) (hAf : ∀ q : Nat, A q → s.heap.size ≤ q) (hr : meth.sig.returnType = ret) (hlocks : meth.locks = false) {S : zSt} {K : zKT} {f : Nat → Int64} {H : Heap} {locs : List Loc} {ls : Array Slot} (hZ : zC S [] 0 (fun _ => 0) K) (hP : va_P (zD g) vwCl (zcW g q K ++ [(b9, .inl (j, 16, .inr (.inl f)))]) H) (hD : va_D A (zcW g q K ++ [(b9, .inl (j, 16, .inr (.inl f)))])) (hS : va_S A s.heap H locs) (hl : lv_has ls 9 [(1, .ref (q 0)), (2, .ref b9)]) : W p l e room_1 s m #[Value.ref b] below meth c H locs 8000 500000 (lw_Z below #[Value.ref b] s) (F0 m 526 ls []) := by
  have hx := F.1.1
  have hb := F.1.2.1
  refine lv_aload_n hx hb dL_law_526 rfl (lv_at hl 0 rfl) ?_
  refine zcw1 (klx2_L_undoing l N g j q K (dx_undo (N := N) hZ) hfl) F hN hJ zyl_L_undoing zw_840 ⟨by decide, by decide⟩ (n := 1) (by decide +kernel) zw_1000 hP hD hS rfl hl.1 (rest := []) rfl (Nat.le_of_ble_eq_true rfl) ⟨rfl, rfl⟩ ⟨Nat.le_of_ble_eq_true rfl, Nat.le_of_ble_eq_true rfl⟩ ⟨Nat.le_of_ble_eq_true rfl, Nat.le_of_ble_eq_true rfl⟩ dL_law_527 (fun H locs hP hD hS => ?_)
  refine lv_iconst (v := (-1)) hx hb dL_law_530 (by decide) ?_
  refine lv_icmp_ne (tgt := 545) hx hb dL_law_531 (by decide) (fun q9 => absurd q9 (by decide)) (fun _ => ?_)
  refine lv_aload_n hx hb dL_law_534 rfl (lv_at hl 0 rfl) ?_
  refine zcu (n := 1) [(b9, .inl (j, 16, .inr (.inl f)))] [25] [1, 2, 3, 4, 5, 6, 7, 8, 9, 10, 11, 12, 13, 14, 15, 16, 17, 18, 19, 20, 21, 22, 23, 24, 25, 0] [0, 1, 2, 3, 4, 5, 6, 7, 8, 9, 10, 11, 12, 13, 14, 15, 16, 17, 18, 19, 20, 21, 22, 23, 24] (refused_ok l hfl hN2 g j q _ _ _ _) hZ F hN hJ hO ⟨zw_923, zw_840, zw_914, ⟨by decide, by decide⟩, by decide +kernel⟩ zw_922 hP hD hS rfl rfl rfl (by decide) (fun _ => rfl) (by decide) rfl hl.1 (rest := []) rfl (Nat.le_of_ble_eq_true rfl) ⟨rfl, rfl⟩ ⟨Nat.le_of_ble_eq_true rfl, Nat.le_of_ble_eq_true rfl⟩ ⟨Nat.le_of_ble_eq_true rfl, Nat.le_of_ble_eq_true rfl⟩ dL_law_535 (st1 := [.int 1]) rfl (fun K H locs hZ hP hD hS => ?_)
  refine lv_if_eq (tgt := 545) hx hb dL_law_538 (by decide) (fun q9 => absurd q9 (by decide)) (fun _ => ?_)
  refine lv_iconst (v := 1) hx hb dL_law_541 (by decide) ?_
  refine lv_goto (tgt := 546) hx hb dL_law_542 (by decide) ?_
  refine va_forget (fun q hq => hAf _ (hS.2.2 q hq)) ?_
  refine W.widen (k := 600074) (n := 7301550) (Nat.le_of_ble_eq_true rfl) (Nat.le_of_ble_eq_true rfl) ?_
  exact lw_ret (d0 := s.drawn) (Drawn.sameBut.refl s.drawn lw_cs) hx hb hr hlocks dL_law_546
end ZLB
