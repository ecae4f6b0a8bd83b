/-! ===== full: sixteen measures, voices with 24 events, a long sentence, a text without room ===== -/
abbrev rm_L_full : Room := { frames := 60, cells := 3000, slots := 130000, locals := 4000 }
theorem iI_le_ {x y : Int} (h1 : -100000 ≤ x) (h2 : x ≤ 100000) (h3 : -100000 ≤ y) (h4 : y ≤ 100000) : (iI x ≤ iI y) = (x ≤ y) := by
  rw [Int32.le_iff_toInt_le, iI_toInt (by omega) (by omega), iI_toInt (by omega) (by omega)]
theorem iI_up (k : Nat) : iI (k : Int) + Int32.ofInt 1 = iI ((k + 1 : Nat) : Int) := by
  rw [show Int32.ofInt 1 = iI 1 from rfl, iI_add]
  congr 1
theorem zRem128 {k : Nat} (h : k ≤ 100000) : iI (k : Int) - iI (k : Int) / 128 * 128 = iI ((k % 128 : Nat) : Int) := by
  have h1 := zRemI (a := (k : Int)) (b := 128) (by omega) (by omega) (by omega) (by omega)
  unfold zRem at h1
  rw [if_neg (by decide)] at h1
  exact (Option.some.inj h1).trans (congrArg iI (by omega))
/-- so many measures, all empty -/
def fuS : Nat → zSt
  | 0 => kS0
  | m + 1 => nwS (fuS m)
theorem fuS_n : ∀ m, (fuS m).1 = m
  | 0 => rfl
  | m + 1 => congrArg (· + 1) (fuS_n m)
/-- sixteen measures, so many notes and rests in the last -/
def fgS : Nat → zSt
  | 0 => fuS 16
  | k + 1 => setAd (setAd (fgS k) 15 0 (62, 3, 9, 1)) 15 1 (-1, 0, 8, 0)
theorem fgS_n : ∀ k, (fgS k).1 = 16
  | 0 => fuS_n 16
  | k + 1 => fgS_n k
set_option maxRecDepth 100000 in
theorem fgS_c : ∀ k, k < 25 → (fgS k).2.2.1 15 0 = k ∧ (fgS k).2.2.1 15 1 = k := by decide +kernel
set_option maxRecDepth 100000 in
theorem fgS_d : ∀ k, k < 25 → (setAd (fgS k) 15 0 (62, 3, 9, 1)).2.2.1 15 1 = k := by decide +kernel
theorem fg_gC {S : zSt} {v k : Nat} (hv : v < 2) (h : S.1 = 16) (hc : S.2.2.1 15 v = k) : gC S 15 (v : Int) = (k : Int) := by
  have := gC_in0 (S := S) (m := 15) (v := v) (by omega) hv
  rw [hc] at this
  exact this
section ZFU
variable {p : Program} {l : Launch} {e : Env} {R : Room} {s : State} {m : MethodId} {args : Array Value} {below : List Frame} {meth : Method} {c : Code} {Q : State → Prop}
variable {N : Nat} {g : zEnv} {j : zJ} {q : Nat → Nat} {A : Nat → Prop}
set_option maxHeartbeats 8000000 in
set_option maxRecDepth 100000 in
theorem fu_l1 (hN2 : 20000 ≤ N) (hfl : l.stackTraces = false) (F : zF p m c cL_full 2 s args RL g A) (hN : zN s) (hJ : va_K (zD g) vwCl (zJT j) s) (hR : 40 ≤ R.frames ∧ 2000 ≤ R.locals) (hcR : 3000 ≤ R.cells ∧ 130000 ≤ R.slots) : ∀ n k : Nat, k + n = 16 → ∀ (hs : List zSt) (K : zKT), zC (fuS k) hs 0 (fun _ => 0) K → ∀ (H : Heap) (locs : List Loc) (ls : Array Slot), va_P (zD g) vwCl (zcW g q K) H → va_D A (zcW g q K) → va_S A s.heap H locs → lv_has ls 2 [(0, .ref (q 0)), (1, .int (iI (k : Int)))] →
    (∀ (hs1 : List zSt) (K1 : zKT) (H1 : Heap) (locs1 : List Loc) (ls1 : Array Slot), zC (fuS 16) hs1 0 (fun _ => 0) K1 → va_P (zD g) vwCl (zcW g q K1) H1 → va_D A (zcW g q K1) → va_S A s.heap H1 locs1 → lv_has ls1 2 [(0, .ref (q 0))] → W p l e R s m args below meth c H1 locs1 (100 + 16) (100000 + 6 * 16) Q (F0 m 32 ls1 [])) → W p l e R s m args below meth c H locs (100 + k) (100000 + 6 * k) Q (F0 m 10 ls []) := by
  have hx := F.1.1
  have hb := F.1.2.1
  intro n
  induction n with
  | zero =>
    intro k hk hs K hZ H locs ls hP hD hS hl kk
    obtain rfl : k = 16 := by omega
    refine lv_iload_n hx hb dL_full_10 rfl (lv_at hl 1 rfl) ?_
    refine lv_bipush (v := 16) hx hb dL_full_11 (by decide) ?_
    refine lv_icmp_ge (tgt := 32) hx hb dL_full_13 (by decide) (fun _ => ?_) (fun q9 => absurd (by decide) q9)
    exact kk hs K H locs ls hZ hP hD hS (lv_sub hl [0] rfl)
  | succ n ih =>
    intro k hk hs K hZ H locs ls hP hD hS hl kk
    refine lv_iload_n hx hb dL_full_10 rfl (lv_at hl 1 rfl) ?_
    refine lv_bipush (v := 16) hx hb dL_full_11 (by decide) ?_
    refine lv_icmp_ge (tgt := 32) hx hb dL_full_13 (by decide) (fun q9 => absurd q9 (by rw [show (16 : Int32) = iI 16 from rfl, iI_le_ (by omega) (by omega) (by omega) (by omega)]; omega)) (fun _ => ?_)
    obtain ⟨r, h, e1, hZ1⟩ := d_addMeasure (N := N) hN2 hZ (by rw [fuS_n]; omega)
    rw [fuS_n] at e1
    refine lv_aload_n hx hb dL_full_16 rfl (lv_at hl 0 rfl) ?_
    refine zcw0 (kl_L_adding l N g j q K r h) F hN hJ zyl_L_adding zw_840 ⟨by decide, by decide⟩ (n := 1) (by decide +kernel) zw_919 hP hD hS rfl hl.1 (rest := []) rfl (Nat.le_of_ble_eq_true rfl) ⟨rfl, rfl⟩ ⟨Nat.le_trans (Nat.le_of_ble_eq_true rfl) hR.1, Nat.le_trans (Nat.le_of_ble_eq_true rfl) hR.2⟩ ⟨by omega, by omega⟩ dL_full_17 (fun H locs hP hD hS => ?_)
    rw [e1]
    refine lv_iload_n hx hb dL_full_20 rfl (lv_at hl 1 rfl) ?_
    refine lv_icmp_eq (tgt := 26) hx hb dL_full_21 (by decide) (fun _ => ?_) (fun q9 => absurd rfl q9)
    refine lv_iinc (v := iI ((k + 1 : Nat) : Int)) (lv' := [(1, .int (iI ((k + 1 : Nat) : Int))), (0, .ref (q 0))]) hx hb dL_full_26 hl (k := 1) rfl (iI_up k) (by decide) rfl (fun ls hl => ?_)
    refine lv_goto (tgt := 10) hx hb dL_full_29 (by decide) ?_
    refine W.widen (k := 100 + (k + 1)) (n := 100000 + 6 * (k + 1)) (by omega) (by omega) ?_
    exact ih (k + 1) (by omega) _ _ hZ1 H _ ls hP hD hS (lv_sub hl [1, 0] rfl) kk
set_option maxHeartbeats 8000000 in
set_option maxRecDepth 100000 in
theorem fu_l2 (hN2 : 20000 ≤ N) (hfl : l.stackTraces = false) (F : zF p m c cL_full 2 s args RL g A) (hN : zN s) (hJ : va_K (zD g) vwCl (zJT j) s) (hR : 40 ≤ R.frames ∧ 2000 ≤ R.locals) (hcR : 3000 ≤ R.cells ∧ 130000 ≤ R.slots) : ∀ n k : Nat, k + n = 24 → ∀ (hs : List zSt) (K : zKT), zC (fgS k) hs 0 (fun _ => 0) K → ∀ (H : Heap) (locs : List Loc) (ls : Array Slot), va_P (zD g) vwCl (zcW g q K) H → va_D A (zcW g q K) → va_S A s.heap H locs → lv_has ls 2 [(0, .ref (q 0)), (1, .int (iI ((k + 1 : Nat) : Int)))] →
    (∀ (hs1 : List zSt) (K1 : zKT) (H1 : Heap) (locs1 : List Loc) (ls1 : Array Slot), zC (fgS 24) hs1 0 (fun _ => 0) K1 → va_P (zD g) vwCl (zcW g q K1) H1 → va_D A (zcW g q K1) → va_S A s.heap H1 locs1 → lv_has ls1 2 [(0, .ref (q 0))] → W p l e R s m args below meth c H1 locs1 (200 + 2 * 24) (101000 + 12 * 24) Q (F0 m 77 ls1 [])) → W p l e R s m args below meth c H locs (200 + 2 * k) (101000 + 12 * k) Q (F0 m 34 ls []) := by
  have hx := F.1.1
  have hb := F.1.2.1
  intro n
  induction n with
  | zero =>
    intro k hk hs K hZ H locs ls hP hD hS hl kk
    obtain rfl : k = 24 := by omega
    refine lv_iload_n hx hb dL_full_34 rfl (lv_at hl 1 rfl) ?_
    refine lv_bipush (v := 24) hx hb dL_full_35 (by decide) ?_
    refine lv_icmp_gt (tgt := 77) hx hb dL_full_37 (by decide) (fun _ => ?_) (fun q9 => absurd (by decide) q9)
    exact kk hs K H locs ls hZ hP hD hS (lv_sub hl [0] rfl)
  | succ n ih =>
    intro k hk hs K hZ H locs ls hP hD hS hl kk
    have hn := fgS_n k
    obtain ⟨hc0, hc1⟩ := fgS_c k (by omega)
    have hd1 := fgS_d k (by omega)
    refine lv_iload_n hx hb dL_full_34 rfl (lv_at hl 1 rfl) ?_
    refine lv_bipush (v := 24) hx hb dL_full_35 (by decide) ?_
    refine lv_icmp_gt (tgt := 77) hx hb dL_full_37 (by decide) (fun q9 => absurd q9 (by rw [show (24 : Int32) = iI 24 from rfl]; show ¬ iI 24 < _; rw [iI_lt (by omega) (by omega) (by omega) (by omega)]; omega)) (fun _ => ?_)
    obtain ⟨r, h, e1, hZ1⟩ := d_addNote (N := N) hN2 hZ (x := 15) (y := 0) (p := 62) (s := 3) (d := 9) (y6 := 1) (by omega) (by decide) (by rw [show gC (fgS k) 15 0 = (k : Int) from fg_gC (v := 0) (by omega) hn hc0]; omega) (yx := 15) (ex := by decide) (yy := 0) (ey := by decide) (yp := 62) (ep := by decide) (ys := 3) (es := by decide) (yd := 9) (ed := by decide)
    have e1 : r.1 = iI ((k + 1 : Nat) : Int) := e1.trans (by rw [show (fgS k).2.2.1 (15 : Int).toNat (0 : Int).toNat = k from hc0])
    refine lv_aload_n hx hb dL_full_40 rfl (lv_at hl 0 rfl) ?_
    refine lv_bipush (v := 15) hx hb dL_full_41 (by decide) ?_
    refine lv_iconst (v := 0) hx hb dL_full_43 (by decide) ?_
    refine lv_bipush (v := 62) hx hb dL_full_44 (by decide) ?_
    refine lv_iconst (v := 3) hx hb dL_full_46 (by decide) ?_
    refine lv_bipush (v := 9) hx hb dL_full_47 (by decide) ?_
    refine zcw0 (kl_L_noting l N g j q K 15 0 62 3 9 r h) F hN hJ zyl_L_noting zw_840 ⟨by decide, by decide⟩ (n := 6) (by decide +kernel) zw_845 hP hD hS rfl hl.1 (rest := []) rfl (Nat.le_of_ble_eq_true rfl) ⟨rfl, rfl⟩ ⟨Nat.le_trans (Nat.le_of_ble_eq_true rfl) hR.1, Nat.le_trans (Nat.le_of_ble_eq_true rfl) hR.2⟩ ⟨by omega, by omega⟩ dL_full_49 (fun H locs hP hD hS => ?_)
    rw [e1]
    refine lv_iload_n hx hb dL_full_52 rfl (lv_at hl 1 rfl) ?_
    refine lv_icmp_ne (tgt := 69) hx hb dL_full_53 (by decide) (fun q9 => absurd rfl q9) (fun _ => ?_)
    have hZ1 : zC (setAd (fgS k) 15 0 (62, 3, 9, 1)) _ 0 (fun _ => 0) _ := hZ1
    obtain ⟨r2, h2, e2, hZ2⟩ := d_addRest (N := N) hN2 hZ1 (x := 15) (y := 1) (d := 8) (by have : (setAd (fgS k) 15 0 (62, 3, 9, 1)).1 = 16 := hn; omega) (by decide) (by rw [show gC (setAd (fgS k) 15 0 (62, 3, 9, 1)) 15 1 = (k : Int) from fg_gC (v := 1) (k := k) (by omega) hn hd1]; omega) (yx := 15) (ex := by decide) (yy := 1) (ey := by decide) (yd := 8) (ed := by decide)
    have e2 : r2.1 = iI ((k + 1 : Nat) : Int) := e2.trans (by rw [show (setAd (fgS k) 15 0 (62, 3, 9, 1)).2.2.1 (15 : Int).toNat (1 : Int).toNat = k from hd1])
    refine lv_aload_n hx hb dL_full_56 rfl (lv_at hl 0 rfl) ?_
    refine lv_bipush (v := 15) hx hb dL_full_57 (by decide) ?_
    refine lv_iconst (v := 1) hx hb dL_full_59 (by decide) ?_
    refine lv_bipush (v := 8) hx hb dL_full_60 (by decide) ?_
    refine zcw0 (kl_L_resting l N g j q _ 15 1 8 r2 h2) F hN hJ zyl_L_resting zw_840 ⟨by decide, by decide⟩ (n := 4) (by decide +kernel) zw_848 hP hD hS rfl hl.1 (rest := []) rfl (Nat.le_of_ble_eq_true rfl) ⟨rfl, rfl⟩ ⟨Nat.le_trans (Nat.le_of_ble_eq_true rfl) hR.1, Nat.le_trans (Nat.le_of_ble_eq_true rfl) hR.2⟩ ⟨by omega, by omega⟩ dL_full_62 (fun H locs hP hD hS => ?_)
    rw [e2]
    refine lv_iload_n hx hb dL_full_65 rfl (lv_at hl 1 rfl) ?_
    refine lv_icmp_eq (tgt := 71) hx hb dL_full_66 (by decide) (fun _ => ?_) (fun q9 => absurd rfl q9)
    refine lv_iinc (v := iI ((k + 1 + 1 : Nat) : Int)) (lv' := [(1, .int (iI ((k + 1 + 1 : Nat) : Int))), (0, .ref (q 0))]) hx hb dL_full_71 hl (k := 1) rfl (iI_up (k + 1)) (by decide) rfl (fun ls hl => ?_)
    refine lv_goto (tgt := 34) hx hb dL_full_74 (by decide) ?_
    refine W.widen (k := 200 + 2 * (k + 1)) (n := 101000 + 12 * (k + 1)) (by omega) (by omega) ?_
    exact ih (k + 1) (by omega) _ _ hZ2 H _ ls hP hD hS (lv_sub hl [1, 0] rfl) kk
set_option maxHeartbeats 8000000 in
set_option maxRecDepth 100000 in
theorem fu_l3 {S : zSt} {hs : List zSt} (hN2 : 20000 ≤ N) (hfl : l.stackTraces = false) (F : zF p m c cL_full 2 s args RL g A) (hN : zN s) (hJ : va_K (zD g) vwCl (zJT j) s) (hR : 40 ≤ R.frames ∧ 2000 ≤ R.locals) (hcR : 3000 ≤ R.cells ∧ 130000 ≤ R.slots) : ∀ n k : Nat, k + n = 600 → ∀ (K : zKT), zC S hs k (fun i => ((i + 1) % 128 : Nat)) K → ∀ (H : Heap) (locs : List Loc) (ls : Array Slot), va_P (zD g) vwCl (zcW g q K) H → va_D A (zcW g q K) → va_S A s.heap H locs → lv_has ls 2 [(0, .ref (q 0)), (1, .int (iI ((k + 1 : Nat) : Int)))] →
    (∀ (K1 : zKT) (H1 : Heap) (locs1 : List Loc) (ls1 : Array Slot), zC S hs 600 (fun i => ((i + 1) % 128 : Nat)) K1 → va_P (zD g) vwCl (zcW g q K1) H1 → va_D A (zcW g q K1) → va_S A s.heap H1 locs1 → lv_has ls1 2 [(0, .ref (q 0))] → W p l e R s m args below meth c H1 locs1 (600 + 600) (104000 + 6 * 600) Q (F0 m 289 ls1 [])) → W p l e R s m args below meth c H locs (600 + k) (104000 + 6 * k) Q (F0 m 261 ls []) := by
  have hx := F.1.1
  have hb := F.1.2.1
  intro n
  induction n with
  | zero =>
    intro k hk K hZ H locs ls hP hD hS hl kk
    obtain rfl : k = 600 := by omega
    refine lv_iload_n hx hb dL_full_261 rfl (lv_at hl 1 rfl) ?_
    refine lv_sipush (v := 600) hx hb dL_full_262 (by decide) ?_
    refine lv_icmp_gt (tgt := 289) hx hb dL_full_265 (by decide) (fun _ => ?_) (fun q9 => absurd (by decide) q9)
    exact kk K H locs ls hZ hP hD hS (lv_sub hl [0] rfl)
  | succ n ih =>
    intro k hk K hZ H locs ls hP hD hS hl kk
    refine lv_iload_n hx hb dL_full_261 rfl (lv_at hl 1 rfl) ?_
    refine lv_sipush (v := 600) hx hb dL_full_262 (by decide) ?_
    refine lv_icmp_gt (tgt := 289) hx hb dL_full_265 (by decide) (fun q9 => absurd q9 (by rw [show (600 : Int32) = iI 600 from rfl]; show ¬ iI 600 < _; rw [iI_lt (by omega) (by omega) (by omega) (by omega)]; omega)) (fun _ => ?_)
    obtain ⟨r, h, e1, hZ1⟩ := d_type (N := N) hZ (a := (((k + 1) % 128 : Nat) : Int)) (zIn_ _ (by omega)) (by omega) (by omega) (ea := rfl)
    refine lv_aload_n hx hb dL_full_268 rfl (lv_at hl 0 rfl) ?_
    refine lv_iload_n hx hb dL_full_269 rfl (lv_at hl 1 rfl) ?_
    refine lv_sipush (v := 128) hx hb dL_full_270 (by decide) ?_
    refine lv_irem hx hb dL_full_273 (by decide) ?_
    rw [zRem128 (by omega)]
    refine zcw0 (kl_L_typing l N g j q K _ r h) F hN hJ zyl_L_typing zw_840 ⟨by decide, by decide⟩ (n := 2) (by decide +kernel) zw_908 hP hD hS rfl hl.1 (rest := []) rfl (Nat.le_of_ble_eq_true rfl) ⟨rfl, rfl⟩ ⟨Nat.le_trans (Nat.le_of_ble_eq_true rfl) hR.1, Nat.le_trans (Nat.le_of_ble_eq_true rfl) hR.2⟩ ⟨by omega, by omega⟩ dL_full_274 (fun H locs hP hD hS => ?_)
    rw [e1]
    refine lv_iload_n hx hb dL_full_277 rfl (lv_at hl 1 rfl) ?_
    refine lv_icmp_eq (tgt := 283) hx hb dL_full_278 (by decide) (fun _ => ?_) (fun q9 => absurd rfl q9)
    refine lv_iinc (v := iI ((k + 1 + 1 : Nat) : Int)) (lv' := [(1, .int (iI ((k + 1 + 1 : Nat) : Int))), (0, .ref (q 0))]) hx hb dL_full_283 hl (k := 1) rfl (iI_up (k + 1)) (by decide) rfl (fun ls hl => ?_)
    refine lv_goto (tgt := 261) hx hb dL_full_286 (by decide) ?_
    refine W.widen (k := 600 + (k + 1)) (n := 104000 + 6 * (k + 1)) (by omega) (by omega) ?_
    refine ih (k + 1) (by omega) _ (zC_cong hZ1 (fun i hi => ?_)) H _ ls hP hD hS (lv_sub hl [1, 0] rfl) kk
    split
    · next hq => rw [hq]
    · rfl
end ZFU
set_option maxRecDepth 100000 in
theorem fu_len : (zwR (snW (fgS 24) 15)).length = 1202 := by decide +kernel
set_option maxRecDepth 100000 in
theorem fu_wds : (snW (fgS 24) 15).length = 199 := by decide +kernel
set_option maxHeartbeats 8000000 in
set_option maxRecDepth 100000 in
theorem full_ok (l : Launch) (hfl : l.stackTraces = false) (N : Nat) (hN2 : 20000 ≤ N) (g : zEnv) (j : zJ) : ZU0 l yL_full cL_full 2 (some .boolean) rm_L_full g j (some (.int 1)) 3000 130000 := by
  refine zW0_of (by decide) (Nat.le_of_ble_eq_true rfl) ?_
  intro p e s m below meth c A H locs ls Q R F hRm hr hlocks hN hJ hO hP hD hS hl hQ
  subst hRm
  have F : zF p m c cL_full 2 s (([] : List Value)).toArray RL g A := F
  have hx := F.1.1
  have hb := F.1.2.1
  have hz := F.1.2.2.2.2
  have hl : lv_has ls 2 [] := hl
  refine z_new (C := RX9) (T := TX9) (N := 7) (ci := 7) (fs := [.null, .null, .null, .null, .null, .null, .null]) F zu_wsX90 tyX9 tyX9_ok zw_915 zw_916 zw_527 hP hD hS rfl (by decide) (Nat.le_of_ble_eq_true rfl) (Nat.le_of_ble_eq_true rfl) dL_full_0 (fun q0 H hP hD hS => ?_)
  have hP : va_P (zD g) vwCl [(q0, .inr (7, [.null, .null, .null, .null, .null, .null, .null]))] H := hP
  have hD : va_D A [(q0, .inr (7, [.null, .null, .null, .null, .null, .null, .null]))] := hD
  refine lv_dup hx hb dL_full_3 rfl ?_
  refine zCI (n := 0) (W1 := fun z9 => [(q0, .inr (7, [.ref z9.1, .ref z9.2.2.1, .ref z9.2.2.2.2.2.2.2.2.2.2.2.2.1, .ref z9.2.2.2.2.2.2.2.2.2.2.2.2.2.2.1, .ref z9.2.2.2.2.2.2.2.2.2.2.2.2.2.2.2.2.1, .ref z9.2.2.2.2.2.2.2.2.2.2.2.2.2.2.2.2.2.2.2.1, .ref z9.2.2.2.2.2.2.2.2.2.2.2.2.2.2.2.2.2.2.2.2.2.2.1])), (z9.1, .inr (3, [.ref z9.2.1, .int 0])), (z9.2.1, .inl (zI g, 912, .inl (fun _ => 0))), (z9.2.2.1, .inr (0, [.ref z9.2.2.2.1, .int 0, .int 0])), (z9.2.2.2.1, .inl (zO g, 4, .inr (.inr (.inr (.inr (va_up (va_up (va_up (va_up (fun _ => none) 0 (some z9.2.2.2.2.1)) 1 (some z9.2.2.2.2.2.2.1)) 2 (some z9.2.2.2.2.2.2.2.2.1)) 3 (some z9.2.2.2.2.2.2.2.2.2.2.1))))))), (z9.2.2.2.2.1, .inr (3, [.ref z9.2.2.2.2.2.1, .int 0])), (z9.2.2.2.2.2.1, .inl (zI g, 912, .inl (fun _ => 0))), (z9.2.2.2.2.2.2.1, .inr (3, [.ref z9.2.2.2.2.2.2.2.1, .int 0])), (z9.2.2.2.2.2.2.2.1, .inl (zI g, 912, .inl (fun _ => 0))), (z9.2.2.2.2.2.2.2.2.1, .inr (3, [.ref z9.2.2.2.2.2.2.2.2.2.1, .int 0])), (z9.2.2.2.2.2.2.2.2.2.1, .inl (zI g, 912, .inl (fun _ => 0))), (z9.2.2.2.2.2.2.2.2.2.2.1, .inr (3, [.ref z9.2.2.2.2.2.2.2.2.2.2.2.1, .int 0])), (z9.2.2.2.2.2.2.2.2.2.2.2.1, .inl (zI g, 912, .inl (fun _ => 0))), (z9.2.2.2.2.2.2.2.2.2.2.2.2.1, .inr (6, [.ref z9.2.2.2.2.2.2.2.2.2.2.2.2.2.1, .int 0])), (z9.2.2.2.2.2.2.2.2.2.2.2.2.2.1, .inl (zY g, 600, .inl (fun _ => 0))), (z9.2.2.2.2.2.2.2.2.2.2.2.2.2.2.1, .inr (4, [.ref z9.2.2.2.2.2.2.2.2.2.2.2.2.2.2.2.1, .int 0, .int 0])), (z9.2.2.2.2.2.2.2.2.2.2.2.2.2.2.2.1, .inl (zY g, 1702, .inl (fun _ => 0))), (z9.2.2.2.2.2.2.2.2.2.2.2.2.2.2.2.2.1, .inr (2, [.ref z9.2.2.2.2.2.2.2.2.2.2.2.2.1, .ref z9.2.2.2.2.2.2.2.2.2.2.2.2.2.2.2.2.2.1, .int 0, .int 0, .int 0])), (z9.2.2.2.2.2.2.2.2.2.2.2.2.2.2.2.2.2.1, .inr (3, [.ref z9.2.2.2.2.2.2.2.2.2.2.2.2.2.2.2.2.2.2.1, .int 0])), (z9.2.2.2.2.2.2.2.2.2.2.2.2.2.2.2.2.2.2.1, .inl (zI g, 912, .inl (fun _ => 0))), (z9.2.2.2.2.2.2.2.2.2.2.2.2.2.2.2.2.2.2.2.1, .inr (5, [.ref z9.1, .ref z9.2.2.2.2.2.2.2.2.2.2.2.2.2.2.2.2.2.2.2.2.1, .ref z9.2.2.2.2.2.2.2.2.2.2.2.2.2.2.2.2.2.2.2.2.2.1])), (z9.2.2.2.2.2.2.2.2.2.2.2.2.2.2.2.2.2.2.2.2.1, .inl (zI g, 768, .inl (fun _ => 0))), (z9.2.2.2.2.2.2.2.2.2.2.2.2.2.2.2.2.2.2.2.2.2.1, .inl (zI g, 768, .inl (fun _ => 0))), (z9.2.2.2.2.2.2.2.2.2.2.2.2.2.2.2.2.2.2.2.2.2.2.1, .inr (1, [.ref z9.2.2.2.2.2.2.2.2.2.2.2.2.2.2.2.2.2.2.2.2.2.2.2, .int 0])), (z9.2.2.2.2.2.2.2.2.2.2.2.2.2.2.2.2.2.2.2.2.2.2.2, .inl (zI g, 200, .inl (fun _ => 0)))]) F hO (k_X9_init l g q0) zw_506 zw_527 ⟨by decide, by decide⟩ (by decide +kernel) rfl zw_918 zw_917 hP hD hS [0] [] [0, 1, 2, 3, 4, 5, 6, 7, 8, 9, 10, 11, 12, 13, 14, 15, 16, 17, 18, 19, 20, 21, 22, 23, 24] (wr := []) rfl rfl rfl rfl (by decide) (fun _ => rfl) rfl (rest := [.ref q0]) (As := []) rfl hl.1 rfl (Nat.le_of_ble_eq_true rfl) ⟨rfl, rfl⟩ ⟨(Nat.le_of_ble_eq_true rfl), (Nat.le_of_ble_eq_true rfl)⟩ ⟨(Nat.le_of_ble_eq_true rfl), (Nat.le_of_ble_eq_true rfl)⟩ dL_full_4 (fun z9 H locs hP hD hS => ?_)
  obtain ⟨q, hq⟩ : ∃ q : Nat → Nat, q = fun i => ([q0, z9.2.2.1, z9.2.2.2.2.2.2.2.2.2.2.2.2.2.2.2.2.2.2.2.2.2.2.1, z9.2.2.2.2.2.2.2.2.2.2.2.2.2.2.2.2.1, z9.1, z9.2.2.2.2.2.2.2.2.2.2.2.2.2.2.1, z9.2.2.2.2.2.2.2.2.2.2.2.2.2.2.2.2.2.2.2.1, z9.2.2.2.2.2.2.2.2.2.2.2.2.1, z9.2.2.2.2.1, z9.2.2.2.2.2.2.1, z9.2.2.2.2.2.2.2.2.1, z9.2.2.2.2.2.2.2.2.2.2.1, z9.2.2.2.1, z9.2.2.2.2.2.2.2.2.2.2.2.2.2.2.2.2.2.2.2.2.2.2.2, z9.2.2.2.2.2.2.2.2.2.2.2.2.2.2.2.2.2.1, z9.2.1, z9.2.2.2.2.2.2.2.2.2.2.2.2.2.2.2.1, z9.2.2.2.2.2.2.2.2.2.2.2.2.2.2.2.2.2.2.2.2.2.1, z9.2.2.2.2.2.2.2.2.2.2.2.2.2.2.2.2.2.2.2.2.1, z9.2.2.2.2.2.2.2.2.2.2.2.2.2.1, z9.2.2.2.2.2.1, z9.2.2.2.2.2.2.2.1, z9.2.2.2.2.2.2.2.2.2.1, z9.2.2.2.2.2.2.2.2.2.2.2.1, z9.2.2.2.2.2.2.2.2.2.2.2.2.2.2.2.2.2.2.1] : List Nat).getD i 0 := ⟨_, rfl⟩
  have hP := hP.sub (ws' := [(q0, .inr (7, [.ref z9.1, .ref z9.2.2.1, .ref z9.2.2.2.2.2.2.2.2.2.2.2.2.1, .ref z9.2.2.2.2.2.2.2.2.2.2.2.2.2.2.1, .ref z9.2.2.2.2.2.2.2.2.2.2.2.2.2.2.2.2.1, .ref z9.2.2.2.2.2.2.2.2.2.2.2.2.2.2.2.2.2.2.2.1, .ref z9.2.2.2.2.2.2.2.2.2.2.2.2.2.2.2.2.2.2.2.2.2.2.1])), (z9.2.2.1, .inr (0, [.ref z9.2.2.2.1, .int 0, .int 0])), (z9.2.2.2.2.2.2.2.2.2.2.2.2.2.2.2.2.2.2.2.2.2.2.1, .inr (1, [.ref z9.2.2.2.2.2.2.2.2.2.2.2.2.2.2.2.2.2.2.2.2.2.2.2, .int 0])), (z9.2.2.2.2.2.2.2.2.2.2.2.2.2.2.2.2.1, .inr (2, [.ref z9.2.2.2.2.2.2.2.2.2.2.2.2.1, .ref z9.2.2.2.2.2.2.2.2.2.2.2.2.2.2.2.2.2.1, .int 0, .int 0, .int 0])), (z9.1, .inr (3, [.ref z9.2.1, .int 0])), (z9.2.2.2.2.2.2.2.2.2.2.2.2.2.2.1, .inr (4, [.ref z9.2.2.2.2.2.2.2.2.2.2.2.2.2.2.2.1, .int 0, .int 0])), (z9.2.2.2.2.2.2.2.2.2.2.2.2.2.2.2.2.2.2.2.1, .inr (5, [.ref z9.1, .ref z9.2.2.2.2.2.2.2.2.2.2.2.2.2.2.2.2.2.2.2.2.1, .ref z9.2.2.2.2.2.2.2.2.2.2.2.2.2.2.2.2.2.2.2.2.2.1])), (z9.2.2.2.2.2.2.2.2.2.2.2.2.1, .inr (6, [.ref z9.2.2.2.2.2.2.2.2.2.2.2.2.2.1, .int 0])), (z9.2.2.2.2.1, .inr (3, [.ref z9.2.2.2.2.2.1, .int 0])), (z9.2.2.2.2.2.2.1, .inr (3, [.ref z9.2.2.2.2.2.2.2.1, .int 0])), (z9.2.2.2.2.2.2.2.2.1, .inr (3, [.ref z9.2.2.2.2.2.2.2.2.2.1, .int 0])), (z9.2.2.2.2.2.2.2.2.2.2.1, .inr (3, [.ref z9.2.2.2.2.2.2.2.2.2.2.2.1, .int 0])), (z9.2.2.2.1, .inl (zO g, 4, .inr (.inr (.inr (.inr (va_up (va_up (va_up (va_up (fun _ => none) 0 (some z9.2.2.2.2.1)) 1 (some z9.2.2.2.2.2.2.1)) 2 (some z9.2.2.2.2.2.2.2.2.1)) 3 (some z9.2.2.2.2.2.2.2.2.2.2.1))))))), (z9.2.2.2.2.2.2.2.2.2.2.2.2.2.2.2.2.2.2.2.2.2.2.2, .inl (zI g, 200, .inl (fun _ => 0))), (z9.2.2.2.2.2.2.2.2.2.2.2.2.2.2.2.2.2.1, .inr (3, [.ref z9.2.2.2.2.2.2.2.2.2.2.2.2.2.2.2.2.2.2.1, .int 0])), (z9.2.1, .inl (zI g, 912, .inl (fun _ => 0))), (z9.2.2.2.2.2.2.2.2.2.2.2.2.2.2.2.1, .inl (zY g, 1702, .inl (fun _ => 0))), (z9.2.2.2.2.2.2.2.2.2.2.2.2.2.2.2.2.2.2.2.2.2.1, .inl (zI g, 768, .inl (fun _ => 0))), (z9.2.2.2.2.2.2.2.2.2.2.2.2.2.2.2.2.2.2.2.2.1, .inl (zI g, 768, .inl (fun _ => 0))), (z9.2.2.2.2.2.2.2.2.2.2.2.2.2.1, .inl (zY g, 600, .inl (fun _ => 0))), (z9.2.2.2.2.2.1, .inl (zI g, 912, .inl (fun _ => 0))), (z9.2.2.2.2.2.2.2.1, .inl (zI g, 912, .inl (fun _ => 0))), (z9.2.2.2.2.2.2.2.2.2.1, .inl (zI g, 912, .inl (fun _ => 0))), (z9.2.2.2.2.2.2.2.2.2.2.2.1, .inl (zI g, 912, .inl (fun _ => 0))), (z9.2.2.2.2.2.2.2.2.2.2.2.2.2.2.2.2.2.2.1, .inl (zI g, 912, .inl (fun _ => 0)))]) [0, 3, 23, 17, 1, 15, 20, 13, 5, 7, 9, 11, 4, 24, 18, 2, 16, 22, 21, 14, 6, 8, 10, 12, 19] rfl
  have hD := hD.sub (ws' := [(q0, .inr (7, [.ref z9.1, .ref z9.2.2.1, .ref z9.2.2.2.2.2.2.2.2.2.2.2.2.1, .ref z9.2.2.2.2.2.2.2.2.2.2.2.2.2.2.1, .ref z9.2.2.2.2.2.2.2.2.2.2.2.2.2.2.2.2.1, .ref z9.2.2.2.2.2.2.2.2.2.2.2.2.2.2.2.2.2.2.2.1, .ref z9.2.2.2.2.2.2.2.2.2.2.2.2.2.2.2.2.2.2.2.2.2.2.1])), (z9.2.2.1, .inr (0, [.ref z9.2.2.2.1, .int 0, .int 0])), (z9.2.2.2.2.2.2.2.2.2.2.2.2.2.2.2.2.2.2.2.2.2.2.1, .inr (1, [.ref z9.2.2.2.2.2.2.2.2.2.2.2.2.2.2.2.2.2.2.2.2.2.2.2, .int 0])), (z9.2.2.2.2.2.2.2.2.2.2.2.2.2.2.2.2.1, .inr (2, [.ref z9.2.2.2.2.2.2.2.2.2.2.2.2.1, .ref z9.2.2.2.2.2.2.2.2.2.2.2.2.2.2.2.2.2.1, .int 0, .int 0, .int 0])), (z9.1, .inr (3, [.ref z9.2.1, .int 0])), (z9.2.2.2.2.2.2.2.2.2.2.2.2.2.2.1, .inr (4, [.ref z9.2.2.2.2.2.2.2.2.2.2.2.2.2.2.2.1, .int 0, .int 0])), (z9.2.2.2.2.2.2.2.2.2.2.2.2.2.2.2.2.2.2.2.1, .inr (5, [.ref z9.1, .ref z9.2.2.2.2.2.2.2.2.2.2.2.2.2.2.2.2.2.2.2.2.1, .ref z9.2.2.2.2.2.2.2.2.2.2.2.2.2.2.2.2.2.2.2.2.2.1])), (z9.2.2.2.2.2.2.2.2.2.2.2.2.1, .inr (6, [.ref z9.2.2.2.2.2.2.2.2.2.2.2.2.2.1, .int 0])), (z9.2.2.2.2.1, .inr (3, [.ref z9.2.2.2.2.2.1, .int 0])), (z9.2.2.2.2.2.2.1, .inr (3, [.ref z9.2.2.2.2.2.2.2.1, .int 0])), (z9.2.2.2.2.2.2.2.2.1, .inr (3, [.ref z9.2.2.2.2.2.2.2.2.2.1, .int 0])), (z9.2.2.2.2.2.2.2.2.2.2.1, .inr (3, [.ref z9.2.2.2.2.2.2.2.2.2.2.2.1, .int 0])), (z9.2.2.2.1, .inl (zO g, 4, .inr (.inr (.inr (.inr (va_up (va_up (va_up (va_up (fun _ => none) 0 (some z9.2.2.2.2.1)) 1 (some z9.2.2.2.2.2.2.1)) 2 (some z9.2.2.2.2.2.2.2.2.1)) 3 (some z9.2.2.2.2.2.2.2.2.2.2.1))))))), (z9.2.2.2.2.2.2.2.2.2.2.2.2.2.2.2.2.2.2.2.2.2.2.2, .inl (zI g, 200, .inl (fun _ => 0))), (z9.2.2.2.2.2.2.2.2.2.2.2.2.2.2.2.2.2.1, .inr (3, [.ref z9.2.2.2.2.2.2.2.2.2.2.2.2.2.2.2.2.2.2.1, .int 0])), (z9.2.1, .inl (zI g, 912, .inl (fun _ => 0))), (z9.2.2.2.2.2.2.2.2.2.2.2.2.2.2.2.1, .inl (zY g, 1702, .inl (fun _ => 0))), (z9.2.2.2.2.2.2.2.2.2.2.2.2.2.2.2.2.2.2.2.2.2.1, .inl (zI g, 768, .inl (fun _ => 0))), (z9.2.2.2.2.2.2.2.2.2.2.2.2.2.2.2.2.2.2.2.2.1, .inl (zI g, 768, .inl (fun _ => 0))), (z9.2.2.2.2.2.2.2.2.2.2.2.2.2.1, .inl (zY g, 600, .inl (fun _ => 0))), (z9.2.2.2.2.2.1, .inl (zI g, 912, .inl (fun _ => 0))), (z9.2.2.2.2.2.2.2.1, .inl (zI g, 912, .inl (fun _ => 0))), (z9.2.2.2.2.2.2.2.2.2.1, .inl (zI g, 912, .inl (fun _ => 0))), (z9.2.2.2.2.2.2.2.2.2.2.2.1, .inl (zI g, 912, .inl (fun _ => 0))), (z9.2.2.2.2.2.2.2.2.2.2.2.2.2.2.2.2.2.2.1, .inl (zI g, 912, .inl (fun _ => 0)))]) [0, 3, 23, 17, 1, 15, 20, 13, 5, 7, 9, 11, 4, 24, 18, 2, 16, 22, 21, 14, 6, 8, 10, 12, 19] (by decide) rfl
  have hP := zCell (W1 := [(q0, .inr (7, [.ref z9.1, .ref z9.2.2.1, .ref z9.2.2.2.2.2.2.2.2.2.2.2.2.1, .ref z9.2.2.2.2.2.2.2.2.2.2.2.2.2.2.1, .ref z9.2.2.2.2.2.2.2.2.2.2.2.2.2.2.2.2.1, .ref z9.2.2.2.2.2.2.2.2.2.2.2.2.2.2.2.2.2.2.2.1, .ref z9.2.2.2.2.2.2.2.2.2.2.2.2.2.2.2.2.2.2.2.2.2.2.1])), (z9.2.2.1, .inr (0, [.ref z9.2.2.2.1, .int 0, .int 0])), (z9.2.2.2.2.2.2.2.2.2.2.2.2.2.2.2.2.2.2.2.2.2.2.1, .inr (1, [.ref z9.2.2.2.2.2.2.2.2.2.2.2.2.2.2.2.2.2.2.2.2.2.2.2, .int 0])), (z9.2.2.2.2.2.2.2.2.2.2.2.2.2.2.2.2.1, .inr (2, [.ref z9.2.2.2.2.2.2.2.2.2.2.2.2.1, .ref z9.2.2.2.2.2.2.2.2.2.2.2.2.2.2.2.2.2.1, .int 0, .int 0, .int 0])), (z9.1, .inr (3, [.ref z9.2.1, .int 0])), (z9.2.2.2.2.2.2.2.2.2.2.2.2.2.2.1, .inr (4, [.ref z9.2.2.2.2.2.2.2.2.2.2.2.2.2.2.2.1, .int 0, .int 0])), (z9.2.2.2.2.2.2.2.2.2.2.2.2.2.2.2.2.2.2.2.1, .inr (5, [.ref z9.1, .ref z9.2.2.2.2.2.2.2.2.2.2.2.2.2.2.2.2.2.2.2.2.1, .ref z9.2.2.2.2.2.2.2.2.2.2.2.2.2.2.2.2.2.2.2.2.2.1])), (z9.2.2.2.2.2.2.2.2.2.2.2.2.1, .inr (6, [.ref z9.2.2.2.2.2.2.2.2.2.2.2.2.2.1, .int 0])), (z9.2.2.2.2.1, .inr (3, [.ref z9.2.2.2.2.2.1, .int 0])), (z9.2.2.2.2.2.2.1, .inr (3, [.ref z9.2.2.2.2.2.2.2.1, .int 0])), (z9.2.2.2.2.2.2.2.2.1, .inr (3, [.ref z9.2.2.2.2.2.2.2.2.2.1, .int 0])), (z9.2.2.2.2.2.2.2.2.2.2.1, .inr (3, [.ref z9.2.2.2.2.2.2.2.2.2.2.2.1, .int 0])), (z9.2.2.2.1, .inl (zO g, 4, .inr (.inr (.inr (.inr (zSv z9.2.2.2.2.1 z9.2.2.2.2.2.2.1 z9.2.2.2.2.2.2.2.2.1 z9.2.2.2.2.2.2.2.2.2.2.1)))))), (z9.2.2.2.2.2.2.2.2.2.2.2.2.2.2.2.2.2.2.2.2.2.2.2, .inl (zI g, 200, .inl (fun _ => 0))), (z9.2.2.2.2.2.2.2.2.2.2.2.2.2.2.2.2.2.1, .inr (3, [.ref z9.2.2.2.2.2.2.2.2.2.2.2.2.2.2.2.2.2.2.1, .int 0])), (z9.2.1, .inl (zI g, 912, .inl (fun _ => 0))), (z9.2.2.2.2.2.2.2.2.2.2.2.2.2.2.2.1, .inl (zY g, 1702, .inl (fun _ => 0))), (z9.2.2.2.2.2.2.2.2.2.2.2.2.2.2.2.2.2.2.2.2.2.1, .inl (zI g, 768, .inl (fun _ => 0))), (z9.2.2.2.2.2.2.2.2.2.2.2.2.2.2.2.2.2.2.2.2.1, .inl (zI g, 768, .inl (fun _ => 0))), (z9.2.2.2.2.2.2.2.2.2.2.2.2.2.1, .inl (zY g, 600, .inl (fun _ => 0))), (z9.2.2.2.2.2.1, .inl (zI g, 912, .inl (fun _ => 0))), (z9.2.2.2.2.2.2.2.1, .inl (zI g, 912, .inl (fun _ => 0))), (z9.2.2.2.2.2.2.2.2.2.1, .inl (zI g, 912, .inl (fun _ => 0))), (z9.2.2.2.2.2.2.2.2.2.2.2.1, .inl (zI g, 912, .inl (fun _ => 0))), (z9.2.2.2.2.2.2.2.2.2.2.2.2.2.2.2.2.2.2.1, .inl (zI g, 912, .inl (fun _ => 0)))]) (i := 12) hP rfl rfl zSvA
  have hD : va_D A [(q0, .inr (7, [.ref z9.1, .ref z9.2.2.1, .ref z9.2.2.2.2.2.2.2.2.2.2.2.2.1, .ref z9.2.2.2.2.2.2.2.2.2.2.2.2.2.2.1, .ref z9.2.2.2.2.2.2.2.2.2.2.2.2.2.2.2.2.1, .ref z9.2.2.2.2.2.2.2.2.2.2.2.2.2.2.2.2.2.2.2.1, .ref z9.2.2.2.2.2.2.2.2.2.2.2.2.2.2.2.2.2.2.2.2.2.2.1])), (z9.2.2.1, .inr (0, [.ref z9.2.2.2.1, .int 0, .int 0])), (z9.2.2.2.2.2.2.2.2.2.2.2.2.2.2.2.2.2.2.2.2.2.2.1, .inr (1, [.ref z9.2.2.2.2.2.2.2.2.2.2.2.2.2.2.2.2.2.2.2.2.2.2.2, .int 0])), (z9.2.2.2.2.2.2.2.2.2.2.2.2.2.2.2.2.1, .inr (2, [.ref z9.2.2.2.2.2.2.2.2.2.2.2.2.1, .ref z9.2.2.2.2.2.2.2.2.2.2.2.2.2.2.2.2.2.1, .int 0, .int 0, .int 0])), (z9.1, .inr (3, [.ref z9.2.1, .int 0])), (z9.2.2.2.2.2.2.2.2.2.2.2.2.2.2.1, .inr (4, [.ref z9.2.2.2.2.2.2.2.2.2.2.2.2.2.2.2.1, .int 0, .int 0])), (z9.2.2.2.2.2.2.2.2.2.2.2.2.2.2.2.2.2.2.2.1, .inr (5, [.ref z9.1, .ref z9.2.2.2.2.2.2.2.2.2.2.2.2.2.2.2.2.2.2.2.2.1, .ref z9.2.2.2.2.2.2.2.2.2.2.2.2.2.2.2.2.2.2.2.2.2.1])), (z9.2.2.2.2.2.2.2.2.2.2.2.2.1, .inr (6, [.ref z9.2.2.2.2.2.2.2.2.2.2.2.2.2.1, .int 0])), (z9.2.2.2.2.1, .inr (3, [.ref z9.2.2.2.2.2.1, .int 0])), (z9.2.2.2.2.2.2.1, .inr (3, [.ref z9.2.2.2.2.2.2.2.1, .int 0])), (z9.2.2.2.2.2.2.2.2.1, .inr (3, [.ref z9.2.2.2.2.2.2.2.2.2.1, .int 0])), (z9.2.2.2.2.2.2.2.2.2.2.1, .inr (3, [.ref z9.2.2.2.2.2.2.2.2.2.2.2.1, .int 0])), (z9.2.2.2.1, .inl (zO g, 4, .inr (.inr (.inr (.inr (zSv z9.2.2.2.2.1 z9.2.2.2.2.2.2.1 z9.2.2.2.2.2.2.2.2.1 z9.2.2.2.2.2.2.2.2.2.2.1)))))), (z9.2.2.2.2.2.2.2.2.2.2.2.2.2.2.2.2.2.2.2.2.2.2.2, .inl (zI g, 200, .inl (fun _ => 0))), (z9.2.2.2.2.2.2.2.2.2.2.2.2.2.2.2.2.2.1, .inr (3, [.ref z9.2.2.2.2.2.2.2.2.2.2.2.2.2.2.2.2.2.2.1, .int 0])), (z9.2.1, .inl (zI g, 912, .inl (fun _ => 0))), (z9.2.2.2.2.2.2.2.2.2.2.2.2.2.2.2.1, .inl (zY g, 1702, .inl (fun _ => 0))), (z9.2.2.2.2.2.2.2.2.2.2.2.2.2.2.2.2.2.2.2.2.2.1, .inl (zI g, 768, .inl (fun _ => 0))), (z9.2.2.2.2.2.2.2.2.2.2.2.2.2.2.2.2.2.2.2.2.1, .inl (zI g, 768, .inl (fun _ => 0))), (z9.2.2.2.2.2.2.2.2.2.2.2.2.2.1, .inl (zY g, 600, .inl (fun _ => 0))), (z9.2.2.2.2.2.1, .inl (zI g, 912, .inl (fun _ => 0))), (z9.2.2.2.2.2.2.2.1, .inl (zI g, 912, .inl (fun _ => 0))), (z9.2.2.2.2.2.2.2.2.2.1, .inl (zI g, 912, .inl (fun _ => 0))), (z9.2.2.2.2.2.2.2.2.2.2.2.1, .inl (zI g, 912, .inl (fun _ => 0))), (z9.2.2.2.2.2.2.2.2.2.2.2.2.2.2.2.2.2.2.1, .inl (zI g, 912, .inl (fun _ => 0)))] := hD.set (p := 12) rfl
  have hP : va_P (zD g) vwCl (zcW g q zK0) H := by subst hq; exact hP
  have hD : va_D A (zcW g q zK0) := by subst hq; exact hD
  have hq0 : q0 = q 0 := by subst hq; rfl
  rw [hq0]
  refine lv_astore_n (lv' := [(0, .ref (q 0))]) hx hb dL_full_7 rfl hl (by decide) rfl (fun ls hl => ?_)
  refine lv_iconst (v := 0) hx hb dL_full_8 (by decide) ?_
  refine lv_istore_n (lv' := [(1, .int (iI ((0 : Nat) : Int))), (0, .ref (q 0))]) hx hb dL_full_9 rfl hl (by decide) rfl (fun ls hl => ?_)
  refine W.widen (k := 100 + 0) (n := 100000 + 6 * 0) (Nat.le_of_ble_eq_true rfl) (Nat.le_of_ble_eq_true rfl) ?_
  refine fu_l1 hN2 hfl F hN hJ ⟨Nat.le_of_ble_eq_true rfl, Nat.le_of_ble_eq_true rfl⟩ ⟨Nat.le_of_ble_eq_true rfl, Nat.le_of_ble_eq_true rfl⟩ 16 0 rfl [] zK0 zC_start H _ ls hP hD hS (lv_sub hl [1, 0] rfl) (fun hs K H locs ls hZ hP hD hS hl => ?_)
  refine lv_iconst (v := 1) hx hb dL_full_32 (by decide) ?_
  refine lv_istore_n (lv' := [(1, .int (iI ((0 + 1 : Nat) : Int))), (0, .ref (q 0))]) hx hb dL_full_33 rfl hl (by decide) rfl (fun ls hl => ?_)
  refine W.widen (k := 200 + 2 * 0) (n := 101000 + 12 * 0) (Nat.le_of_ble_eq_true rfl) (Nat.le_of_ble_eq_true rfl) ?_
  refine fu_l2 hN2 hfl F hN hJ ⟨Nat.le_of_ble_eq_true rfl, Nat.le_of_ble_eq_true rfl⟩ ⟨Nat.le_of_ble_eq_true rfl, Nat.le_of_ble_eq_true rfl⟩ 24 0 rfl hs K hZ H _ ls hP hD hS (lv_sub hl [1, 0] rfl) (fun hs K H locs ls hZ hP hD hS hl => ?_)
  refine W.widen (k := 248) (n := 101288) (Nat.le_of_ble_eq_true rfl) (Nat.le_of_ble_eq_true rfl) ?_
  refine lv_aload_n hx hb dL_full_77 rfl (lv_at hl 0 rfl) ?_
  refine zcw0 (klx2_L_adding l N g j q K  (dx_addMeasure (N := N) hZ (by rw [fgS_n]; omega)) hfl) F hN hJ zyl_L_adding zw_840 ⟨by decide, by decide⟩ (n := 1) (by decide +kernel) zw_919 hP hD hS rfl hl.1 (rest := []) rfl (Nat.le_of_ble_eq_true rfl) ⟨rfl, rfl⟩ ⟨Nat.le_of_ble_eq_true rfl, Nat.le_of_ble_eq_true rfl⟩ ⟨Nat.le_of_ble_eq_true rfl, Nat.le_of_ble_eq_true rfl⟩ dL_full_78 (fun H locs hP hD hS => ?_)
  refine lv_iconst (v := (-1)) hx hb dL_full_81 (by decide) ?_
  refine lv_icmp_ne (tgt := 170) hx hb dL_full_82 (by decide) (fun q9 => absurd q9 (by decide)) (fun _ => ?_)
  refine lv_aload_n hx hb dL_full_85 rfl (lv_at hl 0 rfl) ?_
  refine lv_bipush (v := 15) hx hb dL_full_86 (by decide) ?_
  refine lv_iconst (v := 0) hx hb dL_full_88 (by decide) ?_
  refine lv_iconst (v := 0) hx hb dL_full_89 (by decide) ?_
  refine lv_iconst (v := 0) hx hb dL_full_90 (by decide) ?_
  refine lv_iconst (v := 0) hx hb dL_full_91 (by decide) ?_
  refine zcw0 (klx2_L_noting l N g j q K 15 0 0 0 0 (dx_addNote2 (N := N) hZ (a := 15) (b := 0) (c := 0) (d := 0) (w := 0) (by unfold zInt; omega) (by unfold zInt; omega) (by unfold zInt; omega) (by unfold zInt; omega) (by unfold zInt; omega) (by rw [fgS_n]; omega) (by decide) (by rw [show gC (fgS 24) 15 0 = (24 : Int) from fg_gC (v := 0) (by omega) (fgS_n 24) (fgS_c 24 (by omega)).1]; omega) (ea := (by decide)) (eb := (by decide)) (ec := (by decide)) (ed := (by decide)) (ew := (by decide))) hfl) F hN hJ zyl_L_noting zw_840 ⟨by decide, by decide⟩ (n := 6) (by decide +kernel) zw_845 hP hD hS rfl hl.1 (rest := []) rfl (Nat.le_of_ble_eq_true rfl) ⟨rfl, rfl⟩ ⟨Nat.le_of_ble_eq_true rfl, Nat.le_of_ble_eq_true rfl⟩ ⟨Nat.le_of_ble_eq_true rfl, Nat.le_of_ble_eq_true rfl⟩ dL_full_92 (fun H locs hP hD hS => ?_)
  refine lv_bipush (v := (-3)) hx hb dL_full_95 (by decide) ?_
  refine lv_icmp_ne (tgt := 170) hx hb dL_full_97 (by decide) (fun q9 => absurd q9 (by decide)) (fun _ => ?_)
  refine lv_aload_n hx hb dL_full_100 rfl (lv_at hl 0 rfl) ?_
  refine lv_bipush (v := 15) hx hb dL_full_101 (by decide) ?_
  refine lv_iconst (v := 1) hx hb dL_full_103 (by decide) ?_
  refine lv_iconst (v := 0) hx hb dL_full_104 (by decide) ?_
  refine zcw0 (klx2_L_resting l N g j q K 15 1 0 (dx_addRest2 (N := N) hZ (a := 15) (b := 1) (c := 0) (by unfold zInt; omega) (by unfold zInt; omega) (by unfold zInt; omega) (by rw [fgS_n]; omega) (by omega) (by rw [show gC (fgS 24) 15 1 = (24 : Int) from fg_gC (v := 1) (by omega) (fgS_n 24) (fgS_c 24 (by omega)).2]; omega) (ea := (by decide)) (eb := (by decide)) (ec := (by decide))) hfl) F hN hJ zyl_L_resting zw_840 ⟨by decide, by decide⟩ (n := 4) (by decide +kernel) zw_848 hP hD hS rfl hl.1 (rest := []) rfl (Nat.le_of_ble_eq_true rfl) ⟨rfl, rfl⟩ ⟨Nat.le_of_ble_eq_true rfl, Nat.le_of_ble_eq_true rfl⟩ ⟨Nat.le_of_ble_eq_true rfl, Nat.le_of_ble_eq_true rfl⟩ dL_full_105 (fun H locs hP hD hS => ?_)
  refine lv_bipush (v := (-3)) hx hb dL_full_108 (by decide) ?_
  refine lv_icmp_ne (tgt := 170) hx hb dL_full_110 (by decide) (fun q9 => absurd q9 (by decide)) (fun _ => ?_)
  refine lv_aload_n hx hb dL_full_113 rfl (lv_at hl 0 rfl) ?_
  refine lv_bipush (v := 15) hx hb dL_full_114 (by decide) ?_
  refine lv_iconst (v := 1) hx hb dL_full_116 (by decide) ?_
  refine lv_bipush (v := 63) hx hb dL_full_117 (by decide) ?_
  refine lv_iconst (v := 0) hx hb dL_full_119 (by decide) ?_
  refine lv_iconst (v := 0) hx hb dL_full_120 (by decide) ?_
  refine zcw0 (klx1_L_noting l N g j q K 15 1 63 0 0 (dx_addNote1 (N := N) hZ (a := 15) (b := 1) (c := 63) (d := 0) (w := 0) (by unfold zInt; omega) (by unfold zInt; omega) (by unfold zInt; omega) (by unfold zInt; omega) (by unfold zInt; omega) (by rw [fgS_n]; omega) (by decide) (ea := (by decide)) (eb := (by decide)) (ec := (by decide)) (ed := (by decide)) (ew := (by decide))) hfl) F hN hJ zyl_L_noting zw_840 ⟨by decide, by decide⟩ (n := 6) (by decide +kernel) zw_845 hP hD hS rfl hl.1 (rest := []) rfl (Nat.le_of_ble_eq_true rfl) ⟨rfl, rfl⟩ ⟨Nat.le_of_ble_eq_true rfl, Nat.le_of_ble_eq_true rfl⟩ ⟨Nat.le_of_ble_eq_true rfl, Nat.le_of_ble_eq_true rfl⟩ dL_full_121 (fun H locs hP hD hS => ?_)
  refine lv_bipush (v := (-2)) hx hb dL_full_124 (by decide) ?_
  refine lv_icmp_ne (tgt := 170) hx hb dL_full_126 (by decide) (fun q9 => absurd q9 (by decide)) (fun _ => ?_)
  refine lv_aload_n hx hb dL_full_129 rfl (lv_at hl 0 rfl) ?_
  refine lv_bipush (v := 15) hx hb dL_full_130 (by decide) ?_
  refine lv_iconst (v := 0) hx hb dL_full_132 (by decide) ?_
  refine lv_bipush (v := 10) hx hb dL_full_133 (by decide) ?_
  refine zcw0 (klx1_L_resting l N g j q K 15 0 10 (dx_addRest1 (N := N) hZ (a := 15) (b := 0) (c := 10) (by unfold zInt; omega) (by unfold zInt; omega) (by unfold zInt; omega) (by rw [fgS_n]; omega) (by omega) (ea := (by decide)) (eb := (by decide)) (ec := (by decide))) hfl) F hN hJ zyl_L_resting zw_840 ⟨by decide, by decide⟩ (n := 4) (by decide +kernel) zw_848 hP hD hS rfl hl.1 (rest := []) rfl (Nat.le_of_ble_eq_true rfl) ⟨rfl, rfl⟩ ⟨Nat.le_of_ble_eq_true rfl, Nat.le_of_ble_eq_true rfl⟩ ⟨Nat.le_of_ble_eq_true rfl, Nat.le_of_ble_eq_true rfl⟩ dL_full_135 (fun H locs hP hD hS => ?_)
  refine lv_bipush (v := (-2)) hx hb dL_full_138 (by decide) ?_
  refine lv_icmp_ne (tgt := 170) hx hb dL_full_140 (by decide) (fun q9 => absurd q9 (by decide)) (fun _ => ?_)
  refine lv_aload_n hx hb dL_full_143 rfl (lv_at hl 0 rfl) ?_
  refine lv_bipush (v := 15) hx hb dL_full_144 (by decide) ?_
  obtain ⟨r21, h22, e23, hZ24⟩ := dx_copyLong (N := N) hN2 hZ (m := 15) (by rw [fgS_n]; omega) (by rw [fu_len]; omega) (ym := 15) (em := by decide)
  refine zcw0 (klx2_L_copying l N g j q K 15 r21 h22 hfl e23) F hN hJ zyl_L_copying zw_840 ⟨by decide, by decide⟩ (n := 2) (by decide +kernel) zw_878 hP hD hS rfl hl.1 (rest := []) rfl (Nat.le_of_ble_eq_true rfl) ⟨rfl, rfl⟩ ⟨Nat.le_of_ble_eq_true rfl, Nat.le_of_ble_eq_true rfl⟩ ⟨Nat.le_of_ble_eq_true rfl, Nat.le_of_ble_eq_true rfl⟩ dL_full_146 (fun H locs hP hD hS => ?_)
  refine lv_bipush (v := (-2)) hx hb dL_full_149 (by decide) ?_
  refine lv_icmp_ne (tgt := 170) hx hb dL_full_151 (by decide) (fun q9 => absurd q9 (by decide)) (fun _ => ?_)
  refine lv_aload_n hx hb dL_full_154 rfl (lv_at hl 0 rfl) ?_
  refine lv_bipush (v := 8) hx hb dL_full_155 (by decide) ?_
  refine cd0_whole 8 (a := 0) ((d_whole (N := N) hN2 hZ24 (w := 8) (by unfold zInt; omega) (ew := by decide)).trans (q1_ (v := 0) (by omega) rfl (by decide))) F zw_788 hP hD hS hl.1 (Nat.le_of_ble_eq_true rfl) ⟨Nat.le_of_ble_eq_true rfl, Nat.le_of_ble_eq_true rfl⟩ ⟨Nat.le_of_ble_eq_true rfl, Nat.le_of_ble_eq_true rfl⟩ dL_full_157 (fun H locs hP hD hS => ?_)
  refine lv_if_ne (tgt := 170) hx hb dL_full_160 (by decide) (fun q9 => absurd q9 (by decide)) (fun _ => ?_)
  refine lv_aload_n hx hb dL_full_163 rfl (lv_at hl 0 rfl) ?_
  refine zcu (n := 1) [] [] [0, 1, 2, 3, 4, 5, 6, 7, 8, 9, 10, 11, 12, 13, 14, 15, 16, 17, 18, 19, 20, 21, 22, 23, 24] [0, 1, 2, 3, 4, 5, 6, 7, 8, 9, 10, 11, 12, 13, 14, 15, 16, 17, 18, 19, 20, 21, 22, 23, 24] (refused_ok l hfl hN2 g j q _ _ _ _) hZ24 F hN hJ hO ⟨zw_923, zw_840, zw_914, ⟨by decide, by decide⟩, by decide +kernel⟩ zw_922 hP hD hS rfl rfl rfl (by decide) (fun _ => rfl) (by decide) rfl hl.1 (rest := []) rfl (Nat.le_of_ble_eq_true rfl) ⟨rfl, rfl⟩ ⟨Nat.le_of_ble_eq_true rfl, Nat.le_of_ble_eq_true rfl⟩ ⟨Nat.le_of_ble_eq_true rfl, Nat.le_of_ble_eq_true rfl⟩ dL_full_164 (st1 := [.int 1]) rfl (fun K H locs hZ hP hD hS => ?_)
  refine lv_if_ne (tgt := 172) hx hb dL_full_167 (by decide) (fun _ => ?_) (fun q9 => absurd q9 (by decide))
  refine lv_aload_n hx hb dL_full_172 rfl (lv_at hl 0 rfl) ?_
  refine lv_bipush (v := 15) hx hb dL_full_173 (by decide) ?_
  obtain ⟨r29, h30, e31, hZ32⟩ := d_sentenceLength (N := N) hN2 hZ (m := 15) (by rw [fgS_n]; omega) (ym := 15) (em := by decide)
  refine cd0_sentenceLength 15 (a := r29) h30 F zw_799 hP hD hS hl.1 (Nat.le_of_ble_eq_true rfl) ⟨Nat.le_of_ble_eq_true rfl, Nat.le_of_ble_eq_true rfl⟩ ⟨Nat.le_of_ble_eq_true rfl, Nat.le_of_ble_eq_true rfl⟩ dL_full_175 (fun H locs hP hD hS => ?_)
  rw [e31, fu_len, show iI (((1202 : Nat)) : Int) = 1202 from by decide]
  refine lv_sipush (v := 1202) hx hb dL_full_178 (by decide) ?_
  refine lv_icmp_ne (tgt := 257) hx hb dL_full_181 (by decide) (fun q9 => absurd q9 (by decide)) (fun _ => ?_)
  refine lv_aload_n hx hb dL_full_184 rfl (lv_at hl 0 rfl) ?_
  refine lv_bipush (v := 15) hx hb dL_full_185 (by decide) ?_
  obtain ⟨r33, h34, e35, hZ36⟩ := d_words (N := N) hN2 hZ32 (m := 15) (by rw [fgS_n]; omega) (ym := 15) (em := by decide)
  refine cd0_words 15 (a := r33) h34 F zw_805 hP hD hS hl.1 (Nat.le_of_ble_eq_true rfl) ⟨Nat.le_of_ble_eq_true rfl, Nat.le_of_ble_eq_true rfl⟩ ⟨Nat.le_of_ble_eq_true rfl, Nat.le_of_ble_eq_true rfl⟩ dL_full_187 (fun H locs hP hD hS => ?_)
  rw [e35, fu_wds, show iI (((199 : Nat)) : Int) = 199 from by decide]
  refine lv_sipush (v := 199) hx hb dL_full_190 (by decide) ?_
  refine lv_icmp_ne (tgt := 257) hx hb dL_full_193 (by decide) (fun q9 => absurd q9 (by decide)) (fun _ => ?_)
  refine lv_aload_n hx hb dL_full_196 rfl (lv_at hl 0 rfl) ?_
  refine lv_bipush (v := 15) hx hb dL_full_197 (by decide) ?_
  refine lv_iconst (v := 0) hx hb dL_full_199 (by decide) ?_
  refine lv_iconst (v := 0) hx hb dL_full_200 (by decide) ?_
  refine lv_bipush (v := 8) hx hb dL_full_201 (by decide) ?_
  refine cd0_event 15 0 0 8 (a := 144) ((d_event (N := N) hN2 hZ36 (a := 15) (b := 0) (c := 0) (w := 8) (by unfold zInt; omega) (by unfold zInt; omega) (by unfold zInt; omega) (by unfold zInt; omega) (ea := by decide) (eb := by decide) (ec := by decide) (ew := by decide)).trans (q2_ (v := 144) (by decide +kernel) (by decide +kernel) (by decide +kernel) (by decide))) F zw_782 hP hD hS hl.1 (Nat.le_of_ble_eq_true rfl) ⟨Nat.le_of_ble_eq_true rfl, Nat.le_of_ble_eq_true rfl⟩ ⟨Nat.le_of_ble_eq_true rfl, Nat.le_of_ble_eq_true rfl⟩ dL_full_203 (fun H locs hP hD hS => ?_)
  refine lv_sipush (v := 144) hx hb dL_full_206 (by decide) ?_
  refine lv_icmp_ne (tgt := 257) hx hb dL_full_209 (by decide) (fun q9 => absurd q9 (by decide)) (fun _ => ?_)
  refine lv_aload_n hx hb dL_full_212 rfl (lv_at hl 0 rfl) ?_
  refine lv_bipush (v := 15) hx hb dL_full_213 (by decide) ?_
  refine lv_iconst (v := 0) hx hb dL_full_215 (by decide) ?_
  refine lv_bipush (v := 23) hx hb dL_full_216 (by decide) ?_
  refine lv_bipush (v := 9) hx hb dL_full_218 (by decide) ?_
  refine cd0_event 15 0 23 9 (a := 1) ((d_event (N := N) hN2 hZ36 (a := 15) (b := 0) (c := 23) (w := 9) (by unfold zInt; omega) (by unfold zInt; omega) (by unfold zInt; omega) (by unfold zInt; omega) (ea := by decide) (eb := by decide) (ec := by decide) (ew := by decide)).trans (q2_ (v := 1) (by decide +kernel) (by decide +kernel) (by decide +kernel) (by decide))) F zw_782 hP hD hS hl.1 (Nat.le_of_ble_eq_true rfl) ⟨Nat.le_of_ble_eq_true rfl, Nat.le_of_ble_eq_true rfl⟩ ⟨Nat.le_of_ble_eq_true rfl, Nat.le_of_ble_eq_true rfl⟩ dL_full_220 (fun H locs hP hD hS => ?_)
  refine lv_iconst (v := 1) hx hb dL_full_223 (by decide) ?_
  refine lv_icmp_ne (tgt := 257) hx hb dL_full_224 (by decide) (fun q9 => absurd q9 (by decide)) (fun _ => ?_)
  refine lv_aload_n hx hb dL_full_227 rfl (lv_at hl 0 rfl) ?_
  refine lv_bipush (v := 15) hx hb dL_full_228 (by decide) ?_
  refine lv_iconst (v := 0) hx hb dL_full_230 (by decide) ?_
  refine lv_bipush (v := 22) hx hb dL_full_231 (by decide) ?_
  refine lv_bipush (v := 9) hx hb dL_full_233 (by decide) ?_
  refine cd0_event 15 0 22 9 (a := 0) ((d_event (N := N) hN2 hZ36 (a := 15) (b := 0) (c := 22) (w := 9) (by unfold zInt; omega) (by unfold zInt; omega) (by unfold zInt; omega) (by unfold zInt; omega) (ea := by decide) (eb := by decide) (ec := by decide) (ew := by decide)).trans (q2_ (v := 0) (by decide +kernel) (by decide +kernel) (by decide +kernel) (by decide))) F zw_782 hP hD hS hl.1 (Nat.le_of_ble_eq_true rfl) ⟨Nat.le_of_ble_eq_true rfl, Nat.le_of_ble_eq_true rfl⟩ ⟨Nat.le_of_ble_eq_true rfl, Nat.le_of_ble_eq_true rfl⟩ dL_full_235 (fun H locs hP hD hS => ?_)
  refine lv_if_ne (tgt := 257) hx hb dL_full_238 (by decide) (fun q9 => absurd q9 (by decide)) (fun _ => ?_)
  refine lv_aload_n hx hb dL_full_241 rfl (lv_at hl 0 rfl) ?_
  refine lv_bipush (v := 15) hx hb dL_full_242 (by decide) ?_
  refine lv_iconst (v := 0) hx hb dL_full_244 (by decide) ?_
  refine lv_bipush (v := 23) hx hb dL_full_245 (by decide) ?_
  refine lv_iconst (v := 5) hx hb dL_full_247 (by decide) ?_
  refine cd0_event 15 0 23 5 (a := 138) ((d_event (N := N) hN2 hZ36 (a := 15) (b := 0) (c := 23) (w := 5) (by unfold zInt; omega) (by unfold zInt; omega) (by unfold zInt; omega) (by unfold zInt; omega) (ea := by decide) (eb := by decide) (ec := by decide) (ew := by decide)).trans (q2_ (v := 138) (by decide +kernel) (by decide +kernel) (by decide +kernel) (by decide))) F zw_782 hP hD hS hl.1 (Nat.le_of_ble_eq_true rfl) ⟨Nat.le_of_ble_eq_true rfl, Nat.le_of_ble_eq_true rfl⟩ ⟨Nat.le_of_ble_eq_true rfl, Nat.le_of_ble_eq_true rfl⟩ dL_full_248 (fun H locs hP hD hS => ?_)
  refine lv_sipush (v := 138) hx hb dL_full_251 (by decide) ?_
  refine lv_icmp_eq (tgt := 259) hx hb dL_full_254 (by decide) (fun _ => ?_) (fun q9 => absurd q9 (by decide))
  refine lv_iconst (v := 1) hx hb dL_full_259 (by decide) ?_
  refine lv_istore_n (lv' := [(1, .int 1), (0, .ref (q 0))]) hx hb dL_full_260 rfl hl (by decide) rfl (fun ls hl => ?_)
  have hl : lv_has ls 2 [(1, .int (iI ((0 + 1 : Nat) : Int))), (0, .ref (q 0))] := hl
  refine W.widen (k := 600 + 0) (n := 104000 + 6 * 0) (Nat.le_of_ble_eq_true rfl) (Nat.le_of_ble_eq_true rfl) ?_
  refine fu_l3 hN2 hfl F hN hJ ⟨Nat.le_of_ble_eq_true rfl, Nat.le_of_ble_eq_true rfl⟩ ⟨Nat.le_of_ble_eq_true rfl, Nat.le_of_ble_eq_true rfl⟩ 600 0 rfl _ (zC_cong hZ36 (fun i hi => absurd hi (Nat.not_lt_zero i))) H _ ls hP hD hS (lv_sub hl [1, 0] rfl) (fun K H locs ls hZ hP hD hS hl => ?_)
  refine W.widen (k := 1200) (n := 107600) (Nat.le_of_ble_eq_true rfl) (Nat.le_of_ble_eq_true rfl) ?_
  refine lv_aload_n hx hb dL_full_289 rfl (lv_at hl 0 rfl) ?_
  refine lv_bipush (v := 65) hx hb dL_full_290 (by decide) ?_
  refine zcw0 (klx2_L_typing l N g j q K 65 (dx_type2 (N := N) hZ (a := 65) (by unfold zInt; omega) (by omega) (by omega) (ea := (by decide))) hfl) F hN hJ zyl_L_typing zw_840 ⟨by decide, by decide⟩ (n := 2) (by decide +kernel) zw_908 hP hD hS rfl hl.1 (rest := []) rfl (Nat.le_of_ble_eq_true rfl) ⟨rfl, rfl⟩ ⟨Nat.le_of_ble_eq_true rfl, Nat.le_of_ble_eq_true rfl⟩ ⟨Nat.le_of_ble_eq_true rfl, Nat.le_of_ble_eq_true rfl⟩ dL_full_292 (fun H locs hP hD hS => ?_)
  refine lv_bipush (v := (-2)) hx hb dL_full_295 (by decide) ?_
  refine lv_icmp_ne (tgt := 345) hx hb dL_full_297 (by decide) (fun q9 => absurd q9 (by decide)) (fun _ => ?_)
  refine lv_aload_n hx hb dL_full_300 rfl (lv_at hl 0 rfl) ?_
  refine lv_sipush (v := 128) hx hb dL_full_301 (by decide) ?_
  refine zcw0 (klx1_L_typing l N g j q K 128 (dx_type1 (N := N) hZ (a := 128) (by unfold zInt; omega) (by omega) (ea := (by decide))) hfl) F hN hJ zyl_L_typing zw_840 ⟨by decide, by decide⟩ (n := 2) (by decide +kernel) zw_908 hP hD hS rfl hl.1 (rest := []) rfl (Nat.le_of_ble_eq_true rfl) ⟨rfl, rfl⟩ ⟨Nat.le_of_ble_eq_true rfl, Nat.le_of_ble_eq_true rfl⟩ ⟨Nat.le_of_ble_eq_true rfl, Nat.le_of_ble_eq_true rfl⟩ dL_full_304 (fun H locs hP hD hS => ?_)
  refine lv_iconst (v := (-1)) hx hb dL_full_307 (by decide) ?_
  refine lv_icmp_ne (tgt := 345) hx hb dL_full_308 (by decide) (fun q9 => absurd q9 (by decide)) (fun _ => ?_)
  refine lv_aload_n hx hb dL_full_311 rfl (lv_at hl 0 rfl) ?_
  refine zcu (n := 1) [] [] [0, 1, 2, 3, 4, 5, 6, 7, 8, 9, 10, 11, 12, 13, 14, 15, 16, 17, 18, 19, 20, 21, 22, 23, 24] [0, 1, 2, 3, 4, 5, 6, 7, 8, 9, 10, 11, 12, 13, 14, 15, 16, 17, 18, 19, 20, 21, 22, 23, 24] (refused_ok l hfl hN2 g j q _ _ _ _) hZ F hN hJ hO ⟨zw_923, zw_840, zw_914, ⟨by decide, by decide⟩, by decide +kernel⟩ zw_922 hP hD hS rfl rfl rfl (by decide) (fun _ => rfl) (by decide) rfl hl.1 (rest := []) rfl (Nat.le_of_ble_eq_true rfl) ⟨rfl, rfl⟩ ⟨Nat.le_of_ble_eq_true rfl, Nat.le_of_ble_eq_true rfl⟩ ⟨Nat.le_of_ble_eq_true rfl, Nat.le_of_ble_eq_true rfl⟩ dL_full_312 (st1 := [.int 1]) rfl (fun K H locs hZ hP hD hS => ?_)
  refine lv_if_eq (tgt := 345) hx hb dL_full_315 (by decide) (fun q9 => absurd q9 (by decide)) (fun _ => ?_)
  refine lv_aload_n hx hb dL_full_318 rfl (lv_at hl 0 rfl) ?_
  refine lv_sipush (v := 600) hx hb dL_full_319 (by decide) ?_
  obtain ⟨r61, h62, e63, hZ64⟩ := d_cut (N := N) hZ (a := 600) (by unfold zInt; omega) (by omega) (by omega) (ya := 600) (ea := by decide)
  refine cd0_cut 600 (a := r61) h62 F zw_814 hP hD hS hl.1 (Nat.le_of_ble_eq_true rfl) ⟨Nat.le_of_ble_eq_true rfl, Nat.le_of_ble_eq_true rfl⟩ ⟨Nat.le_of_ble_eq_true rfl, Nat.le_of_ble_eq_true rfl⟩ dL_full_322 (fun H locs hP hD hS => ?_)
  rw [e63, show iI ((600 - (600 : Int).toNat : Nat) : Int) = 0 from by decide]
  refine lv_if_ne (tgt := 345) hx hb dL_full_325 (by decide) (fun q9 => absurd q9 (by decide)) (fun _ => ?_)
  refine lv_aload_n hx hb dL_full_328 rfl (lv_at hl 0 rfl) ?_
  refine lv_iconst (v := 1) hx hb dL_full_329 (by decide) ?_
  refine zcw0 (klx2_L_cutting l N g j q (k1_cut K r61) 1 (dx_cut2 (N := N) hZ64 (a := 1) (by unfold zInt; omega) (by omega) (by omega) (ea := (by decide))) hfl) F hN hJ zyl_L_cutting zw_840 ⟨by decide, by decide⟩ (n := 2) (by decide +kernel) zw_911 hP hD hS rfl hl.1 (rest := []) rfl (Nat.le_of_ble_eq_true rfl) ⟨rfl, rfl⟩ ⟨Nat.le_of_ble_eq_true rfl, Nat.le_of_ble_eq_true rfl⟩ ⟨Nat.le_of_ble_eq_true rfl, Nat.le_of_ble_eq_true rfl⟩ dL_full_330 (fun H locs hP hD hS => ?_)
  refine lv_bipush (v := (-2)) hx hb dL_full_333 (by decide) ?_
  refine lv_icmp_ne (tgt := 345) hx hb dL_full_335 (by decide) (fun q9 => absurd q9 (by decide)) (fun _ => ?_)
  refine lv_aload_n hx hb dL_full_338 rfl (lv_at hl 0 rfl) ?_
  obtain ⟨r69, h70, e71, hZ72⟩ := d_clearText (N := N) hZ64
  refine cd0_clearText (a := r69) h70 F zw_924 hP hD hS hl.1 (Nat.le_of_ble_eq_true rfl) ⟨Nat.le_of_ble_eq_true rfl, Nat.le_of_ble_eq_true rfl⟩ ⟨Nat.le_of_ble_eq_true rfl, Nat.le_of_ble_eq_true rfl⟩ dL_full_339 (fun H locs hP hD hS => ?_)
  rw [e71, show iI ((600 - (600 : Int).toNat : Nat) : Int) = 0 from by decide]
  refine lv_if_eq (tgt := 347) hx hb dL_full_342 (by decide) (fun _ => ?_) (fun q9 => absurd q9 (by decide))
  refine lv_aload_n hx hb dL_full_347 rfl (lv_at hl 0 rfl) ?_
  refine lv_iconst (v := 0) hx hb dL_full_348 (by decide) ?_
  obtain ⟨r73, h74, e75, hZ76⟩ := d_removeMeasure (N := N) hN2 hZ72 (m := 0) (by rw [fgS_n]; omega) (ym := 0) (em := by decide)
  refine cd0_removeMeasure 0 (a := r73) h74 F zw_766 hP hD hS hl.1 (Nat.le_of_ble_eq_true rfl) ⟨Nat.le_of_ble_eq_true rfl, Nat.le_of_ble_eq_true rfl⟩ ⟨Nat.le_of_ble_eq_true rfl, Nat.le_of_ble_eq_true rfl⟩ dL_full_349 (fun H locs hP hD hS => ?_)
  rw [e75, show iI (((fgS 24).1 - 1 : Nat) : Int) = 15 from by decide +kernel]
  refine lv_bipush (v := 15) hx hb dL_full_352 (by decide) ?_
  refine lv_icmp_ne (tgt := 394) hx hb dL_full_354 (by decide) (fun q9 => absurd q9 (by decide)) (fun _ => ?_)
  refine lv_aload_n hx hb dL_full_357 rfl (lv_at hl 0 rfl) ?_
  refine lv_bipush (v := 14) hx hb dL_full_358 (by decide) ?_
  refine lv_bipush (v := 8) hx hb dL_full_360 (by decide) ?_
  refine cd0_measure 14 8 (a := 24) ((d_measure (N := N) hN2 hZ76 (a := 14) (b := 8) (by unfold zInt; omega) (by unfold zInt; omega) (ea := by decide) (eb := by decide)).trans (q2_ (v := 24) (by decide +kernel) (by decide +kernel) (by decide +kernel) (by decide))) F zw_781 hP hD hS hl.1 (Nat.le_of_ble_eq_true rfl) ⟨Nat.le_of_ble_eq_true rfl, Nat.le_of_ble_eq_true rfl⟩ ⟨Nat.le_of_ble_eq_true rfl, Nat.le_of_ble_eq_true rfl⟩ dL_full_362 (fun H locs hP hD hS => ?_)
  refine lv_bipush (v := 24) hx hb dL_full_365 (by decide) ?_
  refine lv_icmp_ne (tgt := 394) hx hb dL_full_367 (by decide) (fun q9 => absurd q9 (by decide)) (fun _ => ?_)
  refine lv_aload_n hx hb dL_full_370 rfl (lv_at hl 0 rfl) ?_
  obtain ⟨r81, h82, e83, hZ84⟩ := d_addMeasure (N := N) hN2 hZ76 (by have := fgS_n 24; show (fgS 24).1 - 1 < 16; omega)
  refine zcw0 (kl_L_adding l N g j q (k1_removeMeasure (k1_clearText (k1_cut K r61) r69) r73) r81 h82) F hN hJ zyl_L_adding zw_840 ⟨by decide, by decide⟩ (n := 1) (by decide +kernel) zw_919 hP hD hS rfl hl.1 (rest := []) rfl (Nat.le_of_ble_eq_true rfl) ⟨rfl, rfl⟩ ⟨Nat.le_of_ble_eq_true rfl, Nat.le_of_ble_eq_true rfl⟩ ⟨Nat.le_of_ble_eq_true rfl, Nat.le_of_ble_eq_true rfl⟩ dL_full_371 (fun H locs hP hD hS => ?_)
  rw [e83, show iI (((drS (fgS 24) 0).1 : Nat) : Int) = 15 from by decide +kernel]
  refine lv_bipush (v := 15) hx hb dL_full_374 (by decide) ?_
  refine lv_icmp_ne (tgt := 394) hx hb dL_full_376 (by decide) (fun q9 => absurd q9 (by decide)) (fun _ => ?_)
  refine lv_aload_n hx hb dL_full_379 rfl (lv_at hl 0 rfl) ?_
  refine lv_bipush (v := 15) hx hb dL_full_380 (by decide) ?_
  refine lv_bipush (v := 8) hx hb dL_full_382 (by decide) ?_
  refine cd0_measure 15 8 (a := 0) ((d_measure (N := N) hN2 hZ84 (a := 15) (b := 8) (by unfold zInt; omega) (by unfold zInt; omega) (ea := by decide) (eb := by decide)).trans (q2_ (v := 0) (by decide +kernel) (by decide +kernel) (by decide +kernel) (by decide))) F zw_781 hP hD hS hl.1 (Nat.le_of_ble_eq_true rfl) ⟨Nat.le_of_ble_eq_true rfl, Nat.le_of_ble_eq_true rfl⟩ ⟨Nat.le_of_ble_eq_true rfl, Nat.le_of_ble_eq_true rfl⟩ dL_full_384 (fun H locs hP hD hS => ?_)
  refine lv_if_ne (tgt := 394) hx hb dL_full_387 (by decide) (fun q9 => absurd q9 (by decide)) (fun _ => ?_)
  refine lv_iconst (v := 1) hx hb dL_full_390 (by decide) ?_
  refine lv_goto (tgt := 395) hx hb dL_full_391 (by decide) ?_
  exact zW0_z F hr hlocks hQ ⟨Nat.le_of_ble_eq_true rfl, Nat.le_of_ble_eq_true rfl⟩ rfl hS dL_full_395
