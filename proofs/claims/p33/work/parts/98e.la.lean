/-! ===== what the law draws from its script ===== -/
abbrev rm_L_take : Room := { frames := 0, cells := 0, slots := 0, locals := 0 }
abbrev rm_L_part : Room := { frames := 0, cells := 0, slots := 0, locals := 0 }
theorem zy_L_take : zYs yL_take cL_take 2 (some .int) 2 := ⟨zw_1010, zw_840, zw_760, ⟨by decide, by decide⟩, by decide +kernel⟩
theorem zy_L_part : zYs yL_part cL_part 2 (some .int) 2 := ⟨zw_1012, zw_840, zw_758, ⟨by decide, by decide⟩, by decide +kernel⟩
theorem and_nn (v : Int32) : ∃ a : Int, v &&& 2147483647 = iI a ∧ 0 ≤ a ∧ a ≤ 2147483647 := by
  refine ⟨(v &&& 2147483647).toInt, (Int32.ofInt_toInt _).symm, ?_, ?_⟩
  · have hm : (v &&& 2147483647).toBitVec.msb = false := by
      rw [Int32.toBitVec_and, BitVec.msb_and, show (2147483647 : Int32).toBitVec.msb = false from by decide, Bool.and_false]
    show 0 ≤ (v &&& 2147483647).toBitVec.toInt
    rw [BitVec.toInt_eq_toNat_of_msb hm]
    exact Int.natCast_nonneg _
  · have := Int32.toInt_lt (v &&& 2147483647)
    omega
set_option maxRecDepth 100000 in
theorem part_ok (l : Launch) (g : zEnv) (v : Int32) {n : Int} (hn : 0 < n) (hn2 : n ≤ 2147483647) : ∃ p : Int, 0 ≤ p ∧ p < n ∧ ZR l yL_part cL_part 2 (some .int) rm_L_part g [.int v, .int (iI n)] [] (some (.int (iI p))) := by
  obtain ⟨a, ha, h0, h1⟩ := and_nn v
  have hz0 := zRemI (a := a) (b := n) h0 h1 hn hn2
  unfold zRem at hz0
  have hne : ¬ iI n = 0 := by rw [iL0, iI_eq (by omega) (by omega) (by omega) (by omega)]; omega
  rw [if_neg hne] at hz0
  have hz1 := Option.some.inj hz0
  refine ⟨a % n, Int.emod_nonneg a (by omega), Int.emod_lt_of_pos a hn, ?_⟩
  refine zR_of (by decide) (Nat.le_of_ble_eq_true rfl) ?_
  intro p e s m below meth c A ls Q R F hRm hr hlocks hP hD hS hl hQ
  subst hRm
  have F : zF p m c cL_part 2 s (([.int v, .int (iI n)] : List Value)).toArray RL g A := F
  have hx := F.1.1
  have hb := F.1.2.1
  have hz := F.1.2.2.2.2
  have hl : lv_has ls 2 [(0, .int v), (1, .int (iI n))] := hl
  refine lv_iload_n hx hb dL_part_0 rfl (lv_at hl 0 rfl) ?_
  refine lv_ldc hx hb F.1.2.2.2.1 (hz _ zw_757) dL_part_1 ?_
  refine lv_iand hx hb dL_part_3 ?_
  refine lv_iload_n hx hb dL_part_4 rfl (lv_at hl 1 rfl) ?_
  refine lv_irem hx hb dL_part_5 hne ?_
  rw [ha, hz1]
  exact zR_i F hr hlocks hQ dL_part_6
/-- a method that reads the script and changes nothing -/
theorem zRX_of {l : Launch} {y : MethodName} {cc : ByteArray} {maxL : Nat} {ret : Option FieldType} {rm : Room} {g : zEnv} {av : List Value} {v : Option Value} {b L : Nat} {xs : Nat → Int32} (hy : plainName y.cls = true) (hn : (lg_sl av).length ≤ maxL)
    (body : ∀ (p : Program) (e : Env) (s : State) (m : MethodId) (below : List Frame) (meth : Method) (c : Code) (A : Nat → Prop) (ls : Array Slot) (Q : State → Prop) (R : Room), zF p m c cc maxL s av.toArray y.cls g A → R = rm → meth.sig.returnType = ret → meth.locks = false → va_X b L xs s s.heap → b < s.heap.size → ¬ A b → va_S A s.heap s.heap [] → lv_has ls maxL (lv_args 0 av) →
      Q = MQ below (fun _ st oc t => oc = .returned v ∧ t.heap = st.heap) av.toArray s 0 0 (fun _ => False) → W p l e R s m av.toArray below meth c s.heap [] 0 0 Q (F0 m 0 ls [])) : ∀ sz : Nat, b < sz → Met l y (Cond.code y cc maxL ret :: ZW) rm (va_Pc av (fun U => zPre g [] sz U ∧ va_X b L xs U U.heap)) (fun _ st oc t => oc = .returned v ∧ t.heap = st.heap) 0 0 (fun _ => False) := by
  intro sz hbs
  refine Met.ofW (cc := cc) (maxL := maxL) (ret := ret) hy rfl ?_
  intro p e s m args below meth c s₁ B hml hv
  obtain ⟨rfl, ⟨hsz, hP, hK, hD0, hG⟩, hX⟩ := hv
  have hts := atoms_spec (ws := Cond.code y cc maxL ret :: ZW) B.pre
  have hown : s.vm.findClass y.cls = some m.cls := findClass_of_methodNamed B.named
  rw [lg_entry_eq]
  subst hsz
  exact body p e s m below meth c (va_A [] s.heap.size) _ _ _ ⟨⟨B.exec, B.bytes, hml, hown, fun q hq => hts q (List.mem_cons_of_mem _ hq)⟩, hK, hG, fun q h => Or.inr h⟩ rfl B.returns B.notSynchronized hX hbs (fun h => by
    rcases h with ⟨k, e, h⟩ | h
    · simp at h
    · omega) va_S.rf (lv_entry av hn) rfl
theorem zPreX_blind (g : zEnv) (sz : Nat) (av : List Value) (b L : Nat) (xs : Nat → Int32) : FrameBlind (va_Pc av (fun U => zPre g [] sz U ∧ va_X b L xs U U.heap)) := by
  intro a U fr mk h
  obtain ⟨h0, h1, h2⟩ := h
  obtain ⟨e1, e2⟩ := zPre_blind g [] sz av a U fr mk ⟨h0, h1⟩
  exact ⟨e1, e2, va_X.moved (u := U) (U := U.calling fr mk a) (Vm.Alike.refl U.vm) h2⟩
set_option maxHeartbeats 4000000 in
set_option maxRecDepth 100000 in
theorem take_ok (l : Launch) (g : zEnv) {b L : Nat} {xs : Nat → Int32} (hL : L ≤ 260) {k : Nat} (hk : k ≤ 100) : ∃ x : Int32, ∀ sz : Nat, b < sz → Met l yL_take (Cond.code yL_take cL_take 2 (some .int) :: ZW) rm_L_take (va_Pc [.ref b, .int (iI (k : Int))] (fun U => zPre g [] sz U ∧ va_X b L xs U U.heap)) (fun _ st oc t => oc = .returned (some (.int x)) ∧ t.heap = st.heap) 0 0 (fun _ => False) := by
  by_cases h0 : L = 0
  · refine ⟨7919 * iI (k : Int) + 3, zRX_of (by decide) (Nat.le_of_ble_eq_true rfl) ?_⟩
    intro p e s m below meth c A ls Q R F hRm hr hlocks hX hbl hbA hS hl hQ
    subst hRm
    have F : zF p m c cL_take 2 s (([.ref b, .int (iI (k : Int))] : List Value)).toArray RL g A := F
    have hx := F.1.1
    have hb := F.1.2.1
    have hl : lv_has ls 2 [(0, .ref b), (1, .int (iI (k : Int)))] := hl
    refine lv_aload_n hx hb dL_take_0 rfl (lv_at hl 0 rfl) ?_
    refine va_slen hx hb hX hbl hbA hS dL_take_1 ?_
    refine lv_if_ne (tgt := 15) hx hb dL_take_2 (by decide) (fun q9 => absurd (by rw [h0]; rfl) q9) (fun _ => ?_)
    refine lv_sipush (v := 7919) hx hb dL_take_5 (by decide) ?_
    refine lv_iload_n hx hb dL_take_8 rfl (lv_at hl 1 rfl) ?_
    refine lv_imul hx hb dL_take_9 ?_
    refine lv_iconst (v := 3) hx hb dL_take_10 (by decide) ?_
    refine lv_iadd hx hb dL_take_11 ?_
    refine lv_goto (tgt := 39) hx hb dL_take_12 (by decide) ?_
    exact zR_i F hr hlocks hQ dL_take_39
  · have eL : Int32.ofNat L = iI (L : Int) := Int32.ofInt_eq_ofNat.symm
    have hne : ¬ Int32.ofNat L = 0 := by rw [eL, iL0, iI_eq (by omega) (by omega) (by omega) (by omega)]; omega
    have hz0 := zRemI (a := (k : Int)) (b := (L : Int)) (by omega) (by omega) (by omega) (by omega)
    unfold zRem at hz0
    rw [if_neg (by rw [← eL]; exact hne)] at hz0
    have hz1 : iI (k : Int) - iI (k : Int) / Int32.ofNat L * Int32.ofNat L = nI (k % L) := by
      rw [eL]
      refine (Option.some.inj hz0).trans ?_
      rw [show (k : Int) % (L : Int) = ((k % L : Nat) : Int) from (Int.natCast_emod k L).symm]
      exact Int32.ofInt_eq_ofNat
    have hlt : k % L < L := Nat.mod_lt _ (by omega)
    refine ⟨(xs (nI (k % L)).toNatClampNeg >>> ((iI (k : Int) - iI (k : Int) / 7 * 7) &&& 31)) ^^^ (iI (k : Int) / Int32.ofNat L * 31) ^^^ (iI (k : Int) * 2654435), zRX_of (by decide) (Nat.le_of_ble_eq_true rfl) ?_⟩
    intro p e s m below meth c A ls Q R F hRm hr hlocks hX hbl hbA hS hl hQ
    subst hRm
    have F : zF p m c cL_take 2 s (([.ref b, .int (iI (k : Int))] : List Value)).toArray RL g A := F
    have hx := F.1.1
    have hb := F.1.2.1
    have hz := F.1.2.2.2.2
    have hl : lv_has ls 2 [(0, .ref b), (1, .int (iI (k : Int)))] := hl
    refine lv_aload_n hx hb dL_take_0 rfl (lv_at hl 0 rfl) ?_
    refine va_slen hx hb hX hbl hbA hS dL_take_1 ?_
    refine lv_if_ne (tgt := 15) hx hb dL_take_2 (by decide) (fun _ => ?_) (fun q9 => absurd q9 hne)
    refine lv_aload_n hx hb dL_take_15 rfl (lv_at hl 0 rfl) ?_
    refine lv_iload_n hx hb dL_take_16 rfl (lv_at hl 1 rfl) ?_
    refine lv_aload_n hx hb dL_take_17 rfl (lv_at hl 0 rfl) ?_
    refine va_slen hx hb hX hbl hbA hS dL_take_18 ?_
    refine lv_irem hx hb dL_take_19 hne ?_
    rw [hz1]
    refine va_sld hx hb hX hbl hbA hS (vp_in_nI hlt (by omega)) dL_take_20 ?_
    refine lv_iload_n hx hb dL_take_21 rfl (lv_at hl 1 rfl) ?_
    refine lv_bipush (v := 7) hx hb dL_take_22 (by decide) ?_
    refine lv_irem hx hb dL_take_24 (by decide) ?_
    refine lv_ishr hx hb dL_take_25 ?_
    refine lv_iload_n hx hb dL_take_26 rfl (lv_at hl 1 rfl) ?_
    refine lv_aload_n hx hb dL_take_27 rfl (lv_at hl 0 rfl) ?_
    refine va_slen hx hb hX hbl hbA hS dL_take_28 ?_
    refine lv_idiv hx hb dL_take_29 hne ?_
    refine lv_bipush (v := 31) hx hb dL_take_30 (by decide) ?_
    refine lv_imul hx hb dL_take_32 ?_
    refine lv_ixor hx hb dL_take_33 ?_
    refine lv_iload_n hx hb dL_take_34 rfl (lv_at hl 1 rfl) ?_
    refine lv_ldc hx hb F.1.2.2.2.1 (hz _ zw_759) dL_take_35 ?_
    refine lv_imul hx hb dL_take_37 ?_
    refine lv_ixor hx hb dL_take_38 ?_
    exact zR_i F hr hlocks hQ dL_take_39
/-! ===== what the law's loop keeps ===== -/
/-- at least one measure, not too many, no voice too full -/
def lwB (S : zSt) (k : Nat) : Prop := (1 ≤ S.1 ∧ S.1 ≤ 1 + k) ∧ ∀ m v, S.2.2.1 m v ≤ k
/-- the saved states' digests lie in the row -/
def lwI (k : Nat) (hs : List zSt) (f : Nat → Int64) : Prop := hs.length = min (k + 1) 4 ∧ ∀ i X, hs[i]? = some X → i < k → 1 ≤ X.1 ∧ f (k - 1 - i) = mxD X (min (k - i) 4) 0 (fun _ => 0)
theorem lwI_step {k : Nat} {S : zSt} {hs : List zSt} {f : Nat → Int64} (h : lwI k hs f) (hS : 1 ≤ S.1) : lwI (k + 1) ((S :: hs).take 4) (vp_updL f k (mxD S hs.length 0 (fun _ => 0))) := by
  obtain ⟨h1, h2⟩ := h
  refine ⟨by rw [List.length_take, List.length_cons, h1]; omega, fun i X hX hi => ?_⟩
  rw [List.getElem?_take] at hX
  split at hX
  · cases i with
    | zero =>
      rw [List.getElem?_cons_zero] at hX
      cases hX
      refine ⟨hS, ?_⟩
      rw [show k + 1 - 1 - 0 = k by omega, show k + 1 - 0 = k + 1 by omega, ← h1]
      exact if_pos rfl
    | succ i =>
      rw [List.getElem?_cons_succ] at hX
      obtain ⟨p1, p2⟩ := h2 i X hX (by omega)
      refine ⟨p1, ?_⟩
      rw [show k + 1 - 1 - (i + 1) = k - 1 - i by omega, show k + 1 - (i + 1) = k - i by omega, ← p2]
      exact if_neg (by omega)
  · cases hX
theorem lwB_nw {S : zSt} {k : Nat} (h : lwB S k) : lwB (nwS S) (k + 1) := by
  refine ⟨⟨?_, ?_⟩, fun m v => ?_⟩
  · show 1 ≤ S.1 + 1; omega
  · have := h.1.2; show S.1 + 1 ≤ 1 + (k + 1); omega
  · have := h.2 m v
    show (if m = S.1 then 0 else S.2.2.1 m v) ≤ k + 1
    split <;> omega
theorem lwB_dr {S : zSt} {k m : Nat} (h : lwB S k) (h1 : 1 < S.1) : lwB (drS S m) (k + 1) := by
  refine ⟨⟨?_, ?_⟩, fun m' v => ?_⟩
  · show 1 ≤ S.1 - 1; omega
  · have := h.1.2; show S.1 - 1 ≤ 1 + (k + 1); omega
  · have h3 := h.2 m' v
    have h4 := h.2 (m' + 1) v
    show (if m ≤ m' then S.2.2.1 (m' + 1) v else S.2.2.1 m' v) ≤ k + 1
    split <;> omega
theorem lwB_set {S : zSt} {k m w : Nat} {x : Int} (h : lwB S k) : lwB (setV S m w x) (k + 1) := ⟨⟨h.1.1, Nat.le_trans h.1.2 (by omega)⟩, fun m' v => Nat.le_trans (h.2 m' v) (by omega)⟩
theorem lwB_ad {S : zSt} {k m v : Nat} {x : zEv} (h : lwB S k) : lwB (setAd S m v x) (k + 1) := by
  refine ⟨⟨h.1.1, Nat.le_trans h.1.2 (by omega)⟩, fun m' v' => ?_⟩
  have h3 := h.2 m' v'
  have h4 := h.2 m v
  show (if m' = m ∧ v' = v then S.2.2.1 m v + 1 else S.2.2.1 m' v') ≤ k + 1
  split <;> omega
theorem lwB_rm {S : zSt} {k m v e : Nat} (h : lwB S k) : lwB (setRm S m v e) (k + 1) := by
  refine ⟨⟨h.1.1, Nat.le_trans h.1.2 (by omega)⟩, fun m' v' => ?_⟩
  have h3 := h.2 m' v'
  have h4 := h.2 m v
  show (if m' = m ∧ v' = v then S.2.2.1 m v - 1 else S.2.2.1 m' v') ≤ k + 1
  split <;> omega
theorem setV_id {S : zSt} {m k : Nat} : setV S m k (S.2.1 m k) = S := by
  obtain ⟨n, V, C⟩ := S
  show (n, (fun m' k' => if m' = m ∧ k' = k then V m k else V m' k'), C) = (n, V, C)
  congr 2
  funext m' k'
  split
  · next h => rw [h.1, h.2]
  · rfl
