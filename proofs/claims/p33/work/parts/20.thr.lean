/-! ===== methods that throw, and methods that catch: our own layer ===== -/
def zCa (C T : String) (U : State) : Prop := ∃ c t : ClassId, U.vm.findClass C = some c ∧ U.vm.findClass T = some t ∧ U.vm.assignable c t = true
theorem zCa.moved {C T : String} {u U : State} (hvm : u.vm.Alike U.vm) (h : zCa C T u) : zCa C T U := by
  obtain ⟨c, t, h1, h2, h3⟩ := h
  exact ⟨c, t, by rw [hvm.findClass]; exact h1, by rw [hvm.findClass]; exact h2, by rw [hvm.assignable]; exact h3⟩
theorem zCa.of {args : Array Value} {s : State} {C T : String} (h : (Cond.castable C T).before args s = true) : zCa C T s := by
  obtain ⟨c3, c4, h1, h2, h3⟩ := Cond.castable_spec h
  exact ⟨c3, c4, h1, h2, h3⟩
theorem zCa.word {args : Array Value} {s : State} {C T : String} (h : zCa C T s) : (Cond.castable C T).before args s = true := by
  obtain ⟨c, t, h1, h2, h3⟩ := h
  simp [Cond.before, Cond.holds, Cond.value, h1, h2, h3]
def zES (k : Nat) : String := match k with
  | 0 => "java/lang/IndexOutOfBoundsException"
  | 1 => "java/lang/IllegalArgumentException"
  | _ => "java/lang/IllegalStateException"
def zXd : List String := ["java/lang/RuntimeException", "java/lang/Exception", "java/lang/Throwable"]
theorem zDe {x : MethodName} {u U : State} (hvm : u.vm.Alike U.vm) (h : va_Nw (.declares x) u) : va_Nw (.declares x) U := va_tabs rfl (rfl : (u.setVm U.vm).vm = U.vm) (by rw [Cond.declares_setVm hvm]; exact h)
/-- what the classes of the exceptions are to one another -/
def zN (U : State) : Prop := ((∀ k : Nat, zCa (zES k) (zES k) U) ∧ ∀ X ∈ zXd, va_Nw (.declares (Bundle.initS X)) U) ∧ va_Nc (zES 1) (zES 0) U ∧ va_Nc (zES 2) (zES 0) U ∧ va_Nc (zES 2) (zES 1) U
theorem zN.moved {u U : State} (hvm : u.vm.Alike U.vm) (h : zN u) : zN U := ⟨⟨fun k => (h.1.1 k).moved hvm, fun X hX => zDe hvm (h.1.2 X hX)⟩, h.2.1.moved hvm, h.2.2.1.moved hvm, h.2.2.2.moved hvm⟩
def zBad (k : Nat) : List Cond := Cond.castable (zES k) (zES k) :: zXd.map (fun X => Cond.declares (Bundle.initS X))
theorem zBad_ok {args : Array Value} {s : State} {k : Nat} (h : zN s) : ∀ w ∈ zBad k, w.before args s = true := fun w hw => by
  rcases List.mem_cons.mp hw with rfl | hw
  · exact (h.1.1 k).word
  · obtain ⟨X, hX, rfl⟩ := List.mem_map.mp hw
    exact va_Nw.use rfl (h.1.2 X hX)
def zPreN (g : zEnv) (w : va_W) (sz : Nat) (U : State) : Prop := zPre g w sz U ∧ zN U
theorem zPreN_blind (g : zEnv) (w : va_W) (sz : Nat) (av : List Value) : FrameBlind (va_Pc av (zPreN g w sz)) := by
  intro a U fr mk h
  obtain ⟨h0, h1, h2⟩ := h
  obtain ⟨e1, e2⟩ := zPre_blind g w sz av a U fr mk ⟨h0, h1⟩
  exact ⟨e1, e2, zN.moved (u := U) (U := U.calling fr mk a) (Vm.Alike.refl U.vm) h2⟩
/-- a method that throws the exception of number k, and makes w1 of its cells w -/
def ZE (l : Launch) (y : MethodName) (cc : ByteArray) (maxL : Nat) (ret : Option FieldType) (rm : Room) (g : zEnv) (av : List Value) (w w1 : va_W) (k : Nat) : Prop :=
  ∀ sz : Nat, vx_Met l y (Cond.code y cc maxL ret :: ZW) rm (va_Pc av (zPreN g w sz)) (fun _ _ _ _ => False) (fun E1 st t => E1 = zES k ∧ va_P (zD g) vwCl w1 t.heap ∧ va_D (va_A w sz) w1 ∧ va_F (va_A w sz) st t) 1 6 (va_A w sz)
def zQE (g : zEnv) (A : Nat → Prop) (w1 : va_W) (k : Nat) (below : List Frame) (args : Array Value) (s : State) : State → Prop :=
  vx_MQ below (fun _ _ _ _ => False) (fun E1 st t => E1 = zES k ∧ va_P (zD g) vwCl w1 t.heap ∧ va_D A w1 ∧ va_F A st t) args s 1 6 A
theorem zE_of {l : Launch} {y : MethodName} {cc : ByteArray} {maxL : Nat} {ret : Option FieldType} {rm : Room} {g : zEnv} {av : List Value} {w w1 : va_W} {k : Nat} (hy : plainName y.cls = true) (hn : (lg_sl av).length ≤ maxL)
    (body : ∀ (p : Program) (e : Env) (s : State) (m : MethodId) (below : List Frame) (meth : Method) (c : Code) (A : Nat → Prop) (H : Heap) (locs : List Loc) (ls : Array Slot) (Q : State → Prop) (R : Room), zF p m c cc maxL s av.toArray y.cls g A → R = rm → meth.locks = false → zN s → (∀ x ∈ c.exceptionTable.toList, False) → va_P (zD g) vwCl w H → va_D A w → va_S A s.heap H locs → lv_has ls maxL (lv_args 0 av) →
      Q = zQE g A w1 k below av.toArray s → W p l e R s m av.toArray below meth c H locs 0 0 Q (F0 m 0 ls [])) : ZE l y cc maxL ret rm g av w w1 k := by
  intro sz
  refine vx_ofW (cc := cc) (maxL := maxL) (ret := ret) hy rfl ?_
  intro p e s m args below meth c s₁ B hml htab hv
  obtain ⟨rfl, ⟨hsz, hP, hK, hD0, hG⟩, hN⟩ := hv
  have hts := atoms_spec (ws := Cond.code y cc maxL ret :: ZW) B.pre
  have hown : s.vm.findClass y.cls = some m.cls := findClass_of_methodNamed B.named
  rw [lg_entry_eq]
  subst hsz
  exact body p e s m below meth c (va_A w s.heap.size) _ _ _ _ _ ⟨⟨B.exec, B.bytes, hml, hown, fun q hq => hts q (List.mem_cons_of_mem _ hq)⟩, hK, hG, fun q h => Or.inr h⟩ rfl B.notSynchronized hN htab hP hD0.self va_S.rf (lv_entry av hn) rfl
/-- sums: what is thrown goes on -/
def zSubE {α β γ : Type} (o : Option (α ⊕ Nat)) (F : Nat → γ) (K : α → Option (β ⊕ γ)) : Option (β ⊕ γ) := Option.bind o (fun v => match v with
  | .inl a => K a
  | .inr e => some (.inr (F e)))
theorem z_subLE {α β γ : Type} {o : Option (α ⊕ Nat)} {F : Nat → γ} {K : α → Option (β ⊕ γ)} {r : β} (h : zSubE o F K = some (.inl r)) : ∃ a, o = some (.inl a) ∧ K a = some (.inl r) := by
  unfold zSubE at h
  obtain ⟨v, h1, h2⟩ := z_bind h
  match v, h1, h2 with
  | .inl a, h1, h2 => exact ⟨a, h1, h2⟩
  | .inr e, h1, h2 => simp at h2
theorem z_subRE {α β γ : Type} {o : Option (α ⊕ Nat)} {F : Nat → γ} {K : α → Option (β ⊕ γ)} {r : γ} {G : Prop} (h : zSubE o F K = some (.inr r)) (k1 : ∀ e, o = some (.inr e) → F e = r → G) (k2 : ∀ a, o = some (.inl a) → K a = some (.inr r) → G) : G := by
  unfold zSubE at h
  obtain ⟨v, h1, h2⟩ := z_bind h
  match v, h1, h2 with
  | .inl a, h1, h2 => exact k2 a h1 h2
  | .inr e, h1, h2 => exact k1 e h1 (by simpa using h2)
def zXn : List String := ["java/lang/RuntimeException", "java/lang/Exception"]
theorem zx_bad_0 : ∀ w ∈ (vx_atS RX9 70 (zES 2) zXn).filter (fun w => !goodWord w), w ∈ zBad 2 := by decide +kernel
theorem zx_bad_1 : ∀ w ∈ (vx_atS RX9 326 (zES 0) zXn).filter (fun w => !goodWord w), w ∈ zBad 0 := by decide +kernel
theorem zx_bad_2 : ∀ w ∈ (vx_atS RX9 101 (zES 1) zXn).filter (fun w => !goodWord w), w ∈ zBad 1 := by decide +kernel
theorem zx_ot_0 (ik : Nat) : ∀ w ∈ Cond.classLink RX9 ik (zES 2) :: Cond.initialized (zES 2) :: vx_atS RX9 70 (zES 2) zXn, vx_ot w = true := fun w h => by
  rcases List.mem_cons.mp h with rfl | h
  · rfl
  · exact List.all_eq_true.mp (show (Cond.initialized (zES 2) :: vx_atS RX9 70 (zES 2) zXn).all vx_ot = true by decide +kernel) w h
theorem zx_ot_1 (ik : Nat) : ∀ w ∈ Cond.classLink RX9 ik (zES 0) :: Cond.initialized (zES 0) :: vx_atS RX9 326 (zES 0) zXn, vx_ot w = true := fun w h => by
  rcases List.mem_cons.mp h with rfl | h
  · rfl
  · exact List.all_eq_true.mp (show (Cond.initialized (zES 0) :: vx_atS RX9 326 (zES 0) zXn).all vx_ot = true by decide +kernel) w h
theorem zx_ot_2 (ik : Nat) : ∀ w ∈ Cond.classLink RX9 ik (zES 1) :: Cond.initialized (zES 1) :: vx_atS RX9 101 (zES 1) zXn, vx_ot w = true := fun w h => by
  rcases List.mem_cons.mp h with rfl | h
  · rfl
  · exact List.all_eq_true.mp (show (Cond.initialized (zES 1) :: vx_atS RX9 101 (zES 1) zXn).all vx_ot = true by decide +kernel) w h
section ZT
variable {p : Program} {l : Launch} {e : Env} {R : Room} {s : State} {m : MethodId} {args : Array Value} {below : List Frame} {meth : Method} {c : Code} {H : Heap} {locs : List Loc} {Q : State → Prop}
variable {cc bytes : ByteArray} {nL maxL index n pc is ik ic sid k : Nat} {own C text : String} {y : MethodName} {ret : Option FieldType} {rm : Room} {g : zEnv} {A : Nat → Prop} {W0 w w1 wr W1 : va_W} {v : Option Value} {b : Addr} {As rest st0 st1 : List Value} {ls : Array Slot}
theorem zHx (hP : va_P (zD g) vwCl W0 H) (hD : va_D A W0) (hS : va_S A s.heap H locs) : ∀ t : State, s.vm.Alike t.vm → H.size ≤ t.heap.size → (∀ q : Nat, q < H.size → t.heap[q]? = H[q]?) → zES k = zES k ∧ va_P (zD g) vwCl W0 t.heap ∧ va_D A W0 ∧ va_F A s t := fun t _ hz hq =>
  ⟨rfl, hP.kept (fun j q hk => hq q.1 (hP j q hk).lt), hD, Nat.le_trans hS.1 hz, fun q h1 h2 => by rw [hq q (Nat.lt_of_lt_of_le h1 hS.1)]; exact hS.2.1 q h1 h2⟩
/-- throw new E("text"), the text by a wide index -/
theorem zThW (F : zF p m c cc nL s args RX9 g A) (hfl : l.stackTraces = false) (hN : zN s) (hlk : Cond.classLink RX9 ik (zES k) ∈ ZW) (hini : Cond.initialized (zES k) ∈ ZW) (hstr : (RX9, is, text, sid) ∈ zStr)
    (hat : ∀ w ∈ (vx_atS RX9 ic (zES k) zXn).filter goodWord, w ∈ ZW) (hbad : ∀ w ∈ (vx_atS RX9 ic (zES k) zXn).filter (fun w => !goodWord w), w ∈ zBad k) (hot : ∀ w ∈ Cond.classLink RX9 ik (zES k) :: Cond.initialized (zES k) :: vx_atS RX9 ic (zES k) zXn, vx_ot w = true) (hfit : Bundle.fit (zES k) = true)
    (hP : va_P (zD g) vwCl W0 H) (hD : va_D A W0) (hS : va_S A s.heap H locs) (hls : ls.size = nL) (htab : ∀ x ∈ c.exceptionTable.toList, False) (hlocks : meth.locks = false) (hQ : Q = zQE g A W0 k below args s)
    (d0 : decode cc pc = .ok (.new ik, 3)) (d3 : decode cc (pc + 3) = .ok (.dup, 1)) (d4 : decode cc (pc + 4) = .ok (.ldc_w is, 3)) (d7 : decode cc (pc + 7) = .ok (.invokespecial ic, 3)) (d10 : decode cc (pc + 10) = .ok (.athrow, 1))
    (hRf : 5 < R.frames) (hRl : (rest.map fun v => v.category).sum + 82 ≤ R.locals) (hRc : 1 ≤ R.cells) (hRs : 6 ≤ R.slots) : W p l e R s m args below meth c H locs 0 0 Q (F0 m pc ls rest) := by
  subst hQ
  exact vx_throwSW (names := zXn) F.1.1 F.1.2.1 hfl F.1.2.2.2.1 hfit (by decide +kernel) (F.1.2.2.2.2 _ hlk) (F.1.2.2.2.2 _ hini) (F.2.2.1.2.1 _ hstr) (vx_hat (fun w h => F.1.2.2.2.2 _ (hat w h)) hbad (zBad_ok hN)) hot F.2.2.1.2.2.2.2.1 F.2.2.1.2.2.2.2.2.1 hS (hls.trans F.1.2.2.1.symm) d0 d3 d4 d7 d10 (fun x hx => (htab x hx).elim) hRf hRl hRc hRs hlocks (zHx hP hD hS) hS.2.2 (Nat.le_refl _) (Nat.le_refl _)
theorem zThS (F : zF p m c cc nL s args RX9 g A) (hfl : l.stackTraces = false) (hN : zN s) (hlk : Cond.classLink RX9 ik (zES k) ∈ ZW) (hini : Cond.initialized (zES k) ∈ ZW) (hstr : (RX9, is, text, sid) ∈ zStr)
    (hat : ∀ w ∈ (vx_atS RX9 ic (zES k) zXn).filter goodWord, w ∈ ZW) (hbad : ∀ w ∈ (vx_atS RX9 ic (zES k) zXn).filter (fun w => !goodWord w), w ∈ zBad k) (hot : ∀ w ∈ Cond.classLink RX9 ik (zES k) :: Cond.initialized (zES k) :: vx_atS RX9 ic (zES k) zXn, vx_ot w = true) (hfit : Bundle.fit (zES k) = true)
    (hP : va_P (zD g) vwCl W0 H) (hD : va_D A W0) (hS : va_S A s.heap H locs) (hls : ls.size = nL) (htab : ∀ x ∈ c.exceptionTable.toList, False) (hlocks : meth.locks = false) (hQ : Q = zQE g A W0 k below args s)
    (d0 : decode cc pc = .ok (.new ik, 3)) (d3 : decode cc (pc + 3) = .ok (.dup, 1)) (d4 : decode cc (pc + 4) = .ok (.ldc is, 2)) (d6 : decode cc (pc + 6) = .ok (.invokespecial ic, 3)) (d9 : decode cc (pc + 9) = .ok (.athrow, 1))
    (hRf : 5 < R.frames) (hRl : (rest.map fun v => v.category).sum + 82 ≤ R.locals) (hRc : 1 ≤ R.cells) (hRs : 6 ≤ R.slots) : W p l e R s m args below meth c H locs 0 0 Q (F0 m pc ls rest) := by
  subst hQ
  exact vx_throwS (names := zXn) F.1.1 F.1.2.1 hfl F.1.2.2.2.1 hfit (by decide +kernel) (F.1.2.2.2.2 _ hlk) (F.1.2.2.2.2 _ hini) (F.2.2.1.2.1 _ hstr) (vx_hat (fun w h => F.1.2.2.2.2 _ (hat w h)) hbad (zBad_ok hN)) hot F.2.2.1.2.2.2.2.1 F.2.2.1.2.2.2.2.2.1 hS (hls.trans F.1.2.2.1.symm) d0 d3 d4 d6 d9 (fun x hx => (htab x hx).elim) hRf hRl hRc hRs hlocks (zHx hP hD hS) hS.2.2 (Nat.le_refl _) (Nat.le_refl _)
theorem zCutX (hr : vx_Run p l e R s m args below meth c H locs 0 0 1 6 (F0 m pc ls st0) rest (fun _ _ _ => False) (fun E1 st t => E1 = zES k ∧ va_P (zD g) vwCl w1 t.heap ∧ va_D (va_A w H.size) w1 ∧ va_F (va_A w H.size) st t) (va_A w H.size)) (htab : ∀ x ∈ c.exceptionTable.toList, False) (hlocks : meth.locks = false)
    (hP : va_P (zD g) vwCl W0 H) (hD : va_D A W0) (hS : va_S A s.heap H locs) (hA : ∀ q : Nat, s.heap.size ≤ q → A q) (isC isR pm : List Nat) (hC : isC.map (fun i => W0[i]?) = w.map some) (hRr : isR.map (fun i => W0[i]?) = wr.map some) (hnd : va_nd isR = true) (hdis : ∀ i ∈ isR, i ∉ isC) (hpm : pm.map (fun i => (wr ++ w1)[i]?) = W1.map some) (hpn : va_nd pm = true) :
    W p l e R s m args below meth c H locs 0 0 (zQE g A W1 k below args s) (F0 m pc ls st0) := by
  intro T hT X
  rcases hr T hT X with ⟨v, st₀, t, T', L, h0, X', hL, e1, e2, hfalse, st⟩ | ⟨q, st₀, t, T', L, E, ce, h0, X', hL, e1, e2, ⟨hE, hP1, hD1, hz, hk⟩, hce, hcv, hcl, st⟩
  · exact hfalse.elim
  · have hF := va_free hD hS hA isC hC
    rw [h0] at hz hk
    rw [← e1] at hP1 hz hk hce
    obtain ⟨k1, k2⟩ := va_join hP hD isC isR hC hRr hnd hdis hk hF hP1 hD1
    have k3 : va_S A s.heap T'.heap (locs ++ L) := ⟨Nat.le_trans hS.1 hz, fun q h1 h2 => by rw [hk q (Nat.lt_of_lt_of_le h1 hS.1) (fun z => h2 (hF q z))]; exact hS.2.1 q h1 h2, fun q hq => by
        rcases List.mem_append.mp hq with h | h
        · exact hS.2.2 q h
        · exact hF _ (hL q h)⟩
    obtain ⟨t2, a1, b1⟩ := vx_out (Qc := fun _ _ _ _ => False) (XC := fun E1 st t => E1 = zES k ∧ va_P (zD g) vwCl W1 t.heap ∧ va_D A W1 ∧ va_F A st t) (free := A) (mc := 1) (ms := 6) (pc := pc) (ls := ls) (rest := rest) (H := T'.heap) (locs := locs ++ L) (cells := 0 + 1) (slots := 0 + 6) (fun x hx => (htab x hx).elim) hlocks hce hcv hcl (fun t' ht' _ => ⟨hE, by rw [ht']; exact k1.sub pm (zFm hpm), k2.sub pm hpn hpm, k3.F ht'⟩) k3.2.2 (Nat.le_refl _) (Nat.le_refl _) T' rfl X'
    exact ⟨t2, st.trans a1, b1⟩
/-- a call of an instance method that throws, not caught here -/
theorem zXV (F : zF p m c cc nL s args own g A) (hM : ZE l y bytes maxL ret rm g (.ref b :: As) w w1 k) (hN : zN s) (hy : zYv y C bytes maxL ret n) (hl : Cond.methodLink own index y ∈ ZW) (hP : va_P (zD g) vwCl W0 H) (hD : va_D A W0) (hS : va_S A s.heap H locs)
    (isC isR pm : List Nat) (hC : isC.map (fun i => W0[i]?) = w.map some) (hn : va_nd isC = true) (hRr : isR.map (fun i => W0[i]?) = wr.map some) (hnd : va_nd isR = true) (hdis : ∀ i ∈ isR, i ∉ isC) (hpm : pm.map (fun i => (wr ++ w1)[i]?) = W1.map some) (hpn : va_nd pm = true)
    {q0 ci : Nat} {fs : List Value} {T : u_T} {N : Nat} (he : W0[q0]? = some (b, .inr (ci, fs))) (hc : vwCl[ci]? = some (C, T, N)) (hAs : As.length = n) (hls : ls.size = nL) (hst0 : st0 = As.reverse ++ .ref b :: rest) (hroom : (rest.map fun v => v.category).sum ≤ 8)
    (hr : rm.cells = 1 ∧ rm.slots = 6) (hR : rm.frames + 1 ≤ R.frames ∧ 8 + (maxL + 11) + rm.locals ≤ R.locals) (hcs : 0 + 1 ≤ R.cells ∧ 0 + 6 ≤ R.slots) (hdg : decode cc pc = .ok (.invokevirtual index, 3)) (htab : ∀ x ∈ c.exceptionTable.toList, False) (hlocks : meth.locks = false) (hQ : Q = zQE g A W1 k below args s) : W p l e R s m args below meth c H locs 0 0 Q (F0 m pc ls st0) := by
  subst hQ
  exact zCutX (vx_runV F.1 (hM H.size) ⟨zCallB F hy.2.2.2.1 hy.2.2.1 hy.2.2.2.2.1 hy.2.2.2.2.2 hl hr.1 hr.2 hR, F.1.2.2.2.2 _ hy.1, F.1.2.2.2.2 _ hy.2.1⟩ ⟨zPreN_blind g w H.size _, zRecv F hP he hc, fun U hU hW => ⟨rfl, zPre_at F hP hD hS isC hC hn U hU hW, hN.moved hW.alike⟩⟩ rfl hAs hls hst0 (lv_room hroom) hdg hcs) htab hlocks hP hD hS F.2.2.2 isC isR pm hC hRr hnd hdis hpm hpn
/-- a call of a static method that throws, not caught here -/
theorem zXS (F : zF p m c cc nL s args own g A) (hM : ZE l y bytes maxL ret rm g As w w1 k) (hN : zN s) (hy : zYs y bytes maxL ret n) (hl : Cond.methodLink own index y ∈ ZW) (hP : va_P (zD g) vwCl W0 H) (hD : va_D A W0) (hS : va_S A s.heap H locs)
    (isC isR pm : List Nat) (hC : isC.map (fun i => W0[i]?) = w.map some) (hn : va_nd isC = true) (hRr : isR.map (fun i => W0[i]?) = wr.map some) (hnd : va_nd isR = true) (hdis : ∀ i ∈ isR, i ∉ isC) (hpm : pm.map (fun i => (wr ++ w1)[i]?) = W1.map some) (hpn : va_nd pm = true)
    (hAs : As.length = n) (hls : ls.size = nL) (hst0 : st0 = As.reverse ++ rest) (hroom : (rest.map fun v => v.category).sum ≤ 8)
    (hr : rm.cells = 1 ∧ rm.slots = 6) (hR : rm.frames + 1 ≤ R.frames ∧ 8 + (maxL + 11) + rm.locals ≤ R.locals) (hcs : 0 + 1 ≤ R.cells ∧ 0 + 6 ≤ R.slots) (hdg : decode cc pc = .ok (.invokestatic index, 3)) (htab : ∀ x ∈ c.exceptionTable.toList, False) (hlocks : meth.locks = false) (hQ : Q = zQE g A W1 k below args s) : W p l e R s m args below meth c H locs 0 0 Q (F0 m pc ls st0) := by
  subst hQ
  exact zCutX (vx_runS F.1 (hM H.size) ⟨zCallB F hy.2.2.1 hy.2.1 hy.2.2.2.1 hy.2.2.2.2 hl hr.1 hr.2 hR, F.1.2.2.2.2 _ hy.1⟩ ⟨zPreN_blind g w H.size _, fun U hU hW => ⟨rfl, zPre_at F hP hD hS isC hC hn U hU hW, hN.moved hW.alike⟩⟩ rfl hAs hls hst0 (lv_room hroom) hdg hcs) htab hlocks hP hD hS F.2.2.2 isC isR pm hC hRr hnd hdis hpm hpn
end ZT
