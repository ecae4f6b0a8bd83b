/-! ===== the law's own small methods: they call and catch ===== -/
abbrev zJ : Type := ClassId
abbrev zJT (j : zJ) : List (ClassId × FieldType) := [(j, .long)]
def zPreL (g : zEnv) (j : zJ) (w : va_W) (sz : Nat) (U : State) : Prop := zPreN g w sz U ∧ va_K (zD g) vwCl (zJT j) U
theorem zPreL_blind (g : zEnv) (j : zJ) (w : va_W) (sz : Nat) (av : List Value) : FrameBlind (va_Pc av (zPreL g j w sz)) := by
  intro a U fr mk h
  obtain ⟨h0, h1, h2⟩ := h
  obtain ⟨e1, e2⟩ := zPreN_blind g w sz av a U fr mk ⟨h0, h1⟩
  exact ⟨e1, e2, va_K.moved (u := U) (U := U.calling fr mk a) (Vm.Alike.refl U.vm) h2⟩
def zQL (g : zEnv) (A : Nat → Prop) (w1 : va_W) (v : Int32) (below : List Frame) (args : Array Value) (s : State) : State → Prop :=
  vx_MQ below (fun _ st oc t => oc = .returned (some (.int v)) ∧ va_P (zD g) vwCl w1 t.heap ∧ va_D A w1 ∧ va_F A st t) (fun _ _ _ => False) args s 1 6 A
/-- a method with a table of its own that returns v, makes w1 of its cells w and one new cell at most -/
def ZL (l : Launch) (y : MethodName) (cc : ByteArray) (maxL : Nat) (hh : List (Nat × Nat × Nat × Nat)) (rm : Room) (g : zEnv) (j : zJ) (av : List Value) (w w1 : va_W) (v : Int32) : Prop :=
  ∀ sz : Nat, vx_Met l y (Cond.codeWith y cc maxL (some .int) hh :: ZW) rm (va_Pc av (zPreL g j w sz)) (fun _ st oc t => oc = .returned (some (.int v)) ∧ va_P (zD g) vwCl w1 t.heap ∧ va_D (va_A w sz) w1 ∧ va_F (va_A w sz) st t) (fun _ _ _ => False) 1 6 (va_A w sz)
theorem zL_of {l : Launch} {y : MethodName} {cc : ByteArray} {maxL : Nat} {hh : List (Nat × Nat × Nat × Nat)} {rm : Room} {g : zEnv} {j : zJ} {av : List Value} {w w1 : va_W} {v : Int32} (hy : plainName y.cls = true) (hn : (lg_sl av).length ≤ maxL)
    (body : ∀ (p : Program) (e : Env) (s : State) (m : MethodId) (below : List Frame) (meth : Method) (c : Code) (A : Nat → Prop) (H : Heap) (locs : List Loc) (ls : Array Slot) (Q : State → Prop) (R : Room), zF p m c cc maxL s av.toArray y.cls g A → R = rm → meth.sig.returnType = some .int → meth.locks = false → zN s → va_K (zD g) vwCl (zJT j) s → c.exceptionTable.toList = tableOf hh → va_P (zD g) vwCl w H → va_D A w → va_S A s.heap H locs → lv_has ls maxL (lv_args 0 av) →
      Q = zQL g A w1 v below av.toArray s → W p l e R s m av.toArray below meth c H locs 0 0 Q (F0 m 0 ls [])) : ZL l y cc maxL hh rm g j av w w1 v := by
  intro sz
  refine vx_ofWH (cc := cc) (maxL := maxL) (ret := some .int) (hh := hh) hy rfl ?_
  intro p e s m args below meth c s₁ B hml hv
  obtain ⟨rfl, ⟨⟨hsz, hP, hK, hD0, hG⟩, hN⟩, hJ⟩ := hv
  have hts := atoms_spec (ws := Cond.codeWith y cc maxL (some .int) hh :: ZW) B.pre
  have hown : s.vm.findClass y.cls = some m.cls := findClass_of_methodNamed B.named
  have htab := vx_table (x := y) B (hts _ List.mem_cons_self)
  rw [lg_entry_eq]
  subst hsz
  exact body p e s m below meth c (va_A w s.heap.size) _ _ _ _ _ ⟨⟨B.exec, B.bytes, hml, hown, fun q hq => hts q (List.mem_cons_of_mem _ hq)⟩, hK, hG, fun q h => Or.inr h⟩ rfl B.returns B.notSynchronized hN hJ htab hP hD0.self va_S.rf (lv_entry av hn) rfl
theorem zIn {i : Int32} {n : Nat} (h : decide (i < 0 ∨ n ≤ i.toNatClampNeg) = false) : vp_in i n := of_decide_eq_false h
section ZLS
variable {p : Program} {l : Launch} {e : Env} {R : Room} {s : State} {m : MethodId} {args : Array Value} {below : List Frame} {meth : Method} {c : Code} {H : Heap} {locs : List Loc} {cells slots : Nat} {Q : State → Prop}
variable {cc bytes : ByteArray} {nL maxL index n pc k : Nat} {own C : String} {y : MethodName} {ret : Option FieldType} {rm : Room} {g : zEnv} {j : zJ} {A : Nat → Prop} {W0 w w1 wr W1 : va_W} {b : Addr} {As rest st0 st1 : List Value} {ls : Array Slot}
theorem zL_i {v : Int32} (F : zF p m c cc nL s args own g A) (hr : meth.sig.returnType = some .int) (hlocks : meth.locks = false) (hQ : Q = zQL g A W0 v below args s) (hcs : cells ≤ 1 ∧ slots ≤ 6) (hP : va_P (zD g) vwCl W0 H) (hD : va_D A W0) (hS : va_S A s.heap H locs) (hdg : decode cc pc = .ok (.ireturn, 1)) : W p l e R s m args below meth c H locs cells slots Q (F0 m pc ls [.int v]) := by
  subst hQ
  refine W.widen (k := 1) (n := 6) hcs.1 hcs.2 (vx_ret ?_)
  exact W.iret F.1.1 F.1.2.1 hr (fun t ht _ => ⟨rfl, by rw [ht]; exact hP, hD, hS.F ht⟩) hS.2.2 hdg hlocks
theorem z_last {f : Nat → Int64} {x : Int64} (F : zF p m c cc nL s args own g A) (hJ : va_K (zD g) vwCl (zJT j) s) (hP : va_P (zD g) vwCl W0 H) (hD : va_D A W0) (hS : va_S A s.heap H locs) (q0 : Nat) (he : W0[q0]? = some (b, .inl (j, 1, .inr (.inl f)))) (hdg : decode cc pc = .ok (.lastore, 1)) (hW1 : W0.set q0 (b, .inl (j, 1, .inr (.inl (vp_updL f 0 x)))) = W1)
    (kk : ∀ (H1 : Heap) (locs1 : List Loc), va_P (zD g) vwCl W1 H1 → va_D A W1 → va_S A s.heap H1 locs1 → W p l e R s m args below meth c H1 locs1 cells slots Q (F0 m (pc + 1) ls rest)) : W p l e R s m args below meth c H locs cells slots Q (F0 m pc ls (.long x :: .int 0 :: .ref b :: rest)) := by
  subst hW1
  exact va_last F.1.1 F.1.2.1 hJ hP hD hS q0 0 he rfl (zIn (by decide)) hdg kk
/-- a call of an instance method that throws, caught here -/
theorem zCV (F : zF p m c cc nL s args own g A) (hM : ZE l y bytes maxL ret rm g (.ref b :: As) w w1 k) (hN : zN s) (hy : zYv y C bytes maxL ret n) (hl : Cond.methodLink own index y ∈ ZW) (hP : va_P (zD g) vwCl W0 H) (hD : va_D A W0) (hS : va_S A s.heap H locs)
    (isC isR pm : List Nat) (hC : isC.map (fun i => W0[i]?) = w.map some) (hn : va_nd isC = true) (hRr : isR.map (fun i => W0[i]?) = wr.map some) (hnd : va_nd isR = true) (hdis : ∀ i ∈ isR, i ∉ isC) (hpm : pm.map (fun i => (wr ++ w1)[i]?) = W1.map some) (hpn : va_nd pm = true)
    {q0 ci : Nat} {fs : List Value} {T : u_T} {N : Nat} (he : W0[q0]? = some (b, .inr (ci, fs))) (hc : vwCl[ci]? = some (C, T, N)) (hAs : As.length = n) (hls : ls.size = nL) (hst0 : st0 = As.reverse ++ .ref b :: rest) (hroom : (rest.map fun v => v.category).sum ≤ 8)
    (hr : rm.cells = 1 ∧ rm.slots = 6) (hR : rm.frames + 1 ≤ R.frames ∧ 8 + (maxL + 11) + rm.locals ≤ R.locals) (hcs : 0 + 1 ≤ R.cells ∧ 0 + 6 ≤ R.slots) (hdg : decode cc pc = .ok (.invokevirtual index, 3))
    {pre : List ExceptionTableEntry} {x : ExceptionTableEntry} {suf : List ExceptionTableEntry} (hsplit : c.exceptionTable.toList = pre ++ x :: suf) (hpass : ∀ z ∈ pre, z.catchType ≠ 0 ∧ ∃ nm : String, Cond.classLink own z.catchType nm ∈ ZW ∧ va_Nc (zES k) nm s) (hcov : covers x pc = true) (h0 : x.catchType ≠ 0) (hlk : Cond.classLink own x.catchType (zES k) ∈ ZW)
    (kk : ∀ (H1 : Heap) (locs1 : List Loc) (q9 : Nat), va_P (zD g) vwCl W1 H1 → va_D A W1 → va_S A s.heap H1 locs1 → W p l e R s m args below meth c H1 locs1 1 6 Q (F0 m x.handlerPc ls [.ref q9])) : W p l e R s m args below meth c H locs 0 0 Q (F0 m pc ls st0) := by
  have hr : vx_Run p l e R s m args below meth c H locs 0 0 1 6 (F0 m pc ls st0) rest (fun _ _ _ => False) (fun E1 st t => E1 = zES k ∧ va_P (zD g) vwCl w1 t.heap ∧ va_D (va_A w H.size) w1 ∧ va_F (va_A w H.size) st t) (va_A w H.size) := vx_runV F.1 (hM H.size) ⟨zCallB F hy.2.2.2.1 hy.2.2.1 hy.2.2.2.2.1 hy.2.2.2.2.2 hl hr.1 hr.2 hR, F.1.2.2.2.2 _ hy.1, F.1.2.2.2.2 _ hy.2.1⟩ ⟨zPreN_blind g w H.size _, zRecv F hP he hc, fun U hU hW => ⟨rfl, zPre_at F hP hD hS isC hC hn U hU hW, hN.moved hW.alike⟩⟩ rfl hAs hls hst0 (lv_room hroom) hdg hcs
  have hA := F.2.2.2
  intro T hT X
  rcases hr T hT X with ⟨v, st₀, t, T', L, h0, X', hL, e1, e2, hfalse, st⟩ | ⟨q, st₀, t, T', L, E, ce, hh0, X', hL, e1, e2, ⟨hE, hP1, hD1, hz, hk⟩, hce, hcv, hcl, st⟩
  · exact hfalse.elim
  · have hF := va_free hD hS hA isC hC
    rw [hh0] at hz hk
    rw [← e1] at hP1 hz hk hce
    obtain ⟨k1, k2⟩ := va_join hP hD isC isR hC hRr hnd hdis hk hF hP1 hD1
    have k3 : va_S A s.heap T'.heap (locs ++ L) := ⟨Nat.le_trans hS.1 hz, fun q h1 h2 => by rw [hk q (Nat.lt_of_lt_of_le h1 hS.1) (fun z => h2 (hF q z))]; exact hS.2.1 q h1 h2, fun q hq => by
        rcases List.mem_append.mp hq with h | h
        · exact hS.2.2 q h
        · exact hF _ (hL q h)⟩
    subst hE
    obtain ⟨t2, a1, b1⟩ := vx_catch (pc := pc) (ls := ls) (rest := rest) (H := T'.heap) (locs := locs ++ L) (cells := 0 + 1) (slots := 0 + 6) (own := own) (name := zES k) (E := zES k) F.1.2.2.2.1 pre x suf hsplit (fun z hz => by
        obtain ⟨p1, nm, p2, p3⟩ := hpass z hz
        exact Or.inr ⟨p1, nm, F.1.2.2.2.2 _ p2, p3⟩) hcov h0 (F.1.2.2.2.2 _ hlk) (hN.1.1 k).word hce hcv hcl (kk T'.heap (locs ++ L) q (k1.sub pm (zFm hpm)) (k2.sub pm hpn hpm) k3) T' rfl X'
    exact ⟨t2, st.trans a1, b1⟩
end ZLS
