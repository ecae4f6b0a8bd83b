/-! ===== constructors: our own layer ===== -/
def zNestL : List (String × Nat × MethodName) := [(RX9, 9, yX4_init), (RX1, 15, yX4_init), (RX9, 25, yX7_init), (RX9, 32, yX5_init), (RX3, 11, yX4_init), (RX9, 57, yX2_init)]
/-- what constructors ask beside: the rows of scores, the links to nest mates -/
def zO4 (U : State) : Prop := va_AO RX4 U ∧ ∀ q ∈ zNestL, va_Nw (.methodLinkNest q.1 q.2.1 q.2.2 RX9) U
theorem zO4.warm {s U : State} (hW : s.WarmedH U.vm) (h : zO4 s) : zO4 U := ⟨va_AO.moved hW.alike h.1, fun q hq => va_Nw.warmM hW (h.2 q hq)⟩
theorem zO4.same {u U : State} (hv : u.vm = U.vm) (h : zO4 u) : zO4 U := ⟨va_AO.moved (by rw [hv]; exact Vm.Alike.refl _) h.1, fun q hq => va_Nw.same rfl hv (h.2 q hq)⟩
def zPreI (g : zEnv) (w : va_W) (sz : Nat) (U : State) : Prop := zPre g w sz U ∧ zO4 U
theorem zPreI_blind (g : zEnv) (w : va_W) (sz : Nat) (av : List Value) : FrameBlind (va_Pc av (zPreI g w sz)) := by
  intro a U fr mk h
  obtain ⟨h0, h1, h2⟩ := h
  obtain ⟨e1, e2⟩ := zPre_blind g w sz av a U fr mk ⟨h0, h1⟩
  exact ⟨e1, e2, zO4.same (u := U) (U := U.calling fr mk a) rfl h2⟩
/-- a constructor: some new cells z come, the cells are w1 z then -/
def ZI {β : Type} (l : Launch) (y : MethodName) (cc : ByteArray) (maxL : Nat) (rm : Room) (g : zEnv) (av : List Value) (w : va_W) (w1 : β → va_W) (mc ms : Nat) : Prop :=
  ∀ sz : Nat, Met l y (Cond.code y cc maxL none :: ZW) rm (va_Pc av (zPreI g w sz)) (fun _ st oc t => oc = .returned none ∧ ∃ z : β, va_P (zD g) vwCl (w1 z) t.heap ∧ va_D (va_A w sz) (w1 z) ∧ va_F (va_A w sz) st t) mc ms (va_A w sz)
def zQI {β : Type} (g : zEnv) (A : Nat → Prop) (w1 : β → va_W) (mc ms : Nat) (below : List Frame) (args : Array Value) (s : State) : State → Prop :=
  MQ below (fun _ st oc t => oc = .returned none ∧ ∃ z : β, va_P (zD g) vwCl (w1 z) t.heap ∧ va_D A (w1 z) ∧ va_F A st t) args s mc ms A
theorem zI_of {β : Type} {l : Launch} {y : MethodName} {cc : ByteArray} {maxL : Nat} {rm : Room} {g : zEnv} {av : List Value} {w : va_W} {w1 : β → va_W} {mc ms : Nat} (hy : plainName y.cls = true) (hn : (lg_sl av).length ≤ maxL)
    (body : ∀ (p : Program) (e : Env) (s : State) (m : MethodId) (below : List Frame) (meth : Method) (c : Code) (A : Nat → Prop) (H : Heap) (locs : List Loc) (ls : Array Slot) (Q : State → Prop) (R : Room), zF p m c cc maxL s av.toArray y.cls g A → R = rm → meth.sig.returnType = none → meth.locks = false → meth.name = y.name → zO4 s → va_P (zD g) vwCl w H → va_D A w → va_S A s.heap H locs → lv_has ls maxL (lv_args 0 av) →
      Q = zQI g A w1 mc ms below av.toArray s → W p l e R s m av.toArray below meth c H locs 0 0 Q (F0 m 0 ls [])) : ZI l y cc maxL rm g av w w1 mc ms := by
  intro sz
  refine Met.ofW (cc := cc) (maxL := maxL) (ret := none) hy rfl ?_
  intro p e s m args below meth c s₁ B hml hv
  obtain ⟨rfl, ⟨hsz, hP, hK, hD0, hG⟩, hO⟩ := hv
  have hts := atoms_spec (ws := Cond.code y cc maxL none :: ZW) B.pre
  have hown : s.vm.findClass y.cls = some m.cls := findClass_of_methodNamed B.named
  have hin : meth.name = y.name := (name_of_methodNamed B.named B.method).1
  rw [lg_entry_eq]
  subst hsz
  exact body p e s m below meth c (va_A w s.heap.size) _ _ _ _ _ ⟨⟨B.exec, B.bytes, hml, hown, fun q hq => hts q (List.mem_cons_of_mem _ hq)⟩, hK, hG, fun q h => Or.inr h⟩ rfl B.returns B.notSynchronized hin hO hP hD0.self va_S.rf (lv_entry av hn) rfl
section ZIS
variable {p : Program} {l : Launch} {e : Env} {R : Room} {s : State} {m : MethodId} {args : Array Value} {below : List Frame} {meth : Method} {c : Code} {H : Heap} {locs : List Loc} {cells slots : Nat} {Q : State → Prop}
variable {cc bytes : ByteArray} {nL maxL index n pc mc ms : Nat} {own C : String} {y : MethodName} {rm : Room} {g : zEnv} {A : Nat → Prop} {W0 w wr W1 : va_W} {b : Addr} {As rest st0 : List Value} {ls : Array Slot}
theorem zI_v {β : Type} {w1 : β → va_W} (z : β) (F : zF p m c cc nL s args own g A) (hr : meth.sig.returnType = none) (hlocks : meth.locks = false) (hQ : Q = zQI g A w1 mc ms below args s) (hP : va_P (zD g) vwCl W0 H) (hD : va_D A W0) (hw : W0 = w1 z) (hS : va_S A s.heap H locs) (hdg : decode cc pc = .ok (.return_, 1)) : W p l e R s m args below meth c H locs mc ms Q (F0 m pc ls []) := by
  subst hQ; subst hw
  exact W.vret F.1.1 F.1.2.1 hr (fun t ht _ => ⟨rfl, z, by rw [ht]; exact hP, hD, hS.F ht⟩) hS.2.2 hdg hlocks
theorem z_oi (F : zF p m c cc nL s args own g A) (hls : ls.size = nL) (hlink : Cond.methodLink own index objectInit ∈ ZW) (hinst : Cond.instanceMethod objectInit ∈ ZW) (hcode : Cond.code objectInit ⟨#[0xb1]⟩ 1 none ∈ ZW) (hR : 1 ≤ R.frames ∧ 12 ≤ R.locals) (hdg : decode cc pc = .ok (.invokespecial index, 3))
    (kk : W p l e R s m args below meth c H locs cells slots Q (F0 m (pc + 3) ls [])) : W p l e R s m args below meth c H locs cells slots Q (F0 m pc ls [.ref b]) :=
  W.objInit F.1.1 F.1.2.1 F.1.2.2.2.1 (F.1.2.2.2.2 _ hlink) (F.1.2.2.2.2 _ hinst) (F.1.2.2.2.2 _ hcode) rfl (hls.trans F.1.2.2.1.symm) rfl hdg hR.1 hR.2 (W.eq (g2 := F0 m (pc + 3) ls []) rfl kk)
theorem zArr {g : zEnv} {k : Nat} {cA cX : ClassId} {ty : FieldType} (hK : va_K (zD g) vwCl (zTys g ++ [(cA, ty)]) s) (hk : (zTys g)[k]? = some (cX, ty)) (hk3 : k < 3) : cA = cX := by
  have h1 := (hK.2 k (cX, ty) (by rw [List.getElem?_append_left (by show k < 3; exact hk3)]; exact hk)).2
  have h2 := (hK.2 3 (cA, ty) rfl).2
  cases ty with
  | object q =>
    obtain ⟨-, -, -, -, -, e1⟩ := h1
    obtain ⟨-, -, -, -, -, e2⟩ := h2
    exact Option.some.inj (e2.symm.trans e1)
  | _ => exact Option.some.inj (Eq.trans (Eq.symm (show s.vm.findClass _ = some cA from h2)) (show s.vm.findClass _ = some cX from h1))
theorem z_newI {k : Int32} {N' : Nat} (F : zF p m c cc nL s args own g A) (harr : Cond.arrayClass .int ∈ ZW) (hP : va_P (zD g) vwCl W0 H) (hD : va_D A W0) (hS : va_S A s.heap H locs) (hn : ¬ k < 0) (hN : k.toNatClampNeg = N') (hb : N' * 4 ≤ 536870912) (hcells : cells + 1 ≤ R.cells) (hslots : slots + N' ≤ R.slots) (hdg : decode cc pc = .ok (.newarray .int, 2))
    (kk : ∀ (q : Nat) (H1 : Heap), va_P (zD g) vwCl (W0 ++ [(q, .inl (zI g, N', .inl (fun _ => 0)))]) H1 → va_D A (W0 ++ [(q, .inl (zI g, N', .inl (fun _ => 0)))]) → va_S A s.heap H1 locs → W p l e R s m args below meth c H1 locs (cells + 1) (slots + N') Q (F0 m (pc + 2) ls (.ref q :: rest))) : W p l e R s m args below meth c H locs cells slots Q (F0 m pc ls (.int k :: rest)) := by
  refine va_newa (atype := .int) (ty := .int) (a0 := (N', .inl (fun _ => 0))) F.1.1 F.1.2.1 (F.1.2.2.2.2 _ harr) rfl F.2.1 hP hD hS F.2.2.2 (fun _ => rfl) hn hN hb hcells hslots hdg (fun q cA H1 hK hP hD hS => ?_)
  have he := zArr (k := 0) hK rfl (by decide)
  subst he
  exact kk q H1 hP hD hS
theorem z_newY {k : Int32} {N' : Nat} (F : zF p m c cc nL s args own g A) (harr : Cond.arrayClass .byte ∈ ZW) (hP : va_P (zD g) vwCl W0 H) (hD : va_D A W0) (hS : va_S A s.heap H locs) (hn : ¬ k < 0) (hN : k.toNatClampNeg = N') (hb : N' * 1 ≤ 536870912) (hcells : cells + 1 ≤ R.cells) (hslots : slots + N' ≤ R.slots) (hdg : decode cc pc = .ok (.newarray .byte, 2))
    (kk : ∀ (q : Nat) (H1 : Heap), va_P (zD g) vwCl (W0 ++ [(q, .inl (zY g, N', .inl (fun _ => 0)))]) H1 → va_D A (W0 ++ [(q, .inl (zY g, N', .inl (fun _ => 0)))]) → va_S A s.heap H1 locs → W p l e R s m args below meth c H1 locs (cells + 1) (slots + N') Q (F0 m (pc + 2) ls (.ref q :: rest))) : W p l e R s m args below meth c H locs cells slots Q (F0 m pc ls (.int k :: rest)) := by
  refine va_newa (atype := .byte) (ty := .byte) (a0 := (N', .inl (fun _ => 0))) F.1.1 F.1.2.1 (F.1.2.2.2.2 _ harr) rfl F.2.1 hP hD hS F.2.2.2 (fun _ => rfl) hn hN hb hcells hslots hdg (fun q cA H1 hK hP hD hS => ?_)
  have he := zArr (k := 1) hK rfl (by decide)
  subst he
  exact kk q H1 hP hD hS
theorem z_newO {k : Int32} {N' : Nat} (F : zF p m c cc nL s args own g A) (hO : zO4 s) (hlk : Cond.classLink own index RX4 ∈ ZW) (hP : va_P (zD g) vwCl W0 H) (hD : va_D A W0) (hS : va_S A s.heap H locs) (hn : ¬ k < 0) (hN : k.toNatClampNeg = N') (hb : N' * 4 ≤ 536870912) (hcells : cells + 1 ≤ R.cells) (hslots : slots + N' ≤ R.slots) (hdg : decode cc pc = .ok (.anewarray index, 3))
    (kk : ∀ (q : Nat) (H1 : Heap), va_P (zD g) vwCl (W0 ++ [(q, .inl (zO g, N', .inr (.inr (.inr (.inr (fun _ => none))))))]) H1 → va_D A (W0 ++ [(q, .inl (zO g, N', .inr (.inr (.inr (.inr (fun _ => none))))))]) → va_S A s.heap H1 locs → W p l e R s m args below meth c H1 locs (cells + 1) (slots + N') Q (F0 m (pc + 3) ls (.ref q :: rest))) : W p l e R s m args below meth c H locs cells slots Q (F0 m pc ls (.int k :: rest)) := by
  refine va_newq (C := RX4) F.1.1 F.1.2.1 F.1.2.2.2.1 (F.1.2.2.2.2 _ hlk) hO.1 F.2.1 hP hD hS F.2.2.2 hn hN hb hcells hslots hdg (fun q cA H1 hK hP hD hS => ?_)
  have he := zArr (k := 2) hK rfl (by decide)
  subst he
  exact kk q H1 hP hD hS
theorem z_new {T : u_T} {N ci : Nat} (F : zF p m c cc nL s args own g A) (hu : ∀ w ∈ u_ws C T N, w ∈ ZW) (ty : Nat → FieldType) (hty : ∀ k, k < N → parseFieldDescriptor (T k).2.2.1 = some (ty k)) (hlk : Cond.classLink own index C ∈ ZW) (hinst : Cond.instantiable C N ∈ ZW) (hini : Cond.initialized C ∈ ZW) (hP : va_P (zD g) vwCl W0 H) (hD : va_D A W0) (hS : va_S A s.heap H locs) (hc : vwCl[ci]? = some (C, T, N)) {fs : List Value} (hfs : ∀ j, j < N → defaultValue (ty j) = vp_V fs j) (hcells : cells + 1 ≤ R.cells) (hslots : slots + N ≤ R.slots) (hdg : decode cc pc = .ok (.new index, 3))
    (kk : ∀ (q : Nat) (H1 : Heap), va_P (zD g) vwCl (W0 ++ [(q, .inr (ci, fs))]) H1 → va_D A (W0 ++ [(q, .inr (ci, fs))]) → va_S A s.heap H1 locs → W p l e R s m args below meth c H1 locs (cells + 1) (slots + N) Q (F0 m (pc + 3) ls (.ref q :: rest))) : W p l e R s m args below meth c H locs cells slots Q (F0 m pc ls rest) :=
  va_new F.1.1 F.1.2.1 F.1.2.2.2.2 hu ty hty F.1.2.2.2.1 (F.1.2.2.2.2 _ hlk) (F.1.2.2.2.2 _ hinst) (F.1.2.2.2.2 _ hini) F.2.1 hP hD hS F.2.2.2 hc hfs hcells hslots hdg kk
theorem z_putF {T : u_T} {N ci : Nat} (F : zF p m c cc nL s args own g A) (hu : ∀ w ∈ u_ws own T N, w ∈ ZW) (ty0 : Nat → FieldType) (hty : ∀ k, k < N → parseFieldDescriptor (T k).2.2.1 = some (ty0 k)) (hnm : ∀ a, a < N → ∀ b, b < N → a ≠ b → (T a).2.1 ≠ (T b).2.1) (hP : va_P (zD g) vwCl W0 H) (hD : va_D A W0) (hS : va_S A s.heap H locs) (q0 : Nat) {fs : List Value} (he : W0[q0]? = some (b, .inr (ci, fs))) (hc : vwCl[ci]? = some (own, T, N)) (k : Nat) (hk : k < N) (hlink : Cond.fieldLink own index (T k).1 (T k).2.1 (T k).2.2.1 ∈ ZW) (hfin : (T k).2.2.2 = true) (hin : meth.name = "<init>") (hdecl : (T k).1 = own) {v : Value} (hn : narrow (ty0 k) v = v) (hfit : fits (ty0 k) v = true) (hl : k < fs.length) (hdg : decode cc pc = .ok (.putfield index, 3)) {W1 : va_W} (hW1 : W0.set q0 (b, .inr (ci, fs.set k v)) = W1)
    (kk : ∀ (H1 : Heap) (locs1 : List Loc), va_P (zD g) vwCl W1 H1 → va_D A W1 → va_S A s.heap H1 locs1 → W p l e R s m args below meth c H1 locs1 cells slots Q (F0 m (pc + 3) ls rest)) : W p l e R s m args below meth c H locs cells slots Q (F0 m pc ls (v :: .ref b :: rest)) := by
  subst hW1
  exact va_putF (own := own) (ref := (T k).1) F.1.1 F.1.2.1 F.1.2.2.2.2 hu ty0 hty hnm F.1.2.2.2.1 F.2.1 hP hD hS q0 he hc k hk (F.1.2.2.2.2 _ hlink) (fun _ h => h) hfin hin hdecl (hty k hk) hn hfit hl hdg kk
theorem z_iastN {n : Nat} {f : Nat → Int32} {i x : Int32} (F : zF p m c cc nL s args own g A) (hP : va_P (zD g) vwCl W0 H) (hD : va_D A W0) (hS : va_S A s.heap H locs) (q0 : Nat) (he : W0[q0]? = some (b, .inl (zI g, n, .inl f))) (hin : vp_in i n) (hdg : decode cc pc = .ok (.iastore, 1)) {W1 : (Nat → Int32) → va_W} (hW1 : ∀ f1, W0.set q0 (b, .inl (zI g, n, .inl f1)) = W1 f1)
    (kk : ∀ (f1 : Nat → Int32) (H1 : Heap) (locs1 : List Loc), f1 = upd f i.toNatClampNeg x → va_P (zD g) vwCl (W1 f1) H1 → va_D A (W1 f1) → va_S A s.heap H1 locs1 → W p l e R s m args below meth c H1 locs1 cells slots Q (F0 m (pc + 1) ls rest)) : W p l e R s m args below meth c H locs cells slots Q (F0 m pc ls (.int x :: .int i :: .ref b :: rest)) :=
  va_iast F.1.1 F.1.2.1 F.2.1 hP hD hS q0 0 he rfl hin hdg (fun H1 locs1 q1 q2 q3 => kk _ H1 locs1 rfl (hW1 _ ▸ q1) (hW1 _ ▸ q2) q3)
theorem z_astqO {n : Nat} {f : Nat → Option Nat} {i : Int32} {qk v : Nat} {vs : List Value} (F : zF p m c cc nL s args own g A) (hP : va_P (zD g) vwCl W0 H) (hD : va_D A W0) (hS : va_S A s.heap H locs) (q0 : Nat) (he : W0[q0]? = some (b, .inl (zO g, n, .inr (.inr (.inr (.inr f)))))) (hv : W0[qk]? = some (v, .inr (3, vs))) (hin : vp_in i n) (hdg : decode cc pc = .ok (.aastore, 1)) (hW1 : W0.set q0 (b, .inl (zO g, n, .inr (.inr (.inr (.inr (va_up f i.toNatClampNeg (some v))))))) = W1)
    (kk : ∀ (H1 : Heap) (locs1 : List Loc), va_P (zD g) vwCl W1 H1 → va_D A W1 → va_S A s.heap H1 locs1 → W p l e R s m args below meth c H1 locs1 cells slots Q (F0 m (pc + 1) ls rest)) : W p l e R s m args below meth c H locs cells slots Q (F0 m pc ls (.ref v :: .int i :: .ref b :: rest)) := by
  subst hW1
  exact va_astq (r := (RX4, TX4, 2)) F.1.1 F.1.2.1 F.2.1 hP hD hS q0 2 qk 3 he rfl hv rfl hin hdg kk
theorem zCI0 {β : Type} {w1 W1 : β → va_W} (F : zF p m c cc nL s args own g A) (hr : va_Run p l e R s m args below meth c H locs cells slots mc ms (F0 m pc ls st0) rest (fun st oc t => oc = .returned none ∧ ∃ z : β, va_P (zD g) vwCl (w1 z) t.heap ∧ va_D (va_A w H.size) (w1 z) ∧ va_F (va_A w H.size) st t) (va_A w H.size)) (hP : va_P (zD g) vwCl W0 H) (hD : va_D A W0) (hS : va_S A s.heap H locs)
    (isC isR pm : List Nat) (hC : isC.map (fun i => W0[i]?) = w.map some) (hRr : isR.map (fun i => W0[i]?) = wr.map some) (hnd : va_nd isR = true) (hdis : ∀ i ∈ isR, i ∉ isC) (hpm : ∀ z, pm.map (fun i => (wr ++ w1 z)[i]?) = (W1 z).map some) (hpn : va_nd pm = true)
    (kk : ∀ (z : β) (H1 : Heap) (locs1 : List Loc), va_P (zD g) vwCl (W1 z) H1 → va_D A (W1 z) → va_S A s.heap H1 locs1 → W p l e R s m args below meth c H1 locs1 (cells + mc) (slots + ms) Q (F0 m (pc + 3) ls rest)) : W p l e R s m args below meth c H locs cells slots Q (F0 m pc ls st0) := by
  have hA := F.2.2.2
  intro T hT X
  obtain ⟨v', st₀, t, T', L, h0, X', hL, e1, e2, ⟨hv, z, hP1, hD1, hz, hk⟩, st⟩ := hr T hT X
  cases hv
  have hF := va_free hD hS hA isC hC
  rw [h0] at hz hk
  rw [← e1] at hP1 hz hk
  obtain ⟨k1, k2⟩ := va_join hP hD isC isR hC hRr hnd hdis hk hF hP1 hD1
  have k3 : va_S A s.heap T'.heap (locs ++ L) := ⟨Nat.le_trans hS.1 hz, fun q h1 h2 => by rw [hk q (Nat.lt_of_lt_of_le h1 hS.1) (fun z => h2 (hF q z))]; exact hS.2.1 q h1 h2, fun q hq => by
      rcases List.mem_append.mp hq with h | h
      · exact hS.2.2 q h
      · exact hF _ (hL q h)⟩
  obtain ⟨t2, a1, b1⟩ := kk z T'.heap (locs ++ L) (k1.sub pm (zFm (hpm z))) (k2.sub pm hpn (hpm z)) k3 T' rfl X'
  exact ⟨t2, st t2 a1, b1⟩
/-- a call of a constructor -/
theorem zCI {β : Type} {w1 W1 : β → va_W} (F : zF p m c cc nL s args own g A) (hO : zO4 s) (hM : ZI l y bytes maxL rm g (.ref b :: As) w w1 mc ms) (hcode : Cond.code y bytes maxL none ∈ ZW) (hini : Cond.initialized y.cls ∈ ZW) (hd : y.cls ≠ "java/lang/invoke/MethodHandle" ∧ y.cls ≠ "java/lang/invoke/VarHandle") (hp : (parseMethodDescriptor y.desc).map (fun d => d.parameters.length) = some n) (hnm : y.name = "<init>") (hinst : Cond.instanceMethod y ∈ ZW) (hl : Cond.methodLink own index y ∈ ZW) (hP : va_P (zD g) vwCl W0 H) (hD : va_D A W0) (hS : va_S A s.heap H locs)
    (isC isR pm : List Nat) (hC : isC.map (fun i => W0[i]?) = w.map some) (hn : va_nd isC = true) (hRr : isR.map (fun i => W0[i]?) = wr.map some) (hnd : va_nd isR = true) (hdis : ∀ i ∈ isR, i ∉ isC) (hpm : ∀ z, pm.map (fun i => (wr ++ w1 z)[i]?) = (W1 z).map some) (hpn : va_nd pm = true)
    (hAs : As.length = n) (hls : ls.size = nL) (hst0 : st0 = As.reverse ++ .ref b :: rest) (hroom : (rest.map fun v => v.category).sum ≤ 8)
    (hr : rm.cells = mc ∧ rm.slots = ms) (hR : rm.frames + 1 ≤ R.frames ∧ 8 + (maxL + 11) + rm.locals ≤ R.locals) (hcs : cells + mc ≤ R.cells ∧ slots + ms ≤ R.slots) (hdg : decode cc pc = .ok (.invokespecial index, 3))
    (kk : ∀ (z : β) (H1 : Heap) (locs1 : List Loc), va_P (zD g) vwCl (W1 z) H1 → va_D A (W1 z) → va_S A s.heap H1 locs1 → W p l e R s m args below meth c H1 locs1 (cells + mc) (slots + ms) Q (F0 m (pc + 3) ls rest)) : W p l e R s m args below meth c H locs cells slots Q (F0 m pc ls st0) :=
  zCI0 F (va_runI F.1 (hM H.size) ⟨zCallB F hcode hini hd hp hl hr.1 hr.2 hR, hnm, F.1.2.2.2.2 _ hinst⟩ ⟨zPreI_blind g w H.size _, fun U hU hW => ⟨rfl, zPre_at F hP hD hS isC hC hn U hU hW, hO.warm hW⟩⟩ rfl hAs hls hst0 (lv_room hroom) hdg hcs) hP hD hS isC isR pm hC hRr hnd hdis hpm hpn kk
/-- a call of a nest mate's constructor -/
theorem zCIN {β : Type} {w1 W1 : β → va_W} (F : zF p m c cc nL s args own g A) (hO : zO4 s) (hM : ZI l y bytes maxL rm g (.ref b :: As) w w1 mc ms) (hcode : Cond.code y bytes maxL none ∈ ZW) (hini : Cond.initialized y.cls ∈ ZW) (hd : y.cls ≠ "java/lang/invoke/MethodHandle" ∧ y.cls ≠ "java/lang/invoke/VarHandle") (hp : (parseMethodDescriptor y.desc).map (fun d => d.parameters.length) = some n) (hnm : y.name = "<init>") (hinst : Cond.instanceMethod y ∈ ZW) (hl : (own, index, y) ∈ zNestL) (hP : va_P (zD g) vwCl W0 H) (hD : va_D A W0) (hS : va_S A s.heap H locs)
    (isC isR pm : List Nat) (hC : isC.map (fun i => W0[i]?) = w.map some) (hn : va_nd isC = true) (hRr : isR.map (fun i => W0[i]?) = wr.map some) (hnd : va_nd isR = true) (hdis : ∀ i ∈ isR, i ∉ isC) (hpm : ∀ z, pm.map (fun i => (wr ++ w1 z)[i]?) = (W1 z).map some) (hpn : va_nd pm = true)
    (hAs : As.length = n) (hls : ls.size = nL) (hst0 : st0 = As.reverse ++ .ref b :: rest) (hroom : (rest.map fun v => v.category).sum ≤ 8)
    (hr : rm.cells = mc ∧ rm.slots = ms) (hR : rm.frames + 1 ≤ R.frames ∧ 8 + (maxL + 11) + rm.locals ≤ R.locals) (hcs : cells + mc ≤ R.cells ∧ slots + ms ≤ R.slots) (hdg : decode cc pc = .ok (.invokespecial index, 3))
    (kk : ∀ (z : β) (H1 : Heap) (locs1 : List Loc), va_P (zD g) vwCl (W1 z) H1 → va_D A (W1 z) → va_S A s.heap H1 locs1 → W p l e R s m args below meth c H1 locs1 (cells + mc) (slots + ms) Q (F0 m (pc + 3) ls rest)) : W p l e R s m args below meth c H locs cells slots Q (F0 m pc ls st0) := by
  have ht := F.1.2.2.2.2
  refine zCI0 F (va_runIN (host := RX9) F.1 (hM H.size) ⟨⟨⟨hr.1, hr.2, hR.1, hR.2, zWarm ht hcode, List.mem_cons_self⟩, ht _ hcode, ht _ hini, hd, fun sig h => ?_, va_Nw.use rfl (hO.2 _ hl)⟩, hnm, ht _ hinst⟩ ⟨zPreI_blind g w H.size _, fun U hU hW => ⟨rfl, zPre_at F hP hD hS isC hC hn U hU hW, hO.warm hW⟩⟩ rfl hAs hls hst0 (lv_room hroom) hdg hcs) hP hD hS isC isR pm hC hRr hnd hdis hpm hpn kk
  rw [h] at hp
  exact (Option.some.inj hp).symm
end ZIS
