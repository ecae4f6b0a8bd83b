/-! ===== the law's larger methods over the class's world ===== -/
def zPreM (g : zEnv) (j : zJ) (w : va_W) (sz : Nat) (U : State) : Prop := zPreL g j w sz U ∧ zO4 U
theorem zPreM_blind (g : zEnv) (j : zJ) (w : va_W) (sz : Nat) (av : List Value) : FrameBlind (va_Pc av (zPreM g j w sz)) := by
  intro a U fr mk h
  obtain ⟨h0, h1, h2⟩ := h
  obtain ⟨e1, e2⟩ := zPreL_blind g j w sz av a U fr mk ⟨h0, h1⟩
  exact ⟨e1, e2, zO4.same (u := U) (U := U.calling fr mk a) rfl h2⟩
def zQU (g : zEnv) (q : Nat → Nat) (A : Nat → Prop) (P1 : zKT → Prop) (v : Option Value) (mc ms : Nat) (below : List Frame) (args : Array Value) (s : State) : State → Prop :=
  vx_MQ below (fun _ st oc t => oc = .returned v ∧ ∃ K1, P1 K1 ∧ va_P (zD g) vwCl (zcW g q K1) t.heap ∧ va_D A (zcW g q K1) ∧ va_F A st t) (fun _ _ _ => False) args s mc ms A
/-- a method of the law's: from contents P0 to contents P1, with answer v and so many new cells at most -/
def ZU (l : Launch) (y : MethodName) (cc : ByteArray) (maxL : Nat) (ret : Option FieldType) (rm : Room) (g : zEnv) (j : zJ) (q : Nat → Nat) (av : List Value) (P0 P1 : zKT → Prop) (v : Option Value) (mc ms : Nat) : Prop :=
  ∀ K : zKT, P0 K → ∀ sz : Nat, vx_Met l y (Cond.code y cc maxL ret :: ZW) rm (va_Pc av (zPreM g j (zcW g q K) sz)) (fun _ st oc t => oc = .returned v ∧ ∃ K1, P1 K1 ∧ va_P (zD g) vwCl (zcW g q K1) t.heap ∧ va_D (va_A (zcW g q K) sz) (zcW g q K1) ∧ va_F (va_A (zcW g q K) sz) st t) (fun _ _ _ => False) mc ms (va_A (zcW g q K) sz)
theorem zU_of {l : Launch} {y : MethodName} {cc : ByteArray} {maxL : Nat} {ret : Option FieldType} {rm : Room} {g : zEnv} {j : zJ} {q : Nat → Nat} {av : List Value} {P0 P1 : zKT → Prop} {v : Option Value} {mc ms : Nat} (hy : plainName y.cls = true) (hn : (lg_sl av).length ≤ maxL)
    (body : ∀ (p : Program) (e : Env) (s : State) (m : MethodId) (below : List Frame) (meth : Method) (c : Code) (A : Nat → Prop) (H : Heap) (locs : List Loc) (ls : Array Slot) (Q : State → Prop) (R : Room) (K : zKT), P0 K → zF p m c cc maxL s av.toArray y.cls g A → R = rm → meth.sig.returnType = ret → meth.locks = false → zN s → va_K (zD g) vwCl (zJT j) s → zO4 s → va_P (zD g) vwCl (zcW g q K) H → va_D A (zcW g q K) → va_S A s.heap H locs → lv_has ls maxL (lv_args 0 av) →
      Q = zQU g q A P1 v mc ms below av.toArray s → W p l e R s m av.toArray below meth c H locs 0 0 Q (F0 m 0 ls [])) : ZU l y cc maxL ret rm g j q av P0 P1 v mc ms := by
  intro K hK0 sz
  refine vx_ofW (cc := cc) (maxL := maxL) (ret := ret) hy rfl ?_
  intro p e s m args below meth c s₁ B hml htab hv
  obtain ⟨rfl, ⟨⟨⟨hsz, hP, hK, hD0, hG⟩, hN⟩, hJ⟩, hO⟩ := hv
  have hts := atoms_spec (ws := Cond.code y cc maxL ret :: ZW) B.pre
  have hown : s.vm.findClass y.cls = some m.cls := findClass_of_methodNamed B.named
  rw [lg_entry_eq]
  subst hsz
  exact body p e s m below meth c (va_A (zcW g q K) s.heap.size) _ _ _ _ _ K hK0 ⟨⟨B.exec, B.bytes, hml, hown, fun q hq => hts q (List.mem_cons_of_mem _ hq)⟩, hK, hG, fun q h => Or.inr h⟩ rfl B.returns B.notSynchronized hN hJ hO hP hD0.self va_S.rf (lv_entry av hn) rfl
section ZUS
variable {p : Program} {l : Launch} {e : Env} {R : Room} {s : State} {m : MethodId} {args : Array Value} {below : List Frame} {meth : Method} {c : Code} {H : Heap} {locs : List Loc} {cells slots : Nat} {Q : State → Prop}
variable {cc bytes : ByteArray} {nL maxL index n pc mc ms : Nat} {own : String} {y : MethodName} {ret : Option FieldType} {rm : Room} {g : zEnv} {j : zJ} {q : Nat → Nat} {A : Nat → Prop} {As rest st0 st1 : List Value} {ls : Array Slot} {hh : List (Nat × Nat × Nat × Nat)} {K K1 : zKT} {P0 P1 : zKT → Prop}
theorem zU_z {x : Int32} (hK1 : P1 K) (F : zF p m c cc nL s args own g A) (hr : meth.sig.returnType = some .boolean) (hlocks : meth.locks = false) (hQ : Q = zQU g q A P1 (some (.int x)) mc ms below args s) (hcs : cells ≤ mc ∧ slots ≤ ms) (hn : narrow .boolean (.int x) = .int x) (hP : va_P (zD g) vwCl (zcW g q K) H) (hD : va_D A (zcW g q K)) (hS : va_S A s.heap H locs) (hdg : decode cc pc = .ok (.ireturn, 1)) : W p l e R s m args below meth c H locs cells slots Q (F0 m pc ls [.int x]) := by
  subst hQ
  refine W.widen (k := mc) (n := ms) hcs.1 hcs.2 (vx_ret ?_)
  exact W.zret F.1.1 F.1.2.1 hr hn (fun t ht _ => ⟨rfl, K, hK1, by rw [ht]; exact hP, hD, hS.F ht⟩) hS.2.2 hdg hlocks
theorem zU_i {x : Int32} (hK1 : P1 K) (F : zF p m c cc nL s args own g A) (hr : meth.sig.returnType = some .int) (hlocks : meth.locks = false) (hQ : Q = zQU g q A P1 (some (.int x)) mc ms below args s) (hcs : cells ≤ mc ∧ slots ≤ ms) (hP : va_P (zD g) vwCl (zcW g q K) H) (hD : va_D A (zcW g q K)) (hS : va_S A s.heap H locs) (hdg : decode cc pc = .ok (.ireturn, 1)) : W p l e R s m args below meth c H locs cells slots Q (F0 m pc ls [.int x]) := by
  subst hQ
  refine W.widen (k := mc) (n := ms) hcs.1 hcs.2 (vx_ret ?_)
  exact W.iret F.1.1 F.1.2.1 hr (fun t ht _ => ⟨rfl, K, hK1, by rw [ht]; exact hP, hD, hS.F ht⟩) hS.2.2 hdg hlocks
theorem zU_v (hK1 : P1 K) (F : zF p m c cc nL s args own g A) (hr : meth.sig.returnType = none) (hlocks : meth.locks = false) (hQ : Q = zQU g q A P1 none mc ms below args s) (hcs : cells ≤ mc ∧ slots ≤ ms) (hP : va_P (zD g) vwCl (zcW g q K) H) (hD : va_D A (zcW g q K)) (hS : va_S A s.heap H locs) (hdg : decode cc pc = .ok (.return_, 1)) : W p l e R s m args below meth c H locs cells slots Q (F0 m pc ls []) := by
  subst hQ
  refine W.widen (k := mc) (n := ms) hcs.1 hcs.2 (vx_ret ?_)
  exact W.vret F.1.1 F.1.2.1 hr (fun t ht _ => ⟨rfl, K, hK1, by rw [ht]; exact hP, hD, hS.F ht⟩) hS.2.2 hdg hlocks
/-- a call of one of the law's own small methods, over the class's world alone -/
theorem zcw0 {v : Int32} (hM : ZL l y bytes maxL hh rm g j As (zcW g q K) (zcW g q K1) v) (F : zF p m c cc nL s args own g A) (hN : zN s) (hJ : va_K (zD g) vwCl (zJT j) s) (hy : Cond.static y ∈ ZW ∧ Cond.codeWith y bytes maxL (some .int) hh ∈ ZW) (hini : Cond.initialized y.cls ∈ ZW) (hd : y.cls ≠ "java/lang/invoke/MethodHandle" ∧ y.cls ≠ "java/lang/invoke/VarHandle") (hp : (parseMethodDescriptor y.desc).map (fun d => d.parameters.length) = some n) (hl : Cond.methodLink own index y ∈ ZW) (hP : va_P (zD g) vwCl (zcW g q K) H) (hD : va_D A (zcW g q K)) (hS : va_S A s.heap H locs)
    (hAs : As.length = n) (hls : ls.size = nL) (hst0 : st0 = As.reverse ++ rest) (hroom : (rest.map fun v => v.category).sum ≤ 8) (hr : rm.cells = 1 ∧ rm.slots = 6) (hR : rm.frames + 1 ≤ R.frames ∧ 8 + (maxL + 11) + rm.locals ≤ R.locals) (hcs : cells + 1 ≤ R.cells ∧ slots + 6 ≤ R.slots) (hdg : decode cc pc = .ok (.invokestatic index, 3))
    (kk : ∀ (H1 : Heap) (locs1 : List Loc), va_P (zD g) vwCl (zcW g q K1) H1 → va_D A (zcW g q K1) → va_S A s.heap H1 locs1 → W p l e R s m args below meth c H1 locs1 (cells + 1) (slots + 6) Q (F0 m (pc + 3) ls (.int v :: rest))) : W p l e R s m args below meth c H locs cells slots Q (F0 m pc ls st0) :=
  zCL F hN hJ hM hy hini hd hp hl hP hD hS [0, 1, 2, 3, 4, 5, 6, 7, 8, 9, 10, 11, 12, 13, 14, 15, 16, 17, 18, 19, 20, 21, 22, 23, 24] [] [0, 1, 2, 3, 4, 5, 6, 7, 8, 9, 10, 11, 12, 13, 14, 15, 16, 17, 18, 19, 20, 21, 22, 23, 24] (wr := []) (W1 := zcW g q K1) rfl (by decide) rfl rfl (by decide) rfl (by decide) hAs hls hst0 hroom hr hR hcs hdg kk
theorem zcw1 {v : Int32} {b9 : Nat} {e9 : va_E} (hM : ZL l y bytes maxL hh rm g j As (zcW g q K) (zcW g q K1) v) (F : zF p m c cc nL s args own g A) (hN : zN s) (hJ : va_K (zD g) vwCl (zJT j) s) (hy : Cond.static y ∈ ZW ∧ Cond.codeWith y bytes maxL (some .int) hh ∈ ZW) (hini : Cond.initialized y.cls ∈ ZW) (hd : y.cls ≠ "java/lang/invoke/MethodHandle" ∧ y.cls ≠ "java/lang/invoke/VarHandle") (hp : (parseMethodDescriptor y.desc).map (fun d => d.parameters.length) = some n) (hl : Cond.methodLink own index y ∈ ZW) (hP : va_P (zD g) vwCl (zcW g q K ++ [(b9, e9)]) H) (hD : va_D A (zcW g q K ++ [(b9, e9)])) (hS : va_S A s.heap H locs)
    (hAs : As.length = n) (hls : ls.size = nL) (hst0 : st0 = As.reverse ++ rest) (hroom : (rest.map fun v => v.category).sum ≤ 8) (hr : rm.cells = 1 ∧ rm.slots = 6) (hR : rm.frames + 1 ≤ R.frames ∧ 8 + (maxL + 11) + rm.locals ≤ R.locals) (hcs : cells + 1 ≤ R.cells ∧ slots + 6 ≤ R.slots) (hdg : decode cc pc = .ok (.invokestatic index, 3))
    (kk : ∀ (H1 : Heap) (locs1 : List Loc), va_P (zD g) vwCl (zcW g q K1 ++ [(b9, e9)]) H1 → va_D A (zcW g q K1 ++ [(b9, e9)]) → va_S A s.heap H1 locs1 → W p l e R s m args below meth c H1 locs1 (cells + 1) (slots + 6) Q (F0 m (pc + 3) ls (.int v :: rest))) : W p l e R s m args below meth c H locs cells slots Q (F0 m pc ls st0) :=
  zCL F hN hJ hM hy hini hd hp hl hP hD hS [0, 1, 2, 3, 4, 5, 6, 7, 8, 9, 10, 11, 12, 13, 14, 15, 16, 17, 18, 19, 20, 21, 22, 23, 24] [25] [1, 2, 3, 4, 5, 6, 7, 8, 9, 10, 11, 12, 13, 14, 15, 16, 17, 18, 19, 20, 21, 22, 23, 24, 25, 0] (wr := [(b9, e9)]) (W1 := zcW g q K1 ++ [(b9, e9)]) rfl (by decide) rfl rfl (by decide) rfl (by decide) hAs hls hst0 hroom hr hR hcs hdg kk
/-- a call of one of the law's larger methods -/
theorem zcu {v : Option Value} (X : va_W) (isR pm pm' : List Nat) (hM : ZU l y bytes maxL ret rm g j q As P0 P1 v mc ms) (hK : P0 K) (F : zF p m c cc nL s args own g A) (hN : zN s) (hJ : va_K (zD g) vwCl (zJT j) s) (hO : zO4 s) (hy : zYs y bytes maxL ret n) (hl : Cond.methodLink own index y ∈ ZW) (hP : va_P (zD g) vwCl (zcW g q K ++ X) H) (hD : va_D A (zcW g q K ++ X)) (hS : va_S A s.heap H locs)
    (hC : [0, 1, 2, 3, 4, 5, 6, 7, 8, 9, 10, 11, 12, 13, 14, 15, 16, 17, 18, 19, 20, 21, 22, 23, 24].map (fun i => (zcW g q K ++ X)[i]?) = (zcW g q K).map some) (hRr : isR.map (fun i => (zcW g q K ++ X)[i]?) = X.map some) (hnd : va_nd isR = true) (hdis : ∀ i ∈ isR, i ∉ [0, 1, 2, 3, 4, 5, 6, 7, 8, 9, 10, 11, 12, 13, 14, 15, 16, 17, 18, 19, 20, 21, 22, 23, 24]) (hpm : ∀ K1 : zKT, pm.map (fun i => (X ++ zcW g q K1)[i]?) = (zcW g q K1 ++ X).map some) (hpn : va_nd pm = true)
    (hAs : As.length = n) (hls : ls.size = nL) (hst0 : st0 = As.reverse ++ rest) (hroom : (rest.map fun v => v.category).sum ≤ 8) (hrm : rm.cells = mc ∧ rm.slots = ms) (hR : rm.frames + 1 ≤ R.frames ∧ 8 + (maxL + 11) + rm.locals ≤ R.locals) (hcs : cells + mc ≤ R.cells ∧ slots + ms ≤ R.slots) (hdg : decode cc pc = .ok (.invokestatic index, 3)) (h1 : v.toList ++ rest = st1)
    (kk : ∀ (K1 : zKT) (H1 : Heap) (locs1 : List Loc), P1 K1 → va_P (zD g) vwCl (zcW g q K1 ++ X) H1 → va_D A (zcW g q K1 ++ X) → va_S A s.heap H1 locs1 → W p l e R s m args below meth c H1 locs1 (cells + mc) (slots + ms) Q (F0 m (pc + 3) ls st1)) : W p l e R s m args below meth c H locs cells slots Q (F0 m pc ls st0) := by
  subst h1
  have hnc : va_nd [0, 1, 2, 3, 4, 5, 6, 7, 8, 9, 10, 11, 12, 13, 14, 15, 16, 17, 18, 19, 20, 21, 22, 23, 24] = true := by decide
  have hr : vx_Run p l e R s m args below meth c H locs cells slots mc ms (F0 m pc ls st0) rest (fun st oc t => oc = .returned v ∧ ∃ K1, P1 K1 ∧ va_P (zD g) vwCl (zcW g q K1) t.heap ∧ va_D (va_A (zcW g q K) H.size) (zcW g q K1) ∧ va_F (va_A (zcW g q K) H.size) st t) (fun _ _ _ => False) (va_A (zcW g q K) H.size) := vx_runS F.1 (hM K hK H.size) ⟨zCallB F hy.2.2.1 hy.2.1 hy.2.2.2.1 hy.2.2.2.2 hl hrm.1 hrm.2 hR, F.1.2.2.2.2 _ hy.1⟩ ⟨zPreM_blind g j (zcW g q K) H.size _, fun U hU hW => ⟨rfl, ⟨⟨zPre_at F hP hD hS _ hC hnc U hU hW, hN.moved hW.alike⟩, va_K.moved hW.alike hJ⟩, zO4.warm hW hO⟩⟩ rfl hAs hls hst0 (lv_room hroom) hdg hcs
  have hA := F.2.2.2
  intro T hT X9
  rcases hr T hT X9 with ⟨v', st₀, t, T', L, h0, X', hL, e1, e2, ⟨hv, K1, hK1, hP1, hD1, hz, hk⟩, st⟩ | ⟨q9, st₀, t, T', L, E, ce, hh0, X', hL, e1, e2, hfalse, hce, hcv, hcl, st⟩
  · cases hv
    have hF := va_free hD hS hA _ hC
    rw [h0] at hz hk
    rw [← e1] at hP1 hz hk
    obtain ⟨k1, k2⟩ := va_join hP hD _ isR hC hRr hnd hdis hk hF hP1 hD1
    have k3 : va_S A s.heap T'.heap (locs ++ L) := ⟨Nat.le_trans hS.1 hz, fun q h1 h2 => by rw [hk q (Nat.lt_of_lt_of_le h1 hS.1) (fun z => h2 (hF q z))]; exact hS.2.1 q h1 h2, fun q hq => by
        rcases List.mem_append.mp hq with h | h
        · exact hS.2.2 q h
        · exact hF _ (hL q h)⟩
    obtain ⟨t2, a1, b1⟩ := kk K1 T'.heap (locs ++ L) hK1 (k1.sub pm (zFm (hpm K1))) (k2.sub pm hpn (hpm K1)) k3 T' rfl X'
    exact ⟨t2, st t2 a1, b1⟩
  · exact hfalse.elim
end ZUS
/-! a method of the law's that is given nothing: it leaves what was there alone -/
def zQW (A : Nat → Prop) (v : Option Value) (mc ms : Nat) (below : List Frame) (args : Array Value) (s : State) : State → Prop :=
  vx_MQ below (fun _ st oc t => oc = .returned v ∧ va_F A st t) (fun _ _ _ => False) args s mc ms A
def ZU0 (l : Launch) (y : MethodName) (cc : ByteArray) (maxL : Nat) (ret : Option FieldType) (rm : Room) (g : zEnv) (j : zJ) (v : Option Value) (mc ms : Nat) : Prop :=
  ∀ sz : Nat, vx_Met l y (Cond.code y cc maxL ret :: ZW) rm (va_Pc [] (zPreM g j [] sz)) (fun _ st oc t => oc = .returned v ∧ va_F (va_A [] sz) st t) (fun _ _ _ => False) mc ms (va_A [] sz)
theorem zW0_of {l : Launch} {y : MethodName} {cc : ByteArray} {maxL : Nat} {ret : Option FieldType} {rm : Room} {g : zEnv} {j : zJ} {v : Option Value} {mc ms : Nat} (hy : plainName y.cls = true) (hn : (lg_sl ([] : List Value)).length ≤ maxL)
    (body : ∀ (p : Program) (e : Env) (s : State) (m : MethodId) (below : List Frame) (meth : Method) (c : Code) (A : Nat → Prop) (H : Heap) (locs : List Loc) (ls : Array Slot) (Q : State → Prop) (R : Room), zF p m c cc maxL s ([] : List Value).toArray y.cls g A → R = rm → meth.sig.returnType = ret → meth.locks = false → zN s → va_K (zD g) vwCl (zJT j) s → zO4 s → va_P (zD g) vwCl [] H → va_D A [] → va_S A s.heap H locs → lv_has ls maxL (lv_args 0 []) →
      Q = zQW A v mc ms below ([] : List Value).toArray s → W p l e R s m ([] : List Value).toArray below meth c H locs 0 0 Q (F0 m 0 ls [])) : ZU0 l y cc maxL ret rm g j v mc ms := by
  intro sz
  refine vx_ofW (cc := cc) (maxL := maxL) (ret := ret) hy rfl ?_
  intro p e s m args below meth c s₁ B hml htab hv
  obtain ⟨rfl, ⟨⟨⟨hsz, hP, hK, hD0, hG⟩, hN⟩, hJ⟩, hO⟩ := hv
  have hts := atoms_spec (ws := Cond.code y cc maxL ret :: ZW) B.pre
  have hown : s.vm.findClass y.cls = some m.cls := findClass_of_methodNamed B.named
  rw [lg_entry_eq]
  subst hsz
  exact body p e s m below meth c (va_A [] s.heap.size) _ _ _ _ _ ⟨⟨B.exec, B.bytes, hml, hown, fun q hq => hts q (List.mem_cons_of_mem _ hq)⟩, hK, hG, fun q h => Or.inr h⟩ rfl B.returns B.notSynchronized hN hJ hO hP hD0.self va_S.rf (lv_entry [] hn) rfl
section ZUT
variable {p : Program} {l : Launch} {e : Env} {R : Room} {s : State} {m : MethodId} {args : Array Value} {below : List Frame} {meth : Method} {c : Code} {H : Heap} {locs : List Loc} {cells slots : Nat} {Q : State → Prop}
variable {cc bytes : ByteArray} {nL maxL index pc mc ms : Nat} {own : String} {y : MethodName} {ret : Option FieldType} {rm : Room} {g : zEnv} {j : zJ} {A : Nat → Prop} {rest st1 : List Value} {ls : Array Slot}
theorem zW0_z {x : Int32} (F : zF p m c cc nL s args own g A) (hr : meth.sig.returnType = some .boolean) (hlocks : meth.locks = false) (hQ : Q = zQW A (some (.int x)) mc ms below args s) (hcs : cells ≤ mc ∧ slots ≤ ms) (hn : narrow .boolean (.int x) = .int x) (hS : va_S A s.heap H locs) (hdg : decode cc pc = .ok (.ireturn, 1)) : W p l e R s m args below meth c H locs cells slots Q (F0 m pc ls [.int x]) := by
  subst hQ
  refine W.widen (k := mc) (n := ms) hcs.1 hcs.2 (vx_ret ?_)
  exact W.zret F.1.1 F.1.2.1 hr hn (fun t ht _ => ⟨rfl, hS.F ht⟩) hS.2.2 hdg hlocks
/-- its call, over any world X -/
theorem zcw00 {v : Option Value} (X : va_W) (isR : List Nat) (hM : ZU0 l y bytes maxL ret rm g j v mc ms) (F : zF p m c cc nL s args own g A) (hN : zN s) (hJ : va_K (zD g) vwCl (zJT j) s) (hO : zO4 s) (hy : zYs y bytes maxL ret 0) (hl : Cond.methodLink own index y ∈ ZW) (hP : va_P (zD g) vwCl X H) (hD : va_D A X) (hS : va_S A s.heap H locs)
    (hRr : isR.map (fun i => X[i]?) = X.map some) (hnd : va_nd isR = true) (hls : ls.size = nL) (hroom : (rest.map fun v => v.category).sum ≤ 8) (hrm : rm.cells = mc ∧ rm.slots = ms) (hR : rm.frames + 1 ≤ R.frames ∧ 8 + (maxL + 11) + rm.locals ≤ R.locals) (hcs : cells + mc ≤ R.cells ∧ slots + ms ≤ R.slots) (hdg : decode cc pc = .ok (.invokestatic index, 3)) (h1 : v.toList ++ rest = st1)
    (kk : ∀ (H1 : Heap) (locs1 : List Loc), va_P (zD g) vwCl X H1 → va_D A X → va_S A s.heap H1 locs1 → W p l e R s m args below meth c H1 locs1 (cells + mc) (slots + ms) Q (F0 m (pc + 3) ls st1)) : W p l e R s m args below meth c H locs cells slots Q (F0 m pc ls rest) := by
  subst h1
  have hC : ([] : List Nat).map (fun i => X[i]?) = ([] : va_W).map some := rfl
  have hP0 : va_P (zD g) vwCl ([] : va_W) H := fun k q h => by simp at h
  have hD0 : va_D A ([] : va_W) := ⟨fun i j p q h => by simp at h, fun k q h => by simp at h⟩
  have hr : vx_Run p l e R s m args below meth c H locs cells slots mc ms (F0 m pc ls rest) rest (fun st oc t => oc = .returned v ∧ va_F (va_A [] H.size) st t) (fun _ _ _ => False) (va_A [] H.size) := vx_runS (As := []) F.1 (hM H.size) ⟨zCallB F hy.2.2.1 hy.2.1 hy.2.2.2.1 hy.2.2.2.2 hl hrm.1 hrm.2 hR, F.1.2.2.2.2 _ hy.1⟩ ⟨zPreM_blind g j [] H.size _, fun U hU hW => ⟨rfl, ⟨⟨zPre_at F hP hD hS [] hC rfl U hU hW, hN.moved hW.alike⟩, va_K.moved hW.alike hJ⟩, zO4.warm hW hO⟩⟩ rfl rfl hls rfl (lv_room hroom) hdg hcs
  have hA := F.2.2.2
  intro T hT X9
  rcases hr T hT X9 with ⟨v', st₀, t, T', L, h0, X', hL, e1, e2, ⟨hv, hz, hk⟩, st⟩ | ⟨q9, st₀, t, T', L, E, ce, hh0, X', hL, e1, e2, hfalse, hce, hcv, hcl, st⟩
  · cases hv
    have hF := va_free hD hS hA [] hC
    rw [h0] at hz hk
    rw [← e1] at hz hk
    have hP1 : va_P (zD g) vwCl ([] : va_W) T'.heap := fun k q h => by simp at h
    have hD1 : va_D (va_A [] H.size) ([] : va_W) := ⟨fun i j p q h => by simp at h, fun k q h => by simp at h⟩
    obtain ⟨k1, k2⟩ := va_join hP hD [] isR hC hRr hnd (fun i _ h => by simp at h) hk hF hP1 hD1
    rw [List.append_nil] at k1 k2
    have k3 : va_S A s.heap T'.heap (locs ++ L) := ⟨Nat.le_trans hS.1 hz, fun q h1 h2 => by rw [hk q (Nat.lt_of_lt_of_le h1 hS.1) (fun z => h2 (hF q z))]; exact hS.2.1 q h1 h2, fun q hq => by
        rcases List.mem_append.mp hq with h | h
        · exact hS.2.2 q h
        · exact hF _ (hL q h)⟩
    obtain ⟨t2, a1, b1⟩ := kk T'.heap (locs ++ L) k1 k2 k3 T' rfl X'
    exact ⟨t2, st t2 a1, b1⟩
  · exact hfalse.elim
end ZUT
