/-! ===== our own layer: a method as a partial function of its cells' contents ===== -/
def zStr : List (String × Nat × String × Nat) := [(RX3, 40, "voice", 9), (RX3, 54, "back", 18), (RX3, 60, "end", 19), (RX3, 72, "bar", 0), (RX3, 74, "open", 1), (RX3, 76, "ending", 2), (RX3, 78, "key", 3), (RX3, 84, "time", 8), (RX3, 89, "plain", 4), (RX3, 91, "sharp", 5), (RX3, 93, "flat", 6), (RX3, 112, "rest", 10), (RX3, 132, "tied", 17), (RX3, 142, "dotted", 11), (RX3, 162, "cdefgab", 20), (RX5, 22, "bar", 0), (RX5, 34, "open", 1), (RX5, 40, "ending", 2), (RX5, 50, "time", 8), (RX5, 59, "back", 18), (RX5, 61, "end", 19), (RX5, 63, "key", 3), (RX5, 65, "plain", 4), (RX5, 73, "sharp", 5), (RX5, 75, "flat", 6), (RX5, 80, "voice", 9), (RX5, 118, "rest", 10), (RX5, 123, "dotted", 11), (RX5, 134, "tied", 17), (RX8, 9, "sharp", 5), (RX8, 11, "flat", 6), (RX8, 13, "natural", 7), (RX8, 15, "whole", 12), (RX8, 17, "half", 13), (RX8, 19, "quarter", 14), (RX8, 21, "eighth", 15), (RX8, 23, "sixteenth", 16), (RX8, 25, "cdefgab", 20), (RX9, 68, "there are 16 measures", 31), (RX9, 99, "what or value is out of range", 32), (RX9, 211, "the sentence has more than 600 bytes", 26), (RX9, 219, "the text has 600 bytes", 27), (RX9, 221, "the text has fewer bytes", 28), (RX9, 245, "the undo stack is empty", 29), (RX9, 324, "no such measure", 23), (RX9, 330, "no such measure or voice", 24), (RX9, 335, "no such measure, voice or event", 25), (RX9, 337, "the voice has 24 events", 30), (RX9, 339, "a value is out of range", 22), (RX9, 341, "a value is negative", 21)]
theorem zst_X3_40 : ((RX3, 40, "voice", 9) : String × Nat × String × Nat) ∈ zStr := List.mem_of_getElem? (i := 0) rfl
theorem zst_X3_54 : ((RX3, 54, "back", 18) : String × Nat × String × Nat) ∈ zStr := List.mem_of_getElem? (i := 1) rfl
theorem zst_X3_60 : ((RX3, 60, "end", 19) : String × Nat × String × Nat) ∈ zStr := List.mem_of_getElem? (i := 2) rfl
theorem zst_X3_72 : ((RX3, 72, "bar", 0) : String × Nat × String × Nat) ∈ zStr := List.mem_of_getElem? (i := 3) rfl
theorem zst_X3_74 : ((RX3, 74, "open", 1) : String × Nat × String × Nat) ∈ zStr := List.mem_of_getElem? (i := 4) rfl
theorem zst_X3_76 : ((RX3, 76, "ending", 2) : String × Nat × String × Nat) ∈ zStr := List.mem_of_getElem? (i := 5) rfl
theorem zst_X3_78 : ((RX3, 78, "key", 3) : String × Nat × String × Nat) ∈ zStr := List.mem_of_getElem? (i := 6) rfl
theorem zst_X3_84 : ((RX3, 84, "time", 8) : String × Nat × String × Nat) ∈ zStr := List.mem_of_getElem? (i := 7) rfl
theorem zst_X3_89 : ((RX3, 89, "plain", 4) : String × Nat × String × Nat) ∈ zStr := List.mem_of_getElem? (i := 8) rfl
theorem zst_X3_91 : ((RX3, 91, "sharp", 5) : String × Nat × String × Nat) ∈ zStr := List.mem_of_getElem? (i := 9) rfl
theorem zst_X3_93 : ((RX3, 93, "flat", 6) : String × Nat × String × Nat) ∈ zStr := List.mem_of_getElem? (i := 10) rfl
theorem zst_X3_112 : ((RX3, 112, "rest", 10) : String × Nat × String × Nat) ∈ zStr := List.mem_of_getElem? (i := 11) rfl
theorem zst_X3_132 : ((RX3, 132, "tied", 17) : String × Nat × String × Nat) ∈ zStr := List.mem_of_getElem? (i := 12) rfl
theorem zst_X3_142 : ((RX3, 142, "dotted", 11) : String × Nat × String × Nat) ∈ zStr := List.mem_of_getElem? (i := 13) rfl
theorem zst_X3_162 : ((RX3, 162, "cdefgab", 20) : String × Nat × String × Nat) ∈ zStr := List.mem_of_getElem? (i := 14) rfl
theorem zst_X5_22 : ((RX5, 22, "bar", 0) : String × Nat × String × Nat) ∈ zStr := List.mem_of_getElem? (i := 15) rfl
theorem zst_X5_34 : ((RX5, 34, "open", 1) : String × Nat × String × Nat) ∈ zStr := List.mem_of_getElem? (i := 16) rfl
theorem zst_X5_40 : ((RX5, 40, "ending", 2) : String × Nat × String × Nat) ∈ zStr := List.mem_of_getElem? (i := 17) rfl
theorem zst_X5_50 : ((RX5, 50, "time", 8) : String × Nat × String × Nat) ∈ zStr := List.mem_of_getElem? (i := 18) rfl
theorem zst_X5_59 : ((RX5, 59, "back", 18) : String × Nat × String × Nat) ∈ zStr := List.mem_of_getElem? (i := 19) rfl
theorem zst_X5_61 : ((RX5, 61, "end", 19) : String × Nat × String × Nat) ∈ zStr := List.mem_of_getElem? (i := 20) rfl
theorem zst_X5_63 : ((RX5, 63, "key", 3) : String × Nat × String × Nat) ∈ zStr := List.mem_of_getElem? (i := 21) rfl
theorem zst_X5_65 : ((RX5, 65, "plain", 4) : String × Nat × String × Nat) ∈ zStr := List.mem_of_getElem? (i := 22) rfl
theorem zst_X5_73 : ((RX5, 73, "sharp", 5) : String × Nat × String × Nat) ∈ zStr := List.mem_of_getElem? (i := 23) rfl
theorem zst_X5_75 : ((RX5, 75, "flat", 6) : String × Nat × String × Nat) ∈ zStr := List.mem_of_getElem? (i := 24) rfl
theorem zst_X5_80 : ((RX5, 80, "voice", 9) : String × Nat × String × Nat) ∈ zStr := List.mem_of_getElem? (i := 25) rfl
theorem zst_X5_118 : ((RX5, 118, "rest", 10) : String × Nat × String × Nat) ∈ zStr := List.mem_of_getElem? (i := 26) rfl
theorem zst_X5_123 : ((RX5, 123, "dotted", 11) : String × Nat × String × Nat) ∈ zStr := List.mem_of_getElem? (i := 27) rfl
theorem zst_X5_134 : ((RX5, 134, "tied", 17) : String × Nat × String × Nat) ∈ zStr := List.mem_of_getElem? (i := 28) rfl
theorem zst_X8_9 : ((RX8, 9, "sharp", 5) : String × Nat × String × Nat) ∈ zStr := List.mem_of_getElem? (i := 29) rfl
theorem zst_X8_11 : ((RX8, 11, "flat", 6) : String × Nat × String × Nat) ∈ zStr := List.mem_of_getElem? (i := 30) rfl
theorem zst_X8_13 : ((RX8, 13, "natural", 7) : String × Nat × String × Nat) ∈ zStr := List.mem_of_getElem? (i := 31) rfl
theorem zst_X8_15 : ((RX8, 15, "whole", 12) : String × Nat × String × Nat) ∈ zStr := List.mem_of_getElem? (i := 32) rfl
theorem zst_X8_17 : ((RX8, 17, "half", 13) : String × Nat × String × Nat) ∈ zStr := List.mem_of_getElem? (i := 33) rfl
theorem zst_X8_19 : ((RX8, 19, "quarter", 14) : String × Nat × String × Nat) ∈ zStr := List.mem_of_getElem? (i := 34) rfl
theorem zst_X8_21 : ((RX8, 21, "eighth", 15) : String × Nat × String × Nat) ∈ zStr := List.mem_of_getElem? (i := 35) rfl
theorem zst_X8_23 : ((RX8, 23, "sixteenth", 16) : String × Nat × String × Nat) ∈ zStr := List.mem_of_getElem? (i := 36) rfl
theorem zst_X8_25 : ((RX8, 25, "cdefgab", 20) : String × Nat × String × Nat) ∈ zStr := List.mem_of_getElem? (i := 37) rfl
theorem zst_X9_68 : ((RX9, 68, "there are 16 measures", 31) : String × Nat × String × Nat) ∈ zStr := List.mem_of_getElem? (i := 38) rfl
theorem zst_X9_99 : ((RX9, 99, "what or value is out of range", 32) : String × Nat × String × Nat) ∈ zStr := List.mem_of_getElem? (i := 39) rfl
theorem zst_X9_211 : ((RX9, 211, "the sentence has more than 600 bytes", 26) : String × Nat × String × Nat) ∈ zStr := List.mem_of_getElem? (i := 40) rfl
theorem zst_X9_219 : ((RX9, 219, "the text has 600 bytes", 27) : String × Nat × String × Nat) ∈ zStr := List.mem_of_getElem? (i := 41) rfl
theorem zst_X9_221 : ((RX9, 221, "the text has fewer bytes", 28) : String × Nat × String × Nat) ∈ zStr := List.mem_of_getElem? (i := 42) rfl
theorem zst_X9_245 : ((RX9, 245, "the undo stack is empty", 29) : String × Nat × String × Nat) ∈ zStr := List.mem_of_getElem? (i := 43) rfl
theorem zst_X9_324 : ((RX9, 324, "no such measure", 23) : String × Nat × String × Nat) ∈ zStr := List.mem_of_getElem? (i := 44) rfl
theorem zst_X9_330 : ((RX9, 330, "no such measure or voice", 24) : String × Nat × String × Nat) ∈ zStr := List.mem_of_getElem? (i := 45) rfl
theorem zst_X9_335 : ((RX9, 335, "no such measure, voice or event", 25) : String × Nat × String × Nat) ∈ zStr := List.mem_of_getElem? (i := 46) rfl
theorem zst_X9_337 : ((RX9, 337, "the voice has 24 events", 30) : String × Nat × String × Nat) ∈ zStr := List.mem_of_getElem? (i := 47) rfl
theorem zst_X9_339 : ((RX9, 339, "a value is out of range", 22) : String × Nat × String × Nat) ∈ zStr := List.mem_of_getElem? (i := 48) rfl
theorem zst_X9_341 : ((RX9, 341, "a value is negative", 21) : String × Nat × String × Nat) ∈ zStr := List.mem_of_getElem? (i := 49) rfl
def zLen : List Nat := [3, 4, 6, 3, 5, 5, 4, 7, 4, 5, 4, 6, 5, 4, 7, 6, 9, 4, 4, 3, 7]
def zByt : List (List Int32) := [[98, 97, 114], [111, 112, 101, 110], [101, 110, 100, 105, 110, 103], [107, 101, 121], [112, 108, 97, 105, 110], [115, 104, 97, 114, 112], [102, 108, 97, 116], [110, 97, 116, 117, 114, 97, 108], [116, 105, 109, 101], [118, 111, 105, 99, 101], [114, 101, 115, 116], [100, 111, 116, 116, 101, 100], [119, 104, 111, 108, 101], [104, 97, 108, 102], [113, 117, 97, 114, 116, 101, 114], [101, 105, 103, 104, 116, 104], [115, 105, 120, 116, 101, 101, 110, 116, 104], [116, 105, 101, 100], [98, 97, 99, 107], [101, 110, 100], [99, 100, 101, 102, 103, 97, 98]]
abbrev zEnv : Type := va_G × (ClassId × ClassId × ClassId) × ((Nat → Nat) × (Nat → Nat)) × (Nat × Nat × Nat)
abbrev zD (g : zEnv) : va_G := g.1
abbrev zI (g : zEnv) : ClassId := g.2.1.1
abbrev zY (g : zEnv) : ClassId := g.2.1.2.1
abbrev zO (g : zEnv) : ClassId := g.2.1.2.2
abbrev zAK (g : zEnv) : Nat → Nat := g.2.2.1.1
abbrev zAV (g : zEnv) : Nat → Nat := g.2.2.1.2
abbrev zTys (g : zEnv) : List (ClassId × FieldType) := [(zI g, .int), (zY g, .byte), (zO g, .object "SpokenBars$Score")]
def zK (g : zEnv) (U : State) : Prop := va_K (zD g) vwCl (zTys g) U
def zTabs : List (List Int32) := [[0, 2, 4, 5, 7, 9, 11], [3, 0, 4, 1, 5, 2, 6], [6, 2, 5, 1, 4, 0, 3]]
def zTab (k : Nat) (j : Nat) : Int32 := (zTabs.getD k []).getD j 0
def zTN : List String := ["STEP_HEIGHTS", "SHARP_STEPS", "FLAT_STEPS"]
def zTA (g : zEnv) (k : Nat) : Nat := match k with
  | 0 => g.2.2.2.1
  | 1 => g.2.2.2.2.1
  | _ => g.2.2.2.2.2
def zG1 (g : zEnv) (A : Nat → Prop) (U : State) (H : Heap) (k : Nat) : Prop := va_Z "SpokenBars$Sounds" (zTN.getD k "") "[I" (.ref (zTA g k)) A U H ∧ va_T .int (zTA g k) 7 (fun j => .int (zTab k j)) A U H
/-- what stands outside the system's cells: text constants, static rows, what a throw reads -/
def zG (g : zEnv) (A : Nat → Prop) (U : State) (H : Heap) : Prop :=
  vk_S 21 zLen zByt (zAK g) (zAV g) A U H ∧ (∀ q ∈ zStr, vk_R q.1 q.2.1 q.2.2.1 (zAK g q.2.2.2) U) ∧ (∀ k : Nat, k < 3 → zG1 g A U H k) ∧ va_Z "java/lang/String" "COMPACT_STRINGS" "Z" (.int 1) A U H ∧ vx_Zq Bundle.tN "UNASSIGNED_STACK" Bundle.steD A U H ∧ vx_Zq Bundle.tN "SUPPRESSED_SENTINEL" Bundle.listD A U H ∧ va_Zq "jdk/internal/util/Preconditions" "SIOOBE_FORMATTER" "Ljava/util/function/BiFunction;" A U H
theorem zG.narrow {g : zEnv} {A B : Nat → Prop} {U : State} {H : Heap} (h : zG g A U H) (hAB : ∀ q, B q → A q) : zG g B U H :=
  ⟨h.1.narrow hAB, h.2.1, fun k hk => ⟨(h.2.2.1 k hk).1.narrow hAB, (h.2.2.1 k hk).2.narrow hAB⟩, h.2.2.2.1.narrow hAB, h.2.2.2.2.1.narrow hAB, h.2.2.2.2.2.1.narrow hAB, h.2.2.2.2.2.2.narrow hAB⟩
theorem zG.kept {g : zEnv} {A : Nat → Prop} {U : State} {H H1 : Heap} (h : zG g A U H) (hq : ∀ a : Nat, a < H.size → ¬ A a → H1[a]? = H[a]?) : zG g A U H1 :=
  ⟨h.1.kept hq, h.2.1, fun k hk => ⟨(h.2.2.1 k hk).1.kept hq, (h.2.2.1 k hk).2.kept hq⟩, h.2.2.2.1.kept hq, h.2.2.2.2.1.kept hq, h.2.2.2.2.2.1.kept hq, h.2.2.2.2.2.2.kept hq⟩
theorem zG.warm {g : zEnv} {A : Nat → Prop} {s U : State} {H : Heap} (hW : s.WarmedH U.vm) (h : zG g A s H) : zG g A U H :=
  ⟨h.1.moved hW.alike, fun q hq => (h.2.1 q hq).warm hW, fun k hk => ⟨(h.2.2.1 k hk).1.moved hW.alike, (h.2.2.1 k hk).2.moved hW.alike⟩, h.2.2.2.1.moved hW.alike, h.2.2.2.2.1.moved hW.alike, h.2.2.2.2.2.1.moved hW.alike, h.2.2.2.2.2.2.moved hW.alike⟩
theorem zG.same {g : zEnv} {A : Nat → Prop} {s U : State} {H : Heap} (hv : U.vm = s.vm) (h : zG g A s H) : zG g A U H := by
  have ha : s.vm.Alike U.vm := by rw [hv]; exact Vm.Alike.refl _
  exact ⟨h.1.moved ha, fun q hq => (h.2.1 q hq).same hv, fun k hk => ⟨(h.2.2.1 k hk).1.moved ha, (h.2.2.1 k hk).2.moved ha⟩, h.2.2.2.1.moved ha, h.2.2.2.2.1.moved ha, h.2.2.2.2.2.1.moved ha, h.2.2.2.2.2.2.moved ha⟩
def zPre (g : zEnv) (w : va_W) (sz : Nat) (U : State) : Prop := U.heap.size = sz ∧ va_P (zD g) vwCl w U.heap ∧ zK g U ∧ va_D (fun _ => True) w ∧ zG g (va_A w sz) U U.heap
theorem zPre_blind (g : zEnv) (w : va_W) (sz : Nat) (av : List Value) : FrameBlind (va_Pc av (zPre g w sz)) := by
  intro a U fr mk h
  obtain ⟨h1, h2, h3, h4, h5, h6⟩ := h
  exact ⟨h1, h2, h3, va_K.moved (u := U) (U := U.calling fr mk a) (Vm.Alike.refl U.vm) h4, h5, zG.same (s := U) rfl h6⟩
/-- a method that changes nothing and answers v -/
def ZR (l : Launch) (y : MethodName) (cc : ByteArray) (maxL : Nat) (ret : Option FieldType) (rm : Room) (g : zEnv) (av : List Value) (w : va_W) (v : Option Value) : Prop :=
  ∀ sz : Nat, Met l y (Cond.code y cc maxL ret :: ZW) rm (va_Pc av (zPre g w sz)) (fun _ st oc t => oc = .returned v ∧ t.heap = st.heap) 0 0 (fun _ => False)
/-- a method that makes w1 of its cells w and answers v, and makes no cells -/
def ZV (l : Launch) (y : MethodName) (cc : ByteArray) (maxL : Nat) (ret : Option FieldType) (rm : Room) (g : zEnv) (av : List Value) (w w1 : va_W) (v : Option Value) : Prop :=
  ∀ sz : Nat, Met l y (Cond.code y cc maxL ret :: ZW) rm (va_Pc av (zPre g w sz)) (fun _ st oc t => oc = .returned v ∧ va_P (zD g) vwCl w1 t.heap ∧ va_D (va_A w sz) w1 ∧ va_F (va_A w sz) st t) 0 0 (va_A w sz)
/-- a method that throws E and changes nothing that was there -/
def ZX (l : Launch) (y : MethodName) (cc : ByteArray) (maxL : Nat) (ret : Option FieldType) (rm : Room) (g : zEnv) (av : List Value) (w : va_W) (E : String) : Prop :=
  ∀ sz : Nat, vx_Met l y (Cond.code y cc maxL ret :: ZW) rm (va_Pc av (zPre g w sz)) (fun _ _ _ _ => False) (fun E1 st t => E1 = E ∧ st.heap.size ≤ t.heap.size ∧ ∀ q : Nat, q < st.heap.size → t.heap[q]? = st.heap[q]?) 1 6 (fun q => sz ≤ q)
/-- what is fixed through a walk -/
def zF (p : Program) (m : MethodId) (c : Code) (cc : ByteArray) (nL : Nat) (s : State) (args : Array Value) (own : String) (g : zEnv) (A : Nat → Prop) : Prop :=
  (p.tables.exec = Jvm.exec ∧ c.code = cc ∧ c.maxLocals = nL ∧ s.vm.findClass own = some m.cls ∧ ∀ w ∈ ZW, w.before args s = true) ∧ zK g s ∧ zG g A s s.heap ∧ ∀ q : Nat, s.heap.size ≤ q → A q
section ZM
variable {l : Launch} {y : MethodName} {cc : ByteArray} {maxL : Nat} {ret : Option FieldType} {rm : Room} {g : zEnv} {av : List Value} {w w1 : va_W} {v : Option Value}
theorem zR_of (hy : plainName y.cls = true) (hn : (lg_sl av).length ≤ maxL)
    (body : ∀ (p : Program) (e : Env) (s : State) (m : MethodId) (below : List Frame) (meth : Method) (c : Code) (A : Nat → Prop) (ls : Array Slot) (Q : State → Prop) (R : Room), zF p m c cc maxL s av.toArray y.cls g A → R = rm → meth.sig.returnType = ret → meth.locks = false → va_P (zD g) vwCl w s.heap → va_D A w → va_S A s.heap s.heap [] → lv_has ls maxL (lv_args 0 av) →
      Q = MQ below (fun _ st oc t => oc = .returned v ∧ t.heap = st.heap) av.toArray s 0 0 (fun _ => False) → W p l e R s m av.toArray below meth c s.heap [] 0 0 Q (F0 m 0 ls [])) : ZR l y cc maxL ret rm g av w v := by
  intro sz
  refine Met.ofW (cc := cc) (maxL := maxL) (ret := ret) hy rfl ?_
  intro p e s m args below meth c s₁ B hml hv
  obtain ⟨rfl, hsz, hP, hK, hD0, hG⟩ := hv
  have hts := atoms_spec (ws := Cond.code y cc maxL ret :: ZW) B.pre
  have hown : s.vm.findClass y.cls = some m.cls := findClass_of_methodNamed B.named
  rw [lg_entry_eq]
  subst hsz
  exact body p e s m below meth c (va_A w s.heap.size) _ _ _ ⟨⟨B.exec, B.bytes, hml, hown, fun q hq => hts q (List.mem_cons_of_mem _ hq)⟩, hK, hG, fun q h => Or.inr h⟩ rfl B.returns B.notSynchronized hP hD0.self va_S.rf (lv_entry av hn) rfl
theorem zV_of (hy : plainName y.cls = true) (hn : (lg_sl av).length ≤ maxL)
    (body : ∀ (p : Program) (e : Env) (s : State) (m : MethodId) (below : List Frame) (meth : Method) (c : Code) (A : Nat → Prop) (H : Heap) (locs : List Loc) (ls : Array Slot) (Q : State → Prop) (R : Room), zF p m c cc maxL s av.toArray y.cls g A → R = rm → meth.sig.returnType = ret → meth.locks = false → va_P (zD g) vwCl w H → va_D A w → va_S A s.heap H locs → lv_has ls maxL (lv_args 0 av) →
      Q = MQ below (fun _ st oc t => oc = .returned v ∧ va_P (zD g) vwCl w1 t.heap ∧ va_D A w1 ∧ va_F A st t) av.toArray s 0 0 A → W p l e R s m av.toArray below meth c H locs 0 0 Q (F0 m 0 ls [])) : ZV l y cc maxL ret rm g av w w1 v := by
  intro sz
  refine Met.ofW (cc := cc) (maxL := maxL) (ret := ret) hy rfl ?_
  intro p e s m args below meth c s₁ B hml hv
  obtain ⟨rfl, hsz, hP, hK, hD0, hG⟩ := hv
  have hts := atoms_spec (ws := Cond.code y cc maxL ret :: ZW) B.pre
  have hown : s.vm.findClass y.cls = some m.cls := findClass_of_methodNamed B.named
  rw [lg_entry_eq]
  subst hsz
  exact body p e s m below meth c (va_A w s.heap.size) _ _ _ _ _ ⟨⟨B.exec, B.bytes, hml, hown, fun q hq => hts q (List.mem_cons_of_mem _ hq)⟩, hK, hG, fun q h => Or.inr h⟩ rfl B.returns B.notSynchronized hP hD0.self va_S.rf (lv_entry av hn) rfl
end ZM
/-- the cells that a call may change, put back at their places -/
def zPut (W0 : va_W) : List Nat → va_W → va_W
  | i :: is, x :: w => zPut (W0.set i x) is w
  | _, _ => W0
section ZC
variable {p : Program} {l : Launch} {e : Env} {R : Room} {s : State} {m : MethodId} {args : Array Value} {below : List Frame} {meth : Method} {c : Code} {H : Heap} {locs : List Loc} {cells slots : Nat} {Q : State → Prop}
variable {cc bytes : ByteArray} {nL maxL index n pc : Nat} {own C : String} {y : MethodName} {ret : Option FieldType} {rm : Room} {g : zEnv} {A : Nat → Prop} {W0 w w1 wr W1 : va_W} {v : Option Value} {b : Addr} {As rest st0 st1 : List Value} {ls : Array Slot}
/-- a callee's link words in ZW -/
def zYv (y : MethodName) (C : String) (bytes : ByteArray) (maxL : Nat) (ret : Option FieldType) (n : Nat) : Prop :=
  Cond.instanceMethod y ∈ ZW ∧ Cond.selects C y y ∈ ZW ∧ Cond.initialized y.cls ∈ ZW ∧ Cond.code y bytes maxL ret ∈ ZW ∧ (y.cls ≠ "java/lang/invoke/MethodHandle" ∧ y.cls ≠ "java/lang/invoke/VarHandle") ∧ (parseMethodDescriptor y.desc).map (fun d => d.parameters.length) = some n
def zYs (y : MethodName) (bytes : ByteArray) (maxL : Nat) (ret : Option FieldType) (n : Nat) : Prop :=
  Cond.static y ∈ ZW ∧ Cond.initialized y.cls ∈ ZW ∧ Cond.code y bytes maxL ret ∈ ZW ∧ (y.cls ≠ "java/lang/invoke/MethodHandle" ∧ y.cls ≠ "java/lang/invoke/VarHandle") ∧ (parseMethodDescriptor y.desc).map (fun d => d.parameters.length) = some n
theorem zGood : ∀ w ∈ ZW, goodWord w = true := List.all_eq_true.mp (by decide +kernel)
theorem zWarm (ht : ∀ w ∈ ZW, w.before args s = true) (hc : Cond.code y bytes maxL ret ∈ ZW) : ∀ w ∈ (Cond.code y bytes maxL ret :: ZW), ∀ (a' : Array Value) (U : State), s.WarmedH U.vm → w.before a' U = true := by
  intro w hw a' U hW
  have hm : w ∈ ZW := by
    rcases List.mem_cons.mp hw with h | h
    · rw [h]; exact hc
    · exact h
  exact word_at hW (good_of_word (zGood w hm)) (ht w hm)
theorem zCallB {mc ms : Nat} (F : zF p m c cc nL s args own g A) (hc : Cond.code y bytes maxL ret ∈ ZW) (hini : Cond.initialized y.cls ∈ ZW) (hd : y.cls ≠ "java/lang/invoke/MethodHandle" ∧ y.cls ≠ "java/lang/invoke/VarHandle") (hp : (parseMethodDescriptor y.desc).map (fun d => d.parameters.length) = some n) (hl : Cond.methodLink own index y ∈ ZW) (hrc : rm.cells = mc) (hrs : rm.slots = ms) (hR : rm.frames + 1 ≤ R.frames ∧ 8 + (maxL + 11) + rm.locals ≤ R.locals) :
    CallB R s args own index y bytes maxL ret (Cond.code y bytes maxL ret :: ZW) rm mc ms n := by
  have ht := F.1.2.2.2.2
  refine ⟨hrc, hrs, hR.1, hR.2, zWarm ht hc, List.mem_cons_self, ht _ hc, ht _ hini, hd, fun sig h => ?_, ht _ hl⟩
  rw [h] at hp
  exact (Option.some.inj hp).symm
theorem zFm {α : Type} {f : Nat → Option α} {is : List Nat} {w : List α} (h : is.map f = w.map some) : is.filterMap f = w := by
  have h1 : (is.map f).filterMap id = is.filterMap f := by rw [List.filterMap_map]; rfl
  have h2 : (w.map some).filterMap id = w := by rw [List.filterMap_map]; exact List.filterMap_some
  rw [← h1, h, h2]
/-- what a callee finds -/
theorem zPre_at (F : zF p m c cc nL s args own g A) (hP : va_P (zD g) vwCl W0 H) (hD : va_D A W0) (hS : va_S A s.heap H locs) (isC : List Nat) (hC : isC.map (fun i => W0[i]?) = w.map some) (hn : va_nd isC = true) :
    ∀ U : State, U.heap = H → s.WarmedH U.vm → zPre g w H.size U := by
  intro U hU hW
  subst hU
  refine ⟨rfl, hP.sub isC (zFm hC), va_K.moved hW.alike F.2.1, (hD.sub isC hn hC).weaken (fun _ _ _ _ => trivial), ?_⟩
  exact ((F.2.2.1.kept hS.2.1).narrow (va_free hD hS F.2.2.2 isC hC)).warm hW
theorem zRecv {q0 ci : Nat} {fs : List Value} {T : u_T} {N : Nat} (F : zF p m c cc nL s args own g A) (hP : va_P (zD g) vwCl W0 H) (he : W0[q0]? = some (b, .inr (ci, fs))) (hc : vwCl[ci]? = some (C, T, N)) : ∃ cellB : Cell, H[b]? = some cellB ∧ cellB.vm.isStatics = false ∧ s.vm.findClass C = some cellB.cls :=
  va_recv F.2.1 hP hc he
theorem zCut {a : Array Value} (hr : CallRun p l e R s m args below meth c H locs cells slots 0 0 (F0 m pc ls st0) rest (fun st oc t => oc = .returned v ∧ t.heap = st.heap) (fun _ => False)) (h1 : v.toList ++ rest = st1)
    (kk : W p l e R s m args below meth c H locs cells slots Q (F0 m (pc + 3) ls st1)) : W p l e R s m args below meth c H locs cells slots Q (F0 m pc ls st0) := by
  subst h1
  intro T hT X
  obtain ⟨v', st₀, t, T', L, h0, X', hL, e1, ⟨hv, hh⟩, st⟩ := hr T hT X
  cases hv
  obtain ⟨t2, a1, b1⟩ := kk T' (by rw [e1, hh, h0]) (Stand.forget X' (fun q h => (hL q h).elim))
  exact ⟨t2, st t2 a1, b1⟩
/-- a call of an instance method that changes nothing -/
theorem zRV (F : zF p m c cc nL s args own g A) (hM : ZR l y bytes maxL ret rm g (.ref b :: As) w v) (hy : zYv y C bytes maxL ret n) (hl : Cond.methodLink own index y ∈ ZW) (hP : va_P (zD g) vwCl W0 H) (hD : va_D A W0) (hS : va_S A s.heap H locs)
    (isC : List Nat) (hC : isC.map (fun i => W0[i]?) = w.map some) (hn : va_nd isC = true) {q0 ci : Nat} {fs : List Value} {T : u_T} {N : Nat} (he : W0[q0]? = some (b, .inr (ci, fs))) (hc : vwCl[ci]? = some (C, T, N)) (hAs : As.length = n) (hls : ls.size = nL) (hst0 : st0 = As.reverse ++ .ref b :: rest) (hroom : (rest.map fun v => v.category).sum ≤ 8)
    (hr : rm.cells = 0 ∧ rm.slots = 0) (hR : rm.frames + 1 ≤ R.frames ∧ 8 + (maxL + 11) + rm.locals ≤ R.locals) (hcs : cells ≤ R.cells ∧ slots ≤ R.slots) (hdg : decode cc pc = .ok (.invokevirtual index, 3)) (h1 : v.toList ++ rest = st1)
    (kk : W p l e R s m args below meth c H locs cells slots Q (F0 m (pc + 3) ls st1)) : W p l e R s m args below meth c H locs cells slots Q (F0 m pc ls st0) :=
  zCut (a := #[]) (W.runV F.1 (hM H.size) ⟨zCallB F hy.2.2.2.1 hy.2.2.1 hy.2.2.2.2.1 hy.2.2.2.2.2 hl hr.1 hr.2 hR, F.1.2.2.2.2 _ hy.1, F.1.2.2.2.2 _ hy.2.1⟩ ⟨zPre_blind g w H.size _, zRecv F hP he hc, fun U hU hW => ⟨rfl, zPre_at F hP hD hS isC hC hn U hU hW⟩⟩ rfl hAs hls hst0 (lv_room hroom) hdg ⟨hcs.1, hcs.2⟩) h1 kk
/-- a call of a static method that changes nothing -/
theorem zRS (F : zF p m c cc nL s args own g A) (hM : ZR l y bytes maxL ret rm g As w v) (hy : zYs y bytes maxL ret n) (hl : Cond.methodLink own index y ∈ ZW) (hP : va_P (zD g) vwCl W0 H) (hD : va_D A W0) (hS : va_S A s.heap H locs)
    (isC : List Nat) (hC : isC.map (fun i => W0[i]?) = w.map some) (hn : va_nd isC = true) (hAs : As.length = n) (hls : ls.size = nL) (hst0 : st0 = As.reverse ++ rest) (hroom : (rest.map fun v => v.category).sum ≤ 8)
    (hr : rm.cells = 0 ∧ rm.slots = 0) (hR : rm.frames + 1 ≤ R.frames ∧ 8 + (maxL + 11) + rm.locals ≤ R.locals) (hcs : cells ≤ R.cells ∧ slots ≤ R.slots) (hdg : decode cc pc = .ok (.invokestatic index, 3)) (h1 : v.toList ++ rest = st1)
    (kk : W p l e R s m args below meth c H locs cells slots Q (F0 m (pc + 3) ls st1)) : W p l e R s m args below meth c H locs cells slots Q (F0 m pc ls st0) :=
  zCut (a := #[]) (W.runS F.1 (hM H.size) ⟨zCallB F hy.2.2.1 hy.2.1 hy.2.2.2.1 hy.2.2.2.2 hl hr.1 hr.2 hR, F.1.2.2.2.2 _ hy.1⟩ ⟨zPre_blind g w H.size _, fun U hU hW => ⟨rfl, zPre_at F hP hD hS isC hC hn U hU hW⟩⟩ rfl hAs hls hst0 (lv_room hroom) hdg ⟨hcs.1, hcs.2⟩) h1 kk
theorem zCutV (hr : CallRun p l e R s m args below meth c H locs cells slots 0 0 (F0 m pc ls st0) rest (fun st oc t => oc = .returned v ∧ va_P (zD g) vwCl w1 t.heap ∧ va_D (va_A w H.size) w1 ∧ va_F (va_A w H.size) st t) (va_A w H.size)) (h1 : v.toList ++ rest = st1)
    (hP : va_P (zD g) vwCl W0 H) (hD : va_D A W0) (hS : va_S A s.heap H locs) (hA : ∀ q : Nat, s.heap.size ≤ q → A q) (isC isR pm : List Nat) (hC : isC.map (fun i => W0[i]?) = w.map some) (hRr : isR.map (fun i => W0[i]?) = wr.map some) (hnd : va_nd isR = true) (hdis : ∀ i ∈ isR, i ∉ isC) (hpm : pm.map (fun i => (wr ++ w1)[i]?) = W1.map some) (hpn : va_nd pm = true)
    (kk : ∀ (H1 : Heap) (locs1 : List Loc), va_P (zD g) vwCl W1 H1 → va_D A W1 → va_S A s.heap H1 locs1 → W p l e R s m args below meth c H1 locs1 cells slots Q (F0 m (pc + 3) ls st1)) : W p l e R s m args below meth c H locs cells slots Q (F0 m pc ls st0) := by
  subst h1
  intro T hT X
  obtain ⟨v', st₀, t, T', L, h0, X', hL, e1, ⟨hv, hP1, hD1, hz, hk⟩, st⟩ := hr T hT X
  cases hv
  have hF := va_free hD hS hA isC hC
  rw [h0] at hz hk
  rw [← e1] at hP1 hz hk
  obtain ⟨k1, k2⟩ := va_join hP hD isC isR hC hRr hnd hdis hk hF hP1 hD1
  have k3 : va_S A s.heap T'.heap (locs ++ L) := ⟨Nat.le_trans hS.1 hz, fun q h1 h2 => by rw [hk q (Nat.lt_of_lt_of_le h1 hS.1) (fun z => h2 (hF q z))]; exact hS.2.1 q h1 h2, fun q hq => by
      rcases List.mem_append.mp hq with h | h
      · exact hS.2.2 q h
      · exact hF _ (hL q h)⟩
  obtain ⟨t2, a1, b1⟩ := kk T'.heap (locs ++ L) (k1.sub pm (zFm hpm)) (k2.sub pm hpn hpm) k3 T' rfl X'
  exact ⟨t2, st t2 a1, b1⟩
/-- a call of an instance method that changes its cells -/
theorem zVV (F : zF p m c cc nL s args own g A) (hM : ZV l y bytes maxL ret rm g (.ref b :: As) w w1 v) (hy : zYv y C bytes maxL ret n) (hl : Cond.methodLink own index y ∈ ZW) (hP : va_P (zD g) vwCl W0 H) (hD : va_D A W0) (hS : va_S A s.heap H locs)
    (isC isR pm : List Nat) (hC : isC.map (fun i => W0[i]?) = w.map some) (hn : va_nd isC = true) (hRr : isR.map (fun i => W0[i]?) = wr.map some) (hnd : va_nd isR = true) (hdis : ∀ i ∈ isR, i ∉ isC) (hpm : pm.map (fun i => (wr ++ w1)[i]?) = W1.map some) (hpn : va_nd pm = true)
    {q0 ci : Nat} {fs : List Value} {T : u_T} {N : Nat} (he : W0[q0]? = some (b, .inr (ci, fs))) (hc : vwCl[ci]? = some (C, T, N)) (hAs : As.length = n) (hls : ls.size = nL) (hst0 : st0 = As.reverse ++ .ref b :: rest) (hroom : (rest.map fun v => v.category).sum ≤ 8)
    (hr : rm.cells = 0 ∧ rm.slots = 0) (hR : rm.frames + 1 ≤ R.frames ∧ 8 + (maxL + 11) + rm.locals ≤ R.locals) (hcs : cells ≤ R.cells ∧ slots ≤ R.slots) (hdg : decode cc pc = .ok (.invokevirtual index, 3)) (h1 : v.toList ++ rest = st1)
    (kk : ∀ (H1 : Heap) (locs1 : List Loc), va_P (zD g) vwCl W1 H1 → va_D A W1 → va_S A s.heap H1 locs1 → W p l e R s m args below meth c H1 locs1 cells slots Q (F0 m (pc + 3) ls st1)) : W p l e R s m args below meth c H locs cells slots Q (F0 m pc ls st0) :=
  zCutV (W.runV F.1 (hM H.size) ⟨zCallB F hy.2.2.2.1 hy.2.2.1 hy.2.2.2.2.1 hy.2.2.2.2.2 hl hr.1 hr.2 hR, F.1.2.2.2.2 _ hy.1, F.1.2.2.2.2 _ hy.2.1⟩ ⟨zPre_blind g w H.size _, zRecv F hP he hc, fun U hU hW => ⟨rfl, zPre_at F hP hD hS isC hC hn U hU hW⟩⟩ rfl hAs hls hst0 (lv_room hroom) hdg ⟨hcs.1, hcs.2⟩) h1 hP hD hS F.2.2.2 isC isR pm hC hRr hnd hdis hpm hpn kk
/-- a call of a static method that changes cells -/
theorem zVS (F : zF p m c cc nL s args own g A) (hM : ZV l y bytes maxL ret rm g As w w1 v) (hy : zYs y bytes maxL ret n) (hl : Cond.methodLink own index y ∈ ZW) (hP : va_P (zD g) vwCl W0 H) (hD : va_D A W0) (hS : va_S A s.heap H locs)
    (isC isR pm : List Nat) (hC : isC.map (fun i => W0[i]?) = w.map some) (hn : va_nd isC = true) (hRr : isR.map (fun i => W0[i]?) = wr.map some) (hnd : va_nd isR = true) (hdis : ∀ i ∈ isR, i ∉ isC) (hpm : pm.map (fun i => (wr ++ w1)[i]?) = W1.map some) (hpn : va_nd pm = true)
    (hAs : As.length = n) (hls : ls.size = nL) (hst0 : st0 = As.reverse ++ rest) (hroom : (rest.map fun v => v.category).sum ≤ 8)
    (hr : rm.cells = 0 ∧ rm.slots = 0) (hR : rm.frames + 1 ≤ R.frames ∧ 8 + (maxL + 11) + rm.locals ≤ R.locals) (hcs : cells ≤ R.cells ∧ slots ≤ R.slots) (hdg : decode cc pc = .ok (.invokestatic index, 3)) (h1 : v.toList ++ rest = st1)
    (kk : ∀ (H1 : Heap) (locs1 : List Loc), va_P (zD g) vwCl W1 H1 → va_D A W1 → va_S A s.heap H1 locs1 → W p l e R s m args below meth c H1 locs1 cells slots Q (F0 m (pc + 3) ls st1)) : W p l e R s m args below meth c H locs cells slots Q (F0 m pc ls st0) :=
  zCutV (W.runS F.1 (hM H.size) ⟨zCallB F hy.2.2.1 hy.2.1 hy.2.2.2.1 hy.2.2.2.2 hl hr.1 hr.2 hR, F.1.2.2.2.2 _ hy.1⟩ ⟨zPre_blind g w H.size _, fun U hU hW => ⟨rfl, zPre_at F hP hD hS isC hC hn U hU hW⟩⟩ rfl hAs hls hst0 (lv_room hroom) hdg ⟨hcs.1, hcs.2⟩) h1 hP hD hS F.2.2.2 isC isR pm hC hRr hnd hdis hpm hpn kk
end ZC
/-! partial operations -/
def zOk (i : Int32) (n : Nat) : Prop := ¬ (i < 0 ∨ n ≤ i.toNatClampNeg)
def zAld (f : Nat → Int32) (n : Nat) (i : Int32) : Option Int32 := if i < 0 ∨ n ≤ i.toNatClampNeg then none else some (f i.toNatClampNeg)
def zAst (f : Nat → Int32) (n : Nat) (i x : Int32) : Option (Nat → Int32) := if i < 0 ∨ n ≤ i.toNatClampNeg then none else some (upd f i.toNatClampNeg x)
def zBst (f : Nat → Int32) (n : Nat) (i x : Int32) : Option (Nat → Int32) := if i < 0 ∨ n ≤ i.toNatClampNeg then none else some (upd f i.toNatClampNeg (vp_nar .byte x))
def zDiv (x y : Int32) : Option Int32 := if y = 0 then none else some (x / y)
def zRem (x y : Int32) : Option Int32 := if y = 0 then none else some (x - x / y * y)
def zNar (ty : FieldType) (x : Int32) : Option Int32 := if narrow ty (.int x) = .int x then some x else none
def zFad (x y : UInt32) : Option UInt32 := if FP.fadd x y &&& 0x7fffffff ≤ 0x7f800000 then some (FP.fadd x y) else none
def zFmu (x y : UInt32) : Option UInt32 := if FP.fmul x y &&& 0x7fffffff ≤ 0x7f800000 then some (FP.fmul x y) else none
def zFdi (x y : UInt32) : Option UInt32 := if FP.fdiv x y &&& 0x7fffffff ≤ 0x7f800000 then some (FP.fdiv x y) else none
def zCpy (f g : Nat → Int32) (n0 n1 : Nat) (sp dp n : Int32) : Option (Nat → Int32) :=
  if sp < 0 ∨ dp < 0 ∨ n < 0 ∨ n0 < sp.toNatClampNeg + n.toNatClampNeg ∨ n1 < dp.toNatClampNeg + n.toNatClampNeg then none else some (va_cpy f g sp.toNatClampNeg dp.toNatClampNeg n.toNatClampNeg)
def zSub {α β : Type} (o : Option (α ⊕ Nat)) (K : α → Option (β ⊕ Nat)) : Option (β ⊕ Nat) := Option.bind o (fun v => match v with
  | .inl a => K a
  | .inr e => some (.inr e))
def zLoop {σ ρ : Type} (B : (σ → Option ρ) → σ → Option ρ) : Nat → σ → Option ρ
  | 0, _ => none
  | n + 1, s => B (zLoop B n) s
theorem z_bind {α β : Type} {o : Option α} {K : α → Option β} {r : β} (h : Option.bind o K = some r) : ∃ a, o = some a ∧ K a = some r := by
  cases o with
  | none => exact absurd h (by simp)
  | some a => exact ⟨a, rfl, h⟩
theorem z_nm {α β : Type} {e : α} {K : α → Option β} {r : β} {G : Prop} (h : Option.bind (some e) K = some r) (k : ∀ x : α, x = e → K x = some r → G) : G := k e rfl h
theorem z_subL {α β : Type} {o : Option (α ⊕ Nat)} {K : α → Option (β ⊕ Nat)} {r : β} (h : zSub o K = some (.inl r)) : ∃ a, o = some (.inl a) ∧ K a = some (.inl r) := by
  obtain ⟨v, h1, h2⟩ := z_bind h
  cases v with
  | inl a => exact ⟨a, h1, h2⟩
  | inr e => cases h2
theorem z_subR {α β : Type} {o : Option (α ⊕ Nat)} {K : α → Option (β ⊕ Nat)} {r : Nat} {G : Prop} (h : zSub o K = some (.inr r)) (k1 : o = some (.inr r) → G) (k2 : ∀ a, o = some (.inl a) → K a = some (.inr r) → G) : G := by
  obtain ⟨v, h1, h2⟩ := z_bind h
  cases v with
  | inl a => exact k2 a h1 h2
  | inr e => cases h2; exact k1 h1
section ZO
variable {p : Program} {l : Launch} {e : Env} {R : Room} {s : State} {m : MethodId} {args : Array Value} {below : List Frame} {meth : Method} {c : Code} {H : Heap} {locs : List Loc} {cells slots : Nat} {Q : State → Prop}
variable {cc : ByteArray} {nL index n pc : Nat} {own : String} {g : zEnv} {A : Nat → Prop} {W0 : va_W} {b : Addr} {rest : List Value} {ls : Array Slot} {β : Type} {r : β}
theorem z_top {α : Type} (mk : α → Value) {e0 : α} {K : α → Option β} (h : Option.bind (some e0) K = some r) (k : ∀ x : α, K x = some r → W p l e R s m args below meth c H locs cells slots Q (F0 m pc ls (mk x :: rest))) : W p l e R s m args below meth c H locs cells slots Q (F0 m pc ls (mk e0 :: rest)) := k e0 h
theorem z_if {P : Prop} (hP : P ∨ ¬ P) {i1 : Decidable P} {X Y : Option β} (h : @ite _ P i1 X Y = some r) : (P → X = some r) ∧ (¬ P → Y = some r) := by
  by_cases hp : P
  · exact ⟨fun _ => by rw [if_pos hp] at h; exact h, fun h2 => absurd hp h2⟩
  · exact ⟨fun h2 => absurd h2 hp, fun _ => by rw [if_neg hp] at h; exact h⟩
theorem z_eq {x : Int32} {off : Int} {tgt : Nat} {X Y : Option β} (hx : p.tables.exec = Jvm.exec) (hb : c.code = cc) (hdg : decode cc pc = .ok (.ifCond .eq off, 3)) (ht : (pc : Int) + off = (tgt : Int)) (h : (if x = 0 then X else Y) = some r)
    (kt : X = some r → W p l e R s m args below meth c H locs cells slots Q (F0 m tgt ls rest)) (kf : Y = some r → W p l e R s m args below meth c H locs cells slots Q (F0 m (pc + 3) ls rest)) : W p l e R s m args below meth c H locs cells slots Q (F0 m pc ls (.int x :: rest)) :=
  lv_if_eq hx hb hdg ht (fun q => kt (by rw [if_pos q] at h; exact h)) (fun q => kf (by rw [if_neg q] at h; exact h))
theorem z_ne {x : Int32} {off : Int} {tgt : Nat} {X Y : Option β} (hx : p.tables.exec = Jvm.exec) (hb : c.code = cc) (hdg : decode cc pc = .ok (.ifCond .ne off, 3)) (ht : (pc : Int) + off = (tgt : Int)) (h : (if x = 0 then X else Y) = some r)
    (kt : Y = some r → W p l e R s m args below meth c H locs cells slots Q (F0 m tgt ls rest)) (kf : X = some r → W p l e R s m args below meth c H locs cells slots Q (F0 m (pc + 3) ls rest)) : W p l e R s m args below meth c H locs cells slots Q (F0 m pc ls (.int x :: rest)) :=
  lv_if_ne hx hb hdg ht (fun q => kt (by rw [if_neg q] at h; exact h)) (fun q => kf (by rw [if_pos q] at h; exact h))
theorem z_lt {x : Int32} {off : Int} {tgt : Nat} {X Y : Option β} (hx : p.tables.exec = Jvm.exec) (hb : c.code = cc) (hdg : decode cc pc = .ok (.ifCond .lt off, 3)) (ht : (pc : Int) + off = (tgt : Int)) (h : (if x < 0 then X else Y) = some r)
    (kt : X = some r → W p l e R s m args below meth c H locs cells slots Q (F0 m tgt ls rest)) (kf : Y = some r → W p l e R s m args below meth c H locs cells slots Q (F0 m (pc + 3) ls rest)) : W p l e R s m args below meth c H locs cells slots Q (F0 m pc ls (.int x :: rest)) :=
  lv_if_lt hx hb hdg ht (fun q => kt (by rw [if_pos q] at h; exact h)) (fun q => kf (by rw [if_neg q] at h; exact h))
theorem z_ge {x : Int32} {off : Int} {tgt : Nat} {X Y : Option β} (hx : p.tables.exec = Jvm.exec) (hb : c.code = cc) (hdg : decode cc pc = .ok (.ifCond .ge off, 3)) (ht : (pc : Int) + off = (tgt : Int)) (h : (if x < 0 then X else Y) = some r)
    (kt : Y = some r → W p l e R s m args below meth c H locs cells slots Q (F0 m tgt ls rest)) (kf : X = some r → W p l e R s m args below meth c H locs cells slots Q (F0 m (pc + 3) ls rest)) : W p l e R s m args below meth c H locs cells slots Q (F0 m pc ls (.int x :: rest)) :=
  lv_if_ge hx hb hdg ht (fun q => kt (by rw [if_neg (Int32.not_lt.mpr q)] at h; exact h)) (fun q => kf (by rw [if_pos (Int32.not_le.mp q)] at h; exact h))
theorem z_gt {x : Int32} {off : Int} {tgt : Nat} {X Y : Option β} (hx : p.tables.exec = Jvm.exec) (hb : c.code = cc) (hdg : decode cc pc = .ok (.ifCond .gt off, 3)) (ht : (pc : Int) + off = (tgt : Int)) (h : (if 0 < x then X else Y) = some r)
    (kt : X = some r → W p l e R s m args below meth c H locs cells slots Q (F0 m tgt ls rest)) (kf : Y = some r → W p l e R s m args below meth c H locs cells slots Q (F0 m (pc + 3) ls rest)) : W p l e R s m args below meth c H locs cells slots Q (F0 m pc ls (.int x :: rest)) :=
  lv_if_gt hx hb hdg ht (fun q => kt (by rw [if_pos q] at h; exact h)) (fun q => kf (by rw [if_neg q] at h; exact h))
theorem z_le {x : Int32} {off : Int} {tgt : Nat} {X Y : Option β} (hx : p.tables.exec = Jvm.exec) (hb : c.code = cc) (hdg : decode cc pc = .ok (.ifCond .le off, 3)) (ht : (pc : Int) + off = (tgt : Int)) (h : (if 0 < x then X else Y) = some r)
    (kt : Y = some r → W p l e R s m args below meth c H locs cells slots Q (F0 m tgt ls rest)) (kf : X = some r → W p l e R s m args below meth c H locs cells slots Q (F0 m (pc + 3) ls rest)) : W p l e R s m args below meth c H locs cells slots Q (F0 m pc ls (.int x :: rest)) :=
  lv_if_le hx hb hdg ht (fun q => kt (by rw [if_neg (Int32.not_lt.mpr q)] at h; exact h)) (fun q => kf (by rw [if_pos (Int32.not_le.mp q)] at h; exact h))
theorem z_ceq {x y : Int32} {off : Int} {tgt : Nat} {X Y : Option β} (hx : p.tables.exec = Jvm.exec) (hb : c.code = cc) (hdg : decode cc pc = .ok (.if_icmp .eq off, 3)) (ht : (pc : Int) + off = (tgt : Int)) (h : (if x = y then X else Y) = some r)
    (kt : X = some r → W p l e R s m args below meth c H locs cells slots Q (F0 m tgt ls rest)) (kf : Y = some r → W p l e R s m args below meth c H locs cells slots Q (F0 m (pc + 3) ls rest)) : W p l e R s m args below meth c H locs cells slots Q (F0 m pc ls (.int y :: .int x :: rest)) :=
  lv_icmp_eq hx hb hdg ht (fun q => kt (by rw [if_pos q] at h; exact h)) (fun q => kf (by rw [if_neg q] at h; exact h))
theorem z_cne {x y : Int32} {off : Int} {tgt : Nat} {X Y : Option β} (hx : p.tables.exec = Jvm.exec) (hb : c.code = cc) (hdg : decode cc pc = .ok (.if_icmp .ne off, 3)) (ht : (pc : Int) + off = (tgt : Int)) (h : (if x = y then X else Y) = some r)
    (kt : Y = some r → W p l e R s m args below meth c H locs cells slots Q (F0 m tgt ls rest)) (kf : X = some r → W p l e R s m args below meth c H locs cells slots Q (F0 m (pc + 3) ls rest)) : W p l e R s m args below meth c H locs cells slots Q (F0 m pc ls (.int y :: .int x :: rest)) :=
  lv_icmp_ne hx hb hdg ht (fun q => kt (by rw [if_neg q] at h; exact h)) (fun q => kf (by rw [if_pos q] at h; exact h))
theorem z_clt {x y : Int32} {off : Int} {tgt : Nat} {X Y : Option β} (hx : p.tables.exec = Jvm.exec) (hb : c.code = cc) (hdg : decode cc pc = .ok (.if_icmp .lt off, 3)) (ht : (pc : Int) + off = (tgt : Int)) (h : (if x < y then X else Y) = some r)
    (kt : X = some r → W p l e R s m args below meth c H locs cells slots Q (F0 m tgt ls rest)) (kf : Y = some r → W p l e R s m args below meth c H locs cells slots Q (F0 m (pc + 3) ls rest)) : W p l e R s m args below meth c H locs cells slots Q (F0 m pc ls (.int y :: .int x :: rest)) :=
  lv_icmp_lt hx hb hdg ht (fun q => kt (by rw [if_pos q] at h; exact h)) (fun q => kf (by rw [if_neg q] at h; exact h))
theorem z_cge {x y : Int32} {off : Int} {tgt : Nat} {X Y : Option β} (hx : p.tables.exec = Jvm.exec) (hb : c.code = cc) (hdg : decode cc pc = .ok (.if_icmp .ge off, 3)) (ht : (pc : Int) + off = (tgt : Int)) (h : (if x < y then X else Y) = some r)
    (kt : Y = some r → W p l e R s m args below meth c H locs cells slots Q (F0 m tgt ls rest)) (kf : X = some r → W p l e R s m args below meth c H locs cells slots Q (F0 m (pc + 3) ls rest)) : W p l e R s m args below meth c H locs cells slots Q (F0 m pc ls (.int y :: .int x :: rest)) :=
  lv_icmp_ge hx hb hdg ht (fun q => kt (by rw [if_neg (Int32.not_lt.mpr q)] at h; exact h)) (fun q => kf (by rw [if_pos (Int32.not_le.mp q)] at h; exact h))
theorem z_cgt {x y : Int32} {off : Int} {tgt : Nat} {X Y : Option β} (hx : p.tables.exec = Jvm.exec) (hb : c.code = cc) (hdg : decode cc pc = .ok (.if_icmp .gt off, 3)) (ht : (pc : Int) + off = (tgt : Int)) (h : (if y < x then X else Y) = some r)
    (kt : X = some r → W p l e R s m args below meth c H locs cells slots Q (F0 m tgt ls rest)) (kf : Y = some r → W p l e R s m args below meth c H locs cells slots Q (F0 m (pc + 3) ls rest)) : W p l e R s m args below meth c H locs cells slots Q (F0 m pc ls (.int y :: .int x :: rest)) :=
  lv_icmp_gt hx hb hdg ht (fun q => kt (by rw [if_pos q] at h; exact h)) (fun q => kf (by rw [if_neg q] at h; exact h))
theorem z_cle {x y : Int32} {off : Int} {tgt : Nat} {X Y : Option β} (hx : p.tables.exec = Jvm.exec) (hb : c.code = cc) (hdg : decode cc pc = .ok (.if_icmp .le off, 3)) (ht : (pc : Int) + off = (tgt : Int)) (h : (if y < x then X else Y) = some r)
    (kt : Y = some r → W p l e R s m args below meth c H locs cells slots Q (F0 m tgt ls rest)) (kf : X = some r → W p l e R s m args below meth c H locs cells slots Q (F0 m (pc + 3) ls rest)) : W p l e R s m args below meth c H locs cells slots Q (F0 m pc ls (.int y :: .int x :: rest)) :=
  lv_icmp_le hx hb hdg ht (fun q => kt (by rw [if_neg (Int32.not_lt.mpr q)] at h; exact h)) (fun q => kf (by rw [if_pos (Int32.not_le.mp q)] at h; exact h))
theorem z_div {x y : Int32} {K : Int32 → Option β} (hx : p.tables.exec = Jvm.exec) (hb : c.code = cc) (hdg : decode cc pc = .ok (.idiv, 1)) (h : Option.bind (zDiv x y) K = some r) (k : ∀ z : Int32, K z = some r → W p l e R s m args below meth c H locs cells slots Q (F0 m (pc + 1) ls (.int z :: rest))) : W p l e R s m args below meth c H locs cells slots Q (F0 m pc ls (.int y :: .int x :: rest)) := by
  obtain ⟨z, h1, h2⟩ := z_bind h
  unfold zDiv at h1
  split at h1
  · cases h1
  · next hy => cases h1; exact lv_idiv hx hb hdg hy (k _ h2)
theorem z_rem {x y : Int32} {K : Int32 → Option β} (hx : p.tables.exec = Jvm.exec) (hb : c.code = cc) (hdg : decode cc pc = .ok (.irem, 1)) (h : Option.bind (zRem x y) K = some r) (k : ∀ z : Int32, K z = some r → W p l e R s m args below meth c H locs cells slots Q (F0 m (pc + 1) ls (.int z :: rest))) : W p l e R s m args below meth c H locs cells slots Q (F0 m pc ls (.int y :: .int x :: rest)) := by
  obtain ⟨z, h1, h2⟩ := z_bind h
  unfold zRem at h1
  split at h1
  · cases h1
  · next hy => cases h1; exact lv_irem hx hb hdg hy (k _ h2)
theorem z_fad {x y : UInt32} {K : UInt32 → Option β} (hx : p.tables.exec = Jvm.exec) (hb : c.code = cc) (hdg : decode cc pc = .ok (.fadd, 1)) (h : Option.bind (zFad x y) K = some r) (k : ∀ z : UInt32, K z = some r → W p l e R s m args below meth c H locs cells slots Q (F0 m (pc + 1) ls (.float z :: rest))) : W p l e R s m args below meth c H locs cells slots Q (F0 m pc ls (.float y :: .float x :: rest)) := by
  obtain ⟨z, h1, h2⟩ := z_bind h
  unfold zFad at h1
  split at h1
  · next hy => cases h1; exact lv_fadd hx hb hdg hy (k _ h2)
  · cases h1
theorem z_fmu {x y : UInt32} {K : UInt32 → Option β} (hx : p.tables.exec = Jvm.exec) (hb : c.code = cc) (hdg : decode cc pc = .ok (.fmul, 1)) (h : Option.bind (zFmu x y) K = some r) (k : ∀ z : UInt32, K z = some r → W p l e R s m args below meth c H locs cells slots Q (F0 m (pc + 1) ls (.float z :: rest))) : W p l e R s m args below meth c H locs cells slots Q (F0 m pc ls (.float y :: .float x :: rest)) := by
  obtain ⟨z, h1, h2⟩ := z_bind h
  unfold zFmu at h1
  split at h1
  · next hy => cases h1; exact lv_fmul hx hb hdg hy (k _ h2)
  · cases h1
theorem z_fdi {x y : UInt32} {K : UInt32 → Option β} (hx : p.tables.exec = Jvm.exec) (hb : c.code = cc) (hdg : decode cc pc = .ok (.fdiv, 1)) (h : Option.bind (zFdi x y) K = some r) (k : ∀ z : UInt32, K z = some r → W p l e R s m args below meth c H locs cells slots Q (F0 m (pc + 1) ls (.float z :: rest))) : W p l e R s m args below meth c H locs cells slots Q (F0 m pc ls (.float y :: .float x :: rest)) := by
  obtain ⟨z, h1, h2⟩ := z_bind h
  unfold zFdi at h1
  split at h1
  · next hy => cases h1; exact lv_fdiv hx hb hdg hy (k _ h2)
  · cases h1
theorem z_get {C : String} {T : u_T} {N ci : Nat} (F : zF p m c cc nL s args own g A) (hu : ∀ w ∈ u_ws C T N, w ∈ ZW) (hP : va_P (zD g) vwCl W0 H) (q0 : Nat) {fs : List Value} (he : W0[q0]? = some (b, .inr (ci, fs))) (hc : vwCl[ci]? = some (C, T, N)) (k : Nat) (hk : k < N) (hlink : Cond.fieldLink own index (T k).1 (T k).2.1 (T k).2.2.1 ∈ ZW) {v : Value} (hv : fs[k]? = some v) (hdg : decode cc pc = .ok (.getfield index, 3))
    (kk : W p l e R s m args below meth c H locs cells slots Q (F0 m (pc + 3) ls (v :: rest))) : W p l e R s m args below meth c H locs cells slots Q (F0 m pc ls (.ref b :: rest)) :=
  va_get (own := own) (ref := (T k).1) F.1.1 F.1.2.1 F.1.2.2.2.2 hu F.1.2.2.2.1 F.2.1 hP q0 he hc k hk (F.1.2.2.2.2 _ hlink) (fun _ h => h) hv hdg kk
theorem z_put {C : String} {T : u_T} {N ci : Nat} (F : zF p m c cc nL s args own g A) (hu : ∀ w ∈ u_ws C T N, w ∈ ZW) (ty0 : Nat → FieldType) (hty : ∀ k, k < N → parseFieldDescriptor (T k).2.2.1 = some (ty0 k)) (hnm : ∀ a, a < N → ∀ b, b < N → a ≠ b → (T a).2.1 ≠ (T b).2.1) (hP : va_P (zD g) vwCl W0 H) (hD : va_D A W0) (hS : va_S A s.heap H locs) (q0 : Nat) {fs : List Value} (he : W0[q0]? = some (b, .inr (ci, fs))) (hc : vwCl[ci]? = some (C, T, N)) (k : Nat) (hk : k < N) (hlink : Cond.fieldLink own index (T k).1 (T k).2.1 (T k).2.2.1 ∈ ZW) (hfin : (T k).2.2.2 = false) {v : Value} (hn : narrow (ty0 k) v = v) (hfit : fits (ty0 k) v = true) (hl : k < fs.length) (hdg : decode cc pc = .ok (.putfield index, 3)) {W1 : va_W} (hW1 : W0.set q0 (b, .inr (ci, fs.set k v)) = W1)
    (kk : ∀ (H1 : Heap) (locs1 : List Loc), va_P (zD g) vwCl W1 H1 → va_D A W1 → va_S A s.heap H1 locs1 → W p l e R s m args below meth c H1 locs1 cells slots Q (F0 m (pc + 3) ls rest)) : W p l e R s m args below meth c H locs cells slots Q (F0 m pc ls (v :: .ref b :: rest)) := by
  subst hW1
  exact va_put (own := own) (ref := (T k).1) F.1.1 F.1.2.1 F.1.2.2.2.2 hu ty0 hty hnm F.1.2.2.2.1 F.2.1 hP hD hS q0 he hc k hk (F.1.2.2.2.2 _ hlink) (fun _ h => h) hfin (hty k hk) hn hfit hl hdg kk
theorem z_iald {n : Nat} {f : Nat → Int32} {i : Int32} {K : Int32 → Option β} (F : zF p m c cc nL s args own g A) (hP : va_P (zD g) vwCl W0 H) (q0 : Nat) (he : W0[q0]? = some (b, .inl (zI g, n, .inl f))) (hdg : decode cc pc = .ok (.iaload, 1)) (h : Option.bind (zAld f n i) K = some r)
    (k : ∀ x : Int32, K x = some r → W p l e R s m args below meth c H locs cells slots Q (F0 m (pc + 1) ls (.int x :: rest))) : W p l e R s m args below meth c H locs cells slots Q (F0 m pc ls (.int i :: .ref b :: rest)) := by
  obtain ⟨x, h1, h2⟩ := z_bind h
  unfold zAld at h1
  split at h1
  · cases h1
  · next hi => cases h1; exact va_iald F.1.1 F.1.2.1 F.2.1 hP q0 0 he rfl hi hdg (k _ h2)
theorem z_bald {n : Nat} {f : Nat → Int32} {i : Int32} {K : Int32 → Option β} (F : zF p m c cc nL s args own g A) (hP : va_P (zD g) vwCl W0 H) (q0 : Nat) (he : W0[q0]? = some (b, .inl (zY g, n, .inl f))) (hdg : decode cc pc = .ok (.baload, 1)) (h : Option.bind (zAld f n i) K = some r)
    (k : ∀ x : Int32, K x = some r → W p l e R s m args below meth c H locs cells slots Q (F0 m (pc + 1) ls (.int x :: rest))) : W p l e R s m args below meth c H locs cells slots Q (F0 m pc ls (.int i :: .ref b :: rest)) := by
  obtain ⟨x, h1, h2⟩ := z_bind h
  unfold zAld at h1
  split at h1
  · cases h1
  · next hi => cases h1; exact va_bald F.1.1 F.1.2.1 F.2.1 hP q0 1 he rfl hi hdg (k _ h2)
theorem z_iast {n : Nat} {f : Nat → Int32} {i x : Int32} {K : (Nat → Int32) → Option β} (F : zF p m c cc nL s args own g A) (hP : va_P (zD g) vwCl W0 H) (hD : va_D A W0) (hS : va_S A s.heap H locs) (q0 : Nat) (he : W0[q0]? = some (b, .inl (zI g, n, .inl f))) (hdg : decode cc pc = .ok (.iastore, 1)) (h : Option.bind (zAst f n i x) K = some r) {W1 : (Nat → Int32) → va_W} (hW1 : ∀ f1, W0.set q0 (b, .inl (zI g, n, .inl f1)) = W1 f1)
    (k : ∀ (f1 : Nat → Int32) (H1 : Heap) (locs1 : List Loc), K f1 = some r → va_P (zD g) vwCl (W1 f1) H1 → va_D A (W1 f1) → va_S A s.heap H1 locs1 → W p l e R s m args below meth c H1 locs1 cells slots Q (F0 m (pc + 1) ls rest)) : W p l e R s m args below meth c H locs cells slots Q (F0 m pc ls (.int x :: .int i :: .ref b :: rest)) := by
  obtain ⟨f1, h1, h2⟩ := z_bind h
  unfold zAst at h1
  split at h1
  · cases h1
  · next hi => cases h1; exact va_iast F.1.1 F.1.2.1 F.2.1 hP hD hS q0 0 he rfl hi hdg (fun H1 locs1 q1 q2 q3 => k _ H1 locs1 h2 (hW1 _ ▸ q1) (hW1 _ ▸ q2) q3)
theorem z_bast {n : Nat} {f : Nat → Int32} {i x : Int32} {K : (Nat → Int32) → Option β} (F : zF p m c cc nL s args own g A) (hP : va_P (zD g) vwCl W0 H) (hD : va_D A W0) (hS : va_S A s.heap H locs) (q0 : Nat) (he : W0[q0]? = some (b, .inl (zY g, n, .inl f))) (hdg : decode cc pc = .ok (.bastore, 1)) (h : Option.bind (zBst f n i x) K = some r) {W1 : (Nat → Int32) → va_W} (hW1 : ∀ f1, W0.set q0 (b, .inl (zY g, n, .inl f1)) = W1 f1)
    (k : ∀ (f1 : Nat → Int32) (H1 : Heap) (locs1 : List Loc), K f1 = some r → va_P (zD g) vwCl (W1 f1) H1 → va_D A (W1 f1) → va_S A s.heap H1 locs1 → W p l e R s m args below meth c H1 locs1 cells slots Q (F0 m (pc + 1) ls rest)) : W p l e R s m args below meth c H locs cells slots Q (F0 m pc ls (.int x :: .int i :: .ref b :: rest)) := by
  obtain ⟨f1, h1, h2⟩ := z_bind h
  unfold zBst at h1
  split at h1
  · cases h1
  · next hi => cases h1; exact va_bast F.1.1 F.1.2.1 F.2.1 hP hD hS q0 1 he rfl hi hdg (fun H1 locs1 q1 q2 q3 => k _ H1 locs1 h2 (hW1 _ ▸ q1) (hW1 _ ▸ q2) q3)
/-- the ends: methods that change nothing -/
theorem zR_i {v : Int32} (F : zF p m c cc nL s args own g A) (hr : meth.sig.returnType = some .int) (hlocks : meth.locks = false) (hQ : Q = MQ below (fun _ st oc t => oc = .returned (some (.int v)) ∧ t.heap = st.heap) args s 0 0 (fun _ => False)) (hdg : decode cc pc = .ok (.ireturn, 1)) : W p l e R s m args below meth c s.heap [] 0 0 Q (F0 m pc ls [.int v]) := by
  subst hQ
  exact W.iret F.1.1 F.1.2.1 hr (fun t ht _ => ⟨rfl, ht⟩) (fun q h => by cases h) hdg hlocks
theorem zR_n {v : Int32} {ty : FieldType} (F : zF p m c cc nL s args own g A) (hr : meth.sig.returnType = some ty) (hlocks : meth.locks = false) (hQ : Q = MQ below (fun _ st oc t => oc = .returned (some (.int v)) ∧ t.heap = st.heap) args s 0 0 (fun _ => False)) (hn : narrow ty (.int v) = .int v) (hdg : decode cc pc = .ok (.ireturn, 1)) : W p l e R s m args below meth c s.heap [] 0 0 Q (F0 m pc ls [.int v]) := by
  subst hQ
  exact W.zret F.1.1 F.1.2.1 hr hn (fun t ht _ => ⟨rfl, ht⟩) (fun q h => by cases h) hdg hlocks
theorem zR_v (F : zF p m c cc nL s args own g A) (hr : meth.sig.returnType = none) (hlocks : meth.locks = false) (hQ : Q = MQ below (fun _ st oc t => oc = .returned none ∧ t.heap = st.heap) args s 0 0 (fun _ => False)) (hdg : decode cc pc = .ok (.return_, 1)) : W p l e R s m args below meth c s.heap [] 0 0 Q (F0 m pc ls []) := by
  subst hQ
  exact W.vret F.1.1 F.1.2.1 hr (fun t ht _ => ⟨rfl, ht⟩) (fun q h => by cases h) hdg hlocks
theorem zV_i {v : Int32} (F : zF p m c cc nL s args own g A) (hr : meth.sig.returnType = some .int) (hlocks : meth.locks = false) (hQ : Q = MQ below (fun _ st oc t => oc = .returned (some (.int v)) ∧ va_P (zD g) vwCl W0 t.heap ∧ va_D A W0 ∧ va_F A st t) args s 0 0 A) (hP : va_P (zD g) vwCl W0 H) (hD : va_D A W0) (hS : va_S A s.heap H locs) (hdg : decode cc pc = .ok (.ireturn, 1)) : W p l e R s m args below meth c H locs 0 0 Q (F0 m pc ls [.int v]) := by
  subst hQ
  exact W.iret F.1.1 F.1.2.1 hr (fun t ht _ => ⟨rfl, by rw [ht]; exact hP, hD, hS.F ht⟩) hS.2.2 hdg hlocks
theorem zV_n {v : Int32} {ty : FieldType} (F : zF p m c cc nL s args own g A) (hr : meth.sig.returnType = some ty) (hlocks : meth.locks = false) (hQ : Q = MQ below (fun _ st oc t => oc = .returned (some (.int v)) ∧ va_P (zD g) vwCl W0 t.heap ∧ va_D A W0 ∧ va_F A st t) args s 0 0 A) (hn : narrow ty (.int v) = .int v) (hP : va_P (zD g) vwCl W0 H) (hD : va_D A W0) (hS : va_S A s.heap H locs) (hdg : decode cc pc = .ok (.ireturn, 1)) : W p l e R s m args below meth c H locs 0 0 Q (F0 m pc ls [.int v]) := by
  subst hQ
  exact W.zret F.1.1 F.1.2.1 hr hn (fun t ht _ => ⟨rfl, by rw [ht]; exact hP, hD, hS.F ht⟩) hS.2.2 hdg hlocks
theorem zV_v (F : zF p m c cc nL s args own g A) (hr : meth.sig.returnType = none) (hlocks : meth.locks = false) (hQ : Q = MQ below (fun _ st oc t => oc = .returned none ∧ va_P (zD g) vwCl W0 t.heap ∧ va_D A W0 ∧ va_F A st t) args s 0 0 A) (hP : va_P (zD g) vwCl W0 H) (hD : va_D A W0) (hS : va_S A s.heap H locs) (hdg : decode cc pc = .ok (.return_, 1)) : W p l e R s m args below meth c H locs 0 0 Q (F0 m pc ls []) := by
  subst hQ
  exact W.vret F.1.1 F.1.2.1 hr (fun t ht _ => ⟨rfl, by rw [ht]; exact hP, hD, hS.F ht⟩) hS.2.2 hdg hlocks
end ZO
