abbrev zo_X1 (a : Nat) (f0 : Nat) (f1 : Int32) (f2 : Int32) : Nat × va_E := (a, .inr (0, [.ref f0, .int f1, .int f2]))
abbrev zo_X2 (a : Nat) (f0 : Nat) (f1 : Int32) : Nat × va_E := (a, .inr (1, [.ref f0, .int f1]))
abbrev zo_X3 (a : Nat) (f0 : Nat) (f1 : Nat) (f2 : Int32) (f3 : Int32) (f4 : Int32) : Nat × va_E := (a, .inr (2, [.ref f0, .ref f1, .int f2, .int f3, .int f4]))
abbrev zo_X4 (a : Nat) (f0 : Nat) (f1 : Int32) : Nat × va_E := (a, .inr (3, [.ref f0, .int f1]))
abbrev zo_X5 (a : Nat) (f0 : Nat) (f1 : Int32) (f2 : Int32) : Nat × va_E := (a, .inr (4, [.ref f0, .int f1, .int f2]))
abbrev zo_X6 (a : Nat) (f0 : Nat) (f1 : Nat) (f2 : Nat) : Nat × va_E := (a, .inr (5, [.ref f0, .ref f1, .ref f2]))
abbrev zo_X7 (a : Nat) (f0 : Nat) (f1 : Int32) : Nat × va_E := (a, .inr (6, [.ref f0, .int f1]))
abbrev zo_X9 (a : Nat) (f0 : Nat) (f1 : Nat) (f2 : Nat) (f3 : Nat) (f4 : Nat) (f5 : Nat) (f6 : Nat) : Nat × va_E := (a, .inr (7, [.ref f0, .ref f1, .ref f2, .ref f3, .ref f4, .ref f5, .ref f6]))
def zSv (a b c d : Nat) : Nat → Option Nat := fun j => match j with
  | 0 => some a
  | 1 => some b
  | 2 => some c
  | _ => some d
/-! more rows of our own layer -/
def zMin (x y : Int32) : Int32 := if y < x then y else x
def zMax (x y : Int32) : Int32 := if x < y then y else x
def zAbs (x : Int32) : Int32 := if 0 ≤ x then x else 0 - x
theorem zNar_spec {ty : FieldType} {e x : Int32} (h : zNar ty e = some x) : narrow ty (.int e) = .int e := by
  unfold zNar at h
  split at h
  · next h1 => exact h1
  · cases h
theorem z_neI {x y : Int32} (h : ¬ x = y) : ¬ x.toInt = y.toInt := fun q => h (Int32.toInt_inj.mp q)
theorem z_sw (lo : Int) (n : Nat) (x : Int32) (h : ∀ j : Nat, j < n → ¬ x = Int32.ofInt (lo + j)) : x.toInt < lo ∨ lo + n - 1 < x.toInt := by
  apply Classical.byContradiction
  intro hc
  have h1 : lo ≤ x.toInt := by omega
  have h2 : x.toInt ≤ lo + n - 1 := by omega
  have h3 := h (x.toInt - lo).toNat (by omega)
  apply h3
  have e : lo + ((x.toInt - lo).toNat : Int) = x.toInt := by omega
  rw [e, Int32.ofInt_toInt]
section ZP
variable {p : Program} {l : Launch} {e : Env} {R : Room} {s : State} {m : MethodId} {args : Array Value} {below : List Frame} {meth : Method} {c : Code} {H : Heap} {locs : List Loc} {cells slots : Nat} {Q : State → Prop}
variable {cc : ByteArray} {nL index n pc : Nat} {own : String} {g : zEnv} {A : Nat → Prop} {W0 : va_W} {b : Addr} {rest : List Value} {ls : Array Slot} {β : Type} {r : β}
theorem z_tald {i : Int32} {K : Int32 → Option β} (F : zF p m c cc nL s args own g A) (k : Nat) (hk : k < 3) (hS : va_S A s.heap H locs) (hdg : decode cc pc = .ok (.iaload, 1)) (h : Option.bind (zAld (zTab k) 7 i) K = some r)
    (kk : ∀ x : Int32, K x = some r → W p l e R s m args below meth c H locs cells slots Q (F0 m (pc + 1) ls (.int x :: rest))) : W p l e R s m args below meth c H locs cells slots Q (F0 m pc ls (.int i :: .ref (zTA g k) :: rest)) := by
  obtain ⟨x, h1, h2⟩ := z_bind h
  unfold zAld at h1
  split at h1
  · cases h1
  · next hi => cases h1; exact va_ti F.1.1 F.1.2.1 (F.2.2.1.2.2.1 k hk).2 hS hi rfl hdg (kk _ h2)
theorem z_tlen (F : zF p m c cc nL s args own g A) (k : Nat) (hk : k < 3) (hS : va_S A s.heap H locs) (hdg : decode cc pc = .ok (.arraylength, 1))
    (kk : W p l e R s m args below meth c H locs cells slots Q (F0 m (pc + 1) ls (.int 7 :: rest))) : W p l e R s m args below meth c H locs cells slots Q (F0 m pc ls (.ref (zTA g k) :: rest)) :=
  va_tlen (v := 7) F.1.1 F.1.2.1 (F.2.2.1.2.2.1 k hk).2 hS rfl hdg kk
theorem z_aald {n : Nat} {f : Nat → Option Nat} {i i0 : Int32} (F : zF p m c cc nL s args own g A) (hP : va_P (zD g) vwCl W0 H) (q0 : Nat) (he : W0[q0]? = some (b, .inl (zO g, n, .inr (.inr (.inr (.inr f)))))) (hi : i = i0) (j : Nat) (hj : i0 = nI j) (hjn : j < n ∧ n < 2 ^ 31) (hdg : decode cc pc = .ok (.aaload, 1)) {a1 : Nat} (hf : f j = some a1)
    (kk : W p l e R s m args below meth c H locs cells slots Q (F0 m (pc + 1) ls (.ref a1 :: rest))) : W p l e R s m args below meth c H locs cells slots Q (F0 m pc ls (.int i :: .ref b :: rest)) := by
  subst hi; subst hj
  refine va_aldq F.1.1 F.1.2.1 F.2.1 hP q0 2 he rfl (vp_in_nI hjn.1 hjn.2) hdg ?_
  rw [nI_clamp (by omega), hf]
  exact kk
theorem z_copy {a0 n0 n1 : Nat} {f g1 : Nat → Int32} {sp dp n : Int32} {K : (Nat → Int32) → Option β} (F : zF p m c cc nL s args own g A) (hP : va_P (zD g) vwCl W0 H) (hD : va_D A W0) (hS : va_S A s.heap H locs) (hls : ls.size = nL) (q0 q1 : Nat) (ha0 : W0[q0]? = some (a0, .inl (zI g, n0, .inl f))) (ha1 : W0[q1]? = some (b, .inl (zI g, n1, .inl g1)))
    (hl : Cond.methodLink own index arraycopyName ∈ ZW) (hnat : Cond.native arraycopyName ∈ ZW) (hstat : Cond.static arraycopyName ∈ ZW) (hini : Cond.initialized "java/lang/System" ∈ ZW) (hframes : 1 ≤ R.frames) (hlocals : (rest.map fun v => v.category).sum + 40 ≤ R.locals) (hdg : decode cc pc = .ok (.invokestatic index, 3))
    (h : Option.bind (zCpy f g1 n0 n1 sp dp n) K = some r) {W1 : (Nat → Int32) → va_W} (hW1 : ∀ f1, W0.set q1 (b, .inl (zI g, n1, .inl f1)) = W1 f1)
    (kk : ∀ (f1 : Nat → Int32) (H1 : Heap) (locs1 : List Loc), K f1 = some r → va_P (zD g) vwCl (W1 f1) H1 → va_D A (W1 f1) → va_S A s.heap H1 locs1 → W p l e R s m args below meth c H1 locs1 cells slots Q (F0 m (pc + 3) ls rest)) : W p l e R s m args below meth c H locs cells slots Q (F0 m pc ls (.int n :: .int dp :: .ref b :: .int sp :: .ref a0 :: rest)) := by
  obtain ⟨f1, h1, h2⟩ := z_bind h
  unfold zCpy at h1
  split at h1
  · cases h1
  · next hi =>
    cases h1
    simp only [not_or] at hi
    obtain ⟨i1, i2, i3, i4, i5⟩ := hi
    exact va_copyi F.1.1 F.1.2.1 (F.1.2.2.1.trans hls.symm) F.1.2.2.2.1 (F.1.2.2.2.2 _ hl) (F.1.2.2.2.2 _ hnat) (F.1.2.2.2.2 _ hstat) (F.1.2.2.2.2 _ hini) F.2.1 hP hD hS q0 q1 0 0 ha0 ha1 rfl rfl rfl i1 i2 i3 (Nat.not_lt.mp i4) (Nat.not_lt.mp i5) (fun _ _ => rfl) hframes (Nat.le_trans (Nat.add_le_add_left (by decide +kernel) _) hlocals) hdg (fun H1 locs1 q1 q2 q3 => kk _ H1 locs1 h2 (hW1 _ ▸ q1) (hW1 _ ▸ q2) q3)
theorem zR_l {v : Int64} (F : zF p m c cc nL s args own g A) (hr : meth.sig.returnType = some .long) (hlocks : meth.locks = false) (hQ : Q = MQ below (fun _ st oc t => oc = .returned (some (.long v)) ∧ t.heap = st.heap) args s 0 0 (fun _ => False)) (hdg : decode cc pc = .ok (.lreturn, 1)) : W p l e R s m args below meth c s.heap [] 0 0 Q (F0 m pc ls [.long v]) := by
  subst hQ
  exact W.lret F.1.1 F.1.2.1 hr (fun t ht _ => ⟨rfl, ht⟩) (fun q h => by cases h) hdg hlocks
theorem zR_f {v : UInt32} (F : zF p m c cc nL s args own g A) (hr : meth.sig.returnType = some .float) (hlocks : meth.locks = false) (hQ : Q = MQ below (fun _ st oc t => oc = .returned (some (.float v)) ∧ t.heap = st.heap) args s 0 0 (fun _ => False)) (hdg : decode cc pc = .ok (.freturn, 1)) : W p l e R s m args below meth c s.heap [] 0 0 Q (F0 m pc ls [.float v]) := by
  subst hQ
  exact W.fret F.1.1 F.1.2.1 hr (fun t ht _ => ⟨rfl, ht⟩) (fun q h => by cases h) hdg hlocks
theorem zR_r {a : Nat} {rt : String} (F : zF p m c cc nL s args own g A) (hr : meth.sig.returnType = some (.object rt)) (hlocks : meth.locks = false) (hQ : Q = MQ below (fun _ st oc t => oc = .returned (some (.ref a)) ∧ t.heap = st.heap) args s 0 0 (fun _ => False)) (hdg : decode cc pc = .ok (.areturn, 1)) : W p l e R s m args below meth c s.heap [] 0 0 Q (F0 m pc ls [.ref a]) := by
  subst hQ
  exact W.aret F.1.1 F.1.2.1 hr (Or.inl ⟨_, rfl⟩) (Or.inr ⟨_, rfl⟩) (fun t ht _ => ⟨rfl, ht⟩) (fun q h => by cases h) hdg hlocks
theorem zV_l {v : Int64} (F : zF p m c cc nL s args own g A) (hr : meth.sig.returnType = some .long) (hlocks : meth.locks = false) (hQ : Q = MQ below (fun _ st oc t => oc = .returned (some (.long v)) ∧ va_P (zD g) vwCl W0 t.heap ∧ va_D A W0 ∧ va_F A st t) args s 0 0 A) (hP : va_P (zD g) vwCl W0 H) (hD : va_D A W0) (hS : va_S A s.heap H locs) (hdg : decode cc pc = .ok (.lreturn, 1)) : W p l e R s m args below meth c H locs 0 0 Q (F0 m pc ls [.long v]) := by
  subst hQ
  exact W.lret F.1.1 F.1.2.1 hr (fun t ht _ => ⟨rfl, by rw [ht]; exact hP, hD, hS.F ht⟩) hS.2.2 hdg hlocks
theorem zV_f {v : UInt32} (F : zF p m c cc nL s args own g A) (hr : meth.sig.returnType = some .float) (hlocks : meth.locks = false) (hQ : Q = MQ below (fun _ st oc t => oc = .returned (some (.float v)) ∧ va_P (zD g) vwCl W0 t.heap ∧ va_D A W0 ∧ va_F A st t) args s 0 0 A) (hP : va_P (zD g) vwCl W0 H) (hD : va_D A W0) (hS : va_S A s.heap H locs) (hdg : decode cc pc = .ok (.freturn, 1)) : W p l e R s m args below meth c H locs 0 0 Q (F0 m pc ls [.float v]) := by
  subst hQ
  exact W.fret F.1.1 F.1.2.1 hr (fun t ht _ => ⟨rfl, by rw [ht]; exact hP, hD, hS.F ht⟩) hS.2.2 hdg hlocks
end ZP
