theorem zcmp_self (x : Int64) : lg_cmp x x = 0 := by unfold lg_cmp; rw [if_neg (Int64.lt_irrefl), if_pos rfl]
section ZLW
variable {p : Program} {l : Launch} {e : Env} {R : Room} {s : State} {m : MethodId} {args : Array Value} {below : List Frame} {meth : Method} {c : Code} {H : Heap} {locs : List Loc} {cells slots : Nat} {Q : State → Prop}
variable {cc bytes : ByteArray} {nL maxL index n pc : Nat} {own : String} {y : MethodName} {rm : Room} {g : zEnv} {j : zJ} {A : Nat → Prop} {W0 w w1 wr W1 : va_W} {As rest st0 : List Value} {ls : Array Slot} {hh : List (Nat × Nat × Nat × Nat)} {v : Int32}
/-- a call of one of the law's own small methods -/
theorem zCL (F : zF p m c cc nL s args own g A) (hN : zN s) (hJ : va_K (zD g) vwCl (zJT j) s) (hM : ZL l y bytes maxL hh rm g j As w w1 v) (hy : Cond.static y ∈ ZW ∧ Cond.codeWith y bytes maxL (some .int) hh ∈ ZW) (hini : Cond.initialized y.cls ∈ ZW) (hd : y.cls ≠ "java/lang/invoke/MethodHandle" ∧ y.cls ≠ "java/lang/invoke/VarHandle") (hp : (parseMethodDescriptor y.desc).map (fun d => d.parameters.length) = some n) (hl : Cond.methodLink own index y ∈ ZW) (hP : va_P (zD g) vwCl W0 H) (hD : va_D A W0) (hS : va_S A s.heap H locs)
    (isC isR pm : List Nat) (hC : isC.map (fun i => W0[i]?) = w.map some) (hn : va_nd isC = true) (hRr : isR.map (fun i => W0[i]?) = wr.map some) (hnd : va_nd isR = true) (hdis : ∀ i ∈ isR, i ∉ isC) (hpm : pm.map (fun i => (wr ++ w1)[i]?) = W1.map some) (hpn : va_nd pm = true)
    (hAs : As.length = n) (hls : ls.size = nL) (hst0 : st0 = As.reverse ++ rest) (hroom : (rest.map fun v => v.category).sum ≤ 8)
    (hr : rm.cells = 1 ∧ rm.slots = 6) (hR : rm.frames + 1 ≤ R.frames ∧ 8 + (maxL + 11) + rm.locals ≤ R.locals) (hcs : cells + 1 ≤ R.cells ∧ slots + 6 ≤ R.slots) (hdg : decode cc pc = .ok (.invokestatic index, 3))
    (kk : ∀ (H1 : Heap) (locs1 : List Loc), va_P (zD g) vwCl W1 H1 → va_D A W1 → va_S A s.heap H1 locs1 → W p l e R s m args below meth c H1 locs1 (cells + 1) (slots + 6) Q (F0 m (pc + 3) ls (.int v :: rest))) : W p l e R s m args below meth c H locs cells slots Q (F0 m pc ls st0) := by
  have ht := F.1.2.2.2.2
  have hws : ∀ w ∈ (Cond.codeWith y bytes maxL (some .int) hh :: ZW), ∀ (a' : Array Value) (U : State), s.WarmedH U.vm → w.before a' U = true := by
    intro w hw a' U hW
    have hm : w ∈ ZW := by
      rcases List.mem_cons.mp hw with h | h
      · rw [h]; exact hy.2
      · exact h
    exact word_at hW (good_of_word (zGood w hm)) (ht w hm)
  have hr : vx_Run p l e R s m args below meth c H locs cells slots 1 6 (F0 m pc ls st0) rest (fun st oc t => oc = .returned (some (.int v)) ∧ va_P (zD g) vwCl w1 t.heap ∧ va_D (va_A w H.size) w1 ∧ va_F (va_A w H.size) st t) (fun _ _ _ => False) (va_A w H.size) := vx_runSX (hh := hh) F.1 (hM H.size) ⟨⟨hr.1, hr.2, hR.1, hR.2, hws, List.mem_cons_self⟩, ht _ hy.2, ht _ hini, hd, fun sig h => by rw [h] at hp; exact (Option.some.inj hp).symm, ht _ hl, ht _ hy.1⟩ ⟨zPreL_blind g j w H.size _, fun U hU hW => ⟨rfl, ⟨zPre_at F hP hD hS isC hC hn U hU hW, hN.moved hW.alike⟩, va_K.moved hW.alike hJ⟩⟩ rfl hAs hls hst0 (lv_room hroom) hdg hcs
  have hA := F.2.2.2
  intro T hT X
  rcases hr T hT X with ⟨v', st₀, t, T', L, h0, X', hL, e1, e2, ⟨hv, hP1, hD1, hz, hk⟩, st⟩ | ⟨q, st₀, t, T', L, E, ce, hh0, X', hL, e1, e2, hfalse, hce, hcv, hcl, st⟩
  · cases hv
    have hF := va_free hD hS hA isC hC
    rw [h0] at hz hk
    rw [← e1] at hP1 hz hk
    obtain ⟨k1, k2⟩ := va_join hP hD isC isR hC hRr hnd hdis hk hF hP1 hD1
    have k3 : va_S A s.heap T'.heap (locs ++ L) := ⟨Nat.le_trans hS.1 hz, fun q h1 h2 => by rw [hk q (Nat.lt_of_lt_of_le h1 hS.1) (fun z => h2 (hF q z))]; exact hS.2.1 q h1 h2, fun q hq => by
        rcases List.mem_append.mp hq with h | h
        · exact hS.2.2 q h
        · exact hF _ (hL q h)⟩
    obtain ⟨t2, a1, b1⟩ := kk T'.heap (locs ++ L) (k1.sub pm (zFm hpm)) (k2.sub pm hpn hpm) k3 T' rfl X'
    exact ⟨t2, st t2 a1, b1⟩
  · exact hfalse.elim
end ZLW
