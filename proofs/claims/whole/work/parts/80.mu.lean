section ZMV
variable {N : Nat} {S X : zSt} {st cells shifts held past pf : Nat → Int32} {size code pn : Int32} {m v e k i j nx : Nat} {hs : List zSt} {K : zKT} {M : zMT}
theorem C_undo {sz n0 n1 n2 n3 : Int32} {c c0 c1 c2 c3 : Nat → Int32} (hok : okS X) (hnx : nx < 4) (hl : (X :: hs).length ≤ 4) (hG : zRg (X :: hs) nx (zSl n0 n1 n2 n3 c0 c1 c2 c3)) (hN : 4000 ≤ N) : zT (f_X9_undo N (iI nx) (iI (X :: hs).length) pn sz n0 n1 n2 n3 pf c held shifts c0 c1 c2 c3) (fun s => ∃ a, s = .inl a ∧ a.1 = iI hs.length ∧ a.2.1 = iI ((nx + 3) % 4 : Nat) ∧ a.2.2.1 = iI hs.length ∧ oF X a.2.2.2.1 a.2.2.2.2.2.1 ∧ RC X a.2.2.2.2.1 a.2.2.2.2.2.2.1 ∧ FH X a.2.2.2.2.2.2.2.1 (fun _ _ _ => True) ∧ FSp X a.2.2.2.2.2.2.2.2 768) := by
  have hl2 : hs.length ≤ 3 := by simpa using hl
  unfold f_X9_undo
  refine zT_bindE (show f_X1_size N (iI (X :: hs).length) = some (iI (X :: hs).length) from rfl) (zT_ite (fun q => ?_) (fun _ => ?_))
  · rw [iL0, iI_eq (by omega) (by omega) (by omega) (by omega), List.length_cons] at q
    omega
  · refine zT_bind (zT_mono (X1_popInto hok.1 hnx hl hG) ?_)
    rintro ⟨r1, r2, r3, r4⟩ ⟨q1, q2, q3⟩
    dsimp only at q1 q2 q3 ⊢
    subst q1; subst q2
    have e3 := q3.1
    rw [e3] at q3
    rw [e3]
    refine zT_bind (zT_mono (X9_settle hok q3 hN) ?_)
    rintro ⟨u1, u2, u3, u4⟩ ⟨p1, p2, p3⟩
    exact zT_bindE (show f_X1_size N (iI hs.length) = some (iI hs.length) from rfl) (zT_some ⟨_, rfl, rfl, rfl, rfl, p1, q3, p2, p3⟩)
theorem zPa_tl (hP : zPa (X :: hs) past) : zPa hs past := by
  intro i Y hY
  have hi : i < hs.length := (List.getElem?_eq_some_iff.mp hY).1
  have := hP (i + 1) Y (by simpa using hY)
  rw [List.length_cons, show hs.length + 1 - 1 - (i + 1) = hs.length - 1 - i by omega] at this
  exact this
theorem M_undo (hok : okS X) (hl : (X :: hs).length ≤ 4) (hP : zPa (X :: hs) past) (hN : 12000 ≤ N) : zT (f_X10_undo N code (iI (X :: hs).length) past st) (fun r => r.1 = iI hs.length ∧ r.2.1 = 0 ∧ r.2.2.1 = iI hs.length ∧ RM X r.2.2.2) := by
  have hl2 : hs.length ≤ 3 := by simpa using hl
  have h0 := hP 0 X rfl
  have es : iI (((X :: hs).length : Nat) : Int) - 1 = iI (hs.length : Int) := by
    rw [iIs1, List.length_cons]; congr 1; omega
  unfold f_X10_undo
  rw [if_neg (by rw [iL0, iI_eq (by omega) (by omega) (by omega) (by omega), List.length_cons]; omega), z_sb, z_be (X10_ref0 code), if_pos (f00 0), z_sb, es]
  refine zT_bind (zT_mono (X10_undo33 (n := hs.length) (by omega) hN) (fun p hp => zT_some ⟨rfl, rfl, rfl, RM_ext hok.1 h0 (fun j hj => ?_)⟩))
  dsimp only
  rw [hp j hj, List.length_cons, show hs.length + 1 - 1 - 0 = hs.length by omega]
theorem zk_undo (hN : 20000 ≤ N) (hZ : zZ K M) : zS_undo N zZ K M := by
  obtain ⟨S, hs, nx, L, T, h0, hk, hO, hC, hT, hH, hF, hX, hP, hS, hR⟩ := hZ
  obtain ⟨u1, u2, u3, u4, u5, u6⟩ := h0
  unfold zS_undo
  rw [hk.1, hk.2.1, hP.1]
  match hs, u2, u3, hk, hP with
  | [], u2, u3, hk, hP =>
    have e1 : ∀ (a b : Int32) (x0 x1 x2 x3 : Int32) (f1 f2 f3 f4 f5 f6 f7 f8 : Nat → Int32), f_X9_undo N (iI nx) (iI (([] : List zSt).length : Int)) a b x0 x1 x2 x3 f1 f2 f3 f4 f5 f6 f7 f8 = some (.inr 2) := fun _ _ _ _ _ _ _ _ _ _ _ _ _ _ => rfl
    have e2 : ∀ (a : Int32) (f1 f2 : Nat → Int32), f_X10_undo N a (iI (([] : List zSt).length : Int)) f1 f2 = some (0, 1, iI (([] : List zSt).length : Int), f2) := fun _ _ _ => rfl
    rw [e1, e2]
    exact ⟨_, rfl, Or.inr ⟨rfl, rfl, ⟨S, [], nx, L, T, ⟨u1, u2, u3, u4, u5, u6⟩, hk, hO, hC, hT, hH, hF, hX, ⟨rfl, hP.2⟩, hS, hR⟩⟩⟩
  | X :: tl, u2, u3, hk, hP =>
    have hok := u3 X (List.mem_cons_self ..)
    obtain ⟨s, hs1, a, rfl, p1, p2, p3, p4, p5, p6, p7⟩ := C_undo (N := N) (pn := K.2.2.1) (sz := K.2.2.2.2.2.2.1) (c := K.2.2.2.2.2.2.2.2.2.2.2.2.2.2.2.2.1) (pf := K.2.2.2.2.2.2.2.2.2.2.2.2.2.2.1) (held := K.2.2.2.2.2.2.2.2.2.2.2.2.2.2.2.2.2.2.1) (shifts := K.2.2.2.2.2.2.2.2.2.2.2.2.2.2.2.2.2.2.2.1) hok u4 u2 hk.2.2 (by omega)
    obtain ⟨b, hb, q1, q2, q3, q4⟩ := M_undo (N := N) (code := M.1) (st := M.2.2.2.2.2.2.2.2.2.2.2.2.2.2.2.2.2.2.1) hok u2 hP.2 (by omega)
    have hl2 : (X :: tl).length = tl.length + 1 := rfl
    exact ⟨b, hb, Or.inl ⟨a, hs1, q2, p1.trans q1.symm, ⟨X, tl, (nx + 3) % 4, L, T, ⟨hok, by omega, fun Y hY => u3 Y (List.mem_cons_of_mem _ hY), by omega, u5, u6⟩, ⟨p2, p3, zRg_pop u4 u2 hk.2.2⟩, p4, p5, hT, p6, p7, hX, ⟨q3, zPa_tl hP.2⟩, hS, q4⟩⟩⟩
end ZMV
