section ZMT
variable {N : Nat} {S X : zSt} {st cells shifts held past pf : Nat → Int32} {size code pn : Int32} {m v e k i j nx : Nat} {hs : List zSt}
theorem X9_settle (h : okS S) (hR : RC S (iI S.1) cells) (hN : 4000 ≤ N) : zT (f_X9_settle N pn (iI S.1) pf cells held shifts) (fun r => oF S r.1 r.2.1 ∧ FH S r.2.2.1 (fun _ _ _ => True) ∧ FSp S r.2.2.2 768) := by
  unfold f_X9_settle
  exact zT_bind (zT_mono (X6_findShifts h hR (by omega)) (fun r1 h1 => zT_bind (zT_mono (X6_findHeldTicks h.1 hR (by omega)) (fun r2 h2 => zT_bind (zT_mono (X2_unroll h hR hN) (fun r3 h3 => zT_some ⟨h3, h2, h1⟩))))))
theorem X1_popInto {sz n0 n1 n2 n3 : Int32} {c c0 c1 c2 c3 : Nat → Int32} (hok : okC X) (hnx : nx < 4) (hl : (X :: hs).length ≤ 4) (hG : zRg (X :: hs) nx (zSl n0 n1 n2 n3 c0 c1 c2 c3)) : zT (f_X1_popInto N (iI nx) (iI (X :: hs).length) n0 n1 n2 n3 c0 c1 c2 c3 sz c) (fun r => r.1 = iI ((nx + 3) % 4 : Nat) ∧ r.2.1 = iI hs.length ∧ RC X r.2.2.1 r.2.2.2) := by
  have h0 := hG 0 X rfl
  have hl2 : hs.length ≤ 3 := by simpa using hl
  have e1 : (iI (nx : Int) + 4) - 1 = iI ((nx + 3 : Nat) : Int) := by
    rw [iL4, iI_add, iIs1]; congr 1; omega
  have er : zRem ((iI (nx : Int) + 4) - 1) 4 = some (iI ((nx + 3) % 4 : Nat)) := by
    rw [e1]
    exact zRemI (b := 4) (by omega) (by omega) (by omega) (by omega)
  have es : iI (((X :: hs).length : Nat) : Int) - 1 = iI (hs.length : Int) := by
    rw [iIs1, List.length_cons]; congr 1; omega
  have hpos : (0 : Int32) < iI (((X :: hs).length : Nat) : Int) := by
    rw [iL0, iI_lt (by omega) (by omega) (by omega) (by omega), List.length_cons]; omega
  unfold f_X1_popInto
  refine zT_bindE er ?_
  rw [if_pos hpos, if_pos hpos, if_pos hpos, if_pos hpos, es]
  rw [show (nx + 3 - 0) % 4 = (nx + 3) % 4 by omega] at h0
  generalize hj : (nx + 3) % 4 = j at h0 ⊢
  rcases (show j = 0 ∨ j = 1 ∨ j = 2 ∨ j = 3 by omega) with rfl | rfl | rfl | rfl
  · exact zT_ite (fun _ => zT_bind (zT_mono (X4_copyFrom hok h0) (fun r hr => zT_bindE rfl (zT_some ⟨rfl, rfl, hr⟩)))) (fun q => absurd rfl q)
  · exact zT_ite (fun q => absurd q (by decide)) (fun _ => zT_ite (fun _ => zT_bind (zT_mono (X4_copyFrom hok h0) (fun r hr => zT_bindE rfl (zT_some ⟨rfl, rfl, hr⟩)))) (fun q => absurd rfl q))
  · exact zT_ite (fun q => absurd q (by decide)) (fun _ => zT_ite (fun q => absurd q (by decide)) (fun _ => zT_ite (fun _ => zT_bind (zT_mono (X4_copyFrom hok h0) (fun r hr => zT_bindE rfl (zT_some ⟨rfl, rfl, hr⟩)))) (fun q => absurd rfl q)))
  · exact zT_ite (fun q => absurd q (by decide)) (fun _ => zT_ite (fun q => absurd q (by decide)) (fun _ => zT_ite (fun q => absurd q (by decide)) (fun _ => zT_ite (fun _ => zT_bind (zT_mono (X4_copyFrom hok h0) (fun r hr => zT_bindE rfl (zT_some ⟨rfl, rfl, hr⟩)))) (fun q => absurd rfl q))))
/-! the reference's row of states -/
end ZMT
