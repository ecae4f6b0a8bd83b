section ZMV
variable {N : Nat} {S X : zSt} {st cells shifts held past pf : Nat → Int32} {size code pn : Int32} {m v e k i j nx : Nat} {hs : List zSt} {K : zKT}
theorem C_undo {sz n0 n1 n2 n3 : Int32} {c c0 c1 c2 c3 : Nat → Int32} (hok : okS X) (hnx : nx < 4) (hl : (X :: hs).length ≤ 4) (hG : zRg (X :: hs) nx (zSl n0 n1 n2 n3 c0 c1 c2 c3)) (hN : 4000 ≤ N) : zT (f_X9_undo N (iI nx) (iI (X :: hs).length) pn sz n0 n1 n2 n3 pf c held shifts c0 c1 c2 c3) (fun s => ∃ a, s = .inl a ∧ a.1 = iI hs.length ∧ a.2.1 = iI ((nx + 3) % 4 : Nat) ∧ a.2.2.1 = iI hs.length ∧ oF X a.2.2.2.1 a.2.2.2.2.2.1 ∧ RC X a.2.2.2.2.1 a.2.2.2.2.2.2.1 ∧ FH X a.2.2.2.2.2.2.2.1 (fun _ _ _ => True) ∧ FSp X a.2.2.2.2.2.2.2.2 768) := by
  have hl2 : hs.length ≤ 3 := by simpa using hl
  unfold f_X9_undo
  refine zT_bindE (show f_X1_size N (iI (X :: hs).length) = some (iI (X :: hs).length) from rfl) (zT_ite (fun q => ?_) (fun _ => ?_))
  · rw [iL0, iI_eq (by omega) (by omega) (by omega) (by omega), List.length_cons] at q
    omega
  · refine zT_bind (zT_mono (X1_popInto hok.1 hnx hl hG) ?_)
    rintro ⟨r1, r2, r3, r4⟩ ⟨q1, q2, q3⟩
    dsimp only at q1 q2 q3 ⊢
    subst q1; subst q2
    have e3 := q3.1
    rw [e3] at q3
    rw [e3]
    refine zT_bind (zT_mono (X9_settle hok q3 hN) ?_)
    rintro ⟨u1, u2, u3, u4⟩ ⟨p1, p2, p3⟩
    exact zT_bindE (show f_X1_size N (iI hs.length) = some (iI hs.length) from rfl) (zT_some ⟨_, rfl, rfl, rfl, rfl, p1, q3, p2, p3⟩)
end ZMV
