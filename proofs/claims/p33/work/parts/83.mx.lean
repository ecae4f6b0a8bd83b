section ZMY
variable {N : Nat} {S X : zSt} {st cells shifts held past pf : Nat → Int32} {size code pn : Int32} {m v e k i j nx : Nat} {hs : List zSt} {K : zKT}
/-- what an edit leaves in the class: state X, history hs, next place nx -/
def edA (X : zSt) (hs : List zSt) (nx : Nat) (a : Int32 × Int32 × Int32 × Int32 × Int32 × Int32 × Int32 × Int32 × (Nat → Int32) × (Nat → Int32) × (Nat → Int32) × (Nat → Int32) × (Nat → Int32) × (Nat → Int32) × (Nat → Int32) × (Nat → Int32)) : Prop := a.2.1 = iI nx ∧ a.2.2.1 = iI hs.length ∧ zRg hs nx (zSl a.2.2.2.2.1 a.2.2.2.2.2.1 a.2.2.2.2.2.2.1 a.2.2.2.2.2.2.2.1 a.2.2.2.2.2.2.2.2.2.2.2.2.1 a.2.2.2.2.2.2.2.2.2.2.2.2.2.1 a.2.2.2.2.2.2.2.2.2.2.2.2.2.2.1 a.2.2.2.2.2.2.2.2.2.2.2.2.2.2.2) ∧ oF X a.2.2.2.1 a.2.2.2.2.2.2.2.2.1 ∧ RC X (iI X.1) a.2.2.2.2.2.2.2.2.2.1 ∧ FH X a.2.2.2.2.2.2.2.2.2.2.1 (fun _ _ _ => True) ∧ FSp X a.2.2.2.2.2.2.2.2.2.2.2.1 768
theorem X4_putValue (h : okC S) (hm : m < S.1) (hk : k < 7) (x : Int32) : f_X4_putValue N (iI S.1) cells (iI m) (iI k) x = some (upd cells (57 * m + k) x) := by
  have h1 := h.1
  unfold f_X4_putValue
  rw [z_be (z_p1 (show 0 ≤ (m : Int) ∧ (m : Int) < S.1 by omega) (X4_hasMeasure h (zIn_ m (by omega)))), if_neg ne10, if_neg (by rw [iL0, iI_lt (by omega) (by omega) (by omega) (by omega)]; omega), if_pos (by rw [iL7, iI_lt (by omega) (by omega) (by omega) (by omega)]; omega), iL57, iI_mul, iI_add, zAstI (by omega) (by omega) (by omega), z_sb]
  rw [show ((m : Int) * 57 + k).toNat = 57 * m + k by omega]
theorem C_set {n0 n1 n2 n3 : Int32} {c0 c1 c2 c3 : Nat → Int32} (h : okS S) (hR : RC S (iI S.1) cells) (hnx : nx < 4) (hl : hs.length ≤ 4) (hG : zRg hs nx (zSl n0 n1 n2 n3 c0 c1 c2 c3)) {x y z : Int} (hx : 0 ≤ x ∧ x < S.1) (hc : chP y z) (hy : zInt y) (hz : zInt z) (hN : 4000 ≤ N) : zT (f_X9_set N (iI nx) (iI hs.length) pn (iI S.1) n0 n1 n2 n3 pf cells held shifts c0 c1 c2 c3 (iI x) (iI y) (iI z)) (fun s => ∃ a, s = .inl a ∧ a.1 = iI (S.2.1 x.toNat y.toNat) ∧ edA (setV S x.toNat y.toNat z) ((S :: hs).take 4) ((nx + 1) % 4) a) := by
  have h1 := h.1.1
  obtain ⟨m, rfl⟩ := Int.eq_ofNat_of_zero_le hx.1
  obtain ⟨k, rfl⟩ := Int.eq_ofNat_of_zero_le (show 0 ≤ y by omega)
  have hk : k < 7 := by omega
  have hm : m < S.1 := by omega
  simp only [Int.toNat_natCast]
  have hx' : okS (setV S m k z) := okS_setVg h hm hc
  have hR' := RC_setV h.1 hR hm hk z
  unfold f_X9_set
  rw [zSub_rq (C_rqM h.1 (zIn_ m (by omega))), if_pos hx, z_be (z_p1 hc (X4_canHold hy hz)), if_neg ne10]
  refine zT_bind (zT_mono (X1_push h.1 hR hnx hl hG) ?_)
  rintro ⟨r1, r2, r3, r4, r5, r6, r7, r8, r9, r10⟩ ⟨q1, q2, q3⟩
  refine zT_bindE (X4_value_at h.1 hR hm hk) (zT_bindE (X4_putValue h.1 hm hk _) (zT_bind (zT_mono (X9_settle (S := setV S m k z) hx' hR' hN) ?_)))
  rintro ⟨u1, u2, u3, u4⟩ ⟨p1, p2, p3⟩
  exact zT_some ⟨_, rfl, rfl, q1, q2, q3, p1, hR', p2, p3⟩
end ZMY
