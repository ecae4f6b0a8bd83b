section ZND
variable {N : Nat} {S X : zSt} {st cells shifts held past pf : Nat → Int32} {size code pn : Int32} {m v e k i j nx : Nat} {hs : List zSt} {K : zKT}
theorem okE_rest {d : Int} (hd : 0 ≤ d ∧ d ≤ 9) : okE (-1, 0, d, 0) := Or.inl ⟨rfl, rfl, hd.1, hd.2, rfl⟩
theorem C_addRest {n0 n1 n2 n3 : Int32} {c0 c1 c2 c3 : Nat → Int32} (h : okS S) (hR : RC S (iI S.1) cells) (hnx : nx < 4) (hl : hs.length ≤ 4) (hG : zRg hs nx (zSl n0 n1 n2 n3 c0 c1 c2 c3)) {x y d : Int} (hx : 0 ≤ x ∧ x < S.1 ∧ 0 ≤ y ∧ y < 2) (hd : 0 ≤ d ∧ d ≤ 9) (hc : gC S x y < 24) (hN : 4000 ≤ N) : zT (f_X9_addRest N (iI nx) (iI hs.length) pn (iI S.1) n0 n1 n2 n3 pf cells held shifts c0 c1 c2 c3 (iI x) (iI y) (iI d)) (fun s => ∃ a, s = .inl a ∧ a.1 = iI ((S.2.2.1 x.toNat y.toNat + 1 : Nat) : Int) ∧ edA (setAd S x.toNat y.toNat (-1, 0, d, 0)) ((S :: hs).take 4) ((nx + 1) % 4) a) := by
  have h1 := h.1.1
  obtain ⟨m, rfl⟩ := Int.eq_ofNat_of_zero_le hx.1
  obtain ⟨v, rfl⟩ := Int.eq_ofNat_of_zero_le hx.2.2.1
  have hm : m < S.1 := by omega
  have hv : v < 2 := by omega
  simp only [Int.toNat_natCast]
  have hC : S.2.2.1 m v < 24 := by
    rw [gC_at hm hv] at hc
    omega
  have hx' : okS (setAd S m v (-1, 0, d, 0)) := okS_setAd h hm hv hC (okE_rest hd)
  have hR' := RC_setAd (x := (-1, 0, d, 0)) h.1 hR hm hv hC
  have hr : f_X9_requireRange N (iI d) 0 9 = if 0 ≤ d ∧ d ≤ 9 then some (.inl ()) else some (.inr 1) := C_rqR (a := 0) (b := 9) (by unfold zInt; omega) (by unfold zInt; omega) (by unfold zInt; omega)
  unfold f_X9_addRest
  rw [zSub_rq (C_rqV h.1 (zIn_ m (by omega)) (zIn_ v (by omega))), if_pos hx, zSub_rq hr, if_pos hd, zSub_rq (C_rqRoom h.1 hR (zIn_ m (by omega)) (zIn_ v (by omega))), if_pos hc]
  refine zT_bind (zT_mono (X1_push h.1 hR hnx hl hG) ?_)
  rintro ⟨r1, r2, r3, r4, r5, r6, r7, r8, r9, r10⟩ ⟨q1, q2, q3⟩
  refine zT_bindE (X0_ofRest hd.1 hd.2) (zT_bindE (X4_appendEvent h.1 hR hm hv hC) (zT_bind (zT_mono (X9_settle (S := setAd S m v (-1, 0, d, 0)) hx' hR' hN) ?_)))
  rintro ⟨u1, u2, u3, u4⟩ ⟨p1, p2, p3⟩
  have ec := X4_count_at (N := N) (S := setAd S m v (-1, 0, d, 0)) hx'.1 hR' hm hv
  rw [setAd_C] at ec
  exact zT_bindE ec (zT_some ⟨_, rfl, rfl, q1, q2, q3, p1, hR', p2, p3⟩)
end ZND
