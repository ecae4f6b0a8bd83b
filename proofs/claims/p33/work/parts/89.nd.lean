section ZNE
variable {N : Nat} {S X : zSt} {st cells shifts held past pf : Nat → Int32} {size code pn : Int32} {m v e k i j nx : Nat} {hs : List zSt} {K : zKT}
abbrev nP (p s d : Int) : Prop := (0 ≤ p ∧ p ≤ 62) ∧ (0 ≤ s ∧ s ≤ 3) ∧ 0 ≤ d ∧ d ≤ 9
def tdI (y : Int32) : Int := if y = 0 then 0 else 1
theorem tdI_b (y : Int32) : 0 ≤ tdI y ∧ tdI y ≤ 1 := by
  unfold tdI
  split <;> omega
theorem okE_note {p s d : Int} (h : nP p s d) (y : Int32) : okE (p, s, d, tdI y) := Or.inr ⟨h.1.1, h.1.2, h.2.1.1, h.2.1.2, h.2.2.1, h.2.2.2, (tdI_b y).1, (tdI_b y).2⟩
theorem ofNote_y (a b c y : Int32) : f_X0_ofNote N a b c y = f_X0_ofNote N a b c (iI (tdI y)) := by
  unfold tdI f_X0_ofNote
  by_cases q : y = 0
  · rw [if_pos q, if_pos q]
    rfl
  · rw [if_neg q, if_neg q]
    rfl
theorem C_addNote {n0 n1 n2 n3 : Int32} {c0 c1 c2 c3 : Nat → Int32} (h : okS S) (hR : RC S (iI S.1) cells) (hnx : nx < 4) (hl : hs.length ≤ 4) (hG : zRg hs nx (zSl n0 n1 n2 n3 c0 c1 c2 c3)) {x y p s d : Int} {y6 : Int32} (hx : 0 ≤ x ∧ x < S.1 ∧ 0 ≤ y ∧ y < 2) (hd : nP p s d) (hc : gC S x y < 24) (hN : 4000 ≤ N) : zT (f_X9_addNote N (iI nx) (iI hs.length) pn (iI S.1) n0 n1 n2 n3 pf cells held shifts c0 c1 c2 c3 (iI x) (iI y) (iI p) (iI s) (iI d) y6) (fun s_ => ∃ a, s_ = .inl a ∧ a.1 = iI ((S.2.2.1 x.toNat y.toNat + 1 : Nat) : Int) ∧ edA (setAd S x.toNat y.toNat (p, s, d, tdI y6)) ((S :: hs).take 4) ((nx + 1) % 4) a) := by
  have h1 := h.1.1
  obtain ⟨m, rfl⟩ := Int.eq_ofNat_of_zero_le hx.1
  obtain ⟨v, rfl⟩ := Int.eq_ofNat_of_zero_le hx.2.2.1
  have hm : m < S.1 := by omega
  have hv : v < 2 := by omega
  simp only [Int.toNat_natCast]
  have hC : S.2.2.1 m v < 24 := by
    rw [gC_at hm hv] at hc
    omega
  have hx' : okS (setAd S m v (p, s, d, tdI y6)) := okS_setAd h hm hv hC (okE_note hd y6)
  have hR' := RC_setAd (x := (p, s, d, tdI y6)) h.1 hR hm hv hC
  have hr1 : f_X9_requireRange N (iI p) 0 62 = if 0 ≤ p ∧ p ≤ 62 then some (.inl ()) else some (.inr 1) := C_rqR (a := 0) (b := 62) (by unfold zInt; omega) (by unfold zInt; omega) (by unfold zInt; omega)
  have hr2 : f_X9_requireRange N (iI s) 0 3 = if 0 ≤ s ∧ s ≤ 3 then some (.inl ()) else some (.inr 1) := C_rqR (a := 0) (b := 3) (by unfold zInt; omega) (by unfold zInt; omega) (by unfold zInt; omega)
  have hr : f_X9_requireRange N (iI d) 0 9 = if 0 ≤ d ∧ d ≤ 9 then some (.inl ()) else some (.inr 1) := C_rqR (a := 0) (b := 9) (by unfold zInt; omega) (by unfold zInt; omega) (by unfold zInt; omega)
  unfold f_X9_addNote
  rw [zSub_rq (C_rqV h.1 (zIn_ m (by omega)) (zIn_ v (by omega))), if_pos hx, zSub_rq hr1, if_pos hd.1, zSub_rq hr2, if_pos hd.2.1, zSub_rq hr, if_pos hd.2.2, zSub_rq (C_rqRoom h.1 hR (zIn_ m (by omega)) (zIn_ v (by omega))), if_pos hc]
  refine zT_bind (zT_mono (X1_push h.1 hR hnx hl hG) ?_)
  rintro ⟨r1, r2, r3, r4, r5, r6, r7, r8, r9, r10⟩ ⟨q1, q2, q3⟩
  refine zT_bindE ((ofNote_y _ _ _ _).trans (X0_ofNote (okE_note hd y6) hd.1.1)) (zT_bindE (X4_appendEvent h.1 hR hm hv hC) (zT_bind (zT_mono (X9_settle (S := setAd S m v (p, s, d, tdI y6)) hx' hR' hN) ?_)))
  rintro ⟨u1, u2, u3, u4⟩ ⟨p1, p2, p3⟩
  have ec := X4_count_at (N := N) (S := setAd S m v (p, s, d, tdI y6)) hx'.1 hR' hm hv
  rw [setAd_C] at ec
  exact zT_bindE ec (zT_some ⟨_, rfl, rfl, q1, q2, q3, p1, hR', p2, p3⟩)
end ZNE
