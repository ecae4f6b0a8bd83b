section ZNG
variable {N : Nat} {S X : zSt} {st cells shifts held past pf : Nat → Int32} {size code pn : Int32} {m v e k i j nx : Nat} {hs : List zSt} {K : zKT} {x : zEv}
/-- the reference's row with an event less -/
def rmM (S : zSt) (m v e : Nat) (st : Nat → Int32) (k : Nat) : Int32 := if 201 * m + 10 + 96 * v + 4 * e ≤ k ∧ k < 201 * m + 10 + 96 * v + 4 * (S.2.2.1 m v - 1) then st (k + 4) else upd st (201 * m + 8 + v) (iI ((S.2.2.1 m v - 1 : Nat) : Int)) k
theorem far201 {m m' o a : Nat} (ho : 0 < o ∧ o < 10) (h1 : 10 ≤ a) (h2 : a < 202) : 201 * m' + o ≠ 201 * m + a := by omega
theorem notin201 {m m' o lo hi : Nat} (ho : 0 < o ∧ o < 10) (h1 : 201 * m + 10 ≤ lo) (h2 : hi ≤ 201 * m + 202) : ¬ (lo ≤ 201 * m' + o ∧ 201 * m' + o < hi) := by
  intro q
  have := far201 (m := m) (m' := m') (a := 201 * m' + o - 201 * m) ho (by omega) (by omega)
  omega
theorem rmM_off (h1 : k ≠ 201 * m + 8 + v) (h2 : ¬ (201 * m + 10 + 96 * v + 4 * e ≤ k ∧ k < 201 * m + 10 + 96 * v + 4 * (S.2.2.1 m v - 1))) : rmM S m v e st k = st k := by
  unfold rmM
  rw [if_neg h2, upd_ne _ _ h1]
end ZNG
section ZNH
variable {N : Nat} {S X : zSt} {st cells shifts held past pf : Nat → Int32} {size code pn : Int32} {m v e k i j nx : Nat} {hs : List zSt} {K : zKT} {x : zEv}
theorem C_removeEvent {n0 n1 n2 n3 : Int32} {c0 c1 c2 c3 : Nat → Int32} (h : okS S) (hR : RC S (iI S.1) cells) (hnx : nx < 4) (hl : hs.length ≤ 4) (hG : zRg hs nx (zSl n0 n1 n2 n3 c0 c1 c2 c3)) (hm : m < S.1) (hv : v < 2) (he : e < S.2.2.1 m v) (hN : 4000 ≤ N) : zT (f_X9_removeEvent N (iI nx) (iI hs.length) pn (iI S.1) n0 n1 n2 n3 pf cells held shifts c0 c1 c2 c3 (iI m) (iI v) (iI e)) (fun s => ∃ a, s = .inl a ∧ a.1 = iI ((S.2.2.1 m v - 1 : Nat) : Int) ∧ edA (setRm S m v e) ((S :: hs).take 4) ((nx + 1) % 4) a) := by
  have h1 := h.1.1
  have hC := okC_C h.1 hm hv
  have hx' : okS (setRm S m v e) := okS_setRm h hm hv he
  have hR' := RC_setRm h.1 hR hm hv he
  have hg : 0 ≤ (e : Int) ∧ (e : Int) < gC S m v := by rw [gC_at hm hv]; omega
  unfold f_X9_removeEvent
  rw [zSub_rq (C_rqE h.1 hR (zIn_ m (by omega)) (zIn_ v (by omega)) (zIn_ e (by omega))), if_pos hg]
  refine zT_bind (zT_mono (X1_push h.1 hR hnx hl hG) ?_)
  rintro ⟨r1, r2, r3, r4, r5, r6, r7, r8, r9, r10⟩ ⟨q1, q2, q3⟩
  refine zT_bindE (X4_dropEvent h.1 hR hm hv he) (zT_bind (zT_mono (X9_settle (S := setRm S m v e) hx' hR' hN) ?_))
  rintro ⟨u1, u2, u3, u4⟩ ⟨p1, p2, p3⟩
  have ec := X4_count_at (N := N) (S := setRm S m v e) hx'.1 hR' hm hv
  rw [setRm_C] at ec
  exact zT_bindE ec (zT_some ⟨_, rfl, rfl, q1, q2, q3, p1, hR', p2, p3⟩)
theorem gC_in (h : okC S) {x y z : Int} (hz : 0 ≤ z ∧ z < gC S x y) : ∃ m v e : Nat, x = m ∧ y = v ∧ z = e ∧ m < S.1 ∧ v < 2 ∧ e < S.2.2.1 m v := by
  unfold gC at hz
  split at hz
  · next q =>
    obtain ⟨m, rfl⟩ := Int.eq_ofNat_of_zero_le q.1
    obtain ⟨v, rfl⟩ := Int.eq_ofNat_of_zero_le q.2.2.1
    obtain ⟨e, rfl⟩ := Int.eq_ofNat_of_zero_le hz.1
    simp only [Int.toNat_natCast] at hz
    exact ⟨m, v, e, rfl, rfl, rfl, by omega, by omega, by omega⟩
  · omega
end ZNH
