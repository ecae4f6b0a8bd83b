section ZND
variable {N : Nat} {S X : zSt} {st cells shifts held past pf : Nat → Int32} {size code pn : Int32} {m v e k i j nx : Nat} {hs : List zSt} {K : zKT} {M : zMT}
theorem okE_rest {d : Int} (hd : 0 ≤ d ∧ d ≤ 9) : okE (-1, 0, d, 0) := Or.inl ⟨rfl, rfl, hd.1, hd.2, rfl⟩
theorem C_addRest {n0 n1 n2 n3 : Int32} {c0 c1 c2 c3 : Nat → Int32} (h : okS S) (hR : RC S (iI S.1) cells) (hnx : nx < 4) (hl : hs.length ≤ 4) (hG : zRg hs nx (zSl n0 n1 n2 n3 c0 c1 c2 c3)) {x y d : Int} (hx : 0 ≤ x ∧ x < S.1 ∧ 0 ≤ y ∧ y < 2) (hd : 0 ≤ d ∧ d ≤ 9) (hc : gC S x y < 24) (hN : 4000 ≤ N) : zT (f_X9_addRest N (iI nx) (iI hs.length) pn (iI S.1) n0 n1 n2 n3 pf cells held shifts c0 c1 c2 c3 (iI x) (iI y) (iI d)) (fun s => ∃ a, s = .inl a ∧ a.1 = iI ((S.2.2.1 x.toNat y.toNat + 1 : Nat) : Int) ∧ edA (setAd S x.toNat y.toNat (-1, 0, d, 0)) ((S :: hs).take 4) ((nx + 1) % 4) a) := by
  have h1 := h.1.1
  obtain ⟨m, rfl⟩ := Int.eq_ofNat_of_zero_le hx.1
  obtain ⟨v, rfl⟩ := Int.eq_ofNat_of_zero_le hx.2.2.1
  have hm : m < S.1 := by omega
  have hv : v < 2 := by omega
  simp only [Int.toNat_natCast]
  have hC : S.2.2.1 m v < 24 := by
    rw [gC_at hm hv] at hc
    omega
  have hx' : okS (setAd S m v (-1, 0, d, 0)) := okS_setAd h hm hv hC (okE_rest hd)
  have hR' := RC_setAd (x := (-1, 0, d, 0)) h.1 hR hm hv hC
  have hr : f_X9_requireRange N (iI d) 0 9 = if 0 ≤ d ∧ d ≤ 9 then some (.inl ()) else some (.inr 1) := C_rqR (a := 0) (b := 9) (by unfold zInt; omega) (by unfold zInt; omega) (by unfold zInt; omega)
  unfold f_X9_addRest
  rw [zSub_rq (C_rqV h.1 (zIn_ m (by omega)) (zIn_ v (by omega))), if_pos hx, zSub_rq hr, if_pos hd, zSub_rq (C_rqRoom h.1 hR (zIn_ m (by omega)) (zIn_ v (by omega))), if_pos hc]
  refine zT_bind (zT_mono (X1_push h.1 hR hnx hl hG) ?_)
  rintro ⟨r1, r2, r3, r4, r5, r6, r7, r8, r9, r10⟩ ⟨q1, q2, q3⟩
  refine zT_bindE (X0_ofRest hd.1 hd.2) (zT_bindE (X4_appendEvent h.1 hR hm hv hC) (zT_bind (zT_mono (X9_settle (S := setAd S m v (-1, 0, d, 0)) hx' hR' hN) ?_)))
  rintro ⟨u1, u2, u3, u4⟩ ⟨p1, p2, p3⟩
  have ec := X4_count_at (N := N) (S := setAd S m v (-1, 0, d, 0)) hx'.1 hR' hm hv
  rw [setAd_C] at ec
  exact zT_bindE ec (zT_some ⟨_, rfl, rfl, q1, q2, q3, p1, hR', p2, p3⟩)
theorem M_addRest (h : okS S) (hR : RM S st) (hok : ∀ Y, Y ∈ hs → okS Y) (hl : hs.length ≤ 4) (hP : zPa hs past) {x y d : Int} (hx : zInt x) (hy : zInt y) (hz : zInt d) (hN : 12000 ≤ N) : zT (f_X10_addRest N code (iI hs.length) past st (iI x) (iI y) (iI d)) (fun r => if 0 ≤ x ∧ x < S.1 ∧ 0 ≤ y ∧ y < 2 then (if 0 ≤ d ∧ d ≤ 9 then (if gC S x y < 24 then r.1 = iI ((S.2.2.1 x.toNat y.toNat + 1 : Nat) : Int) ∧ r.2.1 = 0 ∧ r.2.2.1 = iI ((S :: hs).take 4).length ∧ zPa ((S :: hs).take 4) r.2.2.2.1 ∧ RM (setAd S x.toNat y.toNat (-1, 0, d, 0)) r.2.2.2.2 else r = (0, 3, iI hs.length, past, st)) else r = (0, 2, iI hs.length, past, st)) else r = (0, 1, iI hs.length, past, st)) := by
  have h1 := h.1.1
  have hi := X10_in (N := N) (a := 0) (b := 9) hz (by unfold zInt; omega) (by unfold zInt; omega)
  unfold f_X10_addRest
  by_cases q : 0 ≤ x ∧ x < S.1 ∧ 0 ≤ y ∧ y < 2
  · rw [z_be (z_p1 q (X10_isVoice h.1 hR hx hy)), if_neg ne10]
    by_cases q2 : 0 ≤ d ∧ d ≤ 9
    · have e2 : f_X10_in N (iI d) 0 9 = some 1 := z_p1 q2 hi
      obtain ⟨m, rfl⟩ := Int.eq_ofNat_of_zero_le q.1
      obtain ⟨v, rfl⟩ := Int.eq_ofNat_of_zero_le q.2.2.1
      have hm : m < S.1 := by omega
      have hv : v < 2 := by omega
      rw [z_be e2, if_neg ne10, z_be (X10_full h.1 hR hm hv), z_sb]
      rw [gC_at hm hv]
      by_cases q3 : S.2.2.1 m v < 24
      · rw [if_pos q3, z_be (X10_ref0 code), if_pos (f00 0)]
        refine zT_bind (zT_mono (X10_comes h hR hok hl hP hm hv q3 (-1) 0 d 0 (okE_rest q2) hN) ?_)
        rintro ⟨r1, r2, r3, r4⟩ ⟨p1, p2, p3, p4⟩
        dsimp only at p1 p2 p3 p4
        refine zT_some ?_
        rw [if_pos q, if_pos q2, if_pos (by omega)]
        refine ⟨p1, rfl, p2, p3, ?_⟩
        dsimp only
        rw [p4]
        exact RM_setAd h.1 hR hm hv q3
      · rw [if_neg q3, z_be (X10_ref3 code), if_neg (f10 3)]
        exact zT_some (by rw [if_pos q, if_pos q2, if_neg (by omega)])
    · have e2 : f_X10_in N (iI d) 0 9 = some 0 := z_p0 q2 hi
      rw [z_be e2, if_pos z00, z_sb, z_be (X10_ref2 code), if_neg (f10 2)]
      exact zT_some (by rw [if_pos q, if_neg q2])
  · rw [z_be (z_p0 q (X10_isVoice h.1 hR hx hy)), if_pos z00, z_sb, z_be (X10_ref1 code), if_neg (f10 1)]
    exact zT_some (by rw [if_neg q])
theorem zk_addRest (hN : 20000 ≤ N) (hZ : zZ K M) (y1 : Int32) (y2 : Int32) (y3 : Int32) : zS_addRest N zZ K M y1 y2 y3 := by
  obtain ⟨S, hs, nx, L, T, h0, hk, hO, hC, hT, hH, hF, hX, hP, hS, hR⟩ := hZ
  obtain ⟨a1, rfl, hz1⟩ := iI_all y1
  obtain ⟨a2, rfl, hz2⟩ := iI_all y2
  obtain ⟨a3, rfl, hz3⟩ := iI_all y3
  obtain ⟨u1, u2, u3, u4, u5, u6⟩ := h0
  have e6 := hC.1
  rw [e6] at hC
  unfold zS_addRest
  rw [hk.1, hk.2.1, hP.1, e6]
  have hr : f_X9_requireRange N (iI a3) 0 9 = if 0 ≤ a3 ∧ a3 ≤ 9 then some (.inl ()) else some (.inr 1) := C_rqR (a := 0) (b := 9) hz3 (by unfold zInt; omega) (by unfold zInt; omega)
  obtain ⟨b, hb, hq⟩ := M_addRest (N := N) (code := M.1) u1 hR u3 u2 hP.2 hz1 hz2 hz3 (by omega)
  refine ⟨b, hb, ?_⟩
  by_cases q : 0 ≤ a1 ∧ a1 < S.1 ∧ 0 ≤ a2 ∧ a2 < 2
  · rw [if_pos q] at hq
    by_cases q2 : 0 ≤ a3 ∧ a3 ≤ 9
    · rw [if_pos q2] at hq
      by_cases q3 : gC S a1 a2 < 24
      · rw [if_pos q3] at hq
        obtain ⟨p1, p2, p3, p4, p5⟩ := hq
        obtain ⟨s, hs1, a, rfl, g0, g1, g2, g3, g4, g5, g6, g7⟩ := C_addRest (N := N) (pn := K.2.2.1) (pf := K.2.2.2.2.2.2.2.2.2.2.2.2.2.2.1) (held := K.2.2.2.2.2.2.2.2.2.2.2.2.2.2.2.2.2.2.1) (shifts := K.2.2.2.2.2.2.2.2.2.2.2.2.2.2.2.2.2.2.2.1) (n0 := K.2.2.2.2.2.2.2.2.2.2.1) (n1 := K.2.2.2.2.2.2.2.2.2.2.2.1) (n2 := K.2.2.2.2.2.2.2.2.2.2.2.2.1) (n3 := K.2.2.2.2.2.2.2.2.2.2.2.2.2.1) (c0 := K.2.2.2.2.2.2.2.2.2.2.2.2.2.2.2.2.2.2.2.2.2.1) (c1 := K.2.2.2.2.2.2.2.2.2.2.2.2.2.2.2.2.2.2.2.2.2.2.1) (c2 := K.2.2.2.2.2.2.2.2.2.2.2.2.2.2.2.2.2.2.2.2.2.2.2.1) (c3 := K.2.2.2.2.2.2.2.2.2.2.2.2.2.2.2.2.2.2.2.2.2.2.2.2.1) u1 hC u4 u2 hk.2.2 q q2 q3 (by omega)
        have hok' : okS (setAd S a1.toNat a2.toNat (-1, 0, a3, 0)) := okS_setAd u1 (by omega) (by omega) (by unfold gC at q3; rw [if_pos q] at q3; omega) (okE_rest q2)
        exact Or.inl ⟨a, hs1, p2, g0.trans p1.symm, ⟨_, (S :: hs).take 4, (nx + 1) % 4, L, T, ⟨hok', take4_le, take4_ok u1 u3, by omega, u5, u6⟩, ⟨g1, g2, g3⟩, g4, g5, hT, g6, g7, hX, ⟨p3, p4⟩, hS, p5⟩⟩
      · rw [if_neg q3] at hq
        subst hq
        refine Or.inr (Or.inr (Or.inr ⟨?_, rfl, ⟨S, hs, nx, L, T, ⟨u1, u2, u3, u4, u5, u6⟩, hk, hO, ⟨e6, hC.2⟩, hT, hH, hF, hX, ⟨rfl, hP.2⟩, hS, hR⟩⟩))
        unfold f_X9_addRest
        rw [zSub_rq (C_rqV u1.1 hz1 hz2), if_pos q, zSub_rq hr, if_pos q2, zSub_rq (C_rqRoom u1.1 hC hz1 hz2), if_neg q3]
    · rw [if_neg q2] at hq
      subst hq
      refine Or.inr (Or.inr (Or.inl ⟨?_, rfl, ⟨S, hs, nx, L, T, ⟨u1, u2, u3, u4, u5, u6⟩, hk, hO, ⟨e6, hC.2⟩, hT, hH, hF, hX, ⟨rfl, hP.2⟩, hS, hR⟩⟩))
      unfold f_X9_addRest
      rw [zSub_rq (C_rqV u1.1 hz1 hz2), if_pos q, zSub_rq hr, if_neg q2]
  · rw [if_neg q] at hq
    subst hq
    refine Or.inr (Or.inl ⟨?_, rfl, ⟨S, hs, nx, L, T, ⟨u1, u2, u3, u4, u5, u6⟩, hk, hO, ⟨e6, hC.2⟩, hT, hH, hF, hX, ⟨rfl, hP.2⟩, hS, hR⟩⟩)
    unfold f_X9_addRest
    rw [zSub_rq (C_rqV u1.1 hz1 hz2), if_neg q]
end ZND
