section ZNE
variable {N : Nat} {S X : zSt} {st cells shifts held past pf : Nat → Int32} {size code pn : Int32} {m v e k i j nx : Nat} {hs : List zSt} {K : zKT} {M : zMT}
abbrev nP (p s d : Int) : Prop := (0 ≤ p ∧ p ≤ 62) ∧ (0 ≤ s ∧ s ≤ 3) ∧ 0 ≤ d ∧ d ≤ 9
def tdI (y : Int32) : Int := if y = 0 then 0 else 1
theorem tdI_b (y : Int32) : 0 ≤ tdI y ∧ tdI y ≤ 1 := by
  unfold tdI
  split <;> omega
theorem okE_note {p s d : Int} (h : nP p s d) (y : Int32) : okE (p, s, d, tdI y) := Or.inr ⟨h.1.1, h.1.2, h.2.1.1, h.2.1.2, h.2.2.1, h.2.2.2, (tdI_b y).1, (tdI_b y).2⟩
theorem ofNote_y (a b c y : Int32) : f_X0_ofNote N a b c y = f_X0_ofNote N a b c (iI (tdI y)) := by
  unfold tdI f_X0_ofNote
  by_cases q : y = 0
  · rw [if_pos q, if_pos q]
    rfl
  · rw [if_neg q, if_neg q]
    rfl
theorem C_addNote {n0 n1 n2 n3 : Int32} {c0 c1 c2 c3 : Nat → Int32} (h : okS S) (hR : RC S (iI S.1) cells) (hnx : nx < 4) (hl : hs.length ≤ 4) (hG : zRg hs nx (zSl n0 n1 n2 n3 c0 c1 c2 c3)) {x y p s d : Int} {y6 : Int32} (hx : 0 ≤ x ∧ x < S.1 ∧ 0 ≤ y ∧ y < 2) (hd : nP p s d) (hc : gC S x y < 24) (hN : 4000 ≤ N) : zT (f_X9_addNote N (iI nx) (iI hs.length) pn (iI S.1) n0 n1 n2 n3 pf cells held shifts c0 c1 c2 c3 (iI x) (iI y) (iI p) (iI s) (iI d) y6) (fun s_ => ∃ a, s_ = .inl a ∧ a.1 = iI ((S.2.2.1 x.toNat y.toNat + 1 : Nat) : Int) ∧ edA (setAd S x.toNat y.toNat (p, s, d, tdI y6)) ((S :: hs).take 4) ((nx + 1) % 4) a) := by
  have h1 := h.1.1
  obtain ⟨m, rfl⟩ := Int.eq_ofNat_of_zero_le hx.1
  obtain ⟨v, rfl⟩ := Int.eq_ofNat_of_zero_le hx.2.2.1
  have hm : m < S.1 := by omega
  have hv : v < 2 := by omega
  simp only [Int.toNat_natCast]
  have hC : S.2.2.1 m v < 24 := by
    rw [gC_at hm hv] at hc
    omega
  have hx' : okS (setAd S m v (p, s, d, tdI y6)) := okS_setAd h hm hv hC (okE_note hd y6)
  have hR' := RC_setAd (x := (p, s, d, tdI y6)) h.1 hR hm hv hC
  have hr1 : f_X9_requireRange N (iI p) 0 62 = if 0 ≤ p ∧ p ≤ 62 then some (.inl ()) else some (.inr 1) := C_rqR (a := 0) (b := 62) (by unfold zInt; omega) (by unfold zInt; omega) (by unfold zInt; omega)
  have hr2 : f_X9_requireRange N (iI s) 0 3 = if 0 ≤ s ∧ s ≤ 3 then some (.inl ()) else some (.inr 1) := C_rqR (a := 0) (b := 3) (by unfold zInt; omega) (by unfold zInt; omega) (by unfold zInt; omega)
  have hr : f_X9_requireRange N (iI d) 0 9 = if 0 ≤ d ∧ d ≤ 9 then some (.inl ()) else some (.inr 1) := C_rqR (a := 0) (b := 9) (by unfold zInt; omega) (by unfold zInt; omega) (by unfold zInt; omega)
  unfold f_X9_addNote
  rw [zSub_rq (C_rqV h.1 (zIn_ m (by omega)) (zIn_ v (by omega))), if_pos hx, zSub_rq hr1, if_pos hd.1, zSub_rq hr2, if_pos hd.2.1, zSub_rq hr, if_pos hd.2.2, zSub_rq (C_rqRoom h.1 hR (zIn_ m (by omega)) (zIn_ v (by omega))), if_pos hc]
  refine zT_bind (zT_mono (X1_push h.1 hR hnx hl hG) ?_)
  rintro ⟨r1, r2, r3, r4, r5, r6, r7, r8, r9, r10⟩ ⟨q1, q2, q3⟩
  refine zT_bindE ((ofNote_y _ _ _ _).trans (X0_ofNote (okE_note hd y6) hd.1.1)) (zT_bindE (X4_appendEvent h.1 hR hm hv hC) (zT_bind (zT_mono (X9_settle (S := setAd S m v (p, s, d, tdI y6)) hx' hR' hN) ?_)))
  rintro ⟨u1, u2, u3, u4⟩ ⟨p1, p2, p3⟩
  have ec := X4_count_at (N := N) (S := setAd S m v (p, s, d, tdI y6)) hx'.1 hR' hm hv
  rw [setAd_C] at ec
  exact zT_bindE ec (zT_some ⟨_, rfl, rfl, q1, q2, q3, p1, hR', p2, p3⟩)
theorem M_addNote (h : okS S) (hR : RM S st) (hok : ∀ Y, Y ∈ hs → okS Y) (hl : hs.length ≤ 4) (hP : zPa hs past) {x y p s d : Int} {y6 : Int32} (hx : zInt x) (hy : zInt y) (hp : zInt p) (hsg : zInt s) (hz : zInt d) (hN : 12000 ≤ N) : zT (f_X10_addNote N code (iI hs.length) past st (iI x) (iI y) (iI p) (iI s) (iI d) y6) (fun r => if 0 ≤ x ∧ x < S.1 ∧ 0 ≤ y ∧ y < 2 then (if nP p s d then (if gC S x y < 24 then r.1 = iI ((S.2.2.1 x.toNat y.toNat + 1 : Nat) : Int) ∧ r.2.1 = 0 ∧ r.2.2.1 = iI ((S :: hs).take 4).length ∧ zPa ((S :: hs).take 4) r.2.2.2.1 ∧ RM (setAd S x.toNat y.toNat (p, s, d, tdI y6)) r.2.2.2.2 else r = (0, 3, iI hs.length, past, st)) else r = (0, 2, iI hs.length, past, st)) else r = (0, 1, iI hs.length, past, st)) := by
  have h1 := h.1.1
  have i1 : f_X10_in N (iI p) 0 62 = _ := X10_in (N := N) (a := 0) (b := 62) hp (by unfold zInt; omega) (by unfold zInt; omega)
  have i2 : f_X10_in N (iI s) 0 3 = _ := X10_in (N := N) (a := 0) (b := 3) hsg (by unfold zInt; omega) (by unfold zInt; omega)
  have i3 : f_X10_in N (iI d) 0 9 = _ := X10_in (N := N) (a := 0) (b := 9) hz (by unfold zInt; omega) (by unfold zInt; omega)
  have e2 : Option.bind (f_X10_in N (iI p) 0 62) (fun (r1_ : Int32) => if r1_ = 0 then some 0 else Option.bind (f_X10_in N (iI s) 0 3) (fun (r9_ : Int32) => if r9_ = 0 then some 0 else Option.bind (f_X10_in N (iI d) 0 9) (fun (r10_ : Int32) => if r10_ = 0 then some 0 else some 1))) = some (if nP p s d then (1 : Int32) else 0) := by
    by_cases q1 : 0 ≤ p ∧ p ≤ 62
    · rw [z_be (z_p1 q1 i1), if_neg ne10]
      by_cases q2 : 0 ≤ s ∧ s ≤ 3
      · rw [z_be (z_p1 q2 i2), if_neg ne10]
        by_cases q3 : 0 ≤ d ∧ d ≤ 9
        · rw [z_be (z_p1 q3 i3), if_neg ne10, if_pos ⟨q1, q2, q3⟩]
        · rw [z_be (z_p0 q3 i3), if_pos z00, if_neg (fun x => q3 x.2.2)]
      · rw [z_be (z_p0 q2 i2), if_pos z00, if_neg (fun x => q2 x.2.1)]
    · rw [z_be (z_p0 q1 i1), if_pos z00, if_neg (fun x => q1 x.1)]
  have e6 : (if y6 = 0 then some (0 : Int32) else some 1) = some (iI (tdI y6)) := by
    unfold tdI
    by_cases q : y6 = 0
    · rw [if_pos q, if_pos q]; rfl
    · rw [if_neg q, if_neg q]; rfl
  unfold f_X10_addNote
  suffices hh : ∀ (K : Int32 → Option (Int32 × Int32 × Int32 × (Nat → Int32) × (Nat → Int32))) (Q : (Int32 × Int32 × Int32 × (Nat → Int32) × (Nat → Int32)) → Prop), zT (K (if nP p s d then (1 : Int32) else 0)) Q → zT (Option.bind (f_X10_in N (iI p) 0 62) (fun (r1_ : Int32) => Option.bind (if r1_ = 0 then some 0 else Option.bind (f_X10_in N (iI s) 0 3) (fun (r9_ : Int32) => if r9_ = 0 then some 0 else Option.bind (f_X10_in N (iI d) 0 9) (fun (r10_ : Int32) => if r10_ = 0 then some 0 else some 1))) K)) Q by
    refine hh _ _ ?_
    by_cases q : 0 ≤ x ∧ x < S.1 ∧ 0 ≤ y ∧ y < 2
    · rw [z_be (z_p1 q (X10_isVoice h.1 hR hx hy)), if_neg ne10]
      by_cases q2 : nP p s d
      · obtain ⟨m, rfl⟩ := Int.eq_ofNat_of_zero_le q.1
        obtain ⟨v, rfl⟩ := Int.eq_ofNat_of_zero_le q.2.2.1
        have hm : m < S.1 := by omega
        have hv : v < 2 := by omega
        rw [if_pos q2, if_neg ne10, z_be (X10_full h.1 hR hm hv), z_sb]
        rw [gC_at hm hv]
        by_cases q3 : S.2.2.1 m v < 24
        · rw [if_pos q3, z_be (X10_ref0 code), if_pos (f00 0), z_be e6]
          refine zT_bind (zT_mono (X10_comes h hR hok hl hP hm hv q3 p s d (tdI y6) (okE_note q2 y6) hN) ?_)
          rintro ⟨r1, r2, r3, r4⟩ ⟨p1, p2, p3, p4⟩
          dsimp only at p1 p2 p3 p4
          refine zT_some ?_
          rw [if_pos q, if_pos q2, if_pos (by omega)]
          refine ⟨p1, rfl, p2, p3, ?_⟩
          dsimp only
          rw [p4]
          exact RM_setAd h.1 hR hm hv q3
        · rw [if_neg q3, z_be (X10_ref3 code), if_neg (f10 3)]
          exact zT_some (by rw [if_pos q, if_pos q2, if_neg (by omega)])
      · rw [if_neg q2, if_pos z00, z_sb, z_be (X10_ref2 code), if_neg (f10 2)]
        exact zT_some (by rw [if_pos q, if_neg q2])
    · rw [z_be (z_p0 q (X10_isVoice h.1 hR hx hy)), if_pos z00, z_sb, z_be (X10_ref1 code), if_neg (f10 1)]
      exact zT_some (by rw [if_neg q])
  intro K Q hK
  obtain ⟨r1, hr1, hrr⟩ : ∃ r1, f_X10_in N (iI p) 0 62 = some r1 ∧ (if r1 = 0 then some 0 else Option.bind (f_X10_in N (iI s) 0 3) (fun (r9_ : Int32) => if r9_ = 0 then some 0 else Option.bind (f_X10_in N (iI d) 0 9) (fun (r10_ : Int32) => if r10_ = 0 then some 0 else some 1))) = some (if nP p s d then (1 : Int32) else 0) := by
    rw [i1] at e2
    exact ⟨_, i1, e2⟩
  exact zT_bindE hr1 (zT_bindE hrr hK)
theorem zk_addNote (hN : 20000 ≤ N) (hZ : zZ K M) (y1 : Int32) (y2 : Int32) (y3 : Int32) (y4 : Int32) (y5 : Int32) (y6 : Int32) : zS_addNote N zZ K M y1 y2 y3 y4 y5 y6 := by
  obtain ⟨S, hs, nx, L, T, h0, hk, hO, hC, hT, hH, hF, hX, hP, hS, hR⟩ := hZ
  obtain ⟨a1, rfl, hz1⟩ := iI_all y1
  obtain ⟨a2, rfl, hz2⟩ := iI_all y2
  obtain ⟨a3, rfl, hz3⟩ := iI_all y3
  obtain ⟨a4, rfl, hz4⟩ := iI_all y4
  obtain ⟨a5, rfl, hz5⟩ := iI_all y5
  obtain ⟨u1, u2, u3, u4, u5, u6⟩ := h0
  have e6 := hC.1
  rw [e6] at hC
  unfold zS_addNote
  rw [hk.1, hk.2.1, hP.1, e6]
  have hr1 : f_X9_requireRange N (iI a3) 0 62 = if 0 ≤ a3 ∧ a3 ≤ 62 then some (.inl ()) else some (.inr 1) := C_rqR (a := 0) (b := 62) hz3 (by unfold zInt; omega) (by unfold zInt; omega)
  have hr2 : f_X9_requireRange N (iI a4) 0 3 = if 0 ≤ a4 ∧ a4 ≤ 3 then some (.inl ()) else some (.inr 1) := C_rqR (a := 0) (b := 3) hz4 (by unfold zInt; omega) (by unfold zInt; omega)
  have hr : f_X9_requireRange N (iI a5) 0 9 = if 0 ≤ a5 ∧ a5 ≤ 9 then some (.inl ()) else some (.inr 1) := C_rqR (a := 0) (b := 9) hz5 (by unfold zInt; omega) (by unfold zInt; omega)
  obtain ⟨b, hb, hq⟩ := M_addNote (N := N) (code := M.1) u1 hR u3 u2 hP.2 (y6 := y6) hz1 hz2 hz3 hz4 hz5 (by omega)
  refine ⟨b, hb, ?_⟩
  by_cases q : 0 ≤ a1 ∧ a1 < S.1 ∧ 0 ≤ a2 ∧ a2 < 2
  · rw [if_pos q] at hq
    by_cases q2 : nP a3 a4 a5
    · rw [if_pos q2] at hq
      by_cases q3 : gC S a1 a2 < 24
      · rw [if_pos q3] at hq
        obtain ⟨p1, p2, p3, p4, p5⟩ := hq
        obtain ⟨s, hs1, a, rfl, g0, g1, g2, g3, g4, g5, g6, g7⟩ := C_addNote (N := N) (pn := K.2.2.1) (pf := K.2.2.2.2.2.2.2.2.2.2.2.2.2.2.1) (held := K.2.2.2.2.2.2.2.2.2.2.2.2.2.2.2.2.2.2.1) (shifts := K.2.2.2.2.2.2.2.2.2.2.2.2.2.2.2.2.2.2.2.1) (n0 := K.2.2.2.2.2.2.2.2.2.2.1) (n1 := K.2.2.2.2.2.2.2.2.2.2.2.1) (n2 := K.2.2.2.2.2.2.2.2.2.2.2.2.1) (n3 := K.2.2.2.2.2.2.2.2.2.2.2.2.2.1) (c0 := K.2.2.2.2.2.2.2.2.2.2.2.2.2.2.2.2.2.2.2.2.2.1) (c1 := K.2.2.2.2.2.2.2.2.2.2.2.2.2.2.2.2.2.2.2.2.2.2.1) (c2 := K.2.2.2.2.2.2.2.2.2.2.2.2.2.2.2.2.2.2.2.2.2.2.2.1) (c3 := K.2.2.2.2.2.2.2.2.2.2.2.2.2.2.2.2.2.2.2.2.2.2.2.2.1) (y6 := y6) u1 hC u4 u2 hk.2.2 q q2 q3 (by omega)
        have hok' : okS (setAd S a1.toNat a2.toNat (a3, a4, a5, tdI y6)) := okS_setAd u1 (by omega) (by omega) (by unfold gC at q3; rw [if_pos q] at q3; omega) (okE_note q2 y6)
        exact Or.inl ⟨a, hs1, p2, g0.trans p1.symm, ⟨_, (S :: hs).take 4, (nx + 1) % 4, L, T, ⟨hok', take4_le, take4_ok u1 u3, by omega, u5, u6⟩, ⟨g1, g2, g3⟩, g4, g5, hT, g6, g7, hX, ⟨p3, p4⟩, hS, p5⟩⟩
      · rw [if_neg q3] at hq
        subst hq
        refine Or.inr (Or.inr (Or.inr ⟨?_, rfl, ⟨S, hs, nx, L, T, ⟨u1, u2, u3, u4, u5, u6⟩, hk, hO, ⟨e6, hC.2⟩, hT, hH, hF, hX, ⟨rfl, hP.2⟩, hS, hR⟩⟩))
        unfold f_X9_addNote
        rw [zSub_rq (C_rqV u1.1 hz1 hz2), if_pos q, zSub_rq hr1, if_pos q2.1, zSub_rq hr2, if_pos q2.2.1, zSub_rq hr, if_pos q2.2.2, zSub_rq (C_rqRoom u1.1 hC hz1 hz2), if_neg q3]
    · rw [if_neg q2] at hq
      subst hq
      refine Or.inr (Or.inr (Or.inl ⟨?_, rfl, ⟨S, hs, nx, L, T, ⟨u1, u2, u3, u4, u5, u6⟩, hk, hO, ⟨e6, hC.2⟩, hT, hH, hF, hX, ⟨rfl, hP.2⟩, hS, hR⟩⟩))
      unfold f_X9_addNote
      rw [zSub_rq (C_rqV u1.1 hz1 hz2), if_pos q, zSub_rq hr1]
      by_cases r1 : 0 ≤ a3 ∧ a3 ≤ 62
      · rw [if_pos r1, zSub_rq hr2]
        by_cases r2 : 0 ≤ a4 ∧ a4 ≤ 3
        · rw [if_pos r2, zSub_rq hr, if_neg (fun r3 => q2 ⟨r1, r2, r3⟩)]
        · rw [if_neg r2]
      · rw [if_neg r1]
  · rw [if_neg q] at hq
    subst hq
    refine Or.inr (Or.inl ⟨?_, rfl, ⟨S, hs, nx, L, T, ⟨u1, u2, u3, u4, u5, u6⟩, hk, hO, ⟨e6, hC.2⟩, hT, hH, hF, hX, ⟨rfl, hP.2⟩, hS, hR⟩⟩)
    unfold f_X9_addNote
    rw [zSub_rq (C_rqV u1.1 hz1 hz2), if_neg q]
end ZNE
