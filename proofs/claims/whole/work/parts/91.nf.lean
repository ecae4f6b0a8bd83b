section ZNG
variable {N : Nat} {S X : zSt} {st cells shifts held past pf : Nat → Int32} {size code pn : Int32} {m v e k i j nx : Nat} {hs : List zSt} {K : zKT} {M : zMT} {x : zEv}
/-- the reference's row with an event less -/
def rmM (S : zSt) (m v e : Nat) (st : Nat → Int32) (k : Nat) : Int32 := if 201 * m + 10 + 96 * v + 4 * e ≤ k ∧ k < 201 * m + 10 + 96 * v + 4 * (S.2.2.1 m v - 1) then st (k + 4) else upd st (201 * m + 8 + v) (iI ((S.2.2.1 m v - 1 : Nat) : Int)) k
theorem far201 {m m' o a : Nat} (ho : 0 < o ∧ o < 10) (h1 : 10 ≤ a) (h2 : a < 202) : 201 * m' + o ≠ 201 * m + a := by omega
theorem notin201 {m m' o lo hi : Nat} (ho : 0 < o ∧ o < 10) (h1 : 201 * m + 10 ≤ lo) (h2 : hi ≤ 201 * m + 202) : ¬ (lo ≤ 201 * m' + o ∧ 201 * m' + o < hi) := by
  intro q
  have := far201 (m := m) (m' := m') (a := 201 * m' + o - 201 * m) ho (by omega) (by omega)
  omega
theorem rmM_off (h1 : k ≠ 201 * m + 8 + v) (h2 : ¬ (201 * m + 10 + 96 * v + 4 * e ≤ k ∧ k < 201 * m + 10 + 96 * v + 4 * (S.2.2.1 m v - 1))) : rmM S m v e st k = st k := by
  unfold rmM
  rw [if_neg h2, upd_ne _ _ h1]
theorem RM_setRm (h : okC S) (hR : RM S st) (hm : m < S.1) (hv : v < 2) (he : e < S.2.2.1 m v) : RM (setRm S m v e) (rmM S m v e st) := by
  have hC := okC_C h hm hv
  refine ⟨?_, fun m' hm' => ⟨fun k' hk' => ?_, fun v' hv' => ⟨?_, fun e' he' => ?_⟩⟩⟩
  · rw [rmM_off (by omega) (by omega)]
    exact hR.1
  · have f := notin201 (m := m) (m' := m') (o := 1 + k') (lo := 201 * m + 10 + 96 * v + 4 * e) (hi := 201 * m + 10 + 96 * v + 4 * (S.2.2.1 m v - 1)) (by omega) (by omega) (by omega)
    rw [rmM_off (by omega) (by omega)]
    exact (hR.2 m' hm').1 k' hk'
  · have f := notin201 (m := m) (m' := m') (o := 8 + v') (lo := 201 * m + 10 + 96 * v + 4 * e) (hi := 201 * m + 10 + 96 * v + 4 * (S.2.2.1 m v - 1)) (by omega) (by omega) (by omega)
    by_cases q : m' = m ∧ v' = v
    · obtain ⟨rfl, rfl⟩ := q
      unfold rmM
      rw [if_neg (by omega), upd_eq _ _ rfl, setRm_C]
    · rw [rmM_off (by omega) (by omega), setRm_Cne q]
      exact ((hR.2 m' hm').2 v' hv').1
  · have hm2 : m' < S.1 := hm'
    have hC' := okC_C h hm2 hv'
    by_cases q : m' = m ∧ v' = v
    · obtain ⟨rfl, rfl⟩ := q
      rw [setRm_C] at he'
      by_cases q2 : e ≤ e'
      · have g : ∀ c, c < 4 → rmM S m' v' e st (201 * m' + 10 + 96 * v' + 4 * e' + c) = st (201 * m' + 10 + 96 * v' + 4 * (e' + 1) + c) := by
          intro c hc
          unfold rmM
          rw [if_pos (by omega)]
          congr 1 <;> omega
        have g0 := g 0 (by omega)
        rw [Nat.add_zero] at g0
        rw [setRm_E q2, g0, g 1 (by omega), g 2 (by omega), g 3 (by omega)]
        exact ((hR.2 m' hm').2 v' hv').2 (e' + 1) (by omega)
      · have g : ∀ c, c < 4 → rmM S m' v' e st (201 * m' + 10 + 96 * v' + 4 * e' + c) = st (201 * m' + 10 + 96 * v' + 4 * e' + c) := by
          intro c hc
          exact rmM_off (by omega) (by omega)
        have g0 := g 0 (by omega)
        rw [Nat.add_zero] at g0
        rw [setRm_Ene (fun y => q2 y.2.2), g0, g 1 (by omega), g 2 (by omega), g 3 (by omega)]
        exact ((hR.2 m' hm').2 v' hv').2 e' (by omega)
    · rw [setRm_Cne q] at he'
      have he24 : e' < 24 := by omega
      have g : ∀ c, c < 4 → rmM S m v e st (201 * m' + 10 + 96 * v' + 4 * e' + c) = st (201 * m' + 10 + 96 * v' + 4 * e' + c) := by
        intro c hc
        have f1 := far201 (m := m') (m' := m) (o := 8 + v) (a := 10 + 96 * v' + 4 * e' + c) (by omega) (by omega) (by omega)
        refine rmM_off (by omega) (fun y => ?_)
        obtain ⟨t, ht⟩ : ∃ t, 201 * m' + 10 + 96 * v' + 4 * e' + c = 201 * m + 10 + 96 * v + t := ⟨201 * m' + 10 + 96 * v' + 4 * e' + c - (201 * m + 10 + 96 * v), by omega⟩
        rw [ht] at y
        have ht2 : t < 96 := by omega
        have hd : t = 4 * (t / 4) + t % 4 := by omega
        have hd1 : t / 4 < 24 := by omega
        have hd2 : t % 4 < 4 := by omega
        generalize t / 4 = a at hd hd1
        generalize t % 4 = b at hd hd2
        have := cell_inj (m := m) (m' := m') hv hv' hd1 he24 hc hd2 (by omega)
        exact q ⟨this.1, this.2.1⟩
      have g0 := g 0 (by omega)
      rw [Nat.add_zero] at g0
      rw [setRm_Ene (fun y => q ⟨y.1, y.2.1⟩), g0, g 1 (by omega), g 2 (by omega), g 3 (by omega)]
      exact ((hR.2 m' hm').2 v' hv').2 e' he'
theorem X10_rmE65 (h : okC S) (hm : m < S.1) (hv : v < 2) (he : e < S.2.2.1 m v) (hN : 12000 ≤ N) : zT (zLoop (f_X10_removeEvent_B65 N (iI m) (iI v) (iI ((S.2.2.1 m v - 1 : Nat) : Int))) N (iI (zCl m v e), upd st (201 * m + 8 + v) (iI ((S.2.2.1 m v - 1 : Nat) : Int)))) (fun r => r = rmM S m v e st) := by
  have h1 := h.1
  have hC := okC_C h hm hv
  generalize hst : upd st (201 * m + 8 + v) (iI ((S.2.2.1 m v - 1 : Nat) : Int)) = st1
  have hst1 : ∀ k, k ≠ 201 * m + 8 + v → st1 k = st k := fun k hk => by rw [← hst, upd_ne _ _ hk]
  refine zT_loop (fun n s => ∃ j : Nat, 201 * m + 10 + 96 * v + 4 * e ≤ j ∧ j ≤ 201 * m + 10 + 96 * v + 4 * (S.2.2.1 m v - 1) ∧ n = 201 * m + 10 + 96 * v + 4 * (S.2.2.1 m v - 1) - j ∧ s.1 = iI j ∧ ∀ k, s.2 k = if 201 * m + 10 + 96 * v + 4 * e ≤ k ∧ k < j then st (k + 4) else st1 k) ?_ N (4 * (S.2.2.1 m v - 1) - 4 * e) _ (by omega) ⟨201 * m + 10 + 96 * v + 4 * e, by omega, by omega, by omega, ?_, fun k => (by rw [if_neg (by omega)])⟩
  · rintro n ⟨s1, p⟩ c ⟨j, hj0, hj, rfl, q1, hp⟩ ih
    dsimp only at q1 hp
    subst q1
    unfold f_X10_removeEvent_B65
    dsimp only
    refine zT_bindE X10_cell ?_
    have ecl : zCl m v (S.2.2.1 m v - 1) = ((201 * m + 10 + 96 * v + 4 * (S.2.2.1 m v - 1) : Nat) : Int) := by unfold zCl; omega
    rw [ecl]
    refine zT_ite (fun q => ?_) (fun q => ?_)
    · rw [iI_lt (by omega) (by omega) (by omega) (by omega)] at q
      rw [iL4, iI_add, zAldI (by omega) (by omega) (by omega)]
      refine zT_bindE rfl ?_
      rw [zAstI (by omega) (by omega) (by omega)]
      refine zT_bindE rfl (zT_bindE rfl (ih (201 * m + 10 + 96 * v + 4 * (S.2.2.1 m v - 1) - (j + 1)) _ (by omega) ⟨j + 1, by omega, by omega, rfl, iIp1 _, fun k => ?_⟩))
      dsimp only
      rw [upd_at, Int.toNat_natCast, show ((j : Int) + 4).toNat = j + 4 by omega, hp, hp, if_neg (show ¬ (201 * m + 10 + 96 * v + 4 * e ≤ j + 4 ∧ j + 4 < j) by omega), hst1 (j + 4) (by omega)]
      by_cases q1 : k = j
      · rw [if_pos q1, if_pos (by omega), q1]
      · rw [if_neg q1]
        by_cases q2 : 201 * m + 10 + 96 * v + 4 * e ≤ k ∧ k < j
        · rw [if_pos q2, if_pos (by omega)]
        · rw [if_neg q2, if_neg (by omega)]
    · rw [iI_lt (by omega) (by omega) (by omega) (by omega)] at q
      obtain rfl : j = 201 * m + 10 + 96 * v + 4 * (S.2.2.1 m v - 1) := by omega
      refine zT_some (funext (fun k => ?_))
      rw [hp]
      unfold rmM
      rw [hst]
  · dsimp only
    unfold zCl
    congr 1 <;> omega
end ZNG
section ZNH
variable {N : Nat} {S X : zSt} {st cells shifts held past pf : Nat → Int32} {size code pn : Int32} {m v e k i j nx : Nat} {hs : List zSt} {K : zKT} {M : zMT} {x : zEv}
theorem C_removeEvent {n0 n1 n2 n3 : Int32} {c0 c1 c2 c3 : Nat → Int32} (h : okS S) (hR : RC S (iI S.1) cells) (hnx : nx < 4) (hl : hs.length ≤ 4) (hG : zRg hs nx (zSl n0 n1 n2 n3 c0 c1 c2 c3)) (hm : m < S.1) (hv : v < 2) (he : e < S.2.2.1 m v) (hN : 4000 ≤ N) : zT (f_X9_removeEvent N (iI nx) (iI hs.length) pn (iI S.1) n0 n1 n2 n3 pf cells held shifts c0 c1 c2 c3 (iI m) (iI v) (iI e)) (fun s => ∃ a, s = .inl a ∧ a.1 = iI ((S.2.2.1 m v - 1 : Nat) : Int) ∧ edA (setRm S m v e) ((S :: hs).take 4) ((nx + 1) % 4) a) := by
  have h1 := h.1.1
  have hC := okC_C h.1 hm hv
  have hx' : okS (setRm S m v e) := okS_setRm h hm hv he
  have hR' := RC_setRm h.1 hR hm hv he
  have hg : 0 ≤ (e : Int) ∧ (e : Int) < gC S m v := by rw [gC_at hm hv]; omega
  unfold f_X9_removeEvent
  rw [zSub_rq (C_rqE h.1 hR (zIn_ m (by omega)) (zIn_ v (by omega)) (zIn_ e (by omega))), if_pos hg]
  refine zT_bind (zT_mono (X1_push h.1 hR hnx hl hG) ?_)
  rintro ⟨r1, r2, r3, r4, r5, r6, r7, r8, r9, r10⟩ ⟨q1, q2, q3⟩
  refine zT_bindE (X4_dropEvent h.1 hR hm hv he) (zT_bind (zT_mono (X9_settle (S := setRm S m v e) hx' hR' hN) ?_))
  rintro ⟨u1, u2, u3, u4⟩ ⟨p1, p2, p3⟩
  have ec := X4_count_at (N := N) (S := setRm S m v e) hx'.1 hR' hm hv
  rw [setRm_C] at ec
  exact zT_bindE ec (zT_some ⟨_, rfl, rfl, q1, q2, q3, p1, hR', p2, p3⟩)
theorem M_removeEvent (h : okS S) (hR : RM S st) (hok : ∀ Y, Y ∈ hs → okS Y) (hl : hs.length ≤ 4) (hP : zPa hs past) (hm : m < S.1) (hv : v < 2) (he : e < S.2.2.1 m v) (hN : 12000 ≤ N) : zT (f_X10_removeEvent N code (iI hs.length) past st (iI m) (iI v) (iI e)) (fun r => r.1 = iI ((S.2.2.1 m v - 1 : Nat) : Int) ∧ r.2.1 = 0 ∧ r.2.2.1 = iI ((S :: hs).take 4).length ∧ zPa ((S :: hs).take 4) r.2.2.2.1 ∧ RM (setRm S m v e) r.2.2.2.2) := by
  have h1 := h.1.1
  have hC := okC_C h.1 hm hv
  have hg : 0 ≤ (e : Int) ∧ (e : Int) < gC S m v := by rw [gC_at hm hv]; omega
  have eb : ((1 + 201 * iI (m : Int)) + 7) + iI (v : Int) = iI ((201 * m + 8 + v : Nat) : Int) := by
    rw [iL201, iL1, iL7, iI_mul, iI_add, iI_add, iI_add]
    congr 1
    omega
  unfold f_X10_removeEvent
  rw [z_be (z_p1 hg (X10_isEvent h.1 hR (zIn_ m (by omega)) (zIn_ v (by omega)) (zIn_ e (by omega)))), if_neg ne10, z_sb, z_be (X10_ref0 code), if_pos (f00 0)]
  refine zT_bind (zT_mono (X10_saves h hR hok hl hP hN) ?_)
  rintro ⟨r1, r2⟩ ⟨p1, p2⟩
  dsimp only at p1 p2
  refine zT_bindE (show f_X10_base N (iI m) = some (1 + 201 * iI m) from rfl) (zT_bindE rfl ?_)
  rw [eb, zAldI (by omega) (by omega) (by omega), Int.toNat_natCast, ((hR.2 m hm).2 v hv).1]
  refine zT_bindE rfl ?_
  rw [zAstI (by omega) (by omega) (by omega), Int.toNat_natCast, iIs1, show (S.2.2.1 m v : Int) - 1 = ((S.2.2.1 m v - 1 : Nat) : Int) by omega]
  refine zT_bindE rfl ?_
  have eo : f_X10_of N (upd st (201 * m + 8 + v) (iI ((S.2.2.1 m v - 1 : Nat) : Int))) (iI m) (7 + iI v) = some (iI ((S.2.2.1 m v - 1 : Nat) : Int)) := by
    unfold f_X10_of
    rw [iL1, iL201, iL7, iI_mul, iI_add, iI_add, iI_add, zAldI (by omega) (by omega) (by omega), z_sb, upd_eq _ _ (by omega)]
  refine zT_bindE eo (zT_bindE X10_cell (zT_bind (zT_mono (X10_rmE65 h.1 hm hv he hN) ?_)))
  rintro r rfl
  exact zT_some ⟨rfl, rfl, p1, p2, RM_setRm h.1 hR hm hv he⟩
theorem gC_in (h : okC S) {x y z : Int} (hz : 0 ≤ z ∧ z < gC S x y) : ∃ m v e : Nat, x = m ∧ y = v ∧ z = e ∧ m < S.1 ∧ v < 2 ∧ e < S.2.2.1 m v := by
  unfold gC at hz
  split at hz
  · next q =>
    obtain ⟨m, rfl⟩ := Int.eq_ofNat_of_zero_le q.1
    obtain ⟨v, rfl⟩ := Int.eq_ofNat_of_zero_le q.2.2.1
    obtain ⟨e, rfl⟩ := Int.eq_ofNat_of_zero_le hz.1
    simp only [Int.toNat_natCast] at hz
    exact ⟨m, v, e, rfl, rfl, rfl, by omega, by omega, by omega⟩
  · omega
theorem zk_removeEvent (hN : 20000 ≤ N) (hZ : zZ K M) (y1 : Int32) (y2 : Int32) (y3 : Int32) : zS_removeEvent N zZ K M y1 y2 y3 := by
  obtain ⟨S, hs, nx, L, T, h0, hk, hO, hC, hT, hH, hF, hX, hP, hS, hR⟩ := hZ
  obtain ⟨a1, rfl, hz1⟩ := iI_all y1
  obtain ⟨a2, rfl, hz2⟩ := iI_all y2
  obtain ⟨a3, rfl, hz3⟩ := iI_all y3
  obtain ⟨u1, u2, u3, u4, u5, u6⟩ := h0
  have e6 := hC.1
  rw [e6] at hC
  unfold zS_removeEvent
  rw [hk.1, hk.2.1, hP.1, e6]
  by_cases q : 0 ≤ a3 ∧ a3 < gC S a1 a2
  · obtain ⟨m, v, e, rfl, rfl, rfl, hm, hv, he⟩ := gC_in u1.1 q
    obtain ⟨b, hb, p1, p2, p3, p4, p5⟩ := M_removeEvent (N := N) (code := M.1) u1 hR u3 u2 hP.2 hm hv he (by omega)
    obtain ⟨s, hs1, a, rfl, g0, g1, g2, g3, g4, g5, g6, g7⟩ := C_removeEvent (N := N) (pn := K.2.2.1) (pf := K.2.2.2.2.2.2.2.2.2.2.2.2.2.2.1) (held := K.2.2.2.2.2.2.2.2.2.2.2.2.2.2.2.2.2.2.1) (shifts := K.2.2.2.2.2.2.2.2.2.2.2.2.2.2.2.2.2.2.2.1) (n0 := K.2.2.2.2.2.2.2.2.2.2.1) (n1 := K.2.2.2.2.2.2.2.2.2.2.2.1) (n2 := K.2.2.2.2.2.2.2.2.2.2.2.2.1) (n3 := K.2.2.2.2.2.2.2.2.2.2.2.2.2.1) (c0 := K.2.2.2.2.2.2.2.2.2.2.2.2.2.2.2.2.2.2.2.2.2.1) (c1 := K.2.2.2.2.2.2.2.2.2.2.2.2.2.2.2.2.2.2.2.2.2.2.1) (c2 := K.2.2.2.2.2.2.2.2.2.2.2.2.2.2.2.2.2.2.2.2.2.2.2.1) (c3 := K.2.2.2.2.2.2.2.2.2.2.2.2.2.2.2.2.2.2.2.2.2.2.2.2.1) u1 hC u4 u2 hk.2.2 hm hv he (by omega)
    exact ⟨b, hb, Or.inl ⟨a, hs1, p2, g0.trans p1.symm, ⟨_, (S :: hs).take 4, (nx + 1) % 4, L, T, ⟨okS_setRm u1 hm hv he, take4_le, take4_ok u1 u3, by omega, u5, u6⟩, ⟨g1, g2, g3⟩, g4, g5, hT, g6, g7, hX, ⟨p3, p4⟩, hS, p5⟩⟩⟩
  · refine ⟨(0, 1, iI hs.length, M.2.2.2.2.2.2.2.2.2.2.2.2.2.2.1, M.2.2.2.2.2.2.2.2.2.2.2.2.2.2.2.2.2.2.1), ?_, Or.inr ⟨?_, rfl, ⟨S, hs, nx, L, T, ⟨u1, u2, u3, u4, u5, u6⟩, hk, hO, ⟨e6, hC.2⟩, hT, hH, hF, hX, ⟨rfl, hP.2⟩, hS, hR⟩⟩⟩
    · unfold f_X10_removeEvent
      rw [z_be (z_p0 q (X10_isEvent u1.1 hR hz1 hz2 hz3)), if_pos z00, z_sb, z_be (X10_ref1 _), if_neg (f10 1)]
    · unfold f_X9_removeEvent
      rw [zSub_rq (C_rqE u1.1 hC hz1 hz2 hz3), if_neg q]
end ZNH
