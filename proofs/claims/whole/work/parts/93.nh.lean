section ZNJ
variable {N : Nat} {S X : zSt} {st cells shifts held past pf : Nat → Int32} {size code pn : Int32} {m v e k i j nx : Nat} {hs : List zSt} {K : zKT} {M : zMT} {x : zEv}
/-- the reference's row with a measure more -/
def nwM (S : zSt) (st : Nat → Int32) (k : Nat) : Int32 := if k = 0 then iI ((S.1 + 1 : Nat) : Int) else if 201 * S.1 + 1 ≤ k ∧ k < 201 * S.1 + 202 then (if k < 201 * S.1 + 5 then iI (dfV S (k - (201 * S.1 + 1))) else 0) else st k
theorem RM_nwS (h : okC S) (hR : RM S st) : RM (nwS S) (nwM S st) := by
  refine ⟨if_pos rfl, fun m' hm' => ?_⟩
  have hm2 : m' < S.1 + 1 := hm'
  by_cases q : m' = S.1
  · subst q
    refine ⟨fun k' hk' => ?_, fun v' hv' => ⟨?_, fun e' he' => ?_⟩⟩
    · rw [nwS_V, if_pos rfl]
      unfold nwM
      rw [if_neg (by omega), if_pos (by omega)]
      by_cases q2 : k' < 4
      · rw [if_pos q2, if_pos (by omega), show 201 * S.1 + 1 + k' - (201 * S.1 + 1) = k' by omega]
      · rw [if_neg q2, if_neg (by omega)]
        rfl
    · rw [nwS_C, if_pos rfl]
      unfold nwM
      rw [if_neg (by omega), if_pos (by omega), if_neg (by omega)]
      rfl
    · rw [nwS_C, if_pos rfl] at he'
      omega
  · have hm3 : m' < S.1 := by omega
    have eo : ∀ k, k ≠ 0 → k < 201 * S.1 + 1 → nwM S st k = st k := fun k h0 h1 => by
      unfold nwM
      rw [if_neg h0, if_neg (by omega)]
    refine ⟨fun k' hk' => ?_, fun v' hv' => ⟨?_, fun e' he' => ?_⟩⟩
    · rw [eo _ (by omega) (by omega), nwS_V, if_neg q]
      exact (hR.2 m' hm3).1 k' hk'
    · rw [eo _ (by omega) (by omega), nwS_C, if_neg q]
      exact ((hR.2 m' hm3).2 v' hv').1
    · rw [nwS_C, if_neg q] at he'
      have hC := okC_C h hm3 hv'
      rw [eo _ (by omega) (by omega), eo _ (by omega) (by omega), eo _ (by omega) (by omega), eo _ (by omega) (by omega)]
      exact ((hR.2 m' hm3).2 v' hv').2 e' he'
theorem X10_adM38 {n : Nat} (hn : n < 16) (hN : 12000 ≤ N) : zT (zLoop (f_X10_addMeasure_B38 N (iI n)) N (0, st)) (fun r => ∀ k, r k = if 201 * n + 1 ≤ k ∧ k < 201 * n + 202 then 0 else st k) := by
  refine zT_loop (fun l s => ∃ j : Nat, j ≤ 201 ∧ l = 201 - j ∧ s.1 = iI j ∧ ∀ k, s.2 k = if 201 * n + 1 ≤ k ∧ k < 201 * n + 1 + j then 0 else st k) ?_ N 201 (0, st) (by omega) ⟨0, by omega, rfl, rfl, fun k => (by rw [if_neg (by omega)])⟩
  rintro l ⟨s1, p⟩ c ⟨j, hj, rfl, q1, hp⟩ ih
  dsimp only at q1 hp
  subst q1
  unfold f_X10_addMeasure_B38
  dsimp only
  refine zT_ite (fun q => ?_) (fun q => ?_)
  · rw [iL201, iI_lt (by omega) (by omega) (by omega) (by omega)] at q
    refine zT_bindE (show f_X10_base N (iI n) = some (1 + 201 * iI n) from rfl) ?_
    rw [baseI, zAstI (by omega) (by omega) (by omega), Int.toNat_natCast]
    refine zT_bindE rfl (zT_bindE rfl (ih (201 - (j + 1)) _ (by omega) ⟨j + 1, by omega, rfl, iIp1 _, fun k => ?_⟩))
    dsimp only
    rw [upd_at, hp]
    by_cases q1 : k = 201 * n + 1 + j
    · rw [if_pos q1, if_pos (by omega)]
    · rw [if_neg q1]
      by_cases q2 : 201 * n + 1 ≤ k ∧ k < 201 * n + 1 + j
      · rw [if_pos q2, if_pos (by omega)]
      · rw [if_neg q2, if_neg (by omega)]
  · rw [iL201, iI_lt (by omega) (by omega) (by omega) (by omega)] at q
    obtain rfl : j = 201 := by omega
    exact zT_some hp
theorem X10_adM65 (h : okC S) (hR : RM S st) (hn : S.1 < 16) {r6 : Nat → Int32} (h6 : ∀ k, r6 k = if 201 * S.1 + 1 ≤ k ∧ k < 201 * S.1 + 202 then 0 else st k) (hN : 12000 ≤ N) : zT (zLoop (f_X10_addMeasure_B65 N (iI S.1)) N (0, r6)) (fun r => ∀ k, r k = if 201 * S.1 + 1 ≤ k ∧ k < 201 * S.1 + 5 then iI (dfV S (k - (201 * S.1 + 1))) else r6 k) := by
  refine zT_loop (fun l s => ∃ j : Nat, j ≤ 4 ∧ l = 4 - j ∧ s.1 = iI j ∧ ∀ k, s.2 k = if 201 * S.1 + 1 ≤ k ∧ k < 201 * S.1 + 1 + j then iI (dfV S (k - (201 * S.1 + 1))) else r6 k) ?_ N 4 (0, r6) (by omega) ⟨0, by omega, rfl, rfl, fun k => (by rw [if_neg (by omega)])⟩
  rintro l ⟨s1, p⟩ c ⟨j, hj, rfl, q1, hp⟩ ih
  dsimp only at q1 hp
  subst q1
  unfold f_X10_addMeasure_B65
  dsimp only
  refine zT_ite (fun q => ?_) (fun q => ?_)
  · rw [iL3, iI_lt (by omega) (by omega) (by omega) (by omega)] at q
    obtain rfl : j = 4 := by omega
    exact zT_some hp
  · rw [iL3, iI_lt (by omega) (by omega) (by omega) (by omega)] at q
    have eo : (if 0 < iI (S.1 : Int) then Option.bind (f_X10_of N p (iI S.1 - 1) (iI j)) (fun (r14_ : Int32) => some r14_) else if iI (j : Int) = 0 then some 0 else if iI (j : Int) = 3 then some 120 else some 4) = some (iI (dfV S j)) := by
      unfold dfV
      by_cases q2 : 0 < S.1
      · have ev : f_X10_of N p (iI ((S.1 - 1 : Nat) : Int)) (iI j) = some (iI (S.2.1 (S.1 - 1) j)) := by
          unfold f_X10_of
          rw [iL1, iL201, iI_mul, iI_add, iI_add, zAldI (by omega) (by omega) (by omega), z_sb, show ((1 : Int) + 201 * ((S.1 - 1 : Nat) : Int) + j).toNat = 201 * (S.1 - 1) + 1 + j by omega, hp, if_neg (by omega), h6, if_neg (by omega), (hR.2 (S.1 - 1) (by omega)).1 j (by omega)]
        rw [if_pos q2, if_pos (by rw [iL0, iI_lt (by omega) (by omega) (by omega) (by omega)]; omega), iIs1, show (S.1 : Int) - 1 = ((S.1 - 1 : Nat) : Int) by omega, z_be ev]
      · rw [if_neg q2, if_neg (by rw [iL0, iI_lt (by omega) (by omega) (by omega) (by omega)]; omega)]
        rcases (show j = 0 ∨ j = 1 ∨ j = 2 ∨ j = 3 by omega) with rfl | rfl | rfl | rfl <;> rfl
    refine zT_bindE (show f_X10_base N (iI S.1) = some (1 + 201 * iI S.1) from rfl) (zT_bindE eo ?_)
    rw [baseI, zAstI (by omega) (by omega) (by omega), Int.toNat_natCast]
    refine zT_bindE rfl (zT_bindE rfl (ih (4 - (j + 1)) _ (by omega) ⟨j + 1, by omega, rfl, iIp1 _, fun k => ?_⟩))
    dsimp only
    rw [upd_at, hp]
    by_cases q1 : k = 201 * S.1 + 1 + j
    · rw [if_pos q1, if_pos (by omega), q1, show 201 * S.1 + 1 + j - (201 * S.1 + 1) = j by omega]
    · rw [if_neg q1]
      by_cases q2 : 201 * S.1 + 1 ≤ k ∧ k < 201 * S.1 + 1 + j
      · rw [if_pos q2, if_pos (by omega)]
      · rw [if_neg q2, if_neg (by omega)]
theorem M_addMeasure (h : okS S) (hR : RM S st) (hok : ∀ Y, Y ∈ hs → okS Y) (hl : hs.length ≤ 4) (hP : zPa hs past) (hn : S.1 < 16) (hN : 12000 ≤ N) : zT (f_X10_addMeasure N code (iI hs.length) past st) (fun r => r.1 = iI S.1 ∧ r.2.1 = 0 ∧ r.2.2.1 = iI ((S :: hs).take 4).length ∧ zPa ((S :: hs).take 4) r.2.2.2.1 ∧ RM (nwS S) r.2.2.2.2) := by
  unfold f_X10_addMeasure
  rw [z_be (zlds0 hR), if_neg (by rw [iL16, iI_eq (by omega) (by omega) (by omega) (by omega)]; omega), z_sb, z_be (X10_ref0 code), if_pos (f00 0)]
  refine zT_bind (zT_mono (X10_saves h hR hok hl hP hN) ?_)
  rintro ⟨r1, r2⟩ ⟨p1, p2⟩
  dsimp only at p1 p2
  refine zT_bindE (zlds0 hR) (zT_bind (zT_mono (X10_adM38 hn hN) (fun r6 h6 => zT_bind (zT_mono (X10_adM65 h.1 hR hn h6 hN) (fun r7 h7 => ?_)))))
  have e0 : r7 0 = iI S.1 := by rw [h7, if_neg (by omega), h6, if_neg (by omega), hR.1]
  have er : upd r7 0 (iI ((S.1 + 1 : Nat) : Int)) = nwM S st := by
    funext k
    rw [upd_at]
    unfold nwM
    by_cases q : k = 0
    · rw [if_pos q, if_pos q]
    · rw [if_neg q, if_neg q, h7, h6]
      by_cases q2 : 201 * S.1 + 1 ≤ k ∧ k < 201 * S.1 + 202
      · rw [if_pos q2, if_pos q2]
        by_cases q3 : k < 201 * S.1 + 5
        · rw [if_pos q3, if_pos (by omega)]
        · rw [if_neg q3, if_neg (by omega)]
      · rw [if_neg q2, if_neg q2, if_neg (by omega)]
  rw [iL0, zAldI (by omega) (by omega) (by omega), show (0 : Int).toNat = 0 from rfl, e0]
  refine zT_bindE rfl ?_
  rw [iIp1, zAstI (by omega) (by omega) (by omega), show (0 : Int).toNat = 0 from rfl]
  refine zT_bindE rfl (zT_some ⟨rfl, rfl, p1, p2, ?_⟩)
  show RM (nwS S) (upd r7 0 (iI ((S.1 + 1 : Nat) : Int)))
  rw [er]
  exact RM_nwS h.1 hR
theorem C_addMeasure {n0 n1 n2 n3 : Int32} {c0 c1 c2 c3 : Nat → Int32} (h : okS S) (hR : RC S (iI S.1) cells) (hnx : nx < 4) (hl : hs.length ≤ 4) (hG : zRg hs nx (zSl n0 n1 n2 n3 c0 c1 c2 c3)) (hn : S.1 < 16) (hN : 4000 ≤ N) : zT (f_X9_addMeasure N (iI nx) (iI hs.length) pn (iI S.1) n0 n1 n2 n3 pf cells held shifts c0 c1 c2 c3) (fun s => ∃ a, s = .inl a ∧ a.1 = iI S.1 ∧ a.2.2.2.2.1 = iI ((nwS S).1 : Int) ∧ edA (nwS S) ((S :: hs).take 4) ((nx + 1) % 4) (a.1, a.2.1, a.2.2.1, a.2.2.2.1, a.2.2.2.2.2)) := by
  have hx' := okS_nwS h hn
  unfold f_X9_addMeasure
  have ef : f_X4_isFull N (iI S.1) = some 0 := by
    unfold f_X4_isFull
    rw [if_pos (by rw [iL16, iI_lt (by omega) (by omega) (by omega) (by omega)]; omega)]
  rw [z_be ef, if_pos z00]
  refine zT_bind (zT_mono (X1_push h.1 hR hnx hl hG) ?_)
  rintro ⟨r1, r2, r3, r4, r5, r6, r7, r8, r9, r10⟩ ⟨q1, q2, q3⟩
  refine zT_bind (zT_mono (X4_appendMeasure h.1 hR hn (by omega)) ?_)
  rintro ⟨t1, t2⟩ ⟨w1, w2⟩
  dsimp only at w1 w2
  subst w1
  refine zT_bind (zT_mono (X9_settle (S := nwS S) hx' w2 hN) ?_)
  rintro ⟨u1, u2, u3, u4⟩ ⟨p1, p2, p3⟩
  refine zT_bindE (show f_X4_size N (iI ((S.1 + 1 : Nat) : Int)) = some (iI ((S.1 + 1 : Nat) : Int)) from rfl) (zT_some ⟨_, rfl, ?_, rfl, q1, q2, q3, p1, w2, p2, p3⟩)
  dsimp only
  rw [iIs1]
  congr 1 <;> omega
theorem zk_addMeasure (hN : 20000 ≤ N) (hZ : zZ K M) : zS_addMeasure N zZ K M := by
  obtain ⟨S, hs, nx, L, T, h0, hk, hO, hC, hT, hH, hF, hX, hP, hS, hR⟩ := hZ
  obtain ⟨u1, u2, u3, u4, u5, u6⟩ := h0
  have e6 := hC.1
  have h1 := u1.1.1
  rw [e6] at hC
  unfold zS_addMeasure
  rw [hk.1, hk.2.1, hP.1, e6]
  by_cases q : S.1 < 16
  · obtain ⟨b, hb, p1, p2, p3, p4, p5⟩ := M_addMeasure (N := N) (code := M.1) u1 hR u3 u2 hP.2 q (by omega)
    obtain ⟨s, hs1, a, rfl, g0, g8, g1, g2, g3, g4, g5, g6, g7⟩ := C_addMeasure (N := N) (pn := K.2.2.1) (pf := K.2.2.2.2.2.2.2.2.2.2.2.2.2.2.1) (held := K.2.2.2.2.2.2.2.2.2.2.2.2.2.2.2.2.2.2.1) (shifts := K.2.2.2.2.2.2.2.2.2.2.2.2.2.2.2.2.2.2.2.1) (n0 := K.2.2.2.2.2.2.2.2.2.2.1) (n1 := K.2.2.2.2.2.2.2.2.2.2.2.1) (n2 := K.2.2.2.2.2.2.2.2.2.2.2.2.1) (n3 := K.2.2.2.2.2.2.2.2.2.2.2.2.2.1) (c0 := K.2.2.2.2.2.2.2.2.2.2.2.2.2.2.2.2.2.2.2.2.2.1) (c1 := K.2.2.2.2.2.2.2.2.2.2.2.2.2.2.2.2.2.2.2.2.2.2.1) (c2 := K.2.2.2.2.2.2.2.2.2.2.2.2.2.2.2.2.2.2.2.2.2.2.2.1) (c3 := K.2.2.2.2.2.2.2.2.2.2.2.2.2.2.2.2.2.2.2.2.2.2.2.2.1) u1 hC u4 u2 hk.2.2 q (by omega)
    exact ⟨b, hb, Or.inl ⟨a, hs1, p2, g0.trans p1.symm, ⟨_, (S :: hs).take 4, (nx + 1) % 4, L, T, ⟨okS_nwS u1 q, take4_le, take4_ok u1 u3, by omega, u5, u6⟩, ⟨g1, g2, g3⟩, g4, ⟨g8, g5.2⟩, hT, g6, g7, hX, ⟨p3, p4⟩, hS, p5⟩⟩⟩
  · obtain q' : S.1 = 16 := by omega
    refine ⟨(0, 1, iI hs.length, M.2.2.2.2.2.2.2.2.2.2.2.2.2.2.1, M.2.2.2.2.2.2.2.2.2.2.2.2.2.2.2.2.2.2.1), ?_, Or.inr ⟨?_, rfl, ⟨S, hs, nx, L, T, ⟨u1, u2, u3, u4, u5, u6⟩, hk, hO, ⟨e6, hC.2⟩, hT, hH, hF, hX, ⟨rfl, hP.2⟩, hS, hR⟩⟩⟩
    · unfold f_X10_addMeasure
      rw [z_be (zlds0 hR), if_pos (by rw [q'] <;> rfl), z_sb, z_be (X10_ref1 _), if_neg (f10 1)]
    · unfold f_X9_addMeasure
      have ef : f_X4_isFull N (iI S.1) = some 1 := by
        unfold f_X4_isFull
        rw [if_neg (by rw [iL16, iI_lt (by omega) (by omega) (by omega) (by omega)]; omega)]
      rw [z_be ef, if_neg ne10]
end ZNJ
/-! ===== a measure less ===== -/
def drS (S : zSt) (m : Nat) : zSt := (S.1 - 1, (fun m' k => if m ≤ m' then S.2.1 (m' + 1) k else S.2.1 m' k), (fun m' v => if m ≤ m' then S.2.2.1 (m' + 1) v else S.2.2.1 m' v), (fun m' v e => if m ≤ m' then S.2.2.2 (m' + 1) v e else S.2.2.2 m' v e))
section ZNK
variable {N : Nat} {S X : zSt} {st cells shifts held past pf : Nat → Int32} {size code pn : Int32} {m v e k i j nx : Nat} {hs : List zSt} {K : zKT} {M : zMT} {x : zEv}
def drO (m m' : Nat) : Nat := if m ≤ m' then m' + 1 else m'
theorem drS_V (m' k' : Nat) : (drS S m).2.1 m' k' = S.2.1 (drO m m') k' := by
  unfold drS drO
  dsimp only
  split <;> rfl
theorem drS_C (m' v' : Nat) : (drS S m).2.2.1 m' v' = S.2.2.1 (drO m m') v' := by
  unfold drS drO
  dsimp only
  split <;> rfl
theorem drS_E (m' v' e' : Nat) : (drS S m).2.2.2 m' v' e' = S.2.2.2 (drO m m') v' e' := by
  unfold drS drO
  dsimp only
  split <;> rfl
theorem drO_lt {m' : Nat} (hm : m < S.1) (h : m' < (drS S m).1) : drO m m' < S.1 := by
  have h2 : m' < S.1 - 1 := h
  unfold drO
  split <;> omega
theorem okS_drS (h : okS S) (hm : m < S.1) : okS (drS S m) := by
  refine ⟨⟨by have := h.1.1; show S.1 - 1 ≤ 16; omega, fun m' hm' => ⟨fun k' hk' => ?_, fun v' hv' => ⟨?_, fun e' he' => ?_⟩⟩⟩, fun m' hm' => ?_⟩
  · rw [drS_V]
    exact (h.1.2 _ (drO_lt hm hm')).1 k' hk'
  · rw [drS_C]
    exact ((h.1.2 _ (drO_lt hm hm')).2 v' hv').1
  · rw [drS_C] at he'
    rw [drS_E]
    exact ((h.1.2 _ (drO_lt hm hm')).2 v' hv').2 e' he'
  · have := h.2 _ (drO_lt hm hm')
    unfold okV at this ⊢
    simp only [drS_V]
    exact this
theorem RC_drS (h : okC S) (hR : RC S (iI S.1) cells) (hm : m < S.1) : RC (drS S m) (iI ((S.1 - 1 : Nat) : Int)) (va_cpy cells cells (57 * (m + 1)) (57 * m) (57 * (S.1 - m - 1))) := by
  have g : ∀ m' o, m' < (drS S m).1 → o < 57 → va_cpy cells cells (57 * (m + 1)) (57 * m) (57 * (S.1 - m - 1)) (57 * m' + o) = cells (57 * drO m m' + o) := by
    intro m' o hm' ho
    have h2 : m' < S.1 - 1 := hm'
    rw [zcpy_at]
    unfold drO
    by_cases q : m ≤ m'
    · rw [if_pos (by omega), if_pos q]
      congr 1 <;> omega
    · rw [if_neg (by omega), if_neg q]
  refine ⟨rfl, fun m' hm' => ⟨fun k' hk' => ?_, fun v' hv' => ⟨?_, fun e' he' => ?_⟩⟩⟩
  · rw [g m' k' hm' (by omega), drS_V]
    exact (hR.2 _ (drO_lt hm hm')).1 k' hk'
  · have := g m' (7 + 25 * v') hm' (by omega)
    rw [show 57 * m' + 7 + 25 * v' = 57 * m' + (7 + 25 * v') by omega, this, drS_C]
    have := ((hR.2 _ (drO_lt hm hm')).2 v' hv').1
    rw [← this]
    congr 1 <;> omega
  · rw [drS_C] at he'
    have hC := okC_C h (drO_lt hm hm') hv'
    have := g m' (8 + 25 * v' + e') hm' (by omega)
    rw [show 57 * m' + 8 + 25 * v' + e' = 57 * m' + (8 + 25 * v' + e') by omega, this, drS_E]
    have := ((hR.2 _ (drO_lt hm hm')).2 v' hv').2 e' he'
    rw [← this]
    congr 1 <;> omega
/-- the reference's row with a measure less -/
def drM (S : zSt) (m : Nat) (st : Nat → Int32) (k : Nat) : Int32 := if k = 0 then iI ((S.1 - 1 : Nat) : Int) else if 201 * m + 1 ≤ k ∧ k < 201 * (S.1 - 1) + 1 then st (k + 201) else st k
theorem RM_drS (h : okC S) (hR : RM S st) (hm : m < S.1) : RM (drS S m) (drM S m st) := by
  have g : ∀ m' o, m' < (drS S m).1 → o < 201 → drM S m st (201 * m' + 1 + o) = st (201 * drO m m' + 1 + o) := by
    intro m' o hm' ho
    have h2 : m' < S.1 - 1 := hm'
    unfold drM drO
    rw [if_neg (by omega)]
    by_cases q : m ≤ m'
    · rw [if_pos (by omega), if_pos q]
      congr 1 <;> omega
    · rw [if_neg (by omega), if_neg q]
  refine ⟨if_pos rfl, fun m' hm' => ⟨fun k' hk' => ?_, fun v' hv' => ⟨?_, fun e' he' => ?_⟩⟩⟩
  · rw [g m' k' hm' (by omega), drS_V]
    exact (hR.2 _ (drO_lt hm hm')).1 k' hk'
  · have := g m' (7 + v') hm' (by omega)
    rw [show 201 * m' + 8 + v' = 201 * m' + 1 + (7 + v') by omega, this, drS_C]
    have := ((hR.2 _ (drO_lt hm hm')).2 v' hv').1
    rw [← this]
    congr 1 <;> omega
  · rw [drS_C] at he'
    have hC := okC_C h (drO_lt hm hm') hv'
    have g2 : ∀ c, c < 4 → drM S m st (201 * m' + 10 + 96 * v' + 4 * e' + c) = st (201 * drO m m' + 10 + 96 * v' + 4 * e' + c) := by
      intro c hc
      have := g m' (9 + 96 * v' + 4 * e' + c) hm' (by omega)
      rw [show 201 * m' + 10 + 96 * v' + 4 * e' + c = 201 * m' + 1 + (9 + 96 * v' + 4 * e' + c) by omega, this]
      congr 1 <;> omega
    have g0 := g2 0 (by omega)
    rw [Nat.add_zero, Nat.add_zero] at g0
    rw [drS_E, g0, g2 1 (by omega), g2 2 (by omega), g2 3 (by omega)]
    exact ((hR.2 _ (drO_lt hm hm')).2 v' hv').2 e' he'
theorem X10_rmM41 (h : okC S) (hR : RM S st) (hm : m < S.1) (hN : 12000 ≤ N) : zT (zLoop (f_X10_removeMeasure_B41 N) N (iI ((201 * m + 1 : Nat) : Int), upd st 0 (iI ((S.1 - 1 : Nat) : Int)))) (fun r => r = drM S m st) := by
  have h1 := h.1
  refine zT_loop (fun l s => ∃ j : Nat, 201 * m + 1 ≤ j ∧ j ≤ 201 * (S.1 - 1) + 1 ∧ l = 201 * (S.1 - 1) + 1 - j ∧ s.1 = iI j ∧ ∀ k, s.2 k = if k = 0 then iI ((S.1 - 1 : Nat) : Int) else if 201 * m + 1 ≤ k ∧ k < j then st (k + 201) else st k) ?_ N (201 * (S.1 - 1) - 201 * m) _ (by omega) ⟨201 * m + 1, by omega, by omega, by omega, rfl, fun k => ?_⟩
  · rintro l ⟨s1, p⟩ c ⟨j, hj0, hj, rfl, q1, hp⟩ ih
    dsimp only at q1 hp
    subst q1
    unfold f_X10_removeMeasure_B41
    dsimp only
    rw [iL0, zAldI (by omega) (by omega) (by omega), show (0 : Int).toNat = 0 from rfl, hp, if_pos rfl]
    refine zT_bindE rfl (zT_bindE (show f_X10_base N (iI ((S.1 - 1 : Nat) : Int)) = some (1 + 201 * iI ((S.1 - 1 : Nat) : Int)) from rfl) ?_)
    have eb : 1 + 201 * iI ((S.1 - 1 : Nat) : Int) = iI ((201 * (S.1 - 1) + 1 : Nat) : Int) := by
      rw [iL201, iL1, iI_mul, iI_add]; congr 1 <;> omega
    rw [eb]
    refine zT_ite (fun q => ?_) (fun q => ?_)
    · rw [iI_lt (by omega) (by omega) (by omega) (by omega)] at q
      rw [iL201, iI_add, zAldI (by omega) (by omega) (by omega)]
      refine zT_bindE rfl ?_
      rw [zAstI (by omega) (by omega) (by omega)]
      refine zT_bindE rfl (zT_bindE rfl (ih (201 * (S.1 - 1) + 1 - (j + 1)) _ (by omega) ⟨j + 1, by omega, by omega, rfl, iIp1 _, fun k => ?_⟩))
      dsimp only
      rw [upd_at, Int.toNat_natCast, show ((j : Int) + 201).toNat = j + 201 by omega, hp, hp, if_neg (show ¬ j + 201 = 0 by omega), if_neg (show ¬ (201 * m + 1 ≤ j + 201 ∧ j + 201 < j) by omega)]
      by_cases q1 : k = j
      · rw [if_pos q1, if_neg (by omega), if_pos (by omega), q1]
      · rw [if_neg q1]
        by_cases q0 : k = 0
        · rw [if_pos q0, if_pos q0]
        · rw [if_neg q0, if_neg q0]
          by_cases q2 : 201 * m + 1 ≤ k ∧ k < j
          · rw [if_pos q2, if_pos (by omega)]
          · rw [if_neg q2, if_neg (by omega)]
    · rw [iI_lt (by omega) (by omega) (by omega) (by omega)] at q
      obtain rfl : j = 201 * (S.1 - 1) + 1 := by omega
      exact zT_some (funext hp)
  · dsimp only
    rw [upd_at]
    by_cases q0 : k = 0
    · rw [if_pos q0, if_pos q0]
    · rw [if_neg q0, if_neg q0, if_neg (by omega)]
theorem M_removeMeasure (h : okS S) (hR : RM S st) (hok : ∀ Y, Y ∈ hs → okS Y) (hl : hs.length ≤ 4) (hP : zPa hs past) (hm : m < S.1) (hN : 12000 ≤ N) : zT (f_X10_removeMeasure N code (iI hs.length) past st (iI m)) (fun r => r.1 = iI ((S.1 - 1 : Nat) : Int) ∧ r.2.1 = 0 ∧ r.2.2.1 = iI ((S :: hs).take 4).length ∧ zPa ((S :: hs).take 4) r.2.2.2.1 ∧ RM (drS S m) r.2.2.2.2) := by
  have h1 := h.1.1
  unfold f_X10_removeMeasure
  rw [z_be (z_p1 (show 0 ≤ (m : Int) ∧ (m : Int) < S.1 by omega) (X10_isMeasure h.1 hR (zIn_ m (by omega)))), if_neg ne10, z_sb, z_be (X10_ref0 code), if_pos (f00 0)]
  refine zT_bind (zT_mono (X10_saves h hR hok hl hP hN) ?_)
  rintro ⟨r1, r2⟩ ⟨p1, p2⟩
  dsimp only at p1 p2
  refine zT_bindE (zlds0 hR) ?_
  rw [iIs1, show (S.1 : Int) - 1 = ((S.1 - 1 : Nat) : Int) by omega, iL0, zAstI (by omega) (by omega) (by omega), show (0 : Int).toNat = 0 from rfl]
  have eb : f_X10_base N (iI m) = some (iI ((201 * m + 1 : Nat) : Int)) := by
    unfold f_X10_base
    rw [iL201, iL1, iI_mul, iI_add]; congr 2 <;> omega
  refine zT_bindE rfl (zT_bindE eb (zT_bind (zT_mono (X10_rmM41 h.1 hR hm hN) ?_)))
  rintro r rfl
  rw [zAldI (by omega) (by omega) (by omega), show (0 : Int).toNat = 0 from rfl]
  exact zT_bindE rfl (zT_some ⟨(show drM S m st 0 = iI ((S.1 - 1 : Nat) : Int) from if_pos rfl), rfl, p1, p2, RM_drS h.1 hR hm⟩)
theorem X4_dropMeasure (h : okC S) (hm : m < S.1) : f_X4_dropMeasure N (iI S.1) cells (iI m) = some (iI ((S.1 - 1 : Nat) : Int), va_cpy cells cells (57 * (m + 1)) (57 * m) (57 * (S.1 - m - 1))) := by
  have h1 := h.1
  have e1 : (iI (m : Int) + 1) * 57 = iI ((57 * (m + 1) : Nat) : Int) := by rw [iL57, iIp1, iI_mul]; congr 1 <;> omega
  have e2 : iI (m : Int) * 57 = iI ((57 * m : Nat) : Int) := by rw [iL57, iI_mul]; congr 1 <;> omega
  have e3 : ((iI (S.1 : Int) - iI m) - 1) * 57 = iI ((57 * (S.1 - m - 1) : Nat) : Int) := by rw [iL57, iI_sub, iIs1, iI_mul]; congr 1 <;> omega
  unfold f_X4_dropMeasure
  rw [z_be (z_p1 (show 0 ≤ (m : Int) ∧ (m : Int) < S.1 by omega) (X4_hasMeasure h (zIn_ m (by omega)))), if_neg ne10, z_sb, e1, e2, e3, zCpyI (by omega) (by omega) (by omega) (by omega) (by omega) (by omega) (by omega), z_sb, z_sb, iIs1, show (S.1 : Int) - 1 = ((S.1 - 1 : Nat) : Int) by omega]
  rfl
theorem C_removeMeasure {n0 n1 n2 n3 : Int32} {c0 c1 c2 c3 : Nat → Int32} (h : okS S) (hR : RC S (iI S.1) cells) (hnx : nx < 4) (hl : hs.length ≤ 4) (hG : zRg hs nx (zSl n0 n1 n2 n3 c0 c1 c2 c3)) (hm : m < S.1) (hN : 4000 ≤ N) : zT (f_X9_removeMeasure N (iI nx) (iI hs.length) pn (iI S.1) n0 n1 n2 n3 pf cells held shifts c0 c1 c2 c3 (iI m)) (fun s => ∃ a, s = .inl a ∧ a.1 = iI ((S.1 - 1 : Nat) : Int) ∧ a.2.2.2.2.1 = iI ((drS S m).1 : Int) ∧ edA (drS S m) ((S :: hs).take 4) ((nx + 1) % 4) (a.1, a.2.1, a.2.2.1, a.2.2.2.1, a.2.2.2.2.2)) := by
  have h1 := h.1.1
  have hx' := okS_drS h hm
  have hR' := RC_drS h.1 hR hm
  unfold f_X9_removeMeasure
  rw [zSub_rq (C_rqM h.1 (zIn_ m (by omega))), if_pos (by omega)]
  refine zT_bind (zT_mono (X1_push h.1 hR hnx hl hG) ?_)
  rintro ⟨r1, r2, r3, r4, r5, r6, r7, r8, r9, r10⟩ ⟨q1, q2, q3⟩
  refine zT_bindE (X4_dropMeasure h.1 hm) (zT_bind (zT_mono (X9_settle (S := drS S m) hx' hR' hN) ?_))
  rintro ⟨u1, u2, u3, u4⟩ ⟨p1, p2, p3⟩
  exact zT_bindE (show f_X4_size N (iI ((S.1 - 1 : Nat) : Int)) = some (iI ((S.1 - 1 : Nat) : Int)) from rfl) (zT_some ⟨_, rfl, rfl, rfl, q1, q2, q3, p1, hR', p2, p3⟩)
theorem zk_removeMeasure (hN : 20000 ≤ N) (hZ : zZ K M) (y1 : Int32) : zS_removeMeasure N zZ K M y1 := by
  obtain ⟨S, hs, nx, L, T, h0, hk, hO, hC, hT, hH, hF, hX, hP, hS, hR⟩ := hZ
  obtain ⟨a1, rfl, hz1⟩ := iI_all y1
  obtain ⟨u1, u2, u3, u4, u5, u6⟩ := h0
  have e6 := hC.1
  have h1 := u1.1.1
  rw [e6] at hC
  unfold zS_removeMeasure
  rw [hk.1, hk.2.1, hP.1, e6]
  by_cases q : 0 ≤ a1 ∧ a1 < S.1
  · obtain ⟨m, rfl⟩ := Int.eq_ofNat_of_zero_le q.1
    have hm : m < S.1 := by omega
    obtain ⟨b, hb, p1, p2, p3, p4, p5⟩ := M_removeMeasure (N := N) (code := M.1) u1 hR u3 u2 hP.2 hm (by omega)
    obtain ⟨s, hs1, a, rfl, g0, g8, g1, g2, g3, g4, g5, g6, g7⟩ := C_removeMeasure (N := N) (pn := K.2.2.1) (pf := K.2.2.2.2.2.2.2.2.2.2.2.2.2.2.1) (held := K.2.2.2.2.2.2.2.2.2.2.2.2.2.2.2.2.2.2.1) (shifts := K.2.2.2.2.2.2.2.2.2.2.2.2.2.2.2.2.2.2.2.1) (n0 := K.2.2.2.2.2.2.2.2.2.2.1) (n1 := K.2.2.2.2.2.2.2.2.2.2.2.1) (n2 := K.2.2.2.2.2.2.2.2.2.2.2.2.1) (n3 := K.2.2.2.2.2.2.2.2.2.2.2.2.2.1) (c0 := K.2.2.2.2.2.2.2.2.2.2.2.2.2.2.2.2.2.2.2.2.2.1) (c1 := K.2.2.2.2.2.2.2.2.2.2.2.2.2.2.2.2.2.2.2.2.2.2.1) (c2 := K.2.2.2.2.2.2.2.2.2.2.2.2.2.2.2.2.2.2.2.2.2.2.2.1) (c3 := K.2.2.2.2.2.2.2.2.2.2.2.2.2.2.2.2.2.2.2.2.2.2.2.2.1) u1 hC u4 u2 hk.2.2 hm (by omega)
    exact ⟨b, hb, Or.inl ⟨a, hs1, p2, g0.trans p1.symm, ⟨_, (S :: hs).take 4, (nx + 1) % 4, L, T, ⟨okS_drS u1 hm, take4_le, take4_ok u1 u3, by omega, u5, u6⟩, ⟨g1, g2, g3⟩, g4, ⟨g8, g5.2⟩, hT, g6, g7, hX, ⟨p3, p4⟩, hS, p5⟩⟩⟩
  · refine ⟨(0, 1, iI hs.length, M.2.2.2.2.2.2.2.2.2.2.2.2.2.2.1, M.2.2.2.2.2.2.2.2.2.2.2.2.2.2.2.2.2.2.1), ?_, Or.inr ⟨?_, rfl, ⟨S, hs, nx, L, T, ⟨u1, u2, u3, u4, u5, u6⟩, hk, hO, ⟨e6, hC.2⟩, hT, hH, hF, hX, ⟨rfl, hP.2⟩, hS, hR⟩⟩⟩
    · unfold f_X10_removeMeasure
      rw [z_be (z_p0 q (X10_isMeasure u1.1 hR hz1)), if_pos z00, z_sb, z_be (X10_ref1 _), if_neg (f10 1)]
    · unfold f_X9_removeMeasure
      rw [zSub_rq (C_rqM u1.1 hz1), if_neg q]
end ZNK
