section ZNJ
variable {N : Nat} {S X : zSt} {st cells shifts held past pf : Nat → Int32} {size code pn : Int32} {m v e k i j nx : Nat} {hs : List zSt} {K : zKT} {x : zEv}
/-- the reference's row with a measure more -/
def nwM (S : zSt) (st : Nat → Int32) (k : Nat) : Int32 := if k = 0 then iI ((S.1 + 1 : Nat) : Int) else if 201 * S.1 + 1 ≤ k ∧ k < 201 * S.1 + 202 then (if k < 201 * S.1 + 5 then iI (dfV S (k - (201 * S.1 + 1))) else 0) else st k
theorem C_addMeasure {n0 n1 n2 n3 : Int32} {c0 c1 c2 c3 : Nat → Int32} (h : okS S) (hR : RC S (iI S.1) cells) (hnx : nx < 4) (hl : hs.length ≤ 4) (hG : zRg hs nx (zSl n0 n1 n2 n3 c0 c1 c2 c3)) (hn : S.1 < 16) (hN : 4000 ≤ N) : zT (f_X9_addMeasure N (iI nx) (iI hs.length) pn (iI S.1) n0 n1 n2 n3 pf cells held shifts c0 c1 c2 c3) (fun s => ∃ a, s = .inl a ∧ a.1 = iI S.1 ∧ a.2.2.2.2.1 = iI ((nwS S).1 : Int) ∧ edA (nwS S) ((S :: hs).take 4) ((nx + 1) % 4) (a.1, a.2.1, a.2.2.1, a.2.2.2.1, a.2.2.2.2.2)) := by
  have hx' := okS_nwS h hn
  unfold f_X9_addMeasure
  have ef : f_X4_isFull N (iI S.1) = some 0 := by
    unfold f_X4_isFull
    rw [if_pos (by rw [iL16, iI_lt (by omega) (by omega) (by omega) (by omega)]; omega)]
  rw [z_be ef, if_pos z00]
  refine zT_bind (zT_mono (X1_push h.1 hR hnx hl hG) ?_)
  rintro ⟨r1, r2, r3, r4, r5, r6, r7, r8, r9, r10⟩ ⟨q1, q2, q3⟩
  refine zT_bind (zT_mono (X4_appendMeasure h.1 hR hn (by omega)) ?_)
  rintro ⟨t1, t2⟩ ⟨w1, w2⟩
  dsimp only at w1 w2
  subst w1
  refine zT_bind (zT_mono (X9_settle (S := nwS S) hx' w2 hN) ?_)
  rintro ⟨u1, u2, u3, u4⟩ ⟨p1, p2, p3⟩
  refine zT_bindE (show f_X4_size N (iI ((S.1 + 1 : Nat) : Int)) = some (iI ((S.1 + 1 : Nat) : Int)) from rfl) (zT_some ⟨_, rfl, ?_, rfl, q1, q2, q3, p1, w2, p2, p3⟩)
  dsimp only
  rw [iIs1]
  congr 1 <;> omega
end ZNJ
/-! ===== a measure less ===== -/
def drS (S : zSt) (m : Nat) : zSt := (S.1 - 1, (fun m' k => if m ≤ m' then S.2.1 (m' + 1) k else S.2.1 m' k), (fun m' v => if m ≤ m' then S.2.2.1 (m' + 1) v else S.2.2.1 m' v), (fun m' v e => if m ≤ m' then S.2.2.2 (m' + 1) v e else S.2.2.2 m' v e))
section ZNK
variable {N : Nat} {S X : zSt} {st cells shifts held past pf : Nat → Int32} {size code pn : Int32} {m v e k i j nx : Nat} {hs : List zSt} {K : zKT} {x : zEv}
def drO (m m' : Nat) : Nat := if m ≤ m' then m' + 1 else m'
theorem drS_V (m' k' : Nat) : (drS S m).2.1 m' k' = S.2.1 (drO m m') k' := by
  unfold drS drO
  dsimp only
  split <;> rfl
theorem drS_C (m' v' : Nat) : (drS S m).2.2.1 m' v' = S.2.2.1 (drO m m') v' := by
  unfold drS drO
  dsimp only
  split <;> rfl
theorem drS_E (m' v' e' : Nat) : (drS S m).2.2.2 m' v' e' = S.2.2.2 (drO m m') v' e' := by
  unfold drS drO
  dsimp only
  split <;> rfl
theorem drO_lt {m' : Nat} (hm : m < S.1) (h : m' < (drS S m).1) : drO m m' < S.1 := by
  have h2 : m' < S.1 - 1 := h
  unfold drO
  split <;> omega
theorem okS_drS (h : okS S) (hm : m < S.1) : okS (drS S m) := by
  refine ⟨⟨by have := h.1.1; show S.1 - 1 ≤ 16; omega, fun m' hm' => ⟨fun k' hk' => ?_, fun v' hv' => ⟨?_, fun e' he' => ?_⟩⟩⟩, fun m' hm' => ?_⟩
  · rw [drS_V]
    exact (h.1.2 _ (drO_lt hm hm')).1 k' hk'
  · rw [drS_C]
    exact ((h.1.2 _ (drO_lt hm hm')).2 v' hv').1
  · rw [drS_C] at he'
    rw [drS_E]
    exact ((h.1.2 _ (drO_lt hm hm')).2 v' hv').2 e' he'
  · have := h.2 _ (drO_lt hm hm')
    unfold okV at this ⊢
    simp only [drS_V]
    exact this
theorem RC_drS (h : okC S) (hR : RC S (iI S.1) cells) (hm : m < S.1) : RC (drS S m) (iI ((S.1 - 1 : Nat) : Int)) (va_cpy cells cells (57 * (m + 1)) (57 * m) (57 * (S.1 - m - 1))) := by
  have g : ∀ m' o, m' < (drS S m).1 → o < 57 → va_cpy cells cells (57 * (m + 1)) (57 * m) (57 * (S.1 - m - 1)) (57 * m' + o) = cells (57 * drO m m' + o) := by
    intro m' o hm' ho
    have h2 : m' < S.1 - 1 := hm'
    rw [zcpy_at]
    unfold drO
    by_cases q : m ≤ m'
    · rw [if_pos (by omega), if_pos q]
      congr 1 <;> omega
    · rw [if_neg (by omega), if_neg q]
  refine ⟨rfl, fun m' hm' => ⟨fun k' hk' => ?_, fun v' hv' => ⟨?_, fun e' he' => ?_⟩⟩⟩
  · rw [g m' k' hm' (by omega), drS_V]
    exact (hR.2 _ (drO_lt hm hm')).1 k' hk'
  · have := g m' (7 + 25 * v') hm' (by omega)
    rw [show 57 * m' + 7 + 25 * v' = 57 * m' + (7 + 25 * v') by omega, this, drS_C]
    have := ((hR.2 _ (drO_lt hm hm')).2 v' hv').1
    rw [← this]
    congr 1 <;> omega
  · rw [drS_C] at he'
    have hC := okC_C h (drO_lt hm hm') hv'
    have := g m' (8 + 25 * v' + e') hm' (by omega)
    rw [show 57 * m' + 8 + 25 * v' + e' = 57 * m' + (8 + 25 * v' + e') by omega, this, drS_E]
    have := ((hR.2 _ (drO_lt hm hm')).2 v' hv').2 e' he'
    rw [← this]
    congr 1 <;> omega
/-- the reference's row with a measure less -/
def drM (S : zSt) (m : Nat) (st : Nat → Int32) (k : Nat) : Int32 := if k = 0 then iI ((S.1 - 1 : Nat) : Int) else if 201 * m + 1 ≤ k ∧ k < 201 * (S.1 - 1) + 1 then st (k + 201) else st k
theorem X4_dropMeasure (h : okC S) (hm : m < S.1) : f_X4_dropMeasure N (iI S.1) cells (iI m) = some (iI ((S.1 - 1 : Nat) : Int), va_cpy cells cells (57 * (m + 1)) (57 * m) (57 * (S.1 - m - 1))) := by
  have h1 := h.1
  have e1 : (iI (m : Int) + 1) * 57 = iI ((57 * (m + 1) : Nat) : Int) := by rw [iL57, iIp1, iI_mul]; congr 1 <;> omega
  have e2 : iI (m : Int) * 57 = iI ((57 * m : Nat) : Int) := by rw [iL57, iI_mul]; congr 1 <;> omega
  have e3 : ((iI (S.1 : Int) - iI m) - 1) * 57 = iI ((57 * (S.1 - m - 1) : Nat) : Int) := by rw [iL57, iI_sub, iIs1, iI_mul]; congr 1 <;> omega
  unfold f_X4_dropMeasure
  rw [z_be (z_p1 (show 0 ≤ (m : Int) ∧ (m : Int) < S.1 by omega) (X4_hasMeasure h (zIn_ m (by omega)))), if_neg ne10, z_sb, e1, e2, e3, zCpyI (by omega) (by omega) (by omega) (by omega) (by omega) (by omega) (by omega), z_sb, z_sb, iIs1, show (S.1 : Int) - 1 = ((S.1 - 1 : Nat) : Int) by omega]
  rfl
theorem C_removeMeasure {n0 n1 n2 n3 : Int32} {c0 c1 c2 c3 : Nat → Int32} (h : okS S) (hR : RC S (iI S.1) cells) (hnx : nx < 4) (hl : hs.length ≤ 4) (hG : zRg hs nx (zSl n0 n1 n2 n3 c0 c1 c2 c3)) (hm : m < S.1) (hN : 4000 ≤ N) : zT (f_X9_removeMeasure N (iI nx) (iI hs.length) pn (iI S.1) n0 n1 n2 n3 pf cells held shifts c0 c1 c2 c3 (iI m)) (fun s => ∃ a, s = .inl a ∧ a.1 = iI ((S.1 - 1 : Nat) : Int) ∧ a.2.2.2.2.1 = iI ((drS S m).1 : Int) ∧ edA (drS S m) ((S :: hs).take 4) ((nx + 1) % 4) (a.1, a.2.1, a.2.2.1, a.2.2.2.1, a.2.2.2.2.2)) := by
  have h1 := h.1.1
  have hx' := okS_drS h hm
  have hR' := RC_drS h.1 hR hm
  unfold f_X9_removeMeasure
  rw [zSub_rq (C_rqM h.1 (zIn_ m (by omega))), if_pos (by omega)]
  refine zT_bind (zT_mono (X1_push h.1 hR hnx hl hG) ?_)
  rintro ⟨r1, r2, r3, r4, r5, r6, r7, r8, r9, r10⟩ ⟨q1, q2, q3⟩
  refine zT_bindE (X4_dropMeasure h.1 hm) (zT_bind (zT_mono (X9_settle (S := drS S m) hx' hR' hN) ?_))
  rintro ⟨u1, u2, u3, u4⟩ ⟨p1, p2, p3⟩
  exact zT_bindE (show f_X4_size N (iI ((S.1 - 1 : Nat) : Int)) = some (iI ((S.1 - 1 : Nat) : Int)) from rfl) (zT_some ⟨_, rfl, rfl, rfl, q1, q2, q3, p1, hR', p2, p3⟩)
end ZNK
