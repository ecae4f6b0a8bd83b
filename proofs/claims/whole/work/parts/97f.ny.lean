/-! ===== the hash ===== -/
def mx (h : Int64) (v : Int) : Int64 := (31 * h) + (iI v).toInt64
/-- the hash of the first so many of some values -/
def mxF (f : Nat → Int) : Nat → Int64 → Int64
  | 0, h => h
  | k + 1, h => mx (mxF f k h) (f k)
def mxV (S : zSt) (m v : Nat) : Nat → Int64 → Int64
  | 0, h => h
  | e + 1, h => mxF (fun k => evv S m v e k) 10 (mxV S m v e h)
def mxM (S : zSt) (m : Nat) (h : Int64) : Int64 := mxF (gB (zwR (snW S m))) (zwR (snW S m)).length (mx (mx (mxV S m 1 (S.2.2.1 m 1) (mxV S m 0 (S.2.2.1 m 0) (mxF (fun k => mv S m k) 12 h))) (crI S m (S.2.2.1 m 0))) (tpS S m (oEnd S).2.2.2.2.1))
def mxA (S : zSt) : Nat → Int64 → Int64
  | 0, h => h
  | m + 1, h => mxM S m (mxA S m h)
def mxD (S : zSt) (n L : Nat) (T : Nat → Int) : Int64 := mx (mxF (fun k => (oEnd S).2.2.2.2.2 k) (oEnd S).2.2.2.2.1 (mxA S S.1 (mxF (fun k => whS S L k) 9 (mx 43179 n)))) (faS T L).1
section ZOD
variable {N L t w v k m nx e : Nat} {T : Nat → Int} {tb text cells rd st held shifts past pf dc : Nat → Int32} {a b c nb hk ht code pn : Int32} {p : Nat × Nat} {s : pS} {lo hi : Int} {S X : zSt} {x : zEv} {hs : List zSt} {K : zKT} {M : zMT} {h0 : Int64}
theorem z_sl {α β : Type} {o : Option (α ⊕ Nat)} {y : α} {C : α → Option (β ⊕ Nat)} (h : o = some (.inl y)) : zSub o C = C y := by rw [h]; rfl
theorem X9_mx (h : Int64) (v : Int) : f_X9_mix N h ((iI v).toInt64) = some (mx h v) := rfl
theorem X10_mx (h : Int64) (v : Int) : f_X10_mix N h (iI v) = some (mx h v) := rfl
theorem C_mixValues (h : okS S) (hR : RC S (iI S.1) cells) (hm : m < S.1) (hN : 2000 ≤ N) : f_X9_mixValues N (iI S.1) cells h0 (iI m) = some (.inl (mxF (fun k => mv S m k) 12 h0)) := by
  have h1 := h.1.1
  unfold f_X9_mixValues
  refine z_eqT (zT_loop (fun n z => ∃ j : Nat, j ≤ 12 ∧ n = 12 - j ∧ z = (mxF (fun k => mv S m k) j h0, iI j)) ?_ N 12 _ (by omega) ⟨0, by omega, rfl, rfl⟩)
  rintro n z kk ⟨j, hj, rfl, rfl⟩ ih
  unfold f_X9_mixValues_B6
  dsimp only
  refine zT_ite (fun r => ?_) (fun r => ?_)
  · rw [iL12, iI_lt (by omega) (by omega) (by omega) (by omega)] at r
    have e := C_measure (N := N) (a := m) (b := j) h hR (by unfold zInt; omega) (by unfold zInt; omega) (by omega)
    rw [if_pos (by omega), if_pos (by omega), Int.toNat_natCast] at e
    rw [z_sl e]
    exact zT_bindE (X9_mx _ _) (zT_bindE rfl (ih (12 - (j + 1)) _ (by omega) ⟨j + 1, by omega, rfl, by rw [iIp1]; rfl⟩))
  · rw [iL12, iI_lt (by omega) (by omega) (by omega) (by omega)] at r
    rw [show j = 12 by omega]
    exact zT_some rfl
theorem C_mixVoice (h : okS S) (hR : RC S (iI S.1) cells) (hF : FSp S shifts 768) (hH : FH S held (fun _ _ _ => True)) (hm : m < S.1) (hv : v < 2) (hN : 2000 ≤ N) : f_X9_mixVoice N (iI S.1) cells held shifts h0 (iI m) (iI v) = some (.inl (mxV S m v (S.2.2.1 m v) h0)) := by
  have h1 := h.1.1
  have hC := okC_C h.1 hm hv
  unfold f_X9_mixVoice
  refine z_eqT (zT_loop (fun n z => ∃ e : Nat, e ≤ S.2.2.1 m v ∧ n = S.2.2.1 m v - e ∧ z = (mxV S m v e h0, iI e)) ?_ N (S.2.2.1 m v) _ (by omega) ⟨0, by omega, rfl, rfl⟩)
  rintro n z kk ⟨e, he, rfl, rfl⟩ ih
  unfold f_X9_mixVoice_B6
  dsimp only
  refine zT_bindE (X4_count_at h.1 hR hm hv) (zT_ite (fun r => ?_) (fun r => ?_))
  · rw [iI_lt (by omega) (by omega) (by omega) (by omega)] at r
    have he2 : e < S.2.2.1 m v := by omega
    refine zT_loop (fun n z => ∃ j : Nat, j ≤ 10 ∧ n = 10 - j ∧ z = (mxF (fun k => evv S m v e k) j (mxV S m v e h0), iI j)) ?_ N 10 _ (by omega) ⟨0, by omega, rfl, rfl⟩
    rintro n z kk2 ⟨j, hj, rfl, rfl⟩ ih2
    unfold f_X9_mixVoice_B24
    dsimp only
    refine zT_ite (fun r2 => ?_) (fun r2 => ?_)
    · rw [iL10, iI_lt (by omega) (by omega) (by omega) (by omega)] at r2
      have ev := C_event (N := N) (a := m) (b := v) (c := e) (w := j) h.1 hR hF hH (by unfold zInt; omega) (by unfold zInt; omega) (by unfold zInt; omega) (by unfold zInt; omega) (by omega)
      rw [if_pos (by rw [gC_at hm hv]; omega), if_pos (by omega), Int.toNat_natCast, Int.toNat_natCast, Int.toNat_natCast] at ev
      rw [z_sl ev]
      exact zT_bindE (X9_mx _ _) (zT_bindE rfl (ih2 (10 - (j + 1)) _ (by omega) ⟨j + 1, by omega, rfl, by rw [iIp1]; rfl⟩))
    · rw [iL10, iI_lt (by omega) (by omega) (by omega) (by omega)] at r2
      rw [show j = 10 by omega]
      exact zT_bindE rfl (ih (S.2.2.1 m v - (e + 1)) _ (by omega) ⟨e + 1, by omega, rfl, by rw [iIp1]; rfl⟩)
  · rw [iI_lt (by omega) (by omega) (by omega) (by omega)] at r
    rw [show e = S.2.2.1 m v by omega]
    exact zT_some rfl
theorem C_mixSentence (h : okS S) (hR : RC S (iI S.1) cells) (hm : m < S.1) {by0 : Nat → Int32} (hN : 2000 ≤ N) : zT (f_X9_mixSentence N (iI S.1) a b cells by0 h0 (iI m)) (fun r => r.1 = mxF (gB (zwR (snW S m))) (zwR (snW S m)).length h0) := by
  have hlen := snR_len h hm
  unfold f_X9_mixSentence
  refine zT_bind (zT_mono (X5_tellMeasure h hR hm (by omega)) ?_)
  rintro r ⟨t1, t2⟩
  refine zT_bind (zT_mono (P := fun q => q = mxF (gB (zwR (snW S m))) (zwR (snW S m)).length h0) (zT_loop (fun n z => ∃ j : Nat, j ≤ (zwR (snW S m)).length ∧ n = (zwR (snW S m)).length - j ∧ z = (mxF (gB (zwR (snW S m))) j h0, iI j)) ?_ N (zwR (snW S m)).length _ (by omega) ⟨0, by omega, rfl, rfl⟩) (fun q hq => zT_some hq))
  rintro n z kk ⟨j, hj, rfl, rfl⟩ ih
  unfold f_X9_mixSentence_B18
  dsimp only
  refine zT_bindE (show f_X5_length N r.1 = some r.1 from rfl) ?_
  have hl : (iI (j : Int) < r.1) = (j < (zwR (snW S m)).length) := by
    rw [t1.1, iI_lt (by omega) (by omega) (by omega) (by omega)]
    exact propext ⟨fun h => by omega, fun h => by omega⟩
  refine zT_ite (fun q => ?_) (fun q => ?_)
  · rw [hl] at q
    exact zT_bindE (X5_at (l := (r.1, r.2.2)) t1 hlen q) (zT_bindE (X9_mx _ _) (zT_bindE rfl (ih ((zwR (snW S m)).length - (j + 1)) _ (by omega) ⟨j + 1, by omega, rfl, by rw [iIp1]; rfl⟩)))
  · rw [hl] at q
    rw [show j = (zwR (snW S m)).length by omega]
    exact zT_some rfl
theorem C_digest (h : okS S) (hR : RC S (iI S.1) cells) (hO : oF S pn pf) (hF : FSp S shifts 768) (hH : FH S held (fun _ _ _ => True)) (hT : okT T L) (hx : zTx L T (iI L) tb) {n : Nat} {f0 f1 f2 sl wc ds : Int32} {sb : Nat → Int32} (hN : 4000 ≤ N) : zT (f_X9_digest N (iI n) pn f0 f1 f2 (iI S.1) sl wc (iI L) pf ds cells sb held shifts tb dc) (fun r => ∃ q, r = .inl q ∧ q.1 = mxD S n L T) := by
  have h1 := h.1.1
  have hb := oEnd_b h
  unfold f_X9_digest
  refine zT_bindE (show f_X1_size N (iI n) = some (iI n) from rfl) (zT_bindE (X9_mx _ _) ?_)
  refine zT_loop (fun l z => ∃ j : Nat, j ≤ 9 ∧ l = 9 - j ∧ z = (mxF (fun k => whS S L k) j (mx 43179 n), iI j)) ?_ N 9 _ (by omega) ⟨0, by omega, rfl, rfl⟩
  rintro l z kk ⟨j, hj, rfl, rfl⟩ ih
  unfold f_X9_digest_B17
  dsimp only
  refine zT_ite (fun r => ?_) (fun r => ?_)
  · rw [iL9, iI_lt (by omega) (by omega) (by omega) (by omega)] at r
    have e := C_whole (N := N) (l := (L : Int)) (w := j) h hR hO hH (by unfold zInt; omega) hN
    rw [if_pos (by omega)] at e
    rw [z_sl e]
    exact zT_bindE (X9_mx _ _) (zT_bindE rfl (ih (9 - (j + 1)) _ (by omega) ⟨j + 1, by omega, rfl, by rw [iIp1]; rfl⟩))
  · rw [iL9, iI_lt (by omega) (by omega) (by omega) (by omega)] at r
    rw [show j = 9 by omega]
    clear ih
    generalize hgv : mxF (fun k => whS S L k) 9 (mx 43179 n) = g
    have hD : mxD S n L T = mx (mxF (fun k => (oEnd S).2.2.2.2.2 k) (oEnd S).2.2.2.2.1 (mxA S S.1 g)) (faS T L).1 := by rw [← hgv]; rfl
    rw [hD]
    refine zT_loop (fun l z => ∃ i : Nat, i ≤ S.1 ∧ l = S.1 - i ∧ z.1 = mxA S i g ∧ z.2.1 = iI i) ?_ N S.1 _ (by omega) ⟨0, by omega, rfl, rfl, rfl⟩
    rintro l ⟨z1, z2, z3, z4, z5⟩ kk2 ⟨i, hi, rfl, q1, q2⟩ ih2
    dsimp only at q1 q2
    subst q1
    subst q2
    unfold f_X9_digest_B42
    dsimp only
    refine zT_bindE (show f_X4_size N (iI S.1) = some (iI S.1) from rfl) (zT_ite (fun r2 => ?_) (fun r2 => ?_))
    · rw [iI_lt (by omega) (by omega) (by omega) (by omega)] at r2
      have hm : i < S.1 := by omega
      rw [z_sl (C_mixValues h hR hm (by omega)), z_sl (show f_X9_mixVoice N (iI S.1) cells held shifts _ (iI i) 0 = _ from C_mixVoice (v := 0) h hR hF hH hm (by omega) (by omega)), z_sl (show f_X9_mixVoice N (iI S.1) cells held shifts _ (iI i) 1 = _ from C_mixVoice (v := 1) h hR hF hH hm (by omega) (by omega))]
      have ec := C_crossings (N := N) (a := i) h hR hF (by unfold zInt; omega) (by omega)
      rw [if_pos (by omega), Int.toNat_natCast] at ec
      have et := C_timesPlayed (N := N) (a := i) h hO (by unfold zInt; omega) hN
      rw [if_pos (by omega)] at et
      rw [z_sl ec, z_be (X9_mx _ _), z_sl et, z_be (X9_mx _ _)]
      refine zT_bind (zT_mono (C_mixSentence h hR hm (by omega)) (fun q hq => zT_bindE rfl (ih2 (S.1 - (i + 1)) _ (by omega) ⟨i + 1, by omega, rfl, hq, iIp1 _⟩)))
    · rw [iI_lt (by omega) (by omega) (by omega) (by omega)] at r2
      rw [show i = S.1 by omega]
      clear ih2
      refine zT_bind (zT_mono (P := fun q => q = mxF (fun k => (oEnd S).2.2.2.2.2 k) (oEnd S).2.2.2.2.1 (mxA S S.1 g)) (zT_loop (fun l z => ∃ j : Nat, j ≤ (oEnd S).2.2.2.2.1 ∧ l = (oEnd S).2.2.2.2.1 - j ∧ z = (mxF (fun k => (oEnd S).2.2.2.2.2 k) j (mxA S S.1 g), iI j)) ?_ N (oEnd S).2.2.2.2.1 _ (by omega) ⟨0, by omega, rfl, rfl⟩) ?_)
      · rintro l z kk3 ⟨j, hj, rfl, rfl⟩ ih3
        unfold f_X9_digest_B113
        dsimp only
        refine zT_bindE (show f_X2_size N pn = some pn from rfl) ?_
        have hl : (iI (j : Int) < pn) = ((j : Int) < ((oEnd S).2.2.2.2.1 : Int)) := by rw [hO.1]; exact iI_lt (by omega) (by omega) (by omega) (by omega)
        refine zT_ite (fun r3 => ?_) (fun r3 => ?_)
        · rw [hl] at r3
          exact zT_bindE (X2_at h hO (by omega)) (zT_bindE (X9_mx _ _) (zT_bindE rfl (ih3 ((oEnd S).2.2.2.2.1 - (j + 1)) _ (by omega) ⟨j + 1, by omega, rfl, by rw [iIp1]; rfl⟩)))
        · rw [hl] at r3
          rw [show j = (oEnd S).2.2.2.2.1 by omega]
          exact zT_some rfl
      · rintro q rfl
        refine zT_bind (zT_mono (X3_findFault hT hx (by omega)) ?_)
        rintro r ⟨r1, r2, r3, r4⟩
        rw [r1]
        exact zT_bindE (X9_mx _ _) (zT_some ⟨_, rfl, rfl⟩)
end ZOD
section ZOE
variable {N L t w v k m nx e : Nat} {T : Nat → Int} {tb text cells rd st held shifts past pf dc : Nat → Int32} {a b c nb hk ht code pn : Int32} {p : Nat × Nat} {s : pS} {lo hi : Int} {S X : zSt} {x : zEv} {hs : List zSt} {K : zKT} {M : zMT} {h0 : Int64}
theorem X10_wholeT (h : okS S) (hR : RM S st) {l w : Int} (hw : 0 ≤ w ∧ w ≤ 8) (vE vM : Int32) {x0 : Int32} {f0 : Nat → Int32} (hN : 4000 ≤ N) : zT (f_X10_wholeTold N (iI l) vE vM x0 f0 st (iI w)) (fun r => r.1 = iI (whS S l w)) := by
  obtain ⟨q, hq, h2⟩ := M_whole (N := N) (code := 0) (l := l) (w := w) h hR (by unfold zInt; omega) vE vM (x0 := x0) (f0 := f0) hN
  have hi := X10_in (N := N) (x := w) (a := 0) (b := 8) (by unfold zInt; omega) (by unfold zInt; omega) (by unfold zInt; omega)
  have e2 : f_X10_in N (iI w) 0 8 = some 1 := z_p1 hw hi
  rw [if_pos hw] at h2
  unfold f_X10_whole at hq
  rw [z_be e2, if_neg ne10, z_sb, z_be (X10_ref0 _), if_pos (f00 0)] at hq
  obtain ⟨r, hr, h3⟩ := z_bind hq
  cases h3
  exact ⟨r, hr, h2.1⟩
theorem X10_playsT (h : okS S) (hR : RM S st) (hm : m < S.1) {x0 : Int32} {f0 : Nat → Int32} (hN : 4000 ≤ N) : zT (f_X10_plays N x0 f0 st (iI m)) (fun r => r.1 = iI (tpS S m (oEnd S).2.2.2.2.1)) := by
  have h1 := h.1.1
  obtain ⟨q, hq, h2⟩ := M_timesPlayed (N := N) (code := 0) (a := m) h hR (by unfold zInt; omega) (x0 := x0) (f0 := f0) hN
  have hmm : 0 ≤ (m : Int) ∧ (m : Int) < S.1 := by omega
  rw [if_pos hmm] at h2
  unfold f_X10_timesPlayed at hq
  rw [z_be (z_p1 hmm (X10_isMeasure h.1 hR (by unfold zInt; omega))), if_neg ne10, z_sb, z_be (X10_ref0 _), if_pos (f00 0)] at hq
  obtain ⟨r, hr, h3⟩ := z_bind hq
  cases h3
  exact ⟨r, hr, h2.1⟩
theorem X10_mixMeasure (h : okS S) (hR : RM S st) (hm : m < S.1) {lm nE nM pl : Int32} {ln pd : Nat → Int32} (hN : 4000 ≤ N) : zT (f_X10_mixMeasure N h0 lm nE nM pl ln pd zSp st (iI m)) (fun r => r.1 = mxM S m h0) := by
  have h1 := h.1.1
  have hlen := snR_len h hm
  unfold f_X10_mixMeasure
  refine zT_bind (zT_mono (P := fun q => q = mxF (fun k => mv S m k) 12 h0) (zT_loop (fun n z => ∃ j : Nat, j ≤ 12 ∧ n = 12 - j ∧ z = (iI j, mxF (fun k => mv S m k) j h0)) ?_ N 12 _ (by omega) ⟨0, by omega, rfl, rfl⟩) ?_)
  · rintro n z kk ⟨j, hj, rfl, rfl⟩ ih
    unfold f_X10_mixMeasure_B2
    dsimp only
    refine zT_ite (fun r => ?_) (fun r => ?_)
    · rw [iL12, iI_lt (by omega) (by omega) (by omega) (by omega)] at r
      exact zT_bindE (X10_measureTold (b := j) h hR hm (by omega) (by omega)) (zT_bindE (X10_mx _ _) (zT_bindE rfl (ih (12 - (j + 1)) _ (by omega) ⟨j + 1, by omega, rfl, by rw [iIp1]; rfl⟩)))
    · rw [iL12, iI_lt (by omega) (by omega) (by omega) (by omega)] at r
      rw [show j = 12 by omega]
      exact zT_some rfl
  rintro q rfl
  have vo : ∀ (v : Nat) (hv : v < 2) (g : Int64) (xE xM yE yM : Int32) (y1 : Int64), zT (zLoop (f_X10_mixMeasure_B33 N st (iI m) (iI v, y1, yE, yM)) N (0, g, xE, xM)) (fun r => r.1 = mxV S m v (S.2.2.1 m v) g) := by
    intro v hv g xE xM yE yM y1
    have hC := okC_C h.1 hm hv
    refine zT_loop (fun n z => ∃ e : Nat, e ≤ S.2.2.1 m v ∧ n = S.2.2.1 m v - e ∧ z.1 = iI e ∧ z.2.1 = mxV S m v e g) ?_ N (S.2.2.1 m v) _ (by omega) ⟨0, by omega, rfl, rfl, rfl⟩
    rintro n ⟨z1, z2, z3, z4⟩ kk ⟨e, he, rfl, q1, q2⟩ ih
    dsimp only at q1 q2
    subst q1
    subst q2
    unfold f_X10_mixMeasure_B33
    dsimp only
    have ec : f_X10_of N st (iI m) (7 + iI v) = some (iI (S.2.2.1 m v)) := by
      rw [iL7, iI_add]
      exact X10_of_C h.1 hR hm hv rfl
    refine zT_bindE ec (zT_ite (fun r => ?_) (fun r => ?_))
    · rw [iI_lt (by omega) (by omega) (by omega) (by omega)] at r
      have he2 : e < S.2.2.1 m v := by omega
      refine zT_bind (zT_mono (P := fun r => r.1 = mxF (fun k => evv S m v e k) 10 (mxV S m v e g)) (zT_loop (fun n z => ∃ j : Nat, j ≤ 10 ∧ n = 10 - j ∧ z.1 = iI j ∧ z.2.1 = mxF (fun k => evv S m v e k) j (mxV S m v e g)) ?_ N 10 _ (by omega) ⟨0, by omega, rfl, rfl, rfl⟩) ?_)
      · rintro n ⟨z1, z2, z5, z6⟩ kk2 ⟨j, hj, rfl, q1, q2⟩ ih2
        dsimp only at q1 q2
        subst q1
        subst q2
        unfold f_X10_mixMeasure_B49
        dsimp only
        refine zT_ite (fun r2 => ?_) (fun r2 => ?_)
        · rw [iL10, iI_lt (by omega) (by omega) (by omega) (by omega)] at r2
          refine zT_bind (zT_mono (X10_eventTold (w := j) h hR hm hv he2 (by omega) z5 z6 (by omega)) ?_)
          rintro ⟨u1, u2, u3⟩ hu
          dsimp only at hu ⊢
          subst hu
          exact zT_bindE (X10_mx _ _) (zT_bindE rfl (ih2 (10 - (j + 1)) _ (by omega) ⟨j + 1, by omega, rfl, iIp1 _, rfl⟩))
        · rw [iL10, iI_lt (by omega) (by omega) (by omega) (by omega)] at r2
          rw [show j = 10 by omega]
          exact zT_some rfl
      · rintro ⟨u1, u2, u3⟩ hu
        dsimp only at hu ⊢
        subst hu
        exact zT_bindE rfl (ih (S.2.2.1 m v - (e + 1)) _ (by omega) ⟨e + 1, by omega, rfl, iIp1 _, rfl⟩)
    · rw [iI_lt (by omega) (by omega) (by omega) (by omega)] at r
      rw [show e = S.2.2.1 m v by omega]
      exact zT_some rfl
  generalize hg : mxF (fun k => mv S m k) 12 h0 = g
  have hM : mxM S m h0 = mxF (gB (zwR (snW S m))) (zwR (snW S m)).length (mx (mx (mxV S m 1 (S.2.2.1 m 1) (mxV S m 0 (S.2.2.1 m 0) g)) (crI S m (S.2.2.1 m 0))) (tpS S m (oEnd S).2.2.2.2.1)) := by rw [← hg]; rfl
  rw [hM]
  refine zT_bind (zT_mono (P := fun r => r.1 = mxV S m 1 (S.2.2.1 m 1) (mxV S m 0 (S.2.2.1 m 0) g)) ?_ ?_)
  · obtain ⟨n, rfl⟩ : ∃ n, N = n + 3 := ⟨N - 3, by omega⟩
    show zT (f_X10_mixMeasure_B26 (n + 3) st (iI m) (zLoop (f_X10_mixMeasure_B26 (n + 3) st (iI m)) (n + 2)) _) _
    unfold f_X10_mixMeasure_B26
    dsimp only
    rw [if_pos (by decide)]
    refine zT_bind (zT_mono (vo 0 (by omega) g _ _ _ _ _) ?_)
    rintro ⟨u1, u2, u3⟩ hu
    dsimp only at hu ⊢
    subst hu
    refine zT_bindE rfl ?_
    show zT (f_X10_mixMeasure_B26 (n + 3) st (iI m) (zLoop (f_X10_mixMeasure_B26 (n + 3) st (iI m)) (n + 1)) _) _
    unfold f_X10_mixMeasure_B26
    dsimp only
    rw [if_pos (by decide)]
    refine zT_bind (zT_mono (vo 1 (by omega) _ _ _ _ _ _) ?_)
    rintro ⟨u1, u2, u3⟩ hu
    dsimp only at hu ⊢
    subst hu
    refine zT_bindE rfl ?_
    show zT (f_X10_mixMeasure_B26 (n + 3) st (iI m) (zLoop (f_X10_mixMeasure_B26 (n + 3) st (iI m)) n) _) _
    unfold f_X10_mixMeasure_B26
    dsimp only
    rw [if_neg (by decide)]
    exact zT_some rfl
  rintro ⟨u1, u2, u3⟩ hu
  dsimp only at hu ⊢
  subst hu
  refine zT_bindE (X10_crossed h hR hm (by omega)) (zT_bindE (X10_mx _ _) (zT_bind (zT_mono (X10_playsT h hR hm hN) ?_)))
  rintro ⟨p1, p2, p3⟩ hp
  dsimp only at hp ⊢
  subst hp
  refine zT_bindE (X10_mx _ _) (zT_bind (zT_mono (X10_tellsAll h hR hm (by omega)) ?_))
  rintro l ⟨t1, t2⟩
  generalize mx (mx (mxV S m 1 (S.2.2.1 m 1) (mxV S m 0 (S.2.2.1 m 0) g)) (crI S m (S.2.2.1 m 0))) (tpS S m (oEnd S).2.2.2.2.1) = g2
  refine zT_bind (zT_mono (P := fun q => q = mxF (gB (zwR (snW S m))) (zwR (snW S m)).length g2) (zT_loop (fun n z => ∃ j : Nat, j ≤ (zwR (snW S m)).length ∧ n = (zwR (snW S m)).length - j ∧ z = (iI j, mxF (gB (zwR (snW S m))) j g2)) ?_ N (zwR (snW S m)).length _ (by omega) ⟨0, by omega, rfl, rfl⟩) (fun q hq => zT_some hq))
  rintro n z kk ⟨j, hj, rfl, rfl⟩ ih
  unfold f_X10_mixMeasure_B112
  dsimp only
  rw [t1.1]
  refine zT_ite (fun q => ?_) (fun q => ?_)
  · rw [iI_lt (by omega) (by omega) (by omega) (by omega)] at q
    rw [zAldI (by omega) (by omega) (by omega), Int.toNat_natCast, t1.2 j (by omega)]
    exact zT_bindE rfl (zT_bindE (X10_mx _ _) (zT_bindE rfl (ih ((zwR (snW S m)).length - (j + 1)) _ (by omega) ⟨j + 1, by omega, rfl, by rw [iIp1]; rfl⟩)))
  · rw [iI_lt (by omega) (by omega) (by omega) (by omega)] at q
    rw [show j = (zwR (snW S m)).length by omega]
    exact zT_some rfl
theorem M_digest (h : okS S) (hR : RM S st) (hT : okT T L) (hx : zTx L T (iI L) text) {n : Nat} {f0 lm nE nM nu pl to : Int32} {hh : Int64} {ln pd rd : Nat → Int32} (hN : 4000 ≤ N) : zT (f_X10_digest N code f0 hh hk ht (iI L) lm nE nM nu (iI n) pl to ln pd rd zSp st text) (fun r => r.1 = mxD S n L T ∧ r.2.1 = 0) := by
  have h1 := h.1.1
  have hb := oEnd_b h
  unfold f_X10_digest
  refine zT_bindE rfl (zT_bindE (X10_mx _ _) (zT_bind (zT_mono (P := fun r => r.1 = mxF (fun k => whS S L k) 9 (mx 43179 n)) (zT_loop (fun l z => ∃ j : Nat, j ≤ 9 ∧ l = 9 - j ∧ z.1 = iI j ∧ z.2.1 = mxF (fun k => whS S L k) j (mx 43179 n)) ?_ N 9 _ (by omega) ⟨0, by omega, rfl, rfl, rfl⟩) ?_)))
  · rintro l ⟨z1, z2, z3, z4, z5, z6⟩ kk ⟨j, hj, rfl, q1, q2⟩ ih
    dsimp only at q1 q2
    subst q1
    subst q2
    unfold f_X10_digest_B22
    dsimp only
    refine zT_ite (fun r => ?_) (fun r => ?_)
    · rw [iL9, iI_lt (by omega) (by omega) (by omega) (by omega)] at r
      refine zT_bind (zT_mono (X10_wholeT (l := (L : Int)) (w := j) h hR (by omega) z3 z4 hN) ?_)
      rintro ⟨u1, u2, u3, u4, u5⟩ hu
      dsimp only at hu ⊢
      subst hu
      exact zT_bindE (X10_mx _ _) (zT_bindE rfl (ih (9 - (j + 1)) _ (by omega) ⟨j + 1, by omega, rfl, iIp1 _, rfl⟩))
    · rw [iL9, iI_lt (by omega) (by omega) (by omega) (by omega)] at r
      rw [show j = 9 by omega]
      exact zT_some rfl
  rintro ⟨u1, u2, u3, u4, u5⟩ hu
  dsimp only at hu ⊢
  generalize hgv : mxF (fun k => whS S L k) 9 (mx 43179 n) = g at hu
  have hD : mxD S n L T = mx (mxF (fun k => (oEnd S).2.2.2.2.2 k) (oEnd S).2.2.2.2.1 (mxA S S.1 g)) (faS T L).1 := by rw [← hgv]; rfl
  subst hu
  rw [hD]
  refine zT_bind (zT_mono (P := fun r => r.1 = mxA S S.1 u1) (zT_loop (fun l z => ∃ i : Nat, i ≤ S.1 ∧ l = S.1 - i ∧ z.1 = iI i ∧ z.2.1 = mxA S i u1) ?_ N S.1 _ (by omega) ⟨0, by omega, rfl, rfl, rfl⟩) ?_)
  · rintro l ⟨z1, z2, z3, z4, z5, z6, z7, z8⟩ kk ⟨i, hi, rfl, q1, q2⟩ ih
    dsimp only at q1 q2
    subst q1
    subst q2
    unfold f_X10_digest_B45
    dsimp only
    refine zT_bindE (zlds0 hR) (zT_ite (fun r => ?_) (fun r => ?_))
    · rw [iI_lt (by omega) (by omega) (by omega) (by omega)] at r
      refine zT_bind (zT_mono (X10_mixMeasure h hR (show i < S.1 by omega) hN) ?_)
      rintro ⟨w1, w2, w3, w4, w5, w6, w7⟩ hw
      dsimp only at hw ⊢
      subst hw
      exact zT_bindE rfl (ih (S.1 - (i + 1)) _ (by omega) ⟨i + 1, by omega, rfl, iIp1 _, rfl⟩)
    · rw [iI_lt (by omega) (by omega) (by omega) (by omega)] at r
      rw [show i = S.1 by omega]
      exact zT_some rfl
  rintro ⟨w1, w2, w3, w4, w5, w6, w7⟩ hw
  dsimp only at hw ⊢
  subst hw
  refine zT_bind (zT_mono (X10_finds h hR hN) ?_)
  rintro ⟨pn, pf⟩ hO
  dsimp only at hO ⊢
  refine zT_bind (zT_mono (P := fun q => q = mxF (fun k => (oEnd S).2.2.2.2.2 k) (oEnd S).2.2.2.2.1 (mxA S S.1 u1)) (zT_loop (fun l z => ∃ j : Nat, j ≤ (oEnd S).2.2.2.2.1 ∧ l = (oEnd S).2.2.2.2.1 - j ∧ z = (iI j, mxF (fun k => (oEnd S).2.2.2.2.2 k) j (mxA S S.1 u1))) ?_ N (oEnd S).2.2.2.2.1 _ (by omega) ⟨0, by omega, rfl, rfl⟩) ?_)
  · rintro l z kk3 ⟨j, hj, rfl, rfl⟩ ih3
    unfold f_X10_digest_B72
    dsimp only
    have hl : (iI (j : Int) < pn) = ((j : Int) < ((oEnd S).2.2.2.2.1 : Int)) := by rw [hO.1]; exact iI_lt (by omega) (by omega) (by omega) (by omega)
    refine zT_ite (fun r3 => ?_) (fun r3 => ?_)
    · rw [hl] at r3
      rw [zAldI (by omega) (by omega) (by omega), Int.toNat_natCast, hO.2 j (by omega)]
      exact zT_bindE rfl (zT_bindE (X10_mx _ _) (zT_bindE rfl (ih3 ((oEnd S).2.2.2.2.1 - (j + 1)) _ (by omega) ⟨j + 1, by omega, rfl, by rw [iIp1]; rfl⟩)))
    · rw [hl] at r3
      rw [show j = (oEnd S).2.2.2.2.1 by omega]
      exact zT_some rfl
  rintro q rfl
  refine zT_bind (zT_mono (P := fun r => r.1 = iI (faS T L).1) ?_ ?_)
  · unfold f_X10_faultNow
    refine zT_bind (zT_mono (X10_readsAll hT hx (by omega)) ?_)
    rintro r hr
    rcases hr with ⟨m1, m2, m3, m4⟩ | ⟨m1, m2, m3⟩
    · rw [m2, if_neg ne10]
      refine zT_some ?_
      rw [m1]
      rfl
    · rw [m2, if_pos rfl]
      exact zT_some m3
  · rintro ⟨r1, r2, r3, r4, r5, r6, r7⟩ hr
    dsimp only at hr ⊢
    subst hr
    exact zT_bindE (X10_mx _ _) (zT_some ⟨rfl, rfl⟩)
theorem zk_digest (hN : 20000 ≤ N) (hZ : zZ K M) : zS_digest N zZ K M := by
  obtain ⟨S, hs, nx, L, T, h0, hk, hO, hC, hT, hH, hF, hX, hP, hS, hR⟩ := hZ
  obtain ⟨u1, u2, u3, u4, u5, u6⟩ := h0
  have e6 := hC.1
  rw [e6] at hC
  have hTT : okT T L := ⟨u5, u6⟩
  unfold zS_digest
  rw [hk.2.1, hP.1, e6, hS, hT.1, hX.1]
  obtain ⟨r, hr, a, rfl, r1⟩ := C_digest (N := N) (n := hs.length) (f0 := K.2.2.2.1) (f1 := K.2.2.2.2.1) (f2 := K.2.2.2.2.2.1) (sl := K.2.2.2.2.2.2.2.1) (wc := K.2.2.2.2.2.2.2.2.1) (ds := K.2.2.2.2.2.2.2.2.2.2.2.2.2.2.2.1) (sb := K.2.2.2.2.2.2.2.2.2.2.2.2.2.2.2.2.2.1) (dc := K.2.2.2.2.2.2.2.2.2.2.2.2.2.2.2.2.2.2.2.2.2.2.2.2.2) u1 hC hO hF hH hTT ⟨rfl, hT.2⟩ (by omega)
  obtain ⟨b, hb, b1, b2⟩ := M_digest (N := N) (n := hs.length) (code := M.1) (f0 := M.2.1) (hh := M.2.2.1) (hk := M.2.2.2.1) (ht := M.2.2.2.2.1) (lm := M.2.2.2.2.2.2.1) (nE := M.2.2.2.2.2.2.2.1) (nM := M.2.2.2.2.2.2.2.2.1) (nu := M.2.2.2.2.2.2.2.2.2.1) (pl := M.2.2.2.2.2.2.2.2.2.2.2.1) (to := M.2.2.2.2.2.2.2.2.2.2.2.2.1) (ln := M.2.2.2.2.2.2.2.2.2.2.2.2.2.1) (pd := M.2.2.2.2.2.2.2.2.2.2.2.2.2.2.2.1) (rd := M.2.2.2.2.2.2.2.2.2.2.2.2.2.2.2.2.1) u1 hR hTT ⟨rfl, hX.2⟩ (by omega)
  exact ⟨a, b, hr, hb, r1.trans b1.symm, ⟨S, hs, nx, L, T, ⟨u1, u2, u3, u4, u5, u6⟩, ⟨hk.1, rfl, hk.2.2⟩, hO, hC, ⟨rfl, hT.2⟩, hH, hF, ⟨rfl, hX.2⟩, ⟨rfl, hP.2⟩, rfl, hR⟩⟩
end ZOE
