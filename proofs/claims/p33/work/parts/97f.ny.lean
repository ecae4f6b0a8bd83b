/-! ===== the hash ===== -/
def mx (h : Int64) (v : Int) : Int64 := (31 * h) + (iI v).toInt64
/-- the hash of the first so many of some values -/
def mxF (f : Nat → Int) : Nat → Int64 → Int64
  | 0, h => h
  | k + 1, h => mx (mxF f k h) (f k)
def mxV (S : zSt) (m v : Nat) : Nat → Int64 → Int64
  | 0, h => h
  | e + 1, h => mxF (fun k => evv S m v e k) 10 (mxV S m v e h)
def mxM (S : zSt) (m : Nat) (h : Int64) : Int64 := mxF (gB (zwR (snW S m))) (zwR (snW S m)).length (mx (mx (mxV S m 1 (S.2.2.1 m 1) (mxV S m 0 (S.2.2.1 m 0) (mxF (fun k => mv S m k) 12 h))) (crI S m (S.2.2.1 m 0))) (tpS S m (oEnd S).2.2.2.2.1))
def mxA (S : zSt) : Nat → Int64 → Int64
  | 0, h => h
  | m + 1, h => mxM S m (mxA S m h)
def mxD (S : zSt) (n L : Nat) (T : Nat → Int) : Int64 := mx (mxF (fun k => (oEnd S).2.2.2.2.2 k) (oEnd S).2.2.2.2.1 (mxA S S.1 (mxF (fun k => whS S L k) 9 (mx 43179 n)))) (faS T L).1
section ZOD
variable {N L t w v k m nx e : Nat} {T : Nat → Int} {tb text cells rd st held shifts past pf dc : Nat → Int32} {a b c nb hk ht code pn : Int32} {p : Nat × Nat} {s : pS} {lo hi : Int} {S X : zSt} {x : zEv} {hs : List zSt} {K : zKT} {h0 : Int64}
theorem z_sl {α β : Type} {o : Option (α ⊕ Nat)} {y : α} {C : α → Option (β ⊕ Nat)} (h : o = some (.inl y)) : zSub o C = C y := by rw [h]; rfl
theorem X9_mx (h : Int64) (v : Int) : f_X9_mix N h ((iI v).toInt64) = some (mx h v) := rfl
theorem C_mixValues (h : okS S) (hR : RC S (iI S.1) cells) (hm : m < S.1) (hN : 2000 ≤ N) : f_X9_mixValues N (iI S.1) cells h0 (iI m) = some (.inl (mxF (fun k => mv S m k) 12 h0)) := by
  have h1 := h.1.1
  unfold f_X9_mixValues
  refine z_eqT (zT_loop (fun n z => ∃ j : Nat, j ≤ 12 ∧ n = 12 - j ∧ z = (mxF (fun k => mv S m k) j h0, iI j)) ?_ N 12 _ (by omega) ⟨0, by omega, rfl, rfl⟩)
  rintro n z kk ⟨j, hj, rfl, rfl⟩ ih
  unfold f_X9_mixValues_B6
  dsimp only
  refine zT_ite (fun r => ?_) (fun r => ?_)
  · rw [iL12, iI_lt (by omega) (by omega) (by omega) (by omega)] at r
    have e := C_measure (N := N) (a := m) (b := j) h hR (by unfold zInt; omega) (by unfold zInt; omega) (by omega)
    rw [if_pos (by omega), if_pos (by omega), Int.toNat_natCast] at e
    rw [z_sl e]
    exact zT_bindE (X9_mx _ _) (zT_bindE rfl (ih (12 - (j + 1)) _ (by omega) ⟨j + 1, by omega, rfl, by rw [iIp1]; rfl⟩))
  · rw [iL12, iI_lt (by omega) (by omega) (by omega) (by omega)] at r
    rw [show j = 12 by omega]
    exact zT_some rfl
theorem C_mixVoice (h : okS S) (hR : RC S (iI S.1) cells) (hF : FSp S shifts 768) (hH : FH S held (fun _ _ _ => True)) (hm : m < S.1) (hv : v < 2) (hN : 2000 ≤ N) : f_X9_mixVoice N (iI S.1) cells held shifts h0 (iI m) (iI v) = some (.inl (mxV S m v (S.2.2.1 m v) h0)) := by
  have h1 := h.1.1
  have hC := okC_C h.1 hm hv
  unfold f_X9_mixVoice
  refine z_eqT (zT_loop (fun n z => ∃ e : Nat, e ≤ S.2.2.1 m v ∧ n = S.2.2.1 m v - e ∧ z = (mxV S m v e h0, iI e)) ?_ N (S.2.2.1 m v) _ (by omega) ⟨0, by omega, rfl, rfl⟩)
  rintro n z kk ⟨e, he, rfl, rfl⟩ ih
  unfold f_X9_mixVoice_B6
  dsimp only
  refine zT_bindE (X4_count_at h.1 hR hm hv) (zT_ite (fun r => ?_) (fun r => ?_))
  · rw [iI_lt (by omega) (by omega) (by omega) (by omega)] at r
    have he2 : e < S.2.2.1 m v := by omega
    refine zT_loop (fun n z => ∃ j : Nat, j ≤ 10 ∧ n = 10 - j ∧ z = (mxF (fun k => evv S m v e k) j (mxV S m v e h0), iI j)) ?_ N 10 _ (by omega) ⟨0, by omega, rfl, rfl⟩
    rintro n z kk2 ⟨j, hj, rfl, rfl⟩ ih2
    unfold f_X9_mixVoice_B24
    dsimp only
    refine zT_ite (fun r2 => ?_) (fun r2 => ?_)
    · rw [iL10, iI_lt (by omega) (by omega) (by omega) (by omega)] at r2
      have ev := C_event (N := N) (a := m) (b := v) (c := e) (w := j) h.1 hR hF hH (by unfold zInt; omega) (by unfold zInt; omega) (by unfold zInt; omega) (by unfold zInt; omega) (by omega)
      rw [if_pos (by rw [gC_at hm hv]; omega), if_pos (by omega), Int.toNat_natCast, Int.toNat_natCast, Int.toNat_natCast] at ev
      rw [z_sl ev]
      exact zT_bindE (X9_mx _ _) (zT_bindE rfl (ih2 (10 - (j + 1)) _ (by omega) ⟨j + 1, by omega, rfl, by rw [iIp1]; rfl⟩))
    · rw [iL10, iI_lt (by omega) (by omega) (by omega) (by omega)] at r2
      rw [show j = 10 by omega]
      exact zT_bindE rfl (ih (S.2.2.1 m v - (e + 1)) _ (by omega) ⟨e + 1, by omega, rfl, by rw [iIp1]; rfl⟩)
  · rw [iI_lt (by omega) (by omega) (by omega) (by omega)] at r
    rw [show e = S.2.2.1 m v by omega]
    exact zT_some rfl
theorem C_mixSentence (h : okS S) (hR : RC S (iI S.1) cells) (hm : m < S.1) {by0 : Nat → Int32} (hN : 2000 ≤ N) : zT (f_X9_mixSentence N (iI S.1) a b cells by0 h0 (iI m)) (fun r => r.1 = mxF (gB (zwR (snW S m))) (zwR (snW S m)).length h0) := by
  have hlen := snR_len h hm
  unfold f_X9_mixSentence
  refine zT_bind (zT_mono (X5_tellMeasure h hR hm (by omega)) ?_)
  rintro r ⟨t1, t2⟩
  refine zT_bind (zT_mono (P := fun q => q = mxF (gB (zwR (snW S m))) (zwR (snW S m)).length h0) (zT_loop (fun n z => ∃ j : Nat, j ≤ (zwR (snW S m)).length ∧ n = (zwR (snW S m)).length - j ∧ z = (mxF (gB (zwR (snW S m))) j h0, iI j)) ?_ N (zwR (snW S m)).length _ (by omega) ⟨0, by omega, rfl, rfl⟩) (fun q hq => zT_some hq))
  rintro n z kk ⟨j, hj, rfl, rfl⟩ ih
  unfold f_X9_mixSentence_B18
  dsimp only
  refine zT_bindE (show f_X5_length N r.1 = some r.1 from rfl) ?_
  have hl : (iI (j : Int) < r.1) = (j < (zwR (snW S m)).length) := by
    rw [t1.1, iI_lt (by omega) (by omega) (by omega) (by omega)]
    exact propext ⟨fun h => by omega, fun h => by omega⟩
  refine zT_ite (fun q => ?_) (fun q => ?_)
  · rw [hl] at q
    exact zT_bindE (X5_at (l := (r.1, r.2.2)) t1 hlen q) (zT_bindE (X9_mx _ _) (zT_bindE rfl (ih ((zwR (snW S m)).length - (j + 1)) _ (by omega) ⟨j + 1, by omega, rfl, by rw [iIp1]; rfl⟩)))
  · rw [hl] at q
    rw [show j = (zwR (snW S m)).length by omega]
    exact zT_some rfl
theorem C_digest (h : okS S) (hR : RC S (iI S.1) cells) (hO : oF S pn pf) (hF : FSp S shifts 768) (hH : FH S held (fun _ _ _ => True)) (hT : okT T L) (hx : zTx L T (iI L) tb) {n : Nat} {f0 f1 f2 sl wc ds : Int32} {sb : Nat → Int32} (hN : 4000 ≤ N) : zT (f_X9_digest N (iI n) pn f0 f1 f2 (iI S.1) sl wc (iI L) pf ds cells sb held shifts tb dc) (fun r => ∃ q, r = .inl q ∧ q.1 = mxD S n L T) := by
  have h1 := h.1.1
  have hb := oEnd_b h
  unfold f_X9_digest
  refine zT_bindE (show f_X1_size N (iI n) = some (iI n) from rfl) (zT_bindE (X9_mx _ _) ?_)
  refine zT_loop (fun l z => ∃ j : Nat, j ≤ 9 ∧ l = 9 - j ∧ z = (mxF (fun k => whS S L k) j (mx 43179 n), iI j)) ?_ N 9 _ (by omega) ⟨0, by omega, rfl, rfl⟩
  rintro l z kk ⟨j, hj, rfl, rfl⟩ ih
  unfold f_X9_digest_B17
  dsimp only
  refine zT_ite (fun r => ?_) (fun r => ?_)
  · rw [iL9, iI_lt (by omega) (by omega) (by omega) (by omega)] at r
    have e := C_whole (N := N) (l := (L : Int)) (w := j) h hR hO hH (by unfold zInt; omega) hN
    rw [if_pos (by omega)] at e
    rw [z_sl e]
    exact zT_bindE (X9_mx _ _) (zT_bindE rfl (ih (9 - (j + 1)) _ (by omega) ⟨j + 1, by omega, rfl, by rw [iIp1]; rfl⟩))
  · rw [iL9, iI_lt (by omega) (by omega) (by omega) (by omega)] at r
    rw [show j = 9 by omega]
    clear ih
    generalize hgv : mxF (fun k => whS S L k) 9 (mx 43179 n) = g
    have hD : mxD S n L T = mx (mxF (fun k => (oEnd S).2.2.2.2.2 k) (oEnd S).2.2.2.2.1 (mxA S S.1 g)) (faS T L).1 := by rw [← hgv]; rfl
    rw [hD]
    refine zT_loop (fun l z => ∃ i : Nat, i ≤ S.1 ∧ l = S.1 - i ∧ z.1 = mxA S i g ∧ z.2.1 = iI i) ?_ N S.1 _ (by omega) ⟨0, by omega, rfl, rfl, rfl⟩
    rintro l ⟨z1, z2, z3, z4, z5⟩ kk2 ⟨i, hi, rfl, q1, q2⟩ ih2
    dsimp only at q1 q2
    subst q1
    subst q2
    unfold f_X9_digest_B42
    dsimp only
    refine zT_bindE (show f_X4_size N (iI S.1) = some (iI S.1) from rfl) (zT_ite (fun r2 => ?_) (fun r2 => ?_))
    · rw [iI_lt (by omega) (by omega) (by omega) (by omega)] at r2
      have hm : i < S.1 := by omega
      rw [z_sl (C_mixValues h hR hm (by omega)), z_sl (show f_X9_mixVoice N (iI S.1) cells held shifts _ (iI i) 0 = _ from C_mixVoice (v := 0) h hR hF hH hm (by omega) (by omega)), z_sl (show f_X9_mixVoice N (iI S.1) cells held shifts _ (iI i) 1 = _ from C_mixVoice (v := 1) h hR hF hH hm (by omega) (by omega))]
      have ec := C_crossings (N := N) (a := i) h hR hF (by unfold zInt; omega) (by omega)
      rw [if_pos (by omega), Int.toNat_natCast] at ec
      have et := C_timesPlayed (N := N) (a := i) h hO (by unfold zInt; omega) hN
      rw [if_pos (by omega)] at et
      rw [z_sl ec, z_be (X9_mx _ _), z_sl et, z_be (X9_mx _ _)]
      refine zT_bind (zT_mono (C_mixSentence h hR hm (by omega)) (fun q hq => zT_bindE rfl (ih2 (S.1 - (i + 1)) _ (by omega) ⟨i + 1, by omega, rfl, hq, iIp1 _⟩)))
    · rw [iI_lt (by omega) (by omega) (by omega) (by omega)] at r2
      rw [show i = S.1 by omega]
      clear ih2
      refine zT_bind (zT_mono (P := fun q => q = mxF (fun k => (oEnd S).2.2.2.2.2 k) (oEnd S).2.2.2.2.1 (mxA S S.1 g)) (zT_loop (fun l z => ∃ j : Nat, j ≤ (oEnd S).2.2.2.2.1 ∧ l = (oEnd S).2.2.2.2.1 - j ∧ z = (mxF (fun k => (oEnd S).2.2.2.2.2 k) j (mxA S S.1 g), iI j)) ?_ N (oEnd S).2.2.2.2.1 _ (by omega) ⟨0, by omega, rfl, rfl⟩) ?_)
      · rintro l z kk3 ⟨j, hj, rfl, rfl⟩ ih3
        unfold f_X9_digest_B113
        dsimp only
        refine zT_bindE (show f_X2_size N pn = some pn from rfl) ?_
        have hl : (iI (j : Int) < pn) = ((j : Int) < ((oEnd S).2.2.2.2.1 : Int)) := by rw [hO.1]; exact iI_lt (by omega) (by omega) (by omega) (by omega)
        refine zT_ite (fun r3 => ?_) (fun r3 => ?_)
        · rw [hl] at r3
          exact zT_bindE (X2_at h hO (by omega)) (zT_bindE (X9_mx _ _) (zT_bindE rfl (ih3 ((oEnd S).2.2.2.2.1 - (j + 1)) _ (by omega) ⟨j + 1, by omega, rfl, by rw [iIp1]; rfl⟩)))
        · rw [hl] at r3
          rw [show j = (oEnd S).2.2.2.2.1 by omega]
          exact zT_some rfl
      · rintro q rfl
        refine zT_bind (zT_mono (X3_findFault hT hx (by omega)) ?_)
        rintro r ⟨r1, r2, r3, r4⟩
        rw [r1]
        exact zT_bindE (X9_mx _ _) (zT_some ⟨_, rfl, rfl⟩)
end ZOD
section ZOE
variable {N L t w v k m nx e : Nat} {T : Nat → Int} {tb text cells rd st held shifts past pf dc : Nat → Int32} {a b c nb hk ht code pn : Int32} {p : Nat × Nat} {s : pS} {lo hi : Int} {S X : zSt} {x : zEv} {hs : List zSt} {K : zKT} {h0 : Int64}
end ZOE
