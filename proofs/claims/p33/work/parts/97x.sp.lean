/-! ===== the class alone, call by call ===== -/
/-- the class holds state S, saved states hs, text T of length L -/
def zC (S : zSt) (hs : List zSt) (L : Nat) (T : Nat → Int) (K : zKT) : Prop := ∃ nx : Nat, zQ0 S hs nx L T ∧ (K.1 = iI nx ∧ K.2.1 = iI hs.length ∧ zRg hs nx (zSl K.2.2.2.2.2.2.2.2.2.2.1 K.2.2.2.2.2.2.2.2.2.2.2.1 K.2.2.2.2.2.2.2.2.2.2.2.2.1 K.2.2.2.2.2.2.2.2.2.2.2.2.2.1 K.2.2.2.2.2.2.2.2.2.2.2.2.2.2.2.2.2.2.2.2.2.1 K.2.2.2.2.2.2.2.2.2.2.2.2.2.2.2.2.2.2.2.2.2.2.1 K.2.2.2.2.2.2.2.2.2.2.2.2.2.2.2.2.2.2.2.2.2.2.2.1 K.2.2.2.2.2.2.2.2.2.2.2.2.2.2.2.2.2.2.2.2.2.2.2.2.1)) ∧ oF S K.2.2.1 K.2.2.2.2.2.2.2.2.2.2.2.2.2.2.1 ∧ RC S K.2.2.2.2.2.2.1 K.2.2.2.2.2.2.2.2.2.2.2.2.2.2.2.2.1 ∧ zTx L T K.2.2.2.2.2.2.2.2.2.1 K.2.2.2.2.2.2.2.2.2.2.2.2.2.2.2.2.2.2.2.2.1 ∧ FH S K.2.2.2.2.2.2.2.2.2.2.2.2.2.2.2.2.2.2.1 (fun _ _ _ => True) ∧ FSp S K.2.2.2.2.2.2.2.2.2.2.2.2.2.2.2.2.2.2.2.1 768
section ZPA
variable {N : Nat} {S X : zSt} {hs : List zSt} {L : Nat} {T : Nat → Int} {K : zKT}
theorem zC_ok (hZ : zC S hs L T K) : okS S ∧ hs.length ≤ 4 ∧ (∀ X, X ∈ hs → okS X) ∧ L ≤ 600 ∧ ∀ i, i < L → 0 ≤ T i ∧ T i ≤ 127 := by
  obtain ⟨nx, ⟨u1, u2, u3, u4, u5, u6⟩, -⟩ := hZ
  exact ⟨u1, u2, u3, u5, u6⟩
theorem d_measure (hN : 20000 ≤ N) (hZ : zC S hs L T K) {a b : Int} (ha : zInt a) (hb : zInt b) {ya : Int32} (ea : ya = iI a) {yb : Int32} (eb : yb = iI b) : rs_measure N K ya yb = if 0 ≤ a ∧ a < S.1 then (if 0 ≤ b ∧ b ≤ 11 then some (.inl (iI (mv S a.toNat b))) else some (.inr 1)) else some (.inr 0) := by
  subst ea; subst eb
  obtain ⟨nx, h0, hk, hO, hC, hT, hH, hF⟩ := hZ
  have e6 := hC.1
  rw [e6] at hC
  unfold rs_measure
  rw [e6]
  exact C_measure h0.1 hC ha hb (by omega)
theorem d_event (hN : 20000 ≤ N) (hZ : zC S hs L T K) {a b c w : Int} (ha : zInt a) (hb : zInt b) (hc : zInt c) (hw : zInt w) {ya : Int32} (ea : ya = iI a) {yb : Int32} (eb : yb = iI b) {yc : Int32} (ec : yc = iI c) {yw : Int32} (ew : yw = iI w) : rs_event N K ya yb yc yw = if 0 ≤ c ∧ c < gC S a b then (if 0 ≤ w ∧ w ≤ 9 then some (.inl (iI (evv S a.toNat b.toNat c.toNat w))) else some (.inr 1)) else some (.inr 0) := by
  subst ea; subst eb; subst ec; subst ew
  obtain ⟨nx, h0, hk, hO, hC, hT, hH, hF⟩ := hZ
  have e6 := hC.1
  rw [e6] at hC
  unfold rs_event
  rw [e6]
  exact C_event h0.1.1 hC hF hH ha hb hc hw (by omega)
theorem d_eventAt (hN : 20000 ≤ N) (hZ : zC S hs L T K) {a b t : Int} (ha : zInt a) (hb : zInt b) (ht : zInt t) {ya : Int32} (ea : ya = iI a) {yb : Int32} (eb : yb = iI b) {yt : Int32} (et : yt = iI t) : rs_eventAt N K ya yb yt = if 0 ≤ a ∧ a < S.1 ∧ 0 ≤ b ∧ b < 2 then (if 0 ≤ t then some (.inl (iI (evAt S a.toNat b.toNat t (S.2.2.1 a.toNat b.toNat) 0))) else some (.inr 1)) else some (.inr 0) := by
  subst ea; subst eb; subst et
  obtain ⟨nx, h0, hk, hO, hC, hT, hH, hF⟩ := hZ
  have e6 := hC.1
  rw [e6] at hC
  unfold rs_eventAt
  rw [e6]
  exact C_eventAt h0.1.1 hC ha hb ht (by omega)
theorem d_crossings (hN : 20000 ≤ N) (hZ : zC S hs L T K) {a : Int} (ha : zInt a) {ya : Int32} (ea : ya = iI a) : rs_crossings N K ya = if 0 ≤ a ∧ a < S.1 then some (.inl (iI (crI S a.toNat (S.2.2.1 a.toNat 0)))) else some (.inr 0) := by
  subst ea
  obtain ⟨nx, h0, hk, hO, hC, hT, hH, hF⟩ := hZ
  have e6 := hC.1
  rw [e6] at hC
  unfold rs_crossings
  rw [e6]
  exact C_crossings h0.1 hC hF ha (by omega)
theorem d_whole (hN : 20000 ≤ N) (hZ : zC S hs L T K) {w : Int} (hw : zInt w) {yw : Int32} (ew : yw = iI w) : rs_whole N K yw = if 0 ≤ w ∧ w ≤ 8 then some (.inl (iI (whS S (L : Int) w))) else some (.inr 1) := by
  subst ew
  obtain ⟨nx, h0, hk, hO, hC, hT, hH, hF⟩ := hZ
  have e6 := hC.1
  rw [e6] at hC
  unfold rs_whole
  rw [e6, hT.1]
  exact C_whole h0.1 hC hO hH hw (by omega)
theorem d_order (hN : 20000 ≤ N) (hZ : zC S hs L T K) {a : Int} (ha : zInt a) {ya : Int32} (ea : ya = iI a) : rs_order N K ya = if 0 ≤ a then some (.inl (iI (orS S a))) else some (.inr 1) := by
  subst ea
  obtain ⟨nx, h0, hk, hO, hC, hT, hH, hF⟩ := hZ
  have e6 := hC.1
  rw [e6] at hC
  unfold rs_order
  skip
  exact C_order h0.1 hO ha
theorem d_timesPlayed (hN : 20000 ≤ N) (hZ : zC S hs L T K) {a : Int} (ha : zInt a) {ya : Int32} (ea : ya = iI a) : rs_timesPlayed N K ya = if 0 ≤ a ∧ a < S.1 then some (.inl (iI (tpS S a (oEnd S).2.2.2.2.1))) else some (.inr 0) := by
  subst ea
  obtain ⟨nx, h0, hk, hO, hC, hT, hH, hF⟩ := hZ
  have e6 := hC.1
  rw [e6] at hC
  unfold rs_timesPlayed
  rw [e6]
  exact C_timesPlayed h0.1 hO ha (by omega)
theorem d_seconds (hN : 20000 ≤ N) (hZ : zC S hs L T K) {a : Int} (ha : zInt a) {ya : Int32} (ea : ya = iI a) : rs_seconds N K ya = if 0 ≤ a then some (.inl (smA S a)) else some (.inr 1) := by
  subst ea
  obtain ⟨nx, h0, hk, hO, hC, hT, hH, hF⟩ := hZ
  have e6 := hC.1
  rw [e6] at hC
  unfold rs_seconds
  rw [e6]
  exact C_seconds h0.1 hC hO ha (by omega)
theorem d_placeAt (hN : 20000 ≤ N) (hZ : zC S hs L T K) {a : Int} (ha : zInt a) {ya : Int32} (ea : ya = iI a) : rs_placeAt N K ya = if 0 ≤ a then some (.inl (iI (plA S (FP.i2f (iI a))))) else some (.inr 1) := by
  subst ea
  obtain ⟨nx, h0, hk, hO, hC, hT, hH, hF⟩ := hZ
  have e6 := hC.1
  rw [e6] at hC
  unfold rs_placeAt
  rw [e6]
  exact C_placeAt h0.1 hC hO ha (by omega)
theorem d_changedBy (hN : 20000 ≤ N) (hZ : zC S hs L T K) {a b : Int} (ha : zInt a) (hb : zInt b) {ya : Int32} (ea : ya = iI a) {yb : Int32} (eb : yb = iI b) : rs_changedBy N K ya yb = if 0 ≤ a ∧ a < S.1 then (if -7 ≤ b ∧ b ≤ 7 then some (.inl (iI (chW S b a.toNat 2))) else some (.inr 1)) else some (.inr 0) := by
  subst ea; subst eb
  obtain ⟨nx, h0, hk, hO, hC, hT, hH, hF⟩ := hZ
  have e6 := hC.1
  rw [e6] at hC
  unfold rs_changedBy
  rw [e6]
  exact C_changedBy h0.1 hC hF ha hb (by omega)
theorem d_nearestKey (hN : 20000 ≤ N) (hZ : zC S hs L T K) {a : Int} (ha : zInt a) {ya : Int32} (ea : ya = iI a) : rs_nearestKey N K ya = if 0 ≤ a ∧ a < S.1 then some (.inl (iI (nkS S a.toNat 15).1)) else some (.inr 0) := by
  subst ea
  obtain ⟨nx, h0, hk, hO, hC, hT, hH, hF⟩ := hZ
  have e6 := hC.1
  rw [e6] at hC
  unfold rs_nearestKey
  rw [e6]
  exact C_nearestKey h0.1 hC hF ha (by omega)
theorem d_needlessSigns (hN : 20000 ≤ N) (hZ : zC S hs L T K) {a : Int} (ha : zInt a) {ya : Int32} (ea : ya = iI a) : rs_needlessSigns N K ya = if 0 ≤ a ∧ a < S.1 then some (.inl (iI (nlW S a.toNat 2))) else some (.inr 0) := by
  subst ea
  obtain ⟨nx, h0, hk, hO, hC, hT, hH, hF⟩ := hZ
  have e6 := hC.1
  rw [e6] at hC
  unfold rs_needlessSigns
  rw [e6]
  exact C_needlessSigns h0.1 hC hF ha (by omega)
theorem d_sentenceLength (hN : 20000 ≤ N) (hZ : zC S hs L T K) {m : Nat} (hm : m < S.1) {ym : Int32} (em : ym = iI m) : ∃ r, rs_sentenceLength N K ym = some (.inl r) ∧ r.1 = iI ((zwR (snW S m)).length : Nat) ∧ zC S hs L T (k1_sentenceLength K r) := by
  subst em
  obtain ⟨nx, h0, hk, hO, hC, hT, hH, hF⟩ := hZ
  have e6 := hC.1
  rw [e6] at hC
  have h1 := h0.1.1.1
  obtain ⟨t, ht, t1, t2⟩ := X5_tellMeasure (N := N) (a := K.2.2.2.2.2.2.2.1) (b := K.2.2.2.2.2.2.2.2.1) (by0 := K.2.2.2.2.2.2.2.2.2.2.2.2.2.2.2.2.2.1) h0.1 hC hm (by omega)
  refine ⟨(t.1, t.1, t.2.1, t.2.2), ?_, t1.1, nx, h0, hk, hO, ⟨e6, hC.2⟩, hT, hH, hF⟩
  unfold rs_sentenceLength f_X9_sentenceLength
  rw [e6, zSub_rq (C_rqM h0.1.1 (zIn_ m (by omega))), if_pos (show 0 ≤ (m : Int) ∧ (m : Int) < S.1 by omega), z_be ht]
  rfl
theorem d_words (hN : 20000 ≤ N) (hZ : zC S hs L T K) {m : Nat} (hm : m < S.1) {ym : Int32} (em : ym = iI m) : ∃ r, rs_words N K ym = some (.inl r) ∧ r.1 = iI ((snW S m).length : Nat) ∧ zC S hs L T (k1_words K r) := by
  subst em
  obtain ⟨nx, h0, hk, hO, hC, hT, hH, hF⟩ := hZ
  have e6 := hC.1
  rw [e6] at hC
  have h1 := h0.1.1.1
  obtain ⟨t, ht, t1, t2⟩ := X5_tellMeasure (N := N) (a := K.2.2.2.2.2.2.2.1) (b := K.2.2.2.2.2.2.2.2.1) (by0 := K.2.2.2.2.2.2.2.2.2.2.2.2.2.2.2.2.2.1) h0.1 hC hm (by omega)
  refine ⟨(t.2.1, t.1, t.2.1, t.2.2), ?_, t2, nx, h0, hk, hO, ⟨e6, hC.2⟩, hT, hH, hF⟩
  unfold rs_words f_X9_words
  rw [e6, zSub_rq (C_rqM h0.1.1 (zIn_ m (by omega))), if_pos (show 0 ≤ (m : Int) ∧ (m : Int) < S.1 by omega), z_be ht]
  rfl
theorem dx_removeMeasure (hZ : zC S hs L T K) {a : Int} (ha : zInt a) (q : ¬ (0 ≤ a ∧ a < S.1)) {ya : Int32} (ea : ya = iI a) : rs_removeMeasure N K ya = some (.inr 0) := by
  subst ea
  obtain ⟨nx, h0, hk, hO, hC, hT, hH, hF⟩ := hZ
  have e6 := hC.1
  unfold rs_removeMeasure f_X9_removeMeasure
  rw [e6, zSub_rq (C_rqM h0.1.1 ha), if_neg q]
theorem dx_set (hZ : zC S hs L T K) {a b c : Int} (ha : zInt a) (q : ¬ (0 ≤ a ∧ a < S.1)) {ya : Int32} (ea : ya = iI a) {yb : Int32} (eb : yb = iI b) {yc : Int32} (ec : yc = iI c) : rs_set N K ya yb yc = some (.inr 0) := by
  subst ea; subst eb; subst ec
  obtain ⟨nx, h0, hk, hO, hC, hT, hH, hF⟩ := hZ
  have e6 := hC.1
  unfold rs_set f_X9_set
  rw [e6, zSub_rq (C_rqM h0.1.1 ha), if_neg q]
theorem dx_sentenceLength (hZ : zC S hs L T K) {a : Int} (ha : zInt a) (q : ¬ (0 ≤ a ∧ a < S.1)) {ya : Int32} (ea : ya = iI a) : rs_sentenceLength N K ya = some (.inr 0) := by
  subst ea
  obtain ⟨nx, h0, hk, hO, hC, hT, hH, hF⟩ := hZ
  have e6 := hC.1
  unfold rs_sentenceLength f_X9_sentenceLength
  rw [e6, zSub_rq (C_rqM h0.1.1 ha), if_neg q]
theorem dx_words (hZ : zC S hs L T K) {a : Int} (ha : zInt a) (q : ¬ (0 ≤ a ∧ a < S.1)) {ya : Int32} (ea : ya = iI a) : rs_words N K ya = some (.inr 0) := by
  subst ea
  obtain ⟨nx, h0, hk, hO, hC, hT, hH, hF⟩ := hZ
  have e6 := hC.1
  unfold rs_words f_X9_words
  rw [e6, zSub_rq (C_rqM h0.1.1 ha), if_neg q]
theorem dx_sentenceByte (hZ : zC S hs L T K) {a b : Int} (ha : zInt a) (q : ¬ (0 ≤ a ∧ a < S.1)) {ya : Int32} (ea : ya = iI a) {yb : Int32} (eb : yb = iI b) : rs_sentenceByte N K ya yb = some (.inr 0) := by
  subst ea; subst eb
  obtain ⟨nx, h0, hk, hO, hC, hT, hH, hF⟩ := hZ
  have e6 := hC.1
  unfold rs_sentenceByte f_X9_sentenceByte
  rw [e6, zSub_rq (C_rqM h0.1.1 ha), if_neg q]
theorem dx_readInto (hZ : zC S hs L T K) {a : Int} (ha : zInt a) (q : ¬ (0 ≤ a ∧ a < S.1)) {ya : Int32} (ea : ya = iI a) : rs_readInto N K ya = some (.inr 0) := by
  subst ea
  obtain ⟨nx, h0, hk, hO, hC, hT, hH, hF⟩ := hZ
  have e6 := hC.1
  unfold rs_readInto f_X9_readInto
  rw [e6, zSub_rq (C_rqM h0.1.1 ha), if_neg q]
theorem dx_tells (hZ : zC S hs L T K) {a : Int} (ha : zInt a) (q : ¬ (0 ≤ a ∧ a < S.1)) {ya : Int32} (ea : ya = iI a) : rs_tells N K ya = some (.inr 0) := by
  subst ea
  obtain ⟨nx, h0, hk, hO, hC, hT, hH, hF⟩ := hZ
  have e6 := hC.1
  unfold rs_tells f_X9_tells
  rw [e6, zSub_rq (C_rqM h0.1.1 ha), if_neg q]
theorem dx_copySentence (hZ : zC S hs L T K) {a : Int} (ha : zInt a) (q : ¬ (0 ≤ a ∧ a < S.1)) {ya : Int32} (ea : ya = iI a) : ∃ r, rs_copySentence N K ya = some (.inr r) ∧ r.1 = 0 ∧ zC S hs L T (k2_copySentence K r) := by
  subst ea
  obtain ⟨nx, h0, hk, hO, hC, hT, hH, hF⟩ := hZ
  have e6 := hC.1
  refine ⟨(0, K.2.2.2.2.2.2.2.1, K.2.2.2.2.2.2.2.2.1, K.2.2.2.2.2.2.2.2.2.1, K.2.2.2.2.2.2.2.2.2.2.2.2.2.2.2.2.2.1, K.2.2.2.2.2.2.2.2.2.2.2.2.2.2.2.2.2.2.2.2.1), ?_, rfl, nx, h0, hk, hO, hC, hT, hH, hF⟩
  unfold rs_copySentence f_X9_copySentence
  rw [e6, zSubE_rq (C_rqM h0.1.1 ha), if_neg q]
theorem dx_copyLong (hN : 20000 ≤ N) (hZ : zC S hs L T K) {m : Nat} (hm : m < S.1) (q3 : 600 < (zwR (snW S m)).length) {ym : Int32} (em : ym = iI m) : ∃ r, rs_copySentence N K ym = some (.inr r) ∧ r.1 = 2 ∧ zC S hs L T (k2_copySentence K r) := by
  subst em
  obtain ⟨nx, h0, hk, hO, hC, hT, hH, hF⟩ := hZ
  have e6 := hC.1
  rw [e6] at hC
  have h1 := h0.1.1.1
  have hlen := snR_len h0.1 hm
  obtain ⟨t, ht, t1, t2⟩ := X5_tellMeasure (N := N) (a := K.2.2.2.2.2.2.2.1) (b := K.2.2.2.2.2.2.2.2.1) (by0 := K.2.2.2.2.2.2.2.2.2.2.2.2.2.2.2.2.2.1) h0.1 hC hm (by omega)
  have hlt : (600 < t.1) = (600 < (zwR (snW S m)).length) := by
    rw [t1.1, iL600, iI_lt (by omega) (by omega) (by omega) (by omega)]
    exact propext ⟨fun h => by omega, fun h => by omega⟩
  refine ⟨(2, t.1, t.2.1, K.2.2.2.2.2.2.2.2.2.1, t.2.2, K.2.2.2.2.2.2.2.2.2.2.2.2.2.2.2.2.2.2.2.2.1), ?_, rfl, nx, h0, hk, hO, ⟨e6, hC.2⟩, hT, hH, hF⟩
  unfold rs_copySentence f_X9_copySentence
  rw [e6, zSubE_rq (C_rqM h0.1.1 (zIn_ m (by omega))), if_pos (show 0 ≤ (m : Int) ∧ (m : Int) < S.1 by omega), z_be ht, z_be (show f_X5_length N t.1 = some t.1 from rfl), if_pos (by rw [hlt]; exact q3)]
theorem dx_byteNeg (hZ : zC S hs L T K) {a b : Int} (ha : zInt a) (hb : zInt b) (q : 0 ≤ a ∧ a < S.1) (q2 : ¬ 0 ≤ b) {ya : Int32} (ea : ya = iI a) {yb : Int32} (eb : yb = iI b) : rs_sentenceByte N K ya yb = some (.inr 1) := by
  subst ea; subst eb
  obtain ⟨nx, h0, hk, hO, hC, hT, hH, hF⟩ := hZ
  have e6 := hC.1
  unfold rs_sentenceByte f_X9_sentenceByte
  rw [e6, zSub_rq (C_rqM h0.1.1 ha), if_pos q, zSub_rq (C_rqN hb), if_neg q2]
theorem d_type (hZ : zC S hs L T K) {a : Int} (ha : zInt a) (q : 0 ≤ a ∧ a ≤ 127) (q2 : L < 600) {ya : Int32} (ea : ya = iI a) : ∃ r, rs_type N K ya = some (.inl r) ∧ r.1 = iI ((L + 1 : Nat) : Int) ∧ zC S hs (L + 1) (fun i => if i = L then a else T i) (k1_type K r) := by
  subst ea
  obtain ⟨nx, ⟨u1, u2, u3, u4, u5, u6⟩, hk, hO, hC, hT, hH, hF⟩ := hZ
  unfold rs_type
  rw [hT.1, C_type ha (by omega), if_pos q, if_pos q2]
  refine ⟨_, rfl, rfl, nx, ⟨u1, u2, u3, u4, by omega, fun i hi => ?_⟩, hk, hO, hC, zTx_add hT a, hH, hF⟩
  dsimp only
  split
  · exact q
  · exact u6 i (by omega)
theorem dx_type1 (hZ : zC S hs L T K) {a : Int} (ha : zInt a) (q : ¬ (0 ≤ a ∧ a ≤ 127)) {ya : Int32} (ea : ya = iI a) : rs_type N K ya = some (.inr 1) := by
  subst ea
  obtain ⟨nx, ⟨u1, u2, u3, u4, u5, u6⟩, hk, hO, hC, hT, hH, hF⟩ := hZ
  unfold rs_type
  rw [hT.1, C_type ha (by omega), if_neg q]
theorem dx_type2 (hZ : zC S hs L T K) {a : Int} (ha : zInt a) (q : 0 ≤ a ∧ a ≤ 127) (q2 : ¬ L < 600) {ya : Int32} (ea : ya = iI a) : rs_type N K ya = some (.inr 2) := by
  subst ea
  obtain ⟨nx, ⟨u1, u2, u3, u4, u5, u6⟩, hk, hO, hC, hT, hH, hF⟩ := hZ
  unfold rs_type
  rw [hT.1, C_type ha (by omega), if_pos q, if_neg q2]
theorem d_cut (hZ : zC S hs L T K) {a : Int} (ha : zInt a) (q : 1 ≤ a ∧ a ≤ 600) (q2 : a ≤ (L : Int)) {ya : Int32} (ea : ya = iI a) : ∃ r, rs_cut N K ya = some (.inl r) ∧ r.1 = iI ((L - a.toNat : Nat) : Int) ∧ zC S hs (L - a.toNat) T (k1_cut K r) := by
  subst ea
  obtain ⟨nx, ⟨u1, u2, u3, u4, u5, u6⟩, hk, hO, hC, hT, hH, hF⟩ := hZ
  unfold rs_cut
  rw [hT.1, C_cut ha (by omega), if_pos q, if_neg (by omega)]
  exact ⟨_, rfl, rfl, nx, ⟨u1, u2, u3, u4, by omega, fun i hi => u6 i (by omega)⟩, hk, hO, hC, zTx_less hT (by omega), hH, hF⟩
theorem dx_cut1 (hZ : zC S hs L T K) {a : Int} (ha : zInt a) (q : ¬ (1 ≤ a ∧ a ≤ 600)) {ya : Int32} (ea : ya = iI a) : rs_cut N K ya = some (.inr 1) := by
  subst ea
  obtain ⟨nx, ⟨u1, u2, u3, u4, u5, u6⟩, hk, hO, hC, hT, hH, hF⟩ := hZ
  unfold rs_cut
  rw [hT.1, C_cut ha (by omega), if_neg q]
theorem dx_cut2 (hZ : zC S hs L T K) {a : Int} (ha : zInt a) (q : 1 ≤ a ∧ a ≤ 600) (q2 : (L : Int) < a) {ya : Int32} (ea : ya = iI a) : rs_cut N K ya = some (.inr 2) := by
  subst ea
  obtain ⟨nx, ⟨u1, u2, u3, u4, u5, u6⟩, hk, hO, hC, hT, hH, hF⟩ := hZ
  unfold rs_cut
  rw [hT.1, C_cut ha (by omega), if_pos q, if_pos q2]
theorem d_clearText (hZ : zC S hs L T K) : ∃ r, rs_clearText N K = some r ∧ r.1 = iI (L : Nat) ∧ zC S hs 0 T (k1_clearText K r) := by
  obtain ⟨nx, ⟨u1, u2, u3, u4, u5, u6⟩, hk, hO, hC, hT, hH, hF⟩ := hZ
  unfold rs_clearText
  rw [hT.1]
  have e1 : f_X9_clearText N (iI L) = some (iI L, iI ((0 : Nat) : Int)) := by
    unfold f_X9_clearText f_X7_shorten
    rw [z_be (show f_X7_length N (iI L) = some (iI L) from rfl), iI_sub, iL0, zMaxI (by omega) (by omega) (by omega) (by omega), if_neg (by omega), show (L : Int) - L = ((0 : Nat) : Int) by omega]
    rfl
  rw [e1]
  exact ⟨_, rfl, rfl, nx, ⟨u1, u2, u3, u4, by omega, fun i hi => by omega⟩, hk, hO, hC, zTx_less hT (by omega), hH, hF⟩
theorem d_fault (hN : 20000 ≤ N) (hZ : zC S hs L T K) : ∃ r, rs_fault N K = some r ∧ r.1 = iI (faS T L).1 ∧ zC S hs L T (k1_fault K r) := by
  obtain ⟨nx, ⟨u1, u2, u3, u4, u5, u6⟩, hk, hO, hC, hT, hH, hF⟩ := hZ
  have hTT : okT T L := ⟨u5, u6⟩
  unfold rs_fault
  rw [hT.1]
  obtain ⟨r, hr, r1, r2, r3, r4⟩ := X3_findFault (N := N) (a := K.2.2.2.1) (b := K.2.2.2.2.1) (c := K.2.2.2.2.2.1) (nb := K.2.2.2.2.2.2.2.2.2.2.2.2.2.2.2.1) (cells := K.2.2.2.2.2.2.2.2.2.2.2.2.2.2.2.2.2.2.2.2.2.2.2.2.2) (tb := K.2.2.2.2.2.2.2.2.2.2.2.2.2.2.2.2.2.2.2.2.1) hTT ⟨rfl, hT.2⟩ (by omega)
  refine ⟨(r.1, r.2.1, r.2.2.1, r.2.2.2.1, r.2.2.2.2.1, r.2.2.2.2.2), ?_, r1, nx, ⟨u1, u2, u3, u4, u5, u6⟩, hk, hO, hC, hT, hH, hF⟩
  unfold f_X9_fault
  rw [z_be hr]
theorem d_tells (hN : 20000 ≤ N) (hZ : zC S hs L T K) {m : Nat} (hm : m < S.1) {ym : Int32} (em : ym = iI m) : ∃ r, rs_tells N K ym = some (.inl r) ∧ r.1 = (if (faS T L).1 = -1000 then (if agP S m (faS T L).2.2 then 1 else 0) else 0) ∧ zC S hs L T (k1_tells K r) := by
  subst em
  obtain ⟨nx, ⟨u1, u2, u3, u4, u5, u6⟩, hk, hO, hC, hT, hH, hF⟩ := hZ
  have e6 := hC.1
  have h1 := u1.1.1
  rw [e6] at hC
  have hTT : okT T L := ⟨u5, u6⟩
  have hq : 0 ≤ (m : Int) ∧ (m : Int) < S.1 := by omega
  have ef := eqF (okP_fa hTT)
  unfold rs_tells
  rw [e6, hT.1]
  obtain ⟨r, hr, r1, r2, r3, r4⟩ := X3_findFault (N := N) (a := K.2.2.2.1) (b := K.2.2.2.2.1) (c := K.2.2.2.2.2.1) (nb := K.2.2.2.2.2.2.2.2.2.2.2.2.2.2.2.1) (cells := K.2.2.2.2.2.2.2.2.2.2.2.2.2.2.2.2.2.2.2.2.2.2.2.2.2) (tb := K.2.2.2.2.2.2.2.2.2.2.2.2.2.2.2.2.2.2.2.2.1) hTT ⟨rfl, hT.2⟩ (by omega)
  by_cases y0 : (faS T L).1 = -1000
  · have ea := X4_agreesWith (N := N) u1.1 hC r4 hm (by omega)
    refine ⟨((if agP S m (faS T L).2.2 then 1 else 0), r.2.1, r.2.2.1, r.2.2.2.1, r.2.2.2.2.1, r.2.2.2.2.2), ?_, ?_, nx, ⟨u1, u2, u3, u4, u5, u6⟩, hk, hO, ⟨e6, hC.2⟩, hT, hH, hF⟩
    · unfold f_X9_tells
      rw [zSub_rq (C_rqM u1.1 (zIn_ m (by omega))), if_pos hq, z_be hr, if_pos (by rw [r1, ef]; exact y0), z_be (show f_X3_draft N = some () from rfl), r3, z_be ea]
      by_cases y : agP S m (faS T L).2.2
      · rw [if_pos y, if_neg (show ¬ iI 1 = 0 from ne10), if_pos y]
      · rw [if_neg y, if_pos (show iI 0 = 0 from rfl), if_neg y]
    · rw [if_pos y0]
  · refine ⟨(0, r.2.1, r.2.2.1, r.2.2.2.1, r.2.2.2.2.1, r.2.2.2.2.2), ?_, ?_, nx, ⟨u1, u2, u3, u4, u5, u6⟩, hk, hO, ⟨e6, hC.2⟩, hT, hH, hF⟩
    · unfold f_X9_tells
      rw [zSub_rq (C_rqM u1.1 (zIn_ m (by omega))), if_pos hq, z_be hr, if_neg (by rw [r1, ef]; exact y0)]
    · rw [if_neg y0]
theorem d_digest (hN : 20000 ≤ N) (hZ : zC S hs L T K) : ∃ r, rs_digest N K = some (.inl r) ∧ r.1 = mxD S hs.length L T ∧ zC S hs L T (k1_digest K r) := by
  obtain ⟨nx, ⟨u1, u2, u3, u4, u5, u6⟩, hk, hO, hC, hT, hH, hF⟩ := hZ
  have e6 := hC.1
  rw [e6] at hC
  have hTT : okT T L := ⟨u5, u6⟩
  unfold rs_digest
  rw [hk.2.1, e6, hT.1]
  obtain ⟨r, hr, b, rfl, r1⟩ := C_digest (N := N) (n := hs.length) (f0 := K.2.2.2.1) (f1 := K.2.2.2.2.1) (f2 := K.2.2.2.2.2.1) (sl := K.2.2.2.2.2.2.2.1) (wc := K.2.2.2.2.2.2.2.2.1) (ds := K.2.2.2.2.2.2.2.2.2.2.2.2.2.2.2.1) (sb := K.2.2.2.2.2.2.2.2.2.2.2.2.2.2.2.2.2.1) (dc := K.2.2.2.2.2.2.2.2.2.2.2.2.2.2.2.2.2.2.2.2.2.2.2.2.2) u1 hC hO hF hH hTT ⟨rfl, hT.2⟩ (by omega)
  exact ⟨b, hr, r1, nx, ⟨u1, u2, u3, u4, u5, u6⟩, hk, hO, ⟨e6, hC.2⟩, hT, hH, hF⟩
theorem d_readInto (hN : 20000 ≤ N) (hZ : zC S hs L T K) {m : Nat} (hm : m < S.1) (m1 : (faS T L).1 = -1000) (hok' : okS (tkS S m (faS T L).2.2)) {ym : Int32} (em : ym = iI m) : ∃ r, rs_readInto N K ym = some (.inl r) ∧ r.1 = iI ((tkS S m (faS T L).2.2).2.2.1 m 0) + iI ((tkS S m (faS T L).2.2).2.2.1 m 1) ∧ zC (tkS S m (faS T L).2.2) ((S :: hs).take 4) L T (k1_readInto K r) := by
  subst em
  obtain ⟨nx, ⟨u1, u2, u3, u4, u5, u6⟩, hk, hO, hC, hT, hH, hF⟩ := hZ
  have e6 := hC.1
  have h1 := u1.1.1
  rw [e6] at hC
  have hTT : okT T L := ⟨u5, u6⟩
  have hq : 0 ≤ (m : Int) ∧ (m : Int) < S.1 := by omega
  have ef := eqF (okP_fa hTT)
  unfold rs_readInto
  rw [hk.1, hk.2.1, e6, hT.1]
  obtain ⟨r, hr, r1, r2, r3, r4⟩ := X3_findFault (N := N) (a := K.2.2.2.1) (b := K.2.2.2.2.1) (c := K.2.2.2.2.2.1) (nb := K.2.2.2.2.2.2.2.2.2.2.2.2.2.2.2.1) (cells := K.2.2.2.2.2.2.2.2.2.2.2.2.2.2.2.2.2.2.2.2.2.2.2.2.2) (tb := K.2.2.2.2.2.2.2.2.2.2.2.2.2.2.2.2.2.2.2.2.1) hTT ⟨rfl, hT.2⟩ (by omega)
  obtain ⟨p, hp, p1, p2, p3⟩ := X1_push (N := N) (n0 := K.2.2.2.2.2.2.2.2.2.2.1) (n1 := K.2.2.2.2.2.2.2.2.2.2.2.1) (n2 := K.2.2.2.2.2.2.2.2.2.2.2.2.1) (n3 := K.2.2.2.2.2.2.2.2.2.2.2.2.2.1) (c0 := K.2.2.2.2.2.2.2.2.2.2.2.2.2.2.2.2.2.2.2.2.2.1) (c1 := K.2.2.2.2.2.2.2.2.2.2.2.2.2.2.2.2.2.2.2.2.2.2.1) (c2 := K.2.2.2.2.2.2.2.2.2.2.2.2.2.2.2.2.2.2.2.2.2.2.2.1) (c3 := K.2.2.2.2.2.2.2.2.2.2.2.2.2.2.2.2.2.2.2.2.2.2.2.2.1) u1.1 hC u4 u2 hk.2.2
  obtain ⟨d, hd, hdR⟩ := X4_takeDraft (N := N) u1.1 hC r4 hm (by omega)
  obtain ⟨sg, hsg, s1, s2, s3⟩ := X9_settle (N := N) (S := tkS S m (faS T L).2.2) (pn := K.2.2.1) (pf := K.2.2.2.2.2.2.2.2.2.2.2.2.2.2.1) (held := K.2.2.2.2.2.2.2.2.2.2.2.2.2.2.2.2.2.2.1) (shifts := K.2.2.2.2.2.2.2.2.2.2.2.2.2.2.2.2.2.2.2.1) hok' hdR (by omega)
  have c0 := X4_count_at (N := N) (S := tkS S m (faS T L).2.2) (v := 0) hok'.1 hdR hm (by omega)
  have c1 := X4_count_at (N := N) (S := tkS S m (faS T L).2.2) (v := 1) hok'.1 hdR hm (by omega)
  refine ⟨(iI ((tkS S m (faS T L).2.2).2.2.1 m 0) + iI ((tkS S m (faS T L).2.2).2.2.1 m 1), p.1, p.2.1, sg.1, r.2.1, r.2.2.1, r.2.2.2.1, p.2.2.1, p.2.2.2.1, p.2.2.2.2.1, p.2.2.2.2.2.1, sg.2.1, r.2.2.2.2.1, d, sg.2.2.1, sg.2.2.2, p.2.2.2.2.2.2.1, p.2.2.2.2.2.2.2.1, p.2.2.2.2.2.2.2.2.1, p.2.2.2.2.2.2.2.2.2, r.2.2.2.2.2), ?_, rfl, (nx + 1) % 4, ⟨hok', take4_le, take4_ok u1 u3, by omega, u5, u6⟩, ⟨p1, p2, p3⟩, s1, ⟨e6, hdR.2⟩, hT, s2, s3⟩
  unfold f_X9_readInto
  rw [zSub_rq (C_rqM u1.1 (zIn_ m (by omega))), if_pos hq, z_be hr, if_pos (by rw [r1, ef]; exact m1), z_be hp, z_be (show f_X3_draft N = some () from rfl), r3, z_be hd, z_be (show f_X9_settle N K.2.2.1 (iI S.1) _ _ _ _ = some sg from hsg)]
  rw [show f_X4_count N (iI S.1) d (iI m) 0 = _ from c0, z_sb, show f_X4_count N (iI S.1) d (iI m) 1 = _ from c1, z_sb]
theorem d_addMeasure (hN : 20000 ≤ N) (hZ : zC S hs L T K) (hn : S.1 < 16) : ∃ r, rs_addMeasure N K  = some (.inl r) ∧ r.1 = iI (S.1 : Nat) ∧ zC (nwS S) ((S :: hs).take 4) L T (k1_addMeasure K r) := by
  obtain ⟨nx, ⟨u1, u2, u3, u4, u5, u6⟩, hk, hO, hC, hT, hH, hF⟩ := hZ
  have e6 := hC.1
  have h1 := u1.1.1
  rw [e6] at hC
  unfold rs_addMeasure
  rw [hk.1, hk.2.1, e6]
  obtain ⟨s, hs1, b, rfl, g0, g8, g1, g2, g3, g4, g5, g6, g7⟩ := C_addMeasure (N := N) (pn := K.2.2.1) (pf := K.2.2.2.2.2.2.2.2.2.2.2.2.2.2.1) (held := K.2.2.2.2.2.2.2.2.2.2.2.2.2.2.2.2.2.2.1) (shifts := K.2.2.2.2.2.2.2.2.2.2.2.2.2.2.2.2.2.2.2.1) (n0 := K.2.2.2.2.2.2.2.2.2.2.1) (n1 := K.2.2.2.2.2.2.2.2.2.2.2.1) (n2 := K.2.2.2.2.2.2.2.2.2.2.2.2.1) (n3 := K.2.2.2.2.2.2.2.2.2.2.2.2.2.1) (c0 := K.2.2.2.2.2.2.2.2.2.2.2.2.2.2.2.2.2.2.2.2.2.1) (c1 := K.2.2.2.2.2.2.2.2.2.2.2.2.2.2.2.2.2.2.2.2.2.2.1) (c2 := K.2.2.2.2.2.2.2.2.2.2.2.2.2.2.2.2.2.2.2.2.2.2.2.1) (c3 := K.2.2.2.2.2.2.2.2.2.2.2.2.2.2.2.2.2.2.2.2.2.2.2.2.1) u1 hC u4 u2 hk.2.2 hn (by omega)
  exact ⟨b, hs1, g0, (nx + 1) % 4, ⟨okS_nwS u1 hn, take4_le, take4_ok u1 u3, by omega, u5, u6⟩, ⟨g1, g2, g3⟩, g4, ⟨g8, g5.2⟩, hT, g6, g7⟩
theorem d_removeMeasure (hN : 20000 ≤ N) (hZ : zC S hs L T K) {m : Nat} (hm : m < S.1) {ym : Int32} (em : ym = iI m) : ∃ r, rs_removeMeasure N K ym = some (.inl r) ∧ r.1 = iI ((S.1 - 1 : Nat) : Int) ∧ zC (drS S m) ((S :: hs).take 4) L T (k1_removeMeasure K r) := by
  subst em
  obtain ⟨nx, ⟨u1, u2, u3, u4, u5, u6⟩, hk, hO, hC, hT, hH, hF⟩ := hZ
  have e6 := hC.1
  have h1 := u1.1.1
  rw [e6] at hC
  unfold rs_removeMeasure
  rw [hk.1, hk.2.1, e6]
  obtain ⟨s, hs1, b, rfl, g0, g8, g1, g2, g3, g4, g5, g6, g7⟩ := C_removeMeasure (N := N) (pn := K.2.2.1) (pf := K.2.2.2.2.2.2.2.2.2.2.2.2.2.2.1) (held := K.2.2.2.2.2.2.2.2.2.2.2.2.2.2.2.2.2.2.1) (shifts := K.2.2.2.2.2.2.2.2.2.2.2.2.2.2.2.2.2.2.2.1) (n0 := K.2.2.2.2.2.2.2.2.2.2.1) (n1 := K.2.2.2.2.2.2.2.2.2.2.2.1) (n2 := K.2.2.2.2.2.2.2.2.2.2.2.2.1) (n3 := K.2.2.2.2.2.2.2.2.2.2.2.2.2.1) (c0 := K.2.2.2.2.2.2.2.2.2.2.2.2.2.2.2.2.2.2.2.2.2.1) (c1 := K.2.2.2.2.2.2.2.2.2.2.2.2.2.2.2.2.2.2.2.2.2.2.1) (c2 := K.2.2.2.2.2.2.2.2.2.2.2.2.2.2.2.2.2.2.2.2.2.2.2.1) (c3 := K.2.2.2.2.2.2.2.2.2.2.2.2.2.2.2.2.2.2.2.2.2.2.2.2.1) u1 hC u4 u2 hk.2.2 hm (by omega)
  exact ⟨b, hs1, g0, (nx + 1) % 4, ⟨okS_drS u1 hm, take4_le, take4_ok u1 u3, by omega, u5, u6⟩, ⟨g1, g2, g3⟩, g4, ⟨g8, g5.2⟩, hT, g6, g7⟩
theorem d_set (hN : 20000 ≤ N) (hZ : zC S hs L T K) {x y z : Int} (hx : 0 ≤ x ∧ x < S.1) (hc : chP y z) (hy : zInt y) (hz : zInt z) {yx : Int32} (ex : yx = iI x) {yy : Int32} (ey : yy = iI y) {yz : Int32} (ez : yz = iI z) : ∃ r, rs_set N K yx yy yz = some (.inl r) ∧ r.1 = iI (S.2.1 x.toNat y.toNat) ∧ zC (setV S x.toNat y.toNat z) ((S :: hs).take 4) L T (k1_set K r) := by
  subst ex; subst ey; subst ez
  obtain ⟨nx, ⟨u1, u2, u3, u4, u5, u6⟩, hk, hO, hC, hT, hH, hF⟩ := hZ
  have e6 := hC.1
  have h1 := u1.1.1
  rw [e6] at hC
  unfold rs_set
  rw [hk.1, hk.2.1, e6]
  obtain ⟨s, hs1, b, rfl, g0, g1, g2, g3, g4, g5, g6, g7⟩ := C_set (N := N) (pn := K.2.2.1) (pf := K.2.2.2.2.2.2.2.2.2.2.2.2.2.2.1) (held := K.2.2.2.2.2.2.2.2.2.2.2.2.2.2.2.2.2.2.1) (shifts := K.2.2.2.2.2.2.2.2.2.2.2.2.2.2.2.2.2.2.2.1) (n0 := K.2.2.2.2.2.2.2.2.2.2.1) (n1 := K.2.2.2.2.2.2.2.2.2.2.2.1) (n2 := K.2.2.2.2.2.2.2.2.2.2.2.2.1) (n3 := K.2.2.2.2.2.2.2.2.2.2.2.2.2.1) (c0 := K.2.2.2.2.2.2.2.2.2.2.2.2.2.2.2.2.2.2.2.2.2.1) (c1 := K.2.2.2.2.2.2.2.2.2.2.2.2.2.2.2.2.2.2.2.2.2.2.1) (c2 := K.2.2.2.2.2.2.2.2.2.2.2.2.2.2.2.2.2.2.2.2.2.2.2.1) (c3 := K.2.2.2.2.2.2.2.2.2.2.2.2.2.2.2.2.2.2.2.2.2.2.2.2.1) u1 hC u4 u2 hk.2.2 hx hc hy hz (by omega)
  exact ⟨b, hs1, g0, (nx + 1) % 4, ⟨okS_setVg u1 (by omega) (by rw [Int.toNat_of_nonneg (show 0 ≤ y by omega)]; exact hc), take4_le, take4_ok u1 u3, by omega, u5, u6⟩, ⟨g1, g2, g3⟩, g4, ⟨e6, g5.2⟩, hT, g6, g7⟩
theorem d_addRest (hN : 20000 ≤ N) (hZ : zC S hs L T K) {x y d : Int} (hx : 0 ≤ x ∧ x < S.1 ∧ 0 ≤ y ∧ y < 2) (hd : 0 ≤ d ∧ d ≤ 9) (hc : gC S x y < 24) {yx : Int32} (ex : yx = iI x) {yy : Int32} (ey : yy = iI y) {yd : Int32} (ed : yd = iI d) : ∃ r, rs_addRest N K yx yy yd = some (.inl r) ∧ r.1 = iI ((S.2.2.1 x.toNat y.toNat + 1 : Nat) : Int) ∧ zC (setAd S x.toNat y.toNat (-1, 0, d, 0)) ((S :: hs).take 4) L T (k1_addRest K r) := by
  subst ex; subst ey; subst ed
  obtain ⟨nx, ⟨u1, u2, u3, u4, u5, u6⟩, hk, hO, hC, hT, hH, hF⟩ := hZ
  have e6 := hC.1
  have h1 := u1.1.1
  rw [e6] at hC
  unfold rs_addRest
  rw [hk.1, hk.2.1, e6]
  obtain ⟨s, hs1, b, rfl, g0, g1, g2, g3, g4, g5, g6, g7⟩ := C_addRest (N := N) (pn := K.2.2.1) (pf := K.2.2.2.2.2.2.2.2.2.2.2.2.2.2.1) (held := K.2.2.2.2.2.2.2.2.2.2.2.2.2.2.2.2.2.2.1) (shifts := K.2.2.2.2.2.2.2.2.2.2.2.2.2.2.2.2.2.2.2.1) (n0 := K.2.2.2.2.2.2.2.2.2.2.1) (n1 := K.2.2.2.2.2.2.2.2.2.2.2.1) (n2 := K.2.2.2.2.2.2.2.2.2.2.2.2.1) (n3 := K.2.2.2.2.2.2.2.2.2.2.2.2.2.1) (c0 := K.2.2.2.2.2.2.2.2.2.2.2.2.2.2.2.2.2.2.2.2.2.1) (c1 := K.2.2.2.2.2.2.2.2.2.2.2.2.2.2.2.2.2.2.2.2.2.2.1) (c2 := K.2.2.2.2.2.2.2.2.2.2.2.2.2.2.2.2.2.2.2.2.2.2.2.1) (c3 := K.2.2.2.2.2.2.2.2.2.2.2.2.2.2.2.2.2.2.2.2.2.2.2.2.1) u1 hC u4 u2 hk.2.2 hx hd hc (by omega)
  exact ⟨b, hs1, g0, (nx + 1) % 4, ⟨okS_setAd u1 (by omega) (by omega) (by unfold gC at hc; rw [if_pos hx] at hc; omega) (okE_rest hd), take4_le, take4_ok u1 u3, by omega, u5, u6⟩, ⟨g1, g2, g3⟩, g4, ⟨e6, g5.2⟩, hT, g6, g7⟩
theorem d_addNote (hN : 20000 ≤ N) (hZ : zC S hs L T K) {x y p s d : Int} {y6 : Int32} (hx : 0 ≤ x ∧ x < S.1 ∧ 0 ≤ y ∧ y < 2) (hd : nP p s d) (hc : gC S x y < 24) {yx : Int32} (ex : yx = iI x) {yy : Int32} (ey : yy = iI y) {yp : Int32} (ep : yp = iI p) {ys : Int32} (es : ys = iI s) {yd : Int32} (ed : yd = iI d) : ∃ r, rs_addNote N K yx yy yp ys yd y6 = some (.inl r) ∧ r.1 = iI ((S.2.2.1 x.toNat y.toNat + 1 : Nat) : Int) ∧ zC (setAd S x.toNat y.toNat (p, s, d, tdI y6)) ((S :: hs).take 4) L T (k1_addNote K r) := by
  subst ex; subst ey; subst ep; subst es; subst ed
  obtain ⟨nx, ⟨u1, u2, u3, u4, u5, u6⟩, hk, hO, hC, hT, hH, hF⟩ := hZ
  have e6 := hC.1
  have h1 := u1.1.1
  rw [e6] at hC
  unfold rs_addNote
  rw [hk.1, hk.2.1, e6]
  obtain ⟨s, hs1, b, rfl, g0, g1, g2, g3, g4, g5, g6, g7⟩ := C_addNote (N := N) (pn := K.2.2.1) (pf := K.2.2.2.2.2.2.2.2.2.2.2.2.2.2.1) (held := K.2.2.2.2.2.2.2.2.2.2.2.2.2.2.2.2.2.2.1) (shifts := K.2.2.2.2.2.2.2.2.2.2.2.2.2.2.2.2.2.2.2.1) (n0 := K.2.2.2.2.2.2.2.2.2.2.1) (n1 := K.2.2.2.2.2.2.2.2.2.2.2.1) (n2 := K.2.2.2.2.2.2.2.2.2.2.2.2.1) (n3 := K.2.2.2.2.2.2.2.2.2.2.2.2.2.1) (c0 := K.2.2.2.2.2.2.2.2.2.2.2.2.2.2.2.2.2.2.2.2.2.1) (c1 := K.2.2.2.2.2.2.2.2.2.2.2.2.2.2.2.2.2.2.2.2.2.2.1) (c2 := K.2.2.2.2.2.2.2.2.2.2.2.2.2.2.2.2.2.2.2.2.2.2.2.1) (c3 := K.2.2.2.2.2.2.2.2.2.2.2.2.2.2.2.2.2.2.2.2.2.2.2.2.1) u1 hC u4 u2 hk.2.2 hx hd hc (by omega)
  exact ⟨b, hs1, g0, (nx + 1) % 4, ⟨okS_setAd u1 (by omega) (by omega) (by unfold gC at hc; rw [if_pos hx] at hc; omega) (okE_note hd y6), take4_le, take4_ok u1 u3, by omega, u5, u6⟩, ⟨g1, g2, g3⟩, g4, ⟨e6, g5.2⟩, hT, g6, g7⟩
theorem d_removeEvent (hN : 20000 ≤ N) (hZ : zC S hs L T K) {m v e : Nat} (hm : m < S.1) (hv : v < 2) (he : e < S.2.2.1 m v) {ym : Int32} (em : ym = iI m) {yv : Int32} (ev : yv = iI v) {ye : Int32} (ee : ye = iI e) : ∃ r, rs_removeEvent N K ym yv ye = some (.inl r) ∧ r.1 = iI ((S.2.2.1 m v - 1 : Nat) : Int) ∧ zC (setRm S m v e) ((S :: hs).take 4) L T (k1_removeEvent K r) := by
  subst em; subst ev; subst ee
  obtain ⟨nx, ⟨u1, u2, u3, u4, u5, u6⟩, hk, hO, hC, hT, hH, hF⟩ := hZ
  have e6 := hC.1
  have h1 := u1.1.1
  rw [e6] at hC
  unfold rs_removeEvent
  rw [hk.1, hk.2.1, e6]
  obtain ⟨s, hs1, b, rfl, g0, g1, g2, g3, g4, g5, g6, g7⟩ := C_removeEvent (N := N) (pn := K.2.2.1) (pf := K.2.2.2.2.2.2.2.2.2.2.2.2.2.2.1) (held := K.2.2.2.2.2.2.2.2.2.2.2.2.2.2.2.2.2.2.1) (shifts := K.2.2.2.2.2.2.2.2.2.2.2.2.2.2.2.2.2.2.2.1) (n0 := K.2.2.2.2.2.2.2.2.2.2.1) (n1 := K.2.2.2.2.2.2.2.2.2.2.2.1) (n2 := K.2.2.2.2.2.2.2.2.2.2.2.2.1) (n3 := K.2.2.2.2.2.2.2.2.2.2.2.2.2.1) (c0 := K.2.2.2.2.2.2.2.2.2.2.2.2.2.2.2.2.2.2.2.2.2.1) (c1 := K.2.2.2.2.2.2.2.2.2.2.2.2.2.2.2.2.2.2.2.2.2.2.1) (c2 := K.2.2.2.2.2.2.2.2.2.2.2.2.2.2.2.2.2.2.2.2.2.2.2.1) (c3 := K.2.2.2.2.2.2.2.2.2.2.2.2.2.2.2.2.2.2.2.2.2.2.2.2.1) u1 hC u4 u2 hk.2.2 hm hv he (by omega)
  exact ⟨b, hs1, g0, (nx + 1) % 4, ⟨okS_setRm u1 hm hv he, take4_le, take4_ok u1 u3, by omega, u5, u6⟩, ⟨g1, g2, g3⟩, g4, ⟨e6, g5.2⟩, hT, g6, g7⟩
theorem dx_addMeasure (hZ : zC S hs L T K) (q : ¬ S.1 < 16) : rs_addMeasure N K = some (.inr 2) := by
  obtain ⟨nx, ⟨u1, u2, u3, u4, u5, u6⟩, hk, hO, hC, hT, hH, hF⟩ := hZ
  have e6 := hC.1
  have h1 := u1.1.1
  unfold rs_addMeasure f_X9_addMeasure
  have ef : f_X4_isFull N (iI S.1) = some 1 := by
    unfold f_X4_isFull
    rw [if_neg (by rw [iL16, iI_lt (by omega) (by omega) (by omega) (by omega)]; omega)]
  rw [e6, z_be ef, if_neg ne10]
theorem dx_set1 (hZ : zC S hs L T K) {a b c : Int} (ha : zInt a) (hb : zInt b) (hc : zInt c) (q : 0 ≤ a ∧ a < S.1) (q2 : ¬ chP b c) {ya : Int32} (ea : ya = iI a) {yb : Int32} (eb : yb = iI b) {yc : Int32} (ec : yc = iI c) : rs_set N K ya yb yc = some (.inr 1) := by
  subst ea; subst eb; subst ec
  obtain ⟨nx, ⟨u1, u2, u3, u4, u5, u6⟩, hk, hO, hC, hT, hH, hF⟩ := hZ
  have e6 := hC.1
  unfold rs_set f_X9_set
  rw [e6, zSub_rq (C_rqM u1.1 ha), if_pos q, z_be (z_p0 q2 (X4_canHold hb hc)), if_pos z00]
theorem dx_addRest0 (hZ : zC S hs L T K) {a b c : Int} (ha : zInt a) (hb : zInt b) (q : ¬ (0 ≤ a ∧ a < S.1 ∧ 0 ≤ b ∧ b < 2)) {ya : Int32} (ea : ya = iI a) {yb : Int32} (eb : yb = iI b) {yc : Int32} (ec : yc = iI c) : rs_addRest N K ya yb yc = some (.inr 0) := by
  subst ea; subst eb; subst ec
  obtain ⟨nx, ⟨u1, u2, u3, u4, u5, u6⟩, hk, hO, hC, hT, hH, hF⟩ := hZ
  have e6 := hC.1
  unfold rs_addRest f_X9_addRest
  rw [e6, zSub_rq (C_rqV u1.1 ha hb), if_neg q]
theorem dx_addRest1 (hZ : zC S hs L T K) {a b c : Int} (ha : zInt a) (hb : zInt b) (hc : zInt c) (q : 0 ≤ a ∧ a < S.1 ∧ 0 ≤ b ∧ b < 2) (q2 : ¬ (0 ≤ c ∧ c ≤ 9)) {ya : Int32} (ea : ya = iI a) {yb : Int32} (eb : yb = iI b) {yc : Int32} (ec : yc = iI c) : rs_addRest N K ya yb yc = some (.inr 1) := by
  subst ea; subst eb; subst ec
  obtain ⟨nx, ⟨u1, u2, u3, u4, u5, u6⟩, hk, hO, hC, hT, hH, hF⟩ := hZ
  have e6 := hC.1
  have hr : f_X9_requireRange N (iI c) 0 9 = if 0 ≤ c ∧ c ≤ 9 then some (.inl ()) else some (.inr 1) := C_rqR (a := 0) (b := 9) hc (by unfold zInt; omega) (by unfold zInt; omega)
  unfold rs_addRest f_X9_addRest
  rw [e6, zSub_rq (C_rqV u1.1 ha hb), if_pos q, zSub_rq hr, if_neg q2]
theorem dx_addRest2 (hZ : zC S hs L T K) {a b c : Int} (ha : zInt a) (hb : zInt b) (hc : zInt c) (q : 0 ≤ a ∧ a < S.1 ∧ 0 ≤ b ∧ b < 2) (q2 : 0 ≤ c ∧ c ≤ 9) (q3 : ¬ gC S a b < 24) {ya : Int32} (ea : ya = iI a) {yb : Int32} (eb : yb = iI b) {yc : Int32} (ec : yc = iI c) : rs_addRest N K ya yb yc = some (.inr 2) := by
  subst ea; subst eb; subst ec
  obtain ⟨nx, ⟨u1, u2, u3, u4, u5, u6⟩, hk, hO, hC, hT, hH, hF⟩ := hZ
  have e6 := hC.1
  rw [e6] at hC
  have hr : f_X9_requireRange N (iI c) 0 9 = if 0 ≤ c ∧ c ≤ 9 then some (.inl ()) else some (.inr 1) := C_rqR (a := 0) (b := 9) hc (by unfold zInt; omega) (by unfold zInt; omega)
  unfold rs_addRest f_X9_addRest
  rw [e6, zSub_rq (C_rqV u1.1 ha hb), if_pos q, zSub_rq hr, if_pos q2, zSub_rq (C_rqRoom u1.1 hC ha hb), if_neg q3]
theorem dx_addNote0 (hZ : zC S hs L T K) {a b c d w : Int} {y6 : Int32} (ha : zInt a) (hb : zInt b) (q : ¬ (0 ≤ a ∧ a < S.1 ∧ 0 ≤ b ∧ b < 2)) {ya : Int32} (ea : ya = iI a) {yb : Int32} (eb : yb = iI b) {yc : Int32} (ec : yc = iI c) {yd : Int32} (ed : yd = iI d) {yw : Int32} (ew : yw = iI w) : rs_addNote N K ya yb yc yd yw y6 = some (.inr 0) := by
  subst ea; subst eb; subst ec; subst ed; subst ew
  obtain ⟨nx, ⟨u1, u2, u3, u4, u5, u6⟩, hk, hO, hC, hT, hH, hF⟩ := hZ
  have e6 := hC.1
  unfold rs_addNote f_X9_addNote
  rw [e6, zSub_rq (C_rqV u1.1 ha hb), if_neg q]
theorem dx_addNote1 (hZ : zC S hs L T K) {a b c d w : Int} {y6 : Int32} (ha : zInt a) (hb : zInt b) (hc : zInt c) (hd : zInt d) (hw : zInt w) (q : 0 ≤ a ∧ a < S.1 ∧ 0 ≤ b ∧ b < 2) (q2 : ¬ nP c d w) {ya : Int32} (ea : ya = iI a) {yb : Int32} (eb : yb = iI b) {yc : Int32} (ec : yc = iI c) {yd : Int32} (ed : yd = iI d) {yw : Int32} (ew : yw = iI w) : rs_addNote N K ya yb yc yd yw y6 = some (.inr 1) := by
  subst ea; subst eb; subst ec; subst ed; subst ew
  obtain ⟨nx, ⟨u1, u2, u3, u4, u5, u6⟩, hk, hO, hC, hT, hH, hF⟩ := hZ
  have e6 := hC.1
  have hr1 : f_X9_requireRange N (iI c) 0 62 = if 0 ≤ c ∧ c ≤ 62 then some (.inl ()) else some (.inr 1) := C_rqR (a := 0) (b := 62) hc (by unfold zInt; omega) (by unfold zInt; omega)
  have hr2 : f_X9_requireRange N (iI d) 0 3 = if 0 ≤ d ∧ d ≤ 3 then some (.inl ()) else some (.inr 1) := C_rqR (a := 0) (b := 3) hd (by unfold zInt; omega) (by unfold zInt; omega)
  have hr : f_X9_requireRange N (iI w) 0 9 = if 0 ≤ w ∧ w ≤ 9 then some (.inl ()) else some (.inr 1) := C_rqR (a := 0) (b := 9) hw (by unfold zInt; omega) (by unfold zInt; omega)
  unfold rs_addNote f_X9_addNote
  rw [e6, zSub_rq (C_rqV u1.1 ha hb), if_pos q, zSub_rq hr1]
  by_cases r1 : 0 ≤ c ∧ c ≤ 62
  · rw [if_pos r1, zSub_rq hr2]
    by_cases r2 : 0 ≤ d ∧ d ≤ 3
    · rw [if_pos r2, zSub_rq hr, if_neg (fun r3 => q2 ⟨r1, r2, r3⟩)]
    · rw [if_neg r2]
  · rw [if_neg r1]
theorem dx_addNote2 (hZ : zC S hs L T K) {a b c d w : Int} {y6 : Int32} (ha : zInt a) (hb : zInt b) (hc : zInt c) (hd : zInt d) (hw : zInt w) (q : 0 ≤ a ∧ a < S.1 ∧ 0 ≤ b ∧ b < 2) (q2 : nP c d w) (q3 : ¬ gC S a b < 24) {ya : Int32} (ea : ya = iI a) {yb : Int32} (eb : yb = iI b) {yc : Int32} (ec : yc = iI c) {yd : Int32} (ed : yd = iI d) {yw : Int32} (ew : yw = iI w) : rs_addNote N K ya yb yc yd yw y6 = some (.inr 2) := by
  subst ea; subst eb; subst ec; subst ed; subst ew
  obtain ⟨nx, ⟨u1, u2, u3, u4, u5, u6⟩, hk, hO, hC, hT, hH, hF⟩ := hZ
  have e6 := hC.1
  rw [e6] at hC
  have hr1 : f_X9_requireRange N (iI c) 0 62 = if 0 ≤ c ∧ c ≤ 62 then some (.inl ()) else some (.inr 1) := C_rqR (a := 0) (b := 62) hc (by unfold zInt; omega) (by unfold zInt; omega)
  have hr2 : f_X9_requireRange N (iI d) 0 3 = if 0 ≤ d ∧ d ≤ 3 then some (.inl ()) else some (.inr 1) := C_rqR (a := 0) (b := 3) hd (by unfold zInt; omega) (by unfold zInt; omega)
  have hr : f_X9_requireRange N (iI w) 0 9 = if 0 ≤ w ∧ w ≤ 9 then some (.inl ()) else some (.inr 1) := C_rqR (a := 0) (b := 9) hw (by unfold zInt; omega) (by unfold zInt; omega)
  unfold rs_addNote f_X9_addNote
  rw [e6, zSub_rq (C_rqV u1.1 ha hb), if_pos q, zSub_rq hr1, if_pos q2.1, zSub_rq hr2, if_pos q2.2.1, zSub_rq hr, if_pos q2.2.2, zSub_rq (C_rqRoom u1.1 hC ha hb), if_neg q3]
theorem dx_removeEvent (hZ : zC S hs L T K) {a b c : Int} (ha : zInt a) (hb : zInt b) (hc : zInt c) (q : ¬ (0 ≤ c ∧ c < gC S a b)) {ya : Int32} (ea : ya = iI a) {yb : Int32} (eb : yb = iI b) {yc : Int32} (ec : yc = iI c) : rs_removeEvent N K ya yb yc = some (.inr 0) := by
  subst ea; subst eb; subst ec
  obtain ⟨nx, ⟨u1, u2, u3, u4, u5, u6⟩, hk, hO, hC, hT, hH, hF⟩ := hZ
  have e6 := hC.1
  rw [e6] at hC
  unfold rs_removeEvent f_X9_removeEvent
  rw [e6, zSub_rq (C_rqE u1.1 hC ha hb hc), if_neg q]
theorem dx_undo (hZ : zC S [] L T K) : rs_undo N K = some (.inr 2) := by
  obtain ⟨nx, h0, hk, hO, hC, hT, hH, hF⟩ := hZ
  unfold rs_undo
  rw [hk.2.1]
  rfl
theorem d_undo (hN : 20000 ≤ N) (hZ : zC S (X :: hs) L T K) : ∃ r, rs_undo N K = some (.inl r) ∧ r.1 = iI hs.length ∧ zC X hs L T (k1_undo K r) := by
  obtain ⟨nx, ⟨u1, u2, u3, u4, u5, u6⟩, hk, hO, hC, hT, hH, hF⟩ := hZ
  have hok := u3 X (List.mem_cons_self ..)
  have hl2 : (X :: hs).length = hs.length + 1 := rfl
  unfold rs_undo
  rw [hk.1, hk.2.1]
  obtain ⟨s, hs1, b, rfl, p1, p2, p3, p4, p5, p6, p7⟩ := C_undo (N := N) (pn := K.2.2.1) (sz := K.2.2.2.2.2.2.1) (c := K.2.2.2.2.2.2.2.2.2.2.2.2.2.2.2.2.1) (pf := K.2.2.2.2.2.2.2.2.2.2.2.2.2.2.1) (held := K.2.2.2.2.2.2.2.2.2.2.2.2.2.2.2.2.2.2.1) (shifts := K.2.2.2.2.2.2.2.2.2.2.2.2.2.2.2.2.2.2.2.1) hok u4 u2 hk.2.2 (by omega)
  exact ⟨b, hs1, p1, (nx + 3) % 4, ⟨hok, by omega, fun Y hY => u3 Y (List.mem_cons_of_mem _ hY), by omega, u5, u6⟩, ⟨p2, p3, zRg_pop u4 u2 hk.2.2⟩, p4, p5, hT, p6, p7⟩
end ZPA
