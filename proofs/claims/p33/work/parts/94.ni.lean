/-! ===== lengths in seconds ===== -/
theorem zFmu_ok {x y : UInt32} (h : zfN (FP.fmul x y)) : zFmu x y = some (FP.fmul x y) := if_pos (zfN_and h)
theorem zFdi_ok {x y : UInt32} (h : zfN (FP.fdiv x y)) : zFdi x y = some (FP.fdiv x y) := if_pos (zfN_and h)
theorem zFad_ok {x y : UInt32} (h : zfN (FP.fadd x y)) : zFad x y = some (FP.fadd x y) := if_pos (zfN_and h)
/-- how long a measure lasts, in seconds -/
def secS (S : zSt) (m : Nat) : UInt32 := FP.fmul (FP.i2f (iI (gL S m))) (FP.fdiv 1114636288 (FP.fmul 1098907648 (FP.i2f (iI (S.2.1 m 3)))))
def smS (S : zSt) : Nat → UInt32
  | 0 => FP.fconst0
  | i + 1 => FP.fadd (smS S i) (secS S ((oEnd S).2.2.2.2.2 i).toNat)
section ZNL
variable {N : Nat} {S X : zSt} {st cells shifts held past pf : Nat → Int32} {size code pn : Int32} {m v e k i j nx : Nat} {hs : List zSt} {K : zKT}
theorem secS_ok (h : okS S) (hm : m < S.1) : zFmu 1098907648 (FP.i2f (iI (S.2.1 m 3))) = some (FP.fmul 1098907648 (FP.i2f (iI (S.2.1 m 3)))) ∧ zFdi 1114636288 (FP.fmul 1098907648 (FP.i2f (iI (S.2.1 m 3)))) = some (FP.fdiv 1114636288 (FP.fmul 1098907648 (FP.i2f (iI (S.2.1 m 3))))) ∧ zFmu (FP.i2f (iI (gL S m))) (FP.fdiv 1114636288 (FP.fmul 1098907648 (FP.i2f (iI (S.2.1 m 3))))) = some (secS S m) ∧ zfF (secS S m) := by
  have hV := h.2 m hm
  have hg := gL_b h hm
  obtain ⟨-, -, -, ht, -⟩ := hV
  obtain ⟨t, et⟩ := Int.eq_ofNat_of_zero_le (show 0 ≤ S.2.1 m 3 by omega)
  have hT := zfT_all t (by omega) (by omega)
  unfold zfT at hT
  rw [Bool.and_eq_true, decide_eq_true_eq, decide_eq_true_eq] at hT
  unfold secS
  rw [et]
  unfold iI
  have h1 : (FP.i2f (Int32.ofInt (gL S m))).toNat < 160 * 2 ^ 23 := zf_i2f (by have := iI_toInt (a := gL S m) (by omega) (by omega); unfold iI at this; rw [this]; omega)
  have h2 := zf_mul h1 hT.2
  exact ⟨zFmu_ok hT.1, zFdi_ok (by unfold zfN; omega), zFmu_ok (zfF_N h2), h2⟩
theorem smS_ok (h : okS S) : ∀ i, i ≤ (oEnd S).2.2.2.2.1 → zfN (smS S i)
  | 0, _ => zfN_0
  | i + 1, hi => by
    have hb := (oEnd_b h).2 i (by omega)
    have := smS_ok h i (by omega)
    exact (zf_add this (secS_ok h (m := ((oEnd S).2.2.2.2.2 i).toNat) (by omega)).2.2.2).1
theorem smS_step (h : okS S) (hi : i < (oEnd S).2.2.2.2.1) : zFad (smS S i) (secS S ((oEnd S).2.2.2.2.2 i).toNat) = some (smS S (i + 1)) := zFad_ok (smS_ok h (i + 1) hi)
theorem smS_le (h : okS S) (hi : i < (oEnd S).2.2.2.2.1) : (smS S i).toNat ≤ (smS S (i + 1)).toNat := by
  have hb := (oEnd_b h).2 i (by omega)
  exact (zf_add (smS_ok h i (by omega)) (secS_ok h (m := ((oEnd S).2.2.2.2.2 i).toNat) (by omega)).2.2.2).2
/-- a tempo is a float above zero -/
def zfPs (t : Nat) : Bool := decide ((FP.i2f (Int32.ofInt t)).toNat ≤ 2139095040) && decide (0 < Op.cmpValue (FP.fcmp (FP.i2f (Int32.ofInt t)) FP.fconst0) .l)
theorem zfPs_all : ∀ t : Nat, t < 301 → 20 ≤ t → zfPs t = true := by decide +kernel
theorem secS_pos (h : okS S) (hm : m < S.1) : 0 < Op.cmpValue (FP.fcmp (FP.i2f (iI (S.2.1 m 3))) FP.fconst0) .l := by
  have hV := h.2 m hm
  obtain ⟨-, -, -, ht, -⟩ := hV
  obtain ⟨t, et⟩ := Int.eq_ofNat_of_zero_le (show 0 ≤ S.2.1 m 3 by omega)
  have hT := zfPs_all t (by omega) (by omega)
  unfold zfPs at hT
  rw [Bool.and_eq_true, decide_eq_true_eq, decide_eq_true_eq] at hT
  rw [et]
  exact hT.2
theorem X2_secondsOf (h : okS S) (hR : RC S (iI S.1) cells) (hF : oF S pn pf) (hi : i < (oEnd S).2.2.2.2.1) : f_X2_secondsOf N pn pf (iI S.1) cells (iI i) = some (secS S ((oEnd S).2.2.2.2.2 i).toNat) := by
  have hb := (oEnd_b h).2 i hi
  obtain ⟨m, hm⟩ := Int.eq_ofNat_of_zero_le hb.1
  have e1 := X2_at (N := N) h hF hi
  rw [hm] at e1
  have hlt : m < S.1 := by omega
  have ev : f_X4_value N (iI S.1) cells (iI m) 3 = some (iI (S.2.1 m 3)) := X4_value_at h.1 hR hlt (k := 3) (by omega)
  obtain ⟨g1, g2, g3, -⟩ := secS_ok h hlt
  unfold f_X2_secondsOf
  rw [hm, Int.toNat_natCast, z_be e1, z_be ev, z_sb, if_pos (secS_pos h hlt), z_be (X4_ticks h hR hlt), z_be g1, z_be g2, z_be g3]
def smA (S : zSt) (a : Int) : UInt32 := smS S (if a < ((oEnd S).2.2.2.2.1 : Int) then a.toNat else (oEnd S).2.2.2.2.1)
theorem smA_ok (h : okS S) {a : Int} (ha : 0 ≤ a) : zfN (smA S a) := by
  unfold smA
  split
  · exact smS_ok h _ (by omega)
  · exact smS_ok h _ (Nat.le_refl _)
theorem C_seconds (h : okS S) (hR : RC S (iI S.1) cells) (hF : oF S pn pf) {a : Int} (ha : zInt a) (hN : 4000 ≤ N) : f_X9_seconds N pn (iI S.1) pf cells (iI a) = if 0 ≤ a then some (.inl (smA S a)) else some (.inr 1) := by
  have hb := oEnd_b h
  unfold f_X9_seconds
  rw [zSub_rq (C_rqN ha)]
  unfold zInt at ha
  by_cases q : 0 ≤ a
  · rw [if_pos q, if_pos q]
    have e : f_X2_secondsUpTo N pn pf (iI S.1) cells (iI a) = some (smA S a) := by
      unfold f_X2_secondsUpTo
      refine z_eqT (zT_bind (zT_mono (zT_loop (fun n s => ∃ i : Nat, i ≤ (oEnd S).2.2.2.2.1 ∧ (i : Int) ≤ a ∧ n = (oEnd S).2.2.2.2.1 - i ∧ s = (smS S i, iI i)) ?_ N (oEnd S).2.2.2.2.1 (FP.fconst0, 0) (by omega) ⟨0, by omega, q, rfl, rfl⟩) (fun a q => zT_some q)))
      rintro n s c ⟨i, hi, hia, rfl, rfl⟩ ih
      unfold f_X2_secondsUpTo_B5
      dsimp only
      have hl : (iI (i : Int) < pn) = ((i : Int) < ((oEnd S).2.2.2.2.1 : Int)) := by rw [hF.1]; exact iI_lt (by omega) (by omega) (by omega) (by omega)
      have hl2 : (iI (i : Int) < iI a) = ((i : Int) < a) := iI_lt (by omega) (by omega) (by omega) (by omega)
      refine zT_ite (fun q1 => ?_) (fun q1 => ?_)
      · rw [hl2] at q1
        refine zT_ite (fun q2 => ?_) (fun q2 => ?_)
        · rw [hl] at q2
          have hi2 : i < (oEnd S).2.2.2.2.1 := by omega
          exact zT_bindE (X2_secondsOf h hR hF hi2) (zT_bindE (smS_step h hi2) (zT_bindE rfl (ih ((oEnd S).2.2.2.2.1 - (i + 1)) _ (by omega) ⟨i + 1, by omega, by omega, rfl, by rw [iIp1] <;> rfl⟩)))
        · rw [hl] at q2
          refine zT_some ?_
          unfold smA
          rw [if_neg (by omega), show i = (oEnd S).2.2.2.2.1 by omega]
      · rw [hl2] at q1
        refine zT_some ?_
        unfold smA
        by_cases q3 : a < ((oEnd S).2.2.2.2.1 : Int)
        · rw [if_pos q3, show i = a.toNat by omega]
        · rw [if_neg q3, show i = (oEnd S).2.2.2.2.1 by omega]
    rw [z_be e]
  · rw [if_neg q, if_neg q]
end ZNL
section ZNM
variable {N : Nat} {S X : zSt} {st cells shifts held past pf : Nat → Int32} {size code pn : Int32} {m v e k i j nx : Nat} {hs : List zSt} {K : zKT}
/-- the last place that has begun by a time, of the first so many -/
def plL (S : zSt) (t : UInt32) : Nat → Int
  | 0 => -1000
  | k + 1 => if t.toNat < (smS S k).toNat then plL S t k else k
def plA (S : zSt) (t : UInt32) : Int := if t.toNat < (smS S (oEnd S).2.2.2.2.1).toNat then plL S t (oEnd S).2.2.2.2.1 else -1000
theorem smS_up (h : okS S) : ∀ d, i + d ≤ (oEnd S).2.2.2.2.1 → (smS S i).toNat ≤ (smS S (i + d)).toNat := by
  intro d
  induction d with
  | zero => intro _; exact Nat.le_refl _
  | succ d ih =>
    intro hd
    exact Nat.le_trans (ih (by omega)) (smS_le h (by omega))
theorem plL_b {t : UInt32} : ∀ k, plL S t k = -1000 ∨ 0 ≤ plL S t k ∧ plL S t k < k := by
  intro k
  induction k with
  | zero => exact Or.inl rfl
  | succ k ih =>
    unfold plL
    split
    · omega
    · omega
/-- the class's count of places gives the same place -/
theorem pl_end (h : okS S) {t : UInt32} {c : Nat} (hc : (c ≤ (oEnd S).2.2.2.2.1 ∧ t.toNat < (smS S c).toNat ∧ ∀ j, j < c → ¬ t.toNat < (smS S j).toNat) ∨ (c = (oEnd S).2.2.2.2.1 + 1 ∧ ∀ j, j < c → ¬ t.toNat < (smS S j).toNat)) : plA S t = if c = 0 then -1000 else if c ≤ (oEnd S).2.2.2.2.1 then (c : Int) - 1 else -1000 := by
  unfold plA
  rcases hc with ⟨h1, h2, h3⟩ | ⟨h1, h3⟩
  · have hn := smS_up h (i := c) ((oEnd S).2.2.2.2.1 - c) (by omega)
    rw [show c + ((oEnd S).2.2.2.2.1 - c) = (oEnd S).2.2.2.2.1 by omega] at hn
    rw [if_pos (by omega)]
    have g : ∀ d, c + d ≤ (oEnd S).2.2.2.2.1 → plL S t (c + d) = if c = 0 then -1000 else (c : Int) - 1 := by
      intro d
      induction d with
      | zero =>
        intro _
        match c, h3 with
        | 0, _ => rfl
        | c + 1, h3 =>
          rw [Nat.add_zero, plL, if_neg (h3 c (by omega)), if_neg (by omega)]
          omega
      | succ d ih =>
        intro hd
        have hm := smS_up h (i := c) d (by omega)
        rw [← Nat.add_assoc, plL, if_pos (by omega), ih (by omega)]
    have := g ((oEnd S).2.2.2.2.1 - c) (by omega)
    rw [show c + ((oEnd S).2.2.2.2.1 - c) = (oEnd S).2.2.2.2.1 by omega] at this
    rw [this]
    by_cases q : c = 0
    · rw [if_pos q, if_pos q]
    · rw [if_neg q, if_neg q, if_pos h1]
  · rw [if_neg (h3 _ (by omega)), if_neg (by omega), if_neg (by omega)]
theorem X2_placesBegunBy (h : okS S) (hR : RC S (iI S.1) cells) (hF : oF S pn pf) {t : UInt32} (ht : zfN t) (hN : 4000 ≤ N) : zT (f_X2_placesBegunBy N pn pf (iI S.1) cells t) (fun r => ∃ c : Nat, r = iI c ∧ ((c ≤ (oEnd S).2.2.2.2.1 ∧ t.toNat < (smS S c).toNat ∧ ∀ j, j < c → ¬ t.toNat < (smS S j).toNat) ∨ (c = (oEnd S).2.2.2.2.1 + 1 ∧ ∀ j, j < c → ¬ t.toNat < (smS S j).toNat))) := by
  have hb := oEnd_b h
  unfold f_X2_placesBegunBy
  refine zT_bind (zT_mono (zT_loop (fun n s => ∃ i : Nat, i ≤ (oEnd S).2.2.2.2.1 + 1 ∧ n = (oEnd S).2.2.2.2.1 + 1 - i ∧ s.1 = iI i ∧ s.2.2 = iI i ∧ (i ≤ (oEnd S).2.2.2.2.1 → s.2.1 = smS S i) ∧ ∀ j, j < i → ¬ t.toNat < (smS S j).toNat) ?_ N ((oEnd S).2.2.2.2.1 + 1) (0, FP.fconst0, 0) (by omega) ⟨0, by omega, rfl, rfl, rfl, fun _ => rfl, fun j hj => absurd hj (Nat.not_lt_zero j)⟩) (fun a q => zT_some q))
  rintro n ⟨s1, s2, s3⟩ k ⟨i, hi, rfl, q1, q2, q3, q4⟩ ih
  dsimp only at q1 q2 q3
  subst q1
  subst q2
  unfold f_X2_placesBegunBy_B8
  dsimp only
  have hl : (pn < iI (i : Int)) = (((oEnd S).2.2.2.2.1 : Int) < (i : Int)) := by rw [hF.1]; exact iI_lt (by omega) (by omega) (by omega) (by omega)
  have hl2 : (iI (i : Int) < pn) = ((i : Int) < ((oEnd S).2.2.2.2.1 : Int)) := by rw [hF.1]; exact iI_lt (by omega) (by omega) (by omega) (by omega)
  refine zT_ite (fun r1 => ?_) (fun r1 => ?_)
  · rw [hl] at r1
    exact zT_some ⟨i, rfl, Or.inr ⟨by omega, q4⟩⟩
  · rw [hl] at r1
    have hi2 : i ≤ (oEnd S).2.2.2.2.1 := by omega
    have q5 := q3 hi2
    subst q5
    have hs := smS_ok h i hi2
    refine zT_ite (fun r2 => ?_) (fun r2 => ?_)
    · rw [zf_gt hs ht] at r2
      exact zT_some ⟨i, rfl, Or.inl ⟨hi2, r2, q4⟩⟩
    · rw [zf_gt hs ht] at r2
      have q4' : ∀ j, j < i + 1 → ¬ t.toNat < (smS S j).toNat := by
        intro j hj
        by_cases q : j = i
        · rw [q]; exact r2
        · exact q4 j (by omega)
      refine zT_bindE rfl ?_
      by_cases q6 : i < (oEnd S).2.2.2.2.1
      · have e6 : (if iI (i : Int) < pn then Option.bind (f_X2_secondsOf N pn pf (iI S.1) cells (iI i)) (fun (r6_ : UInt32) => some r6_) else some FP.fconst0) = some (secS S ((oEnd S).2.2.2.2.2 i).toNat) := by
          rw [if_pos (by rw [hl2]; omega), z_be (X2_secondsOf h hR hF q6)]
        exact zT_bindE e6 (zT_bindE (smS_step h q6) (zT_bindE rfl (ih ((oEnd S).2.2.2.2.1 + 1 - (i + 1)) _ (by omega) ⟨i + 1, by omega, rfl, iIp1 _, iIp1 _, fun _ => rfl, q4'⟩)))
      · have e6 : (if iI (i : Int) < pn then Option.bind (f_X2_secondsOf N pn pf (iI S.1) cells (iI i)) (fun (r6_ : UInt32) => some r6_) else some FP.fconst0) = some FP.fconst0 := by
          rw [if_neg (by rw [hl2]; omega)]
        exact zT_bindE e6 (zT_bindE (zFad_ok (zf_add hs zfF_0).1) (zT_bindE rfl (ih ((oEnd S).2.2.2.2.1 + 1 - (i + 1)) _ (by omega) ⟨i + 1, by omega, rfl, iIp1 _, iIp1 _, fun hx => absurd hx (by omega), q4'⟩)))
theorem C_placeAt (h : okS S) (hR : RC S (iI S.1) cells) (hF : oF S pn pf) {a : Int} (ha : zInt a) (hN : 4000 ≤ N) : f_X9_placeAt N pn (iI S.1) pf cells (iI a) = if 0 ≤ a then some (.inl (iI (plA S (FP.i2f (iI a))))) else some (.inr 1) := by
  have hb := oEnd_b h
  unfold f_X9_placeAt
  rw [zSub_rq (C_rqN ha)]
  unfold zInt at ha
  by_cases q : 0 ≤ a
  · rw [if_pos q, if_pos q]
    have ht : zfN (FP.i2f (iI a)) := by
      have := zf_i2f (v := iI a) (by rw [iI_toInt (by omega) (by omega)]; exact q)
      unfold zfN
      omega
    obtain ⟨r, hr, c, rfl, hc⟩ := X2_placesBegunBy (N := N) h hR hF ht hN
    have hc2 : c ≤ 201 := by omega
    rw [pl_end h hc, z_be hr, z_sb, iIs1]
    by_cases q0 : c = 0
    · rw [if_pos q0, if_pos (by rw [iL0, iI_lt (by omega) (by omega) (by omega) (by omega)]; omega)]
      rfl
    · rw [if_neg q0, if_neg (by rw [iL0, iI_lt (by omega) (by omega) (by omega) (by omega)]; omega), z_be (show f_X2_size N pn = some pn from rfl), hF.1]
      by_cases q1 : c ≤ (oEnd S).2.2.2.2.1
      · rw [if_pos q1, if_pos (by rw [iI_lt (by omega) (by omega) (by omega) (by omega)]; omega)]
      · rw [if_neg q1, if_neg (by rw [iI_lt (by omega) (by omega) (by omega) (by omega)]; omega)]
        rfl
  · rw [if_neg q, if_neg q]
end ZNM
