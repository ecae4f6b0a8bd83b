/-! ===== reading a text: words, numbers, letters ===== -/
def skS (T : Nat → Int) : Nat → Nat → Nat
  | 0, i => i
  | n + 1, i => if T i = 32 then skS T n (i + 1) else i
def skE (T : Nat → Int) : Nat → Nat → Nat
  | 0, i => i
  | n + 1, i => if T i = 32 then i else skE T n (i + 1)
def adv (T : Nat → Int) (L t : Nat) : Nat × Nat := (skS T (L - t) t, skE T (L - skS T (L - t) t) (skS T (L - t) t))
def okT (T : Nat → Int) (L : Nat) : Prop := L ≤ 600 ∧ ∀ i, i < L → 0 ≤ T i ∧ T i ≤ 127
/-- a word at hand -/
def tkP (T : Nat → Int) (L : Nat) (p : Nat × Nat) : Prop := p.1 ≤ p.2 ∧ p.2 ≤ L ∧ (∀ k, p.1 ≤ k → k < p.2 → T k ≠ 32) ∧ (p.1 < L → p.1 < p.2)
abbrev isW (T : Nat → Int) (p : Nat × Nat) (w : Nat) : Prop := p.2 - p.1 = (zwB w).length ∧ ∀ j, j < (zwB w).length → T (p.1 + j) = gB (zwB w) j
def nmG (T : Nat → Int) : Nat → Nat → Int → Int
  | 0, _, a => a
  | n + 1, i, a => if 48 ≤ T i ∧ T i ≤ 57 then nmG T n (i + 1) (10 * a + T i - 48) else -1
def numT (T : Nat → Int) (p : Nat × Nat) : Int := if p.2 = p.1 ∨ 3 < p.2 - p.1 then -1 else nmG T (p.2 - p.1) p.1 0
def stpT (T : Nat → Int) (p : Nat × Nat) : Int := if p.2 - p.1 = 1 ∧ 97 ≤ T p.1 ∧ T p.1 ≤ 103 then (T p.1 - 97 + 5) % 7 else -1
section ZNU
variable {N L t w : Nat} {T : Nat → Int} {tb text : Nat → Int32} {a nb : Int32} {p : Nat × Nat}
theorem skS_b : ∀ n i, i ≤ skS T n i ∧ skS T n i ≤ i + n ∧ (skS T n i < i + n → T (skS T n i) ≠ 32) := by
  intro n
  induction n with
  | zero => intro i; exact ⟨Nat.le_refl _, Nat.le_refl _, fun h => absurd h (Nat.lt_irrefl _)⟩
  | succ n ih =>
    intro i
    unfold skS
    split
    · have := ih (i + 1)
      refine ⟨by omega, by omega, fun h => this.2.2 (by omega)⟩
    · next q => exact ⟨Nat.le_refl _, by omega, fun _ => q⟩
theorem skE_b : ∀ n i, i ≤ skE T n i ∧ skE T n i ≤ i + n ∧ (∀ k, i ≤ k → k < skE T n i → T k ≠ 32) ∧ (0 < n → T i ≠ 32 → i < skE T n i) := by
  intro n
  induction n with
  | zero => intro i; exact ⟨Nat.le_refl _, Nat.le_refl _, fun k h1 h2 => absurd (Nat.lt_of_le_of_lt h1 h2) (Nat.lt_irrefl _), fun h => absurd h (Nat.lt_irrefl _)⟩
  | succ n ih =>
    intro i
    unfold skE
    split
    · next q => exact ⟨Nat.le_refl _, by omega, fun k h1 h2 => absurd (Nat.lt_of_le_of_lt h1 h2) (Nat.lt_irrefl _), fun _ h => absurd q h⟩
    · next q =>
      obtain ⟨h1, h2, h3, -⟩ := ih (i + 1)
      refine ⟨by omega, by omega, fun k h4 h5 => ?_, fun _ _ => by omega⟩
      by_cases e : k = i
      · rw [e]; exact q
      · exact h3 k (by omega) h5
theorem adv_ok (ht : t ≤ L) : tkP T L (adv T L t) := by
  obtain ⟨a1, a2, a3⟩ := skS_b (T := T) (L - t) t
  obtain ⟨b1, b2, b3, b4⟩ := skE_b (T := T) (L - skS T (L - t) t) (skS T (L - t) t)
  unfold adv tkP
  dsimp only
  exact ⟨b1, by omega, b3, fun h => b4 (by omega) (a3 (by omega))⟩
theorem z_skS {B : (Int32 → Option Int32) → Int32 → Option Int32} (hB : ∀ k i, i ≤ L → B k (iI (i : Nat)) = if i < L then (if T i = 32 then k (iI ((i + 1 : Nat) : Int)) else some (iI i)) else some (iI i)) : ∀ N i, i ≤ L → L - i < N → zLoop B N (iI (i : Nat)) = some (iI (skS T (L - i) i)) := by
  intro N
  induction N with
  | zero => intro i _ h; exact absurd h (Nat.not_lt_zero _)
  | succ N ih =>
    intro i hi hN
    show B (zLoop B N) (iI i) = _
    rw [hB _ i hi]
    by_cases q : i < L
    · rw [if_pos q, show L - i = (L - (i + 1)) + 1 by omega, skS]
      by_cases q2 : T i = 32
      · rw [if_pos q2, if_pos q2, ih (i + 1) (by omega) (by omega)]
      · rw [if_neg q2, if_neg q2]
    · rw [if_neg q, show L - i = 0 by omega] <;> rfl
theorem z_skE {B : (Int32 → Option Int32) → Int32 → Option Int32} (hB : ∀ k i, i ≤ L → B k (iI (i : Nat)) = if i < L then (if T i = 32 then some (iI i) else k (iI ((i + 1 : Nat) : Int))) else some (iI i)) : ∀ N i, i ≤ L → L - i < N → zLoop B N (iI (i : Nat)) = some (iI (skE T (L - i) i)) := by
  intro N
  induction N with
  | zero => intro i _ h; exact absurd h (Nat.not_lt_zero _)
  | succ N ih =>
    intro i hi hN
    show B (zLoop B N) (iI i) = _
    rw [hB _ i hi]
    by_cases q : i < L
    · rw [if_pos q, show L - i = (L - (i + 1)) + 1 by omega, skE]
      by_cases q2 : T i = 32
      · rw [if_pos q2, if_pos q2]
      · rw [if_neg q2, if_neg q2, ih (i + 1) (by omega) (by omega)]
    · rw [if_neg q, show L - i = 0 by omega] <;> rfl
theorem X7_at (hT : okT T L) (hx : zTx L T (iI L) tb) {i : Nat} (hi : i < L) : f_X7_at N (iI L) tb (iI i) = some (iI (T i)) := by
  have h1 := hT.1
  unfold f_X7_at
  rw [if_neg (by rw [iL0, iI_lt (by omega) (by omega) (by omega) (by omega)]; omega), if_pos (by rw [iI_lt (by omega) (by omega) (by omega) (by omega)]; omega), if_pos (by rw [iL600, iI_lt (by omega) (by omega) (by omega) (by omega)]; omega), zAldI (by omega) (by omega) (by omega), z_sb, Int.toNat_natCast, hx.2 i hi]
theorem ld_text (hT : okT T L) (hx : zTx L T (iI L) text) {i : Nat} (hi : i < L) : zAld text 600 (iI i) = some (iI (T i)) := by
  have h1 := hT.1
  rw [zAldI (by omega) (by omega) (by omega), Int.toNat_natCast, hx.2 i hi]
theorem eq32 (hT : okT T L) {i : Nat} (hi : i < L) : (iI (T i) = 32) = (T i = 32) := by
  have := hT.2 i hi
  rw [show (32 : Int32) = iI 32 from rfl, iI_eq (by omega) (by omega) (by omega) (by omega)]
theorem X3_advance (hT : okT T L) (hx : zTx L T (iI L) tb) (ht : t ≤ L) (hN : 700 ≤ N) : f_X3_advance N a (iI t) (iI L) tb = some (iI (adv T L t).1, iI (adv T L t).2) := by
  have h1 := hT.1
  have hb := skS_b (T := T) (L - t) t
  unfold f_X3_advance
  rw [z_be (z_skS (T := T) (L := L) ?_ N t ht (by omega)), z_be (z_skE (T := T) (L := L) ?_ N (skS T (L - t) t) (by omega) (by omega))]
  · rfl
  · intro k i hi
    unfold f_X3_advance_B59
    rw [z_be (show f_X7_length N (iI L) = some (iI L) from rfl)]
    by_cases q : i < L
    · rw [if_pos (by rw [iI_lt (by omega) (by omega) (by omega) (by omega)]; omega), z_be (X7_at hT hx q), if_pos q]
      by_cases q2 : T i = 32
      · rw [if_pos q2, if_pos (by rw [eq32 hT q]; exact q2)]
      · rw [if_neg q2, if_neg (by rw [eq32 hT q]; exact q2), z_sb, iIp1] <;> rfl
    · rw [if_neg (by rw [iI_lt (by omega) (by omega) (by omega) (by omega)]; omega), if_neg q]
  · intro k i hi
    unfold f_X3_advance_B8
    rw [z_be (show f_X7_length N (iI L) = some (iI L) from rfl)]
    by_cases q : i < L
    · rw [if_pos (by rw [iI_lt (by omega) (by omega) (by omega) (by omega)]; omega), z_be (X7_at hT hx q), if_pos q]
      by_cases q2 : T i = 32
      · rw [if_pos q2, if_pos (by rw [eq32 hT q]; exact q2), z_sb, iIp1] <;> rfl
      · rw [if_neg q2, if_neg (by rw [eq32 hT q]; exact q2)]
    · rw [if_neg (by rw [iI_lt (by omega) (by omega) (by omega) (by omega)]; omega), if_neg q]
theorem X3_isWord (hT : okT T L) (hx : zTx L T (iI L) tb) (hp : tkP T L p) (hw : w < 20) (hN : 700 ≤ N) : f_X3_isWord N (iI p.1) (iI p.2) (iI L) tb w = some (iI (if isW T p w then 1 else 0)) := by
  have h1 := hT.1
  obtain ⟨p1, p2, p3, p4⟩ := hp
  obtain ⟨c1, c2⟩ := zwB_chk w (by omega)
  have c3 := zwB_len w (by omega)
  unfold f_X3_isWord
  rw [z_be c1, iI_sub]
  by_cases q : p.2 - p.1 = (zwB w).length
  · rw [if_pos (by congr 1 <;> omega)]
    refine z_eqT (zT_loop (fun n s => ∃ j : Nat, j ≤ (zwB w).length ∧ n = (zwB w).length - j ∧ s = iI j ∧ ∀ i, i < j → T (p.1 + i) = gB (zwB w) i) ?_ N (zwB w).length 0 (by omega) ⟨0, by omega, rfl, rfl, fun i hi => absurd hi (Nat.not_lt_zero i)⟩)
    rintro n s k ⟨j, hj, rfl, rfl, hm⟩ ih
    unfold f_X3_isWord_B20
    refine zT_bindE c1 (zT_ite (fun r => ?_) (fun r => ?_))
    · rw [iI_lt (by omega) (by omega) (by omega) (by omega)] at r
      have hj2 : j < (zwB w).length := by omega
      obtain ⟨d1, d2, d3⟩ := c2 j hj2
      have ht := hT.2 (p.1 + j) (by omega)
      have ea := X7_at (N := N) hT hx (i := p.1 + j) (by omega)
      rw [iI_add]
      refine zT_bindE (by rw [show (p.1 : Int) + j = ((p.1 + j : Nat) : Int) by omega]; exact ea) (zT_bindE d1 (zT_ite (fun r2 => ?_) (fun r2 => ?_)))
      · rw [iI_eq (by omega) (by omega) (by omega) (by omega)] at r2
        refine zT_bindE rfl (ih ((zwB w).length - (j + 1)) _ (by omega) ⟨j + 1, by omega, rfl, iIp1 _, fun i hi => ?_⟩)
        by_cases e : i = j
        · rw [e]; exact r2
        · exact hm i (by omega)
      · rw [iI_eq (by omega) (by omega) (by omega) (by omega)] at r2
        refine zT_some ?_
        rw [if_neg (fun y => r2 (y.2 j hj2))]
        rfl
    · rw [iI_lt (by omega) (by omega) (by omega) (by omega)] at r
      refine zT_some ?_
      rw [if_pos ⟨q, fun i hi => hm i (by omega)⟩]
      rfl
  · rw [if_neg (by rw [iI_eq (by omega) (by omega) (by omega) (by omega)]; omega), if_neg (fun y => q y.1)]
    rfl
theorem nmG_0 (i : Nat) {a : Int} (h : 0 ≤ a ∧ a ≤ 999) : -1 ≤ nmG T 0 i a ∧ nmG T 0 i a ≤ 999 := by
  unfold nmG
  omega
theorem nmG_1 (i : Nat) {a : Int} (h : 0 ≤ a ∧ a ≤ 99) : -1 ≤ nmG T 1 i a ∧ nmG T 1 i a ≤ 999 := by
  unfold nmG
  split
  · exact nmG_0 _ (by omega)
  · omega
theorem nmG_2 (i : Nat) {a : Int} (h : 0 ≤ a ∧ a ≤ 9) : -1 ≤ nmG T 2 i a ∧ nmG T 2 i a ≤ 999 := by
  unfold nmG
  split
  · exact nmG_1 _ (by omega)
  · omega
theorem nmG_3 (i : Nat) {a : Int} (h : a = 0) : -1 ≤ nmG T 3 i a ∧ nmG T 3 i a ≤ 999 := by
  unfold nmG
  split
  · exact nmG_2 _ (by omega)
  · omega
theorem numT_b (p : Nat × Nat) (hp : p.1 ≤ p.2) : -1 ≤ numT T p ∧ numT T p ≤ 999 := by
  unfold numT
  split
  · omega
  · next q =>
    rcases (show p.2 - p.1 = 1 ∨ p.2 - p.1 = 2 ∨ p.2 - p.1 = 3 by omega) with e | e | e <;> rw [e]
    · exact nmG_1 _ (by omega)
    · exact nmG_2 _ (by omega)
    · exact nmG_3 _ rfl
theorem X3_number (hT : okT T L) (hx : zTx L T (iI L) tb) (hp : tkP T L p) (hN : 700 ≤ N) : f_X3_number N (iI p.1) (iI p.2) (iI L) tb = some (iI (numT T p)) := by
  have h1 := hT.1
  obtain ⟨p1, p2, p3, p4⟩ := hp
  unfold f_X3_number numT
  by_cases q : p.2 = p.1
  · rw [if_pos (by rw [q]), if_pos (Or.inl q)] <;> rfl
  · rw [if_neg (by rw [iI_eq (by omega) (by omega) (by omega) (by omega)]; omega), iI_sub]
    by_cases q2 : 3 < p.2 - p.1
    · rw [if_pos (by rw [iL3, iI_lt (by omega) (by omega) (by omega) (by omega)]; omega), if_pos (Or.inr q2)] <;> rfl
    · rw [if_neg (by rw [iL3, iI_lt (by omega) (by omega) (by omega) (by omega)]; omega), if_neg (by omega)]
      refine z_eqT (zT_loop (fun n s => ∃ (i : Nat) (a : Int), p.1 ≤ i ∧ i ≤ p.2 ∧ n = p.2 - i ∧ s = (iI a, iI i) ∧ nmG T (p.2 - i) i a = nmG T (p.2 - p.1) p.1 0) ?_ N (p.2 - p.1) (0, iI p.1) (by omega) ⟨p.1, 0, by omega, by omega, rfl, rfl, rfl⟩)
      rintro n s k ⟨i, a, hi1, hi2, rfl, rfl, hm⟩ ih
      unfold f_X3_number_B33
      dsimp only
      refine zT_ite (fun r => ?_) (fun r => ?_)
      · rw [iI_lt (by omega) (by omega) (by omega) (by omega)] at r
        have ht := hT.2 i (by omega)
        rw [show p.2 - i = (p.2 - (i + 1)) + 1 by omega, nmG] at hm
        refine zT_bindE (X7_at hT hx (by omega)) (zT_bindE rfl ?_)
        rw [show (48 : Int32) = iI 48 from rfl, iI_sub]
        refine zT_ite (fun r1 => ?_) (fun r1 => ?_)
        · rw [iL0, iI_lt (by omega) (by omega) (by omega) (by omega)] at r1
          rw [if_neg (by omega)] at hm
          rw [← hm]
          exact zT_some rfl
        · rw [iL0, iI_lt (by omega) (by omega) (by omega) (by omega)] at r1
          refine zT_ite (fun r3 => ?_) (fun r3 => ?_)
          · rw [iL9, iI_lt (by omega) (by omega) (by omega) (by omega)] at r3
            rw [if_neg (by omega)] at hm
            rw [← hm]
            exact zT_some rfl
          · rw [iL9, iI_lt (by omega) (by omega) (by omega) (by omega)] at r3
            rw [if_pos (by omega)] at hm
            exact zT_bindE rfl (zT_bindE rfl (ih (p.2 - (i + 1)) _ (by omega) ⟨i + 1, 10 * a + T i - 48, by omega, by omega, rfl, by rw [iIp1, iL10, iI_mul, iI_add]; congr 2 <;> omega, hm⟩))
      · rw [iI_lt (by omega) (by omega) (by omega) (by omega)] at r
        rw [show p.2 - i = 0 by omega] at hm
        refine zT_some ?_
        rw [← hm]
        rfl
theorem zSix_all : ∀ c : Nat, c < 128 → zSix 20 (((Int32.ofNat c).toUInt32 % 65536).toInt32) = some (iI (if 97 ≤ c ∧ c ≤ 103 then ((c : Int) - 97 + 5) % 7 else -1)) := by decide +kernel
theorem X3_step (hT : okT T L) (hx : zTx L T (iI L) tb) (hp : tkP T L p) : f_X3_step N (iI p.1) (iI p.2) (iI L) tb = some (iI (stpT T p)) := by
  have h1 := hT.1
  obtain ⟨p1, p2, p3, p4⟩ := hp
  unfold f_X3_step stpT
  rw [iI_sub]
  by_cases q : p.2 - p.1 = 1
  · have ht := hT.2 p.1 (by omega)
    obtain ⟨c, hc⟩ := Int.eq_ofNat_of_zero_le ht.1
    have hs := zSix_all c (by omega)
    rw [if_pos (by rw [iL1]; congr 1 <;> omega), z_be (X7_at hT hx (show p.1 < L by omega)), hc, ← iI_ofNat, z_be hs]
    by_cases r : 97 ≤ c ∧ c ≤ 103
    · rw [if_pos r, if_pos (by omega)]
    · rw [if_neg r, if_neg (by omega)]
  · rw [if_neg (by rw [iL1, iI_eq (by omega) (by omega) (by omega) (by omega)]; omega), if_neg (fun y => q y.1)]
    rfl
theorem stpT_b (p : Nat × Nat) : -1 ≤ stpT T p ∧ stpT T p ≤ 6 := by
  unfold stpT
  split <;> omega
end ZNU
