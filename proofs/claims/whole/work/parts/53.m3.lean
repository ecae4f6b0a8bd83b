/-! ===== the reference's row of numbers ===== -/
def RM (S : zSt) (st : Nat → Int32) : Prop := st 0 = iI S.1 ∧ ∀ m, m < S.1 → (∀ k, k < 7 → st (201 * m + 1 + k) = iI (S.2.1 m k)) ∧ ∀ v, v < 2 → st (201 * m + 8 + v) = iI (S.2.2.1 m v) ∧ ∀ e, e < S.2.2.1 m v → st (201 * m + 10 + 96 * v + 4 * e) = iI (S.2.2.2 m v e).1 ∧ st (201 * m + 10 + 96 * v + 4 * e + 1) = iI (S.2.2.2 m v e).2.1 ∧ st (201 * m + 10 + 96 * v + 4 * e + 2) = iI (S.2.2.2 m v e).2.2.1 ∧ st (201 * m + 10 + 96 * v + 4 * e + 3) = iI (S.2.2.2 m v e).2.2.2
section ZMR
variable {N : Nat} {S : zSt} {st : Nat → Int32} {m v e k : Nat}
theorem okC_ev (h : okC S) (hm : m < S.1) (hv : v < 2) (he : e < S.2.2.1 m v) : okE (S.2.2.2 m v e) := ((h.2 m hm).2 v hv).2 e he
theorem okC_C (h : okC S) (hm : m < S.1) (hv : v < 2) : S.2.2.1 m v ≤ 24 := ((h.2 m hm).2 v hv).1
theorem okE_b {x : zEv} (h : okE x) : (-1 ≤ x.1 ∧ x.1 ≤ 62) ∧ (0 ≤ x.2.1 ∧ x.2.1 ≤ 3) ∧ (0 ≤ x.2.2.1 ∧ x.2.2.1 ≤ 9) ∧ (0 ≤ x.2.2.2 ∧ x.2.2.2 ≤ 1) ∧ (x.1 < 0 → x.1 = -1 ∧ x.2.1 = 0 ∧ x.2.2.2 = 0) := by
  rcases h with h | h <;> omega
theorem X10_of_V (h : okC S) (hR : RM S st) (hm : m < S.1) (hk : k < 7) {a : Int} (ha : a = k) : f_X10_of N st (iI m) (iI a) = some (iI (S.2.1 m k)) := by
  have h1 := h.1
  subst ha
  unfold f_X10_of
  rw [iL1, iL201, iI_mul, iI_add, iI_add, zAldI (by omega) (by omega) (by omega), z_sb, show ((1 : Int) + 201 * m + k).toNat = 201 * m + 1 + k by omega, (hR.2 m hm).1 k hk]
theorem X10_of_C (h : okC S) (hR : RM S st) (hm : m < S.1) (hv : v < 2) {a : Int} (ha : a = 7 + v) : f_X10_of N st (iI m) (iI a) = some (iI (S.2.2.1 m v)) := by
  have h1 := h.1
  subst ha
  unfold f_X10_of
  rw [iL1, iL201, iI_mul, iI_add, iI_add, zAldI (by omega) (by omega) (by omega), z_sb, show ((1 : Int) + 201 * m + (7 + v)).toNat = 201 * m + 8 + v by omega, ((hR.2 m hm).2 v hv).1]
def zCl (m v e : Nat) : Int := 201 * m + 10 + 96 * v + 4 * e
theorem X10_cell : f_X10_cell N (iI m) (iI v) (iI e) = some (iI (zCl m v e)) := by
  unfold f_X10_cell zCl
  rw [iL1, iL201, iL9, iL96, iL4, iI_mul, iI_mul, iI_mul, iI_add, iI_add, iI_add, iI_add]
  congr 2
  omega
theorem zCl_b (h : okC S) (hm : m < S.1) (hv : v < 2) (he : e < S.2.2.1 m v) : 0 ≤ zCl m v e ∧ zCl m v e + 3 < 3217 := by
  have h1 := h.1
  have h2 := okC_C h hm hv
  unfold zCl
  omega
theorem zld0 (h : okC S) (hR : RM S st) (hm : m < S.1) (hv : v < 2) (he : e < S.2.2.1 m v) : zAld st 3217 (iI (zCl m v e) + 0) = some (iI (S.2.2.2 m v e).1) := by
  have hb := zCl_b h hm hv he
  rw [iL0, iI_add, zAldI (by omega) (by omega) (by omega), show (zCl m v e + 0).toNat = 201 * m + 10 + 96 * v + 4 * e by unfold zCl; omega, (((hR.2 m hm).2 v hv).2 e he).1]
theorem zld1 (h : okC S) (hR : RM S st) (hm : m < S.1) (hv : v < 2) (he : e < S.2.2.1 m v) : zAld st 3217 (iI (zCl m v e) + 1) = some (iI (S.2.2.2 m v e).2.1) := by
  have hb := zCl_b h hm hv he
  rw [iL1, iI_add, zAldI (by omega) (by omega) (by omega), show (zCl m v e + 1).toNat = 201 * m + 10 + 96 * v + 4 * e + 1 by unfold zCl; omega, (((hR.2 m hm).2 v hv).2 e he).2.1]
theorem zld2 (h : okC S) (hR : RM S st) (hm : m < S.1) (hv : v < 2) (he : e < S.2.2.1 m v) : zAld st 3217 (iI (zCl m v e) + 2) = some (iI (S.2.2.2 m v e).2.2.1) := by
  have hb := zCl_b h hm hv he
  rw [iL2, iI_add, zAldI (by omega) (by omega) (by omega), show (zCl m v e + 2).toNat = 201 * m + 10 + 96 * v + 4 * e + 2 by unfold zCl; omega, (((hR.2 m hm).2 v hv).2 e he).2.2.1]
theorem zld3 (h : okC S) (hR : RM S st) (hm : m < S.1) (hv : v < 2) (he : e < S.2.2.1 m v) : zAld st 3217 (iI (zCl m v e) + 3) = some (iI (S.2.2.2 m v e).2.2.2) := by
  have hb := zCl_b h hm hv he
  rw [iL3, iI_add, zAldI (by omega) (by omega) (by omega), show (zCl m v e + 3).toNat = 201 * m + 10 + 96 * v + 4 * e + 3 by unfold zCl; omega, (((hR.2 m hm).2 v hv).2 e he).2.2.2]
theorem zlds0 (hR : RM S st) : zAld st 3217 0 = some (iI S.1) := by
  rw [iL0, zAldI (by omega) (by omega) (by omega), show (0 : Int).toNat = 0 from rfl, hR.1]
theorem X10_in {x a b : Int} (hx : zInt x) (ha : zInt a) (hb : zInt b) : f_X10_in N (iI x) (iI a) (iI b) = some (iI (if a ≤ x ∧ x ≤ b then 1 else 0)) := by
  unfold zInt at hx ha hb
  unfold f_X10_in
  try simp (disch := omega) only [iI_lt, iI_eq]
  by_cases q1 : x < a
  · rw [if_pos q1, if_neg (by omega)]; rfl
  · rw [if_neg q1]
    by_cases q2 : b < x
    · rw [if_pos q2, if_neg (by omega)]; rfl
    · rw [if_neg q2, if_pos (by omega)]; rfl
theorem zNb {P : Prop} [Decidable P] : zNar .boolean (iI (if P then 1 else 0)) = some (iI (if P then 1 else 0)) := by
  by_cases h : P
  · rw [if_pos h]; rfl
  · rw [if_neg h]; rfl
theorem z01 {P : Prop} [Decidable P] : (iI (if P then 1 else 0) = 0) = ¬ P := by
  by_cases h : P
  · rw [if_pos h]; simp only [h, not_true_eq_false, eq_iff_iff, iff_false]; decide
  · rw [if_neg h]; simp only [h, not_false_eq_true, eq_iff_iff, iff_true]; rfl
theorem X10_isMeasure (h : okC S) (hR : RM S st) {x : Int} (hx : zInt x) : f_X10_isMeasure N st (iI x) = some (iI (if 0 ≤ x ∧ x < S.1 then 1 else 0)) := by
  have h1 := h.1
  unfold f_X10_isMeasure
  rw [z_be (zlds0 hR), iL1, iI_sub, iL0, z_be (X10_in hx (by unfold zInt; omega) (by unfold zInt; omega)), z_be zNb]
  congr 2
  by_cases q : 0 ≤ x ∧ x < S.1
  · rw [if_pos q, if_pos (by omega)]
  · rw [if_neg q, if_neg (by omega)]
theorem X10_isVoice (h : okC S) (hR : RM S st) {x y : Int} (hx : zInt x) (hy : zInt y) : f_X10_isVoice N st (iI x) (iI y) = some (iI (if 0 ≤ x ∧ x < S.1 ∧ 0 ≤ y ∧ y < 2 then 1 else 0)) := by
  unfold f_X10_isVoice
  rw [z_be (X10_isMeasure h hR hx)]
  simp only [z01]
  by_cases q : 0 ≤ x ∧ x < S.1
  · rw [if_neg (by simpa using q), iL0, iL1, z_be (X10_in hy (by unfold zInt; omega) (by unfold zInt; omega))]
    rw [← iL0]
    simp only [z01]
    by_cases q2 : 0 ≤ y ∧ y ≤ 1
    · rw [if_neg (by simpa using q2), if_pos (by omega)]
    · rw [if_pos q2, if_neg (by omega)]; rfl
  · rw [if_pos q, if_neg (by omega)]; rfl
theorem X10_isEvent (h : okC S) (hR : RM S st) {x y z : Int} (hx : zInt x) (hy : zInt y) (hz : zInt z) : f_X10_isEvent N st (iI x) (iI y) (iI z) = some (iI (if 0 ≤ z ∧ z < gC S x y then 1 else 0)) := by
  unfold f_X10_isEvent
  rw [z_be (X10_isVoice h hR hx hy)]
  simp only [z01]
  by_cases q : 0 ≤ x ∧ x < S.1 ∧ 0 ≤ y ∧ y < 2
  · obtain ⟨m, rfl⟩ := Int.eq_ofNat_of_zero_le q.1
    obtain ⟨v, rfl⟩ := Int.eq_ofNat_of_zero_le q.2.2.1
    have hC := okC_C h (m := m) (v := v) (by omega) (by omega)
    have e : gC S m v = (S.2.2.1 m v : Int) := by unfold gC; rw [if_pos q]; rfl
    rw [if_neg (by simpa using q), iL7, iI_add, z_be (X10_of_C h hR (by omega) (by omega) rfl), iL0, iL1, iI_sub, z_be (X10_in hz (by unfold zInt; omega) (by unfold zInt; omega)), ← iL0, e]
    simp only [z01]
    by_cases q2 : 0 ≤ z ∧ z ≤ (S.2.2.1 m v : Int) - 1
    · rw [if_neg (by simpa using q2), if_pos (by omega)]
    · rw [if_pos q2, if_neg (by omega)]; rfl
  · have e : gC S x y = 0 := by unfold gC; rw [if_neg q]
    rw [if_pos q, e, if_neg (by omega)]; rfl
theorem X10_ticksOf {d : Int} (h0 : 0 ≤ d) (h9 : d ≤ 9) : f_X10_ticksOf N (iI d) = some (iI (tk d)) := by
  unfold f_X10_ticksOf
  have hd : d = 0 ∨ d = 1 ∨ d = 2 ∨ d = 3 ∨ d = 4 ∨ d = 5 ∨ d = 6 ∨ d = 7 ∨ d = 8 ∨ d = 9 := by omega
  rcases hd with rfl | rfl | rfl | rfl | rfl | rfl | rfl | rfl | rfl | rfl <;> decide +kernel
/-- how long a measure lasts -/
def gL (S : zSt) (m : Nat) : Int := 64 * S.2.1 m 1 / S.2.1 m 2
theorem gL_b (h : okS S) (hm : m < S.1) : 4 ≤ gL S m ∧ gL S m ≤ 384 := by
  have hV := h.2 m hm
  unfold gL
  obtain ⟨-, hu, hl, -⟩ := hV
  rcases hl with q | q | q | q <;> rw [q] <;> omega
theorem X10_lasts (h : okS S) (hR : RM S st) (hm : m < S.1) : f_X10_lasts N st (iI m) = some (iI (gL S m)) := by
  have hV := h.2 m hm
  obtain ⟨-, hu, hl, -⟩ := hV
  have e1 := X10_of_V (N := N) (k := 1) (a := 1) h.1 hR hm (by omega) rfl
  have e2 := X10_of_V (N := N) (k := 2) (a := 2) h.1 hR hm (by omega) rfl
  unfold f_X10_lasts
  rw [iL1, iL2, z_be e1, z_be e2, iL64, iI_mul, zDivI (by omega) (by omega) (by omega) (by omega)]
  rfl
/-- the ticks of the first events of a voice -/
def gT (S : zSt) (m v : Nat) : Nat → Int
  | 0 => 0
  | e + 1 => gT S m v e + tk (S.2.2.2 m v e).2.2.1
theorem gT_b (h : okC S) (hm : m < S.1) (hv : v < 2) : ∀ e, e ≤ S.2.2.1 m v → 0 ≤ gT S m v e ∧ gT S m v e ≤ 96 * e := by
  intro e
  induction e with
  | zero => intro _; simp [gT]
  | succ e ih =>
    intro he
    have h1 := ih (by omega)
    have h2 := okE_b (okC_ev h hm hv (show e < S.2.2.1 m v by omega))
    have h3 := tk_pos h2.2.2.1.1 h2.2.2.1.2
    show 0 ≤ gT S m v e + _ ∧ gT S m v e + _ ≤ _
    omega
theorem X10_ticksTo (h : okC S) (hR : RM S st) (hm : m < S.1) (hv : v < 2) (he : e ≤ S.2.2.1 m v) (hN : 30 ≤ N) : f_X10_ticksTo N st (iI m) (iI v) (iI e) = some (iI (gT S m v e)) := by
  have hC := okC_C h hm hv
  unfold f_X10_ticksTo
  refine z_eqT (zT_bind (zT_mono (zT_loop (fun n s => ∃ j : Nat, j ≤ e ∧ n = e - j ∧ s = (iI (gT S m v j), iI j)) ?_ N e (0, 0) (by omega) ⟨0, by omega, rfl, rfl⟩) (fun a q => zT_some q)))
  rintro n s k ⟨j, hj, rfl, rfl⟩ ih
  unfold f_X10_ticksTo_B6
  dsimp only
  try simp (disch := omega) only [iI_lt, iI_eq]
  refine zT_ite (fun q => ?_) (fun q => ?_)
  · have hb := okE_b (okC_ev h hm hv (show j < S.2.2.1 m v by omega))
    refine zT_bindE X10_cell (zT_bindE (zld2 h hR hm hv (by omega)) (zT_bindE (X10_ticksOf hb.2.2.1.1 hb.2.2.1.2) (zT_bindE rfl (zT_bindE rfl ?_))))
    exact ih (e - (j + 1)) _ (by omega) ⟨j + 1, by omega, rfl, by rw [iI_add, iL1, iI_add]; rfl⟩
  · exact zT_some (by rw [show j = e by omega])
end ZMR
