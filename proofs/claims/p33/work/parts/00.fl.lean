/-! ===== floats: lengths in seconds ===== -/
def zfN (x : UInt32) : Prop := x.toNat ≤ 2139095040
def zfF (x : UInt32) : Prop := x.toNat < 2139095040
theorem zfN_mod {x : UInt32} (h : zfN x) : x.toNat % 2 ^ 31 = x.toNat := by unfold zfN at h; omega
theorem zfF_N {x : UInt32} (h : zfF x) : zfN x := Nat.le_of_lt h
theorem zf_and {x : UInt32} (h : x.toNat % 2 ^ 31 ≤ 2139095040) : x &&& 0x7fffffff ≤ 0x7f800000 := by
  rw [UInt32.le_iff_toNat_le, UInt32.toNat_and]
  have e := Nat.and_two_pow_sub_one_eq_mod x.toNat 31
  show x.toNat &&& 2147483647 ≤ 2139095040
  rw [show (2147483647 : Nat) = 2 ^ 31 - 1 from rfl, e]
  exact h
theorem zfN_and {x : UInt32} (h : zfN x) : x &&& 0x7fffffff ≤ 0x7f800000 := zf_and (by rw [zfN_mod h]; exact h)
theorem zfN_ne {x : UInt32} (h : zfN x) : FP.Core.val32 x ≠ .nan := (FP.Core.ne_nan32 x).mpr (by rw [zfN_mod h]; exact h)
theorem zf_key {x : UInt32} (h : zfN x) : FP.Core.key FP.Core.b32 x.toNat = (x.toNat : Int) := by
  have h2 := h
  unfold zfN at h2
  unfold FP.Core.key
  rw [FP.Core.half_b32, FP.Core.mag_toNat32, zfN_mod h, decide_eq_false (by omega)]
  rfl
theorem zf_cmp {a b : UInt32} (ha : zfN a) (hb : zfN b) : FP.fcmp a b = some (compare (a.toNat : Int) (b.toNat : Int)) := by
  have := FP.Core.cmp_key FP.Core.good_b32 (FP.Core.lt_full32 a) (FP.Core.lt_full32 b) (zfN_ne ha) (zfN_ne hb)
  rw [zf_key ha, zf_key hb] at this
  exact this
theorem zf_gt {a b : UInt32} (ha : zfN a) (hb : zfN b) : (0 < Op.cmpValue (FP.fcmp a b) .g) = (b.toNat < a.toNat) := by
  have e : ∀ x y : Int, compare x y = if x < y then .lt else if x = y then .eq else .gt := fun _ _ => rfl
  rw [zf_cmp ha hb, e]
  by_cases h1 : (a.toNat : Int) < b.toNat
  · rw [if_pos h1]
    exact propext ⟨fun h => absurd h (by decide), fun h => by omega⟩
  · rw [if_neg h1]
    by_cases h2 : (a.toNat : Int) = b.toNat
    · rw [if_pos h2]
      exact propext ⟨fun h => absurd h (by decide), fun h => by omega⟩
    · rw [if_neg h2]
      exact propext ⟨fun _ => by omega, fun _ => by decide⟩
theorem zf_fin {x : UInt32} (h : zfF x) : ∃ c q, FP.Core.val32 x = .fin false c q := by
  have h2 := h
  unfold zfF at h2
  obtain ⟨s, c, q, e⟩ := (FP.Core.fin_bits32 x).mpr (by rw [zfN_mod (zfF_N h)]; exact h)
  have hs := FP.Core.sign_bits32 (a := x) (s := s) (Or.inl ⟨c, q, e⟩)
  cases s with
  | false => exact ⟨c, q, e⟩
  | true => have := hs.mp rfl; omega
theorem zf_pos {x : UInt32} {A B : Nat} {e : Int} (h : FP.Core.val32 x = FP.Core.roundRatio FP.Core.b32 false A B e) : zfN x := by
  have hn : FP.Core.val32 x ≠ .nan := by rw [h]; exact FP.Core.roundRatio_ne_nan _ _ _ _ _
  have h1 := (FP.Core.ne_nan32 x).mp hn
  have h2 := FP.Core.sgn_bits32 hn
  rw [h, FP.Core.sgn_roundRatio] at h2
  have h3 : ¬ 2 ^ 31 ≤ x.toNat := by
    intro q
    rw [decide_eq_true q] at h2
    cases h2
  unfold zfN
  omega
theorem zf_add {a w : UInt32} (ha : zfN a) (hw : zfF w) : zfN (FP.fadd a w) ∧ a.toNat ≤ (FP.fadd a w).toNat := by
  obtain ⟨d, r, hwv⟩ := zf_fin hw
  have hv := FP.Core.val32_fadd a w
  by_cases hi : a.toNat = 2139095040
  · have ea : a = 0x7f800000 := UInt32.toNat_inj.mp hi
    have hav : FP.Core.val32 a = .inf false := by rw [ea]; decide +kernel
    rw [hav, hwv] at hv
    have e : a = FP.Core.fadd a w := FP.Core.val32_inj (zfN_ne ha) (by rw [hv, hav] <;> rfl)
    show zfN (FP.Core.fadd a w) ∧ a.toNat ≤ (FP.Core.fadd a w).toNat
    rw [← e]
    exact ⟨ha, Nat.le_refl _⟩
  · have hf : zfF a := by unfold zfN at ha; unfold zfF; omega
    obtain ⟨c, q, hav⟩ := zf_fin hf
    have fx := FP.Core.val32_fits a
    have fy := FP.Core.val32_fits w
    have za := FP.Core.zmag_toNat32 (zfN_ne ha)
    rw [hav] at fx hv za
    rw [hwv] at fy hv
    obtain ⟨sg, n, e, p1, p2, p3⟩ := FP.Core.sum_units fx fy
    have hs : sg = false := by
      have p1' := p1
      unfold FP.Core.exactSum at p1'
      injection p1' with i1 i2 i3
      rw [← i1]
      have hv0 : 0 ≤ FP.Core.sumUnits false c q false d r (min q r) := by
        unfold FP.Core.sumUnits FP.Core.signed
        simp only [Bool.false_eq_true, if_false]
        omega
      generalize FP.Core.sumUnits false c q false d r (min q r) = V at hv0
      unfold FP.Core.sumSign
      split
      · rfl
      · exact decide_eq_false (by omega)
    subst hs
    rw [p1] at hv
    have hp := zf_pos (A := n) (B := 1) (e := e) hv
    refine ⟨hp, ?_⟩
    rw [zfN_mod ha] at za
    have p4 : FP.Core.unitsOf FP.Core.b32 a.toNat ≤ FP.Core.inUnits n e FP.Core.b32.qmin := by
      unfold FP.Core.zval FP.Core.sgn FP.Core.signed at p3
      simp only [Bool.false_eq_true, if_false] at p3
      omega
    have hm := FP.Core.mag_ge FP.Core.good_b32 (s := false) (n := (FP.Core.fadd a w).toNat) (m := a.toNat) (A := n) (B := 1) (e := e) (e0 := FP.Core.b32.qmin) hv (by decide) (Int.le_refl _) p2 (by rw [FP.Core.infBits_b32]; exact ha) (by rw [Int.sub_self, Int.toNat_zero, Nat.pow_zero, Nat.mul_one, Nat.mul_one]; exact p4)
    rw [FP.Core.mag_toNat32, zfN_mod hp] at hm
    exact hm
theorem zf_i2f {v : Int32} (h : 0 ≤ v.toInt) : (FP.i2f v).toNat < 160 * 2 ^ 23 := by
  have h1 := FP.Core.val32_i2f v
  have h2 := FP.Core.i2f_mag v
  have h3 : zfN (FP.Core.i2f v) := zf_pos (A := v.toInt.natAbs) (B := 1) (e := 0) (by
    rw [h1]
    unfold FP.Core.ofInt
    rw [decide_eq_false (by omega)]
    rfl)
  rw [zfN_mod h3] at h2
  exact h2
theorem zf_mul {a b : UInt32} (ha : a.toNat < 160 * 2 ^ 23) (hb : b.toNat < 221 * 2 ^ 23) : zfF (FP.fmul a b) := by
  obtain ⟨c, q, h1⟩ := zf_fin (x := a) (by unfold zfF; omega)
  obtain ⟨d, r, h2⟩ := zf_fin (x := b) (by unfold zfF; omega)
  have hv := FP.Core.val32_fmul a b
  rw [h1, h2] at hv
  have hp : zfN (FP.Core.fmul a b) := zf_pos (A := c * d) (B := 1) (e := q + r) hv
  have hm := FP.Core.fmul_mag (a := a) (b := b) (Ka := 160) (Kb := 221) (by omega) (by omega) (by omega) (by omega)
  rw [zfN_mod hp] at hm
  unfold zfF
  exact Nat.lt_of_lt_of_le hm (by decide)
def zfT (t : Nat) : Bool := decide ((FP.fmul 1098907648 (FP.i2f (Int32.ofInt t))).toNat ≤ 2139095040) && decide ((FP.fdiv 1114636288 (FP.fmul 1098907648 (FP.i2f (Int32.ofInt t)))).toNat < 221 * 2 ^ 23)
theorem zfT_all : ∀ t : Nat, t < 301 → 20 ≤ t → zfT t = true := by decide +kernel
theorem zfN_0 : zfN FP.fconst0 := by unfold zfN; decide
theorem zfF_0 : zfF FP.fconst0 := by unfold zfF; decide
theorem zf_n64 {x : UInt32} (h : zfN x) : vf_n64 (FP.f2d x) ∧ Op.cmpValue (FP.dcmp (FP.f2d x) (FP.f2d x)) .l = 0 := by
  have h1 : FP.fIsNaN x = false := (FP.Core.notNaN_iff32 x).mpr (zfN_ne h)
  have h2 : FP.dIsNaN (FP.f2d x) = false := by rw [FP.f2d_nan]; exact h1
  have h3 : FP.Core.val64 (FP.f2d x) ≠ .nan := by
    intro q
    have h2' : FP.Core.dIsNaN (FP.f2d x) = false := h2
    rw [(FP.Core.dIsNaN_iff _).mpr q] at h2'
    cases h2'
  refine ⟨?_, ?_⟩
  · have h4 := (FP.Core.ne_nan _).mp h3
    unfold vf_n64
    rw [UInt64.le_iff_toNat_le, UInt64.toNat_and]
    have e := Nat.and_two_pow_sub_one_eq_mod (FP.f2d x).toNat 63
    show (FP.f2d x).toNat &&& 9223372036854775807 ≤ 9218868437227405312
    rw [show (9223372036854775807 : Nat) = 2 ^ 63 - 1 from rfl, e]
    exact h4
  · have h5 : FP.dcmp (FP.f2d x) (FP.f2d x) = some .eq := FP.Core.dcmp_self h3
    rw [h5]
    rfl
