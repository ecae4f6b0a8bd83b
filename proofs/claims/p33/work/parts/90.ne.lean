/-! ===== an event less ===== -/
def setRm (S : zSt) (m v e : Nat) : zSt := (S.1, S.2.1, fun m' v' => if m' = m ∧ v' = v then S.2.2.1 m v - 1 else S.2.2.1 m' v', fun m' v' e' => if m' = m ∧ v' = v ∧ e ≤ e' then S.2.2.2 m v (e' + 1) else S.2.2.2 m' v' e')
section ZNF
variable {N : Nat} {S X : zSt} {st cells shifts held past pf : Nat → Int32} {size code pn : Int32} {m v e k i j nx : Nat} {hs : List zSt} {K : zKT} {x : zEv}
theorem setRm_C : (setRm S m v e).2.2.1 m v = S.2.2.1 m v - 1 := if_pos ⟨rfl, rfl⟩
theorem setRm_Cne {m' v' : Nat} (h : ¬ (m' = m ∧ v' = v)) : (setRm S m v e).2.2.1 m' v' = S.2.2.1 m' v' := if_neg h
theorem setRm_E {e' : Nat} (h : e ≤ e') : (setRm S m v e).2.2.2 m v e' = S.2.2.2 m v (e' + 1) := if_pos ⟨rfl, rfl, h⟩
theorem setRm_Ene {m' v' e' : Nat} (h : ¬ (m' = m ∧ v' = v ∧ e ≤ e')) : (setRm S m v e).2.2.2 m' v' e' = S.2.2.2 m' v' e' := if_neg h
theorem okS_setRm (h : okS S) (hm : m < S.1) (hv : v < 2) (he : e < S.2.2.1 m v) : okS (setRm S m v e) := by
  refine ⟨⟨h.1.1, fun m' hm' => ⟨(h.1.2 m' hm').1, fun v' hv' => ⟨?_, fun e' he' => ?_⟩⟩⟩, h.2⟩
  · by_cases q : m' = m ∧ v' = v
    · obtain ⟨rfl, rfl⟩ := q
      have := okC_C h.1 hm hv
      rw [setRm_C]
      omega
    · rw [setRm_Cne q]
      exact ((h.1.2 m' hm').2 v' hv').1
  · by_cases q : m' = m ∧ v' = v
    · obtain ⟨rfl, rfl⟩ := q
      rw [setRm_C] at he'
      by_cases q2 : e ≤ e'
      · rw [setRm_E q2]
        exact ((h.1.2 m' hm').2 v' hv').2 _ (by omega)
      · rw [setRm_Ene (fun y => q2 y.2.2)]
        exact ((h.1.2 m' hm').2 v' hv').2 _ (by omega)
    · rw [setRm_Cne q] at he'
      rw [setRm_Ene (fun y => q ⟨y.1, y.2.1⟩)]
      exact ((h.1.2 m' hm').2 v' hv').2 _ he'
theorem out25 {j b : Nat} (h : ∀ a, a < 25 → j ≠ b + a) : j < b ∨ b + 25 ≤ j := by
  by_cases q : b ≤ j ∧ j < b + 25
  · exact absurd (by omega) (h (j - b) (by omega))
  · omega
/-- the class's cells with an event less -/
abbrev rmC (S : zSt) (m v e : Nat) (c : Nat → Int32) : Nat → Int32 := upd (va_cpy c c (57 * m + 8 + 25 * v + e + 1) (57 * m + 8 + 25 * v + e) (S.2.2.1 m v - e - 1)) (57 * m + 7 + 25 * v) (iI ((S.2.2.1 m v - 1 : Nat) : Int))
theorem rmC_off (hC : S.2.2.1 m v ≤ 24) (he : e < S.2.2.1 m v) (h : j < 57 * m + 7 + 25 * v ∨ 57 * m + 7 + 25 * v + 25 ≤ j) : rmC S m v e cells j = cells j := by
  unfold rmC
  rw [upd_ne _ _ (by omega), zcpy_at, if_neg (by omega)]
theorem RC_setRm (h : okC S) {sz : Int32} (hR : RC S sz cells) (hm : m < S.1) (hv : v < 2) (he : e < S.2.2.1 m v) : RC (setRm S m v e) sz (rmC S m v e cells) := by
  have hC := okC_C h hm hv
  refine ⟨hR.1, fun m' hm' => ⟨fun k' hk' => ?_, fun v' hv' => ⟨?_, fun e' he' => ?_⟩⟩⟩
  · rw [rmC_off hC he (out25 (fun a ha => cl_far ha hv hk'))]
    exact (hR.2 m' hm').1 k' hk'
  · by_cases q : m' = m ∧ v' = v
    · obtain ⟨rfl, rfl⟩ := q
      unfold rmC
      rw [upd_eq _ _ rfl, setRm_C]
    · rw [rmC_off hC he (out25 (fun a ha q2 => by
        have := cl_inj (a := 0) (b := a) (by omega) ha hv hv' q2
        exact q ⟨this.1, this.2.1⟩)), setRm_Cne q]
      exact ((hR.2 m' hm').2 v' hv').1
  · by_cases q : m' = m ∧ v' = v
    · obtain ⟨rfl, rfl⟩ := q
      rw [setRm_C] at he'
      unfold rmC
      rw [upd_ne _ _ (by omega), zcpy_at]
      by_cases q2 : e ≤ e'
      · rw [if_pos (by omega), setRm_E q2, show 57 * m' + 8 + 25 * v' + e + 1 + (57 * m' + 8 + 25 * v' + e' - (57 * m' + 8 + 25 * v' + e)) = 57 * m' + 8 + 25 * v' + (e' + 1) by omega]
        exact ((hR.2 m' hm').2 v' hv').2 _ (by omega)
      · rw [if_neg (by omega), setRm_Ene (fun y => q2 y.2.2)]
        exact ((hR.2 m' hm').2 v' hv').2 _ (by omega)
    · rw [setRm_Cne q] at he'
      have hm2 : m' < S.1 := hm'
      have hC' := okC_C h hm2 hv'
      rw [rmC_off hC he (out25 (fun a ha q2 => by
        have := cl_inj (a := e' + 1) (b := a) (m := m) (m' := m') (v := v) (v' := v') (by omega) ha hv hv' (by omega)
        exact q ⟨this.1, this.2.1⟩)), setRm_Ene (fun y => q ⟨y.1, y.2.1⟩)]
      exact ((hR.2 m' hm').2 v' hv').2 e' he'
theorem X4_dropEvent (h : okC S) (hR : RC S (iI S.1) cells) (hm : m < S.1) (hv : v < 2) (he : e < S.2.2.1 m v) : f_X4_dropEvent N (iI S.1) cells (iI m) (iI v) (iI e) = some (rmC S m v e cells) := by
  have h1 := h.1
  have hC := okC_C h hm hv
  have e0 := ((hR.2 m hm).2 v hv).1
  have eT : ((m : Int) * 57 + 7 + v * 25).toNat = 57 * m + 7 + 25 * v := by omega
  have ld : zAld cells 912 (iI ((m : Int) * 57 + 7 + v * 25)) = some (iI (S.2.2.1 m v)) := by
    rw [zAldI (by omega) (by omega) (by omega), eT, e0]
  have evc : f_X4_voiceCell N (iI S.1) (iI m) (iI v) = some (iI ((m : Int) * 57 + 7 + v * 25)) := by
    rw [X4_voiceCell h (zIn_ m (by omega)) (zIn_ v (by omega)), if_pos (by omega)]
  have eF : (iI ((m : Int) * 57 + 7 + v * 25) + 1) + iI (e : Int) = iI ((57 * m + 8 + 25 * v + e : Nat) : Int) := by
    rw [iIp1, iI_add]; congr 1 <;> omega
  have eG : iI ((57 * m + 8 + 25 * v + e : Nat) : Int) + 1 = iI ((57 * m + 8 + 25 * v + e + 1 : Nat) : Int) := iIp1 _
  have eN : (iI (S.2.2.1 m v : Int) - iI (e : Int)) - 1 = iI ((S.2.2.1 m v - e - 1 : Nat) : Int) := by
    rw [iI_sub, iIs1]; congr 1 <;> omega
  have ld2 : zAld (va_cpy cells cells (57 * m + 8 + 25 * v + e + 1) (57 * m + 8 + 25 * v + e) (S.2.2.1 m v - e - 1)) 912 (iI ((m : Int) * 57 + 7 + v * 25)) = some (iI (S.2.2.1 m v)) := by
    rw [zAldI (by omega) (by omega) (by omega), eT, zcpy_at, if_neg (by omega), e0]
  unfold f_X4_dropEvent
  rw [z_be evc, if_neg (by rw [iL0, iI_lt (by omega) (by omega) (by omega) (by omega)]; omega), if_neg (by rw [iL0, iI_lt (by omega) (by omega) (by omega) (by omega)]; omega), z_be ld, if_pos (by rw [iI_lt (by omega) (by omega) (by omega) (by omega)]; omega), z_sb, z_be ld, eF, eG, eN, zCpyI (by omega) (by omega) (by omega) (by omega) (by omega) (by omega) (by omega), z_sb]
  simp only [Int.toNat_natCast]
  rw [z_be ld2, iIs1, zAstI (by omega) (by omega) (by omega), z_sb, eT, show (S.2.2.1 m v : Int) - 1 = ((S.2.2.1 m v - 1 : Nat) : Int) by omega]
end ZNF
