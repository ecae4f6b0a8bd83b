/-! ===== an event more ===== -/
def setAd (S : zSt) (m v : Nat) (x : zEv) : zSt := (S.1, S.2.1, fun m' v' => if m' = m ∧ v' = v then S.2.2.1 m v + 1 else S.2.2.1 m' v', fun m' v' e' => if m' = m ∧ v' = v ∧ e' = S.2.2.1 m v then x else S.2.2.2 m' v' e')
section ZNA
variable {N : Nat} {S X : zSt} {st cells shifts held past pf : Nat → Int32} {size code pn : Int32} {m v e k i j nx : Nat} {hs : List zSt} {K : zKT} {x : zEv}
theorem setAd_C : (setAd S m v x).2.2.1 m v = S.2.2.1 m v + 1 := if_pos ⟨rfl, rfl⟩
theorem setAd_Cne {m' v' : Nat} (h : ¬ (m' = m ∧ v' = v)) : (setAd S m v x).2.2.1 m' v' = S.2.2.1 m' v' := if_neg h
theorem setAd_E : (setAd S m v x).2.2.2 m v (S.2.2.1 m v) = x := if_pos ⟨rfl, rfl, rfl⟩
theorem setAd_Ene {m' v' e' : Nat} (h : ¬ (m' = m ∧ v' = v ∧ e' = S.2.2.1 m v)) : (setAd S m v x).2.2.2 m' v' e' = S.2.2.2 m' v' e' := if_neg h
theorem setAd_lt {m' v' e' : Nat} (h : e' < (setAd S m v x).2.2.1 m' v') : (m' = m ∧ v' = v ∧ e' = S.2.2.1 m v) ∨ (¬ (m' = m ∧ v' = v ∧ e' = S.2.2.1 m v) ∧ e' < S.2.2.1 m' v') := by
  by_cases q : m' = m ∧ v' = v
  · obtain ⟨rfl, rfl⟩ := q
    rw [setAd_C] at h
    by_cases q : e' = S.2.2.1 m' v'
    · exact Or.inl ⟨rfl, rfl, q⟩
    · exact Or.inr ⟨fun y => q y.2.2, by omega⟩
  · rw [setAd_Cne q] at h
    exact Or.inr ⟨fun y => q ⟨y.1, y.2.1⟩, h⟩
theorem okS_setAd (h : okS S) (hm : m < S.1) (hv : v < 2) (hC : S.2.2.1 m v < 24) (hx : okE x) : okS (setAd S m v x) := by
  refine ⟨⟨h.1.1, fun m' hm' => ⟨(h.1.2 m' hm').1, fun v' hv' => ⟨?_, fun e' he' => ?_⟩⟩⟩, h.2⟩
  · by_cases q : m' = m ∧ v' = v
    · obtain ⟨rfl, rfl⟩ := q
      rw [setAd_C]
      omega
    · rw [setAd_Cne q]
      exact ((h.1.2 m' hm').2 v' hv').1
  · rcases setAd_lt he' with ⟨rfl, rfl, rfl⟩ | ⟨q1, q2⟩
    · rw [setAd_E]
      exact hx
    · rw [setAd_Ene q1]
      exact ((h.1.2 m' hm').2 v' hv').2 e' q2
theorem of57 {m m' a b : Nat} (ha : a < 57) (hb : b < 57) (h : 57 * m' + a = 57 * m + b) : m' = m ∧ a = b := by omega
theorem of25 {v v' a b : Nat} (ha : a < 25) (hb : b < 25) (hv : v < 2) (hv' : v' < 2) (h : 7 + 25 * v' + a = 7 + 25 * v + b) : v' = v ∧ a = b := by omega
theorem cl_inj {m m' v v' a b : Nat} (ha : a < 25) (hb : b < 25) (hv : v < 2) (hv' : v' < 2) (h : 57 * m' + 7 + 25 * v' + a = 57 * m + 7 + 25 * v + b) : m' = m ∧ v' = v ∧ a = b := by
  obtain ⟨h1, h2⟩ := of57 (m := m) (m' := m') (a := 7 + 25 * v' + a) (b := 7 + 25 * v + b) (by omega) (by omega) (by omega)
  exact ⟨h1, of25 ha hb hv hv' h2⟩
theorem cl_far {m m' v a k : Nat} (ha : a < 25) (hv : v < 2) (hk : k < 7) : 57 * m' + k ≠ 57 * m + 7 + 25 * v + a := by
  intro h
  have := of57 (m := m) (m' := m') (a := k) (b := 7 + 25 * v + a) (by omega) (by omega) (by omega)
  omega
theorem RC_setAd (h : okC S) {sz : Int32} (hR : RC S sz cells) (hm : m < S.1) (hv : v < 2) (hC : S.2.2.1 m v < 24) : RC (setAd S m v x) sz (upd (upd cells (57 * m + 7 + 25 * v) (iI ((S.2.2.1 m v + 1 : Nat) : Int))) (57 * m + 7 + 25 * v + (S.2.2.1 m v + 1)) (iI (pk x))) := by
  refine ⟨hR.1, fun m' hm' => ⟨fun k' hk' => ?_, fun v' hv' => ⟨?_, fun e' he' => ?_⟩⟩⟩
  · have f1 := cl_far (m := m) (m' := m') (v := v) (a := S.2.2.1 m v + 1) (k := k') (by omega) hv hk'
    have f0 := cl_far (m := m) (m' := m') (v := v) (a := 0) (k := k') (by omega) hv hk'
    rw [Nat.add_zero] at f0
    rw [upd_ne _ _ f1, upd_ne _ _ f0]
    exact (hR.2 m' hm').1 k' hk'
  · have f1 : 57 * m' + 7 + 25 * v' ≠ 57 * m + 7 + 25 * v + (S.2.2.1 m v + 1) := fun q => by
      have := cl_inj (a := 0) (by omega) (by omega) hv hv' q
      omega
    rw [upd_ne _ _ f1]
    by_cases q : m' = m ∧ v' = v
    · obtain ⟨rfl, rfl⟩ := q
      rw [upd_eq _ _ rfl, setAd_C]
    · have f0 : 57 * m' + 7 + 25 * v' ≠ 57 * m + 7 + 25 * v := fun q2 => by
        have := cl_inj (a := 0) (b := 0) (by omega) (by omega) hv hv' q2
        exact q ⟨this.1, this.2.1⟩
      rw [upd_ne _ _ f0, setAd_Cne q]
      exact ((hR.2 m' hm').2 v' hv').1
  · rcases setAd_lt he' with ⟨rfl, rfl, rfl⟩ | ⟨q1, q2⟩
    · rw [setAd_E, upd_eq _ _ (by omega)]
    · have hm2 : m' < S.1 := hm'
      have hC' := okC_C h hm2 hv'
      have f1 : 57 * m' + 8 + 25 * v' + e' ≠ 57 * m + 7 + 25 * v + (S.2.2.1 m v + 1) := fun q => by
        have := cl_inj (a := e' + 1) (m := m) (m' := m') (v := v) (v' := v') (b := S.2.2.1 m v + 1) (by omega) (by omega) hv hv' (by omega)
        exact q1 ⟨this.1, this.2.1, by omega⟩
      have f0 : 57 * m' + 8 + 25 * v' + e' ≠ 57 * m + 7 + 25 * v := fun q => by
        have := cl_inj (a := e' + 1) (m := m) (m' := m') (v := v) (v' := v') (b := 0) (by omega) (by omega) hv hv' (by omega)
        omega
      rw [setAd_Ene q1, upd_ne _ _ f1, upd_ne _ _ f0]
      exact ((hR.2 m' hm').2 v' hv').2 e' q2
theorem X4_appendEvent (h : okC S) (hR : RC S (iI S.1) cells) (hm : m < S.1) (hv : v < 2) (hC : S.2.2.1 m v < 24) : f_X4_appendEvent N (iI S.1) cells (iI m) (iI v) (iI (pk x)) = some (upd (upd cells (57 * m + 7 + 25 * v) (iI ((S.2.2.1 m v + 1 : Nat) : Int))) (57 * m + 7 + 25 * v + (S.2.2.1 m v + 1)) (iI (pk x))) := by
  have h1 := h.1
  have e0 := ((hR.2 m hm).2 v hv).1
  have eT : ((m : Int) * 57 + 7 + v * 25).toNat = 57 * m + 7 + 25 * v := by omega
  have ld : zAld cells 912 (iI ((m : Int) * 57 + 7 + v * 25)) = some (iI (S.2.2.1 m v)) := by
    rw [zAldI (by omega) (by omega) (by omega), eT, e0]
  have s1 : zAst cells 912 (iI ((m : Int) * 57 + 7 + v * 25)) (iI (S.2.2.1 m v) + 1) = some (upd cells (57 * m + 7 + 25 * v) (iI ((S.2.2.1 m v + 1 : Nat) : Int))) := by
    rw [zAstI (by omega) (by omega) (by omega), eT, iIp1]; rfl
  have ld2 : zAld (upd cells (57 * m + 7 + 25 * v) (iI ((S.2.2.1 m v + 1 : Nat) : Int))) 912 (iI ((m : Int) * 57 + 7 + v * 25)) = some (iI ((S.2.2.1 m v + 1 : Nat) : Int)) := by
    rw [zAldI (by omega) (by omega) (by omega), eT, upd_eq _ _ rfl]
  have evc : f_X4_voiceCell N (iI S.1) (iI m) (iI v) = some (iI ((m : Int) * 57 + 7 + v * 25)) := by
    rw [X4_voiceCell h (zIn_ m (by omega)) (zIn_ v (by omega)), if_pos (by omega)]
  unfold f_X4_appendEvent
  rw [z_be evc, if_neg (by rw [iL0, iI_lt (by omega) (by omega) (by omega) (by omega)]; omega), z_be ld, if_pos (by rw [iL24, iI_lt (by omega) (by omega) (by omega) (by omega)]; omega), z_be ld, z_be s1, z_be ld2, iI_add, zAstI (by omega) (by omega) (by omega), z_sb]
  rw [show ((m : Int) * 57 + 7 + v * 25 + ((S.2.2.1 m v + 1 : Nat) : Int)).toNat = 57 * m + 7 + 25 * v + (S.2.2.1 m v + 1) by omega]
end ZNA
