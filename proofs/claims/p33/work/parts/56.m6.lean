/-! ===== the shift of a note ===== -/
def sgS (s : Int) : Int := if s = 1 then 1 else if s = 2 then -1 else 0
def kyS (k s : Int) : Int := if (2 * (s + 4)) % 7 < k then 1 else if 6 - (2 * (s + 4)) % 7 < -k then -1 else 0
section ZM6
variable {N : Nat} {S : zSt} {st cells : Nat → Int32} {size code : Int32} {m v e k : Nat}
theorem sgS_b (s : Int) : -1 ≤ sgS s ∧ sgS s ≤ 1 := by
  unfold sgS
  split
  · omega
  · split <;> omega
theorem kyS_b (k s : Int) : -1 ≤ kyS k s ∧ kyS k s ≤ 1 := by
  unfold kyS
  split
  · omega
  · split <;> omega
theorem X6_signShift {s : Int} (h : 0 ≤ s ∧ s ≤ 3) : f_X6_signShift N (iI s) = some (iI (sgS s)) := by
  unfold f_X6_signShift sgS
  rw [iL1, iL2]
  simp (disch := omega) only [iI_eq]
  split
  · rfl
  · split <;> rfl
theorem tab1 : ∀ j : Nat, j < 7 → ∀ s : Nat, s < 7 → (zTab 1 j = Int32.ofNat s ↔ j = (2 * (s + 4)) % 7) := by decide +kernel
theorem tab2 : ∀ j : Nat, j < 7 → ∀ s : Nat, s < 7 → (zTab 2 j = Int32.ofNat s ↔ j = 6 - (2 * (s + 4)) % 7) := by decide +kernel
theorem X6_flats {k : Int} {s : Nat} (hk : -7 ≤ k ∧ k ≤ 7) (hs : s < 7) (hN : 30 ≤ N) : zLoop (f_X6_keyShift_B34 N (iI k) (iI s)) N 0 = some (iI (if 6 - (2 * ((s : Int) + 4)) % 7 < -k then -1 else 0)) := by
  refine z_eqT (zT_loop (fun n t => ∃ j : Nat, j ≤ 6 - (2 * (s + 4)) % 7 ∧ n = 7 - j ∧ t = iI j) ?_ N 7 0 (by omega) ⟨0, by omega, rfl, rfl⟩)
  rintro n t c ⟨j, hj, rfl, rfl⟩ ih
  unfold f_X6_keyShift_B34
  rw [iL7, iI_neg]
  refine zT_ite (fun q => ?_) (fun q => ?_)
  · refine zT_ite (fun q2 => ?_) (fun q2 => ?_)
    · rw [iI_lt (by omega) (by omega) (by omega) (by omega)] at q2
      rw [zAldI (by omega) (by omega) (by omega)]
      refine zT_bindE rfl (zT_ite (fun q3 => ?_) (fun q3 => ?_))
      · rw [← iI_ofNat, Int.toNat_natCast, tab2 j (by omega) s hs] at q3
        exact zT_some (by rw [if_pos (by omega)]; rfl)
      · rw [← iI_ofNat, Int.toNat_natCast, tab2 j (by omega) s hs] at q3
        exact zT_bindE rfl (ih (7 - (j + 1)) _ (by omega) ⟨j + 1, by omega, rfl, by rw [iL1, iI_add]; rfl⟩)
    · rw [iI_lt (by omega) (by omega) (by omega) (by omega)] at q2
      exact zT_some (by rw [if_neg (by omega)]; rfl)
  · rw [iI_lt (by omega) (by omega) (by omega) (by omega)] at q
    omega
theorem X6_flats2 : f_X6_keyShift_B34_2 = f_X6_keyShift_B34 := rfl
theorem X6_keyShift {k s : Int} (hk : -7 ≤ k ∧ k ≤ 7) (hs : 0 ≤ s ∧ s ≤ 6) (hN : 30 ≤ N) : f_X6_keyShift N (iI k) (iI s) = some (iI (kyS k s)) := by
  obtain ⟨s, rfl⟩ := Int.eq_ofNat_of_zero_le hs.1
  have hf := X6_flats (N := N) (s := s) hk (by omega) hN
  unfold f_X6_keyShift kyS
  refine z_eqT (zT_loop (fun n t => ∃ j : Nat, j ≤ (2 * (s + 4)) % 7 ∧ n = 7 - j ∧ t = iI j) ?_ N 7 0 (by omega) ⟨0, by omega, rfl, rfl⟩)
  rintro n t c ⟨j, hj, rfl, rfl⟩ ih
  unfold f_X6_keyShift_B2
  rw [X6_flats2, hf, iL7]
  refine zT_ite (fun q => ?_) (fun q => ?_)
  · refine zT_ite (fun q2 => ?_) (fun q2 => ?_)
    · rw [iI_lt (by omega) (by omega) (by omega) (by omega)] at q2
      rw [zAldI (by omega) (by omega) (by omega)]
      refine zT_bindE rfl (zT_ite (fun q3 => ?_) (fun q3 => ?_))
      · rw [← iI_ofNat, Int.toNat_natCast, tab1 j (by omega) s (by omega)] at q3
        exact zT_some (by rw [if_pos (by omega)]; rfl)
      · rw [← iI_ofNat, Int.toNat_natCast, tab1 j (by omega) s (by omega)] at q3
        exact zT_bindE rfl (ih (7 - (j + 1)) _ (by omega) ⟨j + 1, by omega, rfl, by rw [iL1, iI_add]; rfl⟩)
    · rw [iI_lt (by omega) (by omega) (by omega) (by omega)] at q2
      exact zT_some (by rw [if_neg (show ¬ (2 * ((s : Int) + 4)) % 7 < k by omega)])
  · rw [iI_lt (by omega) (by omega) (by omega) (by omega)] at q
    omega
/-- the event ahead of an event in its voice -/
def bfE (S : zSt) (m v e : Int) : Option zEv := if 0 < e then gE S m v (e - 1) else gE S (m - 1) v (gC S (m - 1) v - 1)
theorem X4_codeBefore (h : okC S) (hR : RC S (iI S.1) cells) (hm : m < S.1) (hv : v < 2) (he : e < S.2.2.1 m v) : f_X4_codeBefore N (iI S.1) cells (iI m) (iI v) (iI e) = some (iI (pk0 (bfE S m v e))) := by
  have h1 := h.1
  have hC := okC_C h hm hv
  have hb := gC_b h (m - 1) v
  unfold f_X4_codeBefore bfE
  rw [iL0, iL1]
  simp only [iI_sub]
  simp (disch := omega) only [iI_lt]
  by_cases q : (0 : Int) < e
  · rw [if_pos q, if_pos q]
    exact z_be (X4_code h hR (zIn_ m (by omega)) (zIn_ v (by omega)) (by unfold zInt; omega))
  · rw [if_neg q, if_neg q, z_be (X4_count h hR (by unfold zInt; omega) (zIn_ v (by omega))), iI_sub]
    exact z_be (X4_code h hR (by unfold zInt; omega) (zIn_ v (by omega)) (by unfold zInt; omega))
/-- the latest sign of the pitch ahead of event e of the measure, or the key -/
def bmS (S : zSt) (key : Int) (m v : Nat) (p : Int) : Nat → Int
  | 0 => kyS key ((if p < 0 then 0 else p) % 7)
  | e + 1 => if (S.2.2.2 m v e).1 = p ∧ 0 < (S.2.2.2 m v e).2.1 then sgS (S.2.2.2 m v e).2.1 else bmS S key m v p e
abbrev tieTo (o : Option zEv) (p : Int) : Prop := oT o = 1 ∧ oN o = 1 ∧ oP o = p
def shW (S : zSt) (key : Int) (m v : Nat) (t : Int) (e : Nat) : Int :=
  if 0 < (S.2.2.2 m v e).2.1 then sgS (S.2.2.2 m v e).2.1 else if tieTo (bfE S m v e) (S.2.2.2 m v e).1 then t else bmS S key m v (S.2.2.2 m v e).1 e
def shL (S : zSt) (key : Int) (m v : Nat) (t : Int) : Nat → Int
  | 0 => shW S key m v t 0
  | e + 1 => shW S key m v (shL S key m v t e) (e + 1)
def shB (S : zSt) (v : Nat) : Nat → Int
  | 0 => 0
  | m + 1 => if S.2.2.1 m v = 0 then 0 else shL S (S.2.1 m 0) m v (shB S v m) (S.2.2.1 m v - 1)
def shK (S : zSt) (key : Int) (m v e : Nat) : Int := shL S key m v (shB S v m) e
def shS (S : zSt) (m v e : Nat) : Int := shK S (S.2.1 m 0) m v e
theorem bmS_b (key : Int) (p : Int) (e : Nat) : -1 ≤ bmS S key m v p e ∧ bmS S key m v p e ≤ 1 := by
  induction e with
  | zero => exact kyS_b _ _
  | succ e ih =>
    unfold bmS
    split
    · exact sgS_b _
    · exact ih
theorem shW_b {key t : Int} (ht : -1 ≤ t ∧ t ≤ 1) (e : Nat) : -1 ≤ shW S key m v t e ∧ shW S key m v t e ≤ 1 := by
  unfold shW
  split
  · exact sgS_b _
  · split
    · exact ht
    · exact bmS_b _ _ _
theorem shL_b {key t : Int} (ht : -1 ≤ t ∧ t ≤ 1) (e : Nat) : -1 ≤ shL S key m v t e ∧ shL S key m v t e ≤ 1 := by
  induction e with
  | zero => exact shW_b ht _
  | succ e ih => exact shW_b ih _
theorem shB_b (m : Nat) : -1 ≤ shB S v m ∧ shB S v m ≤ 1 := by
  induction m with
  | zero => exact ⟨by unfold shB; omega, by unfold shB; omega⟩
  | succ m ih =>
    unfold shB
    split
    · omega
    · exact shL_b ih _
theorem shS_b (m v e : Nat) : -1 ≤ shS S m v e ∧ shS S m v e ≤ 1 := shL_b (shB_b m) e
end ZM6
