/-! ===== held lengths ===== -/
abbrev nxM (S : zSt) (m v e : Nat) : Nat := if e + 1 < S.2.2.1 m v then m else m + 1
abbrev nxE (S : zSt) (m v e : Nat) : Nat := if e + 1 < S.2.2.1 m v then e + 1 else 0
abbrev hoP (S : zSt) (m v e : Nat) : Prop := nxM S m v e < S.1 ∧ nxE S m v e < S.2.2.1 (nxM S m v e) v ∧ (S.2.2.2 (nxM S m v e) v (nxE S m v e)).1 = (S.2.2.2 m v e).1
abbrev htP (S : zSt) (m v e : Nat) : Prop := (S.2.2.2 m v e).2.2.2 = 1 ∧ hoP S m v e
def hdS (S : zSt) (v m e : Nat) : Int := tk (S.2.2.2 m v e).2.2.1 + (if _h : (m < 16 ∧ e < 24) ∧ htP S m v e then hdS S v (nxM S m v e) (nxE S m v e) else 0)
termination_by 400 - 24 * m - e
decreasing_by
  by_cases q : e + 1 < S.2.2.1 m v
  · rw [dif_pos q, dif_pos q]; omega
  · rw [dif_neg q, dif_neg q]; omega
section ZMA
variable {N : Nat} {S : zSt} {st cells held : Nat → Int32} {size code : Int32} {m v e k : Nat}
theorem hdS_on (h : okC S) (hm : m < S.1) (hv : v < 2) (he : e < S.2.2.1 m v) (q : htP S m v e) : hdS S v m e = tk (S.2.2.2 m v e).2.2.1 + hdS S v (nxM S m v e) (nxE S m v e) := by
  have h1 := h.1
  have hC := okC_C h hm hv
  rw [hdS, dif_pos ⟨⟨by omega, by omega⟩, q⟩]
theorem hdS_off (q : ¬ htP S m v e) : hdS S v m e = tk (S.2.2.2 m v e).2.2.1 := by
  rw [hdS, dif_neg (fun x => q x.2)]
  omega
theorem nx_in (he : e < S.2.2.1 m v) : (e + 1 < S.2.2.1 m v ∧ nxM S m v e = m ∧ nxE S m v e = e + 1) ∨ (e + 1 = S.2.2.1 m v ∧ nxM S m v e = m + 1 ∧ nxE S m v e = 0) := by
  unfold nxM nxE
  split <;> omega
theorem hoP_in (q : hoP S m v e) (he : e < S.2.2.1 m v) : nxM S m v e < S.1 ∧ nxE S m v e < S.2.2.1 (nxM S m v e) v := ⟨q.1, q.2.1⟩
/-! the class's table of held lengths -/
theorem X4_codeAfter (h : okC S) (hR : RC S (iI S.1) cells) (hm : m < S.1) (hv : v < 2) (he : e < S.2.2.1 m v) : f_X4_codeAfter N (iI S.1) cells (iI m) (iI v) (iI e) = some (iI (pk0 (if nxM S m v e < S.1 ∧ nxE S m v e < S.2.2.1 (nxM S m v e) v then some (S.2.2.2 (nxM S m v e) v (nxE S m v e)) else none))) := by
  have h1 := h.1
  have hC := okC_C h hm hv
  unfold f_X4_codeAfter
  rw [z_be (X4_count h hR (zIn_ m (by omega)) (zIn_ v (by omega))), gC_at hm hv, iIp1, iIp1]
  rcases nx_in he with ⟨p, p1, p2⟩ | ⟨p, p1, p2⟩
  · rw [p1, p2, if_pos (by rw [iI_lt (by omega) (by omega) (by omega) (by omega)]; omega), if_pos ⟨hm, p⟩]
    have := X4_code (N := N) h hR (zIn_ m (by omega)) (zIn_ v (by omega)) (zIn_ (e + 1) (by omega))
    rw [gE_at hm hv p] at this
    exact z_be this
  · rw [p1, p2, if_neg (by rw [iI_lt (by omega) (by omega) (by omega) (by omega)]; omega)]
    have := X4_code (N := N) (e := ((0 : Nat) : Int)) h hR (zIn_ (m + 1) (by omega)) (zIn_ v (by omega)) (zIn_ 0 (by omega))
    by_cases q : m + 1 < S.1 ∧ 0 < S.2.2.1 (m + 1) v
    · rw [if_pos q]
      rw [gE_at q.1 hv q.2] at this
      exact z_be this
    · rw [if_neg q]
      rw [show gE S ((m + 1 : Nat) : Int) v ((0 : Nat) : Int) = none by unfold gE; rw [if_neg]; simp only [Int.toNat_natCast]; omega] at this
      exact z_be this
theorem X4_isHeldTie (h : okC S) (hR : RC S (iI S.1) cells) (hm : m < S.1) (hv : v < 2) (he : e < S.2.2.1 m v) : f_X4_isHeldTie N (iI S.1) cells (iI m) (iI v) (iI e) = some (iI (if htP S m v e then 1 else 0)) := by
  have h1 := h.1
  have hC := okC_C h hm hv
  have hx := okC_ev h hm hv he
  have hxb := oB (oOk_some hx)
  have e1 := X4_code (N := N) h hR (zIn_ m (by omega)) (zIn_ v (by omega)) (zIn_ e (by omega))
  rw [gE_at hm hv he] at e1
  have et : oT (some (S.2.2.2 m v e)) = (S.2.2.2 m v e).2.2.2 := rfl
  unfold f_X4_isHeldTie
  rw [z_be e1, z_be (X0_isTied _ (oOk_some hx)), et]
  rw [et] at hxb
  by_cases q : (S.2.2.2 m v e).2.2.2 = 0
  · rw [if_pos (by rw [q]; rfl), if_neg (fun x => by have := x.1; omega)]; rfl
  · rw [if_neg (by rw [iL0, iI_eq (by omega) (by omega) (by omega) (by omega)]; exact q), z_be (X4_codeAfter h hR hm hv he)]
    by_cases q2 : nxM S m v e < S.1 ∧ nxE S m v e < S.2.2.1 (nxM S m v e) v
    · have hy := okC_ev h q2.1 hv q2.2
      rw [if_pos q2]
      have hs := X0_samePitch (N := N) _ _ (oOk_some hx) (oOk_some hy)
      by_cases q3 : (S.2.2.2 (nxM S m v e) v (nxE S m v e)).1 = (S.2.2.2 m v e).1
      · rw [z_be (z_p1 ?_ hs), if_neg ne10, if_pos ⟨by omega, q2.1, q2.2, q3⟩]
        · rfl
        · rw [smP hy hx]
          unfold okE at hx
          omega
      · rw [z_be (z_p0 ?_ hs), if_pos z00, if_neg (fun x => q3 x.2.2.2)]
        · rfl
        · rw [smP hy hx]
          exact fun x => q3 x.2.symm
    · rw [if_neg q2, z_be (z_p0 ?_ (X0_samePitch _ none (oOk_some hx) (fun x hx => by cases hx))), if_pos z00, if_neg (fun x => q2 ⟨x.2.1, x.2.2.1⟩)]
      · rfl
      · intro x
        have := x.2.1
        simp [oN] at this
end ZMA
