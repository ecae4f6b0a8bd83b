/-! ===== held lengths ===== -/
abbrev nxM (S : zSt) (m v e : Nat) : Nat := if e + 1 < S.2.2.1 m v then m else m + 1
abbrev nxE (S : zSt) (m v e : Nat) : Nat := if e + 1 < S.2.2.1 m v then e + 1 else 0
abbrev hoP (S : zSt) (m v e : Nat) : Prop := nxM S m v e < S.1 ∧ nxE S m v e < S.2.2.1 (nxM S m v e) v ∧ (S.2.2.2 (nxM S m v e) v (nxE S m v e)).1 = (S.2.2.2 m v e).1
abbrev htP (S : zSt) (m v e : Nat) : Prop := (S.2.2.2 m v e).2.2.2 = 1 ∧ hoP S m v e
def hdS (S : zSt) (v m e : Nat) : Int := tk (S.2.2.2 m v e).2.2.1 + (if _h : (m < 16 ∧ e < 24) ∧ htP S m v e then hdS S v (nxM S m v e) (nxE S m v e) else 0)
termination_by 400 - 24 * m - e
decreasing_by
  by_cases q : e + 1 < S.2.2.1 m v
  · rw [dif_pos q, dif_pos q]; omega
  · rw [dif_neg q, dif_neg q]; omega
section ZMA
variable {N : Nat} {S : zSt} {st cells held : Nat → Int32} {size code : Int32} {m v e k : Nat}
theorem hdS_on (h : okC S) (hm : m < S.1) (hv : v < 2) (he : e < S.2.2.1 m v) (q : htP S m v e) : hdS S v m e = tk (S.2.2.2 m v e).2.2.1 + hdS S v (nxM S m v e) (nxE S m v e) := by
  have h1 := h.1
  have hC := okC_C h hm hv
  rw [hdS, dif_pos ⟨⟨by omega, by omega⟩, q⟩]
theorem hdS_off (q : ¬ htP S m v e) : hdS S v m e = tk (S.2.2.2 m v e).2.2.1 := by
  rw [hdS, dif_neg (fun x => q x.2)]
  omega
theorem nx_in (he : e < S.2.2.1 m v) : (e + 1 < S.2.2.1 m v ∧ nxM S m v e = m ∧ nxE S m v e = e + 1) ∨ (e + 1 = S.2.2.1 m v ∧ nxM S m v e = m + 1 ∧ nxE S m v e = 0) := by
  unfold nxM nxE
  split <;> omega
theorem hoP_in (q : hoP S m v e) (he : e < S.2.2.1 m v) : nxM S m v e < S.1 ∧ nxE S m v e < S.2.2.1 (nxM S m v e) v := ⟨q.1, q.2.1⟩
theorem X10_holds {vE vM : Int32} (h : okC S) (hR : RM S st) (hm : m < S.1) (hv : v < 2) (he : e < S.2.2.1 m v) : f_X10_holds N vE vM st (iI m) (iI v) (iI e) = some (iI (if hoP S m v e then 1 else 0), iI (nxE S m v e), iI (nxM S m v e)) := by
  have h1 := h.1
  have hC := okC_C h hm hv
  have hx := okE_b (okC_ev h hm hv he)
  have e2 : (if iI e + 1 = iI (S.2.2.1 m v) then some (1 : Int32) else some 0) = some (iI (if e + 1 = S.2.2.1 m v then 1 else 0)) := by
    rw [iIp1]
    by_cases q : e + 1 = S.2.2.1 m v
    · rw [if_pos q, if_pos (by rw [← q]; rfl)]; rfl
    · rw [if_neg q, if_neg (by rw [iI_eq (by omega) (by omega) (by omega) (by omega)]; omega)]; rfl
  have e3 : (if iI (if e + 1 = S.2.2.1 m v then 1 else 0) = 0 then some (iI m) else some (iI m + 1)) = some (iI (nxM S m v e)) := by
    rcases nx_in he with ⟨q, q1, q2⟩ | ⟨q, q1, q2⟩
    · rw [if_neg (show ¬ (e + 1 = S.2.2.1 m v) by omega), if_pos (show iI 0 = 0 from rfl), q1]
    · rw [if_pos q, if_neg (show ¬ iI 1 = 0 by decide), q1, iIp1]; rfl
  have e4 : (if iI (if e + 1 = S.2.2.1 m v then 1 else 0) = 0 then some (iI e + 1) else some 0) = some (iI (nxE S m v e)) := by
    rcases nx_in he with ⟨q, q1, q2⟩ | ⟨q, q1, q2⟩
    · rw [if_neg (show ¬ (e + 1 = S.2.2.1 m v) by omega), if_pos (show iI 0 = 0 from rfl), q2, iIp1]; rfl
    · rw [if_pos q, if_neg (show ¬ iI 1 = 0 by decide), q2]; rfl
  have hn : nxM S m v e ≤ 16 ∧ nxE S m v e ≤ 24 ∧ nxM S m v e ≤ S.1 := by
    rcases nx_in he with ⟨q, q1, q2⟩ | ⟨q, q1, q2⟩ <;> omega
  unfold f_X10_holds
  rw [iL7, iI_add, z_be (X10_of_C h hR hm hv rfl), z_be e2, z_be e3, z_be e4, z_be (zlds0 hR)]
  unfold hoP
  have hbb : nxM S m v e < S.1 → ¬ nxE S m v e < S.2.2.1 (nxM S m v e) v → nxE S m v e = S.2.2.1 (nxM S m v e) v := by
    rcases nx_in he with ⟨p, p1, p2⟩ | ⟨p, p1, p2⟩
    · rw [p1, p2]; omega
    · rw [p1, p2]; omega
  generalize nxM S m v e = a at hn hbb ⊢
  generalize nxE S m v e = b at hn hbb ⊢
  by_cases q : a = S.1
  · rw [if_pos (by rw [q]), if_neg (by omega)]; rfl
  · rw [if_neg (by rw [iI_eq (by omega) (by omega) (by omega) (by omega)]; omega), z_be (X10_of_C h hR (show a < S.1 by omega) hv rfl)]
    have hCa := okC_C h (show a < S.1 by omega) hv
    by_cases q2 : b < S.2.2.1 a v
    · have hy := okE_b (okC_ev h (show a < S.1 by omega) hv q2)
      rw [if_neg (by rw [iI_eq (by omega) (by omega) (by omega) (by omega)]; omega), z_be X10_cell, z_be (zld0 h hR (by omega) hv q2), z_be X10_cell, z_be (zld0 h hR hm hv he)]
      by_cases q3 : (S.2.2.2 a v b).1 = (S.2.2.2 m v e).1
      · rw [if_pos (by rw [q3]), if_pos ⟨by omega, q2, q3⟩]; rfl
      · rw [if_neg (by rw [iI_eq (by omega) (by omega) (by omega) (by omega)]; exact q3), if_neg (fun x => q3 x.2.2)]; rfl
    · have hb := hbb (by omega) q2
      rw [if_pos (by rw [hb]), if_neg (fun x => q2 x.2.1)]; rfl
theorem X10_held (h : okC S) (hR : RM S st) (hm : m < S.1) (hv : v < 2) (he : e < S.2.2.1 m v) (vE vM : Int32) (hN : 2000 ≤ N) : zT (f_X10_held N vE vM st (iI m) (iI v) (iI e)) (fun r => r.1 = iI (hdS S v m e)) := by
  have h1 := h.1
  have hC := okC_C h hm hv
  unfold f_X10_held
  refine zT_bind (zT_mono (zT_loop (fun n s => (s.2.2.2.1 = 0 ∧ s.1 = iI (hdS S v m e)) ∨ (∃ (a b : Nat) (t : Int), a < S.1 ∧ b < S.2.2.1 a v ∧ n = 401 - 24 * a - b ∧ s.2.1 = iI a ∧ s.2.2.1 = iI b ∧ s.2.2.2.1 = 1 ∧ s.1 = iI t ∧ t + hdS S v a b = hdS S v m e)) ?_ N (401 - 24 * m - e) (0, iI m, iI e, 1, vE, vM) (by omega) (Or.inr ⟨m, e, 0, hm, he, rfl, rfl, rfl, rfl, rfl, by omega⟩)) (fun a q => zT_some q))
  clear hC he hm
  rintro n ⟨s1, s2, s3, s4, s5, s6⟩ c (⟨q1, q2⟩ | ⟨a, b, t, ha, hb, rfl, q1, q2, q3, q4, q5⟩) ih
  · dsimp only at q1 q2
    subst q1
    unfold f_X10_held_B12
    dsimp only
    exact zT_ite (fun _ => zT_some q2) (fun q => absurd rfl q)
  · dsimp only at q1 q2 q3 q4
    subst q1; subst q2; subst q3; subst q4
    have hx := okE_b (okC_ev h ha hv hb)
    have hC := okC_C h ha hv
    unfold f_X10_held_B12
    dsimp only
    refine zT_ite (fun q => absurd q ne10) (fun _ => ?_)
    refine zT_bindE X10_cell (zT_bindE (zld2 h hR ha hv hb) (zT_bindE (X10_ticksOf hx.2.2.1.1 hx.2.2.1.2) (zT_bindE rfl (zT_bindE (zld3 h hR ha hv hb) ?_))))
    rw [iI_add]
    by_cases q : (S.2.2.2 a v b).2.2.2 = 1
    · by_cases q2 : hoP S a v b
      · refine zT_bindE (a := (1, iI (nxE S a v b), iI (nxM S a v b))) ?_ (zT_bindE (if_neg ne10) (zT_bindE (if_neg ne10) ?_))
        · rw [if_pos (by rw [q]; rfl), z_be (X10_holds h hR ha hv hb), if_pos q2, if_neg (show ¬ iI 1 = 0 by decide)]
        · have hin := hoP_in q2 hb
          refine ih (401 - 24 * nxM S a v b - nxE S a v b) _ ?_ (Or.inr ⟨nxM S a v b, nxE S a v b, _, hin.1, hin.2, rfl, rfl, rfl, rfl, rfl, ?_⟩)
          · rcases nx_in hb with ⟨p, p1, p2⟩ | ⟨p, p1, p2⟩
            · rw [p1, p2]; omega
            · rw [p1, p2]; omega
          · rw [hdS_on h ha hv hb ⟨q, q2⟩] at q5
            omega
      · refine zT_bindE (a := (0, iI (nxE S a v b), iI (nxM S a v b))) ?_ (zT_bindE (if_pos z00) (zT_bindE (if_pos z00) ?_))
        · rw [if_pos (by rw [q]; rfl), z_be (X10_holds h hR ha hv hb), if_neg q2, if_pos (show iI 0 = 0 from rfl)]
        · refine ih 0 _ (by omega) (Or.inl ⟨rfl, ?_⟩)
          rw [hdS_off (fun x => q2 x.2)] at q5
          rw [← q5]
    · refine zT_bindE (a := (0, s5, s6)) ?_ (zT_bindE (if_pos z00) (zT_bindE (if_pos z00) ?_))
      · rw [if_neg (by rw [iL1, iI_eq (by omega) (by omega) (by omega) (by omega)]; exact q)]
      · refine ih 0 _ (by omega) (Or.inl ⟨rfl, ?_⟩)
        rw [hdS_off (fun x => q x.1)] at q5
        rw [← q5]
/-! the class's table of held lengths -/
theorem X4_codeAfter (h : okC S) (hR : RC S (iI S.1) cells) (hm : m < S.1) (hv : v < 2) (he : e < S.2.2.1 m v) : f_X4_codeAfter N (iI S.1) cells (iI m) (iI v) (iI e) = some (iI (pk0 (if nxM S m v e < S.1 ∧ nxE S m v e < S.2.2.1 (nxM S m v e) v then some (S.2.2.2 (nxM S m v e) v (nxE S m v e)) else none))) := by
  have h1 := h.1
  have hC := okC_C h hm hv
  unfold f_X4_codeAfter
  rw [z_be (X4_count h hR (zIn_ m (by omega)) (zIn_ v (by omega))), gC_at hm hv, iIp1, iIp1]
  rcases nx_in he with ⟨p, p1, p2⟩ | ⟨p, p1, p2⟩
  · rw [p1, p2, if_pos (by rw [iI_lt (by omega) (by omega) (by omega) (by omega)]; omega), if_pos ⟨hm, p⟩]
    have := X4_code (N := N) h hR (zIn_ m (by omega)) (zIn_ v (by omega)) (zIn_ (e + 1) (by omega))
    rw [gE_at hm hv p] at this
    exact z_be this
  · rw [p1, p2, if_neg (by rw [iI_lt (by omega) (by omega) (by omega) (by omega)]; omega)]
    have := X4_code (N := N) (e := ((0 : Nat) : Int)) h hR (zIn_ (m + 1) (by omega)) (zIn_ v (by omega)) (zIn_ 0 (by omega))
    by_cases q : m + 1 < S.1 ∧ 0 < S.2.2.1 (m + 1) v
    · rw [if_pos q]
      rw [gE_at q.1 hv q.2] at this
      exact z_be this
    · rw [if_neg q]
      rw [show gE S ((m + 1 : Nat) : Int) v ((0 : Nat) : Int) = none by unfold gE; rw [if_neg]; simp only [Int.toNat_natCast]; omega] at this
      exact z_be this
theorem X4_isHeldTie (h : okC S) (hR : RC S (iI S.1) cells) (hm : m < S.1) (hv : v < 2) (he : e < S.2.2.1 m v) : f_X4_isHeldTie N (iI S.1) cells (iI m) (iI v) (iI e) = some (iI (if htP S m v e then 1 else 0)) := by
  have h1 := h.1
  have hC := okC_C h hm hv
  have hx := okC_ev h hm hv he
  have hxb := oB (oOk_some hx)
  have e1 := X4_code (N := N) h hR (zIn_ m (by omega)) (zIn_ v (by omega)) (zIn_ e (by omega))
  rw [gE_at hm hv he] at e1
  have et : oT (some (S.2.2.2 m v e)) = (S.2.2.2 m v e).2.2.2 := rfl
  unfold f_X4_isHeldTie
  rw [z_be e1, z_be (X0_isTied _ (oOk_some hx)), et]
  rw [et] at hxb
  by_cases q : (S.2.2.2 m v e).2.2.2 = 0
  · rw [if_pos (by rw [q]; rfl), if_neg (fun x => by have := x.1; omega)]; rfl
  · rw [if_neg (by rw [iL0, iI_eq (by omega) (by omega) (by omega) (by omega)]; exact q), z_be (X4_codeAfter h hR hm hv he)]
    by_cases q2 : nxM S m v e < S.1 ∧ nxE S m v e < S.2.2.1 (nxM S m v e) v
    · have hy := okC_ev h q2.1 hv q2.2
      rw [if_pos q2]
      have hs := X0_samePitch (N := N) _ _ (oOk_some hx) (oOk_some hy)
      by_cases q3 : (S.2.2.2 (nxM S m v e) v (nxE S m v e)).1 = (S.2.2.2 m v e).1
      · rw [z_be (z_p1 ?_ hs), if_neg ne10, if_pos ⟨by omega, q2.1, q2.2, q3⟩]
        · rfl
        · rw [smP hy hx]
          unfold okE at hx
          omega
      · rw [z_be (z_p0 ?_ hs), if_pos z00, if_neg (fun x => q3 x.2.2.2)]
        · rfl
        · rw [smP hy hx]
          exact fun x => q3 x.2.symm
    · rw [if_neg q2, z_be (z_p0 ?_ (X0_samePitch _ none (oOk_some hx) (fun x hx => by cases hx))), if_pos z00, if_neg (fun x => q2 ⟨x.2.1, x.2.2.1⟩)]
      · rfl
      · intro x
        have := x.2.1
        simp [oN] at this
end ZMA
