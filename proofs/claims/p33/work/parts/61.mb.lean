section ZMB
variable {N : Nat} {S : zSt} {st cells shifts held : Nat → Int32} {size code : Int32} {m v e k : Nat}
theorem X6_heldE : f_X6_held = f_X6_shift := rfl
/-- the table of held lengths holds those of Q -/
def FH (S : zSt) (held : Nat → Int32) (Q : Nat → Nat → Nat → Prop) : Prop := ∀ m v e, m < S.1 → v < 2 → e < S.2.2.1 m v → Q m v e → held (slE m v e) = iI (hdS S v m e)
theorem FH_upd (h : okC S) (hm : m < S.1) (hv : v < 2) (he : e < S.2.2.1 m v) {Q Q2 : Nat → Nat → Nat → Prop} (hF : FH S held Q) (hq : ∀ m' v' e', m' < S.1 → v' < 2 → e' < S.2.2.1 m' v' → Q2 m' v' e' → (m' = m ∧ v' = v ∧ e' = e) ∨ Q m' v' e') : FH S (upd held (slE m v e) (iI (hdS S v m e))) Q2 := by
  intro m' v' e' hm' hv' he' hp
  rw [upd_at]
  split
  · next q =>
    obtain ⟨rfl, rfl, rfl⟩ := slE_inj h hm hv he hm' hv' he' q
    rfl
  · next q =>
    rcases hq m' v' e' hm' hv' he' hp with ⟨rfl, rfl, rfl⟩ | hq
    · exact absurd rfl q
    · exact hF m' v' e' hm' hv' he' hq
theorem X6_findHeldTicks (h : okC S) (hR : RC S (iI S.1) cells) (hN : 30 ≤ N) : zT (f_X6_findHeldTicks N held (iI S.1) cells) (fun t => FH S t (fun _ _ _ => True)) := by
  have h1 := h.1
  unfold f_X6_findHeldTicks
  refine zT_bindE (show f_X4_size N (iI S.1) = some (iI S.1) from rfl) (zT_bindE rfl ?_)
  rw [iIs1]
  refine zT_bind (zT_mono (zT_loop (fun n s => n ≤ S.1 ∧ s.1 = iI ((n : Int) - 1) ∧ FH S s.2 (fun m _ _ => n ≤ m)) ?_ N S.1 (_, held) (by omega) ⟨Nat.le_refl _, rfl, fun m v e q _ _ q2 => by omega⟩) (fun a q => zT_some q))
  rintro n ⟨s1, hd1⟩ c ⟨hn, hs, hF⟩ ih
  dsimp only at hs hF
  subst hs
  unfold f_X6_findHeldTicks_B10
  dsimp only
  refine zT_ite (fun q => ?_) (fun q => ?_)
  · rw [iL0, iI_lt (by omega) (by omega) (by omega) (by omega)] at q
    exact zT_some (fun m v e hm hv he _ => hF m v e hm hv he (by omega))
  · rw [iL0, iI_lt (by omega) (by omega) (by omega) (by omega)] at q
    obtain ⟨m, rfl⟩ : ∃ i, n = i + 1 := ⟨n - 1, by omega⟩
    rw [show ((m + 1 : Nat) : Int) - 1 = (m : Int) by omega]
    have hm : m < S.1 := by omega
    refine zT_bind (zT_mono (zT_loop (P := fun t => FH S t (fun m' _ _ => m ≤ m')) (fun n s => ∃ v : Nat, v ≤ 2 ∧ n = 2 - v ∧ s.1 = iI v ∧ FH S s.2 (fun m' v' _ => m + 1 ≤ m' ∨ m' = m ∧ v' < v)) ?_ N 2 (0, hd1) (by omega) ⟨0, by omega, rfl, rfl, fun m' v' e' a1 a2 a3 a4 => hF m' v' e' a1 a2 a3 (by omega)⟩) (fun a q => zT_bindE rfl (ih m _ (by omega) ⟨by omega, iIm1 _, q⟩)))
    clear ih hF
    rintro n ⟨s1, hd2⟩ c2 ⟨v, hv, rfl, hs, hF⟩ ih
    dsimp only at hs hF
    subst hs
    unfold f_X6_findHeldTicks_B16
    dsimp only
    refine zT_ite (fun q => ?_) (fun q => ?_)
    · rw [iL2, iI_lt (by omega) (by omega) (by omega) (by omega)] at q
      have hv : v < 2 := by omega
      have hC := okC_C h hm hv
      rw [iIp1, X6_heldE]
      refine zT_bindE (X6_shift (c := 0) (by unfold zInt; omega) (zIn_ v (by omega)) (by unfold zInt; omega)) (zT_bindE (X4_count h hR (zIn_ m (by omega)) (zIn_ v (by omega))) (zT_bindE rfl ?_))
      rw [gC_at hm hv, iIs1]
      refine zT_bind (zT_mono (zT_loop (P := fun t => FH S t (fun m' v' _ => m + 1 ≤ m' ∨ m' = m ∧ v' < v + 1)) (fun n s => n ≤ S.2.2.1 m v ∧ (∀ e, e + 1 = n → htP S m v e → s.1 = iI (hdS S v (nxM S m v e) (nxE S m v e))) ∧ s.2.1 = iI ((n : Int) - 1) ∧ FH S s.2.2 (fun m' v' e' => m + 1 ≤ m' ∨ m' = m ∧ (v' < v ∨ v' = v ∧ n ≤ e'))) ?_ N (S.2.2.1 m v) (_, _, hd2) (by omega) ⟨Nat.le_refl _, ?_, rfl, ?_⟩) (fun a q => zT_bindE rfl (ih (2 - (v + 1)) _ (by omega) ⟨v + 1, by omega, rfl, iIp1 _, q⟩)))
      · clear ih hF
        rintro n ⟨s1, s2, hd3⟩ c3 ⟨hn, ht, hs2, hF⟩ ih
        dsimp only at ht hs2 hF
        subst hs2
        unfold f_X6_findHeldTicks_B44
        dsimp only
        refine zT_ite (fun q => ?_) (fun q => ?_)
        · rw [iL0, iI_lt (by omega) (by omega) (by omega) (by omega)] at q
          exact zT_some (fun m' v' e' a1 a2 a3 a4 => hF m' v' e' a1 a2 a3 (by omega))
        · rw [iL0, iI_lt (by omega) (by omega) (by omega) (by omega)] at q
          obtain ⟨e, rfl⟩ : ∃ i, n = i + 1 := ⟨n - 1, by omega⟩
          rw [show ((e + 1 : Nat) : Int) - 1 = (e : Int) by omega]
          have he : e < S.2.2.1 m v := by omega
          have e1 := X4_code (N := N) h hR (zIn_ m (by omega)) (zIn_ v (by omega)) (zIn_ e (by omega))
          rw [gE_at hm hv he] at e1
          have hx := okC_ev h hm hv he
          refine zT_bindE e1 (zT_bindE (X0_ticksOf _ (oOk_some hx)) (zT_bindE (X4_isHeldTie h hR hm hv he) ?_))
          have e2 : (if iI (if htP S m v e then 1 else 0) = 0 then some (iI (tk (oD (some (S.2.2.2 m v e))))) else some (iI (tk (oD (some (S.2.2.2 m v e)))) + s1)) = some (iI (hdS S v m e)) := by
            by_cases q2 : htP S m v e
            · rw [if_pos q2, if_neg (show ¬ iI 1 = 0 by decide), ht e rfl q2, iI_add, hdS_on h hm hv he q2]
              rfl
            · rw [if_neg q2, if_pos (show iI 0 = 0 from rfl), hdS_off q2]
              rfl
          refine zT_bindE e2 (zT_bindE (X6_slot (zIn_ m (by omega)) (zIn_ v (by omega)) (zIn_ e (by omega))) ?_)
          rw [if_pos (by omega), show ((m : Int) * 2 + v) * 24 + e = ((slE m v e : Nat) : Int) by unfold slE; omega]
          refine zT_bindE (X6_put768 (by unfold slE; omega)) (zT_bindE rfl (ih e _ (by omega) ⟨by omega, ?_, iIm1 _, ?_⟩))
          · intro e' q2 q3
            obtain rfl : e = e' + 1 := by omega
            rcases nx_in (show e' < S.2.2.1 m v by omega) with ⟨p, p1, p2⟩ | ⟨p, p1, p2⟩
            · rw [p1, p2]
            · omega
          · exact FH_upd h hm hv he hF (fun m' v' e' a1 a2 a3 a4 => by omega)
      · intro e q1 q2
        have hin := hoP_in q2.2 (by omega)
        rcases nx_in (show e < S.2.2.1 m v by omega) with ⟨p, p1, p2⟩ | ⟨p, p1, p2⟩
        · omega
        · rw [p1, p2] at hin ⊢
          dsimp only
          rw [if_pos (by omega), ← hF (m + 1) v 0 hin.1 hv hin.2 (by omega)]
          congr 1
          unfold slE
          omega
      · exact fun m' v' e' a1 a2 a3 a4 => hF m' v' e' a1 a2 a3 (by
          rcases a4 with a4 | ⟨a4, a5 | ⟨a5, a6⟩⟩
          · omega
          · omega
          · subst a4; subst a5; omega)
    · rw [iL2, iI_lt (by omega) (by omega) (by omega) (by omega)] at q
      exact zT_some (fun m' v' e' a1 a2 a3 a4 => hF m' v' e' a1 a2 a3 (by omega))
/-! held lengths are small -/
theorem hdS_b (h : okC S) (hv : v < 2) : ∀ (n m e : Nat), n = 400 - 24 * m - e → m < S.1 → e < S.2.2.1 m v → 4 ≤ hdS S v m e ∧ hdS S v m e ≤ 96 * n := by
  intro n
  induction n using Nat.strongRecOn with
  | _ n ih =>
    intro m e hn hm he
    have h1 := h.1
    have hC := okC_C h hm hv
    have hx := okE_b (okC_ev h hm hv he)
    have ht := tk_pos hx.2.2.1.1 hx.2.2.1.2
    by_cases q : htP S m v e
    · have hin := hoP_in q.2 he
      rw [hdS_on h hm hv he q]
      have hl : 400 - 24 * nxM S m v e - nxE S m v e < n := by
        rcases nx_in he with ⟨p, p1, p2⟩ | ⟨p, p1, p2⟩
        · rw [p1, p2]; omega
        · rw [p1, p2]; omega
      have := ih _ hl (nxM S m v e) (nxE S m v e) rfl hin.1 hin.2
      omega
    · rw [hdS_off q]
      omega
theorem hdS_bb (h : okC S) (hm : m < S.1) (hv : v < 2) (he : e < S.2.2.1 m v) : 4 ≤ hdS S v m e ∧ hdS S v m e ≤ 38400 := by
  have := hdS_b h hv _ m e rfl hm he
  omega
theorem X6_isBrokenTie (h : okC S) (hR : RC S (iI S.1) cells) (hm : m < S.1) (hv : v < 2) (he : e < S.2.2.1 m v) (hF : FH S held (fun _ _ _ => True)) : f_X6_isBrokenTie N held (iI S.1) cells (iI m) (iI v) (iI e) = some (iI (if (S.2.2.2 m v e).2.2.2 = 1 ∧ ¬ hoP S m v e then 1 else 0)) := by
  have h1 := h.1
  have hC := okC_C h hm hv
  have hx := okC_ev h hm hv he
  have hxb := okE_b hx
  have ht := tk_pos hxb.2.2.1.1 hxb.2.2.1.2
  have e1 := X4_code (N := N) h hR (zIn_ m (by omega)) (zIn_ v (by omega)) (zIn_ e (by omega))
  rw [gE_at hm hv he] at e1
  have hb := hdS_bb h hm hv he
  unfold f_X6_isBrokenTie
  rw [z_be e1, z_be (X0_isTied _ (oOk_some hx)), show oT (some (S.2.2.2 m v e)) = (S.2.2.2 m v e).2.2.2 from rfl]
  by_cases q : (S.2.2.2 m v e).2.2.2 = 0
  · rw [if_pos (by rw [q]; rfl), if_neg (fun x => by have := x.1; omega)]; rfl
  · rw [if_neg (by rw [iL0, iI_eq (by omega) (by omega) (by omega) (by omega)]; exact q), X6_heldE, z_be (X6_shift_at h hm hv he), hF m v e hm hv he trivial, z_be (X0_ticksOf _ (oOk_some hx)), show oD (some (S.2.2.2 m v e)) = (S.2.2.2 m v e).2.2.1 from rfl]
    by_cases q2 : hoP S m v e
    · have hin := hoP_in q2 he
      have hb2 := hdS_bb h hin.1 hv hin.2
      rw [if_neg (show ¬ ((S.2.2.2 m v e).2.2.2 = 1 ∧ ¬ hoP S m v e) from fun x => x.2 q2)]
      have eo := hdS_on h hm hv he ⟨by omega, q2⟩
      rw [if_neg (by rw [iI_eq (by omega) (by omega) (by omega) (by omega)]; omega)]
      rfl
    · rw [hdS_off (fun x => q2 x.2), if_pos rfl, if_pos ⟨by omega, q2⟩]
      rfl
/-! what a note sounds -/
def soS (S : zSt) (m v e : Nat) : Int := 12 * ((S.2.2.2 m v e).1 / 7) + (if (S.2.2.2 m v e).1 % 7 < 3 then 2 * ((S.2.2.2 m v e).1 % 7) else 2 * ((S.2.2.2 m v e).1 % 7) - 1) + shS S m v e
theorem tab0 : ∀ s : Nat, s < 7 → zTab 0 s = Int32.ofInt (if (s : Int) < 3 then 2 * (s : Int) else 2 * (s : Int) - 1) := by decide +kernel
theorem X6_sounding (h : okC S) (hR : RC S (iI S.1) cells) (hm : m < S.1) (hv : v < 2) (he : e < S.2.2.1 m v) (hp : 0 ≤ (S.2.2.2 m v e).1) (hF : FSp S shifts 768) : f_X6_sounding N (iI S.1) shifts cells (iI m) (iI v) (iI e) = some (iI (soS S m v e)) := by
  have h1 := h.1
  have hC := okC_C h hm hv
  have hx := okC_ev h hm hv he
  have hxb := okE_b hx
  have e1 := X4_code (N := N) h hR (zIn_ m (by omega)) (zIn_ v (by omega)) (zIn_ e (by omega))
  rw [gE_at hm hv he] at e1
  have ep : oP (some (S.2.2.2 m v e)) = (S.2.2.2 m v e).1 := by unfold oP; dsimp only; rw [if_neg (by omega)]
  have es := X0_stepOf (N := N) _ (oOk_some hx)
  have eo := X0_octaveOf (N := N) _ (oOk_some hx)
  rw [ep] at es eo
  unfold f_X6_sounding soS
  rw [z_be e1, z_be es]
  obtain ⟨p, hpp⟩ := Int.eq_ofNat_of_zero_le hp
  rw [hpp] at eo hxb ⊢
  have e3 : (if iI ((p : Int) % 7) < 0 then some 0 else if iI ((p : Int) % 7) < 7 then Option.bind (zAld (zTab 0) 7 (iI ((p : Int) % 7))) (fun (x6_ : Int32) => some x6_) else some 0) = some (iI (if (p : Int) % 7 < 3 then 2 * ((p : Int) % 7) else 2 * ((p : Int) % 7) - 1)) := by
    rw [if_neg (by rw [iL0, iI_lt (by omega) (by omega) (by omega) (by omega)]; omega), if_pos (by rw [iL7, iI_lt (by omega) (by omega) (by omega) (by omega)]; omega), zAldI (by omega) (by omega) (by omega), z_sb]
    have := tab0 (p % 7) (by omega)
    rw [show ((p : Int) % 7).toNat = p % 7 by omega, this]
    rfl
  rw [z_be e3, z_be eo, z_be (X6_shift_at h hm hv he), hF m v e hm hv he (by unfold slE; omega), iL12, iI_mul, iI_add, iI_add]
end ZMB
