/-! ===== another key ===== -/
def setV (S : zSt) (m k : Nat) (x : Int) : zSt := (S.1, fun m' k' => if m' = m ∧ k' = k then x else S.2.1 m' k', S.2.2)
def chE (S : zSt) (key : Int) (m v e : Nat) : Int := if 0 ≤ (S.2.2.2 m v e).1 ∧ ¬ shK S key m v e = shS S m v e then 1 else 0
def chV (S : zSt) (key : Int) (m v : Nat) : Nat → Int
  | 0 => 0
  | e + 1 => chV S key m v e + chE S key m v e
def chW (S : zSt) (key : Int) (m : Nat) : Nat → Int
  | 0 => 0
  | v + 1 => chW S key m v + chV S key m v (S.2.2.1 m v)
section ZMF
variable {N : Nat} {S : zSt} {st cells shifts held : Nat → Int32} {size code : Int32} {m v e k i j : Nat}
theorem setV_same (x : Int) : (setV S m k x).2.1 m k = x := if_pos ⟨rfl, rfl⟩
theorem setV_ne {m' k' : Nat} (x : Int) (h : ¬ (m' = m ∧ k' = k)) : (setV S m k x).2.1 m' k' = S.2.1 m' k' := if_neg h
theorem bmS_setV (m' k' : Nat) (x key p : Int) (e : Nat) : bmS (setV S m' k' x) key m v p e = bmS S key m v p e := by
  induction e with
  | zero => rfl
  | succ e ih => rw [bmS, bmS, ih]; rfl
theorem shW_setV (m' k' : Nat) (x key t : Int) (e : Nat) : shW (setV S m' k' x) key m v t e = shW S key m v t e := by
  unfold shW
  rw [bmS_setV]
  rfl
theorem shL_setV (m' k' : Nat) (x key t : Int) (e : Nat) : shL (setV S m' k' x) key m v t e = shL S key m v t e := by
  induction e with
  | zero => exact shW_setV _ _ _ _ _ _
  | succ e ih => rw [shL, shL, ih, shW_setV]
theorem shB_setV (x : Int) (m' : Nat) (hm : m' ≤ m) : shB (setV S m 0 x) v m' = shB S v m' := by
  induction m' with
  | zero => rfl
  | succ m' ih =>
    rw [shB, shB, shL_setV, ih (by omega), setV_ne x (show ¬ (m' = m ∧ 0 = 0) by omega)]
    rfl
theorem shS_setV (key : Int) : shS (setV S m 0 key) m v e = shK S key m v e := by
  unfold shS shK
  rw [shL_setV, setV_same, shB_setV key m (Nat.le_refl _)]
theorem okS_setV (h : okS S) (hm : m < S.1) {key : Int} (hk : -7 ≤ key ∧ key ≤ 7) : okS (setV S m 0 key) := by
  refine ⟨⟨h.1.1, fun m' hm' => ⟨fun k' hk' => ?_, (h.1.2 m' hm').2⟩⟩, fun m' hm' => ?_⟩
  · by_cases q : m' = m ∧ k' = 0
    · obtain ⟨rfl, rfl⟩ := q
      rw [setV_same]
      omega
    · rw [setV_ne _ q]
      exact (h.1.2 m' hm').1 k' hk'
  · have hV := h.2 m' hm'
    unfold okV at hV ⊢
    by_cases q : m' = m
    · subst q
      rw [setV_same, setV_ne key (show ¬ (m' = m' ∧ 1 = 0) by omega), setV_ne key (show ¬ (m' = m' ∧ 2 = 0) by omega), setV_ne key (show ¬ (m' = m' ∧ 3 = 0) by omega), setV_ne key (show ¬ (m' = m' ∧ 4 = 0) by omega), setV_ne key (show ¬ (m' = m' ∧ 5 = 0) by omega), setV_ne key (show ¬ (m' = m' ∧ 6 = 0) by omega)]
      exact ⟨hk, hV.2⟩
    · have hne : ∀ k', (setV S m 0 key).2.1 m' k' = S.2.1 m' k' := fun k' => setV_ne key (fun x => q x.1)
      simp only [hne]
      exact hV
theorem RM_setV (h : okC S) (hR : RM S st) (hm : m < S.1) (hk : k < 7) (x : Int) : RM (setV S m k x) (upd st (201 * m + 1 + k) (iI x)) := by
  refine ⟨?_, fun m' hm' => ⟨fun k' hk' => ?_, fun v' hv' => ⟨?_, fun e' he' => ?_⟩⟩⟩
  · rw [upd_ne _ _ (by omega)]; exact hR.1
  · by_cases q : m' = m ∧ k' = k
    · obtain ⟨rfl, rfl⟩ := q
      rw [upd_eq _ _ rfl, setV_same]
    · rw [upd_ne _ _ (by omega), setV_ne _ q]
      exact (hR.2 m' hm').1 k' hk'
  · rw [upd_ne _ _ (by omega)]
    exact ((hR.2 m' hm').2 v' hv').1
  · have hm2 : m' < S.1 := hm'
    have he2 : e' < S.2.2.1 m' v' := he'
    have hC : e' < 24 := Nat.lt_of_lt_of_le he2 (okC_C h hm2 hv')
    have := ((hR.2 m' hm').2 v' hv').2 e' he'
    have key : ∀ a, 10 ≤ a → a ≤ 201 → 201 * m' + a ≠ 201 * m + 1 + k := by intro a; omega
    have k0 := key (10 + 96 * v' + 4 * e') (by omega) (by omega)
    have k1 := key (10 + 96 * v' + 4 * e' + 1) (by omega) (by omega)
    have k2 := key (10 + 96 * v' + 4 * e' + 2) (by omega) (by omega)
    have k3 := key (10 + 96 * v' + 4 * e' + 3) (by omega) (by omega)
    rw [upd_ne _ _ (by omega), upd_ne _ _ (by omega), upd_ne _ _ (by omega), upd_ne _ _ (by omega)]
    exact this
theorem RM_back {x : Int} (hR : RM (setV (setV S m k x) m k (S.2.1 m k)) st) : RM S st := by
  refine ⟨hR.1, fun m' hm' => ⟨fun k' hk' => ?_, (hR.2 m' hm').2⟩⟩
  rw [(hR.2 m' hm').1 k' hk']
  by_cases q : m' = m ∧ k' = k
  · obtain ⟨rfl, rfl⟩ := q
    rw [setV_same]
  · rw [setV_ne _ q, setV_ne _ q]
theorem baseI (m : Nat) (k : Nat) : (1 + 201 * iI m) + iI k = iI ((201 * m + 1 + k : Nat) : Int) := by
  rw [iL201, iL1, iI_mul, iI_add, iI_add]
  congr 1
  omega
theorem chE_b (key : Int) : 0 ≤ chE S key m v e ∧ chE S key m v e ≤ 1 := by
  unfold chE
  split <;> omega
theorem chV_b (key : Int) (n : Nat) : 0 ≤ chV S key m v n ∧ chV S key m v n ≤ n := by
  induction n with
  | zero => exact ⟨Int.le_refl _, Int.le_refl _⟩
  | succ n ih =>
    have := chE_b (S := S) (m := m) (v := v) (e := n) key
    unfold chV
    omega
theorem chW_b (h : okC S) (hm : m < S.1) (key : Int) : 0 ≤ chW S key m 2 ∧ chW S key m 2 ≤ 48 := by
  have c0 := okC_C h hm (show 0 < 2 by omega)
  have c1 := okC_C h hm (show 1 < 2 by omega)
  have b0 := chV_b (S := S) (m := m) (v := 0) key (S.2.2.1 m 0)
  have b1 := chV_b (S := S) (m := m) (v := 1) key (S.2.2.1 m 1)
  have e : chW S key m 2 = 0 + chV S key m 0 (S.2.2.1 m 0) + chV S key m 1 (S.2.2.1 m 1) := rfl
  omega
theorem X10_others (h : okS S) (hR : RM S st) (hm : m < S.1) {key : Int} (hk : -7 ≤ key ∧ key ≤ 7) (hN : 2000 ≤ N) : zT (f_X10_others N st (iI m) (iI key)) (fun r => r.1 = iI (chW S key m 2) ∧ RM S r.2) := by
  have h1 := h.1.1
  have h' := okS_setV h hm hk
  unfold f_X10_others
  refine zT_bindE (X10_of_V (k := 0) h.1 hR hm (by omega) (a := 0) rfl) (zT_bind (zT_mono (zT_loop (fun n s => ∃ v : Nat, v ≤ 2 ∧ n = 2 - v ∧ s.1 = iI (chW S key m v) ∧ s.2.1 = iI v ∧ RM S s.2.2) ?_ N 2 (0, 0, st) (by omega) ⟨0, by omega, rfl, rfl, rfl, hR⟩) (fun a q => zT_some q)))
  clear hR
  rintro n ⟨s1, s2, st1⟩ c ⟨v, hv, rfl, q1, q2, hR1⟩ ih
  dsimp only at q1 q2 hR1
  subst q1; subst q2
  unfold f_X10_others_B13
  dsimp only
  refine zT_ite (fun q => ?_) (fun q => ?_)
  · rw [iL2, iI_lt (by omega) (by omega) (by omega) (by omega)] at q
    have hv : v < 2 := by omega
    have hC := okC_C h.1 hm hv
    refine zT_bind (zT_mono (zT_loop (P := fun r => r.1 = iI (chW S key m (v + 1)) ∧ RM S r.2) (fun n s => ∃ e : Nat, e ≤ S.2.2.1 m v ∧ n = S.2.2.1 m v - e ∧ s.1 = iI (chW S key m v + chV S key m v e) ∧ s.2.1 = iI e ∧ RM S s.2.2) ?_ N (S.2.2.1 m v) (_, 0, st1) (by omega) ⟨0, by omega, rfl, by rw [chV, Int.add_zero], rfl, hR1⟩) (fun r q => zT_bindE rfl (ih (2 - (v + 1)) _ (by omega) ⟨v + 1, by omega, rfl, q.1, iIp1 _, q.2⟩)))
    clear ih
    rintro n ⟨s1, s2, st2⟩ c2 ⟨e, he, rfl, q1, q2, hR2⟩ ih
    dsimp only at q1 q2 hR2
    subst q1; subst q2
    unfold f_X10_others_B22
    dsimp only
    rw [iL7, iI_add]
    refine zT_bindE (X10_of_C h.1 hR2 hm hv rfl) (zT_ite (fun q => ?_) (fun q => ?_))
    · rw [iI_lt (by omega) (by omega) (by omega) (by omega)] at q
      have he : e < S.2.2.1 m v := by omega
      refine zT_bindE (X10_isNote h.1 hR2 hm hv he) (zT_bind (zT_mono (P := fun r => r.1 = iI (chW S key m v + chV S key m v (e + 1)) ∧ RM S r.2) ?_ (fun r q => zT_bindE rfl (ih (S.2.2.1 m v - (e + 1)) _ (by omega) ⟨e + 1, by omega, rfl, q.1, iIp1 _, q.2⟩))))
      rw [chV, ← Int.add_assoc]
      by_cases q1 : (S.2.2.2 m v e).1 < 0
      · rw [if_pos q1]
        refine zT_ite (fun _ => zT_some ⟨?_, hR2⟩) (fun q2 => absurd rfl q2)
        unfold chE
        rw [if_neg (by omega), Int.add_zero]
      · rw [if_neg q1]
        refine zT_ite (fun q2 => absurd q2 ne10) (fun _ => ?_)
        have hx := okE_b (okC_ev h.1 hm hv he)
        have sb := shS_b (S := S) m v e
        have sk : -1 ≤ shK S key m v e ∧ shK S key m v e ≤ 1 := shL_b (shB_b m) e
        refine zT_bindE (X10_shift h hR2 hm hv he (by omega) hN) (zT_bindE (show f_X10_base N (iI m) = some (1 + 201 * iI m) from rfl) ?_)
        rw [iL0, show iI 0 = iI ((0 : Nat) : Int) from rfl, baseI, zAstI (by omega) (by omega) (by omega), Int.toNat_natCast]
        refine zT_bindE rfl ?_
        have hR3 := RM_setV h.1 hR2 hm (show 0 < 7 by omega) key
        refine zT_bindE (X10_shift (S := setV S m 0 key) h' hR3 hm hv he (by show 0 ≤ (S.2.2.2 m v e).1; omega) hN) ?_
        rw [shS_setV]
        have hR4 := RM_back (RM_setV h'.1 hR3 hm (show 0 < 7 by omega) (S.2.1 m 0))
        have e5 : (if iI (shK S key m v e) = iI (shS S m v e) then some (iI ((0 : Nat) : Int)) else some 1) = some (iI (chE S key m v e)) := by
          unfold chE
          by_cases q3 : shK S key m v e = shS S m v e
          · rw [if_pos (by rw [q3]), if_neg (fun x => x.2 q3)]; rfl
          · rw [if_neg (by rw [iI_eq (by omega) (by omega) (by omega) (by omega)]; exact q3), if_pos ⟨by omega, q3⟩]; rfl
        refine zT_bindE e5 (zT_bindE rfl (zT_bindE (show f_X10_base N (iI m) = some (1 + 201 * iI m) from rfl) ?_))
        rw [baseI, zAstI (by omega) (by omega) (by omega), Int.toNat_natCast]
        exact zT_bindE rfl (zT_some ⟨by rw [iI_add], hR4⟩)
    · rw [iI_lt (by omega) (by omega) (by omega) (by omega)] at q
      rw [show e = S.2.2.1 m v by omega]
      exact zT_some ⟨rfl, hR2⟩
  · rw [iL2, iI_lt (by omega) (by omega) (by omega) (by omega)] at q
    rw [show v = 2 by omega]
    exact zT_some ⟨rfl, hR1⟩
end ZMF
