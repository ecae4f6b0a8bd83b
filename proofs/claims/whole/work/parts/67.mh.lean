section ZMH
variable {N : Nat} {S : zSt} {st cells shifts held : Nat → Int32} {size code : Int32} {m v e k i j : Nat}
theorem M_nearestKey (h : okS S) (hR : RM S st) {a : Int} (ha : zInt a) (hN : 2000 ≤ N) : zT (f_X10_nearestKey N code st (iI a)) (fun r => RM S r.2.2 ∧ if 0 ≤ a ∧ a < S.1 then r.1 = iI (nkS S a.toNat 15).1 ∧ r.2.1 = 0 else r.2.1 = 1) := by
  have h1 := h.1.1
  unfold f_X10_nearestKey
  by_cases q : 0 ≤ a ∧ a < S.1
  · rw [z_be (z_p1 q (X10_isMeasure h.1 hR ha)), if_neg ne10, z_sb, z_be (X10_ref0 code), if_pos (f00 0)]
    obtain ⟨m, rfl⟩ := Int.eq_ofNat_of_zero_le q.1
    have hm : m < S.1 := by omega
    have hk := okS_key h hm
    refine zT_bind (zT_mono (zT_loop (P := fun r => r.1 = iI (nkS S m 15).1 ∧ RM S r.2) (fun n s => ∃ j : Nat, j ≤ 15 ∧ n = 15 - j ∧ s.1 = iI (nkS S m j).1 ∧ (¬ (nkS S m j).1 = -1000 → s.2.1 = iI (nkS S m j).2) ∧ s.2.2.1 = iI ((j : Int) - 7) ∧ RM S s.2.2.2) ?_ N 15 _ (by omega) ⟨0, by omega, rfl, rfl, fun x => absurd rfl x, rfl, hR⟩) (fun r hr => zT_some ⟨hr.2, by rw [if_pos q]; exact ⟨hr.1, rfl⟩⟩))
    clear hR
    rintro n ⟨s1, s2, s3, st1⟩ c ⟨j, hj, rfl, q1, q2, q3, hR1⟩ ih
    dsimp only at q1 q2 q3 hR1
    subst q1; subst q3
    unfold f_X10_nearestKey_B32
    dsimp only
    refine zT_ite (fun q => ?_) (fun q => ?_)
    · rw [iL7, iI_lt (by omega) (by omega) (by omega) (by omega)] at q
      rw [show j = 15 by omega]
      exact zT_some ⟨rfl, hR1⟩
    · rw [iL7, iI_lt (by omega) (by omega) (by omega) (by omega)] at q
      have hb := nkS_b h.1 hm j hj
      have hw := chW_b h.1 hm ((j : Int) - 7)
      refine zT_bindE (X10_of_V (k := 0) h.1 hR1 hm (by omega) (a := 0) rfl) ?_
      by_cases qk : (j : Int) - 7 = S.2.1 m 0
      · refine zT_bindE (a := (72, st1)) (by rw [if_pos (by rw [qk])]) (zT_bindE (X10_of_V (k := 0) h.1 hR1 hm (by omega) (a := 0) rfl) (zT_bindE (a := 0) (by rw [if_pos (by rw [qk])]) (zT_bindE (if_pos z00) (zT_bindE (if_pos z00) (zT_bindE rfl (ih (15 - (j + 1)) _ (by omega) ⟨j + 1, by omega, rfl, ?_, ?_, ?_, hR1⟩))))))
        · rw [nkS, if_pos qk]
        · rw [nkS, if_pos qk]; exact q2
        · rw [iIp1, show (j : Int) - 7 + 1 = ((j + 1 : Nat) : Int) - 7 by omega]
      · have hne : ¬ iI ((j : Int) - 7) = iI (S.2.1 m 0) := by rw [iI_eq (by omega) (by omega) (by omega) (by omega)]; exact qk
        refine zT_bind (zT_mono (P := fun r => r.1 = iI (chW S ((j : Int) - 7) m 2) ∧ RM S r.2) (zT_ite (fun q => absurd q hne) (fun _ => zT_bind (zT_mono (X10_others h hR1 hm (by omega) hN) (fun r hr => zT_some hr)))) ?_)
        rintro ⟨r1, st2⟩ ⟨hr1, hR2⟩
        dsimp only at hr1 hR2
        subst hr1
        refine zT_bindE (X10_of_V (k := 0) h.1 hR2 hm (by omega) (a := 0) rfl) ?_
        rw [if_neg hne]
        dsimp only
        by_cases qb : (nkS S m j).1 = -1000
        · have hlt : chW S ((j : Int) - 7) m 2 < (nkS S m j).2 := by omega
          refine zT_bindE (a := 1) (by rw [if_pos (by rw [qb]; rfl)]) (zT_bindE (if_neg ne10) (zT_bindE (if_neg ne10) (zT_bindE rfl (ih (15 - (j + 1)) _ (by omega) ⟨j + 1, by omega, rfl, ?_, ?_, ?_, hR2⟩))))
          · rw [nkS, if_neg qk, if_pos hlt]
          · rw [nkS, if_neg qk, if_pos hlt]; exact fun _ => rfl
          · rw [iIp1, show (j : Int) - 7 + 1 = ((j + 1 : Nat) : Int) - 7 by omega]
        · have hnb : ¬ iI (nkS S m j).1 = -1 * 1000 := by
            rw [show (-1 * 1000 : Int32) = iI (-1000) from rfl, iI_eq (by omega) (by omega) (by omega) (by omega)]
            exact qb
          have hnb2 : ¬ iI (nkS S m j).1 = -1000 := hnb
          have q2 := q2 qb
          subst q2
          rw [if_neg hnb2]
          by_cases hlt : chW S ((j : Int) - 7) m 2 < (nkS S m j).2
          · refine zT_bindE (a := 1) (by rw [if_pos (by rw [iI_lt (by omega) (by omega) (by omega) (by omega)]; exact hlt)]) (zT_bindE (if_neg ne10) (zT_bindE (if_neg ne10) (zT_bindE rfl (ih (15 - (j + 1)) _ (by omega) ⟨j + 1, by omega, rfl, ?_, ?_, ?_, hR2⟩))))
            · rw [nkS, if_neg qk, if_pos hlt]
            · rw [nkS, if_neg qk, if_pos hlt]; exact fun _ => rfl
            · rw [iIp1, show (j : Int) - 7 + 1 = ((j + 1 : Nat) : Int) - 7 by omega]
          · refine zT_bindE (a := 0) (by rw [if_neg (by rw [iI_lt (by omega) (by omega) (by omega) (by omega)]; exact hlt)]) (zT_bindE (if_pos z00) (zT_bindE (if_pos z00) (zT_bindE rfl (ih (15 - (j + 1)) _ (by omega) ⟨j + 1, by omega, rfl, ?_, ?_, ?_, hR2⟩))))
            · rw [nkS, if_neg qk, if_neg hlt]
            · rw [nkS, if_neg qk, if_neg hlt]; exact fun _ => rfl
            · rw [iIp1, show (j : Int) - 7 + 1 = ((j + 1 : Nat) : Int) - 7 by omega]
  · rw [z_be (z_p0 q (X10_isMeasure h.1 hR ha)), if_pos z00, z_sb, z_be (X10_ref1 code), if_neg (f10 1)]
    exact zT_some ⟨hR, by rw [if_neg q]⟩
end ZMH
/-! ===== signs without which a note would sound the same ===== -/
def setSg (S : zSt) (m v e : Nat) (x : Int) : zSt := (S.1, S.2.1, S.2.2.1, fun m' v' e' => if m' = m ∧ v' = v ∧ e' = e then ((S.2.2.2 m v e).1, x, (S.2.2.2 m v e).2.2) else S.2.2.2 m' v' e')
def nlT (S : zSt) (m v e : Nat) : Int := if tieTo (bfE S m v e) (S.2.2.2 m v e).1 then (if e = 0 then shB S v m else shS S m v (e - 1)) else bmS S (S.2.1 m 0) m v (S.2.2.2 m v e).1 e
def nlE (S : zSt) (m v e : Nat) : Int := if 0 < (S.2.2.2 m v e).2.1 ∧ nlT S m v e = sgS (S.2.2.2 m v e).2.1 then 1 else 0
def nlV (S : zSt) (m v : Nat) : Nat → Int
  | 0 => 0
  | e + 1 => nlV S m v e + nlE S m v e
def nlW (S : zSt) (m : Nat) : Nat → Int
  | 0 => 0
  | v + 1 => nlW S m v + nlV S m v (S.2.2.1 m v)
section ZMI
variable {N : Nat} {S : zSt} {st cells shifts held : Nat → Int32} {size code : Int32} {m v e k i j : Nat}
theorem setSg_same (x : Int) : (setSg S m v e x).2.2.2 m v e = ((S.2.2.2 m v e).1, x, (S.2.2.2 m v e).2.2) := if_pos ⟨rfl, rfl, rfl⟩
theorem setSg_ne {m' v' e' : Nat} (x : Int) (h : ¬ (m' = m ∧ v' = v ∧ e' = e)) : (setSg S m v e x).2.2.2 m' v' e' = S.2.2.2 m' v' e' := if_neg h
theorem gE_sg (x : Int) {a b c : Int} (h : ¬ (a = m ∧ b = v ∧ c = e)) : gE (setSg S m v e x) a b c = gE S a b c := by
  unfold gE
  by_cases q : 0 ≤ a ∧ a < S.1 ∧ 0 ≤ b ∧ b < 2 ∧ 0 ≤ c ∧ c < S.2.2.1 a.toNat b.toNat
  · have q' : 0 ≤ a ∧ a < (setSg S m v e x).1 ∧ 0 ≤ b ∧ b < 2 ∧ 0 ≤ c ∧ c < (setSg S m v e x).2.2.1 a.toNat b.toNat := q
    rw [if_pos q, if_pos q', setSg_ne x (by omega)]
  · have q' : ¬ (0 ≤ a ∧ a < (setSg S m v e x).1 ∧ 0 ≤ b ∧ b < 2 ∧ 0 ≤ c ∧ c < (setSg S m v e x).2.2.1 a.toNat b.toNat) := q
    rw [if_neg q, if_neg q']
theorem bfE_sg (x : Int) {m' n : Nat} (h : m' < m ∨ m' = m ∧ n ≤ e) : bfE (setSg S m v e x) m' v n = bfE S m' v n := by
  unfold bfE
  by_cases q : (0 : Int) < n
  · rw [if_pos q, if_pos q, gE_sg x (by omega)]
  · rw [if_neg q, if_neg q, gE_sg x (by omega)]
    rfl
theorem bmS_sg (x key p : Int) {m' n : Nat} (h : m' < m ∨ m' = m ∧ n ≤ e) : bmS (setSg S m v e x) key m' v p n = bmS S key m' v p n := by
  induction n with
  | zero => rfl
  | succ n ih => rw [bmS, bmS, ih (by omega), setSg_ne x (by omega)]
theorem shW_sg (x key t : Int) {m' n : Nat} (h : m' < m ∨ m' = m ∧ n < e) : shW (setSg S m v e x) key m' v t n = shW S key m' v t n := by
  unfold shW
  rw [bmS_sg x key _ (by omega), setSg_ne x (by omega), bfE_sg x (by omega)]
theorem shL_sg (x key t : Int) {m' n : Nat} (h : m' < m ∨ m' = m ∧ n < e) : shL (setSg S m v e x) key m' v t n = shL S key m' v t n := by
  induction n with
  | zero => exact shW_sg x key t h
  | succ n ih => rw [shL, shL, ih (by omega), shW_sg x key _ h]
theorem shB_sg (x : Int) {m' : Nat} (h : m' ≤ m) : shB (setSg S m v e x) v m' = shB S v m' := by
  induction m' with
  | zero => rfl
  | succ m' ih =>
    rw [shB, shB, ih (by omega), shL_sg x _ _ (by omega)]
    rfl
theorem shS_sg : shS (setSg S m v e 0) m v e = nlT S m v e := by
  have e1 : shB (setSg S m v e 0) v m = shB S v m := shB_sg 0 (Nat.le_refl _)
  rw [shS_step, shW, setSg_same, bmS_sg 0 _ _ (Or.inr ⟨rfl, Nat.le_refl _⟩), bfE_sg 0 (Or.inr ⟨rfl, Nat.le_refl _⟩), e1]
  unfold nlT
  dsimp only
  rw [if_neg (show ¬ (0 : Int) < 0 by omega)]
  by_cases q : e = 0
  · rw [if_pos q, if_pos q]
    rfl
  · rw [if_neg q, if_neg q]
    have e2 : shS (setSg S m v e 0) m v (e - 1) = shS S m v (e - 1) := by
      unfold shS shK
      rw [shB_sg 0 (Nat.le_refl _), shL_sg 0 _ _ (by omega)]
      rfl
    rw [e2]
    rfl
end ZMI
