section ZMH
variable {N : Nat} {S : zSt} {st cells shifts held : Nat → Int32} {size code : Int32} {m v e k i j : Nat}
end ZMH
/-! ===== signs without which a note would sound the same ===== -/
def setSg (S : zSt) (m v e : Nat) (x : Int) : zSt := (S.1, S.2.1, S.2.2.1, fun m' v' e' => if m' = m ∧ v' = v ∧ e' = e then ((S.2.2.2 m v e).1, x, (S.2.2.2 m v e).2.2) else S.2.2.2 m' v' e')
def nlT (S : zSt) (m v e : Nat) : Int := if tieTo (bfE S m v e) (S.2.2.2 m v e).1 then (if e = 0 then shB S v m else shS S m v (e - 1)) else bmS S (S.2.1 m 0) m v (S.2.2.2 m v e).1 e
def nlE (S : zSt) (m v e : Nat) : Int := if 0 < (S.2.2.2 m v e).2.1 ∧ nlT S m v e = sgS (S.2.2.2 m v e).2.1 then 1 else 0
def nlV (S : zSt) (m v : Nat) : Nat → Int
  | 0 => 0
  | e + 1 => nlV S m v e + nlE S m v e
def nlW (S : zSt) (m : Nat) : Nat → Int
  | 0 => 0
  | v + 1 => nlW S m v + nlV S m v (S.2.2.1 m v)
section ZMI
variable {N : Nat} {S : zSt} {st cells shifts held : Nat → Int32} {size code : Int32} {m v e k i j : Nat}
theorem setSg_same (x : Int) : (setSg S m v e x).2.2.2 m v e = ((S.2.2.2 m v e).1, x, (S.2.2.2 m v e).2.2) := if_pos ⟨rfl, rfl, rfl⟩
theorem setSg_ne {m' v' e' : Nat} (x : Int) (h : ¬ (m' = m ∧ v' = v ∧ e' = e)) : (setSg S m v e x).2.2.2 m' v' e' = S.2.2.2 m' v' e' := if_neg h
theorem gE_sg (x : Int) {a b c : Int} (h : ¬ (a = m ∧ b = v ∧ c = e)) : gE (setSg S m v e x) a b c = gE S a b c := by
  unfold gE
  by_cases q : 0 ≤ a ∧ a < S.1 ∧ 0 ≤ b ∧ b < 2 ∧ 0 ≤ c ∧ c < S.2.2.1 a.toNat b.toNat
  · have q' : 0 ≤ a ∧ a < (setSg S m v e x).1 ∧ 0 ≤ b ∧ b < 2 ∧ 0 ≤ c ∧ c < (setSg S m v e x).2.2.1 a.toNat b.toNat := q
    rw [if_pos q, if_pos q', setSg_ne x (by omega)]
  · have q' : ¬ (0 ≤ a ∧ a < (setSg S m v e x).1 ∧ 0 ≤ b ∧ b < 2 ∧ 0 ≤ c ∧ c < (setSg S m v e x).2.2.1 a.toNat b.toNat) := q
    rw [if_neg q, if_neg q']
theorem bfE_sg (x : Int) {m' n : Nat} (h : m' < m ∨ m' = m ∧ n ≤ e) : bfE (setSg S m v e x) m' v n = bfE S m' v n := by
  unfold bfE
  by_cases q : (0 : Int) < n
  · rw [if_pos q, if_pos q, gE_sg x (by omega)]
  · rw [if_neg q, if_neg q, gE_sg x (by omega)]
    rfl
theorem bmS_sg (x key p : Int) {m' n : Nat} (h : m' < m ∨ m' = m ∧ n ≤ e) : bmS (setSg S m v e x) key m' v p n = bmS S key m' v p n := by
  induction n with
  | zero => rfl
  | succ n ih => rw [bmS, bmS, ih (by omega), setSg_ne x (by omega)]
theorem shW_sg (x key t : Int) {m' n : Nat} (h : m' < m ∨ m' = m ∧ n < e) : shW (setSg S m v e x) key m' v t n = shW S key m' v t n := by
  unfold shW
  rw [bmS_sg x key _ (by omega), setSg_ne x (by omega), bfE_sg x (by omega)]
theorem shL_sg (x key t : Int) {m' n : Nat} (h : m' < m ∨ m' = m ∧ n < e) : shL (setSg S m v e x) key m' v t n = shL S key m' v t n := by
  induction n with
  | zero => exact shW_sg x key t h
  | succ n ih => rw [shL, shL, ih (by omega), shW_sg x key _ h]
theorem shB_sg (x : Int) {m' : Nat} (h : m' ≤ m) : shB (setSg S m v e x) v m' = shB S v m' := by
  induction m' with
  | zero => rfl
  | succ m' ih =>
    rw [shB, shB, ih (by omega), shL_sg x _ _ (by omega)]
    rfl
theorem shS_sg : shS (setSg S m v e 0) m v e = nlT S m v e := by
  have e1 : shB (setSg S m v e 0) v m = shB S v m := shB_sg 0 (Nat.le_refl _)
  rw [shS_step, shW, setSg_same, bmS_sg 0 _ _ (Or.inr ⟨rfl, Nat.le_refl _⟩), bfE_sg 0 (Or.inr ⟨rfl, Nat.le_refl _⟩), e1]
  unfold nlT
  dsimp only
  rw [if_neg (show ¬ (0 : Int) < 0 by omega)]
  by_cases q : e = 0
  · rw [if_pos q, if_pos q]
    rfl
  · rw [if_neg q, if_neg q]
    have e2 : shS (setSg S m v e 0) m v (e - 1) = shS S m v (e - 1) := by
      unfold shS shK
      rw [shB_sg 0 (Nat.le_refl _), shL_sg 0 _ _ (by omega)]
      rfl
    rw [e2]
    rfl
end ZMI
