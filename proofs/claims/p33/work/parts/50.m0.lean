/-! ===== the pure programs: tools ===== -/
def zT {α : Type} (o : Option α) (P : α → Prop) : Prop := ∃ a, o = some a ∧ P a
theorem zT_some {α : Type} {a : α} {P : α → Prop} (h : P a) : zT (some a) P := ⟨a, rfl, h⟩
theorem zT_bind {α β : Type} {o : Option α} {K : α → Option β} {P : β → Prop} (h : zT o (fun a => zT (K a) P)) : zT (Option.bind o K) P := by
  obtain ⟨a, rfl, h⟩ := h
  exact h
theorem zT_of {α : Type} {o : Option α} {a : α} {P : α → Prop} (h : o = some a) (hp : P a) : zT o P := ⟨a, h, hp⟩
theorem zT_mono {α : Type} {o : Option α} {P Q : α → Prop} (h : zT o P) (hp : ∀ a, P a → Q a) : zT o Q := by
  obtain ⟨a, h1, h2⟩ := h
  exact ⟨a, h1, hp a h2⟩
theorem zT_bindE {α β : Type} {o : Option α} {a : α} {K : α → Option β} {P : β → Prop} (h : o = some a) (hp : zT (K a) P) : zT (Option.bind o K) P := by
  subst h
  exact hp
theorem zT_ite {α : Type} {c : Prop} {i : Decidable c} {X Y : Option α} {P : α → Prop} (h1 : c → zT X P) (h2 : ¬ c → zT Y P) : zT (@ite _ c i X Y) P := by
  by_cases hc : c
  · rw [if_pos hc]; exact h1 hc
  · rw [if_neg hc]; exact h2 hc
theorem zT_loop {σ ρ : Type} {B : (σ → Option ρ) → σ → Option ρ} (I : Nat → σ → Prop) {P : ρ → Prop} (hstep : ∀ (n : Nat) (s : σ) (k : σ → Option ρ), I n s → (∀ (n' : Nat) (s' : σ), n' < n → I n' s' → zT (k s') P) → zT (B k s) P) :
    ∀ (N n : Nat) (s : σ), n < N → I n s → zT (zLoop B N s) P := by
  intro N
  induction N with
  | zero => intro n s h; exact absurd h (Nat.not_lt_zero n)
  | succ N ih => exact fun n s h hI => hstep n s (zLoop B N) hI (fun n' s' h' hI' => ih n' s' (by omega) hI')
theorem z_sb {α β : Type} (a : α) (K : α → Option β) : Option.bind (some a) K = K a := rfl
theorem z_be {α β : Type} {o : Option α} {a : α} {K : α → Option β} (h : o = some a) : Option.bind o K = K a := by rw [h]; rfl
/-- a loop that counts up: after n more rounds it stands at n steps on -/
theorem z_eqT {α : Type} {o : Option α} {a : α} (h : zT o (fun x => x = a)) : o = some a := by
  obtain ⟨x, h1, rfl⟩ := h
  exact h1
/-! whole numbers in the machine's ints -/
def iI (n : Int) : Int32 := Int32.ofInt n
theorem iI_add (a b : Int) : iI a + iI b = iI (a + b) := (Int32.ofInt_add a b).symm
theorem iI_sub (a b : Int) : iI a - iI b = iI (a - b) := (Int32.ofInt_sub a b).symm
theorem iI_mul (a b : Int) : iI a * iI b = iI (a * b) := (Int32.ofInt_mul a b).symm
theorem iI_neg (a : Int) : - iI a = iI (-a) := (Int32.ofInt_neg a).symm
theorem iI_toInt {a : Int} (h1 : -2147483648 ≤ a) (h2 : a ≤ 2147483647) : (iI a).toInt = a := Int32.toInt_ofInt_of_le (by omega) (by omega)
theorem iI_all (x : Int32) : ∃ a : Int, x = iI a ∧ -2147483648 ≤ a ∧ a ≤ 2147483647 := ⟨x.toInt, (Int32.ofInt_toInt x).symm, Int32.le_toInt x, by have := Int32.toInt_lt x; omega⟩
theorem iI_lt {a b : Int} (h1 : -2147483648 ≤ a) (h2 : a ≤ 2147483647) (h3 : -2147483648 ≤ b) (h4 : b ≤ 2147483647) : (iI a < iI b) = (a < b) := by
  rw [Int32.lt_iff_toInt_lt, iI_toInt h1 h2, iI_toInt h3 h4]
theorem iI_eq {a b : Int} (h1 : -2147483648 ≤ a) (h2 : a ≤ 2147483647) (h3 : -2147483648 ≤ b) (h4 : b ≤ 2147483647) : (iI a = iI b) = (a = b) := by
  rw [← Int32.toInt_inj, iI_toInt h1 h2, iI_toInt h3 h4]
theorem iI_inj {a b : Int} (h : iI a = iI b) (h1 : -2147483648 ≤ a) (h2 : a ≤ 2147483647) (h3 : -2147483648 ≤ b) (h4 : b ≤ 2147483647) : a = b := (iI_eq h1 h2 h3 h4).mp h
theorem iI_nat {a : Int} (h1 : 0 ≤ a) (h2 : a ≤ 2147483647) : (iI a).toNatClampNeg = a.toNat := Int32.toNatClampNeg_ofInt_of_le (by omega) (by omega)
theorem iI_ofNat (n : Nat) : Int32.ofNat n = iI n := Int32.ofInt_eq_ofNat.symm
theorem iI_div {a b : Int} (h1 : 0 ≤ a) (h2 : a ≤ 2147483647) (h3 : 0 < b) (h4 : b ≤ 2147483647) : iI a / iI b = iI (a / b) := by
  have h := Int32.ofInt_tdiv (a := a) (b := b) (by show (-2147483648 : Int) ≤ a; omega) (by show a ≤ (2147483647 : Int); omega) (by show (-2147483648 : Int) ≤ b; omega) (by show b ≤ (2147483647 : Int); omega)
  rw [Int.tdiv_eq_ediv_of_nonneg h1] at h
  exact h.symm
theorem iL0 : (0 : Int32) = iI 0 := rfl
theorem iL1 : (1 : Int32) = iI 1 := rfl
theorem iL2 : (2 : Int32) = iI 2 := rfl
theorem iL3 : (3 : Int32) = iI 3 := rfl
theorem iL4 : (4 : Int32) = iI 4 := rfl
theorem iL5 : (5 : Int32) = iI 5 := rfl
theorem iL6 : (6 : Int32) = iI 6 := rfl
theorem iL7 : (7 : Int32) = iI 7 := rfl
theorem iL8 : (8 : Int32) = iI 8 := rfl
theorem iL9 : (9 : Int32) = iI 9 := rfl
theorem iL10 : (10 : Int32) = iI 10 := rfl
theorem iL11 : (11 : Int32) = iI 11 := rfl
theorem iL12 : (12 : Int32) = iI 12 := rfl
theorem iL13 : (13 : Int32) = iI 13 := rfl
theorem iL14 : (14 : Int32) = iI 14 := rfl
theorem iL15 : (15 : Int32) = iI 15 := rfl
theorem iL16 : (16 : Int32) = iI 16 := rfl
theorem iL17 : (17 : Int32) = iI 17 := rfl
theorem iL18 : (18 : Int32) = iI 18 := rfl
theorem iL19 : (19 : Int32) = iI 19 := rfl
theorem iL20 : (20 : Int32) = iI 20 := rfl
theorem iL24 : (24 : Int32) = iI 24 := rfl
theorem iL25 : (25 : Int32) = iI 25 := rfl
theorem iL31 : (31 : Int32) = iI 31 := rfl
theorem iL32 : (32 : Int32) = iI 32 := rfl
theorem iL48 : (48 : Int32) = iI 48 := rfl
theorem iL50 : (50 : Int32) = iI 50 := rfl
theorem iL57 : (57 : Int32) = iI 57 := rfl
theorem iL63 : (63 : Int32) = iI 63 := rfl
theorem iL64 : (64 : Int32) = iI 64 := rfl
theorem iL72 : (72 : Int32) = iI 72 := rfl
theorem iL96 : (96 : Int32) = iI 96 := rfl
theorem iL97 : (97 : Int32) = iI 97 := rfl
theorem iL100 : (100 : Int32) = iI 100 := rfl
theorem iL118 : (118 : Int32) = iI 118 := rfl
theorem iL120 : (120 : Int32) = iI 120 := rfl
theorem iL200 : (200 : Int32) = iI 200 := rfl
theorem iL201 : (201 : Int32) = iI 201 := rfl
theorem iL300 : (300 : Int32) = iI 300 := rfl
theorem iL600 : (600 : Int32) = iI 600 := rfl
theorem iL768 : (768 : Int32) = iI 768 := rfl
theorem iL912 : (912 : Int32) = iI 912 := rfl
theorem iL1000 : (1000 : Int32) = iI 1000 := rfl
theorem iL1702 : (1702 : Int32) = iI 1702 := rfl
theorem iL2000 : (2000 : Int32) = iI 2000 := rfl
theorem iL3217 : (3217 : Int32) = iI 3217 := rfl
theorem iL3417 : (3417 : Int32) = iI 3417 := rfl
theorem iL9651 : (9651 : Int32) = iI 9651 := rfl
theorem iL12868 : (12868 : Int32) = iI 12868 := rfl
theorem iL8192 : (8192 : Int32) = iI 8192 := rfl
theorem iL16384 : (16384 : Int32) = iI 16384 := rfl
theorem zAldI {f : Nat → Int32} {n : Nat} {a : Int} (h1 : 0 ≤ a) (h2 : a < n) (h3 : n ≤ 2147483647) : zAld f n (iI a) = some (f a.toNat) := by
  unfold zAld
  have e : (0 : Int32) = iI 0 := rfl
  rw [e]
  try simp (disch := omega) only [iI_lt, iI_eq]
  rw [iI_nat h1 (by omega), if_neg (by omega)]
theorem zAstI {f : Nat → Int32} {n : Nat} {a : Int} {x : Int32} (h1 : 0 ≤ a) (h2 : a < n) (h3 : n ≤ 2147483647) : zAst f n (iI a) x = some (upd f a.toNat x) := by
  unfold zAst
  have e : (0 : Int32) = iI 0 := rfl
  rw [e]
  try simp (disch := omega) only [iI_lt, iI_eq]
  rw [iI_nat h1 (by omega), if_neg (by omega)]
theorem zBstI {f : Nat → Int32} {n : Nat} {a : Int} {x : Int32} (h1 : 0 ≤ a) (h2 : a < n) (h3 : n ≤ 2147483647) : zBst f n (iI a) x = some (upd f a.toNat (vp_nar .byte x)) := by
  unfold zBst
  have e : (0 : Int32) = iI 0 := rfl
  rw [e]
  try simp (disch := omega) only [iI_lt, iI_eq]
  rw [iI_nat h1 (by omega), if_neg (by omega)]
theorem zCpyI {f g : Nat → Int32} {n0 n1 : Nat} {sp dp n : Int} (h1 : 0 ≤ sp) (h2 : 0 ≤ dp) (h3 : 0 ≤ n) (h4 : sp + n ≤ n0) (h5 : dp + n ≤ n1) (h6 : n0 ≤ 2147483647) (h7 : n1 ≤ 2147483647) : zCpy f g n0 n1 (iI sp) (iI dp) (iI n) = some (va_cpy f g sp.toNat dp.toNat n.toNat) := by
  unfold zCpy
  have e : (0 : Int32) = iI 0 := rfl
  rw [e]
  try simp (disch := omega) only [iI_lt, iI_eq]
  rw [iI_nat h1 (by omega), iI_nat h2 (by omega), iI_nat h3 (by omega), if_neg (by omega)]
theorem zDivI {a b : Int} (h1 : 0 ≤ a) (h2 : a ≤ 2147483647) (h3 : 0 < b) (h4 : b ≤ 2147483647) : zDiv (iI a) (iI b) = some (iI (a / b)) := by
  unfold zDiv
  have e : (0 : Int32) = iI 0 := rfl
  rw [e]
  try simp (disch := omega) only [iI_lt, iI_eq]
  rw [if_neg (by omega), iI_div h1 h2 h3 h4]
theorem zRemI {a b : Int} (h1 : 0 ≤ a) (h2 : a ≤ 2147483647) (h3 : 0 < b) (h4 : b ≤ 2147483647) : zRem (iI a) (iI b) = some (iI (a % b)) := by
  unfold zRem
  have e : (0 : Int32) = iI 0 := rfl
  rw [e]
  try simp (disch := omega) only [iI_lt, iI_eq]
  rw [if_neg (by omega), iI_div h1 h2 h3 h4, iI_mul, iI_sub]
  congr 2
  rw [Int.emod_def, Int.mul_comm]
theorem zMinI {a b : Int} (h1 : -2147483648 ≤ a) (h2 : a ≤ 2147483647) (h3 : -2147483648 ≤ b) (h4 : b ≤ 2147483647) : zMin (iI a) (iI b) = iI (if b < a then b else a) := by
  unfold zMin
  simp (disch := omega) only [iI_lt]
  split <;> rfl
theorem zMaxI {a b : Int} (h1 : -2147483648 ≤ a) (h2 : a ≤ 2147483647) (h3 : -2147483648 ≤ b) (h4 : b ≤ 2147483647) : zMax (iI a) (iI b) = iI (if a < b then b else a) := by
  unfold zMax
  simp (disch := omega) only [iI_lt]
  split <;> rfl
theorem zcpy_at (f g : Nat → Int32) (sp dp n j : Nat) : va_cpy f g sp dp n j = if dp ≤ j ∧ j < dp + n then f (sp + (j - dp)) else g j := rfl
theorem upd_at (f : Nat → Int32) (k : Nat) (x : Int32) (j : Nat) : upd f k x j = if j = k then x else f j := rfl
theorem upd_eq (f : Nat → Int32) {k j : Nat} (x : Int32) (h : j = k) : upd f k x j = x := by rw [upd_at, if_pos h]
theorem upd_ne (f : Nat → Int32) {k j : Nat} (x : Int32) (h : j ≠ k) : upd f k x j = f j := by rw [upd_at, if_neg h]
