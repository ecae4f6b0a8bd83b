/-! ===== a state of the music, and the class's score ===== -/
abbrev zSt : Type := Nat × (Nat → Nat → Int) × (Nat → Nat → Nat) × (Nat → Nat → Nat → zEv)
def okV (V : Nat → Int) : Prop := (-7 ≤ V 0 ∧ V 0 ≤ 7) ∧ (1 ≤ V 1 ∧ V 1 ≤ 12) ∧ (V 2 = 2 ∨ V 2 = 4 ∨ V 2 = 8 ∨ V 2 = 16) ∧ (20 ≤ V 3 ∧ V 3 ≤ 300) ∧ (V 4 = 0 ∨ V 4 = 1) ∧ (V 5 = 0 ∨ 2 ≤ V 5 ∧ V 5 ≤ 4) ∧ (0 ≤ V 6 ∧ V 6 ≤ 4)
def okC (S : zSt) : Prop := S.1 ≤ 16 ∧ ∀ m, m < S.1 → (∀ k, k < 7 → -1000 ≤ S.2.1 m k ∧ S.2.1 m k ≤ 1000) ∧ ∀ v, v < 2 → S.2.2.1 m v ≤ 24 ∧ ∀ e, e < S.2.2.1 m v → okE (S.2.2.2 m v e)
def okS (S : zSt) : Prop := okC S ∧ ∀ m, m < S.1 → okV (S.2.1 m)
def gV (S : zSt) (m w : Int) : Int := if 0 ≤ m ∧ m < S.1 ∧ 0 ≤ w ∧ w < 7 then S.2.1 m.toNat w.toNat else 0
def gC (S : zSt) (m v : Int) : Int := if 0 ≤ m ∧ m < S.1 ∧ 0 ≤ v ∧ v < 2 then (S.2.2.1 m.toNat v.toNat : Int) else 0
def gE (S : zSt) (m v e : Int) : Option zEv := if 0 ≤ m ∧ m < S.1 ∧ 0 ≤ v ∧ v < 2 ∧ 0 ≤ e ∧ e < S.2.2.1 m.toNat v.toNat then some (S.2.2.2 m.toNat v.toNat e.toNat) else none
def zInt (a : Int) : Prop := -2147483648 ≤ a ∧ a ≤ 2147483647
def RC (S : zSt) (size : Int32) (cells : Nat → Int32) : Prop := size = iI S.1 ∧ ∀ m, m < S.1 → (∀ k, k < 7 → cells (57 * m + k) = iI (S.2.1 m k)) ∧ ∀ v, v < 2 → cells (57 * m + 7 + 25 * v) = iI (S.2.2.1 m v) ∧ ∀ e, e < S.2.2.1 m v → cells (57 * m + 8 + 25 * v + e) = iI (pk (S.2.2.2 m v e))
theorem gV_b {S : zSt} (h : okC S) (m w : Int) : -1000 ≤ gV S m w ∧ gV S m w ≤ 1000 := by
  unfold gV
  split
  · next q => exact (h.2 m.toNat (by omega)).1 w.toNat (by omega)
  · omega
theorem gC_b {S : zSt} (h : okC S) (m v : Int) : 0 ≤ gC S m v ∧ gC S m v ≤ 24 := by
  unfold gC
  split
  · next q =>
    have := ((h.2 m.toNat (by omega)).2 v.toNat (by omega)).1
    omega
  · omega
theorem gE_ok {S : zSt} (h : okC S) (m v e : Int) : oOk (gE S m v e) := by
  intro x hx
  unfold gE at hx
  split at hx
  · next q =>
    cases hx
    exact ((h.2 m.toNat (by omega)).2 v.toNat (by omega)).2 e.toNat (by omega)
  · cases hx
theorem gE_in {S : zSt} {m v e : Int} (h1 : 0 ≤ m ∧ m < S.1) (h2 : 0 ≤ v ∧ v < 2) (h3 : 0 ≤ e ∧ e < gC S m v) : gE S m v e = some (S.2.2.2 m.toNat v.toNat e.toNat) := by
  unfold gE
  unfold gC at h3
  rw [if_pos ⟨h1.1, h1.2, h2⟩] at h3
  rw [if_pos ⟨h1.1, h1.2, h2.1, h2.2, h3⟩]
theorem X4_hasMeasure {N : Nat} {S : zSt} (h : okC S) {m : Int} (hm : zInt m) : f_X4_hasMeasure N (iI S.1) (iI m) = some (iI (if 0 ≤ m ∧ m < S.1 then 1 else 0)) := by
  have h1 := h.1
  unfold zInt at hm
  unfold f_X4_hasMeasure
  rw [iL0]
  try simp (disch := omega) only [iI_lt, iI_eq]
  by_cases q1 : m < 0
  · rw [if_pos q1, if_neg (by omega)]
  · rw [if_neg q1]
    by_cases q2 : m < S.1
    · rw [if_pos q2, if_pos (by omega)]; rfl
    · rw [if_neg q2, if_neg (by omega)]
theorem X4_voiceCell {N : Nat} {S : zSt} (h : okC S) {m v : Int} (hm : zInt m) (hv : zInt v) : f_X4_voiceCell N (iI S.1) (iI m) (iI v) = some (iI (if 0 ≤ m ∧ m < S.1 ∧ 0 ≤ v ∧ v < 2 then m * 57 + 7 + v * 25 else -1)) := by
  have h1 := h.1
  unfold zInt at hm hv
  unfold f_X4_voiceCell
  rw [iL0, iL1, iL2, iL7, iL25, iL57, iI_mul, iI_mul, iI_add, iI_add]
  try simp (disch := omega) only [iI_lt, iI_eq]
  by_cases q : 0 ≤ m ∧ m < S.1 ∧ 0 ≤ v ∧ v < 2
  · rw [if_pos q, if_neg (by omega), if_pos (by omega), if_neg (by omega), if_pos (by omega)]
    rfl
  · rw [if_neg q]
    have e : (if m < 0 then some (iI 0) else if m < (S.1 : Int) then if v < 0 then some (iI 0) else if v < 2 then some (iI 1) else some (iI 0) else some (iI 0)) = some (iI 0) := by
      split
      · rfl
      · split
        · split
          · rfl
          · rw [if_neg (by omega)]
        · rfl
    rw [e]
    rfl
theorem X4_hasVoice {N : Nat} {S : zSt} (h : okC S) {m v : Int} (hm : zInt m) (hv : zInt v) : f_X4_hasVoice N (iI S.1) (iI m) (iI v) = some (iI (if 0 ≤ m ∧ m < S.1 ∧ 0 ≤ v ∧ v < 2 then 1 else 0)) := by
  have h1 := h.1
  unfold f_X4_hasVoice
  rw [z_be (X4_voiceCell h hm hv)]
  by_cases q : 0 ≤ m ∧ m < S.1 ∧ 0 ≤ v ∧ v < 2
  · rw [if_pos q, if_pos q, iL0]
    try simp (disch := omega) only [iI_lt, iI_eq]
    rw [if_neg (by omega)]
    rfl
  · rw [if_neg q, if_neg q, iL0]
    try simp (disch := omega) only [iI_lt, iI_eq]
    rw [if_pos (by omega)]
theorem X4_count {N : Nat} {S : zSt} {cells : Nat → Int32} (h : okC S) (hR : RC S (iI S.1) cells) {m v : Int} (hm : zInt m) (hv : zInt v) : f_X4_count N (iI S.1) cells (iI m) (iI v) = some (iI (gC S m v)) := by
  have h1 := h.1
  unfold f_X4_count gC
  rw [z_be (X4_voiceCell h hm hv)]
  by_cases q : 0 ≤ m ∧ m < S.1 ∧ 0 ≤ v ∧ v < 2
  · rw [if_pos q, if_pos q, iL0]
    try simp (disch := omega) only [iI_lt, iI_eq]
    rw [if_neg (by omega), zAldI (by omega) (by omega) (by omega), z_sb]
    have e := ((hR.2 m.toNat (by omega)).2 v.toNat (by omega)).1
    rw [show (m * 57 + 7 + v * 25).toNat = 57 * m.toNat + 7 + 25 * v.toNat by omega, e]
  · rw [if_neg q, if_neg q, iL0]
    try simp (disch := omega) only [iI_lt, iI_eq]
    rw [if_pos (by omega)]
theorem X4_hasEvent {N : Nat} {S : zSt} {cells : Nat → Int32} (h : okC S) (hR : RC S (iI S.1) cells) {m v e : Int} (hm : zInt m) (hv : zInt v) (he : zInt e) : f_X4_hasEvent N (iI S.1) cells (iI m) (iI v) (iI e) = some (iI (if 0 ≤ e ∧ e < gC S m v then 1 else 0)) := by
  have hb := gC_b h m v
  unfold zInt at he
  unfold f_X4_hasEvent
  rw [iL0]
  try simp (disch := omega) only [iI_lt, iI_eq]
  by_cases q : e < 0
  · rw [if_pos q, if_neg (by omega)]
  · rw [if_neg q, z_be (X4_count h hR hm hv)]
    try simp (disch := omega) only [iI_lt, iI_eq]
    by_cases q2 : e < gC S m v
    · rw [if_pos q2, if_pos (by omega)]; rfl
    · rw [if_neg q2, if_neg (by omega)]
theorem X4_value {N : Nat} {S : zSt} {cells : Nat → Int32} (h : okC S) (hR : RC S (iI S.1) cells) {m w : Int} (hm : zInt m) (hw : zInt w) : f_X4_value N (iI S.1) cells (iI m) (iI w) = some (iI (gV S m w)) := by
  have h1 := h.1
  unfold f_X4_value gV
  rw [z_be (X4_hasMeasure h hm)]
  unfold zInt at hw
  by_cases q : 0 ≤ m ∧ m < S.1
  · rw [if_pos q, iL0]
    try simp (disch := omega) only [iI_lt, iI_eq]
    rw [if_neg (by omega)]
    try simp (disch := omega) only [iI_lt, iI_eq]
    rw [iL7]
    try simp (disch := omega) only [iI_lt, iI_eq]
    rw [iL57, iI_mul, iI_add]
    by_cases q2 : w < 0
    · rw [if_pos q2, if_neg (by omega)]
    · rw [if_neg q2]
      by_cases q3 : w < 7
      · rw [if_pos q3, if_pos (by omega), zAldI (by omega) (by omega) (by omega), z_sb]
        have e := (hR.2 m.toNat (by omega)).1 w.toNat (by omega)
        rw [show (m * 57 + w).toNat = 57 * m.toNat + w.toNat by omega, e]
      · rw [if_neg q3, if_neg (by omega)]
  · rw [if_neg q, if_pos (show iI 0 = 0 from rfl), if_neg (show ¬ (0 ≤ m ∧ m < S.1 ∧ 0 ≤ w ∧ w < 7) by omega)]
    rfl
theorem X4_code {N : Nat} {S : zSt} {cells : Nat → Int32} (h : okC S) (hR : RC S (iI S.1) cells) {m v e : Int} (hm : zInt m) (hv : zInt v) (he : zInt e) : f_X4_code N (iI S.1) cells (iI m) (iI v) (iI e) = some (iI (pk0 (gE S m v e))) := by
  have h1 := h.1
  unfold f_X4_code gE
  rw [z_be (X4_voiceCell h hm hv)]
  unfold zInt at he
  by_cases q : 0 ≤ m ∧ m < S.1 ∧ 0 ≤ v ∧ v < 2
  · have e1 := ((hR.2 m.toNat (by omega)).2 v.toNat (by omega)).1
    have e2 := ((hR.2 m.toNat (by omega)).2 v.toNat (by omega)).2
    have hb := ((h.2 m.toNat (by omega)).2 v.toNat (by omega)).1
    rw [if_pos q, iL0]
    try simp (disch := omega) only [iI_lt, iI_eq]
    rw [if_neg (by omega)]
    try simp (disch := omega) only [iI_lt, iI_eq]
    rw [zAldI (by omega) (by omega) (by omega), z_sb, show (m * 57 + 7 + v * 25).toNat = 57 * m.toNat + 7 + 25 * v.toNat by omega, e1]
    try simp (disch := omega) only [iI_lt, iI_eq]
    rw [iL1, iI_add, iI_add]
    by_cases q2 : e < 0
    · rw [if_pos q2, if_neg (by omega)]; rfl
    · rw [if_neg q2]
      by_cases q3 : e < (S.2.2.1 m.toNat v.toNat : Int)
      · rw [if_pos q3, if_pos (by omega), zAldI (by omega) (by omega) (by omega), z_sb, show (m * 57 + 7 + v * 25 + 1 + e).toNat = 57 * m.toNat + 8 + 25 * v.toNat + e.toNat by omega, e2 _ (by omega)]
        rfl
      · rw [if_neg q3, if_neg (by omega)]; rfl
  · rw [if_neg q, iL0]
    try simp (disch := omega) only [iI_lt, iI_eq]
    rw [if_pos (by omega), if_neg (by omega)]
    rfl
