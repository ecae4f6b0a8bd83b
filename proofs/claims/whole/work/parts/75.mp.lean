/-! ===== what holds of both between two calls ===== -/
def zRg (hs : List zSt) (nx : Nat) (sl : Nat → Int32 × (Nat → Int32)) : Prop := ∀ i X, hs[i]? = some X → RC X (sl ((nx + 3 - i) % 4)).1 (sl ((nx + 3 - i) % 4)).2
def zPa (hs : List zSt) (past : Nat → Int32) : Prop := ∀ i X, hs[i]? = some X → RM X (fun j => past (3217 * (hs.length - 1 - i) + j))
def zSl (n0 n1 n2 n3 : Int32) (c0 c1 c2 c3 : Nat → Int32) (j : Nat) : Int32 × (Nat → Int32) := if j = 0 then (n0, c0) else if j = 1 then (n1, c1) else if j = 2 then (n2, c2) else (n3, c3)
def zQ0 (S : zSt) (hs : List zSt) (nx L : Nat) (T : Nat → Int) : Prop := okS S ∧ hs.length ≤ 4 ∧ (∀ X, X ∈ hs → okS X) ∧ nx < 4 ∧ L ≤ 600 ∧ ∀ i, i < L → 0 ≤ T i ∧ T i ≤ 127
def zTx (L : Nat) (T : Nat → Int) (n : Int32) (f : Nat → Int32) : Prop := n = iI L ∧ ∀ i, i < L → f i = iI (T i)
def zZ (K : zKT) (M : zMT) : Prop := ∃ (S : zSt) (hs : List zSt) (nx L : Nat) (T : Nat → Int), zQ0 S hs nx L T ∧ (K.1 = iI nx ∧ K.2.1 = iI hs.length ∧ zRg hs nx (zSl K.2.2.2.2.2.2.2.2.2.2.1 K.2.2.2.2.2.2.2.2.2.2.2.1 K.2.2.2.2.2.2.2.2.2.2.2.2.1 K.2.2.2.2.2.2.2.2.2.2.2.2.2.1 K.2.2.2.2.2.2.2.2.2.2.2.2.2.2.2.2.2.2.2.2.2.1 K.2.2.2.2.2.2.2.2.2.2.2.2.2.2.2.2.2.2.2.2.2.2.1 K.2.2.2.2.2.2.2.2.2.2.2.2.2.2.2.2.2.2.2.2.2.2.2.1 K.2.2.2.2.2.2.2.2.2.2.2.2.2.2.2.2.2.2.2.2.2.2.2.2.1)) ∧ oF S K.2.2.1 K.2.2.2.2.2.2.2.2.2.2.2.2.2.2.1 ∧ RC S K.2.2.2.2.2.2.1 K.2.2.2.2.2.2.2.2.2.2.2.2.2.2.2.2.1 ∧ zTx L T K.2.2.2.2.2.2.2.2.2.1 K.2.2.2.2.2.2.2.2.2.2.2.2.2.2.2.2.2.2.2.2.1 ∧ FH S K.2.2.2.2.2.2.2.2.2.2.2.2.2.2.2.2.2.2.1 (fun _ _ _ => True) ∧ FSp S K.2.2.2.2.2.2.2.2.2.2.2.2.2.2.2.2.2.2.2.1 768 ∧ zTx L T M.2.2.2.2.2.1 M.2.2.2.2.2.2.2.2.2.2.2.2.2.2.2.2.2.2.2 ∧ (M.2.2.2.2.2.2.2.2.2.2.1 = iI hs.length ∧ zPa hs M.2.2.2.2.2.2.2.2.2.2.2.2.2.2.1) ∧ M.2.2.2.2.2.2.2.2.2.2.2.2.2.2.2.2.2.1 = zSp ∧ RM S M.2.2.2.2.2.2.2.2.2.2.2.2.2.2.2.2.2.2.1
section ZMQ
variable {N : Nat} {K : zKT} {M : zMT}
theorem zk_measure (hN : 20000 ≤ N) (hZ : zZ K M) (y1 : Int32) (y2 : Int32) : zS_measure N zZ K M y1 y2 := by
  obtain ⟨S, hs, nx, L, T, h0, hk, hO, hC, hT, hH, hF, hX, hP, hS, hR⟩ := hZ
  obtain ⟨a1, rfl, hz1⟩ := iI_all y1
  obtain ⟨a2, rfl, hz2⟩ := iI_all y2
  have e6 := hC.1
  rw [e6] at hC
  have Z1 : zZ K M := ⟨S, hs, nx, L, T, h0, hk, hO, ⟨e6, hC.2⟩, hT, hH, hF, hX, hP, hS, hR⟩
  unfold zS_measure
  rw [e6, C_measure h0.1 hC hz1 hz2 (by omega), M_measure h0.1 hR hz1 hz2 (by omega)]
  by_cases q : 0 ≤ a1 ∧ a1 < S.1
  · rw [if_pos q, if_pos q]
    by_cases q2 : 0 ≤ a2 ∧ a2 ≤ 11
    · rw [if_pos q2, if_pos q2]
      exact ⟨_, rfl, Or.inl ⟨_, rfl, rfl, rfl, ⟨S, hs, nx, L, T, h0, hk, hO, ⟨e6, hC.2⟩, hT, hH, hF, hX, hP, hS, hR⟩⟩⟩
    · rw [if_neg q2, if_neg q2]
      exact ⟨_, rfl, Or.inr (Or.inr ⟨rfl, rfl, ⟨S, hs, nx, L, T, h0, hk, hO, ⟨e6, hC.2⟩, hT, hH, hF, hX, hP, hS, hR⟩⟩)⟩
  · rw [if_neg q, if_neg q]
    exact ⟨_, rfl, Or.inr (Or.inl ⟨rfl, rfl, ⟨S, hs, nx, L, T, h0, hk, hO, ⟨e6, hC.2⟩, hT, hH, hF, hX, hP, hS, hR⟩⟩)⟩
theorem zk_event (hN : 20000 ≤ N) (hZ : zZ K M) (y1 : Int32) (y2 : Int32) (y3 : Int32) (y4 : Int32) : zS_event N zZ K M y1 y2 y3 y4 := by
  obtain ⟨S, hs, nx, L, T, h0, hk, hO, hC, hT, hH, hF, hX, hP, hS, hR⟩ := hZ
  obtain ⟨a1, rfl, hz1⟩ := iI_all y1
  obtain ⟨a2, rfl, hz2⟩ := iI_all y2
  obtain ⟨a3, rfl, hz3⟩ := iI_all y3
  obtain ⟨a4, rfl, hz4⟩ := iI_all y4
  have e6 := hC.1
  rw [e6] at hC
  have Z1 : zZ K M := ⟨S, hs, nx, L, T, h0, hk, hO, ⟨e6, hC.2⟩, hT, hH, hF, hX, hP, hS, hR⟩
  unfold zS_event
  rw [e6, C_event h0.1.1 hC hF hH hz1 hz2 hz3 hz4 (by omega)]
  obtain ⟨b, hb, hq⟩ := M_event (N := N) (code := M.1) h0.1 hR hz1 hz2 hz3 hz4 M.2.2.2.2.2.2.2.1 M.2.2.2.2.2.2.2.2.1 (by omega)
  refine ⟨b, hb, ?_⟩
  by_cases q : 0 ≤ a3 ∧ a3 < gC S a1 a2
  · rw [if_pos q] at hq ⊢
    by_cases q2 : 0 ≤ a4 ∧ a4 ≤ 9
    · rw [if_pos q2] at hq ⊢
      exact Or.inl ⟨_, rfl, hq.2, hq.1.symm, ⟨S, hs, nx, L, T, h0, hk, hO, ⟨e6, hC.2⟩, hT, hH, hF, hX, hP, hS, hR⟩⟩
    · rw [if_neg q2] at hq ⊢
      exact Or.inr (Or.inr ⟨rfl, hq, ⟨S, hs, nx, L, T, h0, hk, hO, ⟨e6, hC.2⟩, hT, hH, hF, hX, hP, hS, hR⟩⟩)
  · rw [if_neg q] at hq ⊢
    exact Or.inr (Or.inl ⟨rfl, hq, ⟨S, hs, nx, L, T, h0, hk, hO, ⟨e6, hC.2⟩, hT, hH, hF, hX, hP, hS, hR⟩⟩)
theorem zk_eventAt (hN : 20000 ≤ N) (hZ : zZ K M) (y1 : Int32) (y2 : Int32) (y3 : Int32) : zS_eventAt N zZ K M y1 y2 y3 := by
  obtain ⟨S, hs, nx, L, T, h0, hk, hO, hC, hT, hH, hF, hX, hP, hS, hR⟩ := hZ
  obtain ⟨a1, rfl, hz1⟩ := iI_all y1
  obtain ⟨a2, rfl, hz2⟩ := iI_all y2
  obtain ⟨a3, rfl, hz3⟩ := iI_all y3
  have e6 := hC.1
  rw [e6] at hC
  have Z1 : zZ K M := ⟨S, hs, nx, L, T, h0, hk, hO, ⟨e6, hC.2⟩, hT, hH, hF, hX, hP, hS, hR⟩
  unfold zS_eventAt
  rw [e6, C_eventAt h0.1.1 hC hz1 hz2 hz3 (by omega), M_eventAt h0.1.1 hR hz1 hz2 hz3 (by omega)]
  by_cases q : 0 ≤ a1 ∧ a1 < S.1 ∧ 0 ≤ a2 ∧ a2 < 2
  · rw [if_pos q, if_pos q]
    by_cases q2 : 0 ≤ a3
    · rw [if_pos q2, if_pos q2]
      exact ⟨_, rfl, Or.inl ⟨_, rfl, rfl, rfl, ⟨S, hs, nx, L, T, h0, hk, hO, ⟨e6, hC.2⟩, hT, hH, hF, hX, hP, hS, hR⟩⟩⟩
    · rw [if_neg q2, if_neg q2]
      exact ⟨_, rfl, Or.inr (Or.inr ⟨rfl, rfl, ⟨S, hs, nx, L, T, h0, hk, hO, ⟨e6, hC.2⟩, hT, hH, hF, hX, hP, hS, hR⟩⟩)⟩
  · rw [if_neg q, if_neg q]
    exact ⟨_, rfl, Or.inr (Or.inl ⟨rfl, rfl, ⟨S, hs, nx, L, T, h0, hk, hO, ⟨e6, hC.2⟩, hT, hH, hF, hX, hP, hS, hR⟩⟩)⟩
theorem zk_crossings (hN : 20000 ≤ N) (hZ : zZ K M) (y1 : Int32) : zS_crossings N zZ K M y1 := by
  obtain ⟨S, hs, nx, L, T, h0, hk, hO, hC, hT, hH, hF, hX, hP, hS, hR⟩ := hZ
  obtain ⟨a1, rfl, hz1⟩ := iI_all y1
  have e6 := hC.1
  rw [e6] at hC
  have Z1 : zZ K M := ⟨S, hs, nx, L, T, h0, hk, hO, ⟨e6, hC.2⟩, hT, hH, hF, hX, hP, hS, hR⟩
  unfold zS_crossings
  rw [e6, C_crossings h0.1 hC hF hz1 (by omega), M_crossings h0.1 hR hz1 (by omega)]
  by_cases q : 0 ≤ a1 ∧ a1 < S.1
  · rw [if_pos q, if_pos q]
    exact ⟨_, rfl, Or.inl ⟨_, rfl, rfl, rfl, ⟨S, hs, nx, L, T, h0, hk, hO, ⟨e6, hC.2⟩, hT, hH, hF, hX, hP, hS, hR⟩⟩⟩
  · rw [if_neg q, if_neg q]
    exact ⟨_, rfl, Or.inr ⟨rfl, rfl, ⟨S, hs, nx, L, T, h0, hk, hO, ⟨e6, hC.2⟩, hT, hH, hF, hX, hP, hS, hR⟩⟩⟩
theorem zk_whole (hN : 20000 ≤ N) (hZ : zZ K M) (y1 : Int32) : zS_whole N zZ K M y1 := by
  obtain ⟨S, hs, nx, L, T, h0, hk, hO, hC, hT, hH, hF, hX, hP, hS, hR⟩ := hZ
  obtain ⟨a1, rfl, hz1⟩ := iI_all y1
  have e6 := hC.1
  rw [e6] at hC
  have Z1 : zZ K M := ⟨S, hs, nx, L, T, h0, hk, hO, ⟨e6, hC.2⟩, hT, hH, hF, hX, hP, hS, hR⟩
  unfold zS_whole
  rw [e6, hT.1, hX.1, C_whole h0.1 hC hO hH hz1 (by omega)]
  obtain ⟨b, hb, hq⟩ := M_whole (N := N) (code := M.1) (l := (L : Int)) h0.1 hR hz1 M.2.2.2.2.2.2.2.1 M.2.2.2.2.2.2.2.2.1 (x0 := M.2.2.2.2.2.2.2.2.2.2.2.1) (f0 := M.2.2.2.2.2.2.2.2.2.2.2.2.2.2.2.1) (by omega)
  refine ⟨b, hb, ?_⟩
  by_cases q : 0 ≤ a1 ∧ a1 ≤ 8
  · rw [if_pos q] at hq ⊢
    exact Or.inl ⟨_, rfl, hq.2, hq.1.symm, ⟨S, hs, nx, L, T, h0, hk, hO, ⟨e6, hC.2⟩, hT, hH, hF, ⟨rfl, hX.2⟩, hP, hS, hR⟩⟩
  · rw [if_neg q] at hq ⊢
    exact Or.inr ⟨rfl, hq, ⟨S, hs, nx, L, T, h0, hk, hO, ⟨e6, hC.2⟩, hT, hH, hF, ⟨rfl, hX.2⟩, hP, hS, hR⟩⟩
theorem zk_order (hN : 20000 ≤ N) (hZ : zZ K M) (y1 : Int32) : zS_order N zZ K M y1 := by
  obtain ⟨S, hs, nx, L, T, h0, hk, hO, hC, hT, hH, hF, hX, hP, hS, hR⟩ := hZ
  obtain ⟨a1, rfl, hz1⟩ := iI_all y1
  have e6 := hC.1
  rw [e6] at hC
  have Z1 : zZ K M := ⟨S, hs, nx, L, T, h0, hk, hO, ⟨e6, hC.2⟩, hT, hH, hF, hX, hP, hS, hR⟩
  unfold zS_order
  rw [C_order h0.1 hO hz1]
  obtain ⟨b, hb, hq⟩ := M_order (N := N) (code := M.1) h0.1 hR hz1 (x0 := M.2.2.2.2.2.2.2.2.2.2.2.1) (f0 := M.2.2.2.2.2.2.2.2.2.2.2.2.2.2.2.1) (by omega)
  refine ⟨b, hb, ?_⟩
  by_cases q : 0 ≤ a1
  · rw [if_pos q] at hq ⊢
    exact Or.inl ⟨_, rfl, hq.2, hq.1.symm, ⟨S, hs, nx, L, T, h0, hk, hO, ⟨e6, hC.2⟩, hT, hH, hF, hX, hP, hS, hR⟩⟩
  · rw [if_neg q] at hq ⊢
    exact Or.inr ⟨rfl, hq, ⟨S, hs, nx, L, T, h0, hk, hO, ⟨e6, hC.2⟩, hT, hH, hF, hX, hP, hS, hR⟩⟩
theorem zk_timesPlayed (hN : 20000 ≤ N) (hZ : zZ K M) (y1 : Int32) : zS_timesPlayed N zZ K M y1 := by
  obtain ⟨S, hs, nx, L, T, h0, hk, hO, hC, hT, hH, hF, hX, hP, hS, hR⟩ := hZ
  obtain ⟨a1, rfl, hz1⟩ := iI_all y1
  have e6 := hC.1
  rw [e6] at hC
  have Z1 : zZ K M := ⟨S, hs, nx, L, T, h0, hk, hO, ⟨e6, hC.2⟩, hT, hH, hF, hX, hP, hS, hR⟩
  unfold zS_timesPlayed
  rw [e6, C_timesPlayed h0.1 hO hz1 (by omega)]
  obtain ⟨b, hb, hq⟩ := M_timesPlayed (N := N) (code := M.1) h0.1 hR hz1 (x0 := M.2.2.2.2.2.2.2.2.2.2.2.1) (f0 := M.2.2.2.2.2.2.2.2.2.2.2.2.2.2.2.1) (by omega)
  refine ⟨b, hb, ?_⟩
  by_cases q : 0 ≤ a1 ∧ a1 < S.1
  · rw [if_pos q] at hq ⊢
    exact Or.inl ⟨_, rfl, hq.2, hq.1.symm, ⟨S, hs, nx, L, T, h0, hk, hO, ⟨e6, hC.2⟩, hT, hH, hF, hX, hP, hS, hR⟩⟩
  · rw [if_neg q] at hq ⊢
    exact Or.inr ⟨rfl, hq, ⟨S, hs, nx, L, T, h0, hk, hO, ⟨e6, hC.2⟩, hT, hH, hF, hX, hP, hS, hR⟩⟩
theorem zk_nearestKey (hN : 20000 ≤ N) (hZ : zZ K M) (y1 : Int32) : zS_nearestKey N zZ K M y1 := by
  obtain ⟨S, hs, nx, L, T, h0, hk, hO, hC, hT, hH, hF, hX, hP, hS, hR⟩ := hZ
  obtain ⟨a1, rfl, hz1⟩ := iI_all y1
  have e6 := hC.1
  rw [e6] at hC
  have Z1 : zZ K M := ⟨S, hs, nx, L, T, h0, hk, hO, ⟨e6, hC.2⟩, hT, hH, hF, hX, hP, hS, hR⟩
  unfold zS_nearestKey
  rw [e6, C_nearestKey h0.1 hC hF hz1 (by omega)]
  obtain ⟨b, hb, hq0, hq⟩ := M_nearestKey (N := N) (code := M.1) h0.1 hR hz1 (by omega)
  refine ⟨b, hb, ?_⟩
  by_cases q : 0 ≤ a1 ∧ a1 < S.1
  · rw [if_pos q] at hq ⊢
    exact Or.inl ⟨_, rfl, hq.2, hq.1.symm, ⟨S, hs, nx, L, T, h0, hk, hO, ⟨e6, hC.2⟩, hT, hH, hF, hX, hP, hS, hq0⟩⟩
  · rw [if_neg q] at hq ⊢
    exact Or.inr ⟨rfl, hq, ⟨S, hs, nx, L, T, h0, hk, hO, ⟨e6, hC.2⟩, hT, hH, hF, hX, hP, hS, hq0⟩⟩
theorem zk_needlessSigns (hN : 20000 ≤ N) (hZ : zZ K M) (y1 : Int32) : zS_needlessSigns N zZ K M y1 := by
  obtain ⟨S, hs, nx, L, T, h0, hk, hO, hC, hT, hH, hF, hX, hP, hS, hR⟩ := hZ
  obtain ⟨a1, rfl, hz1⟩ := iI_all y1
  have e6 := hC.1
  rw [e6] at hC
  have Z1 : zZ K M := ⟨S, hs, nx, L, T, h0, hk, hO, ⟨e6, hC.2⟩, hT, hH, hF, hX, hP, hS, hR⟩
  unfold zS_needlessSigns
  rw [e6, C_needlessSigns h0.1 hC hF hz1 (by omega)]
  obtain ⟨b, hb, hq0, hq⟩ := M_needlessSigns (N := N) (code := M.1) h0.1 hR hz1 (by omega)
  refine ⟨b, hb, ?_⟩
  by_cases q : 0 ≤ a1 ∧ a1 < S.1
  · rw [if_pos q] at hq ⊢
    exact Or.inl ⟨_, rfl, hq.2, hq.1.symm, ⟨S, hs, nx, L, T, h0, hk, hO, ⟨e6, hC.2⟩, hT, hH, hF, hX, hP, hS, hq0⟩⟩
  · rw [if_neg q] at hq ⊢
    exact Or.inr ⟨rfl, hq, ⟨S, hs, nx, L, T, h0, hk, hO, ⟨e6, hC.2⟩, hT, hH, hF, hX, hP, hS, hq0⟩⟩
theorem zk_changedBy (hN : 20000 ≤ N) (hZ : zZ K M) (y1 : Int32) (y2 : Int32) : zS_changedBy N zZ K M y1 y2 := by
  obtain ⟨S, hs, nx, L, T, h0, hk, hO, hC, hT, hH, hF, hX, hP, hS, hR⟩ := hZ
  obtain ⟨a1, rfl, hz1⟩ := iI_all y1
  obtain ⟨a2, rfl, hz2⟩ := iI_all y2
  have e6 := hC.1
  rw [e6] at hC
  have Z1 : zZ K M := ⟨S, hs, nx, L, T, h0, hk, hO, ⟨e6, hC.2⟩, hT, hH, hF, hX, hP, hS, hR⟩
  unfold zS_changedBy
  rw [e6, C_changedBy h0.1 hC hF hz1 hz2 (by omega)]
  obtain ⟨b, hb, hq0, hq⟩ := M_changedBy (N := N) (code := M.1) h0.1 hR hz1 hz2 (by omega)
  refine ⟨b, hb, ?_⟩
  by_cases q : 0 ≤ a1 ∧ a1 < S.1
  · rw [if_pos q] at hq ⊢
    by_cases q2 : -7 ≤ a2 ∧ a2 ≤ 7
    · rw [if_pos q2] at hq ⊢
      exact Or.inl ⟨_, rfl, hq.2, hq.1.symm, ⟨S, hs, nx, L, T, h0, hk, hO, ⟨e6, hC.2⟩, hT, hH, hF, hX, hP, hS, hq0⟩⟩
    · rw [if_neg q2] at hq ⊢
      exact Or.inr (Or.inr ⟨rfl, hq, ⟨S, hs, nx, L, T, h0, hk, hO, ⟨e6, hC.2⟩, hT, hH, hF, hX, hP, hS, hq0⟩⟩)
  · rw [if_neg q] at hq ⊢
    exact Or.inr (Or.inl ⟨rfl, hq, ⟨S, hs, nx, L, T, h0, hk, hO, ⟨e6, hC.2⟩, hT, hH, hF, hX, hP, hS, hq0⟩⟩)
end ZMQ
