/-! ===== the order in which the measures are played ===== -/
abbrev zOr : Type := Nat × Int × Nat × Bool × Nat × (Nat → Int)
abbrev anP (S : zSt) (pl : Nat) (bk : Bool) : Prop := bk = false ∧ (S.2.1 pl 4 = 1 ∨ (S.2.1 pl 6 = 0 ∧ 0 < pl ∧ ¬ S.2.1 (pl - 1) 6 = 0))
def oA (S : zSt) (sa : Nat) (tm : Int) (pl : Nat) (bk : Bool) : Nat × Int := if anP S pl bk then (pl, 1) else (sa, tm)
def oStep (S : zSt) (o : zOr) : zOr :=
  let a := oA S o.1 o.2.1 o.2.2.1 o.2.2.2.1
  if ¬ S.2.1 o.2.2.1 6 = 0 ∧ ¬ S.2.1 o.2.2.1 6 = a.2 then (a.1, a.2, o.2.2.1 + 1, false, o.2.2.2.2.1, o.2.2.2.2.2)
  else if S.2.1 o.2.2.1 5 = 0 then (a.1, a.2, o.2.2.1 + 1, false, o.2.2.2.2.1 + 1, fun i => if i = o.2.2.2.2.1 then o.2.2.1 else o.2.2.2.2.2 i)
  else if a.2 < S.2.1 o.2.2.1 5 then (a.1, a.2 + 1, a.1, true, o.2.2.2.2.1 + 1, fun i => if i = o.2.2.2.2.1 then o.2.2.1 else o.2.2.2.2.2 i)
  else (o.2.2.1 + 1, 1, o.2.2.1 + 1, false, o.2.2.2.2.1 + 1, fun i => if i = o.2.2.2.2.1 then o.2.2.1 else o.2.2.2.2.2 i)
def oRun (S : zSt) : Nat → zOr → zOr
  | 0, o => o
  | k + 1, o => if o.2.2.1 < S.1 ∧ o.2.2.2.2.1 < 200 then oRun S k (oStep S o) else o
def oEnd (S : zSt) : zOr := oRun S 3417 (0, 1, 0, false, 0, fun _ => 0)
def oI (S : zSt) (k : Nat) (o : zOr) : Prop := oEnd S = oRun S k o ∧ k ≤ 3417 ∧ 3417 ≤ k + 17 * o.2.2.2.2.1 + o.2.2.1 ∧ o.1 ≤ S.1 ∧ o.2.2.1 ≤ S.1 ∧ (1 ≤ o.2.1 ∧ o.2.1 ≤ 4) ∧ o.2.2.2.2.1 ≤ 200 ∧ ∀ i, i < o.2.2.2.2.1 → 0 ≤ o.2.2.2.2.2 i ∧ o.2.2.2.2.2 i < S.1
section ZMK
variable {N : Nat} {S : zSt} {st cells shifts held : Nat → Int32} {size code : Int32} {m v e k i j : Nat}
theorem oRun_end {o : zOr} (h : ¬ (o.2.2.1 < S.1 ∧ o.2.2.2.2.1 < 200)) (k : Nat) : oRun S k o = o := by
  cases k with
  | zero => rfl
  | succ k => rw [oRun, if_neg h]
theorem oI_0 : oI S 3417 (0, 1, 0, false, 0, fun _ => 0) := ⟨rfl, Nat.le_refl _, Nat.le_refl _, Nat.zero_le _, Nat.zero_le _, ⟨by dsimp only; omega, by dsimp only; omega⟩, Nat.zero_le _, fun i hi => absurd hi (Nat.not_lt_zero i)⟩
theorem oI_pos {o : zOr} (h1 : S.1 ≤ 16) (hI : oI S k o) (h : o.2.2.1 < S.1 ∧ o.2.2.2.2.1 < 200) : 0 < k := by
  obtain ⟨-, -, h3, -⟩ := hI
  omega
theorem oA_b {sa pl : Nat} {tm : Int} {bk : Bool} (h1 : sa ≤ S.1) (h2 : pl < S.1) (h3 : 1 ≤ tm ∧ tm ≤ 4) : (oA S sa tm pl bk).1 ≤ S.1 ∧ 1 ≤ (oA S sa tm pl bk).2 ∧ (oA S sa tm pl bk).2 ≤ 4 := by
  unfold oA
  split
  · dsimp only; omega
  · dsimp only; omega
theorem oI_step (h : okS S) {o : zOr} (hI : oI S (k + 1) o) (hc : o.2.2.1 < S.1 ∧ o.2.2.2.2.1 < 200) : oI S k (oStep S o) := by
  obtain ⟨q1, q2, q3, q4, q5, q6, q7, q8⟩ := hI
  have h1 := h.1.1
  rw [oRun, if_pos hc] at q1
  have hV := h.2 _ hc.1
  unfold okV at hV
  have ha := oA_b (bk := o.2.2.2.1) q4 hc.1 q6
  have hf : ∀ i, i < o.2.2.2.2.1 + 1 → 0 ≤ (if i = o.2.2.2.2.1 then (o.2.2.1 : Int) else o.2.2.2.2.2 i) ∧ (if i = o.2.2.2.2.1 then (o.2.2.1 : Int) else o.2.2.2.2.2 i) < S.1 := by
    intro i hi
    split
    · omega
    · exact q8 i (by omega)
  refine ⟨q1, by omega, ?_⟩
  clear q1
  unfold oStep
  dsimp only
  generalize oA S o.1 o.2.1 o.2.2.1 o.2.2.2.1 = a at ha ⊢
  split
  · exact ⟨by dsimp only; omega, ha.1, by dsimp only; omega, ha.2, q7, q8⟩
  · split
    · exact ⟨by dsimp only; omega, ha.1, by dsimp only; omega, ha.2, by dsimp only; omega, hf⟩
    · split
      · exact ⟨by dsimp only; omega, ha.1, ha.1, by dsimp only; omega, by dsimp only; omega, hf⟩
      · exact ⟨by dsimp only; omega, by dsimp only; omega, by dsimp only; omega, by dsimp only; omega, by dsimp only; omega, hf⟩
end ZMK
