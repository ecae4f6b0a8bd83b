/-! ===== sentences: a whole measure, by the reference ===== -/
def RLn (W : List (List Int)) (l : Int32 × (Nat → Int32)) : Prop := RB (zwR W) l.1 l.2 ∧ ∀ w, w ∈ W → w ≠ []
section ZNS
variable {N : Nat} {S : zSt} {st cells : Nat → Int32} {W V : List (List Int)} {l : Int32 × (Nat → Int32)} {m v e w : Nat} {x : Int} {y : zEv}
theorem ne_snoc {w : List Int} (h : ∀ w, w ∈ W → w ≠ []) (hw : 1 ≤ w.length) : ∀ v, v ∈ W ++ [w] → v ≠ [] := by
  intro v hv
  rcases List.mem_append.mp hv with q | q
  · exact h v q
  · rw [List.mem_singleton.mp q]
    intro y
    rw [y] at hw
    exact absurd hw (by decide)
theorem voW_mono {k : Nat} (W : List (List Int)) (he : e ≤ k) : (zwS (W ++ voW S m v e)).length ≤ (zwS (W ++ voW S m v k)).length := by
  unfold voW
  by_cases q : e = 0
  · rw [if_pos q, List.append_nil]
    exact zwS_le
  · rw [if_neg q, if_neg (by omega), ← List.append_assoc, ← List.append_assoc]
    have := voE_mono (S := S) (m := m) (v := v) (e := e) (W ++ [zwB 9, nmW ((v : Int) + 1)]) (k - e)
    rw [show e + (k - e) = k by omega] at this
    exact this
end ZNS
