/-! ===== reading a text: the reference's voices and the whole ===== -/
section ZOA
variable {N L t w v k : Nat} {T : Nat → Int} {tb text cells rd : Nat → Int32} {a b c nb hk ht : Int32} {p : Nat × Nat} {s : pS} {lo hi : Int} {X : zSt} {x : zEv}
theorem RDV_add (h : RDV X rd v) (hC : X.2.2.1 0 v < 24) {rd' : Nat → Int32} (hv : v < 2) (ho : ∀ k, k < 9 + 96 * v + 4 * X.2.2.1 0 v ∨ 9 + 96 * v + 4 * X.2.2.1 0 v + 4 ≤ k → rd' k = rd k) (hx : okE x) (h4 : RD4 rd' (9 + 96 * v + 4 * X.2.2.1 0 v) x) : RDV (setAd X 0 v x) rd' v := by
  refine ⟨by rw [setAd_C]; omega, fun e he => ?_⟩
  rcases setAd_lt he with ⟨-, -, rfl⟩ | ⟨q1, q2⟩
  · unfold RDe
    rw [setAd_E]
    exact ⟨h4, hx⟩
  · have hne : e ≠ X.2.2.1 0 v := by omega
    obtain ⟨g1, g2⟩ := h.2 e q2
    unfold RDe at g1 ⊢
    rw [setAd_Ene q1, ho _ (Or.inl (by omega)), ho _ (Or.inl (by omega)), ho _ (Or.inl (by omega)), ho _ (Or.inl (by omega))]
    exact ⟨g1, g2⟩
theorem okP_p (h : okP T L s) : (iI s.2.1.1 = iI s.2.1.1) := rfl
theorem evL_f {n : Nat} (hs : s.1 ≠ -1000) : evL T L v n s = s := evL_no (fun y => hs y.1) n
theorem v1S_f (hs : (tnS T L 1 2 (twS T L 9 s)).1 ≠ -1000) : v1S T L s = tnS T L 1 2 (twS T L 9 s) := esS_1 hs
theorem h4S_1 (hs : s.1 ≠ -1000) : h4S T L s = s := if_neg (fun y => hs y.1)
theorem h5S_1 (hs : s.1 ≠ -1000) : h5S T L s = s := if_neg (fun y => hs y.1)
theorem h6S_1 (hs : s.1 ≠ -1000) : h6S T L s = s := if_neg (fun y => hs y.1)
theorem voS_1 (hs : s.1 ≠ -1000) : voS T L s = s := if_neg (fun y => hs y.1)
theorem bkS_1 (hs : s.1 ≠ -1000) : bkS T L s = s := if_neg (fun y => hs y.1)
theorem enS_1 (hs : s.1 ≠ -1000) : enS T L s = s := by
  have e : ndS T L 19 s = s := by
    unfold ndS
    rw [if_neg (fun y => hs y.1), flS_1 hs]
  unfold enS
  rw [e, flS_1 hs]
  split <;> rfl
def tlS (T : Nat → Int) (L : Nat) (s : pS) : pS := enS T L (bkS T L (voS T L s))
theorem tlS_1 (hs : s.1 ≠ -1000) : tlS T L s = s := by
  unfold tlS
  rw [voS_1 hs, bkS_1 hs, enS_1 hs]
/-- the outcome of reading it all -/
def RF (u : pS) (hk ht ok fr : Int32) (rd : Nat → Int32) : Prop := (u.1 = -1000 ∧ ok = 1 ∧ RDA u.2.2 hk ht rd ∧ RDB u.2.2 rd) ∨ (u.1 ≠ -1000 ∧ ok = 0 ∧ fr = iI u.1)
end ZOA
