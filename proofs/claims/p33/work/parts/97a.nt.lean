/-! ===== reading a text: the reference's reader ===== -/
def RDe (X : zSt) (rd : Nat → Int32) (v e : Nat) : Prop := rd (9 + 96 * v + 4 * e) = iI (X.2.2.2 0 v e).1 ∧ rd (9 + 96 * v + 4 * e + 1) = iI (X.2.2.2 0 v e).2.1 ∧ rd (9 + 96 * v + 4 * e + 2) = iI (X.2.2.2 0 v e).2.2.1 ∧ rd (9 + 96 * v + 4 * e + 3) = iI (X.2.2.2 0 v e).2.2.2
def RDV (X : zSt) (rd : Nat → Int32) (v : Nat) : Prop := X.2.2.1 0 v ≤ 24 ∧ ∀ e, e < X.2.2.1 0 v → RDe X rd v e ∧ okE (X.2.2.2 0 v e)
def RDC (X : zSt) (rd : Nat → Int32) (v : Nat) : Prop := rd (7 + v) = iI (X.2.2.1 0 v)
def RDA (X : zSt) (hk ht : Int32) (rd : Nat → Int32) : Prop := X.2.1 0 3 = -100 ∧ (rd 4 = iI (X.2.1 0 4) ∧ rd 5 = iI (X.2.1 0 5) ∧ rd 6 = iI (X.2.1 0 6)) ∧ ((hk = 1 ∧ rd 0 = iI (X.2.1 0 0) ∧ -7 ≤ X.2.1 0 0 ∧ X.2.1 0 0 ≤ 7) ∨ (hk = 0 ∧ X.2.1 0 0 = -100)) ∧ ((ht = 1 ∧ rd 1 = iI (X.2.1 0 1) ∧ rd 2 = iI (X.2.1 0 2) ∧ (1 ≤ X.2.1 0 1 ∧ X.2.1 0 1 ≤ 12) ∧ (X.2.1 0 2 = 2 ∨ X.2.1 0 2 = 4 ∨ X.2.1 0 2 = 8 ∨ X.2.1 0 2 = 16)) ∨ (ht = 0 ∧ X.2.1 0 1 = -100 ∧ X.2.1 0 2 = -100)) ∧ (X.2.1 0 4 = 0 ∨ X.2.1 0 4 = 1) ∧ (X.2.1 0 5 = 0 ∨ 2 ≤ X.2.1 0 5 ∧ X.2.1 0 5 ≤ 4) ∧ (0 ≤ X.2.1 0 6 ∧ X.2.1 0 6 ≤ 4)
def RDB (X : zSt) (rd : Nat → Int32) : Prop := ∀ v, v < 2 → RDC X rd v ∧ RDV X rd v
def RP (u : pS) (hk ht ok fr to : Int32) (rd : Nat → Int32) : Prop := (u.1 = -1000 ∧ ok = 1 ∧ fr = iI u.2.1.1 ∧ to = iI u.2.1.2 ∧ RDA u.2.2 hk ht rd ∧ RDB u.2.2 rd) ∨ (u.1 ≠ -1000 ∧ ok = 0 ∧ fr = iI u.1)
section ZNY
variable {N L t w v k : Nat} {T : Nat → Int} {tb text cells rd : Nat → Int32} {a b c nb hk ht : Int32} {p : Nat × Nat} {s : pS} {lo hi : Int} {X : zSt} {x : zEv}
theorem tnS_pos (q : tnP T lo hi s) : tnS T L lo hi s = ad1 T L s := if_pos q
theorem tnS_neg (q : ¬ tnP T lo hi s) : tnS T L lo hi s = flS s := if_neg q
theorem flS_0 (h : s.1 = -1000) : flS s = ((s.2.1.1 : Int), s.2.1, s.2.2) := if_pos h
theorem fl_ne (s : pS) : ((s.2.1.1 : Int)) ≠ -1000 := by omega
theorem RDB_ext {rd' : Nat → Int32} (h : RDB X rd) (hr : ∀ k, 7 ≤ k → k < 201 → rd' k = rd k) : RDB X rd' := by
  intro v hv
  obtain ⟨h1, h2, h3⟩ := h v hv
  refine ⟨by unfold RDC; rw [hr _ (by omega) (by omega)]; exact h1, h2, fun e he => ?_⟩
  obtain ⟨g1, g2⟩ := h3 e he
  unfold RDe at g1 ⊢
  rw [hr _ (by omega) (by omega), hr _ (by omega) (by omega), hr _ (by omega) (by omega), hr _ (by omega) (by omega)]
  exact ⟨g1, g2⟩
theorem RDB_setV {y : Int} {r : Int32} (h : RDB X rd) (hk : k < 7) : RDB (setV X 0 k y) (upd rd k r) := RDB_ext (X := X) h (fun j h1 h2 => upd_ne _ _ (by omega))
theorem RDA_4 {y : Int} (h : RDA X hk ht rd) (hy : y = 0 ∨ y = 1) : RDA (setV X 0 4 y) hk ht (upd rd 4 (iI y)) := by
  obtain ⟨h1, h2, h3, h4, h5, h6, h7⟩ := h
  exact ⟨h1, ⟨rfl, h2.2⟩, h3, h4, hy, h6, h7⟩
theorem RDA_5 {y : Int} (h : RDA X hk ht rd) (hy : y = 0 ∨ 2 ≤ y ∧ y ≤ 4) : RDA (setV X 0 5 y) hk ht (upd rd 5 (iI y)) := by
  obtain ⟨h1, h2, h3, h4, h5, h6, h7⟩ := h
  exact ⟨h1, ⟨h2.1, rfl, h2.2.2⟩, h3, h4, h5, hy, h7⟩
theorem RDA_6 {y : Int} (h : RDA X hk ht rd) (hy : 0 ≤ y ∧ y ≤ 4) : RDA (setV X 0 6 y) hk ht (upd rd 6 (iI y)) := by
  obtain ⟨h1, h2, h3, h4, h5, h6, h7⟩ := h
  exact ⟨h1, ⟨h2.1, h2.2.1, rfl⟩, h3, h4, h5, h6, hy⟩
theorem RDA_0 {y : Int} {rd' : Nat → Int32} (h : RDA X hk ht rd) (hy : -7 ≤ y ∧ y ≤ 7) (hr : rd' 0 = iI y) (ho : ∀ k, 0 < k → rd' k = rd k) : RDA (setV X 0 0 y) 1 ht rd' := by
  obtain ⟨h1, h2, h3, h4, h5, h6, h7⟩ := h
  refine ⟨h1, ?_, Or.inl ⟨rfl, hr, hy⟩, ?_, h5, h6, h7⟩
  · rw [ho 4 (by omega), ho 5 (by omega), ho 6 (by omega)]; exact h2
  · rw [ho 1 (by omega), ho 2 (by omega)]; exact h4
theorem RDB_0 {y : Int} {rd' : Nat → Int32} (h : RDB X rd) (ho : ∀ k, 0 < k → rd' k = rd k) : RDB (setV X 0 0 y) rd' := RDB_ext (X := X) h (fun j h1 h2 => ho _ (by omega))
theorem RDA_12 {y z : Int} (h : RDA X hk ht rd) (hy : 1 ≤ y ∧ y ≤ 12) (hz : z = 2 ∨ z = 4 ∨ z = 8 ∨ z = 16) : RDA (setV (setV X 0 1 y) 0 2 z) hk 1 (upd (upd rd 1 (iI y)) 2 (iI z)) := by
  obtain ⟨h1, h2, h3, h4, h5, h6, h7⟩ := h
  exact ⟨h1, h2, h3, Or.inl ⟨rfl, rfl, rfl, hy, hz⟩, h5, h6, h7⟩
end ZNY
