section ZNB
variable {N : Nat} {S X : zSt} {st cells shifts held past pf : Nat → Int32} {size code pn : Int32} {m v e k i j nx : Nat} {hs : List zSt} {x : zEv}
/-- the reference's row with an event more -/
abbrev adM (S : zSt) (m v : Nat) (x : zEv) (st : Nat → Int32) : Nat → Int32 := upd (upd (upd (upd (upd st (201 * m + 10 + 96 * v + 4 * S.2.2.1 m v) (iI x.1)) (201 * m + 10 + 96 * v + 4 * S.2.2.1 m v + 1) (iI x.2.1)) (201 * m + 10 + 96 * v + 4 * S.2.2.1 m v + 2) (iI x.2.2.1)) (201 * m + 10 + 96 * v + 4 * S.2.2.1 m v + 3) (iI x.2.2.2)) (201 * m + 8 + v) (iI ((S.2.2.1 m v + 1 : Nat) : Int))
theorem adM_off {p : Nat} (h0 : p ≠ 201 * m + 8 + v) (h : ∀ c, c < 4 → p ≠ 201 * m + 10 + 96 * v + 4 * S.2.2.1 m v + c) : adM S m v x st p = st p := by
  have a0 := h 0 (by omega)
  have a1 := h 1 (by omega)
  have a2 := h 2 (by omega)
  have a3 := h 3 (by omega)
  rw [Nat.add_zero] at a0
  unfold adM
  rw [upd_ne _ _ h0, upd_ne _ _ a3, upd_ne _ _ a2, upd_ne _ _ a1, upd_ne _ _ a0]
end ZNB
