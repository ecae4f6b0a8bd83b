/-! ===== reading a text: the reference's events ===== -/
section ZNZ
variable {N L t w v k : Nat} {T : Nat → Int} {tb text cells rd : Nat → Int32} {a b c nb hk ht : Int32} {p : Nat × Nat} {s : pS} {lo hi : Int} {X : zSt} {x : zEv}
theorem st201 (f : Nat → Int32) (y : Int32) {j : Nat} (hj : j < 201) : zAst f 201 (iI j) y = some (upd f j y) := by
  rw [zAstI (by omega) (by omega) (by omega), Int.toNat_natCast]
theorem ld201 (f : Nat → Int32) {j : Nat} (hj : j < 201) : zAld f 201 (iI j) = some (f j) := by
  rw [zAldI (by omega) (by omega) (by omega), Int.toNat_natCast]
theorem iIn (j : Nat) (c : Nat) : iI (j : Int) + iI (c : Int) = iI ((j + c : Nat) : Int) := by
  rw [iI_add]; congr 1
/-- what stands in the four places of an event -/
def RD4 (rd : Nat → Int32) (j : Nat) (x : zEv) : Prop := rd j = iI x.1 ∧ rd (j + 1) = iI x.2.1 ∧ rd (j + 2) = iI x.2.2.1 ∧ rd (j + 3) = iI x.2.2.2
theorem duP_f (hT : okT T L) (h : okP T L s) (hs : s.1 ≠ -1000) : duP T L s = (0, s) := by
  have n : ∀ w, ¬ twP T w s := fun w y => hs y.1
  unfold duP
  rw [twS_neg (n 11), duL_5 (fun i _ => n _), if_neg (by omega), flS_1 hs]
end ZNZ
