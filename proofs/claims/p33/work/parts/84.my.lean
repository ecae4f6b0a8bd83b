section ZMZ
variable {N : Nat} {S X : zSt} {hs : List zSt} {K : zKT}
theorem take4_le : ((S :: hs).take 4).length ≤ 4 := by
  rw [List.length_take]
  omega
theorem take4_ok (h : okS S) (hok : ∀ Y, Y ∈ hs → okS Y) : ∀ Y, Y ∈ (S :: hs).take 4 → okS Y := by
  intro Y hY
  rcases List.mem_cons.mp (List.mem_of_mem_take hY) with rfl | hY
  · exact h
  · exact hok Y hY
end ZMZ
