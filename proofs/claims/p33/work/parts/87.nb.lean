section ZNC
variable {N : Nat} {S X : zSt} {st cells shifts held past pf : Nat → Int32} {size code pn : Int32} {m v e k i j nx : Nat} {hs : List zSt}
theorem C_rqRoom (h : okC S) (hR : RC S (iI S.1) cells) {a b : Int} (ha : zInt a) (hb : zInt b) : f_X9_requireRoom N (iI S.1) cells (iI a) (iI b) = if gC S a b < 24 then some (.inl ()) else some (.inr 2) := by
  have hg := gC_b h a b
  have hl : (iI (gC S a b) < 24) = (gC S a b < 24) := iI_lt (b := 24) (by omega) (by omega) (by omega) (by omega)
  unfold f_X9_requireRoom
  rw [z_be (X4_count h hR ha hb)]
  by_cases q : gC S a b < 24
  · rw [if_pos q, if_pos (by rw [hl]; exact q)]
  · rw [if_neg q, if_neg (by rw [hl]; exact q)]
end ZNC
