section ZMR
variable {N : Nat} {S : zSt} {st cells shifts held tb text : Nat → Int32} {size code pn : Int32} {m v e k i j L : Nat} {T : Nat → Int} {K : zKT}
theorem narB : ∀ n : Nat, n < 128 → vp_nar .byte ((Int32.ofNat n).toInt8.toInt32) = Int32.ofNat n := by decide +kernel
theorem C_type {a : Int} (ha : zInt a) (hL : L ≤ 600) : f_X9_type N (iI L) tb (iI a) = if 0 ≤ a ∧ a ≤ 127 then (if L < 600 then some (.inl (iI ((L + 1 : Nat) : Int), iI ((L + 1 : Nat) : Int), upd tb L (iI a))) else some (.inr 2)) else some (.inr 1) := by
  have hl : (iI (L : Int) < 600) = ((L : Int) < 600) := iI_lt (b := 600) (by omega) (by omega) (by omega) (by omega)
  unfold f_X9_type
  have hr : f_X9_requireRange N (iI a) 0 127 = if 0 ≤ a ∧ a ≤ 127 then some (.inl ()) else some (.inr 1) := C_rqR (a := 0) (b := 127) ha (by unfold zInt; omega) (by unfold zInt; omega)
  rw [zSub_rq hr]
  by_cases q : 0 ≤ a ∧ a ≤ 127
  · rw [if_pos q, if_pos q, z_be (show f_X7_length N (iI L) = some (iI L) from rfl)]
    by_cases q2 : L < 600
    · obtain ⟨n, rfl⟩ := Int.eq_ofNat_of_zero_le q.1
      rw [if_pos (by rw [hl]; omega), if_pos q2]
      unfold f_X7_append
      rw [if_pos (by rw [hl]; omega), zBstI (by omega) (by omega) (by omega), Int.toNat_natCast, ← iI_ofNat n, narB n (by omega), z_sb, z_sb, iIp1]
      rfl
    · rw [if_neg (by rw [hl]; omega), if_neg q2]
  · rw [if_neg q, if_neg q]
theorem C_cut {a : Int} (ha : zInt a) (hL : L ≤ 600) : f_X9_cut N (iI L) (iI a) = if 1 ≤ a ∧ a ≤ 600 then (if (L : Int) < a then some (.inr 2) else some (.inl (iI ((L - a.toNat : Nat) : Int), iI ((L - a.toNat : Nat) : Int)))) else some (.inr 1) := by
  unfold f_X9_cut
  have hr : f_X9_requireRange N (iI a) 1 600 = if 1 ≤ a ∧ a ≤ 600 then some (.inl ()) else some (.inr 1) := C_rqR (a := 1) (b := 600) ha (by unfold zInt; omega) (by unfold zInt; omega)
  rw [zSub_rq hr]
  by_cases q : 1 ≤ a ∧ a ≤ 600
  · rw [if_pos q, if_pos q, z_be (show f_X7_length N (iI L) = some (iI L) from rfl), ifI (by omega) (by omega) (by omega) (by omega)]
    by_cases q2 : (L : Int) < a
    · rw [if_pos q2, if_pos q2]
    · rw [if_neg q2, if_neg q2]
      unfold f_X7_shorten
      rw [iI_sub, iL0, zMaxI (by omega) (by omega) (by omega) (by omega), if_neg (by omega), show (L : Int) - a = ((L - a.toNat : Nat) : Int) by omega]
      rfl
  · rw [if_neg q, if_neg q]
theorem zTx_add {f : Nat → Int32} {n : Int32} (h : zTx L T n f) (a : Int) : zTx (L + 1) (fun i => if i = L then a else T i) (iI ((L + 1 : Nat) : Int)) (upd f L (iI a)) := by
  refine ⟨rfl, fun i hi => ?_⟩
  rw [upd_at]
  dsimp only
  by_cases q : i = L
  · rw [if_pos q, if_pos q]
  · rw [if_neg q, if_neg q]
    exact h.2 i (by omega)
theorem zTx_less {f : Nat → Int32} {n : Int32} (h : zTx L T n f) {l : Nat} (hl : l ≤ L) : zTx l T (iI l) f := ⟨rfl, fun i hi => h.2 i (by omega)⟩
end ZMR
