section ZMU
variable {N : Nat} {S X : zSt} {st cells shifts held past pf : Nat → Int32} {size code pn : Int32} {m v e k i j nx : Nat} {hs : List zSt}
theorem X10_saves51 {r : Int32 × (Nat → Int32)} {n : Nat} (hn : n < 4) (hr : r.1 = iI n) (hN : 12000 ≤ N) : zT (zLoop (f_X10_saves_B51 N st r) N (0, r.2)) (fun q => ∀ k, q k = if 3217 * n ≤ k ∧ k < 3217 * n + 3217 then st (k - 3217 * n) else r.2 k) := by
  obtain ⟨r1, r2⟩ := r
  dsimp only at hr ⊢
  subst hr
  refine zT_loop (fun l s => ∃ j : Nat, j ≤ 3217 ∧ l = 3217 - j ∧ s.1 = iI j ∧ ∀ k, s.2 k = if 3217 * n ≤ k ∧ k < 3217 * n + j then st (k - 3217 * n) else r2 k) ?_ N 3217 (0, r2) (by omega) ⟨0, by omega, rfl, rfl, fun k => (by rw [if_neg (by omega)])⟩
  rintro l ⟨s1, p⟩ c ⟨j, hj, rfl, q1, hp⟩ ih
  dsimp only at q1 hp
  subst q1
  unfold f_X10_saves_B51
  dsimp only
  refine zT_ite (fun q => ?_) (fun q => ?_)
  · rw [iL3217, iI_lt (by omega) (by omega) (by omega) (by omega)] at q
    rw [zAldI (by omega) (by omega) (by omega)]
    refine zT_bindE rfl ?_
    rw [iL3217, iI_mul, iI_add, zAstI (by omega) (by omega) (by omega)]
    refine zT_bindE rfl (zT_bindE rfl (ih (3217 - (j + 1)) _ (by omega) ⟨j + 1, by omega, rfl, iIp1 _, fun k => ?_⟩))
    dsimp only
    rw [upd_at, Int.toNat_natCast, show ((3217 : Int) * n + j).toNat = 3217 * n + j by omega, hp]
    by_cases q1 : k = 3217 * n + j
    · rw [if_pos q1, if_pos (by omega), q1, show 3217 * n + j - 3217 * n = j by omega]
    · rw [if_neg q1]
      by_cases q2 : 3217 * n ≤ k ∧ k < 3217 * n + j
      · rw [if_pos q2, if_pos (by omega)]
      · rw [if_neg q2, if_neg (by omega)]
  · rw [iL3217, iI_lt (by omega) (by omega) (by omega) (by omega)] at q
    obtain rfl : j = 3217 := by omega
    exact zT_some hp
theorem X10_saves (hS : okS S) (hR : RM S st) (hok : ∀ Y, Y ∈ hs → okS Y) (hl : hs.length ≤ 4) (hP : zPa hs past) (hN : 12000 ≤ N) : zT (f_X10_saves N (iI hs.length) past st) (fun r => r.1 = iI ((S :: hs).take 4).length ∧ zPa ((S :: hs).take 4) r.2) := by
  unfold f_X10_saves
  have hlen := take4_len (S := S) hl
  by_cases q4 : hs.length = 4
  · rw [if_pos (by rw [q4]; rfl)]
    refine zT_bind (zT_bind (zT_mono (X10_saves10 hN) (fun p hp => zT_bindE rfl (zT_some ?_))))
    refine zT_bind (zT_mono (X10_saves51 (n := 3) (by omega) (by rw [q4]; rfl) hN) (fun p2 hp2 => zT_bindE rfl (zT_some ⟨?_, ?_⟩)))
    · rw [hlen, if_pos q4, q4]; rfl
    · intro i Y hY
      rw [hlen, if_pos q4]
      rw [List.getElem?_take] at hY
      split at hY
      · next q =>
        match i, q, hY with
        | 0, q, hY =>
          have : S = Y := by simpa using hY
          subst this
          refine RM_ext hS.1 hR (fun j hj => ?_)
          dsimp only
          rw [hp2, if_pos (by omega)]
          rw [show 3217 * (4 - 1 - 0) + j - 3217 * 3 = j by omega]
        | i + 1, q, hY =>
          have hY : hs[i]? = some Y := by simpa using hY
          refine RM_ext (hok Y (List.mem_of_getElem? hY)).1 (hP i Y hY) (fun j hj => ?_)
          dsimp only
          rw [hp2, if_neg (by omega)]
          show p _ = _
          rw [hp, if_pos (by omega), q4]
          congr 1; omega
      · cases hY
  · rw [if_neg (by rw [iL4, iI_eq (by omega) (by omega) (by omega) (by omega)]; omega)]
    refine zT_bindE rfl (zT_bind (zT_mono (X10_saves51 (n := hs.length) (by omega) rfl hN) (fun p2 hp2 => zT_bindE rfl (zT_some ⟨?_, ?_⟩))))
    · rw [hlen, if_neg q4]
      exact iIp1 _
    · intro i Y hY
      rw [hlen, if_neg q4]
      rw [List.getElem?_take] at hY
      split at hY
      · next q =>
        match i, q, hY with
        | 0, q, hY =>
          have : S = Y := by simpa using hY
          subst this
          refine RM_ext hS.1 hR (fun j hj => ?_)
          dsimp only
          rw [hp2, if_pos (by omega)]
          congr 1; omega
        | i + 1, q, hY =>
          have hY : hs[i]? = some Y := by simpa using hY
          have hi : i < hs.length := (List.getElem?_eq_some_iff.mp hY).1
          refine RM_ext (hok Y (List.mem_of_getElem? hY)).1 (hP i Y hY) (fun j hj => ?_)
          dsimp only
          rw [hp2, if_neg (by omega)]
          show past _ = _
          congr 1; omega
      · cases hY
theorem X10_undo33 {n : Nat} (hn : n < 4) (hN : 12000 ≤ N) : zT (zLoop (f_X10_undo_B33 N past (iI n)) N (0, st)) (fun q => ∀ k, k < 3217 → q k = past (3217 * n + k)) := by
  refine zT_loop (fun l s => ∃ j : Nat, j ≤ 3217 ∧ l = 3217 - j ∧ s.1 = iI j ∧ ∀ k, k < j → s.2 k = past (3217 * n + k)) ?_ N 3217 (0, st) (by omega) ⟨0, by omega, rfl, rfl, fun k hk => absurd hk (Nat.not_lt_zero k)⟩
  rintro l ⟨s1, p⟩ c ⟨j, hj, rfl, q1, hp⟩ ih
  dsimp only at q1 hp
  subst q1
  unfold f_X10_undo_B33
  dsimp only
  refine zT_ite (fun q => ?_) (fun q => ?_)
  · rw [iL3217, iI_lt (by omega) (by omega) (by omega) (by omega)] at q
    rw [iL3217, iI_mul, iI_add, zAldI (by omega) (by omega) (by omega)]
    refine zT_bindE rfl ?_
    rw [zAstI (by omega) (by omega) (by omega)]
    refine zT_bindE rfl (zT_bindE rfl (ih (3217 - (j + 1)) _ (by omega) ⟨j + 1, by omega, rfl, iIp1 _, fun k hk => ?_⟩))
    dsimp only
    rw [upd_at, Int.toNat_natCast, show ((3217 : Int) * n + j).toNat = 3217 * n + j by omega]
    by_cases q1 : k = j
    · rw [if_pos q1, q1]
    · rw [if_neg q1]
      exact hp k (by omega)
  · rw [iL3217, iI_lt (by omega) (by omega) (by omega) (by omega)] at q
    obtain rfl : j = 3217 := by omega
    exact zT_some hp
end ZMU
