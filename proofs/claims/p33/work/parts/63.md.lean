/-! ===== crossings ===== -/
def togS (S : zSt) (m i j : Nat) : Int :=
  let lo := if gT S m 0 i < gT S m 1 j then gT S m 1 j else gT S m 0 i
  let hi := if gT S m 0 (i + 1) < gT S m 1 (j + 1) then gT S m 0 (i + 1) else gT S m 1 (j + 1)
  let to := if hi < gL S m then hi else gL S m
  if lo < to then to - lo else 0
def crX (S : zSt) (m i j : Nat) : Int := if (0 ≤ (S.2.2.2 m 0 i).1 ∧ 0 ≤ (S.2.2.2 m 1 j).1) ∧ soS S m 0 i < soS S m 1 j then togS S m i j else 0
def crJ (S : zSt) (m i : Nat) : Nat → Int
  | 0 => 0
  | j + 1 => crJ S m i j + crX S m i j
def crI (S : zSt) (m : Nat) : Nat → Int
  | 0 => 0
  | i + 1 => crI S m i + crJ S m i (S.2.2.1 m 1)
section ZMD
variable {N : Nat} {S : zSt} {st cells shifts held : Nat → Int32} {size code : Int32} {m v e k i j : Nat}
theorem ifI {α : Type} {x y : Int} (h1 : -2147483648 ≤ x) (h2 : x ≤ 2147483647) (h3 : -2147483648 ≤ y) (h4 : y ≤ 2147483647) {A B : α} : (if iI x < iI y then A else B) = (if x < y then A else B) := by
  by_cases q : x < y
  · rw [if_pos q, if_pos (by rw [iI_lt h1 h2 h3 h4]; exact q)]
  · rw [if_neg q, if_neg (by rw [iI_lt h1 h2 h3 h4]; exact q)]
theorem soS_b (h : okC S) (hm : m < S.1) (hv : v < 2) (he : e < S.2.2.1 m v) : -20 ≤ soS S m v e ∧ soS S m v e ≤ 200 := by
  have hx := okE_b (okC_ev h hm hv he)
  have hs := shS_b (S := S) m v e
  unfold soS
  split <;> omega
theorem togS_b (h : okS S) (hm : m < S.1) (hi : i < S.2.2.1 m 0) (hj : j < S.2.2.1 m 1) : 0 ≤ togS S m i j ∧ togS S m i j ≤ 10000 := by
  have b1 := gT_b h.1 hm (show 0 < 2 by omega) i (by omega)
  have b2 := gT_b h.1 hm (show 1 < 2 by omega) j (by omega)
  have bl := gL_b h hm
  unfold togS
  dsimp only
  have b5 : 0 ≤ (if gT S m 0 i < gT S m 1 j then gT S m 1 j else gT S m 0 i) := by split <;> omega
  generalize (if gT S m 0 i < gT S m 1 j then gT S m 1 j else gT S m 0 i) = x at b5 ⊢
  generalize (if gT S m 0 (i + 1) < gT S m 1 (j + 1) then gT S m 0 (i + 1) else gT S m 1 (j + 1)) = y
  have b6 : (if y < gL S m then y else gL S m) ≤ gL S m := by split <;> omega
  generalize (if y < gL S m then y else gL S m) = z at b6 ⊢
  split <;> omega
theorem togS_cls (h : okS S) (hm : m < S.1) (hi : i < S.2.2.1 m 0) (hj : j < S.2.2.1 m 1) : zMax (zMin (iI (gT S m 1 (j + 1))) (zMin (iI (gT S m 0 (i + 1))) (iI (gL S m))) - zMax (iI (gT S m 1 j)) (iI (gT S m 0 i))) 0 = iI (togS S m i j) := by
  have b1 := gT_b h.1 hm (show 0 < 2 by omega) i (by omega)
  have b2 := gT_b h.1 hm (show 1 < 2 by omega) j (by omega)
  have b3 := gT_b h.1 hm (show 0 < 2 by omega) (i + 1) (by omega)
  have b4 := gT_b h.1 hm (show 1 < 2 by omega) (j + 1) (by omega)
  have hC0 := okC_C h.1 hm (show 0 < 2 by omega)
  have hC1 := okC_C h.1 hm (show 1 < 2 by omega)
  have bl := gL_b h hm
  unfold togS
  dsimp only
  generalize gT S m 0 i = a1 at b1 ⊢
  generalize gT S m 1 j = a2 at b2 ⊢
  generalize gT S m 0 (i + 1) = a3 at b3 ⊢
  generalize gT S m 1 (j + 1) = a4 at b4 ⊢
  generalize gL S m = a7 at bl ⊢
  rw [zMinI (by omega) (by omega) (by omega) (by omega), zMinI (by omega) (by omega) (by split <;> omega) (by split <;> omega), zMaxI (by omega) (by omega) (by omega) (by omega), iI_sub, iL0, zMaxI (by (repeat' split) <;> omega) (by (repeat' split) <;> omega) (by omega) (by omega)]
  congr 1
  (repeat' split) <;> omega
end ZMD
