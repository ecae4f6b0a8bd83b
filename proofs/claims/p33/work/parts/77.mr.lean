/-! ===== the states that can be taken back ===== -/
section ZMS
variable {N : Nat} {S X : zSt} {st cells shifts held past : Nat → Int32} {size code pn : Int32} {m v e k i j nx : Nat} {hs : List zSt}
theorem RC_ext {c c' : Nat → Int32} {sz : Int32} (h : okC X) (hR : RC X sz c) (hc : ∀ j, j < 57 * X.1 → c' j = c j) : RC X sz c' := by
  refine ⟨hR.1, fun m hm => ⟨fun k hk => ?_, fun v hv => ⟨?_, fun e he => ?_⟩⟩⟩
  · rw [hc _ (by omega)]; exact (hR.2 m hm).1 k hk
  · rw [hc _ (by omega)]; exact ((hR.2 m hm).2 v hv).1
  · have := okC_C h hm hv
    rw [hc _ (by omega)]; exact ((hR.2 m hm).2 v hv).2 e he
theorem X4_copyFrom {c0 c : Nat → Int32} {z0 sz : Int32} (h : okC X) (hR : RC X sz c) : zT (f_X4_copyFrom N z0 c0 sz c) (fun r => RC X r.1 r.2) := by
  have h1 := h.1
  unfold f_X4_copyFrom
  rw [hR.1, iL57, iI_mul, iL0, zCpyI (by omega) (by omega) (by omega) (by omega) (by omega) (by omega) (by omega)]
  refine zT_bindE rfl (zT_some ?_)
  rw [← hR.1]
  refine RC_ext h hR (fun j hj => ?_)
  show va_cpy c c0 (Int.toNat 0) (Int.toNat 0) ((X.1 : Int) * 57).toNat j = c j
  rw [zcpy_at, if_pos (by omega)]
  congr 1
  omega
theorem zRg_push {sl sl' : Nat → Int32 × (Nat → Int32)} (hnx : nx < 4) (hl : hs.length ≤ 4) (hnew : RC S (sl' nx).1 (sl' nx).2) (hold : ∀ j, j < 4 → j ≠ nx → sl' j = sl j) (hG : zRg hs nx sl) : zRg ((S :: hs).take 4) ((nx + 1) % 4) sl' := by
  intro i Y hY
  rw [List.getElem?_take] at hY
  split at hY
  · next q =>
    match i, q, hY with
    | 0, q, hY =>
      have : S = Y := by simpa using hY
      subst this
      rw [show ((nx + 1) % 4 + 3 - 0) % 4 = nx by omega]
      exact hnew
    | i + 1, q, hY =>
      have hY : hs[i]? = some Y := by simpa using hY
      rw [show ((nx + 1) % 4 + 3 - (i + 1)) % 4 = (nx + 3 - i) % 4 by omega, hold _ (by omega) (by omega)]
      exact hG i Y hY
  · cases hY
theorem zRg_pop {sl : Nat → Int32 × (Nat → Int32)} (hnx : nx < 4) (hl : (X :: hs).length ≤ 4) (hG : zRg (X :: hs) nx sl) : zRg hs ((nx + 3) % 4) sl := by
  intro i Y hY
  have hi : i < hs.length := (List.getElem?_eq_some_iff.mp hY).1
  have hl2 : hs.length ≤ 3 := by simpa using hl
  have := hG (i + 1) Y (by simpa using hY)
  rw [show ((nx + 3) % 4 + 3 - i) % 4 = (nx + 3 - (i + 1)) % 4 by omega]
  exact this
theorem take4_len (hl : hs.length ≤ 4) : ((S :: hs).take 4).length = if hs.length = 4 then 4 else hs.length + 1 := by
  rw [List.length_take, List.length_cons]
  split <;> omega
theorem X1_push {sz n0 n1 n2 n3 : Int32} {c c0 c1 c2 c3 : Nat → Int32} (h : okC S) (hR : RC S sz c) (hnx : nx < 4) (hl : hs.length ≤ 4) (hG : zRg hs nx (zSl n0 n1 n2 n3 c0 c1 c2 c3)) : zT (f_X1_push N (iI nx) (iI hs.length) n0 n1 n2 n3 c0 c1 c2 c3 sz c) (fun r => r.1 = iI ((nx + 1) % 4 : Nat) ∧ r.2.1 = iI ((S :: hs).take 4).length ∧ zRg ((S :: hs).take 4) ((nx + 1) % 4) (zSl r.2.2.1 r.2.2.2.1 r.2.2.2.2.1 r.2.2.2.2.2.1 r.2.2.2.2.2.2.1 r.2.2.2.2.2.2.2.1 r.2.2.2.2.2.2.2.2.1 r.2.2.2.2.2.2.2.2.2)) := by
  have em : zMin (iI (hs.length : Int) + 1) 4 = iI ((S :: hs).take 4).length := by
    rw [iIp1, iL4, zMinI (by omega) (by omega) (by omega) (by omega), take4_len hl]
    congr 1
    split <;> split <;> omega
  have er : zRem (iI (nx : Int) + 1) 4 = some (iI ((nx + 1) % 4 : Nat)) := by
    rw [iIp1, iL4, zRemI (by omega) (by omega) (by omega) (by omega)]
    congr 2
  unfold f_X1_push
  rw [em]
  have hc : ∀ (z0 : Int32) (c0 : Nat → Int32), zT (f_X4_copyFrom N z0 c0 sz c) (fun r => RC S r.1 r.2) := fun z0 c0 => X4_copyFrom h hR
  rcases (show nx = 0 ∨ nx = 1 ∨ nx = 2 ∨ nx = 3 by omega) with rfl | rfl | rfl | rfl
  · refine zT_ite (fun _ => zT_bind (zT_mono (hc _ _) ?_)) (fun q => absurd rfl q)
    rintro ⟨r1, r2⟩ hr
    refine zT_bindE er (zT_bindE rfl (zT_some ⟨rfl, rfl, zRg_push hnx hl hr (fun j hj hn => ?_) hG⟩))
    rcases (show j = 1 ∨ j = 2 ∨ j = 3 by omega) with rfl | rfl | rfl <;> rfl
  · refine zT_ite (fun q => absurd q (by decide)) (fun _ => zT_ite (fun _ => zT_bind (zT_mono (hc _ _) ?_)) (fun q => absurd rfl q))
    rintro ⟨r1, r2⟩ hr
    refine zT_bindE er (zT_bindE rfl (zT_some ⟨rfl, rfl, zRg_push hnx hl hr (fun j hj hn => ?_) hG⟩))
    rcases (show j = 0 ∨ j = 2 ∨ j = 3 by omega) with rfl | rfl | rfl <;> rfl
  · refine zT_ite (fun q => absurd q (by decide)) (fun _ => zT_ite (fun q => absurd q (by decide)) (fun _ => zT_ite (fun _ => zT_bind (zT_mono (hc _ _) ?_)) (fun q => absurd rfl q)))
    rintro ⟨r1, r2⟩ hr
    refine zT_bindE er (zT_bindE rfl (zT_some ⟨rfl, rfl, zRg_push hnx hl hr (fun j hj hn => ?_) hG⟩))
    rcases (show j = 0 ∨ j = 1 ∨ j = 3 by omega) with rfl | rfl | rfl <;> rfl
  · refine zT_ite (fun q => absurd q (by decide)) (fun _ => zT_ite (fun q => absurd q (by decide)) (fun _ => zT_ite (fun q => absurd q (by decide)) (fun _ => zT_ite (fun _ => zT_bind (zT_mono (hc _ _) ?_)) (fun q => absurd rfl q))))
    rintro ⟨r1, r2⟩ hr
    refine zT_bindE er (zT_bindE rfl (zT_some ⟨rfl, rfl, zRg_push hnx hl hr (fun j hj hn => ?_) hG⟩))
    rcases (show j = 0 ∨ j = 1 ∨ j = 2 by omega) with rfl | rfl | rfl <;> rfl
end ZMS
