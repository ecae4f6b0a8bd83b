section ZMG
variable {N : Nat} {S : zSt} {st cells shifts held : Nat → Int32} {size code : Int32} {m v e k i j : Nat}
theorem X6_changedWith (h : okS S) (hR : RC S (iI S.1) cells) (hF : FSp S shifts 768) (hm : m < S.1) {key : Int} (hk : -7 ≤ key ∧ key ≤ 7) (hN : 30 ≤ N) : f_X6_changedWith N (iI S.1) shifts cells (iI m) (iI key) = some (iI (chW S key m 2)) := by
  have h1 := h.1.1
  unfold f_X6_changedWith
  refine z_eqT (zT_bind (zT_mono (zT_loop (fun n s => ∃ v : Nat, v ≤ 2 ∧ n = 2 - v ∧ s = (iI (chW S key m v), iI v)) ?_ N 2 (0, 0) (by omega) ⟨0, by omega, rfl, rfl⟩) (fun a q => zT_some q)))
  rintro n s c ⟨v, hv, rfl, rfl⟩ ih
  unfold f_X6_changedWith_B5
  dsimp only
  refine zT_ite (fun q => ?_) (fun q => ?_)
  · rw [iL2, iI_lt (by omega) (by omega) (by omega) (by omega)] at q
    have hv : v < 2 := by omega
    have hC := okC_C h.1 hm hv
    refine zT_bindE (X6_shiftBefore0 h.1 hR hm hv (by omega) hF) (zT_bind (zT_mono (zT_loop (P := fun r => r = iI (chW S key m (v + 1))) (fun n s => ∃ e : Nat, e ≤ S.2.2.1 m v ∧ n = S.2.2.1 m v - e ∧ s = (iI (chW S key m v + chV S key m v e), iI (if e = 0 then shB S v m else shK S key m v (e - 1)), iI e)) ?_ N (S.2.2.1 m v) (_, _, 0) (by omega) ⟨0, by omega, rfl, by rw [chV, Int.add_zero]; rfl⟩) (fun r q => zT_bindE rfl (ih (2 - (v + 1)) _ (by omega) ⟨v + 1, by omega, rfl, by rw [q, iIp1]; rfl⟩))))
    clear ih
    rintro n s c2 ⟨e, he, rfl, rfl⟩ ih
    unfold f_X6_changedWith_B24
    dsimp only
    refine zT_bindE (X4_count_at h.1 hR hm hv) (zT_ite (fun q => ?_) (fun q => ?_))
    · rw [iI_lt (by omega) (by omega) (by omega) (by omega)] at q
      have he : e < S.2.2.1 m v := by omega
      have es : shW S key m v (if e = 0 then shB S v m else shK S key m v (e - 1)) e = shK S key m v e := by
        match e with
        | 0 => rfl
        | e + 1 => rfl
      have sb := shS_b (S := S) m v e
      have sk : -1 ≤ shK S key m v e ∧ shK S key m v e ≤ 1 := shL_b (shB_b m) e
      refine zT_bindE (X6_shiftWith h.1 hR hm hv he hk _ hN) (zT_bindE (X6_shift_at h.1 hm hv he) ?_)
      rw [es, hF m v e hm hv he (by unfold slE; omega)]
      have e5 : (if iI (shK S key m v e) = iI (shS S m v e) then some (0 : Int32) else some 1) = some (iI (if shK S key m v e = shS S m v e then 0 else 1)) := by
        by_cases q3 : shK S key m v e = shS S m v e
        · rw [if_pos (by rw [q3]), if_pos q3]; rfl
        · rw [if_neg (by rw [iI_eq (by omega) (by omega) (by omega) (by omega)]; exact q3), if_neg q3]; rfl
      have e6 : (if iI (if shK S key m v e = shS S m v e then 0 else 1) = 0 then some (0 : Int32) else Option.bind (f_X4_code N (iI S.1) cells (iI m) (iI v) (iI e)) (fun (r12_ : Int32) => Option.bind (f_X0_isNote N r12_) (fun (r13_ : Int32) => if r13_ = 0 then some 0 else some 1))) = some (iI (chE S key m v e)) := by
        unfold chE
        by_cases q3 : shK S key m v e = shS S m v e
        · rw [if_pos q3, if_pos (show iI 0 = 0 from rfl), if_neg (fun x => x.2 q3)]; rfl
        · rw [if_neg q3, if_neg (show ¬ iI 1 = 0 by decide), z_be (X4_code_at h.1 hR hm hv he), z_be (X0_isNote_at h.1 hm hv he)]
          by_cases q4 : (S.2.2.2 m v e).1 < 0
          · rw [if_pos q4, if_pos (show iI 0 = 0 from rfl), if_neg (by omega)]; rfl
          · rw [if_neg q4, if_neg (show ¬ iI 1 = 0 by decide), if_pos ⟨by omega, q3⟩]; rfl
      refine zT_bindE e5 (zT_bindE e6 (zT_bindE rfl (zT_bindE rfl (ih (S.2.2.1 m v - (e + 1)) _ (by omega) ⟨e + 1, by omega, rfl, ?_⟩))))
      rw [iI_add, iIp1, chV, if_neg (by omega), ← Int.add_assoc]
      rfl
    · rw [iI_lt (by omega) (by omega) (by omega) (by omega)] at q
      rw [show e = S.2.2.1 m v by omega]
      exact zT_some rfl
  · rw [iL2, iI_lt (by omega) (by omega) (by omega) (by omega)] at q
    rw [show v = 2 by omega]
    exact zT_some rfl
theorem C_changedBy (h : okS S) (hR : RC S (iI S.1) cells) (hF : FSp S shifts 768) {a b : Int} (ha : zInt a) (hb : zInt b) (hN : 30 ≤ N) : f_X9_changedBy N (iI S.1) cells shifts (iI a) (iI b) = if 0 ≤ a ∧ a < S.1 then (if -7 ≤ b ∧ b ≤ 7 then some (.inl (iI (chW S b a.toNat 2))) else some (.inr 1)) else some (.inr 0) := by
  unfold f_X9_changedBy
  rw [zSub_rq (C_rqM h.1 ha), show (-7 : Int32) = iI (-7) from rfl, iL7, zSub_rq (C_rqR hb (by unfold zInt; omega) (by unfold zInt; omega))]
  by_cases q : 0 ≤ a ∧ a < S.1
  · obtain ⟨m, rfl⟩ := Int.eq_ofNat_of_zero_le q.1
    rw [if_pos q, if_pos q]
    by_cases q2 : -7 ≤ b ∧ b ≤ 7
    · rw [if_pos q2, if_pos q2, z_be (X6_changedWith h hR hF (by omega) q2 hN)]
      rfl
    · rw [if_neg q2, if_neg q2]
  · rw [if_neg q, if_neg q]
/-- the best key of the first n, and by how many notes it differs -/
def nkS (S : zSt) (m : Nat) : Nat → Int × Int
  | 0 => (-1000, 49)
  | n + 1 => if (n : Int) - 7 = S.2.1 m 0 then nkS S m n else if chW S ((n : Int) - 7) m 2 < (nkS S m n).2 then ((n : Int) - 7, chW S ((n : Int) - 7) m 2) else nkS S m n
theorem nkS_b (h : okC S) (hm : m < S.1) (n : Nat) (hn : n ≤ 15) : ((nkS S m n).1 = -1000 ∧ (nkS S m n).2 = 49) ∨ ((-7 ≤ (nkS S m n).1 ∧ (nkS S m n).1 ≤ 7) ∧ 0 ≤ (nkS S m n).2 ∧ (nkS S m n).2 ≤ 48) := by
  induction n with
  | zero => exact Or.inl ⟨rfl, rfl⟩
  | succ n ih =>
    have hb := chW_b h hm ((n : Int) - 7)
    unfold nkS
    split
    · exact ih (by omega)
    · split
      · exact Or.inr ⟨by dsimp only; omega, hb⟩
      · exact ih (by omega)
theorem C_nearestKey (h : okS S) (hR : RC S (iI S.1) cells) (hF : FSp S shifts 768) {a : Int} (ha : zInt a) (hN : 30 ≤ N) : f_X9_nearestKey N (iI S.1) cells shifts (iI a) = if 0 ≤ a ∧ a < S.1 then some (.inl (iI (nkS S a.toNat 15).1)) else some (.inr 0) := by
  have h1 := h.1.1
  unfold f_X9_nearestKey
  rw [zSub_rq (C_rqM h.1 ha)]
  by_cases q : 0 ≤ a ∧ a < S.1
  · obtain ⟨m, rfl⟩ := Int.eq_ofNat_of_zero_le q.1
    rw [if_pos q, if_pos q, Int.toNat_natCast]
    have hm : m < S.1 := by omega
    have hk := okS_key h hm
    refine z_eqT (zT_bind (zT_mono (zT_loop (P := fun r => r = iI (nkS S m 15).1) (fun n s => ∃ j : Nat, j ≤ 15 ∧ n = 15 - j ∧ s = (iI (nkS S m j).1, iI (nkS S m j).2, iI ((j : Int) - 7))) ?_ N 15 _ (by omega) ⟨0, by omega, rfl, rfl⟩) (fun a q => zT_some (by rw [q]))))
    rintro n s c ⟨j, hj, rfl, rfl⟩ ih
    unfold f_X9_nearestKey_B16
    dsimp only
    refine zT_ite (fun q => ?_) (fun q => ?_)
    · rw [iL7, iI_lt (by omega) (by omega) (by omega) (by omega)] at q
      rw [show j = 15 by omega]
      exact zT_some rfl
    · rw [iL7, iI_lt (by omega) (by omega) (by omega) (by omega)] at q
      have hb := nkS_b h.1 hm j hj
      have hw := chW_b h.1 hm ((j : Int) - 7)
      have e0 := X4_value (N := N) (w := 0) h.1 hR (zIn_ m (by omega)) (by unfold zInt; omega)
      rw [show gV S m 0 = S.2.1 m 0 from gV_at (k := 0) hm (by omega)] at e0
      refine zT_bindE e0 (zT_bindE (a := (iI (nkS S m (j + 1)).1, iI (nkS S m (j + 1)).2)) ?_ (zT_bindE rfl (ih (15 - (j + 1)) _ (by omega) ⟨j + 1, by omega, rfl, by rw [iIp1]; congr 3; omega⟩)))
      rw [nkS]
      by_cases q1 : (j : Int) - 7 = S.2.1 m 0
      · rw [if_pos (by rw [q1]), if_pos q1]
      · rw [if_neg (by rw [iI_eq (by omega) (by omega) (by omega) (by omega)]; exact q1), if_neg q1, z_be (X6_changedWith h hR hF hm (by omega) hN), ifI (by omega) (by omega) (by omega) (by omega)]
        split <;> rfl
  · rw [if_neg q, if_neg q]
end ZMG
