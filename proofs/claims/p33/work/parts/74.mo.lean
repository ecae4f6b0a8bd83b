section ZMP
variable {N : Nat} {S : zSt} {st cells shifts held pf : Nat → Int32} {size code pn : Int32} {m v e k i j : Nat}
theorem unE_b : 0 ≤ unE S m v ∧ unE S m v ≤ 1 := by
  unfold unE
  split <;> omega
theorem X4_unevenVoices (h : okS S) (hR : RC S (iI S.1) cells) (hN : 100 ≤ N) : f_X4_unevenVoices N (iI S.1) cells = some (iI (unF S (2 * S.1))) := by
  have h1 := h.1.1
  unfold f_X4_unevenVoices
  refine z_eqT (zT_bind (zT_mono (zT_loop (P := fun r => r = iI (unF S (2 * S.1))) (fun n s => ∃ m : Nat, m ≤ S.1 ∧ n = S.1 - m ∧ s = (iI (unF S (2 * m)), iI m)) ?_ N S.1 (0, 0) (by omega) ⟨0, by omega, rfl, rfl⟩) (fun a q => zT_some q)))
  rintro n s c ⟨m, hm, rfl, rfl⟩ ih
  unfold f_X4_unevenVoices_B4
  dsimp only
  refine zT_ite (fun q => ?_) (fun q => ?_)
  · rw [iI_lt (by omega) (by omega) (by omega) (by omega)] at q
    have hm : m < S.1 := by omega
    have bl := gL_b h hm
    refine zT_bind (zT_mono (zT_loop (P := fun r => r = iI (unF S (2 * (m + 1)))) (fun n s => ∃ v : Nat, v ≤ 2 ∧ n = 2 - v ∧ s = (iI (unF S (2 * m + v)), iI v)) ?_ N 2 (_, 0) (by omega) ⟨0, by omega, rfl, rfl⟩) (fun r q => zT_bindE rfl (ih (S.1 - (m + 1)) _ (by omega) ⟨m + 1, by omega, rfl, by rw [q, iIp1]; rfl⟩)))
    clear ih
    rintro n s c2 ⟨v, hv, rfl, rfl⟩ ih
    unfold f_X4_unevenVoices_B14
    dsimp only
    refine zT_ite (fun q => ?_) (fun q => ?_)
    · rw [iL2, iI_lt (by omega) (by omega) (by omega) (by omega)] at q
      have hv : v < 2 := by omega
      have hC := okC_C h.1 hm hv
      have bt := gT_b h.1 hm hv (S.2.2.1 m v) (Nat.le_refl _)
      have eu : unF S (2 * m + (v + 1)) = unF S (2 * m + v) + unE S m v := by
        rw [← Nat.add_assoc, unF, show (2 * m + v) / 2 = m by omega, show (2 * m + v) % 2 = v by omega]
      have e5 : (if 0 < iI (S.2.2.1 m v : Int) then Option.bind (f_X4_voiceTicks N (iI S.1) cells (iI m) (iI v)) (fun (r9_ : Int32) => Option.bind (f_X4_ticks N (iI S.1) cells (iI m)) (fun (r10_ : Int32) => if r9_ = r10_ then some 0 else some 1)) else some 0) = some (iI (unE S m v)) := by
        unfold unE
        by_cases q1 : 0 < S.2.2.1 m v
        · rw [if_pos (by rw [iL0, iI_lt (by omega) (by omega) (by omega) (by omega)]; omega), z_be (X4_voiceTicks h.1 hR hm hv (by omega)), z_be (X4_ticks h hR hm)]
          by_cases q2 : gT S m v (S.2.2.1 m v) = gL S m
          · rw [if_pos (by rw [q2]), if_neg (fun x => x.2 q2)]; rfl
          · rw [if_neg (by rw [iI_eq (by omega) (by omega) (by omega) (by omega)]; exact q2), if_pos ⟨q1, q2⟩]; rfl
        · rw [if_neg (by rw [iL0, iI_lt (by omega) (by omega) (by omega) (by omega)]; omega), if_neg (fun x => q1 x.1)]; rfl
      have ub := unE_b (S := S) (m := m) (v := v)
      have e6 : (if iI (unE S m v) = 0 then some (0 : Int32) else some 1) = some (iI (unE S m v)) := by
        rcases (show unE S m v = 0 ∨ unE S m v = 1 by omega) with hk | hk <;> rw [hk] <;> rfl
      refine zT_bindE (X4_count_at h.1 hR hm hv) (zT_bindE e5 (zT_bindE e6 (zT_bindE rfl (zT_bindE rfl (ih (2 - (v + 1)) _ (by omega) ⟨v + 1, by omega, rfl, ?_⟩)))))
      rw [iI_add, iIp1, eu]
      rfl
    · rw [iL2, iI_lt (by omega) (by omega) (by omega) (by omega)] at q
      rw [show v = 2 by omega]
      exact zT_some rfl
  · rw [iI_lt (by omega) (by omega) (by omega) (by omega)] at q
    rw [show m = S.1 by omega]
    exact zT_some rfl
/-- the values of the whole by their numbers; l: the length of the text -/
def whS (S : zSt) (l w : Int) : Int := if w = 0 then S.1 else if w = 5 then unF S (2 * S.1) else if w = 6 then (oEnd S).2.2.2.2.1 else if w = 7 then ptS S (oEnd S).2.2.2.2.1 else if w = 8 then l else knT S w S.1
theorem C_whole (h : okS S) (hR : RC S (iI S.1) cells) (hO : oF S pn pf) (hH : FH S held (fun _ _ _ => True)) {l w : Int} (hw : zInt w) (hN : 4000 ≤ N) : f_X9_whole N pn (iI S.1) (iI l) pf cells held (iI w) = if 0 ≤ w ∧ w ≤ 8 then some (.inl (iI (whS S l w))) else some (.inr 1) := by
  unfold f_X9_whole
  rw [iL0, iL8, zSub_rq (C_rqR hw (by unfold zInt; omega) (by unfold zInt; omega))]
  by_cases q : 0 ≤ w ∧ w ≤ 8
  · rw [if_pos q, if_pos q]
    unfold whS
    refine z_eqT (zT_ite (fun q0 => ?_) (fun q0 => ?_))
    · rw [iI_eq (by omega) (by omega) (by omega) (by omega)] at q0
      exact zT_bindE (show f_X4_size N (iI S.1) = some (iI S.1) from rfl) (zT_some (by rw [if_pos q0]))
    rw [iI_eq (by omega) (by omega) (by omega) (by omega)] at q0
    rw [if_neg q0]
    refine zT_ite (fun q5 => ?_) (fun q5 => ?_)
    · rw [iL5, iI_eq (by omega) (by omega) (by omega) (by omega)] at q5
      exact zT_bindE (X4_unevenVoices h hR (by omega)) (zT_some (by rw [if_pos q5]))
    rw [iL5, iI_eq (by omega) (by omega) (by omega) (by omega)] at q5
    rw [if_neg q5]
    refine zT_ite (fun q6 => ?_) (fun q6 => ?_)
    · rw [iL6, iI_eq (by omega) (by omega) (by omega) (by omega)] at q6
      exact zT_bindE (show f_X2_size N pn = some pn from rfl) (zT_some (by rw [if_pos q6, hO.1]))
    rw [iL6, iI_eq (by omega) (by omega) (by omega) (by omega)] at q6
    rw [if_neg q6]
    refine zT_ite (fun q7 => ?_) (fun q7 => ?_)
    · rw [iL7, iI_eq (by omega) (by omega) (by omega) (by omega)] at q7
      exact zT_bindE (X2_ticks h hR hO hN) (zT_some (by rw [if_pos q7]))
    rw [iL7, iI_eq (by omega) (by omega) (by omega) (by omega)] at q7
    rw [if_neg q7]
    refine zT_ite (fun q8 => ?_) (fun q8 => ?_)
    · rw [iI_eq (by omega) (by omega) (by omega) (by omega)] at q8
      exact zT_bindE (show f_X7_length N (iI l) = some (iI l) from rfl) (zT_some (by rw [if_pos q8]))
    rw [iI_eq (by omega) (by omega) (by omega) (by omega)] at q8
    rw [if_neg q8]
    exact zT_bindE (X9_eventsOfKind h.1 hR hH (by omega) (by omega)) (zT_some rfl)
  · rw [if_neg q, if_neg q]
end ZMP
