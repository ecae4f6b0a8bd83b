/-! ===== what is told of the whole ===== -/
def knE (S : zSt) (w : Int) (m v e : Nat) : Int := if w = 1 then 1 else if w = 2 then (if (S.2.2.2 m v e).1 < 0 then 0 else 1) else if w = 3 then (S.2.2.2 m v e).2.2.2 else if brP S m v e then 1 else 0
def knV (S : zSt) (w : Int) (m v : Nat) : Nat → Int
  | 0 => 0
  | e + 1 => knV S w m v e + knE S w m v e
def knM (S : zSt) (w : Int) (m : Nat) : Nat → Int
  | 0 => 0
  | v + 1 => knM S w m v + knV S w m v (S.2.2.1 m v)
def knT (S : zSt) (w : Int) : Nat → Int
  | 0 => 0
  | m + 1 => knT S w m + knM S w m 2
def unE (S : zSt) (m v : Nat) : Int := if 0 < S.2.2.1 m v ∧ ¬ gT S m v (S.2.2.1 m v) = gL S m then 1 else 0
def unF (S : zSt) : Nat → Int
  | 0 => 0
  | i + 1 => unF S i + unE S (i / 2) (i % 2)
section ZMO
variable {N : Nat} {S : zSt} {st cells shifts held pf : Nat → Int32} {size code pn : Int32} {m v e k i j : Nat}
theorem zNarB (x : Int) (h : x = 0 ∨ x = 1) : zNar .boolean (iI x) = some (iI x) := by
  rcases h with rfl | rfl <;> rfl
theorem X9_isOfKind (h : okC S) (hR : RC S (iI S.1) cells) (hH : FH S held (fun _ _ _ => True)) (hm : m < S.1) (hv : v < 2) (he : e < S.2.2.1 m v) {w : Int} (hw : 1 ≤ w ∧ w ≤ 4) : f_X9_isOfKind N (iI S.1) cells held (iI m) (iI v) (iI e) (iI w) = some (iI (knE S w m v e)) := by
  have hx := okC_ev h hm hv he
  have hxb := okE_b hx
  have n1 : ∀ x : Int32, Option.bind (some x) (fun (_ : Int32) => some x) = some x := fun _ => rfl
  unfold f_X9_isOfKind knE
  refine z_eqT (zT_bindE (X4_code_at h hR hm hv he) (zT_ite (fun q => ?_) (fun q => ?_)))
  · rw [iL1, iI_eq (by omega) (by omega) (by omega) (by omega)] at q
    exact zT_some (by rw [if_pos q]; rfl)
  rw [iL1, iI_eq (by omega) (by omega) (by omega) (by omega)] at q
  rw [if_neg q]
  refine zT_ite (fun q => ?_) (fun q => ?_)
  · rw [iL2, iI_eq (by omega) (by omega) (by omega) (by omega)] at q
    rw [if_pos q]
    exact zT_bindE (X0_isNote_at h hm hv he) (zT_bindE (zNarB _ (by split <;> omega)) (zT_some rfl))
  rw [iL2, iI_eq (by omega) (by omega) (by omega) (by omega)] at q
  rw [if_neg q]
  refine zT_ite (fun q => ?_) (fun q => ?_)
  · rw [iL3, iI_eq (by omega) (by omega) (by omega) (by omega)] at q
    rw [if_pos q]
    refine zT_bindE (X0_isTied _ (oOk_some hx)) ?_
    rw [show oT (some (S.2.2.2 m v e)) = (S.2.2.2 m v e).2.2.2 from rfl]
    exact zT_bindE (zNarB _ (by omega)) (zT_some rfl)
  rw [iL3, iI_eq (by omega) (by omega) (by omega) (by omega)] at q
  rw [if_neg q]
  exact zT_bindE (X6_isBrokenTie h hR hm hv he hH) (zT_bindE (zNarB _ (by split <;> omega)) (zT_some rfl))
theorem knE_b (h : okC S) (hm : m < S.1) (hv : v < 2) (he : e < S.2.2.1 m v) (w : Int) : knE S w m v e = 0 ∨ knE S w m v e = 1 := by
  have hxb := okE_b (okC_ev h hm hv he)
  unfold knE
  split
  · omega
  · split
    · split <;> omega
    · split
      · omega
      · split <;> omega
theorem X9_eventsOfKind (h : okC S) (hR : RC S (iI S.1) cells) (hH : FH S held (fun _ _ _ => True)) {w : Int} (hw : 1 ≤ w ∧ w ≤ 4) (hN : 30 ≤ N) : f_X9_eventsOfKind N (iI S.1) cells held (iI w) = some (iI (knT S w S.1)) := by
  have h1 := h.1
  unfold f_X9_eventsOfKind
  refine z_eqT (zT_bind (zT_mono (zT_loop (P := fun r => r = iI (knT S w S.1)) (fun n s => ∃ m : Nat, m ≤ S.1 ∧ n = S.1 - m ∧ s = (iI (knT S w m), iI m)) ?_ N S.1 (0, 0) (by omega) ⟨0, by omega, rfl, rfl⟩) (fun a q => zT_some q)))
  rintro n s c ⟨m, hm, rfl, rfl⟩ ih
  unfold f_X9_eventsOfKind_B4
  dsimp only
  refine zT_bindE (show f_X4_size N (iI S.1) = some (iI S.1) from rfl) (zT_ite (fun q => ?_) (fun q => ?_))
  · rw [iI_lt (by omega) (by omega) (by omega) (by omega)] at q
    have hm : m < S.1 := by omega
    refine zT_bind (zT_mono (zT_loop (P := fun r => r = iI (knT S w (m + 1))) (fun n s => ∃ v : Nat, v ≤ 2 ∧ n = 2 - v ∧ s = (iI (knT S w m + knM S w m v), iI v)) ?_ N 2 (_, 0) (by omega) ⟨0, by omega, rfl, by rw [knM, Int.add_zero]; rfl⟩) (fun r q => zT_bindE rfl (ih (S.1 - (m + 1)) _ (by omega) ⟨m + 1, by omega, rfl, by rw [q, iIp1]; rfl⟩)))
    clear ih
    rintro n s c2 ⟨v, hv, rfl, rfl⟩ ih
    unfold f_X9_eventsOfKind_B18
    dsimp only
    refine zT_ite (fun q => ?_) (fun q => ?_)
    · rw [iL2, iI_lt (by omega) (by omega) (by omega) (by omega)] at q
      have hv : v < 2 := by omega
      have hC := okC_C h hm hv
      refine zT_bind (zT_mono (zT_loop (P := fun r => r = iI (knT S w m + knM S w m (v + 1))) (fun n s => ∃ e : Nat, e ≤ S.2.2.1 m v ∧ n = S.2.2.1 m v - e ∧ s = (iI (knT S w m + knM S w m v + knV S w m v e), iI e)) ?_ N (S.2.2.1 m v) (_, 0) (by omega) ⟨0, by omega, rfl, by rw [knV, Int.add_zero]; rfl⟩) (fun r q => zT_bindE rfl (ih (2 - (v + 1)) _ (by omega) ⟨v + 1, by omega, rfl, by rw [q, iIp1]; rfl⟩)))
      clear ih
      rintro n s c3 ⟨e, he, rfl, rfl⟩ ih
      unfold f_X9_eventsOfKind_B27
      dsimp only
      refine zT_bindE (X4_count_at h hR hm hv) (zT_ite (fun q => ?_) (fun q => ?_))
      · rw [iI_lt (by omega) (by omega) (by omega) (by omega)] at q
        have he : e < S.2.2.1 m v := by omega
        have hk := knE_b h hm hv he w
        have e5 : (if iI (knE S w m v e) = 0 then some (0 : Int32) else some 1) = some (iI (knE S w m v e)) := by
          rcases hk with hk | hk <;> rw [hk] <;> rfl
        refine zT_bindE (X9_isOfKind h hR hH hm hv he hw) (zT_bindE e5 (zT_bindE rfl (zT_bindE rfl (ih (S.2.2.1 m v - (e + 1)) _ (by omega) ⟨e + 1, by omega, rfl, ?_⟩))))
        rw [iI_add, iIp1, knV, ← Int.add_assoc]
        rfl
      · rw [iI_lt (by omega) (by omega) (by omega) (by omega)] at q
        rw [show e = S.2.2.1 m v by omega, Int.add_assoc]
        exact zT_some rfl
    · rw [iL2, iI_lt (by omega) (by omega) (by omega) (by omega)] at q
      rw [show v = 2 by omega]
      exact zT_some rfl
  · rw [iI_lt (by omega) (by omega) (by omega) (by omega)] at q
    rw [show m = S.1 by omega]
    exact zT_some rfl
end ZMO
