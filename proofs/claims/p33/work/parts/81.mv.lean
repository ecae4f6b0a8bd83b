/-! ===== setting a value of a measure ===== -/
abbrev chP (w x : Int) : Prop := (w = 0 ∧ -7 ≤ x ∧ x ≤ 7) ∨ (w = 1 ∧ 1 ≤ x ∧ x ≤ 12) ∨ (w = 2 ∧ (x = 2 ∨ x = 4 ∨ x = 8 ∨ x = 16)) ∨ (w = 3 ∧ 20 ≤ x ∧ x ≤ 300) ∨ (w = 4 ∧ (x = 0 ∨ x = 1)) ∨ (w = 5 ∧ (x = 0 ∨ (2 ≤ x ∧ x ≤ 4))) ∨ (w = 6 ∧ 0 ≤ x ∧ x ≤ 4)
section ZMW
variable {N : Nat} {S X : zSt} {st cells shifts held past pf : Nat → Int32} {size code pn : Int32} {m v e k i j nx : Nat} {hs : List zSt} {K : zKT}
theorem X4_canHold {w x : Int} (hw : zInt w) (hx : zInt x) : f_X4_canHold N (iI w) (iI x) = some (iI (if chP w x then 1 else 0)) := by
  unfold zInt at hw hx
  have n1 : ¬ chP w x → (0 : Int32) = iI (if chP w x then 1 else 0) := fun q => by rw [if_neg q]; rfl
  have p1 : chP w x → (1 : Int32) = iI (if chP w x then 1 else 0) := fun q => by rw [if_pos q]; rfl
  have lw : ∀ c : Int, 0 ≤ c → c ≤ 16 → ((iI w = iI c) = (w = c)) := fun c h1 h2 => iI_eq (by omega) (by omega) (by omega) (by omega)
  have le : ∀ c : Int, 0 ≤ c → c ≤ 16 → ((iI x = iI c) = (x = c)) := fun c h1 h2 => iI_eq (by omega) (by omega) (by omega) (by omega)
  have l1 : ∀ c : Int, -10 ≤ c → c ≤ 1000 → ((iI x < iI c) = (x < c)) := fun c h1 h2 => iI_lt (by omega) (by omega) (by omega) (by omega)
  have l2 : ∀ c : Int, -10 ≤ c → c ≤ 1000 → ((iI c < iI x) = (c < x)) := fun c h1 h2 => iI_lt (by omega) (by omega) (by omega) (by omega)
  unfold f_X4_canHold
  refine z_eqT ?_
  refine zT_ite (fun q => ?_) (fun q => ?_)
  · have q : iI w = iI 0 := q
    rw [lw 0 (by omega) (by omega)] at q
    refine zT_ite (fun q1 => zT_some (n1 (by have q1 : iI x < iI (-7) := q1; rw [l1 (-7) (by omega) (by omega)] at q1; omega))) (fun q1 => zT_ite (fun q2 => zT_some (n1 (by have q2 : iI 7 < iI x := q2; rw [l2 7 (by omega) (by omega)] at q2; omega))) (fun q2 => zT_some (p1 (by have q1 : ¬ iI x < iI (-7) := q1; rw [l1 (-7) (by omega) (by omega)] at q1; have q2 : ¬ iI 7 < iI x := q2; rw [l2 7 (by omega) (by omega)] at q2; omega))))
  have q0 : ¬ iI w = iI 0 := q
  rw [lw 0 (by omega) (by omega)] at q0
  refine zT_ite (fun q => ?_) (fun q => ?_)
  · have q : iI w = iI 1 := q
    rw [lw 1 (by omega) (by omega)] at q
    refine zT_ite (fun q1 => zT_some (n1 (by have q1 : iI x < iI 1 := q1; rw [l1 1 (by omega) (by omega)] at q1; omega))) (fun q1 => zT_ite (fun q2 => zT_some (n1 (by have q2 : iI 12 < iI x := q2; rw [l2 12 (by omega) (by omega)] at q2; omega))) (fun q2 => zT_some (p1 (by have q1 : ¬ iI x < iI 1 := q1; rw [l1 1 (by omega) (by omega)] at q1; have q2 : ¬ iI 12 < iI x := q2; rw [l2 12 (by omega) (by omega)] at q2; omega))))
  have q1 : ¬ iI w = iI 1 := q
  rw [lw 1 (by omega) (by omega)] at q1
  refine zT_ite (fun q => ?_) (fun q => ?_)
  · have q : iI w = iI 2 := q
    rw [lw 2 (by omega) (by omega)] at q
    refine zT_ite (fun r => zT_some (p1 (by have r : iI x = iI 2 := r; rw [le 2 (by omega) (by omega)] at r; omega))) (fun r2 => zT_ite (fun r => zT_some (p1 (by have r : iI x = iI 4 := r; rw [le 4 (by omega) (by omega)] at r; omega))) (fun r4 => zT_ite (fun r => zT_some (p1 (by have r : iI x = iI 8 := r; rw [le 8 (by omega) (by omega)] at r; omega))) (fun r8 => zT_ite (fun r => zT_some (p1 (by have r : iI x = iI 16 := r; rw [le 16 (by omega) (by omega)] at r; omega))) (fun r16 => zT_some (n1 ?_)))))
    have r2 : ¬ iI x = iI 2 := r2
    have r4 : ¬ iI x = iI 4 := r4
    have r8 : ¬ iI x = iI 8 := r8
    have r16 : ¬ iI x = iI 16 := r16
    rw [le 2 (by omega) (by omega)] at r2
    rw [le 4 (by omega) (by omega)] at r4
    rw [le 8 (by omega) (by omega)] at r8
    rw [le 16 (by omega) (by omega)] at r16
    omega
  have q2 : ¬ iI w = iI 2 := q
  rw [lw 2 (by omega) (by omega)] at q2
  refine zT_ite (fun q => ?_) (fun q => ?_)
  · have q : iI w = iI 3 := q
    rw [lw 3 (by omega) (by omega)] at q
    refine zT_ite (fun q1 => zT_some (n1 (by have q1 : iI x < iI 20 := q1; rw [l1 20 (by omega) (by omega)] at q1; omega))) (fun q1 => zT_ite (fun q2 => zT_some (n1 (by have q2 : iI 300 < iI x := q2; rw [l2 300 (by omega) (by omega)] at q2; omega))) (fun q2 => zT_some (p1 (by have q1 : ¬ iI x < iI 20 := q1; rw [l1 20 (by omega) (by omega)] at q1; have q2 : ¬ iI 300 < iI x := q2; rw [l2 300 (by omega) (by omega)] at q2; omega))))
  have q3 : ¬ iI w = iI 3 := q
  rw [lw 3 (by omega) (by omega)] at q3
  refine zT_ite (fun q => ?_) (fun q => ?_)
  · have q : iI w = iI 4 := q
    rw [lw 4 (by omega) (by omega)] at q
    refine zT_ite (fun r => zT_some (p1 (by have r : iI x = iI 0 := r; rw [le 0 (by omega) (by omega)] at r; omega))) (fun r0 => zT_ite (fun r => zT_some (p1 (by have r : iI x = iI 1 := r; rw [le 1 (by omega) (by omega)] at r; omega))) (fun r1 => zT_some (n1 ?_)))
    have r0 : ¬ iI x = iI 0 := r0
    have r1 : ¬ iI x = iI 1 := r1
    rw [le 0 (by omega) (by omega)] at r0
    rw [le 1 (by omega) (by omega)] at r1
    omega
  have q4 : ¬ iI w = iI 4 := q
  rw [lw 4 (by omega) (by omega)] at q4
  refine zT_ite (fun q => ?_) (fun q => ?_)
  · have q : iI w = iI 5 := q
    rw [lw 5 (by omega) (by omega)] at q
    refine zT_ite (fun r => zT_some (p1 (by have r : iI x = iI 0 := r; rw [le 0 (by omega) (by omega)] at r; omega))) (fun r0 => zT_ite (fun q1 => zT_some (n1 ?_)) (fun q1 => zT_ite (fun q2 => zT_some (n1 (by have q2 : iI 4 < iI x := q2; rw [l2 4 (by omega) (by omega)] at q2; omega))) (fun q2 => zT_some (p1 (by have q1 : ¬ iI x < iI 2 := q1; rw [l1 2 (by omega) (by omega)] at q1; have q2 : ¬ iI 4 < iI x := q2; rw [l2 4 (by omega) (by omega)] at q2; omega)))))
    have r0 : ¬ iI x = iI 0 := r0
    rw [le 0 (by omega) (by omega)] at r0
    have q1 : iI x < iI 2 := q1
    rw [l1 2 (by omega) (by omega)] at q1
    omega
  have q5 : ¬ iI w = iI 5 := q
  rw [lw 5 (by omega) (by omega)] at q5
  refine zT_ite (fun q => ?_) (fun q => ?_)
  · have q : iI w = iI 6 := q
    rw [lw 6 (by omega) (by omega)] at q
    refine zT_ite (fun q1 => zT_some (n1 (by have q1 : iI x < iI 0 := q1; rw [l1 0 (by omega) (by omega)] at q1; omega))) (fun q1 => zT_ite (fun q2 => zT_some (n1 (by have q2 : iI 4 < iI x := q2; rw [l2 4 (by omega) (by omega)] at q2; omega))) (fun q2 => zT_some (p1 (by have q1 : ¬ iI x < iI 0 := q1; rw [l1 0 (by omega) (by omega)] at q1; have q2 : ¬ iI 4 < iI x := q2; rw [l2 4 (by omega) (by omega)] at q2; omega))))
  have q6 : ¬ iI w = iI 6 := q
  rw [lw 6 (by omega) (by omega)] at q6
  exact zT_some (n1 (by omega))
theorem okS_setVg (h : okS S) (hm : m < S.1) {x : Int} (hc : chP k x) : okS (setV S m k x) := by
  refine ⟨⟨h.1.1, fun m' hm' => ⟨fun k' hk' => ?_, (h.1.2 m' hm').2⟩⟩, fun m' hm' => ?_⟩
  · by_cases q : m' = m ∧ k' = k
    · obtain ⟨rfl, rfl⟩ := q
      rw [setV_same]
      omega
    · rw [setV_ne _ q]
      exact (h.1.2 m' hm').1 k' hk'
  · have hV := h.2 m' hm'
    by_cases q : m' = m
    · subst q
      have hv : ∀ k', (setV S m' k x).2.1 m' k' = if k' = k then x else S.2.1 m' k' := by
        intro k'
        by_cases q : k' = k
        · subst q; rw [setV_same, if_pos rfl]
        · rw [setV_ne x (fun y => q y.2), if_neg q]
      unfold okV at hV ⊢
      simp only [hv]
      refine ⟨?_, ?_, ?_, ?_, ?_, ?_, ?_⟩ <;> split <;> omega
    · have hne : ∀ k', (setV S m k x).2.1 m' k' = S.2.1 m' k' := fun k' => setV_ne x (fun y => q y.1)
      unfold okV at hV ⊢
      simp only [hne]
      exact hV
theorem RC_setV (h : okC S) {sz : Int32} (hR : RC S sz cells) (hm : m < S.1) (hk : k < 7) (x : Int) : RC (setV S m k x) sz (upd cells (57 * m + k) (iI x)) := by
  refine ⟨hR.1, fun m' hm' => ⟨fun k' hk' => ?_, fun v' hv' => ⟨?_, fun e' he' => ?_⟩⟩⟩
  · by_cases q : m' = m ∧ k' = k
    · obtain ⟨rfl, rfl⟩ := q
      rw [upd_eq _ _ rfl, setV_same]
    · rw [upd_ne _ _ (by omega), setV_ne _ q]
      exact (hR.2 m' hm').1 k' hk'
  · have key : ∀ a, 7 ≤ a → a ≤ 56 → 57 * m' + a ≠ 57 * m + k := by intro a; omega
    have k0 := key (7 + 25 * v') (by omega) (by omega)
    rw [upd_ne _ _ (by omega)]
    exact ((hR.2 m' hm').2 v' hv').1
  · have hm2 : m' < S.1 := hm'
    have he2 : e' < S.2.2.1 m' v' := he'
    have hC := okC_C h hm2 hv'
    have key : ∀ a, 8 ≤ a → a ≤ 56 → 57 * m' + a ≠ 57 * m + k := by intro a; omega
    have k0 := key (8 + 25 * v' + e') (by omega) (by omega)
    rw [upd_ne _ _ (by omega)]
    exact ((hR.2 m' hm').2 v' hv').2 e' he'
end ZMW
