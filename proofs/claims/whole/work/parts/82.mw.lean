section ZMX
variable {N : Nat} {S X : zSt} {st cells shifts held past pf : Nat → Int32} {size code pn : Int32} {m v e k i j nx : Nat} {hs : List zSt} {K : zKT} {M : zMT}
theorem X10_canBe {w x : Int} (hw : zInt w) (hx : zInt x) : f_X10_canBe N (iI w) (iI x) = some (iI (if chP w x then 1 else 0)) := by
  have hx' := hx
  unfold zInt at hw hx
  have lw : ∀ c : Int, 0 ≤ c → c ≤ 16 → ((iI w = iI c) = (w = c)) := fun c h1 h2 => iI_eq (by omega) (by omega) (by omega) (by omega)
  have le : ∀ c : Int, 0 ≤ c → c ≤ 16 → ((iI x = iI c) = (x = c)) := fun c h1 h2 => iI_eq (by omega) (by omega) (by omega) (by omega)
  have hin : ∀ a b : Int, -10 ≤ a → a ≤ 1000 → -10 ≤ b → b ≤ 1000 → f_X10_in N (iI x) (iI a) (iI b) = some (iI (if a ≤ x ∧ x ≤ b then 1 else 0)) := fun a b h1 h2 h3 h4 => X10_in hx' (by unfold zInt; omega) (by unfold zInt; omega)
  have ei : ∀ {P Q : Prop} [Decidable P] [Decidable Q], (P ↔ Q) → iI (if P then 1 else 0) = iI (if Q then 1 else 0) := by
    intro P Q _ _ h
    by_cases q : P
    · rw [if_pos q, if_pos (h.mp q)]
    · rw [if_neg q, if_neg (fun y => q (h.mpr y))]
  have hn : ∀ {P : Prop} [Decidable P], zNar .boolean (iI (if P then 1 else 0)) = some (iI (if P then 1 else 0)) := fun {P} _ => zNarB _ (by split <;> omega)
  unfold f_X10_canBe
  refine z_eqT ?_
  refine zT_ite (fun q => ?_) (fun q => ?_)
  · have q : iI w = iI 0 := q
    rw [lw 0 (by omega) (by omega)] at q
    have h7 : f_X10_in N (iI x) (-7) 7 = some (iI (if -7 ≤ x ∧ x ≤ 7 then 1 else 0)) := by
      rw [show (-7 : Int32) = iI (-7) from rfl]
      exact hin (-7) 7 (by omega) (by omega) (by omega) (by omega)
    exact zT_bindE h7 (zT_bindE hn (zT_some (ei (by omega))))
  have q0 : ¬ iI w = iI 0 := q
  rw [lw 0 (by omega) (by omega)] at q0
  refine zT_ite (fun q => ?_) (fun q => ?_)
  · have q : iI w = iI 1 := q
    rw [lw 1 (by omega) (by omega)] at q
    exact zT_bindE (hin 1 12 (by omega) (by omega) (by omega) (by omega)) (zT_bindE hn (zT_some (ei (by omega))))
  have q1 : ¬ iI w = iI 1 := q
  rw [lw 1 (by omega) (by omega)] at q1
  refine zT_ite (fun q => ?_) (fun q => ?_)
  · have q : iI w = iI 2 := q
    rw [lw 2 (by omega) (by omega)] at q
    have hl : f_X10_isLower N (iI x) = some (iI (if x = 2 ∨ x = 4 ∨ x = 8 ∨ x = 16 then 1 else 0)) := by
      unfold f_X10_isLower
      refine z_eqT (zT_ite (fun r => zT_some ?_) (fun r2 => zT_ite (fun r => zT_some ?_) (fun r4 => zT_ite (fun r => zT_some ?_) (fun r8 => zT_ite (fun r => zT_some ?_) (fun r16 => zT_some ?_)))))
      · have r : iI x = iI 2 := r
        rw [le 2 (by omega) (by omega)] at r
        rw [if_pos (by omega)]; rfl
      · have r : iI x = iI 4 := r
        rw [le 4 (by omega) (by omega)] at r
        rw [if_pos (by omega)]; rfl
      · have r : iI x = iI 8 := r
        rw [le 8 (by omega) (by omega)] at r
        rw [if_pos (by omega)]; rfl
      · have r : iI x = iI 16 := r
        rw [le 16 (by omega) (by omega)] at r
        rw [if_pos (by omega)]; rfl
      · have r2 : ¬ iI x = iI 2 := r2
        have r4 : ¬ iI x = iI 4 := r4
        have r8 : ¬ iI x = iI 8 := r8
        have r16 : ¬ iI x = iI 16 := r16
        rw [le 2 (by omega) (by omega)] at r2
        rw [le 4 (by omega) (by omega)] at r4
        rw [le 8 (by omega) (by omega)] at r8
        rw [le 16 (by omega) (by omega)] at r16
        rw [if_neg (by omega)]; rfl
    exact zT_bindE hl (zT_bindE hn (zT_some (ei (by omega))))
  have q2 : ¬ iI w = iI 2 := q
  rw [lw 2 (by omega) (by omega)] at q2
  refine zT_ite (fun q => ?_) (fun q => ?_)
  · have q : iI w = iI 3 := q
    rw [lw 3 (by omega) (by omega)] at q
    exact zT_bindE (hin 20 300 (by omega) (by omega) (by omega) (by omega)) (zT_bindE hn (zT_some (ei (by omega))))
  have q3 : ¬ iI w = iI 3 := q
  rw [lw 3 (by omega) (by omega)] at q3
  refine zT_ite (fun q => ?_) (fun q => ?_)
  · have q : iI w = iI 4 := q
    rw [lw 4 (by omega) (by omega)] at q
    exact zT_bindE (hin 0 1 (by omega) (by omega) (by omega) (by omega)) (zT_bindE hn (zT_some (ei (by omega))))
  have q4 : ¬ iI w = iI 4 := q
  rw [lw 4 (by omega) (by omega)] at q4
  refine zT_ite (fun q => ?_) (fun q => ?_)
  · have q : iI w = iI 5 := q
    rw [lw 5 (by omega) (by omega)] at q
    refine zT_ite (fun r => zT_some ?_) (fun r0 => zT_bindE (hin 2 4 (by omega) (by omega) (by omega) (by omega)) (zT_ite (fun r => zT_some ?_) (fun r => zT_some ?_)))
    · have r : iI x = iI 0 := r
      rw [le 0 (by omega) (by omega)] at r
      rw [if_pos (by omega)]; rfl
    · have r0 : ¬ iI x = iI 0 := r0
      rw [le 0 (by omega) (by omega)] at r0
      rw [z01] at r
      rw [if_neg (by omega)]; rfl
    · rw [z01] at r
      rw [if_pos (by omega)]; rfl
  have q5 : ¬ iI w = iI 5 := q
  rw [lw 5 (by omega) (by omega)] at q5
  refine zT_ite (fun q => ?_) (fun q => ?_)
  · have q : iI w = iI 6 := q
    rw [lw 6 (by omega) (by omega)] at q
    refine zT_bindE (hin 0 4 (by omega) (by omega) (by omega) (by omega)) (zT_ite (fun r => zT_some ?_) (fun r => zT_some ?_))
    · rw [z01] at r
      rw [if_neg (by omega)]; rfl
    · rw [z01] at r
      rw [if_pos (by omega)]; rfl
  have q6 : ¬ iI w = iI 6 := q
  rw [lw 6 (by omega) (by omega)] at q6
  exact zT_some (by rw [if_neg (by omega)]; rfl)
end ZMX
