section ZMM
variable {N : Nat} {S : zSt} {st cells shifts held : Nat → Int32} {size code : Int32} {m v e k i j : Nat}
theorem X10_finds (h : okS S) (hR : RM S st) {x0 : Int32} {f0 : Nat → Int32} (hN : 4000 ≤ N) : zT (f_X10_finds N x0 f0 st) (fun r => oF S r.1 r.2) := by
  have h1 := h.1.1
  unfold f_X10_finds
  refine zT_bind (zT_mono (zT_loop (fun n s => ∃ o : zOr, oI S n o ∧ s.1 = iI o.1 ∧ s.2.1 = iI o.2.1 ∧ s.2.2.1 = iI o.2.2.1 ∧ s.2.2.2.1 = iI (if o.2.2.2.1 = true then 0 else 1) ∧ s.2.2.2.2.1 = iI o.2.2.2.2.1 ∧ ∀ i, i < o.2.2.2.2.1 → s.2.2.2.2.2 i = iI (o.2.2.2.2.2 i)) ?_ N 3417 (0, 1, 0, 1, 0, f0) (by omega) ⟨_, oI_0, rfl, rfl, rfl, rfl, rfl, fun i hi => absurd hi (Nat.not_lt_zero i)⟩) (fun a q => zT_some q))
  rintro n ⟨s1, s2, s3, s4, s6, pf⟩ c ⟨⟨sa, tm, pl, bk, cn, f⟩, hI, q1, q2, q3, q4, q6, hf⟩ ih
  dsimp only at q1 q2 q3 q4 q6 hf
  subst q1; subst q2; subst q3; subst q4; subst q6
  obtain ⟨w1, w2, w3, w4, w5, w6, w7, w8⟩ := id hI
  dsimp only at w1 w2 w3 w4 w5 w6 w7 w8
  have hend : ¬ (pl < S.1 ∧ cn < 200) → oF S (iI cn) pf := by
    intro q
    have := w1.trans (oRun_end q n)
    unfold oF
    rw [this]
    exact ⟨rfl, hf⟩
  unfold f_X10_finds_B14
  dsimp only
  refine zT_bindE (zlds0 hR) (zT_ite (fun qp => ?_) (fun qp => zT_some (hend (by rw [iI_lt (by omega) (by omega) (by omega) (by omega)] at qp; omega))))
  refine zT_ite (fun qn => ?_) (fun qn => zT_some (hend (by rw [iL200, iI_lt (by omega) (by omega) (by omega) (by omega)] at qn; omega)))
  rw [iI_lt (by omega) (by omega) (by omega) (by omega)] at qp
  rw [iL200, iI_lt (by omega) (by omega) (by omega) (by omega)] at qn
  have hm : pl < S.1 := by omega
  have hcn : cn < 200 := by omega
  obtain ⟨k, rfl⟩ : ∃ k, n = k + 1 := ⟨n - 1, by have := oI_pos h1 hI ⟨hm, hcn⟩; omega⟩
  have hI' := oI_step h hI ⟨hm, hcn⟩
  clear hend
  have hV := h.2 pl hm
  unfold okV at hV
  have ha := oA_b (bk := bk) w4 hm w6
  have v4 : f_X10_of N st (iI pl) 4 = some (iI (S.2.1 pl 4)) := X10_of_V (k := 4) h.1 hR hm (by omega) (a := 4) rfl
  have v5 : f_X10_of N st (iI pl) 5 = some (iI (S.2.1 pl 5)) := X10_of_V (k := 5) h.1 hR hm (by omega) (a := 5) rfl
  have v6 : f_X10_of N st (iI pl) 6 = some (iI (S.2.1 pl 6)) := X10_of_V (k := 6) h.1 hR hm (by omega) (a := 6) rfl
  refine zT_bindE v6 ?_
  have e4 : (if iI (S.2.1 pl 6) = 0 then if 0 < iI (pl : Int) then Option.bind (f_X10_of N st (iI pl - 1) 6) (fun (r19_ : Int32) => if 0 < r19_ then some 1 else some 0) else some 0 else some 0) = some (iI (if S.2.1 pl 6 = 0 ∧ 0 < pl ∧ ¬ S.2.1 (pl - 1) 6 = 0 then 1 else 0)) := by
    by_cases q6 : S.2.1 pl 6 = 0
    · rw [if_pos (by rw [q6]; rfl)]
      rcases Nat.eq_zero_or_pos pl with q | q
      · subst q
        rw [if_neg (by decide), if_neg (by omega)]; rfl
      · have hV1 := h.2 (pl - 1) (by omega)
        unfold okV at hV1
        have e0 : f_X10_of N st (iI pl - 1) 6 = some (iI (S.2.1 (pl - 1) 6)) := by
          rw [iIs1, show (pl : Int) - 1 = ((pl - 1 : Nat) : Int) by omega]
          exact X10_of_V (k := 6) h.1 hR (by omega) (by omega) (a := 6) rfl
        rw [if_pos (by rw [iL0, iI_lt (by omega) (by omega) (by omega) (by omega)]; omega), z_be e0]
        by_cases q7 : S.2.1 (pl - 1) 6 = 0
        · rw [if_neg (by rw [iL0, iI_lt (by omega) (by omega) (by omega) (by omega)]; omega), if_neg (by omega)]; rfl
        · rw [if_pos (by rw [iL0, iI_lt (by omega) (by omega) (by omega) (by omega)]; omega), if_pos ⟨q6, q, q7⟩]; rfl
    · rw [if_neg (by rw [iL0, iI_eq (by omega) (by omega) (by omega) (by omega)]; exact q6), if_neg (fun x => q6 x.1)]; rfl
  refine zT_bindE e4 ?_
  have e3 : (if iI (if bk = true then 0 else 1) = 0 then some (iI sa, iI tm) else Option.bind (f_X10_of N st (iI pl) 4) (fun (r18_ : Int32) => if r18_ = 1 then some (iI pl, 1) else if iI (if S.2.1 pl 6 = 0 ∧ 0 < pl ∧ ¬ S.2.1 (pl - 1) 6 = 0 then 1 else 0) = 0 then some (iI sa, iI tm) else some (iI pl, 1))) = some (iI (oA S sa tm pl bk).1, iI (oA S sa tm pl bk).2) := by
    unfold oA anP
    cases bk with
    | true => rw [if_pos rfl, if_pos (show iI 0 = 0 from rfl), if_neg (fun x => Bool.noConfusion x.1)]
    | false =>
      rw [if_neg (show ¬ false = true by decide), if_neg (show ¬ iI 1 = 0 by decide), z_be v4]
      by_cases q4 : S.2.1 pl 4 = 1
      · rw [if_pos (by rw [q4]; rfl), if_pos ⟨rfl, Or.inl q4⟩]; rfl
      · rw [if_neg (by rw [iL1, iI_eq (by omega) (by omega) (by omega) (by omega)]; exact q4)]
        by_cases q : S.2.1 pl 6 = 0 ∧ 0 < pl ∧ ¬ S.2.1 (pl - 1) 6 = 0
        · rw [if_pos q, if_neg (show ¬ iI 1 = 0 by decide), if_pos ⟨rfl, Or.inr q⟩]; rfl
        · rw [if_neg q, if_pos (show iI 0 = 0 from rfl), if_neg (fun x => x.2.elim q4 q)]
  refine zT_bindE e3 ?_
  have eo : oStep S (sa, tm, pl, bk, cn, f) = (if ¬ S.2.1 pl 6 = 0 ∧ ¬ S.2.1 pl 6 = (oA S sa tm pl bk).2 then ((oA S sa tm pl bk).1, (oA S sa tm pl bk).2, pl + 1, false, cn, f) else if S.2.1 pl 5 = 0 then ((oA S sa tm pl bk).1, (oA S sa tm pl bk).2, pl + 1, false, cn + 1, fun i => if i = cn then pl else f i) else if (oA S sa tm pl bk).2 < S.2.1 pl 5 then ((oA S sa tm pl bk).1, (oA S sa tm pl bk).2 + 1, (oA S sa tm pl bk).1, true, cn + 1, fun i => if i = cn then pl else f i) else (pl + 1, 1, pl + 1, false, cn + 1, fun i => if i = cn then pl else f i)) := rfl
  rw [eo] at hI'
  clear eo e3 e4 hI
  generalize oA S sa tm pl bk = a at ha hI' ⊢
  have ep : iI (pl : Int) + 1 = iI ((pl + 1 : Nat) : Int) := iIp1 _
  have en : iI (cn : Int) + 1 = iI ((cn + 1 : Nat) : Int) := iIp1 _
  have hf' : ∀ i, i < cn + 1 → upd pf cn (iI pl) i = iI (if i = cn then (pl : Int) else f i) := by
    intro i hi
    rw [upd_at]
    split
    · rfl
    · exact hf i (by omega)
  dsimp only
  have lz : ¬ iI a.2 < (0 : Int32) := by rw [iL0, iI_lt (by omega) (by omega) (by omega) (by omega)]; omega
  have zz : ¬ (0 : Int32) < 0 := by decide
  by_cases hs : ¬ S.2.1 pl 6 = 0 ∧ ¬ S.2.1 pl 6 = a.2
  · rw [if_pos hs] at hI'
    refine zT_bindE (a := 0) ?_ (zT_bindE (if_pos z00) (zT_bindE (if_pos z00) (zT_bindE (if_neg lz) (zT_bindE (a := (iI a.1, iI a.2, iI pl + 1)) (by rw [if_neg ne10, if_neg zz, z_sb, if_neg zz, z_sb, z_sb]) (ih k _ (by omega) ⟨_, hI', rfl, rfl, ep, rfl, rfl, hf⟩)))))
    rw [if_neg (by rw [iL0, iI_eq (by omega) (by omega) (by omega) (by omega)]; exact hs.1), if_neg (by rw [iI_eq (by omega) (by omega) (by omega) (by omega)]; exact hs.2)]
  · rw [if_neg hs] at hI'
    have e5 : (if iI (S.2.1 pl 6) = 0 then some (1 : Int32) else if iI (S.2.1 pl 6) = iI a.2 then some 1 else some 0) = some 1 := by
      by_cases q : S.2.1 pl 6 = 0
      · rw [if_pos (by rw [q]; rfl)]
      · rw [if_neg (by rw [iL0, iI_eq (by omega) (by omega) (by omega) (by omega)]; exact q), if_pos (by rw [show S.2.1 pl 6 = a.2 by omega])]
    have e7 : zAst pf 200 (iI cn) (iI pl) = some (upd pf cn (iI pl)) := by
      rw [zAstI (by omega) (by omega) (by omega), Int.toNat_natCast]
    refine zT_bindE e5 (zT_bindE (a := (iI ((cn + 1 : Nat) : Int), upd pf cn (iI pl))) (by rw [if_neg ne10, z_be e7, z_sb, en]) (zT_bindE (a := iI (S.2.1 pl 5)) (by rw [if_neg ne10, z_be v5]) ?_))
    dsimp only
    by_cases qc : S.2.1 pl 5 = 0
    · rw [if_pos qc] at hI'
      rw [qc]
      exact zT_bindE (if_neg lz) (zT_bindE (a := (iI a.1, iI a.2, iI pl + 1)) (by rw [if_neg ne10, if_neg (show ¬ (0 : Int32) < iI 0 by decide), z_sb, if_neg (show ¬ (0 : Int32) < iI 0 by decide), z_sb, z_sb]) (ih k _ (by omega) ⟨_, hI', rfl, rfl, ep, rfl, rfl, hf'⟩))
    · rw [if_neg qc] at hI'
      have qc' : (0 : Int32) < iI (S.2.1 pl 5) := by rw [iL0, iI_lt (by omega) (by omega) (by omega) (by omega)]; omega
      by_cases qt : a.2 < S.2.1 pl 5
      · rw [if_pos qt] at hI'
        refine zT_bindE (a := 0) (by rw [if_pos (by rw [iI_lt (by omega) (by omega) (by omega) (by omega)]; exact qt)]) (zT_bindE (a := (iI a.1, iI a.2 + 1, iI a.1)) (by rw [if_pos z00, z_sb]) (ih k _ (by omega) ⟨_, hI', rfl, iIp1 _, rfl, rfl, rfl, hf'⟩))
      · rw [if_neg qt] at hI'
        refine zT_bindE (a := 1) (by rw [if_neg (by rw [iI_lt (by omega) (by omega) (by omega) (by omega)]; exact qt)]) (zT_bindE (a := (iI pl + 1, 1, iI pl + 1)) (by rw [if_neg ne10, if_pos qc', z_sb, if_pos qc', z_sb, z_sb]) (ih k _ (by omega) ⟨_, hI', ep, rfl, ep, rfl, rfl, hf'⟩))
theorem oI_run (h : okS S) : ∀ (k : Nat) (o : zOr), oI S k o → ∃ k', oI S k' (oRun S k o) := by
  intro k
  induction k with
  | zero => exact fun o ho => ⟨0, ho⟩
  | succ k ih =>
    intro o ho
    rw [oRun]
    by_cases q : o.2.2.1 < S.1 ∧ o.2.2.2.2.1 < 200
    · rw [if_pos q]
      exact ih _ (oI_step h ho q)
    · rw [if_neg q]
      exact ⟨_, ho⟩
theorem oEnd_b (h : okS S) : (oEnd S).2.2.2.2.1 ≤ 200 ∧ ∀ i, i < (oEnd S).2.2.2.2.1 → 0 ≤ (oEnd S).2.2.2.2.2 i ∧ (oEnd S).2.2.2.2.2 i < S.1 := by
  obtain ⟨k, hk⟩ := oI_run h 3417 _ oI_0
  exact hk.2.2.2.2.2.2
end ZMM
