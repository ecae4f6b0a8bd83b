section ZML
variable {N : Nat} {S : zSt} {st cells shifts held : Nat → Int32} {size code : Int32} {m v e k i j : Nat}
/-- an order told by a count and its places -/
def oF (S : zSt) (c : Int32) (f : Nat → Int32) : Prop := c = iI (oEnd S).2.2.2.2.1 ∧ ∀ i, i < (oEnd S).2.2.2.2.1 → f i = iI ((oEnd S).2.2.2.2.2 i)
theorem X4_value_at (h : okC S) (hR : RC S (iI S.1) cells) (hm : m < S.1) (hk : k < 7) : f_X4_value N (iI S.1) cells (iI m) (iI k) = some (iI (S.2.1 m k)) := by
  have h1 := h.1
  rw [X4_value h hR (zIn_ m (by omega)) (zIn_ k (by omega)), gV_at hm hk]
theorem X2_beginsAnew (h : okS S) (hR : RC S (iI S.1) cells) (hm : m < S.1) : f_X2_beginsAnew N (iI S.1) cells (iI m) = some (iI (if S.2.1 m 4 = 1 ∨ (S.2.1 m 6 = 0 ∧ 0 < m ∧ ¬ S.2.1 (m - 1) 6 = 0) then 1 else 0)) := by
  have h1 := h.1.1
  have hV := h.2 m hm
  unfold okV at hV
  have v4 : f_X4_value N (iI S.1) cells (iI m) 4 = _ := X4_value_at (k := 4) h.1 hR hm (by omega)
  have v6 : f_X4_value N (iI S.1) cells (iI m) 6 = _ := X4_value_at (k := 6) h.1 hR hm (by omega)
  unfold f_X2_beginsAnew
  rw [z_be v4]
  by_cases q4 : S.2.1 m 4 = 1
  · rw [if_pos (by rw [q4]; rfl), if_pos (Or.inl q4)]; rfl
  · rw [if_neg (by rw [iL1, iI_eq (by omega) (by omega) (by omega) (by omega)]; exact q4), z_be v6]
    by_cases q6 : S.2.1 m 6 = 0
    · rw [if_pos (by rw [q6]; rfl)]
      rcases Nat.eq_zero_or_pos m with q | q
      · subst q
        have e0 : f_X4_value N (iI S.1) cells (iI ((0 : Nat) : Int) - 1) 6 = some (iI 0) := by
          have := X4_value (N := N) (m := ((0 : Nat) : Int) - 1) (w := 6) h.1 hR (by unfold zInt; omega) (by unfold zInt; omega)
          rw [show gV S (((0 : Nat) : Int) - 1) 6 = 0 by unfold gV; rw [if_neg (by omega)]] at this
          exact this
        rw [z_be e0, if_pos (show iI 0 = 0 from rfl), if_neg (by omega)]; rfl
      · have hV1 := h.2 (m - 1) (by omega)
        unfold okV at hV1
        have e0 : f_X4_value N (iI S.1) cells (iI m - 1) 6 = some (iI (S.2.1 (m - 1) 6)) := by
          have := X4_value_at (N := N) (m := m - 1) (k := 6) h.1 hR (by omega) (by omega)
          rw [iIs1, show (m : Int) - 1 = ((m - 1 : Nat) : Int) by omega]
          exact this
        rw [z_be e0]
        by_cases q7 : S.2.1 (m - 1) 6 = 0
        · rw [if_pos (by rw [q7]; rfl), if_neg (by omega)]; rfl
        · rw [if_neg (by rw [iL0, iI_eq (by omega) (by omega) (by omega) (by omega)]; exact q7), if_pos (Or.inr ⟨q6, q, q7⟩)]; rfl
    · rw [if_neg (by rw [iL0, iI_eq (by omega) (by omega) (by omega) (by omega)]; exact q6), if_neg (by omega)]; rfl
theorem X2_unroll (h : okS S) (hR : RC S (iI S.1) cells) {x0 : Int32} {f0 : Nat → Int32} (hN : 4000 ≤ N) : zT (f_X2_unroll N x0 f0 (iI S.1) cells) (fun r => oF S r.1 r.2) := by
  have h1 := h.1.1
  unfold f_X2_unroll
  refine zT_bind (zT_mono (zT_loop (fun n s => ∃ o : zOr, oI S n o ∧ s.1 = iI o.1 ∧ s.2.1 = iI o.2.1 ∧ s.2.2.1 = iI o.2.2.1 ∧ s.2.2.2.1 = iI (if o.2.2.2.1 = true then 1 else 0) ∧ s.2.2.2.2.1 = iI (3417 - n) ∧ s.2.2.2.2.2.1 = iI o.2.2.2.2.1 ∧ ∀ i, i < o.2.2.2.2.1 → s.2.2.2.2.2.2 i = iI (o.2.2.2.2.2 i)) ?_ N 3417 (0, 1, 0, 0, 0, 0, f0) (by omega) ⟨_, oI_0, rfl, rfl, rfl, rfl, rfl, rfl, fun i hi => absurd hi (Nat.not_lt_zero i)⟩) (fun a q => zT_some q))
  rintro n ⟨s1, s2, s3, s4, s5, s6, pf⟩ c ⟨⟨sa, tm, pl, bk, cn, f⟩, hI, q1, q2, q3, q4, q5, q6, hf⟩ ih
  dsimp only at q1 q2 q3 q4 q5 q6 hf
  subst q1; subst q2; subst q3; subst q4; subst q5; subst q6
  obtain ⟨w1, w2, w3, w4, w5, w6, w7, w8⟩ := id hI
  dsimp only at w1 w2 w3 w4 w5 w6 w7 w8
  have hend : ¬ (pl < S.1 ∧ cn < 200) → oF S (iI cn) pf := by
    intro q
    have := w1.trans (oRun_end q n)
    unfold oF
    rw [this]
    exact ⟨rfl, hf⟩
  unfold f_X2_unroll_B18
  dsimp only
  refine zT_ite (fun qs => ?_) (fun qs => zT_some (hend (by rw [iL3417, iI_lt (by omega) (by omega) (by omega) (by omega)] at qs; omega)))
  refine zT_bindE (show f_X4_size N (iI S.1) = some (iI S.1) from rfl) (zT_ite (fun qp => ?_) (fun qp => zT_some (hend (by rw [iI_lt (by omega) (by omega) (by omega) (by omega)] at qp; omega))))
  refine zT_ite (fun qn => ?_) (fun qn => zT_some (hend (by rw [iL200, iI_lt (by omega) (by omega) (by omega) (by omega)] at qn; omega)))
  rw [iI_lt (by omega) (by omega) (by omega) (by omega)] at qp
  rw [iL200, iI_lt (by omega) (by omega) (by omega) (by omega)] at qn
  have hm : pl < S.1 := by omega
  have hcn : cn < 200 := by omega
  obtain ⟨k, rfl⟩ : ∃ k, n = k + 1 := ⟨n - 1, by have := oI_pos h1 hI ⟨hm, hcn⟩; omega⟩
  have hI' := oI_step h hI ⟨hm, hcn⟩
  clear hend
  have hV := h.2 pl hm
  unfold okV at hV
  have ha := oA_b (bk := bk) w4 hm w6
  have v5 : f_X4_value N (iI S.1) cells (iI pl) 5 = _ := X4_value_at (k := 5) h.1 hR hm (by omega)
  have v6 : f_X4_value N (iI S.1) cells (iI pl) 6 = _ := X4_value_at (k := 6) h.1 hR hm (by omega)
  have e3 : (if iI (if bk = true then 1 else 0) = 0 then Option.bind (f_X2_beginsAnew N (iI S.1) cells (iI pl)) (fun (r16_ : Int32) => if r16_ = 0 then some (iI sa, iI tm) else some (iI pl, 1)) else some (iI sa, iI tm)) = some (iI (oA S sa tm pl bk).1, iI (oA S sa tm pl bk).2) := by
    unfold oA anP
    cases bk with
    | true => rw [if_pos rfl, if_neg (show ¬ iI 1 = 0 by decide), if_neg (fun x => Bool.noConfusion x.1)]
    | false =>
      rw [if_neg (show ¬ false = true by decide), if_pos (show iI 0 = 0 from rfl), z_be (X2_beginsAnew h hR hm)]
      by_cases q : S.2.1 pl 4 = 1 ∨ (S.2.1 pl 6 = 0 ∧ 0 < pl ∧ ¬ S.2.1 (pl - 1) 6 = 0)
      · rw [if_pos q, if_neg (show ¬ iI 1 = 0 by decide), if_pos ⟨rfl, q⟩]; rfl
      · rw [if_neg q, if_pos (show iI 0 = 0 from rfl), if_neg (fun x => q x.2)]
  refine zT_bindE e3 (zT_bindE v6 ?_)
  have eo : oStep S (sa, tm, pl, bk, cn, f) = (if ¬ S.2.1 pl 6 = 0 ∧ ¬ S.2.1 pl 6 = (oA S sa tm pl bk).2 then ((oA S sa tm pl bk).1, (oA S sa tm pl bk).2, pl + 1, false, cn, f) else if S.2.1 pl 5 = 0 then ((oA S sa tm pl bk).1, (oA S sa tm pl bk).2, pl + 1, false, cn + 1, fun i => if i = cn then pl else f i) else if (oA S sa tm pl bk).2 < S.2.1 pl 5 then ((oA S sa tm pl bk).1, (oA S sa tm pl bk).2 + 1, (oA S sa tm pl bk).1, true, cn + 1, fun i => if i = cn then pl else f i) else (pl + 1, 1, pl + 1, false, cn + 1, fun i => if i = cn then pl else f i)) := rfl
  rw [eo] at hI'
  clear eo e3 hI
  generalize oA S sa tm pl bk = a at ha hI' ⊢
  have es : iI ((3417 : Int) - (k + 1 : Nat)) + 1 = iI (3417 - (k : Int)) := by rw [iIp1, show (3417 : Int) - (k + 1 : Nat) + 1 = 3417 - (k : Int) by omega]
  have ep : iI (pl : Int) + 1 = iI ((pl + 1 : Nat) : Int) := iIp1 _
  have en : iI (cn : Int) + 1 = iI ((cn + 1 : Nat) : Int) := iIp1 _
  have hf' : ∀ i, i < cn + 1 → upd pf cn (iI pl) i = iI (if i = cn then (pl : Int) else f i) := by
    intro i hi
    rw [upd_at]
    split
    · rfl
    · exact hf i (by omega)
  dsimp only
  by_cases hs : ¬ S.2.1 pl 6 = 0 ∧ ¬ S.2.1 pl 6 = a.2
  · rw [if_pos hs] at hI'
    refine zT_bindE (a := 1) ?_ (zT_bindE (if_neg ne10) (zT_bindE (if_neg ne10) (zT_bindE (if_pos z00) (zT_bindE (a := (iI a.1, iI a.2, iI pl + 1)) (by rw [if_pos z00, z_sb, if_pos z00]) (zT_bindE rfl (ih k _ (by omega) ⟨_, hI', rfl, rfl, ep, rfl, es, rfl, hf⟩))))))
    rw [if_neg (by rw [iL0, iI_eq (by omega) (by omega) (by omega) (by omega)]; exact hs.1), if_neg (by rw [iI_eq (by omega) (by omega) (by omega) (by omega)]; exact hs.2)]
  · rw [if_neg hs] at hI'
    have e5 : (if iI (S.2.1 pl 6) = 0 then some (0 : Int32) else if iI (S.2.1 pl 6) = iI a.2 then some 0 else some 1) = some 0 := by
      by_cases q : S.2.1 pl 6 = 0
      · rw [if_pos (by rw [q]; rfl)]
      · rw [if_neg (by rw [iL0, iI_eq (by omega) (by omega) (by omega) (by omega)]; exact q), if_pos (by rw [show S.2.1 pl 6 = a.2 by omega])]
    have e7 : zAst pf 200 (iI cn) (iI pl) = some (upd pf cn (iI pl)) := by
      rw [zAstI (by omega) (by omega) (by omega), Int.toNat_natCast]
    refine zT_bindE e5 (zT_bindE (by rw [if_pos z00, z_be v5]) (zT_bindE (a := (iI ((cn + 1 : Nat) : Int), upd pf cn (iI pl))) (by rw [if_pos z00, z_be e7, z_sb, en]) ?_))
    dsimp only
    by_cases qc : S.2.1 pl 5 = 0
    · rw [if_pos qc] at hI'
      rw [qc]
      exact zT_bindE (if_pos rfl) (zT_bindE (a := (iI a.1, iI a.2, iI pl + 1)) (by rw [if_pos z00, z_sb, if_pos (show iI 0 = 0 from rfl)]) (zT_bindE rfl (ih k _ (by omega) ⟨_, hI', rfl, rfl, ep, rfl, es, rfl, hf'⟩)))
    · rw [if_neg qc] at hI'
      have qc' : ¬ iI (S.2.1 pl 5) = 0 := by rw [iL0, iI_eq (by omega) (by omega) (by omega) (by omega)]; exact qc
      by_cases qt : a.2 < S.2.1 pl 5
      · rw [if_pos qt] at hI'
        refine zT_bindE (a := 1) (by rw [if_neg qc', if_pos (by rw [iI_lt (by omega) (by omega) (by omega) (by omega)]; exact qt)]) (zT_bindE (a := (iI a.1, iI a.2 + 1, iI a.1)) (by rw [if_neg ne10, z_sb]) (zT_bindE rfl (ih k _ (by omega) ⟨_, hI', rfl, iIp1 _, rfl, rfl, es, rfl, hf'⟩)))
      · rw [if_neg qt] at hI'
        refine zT_bindE (a := 0) (by rw [if_neg qc', if_neg (by rw [iI_lt (by omega) (by omega) (by omega) (by omega)]; exact qt)]) (zT_bindE (a := (iI pl + 1, 1, iI pl + 1)) (by rw [if_pos z00, z_sb, if_neg qc']) (zT_bindE rfl (ih k _ (by omega) ⟨_, hI', ep, rfl, ep, rfl, es, rfl, hf'⟩)))
end ZML
