/-! ===== sentences: a whole measure, by the class ===== -/
section ZNQ
variable {N : Nat} {S : zSt} {st cells : Nat → Int32} {W V : List (List Int)} {r : Int32 × Int32 × (Nat → Int32)} {l : Int32 × (Nat → Int32)} {m v e w : Nat} {x : zEv}
theorem voW_len (h : okC S) (hm : m < S.1) (hv : v < 2) : (zwS (voW S m v (S.2.2.1 m v))).length ≤ 824 := by
  have hC := okC_C h hm hv
  have h1 := voE_len h hm hv _ (Nat.le_refl _)
  unfold voW
  split
  · rw [zwS_nil]; omega
  · rw [zwS_app, List.length_append]
    have : (zwS [zwB 9, nmW ((v : Int) + 1)]).length = 8 := by
      rcases (show v = 0 ∨ v = 1 by omega) with rfl | rfl <;> decide
    omega
theorem kyW_len {k : Int} (hk : -7 ≤ k ∧ k ≤ 7) : (zwS (kyW k)).length ≤ 12 := by
  unfold kyW
  rw [zwS_c]
  split
  · decide
  · next q =>
    have h1 : (nmW (if k < 0 then -k else k)).length = 1 := by unfold nmW; rw [if_pos (by split <;> omega)] <;> rfl
    have h2 : (zwB (if 0 < k then 5 else 6)).length ≤ 5 := by split <;> decide
    have h3 : (zwB 3).length = 3 := by decide
    rw [zwS_c, zwS_1, h1, h3]
    omega
theorem snW_len (h : okS S) (hm : m < S.1) : (zwS (snW S m)).length ≤ 1703 := by
  have h1 := h.1.1
  have hV := h.2 m hm
  unfold okV at hV
  have v0 := voW_len h.1 hm (v := 0) (by omega)
  have v1 := voW_len h.1 hm (v := 1) (by omega)
  have kl := kyW_len (k := S.2.1 m 0) (by omega)
  unfold snW snF snE snD snC snB snA
  simp only [zwS_app, List.length_append]
  have a1 : (zwS [zwB 0, nmW ((m : Int) + 1)]).length ≤ 7 := by
    have := nmW_len (x := (m : Int) + 1) (by omega)
    rw [zwS_c, zwS_1]
    have h0 : (zwB 0).length = 3 := by decide
    omega
  have a2 : (zwS (if S.2.1 m 4 = 1 then [zwB 1] else [])).length ≤ 5 := by split <;> decide
  have a3 : (zwS (if S.2.1 m 6 = 0 then [] else [zwB 2, nmW (S.2.1 m 6)])).length ≤ 9 := by
    split
    · decide
    · have h3 : (nmW (S.2.1 m 6)).length = 1 := by unfold nmW; rw [if_pos (by omega)] <;> rfl
      rw [zwS_c, zwS_1, h3]
      decide
  have a4 : (zwS (if dfP S m 0 then kyW (S.2.1 m 0) else [])).length ≤ 12 := by
    split
    · exact kl
    · decide
  have a5 : (zwS (if dfP S m 1 ∨ dfP S m 2 then [zwB 8, nmW (S.2.1 m 1)] ++ [nmW (S.2.1 m 2)] else [])).length ≤ 11 := by
    split
    · have g1 := nmW_len (x := S.2.1 m 1) (by omega)
      have g2 := nmW_len (x := S.2.1 m 2) (by omega)
      have h0 : (zwB 8).length = 4 := by decide
      rw [zwS_app, List.length_append, zwS_c, zwS_1, zwS_1]
      omega
    · decide
  have a6 : (zwS (if S.2.1 m 5 = 0 then [] else [zwB 18, nmW (S.2.1 m 5)])).length ≤ 7 := by
    split
    · decide
    · have h3 : (nmW (S.2.1 m 5)).length = 1 := by unfold nmW; rw [if_pos (by omega)] <;> rfl
      rw [zwS_c, zwS_1, h3]
      decide
  have a7 : (zwS [zwB 19]).length = 4 := by decide
  omega
theorem X5_tellKey {k : Int} (hk : -7 ≤ k ∧ k ≤ 7) (hW : RW W r) (hl : (zwS (W ++ kyW k)).length ≤ 1703) (hN : 200 ≤ N) : zT (f_X5_tellKey N r.1 r.2.1 r.2.2 (iI k)) (RW (W ++ kyW k)) := by
  unfold kyW at hl ⊢
  have e : W ++ zwB 3 :: (if k = 0 then [zwB 4] else [nmW (if k < 0 then -k else k), zwB (if 0 < k then 5 else 6)]) = (W ++ [zwB 3]) ++ (if k = 0 then [zwB 4] else [nmW (if k < 0 then -k else k), zwB (if 0 < k then 5 else 6)]) := by simp
  rw [e] at hl ⊢
  have hl0 := Nat.le_trans zwS_le hl
  unfold f_X5_tellKey
  refine zT_bind (zT_mono (X5_tellWord hW (by omega) hl0 hN) (fun u hu => ?_))
  refine zT_ite (fun q => ?_) (fun q => ?_)
  · rw [iL0, iI_eq (by omega) (by omega) (by omega) (by omega)] at q
    rw [if_pos q] at hl ⊢
    exact zT_bind (zT_mono (X5_tellWord hu (by omega) hl hN) (fun u hu => zT_some hu))
  · rw [iL0, iI_eq (by omega) (by omega) (by omega) (by omega)] at q
    rw [if_neg q] at hl ⊢
    have e2 : (W ++ [zwB 3]) ++ [nmW (if k < 0 then -k else k), zwB (if 0 < k then 5 else 6)] = ((W ++ [zwB 3]) ++ [nmW (if k < 0 then -k else k)]) ++ [zwB (if 0 < k then 5 else 6)] := by simp
    rw [e2] at hl ⊢
    have hl1 := Nat.le_trans zwS_le hl
    have ea : zAbs (iI k) = iI (if k < 0 then -k else k) := by
      unfold zAbs
      by_cases y : k < 0
      · rw [if_pos y, if_neg (by rw [iL0, Int32.le_iff_toInt_le, iI_toInt (by omega) (by omega), iI_toInt (by omega) (by omega)]; omega), iL0, iI_sub]
        congr 1 <;> omega
      · rw [if_neg y, if_pos (by rw [iL0, Int32.le_iff_toInt_le, iI_toInt (by omega) (by omega), iI_toInt (by omega) (by omega)]; omega)]
    rw [ea]
    refine zT_bind (zT_mono (X5_tellNumber hu (by split <;> omega) hl1) (fun t ht => ?_))
    have ep : (if 0 < iI k then some 5 else some 6) = some (if 0 < k then 5 else 6) := by
      by_cases y : 0 < k
      · rw [if_pos y, if_pos (by rw [iL0, iI_lt (by omega) (by omega) (by omega) (by omega)]; exact y)]
      · rw [if_neg y, if_neg (by rw [iL0, iI_lt (by omega) (by omega) (by omega) (by omega)]; exact y)]
    refine zT_bindE ep (zT_bind (zT_mono (X5_tellWord ht (by split <;> omega) hl hN) (fun u hu => zT_some hu)))
theorem X5_differs (h : okC S) (hR : RC S (iI S.1) cells) (hm : m < S.1) (h0 : ¬ m = 0) {k : Nat} (hk : k < 7) {y : Int} (hy : y = k) : f_X5_differsFromBefore N (iI S.1) cells (iI m) (iI y) = some (if S.2.1 m k = S.2.1 (m - 1) k then 0 else 1) := by
  subst hy
  have h1 := h.1
  have b1 := (h.2 m hm).1 k hk
  have b2 := (h.2 (m - 1) (by omega)).1 k hk
  unfold f_X5_differsFromBefore
  rw [z_be (X4_value_at h hR hm hk), iIs1, show (m : Int) - 1 = ((m - 1 : Nat) : Int) by omega, z_be (X4_value_at h hR (by omega) hk)]
  by_cases q : S.2.1 m k = S.2.1 (m - 1) k
  · rw [if_pos q, if_pos (by rw [q])]
  · rw [if_neg q, if_neg (by rw [iI_eq (by omega) (by omega) (by omega) (by omega)]; exact q)]
theorem iI_m0 (hm : m < 100) : (iI (m : Int) = 0) = (m = 0) := by
  rw [iL0, iI_eq (by omega) (by omega) (by omega) (by omega)]
  exact propext ⟨fun h => by omega, fun h => by omega⟩
theorem X5_J71 (h : okS S) (hR : RC S (iI S.1) cells) (hm : m < S.1) (hW : RW W r) (hl : (zwS (W ++ kyW (S.2.1 m 0))).length ≤ 1703) (hN : 200 ≤ N) : zT (f_X5_tellMeasure_J71 N (iI S.1) cells (iI m) r) (RW (W ++ kyW (S.2.1 m 0))) := by
  have hV := h.2 m hm
  unfold okV at hV
  have ev : f_X4_value N (iI S.1) cells (iI m) 0 = some (iI (S.2.1 m 0)) := X4_value_at h.1 hR hm (k := 0) (by omega)
  unfold f_X5_tellMeasure_J71
  exact zT_bindE ev (zT_bind (zT_mono (X5_tellKey (by omega) hW hl hN) (fun u hu => zT_some hu)))
theorem X5_J103 (h : okS S) (hR : RC S (iI S.1) cells) (hm : m < S.1) (hW : RW W r) (hl : (zwS (W ++ ([zwB 8, nmW (S.2.1 m 1)] ++ [nmW (S.2.1 m 2)]))).length ≤ 1703) (hN : 200 ≤ N) : zT (f_X5_tellMeasure_J103 N (iI S.1) cells (iI m) r) (RW (W ++ ([zwB 8, nmW (S.2.1 m 1)] ++ [nmW (S.2.1 m 2)]))) := by
  have hV := h.2 m hm
  unfold okV at hV
  have e1 : f_X4_value N (iI S.1) cells (iI m) 1 = some (iI (S.2.1 m 1)) := X4_value_at h.1 hR hm (k := 1) (by omega)
  have e2 : f_X4_value N (iI S.1) cells (iI m) 2 = some (iI (S.2.1 m 2)) := X4_value_at h.1 hR hm (k := 2) (by omega)
  rw [← List.append_assoc] at hl ⊢
  have hl0 := Nat.le_trans zwS_le hl
  unfold f_X5_tellMeasure_J103
  exact zT_bindE e1 (zT_bind (zT_mono (X5_tellNumbered hW (by omega) (by omega) hl0 hN) (fun u hu => zT_bindE e2 (zT_bind (zT_mono (X5_tellNumber hu (by omega) hl) (fun u hu => zT_some hu))))))
theorem X5_tellMeasure (h : okS S) (hR : RC S (iI S.1) cells) (hm : m < S.1) {a b : Int32} {by0 : Nat → Int32} (hN : 200 ≤ N) : zT (f_X5_tellMeasure N a b by0 (iI S.1) cells (iI m)) (RW (snW S m)) := by
  have h1 := h.1.1
  have hV := h.2 m hm
  unfold okV at hV
  have hlW := snW_len h hm
  have hlF : (zwS (snF S m)).length ≤ 1703 := Nat.le_trans zwS_le hlW
  have hlE : (zwS (snE S m)).length ≤ 1703 := Nat.le_trans zwS_le hlF
  have hlD2 : (zwS (snD S m ++ voW S m 0 (S.2.2.1 m 0))).length ≤ 1703 := Nat.le_trans zwS_le hlE
  have hlD : (zwS (snD S m)).length ≤ 1703 := Nat.le_trans zwS_le hlD2
  have hlC : (zwS (snC S m)).length ≤ 1703 := Nat.le_trans zwS_le hlD
  have hlB : (zwS (snB S m)).length ≤ 1703 := Nat.le_trans zwS_le hlC
  have hlA : (zwS (snA S m)).length ≤ 1703 := Nat.le_trans zwS_le hlB
  have hl0 : (zwS ([] ++ [zwB 0, nmW ((m : Int) + 1)])).length ≤ 1703 := Nat.le_trans zwS_le hlA
  have e4 : f_X4_value N (iI S.1) cells (iI m) 4 = some (iI (S.2.1 m 4)) := X4_value_at h.1 hR hm (k := 4) (by omega)
  have e5 : f_X4_value N (iI S.1) cells (iI m) 5 = some (iI (S.2.1 m 5)) := X4_value_at h.1 hR hm (k := 5) (by omega)
  have e6 : f_X4_value N (iI S.1) cells (iI m) 6 = some (iI (S.2.1 m 6)) := X4_value_at h.1 hR hm (k := 6) (by omega)
  have d0 : ¬ m = 0 → f_X5_differsFromBefore N (iI S.1) cells (iI m) 0 = some (if S.2.1 m 0 = S.2.1 (m - 1) 0 then 0 else 1) := fun q => X5_differs h.1 hR hm q (k := 0) (y := 0) (by omega) rfl
  have d1 : ¬ m = 0 → f_X5_differsFromBefore N (iI S.1) cells (iI m) 1 = some (if S.2.1 m 1 = S.2.1 (m - 1) 1 then 0 else 1) := fun q => X5_differs h.1 hR hm q (k := 1) (y := 1) (by omega) rfl
  have d2 : ¬ m = 0 → f_X5_differsFromBefore N (iI S.1) cells (iI m) 2 = some (if S.2.1 m 2 = S.2.1 (m - 1) 2 then 0 else 1) := fun q => X5_differs h.1 hR hm q (k := 2) (y := 2) (by omega) rfl
  unfold f_X5_tellMeasure
  rw [iIp1]
  refine zT_bind (zT_mono (X5_tellNumbered (W := []) (r := (0, 0, by0)) ⟨RB_nil _, rfl⟩ (by omega) (by omega) hl0 hN) (fun r1 g1 => ?_))
  refine zT_bindE e4 (zT_bind (zT_mono (P := RW (snA S m)) ?_ (fun r3 g3 => ?_)))
  · unfold snA at hlA ⊢
    refine zT_ite (fun q => ?_) (fun q => ?_)
    · rw [iL1, iI_eq (by omega) (by omega) (by omega) (by omega)] at q
      rw [if_pos q] at hlA ⊢
      exact zT_bind (zT_mono (X5_tellWord g1 (by omega) hlA hN) (fun u hu => zT_some hu))
    · rw [iL1, iI_eq (by omega) (by omega) (by omega) (by omega)] at q
      rw [if_neg q, List.append_nil]
      exact zT_some g1
  refine zT_bindE e6 (zT_bind (zT_mono (P := RW (snB S m)) ?_ (fun r5 g5 => ?_)))
  · unfold snB at hlB ⊢
    refine zT_ite (fun q => ?_) (fun q => ?_)
    · rw [iL0, iI_eq (by omega) (by omega) (by omega) (by omega)] at q
      rw [if_pos q, List.append_nil]
      exact zT_some g3
    · rw [iL0, iI_eq (by omega) (by omega) (by omega) (by omega)] at q
      rw [if_neg q] at hlB ⊢
      exact zT_bindE e6 (zT_bind (zT_mono (X5_tellNumbered g3 (by omega) (by omega) hlB hN) (fun u hu => zT_some hu)))
  refine zT_bind (zT_mono (P := RW (snC S m)) ?_ (fun r6 g6 => ?_))
  · unfold snC at hlC ⊢
    refine zT_ite (fun q => ?_) (fun q => ?_)
    · rw [iI_m0 (by omega)] at q
      rw [if_pos (Or.inl q)] at hlC ⊢
      exact X5_J71 h hR hm g5 hlC hN
    · rw [iI_m0 (by omega)] at q
      refine zT_bindE (d0 q) ?_
      by_cases q2 : S.2.1 m 0 = S.2.1 (m - 1) 0
      · rw [if_pos q2, if_neg (show ¬ dfP S m 0 from fun y => Or.elim y q (fun z => z q2)), List.append_nil]
        exact zT_ite (fun _ => zT_some g5) (fun y => absurd rfl y)
      · rw [if_neg q2]
        rw [if_pos (Or.inr q2)] at hlC ⊢
        exact zT_ite (fun y => absurd y (by decide)) (fun _ => X5_J71 h hR hm g5 hlC hN)
  refine zT_bind (zT_mono (P := RW (snD S m)) ?_ (fun r7 g7 => ?_))
  · unfold snD at hlD ⊢
    refine zT_ite (fun q => ?_) (fun q => ?_)
    · rw [iI_m0 (by omega)] at q
      rw [if_pos (Or.inl (Or.inl q))] at hlD ⊢
      exact X5_J103 h hR hm g6 hlD hN
    · rw [iI_m0 (by omega)] at q
      refine zT_bindE (d1 q) ?_
      by_cases q2 : S.2.1 m 1 = S.2.1 (m - 1) 1
      · rw [if_pos q2]
        refine zT_ite (fun _ => zT_bindE (d2 q) ?_) (fun y => absurd rfl y)
        by_cases q3 : S.2.1 m 2 = S.2.1 (m - 1) 2
        · rw [if_pos q3, if_neg (show ¬ (dfP S m 1 ∨ dfP S m 2) from fun y => Or.elim y (fun y => Or.elim y q (fun z => z q2)) (fun y => Or.elim y q (fun z => z q3))), List.append_nil]
          exact zT_ite (fun _ => zT_some g6) (fun y => absurd rfl y)
        · rw [if_neg q3]
          rw [if_pos (Or.inr (Or.inr q3))] at hlD ⊢
          exact zT_ite (fun y => absurd y (by decide)) (fun _ => X5_J103 h hR hm g6 hlD hN)
      · rw [if_neg q2]
        rw [if_pos (Or.inl (Or.inr q2))] at hlD ⊢
        exact zT_ite (fun y => absurd y (by decide)) (fun _ => X5_J103 h hR hm g6 hlD hN)
  refine zT_bind (zT_mono (P := RW (snE S m)) ?_ (fun r8 g8 => ?_))
  · obtain ⟨n, rfl⟩ : ∃ n, N = n + 3 := ⟨N - 3, by omega⟩
    show zT (f_X5_tellMeasure_B127 _ _ _ _ _ _) _
    unfold f_X5_tellMeasure_B127
    rw [if_pos (by show (0 : Int32) < 2; decide)]
    refine zT_bind (zT_mono (X5_tellVoice (v := 0) h.1 hR hm (by omega) g7 hlD2 hN) (fun u hu => zT_bindE rfl ?_))
    show zT (f_X5_tellMeasure_B127 _ _ _ _ _ _) _
    unfold f_X5_tellMeasure_B127
    rw [if_pos (by show (0 : Int32) + 1 < 2; decide)]
    refine zT_bind (zT_mono (X5_tellVoice (v := 1) h.1 hR hm (by omega) hu hlE hN) (fun u hu => zT_bindE rfl ?_))
    show zT (f_X5_tellMeasure_B127 _ _ _ _ _ _) _
    unfold f_X5_tellMeasure_B127
    rw [if_neg (by show ¬ (0 : Int32) + 1 + 1 < 2; decide)]
    exact zT_some hu
  refine zT_bindE e5 (zT_bind (zT_mono (P := RW (snF S m)) ?_ (fun r10 g10 => ?_)))
  · unfold snF at hlF ⊢
    refine zT_ite (fun q => ?_) (fun q => ?_)
    · rw [iL0, iI_eq (by omega) (by omega) (by omega) (by omega)] at q
      rw [if_pos q, List.append_nil]
      exact zT_some g8
    · rw [iL0, iI_eq (by omega) (by omega) (by omega) (by omega)] at q
      rw [if_neg q] at hlF ⊢
      exact zT_bindE e5 (zT_bind (zT_mono (X5_tellNumbered g8 (by omega) (by omega) hlF hN) (fun u hu => zT_some hu)))
  exact zT_bind (zT_mono (X5_tellWord g10 (by omega) hlW hN) (fun u hu => zT_some hu))
end ZNQ
