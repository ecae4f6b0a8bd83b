/-! ===== sentences: a whole measure, by the reference ===== -/
def RLn (W : List (List Int)) (l : Int32 × (Nat → Int32)) : Prop := RB (zwR W) l.1 l.2 ∧ ∀ w, w ∈ W → w ≠ []
section ZNS
variable {N : Nat} {S : zSt} {st cells : Nat → Int32} {W V : List (List Int)} {l : Int32 × (Nat → Int32)} {m v e w : Nat} {x : Int} {y : zEv}
theorem ne_snoc {w : List Int} (h : ∀ w, w ∈ W → w ≠ []) (hw : 1 ≤ w.length) : ∀ v, v ∈ W ++ [w] → v ≠ [] := by
  intro v hv
  rcases List.mem_append.mp hv with q | q
  · exact h v q
  · rw [List.mem_singleton.mp q]
    intro y
    rw [y] at hw
    exact absurd hw (by decide)
theorem L_word (h : RLn W l) (hw : w < 20) (hl : (zwS (W ++ [zwB w])).length ≤ 1703) (hN : 200 ≤ N) {y : Int} (hy : y = w) : zT (f_X10_writesWord N l.1 l.2 zSp (iI y)) (RLn (W ++ [zwB w])) := zT_mono (X10_writesWord h.1 h.2 hw hl hN hy) (fun _ hu => ⟨hu, ne_snoc h.2 (zwB_len w (by omega)).1⟩)
theorem L_num (h : RLn W l) (hx : 0 ≤ x ∧ x < 100) (hl : (zwS (W ++ [nmW x])).length ≤ 1703) : zT (f_X10_writesNumber N l.1 l.2 (iI x)) (RLn (W ++ [nmW x])) := zT_mono (X10_writesNumber h.1 h.2 hx hl) (fun _ hu => ⟨hu, ne_snoc h.2 (nmW_len hx).1⟩)
theorem X10_writesEvent (h : okC S) (hR : RM S st) (hm : m < S.1) (hv : v < 2) (he : e < S.2.2.1 m v) (hW : RLn W l) (hl : (zwS (W ++ evW (S.2.2.2 m v e))).length ≤ 1703) (hN : 200 ≤ N) : zT (f_X10_writesEvent N l.1 l.2 zSp st (iI m) (iI v) (iI e)) (RLn (W ++ evW (S.2.2.2 m v e))) := by
  have l0 := zld0 h hR hm hv he
  have l1 := zld1 h hR hm hv he
  have l2 := zld2 h hR hm hv he
  have l3 := zld3 h hR hm hv he
  have hx := okC_ev h hm hv he
  generalize S.2.2.2 m v e = x at *
  have hb := okE_b hx
  unfold evW at hl ⊢
  rw [← List.append_assoc, ← List.append_assoc, ← List.append_assoc] at hl ⊢
  have hl3 := Nat.le_trans zwS_le hl
  have hl2 := Nat.le_trans zwS_le hl3
  have hl1 := Nat.le_trans zwS_le hl2
  unfold f_X10_writesEvent
  refine zT_bindE X10_cell (zT_bindE l0 (zT_bind (zT_mono (P := RLn (W ++ evA x)) ?_ (fun r3 g3 => ?_))))
  · have em : (iI x.1 = -1) = (x.1 < 0) := by
      rw [show (-1 : Int32) = iI (-1) from rfl, iI_eq (by omega) (by omega) (by omega) (by omega)]
      exact propext ⟨fun h => by omega, fun h => by omega⟩
    refine zT_ite (fun q => ?_) (fun q => ?_)
    · rw [em] at q
      have ea : evA x = [zwB 10] := by unfold evA; rw [if_pos q]
      rw [ea] at hl1 ⊢
      exact zT_bind (zT_mono (L_word (y := 10) hW (by omega) hl1 hN rfl) (fun u hu => zT_some hu))
    · rw [em] at q
      have ea : evA x = [97 + (x.1 + 2) % 7] :: ((if x.2.1 = 0 then [] else [zwB (4 + x.2.1.toNat)]) ++ [nmW (x.1 / 7)]) := by unfold evA; rw [if_neg q]
      rw [ea] at hl1 ⊢
      have e0 : W ++ [97 + (x.1 + 2) % 7] :: ((if x.2.1 = 0 then [] else [zwB (4 + x.2.1.toNat)]) ++ [nmW (x.1 / 7)]) = ((W ++ [[97 + (x.1 + 2) % 7]]) ++ (if x.2.1 = 0 then [] else [zwB (4 + x.2.1.toNat)])) ++ [nmW (x.1 / 7)] := by simp
      rw [e0] at hl1 ⊢
      have hm2 := Nat.le_trans (zwS_le (V := [nmW (x.1 / 7)])) hl1
      have hm1 := Nat.le_trans (zwS_le (V := (if x.2.1 = 0 then [] else [zwB (4 + x.2.1.toNat)]))) hm2
      have hm0 := hm1
      rw [zwS_len1] at hm0
      have hm0 : (zwS W).length + 1 + 1 ≤ 1703 := hm0
      refine zT_bind (zT_mono (X10_gap hW.1 hW.2 (by omega)) ?_)
      rintro ⟨b1, b3⟩ h1
      dsimp only at h1 ⊢
      rw [iL2, iI_add, iL7, zRemI (by omega) (by omega) (by omega) (by omega)]
      refine zT_bindE rfl ?_
      rw [iL97, iI_add]
      refine zT_bind (zT_mono (X10_writes h1 (by rw [zwG_len]; omega)) ?_)
      rintro ⟨u1, u2⟩ hu
      dsimp only at hu ⊢
      have hu2 : RLn (W ++ [[97 + (x.1 + 2) % 7]]) (u1, u2) := ⟨by rw [zwR_snoc]; exact hu, ne_snoc hW.2 (Nat.le_refl 1)⟩
      refine zT_bindE l1 (zT_bind (zT_mono (P := RLn ((W ++ [[97 + (x.1 + 2) % 7]]) ++ (if x.2.1 = 0 then [] else [zwB (4 + x.2.1.toNat)]))) ?_ (fun t ht => ?_)))
      · refine zT_ite (fun z => ?_) (fun z => ?_)
        · rw [iL0, iI_lt (by omega) (by omega) (by omega) (by omega)] at z
          rw [if_neg (by omega)] at hm2 ⊢
          refine zT_bindE l1 ?_
          rw [iL4, iI_add]
          exact zT_bind (zT_mono (L_word (l := (u1, u2)) hu2 (by omega) hm2 hN (by omega)) (fun u hu => zT_some hu))
        · rw [iL0, iI_lt (by omega) (by omega) (by omega) (by omega)] at z
          rw [if_pos (by omega), List.append_nil]
          exact zT_some hu2
      · rw [zDivI (by omega) (by omega) (by omega) (by omega)]
        exact zT_bindE rfl (zT_bind (zT_mono (L_num ht (by omega) hl1) (fun u hu => zT_some hu)))
  refine zT_bindE l2 ?_
  rw [show zRem (iI x.2.2.1) 2 = some (iI (x.2.2.1 % 2)) from zRemI (b := 2) (by omega) (by omega) (by omega) (by omega)]
  refine zT_bindE rfl (zT_bind (zT_mono (P := RLn (W ++ evA x ++ (if x.2.2.1 % 2 = 1 then [zwB 11] else []))) ?_ (fun t ht => ?_)))
  · refine zT_ite (fun z => ?_) (fun z => ?_)
    · rw [iL1, iI_eq (by omega) (by omega) (by omega) (by omega)] at z
      rw [if_pos z] at hl2 ⊢
      exact zT_bind (zT_mono (L_word (y := 11) g3 (by omega) hl2 hN rfl) (fun u hu => zT_some hu))
    · rw [iL1, iI_eq (by omega) (by omega) (by omega) (by omega)] at z
      rw [if_neg z, List.append_nil]
      exact zT_some g3
  refine zT_bindE l2 ?_
  rw [show zDiv (iI x.2.2.1) 2 = some (iI (x.2.2.1 / 2)) from zDivI (b := 2) (by omega) (by omega) (by omega) (by omega)]
  refine zT_bindE rfl ?_
  rw [iL12, iI_add]
  refine zT_bind (zT_mono (L_word ht (by omega) hl3 hN (by omega)) (fun u hu => zT_bindE l3 ?_))
  refine zT_ite (fun z => ?_) (fun z => ?_)
  · rw [iL1, iI_eq (by omega) (by omega) (by omega) (by omega)] at z
    rw [if_pos z] at hl ⊢
    exact zT_bind (zT_mono (L_word (y := 17) hu (by omega) hl hN rfl) (fun u hu => zT_some hu))
  · rw [iL1, iI_eq (by omega) (by omega) (by omega) (by omega)] at z
    rw [if_neg z, List.append_nil]
    exact zT_some hu
theorem X10_writesKey {k : Int} (hk : -7 ≤ k ∧ k ≤ 7) (hW : RLn W l) (hl : (zwS (W ++ kyW k)).length ≤ 1703) (hN : 200 ≤ N) : zT (f_X10_writesKey N l.1 l.2 zSp (iI k)) (RLn (W ++ kyW k)) := by
  unfold kyW at hl ⊢
  have e : W ++ zwB 3 :: (if k = 0 then [zwB 4] else [nmW (if k < 0 then -k else k), zwB (if 0 < k then 5 else 6)]) = (W ++ [zwB 3]) ++ (if k = 0 then [zwB 4] else [nmW (if k < 0 then -k else k), zwB (if 0 < k then 5 else 6)]) := by simp
  rw [e] at hl ⊢
  have hl0 := Nat.le_trans zwS_le hl
  unfold f_X10_writesKey
  refine zT_bind (zT_mono (L_word (y := 3) hW (by omega) hl0 hN rfl) (fun u hu => ?_))
  refine zT_ite (fun q => ?_) (fun q => ?_)
  · rw [iL0, iI_eq (by omega) (by omega) (by omega) (by omega)] at q
    rw [if_pos q] at hl ⊢
    exact zT_bind (zT_mono (L_word (y := 4) hu (by omega) hl hN rfl) (fun u hu => zT_some hu))
  · rw [iL0, iI_eq (by omega) (by omega) (by omega) (by omega)] at q
    rw [if_neg q] at hl ⊢
    have e2 : (W ++ [zwB 3]) ++ [nmW (if k < 0 then -k else k), zwB (if 0 < k then 5 else 6)] = ((W ++ [zwB 3]) ++ [nmW (if k < 0 then -k else k)]) ++ [zwB (if 0 < k then 5 else 6)] := by simp
    rw [e2] at hl ⊢
    have hl1 := Nat.le_trans zwS_le hl
    have hlt : (iI k < 0) = (k < 0) := by rw [iL0, iI_lt (by omega) (by omega) (by omega) (by omega)]
    have ea : (if iI k < 0 then some (-iI k) else some (iI k)) = some (iI (if k < 0 then -k else k)) := by
      by_cases y : k < 0
      · rw [if_pos y, if_pos (by rw [hlt]; exact y), iI_neg]
      · rw [if_neg y, if_neg (by rw [hlt]; exact y)]
    have ep : (if iI k < 0 then some (6 : Int32) else some 5) = some (iI (if 0 < k then 5 else 6)) := by
      by_cases y : k < 0
      · rw [if_pos (by rw [hlt]; exact y), if_neg (by omega)] <;> rfl
      · rw [if_neg (by rw [hlt]; exact y), if_pos (by omega)] <;> rfl
    refine zT_bindE ea (zT_bind (zT_mono (L_num hu (by split <;> omega) hl1) (fun t ht => ?_)))
    refine zT_bindE ep (zT_bind (zT_mono (L_word ht (by split <;> omega) hl hN (by split <;> rfl)) (fun u hu => zT_some hu)))
theorem X10_isOther (h : okC S) (hR : RM S st) (hm : m < S.1) {k : Nat} (hk : k < 7) {y : Int} (hy : y = k) : f_X10_isOther N st (iI m) (iI y) = some (if dfP S m k then 1 else 0) := by
  subst hy
  have h1 := h.1
  have b1 := (h.2 m hm).1 k hk
  have b2 := (h.2 (m - 1) (by omega)).1 k hk
  unfold f_X10_isOther
  by_cases q0 : m = 0
  · rw [if_pos (by rw [iI_m0 (by omega)]; exact q0), if_pos (Or.inl q0)]
  · rw [if_neg (by rw [iI_m0 (by omega)]; exact q0), z_be (X10_of_V h hR hm hk rfl), iIs1, show (m : Int) - 1 = ((m - 1 : Nat) : Int) by omega, z_be (X10_of_V h hR (by omega) hk rfl)]
    by_cases q : S.2.1 m k = S.2.1 (m - 1) k
    · rw [if_neg (show ¬ dfP S m k from fun y => Or.elim y q0 (fun z => z q)), if_pos (by rw [q])]
    · rw [if_pos (show dfP S m k from Or.inr q), if_neg (by rw [iI_eq (by omega) (by omega) (by omega) (by omega)]; exact q)]
theorem X10_J95 (h : okS S) (hR : RM S st) (hm : m < S.1) (hW : RLn W l) (hl : (zwS (W ++ ([zwB 8, nmW (S.2.1 m 1)] ++ [nmW (S.2.1 m 2)]))).length ≤ 1703) (hN : 200 ≤ N) : zT (f_X10_tellsAll_J95 N l zSp st (iI m)) (RLn (W ++ ([zwB 8, nmW (S.2.1 m 1)] ++ [nmW (S.2.1 m 2)]))) := by
  have hV := h.2 m hm
  unfold okV at hV
  have e1 : f_X10_of N st (iI m) 1 = some (iI (S.2.1 m 1)) := X10_of_V h.1 hR hm (k := 1) (a := 1) (by omega) rfl
  have e2 : f_X10_of N st (iI m) 2 = some (iI (S.2.1 m 2)) := X10_of_V h.1 hR hm (k := 2) (a := 2) (by omega) rfl
  have e : W ++ ([zwB 8, nmW (S.2.1 m 1)] ++ [nmW (S.2.1 m 2)]) = ((W ++ [zwB 8]) ++ [nmW (S.2.1 m 1)]) ++ [nmW (S.2.1 m 2)] := by simp
  rw [e] at hl ⊢
  have hl1 := Nat.le_trans zwS_le hl
  have hl0 := Nat.le_trans zwS_le hl1
  unfold f_X10_tellsAll_J95
  exact zT_bind (zT_mono (L_word (y := 8) hW (by omega) hl0 hN rfl) (fun u hu => zT_bindE e1 (zT_bind (zT_mono (L_num hu (by omega) hl1) (fun u hu => zT_bindE e2 (zT_bind (zT_mono (L_num hu (by omega) hl) (fun u hu => zT_some hu))))))))
theorem voW_mono {k : Nat} (W : List (List Int)) (he : e ≤ k) : (zwS (W ++ voW S m v e)).length ≤ (zwS (W ++ voW S m v k)).length := by
  unfold voW
  by_cases q : e = 0
  · rw [if_pos q, List.append_nil]
    exact zwS_le
  · rw [if_neg q, if_neg (by omega), ← List.append_assoc, ← List.append_assoc]
    have := voE_mono (S := S) (m := m) (v := v) (e := e) (W ++ [zwB 9, nmW ((v : Int) + 1)]) (k - e)
    rw [show e + (k - e) = k by omega] at this
    exact this
theorem X10_B130 (h : okC S) (hR : RM S st) (hm : m < S.1) (hv : v < 2) (hW : RLn W l) (hl : (zwS (W ++ voW S m v (S.2.2.1 m v))).length ≤ 1703) (hN : 200 ≤ N) {a b : Int32} {f : Nat → Int32} : zT (zLoop (f_X10_tellsAll_B130 N st (iI m) (iI v, b, f) zSp) N (0, l.1, l.2)) (RLn (W ++ voW S m v (S.2.2.1 m v))) := by
  have h1 := h.1
  have hC := okC_C h hm hv
  refine zT_loop (fun n s => ∃ j : Nat, j ≤ S.2.2.1 m v ∧ n = S.2.2.1 m v - j ∧ s.1 = iI j ∧ RLn (W ++ voW S m v j) s.2) ?_ N (S.2.2.1 m v) (0, l.1, l.2) (by omega) ⟨0, by omega, rfl, rfl, by unfold voW; rw [if_pos rfl, List.append_nil]; exact hW⟩
  rintro n ⟨s1, s2⟩ k ⟨j, hj, rfl, q1, hp⟩ ih
  dsimp only at q1 hp
  subst q1
  unfold f_X10_tellsAll_B130
  dsimp only
  have ec : f_X10_of N st (iI m) (7 + iI v) = some (iI (S.2.2.1 m v)) := by
    rw [iL7, iI_add]
    exact X10_of_C h hR hm hv rfl
  refine zT_bindE ec (zT_ite (fun q => ?_) (fun q => ?_))
  · rw [iI_lt (by omega) (by omega) (by omega) (by omega)] at q
    have hj2 : j < S.2.2.1 m v := by omega
    have hl2 := Nat.le_trans (voW_mono (S := S) (m := m) (v := v) (e := j + 1) (k := S.2.2.1 m v) W (by omega)) hl
    have e1 : W ++ voW S m v (j + 1) = (W ++ ([zwB 9, nmW ((v : Int) + 1)] ++ voE S m v j)) ++ evW (S.2.2.2 m v j) := by
      unfold voW
      rw [if_neg (by omega), voE]
      simp
    rw [e1] at hl2
    have hl3 := Nat.le_trans zwS_le hl2
    refine zT_bind (zT_mono (P := RLn (W ++ ([zwB 9, nmW ((v : Int) + 1)] ++ voE S m v j))) ?_ (fun u hu => ?_))
    · refine zT_ite (fun z => ?_) (fun z => ?_)
      · rw [iL0, iI_eq (by omega) (by omega) (by omega) (by omega)] at z
        obtain rfl : j = 0 := by omega
        have e2 : W ++ ([zwB 9, nmW ((v : Int) + 1)] ++ voE S m v 0) = (W ++ [zwB 9]) ++ [nmW ((v : Int) + 1)] := by rw [voE]; simp
        rw [e2] at hl3 ⊢
        have hl4 := Nat.le_trans zwS_le hl3
        unfold voW at hp
        rw [if_pos rfl, List.append_nil] at hp
        rw [iIp1]
        exact zT_bind (zT_mono (L_word (y := 9) hp (by omega) hl4 hN rfl) (fun u hu => zT_bind (zT_mono (L_num hu (by omega) hl3) (fun u hu => zT_some hu))))
      · rw [iL0, iI_eq (by omega) (by omega) (by omega) (by omega)] at z
        unfold voW at hp
        rw [if_neg (by omega)] at hp
        exact zT_some hp
    · refine zT_bind (zT_mono (X10_writesEvent h hR hm hv hj2 hu hl2 hN) (fun t ht => zT_bindE rfl (ih (S.2.2.1 m v - (j + 1)) _ (by omega) ⟨j + 1, by omega, rfl, iIp1 _, ?_⟩)))
      rw [e1]
      exact ht
  · rw [iI_lt (by omega) (by omega) (by omega) (by omega)] at q
    rw [show j = S.2.2.1 m v by omega] at hp
    exact zT_some hp
theorem X10_tellsAll (h : okS S) (hR : RM S st) (hm : m < S.1) {a : Int32} {ln : Nat → Int32} (hN : 200 ≤ N) : zT (f_X10_tellsAll N a ln zSp st (iI m)) (RLn (snW S m)) := by
  have h1 := h.1.1
  have hV := h.2 m hm
  unfold okV at hV
  have hlW := snW_len h hm
  have hlF : (zwS (snF S m)).length ≤ 1703 := Nat.le_trans zwS_le hlW
  have hlE : (zwS (snE S m)).length ≤ 1703 := Nat.le_trans zwS_le hlF
  have hlD2 : (zwS (snD S m ++ voW S m 0 (S.2.2.1 m 0))).length ≤ 1703 := Nat.le_trans zwS_le hlE
  have hlD : (zwS (snD S m)).length ≤ 1703 := Nat.le_trans zwS_le hlD2
  have hlC : (zwS (snC S m)).length ≤ 1703 := Nat.le_trans zwS_le hlD
  have hlB : (zwS (snB S m)).length ≤ 1703 := Nat.le_trans zwS_le hlC
  have hlA : (zwS (snA S m)).length ≤ 1703 := Nat.le_trans zwS_le hlB
  have hl0 : (zwS ([] ++ [zwB 0, nmW ((m : Int) + 1)])).length ≤ 1703 := Nat.le_trans zwS_le hlA
  have e00 : ([] : List (List Int)) ++ [zwB 0, nmW ((m : Int) + 1)] = ([] ++ [zwB 0]) ++ [nmW ((m : Int) + 1)] := by simp
  rw [e00] at hl0
  have hl00 := Nat.le_trans zwS_le hl0
  have e0 : f_X10_of N st (iI m) 0 = some (iI (S.2.1 m 0)) := X10_of_V h.1 hR hm (k := 0) (a := 0) (by omega) rfl
  have e4 : f_X10_of N st (iI m) 4 = some (iI (S.2.1 m 4)) := X10_of_V h.1 hR hm (k := 4) (a := 4) (by omega) rfl
  have e5 : f_X10_of N st (iI m) 5 = some (iI (S.2.1 m 5)) := X10_of_V h.1 hR hm (k := 5) (a := 5) (by omega) rfl
  have e6 : f_X10_of N st (iI m) 6 = some (iI (S.2.1 m 6)) := X10_of_V h.1 hR hm (k := 6) (a := 6) (by omega) rfl
  have d0 : f_X10_isOther N st (iI m) 0 = some (if dfP S m 0 then 1 else 0) := X10_isOther h.1 hR hm (k := 0) (y := 0) (by omega) rfl
  have d1 : f_X10_isOther N st (iI m) 1 = some (if dfP S m 1 then 1 else 0) := X10_isOther h.1 hR hm (k := 1) (y := 1) (by omega) rfl
  have d2 : f_X10_isOther N st (iI m) 2 = some (if dfP S m 2 then 1 else 0) := X10_isOther h.1 hR hm (k := 2) (y := 2) (by omega) rfl
  unfold f_X10_tellsAll
  rw [iIp1]
  refine zT_bind (zT_mono (L_word (W := []) (l := (0, ln)) (y := 0) ⟨RB_nil _, fun w hw => by cases hw⟩ (by omega) hl00 hN rfl) (fun r0 g0 => ?_))
  refine zT_bind (zT_mono (L_num g0 (by omega) hl0) (fun r1 g1 => ?_))
  rw [← e00] at g1
  refine zT_bindE e4 (zT_bind (zT_mono (P := RLn (snA S m)) ?_ (fun r3 g3 => ?_)))
  · unfold snA at hlA ⊢
    refine zT_ite (fun q => ?_) (fun q => ?_)
    · rw [iL1, iI_eq (by omega) (by omega) (by omega) (by omega)] at q
      rw [if_pos q] at hlA ⊢
      exact zT_bind (zT_mono (L_word (y := 1) g1 (by omega) hlA hN rfl) (fun u hu => zT_some hu))
    · rw [iL1, iI_eq (by omega) (by omega) (by omega) (by omega)] at q
      rw [if_neg q, List.append_nil]
      exact zT_some g1
  refine zT_bindE e6 (zT_bind (zT_mono (P := RLn (snB S m)) ?_ (fun r5 g5 => ?_)))
  · unfold snB at hlB ⊢
    refine zT_ite (fun q => ?_) (fun q => ?_)
    · rw [iL0, iI_lt (by omega) (by omega) (by omega) (by omega)] at q
      rw [if_neg (by omega)] at hlB ⊢
      have e2 : snA S m ++ [zwB 2, nmW (S.2.1 m 6)] = (snA S m ++ [zwB 2]) ++ [nmW (S.2.1 m 6)] := by simp
      rw [e2] at hlB ⊢
      have hlB2 := Nat.le_trans zwS_le hlB
      exact zT_bind (zT_mono (L_word (y := 2) g3 (by omega) hlB2 hN rfl) (fun u hu => zT_bindE e6 (zT_bind (zT_mono (L_num hu (by omega) hlB) (fun u hu => zT_some hu)))))
    · rw [iL0, iI_lt (by omega) (by omega) (by omega) (by omega)] at q
      rw [if_pos (by omega), List.append_nil]
      exact zT_some g3
  refine zT_bindE d0 (zT_bind (zT_mono (P := RLn (snC S m)) ?_ (fun r6 g6 => ?_)))
  · unfold snC at hlC ⊢
    by_cases q : dfP S m 0
    · rw [if_pos q, if_neg ne10]
      rw [if_pos q] at hlC ⊢
      exact zT_bindE e0 (zT_bind (zT_mono (X10_writesKey (by omega) g5 hlC hN) (fun u hu => zT_some hu)))
    · rw [if_neg q, if_pos rfl, if_neg q, List.append_nil]
      exact zT_some g5
  refine zT_bindE d1 (zT_bind (zT_mono (P := RLn (snD S m)) ?_ (fun r7 g7 => ?_)))
  · unfold snD at hlD ⊢
    by_cases q : dfP S m 1
    · rw [if_pos q, if_neg ne10]
      rw [if_pos (Or.inl q)] at hlD ⊢
      exact X10_J95 h hR hm g6 hlD hN
    · rw [if_neg q, if_pos rfl]
      refine zT_bindE d2 ?_
      by_cases q2 : dfP S m 2
      · rw [if_pos q2, if_neg ne10]
        rw [if_pos (Or.inr q2)] at hlD ⊢
        exact X10_J95 h hR hm g6 hlD hN
      · rw [if_neg q2, if_pos rfl, if_neg (fun y => y.elim q q2), List.append_nil]
        exact zT_some g6
  refine zT_bind (zT_mono (P := RLn (snE S m)) ?_ (fun r8 g8 => ?_))
  · obtain ⟨n, rfl⟩ : ∃ n, N = n + 3 := ⟨N - 3, by omega⟩
    show zT (f_X10_tellsAll_B123 _ _ _ _ _ _) _
    unfold f_X10_tellsAll_B123
    rw [if_pos (by show (0 : Int32) < 2; decide)]
    refine zT_bind (zT_mono (X10_B130 (v := 0) (a := 0) h.1 hR hm (by omega) g7 hlD2 hN) (fun u hu => zT_bindE rfl ?_))
    show zT (f_X10_tellsAll_B123 _ _ _ _ _ _) _
    unfold f_X10_tellsAll_B123
    rw [if_pos (by show (0 : Int32) + 1 < 2; decide)]
    refine zT_bind (zT_mono (X10_B130 (v := 1) (a := 0) h.1 hR hm (by omega) hu hlE hN) (fun u hu => zT_bindE rfl ?_))
    show zT (f_X10_tellsAll_B123 _ _ _ _ _ _) _
    unfold f_X10_tellsAll_B123
    rw [if_neg (by show ¬ (0 : Int32) + 1 + 1 < 2; decide)]
    exact zT_some hu
  refine zT_bindE e5 (zT_bind (zT_mono (P := RLn (snF S m)) ?_ (fun r10 g10 => ?_)))
  · unfold snF at hlF ⊢
    refine zT_ite (fun q => ?_) (fun q => ?_)
    · rw [iL0, iI_lt (by omega) (by omega) (by omega) (by omega)] at q
      rw [if_neg (by omega)] at hlF ⊢
      have e2 : snE S m ++ [zwB 18, nmW (S.2.1 m 5)] = (snE S m ++ [zwB 18]) ++ [nmW (S.2.1 m 5)] := by simp
      rw [e2] at hlF ⊢
      have hlF2 := Nat.le_trans zwS_le hlF
      exact zT_bind (zT_mono (L_word (y := 18) g8 (by omega) hlF2 hN rfl) (fun u hu => zT_bindE e5 (zT_bind (zT_mono (L_num hu (by omega) hlF) (fun u hu => zT_some hu)))))
    · rw [iL0, iI_lt (by omega) (by omega) (by omega) (by omega)] at q
      rw [if_pos (by omega), List.append_nil]
      exact zT_some g8
  exact zT_bind (zT_mono (L_word (y := 19) g10 (by omega) hlW hN rfl) (fun u hu => zT_some hu))
end ZNS
