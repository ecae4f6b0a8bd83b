/-! ===== sentences: an event, a voice, a measure ===== -/
def evA (x : zEv) : List (List Int) := if x.1 < 0 then [zwB 10] else [97 + (x.1 + 2) % 7] :: ((if x.2.1 = 0 then [] else [zwB (4 + x.2.1.toNat)]) ++ [nmW (x.1 / 7)])
def evW (x : zEv) : List (List Int) := ((evA x ++ (if x.2.2.1 % 2 = 1 then [zwB 11] else [])) ++ [zwB (12 + (x.2.2.1 / 2).toNat)]) ++ (if x.2.2.2 = 1 then [zwB 17] else [])
def voE (S : zSt) (m v : Nat) : Nat → List (List Int)
  | 0 => []
  | e + 1 => voE S m v e ++ evW (S.2.2.2 m v e)
def voW (S : zSt) (m v e : Nat) : List (List Int) := if e = 0 then [] else [zwB 9, nmW ((v : Int) + 1)] ++ voE S m v e
def kyW (k : Int) : List (List Int) := zwB 3 :: (if k = 0 then [zwB 4] else [nmW (if k < 0 then -k else k), zwB (if 0 < k then 5 else 6)])
abbrev dfP (S : zSt) (m k : Nat) : Prop := m = 0 ∨ ¬ S.2.1 m k = S.2.1 (m - 1) k
def snA (S : zSt) (m : Nat) : List (List Int) := [zwB 0, nmW ((m : Int) + 1)] ++ (if S.2.1 m 4 = 1 then [zwB 1] else [])
def snB (S : zSt) (m : Nat) : List (List Int) := snA S m ++ (if S.2.1 m 6 = 0 then [] else [zwB 2, nmW (S.2.1 m 6)])
def snC (S : zSt) (m : Nat) : List (List Int) := snB S m ++ (if dfP S m 0 then kyW (S.2.1 m 0) else [])
def snD (S : zSt) (m : Nat) : List (List Int) := snC S m ++ (if dfP S m 1 ∨ dfP S m 2 then [zwB 8, nmW (S.2.1 m 1)] ++ [nmW (S.2.1 m 2)] else [])
def snE (S : zSt) (m : Nat) : List (List Int) := (snD S m ++ voW S m 0 (S.2.2.1 m 0)) ++ voW S m 1 (S.2.2.1 m 1)
def snF (S : zSt) (m : Nat) : List (List Int) := snE S m ++ (if S.2.1 m 5 = 0 then [] else [zwB 18, nmW (S.2.1 m 5)])
def snW (S : zSt) (m : Nat) : List (List Int) := snF S m ++ [zwB 19]
section ZNP
variable {N : Nat} {S : zSt} {st cells : Nat → Int32} {W V : List (List Int)} {r : Int32 × Int32 × (Nat → Int32)} {l : Int32 × (Nat → Int32)} {m v e w : Nat} {x : zEv}
theorem zwS_le {W V : List (List Int)} : (zwS W).length ≤ (zwS (W ++ V)).length := by
  rw [zwS_app, List.length_append]
  omega
theorem zwS_nil : (zwS []).length = 0 := rfl
theorem zwS_1 (w : List Int) : (zwS [w]).length = w.length + 1 := by
  have := zwS_len1 [] w
  rw [List.nil_append, zwS_nil] at this
  omega
theorem zwS_c (w : List Int) (W : List (List Int)) : (zwS (w :: W)).length = w.length + 1 + (zwS W).length := by
  rw [zwS_cons, List.length_append, List.length_cons]
theorem evA_len (hx : okE x) : (zwS (evA x)).length ≤ 12 := by
  have hb := okE_b hx
  unfold evA
  split
  · decide
  · have h1' : (nmW (x.1 / 7)).length = 1 := by unfold nmW; rw [if_pos (by omega)]; rfl
    have h2 : (zwS (if x.2.1 = 0 then [] else [zwB (4 + x.2.1.toNat)])).length ≤ 8 := by
      split
      · decide
      · rcases (show x.2.1 = 1 ∨ x.2.1 = 2 ∨ x.2.1 = 3 by omega) with q | q | q <;> rw [q] <;> decide
    have h3 : (zwS [nmW (x.1 / 7)]).length = 2 := by rw [zwS_1, h1']
    rw [zwS_c, zwS_app, List.length_append, h3]
    show 1 + 1 + (_ + 2) ≤ 12
    omega
theorem evW_len (hx : okE x) : (zwS (evW x)).length ≤ 34 := by
  have hb := okE_b hx
  have h1 := evA_len hx
  unfold evW
  rw [zwS_app, zwS_app, zwS_app, List.length_append, List.length_append, List.length_append]
  have h2 : (zwS (if x.2.2.1 % 2 = 1 then [zwB 11] else [])).length ≤ 7 := by split <;> decide
  have h3 : (zwS [zwB (12 + (x.2.2.1 / 2).toNat)]).length ≤ 10 := by
    rw [zwS_1]
    have := zwB_len (12 + (x.2.2.1 / 2).toNat) (by omega)
    omega
  have h4 : (zwS (if x.2.2.2 = 1 then [zwB 17] else [])).length ≤ 5 := by split <;> decide
  omega
theorem X8_letterOf_all : ∀ s : Nat, s < 7 → zSlen 20 = some (iI 7) ∧ zSch 20 (iI s) = some (iI (97 + ((s : Int) + 2) % 7)) ∧ zNar .char (iI (97 + ((s : Int) + 2) % 7)) = some (iI (97 + ((s : Int) + 2) % 7)) := by decide +kernel
theorem X8_letterOf {s : Nat} (hs : s < 7) : f_X8_letterOf N (iI s) = some (iI (97 + ((s : Int) + 2) % 7)) := by
  obtain ⟨h1, h2, h3⟩ := X8_letterOf_all s hs
  unfold f_X8_letterOf
  rw [if_neg (by rw [iL0, iI_lt (by omega) (by omega) (by omega) (by omega)]; omega), z_be h1, if_pos (by rw [iI_lt (by omega) (by omega) (by omega) (by omega)]; omega), z_be h2, z_be h3]
theorem X5_evA (h : RW W r) (hx : okE x) (hl : (zwS (W ++ evA x)).length ≤ 1703) (hN : 200 ≤ N) : zT (Option.bind (f_X0_isNote N (iI (pk x))) (fun (r1_ : Int32) => if r1_ = 0 then Option.bind (f_X5_tellWord N r.1 r.2.1 r.2.2 10) (fun (r11_ : Int32 × Int32 × (Nat → Int32)) => some (r11_.1, r11_.2.1, r11_.2.2)) else Option.bind (f_X5_beginWord N r.1 r.2.1 r.2.2) (fun (r12_ : Int32 × Int32 × (Nat → Int32)) => Option.bind (f_X0_stepOf N (iI (pk x))) (fun (r13_ : Int32) => Option.bind (f_X8_letterOf N r13_) (fun (r14_ : Int32) => Option.bind (f_X5_put N r12_.1 r12_.2.2 r14_) (fun (r15_ : Int32 × (Nat → Int32)) => Option.bind (f_X0_signOf N (iI (pk x))) (fun (r16_ : Int32) => Option.bind (if r16_ = 0 then some (r15_.1, r12_.2.1, r15_.2) else Option.bind (f_X0_signOf N (iI (pk x))) (fun (r20_ : Int32) => Option.bind (f_X8_ofSign N r20_) (fun (r21_ : Nat) => Option.bind (f_X5_tellWord N r15_.1 r12_.2.1 r15_.2 r21_) (fun (r22_ : Int32 × Int32 × (Nat → Int32)) => some (r22_.1, r22_.2.1, r22_.2.2))))) (fun (r17_ : Int32 × Int32 × (Nat → Int32)) => Option.bind (f_X0_octaveOf N (iI (pk x))) (fun (r18_ : Int32) => Option.bind (f_X5_tellNumber N r17_.1 r17_.2.1 r17_.2.2 r18_) (fun (r19_ : Int32 × Int32 × (Nat → Int32)) => some (r19_.1, r19_.2.1, r19_.2.2))))))))))) (RW (W ++ evA x)) := by
  have hb := okE_b hx
  have ho : oOk (some x) := fun y hy => by cases hy; exact hx
  refine zT_bindE (X0_isNote (some x) ho) ?_
  have en : oN (some x) = if x.1 < 0 then 0 else 1 := rfl
  by_cases q : x.1 < 0
  · have ea : evA x = [zwB 10] := by unfold evA; rw [if_pos q]
    rw [en, if_pos q, ea]
    rw [ea] at hl
    exact zT_ite (fun _ => zT_bind (zT_mono (X5_tellWord h (by omega) hl hN) (fun u hu => zT_some hu))) (fun y => absurd rfl y)
  · have ep : oP (some x) = x.1 := if_neg q
    have es : oS (some x) = x.2.1 := rfl
    have ea : evA x = [97 + (x.1 + 2) % 7] :: ((if x.2.1 = 0 then [] else [zwB (4 + x.2.1.toNat)]) ++ [nmW (x.1 / 7)]) := by unfold evA; rw [if_neg q]
    rw [en, if_neg q, ea]
    rw [ea] at hl
    have e0 : W ++ [97 + (x.1 + 2) % 7] :: ((if x.2.1 = 0 then [] else [zwB (4 + x.2.1.toNat)]) ++ [nmW (x.1 / 7)]) = ((W ++ [[97 + (x.1 + 2) % 7]]) ++ (if x.2.1 = 0 then [] else [zwB (4 + x.2.1.toNat)])) ++ [nmW (x.1 / 7)] := by simp
    rw [e0] at hl ⊢
    have hl2 := Nat.le_trans (zwS_le (V := [nmW (x.1 / 7)])) hl
    have hl1 := Nat.le_trans (zwS_le (V := (if x.2.1 = 0 then [] else [zwB (4 + x.2.1.toNat)]))) hl2
    have hl0 := hl1
    rw [zwS_len1] at hl0
    have hl0 : (zwS W).length + 1 + 1 ≤ 1703 := hl0
    refine zT_ite (fun y => absurd y (by decide)) (fun _ => zT_bind (zT_mono (X5_beginWord h (by omega)) ?_))
    rintro ⟨b1, b2, b3⟩ ⟨h1, h2⟩
    dsimp only at h1 h2 ⊢
    have el : f_X8_letterOf N (iI (oP (some x) % 7)) = some (iI (97 + (x.1 + 2) % 7)) := by
      rw [ep]
      obtain ⟨s, hs⟩ := Int.eq_ofNat_of_zero_le (show 0 ≤ x.1 % 7 by omega)
      rw [hs, X8_letterOf (by omega)]
      congr 2
      omega
    refine zT_bindE (X0_stepOf (some x) ho) (zT_bindE el (zT_bind (zT_mono (X5_put h1 (by rw [zwG_len]; omega) (by omega)) ?_)))
    rintro ⟨u1, u2⟩ hu
    dsimp only at hu ⊢
    have hu2 : RW (W ++ [[97 + (x.1 + 2) % 7]]) (u1, b2, u2) := ⟨by rw [zwR_snoc]; exact hu, by rw [List.length_append]; exact h2⟩
    refine zT_bindE (X0_signOf (some x) ho) ?_
    rw [es]
    refine zT_bind (zT_mono (P := RW ((W ++ [[97 + (x.1 + 2) % 7]]) ++ (if x.2.1 = 0 then [] else [zwB (4 + x.2.1.toNat)]))) ?_ (fun t ht => ?_))
    · refine zT_ite (fun y => ?_) (fun y => ?_)
      · rw [iL0, iI_eq (by omega) (by omega) (by omega) (by omega)] at y
        rw [if_pos y, List.append_nil]
        exact zT_some hu2
      · rw [iL0, iI_eq (by omega) (by omega) (by omega) (by omega)] at y
        rw [if_neg y] at hl2 ⊢
        have eo : f_X8_ofSign N (iI x.2.1) = some (4 + x.2.1.toNat) := by
          rcases (show x.2.1 = 1 ∨ x.2.1 = 2 ∨ x.2.1 = 3 by omega) with y | y | y <;> rw [y] <;> rfl
        refine zT_bindE ((X0_signOf (some x) ho).trans (by rw [es])) (zT_bindE eo (zT_bind (zT_mono (X5_tellWord (r := (u1, b2, u2)) hu2 (by omega) hl2 hN) (fun u hu => zT_some hu))))
    · refine zT_bindE (X0_octaveOf (some x) ho) ?_
      rw [ep]
      exact zT_bind (zT_mono (X5_tellNumber ht (by omega) hl) (fun u hu => zT_some hu))
theorem X5_tellEvent (h : RW W r) (hx : okE x) (hl : (zwS (W ++ evW x)).length ≤ 1703) (hN : 200 ≤ N) : zT (f_X5_tellEvent N r.1 r.2.1 r.2.2 (iI (pk x))) (RW (W ++ evW x)) := by
  have hb := okE_b hx
  have ho : oOk (some x) := fun y hy => by cases hy; exact hx
  have ed : oD (some x) = x.2.2.1 := rfl
  have et : oT (some x) = x.2.2.2 := rfl
  unfold evW at hl ⊢
  rw [← List.append_assoc, ← List.append_assoc, ← List.append_assoc] at hl ⊢
  have hl3 := Nat.le_trans zwS_le hl
  have hl2 := Nat.le_trans zwS_le hl3
  have hl1 := Nat.le_trans zwS_le hl2
  unfold f_X5_tellEvent
  obtain ⟨r1, q1, q2⟩ := X5_evA h hx hl1 hN
  obtain ⟨i1, j1, j2⟩ := z_bind q1
  refine zT_bindE j1 (zT_bindE j2 ?_)
  refine zT_bindE (X0_isDotted (some x) ho) (zT_bind (zT_mono (P := RW (W ++ evA x ++ (if x.2.2.1 % 2 = 1 then [zwB 11] else []))) ?_ (fun t ht => ?_)))
  · rw [ed]
    refine zT_ite (fun y => ?_) (fun y => ?_)
    · rw [iL0, iI_eq (by omega) (by omega) (by omega) (by omega)] at y
      rw [if_neg (by omega), List.append_nil]
      exact zT_some q2
    · rw [iL0, iI_eq (by omega) (by omega) (by omega) (by omega)] at y
      rw [if_pos (by omega)] at hl2 ⊢
      exact zT_bind (zT_mono (X5_tellWord q2 (by omega) hl2 hN) (fun u hu => zT_some hu))
  · refine zT_bindE (X0_lengthOf (some x) ho) ?_
    rw [ed]
    have eo : f_X8_ofLength N (iI (x.2.2.1 / 2)) = some (12 + (x.2.2.1 / 2).toNat) := by
      rcases (show x.2.2.1 / 2 = 0 ∨ x.2.2.1 / 2 = 1 ∨ x.2.2.1 / 2 = 2 ∨ x.2.2.1 / 2 = 3 ∨ x.2.2.1 / 2 = 4 by omega) with y | y | y | y | y <;> rw [y] <;> rfl
    refine zT_bindE eo (zT_bind (zT_mono (X5_tellWord ht (by omega) hl3 hN) (fun u hu => ?_)))
    refine zT_bindE (X0_isTied (some x) ho) ?_
    rw [et]
    refine zT_ite (fun y => ?_) (fun y => ?_)
    · rw [iL0, iI_eq (by omega) (by omega) (by omega) (by omega)] at y
      rw [if_neg (show ¬ x.2.2.2 = 1 by omega), List.append_nil]
      exact zT_some hu
    · rw [iL0, iI_eq (by omega) (by omega) (by omega) (by omega)] at y
      rw [if_pos (show x.2.2.2 = 1 by omega)] at hl ⊢
      exact zT_bind (zT_mono (X5_tellWord hu (by omega) hl hN) (fun u hu => zT_some hu))
theorem voE_len (h : okC S) (hm : m < S.1) (hv : v < 2) : ∀ e, e ≤ S.2.2.1 m v → (zwS (voE S m v e)).length ≤ 34 * e := by
  intro e
  induction e with
  | zero => intro _; exact Nat.le_refl _
  | succ e ih =>
    intro he
    have h1 := ih (by omega)
    have h2 := evW_len (okC_ev h hm hv (show e < S.2.2.1 m v by omega))
    rw [voE, zwS_app, List.length_append]
    omega
theorem voE_mono (W : List (List Int)) : ∀ d, (zwS (W ++ voE S m v e)).length ≤ (zwS (W ++ voE S m v (e + d))).length := by
  intro d
  induction d with
  | zero => exact Nat.le_refl _
  | succ d ih =>
    rw [← Nat.add_assoc, voE, ← List.append_assoc]
    exact Nat.le_trans ih zwS_le
theorem X5_tellVoice (h : okC S) (hR : RC S (iI S.1) cells) (hm : m < S.1) (hv : v < 2) (hW : RW W r) (hl : (zwS (W ++ voW S m v (S.2.2.1 m v))).length ≤ 1703) (hN : 200 ≤ N) : zT (f_X5_tellVoice N r.1 r.2.1 r.2.2 (iI S.1) cells (iI m) (iI v)) (RW (W ++ voW S m v (S.2.2.1 m v))) := by
  have h1 := h.1
  have hC := okC_C h hm hv
  have ec := X4_count_at (N := N) h hR hm hv
  unfold f_X5_tellVoice
  refine zT_bindE ec ?_
  by_cases q : S.2.2.1 m v = 0
  · rw [if_neg (by rw [iL0, iI_lt (by omega) (by omega) (by omega) (by omega)]; omega)]
    unfold voW
    rw [if_pos q, List.append_nil]
    refine zT_bindE rfl (zT_bind (zT_mono (P := RW W) ?_ (fun u hu => zT_some hu)))
    obtain ⟨n, rfl⟩ : ∃ n, N = n + 1 := ⟨N - 1, by omega⟩
    show zT (f_X5_tellVoice_B21 _ _ _ _ _ _ _) _
    unfold f_X5_tellVoice_B21
    refine zT_bindE ec ?_
    rw [if_neg (by rw [iL0, iI_lt (by omega) (by omega) (by omega) (by omega)]; omega)]
    exact zT_some hW
  · rw [if_pos (by rw [iL0, iI_lt (by omega) (by omega) (by omega) (by omega)]; omega)]
    unfold voW at hl ⊢
    rw [if_neg q, ← List.append_assoc] at hl ⊢
    have e1 : iI (v : Int) + 1 = iI ((v : Int) + 1) := iIp1 _
    have hl0 : (zwS (W ++ [zwB 9, nmW ((v : Int) + 1)])).length ≤ 1703 := Nat.le_trans zwS_le hl
    rw [e1]
    refine zT_bind (zT_bind (zT_mono (X5_tellNumbered hW (by omega) (by omega) hl0 hN) (fun u hu => zT_some ?_)))
    refine zT_bind (zT_mono (zT_loop (P := RW ((W ++ [zwB 9, nmW ((v : Int) + 1)]) ++ voE S m v (S.2.2.1 m v))) (fun n s => ∃ j : Nat, j ≤ S.2.2.1 m v ∧ n = S.2.2.1 m v - j ∧ s.1 = iI j ∧ RW ((W ++ [zwB 9, nmW ((v : Int) + 1)]) ++ voE S m v j) s.2) ?_ N (S.2.2.1 m v) (0, u.1, u.2.1, u.2.2) (by omega) ⟨0, by omega, rfl, rfl, by rw [voE, List.append_nil]; exact hu⟩) (fun u hu => zT_some hu))
    rintro n ⟨s1, s2⟩ k ⟨j, hj, rfl, q1, hp⟩ ih
    dsimp only at q1 hp
    subst q1
    unfold f_X5_tellVoice_B21
    dsimp only
    refine zT_bindE ec (zT_ite (fun q => ?_) (fun q => ?_))
    · rw [iI_lt (by omega) (by omega) (by omega) (by omega)] at q
      have hj2 : j < S.2.2.1 m v := by omega
      have hl2 := Nat.le_trans (voE_mono (S := S) (m := m) (v := v) (e := j + 1) (W ++ [zwB 9, nmW ((v : Int) + 1)]) (S.2.2.1 m v - (j + 1))) (by rw [show j + 1 + (S.2.2.1 m v - (j + 1)) = S.2.2.1 m v by omega]; exact hl)
      rw [voE, ← List.append_assoc] at hl2
      refine zT_bindE (X4_code_at h hR hm hv hj2) (zT_bind (zT_mono (X5_tellEvent hp (okC_ev h hm hv hj2) hl2 hN) (fun u hu => zT_bindE rfl (ih (S.2.2.1 m v - (j + 1)) _ (by omega) ⟨j + 1, by omega, rfl, iIp1 _, ?_⟩))))
      rw [voE, ← List.append_assoc]
      exact hu
    · rw [iI_lt (by omega) (by omega) (by omega) (by omega)] at q
      rw [show j = S.2.2.1 m v by omega] at hp
      exact zT_some hp
end ZNP
