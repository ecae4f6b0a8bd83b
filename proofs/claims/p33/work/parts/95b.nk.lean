/-! ===== sentences: the class tells words ===== -/
/-- what the class holds when it has told a list of words -/
def RW (W : List (List Int)) (r : Int32 × Int32 × (Nat → Int32)) : Prop := RB (zwR W) r.1 r.2.2 ∧ r.2.1 = iI W.length
section ZNO
variable {N : Nat} {B : List Int} {W V : List (List Int)} {n : Int32} {f : Nat → Int32} {x : Int} {r : Int32 × Int32 × (Nat → Int32)} {l : Int32 × (Nat → Int32)} {w : Nat}
theorem X5_beginWord (h : RW W r) (hl : (zwS W).length < 1703) : zT (f_X5_beginWord N r.1 r.2.1 r.2.2) (fun q => RB (zwG W) q.1 q.2.2 ∧ q.2.1 = iI ((W.length + 1 : Nat) : Int)) := by
  have hg := zwS_ge (W := W)
  have hp : (0 < r.2.1) = (0 < (W.length : Int)) := by rw [h.2, iL0, iI_lt (by omega) (by omega) (by omega) (by omega)]
  unfold f_X5_beginWord
  refine zT_bind (zT_mono (P := fun q => RB (zwG W) q.1 q.2) ?_ (fun q hq => zT_bindE rfl (zT_some ⟨hq, ?_⟩)))
  · refine zT_ite (fun q => ?_) (fun q => ?_)
    · rw [hp] at q
      have hne : W ≠ [] := by intro y; rw [y] at q; exact absurd q (by decide)
      have hle := zwR_len W
      have hge : 0 < W.length := by omega
      refine zT_bind (zT_mono (X5_put (x := 32) h.1 (by omega) (by omega)) (fun q hq => zT_some ?_))
      unfold zwG
      rw [if_neg hne]
      exact hq
    · rw [hp] at q
      have hne : W = [] := List.length_eq_zero_iff.mp (by omega)
      refine zT_some ?_
      have h1 := h.1
      rw [hne] at h1 ⊢
      exact h1
  · dsimp only
    rw [h.2, iIp1]
    rfl
theorem zT_take {B w : List Int} {j : Nat} (hj : j < w.length) : B ++ w.take (j + 1) = (B ++ w.take j) ++ [gB w j] := by
  rw [List.append_assoc, List.take_succ_eq_append_getElem hj]
  unfold gB
  rw [List.getElem?_eq_getElem hj]
  rfl
theorem X5_tellWord (h : RW W r) (hw : w < 20) (hl : (zwS (W ++ [zwB w])).length ≤ 1703) (hN : 200 ≤ N) : zT (f_X5_tellWord N r.1 r.2.1 r.2.2 w) (RW (W ++ [zwB w])) := by
  obtain ⟨c1, c2⟩ := zwB_chk w (by omega)
  have c3 := zwB_len w (by omega)
  rw [zwS_len1] at hl
  unfold f_X5_tellWord
  refine zT_bind (zT_mono (X5_beginWord h (by omega)) ?_)
  rintro ⟨b1, b2, b3⟩ ⟨h1, h2⟩
  dsimp only at h1 h2 ⊢
  refine zT_bind (zT_mono (zT_loop (P := fun q => RB (zwG W ++ zwB w) q.1 q.2) (fun n s => ∃ j : Nat, j ≤ (zwB w).length ∧ n = (zwB w).length - j ∧ s.1 = iI j ∧ RB (zwG W ++ (zwB w).take j) s.2.1 s.2.2) ?_ N (zwB w).length (0, b1, b3) (by omega) ⟨0, by omega, rfl, rfl, by rw [List.take_zero, List.append_nil]; exact h1⟩) (fun q hq => zT_some ⟨?_, ?_⟩))
  · rintro n ⟨s1, s2, s3⟩ k ⟨j, hj, rfl, q1, hp⟩ ih
    dsimp only at q1 hp
    subst q1
    unfold f_X5_tellWord_B6
    dsimp only
    refine zT_bindE c1 (zT_ite (fun q => ?_) (fun q => ?_))
    · rw [iI_lt (by omega) (by omega) (by omega) (by omega)] at q
      have hj2 : j < (zwB w).length := by omega
      obtain ⟨d1, d2, d3⟩ := c2 j hj2
      refine zT_bindE d1 (zT_bind (zT_mono (X5_put hp (by rw [List.length_append, zwG_len, List.length_take]; omega) (by omega)) (fun u hu => zT_bindE rfl (ih ((zwB w).length - (j + 1)) _ (by omega) ⟨j + 1, by omega, rfl, iIp1 _, ?_⟩))))
      rw [zT_take hj2]
      exact hu
    · rw [iI_lt (by omega) (by omega) (by omega) (by omega)] at q
      rw [show j = (zwB w).length by omega, List.take_length] at hp
      exact zT_some hp
  · rw [zwR_snoc]
    exact hq
  · dsimp only
    rw [h2, List.length_append]
    rfl
theorem nmW_len (hx : 0 ≤ x ∧ x < 100) : 1 ≤ (nmW x).length ∧ (nmW x).length ≤ 2 := by
  unfold nmW
  split
  · exact ⟨Nat.le_refl 1, Nat.le_succ 1⟩
  · exact ⟨Nat.le_succ 1, Nat.le_refl 2⟩
theorem X5_tellNumber (h : RW W r) (hx : 0 ≤ x ∧ x < 100) (hl : (zwS (W ++ [nmW x])).length ≤ 1703) : zT (f_X5_tellNumber N r.1 r.2.1 r.2.2 (iI x)) (RW (W ++ [nmW x])) := by
  rw [zwS_len1] at hl
  unfold f_X5_tellNumber
  have c3 := nmW_len hx
  refine zT_bind (zT_mono (X5_beginWord h (by omega)) ?_)
  rintro ⟨b1, b2, b3⟩ ⟨h1, h2⟩
  dsimp only at h1 h2 ⊢
  have e10 : (iI x < 10) = (x < 10) := by rw [iL10, iI_lt (by omega) (by omega) (by omega) (by omega)]
  have fin : ∀ B, (zwG W ++ nmW x = B ++ [48 + x % 10]) → B.length < 1702 → ∀ q : Int32 × (Nat → Int32), RB B q.1 q.2 → zT (Option.bind (zRem (iI x) 10) (fun (x3_ : Int32) => Option.bind (f_X5_put N q.1 q.2 (48 + x3_)) (fun (r4_ : Int32 × (Nat → Int32)) => some (r4_.1, b2, r4_.2)))) (RW (W ++ [nmW x])) := by
    intro B hB hBl q hq
    rw [iL10, zRemI (by omega) (by omega) (by omega) (by omega)]
    refine zT_bindE rfl ?_
    rw [show (48 : Int32) = iI 48 from rfl, iI_add]
    refine zT_bind (zT_mono (X5_put hq hBl (by omega)) (fun u hu => zT_some ⟨?_, ?_⟩))
    · rw [zwR_snoc, hB]
      exact hu
    · dsimp only
      rw [h2, List.length_append]
      rfl
  have hgl := zwG_len (W := W)
  by_cases q : x < 10
  · rw [if_pos (by rw [e10]; exact q)]
    refine zT_bindE rfl (fin (zwG W) ?_ (by omega) _ h1)
    unfold nmW
    rw [if_pos q]
    congr 2
    omega
  · rw [if_neg (by rw [e10]; exact q), iL10, zDivI (by omega) (by omega) (by omega) (by omega)]
    have c4 : (nmW x).length = 2 := by unfold nmW; rw [if_neg q] <;> rfl
    refine zT_bind (zT_bindE rfl ?_)
    rw [show (48 : Int32) = iI 48 from rfl, iI_add]
    refine zT_bind (zT_mono (X5_put h1 (by omega) (by omega)) (fun u hu => zT_some ?_))
    have := fin (zwG W ++ [48 + x / 10]) (by unfold nmW; rw [if_neg q]; simp) (by rw [List.length_append]; show _ + 1 < 1702; omega) u hu
    exact this
theorem X5_tellNumbered (h : RW W r) (hw : w < 20) (hx : 0 ≤ x ∧ x < 100) (hl : (zwS (W ++ [zwB w, nmW x])).length ≤ 1703) (hN : 200 ≤ N) : zT (f_X5_tellNumbered N r.1 r.2.1 r.2.2 w (iI x)) (RW (W ++ [zwB w, nmW x])) := by
  have e : W ++ [zwB w, nmW x] = (W ++ [zwB w]) ++ [nmW x] := by simp
  rw [e] at hl ⊢
  have hl1 : (zwS (W ++ [zwB w])).length ≤ 1703 := by rw [zwS_len1] at hl; omega
  unfold f_X5_tellNumbered
  exact zT_bind (zT_mono (X5_tellWord h hw hl1 hN) (fun u hu => zT_bind (zT_mono (X5_tellNumber hu hx hl) (fun v hv => zT_some hv))))
/-! the reference writes words -/
end ZNO
