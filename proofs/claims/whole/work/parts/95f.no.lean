/-! ===== sentences: the four calls ===== -/
def okW (W : List (List Int)) : Prop := ∀ w, w ∈ W → ∀ b, b ∈ w → 33 ≤ b ∧ b ≤ 122
def cnS (B : List Int) (k : Nat) : Int := 1 + ((B.take k).count 32 : Nat)
section ZNT
variable {N : Nat} {S : zSt} {st cells : Nat → Int32} {W V : List (List Int)} {B : List Int} {l : Int32 × (Nat → Int32)} {m v e w k : Nat} {x : Int} {y : zEv} {code : Int32} {K : zKT} {M : zMT}
theorem okW_app (h1 : okW W) (h2 : okW V) : okW (W ++ V) := fun w hw => (List.mem_append.mp hw).elim (h1 w) (h2 w)
theorem okW_nil : okW [] := fun w hw => by cases hw
theorem okW_cons {w : List Int} (h1 : ∀ b, b ∈ w → 33 ≤ b ∧ b ≤ 122) (h2 : okW W) : okW (w :: W) := fun u hu => by
  rcases List.mem_cons.mp hu with rfl | hu
  · exact h1
  · exact h2 u hu
theorem zwB_ok : ∀ w : Nat, w < 21 → ∀ b, b ∈ zwB w → 33 ≤ b ∧ b ≤ 122 := by decide +kernel
theorem nmW_ok (hx : 0 ≤ x ∧ x < 100) : ∀ b, b ∈ nmW x → 33 ≤ b ∧ b ≤ 122 := by
  intro b hb
  unfold nmW at hb
  split at hb
  · rw [List.mem_singleton.mp hb]; omega
  · rcases List.mem_cons.mp hb with rfl | hb
    · omega
    · rw [List.mem_singleton.mp hb]; omega
theorem evW_ok (hx : okE y) : okW (evW y) := by
  have hb := okE_b hx
  unfold evW
  refine okW_app (okW_app (okW_app ?_ ?_) ?_) ?_
  · unfold evA
    split
    · exact okW_cons (zwB_ok 10 (by omega)) okW_nil
    · refine okW_cons (fun b hb => ?_) (okW_app ?_ (okW_cons (nmW_ok (by omega)) okW_nil))
      · rw [List.mem_singleton.mp hb]; omega
      · split
        · exact okW_nil
        · exact okW_cons (zwB_ok _ (by omega)) okW_nil
  · split
    · exact okW_cons (zwB_ok 11 (by omega)) okW_nil
    · exact okW_nil
  · exact okW_cons (zwB_ok _ (by omega)) okW_nil
  · split
    · exact okW_cons (zwB_ok 17 (by omega)) okW_nil
    · exact okW_nil
theorem voE_ok (h : okC S) (hm : m < S.1) (hv : v < 2) : ∀ e, e ≤ S.2.2.1 m v → okW (voE S m v e) := by
  intro e
  induction e with
  | zero => intro _; exact okW_nil
  | succ e ih =>
    intro he
    exact okW_app (ih (by omega)) (evW_ok (okC_ev h hm hv (by omega)))
theorem snW_ok (h : okS S) (hm : m < S.1) : okW (snW S m) := by
  have h1 := h.1.1
  have hV := h.2 m hm
  unfold okV at hV
  have z1 : ∀ w : Nat, w < 21 → okW [zwB w] := fun w hw => okW_cons (zwB_ok w hw) okW_nil
  have n1 : ∀ x : Int, 0 ≤ x ∧ x < 100 → okW [nmW x] := fun x hx => okW_cons (nmW_ok hx) okW_nil
  have hvo : ∀ v, v < 2 → okW (voW S m v (S.2.2.1 m v)) := by
    intro v hv
    unfold voW
    split
    · exact okW_nil
    · exact okW_app (okW_cons (zwB_ok 9 (by omega)) (n1 _ (by omega))) (voE_ok h.1 hm hv _ (Nat.le_refl _))
  unfold snW snF snE snD snC snB snA
  refine okW_app (okW_app (okW_app (okW_app (okW_app (okW_app (okW_app (okW_app ?_ ?_) ?_) ?_) ?_) (hvo 0 (by omega))) (hvo 1 (by omega))) ?_) (z1 19 (by omega))
  · exact okW_cons (zwB_ok 0 (by omega)) (n1 _ (by omega))
  · split
    · exact z1 1 (by omega)
    · exact okW_nil
  · split
    · exact okW_nil
    · exact okW_cons (zwB_ok 2 (by omega)) (n1 _ (by omega))
  · split
    · unfold kyW
      refine okW_cons (zwB_ok 3 (by omega)) ?_
      split
      · exact z1 4 (by omega)
      · exact okW_cons (nmW_ok (by split <;> omega)) (z1 _ (by split <;> omega))
    · exact okW_nil
  · split
    · exact okW_app (okW_cons (zwB_ok 8 (by omega)) (n1 _ (by omega))) (n1 _ (by omega))
    · exact okW_nil
  · split
    · exact okW_nil
    · exact okW_cons (zwB_ok 18 (by omega)) (n1 _ (by omega))
theorem zwS_mem (h : okW W) : ∀ b, b ∈ zwS W → 32 ≤ b ∧ b ≤ 122 := by
  intro b hb
  obtain ⟨w, hw, hb⟩ := List.mem_flatMap.mp hb
  rcases List.mem_cons.mp hb with rfl | hb
  · omega
  · have := h w hw b hb
    omega
theorem zwR_gB (h : okW W) (hk : k < (zwR W).length) : 32 ≤ gB (zwR W) k ∧ gB (zwR W) k ≤ 122 := by
  unfold gB
  rw [List.getElem?_eq_getElem hk]
  exact zwS_mem h _ (List.mem_of_mem_tail (List.getElem_mem hk))
theorem zwS_cnt (h : okW W) : (zwS W).count 32 = W.length := by
  induction W with
  | nil => rfl
  | cons w W ih =>
    have h0 : w.count 32 = 0 := List.count_eq_zero.mpr (fun hm => by
      have := h w (List.mem_cons_self ..) 32 hm
      omega)
    have h2 := ih (fun u hu => h u (List.mem_cons_of_mem _ hu))
    rw [zwS_cons, List.cons_append, List.count_cons_self, List.count_append, h0, h2, List.length_cons]
    omega
theorem zwR_cnt (h : okW W) (hn : W ≠ []) : 1 + ((zwR W).count 32 : Nat) = W.length := by
  have := zwS_cnt h
  cases W with
  | nil => exact absurd rfl hn
  | cons w W =>
    unfold zwR
    rw [zwS_cons, List.cons_append] at this ⊢
    rw [List.count_cons_self] at this
    show 1 + List.count 32 (w ++ zwS W) = _
    omega
theorem cnS_step (hk : k < B.length) : cnS B (k + 1) = cnS B k + if gB B k = 32 then 1 else 0 := by
  have e := zT_take (B := []) hk
  rw [List.nil_append, List.nil_append] at e
  unfold cnS
  rw [e, List.count_append, List.count_singleton]
  by_cases q : gB B k = 32
  · rw [if_pos q, if_pos (by rw [q] <;> rfl)]; omega
  · rw [if_neg q, if_neg (by simpa using q)]; omega
theorem cnS_b (k : Nat) : 1 ≤ cnS B k ∧ cnS B k ≤ 1 + B.length := by
  unfold cnS
  have h1 := List.count_le_length (a := (32 : Int)) (l := B.take k)
  rw [List.length_take] at h1
  omega
theorem snW_ne (S : zSt) (m : Nat) : snW S m ≠ [] := by
  unfold snW
  intro h
  have := congrArg List.length h
  rw [List.length_append] at this
  exact absurd this (by simp)
theorem snR_len (h : okS S) (hm : m < S.1) : (zwR (snW S m)).length ≤ 1702 := by
  have h1 := snW_len h hm
  have h2 := zwR_len (snW S m)
  omega
theorem X5_at (h : RB B l.1 l.2) (hB : B.length ≤ 1702) (hk : k < B.length) : f_X5_at N l.1 l.2 (iI k) = some (iI (gB B k)) := by
  unfold f_X5_at
  rw [h.1, if_neg (by rw [iL0, iI_lt (by omega) (by omega) (by omega) (by omega)]; omega), if_pos (by rw [iI_lt (by omega) (by omega) (by omega) (by omega)]; omega), if_pos (by rw [iL1702, iI_lt (by omega) (by omega) (by omega) (by omega)]; omega), zAldI (by omega) (by omega) (by omega), z_sb, Int.toNat_natCast, h.2 k hk]
theorem zk_sentenceLength (hN : 20000 ≤ N) (hZ : zZ K M) (y1 : Int32) : zS_sentenceLength N zZ K M y1 := by
  obtain ⟨S, hs, nx, L, T, h0, hk, hO, hC, hT, hH, hF, hX, hP, hS, hR⟩ := hZ
  obtain ⟨a1, rfl, hz1⟩ := iI_all y1
  have e6 := hC.1
  rw [e6] at hC
  have h1 := h0.1.1.1
  unfold zS_sentenceLength
  rw [e6, hS]
  by_cases q : 0 ≤ a1 ∧ a1 < S.1
  · obtain ⟨m, rfl⟩ := Int.eq_ofNat_of_zero_le q.1
    have hm : m < S.1 := by omega
    obtain ⟨u, hu, u1, u2⟩ := X10_tellsAll (N := N) (a := M.2.2.2.2.2.2.1) (ln := M.2.2.2.2.2.2.2.2.2.2.2.2.2.1) h0.1 hR hm (by omega)
    obtain ⟨t, ht, t1, t2⟩ := X5_tellMeasure (N := N) (a := K.2.2.2.2.2.2.2.1) (b := K.2.2.2.2.2.2.2.2.1) (by0 := K.2.2.2.2.2.2.2.2.2.2.2.2.2.2.2.2.2.1) h0.1 hC hm (by omega)
    refine ⟨(u.1, 0, u.1, u.2), ?_, Or.inl ⟨(t.1, t.1, t.2.1, t.2.2), ?_, rfl, t1.1.trans u1.1.symm, ⟨S, hs, nx, L, T, h0, hk, hO, hC, hT, hH, hF, hX, hP, rfl, hR⟩⟩⟩
    · unfold f_X10_sentenceLength
      rw [z_be (z_p1 q (X10_isMeasure h0.1.1 hR hz1)), if_neg ne10, z_sb, z_be (X10_ref0 _), if_pos (f00 0), z_be hu]
    · unfold f_X9_sentenceLength
      rw [zSub_rq (C_rqM h0.1.1 hz1), if_pos q, z_be ht]
      rfl
  · refine ⟨(0, 1, M.2.2.2.2.2.2.1, M.2.2.2.2.2.2.2.2.2.2.2.2.2.1), ?_, Or.inr ⟨?_, rfl, ⟨S, hs, nx, L, T, h0, hk, hO, ⟨e6, hC.2⟩, hT, hH, hF, hX, hP, rfl, hR⟩⟩⟩
    · unfold f_X10_sentenceLength
      rw [z_be (z_p0 q (X10_isMeasure h0.1.1 hR hz1)), if_pos z00, z_sb, z_be (X10_ref1 _), if_neg (f10 1)]
    · unfold f_X9_sentenceLength
      rw [zSub_rq (C_rqM h0.1.1 hz1), if_neg q]
theorem X10_words31 (h : RB B l.1 l.2) (hB : B.length ≤ 1702) (hg : ∀ k, k < B.length → 0 ≤ gB B k ∧ gB B k ≤ 127) (hN : 2000 ≤ N) : zLoop (f_X10_words_B31 N l) N (1, 0) = some (iI (cnS B B.length)) := by
  refine z_eqT (zT_loop (fun n s => ∃ i : Nat, i ≤ B.length ∧ n = B.length - i ∧ s = (iI (cnS B i), iI i)) ?_ N B.length (1, 0) (by omega) ⟨0, by omega, rfl, rfl⟩)
  rintro n s c ⟨i, hi, rfl, rfl⟩ ih
  have hb := cnS_b (B := B) i
  unfold f_X10_words_B31
  dsimp only
  rw [h.1]
  refine zT_ite (fun q => ?_) (fun q => ?_)
  · rw [iI_lt (by omega) (by omega) (by omega) (by omega)] at q
    have hi2 : i < B.length := by omega
    have hs := cnS_step hi2
    have hgi := hg i hi2
    rw [zAldI (by omega) (by omega) (by omega), Int.toNat_natCast, h.2 i hi2]
    refine zT_bindE rfl ?_
    by_cases q2 : gB B i = 32
    · rw [if_pos q2] at hs
      rw [if_pos (by rw [q2] <;> rfl)]
      exact zT_bindE rfl (zT_bindE rfl (zT_bindE rfl (ih (B.length - (i + 1)) _ (by omega) ⟨i + 1, by omega, rfl, by rw [iIp1, iIp1, hs] <;> rfl⟩)))
    · rw [if_neg q2] at hs
      rw [if_neg (by rw [show (32 : Int32) = iI 32 from rfl, iI_eq (by omega) (by omega) (by omega) (by omega)]; exact q2)]
      exact zT_bindE rfl (zT_bindE rfl (zT_bindE rfl (ih (B.length - (i + 1)) _ (by omega) ⟨i + 1, by omega, rfl, by rw [iL0, iI_add, iIp1, hs] <;> rfl⟩)))
  · rw [iI_lt (by omega) (by omega) (by omega) (by omega)] at q
    rw [show i = B.length by omega]
    exact zT_some rfl
theorem zk_words (hN : 20000 ≤ N) (hZ : zZ K M) (y1 : Int32) : zS_words N zZ K M y1 := by
  obtain ⟨S, hs, nx, L, T, h0, hk, hO, hC, hT, hH, hF, hX, hP, hS, hR⟩ := hZ
  obtain ⟨a1, rfl, hz1⟩ := iI_all y1
  have e6 := hC.1
  rw [e6] at hC
  have h1 := h0.1.1.1
  unfold zS_words
  rw [e6, hS]
  by_cases q : 0 ≤ a1 ∧ a1 < S.1
  · obtain ⟨m, rfl⟩ := Int.eq_ofNat_of_zero_le q.1
    have hm : m < S.1 := by omega
    have hw := snW_ok h0.1 hm
    obtain ⟨u, hu, u1, u2⟩ := X10_tellsAll (N := N) (a := M.2.2.2.2.2.2.1) (ln := M.2.2.2.2.2.2.2.2.2.2.2.2.2.1) h0.1 hR hm (by omega)
    obtain ⟨t, ht, t1, t2⟩ := X5_tellMeasure (N := N) (a := K.2.2.2.2.2.2.2.1) (b := K.2.2.2.2.2.2.2.2.1) (by0 := K.2.2.2.2.2.2.2.2.2.2.2.2.2.2.2.2.2.1) h0.1 hC hm (by omega)
    have hl := X10_words31 (N := N) u1 (snR_len h0.1 hm) (fun k hk => by have := zwR_gB hw hk; omega) (by omega)
    have hc : cnS (zwR (snW S m)) (zwR (snW S m)).length = (snW S m).length := by
      unfold cnS
      rw [List.take_length]
      have := zwR_cnt hw (snW_ne S m)
      omega
    rw [hc] at hl
    refine ⟨(iI (snW S m).length, 0, u.1, u.2), ?_, Or.inl ⟨(t.2.1, t.1, t.2.1, t.2.2), ?_, rfl, t2, ⟨S, hs, nx, L, T, h0, hk, hO, hC, hT, hH, hF, hX, hP, rfl, hR⟩⟩⟩
    · unfold f_X10_words
      rw [z_be (z_p1 q (X10_isMeasure h0.1.1 hR hz1)), if_neg ne10, z_sb, z_be (X10_ref0 _), if_pos (f00 0), z_be hu, z_be hl]
    · unfold f_X9_words
      rw [zSub_rq (C_rqM h0.1.1 hz1), if_pos q, z_be ht]
      rfl
  · refine ⟨(0, 1, M.2.2.2.2.2.2.1, M.2.2.2.2.2.2.2.2.2.2.2.2.2.1), ?_, Or.inr ⟨?_, rfl, ⟨S, hs, nx, L, T, h0, hk, hO, ⟨e6, hC.2⟩, hT, hH, hF, hX, hP, rfl, hR⟩⟩⟩
    · unfold f_X10_words
      rw [z_be (z_p0 q (X10_isMeasure h0.1.1 hR hz1)), if_pos z00, z_sb, z_be (X10_ref1 _), if_neg (f10 1)]
    · unfold f_X9_words
      rw [zSub_rq (C_rqM h0.1.1 hz1), if_neg q]
theorem zk_sentenceByte (hN : 20000 ≤ N) (hZ : zZ K M) (y1 : Int32) (y2 : Int32) : zS_sentenceByte N zZ K M y1 y2 := by
  obtain ⟨S, hs, nx, L, T, h0, hk, hO, hC, hT, hH, hF, hX, hP, hS, hR⟩ := hZ
  obtain ⟨a1, rfl, hz1⟩ := iI_all y1
  obtain ⟨a2, rfl, hz2⟩ := iI_all y2
  have hz2' := hz2
  unfold zInt at hz2'
  have e6 := hC.1
  rw [e6] at hC
  have h1 := h0.1.1.1
  have hl2 : (iI a2 < 0) = (a2 < 0) := by rw [iL0, iI_lt (by omega) (by omega) (by omega) (by omega)]
  unfold zS_sentenceByte
  rw [e6, hS]
  by_cases q : 0 ≤ a1 ∧ a1 < S.1
  · by_cases q2 : 0 ≤ a2
    · obtain ⟨m, rfl⟩ := Int.eq_ofNat_of_zero_le q.1
      obtain ⟨k, rfl⟩ := Int.eq_ofNat_of_zero_le q2
      have hm : m < S.1 := by omega
      have hw := snW_ok h0.1 hm
      have hlen := snR_len h0.1 hm
      obtain ⟨u, hu, u1, u2⟩ := X10_tellsAll (N := N) (a := M.2.2.2.2.2.2.1) (ln := M.2.2.2.2.2.2.2.2.2.2.2.2.2.1) h0.1 hR hm (by omega)
      obtain ⟨t, ht, t1, t2⟩ := X5_tellMeasure (N := N) (a := K.2.2.2.2.2.2.2.1) (b := K.2.2.2.2.2.2.2.2.1) (by0 := K.2.2.2.2.2.2.2.2.2.2.2.2.2.2.2.2.2.1) h0.1 hC hm (by omega)
      have hlu : (iI (k : Int) < u.1) = (k < (zwR (snW S m)).length) := by
        rw [u1.1, iI_lt (by omega) (by omega) (by omega) (by omega)]
        exact propext ⟨fun h => by omega, fun h => by omega⟩
      have hlt : (iI (k : Int) < t.1) = (k < (zwR (snW S m)).length) := by
        rw [t1.1, iI_lt (by omega) (by omega) (by omega) (by omega)]
        exact propext ⟨fun h => by omega, fun h => by omega⟩
      by_cases q3 : k < (zwR (snW S m)).length
      · refine ⟨(iI (gB (zwR (snW S m)) k), 0, u.1, u.2), ?_, Or.inl ⟨(iI (gB (zwR (snW S m)) k), t.1, t.2.1, t.2.2), ?_, rfl, rfl, ⟨S, hs, nx, L, T, h0, hk, hO, hC, hT, hH, hF, hX, hP, rfl, hR⟩⟩⟩
        · unfold f_X10_sentenceByte
          rw [z_be (z_p1 q (X10_isMeasure h0.1.1 hR hz1)), if_neg ne10, if_neg (by rw [hl2]; omega), z_sb, z_be (X10_ref0 _), if_pos (f00 0), z_be hu, if_pos (by rw [hlu]; exact q3), zAldI (by omega) (by omega) (by omega), z_sb, Int.toNat_natCast, u1.2 k q3]
        · unfold f_X9_sentenceByte
          rw [zSub_rq (C_rqM h0.1.1 hz1), if_pos q, zSub_rq (C_rqN hz2), if_pos q2, z_be ht, z_be (show f_X5_length N t.1 = some t.1 from rfl), if_pos (by rw [hlt]; exact q3), z_be (X5_at (l := (t.1, t.2.2)) t1 hlen q3)]
      · refine ⟨(-1000, 0, u.1, u.2), ?_, Or.inl ⟨(-1000, t.1, t.2.1, t.2.2), ?_, rfl, rfl, ⟨S, hs, nx, L, T, h0, hk, hO, hC, hT, hH, hF, hX, hP, rfl, hR⟩⟩⟩
        · unfold f_X10_sentenceByte
          rw [z_be (z_p1 q (X10_isMeasure h0.1.1 hR hz1)), if_neg ne10, if_neg (by rw [hl2]; omega), z_sb, z_be (X10_ref0 _), if_pos (f00 0), z_be hu, if_neg (by rw [hlu]; exact q3)]
        · unfold f_X9_sentenceByte
          rw [zSub_rq (C_rqM h0.1.1 hz1), if_pos q, zSub_rq (C_rqN hz2), if_pos q2, z_be ht, z_be (show f_X5_length N t.1 = some t.1 from rfl), if_neg (by rw [hlt]; exact q3)]
    · refine ⟨(0, 2, M.2.2.2.2.2.2.1, M.2.2.2.2.2.2.2.2.2.2.2.2.2.1), ?_, Or.inr (Or.inr ⟨?_, rfl, ⟨S, hs, nx, L, T, h0, hk, hO, ⟨e6, hC.2⟩, hT, hH, hF, hX, hP, rfl, hR⟩⟩)⟩
      · unfold f_X10_sentenceByte
        rw [z_be (z_p1 q (X10_isMeasure h0.1.1 hR hz1)), if_neg ne10, if_pos (by rw [hl2]; omega), z_sb, z_be (X10_ref2 _), if_neg (f10 2)]
      · unfold f_X9_sentenceByte
        rw [zSub_rq (C_rqM h0.1.1 hz1), if_pos q, zSub_rq (C_rqN hz2), if_neg q2]
  · refine ⟨(0, 1, M.2.2.2.2.2.2.1, M.2.2.2.2.2.2.2.2.2.2.2.2.2.1), ?_, Or.inr (Or.inl ⟨?_, rfl, ⟨S, hs, nx, L, T, h0, hk, hO, ⟨e6, hC.2⟩, hT, hH, hF, hX, hP, rfl, hR⟩⟩)⟩
    · unfold f_X10_sentenceByte
      rw [z_be (z_p0 q (X10_isMeasure h0.1.1 hR hz1)), if_pos z00, z_sb, z_be (X10_ref1 _), if_neg (f10 1)]
    · unfold f_X9_sentenceByte
      rw [zSub_rq (C_rqM h0.1.1 hz1), if_neg q]
theorem zSubE_rq {β γ : Type} {o : Option (Unit ⊕ Nat)} {P : Prop} [Decidable P] {k : Nat} {F : Nat → γ} {C : Unit → Option (β ⊕ γ)} (h : o = if P then some (.inl ()) else some (.inr k)) : zSubE o F C = if P then C () else some (.inr (F k)) := by
  rw [h]
  by_cases q : P
  · rw [if_pos q, if_pos q] <;> rfl
  · rw [if_neg q, if_neg q] <;> rfl
theorem RB_ext {f g : Nat → Int32} {n : Int32} (h : RB B n f) (hg : ∀ i, i < B.length → g i = f i) : RB B n g := ⟨h.1, fun i hi => by rw [hg i hi]; exact h.2 i hi⟩
theorem X7_append (h : RB B l.1 l.2) (hl : B.length < 600) (hx : 0 ≤ x ∧ x ≤ 127) : zT (f_X7_append N l.1 l.2 (iI x)) (fun r => RB (B ++ [x]) r.1 r.2) := by
  obtain ⟨a, rfl⟩ := Int.eq_ofNat_of_zero_le hx.1
  unfold f_X7_append
  rw [h.1, if_pos (by rw [iL600, iI_lt (by omega) (by omega) (by omega) (by omega)]; omega), zBstI (by omega) (by omega) (by omega), Int.toNat_natCast, ← iI_ofNat a, narB a (by omega), iI_ofNat a, iIp1]
  exact zT_bindE rfl (zT_bindE rfl (zT_some (RB_push h _)))
theorem X9_copy56 {t : Int32 × Int32 × (Nat → Int32)} {tb : Nat → Int32} (h : RB B t.1 t.2.2) (hB : B.length ≤ 600) (hg : ∀ k, k < B.length → 0 ≤ gB B k ∧ gB B k ≤ 127) (hN : 2000 ≤ N) : zT (zLoop (f_X9_copySentence_B56 N t) N (0, 0, tb)) (fun r => RB B r.1 r.2) := by
  refine zT_loop (fun n s => ∃ i : Nat, i ≤ B.length ∧ n = B.length - i ∧ s.1 = iI i ∧ RB (B.take i) s.2.1 s.2.2) ?_ N B.length (0, 0, tb) (by omega) ⟨0, by omega, rfl, rfl, by rw [List.take_zero]; exact RB_nil _⟩
  rintro n ⟨s1, s2⟩ c ⟨i, hi, rfl, q1, hp⟩ ih
  dsimp only at q1 hp
  subst q1
  unfold f_X9_copySentence_B56
  dsimp only
  refine zT_bindE (show f_X5_length N t.1 = some t.1 from rfl) ?_
  rw [h.1]
  refine zT_ite (fun q => ?_) (fun q => ?_)
  · rw [iI_lt (by omega) (by omega) (by omega) (by omega)] at q
    have hi2 : i < B.length := by omega
    have ea := X5_at (N := N) (l := (t.1, t.2.2)) h (by omega) hi2
    dsimp only at ea
    rw [h.1] at ea
    refine zT_bindE ea (zT_bind (zT_mono (X7_append hp (by rw [List.length_take]; omega) (hg i hi2)) (fun u hu => zT_bindE rfl (ih (B.length - (i + 1)) _ (by omega) ⟨i + 1, by omega, rfl, iIp1 _, ?_⟩))))
    have e := zT_take (B := []) hi2
    rw [List.nil_append, List.nil_append] at e
    rw [e]
    exact hu
  · rw [iI_lt (by omega) (by omega) (by omega) (by omega)] at q
    rw [show i = B.length by omega, List.take_length] at hp
    exact zT_some hp
theorem X10_copy61 {tb : Nat → Int32} (h : RB B l.1 l.2) (hB : B.length ≤ 600) (hN : 2000 ≤ N) : zT (zLoop (f_X10_copySentence_B61 N l) N (0, tb)) (fun r => RB B (iI B.length) r) := by
  refine zT_mono (zT_loop (P := fun r => ∀ i, i < B.length → r i = iI (gB B i)) (fun n s => ∃ i : Nat, i ≤ B.length ∧ n = B.length - i ∧ s.1 = iI i ∧ ∀ k, k < i → s.2 k = iI (gB B k)) ?_ N B.length (0, tb) (by omega) ⟨0, by omega, rfl, rfl, fun k hk => absurd hk (Nat.not_lt_zero k)⟩) (fun r hr => ⟨rfl, hr⟩)
  rintro n ⟨s1, s2⟩ c ⟨i, hi, rfl, q1, hp⟩ ih
  dsimp only at q1 hp
  subst q1
  unfold f_X10_copySentence_B61
  dsimp only
  rw [h.1]
  refine zT_ite (fun q => ?_) (fun q => ?_)
  · rw [iI_lt (by omega) (by omega) (by omega) (by omega)] at q
    have hi2 : i < B.length := by omega
    rw [zAldI (by omega) (by omega) (by omega), Int.toNat_natCast, h.2 i hi2]
    refine zT_bindE rfl ?_
    rw [zAstI (by omega) (by omega) (by omega), Int.toNat_natCast]
    refine zT_bindE rfl (zT_bindE rfl (ih (B.length - (i + 1)) _ (by omega) ⟨i + 1, by omega, rfl, iIp1 _, fun k hk => ?_⟩))
    dsimp only
    rw [upd_at]
    by_cases q1 : k = i
    · rw [if_pos q1, q1]
    · rw [if_neg q1]
      exact hp k (by omega)
  · rw [iI_lt (by omega) (by omega) (by omega) (by omega)] at q
    rw [show i = B.length by omega] at hp
    exact zT_some hp
theorem zk_copySentence (hN : 20000 ≤ N) (hZ : zZ K M) (y1 : Int32) : zS_copySentence N zZ K M y1 := by
  obtain ⟨S, hs, nx, L, T, h0, hk, hO, hC, hT, hH, hF, hX, hP, hS, hR⟩ := hZ
  obtain ⟨a1, rfl, hz1⟩ := iI_all y1
  have e6 := hC.1
  rw [e6] at hC
  obtain ⟨u1, u2, u3, u4, u5, u6⟩ := h0
  have h0 : zQ0 S hs nx L T := ⟨u1, u2, u3, u4, u5, u6⟩
  have h1 := u1.1.1
  unfold zS_copySentence
  rw [e6, hS, hT.1, hX.1]
  by_cases q : 0 ≤ a1 ∧ a1 < S.1
  · obtain ⟨m, rfl⟩ := Int.eq_ofNat_of_zero_le q.1
    have hm : m < S.1 := by omega
    have hw := snW_ok u1 hm
    have hlen := snR_len u1 hm
    have hgb : ∀ k, k < (zwR (snW S m)).length → 0 ≤ gB (zwR (snW S m)) k ∧ gB (zwR (snW S m)) k ≤ 127 := fun k hk => by have := zwR_gB hw hk; omega
    obtain ⟨u, hu, v1, v2⟩ := X10_tellsAll (N := N) (a := M.2.2.2.2.2.2.1) (ln := M.2.2.2.2.2.2.2.2.2.2.2.2.2.1) u1 hR hm (by omega)
    obtain ⟨t, ht, t1, t2⟩ := X5_tellMeasure (N := N) (a := K.2.2.2.2.2.2.2.1) (b := K.2.2.2.2.2.2.2.2.1) (by0 := K.2.2.2.2.2.2.2.2.2.2.2.2.2.2.2.2.2.1) u1 hC hm (by omega)
    have hlu : (600 < u.1) = (600 < (zwR (snW S m)).length) := by
      rw [v1.1, iL600, iI_lt (by omega) (by omega) (by omega) (by omega)]
      exact propext ⟨fun h => by omega, fun h => by omega⟩
    have hlt : (600 < t.1) = (600 < (zwR (snW S m)).length) := by
      rw [t1.1, iL600, iI_lt (by omega) (by omega) (by omega) (by omega)]
      exact propext ⟨fun h => by omega, fun h => by omega⟩
    by_cases q3 : 600 < (zwR (snW S m)).length
    · refine ⟨(0, 2, iI L, u.1, u.2, M.2.2.2.2.2.2.2.2.2.2.2.2.2.2.2.2.2.2.2), ?_, Or.inr (Or.inr ⟨(2, t.1, t.2.1, iI L, t.2.2, K.2.2.2.2.2.2.2.2.2.2.2.2.2.2.2.2.2.2.2.2.1), ?_, rfl, rfl, ⟨S, hs, nx, L, T, h0, hk, hO, hC, ⟨rfl, hT.2⟩, hH, hF, ⟨rfl, hX.2⟩, hP, rfl, hR⟩⟩)⟩
      · unfold f_X10_copySentence
        rw [z_be (z_p1 q (X10_isMeasure u1.1 hR hz1)), if_neg ne10, z_sb, z_be (X10_ref0 _), if_pos (f00 0), z_be hu, if_pos (by rw [hlu]; exact q3), z_sb, z_be (X10_ref2 _), if_neg (f10 2)]
      · unfold f_X9_copySentence
        rw [zSubE_rq (C_rqM u1.1 hz1), if_pos q, z_be ht, z_be (show f_X5_length N t.1 = some t.1 from rfl), if_pos (by rw [hlt]; exact q3)]
    · obtain ⟨p, hp, hp2⟩ := X10_copy61 (N := N) (tb := M.2.2.2.2.2.2.2.2.2.2.2.2.2.2.2.2.2.2.2) v1 (by omega) (by omega)
      obtain ⟨r, hr, hr2⟩ := X9_copy56 (N := N) (tb := K.2.2.2.2.2.2.2.2.2.2.2.2.2.2.2.2.2.2.2.2.1) t1 (by omega) hgb (by omega)
      have es : f_X7_shorten N (iI L) (iI L) = some 0 := by
        unfold f_X7_shorten
        rw [iI_sub, iL0, zMaxI (by omega) (by omega) (by omega) (by omega), if_neg (by omega), show (L : Int) - L = 0 by omega]
        rfl
      refine ⟨(u.1, 0, u.1, u.1, u.2, p), ?_, Or.inl ⟨(r.1, t.1, t.2.1, r.1, t.2.2, r.2), ?_, rfl, hr2.1.trans v1.1.symm, ⟨S, hs, nx, (zwR (snW S m)).length, gB (zwR (snW S m)), ⟨u1, u2, u3, u4, by omega, hgb⟩, hk, hO, hC, hr2, hH, hF, ⟨v1.1, hp2.2⟩, hP, rfl, hR⟩⟩⟩
      · unfold f_X10_copySentence
        rw [z_be (z_p1 q (X10_isMeasure u1.1 hR hz1)), if_neg ne10, z_sb, z_be (X10_ref0 _), if_pos (f00 0), z_be hu, if_neg (by rw [hlu]; exact q3), z_sb, z_be (X10_ref0 _), if_pos (f00 0), z_be hp]
      · unfold f_X9_copySentence
        rw [zSubE_rq (C_rqM u1.1 hz1), if_pos q, z_be ht, z_be (show f_X5_length N t.1 = some t.1 from rfl), if_neg (by rw [hlt]; exact q3), z_be (show f_X7_length N (iI L) = some (iI L) from rfl), z_be es, z_be hr]
        rfl
  · refine ⟨(0, 1, iI L, M.2.2.2.2.2.2.1, M.2.2.2.2.2.2.2.2.2.2.2.2.2.1, M.2.2.2.2.2.2.2.2.2.2.2.2.2.2.2.2.2.2.2), ?_, Or.inr (Or.inl ⟨(0, K.2.2.2.2.2.2.2.1, K.2.2.2.2.2.2.2.2.1, iI L, K.2.2.2.2.2.2.2.2.2.2.2.2.2.2.2.2.2.1, K.2.2.2.2.2.2.2.2.2.2.2.2.2.2.2.2.2.2.2.2.1), ?_, rfl, rfl, ⟨S, hs, nx, L, T, h0, hk, hO, hC, ⟨rfl, hT.2⟩, hH, hF, ⟨rfl, hX.2⟩, hP, rfl, hR⟩⟩)⟩
    · unfold f_X10_copySentence
      rw [z_be (z_p0 q (X10_isMeasure u1.1 hR hz1)), if_pos z00, z_sb, z_be (X10_ref1 _), if_neg (f10 1)]
    · unfold f_X9_copySentence
      rw [zSubE_rq (C_rqM u1.1 hz1), if_neg q]
end ZNT
