/-! ===== reading a text: the reference's reader ===== -/
def RDe (X : zSt) (rd : Nat → Int32) (v e : Nat) : Prop := rd (9 + 96 * v + 4 * e) = iI (X.2.2.2 0 v e).1 ∧ rd (9 + 96 * v + 4 * e + 1) = iI (X.2.2.2 0 v e).2.1 ∧ rd (9 + 96 * v + 4 * e + 2) = iI (X.2.2.2 0 v e).2.2.1 ∧ rd (9 + 96 * v + 4 * e + 3) = iI (X.2.2.2 0 v e).2.2.2
def RDV (X : zSt) (rd : Nat → Int32) (v : Nat) : Prop := X.2.2.1 0 v ≤ 24 ∧ ∀ e, e < X.2.2.1 0 v → RDe X rd v e ∧ okE (X.2.2.2 0 v e)
def RDC (X : zSt) (rd : Nat → Int32) (v : Nat) : Prop := rd (7 + v) = iI (X.2.2.1 0 v)
def RDA (X : zSt) (hk ht : Int32) (rd : Nat → Int32) : Prop := X.2.1 0 3 = -100 ∧ (rd 4 = iI (X.2.1 0 4) ∧ rd 5 = iI (X.2.1 0 5) ∧ rd 6 = iI (X.2.1 0 6)) ∧ ((hk = 1 ∧ rd 0 = iI (X.2.1 0 0) ∧ -7 ≤ X.2.1 0 0 ∧ X.2.1 0 0 ≤ 7) ∨ (hk = 0 ∧ X.2.1 0 0 = -100)) ∧ ((ht = 1 ∧ rd 1 = iI (X.2.1 0 1) ∧ rd 2 = iI (X.2.1 0 2) ∧ (1 ≤ X.2.1 0 1 ∧ X.2.1 0 1 ≤ 12) ∧ (X.2.1 0 2 = 2 ∨ X.2.1 0 2 = 4 ∨ X.2.1 0 2 = 8 ∨ X.2.1 0 2 = 16)) ∨ (ht = 0 ∧ X.2.1 0 1 = -100 ∧ X.2.1 0 2 = -100)) ∧ (X.2.1 0 4 = 0 ∨ X.2.1 0 4 = 1) ∧ (X.2.1 0 5 = 0 ∨ 2 ≤ X.2.1 0 5 ∧ X.2.1 0 5 ≤ 4) ∧ (0 ≤ X.2.1 0 6 ∧ X.2.1 0 6 ≤ 4)
def RDB (X : zSt) (rd : Nat → Int32) : Prop := ∀ v, v < 2 → RDC X rd v ∧ RDV X rd v
def RP (u : pS) (hk ht ok fr to : Int32) (rd : Nat → Int32) : Prop := (u.1 = -1000 ∧ ok = 1 ∧ fr = iI u.2.1.1 ∧ to = iI u.2.1.2 ∧ RDA u.2.2 hk ht rd ∧ RDB u.2.2 rd) ∨ (u.1 ≠ -1000 ∧ ok = 0 ∧ fr = iI u.1)
section ZNY
variable {N L t w v k : Nat} {T : Nat → Int} {tb text cells rd : Nat → Int32} {a b c nb hk ht : Int32} {p : Nat × Nat} {s : pS} {lo hi : Int} {X : zSt} {x : zEv}
theorem R_takesWord (hT : okT T L) (hx : zTx L T (iI L) text) (h : okP T L s) (h0 : s.1 = -1000) (hw : w < 20) (hN : 700 ≤ N) {y : Int} (hy : y = w) : f_X10_takesWord N (iI s.2.1.1) (iI L) (iI s.2.1.2) zSp text (iI y) = some (iI (if twP T w s then 1 else 0), iI (twS T L w s).2.1.1, iI (twS T L w s).2.1.2) := by
  rw [X10_takesWord hT hx h.1 hw hN hy]
  by_cases q : isW T s.2.1 w
  · rw [if_pos q, if_pos q, if_pos ⟨h0, q⟩, twS_pos ⟨h0, q⟩]
    rfl
  · have q2 : ¬ twP T w s := fun z => q z.2
    rw [if_neg q, if_neg q, if_neg q2, twS_neg q2]
theorem R_takesNumber (hT : okT T L) (hx : zTx L T (iI L) text) (h : okP T L s) (h0 : s.1 = -1000) (hlo : zInt lo) (hhi : zInt hi) (hN : 700 ≤ N) : f_X10_takesNumber N (iI s.2.1.1) (iI L) nb (iI s.2.1.2) text (iI lo) (iI hi) = some (iI (if tnP T lo hi s then 1 else 0), iI (tnS T L lo hi s).2.1.1, iI (numT T s.2.1), iI (tnS T L lo hi s).2.1.2) := by
  rw [X10_takesNumber hT hx h.1 hlo hhi hN]
  unfold tnS
  by_cases q : lo ≤ numT T s.2.1 ∧ numT T s.2.1 ≤ hi
  · rw [if_pos q, if_pos q, if_pos ⟨h0, q⟩, if_pos ⟨h0, q⟩]
  · have q2 : ¬ tnP T lo hi s := fun z => q z.2
    rw [if_neg q, if_neg q, if_neg q2, if_neg q2, flS_p]
theorem tnS_pos (q : tnP T lo hi s) : tnS T L lo hi s = ad1 T L s := if_pos q
theorem tnS_neg (q : ¬ tnP T lo hi s) : tnS T L lo hi s = flS s := if_neg q
theorem flS_0 (h : s.1 = -1000) : flS s = ((s.2.1.1 : Int), s.2.1, s.2.2) := if_pos h
theorem fl_ne (s : pS) : ((s.2.1.1 : Int)) ≠ -1000 := by omega
theorem RDB_ext {rd' : Nat → Int32} (h : RDB X rd) (hr : ∀ k, 7 ≤ k → k < 201 → rd' k = rd k) : RDB X rd' := by
  intro v hv
  obtain ⟨h1, h2, h3⟩ := h v hv
  refine ⟨by unfold RDC; rw [hr _ (by omega) (by omega)]; exact h1, h2, fun e he => ?_⟩
  obtain ⟨g1, g2⟩ := h3 e he
  unfold RDe at g1 ⊢
  rw [hr _ (by omega) (by omega), hr _ (by omega) (by omega), hr _ (by omega) (by omega), hr _ (by omega) (by omega)]
  exact ⟨g1, g2⟩
theorem RDB_setV {y : Int} {r : Int32} (h : RDB X rd) (hk : k < 7) : RDB (setV X 0 k y) (upd rd k r) := RDB_ext (X := X) h (fun j h1 h2 => upd_ne _ _ (by omega))
theorem RDA_4 {y : Int} (h : RDA X hk ht rd) (hy : y = 0 ∨ y = 1) : RDA (setV X 0 4 y) hk ht (upd rd 4 (iI y)) := by
  obtain ⟨h1, h2, h3, h4, h5, h6, h7⟩ := h
  exact ⟨h1, ⟨rfl, h2.2⟩, h3, h4, hy, h6, h7⟩
theorem RDA_5 {y : Int} (h : RDA X hk ht rd) (hy : y = 0 ∨ 2 ≤ y ∧ y ≤ 4) : RDA (setV X 0 5 y) hk ht (upd rd 5 (iI y)) := by
  obtain ⟨h1, h2, h3, h4, h5, h6, h7⟩ := h
  exact ⟨h1, ⟨h2.1, rfl, h2.2.2⟩, h3, h4, h5, hy, h7⟩
theorem RDA_6 {y : Int} (h : RDA X hk ht rd) (hy : 0 ≤ y ∧ y ≤ 4) : RDA (setV X 0 6 y) hk ht (upd rd 6 (iI y)) := by
  obtain ⟨h1, h2, h3, h4, h5, h6, h7⟩ := h
  exact ⟨h1, ⟨h2.1, h2.2.1, rfl⟩, h3, h4, h5, h6, hy⟩
theorem RDA_0 {y : Int} {rd' : Nat → Int32} (h : RDA X hk ht rd) (hy : -7 ≤ y ∧ y ≤ 7) (hr : rd' 0 = iI y) (ho : ∀ k, 0 < k → rd' k = rd k) : RDA (setV X 0 0 y) 1 ht rd' := by
  obtain ⟨h1, h2, h3, h4, h5, h6, h7⟩ := h
  refine ⟨h1, ?_, Or.inl ⟨rfl, hr, hy⟩, ?_, h5, h6, h7⟩
  · rw [ho 4 (by omega), ho 5 (by omega), ho 6 (by omega)]; exact h2
  · rw [ho 1 (by omega), ho 2 (by omega)]; exact h4
theorem RDB_0 {y : Int} {rd' : Nat → Int32} (h : RDB X rd) (ho : ∀ k, 0 < k → rd' k = rd k) : RDB (setV X 0 0 y) rd' := RDB_ext (X := X) h (fun j h1 h2 => ho _ (by omega))
theorem RDA_12 {y z : Int} (h : RDA X hk ht rd) (hy : 1 ≤ y ∧ y ≤ 12) (hz : z = 2 ∨ z = 4 ∨ z = 8 ∨ z = 16) : RDA (setV (setV X 0 1 y) 0 2 z) hk 1 (upd (upd rd 1 (iI y)) 2 (iI z)) := by
  obtain ⟨h1, h2, h3, h4, h5, h6, h7⟩ := h
  exact ⟨h1, h2, h3, Or.inl ⟨rfl, rfl, rfl, hy, hz⟩, h5, h6, h7⟩
theorem X10_readsEnding (hT : okT T L) (hx : zTx L T (iI L) text) (h : okP T L s) (h0 : s.1 = -1000) (hA : RDA s.2.2 hk ht rd) (hB : RDB s.2.2 rd) (hN : 700 ≤ N) : zT (f_X10_readsEnding N (iI s.2.1.1) (iI L) nb (iI s.2.1.2) rd zSp text) (fun r => RP (h4S T L s) hk ht r.1 r.2.1 r.2.2.2.1 r.2.2.2.2) := by
  have ew : f_X10_takesWord N (iI s.2.1.1) (iI L) (iI s.2.1.2) zSp text 2 = _ := R_takesWord (w := 2) (y := 2) hT hx h h0 (by omega) hN rfl
  unfold f_X10_readsEnding h4S
  refine zT_bindE ew ?_
  dsimp only
  by_cases q : twP T 2 s
  · rw [if_pos q, if_pos q, if_neg (show ¬ iI 1 = 0 from ne10)]
    have h1 := okP_tw (w := 2) h
    have h01 : (twS T L 2 s).1 = -1000 := by rw [twS_1]; exact h0
    have en : f_X10_takesNumber N (iI (twS T L 2 s).2.1.1) (iI L) nb (iI (twS T L 2 s).2.1.2) text 1 4 = _ := R_takesNumber (lo := 1) (hi := 4) (nb := nb) hT hx h1 h01 (by unfold zInt; omega) (by unfold zInt; omega) hN
    refine zT_bindE en ?_
    dsimp only
    rw [iL6, zAstI (by omega) (by omega) (by omega)]
    refine zT_bindE rfl ?_
    by_cases q2 : tnP T 1 4 (twS T L 2 s)
    · rw [if_pos q2, tnV_1 q2, tnS_pos q2]
      have := q2.2
      exact zT_bindE rfl (zT_some (Or.inl ⟨h01, rfl, rfl, rfl, RDA_6 hA (by omega), RDB_setV hB (by omega)⟩))
    · rw [if_neg q2, tnS_neg q2, flS_0 h01]
      exact zT_bindE rfl (zT_some (Or.inr ⟨fl_ne _, rfl, rfl⟩))
  · rw [if_neg q, if_neg q, if_pos (show iI 0 = 0 from rfl), twS_neg q]
    exact zT_some (Or.inl ⟨h0, rfl, rfl, rfl, hA, hB⟩)
theorem X10_readsBack (hT : okT T L) (hx : zTx L T (iI L) text) (h : okP T L s) (h0 : s.1 = -1000) (hA : RDA s.2.2 hk ht rd) (hB : RDB s.2.2 rd) (hN : 700 ≤ N) : zT (f_X10_readsBack N (iI s.2.1.1) (iI L) nb (iI s.2.1.2) rd zSp text) (fun r => RP (bkS T L s) hk ht r.1 r.2.1 r.2.2.2.1 r.2.2.2.2) := by
  have ew : f_X10_takesWord N (iI s.2.1.1) (iI L) (iI s.2.1.2) zSp text 18 = _ := R_takesWord (w := 18) (y := 18) hT hx h h0 (by omega) hN rfl
  unfold f_X10_readsBack bkS
  refine zT_bindE ew ?_
  dsimp only
  by_cases q : twP T 18 s
  · rw [if_pos q, if_pos q, if_neg (show ¬ iI 1 = 0 from ne10)]
    have h1 := okP_tw (w := 18) h
    have h01 : (twS T L 18 s).1 = -1000 := by rw [twS_1]; exact h0
    have en : f_X10_takesNumber N (iI (twS T L 18 s).2.1.1) (iI L) nb (iI (twS T L 18 s).2.1.2) text 2 4 = _ := R_takesNumber (lo := 2) (hi := 4) (nb := nb) hT hx h1 h01 (by unfold zInt; omega) (by unfold zInt; omega) hN
    refine zT_bindE en ?_
    dsimp only
    rw [iL5, zAstI (by omega) (by omega) (by omega)]
    refine zT_bindE rfl ?_
    by_cases q2 : tnP T 2 4 (twS T L 18 s)
    · rw [if_pos q2, tnV_1 q2, tnS_pos q2]
      have := q2.2
      exact zT_bindE rfl (zT_some (Or.inl ⟨h01, rfl, rfl, rfl, RDA_5 hA (by omega), RDB_setV hB (by omega)⟩))
    · rw [if_neg q2, tnS_neg q2, flS_0 h01]
      exact zT_bindE rfl (zT_some (Or.inr ⟨fl_ne _, rfl, rfl⟩))
  · rw [if_neg q, if_neg q, if_pos (show iI 0 = 0 from rfl), twS_neg q]
    exact zT_some (Or.inl ⟨h0, rfl, rfl, rfl, hA, hB⟩)
theorem X10_readsKey (hT : okT T L) (hx : zTx L T (iI L) text) (h : okP T L s) (h0 : s.1 = -1000) (hA : RDA s.2.2 hk ht rd) (hB : RDB s.2.2 rd) (hN : 700 ≤ N) : zT (f_X10_readsKey N (iI s.2.1.1) a (iI L) nb (iI s.2.1.2) rd zSp text) (fun r => r.2.2.1 = 1 ∧ RP (wX (kyP T L s).2 (setV s.2.2 0 0 (kyP T L s).1)) 1 ht r.1 r.2.1 r.2.2.2.2.1 r.2.2.2.2.2) := by
  have ew : f_X10_takesWord N (iI s.2.1.1) (iI L) (iI s.2.1.2) zSp text 4 = _ := R_takesWord (w := 4) (y := 4) hT hx h h0 (by omega) hN rfl
  have st : ∀ (f : Nat → Int32) (y : Int32), zAst f 201 0 y = some (upd f 0 y) := fun f y => by
    rw [iL0, zAstI (by omega) (by omega) (by omega)] <;> rfl
  unfold f_X10_readsKey kyP
  refine zT_bindE (st _ _) (zT_bindE ew ?_)
  dsimp only
  by_cases q : twP T 4 s
  · rw [if_pos q, if_pos q, if_neg (show ¬ iI 1 = 0 from ne10)]
    refine zT_some ⟨rfl, Or.inl ⟨?_, rfl, rfl, rfl, RDA_0 hA (by omega) rfl (fun k hk => upd_ne _ _ (by omega)), RDB_0 hB (fun k hk => upd_ne _ _ (by omega))⟩⟩
    show (twS T L 4 s).1 = -1000
    rw [twS_1]; exact h0
  · rw [if_neg q, if_neg q, if_pos (show iI 0 = 0 from rfl), twS_neg q]
    have en : f_X10_takesNumber N (iI s.2.1.1) (iI L) nb (iI s.2.1.2) text 1 7 = _ := R_takesNumber (lo := 1) (hi := 7) (nb := nb) hT hx h h0 (by unfold zInt; omega) (by unfold zInt; omega) hN
    refine zT_bindE en ?_
    dsimp only
    by_cases q2 : tnP T 1 7 s
    · have hq := q2.2
      rw [if_pos q2, if_neg (show ¬ iI 1 = 0 from ne10), tnS_pos q2, tnV_1 q2]
      have h1 := okP_ad h
      have h01 : (ad1 T L s).1 = -1000 := h0
      have e5 : f_X10_takesWord N (iI (ad1 T L s).2.1.1) (iI L) (iI (ad1 T L s).2.1.2) zSp text 5 = _ := R_takesWord (w := 5) (y := 5) hT hx h1 h01 (by omega) hN rfl
      refine zT_bindE (st _ _) (zT_bindE e5 ?_)
      dsimp only
      by_cases q3 : twP T 5 (ad1 T L s)
      · rw [if_pos q3, if_pos q3, if_neg (show ¬ iI 1 = 0 from ne10)]
        refine zT_some ⟨rfl, Or.inl ⟨?_, rfl, rfl, rfl, RDA_0 hA (by omega) rfl (fun k hk => ?_), RDB_0 hB (fun k hk => ?_)⟩⟩
        · show (twS T L 5 (ad1 T L s)).1 = -1000
          rw [twS_1]; exact h0
        · dsimp only; rw [upd_ne _ _ (by omega), upd_ne _ _ (by omega)]
        · dsimp only; rw [upd_ne _ _ (by omega), upd_ne _ _ (by omega)]
      · rw [if_neg q3, if_neg q3, if_pos (show iI 0 = 0 from rfl), twS_neg q3]
        have e6 : f_X10_takesWord N (iI (ad1 T L s).2.1.1) (iI L) (iI (ad1 T L s).2.1.2) zSp text 6 = _ := R_takesWord (w := 6) (y := 6) hT hx h1 h01 (by omega) hN rfl
        refine zT_bindE (st _ _) (zT_bindE e6 ?_)
        dsimp only
        unfold ndS
        by_cases q4 : twP T 6 (ad1 T L s)
        · rw [if_pos q4, if_pos q4]
          refine zT_bindE rfl (zT_some ⟨rfl, Or.inl ⟨?_, rfl, rfl, rfl, RDA_0 hA (by omega) (by dsimp only; rw [upd_eq _ _ rfl, iI_neg]) (fun k hk => ?_), RDB_0 hB (fun k hk => ?_)⟩⟩)
          · show (twS T L 6 (ad1 T L s)).1 = -1000
            rw [twS_1]; exact h0
          · dsimp only; rw [upd_ne _ _ (by omega), upd_ne _ _ (by omega), upd_ne _ _ (by omega)]
          · dsimp only; rw [upd_ne _ _ (by omega), upd_ne _ _ (by omega), upd_ne _ _ (by omega)]
        · rw [if_neg q4, if_neg q4, twS_neg q4, flS_0 h01]
          exact zT_bindE rfl (zT_some ⟨rfl, Or.inr ⟨fl_ne _, rfl, rfl⟩⟩)
    · have hf : (flS s).1 ≠ -1000 := flS_f h
      have q3 : ¬ twP T 5 (flS s) := fun y => hf y.1
      have q4 : ¬ twP T 6 (flS s) := fun y => hf y.1
      rw [if_neg q2, if_pos (show iI 0 = 0 from rfl), tnS_neg q2, if_neg q3]
      unfold ndS
      rw [if_neg q4, flS_1 hf, flS_0 h0]
      exact zT_some ⟨rfl, Or.inr ⟨fl_ne _, rfl, rfl⟩⟩
theorem X10_isLower {n : Int} (hn : -1 ≤ n ∧ n ≤ 999) : f_X10_isLower N (iI n) = some (if chP 2 n then 1 else 0) := by
  have le : ∀ c : Int, 0 ≤ c → c ≤ 16 → ((iI n = iI c) = (n = c)) := fun c h1 h2 => iI_eq (by omega) (by omega) (by omega) (by omega)
  have l2 : (iI n = 2) = (n = 2) := le 2 (by omega) (by omega)
  have l4 : (iI n = 4) = (n = 4) := le 4 (by omega) (by omega)
  have l8 : (iI n = 8) = (n = 8) := le 8 (by omega) (by omega)
  have l16 : (iI n = 16) = (n = 16) := le 16 (by omega) (by omega)
  unfold f_X10_isLower
  by_cases r2 : n = 2
  · rw [if_pos (by rw [l2]; exact r2), if_pos (by omega)]
  · rw [if_neg (by rw [l2]; exact r2)]
    by_cases r4 : n = 4
    · rw [if_pos (by rw [l4]; exact r4), if_pos (by omega)]
    · rw [if_neg (by rw [l4]; exact r4)]
      by_cases r8 : n = 8
      · rw [if_pos (by rw [l8]; exact r8), if_pos (by omega)]
      · rw [if_neg (by rw [l8]; exact r8)]
        by_cases r16 : n = 16
        · rw [if_pos (by rw [l16]; exact r16), if_pos (by omega)]
        · rw [if_neg (by rw [l16]; exact r16), if_neg (by omega)]
theorem X10_readsTime (hT : okT T L) (hx : zTx L T (iI L) text) (h : okP T L s) (h0 : s.1 = -1000) (hA : RDA s.2.2 hk ht rd) (hB : RDB s.2.2 rd) (hN : 700 ≤ N) : zT (f_X10_readsTime N (iI s.2.1.1) a (iI L) nb (iI s.2.1.2) rd text) (fun r => r.2.2.1 = 1 ∧ RP (wX (loP T L (wX (tnS T L 1 12 s) (setV s.2.2 0 1 (tnV T 1 12 s)))).2 (setV (setV s.2.2 0 1 (tnV T 1 12 s)) 0 2 (loP T L (wX (tnS T L 1 12 s) (setV s.2.2 0 1 (tnV T 1 12 s)))).1)) hk 1 r.1 r.2.1 r.2.2.2.2.1 r.2.2.2.2.2) := by
  have en : f_X10_takesNumber N (iI s.2.1.1) (iI L) nb (iI s.2.1.2) text 1 12 = _ := R_takesNumber (lo := 1) (hi := 12) (nb := nb) hT hx h h0 (by unfold zInt; omega) (by unfold zInt; omega) hN
  have st : ∀ (c : Nat) (f : Nat → Int32) (y : Int32), c < 201 → zAst f 201 (iI c) y = some (upd f c y) := fun c f y hc => by
    rw [zAstI (by omega) (by omega) (by omega)] <;> rfl
  unfold f_X10_readsTime
  refine zT_bindE en ?_
  dsimp only
  by_cases q : tnP T 1 12 s
  · have hq := q.2
    rw [if_pos q, if_neg (show ¬ iI 1 = 0 from ne10), tnS_pos q, tnV_1 q]
    have h1 := okP_ad h
    have h01 : (ad1 T L s).1 = -1000 := h0
    have hb := numT_b (T := T) (ad1 T L s).2.1 h1.1.1
    have e2 : zAld (upd (upd rd 1 (iI (numT T s.2.1))) 2 (iI (numT T (ad1 T L s).2.1))) 201 2 = some (iI (numT T (ad1 T L s).2.1)) := by
      rw [iL2, zAldI (by omega) (by omega) (by omega)] <;> rfl
    refine zT_bindE (st 1 _ _ (by omega)) (zT_bindE (X10_numberHere hT hx h1.1 hN) (zT_bindE (st 2 _ _ (by omega)) (zT_bindE e2 (zT_bindE (X10_isLower hb) ?_))))
    generalize hX : setV s.2.2 0 1 (numT T s.2.1) = X1
    have h2 : okP T L (wX (ad1 T L s) X1) := h1
    have h02 : (wX (ad1 T L s) X1).1 = -1000 := h0
    have ep : (wX (ad1 T L s) X1).2.1 = (ad1 T L s).2.1 := rfl
    unfold loP loS
    rw [ep]
    by_cases q2 : chP 2 (numT T (ad1 T L s).2.1)
    · rw [if_pos q2, if_pos q2, if_neg ne10]
      have q3 : tnP T 2 16 (wX (ad1 T L s) X1) := ⟨h0, by rw [ep]; omega, by rw [ep]; omega⟩
      have q3' : tnP T 2 16 (ad1 T L s) := ⟨h0, by omega, by omega⟩
      have e7 : f_X10_takesNumber N (iI (ad1 T L s).2.1.1) (iI L) (iI (numT T s.2.1)) (iI (ad1 T L s).2.1.2) text 2 16 = _ := R_takesNumber (lo := 2) (hi := 16) hT hx h1 h01 (by unfold zInt; omega) (by unfold zInt; omega) hN
      refine zT_bindE e7 ?_
      dsimp only
      rw [if_pos q3', if_neg (show ¬ iI 1 = 0 from ne10), tnS_pos q3, tnV_1 q3, tnS_pos q3', ep, ← hX]
      exact zT_some ⟨rfl, Or.inl ⟨h0, rfl, rfl, rfl, RDA_12 hA (by omega) (by omega), RDB_setV (RDB_setV hB (by omega)) (by omega)⟩⟩
    · have hf : (flS (wX (ad1 T L s) X1)).1 ≠ -1000 := flS_f h2
      have q3 : ¬ tnP T 2 16 (flS (wX (ad1 T L s) X1)) := fun y => hf y.1
      rw [if_neg q2, if_neg q2, if_pos rfl, tnS_neg q3, flS_1 hf, flS_0 h02]
      exact zT_some ⟨rfl, Or.inr ⟨fl_ne _, rfl, rfl⟩⟩
  · have hf : (flS s).1 ≠ -1000 := flS_f h
    rw [if_neg q, if_pos (show iI 0 = 0 from rfl), tnS_neg q]
    generalize setV s.2.2 0 1 (tnV T 1 12 s) = X1
    have hf2 : (wX (flS s) X1).1 ≠ -1000 := hf
    have e1 : loS T (wX (flS s) X1) = wX (flS s) X1 := by
      unfold loS
      split
      · rfl
      · exact flS_1 hf2
    have q3 : ¬ tnP T 2 16 (wX (flS s) X1) := fun y => hf2 y.1
    unfold loP
    rw [e1, tnS_neg q3, flS_1 hf2, flS_0 h0]
    exact zT_some ⟨rfl, Or.inr ⟨fl_ne _, rfl, rfl⟩⟩
end ZNY
