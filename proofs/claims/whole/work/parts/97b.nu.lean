/-! ===== reading a text: the reference's events ===== -/
section ZNZ
variable {N L t w v k : Nat} {T : Nat → Int} {tb text cells rd : Nat → Int32} {a b c nb hk ht : Int32} {p : Nat × Nat} {s : pS} {lo hi : Int} {X : zSt} {x : zEv}
theorem st201 (f : Nat → Int32) (y : Int32) {j : Nat} (hj : j < 201) : zAst f 201 (iI j) y = some (upd f j y) := by
  rw [zAstI (by omega) (by omega) (by omega), Int.toNat_natCast]
theorem ld201 (f : Nat → Int32) {j : Nat} (hj : j < 201) : zAld f 201 (iI j) = some (f j) := by
  rw [zAldI (by omega) (by omega) (by omega), Int.toNat_natCast]
theorem iIn (j : Nat) (c : Nat) : iI (j : Int) + iI (c : Int) = iI ((j + c : Nat) : Int) := by
  rw [iI_add]; congr 1
theorem X10_headLoop (hT : okT T L) (hx : zTx L T (iI L) text) (h : okP T L s) (h0 : s.1 = -1000) {j : Nat} (hj : j + 4 ≤ 201) (hr : rd (j + 1) = 0) (hN : 700 ≤ N) : zT (zLoop (f_X10_readsHead_B56 N (iI j) (iI L) zSp text) N (1, iI s.2.1.1, iI s.2.1.2, rd)) (fun r => r.1 = iI (sgT T L s).2.1.1 ∧ r.2.1 = iI (sgT T L s).2.1.2 ∧ r.2.2 (j + 1) = iI (sgL T s) ∧ ∀ k, k ≠ j + 1 → r.2.2 k = rd k) := by
  refine zT_loop (fun n q => ∃ l : Nat, 1 ≤ l ∧ l ≤ 4 ∧ n = 4 - l ∧ q.1 = iI l ∧ (∀ k, k ≠ j + 1 → q.2.2.2 k = rd k) ∧ ((q.2.1 = iI s.2.1.1 ∧ q.2.2.1 = iI s.2.1.2 ∧ q.2.2.2 (j + 1) = 0 ∧ ∀ i, 1 ≤ i → i < l → ¬ twP T (4 + i) s) ∨ (sgL T s ≠ 0 ∧ q.2.1 = iI (sgT T L s).2.1.1 ∧ q.2.2.1 = iI (sgT T L s).2.1.2 ∧ q.2.2.2 (j + 1) = iI (sgL T s)))) ?_ N 3 _ (by omega) ⟨1, by omega, by omega, rfl, rfl, fun _ _ => rfl, Or.inl ⟨rfl, rfl, hr, fun i hi hi2 => by omega⟩⟩
  rintro n ⟨q1, q2, q3, q4⟩ kk ⟨l, hl0, hl, rfl, rfl, ho, hm⟩ ih
  have hs3 := sgL_b T s
  unfold f_X10_readsHead_B56
  dsimp only at ho hm ⊢
  refine zT_ite (fun r => ?_) (fun r => ?_)
  · rw [iL3, iI_lt (by omega) (by omega) (by omega) (by omega)] at r
    obtain rfl : l = 4 := by omega
    rcases hm with ⟨m1, m2, m3, m4⟩ | ⟨m0, m1, m2, m3⟩
    · have e := sgL_0 m4
      refine zT_some ⟨?_, ?_, ?_, ho⟩
      · unfold sgT; rw [if_pos e]; exact m1
      · unfold sgT; rw [if_pos e]; exact m2
      · rw [e]; exact m3
    · exact zT_some ⟨m1, m2, m3, ho⟩
  · rw [iL3, iI_lt (by omega) (by omega) (by omega) (by omega)] at r
    have hl2 : 1 ≤ l ∧ l ≤ 3 := by omega
    have e1 : iI (j : Int) + 1 = iI ((j + 1 : Nat) : Int) := iIp1 _
    rw [e1]
    refine zT_bindE (ld201 _ (by omega)) ?_
    rcases hm with ⟨m1, m2, m3, m4⟩ | ⟨m0, m1, m2, m3⟩
    · subst m1
      subst m2
      rw [if_pos m3, iL4, iI_add]
      have ew : f_X10_takesWord N (iI s.2.1.1) (iI L) (iI s.2.1.2) zSp text (iI (4 + (l : Int))) = _ := R_takesWord (w := 4 + l) hT hx h h0 (by omega) hN (by omega)
      refine zT_bindE ew ?_
      dsimp only
      by_cases q5 : twP T (4 + l) s
      · have es := sgL_eq hl2 m4 q5
        rw [if_pos q5, if_neg (show ¬ iI 1 = 0 from ne10)]
        refine zT_bindE rfl (zT_bindE (st201 _ _ (by omega)) (zT_bindE rfl (ih (4 - (l + 1)) _ (by omega) ⟨l + 1, by omega, by omega, rfl, iIp1 _, fun k hk => ?_, Or.inr ⟨by omega, ?_, ?_, ?_⟩⟩)))
        · dsimp only; rw [upd_ne _ _ hk]; exact ho k hk
        · unfold sgT; rw [es, if_neg (by omega)]
        · unfold sgT; rw [es, if_neg (by omega)]
        · dsimp only; rw [upd_eq _ _ rfl, es]
      · rw [if_neg q5, if_pos (show iI 0 = 0 from rfl), twS_neg q5]
        refine zT_bindE rfl (zT_bindE (st201 _ _ (by omega)) (zT_bindE rfl (ih (4 - (l + 1)) _ (by omega) ⟨l + 1, by omega, by omega, rfl, iIp1 _, fun k hk => ?_, Or.inl ⟨rfl, rfl, upd_eq _ _ rfl, fun i hi0 hi => ?_⟩⟩)))
        · dsimp only; rw [upd_ne _ _ hk]; exact ho k hk
        · by_cases e : i = l
          · rw [e]; exact q5
          · exact m4 i hi0 (by omega)
    · rw [if_neg (by rw [m3, iL0, iI_eq (by omega) (by omega) (by omega) (by omega)]; omega)]
      exact zT_some ⟨m1, m2, m3, ho⟩
/-- what stands in the four places of an event -/
def RD4 (rd : Nat → Int32) (j : Nat) (x : zEv) : Prop := rd j = iI x.1 ∧ rd (j + 1) = iI x.2.1 ∧ rd (j + 2) = iI x.2.2.1 ∧ rd (j + 3) = iI x.2.2.2
theorem X10_readsHead (hT : okT T L) (hx : zTx L T (iI L) text) (h : okP T L s) (hbe : beP T s) {j : Nat} (hj : j + 4 ≤ 201) (hN : 700 ≤ N) : zT (f_X10_readsHead N (iI s.2.1.1) (iI L) nb (iI s.2.1.2) rd zSp text (iI j)) (fun r => (∀ k, k < j ∨ j + 4 ≤ k → r.2.2.2.2 k = rd k) ∧ ((stpT T s.2.1 < 0 ∧ r.1 = 1 ∧ r.2.1 = iI (ad1 T L s).2.1.1 ∧ r.2.2.2.1 = iI (ad1 T L s).2.1.2 ∧ r.2.2.2.2 j = iI (-1) ∧ r.2.2.2.2 (j + 1) = iI 0) ∨ (0 ≤ stpT T s.2.1 ∧ tnP T 0 8 (sgT T L (ad1 T L s)) ∧ r.1 = 1 ∧ r.2.1 = iI (tnS T L 0 8 (sgT T L (ad1 T L s))).2.1.1 ∧ r.2.2.2.1 = iI (tnS T L 0 8 (sgT T L (ad1 T L s))).2.1.2 ∧ r.2.2.2.2 j = iI (7 * tnV T 0 8 (sgT T L (ad1 T L s)) + stpT T s.2.1) ∧ r.2.2.2.2 (j + 1) = iI (sgL T (ad1 T L s))) ∨ (0 ≤ stpT T s.2.1 ∧ ¬ tnP T 0 8 (sgT T L (ad1 T L s)) ∧ r.1 = 0 ∧ r.2.1 = iI (sgT T L (ad1 T L s)).2.1.1))) := by
  have h0 := hbe.1
  have hb := stpT_b (T := T) s.2.1
  have e1 : iI (j : Int) + 1 = iI ((j + 1 : Nat) : Int) := iIp1 _
  have e0 : iI (j : Int) + 0 = iI (j : Int) := iIn j 0
  unfold f_X10_readsHead
  rw [e1, e0]
  refine zT_bindE (st201 _ _ (by omega)) (zT_bindE (st201 _ _ (by omega)) (zT_bindE (X10_isLetter hT hx h.1) ?_))
  by_cases q : 0 ≤ stpT T s.2.1
  · rw [if_pos q, if_neg (show ¬ iI 1 = 0 from ne10)]
    have hst : s.2.1.2 - s.2.1.1 = 1 ∧ 97 ≤ T s.2.1.1 ∧ T s.2.1.1 ≤ 103 := by
      by_cases y : s.2.1.2 - s.2.1.1 = 1 ∧ 97 ≤ T s.2.1.1 ∧ T s.2.1.1 ≤ 103
      · exact y
      · unfold stpT at q
        rw [if_neg y] at q
        omega
    have hse : stpT T s.2.1 = (T s.2.1.1 - 97 + 5) % 7 := if_pos hst
    have hl : s.2.1.1 < L := by have := h.1.2.1; omega
    have ez : zRem ((iI (T s.2.1.1) - 97) + 5) 7 = some (iI (stpT T s.2.1)) := by
      rw [iL97, iI_sub, iL5, iI_add, iL7, zRemI (by omega) (by omega) (by omega) (by omega), hse]
    refine zT_bindE (ld_text hT hx hl) (zT_bindE ez (zT_bindE (X10_next hT hx h.1.2.1 hN) ?_))
    have h1 := okP_ad h
    have h01 : (ad1 T L s).1 = -1000 := h0
    refine zT_bind (zT_mono (X10_headLoop (s := ad1 T L s) (j := j) hT hx h1 h01 hj (by rw [upd_ne _ _ (by omega), upd_eq _ _ rfl]) hN) ?_)
    rintro ⟨r1, r2, r3⟩ ⟨g1, g2, g3, g4⟩
    dsimp only at g1 g2 g3 g4 ⊢
    subst g1
    subst g2
    have h2 := okP_sg h1
    have h02 : (sgT T L (ad1 T L s)).1 = -1000 := by
      unfold sgT
      split
      · exact h0
      · rw [twS_1]; exact h0
    have en : f_X10_takesNumber N (iI (sgT T L (ad1 T L s)).2.1.1) (iI L) nb (iI (sgT T L (ad1 T L s)).2.1.2) text 0 8 = _ := R_takesNumber (lo := 0) (hi := 8) (nb := nb) hT hx h2 h02 (by unfold zInt; omega) (by unfold zInt; omega) hN
    refine zT_bindE en ?_
    dsimp only
    refine zT_bindE (st201 _ _ (by omega)) ?_
    have off : ∀ y k, k < j ∨ j + 4 ≤ k → upd r3 j y k = rd k := by
      intro y k hk
      rw [upd_ne _ _ (by omega), g4 k (by omega), upd_ne _ _ (by omega), upd_ne _ _ (by omega)]
    by_cases q2 : tnP T 0 8 (sgT T L (ad1 T L s))
    · rw [if_pos q2]
      refine zT_bindE rfl (zT_some ⟨off _, Or.inr (Or.inl ⟨q, q2, rfl, rfl, rfl, ?_, ?_⟩)⟩)
      · dsimp only
        rw [upd_eq _ _ rfl, tnV_1 q2, iL7, iI_mul, iI_add]
      · dsimp only
        rw [upd_ne _ _ (by omega)]
        exact g3
    · rw [if_neg q2]
      refine zT_bindE rfl (zT_some ⟨off _, Or.inr (Or.inr ⟨q, q2, rfl, ?_⟩)⟩)
      dsimp only
      rw [tnS_neg q2, flS_p]
  · have q10 : twP T 10 s := ⟨h0, hbe.2.elim (fun y => absurd y q) (fun y => y)⟩
    rw [if_neg q, if_pos (show iI 0 = 0 from rfl)]
    have ew : f_X10_takesWord N (iI s.2.1.1) (iI L) (iI s.2.1.2) zSp text 10 = _ := R_takesWord (w := 10) (y := 10) hT hx h h0 (by omega) hN rfl
    refine zT_bindE ew ?_
    dsimp only
    rw [if_pos q10, twS_pos q10]
    refine zT_bindE rfl (zT_some ⟨fun k hk => ?_, Or.inl ⟨by omega, rfl, rfl, rfl, ?_, ?_⟩⟩)
    · dsimp only
      rw [upd_ne _ _ (by omega), upd_ne _ _ (by omega)]
    · dsimp only
      rw [upd_eq _ _ rfl] <;> rfl
    · dsimp only
      rw [upd_ne _ _ (by omega), upd_eq _ _ rfl] <;> rfl
theorem X10_evLoop (hT : okT T L) (hx : zTx L T (iI L) text) (h : okP T L s) (h0 : s.1 = -1000) (hN : 700 ≤ N) : zT (zLoop (f_X10_readsEvent_B27 N (iI L) zSp text) N (0, iI s.2.1.1, iI s.2.1.2)) (fun r => r.1 = iI (duL T s) ∧ duL T s ≤ 5 ∧ (duL T s < 5 → r.2.1 = iI (twS T L (12 + duL T s) s).2.1.1 ∧ r.2.2 = iI (twS T L (12 + duL T s) s).2.1.2) ∧ (duL T s = 5 → r.2.1 = iI s.2.1.1)) := by
  refine zT_loop (fun n q => ∃ l : Nat, l ≤ 5 ∧ n = 5 - l ∧ q = (iI l, iI s.2.1.1, iI s.2.1.2) ∧ ∀ i, i < l → ¬ twP T (12 + i) s) ?_ N 5 _ (by omega) ⟨0, by omega, rfl, rfl, fun i hi => absurd hi (Nat.not_lt_zero i)⟩
  rintro n q k ⟨l, hl, rfl, rfl, hm⟩ ih
  unfold f_X10_readsEvent_B27
  dsimp only
  refine zT_ite (fun r => ?_) (fun r => ?_)
  · rw [iL5, iI_lt (by omega) (by omega) (by omega) (by omega)] at r
    have hl2 : l < 5 := by omega
    rw [iL12, iI_add]
    have ew : f_X10_takesWord N (iI s.2.1.1) (iI L) (iI s.2.1.2) zSp text (iI (12 + (l : Int))) = _ := R_takesWord (w := 12 + l) hT hx h h0 (by omega) hN (by omega)
    refine zT_bindE ew ?_
    dsimp only
    by_cases q2 : twP T (12 + l) s
    · have e := duL_eq hl2 hm q2
      rw [if_pos q2, if_neg (show ¬ iI 1 = 0 from ne10)]
      refine zT_some ?_
      rw [e]
      exact ⟨rfl, by omega, fun _ => ⟨rfl, rfl⟩, fun y => by omega⟩
    · rw [if_neg q2, if_pos (show iI 0 = 0 from rfl), twS_neg q2]
      refine zT_bindE rfl (ih (5 - (l + 1)) _ (by omega) ⟨l + 1, by omega, rfl, by rw [iIp1] <;> rfl, fun i hi => ?_⟩)
      by_cases e : i = l
      · rw [e]; exact q2
      · exact hm i (by omega)
  · rw [iL5, iI_lt (by omega) (by omega) (by omega) (by omega)] at r
    obtain rfl : l = 5 := by omega
    have e := duL_5 hm
    refine zT_some ?_
    rw [e]
    exact ⟨rfl, by omega, fun y => by omega, fun _ => rfl⟩
theorem duP_f (hT : okT T L) (h : okP T L s) (hs : s.1 ≠ -1000) : duP T L s = (0, s) := by
  have n : ∀ w, ¬ twP T w s := fun w y => hs y.1
  unfold duP
  rw [twS_neg (n 11), duL_5 (fun i _ => n _), if_neg (by omega), flS_1 hs]
theorem X10_readsEvent (hT : okT T L) (hx : zTx L T (iI L) text) (h : okP T L s) (hbe : beP T s) {j : Nat} (hj : j + 4 ≤ 201) (hN : 700 ≤ N) : zT (f_X10_readsEvent N (iI s.2.1.1) (iI L) nb (iI s.2.1.2) rd zSp text (iI j)) (fun r => ((evS T L v s).1 = -1000 ∧ r.1 = 1 ∧ r.2.1 = iI (evS T L v s).2.1.1 ∧ r.2.2.2.1 = iI (evS T L v s).2.1.2 ∧ (∀ k, k < j ∨ j + 4 ≤ k → r.2.2.2.2 k = rd k) ∧ ∃ x, okE x ∧ RD4 r.2.2.2.2 j x ∧ (evS T L v s).2.2 = setAd s.2.2 0 v x) ∨ ((evS T L v s).1 ≠ -1000 ∧ r.1 = 0 ∧ r.2.1 = iI (evS T L v s).1)) := by
  have h0 := hbe.1
  have h1 := okP_ad h
  have e1 : iI (j : Int) + 2 = iI ((j + 2 : Nat) : Int) := iIn j 2
  have e3 : iI (j : Int) + 3 = iI ((j + 3 : Nat) : Int) := iIn j 3
  have e0 : iI (j : Int) + 0 = iI (j : Int) := iIn j 0
  unfold f_X10_readsEvent
  rw [e1, e0, e3]
  refine zT_bind (zT_mono (X10_readsHead (j := j) (nb := nb) (rd := rd) hT hx h hbe hj hN) ?_)
  rintro ⟨r1, r2, r3, r4, r5⟩ ⟨g0, g⟩
  dsimp only at g0 g ⊢
  have rest : ∀ (t : pS) (x1 x2 : Int), okP T L t → t.1 = -1000 → r2 = iI t.2.1.1 → r4 = iI t.2.1.2 → r5 j = iI x1 → r5 (j + 1) = iI x2 → -1 ≤ x1 → x1 ≤ 62 → zT (Option.bind (f_X10_takesWord N r2 (iI L) r4 zSp text 11) (fun (r2_ : Int32 × Int32 × Int32) => Option.bind (if r2_.1 = 0 then some 0 else some 1) (fun (r3_ : Int32) => Option.bind (zLoop (f_X10_readsEvent_B27 N (iI L) zSp text) N (0, r2_.2.1, r2_.2.2)) (fun (r4_ : Int32 × Int32 × Int32) => Option.bind (zAst r5 201 (iI ((j + 2 : Nat) : Int)) ((2 * r4_.1) + r3_)) (fun (w5_ : Nat → Int32) => Option.bind (if r4_.1 < 5 then Option.bind (zAld w5_ 201 (iI j)) (fun (x8_ : Int32) => if x8_ = (-1) then some (0, r4_.2.1, r4_.2.2) else Option.bind (f_X10_takesWord N r4_.2.1 (iI L) r4_.2.2 zSp text 17) (fun (r9_ : Int32 × Int32 × Int32) => if r9_.1 = 0 then some (0, r9_.2.1, r9_.2.2) else some (1, r9_.2.1, r9_.2.2))) else some (0, r4_.2.1, r4_.2.2)) (fun (r6_ : Int32 × Int32 × Int32) => Option.bind (zAst w5_ 201 (iI ((j + 3 : Nat) : Int)) r6_.1) (fun (w7_ : Nat → Int32) => if r4_.1 < 5 then some ((1 : Int32), r6_.2.1, r3, r6_.2.2, w7_) else some (0, r6_.2.1, r3, r6_.2.2, w7_)))))))) (fun r => ((duP T L t).2.1 = -1000 ∧ r.1 = 1 ∧ r.2.1 = iI (if x1 < 0 then (duP T L t).2 else twS T L 17 (duP T L t).2).2.1.1 ∧ r.2.2.2.1 = iI (if x1 < 0 then (duP T L t).2 else twS T L 17 (duP T L t).2).2.1.2 ∧ (∀ k, k < j ∨ j + 4 ≤ k → r.2.2.2.2 k = rd k) ∧ RD4 r.2.2.2.2 j (x1, x2, (duP T L t).1, if x1 < 0 then 0 else if twP T 17 (duP T L t).2 then 1 else 0)) ∨ ((duP T L t).2.1 ≠ -1000 ∧ r.1 = 0 ∧ r.2.1 = iI (duP T L t).2.1)) := by
    intro t x1 x2 ht ht0 hr2 hr4 hx1 hx2 hb1 hb2
    subst hr2
    subst hr4
    have ew : f_X10_takesWord N (iI t.2.1.1) (iI L) (iI t.2.1.2) zSp text 11 = _ := R_takesWord (w := 11) (y := 11) hT hx ht ht0 (by omega) hN rfl
    have ed : (if iI (if twP T 11 t then 1 else 0) = 0 then some 0 else some (1 : Int32)) = some (iI (if twP T 11 t then 1 else 0)) := by
      by_cases q : twP T 11 t
      · rw [if_pos q, if_neg (show ¬ iI 1 = 0 from ne10)] <;> rfl
      · rw [if_neg q, if_pos (show iI 0 = 0 from rfl)] <;> rfl
    refine zT_bindE ew (zT_bindE ed ?_)
    dsimp only
    have hu := okP_tw (w := 11) ht
    have hu0 : (twS T L 11 t).1 = -1000 := by rw [twS_1]; exact ht0
    refine zT_bind (zT_mono (X10_evLoop hT hx hu hu0 hN) ?_)
    rintro ⟨k1, k2, k3⟩ ⟨m1, m2, m3, m4⟩
    dsimp only at m1 m3 m4 ⊢
    subst m1
    have hdu : duP T L t = if duL T (twS T L 11 t) < 5 then (2 * (duL T (twS T L 11 t) : Int) + (if twP T 11 t then 1 else 0), twS T L (12 + duL T (twS T L 11 t)) (twS T L 11 t)) else (0, flS (twS T L 11 t)) := rfl
    refine zT_bindE (st201 _ _ (by omega)) ?_
    have h5 : (iI (duL T (twS T L 11 t) : Int) < 5) = (duL T (twS T L 11 t) < 5) := by
      rw [iL5, iI_lt (by omega) (by omega) (by omega) (by omega)]
      exact propext ⟨fun y => by omega, fun y => by omega⟩
    by_cases q : duL T (twS T L 11 t) < 5
    · obtain ⟨n1, n2⟩ := m3 q
      subst n1
      subst n2
      rw [if_pos q] at hdu
      have hd2 : (duP T L t).2 = twS T L (12 + duL T (twS T L 11 t)) (twS T L 11 t) := by rw [hdu]
      have hd1 : (duP T L t).1 = 2 * (duL T (twS T L 11 t) : Int) + (if twP T 11 t then 1 else 0) := by rw [hdu]
      have hw := okP_tw (w := 12 + duL T (twS T L 11 t)) hu
      have hw0 : (twS T L (12 + duL T (twS T L 11 t)) (twS T L 11 t)).1 = -1000 := by rw [twS_1]; exact hu0
      rw [← hd2] at hw hw0 ⊢
      rw [if_pos (by rw [h5]; exact q)]
      have ev : 2 * iI (duL T (twS T L 11 t) : Int) + iI (if twP T 11 t then 1 else 0) = iI (duP T L t).1 := by
        rw [iL2, iI_mul, iI_add, hd1]
      rw [ev]
      refine zT_bind (zT_bindE (ld201 _ (by omega)) ?_)
      rw [upd_ne _ _ (by omega), hx1]
      have em : (iI x1 = -1) = (x1 < 0) := by
        rw [show (-1 : Int32) = iI (-1) from rfl, iI_eq (by omega) (by omega) (by omega) (by omega)]
        exact propext ⟨fun h => by omega, fun h => by omega⟩
      have fin : ∀ (y : Int) (k : Nat), k < j ∨ j + 4 ≤ k → upd (upd r5 (j + 2) (iI (duP T L t).1)) (j + 3) (iI y) k = rd k := by
        intro y k hk
        rw [upd_ne _ _ (by omega), upd_ne _ _ (by omega)]
        exact g0 k hk
      have r4' : ∀ (y : Int), RD4 (upd (upd r5 (j + 2) (iI (duP T L t).1)) (j + 3) (iI y)) j (x1, x2, (duP T L t).1, y) := by
        intro y
        refine ⟨?_, ?_, ?_, ?_⟩
        · rw [upd_ne _ _ (by omega), upd_ne _ _ (by omega)]; exact hx1
        · rw [upd_ne _ _ (by omega), upd_ne _ _ (by omega)]; exact hx2
        · rw [upd_ne _ _ (by omega), upd_eq _ _ rfl]
        · rw [upd_eq _ _ rfl]
      by_cases q2 : x1 < 0
      · rw [if_pos (by rw [em]; exact q2)]
        refine zT_some (zT_bindE (st201 _ _ (by omega)) ?_)
        rw [if_pos (by rw [h5]; exact q), if_pos q2, if_pos q2]
        exact zT_some (Or.inl ⟨hw0, rfl, rfl, rfl, fin 0, r4' 0⟩)
      · rw [if_neg (by rw [em]; exact q2), if_neg q2, if_neg q2]
        have e17 : f_X10_takesWord N (iI (duP T L t).2.2.1.1) (iI L) (iI (duP T L t).2.2.1.2) zSp text 17 = _ := R_takesWord (w := 17) (y := 17) hT hx hw hw0 (by omega) hN rfl
        refine zT_bindE e17 ?_
        dsimp only
        by_cases q3 : twP T 17 (duP T L t).2
        · rw [if_pos q3, if_neg (show ¬ iI 1 = 0 from ne10)]
          refine zT_some (zT_bindE (st201 _ _ (by omega)) ?_)
          rw [if_pos (by rw [h5]; exact q)]
          exact zT_some (Or.inl ⟨hw0, rfl, rfl, rfl, fin 1, r4' 1⟩)
        · rw [if_neg q3, if_pos (show iI 0 = 0 from rfl)]
          refine zT_some (zT_bindE (st201 _ _ (by omega)) ?_)
          rw [if_pos (by rw [h5]; exact q)]
          exact zT_some (Or.inl ⟨hw0, rfl, rfl, rfl, fin 0, r4' 0⟩)
    · have n1 := m4 (by omega)
      subst n1
      rw [if_neg q] at hdu
      have hd2 : (duP T L t).2 = flS (twS T L 11 t) := by rw [hdu]
      rw [if_neg (by rw [h5]; exact q)]
      refine zT_bindE rfl (zT_bindE (st201 _ _ (by omega)) ?_)
      rw [if_neg (by rw [h5]; exact q), hd2, flS_0 hu0]
      exact zT_some (Or.inr ⟨fl_ne _, rfl, rfl⟩)
  have hb := stpT_b (T := T) s.2.1
  rcases g with ⟨q, g1, g2, g3, g4, g5⟩ | ⟨q, q2, g1, g2, g3, g4, g5⟩ | ⟨q, q2, g1, g2⟩
  · rw [g1, if_neg ne10]
    have hd := okP_du hT h1
    have ee : evS T L v s = evR T L v s := by unfold evS; rw [if_pos hbe, if_pos q]
    refine zT_mono (rest (ad1 T L s) (-1) 0 h1 h0 g2 g3 g4 g5 (by omega) (by omega)) (fun r hr => ?_)
    rw [ee]
    rcases hr with ⟨m1, m2, m3, m4, m5, m6⟩ | ⟨m1, m2, m3⟩
    · exact Or.inl ⟨m1, m2, m3, m4, m5, _, okE_rest (by omega), m6, rfl⟩
    · exact Or.inr ⟨m1, m2, m3⟩
  · rw [g1, if_neg ne10]
    have h2 := okP_tn (lo := 0) (hi := 8) hT (okP_sg h1)
    have h02 : (tnS T L 0 8 (sgT T L (ad1 T L s))).1 = -1000 := by
      rw [tnS_pos q2]
      exact q2.1
    have ee : evS T L v s = evN T L v s := by unfold evS; rw [if_pos hbe, if_neg (by omega)]
    obtain ⟨k1, k2⟩ := evE_ok hT h q
    have hbd := okE_b k1
    refine zT_mono (rest _ (evE T L s).1 (sgL T (ad1 T L s)) h2 h02 g2 g3 g4 g5 (by omega) (by omega)) (fun r hr => ?_)
    rw [ee]
    have hneg : ¬ (evE T L s).1 < 0 := by omega
    simp only [if_neg hneg] at hr
    rcases hr with ⟨m1, m2, m3, m4, m5, m6⟩ | ⟨m1, m2, m3⟩
    · refine Or.inl ⟨?_, m2, m3, m4, m5, evE T L s, k1, m6, rfl⟩
      show (twS T L 17 (evD T L s).2).1 = -1000
      rw [twS_1]; exact m1
    · have e17 : (twS T L 17 (evD T L s).2).1 = (duP T L (tnS T L 0 8 (sgT T L (ad1 T L s)))).2.1 := by rw [twS_1] <;> rfl
      refine Or.inr ⟨?_, m2, ?_⟩
      · show (twS T L 17 (evD T L s).2).1 ≠ -1000
        rw [e17]; exact m1
      · show r.2.1 = iI (twS T L 17 (evD T L s).2).1
        rw [e17]; exact m3
  · rw [g1, if_pos rfl]
    have h02 : (sgT T L (ad1 T L s)).1 = -1000 := by
      unfold sgT
      split
      · exact h0
      · rw [twS_1]; exact h0
    have h2 := okP_sg h1
    have ee : evS T L v s = evN T L v s := by unfold evS; rw [if_pos hbe, if_neg (by omega)]
    have hf : (flS (sgT T L (ad1 T L s))).1 ≠ -1000 := flS_f h2
    have e17 : (evN T L v s).1 = ((sgT T L (ad1 T L s)).2.1.1 : Int) := by
      show (twS T L 17 (evD T L s).2).1 = _
      unfold evD
      rw [twS_1, tnS_neg q2, duP_f hT (okP_fl hT h2) hf, flS_0 h02]
    rw [ee, e17]
    exact zT_some (Or.inr ⟨fl_ne _, rfl, g2⟩)
end ZNZ
