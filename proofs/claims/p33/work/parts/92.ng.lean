/-! ===== a measure more ===== -/
def blS (S : zSt) : zSt := (S.1 + 1, (fun m k => if m = S.1 then 0 else S.2.1 m k), (fun m v => if m = S.1 then 0 else S.2.2.1 m v), S.2.2.2)
def dfV (S : zSt) (k : Nat) : Int := if 0 < S.1 then S.2.1 (S.1 - 1) k else if k = 0 then 0 else if k = 3 then 120 else 4
def nwS (S : zSt) : zSt := setV (setV (setV (setV (blS S) S.1 0 (dfV S 0)) S.1 1 (dfV S 1)) S.1 2 (dfV S 2)) S.1 3 (dfV S 3)
section ZNI
variable {N : Nat} {S X : zSt} {st cells shifts held past pf : Nat → Int32} {size code pn : Int32} {m v e k i j nx : Nat} {hs : List zSt} {K : zKT} {x : zEv}
theorem nwS_V (m' k' : Nat) : (nwS S).2.1 m' k' = if m' = S.1 then (if k' < 4 then dfV S k' else 0) else S.2.1 m' k' := by
  unfold nwS setV blS
  dsimp only
  by_cases q : m' = S.1
  · rcases (show k' = 0 ∨ k' = 1 ∨ k' = 2 ∨ k' = 3 ∨ 4 ≤ k' by omega) with rfl | rfl | rfl | rfl | q2
    · rw [if_neg (by omega), if_neg (by omega), if_neg (by omega), if_pos ⟨q, rfl⟩, if_pos q, if_pos (by omega)]
    · rw [if_neg (by omega), if_neg (by omega), if_pos ⟨q, rfl⟩, if_pos q, if_pos (by omega)]
    · rw [if_neg (by omega), if_pos ⟨q, rfl⟩, if_pos q, if_pos (by omega)]
    · rw [if_pos ⟨q, rfl⟩, if_pos q, if_pos (by omega)]
    · rw [if_neg (by omega), if_neg (by omega), if_neg (by omega), if_neg (by omega), if_pos q, if_pos q, if_neg (by omega)]
  · rw [if_neg (fun y => q y.1), if_neg (fun y => q y.1), if_neg (fun y => q y.1), if_neg (fun y => q y.1), if_neg q, if_neg q]
theorem nwS_C (m' v' : Nat) : (nwS S).2.2.1 m' v' = if m' = S.1 then 0 else S.2.2.1 m' v' := rfl
theorem nwS_1 : (nwS S).1 = S.1 + 1 := rfl
theorem okC_blS (h : okC S) (hn : S.1 < 16) : okC (blS S) := by
  refine ⟨hn, fun m' hm' => ⟨fun k' hk' => ?_, fun v' hv' => ⟨?_, fun e' he' => ?_⟩⟩⟩
  · unfold blS
    dsimp only
    split
    · omega
    · exact (h.2 m' (by have : m' < S.1 + 1 := hm'; omega)).1 k' hk'
  · unfold blS
    dsimp only
    split
    · omega
    · exact ((h.2 m' (by have : m' < S.1 + 1 := hm'; omega)).2 v' hv').1
  · have he2 : e' < if m' = S.1 then 0 else S.2.2.1 m' v' := he'
    split at he2
    · omega
    · exact ((h.2 m' (by have : m' < S.1 + 1 := hm'; omega)).2 v' hv').2 e' he2
theorem okC_setV (h : okC S) {x : Int} (hx : -1000 ≤ x ∧ x ≤ 1000) : okC (setV S m k x) := by
  refine ⟨h.1, fun m' hm' => ⟨fun k' hk' => ?_, (h.2 m' hm').2⟩⟩
  unfold setV
  dsimp only
  split
  · exact hx
  · exact (h.2 m' hm').1 k' hk'
theorem dfV_b (h : okC S) (hk : k < 7) : -1000 ≤ dfV S k ∧ dfV S k ≤ 1000 := by
  unfold dfV
  split
  · exact (h.2 (S.1 - 1) (by omega)).1 k hk
  · split
    · omega
    · split <;> omega
theorem okC_nwS (h : okC S) (hn : S.1 < 16) : okC (nwS S) := okC_setV (okC_setV (okC_setV (okC_setV (okC_blS h hn) (dfV_b h (by omega))) (dfV_b h (by omega))) (dfV_b h (by omega))) (dfV_b h (by omega))
theorem okS_nwS (h : okS S) (hn : S.1 < 16) : okS (nwS S) := by
  refine ⟨okC_nwS h.1 hn, fun m' hm' => ?_⟩
  by_cases q : m' = S.1
  · have e : ∀ k', (nwS S).2.1 m' k' = if k' < 4 then dfV S k' else 0 := fun k' => by rw [nwS_V, if_pos q]
    unfold okV
    rw [e, e, e, e, e, e, e, if_pos (by omega), if_pos (by omega), if_pos (by omega), if_pos (by omega), if_neg (by omega), if_neg (by omega), if_neg (by omega)]
    unfold dfV
    by_cases q2 : 0 < S.1
    · rw [if_pos q2, if_pos q2, if_pos q2, if_pos q2]
      have := h.2 (S.1 - 1) (by omega)
      unfold okV at this
      omega
    · rw [if_neg q2, if_neg q2, if_neg q2, if_neg q2, if_pos rfl, if_neg (by omega), if_neg (by omega), if_neg (by omega), if_neg (by omega), if_neg (by omega), if_pos rfl]
      omega
  · have e : ∀ k', (nwS S).2.1 m' k' = S.2.1 m' k' := fun k' => by rw [nwS_V, if_neg q]
    have := h.2 m' (by have : m' < S.1 + 1 := hm'; omega)
    unfold okV at this ⊢
    rw [e, e, e, e, e, e, e]
    exact this
theorem RC_blS (h : okC S) {c' : Nat → Int32} (hR : RC S (iI S.1) cells) (hc : ∀ j, c' j = if 57 * S.1 ≤ j ∧ j < 57 * (S.1 + 1) then 0 else cells j) : RC (blS S) (iI ((S.1 + 1 : Nat) : Int)) c' := by
  refine ⟨rfl, fun m' hm' => ?_⟩
  have hm2 : m' < S.1 + 1 := hm'
  by_cases q : m' = S.1
  · subst q
    refine ⟨fun k' hk' => ?_, fun v' hv' => ⟨?_, fun e' he' => ?_⟩⟩
    · rw [hc, if_pos (by omega)]
      unfold blS
      dsimp only
      rw [if_pos rfl]
      rfl
    · rw [hc, if_pos (by omega)]
      unfold blS
      dsimp only
      rw [if_pos rfl]
      rfl
    · have he2 : e' < if S.1 = S.1 then 0 else S.2.2.1 S.1 v' := he'
      rw [if_pos rfl] at he2
      omega
  · have hm3 : m' < S.1 := by omega
    have eV : ∀ k', (blS S).2.1 m' k' = S.2.1 m' k' := fun k' => if_neg q
    have eC : ∀ v', (blS S).2.2.1 m' v' = S.2.2.1 m' v' := fun k' => if_neg q
    refine ⟨fun k' hk' => ?_, fun v' hv' => ⟨?_, fun e' he' => ?_⟩⟩
    · rw [hc, if_neg (by omega), eV]
      exact (hR.2 m' hm3).1 k' hk'
    · rw [hc, if_neg (by omega), eC]
      exact ((hR.2 m' hm3).2 v' hv').1
    · rw [eC] at he'
      have hC := okC_C h hm3 hv'
      rw [hc, if_neg (by omega)]
      exact ((hR.2 m' hm3).2 v' hv').2 e' he'
theorem J7_fill (h : S.1 < 16) (hN : 100 ≤ N) : zT (f_J7_fill_fda19 N 912 cells (iI S.1 * 57) ((iI S.1 + 1) * 57) 0) (fun r => ∀ j, r j = if 57 * S.1 ≤ j ∧ j < 57 * (S.1 + 1) then 0 else cells j) := by
  have e1 : iI (S.1 : Int) * 57 = iI ((57 * S.1 : Nat) : Int) := by rw [iL57, iI_mul]; congr 1 <;> omega
  have e2 : (iI (S.1 : Int) + 1) * 57 = iI ((57 * (S.1 + 1) : Nat) : Int) := by rw [iL57, iIp1, iI_mul]; congr 1 <;> omega
  have er : f_J7_rangeCheck_23922 N (Int32.ofNat 912) (iI ((57 * S.1 : Nat) : Int)) (iI ((57 * (S.1 + 1) : Nat) : Int)) = some () := by
    unfold f_J7_rangeCheck_23922
    rw [if_neg (by rw [iI_lt (by omega) (by omega) (by omega) (by omega)]; omega), if_neg (by rw [iL0, iI_lt (by omega) (by omega) (by omega) (by omega)]; omega), if_neg (by rw [iI_ofNat, iI_lt (by omega) (by omega) (by omega) (by omega)]; omega)]
  unfold f_J7_fill_fda19
  rw [e1, e2, z_be er]
  refine zT_bind (zT_mono (zT_loop (fun n s => ∃ j : Nat, 57 * S.1 ≤ j ∧ j ≤ 57 * (S.1 + 1) ∧ n = 57 * (S.1 + 1) - j ∧ s.1 = iI j ∧ ∀ k, s.2 k = if 57 * S.1 ≤ k ∧ k < j then 0 else cells k) ?_ N 57 _ (by omega) ⟨57 * S.1, by omega, by omega, by omega, rfl, fun k => (by rw [if_neg (by omega)])⟩) (fun a q => zT_some q))
  rintro n ⟨s1, p⟩ c ⟨j, hj0, hj, rfl, q1, hp⟩ ih
  dsimp only at q1 hp
  subst q1
  unfold f_J7_fill_fda19_B10
  dsimp only
  refine zT_ite (fun q => ?_) (fun q => ?_)
  · rw [iI_lt (by omega) (by omega) (by omega) (by omega)] at q
    rw [zAstI (by omega) (by omega) (by omega)]
    refine zT_bindE rfl (zT_bindE rfl (ih (57 * (S.1 + 1) - (j + 1)) _ (by omega) ⟨j + 1, by omega, by omega, rfl, iIp1 _, fun k => ?_⟩))
    dsimp only
    rw [upd_at, Int.toNat_natCast, hp]
    by_cases q1 : k = j
    · rw [if_pos q1, if_pos (by omega)]
    · rw [if_neg q1]
      by_cases q2 : 57 * S.1 ≤ k ∧ k < j
      · rw [if_pos q2, if_pos (by omega)]
      · rw [if_neg q2, if_neg (by omega)]
  · rw [iI_lt (by omega) (by omega) (by omega) (by omega)] at q
    obtain rfl : j = 57 * (S.1 + 1) := by omega
    exact zT_some hp
theorem X4_apV {r5 d : Int32} {n : Nat} (hX : okC X) (hR : RC X (iI X.1) cells) (h1 : X.1 = n + 1) (hr : r5 = if 0 < n then 0 else 1) (hk : k < 7) (hv : 0 < n → X.2.1 (n - 1) k = dfV S k) (hS : S.1 = n) (hd : n = 0 → d = iI (dfV S k)) : (if r5 = 0 then Option.bind (f_X4_value N (iI ((n + 1 : Nat) : Int)) cells (iI n - 1) (iI k)) (fun (r17_ : Int32) => some r17_) else some d) = some (iI (dfV S k)) := by
  by_cases q : 0 < n
  · rw [if_pos q] at hr
    subst hr
    have ev := X4_value_at (N := N) hX hR (m := n - 1) (by omega) hk
    rw [h1, hv q] at ev
    rw [if_pos rfl, iIs1, show (n : Int) - 1 = ((n - 1 : Nat) : Int) by omega, z_be ev]
  · rw [if_neg q] at hr
    subst hr
    rw [if_neg ne10, hd (by omega)]
theorem X4_appendMeasure (h : okC S) (hR : RC S (iI S.1) cells) (hn : S.1 < 16) (hN : 100 ≤ N) : zT (f_X4_appendMeasure N (iI S.1) cells) (fun r => r.1 = iI ((S.1 + 1 : Nat) : Int) ∧ RC (nwS S) (iI ((S.1 + 1 : Nat) : Int)) r.2) := by
  have ef : f_X4_isFull N (iI S.1) = some 0 := by
    unfold f_X4_isFull
    rw [if_pos (by rw [iL16, iI_lt (by omega) (by omega) (by omega) (by omega)]; omega)]
  unfold f_X4_appendMeasure
  rw [z_be ef, if_pos z00, z_sb]
  refine zT_bind (zT_mono (J7_fill hn hN) (fun c0 hc0 => ?_))
  have k0 := okC_blS h hn
  have R0 := RC_blS h hR hc0
  have b0 := dfV_b (k := 0) h (by omega)
  have b1 := dfV_b (k := 1) h (by omega)
  have b2 := dfV_b (k := 2) h (by omega)
  have b3 := dfV_b (k := 3) h (by omega)
  have k1 := okC_setV (m := S.1) (k := 0) k0 b0
  have k2 := okC_setV (m := S.1) (k := 1) k1 b1
  have k3 := okC_setV (m := S.1) (k := 2) k2 b2
  have l0 : S.1 < (blS S).1 := Nat.lt_succ_self _
  have R1 := RC_setV k0 R0 l0 (show 0 < 7 by omega) (dfV S 0)
  have R2 := RC_setV k1 R1 l0 (show 1 < 7 by omega) (dfV S 1)
  have R3 := RC_setV k2 R2 l0 (show 2 < 7 by omega) (dfV S 2)
  have R4 := RC_setV k3 R3 l0 (show 3 < 7 by omega) (dfV S 3)
  have e5 : (if iI (S.1 : Int) - 1 < 0 then some (1 : Int32) else some 0) = some (if 0 < S.1 then 0 else 1) := by
    rw [iIs1, iL0]
    by_cases q : 0 < S.1
    · rw [if_pos q, if_neg (by rw [iI_lt (by omega) (by omega) (by omega) (by omega)]; omega)] <;> rfl
    · rw [if_neg q, if_pos (by rw [iI_lt (by omega) (by omega) (by omega) (by omega)]; omega)]
  have es : iI (S.1 : Int) + 1 = iI ((S.1 + 1 : Nat) : Int) := iIp1 _
  have em : iI ((S.1 + 1 : Nat) : Int) - 1 = iI (S.1 : Int) := by rw [iIs1]; congr 1 <;> omega
  rw [es, z_sb, z_be e5, em]
  have bl : ∀ k, 0 < S.1 → (blS S).2.1 (S.1 - 1) k = dfV S k := fun k q => by
    unfold dfV blS
    dsimp only
    rw [if_pos q, if_neg (by omega)]
  have d1 : ∀ k, ¬ k = 0 → ¬ k = 3 → S.1 = 0 → (4 : Int32) = iI (dfV S k) := fun k h0 h3 q => by unfold dfV; rw [if_neg (by omega), if_neg h0, if_neg h3] <;> rfl
  refine zT_bindE (X4_apV (k := 0) (n := S.1) k0 R0 rfl rfl (by omega) (bl 0) rfl (fun q => by unfold dfV; rw [if_neg (by omega), if_pos rfl] <;> rfl)) ?_
  refine zT_bindE (X4_putValue (S := blS S) (k := 0) k0 l0 (by omega) _) ?_
  refine zT_bindE (X4_apV (X := setV (blS S) S.1 0 (dfV S 0)) (k := 1) (n := S.1) k1 R1 rfl rfl (by omega) (fun q => by rw [setV_ne _ (by omega)]; exact bl 1 q) rfl (d1 1 (by omega) (by omega))) ?_
  refine zT_bindE (X4_putValue (S := blS S) (k := 1) k0 l0 (by omega) _) ?_
  refine zT_bindE (X4_apV (X := setV (setV (blS S) S.1 0 (dfV S 0)) S.1 1 (dfV S 1)) (k := 2) (n := S.1) k2 R2 rfl rfl (by omega) (fun q => by rw [setV_ne _ (by omega), setV_ne _ (by omega)]; exact bl 2 q) rfl (d1 2 (by omega) (by omega))) ?_
  refine zT_bindE (X4_putValue (S := blS S) (k := 2) k0 l0 (by omega) _) ?_
  refine zT_bindE (X4_apV (X := setV (setV (setV (blS S) S.1 0 (dfV S 0)) S.1 1 (dfV S 1)) S.1 2 (dfV S 2)) (k := 3) (n := S.1) k3 R3 rfl rfl (by omega) (fun q => by rw [setV_ne _ (by omega), setV_ne _ (by omega), setV_ne _ (by omega)]; exact bl 3 q) rfl (fun q => by unfold dfV; rw [if_neg (by omega), if_neg (by omega), if_pos rfl] <;> rfl)) ?_
  refine zT_bindE (X4_putValue (S := blS S) (k := 3) k0 l0 (by omega) _) ?_
  exact zT_some ⟨rfl, R4⟩
end ZNI
