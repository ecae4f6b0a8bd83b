/-! ===== reading a text: the class's reader, step by step ===== -/
abbrev pS : Type := Int × (Nat × Nat) × zSt
abbrev twP (T : Nat → Int) (w : Nat) (s : pS) : Prop := s.1 = -1000 ∧ isW T s.2.1 w
def twS (T : Nat → Int) (L w : Nat) (s : pS) : pS := if twP T w s then (s.1, adv T L s.2.1.2, s.2.2) else s
def flS (s : pS) : pS := if s.1 = -1000 then ((s.2.1.1 : Int), s.2.1, s.2.2) else s
def ndS (T : Nat → Int) (L w : Nat) (s : pS) : pS := if twP T w s then twS T L w s else flS s
abbrev tnP (T : Nat → Int) (lo hi : Int) (s : pS) : Prop := s.1 = -1000 ∧ lo ≤ numT T s.2.1 ∧ numT T s.2.1 ≤ hi
def tnV (T : Nat → Int) (lo hi : Int) (s : pS) : Int := if tnP T lo hi s then numT T s.2.1 else 0
def tnS (T : Nat → Int) (L : Nat) (lo hi : Int) (s : pS) : pS := if tnP T lo hi s then (s.1, adv T L s.2.1.2, s.2.2) else flS s
def wX (s : pS) (X : zSt) : pS := (s.1, s.2.1, X)
def kyP (T : Nat → Int) (L : Nat) (s : pS) : Int × pS := if twP T 4 s then (0, twS T L 4 s) else if twP T 5 (tnS T L 1 7 s) then (tnV T 1 7 s, twS T L 5 (tnS T L 1 7 s)) else (-tnV T 1 7 s, ndS T L 6 (tnS T L 1 7 s))
def loS (T : Nat → Int) (s : pS) : pS := if chP 2 (numT T s.2.1) then s else flS s
def loP (T : Nat → Int) (L : Nat) (s : pS) : Int × pS := (tnV T 2 16 (loS T s), tnS T L 2 16 (loS T s))
def duL (T : Nat → Int) (s : pS) : Nat := if twP T 12 s then 0 else if twP T 13 s then 1 else if twP T 14 s then 2 else if twP T 15 s then 3 else if twP T 16 s then 4 else 5
def duP (T : Nat → Int) (L : Nat) (s : pS) : Int × pS := if duL T (twS T L 11 s) < 5 then (2 * (duL T (twS T L 11 s) : Int) + (if twP T 11 s then 1 else 0), twS T L (12 + duL T (twS T L 11 s)) (twS T L 11 s)) else (0, flS (twS T L 11 s))
def sgL (T : Nat → Int) (s : pS) : Nat := if twP T 5 s then 1 else if twP T 6 s then 2 else if twP T 7 s then 3 else 0
def sgT (T : Nat → Int) (L : Nat) (s : pS) : pS := if sgL T s = 0 then s else twS T L (4 + sgL T s) s
abbrev beP (T : Nat → Int) (s : pS) : Prop := s.1 = -1000 ∧ (0 ≤ stpT T s.2.1 ∨ isW T s.2.1 10)
def ad1 (T : Nat → Int) (L : Nat) (s : pS) : pS := (s.1, adv T L s.2.1.2, s.2.2)
def evR (T : Nat → Int) (L v : Nat) (s : pS) : pS := wX (duP T L (ad1 T L s)).2 (setAd s.2.2 0 v (-1, 0, (duP T L (ad1 T L s)).1, 0))
def evD (T : Nat → Int) (L : Nat) (s : pS) : Int × pS := duP T L (tnS T L 0 8 (sgT T L (ad1 T L s)))
def evE (T : Nat → Int) (L : Nat) (s : pS) : zEv := (7 * tnV T 0 8 (sgT T L (ad1 T L s)) + stpT T s.2.1, sgL T (ad1 T L s), (evD T L s).1, if twP T 17 (evD T L s).2 then 1 else 0)
def evN (T : Nat → Int) (L v : Nat) (s : pS) : pS := wX (twS T L 17 (evD T L s).2) (setAd s.2.2 0 v (evE T L s))
def evS (T : Nat → Int) (L v : Nat) (s : pS) : pS := if beP T s then (if stpT T s.2.1 < 0 then evR T L v s else evN T L v s) else flS s
def evL (T : Nat → Int) (L v : Nat) : Nat → pS → pS
  | 0, s => s
  | n + 1, s => if beP T s then evL T L v n (evS T L v s) else s
def esS (T : Nat → Int) (L v : Nat) (s : pS) : pS := evL T L v 23 (evS T L v s)
def h3S (T : Nat → Int) (L : Nat) (s : pS) : pS := wX (twS T L 1 s) (setV s.2.2 0 4 (if twP T 1 s then 1 else 0))
def h4S (T : Nat → Int) (L : Nat) (s : pS) : pS := if twP T 2 s then wX (tnS T L 1 4 (twS T L 2 s)) (setV s.2.2 0 6 (tnV T 1 4 (twS T L 2 s))) else s
def h5S (T : Nat → Int) (L : Nat) (s : pS) : pS := if twP T 3 s then wX (kyP T L (twS T L 3 s)).2 (setV s.2.2 0 0 (kyP T L (twS T L 3 s)).1) else s
def h6U (T : Nat → Int) (L : Nat) (s : pS) : pS := wX (tnS T L 1 12 (twS T L 8 s)) (setV s.2.2 0 1 (tnV T 1 12 (twS T L 8 s)))
def h6S (T : Nat → Int) (L : Nat) (s : pS) : pS := if twP T 8 s then wX (loP T L (h6U T L s)).2 (setV (h6U T L s).2.2 0 2 (loP T L (h6U T L s)).1) else s
def hdT (T : Nat → Int) (L : Nat) (s : pS) : pS := h6S T L (h5S T L (h4S T L (h3S T L (tnS T L 0 999 (ndS T L 0 s)))))
def v1S (T : Nat → Int) (L : Nat) (s : pS) : pS := esS T L (tnV T 1 2 (twS T L 9 s) - 1).toNat (tnS T L 1 2 (twS T L 9 s))
def v2S (T : Nat → Int) (L : Nat) (s : pS) : pS := esS T L (tnV T 2 2 (twS T L 9 s) - 1).toNat (tnS T L 2 2 (twS T L 9 s))
def voS (T : Nat → Int) (L : Nat) (s : pS) : pS := if twP T 9 s then (if tnV T 1 2 (twS T L 9 s) = 1 ∧ twP T 9 (v1S T L s) then v2S T L (v1S T L s) else v1S T L s) else s
def bkS (T : Nat → Int) (L : Nat) (s : pS) : pS := if twP T 18 s then wX (tnS T L 2 4 (twS T L 18 s)) (setV s.2.2 0 5 (tnV T 2 4 (twS T L 18 s))) else s
def enS (T : Nat → Int) (L : Nat) (s : pS) : pS := if (ndS T L 19 s).2.1.1 < (ndS T L 19 s).2.1.2 then flS (ndS T L 19 s) else ndS T L 19 s
def drJ : Nat → zSt
  | 0 => nwS (0, (fun _ _ => 0), (fun _ _ => 0), fun _ _ _ => (0, 0, 0, 0))
  | j + 1 => setV (drJ j) 0 j (-100)
def drS0 : zSt := drJ 4
def faS (T : Nat → Int) (L : Nat) : pS := enS T L (bkS T L (voS T L (hdT T L (-1000, adv T L 0, drS0))))
def okP (T : Nat → Int) (L : Nat) (s : pS) : Prop := tkP T L s.2.1 ∧ -1000 ≤ s.1 ∧ s.1 ≤ 600
/-- the class's draft -/
def DR (X : zSt) (c : Nat → Int32) : Prop := X.1 = 1 ∧ okC X ∧ RC X (iI 1) c
def C4 (s : pS) (r : Int32 × Int32 × Int32 × (Nat → Int32)) : Prop := r.1 = iI s.1 ∧ r.2.1 = iI s.2.1.1 ∧ r.2.2.1 = iI s.2.1.2 ∧ DR s.2.2 r.2.2.2
section ZNV
variable {N L t w v : Nat} {T : Nat → Int} {tb text cells : Nat → Int32} {a nb : Int32} {p : Nat × Nat} {s : pS} {lo hi : Int} {X : zSt}
theorem tkP_b (hT : okT T L) (h : tkP T L p) : p.1 ≤ 600 ∧ p.2 ≤ 600 ∧ p.1 ≤ p.2 ∧ p.2 ≤ L := by
  have := hT.1
  obtain ⟨h1, h2, -, -⟩ := h
  omega
theorem okP_ad (h : okP T L s) : okP T L (ad1 T L s) := ⟨adv_ok h.1.2.1, h.2⟩
theorem twS_pos (h : twP T w s) : twS T L w s = ad1 T L s := if_pos h
theorem twS_neg (h : ¬ twP T w s) : twS T L w s = s := if_neg h
theorem okP_tw (h : okP T L s) : okP T L (twS T L w s) := by
  unfold twS
  split
  · exact okP_ad h
  · exact h
theorem okP_fl (hT : okT T L) (h : okP T L s) : okP T L (flS s) := by
  have := tkP_b hT h.1
  unfold flS
  split
  · exact ⟨h.1, by dsimp only; omega, by dsimp only; omega⟩
  · exact h
theorem okP_nd (hT : okT T L) (h : okP T L s) : okP T L (ndS T L w s) := by
  unfold ndS
  split
  · exact okP_tw h
  · exact okP_fl hT h
theorem okP_tn (hT : okT T L) (h : okP T L s) : okP T L (tnS T L lo hi s) := by
  unfold tnS
  split
  · exact okP_ad h
  · exact okP_fl hT h
theorem okP_wX (h : okP T L s) : okP T L (wX s X) := h
theorem tnV_b (h : okP T L s) (h0 : 0 ≤ lo) : 0 ≤ tnV T lo hi s ∧ tnV T lo hi s ≤ 999 := by
  have := numT_b (T := T) s.2.1 h.1.1
  unfold tnV
  split
  · next q => have := q.2; omega
  · omega
theorem eqF (h : okP T L s) : (iI s.1 = -1000) = (s.1 = -1000) := by
  have := h.2
  rw [show (-1000 : Int32) = iI (-1000) from rfl, iI_eq (by omega) (by omega) (by omega) (by omega)]
theorem X3_fail (h : okP T L s) : f_X3_fail N (iI s.1) (iI s.2.1.1) = some (iI (flS s).1) := by
  unfold f_X3_fail flS
  by_cases q : s.1 = -1000
  · rw [if_pos (by rw [eqF h]; exact q), if_pos q]
  · rw [if_neg (by rw [eqF h]; exact q), if_neg q]
theorem flS_p (s : pS) : (flS s).2 = s.2 := by
  unfold flS
  split <;> rfl
theorem twS_1 (w : Nat) (s : pS) : (twS T L w s).1 = s.1 := by
  unfold twS
  split <;> rfl
theorem X3_takeWord (hT : okT T L) (hx : zTx L T (iI L) tb) (h : okP T L s) (hw : w < 20) (hN : 700 ≤ N) : f_X3_takeWord N (iI s.1) (iI s.2.1.1) (iI s.2.1.2) (iI L) tb w = some (iI (if twP T w s then 1 else 0), iI (twS T L w s).2.1.1, iI (twS T L w s).2.1.2) := by
  unfold f_X3_takeWord
  have ew := X3_isWord (N := N) hT hx h.1 hw hN
  by_cases q : twP T w s
  · rw [if_pos (by rw [eqF h]; exact q.1), z_be ew, if_pos q.2, if_neg (show ¬ iI 1 = 0 from ne10), z_sb, if_neg ne10, z_be (X3_advance hT hx h.1.2.1 hN), z_sb, z_be (show zNar .boolean 1 = some 1 from rfl), if_pos q, twS_pos q]
    rfl
  · have e : (if iI s.1 = -1000 then Option.bind (f_X3_isWord N (iI s.2.1.1) (iI s.2.1.2) (iI L) tb w) (fun (r5_ : Int32) => if r5_ = 0 then some 0 else some 1) else some (0 : Int32)) = some 0 := by
      by_cases q1 : s.1 = -1000
      · rw [if_pos (by rw [eqF h]; exact q1), z_be ew, if_neg (fun y => q ⟨q1, y⟩), if_pos (show iI 0 = 0 from rfl)]
      · rw [if_neg (by rw [eqF h]; exact q1)]
    rw [e, z_sb, if_pos rfl, z_sb, z_be (show zNar .boolean 0 = some 0 from rfl), if_neg q, twS_neg q]
    rfl
theorem X3_needWord (hT : okT T L) (hx : zTx L T (iI L) tb) (h : okP T L s) (hw : w < 20) (hN : 700 ≤ N) : f_X3_needWord N (iI s.1) (iI s.2.1.1) (iI s.2.1.2) (iI L) tb w = some (iI (ndS T L w s).1, iI (ndS T L w s).2.1.1, iI (ndS T L w s).2.1.2) := by
  unfold f_X3_needWord ndS
  rw [z_be (X3_takeWord hT hx h hw hN)]
  dsimp only
  by_cases q : twP T w s
  · rw [if_pos q, if_pos q, if_neg (show ¬ iI 1 = 0 from ne10), twS_1]
  · rw [if_neg q, if_neg q, if_pos (show iI 0 = 0 from rfl), twS_neg q, z_be (X3_fail h), flS_p]
theorem X3_takeNumber (hT : okT T L) (hx : zTx L T (iI L) tb) (h : okP T L s) (hlo : zInt lo) (hhi : zInt hi) (hN : 700 ≤ N) : f_X3_takeNumber N (iI s.1) (iI s.2.1.1) (iI s.2.1.2) (iI L) tb (iI lo) (iI hi) = some (iI (tnV T lo hi s), iI (tnS T L lo hi s).1, iI (tnS T L lo hi s).2.1.1, iI (tnS T L lo hi s).2.1.2) := by
  have hb := numT_b (T := T) s.2.1 h.1.1
  unfold zInt at hlo hhi
  unfold f_X3_takeNumber
  rw [z_be (X3_number hT hx h.1 hN)]
  have hj : ¬ tnP T lo hi s → f_X3_takeNumber_J25 N (iI s.1) (iI s.2.1.1) (iI s.2.1.2) = some (iI (tnV T lo hi s), iI (tnS T L lo hi s).1, iI (tnS T L lo hi s).2.1.1, iI (tnS T L lo hi s).2.1.2) := fun q => by
    unfold f_X3_takeNumber_J25 tnV tnS
    rw [z_be (X3_fail h), if_neg q, if_neg q, flS_p]
    rfl
  by_cases q1 : s.1 = -1000
  · rw [if_pos (by rw [eqF h]; exact q1)]
    by_cases q2 : numT T s.2.1 < lo
    · rw [if_pos (by rw [iI_lt (by omega) (by omega) (by omega) (by omega)]; exact q2)]
      exact hj (fun y => by have := y.2.1; omega)
    · rw [if_neg (by rw [iI_lt (by omega) (by omega) (by omega) (by omega)]; exact q2)]
      by_cases q3 : hi < numT T s.2.1
      · rw [if_pos (by rw [iI_lt (by omega) (by omega) (by omega) (by omega)]; exact q3)]
        exact hj (fun y => by have := y.2.2; omega)
      · have q : tnP T lo hi s := ⟨q1, by omega, by omega⟩
        rw [if_neg (by rw [iI_lt (by omega) (by omega) (by omega) (by omega)]; exact q3), z_be (X3_advance hT hx h.1.2.1 hN)]
        unfold tnV tnS
        rw [if_pos q, if_pos q]
  · rw [if_neg (by rw [eqF h]; exact q1)]
    exact hj (fun y => q1 y.1)
theorem okP_ky (hT : okT T L) (h : okP T L s) : okP T L (kyP T L s).2 ∧ -999 ≤ (kyP T L s).1 ∧ (kyP T L s).1 ≤ 999 := by
  have h1 := okP_tn (lo := 1) (hi := 7) hT h
  have hv := tnV_b (hi := 7) h (show (0 : Int) ≤ 1 by omega)
  unfold kyP
  split
  · exact ⟨okP_tw h, by dsimp only; omega, by dsimp only; omega⟩
  · split
    · exact ⟨okP_tw h1, by dsimp only; omega, by dsimp only; omega⟩
    · exact ⟨okP_nd hT h1, by dsimp only; omega, by dsimp only; omega⟩
theorem X3_readKey (hT : okT T L) (hx : zTx L T (iI L) tb) (h : okP T L s) (hN : 700 ≤ N) : f_X3_readKey N (iI s.1) (iI s.2.1.1) (iI s.2.1.2) (iI L) tb = some (iI (kyP T L s).1, iI (kyP T L s).2.1, iI (kyP T L s).2.2.1.1, iI (kyP T L s).2.2.1.2) := by
  have h1 := okP_tn (lo := 1) (hi := 7) hT h
  have et : f_X3_takeNumber N (iI s.1) (iI s.2.1.1) (iI s.2.1.2) (iI L) tb 1 7 = _ := X3_takeNumber (lo := 1) (hi := 7) hT hx h (by unfold zInt; omega) (by unfold zInt; omega) hN
  unfold f_X3_readKey kyP
  rw [z_be (X3_takeWord hT hx h (by omega) hN)]
  dsimp only
  by_cases q : twP T 4 s
  · rw [if_pos q, if_pos q, if_neg (show ¬ iI 1 = 0 from ne10), twS_1]
    rfl
  · rw [if_neg q, if_neg q, if_pos (show iI 0 = 0 from rfl), twS_neg q, z_be et]
    dsimp only
    rw [z_be (X3_takeWord hT hx h1 (by omega) hN)]
    dsimp only
    by_cases q2 : twP T 5 (tnS T L 1 7 s)
    · rw [if_pos q2, if_pos q2, if_neg (show ¬ iI 1 = 0 from ne10), twS_1]
    · rw [if_neg q2, if_neg q2, if_pos (show iI 0 = 0 from rfl), twS_neg q2, z_be (X3_needWord hT hx h1 (by omega) hN), iI_neg]
theorem okP_lo (hT : okT T L) (h : okP T L s) : okP T L (loS T s) := by
  unfold loS
  split
  · exact h
  · exact okP_fl hT h
theorem X3_readLower (hT : okT T L) (hx : zTx L T (iI L) tb) (h : okP T L s) (hN : 700 ≤ N) : f_X3_readLower N (iI s.1) (iI s.2.1.1) (iI s.2.1.2) (iI L) tb = some (iI (loP T L s).1, iI (loP T L s).2.1, iI (loP T L s).2.2.1.1, iI (loP T L s).2.2.1.2) := by
  have hb := numT_b (T := T) s.2.1 h.1.1
  have h1 := okP_lo hT h
  have et : f_X3_takeNumber N (iI (loS T s).1) (iI (loS T s).2.1.1) (iI (loS T s).2.1.2) (iI L) tb 2 16 = _ := X3_takeNumber (lo := 2) (hi := 16) hT hx h1 (by unfold zInt; omega) (by unfold zInt; omega) hN
  have ec : f_X4_canHold N 2 (iI (numT T s.2.1)) = some (iI (if chP 2 (numT T s.2.1) then 1 else 0)) := X4_canHold (w := 2) (by unfold zInt; omega) (by unfold zInt; omega)
  have e3 : (if iI (if chP 2 (numT T s.2.1) then 1 else 0) = 0 then Option.bind (f_X3_fail N (iI s.1) (iI s.2.1.1)) (fun (r5_ : Int32) => some r5_) else some (iI s.1)) = some (iI (loS T s).1) := by
    unfold loS
    by_cases q : chP 2 (numT T s.2.1)
    · rw [if_pos q, if_pos q, if_neg (show ¬ iI 1 = 0 from ne10)]
    · rw [if_neg q, if_neg q, if_pos (show iI 0 = 0 from rfl), z_be (X3_fail h)]
  have e4 : (loS T s).2 = s.2 := by
    unfold loS
    split
    · rfl
    · exact flS_p s
  unfold f_X3_readLower loP
  rw [e4] at et
  rw [z_be (X3_number hT hx h.1 hN), z_be ec, z_be e3, z_be et]
theorem okP_du (hT : okT T L) (h : okP T L s) : okP T L (duP T L s).2 ∧ 0 ≤ (duP T L s).1 ∧ (duP T L s).1 ≤ 9 := by
  have h1 := okP_tw (w := 11) h
  unfold duP
  split
  · refine ⟨okP_tw h1, ?_, ?_⟩
    · dsimp only; split <;> omega
    · dsimp only; split <;> omega
  · exact ⟨okP_fl hT h1, by dsimp only; omega, by dsimp only; omega⟩
theorem duL_eq {l : Nat} (hl : l < 5) (h1 : ∀ i, i < l → ¬ twP T (12 + i) s) (h2 : twP T (12 + l) s) : duL T s = l := by
  unfold duL
  rcases (show l = 0 ∨ l = 1 ∨ l = 2 ∨ l = 3 ∨ l = 4 by omega) with rfl | rfl | rfl | rfl | rfl
  · rw [if_pos h2]
  · rw [if_neg (h1 0 (by omega)), if_pos h2]
  · rw [if_neg (h1 0 (by omega)), if_neg (h1 1 (by omega)), if_pos h2]
  · rw [if_neg (h1 0 (by omega)), if_neg (h1 1 (by omega)), if_neg (h1 2 (by omega)), if_pos h2]
  · rw [if_neg (h1 0 (by omega)), if_neg (h1 1 (by omega)), if_neg (h1 2 (by omega)), if_neg (h1 3 (by omega)), if_pos h2]
theorem duL_5 (h1 : ∀ i, i < 5 → ¬ twP T (12 + i) s) : duL T s = 5 := by
  unfold duL
  rw [if_neg (h1 0 (by omega)), if_neg (h1 1 (by omega)), if_neg (h1 2 (by omega)), if_neg (h1 3 (by omega)), if_neg (h1 4 (by omega))]
theorem X8_ofLen {l : Nat} (hl : l < 5) : f_X8_ofLength N (iI l) = some (12 + l) := by
  rcases (show l = 0 ∨ l = 1 ∨ l = 2 ∨ l = 3 ∨ l = 4 by omega) with rfl | rfl | rfl | rfl | rfl <;> rfl
theorem X3_readDuration (hT : okT T L) (hx : zTx L T (iI L) tb) (h : okP T L s) (hN : 700 ≤ N) : f_X3_readDuration N (iI s.1) (iI s.2.1.1) (iI s.2.1.2) (iI L) tb = some (iI (duP T L s).1, iI (duP T L s).2.1, iI (duP T L s).2.2.1.1, iI (duP T L s).2.2.1.2) := by
  have h1 := okP_tw (w := 11) h
  have e1 := twS_1 (T := T) (L := L) 11 s
  have ed : (if iI (if twP T 11 s then 1 else 0) = 0 then some 0 else some (1 : Int32)) = some (iI (if twP T 11 s then 1 else 0)) := by
    by_cases q : twP T 11 s
    · rw [if_pos q, if_neg (show ¬ iI 1 = 0 from ne10)] <;> rfl
    · rw [if_neg q, if_pos (show iI 0 = 0 from rfl)] <;> rfl
  unfold f_X3_readDuration
  rw [z_be (X3_takeWord hT hx h (by omega) hN), z_be ed]
  dsimp only
  unfold duP
  rw [show iI s.1 = iI (twS T L 11 s).1 by rw [e1]]
  generalize twS T L 11 s = u at h1 ⊢
  refine z_eqT (zT_loop (fun n q => ∃ l : Nat, l ≤ 5 ∧ n = 5 - l ∧ q = (iI l, iI u.2.1.1, iI u.2.1.2) ∧ ∀ i, i < l → ¬ twP T (12 + i) u) ?_ N 5 _ (by omega) ⟨0, by omega, rfl, rfl, fun i hi => absurd hi (Nat.not_lt_zero i)⟩)
  rintro n q k ⟨l, hl, rfl, rfl, hm⟩ ih
  unfold f_X3_readDuration_B17
  dsimp only
  refine zT_ite (fun r => ?_) (fun r => ?_)
  · rw [iL5, iI_lt (by omega) (by omega) (by omega) (by omega)] at r
    have hl2 : l < 5 := by omega
    refine zT_bindE (X8_ofLen hl2) (zT_bindE (X3_takeWord hT hx h1 (by omega) hN) ?_)
    dsimp only
    by_cases q2 : twP T (12 + l) u
    · rw [if_pos q2, if_neg (show ¬ iI 1 = 0 from ne10), duL_eq hl2 hm q2, if_pos hl2, iL2, iI_mul, iI_add]
      refine zT_some ?_
      rw [twS_1]
    · rw [if_neg q2, if_pos (show iI 0 = 0 from rfl), twS_neg q2]
      refine zT_bindE rfl (ih (5 - (l + 1)) _ (by omega) ⟨l + 1, by omega, rfl, by rw [iIp1] <;> rfl, fun i hi => ?_⟩)
      by_cases e : i = l
      · rw [e]; exact q2
      · exact hm i (by omega)
  · rw [iL5, iI_lt (by omega) (by omega) (by omega) (by omega)] at r
    obtain rfl : l = 5 := by omega
    rw [duL_5 hm, if_neg (by omega)]
    refine zT_bindE (X3_fail h1) (zT_some ?_)
    rw [flS_p]
    rfl
theorem okP_sg (h : okP T L s) : okP T L (sgT T L s) := by
  unfold sgT
  split
  · exact h
  · exact okP_tw h
theorem sgL_b (T : Nat → Int) (s : pS) : sgL T s ≤ 3 := by
  unfold sgL
  split
  · omega
  · split
    · omega
    · split <;> omega
theorem sgL_eq {l : Nat} (hl : 1 ≤ l ∧ l ≤ 3) (h1 : ∀ i, 1 ≤ i → i < l → ¬ twP T (4 + i) s) (h2 : twP T (4 + l) s) : sgL T s = l := by
  unfold sgL
  rcases (show l = 1 ∨ l = 2 ∨ l = 3 by omega) with rfl | rfl | rfl
  · rw [if_pos h2]
  · rw [if_neg (h1 1 (by omega) (by omega)), if_pos h2]
  · rw [if_neg (h1 1 (by omega) (by omega)), if_neg (h1 2 (by omega) (by omega)), if_pos h2]
theorem sgL_0 (h1 : ∀ i, 1 ≤ i → i < 4 → ¬ twP T (4 + i) s) : sgL T s = 0 := by
  unfold sgL
  rw [if_neg (h1 1 (by omega) (by omega)), if_neg (h1 2 (by omega) (by omega)), if_neg (h1 3 (by omega) (by omega))]
theorem X8_ofSg {l : Nat} (hl : 1 ≤ l ∧ l ≤ 3) : f_X8_ofSign N (iI l) = some (4 + l) := by
  rcases (show l = 1 ∨ l = 2 ∨ l = 3 by omega) with rfl | rfl | rfl <;> rfl
theorem X3_readSign (hT : okT T L) (hx : zTx L T (iI L) tb) (h : okP T L s) (hN : 700 ≤ N) : f_X3_readSign N (iI s.1) (iI s.2.1.1) (iI s.2.1.2) (iI L) tb = some (iI (sgL T s), iI (sgT T L s).2.1.1, iI (sgT T L s).2.1.2) := by
  unfold f_X3_readSign
  refine z_eqT (zT_loop (fun n q => ∃ l : Nat, 1 ≤ l ∧ l ≤ 4 ∧ n = 4 - l ∧ q = (iI l, iI s.2.1.1, iI s.2.1.2) ∧ ∀ i, 1 ≤ i → i < l → ¬ twP T (4 + i) s) ?_ N 3 _ (by omega) ⟨1, by omega, by omega, rfl, rfl, fun i hi hi2 => by omega⟩)
  rintro n q k ⟨l, hl0, hl, rfl, rfl, hm⟩ ih
  unfold f_X3_readSign_B2
  dsimp only
  refine zT_ite (fun r => ?_) (fun r => ?_)
  · rw [iL3, iI_lt (by omega) (by omega) (by omega) (by omega)] at r
    obtain rfl : l = 4 := by omega
    refine zT_some ?_
    unfold sgT
    rw [sgL_0 hm, if_pos rfl]
    rfl
  · rw [iL3, iI_lt (by omega) (by omega) (by omega) (by omega)] at r
    have hl2 : 1 ≤ l ∧ l ≤ 3 := by omega
    refine zT_bindE (X8_ofSg hl2) (zT_bindE (X3_takeWord hT hx h (by omega) hN) ?_)
    dsimp only
    by_cases q2 : twP T (4 + l) s
    · rw [if_pos q2, if_neg (show ¬ iI 1 = 0 from ne10)]
      refine zT_some ?_
      unfold sgT
      rw [sgL_eq hl2 hm q2, if_neg (by omega)]
    · rw [if_neg q2, if_pos (show iI 0 = 0 from rfl), twS_neg q2]
      refine zT_bindE rfl (ih (4 - (l + 1)) _ (by omega) ⟨l + 1, by omega, by omega, rfl, by rw [iIp1] <;> rfl, fun i hi0 hi => ?_⟩)
      by_cases e : i = l
      · rw [e]; exact q2
      · exact hm i hi0 (by omega)
theorem X3_beginsEvent (hT : okT T L) (hx : zTx L T (iI L) tb) (h : okP T L s) (hN : 700 ≤ N) : f_X3_beginsEvent N (iI s.1) (iI s.2.1.1) (iI s.2.1.2) (iI L) tb = some (iI (if beP T s then 1 else 0)) := by
  have hb := stpT_b (T := T) s.2.1
  unfold f_X3_beginsEvent
  by_cases q1 : s.1 = -1000
  · rw [if_pos (by rw [eqF h]; exact q1), z_be (X3_step hT hx h.1)]
    by_cases q2 : stpT T s.2.1 < 0
    · rw [if_pos (by rw [iL0, iI_lt (by omega) (by omega) (by omega) (by omega)]; exact q2), z_be (X3_isWord hT hx h.1 (by omega) hN)]
      by_cases q3 : isW T s.2.1 10
      · rw [if_pos q3, if_neg (show ¬ iI 1 = 0 from ne10), if_pos ⟨q1, Or.inr q3⟩] <;> rfl
      · rw [if_neg q3, if_pos (show iI 0 = 0 from rfl), if_neg (fun y => y.2.elim (fun z => by omega) q3)] <;> rfl
    · rw [if_neg (by rw [iL0, iI_lt (by omega) (by omega) (by omega) (by omega)]; exact q2), if_pos ⟨q1, Or.inl (by omega)⟩] <;> rfl
  · rw [if_neg (by rw [eqF h]; exact q1), if_neg (fun y => q1 y.1)] <;> rfl
end ZNV
