section ZNC
variable {N : Nat} {S X : zSt} {st cells shifts held past pf : Nat → Int32} {size code pn : Int32} {m v e k i j nx : Nat} {hs : List zSt}
theorem C_rqRoom (h : okC S) (hR : RC S (iI S.1) cells) {a b : Int} (ha : zInt a) (hb : zInt b) : f_X9_requireRoom N (iI S.1) cells (iI a) (iI b) = if gC S a b < 24 then some (.inl ()) else some (.inr 2) := by
  have hg := gC_b h a b
  have hl : (iI (gC S a b) < 24) = (gC S a b < 24) := iI_lt (b := 24) (by omega) (by omega) (by omega) (by omega)
  unfold f_X9_requireRoom
  rw [z_be (X4_count h hR ha hb)]
  by_cases q : gC S a b < 24
  · rw [if_pos q, if_pos (by rw [hl]; exact q)]
  · rw [if_neg q, if_neg (by rw [hl]; exact q)]
theorem X10_full (h : okC S) (hR : RM S st) (hm : m < S.1) (hv : v < 2) : f_X10_full N st (iI m) (iI v) = some (if S.2.2.1 m v < 24 then 0 else 3) := by
  have hC := okC_C h hm hv
  unfold f_X10_full
  rw [iL7, iI_add, z_be (X10_of_C h hR hm hv rfl)]
  by_cases q : S.2.2.1 m v < 24
  · rw [if_pos q, if_neg (by rw [iL24, iI_eq (by omega) (by omega) (by omega) (by omega)]; omega)]
  · rw [if_neg q, if_pos (by rw [show S.2.2.1 m v = 24 by omega]; rfl)]
theorem X10_comes (hS : okS S) (hR : RM S st) (hok : ∀ Y, Y ∈ hs → okS Y) (hl : hs.length ≤ 4) (hP : zPa hs past) (hm : m < S.1) (hv : v < 2) (hC : S.2.2.1 m v < 24) (p s d t : Int) (hx : okE (p, s, d, t)) (hN : 12000 ≤ N) : zT (f_X10_comes N (iI hs.length) past st (iI m) (iI v) (iI p) (iI s) (iI d) (iI t)) (fun r => r.1 = iI ((S.2.2.1 m v + 1 : Nat) : Int) ∧ r.2.1 = iI ((S :: hs).take 4).length ∧ zPa ((S :: hs).take 4) r.2.2.1 ∧ r.2.2.2 = adM S m v (p, s, d, t) st) := by
  have h1 := hS.1.1
  have sa : ∀ (c : Nat), c < 4 → ∀ (f : Nat → Int32) (y : Int32), zAst f 3217 (iI (zCl m v (S.2.2.1 m v)) + iI c) y = some (upd f (201 * m + 10 + 96 * v + 4 * S.2.2.1 m v + c) y) := by
    intro c hc f y
    unfold zCl
    rw [iI_add, zAstI (by omega) (by omega) (by omega)]
    congr 2
  have s0 : ∀ (f : Nat → Int32) (y : Int32), zAst f 3217 (iI (zCl m v (S.2.2.1 m v)) + 0) y = some (upd f (201 * m + 10 + 96 * v + 4 * S.2.2.1 m v) y) := sa 0 (by omega)
  have s1 : ∀ (f : Nat → Int32) (y : Int32), zAst f 3217 (iI (zCl m v (S.2.2.1 m v)) + 1) y = _ := sa 1 (by omega)
  have s2 : ∀ (f : Nat → Int32) (y : Int32), zAst f 3217 (iI (zCl m v (S.2.2.1 m v)) + 2) y = _ := sa 2 (by omega)
  have s3 : ∀ (f : Nat → Int32) (y : Int32), zAst f 3217 (iI (zCl m v (S.2.2.1 m v)) + 3) y = _ := sa 3 (by omega)
  have eb : ((1 + 201 * iI (m : Int)) + 7) + iI (v : Int) = iI ((201 * m + 8 + v : Nat) : Int) := by
    rw [iL201, iL1, iL7, iI_mul, iI_add, iI_add, iI_add]
    congr 1
    omega
  unfold f_X10_comes
  refine zT_bind (zT_mono (X10_saves hS hR hok hl hP hN) ?_)
  rintro ⟨r1, r2⟩ ⟨p1, p2⟩
  dsimp only at p1 p2
  have hRA := RM_setAd (x := (p, s, d, t)) hS.1 hR hm hv hC
  have eo := X10_of_C (N := N) hS.1 hR hm hv rfl
  refine zT_bindE (a := iI (S.2.2.1 m v)) (by rw [iL7, iI_add]; exact eo) (zT_bindE X10_cell (zT_bindE (s0 _ _) (zT_bindE (s1 _ _) (zT_bindE (s2 _ _) (zT_bindE (s3 _ _) (zT_bindE (show f_X10_base N (iI m) = some (1 + 201 * iI m) from rfl) (zT_bindE rfl ?_)))))))
  rw [eb]
  have f0 : ∀ c, c < 4 → 201 * m + 8 + v ≠ 201 * m + 10 + 96 * v + 4 * S.2.2.1 m v + c := fun c hc => by omega
  have g0 : 201 * m + 8 + v ≠ 201 * m + 10 + 96 * v + 4 * S.2.2.1 m v := by omega
  rw [zAldI (by omega) (by omega) (by omega), Int.toNat_natCast, upd_ne _ _ (f0 3 (by omega)), upd_ne _ _ (f0 2 (by omega)), upd_ne _ _ (f0 1 (by omega)), upd_ne _ _ g0, ((hR.2 m hm).2 v hv).1]
  refine zT_bindE rfl ?_
  rw [zAstI (by omega) (by omega) (by omega), Int.toNat_natCast, iIp1]
  refine zT_bindE rfl (zT_bindE (a := iI ((S.2.2.1 m v + 1 : Nat) : Int)) ?_ (zT_some ⟨rfl, p1, p2, rfl⟩))
  have := X10_of_C (N := N) (S := setAd S m v (p, s, d, t)) (okS_setAd hS hm hv hC hx).1 hRA hm hv rfl
  rw [setAd_C] at this
  rw [iL7, iI_add]
  exact this
end ZNC
