/-! ===== values of a measure in the reference; the event at a tick ===== -/
section ZM5
variable {N : Nat} {S : zSt} {st cells : Nat → Int32} {size code : Int32} {m v e k : Nat}
theorem ne10 : ¬ (1 : Int32) = 0 := by decide
theorem z_p1 {P : Prop} [Decidable P] (h : P) {o : Option Int32} (e : o = some (iI (if P then 1 else 0))) : o = some 1 := by rw [e, if_pos h]; rfl
theorem z_p0 {P : Prop} [Decidable P] (h : ¬ P) {o : Option Int32} (e : o = some (iI (if P then 1 else 0))) : o = some 0 := by rw [e, if_neg h]; rfl
theorem f00 (x : Int32) : ((0, x) : Int32 × Int32).1 = 0 := rfl
theorem f10 (x : Int32) : ¬ ((1, x) : Int32 × Int32).1 = 0 := ne10
theorem z00 : (0 : Int32) = 0 := rfl
/-- the event of a voice that lasts at a tick: the first e with tick < ticks to e + 1 -/
def evAt (S : zSt) (m v : Nat) (t : Int) : Nat → Nat → Int
  | 0, _ => -1000
  | n + 1, e => if t < gT S m v (e + 1) then e else evAt S m v t n (e + 1)
theorem C_eventAt (h : okC S) (hR : RC S (iI S.1) cells) {a b t : Int} (ha : zInt a) (hb : zInt b) (ht : zInt t) (hN : 30 ≤ N) : f_X9_eventAt N (iI S.1) cells (iI a) (iI b) (iI t) = if 0 ≤ a ∧ a < S.1 ∧ 0 ≤ b ∧ b < 2 then (if 0 ≤ t then some (.inl (iI (evAt S a.toNat b.toNat t (S.2.2.1 a.toNat b.toNat) 0))) else some (.inr 1)) else some (.inr 0) := by
  have h1 := h.1
  unfold f_X9_eventAt
  rw [zSub_rq (C_rqV h ha hb), zSub_rq (C_rqN ht)]
  by_cases q : 0 ≤ a ∧ a < S.1 ∧ 0 ≤ b ∧ b < 2
  · rw [if_pos q, if_pos q]
    by_cases q2 : 0 ≤ t
    · rw [if_pos q2, if_pos q2]
      obtain ⟨m, rfl⟩ := Int.eq_ofNat_of_zero_le q.1
      obtain ⟨v, rfl⟩ := Int.eq_ofNat_of_zero_le q.2.2.1
      have hm : m < S.1 := by omega
      have hv : v < 2 := by omega
      have hC := okC_C h hm hv
      simp only [Int.toNat_natCast]
      unfold zInt at ht
      refine z_eqT (zT_loop (fun n s => ∃ j : Nat, j ≤ S.2.2.1 m v ∧ n = S.2.2.1 m v - j ∧ s = (iI (gT S m v j), iI j) ∧ evAt S m v t (S.2.2.1 m v) 0 = evAt S m v t (S.2.2.1 m v - j) j) ?_ N (S.2.2.1 m v) (0, 0) (by omega) ⟨0, by omega, rfl, rfl, rfl⟩)
      rintro n s k ⟨j, hj, rfl, rfl, hE⟩ ih
      unfold f_X9_eventAt_B16
      dsimp only
      refine zT_bindE (X4_count h hR (zIn_ m (by omega)) (zIn_ v (by omega))) ?_
      rw [gC_at hm hv]
      refine zT_ite (fun q => ?_) (fun q => ?_)
      · rw [iI_lt (by omega) (by omega) (by omega) (by omega)] at q
        have hb := okE_b (okC_ev h hm hv (show j < S.2.2.1 m v by omega))
        have hT := gT_b h hm hv (j + 1) (by omega)
        refine zT_bindE (X4_code h hR (zIn_ m (by omega)) (zIn_ v (by omega)) (zIn_ j (by omega))) (zT_bindE (X0_ticksOf _ (gE_ok h _ _ _)) (zT_bindE rfl ?_))
        rw [gE_at hm hv (by omega), iI_add, show gT S m v j + tk (oD (some (S.2.2.2 m v j))) = gT S m v (j + 1) from rfl]
        rw [show S.2.2.1 m v - j = (S.2.2.1 m v - (j + 1)) + 1 by omega] at hE
        refine zT_ite (fun q3 => ?_) (fun q3 => ?_)
        · rw [iI_lt (by omega) (by omega) (by omega) (by omega)] at q3
          refine zT_some ?_
          rw [hE, evAt, if_pos q3]
        · rw [iI_lt (by omega) (by omega) (by omega) (by omega)] at q3
          rw [evAt, if_neg q3] at hE
          refine zT_bindE rfl (ih (S.2.2.1 m v - (j + 1)) _ (by omega) ⟨j + 1, by omega, rfl, by rw [iL1, iI_add]; rfl, hE⟩)
      · rw [iI_lt (by omega) (by omega) (by omega) (by omega)] at q
        rw [show S.2.2.1 m v - j = 0 by omega] at hE
        exact zT_some (by rw [hE]; rfl)
    · rw [if_neg q2, if_neg q2]
  · rw [if_neg q, if_neg q]
end ZM5
