section ZMR
variable {N : Nat} {S : zSt} {st cells shifts held tb text : Nat → Int32} {size code pn : Int32} {m v e k i j L : Nat} {T : Nat → Int} {K : zKT} {M : zMT}
theorem narB : ∀ n : Nat, n < 128 → vp_nar .byte ((Int32.ofNat n).toInt8.toInt32) = Int32.ofNat n := by decide +kernel
theorem C_type {a : Int} (ha : zInt a) (hL : L ≤ 600) : f_X9_type N (iI L) tb (iI a) = if 0 ≤ a ∧ a ≤ 127 then (if L < 600 then some (.inl (iI ((L + 1 : Nat) : Int), iI ((L + 1 : Nat) : Int), upd tb L (iI a))) else some (.inr 2)) else some (.inr 1) := by
  have hl : (iI (L : Int) < 600) = ((L : Int) < 600) := iI_lt (b := 600) (by omega) (by omega) (by omega) (by omega)
  unfold f_X9_type
  have hr : f_X9_requireRange N (iI a) 0 127 = if 0 ≤ a ∧ a ≤ 127 then some (.inl ()) else some (.inr 1) := C_rqR (a := 0) (b := 127) ha (by unfold zInt; omega) (by unfold zInt; omega)
  rw [zSub_rq hr]
  by_cases q : 0 ≤ a ∧ a ≤ 127
  · rw [if_pos q, if_pos q, z_be (show f_X7_length N (iI L) = some (iI L) from rfl)]
    by_cases q2 : L < 600
    · obtain ⟨n, rfl⟩ := Int.eq_ofNat_of_zero_le q.1
      rw [if_pos (by rw [hl]; omega), if_pos q2]
      unfold f_X7_append
      rw [if_pos (by rw [hl]; omega), zBstI (by omega) (by omega) (by omega), Int.toNat_natCast, ← iI_ofNat n, narB n (by omega), z_sb, z_sb, iIp1]
      rfl
    · rw [if_neg (by rw [hl]; omega), if_neg q2]
  · rw [if_neg q, if_neg q]
theorem M_type {a : Int} (ha : zInt a) (hL : L ≤ 600) : f_X10_type N code (iI L) text (iI a) = if 0 ≤ a ∧ a ≤ 127 then (if L < 600 then some (iI ((L + 1 : Nat) : Int), 0, iI ((L + 1 : Nat) : Int), upd text L (iI a)) else some (0, 2, iI L, text)) else some (0, 1, iI L, text) := by
  have hi := X10_in (N := N) (a := 0) (b := 127) ha (by unfold zInt; omega) (by unfold zInt; omega)
  have hl : (iI (L : Int) = 600) = ((L : Int) = 600) := iI_eq (b := 600) (by omega) (by omega) (by omega) (by omega)
  unfold f_X10_type
  by_cases q : 0 ≤ a ∧ a ≤ 127
  · have e2 : f_X10_in N (iI a) 0 127 = some 1 := z_p1 q hi
    rw [if_pos q, z_be e2, if_neg ne10]
    by_cases q2 : L < 600
    · rw [if_pos q2, if_neg (by rw [hl]; omega), z_sb, z_be (X10_ref0 code), if_pos (f00 0), zAstI (by omega) (by omega) (by omega), Int.toNat_natCast, z_sb, z_sb, iIp1]
      rfl
    · rw [if_neg q2, if_pos (by rw [hl]; omega), z_sb, z_be (X10_ref2 code), if_neg (f10 2)]
  · have e2 : f_X10_in N (iI a) 0 127 = some 0 := z_p0 q hi
    rw [if_neg q, z_be e2, if_pos z00, z_sb, z_be (X10_ref1 code), if_neg (f10 1)]
theorem C_cut {a : Int} (ha : zInt a) (hL : L ≤ 600) : f_X9_cut N (iI L) (iI a) = if 1 ≤ a ∧ a ≤ 600 then (if (L : Int) < a then some (.inr 2) else some (.inl (iI ((L - a.toNat : Nat) : Int), iI ((L - a.toNat : Nat) : Int)))) else some (.inr 1) := by
  unfold f_X9_cut
  have hr : f_X9_requireRange N (iI a) 1 600 = if 1 ≤ a ∧ a ≤ 600 then some (.inl ()) else some (.inr 1) := C_rqR (a := 1) (b := 600) ha (by unfold zInt; omega) (by unfold zInt; omega)
  rw [zSub_rq hr]
  by_cases q : 1 ≤ a ∧ a ≤ 600
  · rw [if_pos q, if_pos q, z_be (show f_X7_length N (iI L) = some (iI L) from rfl), ifI (by omega) (by omega) (by omega) (by omega)]
    by_cases q2 : (L : Int) < a
    · rw [if_pos q2, if_pos q2]
    · rw [if_neg q2, if_neg q2]
      unfold f_X7_shorten
      rw [iI_sub, iL0, zMaxI (by omega) (by omega) (by omega) (by omega), if_neg (by omega), show (L : Int) - a = ((L - a.toNat : Nat) : Int) by omega]
      rfl
  · rw [if_neg q, if_neg q]
theorem M_cut {a : Int} (ha : zInt a) (hL : L ≤ 600) : f_X10_cut N code (iI L) (iI a) = if 1 ≤ a ∧ a ≤ 600 then (if (L : Int) < a then some (0, 2, iI L) else some (iI ((L - a.toNat : Nat) : Int), 0, iI ((L - a.toNat : Nat) : Int))) else some (0, 1, iI L) := by
  have hi := X10_in (N := N) (a := 1) (b := 600) ha (by unfold zInt; omega) (by unfold zInt; omega)
  unfold f_X10_cut
  by_cases q : 1 ≤ a ∧ a ≤ 600
  · have e2 : f_X10_in N (iI a) 1 600 = some 1 := z_p1 q hi
    rw [if_pos q, z_be e2, if_neg ne10, ifI (by omega) (by omega) (by omega) (by omega)]
    by_cases q2 : (L : Int) < a
    · rw [if_pos q2, if_pos q2, z_sb, z_be (X10_ref2 code), if_neg (f10 2)]
    · rw [if_neg q2, if_neg q2, z_sb, z_be (X10_ref0 code), if_pos (f00 0), z_sb, iI_sub, show (L : Int) - a = ((L - a.toNat : Nat) : Int) by omega]
  · have e2 : f_X10_in N (iI a) 1 600 = some 0 := z_p0 q hi
    rw [if_neg q, z_be e2, if_pos z00, z_sb, z_be (X10_ref1 code), if_neg (f10 1)]
theorem zTx_add {f : Nat → Int32} {n : Int32} (h : zTx L T n f) (a : Int) : zTx (L + 1) (fun i => if i = L then a else T i) (iI ((L + 1 : Nat) : Int)) (upd f L (iI a)) := by
  refine ⟨rfl, fun i hi => ?_⟩
  rw [upd_at]
  dsimp only
  by_cases q : i = L
  · rw [if_pos q, if_pos q]
  · rw [if_neg q, if_neg q]
    exact h.2 i (by omega)
theorem zTx_less {f : Nat → Int32} {n : Int32} (h : zTx L T n f) {l : Nat} (hl : l ≤ L) : zTx l T (iI l) f := ⟨rfl, fun i hi => h.2 i (by omega)⟩
theorem zk_type (hZ : zZ K M) (y1 : Int32) : zS_type N zZ K M y1 := by
  obtain ⟨S, hs, nx, L, T, h0, hk, hO, hC, hT, hH, hF, hX, hP, hS, hR⟩ := hZ
  obtain ⟨a1, rfl, hz1⟩ := iI_all y1
  obtain ⟨u1, u2, u3, u4, u5, u6⟩ := h0
  have h0 : zQ0 S hs nx L T := ⟨u1, u2, u3, u4, u5, u6⟩
  unfold zS_type
  rw [hT.1, hX.1, C_type hz1 u5, M_type hz1 u5]
  by_cases q : 0 ≤ a1 ∧ a1 ≤ 127
  · rw [if_pos q, if_pos q]
    by_cases q2 : L < 600
    · rw [if_pos q2, if_pos q2]
      refine ⟨_, rfl, Or.inl ⟨_, rfl, rfl, rfl, ⟨S, hs, nx, L + 1, (fun i => if i = L then a1 else T i), ⟨u1, u2, u3, u4, by omega, fun i hi => ?_⟩, hk, hO, hC, zTx_add hT a1, hH, hF, zTx_add hX a1, hP, hS, hR⟩⟩⟩
      dsimp only
      split
      · exact q
      · exact u6 i (by omega)
    · rw [if_neg q2, if_neg q2]
      exact ⟨_, rfl, Or.inr (Or.inr ⟨rfl, rfl, ⟨S, hs, nx, L, T, h0, hk, hO, hC, hT, hH, hF, ⟨rfl, hX.2⟩, hP, hS, hR⟩⟩)⟩
  · rw [if_neg q, if_neg q]
    exact ⟨_, rfl, Or.inr (Or.inl ⟨rfl, rfl, ⟨S, hs, nx, L, T, h0, hk, hO, hC, hT, hH, hF, ⟨rfl, hX.2⟩, hP, hS, hR⟩⟩)⟩
theorem zk_cut (hZ : zZ K M) (y1 : Int32) : zS_cut N zZ K M y1 := by
  obtain ⟨S, hs, nx, L, T, h0, hk, hO, hC, hT, hH, hF, hX, hP, hS, hR⟩ := hZ
  obtain ⟨a1, rfl, hz1⟩ := iI_all y1
  obtain ⟨u1, u2, u3, u4, u5, u6⟩ := h0
  have h0 : zQ0 S hs nx L T := ⟨u1, u2, u3, u4, u5, u6⟩
  unfold zS_cut
  rw [hT.1, hX.1, C_cut hz1 u5, M_cut hz1 u5]
  by_cases q : 1 ≤ a1 ∧ a1 ≤ 600
  · rw [if_pos q, if_pos q]
    by_cases q2 : (L : Int) < a1
    · rw [if_pos q2, if_pos q2]
      exact ⟨_, rfl, Or.inr (Or.inr ⟨rfl, rfl, ⟨S, hs, nx, L, T, h0, hk, hO, hC, hT, hH, hF, ⟨rfl, hX.2⟩, hP, hS, hR⟩⟩)⟩
    · rw [if_neg q2, if_neg q2]
      exact ⟨_, rfl, Or.inl ⟨_, rfl, rfl, rfl, ⟨S, hs, nx, L - a1.toNat, T, ⟨u1, u2, u3, u4, by omega, fun i hi => u6 i (by omega)⟩, hk, hO, hC, zTx_less hT (by omega), hH, hF, zTx_less hX (by omega), hP, hS, hR⟩⟩⟩
  · rw [if_neg q, if_neg q]
    exact ⟨_, rfl, Or.inr (Or.inl ⟨rfl, rfl, ⟨S, hs, nx, L, T, h0, hk, hO, hC, hT, hH, hF, ⟨rfl, hX.2⟩, hP, hS, hR⟩⟩)⟩
theorem zk_clearText (hZ : zZ K M) : zS_clearText N zZ K M := by
  obtain ⟨S, hs, nx, L, T, h0, hk, hO, hC, hT, hH, hF, hX, hP, hS, hR⟩ := hZ
  obtain ⟨u1, u2, u3, u4, u5, u6⟩ := h0
  unfold zS_clearText
  rw [hT.1, hX.1]
  have e1 : f_X9_clearText N (iI L) = some (iI L, iI ((0 : Nat) : Int)) := by
    unfold f_X9_clearText f_X7_shorten
    rw [z_be (show f_X7_length N (iI L) = some (iI L) from rfl), iI_sub, iL0, zMaxI (by omega) (by omega) (by omega) (by omega), if_neg (by omega), show (L : Int) - L = ((0 : Nat) : Int) by omega]
    rfl
  rw [e1]
  exact ⟨_, _, rfl, rfl, rfl, ⟨S, hs, nx, 0, T, ⟨u1, u2, u3, u4, by omega, fun i hi => by omega⟩, hk, hO, hC, zTx_less hT (by omega), hH, hF, zTx_less hX (by omega), hP, hS, hR⟩⟩
theorem zZ_start : zZ zK0 zM0 := by
  have h0 : okS (0, (fun _ _ => 0), (fun _ _ => 0), fun _ _ _ => (0, 0, 0, 0)) := ⟨⟨Nat.zero_le _, fun m hm => absurd hm (Nat.not_lt_zero m)⟩, fun m hm => absurd hm (Nat.not_lt_zero m)⟩
  have he : oEnd (0, (fun _ _ => 0), (fun _ _ => 0), fun _ _ _ => (0, 0, 0, 0)) = (0, 1, 0, false, 0, fun _ => 0) := oRun_end (fun x => absurd x.1 (Nat.not_lt_zero _)) _
  refine ⟨(0, (fun _ _ => 0), (fun _ _ => 0), fun _ _ _ => (0, 0, 0, 0)), [], 0, 0, fun _ => 0, ⟨h0, by decide, fun X hX => (by cases hX), by decide, by decide, fun i hi => absurd hi (Nat.not_lt_zero i)⟩, ⟨rfl, rfl, fun i X hX => (by cases hX)⟩, ?_, ⟨rfl, fun m hm => absurd hm (Nat.not_lt_zero m)⟩, ⟨rfl, fun i hi => absurd hi (Nat.not_lt_zero i)⟩, fun m v e hm => absurd hm (Nat.not_lt_zero m), fun m v e hm => absurd hm (Nat.not_lt_zero m), ⟨rfl, fun i hi => absurd hi (Nat.not_lt_zero i)⟩, ⟨rfl, fun i X hX => (by cases hX)⟩, rfl, ⟨rfl, fun m hm => absurd hm (Nat.not_lt_zero m)⟩⟩
  unfold oF
  rw [he]
  exact ⟨rfl, fun i hi => absurd hi (Nat.not_lt_zero i)⟩
end ZMR
