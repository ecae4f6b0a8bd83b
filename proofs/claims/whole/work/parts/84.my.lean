section ZMZ
variable {N : Nat} {S X : zSt} {hs : List zSt} {K : zKT} {M : zMT}
theorem take4_le : ((S :: hs).take 4).length ≤ 4 := by
  rw [List.length_take]
  omega
theorem take4_ok (h : okS S) (hok : ∀ Y, Y ∈ hs → okS Y) : ∀ Y, Y ∈ (S :: hs).take 4 → okS Y := by
  intro Y hY
  rcases List.mem_cons.mp (List.mem_of_mem_take hY) with rfl | hY
  · exact h
  · exact hok Y hY
theorem zk_set (hN : 20000 ≤ N) (hZ : zZ K M) (y1 : Int32) (y2 : Int32) (y3 : Int32) : zS_set N zZ K M y1 y2 y3 := by
  obtain ⟨S, hs, nx, L, T, h0, hk, hO, hC, hT, hH, hF, hX, hP, hS, hR⟩ := hZ
  obtain ⟨a1, rfl, hz1⟩ := iI_all y1
  obtain ⟨a2, rfl, hz2⟩ := iI_all y2
  obtain ⟨a3, rfl, hz3⟩ := iI_all y3
  obtain ⟨u1, u2, u3, u4, u5, u6⟩ := h0
  have e6 := hC.1
  rw [e6] at hC
  unfold zS_set
  rw [hk.1, hk.2.1, hP.1, e6]
  obtain ⟨b, hb, hq⟩ := M_set (N := N) (code := M.1) u1 hR u3 u2 hP.2 hz1 hz2 hz3 (by omega)
  refine ⟨b, hb, ?_⟩
  by_cases q : 0 ≤ a1 ∧ a1 < S.1
  · rw [if_pos q] at hq
    by_cases q2 : chP a2 a3
    · rw [if_pos q2] at hq
      obtain ⟨p1, p2, p3, p4, p5⟩ := hq
      obtain ⟨s, hs1, a, rfl, g0, g1, g2, g3, g4, g5, g6, g7⟩ := C_set (N := N) (pn := K.2.2.1) (pf := K.2.2.2.2.2.2.2.2.2.2.2.2.2.2.1) (held := K.2.2.2.2.2.2.2.2.2.2.2.2.2.2.2.2.2.2.1) (shifts := K.2.2.2.2.2.2.2.2.2.2.2.2.2.2.2.2.2.2.2.1) (n0 := K.2.2.2.2.2.2.2.2.2.2.1) (n1 := K.2.2.2.2.2.2.2.2.2.2.2.1) (n2 := K.2.2.2.2.2.2.2.2.2.2.2.2.1) (n3 := K.2.2.2.2.2.2.2.2.2.2.2.2.2.1) (c0 := K.2.2.2.2.2.2.2.2.2.2.2.2.2.2.2.2.2.2.2.2.2.1) (c1 := K.2.2.2.2.2.2.2.2.2.2.2.2.2.2.2.2.2.2.2.2.2.2.1) (c2 := K.2.2.2.2.2.2.2.2.2.2.2.2.2.2.2.2.2.2.2.2.2.2.2.1) (c3 := K.2.2.2.2.2.2.2.2.2.2.2.2.2.2.2.2.2.2.2.2.2.2.2.2.1) u1 hC u4 u2 hk.2.2 q q2 hz2 hz3 (by omega)
      have hok' : okS (setV S a1.toNat a2.toNat a3) := okS_setVg u1 (by omega) (by rw [Int.toNat_of_nonneg (show 0 ≤ a2 by omega)]; exact q2)
      exact Or.inl ⟨a, hs1, p2, g0.trans p1.symm, ⟨_, (S :: hs).take 4, (nx + 1) % 4, L, T, ⟨hok', take4_le, take4_ok u1 u3, by omega, u5, u6⟩, ⟨g1, g2, g3⟩, g4, g5, hT, g6, g7, hX, ⟨p3, p4⟩, hS, p5⟩⟩
    · rw [if_neg q2] at hq
      subst hq
      refine Or.inr (Or.inr ⟨?_, rfl, ⟨S, hs, nx, L, T, ⟨u1, u2, u3, u4, u5, u6⟩, hk, hO, ⟨e6, hC.2⟩, hT, hH, hF, hX, ⟨rfl, hP.2⟩, hS, hR⟩⟩)
      unfold f_X9_set
      rw [zSub_rq (C_rqM u1.1 hz1), if_pos q, z_be (z_p0 q2 (X4_canHold hz2 hz3)), if_pos z00]
  · rw [if_neg q] at hq
    subst hq
    refine Or.inr (Or.inl ⟨?_, rfl, ⟨S, hs, nx, L, T, ⟨u1, u2, u3, u4, u5, u6⟩, hk, hO, ⟨e6, hC.2⟩, hT, hH, hF, hX, ⟨rfl, hP.2⟩, hS, hR⟩⟩)
    unfold f_X9_set
    rw [zSub_rq (C_rqM u1.1 hz1), if_neg q]
end ZMZ
