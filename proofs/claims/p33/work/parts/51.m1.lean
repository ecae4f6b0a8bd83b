/-! ===== codes of events, and the score's cells ===== -/
abbrev zEv : Type := Int × Int × Int × Int
def okE (x : zEv) : Prop := (x.1 = -1 ∧ x.2.1 = 0 ∧ 0 ≤ x.2.2.1 ∧ x.2.2.1 ≤ 9 ∧ x.2.2.2 = 0) ∨ (0 ≤ x.1 ∧ x.1 ≤ 62 ∧ 0 ≤ x.2.1 ∧ x.2.1 ≤ 3 ∧ 0 ≤ x.2.2.1 ∧ x.2.2.1 ≤ 9 ∧ 0 ≤ x.2.2.2 ∧ x.2.2.2 ≤ 1)
def pk (x : zEv) : Int := if x.1 < 0 then 16384 + x.2.2.1 else 8192 + 128 * x.1 + 32 * x.2.1 + 16 * x.2.2.2 + x.2.2.1
def pk0 (o : Option zEv) : Int := match o with
  | none => 0
  | some x => pk x
def oOk (o : Option zEv) : Prop := ∀ x, o = some x → okE x
def oN (o : Option zEv) : Int := match o with
  | none => 0
  | some x => if x.1 < 0 then 0 else 1
def oP (o : Option zEv) : Int := match o with
  | none => 0
  | some x => if x.1 < 0 then 0 else x.1
def oS (o : Option zEv) : Int := match o with
  | none => 0
  | some x => x.2.1
def oD (o : Option zEv) : Int := match o with
  | none => 0
  | some x => x.2.2.1
def oT (o : Option zEv) : Int := match o with
  | none => 0
  | some x => x.2.2.2
def tk (d : Int) : Int := if d = 0 then 64 else if d = 1 then 96 else if d = 2 then 32 else if d = 3 then 48 else if d = 4 then 16 else if d = 5 then 24 else if d = 6 then 8 else if d = 7 then 12 else if d = 8 then 4 else 6
def zCk (k p s d t n : Nat) : Bool :=
  decide ((Int32.ofNat k &&& (8192 : Int32) = 0) ↔ n = 0) && decide (((Int32.ofNat k &&& (16 : Int32)) = 0) ↔ t = 0) && decide ((Int32.ofNat k >>> ((7 : Int32) &&& (31 : Int32))) &&& (63 : Int32) = Int32.ofNat p) && decide ((Int32.ofNat k >>> ((5 : Int32) &&& (31 : Int32))) &&& (3 : Int32) = Int32.ofNat s) && decide ((Int32.ofNat k &&& (15 : Int32)) = Int32.ofNat d)
theorem zck_note : ∀ p : Nat, p < 63 → ∀ s : Nat, s < 4 → ∀ d : Nat, d < 10 → ∀ t : Nat, t < 2 → (zCk (8192 + 128 * p + 32 * s + 16 * t + d) p s d t 1 && decide (((((8192 : Int32) ||| (Int32.ofNat p <<< ((7 : Int32) &&& (31 : Int32)))) ||| (Int32.ofNat s <<< ((5 : Int32) &&& (31 : Int32)))) ||| (if t = 0 then 0 else 16)) ||| Int32.ofNat d = Int32.ofNat (8192 + 128 * p + 32 * s + 16 * t + d))) = true := by decide +kernel
theorem zck_rest : ∀ d : Nat, d < 10 → (zCk (16384 + d) 0 0 d 0 0 && decide ((16384 : Int32) ||| Int32.ofNat d = Int32.ofNat (16384 + d))) = true := by decide +kernel
theorem zck_none : zCk 0 0 0 0 0 0 = true := by decide +kernel
theorem oCk (o : Option zEv) (h : oOk o) : ∃ k p s d t n : Nat, zCk k p s d t n = true ∧ pk0 o = k ∧ oP o = p ∧ oS o = s ∧ oD o = d ∧ oT o = t ∧ oN o = n ∧ p ≤ 62 ∧ s ≤ 3 ∧ d ≤ 9 ∧ t ≤ 1 ∧ n ≤ 1 := by
  match o, h with
  | none, _ => exact ⟨0, 0, 0, 0, 0, 0, zck_none, rfl, rfl, rfl, rfl, rfl, rfl, by omega, by omega, by omega, by omega, by omega⟩
  | some (x1, x2, x3, x4), h =>
    have hx := h _ rfl
    rcases hx with ⟨h1, h2, h3, h4, h5⟩ | ⟨h1, h2, h3, h4, h5, h6, h7, h8⟩
    · dsimp only at h1 h2 h3 h4 h5
      subst h1; subst h2; subst h5
      obtain ⟨d, rfl⟩ := Int.eq_ofNat_of_zero_le h3
      have hc := zck_rest d (by omega)
      rw [Bool.and_eq_true] at hc
      exact ⟨16384 + d, 0, 0, d, 0, 0, hc.1, by simp [pk0, pk], by simp [oP], rfl, rfl, rfl, by simp [oN], by omega, by omega, by omega, by omega, by omega⟩
    · dsimp only at h1 h2 h3 h4 h5 h6 h7 h8
      obtain ⟨p, rfl⟩ := Int.eq_ofNat_of_zero_le h1
      obtain ⟨s, rfl⟩ := Int.eq_ofNat_of_zero_le h3
      obtain ⟨d, rfl⟩ := Int.eq_ofNat_of_zero_le h5
      obtain ⟨t, rfl⟩ := Int.eq_ofNat_of_zero_le h7
      have hc := zck_note p (by omega) s (by omega) d (by omega) t (by omega)
      rw [Bool.and_eq_true] at hc
      have hn : ¬ ((p : Int) < 0) := by omega
      refine ⟨8192 + 128 * p + 32 * s + 16 * t + d, p, s, d, t, 1, hc.1, ?_, ?_, rfl, rfl, rfl, ?_, by omega, by omega, by omega, by omega, by omega⟩
      · simp only [pk0, pk, if_neg hn]; omega
      · simp only [oP, if_neg hn]
      · simp only [oN, if_neg hn]; rfl
theorem zck_of {k p s d t n : Nat} (h : zCk k p s d t n = true) : ((Int32.ofNat k &&& (8192 : Int32) = 0) ↔ n = 0) ∧ (((Int32.ofNat k &&& (16 : Int32)) = 0) ↔ t = 0) ∧ (Int32.ofNat k >>> ((7 : Int32) &&& (31 : Int32))) &&& (63 : Int32) = Int32.ofNat p ∧ (Int32.ofNat k >>> ((5 : Int32) &&& (31 : Int32))) &&& (3 : Int32) = Int32.ofNat s ∧ (Int32.ofNat k &&& (15 : Int32)) = Int32.ofNat d := by
  simpa [zCk, and_assoc] using h
theorem X0_isNote {N : Nat} (o : Option zEv) (h : oOk o) : f_X0_isNote N (iI (pk0 o)) = some (iI (oN o)) := by
  obtain ⟨k, p, s, d, t, n, hc, h1, h2, h3, h4, h5, h6, h7, h8, h9, h10, h11⟩ := oCk o h
  obtain ⟨c1, c2, c3, c4, c5⟩ := zck_of hc
  rw [h1, h6, ← iI_ofNat, ← iI_ofNat]
  unfold f_X0_isNote
  rcases Nat.eq_zero_or_pos n with hn | hn
  · rw [if_pos (c1.mpr hn), hn]; rfl
  · rw [if_neg (fun q => absurd (c1.mp q) (by omega)), show n = 1 by omega]; rfl
theorem X0_isTied {N : Nat} (o : Option zEv) (h : oOk o) : f_X0_isTied N (iI (pk0 o)) = some (iI (oT o)) := by
  obtain ⟨k, p, s, d, t, n, hc, h1, h2, h3, h4, h5, h6, h7, h8, h9, h10, h11⟩ := oCk o h
  obtain ⟨c1, c2, c3, c4, c5⟩ := zck_of hc
  rw [h1, h5, ← iI_ofNat, ← iI_ofNat]
  unfold f_X0_isTied
  rcases Nat.eq_zero_or_pos t with hn | hn
  · rw [if_pos (c2.mpr hn), hn]; rfl
  · rw [if_neg (fun q => absurd (c2.mp q) (by omega)), show t = 1 by omega]; rfl
theorem X0_pitchOf {N : Nat} (o : Option zEv) (h : oOk o) : f_X0_pitchOf N (iI (pk0 o)) = some (iI (oP o)) := by
  obtain ⟨k, p, s, d, t, n, hc, h1, h2, h3, h4, h5, h6, h7, h8, h9, h10, h11⟩ := oCk o h
  obtain ⟨c1, c2, c3, c4, c5⟩ := zck_of hc
  rw [h1, h2, ← iI_ofNat, ← iI_ofNat]
  unfold f_X0_pitchOf
  rw [c3]
theorem X0_signOf {N : Nat} (o : Option zEv) (h : oOk o) : f_X0_signOf N (iI (pk0 o)) = some (iI (oS o)) := by
  obtain ⟨k, p, s, d, t, n, hc, h1, h2, h3, h4, h5, h6, h7, h8, h9, h10, h11⟩ := oCk o h
  obtain ⟨c1, c2, c3, c4, c5⟩ := zck_of hc
  rw [h1, h3, ← iI_ofNat, ← iI_ofNat]
  unfold f_X0_signOf
  rw [c4]
theorem X0_durationOf {N : Nat} (o : Option zEv) (h : oOk o) : f_X0_durationOf N (iI (pk0 o)) = some (iI (oD o)) := by
  obtain ⟨k, p, s, d, t, n, hc, h1, h2, h3, h4, h5, h6, h7, h8, h9, h10, h11⟩ := oCk o h
  obtain ⟨c1, c2, c3, c4, c5⟩ := zck_of hc
  rw [h1, h4, ← iI_ofNat, ← iI_ofNat]
  unfold f_X0_durationOf
  rw [c5]
theorem oB {o : Option zEv} (h : oOk o) : (0 ≤ oP o ∧ oP o ≤ 62) ∧ (0 ≤ oS o ∧ oS o ≤ 3) ∧ (0 ≤ oD o ∧ oD o ≤ 9) ∧ (0 ≤ oT o ∧ oT o ≤ 1) ∧ (0 ≤ oN o ∧ oN o ≤ 1) := by
  obtain ⟨k, p, s, d, t, n, hc, h1, h2, h3, h4, h5, h6, h7, h8, h9, h10, h11⟩ := oCk o h
  omega
theorem X0_octaveOf {N : Nat} (o : Option zEv) (h : oOk o) : f_X0_octaveOf N (iI (pk0 o)) = some (iI (oP o / 7)) := by
  have hb := oB h
  unfold f_X0_octaveOf
  rw [z_be (X0_pitchOf o h), iL7, zDivI (by omega) (by omega) (by omega) (by omega)]
  rfl
theorem X0_stepOf {N : Nat} (o : Option zEv) (h : oOk o) : f_X0_stepOf N (iI (pk0 o)) = some (iI (oP o % 7)) := by
  have hb := oB h
  unfold f_X0_stepOf
  rw [z_be (X0_pitchOf o h), iL7, zRemI (by omega) (by omega) (by omega) (by omega)]
  rfl
theorem X0_lengthOf {N : Nat} (o : Option zEv) (h : oOk o) : f_X0_lengthOf N (iI (pk0 o)) = some (iI (oD o / 2)) := by
  have hb := oB h
  unfold f_X0_lengthOf
  rw [z_be (X0_durationOf o h), iL2, zDivI (by omega) (by omega) (by omega) (by omega)]
  rfl
theorem X0_isDotted {N : Nat} (o : Option zEv) (h : oOk o) : f_X0_isDotted N (iI (pk0 o)) = some (iI (oD o % 2)) := by
  have hb := oB h
  unfold f_X0_isDotted
  rw [z_be (X0_durationOf o h), iL2, zRemI (by omega) (by omega) (by omega) (by omega), z_sb, iL1, iL0]
  try simp (disch := omega) only [iI_lt, iI_eq]
  split
  · next q => rw [q]
  · next q => rw [show oD o % 2 = 0 by omega]
theorem X0_ticks_d {N : Nat} {c : Int32} {d : Int} (h : f_X0_durationOf N c = some (iI d)) (h0 : 0 ≤ d) (h9 : d ≤ 9) : f_X0_ticksOf N c = some (iI (tk d)) := by
  unfold f_X0_ticksOf
  rw [z_be h]
  have hd : d = 0 ∨ d = 1 ∨ d = 2 ∨ d = 3 ∨ d = 4 ∨ d = 5 ∨ d = 6 ∨ d = 7 ∨ d = 8 ∨ d = 9 := by omega
  rcases hd with rfl | rfl | rfl | rfl | rfl | rfl | rfl | rfl | rfl | rfl <;> decide +kernel
theorem X0_ticksOf {N : Nat} (o : Option zEv) (h : oOk o) : f_X0_ticksOf N (iI (pk0 o)) = some (iI (tk (oD o))) := by
  have hb := oB h
  exact X0_ticks_d (X0_durationOf o h) hb.2.2.1.1 hb.2.2.1.2
theorem tk_pos {d : Int} (h0 : 0 ≤ d) (h9 : d ≤ 9) : 4 ≤ tk d ∧ tk d ≤ 96 := by
  have hd : d = 0 ∨ d = 1 ∨ d = 2 ∨ d = 3 ∨ d = 4 ∨ d = 5 ∨ d = 6 ∨ d = 7 ∨ d = 8 ∨ d = 9 := by omega
  rcases hd with rfl | rfl | rfl | rfl | rfl | rfl | rfl | rfl | rfl | rfl <;> decide
theorem X0_samePitch {N : Nat} (o1 o2 : Option zEv) (h1 : oOk o1) (h2 : oOk o2) : f_X0_samePitch N (iI (pk0 o1)) (iI (pk0 o2)) = some (iI (if oN o1 = 1 ∧ oN o2 = 1 ∧ oP o1 = oP o2 then 1 else 0)) := by
  have hb1 := oB h1
  have hb2 := oB h2
  unfold f_X0_samePitch
  rw [z_be (X0_isNote o1 h1), iL0]
  try simp (disch := omega) only [iI_lt, iI_eq]
  by_cases q1 : oN o1 = 0
  · rw [if_pos q1, if_neg (by omega)]
  · rw [if_neg q1, z_be (X0_isNote o2 h2)]
    try simp (disch := omega) only [iI_lt, iI_eq]
    by_cases q2 : oN o2 = 0
    · rw [if_pos q2, if_neg (by omega)]
    · rw [if_neg q2, z_be (X0_pitchOf o1 h1), z_be (X0_pitchOf o2 h2)]
      try simp (disch := omega) only [iI_lt, iI_eq]
      by_cases q3 : oP o1 = oP o2
      · rw [if_pos q3, if_pos (by omega)]; rfl
      · rw [if_neg q3, if_neg (by omega)]
theorem X0_ofNote {N : Nat} {p s d t : Int} (h : okE (p, s, d, t)) (hp : 0 ≤ p) : f_X0_ofNote N (iI p) (iI s) (iI d) (iI t) = some (iI (pk (p, s, d, t))) := by
  rcases h with ⟨h1, -⟩ | ⟨h1, h2, h3, h4, h5, h6, h7, h8⟩
  · dsimp only at h1; omega
  · dsimp only at h1 h2 h3 h4 h5 h6 h7 h8
    obtain ⟨p, rfl⟩ := Int.eq_ofNat_of_zero_le h1
    obtain ⟨s, rfl⟩ := Int.eq_ofNat_of_zero_le h3
    obtain ⟨d, rfl⟩ := Int.eq_ofNat_of_zero_le h5
    obtain ⟨t, rfl⟩ := Int.eq_ofNat_of_zero_le h7
    have hc := zck_note p (by omega) s (by omega) d (by omega) t (by omega)
    rw [Bool.and_eq_true] at hc
    have hc := of_decide_eq_true hc.2
    have hn : ¬ ((p : Int) < 0) := by omega
    have e : pk ((p : Int), (s : Int), (d : Int), (t : Int)) = ((8192 + 128 * p + 32 * s + 16 * t + d : Nat) : Int) := by
      simp only [pk, if_neg hn]; omega
    rw [e, ← iI_ofNat, ← iI_ofNat, ← iI_ofNat, ← iI_ofNat, ← iI_ofNat, ← hc]
    unfold f_X0_ofNote
    rcases (show t = 0 ∨ t = 1 by omega) with rfl | rfl <;> rfl
theorem X0_ofRest {N : Nat} {d : Int} (h0 : 0 ≤ d) (h9 : d ≤ 9) : f_X0_ofRest N (iI d) = some (iI (pk (-1, 0, d, 0))) := by
  obtain ⟨d, rfl⟩ := Int.eq_ofNat_of_zero_le h0
  have hc := zck_rest d (by omega)
  rw [Bool.and_eq_true] at hc
  have hc := of_decide_eq_true hc.2
  have e : pk (-1, 0, (d : Int), 0) = ((16384 + d : Nat) : Int) := by simp [pk]
  rw [e, ← iI_ofNat, ← iI_ofNat, ← hc]
  rfl
