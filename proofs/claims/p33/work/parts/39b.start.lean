/-! ===== the start: words, strings, rows ===== -/
set_option maxRecDepth 100000 in
theorem zl_wsX10 : ∀ w ∈ wsX10, w ∈ lw_tbl := by decide +kernel
set_option maxRecDepth 100000 in
theorem zl_wsX20 : ∀ w ∈ wsX20, w ∈ lw_tbl := by decide +kernel
set_option maxRecDepth 100000 in
theorem zl_wsX30 : ∀ w ∈ wsX30, w ∈ lw_tbl := by decide +kernel
set_option maxRecDepth 100000 in
theorem zl_wsX40 : ∀ w ∈ wsX40, w ∈ lw_tbl := by decide +kernel
set_option maxRecDepth 100000 in
theorem zl_wsX50 : ∀ w ∈ wsX50, w ∈ lw_tbl := by decide +kernel
set_option maxRecDepth 100000 in
theorem zl_wsX60 : ∀ w ∈ wsX60, w ∈ lw_tbl := by decide +kernel
set_option maxRecDepth 100000 in
theorem zl_wsX70 : ∀ w ∈ wsX70, w ∈ lw_tbl := by decide +kernel
set_option maxRecDepth 100000 in
theorem zl_wsX90 : ∀ w ∈ wsX90, w ∈ lw_tbl := by decide +kernel
set_option maxRecDepth 100000 in
theorem zl_zx_0 : ∀ w ∈ zx_0, w ∈ lw_tbl := by decide +kernel
set_option maxRecDepth 100000 in
theorem zl_zx_1 : ∀ w ∈ zx_1, w ∈ lw_tbl := by decide +kernel
set_option maxRecDepth 100000 in
theorem zl_zx_2 : ∀ w ∈ zx_2, w ∈ lw_tbl := by decide +kernel
theorem zl_all0 : ∀ w ∈ ZW0, w ∈ lw_tbl := (List.forall_mem_append.mpr ⟨(List.forall_mem_append.mpr ⟨(List.forall_mem_append.mpr ⟨(List.forall_mem_append.mpr ⟨(List.forall_mem_append.mpr ⟨zl_0, zl_1⟩), (List.forall_mem_append.mpr ⟨zl_2, zl_3⟩)⟩), (List.forall_mem_append.mpr ⟨(List.forall_mem_append.mpr ⟨zl_4, zl_5⟩), (List.forall_mem_append.mpr ⟨zl_6, zl_7⟩)⟩)⟩), (List.forall_mem_append.mpr ⟨(List.forall_mem_append.mpr ⟨(List.forall_mem_append.mpr ⟨zl_8, zl_9⟩), (List.forall_mem_append.mpr ⟨zl_10, zl_11⟩)⟩), (List.forall_mem_append.mpr ⟨(List.forall_mem_append.mpr ⟨zl_12, zl_13⟩), (List.forall_mem_append.mpr ⟨zl_14, (List.forall_mem_append.mpr ⟨zl_15, zl_16⟩)⟩)⟩)⟩)⟩), (List.forall_mem_append.mpr ⟨(List.forall_mem_append.mpr ⟨(List.forall_mem_append.mpr ⟨(List.forall_mem_append.mpr ⟨zl_17, zl_18⟩), (List.forall_mem_append.mpr ⟨zl_19, zl_20⟩)⟩), (List.forall_mem_append.mpr ⟨(List.forall_mem_append.mpr ⟨zl_21, zl_22⟩), (List.forall_mem_append.mpr ⟨zl_23, zl_24⟩)⟩)⟩), (List.forall_mem_append.mpr ⟨(List.forall_mem_append.mpr ⟨(List.forall_mem_append.mpr ⟨zl_25, zl_26⟩), (List.forall_mem_append.mpr ⟨zl_27, zl_28⟩)⟩), (List.forall_mem_append.mpr ⟨(List.forall_mem_append.mpr ⟨zl_29, zl_30⟩), (List.forall_mem_append.mpr ⟨zl_31, (List.forall_mem_append.mpr ⟨zl_32, zl_33⟩)⟩)⟩)⟩)⟩)⟩)
theorem zl_all : ∀ w ∈ ZW, w ∈ lw_tbl := List.forall_mem_append.mpr ⟨zl_all0, (List.forall_mem_append.mpr ⟨zl_wsX10, (List.forall_mem_append.mpr ⟨zl_wsX20, (List.forall_mem_append.mpr ⟨zl_wsX30, (List.forall_mem_append.mpr ⟨zl_wsX40, (List.forall_mem_append.mpr ⟨zl_wsX50, (List.forall_mem_append.mpr ⟨zl_wsX60, (List.forall_mem_append.mpr ⟨zl_wsX70, (List.forall_mem_append.mpr ⟨zl_wsX90, (List.forall_mem_append.mpr ⟨zl_zx_0, (List.forall_mem_append.mpr ⟨zl_zx_1, zl_zx_2⟩)⟩)⟩)⟩)⟩)⟩)⟩)⟩)⟩)⟩)⟩
def zFl : List Cond := flatC (Jvm.Cond.and given_1 narrow_1)
def zRep : List (String × Nat) := [(RX5, 22), (RX5, 34), (RX5, 40), (RX5, 63), (RX5, 65), (RX5, 73), (RX5, 75), (RX8, 13), (RX5, 50), (RX5, 80), (RX5, 118), (RX5, 123), (RX8, 15), (RX8, 17), (RX8, 19), (RX8, 21), (RX8, 23), (RX5, 134), (RX5, 59), (RX5, 61), (RX8, 25), (RX9, 341), (RX9, 339), (RX9, 324), (RX9, 330), (RX9, 335), (RX9, 211), (RX9, 219), (RX9, 221), (RX9, 245), (RX9, 337), (RX9, 68), (RX9, 99)]
def zTm (i : Nat) : Term := .string (zRep.getD i ("", 0)).1 (zRep.getD i ("", 0)).2
def zTv (i : Nat) : Term := .field (zTm i) "java/lang/String" "value" "[B"
set_option maxRecDepth 100000 in
theorem zm_ex0 : ∀ i : Nat, i < 33 → zFl[([546, 553, 561, 571, 578, 587, 596, 651, 604, 612, 662, 670, 680, 689, 697, 708, 718, 731, 739, 747, 621, 461, 434, 382, 898, 511, 953, 993, 1019, 484, 926, 285, 401] : List Nat).getD i 0]? = some (Cond.exactly (zTm i) "java/lang/String") := by decide +kernel
theorem zm_ex (i : Nat) (h : i < 33) : Cond.exactly (zTm i) "java/lang/String" ∈ zFl := List.mem_of_getElem? (zm_ex0 i h)
set_option maxRecDepth 100000 in
theorem zm_co0 : ∀ i : Nat, i < 21 → zFl[([547, 554, 562, 572, 579, 588, 597, 652, 605, 613, 663, 671, 681, 690, 698, 709, 719, 732, 740, 748, 622] : List Nat).getD i 0]? = some (Cond.eq (.field (zTm i) "java/lang/String" "coder" "B") (.int 0)) := by decide +kernel
theorem zm_co (i : Nat) (h : i < 21) : Cond.eq (.field (zTm i) "java/lang/String" "coder" "B") (.int 0) ∈ zFl := List.mem_of_getElem? (zm_co0 i h)
set_option maxRecDepth 100000 in
theorem zm_ar0 : ∀ i : Nat, i < 21 → zFl[([548, 555, 563, 573, 580, 589, 598, 653, 606, 614, 664, 672, 682, 691, 699, 710, 720, 733, 741, 749, 623] : List Nat).getD i 0]? = some (Cond.arrayOf (zTv i) .byte) := by decide +kernel
theorem zm_ar (i : Nat) (h : i < 21) : Cond.arrayOf (zTv i) .byte ∈ zFl := List.mem_of_getElem? (zm_ar0 i h)
set_option maxRecDepth 100000 in
theorem zm_le0 : ∀ i : Nat, i < 21 → zFl[([549, 556, 564, 574, 581, 590, 599, 654, 607, 615, 665, 673, 683, 692, 700, 711, 721, 734, 742, 750, 624] : List Nat).getD i 0]? = some (Cond.eq (.length (zTv i)) (.int (Int32.ofNat (zLen.getD i 0)))) := by decide +kernel
theorem zm_le (i : Nat) (h : i < 21) : Cond.eq (.length (zTv i)) (.int (Int32.ofNat (zLen.getD i 0))) ∈ zFl := List.mem_of_getElem? (zm_le0 i h)
set_option maxRecDepth 100000 in
theorem zm_el0 : ∀ i : Nat, i < 21 → ∀ j : Nat, j < zLen.getD i 0 → zFl[(([[550, 551, 552], [557, 558, 559, 560], [565, 566, 567, 568, 569, 570], [575, 576, 577], [582, 583, 584, 585, 586], [591, 592, 593, 594, 595], [600, 601, 602, 603], [655, 656, 657, 658, 659, 660, 661], [608, 609, 610, 611], [616, 617, 618, 619, 620], [666, 667, 668, 669], [674, 675, 676, 677, 678, 679], [684, 685, 686, 687, 688], [693, 694, 695, 696], [701, 702, 703, 704, 705, 706, 707], [712, 713, 714, 715, 716, 717], [722, 723, 724, 725, 726, 727, 728, 729, 730], [735, 736, 737, 738], [743, 744, 745, 746], [751, 752, 753], [625, 626, 627, 628, 629, 630, 631]] : List (List Nat)).getD i []).getD j 0]? = some (Cond.eq (.elem (zTv i) (.int (Int32.ofNat j))) (.int ((zByt.getD i []).getD j 0))) := by decide +kernel
theorem zm_el (i : Nat) (h : i < 21) (j : Nat) (hj : j < zLen.getD i 0) : Cond.eq (.elem (zTv i) (.int (Int32.ofNat j))) (.int ((zByt.getD i []).getD j 0)) ∈ zFl := List.mem_of_getElem? (zm_el0 i h j hj)
def zmB (k : Nat) : Bool := match zStr[k]? with
  | none => true
  | some q => decide (q.2.2.2 < 33 ∧ lw_tbl[([1147, 1234, 1235, 1103, 1130, 1132, 1133, 1141, 1138, 1139, 1140, 1211, 1230, 1216, 1164, 962, 1009, 1010, 1025, 1071, 1072, 1018, 1019, 1023, 1024, 1031, 1053, 1057, 1070, 1049, 1050, 1051, 1064, 1065, 1066, 1067, 1068, 1042, 271, 764, 1358, 1449, 1457, 872, 748, 1268, 908, 1273, 775, 839] : List Nat).getD k 0]? = some (Cond.stringRef q.1 q.2.1 q.2.2.1) ∧ (zTm q.2.2.2 = .string q.1 q.2.1 ∨ zFl[([839, 889, 897, 761, 770, 781, 789, 829, 799, 809, 819, 860, 880, 871, 851, 99999, 99999, 99999, 99999, 99999, 99999, 99999, 99999, 99999, 99999, 99999, 99999, 99999, 99999, 641, 650, 99999, 99999, 99999, 99999, 99999, 99999, 99999, 99999, 99999, 99999, 99999, 99999, 99999, 99999, 99999, 99999, 99999, 99999, 99999] : List Nat).getD k 0]? = some (Cond.eq (zTm q.2.2.2) (.string q.1 q.2.1))))
set_option maxRecDepth 100000 in
theorem zm_stB : ∀ k : Nat, k < 50 → zmB k = true := by decide +kernel
theorem zm_st0 : ∀ k : Nat, k < 50 → ∀ q : String × Nat × String × Nat, zStr[k]? = some q → q.2.2.2 < 33 ∧ lw_tbl[([1147, 1234, 1235, 1103, 1130, 1132, 1133, 1141, 1138, 1139, 1140, 1211, 1230, 1216, 1164, 962, 1009, 1010, 1025, 1071, 1072, 1018, 1019, 1023, 1024, 1031, 1053, 1057, 1070, 1049, 1050, 1051, 1064, 1065, 1066, 1067, 1068, 1042, 271, 764, 1358, 1449, 1457, 872, 748, 1268, 908, 1273, 775, 839] : List Nat).getD k 0]? = some (Cond.stringRef q.1 q.2.1 q.2.2.1) ∧ (zTm q.2.2.2 = .string q.1 q.2.1 ∨ zFl[([839, 889, 897, 761, 770, 781, 789, 829, 799, 809, 819, 860, 880, 871, 851, 99999, 99999, 99999, 99999, 99999, 99999, 99999, 99999, 99999, 99999, 99999, 99999, 99999, 99999, 641, 650, 99999, 99999, 99999, 99999, 99999, 99999, 99999, 99999, 99999, 99999, 99999, 99999, 99999, 99999, 99999, 99999, 99999, 99999, 99999] : List Nat).getD k 0]? = some (Cond.eq (zTm q.2.2.2) (.string q.1 q.2.1))) := by
  intro k hk q hq
  have h := zm_stB k hk
  unfold zmB at h
  rw [hq] at h
  exact of_decide_eq_true h
theorem zm_st (q : String × Nat × String × Nat) (hq : q ∈ zStr) : q.2.2.2 < 33 ∧ Cond.stringRef q.1 q.2.1 q.2.2.1 ∈ lw_tbl ∧ (zTm q.2.2.2 = .string q.1 q.2.1 ∨ Cond.eq (zTm q.2.2.2) (.string q.1 q.2.1) ∈ zFl) := by
  obtain ⟨k, hk, he⟩ := List.mem_iff_getElem.mp hq
  have h := zm_st0 k hk q (by rw [List.getElem?_eq_getElem hk, he])
  exact ⟨h.1, List.mem_of_getElem? h.2.1, h.2.2.imp id List.mem_of_getElem?⟩
theorem zm_len : ∀ i : Nat, i < 21 → zLen.getD i 0 < 2 ^ 31 := by decide +kernel
theorem zm_ne : ∀ i : Nat, i < 21 → ∀ j : Nat, j < 21 → i = j ∨ Int32.ofNat (zLen.getD i 0) ≠ Int32.ofNat (zLen.getD j 0) ∨ ∃ k : Nat, k < 9 ∧ k < zLen.getD i 0 ∧ k < zLen.getD j 0 ∧ (zByt.getD i []).getD k 0 ≠ (zByt.getD j []).getD k 0 := by decide +kernel
def zTs (k : Nat) : Term := .static "SpokenBars$Sounds" (zTN.getD k "") "[I"
set_option maxRecDepth 100000 in
theorem zm_tab0 : ∀ k : Nat, k < 3 → lw_tbl[([924, 690, 692] : List Nat).getD k 0]? = some (Cond.laysStatic "SpokenBars$Sounds" (zTN.getD k "") "[I") ∧ zFl[([238, 218, 228] : List Nat).getD k 0]? = some (Cond.arrayOf (zTs k) .int) ∧ zFl[([239, 219, 229] : List Nat).getD k 0]? = some (Cond.eq (.length (zTs k)) (.int (Int32.ofNat 7))) ∧ ∀ j : Nat, j < 7 → zFl[(([[240, 241, 242, 243, 244, 245, 246], [220, 221, 222, 223, 224, 225, 226], [230, 231, 232, 233, 234, 235, 236]] : List (List Nat)).getD k []).getD j 0]? = some (Cond.eq (.elem (zTs k) (.int (Int32.ofNat j))) (.int (zTab k j))) := by decide +kernel
theorem zm_tab (k : Nat) (hk : k < 3) : Cond.laysStatic "SpokenBars$Sounds" (zTN.getD k "") "[I" ∈ lw_tbl ∧ Cond.arrayOf (zTs k) .int ∈ zFl ∧ Cond.eq (.length (zTs k)) (.int (Int32.ofNat 7)) ∈ zFl ∧ ∀ j : Nat, j < 7 → Cond.eq (.elem (zTs k) (.int (Int32.ofNat j))) (.int (zTab k j)) ∈ zFl :=
  ⟨List.mem_of_getElem? (zm_tab0 k hk).1, List.mem_of_getElem? (zm_tab0 k hk).2.1, List.mem_of_getElem? (zm_tab0 k hk).2.2.1, fun j hj => List.mem_of_getElem? ((zm_tab0 k hk).2.2.2 j hj)⟩
set_option maxRecDepth 100000 in
theorem zm_lw : ∀ w ∈ [Cond.laysStatic "java/lang/String" "COMPACT_STRINGS" "Z", Cond.initialized "java/lang/String", Cond.laysStatic Bundle.tN "UNASSIGNED_STACK" Bundle.steD, Cond.laysStatic Bundle.tN "SUPPRESSED_SENTINEL" Bundle.listD, Cond.initialized Bundle.tN, Cond.laysStatic "jdk/internal/util/Preconditions" "SIOOBE_FORMATTER" "Ljava/util/function/BiFunction;", Cond.initialized "jdk/internal/util/Preconditions", Cond.initialized "SpokenBars$Sounds", Cond.arrayOver (.object RX4), Cond.declares (Bundle.initS "java/lang/RuntimeException"), Cond.declares (Bundle.initS "java/lang/Exception"), Cond.declares (Bundle.initS "java/lang/Throwable"), Cond.castable (zES 0) (zES 0), Cond.castable (zES 1) (zES 1), Cond.castable (zES 2) (zES 2)], w ∈ lw_tbl := by decide +kernel
set_option maxRecDepth 100000 in
theorem zm_nest : ∀ q ∈ zNestL, Cond.methodLinkNest q.1 q.2.1 q.2.2 RX9 ∈ lw_tbl := by decide +kernel
set_option maxRecDepth 100000 in
theorem zm_fl : ∀ w ∈ [Cond.eq (.static "java/lang/String" "COMPACT_STRINGS" "Z") (.int 1), Cond.isRef (.static Bundle.tN "UNASSIGNED_STACK" Bundle.steD), Cond.isRef (.static Bundle.tN "SUPPRESSED_SENTINEL" Bundle.listD), Cond.isRef (.static "jdk/internal/util/Preconditions" "SIOOBE_FORMATTER" "Ljava/util/function/BiFunction;"), Cond.not (.castable (zES 1) (zES 0)), Cond.not (.castable (zES 2) (zES 0)), Cond.not (.castable (zES 2) (zES 1))], w ∈ zFl := by decide +kernel
theorem zEqR {args : Array Value} {s : State} {t u : Term} {a : Nat} (h : (Cond.eq t u).before args s = true) (ht : t.eval args s none [] s = some (.ref a)) : u.eval args s none [] s = some (.ref a) := by
  cases hu : u.eval args s none [] s with
  | none => simp [Cond.before, Cond.holds, Cond.value, ht, hu] at h
  | some w =>
    simp only [Cond.before, Cond.holds, Cond.value, ht, hu] at h
    cases w <;> simp_all
theorem zEvV {args : Array Value} {s : State} {i j : Nat} (h : (zTm i).eval args s none [] s = (zTm j).eval args s none [] s) : (zTv i).eval args s none [] s = (zTv j).eval args s none [] s := by
  unfold zTv
  simp only [Term.eval, h]
/-- the texts' cells -/
theorem zSof {args : Array Value} {s : State} {A : Nat → Prop} (hs : ∀ w ∈ zFl, w.before args s = true) (hA : ∀ a : Nat, a < s.heap.size → ¬ A a) :
    ∃ adK adV : Nat → Nat, vk_S 21 zLen zByt adK adV A s s.heap ∧ ∀ i : Nat, i < 33 → (zTm i).eval args s none [] s = some (.ref (adK i)) := by
  have h0 : ∀ i : Nat, ∃ q : Nat × Nat, (i < 33 → (zTm i).eval args s none [] s = some (.ref q.1)) ∧ (i < 21 → va_O "java/lang/String" q.1 A s s.heap ∧ va_OF "java/lang/String" "coder" "B" (.int 0) q.1 A s s.heap ∧ va_OF "java/lang/String" "value" "[B" (.ref q.2) q.1 A s s.heap ∧ va_T .byte q.2 (zLen.getD i 0) (fun j => .int ((zByt.getD i []).getD j 0)) A s s.heap) := by
    intro i
    by_cases hi3 : i < 33
    · obtain ⟨a, c, cA, kA, q1, q2, q3, q4, q5, q6, -⟩ := Cond.exactly_spec (args := args) (first := s) (o := none) (s := s) (idx := []) (t := zTm i) (cls := "java/lang/String") (hs _ (zm_ex i hi3))
      by_cases hi : i < 21
      · obtain ⟨t, ht, hT⟩ := va_Tof (tm := zTv i) (f := fun j => .int ((zByt.getD i []).getD j 0)) (A := A) (zm_len i hi) (hs _ (zm_ar i hi)) (va_eqt (hs _ (zm_le i hi))) (fun j hj => va_eqt (hs _ (zm_el i hi j hj))) hA
        exact ⟨(a, t), fun _ => q1, fun _ => ⟨⟨cA, q3, q5, by rw [q6]; exact q2, hA a (Array.getElem?_eq_some_iff.mp q3).1⟩, vk_OFof q1 (va_eqt (hs _ (zm_co i hi))) hA, vk_OFof q1 ht hA, hT⟩⟩
      · exact ⟨(a, 0), fun _ => q1, fun h => absurd h hi⟩
    · exact ⟨(0, 0), fun h => absurd h hi3, fun h => absurd (Nat.lt_trans h (by decide)) hi3⟩
  obtain ⟨ad, had⟩ := Classical.axiomOfChoice h0
  refine ⟨fun i => (ad i).1, fun i => (ad i).2, ⟨fun i hi => (had i).2 hi, fun i j hi hj e => ?_⟩, fun i hi => (had i).1 hi⟩
  have e : (ad i).1 = (ad j).1 := e
  have ev : (zTm i).eval args s none [] s = (zTm j).eval args s none [] s := by
    rw [(had i).1 (Nat.lt_trans hi (by decide)), (had j).1 (Nat.lt_trans hj (by decide)), e]
  have ef := zEvV ev
  rcases zm_ne i hi j hj with h | h | ⟨k, hk, hk1, hk2, h⟩
  · exact h
  · refine absurd ?_ h
    have h1 := va_eqt (hs _ (zm_le i hi))
    have h2 := va_eqt (hs _ (zm_le j hj))
    have h3 : (Term.length (zTv i)).eval args s none [] s = (Term.length (zTv j)).eval args s none [] s := by simp only [Term.eval, ef]
    rw [h1, h2] at h3
    exact Value.int.inj (Option.some.inj h3)
  · refine absurd ?_ h
    have h1 := va_eqt (hs _ (zm_el i hi k hk1))
    have h2 := va_eqt (hs _ (zm_el j hj k hk2))
    have h3 : (Term.elem (zTv i) (.int (Int32.ofNat k))).eval args s none [] s = (Term.elem (zTv j) (.int (Int32.ofNat k))).eval args s none [] s := by simp only [Term.eval, ef]
    rw [h1, h2] at h3
    exact Value.int.inj (Option.some.inj h3)
theorem zTof {args : Array Value} {s : State} {A : Nat → Prop} (hs : ∀ w ∈ zFl, w.before args s = true) (hts : ∀ w ∈ lw_tbl, w.before args s = true) (hA : ∀ a : Nat, a < s.heap.size → ¬ A a) (k : Nat) (hk : k < 3) : ∃ t : Nat, va_Z "SpokenBars$Sounds" (zTN.getD k "") "[I" (.ref t) A s s.heap ∧ va_T .int t 7 (fun j => .int (zTab k j)) A s s.heap := by
  obtain ⟨m1, m2, m3, m4⟩ := zm_tab k hk
  obtain ⟨t, ht, hT⟩ := va_Tof (tm := zTs k) (N := 7) (f := fun j => .int (zTab k j)) (A := A) (by decide) (hs _ m2) (va_eqt (hs _ m3)) (fun j hj => va_eqt (hs _ (m4 j hj))) hA
  exact ⟨t, va_Zof (hts _ m1) (hts _ (zm_lw _ (List.mem_of_getElem? (i := 7) rfl))) ht hA, hT⟩
theorem zArrOf {args : Array Value} {s : State} {ty : FieldType} (h : (Cond.arrayClass ty).before args s = true) (hty : ∀ n, ty ≠ .object n) : ∃ cA : ClassId, ArrOfT s cA ty ∧ va_RA s cA ty := by
  obtain ⟨cA, kA, comp, h1, h2, h3⟩ := Cond.arrayClass_spec h
  refine ⟨cA, fun n z => ⟨fun k h => ?_, kA, h2, comp, h3⟩, ?_⟩
  · cases h
  · cases ty with
    | object n => exact absurd rfl (hty n)
    | _ => exact h1
theorem zArrO {args : Array Value} {s : State} {C : String} (h : (Cond.arrayOver (.object C)).before args s = true) : ∃ cA : ClassId, ArrOfT s cA (.object C) ∧ va_RA s cA (.object C) := by
  obtain ⟨comp, cA, kA, f2, -, f3, f4, f1⟩ := Cond.arrayOver_spec h
  exact ⟨cA, fun N z => ⟨(fun k h => by cases h), kA, f3, comp, f4⟩, kA, comp, f3, f4, f2, f1⟩

/-- all that the walk carries along, at the start -/
theorem zStart {args : Array Value} {s : State} (hts : ∀ w ∈ lw_tbl, w.before args s = true) (hs : ∀ w ∈ zFl, w.before args s = true) :
    ∃ (g : zEnv) (j : zJ), zK g s ∧ zG g (fun q : Nat => s.heap.size ≤ q) s s.heap ∧ zN s ∧ va_K (zD g) vwCl (zJT j) s ∧ zO4 s := by
  have hA : ∀ a : Nat, a < s.heap.size → ¬ (fun q : Nat => s.heap.size ≤ q) a := fun a h => Nat.not_le.mpr h
  have hW : ∀ w ∈ ZW, w.before args s = true := fun w h => hts w (zl_all w h)
  obtain ⟨c0, i0, k0⟩ := u_known (C := RX1) (T := TX1) (N := 3) (n := 3) hW zu_wsX10 (hW _ zw_480)
  obtain ⟨c1, i1, k1⟩ := u_known (C := RX2) (T := TX2) (N := 2) (n := 2) hW zu_wsX20 (hW _ zw_495)
  obtain ⟨c2, i2, k2⟩ := u_known (C := RX3) (T := TX3) (N := 5) (n := 5) hW zu_wsX30 (hW _ zw_489)
  obtain ⟨c3, i3, k3⟩ := u_known (C := RX4) (T := TX4) (N := 2) (n := 2) hW zu_wsX40 (hW _ zw_29)
  obtain ⟨c4, i4, k4⟩ := u_known (C := RX5) (T := TX5) (N := 3) (n := 3) hW zu_wsX50 (hW _ zw_486)
  obtain ⟨c5, i5, k5⟩ := u_known (C := RX6) (T := TX6) (N := 3) (n := 3) hW zu_wsX60 (hW _ zw_492)
  obtain ⟨c6, i6, k6⟩ := u_known (C := RX7) (T := TX7) (N := 2) (n := 2) hW zu_wsX70 (hW _ zw_483)
  obtain ⟨c7, i7, k7⟩ := u_known (C := RX9) (T := TX9) (N := 7) (n := 7) hW zu_wsX90 (hW _ zw_916)
  obtain ⟨D, hDk⟩ : ∃ D : va_G, ∀ (c : Nat) (q : vw_C), vwCl[c]? = some q → u_Kn s q.1 q.2.1 q.2.2 (D.1 c) (D.2 c) := by
    refine ⟨(fun k => if k = 0 then c0 else if k = 1 then c1 else if k = 2 then c2 else if k = 3 then c3 else if k = 4 then c4 else if k = 5 then c5 else if k = 6 then c6 else c7, fun k => if k = 0 then i0 else if k = 1 then i1 else if k = 2 then i2 else if k = 3 then i3 else if k = 4 then i4 else if k = 5 then i5 else if k = 6 then i6 else i7), ?_⟩
    intro k q hq
    match k, hq with
    | 0, hq => cases hq; exact k0
    | 1, hq => cases hq; exact k1
    | 2, hq => cases hq; exact k2
    | 3, hq => cases hq; exact k3
    | 4, hq => cases hq; exact k4
    | 5, hq => cases hq; exact k5
    | 6, hq => cases hq; exact k6
    | 7, hq => cases hq; exact k7
    | k + 8, hq => simp [vwCl] at hq
  obtain ⟨aI, eI1, eI2⟩ := zArrOf (ty := .int) (hW _ zw_23) (fun n h => by cases h)
  obtain ⟨aY, eY1, eY2⟩ := zArrOf (ty := .byte) (hW _ zw_324) (fun n h => by cases h)
  obtain ⟨aJ, eJ1, eJ2⟩ := zArrOf (ty := .long) (hW _ zw_999) (fun n h => by cases h)
  have hO : (Cond.arrayOver (.object RX4)).before args s = true := hts _ (zm_lw _ (List.mem_of_getElem? (i := 8) rfl))
  obtain ⟨aO, eO1, eO2⟩ := zArrO hO
  obtain ⟨adK, adV, hS1, hS2⟩ := zSof (A := fun q : Nat => s.heap.size ≤ q) hs hA
  obtain ⟨t0, a0, b0⟩ := zTof (A := fun q : Nat => s.heap.size ≤ q) hs hts hA 0 (by decide)
  obtain ⟨t1, a1, b1⟩ := zTof (A := fun q : Nat => s.heap.size ≤ q) hs hts hA 1 (by decide)
  obtain ⟨t2, a2, b2⟩ := zTof (A := fun q : Nat => s.heap.size ≤ q) hs hts hA 2 (by decide)
  refine ⟨(D, (aI, aY, aO), (adK, adV), (t0, t1, t2)), aJ, ⟨hDk, ?_⟩, ⟨hS1, ?_, ?_, ?_, ?_, ?_, ?_⟩, ⟨⟨?_, ?_⟩, ?_, ?_, ?_⟩, ⟨hDk, ?_⟩, ⟨hO, ?_⟩⟩
  · intro k q hq
    match k, hq with
    | 0, hq => cases hq; exact ⟨eI1, eI2⟩
    | 1, hq => cases hq; exact ⟨eY1, eY2⟩
    | 2, hq => cases hq; exact ⟨eO1, eO2⟩
    | k + 3, hq => simp [zTys] at hq
  · intro q hq
    obtain ⟨m1, m2, m3⟩ := zm_st q hq
    have e1 := hS2 _ m1
    refine vk_R.of (A := args) (hts _ m2) ?_
    rcases m3 with m3 | m3
    · rw [← m3]; exact e1
    · exact zEqR (hs _ m3) e1
  · intro k hk
    match k, hk with
    | 0, _ => exact ⟨a0, b0⟩
    | 1, _ => exact ⟨a1, b1⟩
    | 2, _ => exact ⟨a2, b2⟩
  · exact va_Zof (hts _ (zm_lw _ (List.mem_of_getElem? (i := 0) rfl))) (hts _ (zm_lw _ (List.mem_of_getElem? (i := 1) rfl))) (va_eqt (hs _ (zm_fl _ (List.mem_of_getElem? (i := 0) rfl)))) hA
  · exact vx_Zqof (hts _ (zm_lw _ (List.mem_of_getElem? (i := 2) rfl))) (hts _ (zm_lw _ (List.mem_of_getElem? (i := 4) rfl))) (hs _ (zm_fl _ (List.mem_of_getElem? (i := 1) rfl))) hA
  · exact vx_Zqof (hts _ (zm_lw _ (List.mem_of_getElem? (i := 3) rfl))) (hts _ (zm_lw _ (List.mem_of_getElem? (i := 4) rfl))) (hs _ (zm_fl _ (List.mem_of_getElem? (i := 2) rfl))) hA
  · exact va_Zqof (hts _ (zm_lw _ (List.mem_of_getElem? (i := 5) rfl))) (hts _ (zm_lw _ (List.mem_of_getElem? (i := 6) rfl))) (hs _ (zm_fl _ (List.mem_of_getElem? (i := 3) rfl))) hA
  · intro k
    match k with
    | 0 => exact zCa.of (hts _ (zm_lw _ (List.mem_of_getElem? (i := 12) rfl)))
    | 1 => exact zCa.of (hts _ (zm_lw _ (List.mem_of_getElem? (i := 13) rfl)))
    | k + 2 => exact zCa.of (hts _ (zm_lw _ (List.mem_of_getElem? (i := 14) rfl)))
  · intro X hX
    have hX : X = "java/lang/RuntimeException" ∨ X = "java/lang/Exception" ∨ X = "java/lang/Throwable" := by simpa [zXd] using hX
    rcases hX with rfl | rfl | rfl
    · exact va_Nw.of rfl (hts _ (zm_lw _ (List.mem_of_getElem? (i := 9) rfl)))
    · exact va_Nw.of rfl (hts _ (zm_lw _ (List.mem_of_getElem? (i := 10) rfl)))
    · exact va_Nw.of rfl (hts _ (zm_lw _ (List.mem_of_getElem? (i := 11) rfl)))
  · exact va_Nc.of (hs _ (zm_fl _ (List.mem_of_getElem? (i := 4) rfl)))
  · exact va_Nc.of (hs _ (zm_fl _ (List.mem_of_getElem? (i := 5) rfl)))
  · exact va_Nc.of (hs _ (zm_fl _ (List.mem_of_getElem? (i := 6) rfl)))
  · intro k q hq
    match k, hq with
    | 0, hq => cases hq; exact ⟨eJ1, eJ2⟩
    | k + 1, hq => simp [zJT] at hq
  · intro q hq
    exact va_Nw.of rfl (hts _ (zm_nest q hq))
