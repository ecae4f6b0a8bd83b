def zByte (w : Nat) (j : Nat) : Int32 := (zByt.getD w []).getD j 0
def zChk (i n : Int32) : Option Unit := if i < 0 then none else if i < n then some () else none
section ZS
variable {p : Program} {l : Launch} {e : Env} {R : Room} {s : State} {m : MethodId} {args : Array Value} {below : List Frame} {meth : Method} {c : Code} {H : Heap} {locs : List Loc} {cells slots : Nat} {Q : State → Prop}
variable {cc bytes : ByteArray} {nL maxL index n pc : Nat} {own C : String} {y : MethodName} {ret : Option FieldType} {rm : Room} {g : zEnv} {A : Nat → Prop} {W0 w : va_W} {v : Option Value} {b : Addr} {As rest st0 st1 : List Value} {ls : Array Slot} {β : Type} {r : β}
theorem z_vald {x : Nat} {i : Int32} {K : Int32 → Option β} (F : zF p m c cc nL s args own g A) (hw : x < 21) (hS : va_S A s.heap H locs) (hdg : decode cc pc = .ok (.baload, 1)) (h : Option.bind (zAld (zByte x) (zLen.getD x 0) i) K = some r)
    (kk : ∀ x : Int32, K x = some r → W p l e R s m args below meth c H locs cells slots Q (F0 m (pc + 1) ls (.int x :: rest))) : W p l e R s m args below meth c H locs cells slots Q (F0 m pc ls (.int i :: .ref (zAV g x) :: rest)) := by
  obtain ⟨z, h1, h2⟩ := z_bind h
  unfold zAld at h1
  split at h1
  · cases h1
  · next hi => cases h1; exact va_tb F.1.1 F.1.2.1 (F.2.2.1.1.1 x hw).2.2.2 hS hi rfl hdg (kk _ h2)
theorem zRVs (F : zF p m c cc nL s args own g A) (hM : ZR l y bytes maxL ret rm g (.ref b :: As) w v) (hy : zYv y C bytes maxL ret n) (hl : Cond.methodLink own index y ∈ ZW) (hP : va_P (zD g) vwCl W0 H) (hD : va_D A W0) (hS : va_S A s.heap H locs)
    (isC : List Nat) (hC : isC.map (fun i => W0[i]?) = w.map some) (hn : va_nd isC = true) (hrecv : ∃ cellB : Cell, H[b]? = some cellB ∧ cellB.vm.isStatics = false ∧ s.vm.findClass C = some cellB.cls) (hAs : As.length = n) (hls : ls.size = nL) (hst0 : st0 = As.reverse ++ .ref b :: rest) (hroom : (rest.map fun v => v.category).sum ≤ 8)
    (hr : rm.cells = 0 ∧ rm.slots = 0) (hR : rm.frames + 1 ≤ R.frames ∧ 8 + (maxL + 11) + rm.locals ≤ R.locals) (hcs : cells ≤ R.cells ∧ slots ≤ R.slots) (hdg : decode cc pc = .ok (.invokevirtual index, 3)) (h1 : v.toList ++ rest = st1)
    (kk : W p l e R s m args below meth c H locs cells slots Q (F0 m (pc + 3) ls st1)) : W p l e R s m args below meth c H locs cells slots Q (F0 m pc ls st0) :=
  zCut (a := #[]) (W.runV F.1 (hM H.size) ⟨zCallB F hy.2.2.2.1 hy.2.2.1 hy.2.2.2.2.1 hy.2.2.2.2.2 hl hr.1 hr.2 hR, F.1.2.2.2.2 _ hy.1, F.1.2.2.2.2 _ hy.2.1⟩ ⟨zPre_blind g w H.size _, hrecv, fun U hU hW => ⟨rfl, zPre_at F hP hD hS isC hC hn U hU hW⟩⟩ rfl hAs hls hst0 (lv_room hroom) hdg ⟨hcs.1, hcs.2⟩) h1 kk
theorem zy_J3 : zYs yJ3_checkIndex_8e157 cJ3_checkIndex_8e157 3 (some .int) 3 := ⟨zw_150, zw_151, zw_147, ⟨by decide, by decide⟩, by decide +kernel⟩
theorem zy_J0c : zYs yJ0_checkIndex_df160 cJ0_checkIndex_df160 2 none 2 := ⟨zw_154, zw_144, zw_152, ⟨by decide, by decide⟩, by decide +kernel⟩
abbrev rm_J3 : Room := { frames := 0, cells := 0, slots := 0, locals := 0 }
abbrev rm_J0c : Room := { frames := 1, cells := 0, slots := 0, locals := 22 }
set_option maxHeartbeats 4000000 in
theorem k_J3 (l : Launch) (g : zEnv) (i n : Int32) (v : Value) (hv : v = .null ∨ ∃ a, v = .ref a) (h0 : ¬ i < 0) (h1 : i < n) : ZR l yJ3_checkIndex_8e157 cJ3_checkIndex_8e157 3 (some .int) rm_J3 g [.int i, .int n, v] [] (some (.int i)) := by
  refine zR_of (by decide) (by rcases hv with rfl | ⟨a, rfl⟩ <;> exact Nat.le_of_ble_eq_true rfl) ?_
  intro p e s m below meth c A ls Q R F hRm hr hlocks hP hD hS hl hQ
  subst hRm
  have F : zF p m c cJ3_checkIndex_8e157 3 s (([.int i, .int n, v] : List Value)).toArray RJ3 g A := F
  have hx := F.1.1
  have hb := F.1.2.1
  have hl : lv_has ls 3 [(0, .int i), (1, .int n), (2, v)] := by rcases hv with rfl | ⟨a, rfl⟩ <;> exact hl
  refine lv_iload_n hx hb dJ3_checkIndex_8e157_0 rfl (lv_at hl 0 rfl) ?_
  refine lv_if_lt (tgt := 9) hx hb dJ3_checkIndex_8e157_1 (by decide) (fun q => absurd q h0) (fun _ => ?_)
  refine lv_iload_n hx hb dJ3_checkIndex_8e157_4 rfl (lv_at hl 0 rfl) ?_
  refine lv_iload_n hx hb dJ3_checkIndex_8e157_5 rfl (lv_at hl 1 rfl) ?_
  refine lv_icmp_lt (tgt := 16) hx hb dJ3_checkIndex_8e157_6 (by decide) (fun _ => ?_) (fun q => absurd h1 q)
  refine lv_iload_n hx hb dJ3_checkIndex_8e157_16 rfl (lv_at hl 0 rfl) ?_
  exact zR_i F hr hlocks hQ dJ3_checkIndex_8e157_17
set_option maxHeartbeats 4000000 in
theorem k_J0c (l : Launch) (g : zEnv) (i n : Int32) (h0 : ¬ i < 0) (h1 : i < n) : ZR l yJ0_checkIndex_df160 cJ0_checkIndex_df160 2 none rm_J0c g [.int i, .int n] [] none := by
  refine zR_of (by decide) (Nat.le_of_ble_eq_true rfl) ?_
  intro p e s m below meth c A ls Q R F hRm hr hlocks hP hD hS hl hQ
  subst hRm
  have F : zF p m c cJ0_checkIndex_df160 2 s (([.int i, .int n] : List Value)).toArray RJ0 g A := F
  have hx := F.1.1
  have hb := F.1.2.1
  have hz := F.1.2.2.2.2
  have hl : lv_has ls 2 [(0, .int i), (1, .int n)] := hl
  refine lv_iload_n hx hb dJ0_checkIndex_df160_0 rfl (lv_at hl 0 rfl) ?_
  refine lv_iload_n hx hb dJ0_checkIndex_df160_1 rfl (lv_at hl 1 rfl) ?_
  have hq := F.2.2.1.2.2.2.2.2.2
  rcases hq with hq | ⟨t, hq⟩
  · refine va_gets hx hb hq hS F.1.2.2.2.1 (hz _ zw_148) (fun _ h => h) dJ0_checkIndex_df160_2 ?_
    refine zRS F (k_J3 l g i n .null (Or.inl rfl) h0 h1) zy_J3 zw_149 hP hD hS [] rfl rfl (rest := []) rfl hl.1 rfl (Nat.le_of_ble_eq_true rfl) ⟨rfl, rfl⟩ ⟨Nat.le_of_ble_eq_true rfl, Nat.le_of_ble_eq_true rfl⟩ ⟨Nat.zero_le _, Nat.zero_le _⟩ dJ0_checkIndex_df160_5 (st1 := [.int i]) rfl ?_
    refine lv_pop hx hb dJ0_checkIndex_df160_8 rfl ?_
    exact zR_v F hr hlocks hQ dJ0_checkIndex_df160_9
  · refine va_gets hx hb hq hS F.1.2.2.2.1 (hz _ zw_148) (fun _ h => h) dJ0_checkIndex_df160_2 ?_
    refine zRS F (k_J3 l g i n (.ref t) (Or.inr ⟨t, rfl⟩) h0 h1) zy_J3 zw_149 hP hD hS [] rfl rfl (rest := []) rfl hl.1 rfl (Nat.le_of_ble_eq_true rfl) ⟨rfl, rfl⟩ ⟨Nat.le_of_ble_eq_true rfl, Nat.le_of_ble_eq_true rfl⟩ ⟨Nat.zero_le _, Nat.zero_le _⟩ dJ0_checkIndex_df160_5 (st1 := [.int i]) rfl ?_
    refine lv_pop hx hb dJ0_checkIndex_df160_8 rfl ?_
    exact zR_v F hr hlocks hQ dJ0_checkIndex_df160_9
theorem z_chk {i n : Int32} {K : Unit → Option β} (F : zF p m c cc nL s args own g A) (hP : va_P (zD g) vwCl W0 H) (hD : va_D A W0) (hS : va_S A s.heap H locs) (hls : ls.size = nL) (hl : Cond.methodLink own index yJ0_checkIndex_df160 ∈ ZW) (hroom : (rest.map fun v => v.category).sum ≤ 8) (hR : 2 ≤ R.frames ∧ 8 + (2 + 11) + 22 ≤ R.locals) (hdg : decode cc pc = .ok (.invokestatic index, 3)) (h : Option.bind (zChk i n) K = some r)
    (kk : ∀ x : Unit, K x = some r → W p l e R s m args below meth c H locs 0 0 Q (F0 m (pc + 3) ls rest)) : W p l e R s m args below meth c H locs 0 0 Q (F0 m pc ls (.int n :: .int i :: rest)) := by
  obtain ⟨z, h1, h2⟩ := z_bind h
  unfold zChk at h1
  split at h1
  · cases h1
  · next h0 =>
    split at h1
    · next hn => exact zRS F (k_J0c l g i n h0 hn) zy_J0c hl hP hD hS [] rfl rfl (rest := rest) rfl hls rfl hroom ⟨rfl, rfl⟩ hR ⟨Nat.zero_le _, Nat.zero_le _⟩ hdg (st1 := rest) rfl (kk z h2)
    · cases h1
end ZS
def f_J0_coder_7d493 (N : Nat) (x0 : Nat) : Option Int32 :=
  if (1 : Int32) = 0 then Option.bind (zNar .byte 1) (fun (x1_ : Int32) => some 1) else Option.bind (zNar .byte 0) (fun (x2_ : Int32) => some 0)
abbrev rm_J0_coder_7d493 : Room := { frames := 0, cells := 0, slots := 0, locals := 0 }
theorem zy_J0_coder_7d493 : zYv yJ0_coder_7d493 RJ0 cJ0_coder_7d493 1 (some .byte) 0 := ⟨zw_142, zw_143, zw_144, zw_139, ⟨by decide, by decide⟩, by decide +kernel⟩
set_option maxHeartbeats 4000000 in
set_option maxRecDepth 100000 in
theorem k_J0_coder_7d493 (l : Launch) (N : Nat) (g : zEnv) (x0 : Nat) (r : Int32) (h : f_J0_coder_7d493 N x0 = some r) (hw : x0 < 21) : ZR l yJ0_coder_7d493 cJ0_coder_7d493 1 (some .byte) rm_J0_coder_7d493 g [.ref (zAK g x0)] [] (some (.int r)) := by
  refine zR_of (by decide) (Nat.le_of_ble_eq_true rfl) ?_
  intro p e s m below meth c A ls Q R F hRm hr hlocks hP hD hS hl hQ
  subst hRm
  have F : zF p m c cJ0_coder_7d493 1 s (([.ref (zAK g x0)] : List Value)).toArray RJ0 g A := F
  have hx := F.1.1
  have hb := F.1.2.1
  have hz := F.1.2.2.2.2
  have hl : lv_has ls 1 [(0, .ref (zAK g x0))] := hl
  unfold f_J0_coder_7d493 at h
  refine va_gets hx hb F.2.2.1.2.2.2.1 hS F.1.2.2.2.1 (hz _ zw_137) (fun _ h => h) dJ0_coder_7d493_0 ?_
  refine z_eq (tgt := 13) hx hb dJ0_coder_7d493_3 (by decide) h (fun h => ?_) (fun h => ?_)
  · refine lv_iconst (v := 1) hx hb dJ0_coder_7d493_13 (by decide) ?_
    obtain ⟨x1_, hnx1_, h⟩ := z_bind h
    have hnx1_ := zNar_spec hnx1_
    obtain rfl := Option.some.inj h
    exact zR_n F hr hlocks hQ hnx1_ dJ0_coder_7d493_14
  · refine lv_aload_n hx hb dJ0_coder_7d493_6 rfl (lv_at hl 0 rfl) ?_
    refine vk_getf hx hb (F.2.2.1.1.1 x0 hw).2.1 hS F.1.2.2.2.1 (hz _ zw_138) (fun _ h => h) dJ0_coder_7d493_7 ?_
    refine lv_goto (tgt := 14) hx hb dJ0_coder_7d493_10 (by decide) ?_
    obtain ⟨x2_, hnx2_, h⟩ := z_bind h
    have hnx2_ := zNar_spec hnx2_
    obtain rfl := Option.some.inj h
    exact zR_n F hr hlocks hQ hnx2_ dJ0_coder_7d493_14
def f_J0_length_8abf5 (N : Nat) (x0 : Nat) : Option Int32 :=
  Option.bind (f_J0_coder_7d493 N x0) (fun (r1_ : Int32) => some ((Int32.ofNat (zLen.getD x0 0)) >>> (r1_ &&& (31 : Int32))))
abbrev rm_J0_length_8abf5 : Room := { frames := 1, cells := 0, slots := 0, locals := 20 }
theorem zy_J0_length_8abf5 : zYv yJ0_length_8abf5 RJ0 cJ0_length_8abf5 1 (some .int) 0 := ⟨zw_164, zw_165, zw_144, zw_145, ⟨by decide, by decide⟩, by decide +kernel⟩
set_option maxHeartbeats 4000000 in
set_option maxRecDepth 100000 in
theorem k_J0_length_8abf5 (l : Launch) (N : Nat) (g : zEnv) (x0 : Nat) (r : Int32) (h : f_J0_length_8abf5 N x0 = some r) (hw : x0 < 21) : ZR l yJ0_length_8abf5 cJ0_length_8abf5 1 (some .int) rm_J0_length_8abf5 g [.ref (zAK g x0)] [] (some (.int r)) := by
  refine zR_of (by decide) (Nat.le_of_ble_eq_true rfl) ?_
  intro p e s m below meth c A ls Q R F hRm hr hlocks hP hD hS hl hQ
  subst hRm
  have F : zF p m c cJ0_length_8abf5 1 s (([.ref (zAK g x0)] : List Value)).toArray RJ0 g A := F
  have hx := F.1.1
  have hb := F.1.2.1
  have hz := F.1.2.2.2.2
  have hl : lv_has ls 1 [(0, .ref (zAK g x0))] := hl
  unfold f_J0_length_8abf5 at h
  refine lv_aload_n hx hb dJ0_length_8abf5_0 rfl (lv_at hl 0 rfl) ?_
  refine vk_getf hx hb (F.2.2.1.1.1 x0 hw).2.2.1 hS F.1.2.2.2.1 (hz _ zw_140) (fun _ h => h) dJ0_length_8abf5_1 ?_
  refine va_tlen (v := Int32.ofNat (zLen.getD x0 0)) hx hb (F.2.2.1.1.1 x0 hw).2.2.2 hS rfl dJ0_length_8abf5_4 ?_
  refine lv_aload_n hx hb dJ0_length_8abf5_5 rfl (lv_at hl 0 rfl) ?_
  obtain ⟨r1_, hr1_, h⟩ := z_bind h
  refine zRVs F (k_J0_coder_7d493 l N g x0 _ hr1_ hw) zy_J0_coder_7d493 zw_141 hP hD hS [] rfl rfl (vk_recv F.2.2.1.1 hw hS) (rest := [.int (Int32.ofNat (zLen.getD x0 0))]) rfl hl.1 rfl (Nat.le_of_ble_eq_true rfl) ⟨rfl, rfl⟩ ⟨Nat.le_of_ble_eq_true rfl, Nat.le_of_ble_eq_true rfl⟩ ⟨Nat.zero_le _, Nat.zero_le _⟩ dJ0_length_8abf5_6 (st1 := [.int r1_, .int (Int32.ofNat (zLen.getD x0 0))]) rfl ?_
  refine lv_ishr hx hb dJ0_length_8abf5_9 ?_
  obtain rfl := Option.some.inj h
  exact zR_i F hr hlocks hQ dJ0_length_8abf5_10
def f_J0_isLatin1_aae02 (N : Nat) (x0 : Nat) : Option Int32 :=
  if (1 : Int32) = 0 then some 0 else if (0 : Int32) = 0 then some 1 else some 0
abbrev rm_J0_isLatin1_aae02 : Room := { frames := 0, cells := 0, slots := 0, locals := 0 }
theorem zy_J0_isLatin1_aae02 : zYv yJ0_isLatin1_aae02 RJ0 cJ0_isLatin1_aae02 1 (some .boolean) 0 := ⟨zw_157, zw_158, zw_144, zw_146, ⟨by decide, by decide⟩, by decide +kernel⟩
set_option maxHeartbeats 4000000 in
set_option maxRecDepth 100000 in
theorem k_J0_isLatin1_aae02 (l : Launch) (N : Nat) (g : zEnv) (x0 : Nat) (r : Int32) (h : f_J0_isLatin1_aae02 N x0 = some r) (hw : x0 < 21) : ZR l yJ0_isLatin1_aae02 cJ0_isLatin1_aae02 1 (some .boolean) rm_J0_isLatin1_aae02 g [.ref (zAK g x0)] [] (some (.int r)) := by
  refine zR_of (by decide) (Nat.le_of_ble_eq_true rfl) ?_
  intro p e s m below meth c A ls Q R F hRm hr hlocks hP hD hS hl hQ
  subst hRm
  have F : zF p m c cJ0_isLatin1_aae02 1 s (([.ref (zAK g x0)] : List Value)).toArray RJ0 g A := F
  have hx := F.1.1
  have hb := F.1.2.1
  have hz := F.1.2.2.2.2
  have hl : lv_has ls 1 [(0, .ref (zAK g x0))] := hl
  unfold f_J0_isLatin1_aae02 at h
  refine va_gets hx hb F.2.2.1.2.2.2.1 hS F.1.2.2.2.1 (hz _ zw_137) (fun _ h => h) dJ0_isLatin1_aae02_0 ?_
  refine z_eq (tgt := 17) hx hb dJ0_isLatin1_aae02_3 (by decide) h (fun h => ?_) (fun h => ?_)
  · refine lv_iconst (v := 0) hx hb dJ0_isLatin1_aae02_17 (by decide) ?_
    obtain rfl := Option.some.inj h
    exact zR_n F hr hlocks hQ rfl dJ0_isLatin1_aae02_18
  · refine lv_aload_n hx hb dJ0_isLatin1_aae02_6 rfl (lv_at hl 0 rfl) ?_
    refine vk_getf hx hb (F.2.2.1.1.1 x0 hw).2.1 hS F.1.2.2.2.1 (hz _ zw_138) (fun _ h => h) dJ0_isLatin1_aae02_7 ?_
    refine z_ne (tgt := 17) hx hb dJ0_isLatin1_aae02_10 (by decide) h (fun h => ?_) (fun h => ?_)
    · refine lv_iconst (v := 0) hx hb dJ0_isLatin1_aae02_17 (by decide) ?_
      obtain rfl := Option.some.inj h
      exact zR_n F hr hlocks hQ rfl dJ0_isLatin1_aae02_18
    · refine lv_iconst (v := 1) hx hb dJ0_isLatin1_aae02_13 (by decide) ?_
      refine lv_goto (tgt := 18) hx hb dJ0_isLatin1_aae02_14 (by decide) ?_
      obtain rfl := Option.some.inj h
      exact zR_n F hr hlocks hQ rfl dJ0_isLatin1_aae02_18
def f_J1_charAt_3b067 (N : Nat) (x0 : Nat) (x1 : Int32) : Option Int32 :=
  Option.bind (zChk x1 (Int32.ofNat (zLen.getD x0 0))) (fun (x1_ : Unit) => Option.bind (zAld (zByte x0) (zLen.getD x0 0) x1) (fun (x2_ : Int32) => Option.bind (some ((((x2_ &&& (255 : Int32))).toUInt32 % 65536).toInt32)) (fun (x3_ : Int32) => Option.bind (zNar .char x3_) (fun (x4_ : Int32) => some x3_))))
abbrev rm_J1_charAt_3b067 : Room := { frames := 3, cells := 0, slots := 0, locals := 80 }
theorem zy_J1_charAt_3b067 : zYs yJ1_charAt_3b067 cJ1_charAt_3b067 2 (some .char) 2 := ⟨zw_160, zw_161, zw_155, ⟨by decide, by decide⟩, by decide +kernel⟩
set_option maxHeartbeats 4000000 in
set_option maxRecDepth 100000 in
theorem k_J1_charAt_3b067 (l : Launch) (N : Nat) (g : zEnv) (x0 : Nat) (x1 : Int32) (r : Int32) (h : f_J1_charAt_3b067 N x0 x1 = some r) (hw : x0 < 21) : ZR l yJ1_charAt_3b067 cJ1_charAt_3b067 2 (some .char) rm_J1_charAt_3b067 g [.ref (zAV g x0), .int x1] [] (some (.int r)) := by
  refine zR_of (by decide) (Nat.le_of_ble_eq_true rfl) ?_
  intro p e s m below meth c A ls Q R F hRm hr hlocks hP hD hS hl hQ
  subst hRm
  have F : zF p m c cJ1_charAt_3b067 2 s (([.ref (zAV g x0), .int x1] : List Value)).toArray RJ1 g A := F
  have hx := F.1.1
  have hb := F.1.2.1
  have hz := F.1.2.2.2.2
  have hl : lv_has ls 2 [(0, .ref (zAV g x0)), (1, .int x1)] := hl
  unfold f_J1_charAt_3b067 at h
  refine lv_iload_n hx hb dJ1_charAt_3b067_0 rfl (lv_at hl 1 rfl) ?_
  refine lv_aload_n hx hb dJ1_charAt_3b067_1 rfl (lv_at hl 0 rfl) ?_
  refine va_tlen (v := Int32.ofNat (zLen.getD x0 0)) hx hb (F.2.2.1.1.1 x0 hw).2.2.2 hS rfl dJ1_charAt_3b067_2 ?_
  refine z_chk F hP hD hS hl.1 zw_153 (rest := []) (Nat.le_of_ble_eq_true rfl) ⟨Nat.le_of_ble_eq_true rfl, Nat.le_of_ble_eq_true rfl⟩ dJ1_charAt_3b067_3 h (fun x1_ h => ?_)
  refine lv_aload_n hx hb dJ1_charAt_3b067_6 rfl (lv_at hl 0 rfl) ?_
  refine lv_iload_n hx hb dJ1_charAt_3b067_7 rfl (lv_at hl 1 rfl) ?_
  refine z_vald F hw hS dJ1_charAt_3b067_8 h (fun x2_ h => ?_)
  refine lv_sipush (v := 255) hx hb dJ1_charAt_3b067_9 (by decide) ?_
  refine lv_iand hx hb dJ1_charAt_3b067_12 ?_
  refine lv_i2c hx hb dJ1_charAt_3b067_13 rfl ?_
  refine z_top Value.int h (fun x3_ h => ?_)
  obtain ⟨x4_, hnx4_, h⟩ := z_bind h
  have hnx4_ := zNar_spec hnx4_
  obtain rfl := Option.some.inj h
  exact zR_n F hr hlocks hQ hnx4_ dJ1_charAt_3b067_14
def f_J0_charAt_5068e (N : Nat) (x0 : Nat) (x1 : Int32) : Option Int32 :=
  Option.bind (f_J0_isLatin1_aae02 N x0) (fun (r1_ : Int32) => if r1_ = 0 then none else Option.bind (f_J1_charAt_3b067 N x0 x1) (fun (r2_ : Int32) => Option.bind (zNar .char r2_) (fun (x3_ : Int32) => some r2_)))
abbrev rm_J0_charAt_5068e : Room := { frames := 4, cells := 0, slots := 0, locals := 101 }
theorem zy_J0_charAt_5068e : zYv yJ0_charAt_5068e RJ0 cJ0_charAt_5068e 2 (some .char) 1 := ⟨zw_167, zw_168, zw_144, zw_162, ⟨by decide, by decide⟩, by decide +kernel⟩
set_option maxHeartbeats 4000000 in
set_option maxRecDepth 100000 in
theorem k_J0_charAt_5068e (l : Launch) (N : Nat) (g : zEnv) (x0 : Nat) (x1 : Int32) (r : Int32) (h : f_J0_charAt_5068e N x0 x1 = some r) (hw : x0 < 21) : ZR l yJ0_charAt_5068e cJ0_charAt_5068e 2 (some .char) rm_J0_charAt_5068e g [.ref (zAK g x0), .int x1] [] (some (.int r)) := by
  refine zR_of (by decide) (Nat.le_of_ble_eq_true rfl) ?_
  intro p e s m below meth c A ls Q R F hRm hr hlocks hP hD hS hl hQ
  subst hRm
  have F : zF p m c cJ0_charAt_5068e 2 s (([.ref (zAK g x0), .int x1] : List Value)).toArray RJ0 g A := F
  have hx := F.1.1
  have hb := F.1.2.1
  have hz := F.1.2.2.2.2
  have hl : lv_has ls 2 [(0, .ref (zAK g x0)), (1, .int x1)] := hl
  unfold f_J0_charAt_5068e at h
  refine lv_aload_n hx hb dJ0_charAt_5068e_0 rfl (lv_at hl 0 rfl) ?_
  obtain ⟨r1_, hr1_, h⟩ := z_bind h
  refine zRVs F (k_J0_isLatin1_aae02 l N g x0 _ hr1_ hw) zy_J0_isLatin1_aae02 zw_156 hP hD hS [] rfl rfl (vk_recv F.2.2.1.1 hw hS) (rest := []) rfl hl.1 rfl (Nat.le_of_ble_eq_true rfl) ⟨rfl, rfl⟩ ⟨Nat.le_of_ble_eq_true rfl, Nat.le_of_ble_eq_true rfl⟩ ⟨Nat.zero_le _, Nat.zero_le _⟩ dJ0_charAt_5068e_1 (st1 := [.int r1_]) rfl ?_
  refine z_eq (tgt := 16) hx hb dJ0_charAt_5068e_4 (by decide) h (fun h => ?_) (fun h => ?_)
  · refine lv_aload_n hx hb dJ0_charAt_5068e_16 rfl (lv_at hl 0 rfl) ?_
    refine vk_getf hx hb (F.2.2.1.1.1 x0 hw).2.2.1 hS F.1.2.2.2.1 (hz _ zw_140) (fun _ h => h) dJ0_charAt_5068e_17 ?_
    refine lv_iload_n hx hb dJ0_charAt_5068e_20 rfl (lv_at hl 1 rfl) ?_
    cases h
  · refine lv_aload_n hx hb dJ0_charAt_5068e_7 rfl (lv_at hl 0 rfl) ?_
    refine vk_getf hx hb (F.2.2.1.1.1 x0 hw).2.2.1 hS F.1.2.2.2.1 (hz _ zw_140) (fun _ h => h) dJ0_charAt_5068e_8 ?_
    refine lv_iload_n hx hb dJ0_charAt_5068e_11 rfl (lv_at hl 1 rfl) ?_
    obtain ⟨r2_, hr2_, h⟩ := z_bind h
    refine zRS F (k_J1_charAt_3b067 l N g x0 x1 _ hr2_ hw) zy_J1_charAt_3b067 zw_159 hP hD hS [] rfl rfl (rest := []) rfl hl.1 rfl (Nat.le_of_ble_eq_true rfl) ⟨rfl, rfl⟩ ⟨Nat.le_of_ble_eq_true rfl, Nat.le_of_ble_eq_true rfl⟩ ⟨Nat.zero_le _, Nat.zero_le _⟩ dJ0_charAt_5068e_12 (st1 := [.int r2_]) rfl ?_
    obtain ⟨x3_, hnx3_, h⟩ := z_bind h
    have hnx3_ := zNar_spec hnx3_
    obtain rfl := Option.some.inj h
    exact zR_n F hr hlocks hQ hnx3_ dJ0_charAt_5068e_15
def f_J1_canEncode_9a6ad (N : Nat) (x0 : Int32) : Option Int32 :=
  if x0 < 0 then some 0 else if 255 < x0 then some 0 else some 1
abbrev rm_J1_canEncode_9a6ad : Room := { frames := 0, cells := 0, slots := 0, locals := 0 }
theorem zy_J1_canEncode_9a6ad : zYs yJ1_canEncode_9a6ad cJ1_canEncode_9a6ad 1 (some .boolean) 1 := ⟨zw_218, zw_161, zw_211, ⟨by decide, by decide⟩, by decide +kernel⟩
set_option maxHeartbeats 4000000 in
set_option maxRecDepth 100000 in
theorem k_J1_canEncode_9a6ad (l : Launch) (N : Nat) (g : zEnv) (x0 : Int32) (r : Int32) (h : f_J1_canEncode_9a6ad N x0 = some r) : ZR l yJ1_canEncode_9a6ad cJ1_canEncode_9a6ad 1 (some .boolean) rm_J1_canEncode_9a6ad g [.int x0] [] (some (.int r)) := by
  refine zR_of (by decide) (Nat.le_of_ble_eq_true rfl) ?_
  intro p e s m below meth c A ls Q R F hRm hr hlocks hP hD hS hl hQ
  subst hRm
  have F : zF p m c cJ1_canEncode_9a6ad 1 s (([.int x0] : List Value)).toArray RJ1 g A := F
  have hx := F.1.1
  have hb := F.1.2.1
  have hz := F.1.2.2.2.2
  have hl : lv_has ls 1 [(0, .int x0)] := hl
  unfold f_J1_canEncode_9a6ad at h
  refine lv_iload_n hx hb dJ1_canEncode_9a6ad_0 rfl (lv_at hl 0 rfl) ?_
  refine z_lt (tgt := 15) hx hb dJ1_canEncode_9a6ad_1 (by decide) h (fun h => ?_) (fun h => ?_)
  · refine lv_iconst (v := 0) hx hb dJ1_canEncode_9a6ad_15 (by decide) ?_
    obtain rfl := Option.some.inj h
    exact zR_n F hr hlocks hQ rfl dJ1_canEncode_9a6ad_16
  · refine lv_iload_n hx hb dJ1_canEncode_9a6ad_4 rfl (lv_at hl 0 rfl) ?_
    refine lv_sipush (v := 255) hx hb dJ1_canEncode_9a6ad_5 (by decide) ?_
    refine z_cgt (tgt := 15) hx hb dJ1_canEncode_9a6ad_8 (by decide) h (fun h => ?_) (fun h => ?_)
    · refine lv_iconst (v := 0) hx hb dJ1_canEncode_9a6ad_15 (by decide) ?_
      obtain rfl := Option.some.inj h
      exact zR_n F hr hlocks hQ rfl dJ1_canEncode_9a6ad_16
    · refine lv_iconst (v := 1) hx hb dJ1_canEncode_9a6ad_11 (by decide) ?_
      refine lv_goto (tgt := 16) hx hb dJ1_canEncode_9a6ad_12 (by decide) ?_
      obtain rfl := Option.some.inj h
      exact zR_n F hr hlocks hQ rfl dJ1_canEncode_9a6ad_16
def f_J1_indexOfChar_4cfef_B7 (N : Nat) (x3 : Int32) (x0 : Nat) (x1_ : Int32) (kh7_ : Int32 → Option Int32) (v7_ : Int32) : Option Int32 :=
  if v7_ < x3 then Option.bind (zAld (zByte x0) (zLen.getD x0 0) v7_) (fun (x2_ : Int32) => if x2_ = x1_ then some v7_ else Option.bind (some (v7_ + 1)) (fun (x3_ : Int32) => kh7_ x3_)) else some (-1)
def f_J1_indexOfChar_4cfef (N : Nat) (x0 : Nat) (x1 : Int32) (x2 : Int32) (x3 : Int32) : Option Int32 :=
  Option.bind (some ((x1).toInt8.toInt32)) (fun (x1_ : Int32) => zLoop (f_J1_indexOfChar_4cfef_B7 N x3 x0 x1_) N x2)
abbrev rm_J1_indexOfChar_4cfef : Room := { frames := 0, cells := 0, slots := 0, locals := 0 }
theorem zy_J1_indexOfChar_4cfef : zYs yJ1_indexOfChar_4cfef cJ1_indexOfChar_4cfef 6 (some .int) 4 := ⟨zw_220, zw_161, zw_212, ⟨by decide, by decide⟩, by decide +kernel⟩
set_option maxHeartbeats 4000000 in
set_option maxRecDepth 100000 in
theorem k_J1_indexOfChar_4cfef (l : Launch) (N : Nat) (g : zEnv) (x0 : Nat) (x1 : Int32) (x2 : Int32) (x3 : Int32) (r : Int32) (h : f_J1_indexOfChar_4cfef N x0 x1 x2 x3 = some r) (hw : x0 < 21) : ZR l yJ1_indexOfChar_4cfef cJ1_indexOfChar_4cfef 6 (some .int) rm_J1_indexOfChar_4cfef g [.ref (zAV g x0), .int x1, .int x2, .int x3] [] (some (.int r)) := by
  refine zR_of (by decide) (Nat.le_of_ble_eq_true rfl) ?_
  intro p e s m below meth c A ls Q R F hRm hr hlocks hP hD hS hl hQ
  subst hRm
  have F : zF p m c cJ1_indexOfChar_4cfef 6 s (([.ref (zAV g x0), .int x1, .int x2, .int x3] : List Value)).toArray RJ1 g A := F
  have hx := F.1.1
  have hb := F.1.2.1
  have hz := F.1.2.2.2.2
  have hl : lv_has ls 6 [(0, .ref (zAV g x0)), (1, .int x1), (2, .int x2), (3, .int x3)] := hl
  unfold f_J1_indexOfChar_4cfef at h
  refine lv_iload_n hx hb dJ1_indexOfChar_4cfef_0 rfl (lv_at hl 1 rfl) ?_
  refine lv_i2b hx hb dJ1_indexOfChar_4cfef_1 rfl ?_
  refine z_top Value.int h (fun x1_ h => ?_)
  refine lv_istore (lv' := [(4, .int x1_), (0, .ref (zAV g x0)), (1, .int x1), (2, .int x2), (3, .int x3)]) hx hb dJ1_indexOfChar_4cfef_2 hl (by decide) rfl (fun ls hl => ?_)
  refine lv_iload_n hx hb dJ1_indexOfChar_4cfef_4 rfl (lv_at hl 3 rfl) ?_
  refine lv_istore (lv' := [(5, .int x2), (4, .int x1_), (0, .ref (zAV g x0)), (1, .int x1), (2, .int x2), (3, .int x3)]) hx hb dJ1_indexOfChar_4cfef_5 hl (by decide) rfl (fun ls hl => ?_)
  have l7_ : ∀ (n7_ : Nat) (v7_ : Int32), zLoop (f_J1_indexOfChar_4cfef_B7 N x3 x0 x1_) n7_ v7_ = some r → ∀ (ls : Array Slot), lv_has ls 6 [(0, .ref (zAV g x0)), (3, .int x3), (4, .int x1_), (5, .int v7_)] → W p l e rm_J1_indexOfChar_4cfef s m (([.ref (zAV g x0), .int x1, .int x2, .int x3] : List Value)).toArray below meth c s.heap [] 0 0 Q (F0 m 7 ls []) := by
    intro n7_
    induction n7_ with
    | zero => intro v7_ h; cases h
    | succ n7_ ih7_ =>
      intro v7_ h ls hl
      have h : f_J1_indexOfChar_4cfef_B7 N x3 x0 x1_ (zLoop (f_J1_indexOfChar_4cfef_B7 N x3 x0 x1_) n7_) v7_ = some r := h
      unfold f_J1_indexOfChar_4cfef_B7 at h
      refine lv_iload hx hb dJ1_indexOfChar_4cfef_7 (lv_at hl 3 rfl) ?_
      refine lv_iload_n hx hb dJ1_indexOfChar_4cfef_9 rfl (lv_at hl 1 rfl) ?_
      refine z_cge (tgt := 31) hx hb dJ1_indexOfChar_4cfef_10 (by decide) h (fun h => ?_) (fun h => ?_)
      · refine lv_iconst (v := (-1)) hx hb dJ1_indexOfChar_4cfef_31 (by decide) ?_
        obtain rfl := Option.some.inj h
        exact zR_i F hr hlocks hQ dJ1_indexOfChar_4cfef_32
      · refine lv_aload_n hx hb dJ1_indexOfChar_4cfef_13 rfl (lv_at hl 0 rfl) ?_
        refine lv_iload hx hb dJ1_indexOfChar_4cfef_14 (lv_at hl 3 rfl) ?_
        refine z_vald F hw hS dJ1_indexOfChar_4cfef_16 h (fun x2_ h => ?_)
        refine lv_iload hx hb dJ1_indexOfChar_4cfef_17 (lv_at hl 2 rfl) ?_
        refine z_cne (tgt := 25) hx hb dJ1_indexOfChar_4cfef_19 (by decide) h (fun h => ?_) (fun h => ?_)
        · refine z_nm h (fun x3_ ex3_ h => ?_)
          refine lv_iinc (v := x3_) (lv' := [(5, .int x3_), (0, .ref (zAV g x0)), (3, .int x3), (4, .int x1_)]) hx hb dJ1_indexOfChar_4cfef_25 hl (k := 3) rfl (by rw [ex3_]; rfl) (by decide) rfl (fun ls hl => ?_)
          refine lv_goto (tgt := 7) hx hb dJ1_indexOfChar_4cfef_28 (by decide) ?_
          exact ih7_ _ h _ (lv_sub hl [1, 2, 3, 0] rfl)
        · refine lv_iload hx hb dJ1_indexOfChar_4cfef_22 (lv_at hl 3 rfl) ?_
          obtain rfl := Option.some.inj h
          exact zR_i F hr hlocks hQ dJ1_indexOfChar_4cfef_24
  exact l7_ N _ h _ (lv_sub hl [2, 5, 1, 0] rfl)
def f_J1_indexOf_4cfef (N : Nat) (x0 : Nat) (x1 : Int32) (x2 : Int32) (x3 : Int32) : Option Int32 :=
  Option.bind (f_J1_canEncode_9a6ad N x1) (fun (r1_ : Int32) => if r1_ = 0 then some (-1) else Option.bind (some (zMax x2 0)) (fun (x2_ : Int32) => Option.bind (some (zMin x3 (Int32.ofNat (zLen.getD x0 0)))) (fun (x3_ : Int32) => if x2_ < x3_ then Option.bind (f_J1_indexOfChar_4cfef N x0 x1 x2_ x3_) (fun (r4_ : Int32) => some r4_) else some (-1))))
abbrev rm_J1_indexOf_4cfef : Room := { frames := 1, cells := 0, slots := 0, locals := 25 }
theorem zy_J1_indexOf_4cfef : zYs yJ1_indexOf_4cfef cJ1_indexOf_4cfef 4 (some .int) 4 := ⟨zw_224, zw_161, zw_221, ⟨by decide, by decide⟩, by decide +kernel⟩
set_option maxHeartbeats 4000000 in
set_option maxRecDepth 100000 in
theorem k_J1_indexOf_4cfef (l : Launch) (N : Nat) (g : zEnv) (x0 : Nat) (x1 : Int32) (x2 : Int32) (x3 : Int32) (r : Int32) (h : f_J1_indexOf_4cfef N x0 x1 x2 x3 = some r) (hw : x0 < 21) : ZR l yJ1_indexOf_4cfef cJ1_indexOf_4cfef 4 (some .int) rm_J1_indexOf_4cfef g [.ref (zAV g x0), .int x1, .int x2, .int x3] [] (some (.int r)) := by
  refine zR_of (by decide) (Nat.le_of_ble_eq_true rfl) ?_
  intro p e s m below meth c A ls Q R F hRm hr hlocks hP hD hS hl hQ
  subst hRm
  have F : zF p m c cJ1_indexOf_4cfef 4 s (([.ref (zAV g x0), .int x1, .int x2, .int x3] : List Value)).toArray RJ1 g A := F
  have hx := F.1.1
  have hb := F.1.2.1
  have hz := F.1.2.2.2.2
  have hl : lv_has ls 4 [(0, .ref (zAV g x0)), (1, .int x1), (2, .int x2), (3, .int x3)] := hl
  unfold f_J1_indexOf_4cfef at h
  refine lv_iload_n hx hb dJ1_indexOf_4cfef_0 rfl (lv_at hl 1 rfl) ?_
  obtain ⟨r1_, hr1_, h⟩ := z_bind h
  refine zRS F (k_J1_canEncode_9a6ad l N g x1 _ hr1_) zy_J1_canEncode_9a6ad zw_217 hP hD hS [] rfl rfl (rest := []) rfl hl.1 rfl (Nat.le_of_ble_eq_true rfl) ⟨rfl, rfl⟩ ⟨Nat.le_of_ble_eq_true rfl, Nat.le_of_ble_eq_true rfl⟩ ⟨Nat.zero_le _, Nat.zero_le _⟩ dJ1_indexOf_4cfef_1 (st1 := [.int r1_]) rfl ?_
  refine z_ne (tgt := 9) hx hb dJ1_indexOf_4cfef_4 (by decide) h (fun h => ?_) (fun h => ?_)
  · refine lv_iload_n hx hb dJ1_indexOf_4cfef_9 rfl (lv_at hl 2 rfl) ?_
    refine lv_iconst (v := 0) hx hb dJ1_indexOf_4cfef_10 (by decide) ?_
    refine va_mmax hx hb (F.1.2.2.1.trans hl.1.symm) F.1.2.2.2.1 (hz _ zw_213) (hz _ zw_214) (hz _ zw_45) (hz _ zw_215) (Nat.le_of_ble_eq_true rfl) (Nat.le_of_ble_eq_true rfl) (Nat.zero_le _) (Nat.zero_le _) dJ1_indexOf_4cfef_11 ?_
    refine z_top Value.int h (fun x2_ h => ?_)
    refine lv_istore_n (lv' := [(2, .int x2_), (0, .ref (zAV g x0)), (1, .int x1), (3, .int x3)]) hx hb dJ1_indexOf_4cfef_14 rfl hl (by decide) rfl (fun ls hl => ?_)
    refine lv_iload_n hx hb dJ1_indexOf_4cfef_15 rfl (lv_at hl 3 rfl) ?_
    refine lv_aload_n hx hb dJ1_indexOf_4cfef_16 rfl (lv_at hl 1 rfl) ?_
    refine va_tlen (v := Int32.ofNat (zLen.getD x0 0)) hx hb (F.2.2.1.1.1 x0 hw).2.2.2 hS rfl dJ1_indexOf_4cfef_17 ?_
    refine va_mmin hx hb (F.1.2.2.1.trans hl.1.symm) F.1.2.2.2.1 (hz _ zw_216) (hz _ zw_44) (hz _ zw_45) (hz _ zw_46) (Nat.le_of_ble_eq_true rfl) (Nat.le_of_ble_eq_true rfl) (Nat.zero_le _) (Nat.zero_le _) dJ1_indexOf_4cfef_18 ?_
    refine z_top Value.int h (fun x3_ h => ?_)
    refine lv_istore_n (lv' := [(3, .int x3_), (2, .int x2_), (0, .ref (zAV g x0)), (1, .int x1)]) hx hb dJ1_indexOf_4cfef_21 rfl hl (by decide) rfl (fun ls hl => ?_)
    refine lv_iload_n hx hb dJ1_indexOf_4cfef_22 rfl (lv_at hl 1 rfl) ?_
    refine lv_iload_n hx hb dJ1_indexOf_4cfef_23 rfl (lv_at hl 0 rfl) ?_
    refine z_clt (tgt := 29) hx hb dJ1_indexOf_4cfef_24 (by decide) h (fun h => ?_) (fun h => ?_)
    · refine lv_aload_n hx hb dJ1_indexOf_4cfef_29 rfl (lv_at hl 2 rfl) ?_
      refine lv_iload_n hx hb dJ1_indexOf_4cfef_30 rfl (lv_at hl 3 rfl) ?_
      refine lv_iload_n hx hb dJ1_indexOf_4cfef_31 rfl (lv_at hl 1 rfl) ?_
      refine lv_iload_n hx hb dJ1_indexOf_4cfef_32 rfl (lv_at hl 0 rfl) ?_
      obtain ⟨r4_, hr4_, h⟩ := z_bind h
      refine zRS F (k_J1_indexOfChar_4cfef l N g x0 x1 x2_ x3_ _ hr4_ hw) zy_J1_indexOfChar_4cfef zw_219 hP hD hS [] rfl rfl (rest := []) rfl hl.1 rfl (Nat.le_of_ble_eq_true rfl) ⟨rfl, rfl⟩ ⟨Nat.le_of_ble_eq_true rfl, Nat.le_of_ble_eq_true rfl⟩ ⟨Nat.zero_le _, Nat.zero_le _⟩ dJ1_indexOf_4cfef_33 (st1 := [.int r4_]) rfl ?_
      obtain rfl := Option.some.inj h
      exact zR_i F hr hlocks hQ dJ1_indexOf_4cfef_36
    · refine lv_iconst (v := (-1)) hx hb dJ1_indexOf_4cfef_27 (by decide) ?_
      obtain rfl := Option.some.inj h
      exact zR_i F hr hlocks hQ dJ1_indexOf_4cfef_28
  · refine lv_iconst (v := (-1)) hx hb dJ1_indexOf_4cfef_7 (by decide) ?_
    obtain rfl := Option.some.inj h
    exact zR_i F hr hlocks hQ dJ1_indexOf_4cfef_8
def f_J0_indexOf_7cf53 (N : Nat) (x0 : Nat) (x1 : Int32) (x2 : Int32) : Option Int32 :=
  Option.bind (f_J0_isLatin1_aae02 N x0) (fun (r1_ : Int32) => if r1_ = 0 then Option.bind (f_J0_length_8abf5 N x0) (fun (r2_ : Int32) => none) else Option.bind (f_J0_length_8abf5 N x0) (fun (r3_ : Int32) => Option.bind (f_J1_indexOf_4cfef N x0 x1 x2 r3_) (fun (r4_ : Int32) => some r4_)))
abbrev rm_J0_indexOf_7cf53 : Room := { frames := 2, cells := 0, slots := 0, locals := 48 }
theorem zy_J0_indexOf_7cf53 : zYv yJ0_indexOf_7cf53 RJ0 cJ0_indexOf_7cf53 3 (some .int) 2 := ⟨zw_227, zw_228, zw_144, zw_225, ⟨by decide, by decide⟩, by decide +kernel⟩
set_option maxHeartbeats 4000000 in
set_option maxRecDepth 100000 in
theorem k_J0_indexOf_7cf53 (l : Launch) (N : Nat) (g : zEnv) (x0 : Nat) (x1 : Int32) (x2 : Int32) (r : Int32) (h : f_J0_indexOf_7cf53 N x0 x1 x2 = some r) (hw : x0 < 21) : ZR l yJ0_indexOf_7cf53 cJ0_indexOf_7cf53 3 (some .int) rm_J0_indexOf_7cf53 g [.ref (zAK g x0), .int x1, .int x2] [] (some (.int r)) := by
  refine zR_of (by decide) (Nat.le_of_ble_eq_true rfl) ?_
  intro p e s m below meth c A ls Q R F hRm hr hlocks hP hD hS hl hQ
  subst hRm
  have F : zF p m c cJ0_indexOf_7cf53 3 s (([.ref (zAK g x0), .int x1, .int x2] : List Value)).toArray RJ0 g A := F
  have hx := F.1.1
  have hb := F.1.2.1
  have hz := F.1.2.2.2.2
  have hl : lv_has ls 3 [(0, .ref (zAK g x0)), (1, .int x1), (2, .int x2)] := hl
  unfold f_J0_indexOf_7cf53 at h
  refine lv_aload_n hx hb dJ0_indexOf_7cf53_0 rfl (lv_at hl 0 rfl) ?_
  obtain ⟨r1_, hr1_, h⟩ := z_bind h
  refine zRVs F (k_J0_isLatin1_aae02 l N g x0 _ hr1_ hw) zy_J0_isLatin1_aae02 zw_156 hP hD hS [] rfl rfl (vk_recv F.2.2.1.1 hw hS) (rest := []) rfl hl.1 rfl (Nat.le_of_ble_eq_true rfl) ⟨rfl, rfl⟩ ⟨Nat.le_of_ble_eq_true rfl, Nat.le_of_ble_eq_true rfl⟩ ⟨Nat.zero_le _, Nat.zero_le _⟩ dJ0_indexOf_7cf53_1 (st1 := [.int r1_]) rfl ?_
  refine z_eq (tgt := 23) hx hb dJ0_indexOf_7cf53_4 (by decide) h (fun h => ?_) (fun h => ?_)
  · refine lv_aload_n hx hb dJ0_indexOf_7cf53_23 rfl (lv_at hl 0 rfl) ?_
    refine vk_getf hx hb (F.2.2.1.1.1 x0 hw).2.2.1 hS F.1.2.2.2.1 (hz _ zw_140) (fun _ h => h) dJ0_indexOf_7cf53_24 ?_
    refine lv_iload_n hx hb dJ0_indexOf_7cf53_27 rfl (lv_at hl 1 rfl) ?_
    refine lv_iload_n hx hb dJ0_indexOf_7cf53_28 rfl (lv_at hl 2 rfl) ?_
    refine lv_aload_n hx hb dJ0_indexOf_7cf53_29 rfl (lv_at hl 0 rfl) ?_
    obtain ⟨r2_, hr2_, h⟩ := z_bind h
    refine zRVs F (k_J0_length_8abf5 l N g x0 _ hr2_ hw) zy_J0_length_8abf5 zw_222 hP hD hS [] rfl rfl (vk_recv F.2.2.1.1 hw hS) (rest := [.int x2, .int x1, .ref (zAV g x0)]) rfl hl.1 rfl (Nat.le_of_ble_eq_true rfl) ⟨rfl, rfl⟩ ⟨Nat.le_of_ble_eq_true rfl, Nat.le_of_ble_eq_true rfl⟩ ⟨Nat.zero_le _, Nat.zero_le _⟩ dJ0_indexOf_7cf53_30 (st1 := [.int r2_, .int x2, .int x1, .ref (zAV g x0)]) rfl ?_
    cases h
  · refine lv_aload_n hx hb dJ0_indexOf_7cf53_7 rfl (lv_at hl 0 rfl) ?_
    refine vk_getf hx hb (F.2.2.1.1.1 x0 hw).2.2.1 hS F.1.2.2.2.1 (hz _ zw_140) (fun _ h => h) dJ0_indexOf_7cf53_8 ?_
    refine lv_iload_n hx hb dJ0_indexOf_7cf53_11 rfl (lv_at hl 1 rfl) ?_
    refine lv_iload_n hx hb dJ0_indexOf_7cf53_12 rfl (lv_at hl 2 rfl) ?_
    refine lv_aload_n hx hb dJ0_indexOf_7cf53_13 rfl (lv_at hl 0 rfl) ?_
    obtain ⟨r3_, hr3_, h⟩ := z_bind h
    refine zRVs F (k_J0_length_8abf5 l N g x0 _ hr3_ hw) zy_J0_length_8abf5 zw_222 hP hD hS [] rfl rfl (vk_recv F.2.2.1.1 hw hS) (rest := [.int x2, .int x1, .ref (zAV g x0)]) rfl hl.1 rfl (Nat.le_of_ble_eq_true rfl) ⟨rfl, rfl⟩ ⟨Nat.le_of_ble_eq_true rfl, Nat.le_of_ble_eq_true rfl⟩ ⟨Nat.zero_le _, Nat.zero_le _⟩ dJ0_indexOf_7cf53_14 (st1 := [.int r3_, .int x2, .int x1, .ref (zAV g x0)]) rfl ?_
    obtain ⟨r4_, hr4_, h⟩ := z_bind h
    refine zRS F (k_J1_indexOf_4cfef l N g x0 x1 x2 r3_ _ hr4_ hw) zy_J1_indexOf_4cfef zw_223 hP hD hS [] rfl rfl (rest := []) rfl hl.1 rfl (Nat.le_of_ble_eq_true rfl) ⟨rfl, rfl⟩ ⟨Nat.le_of_ble_eq_true rfl, Nat.le_of_ble_eq_true rfl⟩ ⟨Nat.zero_le _, Nat.zero_le _⟩ dJ0_indexOf_7cf53_17 (st1 := [.int r4_]) rfl ?_
    refine lv_goto (tgt := 36) hx hb dJ0_indexOf_7cf53_20 (by decide) ?_
    obtain rfl := Option.some.inj h
    exact zR_i F hr hlocks hQ dJ0_indexOf_7cf53_36
def f_J0_indexOf_0f7a4 (N : Nat) (x0 : Nat) (x1 : Int32) : Option Int32 :=
  Option.bind (f_J0_indexOf_7cf53 N x0 x1 0) (fun (r1_ : Int32) => some r1_)
abbrev rm_J0_indexOf_0f7a4 : Room := { frames := 3, cells := 0, slots := 0, locals := 70 }
theorem zy_J0_indexOf_0f7a4 : zYv yJ0_indexOf_0f7a4 RJ0 cJ0_indexOf_0f7a4 2 (some .int) 1 := ⟨zw_231, zw_232, zw_144, zw_229, ⟨by decide, by decide⟩, by decide +kernel⟩
set_option maxHeartbeats 4000000 in
set_option maxRecDepth 100000 in
theorem k_J0_indexOf_0f7a4 (l : Launch) (N : Nat) (g : zEnv) (x0 : Nat) (x1 : Int32) (r : Int32) (h : f_J0_indexOf_0f7a4 N x0 x1 = some r) (hw : x0 < 21) : ZR l yJ0_indexOf_0f7a4 cJ0_indexOf_0f7a4 2 (some .int) rm_J0_indexOf_0f7a4 g [.ref (zAK g x0), .int x1] [] (some (.int r)) := by
  refine zR_of (by decide) (Nat.le_of_ble_eq_true rfl) ?_
  intro p e s m below meth c A ls Q R F hRm hr hlocks hP hD hS hl hQ
  subst hRm
  have F : zF p m c cJ0_indexOf_0f7a4 2 s (([.ref (zAK g x0), .int x1] : List Value)).toArray RJ0 g A := F
  have hx := F.1.1
  have hb := F.1.2.1
  have hz := F.1.2.2.2.2
  have hl : lv_has ls 2 [(0, .ref (zAK g x0)), (1, .int x1)] := hl
  unfold f_J0_indexOf_0f7a4 at h
  refine lv_aload_n hx hb dJ0_indexOf_0f7a4_0 rfl (lv_at hl 0 rfl) ?_
  refine lv_iload_n hx hb dJ0_indexOf_0f7a4_1 rfl (lv_at hl 1 rfl) ?_
  refine lv_iconst (v := 0) hx hb dJ0_indexOf_0f7a4_2 (by decide) ?_
  obtain ⟨r1_, hr1_, h⟩ := z_bind h
  refine zRVs F (k_J0_indexOf_7cf53 l N g x0 x1 0 _ hr1_ hw) zy_J0_indexOf_7cf53 zw_226 hP hD hS [] rfl rfl (vk_recv F.2.2.1.1 hw hS) (rest := []) rfl hl.1 rfl (Nat.le_of_ble_eq_true rfl) ⟨rfl, rfl⟩ ⟨Nat.le_of_ble_eq_true rfl, Nat.le_of_ble_eq_true rfl⟩ ⟨Nat.zero_le _, Nat.zero_le _⟩ dJ0_indexOf_0f7a4_3 (st1 := [.int r1_]) rfl ?_
  obtain rfl := Option.some.inj h
  exact zR_i F hr hlocks hQ dJ0_indexOf_0f7a4_6
section ZS2
variable {p : Program} {l : Launch} {e : Env} {R : Room} {s : State} {m : MethodId} {args : Array Value} {below : List Frame} {meth : Method} {c : Code} {H : Heap} {locs : List Loc} {cells slots : Nat} {Q : State → Prop}
variable {cc : ByteArray} {nL index pc : Nat} {own : String} {g : zEnv} {A : Nat → Prop} {rest : List Value} {ls : Array Slot} {β : Type} {r : β}
def zSlen (w : Nat) : Option Int32 := if w < 21 then f_J0_length_8abf5 20000 w else none
theorem z_slen {w : Nat} {K : Int32 → Option β} (F : zF p m c cc nL s args own g A) (hS : va_S A s.heap H locs) (hl : Cond.methodLink own index yJ0_length_8abf5 ∈ ZW) (hls : ls.size = nL) (hroom : (rest.map fun v => v.category).sum ≤ 8) (hR : 1 + 1 ≤ R.frames ∧ 8 + (1 + 11) + 20 ≤ R.locals) (hcs : cells ≤ R.cells ∧ slots ≤ R.slots) (hdg : decode cc pc = .ok (.invokevirtual index, 3)) (h : Option.bind (zSlen w) K = some r)
    (kk : ∀ x : Int32, K x = some r → W p l e R s m args below meth c H locs cells slots Q (F0 m (pc + 3) ls (.int x :: rest))) : W p l e R s m args below meth c H locs cells slots Q (F0 m pc ls (.ref (zAK g w) :: rest)) := by
  obtain ⟨z, h1, h2⟩ := z_bind h
  unfold zSlen at h1
  split at h1
  · next hw => exact zRVs F (k_J0_length_8abf5 l 20000 g w z h1 hw) zy_J0_length_8abf5 hl (W0 := []) (fun k q h => by simp at h) ⟨fun i j p q h => by simp at h, fun k q h => by simp at h⟩ hS [] rfl rfl (vk_recv F.2.2.1.1 hw hS) (rest := rest) rfl hls rfl hroom ⟨rfl, rfl⟩ hR hcs hdg (st1 := .int z :: rest) rfl (kk z h2)
  · cases h1

def zSch (w : Nat) (i : Int32) : Option Int32 := if w < 21 then f_J0_charAt_5068e 20000 w i else none
theorem z_sch {w : Nat} {i : Int32} {K : Int32 → Option β} (F : zF p m c cc nL s args own g A) (hS : va_S A s.heap H locs) (hl : Cond.methodLink own index yJ0_charAt_5068e ∈ ZW) (hls : ls.size = nL) (hroom : (rest.map fun v => v.category).sum ≤ 8) (hR : 4 + 1 ≤ R.frames ∧ 8 + (2 + 11) + 101 ≤ R.locals) (hcs : cells ≤ R.cells ∧ slots ≤ R.slots) (hdg : decode cc pc = .ok (.invokevirtual index, 3)) (h : Option.bind (zSch w i) K = some r)
    (kk : ∀ x : Int32, K x = some r → W p l e R s m args below meth c H locs cells slots Q (F0 m (pc + 3) ls (.int x :: rest))) : W p l e R s m args below meth c H locs cells slots Q (F0 m pc ls (.int i :: .ref (zAK g w) :: rest)) := by
  obtain ⟨z, h1, h2⟩ := z_bind h
  unfold zSch at h1
  split at h1
  · next hw => exact zRVs F (k_J0_charAt_5068e l 20000 g w i z h1 hw) zy_J0_charAt_5068e hl (W0 := []) (fun k q h => by simp at h) ⟨fun i j p q h => by simp at h, fun k q h => by simp at h⟩ hS [] rfl rfl (vk_recv F.2.2.1.1 hw hS) (rest := rest) rfl hls rfl hroom ⟨rfl, rfl⟩ hR hcs hdg (st1 := .int z :: rest) rfl (kk z h2)
  · cases h1

def zSix (w : Nat) (i : Int32) : Option Int32 := if w < 21 then f_J0_indexOf_0f7a4 20000 w i else none
theorem z_six {w : Nat} {i : Int32} {K : Int32 → Option β} (F : zF p m c cc nL s args own g A) (hS : va_S A s.heap H locs) (hl : Cond.methodLink own index yJ0_indexOf_0f7a4 ∈ ZW) (hls : ls.size = nL) (hroom : (rest.map fun v => v.category).sum ≤ 8) (hR : 3 + 1 ≤ R.frames ∧ 8 + (2 + 11) + 70 ≤ R.locals) (hcs : cells ≤ R.cells ∧ slots ≤ R.slots) (hdg : decode cc pc = .ok (.invokevirtual index, 3)) (h : Option.bind (zSix w i) K = some r)
    (kk : ∀ x : Int32, K x = some r → W p l e R s m args below meth c H locs cells slots Q (F0 m (pc + 3) ls (.int x :: rest))) : W p l e R s m args below meth c H locs cells slots Q (F0 m pc ls (.int i :: .ref (zAK g w) :: rest)) := by
  obtain ⟨z, h1, h2⟩ := z_bind h
  unfold zSix at h1
  split at h1
  · next hw => exact zRVs F (k_J0_indexOf_0f7a4 l 20000 g w i z h1 hw) zy_J0_indexOf_0f7a4 hl (W0 := []) (fun k q h => by simp at h) ⟨fun i j p q h => by simp at h, fun k q h => by simp at h⟩ hS [] rfl rfl (vk_recv F.2.2.1.1 hw hS) (rest := rest) rfl hls rfl hroom ⟨rfl, rfl⟩ hR hcs hdg (st1 := .int z :: rest) rfl (kk z h2)
  · cases h1
end ZS2
