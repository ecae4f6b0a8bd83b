/-! ===== a new object ===== -/
def zK0 : zKT := (0, 0, 0, 0, 0, 0, 0, 0, 0, 0, 0, 0, 0, 0, (fun _ => 0), 0, (fun _ => 0), (fun _ => 0), (fun _ => 0), (fun _ => 0), (fun _ => 0), (fun _ => 0), (fun _ => 0), (fun _ => 0), (fun _ => 0), (fun _ => 0))
def kS0 : zSt := (0, (fun _ _ => 0), (fun _ _ => 0), fun _ _ _ => (0, 0, 0, 0))
theorem zSvA {D : va_G} {cl : List vw_C} {H : Heap} {a a0 a1 a2 a3 : Nat} {cA : ClassId} (h : va_at D cl (a, .inl (cA, 4, .inr (.inr (.inr (.inr (va_up (va_up (va_up (va_up (fun _ => none) 0 (some a0)) 1 (some a1)) 2 (some a2)) 3 (some a3))))))) H) : va_at D cl (a, .inl (cA, 4, .inr (.inr (.inr (.inr (zSv a0 a1 a2 a3)))))) H := by
  have e : arrV cA 4 (fun j => va_rf (va_up (va_up (va_up (va_up (fun _ => none) 0 (some a0)) 1 (some a1)) 2 (some a2)) 3 (some a3) j)) = arrV cA 4 (fun j => va_rf (zSv a0 a1 a2 a3 j)) := by
    unfold arrV
    congr 2
    funext j
    match j with
    | ⟨0, _⟩ => rfl
    | ⟨1, _⟩ => rfl
    | ⟨2, _⟩ => rfl
    | ⟨3, _⟩ => rfl
    | ⟨k + 4, h⟩ => exact absurd h (by omega)
  show H[a]? = some (arrV cA 4 (fun j => va_rf (zSv a0 a1 a2 a3 j)))
  rw [← e]
  exact h
theorem zCell {D : va_G} {cl : List vw_C} {W0 W1 : va_W} {H : Heap} {i a : Nat} {e0 e1 : va_E} (hP : va_P D cl W0 H) (he : W0[i]? = some (a, e0)) (hW : W0.set i (a, e1) = W1) (h : va_at D cl (a, e0) H → va_at D cl (a, e1) H) : va_P D cl W1 H := by
  subst hW
  intro k q hk
  rw [List.getElem?_set] at hk
  split at hk
  · next hik =>
    split at hk
    · cases hk; exact h (hP i _ he)
    · cases hk
  · exact hP k q hk
theorem zC_start : zC kS0 [] 0 (fun _ => 0) zK0 := by
  have h0 : okS kS0 := ⟨⟨Nat.zero_le _, fun m hm => absurd hm (Nat.not_lt_zero m)⟩, fun m hm => absurd hm (Nat.not_lt_zero m)⟩
  have he : oEnd kS0 = (0, 1, 0, false, 0, fun _ => 0) := oRun_end (fun x => absurd x.1 (Nat.not_lt_zero _)) _
  refine ⟨0, ⟨h0, by decide, fun X hX => (by cases hX), by decide, by decide, fun i hi => absurd hi (Nat.not_lt_zero i)⟩, ⟨rfl, rfl, fun i X hX => (by cases hX)⟩, ?_, ⟨rfl, fun m hm => absurd hm (Nat.not_lt_zero m)⟩, ⟨rfl, fun i hi => absurd hi (Nat.not_lt_zero i)⟩, fun m v e hm => absurd hm (Nat.not_lt_zero m), fun m v e hm => absurd hm (Nat.not_lt_zero m)⟩
  unfold oF
  rw [he]
  exact ⟨rfl, fun i hi => absurd hi (Nat.not_lt_zero i)⟩
