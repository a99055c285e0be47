/-! THE START: both new -/
def wx0 : gT := (fun c i => if (c = 1 ∨ c = 10) ∧ i = 11 then (-1) else if (c = 1 ∨ c = 10) ∧ i = 13 then nI 1 else nI 0, fun _ => 0)
def wm0 : gT := (fun c i => if c = 0 ∧ i = 0 then nI 1 else if c = 0 ∧ i = 1 then (-1) else nI 0, fun _ => 0)
theorem rel_start (N : Nat) : Rel N wx0 wm0 := by
  have z : ∀ n, 0 < n → Bl (nI 0) n := fun n h => ⟨0, h, rfl⟩
  have hW : spW wx0.1 = 0 := by decide
  have hC : spC wx0.1 = 0 := by decide
  refine Rel.mk (D := (fun _ _ => nI 0, fun _ _ => nI 0)) ⟨⟨fun i _ => z 10 (by omega), fun i _ => Or.inl (z 12 (by omega)), fun i _ => z 10 (by omega), fun i _ => z 5 (by omega), fun i _ => z 10 (by omega), fun i _ => z 10 (by omega), fun i _ => z 1000 (by omega), z 1024 (by omega), z 1024 (by omega), z 10 (by omega)⟩, ⟨fun i _ => z 10 (by omega), fun i _ => Or.inl (z 12 (by omega)), fun i _ => z 10 (by omega), fun i _ => z 5 (by omega), fun i _ => z 10 (by omega), fun i _ => z 10 (by omega), fun i _ => z 1000 (by omega), z 1024 (by omega), z 1024 (by omega), z 10 (by omega)⟩, ⟨z 17 (by omega), fun i hi => ?_⟩, ⟨z 221 (by omega), fun i => z 256 (by omega)⟩, z 2 (by omega), z 15 (by omega), fun i hi => ?_⟩ (fun i hi => ?_) ⟨⟨rfl, rfl, rfl, rfl, rfl, rfl, rfl, fun i _ _ => rfl, rfl⟩, ⟨rfl, rfl, rfl, rfl, rfl, rfl, rfl, fun i _ _ => rfl, rfl⟩, ⟨rfl, rfl, rfl, rfl, rfl, rfl, rfl, rfl, fun h => absurd rfl h, fun h => absurd rfl h, rfl, rfl, rfl⟩, fun i => (by decide : nI 0 &&& nI 255 = nI 0), fun i hi => ?_, fun i hi => ?_⟩ rfl
  · rw [hW] at hi; omega
  · have hi : i < spC wx0.1 := hi
    rw [hC] at hi; omega
  · have hi : i < spC wx0.1 := hi
    rw [hC] at hi; omega
  · have hi : i < spW wx0.1 := hi
    rw [hW] at hi; omega
  · have hi : i < spC wx0.1 := hi
    rw [hC] at hi; omega
theorem mk_start : Mk 0 wx0 := ⟨0, Nat.le_refl _, rfl, fun q _ => ⟨0, Nat.le_refl _, rfl⟩⟩
/-- an operation that is no once keeps the marks -/
theorem OpOk.m {N n : Nat} {w0 : gT} {tx tm : Option (Int32 × gT)} (h : OpOk N tx tm) (hk : Mk n w0) (hp : PRg Prod.snd w0 tx) : OpOkM N n tx tm := by
  obtain ⟨r, wx, wm, e1, e2, hr⟩ := h
  exact ⟨r, wx, wm, e1, e2, hr, hk.ks (hp (r, wx) e1)⟩
