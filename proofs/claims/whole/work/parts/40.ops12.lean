theorem sm32 {p : Nat} (hp : p < 32) : ((nI p &&& 31).toBitVec.smod 32).toNat = p := (by decide : ∀ p : Fin 32, ((nI p.1 &&& 31).toBitVec.smod 32).toNat = p.1) ⟨p, hp⟩
theorem shr_nI {v p : Nat} (hv : v < 2 ^ 31) (hp : p < 32) : gShr (nI v) (nI p) = nI (v / 2 ^ p) := by
  unfold gShr
  exact pk_shrN hv _ p (sm32 hp)
theorem tol_iff {v p : Nat} (hv : v < 2 ^ 30) (hp : p < 32) : tol (nI v) p ↔ v / 2 ^ p % 2 = 1 := by
  unfold tol
  have h1 : v / 2 ^ p ≤ v := Nat.div_le_self _ _
  rw [shr_nI (by omega) hp, pk_andN (by omega) 1 rfl, nI_eq (by omega) (by omega)]
theorem mask_ne {m : Int32} (hm : Bl m 1024) (h0 : m ≠ nI 0) : ∃ p, p < 10 ∧ tol m p := by
  obtain ⟨v, hv, rfl⟩ := hm
  have hv0 : v ≠ 0 := fun z => h0 (by rw [z])
  apply Classical.byContradiction
  intro hn
  have h : ∀ p, p < 10 → ¬ v / 2 ^ p % 2 = 1 := fun p hp z => hn ⟨p, hp, (tol_iff (by omega) (by omega)).mpr z⟩
  have a0 := h 0 (by omega)
  have a1 := h 1 (by omega)
  have a2 := h 2 (by omega)
  have a3 := h 3 (by omega)
  have a4 := h 4 (by omega)
  have a5 := h 5 (by omega)
  have a6 := h 6 (by omega)
  have a7 := h 7 (by omega)
  have a8 := h 8 (by omega)
  have a9 := h 9 (by omega)
  omega
/-- sums' place 0 at most b -/
def Le0 (f : Nat → Int32) (b : Nat) : Prop := ∃ v, v ≤ b ∧ f 0 = nI v
theorem sAdd_0 {sm : Nat → Int32} {i : Nat} {v : Int32} (h : 0 ≠ i) : sAdd sm i v 0 = sm 0 := by
  unfold sAdd upd
  rw [if_neg h]
theorem spFrs_0 (σ : sT) (g n r : Nat) (ch : Int32) {sm : Nat → Int32} {b : Nat} (h : Le0 sm b) : ∀ k, Le0 (spFrs σ g n r ch k sm) (b + 99 * k)
  | 0 => h
  | k + 1 => by
    obtain ⟨v, hv, ev⟩ := spFrs_0 σ g n r ch h k
    have e : spFrs σ g n r ch (k + 1) sm = if tol (σ.1 1 9) k ∧ spFO σ g k n r ch ≠ (-2) then sFr σ g n k (spFO σ g k n r ch) (spFrs σ g n r ch k sm) else spFrs σ g n r ch k sm := rfl
    rw [e]
    split
    · rename_i hc
      obtain ⟨u, hu, eu⟩ := (spFO_cases σ g k n r ch).resolve_left hc.2
      refine ⟨v + u, by omega, ?_⟩
      unfold sFr
      rw [sAdd_0 (by omega), sAdd_0 (by omega), sAdd_0 (by omega), sAdd_0 (by omega)]
      unfold sAdd upd
      rw [if_pos rfl, ev, eu, nI_add]
    · exact ⟨v, by omega, ev⟩
theorem spGo_0 (σ : sT) (i : Nat) (ch : Int32) {q : (Nat → Int32) × Int32} {b : Nat} (h : Le0 q.1 b) : Le0 (spGo σ i ch q).1 (b + 990) := by
  obtain ⟨v, hv, ev⟩ := id h
  unfold spGo
  split
  · exact ⟨v, by omega, (sAdd_0 (sm := q.1) (i := 4) (v := nI 1) (by omega)).trans ev⟩
  · split
    · obtain ⟨u, hu, eu⟩ := spFrs_0 σ (wg σ i) (wn σ i) (wr σ i) ch h 10
      refine ⟨u, by omega, ?_⟩
      show sAdd _ _ _ 0 = _
      rw [sAdd_0 (by omega), sAdd_0 (by omega), eu]
    · exact ⟨v, by omega, (sAdd_0 (sm := q.1) (i := 3) (v := nI 1) (by omega)).trans ev⟩
def cwE (σ : sT) (n : Nat) : Nat → Nat
  | 0 => 0
  | k + 1 => cwE σ n k + (if wn σ k = n then 1 else 0)
def cwL (σ : sT) (n : Nat) : Nat → Nat
  | 0 => 0
  | k + 1 => cwL σ n k + (if wn σ k < n then 1 else 0)
theorem cw_add (σ : sT) (n : Nat) : ∀ k, cwL σ (n + 1) k = cwL σ n k + cwE σ n k
  | 0 => rfl
  | k + 1 => by
    have h := cw_add σ n k
    show cwL σ (n + 1) k + _ = cwL σ n k + _ + (cwE σ n k + _)
    by_cases a : wn σ k = n
    · rw [if_pos (by omega), if_neg (by omega), if_pos a]; omega
    · by_cases b : wn σ k < n
      · rw [if_pos (by omega), if_pos b, if_neg a]; omega
      · rw [if_neg (by omega), if_neg b, if_neg a]; omega
theorem cw_le (σ : sT) (n : Nat) : ∀ k, cwL σ n k ≤ k
  | 0 => Nat.le_refl _
  | k + 1 => by
    have h := cw_le σ n k
    show cwL σ n k + _ ≤ k + 1
    split <;> omega
theorem cw_0 (σ : sT) : ∀ k, cwL σ 0 k = 0
  | 0 => rfl
  | k + 1 => by
    show cwL σ 0 k + _ = 0
    rw [cw_0 σ k, if_neg (by omega)]
theorem spNt_0 (σ : sT) (n : Nat) {q : (Nat → Int32) × Int32 × Nat} {b : Nat} (h : Le0 q.1 b) : ∀ k, Le0 (spNt σ n k q).1 (b + 990 * cwE σ n k)
  | 0 => h
  | k + 1 => by
    have h1 := spNt_0 σ n h k
    have e : spNt σ n (k + 1) q = if wn σ k = n ∧ spGone σ k then ((spGo σ k (spCh σ k (spNt σ n k q).2.2) ((spNt σ n k q).1, (spNt σ n k q).2.1)).1, (spGo σ k (spCh σ k (spNt σ n k q).2.2) ((spNt σ n k q).1, (spNt σ n k q).2.1)).2, spLf σ k (spNt σ n k q).2.2) else spNt σ n k q := rfl
    have ec : cwE σ n (k + 1) = cwE σ n k + (if wn σ k = n then 1 else 0) := rfl
    rw [e]
    split
    · rename_i hc
      obtain ⟨v, hv, ev⟩ := spGo_0 σ k (spCh σ k (spNt σ n k q).2.2) (q := ((spNt σ n k q).1, (spNt σ n k q).2.1)) h1
      refine ⟨v, ?_, ev⟩
      rw [ec, if_pos hc.1, Nat.mul_add, Nat.mul_one, ← Nat.add_assoc]
      exact hv
    · obtain ⟨v, hv, ev⟩ := h1
      refine ⟨v, ?_, ev⟩
      rw [ec]
      exact Nat.le_trans hv (Nat.add_le_add_left (Nat.mul_le_mul_left 990 (Nat.le_add_right _ _)) b)
theorem spWk_0 (σ : sT) : ∀ n, Le0 (spWk σ n).1 (990 * cwL σ n (spW σ.1))
  | 0 => ⟨0, by omega, rfl⟩
  | n + 1 => by
    obtain ⟨v, hv, ev⟩ := spNt_0 σ n (q := ((spWk σ n).1, (spWk σ n).2, spCn σ)) (spWk_0 σ n) (spW σ.1)
    refine ⟨v, ?_, ev⟩
    rw [cw_add]
    omega
theorem spWk_fr {σ : sT} (hR : Rng σ) : ∃ v, v ≤ 15840 ∧ (spWk σ 7).1 0 = nI v := by
  obtain ⟨-, hW⟩ := spW_le hR
  obtain ⟨v, hv, ev⟩ := spWk_0 σ 7
  have := cw_le σ 7 (spW σ.1)
  exact ⟨v, by omega, ev⟩
