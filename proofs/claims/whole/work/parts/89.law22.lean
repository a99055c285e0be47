theorem CS.adv {B : Nat → Int32} {len : Nat} {w v : gT} {pos m k c : Nat} (h : CS B len w v pos m k c) (hp : pos < len) : CS B len (gU w 19 3 (nI (pos + 1))) (gU v 0 15 (nI (pos + 1))) (pos + 1) m k c := by
  obtain ⟨hx, hm, e6, e30, e3, e32, hc14, hk, hmp, hl, hcl⟩ := h
  refine ⟨hx.adv hp, hm.adv, by rw [gU1 (by decide)]; exact e6, by rw [gU2 (by decide)]; exact e30, by rw [gU1 (by decide)]; exact e3, by rw [gU2 (by decide)]; exact e32, hc14, hk, by omega, hl, fun i hi => (hcl i hi).mono (fun j _ => ⟨by rw [gU1 (by decide)], by rw [gU1 (by decide)]⟩) (fun j _ => by rw [gU1 (by decide)]) (Nat.le_refl _) (Nat.le_refl _) ⟨by rw [gU1 (by decide)], by rw [gU1 (by decide)], by rw [gU1 (by decide)]⟩ ⟨by rw [gU1 (by decide)], by rw [gU1 (by decide)], by rw [gU1 (by decide)], by rw [gU1 (by decide)]⟩⟩
theorem pkV_m1 {B : Nat → Int32} (hB : ∀ i, Bl (B i) 256) {len pos : Nat} : pkV B len pos = (-1) ↔ len ≤ pos := by
  unfold pkV
  by_cases c : len ≤ pos
  · rw [if_pos c]
    exact ⟨fun _ => c, fun _ => rfl⟩
  · rw [if_neg c]
    obtain ⟨q, hq, e⟩ := hB pos
    rw [e]
    exact ⟨fun z => absurd z (nI_m1 (by omega)), fun z => absurd z c⟩
def endK : gT → Option gT := fun (w4 : gT) => gBv (xX6_takeEnd w4) fun (w5 : gT) => some w5
theorem d_lawLoop {N : Nat} {w : gT} (h : XD w) (x : Int32) (X : Nat) : gW1 (xX4_readLaw_b13 N endK) (X + 1) x w = some w := by
  have ke : endK w = some w := by
    unfold endK
    rw [d_takeEnd h, gBv_s]
  rw [gW1_s]
  unfold xX4_readLaw_b13
  by_cases c : nI 200 ≤ x
  · rw [if_pos c, ke]
  · rw [if_neg c, d_peek h, gBi_s, if_neg (by decide), ke]
theorem laws_loop {N : Nat} (hN : 5000 ≤ N) {B : Nat → Int32} (hB : ∀ i, Bl (B i) 256) {len : Nat} (k9 : Int32 → gT → Option (Int32 × gT)) : ∀ q (w v : gT) (pos m k c X Y more : Nat), len - pos = q → CS B len w v pos m k c → 1000 ≤ X + pos → 1000 ≤ Y + pos → more ≤ pos →
    (∃ w' v' pos' m' k' c', gW1 (xX4_readLaw_b13 N endK) X (nI more) w = some w' ∧ gW1 (xX10_law_b46 N k9) Y (nI 1) v = k9 (nI 1) v' ∧ CS B len w' v' pos' m' k' c' ∧ GX2 w w' ∧ GM2 v v') ∨
    (∃ w' v', gW1 (xX4_readLaw_b13 N endK) X (nI more) w = some w' ∧ gW1 (xX10_law_b46 N k9) Y (nI 1) v = k9 (nI 0) v' ∧ FF w' v' ∧ GX2 w w' ∧ GM2 v v') := by
  intro q
  induction q using Nat.strongRecOn with
  | ind q ih =>
    intro w v pos m k c X Y more hq hS hX hY hmore
    have hS0 := hS
    obtain ⟨hx, hm, e6, e30, e3, e32, hc14, hk, hmp, hl, hcl⟩ := hS
    have h5 := hx.2.2.2.2.1
    have h6 := hx.2.2.2.2.2
    obtain ⟨X, rfl⟩ : ∃ X', X = X' + 1 := ⟨X - 1, by omega⟩
    obtain ⟨Y, rfl⟩ : ∃ Y', Y = Y' + 1 := ⟨Y - 1, by omega⟩
    have z9 : ∀ v, gW1 (xX10_law_b46 N k9) Y (nI 0) v = k9 (nI 0) v := fun v => by
      obtain ⟨Y', rfl⟩ : ∃ Y', Y = Y' + 1 := ⟨Y - 1, by omega⟩
      rw [gW1_s]
      exact if_pos rfl
    rw [gW1_s, gW1_s]
    generalize hgx : gW1 (xX4_readLaw_b13 N endK) X = gx
    generalize hgm : gW1 (xX10_law_b46 N k9) Y = gm
    rw [hgm] at z9
    unfold xX4_readLaw_b13 xX10_law_b46
    rw [x_peek hx, gBi_s, if_neg nI_10, hm.2.1, hm.2.2]
    by_cases h59 : pkV B len pos = nI 59
    · have hpl := pkV_lt (by omega) h59
      rw [if_neg (nle (by omega) (by omega) (by omega)), if_pos h59, x_sign1 hx h59, gBv_s, if_neg (nle (by omega) (by omega) (by omega)), gLet_s, gLet_s, m_sign1 hm h5 h6 h59, gBi_s, if_neg nI_10]
      have gx0 : GX2 w (gU w 19 3 (nI (pos + 1))) := (LX.t (by omega)).g
      have gm0 : GM2 v (gU v 0 15 (nI (pos + 1))) := GM2.z (by decide)
      rcases clause_all hN hB (hS0.adv hpl) with ⟨w1, v1, pos1, m1, k1, a1, a2, a3, a4, a5, a6⟩ | ⟨w1, v1, a1, a2, a3, a4, a5⟩
      · have h51 := a3.1.2.2.2.2.1
        rw [a1, gBv_s, a2, gBi_s, if_neg nI_10, nI_add]
        rcases ih (len - pos1) (by omega) w1 v1 pos1 m1 k1 (c + 1) X Y (more + 1) rfl a3 (by omega) (by omega) (by omega) with ⟨w', v', pos', m', k', c', b1, b2, b3, b4, b5⟩ | ⟨w', v', b1, b2, b3, b4, b5⟩
        · rw [hgx] at b1
          rw [hgm] at b2
          exact Or.inl ⟨w', v', pos', m', k', c', b1, b2, b3, gx0.tr (a4.tr b4), gm0.tr (a5.tr b5)⟩
        · rw [hgx] at b1
          rw [hgm] at b2
          exact Or.inr ⟨w', v', b1, b2, b3, gx0.tr (a4.tr b4), gm0.tr (a5.tr b5)⟩
      · rw [a1, gBv_s, a2, gBi_s, if_pos rfl]
        dsimp only
        rw [z9, nI_add, ← hgx]
        obtain ⟨X, rfl⟩ : ∃ X', X = X' + 1 := ⟨X - 1, by omega⟩
        rw [d_lawLoop a3.xd]
        exact Or.inr ⟨w1, v1, rfl, rfl, a3, gx0.tr a4, gm0.tr a5⟩
    · rw [if_neg h59]
      by_cases c : len ≤ pos
      · have ke : endK w = some w := by
          unfold endK xX6_takeEnd
          rw [x_peek hx, gBi_s, if_pos ((pkV_m1 hB).mpr c), gBv_s]
        rw [ke, if_pos (yle (by omega) (by omega) c)]
        refine Or.inl ⟨w, v, pos, m, k, _, ?_, rfl, hS0, GX2.rf, GM2.rf⟩
        split <;> rfl
      · have ke : endK w = some (gU w 19 4 (fc 1 pos)) := by
          unfold endK xX6_takeEnd
          rw [x_peek hx, gBi_s, if_neg (fun z => c ((pkV_m1 hB).mp z)), x_fail hx, gBv_s, gBv_s]
        rw [ke, if_neg (nle (by omega) (by omega) c), gLet_s, gLet_s, m_sign0 hm h5 h6 h59, gBi_s, if_pos rfl]
        dsimp only
        rw [z9]
        refine Or.inr ⟨gU w 19 4 (fc 1 pos), _, ?_, rfl, FF.mk (by omega) (by omega) (by omega), (LX.t (by omega)).g, GM2.z (by decide)⟩
        split <;> rfl
