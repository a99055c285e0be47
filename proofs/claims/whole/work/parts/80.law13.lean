theorem sum_top {N : Nat} (hN : 5000 ≤ N) {B : Nat → Int32} (hB : ∀ i, Bl (B i) 256) {len k o h : Nat} {w v : gT} {pos m T : Nat} {κ : Nat → Nat} (hI : In B len k o h w v pos m) (hk : κ m = T) (hT : T + 2 + 2 * (6 - o) < 31) (hb : Bs 1 v h) :
    (∃ w' v' pos' m' κ', xX4_readSum N 9 (nI o) w = some w' ∧ xX10_readsSum N v = some (nI 1, v') ∧ In B len k o h w' v' pos' m' ∧ Tr k h w v pos m κ w' v' pos' m' κ' ∧ κ' m' = T + 1 ∧ pos < pos' ∧ NoS (pkV B len pos')) ∨
    (∃ w' v', xX4_readSum N 9 (nI o) w = some w' ∧ xX10_readsSum N v = some (nI 0, v') ∧ FL w v w' v') := by
  have hd := hI.dd
  have h6 := hI.1.2.2.2.2.2
  rw [rS_e N hI.2.2.2.2.2.1]
  rcases sum_all hN hB len k h 9 o w v pos m h T κ N N (by omega) hI hk hT (Nat.le_refl _) hb (by omega) (by omega) with ⟨w3, v3, u3, y3, h3, pos3, m3, κ3, F3, a1, a2, a3, a4, a5, a6, a7, a8, a9, a10⟩ | ⟨w3, v3, a1, a2, a3⟩
  · have hd3 := a3.dd
    have h53 := a3.1.2.2.2.2.1
    have hhh := a3.2.2.2.2.2.2.2.1
    obtain ⟨H, H1, H2, H3, H4⟩ := a4.H3 a5
    have hmt3 : MT B v3 len pos3 := a4.mt (a5.mt a3.2.1)
    have hno : xX10_hasOpenSum N (nI h) v3 = some (nI 0, v3) := has_no hN H3 (by omega) H1 H4
    have hks : kS N (nI h) v3 = some (nI 1, y3) := by
      unfold kS
      rw [hno, gBi_s, if_pos rfl, closes1 hN a4 a5 (hb.fr a6.i19), gBv_s]
    obtain ⟨F3, rfl⟩ : ∃ F', F3 = F' + 1 := ⟨F3 - 1, by omega⟩
    rw [a2]
    unfold LH
    rw [gW0_s]
    generalize gW0 (xX10_readsSum_b14 N (kS N (nI h)) (nI h)) F3 = go
    unfold xX10_readsSum_b14
    rw [gLet_s, m_here hmt3 h53 h6, gBi_s, sumS0 a10, gBi_s, if_pos rfl, m_here hmt3 h53 h6, gBi_s, hno, gBi_s, if_pos rfl, hks]
    refine Or.inl ⟨w3, y3, pos3, m3, κ3, a1, ?_, a3, a6, a7, a8, a10⟩
    split <;> rfl
  · exact Or.inr ⟨w3, v3, a1, a2, a3⟩
/-! CONDITIONS -/
def k7c : gT → Option (Int32 × gT) := fun (w8 : gT) =>
  gBi (xX10_wrongAt (nI 1) (w8.1 0 15) w8) fun (v9 : Int32) (w10 : gT) =>
  if v9 = nI 0 ∨ v9 = nI 1 then some (v9, w10) else none
def k28c (N : Nat) (go11 : gT → Option (Int32 × gT)) : gT → Option (Int32 × gT) := fun (w29 : gT) =>
  gLet (fun (w31 : gT) =>
  gLet (fun (v33 : Int32) (w34 : gT) =>
  gLet (fun (v36 : Int32) (w37 : gT) =>
  gBv (xX10_jumps v36 w37) fun (w38 : gT) =>
  go11 w38) fun k35 =>
  gBv (xX10_lands N v33 w34) fun (w39 : gT) =>
  gBi (xX10_here w39) fun (v40 : Int32) (w41 : gT) =>
  (if v40 = (nI 38) then
    k35 (nI 11) w41
  else
    k35 (nI 12) w41)) fun k32 =>
  gBi (xX10_here w31) fun (v42 : Int32) (w43 : gT) =>
  (if v42 = (nI 124) then
    k32 (nI 1) w43
  else
    k32 (nI 0) w43)) fun k30 =>
  gBi (xX10_here w29) fun (v44 : Int32) (w45 : gT) =>
  (if v44 = (nI 38) then
    k30 w45
  else
    gBi (xX10_here w45) fun (v46 : Int32) (w47 : gT) =>
    (if v46 = (nI 124) then
      k30 w47
    else
      k7c w47))
def LB (N F : Nat) (v : gT) : Option (Int32 × gT) := gW0 (xX10_readsCondition_b40 N k7c) F v
def AP (N F G : Nat) (v : gT) : Option (Int32 × gT) := gW0 (xX10_readsCondition_b92 N (k28c N (gW0 (xX10_readsCondition_b40 N k7c) F))) G v
def EP (N F G E : Nat) (v : gT) : Option (Int32 × gT) := gBv (gW0 (xX10_endsPiece_b0 N) E v) fun (v' : gT) => AP N F G v'
theorem LB_open {N F : Nat} {B : Nat → Int32} {v : gT} {len pos x ch : Nat} (hm : MT B v len pos) (h5 : pos ≤ len) (h6 : len ≤ 220) (hb : pkV B len pos = nI ch) (hc : (ch = 33 ∧ x = 10) ∨ (ch = 40 ∧ x = 13)) : LB N (F + 1) v = gBi (xX10_opens (nI x) v) fun (v18 : Int32) (w19 : gT) => (if v18 = (nI 0) then some ((nI 0), w19) else LB N F w19) := by
  unfold LB
  rw [gW0_s]
  generalize gW0 (xX10_readsCondition_b40 N k7c) F = go
  unfold xX10_readsCondition_b40
  rw [gLet_s, m_here hm h5 h6, gBi_s]
  rcases hc with ⟨rfl, rfl⟩ | ⟨rfl, rfl⟩
  · rw [if_pos hb]
    dsimp only
    rw [gLet_s, m_here hm h5 h6, gBi_s, if_pos hb]
  · have hn : ¬ pkV B len pos = nI 33 := by rw [hb]; decide
    rw [if_neg hn, m_here hm h5 h6, gBi_s, if_pos hb]
    dsimp only
    rw [gLet_s, m_here hm h5 h6, gBi_s, if_neg hn]
theorem LB_cmp {N F : Nat} {B : Nat → Int32} {v : gT} {len pos : Nat} (hm : MT B v len pos) (h5 : pos ≤ len) (h6 : len ≤ 220) (h33 : pkV B len pos ≠ nI 33) (h40 : pkV B len pos ≠ nI 40) : LB N (F + 1) v = gBi (xX10_readsCompared N v) fun (v26 : Int32) (w27 : gT) => (if v26 = (nI 0) then some ((nI 0), w27) else AP N F N w27) := by
  unfold LB AP
  rw [gW0_s]
  generalize gW0 (xX10_readsCondition_b40 N k7c) F = go
  unfold xX10_readsCondition_b40 k28c
  rw [gLet_s, m_here hm h5 h6, gBi_s, if_neg h33, m_here hm h5 h6, gBi_s, if_neg h40]
  rfl
theorem AP_close {N F G : Nat} {B : Nat → Int32} {v : gT} {len pos : Nat} (hm : MT B v len pos) (h5 : pos ≤ len) (h6 : len ≤ 220) (hb : pkV B len pos = nI 41) : AP N F (G + 1) v = gBv (xX10_lands N (nI 1) v) fun (w52 : gT) => gLet (gU w52 0 31 ((w52.1 0 31) - (nI 1))) fun (w53 : gT) => gLet (gU w53 0 29 ((w53.1 0 29) - (nI 1))) fun (w54 : gT) => gLet (gU w54 0 15 ((w54.1 0 15) + (nI 1))) fun (w55 : gT) => (if (w55.1 0 31) = (nI 0) then some ((nI 1), w55) else EP N F G N w55) := by
  unfold AP EP
  rw [gW0_s]
  unfold AP
  generalize gW0 (xX10_readsCondition_b92 N (k28c N (gW0 (xX10_readsCondition_b40 N k7c) F))) G = go
  unfold xX10_readsCondition_b92
  rw [m_here hm h5 h6, gBi_s, if_pos hb]
  rfl
theorem AP_op {N F G : Nat} {B : Nat → Int32} {v u : gT} {len pos x ch a : Nat} (hm : MT B v len pos) (hmu : MT B u len pos) (h5 : pos ≤ len) (h6 : len ≤ 220) (hb : pkV B len pos = nI ch) (hc : (ch = 38 ∧ x = 11 ∧ a = 0) ∨ (ch = 124 ∧ x = 12 ∧ a = 1)) (hl : xX10_lands N (nI a) v = some u) : AP N F (G + 1) v = gBv (xX10_jumps (nI x) u) fun (w38 : gT) => LB N F w38 := by
  unfold AP LB
  rw [gW0_s]
  generalize gW0 (xX10_readsCondition_b92 N (k28c N (gW0 (xX10_readsCondition_b40 N k7c) F))) G = go
  unfold xX10_readsCondition_b92 k28c
  have h41 : ¬ pkV B len pos = nI 41 := by
    rw [hb]
    rcases hc with ⟨rfl, -⟩ | ⟨rfl, -⟩ <;> decide
  rw [m_here hm h5 h6, gBi_s, if_neg h41]
  try dsimp only
  rw [gLet_s, m_here hm h5 h6, gBi_s]
  rcases hc with ⟨rfl, rfl, rfl⟩ | ⟨rfl, rfl, rfl⟩
  · rw [if_pos hb]
    dsimp only
    rw [gLet_s, m_here hm h5 h6, gBi_s, if_neg (by rw [hb]; decide)]
    dsimp only
    rw [gLet_s, hl, gBv_s, m_here hmu h5 h6, gBi_s, if_pos hb]
  · have h38 : ¬ pkV B len pos = nI 38 := by rw [hb]; decide
    rw [if_neg h38, m_here hm h5 h6, gBi_s, if_pos hb]
    dsimp only
    rw [gLet_s, m_here hm h5 h6, gBi_s, if_pos hb]
    dsimp only
    rw [gLet_s, hl, gBv_s, m_here hmu h5 h6, gBi_s, if_neg h38]
theorem AP_bad {N F G : Nat} {B : Nat → Int32} {v : gT} {len pos : Nat} (hm : MT B v len pos) (h5 : pos ≤ len) (h6 : len ≤ 220) (h41 : pkV B len pos ≠ nI 41) (h38 : pkV B len pos ≠ nI 38) (h124 : pkV B len pos ≠ nI 124) : AP N F (G + 1) v = some (nI 0, gU v 0 17 (fc 1 pos)) := by
  unfold AP
  rw [gW0_s]
  generalize gW0 (xX10_readsCondition_b92 N (k28c N (gW0 (xX10_readsCondition_b40 N k7c) F))) G = go
  unfold xX10_readsCondition_b92 k28c k7c
  rw [m_here hm h5 h6, gBi_s, if_neg h41]
  try dsimp only
  rw [gLet_s, m_here hm h5 h6, gBi_s, if_neg h38, m_here hm h5 h6, gBi_s, if_neg h124]
  try dsimp only
  rw [hm.2.2, wrong_e]
