/-! the model's calls on a board -/
def IM (g : ASt → Option (Int32 × ASt)) (β : Nat → Nat) (r : Int32) (β' : Nat → Nat) : Prop := ∀ v, MB v β → ∃ v', g v = some (r, v') ∧ MB v' β' ∧ MK v v'
def IC (g : ASt → Option (Int32 × ASt)) (β : Nat → Nat) (r : Int32) (β' : Nat → Nat) : Prop := ∀ u, CB u 0 β → ∃ u', g u = some (r, u') ∧ CB u' 0 β' ∧ CK u u'
theorem m_getB {N c f : Nat} {v : ASt} {β : Nat → Nat} (h : MB v β) (hc : c < 4) (hf : f < 19) : f_X7_get N 95 (nI c) (nI f) v = some (nI (bc β c f), v) := by
  rw [m_get (by omega), h.get hc hf]
def fst_ (l d : Nat) : Nat := if d < 256 then 2 else 1 <<< l - 1
theorem m_first {N c : Nat} {v : ASt} {β : Nat → Nat} (h : MB v β) (hc : c < 4) (h0 : bc β c 0 ≤ 4) (h1 : bc β c 1 ≤ 256) : f_X7_firstOf N 95 (nI c) v = some (nI (fst_ (bc β c 0) (bc β c 1)), v) := by
  have e : ∀ l, l < 5 → nI 1 <<< (nI l &&& nI 31) - nI 1 = nI (1 <<< l - 1) := by decide
  simp (disch := omega) only [f_X7_firstOf, lit, m_getB h hc, bnd_s, lte_s, chk_in, chk_b, chk_0, chk_1, nLE]
  unfold fst_
  by_cases q : 256 ≤ bc β c 1
  · rw [if_pos q, if_neg (by omega)]
    simp (disch := omega) only [m_getB h hc, bnd_s, e]
  · rw [if_neg q, if_pos (by omega)]
def zr (β : Nat → Nat) (c j : Nat) : Nat → Nat := fun k => if 7 + 19 * c ≤ k ∧ k < 7 + 19 * c + j then 0 else β k
theorem zr_0 {β : Nat → Nat} {c : Nat} : zr β c 0 = β := by
  funext k
  unfold zr
  rw [if_neg (by omega)]
theorem zr_s {β : Nat → Nat} {c j : Nat} : sb (zr β c j) (7 + 19 * c + j) 0 = zr β c (j + 1) := by
  funext k
  unfold zr sb
  by_cases h : k = 7 + 19 * c + j
  · rw [if_pos h, if_pos (by omega)]
  · rw [if_neg h]
    dsimp only
    by_cases h2 : 7 + 19 * c ≤ k ∧ k < 7 + 19 * c + j
    · rw [if_pos h2, if_pos (by omega)]
    · rw [if_neg h2, if_neg (by omega)]
def nwB (β : Nat → Nat) (c l d : Nat) : Nat → Nat := sb (sb (sb (sb (zr β c 19) (7 + 19 * c + 0) l) (7 + 19 * c + 1) d) (7 + 19 * c + 3) (fst_ l d)) 0 (β 0 + 1)
theorem m_addsChip_loop {N c l d : Nat} {β : Nat → Nat} (hc : c < 4) (hl : l ≤ 4) (hd : d ≤ 256) (h0 : β 0 = c) : ∀ n j v, j ≤ 19 → 19 < n + j → MB v (zr β c j) → ∃ v', f_X7_addsChip_46 N 95 (nI l) (nI d) n (nI c) (nI j) v = some (nI c, v') ∧ MB v' (nwB β c l d) ∧ MK v v' := by
  intro n
  induction n with
  | zero => intro j v h1 h2; omega
  | succ n ih =>
    intro j v h1 h2 hM
    by_cases hj : 19 ≤ j
    · have ej : j = 19 := by omega
      subst ej
      have M1 := hM.put (i := 7 + 19 * c + 0) (x := l)
      have M2 := M1.put (i := 7 + 19 * c + 1) (x := d)
      have b0 : bc (sb (sb (zr β c 19) (7 + 19 * c + 0) l) (7 + 19 * c + 1) d) c 0 = l := by
        rw [bc_sb (by omega) (by omega), bc_sb (by omega) (by omega)]; simp
      have b1 : bc (sb (sb (zr β c 19) (7 + 19 * c + 0) l) (7 + 19 * c + 1) d) c 1 = d := by
        rw [bc_sb (by omega) (by omega)]; simp
      have F := m_first (N := N) M2 hc (by omega) (by omega)
      rw [b0, b1] at F
      have M3 := M2.put (i := 7 + 19 * c + 3) (x := fst_ l d)
      have M4 := M3.put (i := 0) (x := β 0 + 1)
      have e0 := M3 0 (by omega)
      rw [sb_ne (by omega), sb_ne (by omega), sb_ne (by omega)] at e0
      have z0 : zr β c 19 0 = β 0 := by unfold zr; rw [if_neg (by omega)]
      rw [z0] at e0
      refine ⟨_, ?_, M4, (MK.p96.tr MK.p96).tr (MK.p96.tr MK.p96)⟩
      simp (disch := omega) only [f_X7_addsChip_46, lit, m_at, F, bnd_s, lte_s, chk_in, chk_b, chk_0, chk_1, ar95_0, ar95_1, ar95_2, ar95_4, ar95_5, ar95_7, ar95_9, ar95_11, ar95_12, ar95_16, ar95_17, al96, al97, al98, al99, al100, al101, al102, al103, al104, al105, al106, nLE, nCl, hj, if_true, e0, nI_add]
    · have ej : ¬ 19 ≤ j := hj
      have M1 := hM.put (i := 7 + 19 * c + j) (x := 0)
      rw [zr_s] at M1
      obtain ⟨v', e1, e2, e3⟩ := ih (j + 1) _ (by omega) (by omega) M1
      refine ⟨v', ?_, e2, MK.p96.tr e3⟩
      simp (disch := omega) only [f_X7_addsChip_46, lit, m_at, bnd_s, lte_s, chk_in, chk_b, chk_0, chk_1, ar95_0, ar95_1, ar95_2, ar95_4, ar95_5, ar95_7, ar95_9, ar95_11, ar95_12, ar95_16, ar95_17, al96, al97, al98, al99, al100, al101, al102, al103, al104, al105, al106, nLE, nCl, ej, if_false, nI_add]
      exact e1
theorem m_addsChip {N l d : Nat} {β : Nat → Nat} (hN : 20 ≤ N) (h0 : β 0 < 4) (hl : 2 ≤ l ∧ l ≤ 4) (hd : d ≤ 256) : IM (f_X7_addsChip N 95 (nI l) (nI d)) β (nI (β 0)) (nwB β (β 0) l d) := by
  intro v hM
  obtain ⟨v', e1, e2, e3⟩ := m_addsChip_loop (N := N) (c := β 0) (l := l) (d := d) (β := β) h0 hl.2 hd rfl N 0 v (by omega) (by omega) (by rw [zr_0]; exact hM)
  refine ⟨v', ?_, e2, e3⟩
  have q1 : nI 2 ≤ nI l ∧ nI l ≤ nI 4 := ⟨(nLE (by omega) (by omega)).mpr hl.1, (nLE (by omega) (by omega)).mpr hl.2⟩
  have q2 : nI 0 ≤ nI d ∧ nI d ≤ nI 256 := ⟨(nLE (by omega) (by omega)).mpr (by omega), (nLE (by omega) (by omega)).mpr hd⟩
  have q3 : ¬ β 0 = 4 := by omega
  simp (disch := omega) only [f_X7_addsChip, lit, m_within, bnd_s, lte_s, chk_in, chk_b, chk_0, chk_1, ar95_0, ar95_1, ar95_2, ar95_4, ar95_5, ar95_7, ar95_9, ar95_11, ar95_12, ar95_16, ar95_17, al96, al97, al98, al99, al100, al101, al102, al103, al104, al105, al106, bI0, bI1, q1, q2, hM 0 (by omega), nE, nCl, q3, not_true, if_false, and_self]
  exact e1
theorem m_addsChip_bad {N : Nat} {l d : Int32} {β : Nat → Nat} (h : ¬ ((2 ≤ l ∧ l ≤ 4) ∧ 0 ≤ d ∧ d ≤ 256)) : IM (f_X7_addsChip N 95 l d) β (-2) β := by
  intro v hM
  refine ⟨v, ?_, hM, MK.rf⟩
  simp only [f_X7_addsChip, f_X7_addsChip_20, lit, m_within, bnd_s, bI0, bI1]
  by_cases q1 : nI 2 ≤ l ∧ l ≤ nI 4
  · have q2 : ¬ (nI 0 ≤ d ∧ d ≤ nI 256) := fun q2 => h ⟨q1, q2⟩
    simp [q1, q2]
  · simp [q1]
theorem m_addsChip_full {N : Nat} {l d : Int32} {β : Nat → Nat} (h : (2 ≤ l ∧ l ≤ 4) ∧ 0 ≤ d ∧ d ≤ 256) (h0 : β 0 = 4) : IM (f_X7_addsChip N 95 l d) β (-4) β := by
  intro v hM
  refine ⟨v, ?_, hM, MK.rf⟩
  have q1 : nI 2 ≤ l ∧ l ≤ nI 4 := h.1
  have q2 : nI 0 ≤ d ∧ d ≤ nI 256 := h.2
  simp (disch := omega) only [f_X7_addsChip, lit, m_within, bnd_s, lte_s, chk_in, chk_b, chk_0, chk_1, bI0, bI1, ar95_0, ar95_1, ar95_2, ar95_4, ar95_5, ar95_7, ar95_9, ar95_11, ar95_12, ar95_16, ar95_17, al96, al97, al98, al99, al100, al101, al102, al103, al104, al105, al106, q1, q2, hM 0 (by omega), nE, nCl, h0, not_true, if_false, if_true, and_self]

def nwC (β : Nat → Nat) (c k n : Nat) : Nat → Nat := sb (sb (sb β (7 + 19 * c + (7 + 2 * bc β c 2)) k) (7 + 19 * c + (7 + 2 * bc β c 2 + 1)) n) (7 + 19 * c + 2) (bc β c 2 + 1)
theorem m_addsCell {N c k n : Nat} {β : Nat → Nat} (hb : β 0 ≤ 4) (hc : c < β 0) (hk : k < 2) (hn : n < 8) (h6 : bc β c 2 < 6) : IM (f_X7_addsCell N 95 (nI c) (nI k) (nI n)) β (nI (bc β c 2)) (nwC β c k n) := by
  intro v hM
  have hc4 : c < 4 := by omega
  have M1 := hM.put (i := 7 + 19 * c + (7 + 2 * bc β c 2)) (x := k)
  have M2 := M1.put (i := 7 + 19 * c + (7 + 2 * bc β c 2 + 1)) (x := n)
  have M3 := M2.put (i := 7 + 19 * c + 2) (x := bc β c 2 + 1)
  have e2 := M2.get hc4 (f := 2) (by omega)
  rw [show (7 : Nat) + 19 * c + (7 + 2 * bc β c 2 + 1) = 7 + 19 * c + (8 + 2 * bc β c 2) by omega, bc_sb (by omega) (by omega), bc_sb (by omega) (by omega), if_neg (by omega), if_neg (by omega)] at e2
  have q1 : nI 0 ≤ nI c ∧ nI c < nI (β 0) := ⟨(nLE (by omega) (by omega)).mpr (by omega), (nLT (by omega) (by omega)).mpr hc⟩
  have q2 : nI k = nI 0 ∨ nI k = nI 1 := by rw [nE (by omega) (by omega), nE (by omega) (by omega)]; omega
  have q3 : nI 0 ≤ nI n ∧ nI n ≤ nI 7 := ⟨(nLE (by omega) (by omega)).mpr (by omega), (nLE (by omega) (by omega)).mpr (by omega)⟩
  have q4 : ¬ bc β c 2 = 6 := by omega
  have q5 : k = 0 ∨ k = 1 := by omega
  refine ⟨_, ?_, M3, (MK.p96.tr MK.p96).tr MK.p96⟩
  rw [show (8 : Nat) + 2 * bc β c 2 = 7 + 2 * bc β c 2 + 1 by omega] at e2
  simp (disch := omega) only [f_X7_addsCell, m_isChip (hM 0 (by omega)) hb, m_isBit, m_isNet, lit, m_getB hM hc4, m_at, pk_mul, nI_add, bnd_s, lte_s, chk_in, chk_b, chk_0, chk_1, bI0, bI1, ar95_0, ar95_1, ar95_2, ar95_4, ar95_5, ar95_7, ar95_9, ar95_11, ar95_12, ar95_16, ar95_17, al96, al97, al98, al99, al100, al101, al102, al103, al104, al105, al106, q1, q2, q3, q4, q5, nE, nCl, not_true, if_false, and_self, e2]
theorem m_addsCell_full {N c : Nat} {k n : Int32} {β : Nat → Nat} (hb : β 0 ≤ 4) (hc : c < β 0) (hk : k = 0 ∨ k = 1) (hn : 0 ≤ n ∧ n ≤ 7) (h6 : bc β c 2 = 6) : IM (f_X7_addsCell N 95 (nI c) k n) β (-4) β := by
  intro v hM
  have q1 : nI 0 ≤ nI c ∧ nI c < nI (β 0) := ⟨(nLE (by omega) (by omega)).mpr (by omega), (nLT (by omega) (by omega)).mpr hc⟩
  have q2 : k = nI 0 ∨ k = nI 1 := hk
  have q3 : nI 0 ≤ n ∧ n ≤ nI 7 := hn
  refine ⟨v, ?_, hM, MK.rf⟩
  simp (disch := omega) only [f_X7_addsCell, m_isChip (hM 0 (by omega)) hb, m_isBit, m_isNet, lit, m_getB hM (show c < 4 by omega), bnd_s, lte_s, chk_in, chk_b, chk_0, chk_1, bI0, bI1, q1, q2, q3, h6, nE, not_true, if_false, if_true, and_self]
theorem m_addsCell_bad {N : Nat} {c k n : Int32} {β : Nat → Nat} (hb : β 0 ≤ 4) (h : ¬ ((0 ≤ c ∧ c < nI (β 0)) ∧ (k = 0 ∨ k = 1) ∧ 0 ≤ n ∧ n ≤ 7)) : IM (f_X7_addsCell N 95 c k n) β (-2) β := by
  intro v hM
  refine ⟨v, ?_, hM, MK.rf⟩
  simp only [f_X7_addsCell, f_X7_addsCell_22, m_isChip (hM 0 (by omega)) hb, m_isBit, m_isNet, lit, bnd_s, bI0, bI1]
  by_cases q1 : nI 0 ≤ c ∧ c < nI (β 0)
  · by_cases q2 : k = nI 0 ∨ k = nI 1
    · have q3 : ¬ (nI 0 ≤ n ∧ n ≤ nI 7) := fun q3 => h ⟨q1, q2, q3⟩
      simp [q1, q2, q3]
    · simp [q1, q2]
  · simp [q1]
def nwF (β : Nat → Nat) (x : Nat) : Nat → Nat := sb (sb β (3 + β 2) x) 2 (β 2 + 1)
theorem m_addsFault {N x : Nat} {β : Nat → Nat} (h : β 2 < 4) (hx : x < 2147483648) : IM (f_X7_addsFault N 95 (nI 1) (nI x)) β (nI (β 2 + 1)) (nwF β x) := by
  intro v hM
  have M1 := hM.put (i := 3 + β 2) (x := x)
  have M2 := M1.put (i := 2) (x := β 2 + 1)
  have e1 := M1 2 (by omega)
  rw [sb_ne (by omega)] at e1
  have e2 := M2 2 (by omega)
  rw [sb_eq] at e2
  have q : ¬ β 2 = 4 := by omega
  have q1 : ¬ (nI 1 = nI 0) := by decide
  refine ⟨_, ?_, M2, MK.p96.tr MK.p96⟩
  simp (disch := omega) only [f_X7_addsFault, lit, bnd_s, lte_s, chk_in, chk_b, chk_0, chk_1, ar95_0, ar95_1, ar95_2, ar95_4, ar95_5, ar95_7, ar95_9, ar95_11, ar95_12, ar95_16, ar95_17, al96, al97, al98, al99, al100, al101, al102, al103, al104, al105, al106, nE, nCl, hM 2 (by omega), q, if_false, nI_add, e1, e2, show ¬ (1 : Nat) = 0 by omega]
theorem m_addsFault_full {N : Nat} {x : Int32} {β : Nat → Nat} (h : β 2 = 4) : IM (f_X7_addsFault N 95 (nI 1) x) β (-4) β := by
  intro v hM
  refine ⟨v, ?_, hM, MK.rf⟩
  simp (disch := omega) only [f_X7_addsFault, lit, bnd_s, lte_s, chk_in, chk_b, chk_0, chk_1, ar95_0, ar95_1, ar95_2, ar95_4, ar95_5, ar95_7, ar95_9, ar95_11, ar95_12, ar95_16, ar95_17, al96, al97, al98, al99, al100, al101, al102, al103, al104, al105, al106, nE, nCl, hM 2 (by omega), h, if_false, if_true, show ¬ (1 : Nat) = 0 by omega]
theorem m_addsFault_bad {N : Nat} {x : Int32} {β : Nat → Nat} : IM (f_X7_addsFault N 95 (nI 0) x) β (-2) β := by
  intro v hM
  refine ⟨v, ?_, hM, MK.rf⟩
  simp (disch := omega) only [f_X7_addsFault, lit, if_true]
theorem m_healsAll {N : Nat} {β : Nat → Nat} (h : β 2 ≤ 4) : IM (f_X7_healsAll N 95) β (nI (β 2)) (sb β 2 0) := by
  intro v hM
  refine ⟨_, ?_, hM.put (i := 2) (x := 0), MK.p96⟩
  simp (disch := omega) only [f_X7_healsAll, lit, bnd_s, lte_s, chk_in, chk_b, chk_0, chk_1, ar95_0, ar95_1, ar95_2, ar95_4, ar95_5, ar95_7, ar95_9, ar95_11, ar95_12, ar95_16, ar95_17, al96, al97, al98, al99, al100, al101, al102, al103, al104, al105, al106, nCl, hM 2 (by omega)]
/-- a bound of a range, as the model asks it -/
theorem le_pred {x : Int32} {n : Nat} (hn : n < 100) : (nI 0 ≤ x ∧ x ≤ nI n - nI 1) ↔ (nI 0 ≤ x ∧ x < nI n) := by
  have h3 := pk_sub_toInt (a := n) (b := 1) (by omega) (by omega)
  constructor
  · rintro ⟨h1, h2⟩
    refine ⟨h1, ?_⟩
    rw [Int32.le_iff_toInt_le, h3] at h2
    rw [Int32.lt_iff_toInt_lt, nI_toInt (by omega)]
    omega
  · rintro ⟨h1, h2⟩
    refine ⟨h1, ?_⟩
    rw [Int32.lt_iff_toInt_lt, nI_toInt (by omega)] at h2
    rw [Int32.le_iff_toInt_le, h3]
    omega
theorem m_isCell {N c : Nat} {k : Int32} {v : ASt} {β : Nat → Nat} (hM : MB v β) (hb : β 0 ≤ 4) (hc : c < β 0) (h6 : bc β c 2 ≤ 6) : f_X7_isCell N 95 (nI c) k v = some (bI (nI 0 ≤ k ∧ k < nI (bc β c 2)), v) := by
  have q1 : nI 0 ≤ nI c ∧ nI c < nI (β 0) := ⟨(nLE (by omega) (by omega)).mpr (by omega), (nLT (by omega) (by omega)).mpr hc⟩
  simp (disch := omega) only [f_X7_isCell, f_X7_isCell_28, m_isChip (hM 0 (by omega)) hb, lit, m_getB hM (show c < 4 by omega), m_within, bnd_s, bI0, bI1, q1, not_true, if_false, and_self]
  simp only [le_pred (x := k) (n := bc β c 2) (by omega)]
  by_cases q : nI 0 ≤ k ∧ k < nI (bc β c 2)
  · rw [bIt q, if_neg (fun h => h q)]
  · rw [bIf q, if_pos q]
theorem m_isCell_no {N : Nat} {c k : Int32} {v : ASt} {β : Nat → Nat} (hM : MB v β) (hb : β 0 ≤ 4) (hc : ¬ (0 ≤ c ∧ c < nI (β 0))) : f_X7_isCell N 95 c k v = some (nI 0, v) := by
  have q1 : ¬ (nI 0 ≤ c ∧ c < nI (β 0)) := hc
  simp (disch := omega) only [f_X7_isCell, f_X7_isCell_28, m_isChip (hM 0 (by omega)) hb, lit, bnd_s, bI0, bI1, q1, not_false_eq_true, if_true]
