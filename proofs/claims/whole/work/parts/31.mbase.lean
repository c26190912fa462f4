/-! the model: reads -/
theorem m_within {N : Nat} {x a b : Int32} {v : ASt} : f_X7_within N x a b v = some (bI (a ≤ x ∧ x ≤ b), v) := by
  unfold f_X7_within f_X7_within_14
  by_cases h1 : x < a
  · rw [if_pos h1, bIf (fun q => absurd q.1 (Int32.not_le.mpr h1))]; rfl
  · rw [if_neg h1]
    by_cases h2 : b < x
    · rw [if_pos h2, bIf (fun q => absurd q.2 (Int32.not_le.mpr h2))]; rfl
    · rw [if_neg h2, bIt ⟨Int32.not_lt.mp h1, Int32.not_lt.mp h2⟩]; rfl
theorem m_isBit {N : Nat} {x : Int32} {v : ASt} : f_X7_isBit N x v = some (bI (x = 0 ∨ x = 1), v) := by
  unfold f_X7_isBit f_X7_isBit_9
  by_cases h1 : x = 0
  · rw [if_pos h1, bIt (Or.inl h1)]; rfl
  · rw [if_neg h1]
    by_cases h2 : x = 1
    · rw [if_pos h2, bIt (Or.inr h2)]; rfl
    · rw [if_neg h2, bIf (fun q => q.elim h1 h2)]; rfl
theorem m_isNet {N : Nat} {x : Int32} {v : ASt} : f_X7_isNet N x v = some (bI (0 ≤ x ∧ x ≤ 7), v) := by
  simp only [f_X7_isNet, m_within, bnd_s, lit, chk_b]
theorem m_at {N : Nat} {c k : Nat} {v : ASt} : f_X7_at N (nI c) (nI k) v = some (nI (7 + 19 * c + k), v) := by
  simp only [f_X7_at, lit, pk_mul, nI_add]
theorem m_get {N : Nat} {c k : Nat} {v : ASt} (h : 7 + 19 * c + k < 83) : f_X7_get N 95 (nI c) (nI k) v = some (agt v 96 (7 + 19 * c + k), v) := by
  simp (disch := omega) only [f_X7_get, m_at, bnd_s, lte_s, chk_in, chk_b, chk_0, chk_1, lit, nE, nLE, nLT, nCl, nI_add, pk_mul, nSub, nOr, nAnd, nDiv, nRem, ar95_0, ar95_1, ar95_2, ar95_4, ar95_5, ar95_7, ar95_9, ar95_11, ar95_12, ar95_16, ar95_17, al96, al97, al98, al99, al100, al101, al102, al103, al104, al105, al106]
theorem m_chips {N : Nat} {v : ASt} : f_X7_chips N 95 v = some (agt v 96 0, v) := by
  simp (disch := omega) only [f_X7_chips, bnd_s, lte_s, chk_in, chk_b, chk_0, chk_1, lit, nE, nLE, nLT, nCl, nI_add, pk_mul, nSub, nOr, nAnd, nDiv, nRem, ar95_0, ar95_1, ar95_2, ar95_4, ar95_5, ar95_7, ar95_9, ar95_11, ar95_12, ar95_16, ar95_17, al96, al97, al98, al99, al100, al101, al102, al103, al104, al105, al106]
theorem m_isChip {N n : Nat} {c : Int32} {v : ASt} (hn : agt v 96 0 = nI n) (h4 : n ≤ 4) : f_X7_isChip N 95 c v = some (bI (0 ≤ c ∧ c < nI n), v) := by
  have e : (0 ≤ c ∧ c ≤ agt v 96 0 - 1) ↔ (0 ≤ c ∧ c < nI n) := by
    rw [hn]
    constructor
    · rintro ⟨h1, h2⟩
      refine ⟨h1, ?_⟩
      rw [Int32.lt_iff_toInt_lt]
      rw [Int32.le_iff_toInt_le] at h1 h2
      have h3 := pk_sub_toInt (a := n) (b := 1) (by omega) (by omega)
      rw [show (1 : Int32) = nI 1 from rfl, h3] at h2
      rw [nI_toInt (by omega)]
      omega
    · rintro ⟨h1, h2⟩
      refine ⟨h1, ?_⟩
      rw [Int32.lt_iff_toInt_lt, nI_toInt (by omega)] at h2
      rw [Int32.le_iff_toInt_le]
      have h3 := pk_sub_toInt (a := n) (b := 1) (by omega) (by omega)
      rw [show (1 : Int32) = nI 1 from rfl, h3]
      omega
  simp (disch := omega) only [f_X7_isChip, m_within, bnd_s, lte_s, chk_in, chk_b, chk_0, chk_1, lit, nE, nLE, nLT, nCl, nI_add, pk_mul, nSub, nOr, nAnd, nDiv, nRem, ar95_0, ar95_1, ar95_2, ar95_4, ar95_5, ar95_7, ar95_9, ar95_11, ar95_12, ar95_16, ar95_17, al96, al97, al98, al99, al100, al101, al102, al103, al104, al105, al106]
  exact congrArg (fun z => some (z, v)) (bIc e)
theorem m_isOut {N : Nat} {c k x : Nat} {v : ASt} (h : 7 + 19 * c + (7 + 2 * k) < 83) (hx : agt v 96 (7 + 19 * c + (7 + 2 * k)) = nI x) (h2 : x ≤ 1) : f_X7_isOut N 95 (nI c) (nI k) v = some (bI (x = 1), v) := by
  simp (disch := omega) only [f_X7_isOut, m_get, hx, bnd_s, lte_s, chk_in, chk_b, chk_0, chk_1, lit, nE, nLE, nLT, nCl, nI_add, pk_mul, nSub, nOr, nAnd, nDiv, nRem]
  by_cases q : x = 1
  · rw [if_pos q, bIt q]
  · rw [if_neg q, bIf q]
theorem m_netOf {N : Nat} {c k : Nat} {v : ASt} (h : 7 + 19 * c + (7 + 2 * k + 1) < 83) : f_X7_netOf N 95 (nI c) (nI k) v = some (agt v 96 (7 + 19 * c + (7 + 2 * k + 1)), v) := by
  simp (disch := omega) only [f_X7_netOf, m_get, bnd_s, lte_s, chk_in, chk_b, chk_0, chk_1, lit, nE, nLE, nLT, nCl, nI_add, pk_mul, nSub, nOr, nAnd, nDiv, nRem]
