theorem m_sh22 {N : Nat} {a b k : Int32} {v : ASt} : f_X7_shortsTwo N 95 a b k v = f_X7_shortsTwo_22 N 95 a b k (if b ≤ a then b else a) (if b ≤ a then a else b) v := by
  unfold f_X7_shortsTwo f_X7_shortsTwo_10
  by_cases h : b ≤ a
  · simp only [if_pos h]
  · simp only [if_neg h]
theorem Op_short {N : Nat} {β : Nat → Nat} (hw : WB β) (a b k : Int32) : Op (f_X0_addShort N 0 a b k) (f_X7_shortsTwo N 95 a b k) β := by
  by_cases h1 : nI 0 ≤ a ∧ a ≤ nI 7
  · by_cases h2 : nI 0 ≤ b ∧ b ≤ nI 7
    · by_cases h3 : a = b
      · refine Op_bad hw (fun u _ => ?_) (fun v _ => ?_)
        · simp (disch := omega) only [f_X0_addShort, f_X0_addShort_26, k_isNet, k_isBit, lit, bnd_s, lte_s, chk_in, chk_b, chk_0, chk_1, bI0, bI1, h1, h2, h3, not_true, if_true, if_false, and_self]
        · simp (disch := omega) only [m_sh22, f_X7_shortsTwo_22, f_X7_shortsTwo_55, f_X7_shortsTwo_56, m_isNet, m_isBit, lit, bnd_s, lte_s, chk_in, chk_b, chk_0, chk_1, bI0, bI1, h1, h2, h3, not_true, if_true, if_false, and_self, bad0]
      · by_cases h4 : k = nI 0 ∨ k = nI 1
        · obtain ⟨a', ha, rfl⟩ := of_net h1
          obtain ⟨b', hb, rfl⟩ := of_net h2
          obtain ⟨k', hk, rfl⟩ := of_bit h4
          have hab : a' ≠ b' := fun e => h3 (by rw [e])
          refine Op_fault (N := N) (x := 3000 + 1000 * k' + 10 * (if b' ≤ a' then b' else a') + (if b' ≤ a' then a' else b')) hw (Or.inr (Or.inr ⟨if b' ≤ a' then b' else a', if b' ≤ a' then a' else b', by split <;> omega, by split <;> omega, by omega⟩)) (fun u _ => ?_) (fun v _ => ?_)
          · have e1 : (if b' < a' then nI b' else nI a') = nI (if b' ≤ a' then b' else a') := by
              by_cases q : b' < a'
              · rw [if_pos q, if_pos (by omega)]
              · rw [if_neg q, if_neg (by omega)]
            have e2 : (if a' < b' then nI b' else nI a') = nI (if b' ≤ a' then a' else b') := by
              by_cases q : a' < b'
              · rw [if_pos q, if_neg (by omega)]
              · rw [if_neg q, if_pos (by omega)]
            simp (disch := omega) only [f_X0_addShort, f_X0_addShort_38, k_isNet, k_isBit, f_X6_faultCode, lit, bnd_s, lte_s, chk_in, chk_b, chk_0, chk_1, bI0, bI1, h1, h2, h4, hab, nE, nLT, not_true, not_false_eq_true, if_true, if_false, and_self, pk_mul, nI_add, e1, e2]
            have q : k' = 0 ∨ k' = 1 := by omega
            rcases q with rfl | rfl
            · simp
            · simp
          · have e1 : (if nI b' ≤ nI a' then nI b' else nI a') = nI (if b' ≤ a' then b' else a') := by
              by_cases q : b' ≤ a'
              · rw [if_pos q, if_pos ((nLE (by omega) (by omega)).mpr q)]
              · rw [if_neg q, if_neg (fun z => q ((nLE (by omega) (by omega)).mp z))]
            have e2 : (if nI b' ≤ nI a' then nI a' else nI b') = nI (if b' ≤ a' then a' else b') := by
              by_cases q : b' ≤ a'
              · rw [if_pos q, if_pos ((nLE (by omega) (by omega)).mpr q)]
              · rw [if_neg q, if_neg (fun z => q ((nLE (by omega) (by omega)).mp z))]
            rw [m_sh22, e1, e2]
            have q : k' = 0 ∨ k' = 1 := by omega
            simp (disch := omega) only [f_X7_shortsTwo_22, f_X7_shortsTwo_56, m_isNet, m_isBit, lit, bnd_s, lte_s, chk_in, chk_b, chk_0, chk_1, bI0, bI1, h1, h2, h4, q, hab, nE, not_true, not_false_eq_true, if_true, if_false, and_self, pk_mul, nI_add]
        · refine Op_bad hw (fun u _ => ?_) (fun v _ => ?_)
          · simp (disch := omega) only [f_X0_addShort, f_X0_addShort_26, k_isNet, k_isBit, lit, bnd_s, lte_s, chk_in, chk_b, chk_0, chk_1, bI0, bI1, h1, h2, h3, h4, not_true, not_false_eq_true, if_true, if_false, and_self]
          · simp (disch := omega) only [m_sh22, f_X7_shortsTwo_22, f_X7_shortsTwo_55, f_X7_shortsTwo_56, m_isNet, m_isBit, lit, bnd_s, lte_s, chk_in, chk_b, chk_0, chk_1, bI0, bI1, h1, h2, h3, h4, not_true, not_false_eq_true, if_true, if_false, and_self, bad0]
    · refine Op_bad hw (fun u _ => ?_) (fun v _ => ?_)
      · simp (disch := omega) only [f_X0_addShort, f_X0_addShort_26, k_isNet, k_isBit, lit, bnd_s, lte_s, chk_in, chk_b, chk_0, chk_1, bI0, bI1, h1, h2, not_true, not_false_eq_true, if_true, if_false, and_self]
      · simp (disch := omega) only [m_sh22, f_X7_shortsTwo_22, f_X7_shortsTwo_55, f_X7_shortsTwo_56, m_isNet, m_isBit, lit, bnd_s, lte_s, chk_in, chk_b, chk_0, chk_1, bI0, bI1, h1, h2, not_true, not_false_eq_true, if_true, if_false, and_self, bad0]
  · refine Op_bad hw (fun u _ => ?_) (fun v _ => ?_)
    · simp (disch := omega) only [f_X0_addShort, f_X0_addShort_26, k_isNet, k_isBit, lit, bnd_s, lte_s, chk_in, chk_b, chk_0, chk_1, bI0, bI1, h1, not_true, not_false_eq_true, if_true, if_false, and_self]
    · simp (disch := omega) only [m_sh22, f_X7_shortsTwo_22, f_X7_shortsTwo_55, f_X7_shortsTwo_56, m_isNet, m_isBit, lit, bnd_s, lte_s, chk_in, chk_b, chk_0, chk_1, bI0, bI1, h1, not_true, not_false_eq_true, if_true, if_false, and_self, bad0]
