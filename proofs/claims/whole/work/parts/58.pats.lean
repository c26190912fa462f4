/-! patterns, pattern -/
section PATS
variable {N : Nat}
def sO (β : Nat → Nat) : Nat := nmk β true (β 0)
theorem sO_lt {β : Nat → Nat} (hw : WB β) : sO β < 256 := nmk_lt (β := β) (b := true) (β 0) (fun c hc k hk => hw.net hc hk)
theorem CB.u6 {u : ASt} {β : Nat → Nat} (h : CB u 0 β) : agt u 0 6 = nI (sO β) := by have := h.2.2.2.2.2.2; simpa [sO] using this
theorem CB.u5 {u : ASt} {β : Nat → Nat} (h : CB u 0 β) : agt u 0 5 = nI (nmk β false (β 0)) := by have := h.2.2.2.2.2.1; simpa using this
theorem CB.u3 {u : ASt} {β : Nat → Nat} (h : CB u 0 β) : agt u 0 3 = nI (β 2) := by have := h.2.2.1; simpa using this
theorem sim_patterns (hN : 1000 ≤ N) (p : Int32) : Sm (f_X6_patterns N 77 p) (f_X7_patterns N 95 p) := by
  intro u v h
  by_cases q : p = nI 0 ∨ p = nI 1
  · obtain ⟨t, ht, rfl⟩ := of_bit q
    refine read_sim h (fun β hw => ⟨nI (Pn t (sO β)), fun u hC => ⟨u, ?_, CK0.rf⟩, fun v hM => ⟨v, ?_, MK0.rf⟩⟩)
    · simp only [f_X6_patterns, k_isBit, lit, bnd_s, bI0, q, not_true, if_false, ar77_2, k_pcount (show 20 ≤ N by omega) ht (sO_lt hw) hC.u6]
    · simp only [f_X7_patterns, m_isBit, lit, bnd_s, bI0, q, not_true, if_false, m_patternsOf hw (show 20 ≤ N by omega) hM]
      rfl
  · refine bad_sim (N := N) h ?_ ?_
    · simp only [f_X6_patterns, k_isBit, lit, bnd_s, bI0, q, not_false_eq_true, if_true]
    · simp only [f_X7_patterns, m_isBit, lit, bnd_s, bI0, q, not_false_eq_true, if_true]
theorem sim_pattern (hN : 1000 ≤ N) (p i n : Int32) : Sm (f_X6_pattern N 77 p i n) (f_X7_pattern N 95 p i n) := by
  intro u v h
  have h0 := h
  obtain ⟨β, m, mp, hs, nn, tx, R⟩ := h
  have hw := R.1
  have hC := R.2.2.2.2.2.2.1
  have hM := R.2.2.2.2.2.2.2.2.2.1
  have hN2 : 20 ≤ N := by omega
  by_cases q : p = nI 0 ∨ p = nI 1
  · obtain ⟨t, ht, rfl⟩ := of_bit q
    have hP := Pn_b (t := t) (s := sO β) ht
    have pcl := k_pcount (N := N) hN2 ht (sO_lt hw) hC.u6
    have pm : f_X7_patternsOf N 95 (nI t) v = some (nI (Pn t (sO β)), v) := m_patternsOf hw hN2 hM
    have lp := le_pred (x := i) (n := Pn t (sO β)) (by omega)
    by_cases q2 : nI 0 ≤ n ∧ n ≤ nI 7
    · by_cases q3 : nI 0 ≤ i ∧ i < nI (Pn t (sO β))
      · obtain ⟨j, hj, rfl⟩ := of_net q2
        obtain ⟨k, hk, rfl⟩ := of_rng (n := Pn t (sO β)) (by omega) q3
        have o : f_X7_outs N 95 v = some (nI (sO β), v) := m_outs hw hN2 hM
        have s8 := sO_lt hw
        have k0 : ¬ k < 0 := by omega
        have r : nI 0 ≤ nI k ∧ nI k ≤ nI (Pn t (sO β)) - nI 1 := lp.mpr q3
        by_cases q4 : (sO β).testBit j = true
        · refine ⟨nI (if (stim t (sO β) j).testBit k = true then 1 else 0), u, v, ?_, ?_, h0⟩
          · have sb := stim_b (t := t) ht s8 hj
            have sp := shl_256' _ hP.2
            have e1 : f_X4_stimulus N 81 (nI t) (nI j) u = some (nI (stim t (sO β) j), u) := by
              simp only [f_X4_stimulus, ar81_0, hC.u6, k_stim hN2 ht s8 hj, bnd_s]
            have e2 := lat_bit (x := stim t (sO β) j) (k := k) (by omega) (by omega)
            simp (disch := omega) only [f_X6_pattern, k_isBit, k_isNet, lit, bnd_s, bI0, q, q2, and_self, not_true, if_false, nLT, k0, ar77_2, ar77_0, pcl, hk, if_true, hC.u6, k_isMember, q4, e1, e2]
          · have := m_patternAt (N := N) hw hN2 hM ht hj q4 hk
            simp (disch := omega) only [f_X7_pattern, m_isBit, m_isNet, m_within, lit, bnd_s, bI0, q, q2, and_self, not_true, if_false, pm, r, o, m_has, q4, this]
            rfl
        · refine ⟨-1, u, v, ?_, ?_, h0⟩
          · simp (disch := omega) only [f_X6_pattern, k_isBit, k_isNet, lit, bnd_s, bI0, q, q2, and_self, not_true, if_false, nLT, k0, ar77_2, ar77_0, pcl, hk, if_true, hC.u6, k_isMember, q4, Bool.false_eq_true, not_false_eq_true]
          · simp (disch := omega) only [f_X7_pattern, m_isBit, m_isNet, m_within, lit, bnd_s, bI0, q, q2, and_self, not_true, if_false, pm, r, o, m_has, q4, Bool.false_eq_true, not_false_eq_true, if_true]
      · refine bad_sim (N := N) h0 ?_ ?_
        · by_cases q5 : i < nI 0
          · simp only [f_X6_pattern, f_X6_pattern_30, k_isBit, k_isNet, lit, bnd_s, bI0, q, q2, and_self, not_true, if_false, q5, if_true]
          · have q6 : ¬ i < nI (Pn t (sO β)) := fun z => q3 ⟨Int32.not_lt.mp q5, z⟩
            simp only [f_X6_pattern, f_X6_pattern_30, k_isBit, k_isNet, lit, bnd_s, bI0, q, q2, and_self, not_true, if_false, q5, ar77_2, pcl, q6]
        · have q5 : ¬ (nI 0 ≤ i ∧ i ≤ nI (Pn t (sO β)) - nI 1) := fun z => q3 (lp.mp z)
          simp only [f_X7_pattern, f_X7_pattern_29, m_isBit, m_within, lit, bnd_s, bI0, q, not_true, if_false, pm, q5, not_false_eq_true, if_true]
    · refine bad_sim (N := N) h0 ?_ ?_
      · simp only [f_X6_pattern, f_X6_pattern_30, k_isBit, k_isNet, lit, bnd_s, bI0, q, q2, not_false_eq_true, not_true, if_false, if_true]
      · by_cases q5 : nI 0 ≤ i ∧ i ≤ nI (Pn t (sO β)) - nI 1
        · simp only [f_X7_pattern, f_X7_pattern_29, m_isBit, m_isNet, m_within, lit, bnd_s, bI0, q, not_true, if_false, pm, q5, and_self, q2, not_false_eq_true, if_true]
        · simp only [f_X7_pattern, f_X7_pattern_29, m_isBit, m_within, lit, bnd_s, bI0, q, not_true, if_false, pm, q5, not_false_eq_true, if_true]
  · refine bad_sim (N := N) h0 ?_ ?_
    · simp only [f_X6_pattern, f_X6_pattern_30, k_isBit, lit, bnd_s, bI0, q, not_false_eq_true, if_true]
    · simp only [f_X7_pattern, f_X7_pattern_29, m_isBit, lit, bnd_s, bI0, q, not_false_eq_true, if_true]
end PATS
