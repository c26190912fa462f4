/-! the class: cells and faults -/
theorem nwC_lo {β : Nat → Nat} {c k n i : Nat} (h : i < 7) : nwC β c k n i = β i := by
  unfold nwC
  rw [sb_ne (by omega), sb_ne (by omega), sb_ne (by omega)]
theorem nwC_bc {β : Nat → Nat} {c k n c' f : Nat} (h6 : bc β c 2 < 6) (hf : f < 19) : bc (nwC β c k n) c' f = if c' = c ∧ f = 2 then bc β c 2 + 1 else if c' = c ∧ f = 8 + 2 * bc β c 2 then n else if c' = c ∧ f = 7 + 2 * bc β c 2 then k else bc β c' f := by
  unfold nwC
  rw [show (7 : Nat) + 19 * c + (7 + 2 * bc β c 2 + 1) = 7 + 19 * c + (8 + 2 * bc β c 2) by omega, bc_sb (by omega) hf, bc_sb (by omega) hf, bc_sb (by omega) hf]
theorem nwC_o {β : Nat → Nat} {c k n c' f : Nat} (h6 : bc β c 2 < 6) (hf : f < 19) (h : c' ≠ c) : bc (nwC β c k n) c' f = bc β c' f := by
  rw [nwC_bc h6 hf, if_neg (by omega), if_neg (by omega), if_neg (by omega)]
theorem nwC_s {β : Nat → Nat} {c k n f : Nat} (h6 : bc β c 2 < 6) (hf : f < 19) (h2 : f ≠ 2) (h7 : f ≠ 7 + 2 * bc β c 2) (h8 : f ≠ 8 + 2 * bc β c 2) : bc (nwC β c k n) c f = bc β c f := by
  rw [nwC_bc h6 hf, if_neg (by omega), if_neg (by omega), if_neg (by omega)]
theorem nwC_2 {β : Nat → Nat} {c k n : Nat} (h6 : bc β c 2 < 6) : bc (nwC β c k n) c 2 = bc β c 2 + 1 := by
  rw [nwC_bc h6 (by omega), if_pos (by omega)]
theorem nwC_7 {β : Nat → Nat} {c k n : Nat} (h6 : bc β c 2 < 6) : bc (nwC β c k n) c (7 + 2 * bc β c 2) = k := by
  rw [nwC_bc h6 (by omega), if_neg (by omega), if_neg (by omega), if_pos (by omega)]
theorem nwC_8 {β : Nat → Nat} {c k n : Nat} (h6 : bc β c 2 < 6) : bc (nwC β c k n) c (8 + 2 * bc β c 2) = n := by
  rw [nwC_bc h6 (by omega), if_neg (by omega), if_pos (by omega)]
theorem WB_nwC {β : Nat → Nat} {c k n : Nat} (h : WB β) (hc : c < β 0) (hk : k < 2) (hn : n < 8) (h6 : bc β c 2 < 6) : WB (nwC β c k n) := by
  obtain ⟨a0, a1, a2, a3, a4⟩ := h
  unfold WB
  rw [nwC_lo (by omega), nwC_lo (by omega), nwC_lo (by omega)]
  refine ⟨a0, a1, a2, fun j hj => by rw [nwC_lo (by omega)]; exact a3 j hj, fun c' hc' => ?_⟩
  obtain ⟨b0, b1, b2, b3, b4, b5, b6, b7, b8⟩ := a4 c' hc'
  by_cases e : c' = c
  · subst e
    unfold WC
    rw [nwC_s h6 (f := 0) (by omega) (by omega) (by omega) (by omega), nwC_s h6 (f := 1) (by omega) (by omega) (by omega) (by omega), nwC_2 h6, nwC_s h6 (f := 3) (by omega) (by omega) (by omega) (by omega), nwC_s h6 (f := 4) (by omega) (by omega) (by omega) (by omega), nwC_s h6 (f := 5) (by omega) (by omega) (by omega) (by omega), nwC_s h6 (f := 6) (by omega) (by omega) (by omega) (by omega)]
    refine ⟨b0, b1, b2, by omega, b4, b5, b6, b7, fun j hj => ?_⟩
    by_cases q : j = bc β c' 2
    · subst q
      rw [nwC_7 h6, nwC_8 h6]
      omega
    · rw [nwC_s h6 (by omega) (by omega) (by omega) (by omega), nwC_s h6 (by omega) (by omega) (by omega) (by omega)]
      exact b8 j (by omega)
  · unfold WC
    rw [nwC_o h6 (by omega) e, nwC_o h6 (by omega) e, nwC_o h6 (by omega) e, nwC_o h6 (by omega) e, nwC_o h6 (by omega) e, nwC_o h6 (by omega) e, nwC_o h6 (by omega) e]
    refine ⟨b0, b1, b2, b3, b4, b5, b6, b7, fun j hj => ?_⟩
    rw [nwC_o h6 (by omega) e, nwC_o h6 (by omega) e]
    exact b8 j hj
theorem nmk_nwC {β : Nat → Nat} {c k n : Nat} (hw : WB β) (hk : k < 2) (h6 : bc β c 2 < 6) (hc : c < β 0) (b : Bool) : ∀ m, m ≤ β 0 → nmk (nwC β c k n) b m = if c < m then nmk β b m ||| (if b = true ∧ k = 0 then 0 else 1 <<< n) else nmk β b m := by
  intro m
  induction m with
  | zero => intro _; rfl
  | succ m ih =>
    intro hm
    rw [nmk, nmk, ih (by omega)]
    by_cases e : m = c
    · subst e
      rw [if_neg (by omega), if_pos (by omega), nwC_2 h6, nmk1, nwC_7 h6, nwC_8 h6, nmk1_congr (β := β) _ (fun j hj => ⟨nwC_s h6 (by omega) (by omega) (by omega) (by omega), nwC_s h6 (by omega) (by omega) (by omega) (by omega)⟩), Nat.or_assoc]
    · have h2 := (hw.2.2.2.2 m (by omega)).2.2.2.1
      rw [nwC_o h6 (by omega) e, nmk1_congr (β := β) _ (fun j hj => ⟨nwC_o h6 (by omega) e, nwC_o h6 (by omega) e⟩)]
      by_cases q : c < m
      · rw [if_pos q, if_pos (show c < m + 1 by omega), Nat.or_assoc, Nat.or_assoc, Nat.or_comm (if b = true ∧ k = 0 then 0 else 1 <<< n)]
      · rw [if_neg q, if_neg (show ¬ c < m + 1 by omega)]
theorem k_addCellC {N o a c k n : Nat} {u : ASt} {β : Nat → Nat} (h : CC u o a β c) (hoa : o ≠ a) (ha : arf o 8 = a) (hl : aln a = 6) (h6 : bc β c 2 < 6) (hk : k < 2) (hn : n < 8) : f_X1_addCell N o (nI k) (nI n) u = some (nI (bc β c 2), apt (apt (apt u a (bc β c 2) (nI n)) o 7 (nI (omk β c (bc β c 2) ||| k <<< bc β c 2))) o 6 (nI (bc β c 2 + 1))) := by
  obtain ⟨a0, a1, a2, a3, a4, a5, a6, a7, a8⟩ := h
  have hs : k <<< bc β c 2 < 4294967296 := Nat.lt_of_lt_of_le (shl_256 (by omega) (by omega)) (by decide)
  have hs2 : nI k <<< (nI (bc β c 2) &&& nI 31) = nI (k <<< bc β c 2) := nShl (by omega) hs
  have e7 : agt (apt u a (bc β c 2) (nI n)) o 7 = nI (omk β c (bc β c 2)) := by rw [agt_pt_o hoa]; exact a7
  have e6 : agt (apt (apt u a (bc β c 2) (nI n)) o 7 (nI (omk β c (bc β c 2) ||| k <<< bc β c 2))) o 6 = nI (bc β c 2) := by rw [agt_pt_k (by omega), agt_pt_o hoa]; exact a6
  simp (disch := omega) only [f_X1_addCell, lit, a6, nLT, h6, if_true, bnd_s, lte_s, chk_in, chk_b, chk_0, chk_1, ha, hl, nCl, hs2, e7, nOr, e6, nI_add]
theorem k_addCell {N c k n : Nat} {β : Nat → Nat} (hw : WB β) (hc : c < β 0) (hk : k < 2) (hn : n < 8) (h6 : bc β c 2 < 6) : IC (f_X0_addCell N 0 (nI c) (nI k) (nI n)) β (nI (bc β c 2)) (nwC β c k n) := by
  intro u hC
  have h4 := hw.1
  have hCC := hC.cc hc
  have F := k_addCellC (N := N) (k := k) (n := n) hCC (by omega) (ar_c8 c (by omega)) (al_7c c (by omega)) h6 hk hn
  obtain ⟨u3, hu3⟩ : ∃ z, z = apt (apt (apt u (7 + c) (bc β c 2) (nI n)) (3 + c) 7 (nI (omk β c (bc β c 2) ||| k <<< bc β c 2))) (3 + c) 6 (nI (bc β c 2 + 1)) := ⟨_, rfl⟩
  rw [← hu3] at F
  have ne3 : ∀ a, a ≠ 3 + c → a ≠ 7 + c → u3.1 a = u.1 a := by
    intro a h1 h2
    rw [hu3, apt_ne h1, apt_ne h1, apt_ne h2]
  obtain ⟨a0, a1, a2, a3, a4, a5, a6⟩ := hC
  simp only [Nat.mul_zero, Nat.zero_add] at a0 a1 a2 a3 a4 a5 a6
  have nl := nmk_lt (β := β) (b := false) (β 0) (fun c' hc' j hj => ((hw.2.2.2.2 c' hc').2.2.2.2.2.2.2.2 j hj).2)
  have z5 : agt u3 0 5 = nI (nmk β false (β 0)) := by rw [agt_e (ne3 0 (by omega) (by omega))]; exact a5
  have z6 : agt (apt u3 0 5 (nI (nmk β false (β 0) ||| 1 <<< n))) 0 6 = nI (nmk β true (β 0)) := by rw [agt_pt_k (by omega), agt_e (ne3 0 (by omega) (by omega))]; exact a6
  have s1 : nI 1 <<< (nI n &&& nI 31) = nI (1 <<< n) := nShl (by omega) (Nat.lt_of_lt_of_le (shl_256 (by omega) hn) (by decide))
  have s2 : nI k <<< (nI n &&& nI 31) = nI (k <<< n) := nShl (by omega) (Nat.lt_of_lt_of_le (shl_256 (by omega) hn) (by decide))
  refine ⟨apt (apt u3 0 5 (nI (nmk β false (β 0) ||| 1 <<< n))) 0 6 (nI (nmk β true (β 0) ||| k <<< n)), ?_, ?_, fun a h1 h2 => ?_⟩
  · have q1 : nI 0 ≤ nI c ∧ nI c < nI (β 0) := ⟨(nLE (by omega) (by omega)).mpr (by omega), (nLT (by omega) (by omega)).mpr hc⟩
    have q2 : k = 0 ∨ k = 1 := by omega
    have q2' : nI k = nI 0 ∨ nI k = nI 1 := by rcases q2 with rfl | rfl <;> simp
    have q3 : nI 0 ≤ nI n ∧ nI n ≤ nI 7 := ⟨(nLE (by omega) (by omega)).mpr (by omega), (nLE (by omega) (by omega)).mpr (by omega)⟩
    have q4 : ¬ bc β c 2 < 0 := by omega
    simp (disch := omega) only [f_X0_addCell, f_X0_addCell_67, k_hasChip (n := β 0) a0, k_isBit, k_isNet, lit, bnd_s, lte_s, chk_in, chk_b, chk_0, chk_1, bI0, bI1, q1, q2, q2', q3, not_true, if_false, and_self, ar_b0, al_1, nCl, ar_1, F, nLT, q4, s1, s2, z5, nOr, z6]
  · have y0 : ∀ j, j ≠ 5 → j ≠ 6 → agt (apt (apt u3 0 5 (nI (nmk β false (β 0) ||| 1 <<< n))) 0 6 (nI (nmk β true (β 0) ||| k <<< n))) 0 j = agt u 0 j := fun j h5 h6 => by rw [agt_pt_k h6, agt_pt_k h5, agt_e (ne3 0 (by omega) (by omega))]
    have yo : ∀ a, a ≠ 0 → (apt (apt u3 0 5 (nI (nmk β false (β 0) ||| 1 <<< n))) 0 6 (nI (nmk β true (β 0) ||| k <<< n))).1 a = u3.1 a := fun a ha => by rw [apt_ne ha, apt_ne ha]
    unfold CB
    simp only [Nat.mul_zero, Nat.zero_add]
    rw [nwC_lo (by omega), nwC_lo (by omega), nwC_lo (by omega), nmk_nwC hw hk h6 hc false (β 0) (Nat.le_refl _), nmk_nwC hw hk h6 hc true (β 0) (Nat.le_refl _), if_pos hc, if_pos hc]
    refine ⟨by rw [y0 1 (by omega) (by omega)]; exact a0, by rw [y0 4 (by omega) (by omega)]; exact a1, by rw [y0 3 (by omega) (by omega)]; exact a2, fun j hj => ?_, fun c' hc' => ?_, ?_, ?_⟩
    · have := hw.2.2.1
      rw [nwC_lo (by omega), agt_e (yo 2 (by omega)), agt_e (ne3 2 (by omega) (by omega))]
      exact a3 j hj
    · by_cases e : c' = c
      · subst e
        obtain ⟨b0, b1, b2, b3, b4, b5, b6, b7, b8⟩ := hCC
        have g3 : ∀ j, agt (apt (apt u3 0 5 (nI (nmk β false (β 0) ||| 1 <<< n))) 0 6 (nI (nmk β true (β 0) ||| k <<< n))) (3 + c') j = if j = 6 then nI (bc β c' 2 + 1) else if j = 7 then nI (omk β c' (bc β c' 2) ||| k <<< bc β c' 2) else agt u (3 + c') j := by
          intro j
          rw [agt_e (yo _ (by omega)), hu3, agt_pt, agt_pt, agt_pt_o (by omega)]
          simp
        have g7 : ∀ j, agt (apt (apt u3 0 5 (nI (nmk β false (β 0) ||| 1 <<< n))) 0 6 (nI (nmk β true (β 0) ||| k <<< n))) (7 + c') j = if j = bc β c' 2 then nI n else agt u (7 + c') j := by
          intro j
          rw [agt_e (yo _ (by omega)), hu3, agt_pt_o (by omega), agt_pt_o (by omega), agt_pt]
          simp
        unfold CC
        rw [nwC_s h6 (f := 0) (by omega) (by omega) (by omega) (by omega), nwC_s h6 (f := 1) (by omega) (by omega) (by omega) (by omega), nwC_2 h6, nwC_s h6 (f := 3) (by omega) (by omega) (by omega) (by omega), nwC_s h6 (f := 4) (by omega) (by omega) (by omega) (by omega), nwC_s h6 (f := 5) (by omega) (by omega) (by omega) (by omega), nwC_s h6 (f := 6) (by omega) (by omega) (by omega) (by omega)]
        simp only [g3, g7]
        refine ⟨b0, b1, b2, b3, b4, b5, rfl, ?_, fun j hj => ?_⟩
        · rw [omk, nwC_7 h6, omk_congr (β := β) _ (fun j hj => nwC_s h6 (by omega) (by omega) (by omega) (by omega))]
          rfl
        · by_cases q : j = bc β c' 2
          · rw [if_pos q]
            subst q
            rw [nwC_8 h6]
          · rw [if_neg q, nwC_s h6 (by omega) (by omega) (by omega) (by omega)]
            exact b8 j (by omega)
      · have q1 := (yo (3 + c') (by omega)).trans (ne3 (3 + c') (by omega) (by omega))
        have q2 := (yo (7 + c') (by omega)).trans (ne3 (7 + c') (by omega) (by omega))
        obtain ⟨b0, b1, b2, b3, b4, b5, b6, b7, b8⟩ := (a4 c' hc').kept q1 q2
        have h26 := (hw.2.2.2.2 c' hc').2.2.2.1
        unfold CC
        rw [nwC_o h6 (by omega) e, nwC_o h6 (by omega) e, nwC_o h6 (by omega) e, nwC_o h6 (by omega) e, nwC_o h6 (by omega) e, nwC_o h6 (by omega) e, nwC_o h6 (by omega) e, omk_congr (β := β) _ (fun j hj => nwC_o h6 (by omega) e)]
        refine ⟨b0, b1, b2, b3, b4, b5, b6, b7, fun j hj => ?_⟩
        rw [nwC_o h6 (by omega) e]
        exact b8 j hj
    · rw [agt_pt_k (by omega), agt_pt_s]
      simp
    · rw [agt_pt_s]
      have q2 : k = 0 ∨ k = 1 := by omega
      rcases q2 with rfl | rfl <;> simp
  · rw [apt_ne (by omega), apt_ne (by omega)]
    exact ne3 a (by omega) (by omega)
theorem k_addCell_bad {N : Nat} {c k n : Int32} {β : Nat → Nat} (h : ¬ ((0 ≤ c ∧ c < nI (β 0)) ∧ (k = 0 ∨ k = 1) ∧ 0 ≤ n ∧ n ≤ 7)) : IC (f_X0_addCell N 0 c k n) β (-2) β := by
  intro u hC
  have a0 := hC.1
  simp only [Nat.mul_zero] at a0
  refine ⟨u, ?_, hC, CK.rf⟩
  simp only [f_X0_addCell, f_X0_addCell_22, k_hasChip (n := β 0) a0, k_isBit, k_isNet, lit, bnd_s, bI0, bI1]
  by_cases q1 : nI 0 ≤ c ∧ c < nI (β 0)
  · by_cases q2 : k = nI 0 ∨ k = nI 1
    · have q3 : ¬ (nI 0 ≤ n ∧ n ≤ nI 7) := fun q3 => h ⟨q1, q2, q3⟩
      simp [q1, q2, q3]
    · simp [q1, q2]
  · simp [q1]
theorem k_addCell_full {N c : Nat} {k n : Int32} {β : Nat → Nat} (hw : WB β) (hc : c < β 0) (hk : k = 0 ∨ k = 1) (hn : 0 ≤ n ∧ n ≤ 7) (h6 : bc β c 2 = 6) : IC (f_X0_addCell N 0 (nI c) k n) β (-4) β := by
  intro u hC
  have h4 := hw.1
  have a0 := hC.1
  simp only [Nat.mul_zero] at a0
  have hCC := hC.cc hc
  refine ⟨u, ?_, hC, CK.rf⟩
  have q1 : nI 0 ≤ nI c ∧ nI c < nI (β 0) := ⟨(nLE (by omega) (by omega)).mpr (by omega), (nLT (by omega) (by omega)).mpr hc⟩
  have q2 : k = nI 0 ∨ k = nI 1 := hk
  have q3 : nI 0 ≤ n ∧ n ≤ nI 7 := hn
  have a6 := hCC.2.2.2.2.2.2.1
  rw [h6] at a6
  have q5 : (-nI 4 : Int32) < nI 0 := by decide
  simp (disch := omega) only [f_X0_addCell, f_X0_addCell_67, f_X1_addCell, k_hasChip (n := β 0) a0, k_isBit, k_isNet, lit, bnd_s, lte_s, chk_in, chk_b, chk_0, chk_1, bI0, bI1, q1, q2, q3, not_true, if_false, and_self, ar_b0, al_1, nCl, ar_1, a6, nLT, Nat.lt_irrefl, q5, if_true]
