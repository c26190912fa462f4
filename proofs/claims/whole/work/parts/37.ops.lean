/-! faults; the calls on a board, class beside model -/
def Op (gc gm : ASt → Option (Int32 × ASt)) (β : Nat → Nat) : Prop := ∃ r β', WB β' ∧ IC gc β r β' ∧ IM gm β r β' ∧ (0 ≤ r ∨ ((r = -2 ∨ r = -4) ∧ β' = β))
theorem nwF_hi {β : Nat → Nat} {x c f : Nat} (h : β 2 < 4) : bc (nwF β x) c f = bc β c f := by
  unfold nwF
  rw [bc_lo (by omega), bc_lo (by omega)]
theorem CB_lo {u u' : ASt} {β β' : Nat → Nat} (h : CB u 0 β) (hw : WB β) (e0 : β' 0 = β 0) (hb : ∀ c f, bc β' c f = bc β c f) (hk : ∀ a, 3 ≤ a → a < 11 → u'.1 a = u.1 a) (h1 : agt u' 0 1 = agt u 0 1) (h5 : agt u' 0 5 = agt u 0 5) (h6 : agt u' 0 6 = agt u 0 6) (h4 : agt u' 0 4 = nI (β' 1)) (h3 : agt u' 0 3 = nI (β' 2)) (hf : ∀ j, j < β' 2 → agt u' 2 j = nI (β' (3 + j))) : CB u' 0 β' := by
  have hw4 := hw.1
  obtain ⟨a0, a1, a2, a3, a4, a5, a6⟩ := h
  unfold CB
  simp only [Nat.mul_zero, Nat.zero_add] at a0 a1 a2 a3 a4 a5 a6 ⊢
  rw [e0, nmk_congr (β := β) (b := false) _ (fun c _ => ⟨hb _ _, fun k _ => ⟨hb _ _, hb _ _⟩⟩), nmk_congr (β := β) (b := true) _ (fun c _ => ⟨hb _ _, fun k _ => ⟨hb _ _, hb _ _⟩⟩), h1, h5, h6]
  refine ⟨a0, h4, h3, hf, fun c hc => ?_, a5, a6⟩
  obtain ⟨b0, b1, b2, b3, b4, b5, b6, b7, b8⟩ := (a4 c hc).kept (hk (3 + c) (by omega) (by omega)) (hk (7 + c) (by omega) (by omega))
  unfold CC
  simp only [hb, omk_congr (β := β) (β' := β') _ (fun k _ => hb _ _)]
  exact ⟨b0, b1, b2, b3, b4, b5, b6, b7, b8⟩
theorem k_addFault {N x : Nat} {β : Nat → Nat} (hw : WB β) (h : β 2 < 4) : IC (f_X0_addFault N 0 (nI x)) β (nI (β 2 + 1)) (nwF β x) := by
  intro u hC
  have hC' := hC
  obtain ⟨a0, a1, a2, a3, a4, a5, a6⟩ := hC
  simp only [Nat.mul_zero, Nat.zero_add] at a0 a1 a2 a3 a4 a5 a6
  have e3 : agt (apt u 2 (β 2) (nI x)) 0 3 = nI (β 2) := by rw [agt_pt_o (by omega)]; exact a2
  refine ⟨apt (apt u 2 (β 2) (nI x)) 0 3 (nI (β 2 + 1)), ?_, ?_, fun a h1 h2 => by rw [apt_ne (by omega), apt_ne (by omega)]⟩
  · simp (disch := omega) only [f_X0_addFault, lit, a2, nLT, h, if_true, bnd_s, lte_s, chk_in, chk_b, chk_0, chk_1, ar_b2, al_2, nCl, e3, nI_add, agt_pt_s]
  · refine CB_lo hC' hw ?_ (fun c f => nwF_hi h) (fun a h1 h2 => by rw [apt_ne (by omega), apt_ne (by omega)]) (by rw [agt_pt_k (by omega), agt_pt_o (by omega)]) (by rw [agt_pt_k (by omega), agt_pt_o (by omega)]) (by rw [agt_pt_k (by omega), agt_pt_o (by omega)]) ?_ ?_ (fun j hj => ?_)
    · unfold nwF; rw [sb_ne (by omega), sb_ne (by omega)]
    · rw [agt_pt_k (by omega), agt_pt_o (by omega)]
      unfold nwF; rw [sb_ne (by omega), sb_ne (by omega)]; exact a1
    · rw [agt_pt_s]; unfold nwF; rw [sb_eq]
    · unfold nwF at hj ⊢
      rw [sb_eq] at hj
      rw [agt_pt_o (by omega), agt_pt, sb_ne (by omega)]
      by_cases q : j = β 2
      · subst q; rw [sb_eq]; simp
      · rw [if_neg (by omega), sb_ne (by omega)]; exact a3 j (by omega)
theorem k_addFault_full {N : Nat} {x : Int32} {β : Nat → Nat} (h : β 2 = 4) : IC (f_X0_addFault N 0 x) β (-4) β := by
  intro u hC
  have a2 := hC.2.2.1
  simp only [Nat.mul_zero, h] at a2
  refine ⟨u, ?_, hC, CK.rf⟩
  unfold f_X0_addFault
  rw [a2, if_neg (by decide)]
theorem WB_nwF {β : Nat → Nat} {x : Nat} (hw : WB β) (h : β 2 < 4) (hx : WF x) : WB (nwF β x) := by
  obtain ⟨a0, a1, a2, a3, a4⟩ := hw
  have e0 : nwF β x 0 = β 0 := by unfold nwF; rw [sb_ne (by omega), sb_ne (by omega)]
  have e1 : nwF β x 1 = β 1 := by unfold nwF; rw [sb_ne (by omega), sb_ne (by omega)]
  have e2 : nwF β x 2 = β 2 + 1 := by unfold nwF; rw [sb_eq]
  unfold WB
  rw [e0, e1, e2]
  refine ⟨a0, a1, by omega, fun j hj => ?_, fun c hc => ?_⟩
  · unfold nwF
    rw [sb_ne (by omega)]
    by_cases q : j = β 2
    · subst q; rw [sb_eq]; exact hx
    · rw [sb_ne (by omega)]; exact a3 j (by omega)
  · have := a4 c hc
    unfold WC at this ⊢
    simp only [nwF_hi h]
    exact this
theorem r_pos {n : Nat} (h : n < 2147483648) : (0 : Int32) ≤ nI n := nI_pos' (by omega)
/-- both add a fault of the same code -/
theorem Op_fault {N x : Nat} {β : Nat → Nat} (hw : WB β) (hx : WF x) {gc gm : ASt → Option (Int32 × ASt)} (h1 : ∀ u, CB u 0 β → gc u = bnd (f_X0_addFault N 0 (nI x) u) fun r w => some (r, w)) (h2 : ∀ v, MB v β → gm v = bnd (f_X7_addsFault N 95 (nI 1) (nI x) v) fun r w => some (r, w)) : Op gc gm β := by
  have h4 := hw.2.2.1
  by_cases q : β 2 = 4
  · refine ⟨-4, β, hw, fun u hu => ?_, fun v hv => ?_, Or.inr ⟨Or.inr rfl, rfl⟩⟩
    · obtain ⟨u', e1, e2⟩ := k_addFault_full (N := N) (x := nI x) q u hu
      exact ⟨u', by rw [h1 u hu, e1]; rfl, e2⟩
    · obtain ⟨v', e1, e2⟩ := m_addsFault_full (N := N) (x := nI x) q v hv
      exact ⟨v', by rw [h2 v hv, e1]; rfl, e2⟩
  · refine ⟨nI (β 2 + 1), nwF β x, WB_nwF hw (by omega) hx, fun u hu => ?_, fun v hv => ?_, Or.inl (r_pos (by omega))⟩
    · obtain ⟨u', e1, e2⟩ := k_addFault (N := N) (x := x) hw (by omega) u hu
      exact ⟨u', by rw [h1 u hu, e1]; rfl, e2⟩
    · obtain ⟨v', e1, e2⟩ := m_addsFault (N := N) (x := x) (by omega) (Nat.lt_trans (WF_lt hx) (by decide)) v hv
      exact ⟨v', by rw [h2 v hv, e1]; rfl, e2⟩
/-- both refuse -/
theorem Op_bad {β : Nat → Nat} (hw : WB β) {gc gm : ASt → Option (Int32 × ASt)} (h1 : ∀ u, CB u 0 β → gc u = some (-2, u)) (h2 : ∀ v, MB v β → gm v = some (-2, v)) : Op gc gm β :=
  ⟨-2, β, hw, fun u hu => ⟨u, h1 u hu, hu, CK.rf⟩, fun v hv => ⟨v, h2 v hv, hv, MK.rf⟩, Or.inr ⟨Or.inl rfl, rfl⟩⟩
theorem bad0 {N : Nat} {x : Int32} {v : ASt} : f_X7_addsFault N 95 (nI 0) x v = some (-2, v) := by
  simp (disch := omega) only [f_X7_addsFault, lit, if_true]
theorem Op_chip {N : Nat} (hN : 20 ≤ N) {β : Nat → Nat} (hw : WB β) (l d : Int32) : Op (f_X0_addChip N 0 l d) (f_X7_addsChip N 95 l d) β := by
  by_cases h : (2 ≤ l ∧ l ≤ 4) ∧ 0 ≤ d ∧ d ≤ 256
  · have h4 := hw.1
    by_cases q : β 0 = 4
    · exact ⟨-4, β, hw, k_addChip_full h q, m_addsChip_full h q, Or.inr ⟨Or.inr rfl, rfl⟩⟩
    · obtain ⟨l', hl1, rfl⟩ := nI_of2 (M := 4) (n := 4) rfl (fun z => absurd h.1.1 (Int32.not_le.mpr (Int32.lt_trans z (by decide)))) h.1.2
      obtain ⟨d', hd1, rfl⟩ := nI_of2 (M := 256) (n := 256) rfl (Int32.not_lt.mpr h.2.1) h.2.2
      have hl2 : 2 ≤ l' := (nLE (by omega) (by omega)).mp h.1.1
      exact ⟨nI (β 0), nwB β (β 0) l' d', WB_nwB hw (by omega) ⟨hl2, hl1⟩ hd1, k_addChip hw (by omega) ⟨hl2, hl1⟩ hd1, m_addsChip hN (by omega) ⟨hl2, hl1⟩ hd1, Or.inl (r_pos (by omega))⟩
  · exact ⟨-2, β, hw, k_addChip_bad h, m_addsChip_bad h, Or.inr ⟨Or.inl rfl, rfl⟩⟩
theorem of_bit {k : Int32} (h : k = 0 ∨ k = 1) : ∃ j, j < 2 ∧ k = nI j := by
  rcases h with rfl | rfl
  · exact ⟨0, by omega, rfl⟩
  · exact ⟨1, by omega, rfl⟩
theorem of_net {k : Int32} (h : 0 ≤ k ∧ k ≤ 7) : ∃ j, j < 8 ∧ k = nI j := by
  obtain ⟨j, h1, h2⟩ := nI_of2 (M := 7) (n := 7) rfl (Int32.not_lt.mpr h.1) h.2
  exact ⟨j, by omega, h2⟩
theorem of_rng {c : Int32} {n : Nat} (hn : n < 2147483648) (h : 0 ≤ c ∧ c < nI n) : ∃ j, j < n ∧ c = nI j := inR_of hn h
theorem Op_cell {N : Nat} {β : Nat → Nat} (hw : WB β) (c k n : Int32) : Op (f_X0_addCell N 0 c k n) (f_X7_addsCell N 95 c k n) β := by
  have h4 := hw.1
  by_cases h : (0 ≤ c ∧ c < nI (β 0)) ∧ (k = 0 ∨ k = 1) ∧ 0 ≤ n ∧ n ≤ 7
  · obtain ⟨h1, h2, h3⟩ := h
    obtain ⟨c', hc, rfl⟩ := of_rng (by omega) h1
    have h6 := (hw.2.2.2.2 c' hc).2.2.2.1
    by_cases q : bc β c' 2 = 6
    · exact ⟨-4, β, hw, k_addCell_full hw hc h2 h3 q, m_addsCell_full h4 hc h2 h3 q, Or.inr ⟨Or.inr rfl, rfl⟩⟩
    · obtain ⟨k', hk, rfl⟩ := of_bit h2
      obtain ⟨n', hn, rfl⟩ := of_net h3
      exact ⟨nI (bc β c' 2), nwC β c' k' n', WB_nwC hw hc hk hn (by omega), k_addCell hw hc hk hn (by omega), m_addsCell h4 hc hk hn (by omega), Or.inl (r_pos (by omega))⟩
  · exact ⟨-2, β, hw, k_addCell_bad h, m_addsCell_bad h4 h, Or.inr ⟨Or.inl rfl, rfl⟩⟩
theorem Op_open {N : Nat} {β : Nat → Nat} (hw : WB β) (c k : Int32) : Op (f_X0_addOpen N 0 c k) (f_X7_opensOne N 95 c k) β := by
  have h4 := hw.1
  by_cases h1 : 0 ≤ c ∧ c < nI (β 0)
  · obtain ⟨c', hc, rfl⟩ := of_rng (by omega) h1
    have h6 := (hw.2.2.2.2 c' hc).2.2.2.1
    by_cases h2 : nI 0 ≤ k ∧ k < nI (bc β c' 2)
    · obtain ⟨k', hk, rfl⟩ := of_rng (by omega) h2
      refine Op_fault (N := N) (x := 1000 + 10 * c' + k') hw (Or.inl ⟨c', k', by omega, by omega, rfl⟩) (fun u hu => ?_) (fun v hv => ?_)
      · simp (disch := omega) only [f_X0_addOpen, k_hasCell hu h4 hc, f_X6_faultCode, lit, bnd_s, lte_s, chk_in, chk_b, chk_0, chk_1, bI0, bI1, h2, not_true, if_false, and_self, pk_mul, nI_add, show 1000 * 1 = 1000 by rfl]
      · simp (disch := omega) only [f_X7_opensOne, m_isCell hv h4 hc h6, lit, bnd_s, bIt h2, pk_mul, nI_add]
    · refine Op_bad hw (fun u hu => ?_) (fun v hv => ?_)
      · simp (disch := omega) only [f_X0_addOpen, k_hasCell hu h4 hc, lit, bnd_s, lte_s, chk_in, chk_b, chk_0, chk_1, bI0, bI1, h2, not_false_eq_true, if_true]
      · simp (disch := omega) only [f_X7_opensOne, m_isCell hv h4 hc h6, bnd_s, bIf h2, bad0]
  · refine Op_bad hw (fun u hu => ?_) (fun v hv => ?_)
    · simp (disch := omega) only [f_X0_addOpen, k_hasCell_no hu h1, lit, bnd_s, if_true]
    · simp (disch := omega) only [f_X7_opensOne, m_isCell_no hv h4 h1, bnd_s, bad0]
theorem Op_stuck {N : Nat} {β : Nat → Nat} (hw : WB β) (n v : Int32) : Op (f_X0_addStuck N 0 n v) (f_X7_sticksOne N 95 n v) β := by
  by_cases h1 : nI 0 ≤ n ∧ n ≤ nI 7
  · by_cases h2 : v = nI 0 ∨ v = nI 1
    · obtain ⟨n', hn, rfl⟩ := of_net h1
      obtain ⟨v', hv, rfl⟩ := of_bit h2
      refine Op_fault (N := N) (x := 2000 + 10 * n' + v') hw (Or.inr (Or.inl ⟨n', v', hn, hv, rfl⟩)) (fun u _ => ?_) (fun v _ => ?_)
      · simp (disch := omega) only [f_X0_addStuck, k_isNet, k_isBit, f_X6_faultCode, lit, bnd_s, lte_s, chk_in, chk_b, chk_0, chk_1, bI0, bI1, h1, h2, not_true, if_false, and_self, pk_mul, nI_add, show 1000 * 2 = 2000 by rfl]
      · simp (disch := omega) only [f_X7_sticksOne, f_X7_sticksOne_20, m_isNet, m_isBit, lit, bnd_s, lte_s, chk_in, chk_b, chk_0, chk_1, bI0, bI1, h1, h2, not_true, if_false, and_self, pk_mul, nI_add]
    · refine Op_bad hw (fun u _ => ?_) (fun v _ => ?_)
      · simp (disch := omega) only [f_X0_addStuck, f_X0_addStuck_27, k_isNet, k_isBit, lit, bnd_s, lte_s, chk_in, chk_b, chk_0, chk_1, bI0, bI1, h1, h2, not_true, not_false_eq_true, if_true, if_false, and_self]
      · simp (disch := omega) only [f_X7_sticksOne, f_X7_sticksOne_19, f_X7_sticksOne_20, m_isNet, m_isBit, lit, bnd_s, lte_s, chk_in, chk_b, chk_0, chk_1, bI0, bI1, h1, h2, not_true, not_false_eq_true, if_true, if_false, and_self, bad0]
  · refine Op_bad hw (fun u _ => ?_) (fun v _ => ?_)
    · simp (disch := omega) only [f_X0_addStuck, f_X0_addStuck_27, k_isNet, lit, bnd_s, lte_s, chk_in, chk_b, chk_0, chk_1, bI0, bI1, h1, not_false_eq_true, if_true]
    · simp (disch := omega) only [f_X7_sticksOne, f_X7_sticksOne_19, f_X7_sticksOne_20, m_isNet, lit, bnd_s, lte_s, chk_in, chk_b, chk_0, chk_1, bI0, bI1, h1, not_false_eq_true, if_true, bad0]
theorem Op_heals {N : Nat} {β : Nat → Nat} (hw : WB β) : Op (f_X0_dropFaults N 0) (f_X7_healsAll N 95) β := by
  obtain ⟨a0, a1, a2, a3, a4⟩ := id hw
  refine ⟨nI (β 2), sb β 2 0, ?_, fun u hC => ?_, m_healsAll a2, Or.inl (r_pos (by omega))⟩
  · unfold WB
    rw [sb_ne (by omega), sb_ne (by omega), sb_eq]
    refine ⟨a0, a1, by omega, fun j hj => by omega, fun c hc => ?_⟩
    have := a4 c hc
    unfold WC at this ⊢
    simp only [bc_lo (show 2 < 7 by omega)]
    exact this
  · have hC' := hC
    obtain ⟨b0, b1, b2, b3, b4, b5, b6⟩ := hC
    simp only [Nat.mul_zero, Nat.zero_add] at b0 b1 b2 b3 b4 b5 b6
    refine ⟨apt u 0 3 (nI 0), ?_, ?_, fun a h1 h2 => apt_ne (by omega)⟩
    · simp (disch := omega) only [f_X0_dropFaults, lit, bnd_s, lte_s, chk_in, chk_b, chk_0, chk_1, b2]
    · refine CB_lo hC' hw (sb_ne (by omega)) (fun c f => bc_lo (by omega)) (fun a h1 h2 => apt_ne (by omega)) (agt_pt_k (by omega)) (agt_pt_k (by omega)) (agt_pt_k (by omega)) ?_ ?_ (fun j hj => ?_)
      · rw [agt_pt_k (by omega), sb_ne (by omega)]; exact b1
      · rw [agt_pt_s, sb_eq]
      · rw [sb_eq] at hj; omega
