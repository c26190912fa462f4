/-! the class's calls on a board: chip, cell, faults -/
theorem nwB_0 {β : Nat → Nat} {c l d : Nat} : nwB β c l d 0 = β 0 + 1 := sb_eq
theorem nwB_lo {β : Nat → Nat} {c l d k : Nat} (h0 : k ≠ 0) (h : k < 7) : nwB β c l d k = β k := by
  unfold nwB
  rw [sb_ne h0, sb_ne (by omega), sb_ne (by omega), sb_ne (by omega)]
  unfold zr
  rw [if_neg (by omega)]
theorem nwB_o {β : Nat → Nat} {c l d c' f : Nat} (h : c' ≠ c) (hf : f < 19) : bc (nwB β c l d) c' f = bc β c' f := by
  unfold nwB
  rw [bc_lo (by omega), bc_sb (by omega) hf, if_neg (by omega), bc_sb (by omega) hf, if_neg (by omega), bc_sb (by omega) hf, if_neg (by omega)]
  unfold bc zr
  rw [if_neg (by omega)]
theorem nwB_c {β : Nat → Nat} {c l d f : Nat} (hf : f < 19) : bc (nwB β c l d) c f = if f = 0 then l else if f = 1 then d else if f = 3 then fst_ l d else 0 := by
  unfold nwB
  rw [bc_lo (by omega), bc_sb (by omega) hf, bc_sb (by omega) hf, bc_sb (by omega) hf]
  have z : bc (zr β c 19) c f = 0 := by
    unfold bc zr
    rw [if_pos (by omega)]
  rw [z]
  by_cases h3 : f = 3
  · subst h3; simp
  · by_cases h1 : f = 1
    · subst h1; simp
    · by_cases h0 : f = 0
      · subst h0; simp
      · simp [h0, h1, h3]
theorem fst_lt {l d : Nat} (hl : 2 ≤ l ∧ l ≤ 4) : fst_ l d < 16 := by
  unfold fst_
  split
  · decide
  · have : ∀ l, l < 5 → 1 <<< l - 1 < 16 := by decide
    exact this l (by omega)
theorem WB_nwB {β : Nat → Nat} {l d : Nat} (h : WB β) (h0 : β 0 < 4) (hl : 2 ≤ l ∧ l ≤ 4) (hd : d ≤ 256) : WB (nwB β (β 0) l d) := by
  obtain ⟨a0, a1, a2, a3, a4⟩ := h
  have hf := fst_lt (d := d) hl
  unfold WB
  rw [nwB_0, nwB_lo (by omega) (by omega), nwB_lo (by omega) (by omega)]
  refine ⟨by omega, a1, a2, fun j hj => by rw [nwB_lo (by omega) (by omega)]; exact a3 j hj, fun c hc => ?_⟩
  by_cases e : c = β 0
  · subst e
    unfold WC
    rw [nwB_c (by omega), nwB_c (by omega), nwB_c (by omega), nwB_c (by omega), nwB_c (by omega), nwB_c (by omega), nwB_c (by omega)]
    refine ⟨by simp; omega, by simp; omega, by simp; omega, by simp, by simp; omega, by simp, by simp, by simp, fun k hk => ?_⟩
    simp at hk
  · obtain ⟨b0, b1, b2, b3, b4, b5, b6, b7, b8⟩ := a4 c (by omega)
    unfold WC
    rw [nwB_o e (by omega), nwB_o e (by omega), nwB_o e (by omega), nwB_o e (by omega), nwB_o e (by omega), nwB_o e (by omega), nwB_o e (by omega)]
    refine ⟨b0, b1, b2, b3, b4, b5, b6, b7, fun k hk => ?_⟩
    rw [nwB_o e (by omega), nwB_o e (by omega)]
    exact b8 k hk
theorem nmk_nwB {β : Nat → Nat} {l d : Nat} (hw : WB β) (b : Bool) : nmk (nwB β (β 0) l d) b (β 0 + 1) = nmk β b (β 0) := by
  have h2 : bc (nwB β (β 0) l d) (β 0) 2 = 0 := by rw [nwB_c (by omega)]; simp
  rw [nmk, h2]
  show _ ||| 0 = _
  rw [Nat.or_zero]
  exact nmk_congr _ (fun c hc => ⟨nwB_o (by omega) (by omega), fun k hk => by
    have := (hw.2.2.2.2 c hc).2.2.2.1
    exact ⟨nwB_o (by omega) (by omega), nwB_o (by omega) (by omega)⟩⟩)
theorem k_reset {N o l d : Nat} {u : ASt} (h0 : agt u o 0 = nI l) (h1 : agt u o 1 = nI d) (hl : l ≤ 4) (hd : d ≤ 256) : f_X1_reset N o u = some ((), apt u o 2 (nI (fst_ l d))) := by
  have e : ∀ l, l < 5 → nI 1 <<< (nI l &&& nI 31) - nI 1 = nI (1 <<< l - 1) := by decide
  simp (disch := omega) only [f_X1_reset, f_X1_reset_23, lit, h0, h1, nE, lte_s, e]
  unfold fst_
  by_cases q : d = 256
  · rw [if_pos q, if_neg (by omega)]
  · rw [if_neg q, if_pos (by omega)]
theorem k_addChip {N l d : Nat} {β : Nat → Nat} (hw : WB β) (h0 : β 0 < 4) (hl : 2 ≤ l ∧ l ≤ 4) (hd : d ≤ 256) : IC (f_X0_addChip N 0 (nI l) (nI d)) β (nI (β 0)) (nwB β (β 0) l d) := by
  intro u hC
  have hc0 := hC.1
  simp only [Nat.mul_zero] at hc0
  obtain ⟨u7, hu7⟩ : ∃ z, z = apt (apt (apt (apt (apt (apt (apt u (3 + β 0) 0 (nI l)) (3 + β 0) 1 (nI d)) (3 + β 0) 3 (nI 0)) (3 + β 0) 4 (nI 0)) (3 + β 0) 5 (nI 0)) (3 + β 0) 6 (nI 0)) (3 + β 0) 7 (nI 0) := ⟨_, rfl⟩
  have g0 : agt u7 (3 + β 0) 0 = nI l := by rw [hu7]; simp [agt_pt]
  have g1 : agt u7 (3 + β 0) 1 = nI d := by rw [hu7]; simp [agt_pt]
  have gr := k_reset (N := N) g0 g1 hl.2 hd
  obtain ⟨u8, hu8⟩ : ∃ z, z = apt u7 (3 + β 0) 2 (nI (fst_ l d)) := ⟨_, rfl⟩
  rw [← hu8] at gr
  have g8 : ∀ k, agt u8 (3 + β 0) k = if k = 2 then nI (fst_ l d) else if k = 7 then nI 0 else if k = 6 then nI 0 else if k = 5 then nI 0 else if k = 4 then nI 0 else if k = 3 then nI 0 else if k = 1 then nI d else if k = 0 then nI l else agt u (3 + β 0) k := by
    intro k
    rw [hu8, hu7]
    simp [agt_pt]
  have ne8 : ∀ a, a ≠ 3 + β 0 → u8.1 a = u.1 a := by
    intro a ha
    rw [hu8, hu7, apt_ne ha, apt_ne ha, apt_ne ha, apt_ne ha, apt_ne ha, apt_ne ha, apt_ne ha, apt_ne ha]
  have e81 : agt u8 0 1 = nI (β 0) := by rw [agt_e (ne8 0 (by omega))]; exact hc0
  refine ⟨apt u8 0 1 (nI (β 0 + 1)), ?_, ?_, fun a h1 h2 => ?_⟩
  · have p1 : ¬ l < 2 := by omega
    have p2 : ¬ 4 < l := by omega
    have p3 : ¬ d < 0 := by omega
    have p5 : (β 0 + 1) - 1 = β 0 := by omega
    simp (disch := omega) only [f_X0_addChip, f_X1_begin, lit, nLT, nLE, p1, p2, p3, hd, hc0, h0, if_true, if_false, bnd_s, lte_s, chk_in, chk_b, chk_0, chk_1, ar_b0, al_1, nCl, ar_1, ← hu7, gr, nI_add, e81, agt_pt_s, nSub, p5]
  · have k0 : (apt u8 0 1 (nI (β 0 + 1))).1 (3 + β 0) = u8.1 (3 + β 0) := apt_ne (by omega)
    obtain ⟨a0, a1, a2, a3, a4, a5, a6⟩ := hC
    unfold CB
    simp only [Nat.mul_zero, Nat.zero_add] at a0 a1 a2 a3 a4 a5 a6 ⊢
    rw [nwB_0, nwB_lo (by omega) (by omega), nwB_lo (by omega) (by omega), nmk_nwB hw, nmk_nwB hw]
    have z0 : ∀ k, k ≠ 1 → agt (apt u8 0 1 (nI (β 0 + 1))) 0 k = agt u 0 k := fun k hk => by rw [agt_pt_k hk, agt_e (ne8 0 (by omega))]
    refine ⟨agt_pt_s _ _ _ _, by rw [z0 4 (by omega)]; exact a1, by rw [z0 3 (by omega)]; exact a2, fun j hj => ?_, fun c hc => ?_, by rw [z0 5 (by omega)]; exact a5, by rw [z0 6 (by omega)]; exact a6⟩
    · rw [nwB_lo (by omega) (by have := hw.2.2.1; omega), agt_pt_o (by omega), agt_e (ne8 2 (by omega))]
      exact a3 j hj
    · by_cases e : c = β 0
      · subst e
        unfold CC
        simp only [nwB_c (β := β) (c := β 0) (l := l) (d := d) (show 0 < 19 by omega), nwB_c (β := β) (c := β 0) (l := l) (d := d) (show 1 < 19 by omega), nwB_c (β := β) (c := β 0) (l := l) (d := d) (show 2 < 19 by omega), nwB_c (β := β) (c := β 0) (l := l) (d := d) (show 3 < 19 by omega), nwB_c (β := β) (c := β 0) (l := l) (d := d) (show 4 < 19 by omega), nwB_c (β := β) (c := β 0) (l := l) (d := d) (show 5 < 19 by omega), nwB_c (β := β) (c := β 0) (l := l) (d := d) (show 6 < 19 by omega), agt_e k0, g8]
        simp [omk]
      · have hc' : c < β 0 := by omega
        have q1 : (apt u8 0 1 (nI (β 0 + 1))).1 (3 + c) = u.1 (3 + c) := by rw [apt_ne (by omega)]; exact ne8 _ (by omega)
        have q2 : (apt u8 0 1 (nI (β 0 + 1))).1 (7 + c) = u.1 (7 + c) := by rw [apt_ne (by omega)]; exact ne8 _ (by omega)
        obtain ⟨b0, b1, b2, b3, b4, b5, b6, b7, b8⟩ := (a4 c hc').kept q1 q2
        have h6 := (hw.2.2.2.2 c hc').2.2.2.1
        unfold CC
        rw [nwB_o e (by omega), nwB_o e (by omega), nwB_o e (by omega), nwB_o e (by omega), nwB_o e (by omega), nwB_o e (by omega), nwB_o e (by omega), omk_congr (β := β) _ (fun k hk => nwB_o e (by omega))]
        refine ⟨b0, b1, b2, b3, b4, b5, b6, b7, fun k hk => ?_⟩
        rw [nwB_o e (by omega)]
        exact b8 k hk
  · rw [apt_ne (by omega)]
    exact ne8 a (by omega)
theorem k_addChip_bad {N : Nat} {l d : Int32} {β : Nat → Nat} (h : ¬ ((2 ≤ l ∧ l ≤ 4) ∧ 0 ≤ d ∧ d ≤ 256)) : IC (f_X0_addChip N 0 l d) β (-2) β := by
  intro u hC
  refine ⟨u, ?_, hC, CK.rf⟩
  unfold f_X0_addChip f_X0_addChip_21
  by_cases q1 : l < 2
  · rw [if_pos q1]
  · rw [if_neg q1]
    by_cases q2 : 4 < l
    · rw [if_pos q2]
    · rw [if_neg q2]
      by_cases q3 : d < 0
      · rw [if_pos q3]
      · rw [if_neg q3, if_neg]
        intro q4
        exact h ⟨⟨Int32.not_lt.mp q1, Int32.not_lt.mp q2⟩, Int32.not_lt.mp q3, q4⟩
theorem k_addChip_full {N : Nat} {l d : Int32} {β : Nat → Nat} (h : (2 ≤ l ∧ l ≤ 4) ∧ 0 ≤ d ∧ d ≤ 256) (h0 : β 0 = 4) : IC (f_X0_addChip N 0 l d) β (-4) β := by
  intro u hC
  refine ⟨u, ?_, hC, CK.rf⟩
  have hc0 := hC.1
  simp only [Nat.mul_zero, h0] at hc0
  unfold f_X0_addChip
  rw [if_neg (Int32.not_lt.mpr h.1.1), if_neg (Int32.not_lt.mpr h.1.2), if_neg (Int32.not_lt.mpr h.2.1), if_pos h.2.2, hc0, if_neg (by decide)]
