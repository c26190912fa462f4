/-! the class: chips and small methods -/
theorem ar_b0 : arf 0 0 = 1 := rfl
theorem ar_b2 : arf 0 2 = 2 := rfl
theorem ar_1 : ∀ c, c < 4 → arf 1 c = 3 + c := by decide
theorem ar_c8 : ∀ c, c < 4 → arf (3 + c) 8 = 7 + c := by decide
theorem al_1 : aln 1 = 4 := rfl
theorem al_2 : aln 2 = 4 := rfl
theorem al_7c : ∀ c, c < 4 → aln (7 + c) = 6 := by decide
theorem ar_B0 : ∀ b, b < 7 → arf (11 * b) 0 = 11 * b + 1 := by decide
theorem ar_B2 : ∀ b, b < 7 → arf (11 * b) 2 = 11 * b + 2 := by decide
theorem ar_B1 : ∀ b, b < 7 → ∀ c, c < 4 → arf (11 * b + 1) c = 11 * b + 3 + c := by decide
theorem ar_B8 : ∀ b, b < 7 → ∀ c, c < 4 → arf (11 * b + 3 + c) 8 = 11 * b + 7 + c := by decide
theorem al_B1 : ∀ b, b < 7 → aln (11 * b + 1) = 4 := by decide
theorem al_B2 : ∀ b, b < 7 → aln (11 * b + 2) = 4 := by decide
theorem al_B7 : ∀ b, b < 7 → ∀ c, c < 4 → aln (11 * b + 7 + c) = 6 := by decide
theorem ar_90 : ∀ j, j < 6 → arf 90 j = 11 * (1 + j) := by decide
theorem k_isBit {N : Nat} {x : Int32} {v : ASt} : f_X6_isBit N x v = some (bI (x = 0 ∨ x = 1), v) := by
  unfold f_X6_isBit f_X6_isBit_9
  by_cases h1 : x = 0
  · rw [if_pos h1, bIt (Or.inl h1)]; rfl
  · rw [if_neg h1]
    by_cases h2 : x = 1
    · rw [if_pos h2, bIt (Or.inr h2)]; rfl
    · rw [if_neg h2, bIf (fun q => q.elim h1 h2)]; rfl
theorem k_isNet {N : Nat} {x : Int32} {v : ASt} : f_X6_isNet N x v = some (bI (0 ≤ x ∧ x ≤ 7), v) := by
  unfold f_X6_isNet f_X6_isNet_14
  by_cases h1 : x < 0
  · rw [if_pos h1, bIf (fun q => absurd q.1 (Int32.not_le.mpr h1))]; rfl
  · rw [if_neg h1]
    have e : (8 : Int32) ≤ x ↔ ¬ x ≤ 7 := by
      rw [Int32.le_iff_toInt_le, Int32.le_iff_toInt_le, show (8 : Int32).toInt = 8 from rfl, show (7 : Int32).toInt = 7 from rfl]
      omega
    by_cases h2 : (8 : Int32) ≤ x
    · rw [if_pos h2, bIf (fun q => (e.mp h2) q.2)]; rfl
    · rw [if_neg h2, bIt ⟨Int32.not_lt.mp h1, Decidable.not_not.mp (fun q => h2 (e.mpr q))⟩]; rfl
theorem k_hasChip {N n : Nat} {c : Int32} {u : ASt} (h : agt u 0 1 = nI n) : f_X0_hasChip N 0 c u = some (bI (0 ≤ c ∧ c < nI n), u) := by
  unfold f_X0_hasChip f_X0_hasChip_16
  rw [h]
  by_cases h1 : c < 0
  · rw [if_pos h1, bIf (fun q => absurd q.1 (Int32.not_le.mpr h1))]; rfl
  · rw [if_neg h1]
    by_cases h2 : nI n ≤ c
    · rw [if_pos h2, bIf (fun q => absurd q.2 (Int32.not_lt.mpr h2))]; rfl
    · rw [if_neg h2, bIt ⟨Int32.not_lt.mp h1, Int32.not_le.mp h2⟩]; rfl
theorem CB.cc {u : ASt} {β : Nat → Nat} (h : CB u 0 β) {c : Nat} (hc : c < β 0) : CC u (3 + c) (7 + c) β c := by
  have := h.2.2.2.2.1 c hc
  simpa using this
theorem k_hasCell {N c : Nat} {k : Int32} {u : ASt} {β : Nat → Nat} (h : CB u 0 β) (h4 : β 0 ≤ 4) (hc : c < β 0) : f_X0_hasCell N 0 (nI c) k u = some (bI (nI 0 ≤ k ∧ k < nI (bc β c 2)), u) := by
  have q1 : nI 0 ≤ nI c ∧ nI c < nI (β 0) := ⟨(nLE (by omega) (by omega)).mpr (by omega), (nLT (by omega) (by omega)).mpr hc⟩
  simp (disch := omega) only [f_X0_hasCell, f_X0_hasCell_29, k_hasChip (n := β 0) h.1, lit, bnd_s, lte_s, chk_in, chk_b, chk_0, chk_1, bI0, bI1, q1, not_true, if_false, and_self, ar_b0, al_1, nCl, ar_1, (h.cc hc).2.2.2.2.2.2.1]
  by_cases h1 : k < nI 0
  · rw [if_pos h1, bIf (fun q => absurd q.1 (Int32.not_le.mpr h1))]
  · rw [if_neg h1]
    by_cases h2 : nI (bc β c 2) ≤ k
    · rw [if_pos h2, bIf (fun q => absurd q.2 (Int32.not_lt.mpr h2))]
    · rw [if_neg h2, bIt ⟨Int32.not_lt.mp h1, Int32.not_le.mp h2⟩]
theorem k_hasCell_no {N : Nat} {c k : Int32} {u : ASt} {β : Nat → Nat} (h : CB u 0 β) (hc : ¬ (0 ≤ c ∧ c < nI (β 0))) : f_X0_hasCell N 0 c k u = some (nI 0, u) := by
  have q1 : ¬ (nI 0 ≤ c ∧ c < nI (β 0)) := hc
  simp (disch := omega) only [f_X0_hasCell, f_X0_hasCell_29, k_hasChip (n := β 0) h.1, lit, bnd_s, bI0, bI1, q1, not_false_eq_true, if_true]
/-- a board whose chip c was changed -/
theorem CB.chip {u u' : ASt} {β β' : Nat → Nat} {c : Nat} (h : CB u 0 β) (hw : WB β) (hk : ∀ a, a < 11 → a ≠ 3 + c → a ≠ 7 + c → u'.1 a = u.1 a) (hc : c < β 0 → CC u' (3 + c) (7 + c) β' c) (hs : ∀ k, k < 7 → β' k = β k) (ho : ∀ c' f, c' ≠ c → f < 19 → bc β' c' f = bc β c' f) (hm : ∀ b, nmk β' b (β 0) = nmk β b (β 0)) (hc4 : c < 4) : CB u' 0 β' := by
  have h4 := hw.1
  have h24 := hw.2.2.1
  have h6 : ∀ c', c' < β 0 → bc β c' 2 ≤ 6 := fun c' h => (hw.2.2.2.2 c' h).2.2.2.1
  obtain ⟨a0, a1, a2, a3, a4, a5, a6⟩ := h
  have e0 : u'.1 0 = u.1 0 := hk 0 (by omega) (by omega) (by omega)
  have e2 : u'.1 2 = u.1 2 := hk 2 (by omega) (by omega) (by omega)
  unfold CB
  simp only [Nat.mul_zero, Nat.zero_add] at a0 a1 a2 a3 a4 a5 a6 ⊢
  rw [hs 0 (by omega), hs 1 (by omega), hs 2 (by omega), hm, hm, agt_e e0, agt_e e0, agt_e e0, agt_e e0, agt_e e0]
  refine ⟨a0, a1, a2, fun j hj => ?_, fun c' hc' => ?_, a5, a6⟩
  · rw [agt_e e2, a3 j hj]
    rw [hs _ (by omega)]
  · by_cases e : c' = c
    · subst e
      exact hc hc'
    · have q1 : u'.1 (3 + c') = u.1 (3 + c') := hk _ (by omega) (by omega) (by omega)
      have q2 : u'.1 (7 + c') = u.1 (7 + c') := hk _ (by omega) (by omega) (by omega)
      obtain ⟨b0, b1, b2, b3, b4, b5, b6, b7, b8⟩ := (a4 c' hc').kept q1 q2
      have hb := h6 c' hc'
      refine ⟨?_, ?_, ?_, ?_, ?_, ?_, ?_, ?_, fun k hk => ?_⟩
      · rw [ho c' 0 e (by omega)]; exact b0
      · rw [ho c' 1 e (by omega)]; exact b1
      · rw [ho c' 3 e (by omega)]; exact b2
      · rw [ho c' 4 e (by omega)]; exact b3
      · rw [ho c' 5 e (by omega)]; exact b4
      · rw [ho c' 6 e (by omega)]; exact b5
      · rw [ho c' 2 e (by omega)]; exact b6
      · rw [ho c' 2 e (by omega), omk_congr (β := β) _ (fun k hk => ho c' _ e (by omega))]; exact b7
      · rw [ho c' 2 e (by omega)] at hk
        rw [ho c' _ e (by omega)]; exact b8 k hk

theorem CC.put {u : ASt} {o a c kf f x : Nat} {β : Nat → Nat} (h : CC u o a β c) (hoa : o ≠ a) (h6 : bc β c 2 ≤ 6) (hf : (kf = 2 ∧ f = 3) ∨ (kf = 3 ∧ f = 4) ∨ (kf = 4 ∧ f = 5) ∨ (kf = 5 ∧ f = 6)) : CC (apt u o kf (nI x)) o a (sb β (7 + 19 * c + f) x) c := by
  obtain ⟨a0, a1, a2, a3, a4, a5, a6, a7, a8⟩ := h
  have e2 : bc (sb β (7 + 19 * c + f) x) c 2 = bc β c 2 := by rw [bc_sb (by omega) (by omega), if_neg (by omega)]
  have eo : omk (sb β (7 + 19 * c + f) x) c (bc β c 2) = omk β c (bc β c 2) := omk_congr _ (fun k hk => by rw [bc_sb (by omega) (by omega), if_neg (by omega)])
  unfold CC
  rw [e2, eo]
  refine ⟨?_, ?_, ?_, ?_, ?_, ?_, ?_, ?_, fun k hk => ?_⟩
  · rw [agt_pt, bc_sb (by omega) (by omega), if_neg (by omega), if_neg (by omega)]; exact a0
  · rw [agt_pt, bc_sb (by omega) (by omega), if_neg (by omega), if_neg (by omega)]; exact a1
  · rw [agt_pt, bc_sb (by omega) (by omega)]
    by_cases q : kf = 2
    · rw [if_pos (by omega), if_pos (by omega)]
    · rw [if_neg (by omega), if_neg (by omega)]; exact a2
  · rw [agt_pt, bc_sb (by omega) (by omega)]
    by_cases q : kf = 3
    · rw [if_pos (by omega), if_pos (by omega)]
    · rw [if_neg (by omega), if_neg (by omega)]; exact a3
  · rw [agt_pt, bc_sb (by omega) (by omega)]
    by_cases q : kf = 4
    · rw [if_pos (by omega), if_pos (by omega)]
    · rw [if_neg (by omega), if_neg (by omega)]; exact a4
  · rw [agt_pt, bc_sb (by omega) (by omega)]
    by_cases q : kf = 5
    · rw [if_pos (by omega), if_pos (by omega)]
    · rw [if_neg (by omega), if_neg (by omega)]; exact a5
  · rw [agt_pt, if_neg (by omega)]; exact a6
  · rw [agt_pt, if_neg (by omega)]; exact a7
  · rw [agt_pt, if_neg (by omega), bc_sb (by omega) (by omega), if_neg (by omega)]; exact a8 k hk
theorem CB.put {u : ASt} {c kf f x : Nat} {β : Nat → Nat} (h : CB u 0 β) (hw : WB β) (hc : c < β 0) (hf : (kf = 2 ∧ f = 3) ∨ (kf = 3 ∧ f = 4) ∨ (kf = 4 ∧ f = 5) ∨ (kf = 5 ∧ f = 6)) : CB (apt u (3 + c) kf (nI x)) 0 (sb β (7 + 19 * c + f) x) := by
  have h4 := hw.1
  refine CB.chip (c := c) h hw (fun a _ h1 _ => apt_ne h1) (fun _ => CC.put (h.cc hc) (by omega) (hw.2.2.2.2 c hc).2.2.2.1 hf) (fun k hk => sb_ne (by omega)) (fun c' f' hc' hf' => by rw [bc_sb (by omega) hf', if_neg (by omega)]) (fun b => nmk_congr _ (fun c' hc' => ?_)) (by omega)
  have h6 := (hw.2.2.2.2 c' hc').2.2.2.1
  refine ⟨by rw [bc_sb (by omega) (by omega), if_neg (by omega)], fun k hk => ⟨?_, ?_⟩⟩ <;> rw [bc_sb (by omega) (by omega), if_neg (by omega)]
theorem WC.put {β : Nat → Nat} {c c' f x : Nat} (h : WC β c') (hf : f = 3 ∨ f = 4 ∨ f = 5 ∨ f = 6) (hx : (f = 3 ∨ f = 4 → x < 16) ∧ x < 256) : WC (sb β (7 + 19 * c + f) x) c' := by
  obtain ⟨a0, a1, a2, a3, a4, a5, a6, a7, a8⟩ := h
  have e : ∀ g, g < 19 → g ≠ f → bc (sb β (7 + 19 * c + f) x) c' g = bc β c' g := fun g h1 h2 => by rw [bc_sb (by omega) h1, if_neg (by omega)]
  have e3 : ∀ g, g < 19 → bc (sb β (7 + 19 * c + f) x) c' g = bc β c' g ∨ (g = f ∧ bc (sb β (7 + 19 * c + f) x) c' g = x) := fun g h1 => by
    rw [bc_sb (by omega) h1]
    by_cases q : c' = c ∧ g = f
    · rw [if_pos q]; exact Or.inr ⟨q.2, rfl⟩
    · rw [if_neg q]; exact Or.inl rfl
  have g3 := e3 3 (by omega)
  have g4 := e3 4 (by omega)
  have g5 := e3 5 (by omega)
  have g6 := e3 6 (by omega)
  have g2 := e 2 (by omega) (by omega)
  refine ⟨by rw [e 0 (by omega) (by omega)]; exact a0, by rw [e 0 (by omega) (by omega)]; exact a1, by rw [e 1 (by omega) (by omega)]; exact a2, by rw [g2]; exact a3, by omega, by omega, by omega, by omega, fun k hk => ?_⟩
  rw [g2] at hk
  rw [e _ (by omega) (by omega), e _ (by omega) (by omega)]
  exact a8 k hk
theorem WB.put {β : Nat → Nat} {c f x : Nat} (h : WB β) (hf : f = 3 ∨ f = 4 ∨ f = 5 ∨ f = 6) (hx : (f = 3 ∨ f = 4 → x < 16) ∧ x < 256) : WB (sb β (7 + 19 * c + f) x) := by
  obtain ⟨a0, a1, a2, a3, a4⟩ := h
  unfold WB
  rw [sb_ne (by omega), sb_ne (by omega), sb_ne (by omega)]
  exact ⟨a0, a1, a2, fun j hj => by rw [sb_ne (by omega)]; exact a3 j hj, fun c' hc' => (a4 c' hc').put hf hx⟩
