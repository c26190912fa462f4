/-! clocks -/
theorem gbit {x k : Nat} (hx : x < 65536) (hk : k < 32) : (nI x >>> (nI k &&& nI 31)) &&& nI 1 = nI (if x.testBit k = true then 1 else 0) := by
  have e : nI x >>> (nI k &&& nI 31) = nI (x >>> k) := nShr hk (by omega)
  rw [e, nAnd, tb_bit]
section CLK
variable {N : Nat}
theorem clk_loop (hN : 20 ≤ N) {nn T D : Nat} (hnn : nn ≤ 16) (hT : T < 65536) (hD : D < 65536) : ∀ k i β u v row len n1 n2, i + k = nn → len ≤ i → row < 65536 → k < n1 → k < n2 → CB u 0 β → MB v β → WB β → ∃ row' β' u' v', row' < 65536 ∧ WB β' ∧ f_X6_manyClocks_43 N 77 (nI nn) (nI T) (nI D) n1 (nI row) (nI len) (nI i) u = some (nI row', u') ∧ f_X7_clocks_48 N 95 (nI nn) (nI T) (nI D) n2 (nI row) (nI len) (nI i) v = (bnd (f_X7_leaves N 95 v') fun _ w => some (nI row', w)) ∧ CB u' 0 β' ∧ MB v' β' ∧ CK u u' ∧ MK v v' := by
  intro k
  induction k with
  | zero =>
    intro i β u v row len n1 n2 h1 h2 h3 h4 h5 hC hM hw
    have ei : i = nn := by omega
    subst ei
    obtain ⟨a, rfl⟩ : ∃ a, n1 = a + 1 := ⟨n1 - 1, by omega⟩
    obtain ⟨b, rfl⟩ : ∃ b, n2 = b + 1 := ⟨n2 - 1, by omega⟩
    refine ⟨row, β, u, v, h3, hw, ?_, ?_, hC, hM, CK.rf, MK.rf⟩
    · simp (disch := omega) only [f_X6_manyClocks_43, nLE, Nat.le_refl, if_true]
    · simp (disch := omega) only [f_X7_clocks_48, nLE, Nat.le_refl, if_true]
  | succ k ih =>
    intro i β u v row len n1 n2 h1 h2 h3 h4 h5 hC hM hw
    obtain ⟨a, rfl⟩ : ∃ a, n1 = a + 1 := ⟨n1 - 1, by omega⟩
    obtain ⟨b, rfl⟩ : ∃ b, n2 = b + 1 := ⟨n2 - 1, by omega⟩
    have hi : ¬ nn ≤ i := by omega
    have gT := gbit (x := T) (k := i) hT (by omega)
    have gD := gbit (x := D) (k := i) hD (by omega)
    obtain ⟨r, β1, r1, r2, r3, r4⟩ := tick_ok (N := N) (β := β) (t := if T.testBit i = true then 1 else 0) (d := if D.testBit i = true then 1 else 0) hN hw (by split <;> omega) (by split <;> omega)
    obtain ⟨u1, c1, c2, c3⟩ := r3 u hC
    obtain ⟨v1, d1, d2, d3⟩ := r4 v hM
    have hr : r = 0 ∨ r = 1 ∨ r = 2 := by omega
    have sh : ∀ x, x ≤ 1 → nI x <<< (nI len &&& nI 31) = nI (x <<< len) := fun x hx => nShl (by omega) (Nat.lt_trans (shl_lt (n := 16) hx (by omega)) (by decide))
    have sl : 1 <<< len < 65536 := shl_lt (n := 16) (Nat.le_refl 1) (by omega)
    rcases hr with rfl | rfl | rfl
    · obtain ⟨row', β', u', v', g1, g2, g3, g4, g5, g6, g7, g8⟩ := ih (i + 1) β1 u1 v1 row (len + 1) a b (by omega) (by omega) h3 (by omega) (by omega) c2 d2 r2
      refine ⟨row', β', u', v', g1, g2, ?_, ?_, g5, g6, c3.tr g7, d3.tr g8⟩
      · have s0 := sh 0 (by omega)
        rw [Nat.zero_shiftLeft] at s0
        simp (disch := omega) only [f_X6_manyClocks_43, f_X6_manyClocks_93, lit, nLE, hi, if_false, ar77_0, ar77_1, gT, gD, c1, bnd_s, nE, show ¬ (0 : Nat) = 2 by omega, s0, nOr, Nat.or_zero, lte_s, nI_add]
        exact g3
      · simp (disch := omega) only [f_X7_clocks_48, f_X7_clocks_88, f_X7_clocks_104, lit, nLE, hi, if_false, gT, gD, d1, bnd_s, nE, show ¬ (0 : Nat) = 1 by omega, show ¬ (2 : Nat) ≤ 0 by omega, nOr, Nat.or_zero, lte_s, nI_add]
        exact g4
    · obtain ⟨row', β', u', v', g1, g2, g3, g4, g5, g6, g7, g8⟩ := ih (i + 1) β1 u1 v1 (row ||| 1 <<< len) (len + 1) a b (by omega) (by omega) (Nat.or_lt_two_pow (n := 16) h3 sl) (by omega) (by omega) c2 d2 r2
      refine ⟨row', β', u', v', g1, g2, ?_, ?_, g5, g6, c3.tr g7, d3.tr g8⟩
      · simp (disch := omega) only [f_X6_manyClocks_43, f_X6_manyClocks_93, lit, nLE, hi, if_false, ar77_0, ar77_1, gT, gD, c1, bnd_s, nE, show ¬ (1 : Nat) = 2 by omega, sh 1 (by omega), nOr, lte_s, nI_add]
        exact g3
      · simp (disch := omega) only [f_X7_clocks_48, f_X7_clocks_88, f_X7_clocks_104, lit, nLE, hi, if_false, gT, gD, d1, bnd_s, if_true, show ¬ (2 : Nat) ≤ 1 by omega, sh 1 (by omega), nOr, lte_s, nI_add]
        exact g4
    · obtain ⟨row', β', u', v', g1, g2, g3, g4, g5, g6, g7, g8⟩ := ih (i + 1) β1 u1 v1 row len a b (by omega) (by omega) h3 (by omega) (by omega) c2 d2 r2
      refine ⟨row', β', u', v', g1, g2, ?_, ?_, g5, g6, c3.tr g7, d3.tr g8⟩
      · simp (disch := omega) only [f_X6_manyClocks_43, f_X6_manyClocks_93, lit, nLE, hi, if_false, ar77_0, ar77_1, gT, gD, c1, bnd_s, if_true, nI_add]
        exact g3
      · simp (disch := omega) only [f_X7_clocks_48, f_X7_clocks_88, f_X7_clocks_104, lit, nLE, hi, if_false, gT, gD, d1, bnd_s, nE, show ¬ (2 : Nat) = 1 by omega, Nat.le_refl, if_true, nOr, Nat.or_zero, Nat.add_zero, lte_s, nI_add]
        exact g4
theorem sim_clocks (hN : 1000 ≤ N) (n t d : Int32) : Sm (f_X6_clocks N 77 n t d) (f_X7_clocks N 95 n t d) := by
  intro u v h
  obtain ⟨β, m, mp, hs, len, tx, R⟩ := h
  have R' := R
  obtain ⟨r1, r2, r3, r4, r5, r6, r7, r8, r9, r10, r11, r12, r13⟩ := R
  obtain ⟨u1, a1, a2, a3⟩ := k_mark (N := N) hN r1 r7 r4 r8.2.1
  have C1 : CB u1 0 β := r7.kept r1.1 (fun a h1 h2 => a3 a (by omega))
  have ck1 : ∀ a, 11 ≤ a → ¬ (78 ≤ a ∧ a ≤ 88) → (a < 11 * (1 + mp) ∨ 11 * (1 + mp) + 11 ≤ a) → u1.1 a = u.1 a := fun a _ _ h3 => a3 a h3
  by_cases q : ((nI 1 ≤ n ∧ n ≤ nI 16) ∧ nI 0 ≤ t ∧ t ≤ nI 65535) ∧ nI 0 ≤ d ∧ d ≤ nI 65535
  · obtain ⟨⟨q1, q2⟩, q3⟩ := q
    obtain ⟨n', hn, rfl⟩ := of_le (n := 16) rfl ⟨Int32.le_trans (by decide) q1.1, q1.2⟩
    obtain ⟨t', ht, rfl⟩ := of_le (n := 65535) rfl q2
    obtain ⟨d', hd, rfl⟩ := of_le (n := 65535) rfl q3
    have hn1 : 1 ≤ n' := (nLE (by omega) (by omega)).mp q1.1
    obtain ⟨v1, b1, b2, b3⟩ := m_aside (N := N) hN (v := v)
    obtain ⟨row, β', u2, v2, g1, g2, g3, g4, g5, g6, g7, g8⟩ := clk_loop (N := N) (by omega) (nn := n') (T := t') (D := d') hn (by omega) (by omega) n' 0 β u1 v1 0 0 N N (by omega) (by omega) (by omega) (by omega) (by omega) C1 (fun k hk => by rw [agt_e (b3 96 (by omega))]; exact r10 k hk) r1
    have ck : ∀ a, 11 ≤ a → ¬ (78 ≤ a ∧ a ≤ 88) → (a < 11 * (1 + mp) ∨ 11 * (1 + mp) + 11 ≤ a) → u2.1 a = u.1 a := fun a h1 h2 h3 => (g7 a h1 h2).trans (a3 a h3)
    have cm : CB u2 (1 + mp) β := a2.kept r1.1 (fun a h1 h2 => g7 a (by omega) (by omega))
    have mk : ∀ a, 98 ≤ a → a ≤ 100 → v2.1 a = v.1 a := fun a h1 h2 => (g8.1 a (by omega) h2).trans (b3 a (by omega))
    have m3 : agt v2 95 3 = agt v 95 3 := g8.2.1.trans (agt_e (b3 95 (by omega)) 3)
    have m6 : agt v2 95 6 = agt v 95 6 := g8.2.2.trans (agt_e (b3 95 (by omega)) 6)
    have ma : ∀ k, k < 83 → agt v2 97 k = nI (β k) := fun k hk => by rw [agt_e (g8.1 97 (by omega) (by omega)), b2 k hk]; exact r10 k hk
    obtain ⟨u3, v3, e1, e2, e3⟩ := leave_sim (N := N) hN R' g2 g5 cm ck g6 ma mk m3 m6
    have rp : (0 : Int32) ≤ nI row := r_pos (by omega)
    refine ⟨nI row, u3, v3, ?_, ?_, e3⟩
    · have MC : f_X6_manyClocks N 77 (nI n') (nI t') (nI d') u1 = some (nI row, u2) := by
        have z1 : ¬ n' < 1 := by omega
        have z2 : ¬ 16 < n' := by omega
        have z3 : ¬ t' < 0 := by omega
        have z4 : ¬ 65535 < t' := by omega
        have z5 : ¬ d' < 0 := by omega
        simp (disch := omega) only [f_X6_manyClocks, lit, nLT, nLE, z1, z2, z3, z4, z5, hd, if_true, if_false]
        exact g3
      unfold f_X6_clocks f_X6_actEnded f_X6_actEnded_11
      rw [ar77_3, ar77_0, a1, bnd_s, MC, bnd_s, if_neg (Int32.not_lt.mpr rp), e1, bnd_s, k_cpos rp]
      rfl
    · rw [e2, bnd_s] at g4
      simp (disch := omega) only [f_X7_clocks, m_within, lit, bnd_s, bI0, q1, q2, q3, and_self, not_true, if_false, b1]
      exact g4
  · have R2 := Rl_marked R' C1 ck1 r10 (fun a _ _ => rfl) rfl rfl
    refine ⟨-2, _, _, ?_, ?_, _, _, _, _, _, _, Rl_cnt R2 (Or.inl ⟨rfl, rfl⟩)⟩
    · have MC : f_X6_manyClocks N 77 n t d u1 = some (-2, u1) := by
        unfold f_X6_manyClocks f_X6_manyClocks_31
        by_cases z1 : n < 1
        · rw [if_pos z1]
        · rw [if_neg z1]
          by_cases z2 : 16 < n
          · rw [if_pos z2]
          · rw [if_neg z2]
            by_cases z3 : t < 0
            · rw [if_pos z3]
            · rw [if_neg z3]
              by_cases z4 : 65535 < t
              · rw [if_pos z4]
              · rw [if_neg z4]
                by_cases z5 : d < 0
                · rw [if_pos z5]
                · rw [if_neg z5, if_neg]
                  intro z6
                  exact q ⟨⟨⟨Int32.not_lt.mp z1, Int32.not_lt.mp z2⟩, Int32.not_lt.mp z3, Int32.not_lt.mp z4⟩, Int32.not_lt.mp z5, z6⟩
      unfold f_X6_clocks f_X6_actEnded f_X6_actEnded_11
      rw [ar77_3, ar77_0, a1, bnd_s, MC, bnd_s, if_pos (by decide), k_cbad]
      rfl
    · by_cases y1 : nI 1 ≤ n ∧ n ≤ nI 16
      · by_cases y2 : nI 0 ≤ t ∧ t ≤ nI 65535
        · have y3 : ¬ (nI 0 ≤ d ∧ d ≤ nI 65535) := fun y3 => q ⟨⟨y1, y2⟩, y3⟩
          simp (disch := omega) only [f_X7_clocks, f_X7_clocks_30, m_within, lit, bnd_s, bI0, y1, y2, y3, and_self, not_true, not_false_eq_true, if_true, if_false]
          rw [m_bad]; rfl
        · simp (disch := omega) only [f_X7_clocks, f_X7_clocks_30, m_within, lit, bnd_s, bI0, y1, y2, and_self, not_true, not_false_eq_true, if_true, if_false]
          rw [m_bad]; rfl
      · simp (disch := omega) only [f_X7_clocks, f_X7_clocks_30, m_within, lit, bnd_s, bI0, y1, not_false_eq_true, if_true]
        rw [m_bad]; rfl
end CLK
