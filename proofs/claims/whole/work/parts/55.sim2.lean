/-! the calls, class beside model: second part -/
theorem chk_True {α : Type} {x : Option α} : chk True x = x := chk_t trivial x
section SIM2
variable {N : Nat}
noncomputable def vCell (β : Nat → Nat) (c k w : Nat) : Nat := if w = 0 then bc β c (7 + 2 * k) else if w = 1 then bc β c (8 + 2 * k) else if bc β c (7 + 2 * k) = 1 then (if (bc β c 6).testBit k = true then 1 else 0) else snb β c k
theorem k_cellN {β : Nat → Nat} (hN : 20 ≤ N) (hw : WB β) {c k w : Nat} (hc : c < β 0) (hk : k < bc β c 2) (hw2 : w ≤ 2) : kR (f_X6_cellNumber N 77 (nI c) (nI k) (nI w)) β (vCell β c k w) := by
  intro u hC
  have h4 := hw.1
  have h6 := hw.m6 hc
  have hCC := hC.cc hc
  have O1 := k_isOut (N := N) (k := k) hCC h6 hk (fun j hj => hw.kind hc hj)
  have kk := hw.kind hc hk
  have g5 := hCC.2.2.2.2.2.1
  have g8 := hCC.2.2.2.2.2.2.2.2 k hk
  have h7 := (hw.2.2.2.2 c hc).2.2.2.2.2.2.2.1
  have h : w = 0 ∨ w = 1 ∨ w = 2 := by omega
  rcases h with rfl | rfl | rfl
  · refine ⟨u, ?_, CK0.rf⟩
    unfold vCell
    rw [if_pos rfl]
    by_cases q : bc β c (7 + 2 * k) = 1
    · rw [q]
      simp (disch := omega) only [f_X6_cellNumber, lit, ar77_0, ar_b0, al_1, chk_in, nCl, ar_1, if_true, O1, bnd_s, bI0, q, not_true, if_false]
    · rw [show bc β c (7 + 2 * k) = 0 by omega] at O1 ⊢
      simp (disch := omega) only [f_X6_cellNumber, lit, ar77_0, ar_b0, al_1, chk_in, nCl, ar_1, if_true, O1, bnd_s, bI0, show ¬ (0 : Nat) = 1 by omega, not_false_eq_true]
  · refine ⟨u, ?_, CK0.rf⟩
    simp (disch := omega) only [f_X6_cellNumber, lit, ar77_0, ar_b0, al_1, chk_in, nCl, ar_1, nE, show ¬ (1 : Nat) = 0 by omega, if_true, if_false, ar_c8, al_7c, g8, vCell]
  · by_cases q : bc β c (7 + 2 * k) = 1
    · have lb := lat_bit (x := bc β c 6) (k := k) (by omega) (by omega)
      refine ⟨u, ?_, CK0.rf⟩
      simp (disch := omega) only [f_X6_cellNumber, lit, ar77_0, ar_b0, al_1, chk_in, nCl, ar_1, nE, show ¬ (2 : Nat) = 0 by omega, show ¬ (2 : Nat) = 1 by omega, if_true, if_false, O1, bnd_s, bI0, q, not_true, g5, lb, vCell]
    · obtain ⟨u', e1, e2, e3, e4, e5, e6⟩ := k_settle hN hw hC
      have C1 := hC.nk hw (Or.inl rfl) e2
      have S := k_seen (N := N) (e := 78) (A := 1) (O := Ob β) (W := NVn β) (Or.inl rfl) hw C1 e3 e4 (fun c => ocs_lt _ hw.fb c) e5 hc hk
      refine ⟨u', ?_, NK.ck (Or.inl rfl) e2⟩
      simp (disch := omega) only [f_X6_cellNumber, lit, ar77_0, ar77_1, ar_b0, al_1, chk_in, nCl, ar_1, nE, show ¬ (2 : Nat) = 0 by omega, show ¬ (2 : Nat) = 1 by omega, if_true, if_false, O1, bnd_s, bI0, q, not_false_eq_true, e1, S, vCell, snb]
theorem m_cellN {β : Nat → Nat} (hN : 20 ≤ N) (hw : WB β) {c k w : Nat} (hc : c < β 0) (hk : k < bc β c 2) (hw2 : w ≤ 2) : mR (f_X7_tellCell N 95 (nI c) (nI k) (nI w)) β (vCell β c k w) := by
  intro v hM
  have h4 := hw.1
  have h6 := hw.m6 hc
  have kk := hw.kind hc hk
  have h7 := (hw.2.2.2.2 c hc).2.2.2.2.2.2.2.1
  have h24 := hw.2.2.1
  have h : w = 0 ∨ w = 1 ∨ w = 2 := by omega
  rcases h with rfl | rfl | rfl
  · refine ⟨v, ?_, MK0.rf⟩
    simp (disch := omega) only [f_X7_tellCell, lit, nLE, show ¬ (2 : Nat) ≤ 0 by omega, if_false, pk_mul, nI_add, m_getB hM (show c < 4 by omega), bnd_s, vCell, Nat.add_zero, if_true]
  · refine ⟨v, ?_, MK0.rf⟩
    simp (disch := omega) only [f_X7_tellCell, lit, nLE, show ¬ (2 : Nat) ≤ 1 by omega, if_false, pk_mul, nI_add, m_getB hM (show c < 4 by omega), bnd_s, vCell, show ¬ (1 : Nat) = 0 by omega, if_true, show 7 + 2 * k + 1 = 8 + 2 * k by omega]
  · obtain ⟨v', e1, e2, e3, e4, e5⟩ := m_laysNow hN hw hM
    have M1 := e2.mb hM
    have O1 : f_X7_isOut N 95 (nI c) (nI k) v' = some (bI (bc β c (7 + 2 * k) = 1), v') := m_outB M1 (by omega) (by omega) kk
    refine ⟨v', ?_, e2⟩
    by_cases q : bc β c (7 + 2 * k) = 1
    · have lb := lat_bit (x := bc β c 6) (k := k) (by omega) (by omega)
      simp (disch := omega) only [f_X7_tellCell, lit, nLE, Nat.le_refl, if_true, e1, bnd_s, O1, bI0, q, not_true, if_false, m_getB M1 (show c < 4 by omega), lb, vCell, show ¬ (2 : Nat) = 0 by omega, show ¬ (2 : Nat) = 1 by omega]
    · have S := m_sees (N := N) (F := Fb β) (m := β 2) (W := NVn β) hN hw h24 hw.fb M1 e3 e4 hc hk
      simp (disch := omega) only [f_X7_tellCell, lit, nLE, Nat.le_refl, if_true, e1, bnd_s, O1, bI0, q, not_false_eq_true, if_false, S, vCell, show ¬ (2 : Nat) = 0 by omega, show ¬ (2 : Nat) = 1 by omega, snb, Ob]
theorem vCell_lt {β : Nat → Nat} (hw : WB β) {c k w : Nat} (hc : c < β 0) (hk : k < bc β c 2) : vCell β c k w < 2147483648 := by
  have kk := hw.kind hc hk
  have nn := hw.net hc hk
  have ss := snb_1 hw hc hk
  unfold vCell
  split
  · omega
  · split
    · omega
    · split
      · split <;> omega
      · omega
theorem sim_about (hN : 1000 ≤ N) (c k w : Int32) : Sm (f_X6_about N 77 c k w) (f_X7_about N 95 c k w) := by
  intro u v h
  have h0 := h
  obtain ⟨β, m, mp, hs, n, tx, R⟩ := h
  have hw := R.1
  have h4 := hw.1
  have hC := R.2.2.2.2.2.2.1
  have hM := R.2.2.2.2.2.2.2.2.2.1
  by_cases q1 : nI 0 ≤ c ∧ c < nI (β 0)
  · obtain ⟨j, hj, rfl⟩ := of_rng (by omega) q1
    have h6 := hw.m6 hj
    by_cases q2 : nI 0 ≤ k ∧ k < nI (bc β j 2)
    · obtain ⟨i, hi, rfl⟩ := of_rng (by omega) q2
      by_cases q : nI 0 ≤ w ∧ w ≤ nI 2
      · obtain ⟨x, hx, rfl⟩ := of_le (n := 2) rfl q
        obtain ⟨u', e1, e2⟩ := k_cellN (N := N) (by omega) hw hj hi hx u hC
        obtain ⟨v', g1, g2⟩ := m_cellN (N := N) (by omega) hw hj hi hx v hM
        refine ⟨nI (vCell β j i x), u', v', ?_, ?_, _, _, _, _, _, _, R.ck0 e2 g2⟩
        · simp (disch := omega) only [f_X6_about, lit, ar77_0, k_hasCell hC h4 hj, bnd_s, bI0, q2, and_self, not_true, if_false, e1, k_cpos (r_pos (vCell_lt hw hj hi))]
        · simp (disch := omega) only [f_X7_about, m_isCell hM h4 hj h6, m_within, lit, bnd_s, bI0, q2, q, and_self, not_true, if_false, g1]
      · refine bad_sim (N := N) h0 ?_ ?_
        · simp (disch := omega) only [f_X6_about, f_X6_cellNumber, lit, ar77_0, k_hasCell hC h4 hj, bnd_s, bI0, q2, and_self, not_true, if_false, ar_b0, al_1, chk_in, ne_of q (j := 0) (by omega) (by decide), ne_of q (j := 1) (by omega) (by decide), ne_of q (j := 2) (by omega) (by decide)]
        · simp (disch := omega) only [f_X7_about, f_X7_about_28, m_isCell hM h4 hj h6, m_within, lit, bnd_s, bI0, q2, q, and_self, not_true, not_false_eq_true, if_true, if_false]
    · refine bad_sim (N := N) h0 ?_ ?_
      · simp (disch := omega) only [f_X6_about, lit, ar77_0, k_hasCell hC h4 hj, bnd_s, bI0, q2, not_false_eq_true, if_true]
      · simp (disch := omega) only [f_X7_about, f_X7_about_28, m_isCell hM h4 hj h6, lit, bnd_s, bI0, q2, not_false_eq_true, if_true]
  · refine bad_sim (N := N) h0 ?_ ?_
    · simp (disch := omega) only [f_X6_about, lit, ar77_0, k_hasCell_no hC q1, bnd_s, if_true]
    · simp (disch := omega) only [f_X7_about, f_X7_about_28, m_isCell_no hM h4 q1, lit, bnd_s, if_true]
def vCount (β : Nat → Nat) (w : Nat) : Nat := if w = 0 then β 0 else if w = 1 then sm (fun c => bc β c 2) (β 0) else if w = 2 then β 2 else nmk β (decide (w = 4)) (β 0)
theorem k_count {β : Nat → Nat} (hN : 20 ≤ N) (hw : WB β) {w : Nat} (h4 : w ≤ 4) {u : ASt} (hC : CB u 0 β) : f_X0_number N 0 (nI w) u = some (nI (vCount β w), u) := by
  obtain ⟨a0, a1, a2, a3, a4, a5, a6⟩ := id hC
  simp only [Nat.mul_zero, Nat.zero_add] at a0 a1 a2 a3 a4 a5 a6
  have h : w = 0 ∨ w = 1 ∨ w = 2 ∨ w = 3 ∨ w = 4 := by omega
  rcases h with rfl | rfl | rfl | rfl | rfl <;> simp (disch := omega) [f_X0_number, lit, nE, k_cells hw hN hC, bnd_s, vCount, a0, a2, a5, a6]
theorem m_count {β : Nat → Nat} (hN : 20 ≤ N) (hw : WB β) {w : Nat} (h4 : w ≤ 4) {v : ASt} (hM : MB v β) : f_X7_countOf N 95 (nI w) v = some (nI (vCount β w), v) := by
  have e0 := hM 0 (by omega)
  have e2 := hM 2 (by omega)
  have h : w = 0 ∨ w = 1 ∨ w = 2 ∨ w = 3 ∨ w = 4 := by omega
  rcases h with rfl | rfl | rfl | rfl | rfl <;> simp (disch := omega) [f_X7_countOf, lit, nE, m_chips, m_cells hw hN hM, m_outs hw hN hM, m_withCells hw hN hM, bnd_s, vCount, e0, e2, ar95_0, ar95_1, ar95_2, ar95_4, ar95_5, ar95_7, ar95_9, ar95_11, ar95_12, ar95_16, ar95_17, al96, al97, al98, al99, al100, al101, al102, al103, al104, al105, al106, nLE, nCl, chk_True]
theorem vCount_lt {β : Nat → Nat} (hw : WB β) {w : Nat} : vCount β w < 2147483648 := by
  have h1 := hw.1
  have h2 := hw.2.2.1
  have l2 := sm_le (g := fun c => bc β c 2) (b := 6) (β 0) (fun c hc => hw.m6 hc)
  have l3 := nmk_lt (β := β) (b := decide (w = 4)) (β 0) (fun c hc k hk => hw.net hc hk)
  unfold vCount
  split
  · omega
  · split
    · omega
    · split <;> omega
theorem sim_count (hN : 1000 ≤ N) (w : Int32) : Sm (f_X6_count N 77 w) (f_X7_count N 95 w) := by
  intro u v h
  by_cases q : nI 0 ≤ w ∧ w ≤ nI 4
  · obtain ⟨j, hj, rfl⟩ := of_le (n := 4) rfl q
    refine read_sim h (fun β hw => ⟨nI (vCount β j), fun u hC => ⟨u, ?_, CK0.rf⟩, fun v hM => ⟨v, ?_, MK0.rf⟩⟩)
    · simp only [f_X6_count, ar77_0, k_count (show 20 ≤ N by omega) hw hj hC, bnd_s, k_cpos (r_pos (vCount_lt hw))]
    · simp only [f_X7_count, m_within, lit, bnd_s, bI0, q, and_self, not_true, if_false, m_count (show 20 ≤ N by omega) hw hj hM]
  · refine bad_sim (N := N) h ?_ ?_
    · simp only [f_X6_count, f_X0_number, lit, ne_of q (j := 0) (by omega) (by decide), ne_of q (j := 1) (by omega) (by decide), ne_of q (j := 2) (by omega) (by decide), ne_of q (j := 3) (by omega) (by decide), ne_of q (j := 4) (by omega) (by decide), if_false, bnd_s]
    · simp only [f_X7_count, m_within, lit, bnd_s, bI0, q, not_false_eq_true, if_true]
theorem sim_fault (hN : 1000 ≤ N) (i : Int32) : Sm (f_X6_fault N 77 i) (f_X7_fault N 95 i) := by
  intro u v h
  have h0 := h
  obtain ⟨β, m, mp, hs, n, tx, R⟩ := h
  have hw := R.1
  have h24 := hw.2.2.1
  have hC := R.2.2.2.2.2.2.1
  have hM := R.2.2.2.2.2.2.2.2.2.1
  have f3 : agt u 0 3 = nI (β 2) := by have := hC.2.2.1; simpa using this
  have e2 := hM 2 (by omega)
  by_cases q : nI 0 ≤ i
  · by_cases q2 : nI (β 2) ≤ i
    · refine ⟨-1, u, v, ?_, ?_, h0⟩
      · simp (disch := omega) only [f_X6_fault, lit, q, if_true, ar77_0, f3, q2]
      · simp (disch := omega) only [f_X7_fault, lit, q, if_true, ar95_0, ar95_1, ar95_2, ar95_4, ar95_5, ar95_7, ar95_9, ar95_11, ar95_12, ar95_16, ar95_17, al96, al97, al98, al99, al100, al101, al102, al103, al104, al105, al106, chk_in, nCl, e2, q2]
    · obtain ⟨j, hj, rfl⟩ := of_rng (n := β 2) (by omega) ⟨q, Int32.not_le.mp q2⟩
      have e3 := hM (3 + j) (by omega)
      have f4 := hC.fl j hj
      refine ⟨nI (β (3 + j)), u, v, ?_, ?_, h0⟩
      · simp (disch := omega) only [f_X6_fault, lit, q, if_true, ar77_0, f3, q2, if_false, ar_b2, al_2, chk_in, nCl, f4]
        rfl
      · simp (disch := omega) only [f_X7_fault, lit, q, if_true, ar95_0, ar95_1, ar95_2, ar95_4, ar95_5, ar95_7, ar95_9, ar95_11, ar95_12, ar95_16, ar95_17, al96, al97, al98, al99, al100, al101, al102, al103, al104, al105, al106, chk_in, nCl, e2, q2, if_false, nI_add, e3]
  · refine bad_sim (N := N) h0 ?_ ?_
    · simp (disch := omega) only [f_X6_fault, lit, q, if_false]
    · simp (disch := omega) only [f_X7_fault, lit, q, if_false]
theorem sim_told (hN : 1000 ≤ N) (w : Int32) : Sm (f_X6_told N 77 w) (f_X7_told N 95 w) := by
  intro u v h
  have h0 := h
  obtain ⟨β, m, mp, hs, n, tx, R⟩ := h
  obtain ⟨r1, r2, r3, r4, r5, r6, r7, r8, r9, r10, r11, r12, r13⟩ := R
  by_cases q : nI 0 ≤ w ∧ w ≤ nI 4
  · obtain ⟨j, hj, rfl⟩ := of_le (n := 4) rfl q
    have h : j = 0 ∨ j = 1 ∨ j = 2 ∨ j = 3 ∨ j = 4 := by omega
    obtain ⟨c1, c2, c3⟩ := r13
    rcases h with rfl | rfl | rfl | rfl | rfl
    · exact ⟨agt v 99 0, u, v, by simp (disch := omega) [f_X6_told, lit, nE, c1], by simp (disch := omega) [f_X7_told, f_X7_toldOf, m_within, lit, bnd_s, bI0, nE, nLE, ar95_0, ar95_1, ar95_2, ar95_4, ar95_5, ar95_7, ar95_9, ar95_11, ar95_12, ar95_16, ar95_17, al96, al97, al98, al99, al100, al101, al102, al103, al104, al105, al106, nCl, chk_True], h0⟩
    · exact ⟨agt v 99 1, u, v, by simp (disch := omega) [f_X6_told, lit, nE, c2], by simp (disch := omega) [f_X7_told, f_X7_toldOf, m_within, lit, bnd_s, bI0, nE, nLE, ar95_0, ar95_1, ar95_2, ar95_4, ar95_5, ar95_7, ar95_9, ar95_11, ar95_12, ar95_16, ar95_17, al96, al97, al98, al99, al100, al101, al102, al103, al104, al105, al106, nCl, chk_True], h0⟩
    · exact ⟨agt v 99 2, u, v, by simp (disch := omega) [f_X6_told, lit, nE, c3], by simp (disch := omega) [f_X7_told, f_X7_toldOf, m_within, lit, bnd_s, bI0, nE, nLE, ar95_0, ar95_1, ar95_2, ar95_4, ar95_5, ar95_7, ar95_9, ar95_11, ar95_12, ar95_16, ar95_17, al96, al97, al98, al99, al100, al101, al102, al103, al104, al105, al106, nCl, chk_True], h0⟩
    · exact ⟨nI n, u, v, by simp (disch := omega) [f_X6_told, lit, nE, ar77_4, r9.1], by simp (disch := omega) [f_X7_told, f_X7_toldOf, m_within, lit, bnd_s, bI0, nE, nLE, r12.1], h0⟩
    · exact ⟨nI m, u, v, by simp (disch := omega) [f_X6_told, lit, nE, ar77_3, r8.1], by simp (disch := omega) [f_X7_told, f_X7_toldOf, m_within, lit, bnd_s, bI0, nE, nLE, r11.1], h0⟩
  · refine bad_sim (N := N) h0 ?_ ?_
    · simp only [f_X6_told, lit, ne_of q (j := 0) (by omega) (by decide), ne_of q (j := 1) (by omega) (by decide), ne_of q (j := 2) (by omega) (by decide), ne_of q (j := 3) (by omega) (by decide), ne_of q (j := 4) (by omega) (by decide), if_false, bnd_s]
    · simp only [f_X7_told, m_within, lit, bnd_s, bI0, q, not_false_eq_true, if_true]
/-- the text is another -/
theorem Rl_text {u v u' v' : ASt} {β : Nat → Nat} {m mp : Nat} {hs : Nat → Nat → Nat} {n n' : Nat} {tx tx' : Nat → Nat} (R : Rl u v β m mp hs n tx) (h1 : n' ≤ 120) (h2 : ∀ j, j < n' → tx' j < 128) (hu : ∀ a, ¬ (91 ≤ a ∧ a ≤ 94) → u'.1 a = u.1 a) (hv : ∀ a, a ≠ 95 → a ≠ 100 → v'.1 a = v.1 a) (h3 : agt v' 95 3 = agt v 95 3) (hc : CT u' n' tx') (hm : MT v' n' tx') : Rel u' v' := by
  obtain ⟨r1, r2, r3, r4, r5, r6, r7, r8, r9, r10, r11, r12, r13⟩ := R
  refine ⟨β, m, mp, hs, n', tx', r1, r2, r3, r4, h1, h2, r7.kept r1.1 (fun a h1 h2 => hu a (by omega)), r8.kept r2 (hu 89 (by omega)) (fun a h1 h2 => hu a (by omega)), hc, fun k hk => by rw [agt_e (hv 96 (by omega) (by omega))]; exact r10 k hk, ⟨by rw [h3]; exact r11.1, fun i hi k hk => by rw [agt_e (hv 98 (by omega) (by omega))]; exact r11.2 i hi k hk⟩, hm, ?_⟩
  unfold CN
  rw [agt_e (hu 77 (by omega)), agt_e (hu 77 (by omega)), agt_e (hu 77 (by omega)), agt_e (hv 99 (by omega) (by omega)), agt_e (hv 99 (by omega) (by omega)), agt_e (hv 99 (by omega) (by omega))]
  exact r13
theorem byte_n : ∀ c, c < 128 → vp_nar .byte (Int8.toInt32 (Int32.toInt8 (nI c))) = nI c := by decide +kernel
theorem sim_clear (hN : 1000 ≤ N) : Sm (f_X6_clear N 77) (f_X7_clear N 95) := by
  intro u v h
  obtain ⟨β, m, mp, hs, n, tx, R⟩ := h
  have c1 := R.2.2.2.2.2.2.2.2.1.1
  have c2 := R.2.2.2.2.2.2.2.2.2.2.2.1.1
  refine ⟨nI n, apt u 91 1 (nI 0), apt v 95 6 (nI 0), ?_, ?_, Rl_text (n' := 0) (tx' := tx) R (by omega) (fun j hj => by omega) (fun a ha => apt_ne (by omega)) (fun a h1 h2 => apt_ne h1) (agt_pt_k (by omega)) ⟨agt_pt_s _ _ _ _, fun j hj => by omega⟩ ⟨agt_pt_s _ _ _ _, fun j hj => by omega⟩⟩
  · simp only [f_X6_clear, f_X5_drop, lit, ar77_4, c1, lte_s, bnd_s]
  · simp only [f_X7_clear, lit, c2, lte_s]
theorem sim_type (hN : 1000 ≤ N) (c : Int32) : Sm (f_X6_type N 77 c) (f_X7_type N 95 c) := by
  intro u v h
  have h0 := h
  obtain ⟨β, m, mp, hs, n, tx, R⟩ := h
  have h5 := R.2.2.2.2.1
  have h6 := R.2.2.2.2.2.1
  have c1 := R.2.2.2.2.2.2.2.2.1
  have c2 := R.2.2.2.2.2.2.2.2.2.2.2.1
  by_cases q : nI 0 ≤ c ∧ c ≤ nI 127
  · obtain ⟨j, hj, rfl⟩ := of_le (n := 127) rfl q
    have z0 : ¬ j < 0 := by omega
    by_cases q2 : n = 120
    · have d1 := c1.1
      have d2 := c2.1
      rw [q2] at d1 d2
      refine ⟨-4, _, _, ?_, ?_, _, _, _, _, _, _, Rl_cnt R (Or.inr (Or.inr ⟨rfl, rfl⟩))⟩
      · have e : f_X5_append N 91 (nI j) u = some (-4, u) := by
          simp (disch := omega) only [f_X5_append, lit, nLT, nLE, z0, hj, if_true, if_false, d1, Nat.lt_irrefl]
        unfold f_X6_type
        rw [ar77_4, e, bnd_s, k_cfull, bnd_s]
      · simp (disch := omega) only [f_X7_type, m_within, lit, bnd_s, bI0, q, and_self, not_true, if_false, d2, if_true]
        rw [m_full]; rfl
    · have hn : n < 120 := by omega
      obtain ⟨u', hu'⟩ : ∃ z, z = apt (apt u 92 n (nI j)) 91 1 (nI (n + 1)) := ⟨_, rfl⟩
      obtain ⟨v', hv'⟩ : ∃ z, z = apt (apt v 100 n (nI j)) 95 6 (nI (n + 1)) := ⟨_, rfl⟩
      refine ⟨nI (n + 1), u', v', ?_, ?_, Rl_text (n' := n + 1) (tx' := sb tx n j) R (by omega) (fun i hi => ?_) (fun a ha => by rw [hu', apt_ne (by omega), apt_ne (by omega)]) (fun a h1 h2 => by rw [hv', apt_ne h1, apt_ne h2]) (by rw [hv', agt_pt_k (by omega), agt_pt_o (by omega)]) ⟨by rw [hu', agt_pt_s], fun i hi => ?_⟩ ⟨by rw [hv', agt_pt_s], fun i hi => ?_⟩⟩
      · have e1 : agt (apt u 92 n (nI j)) 91 1 = nI n := by rw [agt_pt_o (by omega)]; exact c1.1
        have e2 : agt u' 91 1 = nI (n + 1) := by rw [hu', agt_pt_s]
        simp (disch := omega) only [f_X6_type, f_X5_append, lit, ar77_4, nLT, nLE, z0, hj, if_true, if_false, c1.1, hn, ar91_0, al92, chk_in, nCl, byte_n, lte_s, e1, nI_add, ← hu', e2, bnd_s, k_cpos (r_pos (show n + 1 < 2147483648 by omega))]
      · have e1 : agt (apt v 100 n (nI j)) 95 6 = nI n := by rw [agt_pt_o (by omega)]; exact c2.1
        have e2 : agt v' 95 6 = nI (n + 1) := by rw [hv', agt_pt_s]
        simp (disch := omega) only [f_X7_type, m_within, lit, bnd_s, bI0, q, and_self, not_true, if_false, c2.1, nE, q2, ar95_0, ar95_1, ar95_2, ar95_4, ar95_5, ar95_7, ar95_9, ar95_11, ar95_12, ar95_16, ar95_17, al96, al97, al98, al99, al100, al101, al102, al103, al104, al105, al106, chk_in, nCl, lte_s, e1, nI_add, ← hv', e2]
      · unfold sb
        split
        · omega
        · exact h6 i (by omega)
      · rw [hu', agt_pt_o (by omega), agt_pt]
        unfold sb
        by_cases e : i = n
        · simp [e]
        · rw [if_neg (by omega), if_neg e]; exact c1.2 i (by omega)
      · rw [hv', agt_pt_o (by omega), agt_pt]
        unfold sb
        by_cases e : i = n
        · simp [e]
        · rw [if_neg (by omega), if_neg e]; exact c2.2 i (by omega)
  · refine bad_sim (N := N) h0 ?_ ?_
    · have e : f_X5_append N 91 c u = some (-2, u) := by
        unfold f_X5_append f_X5_append_10
        by_cases z : c < 0
        · rw [if_pos z]
        · rw [if_neg z, if_neg (fun y : c ≤ (127 : Int32) => q ⟨Int32.not_lt.mp z, y⟩)]
      unfold f_X6_type
      rw [ar77_4, e, bnd_s]
    · simp only [f_X7_type, m_within, lit, bnd_s, bI0, q, not_false_eq_true, if_true]
theorem sim_back (hN : 1000 ≤ N) : Sm (f_X6_back N 77) (f_X7_back N 95) := by
  intro u v h
  obtain ⟨β, m, mp, hs, n, tx, R⟩ := h
  have R' := R
  obtain ⟨r1, r2, r3, r4, r5, r6, r7, r8, r9, r10, r11, r12, r13⟩ := R
  by_cases q : m = 0
  · subst q
    refine ⟨-3, _, _, ?_, ?_, _, _, _, _, _, _, Rl_cnt R' (Or.inr (Or.inl ⟨rfl, rfl⟩))⟩
    · have e : f_X2_takeBack N 89 0 u = some (-3, u) := by
        unfold f_X2_takeBack
        rw [r8.1, if_pos (show nI 0 = (0 : Int32) from rfl)]
      unfold f_X6_back
      rw [ar77_3, ar77_0, e, bnd_s, k_cno, bnd_s]
    · unfold f_X7_back
      rw [r11.1, if_pos (show nI 0 = (0 : Int32) from rfl), m_no]; rfl
  · have pl : (mp + 6 - m + (m - 1)) % 6 = (mp + 5) % 6 := by omega
    have hB := r8.2.2 (m - 1) (by omega)
    rw [pl] at hB
    have hwB := r2 (m - 1) (by omega)
    obtain ⟨u3, hu3⟩ : ∃ z, z = apt (apt u 89 1 (nI ((mp + 5) % 6))) 89 2 (nI (m - 1)) := ⟨_, rfl⟩
    have n3 : ∀ a, a ≠ 89 → u3.1 a = u.1 a := fun a ha => by rw [hu3, apt_ne ha, apt_ne ha]
    have B3 : CB u3 (1 + (mp + 5) % 6) (hs (m - 1)) := hB.kept hwB.1 (fun a h1 h2 => n3 a (by omega))
    obtain ⟨u4, e1, e2, e3⟩ := k_copy (N := N) (b0 := 0) (b1 := 1 + (mp + 5) % 6) (u := u3) (by omega) (by omega) (by omega) (by omega) hwB B3
    obtain ⟨v4, g1, g2, g3, g4⟩ := m_back_loop (N := N) (m := m - 1) (by omega) N 0 (apt v 95 3 (nI (m - 1))) (by omega) (by omega) (agt_pt_s _ _ _ _)
    have k1 : agt u3 89 1 = nI ((mp + 5) % 6) := by rw [hu3, agt_pt_k (by omega), agt_pt_s]
    have k2 : agt u4 89 2 = nI (m - 1) := by rw [agt_e (e3 89 (by omega)), hu3, agt_pt_s]
    have nv : ∀ a, a ≠ 95 → a ≠ 96 → v4.1 a = v.1 a := fun a h1 h2 => by rw [g4 a h2, apt_ne h1]
    refine ⟨nI (m - 1), u4, v4, ?_, ?_, hs (m - 1), m - 1, (mp + 5) % 6, hs, n, tx, hwB, fun i hi => r2 i (by omega), by omega, by omega, r5, r6, e2, ⟨k2, by rw [agt_e (e3 89 (by omega))]; exact k1, fun i hi => ?_⟩, ⟨?_, fun j hj => ?_⟩, fun k hk => ?_, ⟨?_, fun i hi k hk => ?_⟩, ⟨?_, fun j hj => ?_⟩, ?_⟩
    · have e5 : nI (mp + 6 - 1) - nI (mp + 6 - 1) / nI 6 * nI 6 = nI ((mp + 5) % 6) := by rw [nRem (by omega) (by omega) (by omega), show mp + 6 - 1 = mp + 5 by omega]
      have k3 : agt (apt u 89 1 (nI ((mp + 5) % 6))) 89 2 = nI m := by rw [agt_pt_k (by omega)]; exact r8.1
      rw [Nat.mul_zero] at e1
      have TB : f_X2_takeBack N 89 0 u = some (nI (m - 1), u4) := by
        simp (disch := omega) only [f_X2_takeBack, f_X2_returnToMark, lit, r8.1, nE, q, if_false, r8.2.1, nI_add, nSub, e5, lte_s, k3, ← hu3, k1, ar89_0, al90, chk_in, nCl, ar_90, e1, bnd_s, k2]
      unfold f_X6_back
      rw [ar77_3, ar77_0, TB, bnd_s, k_cpos (r_pos (by omega)), bnd_s]
    · simp (disch := omega) only [f_X7_back, lit, r11.1, nE, q, if_false, nSub, lte_s]
      exact g1
    · have := r8.2.2 i (by omega)
      rw [show ((mp + 5) % 6 + 6 - (m - 1) + i) % 6 = (mp + 6 - m + i) % 6 by omega]
      exact this.kept (r2 i (by omega)).1 (fun a h1 h2 => by rw [e3 a (by omega), n3 a (by omega)])
    · rw [agt_e (e3 91 (by omega)), agt_e (n3 91 (by omega))]; exact r9.1
    · rw [agt_e (e3 92 (by omega)), agt_e (n3 92 (by omega))]; exact r9.2 j hj
    · rw [g2 k (by omega) hk, agt_pt_o (by omega)]; exact r11.2 (m - 1) (by omega) k hk
    · rw [agt_e (g4 95 (by omega)), agt_pt_s]
    · rw [agt_e (nv 98 (by omega) (by omega))]; exact r11.2 i (by omega) k hk
    · rw [agt_e (g4 95 (by omega)), agt_pt_k (by omega)]; exact r12.1
    · rw [agt_e (nv 100 (by omega) (by omega))]; exact r12.2 j hj
    · unfold CN
      rw [agt_e (e3 77 (by omega)), agt_e (e3 77 (by omega)), agt_e (e3 77 (by omega)), agt_e (n3 77 (by omega)), agt_e (n3 77 (by omega)), agt_e (n3 77 (by omega)), agt_e (nv 99 (by omega) (by omega)), agt_e (nv 99 (by omega) (by omega)), agt_e (nv 99 (by omega) (by omega))]
      exact r13
end SIM2
