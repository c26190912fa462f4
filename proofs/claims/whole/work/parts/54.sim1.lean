/-! the calls, class beside model: first part -/
def Sm (fc fm : ASt → Option (Int32 × ASt)) : Prop := ∀ u v, Rel u v → ∃ r u' v', fc u = some (r, u') ∧ fm v = some (r, v') ∧ Rel u' v'
section SIM1
variable {N : Nat}
theorem sim_chip (hN : 1000 ≤ N) (l d : Int32) : Sm (f_X6_chip N 77 l d) (f_X7_chip N 95 l d) := fun _ _ h => act_sim hN h (fun _ hw => Op_chip (by omega) hw l d)
theorem sim_cell (hN : 1000 ≤ N) (c k n : Int32) : Sm (f_X6_cell N 77 c k n) (f_X7_cell N 95 c k n) := fun _ _ h => act_sim hN h (fun _ hw => Op_cell hw c k n)
theorem sim_opens (hN : 1000 ≤ N) (c k : Int32) : Sm (f_X6_opens N 77 c k) (f_X7_opens N 95 c k) := fun _ _ h => act_sim hN h (fun _ hw => Op_open hw c k)
theorem sim_sticks (hN : 1000 ≤ N) (n x : Int32) : Sm (f_X6_sticks N 77 n x) (f_X7_sticks N 95 n x) := fun _ _ h => act_sim hN h (fun _ hw => Op_stuck hw n x)
theorem sim_shorts (hN : 1000 ≤ N) (a b k : Int32) : Sm (f_X6_shorts N 77 a b k) (f_X7_shorts N 95 a b k) := fun _ _ h => act_sim hN h (fun _ hw => Op_short hw a b k)
theorem sim_heals (hN : 1000 ≤ N) : Sm (f_X6_heals N 77) (f_X7_heals N 95) := fun _ _ h => act_sim hN h (fun _ hw => Op_heals hw)
theorem sim_clock (hN : 1000 ≤ N) (a b : Int32) : Sm (f_X6_clock N 77 a b) (f_X7_clock N 95 a b) := fun _ _ h => act_sim hN h (fun _ hw => Op_tick (by omega) hw a b)
/-- both refuse a call that isn't an act -/
theorem bad_sim {u v : ASt} (h : Rel u v) {fc fm : ASt → Option (Int32 × ASt)} (h1 : fc u = bnd (f_X6_counted N 77 (-2) u) fun r w => some (r, w)) (h2 : fm v = bnd (f_X7_bad N 95 v) fun r w => some (r, w)) : ∃ r u' v', fc u = some (r, u') ∧ fm v = some (r, v') ∧ Rel u' v' := by
  obtain ⟨β, m, mp, hs, n, tx, R⟩ := h
  exact ⟨-2, _, _, by rw [h1, k_cbad]; rfl, by rw [h2, m_bad]; rfl, _, _, _, _, _, _, Rl_cnt R (Or.inl ⟨rfl, rfl⟩)⟩
/-- both read -/
theorem read_sim {u v : ASt} (h : Rel u v) {fc fm : ASt → Option (Int32 × ASt)} (hr : ∀ β, WB β → ∃ r, (∀ u, CB u 0 β → ∃ u', fc u = some (r, u') ∧ CK0 u u') ∧ ∀ v, MB v β → ∃ v', fm v = some (r, v') ∧ MK0 v v') : ∃ r u' v', fc u = some (r, u') ∧ fm v = some (r, v') ∧ Rel u' v' := by
  obtain ⟨β, m, mp, hs, n, tx, R⟩ := h
  obtain ⟨r, h1, h2⟩ := hr β R.1
  obtain ⟨u', e1, e2⟩ := h1 u R.2.2.2.2.2.2.1
  obtain ⟨v', g1, g2⟩ := h2 v R.2.2.2.2.2.2.2.2.2.1
  exact ⟨r, u', v', e1, g1, _, _, _, _, _, _, R.ck0 e2 g2⟩
theorem of_le {x : Int32} {M : Int32} {n : Nat} (hM : M.toInt = n) (h : nI 0 ≤ x ∧ x ≤ M) : ∃ j, j ≤ n ∧ x = nI j := nI_of2 hM (Int32.not_lt.mpr h.1) h.2
theorem ne_of {x M : Int32} (h : ¬ (nI 0 ≤ x ∧ x ≤ M)) {j : Nat} (hj : j < 2147483648) (hM : nI j ≤ M) : ¬ x = nI j := fun e => h (by rw [e]; exact ⟨(nLE (by omega) hj).mpr (by omega), hM⟩)
noncomputable def vPort (β : Nat → Nat) (w : Nat) : Nat := if w = 0 then β 1 else if w = 1 then sm (ln_ β) (β 0) else if w = 2 then sm (fun c => bc β c 0) (β 0) else if w = 3 then fgt β else onw (NVn β) 8
theorem k_port {β : Nat → Nat} (hN : 20 ≤ N) (hw : WB β) {w : Nat} (hw5 : w ≤ 4) : kR (f_X6_portNumber N 77 (nI w)) β (vPort β w) := by
  intro u hC
  have h : w = 0 ∨ w = 1 ∨ w = 2 ∨ w = 3 ∨ w = 4 := by omega
  rcases h with rfl | rfl | rfl | rfl | rfl
  · exact ⟨u, by simp (disch := omega) only [f_X6_portNumber, lit, if_true, ar77_0, hC.u4, vPort], CK0.rf⟩
  · exact ⟨u, by simp (disch := omega) only [f_X6_portNumber, lit, nE, if_true, if_false, ar77_0, k_dataBits hw hN hC, bnd_s, vPort, show ¬ (1 : Nat) = 0 by omega], CK0.rf⟩
  · exact ⟨u, by simp (disch := omega) only [f_X6_portNumber, lit, nE, if_true, if_false, ar77_0, k_instrBits hw hN hC, bnd_s, vPort, show ¬ (2 : Nat) = 0 by omega, show ¬ (2 : Nat) = 1 by omega], CK0.rf⟩
  · obtain ⟨u', e1, e2, e3, e4, e5, e6⟩ := k_settle hN hw hC
    exact ⟨u', by simp (disch := omega) only [f_X6_portNumber, lit, nE, if_true, if_false, ar77_1, e1, bnd_s, e6, vPort, show ¬ (3 : Nat) = 0 by omega, show ¬ (3 : Nat) = 1 by omega, show ¬ (3 : Nat) = 2 by omega], NK.ck (Or.inl rfl) e2⟩
  · obtain ⟨u', e1, e2, e3, e4, e5, e6⟩ := k_settle hN hw hC
    exact ⟨u', by simp (disch := omega) only [f_X6_portNumber, lit, nE, if_true, if_false, ar77_1, e1, bnd_s, k_atOne hN (NVn_B1 hw) e3, vPort, show ¬ (4 : Nat) = 0 by omega, show ¬ (4 : Nat) = 1 by omega, show ¬ (4 : Nat) = 2 by omega, show ¬ (4 : Nat) = 3 by omega], NK.ck (Or.inl rfl) e2⟩
theorem m_port {β : Nat → Nat} (hN : 20 ≤ N) (hw : WB β) {w : Nat} (hw5 : w ≤ 4) : mR (f_X7_tellPort N 95 (nI w)) β (vPort β w) := by
  intro v hM
  have h : w = 0 ∨ w = 1 ∨ w = 2 ∨ w = 3 ∨ w = 4 := by omega
  rcases h with rfl | rfl | rfl | rfl | rfl
  · exact ⟨v, by simp (disch := omega) only [f_X7_tellPort, lit, if_true, ar95_0, ar95_1, ar95_2, ar95_4, ar95_5, ar95_7, ar95_9, ar95_11, ar95_12, ar95_16, ar95_17, al96, al97, al98, al99, al100, al101, al102, al103, al104, al105, al106, chk_in, nCl, hM 1 (by omega), vPort], MK0.rf⟩
  · exact ⟨v, by simp (disch := omega) only [f_X7_tellPort, lit, nE, if_true, if_false, m_longAll hw hN hM 0 (by omega), bnd_s, vPort, show ¬ (1 : Nat) = 0 by omega], MK0.rf⟩
  · exact ⟨v, by simp (disch := omega) only [f_X7_tellPort, lit, nE, if_true, if_false, m_longAll hw hN hM 1 (by omega), bnd_s, vPort, show ¬ (2 : Nat) = 0 by omega, show ¬ (2 : Nat) = 1 by omega, show ¬ (1 : Nat) = 0 by omega], MK0.rf⟩
  · obtain ⟨v', e1, e2, e3, e4, e5⟩ := m_laysNow hN hw hM
    exact ⟨v', by simp (disch := omega) only [f_X7_tellPort, f_X7_fightsNow, lit, nE, if_true, if_false, e1, bnd_s, e5, vPort, show ¬ (3 : Nat) = 0 by omega, show ¬ (3 : Nat) = 1 by omega, show ¬ (3 : Nat) = 2 by omega], e2⟩
  · obtain ⟨v', e1, e2, e3, e4, e5⟩ := m_laysNow hN hw hM
    have := m_atOne (N := N) hN (NVn_B1 hw) e4
    exact ⟨v', by
      simp (disch := omega) only [f_X7_tellPort, f_X7_onesNow, lit, nE, if_true, if_false, e1, bnd_s, vPort, show ¬ (4 : Nat) = 0 by omega, show ¬ (4 : Nat) = 1 by omega, show ¬ (4 : Nat) = 2 by omega, show ¬ (4 : Nat) = 3 by omega]
      rw [show nI 0 = (0 : Int32) from rfl, this]; rfl, e2⟩
theorem vPort_lt {β : Nat → Nat} (hw : WB β) {w : Nat} : vPort β w < 2147483648 := by
  have h1 := hw.2.1
  have h4 := hw.1
  have l1 := sm_le (g := ln_ β) (b := 8) (β 0) (fun c hc => (ln_b (hw.m6 hc)).2)
  have l2 := sm_le (g := fun c => bc β c 0) (b := 4) (β 0) (fun c hc => (hw.2.2.2.2 c hc).2.1)
  have l3 := dm_lt (β := β) (O := Ob β) (b := false) (β 0) (fun c hc k hk => hw.net hc hk)
  have l4 : fgt β < 256 := Nat.lt_of_le_of_lt Nat.and_le_left l3
  have l5 := onw_lt (NVn_B1 hw) 8 (by omega)
  unfold vPort
  split
  · omega
  · split
    · omega
    · split
      · omega
      · split <;> omega
theorem sim_port (hN : 1000 ≤ N) (w : Int32) : Sm (f_X6_port N 77 w) (f_X7_port N 95 w) := by
  intro u v h
  by_cases q : nI 0 ≤ w ∧ w ≤ nI 4
  · obtain ⟨j, hj, rfl⟩ := of_le (n := 4) rfl q
    refine read_sim h (fun β hw => ⟨nI (vPort β j), fun u hC => ?_, fun v hM => ?_⟩)
    · obtain ⟨u', e1, e2⟩ := k_port (N := N) (by omega) hw hj u hC
      exact ⟨u', by simp only [f_X6_port, e1, bnd_s, k_cpos (r_pos (vPort_lt hw))], e2⟩
    · obtain ⟨v', e1, e2⟩ := m_port (N := N) (by omega) hw hj v hM
      exact ⟨v', by simp only [f_X7_port, m_within, lit, bnd_s, bI0, q, and_self, not_true, if_false, e1], e2⟩
  · refine bad_sim (N := N) h ?_ ?_
    · simp only [f_X6_port, f_X6_portNumber, lit, ne_of q (j := 0) (by omega) (by decide), ne_of q (j := 1) (by omega) (by decide), ne_of q (j := 2) (by omega) (by decide), ne_of q (j := 3) (by omega) (by decide), ne_of q (j := 4) (by omega) (by decide), if_false, bnd_s]
    · simp only [f_X7_port, m_within, lit, bnd_s, bI0, q, not_false_eq_true, if_true]
/-! of -/
noncomputable def vChip (β : Nat → Nat) (c w : Nat) : Nat := if w = 4 then ln_ β c else bc β c (if w < 4 then w else w - 1)
theorem k_chip {β : Nat → Nat} (hw : WB β) {c w : Nat} (hc : c < β 0) (hw7 : w ≤ 7) {u : ASt} (hC : CB u 0 β) : f_X1_number N (3 + c) (nI w) u = some (nI (vChip β c w), u) := by
  have hCC := hC.cc hc
  have D := k_bits (N := N) hCC (hw.2.2.2.2 c hc)
  obtain ⟨b0, b1, b2, b3, b4, b5, b6, b7, b8⟩ := hCC
  have h : w = 0 ∨ w = 1 ∨ w = 2 ∨ w = 3 ∨ w = 4 ∨ w = 5 ∨ w = 6 ∨ w = 7 := by omega
  rcases h with rfl | rfl | rfl | rfl | rfl | rfl | rfl | rfl <;> simp (disch := omega) [f_X1_number, lit, nE, D, bnd_s, vChip, b0, b1, b2, b3, b4, b5, b6]
theorem m_chip {β : Nat → Nat} (hw : WB β) {c w : Nat} (hc : c < β 0) (hw7 : w ≤ 7) {v : ASt} (hM : MB v β) : f_X7_tellChip N 95 (nI c) (nI w) v = some (nI (vChip β c w), v) := by
  have h4 := hw.1
  have D := m_long (N := N) hM (show c < 4 by omega) (hw.2.2.2.2 c hc)
  have h : w = 0 ∨ w = 1 ∨ w = 2 ∨ w = 3 ∨ w = 4 ∨ w = 5 ∨ w = 6 ∨ w = 7 := by omega
  rcases h with rfl | rfl | rfl | rfl | rfl | rfl | rfl | rfl <;> simp (disch := omega) [f_X7_tellChip, lit, nE, D, bnd_s, vChip, m_getB hM (show c < 4 by omega)]
theorem vChip_lt {β : Nat → Nat} (hw : WB β) {c w : Nat} (hc : c < β 0) (h7 : w ≤ 7) : vChip β c w < 2147483648 := by
  obtain ⟨w0, w1, w2, w3, w4, w5, w6, w7, w8⟩ := hw.2.2.2.2 c hc
  have l := ln_b (β := β) (c := c) w3
  unfold vChip
  have h : w = 0 ∨ w = 1 ∨ w = 2 ∨ w = 3 ∨ w = 4 ∨ w = 5 ∨ w = 6 ∨ w = 7 := by omega
  rcases h with rfl | rfl | rfl | rfl | rfl | rfl | rfl | rfl <;> simp <;> omega
theorem sim_of (hN : 1000 ≤ N) (c w : Int32) : Sm (f_X6_of N 77 c w) (f_X7_of N 95 c w) := by
  intro u v h
  obtain ⟨β, m, mp, hs, n, tx, R⟩ := h
  have hw := R.1
  have h4 := hw.1
  have hC := R.2.2.2.2.2.2.1
  have hM := R.2.2.2.2.2.2.2.2.2.1
  have R2 : Rel u v := ⟨_, _, _, _, _, _, R⟩
  by_cases q1 : nI 0 ≤ c ∧ c < nI (β 0)
  · obtain ⟨j, hj, rfl⟩ := of_rng (by omega) q1
    by_cases q : nI 0 ≤ w ∧ w ≤ nI 7
    · obtain ⟨i, hi, rfl⟩ := of_le (n := 7) rfl q
      refine ⟨nI (vChip β j i), u, v, ?_, ?_, R2⟩
      · simp (disch := omega) only [f_X6_of, lit, ar77_0, k_hasChip (n := β 0) hC.u0, bnd_s, bI0, q1, and_self, not_true, if_false, ar_b0, al_1, chk_in, nCl, ar_1, k_chip hw hj hi hC, k_cpos (r_pos (vChip_lt hw hj hi))]
      · simp (disch := omega) only [f_X7_of, m_isChip (hM 0 (by omega)) h4, m_within, lit, bnd_s, bI0, q1, q, and_self, not_true, if_false, m_chip hw hj hi hM]
    · refine bad_sim (N := N) R2 ?_ ?_
      · simp (disch := omega) only [f_X6_of, f_X1_number, lit, ar77_0, k_hasChip (n := β 0) hC.u0, bnd_s, bI0, q1, and_self, not_true, if_false, ar_b0, al_1, chk_in, nCl, ar_1, ne_of q (j := 0) (by omega) (by decide), ne_of q (j := 1) (by omega) (by decide), ne_of q (j := 2) (by omega) (by decide), ne_of q (j := 3) (by omega) (by decide), ne_of q (j := 4) (by omega) (by decide), ne_of q (j := 5) (by omega) (by decide), ne_of q (j := 6) (by omega) (by decide), ne_of q (j := 7) (by omega) (by decide)]
      · simp (disch := omega) only [f_X7_of, f_X7_of_27, m_isChip (hM 0 (by omega)) h4, m_within, lit, bnd_s, bI0, q1, q, and_self, not_true, not_false_eq_true, if_true, if_false]
  · refine bad_sim (N := N) R2 ?_ ?_
    · simp (disch := omega) only [f_X6_of, lit, ar77_0, k_hasChip (n := β 0) hC.u0, bnd_s, bI0, q1, not_false_eq_true, if_true]
    · simp (disch := omega) only [f_X7_of, f_X7_of_27, m_isChip (hM 0 (by omega)) h4, lit, bnd_s, bI0, q1, not_false_eq_true, if_true]
end SIM1
