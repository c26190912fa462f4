/-! the model's port -/
section TM
variable {N : Nat} {β : Nat → Nat} {x : Nat → Nat}
theorem MB_step {v : ASt} {c f : Nat} (h : MB v (upF β f x c)) : MB (apt v 96 (7 + 19 * c + f) (nI (x c))) (upF β f x (c + 1)) := h.put
theorem MB.u0 {v : ASt} {f c : Nat} (h : MB v (upF β f x c)) : agt v 96 0 = nI (β 0) := by rw [h 0 (by omega), upF_lo (by omega)]
theorem MB_g {v : ASt} {c c' f f' : Nat} (h : MB v (upF β f x c)) (hf : f < 19) (hc : c' < 4) (hf' : f' < 19) (hq : f' ≠ f ∨ c ≤ c') : f_X7_get N 95 (nI c') (nI f') v = some (nI (bc β c' f'), v) := by
  rw [m_getB h hc hf', upF_o hf hf' hq]
/-- a place that writes field f of each chip -/
theorem m_place (hw : WB β) (hN : 20 ≤ N) {p f : Nat} (I : ASt → Prop) (hI : ∀ v c y, I v → I (apt v 96 (7 + 19 * c + f) (nI y))) (h1 : ∀ n c v, c < β 0 → MB v (upF β f x c) → I v → ∃ v', f_X7_doesPlace_6 N 95 (nI p) (n + 1) (nI c) v = f_X7_doesPlace_6 N 95 (nI p) n (nI (c + 1)) v' ∧ (v' = apt v 96 (7 + 19 * c + f) (nI (x c)) ∨ (v' = v ∧ bc β c f = x c ∧ f < 19))) {v : ASt} (hM : MB v β) (h0 : I v) : ∃ v', f_X7_doesPlace_6 N 95 (nI p) N (nI 0) v = some ((), v') ∧ MB v' (upF β f x (β 0)) ∧ MK v v' := by
  have h4 := hw.1
  have LP := loop_c (β := β) (f := f) (x := x) (fun n (_ : Unit) => f_X7_doesPlace_6 N 95 (nI p) n) (fun _ => ()) (fun v B => MB v B ∧ I v) MK (fun _ => MK.rf) (fun _ _ _ => MK.tr) ?_ ?_ N 0 v (by omega) (by omega) ⟨hM, h0⟩
  · obtain ⟨v', e1, e2, e3⟩ := LP
    exact ⟨v', e1, e2.1, e3⟩
  · intro n v h
    have a0 := h.1.u0
    simp (disch := omega) only [f_X7_doesPlace_6, m_chips, a0, bnd_s, nLE, Nat.le_refl, if_true]
  · intro n c v hc h
    obtain ⟨v', e1, e2⟩ := h1 n c v hc h.1 h.2
    rcases e2 with e2 | ⟨e2, e3, e4⟩
    · subst e2
      exact ⟨_, e1, ⟨MB_step h.1, hI _ _ _ h.2⟩, MK.p96⟩
    · subst e2
      refine ⟨_, e1, ⟨?_, h.2⟩, MK.rf⟩
      rw [upF, sb_same]
      · exact h.1
      · have : bc (upF β f x c) c f = bc β c f := upF_o e4 e4 (Or.inr (Nat.le_refl _))
        rw [← e3]; exact this
theorem m_resets (hw : WB β) (hN : 20 ≤ N) {v : ASt} (hM : MB v β) : ∃ v', f_X7_doesPlace_6 N 95 (nI 0) N (nI 0) v = some ((), v') ∧ MB v' (upF β 3 (fun c => fst_ (bc β c 0) (bc β c 1)) (β 0)) ∧ MK v v' := by
  have h4 := hw.1
  refine m_place (x := fun c => fst_ (bc β c 0) (bc β c 1)) hw hN (fun _ => True) (fun _ _ _ _ => trivial) (fun n c v hc h _ => ⟨_, ?_, Or.inl rfl⟩) hM trivial
  have hc' : ¬ β 0 ≤ c := by omega
  have W := hw.2.2.2.2 c hc
  have F := m_first (N := N) h (show c < 4 by omega) (by rw [upF_o (by omega) (by omega) (Or.inl (by omega))]; exact W.2.1) (by rw [upF_o (by omega) (by omega) (Or.inl (by omega))]; exact W.2.2.1)
  rw [upF_o (by omega) (by omega) (Or.inl (by omega)), upF_o (by omega) (by omega) (Or.inl (by omega))] at F
  simp (disch := omega) only [f_X7_doesPlace_6, f_X7_doesPlace_136, m_chips, h.u0, bnd_s, nLE, hc', if_false, lit, if_true, m_at, F, ar95_0, ar95_1, ar95_2, ar95_4, ar95_5, ar95_7, ar95_9, ar95_11, ar95_12, ar95_16, ar95_17, al96, al97, al98, al99, al100, al101, al102, al103, al104, al105, al106, chk_in, nCl, lte_s, nI_add]
theorem m_capIR (hw : WB β) (hN : 20 ≤ N) {v : ASt} (hM : MB v β) : ∃ v', f_X7_doesPlace_6 N 95 (nI 10) N (nI 0) v = some ((), v') ∧ MB v' (upF β 4 (fun _ => 1) (β 0)) ∧ MK v v' := by
  have h4 := hw.1
  refine m_place (x := fun _ => 1) hw hN (fun _ => True) (fun _ _ _ _ => trivial) (fun n c v hc h _ => ⟨_, ?_, Or.inl rfl⟩) hM trivial
  have hc' : ¬ β 0 ≤ c := by omega
  have r : ¬ (10 : Nat) = 0 := by omega
  simp (disch := omega) only [f_X7_doesPlace_6, f_X7_doesPlace_136, m_chips, h.u0, bnd_s, nLE, hc', if_false, lit, nE, r, if_true, m_at, ar95_0, ar95_1, ar95_2, ar95_4, ar95_5, ar95_7, ar95_9, ar95_11, ar95_12, ar95_16, ar95_17, al96, al97, al98, al99, al100, al101, al102, al103, al104, al105, al106, chk_in, nCl, lte_s, nI_add]
theorem m_updIR (hw : WB β) (hN : 20 ≤ N) {v : ASt} (hM : MB v β) : ∃ v', f_X7_doesPlace_6 N 95 (nI 15) N (nI 0) v = some ((), v') ∧ MB v' (upF β 3 (fun c => bc β c 4) (β 0)) ∧ MK v v' := by
  have h4 := hw.1
  refine m_place (x := fun c => bc β c 4) hw hN (fun _ => True) (fun _ _ _ _ => trivial) (fun n c v hc h _ => ⟨_, ?_, Or.inl rfl⟩) hM trivial
  have hc' : ¬ β 0 ≤ c := by omega
  have G := MB_g (N := N) (c' := c) (f' := 4) h (by omega) (by omega) (by omega) (Or.inl (by omega))
  have r0 : ¬ (15 : Nat) = 0 := by omega
  have r1 : ¬ (15 : Nat) = 10 := by omega
  have r2 : ¬ (15 : Nat) = 3 := by omega
  simp (disch := omega) only [f_X7_doesPlace_6, f_X7_doesPlace_136, m_chips, h.u0, bnd_s, nLE, hc', if_false, lit, nE, r0, r1, r2, if_true, m_at, G, ar95_0, ar95_1, ar95_2, ar95_4, ar95_5, ar95_7, ar95_9, ar95_11, ar95_12, ar95_16, ar95_17, al96, al97, al98, al99, al100, al101, al102, al103, al104, al105, al106, chk_in, nCl, lte_s, nI_add]
theorem m_updDR (hw : WB β) (hN : 20 ≤ N) {v : ASt} (hM : MB v β) : ∃ v', f_X7_doesPlace_6 N 95 (nI 8) N (nI 0) v = some ((), v') ∧ MB v' (upF β 6 (ulx β) (β 0)) ∧ MK v v' := by
  have h4 := hw.1
  refine m_place (x := ulx β) hw hN (fun _ => True) (fun _ _ _ _ => trivial) (fun n c v hc h _ => ?_) hM trivial
  have hc' : ¬ β 0 ≤ c := by omega
  have W := (WB_upF hw (by omega) (ulx_b hw) c (by omega)).2.2.2.2 c (by rw [upF_lo (by omega)]; exact hc)
  have KD := m_kind (N := N) h (show c < 4 by omega) W
  obtain ⟨k1, k2, k3⟩ := kdn_s (β := upF β 6 (ulx β) c) (c := c) W.2.2.2.2.1
  rw [scn_up (by omega)] at k1
  have G := MB_g (N := N) (c' := c) (f' := 5) h (by omega) (by omega) (by omega) (Or.inl (by omega))
  have r0 : ¬ (8 : Nat) = 0 := by omega
  have r1 : ¬ (8 : Nat) = 10 := by omega
  have r2 : ¬ (8 : Nat) = 3 := by omega
  have r3 : ¬ (8 : Nat) = 15 := by omega
  by_cases q : scn β c
  · have z : ¬ 2 ≤ kdn (upF β 6 (ulx β) c) c := by have := k1.mpr q; omega
    have ex : ulx β c = bc β c 5 := by unfold ulx; rw [if_pos q]
    refine ⟨_, ?_, Or.inl rfl⟩
    simp (disch := omega) only [f_X7_doesPlace_6, f_X7_doesPlace_136, m_chips, h.u0, bnd_s, nLE, hc', if_false, lit, nE, r0, r1, r2, r3, if_true, KD, z, m_at, G, ar95_0, ar95_1, ar95_2, ar95_4, ar95_5, ar95_7, ar95_9, ar95_11, ar95_12, ar95_16, ar95_17, al96, al97, al98, al99, al100, al101, al102, al103, al104, al105, al106, chk_in, nCl, lte_s, nI_add, ex]
  · have z : 2 ≤ kdn (upF β 6 (ulx β) c) c := by
      rcases Nat.lt_or_ge (kdn (upF β 6 (ulx β) c) c) 2 with y | y
      · exact absurd (k1.mp y) q
      · exact y
    have ex : ulx β c = bc β c 6 := by unfold ulx; rw [if_neg q]
    refine ⟨v, ?_, Or.inr ⟨rfl, ex.symm, by omega⟩⟩
    simp (disch := omega) only [f_X7_doesPlace_6, f_X7_doesPlace_136, m_chips, h.u0, bnd_s, nLE, hc', if_false, lit, nE, r0, r1, r2, r3, if_true, KD, z, nI_add]
/-- a place that does nothing -/
theorem m_idle (hw : WB β) (hN : 20 ≤ N) {p : Nat} (hp : p < 16) (hq : p ≠ 0 ∧ p ≠ 10 ∧ p ≠ 3 ∧ p ≠ 15 ∧ p ≠ 8) {v : ASt} (hM : MB v β) : ∃ v', f_X7_doesPlace_6 N 95 (nI p) N (nI 0) v = some ((), v') ∧ MB v' β ∧ MK v v' := by
  have h4 := hw.1
  obtain ⟨q0, q1, q2, q3, q4⟩ := hq
  have L : ∀ n c, c ≤ β 0 → β 0 < n + c → f_X7_doesPlace_6 N 95 (nI p) n (nI c) v = some ((), v) := by
    intro n
    induction n with
    | zero => intro c h1 h2; omega
    | succ n ih =>
      intro c h1 h2
      by_cases hc : β 0 ≤ c
      · simp (disch := omega) only [f_X7_doesPlace_6, m_chips, hM 0 (by omega), bnd_s, nLE, hc, if_true]
      · simp (disch := omega) only [f_X7_doesPlace_6, f_X7_doesPlace_136, m_chips, hM 0 (by omega), bnd_s, nLE, hc, if_false, lit, nE, q0, q1, q2, q3, q4, nI_add]
        exact ih (c + 1) (by omega) (by omega)
  exact ⟨v, L N 0 (by omega) (by omega), hM, MK.rf⟩
theorem m_captured (hw : WB β) (hN : 20 ≤ N) {B : Nat → Nat} (hB : WB B) {v : ASt} (hM : MB v B) (hU : UF v (Fb β) (β 2)) (hR : R8 v 102 (NVn β)) {c : Nat} (hc : c < β 0) (hBc : B 0 = β 0) (hb : ∀ f, f < 19 → f ≠ 5 → bc B c f = bc β c f) : f_X7_captured N 95 (nI c) v = some (nI (capt β c), v) := by
  have h4 := hw.1
  have h24 := hw.2.2.1
  have h6 := hw.m6 hc
  have hc2 : c < B 0 := by omega
  have W := hB.2.2.2.2 c hc2
  have KD := m_kind (N := N) hM (show c < 4 by omega) W
  obtain ⟨k1, k2, k3⟩ := kdn_s (β := B) (c := c) W.2.2.2.2.1
  have es : scn B c ↔ scn β c := by unfold scn; rw [hb 3 (by omega) (by omega), hb 2 (by omega) (by omega)]
  have ei : idn B c ↔ idn β c := by unfold idn; rw [hb 3 (by omega) (by omega), hb 1 (by omega) (by omega)]
  rw [es] at k1 k2
  rw [ei] at k2
  have G : ∀ f, f < 19 → f ≠ 5 → f_X7_get N 95 (nI c) (nI f) v = some (nI (bc β c f), v) := fun f hf h5 => by rw [m_getB hM (by omega) hf, hb f hf h5]
  have h7 := (hw.2.2.2.2 c hc).2.2.2.2.2.2.2.1
  have L : ∀ n k, k ≤ bc β c 2 → bc β c 2 < n + k → f_X7_captured_32 N 95 (nI c) n (nI (cp1 β c k)) (nI k) v = some (nI (cp1 β c (bc β c 2)), v) := by
    intro n
    induction n with
    | zero => intro k h1 h2; omega
    | succ n ih =>
      intro k h1 h2
      by_cases hk : bc β c 2 ≤ k
      · have ek : k = bc β c 2 := by omega
        subst ek
        simp (disch := omega) only [f_X7_captured_32, lit, G, bnd_s, nLE, Nat.le_refl, if_true]
      · have hk' : ¬ bc β c 2 ≤ k := hk
        have hk2 : k < bc β c 2 := by omega
        have IH := ih (k + 1) (by omega) (by omega)
        rw [cp1] at IH
        have O1 : f_X7_isOut N 95 (nI c) (nI k) v = some (bI (bc β c (7 + 2 * k) = 1), v) := by
          have := m_outB (N := N) (c := c) (k := k) hM (by omega) (by omega) (by rw [hb _ (by omega) (by omega)]; exact hw.kind hc hk2)
          rw [hb _ (by omega) (by omega)] at this
          exact this
        by_cases q : bc β c (7 + 2 * k) = 1
        · rw [if_pos q] at IH
          have lb := lat_bit (x := bc β c 6) (k := k) (by omega) (by omega)
          have sh : nI (if (bc β c 6).testBit k = true then 1 else 0) <<< (nI k &&& nI 31) = nI ((if (bc β c 6).testBit k = true then 1 else 0) <<< k) := nShl (by omega) (Nat.lt_of_lt_of_le (shl_256 (by split <;> omega) (by omega)) (by decide))
          simp (disch := omega) only [f_X7_captured_32, f_X7_captured_76, lit, G, bnd_s, nLE, hk', if_false, O1, bI0, q, not_true, lb, sh, nOr, lte_s, nI_add]
          exact IH
        · rw [if_neg q] at IH
          have S := m_sees (N := N) (F := Fb β) (m := β 2) (W := NVn β) hN hB h24 hw.fb hM hU hR hc2 (show k < bc B c 2 by rw [hb 2 (by omega) (by omega)]; exact hk2)
          have e : sn 1 (ocs (Fb β) (β 2)) (NVn β) B c k = snb β c k := by
            unfold snb sn Ob
            rw [hb _ (by omega) (by omega)]
          rw [e] at S
          have s1 := snb_1 hw hc hk2
          have sh : nI (snb β c k) <<< (nI k &&& nI 31) = nI (snb β c k <<< k) := nShl (by omega) (Nat.lt_of_lt_of_le (shl_256 s1 (by omega)) (by decide))
          simp (disch := omega) only [f_X7_captured_32, f_X7_captured_76, lit, G, bnd_s, nLE, hk', if_false, O1, bI0, q, not_false_eq_true, if_true, S, sh, nOr, lte_s, nI_add]
          exact IH
  unfold capt
  by_cases q : scn β c
  · have z := k1.mpr q
    rw [if_pos q]
    simp (disch := omega) only [f_X7_captured, KD, bnd_s, lit, nLT, z, if_true]
    exact L N 0 (by omega) (by omega)
  · have z : ¬ kdn B c < 2 := fun z => q (k1.mp z)
    rw [if_neg q]
    by_cases q2 : idn β c
    · have y := k2.mpr ⟨q, q2⟩
      rw [if_pos q2]
      simp (disch := omega) only [f_X7_captured, KD, bnd_s, lit, nLT, y, Nat.lt_irrefl, if_true, if_false, G]
    · have y : ¬ kdn B c = 2 := fun y => q2 (k2.mp y).2
      rw [if_neg q2]
      simp (disch := omega) only [f_X7_captured, KD, bnd_s, lit, nLT, nE, z, y, if_false]
theorem m_capDR (hw : WB β) (hN : 20 ≤ N) {v : ASt} (hM : MB v β) (hU : UF v (Fb β) (β 2)) (hR : R8 v 102 (NVn β)) : ∃ v', f_X7_doesPlace_6 N 95 (nI 3) N (nI 0) v = some ((), v') ∧ MB v' (upF β 5 (capt β) (β 0)) ∧ MK v v' := by
  have h4 := hw.1
  refine m_place (x := capt β) hw hN (fun v => UF v (Fb β) (β 2) ∧ R8 v 102 (NVn β)) (fun v c y h => ⟨⟨by rw [agt_pt_o (by omega)]; exact h.1.1, fun j hj => by rw [agt_pt_o (by omega)]; exact h.1.2 j hj⟩, fun i hi => by rw [agt_pt_o (by omega)]; exact h.2 i hi⟩) (fun n c v hc h hI => ⟨_, ?_, Or.inl rfl⟩) hM ⟨hU, hR⟩
  have hc' : ¬ β 0 ≤ c := by omega
  have CP := m_captured (N := N) hw hN (WB_upF hw (by omega) (capt_b hw) c (by omega)) h hI.1 hI.2 hc (upF_lo (by omega) _) (fun f hf h5 => upF_o (by omega) hf (Or.inl h5))
  have r0 : ¬ (3 : Nat) = 0 := by omega
  have r1 : ¬ (3 : Nat) = 10 := by omega
  simp (disch := omega) only [f_X7_doesPlace_6, f_X7_doesPlace_136, m_chips, h.u0, bnd_s, nLE, hc', if_false, lit, nE, r0, r1, if_true, m_at, CP, ar95_0, ar95_1, ar95_2, ar95_4, ar95_5, ar95_7, ar95_9, ar95_11, ar95_12, ar95_16, ar95_17, al96, al97, al98, al99, al100, al101, al102, al103, al104, al105, al106, chk_in, nCl, lte_s, nI_add]
theorem m_shIR (hw : WB β) (hN : 20 ≤ N) {t : Nat} (ht : t ≤ 1) {v : ASt} (hM : MB v β) : ∃ v', f_X7_shifts N 95 (nI 4) (nI t) v = some (nI (btf β 4 t (β 0)), v') ∧ MB v' (upF β 4 (sfx β 4 t (fun c => bc β c 0)) (β 0)) ∧ MK v v' := by
  have h4 := hw.1
  refine loop_c (β := β) (f := 4) (x := sfx β 4 t (fun c => bc β c 0)) (f_X7_shifts_5 N 95 (nI 4) (nI t)) (fun c => nI (btf β 4 t c)) (fun v B => MB v B) MK (fun _ => MK.rf) (fun _ _ _ => MK.tr) ?_ ?_ N 0 v (by omega) (by omega) hM
  · intro n v h
    simp (disch := omega) only [f_X7_shifts_5, m_chips, h.u0, bnd_s, nLE, Nat.le_refl, if_true]
  · intro n c v hc h
    have hc' : ¬ β 0 ≤ c := by omega
    have W := hw.2.2.2.2 c hc
    have w1 := W.1
    have w2 := W.2.1
    have w4 := W.2.2.2.2.2.1
    have G0 := MB_g (N := N) (c' := c) (f' := 0) h (by omega) (by omega) (by omega) (Or.inl (by omega))
    have G4 := MB_g (N := N) (c' := c) (f' := 4) h (by omega) (by omega) (by omega) (Or.inr (Nat.le_refl _))
    have si := sh_i (a := bc β c 4) (b := btf β 4 t c) (l := bc β c 0) (by omega) (btf_1 ht) (by omega)
    refine ⟨_, ?_, MB_step h, MK.p96⟩
    simp (disch := omega) only [f_X7_shifts_5, f_X7_shifts_35, m_chips, h.u0, bnd_s, nLE, hc', if_false, lit, if_true, G0, G4, m_at, si, ar95_0, ar95_1, ar95_2, ar95_4, ar95_5, ar95_7, ar95_9, ar95_11, ar95_12, ar95_16, ar95_17, al96, al97, al98, al99, al100, al101, al102, al103, al104, al105, al106, chk_in, nCl, lte_s, nI_add, nAnd (bc β c 4) 1, sfx, btf_s]
theorem m_shDR (hw : WB β) (hN : 20 ≤ N) {t : Nat} (ht : t ≤ 1) {v : ASt} (hM : MB v β) : ∃ v', f_X7_shifts N 95 (nI 5) (nI t) v = some (nI (btf β 5 t (β 0)), v') ∧ MB v' (upF β 5 (sfx β 5 t (ln_ β)) (β 0)) ∧ MK v v' := by
  have h4 := hw.1
  have hx : ∀ c, c < β 0 → ((5 : Nat) = 3 ∨ (5 : Nat) = 4 → sfx β 5 t (ln_ β) c < 16) ∧ sfx β 5 t (ln_ β) c < 256 := fun c hc => by
    have := sfx5 hw hc ht
    omega
  refine loop_c (β := β) (f := 5) (x := sfx β 5 t (ln_ β)) (f_X7_shifts_5 N 95 (nI 5) (nI t)) (fun c => nI (btf β 5 t c)) (fun v B => MB v B) MK (fun _ => MK.rf) (fun _ _ _ => MK.tr) ?_ ?_ N 0 v (by omega) (by omega) hM
  · intro n v h
    simp (disch := omega) only [f_X7_shifts_5, m_chips, h.u0, bnd_s, nLE, Nat.le_refl, if_true]
  · intro n c v hc h
    have hc' : ¬ β 0 ≤ c := by omega
    have W := hw.2.2.2.2 c hc
    have w5 := W.2.2.2.2.2.2.1
    have W' := (WB_upF hw (by omega) hx c (by omega)).2.2.2.2 c (by rw [upF_lo (by omega)]; exact hc)
    have D := m_long (N := N) h (show c < 4 by omega) W'
    rw [ln_up] at D
    have lb := ln_b (β := β) (c := c) W.2.2.2.1
    have G5 := MB_g (N := N) (c' := c) (f' := 5) h (by omega) (by omega) (by omega) (Or.inr (Nat.le_refl _))
    have si := sh_i (a := bc β c 5) (b := btf β 5 t c) (l := ln_ β c) (by omega) (btf_1 ht) lb
    have r : ¬ (5 : Nat) = 4 := by omega
    refine ⟨_, ?_, MB_step h, MK.p96⟩
    simp (disch := omega) only [f_X7_shifts_5, f_X7_shifts_35, m_chips, h.u0, bnd_s, nLE, hc', if_false, lit, nE, r, D, G5, m_at, si, ar95_0, ar95_1, ar95_2, ar95_4, ar95_5, ar95_7, ar95_9, ar95_11, ar95_12, ar95_16, ar95_17, al96, al97, al98, al99, al100, al101, al102, al103, al104, al105, al106, chk_in, nCl, lte_s, nI_add, nAnd (bc β c 5) 1, sfx, btf_s]
end TM
