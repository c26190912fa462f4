/-! capture -/
def B1 (W : Nat → Nat) : Prop := ∀ n, n < 8 → W n ≤ 1
theorem sh1_B1 {x : Nat} {W : Nat → Nat} (hx : WF x) (h : B1 W) : B1 (sh1 x W) := by
  intro n hn
  unfold sh1
  by_cases q : 3000 ≤ x
  · rw [if_pos q]
    obtain ⟨q1, q2, -⟩ := WF_34 hx q
    have a := h _ q1
    have b := h _ q2
    try dsimp only
    split
    · split
      · exact Nat.le_trans Nat.and_le_left a
      · have := Nat.or_lt_two_pow (n := 1) (x := W (x / 10 % 10)) (y := W (x % 10)) (by omega) (by omega)
        omega
    · exact h n hn
  · rw [if_neg q]; exact h n hn
theorem st1_B1 {x : Nat} {W : Nat → Nat} (h : B1 W) : B1 (st1 1 x W) := by
  intro n hn
  unfold st1
  split
  · try dsimp only
    split
    · split <;> omega
    · exact h n hn
  · exact h n hn
theorem shs_B1 {F : Nat → Nat} {W : Nat → Nat} : ∀ m, (∀ j, j < m → WF (F j)) → B1 W → B1 (shs F m W)
  | 0, _, h => h
  | m + 1, hF, h => sh1_B1 (hF m (by omega)) (shs_B1 m (fun j hj => hF j (by omega)) h)
theorem sts_B1 {F : Nat → Nat} {W : Nat → Nat} : ∀ m, B1 W → B1 (sts 1 F m W)
  | 0, h => h
  | m + 1, h => st1_B1 (sts_B1 m h)
theorem NVn_B1 {β : Nat → Nat} (h : WB β) : B1 (NVn β) := sts_B1 _ (shs_B1 _ h.fb (fun n _ => by unfold Wn; split <;> omega))
noncomputable def snb (β : Nat → Nat) (c k : Nat) : Nat := sn 1 (Ob β) (NVn β) β c k
theorem snb_1 {β : Nat → Nat} (hw : WB β) {c k : Nat} (hc : c < β 0) (hk : k < bc β c 2) : snb β c k ≤ 1 := by
  unfold snb sn
  split
  · omega
  · exact NVn_B1 hw _ (hw.net hc hk)
noncomputable def cp1 (β : Nat → Nat) (c : Nat) : Nat → Nat
  | 0 => 0
  | k + 1 => cp1 β c k ||| (if bc β c (7 + 2 * k) = 1 then (if (bc β c 6).testBit k = true then 1 else 0) else snb β c k) <<< k
noncomputable def si1 (β : Nat → Nat) (c : Nat) : Nat → Nat
  | 0 => 0
  | k + 1 => if bc β c (7 + 2 * k) = 1 then si1 β c k else si1 β c k ||| snb β c k <<< k
theorem and_shl1 {x n : Nat} : x &&& 1 <<< n = (if x.testBit n = true then 1 else 0) <<< n := by
  apply Nat.eq_of_testBit_eq
  intro i
  rw [Nat.testBit_and, tb_shl1]
  by_cases q : x.testBit n = true
  · rw [if_pos q, tb_shl1]
    by_cases e : i = n
    · subst e; simp [q]
    · simp [e]
  · rw [if_neg q, Nat.zero_shiftLeft, Nat.zero_testBit]
    by_cases e : i = n
    · subst e; simp [q]
    · simp [e]
theorem si_cp {β : Nat → Nat} {c : Nat} : ∀ n, (∀ k, k < n → bc β c (7 + 2 * k) ≤ 1) → si1 β c n ||| (bc β c 6 &&& omk β c n) = cp1 β c n
  | 0, _ => by simp [si1, omk, cp1]
  | n + 1, h => by
    have ih := si_cp n (fun k hk => h k (by omega))
    have hk := h n (by omega)
    rw [si1, cp1, omk, ← ih, Nat.and_or_distrib_left]
    by_cases q : bc β c (7 + 2 * n) = 1
    · rw [if_pos q, if_pos q, q, and_shl1, Nat.or_assoc]
    · have q0 : bc β c (7 + 2 * n) = 0 := by omega
      rw [if_neg q, if_neg q, q0, Nat.zero_shiftLeft, Nat.and_zero, Nat.or_zero, Nat.or_assoc, Nat.or_assoc, Nat.or_comm (snb β c n <<< n)]
theorem si_lt {β : Nat → Nat} (hw : WB β) {c : Nat} (hc : c < β 0) : ∀ n, n ≤ bc β c 2 → si1 β c n < 256
  | 0, _ => by show 0 < 256; decide
  | n + 1, h => by
    have ih := si_lt hw hc n (by omega)
    have h6 := hw.m6 hc
    rw [si1]
    split
    · exact ih
    · exact Nat.or_lt_two_pow (n := 8) ih (shl_256 (snb_1 hw hc (by omega)) (by omega))
theorem cp_lt {β : Nat → Nat} (hw : WB β) {c : Nat} (hc : c < β 0) : ∀ n, n ≤ bc β c 2 → cp1 β c n < 256
  | 0, _ => by show 0 < 256; decide
  | n + 1, h => by
    have ih := cp_lt hw hc n (by omega)
    have h6 := hw.m6 hc
    rw [cp1]
    refine Nat.or_lt_two_pow (n := 8) ih (shl_256 ?_ (by omega))
    split
    · split <;> omega
    · exact snb_1 hw hc (by omega)
noncomputable def capt (β : Nat → Nat) (c : Nat) : Nat := @ite Nat (scn β c) (Classical.propDecidable _) (cp1 β c (bc β c 2)) (@ite Nat (idn β c) (Classical.propDecidable _) (bc β c 1) 0)
theorem capt_b {β : Nat → Nat} (hw : WB β) : ∀ c, c < β 0 → ((5 : Nat) = 3 ∨ (5 : Nat) = 4 → capt β c < 16) ∧ capt β c < 256 := fun c hc => by
  refine ⟨fun h => by omega, ?_⟩
  unfold capt
  split
  · exact cp_lt hw hc _ (Nat.le_refl _)
  · split
    · rename_i h; exact h.2
    · omega
/-- what is known of the nets while registers change -/
def NF (u : ASt) (β : Nat → Nat) : Prop := R8 u 79 (NVn β) ∧ (∀ c, c < 4 → agt u 80 c = nI (Ob β c)) ∧ agt u 78 4 = nI 1
section CAP
variable {N : Nat} {β : Nat → Nat}
theorem k_isOut {B : Nat → Nat} {u : ASt} {c k o a : Nat} (h : CC u o a B c) (h6 : bc B c 2 ≤ 6) (hk : k < bc B c 2) (hq : ∀ j, j < bc B c 2 → bc B c (7 + 2 * j) ≤ 1) : f_X1_isOutput N o (nI k) u = some (bI (bc B c (7 + 2 * k) = 1), u) := by
  have g7 := h.2.2.2.2.2.2.2.1
  have ol := omk_lt (β := B) (c := c) _ h6 hq
  have mm : f_X6_isMember N (nI (omk B c (bc B c 2))) (nI k) u = some (bI ((omk B c (bc B c 2)).testBit k = true), u) := k_isMember (by omega) (by omega)
  have e : (omk B c (bc B c 2)).testBit k = true ↔ bc B c (7 + 2 * k) = 1 := by
    rw [omk_tb _ hq]
    simp [hk]
  rw [bIc e] at mm
  simp (disch := omega) only [f_X1_isOutput, lit, g7, mm, bnd_s, chk_b]
theorem k_inputs (hw : WB β) {B : Nat → Nat} (hB : WB B) {u : ASt} (hC : CB u 0 B) (hF : NF u β) {c : Nat} (hc : c < β 0) (hBc : B 0 = β 0) (hb : ∀ f, f < 19 → f ≠ 5 → bc B c f = bc β c f) : ∀ n k, k ≤ bc β c 2 → bc β c 2 < n + k → f_X3_seenByInputs_15 N 78 (nI c) n (3 + c) (nI (si1 β c k)) (nI k) u = some (nI (si1 β c (bc β c 2)), u) := by
  have h4 := hw.1
  have h6 := hw.m6 hc
  have hc2 : c < B 0 := by omega
  have hCC := hC.cc hc2
  have g6 := hCC.2.2.2.2.2.2.1
  rw [hb 2 (by omega) (by omega)] at g6
  have h62 : bc B c 2 = bc β c 2 := hb 2 (by omega) (by omega)
  intro n
  induction n with
  | zero => intro k h1 h2; omega
  | succ n ih =>
    intro k h1 h2
    by_cases hk : bc β c 2 ≤ k
    · have ek : k = bc β c 2 := by omega
      subst ek
      simp (disch := omega) only [f_X3_seenByInputs_15, lit, g6, nLE, Nat.le_refl, if_true]
    · have hk' : ¬ bc β c 2 ≤ k := hk
      have hk2 : k < bc β c 2 := by omega
      have IH := ih (k + 1) (by omega) (by omega)
      rw [si1] at IH
      have O1 := k_isOut (N := N) (k := k) hCC (by omega) (by omega) (fun j hj => hB.kind hc2 hj)
      rw [hb _ (by omega) (by omega)] at O1
      by_cases q : bc β c (7 + 2 * k) = 1
      · rw [if_pos q] at IH
        simp (disch := omega) only [f_X3_seenByInputs_15, f_X3_seenByInputs_46, lit, g6, nLE, hk', if_false, O1, bnd_s, bI0, q, not_true, nI_add]
        exact IH
      · rw [if_neg q] at IH
        have S := k_seen (N := N) (e := 78) (A := 1) (O := Ob β) (W := NVn β) (Or.inl rfl) hB hC hF.1 hF.2.1 (fun c => ocs_lt _ hw.fb c) hF.2.2 hc2 (show k < bc B c 2 by omega)
        have e : sn 1 (Ob β) (NVn β) B c k = snb β c k := by
          unfold snb sn
          rw [hb _ (by omega) (by omega)]
        rw [e] at S
        have s1 := snb_1 hw hc hk2
        have sh : nI (snb β c k) <<< (nI k &&& nI 31) = nI (snb β c k <<< k) := nShl (by omega) (Nat.lt_of_lt_of_le (shl_256 s1 (by omega)) (by decide))
        simp (disch := omega) only [f_X3_seenByInputs_15, f_X3_seenByInputs_46, lit, g6, nLE, hk', if_false, O1, bnd_s, bI0, q, not_false_eq_true, if_true, S, sh, nOr, lte_s, nI_add]
        exact IH
theorem k_capDR (hw : WB β) (hN : 20 ≤ N) {u : ASt} (hC : CB u 0 β) : ∃ u', f_X0_captureData N 0 78 u = some ((), u') ∧ CB u' 0 (upF β 5 (capt β) (β 0)) ∧ CK u u' := by
  have h4 := hw.1
  have hx := capt_b hw
  obtain ⟨u1, s1, s2, s3, s4, s5, -⟩ := k_settle hN hw hC
  have C1 := hC.nk hw (Or.inl rfl) s2
  have K1 : CK u u1 := (NK.ck (Or.inl rfl) s2).k
  have LP := loop_c (β := β) (f := 5) (x := capt β) (fun n (_ : Unit) => f_X0_captureData_6 N 0 78 n) (fun _ => ()) (fun u B => CB u 0 B ∧ NF u β) CK (fun _ => CK.rf) (fun _ _ _ => CK.tr) ?_ ?_ N 0 u1 (by omega) (by omega) ⟨C1, s3, s4, s5⟩
  · obtain ⟨u2, e1, e2, e3⟩ := LP
    refine ⟨u2, ?_, e2.1, K1.tr e3⟩
    simp (disch := omega) only [f_X0_captureData, s1, bnd_s]
    exact e1
  · intro n u h
    have a0 := h.1.u0
    rw [upF_lo (by omega)] at a0
    simp (disch := omega) only [f_X0_captureData_6, a0, nLE, Nat.le_refl, if_true]
  · intro n c u hc h
    obtain ⟨h, hF⟩ := h
    have a0 := h.u0
    rw [upF_lo (by omega)] at a0
    have hCC := h.cc (c := c) (by rw [upF_lo (by omega)]; exact hc)
    have hc' : ¬ β 0 ≤ c := by omega
    have g1 := hCC.2.1
    have g5 := hCC.2.2.2.2.2.1
    have g7 := hCC.2.2.2.2.2.2.2.1
    have WBc := WB_upF hw (by omega) hx c (by omega)
    have W := WBc.2.2.2.2 c (by rw [upF_lo (by omega)]; exact hc)
    have S := k_scan (N := N) hCC W.2.2.2.2.1 W.2.2.2.1
    have D := k_ident (N := N) hCC W.2.2.2.2.1 W.2.2.1
    rw [bIc (scn_up (by omega))] at S
    rw [bIc (idn_up (by omega))] at D
    rw [upF_o (by omega) (by omega) (Or.inl (by omega))] at g1 g5
    have h6 := hw.m6 hc
    rw [upF_o (f' := 2) (by omega) (by omega) (Or.inl (by omega)), omk_congr (β := β) _ (fun k hk => upF_o (by omega) (by omega) (Or.inl (by omega)))] at g7
    have NFs : NF (apt u (3 + c) 4 (nI (capt β c))) β := ⟨fun i hi => by rw [agt_pt_o (by omega)]; exact hF.1 i hi, fun c' hc' => by rw [agt_pt_o (by omega)]; exact hF.2.1 c' hc', by rw [agt_pt_o (by omega)]; exact hF.2.2⟩
    refine ⟨apt u (3 + c) 4 (nI (capt β c)), ?_, ⟨CB_step (kf := 4) hw (by omega) hx hc h, NFs⟩, CK.pc (by omega)⟩
    by_cases q : scn β c
    · have ex : capt β c = si1 β c (bc β c 2) ||| (bc β c 6 &&& omk β c (bc β c 2)) := by
        unfold capt; rw [if_pos q, si_cp _ (fun k hk => hw.kind hc hk)]
      have I1 := k_inputs (N := N) hw WBc h hF hc (upF_lo (by omega) _) (fun f hf h5 => upF_o (by omega) hf (Or.inl h5)) N 0 (by omega) (by omega)
      have I2 : f_X3_seenByInputs N 78 (nI c) u = some (nI (si1 β c (bc β c 2)), u) := by
        simp (disch := omega) only [f_X3_seenByInputs, lit, ar78_0, ar_b0, al_1, chk_in, nCl, ar_1]
        exact I1
      simp (disch := omega) only [f_X0_captureData_6, f_X0_captureData_69, a0, nLE, hc', if_false, lit, ar_b0, al_1, chk_in, nCl, ar_1, S, bnd_s, bI0, q, not_true, I2, g5, g7, nAnd, nOr, lte_s, nI_add, ex]
    · by_cases q2 : idn β c
      · have ex : capt β c = bc β c 1 := by unfold capt; rw [if_neg q, if_pos q2]
        simp (disch := omega) only [f_X0_captureData_6, f_X0_captureData_66, f_X0_captureData_69, a0, nLE, hc', if_false, lit, ar_b0, al_1, chk_in, nCl, ar_1, S, D, bnd_s, bI0, q, q2, not_true, not_false_eq_true, if_true, g1, lte_s, nI_add, ex]
      · have ex : capt β c = 0 := by unfold capt; rw [if_neg q, if_neg q2]
        simp (disch := omega) only [f_X0_captureData_6, f_X0_captureData_66, f_X0_captureData_69, a0, nLE, hc', if_false, lit, ar_b0, al_1, chk_in, nCl, ar_1, S, D, bnd_s, bI0, q, q2, not_false_eq_true, if_true, lte_s, nI_add, ex]
end CAP
