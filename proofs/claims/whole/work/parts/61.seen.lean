/-! answers, and what they show -/
section SEEN
variable {N : Nat} {β : Nat → Nat}
theorem k_prep_loop {t : Nat} (ht : t < 2) (hN : 20 ≤ N) (hw : WB β) : ∀ n j u, j ≤ 8 → 8 < n + j → (∀ i, i < j → agt u 82 i = nI (stim t (sO β) i)) → ∃ u', f_X4_prepare_24 N 81 (nI t) n (nI (sO β)) (nI j) u = some ((), u') ∧ R8 u' 82 (stim t (sO β)) ∧ ∀ a, a ≠ 82 → u'.1 a = u.1 a := by
  intro n
  induction n with
  | zero => intro j u h1 h2; omega
  | succ n ih =>
    intro j u h1 h2 hI
    by_cases hj : 8 ≤ j
    · have ej : j = 8 := by omega
      subst ej
      refine ⟨u, ?_, hI, fun a _ => rfl⟩
      simp (disch := omega) only [f_X4_prepare_24, lit, nLE, Nat.le_refl, if_true]
    · obtain ⟨u', e1, e2, e3⟩ := ih (j + 1) (apt u 82 j (nI (stim t (sO β) j))) (by omega) (by omega) (fun i hi => by
        rw [agt_pt]
        by_cases q : i = j
        · subst q; simp
        · rw [if_neg (by omega)]; exact hI i (by omega))
      refine ⟨u', ?_, e2, fun a ha => (e3 a ha).trans (apt_ne ha)⟩
      simp (disch := omega) only [f_X4_prepare_24, lit, nLE, hj, if_false, k_stim hN ht (sO_lt hw) (show j < 8 by omega), bnd_s, ar81_2, al82, chk_in, nCl, lte_s, nI_add]
      exact e1
theorem k_prep {t : Nat} (ht : t < 2) (hN : 20 ≤ N) (hw : WB β) {u : ASt} (hC : CB u 0 β) : ∃ u', f_X4_prepare N 81 (nI t) u = some ((), u') ∧ R8 u' 82 (stim t (sO β)) ∧ agt u' 81 7 = nI (At t β) ∧ ∀ a, a ≠ 81 → a ≠ 82 → u'.1 a = u.1 a := by
  have h1 := cb_b (s := sO β)
  have hP := Pn_b (t := t) (s := sO β) ht
  obtain ⟨u', e1, e2, e3⟩ := k_prep_loop (N := N) ht hN hw N 0 (apt u 81 7 (nI (At t β))) (by omega) (by omega) (fun i hi => by omega)
  refine ⟨u', ?_, e2, by rw [agt_e (e3 81 (by omega)), agt_pt_s], fun a h1 h2 => (e3 a h2).trans (apt_ne h1)⟩
  have ea : (nI 1 <<< (nI (cb (sO β) * (1 + t)) &&& nI 31)) - nI 1 = nI (At t β) := shl1_m (Pn t (sO β)) (by omega)
  simp (disch := omega) only [f_X4_prepare, ar81_0, hC.u6, lte_s, k_cb hN (sO_lt hw), bnd_s, lit, cbt, ea]
  exact e1
theorem k_present {t : Nat} (ht : t < 2) (hN : 20 ≤ N) (hw : WB β) {c k : Nat} (hc : c < β 0) (hk : k < bc β c 2) {u : ASt} (hC : CB u 0 β) : ∃ u', f_X4_presentAnswer N 81 (nI t) (nI c) (nI k) u = some (nI (wrd t β (Fb β) (β 2) c k), u') ∧ CK0 u u' := by
  obtain ⟨u1, a1, a2, a3, a4⟩ := k_prep (N := N) ht hN hw hC
  have K1 : CK0 u u1 := fun a ha => a4 a (by omega) (by omega)
  have C1 := hC.ck0 hw K1
  obtain ⟨u2, b1, b2, b3, b4, b5⟩ := k_test (N := N) (o1 := 2) (m := β 2) (F := Fb β) ht hN hw (Or.inl (by omega)) (by rw [al_2]; exact hw.2.2.1) hw.2.2.1 hw.fb C1 C1.fl a2
  have C2 := C1.nk hw (Or.inr rfl) b2
  have s := k_seen (N := N) (e := 86) (Or.inr rfl) hw C2 b3 b4 (fun c => ocs_lt _ hw.fb c) b5 hc hk
  refine ⟨u2, ?_, K1.tr (NK.ck (Or.inr rfl) b2)⟩
  simp only [f_X4_presentAnswer, a1, bnd_s, ar81_1, ar81_2, ar81_0, ar_b2, a3, C1.u3, b1, s]
  rfl
theorem sim_answer (hN : 1000 ≤ N) (p c k : Int32) : Sm (f_X6_answer N 77 p c k) (f_X7_answer N 95 p c k) := by
  intro u v h
  have h0 := h
  obtain ⟨β, m, mp, hs, nn, tx, R⟩ := h
  have hw := R.1
  have hC := R.2.2.2.2.2.2.1
  have hM := R.2.2.2.2.2.2.2.2.2.1
  have h4 := hw.1
  by_cases q : p = nI 0 ∨ p = nI 1
  · obtain ⟨t, ht, rfl⟩ := of_bit q
    by_cases q1 : nI 0 ≤ c ∧ c < nI (β 0)
    · obtain ⟨j, hj, rfl⟩ := of_rng (n := β 0) (by omega) q1
      have h6 := hw.m6 hj
      by_cases q2 : nI 0 ≤ k ∧ k < nI (bc β j 2)
      · obtain ⟨i, hi, rfl⟩ := of_rng (n := bc β j 2) (by omega) q2
        have o1 : f_X1_isOutput N (3 + j) (nI i) u = some (bI (bc β j (7 + 2 * i) = 1), u) := k_isOut (hC.cc hj) h6 hi (fun a ha => hw.kind hj ha)
        have o2 : f_X7_isOut N 95 (nI j) (nI i) v = some (bI (bc β j (7 + 2 * i) = 1), v) := m_outB hM (by omega) (by omega) (hw.kind hj hi)
        by_cases q3 : bc β j (7 + 2 * i) = 1
        · refine bad_sim (N := N) h0 ?_ ?_
          · simp (disch := omega) only [f_X6_answer, f_X6_answer_35, k_isBit, lit, ar77_0, bnd_s, bI0, q, not_true, if_false, k_hasCell hC h4 hj, q2, and_self, ar_b0, al_1, chk_in, nCl, ar_1, o1, q3]
          · simp (disch := omega) only [f_X7_answer, f_X7_answer_25, m_isBit, lit, bnd_s, bI0, q, not_true, if_false, m_isCell hM h4 hj h6, q2, and_self, o2, q3]
        · obtain ⟨u', e1, e2⟩ := k_present (N := N) ht (by omega) hw hj hi hC
          obtain ⟨v', g1, g2, g3⟩ := m_answersNow (N := N) ht (by omega) hw hM
          refine ⟨nI (wrd t β (Fb β) (β 2) j i), u', v', ?_, ?_, _, _, _, _, _, _, R.ck0 e2 g2⟩
          · simp (disch := omega) only [f_X6_answer, f_X6_answer_35, k_isBit, lit, ar77_0, ar77_2, bnd_s, bI0, q, not_true, if_false, k_hasCell hC h4 hj, q2, and_self, ar_b0, al_1, chk_in, nCl, ar_1, o1, q3, not_false_eq_true, if_true, e1]
          · have r := g3 (6 * j + i) (by omega)
            rw [ro_ck hw hj hi, if_pos (by have := hw.kind hj hi; omega)] at r
            simp (disch := omega) only [f_X7_answer, f_X7_answer_25, m_isBit, lit, bnd_s, bI0, q, not_true, if_false, m_isCell hM h4 hj h6, q2, and_self, o2, q3, not_false_eq_true, if_true, g1, pk_mul, nI_add, ar95_11, al103, chk_in, nCl, r]
      · refine bad_sim (N := N) h0 ?_ ?_
        · simp (disch := omega) only [f_X6_answer, f_X6_answer_35, k_isBit, lit, ar77_0, bnd_s, bI0, q, not_true, if_false, k_hasCell hC h4 hj, q2, not_false_eq_true, if_true]
        · simp (disch := omega) only [f_X7_answer, f_X7_answer_25, m_isBit, lit, bnd_s, bI0, q, not_true, if_false, m_isCell hM h4 hj h6, q2, not_false_eq_true, if_true]
    · refine bad_sim (N := N) h0 ?_ ?_
      · simp (disch := omega) only [f_X6_answer, f_X6_answer_35, k_isBit, lit, ar77_0, bnd_s, bI0, q, not_true, if_false, k_hasCell_no hC q1, if_true]
      · simp (disch := omega) only [f_X7_answer, f_X7_answer_25, m_isBit, lit, bnd_s, bI0, q, not_true, if_false, m_isCell_no hM h4 q1, if_true]
  · refine bad_sim (N := N) h0 ?_ ?_
    · simp only [f_X6_answer, f_X6_answer_35, k_isBit, lit, bnd_s, bI0, q, not_false_eq_true, if_true]
    · simp only [f_X7_answer, f_X7_answer_25, m_isBit, lit, bnd_s, bI0, q, not_false_eq_true, if_true]
/-! all answers are noted, then held against those of one fault -/
def TK (u u' : ASt) : Prop := ∀ a, a ≠ 83 → a ≠ 84 → ¬ (86 ≤ a ∧ a ≤ 88) → u'.1 a = u.1 a
theorem TK.tr {a b c : ASt} (h : TK a b) (g : TK b c) : TK a c := fun q h1 h2 h3 => (g q h1 h2 h3).trans (h q h1 h2 h3)
theorem TK.ck0 {a b : ASt} (h : TK a b) : CK0 a b := fun q h1 => h q (by omega) (by omega) (by omega)
theorem TK.nk {a b : ASt} (h : NK 86 a b) : TK a b := fun q h1 h2 h3 => h q (by omega) (by omega) (by omega)
noncomputable def wN (t : Nat) (β : Nat → Nat) : Nat → Nat → Nat := wrd t β (Fb β) (β 2)
theorem k_note_in {t c : Nat} (hw : WB β) (hc : c < β 0) {k31 : Int32 → ASt → Option (Unit × ASt)} (P : ASt → Prop) (hP : ∀ u k, P u → k < bc β c 2 → f_X3_seenBy N 86 (nI c) (nI k) u = some (nI (wN t β c k), u)) (hK : ∀ u j x, P u → P (apt u 83 j x)) : ∀ n k u, k ≤ bc β c 2 → bc β c 2 < n + k → CB u 0 β → P u → (∀ i, i < k → agt u 83 (6 * c + i) = nI (wN t β c i)) → ∃ u', f_X4_noteAnswers_44 N 81 k31 n (nI c) (nI k) u = k31 (nI (c + 1)) u' ∧ (∀ a, a ≠ 83 → u'.1 a = u.1 a) ∧ P u' ∧ (∀ i, i < bc β c 2 → agt u' 83 (6 * c + i) = nI (wN t β c i)) ∧ ∀ j, j < 6 * c → agt u' 83 j = agt u 83 j := by
  have h4 := hw.1
  have h6 := hw.m6 hc
  intro n
  induction n with
  | zero => intro k u h1 h2; omega
  | succ n ih =>
    intro k u h1 h2 hC hp hI
    have g6 := (hC.cc hc).2.2.2.2.2.2.1
    by_cases hk : bc β c 2 ≤ k
    · have ek : k = bc β c 2 := by omega
      subst ek
      refine ⟨u, ?_, fun a _ => rfl, hp, hI, fun j _ => rfl⟩
      simp (disch := omega) only [f_X4_noteAnswers_44, lit, ar81_0, ar_b0, al_1, chk_in, nCl, ar_1, g6, nLE, Nat.le_refl, if_true, nI_add]
    · obtain ⟨u', e1, e2, e3, e4, e5⟩ := ih (k + 1) (apt u 83 (6 * c + k) (nI (wN t β c k))) (by omega) (by omega) (hC.ck0 hw (fun a ha => apt_ne (by omega))) (hK _ _ _ hp) (fun i hi => by
        rw [agt_pt]
        by_cases q : i = k
        · subst q; simp
        · rw [if_neg (by omega)]; exact hI i (by omega))
      refine ⟨u', ?_, fun a ha => (e2 a ha).trans (apt_ne ha), e3, e4, fun j hj => (e5 j hj).trans (agt_pt_k (by omega))⟩
      simp (disch := omega) only [f_X4_noteAnswers_44, lit, ar81_0, ar81_1, ar81_3, al83, ar_b0, al_1, chk_in, nCl, ar_1, g6, nLE, hk, if_false, hP u k hp (by omega), bnd_s, pk_mul, nI_add, show c * 6 + k = 6 * c + k by omega, lte_s]
      exact e1
theorem k_note_out {t : Nat} (hw : WB β) (hN : 20 ≤ N) (P : ASt → Prop) (hP : ∀ u c k, P u → c < β 0 → k < bc β c 2 → f_X3_seenBy N 86 (nI c) (nI k) u = some (nI (wN t β c k), u)) (hK : ∀ u j x, P u → P (apt u 83 j x)) : ∀ n c u, c ≤ β 0 → β 0 < n + c → CB u 0 β → P u → (∀ c', c' < c → ∀ i, i < bc β c' 2 → agt u 83 (6 * c' + i) = nI (wN t β c' i)) → ∃ u', f_X4_noteAnswers_31 N 81 n (nI c) u = some ((), u') ∧ (∀ a, a ≠ 83 → u'.1 a = u.1 a) ∧ (∀ c', c' < β 0 → ∀ i, i < bc β c' 2 → agt u' 83 (6 * c' + i) = nI (wN t β c' i)) := by
  have h4 := hw.1
  intro n
  induction n with
  | zero => intro k u h1 h2; omega
  | succ n ih =>
    intro c u h1 h2 hC hp hI
    by_cases hc : β 0 ≤ c
    · have ec : c = β 0 := by omega
      subst ec
      refine ⟨u, ?_, fun a _ => rfl, hI⟩
      simp (disch := omega) only [f_X4_noteAnswers_31, ar81_0, hC.u0, nLE, Nat.le_refl, if_true]
    · have hc2 : c < β 0 := by omega
      obtain ⟨u1, a1, a2, a3, a4, a5⟩ := k_note_in (N := N) (k31 := f_X4_noteAnswers_31 N 81 n) hw hc2 P (fun u k h1 h2 => hP u c k h1 hc2 h2) hK N 0 u (by omega) (by have := hw.m6 hc2; omega) hC hp (fun i hi => by omega)
      obtain ⟨u', e1, e2, e3⟩ := ih (c + 1) u1 (by omega) (by omega) (hC.ck0 hw (fun a ha => a2 a (by omega))) a3 (fun c' hc' i hi => by
        by_cases e : c' = c
        · subst e; exact a4 i hi
        · have := hw.m6 (show c' < β 0 by omega)
          rw [a5 _ (by omega)]; exact hI c' (by omega) i hi)
      refine ⟨u', ?_, fun a ha => (e2 a ha).trans (a2 a ha), e3⟩
      simp (disch := omega) only [f_X4_noteAnswers_31, ar81_0, hC.u0, nLE, hc, if_false]
      rw [show (0 : Int32) = nI 0 from rfl, a1]
      exact e1
/-- settled for a test with these faults -/
def TS (t : Nat) (β F : Nat → Nat) (m : Nat) (u : ASt) : Prop := CB u 0 β ∧ R8 u 87 (TW t β F m) ∧ (∀ c, c < 4 → agt u 88 c = nI (ocs F m c)) ∧ agt u 86 4 = nI (At t β)
theorem TS.seen {t m : Nat} {F : Nat → Nat} (hw : WB β) (hF : ∀ j, j < m → WF (F j)) {u : ASt} (h : TS t β F m u) {c k : Nat} (hc : c < β 0) (hk : k < bc β c 2) : f_X3_seenBy N 86 (nI c) (nI k) u = some (nI (wrd t β F m c k), u) :=
  k_seen (N := N) (e := 86) (Or.inr rfl) hw h.1 h.2.1 h.2.2.1 (fun c => ocs_lt _ hF c) h.2.2.2 hc hk
theorem TS.p83 {t m j : Nat} {F : Nat → Nat} {x : Int32} (hw : WB β) {u : ASt} (h : TS t β F m u) : TS t β F m (apt u 83 j x) :=
  ⟨h.1.ck0 hw (fun a ha => apt_ne (by omega)), fun i hi => by rw [agt_pt_o (by omega)]; exact h.2.1 i hi, fun c hc => by rw [agt_pt_o (by omega)]; exact h.2.2.1 c hc, by rw [agt_pt_o (by omega)]; exact h.2.2.2⟩
/-- ready: the stimuli lie there, and the answers of the board as it is -/
def RY (t : Nat) (β : Nat → Nat) (u : ASt) : Prop := CB u 0 β ∧ R8 u 82 (stim t (sO β)) ∧ agt u 81 7 = nI (At t β) ∧ ∀ c, c < β 0 → ∀ i, i < bc β c 2 → agt u 83 (6 * c + i) = nI (wN t β c i)
theorem k_note {t : Nat} (ht : t < 2) (hN : 20 ≤ N) (hw : WB β) {u : ASt} (hC : CB u 0 β) (hS : R8 u 82 (stim t (sO β))) (h7 : agt u 81 7 = nI (At t β)) : ∃ u', f_X4_noteAnswers N 81 u = some ((), u') ∧ RY t β u' ∧ TK u u' := by
  have h4 := hw.1
  obtain ⟨u2, b1, b2, b3, b4, b5⟩ := k_test (N := N) (o1 := 2) (m := β 2) (F := Fb β) ht hN hw (Or.inl (by omega)) (by rw [al_2]; exact hw.2.2.1) hw.2.2.1 hw.fb hC hC.fl hS
  have C2 := hC.nk hw (Or.inr rfl) b2
  obtain ⟨u', e1, e2, e3⟩ := k_note_out (N := N) (t := t) hw hN (TS t β (Fb β) (β 2)) (fun u c k h1 h2 h3 => h1.seen hw hw.fb h2 h3) (fun u j x h => h.p83 hw) N 0 u2 (by omega) (by omega) C2 ⟨C2, b3, b4, b5⟩ (fun c' hc' => by omega)
  have K : TK u u' := (TK.nk b2).tr (fun a h1 h2 h3 => e2 a h1)
  refine ⟨u', ?_, ⟨hC.ck0 hw K.ck0, fun i hi => by rw [agt_e (K 82 (by omega) (by omega) (by omega))]; exact hS i hi, by rw [agt_e (K 81 (by omega) (by omega) (by omega))]; exact h7, e3⟩, K⟩
  simp only [f_X4_noteAnswers, ar81_1, ar81_2, ar81_0, ar_b2, h7, hC.u3, b1, bnd_s]
  exact e1
def Fx (x : Nat) : Nat → Nat := fun _ => x
def mx (x : Nat) : Nat := if x = 0 then 0 else 1
/-- fault x alone gives the answers of the board -/
def Agr (t : Nat) (β : Nat → Nat) (x : Nat) : Prop := ∀ c, c < β 0 → ∀ k, k < bc β c 2 → bc β c (7 + 2 * k) = 0 → wrd t β (Fx x) (mx x) c k = wN t β c k
theorem wrd_256 {t m : Nat} {F : Nat → Nat} (ht : t < 2) (hw : WB β) (hF : ∀ j, j < m → WF (F j)) {c k : Nat} (hc : c < β 0) (hk : k < bc β c 2) : wrd t β F m c k < 2147483648 := by
  have h1 := wrd_lt (t := t) ht hw hF hc hk
  have h2 := Nat.pow_le_pow_right (n := 2) (by omega) (Pn_b (t := t) (s := sO β) ht).2
  omega
theorem k_exp_in {t x c : Nat} (ht : t < 2) (hw : WB β) (hF : ∀ j, j < mx x → WF (Fx x j)) (hc : c < β 0) {p : Int32} {k37 : Int32 → ASt → Option (Int32 × ASt)} {u : ASt} (hT : TS t β (Fx x) (mx x) u) (hA : ∀ c, c < β 0 → ∀ i, i < bc β c 2 → agt u 83 (6 * c + i) = nI (wN t β c i)) : ∀ n k, k ≤ bc β c 2 → bc β c 2 < n + k → f_X4_explains_61 N 81 p k37 n (nI c) (3 + c) (nI k) u = @ite (Option (Int32 × ASt)) (∀ i, k ≤ i → i < bc β c 2 → bc β c (7 + 2 * i) = 0 → wrd t β (Fx x) (mx x) c i = wN t β c i) (Classical.propDecidable _) (k37 (nI (c + 1)) u) (some (nI 0, u)) := by
  have h4 := hw.1
  have h6 := hw.m6 hc
  have g6 := (hT.1.cc hc).2.2.2.2.2.2.1
  intro n
  induction n with
  | zero => intro k h1 h2; omega
  | succ n ih =>
    intro k h1 h2
    by_cases hk : bc β c 2 ≤ k
    · rw [if_pos (fun i h3 h4 => by omega)]
      simp (disch := omega) only [f_X4_explains_61, lit, g6, nLE, hk, if_true, nI_add]
    · have hk2 : k < bc β c 2 := by omega
      have o1 : f_X1_isOutput N (3 + c) (nI k) u = some (bI (bc β c (7 + 2 * k) = 1), u) := k_isOut (hT.1.cc hc) h6 hk2 (fun a ha => hw.kind hc ha)
      have hx := hw.kind hc hk2
      have IH := ih (k + 1) (by omega) (by omega)
      have a := hA c hc k hk2
      have w1 := wrd_256 (t := t) ht hw hF hc hk2
      have w2 : wN t β c k < 2147483648 := wrd_256 (t := t) ht hw hw.fb hc hk2
      by_cases q : bc β c (7 + 2 * k) = 1
      · have e : (∀ i, k ≤ i → i < bc β c 2 → bc β c (7 + 2 * i) = 0 → wrd t β (Fx x) (mx x) c i = wN t β c i) ↔ (∀ i, k + 1 ≤ i → i < bc β c 2 → bc β c (7 + 2 * i) = 0 → wrd t β (Fx x) (mx x) c i = wN t β c i) := by
          constructor
          · intro h i h1; exact h i (by omega)
          · intro h i h1 h2 h3
            by_cases z : i = k
            · subst z; omega
            · exact h i (by omega) h2 h3
        rw [propext e, ← IH]
        simp (disch := omega) only [f_X4_explains_61, f_X4_explains_106, lit, g6, nLE, hk, if_false, o1, bnd_s, bI0, q, not_true, nI_add]
      · by_cases q2 : wrd t β (Fx x) (mx x) c k = wN t β c k
        · have e : (∀ i, k ≤ i → i < bc β c 2 → bc β c (7 + 2 * i) = 0 → wrd t β (Fx x) (mx x) c i = wN t β c i) ↔ (∀ i, k + 1 ≤ i → i < bc β c 2 → bc β c (7 + 2 * i) = 0 → wrd t β (Fx x) (mx x) c i = wN t β c i) := by
            constructor
            · intro h i h1; exact h i (by omega)
            · intro h i h1 h2 h3
              by_cases z : i = k
              · subst z; exact q2
              · exact h i (by omega) h2 h3
          rw [propext e, ← IH]
          simp (disch := omega) only [f_X4_explains_61, f_X4_explains_106, lit, g6, nLE, hk, if_false, o1, bnd_s, bI0, q, not_false_eq_true, if_true, ar81_1, ar81_3, al83, hT.seen hw hF hc hk2, pk_mul, nI_add, show c * 6 + k = 6 * c + k by omega, chk_in, nCl, a, q2]
        · rw [if_neg (fun h => q2 (h k (by omega) hk2 (by omega)))]
          simp (disch := omega) only [f_X4_explains_61, f_X4_explains_106, lit, g6, nLE, hk, if_false, o1, bnd_s, bI0, q, not_false_eq_true, if_true, ar81_1, ar81_3, al83, hT.seen hw hF hc hk2, pk_mul, nI_add, show c * 6 + k = 6 * c + k by omega, chk_in, nCl, a, nE, q2]
theorem k_exp_out {t x : Nat} (ht : t < 2) (hN : 20 ≤ N) (hw : WB β) (hF : ∀ j, j < mx x → WF (Fx x j)) {p : Int32} {u : ASt} (hT : TS t β (Fx x) (mx x) u) (hA : ∀ c, c < β 0 → ∀ i, i < bc β c 2 → agt u 83 (6 * c + i) = nI (wN t β c i)) : ∀ n c, c ≤ β 0 → β 0 < n + c → f_X4_explains_37 N 81 p n (nI c) u = some (bI (∀ c', c ≤ c' → c' < β 0 → ∀ k, k < bc β c' 2 → bc β c' (7 + 2 * k) = 0 → wrd t β (Fx x) (mx x) c' k = wN t β c' k), u) := by
  have h4 := hw.1
  have hC := hT.1
  intro n
  induction n with
  | zero => intro k h1 h2; omega
  | succ n ih =>
    intro c h1 h2
    by_cases hc : β 0 ≤ c
    · rw [bIt (fun c' h3 h4 => by omega)]
      simp (disch := omega) only [f_X4_explains_37, lit, ar81_0, hC.u0, nLE, hc, if_true]
    · have hc2 : c < β 0 := by omega
      have IH := ih (c + 1) (by omega) (by omega)
      have IN := k_exp_in (N := N) (p := p) (k37 := f_X4_explains_37 N 81 p n) ht hw hF hc2 hT hA N 0 (by omega) (by have := hw.m6 hc2; omega)
      simp (disch := omega) only [f_X4_explains_37, lit, ar81_0, hC.u0, nLE, hc, if_false, ar_b0, al_1, chk_in, nCl, ar_1]
      rw [IN]
      by_cases q : ∀ i, 0 ≤ i → i < bc β c 2 → bc β c (7 + 2 * i) = 0 → wrd t β (Fx x) (mx x) c i = wN t β c i
      · rw [if_pos q, IH]
        refine congrArg (fun z => some (z, u)) (bIc ⟨fun h c' h1 h2 => ?_, fun h c' h1 => h c' (by omega)⟩)
        by_cases z : c' = c
        · subst z; exact fun k h3 h4 => q k (by omega) h3 h4
        · exact h c' (by omega) h2
      · rw [if_neg q, bIf (fun h => q (fun i _ h3 h4 => h c (by omega) hc2 i h3 h4))]
theorem k_exp {t x : Nat} (ht : t < 2) (hN : 20 ≤ N) (hw : WB β) (hx : x = 0 ∨ WF x) {u : ASt} (hR : RY t β u) : ∃ u', f_X4_explains N 81 (nI x) u = some (bI (Agr t β x), u') ∧ RY t β u' ∧ TK u u' := by
  have h4 := hw.1
  have hF : ∀ j, j < mx x → WF (Fx x j) := fun j hj => by
    unfold mx at hj
    split at hj
    · omega
    · exact hx.resolve_left (by assumption)
  have hm : mx x ≤ 1 := by unfold mx; split <;> omega
  have hx5 : x < 5000 := by rcases hx with h | h; omega; exact WF_lt h
  obtain ⟨r1, r2, r3, r4⟩ := hR
  have ne : ∀ a, a ≠ 84 → (apt u 84 0 (nI x)).1 a = u.1 a := fun a ha => apt_ne ha
  have K0 : TK u (apt u 84 0 (nI x)) := fun a h1 h2 h3 => ne a h2
  have C0 := r1.ck0 hw K0.ck0
  have S0 : R8 (apt u 84 0 (nI x)) 82 (stim t (sO β)) := fun i hi => by rw [agt_e (ne 82 (by omega))]; exact r2 i hi
  have L0 : FL (apt u 84 0 (nI x)) 84 (Fx x) (mx x) := fun j hj => by
    have : j = 0 := by omega
    subst this
    rw [agt_pt_s]; rfl
  obtain ⟨u2, b1, b2, b3, b4, b5⟩ := k_test (N := N) (o1 := 84) (m := mx x) (F := Fx x) ht hN hw (Or.inr rfl) (by rw [al84]; exact hm) (by omega) hF C0 L0 S0
  have C2 := C0.nk hw (Or.inr rfl) b2
  have K2 := K0.tr (TK.nk b2)
  have A2 : ∀ c, c < β 0 → ∀ i, i < bc β c 2 → agt u2 83 (6 * c + i) = nI (wN t β c i) := fun c hc i hi => by
    rw [agt_e (b2 83 (by omega) (by omega) (by omega)), agt_e (ne 83 (by omega))]; exact r4 c hc i hi
  have EX := k_exp_out (N := N) (p := nI x) ht hN hw hF ⟨C2, b3, b4, b5⟩ A2 N 0 (by omega) (by omega)
  refine ⟨u2, ?_, ⟨C2, fun i hi => by rw [agt_e (K2 82 (by omega) (by omega) (by omega))]; exact r2 i hi, by rw [agt_e (K2 81 (by omega) (by omega) (by omega))]; exact r3, A2⟩, K2⟩
  have e7 : agt (apt u 84 0 (nI x)) 81 7 = nI (At t β) := by rw [agt_e (ne 81 (by omega))]; exact r3
  have eA : bI (∀ c', 0 ≤ c' → c' < β 0 → ∀ k, k < bc β c' 2 → bc β c' (7 + 2 * k) = 0 → wrd t β (Fx x) (mx x) c' k = wN t β c' k) = bI (Agr t β x) := bIc ⟨fun h c hc => h c (by omega) hc, fun h c _ hc => h c hc⟩
  rw [eA] at EX
  by_cases q : x = 0
  · have em : mx x = 0 := if_pos q
    rw [em] at b1
    simp (disch := omega) only [f_X4_explains, f_X4_explains_32, lit, ar81_4, al84, chk_in, nCl, lte_s, nE, q, if_true, ar81_1, ar81_2] at *
    rw [e7, b1, bnd_s]
    exact EX
  · have em : mx x = 1 := if_neg q
    rw [em] at b1
    simp (disch := omega) only [f_X4_explains, f_X4_explains_32, lit, ar81_4, al84, chk_in, nCl, lte_s, nE, q, if_false, ar81_1, ar81_2]
    rw [e7, b1, bnd_s]
    exact EX
/-! the model: one fault -/
theorem agr_ro {t x : Nat} (hw : WB β) : Agr t β x ↔ ∀ j, j < 24 → ro t β (Fb β) (β 2) j = ro t β (Fx x) (mx x) j := by
  have h4 := hw.1
  constructor
  · intro h j hj
    unfold ro
    by_cases q : j / 6 < β 0 ∧ j % 6 < bc β (j / 6) 2 ∧ bc β (j / 6) (7 + 2 * (j % 6)) = 0
    · rw [if_pos q, if_pos q]; exact (h _ q.1 _ q.2.1 q.2.2).symm
    · rw [if_neg q, if_neg q]
  · intro h c hc k hk h0
    have h6 := hw.m6 hc
    have := h (6 * c + k) (by omega)
    rw [ro_ck hw hc hk, ro_ck hw hc hk, if_pos h0, if_pos h0] at this
    exact this.symm
theorem m_so_loop {t x : Nat} (ht : t < 2) (hw : WB β) (hF : ∀ j, j < mx x → WF (Fx x j)) {p q : Int32} {v : ASt} (h1 : ∀ j, j < 24 → agt v 103 j = nI (ro t β (Fb β) (β 2) j)) (h2 : ∀ j, j < 24 → agt v 104 j = nI (ro t β (Fx x) (mx x) j)) : ∀ n k, k ≤ 24 → 24 < n + k → f_X7_answersSo_19 N 95 p q n (bI (∀ j, j < k → ro t β (Fb β) (β 2) j = ro t β (Fx x) (mx x) j)) (nI k) v = some (bI (∀ j, j < 24 → ro t β (Fb β) (β 2) j = ro t β (Fx x) (mx x) j), v) := by
  have hp := Nat.pow_le_pow_right (n := 2) (by omega) (Pn_b (t := t) (s := sO β) ht).2
  intro n
  induction n with
  | zero => intro k h1 h2; omega
  | succ n ih =>
    intro k g1 g2
    by_cases hk : 24 ≤ k
    · have ek : k = 24 := by omega
      subst ek
      simp (disch := omega) only [f_X7_answersSo_19, lit, nLE, Nat.le_refl, if_true, chk_b]
    · have IH := ih (k + 1) (by omega) (by omega)
      have a1 := h1 k (by omega)
      have a2 := h2 k (by omega)
      have w1 := ro_lt (t := t) ht hw hw.fb (j := k)
      have w2 := ro_lt (t := t) ht hw hF (j := k)
      by_cases c1 : ∀ j, j < k → ro t β (Fb β) (β 2) j = ro t β (Fx x) (mx x) j
      · by_cases c2 : ro t β (Fb β) (β 2) k = ro t β (Fx x) (mx x) k
        · rw [bIt (show ∀ j, j < k + 1 → ro t β (Fb β) (β 2) j = ro t β (Fx x) (mx x) j from fun j hj => by
            by_cases e : j = k
            · subst e; exact c2
            · exact c1 j (by omega))] at IH
          rw [bIt c1]
          simp (disch := omega) only [f_X7_answersSo_19, f_X7_answersSo_52, lit, nLE, hk, if_false, nE, show ¬ (1 : Nat) = 0 by omega, ar95_11, ar95_12, al103, al104, chk_in, nCl, a1, a2, c2, if_true, nI_add]
          exact IH
        · rw [bIf (show ¬ ∀ j, j < k + 1 → ro t β (Fb β) (β 2) j = ro t β (Fx x) (mx x) j from fun h => c2 (h k (by omega)))] at IH
          rw [bIt c1]
          simp (disch := omega) only [f_X7_answersSo_19, f_X7_answersSo_51, f_X7_answersSo_52, lit, nLE, hk, if_false, nE, show ¬ (1 : Nat) = 0 by omega, ar95_11, ar95_12, al103, al104, chk_in, nCl, a1, a2, c2, nI_add]
          exact IH
      · rw [bIf (show ¬ ∀ j, j < k + 1 → ro t β (Fb β) (β 2) j = ro t β (Fx x) (mx x) j from fun h => c1 (fun j hj => h j (by omega)))] at IH
        rw [bIf c1]
        simp (disch := omega) only [f_X7_answersSo_19, f_X7_answersSo_51, f_X7_answersSo_52, lit, nLE, hk, if_false, if_true, nI_add]
        exact IH
theorem m_so {t x : Nat} (ht : t < 2) (hN : 40 ≤ N) (hw : WB β) (hx : x = 0 ∨ WF x) {v : ASt} (hM : MB v β) (h1 : ∀ j, j < 24 → agt v 103 j = nI (ro t β (Fb β) (β 2) j)) : ∃ v', f_X7_answersSo N 95 (nI t) (nI x) v = some (bI (Agr t β x), v') ∧ MK0 v v' ∧ v'.1 103 = v.1 103 := by
  have hF : ∀ j, j < mx x → WF (Fx x j) := fun j hj => by
    unfold mx at hj
    split at hj
    · omega
    · exact hx.resolve_left (by assumption)
  have hm : mx x ≤ 1 := by unfold mx; split <;> omega
  have hx5 : x < 5000 := by rcases hx with h | h; omega; exact WF_lt h
  obtain ⟨v1, hv1⟩ : ∃ z, z = apt (apt v 95 8 (nI (mx x))) 101 0 (nI x) := ⟨_, rfl⟩
  have u1 : f_X7_usesOne N 95 (nI x) v = some ((), v1) := by
    by_cases q : x = 0
    · have em : mx x = 0 := if_pos q
      rw [em] at hv1
      rw [hv1, q]
      simp (disch := omega) only [f_X7_usesOne, f_X7_usesOne_10, lit, if_true, lte_s, ar95_7, al101, chk_in, nCl]
    · have em : mx x = 1 := if_neg q
      rw [em] at hv1
      rw [hv1]
      simp (disch := omega) only [f_X7_usesOne, f_X7_usesOne_10, lit, nE, q, if_false, lte_s, ar95_7, al101, chk_in, nCl]
  have U1 : MU v v1 := ⟨fun a h1 h2 => by rw [hv1, apt_ne h2, apt_ne h1], fun k hk => by rw [hv1, agt_pt_o (by omega), agt_pt_k hk]⟩
  have F1 : UF v1 (Fx x) (mx x) := ⟨by rw [hv1, agt_pt_o (by omega), agt_pt_s], fun j hj => by
    have : j = 0 := by omega
    subst this
    rw [hv1, agt_pt_s]; rfl⟩
  obtain ⟨v2, b1, b2, b3⟩ := m_answers (N := N) (o := 104) (Or.inr rfl) ht hN hw (show mx x ≤ 4 by omega) hF (U1.mk0.mb hM) F1
  have e103 : v2.1 103 = v.1 103 := (b2.1 103 (by omega) (by omega) (by omega)).trans (U1.1 103 (by omega) (by omega))
  have SO := m_so_loop (N := N) (p := nI t) (q := nI x) ht hw hF (v := v2) (fun j hj => by rw [agt_e e103]; exact h1 j hj) b3 N 0 (by omega) (by omega)
  rw [bIt (show ∀ j, j < 0 → ro t β (Fb β) (β 2) j = ro t β (Fx x) (mx x) j from fun j hj => by omega), ← propext (agr_ro hw)] at SO
  refine ⟨v2, ?_, U1.mk0.tr (b2.mk0 (Or.inr rfl)), e103⟩
  simp only [f_X7_answersSo, u1, bnd_s, ar95_12, b1]
  exact SO
/-! seen -/
theorem k_shows {t : Nat} (ht : t < 2) (hN : 40 ≤ N) (hw : WB β) {u : ASt} (hC : CB u 0 β) : ∃ u', f_X4_showsFaults N 81 (nI t) u = some (bI (¬ Agr t β 0), u') ∧ CK0 u u' := by
  obtain ⟨u1, a1, a2, a3, a4⟩ := k_prep (N := N) ht (by omega) hw hC
  have K1 : CK0 u u1 := fun a ha => a4 a (by omega) (by omega)
  obtain ⟨u2, b1, b2, b3⟩ := k_note (N := N) ht (by omega) hw (hC.ck0 hw K1) a2 a3
  obtain ⟨u3, c1, c2, c3⟩ := k_exp (N := N) (x := 0) ht (by omega) hw (Or.inl rfl) b2
  refine ⟨u3, ?_, K1.tr (b3.ck0.tr c3.ck0)⟩
  by_cases q : Agr t β 0
  · simp only [f_X4_showsFaults, a1, bnd_s, b1, lit, c1, bI0, q, not_true, if_false]
    rw [bIf (fun h => h)]
  · simp only [f_X4_showsFaults, a1, bnd_s, b1, lit, c1, bI0, q, not_false_eq_true, if_true]
    rw [bIt trivial]
theorem m_seenBy {t : Nat} (ht : t < 2) (hN : 40 ≤ N) (hw : WB β) {v : ASt} (hM : MB v β) : ∃ v', f_X7_seenBy N 95 (nI t) v = some (bI (¬ Agr t β 0), v') ∧ MK0 v v' := by
  obtain ⟨v1, a1, a2, a3⟩ := m_answersNow (N := N) ht hN hw hM
  obtain ⟨v2, b1, b2, b3⟩ := m_so (N := N) (x := 0) ht hN hw (Or.inl rfl) (a2.mb hM) a3
  refine ⟨v2, ?_, a2.tr b2⟩
  by_cases q : Agr t β 0
  · simp only [f_X7_seenBy, a1, bnd_s, b1, lit, bI0, q, not_true, if_false]
    rw [bIf (fun h => h)]
  · simp only [f_X7_seenBy, a1, bnd_s, b1, lit, bI0, q, not_false_eq_true, if_true]
    rw [bIt trivial]
theorem sim_seen (hN : 1000 ≤ N) (p : Int32) : Sm (f_X6_seen N 77 p) (f_X7_seen N 95 p) := by
  intro u v h
  by_cases q : p = nI 0 ∨ p = nI 1
  · obtain ⟨t, ht, rfl⟩ := of_bit q
    refine read_sim h (fun β hw => ⟨bI (¬ Agr t β 0), fun u hC => ?_, fun v hM => ?_⟩)
    · obtain ⟨u', e1, e2⟩ := k_shows (N := N) ht (by omega) hw hC
      refine ⟨u', ?_, e2⟩
      by_cases z : Agr t β 0
      · simp only [f_X6_seen, k_isBit, lit, bnd_s, bI0, q, not_true, if_false, ar77_2, e1, z, not_false_eq_true, if_true]
        rw [bIf (fun h => h)]
      · simp only [f_X6_seen, k_isBit, lit, bnd_s, bI0, q, not_true, if_false, ar77_2, e1, z, not_false_eq_true]
        rw [bIt trivial]
    · obtain ⟨v', e1, e2⟩ := m_seenBy (N := N) ht (by omega) hw hM
      refine ⟨v', ?_, e2⟩
      simp only [f_X7_seen, m_isBit, lit, bnd_s, bI0, q, not_true, if_false, e1]
  · refine bad_sim (N := N) h ?_ ?_
    · simp only [f_X6_seen, k_isBit, lit, bnd_s, bI0, q, not_false_eq_true, if_true]
    · simp only [f_X7_seen, m_isBit, lit, bnd_s, bI0, q, not_false_eq_true, if_true]
end SEEN
