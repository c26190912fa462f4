/-! the model's states -/
section MH
variable {N : Nat}
theorem m_aside_loop : ∀ n j v, j ≤ 83 → 83 < n + j → ∃ v', f_X7_laysAside_2 N 95 n (nI j) v = some ((), v') ∧ (∀ k, j ≤ k → k < 83 → agt v' 97 k = agt v 96 k) ∧ (∀ k, k < j → agt v' 97 k = agt v 97 k) ∧ ∀ a, a ≠ 97 → v'.1 a = v.1 a := by
  intro n
  induction n with
  | zero => intro j v h1 h2; omega
  | succ n ih =>
    intro j v h1 h2
    by_cases hj : 83 ≤ j
    · refine ⟨v, ?_, fun k h3 h4 => by omega, fun k _ => rfl, fun a _ => rfl⟩
      simp (disch := omega) only [f_X7_laysAside_2, lit, nLE, hj, if_true]
    · obtain ⟨v', e1, e2, e3, e4⟩ := ih (j + 1) (apt v 97 j (agt v 96 j)) (by omega) (by omega)
      refine ⟨v', ?_, fun k h3 h4 => ?_, fun k hk => ?_, fun a ha => (e4 a ha).trans (apt_ne ha)⟩
      · simp (disch := omega) only [f_X7_laysAside_2, lit, nLE, hj, if_false, ar95_0, ar95_1, ar95_2, ar95_4, ar95_5, ar95_7, ar95_9, ar95_11, ar95_12, ar95_16, ar95_17, al96, al97, al98, al99, al100, al101, al102, al103, al104, al105, al106, chk_in, nCl, lte_s, nI_add]
        exact e1
      · by_cases q : k = j
        · subst q
          rw [e3 k (by omega), agt_pt_s]
        · rw [e2 k (by omega) h4, agt_pt_o (by omega)]
      · rw [e3 k (by omega), agt_pt_k (by omega)]
theorem m_aside (hN : 1000 ≤ N) {v : ASt} : ∃ v', f_X7_laysAside N 95 v = some ((), v') ∧ (∀ k, k < 83 → agt v' 97 k = agt v 96 k) ∧ ∀ a, a ≠ 97 → v'.1 a = v.1 a := by
  obtain ⟨v', e1, e2, e3, e4⟩ := m_aside_loop (N := N) N 0 v (by omega) (by omega)
  exact ⟨v', e1, fun k hk => e2 k (by omega) hk, e4⟩
theorem m_leave_loop {m : Nat} (hm : m < 5) : ∀ n j v, j ≤ 83 → 83 < n + j → agt v 95 3 = nI m → ∃ v', f_X7_leaves_50 N 95 n (nI j) v = some ((), v') ∧ agt v' 95 3 = nI (m + 1) ∧ (∀ k, j ≤ k → k < 83 → agt v' 98 (83 * m + k) = agt v 97 k) ∧ (∀ i, (i < 83 * m + j ∨ 83 * m + 83 ≤ i) → agt v' 98 i = agt v 98 i) ∧ (∀ a, a ≠ 95 → a ≠ 98 → v'.1 a = v.1 a) ∧ ∀ k, k ≠ 3 → agt v' 95 k = agt v 95 k := by
  intro n
  induction n with
  | zero => intro j v h1 h2; omega
  | succ n ih =>
    intro j v h1 h2 h3
    by_cases hj : 83 ≤ j
    · refine ⟨apt v 95 3 (nI (m + 1)), ?_, agt_pt_s _ _ _ _, fun k h3 h4 => by omega, fun i _ => agt_pt_o (by omega), fun a ha _ => apt_ne ha, fun k hk => agt_pt_k hk⟩
      simp (disch := omega) only [f_X7_leaves_50, lit, nLE, hj, if_true, h3, nI_add, lte_s]
    · obtain ⟨v', e1, e2, e3, e4, e5, e6⟩ := ih (j + 1) (apt v 98 (83 * m + j) (agt v 97 j)) (by omega) (by omega) (by rw [agt_pt_o (by omega)]; exact h3)
      refine ⟨v', ?_, e2, fun k h3 h4 => ?_, fun i hi => ?_, fun a h1 h2 => (e5 a h1 h2).trans (apt_ne h2), fun k hk => by rw [e6 k hk, agt_pt_o (by omega)]⟩
      · simp (disch := omega) only [f_X7_leaves_50, lit, nLE, hj, if_false, h3, pk_mul, nI_add, ar95_0, ar95_1, ar95_2, ar95_4, ar95_5, ar95_7, ar95_9, ar95_11, ar95_12, ar95_16, ar95_17, al96, al97, al98, al99, al100, al101, al102, al103, al104, al105, al106, chk_in, nCl, lte_s]
        exact e1
      · by_cases q : k = j
        · subst q
          rw [e4 _ (by omega), agt_pt_s]
        · rw [e3 k (by omega) h4, agt_pt_o (by omega)]
      · rw [e4 i (by omega), agt_pt_k (by omega)]
theorem m_shift_loop : ∀ n j v, j ≤ 332 → 332 < n + j → agt v 95 3 = nI 5 → ∃ v', f_X7_leaves_10 N 95 n (nI j) v = f_X7_leaves_48 N 95 v' ∧ agt v' 95 3 = nI 4 ∧ (∀ i, j ≤ i → i < 332 → agt v' 98 i = agt v 98 (i + 83)) ∧ (∀ i, (i < j ∨ 332 ≤ i) → agt v' 98 i = agt v 98 i) ∧ (∀ a, a ≠ 95 → a ≠ 98 → v'.1 a = v.1 a) ∧ ∀ k, k ≠ 3 → agt v' 95 k = agt v 95 k := by
  intro n
  induction n with
  | zero => intro j v h1 h2; omega
  | succ n ih =>
    intro j v h1 h2 h3
    by_cases hj : 332 ≤ j
    · refine ⟨apt v 95 3 (nI 4), ?_, agt_pt_s _ _ _ _, fun k h3 h4 => by omega, fun i _ => agt_pt_o (by omega), fun a ha _ => apt_ne ha, fun k hk => agt_pt_k hk⟩
      simp (disch := omega) only [f_X7_leaves_10, lit, nLE, hj, if_true, h3, nSub, lte_s, show 5 - 1 = 4 by rfl]
    · obtain ⟨v', e1, e2, e3, e4, e5, e6⟩ := ih (j + 1) (apt v 98 j (agt v 98 (j + 83))) (by omega) (by omega) (by rw [agt_pt_o (by omega)]; exact h3)
      refine ⟨v', ?_, e2, fun i h3 h4 => ?_, fun i hi => ?_, fun a h1 h2 => (e5 a h1 h2).trans (apt_ne h2), fun k hk => by rw [e6 k hk, agt_pt_o (by omega)]⟩
      · simp (disch := omega) only [f_X7_leaves_10, lit, nLE, hj, if_false, nI_add, ar95_0, ar95_1, ar95_2, ar95_4, ar95_5, ar95_7, ar95_9, ar95_11, ar95_12, ar95_16, ar95_17, al96, al97, al98, al99, al100, al101, al102, al103, al104, al105, al106, chk_in, nCl, lte_s]
        exact e1
      · by_cases q : i = j
        · subst q
          rw [e4 _ (by omega), agt_pt_s]
        · rw [e3 i (by omega) h4, agt_pt_k (by omega)]
      · rw [e4 i (by omega), agt_pt_k (by omega)]
theorem m_leaves (hN : 1000 ≤ N) {m : Nat} (hm : m ≤ 5) {v : ASt} (h3 : agt v 95 3 = nI m) : ∃ v', f_X7_leaves N 95 v = some ((), v') ∧ agt v' 95 3 = nI (if m = 5 then 5 else m + 1) ∧ (∀ i, i < 415 → agt v' 98 i = if m = 5 then (if i < 332 then agt v 98 (i + 83) else agt v 97 (i - 332)) else (if 83 * m ≤ i ∧ i < 83 * m + 83 then agt v 97 (i - 83 * m) else agt v 98 i)) ∧ (∀ a, a ≠ 95 → a ≠ 98 → v'.1 a = v.1 a) ∧ ∀ k, k ≠ 3 → agt v' 95 k = agt v 95 k := by
  by_cases q : m = 5
  · subst q
    obtain ⟨w, e1, e2, e3, e4, e5, e6⟩ := m_shift_loop (N := N) N 0 v (by omega) (by omega) h3
    obtain ⟨v', g1, g2, g3, g4, g5, g6⟩ := m_leave_loop (N := N) (m := 4) (by omega) N 0 w (by omega) (by omega) e2
    refine ⟨v', ?_, by rw [if_pos rfl]; exact g2, fun i hi => ?_, fun a h1 h2 => (g5 a h1 h2).trans (e5 a h1 h2), fun k hk => (g6 k hk).trans (e6 k hk)⟩
    · simp (disch := omega) only [f_X7_leaves, lit, h3, if_true, e1]
      exact g1
    · rw [if_pos rfl]
      by_cases q : i < 332
      · rw [if_pos q, g4 i (by omega), e3 i (by omega) q]
      · rw [if_neg q]
        have := g3 (i - 332) (by omega) (by omega)
        rw [show 83 * 4 + (i - 332) = i by omega] at this
        rw [this, agt_e (e5 97 (by omega) (by omega))]
  · obtain ⟨v', g1, g2, g3, g4, g5, g6⟩ := m_leave_loop (N := N) (m := m) (by omega) N 0 v (by omega) (by omega) h3
    refine ⟨v', ?_, by rw [if_neg q]; exact g2, fun i hi => ?_, g5, g6⟩
    · simp (disch := omega) only [f_X7_leaves, f_X7_leaves_48, lit, h3, nE, q, if_false]
      exact g1
    · rw [if_neg q]
      by_cases q2 : 83 * m ≤ i ∧ i < 83 * m + 83
      · rw [if_pos q2]
        have := g3 (i - 83 * m) (by omega) (by omega)
        rw [show 83 * m + (i - 83 * m) = i by omega] at this
        exact this
      · rw [if_neg q2, g4 i (by omega)]
theorem m_back_loop {m : Nat} (hm : m < 5) : ∀ n j v, j ≤ 83 → 83 < n + j → agt v 95 3 = nI m → ∃ v', f_X7_back_24 N 95 n (nI j) v = some (nI m, v') ∧ (∀ k, j ≤ k → k < 83 → agt v' 96 k = agt v 98 (83 * m + k)) ∧ (∀ k, k < j → agt v' 96 k = agt v 96 k) ∧ ∀ a, a ≠ 96 → v'.1 a = v.1 a := by
  intro n
  induction n with
  | zero => intro j v h1 h2; omega
  | succ n ih =>
    intro j v h1 h2 h3
    by_cases hj : 83 ≤ j
    · refine ⟨v, ?_, fun k h3 h4 => by omega, fun k _ => rfl, fun a _ => rfl⟩
      simp (disch := omega) only [f_X7_back_24, lit, nLE, hj, if_true, h3]
    · obtain ⟨v', e1, e2, e3, e4⟩ := ih (j + 1) (apt v 96 j (agt v 98 (83 * m + j))) (by omega) (by omega) (by rw [agt_pt_o (by omega)]; exact h3)
      refine ⟨v', ?_, fun k h3 h4 => ?_, fun k hk => ?_, fun a ha => (e4 a ha).trans (apt_ne ha)⟩
      · simp (disch := omega) only [f_X7_back_24, lit, nLE, hj, if_false, h3, pk_mul, nI_add, ar95_0, ar95_1, ar95_2, ar95_4, ar95_5, ar95_7, ar95_9, ar95_11, ar95_12, ar95_16, ar95_17, al96, al97, al98, al99, al100, al101, al102, al103, al104, al105, al106, chk_in, nCl, lte_s]
        exact e1
      · by_cases q : k = j
        · subst q
          rw [e3 k (by omega), agt_pt_s]
        · rw [e2 k (by omega) h4, agt_pt_o (by omega)]
      · rw [e3 k (by omega), agt_pt_k (by omega)]
end MH
/-! class and model beside each other -/
def CH (u : ASt) (m mp : Nat) (hs : Nat → Nat → Nat) : Prop := agt u 89 2 = nI m ∧ agt u 89 1 = nI mp ∧ ∀ i, i < m → CB u (1 + (mp + 6 - m + i) % 6) (hs i)
def MHs (v : ASt) (m : Nat) (hs : Nat → Nat → Nat) : Prop := agt v 95 3 = nI m ∧ ∀ i, i < m → ∀ k, k < 83 → agt v 98 (83 * i + k) = nI (hs i k)
def CT (u : ASt) (n : Nat) (tx : Nat → Nat) : Prop := agt u 91 1 = nI n ∧ ∀ j, j < n → agt u 92 j = nI (tx j)
def MT (v : ASt) (n : Nat) (tx : Nat → Nat) : Prop := agt v 95 6 = nI n ∧ ∀ j, j < n → agt v 100 j = nI (tx j)
def CN (u v : ASt) : Prop := agt u 77 5 = agt v 99 0 ∧ agt u 77 6 = agt v 99 1 ∧ agt u 77 7 = agt v 99 2
def Rl (u v : ASt) (β : Nat → Nat) (m mp : Nat) (hs : Nat → Nat → Nat) (n : Nat) (tx : Nat → Nat) : Prop := WB β ∧ (∀ i, i < m → WB (hs i)) ∧ m ≤ 5 ∧ mp < 6 ∧ n ≤ 120 ∧ (∀ j, j < n → tx j < 128) ∧ CB u 0 β ∧ CH u m mp hs ∧ CT u n tx ∧ MB v β ∧ MHs v m hs ∧ MT v n tx ∧ CN u v
def Rel (u v : ASt) : Prop := ∃ β m mp hs n tx, Rl u v β m mp hs n tx
theorem CH.kept {u u' : ASt} {m mp : Nat} {hs : Nat → Nat → Nat} (h : CH u m mp hs) (hw : ∀ i, i < m → WB (hs i)) (e : u'.1 89 = u.1 89) (hk : ∀ a, 11 ≤ a → a < 77 → u'.1 a = u.1 a) : CH u' m mp hs :=
  ⟨by rw [agt_e e]; exact h.1, by rw [agt_e e]; exact h.2.1, fun i hi => (h.2.2 i hi).kept (hw i hi).1 (fun a h1 h2 => hk a (by omega) (by omega))⟩
theorem Rl.ck0 {u u' v v' : ASt} {β : Nat → Nat} {m mp : Nat} {hs : Nat → Nat → Nat} {n : Nat} {tx : Nat → Nat} (h : Rl u v β m mp hs n tx) (hc : CK0 u u') (hm : MK0 v v') : Rl u' v' β m mp hs n tx := by
  obtain ⟨r1, r2, r3, r4, r5, r6, r7, r8, r9, r10, r11, r12, r13⟩ := h
  refine ⟨r1, r2, r3, r4, r5, r6, r7.ck0 r1 hc, r8.kept r2 (hc 89 (by omega)) (fun a h1 h2 => hc a (by omega)), ⟨by rw [agt_e (hc 91 (by omega))]; exact r9.1, fun j hj => by rw [agt_e (hc 92 (by omega))]; exact r9.2 j hj⟩, hm.mb r10, ⟨by rw [hm.2.1]; exact r11.1, fun i hi k hk => by rw [agt_e (hm.1 98 (by omega) (by omega))]; exact r11.2 i hi k hk⟩, ⟨by rw [hm.2.2]; exact r12.1, fun j hj => by rw [agt_e (hm.1 100 (by omega) (by omega))]; exact r12.2 j hj⟩, ?_⟩
  unfold CN
  rw [agt_e (hc 77 (by omega)), agt_e (hc 77 (by omega)), agt_e (hc 77 (by omega)), agt_e (hm.1 99 (by omega) (by omega)), agt_e (hm.1 99 (by omega) (by omega)), agt_e (hm.1 99 (by omega) (by omega))]
  exact r13
