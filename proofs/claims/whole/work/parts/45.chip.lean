/-! registers of chips -/
def scn (β : Nat → Nat) (c : Nat) : Prop := bc β c 3 < 2 ∧ 0 < bc β c 2
def idn (β : Nat → Nat) (c : Nat) : Prop := bc β c 3 = 2 ∧ bc β c 1 < 256
noncomputable def kdn (β : Nat → Nat) (c : Nat) : Nat := @ite Nat (scn β c) (Classical.propDecidable _) (bc β c 3) (@ite Nat (idn β c) (Classical.propDecidable _) 2 3)
noncomputable def ln_ (β : Nat → Nat) (c : Nat) : Nat := @ite Nat (scn β c) (Classical.propDecidable _) (bc β c 2) (@ite Nat (idn β c) (Classical.propDecidable _) 8 1)
theorem ln_b {β : Nat → Nat} {c : Nat} (h6 : bc β c 2 ≤ 6) : 1 ≤ ln_ β c ∧ ln_ β c ≤ 8 := by
  unfold ln_
  split
  · rename_i h; have := h.2; omega
  · split <;> omega
section CHIP
variable {N : Nat} {β : Nat → Nat} {u v : ASt} {c : Nat}
theorem k_scan {o a : Nat} (h : CC u o a β c) (h3 : bc β c 3 < 16) (h6 : bc β c 2 ≤ 6) : f_X1_scansCells N o u = some (bI (scn β c), u) := by
  have g2 := h.2.2.1
  have g6 := h.2.2.2.2.2.2.1
  have z : bc β c 2 ≤ 0 ↔ ¬ 0 < bc β c 2 := by omega
  by_cases q : scn β c
  · rw [bIt q]
    obtain ⟨q1, q2⟩ := q
    have q3 : bc β c 3 = 0 ∨ bc β c 3 = 1 := by omega
    have q4 : ¬ bc β c 2 ≤ 0 := by omega
    rcases q3 with q3 | q3
    · rw [q3] at g2
      simp (disch := omega) only [f_X1_scansCells, f_X1_scansCells_15, lit, g2, g6, nLE, q4, if_true, if_false]
    · rw [q3] at g2
      have r : ¬ (nI 1 = nI 0) := by decide
      simp (disch := omega) only [f_X1_scansCells, f_X1_scansCells_15, lit, g2, g6, nLE, q4, r, if_true, if_false]
  · rw [bIf q]
    by_cases q3 : bc β c 3 < 2
    · have q4 : bc β c 2 ≤ 0 := by
        rcases Nat.lt_or_ge 0 (bc β c 2) with z | z
        · exact absurd ⟨q3, z⟩ q
        · exact z
      have q5 : bc β c 3 = 0 ∨ bc β c 3 = 1 := by omega
      rcases q5 with q3 | q3
      · rw [q3] at g2
        simp (disch := omega) only [f_X1_scansCells, f_X1_scansCells_15, f_X1_scansCells_26, lit, g2, g6, nLE, q4, if_true, if_false]
      · rw [q3] at g2
        have r : ¬ (nI 1 = nI 0) := by decide
        simp (disch := omega) only [f_X1_scansCells, f_X1_scansCells_15, f_X1_scansCells_26, lit, g2, g6, nLE, q4, r, if_true, if_false]
    · have r0 : ¬ bc β c 3 = 0 := by omega
      have r1 : ¬ bc β c 3 = 1 := by omega
      simp (disch := omega) only [f_X1_scansCells, f_X1_scansCells_26, lit, g2, nE, r0, r1, if_false]
theorem k_ident {o a : Nat} (h : CC u o a β c) (h3 : bc β c 3 < 16) (h1 : bc β c 1 ≤ 256) : f_X1_scansIdentity N o u = some (bI (idn β c), u) := by
  have g2 := h.2.2.1
  have g1 := h.2.1
  by_cases q3 : bc β c 3 = 2
  · by_cases q1 : bc β c 1 = 256
    · rw [bIf (fun z => by have := z.2; omega)]
      simp (disch := omega) only [f_X1_scansIdentity, f_X1_scansIdentity_22, lit, g2, g1, nE, q3, q1, if_true]
    · rw [bIt ⟨q3, by omega⟩]
      simp (disch := omega) only [f_X1_scansIdentity, f_X1_scansIdentity_22, lit, g2, g1, nE, q3, q1, if_true, if_false]
  · rw [bIf (fun z => q3 z.1)]
    simp (disch := omega) only [f_X1_scansIdentity, f_X1_scansIdentity_22, lit, g2, nE, q3, if_false]
theorem k_bits {o a : Nat} (h : CC u o a β c) (hw : WC β c) : f_X1_dataBits N o u = some (nI (ln_ β c), u) := by
  obtain ⟨w0, w1, w2, w3, w4, w5, w6, w7, w8⟩ := hw
  have g6 := h.2.2.2.2.2.2.1
  unfold ln_
  by_cases q : scn β c
  · rw [if_pos q]
    simp (disch := omega) only [f_X1_dataBits, k_scan h w4 w3, lit, bnd_s, bI0, q, not_true, if_false, g6]
  · rw [if_neg q]
    by_cases q2 : idn β c
    · rw [if_pos q2]
      simp (disch := omega) only [f_X1_dataBits, k_scan h w4 w3, k_ident h w4 w2, lit, bnd_s, bI0, q, q2, not_true, not_false_eq_true, if_true, if_false]
    · rw [if_neg q2]
      simp (disch := omega) only [f_X1_dataBits, k_scan h w4 w3, k_ident h w4 w2, lit, bnd_s, bI0, q, q2, not_false_eq_true, if_true]
theorem m_kind (hM : MB v β) (hc : c < 4) (hw : WC β c) : f_X7_kindOf N 95 (nI c) v = some (nI (kdn β c), v) := by
  obtain ⟨w0, w1, w2, w3, w4, w5, w6, w7, w8⟩ := hw
  unfold kdn
  by_cases q3 : bc β c 3 < 2
  · have z : ¬ 2 ≤ bc β c 3 := by omega
    by_cases q4 : bc β c 2 ≤ 0
    · rw [if_neg (fun z => by have := z.2; omega), if_neg (fun z => by have := z.1; omega)]
      simp (disch := omega) only [f_X7_kindOf, lit, m_getB hM hc, bnd_s, nLE, z, q4, if_true, if_false]
    · rw [if_pos ⟨q3, by omega⟩]
      simp (disch := omega) only [f_X7_kindOf, lit, m_getB hM hc, bnd_s, nLE, z, q4, if_false]
  · have z : 2 ≤ bc β c 3 := by omega
    rw [if_neg (fun z => q3 z.1)]
    by_cases q5 : bc β c 3 = 2
    · by_cases q6 : 256 ≤ bc β c 1
      · rw [if_neg (fun z => by have := z.2; omega)]
        simp (disch := omega) only [f_X7_kindOf, f_X7_kindOf_48, lit, m_getB hM hc, bnd_s, nLE, nE, q5, q6, Nat.le_refl, if_true]
      · rw [if_pos ⟨q5, by omega⟩]
        simp (disch := omega) only [f_X7_kindOf, f_X7_kindOf_48, lit, m_getB hM hc, bnd_s, nLE, nE, q5, q6, Nat.le_refl, if_true, if_false]
    · rw [if_neg (fun z => q5 z.1)]
      simp (disch := omega) only [f_X7_kindOf, f_X7_kindOf_48, lit, m_getB hM hc, bnd_s, nLE, nE, z, q5, if_true, if_false]
theorem kdn_s (h : bc β c 3 < 16) : (kdn β c < 2 ↔ scn β c) ∧ (kdn β c = 2 ↔ (¬ scn β c ∧ idn β c)) ∧ kdn β c < 4 := by
  unfold kdn
  by_cases q : scn β c
  · rw [if_pos q]
    have := q.1
    simp only [q, not_true, false_and, iff_true, iff_false]
    omega
  · rw [if_neg q]
    by_cases q2 : idn β c
    · rw [if_pos q2]; simp [q, q2]
    · rw [if_neg q2]; simp [q, q2]
theorem m_long (hM : MB v β) (hc : c < 4) (hw : WC β c) : f_X7_longOf N 95 (nI c) v = some (nI (ln_ β c), v) := by
  have K := m_kind (N := N) hM hc hw
  obtain ⟨k1, k2, k3⟩ := kdn_s (β := β) (c := c) hw.2.2.2.2.1
  have h6 := hw.2.2.2.1
  unfold ln_
  by_cases q : scn β c
  · have z : ¬ 2 ≤ kdn β c := by have := k1.mpr q; omega
    rw [if_pos q]
    simp (disch := omega) only [f_X7_longOf, K, lit, bnd_s, nLE, z, if_false, m_getB hM hc]
  · have z : 2 ≤ kdn β c := by
      rcases Nat.lt_or_ge (kdn β c) 2 with y | y
      · exact absurd (k1.mp y) q
      · exact y
    rw [if_neg q]
    by_cases q2 : idn β c
    · have y := k2.mpr ⟨q, q2⟩
      rw [if_pos q2]
      simp (disch := omega) only [f_X7_longOf, K, lit, bnd_s, nLE, nE, y, Nat.le_refl, if_true]
    · have y : ¬ kdn β c = 2 := fun y => q2 (k2.mp y).2
      rw [if_neg q2]
      simp (disch := omega) only [f_X7_longOf, K, lit, bnd_s, nLE, nE, z, y, if_true, if_false]
end CHIP
/-! a field of all chips is written -/
def upF (β : Nat → Nat) (f : Nat) (x : Nat → Nat) : Nat → Nat → Nat
  | 0 => β
  | c + 1 => sb (upF β f x c) (7 + 19 * c + f) (x c)
theorem upF_lo {β : Nat → Nat} {f : Nat} {x : Nat → Nat} {k : Nat} (hk : k < 7) : ∀ n, upF β f x n k = β k
  | 0 => rfl
  | n + 1 => by rw [upF, sb_ne (by omega), upF_lo hk n]
theorem upF_bc {β : Nat → Nat} {f : Nat} {x : Nat → Nat} (hf : f < 19) {c' f' : Nat} (hf' : f' < 19) : ∀ n, bc (upF β f x n) c' f' = if f' = f ∧ c' < n then x c' else bc β c' f'
  | 0 => by rw [if_neg (by omega)]; rfl
  | n + 1 => by
    rw [upF, bc_sb hf hf', upF_bc hf hf' n]
    by_cases q : c' = n ∧ f' = f
    · obtain ⟨rfl, rfl⟩ := q
      rw [if_pos ⟨rfl, rfl⟩, if_pos ⟨rfl, by omega⟩]
    · rw [if_neg q]
      by_cases q2 : f' = f ∧ c' < n
      · rw [if_pos q2, if_pos ⟨q2.1, by omega⟩]
      · rw [if_neg q2, if_neg (by omega)]
theorem upF_o {β : Nat → Nat} {f : Nat} {x : Nat → Nat} (hf : f < 19) {c' f' n : Nat} (hf' : f' < 19) (h : f' ≠ f ∨ n ≤ c') : bc (upF β f x n) c' f' = bc β c' f' := by
  rw [upF_bc hf hf', if_neg (by omega)]
theorem WB_upF {β : Nat → Nat} {f : Nat} {x : Nat → Nat} (hw : WB β) (hf : f = 3 ∨ f = 4 ∨ f = 5 ∨ f = 6) (hx : ∀ c, c < β 0 → (f = 3 ∨ f = 4 → x c < 16) ∧ x c < 256) : ∀ n, n ≤ β 0 → WB (upF β f x n)
  | 0, _ => hw
  | n + 1, h => (WB_upF hw hf hx n (by omega)).put hf (hx n (by omega))
theorem sb_same {β : Nat → Nat} {i x : Nat} (h : β i = x) : sb β i x = β := by
  funext k
  unfold sb
  by_cases q : k = i
  · rw [if_pos q, q]; exact h.symm
  · rw [if_neg q]
/-- the class's loops over the chips -/
theorem loop_c {β : Nat → Nat} {f : Nat} {x : Nat → Nat} {α : Type} (L : Nat → α → Int32 → ASt → Option (α × ASt)) (b : Nat → α) (I : ASt → (Nat → Nat) → Prop) (K : ASt → ASt → Prop) (kr : ∀ u, K u u) (kt : ∀ u w z, K u w → K w z → K u z)
    (h0 : ∀ n u, I u (upF β f x (β 0)) → L (n + 1) (b (β 0)) (nI (β 0)) u = some (b (β 0), u))
    (h1 : ∀ n c u, c < β 0 → I u (upF β f x c) → ∃ u', L (n + 1) (b c) (nI c) u = L n (b (c + 1)) (nI (c + 1)) u' ∧ I u' (upF β f x (c + 1)) ∧ K u u') :
    ∀ n c u, c ≤ β 0 → β 0 < n + c → I u (upF β f x c) → ∃ u', L n (b c) (nI c) u = some (b (β 0), u') ∧ I u' (upF β f x (β 0)) ∧ K u u' := by
  intro n
  induction n with
  | zero => intro c u h2 h3; omega
  | succ n ih =>
    intro c u h2 h3 hI
    by_cases q : c = β 0
    · subst q
      exact ⟨u, h0 n u hI, hI, kr u⟩
    · obtain ⟨u1, e1, e2, e3⟩ := h1 n c u (by omega) hI
      obtain ⟨u2, g1, g2, g3⟩ := ih (c + 1) u1 (by omega) (by omega) e2
      exact ⟨u2, e1.trans g1, g2, kt _ _ _ e3 g3⟩
