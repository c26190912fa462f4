/-! the digest -/
theorem hash_st {x : Int64} : Stb (fun w => w.2 = x) := fun _ _ _ _ _ g => g
section DIG
variable {N : Nat} {β : Nat → Nat} {m mp : Nat} {hs : Nat → Nat → Nat} {n : Nat} {tx : Nat → Nat}
/-- both read the same number, and the board stays -/
def RR (β : Nat → Nat) (m mp : Nat) (hs : Nat → Nat → Nat) (n : Nat) (tx : Nat → Nat) (fc fm : ASt → Option (Int32 × ASt)) : Prop := ∀ u v, Rl u v β m mp hs n tx → ∃ r u' v', fc u = some (r, u') ∧ fm v = some (r, v') ∧ Rl u' v' β m mp hs n tx ∧ v'.2 = v.2
theorem RR_of {fc fm : ASt → Option (Int32 × ASt)} {r : Int32} (hc : ∀ u, CB u 0 β → ∃ u', fc u = some (r, u') ∧ CK0 u u') (hm : ∀ v, MB v β → ∃ v', fm v = some (r, v') ∧ MK0 v v') (hi : ∀ Φ, Stb Φ → ∀ v, Φ v → Inv Φ (fm v)) : RR β m mp hs n tx fc fm := by
  intro u v R
  obtain ⟨u', a1, a2⟩ := hc u R.2.2.2.2.2.2.1
  obtain ⟨v', b1, b2⟩ := hm v R.2.2.2.2.2.2.2.2.2.1
  exact ⟨r, u', v', a1, b1, R.ck0 a2 b2, hi (fun w => w.2 = v.2) hash_st v rfl r v' b1⟩
/-- a number into the hash -/
theorem st_mix {α γ : Type} {P : Option α → Option γ → Prop} {fc fm : ASt → Option (Int32 × ASt)} {KC : Int64 → ASt → Option α} {KM : ASt → Option γ} {u v : ASt} {h : Int64} (hR : RR β m mp hs n tx fc fm) (R : Rl u v β m mp hs n tx) (hh : v.2 = h) (hk : ∀ h' u' v', Rl u' v' β m mp hs n tx → v'.2 = h' → P (KC h' u') (KM v')) : P (bnd (fc u) fun r w => bnd (f_X6_mixed N h r w) KC) (bnd (fm v) fun r w => bnd (f_X7_mix N 95 r w) fun _ w => KM w) := by
  obtain ⟨r, u', v', a1, a2, a3, a4⟩ := hR u v R
  rw [a1, a2, bnd_s, bnd_s]
  have e1 : f_X6_mixed N h r u' = some (31 * h + Int32.toInt64 r, u') := rfl
  have e2 : f_X7_mix N 95 r v' = some ((), aptL v' (31 * h + Int32.toInt64 r)) := by
    unfold f_X7_mix
    rw [lte_s, show agtL v' = h from a4.trans hh]
  rw [e1, e2, bnd_s, bnd_s]
  exact hk _ _ _ (a3.ck0 CK0.rf ⟨fun _ _ _ => rfl, rfl, rfl⟩) rfl
theorem gl {α γ : Type} {P : Option α → Option γ → Prop} {LC : Nat → Int64 → Nat → ASt → Option α} {LM : Nat → Nat → ASt → Option γ} {fc fm : Nat → ASt → Option (Int32 × ASt)} {B f1 g1 : Nat}
    (hc : ∀ f h k u v, Rl u v β m mp hs n tx → k < B → LC (f + 1) h k u = bnd (fc k u) fun r w => bnd (f_X6_mixed N h r w) fun r w => LC f r (k + 1) w)
    (hm : ∀ f k u v, Rl u v β m mp hs n tx → k < B → LM (f + 1) k v = bnd (fm k v) fun r w => bnd (f_X7_mix N 95 r w) fun _ w => LM f (k + 1) w)
    (hr : ∀ k, k < B → RR β m mp hs n tx (fc k) (fm k)) (hk : ∀ h u v, Rl u v β m mp hs n tx → v.2 = h → P (LC f1 h B u) (LM g1 B v)) :
    ∀ d k h u v, k + d = B → Rl u v β m mp hs n tx → v.2 = h → P (LC (f1 + d) h k u) (LM (g1 + d) k v) := by
  intro d
  induction d with
  | zero =>
    intro k h u v e R hh
    have : k = B := by omega
    subst this
    exact hk h u v R hh
  | succ d ih =>
    intro k h u v e R hh
    rw [← Nat.add_assoc, ← Nat.add_assoc, hc _ _ _ _ _ R (by omega), hm _ _ _ _ R (by omega)]
    exact st_mix (P := P) (KC := fun r w => LC (f1 + d) r (k + 1) w) (KM := fun w => LM (g1 + d) (k + 1) w) (hr k (by omega)) R hh (fun h' u' v' R' hh' => ih (k + 1) h' u' v' (by omega) R' hh')
/-- the same, from the first on -/
theorem gl0 {α γ : Type} {P : Option α → Option γ → Prop} {LC : Nat → Int64 → Nat → ASt → Option α} {LM : Nat → Nat → ASt → Option γ} {fc fm : Nat → ASt → Option (Int32 × ASt)} {B F G : Nat}
    (hc : ∀ f h k u v, Rl u v β m mp hs n tx → k < B → LC (f + 1) h k u = bnd (fc k u) fun r w => bnd (f_X6_mixed N h r w) fun r w => LC f r (k + 1) w)
    (hm : ∀ f k u v, Rl u v β m mp hs n tx → k < B → LM (f + 1) k v = bnd (fm k v) fun r w => bnd (f_X7_mix N 95 r w) fun _ w => LM f (k + 1) w)
    (hr : ∀ k, k < B → RR β m mp hs n tx (fc k) (fm k)) (hF : B < F) (hG : B < G) (hk : ∀ f g h u v, Rl u v β m mp hs n tx → v.2 = h → P (LC (f + 1) h B u) (LM (g + 1) B v)) {h : Int64} {u v : ASt} (R : Rl u v β m mp hs n tx) (hh : v.2 = h) : P (LC F h 0 u) (LM G 0 v) := by
  have := gl (P := P) (LC := LC) (LM := LM) (B := B) (f1 := F - B - 1 + 1) (g1 := G - B - 1 + 1) hc hm hr (fun h u v R hh => hk _ _ h u v R hh) B 0 h u v (by omega) R hh
  rw [show F - B - 1 + 1 + B = F by omega, show G - B - 1 + 1 + B = G by omega] at this
  exact this
/-! what is read -/
theorem rr_told (k : Nat) (hk : k < 5) : RR β m mp hs n tx (f_X6_told N 77 (nI k)) (f_X7_toldOf N 95 (nI k)) := by
  intro u v R
  have R0 := R
  obtain ⟨r1, r2, r3, r4, r5, r6, r7, r8, r9, r10, r11, r12, r13⟩ := R
  have h : k = 0 ∨ k = 1 ∨ k = 2 ∨ k = 3 ∨ k = 4 := by omega
  obtain ⟨c1, c2, c3⟩ := r13
  rcases h with rfl | rfl | rfl | rfl | rfl
  · exact ⟨agt v 99 0, u, v, by simp (disch := omega) [f_X6_told, lit, nE, c1], by simp (disch := omega) [f_X7_toldOf, lit, nE, nLE, ar95_0, ar95_1, ar95_2, ar95_4, ar95_5, ar95_7, ar95_9, ar95_11, ar95_12, ar95_16, ar95_17, al96, al97, al98, al99, al100, al101, al102, al103, al104, al105, al106, nCl, nIn, chk_True], R0, rfl⟩
  · exact ⟨agt v 99 1, u, v, by simp (disch := omega) [f_X6_told, lit, nE, c2], by simp (disch := omega) [f_X7_toldOf, lit, nE, nLE, ar95_0, ar95_1, ar95_2, ar95_4, ar95_5, ar95_7, ar95_9, ar95_11, ar95_12, ar95_16, ar95_17, al96, al97, al98, al99, al100, al101, al102, al103, al104, al105, al106, nCl, nIn, chk_True], R0, rfl⟩
  · exact ⟨agt v 99 2, u, v, by simp (disch := omega) [f_X6_told, lit, nE, c3], by simp (disch := omega) [f_X7_toldOf, lit, nE, nLE, ar95_0, ar95_1, ar95_2, ar95_4, ar95_5, ar95_7, ar95_9, ar95_11, ar95_12, ar95_16, ar95_17, al96, al97, al98, al99, al100, al101, al102, al103, al104, al105, al106, nCl, nIn, chk_True], R0, rfl⟩
  · exact ⟨nI n, u, v, by simp (disch := omega) [f_X6_told, lit, nE, ar77_4, r9.1], by simp (disch := omega) [f_X7_toldOf, lit, nE, nLE, r12.1], R0, rfl⟩
  · exact ⟨nI m, u, v, by simp (disch := omega) [f_X6_told, lit, nE, ar77_3, r8.1], by simp (disch := omega) [f_X7_toldOf, lit, nE, nLE, r11.1], R0, rfl⟩
theorem rr_count (hN : 1000 ≤ N) (hw : WB β) (k : Nat) (hk : k < 5) : RR β m mp hs n tx (f_X6_count N 77 (nI k)) (f_X7_countOf N 95 (nI k)) := by
  refine RR_of (r := nI (vCount β k)) (fun u hC => ⟨u, ?_, CK0.rf⟩) (fun v hM => ⟨v, m_count (show 20 ≤ N by omega) hw (by omega) hM, MK0.rf⟩) (fun Φ St v h => i_X7_countOf St h)
  simp only [f_X6_count, ar77_0, k_count (show 20 ≤ N by omega) hw (show k ≤ 4 by omega) hC, bnd_s, k_cpos (r_pos (vCount_lt hw))]
theorem rr_port (hN : 1000 ≤ N) (hw : WB β) (k : Nat) (hk : k < 5) : RR β m mp hs n tx (f_X6_port N 77 (nI k)) (f_X7_tellPort N 95 (nI k)) := by
  refine RR_of (r := nI (vPort β k)) (fun u hC => ?_) (fun v hM => m_port (N := N) (by omega) hw (by omega) v hM) (fun Φ St v h => i_X7_tellPort St h)
  obtain ⟨u', e1, e2⟩ := k_port (N := N) (by omega) hw (show k ≤ 4 by omega) u hC
  exact ⟨u', by simp only [f_X6_port, e1, bnd_s, k_cpos (r_pos (vPort_lt hw))], e2⟩
theorem rr_of (hN : 1000 ≤ N) (hw : WB β) {c : Nat} (hc : c < β 0) (k : Nat) (hk : k < 8) : RR β m mp hs n tx (f_X6_of N 77 (nI c) (nI k)) (f_X7_tellChip N 95 (nI c) (nI k)) := by
  have h4 := hw.1
  refine RR_of (r := nI (vChip β c k)) (fun u hC => ⟨u, ?_, CK0.rf⟩) (fun v hM => ⟨v, m_chip hw hc (by omega) hM, MK0.rf⟩) (fun Φ St v h => i_X7_tellChip St h)
  have q1 : nI 0 ≤ nI c ∧ nI c < nI (β 0) := ⟨r_pos (by omega), (nLT (by omega) (by omega)).mpr hc⟩
  simp (disch := omega) only [f_X6_of, lit, ar77_0, k_hasChip (n := β 0) hC.u0, bnd_s, bI0, q1, and_self, not_true, if_false, ar_b0, al_1, chk_in, nCl, ar_1, k_chip hw hc (show k ≤ 7 by omega) hC, k_cpos (r_pos (vChip_lt hw hc (show k ≤ 7 by omega)))]
theorem rr_about (hN : 1000 ≤ N) (hw : WB β) {c k : Nat} (hc : c < β 0) (hk : k < bc β c 2) (w : Nat) (hw3 : w < 3) : RR β m mp hs n tx (f_X6_about N 77 (nI c) (nI k) (nI w)) (f_X7_tellCell N 95 (nI c) (nI k) (nI w)) := by
  have h4 := hw.1
  have h6 := hw.m6 hc
  refine RR_of (r := nI (vCell β c k w)) (fun u hC => ?_) (fun v hM => m_cellN (N := N) (by omega) hw hc hk (by omega) v hM) (fun Φ St v h => i_X7_tellCell St h)
  obtain ⟨u', e1, e2⟩ := k_cellN (N := N) (by omega) hw hc hk (show w ≤ 2 by omega) u hC
  have q2 : nI 0 ≤ nI k ∧ nI k < nI (bc β c 2) := ⟨r_pos (by omega), (nLT (by omega) (by omega)).mpr hk⟩
  refine ⟨u', ?_, e2⟩
  simp (disch := omega) only [f_X6_about, lit, ar77_0, k_hasCell hC h4 hc, bnd_s, bI0, q2, and_self, not_true, if_false, e1, k_cpos (r_pos (vCell_lt hw hc hk))]
theorem rr_pats (hN : 1000 ≤ N) (hw : WB β) : RR β m mp hs n tx (f_X6_patterns N 77 0) (f_X7_patternsOf N 95 0) := by
  refine RR_of (r := nI (Pn 0 (sO β))) (fun u hC => ⟨u, ?_, CK0.rf⟩) (fun v hM => ⟨v, m_patternsOf (t := 0) hw (show 20 ≤ N by omega) hM, MK0.rf⟩) (fun Φ St v h => i_X7_patternsOf St h)
  have q : nI 0 = nI 0 ∨ nI 0 = nI 1 := Or.inl rfl
  simp only [f_X6_patterns, k_isBit, lit, bnd_s, bI0, q, not_true, if_false, ar77_2, k_pcount (show 20 ≤ N by omega) (show 0 < 2 by omega) (sO_lt hw) hC.u6, true_or]
theorem rr_seen (hN : 1000 ≤ N) (hw : WB β) (t : Nat) (ht : t < 2) : RR β m mp hs n tx (f_X6_seen N 77 (nI t)) (f_X7_seenBy N 95 (nI t)) := by
  refine RR_of (r := bI (¬ Agr t β 0)) (fun u hC => ?_) (fun v hM => m_seenBy (N := N) ht (by omega) hw hM) (fun Φ St v h => i_X7_seenBy St h)
  have q : nI t = nI 0 ∨ nI t = nI 1 := isb (by omega)
  obtain ⟨u', e1, e2⟩ := k_shows (N := N) ht (by omega) hw hC
  refine ⟨u', ?_, e2⟩
  by_cases z : Agr t β 0
  · simp only [f_X6_seen, k_isBit, lit, bnd_s, bI0, q, not_true, if_false, ar77_2, e1, z, not_false_eq_true, if_true]
    rw [bIf (fun h => h)]
  · simp only [f_X6_seen, k_isBit, lit, bnd_s, bI0, q, not_true, if_false, ar77_2, e1, z, not_false_eq_true]
    rw [bIt trivial]
theorem rr_susp (hN : 1000 ≤ N) (hw : WB β) (t : Nat) (ht : t < 2) : RR β m mp hs n tx (f_X6_suspects N 77 (nI t) (-1)) (f_X7_suspectsBy N 95 (nI t) (-1)) :=
  RR_of (r := rs (sus t β) (-1)) (fun u hC => k_sus ht hN hw (Or.inl rfl) hC) (fun v hM => m_sus (N := N) ht hN hw (Or.inl rfl) hM) (fun Φ St v h => i_X7_suspectsBy St h)
/-! a chip -/
def PC (β : Nat → Nat) (m mp : Nat) (hs : Nat → Nat → Nat) (n : Nat) (tx : Nat → Nat) (k5 : Int64 → Int32 → ASt → Option (Int64 × ASt)) (c : Nat) (x : Option (Int64 × ASt)) (y : Option (Unit × ASt)) : Prop := ∃ h' u' v', x = k5 h' (nI (c + 1)) u' ∧ y = some ((), v') ∧ Rl u' v' β m mp hs n tx ∧ v'.2 = h'
theorem dg_cells (hN : 1000 ≤ N) (hw : WB β) {c : Nat} (hc : c < β 0) {p1 : Int64} {k5 : Int64 → Int32 → ASt → Option (Int64 × ASt)} : ∀ d k f g h u v, k + d = bc β c 2 → d < f → 3 * d < g → Rl u v β m mp hs n tx → v.2 = h → PC β m mp hs n tx k5 c (f_X6_mixedChips_64 N 77 p1 k5 f h (nI c) (nI (bc β c 2)) (nI k) u) (f_X7_mixChip_26 N 95 (nI c) g (nI (3 * k)) v) := by
  have h4 := hw.1
  have h6 := hw.m6 hc
  intro d
  induction d with
  | zero =>
    intro k f g h u v e hf hg R hh
    obtain ⟨f, rfl⟩ : ∃ z, f = z + 1 := ⟨f - 1, by omega⟩
    obtain ⟨g, rfl⟩ : ∃ z, g = z + 1 := ⟨g - 1, by omega⟩
    have hk : k = bc β c 2 := by omega
    have hM := R.2.2.2.2.2.2.2.2.2.1
    refine ⟨h, u, v, ?_, ?_, R, hh⟩
    · rw [f_X6_mixedChips_64, hk, if_pos (Int32.le_refl _), lit, nI_add]
    · rw [hk]
      simp (disch := omega) only [f_X7_mixChip_26, lit, m_getB hM (show c < 4 by omega), bnd_s, pk_mul, nLE, Nat.le_refl, if_true]
  | succ d ih =>
    intro k f g h u v e hf hg R hh
    obtain ⟨f, rfl⟩ : ∃ z, f = z + 1 := ⟨f - 1, by omega⟩
    have hk : k < bc β c 2 := by omega
    have hk' : ¬ bc β c 2 ≤ k := by omega
    have A := gl (N := N) (P := PC β m mp hs n tx k5 c) (LC := fun F h w u => f_X6_mixedChips_74 N 77 p1 k5 (f_X6_mixedChips_64 N 77 p1 k5 f) F h (nI c) (nI (bc β c 2)) (nI k) (nI w) u) (LM := fun G w v => f_X7_mixChip_26 N 95 (nI c) G (nI (3 * k + w)) v) (fc := fun w => f_X6_about N 77 (nI c) (nI k) (nI w)) (fm := fun w => f_X7_tellCell N 95 (nI c) (nI k) (nI w)) (B := 3) (f1 := N - 4 + 1) (g1 := g - 3) (β := β) (m := m) (mp := mp) (hs := hs) (n := n) (tx := tx)
      (fun F h w u v _ h3 => by
        have h3' : ¬ 3 ≤ w := by omega
        simp (disch := omega) only [f_X6_mixedChips_74, lit, nLE, h3', if_false, nI_add])
      (fun G w u v R h3 => by
        have hM := R.2.2.2.2.2.2.2.2.2.1
        have h3' : ¬ 3 * bc β c 2 ≤ 3 * k + w := by omega
        have e1 : nI (3 * k + w) / nI 3 = nI k := by rw [nDiv (by omega) (by omega) (by omega)]; congr 1; omega
        have e2 : nI (3 * k + w) - nI k * nI 3 = nI w := by rw [pk_mul, nSub (by omega)]; congr 1; omega
        simp (disch := omega) only [f_X7_mixChip_26, lit, m_getB hM (show c < 4 by omega), bnd_s, pk_mul, nLE, h3', if_false]
        rw [e1]
        rw [show nI (3 * k + w) - nI k * nI 3 = nI w from e2]
        simp only [nI_add, Nat.add_assoc])
      (fun w h3 => rr_about hN hw hc hk w h3)
      (fun h u v R hh => by
        have := ih (k + 1) f (g - 3) h u v (by omega) (by omega) (by omega) R hh
        simp (disch := omega) only [f_X6_mixedChips_74, lit, nLE, Nat.le_refl, if_true, nI_add]
        exact this) 3 0 h u v (by omega) R hh
    simp only [Nat.add_zero] at A
    rw [show N - 4 + 1 + 3 = N by omega, show g - 3 + 3 = g by omega] at A
    rw [f_X6_mixedChips_64, if_neg (fun z => hk' ((nLE (by omega) (by omega)).mp z))]
    exact A
theorem dg_chip (hN : 1000 ≤ N) (hw : WB β) {c : Nat} (hc : c < β 0) {p1 : Int64} {k5 : Int64 → Int32 → ASt → Option (Int64 × ASt)} {h : Int64} {u v : ASt} (R : Rl u v β m mp hs n tx) (hh : v.2 = h) : PC β m mp hs n tx k5 c (f_X6_mixedChips_20 N 77 p1 k5 N h (nI c) (nI 0) u) (f_X7_mixChip N 95 (nI c) v) := by
  have h4 := hw.1
  have h6 := hw.m6 hc
  refine gl0 (N := N) (P := PC β m mp hs n tx k5 c) (LC := fun F h w u => f_X6_mixedChips_20 N 77 p1 k5 F h (nI c) (nI w) u) (LM := fun G w v => f_X7_mixChip_2 N 95 (nI c) G (nI w) v) (fc := fun w => f_X6_of N 77 (nI c) (nI w)) (fm := fun w => f_X7_tellChip N 95 (nI c) (nI w)) (B := 8) (F := N) (G := N) (β := β) (m := m) (mp := mp) (hs := hs) (n := n) (tx := tx) ?_ ?_ (fun k hk => rr_of hN hw hc k hk) (by omega) (by omega) ?_ R hh
  · intro f h k u v _ hk
    have hk' : ¬ 8 ≤ k := by omega
    simp (disch := omega) only [f_X6_mixedChips_20, lit, nLE, hk', if_false, nI_add]
  · intro f k u v _ hk
    have hk' : ¬ 8 ≤ k := by omega
    simp (disch := omega) only [f_X7_mixChip_2, lit, nLE, hk', if_false, nI_add]
  · intro f g h u v R hh
    have hC := R.2.2.2.2.2.2.1
    have C6 := (hC.cc hc).2.2.2.2.2.2.1
    have := dg_cells (k5 := k5) (p1 := p1) hN hw hc (bc β c 2) 0 N N h u v (by omega) (by omega) (by omega) R hh
    simp (disch := omega) only [f_X6_mixedChips_20, f_X7_mixChip_2, lit, nLE, Nat.le_refl, if_true, ar77_0, ar_b0, al_1, chk_in, nCl, ar_1, C6, lte_s]
    exact this
theorem dg_chips (hN : 1000 ≤ N) (hw : WB β) {p1 : Int64} : ∀ d c f g h u v, c + d = β 0 → d < f → d < g → Rl u v β m mp hs n tx → v.2 = h → ∃ h' u' v', f_X6_mixedChips_5 N 77 p1 f h (nI c) u = some (h', u') ∧ f_X7_digest_75 N 95 g (nI c) v = f_X7_digest_96 N 95 N 0 v' ∧ Rl u' v' β m mp hs n tx ∧ v'.2 = h' := by
  have h4 := hw.1
  intro d
  induction d with
  | zero =>
    intro c f g h u v e hf hg R hh
    obtain ⟨f, rfl⟩ : ∃ z, f = z + 1 := ⟨f - 1, by omega⟩
    obtain ⟨g, rfl⟩ : ∃ z, g = z + 1 := ⟨g - 1, by omega⟩
    have hk : c = β 0 := by omega
    have hC := R.2.2.2.2.2.2.1
    have e0 := R.2.2.2.2.2.2.2.2.2.1 0 (by omega)
    refine ⟨h, u, v, ?_, ?_, R, hh⟩
    · rw [f_X6_mixedChips_5, ar77_0, hC.u0, hk, if_pos (Int32.le_refl _)]
    · rw [f_X7_digest_75, m_chips, bnd_s, e0, hk, if_pos (Int32.le_refl _)]
  | succ d ih =>
    intro c f g h u v e hf hg R hh
    obtain ⟨f, rfl⟩ : ∃ z, f = z + 1 := ⟨f - 1, by omega⟩
    obtain ⟨g, rfl⟩ : ∃ z, g = z + 1 := ⟨g - 1, by omega⟩
    have hC := R.2.2.2.2.2.2.1
    have e0 := R.2.2.2.2.2.2.2.2.2.1 0 (by omega)
    have hk' : ¬ nI (β 0) ≤ nI c := fun z => by have := (nLE (by omega) (by omega)).mp z; omega
    obtain ⟨h1, u1, v1, a1, a2, a3, a4⟩ := dg_chip (p1 := p1) (k5 := f_X6_mixedChips_5 N 77 p1 f) hN hw (show c < β 0 by omega) R hh
    obtain ⟨h2, u2, v2, b1, b2, b3, b4⟩ := ih (c + 1) f g h1 u1 v1 (by omega) (by omega) (by omega) a3 a4
    refine ⟨h2, u2, v2, ?_, ?_, b3, b4⟩
    · rw [f_X6_mixedChips_5, ar77_0, hC.u0, if_neg hk']
      exact a1.trans b1
    · rw [f_X7_digest_75, m_chips, bnd_s, e0, if_neg hk', a2, bnd_s, lit, nI_add]
      exact b2
/-! the whole -/
def Gd (x y : Option (Int64 × ASt)) : Prop := ∃ r u' v', x = some (r, u') ∧ y = some (r, v') ∧ Rel u' v'
theorem dg_end (hN : 1000 ≤ N) (hw : WB β) {h : Int64} {u v : ASt} (R : Rl u v β m mp hs n tx) (hh : v.2 = h) : Gd (f_X6_digest_81 N 77 N h (nI 0) u) (f_X7_digest_96 N 95 N (nI 0) v) := by
  have h2 := hw.2.2.1
  refine gl0 (N := N) (P := Gd) (LC := fun F h w u => f_X6_digest_81 N 77 F h (nI w) u) (LM := fun G w v => f_X7_digest_96 N 95 G (nI w) v) (fc := fun w u => some (agt u 2 w, u)) (fm := fun w v => some (agt v 96 (3 + w), v)) (B := β 2) (F := N) (G := N) (β := β) (m := m) (mp := mp) (hs := hs) (n := n) (tx := tx) ?_ ?_ ?_ (by omega) (by omega) ?_ R hh
  · intro f h k u v R hk
    have hC := R.2.2.2.2.2.2.1
    have hk' : ¬ β 2 ≤ k := by omega
    simp (disch := omega) only [f_X6_digest_81, lit, ar77_0, hC.u3, nLE, hk', if_false, ar_b2, al_2, chk_in, nCl, nI_add, bnd_s]
  · intro f k u v R hk
    have e2 := R.2.2.2.2.2.2.2.2.2.1 2 (by omega)
    have hk' : ¬ β 2 ≤ k := by omega
    simp (disch := omega) only [f_X7_digest_96, lit, ar95_0, al96, chk_in, nCl, e2, nLE, hk', if_false, nI_add, bnd_s]
  · intro k hk u v R
    exact ⟨nI (β (3 + k)), u, v, by show some (agt u 2 k, u) = _; rw [R.2.2.2.2.2.2.1.fl k hk]; rfl, by show some (agt v 96 (3 + k), v) = _; rw [R.2.2.2.2.2.2.2.2.2.1 (3 + k) (by omega)], R, rfl⟩
  · intro f g h u v R hh
    have hC := R.2.2.2.2.2.2.1
    have e2 := R.2.2.2.2.2.2.2.2.2.1 2 (by omega)
    show Gd (f_X6_digest_81 N 77 (f + 1) h (nI (β 2)) u) (f_X7_digest_96 N 95 (g + 1) (nI (β 2)) v)
    rw [f_X6_digest_81, f_X7_digest_96, ar77_0, hC.u3, if_pos (Int32.le_refl _), ar95_0, al96, chk_t (by decide), show Int32.toNatClampNeg 2 = 2 from rfl, e2, if_pos (Int32.le_refl _)]
    refine st_mix (P := Gd) (rr_pats hN hw) R hh (fun h1 u1 v1 R1 hh1 => ?_)
    refine st_mix (P := Gd) (rr_seen hN hw 0 (by omega)) R1 hh1 (fun h2 u2 v2 R2 hh2 => ?_)
    refine st_mix (P := Gd) (rr_seen hN hw 1 (by omega)) R2 hh2 (fun h3 u3 v3 R3 hh3 => ?_)
    refine st_mix (P := Gd) (rr_susp hN hw 0 (by omega)) R3 hh3 (fun h4 u4 v4 R4 hh4 => ?_)
    refine st_mix (P := Gd) (rr_susp hN hw 1 (by omega)) R4 hh4 (fun h5 u5 v5 R5 hh5 => ?_)
    exact ⟨h5, u5, v5, rfl, by rw [show agtL v5 = h5 from hh5], _, _, _, _, _, _, R5⟩
theorem dg_port (hN : 1000 ≤ N) (hw : WB β) {h : Int64} {u v : ASt} (R : Rl u v β m mp hs n tx) (hh : v.2 = h) : Gd (f_X6_digest_52 N 77 N h (nI 0) u) (f_X7_digest_53 N 95 N (nI 0) v) := by
  have h4 := hw.1
  refine gl0 (N := N) (P := Gd) (LC := fun F h w u => f_X6_digest_52 N 77 F h (nI w) u) (LM := fun G w v => f_X7_digest_53 N 95 G (nI w) v) (fc := fun w => f_X6_port N 77 (nI w)) (fm := fun w => f_X7_tellPort N 95 (nI w)) (B := 5) (F := N) (G := N) (β := β) (m := m) (mp := mp) (hs := hs) (n := n) (tx := tx) ?_ ?_ (fun k hk => rr_port hN hw k hk) (by omega) (by omega) ?_ R hh
  · intro f h k u v _ hk
    have hk' : ¬ 5 ≤ k := by omega
    simp (disch := omega) only [f_X6_digest_52, lit, nLE, hk', if_false, nI_add]
  · intro f k u v _ hk
    have hk' : ¬ 5 ≤ k := by omega
    simp (disch := omega) only [f_X7_digest_53, lit, nLE, hk', if_false, nI_add]
  · intro f g h u v R hh
    obtain ⟨h1, u1, v1, a1, a2, a3, a4⟩ := dg_chips (p1 := h) hN hw (β 0) 0 N N h u v (by omega) (by omega) (by omega) R hh
    have a1' : f_X6_mixedChips N 77 h u = some (h1, u1) := a1
    show Gd (f_X6_digest_52 N 77 (f + 1) h (nI 5) u) (f_X7_digest_53 N 95 (g + 1) (nI 5) v)
    rw [f_X6_digest_52, f_X7_digest_53, if_pos (by decide), if_pos (by decide), a1', bnd_s, show (0 : Int32) = nI 0 from rfl, a2]
    exact dg_end hN hw a3 a4
theorem dg_count (hN : 1000 ≤ N) (hw : WB β) {h : Int64} {u v : ASt} (R : Rl u v β m mp hs n tx) (hh : v.2 = h) : Gd (f_X6_digest_29 N 77 N h (nI 0) u) (f_X7_digest_31 N 95 N (nI 0) v) := by
  refine gl0 (N := N) (P := Gd) (LC := fun F h w u => f_X6_digest_29 N 77 F h (nI w) u) (LM := fun G w v => f_X7_digest_31 N 95 G (nI w) v) (fc := fun w => f_X6_count N 77 (nI w)) (fm := fun w => f_X7_countOf N 95 (nI w)) (B := 5) (F := N) (G := N) (β := β) (m := m) (mp := mp) (hs := hs) (n := n) (tx := tx) ?_ ?_ (fun k hk => rr_count hN hw k hk) (by omega) (by omega) ?_ R hh
  · intro f h k u v _ hk
    have hk' : ¬ 5 ≤ k := by omega
    simp (disch := omega) only [f_X6_digest_29, lit, nLE, hk', if_false, nI_add]
  · intro f k u v _ hk
    have hk' : ¬ 5 ≤ k := by omega
    simp (disch := omega) only [f_X7_digest_31, lit, nLE, hk', if_false, nI_add]
  · intro f g h u v R hh
    show Gd (f_X6_digest_29 N 77 (f + 1) h (nI 5) u) (f_X7_digest_31 N 95 (g + 1) (nI 5) v)
    rw [f_X6_digest_29, f_X7_digest_31, if_pos (by decide), if_pos (by decide)]
    exact dg_port hN hw R hh
theorem dg_told (hN : 1000 ≤ N) (hw : WB β) {h : Int64} {u v : ASt} (R : Rl u v β m mp hs n tx) (hh : v.2 = h) : Gd (f_X6_digest_6 N 77 N h (nI 0) u) (f_X7_digest_9 N 95 N (nI 0) v) := by
  refine gl0 (N := N) (P := Gd) (LC := fun F h w u => f_X6_digest_6 N 77 F h (nI w) u) (LM := fun G w v => f_X7_digest_9 N 95 G (nI w) v) (fc := fun w => f_X6_told N 77 (nI w)) (fm := fun w => f_X7_toldOf N 95 (nI w)) (B := 5) (F := N) (G := N) (β := β) (m := m) (mp := mp) (hs := hs) (n := n) (tx := tx) ?_ ?_ (fun k hk => rr_told k hk) (by omega) (by omega) ?_ R hh
  · intro f h k u v _ hk
    have hk' : ¬ 5 ≤ k := by omega
    simp (disch := omega) only [f_X6_digest_6, lit, nLE, hk', if_false, nI_add]
  · intro f k u v _ hk
    have hk' : ¬ 5 ≤ k := by omega
    simp (disch := omega) only [f_X7_digest_9, lit, nLE, hk', if_false, nI_add]
  · intro f g h u v R hh
    show Gd (f_X6_digest_6 N 77 (f + 1) h (nI 5) u) (f_X7_digest_9 N 95 (g + 1) (nI 5) v)
    rw [f_X6_digest_6, f_X7_digest_9, if_pos (by decide), if_pos (by decide)]
    exact dg_count hN hw R hh
def SmL (fc fm : ASt → Option (Int64 × ASt)) : Prop := ∀ u v, Rel u v → Gd (fc u) (fm v)
theorem sim_digest (hN : 1000 ≤ N) : SmL (f_X6_digest N 77) (f_X7_digest N 95) := by
  intro u v h
  obtain ⟨β, m, mp, hs, n, tx, R⟩ := h
  unfold f_X6_digest f_X7_digest
  rw [lte_s]
  exact dg_told hN R.1 (R.ck0 CK0.rf ⟨fun _ _ _ => rfl, rfl, rfl⟩ : Rl u (aptL v 2694) β m mp hs n tx) rfl
end DIG
