/-! the nets now -/
def Fb (β : Nat → Nat) : Nat → Nat := fun j => β (3 + j)
def Ob (β : Nat → Nat) : Nat → Nat := ocs (Fb β) (β 2)
noncomputable def Wn (β : Nat → Nat) : Nat → Nat := fun i => if (dm β (Ob β) false (β 0)).testBit i = true then 0 else 1
noncomputable def NVn (β : Nat → Nat) : Nat → Nat := sts 1 (Fb β) (β 2) (shs (Fb β) (β 2) (Wn β))
noncomputable def fgt (β : Nat → Nat) : Nat := dm β (Ob β) false (β 0) &&& dm β (Ob β) true (β 0)
theorem WB.fb {β : Nat → Nat} (h : WB β) : ∀ j, j < β 2 → WF (Fb β j) := h.2.2.2.1
theorem Wn_B {β : Nat → Nat} : B8 (Wn β) := fun n _ => by unfold Wn; split <;> omega
theorem NVn_B {β : Nat → Nat} (h : WB β) : B8 (NVn β) := sts_B (by decide) _ (shs_B _ h.fb Wn_B)
theorem CB.nk {u u' : ASt} {β : Nat → Nat} {e : Nat} (h : CB u 0 β) (hw : WB β) (he : e = 78 ∨ e = 86) (hk : NK e u u') : CB u' 0 β := h.kept hw.1 (fun a h1 h2 => hk a (by omega) (by omega) (by omega))
theorem CB.fl {u : ASt} {β : Nat → Nat} (h : CB u 0 β) : FL u 2 (Fb β) (β 2) := fun j hj => by
  have := h.2.2.2.1 j hj
  simp only [Nat.mul_zero, Nat.zero_add] at this
  exact this
theorem CB.ck0 {u u' : ASt} {β : Nat → Nat} (h : CB u 0 β) (hw : WB β) (hk : CK0 u u') : CB u' 0 β := h.kept hw.1 (fun a h1 h2 => hk a (by omega))
theorem k_settle {N : Nat} {β : Nat → Nat} (hN : 20 ≤ N) (hw : WB β) {u : ASt} (hC : CB u 0 β) : ∃ u', f_X3_settleNow N 78 u = some ((), u') ∧ NK 78 u u' ∧ R8 u' 79 (NVn β) ∧ (∀ c, c < 4 → agt u' 80 c = nI (Ob β c)) ∧ agt u' 78 4 = nI 1 ∧ agt u' 78 5 = nI (fgt β) := by
  have he : (78 : Nat) = 78 ∨ (78 : Nat) = 86 := Or.inl rfl
  have h24 := hw.2.2.1
  have K0 : NK 78 u (apt u 78 4 (nI 1)) := NK.p (Or.inl rfl)
  have C0 := hC.nk hw he K0
  obtain ⟨u1, a1, a2, a3, a4, a5⟩ := k_open (N := N) (o1 := 2) (m := β 2) (F := Fb β) hN he (Or.inl (by omega)) (by rw [al_2]; exact h24) h24 hw.fb C0.fl
  have C1 := C0.nk hw he a2
  obtain ⟨u2, b1, b2, b3, b4, b5, b6⟩ := k_drive (N := N) (O := Ob β) he hw hN C1 a3
  have C2 := C1.nk hw he b2
  obtain ⟨u3, c1, c2, c3, c4, c5⟩ := k_short_loop (N := N) (o1 := 2) (m := β 2) (F := Fb β) (W := Wn β) he (Or.inl (by omega)) (by rw [al_2]; exact h24) h24 hw.fb Wn_B N 0 u2 (by omega) (by omega) C2.fl b3
  have C3 := C2.nk hw he c2
  have A3 : agt u3 78 4 = nI 1 := by rw [agt_e c4, b5, a5, agt_pt_s]
  obtain ⟨u4, d1, d2, d3, d4, d5⟩ := k_stuck_loop (N := N) (o1 := 2) (m := β 2) (F := Fb β) (A := 1) (W := shs (Fb β) (β 2) (Wn β)) he (Or.inl (by omega)) (by rw [al_2]; exact h24) h24 hw.fb N 0 u3 (by omega) (by omega) C3.fl A3 c3
  refine ⟨u4, ?_, (K0.tr a2).tr ((b2.tr c2).tr d2), d3, fun c hc => ?_, by rw [agt_e d4]; exact A3, by rw [agt_e d4, agt_e c4]; exact b4⟩
  · have z0 : agt (apt u 78 4 (nI 1)) 0 3 = nI (β 2) := by have := C0.2.2.1; simpa using this
    have z2 : agt u2 0 3 = nI (β 2) := by have := C2.2.2.1; simpa using this
    have z3 : agt u3 0 3 = nI (β 2) := by have := C3.2.2.1; simpa using this
    have c1' : f_X3_applyShorts N 78 2 (nI (β 2)) u2 = some ((), u3) := c1
    have d1' : f_X3_applyStuck N 78 2 (nI (β 2)) u3 = some ((), u4) := d1
    simp (disch := omega) only [f_X3_settleNow, lit, lte_s, ar78_0, ar_b2, z0, a1, bnd_s, b1, z2, c1', z3, d1']
  · rw [agt_e d5, agt_e c5, agt_e b6]
    exact a3 c hc
/-- what cell k of chip c sees -/
def sn (A : Nat) (O W β : Nat → Nat) (c k : Nat) : Nat := if (O c).testBit k = true then A else W (bc β c (8 + 2 * k))
theorem k_seen {N e A : Nat} {β O W : Nat → Nat} (he : e = 78 ∨ e = 86) (hw : WB β) {u : ASt} (hC : CB u 0 β) (hR : R8 u (e + 1) W) (hO : ∀ c, c < 4 → agt u (e + 2) c = nI (O c)) (hO2 : ∀ c, O c < 256) (hA : agt u e 4 = nI A) {c k : Nat} (hc : c < β 0) (hk : k < bc β c 2) : f_X3_seenBy N e (nI c) (nI k) u = some (nI (sn A O W β c k), u) := by
  have h4 := hw.1
  have h6 := hw.m6 hc
  have hn := hw.net hc hk
  have o8 := hO2 c
  have g8 := (hC.cc hc).2.2.2.2.2.2.2.2 k hk
  have mm : f_X6_isMember N (nI (O c)) (nI k) u = some (bI ((O c).testBit k = true), u) := k_isMember (by omega) (by omega)
  have rn := hR _ hn
  unfold sn
  by_cases q : (O c).testBit k = true
  · rw [if_pos q]
    simp (disch := omega) only [f_X3_seenBy, lit, ne_0 he, ne_2 he, nl_2 he, chk_in, nCl, hO c (by omega), mm, bnd_s, bI0, q, not_true, if_false, hA]
  · rw [if_neg q]
    simp (disch := omega) only [f_X3_seenBy, lit, ne_0 he, ne_1 he, nl_1 he, ne_2 he, nl_2 he, chk_in, nCl, hO c (by omega), mm, bnd_s, bI0, q, Bool.false_eq_true, not_false_eq_true, if_true, ar_b0, al_1, ar_1, ar_c8, al_7c, g8, rn]
/-! the model -/
theorem m_usesAll_loop {N : Nat} {β : Nat → Nat} (hw : WB β) : ∀ n j v, j ≤ β 2 → β 2 < n + j → MB v β → agt v 95 8 = nI (β 2) → (∀ i, i < j → agt v 101 i = nI (Fb β i)) → ∃ v', f_X7_usesAll_12 N 95 n (nI j) v = some ((), v') ∧ UF v' (Fb β) (β 2) ∧ (∀ a, a ≠ 101 → v'.1 a = v.1 a) := by
  have h24 := hw.2.2.1
  intro n
  induction n with
  | zero => intro j u h1 h2; omega
  | succ n ih =>
    intro j v h1 h2 hM h8 hI
    by_cases hj : β 2 ≤ j
    · have ej : j = β 2 := by omega
      subst ej
      refine ⟨v, ?_, ⟨h8, hI⟩, fun a _ => rfl⟩
      simp (disch := omega) only [f_X7_usesAll_12, lit, h8, nLE, Nat.le_refl, if_true]
    · have hj' : ¬ β 2 ≤ j := hj
      have ne : ∀ a, a ≠ 101 → (apt v 101 j (nI (β (3 + j)))).1 a = v.1 a := fun a ha => apt_ne ha
      obtain ⟨u', e1, e2, e3⟩ := ih (j + 1) (apt v 101 j (nI (β (3 + j)))) (by omega) (by omega) (fun k hk => by rw [agt_e (ne 96 (by omega))]; exact hM k hk) (by rw [agt_e (ne 95 (by omega))]; exact h8) (fun i hi => by
        rw [agt_pt]
        by_cases q : i = j
        · subst q; simp [Fb]
        · rw [if_neg (by omega)]; exact hI i (by omega))
      refine ⟨u', ?_, e2, fun a ha => (e3 a ha).trans (ne a ha)⟩
      simp (disch := omega) only [f_X7_usesAll_12, lit, h8, nLE, hj', if_false, ar95_0, ar95_1, ar95_2, ar95_4, ar95_5, ar95_7, ar95_9, ar95_11, ar95_12, ar95_16, ar95_17, al96, al97, al98, al99, al100, al101, al102, al103, al104, al105, al106, nI_add, chk_in, nCl, hM (3 + j) (by omega), lte_s]
      exact e1
def MU (v v' : ASt) : Prop := (∀ a, a ≠ 95 → a ≠ 101 → v'.1 a = v.1 a) ∧ ∀ k, k ≠ 8 → agt v' 95 k = agt v 95 k
theorem MU.mk0 {v v' : ASt} (h : MU v v') : MK0 v v' := ⟨fun a h1 h2 => h.1 a (by omega) (by omega), h.2 3 (by omega), h.2 6 (by omega)⟩
theorem m_usesAll {N : Nat} {β : Nat → Nat} (hN : 20 ≤ N) (hw : WB β) {v : ASt} (hM : MB v β) : ∃ v', f_X7_usesAll N 95 v = some ((), v') ∧ UF v' (Fb β) (β 2) ∧ MU v v' := by
  have h24 := hw.2.2.1
  have ne : ∀ a, a ≠ 95 → (apt v 95 8 (nI (β 2))).1 a = v.1 a := fun a ha => apt_ne ha
  obtain ⟨v', e1, e2, e3⟩ := m_usesAll_loop (N := N) hw N 0 (apt v 95 8 (nI (β 2))) (by omega) (by omega) (fun k hk => by rw [agt_e (ne 96 (by omega))]; exact hM k hk) (agt_pt_s _ _ _ _) (fun i hi => by omega)
  refine ⟨v', ?_, e2, fun a h1 h2 => (e3 a h2).trans (ne a h1), fun k hk => by rw [agt_e (e3 95 (by omega)), agt_pt_k hk]⟩
  simp (disch := omega) only [f_X7_usesAll, lit, ar95_0, ar95_1, ar95_2, ar95_4, ar95_5, ar95_7, ar95_9, ar95_11, ar95_12, ar95_16, ar95_17, al96, al97, al98, al99, al100, al101, al102, al103, al104, al105, al106, chk_in, nCl, hM 2 (by omega), lte_s]
  exact e1
theorem lat_bit {x k : Nat} (hx : x < 256) (hk : k < 8) : (nI x >>> (nI k &&& nI 31)) &&& nI 1 = nI (if x.testBit k = true then 1 else 0) := by
  have e : nI x >>> (nI k &&& nI 31) = nI (x >>> k) := nShr (by omega) (by omega)
  rw [e, nAnd, tb_bit]
theorem m_drives_now {N m : Nat} {β F : Nat → Nat} (hN : 20 ≤ N) (hw : WB β) (hm : m ≤ 4) (hF : ∀ j, j < m → WF (F j)) {v : ASt} (hM : MB v β) (hU : UF v F m) {c k : Nat} (hc : c < β 0) (hk : k < bc β c 2) : f_X7_drives N 95 (nI c) (nI k) (-1) v = some (dv (fun c k => drb β (ocs F m) c k ∧ (bc β c 6).testBit k = false) (fun c k => drb β (ocs F m) c k ∧ (bc β c 6).testBit k = true) c k, v) := by
  have h4 := hw.1
  have h6 := hw.m6 hc
  have hx := hw.kind hc hk
  have h7 := (hw.2.2.2.2 c hc).2.2.2.2.2.2.2.1
  have h16 := (hw.2.2.2.2 c hc).2.2.2.2.1
  have a1 : f_X7_isOut N 95 (nI c) (nI k) v = some (bI (bc β c (7 + 2 * k) = 1), v) := m_outB hM (by omega) (by omega) hx
  have a2 : f_X7_isOpen N 95 (nI c) (nI k) v = some (bI ((ocs F m c).testBit k = true), v) := m_open (by omega) (by omega) hN hm hF hU
  have r0 : ¬ (nI 0 ≤ (-nI 1 : Int32)) := by decide
  have lb := lat_bit (x := bc β c 6) (k := k) (by omega) (by omega)
  unfold dv drb
  by_cases q1 : bc β c (7 + 2 * k) = 1
  · by_cases q2 : (ocs F m c).testBit k = true
    · rw [if_neg (fun z => absurd (q2.symm.trans z.1.2.2) (by decide)), if_neg (fun z => absurd (q2.symm.trans z.1.2.2) (by decide))]
      simp (disch := omega) only [f_X7_drives, f_X7_drives_31, lit, a1, a2, bnd_s, bI0, q1, q2, not_true, if_false]
    · have q2' : (ocs F m c).testBit k = false := by simpa using q2
      by_cases q3 : bc β c 3 = 0
      · by_cases q4 : (bc β c 6).testBit k = true
        · rw [if_neg (fun z => absurd (q4.symm.trans z.2) (by decide)), if_pos ⟨⟨q3, q1, q2'⟩, q4⟩]
          rw [if_pos q4] at lb
          simp (disch := omega) only [f_X7_drives, f_X7_drives_33, lit, a1, a2, bnd_s, bI0, q1, q2, Bool.false_eq_true, not_true, not_false_eq_true, if_true, if_false, r0, m_getB hM (show c < 4 by omega), q3, lb]
        · have q4' : (bc β c 6).testBit k = false := by simpa using q4
          rw [if_pos ⟨⟨q3, q1, q2'⟩, q4'⟩]
          rw [if_neg q4] at lb
          simp (disch := omega) only [f_X7_drives, f_X7_drives_33, lit, a1, a2, bnd_s, bI0, q1, q2, Bool.false_eq_true, not_true, not_false_eq_true, if_true, if_false, r0, m_getB hM (show c < 4 by omega), q3, lb]
      · rw [if_neg (fun z => q3 z.1.1), if_neg (fun z => q3 z.1.1)]
        simp (disch := omega) only [f_X7_drives, f_X7_drives_31, lit, a1, a2, bnd_s, bI0, q1, q2, Bool.false_eq_true, not_true, not_false_eq_true, if_true, if_false, r0, m_getB hM (show c < 4 by omega), nE, q3]
  · rw [if_neg (fun z => q1 z.1.2.1), if_neg (fun z => q1 z.1.2.1)]
    simp (disch := omega) only [f_X7_drives, f_X7_drives_31, lit, a1, bnd_s, bI0, q1, not_false_eq_true, if_true]
/-- the model's nets by any pattern, once it is known what drives -/
theorem m_lays {N m : Nat} {β F : Nat → Nat} (hN : 20 ≤ N) (hw : WB β) (hm : m ≤ 4) (hF : ∀ j, j < m → WF (F j)) {v : ASt} (hM : MB v β) (hU : UF v F m) {p : Int32} {P0 P1 : Nat → Nat → Prop} (hx : ∀ c k, P0 c k → ¬ P1 c k) (hD : ∀ c, c < β 0 → ∀ k, k < bc β c 2 → f_X7_drives N 95 (nI c) (nI k) p v = some (dv P0 P1 c k, v)) : ∃ v', f_X7_laysNets N 95 p v = some ((), v') ∧ MN v v' ∧ R8 v' 102 (sts 1 F m (shs F m (fun i => if (gm β P0 (β 0)).testBit i = true then 0 else 1))) ∧ agt v' 95 10 = nI (gm β P0 (β 0) &&& gm β P1 (β 0)) := by
  obtain ⟨v1, a1, a2, a3, a4⟩ := m_drive (N := N) hw hN hM hx hD
  have B : B8 (fun i => if (gm β P0 (β 0)).testBit i = true then 0 else 1) := fun n _ => by dsimp only; split <;> omega
  obtain ⟨v2, b1, b2, b3, b4⟩ := m_short_loop (N := N) (p := p) hm hF B N 0 v1 (by omega) (by omega) (a2.uf hU) a3
  obtain ⟨v3, c1, c2, c3, c4⟩ := m_stuck_loop (N := N) (p := p) hm hF (W := shs F m (fun i => if (gm β P0 (β 0)).testBit i = true then 0 else 1)) N 0 v2 (by omega) (by omega) (b2.uf (a2.uf hU)) b3
  refine ⟨v3, ?_, (a2.tr b2).tr c2, c3, by rw [agt_e c4, agt_e b4]; exact a4⟩
  unfold f_X7_laysNets
  rw [a1, bnd_s]
  exact (b1.trans c1)
theorem m_laysNow {N : Nat} {β : Nat → Nat} (hN : 20 ≤ N) (hw : WB β) {v : ASt} (hM : MB v β) : ∃ v', f_X7_laysNow N 95 v = some ((), v') ∧ MK0 v v' ∧ UF v' (Fb β) (β 2) ∧ R8 v' 102 (NVn β) ∧ agt v' 95 10 = nI (fgt β) := by
  have h24 := hw.2.2.1
  obtain ⟨v1, a1, a2, a3⟩ := m_usesAll hN hw hM
  have M1 := a3.mk0.mb hM
  obtain ⟨v2, b1, b2, b3, b4⟩ := m_lays (N := N) hN hw h24 hw.fb M1 a2 (P0 := fun c k => drb β (Ob β) c k ∧ (bc β c 6).testBit k = false) (P1 := fun c k => drb β (Ob β) c k ∧ (bc β c 6).testBit k = true) (fun c k h1 h2 => absurd (h1.2.symm.trans h2.2) (by decide)) (p := -1) (fun c hc k hk => m_drives_now hN hw h24 hw.fb M1 a2 hc hk)
  refine ⟨v2, ?_, a3.mk0.tr b2.mk0, b2.uf a2, ?_, ?_⟩
  · unfold f_X7_laysNow
    rw [a1, bnd_s, b1, bnd_s]
  · rw [← gm_dm] at b3
    exact b3
  · rw [← gm_dm, ← gm_dm] at b4
    exact b4
theorem m_sees {N m : Nat} {β F W : Nat → Nat} (hN : 20 ≤ N) (hw : WB β) (hm : m ≤ 4) (hF : ∀ j, j < m → WF (F j)) {v : ASt} (hM : MB v β) (hU : UF v F m) (hR : R8 v 102 W) {c k : Nat} (hc : c < β 0) (hk : k < bc β c 2) : f_X7_sees N 95 (nI c) (nI k) v = some (nI (sn 1 (ocs F m) W β c k), v) := by
  have h4 := hw.1
  have h6 := hw.m6 hc
  have hn := hw.net hc hk
  have a2 : f_X7_isOpen N 95 (nI c) (nI k) v = some (bI ((ocs F m c).testBit k = true), v) := m_open (by omega) (by omega) hN hm hF hU
  have nt : f_X7_netOf N 95 (nI c) (nI k) v = some (nI (bc β c (8 + 2 * k)), v) := m_netB hM (by omega) (by omega)
  have rn := hR _ hn
  unfold sn
  by_cases q : (ocs F m c).testBit k = true
  · rw [if_pos q]
    simp (disch := omega) only [f_X7_sees, lit, a2, bnd_s, bI0, q, not_true, if_false]
  · rw [if_neg q]
    simp (disch := omega) only [f_X7_sees, lit, a2, bnd_s, bI0, q, Bool.false_eq_true, not_false_eq_true, if_true, nt, ar95_0, ar95_1, ar95_2, ar95_4, ar95_5, ar95_7, ar95_9, ar95_11, ar95_12, ar95_16, ar95_17, al96, al97, al98, al99, al100, al101, al102, al103, al104, al105, al106, chk_in, nCl, rn]
