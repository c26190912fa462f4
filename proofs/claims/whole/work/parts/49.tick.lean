/-! a clock, class beside model -/
def nxl : List Nat := [1, 0, 1, 2, 3, 9, 4, 5, 4, 5, 6, 8, 6, 7, 4, 8, 1, 2, 10, 0, 11, 12, 11, 12, 13, 15, 13, 14, 11, 15, 1, 2]
def nxN (j : Nat) : Nat := nxl.getD j 0
theorem anx_n : ∀ j, j < 32 → anx j = nI (nxN j) := by decide
theorem nxN_lt : ∀ j, j < 32 → nxN j < 16 := by decide
theorem m_next {N p t : Nat} {v : ASt} (hp : p < 16) (ht : t ≤ 1) : f_X7_nextPlace N (nI p) (nI t) v = some (nI (nxN (2 * p + t)), v) := by
  have h1 : p = 0 ∨ p = 1 ∨ p = 2 ∨ p = 3 ∨ p = 4 ∨ p = 5 ∨ p = 6 ∨ p = 7 ∨ p = 8 ∨ p = 9 ∨ p = 10 ∨ p = 11 ∨ p = 12 ∨ p = 13 ∨ p = 14 ∨ p = 15 := by omega
  have h2 : t = 0 ∨ t = 1 := by omega
  rcases h1 with rfl | rfl | rfl | rfl | rfl | rfl | rfl | rfl | rfl | rfl | rfl | rfl | rfl | rfl | rfl | rfl <;> rcases h2 with rfl | rfl <;> rfl
def fin (β : Nat → Nat) (t : Nat) : Nat → Nat := sb β 1 (nxN (2 * β 1 + t))
theorem WB_fin {β : Nat → Nat} {t : Nat} (hw : WB β) (ht : t ≤ 1) : WB (fin β t) := by
  obtain ⟨a0, a1, a2, a3, a4⟩ := hw
  unfold fin WB
  rw [sb_ne (by omega), sb_eq, sb_ne (by omega)]
  refine ⟨a0, nxN_lt _ (by omega), a2, fun j hj => by rw [sb_ne (by omega)]; exact a3 j hj, fun c hc => ?_⟩
  have := a4 c hc
  unfold WC at this ⊢
  simp only [bc_lo (show 1 < 7 by omega)]
  exact this
section TICK
variable {N : Nat} {β B : Nat → Nat}
theorem k_fin {u : ASt} {t : Nat} {d r : Int32} (hw : WB B) (ht : t ≤ 1) (hC : CB u 0 B) : ∃ u', f_X0_tick_160 N 0 (nI t) d 78 r u = some (r, u') ∧ CB u' 0 (fin B t) ∧ CK u u' := by
  have h1 := hw.2.1
  have a4 := hC.u4
  have e : nI 2 * nI (B 1) + nI t = nI (2 * B 1 + t) := by rw [pk_mul, nI_add]
  refine ⟨apt u 0 4 (nI (nxN (2 * B 1 + t))), ?_, ?_, fun a h1 _ => apt_ne (by omega)⟩
  · simp (disch := omega) only [f_X0_tick_160, lit, a4, e, chk_in, nCl, anx_n, lte_s]
  · have h3 := hC.2.2.1
    have hf := hC.2.2.2.1
    simp only [Nat.mul_zero, Nat.zero_add] at h3 hf
    refine CB_lo hC hw (sb_ne (by omega)) (fun c f => bc_lo (by omega)) (fun a h1 h2 => apt_ne (by omega)) (agt_pt_k (by omega)) (agt_pt_k (by omega)) (agt_pt_k (by omega)) ?_ ?_ (fun j hj => ?_)
    · rw [agt_pt_s]; unfold fin; rw [sb_eq]
    · rw [agt_pt_k (by omega)]; unfold fin; rw [sb_ne (by omega)]; exact h3
    · unfold fin at hj ⊢
      rw [sb_ne (by omega)] at hj
      rw [agt_pt_o (by omega), sb_ne (by omega)]
      exact hf j hj
theorem m_fin {v : ASt} {t : Nat} {d r : Int32} (hw : WB B) (ht : t ≤ 1) (hM : MB v B) : ∃ v', f_X7_clocksOnce_47 N 95 (nI t) d (nI (B 1)) r v = some (r, v') ∧ MB v' (fin B t) ∧ MK v v' := by
  refine ⟨_, ?_, hM.put (i := 1) (x := nxN (2 * B 1 + t)), MK.p96⟩
  simp (disch := omega) only [f_X7_clocksOnce_47, m_next hw.2.1 ht, bnd_s, lit, ar95_0, ar95_1, ar95_2, ar95_4, ar95_5, ar95_7, ar95_9, ar95_11, ar95_12, ar95_16, ar95_17, al96, al97, al98, al99, al100, al101, al102, al103, al104, al105, al106, chk_in, nCl, lte_s]
/-- the way of one place: what both do there, then the next place -/
theorem tick_by {t d p r : Nat} {B : Nat → Nat} (hw : WB β) (hB : WB B) (ht : t ≤ 1) (hd : d ≤ 1) (hr : r ≤ 2) (h1 : B 1 = β 1)
    (hc : ∀ u, CB u 0 β → ∃ u', f_X0_tick N 0 (nI t) (nI d) 78 u = f_X0_tick_160 N 0 (nI t) (nI d) 78 (nI r) u' ∧ CB u' 0 B ∧ CK u u')
    (hm : ∀ v, MB v β → ∃ v', f_X7_clocksOnce N 95 (nI t) (nI d) v = f_X7_clocksOnce_47 N 95 (nI t) (nI d) (nI (β 1)) (nI r) v' ∧ MB v' B ∧ MK v v') :
    ∃ r β', r ≤ 2 ∧ WB β' ∧ IC (f_X0_tick N 0 (nI t) (nI d) 78) β (nI r) β' ∧ IM (f_X7_clocksOnce N 95 (nI t) (nI d)) β (nI r) β' := by
  refine ⟨r, fin B t, hr, WB_fin hB ht, fun u hu => ?_, fun v hv => ?_⟩
  · obtain ⟨u1, e1, e2, e3⟩ := hc u hu
    obtain ⟨u2, g1, g2, g3⟩ := k_fin (N := N) (d := nI d) (r := nI r) hB ht e2
    exact ⟨u2, e1.trans g1, g2, e3.tr g3⟩
  · obtain ⟨v1, e1, e2, e3⟩ := hm v hv
    obtain ⟨v2, g1, g2, g3⟩ := m_fin (N := N) (d := nI d) (r := nI r) hB ht e2
    rw [h1] at g1
    exact ⟨v2, e1.trans g1, g2, e3.tr g3⟩
theorem isb {t : Nat} (ht : t ≤ 1) : nI t = nI 0 ∨ nI t = nI 1 := by
  have : t = 0 ∨ t = 1 := by omega
  rcases this with rfl | rfl
  · exact Or.inl rfl
  · exact Or.inr rfl
/-- the model's clock, where it doesn't shift -/
theorem m_once {t d : Nat} {B : Nat → Nat} (hN : 20 ≤ N) (hw : WB β) (h4 : β 1 ≠ 4) (h11 : β 1 ≠ 11) (hp : ∀ v, MB v β → UF v (Fb β) (β 2) → R8 v 102 (NVn β) → ∃ v', f_X7_doesPlace_6 N 95 (nI (β 1)) N (nI 0) v = some ((), v') ∧ MB v' B ∧ MK v v') : ∀ v, MB v β → ∃ v', f_X7_clocksOnce N 95 (nI t) (nI d) v = f_X7_clocksOnce_47 N 95 (nI t) (nI d) (nI (β 1)) (nI 2) v' ∧ MB v' B ∧ MK v v' := by
  intro v hM
  have h1 := hw.2.1
  obtain ⟨v1, a1, a2, a3, a4, -⟩ := m_laysNow hN hw hM
  obtain ⟨v2, b1, b2, b3⟩ := hp v1 (a2.mb hM) a3 a4
  refine ⟨v2, ?_, b2, a2.k.tr b3⟩
  simp (disch := omega) only [f_X7_clocksOnce, f_X7_doesPlace, lit, ar95_0, ar95_1, ar95_2, ar95_4, ar95_5, ar95_7, ar95_9, ar95_11, ar95_12, ar95_16, ar95_17, al96, al97, al98, al99, al100, al101, al102, al103, al104, al105, al106, chk_in, nCl, hM 1 (by omega), lte_s, nE, h4, h11, if_false, a1, bnd_s, b1]
theorem tick_ok {t d : Nat} (hN : 20 ≤ N) (hw : WB β) (ht : t ≤ 1) (hd : d ≤ 1) : ∃ r β', r ≤ 2 ∧ WB β' ∧ IC (f_X0_tick N 0 (nI t) (nI d) 78) β (nI r) β' ∧ IM (f_X7_clocksOnce N 95 (nI t) (nI d)) β (nI r) β' := by
  have h16 := hw.2.1
  have b1 := isb ht
  have b2 := isb hd
  have b3 : t = 0 ∨ t = 1 := by omega
  have b4 : d = 0 ∨ d = 1 := by omega
  by_cases p0 : β 1 = 0
  · have hx : ∀ c, c < β 0 → ((3 : Nat) = 3 ∨ (3 : Nat) = 4 → fst_ (bc β c 0) (bc β c 1) < 16) ∧ fst_ (bc β c 0) (bc β c 1) < 256 := fun c hc => by
      have := fst_lt (d := bc β c 1) ⟨(hw.2.2.2.2 c hc).1, (hw.2.2.2.2 c hc).2.1⟩
      omega
    refine tick_by (p := 0) (r := 2) (B := upF β 3 (fun c => fst_ (bc β c 0) (bc β c 1)) (β 0)) hw (WB_upF hw (by omega) hx _ (Nat.le_refl _)) ht hd (by omega) (upF_lo (by omega) _) (fun u hu => ?_) (m_once hN hw (by omega) (by omega) (fun v h _ _ => by rw [p0]; exact m_resets hw hN h))
    obtain ⟨u', e1, e2, e3⟩ := k_resets (N := N) hw hN hu
    have a4 := hu.u4
    rw [p0] at a4
    refine ⟨u', ?_, e2, e3⟩
    simp (disch := omega) only [f_X0_tick, k_isBit, lit, bnd_s, bI0, b1, b2, b3, b4, not_true, if_false, a4, if_true, e1]
  · by_cases p3 : β 1 = 3
    · refine tick_by (p := 3) (r := 2) (B := upF β 5 (capt β) (β 0)) hw (WB_upF hw (by omega) (capt_b hw) _ (Nat.le_refl _)) ht hd (by omega) (upF_lo (by omega) _) (fun u hu => ?_) (m_once hN hw (by omega) (by omega) (fun v h h2 h3 => by rw [p3]; exact m_capDR hw hN h h2 h3))
      obtain ⟨u', e1, e2, e3⟩ := k_capDR (N := N) hw hN hu
      have a4 := hu.u4
      refine ⟨u', ?_, e2, e3⟩
      simp (disch := omega) only [f_X0_tick, k_isBit, lit, bnd_s, bI0, b1, b2, b3, b4, not_true, if_false, a4, nE, p0, p3, if_true, e1, show ¬ (3 : Nat) = 0 by omega]
    · by_cases p4 : β 1 = 4
      · have hx : ∀ c, c < β 0 → ((5 : Nat) = 3 ∨ (5 : Nat) = 4 → sfx β 5 d (ln_ β) c < 16) ∧ sfx β 5 d (ln_ β) c < 256 := fun c hc => by
          have := sfx5 hw hc hd
          omega
        have bl : btf β 5 d (β 0) ≤ 2 := Nat.le_trans (btf_1 hd) (by omega)
        refine tick_by (p := 4) (r := btf β 5 d (β 0)) (B := upF β 5 (sfx β 5 d (ln_ β)) (β 0)) hw (WB_upF hw (by omega) hx _ (Nat.le_refl _)) ht hd bl (upF_lo (by omega) _) (fun u hu => ?_) (fun v hM => ?_)
        · obtain ⟨u', e1, e2, e3⟩ := k_shDR (N := N) hw hN hd hu
          have a4 := hu.u4
          refine ⟨u', ?_, e2, e3⟩
          simp (disch := omega) only [f_X0_tick, k_isBit, lit, bnd_s, bI0, b1, b2, b3, b4, not_true, if_false, a4, nE, p4, if_true, e1, show ¬ (4 : Nat) = 0 by omega, show ¬ (4 : Nat) = 3 by omega]
        · obtain ⟨v', e1, e2, e3⟩ := m_shDR (N := N) hw hN hd hM
          refine ⟨v', ?_, e2, e3⟩
          simp (disch := omega) only [f_X7_clocksOnce, f_X7_clocksOnce_21, f_X7_clocksOnce_33, lit, ar95_0, ar95_1, ar95_2, ar95_4, ar95_5, ar95_7, ar95_9, ar95_11, ar95_12, ar95_16, ar95_17, al96, al97, al98, al99, al100, al101, al102, al103, al104, al105, al106, chk_in, nCl, hM 1 (by omega), lte_s, nE, p4, if_true, if_false, e1, bnd_s, show ¬ (4 : Nat) = 11 by omega]
      · by_cases p8 : β 1 = 8
        · refine tick_by (p := 8) (r := 2) (B := upF β 6 (ulx β) (β 0)) hw (WB_upF hw (by omega) (ulx_b hw) _ (Nat.le_refl _)) ht hd (by omega) (upF_lo (by omega) _) (fun u hu => ?_) (m_once hN hw (by omega) (by omega) (fun v h _ _ => by rw [p8]; exact m_updDR hw hN h))
          obtain ⟨u', e1, e2, e3⟩ := k_updDR (N := N) hw hN hu
          have a4 := hu.u4
          refine ⟨u', ?_, e2, e3⟩
          simp (disch := omega) only [f_X0_tick, k_isBit, lit, bnd_s, bI0, b1, b2, b3, b4, not_true, if_false, a4, nE, p8, if_true, e1, show ¬ (8 : Nat) = 0 by omega, show ¬ (8 : Nat) = 3 by omega, show ¬ (8 : Nat) = 4 by omega]
        · by_cases p10 : β 1 = 10
          · refine tick_by (p := 10) (r := 2) (B := upF β 4 (fun _ => 1) (β 0)) hw (WB_upF hw (by omega) (fun c hc => by omega) _ (Nat.le_refl _)) ht hd (by omega) (upF_lo (by omega) _) (fun u hu => ?_) (m_once hN hw (by omega) (by omega) (fun v h _ _ => by rw [p10]; exact m_capIR hw hN h))
            obtain ⟨u', e1, e2, e3⟩ := k_capIR (N := N) hw hN hu
            have a4 := hu.u4
            refine ⟨u', ?_, e2, e3⟩
            simp (disch := omega) only [f_X0_tick, k_isBit, lit, bnd_s, bI0, b1, b2, b3, b4, not_true, if_false, a4, nE, p10, if_true, e1, show ¬ (10 : Nat) = 0 by omega, show ¬ (10 : Nat) = 3 by omega, show ¬ (10 : Nat) = 4 by omega, show ¬ (10 : Nat) = 8 by omega]
          · by_cases p11 : β 1 = 11
            · have hx : ∀ c, c < β 0 → ((4 : Nat) = 3 ∨ (4 : Nat) = 4 → sfx β 4 d (fun c => bc β c 0) c < 16) ∧ sfx β 4 d (fun c => bc β c 0) c < 256 := fun c hc => by
                have := sfx4 hw hc hd
                omega
              have bl : btf β 4 d (β 0) ≤ 2 := Nat.le_trans (btf_1 hd) (by omega)
              refine tick_by (p := 11) (r := btf β 4 d (β 0)) (B := upF β 4 (sfx β 4 d (fun c => bc β c 0)) (β 0)) hw (WB_upF hw (by omega) hx _ (Nat.le_refl _)) ht hd bl (upF_lo (by omega) _) (fun u hu => ?_) (fun v hM => ?_)
              · obtain ⟨u', e1, e2, e3⟩ := k_shIR (N := N) hw hN hd hu
                have a4 := hu.u4
                refine ⟨u', ?_, e2, e3⟩
                simp (disch := omega) only [f_X0_tick, k_isBit, lit, bnd_s, bI0, b1, b2, b3, b4, not_true, if_false, a4, nE, p11, if_true, e1, show ¬ (11 : Nat) = 0 by omega, show ¬ (11 : Nat) = 3 by omega, show ¬ (11 : Nat) = 4 by omega, show ¬ (11 : Nat) = 8 by omega, show ¬ (11 : Nat) = 10 by omega]
              · obtain ⟨v', e1, e2, e3⟩ := m_shIR (N := N) hw hN hd hM
                refine ⟨v', ?_, e2, e3⟩
                simp (disch := omega) only [f_X7_clocksOnce, f_X7_clocksOnce_21, f_X7_clocksOnce_33, lit, ar95_0, ar95_1, ar95_2, ar95_4, ar95_5, ar95_7, ar95_9, ar95_11, ar95_12, ar95_16, ar95_17, al96, al97, al98, al99, al100, al101, al102, al103, al104, al105, al106, chk_in, nCl, hM 1 (by omega), lte_s, nE, p11, if_true, if_false, e1, bnd_s, show ¬ (11 : Nat) = 4 by omega]
            · by_cases p15 : β 1 = 15
              · refine tick_by (p := 15) (r := 2) (B := upF β 3 (fun c => bc β c 4) (β 0)) hw (WB_upF hw (by omega) (fun c hc => by have := (hw.2.2.2.2 c hc).2.2.2.2.2.1; omega) _ (Nat.le_refl _)) ht hd (by omega) (upF_lo (by omega) _) (fun u hu => ?_) (m_once hN hw (by omega) (by omega) (fun v h _ _ => by rw [p15]; exact m_updIR hw hN h))
                obtain ⟨u', e1, e2, e3⟩ := k_updIR (N := N) hw hN hu
                have a4 := hu.u4
                refine ⟨u', ?_, e2, e3⟩
                simp (disch := omega) only [f_X0_tick, k_isBit, lit, bnd_s, bI0, b1, b2, b3, b4, not_true, if_false, a4, nE, p15, if_true, e1, show ¬ (15 : Nat) = 0 by omega, show ¬ (15 : Nat) = 3 by omega, show ¬ (15 : Nat) = 4 by omega, show ¬ (15 : Nat) = 8 by omega, show ¬ (15 : Nat) = 10 by omega, show ¬ (15 : Nat) = 11 by omega]
              · refine tick_by (p := 1) (r := 2) (B := β) hw hw ht hd (by omega) rfl (fun u hu => ?_) (m_once hN hw p4 p11 (fun v h _ _ => m_idle hw hN h16 ⟨p0, p10, p3, p15, p8⟩ h))
                have a4 := hu.u4
                refine ⟨u, ?_, hu, CK.rf⟩
                simp (disch := omega) only [f_X0_tick, k_isBit, lit, bnd_s, bI0, b1, b2, b3, b4, not_true, if_false, a4, nE, p0, p3, p4, p8, p10, p11, p15]
theorem Op_tick (hN : 20 ≤ N) (hw : WB β) (a b : Int32) : Op (f_X0_tick N 0 a b 78) (f_X7_clocksTo N 95 a b) β := by
  by_cases h1 : a = nI 0 ∨ a = nI 1
  · by_cases h2 : b = nI 0 ∨ b = nI 1
    · obtain ⟨t, ht, rfl⟩ := of_bit h1
      obtain ⟨d, hd, rfl⟩ := of_bit h2
      obtain ⟨r, β', e1, e2, e3, e4⟩ := tick_ok (N := N) (t := t) (d := d) hN hw (by omega) (by omega)
      refine ⟨nI r, β', e2, e3, fun v hv => ?_, Or.inl (r_pos (by omega))⟩
      obtain ⟨v', g1, g2⟩ := e4 v hv
      refine ⟨v', ?_, g2⟩
      simp (disch := omega) only [f_X7_clocksTo, m_isBit, lit, bnd_s, bI0, h1, h2, not_true, if_false, g1]
    · refine Op_bad hw (fun u _ => ?_) (fun v _ => ?_)
      · simp (disch := omega) only [f_X0_tick, f_X0_tick_14, k_isBit, lit, bnd_s, bI0, h1, h2, not_true, not_false_eq_true, if_true, if_false]
      · simp (disch := omega) only [f_X7_clocksTo, f_X7_clocksTo_23, m_isBit, lit, bnd_s, bI0, h1, h2, not_true, not_false_eq_true, if_true, if_false]
  · refine Op_bad hw (fun u _ => ?_) (fun v _ => ?_)
    · simp (disch := omega) only [f_X0_tick, f_X0_tick_14, k_isBit, lit, bnd_s, bI0, h1, not_false_eq_true, if_true]
    · simp (disch := omega) only [f_X7_clocksTo, f_X7_clocksTo_23, m_isBit, lit, bnd_s, bI0, h1, not_false_eq_true, if_true]
end TICK
