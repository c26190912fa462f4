/-! what drives the nets now -/
def drb (β O : Nat → Nat) (c k : Nat) : Prop := bc β c 3 = 0 ∧ bc β c (7 + 2 * k) = 1 ∧ (O c).testBit k = false
noncomputable def dm1 (β O : Nat → Nat) (b : Bool) (c : Nat) : Nat → Nat
  | 0 => 0
  | k + 1 => dm1 β O b c k ||| (@ite Nat (drb β O c k ∧ (bc β c 6).testBit k = b) (Classical.propDecidable _) (1 <<< bc β c (8 + 2 * k)) 0)
noncomputable def dm (β O : Nat → Nat) (b : Bool) : Nat → Nat
  | 0 => 0
  | c + 1 => dm β O b c ||| dm1 β O b c (bc β c 2)
theorem dm1_lt {β O : Nat → Nat} {b : Bool} {c : Nat} : ∀ n, (∀ k, k < n → bc β c (8 + 2 * k) < 8) → dm1 β O b c n < 256
  | 0, _ => by show 0 < 256; decide
  | n + 1, h => by
    refine Nat.or_lt_two_pow (n := 8) (dm1_lt n (fun k hk => h k (by omega))) ?_
    split
    · exact shl_256 (Nat.le_refl 1) (h n (by omega))
    · decide
theorem dm_lt {β O : Nat → Nat} {b : Bool} : ∀ n, (∀ c, c < n → ∀ k, k < bc β c 2 → bc β c (8 + 2 * k) < 8) → dm β O b n < 256
  | 0, _ => by show 0 < 256; decide
  | n + 1, h => Nat.or_lt_two_pow (n := 8) (dm_lt n (fun c hc => h c (by omega))) (dm1_lt _ (h n (by omega)))
theorem WB.net {β : Nat → Nat} (h : WB β) {c k : Nat} (hc : c < β 0) (hk : k < bc β c 2) : bc β c (8 + 2 * k) < 8 := ((h.2.2.2.2 c hc).2.2.2.2.2.2.2.2 k hk).2
theorem WB.kind {β : Nat → Nat} (h : WB β) {c k : Nat} (hc : c < β 0) (hk : k < bc β c 2) : bc β c (7 + 2 * k) ≤ 1 := ((h.2.2.2.2 c hc).2.2.2.2.2.2.2.2 k hk).1
theorem WB.m6 {β : Nat → Nat} (h : WB β) {c : Nat} (hc : c < β 0) : bc β c 2 ≤ 6 := (h.2.2.2.2 c hc).2.2.2.1
/-- the outputs that drive -/
def drm (β O : Nat → Nat) (c : Nat) : Nat := if bc β c 3 = 0 then omk β c (bc β c 2) &&& (255 ^^^ O c) else 0
theorem drm_lt {β O : Nat → Nat} {c : Nat} (hw : WB β) (hc : c < β 0) : drm β O c < 256 := by
  unfold drm
  split
  · exact andN_lt (omk_lt _ (hw.m6 hc) (fun k hk => hw.kind hc hk))
  · decide
theorem drm_tb {β O : Nat → Nat} {c k : Nat} (hw : WB β) (hc : c < β 0) (hk : k < bc β c 2) : (drm β O c).testBit k = true ↔ drb β O c k := by
  unfold drm drb
  have h6 := hw.m6 hc
  by_cases q : bc β c 3 = 0
  · rw [if_pos q, Nat.testBit_and, Nat.testBit_xor, tb_255, omk_tb _ (fun j hj => hw.kind hc hj)]
    have h8 : k < 8 := by omega
    simp [q, hk, h8]
  · rw [if_neg q]
    simp [q]
section DRIVE
variable {N e : Nat} {β O : Nat → Nat}
theorem k_drive_in (he : e = 78 ∨ e = 86) (hw : WB β) {c : Nat} (hc : c < β 0) {u : ASt} (hC : CB u 0 β) {k6 : Int32 → Int32 → Int32 → ASt → Option (Unit × ASt)} {z o : Nat} : ∀ n k, k ≤ bc β c 2 → bc β c 2 < n + k → f_X3_driveByLatches_50 N e k6 n (nI (z ||| dm1 β O false c k)) (nI (o ||| dm1 β O true c k)) (nI c) (3 + c) (nI (drm β O c)) (nI k) u = k6 (nI (z ||| dm1 β O false c (bc β c 2))) (nI (o ||| dm1 β O true c (bc β c 2))) (nI (c + 1)) u := by
  have h4 := hw.1
  have h6 := hw.m6 hc
  have hCC := hC.cc hc
  have g6 := hCC.2.2.2.2.2.2.1
  have g5 := hCC.2.2.2.2.2.1
  have hL := (hw.2.2.2.2 c hc).2.2.2.2.2.2.2.1
  have hD := drm_lt (O := O) hw hc
  have hDL : drm β O c &&& bc β c 6 < 2147483648 := Nat.lt_of_le_of_lt Nat.and_le_left (by omega)
  intro n
  induction n with
  | zero => intro k h1 h2; omega
  | succ n ih =>
    intro k h1 h2
    by_cases hk : bc β c 2 ≤ k
    · have ek : k = bc β c 2 := by omega
      subst ek
      simp (disch := omega) only [f_X3_driveByLatches_50, lit, g6, nLE, Nat.le_refl, if_true, nI_add]
    · have hk' : ¬ bc β c 2 ≤ k := hk
      have hk2 : k < bc β c 2 := by omega
      have hn := hw.net hc hk2
      have g8 := hCC.2.2.2.2.2.2.2.2 k hk2
      have IH := ih (k + 1) (by omega) (by omega)
      have sh : nI 1 <<< (nI (bc β c (8 + 2 * k)) &&& nI 31) = nI (1 <<< bc β c (8 + 2 * k)) := nShl (by omega) (Nat.lt_of_lt_of_le (shl_256 (Nat.le_refl 1) hn) (by decide))
      have m1 : f_X6_isMember N (nI (drm β O c) &&& nI (bc β c 6)) (nI k) u = some (bI ((drm β O c &&& bc β c 6).testBit k = true), u) := by rw [nAnd]; exact k_isMember hDL (by omega)
      have m2 : f_X6_isMember N (nI (drm β O c)) (nI k) u = some (bI ((drm β O c).testBit k = true), u) := k_isMember (by omega) (by omega)
      have st : f_X3_driveByLatches_50 N e k6 (n + 1) (nI (z ||| dm1 β O false c k)) (nI (o ||| dm1 β O true c k)) (nI c) (3 + c) (nI (drm β O c)) (nI k) u = f_X3_driveByLatches_50 N e k6 n (nI (z ||| dm1 β O false c (k + 1))) (nI (o ||| dm1 β O true c (k + 1))) (nI c) (3 + c) (nI (drm β O c)) (nI (k + 1)) u := by
        by_cases qd : (drm β O c).testBit k = true
        · have hd := (drm_tb (O := O) hw hc hk2).mp qd
          by_cases ql : (bc β c 6).testBit k = true
          · have qa : (drm β O c &&& bc β c 6).testBit k = true := by rw [Nat.testBit_and, qd, ql]; rfl
            have e0 : dm1 β O false c (k + 1) = dm1 β O false c k := by
              rw [dm1, if_neg (by rw [ql]; simp), Nat.or_zero]
            have e1 : dm1 β O true c (k + 1) = dm1 β O true c k ||| 1 <<< bc β c (8 + 2 * k) := by
              rw [dm1, if_pos ⟨hd, ql⟩]
            simp (disch := omega) only [f_X3_driveByLatches_50, f_X3_driveByLatches_115, lit, g6, nLE, hk', if_false, g5, m1, bnd_s, bI0, qa, not_true, ar_c8, al_7c, chk_in, nCl, g8, sh, nOr, lte_s, nI_add, e0, e1, Nat.or_assoc]
          · have ql' : (bc β c 6).testBit k = false := by simpa using ql
            have qa : ¬ (drm β O c &&& bc β c 6).testBit k = true := by rw [Nat.testBit_and, ql']; simp
            have e0 : dm1 β O false c (k + 1) = dm1 β O false c k ||| 1 <<< bc β c (8 + 2 * k) := by
              rw [dm1, if_pos ⟨hd, ql'⟩]
            have e1 : dm1 β O true c (k + 1) = dm1 β O true c k := by
              rw [dm1, if_neg (by rw [ql']; simp), Nat.or_zero]
            simp (disch := omega) only [f_X3_driveByLatches_50, f_X3_driveByLatches_115, lit, g6, nLE, hk', if_false, g5, m1, m2, bnd_s, bI0, qa, qd, not_true, Bool.false_eq_true, not_false_eq_true, if_true, ar_c8, al_7c, chk_in, nCl, g8, sh, nOr, lte_s, nI_add, e0, e1, Nat.or_assoc]
        · have hd : ¬ drb β O c k := fun z => qd ((drm_tb (O := O) hw hc hk2).mpr z)
          have qd' : (drm β O c).testBit k = false := by simpa using qd
          have qa : ¬ (drm β O c &&& bc β c 6).testBit k = true := by rw [Nat.testBit_and, qd']; simp
          have e0 : ∀ b, dm1 β O b c (k + 1) = dm1 β O b c k := fun b => by
            rw [dm1, if_neg (fun z => hd z.1), Nat.or_zero]
          simp (disch := omega) only [f_X3_driveByLatches_50, f_X3_driveByLatches_115, lit, g6, nLE, hk', if_false, g5, m1, m2, bnd_s, bI0, qa, qd, Bool.false_eq_true, not_false_eq_true, if_true, nI_add, e0]
      rw [st]
      exact IH
theorem k_drive_out (he : e = 78 ∨ e = 86) (hw : WB β) {u : ASt} (hC : CB u 0 β) (hO : ∀ c, c < 4 → agt u (e + 2) c = nI (O c)) (hN : 20 ≤ N) : ∀ n c, c ≤ β 0 → β 0 < n + c → f_X3_driveByLatches_6 N e n (nI (dm β O false c)) (nI (dm β O true c)) (nI c) u = f_X3_driveByLatches_136 N e N (nI (dm β O false (β 0))) (nI 0) (apt u e 5 (nI (dm β O false (β 0) &&& dm β O true (β 0)))) := by
  have h4 := hw.1
  have a0 := hC.1
  simp only [Nat.mul_zero] at a0
  intro n
  induction n with
  | zero => intro c h1 h2; omega
  | succ n ih =>
    intro c h1 h2
    by_cases hc : β 0 ≤ c
    · have ec : c = β 0 := by omega
      subst ec
      simp (disch := omega) only [f_X3_driveByLatches_6, lit, ne_0 he, a0, nLE, Nat.le_refl, if_true, lte_s, nAnd]
    · have hc' : ¬ β 0 ≤ c := hc
      have hc2 : c < β 0 := by omega
      have hCC := hC.cc hc2
      have g2 := hCC.2.2.1
      have g7 := hCC.2.2.2.2.2.2.2.1
      have h16 := (hw.2.2.2.2 c hc2).2.2.2.2.1
      have IN := fun k6 => k_drive_in (N := N) (O := O) (k6 := k6) (z := dm β O false c) (o := dm β O true c) he hw hc2 hC N 0 (by omega) (by have := hw.m6 hc2; omega)
      have IH := ih (c + 1) (by omega) (by omega)
      rw [dm, dm] at IH
      have om := omk_lt (β := β) (c := c) _ (hw.m6 hc2) (fun k hk => hw.kind hc2 hk)
      have IN2 := IN (f_X3_driveByLatches_6 N e n)
      rw [show dm1 β O false c 0 = 0 from rfl, show dm1 β O true c 0 = 0 from rfl, Nat.or_zero, Nat.or_zero] at IN2
      by_cases q : bc β c 3 = 0
      · have ed : nI (omk β c (bc β c 2)) &&& (nI (O c) ^^^ (-nI 1)) = nI (drm β O c) := by
          have := nAndN (a := omk β c (bc β c 2)) (b := O c) om
          unfold drm
          rw [if_pos q]
          exact this
        simp (disch := omega) only [f_X3_driveByLatches_6, f_X3_driveByLatches_45, f_X3_soundOutputs, lit, ne_0 he, ne_2 he, nl_2 he, a0, nLE, hc', if_false, ar_b0, al_1, chk_in, nCl, ar_1, g2, q, if_true, hO c (by omega), g7, ed, bnd_s]
        rw [IN2]
        exact IH
      · have ed : drm β O c = 0 := by unfold drm; rw [if_neg q]
        rw [ed] at IN2
        simp (disch := omega) only [f_X3_driveByLatches_6, f_X3_driveByLatches_45, lit, ne_0 he, a0, nLE, hc', if_false, ar_b0, al_1, chk_in, nCl, ar_1, g2, nE, q]
        rw [IN2]
        exact IH
theorem k_drive_w (he : e = 78 ∨ e = 86) {z : Nat} (hz : z < 256) : ∀ n j u, j ≤ 8 → 8 < n + j → (∀ i, i < j → agt u (e + 1) i = nI (if z.testBit i = true then 0 else 1)) → ∃ u', f_X3_driveByLatches_136 N e n (nI z) (nI j) u = some ((), u') ∧ NK e u u' ∧ R8 u' (e + 1) (fun i => if z.testBit i = true then 0 else 1) ∧ u'.1 e = u.1 e ∧ u'.1 (e + 2) = u.1 (e + 2) := by
  intro n
  induction n with
  | zero => intro j u h1 h2; omega
  | succ n ih =>
    intro j u h1 h2 hI
    by_cases hj : 8 ≤ j
    · have ej : j = 8 := by omega
      subst ej
      refine ⟨u, ?_, NK.rf, hI, rfl, rfl⟩
      simp (disch := omega) only [f_X3_driveByLatches_136, lit, nLE, Nat.le_refl, if_true]
    · have hj' : ¬ 8 ≤ j := hj
      obtain ⟨u', e1, e2, e3, e4, e5⟩ := ih (j + 1) (apt u (e + 1) j (nI (if z.testBit j = true then 0 else 1))) (by omega) (by omega) (fun i hi => by
        rw [agt_pt]
        by_cases q : i = j
        · subst q; simp
        · rw [if_neg (by omega)]; exact hI i (by omega))
      refine ⟨u', ?_, (NK.p (Or.inr (Or.inl rfl))).tr e2, e3, e4.trans (apt_ne (by omega)), e5.trans (apt_ne (by omega))⟩
      have mm : f_X6_isMember N (nI z) (nI j) u = some (bI (z.testBit j = true), u) := k_isMember (by omega) (by omega)
      by_cases q : z.testBit j = true
      · rw [if_pos q] at e1
        simp (disch := omega) only [f_X3_driveByLatches_136, f_X3_driveByLatches_160, lit, nLE, hj', if_false, mm, bnd_s, bI0, q, not_true, ne_1 he, nl_1 he, chk_in, nCl, lte_s, nI_add]
        exact e1
      · rw [if_neg q] at e1
        simp (disch := omega) only [f_X3_driveByLatches_136, f_X3_driveByLatches_160, lit, nLE, hj', if_false, mm, bnd_s, bI0, q, Bool.false_eq_true, not_false_eq_true, if_true, ne_1 he, nl_1 he, chk_in, nCl, lte_s, nI_add]
        exact e1
theorem k_drive (he : e = 78 ∨ e = 86) (hw : WB β) (hN : 20 ≤ N) {u : ASt} (hC : CB u 0 β) (hO : ∀ c, c < 4 → agt u (e + 2) c = nI (O c)) : ∃ u', f_X3_driveByLatches N e u = some ((), u') ∧ NK e u u' ∧ R8 u' (e + 1) (fun i => if (dm β O false (β 0)).testBit i = true then 0 else 1) ∧ agt u' e 5 = nI (dm β O false (β 0) &&& dm β O true (β 0)) ∧ agt u' e 4 = agt u e 4 ∧ u'.1 (e + 2) = u.1 (e + 2) := by
  have hz := dm_lt (β := β) (O := O) (b := false) (β 0) (fun c hc k hk => hw.net hc hk)
  have h4 := hw.1
  obtain ⟨u', e1, e2, e3, e4, e5⟩ := k_drive_w (N := N) he hz N 0 (apt u e 5 (nI (dm β O false (β 0) &&& dm β O true (β 0)))) (by omega) (by omega) (fun i hi => by omega)
  refine ⟨u', ?_, (NK.p (Or.inl rfl)).tr e2, e3, by rw [agt_e e4, agt_pt_s], by rw [agt_e e4, agt_pt_k (by omega)], e5.trans (apt_ne (by omega))⟩
  have := k_drive_out (N := N) (O := O) he hw hC hO hN N 0 (by omega) (by omega)
  unfold f_X3_driveByLatches
  rw [show (0 : Int32) = nI (dm β O false 0) from rfl]
  exact (this.trans e1)
end DRIVE
