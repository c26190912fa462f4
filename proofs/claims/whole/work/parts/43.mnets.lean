/-! the model's nets -/
def UF (v : ASt) (F : Nat → Nat) (m : Nat) : Prop := agt v 95 8 = nI m ∧ ∀ j, j < m → agt v 101 j = nI (F j)
def MN (v v' : ASt) : Prop := (∀ a, a ≠ 95 → a ≠ 102 → v'.1 a = v.1 a) ∧ ∀ k, k ≠ 10 → agt v' 95 k = agt v 95 k
theorem MN.rf {v : ASt} : MN v v := ⟨fun _ _ _ => rfl, fun _ _ => rfl⟩
theorem MN.tr {a b c : ASt} (h : MN a b) (g : MN b c) : MN a c := ⟨fun q h1 h2 => (g.1 q h1 h2).trans (h.1 q h1 h2), fun k hk => (g.2 k hk).trans (h.2 k hk)⟩
theorem MN.p102 {v : ASt} {k : Nat} {x : Int32} : MN v (apt v 102 k x) := ⟨fun a _ h => apt_ne h, fun k _ => agt_pt_o (by decide)⟩
theorem MN.p95 {v : ASt} {x : Int32} : MN v (apt v 95 10 x) := ⟨fun a h _ => apt_ne h, fun k hk => agt_pt_k hk⟩
theorem MN.mk0 {v v' : ASt} (h : MN v v') : MK0 v v' := ⟨fun a h1 h2 => h.1 a (by omega) (by omega), h.2 3 (by omega), h.2 6 (by omega)⟩
theorem MN.uf {v v' : ASt} {F : Nat → Nat} {m : Nat} (h : MN v v') (g : UF v F m) : UF v' F m := ⟨(h.2 8 (by omega)).trans g.1, fun j hj => (agt_e (h.1 101 (by omega) (by omega)) j).trans (g.2 j hj)⟩
theorem MN.mb {v v' : ASt} {β : Nat → Nat} (h : MN v v') (g : MB v β) : MB v' β := h.mk0.mb g
theorem MB.kind {v : ASt} {β : Nat → Nat} (h : MB v β) {c k : Nat} (hc : c < 4) (hk : k < 6) : agt v 96 (7 + 19 * c + (7 + 2 * k)) = nI (bc β c (7 + 2 * k)) := h.get hc (by omega)
theorem m_netB {N c k : Nat} {v : ASt} {β : Nat → Nat} (h : MB v β) (hc : c < 4) (hk : k < 6) : f_X7_netOf N 95 (nI c) (nI k) v = some (nI (bc β c (8 + 2 * k)), v) := by
  rw [m_netOf (by omega), show (7 : Nat) + 2 * k + 1 = 8 + 2 * k by omega, h.get hc (by omega)]
theorem m_outB {N c k : Nat} {v : ASt} {β : Nat → Nat} (h : MB v β) (hc : c < 4) (hk : k < 6) (h1 : bc β c (7 + 2 * k) ≤ 1) : f_X7_isOut N 95 (nI c) (nI k) v = some (bI (bc β c (7 + 2 * k) = 1), v) := m_isOut (by omega) (h.kind hc hk) h1
section MNETS
variable {N m : Nat} {F β : Nat → Nat}
theorem m_open_loop {c k : Nat} (hc : c < 10) (hk : k < 10) (hm : m ≤ 4) (hF : ∀ j, j < m → WF (F j)) {v : ASt} (hU : UF v F m) : ∀ n j, j ≤ m → m < n + j → f_X7_isOpen_5 N 95 (nI c) (nI k) n (bI ((ocs F j c).testBit k = true)) (nI j) v = some (bI ((ocs F m c).testBit k = true), v) := by
  intro n
  induction n with
  | zero => intro j h1 h2; omega
  | succ n ih =>
    intro j h1 h2
    by_cases hj : m ≤ j
    · have ej : j = m := by omega
      subst ej
      simp (disch := omega) only [f_X7_isOpen_5, lit, hU.1, nLE, Nat.le_refl, if_true, chk_b]
    · have hj' : ¬ m ≤ j := hj
      have hW := hF j (by omega)
      have hx := WF_lt hW
      have fj := hU.2 j (by omega)
      have IH := ih (j + 1) (by omega) (by omega)
      have T1 := ocs_tb (F := F) j (fun i hi => hF i (by omega)) c k hc hk
      have T2 := ocs_tb (F := F) (j + 1) (fun i hi => hF i (by omega)) c k hc hk
      by_cases q : (ocs F j c).testBit k = true
      · have q2 : (ocs F (j + 1) c).testBit k = true := T2.mpr (by obtain ⟨i, a, b⟩ := T1.mp q; exact ⟨i, by omega, b⟩)
        rw [bIt q2] at IH
        simp (disch := omega) only [f_X7_isOpen_5, f_X7_isOpen_38, f_X7_isOpen_43, lit, hU.1, nLE, hj', if_false, bI0, q, not_true, nI_add]
        exact IH
      · by_cases q3 : F j = 1000 + 10 * c + k
        · have q2 : (ocs F (j + 1) c).testBit k = true := T2.mpr ⟨j, by omega, q3⟩
          rw [bIt q2] at IH
          simp (disch := omega) only [f_X7_isOpen_5, f_X7_isOpen_38, f_X7_isOpen_43, lit, hU.1, nLE, hj', if_false, bI0, q, Bool.false_eq_true, not_false_eq_true, if_true, ar95_0, ar95_1, ar95_2, ar95_4, ar95_5, ar95_7, ar95_9, ar95_11, ar95_12, ar95_16, ar95_17, al96, al97, al98, al99, al100, al101, al102, al103, al104, al105, al106, chk_in, nCl, fj, pk_mul, nI_add, nE, q3]
          exact IH
        · have q2 : ¬ (ocs F (j + 1) c).testBit k = true := fun z => by
            obtain ⟨i, a, b⟩ := T2.mp z
            by_cases e : i = j
            · subst e; exact q3 b
            · exact q (T1.mpr ⟨i, by omega, b⟩)
          rw [bIf q2] at IH
          simp (disch := omega) only [f_X7_isOpen_5, f_X7_isOpen_38, f_X7_isOpen_43, lit, hU.1, nLE, hj', if_false, bI0, q, Bool.false_eq_true, not_false_eq_true, if_true, ar95_0, ar95_1, ar95_2, ar95_4, ar95_5, ar95_7, ar95_9, ar95_11, ar95_12, ar95_16, ar95_17, al96, al97, al98, al99, al100, al101, al102, al103, al104, al105, al106, chk_in, nCl, fj, pk_mul, nI_add, nE, q3]
          exact IH
theorem m_open {c k : Nat} (hc : c < 10) (hk : k < 10) (hN : 20 ≤ N) (hm : m ≤ 4) (hF : ∀ j, j < m → WF (F j)) {v : ASt} (hU : UF v F m) : f_X7_isOpen N 95 (nI c) (nI k) v = some (bI ((ocs F m c).testBit k = true), v) := by
  have := m_open_loop (N := N) hc hk hm hF hU N 0 (by omega) (by omega)
  rw [bIf (show ¬ (ocs F 0 c).testBit k = true by simp [ocs])] at this
  exact this
/-- masks of the nets of those cells -/
noncomputable def gm1 (β : Nat → Nat) (P : Nat → Nat → Prop) (c : Nat) : Nat → Nat
  | 0 => 0
  | k + 1 => gm1 β P c k ||| (@ite Nat (P c k) (Classical.propDecidable _) (1 <<< bc β c (8 + 2 * k)) 0)
noncomputable def gm (β : Nat → Nat) (P : Nat → Nat → Prop) : Nat → Nat
  | 0 => 0
  | c + 1 => gm β P c ||| gm1 β P c (bc β c 2)
theorem gm1_lt {P : Nat → Nat → Prop} {c : Nat} : ∀ n, (∀ k, k < n → bc β c (8 + 2 * k) < 8) → gm1 β P c n < 256
  | 0, _ => by show 0 < 256; decide
  | n + 1, h => by
    refine Nat.or_lt_two_pow (n := 8) (gm1_lt n (fun k hk => h k (by omega))) ?_
    split
    · exact shl_256 (Nat.le_refl 1) (h n (by omega))
    · decide
theorem gm_lt {P : Nat → Nat → Prop} : ∀ n, (∀ c, c < n → ∀ k, k < bc β c 2 → bc β c (8 + 2 * k) < 8) → gm β P n < 256
  | 0, _ => by show 0 < 256; decide
  | n + 1, h => Nat.or_lt_two_pow (n := 8) (gm_lt n (fun c hc => h c (by omega))) (gm1_lt _ (h n (by omega)))
theorem gm1_dm {O : Nat → Nat} {b : Bool} {c : Nat} : ∀ n, dm1 β O b c n = gm1 β (fun c k => drb β O c k ∧ (bc β c 6).testBit k = b) c n
  | 0 => rfl
  | n + 1 => by rw [dm1, gm1, gm1_dm n]
theorem gm_dm {O : Nat → Nat} {b : Bool} : ∀ n, dm β O b n = gm β (fun c k => drb β O c k ∧ (bc β c 6).testBit k = b) n
  | 0 => rfl
  | n + 1 => by rw [dm, gm, gm_dm n, gm1_dm]
/-- what the model drives: 0, 1 or nothing -/
noncomputable def dv (P0 P1 : Nat → Nat → Prop) (c k : Nat) : Int32 := @ite Int32 (P0 c k) (Classical.propDecidable _) (nI 0) (@ite Int32 (P1 c k) (Classical.propDecidable _) (nI 1) (-1))
theorem m_drive_in (hw : WB β) {c : Nat} (hc : c < β 0) {v : ASt} (hM : MB v β) {p : Int32} {P0 P1 : Nat → Nat → Prop} (hx : ∀ c k, P0 c k → ¬ P1 c k) (hD : ∀ k, k < bc β c 2 → f_X7_drives N 95 (nI c) (nI k) p v = some (dv P0 P1 c k, v)) {k7 : Int32 → Int32 → Int32 → ASt → Option (Unit × ASt)} {z o : Nat} : ∀ n k, k ≤ bc β c 2 → bc β c 2 < n + k → f_X7_laysDrivers_19 N 95 p k7 n (nI (z ||| gm1 β P0 c k)) (nI (o ||| gm1 β P1 c k)) (nI c) (nI k) v = k7 (nI (z ||| gm1 β P0 c (bc β c 2))) (nI (o ||| gm1 β P1 c (bc β c 2))) (nI (c + 1)) v := by
  have h4 := hw.1
  have h6 := hw.m6 hc
  intro n
  induction n with
  | zero => intro k h1 h2; omega
  | succ n ih =>
    intro k h1 h2
    by_cases hk : bc β c 2 ≤ k
    · have ek : k = bc β c 2 := by omega
      subst ek
      simp (disch := omega) only [f_X7_laysDrivers_19, lit, m_getB hM (show c < 4 by omega), bnd_s, nLE, Nat.le_refl, if_true, nI_add]
    · have hk' : ¬ bc β c 2 ≤ k := hk
      have hk2 : k < bc β c 2 := by omega
      have hn := hw.net hc hk2
      have IH := ih (k + 1) (by omega) (by omega)
      rw [gm1, gm1] at IH
      have sh : nI 1 <<< (nI (bc β c (8 + 2 * k)) &&& nI 31) = nI (1 <<< bc β c (8 + 2 * k)) := nShl (by omega) (Nat.lt_of_lt_of_le (shl_256 (Nat.le_refl 1) hn) (by decide))
      have nt : f_X7_netOf N 95 (nI c) (nI k) v = some (nI (bc β c (8 + 2 * k)), v) := m_netB hM (by omega) (by omega)
      have dd := hD k hk2
      unfold dv at dd
      by_cases q0 : P0 c k
      · rw [if_pos q0] at dd IH
        rw [if_neg (hx c k q0)] at IH
        have r1 : ¬ (nI 0 = nI 1) := by decide
        simp (disch := omega) only [f_X7_laysDrivers_19, f_X7_laysDrivers_62, f_X7_laysDrivers_85, lit, m_getB hM (show c < 4 by omega), bnd_s, nLE, hk', if_false, dd, if_true, nt, sh, nOr, lte_s, r1, nI_add, Nat.or_assoc]
        exact IH
      · rw [if_neg q0] at dd IH
        by_cases q1 : P1 c k
        · rw [if_pos q1] at dd IH
          have r1 : ¬ (nI 1 = nI 0) := by decide
          simp (disch := omega) only [f_X7_laysDrivers_19, f_X7_laysDrivers_62, f_X7_laysDrivers_85, lit, m_getB hM (show c < 4 by omega), bnd_s, nLE, hk', if_false, dd, r1, if_true, nt, sh, nOr, lte_s, nI_add, Nat.or_assoc]
          exact IH
        · rw [if_neg q1] at dd IH
          have r1 : ¬ ((-nI 1 : Int32) = nI 0) := by decide
          have r2 : ¬ ((-nI 1 : Int32) = nI 1) := by decide
          have dd2 : f_X7_drives N 95 (nI c) (nI k) p v = some (-nI 1, v) := dd
          simp (disch := omega) only [f_X7_laysDrivers_19, f_X7_laysDrivers_62, f_X7_laysDrivers_85, lit, m_getB hM (show c < 4 by omega), bnd_s, nLE, hk', if_false, dd2, r1, r2, nOr, lte_s, nI_add, Nat.or_assoc]
          exact IH
theorem m_drive_out (hw : WB β) {v : ASt} (hM : MB v β) (hN : 20 ≤ N) {p : Int32} {P0 P1 : Nat → Nat → Prop} (hx : ∀ c k, P0 c k → ¬ P1 c k) (hD : ∀ c, c < β 0 → ∀ k, k < bc β c 2 → f_X7_drives N 95 (nI c) (nI k) p v = some (dv P0 P1 c k, v)) : ∀ n c, c ≤ β 0 → β 0 < n + c → f_X7_laysDrivers_7 N 95 p n (nI (gm β P0 c)) (nI (gm β P1 c)) (nI c) v = f_X7_laysDrivers_109 N 95 p N (nI (gm β P0 (β 0))) (nI 0) (apt v 95 10 (nI (gm β P0 (β 0) &&& gm β P1 (β 0)))) := by
  have h4 := hw.1
  intro n
  induction n with
  | zero => intro c h1 h2; omega
  | succ n ih =>
    intro c h1 h2
    by_cases hc : β 0 ≤ c
    · have ec : c = β 0 := by omega
      subst ec
      simp (disch := omega) only [f_X7_laysDrivers_7, m_chips, hM 0 (by omega), bnd_s, lit, nLE, Nat.le_refl, if_true, lte_s, nAnd]
    · have hc' : ¬ β 0 ≤ c := hc
      have hc2 : c < β 0 := by omega
      have IN := m_drive_in (N := N) hw hc2 hM hx (hD c hc2) (k7 := f_X7_laysDrivers_7 N 95 p n) (z := gm β P0 c) (o := gm β P1 c) N 0 (by omega) (by have := hw.m6 hc2; omega)
      have IH := ih (c + 1) (by omega) (by omega)
      rw [gm, gm] at IH
      rw [show gm1 β P0 c 0 = 0 from rfl, show gm1 β P1 c 0 = 0 from rfl, Nat.or_zero, Nat.or_zero] at IN
      simp (disch := omega) only [f_X7_laysDrivers_7, m_chips, hM 0 (by omega), bnd_s, lit, nLE, hc', if_false]
      rw [IN]
      exact IH
theorem m_drive_w {z : Nat} (hz : z < 256) {p : Int32} : ∀ n j v, j ≤ 8 → 8 < n + j → (∀ i, i < j → agt v 102 i = nI (if z.testBit i = true then 0 else 1)) → ∃ v', f_X7_laysDrivers_109 N 95 p n (nI z) (nI j) v = some ((), v') ∧ MN v v' ∧ R8 v' 102 (fun i => if z.testBit i = true then 0 else 1) ∧ v'.1 95 = v.1 95 := by
  intro n
  induction n with
  | zero => intro j u h1 h2; omega
  | succ n ih =>
    intro j v h1 h2 hI
    by_cases hj : 8 ≤ j
    · have ej : j = 8 := by omega
      subst ej
      refine ⟨v, ?_, MN.rf, hI, rfl⟩
      simp (disch := omega) only [f_X7_laysDrivers_109, lit, nLE, Nat.le_refl, if_true]
    · have hj' : ¬ 8 ≤ j := hj
      obtain ⟨u', e1, e2, e3, e4⟩ := ih (j + 1) (apt v 102 j (nI (if z.testBit j = true then 0 else 1))) (by omega) (by omega) (fun i hi => by
        rw [agt_pt]
        by_cases q : i = j
        · subst q; simp
        · rw [if_neg (by omega)]; exact hI i (by omega))
      refine ⟨u', ?_, MN.p102.tr e2, e3, e4.trans (apt_ne (by omega))⟩
      have mm : f_X7_has N (nI z) (nI j) v = some (bI (z.testBit j = true), v) := m_has (by omega) (by omega)
      by_cases q : z.testBit j = true
      · rw [if_pos q] at e1
        simp (disch := omega) only [f_X7_laysDrivers_109, f_X7_laysDrivers_136, lit, nLE, hj', if_false, mm, bnd_s, bI0, q, not_true, ar95_0, ar95_1, ar95_2, ar95_4, ar95_5, ar95_7, ar95_9, ar95_11, ar95_12, ar95_16, ar95_17, al96, al97, al98, al99, al100, al101, al102, al103, al104, al105, al106, chk_in, nCl, lte_s, nI_add]
        exact e1
      · rw [if_neg q] at e1
        simp (disch := omega) only [f_X7_laysDrivers_109, f_X7_laysDrivers_136, lit, nLE, hj', if_false, mm, bnd_s, bI0, q, Bool.false_eq_true, not_false_eq_true, if_true, ar95_0, ar95_1, ar95_2, ar95_4, ar95_5, ar95_7, ar95_9, ar95_11, ar95_12, ar95_16, ar95_17, al96, al97, al98, al99, al100, al101, al102, al103, al104, al105, al106, chk_in, nCl, lte_s, nI_add]
        exact e1
theorem m_drive (hw : WB β) (hN : 20 ≤ N) {v : ASt} (hM : MB v β) {p : Int32} {P0 P1 : Nat → Nat → Prop} (hx : ∀ c k, P0 c k → ¬ P1 c k) (hD : ∀ c, c < β 0 → ∀ k, k < bc β c 2 → f_X7_drives N 95 (nI c) (nI k) p v = some (dv P0 P1 c k, v)) : ∃ v', f_X7_laysDrivers N 95 p v = some ((), v') ∧ MN v v' ∧ R8 v' 102 (fun i => if (gm β P0 (β 0)).testBit i = true then 0 else 1) ∧ agt v' 95 10 = nI (gm β P0 (β 0) &&& gm β P1 (β 0)) := by
  have hz := gm_lt (β := β) (P := P0) (β 0) (fun c hc k hk => hw.net hc hk)
  have h4 := hw.1
  obtain ⟨v', e1, e2, e3, e4⟩ := m_drive_w (N := N) (p := p) hz N 0 (apt v 95 10 (nI (gm β P0 (β 0) &&& gm β P1 (β 0)))) (by omega) (by omega) (fun i hi => by omega)
  refine ⟨v', ?_, MN.p95.tr e2, e3, by rw [agt_e e4, agt_pt_s]⟩
  have := m_drive_out (N := N) hw hM hN hx hD N 0 (by omega) (by omega)
  exact this.trans e1
theorem m_short_loop (hm : m ≤ 4) (hF : ∀ j, j < m → WF (F j)) {W : Nat → Nat} (hW8 : B8 W) {p : Int32} : ∀ n j v, j ≤ m → m < n + j → UF v F m → R8 v 102 (shs F j W) → ∃ v', f_X7_laysNets_7 N 95 p n (nI j) v = f_X7_laysNets_112 N 95 p N (nI 0) v' ∧ MN v v' ∧ R8 v' 102 (shs F m W) ∧ v'.1 95 = v.1 95 := by
  intro n
  induction n with
  | zero => intro j u h1 h2; omega
  | succ n ih =>
    intro j v h1 h2 hU hR
    by_cases hj : m ≤ j
    · have ej : j = m := by omega
      subst ej
      refine ⟨v, ?_, MN.rf, hR, rfl⟩
      simp (disch := omega) only [f_X7_laysNets_7, lit, hU.1, nLE, Nat.le_refl, if_true]
    · have hW := hF j (by omega)
      have hx := WF_lt hW
      have fj := hU.2 j (by omega)
      have hj' : ¬ m ≤ j := hj
      have U8 := hU.1
      by_cases q : 3000 ≤ F j
      · obtain ⟨w1, w2, w3, w4, w5⟩ := WF_34 hW q
        have ra := hR _ w1
        have rb := hR _ w2
        obtain ⟨y, hy⟩ : ∃ z, z = if F j < 4000 then shs F j W (F j / 10 % 10) &&& shs F j W (F j % 10) else shs F j W (F j / 10 % 10) ||| shs F j W (F j % 10) := ⟨_, rfl⟩
        obtain ⟨u2, hu2⟩ : ∃ z, z = apt (apt v 102 (F j / 10 % 10) (nI y)) 102 (F j % 10) (nI y) := ⟨_, rfl⟩
        have K2 : MN v u2 := by rw [hu2]; exact MN.p102.tr MN.p102
        have R2 : R8 u2 102 (shs F (j + 1) W) := by
          intro i hi
          rw [hu2, shs]
          unfold sh1
          rw [if_pos q, agt_pt, agt_pt, hy]
          by_cases q1 : i = F j % 10
          · subst q1; simp
          · by_cases q2 : i = F j / 10 % 10
            · subst q2; simp [q1]
            · rw [if_neg (by omega), if_neg (by omega), if_neg (by omega)]; exact hR i hi
        obtain ⟨u', e1, e2, e3, e4⟩ := ih (j + 1) u2 (by omega) (by omega) (K2.uf hU) R2
        refine ⟨u', ?_, K2.tr e2, e3, e4.trans (by rw [hu2, apt_ne (by omega), apt_ne (by omega)])⟩
        have t1 : nI (F j) / 10 - nI (F j) / 10 / 10 * 10 = nI (F j / 10 % 10) := by
          have := k_tens (N := N) (u := v) hx
          unfold f_X6_tensOf at this
          exact (congrArg Prod.fst (Option.some.inj this))
        have t2 : nI (F j) - nI (F j) / 10 * 10 = nI (F j % 10) := by
          have := k_ones (N := N) (u := v) hx
          unfold f_X6_onesOf at this
          exact (congrArg Prod.fst (Option.some.inj this))
        have t3 : ¬ nI (F j) < 3000 := by rw [show (3000 : Int32) = nI 3000 from rfl, nLT (by omega) (by omega)]; omega
        have S : ∀ k7 : Int32 → ASt → Option (Unit × ASt), f_X7_laysNets_84 N 95 p k7 (nI j) (nI (F j / 10 % 10)) (nI (F j % 10)) (nI y) v = k7 (nI (j + 1)) u2 := by
          intro k7
          rw [hu2]
          simp (disch := omega) only [f_X7_laysNets_84, f_X7_laysNets_104, lit, bnd_s, lte_s, chk_in, chk_b, chk_0, chk_1, nCl, ar95_0, ar95_1, ar95_2, ar95_4, ar95_5, ar95_7, ar95_9, ar95_11, ar95_12, ar95_16, ar95_17, al96, al97, al98, al99, al100, al101, al102, al103, al104, al105, al106, nI_add]
        rw [f_X7_laysNets_7, U8, if_neg (fun z => hj' ((nLE (by omega) (by omega)).mp z)), nCl (show j < 2147483648 by omega), ar95_7, al101, chk_in (show j < 4 by omega) (by omega), lte_s, fj, if_neg t3, t1, t2, lte_s, lte_s, ar95_9, al102, chk_in w1 (by omega), chk_in w2 (by omega), chk_in w1 (by omega), chk_in w2 (by omega), nCl (show F j / 10 % 10 < 2147483648 by omega), nCl (show F j % 10 < 2147483648 by omega), ra, rb]
        by_cases q3 : F j < 4000
        · have t4 : ¬ (4000 : Int32) ≤ nI (F j) := by rw [show (4000 : Int32) = nI 4000 from rfl, nLE (by omega) (by omega)]; omega
          rw [if_pos q3] at hy
          rw [if_neg t4, nAnd, ← hy, S]
          exact e1
        · have t4 : (4000 : Int32) ≤ nI (F j) := by rw [show (4000 : Int32) = nI 4000 from rfl, nLE (by omega) (by omega)]; omega
          rw [if_neg q3] at hy
          rw [if_pos t4, nOr, ← hy, S]
          exact e1
      · obtain ⟨u', e1, e2, e3, e4⟩ := ih (j + 1) v (by omega) (by omega) hU (fun i hi => by rw [shs, sh1_o q]; exact hR i hi)
        refine ⟨u', ?_, e2, e3, e4⟩
        have t3 : nI (F j) < 3000 := by rw [show (3000 : Int32) = nI 3000 from rfl, nLT (by omega) (by omega)]; omega
        rw [f_X7_laysNets_7, U8, if_neg (fun z => hj' ((nLE (by omega) (by omega)).mp z)), nCl (show j < 2147483648 by omega), ar95_7, al101, chk_in (show j < 4 by omega) (by omega), lte_s, fj, if_pos t3, f_X7_laysNets_104, show (1 : Int32) = nI 1 from rfl, nI_add]
        exact e1
theorem m_stuck_loop (hm : m ≤ 4) (hF : ∀ j, j < m → WF (F j)) {W : Nat → Nat} {p : Int32} : ∀ n j v, j ≤ m → m < n + j → UF v F m → R8 v 102 (sts 1 F j W) → ∃ v', f_X7_laysNets_112 N 95 p n (nI j) v = some ((), v') ∧ MN v v' ∧ R8 v' 102 (sts 1 F m W) ∧ v'.1 95 = v.1 95 := by
  intro n
  induction n with
  | zero => intro j u h1 h2; omega
  | succ n ih =>
    intro j v h1 h2 hU hR
    by_cases hj : m ≤ j
    · have ej : j = m := by omega
      subst ej
      refine ⟨v, ?_, MN.rf, hR, rfl⟩
      simp (disch := omega) only [f_X7_laysNets_112, lit, hU.1, nLE, Nat.le_refl, if_true]
    · have hW := hF j (by omega)
      have hx := WF_lt hW
      have fj := hU.2 j (by omega)
      have hj' : ¬ m ≤ j := hj
      have U8 := hU.1
      have t0 : nI (F j) / 1000 = nI (F j / 1000) := nDiv (d := 1000) (by omega) (by decide) (by decide)
      by_cases q : F j / 1000 = 2
      · obtain ⟨w1, w2, -⟩ := WF_2 hW q
        obtain ⟨u2, hu2⟩ : ∃ z, z = apt v 102 (F j / 10 % 10) (nI (F j % 10)) := ⟨_, rfl⟩
        have K2 : MN v u2 := by rw [hu2]; exact MN.p102
        have R2 : R8 u2 102 (sts 1 F (j + 1) W) := by
          intro i hi
          rw [hu2, sts]
          unfold st1
          rw [if_pos q, agt_pt]
          by_cases q1 : i = F j / 10 % 10
          · subst q1
            have : F j % 10 = 0 ∨ F j % 10 = 1 := by omega
            rcases this with h | h <;> simp [h]
          · rw [if_neg (by omega), if_neg (by omega)]; exact hR i hi
        obtain ⟨u', e1, e2, e3, e4⟩ := ih (j + 1) u2 (by omega) (by omega) (K2.uf hU) R2
        refine ⟨u', ?_, K2.tr e2, e3, e4.trans (by rw [hu2, apt_ne (by omega)])⟩
        have t1 : nI (F j) / 10 - nI (F j) / 10 / 10 * 10 = nI (F j / 10 % 10) := by
          have := k_tens (N := N) (u := v) hx
          unfold f_X6_tensOf at this
          exact (congrArg Prod.fst (Option.some.inj this))
        have t2 : nI (F j) - nI (F j) / 10 * 10 = nI (F j % 10) := by
          have := k_ones (N := N) (u := v) hx
          unfold f_X6_onesOf at this
          exact (congrArg Prod.fst (Option.some.inj this))
        rw [f_X7_laysNets_112, U8, if_neg (fun z => hj' ((nLE (by omega) (by omega)).mp z)), nCl (show j < 2147483648 by omega), ar95_7, al101, chk_in (show j < 4 by omega) (by omega), fj, t0, q, if_pos (show nI 2 = (2 : Int32) from rfl), chk_in (show j < 4 by omega) (by omega), chk_in (show j < 4 by omega) (by omega), t1, t2, ar95_9, al102, chk_in w1 (by omega), lte_s, nCl (show F j / 10 % 10 < 2147483648 by omega), ← hu2, f_X7_laysNets_160, show (1 : Int32) = nI 1 from rfl, nI_add]
        exact e1
      · obtain ⟨u', e1, e2, e3, e4⟩ := ih (j + 1) v (by omega) (by omega) hU (fun i hi => by rw [sts]; unfold st1; rw [if_neg q]; exact hR i hi)
        refine ⟨u', ?_, e2, e3, e4⟩
        have t5 : ¬ nI (F j / 1000) = 2 := by rw [show (2 : Int32) = nI 2 from rfl, nE (by omega) (by omega)]; exact q
        rw [f_X7_laysNets_112, U8, if_neg (fun z => hj' ((nLE (by omega) (by omega)).mp z)), nCl (show j < 2147483648 by omega), ar95_7, al101, chk_in (show j < 4 by omega) (by omega), fj, t0, if_neg t5, f_X7_laysNets_160, show (1 : Int32) = nI 1 from rfl, nI_add]
        exact e1
end MNETS
