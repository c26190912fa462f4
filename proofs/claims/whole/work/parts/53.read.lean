/-! what is told: the board -/
def kR (f : ASt → Option (Int32 × ASt)) (β : Nat → Nat) (x : Nat) : Prop := ∀ u, CB u 0 β → ∃ u', f u = some (nI x, u') ∧ CK0 u u'
def mR (f : ASt → Option (Int32 × ASt)) (β : Nat → Nat) (x : Nat) : Prop := ∀ v, MB v β → ∃ v', f v = some (nI x, v') ∧ MK0 v v'
def sm (g : Nat → Nat) : Nat → Nat
  | 0 => 0
  | c + 1 => sm g c + g c
theorem sm_le {g : Nat → Nat} {b : Nat} : ∀ n, (∀ c, c < n → g c ≤ b) → sm g n ≤ n * b
  | 0, _ => by simp [sm]
  | n + 1, h => by
    have := sm_le n (fun c hc => h c (by omega))
    have h2 := h n (by omega)
    rw [sm, Nat.succ_mul]
    omega
def onw (W : Nat → Nat) : Nat → Nat
  | 0 => 0
  | k + 1 => onw W k ||| W k <<< k
theorem onw_lt {W : Nat → Nat} (h : B1 W) : ∀ n, n ≤ 8 → onw W n < 256
  | 0, _ => by show 0 < 256; decide
  | n + 1, hn => Nat.or_lt_two_pow (n := 8) (onw_lt h n (by omega)) (shl_256 (h n (by omega)) (by omega))
section RD
variable {N : Nat} {β : Nat → Nat}
theorem k_dataBits (hw : WB β) (hN : 20 ≤ N) {u : ASt} (hC : CB u 0 β) : f_X0_dataBits N 0 u = some (nI (sm (ln_ β) (β 0)), u) := by
  have h4 := hw.1
  have a0 := hC.u0
  have L : ∀ n c, c ≤ β 0 → β 0 < n + c → f_X0_dataBits_4 N 0 n (nI (sm (ln_ β) c)) (nI c) u = some (nI (sm (ln_ β) (β 0)), u) := by
    intro n
    induction n with
    | zero => intro c h1 h2; omega
    | succ n ih =>
      intro c h1 h2
      by_cases hc : β 0 ≤ c
      · have ec : c = β 0 := by omega
        subst ec
        simp (disch := omega) only [f_X0_dataBits_4, a0, nLE, Nat.le_refl, if_true]
      · have IH := ih (c + 1) (by omega) (by omega)
        rw [sm] at IH
        have D := k_bits (N := N) (hC.cc (c := c) (by omega)) (hw.2.2.2.2 c (by omega))
        simp (disch := omega) only [f_X0_dataBits_4, lit, a0, nLE, hc, if_false, ar_b0, al_1, chk_in, nCl, ar_1, D, bnd_s, lte_s, nI_add]
        exact IH
  exact L N 0 (by omega) (by omega)
theorem k_instrBits (hw : WB β) (hN : 20 ≤ N) {u : ASt} (hC : CB u 0 β) : f_X0_instructionBits N 0 u = some (nI (sm (fun c => bc β c 0) (β 0)), u) := by
  have h4 := hw.1
  have a0 := hC.u0
  have L : ∀ n c, c ≤ β 0 → β 0 < n + c → f_X0_instructionBits_4 N 0 n (nI (sm (fun c => bc β c 0) c)) (nI c) u = some (nI (sm (fun c => bc β c 0) (β 0)), u) := by
    intro n
    induction n with
    | zero => intro c h1 h2; omega
    | succ n ih =>
      intro c h1 h2
      by_cases hc : β 0 ≤ c
      · have ec : c = β 0 := by omega
        subst ec
        simp (disch := omega) only [f_X0_instructionBits_4, a0, nLE, Nat.le_refl, if_true]
      · have IH := ih (c + 1) (by omega) (by omega)
        rw [sm] at IH
        have g0 := (hC.cc (c := c) (by omega)).1
        simp (disch := omega) only [f_X0_instructionBits_4, lit, a0, nLE, hc, if_false, ar_b0, al_1, chk_in, nCl, ar_1, g0, lte_s, nI_add]
        exact IH
  exact L N 0 (by omega) (by omega)
theorem k_cells (hw : WB β) (hN : 20 ≤ N) {u : ASt} (hC : CB u 0 β) : f_X0_cellCount N 0 u = some (nI (sm (fun c => bc β c 2) (β 0)), u) := by
  have h4 := hw.1
  have a0 := hC.u0
  have L : ∀ n c, c ≤ β 0 → β 0 < n + c → f_X0_cellCount_4 N 0 n (nI (sm (fun c => bc β c 2) c)) (nI c) u = some (nI (sm (fun c => bc β c 2) (β 0)), u) := by
    intro n
    induction n with
    | zero => intro c h1 h2; omega
    | succ n ih =>
      intro c h1 h2
      by_cases hc : β 0 ≤ c
      · have ec : c = β 0 := by omega
        subst ec
        simp (disch := omega) only [f_X0_cellCount_4, a0, nLE, Nat.le_refl, if_true]
      · have IH := ih (c + 1) (by omega) (by omega)
        rw [sm] at IH
        have g6 := (hC.cc (c := c) (by omega)).2.2.2.2.2.2.1
        simp (disch := omega) only [f_X0_cellCount_4, lit, a0, nLE, hc, if_false, ar_b0, al_1, chk_in, nCl, ar_1, g6, lte_s, nI_add]
        exact IH
  exact L N 0 (by omega) (by omega)
theorem m_longAll (hw : WB β) (hN : 20 ≤ N) {v : ASt} (hM : MB v β) (b : Nat) (hb : b ≤ 1) : f_X7_longAll N 95 (nI b) v = some (nI (sm (if b = 0 then ln_ β else fun c => bc β c 0) (β 0)), v) := by
  have h4 := hw.1
  have L : ∀ n c, c ≤ β 0 → β 0 < n + c → f_X7_longAll_4 N 95 (nI b) n (nI (sm (if b = 0 then ln_ β else fun c => bc β c 0) c)) (nI c) v = some (nI (sm (if b = 0 then ln_ β else fun c => bc β c 0) (β 0)), v) := by
    intro n
    induction n with
    | zero => intro c h1 h2; omega
    | succ n ih =>
      intro c h1 h2
      by_cases hc : β 0 ≤ c
      · have ec : c = β 0 := by omega
        subst ec
        simp (disch := omega) only [f_X7_longAll_4, m_chips, hM 0 (by omega), bnd_s, nLE, Nat.le_refl, if_true]
      · have IH := ih (c + 1) (by omega) (by omega)
        rw [sm] at IH
        have D := m_long (N := N) hM (show c < 4 by omega) (hw.2.2.2.2 c (by omega))
        by_cases q : b = 0
        · subst q
          simp only [if_true] at IH ⊢
          simp (disch := omega) only [f_X7_longAll_4, f_X7_longAll_31, m_chips, hM 0 (by omega), bnd_s, lit, nLE, hc, if_false, if_true, D, lte_s, nI_add]
          exact IH
        · simp only [if_neg q] at IH ⊢
          simp (disch := omega) only [f_X7_longAll_4, f_X7_longAll_31, m_chips, hM 0 (by omega), bnd_s, lit, nLE, hc, if_false, nE, q, m_getB hM (show c < 4 by omega), lte_s, nI_add]
          exact IH
  exact L N 0 (by omega) (by omega)
theorem m_cells (hw : WB β) (hN : 20 ≤ N) {v : ASt} (hM : MB v β) : f_X7_cells N 95 v = some (nI (sm (fun c => bc β c 2) (β 0)), v) := by
  have h4 := hw.1
  have L : ∀ n c, c ≤ β 0 → β 0 < n + c → f_X7_cells_4 N 95 n (nI (sm (fun c => bc β c 2) c)) (nI c) v = some (nI (sm (fun c => bc β c 2) (β 0)), v) := by
    intro n
    induction n with
    | zero => intro c h1 h2; omega
    | succ n ih =>
      intro c h1 h2
      by_cases hc : β 0 ≤ c
      · have ec : c = β 0 := by omega
        subst ec
        simp (disch := omega) only [f_X7_cells_4, m_chips, hM 0 (by omega), bnd_s, nLE, Nat.le_refl, if_true]
      · have IH := ih (c + 1) (by omega) (by omega)
        rw [sm] at IH
        simp (disch := omega) only [f_X7_cells_4, m_chips, hM 0 (by omega), bnd_s, lit, nLE, hc, if_false, m_getB hM (show c < 4 by omega), lte_s, nI_add]
        exact IH
  exact L N 0 (by omega) (by omega)
theorem m_outs (hw : WB β) (hN : 20 ≤ N) {v : ASt} (hM : MB v β) : f_X7_outs N 95 v = some (nI (nmk β true (β 0)), v) := by
  have h4 := hw.1
  have I : ∀ c, c < β 0 → ∀ k4 : Int32 → Int32 → ASt → Option (Int32 × ASt), ∀ z n k, k ≤ bc β c 2 → bc β c 2 < n + k → f_X7_outs_14 N 95 k4 n (nI (z ||| nmk1 β true c k)) (nI c) (nI k) v = k4 (nI (z ||| nmk1 β true c (bc β c 2))) (nI (c + 1)) v := by
    intro c hc k4 z n
    have h6 := hw.m6 hc
    induction n with
    | zero => intro k h1 h2; omega
    | succ n ih =>
      intro k h1 h2
      by_cases hk : bc β c 2 ≤ k
      · have ek : k = bc β c 2 := by omega
        subst ek
        simp (disch := omega) only [f_X7_outs_14, lit, m_getB hM (show c < 4 by omega), bnd_s, nLE, Nat.le_refl, if_true, nI_add]
      · have hk2 : k < bc β c 2 := by omega
        have IH := ih (k + 1) (by omega) (by omega)
        have kk := hw.kind hc hk2
        have hn := hw.net hc hk2
        have O1 : f_X7_isOut N 95 (nI c) (nI k) v = some (bI (bc β c (7 + 2 * k) = 1), v) := m_outB hM (by omega) (by omega) kk
        have nt : f_X7_netOf N 95 (nI c) (nI k) v = some (nI (bc β c (8 + 2 * k)), v) := m_netB hM (by omega) (by omega)
        have sh : nI 1 <<< (nI (bc β c (8 + 2 * k)) &&& nI 31) = nI (1 <<< bc β c (8 + 2 * k)) := nShl (by omega) (Nat.lt_of_lt_of_le (shl_256 (Nat.le_refl 1) hn) (by decide))
        rw [nmk1] at IH
        by_cases q : bc β c (7 + 2 * k) = 1
        · rw [if_neg (by omega)] at IH
          simp (disch := omega) only [f_X7_outs_14, f_X7_outs_46, lit, m_getB hM (show c < 4 by omega), bnd_s, nLE, hk, if_false, O1, bI0, q, not_true, nt, sh, nOr, lte_s, nI_add, Nat.or_assoc]
          exact IH
        · rw [if_pos ⟨rfl, by omega⟩] at IH
          simp (disch := omega) only [f_X7_outs_14, f_X7_outs_46, lit, m_getB hM (show c < 4 by omega), bnd_s, nLE, hk, if_false, O1, bI0, q, not_false_eq_true, if_true, nOr, lte_s, nI_add, Nat.or_assoc]
          exact IH
  have L : ∀ n c, c ≤ β 0 → β 0 < n + c → f_X7_outs_4 N 95 n (nI (nmk β true c)) (nI c) v = some (nI (nmk β true (β 0)), v) := by
    intro n
    induction n with
    | zero => intro c h1 h2; omega
    | succ n ih =>
      intro c h1 h2
      by_cases hc : β 0 ≤ c
      · have ec : c = β 0 := by omega
        subst ec
        simp (disch := omega) only [f_X7_outs_4, m_chips, hM 0 (by omega), bnd_s, nLE, Nat.le_refl, if_true]
      · have IH := ih (c + 1) (by omega) (by omega)
        rw [nmk] at IH
        have h6 := hw.m6 (c := c) (by omega)
        have J := I c (by omega) (f_X7_outs_4 N 95 n) (nmk β true c) N 0 (by omega) (by omega)
        rw [show nmk1 β true c 0 = 0 from rfl, Nat.or_zero] at J
        simp (disch := omega) only [f_X7_outs_4, m_chips, hM 0 (by omega), bnd_s, lit, nLE, hc, if_false]
        exact J.trans IH
  exact L N 0 (by omega) (by omega)
theorem m_withCells (hw : WB β) (hN : 20 ≤ N) {v : ASt} (hM : MB v β) : f_X7_netsWithCells N 95 v = some (nI (nmk β false (β 0)), v) := by
  have h4 := hw.1
  have I : ∀ c, c < β 0 → ∀ k4 : Int32 → Int32 → ASt → Option (Int32 × ASt), ∀ z n k, k ≤ bc β c 2 → bc β c 2 < n + k → f_X7_netsWithCells_14 N 95 k4 n (nI (z ||| nmk1 β false c k)) (nI c) (nI k) v = k4 (nI (z ||| nmk1 β false c (bc β c 2))) (nI (c + 1)) v := by
    intro c hc k4 z n
    have h6 := hw.m6 hc
    induction n with
    | zero => intro k h1 h2; omega
    | succ n ih =>
      intro k h1 h2
      by_cases hk : bc β c 2 ≤ k
      · have ek : k = bc β c 2 := by omega
        subst ek
        simp (disch := omega) only [f_X7_netsWithCells_14, lit, m_getB hM (show c < 4 by omega), bnd_s, nLE, Nat.le_refl, if_true, nI_add]
      · have hk2 : k < bc β c 2 := by omega
        have IH := ih (k + 1) (by omega) (by omega)
        have hn := hw.net hc hk2
        have nt : f_X7_netOf N 95 (nI c) (nI k) v = some (nI (bc β c (8 + 2 * k)), v) := m_netB hM (by omega) (by omega)
        have sh : nI 1 <<< (nI (bc β c (8 + 2 * k)) &&& nI 31) = nI (1 <<< bc β c (8 + 2 * k)) := nShl (by omega) (Nat.lt_of_lt_of_le (shl_256 (Nat.le_refl 1) hn) (by decide))
        rw [nmk1, if_neg (fun z => absurd z.1 (by decide))] at IH
        simp (disch := omega) only [f_X7_netsWithCells_14, lit, m_getB hM (show c < 4 by omega), bnd_s, nLE, hk, if_false, nt, sh, nOr, lte_s, nI_add, Nat.or_assoc]
        exact IH
  have L : ∀ n c, c ≤ β 0 → β 0 < n + c → f_X7_netsWithCells_4 N 95 n (nI (nmk β false c)) (nI c) v = some (nI (nmk β false (β 0)), v) := by
    intro n
    induction n with
    | zero => intro c h1 h2; omega
    | succ n ih =>
      intro c h1 h2
      by_cases hc : β 0 ≤ c
      · have ec : c = β 0 := by omega
        subst ec
        simp (disch := omega) only [f_X7_netsWithCells_4, m_chips, hM 0 (by omega), bnd_s, nLE, Nat.le_refl, if_true]
      · have IH := ih (c + 1) (by omega) (by omega)
        rw [nmk] at IH
        have h6 := hw.m6 (c := c) (by omega)
        have J := I c (by omega) (f_X7_netsWithCells_4 N 95 n) (nmk β false c) N 0 (by omega) (by omega)
        rw [show nmk1 β false c 0 = 0 from rfl, Nat.or_zero] at J
        simp (disch := omega) only [f_X7_netsWithCells_4, m_chips, hM 0 (by omega), bnd_s, lit, nLE, hc, if_false]
        exact J.trans IH
  exact L N 0 (by omega) (by omega)
theorem k_atOne (hN : 20 ≤ N) {W : Nat → Nat} (hB : B1 W) {u : ASt} (hR : R8 u 79 W) : f_X3_netsAtOne N 78 u = some (nI (onw W 8), u) := by
  have L : ∀ n k, k ≤ 8 → 8 < n + k → f_X3_netsAtOne_4 N 78 n (nI (onw W k)) (nI k) u = some (nI (onw W 8), u) := by
    intro n
    induction n with
    | zero => intro k h1 h2; omega
    | succ n ih =>
      intro k h1 h2
      by_cases hk : 8 ≤ k
      · have ek : k = 8 := by omega
        subst ek
        simp (disch := omega) only [f_X3_netsAtOne_4, lit, nLE, Nat.le_refl, if_true]
      · have IH := ih (k + 1) (by omega) (by omega)
        rw [onw] at IH
        have sh : nI (W k) <<< (nI k &&& nI 31) = nI (W k <<< k) := nShl (by omega) (Nat.lt_of_lt_of_le (shl_256 (hB k (by omega)) (by omega)) (by decide))
        simp (disch := omega) only [f_X3_netsAtOne_4, lit, nLE, hk, if_false, ar78_1, al79, chk_in, nCl, hR k (by omega), sh, nOr, lte_s, nI_add]
        exact IH
  exact L N 0 (by omega) (by omega)
theorem m_atOne (hN : 20 ≤ N) {W : Nat → Nat} (hB : B1 W) {v : ASt} (hR : R8 v 102 W) : f_X7_onesNow_8 N 95 N 0 0 v = some (nI (onw W 8), v) := by
  have L : ∀ n k, k ≤ 8 → 8 < n + k → f_X7_onesNow_8 N 95 n (nI (onw W k)) (nI k) v = some (nI (onw W 8), v) := by
    intro n
    induction n with
    | zero => intro k h1 h2; omega
    | succ n ih =>
      intro k h1 h2
      by_cases hk : 8 ≤ k
      · have ek : k = 8 := by omega
        subst ek
        simp (disch := omega) only [f_X7_onesNow_8, lit, nLE, Nat.le_refl, if_true]
      · have IH := ih (k + 1) (by omega) (by omega)
        rw [onw] at IH
        have sh : nI (W k) <<< (nI k &&& nI 31) = nI (W k <<< k) := nShl (by omega) (Nat.lt_of_lt_of_le (shl_256 (hB k (by omega)) (by omega)) (by decide))
        simp (disch := omega) only [f_X7_onesNow_8, lit, nLE, hk, if_false, ar95_0, ar95_1, ar95_2, ar95_4, ar95_5, ar95_7, ar95_9, ar95_11, ar95_12, ar95_16, ar95_17, al96, al97, al98, al99, al100, al101, al102, al103, al104, al105, al106, chk_in, nCl, hR k (by omega), sh, nOr, lte_s, nI_add]
        exact IH
  exact L N 0 (by omega) (by omega)
end RD
