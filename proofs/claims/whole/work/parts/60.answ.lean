/-! the model's nets in a test: bit i of the class's words -/
def BT (i : Nat) (V W : Nat → Nat) : Prop := ∀ n, n < 8 → V n = if (W n).testBit i = true then 1 else 0
theorem bt_and {i a b x y : Nat} (h1 : x = if a.testBit i = true then 1 else 0) (h2 : y = if b.testBit i = true then 1 else 0) : (x &&& y) = if (a &&& b).testBit i = true then 1 else 0 := by
  subst h1; subst h2
  rw [Nat.testBit_and]
  cases a.testBit i <;> cases b.testBit i <;> rfl
theorem bt_or {i a b x y : Nat} (h1 : x = if a.testBit i = true then 1 else 0) (h2 : y = if b.testBit i = true then 1 else 0) : (x ||| y) = if (a ||| b).testBit i = true then 1 else 0 := by
  subst h1; subst h2
  rw [Nat.testBit_or]
  cases a.testBit i <;> cases b.testBit i <;> rfl
theorem sh1_bt {i x : Nat} {V W : Nat → Nat} (hx : WF x) (h : BT i V W) : BT i (sh1 x V) (sh1 x W) := by
  intro n hn
  unfold sh1
  by_cases q : 3000 ≤ x
  · rw [if_pos q, if_pos q]
    obtain ⟨q1, q2, -⟩ := WF_34 hx q
    try dsimp only
    by_cases c1 : n = x / 10 % 10 ∨ n = x % 10
    · rw [if_pos c1, if_pos c1]
      by_cases c2 : x < 4000
      · rw [if_pos c2, if_pos c2]; exact bt_and (h _ q1) (h _ q2)
      · rw [if_neg c2, if_neg c2]; exact bt_or (h _ q1) (h _ q2)
    · rw [if_neg c1, if_neg c1]; exact h n hn
  · rw [if_neg q, if_neg q]; exact h n hn
theorem st1_bt {i A x : Nat} {V W : Nat → Nat} (hA : A.testBit i = true) (h : BT i V W) : BT i (st1 1 x V) (st1 A x W) := by
  intro n hn
  unfold st1
  by_cases q : x / 1000 = 2
  · rw [if_pos q, if_pos q]
    try dsimp only
    by_cases c1 : n = x / 10 % 10
    · rw [if_pos c1, if_pos c1]
      by_cases c2 : x % 10 = 1
      · rw [if_pos c2, if_pos c2, if_pos hA]
      · rw [if_neg c2, if_neg c2]; simp
    · rw [if_neg c1, if_neg c1]; exact h n hn
  · rw [if_neg q, if_neg q]; exact h n hn
theorem shs_bt {i : Nat} {F V W : Nat → Nat} : ∀ m, (∀ j, j < m → WF (F j)) → BT i V W → BT i (shs F m V) (shs F m W)
  | 0, _, h => h
  | m + 1, hF, h => sh1_bt (hF m (by omega)) (shs_bt m (fun j hj => hF j (by omega)) h)
theorem sts_bt {i A : Nat} {F V W : Nat → Nat} (hA : A.testBit i = true) : ∀ m, BT i V W → BT i (sts 1 F m V) (sts A F m W)
  | 0, h => h
  | m + 1, h => st1_bt hA (sts_bt hA m h)
theorem At_tb {t i : Nat} {β : Nat → Nat} (hi : i < Pn t (sO β)) : (At t β).testBit i = true := by
  unfold At
  rw [Nat.one_shiftLeft, Nat.testBit_two_pow_sub_one]
  simp [hi]
section TESTM
variable {N : Nat} {β : Nat → Nat}
def tQ (t i : Nat) (β O : Nat → Nat) (b : Bool) (c k : Nat) : Prop := dP β O c k ∧ (stim t (sO β) (bc β c (8 + 2 * k))).testBit i = b
theorem base_bt {t i : Nat} {O : Nat → Nat} (hi : i < Pn t (sO β)) : BT i (fun n => if (gm β (tQ t i β O false) (β 0)).testBit n = true then 0 else 1) (W0 t β O) := by
  intro n hn
  unfold W0
  dsimp only
  by_cases q : (gm β (dP β O) (β 0)).testBit n = true
  · rw [if_pos q]
    by_cases q2 : (stim t (sO β) n).testBit i = true
    · rw [if_pos q2, if_neg]
      intro z
      obtain ⟨c, k, h1, h2, h3, h4⟩ := (gm_tb _).mp z
      have := h3.2
      rw [h4, q2] at this
      exact absurd this (by decide)
    · rw [if_neg q2, if_pos]
      obtain ⟨c, k, h1, h2, h3, h4⟩ := (gm_tb _).mp q
      exact (gm_tb _).mpr ⟨c, k, h1, h2, ⟨h3, by rw [h4]; simpa using q2⟩, h4⟩
  · rw [if_neg q, if_neg, At_tb hi]
    · rfl
    · intro z
      obtain ⟨c, k, h1, h2, h3, h4⟩ := (gm_tb _).mp z
      exact q ((gm_tb _).mpr ⟨c, k, h1, h2, h3.1, h4⟩)
theorem m_drives_test {t i m : Nat} {F : Nat → Nat} (ht : t < 2) (hN : 20 ≤ N) (hw : WB β) (hm : m ≤ 4) (hF : ∀ j, j < m → WF (F j)) {v : ASt} (hM : MB v β) (hU : UF v F m) (hi : i < Pn t (sO β)) {c k : Nat} (hc : c < β 0) (hk : k < bc β c 2) : f_X7_drives N 95 (nI c) (nI k) (nI i) v = some (dv (tQ t i β (ocs F m) false) (tQ t i β (ocs F m) true) c k, v) := by
  have h4 := hw.1
  have h6 := hw.m6 hc
  have hx := hw.kind hc hk
  have hn := hw.net hc hk
  have hP := Pn_b (t := t) (s := sO β) ht
  have a1 : f_X7_isOut N 95 (nI c) (nI k) v = some (bI (bc β c (7 + 2 * k) = 1), v) := m_outB hM (by omega) (by omega) hx
  have a2 : f_X7_isOpen N 95 (nI c) (nI k) v = some (bI ((ocs F m c).testBit k = true), v) := m_open (by omega) (by omega) hN hm hF hU
  have nt : f_X7_netOf N 95 (nI c) (nI k) v = some (nI (bc β c (8 + 2 * k)), v) := m_netB hM (by omega) (by omega)
  have r0 : nI 0 ≤ nI i := (nLE (by omega) (by omega)).mpr (by omega)
  unfold dv tQ dP
  by_cases q1 : bc β c (7 + 2 * k) = 1
  · by_cases q2 : (ocs F m c).testBit k = true
    · rw [if_neg (fun z => absurd (q2.symm.trans z.1.2) (by decide)), if_neg (fun z => absurd (q2.symm.trans z.1.2) (by decide))]
      simp (disch := omega) only [f_X7_drives, f_X7_drives_31, lit, a1, a2, bnd_s, bI0, q1, q2, not_true, if_false]
    · have q2' : (ocs F m c).testBit k = false := by simpa using q2
      have hb : (nmk β true (β 0)).testBit (bc β c (8 + 2 * k)) = true := by
        rw [nmk_gm _ (fun c hc k hk => hw.kind hc hk)]
        exact (gm_tb _).mpr ⟨c, k, hc, hk, q1, rfl⟩
      have pa := m_patternAt (N := N) hw hN hM ht hn hb hi
      have pa' : f_X7_patternAt N 95 (nI i) (nI (bc β c (8 + 2 * k))) v = some (nI (if (stim t (sO β) (bc β c (8 + 2 * k))).testBit i = true then 1 else 0), v) := pa
      by_cases q4 : (stim t (sO β) (bc β c (8 + 2 * k))).testBit i = true
      · rw [if_neg (fun z => absurd (q4.symm.trans z.2) (by decide)), if_pos ⟨⟨q1, q2'⟩, q4⟩]
        rw [if_pos q4] at pa'
        simp (disch := omega) only [f_X7_drives, f_X7_drives_33, lit, a1, a2, bnd_s, bI0, q1, q2, Bool.false_eq_true, not_true, not_false_eq_true, if_true, if_false, r0, nt, pa']
      · have q4' : (stim t (sO β) (bc β c (8 + 2 * k))).testBit i = false := by simpa using q4
        rw [if_pos ⟨⟨q1, q2'⟩, q4'⟩]
        rw [if_neg q4] at pa'
        simp (disch := omega) only [f_X7_drives, f_X7_drives_33, lit, a1, a2, bnd_s, bI0, q1, q2, Bool.false_eq_true, not_true, not_false_eq_true, if_true, if_false, r0, nt, pa']
  · rw [if_neg (fun z => q1 z.1.1), if_neg (fun z => q1 z.1.1)]
    simp (disch := omega) only [f_X7_drives, f_X7_drives_31, lit, a1, bnd_s, bI0, q1, not_false_eq_true, if_true]
/-- the model's nets under pattern i -/
theorem m_test {t i m : Nat} {F : Nat → Nat} (ht : t < 2) (hN : 20 ≤ N) (hw : WB β) (hm : m ≤ 4) (hF : ∀ j, j < m → WF (F j)) {v : ASt} (hM : MB v β) (hU : UF v F m) (hi : i < Pn t (sO β)) : ∃ v' V, f_X7_laysNets N 95 (nI i) v = some ((), v') ∧ MN v v' ∧ R8 v' 102 V ∧ BT i V (TW t β F m) := by
  obtain ⟨v', e1, e2, e3, -⟩ := m_lays (N := N) hN hw hm hF hM hU (p := nI i) (P0 := tQ t i β (ocs F m) false) (P1 := tQ t i β (ocs F m) true) (fun c k h1 h2 => absurd (h1.2.symm.trans h2.2) (by decide)) (fun c hc k hk => m_drives_test ht hN hw hm hF hM hU hi hc hk)
  exact ⟨v', _, e1, e2, e3, sts_bt (At_tb hi) m (shs_bt m hF (base_bt hi))⟩
/-- what a cell sees in a test: a word, a bit a pattern -/
noncomputable def wrd (t : Nat) (β F : Nat → Nat) (m c k : Nat) : Nat := sn (At t β) (ocs F m) (TW t β F m) β c k
theorem wrd_lt {t m : Nat} {F : Nat → Nat} (ht : t < 2) (hw : WB β) (hF : ∀ j, j < m → WF (F j)) {c k : Nat} (hc : c < β 0) (hk : k < bc β c 2) : wrd t β F m c k < 2 ^ Pn t (sO β) := by
  unfold wrd sn
  split
  · exact At_lt
  · exact TW_P ht hw hF _ (hw.net hc hk)
theorem sn_bt {t i m : Nat} {F V : Nat → Nat} (hw : WB β) (hi : i < Pn t (sO β)) (h : BT i V (TW t β F m)) {c k : Nat} (hc : c < β 0) (hk : k < bc β c 2) : sn 1 (ocs F m) V β c k = if (wrd t β F m c k).testBit i = true then 1 else 0 := by
  unfold wrd sn
  by_cases q : (ocs F m c).testBit k = true
  · rw [if_pos q, if_pos q, At_tb hi]; rfl
  · rw [if_neg q, if_neg q]; exact h _ (hw.net hc hk)
/-- a row of answers -/
noncomputable def ro (t : Nat) (β F : Nat → Nat) (m j : Nat) : Nat := if j / 6 < β 0 ∧ j % 6 < bc β (j / 6) 2 ∧ bc β (j / 6) (7 + 2 * (j % 6)) = 0 then wrd t β F m (j / 6) (j % 6) else 0
theorem ro_lt {t m : Nat} {F : Nat → Nat} (ht : t < 2) (hw : WB β) (hF : ∀ j, j < m → WF (F j)) {j : Nat} : ro t β F m j < 2 ^ Pn t (sO β) := by
  unfold ro
  split
  · rename_i q; exact wrd_lt ht hw hF q.1 q.2.1
  · exact Nat.two_pow_pos _
theorem ro_ck {t m c k : Nat} {F : Nat → Nat} (hw : WB β) (hc : c < β 0) (hk : k < bc β c 2) : ro t β F m (6 * c + k) = if bc β c (7 + 2 * k) = 0 then wrd t β F m c k else 0 := by
  have h6 := hw.m6 hc
  have e1 : (6 * c + k) / 6 = c := by omega
  have e2 : (6 * c + k) % 6 = k := by omega
  unfold ro
  rw [e1, e2]
  by_cases q : bc β c (7 + 2 * k) = 0
  · rw [if_pos q, if_pos ⟨hc, hk, q⟩]
  · rw [if_neg q, if_neg (fun z => q z.2.2)]
theorem ro_0 {t m c j : Nat} {F : Nat → Nat} (h1 : 6 * c + bc β c 2 ≤ j) (h2 : j < 6 * c + 6) : ro t β F m j = 0 := by
  have e1 : j / 6 = c := by omega
  unfold ro
  rw [e1, if_neg]
  rintro ⟨-, h, -⟩
  omega
theorem ro_9 {t m j : Nat} {F : Nat → Nat} (h1 : 6 * β 0 ≤ j) : ro t β F m j = 0 := by
  unfold ro
  rw [if_neg]
  rintro ⟨h, -⟩
  omega
theorem mod_or {x i : Nat} : x % 2 ^ i ||| (if x.testBit i = true then 1 else 0) <<< i = x % 2 ^ (i + 1) := by
  apply Nat.eq_of_testBit_eq
  intro j
  rw [Nat.testBit_or, Nat.testBit_mod_two_pow, Nat.testBit_mod_two_pow]
  by_cases h : x.testBit i = true
  · rw [if_pos h, tb_shl1]
    by_cases e : j = i
    · subst e; simp [h]
    · have : (j < i + 1) ↔ j < i := by omega
      simp [e, this]
  · rw [if_neg h, Nat.zero_shiftLeft, Nat.zero_testBit, Bool.or_false]
    by_cases e : j = i
    · subst e; simp [h]
    · have : (j < i + 1) ↔ j < i := by omega
      simp [this]
/-- how far the row has been laid: places before p have bit i, the others not yet -/
def RO (v : ASt) (o t : Nat) (β F : Nat → Nat) (m i p : Nat) : Prop := ∀ j, j < 24 → agt v o j = nI (ro t β F m j % 2 ^ (if j < p then i + 1 else i))
theorem m_ans_in {t i m o c : Nat} {F V : Nat → Nat} (ho : o = 103 ∨ o = 104) (ht : t < 2) (hN : 20 ≤ N) (hw : WB β) (hm : m ≤ 4) (hF : ∀ j, j < m → WF (F j)) (hi : i < Pn t (sO β)) (hB : BT i V (TW t β F m)) (hc : c < β 0) {k27 : Int32 → Int32 → ASt → Option (Unit × ASt)} {k42 : Int32 → Int32 → Int32 → ASt → Option (Unit × ASt)} {p x3 : Int32} : ∀ n k v, k ≤ bc β c 2 → bc β c 2 < n + k → MB v β → UF v F m → R8 v 102 V → RO v o t β F m i (6 * c + k) → ∃ v', f_X7_laysAnswers_54 N 95 p o k27 k42 n x3 (nI i) (nI c) (nI k) v = k42 x3 (nI i) (nI (c + 1)) v' ∧ (∀ a, a ≠ o → v'.1 a = v.1 a) ∧ RO v' o t β F m i (6 * (c + 1)) := by
  have h4 := hw.1
  have h6 := hw.m6 hc
  have hP := Pn_b (t := t) (s := sO β) ht
  have al : aln o = 24 := by rcases ho with rfl | rfl <;> rfl
  intro n
  induction n with
  | zero => intro k v h1 h2; omega
  | succ n ih =>
    intro k v h1 h2 hM hU hR hO
    have g2 : f_X7_get N 95 (nI c) (nI 2) v = some (nI (bc β c 2), v) := m_getB hM (by omega) (by omega)
    by_cases hk : bc β c 2 ≤ k
    · have ek : k = bc β c 2 := by omega
      subst ek
      refine ⟨v, ?_, fun a _ => rfl, fun j hj => ?_⟩
      · simp (disch := omega) only [f_X7_laysAnswers_54, lit, g2, bnd_s, nLE, Nat.le_refl, if_true, nI_add]
      · rw [hO j hj]
        by_cases q1 : j < 6 * c + bc β c 2
        · rw [if_pos q1, if_pos (by omega)]
        · rw [if_neg q1]
          by_cases q2 : j < 6 * (c + 1)
          · rw [ro_0 (c := c) (by omega) (by omega)]; simp
          · rw [if_neg q2]
    · have hk2 : k < bc β c 2 := by omega
      have hx := hw.kind hc hk2
      have a1 : f_X7_isOut N 95 (nI c) (nI k) v = some (bI (bc β c (7 + 2 * k) = 1), v) := m_outB hM (by omega) (by omega) hx
      have old : agt v o (6 * c + k) = nI (ro t β F m (6 * c + k) % 2 ^ i) := by rw [hO _ (by omega), if_neg (by omega)]
      have rk := ro_ck (t := t) (m := m) (F := F) hw hc hk2
      have nw : ∀ v2, v2 = apt v o (6 * c + k) (nI (ro t β F m (6 * c + k) % 2 ^ (i + 1))) → MB v2 β ∧ UF v2 F m ∧ R8 v2 102 V ∧ RO v2 o t β F m i (6 * c + (k + 1)) := by
        intro v2 e
        have ne : ∀ a, a ≠ o → v2.1 a = v.1 a := fun a ha => by rw [e]; exact apt_ne ha
        refine ⟨fun j hj => by rw [agt_e (ne 96 (by omega))]; exact hM j hj, ⟨by rw [agt_e (ne 95 (by omega))]; exact hU.1, fun j hj => by rw [agt_e (ne 101 (by omega))]; exact hU.2 j hj⟩, fun j hj => by rw [agt_e (ne 102 (by omega))]; exact hR j hj, fun j hj => ?_⟩
        rw [e, agt_pt]
        by_cases q : j = 6 * c + k
        · subst q; rw [if_pos ⟨rfl, rfl⟩, if_pos (by omega)]
        · rw [if_neg (by omega), hO j hj]
          by_cases q1 : j < 6 * c + k
          · rw [if_pos q1, if_pos (by omega)]
          · rw [if_neg q1, if_neg (by omega)]
      obtain ⟨v2, hv2⟩ : ∃ z, z = apt v o (6 * c + k) (nI (ro t β F m (6 * c + k) % 2 ^ (i + 1))) := ⟨_, rfl⟩
      obtain ⟨n1, n2, n3, n4⟩ := nw v2 hv2
      obtain ⟨v', e1, e2, e3⟩ := ih (k + 1) v2 (by omega) (by omega) n1 n2 n3 n4
      refine ⟨v', ?_, fun a ha => (e2 a ha).trans (by rw [hv2]; exact apt_ne ha), e3⟩
      by_cases q : bc β c (7 + 2 * k) = 1
      · rw [if_neg (by omega)] at rk
        have ex : nI (ro t β F m (6 * c + k) % 2 ^ i) ||| nI 0 = nI (ro t β F m (6 * c + k) % 2 ^ (i + 1)) := by rw [rk, nOr]; simp
        simp (disch := omega) only [f_X7_laysAnswers_54, f_X7_laysAnswers_103, lit, g2, bnd_s, nLE, hk, if_false, pk_mul, nI_add, al, chk_in, a1, bI0, q, not_true, nCl, old, ex, lte_s, ← hv2]
        exact e1
      · rw [if_pos (by omega)] at rk
        have sb := sn_bt (t := t) (F := F) hw hi hB hc hk2
        have s1 : sn 1 (ocs F m) V β c k ≤ 1 := by rw [sb]; split <;> omega
        have se : f_X7_sees N 95 (nI c) (nI k) v = some (nI (sn 1 (ocs F m) V β c k), v) := m_sees hN hw hm hF hM hU hR hc hk2
        have sh : nI (sn 1 (ocs F m) V β c k) <<< (nI i &&& nI 31) = nI (sn 1 (ocs F m) V β c k <<< i) := nShl (by omega) (Nat.lt_of_lt_of_le (shl_256 s1 (by omega)) (by decide))
        have ex : nI (ro t β F m (6 * c + k) % 2 ^ i) ||| nI (sn 1 (ocs F m) V β c k <<< i) = nI (ro t β F m (6 * c + k) % 2 ^ (i + 1)) := by rw [rk, nOr, sb, mod_or]
        simp (disch := omega) only [f_X7_laysAnswers_54, f_X7_laysAnswers_103, lit, g2, bnd_s, nLE, hk, if_false, pk_mul, nI_add, al, chk_in, a1, bI0, q, not_false_eq_true, if_true, se, nCl, old, sh, ex, lte_s, ← hv2]
        exact e1
theorem m_ans_chips {t i m o : Nat} {F V : Nat → Nat} (ho : o = 103 ∨ o = 104) (ht : t < 2) (hN : 20 ≤ N) (hw : WB β) (hm : m ≤ 4) (hF : ∀ j, j < m → WF (F j)) (hi : i < Pn t (sO β)) (hB : BT i V (TW t β F m)) {k27 : Int32 → Int32 → ASt → Option (Unit × ASt)} {p x3 : Int32} : ∀ n c v, c ≤ β 0 → β 0 < n + c → MB v β → UF v F m → R8 v 102 V → RO v o t β F m i (6 * c) → ∃ v', f_X7_laysAnswers_42 N 95 p o k27 n x3 (nI i) (nI c) v = k27 x3 (nI (i + 1)) v' ∧ (∀ a, a ≠ o → v'.1 a = v.1 a) ∧ RO v' o t β F m (i + 1) 0 := by
  have h4 := hw.1
  have hP := Pn_b (t := t) (s := sO β) ht
  intro n
  induction n with
  | zero => intro k v h1 h2; omega
  | succ n ih =>
    intro c v h1 h2 hM hU hR hO
    have e0 := hM 0 (by omega)
    by_cases hc : β 0 ≤ c
    · have ec : c = β 0 := by omega
      subst ec
      refine ⟨v, ?_, fun a _ => rfl, fun j hj => ?_⟩
      · simp (disch := omega) only [f_X7_laysAnswers_42, lit, m_chips, e0, bnd_s, nLE, Nat.le_refl, if_true, nI_add]
      · rw [hO j hj, if_neg (Nat.not_lt_zero j)]
        by_cases q1 : j < 6 * β 0
        · rw [if_pos q1]
        · rw [ro_9 (by omega)]; simp
    · have hc2 : c < β 0 := by omega
      obtain ⟨v1, a1, a2, a3⟩ := m_ans_in (N := N) (V := V) (k27 := k27) (k42 := f_X7_laysAnswers_42 N 95 p o k27 n) (p := p) (x3 := x3) ho ht hN hw hm hF hi hB hc2 N 0 v (by omega) (by have := hw.m6 hc2; omega) hM hU hR hO
      obtain ⟨v', e1, e2, e3⟩ := ih (c + 1) v1 (by omega) (by omega) (fun j hj => by rw [agt_e (a2 96 (by omega))]; exact hM j hj) ⟨by rw [agt_e (a2 95 (by omega))]; exact hU.1, fun j hj => by rw [agt_e (a2 101 (by omega))]; exact hU.2 j hj⟩ (fun j hj => by rw [agt_e (a2 102 (by omega))]; exact hR j hj) a3
      refine ⟨v', ?_, fun a ha => (e2 a ha).trans (a2 a ha), e3⟩
      simp (disch := omega) only [f_X7_laysAnswers_42, lit, m_chips, e0, bnd_s, nLE, hc, if_false]
      rw [a1]
      exact e1
def ML (o : Nat) (v v' : ASt) : Prop := (∀ a, a ≠ 95 → a ≠ 102 → a ≠ o → v'.1 a = v.1 a) ∧ ∀ k, k ≠ 10 → agt v' 95 k = agt v 95 k
theorem ML.tr {o : Nat} {a b c : ASt} (h : ML o a b) (g : ML o b c) : ML o a c := ⟨fun q h1 h2 h3 => (g.1 q h1 h2 h3).trans (h.1 q h1 h2 h3), fun k hk => (g.2 k hk).trans (h.2 k hk)⟩
theorem ML.mk0 {o : Nat} (ho : o = 103 ∨ o = 104) {v v' : ASt} (h : ML o v v') : MK0 v v' := ⟨fun a h1 h2 => h.1 a (by omega) (by omega) (by omega), h.2 3 (by omega), h.2 6 (by omega)⟩
theorem ML.uf {o : Nat} (ho : o = 103 ∨ o = 104) {v v' : ASt} {F : Nat → Nat} {m : Nat} (h : ML o v v') (g : UF v F m) : UF v' F m := ⟨(h.2 8 (by omega)).trans g.1, fun j hj => (agt_e (h.1 101 (by omega) (by omega) (by omega)) j).trans (g.2 j hj)⟩
theorem m_ans_pats {t m o : Nat} {F : Nat → Nat} (ho : o = 103 ∨ o = 104) (ht : t < 2) (hN : 20 ≤ N) (hw : WB β) (hm : m ≤ 4) (hF : ∀ j, j < m → WF (F j)) {p : Int32} : ∀ n i v, i ≤ Pn t (sO β) → Pn t (sO β) < n + i → MB v β → UF v F m → RO v o t β F m i 0 → ∃ v', f_X7_laysAnswers_27 N 95 p o n (nI (Pn t (sO β))) (nI i) v = some ((), v') ∧ ML o v v' ∧ ∀ j, j < 24 → agt v' o j = nI (ro t β F m j) := by
  have hP := Pn_b (t := t) (s := sO β) ht
  intro n
  induction n with
  | zero => intro k v h1 h2; omega
  | succ n ih =>
    intro i v h1 h2 hM hU hO
    by_cases hi : Pn t (sO β) ≤ i
    · have ei : i = Pn t (sO β) := by omega
      subst ei
      refine ⟨v, ?_, ⟨fun a _ _ _ => rfl, fun _ _ => rfl⟩, fun j hj => ?_⟩
      · simp (disch := omega) only [f_X7_laysAnswers_27, nLE, Nat.le_refl, if_true]
      · rw [hO j hj, if_neg (by omega), Nat.mod_eq_of_lt (ro_lt ht hw hF)]
    · obtain ⟨v1, V, a1, a2, a3, a4⟩ := m_test (N := N) ht hN hw hm hF hM hU (show i < Pn t (sO β) by omega)
      have O1 : RO v1 o t β F m i (6 * 0) := fun j hj => by rw [agt_e (a2.1 o (by omega) (by omega))]; exact hO j hj
      obtain ⟨v2, b1, b2, b3⟩ := m_ans_chips (N := N) (V := V) (k27 := f_X7_laysAnswers_27 N 95 p o n) (p := p) (x3 := nI (Pn t (sO β))) ho ht hN hw hm hF (by omega) a4 N 0 v1 (by omega) (by have := hw.1; omega) (a2.mb hM) (a2.uf hU) a3 O1
      have L2 : ML o v v2 := ⟨fun a h1 h2 h3 => (b2 a h3).trans (a2.1 a h1 h2), fun k hk => (agt_e (b2 95 (by omega)) k).trans (a2.2 k hk)⟩
      obtain ⟨v', e1, e2, e3⟩ := ih (i + 1) v2 (by omega) (by omega) ((L2.mk0 ho).mb hM) (L2.uf ho hU) b3
      refine ⟨v', ?_, L2.tr e2, e3⟩
      simp (disch := omega) only [f_X7_laysAnswers_27, nLE, hi, if_false, a1, bnd_s]
      rw [show (0 : Int32) = nI 0 from rfl, b1]
      exact e1
theorem m_ans_0 {t m o : Nat} {F : Nat → Nat} (ho : o = 103 ∨ o = 104) (ht : t < 2) (hN : 20 ≤ N) (hw : WB β) (hm : m ≤ 4) (hF : ∀ j, j < m → WF (F j)) : ∀ n k v, k ≤ 24 → 24 < n + k → MB v β → UF v F m → (∀ j, j < k → agt v o j = nI 0) → ∃ v', f_X7_laysAnswers_2 N 95 (nI t) o n (nI k) v = some ((), v') ∧ ML o v v' ∧ ∀ j, j < 24 → agt v' o j = nI (ro t β F m j) := by
  have hP := Pn_b (t := t) (s := sO β) ht
  have al : aln o = 24 := by rcases ho with rfl | rfl <;> rfl
  intro n
  induction n with
  | zero => intro k v h1 h2; omega
  | succ n ih =>
    intro k v h1 h2 hM hU h0
    by_cases hk : 24 ≤ k
    · have ek : k = 24 := by omega
      subst ek
      have O : RO v o t β F m 0 0 := fun j hj => by rw [h0 j hj, if_neg (by omega)]; simp [Nat.mod_one]
      obtain ⟨v', e1, e2, e3⟩ := m_ans_pats (N := N) (p := nI t) ho ht hN hw hm hF N 0 v (by omega) (by omega) hM hU O
      refine ⟨v', ?_, e2, e3⟩
      have pm : f_X7_patternsOf N 95 (nI t) v = some (nI (Pn t (sO β)), v) := m_patternsOf hw hN hM
      simp (disch := omega) only [f_X7_laysAnswers_2, lit, nLE, Nat.le_refl, if_true, pm, bnd_s]
      exact e1
    · have ne : ∀ a, a ≠ o → (apt v o k (nI 0)).1 a = v.1 a := fun a ha => apt_ne ha
      have L2 : ML o v (apt v o k (nI 0)) := ⟨fun a _ _ h3 => ne a h3, fun j _ => agt_e (ne 95 (by omega)) j⟩
      obtain ⟨v', e1, e2, e3⟩ := ih (k + 1) (apt v o k (nI 0)) (by omega) (by omega) ((L2.mk0 ho).mb hM) (L2.uf ho hU) (fun j hj => by
        rw [agt_pt]
        by_cases q : j = k
        · subst q; simp
        · rw [if_neg (by omega)]; exact h0 j (by omega))
      refine ⟨v', ?_, L2.tr e2, e3⟩
      simp (disch := omega) only [f_X7_laysAnswers_2, lit, nLE, hk, if_false, al, chk_in, nCl, lte_s, nI_add]
      exact e1
theorem m_answers {t m o : Nat} {F : Nat → Nat} (ho : o = 103 ∨ o = 104) (ht : t < 2) (hN : 40 ≤ N) (hw : WB β) (hm : m ≤ 4) (hF : ∀ j, j < m → WF (F j)) {v : ASt} (hM : MB v β) (hU : UF v F m) : ∃ v', f_X7_laysAnswers N 95 (nI t) o v = some ((), v') ∧ ML o v v' ∧ ∀ j, j < 24 → agt v' o j = nI (ro t β F m j) :=
  m_ans_0 ho ht (by omega) hw hm hF N 0 v (by omega) (by omega) hM hU (fun j hj => by omega)
theorem m_answersNow {t : Nat} (ht : t < 2) (hN : 40 ≤ N) (hw : WB β) {v : ASt} (hM : MB v β) : ∃ v', f_X7_laysAnswersNow N 95 (nI t) v = some ((), v') ∧ MK0 v v' ∧ ∀ j, j < 24 → agt v' 103 j = nI (ro t β (Fb β) (β 2) j) := by
  obtain ⟨v1, a1, a2, a3⟩ := m_usesAll (N := N) (by omega) hw hM
  obtain ⟨v2, b1, b2, b3⟩ := m_answers (N := N) (o := 103) (Or.inl rfl) ht hN hw hw.2.2.1 hw.fb (a3.mk0.mb hM) a2
  refine ⟨v2, ?_, a3.mk0.tr (b2.mk0 (Or.inl rfl)), b3⟩
  simp only [f_X7_laysAnswersNow, a1, bnd_s, ar95_11, b1]
end TESTM
