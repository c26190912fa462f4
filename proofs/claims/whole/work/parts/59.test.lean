/-! the nets in a test: the class -/
def dP (β O : Nat → Nat) (c k : Nat) : Prop := bc β c (7 + 2 * k) = 1 ∧ (O c).testBit k = false
theorem gm1_tb {β : Nat → Nat} {P : Nat → Nat → Prop} {c i : Nat} : ∀ n, (gm1 β P c n).testBit i = true ↔ ∃ k, k < n ∧ P c k ∧ bc β c (8 + 2 * k) = i
  | 0 => by
    rw [gm1]
    constructor
    · intro h; simp at h
    · rintro ⟨k, h, -⟩; omega
  | n + 1 => by
    rw [gm1, Nat.testBit_or, Bool.or_eq_true, gm1_tb n]
    constructor
    · rintro (⟨k, h1, h2, h3⟩ | h)
      · exact ⟨k, by omega, h2, h3⟩
      · split at h
        · rename_i q
          rw [tb_shl1] at h
          exact ⟨n, by omega, q, (of_decide_eq_true h).symm⟩
        · simp at h
    · rintro ⟨k, h1, h2, h3⟩
      by_cases e : k = n
      · subst e
        right
        rw [if_pos h2, tb_shl1, h3]; simp
      · exact Or.inl ⟨k, by omega, h2, h3⟩
theorem gm_tb {β : Nat → Nat} {P : Nat → Nat → Prop} {i : Nat} : ∀ n, (gm β P n).testBit i = true ↔ ∃ c k, c < n ∧ k < bc β c 2 ∧ P c k ∧ bc β c (8 + 2 * k) = i
  | 0 => by
    rw [gm]
    constructor
    · intro h; simp at h
    · rintro ⟨c, k, h, -⟩; omega
  | n + 1 => by
    rw [gm, Nat.testBit_or, Bool.or_eq_true, gm_tb n, gm1_tb]
    constructor
    · rintro (⟨c, k, h1, h2, h3⟩ | ⟨k, h1, h2⟩)
      · exact ⟨c, k, by omega, h2, h3⟩
      · exact ⟨n, k, by omega, h1, h2⟩
    · rintro ⟨c, k, h1, h2, h3⟩
      by_cases e : c = n
      · subst e; exact Or.inr ⟨k, h2, h3⟩
      · exact Or.inl ⟨c, k, by omega, h2, h3⟩
theorem nmk1_gm {β : Nat → Nat} {c : Nat} : ∀ n, (∀ k, k < n → bc β c (7 + 2 * k) ≤ 1) → nmk1 β true c n = gm1 β (fun c k => bc β c (7 + 2 * k) = 1) c n
  | 0, _ => rfl
  | n + 1, h => by
    rw [nmk1, gm1, nmk1_gm n (fun k hk => h k (by omega))]
    have := h n (by omega)
    congr 1
    by_cases q : bc β c (7 + 2 * n) = 1
    · rw [if_pos q, if_neg (by omega)]
    · rw [if_neg q, if_pos ⟨rfl, by omega⟩]
theorem nmk_gm {β : Nat → Nat} : ∀ n, (∀ c, c < n → ∀ k, k < bc β c 2 → bc β c (7 + 2 * k) ≤ 1) → nmk β true n = gm β (fun c k => bc β c (7 + 2 * k) = 1) n
  | 0, _ => rfl
  | n + 1, h => by
    rw [nmk, gm, nmk_gm n (fun c hc => h c (by omega)), nmk1_gm _ (h n (by omega))]
theorem gm_congr {β : Nat → Nat} {P Q : Nat → Nat → Prop} (h : ∀ c k, P c k ↔ Q c k) (n : Nat) : gm β P n = gm β Q n := by
  have : P = Q := by funext c k; exact propext (h c k)
  rw [this]
theorem smo_0 {F : Nat → Nat} : ∀ m, smo F m = 0 → ∀ c, ocs F m c = 0
  | 0, _, _ => rfl
  | m + 1, h, c => by
    rw [smo] at h
    split at h
    · omega
    · rename_i q
      rw [ocs, if_neg (fun z => q z.1)]
      exact smo_0 m h c
theorem smo_1 {F : Nat → Nat} : ∀ m, smo F m ≤ 1
  | 0 => by show 0 ≤ 1; omega
  | m + 1 => by
    rw [smo]
    split
    · omega
    · exact smo_1 m
def som (β O : Nat → Nat) (c : Nat) : Nat := omk β c (bc β c 2) &&& (255 ^^^ O c)
theorem som_tb {β O : Nat → Nat} {c k : Nat} (hw : WB β) (hc : c < β 0) (hk : k < bc β c 2) : (som β O c).testBit k = true ↔ dP β O c k := by
  unfold som dP
  have h6 := hw.m6 hc
  rw [Nat.testBit_and, Nat.testBit_xor, tb_255, omk_tb _ (fun j hj => hw.kind hc hj)]
  have h8 : k < 8 := by omega
  simp [hk, h8]
section TESTC
variable {N : Nat} {β : Nat → Nat}
theorem k_sound_in {O : Nat → Nat} (hw : WB β) {c : Nat} (hc : c < β 0) {u : ASt} (hC : CB u 0 β) {k4 : Int32 → Int32 → ASt → Option (Int32 × ASt)} {z : Nat} : ∀ n k, k ≤ bc β c 2 → bc β c 2 < n + k → f_X3_netsOfSoundOutputs_35 N 86 k4 n (nI (z ||| gm1 β (dP β O) c k)) (nI c) (3 + c) (nI (som β O c)) (nI k) u = k4 (nI (z ||| gm1 β (dP β O) c (bc β c 2))) (nI (c + 1)) u := by
  have h4 := hw.1
  have h6 := hw.m6 hc
  have hCC := hC.cc hc
  have g6 := hCC.2.2.2.2.2.2.1
  have hD : som β O c < 256 := andN_lt (omk_lt _ h6 (fun k hk => hw.kind hc hk))
  intro n
  induction n with
  | zero => intro k h1 h2; omega
  | succ n ih =>
    intro k h1 h2
    by_cases hk : bc β c 2 ≤ k
    · have ek : k = bc β c 2 := by omega
      subst ek
      simp (disch := omega) only [f_X3_netsOfSoundOutputs_35, lit, g6, nLE, Nat.le_refl, if_true, nI_add]
    · have hk2 : k < bc β c 2 := by omega
      have hn := hw.net hc hk2
      have g8 := hCC.2.2.2.2.2.2.2.2 k hk2
      have IH := ih (k + 1) (by omega) (by omega)
      have sh : nI 1 <<< (nI (bc β c (8 + 2 * k)) &&& nI 31) = nI (1 <<< bc β c (8 + 2 * k)) := nShl (by omega) (Nat.lt_of_lt_of_le (shl_256 (Nat.le_refl 1) hn) (by decide))
      have m2 : f_X6_isMember N (nI (som β O c)) (nI k) u = some (bI ((som β O c).testBit k = true), u) := k_isMember (by omega) (by omega)
      rw [gm1] at IH
      by_cases qd : (som β O c).testBit k = true
      · have hd := (som_tb (O := O) hw hc hk2).mp qd
        rw [if_pos hd, ← Nat.or_assoc] at IH
        simp (disch := omega) only [f_X3_netsOfSoundOutputs_35, f_X3_netsOfSoundOutputs_66, lit, g6, nLE, hk, if_false, m2, bnd_s, bI0, qd, not_true, ar_c8, al_7c, chk_in, nCl, g8, sh, nOr, lte_s, nI_add]
        exact IH
      · have hd : ¬ dP β O c k := fun z => qd ((som_tb (O := O) hw hc hk2).mpr z)
        rw [if_neg hd, Nat.or_zero] at IH
        simp (disch := omega) only [f_X3_netsOfSoundOutputs_35, f_X3_netsOfSoundOutputs_66, lit, g6, nLE, hk, if_false, m2, bnd_s, bI0, qd, Bool.false_eq_true, not_false_eq_true, if_true, nI_add]
        exact IH
theorem k_sound {O : Nat → Nat} (hw : WB β) (hN : 20 ≤ N) {u : ASt} (hC : CB u 0 β) (hO : ∀ c, c < 4 → agt u 88 c = nI (O c)) : f_X3_netsOfSoundOutputs N 86 u = some (nI (gm β (dP β O) (β 0)), u) := by
  have h4 := hw.1
  have a0 := hC.u0
  have L : ∀ n c, c ≤ β 0 → β 0 < n + c → f_X3_netsOfSoundOutputs_4 N 86 n (nI (gm β (dP β O) c)) (nI c) u = some (nI (gm β (dP β O) (β 0)), u) := by
    intro n
    induction n with
    | zero => intro c h1 h2; omega
    | succ n ih =>
      intro c h1 h2
      by_cases hc : β 0 ≤ c
      · have ec : c = β 0 := by omega
        subst ec
        simp (disch := omega) only [f_X3_netsOfSoundOutputs_4, ar86_0, a0, nLE, Nat.le_refl, if_true]
      · have hc2 : c < β 0 := by omega
        have g7 := (hC.cc hc2).2.2.2.2.2.2.2.1
        have om := omk_lt (β := β) (c := c) _ (hw.m6 hc2) (fun k hk => hw.kind hc2 hk)
        have ed : nI (omk β c (bc β c 2)) &&& (nI (O c) ^^^ (-nI 1)) = nI (som β O c) := nAndN om
        have IH := ih (c + 1) (by omega) (by omega)
        have IN := k_sound_in (N := N) (O := O) (k4 := f_X3_netsOfSoundOutputs_4 N 86 n) (z := gm β (dP β O) c) hw hc2 hC N 0 (by omega) (by have := hw.m6 hc2; omega)
        rw [show gm1 β (dP β O) c 0 = 0 from rfl, Nat.or_zero] at IN
        rw [gm] at IH
        simp (disch := omega) only [f_X3_netsOfSoundOutputs_4, f_X3_soundOutputs, lit, ar86_0, ar86_2, al88, a0, nLE, hc, if_false, ar_b0, al_1, chk_in, nCl, ar_1, hO c (by omega), g7, ed, bnd_s]
        rw [IN]
        exact IH
  exact L N 0 (by omega) (by omega)
theorem k_stimdrive {D A : Nat} {S : Nat → Nat} (hD : D < 256) : ∀ n j u, j ≤ 8 → 8 < n + j → R8 u 82 S → agt u 86 4 = nI A → (∀ i, i < j → agt u 87 i = nI (if D.testBit i = true then S i else A)) → ∃ u', f_X3_driveByStimuli_2 N 86 82 (nI D) n (nI j) u = some ((), u') ∧ NK 86 u u' ∧ R8 u' 87 (fun i => if D.testBit i = true then S i else A) ∧ u'.1 86 = u.1 86 ∧ u'.1 88 = u.1 88 := by
  intro n
  induction n with
  | zero => intro j u h1 h2; omega
  | succ n ih =>
    intro j u h1 h2 hS hA hI
    by_cases hj : 8 ≤ j
    · have ej : j = 8 := by omega
      subst ej
      refine ⟨u, ?_, NK.rf, hI, rfl, rfl⟩
      simp (disch := omega) only [f_X3_driveByStimuli_2, lit, nLE, Nat.le_refl, if_true]
    · have hj' : ¬ 8 ≤ j := hj
      have ne : ∀ a, a ≠ 87 → (apt u 87 j (nI (if D.testBit j = true then S j else A))).1 a = u.1 a := fun a ha => apt_ne ha
      obtain ⟨u', e1, e2, e3, e4, e5⟩ := ih (j + 1) (apt u 87 j (nI (if D.testBit j = true then S j else A))) (by omega) (by omega) (fun i hi => by rw [agt_e (ne 82 (by omega))]; exact hS i hi) (by rw [agt_e (ne 86 (by omega))]; exact hA) (fun i hi => by
        rw [agt_pt]
        by_cases q : i = j
        · subst q; simp
        · rw [if_neg (by omega)]; exact hI i (by omega))
      refine ⟨u', ?_, (NK.p (Or.inr (Or.inl rfl))).tr e2, e3, e4.trans (apt_ne (by omega)), e5.trans (apt_ne (by omega))⟩
      have mm : f_X6_isMember N (nI D) (nI j) u = some (bI (D.testBit j = true), u) := k_isMember (by omega) (by omega)
      by_cases q : D.testBit j = true
      · rw [if_pos q] at e1
        simp (disch := omega) only [f_X3_driveByStimuli_2, f_X3_driveByStimuli_31, lit, nLE, hj', if_false, mm, bnd_s, bI0, q, not_true, ar86_1, al87, al82, chk_in, nCl, hS j (by omega), lte_s, nI_add]
        exact e1
      · rw [if_neg q] at e1
        simp (disch := omega) only [f_X3_driveByStimuli_2, f_X3_driveByStimuli_31, lit, nLE, hj', if_false, mm, bnd_s, bI0, q, Bool.false_eq_true, not_false_eq_true, if_true, ar86_1, al87, chk_in, nCl, hA, lte_s, nI_add]
        exact e1
def At (t : Nat) (β : Nat → Nat) : Nat := 1 <<< Pn t (sO β) - 1
noncomputable def W0 (t : Nat) (β O : Nat → Nat) : Nat → Nat := fun i => if (gm β (dP β O) (β 0)).testBit i = true then stim t (sO β) i else At t β
noncomputable def TW (t : Nat) (β F : Nat → Nat) (m : Nat) : Nat → Nat := sts (At t β) F m (shs F m (W0 t β (ocs F m)))
def BP (p : Nat) (W : Nat → Nat) : Prop := ∀ n, n < 8 → W n < 2 ^ p
theorem BP.b8 {p : Nat} {W : Nat → Nat} (hp : p ≤ 8) (h : BP p W) : B8 W := fun n hn => Nat.lt_of_lt_of_le (h n hn) (by have := Nat.pow_le_pow_right (n := 2) (by omega) hp; omega)
theorem sh1_P {p x : Nat} {W : Nat → Nat} (hx : WF x) (h : BP p W) : BP p (sh1 x W) := by
  intro n hn
  unfold sh1
  by_cases q : 3000 ≤ x
  · rw [if_pos q]
    obtain ⟨q1, q2, -⟩ := WF_34 hx q
    try dsimp only
    split
    · split
      · exact Nat.lt_of_le_of_lt Nat.and_le_left (h _ q1)
      · exact Nat.or_lt_two_pow (h _ q1) (h _ q2)
    · exact h n hn
  · rw [if_neg q]; exact h n hn
theorem st1_P {p A x : Nat} {W : Nat → Nat} (hA : A < 2 ^ p) (h : BP p W) : BP p (st1 A x W) := by
  intro n hn
  unfold st1
  split
  · try dsimp only
    split
    · split
      · exact hA
      · omega
    · exact h n hn
  · exact h n hn
theorem shs_P {p : Nat} {F : Nat → Nat} {W : Nat → Nat} : ∀ m, (∀ j, j < m → WF (F j)) → BP p W → BP p (shs F m W)
  | 0, _, h => h
  | m + 1, hF, h => sh1_P (hF m (by omega)) (shs_P m (fun j hj => hF j (by omega)) h)
theorem sts_P {p A : Nat} {F : Nat → Nat} {W : Nat → Nat} (hA : A < 2 ^ p) : ∀ m, BP p W → BP p (sts A F m W)
  | 0, h => h
  | m + 1, h => st1_P hA (sts_P hA m h)
theorem At_lt {t : Nat} : At t β < 2 ^ Pn t (sO β) := by
  unfold At
  rw [Nat.one_shiftLeft]
  have := Nat.two_pow_pos (Pn t (sO β))
  omega
theorem W0_P {t : Nat} (ht : t < 2) (hw : WB β) {O : Nat → Nat} : BP (Pn t (sO β)) (W0 t β O) := by
  intro n hn
  unfold W0
  split
  · have := stim_b ht (sO_lt hw) hn
    rw [Nat.one_shiftLeft] at this
    exact this
  · exact At_lt
theorem TW_P {t : Nat} (ht : t < 2) (hw : WB β) {F : Nat → Nat} {m : Nat} (hF : ∀ j, j < m → WF (F j)) : BP (Pn t (sO β)) (TW t β F m) := sts_P At_lt m (shs_P m hF (W0_P ht hw))
theorem At_256 {t : Nat} (ht : t < 2) : At t β < 256 := by
  have h1 := At_lt (t := t) (β := β)
  have h2 := Nat.pow_le_pow_right (n := 2) (by omega) (Pn_b (t := t) (s := sO β) ht).2
  omega
theorem k_test {t o1 m : Nat} {F : Nat → Nat} (ht : t < 2) (hN : 20 ≤ N) (hw : WB β) (ho : o1 < 78 ∨ o1 = 84) (hm : m ≤ aln o1) (hm4 : m ≤ 4) (hF : ∀ j, j < m → WF (F j)) {u : ASt} (hC : CB u 0 β) (hL : FL u o1 F m) (hS : R8 u 82 (stim t (sO β))) : ∃ u', f_X3_settleInTest N 86 82 (nI (At t β)) o1 (nI m) u = some ((), u') ∧ NK 86 u u' ∧ R8 u' 87 (TW t β F m) ∧ (∀ c, c < 4 → agt u' 88 c = nI (ocs F m c)) ∧ agt u' 86 4 = nI (At t β) := by
  have he : (86 : Nat) = 78 ∨ (86 : Nat) = 86 := Or.inr rfl
  have K0 : NK 86 u (apt u 86 4 (nI (At t β))) := NK.p (Or.inl rfl)
  have C0 := hC.nk hw he K0
  obtain ⟨u1, a1, a2, a3, a4, a5⟩ := k_open (N := N) (o1 := o1) (m := m) (F := F) hN he ho hm hm4 hF (hL.k ho he K0)
  have C1 := C0.nk hw he a2
  have K1 := K0.tr a2
  have S1 : R8 u1 82 (stim t (sO β)) := fun i hi => by rw [agt_e (K1 82 (by omega) (by omega) (by omega))]; exact hS i hi
  have A1 : agt u1 86 4 = nI (At t β) := by rw [a5, agt_pt_s]
  have hD := gm_lt (β := β) (P := dP β (ocs F m)) (β 0) (fun c hc k hk => hw.net hc hk)
  obtain ⟨u2, b1, b2, b3, b4, b5⟩ := k_stimdrive (N := N) hD N 0 u1 (by omega) (by omega) S1 A1 (fun i hi => by omega)
  have K2 := K1.tr b2
  obtain ⟨u3, c1, c2, c3, c4, c5⟩ := k_short_loop (N := N) (o1 := o1) (m := m) (F := F) (W := W0 t β (ocs F m)) he ho hm hm4 hF ((W0_P ht hw).b8 (Pn_b ht).2) N 0 u2 (by omega) (by omega) (hL.k ho he K2) b3
  have K3 := K2.tr c2
  have A3 : agt u3 86 4 = nI (At t β) := by rw [agt_e c4, agt_e b4]; exact A1
  obtain ⟨u4, d1, d2, d3, d4, d5⟩ := k_stuck_loop (N := N) (o1 := o1) (m := m) (F := F) (A := At t β) (W := shs F m (W0 t β (ocs F m))) he ho hm hm4 hF N 0 u3 (by omega) (by omega) (hL.k ho he K3) A3 c3
  refine ⟨u4, ?_, K3.tr d2, d3, fun c hc => ?_, by rw [agt_e d4]; exact A3⟩
  · have b1' : f_X3_driveByStimuli N 86 82 (nI (gm β (dP β (ocs F m)) (β 0))) u1 = some ((), u2) := b1
    have c1' : f_X3_applyShorts N 86 o1 (nI m) u2 = some ((), u3) := c1
    have d1' : f_X3_applyStuck N 86 o1 (nI m) u3 = some ((), u4) := d1
    have s1 := smo_1 (F := F) m
    by_cases q : smo F m = 0
    · have e : sO β = gm β (dP β (ocs F m)) (β 0) := by
        unfold sO
        rw [nmk_gm _ (fun c hc k hk => hw.kind hc hk)]
        refine gm_congr (fun c k => ?_) _
        unfold dP
        rw [smo_0 m q c]
        simp
      rw [q] at a4
      simp (disch := omega) only [f_X3_settleInTest, f_X3_settleInTest_35, lit, lte_s, a1, bnd_s, a4, if_true, ar86_0, C1.u6, e, b1', c1', d1']
    · have ks := k_sound (N := N) (O := ocs F m) hw hN C1 a3
      simp (disch := omega) only [f_X3_settleInTest, f_X3_settleInTest_35, lit, lte_s, a1, bnd_s, a4, nE, q, if_false, ks, b1', c1', d1']
  · rw [agt_e d5, agt_e c5, agt_e b5]
    exact a3 c hc
end TESTC
