/-! the class's nets -/
theorem ne_0 {e : Nat} (he : e = 78 ∨ e = 86) : arf e 0 = 0 := by rcases he with rfl | rfl <;> rfl
theorem ne_1 {e : Nat} (he : e = 78 ∨ e = 86) : arf e 1 = e + 1 := by rcases he with rfl | rfl <;> rfl
theorem ne_2 {e : Nat} (he : e = 78 ∨ e = 86) : arf e 2 = e + 2 := by rcases he with rfl | rfl <;> rfl
theorem nl_1 {e : Nat} (he : e = 78 ∨ e = 86) : aln (e + 1) = 8 := by rcases he with rfl | rfl <;> rfl
theorem nl_2 {e : Nat} (he : e = 78 ∨ e = 86) : aln (e + 2) = 4 := by rcases he with rfl | rfl <;> rfl
def NK (e : Nat) (u u' : ASt) : Prop := ∀ a, a ≠ e → a ≠ e + 1 → a ≠ e + 2 → u'.1 a = u.1 a
theorem NK.rf {e : Nat} {u : ASt} : NK e u u := fun _ _ _ _ => rfl
theorem NK.tr {e : Nat} {a b c : ASt} (h : NK e a b) (g : NK e b c) : NK e a c := fun q h1 h2 h3 => (g q h1 h2 h3).trans (h q h1 h2 h3)
theorem NK.p {e o k : Nat} {u : ASt} {x : Int32} (h : o = e ∨ o = e + 1 ∨ o = e + 2) : NK e u (apt u o k x) := fun a h1 h2 h3 => apt_ne (by omega)
theorem NK.ck {e : Nat} (he : e = 78 ∨ e = 86) {u u' : ASt} (h : NK e u u') : CK0 u u' := fun a ha => h a (by omega) (by omega) (by omega)
/-- the faults that are used: m codes in the row o1 -/
def FL (u : ASt) (o1 : Nat) (F : Nat → Nat) (m : Nat) : Prop := ∀ j, j < m → agt u o1 j = nI (F j)
theorem FL.k {e o1 m : Nat} {u u' : ASt} {F : Nat → Nat} (h : FL u o1 F m) (ho : o1 < 78 ∨ o1 = 84) (he : e = 78 ∨ e = 86) (hk : NK e u u') : FL u' o1 F m := fun j hj => by
  rw [agt_e (hk o1 (by omega) (by omega) (by omega))]; exact h j hj
def ocs (F : Nat → Nat) : Nat → Nat → Nat
  | 0, _ => 0
  | j + 1, c => if F j / 1000 = 1 ∧ F j / 10 % 10 = c then ocs F j c ||| 1 <<< (F j % 10) else ocs F j c
def smo (F : Nat → Nat) : Nat → Nat
  | 0 => 0
  | j + 1 => if F j / 1000 = 1 then 1 else smo F j
theorem ocs_lt {F : Nat → Nat} : ∀ m, (∀ j, j < m → WF (F j)) → ∀ c, ocs F m c < 256
  | 0, _, _ => by show 0 < 256; decide
  | m + 1, h, c => by
    rw [ocs]
    have := ocs_lt m (fun j hj => h j (by omega)) c
    split
    · rename_i q
      exact Nat.or_lt_two_pow (n := 8) this (shl_256 (Nat.le_refl 1) (by have := (WF_1 (h m (by omega)) q.1).2.1; omega))
    · exact this
theorem ocs_tb {F : Nat → Nat} : ∀ m, (∀ j, j < m → WF (F j)) → ∀ c k, c < 10 → k < 10 → ((ocs F m c).testBit k = true ↔ ∃ j, j < m ∧ F j = 1000 + 10 * c + k)
  | 0, _, c, k, _, _ => by simp [ocs]
  | m + 1, h, c, k, hc, hk => by
    have ih := ocs_tb m (fun j hj => h j (by omega)) c k hc hk
    have e := WF_open (c := c) (h m (by omega)) hc hk
    rw [ocs]
    constructor
    · intro q
      split at q
      · rename_i q1
        rw [Nat.testBit_or, Bool.or_eq_true, tb_shl1] at q
        rcases q with q | q
        · obtain ⟨j, h1, h2⟩ := ih.mp q
          exact ⟨j, by omega, h2⟩
        · exact ⟨m, by omega, e.mpr ⟨q1.1, q1.2, (of_decide_eq_true q).symm⟩⟩
      · obtain ⟨j, h1, h2⟩ := ih.mp q
        exact ⟨j, by omega, h2⟩
    · rintro ⟨j, h1, h2⟩
      by_cases q : j = m
      · subst q
        obtain ⟨e1, e2, e3⟩ := e.mp h2
        rw [if_pos ⟨e1, e2⟩, Nat.testBit_or, tb_shl1, e3]
        simp
      · have := ih.mpr ⟨j, by omega, h2⟩
        split
        · rw [Nat.testBit_or, this]; rfl
        · exact this
section NETS
variable {N e o1 m : Nat} {F : Nat → Nat}
theorem k_open_loop (he : e = 78 ∨ e = 86) (ho : o1 < 78 ∨ o1 = 84) (hm : m ≤ aln o1) (hm4 : m ≤ 4) (hF : ∀ j, j < m → WF (F j)) : ∀ n j u, j ≤ m → m < n + j → FL u o1 F m → (∀ c, c < 4 → agt u (e + 2) c = nI (ocs F j c)) → agt u e 3 = nI (smo F j) → ∃ u', f_X3_findOpenCells_27 N e o1 (nI m) n (nI j) u = some ((), u') ∧ NK e u u' ∧ (∀ c, c < 4 → agt u' (e + 2) c = nI (ocs F m c)) ∧ agt u' e 3 = nI (smo F m) ∧ agt u' e 4 = agt u e 4 := by
  intro n
  induction n with
  | zero => intro j u h1 h2; omega
  | succ n ih =>
    intro j u h1 h2 hL hO h3
    by_cases hj : m ≤ j
    · have ej : j = m := by omega
      subst ej
      refine ⟨u, ?_, NK.rf, hO, h3, rfl⟩
      simp (disch := omega) only [f_X3_findOpenCells_27, lit, nLE, hj, if_true]
    · have hW := hF j (by omega)
      have hx := WF_lt hW
      have fj := hL j (by omega)
      have hj' : ¬ m ≤ j := hj
      by_cases q : F j / 1000 = 1
      · obtain ⟨w1, w2, -⟩ := WF_1 hW q
        have hlt := ocs_lt j (fun i hi => hF i (by omega)) (F j / 10 % 10)
        have L1 : FL (apt u e 3 (nI 1)) o1 F m := hL.k ho he (NK.p (Or.inl rfl))
        have O1 : agt (apt u e 3 (nI 1)) (e + 2) (F j / 10 % 10) = nI (ocs F j (F j / 10 % 10)) := by rw [agt_pt_o (by omega)]; exact hO _ w1
        obtain ⟨u2, hu2⟩ : ∃ z, z = apt (apt u e 3 (nI 1)) (e + 2) (F j / 10 % 10) (nI (ocs F j (F j / 10 % 10) ||| 1 <<< (F j % 10))) := ⟨_, rfl⟩
        have K2 : NK e u u2 := by rw [hu2]; exact (NK.p (Or.inl rfl)).tr (NK.p (Or.inr (Or.inr rfl)))
        have O2 : ∀ c, c < 4 → agt u2 (e + 2) c = nI (ocs F (j + 1) c) := by
          intro c hc
          rw [hu2, agt_pt, ocs]
          by_cases qc : c = F j / 10 % 10
          · subst qc; simp [q]
          · rw [if_neg (by omega), if_neg (by omega), agt_pt_o (by omega)]; exact hO c hc
        have S2 : agt u2 e 3 = nI (smo F (j + 1)) := by
          rw [hu2, agt_pt_o (by omega), agt_pt_s, smo, if_pos q]
        obtain ⟨u', e1, e2, e3, e4, e5⟩ := ih (j + 1) u2 (by omega) (by omega) (hL.k ho he K2) O2 S2
        refine ⟨u', ?_, K2.tr e2, e3, e4, e5.trans (by rw [hu2, agt_pt_o (by omega), agt_pt_k (by omega)])⟩
        have sh : nI 1 <<< (nI (F j % 10) &&& nI 31) = nI (1 <<< (F j % 10)) := nShl (by omega) (Nat.lt_of_lt_of_le (shl_256 (Nat.le_refl 1) (by omega)) (by decide))
        simp (disch := omega) only [f_X3_findOpenCells_27, f_X3_findOpenCells_69, lit, nLE, hj', if_false, bnd_s, lte_s, chk_in, chk_b, chk_0, chk_1, nCl, fj, k_kind, q, if_true, L1 j, k_tens, k_ones, ne_2 he, nl_2 he, O1, sh, nOr, ← hu2, nI_add]
        exact e1
      · obtain ⟨u', e1, e2, e3, e4, e5⟩ := ih (j + 1) u (by omega) (by omega) hL (fun c hc => by rw [ocs, if_neg (by omega)]; exact hO c hc) (by rw [smo, if_neg q]; exact h3)
        refine ⟨u', ?_, e2, e3, e4, e5⟩
        simp (disch := omega) only [f_X3_findOpenCells_27, f_X3_findOpenCells_69, lit, nLE, hj', if_false, bnd_s, lte_s, chk_in, chk_b, chk_0, chk_1, nCl, fj, k_kind, nE, q, nI_add]
        exact e1
theorem k_open0 (he : e = 78 ∨ e = 86) {p : Int32} : ∀ n j u, j ≤ 4 → 4 < n + j → (∀ c, c < j → agt u (e + 2) c = nI 0) → ∃ u', f_X3_findOpenCells_7 N e o1 p n (nI j) u = f_X3_findOpenCells_27 N e o1 p N (nI 0) u' ∧ NK e u u' ∧ (∀ c, c < 4 → agt u' (e + 2) c = nI 0) ∧ agt u' e 3 = agt u e 3 ∧ agt u' e 4 = agt u e 4 := by
  intro n
  induction n with
  | zero => intro j u h1 h2; omega
  | succ n ih =>
    intro j u h1 h2 hO
    by_cases hj : 4 ≤ j
    · have ej : j = 4 := by omega
      subst ej
      refine ⟨u, ?_, NK.rf, hO, rfl, rfl⟩
      simp (disch := omega) only [f_X3_findOpenCells_7, lit, nLE, Nat.le_refl, if_true]
    · obtain ⟨u', e1, e2, e3, e4, e5⟩ := ih (j + 1) (apt u (e + 2) j (nI 0)) (by omega) (by omega) (fun c hc => by
        rw [agt_pt]
        by_cases q : c = j
        · simp [q]
        · rw [if_neg (by omega)]; exact hO c (by omega))
      refine ⟨u', ?_, (NK.p (Or.inr (Or.inr rfl))).tr e2, e3, by rw [e4, agt_pt_o (by omega)], by rw [e5, agt_pt_o (by omega)]⟩
      have hj' : ¬ 4 ≤ j := hj
      simp (disch := omega) only [f_X3_findOpenCells_7, lit, nLE, hj', if_false, bnd_s, lte_s, chk_in, chk_b, chk_0, chk_1, ne_2 he, nl_2 he, nCl, nI_add]
      exact e1
theorem k_open (hN : 20 ≤ N) (he : e = 78 ∨ e = 86) (ho : o1 < 78 ∨ o1 = 84) (hm : m ≤ aln o1) (hm4 : m ≤ 4) (hF : ∀ j, j < m → WF (F j)) {u : ASt} (hL : FL u o1 F m) : ∃ u', f_X3_findOpenCells N e o1 (nI m) u = some ((), u') ∧ NK e u u' ∧ (∀ c, c < 4 → agt u' (e + 2) c = nI (ocs F m c)) ∧ agt u' e 3 = nI (smo F m) ∧ agt u' e 4 = agt u e 4 := by
  obtain ⟨u1, e1, e2, e3, e4, e5⟩ := k_open0 (N := N) (o1 := o1) he (p := nI m) N 0 (apt u e 3 (nI 0)) (by omega) (by omega) (fun c hc => by omega)
  have K1 : NK e u u1 := (NK.p (Or.inl rfl)).tr e2
  obtain ⟨u2, g1, g2, g3, g4, g5⟩ := k_open_loop (N := N) he ho hm hm4 hF N 0 u1 (by omega) (by omega) (hL.k ho he K1) (fun c hc => e3 c hc) (by rw [e4, agt_pt_s]; rfl)
  refine ⟨u2, ?_, K1.tr g2, g3, g4, by rw [g5, e5, agt_pt_k (by omega)]⟩
  simp (disch := omega) only [f_X3_findOpenCells, lit, lte_s, e1, g1]
/-- shorts -/
theorem sh1_o {x n : Nat} {W : Nat → Nat} (h : ¬ 3000 ≤ x) : sh1 x W n = W n := by unfold sh1; rw [if_neg h]

theorem k_sh82 {N e o1 a b y j : Nat} (he : e = 78 ∨ e = 86) {p : Int32} {k2 : Int32 → ASt → Option (Unit × ASt)} {u : ASt} (ha : a < 8) (hb : b < 8) : f_X3_applyShorts_82 N e o1 p k2 (nI j) (nI a) (nI b) (nI y) u = k2 (nI (j + 1)) (apt (apt u (e + 1) a (nI y)) (e + 1) b (nI y)) := by
  simp (disch := omega) only [f_X3_applyShorts_82, f_X3_applyShorts_102, lit, bnd_s, lte_s, chk_in, chk_b, chk_0, chk_1, nCl, ne_1 he, nl_1 he, nI_add]
theorem k_sh27 {N e o1 x ya yb j t : Nat} (he : e = 78 ∨ e = 86) {p : Int32} {k2 : Int32 → ASt → Option (Unit × ASt)} {u : ASt} (hj : j < aln o1) (hj2 : j < 100) (fj : agt u o1 j = nI x) (hx : x < 5000) (ha : x / 10 % 10 < 8) (hb : x % 10 < 8) (ra : agt u (e + 1) (x / 10 % 10) = nI ya) (rb : agt u (e + 1) (x % 10) = nI yb) (ht : t = 3 ∨ t = 4) : f_X3_applyShorts_27 N e o1 p k2 (nI j) (nI t) u = k2 (nI (j + 1)) (apt (apt u (e + 1) (x / 10 % 10) (nI (if t = 3 then ya &&& yb else ya ||| yb))) (e + 1) (x % 10) (nI (if t = 3 then ya &&& yb else ya ||| yb))) := by
  have l1 := ne_1 he
  have l2 := nl_1 he
  unfold f_X3_applyShorts_27
  rw [nCl (show j < 2147483648 by omega), chk_in hj (by omega), fj, k_tens hx, bnd_s, chk_in hj (by omega), fj, k_ones hx, bnd_s, l1, l2, chk_in ha (by omega), chk_in hb (by omega), chk_in ha (by omega), chk_in hb (by omega), nCl (show x / 10 % 10 < 2147483648 by omega), nCl (show x % 10 < 2147483648 by omega), ra, rb, nAnd, nOr, k_sh82 he ha hb, k_sh82 he ha hb]
  rcases ht with rfl | rfl
  · rw [if_pos rfl, if_pos (show nI 3 = (3 : Int32) from rfl)]
  · rw [if_neg (show ¬ (4 : Nat) = 3 by decide), if_neg (show ¬ nI 4 = (3 : Int32) by decide)]
theorem k_short_loop (he : e = 78 ∨ e = 86) (ho : o1 < 78 ∨ o1 = 84) (hm : m ≤ aln o1) (hm4 : m ≤ 4) (hF : ∀ j, j < m → WF (F j)) {W : Nat → Nat} (hW8 : B8 W) : ∀ n j u, j ≤ m → m < n + j → FL u o1 F m → R8 u (e + 1) (shs F j W) → ∃ u', f_X3_applyShorts_2 N e o1 (nI m) n (nI j) u = some ((), u') ∧ NK e u u' ∧ R8 u' (e + 1) (shs F m W) ∧ u'.1 e = u.1 e ∧ u'.1 (e + 2) = u.1 (e + 2) := by
  intro n
  induction n with
  | zero => intro j u h1 h2; omega
  | succ n ih =>
    intro j u h1 h2 hL hR
    by_cases hj : m ≤ j
    · have ej : j = m := by omega
      subst ej
      refine ⟨u, ?_, NK.rf, hR, rfl, rfl⟩
      simp (disch := omega) only [f_X3_applyShorts_2, lit, nLE, hj, if_true]
    · have hW := hF j (by omega)
      have hx := WF_lt hW
      have fj := hL j (by omega)
      have hj' : ¬ m ≤ j := hj
      have hB := shs_B (W := W) j (fun i hi => hF i (by omega)) hW8
      by_cases q : 3000 ≤ F j
      · obtain ⟨w1, w2, w3, w4, w5⟩ := WF_34 hW q
        have ra := hR _ w1
        have rb := hR _ w2
        obtain ⟨y, hy⟩ : ∃ z, z = if F j < 4000 then shs F j W (F j / 10 % 10) &&& shs F j W (F j % 10) else shs F j W (F j / 10 % 10) ||| shs F j W (F j % 10) := ⟨_, rfl⟩
        obtain ⟨u2, hu2⟩ : ∃ z, z = apt (apt u (e + 1) (F j / 10 % 10) (nI y)) (e + 1) (F j % 10) (nI y) := ⟨_, rfl⟩
        have K2 : NK e u u2 := by rw [hu2]; exact (NK.p (Or.inr (Or.inl rfl))).tr (NK.p (Or.inr (Or.inl rfl)))
        have R2 : R8 u2 (e + 1) (shs F (j + 1) W) := by
          intro i hi
          rw [hu2, shs]
          unfold sh1
          rw [if_pos q, agt_pt, agt_pt, hy]
          by_cases q1 : i = F j % 10
          · subst q1; simp
          · by_cases q2 : i = F j / 10 % 10
            · subst q2; simp [q1]
            · rw [if_neg (by omega), if_neg (by omega), if_neg (by omega)]; exact hR i hi
        obtain ⟨u', e1, e2, e3, e4, e5⟩ := ih (j + 1) u2 (by omega) (by omega) (hL.k ho he K2) R2
        refine ⟨u', ?_, K2.tr e2, e3, e4.trans (by rw [hu2, apt_ne (by omega), apt_ne (by omega)]), e5.trans (by rw [hu2, apt_ne (by omega), apt_ne (by omega)])⟩
        have q4 : F j / 1000 = 3 ∨ F j / 1000 = 4 := (WF_n hW).mpr q
        have S := k_sh27 (N := N) (p := nI m) (k2 := f_X3_applyShorts_2 N e o1 (nI m) n) (t := F j / 1000) he (show j < aln o1 by omega) (by omega) fj hx w1 w2 ra rb q4
        have hy2 : (if F j / 1000 = 3 then shs F j W (F j / 10 % 10) &&& shs F j W (F j % 10) else shs F j W (F j / 10 % 10) ||| shs F j W (F j % 10)) = y := by
          rw [hy]
          by_cases q3 : F j < 4000
          · rw [if_pos q3, if_pos (w4.mpr q3)]
          · rw [if_neg q3, if_neg (fun z => q3 (w4.mp z))]
        rw [hy2, ← hu2] at S
        have T : f_X3_applyShorts_2 N e o1 (nI m) (n + 1) (nI j) u = f_X3_applyShorts_27 N e o1 (nI m) (f_X3_applyShorts_2 N e o1 (nI m) n) (nI j) (nI (F j / 1000)) u := by
          simp (disch := omega) only [f_X3_applyShorts_2, lit, nLE, hj', if_false, bnd_s, lte_s, chk_in, chk_b, chk_0, chk_1, nCl, fj, k_kind hx, nE]
          rcases q4 with q4 | q4
          · rw [if_pos q4]
          · rw [if_neg (by omega), if_pos q4]
        rw [T, S]
        exact e1
      · obtain ⟨u', e1, e2, e3, e4, e5⟩ := ih (j + 1) u (by omega) (by omega) hL (fun i hi => by rw [shs, sh1_o q]; exact hR i hi)
        refine ⟨u', ?_, e2, e3, e4, e5⟩
        have q3 : ¬ F j / 1000 = 3 := by omega
        have q4 : ¬ F j / 1000 = 4 := by omega
        simp (disch := omega) only [f_X3_applyShorts_2, f_X3_applyShorts_102, lit, nLE, hj', if_false, bnd_s, lte_s, chk_in, chk_b, chk_0, chk_1, nCl, fj, k_kind, nE, q3, q4, nI_add]
        exact e1
theorem k_stuck_loop (he : e = 78 ∨ e = 86) (ho : o1 < 78 ∨ o1 = 84) (hm : m ≤ aln o1) (hm4 : m ≤ 4) (hF : ∀ j, j < m → WF (F j)) {A : Nat} {W : Nat → Nat} : ∀ n j u, j ≤ m → m < n + j → FL u o1 F m → agt u e 4 = nI A → R8 u (e + 1) (sts A F j W) → ∃ u', f_X3_applyStuck_2 N e o1 (nI m) n (nI j) u = some ((), u') ∧ NK e u u' ∧ R8 u' (e + 1) (sts A F m W) ∧ u'.1 e = u.1 e ∧ u'.1 (e + 2) = u.1 (e + 2) := by
  intro n
  induction n with
  | zero => intro j u h1 h2; omega
  | succ n ih =>
    intro j u h1 h2 hL h4 hR
    by_cases hj : m ≤ j
    · have ej : j = m := by omega
      subst ej
      refine ⟨u, ?_, NK.rf, hR, rfl, rfl⟩
      simp (disch := omega) only [f_X3_applyStuck_2, lit, nLE, hj, if_true]
    · have hW := hF j (by omega)
      have hx := WF_lt hW
      have fj := hL j (by omega)
      have hj' : ¬ m ≤ j := hj
      by_cases q : F j / 1000 = 2
      · obtain ⟨w1, w2, -⟩ := WF_2 hW q
        obtain ⟨u2, hu2⟩ : ∃ z, z = apt u (e + 1) (F j / 10 % 10) (nI (if F j % 10 = 1 then A else 0)) := ⟨_, rfl⟩
        have K2 : NK e u u2 := by rw [hu2]; exact NK.p (Or.inr (Or.inl rfl))
        have R2 : R8 u2 (e + 1) (sts A F (j + 1) W) := by
          intro i hi
          rw [hu2, sts]
          unfold st1
          rw [if_pos q, agt_pt]
          by_cases q1 : i = F j / 10 % 10
          · subst q1; simp
          · rw [if_neg (by omega), if_neg (by omega)]; exact hR i hi
        obtain ⟨u', e1, e2, e3, e4, e5⟩ := ih (j + 1) u2 (by omega) (by omega) (hL.k ho he K2) (by rw [hu2, agt_pt_o (by omega)]; exact h4) R2
        refine ⟨u', ?_, K2.tr e2, e3, e4.trans (by rw [hu2, apt_ne (by omega)]), e5.trans (by rw [hu2, apt_ne (by omega)])⟩
        by_cases q3 : F j % 10 = 1
        · rw [if_pos q3] at hu2
          simp (disch := omega) only [f_X3_applyStuck_2, f_X3_applyStuck_45, f_X3_applyStuck_46, lit, nLE, hj', if_false, bnd_s, lte_s, chk_in, chk_b, chk_0, chk_1, nCl, fj, k_kind, q, if_true, k_tens, k_ones, q3, ne_1 he, nl_1 he, h4, ← hu2, nI_add]
          exact e1
        · rw [if_neg q3] at hu2
          simp (disch := omega) only [f_X3_applyStuck_2, f_X3_applyStuck_45, f_X3_applyStuck_46, lit, nLE, hj', if_false, bnd_s, lte_s, chk_in, chk_b, chk_0, chk_1, nCl, fj, k_kind, q, if_true, k_tens, k_ones, nE, q3, ne_1 he, nl_1 he, ← hu2, nI_add]
          exact e1
      · obtain ⟨u', e1, e2, e3, e4, e5⟩ := ih (j + 1) u (by omega) (by omega) hL h4 (fun i hi => by rw [sts]; unfold st1; rw [if_neg q]; exact hR i hi)
        refine ⟨u', ?_, e2, e3, e4, e5⟩
        simp (disch := omega) only [f_X3_applyStuck_2, f_X3_applyStuck_46, lit, nLE, hj', if_false, bnd_s, lte_s, chk_in, chk_b, chk_0, chk_1, nCl, fj, k_kind, nE, q, nI_add]
        exact e1
end NETS
