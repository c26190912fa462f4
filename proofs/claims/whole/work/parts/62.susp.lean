/-! suspects: the list of candidates -/
noncomputable def bk (C : Nat → Prop) (b : Nat) : Nat → List Nat
  | 0 => []
  | y + 1 => bk C b y ++ @ite (List Nat) (C y) (Classical.propDecidable _) [b + y] []
theorem bk_skip {C : Nat → Prop} {b a : Nat} : ∀ d, (∀ y, a ≤ y → y < a + d → ¬ C y) → bk C b (a + d) = bk C b a
  | 0, _ => rfl
  | d + 1, h => by
    rw [← Nat.add_assoc, bk, if_neg (h (a + d) (by omega) (by omega)), List.append_nil, bk_skip d (fun y h1 h2 => h y h1 (by omega))]
theorem bk_to {C : Nat → Prop} {b a e : Nat} (h1 : a ≤ e) (h : ∀ y, a ≤ y → y < e → ¬ C y) : bk C b e = bk C b a := by
  obtain ⟨d, rfl⟩ : ∃ d, e = a + d := ⟨e - a, by omega⟩
  exact bk_skip d h
theorem bk_add {C : Nat → Prop} {b y : Nat} (h : C y) : bk C b (y + 1) = bk C b y ++ [b + y] := by rw [bk, if_pos h]
theorem bk_mem {C : Nat → Prop} {b x : Nat} : ∀ n, x ∈ bk C b n → ∃ y, y < n ∧ C y ∧ x = b + y
  | 0, h => by rw [bk] at h; exact absurd h (by simp)
  | n + 1, h => by
    rw [bk, List.mem_append] at h
    rcases h with h | h
    · obtain ⟨y, h1, h2⟩ := bk_mem n h
      exact ⟨y, by omega, h2⟩
    · split at h
      · rename_i q
        simp at h
        exact ⟨n, by omega, q, h⟩
      · simp at h
def mkN (β : Nat → Nat) : Nat := nmk β false (β 0)
theorem mkN_lt {β : Nat → Nat} (hw : WB β) : mkN β < 256 := nmk_lt (β := β) (b := false) (β 0) (fun c hc k hk => hw.net hc hk)
def C1 (β : Nat → Nat) (y : Nat) : Prop := y / 10 < β 0 ∧ y % 10 < bc β (y / 10) 2
def C2 (β : Nat → Nat) (y : Nat) : Prop := y / 10 < 8 ∧ (mkN β).testBit (y / 10) = true ∧ y % 10 < 2
def C3 (β : Nat → Nat) (y : Nat) : Prop := y / 10 < y % 10 ∧ y % 10 < 8 ∧ (mkN β).testBit (y / 10) = true ∧ (mkN β).testBit (y % 10) = true
noncomputable def L1 (β : Nat → Nat) (y : Nat) : List Nat := [0] ++ bk (C1 β) 1000 y
noncomputable def L2 (β : Nat → Nat) (y : Nat) : List Nat := L1 β 100 ++ bk (C2 β) 2000 y
noncomputable def L3 (β : Nat → Nat) (y : Nat) : List Nat := L2 β 100 ++ bk (C3 β) 3000 y
noncomputable def L4 (β : Nat → Nat) (y : Nat) : List Nat := L3 β 100 ++ bk (C3 β) 4000 y
theorem L4_ok {β : Nat → Nat} (hw : WB β) {x : Nat} (h : x ∈ L4 β 100) : x = 0 ∨ WF x := by
  have h4 := hw.1
  unfold L4 L3 L2 L1 at h
  simp only [List.mem_append, List.mem_singleton] at h
  rcases h with (((h | h) | h) | h) | h
  · exact Or.inl h
  · obtain ⟨y, h1, h2, h3⟩ := bk_mem _ h
    have := hw.m6 h2.1
    have := h2.2
    exact Or.inr (Or.inl ⟨y / 10, y % 10, by have := h2.1; omega, by omega, by omega⟩)
  · obtain ⟨y, h1, h2, h3⟩ := bk_mem _ h
    exact Or.inr (Or.inr (Or.inl ⟨y / 10, y % 10, h2.1, h2.2.2, by omega⟩))
  · obtain ⟨y, h1, h2, h3⟩ := bk_mem _ h
    exact Or.inr (Or.inr (Or.inr ⟨y / 10, y % 10, h2.1, h2.2.1, Or.inl (by omega)⟩))
  · obtain ⟨y, h1, h2, h3⟩ := bk_mem _ h
    exact Or.inr (Or.inr (Or.inr ⟨y / 10, y % 10, h2.1, h2.2.1, Or.inr (by omega)⟩))
theorem gd_lo {L M : List Nat} {i : Nat} (h : i < L.length) : (L ++ M).getD i 0 = L.getD i 0 := by
  rw [List.getD_eq_getElem?_getD, List.getD_eq_getElem?_getD, List.getElem?_append_left h]
theorem gd_at {L : List Nat} {x : Nat} {M : List Nat} : (L ++ x :: M).getD L.length 0 = x := by
  rw [List.getD_eq_getElem?_getD, List.getElem?_append_right (Nat.le_refl _)]
  simp
/-- the tester's list -/
def LSt (u : ASt) (L : List Nat) : Prop := agt u 81 6 = nI L.length ∧ ∀ i, i < L.length → agt u 85 i = nI (L.getD i 0)
def LK (u u' : ASt) : Prop := (∀ a, a ≠ 81 → a ≠ 85 → u'.1 a = u.1 a) ∧ agt u' 81 7 = agt u 81 7
theorem LK.rf {u : ASt} : LK u u := ⟨fun _ _ _ => rfl, rfl⟩
theorem LK.tr {a b c : ASt} (h : LK a b) (g : LK b c) : LK a c := ⟨fun q h1 h2 => (g.1 q h1 h2).trans (h.1 q h1 h2), g.2.trans h.2⟩
theorem LK.cb {β : Nat → Nat} (hw : WB β) {u u' : ASt} (h : LK u u') (hC : CB u 0 β) : CB u' 0 β := hC.ck0 hw (fun a ha => h.1 a (by omega) (by omega))
section SUSP
variable {N : Nat} {β : Nat → Nat}
theorem k_list {u : ASt} {L : List Nat} (h : LSt u L) (hl : L.length < 97) (x : Nat) : ∃ u', f_X4_list N 81 (nI x) u = some ((), u') ∧ LSt u' (L ++ [x]) ∧ LK u u' := by
  obtain ⟨u', hu'⟩ : ∃ z, z = apt (apt u 85 L.length (nI x)) 81 6 (nI (L.length + 1)) := ⟨_, rfl⟩
  have e1 : agt (apt u 85 L.length (nI x)) 81 6 = nI L.length := by rw [agt_pt_o (by omega)]; exact h.1
  have hl' : ¬ 97 ≤ L.length := by omega
  refine ⟨u', ?_, ⟨by rw [hu', agt_pt_s]; simp, fun i hi => ?_⟩, fun a h1 h2 => by rw [hu', apt_ne h1, apt_ne h2], by rw [hu', agt_pt_k (by omega), agt_pt_o (by omega)]⟩
  · simp (disch := omega) only [f_X4_list, lit, h.1, nLE, hl', if_false, ar81_5, al85, chk_in, nCl, lte_s, e1, nI_add, ← hu']
  · rw [hu', agt_pt_o (by omega), agt_pt]
    by_cases q : i = L.length
    · subst q; rw [if_pos ⟨rfl, rfl⟩, gd_at]
    · have : i < L.length := by simp at hi; omega
      rw [if_neg (by omega), gd_lo this]; exact h.2 i this
theorem k_code {x a b : Nat} {u : ASt} : f_X6_faultCode N (nI x) (nI a) (nI b) u = some (nI (1000 * x + 10 * a + b), u) := by
  simp only [f_X6_faultCode, lit, pk_mul, nI_add]
theorem k_lopen_in {c : Nat} (hw : WB β) (hc : c < β 0) {k2 : Int32 → ASt → Option (Unit × ASt)} : ∀ n k u, k ≤ bc β c 2 → bc β c 2 < n + k → CB u 0 β → LSt u (L1 β (10 * c + k)) → (L1 β (10 * c + k)).length ≤ 1 + 6 * c + k → ∃ u', f_X4_listOpenCells_15 N 81 k2 n (nI c) (nI k) u = k2 (nI (c + 1)) u' ∧ LSt u' (L1 β (10 * (c + 1))) ∧ (L1 β (10 * (c + 1))).length ≤ 1 + 6 * (c + 1) ∧ LK u u' := by
  have h4 := hw.1
  have h6 := hw.m6 hc
  intro n
  induction n with
  | zero => intro k u h1 h2; omega
  | succ n ih =>
    intro k u h1 h2 hC hL hB
    have g6 := (hC.cc hc).2.2.2.2.2.2.1
    by_cases hk : bc β c 2 ≤ k
    · have ek : k = bc β c 2 := by omega
      subst ek
      have e : L1 β (10 * (c + 1)) = L1 β (10 * c + bc β c 2) := by
        unfold L1
        rw [bk_to (a := 10 * c + bc β c 2) (e := 10 * (c + 1)) (by omega)]
        intro y h1 h2 ⟨h3, h5⟩
        rw [show y / 10 = c by omega] at h5
        omega
      refine ⟨u, ?_, by rw [e]; exact hL, by rw [e]; omega, LK.rf⟩
      simp (disch := omega) only [f_X4_listOpenCells_15, lit, ar81_0, ar_b0, al_1, chk_in, nCl, ar_1, g6, nLE, Nat.le_refl, if_true, nI_add]
    · have hC1 : C1 β (10 * c + k) := by
        unfold C1
        rw [show (10 * c + k) / 10 = c by omega, show (10 * c + k) % 10 = k by omega]
        exact ⟨hc, by omega⟩
      have e : L1 β (10 * c + (k + 1)) = L1 β (10 * c + k) ++ [1000 * 1 + 10 * c + k] := by
        unfold L1
        rw [← Nat.add_assoc, bk_add hC1, List.append_assoc, show 1000 + (10 * c + k) = 1000 * 1 + 10 * c + k by omega]
      obtain ⟨u1, a1, a2, a3⟩ := k_list (N := N) hL (by omega) (1000 * 1 + 10 * c + k)
      rw [← e] at a2
      obtain ⟨u', e1, e2, e3, e4⟩ := ih (k + 1) u1 (by omega) (by omega) (a3.cb hw hC) a2 (by rw [e, List.length_append, List.length_singleton]; omega)
      refine ⟨u', ?_, e2, e3, a3.tr e4⟩
      simp (disch := omega) only [f_X4_listOpenCells_15, lit, ar81_0, ar_b0, al_1, chk_in, nCl, ar_1, g6, nLE, hk, if_false, k_code, bnd_s, a1, nI_add]
      exact e1
theorem k_lopen (hw : WB β) (hN : 20 ≤ N) : ∀ n c u, c ≤ β 0 → β 0 < n + c → CB u 0 β → LSt u (L1 β (10 * c)) → (L1 β (10 * c)).length ≤ 1 + 6 * c → ∃ u', f_X4_listOpenCells_2 N 81 n (nI c) u = some ((), u') ∧ LSt u' (L1 β 100) ∧ (L1 β 100).length ≤ 25 ∧ LK u u' := by
  have h4 := hw.1
  intro n
  induction n with
  | zero => intro k u h1 h2; omega
  | succ n ih =>
    intro c u h1 h2 hC hL hB
    by_cases hc : β 0 ≤ c
    · have ec : c = β 0 := by omega
      subst ec
      have e : L1 β 100 = L1 β (10 * β 0) := by
        unfold L1
        rw [bk_to (a := 10 * β 0) (e := 100) (by omega)]
        intro y h1 h2 ⟨h3, h5⟩
        omega
      refine ⟨u, ?_, by rw [e]; exact hL, by rw [e]; omega, LK.rf⟩
      simp (disch := omega) only [f_X4_listOpenCells_2, ar81_0, hC.u0, nLE, Nat.le_refl, if_true]
    · have hc2 : c < β 0 := by omega
      obtain ⟨u1, a1, a2, a3, a4⟩ := k_lopen_in (N := N) (k2 := f_X4_listOpenCells_2 N 81 n) hw hc2 N 0 u (by omega) (by have := hw.m6 hc2; omega) hC hL hB
      obtain ⟨u', e1, e2, e3, e4⟩ := ih (c + 1) u1 (by omega) (by omega) (a4.cb hw hC) a2 a3
      refine ⟨u', ?_, e2, e3, a4.tr e4⟩
      simp (disch := omega) only [f_X4_listOpenCells_2, ar81_0, hC.u0, nLE, hc, if_false]
      rw [show (0 : Int32) = nI 0 from rfl, a1]
      exact e1
theorem k_lstuck (hw : WB β) : ∀ n j u, j ≤ 8 → 8 < n + j → LSt u (L2 β (10 * j)) → (L2 β (10 * j)).length ≤ 25 + 2 * j → ∃ u', f_X4_listStuckNets_2 N 81 (nI (mkN β)) n (nI j) u = some ((), u') ∧ LSt u' (L2 β 100) ∧ (L2 β 100).length ≤ 41 ∧ LK u u' := by
  have hm := mkN_lt hw
  intro n
  induction n with
  | zero => intro k u h1 h2; omega
  | succ n ih =>
    intro j u h1 h2 hL hB
    by_cases hj : 8 ≤ j
    · have ej : j = 8 := by omega
      subst ej
      have e : L2 β 100 = L2 β (10 * 8) := by
        unfold L2
        rw [bk_to (a := 10 * 8) (e := 100) (by omega)]
        intro y h1 h2 ⟨h3, h5⟩
        omega
      refine ⟨u, ?_, by rw [e]; exact hL, by rw [e]; omega, LK.rf⟩
      simp (disch := omega) only [f_X4_listStuckNets_2, lit, nLE, Nat.le_refl, if_true]
    · have mm : f_X6_isMember N (nI (mkN β)) (nI j) u = some (bI ((mkN β).testBit j = true), u) := k_isMember (by omega) (by omega)
      by_cases q : (mkN β).testBit j = true
      · have c1 : C2 β (10 * j) := by
          unfold C2
          rw [show (10 * j) / 10 = j by omega, show (10 * j) % 10 = 0 by omega]
          exact ⟨by omega, q, by omega⟩
        have c2 : C2 β (10 * j + 1) := by
          unfold C2
          rw [show (10 * j + 1) / 10 = j by omega, show (10 * j + 1) % 10 = 1 by omega]
          exact ⟨by omega, q, by omega⟩
        have e : L2 β (10 * (j + 1)) = (L2 β (10 * j) ++ [1000 * 2 + 10 * j + 0]) ++ [1000 * 2 + 10 * j + 1] := by
          unfold L2
          rw [bk_to (a := 10 * j + 1 + 1) (e := 10 * (j + 1)) (by omega), bk_add c2, bk_add c1]
          · simp only [List.append_assoc]
            rw [show 2000 + 10 * j = 1000 * 2 + 10 * j + 0 by omega, show 2000 + (10 * j + 1) = 1000 * 2 + 10 * j + 1 by omega]
          · intro y h1 h2 ⟨h3, h5, h6⟩
            omega
        obtain ⟨u1, a1, a2, a3⟩ := k_list (N := N) hL (by omega) (1000 * 2 + 10 * j + 0)
        obtain ⟨u2, b1, b2, b3⟩ := k_list (N := N) a2 (by rw [List.length_append, List.length_singleton]; omega) (1000 * 2 + 10 * j + 1)
        rw [← e] at b2
        obtain ⟨u', e1, e2, e3, e4⟩ := ih (j + 1) u2 (by omega) (by omega) b2 (by rw [e, List.length_append, List.length_append, List.length_singleton, List.length_singleton]; omega)
        refine ⟨u', ?_, e2, e3, (a3.tr b3).tr e4⟩
        simp (disch := omega) only [f_X4_listStuckNets_2, f_X4_listStuckNets_36, lit, nLE, hj, if_false, mm, bnd_s, bI0, q, not_true, k_code, a1, b1]
        rw [nI_add]
        exact e1
      · have e : L2 β (10 * (j + 1)) = L2 β (10 * j) := by
          unfold L2
          rw [bk_to (a := 10 * j) (e := 10 * (j + 1)) (by omega)]
          intro y h1 h2 ⟨h3, h5, h6⟩
          rw [show y / 10 = j by omega] at h5
          exact q h5
        obtain ⟨u', e1, e2, e3, e4⟩ := ih (j + 1) u (by omega) (by omega) (by rw [e]; exact hL) (by rw [e]; omega)
        refine ⟨u', ?_, e2, e3, e4⟩
        simp (disch := omega) only [f_X4_listStuckNets_2, f_X4_listStuckNets_36, lit, nLE, hj, if_false, mm, bnd_s, bI0, q, Bool.false_eq_true, not_false_eq_true, if_true, nI_add]
        exact e1
def pr : Nat → Nat
  | 0 => 0
  | a + 1 => pr a + (7 - a)
theorem pr_28 : ∀ a, a < 9 → pr a ≤ 28 := by decide
theorem k_lsh_in {K : List Nat} {f a B : Nat} (hw : WB β) (ha : a < 8) (hB : B ≤ 69) {k2 : Int32 → ASt → Option (Unit × ASt)} : ∀ n b u, a + 1 ≤ b → b ≤ 8 → 8 < n + b → LSt u (K ++ bk (C3 β) (1000 * f) (10 * a + b)) → (K ++ bk (C3 β) (1000 * f) (10 * a + b)).length ≤ B + pr a + (b - a - 1) → ∃ u', f_X4_listShorts_13 N 81 (nI f) (nI (mkN β)) k2 n (nI a) (nI b) u = k2 (nI (a + 1)) u' ∧ LSt u' (K ++ bk (C3 β) (1000 * f) (10 * (a + 1))) ∧ (K ++ bk (C3 β) (1000 * f) (10 * (a + 1))).length ≤ B + pr (a + 1) ∧ LK u u' := by
  have hm := mkN_lt hw
  have hp := pr_28 (a + 1) (by omega)
  rw [pr] at hp
  intro n
  induction n with
  | zero => intro k u h1 h2; omega
  | succ n ih =>
    intro b u h1 h1' h2 hL hle
    by_cases hb : 8 ≤ b
    · have eb : b = 8 := by omega
      subst eb
      have e : bk (C3 β) (1000 * f) (10 * (a + 1)) = bk (C3 β) (1000 * f) (10 * a + 8) := by
        rw [bk_to (a := 10 * a + 8) (e := 10 * (a + 1)) (by omega)]
        intro y h1 h2 ⟨h3, h5, h6⟩
        omega
      refine ⟨u, ?_, by rw [e]; exact hL, by rw [e, pr]; omega, LK.rf⟩
      simp (disch := omega) only [f_X4_listShorts_13, lit, nLE, Nat.le_refl, if_true, nI_add]
    · have m1 : f_X6_isMember N (nI (mkN β)) (nI a) u = some (bI ((mkN β).testBit a = true), u) := k_isMember (by omega) (by omega)
      have m2 : f_X6_isMember N (nI (mkN β)) (nI b) u = some (bI ((mkN β).testBit b = true), u) := k_isMember (by omega) (by omega)
      have d1 : (10 * a + b) / 10 = a := by omega
      have d2 : (10 * a + b) % 10 = b := by omega
      by_cases q1 : (mkN β).testBit a = true
      · by_cases q2 : (mkN β).testBit b = true
        · have c : C3 β (10 * a + b) := by
            unfold C3
            rw [d1, d2]
            exact ⟨by omega, by omega, q1, q2⟩
          have e : K ++ bk (C3 β) (1000 * f) (10 * a + (b + 1)) = (K ++ bk (C3 β) (1000 * f) (10 * a + b)) ++ [1000 * f + 10 * a + b] := by
            rw [← Nat.add_assoc, bk_add c, List.append_assoc, Nat.add_assoc]
          obtain ⟨u1, a1, a2, a3⟩ := k_list (N := N) hL (by omega) (1000 * f + 10 * a + b)
          rw [← e] at a2
          obtain ⟨u', e1, e2, e3, e4⟩ := ih (b + 1) u1 (by omega) (by omega) (by omega) a2 (by rw [e, List.length_append (bs := [_]), List.length_singleton]; omega)
          refine ⟨u', ?_, e2, e3, a3.tr e4⟩
          simp (disch := omega) only [f_X4_listShorts_13, f_X4_listShorts_48, lit, nLE, hb, if_false, m1, m2, bnd_s, bI0, q1, q2, not_true, k_code, a1]
          rw [nI_add]
          exact e1
        · have e : bk (C3 β) (1000 * f) (10 * a + (b + 1)) = bk (C3 β) (1000 * f) (10 * a + b) := by
            rw [bk_to (a := 10 * a + b) (e := 10 * a + (b + 1)) (by omega)]
            intro y h1 h2 ⟨h3, h5, h6, h7⟩
            rw [show y = 10 * a + b by omega, d2] at h7
            exact q2 h7
          obtain ⟨u', e1, e2, e3, e4⟩ := ih (b + 1) u (by omega) (by omega) (by omega) (by rw [e]; exact hL) (by rw [e]; omega)
          refine ⟨u', ?_, e2, e3, e4⟩
          simp (disch := omega) only [f_X4_listShorts_13, f_X4_listShorts_48, lit, nLE, hb, if_false, m1, m2, bnd_s, bI0, q1, q2, not_true, Bool.false_eq_true, not_false_eq_true, if_true, nI_add]
          exact e1
      · have e : bk (C3 β) (1000 * f) (10 * a + (b + 1)) = bk (C3 β) (1000 * f) (10 * a + b) := by
          rw [bk_to (a := 10 * a + b) (e := 10 * a + (b + 1)) (by omega)]
          intro y h1 h2 ⟨h3, h5, h6, h7⟩
          rw [show y = 10 * a + b by omega, d1] at h6
          exact q1 h6
        obtain ⟨u', e1, e2, e3, e4⟩ := ih (b + 1) u (by omega) (by omega) (by omega) (by rw [e]; exact hL) (by rw [e]; omega)
        refine ⟨u', ?_, e2, e3, e4⟩
        simp (disch := omega) only [f_X4_listShorts_13, f_X4_listShorts_48, lit, nLE, hb, if_false, m1, bnd_s, bI0, q1, Bool.false_eq_true, not_false_eq_true, if_true, nI_add]
        exact e1
theorem k_lsh {K : List Nat} {f B : Nat} (hw : WB β) (hB : B ≤ 69) (hN : 20 ≤ N) : ∀ n a u, a ≤ 8 → 8 < n + a → LSt u (K ++ bk (C3 β) (1000 * f) (10 * a)) → (K ++ bk (C3 β) (1000 * f) (10 * a)).length ≤ B + pr a → ∃ u', f_X4_listShorts_2 N 81 (nI f) (nI (mkN β)) n (nI a) u = some ((), u') ∧ LSt u' (K ++ bk (C3 β) (1000 * f) 100) ∧ (K ++ bk (C3 β) (1000 * f) 100).length ≤ B + 28 ∧ LK u u' := by
  intro n
  induction n with
  | zero => intro k u h1 h2; omega
  | succ n ih =>
    intro a u h1 h2 hL hle
    by_cases ha : 8 ≤ a
    · have ea : a = 8 := by omega
      subst ea
      have e : bk (C3 β) (1000 * f) 100 = bk (C3 β) (1000 * f) (10 * 8) := by
        rw [bk_to (a := 10 * 8) (e := 100) (by omega)]
        intro y h1 h2 ⟨h3, h5, h6⟩
        omega
      refine ⟨u, ?_, by rw [e]; exact hL, by rw [e]; exact hle, LK.rf⟩
      simp (disch := omega) only [f_X4_listShorts_2, lit, nLE, Nat.le_refl, if_true]
    · have e : bk (C3 β) (1000 * f) (10 * a + (a + 1)) = bk (C3 β) (1000 * f) (10 * a) := by
        rw [bk_to (a := 10 * a) (e := 10 * a + (a + 1)) (by omega)]
        intro y h1 h2 ⟨h3, h5, h6, h7⟩
        omega
      obtain ⟨u1, a1, a2, a3, a4⟩ := k_lsh_in (N := N) (K := K) (f := f) (a := a) (B := B) (k2 := f_X4_listShorts_2 N 81 (nI f) (nI (mkN β)) n) hw (by omega) hB N (a + 1) u (by omega) (by omega) (by omega) (by rw [e]; exact hL) (by rw [e]; omega)
      obtain ⟨u', e1, e2, e3, e4⟩ := ih (a + 1) u1 (by omega) (by omega) a2 a3
      refine ⟨u', ?_, e2, e3, a4.tr e4⟩
      simp (disch := omega) only [f_X4_listShorts_2, lit, nLE, ha, if_false, nI_add, lte_s]
      rw [a1]
      exact e1
theorem k_cands (hw : WB β) (hN : 20 ≤ N) {u : ASt} (hC : CB u 0 β) : ∃ u', f_X4_listCandidates N 81 u = some ((), u') ∧ LSt u' (L4 β 100) ∧ (L4 β 100).length ≤ 97 ∧ LK u u' := by
  have h4 := hw.1
  have K0 : LK u (apt u 81 6 (nI 0)) := ⟨fun a h1 h2 => apt_ne h1, agt_pt_k (by omega)⟩
  obtain ⟨u1, a1, a2, a3⟩ := k_list (N := N) (u := apt u 81 6 (nI 0)) (L := []) ⟨agt_pt_s _ _ _ _, fun i hi => by simp at hi⟩ (by simp) 0
  have K1 := K0.tr a3
  obtain ⟨u2, b1, b2, b3, b4⟩ := k_lopen (N := N) hw hN N 0 u1 (by omega) (by omega) (K1.cb hw hC) a2 (by simp [L1, bk])
  have K2 := K1.tr b4
  have eL2 : L2 β (10 * 0) = L1 β 100 := by simp [L2, bk]
  obtain ⟨u3, c1, c2, c3, c4⟩ := k_lstuck (N := N) hw N 0 u2 (by omega) (by omega) (by rw [eL2]; exact b2) (by rw [eL2]; omega)
  have K3 := K2.tr c4
  have eL3 : L2 β 100 ++ bk (C3 β) (1000 * 3) (10 * 0) = L2 β 100 := by simp [bk]
  obtain ⟨u4, d1, d2, d3, d4⟩ := k_lsh (N := N) (K := L2 β 100) (f := 3) (B := 41) hw (by omega) hN N 0 u3 (by omega) (by omega) (by rw [eL3]; exact c2) (by rw [eL3]; exact c3)
  have K4 := K3.tr d4
  have eL4 : (L2 β 100 ++ bk (C3 β) (1000 * 3) 100) ++ bk (C3 β) (1000 * 4) (10 * 0) = L2 β 100 ++ bk (C3 β) (1000 * 3) 100 := by simp [bk]
  obtain ⟨u5, e1, e2, e3, e4⟩ := k_lsh (N := N) (K := L2 β 100 ++ bk (C3 β) (1000 * 3) 100) (f := 4) (B := 69) hw (by omega) hN N 0 u4 (by omega) (by omega) (by rw [eL4]; exact d2) (by rw [eL4]; exact d3)
  refine ⟨u5, ?_, e2, e3, K4.tr e4⟩
  have b1' : f_X4_listOpenCells N 81 u1 = some ((), u2) := b1
  have c1' : f_X4_listStuckNets N 81 (nI (mkN β)) u2 = some ((), u3) := c1
  have d1' : f_X4_listShorts N 81 (nI 3) (nI (mkN β)) u3 = some ((), u4) := d1
  have e1' : f_X4_listShorts N 81 (nI 4) (nI (mkN β)) u4 = some ((), u5) := e1
  have m5 : agt u 0 5 = nI (mkN β) := hC.u5
  simp only [f_X4_listCandidates, lit, ar81_0, m5, lte_s, a1, bnd_s, b1', c1', d1', e1']
end SUSP
