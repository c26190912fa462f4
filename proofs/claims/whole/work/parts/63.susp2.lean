/-! suspects: those that explain -/
noncomputable def ag (t : Nat) (β : Nat → Nat) (x : Nat) : Bool := @decide (Agr t β x) (Classical.propDecidable _)
theorem ag_t {t x : Nat} {β : Nat → Nat} (h : Agr t β x) : ag t β x = true := by
  unfold ag; exact @decide_eq_true _ (Classical.propDecidable _) h
theorem ag_f {t x : Nat} {β : Nat → Nat} (h : ¬ Agr t β x) : ag t β x = false := by
  unfold ag; exact @decide_eq_false _ (Classical.propDecidable _) h
theorem tk_s {L : List Nat} {j : Nat} (h : j < L.length) : L.take (j + 1) = L.take j ++ [L.getD j 0] := by
  rw [List.take_add_one, List.getD_eq_getElem?_getD, List.getElem?_eq_getElem h]
  rfl
section SUSP2
variable {N : Nat} {β : Nat → Nat}
theorem k_find_loop {t : Nat} {L : List Nat} {p : Int32} (ht : t < 2) (hN : 20 ≤ N) (hw : WB β) (hL : L.length ≤ 97) (hx : ∀ x, x ∈ L → x = 0 ∨ WF x) : ∀ n j u, j ≤ L.length → L.length < n + j → RY t β u → agt u 81 6 = nI L.length → (∀ i, i < ((L.take j).filter (ag t β)).length → agt u 85 i = nI (((L.take j).filter (ag t β)).getD i 0)) → (∀ i, j ≤ i → i < L.length → agt u 85 i = nI (L.getD i 0)) → ((L.take j).filter (ag t β)).length ≤ j → ∃ u', f_X4_findSuspects_17 N 81 p n (nI ((L.take j).filter (ag t β)).length) (nI j) u = some (nI (L.filter (ag t β)).length, u') ∧ (∀ i, i < (L.filter (ag t β)).length → agt u' 85 i = nI ((L.filter (ag t β)).getD i 0)) ∧ CK0 u u' := by
  intro n
  induction n with
  | zero => intro j u h1 h2; omega
  | succ n ih =>
    intro j u h1 h2 hR h6 hA hB hle
    by_cases hj : L.length ≤ j
    · have ej : j = L.length := by omega
      subst ej
      rw [List.take_length] at hA ⊢
      refine ⟨u, ?_, hA, CK0.rf⟩
      simp (disch := omega) only [f_X4_findSuspects_17, h6, nLE, Nat.le_refl, if_true]
    · have hj2 : j < L.length := by omega
      have bj := hB j (by omega) hj2
      have hmem : L.getD j 0 ∈ L := by
        rw [List.getD_eq_getElem?_getD, List.getElem?_eq_getElem hj2]
        exact List.getElem_mem hj2
      obtain ⟨u1, a1, a2, a3⟩ := k_exp (N := N) (x := L.getD j 0) ht hN hw (hx _ hmem) hR
      have e81 := a3 81 (by omega) (by omega) (by omega)
      have e85 := a3 85 (by omega) (by omega) (by omega)
      have tk := tk_s hj2
      by_cases q : Agr t β (L.getD j 0)
      · have ef : (L.take (j + 1)).filter (ag t β) = (L.take j).filter (ag t β) ++ [L.getD j 0] := by
          rw [tk, List.filter_append, List.filter_cons_of_pos (ag_t q), List.filter_nil]
        obtain ⟨u2, hu2⟩ : ∃ z, z = apt u1 85 ((L.take j).filter (ag t β)).length (nI (L.getD j 0)) := ⟨_, rfl⟩
        have K2 : CK0 u1 u2 := fun a ha => by rw [hu2]; exact apt_ne (by omega)
        have R2 : RY t β u2 := by
          obtain ⟨r1, r2, r3, r4⟩ := a2
          refine ⟨r1.ck0 hw K2, fun i hi => ?_, ?_, fun c hc i hi => ?_⟩
          · rw [hu2, agt_pt_o (by omega)]; exact r2 i hi
          · rw [hu2, agt_pt_o (by omega)]; exact r3
          · rw [hu2, agt_pt_o (by omega)]; exact r4 c hc i hi
        have A2 : ∀ i, i < ((L.take (j + 1)).filter (ag t β)).length → agt u2 85 i = nI (((L.take (j + 1)).filter (ag t β)).getD i 0) := by
          intro i hi
          rw [ef] at hi ⊢
          rw [hu2, agt_pt]
          by_cases z : i = ((L.take j).filter (ag t β)).length
          · subst z; rw [if_pos ⟨rfl, rfl⟩, gd_at]
          · have : i < ((L.take j).filter (ag t β)).length := by rw [List.length_append, List.length_singleton] at hi; omega
            rw [if_neg (by omega), gd_lo this, agt_e e85]; exact hA i this
        have B2 : ∀ i, j + 1 ≤ i → i < L.length → agt u2 85 i = nI (L.getD i 0) := by
          intro i h3 h4
          rw [hu2, agt_pt_k (by omega), agt_e e85]; exact hB i (by omega) h4
        obtain ⟨u', e1, e2, e3⟩ := ih (j + 1) u2 (by omega) (by omega) R2 (by rw [hu2, agt_pt_o (by omega), agt_e e81]; exact h6) A2 B2 (by rw [ef, List.length_append, List.length_singleton]; omega)
        refine ⟨u', ?_, e2, a3.ck0.tr (K2.tr e3)⟩
        rw [ef, List.length_append, List.length_singleton] at e1
        have bj1 : agt u1 85 j = nI (L.getD j 0) := by rw [agt_e e85]; exact bj
        simp (disch := omega) only [f_X4_findSuspects_17, f_X4_findSuspects_53, lit, h6, nLE, hj, if_false, ar81_5, al85, chk_in, nCl, bj, a1, bnd_s, bI0, q, not_true, bj1, lte_s, ← hu2, nI_add]
        exact e1
      · have ef : (L.take (j + 1)).filter (ag t β) = (L.take j).filter (ag t β) := by
          rw [tk, List.filter_append, List.filter_cons_of_neg (by rw [ag_f q]; decide), List.filter_nil, List.append_nil]
        obtain ⟨u', e1, e2, e3⟩ := ih (j + 1) u1 (by omega) (by omega) a2 (by rw [agt_e e81]; exact h6) (by rw [ef]; exact fun i hi => by rw [agt_e e85]; exact hA i hi) (fun i h3 h4 => by rw [agt_e e85]; exact hB i (by omega) h4) (by rw [ef]; omega)
        refine ⟨u', ?_, e2, a3.ck0.tr e3⟩
        rw [ef] at e1
        simp (disch := omega) only [f_X4_findSuspects_17, f_X4_findSuspects_53, lit, h6, nLE, hj, if_false, ar81_5, al85, chk_in, nCl, bj, a1, bnd_s, bI0, q, not_false_eq_true, if_true, nI_add]
        exact e1
noncomputable def sus (t : Nat) (β : Nat → Nat) : List Nat := (L4 β 100).filter (ag t β)
theorem k_find {t : Nat} (ht : t < 2) (hN : 1000 ≤ N) (hw : WB β) {u : ASt} (hC : CB u 0 β) : ∃ u', f_X4_findSuspects N 81 (nI t) u = some (nI (sus t β).length, u') ∧ (∀ i, i < (sus t β).length → agt u' 85 i = nI ((sus t β).getD i 0)) ∧ CK0 u u' ∧ (sus t β).length ≤ 97 := by
  obtain ⟨u1, a1, a2, a3, a4⟩ := k_prep (N := N) ht (by omega) hw hC
  have K1 : CK0 u u1 := fun a ha => a4 a (by omega) (by omega)
  obtain ⟨u2, b1, b2, b3⟩ := k_note (N := N) ht (by omega) hw (hC.ck0 hw K1) a2 a3
  obtain ⟨u3, c1, c2, c3, c4⟩ := k_cands (N := N) hw (by omega) b2.1
  have R3 : RY t β u3 := by
    obtain ⟨r1, r2, r3, r4⟩ := b2
    exact ⟨c4.cb hw r1, fun i hi => by rw [agt_e (c4.1 82 (by omega) (by omega))]; exact r2 i hi, by rw [c4.2]; exact r3, fun c hc i hi => by rw [agt_e (c4.1 83 (by omega) (by omega))]; exact r4 c hc i hi⟩
  obtain ⟨u4, d1, d2, d3⟩ := k_find_loop (N := N) (L := L4 β 100) (p := nI t) ht (by omega) hw c3 (fun x h => L4_ok hw h) N 0 u3 (by omega) (by omega) R3 c2.1 (fun i hi => by simp at hi) (fun i h1 h2 => c2.2 i h2) (by simp)
  have K3 : CK0 u2 u3 := fun a ha => c4.1 a (by omega) (by omega)
  refine ⟨u4, ?_, d2, K1.tr (b3.ck0.tr (K3.tr d3)), Nat.le_trans (List.length_filter_le _ _) c3⟩
  simp only [f_X4_findSuspects, a1, bnd_s, b1, c1]
  exact d1
/-! the model goes through the codes -/
def cdx (i : Nat) : Nat := if i = 0 then 0 else 1000 * ((i - 1) / 100 + 1) + (i - 1) % 100
def can (β : Nat → Nat) (x : Nat) : Prop := if x / 1000 = 0 then x = 0 else if x / 1000 = 1 then C1 β (x % 1000) else if x / 1000 = 2 then C2 β (x % 1000) else C3 β (x % 1000)
noncomputable def cl (β : Nat → Nat) : Nat → List Nat
  | 0 => []
  | i + 1 => cl β i ++ @ite (List Nat) (can β (cdx i)) (Classical.propDecidable _) [cdx i] []
theorem code_b {q y : Nat} (hy : y < 100) : cdx (1 + 100 * q + y) = 1000 * (q + 1) + y := by
  unfold cdx
  rw [if_neg (by omega)]
  omega
theorem cl_blk {q : Nat} {C : Nat → Prop} (hC : ∀ y, y < 100 → (can β (1000 * (q + 1) + y) ↔ C y)) : ∀ y, y ≤ 100 → cl β (1 + 100 * q + y) = cl β (1 + 100 * q) ++ bk C (1000 * (q + 1)) y
  | 0, _ => by rw [bk, List.append_nil]; rfl
  | y + 1, h => by
    have ih := cl_blk hC y (by omega)
    rw [← Nat.add_assoc, cl, ih, bk, List.append_assoc, code_b (show y < 100 by omega)]
    by_cases q : C y
    · rw [if_pos q, if_pos ((hC y (by omega)).mpr q)]
    · rw [if_neg q, if_neg (fun z => q ((hC y (by omega)).mp z))]
theorem can_1 {y : Nat} (h : y < 100) : can β (1000 * (0 + 1) + y) ↔ C1 β y := by
  unfold can
  rw [if_neg (by omega), if_pos (by omega), show (1000 * (0 + 1) + y) % 1000 = y by omega]
theorem can_2 {y : Nat} (h : y < 100) : can β (1000 * (1 + 1) + y) ↔ C2 β y := by
  unfold can
  rw [if_neg (by omega), if_neg (by omega), if_pos (by omega), show (1000 * (1 + 1) + y) % 1000 = y by omega]
theorem can_3 {q y : Nat} (hq : 2 ≤ q) (h : y < 100) : can β (1000 * (q + 1) + y) ↔ C3 β y := by
  unfold can
  rw [if_neg (by omega), if_neg (by omega), if_neg (by omega), show (1000 * (q + 1) + y) % 1000 = y by omega]
theorem cl_L4 : cl β 401 = L4 β 100 := by
  have e0 : cl β 1 = [0] := by
    rw [cl, cl, if_pos (show can β (cdx 0) from by unfold can cdx; simp)]
    rfl
  have e1 := cl_blk (β := β) (q := 0) (C := C1 β) (fun y h => can_1 h) 100 (by omega)
  have e2 := cl_blk (β := β) (q := 1) (C := C2 β) (fun y h => can_2 h) 100 (by omega)
  have e3 := cl_blk (β := β) (q := 2) (C := C3 β) (fun y h => can_3 (by omega) h) 100 (by omega)
  have e4 := cl_blk (β := β) (q := 3) (C := C3 β) (fun y h => can_3 (by omega) h) 100 (by omega)
  rw [show 401 = 1 + 100 * 3 + 100 from rfl, e4, show 1 + 100 * 3 = 1 + 100 * 2 + 100 from rfl, e3, show 1 + 100 * 2 = 1 + 100 * 1 + 100 from rfl, e2, show 1 + 100 * 1 = 1 + 100 * 0 + 100 from rfl, e1, show 1 + 100 * 0 = 1 from rfl, e0]
  rfl
theorem m_can (hw : WB β) {x : Nat} (hx : x < 5000) (h0 : x / 1000 = 0 → x = 0) (h1 : x % 1000 < 100) {v : ASt} (hM : MB v β) : f_X7_canBe N 95 (nI x) (nI (mkN β)) v = some (bI (can β x), v) := by
  have h4 := hw.1
  have hm := mkN_lt hw
  have t0 : nI x / 1000 = nI (x / 1000) := nDiv (a := x) (d := 1000) (by omega) (by omega) (by omega)
  have t1 : nI x / 10 - nI x / 10 / 10 * 10 = nI (x / 10 % 10) := by
    rw [show (10 : Int32) = nI 10 from rfl, nDiv (a := x) (d := 10) (by omega) (by omega) (by omega), nRem (by omega) (by omega) (by omega)]
  have t2 : nI x - nI x / 10 * 10 = nI (x % 10) := nRem (a := x) (d := 10) (by omega) (by omega) (by omega)
  have t3 : nI x - nI x / 1000 * 1000 = nI (x % 1000) := nRem (a := x) (d := 1000) (by omega) (by omega) (by omega)
  have t5 : nI x / 10 = nI (x / 10) := nDiv (a := x) (d := 10) (by omega) (by omega) (by omega)
  unfold f_X7_canBe
  rw [t3, t1, t2, lte_s, lte_s, t0, t5]
  unfold can
  by_cases k0 : x / 1000 = 0
  · have := h0 k0
    subst this
    rw [if_pos (show (nI (0 / 1000) : Int32) = 0 from rfl), if_pos (show nI 0 = (0 : Int32) from rfl), if_pos (show 0 / 1000 = 0 from rfl), bIt rfl]
    rfl
  · rw [if_neg k0, if_neg (show ¬ nI (x / 1000) = (0 : Int32) from fun z => k0 ((nE (by omega) (by omega)).mp z))]
    by_cases k1 : x / 1000 = 1
    · rw [if_pos k1, if_pos (show nI (x / 1000) = (1 : Int32) from by rw [k1]; rfl), show (100 : Int32) = nI 100 from rfl, nSub (by omega)]
      have d1 : x % 1000 / 10 = x / 10 - 100 := by omega
      have d2 : x % 1000 % 10 = x % 10 := by omega
      unfold C1
      rw [d1, d2]
      by_cases c1 : x / 10 - 100 < β 0
      · have h6 := hw.m6 c1
        rw [m_isCell hM h4 c1 h6, bnd_s, show (0 : Int32) = nI 0 from rfl, show (1 : Int32) = nI 1 from rfl, chk_b]
        refine congrArg (fun z => some (z, v)) (bIc ?_)
        rw [nLE (by omega) (by omega), nLT (by omega) (by omega)]
        omega
      · rw [m_isCell_no hM h4 (fun z => c1 ((nLT (by omega) (by omega)).mp z.2)), bnd_s, show (0 : Int32) = nI 0 from rfl, show (1 : Int32) = nI 1 from rfl, chk_0, bIf (fun z => c1 z.1)]
    · rw [if_neg k1, if_neg (show ¬ nI (x / 1000) = (1 : Int32) from fun z => k1 ((nE (by omega) (by omega)).mp z))]
      by_cases k2 : x / 1000 = 2
      · rw [if_pos k2, if_pos (show nI (x / 1000) = (2 : Int32) from by rw [k2]; rfl)]
        have d1 : x % 1000 / 10 = x / 10 % 10 := by omega
        have d2 : x % 1000 % 10 = x % 10 := by omega
        have d3 : ¬ 2100 ≤ x := by omega
        unfold C2
        rw [d1, d2]
        by_cases c1 : 8 ≤ x / 10 % 10
        · rw [bIf (fun z => by omega)]
          simp (disch := omega) only [f_X7_canBe_99, lit, nLE, c1, if_true]
        · have hh : f_X7_has N (nI (mkN β)) (nI (x / 10 % 10)) v = some (bI ((mkN β).testBit (x / 10 % 10) = true), v) := m_has (by omega) (by omega)
          by_cases c2 : (mkN β).testBit (x / 10 % 10) = true
          · by_cases c3 : 2 ≤ x % 10
            · rw [bIf (fun z => by omega)]
              simp (disch := omega) only [f_X7_canBe_99, lit, nLE, c1, if_false, hh, bnd_s, bI0, c2, not_true, c3, if_true]
            · rw [bIt ⟨by omega, c2, by omega⟩]
              simp (disch := omega) only [f_X7_canBe_99, lit, nLE, c1, if_false, hh, bnd_s, bI0, c2, not_true, c3, d3]
          · rw [bIf (fun z => c2 z.2.1)]
            simp (disch := omega) only [f_X7_canBe_99, lit, nLE, c1, if_false, hh, bnd_s, bI0, c2, Bool.false_eq_true, not_false_eq_true, if_true]
      · rw [if_neg k2, if_neg (show ¬ nI (x / 1000) = (2 : Int32) from fun z => k2 ((nE (by omega) (by omega)).mp z))]
        have d1 : x % 1000 / 10 = x / 10 % 10 := by omega
        have d2 : x % 1000 % 10 = x % 10 := by omega
        have d3 : ¬ 100 ≤ x % 1000 := by omega
        unfold C3
        rw [d1, d2]
        by_cases c1 : x % 10 ≤ x / 10 % 10
        · rw [bIf (fun z => by omega)]
          simp (disch := omega) only [f_X7_canBe_145, lit, nLE, d3, c1, if_true, if_false]
        · by_cases c2 : 8 ≤ x % 10
          · rw [bIf (fun z => by omega)]
            simp (disch := omega) only [f_X7_canBe_145, lit, nLE, d3, c1, c2, if_true, if_false]
          · have hh : f_X7_has N (nI (mkN β)) (nI (x / 10 % 10)) v = some (bI ((mkN β).testBit (x / 10 % 10) = true), v) := m_has (by omega) (by omega)
            have hg : f_X7_has N (nI (mkN β)) (nI (x % 10)) v = some (bI ((mkN β).testBit (x % 10) = true), v) := m_has (by omega) (by omega)
            by_cases c3 : (mkN β).testBit (x / 10 % 10) = true
            · by_cases c4 : (mkN β).testBit (x % 10) = true
              · rw [bIt ⟨by omega, by omega, c3, c4⟩]
                simp (disch := omega) only [f_X7_canBe_145, lit, nLE, d3, c1, c2, if_false, hh, hg, bnd_s, bI0, c3, c4, not_true]
              · rw [bIf (fun z => c4 z.2.2.2)]
                simp (disch := omega) only [f_X7_canBe_145, lit, nLE, d3, c1, c2, if_false, hh, hg, bnd_s, bI0, c3, c4, not_true, Bool.false_eq_true, not_false_eq_true, if_true]
            · rw [bIf (fun z => c3 z.2.2.1)]
              simp (disch := omega) only [f_X7_canBe_145, lit, nLE, d3, c1, c2, if_false, hh, bnd_s, bI0, c3, Bool.false_eq_true, not_false_eq_true, if_true]
noncomputable def sl (t : Nat) (β : Nat → Nat) (i : Nat) : List Nat := (cl β i).filter (ag t β)
theorem sl_y {t i : Nat} (h1 : can β (cdx i)) (h2 : Agr t β (cdx i)) : sl t β (i + 1) = sl t β i ++ [cdx i] := by
  unfold sl
  rw [cl, if_pos h1, List.filter_append, List.filter_cons_of_pos (ag_t h2), List.filter_nil]
theorem sl_n {t i : Nat} (h : ¬ (can β (cdx i) ∧ Agr t β (cdx i))) : sl t β (i + 1) = sl t β i := by
  unfold sl
  rw [cl]
  by_cases q : can β (cdx i)
  · rw [if_pos q, List.filter_append, List.filter_cons_of_neg (by rw [ag_f (fun z => h ⟨q, z⟩)]; decide), List.filter_nil, List.append_nil]
  · rw [if_neg q, List.append_nil]
theorem sl_pre {t i : Nat} : ∀ d, ∃ T, sl t β (i + d) = sl t β i ++ T
  | 0 => ⟨[], by rw [List.append_nil]; rfl⟩
  | d + 1 => by
    obtain ⟨T, h⟩ := sl_pre (t := t) (i := i) d
    by_cases q : can β (cdx (i + d)) ∧ Agr t β (cdx (i + d))
    · exact ⟨T ++ [cdx (i + d)], by rw [← Nat.add_assoc, sl_y q.1 q.2, h, List.append_assoc]⟩
    · exact ⟨T, by rw [← Nat.add_assoc, sl_n q, h]⟩
theorem sl_le {t : Nat} : ∀ i, (sl t β i).length ≤ i
  | 0 => by unfold sl; rw [cl]; simp
  | i + 1 => by
    have := sl_le (t := t) i
    by_cases q : can β (cdx i) ∧ Agr t β (cdx i)
    · rw [sl_y q.1 q.2, List.length_append, List.length_singleton]; omega
    · rw [sl_n q]; omega
theorem m_nxc {p q : Int32} {k16 : Int32 → Int32 → Int32 → ASt → Option (Int32 × ASt)} {x3 x4 : Int32} {i : Nat} (hi : i < 401) {v : ASt} : f_X7_suspectsBy_56 N 95 p q k16 x3 x4 (nI (cdx i)) v = k16 x3 x4 (nI (cdx (i + 1))) v := by
  have hc : cdx i < 5000 := by unfold cdx; split <;> omega
  have t3 : nI (cdx i) - nI (cdx i) / 1000 * 1000 = nI (cdx i % 1000) := nRem (a := cdx i) (d := 1000) (by omega) (by omega) (by omega)
  have t0 : nI (cdx i) / nI 1000 = nI (cdx i / 1000) := nDiv (by omega) (by omega) (by omega)
  unfold f_X7_suspectsBy_56
  rw [t3]
  by_cases q1 : cdx i % 1000 = 99
  · have e : cdx i / 1000 * 1000 + 999 + 1 = cdx (i + 1) := by
      unfold cdx at *
      split at q1
      · omega
      · rename_i h
        rw [if_neg h, if_neg (by omega)]
        omega
    rw [if_pos (show nI (cdx i % 1000) = (99 : Int32) from by rw [q1]; rfl)]
    simp only [f_X7_suspectsBy_72, f_X7_suspectsBy_91, lit, t0, pk_mul, nI_add, e]
  · rw [if_neg (show ¬ nI (cdx i % 1000) = (99 : Int32) from fun z => q1 ((nE (by omega) (by omega)).mp z))]
    by_cases q2 : i = 0
    · subst q2
      rw [show cdx 0 = 0 from rfl, if_pos (show nI 0 = (0 : Int32) from rfl)]
      rfl
    · have e : cdx i + 1 = cdx (i + 1) := by
        unfold cdx at *
        rw [if_neg q2] at *
        rw [if_neg (by omega)]
        omega
      have q3 : ¬ cdx i = 0 := by
        unfold cdx
        rw [if_neg q2]
        omega
      rw [if_neg (show ¬ nI (cdx i) = (0 : Int32) from fun z => q3 ((nE (by omega) (by omega)).mp z))]
      simp only [f_X7_suspectsBy_91, lit, nI_add, e]
/-- what is answered -/
noncomputable def rs (L : List Nat) (p : Int32) : Int32 := if p = -1 then nI L.length else if nI L.length ≤ p then -5 else nI (L.getD (Int32.toNatClampNeg p) 0)
theorem nI_nm {a : Nat} (h : a < 2147483648) : ¬ nI a = -1 := fun z => by
  have := r_pos h
  rw [z] at this
  exact absurd this (by decide)
theorem m_sus_loop {t : Nat} {p : Int32} (ht : t < 2) (hN : 40 ≤ N) (hw : WB β) (hp : p = -1 ∨ ∃ q, q < 2147483648 ∧ p = nI q) : ∀ n i v, i ≤ 401 → 401 < n + i → MB v β → (∀ j, j < 24 → agt v 103 j = nI (ro t β (Fb β) (β 2) j)) → (∀ q, q < 2147483648 → p = nI q → (sl t β i).length ≤ q) → ∃ v', f_X7_suspectsBy_16 N 95 (nI t) p n (nI (mkN β)) (nI (sl t β i).length) (nI (cdx i)) v = some (rs (sl t β 401) p, v') ∧ MK0 v v' := by
  intro n
  induction n with
  | zero => intro j u h1 h2; omega
  | succ n ih =>
    intro i v h1 h2 hM h3 hq
    have hle := sl_le (t := t) (β := β) i
    by_cases hi : 401 ≤ i
    · have ei : i = 401 := by omega
      subst ei
      refine ⟨v, ?_, MK0.rf⟩
      rw [f_X7_suspectsBy_16, if_pos (show (4100 : Int32) ≤ nI (cdx 401) from by decide)]
      unfold rs
      rcases hp with rfl | ⟨q, hq2, rfl⟩
      · rw [if_neg (by decide), if_pos rfl]
      · have := hq q hq2 rfl
        rw [if_pos (r_pos hq2), if_neg (nI_nm hq2), if_pos ((nLE (by omega) hq2).mpr this)]
    · have hi2 : i < 401 := by omega
      have hc : cdx i < 5000 := by unfold cdx; split <;> omega
      have hc2 : ¬ 4100 ≤ cdx i := by unfold cdx; split <;> omega
      have k0 : cdx i / 1000 = 0 → cdx i = 0 := by unfold cdx; split <;> omega
      have k1 : cdx i % 1000 < 100 := by unfold cdx; split <;> omega
      have ca := m_can (N := N) hw hc k0 k1 hM
      by_cases q1 : can β (cdx i)
      · have hx : cdx i = 0 ∨ WF (cdx i) := by
          apply L4_ok hw
          rw [← cl_L4]
          have : ∀ d, cdx i ∈ cl β (i + 1 + d) := by
            intro d
            induction d with
            | zero => rw [Nat.add_zero, cl, if_pos q1]; simp
            | succ d ih2 => rw [← Nat.add_assoc, cl]; exact List.mem_append_left _ ih2
          have := this (401 - (i + 1))
          rw [show i + 1 + (401 - (i + 1)) = 401 by omega] at this
          exact this
        obtain ⟨v1, a1, a2, a3⟩ := m_so (N := N) (x := cdx i) ht hN hw hx hM h3
        have h31 : ∀ j, j < 24 → agt v1 103 j = nI (ro t β (Fb β) (β 2) j) := fun j hj => by rw [agt_e a3]; exact h3 j hj
        by_cases q2 : Agr t β (cdx i)
        · have ey := sl_y (t := t) q1 q2
          by_cases q3 : nI (sl t β i).length = p
          · refine ⟨v1, ?_, a2⟩
            have hp1 : ¬ p = -1 := by rw [← q3]; exact nI_nm (by omega)
            obtain ⟨T, hT⟩ := sl_pre (t := t) (β := β) (i := i + 1) (401 - (i + 1))
            rw [show i + 1 + (401 - (i + 1)) = 401 by omega, ey, List.append_assoc] at hT
            have g1 : (sl t β 401).getD (sl t β i).length 0 = cdx i := by rw [hT]; exact gd_at
            have g2 : (sl t β i).length < (sl t β 401).length := by rw [hT]; simp
            have g3 := sl_le (t := t) (β := β) 401
            have er : rs (sl t β 401) p = nI (cdx i) := by
              unfold rs
              rw [if_neg hp1, ← q3, if_neg (fun z => by have := (nLE (by omega) (by omega)).mp z; omega), nCl (by omega), g1]
            rw [er]
            simp (disch := omega) only [f_X7_suspectsBy_16, lit, nLE, hc2, if_false, ca, bnd_s, bI0, q1, not_true, a1, q2, q3, if_true]
          · obtain ⟨v', e1, e2⟩ := ih (i + 1) v1 (by omega) (by omega) (a2.mb hM) h31 (fun q hq2 e => by
              have := hq q hq2 e
              rw [ey, List.length_append, List.length_singleton]
              have : ¬ (sl t β i).length = q := fun z => q3 (by rw [z, e])
              omega)
            refine ⟨v', ?_, a2.tr e2⟩
            rw [ey, List.length_append, List.length_singleton] at e1
            simp (disch := omega) only [f_X7_suspectsBy_16, lit, nLE, hc2, if_false, ca, bnd_s, bI0, q1, not_true, a1, q2, q3, m_nxc hi2, nI_add]
            exact e1
        · have en := sl_n (t := t) (β := β) (i := i) (fun z => q2 z.2)
          obtain ⟨v', e1, e2⟩ := ih (i + 1) v1 (by omega) (by omega) (a2.mb hM) h31 (by rw [en]; exact hq)
          refine ⟨v', ?_, a2.tr e2⟩
          rw [en] at e1
          simp (disch := omega) only [f_X7_suspectsBy_16, lit, nLE, hc2, if_false, ca, bnd_s, bI0, q1, not_true, a1, q2, not_false_eq_true, if_true, m_nxc hi2]
          exact e1
      · have en := sl_n (t := t) (β := β) (i := i) (fun z => q1 z.1)
        obtain ⟨v', e1, e2⟩ := ih (i + 1) v (by omega) (by omega) hM h3 (by rw [en]; exact hq)
        refine ⟨v', ?_, e2⟩
        rw [en] at e1
        simp (disch := omega) only [f_X7_suspectsBy_16, lit, nLE, hc2, if_false, ca, bnd_s, bI0, q1, not_false_eq_true, if_true, m_nxc hi2]
        exact e1
theorem m_sus {t : Nat} {p : Int32} (ht : t < 2) (hN : 1000 ≤ N) (hw : WB β) (hp : p = -1 ∨ ∃ q, q < 2147483648 ∧ p = nI q) {v : ASt} (hM : MB v β) : ∃ v', f_X7_suspectsBy N 95 (nI t) p v = some (rs (sus t β) p, v') ∧ MK0 v v' := by
  obtain ⟨v1, a1, a2, a3⟩ := m_answersNow (N := N) ht (by omega) hw hM
  have s0 : (sl t β 0).length = 0 := by have := sl_le (t := t) (β := β) 0; omega
  obtain ⟨v2, b1, b2⟩ := m_sus_loop (N := N) ht (by omega) hw hp N 0 v1 (by omega) (by omega) (a2.mb hM) a3 (fun q _ _ => by omega)
  rw [s0] at b1
  refine ⟨v2, ?_, a2.tr b2⟩
  have mc : f_X7_netsWithCells N 95 v1 = some (nI (mkN β), v1) := m_withCells hw (by omega) (a2.mb hM)
  have es : sus t β = sl t β 401 := by unfold sus sl; rw [cl_L4]
  rw [es]
  simp only [f_X7_suspectsBy, a1, bnd_s, mc]
  exact b1
theorem k_sus {t : Nat} {p : Int32} (ht : t < 2) (hN : 1000 ≤ N) (hw : WB β) (hp : p = -1 ∨ ∃ q, q < 2147483648 ∧ p = nI q) {u : ASt} (hC : CB u 0 β) : ∃ u', f_X6_suspects N 77 (nI t) p u = some (rs (sus t β) p, u') ∧ CK0 u u' := by
  obtain ⟨u', e1, e2, e3, e4⟩ := k_find (N := N) ht hN hw hC
  refine ⟨u', ?_, e3⟩
  have qb : nI t = nI 0 ∨ nI t = nI 1 := by
    have : t = 0 ∨ t = 1 := by omega
    rcases this with rfl | rfl
    · exact Or.inl rfl
    · exact Or.inr rfl
  have qm : (-1 : Int32) ≤ p := by
    rcases hp with rfl | ⟨q, hq, rfl⟩
    · decide
    · exact Int32.le_trans (by decide) (r_pos hq)
  have ib : f_X6_isBit N (nI t) u = some (nI 1, u) := by rw [k_isBit, bIt (show nI t = 0 ∨ nI t = 1 from qb)]
  unfold f_X6_suspects
  rw [ib, bnd_s, if_neg (show ¬ nI 1 = (0 : Int32) from by decide), if_pos qm, ar77_2, e1, bnd_s]
  unfold rs
  rcases hp with rfl | ⟨q, hq, rfl⟩
  · rw [if_pos rfl, if_pos rfl]
  · rw [if_neg (nI_nm hq), if_neg (nI_nm hq)]
    by_cases z : nI (sus t β).length ≤ nI q
    · rw [if_pos z, if_pos z]
    · have hq3 : q < (sus t β).length := by
        have : ¬ (sus t β).length ≤ q := fun w => z ((nLE (by omega) hq).mpr w)
        omega
      rw [if_neg z, if_neg z, ar81_5, al85, chk_in (by omega) hq, nCl hq, e2 q hq3]
theorem pos_nI {x : Int32} (h : (0 : Int32) ≤ x) : ∃ q, q < 2147483648 ∧ x = nI q := by
  obtain ⟨j, h1, h2⟩ := of_le (x := x) (M := 2147483647) (n := 2147483647) rfl ⟨h, by
    rw [Int32.le_iff_toInt_le]
    have := Int32.toInt_lt x
    have e : (2147483647 : Int32).toInt = 2147483647 := rfl
    rw [e]
    omega⟩
  exact ⟨j, by omega, h2⟩
theorem m1_cases {p : Int32} (h : ¬ p < -1) : p = -1 ∨ ∃ q, q < 2147483648 ∧ p = nI q := by
  by_cases q : p = -1
  · exact Or.inl q
  · right
    apply pos_nI
    rw [Int32.lt_iff_toInt_lt] at h
    rw [Int32.le_iff_toInt_le]
    have e : (-1 : Int32).toInt = -1 := rfl
    have z : (0 : Int32).toInt = 0 := rfl
    have : p.toInt ≠ -1 := fun w => q (Int32.toInt_inj.mp (w.trans e.symm))
    omega
theorem sim_suspects (hN : 1000 ≤ N) (p q : Int32) : Sm (f_X6_suspects N 77 p q) (f_X7_suspects N 95 p q) := by
  intro u v h
  by_cases qb : p = nI 0 ∨ p = nI 1
  · obtain ⟨t, ht, rfl⟩ := of_bit qb
    by_cases q1 : q < -1
    · have q2 : ¬ (-nI 1 ≤ q) := fun z => absurd z (Int32.not_le.mpr q1)
      have q1' : q < -nI 1 := q1
      refine bad_sim (N := N) h ?_ ?_
      · simp only [f_X6_suspects, f_X6_suspects_12, k_isBit, lit, bnd_s, bI0, qb, not_true, if_false, q2]
      · simp only [f_X7_suspects, f_X7_suspects_21, m_isBit, lit, bnd_s, bI0, qb, not_true, if_false, q1', if_true]
    · have hp := m1_cases q1
      refine read_sim h (fun β hw => ⟨rs (sus t β) q, fun u hC => k_sus ht hN hw hp hC, fun v hM => ?_⟩)
      obtain ⟨v', e1, e2⟩ := m_sus (N := N) ht hN hw hp hM
      have q1' : ¬ q < -nI 1 := q1
      refine ⟨v', ?_, e2⟩
      simp only [f_X7_suspects, f_X7_suspects_21, m_isBit, lit, bnd_s, bI0, qb, not_true, if_false, q1', e1]
  · refine bad_sim (N := N) h ?_ ?_
    · simp only [f_X6_suspects, f_X6_suspects_12, k_isBit, lit, bnd_s, bI0, qb, not_false_eq_true, if_true]
    · simp only [f_X7_suspects, f_X7_suspects_21, m_isBit, lit, bnd_s, bI0, qb, not_false_eq_true, if_true]
end SUSP2
