/-! numbers, orders, the whole text -/
section TEXT2
variable {N : Nat} {n : Nat} {tx : Nat → Nat}
def MV (v v' : ASt) : Prop := (∀ a, a ≠ 95 → v'.1 a = v.1 a) ∧ ∀ k, k ≠ 13 → k ≠ 14 → agt v' 95 k = agt v 95 k
theorem MV.rf {v : ASt} : MV v v := ⟨fun _ _ => rfl, fun _ _ _ => rfl⟩
theorem MV.tr {a b c : ASt} (h : MV a b) (g : MV b c) : MV a c := ⟨fun q h1 => (g.1 q h1).trans (h.1 q h1), fun k h1 h2 => (g.2 k h1 h2).trans (h.2 k h1 h2)⟩
theorem MV.p {v : ASt} {k : Nat} {x : Int32} (h : k = 13 ∨ k = 14) : MV v (apt v 95 k x) := ⟨fun a h1 => apt_ne h1, fun j h1 h2 => agt_pt_k (by omega)⟩
theorem MV.mt {v v' : ASt} (h : MV v v') (g : MT v n tx) : MT v' n tx := ⟨(h.2 6 (by omega) (by omega)).trans g.1, fun j hj => (agt_e (h.1 100 (by omega)) j).trans (g.2 j hj)⟩
theorem MV.mf {v v' : ASt} (h : MV v v') : MF v v' := ⟨fun a h1 _ _ => h.1 a h1, fun k hk => h.2 k (by omega) (by omega)⟩
/-- both have stopped at place p -/
def Bad (N n : Nat) (tx : Nat → Nat) (i : Nat) (u v' : ASt) : Prop := agt v' 95 14 = nI 1 ∧ ∃ p, p ≤ n ∧ agt v' 95 13 = nI p ∧ ∃ u', run N i u (nI p) u' ∧ TF u u' ∧ CT u' n tx
theorem Bad.adv {i j : Nat} {u u1 v' : ASt} (h : Adv N i u j u1) (ht : TF u u1) (b : Bad N n tx j u1 v') : Bad N n tx i u v' := by
  obtain ⟨b1, p, b2, b3, u', b4, b5, b6⟩ := b
  exact ⟨b1, p, b2, b3, u', h _ _ b4, ht.tr b5, b6⟩
theorem CO.ct {u : ASt} {o c w b d : Nat} {LT NU cu : Nat → Nat} (h : CO u n tx o LT NU c w b d cu) : CT u n tx := h.1.1
def bf (k f : Nat) : Nat := if f = 0 then k else k + 1
theorem sb_sb {β : Nat → Nat} {i x y : Nat} : sb (sb β i x) i y = sb β i y := by
  funext k
  unfold sb
  by_cases h : k = i <;> simp [h]
theorem n_digits (hn : n ≤ 120) (ht : ∀ j, j < n → tx j < 128) {o c w k : Nat} {LT NU cu : Nat → Nat} (ho : o < 60) (hw : w ≤ 3) (hk : k < w) (hcu : ∀ k, k < 3 → cu k < 1000) : ∀ fu i f y u v, i ≤ n → n + 1 < fu + i → f ≤ 3 → y < 10 ^ f → (f = 0 → i < n ∧ isD (tx i)) → CO u n tx o LT NU c w (bf k f) f (sb cu k y) → MT v n tx → agt v 95 13 = nI i → agt v 95 14 = nI 0 → ∃ x v', f_X7_number_35 N 95 fu (nI y) (nI f) v = some (x, v') ∧ MV v v' ∧ (Bad N n tx i u v' ∨ (agt v' 95 14 = nI 0 ∧ ∃ i' y' d', i ≤ i' ∧ (f = 0 → i < i') ∧ i' ≤ n ∧ x = nI y' ∧ y' < 1000 ∧ agt v' 95 13 = nI i' ∧ (i' < n → ¬ isD (tx i')) ∧ ∃ u', Adv N i u i' u' ∧ TF u u' ∧ CO u' n tx o LT NU c w (k + 1) d' (sb cu k y'))) := by
  intro fu
  induction fu with
  | zero => intro i f y u v h1 h2; omega
  | succ fu ih =>
    intro i f y u v h1 h2 hf hy hf0 hC hM hs h14
    have A := m_isAt (N := N) (a := 48) (b := 57) hn hM h1 ht hs (by omega) (by omega)
    have p3 : 10 ^ f ≤ 1000 := by
      have := Nat.pow_le_pow_right (n := 10) (by omega) hf
      omega
    by_cases q : i < n ∧ 48 ≤ tx i ∧ tx i ≤ 57
    · have hD : isD (tx i) := q.2
      have t128 := ht i q.1
      by_cases f3 : f = 3
      · subst f3
        obtain ⟨v2, hv2⟩ : ∃ z, z = apt (apt v 95 14 (nI 1)) 95 13 (nI i) := ⟨_, rfl⟩
        have z14 : agt v2 95 14 = nI 1 := by rw [hv2, agt_pt_k (by omega), agt_pt_s]
        have z13 : agt v2 95 13 = nI i := by rw [hv2, agt_pt_s]
        have w14 : agt (apt v 95 14 (nI 1)) 95 14 = nI 1 := agt_pt_s _ _ _ _
        have w13 : agt (apt v 95 14 (nI 1)) 95 13 = nI i := by rw [agt_pt_k (by omega)]; exact hs
        refine ⟨nI y, v2, ?_, by rw [hv2]; exact (MV.p (Or.inr rfl)).tr (MV.p (Or.inl rfl)), Or.inl ⟨z14, i, h1, z13, u, run_fail hn hC.ct q.1 (k_digit_full hD hC.2.1 hC.2.2.2.2.1), TF.rf, hC.ct⟩⟩
        obtain ⟨fu, rfl⟩ : ∃ m, fu = m + 1 := ⟨fu - 1, by omega⟩
        have R2 : ∀ z, f_X7_number_35 N 95 (fu + 1) (nI y) z v2 = some (nI y, v2) := fun z => by
          rw [f_X7_number_35, z14, if_neg (by decide)]; rfl
        rw [f_X7_number_35, h14, if_pos (show nI 0 = (0 : Int32) from rfl), show (48 : Int32) = nI 48 from rfl, show (57 : Int32) = nI 57 from rfl, A, bnd_s, bIt q, if_neg (by decide), if_neg (by decide)]
        unfold f_X7_number_67 f_X7_number_98 f_X7_number_116
        rw [chk_t (Or.inr rfl), lte_s, show (1 : Int32) = nI 1 from rfl, w14, if_neg (by decide), if_neg (by decide), lte_s, w13, show (0 : Int32) = nI 0 from rfl, show nI i + nI 0 = nI i from by rw [nI_add, Nat.add_zero], ← hv2]
        exact R2 _
      · have yb : 10 * y + (tx i - 48) < 10 ^ (f + 1) := by rw [Nat.pow_succ]; omega
        have cy : ∀ j, j < 3 → sb cu k y j < 1000 := fun j hj => by
          unfold sb
          split
          · omega
          · exact hcu j hj
        have bfw : bf k f ≤ w := by unfold bf; split <;> omega
        obtain ⟨u1, a1, a2, a3⟩ := k_digit (N := N) (x := tx i) ho bfw hw (show f < 3 by omega) hD hC (fun z => by unfold bf; rw [if_pos z]; exact hk) (fun z => by unfold bf; rw [if_neg z]; omega) cy
        have eb : (if f = 0 then bf k f + 1 else bf k f) = k + 1 := by unfold bf; split <;> omega
        rw [eb, show k + 1 - 1 = k by omega, sb_eq, sb_sb] at a3
        have A1 := run_step (N := N) hn hC.ct q.1 a1
        obtain ⟨v2, hv2⟩ : ∃ z, z = apt (apt v 95 14 (nI 0)) 95 13 (nI (i + 1)) := ⟨_, rfl⟩
        have V2 : MV v v2 := by rw [hv2]; exact (MV.p (Or.inr rfl)).tr (MV.p (Or.inl rfl))
        have z14 : agt v2 95 14 = nI 0 := by rw [hv2, agt_pt_k (by omega), agt_pt_s]
        have z13 : agt v2 95 13 = nI (i + 1) := by rw [hv2, agt_pt_s]
        have w14 : agt (apt v 95 14 (nI 0)) 95 14 = nI 0 := agt_pt_s _ _ _ _
        have w13 : agt (apt v 95 14 (nI 0)) 95 13 = nI i := by rw [agt_pt_k (by omega)]; exact hs
        have w100 : agt (apt v 95 14 (nI 0)) 100 i = nI (tx i) := by rw [agt_pt_o (by omega)]; exact hM.2 i q.1
        have vx : nI (10 * y + tx i) - nI 48 = nI (10 * y + (tx i - 48)) := by rw [nSub (by omega)]; congr 1; omega
        have bk1 : bf k (f + 1) = k + 1 := by unfold bf; rw [if_neg (by omega)]
        obtain ⟨x, v', e1, e2, e3⟩ := ih (i + 1) (f + 1) (10 * y + (tx i - 48)) u1 v2 (by omega) (by omega) (by omega) yb (fun z => by omega) (by rw [bk1]; exact a3) (V2.mt hM) z13 z14
        refine ⟨x, v', ?_, V2.tr e2, ?_⟩
        · simp (disch := omega) only [f_X7_number_35, f_X7_number_67, f_X7_number_98, f_X7_number_116, lit, h14, if_true, A, bnd_s, bI0, q, and_self, not_true, if_false, nI_add, nLE, show f + 1 ≤ 3 by omega, true_or, chk_True, lte_s, w14, w13, ar95_5, al100, chk_in, nCl, w100, pk_mul, vx, ← hv2]
          exact e1
        · rcases e3 with e3 | ⟨g1, i', y', d', g2, g2', g3, g4, g5, g6, g7, u', g8, g9, g10⟩
          · exact Or.inl (e3.adv A1 a2)
          · exact Or.inr ⟨g1, i', y', d', by omega, fun _ => by omega, g3, g4, g5, g6, g7, u', A1.tr g8, a2.tr g9, g10⟩
    · have f0 : ¬ f = 0 := fun z => q ⟨(hf0 z).1, (hf0 z).2⟩
      have ebf : bf k f = k + 1 := by unfold bf; rw [if_neg f0]
      rw [ebf] at hC
      refine ⟨nI y, v, ?_, MV.rf, Or.inr ⟨h14, i, y, f, by omega, fun z => absurd z f0, h1, rfl, by omega, hs, fun z w => q ⟨z, w⟩, u, Adv.rf, TF.rf, hC⟩⟩
      simp (disch := omega) only [f_X7_number_35, f_X7_number_123, lit, h14, if_true, A, bnd_s, bI0, q, not_false_eq_true]
theorem CO.bl {u u' : ASt} {P : Prop} {o c w b d : Nat} {LT NU cu : Nat → Nat} (h : CO u n tx o LT NU c w b d cu) (e : (u' = u ∧ P) ∨ agt u' 91 8 = nI 0 ∧ (∀ k, k ≠ 8 → agt u' 91 k = agt u 91 k) ∧ ∀ a, a ≠ 91 → u'.1 a = u.1 a) : (P ∧ CO u' n tx o LT NU c w b d cu) ∨ CO u' n tx o LT NU c w b 0 cu := by
  have q := h.1.bl e
  rcases e with ⟨rfl, p⟩ | ⟨g1, g2, g3⟩
  · exact Or.inl ⟨p, h⟩
  · right
    obtain ⟨-, h5, h6, h7, h8, h9, h10⟩ := h
    exact ⟨q, by rw [g2 5 (by omega)]; exact h5, by rw [g2 6 (by omega)]; exact h6, by rw [g2 7 (by omega)]; exact h7, g1, by rw [agt_e (g3 93 (by omega))]; exact h9, fun k hk => by rw [agt_e (g3 94 (by omega))]; exact h10 k hk⟩
theorem sb_id {β : Nat → Nat} {i x : Nat} (h : β i = x) : sb β i x = β := by
  funext k
  unfold sb
  by_cases z : k = i
  · subst z; simp [h]
  · simp [z]
theorem n_number (hN : 1000 ≤ N) (hn : n ≤ 120) (ht : ∀ j, j < n → tx j < 128) {o c w k d i : Nat} {LT NU cu : Nat → Nat} {u v : ASt} (ho : o < 60) (hw : w ≤ 3) (hk : k < w) (hcu : ∀ k, k < 3 → cu k < 1000) (hck : cu k = 0) (hi : i ≤ n) (hd : d = 0 ∨ (i < n → ¬ isD (tx i))) (hC : CO u n tx o LT NU c w k d cu) (hM : MT v n tx) (hs : agt v 95 13 = nI i) (h14 : agt v 95 14 = nI 0) : ∃ x v', f_X7_number N 95 v = some (x, v') ∧ MV v v' ∧ (Bad N n tx i u v' ∨ (agt v' 95 14 = nI 0 ∧ ∃ i' y' d', i < i' ∧ i' ≤ n ∧ x = nI y' ∧ y' < 1000 ∧ agt v' 95 13 = nI i' ∧ (i' < n → ¬ isD (tx i')) ∧ ∃ u', Adv N i u i' u' ∧ TF u u' ∧ CO u' n tx o LT NU c w (k + 1) d' (sb cu k y'))) := by
  obtain ⟨i1, u1, v1, a1, a2, a3, a4, a5, a6, a7, a8, a9⟩ := b_blanks hN hn ht hi hC.ct hM hs
  have V1 : MV v v1 := ⟨a7, fun k h1 _ => a6 k h1⟩
  have M1 := V1.mt hM
  have f1 : agt v1 95 14 = nI 0 := (a6 14 (by omega)).trans h14
  have T1 := TF.bl a9
  have A := m_isAt (N := N) (a := 48) (b := 57) hn M1 a2 ht a5 (by omega) (by omega)
  have C1 := hC.bl a9
  have h5 : agt u1 91 5 = nI 1 := by rcases C1 with ⟨-, h⟩ | h <;> exact h.2.1
  have ct1 : CT u1 n tx := by rcases C1 with ⟨-, h⟩ | h <;> exact h.ct
  by_cases q : i1 < n ∧ 48 ≤ tx i1 ∧ tx i1 ≤ 57
  · have C0 : CO u1 n tx o LT NU c w k 0 cu := by
      rcases C1 with ⟨rfl, h⟩ | h
      · rcases hd with rfl | hd
        · exact h
        · exact absurd q.2 (hd q.1)
      · exact h
    have V2 : MV v1 (apt v1 95 14 (nI 0)) := MV.p (Or.inr rfl)
    have C0' : CO u1 n tx o LT NU c w (bf k 0) 0 (sb cu k 0) := by
      rw [sb_id hck]; exact C0
    obtain ⟨x, v', e1, e2, e3⟩ := n_digits (N := N) hn ht ho hw hk hcu N i1 0 0 u1 (apt v1 95 14 (nI 0)) a2 (by omega) (by omega) (by decide) (fun _ => ⟨q.1, q.2⟩) C0' (V2.mt M1) (by rw [agt_pt_k (by omega)]; exact a5) (agt_pt_s _ _ _ _)
    refine ⟨x, v', ?_, V1.tr (V2.tr e2), ?_⟩
    · simp only [f_X7_number, f_X7_number_32, a3, bnd_s, lit, f1, if_true, A, bI0, q, and_self, not_true, if_false, true_or, chk_True, lte_s]
      exact e1
    · rcases e3 with e3 | ⟨g1, i', y', d', g2, g2', g3, g4, g5, g6, g7, u', g8, g9, g10⟩
      · exact Or.inl (e3.adv a8 T1)
      · exact Or.inr ⟨g1, i', y', d', by have := g2' rfl; omega, g3, g4, g5, g6, g7, u', a8.tr g8, T1.tr g9, g10⟩
  · have z14 : agt (apt v1 95 14 (nI 1)) 95 14 = nI 1 := agt_pt_s _ _ _ _
    obtain ⟨fu, hfu⟩ : ∃ m, N = m + 1 := ⟨N - 1, by omega⟩
    refine ⟨nI 0, apt v1 95 14 (nI 1), ?_, V1.tr (MV.p (Or.inr rfl)), Or.inl (Bad.adv a8 T1 ⟨z14, i1, a2, by rw [agt_pt_k (by omega)]; exact a5, u1, ?_, TF.rf, ct1⟩)⟩
    · have L : ∀ m, f_X7_number_35 N 95 (m + 1) (nI 0) (nI 0) (apt v1 95 14 (nI 1)) = some (nI 0, apt v1 95 14 (nI 1)) := fun m => by
        simp (disch := omega) only [f_X7_number_35, f_X7_number_123, lit, z14, nE, show ¬ (1 : Nat) = 0 by omega, if_false]
      have L2 := L fu
      rw [← hfu] at L2
      simp only [f_X7_number, f_X7_number_27, f_X7_number_32, a3, bnd_s, lit, f1, if_true, A, bI0, q, not_false_eq_true, or_true, chk_True, lte_s]
      exact L2
    · by_cases z : i1 < n
      · have t128 := ht i1 z
        have nD : ¬ isD (tx i1) := fun w => q ⟨z, w⟩
        by_cases s : tx i1 = 59
        · have b67 : agt u1 91 7 = nI k ∧ agt u1 91 6 = nI w := by rcases C1 with ⟨-, h⟩ | h <;> exact ⟨h.2.2.2.1, h.2.2.1⟩
          exact run_fail hn ct1 z (by rw [s]; exact k_semi_no (by omega) hw (by omega) h5 b67.1 b67.2)
        · exact run_fail hn ct1 z (k_other t128 (a4 z) s nD h5)
      · have : i1 = n := by omega
        subst this
        exact run_end_in hn ct1 h5
/-! an order -/
def LTp (LT : Nat → Nat) (o c : Nat) : Nat → Nat := sb LT o c
def NUp (NU : Nat → Nat) (o : Nat) (cu : Nat → Nat) : Nat → Nat := fun j => if j < 3 * o then NU j else cu (j - 3 * o)
def Good (N n : Nat) (tx : Nat → Nat) (i : Nat) (u v' : ASt) (o : Nat) (LT : Nat → Nat) (c : Nat) (NU : Nat → Nat) : Prop := agt v' 95 14 = nI 0 ∧ ∃ i' cu u', i < i' ∧ i' ≤ n ∧ agt v' 95 13 = nI i' ∧ Adv N i u i' u' ∧ TF u u' ∧ CQ u' n tx (o + 1) (LTp LT o c) (NUp NU o cu) ∧ agt u' 91 5 = nI 0 ∧ MQt v' n tx (o + 1) (LTp LT o c) (NUp NU o cu)
theorem n_last (hN : 1000 ≤ N) (hn : n ≤ 120) (ht : ∀ j, j < n → tx j < 128) {o c d i : Nat} {LT NU cu : Nat → Nat} {u v : ASt} (ho : o < 60) (hl : isL c) (hc : c < 128) (hi : i ≤ n) (hd : d = 0 ∨ (i < n → ¬ isD (tx i))) (hC : CO u n tx o LT NU c (many c) (many c) d cu) (hM : MQt v n tx o LT NU) (hs : agt v 95 13 = nI i) (h14 : agt v 95 14 = nI 0) (hcm : ∀ k, k < many c → agt v 106 (3 * o + k) = nI (cu k)) : ∃ v', f_X7_readsOrder_86 N 95 (nI c) v = some ((), v') ∧ MF v v' ∧ (Bad N n tx i u v' ∨ Good N n tx i u v' o LT c NU) := by
  have hw := many_3 (c := c)
  obtain ⟨i1, u1, v1, a1, a2, a3, a4, a5, a6, a7, a8, a9⟩ := b_blanks hN hn ht hi hC.ct hM.1 hs
  have V1 : MV v v1 := ⟨a7, fun k h1 _ => a6 k h1⟩
  have M1 := V1.mt hM.1
  have f1 : agt v1 95 14 = nI 0 := (a6 14 (by omega)).trans h14
  have T1 := TF.bl a9
  have A := m_isAt (N := N) (a := 59) (b := 59) hn M1 a2 ht a5 (by omega) (by omega)
  have C1 := hC.bl a9
  have cq1 : CQ u1 n tx o LT NU := hC.1.bl a9
  have h5 : agt u1 91 5 = nI 1 ∧ agt u1 91 6 = nI (many c) ∧ agt u1 91 7 = nI (many c) ∧ agt u1 93 o = nI c ∧ ∀ k, k < 3 → agt u1 94 (3 * o + k) = nI (cu k) := by rcases C1 with ⟨-, h⟩ | h <;> exact ⟨h.2.1, h.2.2.1, h.2.2.2.1, h.2.2.2.2.2.1, h.2.2.2.2.2.2⟩
  have ct1 : CT u1 n tx := cq1.1
  by_cases q : i1 < n ∧ 59 ≤ tx i1 ∧ tx i1 ≤ 59
  · have es : tx i1 = 59 := by omega
    obtain ⟨u2, hu2⟩ : ∃ z, z = apt (apt u1 91 4 (nI (o + 1))) 91 5 (nI 0) := ⟨_, rfl⟩
    have A2 : Adv N i1 u1 (i1 + 1) u2 := run_step hn ct1 q.1 (by rw [es, hu2]; exact k_semi ho hw cq1.2.1 h5.1 h5.2.2.1 h5.2.1)
    have T2 : TF u1 u2 := by rw [hu2]; exact (TF.p (Or.inl rfl)).tr (TF.p (Or.inl rfl))
    obtain ⟨v2, hv2⟩ : ∃ z, z = apt (apt v1 95 14 (nI 0)) 95 13 (nI (i1 + 1)) := ⟨_, rfl⟩
    have V2 : MV v1 v2 := by rw [hv2]; exact (MV.p (Or.inr rfl)).tr (MV.p (Or.inl rfl))
    obtain ⟨v3, hv3⟩ : ∃ z, z = apt (apt v2 105 o (nI c)) 95 15 (nI (o + 1)) := ⟨_, rfl⟩
    have F3 : MF v2 v3 := by rw [hv3]; exact (MF.po (Or.inl rfl)).tr (MF.p5 (by omega))
    have y14 : agt (apt v1 95 14 (nI 0)) 95 14 = nI 0 := agt_pt_s _ _ _ _
    have y13 : agt (apt v1 95 14 (nI 0)) 95 13 = nI i1 := by rw [agt_pt_k (by omega)]; exact a5
    have z14 : agt v2 95 14 = nI 0 := by rw [hv2, agt_pt_k (by omega), agt_pt_s]
    have z15 : agt v2 95 15 = nI o := by rw [V2.2 15 (by omega) (by omega), V1.2 15 (by omega) (by omega)]; exact hM.2.1
    have z15' : agt (apt v2 105 o (nI c)) 95 15 = nI o := by rw [agt_pt_o (by omega)]; exact z15
    refine ⟨v3, ?_, (V1.tr V2).mf.tr F3, Or.inr ⟨by rw [hv3, agt_pt_k (by omega), agt_pt_o (by omega)]; exact z14, i1 + 1, cu, u2, by omega, by omega, by rw [hv3, agt_pt_k (by omega), agt_pt_o (by omega), hv2, agt_pt_s], a8.tr A2, T1.tr T2, ⟨⟨?_, fun j hj => ?_⟩, ?_, fun j hj => ?_, fun j hj => ?_⟩, by rw [hu2, agt_pt_s], ⟨F3.mt (V2.mt M1), by rw [hv3, agt_pt_s], fun j hj => ?_, fun j hj k hk => ?_⟩⟩⟩
    · simp (disch := omega) only [f_X7_readsOrder_86, f_X7_readsOrder_114, f_X7_readsOrder_134, f_X7_readsOrder_138, lit, h14, if_true, a3, bnd_s, A, bI0, q, and_self, not_true, if_false, true_or, chk_True, lte_s, y14, y13, nI_add, ← hv2, z14, z15, ar95_16, al105, chk_in, nCl, z15', ← hv3]
    · rw [hu2, agt_pt_k (by omega), agt_pt_k (by omega)]; exact ct1.1
    · rw [hu2, agt_pt_o (by omega), agt_pt_o (by omega)]; exact ct1.2 j hj
    · rw [hu2, agt_pt_k (by omega), agt_pt_s]
    · rw [hu2, agt_pt_o (by omega), agt_pt_o (by omega)]
      unfold LTp sb
      by_cases z : j = o
      · subst z; rw [if_pos rfl]; exact h5.2.2.2.1
      · rw [if_neg z]; exact cq1.2.2.1 j (by omega)
    · rw [hu2, agt_pt_o (by omega), agt_pt_o (by omega)]
      unfold NUp
      by_cases z : j < 3 * o
      · rw [if_pos z]; exact cq1.2.2.2 j z
      · rw [if_neg z]
        have := h5.2.2.2.2 (j - 3 * o) (by omega)
        rw [show 3 * o + (j - 3 * o) = j by omega] at this
        exact this
    · rw [hv3, agt_pt_o (by omega), agt_pt]
      unfold LTp sb
      by_cases z : j = o
      · subst z; simp
      · rw [if_neg (by omega), if_neg z, agt_e (V2.1 105 (by omega)), agt_e (V1.1 105 (by omega))]; exact hM.2.2.1 j (by omega)
    · have e6 : agt v3 106 (3 * j + k) = agt v 106 (3 * j + k) := by rw [hv3, agt_pt_o (by omega), agt_pt_o (by omega), agt_e (V2.1 106 (by omega)), agt_e (V1.1 106 (by omega))]
      rw [e6]
      unfold NUp
      unfold LTp sb at hk
      by_cases z : j = o
      · subst z
        rw [if_pos rfl] at hk
        rw [if_neg (by omega), show 3 * j + k - 3 * j = k by omega]
        exact hcm k hk
      · rw [if_neg z] at hk
        have := many_3 (c := LT j)
        rw [if_pos (by omega)]
        exact hM.2.2.2 j (by omega) k hk
  · obtain ⟨v2, hv2⟩ : ∃ z, z = apt (apt v1 95 14 (nI 1)) 95 13 (nI i1) := ⟨_, rfl⟩
    have V2 : MV v1 v2 := by rw [hv2]; exact (MV.p (Or.inr rfl)).tr (MV.p (Or.inl rfl))
    have y14 : agt (apt v1 95 14 (nI 1)) 95 14 = nI 1 := agt_pt_s _ _ _ _
    have y13 : agt (apt v1 95 14 (nI 1)) 95 13 = nI i1 := by rw [agt_pt_k (by omega)]; exact a5
    have z14 : agt v2 95 14 = nI 1 := by rw [hv2, agt_pt_k (by omega), agt_pt_s]
    refine ⟨v2, ?_, (V1.tr V2).mf, Or.inl (Bad.adv a8 T1 ⟨z14, i1, a2, by rw [hv2, agt_pt_s], u1, ?_, TF.rf, ct1⟩)⟩
    · simp (disch := omega) only [f_X7_readsOrder_86, f_X7_readsOrder_114, f_X7_readsOrder_134, f_X7_readsOrder_138, lit, h14, if_true, a3, bnd_s, A, bI0, q, not_false_eq_true, or_true, chk_True, lte_s, y14, nE, show ¬ (1 : Nat) = 0 by omega, if_false, y13, nI_add, Nat.add_zero, ← hv2, z14]
    · by_cases z : i1 < n
      · have t128 := ht i1 z
        have s : ¬ tx i1 = 59 := fun w => q ⟨z, by omega, by omega⟩
        by_cases nD : isD (tx i1)
        · have C0 : CO u1 n tx o LT NU c (many c) (many c) 0 cu := by
            rcases C1 with ⟨rfl, h⟩ | h
            · rcases hd with rfl | hd
              · exact h
              · exact absurd nD (hd z)
            · exact h
          exact run_fail hn ct1 z (k_digit_over nD hw h5.1 C0.2.2.2.2.1 h5.2.2.1 h5.2.1)
        · exact run_fail hn ct1 z (k_other t128 (a4 z) s nD h5.1)
      · have : i1 = n := by omega
        subst this
        exact run_end_in hn ct1 h5.1
theorem n_order (hN : 1000 ≤ N) (hn : n ≤ 120) (ht : ∀ j, j < n → tx j < 128) {o c : Nat} {LT NU : Nat → Nat} (ho : o < 60) (hl : isL c) (hc : c < 128) : ∀ fu k i d cu u v, k ≤ many c → many c < fu + k → i ≤ n → (d = 0 ∨ (i < n → ¬ isD (tx i))) → (∀ j, j < 3 → cu j < 1000) → (∀ j, k ≤ j → j < 3 → cu j = 0) → CO u n tx o LT NU c (many c) k d cu → MQt v n tx o LT NU → agt v 95 13 = nI i → agt v 95 14 = nI 0 → (∀ j, j < k → agt v 106 (3 * o + j) = nI (cu j)) → ∃ v', f_X7_readsOrder_51 N 95 fu (nI c) (nI (many c)) (nI k) v = some ((), v') ∧ MF v v' ∧ (Bad N n tx i u v' ∨ Good N n tx i u v' o LT c NU) := by
  have hw := many_3 (c := c)
  intro fu
  induction fu with
  | zero => intro k i d cu u v h1 h2; omega
  | succ fu ih =>
    intro k i d cu u v h1 h2 hi hd hcu hc0 hC hM hs h14 hcm
    by_cases hk : many c ≤ k
    · have ek : k = many c := by omega
      subst ek
      obtain ⟨v', e1, e2, e3⟩ := n_last hN hn ht ho hl hc hi hd hC hM hs h14 hcm
      refine ⟨v', ?_, e2, e3⟩
      simp (disch := omega) only [f_X7_readsOrder_51, nLE, Nat.le_refl, if_true, e1]
    · obtain ⟨x, v1, a1, a2, a3⟩ := n_number hN hn ht ho hw (show k < many c by omega) hcu (hc0 k (by omega) (by omega)) hi hd hC hM.1 hs h14
      have F1 : ∀ y, MF v (apt v1 106 (3 * o + k) y) := fun y => a2.mf.tr (MF.po (Or.inr rfl))
      rcases a3 with ⟨b1, p, b2, b3, u', b4, b5, b6⟩ | ⟨g1, i', y', d', g2, g3, g4, g5, g6, g7, u', g8, g9, g10⟩
      · have z14 : agt (apt v1 106 (3 * o + k) x) 95 14 = nI 1 := by rw [agt_pt_o (by omega)]; exact b1
        refine ⟨apt v1 106 (3 * o + k) x, ?_, F1 x, Or.inl ⟨z14, p, b2, by rw [agt_pt_o (by omega)]; exact b3, u', b4, b5, b6⟩⟩
        obtain ⟨fu, rfl⟩ : ∃ m, fu = m + 1 := ⟨fu - 1, by omega⟩
        have R86 : f_X7_readsOrder_86 N 95 (nI c) (apt v1 106 (3 * o + k) x) = some ((), apt v1 106 (3 * o + k) x) := by
          simp (disch := omega) only [f_X7_readsOrder_86, f_X7_readsOrder_138, lit, z14, nE, show ¬ (1 : Nat) = 0 by omega, if_false]
        have e15 := hM.2.1
        by_cases k1 : many c ≤ k + 1
        · simp (disch := omega) only [f_X7_readsOrder_51, lit, nLE, hk, if_false, h14, if_true, a1, bnd_s, e15, pk_mul, nI_add, ar95_17, al106, chk_in, nCl, lte_s, k1, R86]
        · simp (disch := omega) only [f_X7_readsOrder_51, lit, nLE, hk, if_false, h14, if_true, a1, bnd_s, e15, pk_mul, nI_add, ar95_17, al106, chk_in, nCl, lte_s, k1, z14, nE, show ¬ (1 : Nat) = 0 by omega, R86]
      · subst g4
        obtain ⟨v2, hv2⟩ : ∃ z, z = apt v1 106 (3 * o + k) (nI y') := ⟨_, rfl⟩
        have n2 : ∀ a, a ≠ 106 → v2.1 a = v1.1 a := fun a ha => by rw [hv2]; exact apt_ne ha
        have M2 : MQt v2 n tx o LT NU := by
          refine ⟨(MF.po (Or.inr rfl)).mt (a2.mt hM.1) |> (by rw [hv2]; exact ·), by rw [agt_e (n2 95 (by omega)), a2.2 15 (by omega) (by omega)]; exact hM.2.1, fun j hj => by rw [agt_e (n2 105 (by omega)), agt_e (a2.1 105 (by omega))]; exact hM.2.2.1 j hj, fun j hj k' hk' => ?_⟩
          have := many_3 (c := LT j)
          rw [hv2, agt_pt_k (by omega), agt_e (a2.1 106 (by omega))]; exact hM.2.2.2 j hj k' hk'
        obtain ⟨v', e1, e2, e3⟩ := ih (k + 1) i' d' (sb cu k y') u' v2 (by omega) (by omega) g3 (Or.inr g7) (fun j hj => by
          unfold sb
          split
          · exact g5
          · exact hcu j hj) (fun j h3 h4 => by rw [sb_ne (by omega)]; exact hc0 j (by omega) h4) g10 M2 (by rw [agt_e (n2 95 (by omega))]; exact g6) (by rw [agt_e (n2 95 (by omega))]; exact g1) (fun j hj => by
          rw [hv2, agt_pt]
          unfold sb
          by_cases z : j = k
          · subst z; simp
          · rw [if_neg (by omega), if_neg z, agt_e (a2.1 106 (by omega))]; exact hcm j (by omega))
        refine ⟨v', ?_, (F1 _).tr (by rw [← hv2]; exact e2), ?_⟩
        · have e15 := hM.2.1
          simp (disch := omega) only [f_X7_readsOrder_51, lit, nLE, hk, if_false, h14, if_true, a1, bnd_s, e15, pk_mul, nI_add, ar95_17, al106, chk_in, nCl, lte_s, ← hv2]
          exact e1
        · rcases e3 with e3 | ⟨q1, i2, cu2, u2, q2, q3, q4, q5, q6, q7⟩
          · exact Or.inl (e3.adv g8 g9)
          · exact Or.inr ⟨q1, i2, cu2, u2, by omega, q3, q4, g8.tr q5, g9.tr q6, q7⟩
end TEXT2
