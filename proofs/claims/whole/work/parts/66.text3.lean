/-! the text: orders one after the other -/
section TEXT3
variable {N : Nat} {n : Nat} {tx : Nat → Nat}
theorem k_zero {p : Int32} {u : ASt} {o : Nat} (ho : o < 60) (h4 : agt u 91 4 = nI o) : ∀ f, 4 ≤ f → f_X5_takesLetter_40 N 91 p f (nI 0) u = some (nI 1, apt (apt (apt (apt (apt (apt u 94 (3 * o) (nI 0)) 94 (3 * o + 1) (nI 0)) 94 (3 * o + 2) (nI 0)) 91 5 (nI 1)) 91 7 (nI 0)) 91 8 (nI 0)) := by
  intro f hf
  obtain ⟨f, rfl⟩ : ∃ m, f = m + 4 := ⟨f - 4, by omega⟩
  have S : ∀ f j u, j < 3 → agt u 91 4 = nI o → f_X5_takesLetter_40 N 91 p (f + 1) (nI j) u = f_X5_takesLetter_40 N 91 p f (nI (j + 1)) (apt u 94 (3 * o + j) (nI 0)) := fun f j u hj h => by
    have hj' : ¬ 3 ≤ j := by omega
    simp (disch := omega) only [f_X5_takesLetter_40, lit, nLE, hj', if_false, h, pk_mul, nI_add, ar91_3, al94, chk_in, nCl, lte_s, show o * 3 + j = 3 * o + j by omega]
  rw [S (f + 3) 0 u (by omega) h4, S (f + 2) 1 _ (by omega) (by rw [agt_pt_o (by omega)]; exact h4), S (f + 1) 2 _ (by omega) (by rw [agt_pt_o (by omega), agt_pt_o (by omega)]; exact h4)]
  simp (disch := omega) only [f_X5_takesLetter_40, lit, nLE, show (3 ≤ 2 + 1) by omega, if_true, lte_s, Nat.add_zero]
theorem k_letter (hN : 1000 ≤ N) {u : ASt} {o c : Nat} {LT NU : Nat → Nat} (ho : o < 60) (hl : isL c) (h : CQ u n tx o LT NU) (h5 : agt u 91 5 = nI 0) : ∃ u', f_X5_takes N 91 (nI c) u = some (nI 1, u') ∧ TF u u' ∧ CO u' n tx o LT NU c (many c) 0 0 (fun _ => 0) := by
  have hc : c < 128 := by unfold isL at hl; omega
  have hc32 : ¬ c = 32 := by unfold isL at hl; omega
  have hm := many_3 (c := c)
  obtain ⟨u1, hu1⟩ : ∃ z, z = apt u 91 6 (nI (many c)) := ⟨_, rfl⟩
  have e6 : agt u1 91 6 = nI (many c) := by rw [hu1, agt_pt_s]
  have e4 : agt u1 91 4 = nI o := by rw [hu1, agt_pt_k (by omega)]; exact h.2.1
  obtain ⟨u2, hu2⟩ : ∃ z, z = apt u1 93 o (nI c) := ⟨_, rfl⟩
  have e4' : agt u2 91 4 = nI o := by rw [hu2, agt_pt_o (by omega)]; exact e4
  have Z := k_zero (N := N) (p := nI c) ho e4' N (by omega)
  obtain ⟨u3, hu3⟩ : ∃ z, z = apt (apt (apt (apt (apt (apt u2 94 (3 * o) (nI 0)) 94 (3 * o + 1) (nI 0)) 94 (3 * o + 2) (nI 0)) 91 5 (nI 1)) 91 7 (nI 0)) 91 8 (nI 0) := ⟨_, rfl⟩
  rw [← hu3] at Z
  have g91 : ∀ k, k ≠ 5 → k ≠ 6 → k ≠ 7 → k ≠ 8 → agt u3 91 k = agt u 91 k := fun k a1 a2 a3 a4 => by
    rw [hu3, agt_pt_k a4, agt_pt_k a3, agt_pt_k a1, agt_pt_o (by omega), agt_pt_o (by omega), agt_pt_o (by omega), hu2, agt_pt_o (by omega), hu1, agt_pt_k a2]
  have g93 : ∀ k, agt u3 93 k = if k = o then nI c else agt u 93 k := fun k => by
    rw [hu3, agt_pt_o (by omega), agt_pt_o (by omega), agt_pt_o (by omega), agt_pt_o (by omega), agt_pt_o (by omega), agt_pt_o (by omega), hu2, agt_pt, hu1, agt_pt_o (by omega)]
    simp
  have g94 : ∀ k, agt u3 94 k = if k = 3 * o + 2 then nI 0 else if k = 3 * o + 1 then nI 0 else if k = 3 * o then nI 0 else agt u 94 k := fun k => by
    rw [hu3, agt_pt_o (by omega), agt_pt_o (by omega), agt_pt_o (by omega), agt_pt, agt_pt, agt_pt, hu2, agt_pt_o (by omega), hu1, agt_pt_o (by omega)]
    simp
  have T3 : TF u u3 := by
    rw [hu3, hu2, hu1]
    exact ((((((((TF.p (Or.inl rfl)).tr (TF.p (Or.inr (Or.inl rfl)))).tr (TF.p (Or.inr (Or.inr rfl)))).tr (TF.p (Or.inr (Or.inr rfl)))).tr (TF.p (Or.inr (Or.inr rfl)))).tr (TF.p (Or.inl rfl))).tr (TF.p (Or.inl rfl))).tr (TF.p (Or.inl rfl)))
  refine ⟨u3, ?_, T3, ⟨⟨⟨?_, fun j hj => ?_⟩, ?_, fun j hj => ?_, fun j hj => ?_⟩, ?_, ?_, ?_, ?_, ?_, fun k hk => ?_⟩⟩
  · have hmm : ¬ nI (many c) = (-1) := nI_nm (by omega)
    have hmm' : ¬ nI (many c) = -nI 1 := hmm
    simp (disch := omega) only [f_X5_takes, f_X5_takesLetter, lit, nE, hc32, if_false, h5, if_true, k_nums hl, bnd_s, lte_s, ← hu1, e6, hmm', e4, nLT, ho, ar91_2, al93, chk_in, nCl, byte_n c hc, ← hu2, Z, or_true, chk_True]
  · rw [g91 1 (by omega) (by omega) (by omega) (by omega)]; exact h.1.1
  · rw [agt_e (T3 92 (by omega) (by omega) (by omega))]; exact h.1.2 j hj
  · rw [g91 4 (by omega) (by omega) (by omega) (by omega)]; exact h.2.1
  · rw [g93, if_neg (by omega)]; exact h.2.2.1 j hj
  · rw [g94, if_neg (by omega), if_neg (by omega), if_neg (by omega)]; exact h.2.2.2 j hj
  · rw [hu3, agt_pt_k (by omega), agt_pt_k (by omega), agt_pt_s]
  · rw [hu3, agt_pt_k (by omega), agt_pt_k (by omega), agt_pt_k (by omega), agt_pt_o (by omega), agt_pt_o (by omega), agt_pt_o (by omega), hu2, agt_pt_o (by omega)]; exact e6
  · rw [hu3, agt_pt_k (by omega), agt_pt_s]
  · rw [hu3, agt_pt_s]
  · rw [g93, if_pos rfl]
  · rw [g94]
    have : k = 0 ∨ k = 1 ∨ k = 2 := by omega
    rcases this with rfl | rfl | rfl <;> simp
theorem k_letter_no {u : ASt} {c : Nat} (hc : c < 128) (hc32 : ¬ c = 32) (hl : ¬ isL c) (h5 : agt u 91 5 = nI 0) : f_X5_takes N 91 (nI c) u = some (nI 0, apt u 91 6 (-1)) := by
  have e6 : agt (apt u 91 6 (-1)) 91 6 = -1 := agt_pt_s _ _ _ _
  unfold f_X5_takes
  rw [if_neg (show ¬ nI c = (32 : Int32) from fun z => hc32 ((nE (by omega) (by omega)).mp z)), h5, if_pos (show nI 0 = (0 : Int32) from rfl)]
  unfold f_X5_takesLetter f_X5_takesLetter_25
  rw [k_nums_no hc hl, bnd_s, lte_s, e6, if_pos rfl, bnd_s, chk_t (Or.inl rfl)]
  rfl
theorem n_reads1 (hN : 1000 ≤ N) (hn : n ≤ 120) (ht : ∀ j, j < n → tx j < 128) {i o : Nat} {LT NU : Nat → Nat} {u v : ASt} (hi : i < n) (ho : o < 60) (h32 : ¬ tx i = 32) (hC : CQ u n tx o LT NU) (h5 : agt u 91 5 = nI 0) (hM : MQt v n tx o LT NU) (hs : agt v 95 13 = nI i) : ∃ v', f_X7_readsOrder N 95 v = some ((), v') ∧ MF v v' ∧ (Bad N n tx i u v' ∨ (isL (tx i) ∧ agt v' 95 14 = nI 0 ∧ ∃ i' cu u', i + 1 < i' ∧ i' ≤ n ∧ agt v' 95 13 = nI i' ∧ Adv N i u i' u' ∧ TF u u' ∧ CQ u' n tx (o + 1) (LTp LT o (tx i)) (NUp NU o cu) ∧ agt u' 91 5 = nI 0 ∧ MQt v' n tx (o + 1) (LTp LT o (tx i)) (NUp NU o cu))) := by
  have t128 := ht i hi
  have c0 : f_X7_readsOrder N 95 v = bnd (f_X7_manyOf N (nI (tx i)) v) fun r31 u30 => if 0 ≤ r31 then (f_X7_readsOrder_25 N 95 (nI (tx i)) r31 95 0 u30) else (f_X7_readsOrder_25 N 95 (nI (tx i)) r31 95 1 u30) := by
    unfold f_X7_readsOrder
    rw [hs, ar95_5, al100, chk_in (by omega) (by omega), nCl (by omega), hM.1.2 i hi, lte_s]
  by_cases hl : isL (tx i)
  · obtain ⟨u1, a1, a2, a3⟩ := k_letter (N := N) hN ho hl hC h5
    have A1 := run_step (N := N) hn hC.1 hi a1
    obtain ⟨v2, hv2⟩ : ∃ z, z = apt (apt v 95 14 (nI 0)) 95 13 (nI (i + 1)) := ⟨_, rfl⟩
    have V2 : MV v v2 := by rw [hv2]; exact (MV.p (Or.inr rfl)).tr (MV.p (Or.inl rfl))
    have y14 : agt (apt v 95 14 (nI 0)) 95 14 = nI 0 := agt_pt_s _ _ _ _
    have y13 : agt (apt v 95 14 (nI 0)) 95 13 = nI i := by rw [agt_pt_k (by omega)]; exact hs
    obtain ⟨v', e1, e2, e3⟩ := n_order (N := N) (LT := LT) (NU := NU) hN hn ht ho hl t128 N 0 (i + 1) 0 (fun _ => 0) u1 v2 (by omega) (by have := many_3 (c := tx i); omega) (by omega) (Or.inl rfl) (fun _ _ => by omega) (fun _ _ _ => rfl) a3 (hM.k (V2.2 15 (by omega) (by omega)) (V2.2 6 (by omega) (by omega)) V2.1) (by rw [hv2, agt_pt_s]) (by rw [hv2, agt_pt_k (by omega), agt_pt_s]) (fun j hj => by omega)
    refine ⟨v', ?_, V2.mf.tr e2, ?_⟩
    · have hm := many_3 (c := tx i)
      rw [c0, m_many hl, bnd_s, if_pos (r_pos (by omega))]
      simp (disch := omega) only [f_X7_readsOrder_25, f_X7_readsOrder_45, lit, true_or, chk_True, lte_s, y14, if_true, y13, nI_add, ← hv2]
      exact e1
    · rcases e3 with e3 | ⟨q1, i2, cu2, u2, q2, q3, q4, q5, q6, q7⟩
      · exact Or.inl (e3.adv A1 a2)
      · exact Or.inr ⟨hl, q1, i2, cu2, u2, q2, q3, q4, A1.tr q5, a2.tr q6, q7⟩
  · obtain ⟨v2, hv2⟩ : ∃ z, z = apt (apt v 95 14 (nI 1)) 95 13 (nI i) := ⟨_, rfl⟩
    have V2 : MV v v2 := by rw [hv2]; exact (MV.p (Or.inr rfl)).tr (MV.p (Or.inl rfl))
    have y14 : agt (apt v 95 14 (nI 1)) 95 14 = nI 1 := agt_pt_s _ _ _ _
    have y13 : agt (apt v 95 14 (nI 1)) 95 13 = nI i := by rw [agt_pt_k (by omega)]; exact hs
    have z14 : agt v2 95 14 = nI 1 := by rw [hv2, agt_pt_k (by omega), agt_pt_s]
    refine ⟨v2, ?_, V2.mf, Or.inl ⟨z14, i, by omega, by rw [hv2, agt_pt_s], apt u 91 6 (-1), run_fail hn hC.1 hi (k_letter_no t128 h32 hl h5), TF.p (Or.inl rfl), hC.1.p (Or.inl ⟨rfl, by omega⟩)⟩⟩
    have R : ∀ f x, f_X7_readsOrder_51 N 95 (f + 1) x (-1) 0 v2 = some ((), v2) := fun f x => by
      rw [f_X7_readsOrder_51, if_pos (by decide)]
      unfold f_X7_readsOrder_86 f_X7_readsOrder_138
      rw [z14, if_neg (by decide), if_neg (by decide)]
    obtain ⟨f, hf⟩ : ∃ m, N = m + 1 := ⟨N - 1, by omega⟩
    have R2 := R f (nI (tx i))
    rw [← hf] at R2
    rw [c0, m_many_no t128 hl, bnd_s, if_neg (by decide)]
    unfold f_X7_readsOrder_25 f_X7_readsOrder_45
    rw [chk_t (Or.inr rfl), lte_s, show (1 : Int32) = nI 1 from rfl, y14, if_neg (by decide), lte_s, y13, show (0 : Int32) = nI 0 from rfl, show nI i + nI 0 = nI i from by rw [nI_add, Nat.add_zero], ← hv2]
    exact R2
/-- how the reading ends -/
def End (N n : Nat) (tx : Nat → Nat) (i : Nat) (u v v' : ASt) (mr : Int32) : Prop := MF v v' ∧ ((mr = nI 0 ∧ ∃ p, p ≤ n ∧ agt v' 95 13 = nI p ∧ ∃ u', run N i u (nI p) u' ∧ TF u u' ∧ CT u' n tx) ∨ (mr = nI 1 ∧ ∃ o LT NU u', 1 ≤ o ∧ o ≤ 60 ∧ (∀ j, j < o → isL (LT j)) ∧ run N i u (-1) u' ∧ TF u u' ∧ CQ u' n tx o LT NU ∧ MQt v' n tx o LT NU))
theorem n_reads (hN : 1000 ≤ N) (hn : n ≤ 120) (ht : ∀ j, j < n → tx j < 128) : ∀ fu i o LT NU u v, i ≤ n → n < fu + i → 2 * o ≤ i → (i = n → 1 ≤ o) → (i < n → ¬ tx i = 32) → (∀ j, j < o → isL (LT j)) → CQ u n tx o LT NU → agt u 91 5 = nI 0 → MQt v n tx o LT NU → agt v 95 13 = nI i → agt v 95 14 = nI 0 → ∃ mr v', f_X7_reads_34 N 95 fu v = some (mr, v') ∧ End N n tx i u v v' mr := by
  intro fu
  induction fu with
  | zero => intro i o LT NU u v h1 h2; omega
  | succ fu ih =>
    intro i o LT NU u v h1 h2 h3 h4 h32 hL hC h5 hM hs h14
    by_cases hi : n ≤ i
    · have ei : i = n := by omega
      subst ei
      refine ⟨nI 1, v, ?_, MF.rf, Or.inr ⟨rfl, o, LT, NU, u, h4 rfl, by omega, hL, run_end_ok hn ⟨h4 rfl, by omega⟩ hC.1 h5 hC.2.1, TF.rf, hC, hM⟩⟩
      simp (disch := omega) only [f_X7_reads_34, f_X7_reads_70, lit, h14, if_true, hM.1.1, hs, nLE, Nat.le_refl]
    · obtain ⟨v1, a1, a2, a3⟩ := n_reads1 hN hn ht (show i < n by omega) (show o < 60 by omega) (h32 (by omega)) hC h5 hM hs
      rcases a3 with ⟨b1, p, b2, b3, u', b4, b5, b6⟩ | ⟨g0, g1, i', cu, u1, g2, g3, g4, g5, g6, g7, g8, g9⟩
      · refine ⟨nI 0, v1, ?_, a2, Or.inl ⟨rfl, p, b2, b3, u', b4, b5, b6⟩⟩
        obtain ⟨fu, rfl⟩ : ∃ m, fu = m + 1 := ⟨fu - 1, by omega⟩
        simp (disch := omega) only [f_X7_reads_34, f_X7_reads_70, lit, h14, if_true, hM.1.1, hs, nLE, hi, if_false, a1, bnd_s, b1, nE, show ¬ (1 : Nat) = 0 by omega]
      · obtain ⟨i2, u2, v2, c1, c2, c3, c4, c5, c6, c7, c8, c9⟩ := b_blanks hN hn ht g3 g7.1 g9.1 g4
        have M2 := g9.k (c6 15 (by omega)) (c6 6 (by omega)) c7
        have h52 : agt u2 91 5 = nI 0 := by
          rcases c9 with ⟨rfl, -⟩ | ⟨-, q, -⟩
          · exact g8
          · rw [q 5 (by omega)]; exact g8
        obtain ⟨mr, v', e1, e2, e3⟩ := ih i2 (o + 1) (LTp LT o (tx i)) (NUp NU o cu) u2 v2 c2 (by omega) (by omega) (fun _ => by omega) c4 (fun j hj => by
          unfold LTp sb
          split
          · exact g0
          · exact hL j (by omega)) (g7.bl c9) h52 M2 c5 ((c6 14 (by omega)).trans g1)
        have F2 : MF v1 v2 := ⟨fun a q1 _ _ => c7 a q1, fun k hk => c6 k (by omega)⟩
        refine ⟨mr, v', ?_, a2.tr (F2.tr e2), ?_⟩
        · simp (disch := omega) only [f_X7_reads_34, f_X7_reads_70, lit, h14, if_true, hM.1.1, hs, nLE, hi, if_false, a1, bnd_s, g1, c3]
          exact e1
        · have A := g5.tr c8
          have T := g6.tr (TF.bl c9)
          rcases e3 with ⟨q1, p, q2, q3, u', q4, q5, q6⟩ | ⟨q1, o', LT', NU', u', q2, q3, q4, q5, q6, q7, q8⟩
          · exact Or.inl ⟨q1, p, q2, q3, u', A _ _ q4, T.tr q5, q6⟩
          · exact Or.inr ⟨q1, o', LT', NU', u', q2, q3, q4, A _ _ q5, T.tr q6, q7, q8⟩
/-- both read the whole text -/
theorem n_parse (hN : 1000 ≤ N) (hn : n ≤ 120) (ht : ∀ j, j < n → tx j < 128) {u v : ASt} (hT : CT u n tx) (hM : MT v n tx) : ∃ mr v', f_X7_reads N 95 v = some (mr, v') ∧ MF v v' ∧ ((mr = nI 0 ∧ ∃ p, p ≤ n ∧ agt v' 95 13 = nI p ∧ ∃ u', f_X5_parse N 91 u = some (nI p, u') ∧ TF u u' ∧ CT u' n tx) ∨ (mr = nI 1 ∧ ∃ o LT NU u', 1 ≤ o ∧ o ≤ 60 ∧ (∀ j, j < o → isL (LT j)) ∧ f_X5_parse N 91 u = some (-1, u') ∧ TF u u' ∧ CQ u' n tx o LT NU ∧ MQt v' n tx o LT NU)) := by
  obtain ⟨u0, hu0⟩ : ∃ z, z = apt (apt u 91 4 (nI 0)) 91 5 (nI 0) := ⟨_, rfl⟩
  have T0 : TF u u0 := by rw [hu0]; exact (TF.p (Or.inl rfl)).tr (TF.p (Or.inl rfl))
  have CT0 : CT u0 n tx := by rw [hu0]; exact (hT.p (Or.inl ⟨rfl, by omega⟩)).p (Or.inl ⟨rfl, by omega⟩)
  have h4 : agt u0 91 4 = nI 0 := by rw [hu0, agt_pt_k (by omega), agt_pt_s]
  have h5 : agt u0 91 5 = nI 0 := by rw [hu0, agt_pt_s]
  have C0 : CQ u0 n tx 0 (fun _ => 0) (fun _ => 0) := ⟨CT0, h4, fun j hj => by omega, fun j hj => by omega⟩
  obtain ⟨v0, hv0⟩ : ∃ z, z = apt (apt v 95 13 (nI 0)) 95 15 (nI 0) := ⟨_, rfl⟩
  have F0 : MF v v0 := by rw [hv0]; exact (MF.p5 (by omega)).tr (MF.p5 (by omega))
  have M0 : MQt v0 n tx 0 (fun _ => 0) (fun _ => 0) := ⟨F0.mt hM, by rw [hv0, agt_pt_s], fun j hj => by omega, fun j hj => by omega⟩
  obtain ⟨i1, u1, v1, a1, a2, a3, a4, a5, a6, a7, a8, a9⟩ := b_blanks hN hn ht (show 0 ≤ n by omega) CT0 M0.1 (by rw [hv0, agt_pt_k (by omega), agt_pt_s])
  have F1 : MF v0 v1 := ⟨fun a q1 _ _ => a7 a q1, fun k hk => a6 k (by omega)⟩
  have M1 := M0.k (a6 15 (by omega)) (a6 6 (by omega)) a7
  have C1 := C0.bl a9
  have T1 := TF.bl a9
  have h51 : agt u1 91 5 = nI 0 := by
    rcases a9 with ⟨rfl, -⟩ | ⟨-, q, -⟩
    · exact h5
    · rw [q 5 (by omega)]; exact h5
  have P : ∀ r w, run N i1 u1 r w → f_X5_parse N 91 u = some (r, w) := fun r w h => by
    have := a8 r w h N (by omega)
    unfold f_X5_parse
    rw [lte_s, lte_s, show (0 : Int32) = nI 0 from rfl, ← hu0]
    exact this
  by_cases q : i1 = n
  · subst q
    obtain ⟨v2, hv2⟩ : ∃ z, z = apt v1 95 14 (nI 1) := ⟨_, rfl⟩
    have z14 : agt v2 95 14 = nI 1 := by rw [hv2, agt_pt_s]
    have z13 : agt v2 95 13 = nI i1 := by rw [hv2, agt_pt_k (by omega)]; exact a5
    refine ⟨nI 0, v2, ?_, F0.tr (F1.tr (by rw [hv2]; exact MF.p5 (by omega))), Or.inl ⟨rfl, i1, by omega, z13, u1, P _ _ (run_end_0 hn C1.1 h51 C1.2.1), T0.tr T1, C1.1⟩⟩
    have R : ∀ f, f_X7_reads_34 N 95 (f + 1) v2 = some (nI 0, v2) := fun f => by
      rw [f_X7_reads_34]
      unfold f_X7_reads_70
      rw [z14, if_neg (by decide), if_neg (by decide)]; rfl
    obtain ⟨f, hf⟩ : ∃ m, N = m + 1 := ⟨N - 1, by omega⟩
    have R2 := R f
    rw [← hf] at R2
    simp (disch := omega) only [f_X7_reads, f_X7_reads_31, lit, lte_s, ← hv0, a3, bnd_s, a5, M1.1.1, if_true, or_true, chk_True, ← hv2]
    exact R2
  · obtain ⟨v2, hv2⟩ : ∃ z, z = apt v1 95 14 (nI 0) := ⟨_, rfl⟩
    have F2 : MF v1 v2 := by rw [hv2]; exact MF.p5 (by omega)
    have M2 : MQt v2 n tx 0 (fun _ => 0) (fun _ => 0) := M1.k (by rw [hv2, agt_pt_k (by omega)]) (by rw [hv2, agt_pt_k (by omega)]) (fun a ha => by rw [hv2]; exact apt_ne ha)
    obtain ⟨mr, v', e1, e2, e3⟩ := n_reads hN hn ht N i1 0 (fun _ => 0) (fun _ => 0) u1 v2 a2 (by omega) (by omega) (fun z => absurd z q) a4 (fun j hj => by omega) C1 h51 M2 (by rw [hv2, agt_pt_k (by omega)]; exact a5) (by rw [hv2, agt_pt_s])
    refine ⟨mr, v', ?_, F0.tr (F1.tr (F2.tr e2)), ?_⟩
    · simp (disch := omega) only [f_X7_reads, f_X7_reads_31, lit, lte_s, ← hv0, a3, bnd_s, a5, M1.1.1, nE, q, if_false, true_or, chk_True, ← hv2]
      exact e1
    · rcases e3 with ⟨q1, p, q2, q3, u', q4, q5, q6⟩ | ⟨q1, o', LT', NU', u', q2, q3, q4, q5, q6, q7, q8⟩
      · exact Or.inl ⟨q1, p, q2, q3, u', P _ _ q4, T0.tr (T1.tr q5), q6⟩
      · exact Or.inr ⟨q1, o', LT', NU', u', q2, q3, q4, P _ _ q5, T0.tr (T1.tr q6), q7, q8⟩
end TEXT3
