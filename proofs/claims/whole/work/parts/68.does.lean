/-! the orders of a text, done -/
theorem bnd_id {α : Type} (x : Option (α × ASt)) : (bnd x fun r u => some (r, u)) = x := by
  cases x with
  | none => rfl
  | some p => rfl
def Fr (v0 v : ASt) : Prop := v.1 105 = v0.1 105 ∧ v.1 106 = v0.1 106 ∧ ∀ k, 13 ≤ k → agt v 95 k = agt v0 95 k
theorem Fr.st {v0 : ASt} : Stb (Fr v0) := fun u o k x h g => ⟨(apt_ne (Ne.symm h.1)).trans g.1, (apt_ne (Ne.symm h.2.1)).trans g.2.1, fun j hj => by
  rw [agt_pt, if_neg (fun e => by have := h.2.2 e.1.symm; omega)]; exact g.2.2 j hj⟩
section DOES
variable {N : Nat} {n : Nat} {tx : Nat → Nat}
theorem k_order {o i : Nat} {LT NU : Nat → Nat} {u : ASt} (ho : o ≤ 60) (hi : i < o) (h : CQ u n tx o LT NU) {c : Int32} : f_X6_carryOut N 77 c (nI (3 * i)) u = if c = 99 then f_X0_addChip N 0 (nI (NU (3 * i))) (nI (NU (3 * i + 1))) u else if c = 104 then f_X0_dropFaults N 0 u else if c = 107 then f_X0_tick N 0 (nI (NU (3 * i))) (nI (NU (3 * i + 1))) 78 u else if c = 111 then f_X0_addOpen N 0 (nI (NU (3 * i))) (nI (NU (3 * i + 1))) u else if c = 112 then f_X0_addCell N 0 (nI (NU (3 * i))) (nI (NU (3 * i + 1))) (nI (NU (3 * i + 2))) u else if c = 115 then f_X0_addShort N 0 (nI (NU (3 * i))) (nI (NU (3 * i + 1))) (nI (NU (3 * i + 2))) u else if c = 117 then f_X0_addStuck N 0 (nI (NU (3 * i))) (nI (NU (3 * i + 1))) u else some (-2, u) := by
  have e0 := h.2.2.2 (3 * i) (by omega)
  have e1 := h.2.2.2 (3 * i + 1) (by omega)
  have e2 := h.2.2.2 (3 * i + 2) (by omega)
  simp (disch := omega) only [f_X6_carryOut, lit, ar77_4, ar77_0, ar77_1, ar91_3, al94, nI_add, chk_in, nCl, lte_s, bnd_id, e0, e1, e2]
  rfl
theorem m_order {o i : Nat} {LT NU : Nat → Nat} {v : ASt} (ho : o ≤ 60) (hi : i < o) (h : MQt v n tx o LT NU) : f_X7_doesOrder N 95 (nI i) v = if nI (LT i) = 99 then f_X7_addsChip N 95 (agt v 106 (3 * i)) (agt v 106 (3 * i + 1)) v else if nI (LT i) = 107 then f_X7_clocksTo N 95 (agt v 106 (3 * i)) (agt v 106 (3 * i + 1)) v else if nI (LT i) = 111 then f_X7_opensOne N 95 (agt v 106 (3 * i)) (agt v 106 (3 * i + 1)) v else if nI (LT i) = 112 then f_X7_addsCell N 95 (agt v 106 (3 * i)) (agt v 106 (3 * i + 1)) (agt v 106 (3 * i + 2)) v else if nI (LT i) = 115 then f_X7_shortsTwo N 95 (agt v 106 (3 * i)) (agt v 106 (3 * i + 1)) (agt v 106 (3 * i + 2)) v else if nI (LT i) = 117 then f_X7_sticksOne N 95 (agt v 106 (3 * i)) (agt v 106 (3 * i + 1)) v else f_X7_healsAll N 95 v := by
  have e0 := h.2.2.1 i hi
  simp (disch := omega) only [f_X7_doesOrder, lit, ar95_16, ar95_17, al105, al106, pk_mul, nI_add, chk_in, nCl, lte_s, bnd_id, e0]
  rfl
theorem ord_op (hN : 1000 ≤ N) {o i : Nat} {LT NU : Nat → Nat} (ho : o ≤ 60) (hi : i < o) (hl : isL (LT i)) : ∃ gc gm : ASt → Option (Int32 × ASt), (∀ β, WB β → Op gc gm β) ∧ (∀ u, CQ u n tx o LT NU → f_X6_carryOut N 77 (nI (LT i)) (nI (3 * i)) u = gc u) ∧ (∀ v, MQt v n tx o LT NU → f_X7_doesOrder N 95 (nI i) v = gm v) ∧ ∀ Φ, Stb Φ → ∀ v, Φ v → Inv Φ (gm v) := by
  rcases hl with e | e | e | e | e | e | e
  · refine ⟨f_X0_addChip N 0 (nI (NU (3 * i))) (nI (NU (3 * i + 1))), f_X7_addsChip N 95 (nI (NU (3 * i))) (nI (NU (3 * i + 1))), fun β hw => Op_chip (by omega) hw _ _, fun u h => ?_, fun v h => ?_, fun Φ St v h => i_X7_addsChip St h⟩
    · rw [k_order ho hi h, e, if_pos (show nI 99 = (99 : Int32) from rfl)]
    · rw [m_order ho hi h, e, if_pos (show nI 99 = (99 : Int32) from rfl)]
      have hm : many (LT i) = 2 := by rw [e]; rfl
      have n0 := h.2.2.2 i hi 0 (by omega)
      have n1 := h.2.2.2 i hi 1 (by omega)
      rw [Nat.add_zero] at n0
      rw [n0, n1]
  · refine ⟨f_X0_dropFaults N 0, f_X7_healsAll N 95, fun β hw => Op_heals hw, fun u h => ?_, fun v h => ?_, fun Φ St v h => i_X7_healsAll St h⟩
    · rw [k_order ho hi h, e, if_neg (show ¬ nI 104 = (99 : Int32) by decide), if_pos (show nI 104 = (104 : Int32) from rfl)]
    · rw [m_order ho hi h, e, if_neg (show ¬ nI 104 = (99 : Int32) by decide), if_neg (show ¬ nI 104 = (107 : Int32) by decide), if_neg (show ¬ nI 104 = (111 : Int32) by decide), if_neg (show ¬ nI 104 = (112 : Int32) by decide), if_neg (show ¬ nI 104 = (115 : Int32) by decide), if_neg (show ¬ nI 104 = (117 : Int32) by decide)]
  · refine ⟨f_X0_tick N 0 (nI (NU (3 * i))) (nI (NU (3 * i + 1))) 78, f_X7_clocksTo N 95 (nI (NU (3 * i))) (nI (NU (3 * i + 1))), fun β hw => Op_tick (by omega) hw _ _, fun u h => ?_, fun v h => ?_, fun Φ St v h => i_X7_clocksTo St h⟩
    · rw [k_order ho hi h, e, if_neg (show ¬ nI 107 = (99 : Int32) by decide), if_neg (show ¬ nI 107 = (104 : Int32) by decide), if_pos (show nI 107 = (107 : Int32) from rfl)]
    · rw [m_order ho hi h, e, if_neg (show ¬ nI 107 = (99 : Int32) by decide), if_pos (show nI 107 = (107 : Int32) from rfl)]
      have hm : many (LT i) = 2 := by rw [e]; rfl
      have n0 := h.2.2.2 i hi 0 (by omega)
      have n1 := h.2.2.2 i hi 1 (by omega)
      rw [Nat.add_zero] at n0
      rw [n0, n1]
  · refine ⟨f_X0_addOpen N 0 (nI (NU (3 * i))) (nI (NU (3 * i + 1))), f_X7_opensOne N 95 (nI (NU (3 * i))) (nI (NU (3 * i + 1))), fun β hw => Op_open hw _ _, fun u h => ?_, fun v h => ?_, fun Φ St v h => i_X7_opensOne St h⟩
    · rw [k_order ho hi h, e, if_neg (show ¬ nI 111 = (99 : Int32) by decide), if_neg (show ¬ nI 111 = (104 : Int32) by decide), if_neg (show ¬ nI 111 = (107 : Int32) by decide), if_pos (show nI 111 = (111 : Int32) from rfl)]
    · rw [m_order ho hi h, e, if_neg (show ¬ nI 111 = (99 : Int32) by decide), if_neg (show ¬ nI 111 = (107 : Int32) by decide), if_pos (show nI 111 = (111 : Int32) from rfl)]
      have hm : many (LT i) = 2 := by rw [e]; rfl
      have n0 := h.2.2.2 i hi 0 (by omega)
      have n1 := h.2.2.2 i hi 1 (by omega)
      rw [Nat.add_zero] at n0
      rw [n0, n1]
  · refine ⟨f_X0_addCell N 0 (nI (NU (3 * i))) (nI (NU (3 * i + 1))) (nI (NU (3 * i + 2))), f_X7_addsCell N 95 (nI (NU (3 * i))) (nI (NU (3 * i + 1))) (nI (NU (3 * i + 2))), fun β hw => Op_cell hw _ _ _, fun u h => ?_, fun v h => ?_, fun Φ St v h => i_X7_addsCell St h⟩
    · rw [k_order ho hi h, e, if_neg (show ¬ nI 112 = (99 : Int32) by decide), if_neg (show ¬ nI 112 = (104 : Int32) by decide), if_neg (show ¬ nI 112 = (107 : Int32) by decide), if_neg (show ¬ nI 112 = (111 : Int32) by decide), if_pos (show nI 112 = (112 : Int32) from rfl)]
    · rw [m_order ho hi h, e, if_neg (show ¬ nI 112 = (99 : Int32) by decide), if_neg (show ¬ nI 112 = (107 : Int32) by decide), if_neg (show ¬ nI 112 = (111 : Int32) by decide), if_pos (show nI 112 = (112 : Int32) from rfl)]
      have hm : many (LT i) = 3 := by rw [e]; rfl
      have n0 := h.2.2.2 i hi 0 (by omega)
      have n1 := h.2.2.2 i hi 1 (by omega)
      have n2 := h.2.2.2 i hi 2 (by omega)
      rw [Nat.add_zero] at n0
      rw [n0, n1, n2]
  · refine ⟨f_X0_addShort N 0 (nI (NU (3 * i))) (nI (NU (3 * i + 1))) (nI (NU (3 * i + 2))), f_X7_shortsTwo N 95 (nI (NU (3 * i))) (nI (NU (3 * i + 1))) (nI (NU (3 * i + 2))), fun β hw => Op_short hw _ _ _, fun u h => ?_, fun v h => ?_, fun Φ St v h => i_X7_shortsTwo St h⟩
    · rw [k_order ho hi h, e, if_neg (show ¬ nI 115 = (99 : Int32) by decide), if_neg (show ¬ nI 115 = (104 : Int32) by decide), if_neg (show ¬ nI 115 = (107 : Int32) by decide), if_neg (show ¬ nI 115 = (111 : Int32) by decide), if_neg (show ¬ nI 115 = (112 : Int32) by decide), if_pos (show nI 115 = (115 : Int32) from rfl)]
    · rw [m_order ho hi h, e, if_neg (show ¬ nI 115 = (99 : Int32) by decide), if_neg (show ¬ nI 115 = (107 : Int32) by decide), if_neg (show ¬ nI 115 = (111 : Int32) by decide), if_neg (show ¬ nI 115 = (112 : Int32) by decide), if_pos (show nI 115 = (115 : Int32) from rfl)]
      have hm : many (LT i) = 3 := by rw [e]; rfl
      have n0 := h.2.2.2 i hi 0 (by omega)
      have n1 := h.2.2.2 i hi 1 (by omega)
      have n2 := h.2.2.2 i hi 2 (by omega)
      rw [Nat.add_zero] at n0
      rw [n0, n1, n2]
  · refine ⟨f_X0_addStuck N 0 (nI (NU (3 * i))) (nI (NU (3 * i + 1))), f_X7_sticksOne N 95 (nI (NU (3 * i))) (nI (NU (3 * i + 1))), fun β hw => Op_stuck hw _ _, fun u h => ?_, fun v h => ?_, fun Φ St v h => i_X7_sticksOne St h⟩
    · rw [k_order ho hi h, e, if_neg (show ¬ nI 117 = (99 : Int32) by decide), if_neg (show ¬ nI 117 = (104 : Int32) by decide), if_neg (show ¬ nI 117 = (107 : Int32) by decide), if_neg (show ¬ nI 117 = (111 : Int32) by decide), if_neg (show ¬ nI 117 = (112 : Int32) by decide), if_neg (show ¬ nI 117 = (115 : Int32) by decide), if_pos (show nI 117 = (117 : Int32) from rfl)]
    · rw [m_order ho hi h, e, if_neg (show ¬ nI 117 = (99 : Int32) by decide), if_neg (show ¬ nI 117 = (107 : Int32) by decide), if_neg (show ¬ nI 117 = (111 : Int32) by decide), if_neg (show ¬ nI 117 = (112 : Int32) by decide), if_neg (show ¬ nI 117 = (115 : Int32) by decide), if_pos (show nI 117 = (117 : Int32) from rfl)]
      have hm : many (LT i) = 2 := by rw [e]; rfl
      have n0 := h.2.2.2 i hi 0 (by omega)
      have n1 := h.2.2.2 i hi 1 (by omega)
      rw [Nat.add_zero] at n0
      rw [n0, n1]
/-- read, the states are as they were -/
theorem Rl_parse {u v u' v' : ASt} {β : Nat → Nat} {m mp : Nat} {hs : Nat → Nat → Nat} (R : Rl u v β m mp hs n tx) (hu : TF u u') (hc : CT u' n tx) (hv : MF v v') : Rl u' v' β m mp hs n tx := by
  obtain ⟨r1, r2, r3, r4, r5, r6, r7, r8, r9, r10, r11, r12, r13⟩ := R
  refine ⟨r1, r2, r3, r4, r5, r6, r7.kept r1.1 (fun a h1 h2 => hu a (by omega) (by omega) (by omega)), r8.kept r2 (hu 89 (by omega) (by omega) (by omega)) (fun a h1 h2 => hu a (by omega) (by omega) (by omega)), hc, fun k hk => by rw [agt_e (hv.1 96 (by omega) (by omega) (by omega))]; exact r10 k hk, ⟨by rw [hv.2 3 (by omega)]; exact r11.1, fun i hi k hk => by rw [agt_e (hv.1 98 (by omega) (by omega) (by omega))]; exact r11.2 i hi k hk⟩, hv.mt r12, ?_⟩
  unfold CN
  rw [agt_e (hu 77 (by omega) (by omega) (by omega)), agt_e (hu 77 (by omega) (by omega) (by omega)), agt_e (hu 77 (by omega) (by omega) (by omega)), agt_e (hv.1 99 (by omega) (by omega) (by omega)), agt_e (hv.1 99 (by omega) (by omega) (by omega)), agt_e (hv.1 99 (by omega) (by omega) (by omega))]
  exact r13
theorem m_rest_loop {x : Int32} : ∀ f j v, j ≤ 83 → 83 < f + j → ∃ v', f_X7_does_39 N 95 f x (nI j) v = some ((-1000) - x, v') ∧ (∀ k, j ≤ k → k < 83 → agt v' 96 k = agt v 97 k) ∧ (∀ k, k < j → agt v' 96 k = agt v 96 k) ∧ ∀ a, a ≠ 96 → v'.1 a = v.1 a := by
  intro f
  induction f with
  | zero => intro j v h1 h2; omega
  | succ f ih =>
    intro j v h1 h2
    by_cases hj : 83 ≤ j
    · refine ⟨v, ?_, fun k h3 h4 => by omega, fun k _ => rfl, fun a _ => rfl⟩
      simp (disch := omega) only [f_X7_does_39, lit, nLE, hj, if_true]
    · obtain ⟨v', e1, e2, e3, e4⟩ := ih (j + 1) (apt v 96 j (agt v 97 j)) (by omega) (by omega)
      refine ⟨v', ?_, fun k h3 h4 => ?_, fun k hk => ?_, fun a ha => (e4 a ha).trans (apt_ne ha)⟩
      · simp (disch := omega) only [f_X7_does_39, lit, nLE, hj, if_false, ar95_0, ar95_1, al96, al97, chk_in, nCl, lte_s, nI_add]
        exact e1
      · by_cases q : k = j
        · subst q
          rw [e3 k (by omega), agt_pt_s]
        · rw [e2 k (by omega) h4, agt_pt_o (by omega)]
      · rw [e3 k (by omega), agt_pt_k (by omega)]
theorem CQ.kept {u u' : ASt} {o : Nat} {LT NU : Nat → Nat} (h : CQ u n tx o LT NU) (e1 : u'.1 91 = u.1 91) (e2 : u'.1 92 = u.1 92) (e3 : u'.1 93 = u.1 93) (e4 : u'.1 94 = u.1 94) : CQ u' n tx o LT NU :=
  ⟨⟨by rw [agt_e e1]; exact h.1.1, fun j hj => by rw [agt_e e2]; exact h.1.2 j hj⟩, by rw [agt_e e1]; exact h.2.1, fun j hj => by rw [agt_e e3]; exact h.2.2.1 j hj, fun j hj => by rw [agt_e e4]; exact h.2.2.2 j hj⟩
theorem MQt.fr {v v' : ASt} {o : Nat} {LT NU : Nat → Nat} (h : MQt v n tx o LT NU) (e6 : agt v' 95 6 = agt v 95 6) (e : v'.1 100 = v.1 100) (f : Fr v v') : MQt v' n tx o LT NU :=
  ⟨⟨by rw [e6]; exact h.1.1, fun j hj => by rw [agt_e e]; exact h.1.2 j hj⟩, by rw [f.2.2 15 (by omega)]; exact h.2.1, fun j hj => by rw [agt_e f.1]; exact h.2.2.1 j hj, fun j hj k hk => by rw [agt_e f.2.1]; exact h.2.2.2 j hj k hk⟩
theorem d_loop (hN : 1000 ≤ N) {u0 v0 : ASt} {β0 : Nat → Nat} {m mp : Nat} {hs : Nat → Nat → Nat} {o : Nat} {LT NU : Nat → Nat} (R : Rl u0 v0 β0 m mp hs n tx) (ho : o ≤ 60) (hl : ∀ j, j < o → isL (LT j)) (hq : CQ u0 n tx o LT NU) (hm : MQt v0 n tx o LT NU) : ∀ d i fu fv β u v, o = i + d → o < fu + i → o < fv + i → WB β → CB u 0 β → CB u (1 + mp) β0 → (∀ a, 11 ≤ a → ¬ (78 ≤ a ∧ a ≤ 88) → (a < 11 * (1 + mp) ∨ 11 * (1 + mp) + 11 ≤ a) → u.1 a = u0.1 a) → MB v β → (∀ k, k < 83 → agt v 97 k = nI (β0 k)) → (∀ a, 98 ≤ a → a ≤ 100 → v.1 a = v0.1 a) → agt v 95 3 = agt v0 95 3 → agt v 95 6 = agt v0 95 6 → Fr v0 v → ∃ r u' v', f_X6_does_31 N 77 fu (nI i) u = some (r, u') ∧ f_X7_does_21 N 95 fv (nI i) v = some (r, v') ∧ Rel u' v' := by
  have R' := R
  obtain ⟨r1, r2, r3, r4, r5, r6, r7, r8, r9, r10, r11, r12, r13⟩ := R
  intro d
  induction d with
  | zero =>
    intro i fu fv β u v hi hfu hfv hw c0 cm ck mb ma mk m3 m6 fr
    obtain ⟨fu, rfl⟩ : ∃ z, fu = z + 1 := ⟨fu - 1, by omega⟩
    obtain ⟨fv, rfl⟩ : ∃ z, fv = z + 1 := ⟨fv - 1, by omega⟩
    have hi' : o = i := by omega
    subst hi'
    have q := hq.kept (u' := u) (ck 91 (by omega) (by omega) (by omega)) (ck 92 (by omega) (by omega) (by omega)) (ck 93 (by omega) (by omega) (by omega)) (ck 94 (by omega) (by omega) (by omega))
    have qm := hm.fr (v' := v) m6 (mk 100 (by omega) (by omega)) fr
    obtain ⟨u3, v3, e1, e2, e3⟩ := leave_sim (N := N) hN R' hw c0 cm ck mb ma mk m3 m6
    have e89 : u.1 89 = u0.1 89 := ck 89 (by omega) (by omega) (by omega)
    have K := k_keep (N := N) (u := u) r3 r4 (by rw [agt_e e89]; exact r8.1) (by rw [agt_e e89]; exact r8.2.1)
    rw [e1] at K
    have hu3 := congrArg Prod.snd (Option.some.inj K)
    have z4 : agt u3 91 4 = nI o := by
      rw [show u3 = _ from hu3, agt_pt_o (by omega), agt_pt_o (by omega)]; exact q.2.1
    obtain ⟨v3', g1, g2, g3, g4, g5⟩ := m_leaves (N := N) hN r3 (v := v) (by rw [m3]; exact r11.1)
    rw [e2] at g1
    have hv3 : v3 = v3' := congrArg Prod.snd (Option.some.inj g1)
    have z15 : agt v3 95 15 = nI o := by rw [hv3, g5 15 (by omega)]; exact qm.2.1
    refine ⟨nI o, u3, v3, ?_, ?_, e3⟩
    · rw [f_X6_does_31, ar77_4, ar77_3, q.2.1, if_pos (Int32.le_refl _), e1, bnd_s, z4]
    · rw [f_X7_does_21, qm.2.1, if_pos (Int32.le_refl _), e2, bnd_s, z15]
  | succ d ih =>
    intro i fu fv β u v hi hfu hfv hw c0 cm ck mb ma mk m3 m6 fr
    obtain ⟨fu, rfl⟩ : ∃ z, fu = z + 1 := ⟨fu - 1, by omega⟩
    obtain ⟨fv, rfl⟩ : ∃ z, fv = z + 1 := ⟨fv - 1, by omega⟩
    have hio : i < o := by omega
    have hio' : ¬ o ≤ i := by omega
    have q := hq.kept (u' := u) (ck 91 (by omega) (by omega) (by omega)) (ck 92 (by omega) (by omega) (by omega)) (ck 93 (by omega) (by omega) (by omega)) (ck 94 (by omega) (by omega) (by omega))
    have qm := hm.fr (v' := v) m6 (mk 100 (by omega) (by omega)) fr
    obtain ⟨gc, gm, h1, h2, h3, h4⟩ := ord_op (n := n) (tx := tx) (NU := NU) hN ho hio (hl i hio)
    obtain ⟨r, β', o1, o2, o3, o4⟩ := h1 β hw
    obtain ⟨u2, a1, a2, a3⟩ := o2 u c0
    obtain ⟨v2, b1, b2, b3⟩ := o3 v mb
    have f2 := h4 _ Fr.st v fr _ _ b1
    have ck2 : ∀ a, 11 ≤ a → ¬ (78 ≤ a ∧ a ≤ 88) → (a < 11 * (1 + mp) ∨ 11 * (1 + mp) + 11 ≤ a) → u2.1 a = u0.1 a := fun a g1 g2 g3 => (a3 a g1 g2).trans (ck a g1 g2 g3)
    have cm2 : CB u2 (1 + mp) β0 := cm.kept r1.1 (fun a g1 g2 => a3 a (by omega) (by omega))
    have ma2 : ∀ k, k < 83 → agt v2 97 k = nI (β0 k) := fun k hk => by rw [agt_e (b3.1 97 (by omega) (by omega))]; exact ma k hk
    have mk2 : ∀ a, 98 ≤ a → a ≤ 100 → v2.1 a = v0.1 a := fun a g1 g2 => (b3.1 a (by omega) g2).trans (mk a g1 g2)
    have m32 := b3.2.1.trans m3
    have m62 := b3.2.2.trans m6
    have A : f_X6_does_31 N 77 (fu + 1) (nI i) u = if 0 ≤ r then f_X6_does_31 N 77 fu (nI (i + 1)) u2 else bnd (f_X2_returnToMark N 89 0 u2) fun _ w => some ((-1000) - nI i, w) := by
      have a1' := (h2 u q).trans a1
      rw [show 3 * i = i * 3 from Nat.mul_comm _ _] at a1'
      simp (disch := omega) only [f_X6_does_31, lit, ar77_4, ar77_3, ar77_0, q.2.1, nLE, hio', if_false, ar91_2, al93, chk_in, nCl, q.2.2.1 i hio, pk_mul, a1', bnd_s, nI_add]
      rfl
    have B : f_X7_does_21 N 95 (fv + 1) (nI i) v = if 0 ≤ r then f_X7_does_21 N 95 fv (nI (i + 1)) v2 else f_X7_does_39 N 95 N (nI i) 0 v2 := by
      have b1' := (h3 v qm).trans b1
      simp (disch := omega) only [f_X7_does_21, lit, qm.2.1, nLE, hio', if_false, b1', bnd_s, nI_add]
      rfl
    rw [A, B]
    rcases o4 with hr | ⟨hr, hb⟩
    · rw [if_pos hr, if_pos hr]
      exact ih (i + 1) fu fv β' u2 v2 (by omega) (by omega) (by omega) o1 a2 cm2 ck2 b2 ma2 mk2 m32 m62 f2
    · have hr0 : ¬ 0 ≤ r := by rcases hr with rfl | rfl <;> decide
      rw [if_neg hr0, if_neg hr0]
      obtain ⟨u4, e1, e2, e3⟩ := k_copy (N := N) (b0 := 0) (b1 := 1 + mp) (u := u2) (by omega) (by omega) (by omega) (by omega) r1 cm2
      obtain ⟨v4, g1, g2, g3, g4⟩ := m_rest_loop (N := N) (x := nI i) N 0 v2 (by omega) (by omega)
      have k1 : agt u2 89 1 = nI mp := by rw [agt_e (ck2 89 (by omega) (by omega) (by omega))]; exact r8.2.1
      rw [Nat.mul_zero] at e1
      refine ⟨(-1000) - nI i, u4, v4, ?_, g1, β0, m, mp, hs, n, tx, Rl_marked R' e2 (fun a z1 z2 z3 => (e3 a (by omega)).trans (ck2 a z1 z2 z3)) (fun k hk => (g2 k (by omega) hk).trans (ma2 k hk)) (fun a z1 z2 => (g4 a (by omega)).trans (mk2 a z1 z2)) ((agt_e (g4 95 (by omega)) 3).trans m32) ((agt_e (g4 95 (by omega)) 6).trans m62)⟩
      simp (disch := omega) only [f_X2_returnToMark, k1, ar89_0, al90, chk_in, nCl, ar_90, e1, bnd_s]
theorem sim_does (hN : 1000 ≤ N) : Sm (f_X6_does N 77) (f_X7_does N 95) := by
  intro u v h
  obtain ⟨β, m, mp, hs, n, tx, R⟩ := h
  obtain ⟨mr, v1, e1, e2, e3⟩ := n_parse hN R.2.2.2.2.1 R.2.2.2.2.2.1 R.2.2.2.2.2.2.2.2.1 R.2.2.2.2.2.2.2.2.2.2.2.1
  rcases e3 with ⟨q1, p, q2, q3, u1, q4, q5, q6⟩ | ⟨q1, o, LT, NU, u1, q2, q3, q4, q5, q6, q7, q8⟩
  · have hp : p < 2147483648 := by have := R.2.2.2.2.1; omega
    refine ⟨(-10) - nI p, u1, v1, ?_, ?_, β, m, mp, hs, n, tx, Rl_parse R q5 q6 e2⟩
    · unfold f_X6_does
      rw [ar77_4, q4, bnd_s, if_neg (nI_nm hp)]
    · unfold f_X7_does
      rw [e1, bnd_s, q1, if_pos (show nI 0 = (0 : Int32) from rfl), q3]
  · have R1 := Rl_parse R q6 q7.1 e2
    have R1' := R1
    obtain ⟨r1, r2, r3, r4, r5, r6, r7, r8, r9, r10, r11, r12, r13⟩ := R1'
    obtain ⟨u2, a1, a2, a3⟩ := k_mark (N := N) hN r1 r7 r4 r8.2.1
    obtain ⟨v2, b1, b2, b3⟩ := m_aside (N := N) hN (v := v1)
    obtain ⟨r, u', v', g1, g2, g3⟩ := d_loop hN R1 q3 q4 q7 q8 o 0 N N β u2 v2 (by omega) (by omega) (by omega) r1 (r7.kept r1.1 (fun a h1 h2 => a3 a (by omega))) a2 (fun a _ _ h3 => a3 a h3) (fun k hk => by rw [agt_e (b3 96 (by omega))]; exact r10 k hk) (fun k hk => by rw [b2 k hk]; exact r10 k hk) (fun a h1 h2 => b3 a (by omega)) (agt_e (b3 95 (by omega)) 3) (agt_e (b3 95 (by omega)) 6) ⟨b3 105 (by omega), b3 106 (by omega), fun k _ => agt_e (b3 95 (by omega)) k⟩
    refine ⟨r, u', v', ?_, ?_, g3⟩
    · unfold f_X6_does
      rw [ar77_4, q5, bnd_s, if_pos rfl, ar77_3, ar77_0, a1, bnd_s]
      exact g1
    · unfold f_X7_does
      rw [e1, bnd_s, q1, if_neg (show ¬ nI 1 = (0 : Int32) by decide), b1, bnd_s]
      exact g2
end DOES
