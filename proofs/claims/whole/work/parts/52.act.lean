/-! calls that are acts -/
section ACT
variable {N : Nat} {u v : ASt} {β : Nat → Nat} {m mp : Nat} {hs : Nat → Nat → Nat} {n : Nat} {tx : Nat → Nat}
theorem Rl_cnt {k i : Nat} (h : Rl u v β m mp hs n tx) (hk : (k = 5 ∧ i = 0) ∨ (k = 6 ∧ i = 1) ∨ (k = 7 ∧ i = 2)) : Rl (apt u 77 k (agt u 77 k + 1)) (apt v 99 i (agt v 99 i + 1)) β m mp hs n tx := by
  obtain ⟨r1, r2, r3, r4, r5, r6, r7, r8, r9, r10, r11, r12, r13⟩ := h
  refine ⟨r1, r2, r3, r4, r5, r6, r7.kept r1.1 (fun a h1 h2 => apt_ne (by omega)), r8.kept r2 (apt_ne (by omega)) (fun a h1 h2 => apt_ne (by omega)), ⟨by rw [agt_pt_o (by omega)]; exact r9.1, fun j hj => by rw [agt_pt_o (by omega)]; exact r9.2 j hj⟩, fun k hk => by rw [agt_pt_o (by omega)]; exact r10 k hk, ⟨by rw [agt_pt_o (by omega)]; exact r11.1, fun i hi k hk => by rw [agt_pt_o (by omega)]; exact r11.2 i hi k hk⟩, ⟨by rw [agt_pt_o (by omega)]; exact r12.1, fun j hj => by rw [agt_pt_o (by omega)]; exact r12.2 j hj⟩, ?_⟩
  obtain ⟨c1, c2, c3⟩ := r13
  rcases hk with ⟨rfl, rfl⟩ | ⟨rfl, rfl⟩ | ⟨rfl, rfl⟩
  · exact ⟨by rw [agt_pt_s, agt_pt_s, c1], by rw [agt_pt_k (by omega), agt_pt_k (by omega)]; exact c2, by rw [agt_pt_k (by omega), agt_pt_k (by omega)]; exact c3⟩
  · exact ⟨by rw [agt_pt_k (by omega), agt_pt_k (by omega)]; exact c1, by rw [agt_pt_s, agt_pt_s, c2], by rw [agt_pt_k (by omega), agt_pt_k (by omega)]; exact c3⟩
  · exact ⟨by rw [agt_pt_k (by omega), agt_pt_k (by omega)]; exact c1, by rw [agt_pt_k (by omega), agt_pt_k (by omega)]; exact c2, by rw [agt_pt_s, agt_pt_s, c3]⟩
theorem m_bad : f_X7_bad N 95 v = some (-2, apt v 99 0 (agt v 99 0 + 1)) := by
  unfold f_X7_bad
  rw [ar95_4, al99, cl0, chk_t (by decide), chk_t (by decide), lte_s]
theorem m_no : f_X7_no N 95 v = some (-3, apt v 99 1 (agt v 99 1 + 1)) := by
  unfold f_X7_no
  rw [ar95_4, al99, show Int32.toNatClampNeg 1 = 1 from rfl, chk_t (by decide), chk_t (by decide), lte_s]
theorem m_full : f_X7_full N 95 v = some (-4, apt v 99 2 (agt v 99 2 + 1)) := by
  unfold f_X7_full
  rw [ar95_4, al99, show Int32.toNatClampNeg 2 = 2 from rfl, chk_t (by decide), chk_t (by decide), lte_s]
theorem k_cbad : f_X6_counted N 77 (-2) u = some (-2, apt u 77 5 (agt u 77 5 + 1)) := by
  unfold f_X6_counted f_X6_counted_54
  rw [if_pos rfl, lte_s]
theorem k_cno : f_X6_counted N 77 (-3) u = some (-3, apt u 77 6 (agt u 77 6 + 1)) := by
  unfold f_X6_counted f_X6_counted_54
  rw [if_neg (by decide), if_pos rfl, lte_s]
theorem k_cfull : f_X6_counted N 77 (-4) u = some (-4, apt u 77 7 (agt u 77 7 + 1)) := by
  unfold f_X6_counted f_X6_counted_54
  rw [if_neg (by decide), if_neg (by decide), if_pos rfl, lte_s]
theorem k_cpos {r : Int32} (h : 0 ≤ r) : f_X6_counted N 77 r u = some (r, u) := by
  unfold f_X6_counted f_X6_counted_54
  rw [if_neg (fun e => by subst e; exact absurd h (by decide)), if_neg (fun e => by subst e; exact absurd h (by decide)), if_neg (fun e => by subst e; exact absurd h (by decide))]
theorem k_mark (hN : 1000 ≤ N) (hw : WB β) (hC : CB u 0 β) (hmp : mp < 6) (h1 : agt u 89 1 = nI mp) : ∃ u', f_X2_mark N 89 0 u = some ((), u') ∧ CB u' (1 + mp) β ∧ ∀ a, (a < 11 * (1 + mp) ∨ 11 * (1 + mp) + 11 ≤ a) → u'.1 a = u.1 a := by
  obtain ⟨u', e1, e2, e3⟩ := k_copy (N := N) (b0 := 1 + mp) (b1 := 0) (u := u) (by omega) (by omega) (by omega) (by omega) hw hC
  refine ⟨u', ?_, e2, e3⟩
  rw [Nat.mul_zero] at e1
  simp (disch := omega) only [f_X2_mark, h1, ar89_0, al90, chk_in, nCl, ar_90, e1, bnd_s]
/-- the state that an act leaves -/
def hsP (m : Nat) (hs : Nat → Nat → Nat) (β : Nat → Nat) : Nat → Nat → Nat := fun i => if m = 5 then (if i < 4 then hs (i + 1) else β) else (if i = m then β else hs i)
theorem k_keep {m mp : Nat} (hm : m ≤ 5) (hmp : mp < 6) (h2 : agt u 89 2 = nI m) (h1 : agt u 89 1 = nI mp) : f_X2_keepMark N 89 u = some ((), apt (apt u 89 1 (nI ((mp + 1) % 6))) 89 2 (nI (if m = 5 then 5 else m + 1))) := by
  have e1 : nI (mp + 1) - nI (mp + 1) / nI 6 * nI 6 = nI ((mp + 1) % 6) := nRem (by omega) (by omega) (by omega)
  have e2 : agt (apt u 89 1 (nI ((mp + 1) % 6))) 89 2 = nI m := by rw [agt_pt_k (by omega)]; exact h2
  simp (disch := omega) only [f_X2_keepMark, lit, h1, nI_add, e1, lte_s, e2, nLT]
  by_cases q : m = 5
  · rw [if_pos (by omega), if_pos q]
  · rw [if_neg (by omega), if_neg q]
/-- both leave a state: the marked board on one side, what lies aside on the other -/
theorem leave_sim (hN : 1000 ≤ N) {u v u2 v2 : ASt} {β β' : Nat → Nat} (h : Rl u v β m mp hs n tx) (hw' : WB β') (c0 : CB u2 0 β') (cm : CB u2 (1 + mp) β) (ck : ∀ a, 11 ≤ a → ¬ (78 ≤ a ∧ a ≤ 88) → (a < 11 * (1 + mp) ∨ 11 * (1 + mp) + 11 ≤ a) → u2.1 a = u.1 a) (mb : MB v2 β') (ma : ∀ k, k < 83 → agt v2 97 k = nI (β k)) (mk : ∀ a, 98 ≤ a → a ≤ 100 → v2.1 a = v.1 a) (m3 : agt v2 95 3 = agt v 95 3) (m6 : agt v2 95 6 = agt v 95 6) : ∃ u3 v3, f_X2_keepMark N 89 u2 = some ((), u3) ∧ f_X7_leaves N 95 v2 = some ((), v3) ∧ Rel u3 v3 := by
  obtain ⟨r1, r2, r3, r4, r5, r6, r7, r8, r9, r10, r11, r12, r13⟩ := h
  have e89 : u2.1 89 = u.1 89 := ck 89 (by omega) (by omega) (by omega)
  have k1 : agt u2 89 1 = nI mp := by rw [agt_e e89]; exact r8.2.1
  have k2 : agt u2 89 2 = nI m := by rw [agt_e e89]; exact r8.1
  obtain ⟨v3, l1, l2, l3, l4, l5⟩ := m_leaves (N := N) hN r3 (v := v2) (by rw [m3]; exact r11.1)
  refine ⟨_, v3, k_keep r3 r4 k2 k1, l1, β', (if m = 5 then 5 else m + 1), (mp + 1) % 6, hsP m hs β, n, tx, hw', fun i hi => ?_, by split <;> omega, by omega, r5, r6, c0.kept hw'.1 (fun a h1 h2 => by rw [apt_ne (by omega), apt_ne (by omega)]), ⟨agt_pt_s _ _ _ _, by rw [agt_pt_k (by omega), agt_pt_s], fun i hi => ?_⟩, ⟨?_, fun j hj => ?_⟩, fun k hk => ?_, ⟨l2, fun i hi k hk => ?_⟩, ⟨?_, fun j hj => ?_⟩, ?_⟩
  · unfold hsP
    by_cases q : m = 5
    · rw [if_pos q] at hi ⊢
      split
      · exact r2 _ (by omega)
      · exact r1
    · rw [if_neg q] at hi ⊢
      split
      · exact r1
      · exact r2 i (by omega)
  · have kp : ∀ b x, b < 7 → WB x → CB u2 b x → CB (apt (apt u2 89 1 (nI ((mp + 1) % 6))) 89 2 (nI (if m = 5 then 5 else m + 1))) b x := fun b x hb hx hc => hc.kept hx.1 (fun a h1 h2 => by rw [apt_ne (by omega), apt_ne (by omega)])
    have old : ∀ j, j < m → (mp + 6 - m + j) % 6 ≠ mp → CB u2 (1 + (mp + 6 - m + j) % 6) (hs j) := fun j hj hne => (r8.2.2 j hj).kept (r2 j hj).1 (fun a h1 h2 => ck a (by omega) (by omega) (by omega))
    unfold hsP
    by_cases q : m = 5
    · simp only [if_pos q] at hi ⊢
      subst q
      by_cases q2 : i < 4
      · rw [if_pos q2]
        have := old (i + 1) (by omega) (by omega)
        rw [show ((mp + 1) % 6 + 6 - 5 + i) % 6 = (mp + 6 - 5 + (i + 1)) % 6 by omega]
        exact kp _ _ (by omega) (r2 _ (by omega)) this
      · rw [if_neg q2, show ((mp + 1) % 6 + 6 - 5 + i) % 6 = mp by omega]
        exact kp _ _ (by omega) r1 cm
    · simp only [if_neg q] at hi ⊢
      by_cases q2 : i = m
      · rw [if_pos q2, show ((mp + 1) % 6 + 6 - (m + 1) + i) % 6 = mp by omega]
        have := kp _ _ (by omega) r1 cm
        simp only [if_neg q] at this
        exact this
      · rw [if_neg q2, show ((mp + 1) % 6 + 6 - (m + 1) + i) % 6 = (mp + 6 - m + i) % 6 by omega]
        have := kp _ _ (by omega) (r2 i (by omega)) (old i (by omega) (by omega))
        simp only [if_neg q] at this
        exact this
  · rw [agt_pt_o (by omega), agt_pt_o (by omega), agt_e (ck 91 (by omega) (by omega) (by omega))]; exact r9.1
  · rw [agt_pt_o (by omega), agt_pt_o (by omega), agt_e (ck 92 (by omega) (by omega) (by omega))]; exact r9.2 j hj
  · rw [agt_e (l4 96 (by omega) (by omega))]; exact mb k hk
  · have eo : ∀ j, j < m → ∀ k, k < 83 → agt v2 98 (83 * j + k) = nI (hs j k) := fun j hj k hk => by rw [agt_e (mk 98 (by omega) (by omega))]; exact r11.2 j hj k hk
    unfold hsP
    by_cases q : m = 5
    · simp only [if_pos q] at hi ⊢
      subst q
      rw [l3 _ (by omega), if_pos rfl]
      by_cases q2 : i < 4
      · rw [if_pos (by omega), if_pos q2, show 83 * i + k + 83 = 83 * (i + 1) + k by omega]
        exact eo (i + 1) (by omega) k hk
      · rw [if_neg (by omega), if_neg q2, show 83 * i + k - 332 = k by omega]
        exact ma k hk
    · simp only [if_neg q] at hi ⊢
      rw [l3 _ (by omega), if_neg q]
      by_cases q2 : i = m
      · subst q2
        rw [if_pos (by omega), if_pos rfl, show 83 * i + k - 83 * i = k by omega]
        exact ma k hk
      · rw [if_neg (by omega), if_neg q2]
        exact eo i (by omega) k hk
  · rw [l5 6 (by omega), m6]; exact r12.1
  · rw [agt_e (l4 100 (by omega) (by omega)), agt_e (mk 100 (by omega) (by omega))]; exact r12.2 j hj
  · unfold CN
    rw [agt_pt_o (by omega), agt_pt_o (by omega), agt_pt_o (by omega), agt_pt_o (by omega), agt_pt_o (by omega), agt_pt_o (by omega), agt_e (ck 77 (by omega) (by omega) (by omega)), agt_e (ck 77 (by omega) (by omega) (by omega)), agt_e (ck 77 (by omega) (by omega) (by omega)), agt_e (l4 99 (by omega) (by omega)), agt_e (l4 99 (by omega) (by omega)), agt_e (l4 99 (by omega) (by omega)), agt_e (mk 99 (by omega) (by omega)), agt_e (mk 99 (by omega) (by omega)), agt_e (mk 99 (by omega) (by omega))]
    exact r13
/-- a state with the mark set and the row aside: still related -/
theorem Rl_marked {u2 v2 : ASt} (h : Rl u v β m mp hs n tx) (c0 : CB u2 0 β) (ck : ∀ a, 11 ≤ a → ¬ (78 ≤ a ∧ a ≤ 88) → (a < 11 * (1 + mp) ∨ 11 * (1 + mp) + 11 ≤ a) → u2.1 a = u.1 a) (mb : MB v2 β) (mk : ∀ a, 98 ≤ a → a ≤ 100 → v2.1 a = v.1 a) (m3 : agt v2 95 3 = agt v 95 3) (m6 : agt v2 95 6 = agt v 95 6) : Rl u2 v2 β m mp hs n tx := by
  obtain ⟨r1, r2, r3, r4, r5, r6, r7, r8, r9, r10, r11, r12, r13⟩ := h
  have e89 : u2.1 89 = u.1 89 := ck 89 (by omega) (by omega) (by omega)
  refine ⟨r1, r2, r3, r4, r5, r6, c0, ⟨by rw [agt_e e89]; exact r8.1, by rw [agt_e e89]; exact r8.2.1, fun i hi => (r8.2.2 i hi).kept (r2 i hi).1 (fun a h1 h2 => ck a (by omega) (by omega) (by omega))⟩, ⟨by rw [agt_e (ck 91 (by omega) (by omega) (by omega))]; exact r9.1, fun j hj => by rw [agt_e (ck 92 (by omega) (by omega) (by omega))]; exact r9.2 j hj⟩, mb, ⟨by rw [m3]; exact r11.1, fun i hi k hk => by rw [agt_e (mk 98 (by omega) (by omega))]; exact r11.2 i hi k hk⟩, ⟨by rw [m6]; exact r12.1, fun j hj => by rw [agt_e (mk 100 (by omega) (by omega))]; exact r12.2 j hj⟩, ?_⟩
  unfold CN
  rw [agt_e (ck 77 (by omega) (by omega) (by omega)), agt_e (ck 77 (by omega) (by omega) (by omega)), agt_e (ck 77 (by omega) (by omega) (by omega)), agt_e (mk 99 (by omega) (by omega)), agt_e (mk 99 (by omega) (by omega)), agt_e (mk 99 (by omega) (by omega))]
  exact r13
/-- an act, on both sides -/
theorem act_sim (hN : 1000 ≤ N) (h : Rel u v) {gc gm : ASt → Option (Int32 × ASt)} (hop : ∀ β, WB β → Op gc gm β) : ∃ r u' v', (bnd (f_X2_mark N 89 0 u) fun _ u1 => bnd (gc u1) fun r u2 => bnd (f_X6_actEnded N 77 r u2) fun r u3 => some (r, u3)) = some (r, u') ∧ (bnd (f_X7_laysAside N 95 v) fun _ v1 => bnd (gm v1) fun r v2 => bnd (f_X7_ends N 95 r v2) fun r v3 => some (r, v3)) = some (r, v') ∧ Rel u' v' := by
  obtain ⟨β, m, mp, hs, n, tx, R⟩ := h
  have R' := R
  obtain ⟨r1, r2, r3, r4, r5, r6, r7, r8, r9, r10, r11, r12, r13⟩ := R
  obtain ⟨u1, a1, a2, a3⟩ := k_mark (N := N) hN r1 r7 r4 r8.2.1
  obtain ⟨v1, b1, b2, b3⟩ := m_aside (N := N) hN (v := v)
  obtain ⟨r, β', o1, o2, o3, o4⟩ := hop β r1
  obtain ⟨u2, c1, c2, c3⟩ := o2 u1 (r7.kept r1.1 (fun a h1 h2 => a3 a (by omega)))
  obtain ⟨v2, d1, d2, d3⟩ := o3 v1 (fun k hk => by rw [agt_e (b3 96 (by omega))]; exact r10 k hk)
  have ck : ∀ a, 11 ≤ a → ¬ (78 ≤ a ∧ a ≤ 88) → (a < 11 * (1 + mp) ∨ 11 * (1 + mp) + 11 ≤ a) → u2.1 a = u.1 a := fun a h1 h2 h3 => (c3 a h1 h2).trans (a3 a h3)
  have cm : CB u2 (1 + mp) β := a2.kept r1.1 (fun a h1 h2 => c3 a (by omega) (by omega))
  have mk : ∀ a, 98 ≤ a → a ≤ 100 → v2.1 a = v.1 a := fun a h1 h2 => (d3.1 a (by omega) h2).trans (b3 a (by omega))
  have m3 : agt v2 95 3 = agt v 95 3 := d3.2.1.trans (agt_e (b3 95 (by omega)) 3)
  have m6 : agt v2 95 6 = agt v 95 6 := d3.2.2.trans (agt_e (b3 95 (by omega)) 6)
  have ma : ∀ k, k < 83 → agt v2 97 k = nI (β k) := fun k hk => by rw [agt_e (d3.1 97 (by omega) (by omega)), b2 k hk]; exact r10 k hk
  rw [a1, b1, bnd_s, bnd_s, c1, d1, bnd_s, bnd_s]
  rcases o4 with hr | ⟨hr, hb⟩
  · obtain ⟨u3, v3, e1, e2, e3⟩ := leave_sim (N := N) hN R' o1 c2 cm ck d2 ma mk m3 m6
    refine ⟨r, u3, v3, ?_, ?_, e3⟩
    · unfold f_X6_actEnded f_X6_actEnded_11
      rw [if_neg (Int32.not_lt.mpr hr), ar77_3, e1, bnd_s, k_cpos hr]
      rfl
    · unfold f_X7_ends
      rw [if_neg (Int32.not_lt.mpr hr), e2]
      rfl
  · subst hb
    have R2 := Rl_marked R' c2 ck d2 mk m3 m6
    rcases hr with hr | hr
    · subst hr
      refine ⟨-2, _, _, ?_, ?_, _, _, _, _, _, _, Rl_cnt R2 (Or.inl ⟨rfl, rfl⟩)⟩
      · unfold f_X6_actEnded f_X6_actEnded_11
        rw [if_pos (by decide), k_cbad]
        rfl
      · unfold f_X7_ends
        rw [if_pos (by decide), if_neg (by decide), m_bad]
        rfl
    · subst hr
      refine ⟨-4, _, _, ?_, ?_, _, _, _, _, _, _, Rl_cnt R2 (Or.inr (Or.inr ⟨rfl, rfl⟩))⟩
      · unfold f_X6_actEnded f_X6_actEnded_11
        rw [if_pos (by decide), k_cfull]
        rfl
      · unfold f_X7_ends
        rw [if_pos (by decide), if_pos rfl, m_full]
        rfl
end ACT
