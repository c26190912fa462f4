/-! the start of the law -/
theorem tw_aoX1 : Cond.arrayOver (.object "ChipRing$Chip") ∈ lw_tbl := List.mem_of_getElem? (i := 124) (by decide +kernel)
theorem tw_X0_21 : Cond.methodLinkNest RX0 21 yX1_init RX6 ∈ lw_tbl := List.mem_of_getElem? (i := 126) (by decide +kernel)
theorem tw_aoX0 : Cond.arrayOver (.object "ChipRing$Board") ∈ lw_tbl := List.mem_of_getElem? (i := 282) (by decide +kernel)
theorem tw_X6_41 : Cond.methodLinkNest RX6 41 yX5_init RX6 ∈ lw_tbl := List.mem_of_getElem? (i := 297) (by decide +kernel)
theorem tw_X0_59 : Cond.methodLinkNest RX0 59 yX6_isBit RX6 ∈ lw_tbl := List.mem_of_getElem? (i := 418) (by decide +kernel)
theorem tw_X0_62 : Cond.methodLinkNest RX0 62 yX6_isNet RX6 ∈ lw_tbl := List.mem_of_getElem? (i := 421) (by decide +kernel)
theorem tw_X0_73 : Cond.methodLinkNest RX0 73 yX6_faultCode RX6 ∈ lw_tbl := List.mem_of_getElem? (i := 440) (by decide +kernel)
theorem tw_X3_61 : Cond.methodLinkNest RX3 61 yX6_kindOf RX6 ∈ lw_tbl := List.mem_of_getElem? (i := 504) (by decide +kernel)
theorem tw_X3_65 : Cond.methodLinkNest RX3 65 yX6_tensOf RX6 ∈ lw_tbl := List.mem_of_getElem? (i := 507) (by decide +kernel)
theorem tw_X3_68 : Cond.methodLinkNest RX3 68 yX6_onesOf RX6 ∈ lw_tbl := List.mem_of_getElem? (i := 510) (by decide +kernel)
theorem tw_X3_95 : Cond.methodLinkNest RX3 95 yX6_isMember RX6 ∈ lw_tbl := List.mem_of_getElem? (i := 521) (by decide +kernel)
theorem tw_X1_49 : Cond.methodLinkNest RX1 49 yX6_isMember RX6 ∈ lw_tbl := List.mem_of_getElem? (i := 544) (by decide +kernel)
theorem tw_fn : Cond.fieldLinkNest RX0 111 RX6 "NEXT_STATE" "[I" RX6 ∈ lw_tbl := List.mem_of_getElem? (i := 587) (by decide +kernel)
theorem tw_st : Cond.laysStatic "ChipRing" "NEXT_STATE" "[I" ∈ lw_tbl := List.mem_of_getElem? (i := 588) (by decide +kernel)
theorem tw_X4_121 : Cond.methodLinkNest RX4 121 yX6_faultCode RX6 ∈ lw_tbl := List.mem_of_getElem? (i := 749) (by decide +kernel)
theorem tw_X4_124 : Cond.methodLinkNest RX4 124 yX6_isMember RX6 ∈ lw_tbl := List.mem_of_getElem? (i := 754) (by decide +kernel)
theorem tw_nest : ∀ q ∈ anest, Cond.methodLinkNest q.1 q.2.1 q.2.2 RX6 ∈ lw_tbl := by
  intro q hq
  unfold anest at hq
  rcases List.mem_cons.mp hq with rfl | hq
  · exact tw_X0_59
  rcases List.mem_cons.mp hq with rfl | hq
  · exact tw_X0_62
  rcases List.mem_cons.mp hq with rfl | hq
  · exact tw_X0_73
  rcases List.mem_cons.mp hq with rfl | hq
  · exact tw_X3_61
  rcases List.mem_cons.mp hq with rfl | hq
  · exact tw_X3_65
  rcases List.mem_cons.mp hq with rfl | hq
  · exact tw_X3_68
  rcases List.mem_cons.mp hq with rfl | hq
  · exact tw_X3_95
  rcases List.mem_cons.mp hq with rfl | hq
  · exact tw_X1_49
  rcases List.mem_cons.mp hq with rfl | hq
  · exact tw_X4_121
  rcases List.mem_cons.mp hq with rfl | hq
  · exact tw_X4_124
  cases hq
theorem start_tables {s : State} {args : Array Value} (hts : ∀ w ∈ lw_tbl, w.before args s = true) : ∃ (D : va_G) (k4 : ClassId × ClassId × ClassId × ClassId), ∀ z, KB (D, k4, z) s := by
  have hg : ∀ w ∈ lw_good, w.before args s = true := fun w hw => hts w (lw_good_in hw)
  obtain ⟨c0, i0, h0⟩ := u_known (C := RX0) (T := TX0) hg kdX0.2.2.2.1 (hg _ wm_X0)
  obtain ⟨c1, i1, h1⟩ := u_known (C := RX1) (T := TX1) hg kdX1.2.2.2.1 (hg _ wm_X1)
  obtain ⟨c2, i2, h2⟩ := u_known (C := RX2) (T := TX2) hg kdX2.2.2.2.1 (hg _ wm_X2)
  obtain ⟨c3, i3, h3⟩ := u_known (C := RX3) (T := TX3) hg kdX3.2.2.2.1 (hg _ wm_X3)
  obtain ⟨c4, i4, h4⟩ := u_known (C := RX4) (T := TX4) hg kdX4.2.2.2.1 (hg _ wm_X4)
  obtain ⟨c5, i5, h5⟩ := u_known (C := RX5) (T := TX5) hg kdX5.2.2.2.1 (hg _ wm_X5)
  obtain ⟨c6, i6, h6⟩ := u_known (C := RX6) (T := TX6) hg kdX6.2.2.2.1 (hg _ wm_X6)
  obtain ⟨c7, i7, h7⟩ := u_known (C := RX7) (T := TX7) hg kdX7.2.2.2.1 (hg _ wm_X7)
  obtain ⟨cI, kI, qI, a1, a2, a3⟩ := Cond.arrayClass_spec (hg _ wa_int)
  obtain ⟨cB, kB, qB, b1, b2, b3⟩ := Cond.arrayClass_spec (hg _ wa_byte)
  obtain ⟨qo, cO, kO, o1, o2, o3, o4, o5⟩ := Cond.arrayOver_spec (hts _ tw_aoX0)
  obtain ⟨qp, cP, kP, p1, p2, p3, p4, p5⟩ := Cond.arrayOver_spec (hts _ tw_aoX1)
  refine ⟨(fun k => [c0, c1, c2, c3, c4, c5, c6, c7].getD k c0, fun k => [i0, i1, i2, i3, i4, i5, i6, i7].getD k i0), (cB, cI, cO, cP), fun z => ⟨⟨fun k q hk => ?_, fun k q hk => ?_⟩, va_AO.of (hts _ tw_aoX1), va_AO.of (hts _ tw_aoX0), va_Nw.of rfl (hts _ tw_X0_21), va_Nw.of rfl (hts _ tw_X6_41)⟩⟩
  · match k, hk with
    | 0, hk => cases hk; exact h0
    | 1, hk => cases hk; exact h1
    | 2, hk => cases hk; exact h2
    | 3, hk => cases hk; exact h3
    | 4, hk => cases hk; exact h4
    | 5, hk => cases hk; exact h5
    | 6, hk => cases hk; exact h6
    | 7, hk => cases hk; exact h7
    | k + 8, hk => exact absurd (List.getElem?_eq_some_iff.mp hk).1 (Nat.not_lt.mpr (Nat.le_add_left 8 k))
  · match k, hk with
    | 0, hk => cases hk; exact ⟨fun n z => ⟨fun k h => (by cases h), kB, b2, qB, b3⟩, b1⟩
    | 1, hk => cases hk; exact ⟨fun n z => ⟨fun k h => (by cases h), kI, a2, qI, a3⟩, a1⟩
    | 2, hk => cases hk; exact ⟨fun n z => ⟨fun k h => (by cases h), kO, o3, qo, o4⟩, kO, qo, o3, o4, o1, o5⟩
    | 3, hk => cases hk; exact ⟨fun n z => ⟨fun k h => (by cases h), kP, p3, qp, p4⟩, kP, qp, p3, p4, p1, p5⟩
    | k + 4, hk => exact absurd (List.getElem?_eq_some_iff.mp hk).1 (Nat.not_lt.mpr (Nat.le_add_left 4 k))
def tmN : Term := .static "ChipRing" "NEXT_STATE" "[I"
theorem fl_arr : Cond.arrayOf tmN .int ∈ flatC (Jvm.Cond.and given_1 narrow_1) := by decide +kernel
theorem fl_len : Cond.eq (.length tmN) (.int 32) ∈ flatC (Jvm.Cond.and given_1 narrow_1) := by decide +kernel
theorem fl_el : ∀ j : Nat, j < 32 → Cond.eq (.elem tmN (.int (Int32.ofNat j))) (.int (anx j)) ∈ flatC (Jvm.Cond.and given_1 narrow_1) := by decide +kernel
theorem start_XK {s : State} {args : Array Value} {B : Bx} (hB : B.2.2 = s.heap.size) (hts : ∀ w ∈ lw_tbl, w.before args s = true) (hgv : (Jvm.Cond.and given_1 narrow_1).before args s = true) (hK : KB B s) : ∃ a, ∀ w, XK w (XB B a) s := by
  have hs := flat_of_before _ hgv
  have hA : ∀ a : Nat, a < s.heap.size → ¬ (fun q => s.heap.size ≤ q) a := fun a h => Nat.not_le.mpr h
  obtain ⟨t, ht, hT⟩ := va_Tof (tm := tmN) (N := 32) (f := fun j => .int (anx j)) (by decide) (hs _ fl_arr) (va_eqt (hs _ fl_len)) (fun j hj => va_eqt (hs _ (fl_el j hj))) hA
  have hZ := va_Zof (hts _ tw_st) (hts _ (lw_good_in wi_X6)) ht hA
  have hin : ∀ w q, Aw w (XB B t) q → s.heap.size ≤ q := fun w q hq => by
    obtain ⟨o, -, rfl⟩ := hq
    show s.heap.size ≤ B.2.2 + pos o
    omega
  refine ⟨t, fun w => ⟨hK.1, fun a b ha hb e => pos_inj a ha b hb (Nat.add_left_cancel e), ⟨fun q hq => va_Nw.of rfl (hts _ (tw_nest q hq)), va_Nw.of rfl (hts _ tw_fn)⟩, hZ.narrow (hin w), hT.narrow (hin w)⟩⟩
/-- from the entry, for every script of at most 2048 ints, the law comes to its end with true -/
theorem whole_start {p : Program} {e : Env} {s : State} {m : MethodId} {below : List Frame} {meth : Method} {c : Code} (l : Launch) (hflags : l.flags = flags0) {b L : Nat} {xs : Nat → Int32} (hL : L ≤ 2048) (C0 : lw_At p s m meth c b L xs) : W p l e room_1 s m #[Value.ref b] below meth c s.heap [] 0 0 (lw_Z below #[Value.ref b] s) (entryFrame m ([Value.ref b] : List Value).toArray 4) := by
  obtain ⟨hx, hb, hr, hml, hown, hts, hX, hbl, hlocks, hgv⟩ := id C0
  obtain ⟨D, k4, hKB⟩ := start_tables hts
  obtain ⟨B, hB⟩ : ∃ B : Bx, B = (D, k4, s.heap.size) := ⟨_, rfl⟩
  have hz : B.2.2 = s.heap.size := by rw [hB]
  have hK0 : KB B s := by rw [hB]; exact hKB _
  obtain ⟨a, hXK⟩ := start_XK hz hts hgv hK0
  have LK : LOk (p, l, e, s, m, below, meth, c) (XB B a) b L xs := ⟨C0, hXK 0, hXK 1, fun o _ => by show s.heap.size ≤ B.2.2 + pos o; omega, hL⟩
  obtain ⟨M, hM⟩ : ∃ M : Mx, M = (p, l, e, room_1, s, m, #[Value.ref b], below, meth, c) := ⟨_, rfl⟩
  have K : OkB M B code 4 RL room_1 := by
    rw [hM]
    exact ⟨hx, hb, hml, hown, fun w hw => hts w (lw_good_in hw), hK0, rfl⟩
  have hend : VB M B (lw_Z below #[Value.ref b] s) 4 18 [(0, .ref b), (1, .ref (B.2.2 + 0)), (2, .ref (B.2.2 + 95)), (3, .int 0)] [] 107 (finB B) 107 2112 := by
    rw [hM]
    intro H locs Lc hP hS hl
    have hA : Ab B = fun q => s.heap.size ≤ q := by unfold Ab; rw [hz]
    rw [hA] at hS
    exact law_loop LK (L + 1) 0 u00 u00 (Nat.zero_le _) (by omega) Rel_00 H locs Lc ⟨PW_of hP, PW_of hP, hS⟩ hl
  have h0 : VB M B (lw_Z below #[Value.ref b] s) 4 0 [(0, .ref b)] [] 0 (fun _ => .inr (0, [])) 0 0 := by
    refine b_new K kdX6 cl_L_7 wm_X6 wi_X6 df_X6 (Nat.le_of_ble_eq_true rfl) (Nat.le_of_ble_eq_true rfl) dL_law_0 ?_
    refine b_dup K rfl dL_law_3 ?_
    refine b_callI K (As := []) (rest := [.ref (B.2.2 + 0)]) (c_X6_init gup_s) ci_X6 ml_L_9 ⟨rfl, rfl, Nat.le_of_ble_eq_true rfl, Nat.le_of_ble_eq_true rfl⟩ ⟨Nat.le_of_ble_eq_true rfl, Nat.le_of_ble_eq_true rfl⟩ rfl rfl (Nat.le_of_ble_eq_true rfl) dL_law_4 ?_
    refine b_astore_n K (ls' := [(1, .ref (B.2.2 + 0)), (0, .ref b)]) rfl (by decide) rfl dL_law_7 ?_
    refine b_new K kdX7 cl_L_10 wm_X7 wi_X7 df_X7 (Nat.le_of_ble_eq_true rfl) (Nat.le_of_ble_eq_true rfl) dL_law_8 ?_
    refine b_dup K rfl dL_law_11 ?_
    refine b_callI K (As := []) (rest := [.ref (B.2.2 + 95)]) (c_X7_init (j := 95) gup_s) ci_X7 ml_L_12 ⟨rfl, rfl, Nat.le_of_ble_eq_true rfl, Nat.le_of_ble_eq_true rfl⟩ ⟨Nat.le_of_ble_eq_true rfl, Nat.le_of_ble_eq_true rfl⟩ rfl rfl (Nat.le_of_ble_eq_true rfl) dL_law_12 ?_
    refine b_astore_n K (ls' := [(2, .ref (B.2.2 + 95)), (1, .ref (B.2.2 + 0)), (0, .ref b)]) rfl (by decide) rfl dL_law_15 ?_
    refine b_iconst K (v := 0) rfl dL_law_16 ?_
    refine b_istore_n K (ls' := [(3, .int 0), (2, .ref (B.2.2 + 95)), (1, .ref (B.2.2 + 0)), (0, .ref b)]) rfl (by decide) rfl dL_law_17 ?_
    exact b_sub [3, 2, 1, 0] rfl hend
  have hl := lv_entry ([.ref b]) (n := 4) (Nat.le_of_ble_eq_true rfl)
  rw [lg_entry_eq]
  rw [hM] at h0
  exact h0 s.heap [] _ ⟨by rw [hz]; rfl, fun j hj => absurd hj (Nat.not_lt_zero _)⟩ va_S.rf hl
