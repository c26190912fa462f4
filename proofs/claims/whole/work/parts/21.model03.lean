abbrev rm_X7_tellCell : Room := { frames := 10, cells := 0, slots := 0, locals := 228 }
set_option maxRecDepth 20000 in
theorem c_X7_tellCell {X : Wx} {N : Nat} {o0 : Nat} {p1 : Int32} {p2 : Int32} {p3 : Int32} (h0 : akd o0 = 7) {u u' : ASt} {r : Int32} (hf : f_X7_tellCell N o0 p1 p2 p3 u = some (r, u')) (l : Launch) : Met l yX7_tellCell (ws_ yX7_tellCell cX7_tellCell 4 (some .int)) rm_X7_tellCell (Pg 1 X u [.ref (X.2.1 o0), .int p1, .int p2, .int p3]) (Qg 1 X (some (.int r)) u') 0 0 (Aw 1 X) := by
  refine v_met (res := (some (.int r), u')) (by decide) (Nat.le_of_ble_eq_true rfl) (fun M K => ?_)
  have K : OkM 1 M X cX7_tellCell 4 RX7 rm_X7_tellCell (some .int) := K
  show V 1 M X (some (.int r), u') 4 0 [(0, .ref (X.2.1 o0)), (1, .int p1), (2, .int p2), (3, .int p3)] [] u
  unfold f_X7_tellCell at hf
  refine v_iload_n K 3 rfl rfl dX7_tellCell_0 ?_
  refine v_iconst K (v := 2) (by decide) dX7_tellCell_1 ?_
  refine v_icmp_ge K 19 (by decide) dX7_tellCell_2 (fun c1 => ?_) (fun c1 => ?_)
  · have hf := ite_t c1 hf
    refine v_aload_n K 0 rfl rfl dX7_tellCell_19 ?_
    obtain ⟨r3, u2, e4, hf⟩ := bnd_of hf
    refine v_callVv K (c_X7_laysNow h0 e4) cv_X7_laysNow ml_X7_164 (am1_7 h0) h0 kdX7 ⟨rfl, rfl, Nat.le_of_ble_eq_true rfl, Nat.le_of_ble_eq_true rfl⟩ rfl rfl (Nat.le_of_ble_eq_true rfl) dX7_tellCell_20 ?_
    refine v_aload_n K 0 rfl rfl dX7_tellCell_23 ?_
    refine v_iload_n K 1 rfl rfl dX7_tellCell_24 ?_
    refine v_iload_n K 2 rfl rfl dX7_tellCell_25 ?_
    obtain ⟨r6, u5, e7, hf⟩ := bnd_of hf
    refine v_callVi K (c_X7_isOut h0 e7) cv_X7_isOut ml_X7_124 (am1_7 h0) h0 kdX7 ⟨rfl, rfl, Nat.le_of_ble_eq_true rfl, Nat.le_of_ble_eq_true rfl⟩ rfl rfl (Nat.le_of_ble_eq_true rfl) dX7_tellCell_26 ?_
    refine v_if_eq K 46 (by decide) dX7_tellCell_29 (fun c8 => ?_) (fun c8 => ?_)
    · have hf := ite_t c8 hf
      refine v_aload_n K 0 rfl rfl dX7_tellCell_46 ?_
      refine v_iload_n K 1 rfl rfl dX7_tellCell_47 ?_
      refine v_iload_n K 2 rfl rfl dX7_tellCell_48 ?_
      obtain ⟨r10, u9, e11, hf⟩ := bnd_of hf
      refine v_callVi K (c_X7_sees h0 e11) cv_X7_sees ml_X7_170 (am1_7 h0) h0 kdX7 ⟨rfl, rfl, Nat.le_of_ble_eq_true rfl, Nat.le_of_ble_eq_true rfl⟩ rfl rfl (Nat.le_of_ble_eq_true rfl) dX7_tellCell_49 ?_
      obtain ⟨rfl, rfl⟩ := pair_of hf
      exact v_iret K dX7_tellCell_52
    · have hf := ite_f c8 hf
      refine v_aload_n K 0 rfl rfl dX7_tellCell_32 ?_
      refine v_iload_n K 1 rfl rfl dX7_tellCell_33 ?_
      refine v_bipush K (v := 6) (by decide) dX7_tellCell_34 ?_
      obtain ⟨r13, u12, e14, hf⟩ := bnd_of hf
      refine v_callVi K (c_X7_get h0 e14) cv_X7_get ml_X7_55 (am1_7 h0) h0 kdX7 ⟨rfl, rfl, Nat.le_of_ble_eq_true rfl, Nat.le_of_ble_eq_true rfl⟩ rfl rfl (Nat.le_of_ble_eq_true rfl) dX7_tellCell_36 ?_
      refine v_iload_n K 2 rfl rfl dX7_tellCell_39 ?_
      refine v_ishr K dX7_tellCell_40 ?_
      refine v_iconst K (v := 1) (by decide) dX7_tellCell_41 ?_
      refine v_iand K dX7_tellCell_42 ?_
      refine v_goto K 52 (by decide) dX7_tellCell_43 ?_
      obtain ⟨rfl, rfl⟩ := pair_of hf
      exact v_iret K dX7_tellCell_52
  · have hf := ite_f c1 hf
    refine v_aload_n K 0 rfl rfl dX7_tellCell_5 ?_
    refine v_iload_n K 1 rfl rfl dX7_tellCell_6 ?_
    refine v_bipush K (v := 7) (by decide) dX7_tellCell_7 ?_
    refine v_iconst K (v := 2) (by decide) dX7_tellCell_9 ?_
    refine v_iload_n K 2 rfl rfl dX7_tellCell_10 ?_
    refine v_imul K dX7_tellCell_11 ?_
    refine v_iadd K dX7_tellCell_12 ?_
    refine v_iload_n K 3 rfl rfl dX7_tellCell_13 ?_
    refine v_iadd K dX7_tellCell_14 ?_
    obtain ⟨r16, u15, e17, hf⟩ := bnd_of hf
    refine v_callVi K (c_X7_get h0 e17) cv_X7_get ml_X7_55 (am1_7 h0) h0 kdX7 ⟨rfl, rfl, Nat.le_of_ble_eq_true rfl, Nat.le_of_ble_eq_true rfl⟩ rfl rfl (Nat.le_of_ble_eq_true rfl) dX7_tellCell_15 ?_
    obtain ⟨rfl, rfl⟩ := pair_of hf
    exact v_iret K dX7_tellCell_18
abbrev rm_X7_about : Room := { frames := 11, cells := 0, slots := 0, locals := 251 }
set_option maxRecDepth 20000 in
theorem t_X7_about_28 {M : Mx} {X : Wx} {N : Nat} {o0 : Nat} {p1 : Int32} {p2 : Int32} {p3 : Int32} (h0 : akd o0 = 7) {r : Int32} {u' : ASt} (K : OkM 1 M X cX7_about 4 RX7 rm_X7_about (some .int)) {u : ASt} (hf : f_X7_about_28 N o0 p1 p2 p3  u = some (r, u')) : V 1 M X (some (.int r), u') 4 28 [(0, .ref (X.2.1 o0))] [] u := by
  unfold f_X7_about_28 at hf
  refine v_aload_n K 0 rfl rfl dX7_about_28 ?_
  obtain ⟨r2, u1, e3, hf⟩ := bnd_of hf
  refine v_callVi K (c_X7_bad h0 e3) cv_X7_bad ml_X7_72 (am1_7 h0) h0 kdX7 ⟨rfl, rfl, Nat.le_of_ble_eq_true rfl, Nat.le_of_ble_eq_true rfl⟩ rfl rfl (Nat.le_of_ble_eq_true rfl) dX7_about_29 ?_
  obtain ⟨rfl, rfl⟩ := pair_of hf
  exact v_iret K dX7_about_32
set_option maxRecDepth 20000 in
theorem c_X7_about {X : Wx} {N : Nat} {o0 : Nat} {p1 : Int32} {p2 : Int32} {p3 : Int32} (h0 : akd o0 = 7) {u u' : ASt} {r : Int32} (hf : f_X7_about N o0 p1 p2 p3 u = some (r, u')) (l : Launch) : Met l yX7_about (ws_ yX7_about cX7_about 4 (some .int)) rm_X7_about (Pg 1 X u [.ref (X.2.1 o0), .int p1, .int p2, .int p3]) (Qg 1 X (some (.int r)) u') 0 0 (Aw 1 X) := by
  refine v_met (res := (some (.int r), u')) (by decide) (Nat.le_of_ble_eq_true rfl) (fun M K => ?_)
  have K : OkM 1 M X cX7_about 4 RX7 rm_X7_about (some .int) := K
  show V 1 M X (some (.int r), u') 4 0 [(0, .ref (X.2.1 o0)), (1, .int p1), (2, .int p2), (3, .int p3)] [] u
  unfold f_X7_about at hf
  refine v_aload_n K 0 rfl rfl dX7_about_0 ?_
  refine v_iload_n K 1 rfl rfl dX7_about_1 ?_
  refine v_iload_n K 2 rfl rfl dX7_about_2 ?_
  obtain ⟨r5, u4, e6, hf⟩ := bnd_of hf
  refine v_callVi K (c_X7_isCell h0 e6) cv_X7_isCell ml_X7_85 (am1_7 h0) h0 kdX7 ⟨rfl, rfl, Nat.le_of_ble_eq_true rfl, Nat.le_of_ble_eq_true rfl⟩ rfl rfl (Nat.le_of_ble_eq_true rfl) dX7_about_3 ?_
  refine v_if_eq K 28 (by decide) dX7_about_6 (fun c7 => ?_) (fun c7 => ?_)
  · have hf := ite_t c7 hf
    refine v_sub [0] rfl ?_
    exact t_X7_about_28 h0 K hf
  · have hf := ite_f c7 hf
    refine v_iload_n K 3 rfl rfl dX7_about_9 ?_
    refine v_iconst K (v := 0) (by decide) dX7_about_10 ?_
    refine v_iconst K (v := 2) (by decide) dX7_about_11 ?_
    obtain ⟨r9, u8, e10, hf⟩ := bnd_of hf
    refine v_callSi K (c_X7_within e10) cv_X7_within ml_X7_43 ⟨rfl, rfl, Nat.le_of_ble_eq_true rfl, Nat.le_of_ble_eq_true rfl⟩ rfl rfl (Nat.le_of_ble_eq_true rfl) dX7_about_12 ?_
    refine v_if_eq K 28 (by decide) dX7_about_15 (fun c11 => ?_) (fun c11 => ?_)
    · have hf := ite_t c11 hf
      refine v_sub [0] rfl ?_
      exact t_X7_about_28 h0 K hf
    · have hf := ite_f c11 hf
      refine v_aload_n K 0 rfl rfl dX7_about_18 ?_
      refine v_iload_n K 1 rfl rfl dX7_about_19 ?_
      refine v_iload_n K 2 rfl rfl dX7_about_20 ?_
      refine v_iload_n K 3 rfl rfl dX7_about_21 ?_
      obtain ⟨r13, u12, e14, hf⟩ := bnd_of hf
      refine v_callVi K (c_X7_tellCell h0 e14) cv_X7_tellCell ml_X7_211 (am1_7 h0) h0 kdX7 ⟨rfl, rfl, Nat.le_of_ble_eq_true rfl, Nat.le_of_ble_eq_true rfl⟩ rfl rfl (Nat.le_of_ble_eq_true rfl) dX7_about_22 ?_
      refine v_goto K 32 (by decide) dX7_about_25 ?_
      obtain ⟨rfl, rfl⟩ := pair_of hf
      exact v_iret K dX7_about_32
abbrev rm_X7_cells : Room := { frames := 2, cells := 0, slots := 0, locals := 43 }
set_option maxRecDepth 20000 in
theorem t_X7_cells_4 {M : Mx} {X : Wx} {N : Nat} {o0 : Nat} (h0 : akd o0 = 7) {r : Int32} {u' : ASt} (K : OkM 1 M X cX7_cells 3 RX7 rm_X7_cells (some .int)) : ∀ (n : Nat) (x1 : Int32) (x2 : Int32) (u : ASt), f_X7_cells_4 N o0 n x1 x2 u = some (r, u') → V 1 M X (some (.int r), u') 3 4 [(0, .ref (X.2.1 o0)), (1, .int x1), (2, .int x2)] [] u := by
  intro n
  induction n with
  | zero => intro x1 x2 u hf; cases hf
  | succ n ih =>
    intro x1 x2 u hf
    rw [f_X7_cells_4] at hf
    refine v_iload_n K 2 rfl rfl dX7_cells_4 ?_
    refine v_aload_n K 0 rfl rfl dX7_cells_5 ?_
    obtain ⟨r2, u1, e3, hf⟩ := bnd_of hf
    refine v_callVi K (c_X7_chips h0 e3) cv_X7_chips ml_X7_121 (am1_7 h0) h0 kdX7 ⟨rfl, rfl, Nat.le_of_ble_eq_true rfl, Nat.le_of_ble_eq_true rfl⟩ rfl rfl (Nat.le_of_ble_eq_true rfl) dX7_cells_6 ?_
    refine v_icmp_ge K 27 (by decide) dX7_cells_9 (fun c4 => ?_) (fun c4 => ?_)
    · have hf := ite_t c4 hf
      refine v_iload_n K 1 rfl rfl dX7_cells_27 ?_
      obtain ⟨rfl, rfl⟩ := pair_of hf
      exact v_iret K dX7_cells_28
    · have hf := ite_f c4 hf
      refine v_iload_n K 1 rfl rfl dX7_cells_12 ?_
      refine v_aload_n K 0 rfl rfl dX7_cells_13 ?_
      refine v_iload_n K 2 rfl rfl dX7_cells_14 ?_
      refine v_iconst K (v := 2) (by decide) dX7_cells_15 ?_
      obtain ⟨r6, u5, e7, hf⟩ := bnd_of hf
      refine v_callVi K (c_X7_get h0 e7) cv_X7_get ml_X7_55 (am1_7 h0) h0 kdX7 ⟨rfl, rfl, Nat.le_of_ble_eq_true rfl, Nat.le_of_ble_eq_true rfl⟩ rfl rfl (Nat.le_of_ble_eq_true rfl) dX7_cells_16 ?_
      refine v_iadd K dX7_cells_19 ?_
      refine v_topi (fun z8 ez8 => ?_)
      have hf := lte_of ez8 hf
      refine v_istore_n K (ls' := [(1, .int z8), (0, .ref (X.2.1 o0)), (2, .int x2)]) rfl (by decide) rfl dX7_cells_20 ?_
      refine v_iinc K 2 (v := x2 + 1) (ls' := [(2, .int (x2 + 1)), (1, .int z8), (0, .ref (X.2.1 o0))]) rfl rfl (by decide) rfl dX7_cells_21 ?_
      refine v_goto K 4 (by decide) dX7_cells_24 ?_
      refine v_sub [2, 1, 0] rfl ?_
      exact ih z8 (x2 + 1) u5 hf
set_option maxRecDepth 20000 in
theorem c_X7_cells {X : Wx} {N : Nat} {o0 : Nat} (h0 : akd o0 = 7) {u u' : ASt} {r : Int32} (hf : f_X7_cells N o0 u = some (r, u')) (l : Launch) : Met l yX7_cells (ws_ yX7_cells cX7_cells 3 (some .int)) rm_X7_cells (Pg 1 X u [.ref (X.2.1 o0)]) (Qg 1 X (some (.int r)) u') 0 0 (Aw 1 X) := by
  refine v_met (res := (some (.int r), u')) (by decide) (Nat.le_of_ble_eq_true rfl) (fun M K => ?_)
  have K : OkM 1 M X cX7_cells 3 RX7 rm_X7_cells (some .int) := K
  show V 1 M X (some (.int r), u') 3 0 [(0, .ref (X.2.1 o0))] [] u
  unfold f_X7_cells at hf
  refine v_iconst K (v := 0) (by decide) dX7_cells_0 ?_
  refine v_istore_n K (ls' := [(1, .int 0), (0, .ref (X.2.1 o0))]) rfl (by decide) rfl dX7_cells_1 ?_
  refine v_iconst K (v := 0) (by decide) dX7_cells_2 ?_
  refine v_istore_n K (ls' := [(2, .int 0), (1, .int 0), (0, .ref (X.2.1 o0))]) rfl (by decide) rfl dX7_cells_3 ?_
  refine v_sub [2, 1, 0] rfl ?_
  exact t_X7_cells_4 h0 K N 0 0 u hf
abbrev rm_X7_countOf : Room := { frames := 4, cells := 0, slots := 0, locals := 88 }
set_option maxRecDepth 20000 in
theorem c_X7_countOf {X : Wx} {N : Nat} {o0 : Nat} {p1 : Int32} (h0 : akd o0 = 7) {u u' : ASt} {r : Int32} (hf : f_X7_countOf N o0 p1 u = some (r, u')) (l : Launch) : Met l yX7_countOf (ws_ yX7_countOf cX7_countOf 2 (some .int)) rm_X7_countOf (Pg 1 X u [.ref (X.2.1 o0), .int p1]) (Qg 1 X (some (.int r)) u') 0 0 (Aw 1 X) := by
  refine v_met (res := (some (.int r), u')) (by decide) (Nat.le_of_ble_eq_true rfl) (fun M K => ?_)
  have K : OkM 1 M X cX7_countOf 2 RX7 rm_X7_countOf (some .int) := K
  show V 1 M X (some (.int r), u') 2 0 [(0, .ref (X.2.1 o0)), (1, .int p1)] [] u
  unfold f_X7_countOf at hf
  refine v_iload_n K 1 rfl rfl dX7_countOf_0 ?_
  by_cases c1 : p1 = 0
  · have hf := ite_t c1 hf
    refine v_tabK K 32 c1 (a := 0) (by decide) (by decide) (by decide) rfl (by decide) dX7_countOf_1 ?_
    refine v_aload_n K 0 rfl rfl dX7_countOf_32 ?_
    obtain ⟨r3, u2, e4, hf⟩ := bnd_of hf
    refine v_callVi K (c_X7_chips h0 e4) cv_X7_chips ml_X7_121 (am1_7 h0) h0 kdX7 ⟨rfl, rfl, Nat.le_of_ble_eq_true rfl, Nat.le_of_ble_eq_true rfl⟩ rfl rfl (Nat.le_of_ble_eq_true rfl) dX7_countOf_33 ?_
    obtain ⟨rfl, rfl⟩ := pair_of hf
    exact v_iret K dX7_countOf_36
  have hf := ite_f c1 hf
  by_cases c5 : p1 = 1
  · have hf := ite_t c5 hf
    refine v_tabK K 37 c5 (a := 1) (by decide) (by decide) (by decide) rfl (by decide) dX7_countOf_1 ?_
    refine v_aload_n K 0 rfl rfl dX7_countOf_37 ?_
    obtain ⟨r7, u6, e8, hf⟩ := bnd_of hf
    refine v_callVi K (c_X7_cells h0 e8) cv_X7_cells ml_X7_214 (am1_7 h0) h0 kdX7 ⟨rfl, rfl, Nat.le_of_ble_eq_true rfl, Nat.le_of_ble_eq_true rfl⟩ rfl rfl (Nat.le_of_ble_eq_true rfl) dX7_countOf_38 ?_
    obtain ⟨rfl, rfl⟩ := pair_of hf
    exact v_iret K dX7_countOf_41
  have hf := ite_f c5 hf
  by_cases c9 : p1 = 2
  · have hf := ite_t c9 hf
    refine v_tabK K 42 c9 (a := 2) (by decide) (by decide) (by decide) rfl (by decide) dX7_countOf_1 ?_
    refine v_aload_n K 0 rfl rfl dX7_countOf_42 ?_
    refine gf_7_0 K h0 fl_X7_7 dX7_countOf_43 ?_
    refine v_iconst K (v := 2) (by decide) dX7_countOf_46 ?_
    obtain ⟨g10, hf⟩ := chk_of hf
    refine v_iald K (am1_12 (ak_7_0 h0)) (.inr (ak_7_0 h0)) g10 dX7_countOf_47 ?_
    obtain ⟨rfl, rfl⟩ := pair_of hf
    exact v_iret K dX7_countOf_48
  have hf := ite_f c9 hf
  by_cases c11 : p1 = 3
  · have hf := ite_t c11 hf
    refine v_tabK K 49 c11 (a := 3) (by decide) (by decide) (by decide) rfl (by decide) dX7_countOf_1 ?_
    refine v_aload_n K 0 rfl rfl dX7_countOf_49 ?_
    obtain ⟨r13, u12, e14, hf⟩ := bnd_of hf
    refine v_callVi K (c_X7_netsWithCells h0 e14) cv_X7_netsWithCells ml_X7_217 (am1_7 h0) h0 kdX7 ⟨rfl, rfl, Nat.le_of_ble_eq_true rfl, Nat.le_of_ble_eq_true rfl⟩ rfl rfl (Nat.le_of_ble_eq_true rfl) dX7_countOf_50 ?_
    obtain ⟨rfl, rfl⟩ := pair_of hf
    exact v_iret K dX7_countOf_53
  have hf := ite_f c11 hf
  refine v_tabD K 54 (keys := [0, 1, 2, 3]) (by decide) (by decide) (List.forall_mem_cons.mpr ⟨lv_neT c1 (by decide), (List.forall_mem_cons.mpr ⟨lv_neT c5 (by decide), (List.forall_mem_cons.mpr ⟨lv_neT c9 (by decide), (List.forall_mem_cons.mpr ⟨lv_neT c11 (by decide), (fun _ h => absurd h List.not_mem_nil)⟩)⟩)⟩)⟩) (by decide) dX7_countOf_1 ?_
  refine v_aload_n K 0 rfl rfl dX7_countOf_54 ?_
  obtain ⟨r16, u15, e17, hf⟩ := bnd_of hf
  refine v_callVi K (c_X7_outs h0 e17) cv_X7_outs ml_X7_130 (am1_7 h0) h0 kdX7 ⟨rfl, rfl, Nat.le_of_ble_eq_true rfl, Nat.le_of_ble_eq_true rfl⟩ rfl rfl (Nat.le_of_ble_eq_true rfl) dX7_countOf_55 ?_
  obtain ⟨rfl, rfl⟩ := pair_of hf
  exact v_iret K dX7_countOf_58
abbrev rm_X7_count : Room := { frames := 5, cells := 0, slots := 0, locals := 109 }
set_option maxRecDepth 20000 in
theorem c_X7_count {X : Wx} {N : Nat} {o0 : Nat} {p1 : Int32} (h0 : akd o0 = 7) {u u' : ASt} {r : Int32} (hf : f_X7_count N o0 p1 u = some (r, u')) (l : Launch) : Met l yX7_count (ws_ yX7_count cX7_count 2 (some .int)) rm_X7_count (Pg 1 X u [.ref (X.2.1 o0), .int p1]) (Qg 1 X (some (.int r)) u') 0 0 (Aw 1 X) := by
  refine v_met (res := (some (.int r), u')) (by decide) (Nat.le_of_ble_eq_true rfl) (fun M K => ?_)
  have K : OkM 1 M X cX7_count 2 RX7 rm_X7_count (some .int) := K
  show V 1 M X (some (.int r), u') 2 0 [(0, .ref (X.2.1 o0)), (1, .int p1)] [] u
  unfold f_X7_count at hf
  refine v_iload_n K 1 rfl rfl dX7_count_0 ?_
  refine v_iconst K (v := 0) (by decide) dX7_count_1 ?_
  refine v_iconst K (v := 4) (by decide) dX7_count_2 ?_
  obtain ⟨r2, u1, e3, hf⟩ := bnd_of hf
  refine v_callSi K (c_X7_within e3) cv_X7_within ml_X7_43 ⟨rfl, rfl, Nat.le_of_ble_eq_true rfl, Nat.le_of_ble_eq_true rfl⟩ rfl rfl (Nat.le_of_ble_eq_true rfl) dX7_count_3 ?_
  refine v_if_eq K 17 (by decide) dX7_count_6 (fun c4 => ?_) (fun c4 => ?_)
  · have hf := ite_t c4 hf
    refine v_aload_n K 0 rfl rfl dX7_count_17 ?_
    obtain ⟨r6, u5, e7, hf⟩ := bnd_of hf
    refine v_callVi K (c_X7_bad h0 e7) cv_X7_bad ml_X7_72 (am1_7 h0) h0 kdX7 ⟨rfl, rfl, Nat.le_of_ble_eq_true rfl, Nat.le_of_ble_eq_true rfl⟩ rfl rfl (Nat.le_of_ble_eq_true rfl) dX7_count_18 ?_
    obtain ⟨rfl, rfl⟩ := pair_of hf
    exact v_iret K dX7_count_21
  · have hf := ite_f c4 hf
    refine v_aload_n K 0 rfl rfl dX7_count_9 ?_
    refine v_iload_n K 1 rfl rfl dX7_count_10 ?_
    obtain ⟨r9, u8, e10, hf⟩ := bnd_of hf
    refine v_callVi K (c_X7_countOf h0 e10) cv_X7_countOf ml_X7_220 (am1_7 h0) h0 kdX7 ⟨rfl, rfl, Nat.le_of_ble_eq_true rfl, Nat.le_of_ble_eq_true rfl⟩ rfl rfl (Nat.le_of_ble_eq_true rfl) dX7_count_11 ?_
    refine v_goto K 21 (by decide) dX7_count_14 ?_
    obtain ⟨rfl, rfl⟩ := pair_of hf
    exact v_iret K dX7_count_21
abbrev rm_X7_fault : Room := { frames := 1, cells := 0, slots := 0, locals := 20 }
set_option maxRecDepth 20000 in
theorem c_X7_fault {X : Wx} {N : Nat} {o0 : Nat} {p1 : Int32} (h0 : akd o0 = 7) {u u' : ASt} {r : Int32} (hf : f_X7_fault N o0 p1 u = some (r, u')) (l : Launch) : Met l yX7_fault (ws_ yX7_fault cX7_fault 2 (some .int)) rm_X7_fault (Pg 1 X u [.ref (X.2.1 o0), .int p1]) (Qg 1 X (some (.int r)) u') 0 0 (Aw 1 X) := by
  refine v_met (res := (some (.int r), u')) (by decide) (Nat.le_of_ble_eq_true rfl) (fun M K => ?_)
  have K : OkM 1 M X cX7_fault 2 RX7 rm_X7_fault (some .int) := K
  show V 1 M X (some (.int r), u') 2 0 [(0, .ref (X.2.1 o0)), (1, .int p1)] [] u
  unfold f_X7_fault at hf
  refine v_iload_n K 1 rfl rfl dX7_fault_0 ?_
  refine v_if_ge K 9 (by decide) dX7_fault_1 (fun c1 => ?_) (fun c1 => ?_)
  · have hf := ite_t c1 hf
    refine v_iload_n K 1 rfl rfl dX7_fault_9 ?_
    refine v_aload_n K 0 rfl rfl dX7_fault_10 ?_
    refine gf_7_0 K h0 fl_X7_7 dX7_fault_11 ?_
    refine v_iconst K (v := 2) (by decide) dX7_fault_14 ?_
    obtain ⟨g2, hf⟩ := chk_of hf
    refine v_iald K (am1_12 (ak_7_0 h0)) (.inr (ak_7_0 h0)) g2 dX7_fault_15 ?_
    refine v_icmp_ge K 30 (by decide) dX7_fault_16 (fun c3 => ?_) (fun c3 => ?_)
    · have hf := ite_t c3 hf
      refine v_iconst K (v := (-1)) (by decide) dX7_fault_30 ?_
      obtain ⟨rfl, rfl⟩ := pair_of hf
      exact v_iret K dX7_fault_31
    · have hf := ite_f c3 hf
      refine v_aload_n K 0 rfl rfl dX7_fault_19 ?_
      refine gf_7_0 K h0 fl_X7_7 dX7_fault_20 ?_
      refine v_iconst K (v := 3) (by decide) dX7_fault_23 ?_
      refine v_iload_n K 1 rfl rfl dX7_fault_24 ?_
      refine v_iadd K dX7_fault_25 ?_
      obtain ⟨g4, hf⟩ := chk_of hf
      refine v_iald K (am1_12 (ak_7_0 h0)) (.inr (ak_7_0 h0)) g4 dX7_fault_26 ?_
      refine v_goto K 31 (by decide) dX7_fault_27 ?_
      obtain ⟨rfl, rfl⟩ := pair_of hf
      exact v_iret K dX7_fault_31
  · have hf := ite_f c1 hf
    refine v_aload_n K 0 rfl rfl dX7_fault_4 ?_
    obtain ⟨r6, u5, e7, hf⟩ := bnd_of hf
    refine v_callVi K (c_X7_bad h0 e7) cv_X7_bad ml_X7_72 (am1_7 h0) h0 kdX7 ⟨rfl, rfl, Nat.le_of_ble_eq_true rfl, Nat.le_of_ble_eq_true rfl⟩ rfl rfl (Nat.le_of_ble_eq_true rfl) dX7_fault_5 ?_
    obtain ⟨rfl, rfl⟩ := pair_of hf
    exact v_iret K dX7_fault_8
abbrev rm_X7_patternsOf : Room := { frames := 5, cells := 0, slots := 0, locals := 109 }
set_option maxRecDepth 20000 in
theorem c_X7_patternsOf {X : Wx} {N : Nat} {o0 : Nat} {p1 : Int32} (h0 : akd o0 = 7) {u u' : ASt} {r : Int32} (hf : f_X7_patternsOf N o0 p1 u = some (r, u')) (l : Launch) : Met l yX7_patternsOf (ws_ yX7_patternsOf cX7_patternsOf 2 (some .int)) rm_X7_patternsOf (Pg 1 X u [.ref (X.2.1 o0), .int p1]) (Qg 1 X (some (.int r)) u') 0 0 (Aw 1 X) := by
  refine v_met (res := (some (.int r), u')) (by decide) (Nat.le_of_ble_eq_true rfl) (fun M K => ?_)
  have K : OkM 1 M X cX7_patternsOf 2 RX7 rm_X7_patternsOf (some .int) := K
  show V 1 M X (some (.int r), u') 2 0 [(0, .ref (X.2.1 o0)), (1, .int p1)] [] u
  unfold f_X7_patternsOf at hf
  refine v_aload_n K 0 rfl rfl dX7_patternsOf_0 ?_
  obtain ⟨r2, u1, e3, hf⟩ := bnd_of hf
  refine v_callVi K (c_X7_counting h0 e3) cv_X7_counting ml_X7_136 (am1_7 h0) h0 kdX7 ⟨rfl, rfl, Nat.le_of_ble_eq_true rfl, Nat.le_of_ble_eq_true rfl⟩ rfl rfl (Nat.le_of_ble_eq_true rfl) dX7_patternsOf_1 ?_
  refine v_iconst K (v := 1) (by decide) dX7_patternsOf_4 ?_
  refine v_iload_n K 1 rfl rfl dX7_patternsOf_5 ?_
  refine v_iadd K dX7_patternsOf_6 ?_
  refine v_imul K dX7_patternsOf_7 ?_
  obtain ⟨rfl, rfl⟩ := pair_of hf
  exact v_iret K dX7_patternsOf_8
abbrev rm_X7_patterns : Room := { frames := 6, cells := 0, slots := 0, locals := 130 }
set_option maxRecDepth 20000 in
theorem c_X7_patterns {X : Wx} {N : Nat} {o0 : Nat} {p1 : Int32} (h0 : akd o0 = 7) {u u' : ASt} {r : Int32} (hf : f_X7_patterns N o0 p1 u = some (r, u')) (l : Launch) : Met l yX7_patterns (ws_ yX7_patterns cX7_patterns 2 (some .int)) rm_X7_patterns (Pg 1 X u [.ref (X.2.1 o0), .int p1]) (Qg 1 X (some (.int r)) u') 0 0 (Aw 1 X) := by
  refine v_met (res := (some (.int r), u')) (by decide) (Nat.le_of_ble_eq_true rfl) (fun M K => ?_)
  have K : OkM 1 M X cX7_patterns 2 RX7 rm_X7_patterns (some .int) := K
  show V 1 M X (some (.int r), u') 2 0 [(0, .ref (X.2.1 o0)), (1, .int p1)] [] u
  unfold f_X7_patterns at hf
  refine v_iload_n K 1 rfl rfl dX7_patterns_0 ?_
  obtain ⟨r2, u1, e3, hf⟩ := bnd_of hf
  refine v_callSi K (c_X7_isBit e3) cv_X7_isBit ml_X7_79 ⟨rfl, rfl, Nat.le_of_ble_eq_true rfl, Nat.le_of_ble_eq_true rfl⟩ rfl rfl (Nat.le_of_ble_eq_true rfl) dX7_patterns_1 ?_
  refine v_if_eq K 15 (by decide) dX7_patterns_4 (fun c4 => ?_) (fun c4 => ?_)
  · have hf := ite_t c4 hf
    refine v_aload_n K 0 rfl rfl dX7_patterns_15 ?_
    obtain ⟨r6, u5, e7, hf⟩ := bnd_of hf
    refine v_callVi K (c_X7_bad h0 e7) cv_X7_bad ml_X7_72 (am1_7 h0) h0 kdX7 ⟨rfl, rfl, Nat.le_of_ble_eq_true rfl, Nat.le_of_ble_eq_true rfl⟩ rfl rfl (Nat.le_of_ble_eq_true rfl) dX7_patterns_16 ?_
    obtain ⟨rfl, rfl⟩ := pair_of hf
    exact v_iret K dX7_patterns_19
  · have hf := ite_f c4 hf
    refine v_aload_n K 0 rfl rfl dX7_patterns_7 ?_
    refine v_iload_n K 1 rfl rfl dX7_patterns_8 ?_
    obtain ⟨r9, u8, e10, hf⟩ := bnd_of hf
    refine v_callVi K (c_X7_patternsOf h0 e10) cv_X7_patternsOf ml_X7_223 (am1_7 h0) h0 kdX7 ⟨rfl, rfl, Nat.le_of_ble_eq_true rfl, Nat.le_of_ble_eq_true rfl⟩ rfl rfl (Nat.le_of_ble_eq_true rfl) dX7_patterns_9 ?_
    refine v_goto K 19 (by decide) dX7_patterns_12 ?_
    obtain ⟨rfl, rfl⟩ := pair_of hf
    exact v_iret K dX7_patterns_19
abbrev rm_X7_pattern : Room := { frames := 6, cells := 0, slots := 0, locals := 133 }
set_option maxRecDepth 20000 in
theorem t_X7_pattern_29 {M : Mx} {X : Wx} {N : Nat} {o0 : Nat} {p1 : Int32} {p2 : Int32} {p3 : Int32} (h0 : akd o0 = 7) {r : Int32} {u' : ASt} (K : OkM 1 M X cX7_pattern 4 RX7 rm_X7_pattern (some .int)) {u : ASt} (hf : f_X7_pattern_29 N o0 p1 p2 p3  u = some (r, u')) : V 1 M X (some (.int r), u') 4 29 [(0, .ref (X.2.1 o0))] [] u := by
  unfold f_X7_pattern_29 at hf
  refine v_aload_n K 0 rfl rfl dX7_pattern_29 ?_
  obtain ⟨r2, u1, e3, hf⟩ := bnd_of hf
  refine v_callVi K (c_X7_bad h0 e3) cv_X7_bad ml_X7_72 (am1_7 h0) h0 kdX7 ⟨rfl, rfl, Nat.le_of_ble_eq_true rfl, Nat.le_of_ble_eq_true rfl⟩ rfl rfl (Nat.le_of_ble_eq_true rfl) dX7_pattern_30 ?_
  obtain ⟨rfl, rfl⟩ := pair_of hf
  exact v_iret K dX7_pattern_33
set_option maxRecDepth 20000 in
theorem c_X7_pattern {X : Wx} {N : Nat} {o0 : Nat} {p1 : Int32} {p2 : Int32} {p3 : Int32} (h0 : akd o0 = 7) {u u' : ASt} {r : Int32} (hf : f_X7_pattern N o0 p1 p2 p3 u = some (r, u')) (l : Launch) : Met l yX7_pattern (ws_ yX7_pattern cX7_pattern 4 (some .int)) rm_X7_pattern (Pg 1 X u [.ref (X.2.1 o0), .int p1, .int p2, .int p3]) (Qg 1 X (some (.int r)) u') 0 0 (Aw 1 X) := by
  refine v_met (res := (some (.int r), u')) (by decide) (Nat.le_of_ble_eq_true rfl) (fun M K => ?_)
  have K : OkM 1 M X cX7_pattern 4 RX7 rm_X7_pattern (some .int) := K
  show V 1 M X (some (.int r), u') 4 0 [(0, .ref (X.2.1 o0)), (1, .int p1), (2, .int p2), (3, .int p3)] [] u
  unfold f_X7_pattern at hf
  refine v_iload_n K 1 rfl rfl dX7_pattern_0 ?_
  obtain ⟨r5, u4, e6, hf⟩ := bnd_of hf
  refine v_callSi K (c_X7_isBit e6) cv_X7_isBit ml_X7_79 ⟨rfl, rfl, Nat.le_of_ble_eq_true rfl, Nat.le_of_ble_eq_true rfl⟩ rfl rfl (Nat.le_of_ble_eq_true rfl) dX7_pattern_1 ?_
  refine v_if_eq K 29 (by decide) dX7_pattern_4 (fun c7 => ?_) (fun c7 => ?_)
  · have hf := ite_t c7 hf
    refine v_sub [0] rfl ?_
    exact t_X7_pattern_29 h0 K hf
  · have hf := ite_f c7 hf
    refine v_iload_n K 2 rfl rfl dX7_pattern_7 ?_
    refine v_iconst K (v := 0) (by decide) dX7_pattern_8 ?_
    refine v_aload_n K 0 rfl rfl dX7_pattern_9 ?_
    refine v_iload_n K 1 rfl rfl dX7_pattern_10 ?_
    obtain ⟨r9, u8, e10, hf⟩ := bnd_of hf
    refine v_callVi K (c_X7_patternsOf h0 e10) cv_X7_patternsOf ml_X7_223 (am1_7 h0) h0 kdX7 ⟨rfl, rfl, Nat.le_of_ble_eq_true rfl, Nat.le_of_ble_eq_true rfl⟩ rfl rfl (Nat.le_of_ble_eq_true rfl) dX7_pattern_11 ?_
    refine v_iconst K (v := 1) (by decide) dX7_pattern_14 ?_
    refine v_isub K dX7_pattern_15 ?_
    obtain ⟨r12, u11, e13, hf⟩ := bnd_of hf
    refine v_callSi K (c_X7_within e13) cv_X7_within ml_X7_43 ⟨rfl, rfl, Nat.le_of_ble_eq_true rfl, Nat.le_of_ble_eq_true rfl⟩ rfl rfl (Nat.le_of_ble_eq_true rfl) dX7_pattern_16 ?_
    refine v_if_eq K 29 (by decide) dX7_pattern_19 (fun c14 => ?_) (fun c14 => ?_)
    · have hf := ite_t c14 hf
      refine v_sub [0] rfl ?_
      exact t_X7_pattern_29 h0 K hf
    · have hf := ite_f c14 hf
      refine v_iload_n K 3 rfl rfl dX7_pattern_22 ?_
      obtain ⟨r16, u15, e17, hf⟩ := bnd_of hf
      refine v_callSi K (c_X7_isNet e17) cv_X7_isNet ml_X7_82 ⟨rfl, rfl, Nat.le_of_ble_eq_true rfl, Nat.le_of_ble_eq_true rfl⟩ rfl rfl (Nat.le_of_ble_eq_true rfl) dX7_pattern_23 ?_
      refine v_if_ne K 34 (by decide) dX7_pattern_26 (fun c18 => ?_) (fun c18 => ?_)
      · have hf := ite_f c18 hf
        refine v_aload_n K 0 rfl rfl dX7_pattern_34 ?_
        obtain ⟨r20, u19, e21, hf⟩ := bnd_of hf
        refine v_callVi K (c_X7_outs h0 e21) cv_X7_outs ml_X7_130 (am1_7 h0) h0 kdX7 ⟨rfl, rfl, Nat.le_of_ble_eq_true rfl, Nat.le_of_ble_eq_true rfl⟩ rfl rfl (Nat.le_of_ble_eq_true rfl) dX7_pattern_35 ?_
        refine v_iload_n K 3 rfl rfl dX7_pattern_38 ?_
        obtain ⟨r23, u22, e24, hf⟩ := bnd_of hf
        refine v_callSi K (c_X7_has e24) cv_X7_has ml_X7_151 ⟨rfl, rfl, Nat.le_of_ble_eq_true rfl, Nat.le_of_ble_eq_true rfl⟩ rfl rfl (Nat.le_of_ble_eq_true rfl) dX7_pattern_39 ?_
        refine v_if_eq K 54 (by decide) dX7_pattern_42 (fun c25 => ?_) (fun c25 => ?_)
        · have hf := ite_t c25 hf
          refine v_iconst K (v := (-1)) (by decide) dX7_pattern_54 ?_
          obtain ⟨rfl, rfl⟩ := pair_of hf
          exact v_iret K dX7_pattern_55
        · have hf := ite_f c25 hf
          refine v_aload_n K 0 rfl rfl dX7_pattern_45 ?_
          refine v_iload_n K 2 rfl rfl dX7_pattern_46 ?_
          refine v_iload_n K 3 rfl rfl dX7_pattern_47 ?_
          obtain ⟨r27, u26, e28, hf⟩ := bnd_of hf
          refine v_callVi K (c_X7_patternAt h0 e28) cv_X7_patternAt ml_X7_142 (am1_7 h0) h0 kdX7 ⟨rfl, rfl, Nat.le_of_ble_eq_true rfl, Nat.le_of_ble_eq_true rfl⟩ rfl rfl (Nat.le_of_ble_eq_true rfl) dX7_pattern_48 ?_
          refine v_goto K 55 (by decide) dX7_pattern_51 ?_
          obtain ⟨rfl, rfl⟩ := pair_of hf
          exact v_iret K dX7_pattern_55
      · have hf := ite_t c18 hf
        refine v_sub [0] rfl ?_
        exact t_X7_pattern_29 h0 K hf
abbrev rm_X7_laysAnswers : Room := { frames := 9, cells := 0, slots := 0, locals := 208 }
set_option maxRecDepth 20000 in
theorem t_X7_laysAnswers_103 {M : Mx} {X : Wx} {N : Nat} {o0 : Nat} {p1 : Int32} {o1 : Nat} (h0 : akd o0 = 7) (h1 : akd o1 = 12) {r : Unit} {u' : ASt} (K : OkM 1 M X cX7_laysAnswers 7 RX7 rm_X7_laysAnswers none) {k27 : Int32 → Int32 → ASt → Option (Unit × ASt)} (hk27 : ∀ (x3 : Int32) (x4 : Int32) (u : ASt), k27 x3 x4 u = some (r, u') → V 1 M X (none, u') 7 27 [(0, .ref (X.2.1 o0)), (2, .ref (X.2.1 o1)), (3, .int x3), (4, .int x4)] [] u) {k42 : Int32 → Int32 → Int32 → ASt → Option (Unit × ASt)} (hk42 : ∀ (x3 : Int32) (x4 : Int32) (x5 : Int32) (u : ASt), k42 x3 x4 x5 u = some (r, u') → V 1 M X (none, u') 7 42 [(0, .ref (X.2.1 o0)), (2, .ref (X.2.1 o1)), (3, .int x3), (4, .int x4), (5, .int x5)] [] u) {k54 : Int32 → Int32 → Int32 → Int32 → ASt → Option (Unit × ASt)} (hk54 : ∀ (x3 : Int32) (x4 : Int32) (x5 : Int32) (x6 : Int32) (u : ASt), k54 x3 x4 x5 x6 u = some (r, u') → V 1 M X (none, u') 7 54 [(0, .ref (X.2.1 o0)), (2, .ref (X.2.1 o1)), (3, .int x3), (4, .int x4), (5, .int x5), (6, .int x6)] [] u) {x3 : Int32} {x4 : Int32} {x5 : Int32} {x6 : Int32} {c0 : Nat} {y1 : Int32} {y2 : Int32} {y3 : Int32} (hc0 : akd c0 = 12) {u : ASt} (hf : f_X7_laysAnswers_103 N o0 p1 o1 k27 k42 k54 x3 x4 x5 x6 c0 y1 y2 y3 u = some (r, u')) : V 1 M X (none, u') 7 103 [(0, .ref (X.2.1 o0)), (2, .ref (X.2.1 o1)), (3, .int x3), (4, .int x4), (5, .int x5), (6, .int x6)] [.int y3, .int y2, .int y1, .ref (X.2.1 c0)] u := by
  unfold f_X7_laysAnswers_103 at hf
  refine v_ior K dX7_laysAnswers_103 ?_
  obtain ⟨g1, hf⟩ := chk_of hf
  refine v_iast K (am1_12 hc0) (.inr hc0) g1 dX7_laysAnswers_104 ?_
  refine v_st (fun u2 eu2 => ?_)
  have hf := lte_of eu2 hf
  refine v_iinc K 5 (v := x6 + 1) (ls' := [(6, .int (x6 + 1)), (0, .ref (X.2.1 o0)), (2, .ref (X.2.1 o1)), (3, .int x3), (4, .int x4), (5, .int x5)]) rfl rfl (by decide) rfl dX7_laysAnswers_105 ?_
  refine v_goto K 54 (by decide) dX7_laysAnswers_108 ?_
  refine v_sub [1, 2, 3, 4, 5, 0] rfl ?_
  exact hk54 x3 x4 x5 (x6 + 1) u2 hf
set_option maxRecDepth 20000 in
theorem t_X7_laysAnswers_54 {M : Mx} {X : Wx} {N : Nat} {o0 : Nat} {p1 : Int32} {o1 : Nat} (h0 : akd o0 = 7) (h1 : akd o1 = 12) {r : Unit} {u' : ASt} (K : OkM 1 M X cX7_laysAnswers 7 RX7 rm_X7_laysAnswers none) {k27 : Int32 → Int32 → ASt → Option (Unit × ASt)} (hk27 : ∀ (x3 : Int32) (x4 : Int32) (u : ASt), k27 x3 x4 u = some (r, u') → V 1 M X (none, u') 7 27 [(0, .ref (X.2.1 o0)), (2, .ref (X.2.1 o1)), (3, .int x3), (4, .int x4)] [] u) {k42 : Int32 → Int32 → Int32 → ASt → Option (Unit × ASt)} (hk42 : ∀ (x3 : Int32) (x4 : Int32) (x5 : Int32) (u : ASt), k42 x3 x4 x5 u = some (r, u') → V 1 M X (none, u') 7 42 [(0, .ref (X.2.1 o0)), (2, .ref (X.2.1 o1)), (3, .int x3), (4, .int x4), (5, .int x5)] [] u) : ∀ (n : Nat) (x3 : Int32) (x4 : Int32) (x5 : Int32) (x6 : Int32) (u : ASt), f_X7_laysAnswers_54 N o0 p1 o1 k27 k42 n x3 x4 x5 x6 u = some (r, u') → V 1 M X (none, u') 7 54 [(0, .ref (X.2.1 o0)), (2, .ref (X.2.1 o1)), (3, .int x3), (4, .int x4), (5, .int x5), (6, .int x6)] [] u := by
  intro n
  induction n with
  | zero => intro x3 x4 x5 x6 u hf; cases hf
  | succ n ih =>
    intro x3 x4 x5 x6 u hf
    rw [f_X7_laysAnswers_54] at hf
    refine v_iload K 5 rfl dX7_laysAnswers_54 ?_
    refine v_aload_n K 0 rfl rfl dX7_laysAnswers_56 ?_
    refine v_iload K 4 rfl dX7_laysAnswers_57 ?_
    refine v_iconst K (v := 2) (by decide) dX7_laysAnswers_59 ?_
    obtain ⟨r4, u3, e5, hf⟩ := bnd_of hf
    refine v_callVi K (c_X7_get h0 e5) cv_X7_get ml_X7_55 (am1_7 h0) h0 kdX7 ⟨rfl, rfl, Nat.le_of_ble_eq_true rfl, Nat.le_of_ble_eq_true rfl⟩ rfl rfl (Nat.le_of_ble_eq_true rfl) dX7_laysAnswers_60 ?_
    refine v_icmp_ge K 111 (by decide) dX7_laysAnswers_63 (fun c6 => ?_) (fun c6 => ?_)
    · have hf := ite_t c6 hf
      refine v_iinc K 4 (v := x5 + 1) (ls' := [(5, .int (x5 + 1)), (0, .ref (X.2.1 o0)), (2, .ref (X.2.1 o1)), (3, .int x3), (4, .int x4), (6, .int x6)]) rfl rfl (by decide) rfl dX7_laysAnswers_111 ?_
      refine v_goto K 42 (by decide) dX7_laysAnswers_114 ?_
      refine v_sub [1, 2, 3, 4, 0] rfl ?_
      exact hk42 x3 x4 (x5 + 1) u3 hf
    · have hf := ite_f c6 hf
      refine v_aload_n K 1 rfl rfl dX7_laysAnswers_66 ?_
      refine v_bipush K (v := 6) (by decide) dX7_laysAnswers_67 ?_
      refine v_iload K 4 rfl dX7_laysAnswers_69 ?_
      refine v_imul K dX7_laysAnswers_71 ?_
      refine v_iload K 5 rfl dX7_laysAnswers_72 ?_
      refine v_iadd K dX7_laysAnswers_74 ?_
      refine v_dup2 K rfl rfl dX7_laysAnswers_75 ?_
      obtain ⟨g7, hf⟩ := chk_of hf
      refine v_iald K (am1_12 h1) (.inr h1) g7 dX7_laysAnswers_76 ?_
      refine v_aload_n K 0 rfl rfl dX7_laysAnswers_77 ?_
      refine v_iload K 4 rfl dX7_laysAnswers_78 ?_
      refine v_iload K 5 rfl dX7_laysAnswers_80 ?_
      obtain ⟨r9, u8, e10, hf⟩ := bnd_of hf
      refine v_callVi K (c_X7_isOut h0 e10) cv_X7_isOut ml_X7_124 (am1_7 h0) h0 kdX7 ⟨rfl, rfl, Nat.le_of_ble_eq_true rfl, Nat.le_of_ble_eq_true rfl⟩ rfl rfl (Nat.le_of_ble_eq_true rfl) dX7_laysAnswers_82 ?_
      refine v_if_eq K 92 (by decide) dX7_laysAnswers_85 (fun c11 => ?_) (fun c11 => ?_)
      · have hf := ite_t c11 hf
        refine v_aload_n K 0 rfl rfl dX7_laysAnswers_92 ?_
        refine v_iload K 4 rfl dX7_laysAnswers_93 ?_
        refine v_iload K 5 rfl dX7_laysAnswers_95 ?_
        obtain ⟨r13, u12, e14, hf⟩ := bnd_of hf
        refine v_callVi K (c_X7_sees h0 e14) cv_X7_sees ml_X7_170 (am1_7 h0) h0 kdX7 ⟨rfl, rfl, Nat.le_of_ble_eq_true rfl, Nat.le_of_ble_eq_true rfl⟩ rfl rfl (Nat.le_of_ble_eq_true rfl) dX7_laysAnswers_97 ?_
        refine v_iload K 3 rfl dX7_laysAnswers_100 ?_
        refine v_ishl K dX7_laysAnswers_102 ?_
        exact t_X7_laysAnswers_103 h0 h1 K hk27 hk42 ih h1 hf
      · have hf := ite_f c11 hf
        refine v_iconst K (v := 0) (by decide) dX7_laysAnswers_88 ?_
        refine v_goto K 103 (by decide) dX7_laysAnswers_89 ?_
        exact t_X7_laysAnswers_103 h0 h1 K hk27 hk42 ih h1 hf
set_option maxRecDepth 20000 in
theorem t_X7_laysAnswers_42 {M : Mx} {X : Wx} {N : Nat} {o0 : Nat} {p1 : Int32} {o1 : Nat} (h0 : akd o0 = 7) (h1 : akd o1 = 12) {r : Unit} {u' : ASt} (K : OkM 1 M X cX7_laysAnswers 7 RX7 rm_X7_laysAnswers none) {k27 : Int32 → Int32 → ASt → Option (Unit × ASt)} (hk27 : ∀ (x3 : Int32) (x4 : Int32) (u : ASt), k27 x3 x4 u = some (r, u') → V 1 M X (none, u') 7 27 [(0, .ref (X.2.1 o0)), (2, .ref (X.2.1 o1)), (3, .int x3), (4, .int x4)] [] u) : ∀ (n : Nat) (x3 : Int32) (x4 : Int32) (x5 : Int32) (u : ASt), f_X7_laysAnswers_42 N o0 p1 o1 k27 n x3 x4 x5 u = some (r, u') → V 1 M X (none, u') 7 42 [(0, .ref (X.2.1 o0)), (2, .ref (X.2.1 o1)), (3, .int x3), (4, .int x4), (5, .int x5)] [] u := by
  intro n
  induction n with
  | zero => intro x3 x4 x5 u hf; cases hf
  | succ n ih =>
    intro x3 x4 x5 u hf
    rw [f_X7_laysAnswers_42] at hf
    refine v_iload K 4 rfl dX7_laysAnswers_42 ?_
    refine v_aload_n K 0 rfl rfl dX7_laysAnswers_44 ?_
    obtain ⟨r16, u15, e17, hf⟩ := bnd_of hf
    refine v_callVi K (c_X7_chips h0 e17) cv_X7_chips ml_X7_121 (am1_7 h0) h0 kdX7 ⟨rfl, rfl, Nat.le_of_ble_eq_true rfl, Nat.le_of_ble_eq_true rfl⟩ rfl rfl (Nat.le_of_ble_eq_true rfl) dX7_laysAnswers_45 ?_
    refine v_icmp_ge K 117 (by decide) dX7_laysAnswers_48 (fun c18 => ?_) (fun c18 => ?_)
    · have hf := ite_t c18 hf
      refine v_iinc K 3 (v := x4 + 1) (ls' := [(4, .int (x4 + 1)), (0, .ref (X.2.1 o0)), (2, .ref (X.2.1 o1)), (3, .int x3), (5, .int x5)]) rfl rfl (by decide) rfl dX7_laysAnswers_117 ?_
      refine v_goto K 27 (by decide) dX7_laysAnswers_120 ?_
      refine v_sub [1, 2, 3, 0] rfl ?_
      exact hk27 x3 (x4 + 1) u15 hf
    · have hf := ite_f c18 hf
      refine v_iconst K (v := 0) (by decide) dX7_laysAnswers_51 ?_
      refine v_istore K (ls' := [(6, .int 0), (0, .ref (X.2.1 o0)), (2, .ref (X.2.1 o1)), (3, .int x3), (4, .int x4), (5, .int x5)]) (by decide) rfl dX7_laysAnswers_52 ?_
      refine v_sub [1, 2, 3, 4, 5, 0] rfl ?_
      exact t_X7_laysAnswers_54 h0 h1 K hk27 ih N x3 x4 x5 0 u15 hf
set_option maxRecDepth 20000 in
theorem t_X7_laysAnswers_27 {M : Mx} {X : Wx} {N : Nat} {o0 : Nat} {p1 : Int32} {o1 : Nat} (h0 : akd o0 = 7) (h1 : akd o1 = 12) {r : Unit} {u' : ASt} (K : OkM 1 M X cX7_laysAnswers 7 RX7 rm_X7_laysAnswers none) : ∀ (n : Nat) (x3 : Int32) (x4 : Int32) (u : ASt), f_X7_laysAnswers_27 N o0 p1 o1 n x3 x4 u = some (r, u') → V 1 M X (none, u') 7 27 [(0, .ref (X.2.1 o0)), (2, .ref (X.2.1 o1)), (3, .int x3), (4, .int x4)] [] u := by
  intro n
  induction n with
  | zero => intro x3 x4 u hf; cases hf
  | succ n ih =>
    intro x3 x4 u hf
    rw [f_X7_laysAnswers_27] at hf
    refine v_iload K 3 rfl dX7_laysAnswers_27 ?_
    refine v_iload_n K 2 rfl rfl dX7_laysAnswers_29 ?_
    refine v_icmp_ge K 123 (by decide) dX7_laysAnswers_30 (fun c19 => ?_) (fun c19 => ?_)
    · have hf := ite_t c19 hf
      obtain ⟨rfl, rfl⟩ := pair_of hf
      exact v_vret K dX7_laysAnswers_123
    · have hf := ite_f c19 hf
      refine v_aload_n K 0 rfl rfl dX7_laysAnswers_33 ?_
      refine v_iload K 3 rfl dX7_laysAnswers_34 ?_
      obtain ⟨r21, u20, e22, hf⟩ := bnd_of hf
      refine v_callVv K (c_X7_laysNets h0 e22) cv_X7_laysNets ml_X7_161 (am1_7 h0) h0 kdX7 ⟨rfl, rfl, Nat.le_of_ble_eq_true rfl, Nat.le_of_ble_eq_true rfl⟩ rfl rfl (Nat.le_of_ble_eq_true rfl) dX7_laysAnswers_36 ?_
      refine v_iconst K (v := 0) (by decide) dX7_laysAnswers_39 ?_
      refine v_istore K (ls' := [(5, .int 0), (0, .ref (X.2.1 o0)), (2, .ref (X.2.1 o1)), (3, .int x3), (4, .int x4)]) (by decide) rfl dX7_laysAnswers_40 ?_
      refine v_sub [1, 2, 3, 4, 0] rfl ?_
      exact t_X7_laysAnswers_42 h0 h1 K ih N x3 x4 0 u20 hf
set_option maxRecDepth 20000 in
theorem t_X7_laysAnswers_2 {M : Mx} {X : Wx} {N : Nat} {o0 : Nat} {p1 : Int32} {o1 : Nat} (h0 : akd o0 = 7) (h1 : akd o1 = 12) {r : Unit} {u' : ASt} (K : OkM 1 M X cX7_laysAnswers 7 RX7 rm_X7_laysAnswers none) : ∀ (n : Nat) (x3 : Int32) (u : ASt), f_X7_laysAnswers_2 N o0 p1 o1 n x3 u = some (r, u') → V 1 M X (none, u') 7 2 [(0, .ref (X.2.1 o0)), (1, .int p1), (2, .ref (X.2.1 o1)), (3, .int x3)] [] u := by
  intro n
  induction n with
  | zero => intro x3 u hf; cases hf
  | succ n ih =>
    intro x3 u hf
    rw [f_X7_laysAnswers_2] at hf
    refine v_iload_n K 3 rfl rfl dX7_laysAnswers_2 ?_
    refine v_bipush K (v := 24) (by decide) dX7_laysAnswers_3 ?_
    refine v_icmp_ge K 18 (by decide) dX7_laysAnswers_5 (fun c23 => ?_) (fun c23 => ?_)
    · have hf := ite_t c23 hf
      refine v_aload_n K 0 rfl rfl dX7_laysAnswers_18 ?_
      refine v_iload_n K 1 rfl rfl dX7_laysAnswers_19 ?_
      obtain ⟨r25, u24, e26, hf⟩ := bnd_of hf
      refine v_callVi K (c_X7_patternsOf h0 e26) cv_X7_patternsOf ml_X7_223 (am1_7 h0) h0 kdX7 ⟨rfl, rfl, Nat.le_of_ble_eq_true rfl, Nat.le_of_ble_eq_true rfl⟩ rfl rfl (Nat.le_of_ble_eq_true rfl) dX7_laysAnswers_20 ?_
      refine v_istore_n K (ls' := [(3, .int r25), (0, .ref (X.2.1 o0)), (1, .int p1), (2, .ref (X.2.1 o1))]) rfl (by decide) rfl dX7_laysAnswers_23 ?_
      refine v_iconst K (v := 0) (by decide) dX7_laysAnswers_24 ?_
      refine v_istore K (ls' := [(4, .int 0), (3, .int r25), (0, .ref (X.2.1 o0)), (1, .int p1), (2, .ref (X.2.1 o1))]) (by decide) rfl dX7_laysAnswers_25 ?_
      refine v_sub [2, 4, 1, 0] rfl ?_
      exact t_X7_laysAnswers_27 h0 h1 K N r25 0 u24 hf
    · have hf := ite_f c23 hf
      refine v_aload_n K 2 rfl rfl dX7_laysAnswers_8 ?_
      refine v_iload_n K 3 rfl rfl dX7_laysAnswers_9 ?_
      refine v_iconst K (v := 0) (by decide) dX7_laysAnswers_10 ?_
      obtain ⟨g27, hf⟩ := chk_of hf
      refine v_iast K (am1_12 h1) (.inr h1) g27 dX7_laysAnswers_11 ?_
      refine v_st (fun u28 eu28 => ?_)
      have hf := lte_of eu28 hf
      refine v_iinc K 3 (v := x3 + 1) (ls' := [(3, .int (x3 + 1)), (0, .ref (X.2.1 o0)), (1, .int p1), (2, .ref (X.2.1 o1))]) rfl rfl (by decide) rfl dX7_laysAnswers_12 ?_
      refine v_goto K 2 (by decide) dX7_laysAnswers_15 ?_
      refine v_sub [1, 2, 3, 0] rfl ?_
      exact ih (x3 + 1) u28 hf
set_option maxRecDepth 20000 in
theorem c_X7_laysAnswers {X : Wx} {N : Nat} {o0 : Nat} {p1 : Int32} {o1 : Nat} (h0 : akd o0 = 7) (h1 : akd o1 = 12) {u u' : ASt} {r : Unit} (hf : f_X7_laysAnswers N o0 p1 o1 u = some (r, u')) (l : Launch) : Met l yX7_laysAnswers (ws_ yX7_laysAnswers cX7_laysAnswers 7 none) rm_X7_laysAnswers (Pg 1 X u [.ref (X.2.1 o0), .int p1, .ref (X.2.1 o1)]) (Qg 1 X (none) u') 0 0 (Aw 1 X) := by
  refine v_met (res := (none, u')) (by decide) (Nat.le_of_ble_eq_true rfl) (fun M K => ?_)
  have K : OkM 1 M X cX7_laysAnswers 7 RX7 rm_X7_laysAnswers none := K
  show V 1 M X (none, u') 7 0 [(0, .ref (X.2.1 o0)), (1, .int p1), (2, .ref (X.2.1 o1))] [] u
  unfold f_X7_laysAnswers at hf
  refine v_iconst K (v := 0) (by decide) dX7_laysAnswers_0 ?_
  refine v_istore_n K (ls' := [(3, .int 0), (0, .ref (X.2.1 o0)), (1, .int p1), (2, .ref (X.2.1 o1))]) rfl (by decide) rfl dX7_laysAnswers_1 ?_
  refine v_sub [1, 2, 3, 0] rfl ?_
  exact t_X7_laysAnswers_2 h0 h1 K N 0 u hf
abbrev rm_X7_laysAnswersNow : Room := { frames := 10, cells := 0, slots := 0, locals := 234 }
set_option maxRecDepth 20000 in
theorem c_X7_laysAnswersNow {X : Wx} {N : Nat} {o0 : Nat} {p1 : Int32} (h0 : akd o0 = 7) {u u' : ASt} {r : Unit} (hf : f_X7_laysAnswersNow N o0 p1 u = some (r, u')) (l : Launch) : Met l yX7_laysAnswersNow (ws_ yX7_laysAnswersNow cX7_laysAnswersNow 2 none) rm_X7_laysAnswersNow (Pg 1 X u [.ref (X.2.1 o0), .int p1]) (Qg 1 X (none) u') 0 0 (Aw 1 X) := by
  refine v_met (res := (none, u')) (by decide) (Nat.le_of_ble_eq_true rfl) (fun M K => ?_)
  have K : OkM 1 M X cX7_laysAnswersNow 2 RX7 rm_X7_laysAnswersNow none := K
  show V 1 M X (none, u') 2 0 [(0, .ref (X.2.1 o0)), (1, .int p1)] [] u
  unfold f_X7_laysAnswersNow at hf
  refine v_aload_n K 0 rfl rfl dX7_laysAnswersNow_0 ?_
  obtain ⟨r2, u1, e3, hf⟩ := bnd_of hf
  refine v_callVv K (c_X7_usesAll h0 e3) cv_X7_usesAll ml_X7_158 (am1_7 h0) h0 kdX7 ⟨rfl, rfl, Nat.le_of_ble_eq_true rfl, Nat.le_of_ble_eq_true rfl⟩ rfl rfl (Nat.le_of_ble_eq_true rfl) dX7_laysAnswersNow_1 ?_
  refine v_aload_n K 0 rfl rfl dX7_laysAnswersNow_4 ?_
  refine v_iload_n K 1 rfl rfl dX7_laysAnswersNow_5 ?_
  refine v_aload_n K 0 rfl rfl dX7_laysAnswersNow_6 ?_
  refine gf_7_11 K h0 fl_X7_31 dX7_laysAnswersNow_7 ?_
  obtain ⟨r5, u4, e6, hf⟩ := bnd_of hf
  refine v_callVv K (c_X7_laysAnswers h0 (ak_7_11 h0) e6) cv_X7_laysAnswers ml_X7_226 (am1_7 h0) h0 kdX7 ⟨rfl, rfl, Nat.le_of_ble_eq_true rfl, Nat.le_of_ble_eq_true rfl⟩ rfl rfl (Nat.le_of_ble_eq_true rfl) dX7_laysAnswersNow_10 ?_
  obtain ⟨rfl, rfl⟩ := pair_of hf
  exact v_vret K dX7_laysAnswersNow_13
abbrev rm_X7_answer : Room := { frames := 11, cells := 0, slots := 0, locals := 255 }
set_option maxRecDepth 20000 in
theorem t_X7_answer_25 {M : Mx} {X : Wx} {N : Nat} {o0 : Nat} {p1 : Int32} {p2 : Int32} {p3 : Int32} (h0 : akd o0 = 7) {r : Int32} {u' : ASt} (K : OkM 1 M X cX7_answer 4 RX7 rm_X7_answer (some .int)) {u : ASt} (hf : f_X7_answer_25 N o0 p1 p2 p3  u = some (r, u')) : V 1 M X (some (.int r), u') 4 25 [(0, .ref (X.2.1 o0))] [] u := by
  unfold f_X7_answer_25 at hf
  refine v_aload_n K 0 rfl rfl dX7_answer_25 ?_
  obtain ⟨r2, u1, e3, hf⟩ := bnd_of hf
  refine v_callVi K (c_X7_bad h0 e3) cv_X7_bad ml_X7_72 (am1_7 h0) h0 kdX7 ⟨rfl, rfl, Nat.le_of_ble_eq_true rfl, Nat.le_of_ble_eq_true rfl⟩ rfl rfl (Nat.le_of_ble_eq_true rfl) dX7_answer_26 ?_
  obtain ⟨rfl, rfl⟩ := pair_of hf
  exact v_iret K dX7_answer_29
set_option maxRecDepth 20000 in
theorem c_X7_answer {X : Wx} {N : Nat} {o0 : Nat} {p1 : Int32} {p2 : Int32} {p3 : Int32} (h0 : akd o0 = 7) {u u' : ASt} {r : Int32} (hf : f_X7_answer N o0 p1 p2 p3 u = some (r, u')) (l : Launch) : Met l yX7_answer (ws_ yX7_answer cX7_answer 4 (some .int)) rm_X7_answer (Pg 1 X u [.ref (X.2.1 o0), .int p1, .int p2, .int p3]) (Qg 1 X (some (.int r)) u') 0 0 (Aw 1 X) := by
  refine v_met (res := (some (.int r), u')) (by decide) (Nat.le_of_ble_eq_true rfl) (fun M K => ?_)
  have K : OkM 1 M X cX7_answer 4 RX7 rm_X7_answer (some .int) := K
  show V 1 M X (some (.int r), u') 4 0 [(0, .ref (X.2.1 o0)), (1, .int p1), (2, .int p2), (3, .int p3)] [] u
  unfold f_X7_answer at hf
  refine v_iload_n K 1 rfl rfl dX7_answer_0 ?_
  obtain ⟨r5, u4, e6, hf⟩ := bnd_of hf
  refine v_callSi K (c_X7_isBit e6) cv_X7_isBit ml_X7_79 ⟨rfl, rfl, Nat.le_of_ble_eq_true rfl, Nat.le_of_ble_eq_true rfl⟩ rfl rfl (Nat.le_of_ble_eq_true rfl) dX7_answer_1 ?_
  refine v_if_eq K 25 (by decide) dX7_answer_4 (fun c7 => ?_) (fun c7 => ?_)
  · have hf := ite_t c7 hf
    refine v_sub [0] rfl ?_
    exact t_X7_answer_25 h0 K hf
  · have hf := ite_f c7 hf
    refine v_aload_n K 0 rfl rfl dX7_answer_7 ?_
    refine v_iload_n K 2 rfl rfl dX7_answer_8 ?_
    refine v_iload_n K 3 rfl rfl dX7_answer_9 ?_
    obtain ⟨r9, u8, e10, hf⟩ := bnd_of hf
    refine v_callVi K (c_X7_isCell h0 e10) cv_X7_isCell ml_X7_85 (am1_7 h0) h0 kdX7 ⟨rfl, rfl, Nat.le_of_ble_eq_true rfl, Nat.le_of_ble_eq_true rfl⟩ rfl rfl (Nat.le_of_ble_eq_true rfl) dX7_answer_10 ?_
    refine v_if_eq K 25 (by decide) dX7_answer_13 (fun c11 => ?_) (fun c11 => ?_)
    · have hf := ite_t c11 hf
      refine v_sub [0] rfl ?_
      exact t_X7_answer_25 h0 K hf
    · have hf := ite_f c11 hf
      refine v_aload_n K 0 rfl rfl dX7_answer_16 ?_
      refine v_iload_n K 2 rfl rfl dX7_answer_17 ?_
      refine v_iload_n K 3 rfl rfl dX7_answer_18 ?_
      obtain ⟨r13, u12, e14, hf⟩ := bnd_of hf
      refine v_callVi K (c_X7_isOut h0 e14) cv_X7_isOut ml_X7_124 (am1_7 h0) h0 kdX7 ⟨rfl, rfl, Nat.le_of_ble_eq_true rfl, Nat.le_of_ble_eq_true rfl⟩ rfl rfl (Nat.le_of_ble_eq_true rfl) dX7_answer_19 ?_
      refine v_if_eq K 30 (by decide) dX7_answer_22 (fun c15 => ?_) (fun c15 => ?_)
      · have hf := ite_t c15 hf
        refine v_aload_n K 0 rfl rfl dX7_answer_30 ?_
        refine v_iload_n K 1 rfl rfl dX7_answer_31 ?_
        obtain ⟨r17, u16, e18, hf⟩ := bnd_of hf
        refine v_callVv K (c_X7_laysAnswersNow h0 e18) cv_X7_laysAnswersNow ml_X7_230 (am1_7 h0) h0 kdX7 ⟨rfl, rfl, Nat.le_of_ble_eq_true rfl, Nat.le_of_ble_eq_true rfl⟩ rfl rfl (Nat.le_of_ble_eq_true rfl) dX7_answer_32 ?_
        refine v_aload_n K 0 rfl rfl dX7_answer_35 ?_
        refine gf_7_11 K h0 fl_X7_31 dX7_answer_36 ?_
        refine v_bipush K (v := 6) (by decide) dX7_answer_39 ?_
        refine v_iload_n K 2 rfl rfl dX7_answer_41 ?_
        refine v_imul K dX7_answer_42 ?_
        refine v_iload_n K 3 rfl rfl dX7_answer_43 ?_
        refine v_iadd K dX7_answer_44 ?_
        obtain ⟨g19, hf⟩ := chk_of hf
        refine v_iald K (am1_12 (ak_7_11 h0)) (.inr (ak_7_11 h0)) g19 dX7_answer_45 ?_
        obtain ⟨rfl, rfl⟩ := pair_of hf
        exact v_iret K dX7_answer_46
      · have hf := ite_f c15 hf
        refine v_sub [0] rfl ?_
        exact t_X7_answer_25 h0 K hf
abbrev rm_X7_answersSo : Room := { frames := 10, cells := 0, slots := 0, locals := 234 }
set_option maxRecDepth 20000 in
theorem t_X7_answersSo_52 {M : Mx} {X : Wx} {N : Nat} {o0 : Nat} {p1 : Int32} {p2 : Int32} (h0 : akd o0 = 7) {r : Int32} {u' : ASt} (K : OkM 1 M X cX7_answersSo 5 RX7 rm_X7_answersSo (some .boolean)) {k19 : Int32 → Int32 → ASt → Option (Int32 × ASt)} (hk19 : ∀ (x3 : Int32) (x4 : Int32) (u : ASt), k19 x3 x4 u = some (r, u') → V 1 M X (some (.int r), u') 5 19 [(0, .ref (X.2.1 o0)), (3, .int x3), (4, .int x4)] [] u) {x4 : Int32} {y0 : Int32} {u : ASt} (hf : f_X7_answersSo_52 N o0 p1 p2 k19 x4 y0 u = some (r, u')) : V 1 M X (some (.int r), u') 5 52 [(0, .ref (X.2.1 o0)), (4, .int x4)] [.int y0] u := by
  unfold f_X7_answersSo_52 at hf
  refine v_istore_n K (ls' := [(3, .int y0), (0, .ref (X.2.1 o0)), (4, .int x4)]) rfl (by decide) rfl dX7_answersSo_52 ?_
  refine v_iinc K 2 (v := x4 + 1) (ls' := [(4, .int (x4 + 1)), (3, .int y0), (0, .ref (X.2.1 o0))]) rfl rfl (by decide) rfl dX7_answersSo_53 ?_
  refine v_goto K 19 (by decide) dX7_answersSo_56 ?_
  refine v_sub [2, 1, 0] rfl ?_
  exact hk19 y0 (x4 + 1) u hf
set_option maxRecDepth 20000 in
theorem t_X7_answersSo_51 {M : Mx} {X : Wx} {N : Nat} {o0 : Nat} {p1 : Int32} {p2 : Int32} (h0 : akd o0 = 7) {r : Int32} {u' : ASt} (K : OkM 1 M X cX7_answersSo 5 RX7 rm_X7_answersSo (some .boolean)) {k19 : Int32 → Int32 → ASt → Option (Int32 × ASt)} (hk19 : ∀ (x3 : Int32) (x4 : Int32) (u : ASt), k19 x3 x4 u = some (r, u') → V 1 M X (some (.int r), u') 5 19 [(0, .ref (X.2.1 o0)), (3, .int x3), (4, .int x4)] [] u) {x4 : Int32} {u : ASt} (hf : f_X7_answersSo_51 N o0 p1 p2 k19 x4 u = some (r, u')) : V 1 M X (some (.int r), u') 5 51 [(0, .ref (X.2.1 o0)), (4, .int x4)] [] u := by
  unfold f_X7_answersSo_51 at hf
  refine v_iconst K (v := 0) (by decide) dX7_answersSo_51 ?_
  exact t_X7_answersSo_52 h0 K hk19 hf
set_option maxRecDepth 20000 in
theorem t_X7_answersSo_19 {M : Mx} {X : Wx} {N : Nat} {o0 : Nat} {p1 : Int32} {p2 : Int32} (h0 : akd o0 = 7) {r : Int32} {u' : ASt} (K : OkM 1 M X cX7_answersSo 5 RX7 rm_X7_answersSo (some .boolean)) : ∀ (n : Nat) (x3 : Int32) (x4 : Int32) (u : ASt), f_X7_answersSo_19 N o0 p1 p2 n x3 x4 u = some (r, u') → V 1 M X (some (.int r), u') 5 19 [(0, .ref (X.2.1 o0)), (3, .int x3), (4, .int x4)] [] u := by
  intro n
  induction n with
  | zero => intro x3 x4 u hf; cases hf
  | succ n ih =>
    intro x3 x4 u hf
    rw [f_X7_answersSo_19] at hf
    refine v_iload K 2 rfl dX7_answersSo_19 ?_
    refine v_bipush K (v := 24) (by decide) dX7_answersSo_21 ?_
    refine v_icmp_ge K 59 (by decide) dX7_answersSo_23 (fun c1 => ?_) (fun c1 => ?_)
    · have hf := ite_t c1 hf
      refine v_iload_n K 1 rfl rfl dX7_answersSo_59 ?_
      obtain ⟨g2, hf⟩ := chk_of hf
      obtain ⟨rfl, rfl⟩ := pair_of hf
      exact v_zret K g2 dX7_answersSo_60
    · have hf := ite_f c1 hf
      refine v_iload_n K 1 rfl rfl dX7_answersSo_26 ?_
      refine v_if_eq K 51 (by decide) dX7_answersSo_27 (fun c3 => ?_) (fun c3 => ?_)
      · have hf := ite_t c3 hf
        refine v_sub [0, 2] rfl ?_
        exact t_X7_answersSo_51 h0 K ih hf
      · have hf := ite_f c3 hf
        refine v_aload_n K 0 rfl rfl dX7_answersSo_30 ?_
        refine gf_7_11 K h0 fl_X7_31 dX7_answersSo_31 ?_
        refine v_iload K 2 rfl dX7_answersSo_34 ?_
        obtain ⟨g4, hf⟩ := chk_of hf
        refine v_iald K (am1_12 (ak_7_11 h0)) (.inr (ak_7_11 h0)) g4 dX7_answersSo_36 ?_
        refine v_aload_n K 0 rfl rfl dX7_answersSo_37 ?_
        refine gf_7_12 K h0 fl_X7_34 dX7_answersSo_38 ?_
        refine v_iload K 2 rfl dX7_answersSo_41 ?_
        obtain ⟨g5, hf⟩ := chk_of hf
        refine v_iald K (am1_12 (ak_7_12 h0)) (.inr (ak_7_12 h0)) g5 dX7_answersSo_43 ?_
        refine v_icmp_ne K 51 (by decide) dX7_answersSo_44 (fun c6 => ?_) (fun c6 => ?_)
        · have hf := ite_f c6 hf
          refine v_sub [0, 2] rfl ?_
          exact t_X7_answersSo_51 h0 K ih hf
        · have hf := ite_t c6 hf
          refine v_iconst K (v := 1) (by decide) dX7_answersSo_47 ?_
          refine v_goto K 52 (by decide) dX7_answersSo_48 ?_
          refine v_sub [0, 2] rfl ?_
          exact t_X7_answersSo_52 h0 K ih hf
set_option maxRecDepth 20000 in
theorem c_X7_answersSo {X : Wx} {N : Nat} {o0 : Nat} {p1 : Int32} {p2 : Int32} (h0 : akd o0 = 7) {u u' : ASt} {r : Int32} (hf : f_X7_answersSo N o0 p1 p2 u = some (r, u')) (l : Launch) : Met l yX7_answersSo (ws_ yX7_answersSo cX7_answersSo 5 (some .boolean)) rm_X7_answersSo (Pg 1 X u [.ref (X.2.1 o0), .int p1, .int p2]) (Qg 1 X (some (.int r)) u') 0 0 (Aw 1 X) := by
  refine v_met (res := (some (.int r), u')) (by decide) (Nat.le_of_ble_eq_true rfl) (fun M K => ?_)
  have K : OkM 1 M X cX7_answersSo 5 RX7 rm_X7_answersSo (some .boolean) := K
  show V 1 M X (some (.int r), u') 5 0 [(0, .ref (X.2.1 o0)), (1, .int p1), (2, .int p2)] [] u
  unfold f_X7_answersSo at hf
  refine v_aload_n K 0 rfl rfl dX7_answersSo_0 ?_
  refine v_iload_n K 2 rfl rfl dX7_answersSo_1 ?_
  obtain ⟨r8, u7, e9, hf⟩ := bnd_of hf
  refine v_callVv K (c_X7_usesOne h0 e9) cv_X7_usesOne ml_X7_233 (am1_7 h0) h0 kdX7 ⟨rfl, rfl, Nat.le_of_ble_eq_true rfl, Nat.le_of_ble_eq_true rfl⟩ rfl rfl (Nat.le_of_ble_eq_true rfl) dX7_answersSo_2 ?_
  refine v_aload_n K 0 rfl rfl dX7_answersSo_5 ?_
  refine v_iload_n K 1 rfl rfl dX7_answersSo_6 ?_
  refine v_aload_n K 0 rfl rfl dX7_answersSo_7 ?_
  refine gf_7_12 K h0 fl_X7_34 dX7_answersSo_8 ?_
  obtain ⟨r11, u10, e12, hf⟩ := bnd_of hf
  refine v_callVv K (c_X7_laysAnswers h0 (ak_7_12 h0) e12) cv_X7_laysAnswers ml_X7_226 (am1_7 h0) h0 kdX7 ⟨rfl, rfl, Nat.le_of_ble_eq_true rfl, Nat.le_of_ble_eq_true rfl⟩ rfl rfl (Nat.le_of_ble_eq_true rfl) dX7_answersSo_11 ?_
  refine v_iconst K (v := 1) (by decide) dX7_answersSo_14 ?_
  refine v_istore_n K (ls' := [(3, .int 1), (0, .ref (X.2.1 o0)), (1, .int p1), (2, .int p2)]) rfl (by decide) rfl dX7_answersSo_15 ?_
  refine v_iconst K (v := 0) (by decide) dX7_answersSo_16 ?_
  refine v_istore K (ls' := [(4, .int 0), (3, .int 1), (0, .ref (X.2.1 o0)), (1, .int p1), (2, .int p2)]) (by decide) rfl dX7_answersSo_17 ?_
  refine v_sub [2, 1, 0] rfl ?_
  exact t_X7_answersSo_19 h0 K N 1 0 u10 hf
abbrev rm_X7_seenBy : Room := { frames := 11, cells := 0, slots := 0, locals := 258 }
set_option maxRecDepth 20000 in
theorem c_X7_seenBy {X : Wx} {N : Nat} {o0 : Nat} {p1 : Int32} (h0 : akd o0 = 7) {u u' : ASt} {r : Int32} (hf : f_X7_seenBy N o0 p1 u = some (r, u')) (l : Launch) : Met l yX7_seenBy (ws_ yX7_seenBy cX7_seenBy 2 (some .int)) rm_X7_seenBy (Pg 1 X u [.ref (X.2.1 o0), .int p1]) (Qg 1 X (some (.int r)) u') 0 0 (Aw 1 X) := by
  refine v_met (res := (some (.int r), u')) (by decide) (Nat.le_of_ble_eq_true rfl) (fun M K => ?_)
  have K : OkM 1 M X cX7_seenBy 2 RX7 rm_X7_seenBy (some .int) := K
  show V 1 M X (some (.int r), u') 2 0 [(0, .ref (X.2.1 o0)), (1, .int p1)] [] u
  unfold f_X7_seenBy at hf
  refine v_aload_n K 0 rfl rfl dX7_seenBy_0 ?_
  refine v_iload_n K 1 rfl rfl dX7_seenBy_1 ?_
  obtain ⟨r2, u1, e3, hf⟩ := bnd_of hf
  refine v_callVv K (c_X7_laysAnswersNow h0 e3) cv_X7_laysAnswersNow ml_X7_230 (am1_7 h0) h0 kdX7 ⟨rfl, rfl, Nat.le_of_ble_eq_true rfl, Nat.le_of_ble_eq_true rfl⟩ rfl rfl (Nat.le_of_ble_eq_true rfl) dX7_seenBy_2 ?_
  refine v_aload_n K 0 rfl rfl dX7_seenBy_5 ?_
  refine v_iload_n K 1 rfl rfl dX7_seenBy_6 ?_
  refine v_iconst K (v := 0) (by decide) dX7_seenBy_7 ?_
  obtain ⟨r5, u4, e6, hf⟩ := bnd_of hf
  refine v_callVi K (c_X7_answersSo h0 e6) cv_X7_answersSo ml_X7_236 (am1_7 h0) h0 kdX7 ⟨rfl, rfl, Nat.le_of_ble_eq_true rfl, Nat.le_of_ble_eq_true rfl⟩ rfl rfl (Nat.le_of_ble_eq_true rfl) dX7_seenBy_8 ?_
  refine v_if_eq K 18 (by decide) dX7_seenBy_11 (fun c7 => ?_) (fun c7 => ?_)
  · have hf := ite_t c7 hf
    refine v_iconst K (v := 1) (by decide) dX7_seenBy_18 ?_
    obtain ⟨rfl, rfl⟩ := pair_of hf
    exact v_iret K dX7_seenBy_19
  · have hf := ite_f c7 hf
    refine v_iconst K (v := 0) (by decide) dX7_seenBy_14 ?_
    refine v_goto K 19 (by decide) dX7_seenBy_15 ?_
    obtain ⟨rfl, rfl⟩ := pair_of hf
    exact v_iret K dX7_seenBy_19
abbrev rm_X7_seen : Room := { frames := 12, cells := 0, slots := 0, locals := 279 }
set_option maxRecDepth 20000 in
theorem c_X7_seen {X : Wx} {N : Nat} {o0 : Nat} {p1 : Int32} (h0 : akd o0 = 7) {u u' : ASt} {r : Int32} (hf : f_X7_seen N o0 p1 u = some (r, u')) (l : Launch) : Met l yX7_seen (ws_ yX7_seen cX7_seen 2 (some .int)) rm_X7_seen (Pg 1 X u [.ref (X.2.1 o0), .int p1]) (Qg 1 X (some (.int r)) u') 0 0 (Aw 1 X) := by
  refine v_met (res := (some (.int r), u')) (by decide) (Nat.le_of_ble_eq_true rfl) (fun M K => ?_)
  have K : OkM 1 M X cX7_seen 2 RX7 rm_X7_seen (some .int) := K
  show V 1 M X (some (.int r), u') 2 0 [(0, .ref (X.2.1 o0)), (1, .int p1)] [] u
  unfold f_X7_seen at hf
  refine v_iload_n K 1 rfl rfl dX7_seen_0 ?_
  obtain ⟨r2, u1, e3, hf⟩ := bnd_of hf
  refine v_callSi K (c_X7_isBit e3) cv_X7_isBit ml_X7_79 ⟨rfl, rfl, Nat.le_of_ble_eq_true rfl, Nat.le_of_ble_eq_true rfl⟩ rfl rfl (Nat.le_of_ble_eq_true rfl) dX7_seen_1 ?_
  refine v_if_eq K 15 (by decide) dX7_seen_4 (fun c4 => ?_) (fun c4 => ?_)
  · have hf := ite_t c4 hf
    refine v_aload_n K 0 rfl rfl dX7_seen_15 ?_
    obtain ⟨r6, u5, e7, hf⟩ := bnd_of hf
    refine v_callVi K (c_X7_bad h0 e7) cv_X7_bad ml_X7_72 (am1_7 h0) h0 kdX7 ⟨rfl, rfl, Nat.le_of_ble_eq_true rfl, Nat.le_of_ble_eq_true rfl⟩ rfl rfl (Nat.le_of_ble_eq_true rfl) dX7_seen_16 ?_
    obtain ⟨rfl, rfl⟩ := pair_of hf
    exact v_iret K dX7_seen_19
  · have hf := ite_f c4 hf
    refine v_aload_n K 0 rfl rfl dX7_seen_7 ?_
    refine v_iload_n K 1 rfl rfl dX7_seen_8 ?_
    obtain ⟨r9, u8, e10, hf⟩ := bnd_of hf
    refine v_callVi K (c_X7_seenBy h0 e10) cv_X7_seenBy ml_X7_239 (am1_7 h0) h0 kdX7 ⟨rfl, rfl, Nat.le_of_ble_eq_true rfl, Nat.le_of_ble_eq_true rfl⟩ rfl rfl (Nat.le_of_ble_eq_true rfl) dX7_seen_9 ?_
    refine v_goto K 19 (by decide) dX7_seen_12 ?_
    obtain ⟨rfl, rfl⟩ := pair_of hf
    exact v_iret K dX7_seen_19
abbrev rm_X7_canBe : Room := { frames := 3, cells := 0, slots := 0, locals := 65 }
set_option maxRecDepth 20000 in
theorem t_X7_canBe_145 {M : Mx} {X : Wx} {N : Nat} {o0 : Nat} {p1 : Int32} {p2 : Int32} (h0 : akd o0 = 7) {r : Int32} {u' : ASt} (K : OkM 1 M X cX7_canBe 5 RX7 rm_X7_canBe (some .boolean)) {u : ASt} (hf : f_X7_canBe_145 N o0 p1 p2  u = some (r, u')) : V 1 M X (some (.int r), u') 5 145 [] [] u := by
  unfold f_X7_canBe_145 at hf
  refine v_iconst K (v := 0) (by decide) dX7_canBe_145 ?_
  obtain ⟨rfl, rfl⟩ := pair_of hf
  exact v_zret K (by decide) dX7_canBe_146
set_option maxRecDepth 20000 in
theorem t_X7_canBe_99 {M : Mx} {X : Wx} {N : Nat} {o0 : Nat} {p1 : Int32} {p2 : Int32} (h0 : akd o0 = 7) {r : Int32} {u' : ASt} (K : OkM 1 M X cX7_canBe 5 RX7 rm_X7_canBe (some .boolean)) {u : ASt} (hf : f_X7_canBe_99 N o0 p1 p2  u = some (r, u')) : V 1 M X (some (.int r), u') 5 99 [] [] u := by
  unfold f_X7_canBe_99 at hf
  refine v_iconst K (v := 0) (by decide) dX7_canBe_99 ?_
  obtain ⟨rfl, rfl⟩ := pair_of hf
  exact v_zret K (by decide) dX7_canBe_100
set_option maxRecDepth 20000 in
theorem c_X7_canBe {X : Wx} {N : Nat} {o0 : Nat} {p1 : Int32} {p2 : Int32} (h0 : akd o0 = 7) {u u' : ASt} {r : Int32} (hf : f_X7_canBe N o0 p1 p2 u = some (r, u')) (l : Launch) : Met l yX7_canBe (ws_ yX7_canBe cX7_canBe 5 (some .boolean)) rm_X7_canBe (Pg 1 X u [.ref (X.2.1 o0), .int p1, .int p2]) (Qg 1 X (some (.int r)) u') 0 0 (Aw 1 X) := by
  refine v_met (res := (some (.int r), u')) (by decide) (Nat.le_of_ble_eq_true rfl) (fun M K => ?_)
  have K : OkM 1 M X cX7_canBe 5 RX7 rm_X7_canBe (some .boolean) := K
  show V 1 M X (some (.int r), u') 5 0 [(0, .ref (X.2.1 o0)), (1, .int p1), (2, .int p2)] [] u
  unfold f_X7_canBe at hf
  refine v_iload_n K 1 rfl rfl dX7_canBe_0 ?_
  refine v_bipush K (v := 10) (by decide) dX7_canBe_1 ?_
  refine v_idiv K (by decide) dX7_canBe_3 ?_
  refine v_bipush K (v := 10) (by decide) dX7_canBe_4 ?_
  refine v_irem K (by decide) dX7_canBe_6 ?_
  refine v_topi (fun z1 ez1 => ?_)
  have hf := lte_of ez1 hf
  refine v_istore_n K (ls' := [(3, .int z1), (0, .ref (X.2.1 o0)), (1, .int p1), (2, .int p2)]) rfl (by decide) rfl dX7_canBe_7 ?_
  refine v_iload_n K 2 rfl rfl dX7_canBe_8 ?_
  refine v_bipush K (v := 10) (by decide) dX7_canBe_9 ?_
  refine v_irem K (by decide) dX7_canBe_11 ?_
  refine v_topi (fun z2 ez2 => ?_)
  have hf := lte_of ez2 hf
  refine v_istore K (ls' := [(4, .int z2), (3, .int z1), (0, .ref (X.2.1 o0)), (1, .int p1), (2, .int p2)]) (by decide) rfl dX7_canBe_12 ?_
  refine v_iload_n K 3 rfl rfl dX7_canBe_14 ?_
  refine v_sipush K (v := 1000) (by decide) dX7_canBe_15 ?_
  refine v_idiv K (by decide) dX7_canBe_18 ?_
  by_cases c3 : (p1 / 1000) = 0
  · have hf := ite_t c3 hf
    refine v_tabK K 44 c3 (a := 0) (by decide) (by decide) (by decide) rfl (by decide) dX7_canBe_19 ?_
    refine v_iload_n K 3 rfl rfl dX7_canBe_44 ?_
    refine v_if_ne K 52 (by decide) dX7_canBe_45 (fun c4 => ?_) (fun c4 => ?_)
    · have hf := ite_f c4 hf
      refine v_iconst K (v := 0) (by decide) dX7_canBe_52 ?_
      obtain ⟨rfl, rfl⟩ := pair_of hf
      exact v_zret K (by decide) dX7_canBe_53
    · have hf := ite_t c4 hf
      refine v_iconst K (v := 1) (by decide) dX7_canBe_48 ?_
      refine v_goto K 53 (by decide) dX7_canBe_49 ?_
      obtain ⟨rfl, rfl⟩ := pair_of hf
      exact v_zret K (by decide) dX7_canBe_53
  have hf := ite_f c3 hf
  by_cases c5 : (p1 / 1000) = 1
  · have hf := ite_t c5 hf
    refine v_tabK K 54 c5 (a := 1) (by decide) (by decide) (by decide) rfl (by decide) dX7_canBe_19 ?_
    refine v_aload_n K 2 rfl rfl dX7_canBe_54 ?_
    refine v_iload_n K 3 rfl rfl dX7_canBe_55 ?_
    refine v_bipush K (v := 10) (by decide) dX7_canBe_56 ?_
    refine v_idiv K (by decide) dX7_canBe_58 ?_
    refine v_bipush K (v := 100) (by decide) dX7_canBe_59 ?_
    refine v_isub K dX7_canBe_61 ?_
    refine v_iload K 0 rfl dX7_canBe_62 ?_
    obtain ⟨r7, u6, e8, hf⟩ := bnd_of hf
    refine v_callVi K (c_X7_isCell h0 e8) cv_X7_isCell ml_X7_85 (am1_7 h0) h0 kdX7 ⟨rfl, rfl, Nat.le_of_ble_eq_true rfl, Nat.le_of_ble_eq_true rfl⟩ rfl rfl (Nat.le_of_ble_eq_true rfl) dX7_canBe_64 ?_
    obtain ⟨g9, hf⟩ := chk_of hf
    obtain ⟨rfl, rfl⟩ := pair_of hf
    exact v_zret K g9 dX7_canBe_67
  have hf := ite_f c5 hf
  by_cases c10 : (p1 / 1000) = 2
  · have hf := ite_t c10 hf
    refine v_tabK K 68 c10 (a := 2) (by decide) (by decide) (by decide) rfl (by decide) dX7_canBe_19 ?_
    refine v_iload_n K 1 rfl rfl dX7_canBe_68 ?_
    refine v_bipush K (v := 8) (by decide) dX7_canBe_69 ?_
    refine v_icmp_ge K 99 (by decide) dX7_canBe_71 (fun c11 => ?_) (fun c11 => ?_)
    · have hf := ite_t c11 hf
      refine v_sub [] rfl ?_
      exact t_X7_canBe_99 h0 K hf
    · have hf := ite_f c11 hf
      refine v_iload_n K 4 rfl rfl dX7_canBe_74 ?_
      refine v_iload_n K 1 rfl rfl dX7_canBe_75 ?_
      obtain ⟨r13, u12, e14, hf⟩ := bnd_of hf
      refine v_callSi K (c_X7_has e14) cv_X7_has ml_X7_151 ⟨rfl, rfl, Nat.le_of_ble_eq_true rfl, Nat.le_of_ble_eq_true rfl⟩ rfl rfl (Nat.le_of_ble_eq_true rfl) dX7_canBe_76 ?_
      refine v_if_eq K 99 (by decide) dX7_canBe_79 (fun c15 => ?_) (fun c15 => ?_)
      · have hf := ite_t c15 hf
        refine v_sub [] rfl ?_
        exact t_X7_canBe_99 h0 K hf
      · have hf := ite_f c15 hf
        refine v_iload K 0 rfl dX7_canBe_82 ?_
        refine v_iconst K (v := 2) (by decide) dX7_canBe_84 ?_
        refine v_icmp_ge K 99 (by decide) dX7_canBe_85 (fun c16 => ?_) (fun c16 => ?_)
        · have hf := ite_t c16 hf
          refine v_sub [] rfl ?_
          exact t_X7_canBe_99 h0 K hf
        · have hf := ite_f c16 hf
          refine v_iload_n K 3 rfl rfl dX7_canBe_88 ?_
          refine v_sipush K (v := 2100) (by decide) dX7_canBe_89 ?_
          refine v_icmp_ge K 99 (by decide) dX7_canBe_92 (fun c17 => ?_) (fun c17 => ?_)
          · have hf := ite_t c17 hf
            refine v_sub [] rfl ?_
            exact t_X7_canBe_99 h0 K hf
          · have hf := ite_f c17 hf
            refine v_iconst K (v := 1) (by decide) dX7_canBe_95 ?_
            refine v_goto K 100 (by decide) dX7_canBe_96 ?_
            obtain ⟨rfl, rfl⟩ := pair_of hf
            exact v_zret K (by decide) dX7_canBe_100
  have hf := ite_f c10 hf
  refine v_tabD K 101 (keys := [0, 1, 2]) (by decide) (by decide) (List.forall_mem_cons.mpr ⟨lv_neT c3 (by decide), (List.forall_mem_cons.mpr ⟨lv_neT c5 (by decide), (List.forall_mem_cons.mpr ⟨lv_neT c10 (by decide), (fun _ h => absurd h List.not_mem_nil)⟩)⟩)⟩) (by decide) dX7_canBe_19 ?_
  refine v_iload_n K 3 rfl rfl dX7_canBe_101 ?_
  refine v_sipush K (v := 1000) (by decide) dX7_canBe_102 ?_
  refine v_irem K (by decide) dX7_canBe_105 ?_
  refine v_bipush K (v := 100) (by decide) dX7_canBe_106 ?_
  refine v_icmp_ge K 145 (by decide) dX7_canBe_108 (fun c18 => ?_) (fun c18 => ?_)
  · have hf := ite_t c18 hf
    refine v_sub [] rfl ?_
    exact t_X7_canBe_145 h0 K hf
  · have hf := ite_f c18 hf
    refine v_iload_n K 1 rfl rfl dX7_canBe_111 ?_
    refine v_iload K 0 rfl dX7_canBe_112 ?_
    refine v_icmp_ge K 145 (by decide) dX7_canBe_114 (fun c19 => ?_) (fun c19 => ?_)
    · have hf := ite_t c19 hf
      refine v_sub [] rfl ?_
      exact t_X7_canBe_145 h0 K hf
    · have hf := ite_f c19 hf
      refine v_iload K 0 rfl dX7_canBe_117 ?_
      refine v_bipush K (v := 8) (by decide) dX7_canBe_119 ?_
      refine v_icmp_ge K 145 (by decide) dX7_canBe_121 (fun c20 => ?_) (fun c20 => ?_)
      · have hf := ite_t c20 hf
        refine v_sub [] rfl ?_
        exact t_X7_canBe_145 h0 K hf
      · have hf := ite_f c20 hf
        refine v_iload_n K 4 rfl rfl dX7_canBe_124 ?_
        refine v_iload_n K 1 rfl rfl dX7_canBe_125 ?_
        obtain ⟨r22, u21, e23, hf⟩ := bnd_of hf
        refine v_callSi K (c_X7_has e23) cv_X7_has ml_X7_151 ⟨rfl, rfl, Nat.le_of_ble_eq_true rfl, Nat.le_of_ble_eq_true rfl⟩ rfl rfl (Nat.le_of_ble_eq_true rfl) dX7_canBe_126 ?_
        refine v_if_eq K 145 (by decide) dX7_canBe_129 (fun c24 => ?_) (fun c24 => ?_)
        · have hf := ite_t c24 hf
          refine v_sub [] rfl ?_
          exact t_X7_canBe_145 h0 K hf
        · have hf := ite_f c24 hf
          refine v_iload_n K 4 rfl rfl dX7_canBe_132 ?_
          refine v_iload K 0 rfl dX7_canBe_133 ?_
          obtain ⟨r26, u25, e27, hf⟩ := bnd_of hf
          refine v_callSi K (c_X7_has e27) cv_X7_has ml_X7_151 ⟨rfl, rfl, Nat.le_of_ble_eq_true rfl, Nat.le_of_ble_eq_true rfl⟩ rfl rfl (Nat.le_of_ble_eq_true rfl) dX7_canBe_135 ?_
          refine v_if_eq K 145 (by decide) dX7_canBe_138 (fun c28 => ?_) (fun c28 => ?_)
          · have hf := ite_t c28 hf
            refine v_sub [] rfl ?_
            exact t_X7_canBe_145 h0 K hf
          · have hf := ite_f c28 hf
            refine v_iconst K (v := 1) (by decide) dX7_canBe_141 ?_
            refine v_goto K 146 (by decide) dX7_canBe_142 ?_
            obtain ⟨rfl, rfl⟩ := pair_of hf
            exact v_zret K (by decide) dX7_canBe_146
abbrev rm_X7_suspectsBy : Room := { frames := 11, cells := 0, slots := 0, locals := 258 }
set_option maxRecDepth 20000 in
theorem t_X7_suspectsBy_91 {M : Mx} {X : Wx} {N : Nat} {o0 : Nat} {p1 : Int32} {p2 : Int32} (h0 : akd o0 = 7) {r : Int32} {u' : ASt} (K : OkM 1 M X cX7_suspectsBy 6 RX7 rm_X7_suspectsBy (some .int)) {k16 : Int32 → Int32 → Int32 → ASt → Option (Int32 × ASt)} (hk16 : ∀ (x3 : Int32) (x4 : Int32) (x5 : Int32) (u : ASt), k16 x3 x4 x5 u = some (r, u') → V 1 M X (some (.int r), u') 6 16 [(0, .ref (X.2.1 o0)), (1, .int p1), (2, .int p2), (3, .int x3), (4, .int x4), (5, .int x5)] [] u) {x3 : Int32} {x4 : Int32} {y0 : Int32} {u : ASt} (hf : f_X7_suspectsBy_91 N o0 p1 p2 k16 x3 x4 y0 u = some (r, u')) : V 1 M X (some (.int r), u') 6 91 [(0, .ref (X.2.1 o0)), (1, .int p1), (2, .int p2), (3, .int x3), (4, .int x4)] [.int y0] u := by
  unfold f_X7_suspectsBy_91 at hf
  refine v_istore K (ls' := [(5, .int y0), (0, .ref (X.2.1 o0)), (1, .int p1), (2, .int p2), (3, .int x3), (4, .int x4)]) (by decide) rfl dX7_suspectsBy_91 ?_
  refine v_iinc K 0 (v := y0 + 1) (ls' := [(5, .int (y0 + 1)), (0, .ref (X.2.1 o0)), (1, .int p1), (2, .int p2), (3, .int x3), (4, .int x4)]) rfl rfl (by decide) rfl dX7_suspectsBy_93 ?_
  refine v_goto K 16 (by decide) dX7_suspectsBy_96 ?_
  refine v_sub [1, 2, 3, 4, 5, 0] rfl ?_
  exact hk16 x3 x4 (y0 + 1) u hf
set_option maxRecDepth 20000 in
theorem t_X7_suspectsBy_72 {M : Mx} {X : Wx} {N : Nat} {o0 : Nat} {p1 : Int32} {p2 : Int32} (h0 : akd o0 = 7) {r : Int32} {u' : ASt} (K : OkM 1 M X cX7_suspectsBy 6 RX7 rm_X7_suspectsBy (some .int)) {k16 : Int32 → Int32 → Int32 → ASt → Option (Int32 × ASt)} (hk16 : ∀ (x3 : Int32) (x4 : Int32) (x5 : Int32) (u : ASt), k16 x3 x4 x5 u = some (r, u') → V 1 M X (some (.int r), u') 6 16 [(0, .ref (X.2.1 o0)), (1, .int p1), (2, .int p2), (3, .int x3), (4, .int x4), (5, .int x5)] [] u) {x3 : Int32} {x4 : Int32} {x5 : Int32} {u : ASt} (hf : f_X7_suspectsBy_72 N o0 p1 p2 k16 x3 x4 x5 u = some (r, u')) : V 1 M X (some (.int r), u') 6 72 [(0, .ref (X.2.1 o0)), (1, .int p1), (2, .int p2), (3, .int x3), (4, .int x4), (5, .int x5)] [] u := by
  unfold f_X7_suspectsBy_72 at hf
  refine v_iload K 5 rfl dX7_suspectsBy_72 ?_
  refine v_sipush K (v := 1000) (by decide) dX7_suspectsBy_74 ?_
  refine v_idiv K (by decide) dX7_suspectsBy_77 ?_
  refine v_sipush K (v := 1000) (by decide) dX7_suspectsBy_78 ?_
  refine v_imul K dX7_suspectsBy_81 ?_
  refine v_sipush K (v := 999) (by decide) dX7_suspectsBy_82 ?_
  refine v_iadd K dX7_suspectsBy_85 ?_
  refine v_goto K 91 (by decide) dX7_suspectsBy_86 ?_
  refine v_sub [0, 1, 2, 3, 4] rfl ?_
  exact t_X7_suspectsBy_91 h0 K hk16 hf
set_option maxRecDepth 20000 in
theorem t_X7_suspectsBy_56 {M : Mx} {X : Wx} {N : Nat} {o0 : Nat} {p1 : Int32} {p2 : Int32} (h0 : akd o0 = 7) {r : Int32} {u' : ASt} (K : OkM 1 M X cX7_suspectsBy 6 RX7 rm_X7_suspectsBy (some .int)) {k16 : Int32 → Int32 → Int32 → ASt → Option (Int32 × ASt)} (hk16 : ∀ (x3 : Int32) (x4 : Int32) (x5 : Int32) (u : ASt), k16 x3 x4 x5 u = some (r, u') → V 1 M X (some (.int r), u') 6 16 [(0, .ref (X.2.1 o0)), (1, .int p1), (2, .int p2), (3, .int x3), (4, .int x4), (5, .int x5)] [] u) {x3 : Int32} {x4 : Int32} {x5 : Int32} {u : ASt} (hf : f_X7_suspectsBy_56 N o0 p1 p2 k16 x3 x4 x5 u = some (r, u')) : V 1 M X (some (.int r), u') 6 56 [(0, .ref (X.2.1 o0)), (1, .int p1), (2, .int p2), (3, .int x3), (4, .int x4), (5, .int x5)] [] u := by
  unfold f_X7_suspectsBy_56 at hf
  refine v_iload K 5 rfl dX7_suspectsBy_56 ?_
  refine v_sipush K (v := 1000) (by decide) dX7_suspectsBy_58 ?_
  refine v_irem K (by decide) dX7_suspectsBy_61 ?_
  refine v_bipush K (v := 99) (by decide) dX7_suspectsBy_62 ?_
  refine v_icmp_eq K 72 (by decide) dX7_suspectsBy_64 (fun c1 => ?_) (fun c1 => ?_)
  · have hf := ite_t c1 hf
    exact t_X7_suspectsBy_72 h0 K hk16 hf
  · have hf := ite_f c1 hf
    refine v_iload K 5 rfl dX7_suspectsBy_67 ?_
    refine v_if_ne K 89 (by decide) dX7_suspectsBy_69 (fun c2 => ?_) (fun c2 => ?_)
    · have hf := ite_f c2 hf
      refine v_iload K 5 rfl dX7_suspectsBy_89 ?_
      refine v_sub [0, 1, 2, 3, 4] rfl ?_
      exact t_X7_suspectsBy_91 h0 K hk16 hf
    · have hf := ite_t c2 hf
      exact t_X7_suspectsBy_72 h0 K hk16 hf
set_option maxRecDepth 20000 in
theorem t_X7_suspectsBy_16 {M : Mx} {X : Wx} {N : Nat} {o0 : Nat} {p1 : Int32} {p2 : Int32} (h0 : akd o0 = 7) {r : Int32} {u' : ASt} (K : OkM 1 M X cX7_suspectsBy 6 RX7 rm_X7_suspectsBy (some .int)) : ∀ (n : Nat) (x3 : Int32) (x4 : Int32) (x5 : Int32) (u : ASt), f_X7_suspectsBy_16 N o0 p1 p2 n x3 x4 x5 u = some (r, u') → V 1 M X (some (.int r), u') 6 16 [(0, .ref (X.2.1 o0)), (1, .int p1), (2, .int p2), (3, .int x3), (4, .int x4), (5, .int x5)] [] u := by
  intro n
  induction n with
  | zero => intro x3 x4 x5 u hf; cases hf
  | succ n ih =>
    intro x3 x4 x5 u hf
    rw [f_X7_suspectsBy_16] at hf
    refine v_iload K 5 rfl dX7_suspectsBy_16 ?_
    refine v_sipush K (v := 4100) (by decide) dX7_suspectsBy_18 ?_
    refine v_icmp_ge K 99 (by decide) dX7_suspectsBy_21 (fun c3 => ?_) (fun c3 => ?_)
    · have hf := ite_t c3 hf
      refine v_iload_n K 2 rfl rfl dX7_suspectsBy_99 ?_
      refine v_if_ge K 108 (by decide) dX7_suspectsBy_100 (fun c4 => ?_) (fun c4 => ?_)
      · have hf := ite_t c4 hf
        refine v_bipush K (v := (-5)) (by decide) dX7_suspectsBy_108 ?_
        obtain ⟨rfl, rfl⟩ := pair_of hf
        exact v_iret K dX7_suspectsBy_110
      · have hf := ite_f c4 hf
        refine v_iload K 4 rfl dX7_suspectsBy_103 ?_
        refine v_goto K 110 (by decide) dX7_suspectsBy_105 ?_
        obtain ⟨rfl, rfl⟩ := pair_of hf
        exact v_iret K dX7_suspectsBy_110
    · have hf := ite_f c3 hf
      refine v_aload_n K 0 rfl rfl dX7_suspectsBy_24 ?_
      refine v_iload K 5 rfl dX7_suspectsBy_25 ?_
      refine v_iload_n K 3 rfl rfl dX7_suspectsBy_27 ?_
      obtain ⟨r6, u5, e7, hf⟩ := bnd_of hf
      refine v_callVi K (c_X7_canBe h0 e7) cv_X7_canBe ml_X7_242 (am1_7 h0) h0 kdX7 ⟨rfl, rfl, Nat.le_of_ble_eq_true rfl, Nat.le_of_ble_eq_true rfl⟩ rfl rfl (Nat.le_of_ble_eq_true rfl) dX7_suspectsBy_28 ?_
      refine v_if_eq K 56 (by decide) dX7_suspectsBy_31 (fun c8 => ?_) (fun c8 => ?_)
      · have hf := ite_t c8 hf
        exact t_X7_suspectsBy_56 h0 K ih hf
      · have hf := ite_f c8 hf
        refine v_aload_n K 0 rfl rfl dX7_suspectsBy_34 ?_
        refine v_iload_n K 1 rfl rfl dX7_suspectsBy_35 ?_
        refine v_iload K 5 rfl dX7_suspectsBy_36 ?_
        obtain ⟨r10, u9, e11, hf⟩ := bnd_of hf
        refine v_callVi K (c_X7_answersSo h0 e11) cv_X7_answersSo ml_X7_236 (am1_7 h0) h0 kdX7 ⟨rfl, rfl, Nat.le_of_ble_eq_true rfl, Nat.le_of_ble_eq_true rfl⟩ rfl rfl (Nat.le_of_ble_eq_true rfl) dX7_suspectsBy_38 ?_
        refine v_if_eq K 56 (by decide) dX7_suspectsBy_41 (fun c12 => ?_) (fun c12 => ?_)
        · have hf := ite_t c12 hf
          exact t_X7_suspectsBy_56 h0 K ih hf
        · have hf := ite_f c12 hf
          refine v_iload K 4 rfl dX7_suspectsBy_44 ?_
          refine v_iload_n K 2 rfl rfl dX7_suspectsBy_46 ?_
          refine v_icmp_ne K 53 (by decide) dX7_suspectsBy_47 (fun c13 => ?_) (fun c13 => ?_)
          · have hf := ite_f c13 hf
            refine v_iinc K 4 (v := x4 + 1) (ls' := [(4, .int (x4 + 1)), (0, .ref (X.2.1 o0)), (1, .int p1), (2, .int p2), (3, .int x3), (5, .int x5)]) rfl rfl (by decide) rfl dX7_suspectsBy_53 ?_
            refine v_sub [1, 2, 3, 4, 0, 5] rfl ?_
            exact t_X7_suspectsBy_56 h0 K ih hf
          · have hf := ite_t c13 hf
            refine v_iload K 5 rfl dX7_suspectsBy_50 ?_
            obtain ⟨rfl, rfl⟩ := pair_of hf
            exact v_iret K dX7_suspectsBy_52
set_option maxRecDepth 20000 in
theorem c_X7_suspectsBy {X : Wx} {N : Nat} {o0 : Nat} {p1 : Int32} {p2 : Int32} (h0 : akd o0 = 7) {u u' : ASt} {r : Int32} (hf : f_X7_suspectsBy N o0 p1 p2 u = some (r, u')) (l : Launch) : Met l yX7_suspectsBy (ws_ yX7_suspectsBy cX7_suspectsBy 6 (some .int)) rm_X7_suspectsBy (Pg 1 X u [.ref (X.2.1 o0), .int p1, .int p2]) (Qg 1 X (some (.int r)) u') 0 0 (Aw 1 X) := by
  refine v_met (res := (some (.int r), u')) (by decide) (Nat.le_of_ble_eq_true rfl) (fun M K => ?_)
  have K : OkM 1 M X cX7_suspectsBy 6 RX7 rm_X7_suspectsBy (some .int) := K
  show V 1 M X (some (.int r), u') 6 0 [(0, .ref (X.2.1 o0)), (1, .int p1), (2, .int p2)] [] u
  unfold f_X7_suspectsBy at hf
  refine v_aload_n K 0 rfl rfl dX7_suspectsBy_0 ?_
  refine v_iload_n K 1 rfl rfl dX7_suspectsBy_1 ?_
  obtain ⟨r15, u14, e16, hf⟩ := bnd_of hf
  refine v_callVv K (c_X7_laysAnswersNow h0 e16) cv_X7_laysAnswersNow ml_X7_230 (am1_7 h0) h0 kdX7 ⟨rfl, rfl, Nat.le_of_ble_eq_true rfl, Nat.le_of_ble_eq_true rfl⟩ rfl rfl (Nat.le_of_ble_eq_true rfl) dX7_suspectsBy_2 ?_
  refine v_aload_n K 0 rfl rfl dX7_suspectsBy_5 ?_
  obtain ⟨r18, u17, e19, hf⟩ := bnd_of hf
  refine v_callVi K (c_X7_netsWithCells h0 e19) cv_X7_netsWithCells ml_X7_217 (am1_7 h0) h0 kdX7 ⟨rfl, rfl, Nat.le_of_ble_eq_true rfl, Nat.le_of_ble_eq_true rfl⟩ rfl rfl (Nat.le_of_ble_eq_true rfl) dX7_suspectsBy_6 ?_
  refine v_istore_n K (ls' := [(3, .int r18), (0, .ref (X.2.1 o0)), (1, .int p1), (2, .int p2)]) rfl (by decide) rfl dX7_suspectsBy_9 ?_
  refine v_iconst K (v := 0) (by decide) dX7_suspectsBy_10 ?_
  refine v_istore K (ls' := [(4, .int 0), (3, .int r18), (0, .ref (X.2.1 o0)), (1, .int p1), (2, .int p2)]) (by decide) rfl dX7_suspectsBy_11 ?_
  refine v_iconst K (v := 0) (by decide) dX7_suspectsBy_13 ?_
  refine v_istore K (ls' := [(5, .int 0), (4, .int 0), (3, .int r18), (0, .ref (X.2.1 o0)), (1, .int p1), (2, .int p2)]) (by decide) rfl dX7_suspectsBy_14 ?_
  refine v_sub [3, 4, 5, 2, 1, 0] rfl ?_
  exact t_X7_suspectsBy_16 h0 K N r18 0 0 u17 hf
abbrev rm_X7_suspects : Room := { frames := 12, cells := 0, slots := 0, locals := 283 }
set_option maxRecDepth 20000 in
theorem t_X7_suspects_21 {M : Mx} {X : Wx} {N : Nat} {o0 : Nat} {p1 : Int32} {p2 : Int32} (h0 : akd o0 = 7) {r : Int32} {u' : ASt} (K : OkM 1 M X cX7_suspects 3 RX7 rm_X7_suspects (some .int)) {u : ASt} (hf : f_X7_suspects_21 N o0 p1 p2  u = some (r, u')) : V 1 M X (some (.int r), u') 3 21 [(0, .ref (X.2.1 o0))] [] u := by
  unfold f_X7_suspects_21 at hf
  refine v_aload_n K 0 rfl rfl dX7_suspects_21 ?_
  obtain ⟨r2, u1, e3, hf⟩ := bnd_of hf
  refine v_callVi K (c_X7_bad h0 e3) cv_X7_bad ml_X7_72 (am1_7 h0) h0 kdX7 ⟨rfl, rfl, Nat.le_of_ble_eq_true rfl, Nat.le_of_ble_eq_true rfl⟩ rfl rfl (Nat.le_of_ble_eq_true rfl) dX7_suspects_22 ?_
  obtain ⟨rfl, rfl⟩ := pair_of hf
  exact v_iret K dX7_suspects_25
set_option maxRecDepth 20000 in
theorem c_X7_suspects {X : Wx} {N : Nat} {o0 : Nat} {p1 : Int32} {p2 : Int32} (h0 : akd o0 = 7) {u u' : ASt} {r : Int32} (hf : f_X7_suspects N o0 p1 p2 u = some (r, u')) (l : Launch) : Met l yX7_suspects (ws_ yX7_suspects cX7_suspects 3 (some .int)) rm_X7_suspects (Pg 1 X u [.ref (X.2.1 o0), .int p1, .int p2]) (Qg 1 X (some (.int r)) u') 0 0 (Aw 1 X) := by
  refine v_met (res := (some (.int r), u')) (by decide) (Nat.le_of_ble_eq_true rfl) (fun M K => ?_)
  have K : OkM 1 M X cX7_suspects 3 RX7 rm_X7_suspects (some .int) := K
  show V 1 M X (some (.int r), u') 3 0 [(0, .ref (X.2.1 o0)), (1, .int p1), (2, .int p2)] [] u
  unfold f_X7_suspects at hf
  refine v_iload_n K 1 rfl rfl dX7_suspects_0 ?_
  obtain ⟨r5, u4, e6, hf⟩ := bnd_of hf
  refine v_callSi K (c_X7_isBit e6) cv_X7_isBit ml_X7_79 ⟨rfl, rfl, Nat.le_of_ble_eq_true rfl, Nat.le_of_ble_eq_true rfl⟩ rfl rfl (Nat.le_of_ble_eq_true rfl) dX7_suspects_1 ?_
  refine v_if_eq K 21 (by decide) dX7_suspects_4 (fun c7 => ?_) (fun c7 => ?_)
  · have hf := ite_t c7 hf
    refine v_sub [0] rfl ?_
    exact t_X7_suspects_21 h0 K hf
  · have hf := ite_f c7 hf
    refine v_iload_n K 2 rfl rfl dX7_suspects_7 ?_
    refine v_iconst K (v := (-1)) (by decide) dX7_suspects_8 ?_
    refine v_icmp_lt K 21 (by decide) dX7_suspects_9 (fun c8 => ?_) (fun c8 => ?_)
    · have hf := ite_t c8 hf
      refine v_sub [0] rfl ?_
      exact t_X7_suspects_21 h0 K hf
    · have hf := ite_f c8 hf
      refine v_aload_n K 0 rfl rfl dX7_suspects_12 ?_
      refine v_iload_n K 1 rfl rfl dX7_suspects_13 ?_
      refine v_iload_n K 2 rfl rfl dX7_suspects_14 ?_
      obtain ⟨r10, u9, e11, hf⟩ := bnd_of hf
      refine v_callVi K (c_X7_suspectsBy h0 e11) cv_X7_suspectsBy ml_X7_245 (am1_7 h0) h0 kdX7 ⟨rfl, rfl, Nat.le_of_ble_eq_true rfl, Nat.le_of_ble_eq_true rfl⟩ rfl rfl (Nat.le_of_ble_eq_true rfl) dX7_suspects_15 ?_
      refine v_goto K 25 (by decide) dX7_suspects_18 ?_
      obtain ⟨rfl, rfl⟩ := pair_of hf
      exact v_iret K dX7_suspects_25
abbrev rm_X7_type : Room := { frames := 1, cells := 0, slots := 0, locals := 22 }
set_option maxRecDepth 20000 in
theorem c_X7_type {X : Wx} {N : Nat} {o0 : Nat} {p1 : Int32} (h0 : akd o0 = 7) {u u' : ASt} {r : Int32} (hf : f_X7_type N o0 p1 u = some (r, u')) (l : Launch) : Met l yX7_type (ws_ yX7_type cX7_type 2 (some .int)) rm_X7_type (Pg 1 X u [.ref (X.2.1 o0), .int p1]) (Qg 1 X (some (.int r)) u') 0 0 (Aw 1 X) := by
  refine v_met (res := (some (.int r), u')) (by decide) (Nat.le_of_ble_eq_true rfl) (fun M K => ?_)
  have K : OkM 1 M X cX7_type 2 RX7 rm_X7_type (some .int) := K
  show V 1 M X (some (.int r), u') 2 0 [(0, .ref (X.2.1 o0)), (1, .int p1)] [] u
  unfold f_X7_type at hf
  refine v_iload_n K 1 rfl rfl dX7_type_0 ?_
  refine v_iconst K (v := 0) (by decide) dX7_type_1 ?_
  refine v_bipush K (v := 127) (by decide) dX7_type_2 ?_
  obtain ⟨r2, u1, e3, hf⟩ := bnd_of hf
  refine v_callSi K (c_X7_within e3) cv_X7_within ml_X7_43 ⟨rfl, rfl, Nat.le_of_ble_eq_true rfl, Nat.le_of_ble_eq_true rfl⟩ rfl rfl (Nat.le_of_ble_eq_true rfl) dX7_type_4 ?_
  refine v_if_ne K 15 (by decide) dX7_type_7 (fun c4 => ?_) (fun c4 => ?_)
  · have hf := ite_f c4 hf
    refine v_aload_n K 0 rfl rfl dX7_type_15 ?_
    refine gf_7_6 K h0 fl_X7_248 dX7_type_16 ?_
    refine v_bipush K (v := 120) (by decide) dX7_type_19 ?_
    refine v_icmp_ne K 29 (by decide) dX7_type_21 (fun c5 => ?_) (fun c5 => ?_)
    · have hf := ite_f c5 hf
      refine v_aload_n K 0 rfl rfl dX7_type_29 ?_
      refine gf_7_5 K h0 fl_X7_22 dX7_type_30 ?_
      refine v_aload_n K 0 rfl rfl dX7_type_33 ?_
      refine gf_7_6 K h0 fl_X7_248 dX7_type_34 ?_
      refine v_iload_n K 1 rfl rfl dX7_type_37 ?_
      obtain ⟨g6, hf⟩ := chk_of hf
      refine v_iast K (am1_12 (ak_7_5 h0)) (.inr (ak_7_5 h0)) g6 dX7_type_38 ?_
      refine v_st (fun u7 eu7 => ?_)
      have hf := lte_of eu7 hf
      refine v_aload_n K 0 rfl rfl dX7_type_39 ?_
      refine v_dup K rfl dX7_type_40 ?_
      refine gf_7_6 K h0 fl_X7_248 dX7_type_41 ?_
      refine v_iconst K (v := 1) (by decide) dX7_type_44 ?_
      refine v_iadd K dX7_type_45 ?_
      refine pf_7_6 K h0 fl_X7_248 dX7_type_46 ?_
      refine v_st (fun u8 eu8 => ?_)
      have hf := lte_of eu8 hf
      refine v_aload_n K 0 rfl rfl dX7_type_49 ?_
      refine gf_7_6 K h0 fl_X7_248 dX7_type_50 ?_
      obtain ⟨rfl, rfl⟩ := pair_of hf
      exact v_iret K dX7_type_53
    · have hf := ite_t c5 hf
      refine v_aload_n K 0 rfl rfl dX7_type_24 ?_
      obtain ⟨r10, u9, e11, hf⟩ := bnd_of hf
      refine v_callVi K (c_X7_full h0 e11) cv_X7_full ml_X7_69 (am1_7 h0) h0 kdX7 ⟨rfl, rfl, Nat.le_of_ble_eq_true rfl, Nat.le_of_ble_eq_true rfl⟩ rfl rfl (Nat.le_of_ble_eq_true rfl) dX7_type_25 ?_
      obtain ⟨rfl, rfl⟩ := pair_of hf
      exact v_iret K dX7_type_28
  · have hf := ite_t c4 hf
    refine v_aload_n K 0 rfl rfl dX7_type_10 ?_
    obtain ⟨r13, u12, e14, hf⟩ := bnd_of hf
    refine v_callVi K (c_X7_bad h0 e14) cv_X7_bad ml_X7_72 (am1_7 h0) h0 kdX7 ⟨rfl, rfl, Nat.le_of_ble_eq_true rfl, Nat.le_of_ble_eq_true rfl⟩ rfl rfl (Nat.le_of_ble_eq_true rfl) dX7_type_11 ?_
    obtain ⟨rfl, rfl⟩ := pair_of hf
    exact v_iret K dX7_type_14
abbrev rm_X7_clear : Room := { frames := 0, cells := 0, slots := 0, locals := 0 }
set_option maxRecDepth 20000 in
theorem c_X7_clear {X : Wx} {N : Nat} {o0 : Nat} (h0 : akd o0 = 7) {u u' : ASt} {r : Int32} (hf : f_X7_clear N o0 u = some (r, u')) (l : Launch) : Met l yX7_clear (ws_ yX7_clear cX7_clear 2 (some .int)) rm_X7_clear (Pg 1 X u [.ref (X.2.1 o0)]) (Qg 1 X (some (.int r)) u') 0 0 (Aw 1 X) := by
  refine v_met (res := (some (.int r), u')) (by decide) (Nat.le_of_ble_eq_true rfl) (fun M K => ?_)
  have K : OkM 1 M X cX7_clear 2 RX7 rm_X7_clear (some .int) := K
  show V 1 M X (some (.int r), u') 2 0 [(0, .ref (X.2.1 o0))] [] u
  unfold f_X7_clear at hf
  refine v_aload_n K 0 rfl rfl dX7_clear_0 ?_
  refine gf_7_6 K h0 fl_X7_248 dX7_clear_1 ?_
  refine v_topi (fun z1 ez1 => ?_)
  have hf := lte_of ez1 hf
  refine v_istore_n K (ls' := [(1, .int z1), (0, .ref (X.2.1 o0))]) rfl (by decide) rfl dX7_clear_4 ?_
  refine v_aload_n K 1 rfl rfl dX7_clear_5 ?_
  refine v_iconst K (v := 0) (by decide) dX7_clear_6 ?_
  refine pf_7_6 K h0 fl_X7_248 dX7_clear_7 ?_
  refine v_st (fun u2 eu2 => ?_)
  have hf := lte_of eu2 hf
  refine v_iload_n K 0 rfl rfl dX7_clear_10 ?_
  obtain ⟨rfl, rfl⟩ := pair_of hf
  exact v_iret K dX7_clear_11
abbrev rm_X7_isAt : Room := { frames := 1, cells := 0, slots := 0, locals := 22 }
set_option maxRecDepth 20000 in
theorem t_X7_isAt_32 {M : Mx} {X : Wx} {N : Nat} {o0 : Nat} {p1 : Int32} {p2 : Int32} (h0 : akd o0 = 7) {r : Int32} {u' : ASt} (K : OkM 1 M X cX7_isAt 3 RX7 rm_X7_isAt (some .boolean)) {u : ASt} (hf : f_X7_isAt_32 N o0 p1 p2  u = some (r, u')) : V 1 M X (some (.int r), u') 3 32 [] [] u := by
  unfold f_X7_isAt_32 at hf
  refine v_iconst K (v := 0) (by decide) dX7_isAt_32 ?_
  obtain ⟨rfl, rfl⟩ := pair_of hf
  exact v_zret K (by decide) dX7_isAt_33
set_option maxRecDepth 20000 in
theorem c_X7_isAt {X : Wx} {N : Nat} {o0 : Nat} {p1 : Int32} {p2 : Int32} (h0 : akd o0 = 7) {u u' : ASt} {r : Int32} (hf : f_X7_isAt N o0 p1 p2 u = some (r, u')) (l : Launch) : Met l yX7_isAt (ws_ yX7_isAt cX7_isAt 3 (some .boolean)) rm_X7_isAt (Pg 1 X u [.ref (X.2.1 o0), .int p1, .int p2]) (Qg 1 X (some (.int r)) u') 0 0 (Aw 1 X) := by
  refine v_met (res := (some (.int r), u')) (by decide) (Nat.le_of_ble_eq_true rfl) (fun M K => ?_)
  have K : OkM 1 M X cX7_isAt 3 RX7 rm_X7_isAt (some .boolean) := K
  show V 1 M X (some (.int r), u') 3 0 [(0, .ref (X.2.1 o0)), (1, .int p1), (2, .int p2)] [] u
  unfold f_X7_isAt at hf
  refine v_aload_n K 0 rfl rfl dX7_isAt_0 ?_
  refine gf_7_13 K h0 fl_X7_251 dX7_isAt_1 ?_
  refine v_aload_n K 0 rfl rfl dX7_isAt_4 ?_
  refine gf_7_6 K h0 fl_X7_248 dX7_isAt_5 ?_
  refine v_icmp_ge K 32 (by decide) dX7_isAt_8 (fun c1 => ?_) (fun c1 => ?_)
  · have hf := ite_t c1 hf
    refine v_sub [] rfl ?_
    exact t_X7_isAt_32 h0 K hf
  · have hf := ite_f c1 hf
    refine v_aload_n K 0 rfl rfl dX7_isAt_11 ?_
    refine gf_7_5 K h0 fl_X7_22 dX7_isAt_12 ?_
    refine v_aload_n K 0 rfl rfl dX7_isAt_15 ?_
    refine gf_7_13 K h0 fl_X7_251 dX7_isAt_16 ?_
    obtain ⟨g2, hf⟩ := chk_of hf
    refine v_iald K (am1_12 (ak_7_5 h0)) (.inr (ak_7_5 h0)) g2 dX7_isAt_19 ?_
    refine v_iload_n K 1 rfl rfl dX7_isAt_20 ?_
    refine v_iload_n K 2 rfl rfl dX7_isAt_21 ?_
    obtain ⟨r4, u3, e5, hf⟩ := bnd_of hf
    refine v_callSi K (c_X7_within e5) cv_X7_within ml_X7_43 ⟨rfl, rfl, Nat.le_of_ble_eq_true rfl, Nat.le_of_ble_eq_true rfl⟩ rfl rfl (Nat.le_of_ble_eq_true rfl) dX7_isAt_22 ?_
    refine v_if_eq K 32 (by decide) dX7_isAt_25 (fun c6 => ?_) (fun c6 => ?_)
    · have hf := ite_t c6 hf
      refine v_sub [] rfl ?_
      exact t_X7_isAt_32 h0 K hf
    · have hf := ite_f c6 hf
      refine v_iconst K (v := 1) (by decide) dX7_isAt_28 ?_
      refine v_goto K 33 (by decide) dX7_isAt_29 ?_
      obtain ⟨rfl, rfl⟩ := pair_of hf
      exact v_zret K (by decide) dX7_isAt_33
abbrev rm_X7_blanks : Room := { frames := 2, cells := 0, slots := 0, locals := 44 }
set_option maxRecDepth 20000 in
theorem t_X7_blanks_0 {M : Mx} {X : Wx} {N : Nat} {o0 : Nat} (h0 : akd o0 = 7) {r : Unit} {u' : ASt} (K : OkM 1 M X cX7_blanks 1 RX7 rm_X7_blanks none) : ∀ (n : Nat) (u : ASt), f_X7_blanks_0 N o0 n  u = some (r, u') → V 1 M X (none, u') 1 0 [(0, .ref (X.2.1 o0))] [] u := by
  intro n
  induction n with
  | zero => intro u hf; cases hf
  | succ n ih =>
    intro u hf
    rw [f_X7_blanks_0] at hf
    refine v_aload_n K 0 rfl rfl dX7_blanks_0 ?_
    refine v_bipush K (v := 32) (by decide) dX7_blanks_1 ?_
    refine v_bipush K (v := 32) (by decide) dX7_blanks_3 ?_
    obtain ⟨r2, u1, e3, hf⟩ := bnd_of hf
    refine v_callVi K (c_X7_isAt h0 e3) cv_X7_isAt ml_X7_254 (am1_7 h0) h0 kdX7 ⟨rfl, rfl, Nat.le_of_ble_eq_true rfl, Nat.le_of_ble_eq_true rfl⟩ rfl rfl (Nat.le_of_ble_eq_true rfl) dX7_blanks_5 ?_
    refine v_if_eq K 24 (by decide) dX7_blanks_8 (fun c4 => ?_) (fun c4 => ?_)
    · have hf := ite_t c4 hf
      obtain ⟨rfl, rfl⟩ := pair_of hf
      exact v_vret K dX7_blanks_24
    · have hf := ite_f c4 hf
      refine v_aload_n K 0 rfl rfl dX7_blanks_11 ?_
      refine v_dup K rfl dX7_blanks_12 ?_
      refine gf_7_13 K h0 fl_X7_251 dX7_blanks_13 ?_
      refine v_iconst K (v := 1) (by decide) dX7_blanks_16 ?_
      refine v_iadd K dX7_blanks_17 ?_
      refine pf_7_13 K h0 fl_X7_251 dX7_blanks_18 ?_
      refine v_st (fun u5 eu5 => ?_)
      have hf := lte_of eu5 hf
      refine v_goto K 0 (by decide) dX7_blanks_21 ?_
      exact ih  u5 hf
set_option maxRecDepth 20000 in
theorem c_X7_blanks {X : Wx} {N : Nat} {o0 : Nat} (h0 : akd o0 = 7) {u u' : ASt} {r : Unit} (hf : f_X7_blanks N o0 u = some (r, u')) (l : Launch) : Met l yX7_blanks (ws_ yX7_blanks cX7_blanks 1 none) rm_X7_blanks (Pg 1 X u [.ref (X.2.1 o0)]) (Qg 1 X (none) u') 0 0 (Aw 1 X) := by
  refine v_met (res := (none, u')) (by decide) (Nat.le_of_ble_eq_true rfl) (fun M K => ?_)
  have K : OkM 1 M X cX7_blanks 1 RX7 rm_X7_blanks none := K
  show V 1 M X (none, u') 1 0 [(0, .ref (X.2.1 o0))] [] u
  unfold f_X7_blanks at hf
  exact t_X7_blanks_0 h0 K N  u hf
abbrev rm_X7_number : Room := { frames := 3, cells := 0, slots := 0, locals := 64 }
set_option maxRecDepth 20000 in
theorem t_X7_number_123 {M : Mx} {X : Wx} {N : Nat} {o0 : Nat} (h0 : akd o0 = 7) {r : Int32} {u' : ASt} (K : OkM 1 M X cX7_number 3 RX7 rm_X7_number (some .int)) {x1 : Int32} {u : ASt} (hf : f_X7_number_123 N o0 x1 u = some (r, u')) : V 1 M X (some (.int r), u') 3 123 [(1, .int x1)] [] u := by
  unfold f_X7_number_123 at hf
  refine v_iload_n K 0 rfl rfl dX7_number_123 ?_
  obtain ⟨rfl, rfl⟩ := pair_of hf
  exact v_iret K dX7_number_124
set_option maxRecDepth 20000 in
theorem t_X7_number_116 {M : Mx} {X : Wx} {N : Nat} {o0 : Nat} (h0 : akd o0 = 7) {r : Int32} {u' : ASt} (K : OkM 1 M X cX7_number 3 RX7 rm_X7_number (some .int)) {k35 : Int32 → Int32 → ASt → Option (Int32 × ASt)} (hk35 : ∀ (x1 : Int32) (x2 : Int32) (u : ASt), k35 x1 x2 u = some (r, u') → V 1 M X (some (.int r), u') 3 35 [(0, .ref (X.2.1 o0)), (1, .int x1), (2, .int x2)] [] u) {x1 : Int32} {x2 : Int32} {c0 : Nat} {y1 : Int32} {y2 : Int32} (hc0 : akd c0 = 7) {u : ASt} (hf : f_X7_number_116 N o0 k35 x1 x2 c0 y1 y2 u = some (r, u')) : V 1 M X (some (.int r), u') 3 116 [(0, .ref (X.2.1 o0)), (1, .int x1), (2, .int x2)] [.int y2, .int y1, .ref (X.2.1 c0)] u := by
  unfold f_X7_number_116 at hf
  refine v_iadd K dX7_number_116 ?_
  refine pf_7_13 K hc0 fl_X7_251 dX7_number_117 ?_
  refine v_st (fun u1 eu1 => ?_)
  have hf := lte_of eu1 hf
  refine v_goto K 35 (by decide) dX7_number_120 ?_
  exact hk35 x1 x2 u1 hf
set_option maxRecDepth 20000 in
theorem t_X7_number_98 {M : Mx} {X : Wx} {N : Nat} {o0 : Nat} (h0 : akd o0 = 7) {r : Int32} {u' : ASt} (K : OkM 1 M X cX7_number 3 RX7 rm_X7_number (some .int)) {k35 : Int32 → Int32 → ASt → Option (Int32 × ASt)} (hk35 : ∀ (x1 : Int32) (x2 : Int32) (u : ASt), k35 x1 x2 u = some (r, u') → V 1 M X (some (.int r), u') 3 35 [(0, .ref (X.2.1 o0)), (1, .int x1), (2, .int x2)] [] u) {x2 : Int32} {y0 : Int32} {u : ASt} (hf : f_X7_number_98 N o0 k35 x2 y0 u = some (r, u')) : V 1 M X (some (.int r), u') 3 98 [(0, .ref (X.2.1 o0)), (2, .int x2)] [.int y0] u := by
  unfold f_X7_number_98 at hf
  refine v_istore_n K (ls' := [(1, .int y0), (0, .ref (X.2.1 o0)), (2, .int x2)]) rfl (by decide) rfl dX7_number_98 ?_
  refine v_aload_n K 1 rfl rfl dX7_number_99 ?_
  refine v_dup K rfl dX7_number_100 ?_
  refine gf_7_13 K h0 fl_X7_251 dX7_number_101 ?_
  refine v_aload_n K 1 rfl rfl dX7_number_104 ?_
  refine gf_7_14 K h0 fl_X7_260 dX7_number_105 ?_
  refine v_if_eq K 115 (by decide) dX7_number_108 (fun c2 => ?_) (fun c2 => ?_)
  · have hf := ite_t c2 hf
    refine v_iconst K (v := 1) (by decide) dX7_number_115 ?_
    refine v_sub [1, 0, 2] rfl ?_
    exact t_X7_number_116 h0 K hk35 h0 hf
  · have hf := ite_f c2 hf
    refine v_iconst K (v := 0) (by decide) dX7_number_111 ?_
    refine v_goto K 116 (by decide) dX7_number_112 ?_
    refine v_sub [1, 0, 2] rfl ?_
    exact t_X7_number_116 h0 K hk35 h0 hf
set_option maxRecDepth 20000 in
theorem t_X7_number_67 {M : Mx} {X : Wx} {N : Nat} {o0 : Nat} (h0 : akd o0 = 7) {r : Int32} {u' : ASt} (K : OkM 1 M X cX7_number 3 RX7 rm_X7_number (some .int)) {k35 : Int32 → Int32 → ASt → Option (Int32 × ASt)} (hk35 : ∀ (x1 : Int32) (x2 : Int32) (u : ASt), k35 x1 x2 u = some (r, u') → V 1 M X (some (.int r), u') 3 35 [(0, .ref (X.2.1 o0)), (1, .int x1), (2, .int x2)] [] u) {x1 : Int32} {x2 : Int32} {c0 : Nat} {y1 : Int32} (hc0 : akd c0 = 7) {u : ASt} (hf : f_X7_number_67 N o0 k35 x1 x2 c0 y1 u = some (r, u')) : V 1 M X (some (.int r), u') 3 67 [(0, .ref (X.2.1 o0)), (1, .int x1), (2, .int x2)] [.int y1, .ref (X.2.1 c0)] u := by
  unfold f_X7_number_67 at hf
  obtain ⟨g4, hf⟩ := chk_of hf
  refine pf_7_14 K hc0 g4 fl_X7_260 dX7_number_67 ?_
  refine v_st (fun u3 eu3 => ?_)
  have hf := lte_of eu3 hf
  refine v_aload_n K 0 rfl rfl dX7_number_70 ?_
  refine gf_7_14 K h0 fl_X7_260 dX7_number_71 ?_
  refine v_if_eq K 81 (by decide) dX7_number_74 (fun c5 => ?_) (fun c5 => ?_)
  · have hf := ite_t c5 hf
    refine v_bipush K (v := 10) (by decide) dX7_number_81 ?_
    refine v_iload_n K 1 rfl rfl dX7_number_83 ?_
    refine v_imul K dX7_number_84 ?_
    refine v_aload_n K 0 rfl rfl dX7_number_85 ?_
    refine gf_7_5 K h0 fl_X7_22 dX7_number_86 ?_
    refine v_aload_n K 0 rfl rfl dX7_number_89 ?_
    refine gf_7_13 K h0 fl_X7_251 dX7_number_90 ?_
    obtain ⟨g6, hf⟩ := chk_of hf
    refine v_iald K (am1_12 (ak_7_5 h0)) (.inr (ak_7_5 h0)) g6 dX7_number_93 ?_
    refine v_iadd K dX7_number_94 ?_
    refine v_bipush K (v := 48) (by decide) dX7_number_95 ?_
    refine v_isub K dX7_number_97 ?_
    refine v_sub [0, 2] rfl ?_
    exact t_X7_number_98 h0 K hk35 hf
  · have hf := ite_f c5 hf
    refine v_iload_n K 1 rfl rfl dX7_number_77 ?_
    refine v_goto K 98 (by decide) dX7_number_78 ?_
    refine v_sub [0, 2] rfl ?_
    exact t_X7_number_98 h0 K hk35 hf
set_option maxRecDepth 20000 in
theorem t_X7_number_35 {M : Mx} {X : Wx} {N : Nat} {o0 : Nat} (h0 : akd o0 = 7) {r : Int32} {u' : ASt} (K : OkM 1 M X cX7_number 3 RX7 rm_X7_number (some .int)) : ∀ (n : Nat) (x1 : Int32) (x2 : Int32) (u : ASt), f_X7_number_35 N o0 n x1 x2 u = some (r, u') → V 1 M X (some (.int r), u') 3 35 [(0, .ref (X.2.1 o0)), (1, .int x1), (2, .int x2)] [] u := by
  intro n
  induction n with
  | zero => intro x1 x2 u hf; cases hf
  | succ n ih =>
    intro x1 x2 u hf
    rw [f_X7_number_35] at hf
    refine v_aload_n K 0 rfl rfl dX7_number_35 ?_
    refine gf_7_14 K h0 fl_X7_260 dX7_number_36 ?_
    refine v_if_ne K 123 (by decide) dX7_number_39 (fun c7 => ?_) (fun c7 => ?_)
    · have hf := ite_f c7 hf
      refine v_sub [1] rfl ?_
      exact t_X7_number_123 h0 K hf
    · have hf := ite_t c7 hf
      refine v_aload_n K 0 rfl rfl dX7_number_42 ?_
      refine v_bipush K (v := 48) (by decide) dX7_number_43 ?_
      refine v_bipush K (v := 57) (by decide) dX7_number_45 ?_
      obtain ⟨r9, u8, e10, hf⟩ := bnd_of hf
      refine v_callVi K (c_X7_isAt h0 e10) cv_X7_isAt ml_X7_254 (am1_7 h0) h0 kdX7 ⟨rfl, rfl, Nat.le_of_ble_eq_true rfl, Nat.le_of_ble_eq_true rfl⟩ rfl rfl (Nat.le_of_ble_eq_true rfl) dX7_number_47 ?_
      refine v_if_eq K 123 (by decide) dX7_number_50 (fun c11 => ?_) (fun c11 => ?_)
      · have hf := ite_t c11 hf
        refine v_sub [1] rfl ?_
        exact t_X7_number_123 h0 K hf
      · have hf := ite_f c11 hf
        refine v_iinc K 2 (v := x2 + 1) (ls' := [(2, .int (x2 + 1)), (0, .ref (X.2.1 o0)), (1, .int x1)]) rfl rfl (by decide) rfl dX7_number_53 ?_
        refine v_aload_n K 1 rfl rfl dX7_number_56 ?_
        refine v_iload_n K 0 rfl rfl dX7_number_57 ?_
        refine v_iconst K (v := 3) (by decide) dX7_number_58 ?_
        refine v_icmp_le K 66 (by decide) dX7_number_59 (fun c12 => ?_) (fun c12 => ?_)
        · have hf := ite_t c12 hf
          refine v_iconst K (v := 0) (by decide) dX7_number_66 ?_
          refine v_sub [1, 2, 0] rfl ?_
          exact t_X7_number_67 h0 K ih h0 hf
        · have hf := ite_f c12 hf
          refine v_iconst K (v := 1) (by decide) dX7_number_62 ?_
          refine v_goto K 67 (by decide) dX7_number_63 ?_
          refine v_sub [1, 2, 0] rfl ?_
          exact t_X7_number_67 h0 K ih h0 hf
set_option maxRecDepth 20000 in
theorem t_X7_number_32 {M : Mx} {X : Wx} {N : Nat} {o0 : Nat} (h0 : akd o0 = 7) {r : Int32} {u' : ASt} (K : OkM 1 M X cX7_number 3 RX7 rm_X7_number (some .int)) {x1 : Int32} {x2 : Int32} {c0 : Nat} {y1 : Int32} (hc0 : akd c0 = 7) {u : ASt} (hf : f_X7_number_32 N o0 x1 x2 c0 y1 u = some (r, u')) : V 1 M X (some (.int r), u') 3 32 [(0, .ref (X.2.1 o0)), (1, .int x1), (2, .int x2)] [.int y1, .ref (X.2.1 c0)] u := by
  unfold f_X7_number_32 at hf
  obtain ⟨g14, hf⟩ := chk_of hf
  refine pf_7_14 K hc0 g14 fl_X7_260 dX7_number_32 ?_
  refine v_st (fun u13 eu13 => ?_)
  have hf := lte_of eu13 hf
  exact t_X7_number_35 h0 K N x1 x2 u13 hf
set_option maxRecDepth 20000 in
theorem t_X7_number_27 {M : Mx} {X : Wx} {N : Nat} {o0 : Nat} (h0 : akd o0 = 7) {r : Int32} {u' : ASt} (K : OkM 1 M X cX7_number 3 RX7 rm_X7_number (some .int)) {x1 : Int32} {x2 : Int32} {c0 : Nat} (hc0 : akd c0 = 7) {u : ASt} (hf : f_X7_number_27 N o0 x1 x2 c0 u = some (r, u')) : V 1 M X (some (.int r), u') 3 27 [(0, .ref (X.2.1 o0)), (1, .int x1), (2, .int x2)] [.ref (X.2.1 c0)] u := by
  unfold f_X7_number_27 at hf
  refine v_iconst K (v := 1) (by decide) dX7_number_27 ?_
  refine v_goto K 32 (by decide) dX7_number_28 ?_
  exact t_X7_number_32 h0 K hc0 hf
set_option maxRecDepth 20000 in
theorem c_X7_number {X : Wx} {N : Nat} {o0 : Nat} (h0 : akd o0 = 7) {u u' : ASt} {r : Int32} (hf : f_X7_number N o0 u = some (r, u')) (l : Launch) : Met l yX7_number (ws_ yX7_number cX7_number 3 (some .int)) rm_X7_number (Pg 1 X u [.ref (X.2.1 o0)]) (Qg 1 X (some (.int r)) u') 0 0 (Aw 1 X) := by
  refine v_met (res := (some (.int r), u')) (by decide) (Nat.le_of_ble_eq_true rfl) (fun M K => ?_)
  have K : OkM 1 M X cX7_number 3 RX7 rm_X7_number (some .int) := K
  show V 1 M X (some (.int r), u') 3 0 [(0, .ref (X.2.1 o0))] [] u
  unfold f_X7_number at hf
  refine v_aload_n K 0 rfl rfl dX7_number_0 ?_
  obtain ⟨r16, u15, e17, hf⟩ := bnd_of hf
  refine v_callVv K (c_X7_blanks h0 e17) cv_X7_blanks ml_X7_257 (am1_7 h0) h0 kdX7 ⟨rfl, rfl, Nat.le_of_ble_eq_true rfl, Nat.le_of_ble_eq_true rfl⟩ rfl rfl (Nat.le_of_ble_eq_true rfl) dX7_number_1 ?_
  refine v_iconst K (v := 0) (by decide) dX7_number_4 ?_
  refine v_istore_n K (ls' := [(1, .int 0), (0, .ref (X.2.1 o0))]) rfl (by decide) rfl dX7_number_5 ?_
  refine v_iconst K (v := 0) (by decide) dX7_number_6 ?_
  refine v_istore_n K (ls' := [(2, .int 0), (1, .int 0), (0, .ref (X.2.1 o0))]) rfl (by decide) rfl dX7_number_7 ?_
  refine v_aload_n K 2 rfl rfl dX7_number_8 ?_
  refine v_aload_n K 2 rfl rfl dX7_number_9 ?_
  refine gf_7_14 K h0 fl_X7_260 dX7_number_10 ?_
  refine v_if_ne K 27 (by decide) dX7_number_13 (fun c18 => ?_) (fun c18 => ?_)
  · have hf := ite_f c18 hf
    refine v_sub [2, 1, 0] rfl ?_
    exact t_X7_number_27 h0 K h0 hf
  · have hf := ite_t c18 hf
    refine v_aload_n K 2 rfl rfl dX7_number_16 ?_
    refine v_bipush K (v := 48) (by decide) dX7_number_17 ?_
    refine v_bipush K (v := 57) (by decide) dX7_number_19 ?_
    obtain ⟨r20, u19, e21, hf⟩ := bnd_of hf
    refine v_callVi K (c_X7_isAt h0 e21) cv_X7_isAt ml_X7_254 (am1_7 h0) h0 kdX7 ⟨rfl, rfl, Nat.le_of_ble_eq_true rfl, Nat.le_of_ble_eq_true rfl⟩ rfl rfl (Nat.le_of_ble_eq_true rfl) dX7_number_21 ?_
    refine v_if_ne K 31 (by decide) dX7_number_24 (fun c22 => ?_) (fun c22 => ?_)
    · have hf := ite_f c22 hf
      refine v_iconst K (v := 0) (by decide) dX7_number_31 ?_
      refine v_sub [2, 1, 0] rfl ?_
      exact t_X7_number_32 h0 K h0 hf
    · have hf := ite_t c22 hf
      refine v_sub [2, 1, 0] rfl ?_
      exact t_X7_number_27 h0 K h0 hf
abbrev rm_X7_manyOf : Room := { frames := 0, cells := 0, slots := 0, locals := 0 }
set_option maxRecDepth 20000 in
theorem c_X7_manyOf {X : Wx} {N : Nat} {p1 : Int32} {u u' : ASt} {r : Int32} (hf : f_X7_manyOf N p1 u = some (r, u')) (l : Launch) : Met l yX7_manyOf (ws_ yX7_manyOf cX7_manyOf 1 (some .int)) rm_X7_manyOf (Pg 1 X u [.int p1]) (Qg 1 X (some (.int r)) u') 0 0 (Aw 1 X) := by
  refine v_met (res := (some (.int r), u')) (by decide) (Nat.le_of_ble_eq_true rfl) (fun M K => ?_)
  have K : OkM 1 M X cX7_manyOf 1 RX7 rm_X7_manyOf (some .int) := K
  show V 1 M X (some (.int r), u') 1 0 [(0, .int p1)] [] u
  unfold f_X7_manyOf at hf
  refine v_iload_n K 0 rfl rfl dX7_manyOf_0 ?_
  by_cases c1 : p1 = 99
  · have hf := ite_t c1 hf
    refine v_tabK K 94 c1 (a := 99) (by decide) (by decide) (by decide) rfl (by decide) dX7_manyOf_1 ?_
    refine v_iconst K (v := 2) (by decide) dX7_manyOf_94 ?_
    obtain ⟨rfl, rfl⟩ := pair_of hf
    exact v_iret K dX7_manyOf_95
  have hf := ite_f c1 hf
  by_cases c2 : p1 = 104
  · have hf := ite_t c2 hf
    refine v_tabK K 92 c2 (a := 104) (by decide) (by decide) (by decide) rfl (by decide) dX7_manyOf_1 ?_
    refine v_iconst K (v := 0) (by decide) dX7_manyOf_92 ?_
    obtain ⟨rfl, rfl⟩ := pair_of hf
    exact v_iret K dX7_manyOf_93
  have hf := ite_f c2 hf
  by_cases c3 : p1 = 107
  · have hf := ite_t c3 hf
    refine v_tabK K 94 c3 (a := 107) (by decide) (by decide) (by decide) rfl (by decide) dX7_manyOf_1 ?_
    refine v_iconst K (v := 2) (by decide) dX7_manyOf_94 ?_
    obtain ⟨rfl, rfl⟩ := pair_of hf
    exact v_iret K dX7_manyOf_95
  have hf := ite_f c3 hf
  by_cases c4 : p1 = 111
  · have hf := ite_t c4 hf
    refine v_tabK K 94 c4 (a := 111) (by decide) (by decide) (by decide) rfl (by decide) dX7_manyOf_1 ?_
    refine v_iconst K (v := 2) (by decide) dX7_manyOf_94 ?_
    obtain ⟨rfl, rfl⟩ := pair_of hf
    exact v_iret K dX7_manyOf_95
  have hf := ite_f c4 hf
  by_cases c5 : p1 = 112
  · have hf := ite_t c5 hf
    refine v_tabK K 96 c5 (a := 112) (by decide) (by decide) (by decide) rfl (by decide) dX7_manyOf_1 ?_
    refine v_iconst K (v := 3) (by decide) dX7_manyOf_96 ?_
    obtain ⟨rfl, rfl⟩ := pair_of hf
    exact v_iret K dX7_manyOf_97
  have hf := ite_f c5 hf
  by_cases c6 : p1 = 115
  · have hf := ite_t c6 hf
    refine v_tabK K 96 c6 (a := 115) (by decide) (by decide) (by decide) rfl (by decide) dX7_manyOf_1 ?_
    refine v_iconst K (v := 3) (by decide) dX7_manyOf_96 ?_
    obtain ⟨rfl, rfl⟩ := pair_of hf
    exact v_iret K dX7_manyOf_97
  have hf := ite_f c6 hf
  by_cases c7 : p1 = 117
  · have hf := ite_t c7 hf
    refine v_tabK K 94 c7 (a := 117) (by decide) (by decide) (by decide) rfl (by decide) dX7_manyOf_1 ?_
    refine v_iconst K (v := 2) (by decide) dX7_manyOf_94 ?_
    obtain ⟨rfl, rfl⟩ := pair_of hf
    exact v_iret K dX7_manyOf_95
  have hf := ite_f c7 hf
  refine v_tabD K 98 (keys := [99, 104, 107, 111, 112, 115, 117]) (by decide) (by decide) (List.forall_mem_cons.mpr ⟨lv_neT c1 (by decide), (List.forall_mem_cons.mpr ⟨lv_neT c2 (by decide), (List.forall_mem_cons.mpr ⟨lv_neT c3 (by decide), (List.forall_mem_cons.mpr ⟨lv_neT c4 (by decide), (List.forall_mem_cons.mpr ⟨lv_neT c5 (by decide), (List.forall_mem_cons.mpr ⟨lv_neT c6 (by decide), (List.forall_mem_cons.mpr ⟨lv_neT c7 (by decide), (fun _ h => absurd h List.not_mem_nil)⟩)⟩)⟩)⟩)⟩)⟩)⟩) (by decide) dX7_manyOf_1 ?_
  refine v_iconst K (v := (-1)) (by decide) dX7_manyOf_98 ?_
  obtain ⟨rfl, rfl⟩ := pair_of hf
  exact v_iret K dX7_manyOf_99
abbrev rm_X7_readsOrder : Room := { frames := 4, cells := 0, slots := 0, locals := 86 }
set_option maxRecDepth 20000 in
theorem t_X7_readsOrder_138 {M : Mx} {X : Wx} {N : Nat} {o0 : Nat} (h0 : akd o0 = 7) {r : Unit} {u' : ASt} (K : OkM 1 M X cX7_readsOrder 4 RX7 rm_X7_readsOrder none) {x1 : Int32} {u : ASt} (hf : f_X7_readsOrder_138 N o0 x1 u = some (r, u')) : V 1 M X (none, u') 4 138 [(0, .ref (X.2.1 o0)), (1, .int x1)] [] u := by
  unfold f_X7_readsOrder_138 at hf
  refine v_aload_n K 0 rfl rfl dX7_readsOrder_138 ?_
  refine gf_7_14 K h0 fl_X7_260 dX7_readsOrder_139 ?_
  refine v_if_ne K 165 (by decide) dX7_readsOrder_142 (fun c1 => ?_) (fun c1 => ?_)
  · have hf := ite_f c1 hf
    obtain ⟨rfl, rfl⟩ := pair_of hf
    exact v_vret K dX7_readsOrder_165
  · have hf := ite_t c1 hf
    refine v_aload_n K 0 rfl rfl dX7_readsOrder_145 ?_
    refine gf_7_16 K h0 fl_X7_37 dX7_readsOrder_146 ?_
    refine v_aload_n K 0 rfl rfl dX7_readsOrder_149 ?_
    refine gf_7_15 K h0 fl_X7_267 dX7_readsOrder_150 ?_
    refine v_iload_n K 1 rfl rfl dX7_readsOrder_153 ?_
    obtain ⟨g2, hf⟩ := chk_of hf
    refine v_iast K (am1_12 (ak_7_16 h0)) (.inr (ak_7_16 h0)) g2 dX7_readsOrder_154 ?_
    refine v_st (fun u3 eu3 => ?_)
    have hf := lte_of eu3 hf
    refine v_aload_n K 0 rfl rfl dX7_readsOrder_155 ?_
    refine v_dup K rfl dX7_readsOrder_156 ?_
    refine gf_7_15 K h0 fl_X7_267 dX7_readsOrder_157 ?_
    refine v_iconst K (v := 1) (by decide) dX7_readsOrder_160 ?_
    refine v_iadd K dX7_readsOrder_161 ?_
    refine pf_7_15 K h0 fl_X7_267 dX7_readsOrder_162 ?_
    refine v_st (fun u4 eu4 => ?_)
    have hf := lte_of eu4 hf
    obtain ⟨rfl, rfl⟩ := pair_of hf
    exact v_vret K dX7_readsOrder_165
set_option maxRecDepth 20000 in
theorem t_X7_readsOrder_134 {M : Mx} {X : Wx} {N : Nat} {o0 : Nat} (h0 : akd o0 = 7) {r : Unit} {u' : ASt} (K : OkM 1 M X cX7_readsOrder 4 RX7 rm_X7_readsOrder none) {x1 : Int32} {c0 : Nat} {y1 : Int32} {y2 : Int32} (hc0 : akd c0 = 7) {u : ASt} (hf : f_X7_readsOrder_134 N o0 x1 c0 y1 y2 u = some (r, u')) : V 1 M X (none, u') 4 134 [(0, .ref (X.2.1 o0)), (1, .int x1)] [.int y2, .int y1, .ref (X.2.1 c0)] u := by
  unfold f_X7_readsOrder_134 at hf
  refine v_iadd K dX7_readsOrder_134 ?_
  refine pf_7_13 K hc0 fl_X7_251 dX7_readsOrder_135 ?_
  refine v_st (fun u5 eu5 => ?_)
  have hf := lte_of eu5 hf
  exact t_X7_readsOrder_138 h0 K hf
set_option maxRecDepth 20000 in
theorem t_X7_readsOrder_114 {M : Mx} {X : Wx} {N : Nat} {o0 : Nat} (h0 : akd o0 = 7) {r : Unit} {u' : ASt} (K : OkM 1 M X cX7_readsOrder 4 RX7 rm_X7_readsOrder none) {x1 : Int32} {c0 : Nat} {y1 : Int32} (hc0 : akd c0 = 7) {u : ASt} (hf : f_X7_readsOrder_114 N o0 x1 c0 y1 u = some (r, u')) : V 1 M X (none, u') 4 114 [(0, .ref (X.2.1 o0)), (1, .int x1)] [.int y1, .ref (X.2.1 c0)] u := by
  unfold f_X7_readsOrder_114 at hf
  obtain ⟨g7, hf⟩ := chk_of hf
  refine pf_7_14 K hc0 g7 fl_X7_260 dX7_readsOrder_114 ?_
  refine v_st (fun u6 eu6 => ?_)
  have hf := lte_of eu6 hf
  refine v_aload_n K 0 rfl rfl dX7_readsOrder_117 ?_
  refine v_dup K rfl dX7_readsOrder_118 ?_
  refine gf_7_13 K h0 fl_X7_251 dX7_readsOrder_119 ?_
  refine v_aload_n K 0 rfl rfl dX7_readsOrder_122 ?_
  refine gf_7_14 K h0 fl_X7_260 dX7_readsOrder_123 ?_
  refine v_if_eq K 133 (by decide) dX7_readsOrder_126 (fun c8 => ?_) (fun c8 => ?_)
  · have hf := ite_t c8 hf
    refine v_iconst K (v := 1) (by decide) dX7_readsOrder_133 ?_
    exact t_X7_readsOrder_134 h0 K h0 hf
  · have hf := ite_f c8 hf
    refine v_iconst K (v := 0) (by decide) dX7_readsOrder_129 ?_
    refine v_goto K 134 (by decide) dX7_readsOrder_130 ?_
    exact t_X7_readsOrder_134 h0 K h0 hf
set_option maxRecDepth 20000 in
theorem t_X7_readsOrder_86 {M : Mx} {X : Wx} {N : Nat} {o0 : Nat} (h0 : akd o0 = 7) {r : Unit} {u' : ASt} (K : OkM 1 M X cX7_readsOrder 4 RX7 rm_X7_readsOrder none) {x1 : Int32} {u : ASt} (hf : f_X7_readsOrder_86 N o0 x1 u = some (r, u')) : V 1 M X (none, u') 4 86 [(0, .ref (X.2.1 o0)), (1, .int x1)] [] u := by
  unfold f_X7_readsOrder_86 at hf
  refine v_aload_n K 0 rfl rfl dX7_readsOrder_86 ?_
  refine gf_7_14 K h0 fl_X7_260 dX7_readsOrder_87 ?_
  refine v_if_ne K 138 (by decide) dX7_readsOrder_90 (fun c9 => ?_) (fun c9 => ?_)
  · have hf := ite_f c9 hf
    exact t_X7_readsOrder_138 h0 K hf
  · have hf := ite_t c9 hf
    refine v_aload_n K 0 rfl rfl dX7_readsOrder_93 ?_
    obtain ⟨r11, u10, e12, hf⟩ := bnd_of hf
    refine v_callVv K (c_X7_blanks h0 e12) cv_X7_blanks ml_X7_257 (am1_7 h0) h0 kdX7 ⟨rfl, rfl, Nat.le_of_ble_eq_true rfl, Nat.le_of_ble_eq_true rfl⟩ rfl rfl (Nat.le_of_ble_eq_true rfl) dX7_readsOrder_94 ?_
    refine v_aload_n K 0 rfl rfl dX7_readsOrder_97 ?_
    refine v_aload_n K 0 rfl rfl dX7_readsOrder_98 ?_
    refine v_bipush K (v := 59) (by decide) dX7_readsOrder_99 ?_
    refine v_bipush K (v := 59) (by decide) dX7_readsOrder_101 ?_
    obtain ⟨r14, u13, e15, hf⟩ := bnd_of hf
    refine v_callVi K (c_X7_isAt h0 e15) cv_X7_isAt ml_X7_254 (am1_7 h0) h0 kdX7 ⟨rfl, rfl, Nat.le_of_ble_eq_true rfl, Nat.le_of_ble_eq_true rfl⟩ rfl rfl (Nat.le_of_ble_eq_true rfl) dX7_readsOrder_103 ?_
    refine v_if_ne K 113 (by decide) dX7_readsOrder_106 (fun c16 => ?_) (fun c16 => ?_)
    · have hf := ite_f c16 hf
      refine v_iconst K (v := 0) (by decide) dX7_readsOrder_113 ?_
      exact t_X7_readsOrder_114 h0 K h0 hf
    · have hf := ite_t c16 hf
      refine v_iconst K (v := 1) (by decide) dX7_readsOrder_109 ?_
      refine v_goto K 114 (by decide) dX7_readsOrder_110 ?_
      exact t_X7_readsOrder_114 h0 K h0 hf
set_option maxRecDepth 20000 in
theorem t_X7_readsOrder_51 {M : Mx} {X : Wx} {N : Nat} {o0 : Nat} (h0 : akd o0 = 7) {r : Unit} {u' : ASt} (K : OkM 1 M X cX7_readsOrder 4 RX7 rm_X7_readsOrder none) : ∀ (n : Nat) (x1 : Int32) (x2 : Int32) (x3 : Int32) (u : ASt), f_X7_readsOrder_51 N o0 n x1 x2 x3 u = some (r, u') → V 1 M X (none, u') 4 51 [(0, .ref (X.2.1 o0)), (1, .int x1), (2, .int x2), (3, .int x3)] [] u := by
  intro n
  induction n with
  | zero => intro x1 x2 x3 u hf; cases hf
  | succ n ih =>
    intro x1 x2 x3 u hf
    rw [f_X7_readsOrder_51] at hf
    refine v_iload_n K 3 rfl rfl dX7_readsOrder_51 ?_
    refine v_iload_n K 2 rfl rfl dX7_readsOrder_52 ?_
    refine v_icmp_ge K 86 (by decide) dX7_readsOrder_53 (fun c17 => ?_) (fun c17 => ?_)
    · have hf := ite_t c17 hf
      refine v_sub [0, 1] rfl ?_
      exact t_X7_readsOrder_86 h0 K hf
    · have hf := ite_f c17 hf
      refine v_aload_n K 0 rfl rfl dX7_readsOrder_56 ?_
      refine gf_7_14 K h0 fl_X7_260 dX7_readsOrder_57 ?_
      refine v_if_ne K 86 (by decide) dX7_readsOrder_60 (fun c18 => ?_) (fun c18 => ?_)
      · have hf := ite_f c18 hf
        refine v_sub [0, 1] rfl ?_
        exact t_X7_readsOrder_86 h0 K hf
      · have hf := ite_t c18 hf
        refine v_aload_n K 0 rfl rfl dX7_readsOrder_63 ?_
        refine gf_7_17 K h0 fl_X7_40 dX7_readsOrder_64 ?_
        refine v_iconst K (v := 3) (by decide) dX7_readsOrder_67 ?_
        refine v_aload_n K 0 rfl rfl dX7_readsOrder_68 ?_
        refine gf_7_15 K h0 fl_X7_267 dX7_readsOrder_69 ?_
        refine v_imul K dX7_readsOrder_72 ?_
        refine v_iload_n K 3 rfl rfl dX7_readsOrder_73 ?_
        refine v_iadd K dX7_readsOrder_74 ?_
        refine v_aload_n K 0 rfl rfl dX7_readsOrder_75 ?_
        obtain ⟨r20, u19, e21, hf⟩ := bnd_of hf
        refine v_callVi K (c_X7_number h0 e21) cv_X7_number ml_X7_270 (am1_7 h0) h0 kdX7 ⟨rfl, rfl, Nat.le_of_ble_eq_true rfl, Nat.le_of_ble_eq_true rfl⟩ rfl rfl (Nat.le_of_ble_eq_true rfl) dX7_readsOrder_76 ?_
        obtain ⟨g22, hf⟩ := chk_of hf
        refine v_iast K (am1_12 (ak_7_17 h0)) (.inr (ak_7_17 h0)) g22 dX7_readsOrder_79 ?_
        refine v_st (fun u23 eu23 => ?_)
        have hf := lte_of eu23 hf
        refine v_iinc K 3 (v := x3 + 1) (ls' := [(3, .int (x3 + 1)), (0, .ref (X.2.1 o0)), (1, .int x1), (2, .int x2)]) rfl rfl (by decide) rfl dX7_readsOrder_80 ?_
        refine v_goto K 51 (by decide) dX7_readsOrder_83 ?_
        refine v_sub [1, 2, 3, 0] rfl ?_
        exact ih x1 x2 (x3 + 1) u23 hf
set_option maxRecDepth 20000 in
theorem t_X7_readsOrder_45 {M : Mx} {X : Wx} {N : Nat} {o0 : Nat} (h0 : akd o0 = 7) {r : Unit} {u' : ASt} (K : OkM 1 M X cX7_readsOrder 4 RX7 rm_X7_readsOrder none) {x1 : Int32} {x2 : Int32} {c0 : Nat} {y1 : Int32} {y2 : Int32} (hc0 : akd c0 = 7) {u : ASt} (hf : f_X7_readsOrder_45 N o0 x1 x2 c0 y1 y2 u = some (r, u')) : V 1 M X (none, u') 4 45 [(0, .ref (X.2.1 o0)), (1, .int x1), (2, .int x2)] [.int y2, .int y1, .ref (X.2.1 c0)] u := by
  unfold f_X7_readsOrder_45 at hf
  refine v_iadd K dX7_readsOrder_45 ?_
  refine pf_7_13 K hc0 fl_X7_251 dX7_readsOrder_46 ?_
  refine v_st (fun u24 eu24 => ?_)
  have hf := lte_of eu24 hf
  refine v_iconst K (v := 0) (by decide) dX7_readsOrder_49 ?_
  refine v_istore_n K (ls' := [(3, .int 0), (0, .ref (X.2.1 o0)), (1, .int x1), (2, .int x2)]) rfl (by decide) rfl dX7_readsOrder_50 ?_
  refine v_sub [1, 2, 3, 0] rfl ?_
  exact t_X7_readsOrder_51 h0 K N x1 x2 0 u24 hf
set_option maxRecDepth 20000 in
theorem t_X7_readsOrder_25 {M : Mx} {X : Wx} {N : Nat} {o0 : Nat} (h0 : akd o0 = 7) {r : Unit} {u' : ASt} (K : OkM 1 M X cX7_readsOrder 4 RX7 rm_X7_readsOrder none) {x1 : Int32} {x2 : Int32} {c0 : Nat} {y1 : Int32} (hc0 : akd c0 = 7) {u : ASt} (hf : f_X7_readsOrder_25 N o0 x1 x2 c0 y1 u = some (r, u')) : V 1 M X (none, u') 4 25 [(0, .ref (X.2.1 o0)), (1, .int x1), (2, .int x2)] [.int y1, .ref (X.2.1 c0)] u := by
  unfold f_X7_readsOrder_25 at hf
  obtain ⟨g26, hf⟩ := chk_of hf
  refine pf_7_14 K hc0 g26 fl_X7_260 dX7_readsOrder_25 ?_
  refine v_st (fun u25 eu25 => ?_)
  have hf := lte_of eu25 hf
  refine v_aload_n K 0 rfl rfl dX7_readsOrder_28 ?_
  refine v_dup K rfl dX7_readsOrder_29 ?_
  refine gf_7_13 K h0 fl_X7_251 dX7_readsOrder_30 ?_
  refine v_aload_n K 0 rfl rfl dX7_readsOrder_33 ?_
  refine gf_7_14 K h0 fl_X7_260 dX7_readsOrder_34 ?_
  refine v_if_eq K 44 (by decide) dX7_readsOrder_37 (fun c27 => ?_) (fun c27 => ?_)
  · have hf := ite_t c27 hf
    refine v_iconst K (v := 1) (by decide) dX7_readsOrder_44 ?_
    exact t_X7_readsOrder_45 h0 K h0 hf
  · have hf := ite_f c27 hf
    refine v_iconst K (v := 0) (by decide) dX7_readsOrder_40 ?_
    refine v_goto K 45 (by decide) dX7_readsOrder_41 ?_
    exact t_X7_readsOrder_45 h0 K h0 hf
set_option maxRecDepth 20000 in
theorem c_X7_readsOrder {X : Wx} {N : Nat} {o0 : Nat} (h0 : akd o0 = 7) {u u' : ASt} {r : Unit} (hf : f_X7_readsOrder N o0 u = some (r, u')) (l : Launch) : Met l yX7_readsOrder (ws_ yX7_readsOrder cX7_readsOrder 4 none) rm_X7_readsOrder (Pg 1 X u [.ref (X.2.1 o0)]) (Qg 1 X (none) u') 0 0 (Aw 1 X) := by
  refine v_met (res := (none, u')) (by decide) (Nat.le_of_ble_eq_true rfl) (fun M K => ?_)
  have K : OkM 1 M X cX7_readsOrder 4 RX7 rm_X7_readsOrder none := K
  show V 1 M X (none, u') 4 0 [(0, .ref (X.2.1 o0))] [] u
  unfold f_X7_readsOrder at hf
  refine v_aload_n K 0 rfl rfl dX7_readsOrder_0 ?_
  refine gf_7_5 K h0 fl_X7_22 dX7_readsOrder_1 ?_
  refine v_aload_n K 0 rfl rfl dX7_readsOrder_4 ?_
  refine gf_7_13 K h0 fl_X7_251 dX7_readsOrder_5 ?_
  obtain ⟨g28, hf⟩ := chk_of hf
  refine v_iald K (am1_12 (ak_7_5 h0)) (.inr (ak_7_5 h0)) g28 dX7_readsOrder_8 ?_
  refine v_topi (fun z29 ez29 => ?_)
  have hf := lte_of ez29 hf
  refine v_istore_n K (ls' := [(1, .int z29), (0, .ref (X.2.1 o0))]) rfl (by decide) rfl dX7_readsOrder_9 ?_
  refine v_iload_n K 0 rfl rfl dX7_readsOrder_10 ?_
  obtain ⟨r31, u30, e32, hf⟩ := bnd_of hf
  refine v_callSi K (c_X7_manyOf e32) cv_X7_manyOf ml_X7_264 ⟨rfl, rfl, Nat.le_of_ble_eq_true rfl, Nat.le_of_ble_eq_true rfl⟩ rfl rfl (Nat.le_of_ble_eq_true rfl) dX7_readsOrder_11 ?_
  refine v_istore_n K (ls' := [(2, .int r31), (1, .int z29), (0, .ref (X.2.1 o0))]) rfl (by decide) rfl dX7_readsOrder_14 ?_
  refine v_aload_n K 2 rfl rfl dX7_readsOrder_15 ?_
  refine v_iload_n K 0 rfl rfl dX7_readsOrder_16 ?_
  refine v_if_ge K 24 (by decide) dX7_readsOrder_17 (fun c33 => ?_) (fun c33 => ?_)
  · have hf := ite_t c33 hf
    refine v_iconst K (v := 0) (by decide) dX7_readsOrder_24 ?_
    refine v_sub [2, 1, 0] rfl ?_
    exact t_X7_readsOrder_25 h0 K h0 hf
  · have hf := ite_f c33 hf
    refine v_iconst K (v := 1) (by decide) dX7_readsOrder_20 ?_
    refine v_goto K 25 (by decide) dX7_readsOrder_21 ?_
    refine v_sub [2, 1, 0] rfl ?_
    exact t_X7_readsOrder_25 h0 K h0 hf
abbrev rm_X7_reads : Room := { frames := 5, cells := 0, slots := 0, locals := 109 }
set_option maxRecDepth 20000 in
theorem t_X7_reads_70 {M : Mx} {X : Wx} {N : Nat} {o0 : Nat} (h0 : akd o0 = 7) {r : Int32} {u' : ASt} (K : OkM 1 M X cX7_reads 1 RX7 rm_X7_reads (some .boolean)) {u : ASt} (hf : f_X7_reads_70 N o0  u = some (r, u')) : V 1 M X (some (.int r), u') 1 70 [(0, .ref (X.2.1 o0))] [] u := by
  unfold f_X7_reads_70 at hf
  refine v_aload_n K 0 rfl rfl dX7_reads_70 ?_
  refine gf_7_14 K h0 fl_X7_260 dX7_reads_71 ?_
  refine v_if_ne K 81 (by decide) dX7_reads_74 (fun c1 => ?_) (fun c1 => ?_)
  · have hf := ite_f c1 hf
    refine v_iconst K (v := 0) (by decide) dX7_reads_81 ?_
    obtain ⟨rfl, rfl⟩ := pair_of hf
    exact v_zret K (by decide) dX7_reads_82
  · have hf := ite_t c1 hf
    refine v_iconst K (v := 1) (by decide) dX7_reads_77 ?_
    refine v_goto K 82 (by decide) dX7_reads_78 ?_
    obtain ⟨rfl, rfl⟩ := pair_of hf
    exact v_zret K (by decide) dX7_reads_82
set_option maxRecDepth 20000 in
theorem t_X7_reads_34 {M : Mx} {X : Wx} {N : Nat} {o0 : Nat} (h0 : akd o0 = 7) {r : Int32} {u' : ASt} (K : OkM 1 M X cX7_reads 1 RX7 rm_X7_reads (some .boolean)) : ∀ (n : Nat) (u : ASt), f_X7_reads_34 N o0 n  u = some (r, u') → V 1 M X (some (.int r), u') 1 34 [(0, .ref (X.2.1 o0))] [] u := by
  intro n
  induction n with
  | zero => intro u hf; cases hf
  | succ n ih =>
    intro u hf
    rw [f_X7_reads_34] at hf
    refine v_aload_n K 0 rfl rfl dX7_reads_34 ?_
    refine gf_7_14 K h0 fl_X7_260 dX7_reads_35 ?_
    refine v_if_ne K 70 (by decide) dX7_reads_38 (fun c2 => ?_) (fun c2 => ?_)
    · have hf := ite_f c2 hf
      exact t_X7_reads_70 h0 K hf
    · have hf := ite_t c2 hf
      refine v_aload_n K 0 rfl rfl dX7_reads_41 ?_
      refine gf_7_13 K h0 fl_X7_251 dX7_reads_42 ?_
      refine v_aload_n K 0 rfl rfl dX7_reads_45 ?_
      refine gf_7_6 K h0 fl_X7_248 dX7_reads_46 ?_
      refine v_icmp_ge K 70 (by decide) dX7_reads_49 (fun c3 => ?_) (fun c3 => ?_)
      · have hf := ite_t c3 hf
        exact t_X7_reads_70 h0 K hf
      · have hf := ite_f c3 hf
        refine v_aload_n K 0 rfl rfl dX7_reads_52 ?_
        obtain ⟨r5, u4, e6, hf⟩ := bnd_of hf
        refine v_callVv K (c_X7_readsOrder h0 e6) cv_X7_readsOrder ml_X7_273 (am1_7 h0) h0 kdX7 ⟨rfl, rfl, Nat.le_of_ble_eq_true rfl, Nat.le_of_ble_eq_true rfl⟩ rfl rfl (Nat.le_of_ble_eq_true rfl) dX7_reads_53 ?_
        refine v_aload_n K 0 rfl rfl dX7_reads_56 ?_
        refine gf_7_14 K h0 fl_X7_260 dX7_reads_57 ?_
        refine v_if_ne K 34 (by decide) dX7_reads_60 (fun c7 => ?_) (fun c7 => ?_)
        · have hf := ite_f c7 hf
          exact ih  u4 hf
        · have hf := ite_t c7 hf
          refine v_aload_n K 0 rfl rfl dX7_reads_63 ?_
          obtain ⟨r9, u8, e10, hf⟩ := bnd_of hf
          refine v_callVv K (c_X7_blanks h0 e10) cv_X7_blanks ml_X7_257 (am1_7 h0) h0 kdX7 ⟨rfl, rfl, Nat.le_of_ble_eq_true rfl, Nat.le_of_ble_eq_true rfl⟩ rfl rfl (Nat.le_of_ble_eq_true rfl) dX7_reads_64 ?_
          refine v_goto K 34 (by decide) dX7_reads_67 ?_
          exact ih  u8 hf
set_option maxRecDepth 20000 in
theorem t_X7_reads_31 {M : Mx} {X : Wx} {N : Nat} {o0 : Nat} (h0 : akd o0 = 7) {r : Int32} {u' : ASt} (K : OkM 1 M X cX7_reads 1 RX7 rm_X7_reads (some .boolean)) {c0 : Nat} {y1 : Int32} (hc0 : akd c0 = 7) {u : ASt} (hf : f_X7_reads_31 N o0 c0 y1 u = some (r, u')) : V 1 M X (some (.int r), u') 1 31 [(0, .ref (X.2.1 o0))] [.int y1, .ref (X.2.1 c0)] u := by
  unfold f_X7_reads_31 at hf
  obtain ⟨g12, hf⟩ := chk_of hf
  refine pf_7_14 K hc0 g12 fl_X7_260 dX7_reads_31 ?_
  refine v_st (fun u11 eu11 => ?_)
  have hf := lte_of eu11 hf
  exact t_X7_reads_34 h0 K N  u11 hf
set_option maxRecDepth 20000 in
theorem c_X7_reads {X : Wx} {N : Nat} {o0 : Nat} (h0 : akd o0 = 7) {u u' : ASt} {r : Int32} (hf : f_X7_reads N o0 u = some (r, u')) (l : Launch) : Met l yX7_reads (ws_ yX7_reads cX7_reads 1 (some .boolean)) rm_X7_reads (Pg 1 X u [.ref (X.2.1 o0)]) (Qg 1 X (some (.int r)) u') 0 0 (Aw 1 X) := by
  refine v_met (res := (some (.int r), u')) (by decide) (Nat.le_of_ble_eq_true rfl) (fun M K => ?_)
  have K : OkM 1 M X cX7_reads 1 RX7 rm_X7_reads (some .boolean) := K
  show V 1 M X (some (.int r), u') 1 0 [(0, .ref (X.2.1 o0))] [] u
  unfold f_X7_reads at hf
  refine v_aload_n K 0 rfl rfl dX7_reads_0 ?_
  refine v_iconst K (v := 0) (by decide) dX7_reads_1 ?_
  refine pf_7_13 K h0 fl_X7_251 dX7_reads_2 ?_
  refine v_st (fun u13 eu13 => ?_)
  have hf := lte_of eu13 hf
  refine v_aload_n K 0 rfl rfl dX7_reads_5 ?_
  refine v_iconst K (v := 0) (by decide) dX7_reads_6 ?_
  refine pf_7_15 K h0 fl_X7_267 dX7_reads_7 ?_
  refine v_st (fun u14 eu14 => ?_)
  have hf := lte_of eu14 hf
  refine v_aload_n K 0 rfl rfl dX7_reads_10 ?_
  obtain ⟨r16, u15, e17, hf⟩ := bnd_of hf
  refine v_callVv K (c_X7_blanks h0 e17) cv_X7_blanks ml_X7_257 (am1_7 h0) h0 kdX7 ⟨rfl, rfl, Nat.le_of_ble_eq_true rfl, Nat.le_of_ble_eq_true rfl⟩ rfl rfl (Nat.le_of_ble_eq_true rfl) dX7_reads_11 ?_
  refine v_aload_n K 0 rfl rfl dX7_reads_14 ?_
  refine v_aload_n K 0 rfl rfl dX7_reads_15 ?_
  refine gf_7_13 K h0 fl_X7_251 dX7_reads_16 ?_
  refine v_aload_n K 0 rfl rfl dX7_reads_19 ?_
  refine gf_7_6 K h0 fl_X7_248 dX7_reads_20 ?_
  refine v_icmp_ne K 30 (by decide) dX7_reads_23 (fun c18 => ?_) (fun c18 => ?_)
  · have hf := ite_f c18 hf
    refine v_iconst K (v := 0) (by decide) dX7_reads_30 ?_
    exact t_X7_reads_31 h0 K h0 hf
  · have hf := ite_t c18 hf
    refine v_iconst K (v := 1) (by decide) dX7_reads_26 ?_
    refine v_goto K 31 (by decide) dX7_reads_27 ?_
    exact t_X7_reads_31 h0 K h0 hf
