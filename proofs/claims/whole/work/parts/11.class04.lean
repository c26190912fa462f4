abbrev rm_X6_answer : Room := { frames := 5, cells := 0, slots := 0, locals := 114 }
set_option maxRecDepth 20000 in
theorem t_X6_answer_35 {M : Mx} {X : Wx} {N : Nat} {o0 : Nat} {p1 : Int32} {p2 : Int32} {p3 : Int32} (h0 : akd o0 = 6) {r : Int32} {u' : ASt} (K : OkM 0 M X cX6_answer 4 RX6 rm_X6_answer (some .int)) {u : ASt} (hf : f_X6_answer_35 N o0 p1 p2 p3  u = some (r, u')) : V 0 M X (some (.int r), u') 4 35 [(0, .ref (X.2.1 o0))] [] u := by
  unfold f_X6_answer_35 at hf
  refine v_aload_n K 0 rfl rfl dX6_answer_35 ?_
  refine v_bipush K (v := (-2)) (by decide) dX6_answer_36 ?_
  obtain ⟨r2, u1, e3, hf⟩ := bnd_of hf
  refine v_callVi K (c_X6_counted h0 e3) cv_X6_counted ml_X6_84 (am0_6 h0) h0 kdX6 ⟨rfl, rfl, Nat.le_of_ble_eq_true rfl, Nat.le_of_ble_eq_true rfl⟩ rfl rfl (Nat.le_of_ble_eq_true rfl) dX6_answer_38 ?_
  obtain ⟨rfl, rfl⟩ := pair_of hf
  exact v_iret K dX6_answer_41
set_option maxRecDepth 20000 in
theorem c_X6_answer {X : Wx} {N : Nat} {o0 : Nat} {p1 : Int32} {p2 : Int32} {p3 : Int32} (h0 : akd o0 = 6) {u u' : ASt} {r : Int32} (hf : f_X6_answer N o0 p1 p2 p3 u = some (r, u')) (l : Launch) : Met l yX6_answer (ws_ yX6_answer cX6_answer 4 (some .int)) rm_X6_answer (Pg 0 X u [.ref (X.2.1 o0), .int p1, .int p2, .int p3]) (Qg 0 X (some (.int r)) u') 0 0 (Aw 0 X) := by
  refine v_met (res := (some (.int r), u')) (by decide) (Nat.le_of_ble_eq_true rfl) (fun M K => ?_)
  have K : OkM 0 M X cX6_answer 4 RX6 rm_X6_answer (some .int) := K
  show V 0 M X (some (.int r), u') 4 0 [(0, .ref (X.2.1 o0)), (1, .int p1), (2, .int p2), (3, .int p3)] [] u
  unfold f_X6_answer at hf
  refine v_iload_n K 1 rfl rfl dX6_answer_0 ?_
  obtain ⟨r5, u4, e6, hf⟩ := bnd_of hf
  refine v_callSi K (c_X6_isBit e6) cv_X6_isBit ml_X6_116 ⟨rfl, rfl, Nat.le_of_ble_eq_true rfl, Nat.le_of_ble_eq_true rfl⟩ rfl rfl (Nat.le_of_ble_eq_true rfl) dX6_answer_1 ?_
  refine v_if_eq K 35 (by decide) dX6_answer_4 (fun c7 => ?_) (fun c7 => ?_)
  · have hf := ite_t c7 hf
    refine v_sub [0] rfl ?_
    exact t_X6_answer_35 h0 K hf
  · have hf := ite_f c7 hf
    refine v_aload_n K 0 rfl rfl dX6_answer_7 ?_
    refine gf_6_0 K h0 fl_X6_12 dX6_answer_8 ?_
    refine v_iload_n K 2 rfl rfl dX6_answer_11 ?_
    refine v_iload_n K 3 rfl rfl dX6_answer_12 ?_
    obtain ⟨r9, u8, e10, hf⟩ := bnd_of hf
    refine v_callVi K (c_X0_hasCell (ak_6_0 h0) e10) cv_X0_hasCell ml_X6_100 (am0_0 (ak_6_0 h0)) (ak_6_0 h0) kdX0 ⟨rfl, rfl, Nat.le_of_ble_eq_true rfl, Nat.le_of_ble_eq_true rfl⟩ rfl rfl (Nat.le_of_ble_eq_true rfl) dX6_answer_13 ?_
    refine v_if_eq K 35 (by decide) dX6_answer_16 (fun c11 => ?_) (fun c11 => ?_)
    · have hf := ite_t c11 hf
      refine v_sub [0] rfl ?_
      exact t_X6_answer_35 h0 K hf
    · have hf := ite_f c11 hf
      refine v_aload_n K 0 rfl rfl dX6_answer_19 ?_
      refine gf_6_0 K h0 fl_X6_12 dX6_answer_20 ?_
      refine gf_0_0 K (ak_6_0 h0) fl_X6_91 dX6_answer_23 ?_
      refine v_iload_n K 2 rfl rfl dX6_answer_26 ?_
      obtain ⟨g12, hf⟩ := chk_of hf
      refine v_aald K (am0_11 (ak_0_0 (ak_6_0 h0))) (.inr (ak_0_0 (ak_6_0 h0))) g12 dX6_answer_27 ?_
      refine v_iload_n K 3 rfl rfl dX6_answer_28 ?_
      obtain ⟨r14, u13, e15, hf⟩ := bnd_of hf
      refine v_callVi K (c_X1_isOutput (ae_11 (ak_0_0 (ak_6_0 h0)) g12) e15) cv_X1_isOutput ml_X6_134 (am0_1 (ae_11 (ak_0_0 (ak_6_0 h0)) g12)) (ae_11 (ak_0_0 (ak_6_0 h0)) g12) kdX1 ⟨rfl, rfl, Nat.le_of_ble_eq_true rfl, Nat.le_of_ble_eq_true rfl⟩ rfl rfl (Nat.le_of_ble_eq_true rfl) dX6_answer_29 ?_
      refine v_if_eq K 42 (by decide) dX6_answer_32 (fun c16 => ?_) (fun c16 => ?_)
      · have hf := ite_t c16 hf
        refine v_aload_n K 0 rfl rfl dX6_answer_42 ?_
        refine gf_6_2 K h0 fl_X6_28 dX6_answer_43 ?_
        refine v_iload_n K 1 rfl rfl dX6_answer_46 ?_
        refine v_iload_n K 2 rfl rfl dX6_answer_47 ?_
        refine v_iload_n K 3 rfl rfl dX6_answer_48 ?_
        obtain ⟨r18, u17, e19, hf⟩ := bnd_of hf
        refine v_callVi K (c_X4_presentAnswer (ak_6_2 h0) e19) cv_X4_presentAnswer ml_X6_137 (am0_4 (ak_6_2 h0)) (ak_6_2 h0) kdX4 ⟨rfl, rfl, Nat.le_of_ble_eq_true rfl, Nat.le_of_ble_eq_true rfl⟩ rfl rfl (Nat.le_of_ble_eq_true rfl) dX6_answer_49 ?_
        obtain ⟨rfl, rfl⟩ := pair_of hf
        exact v_iret K dX6_answer_52
      · have hf := ite_f c16 hf
        refine v_sub [0] rfl ?_
        exact t_X6_answer_35 h0 K hf
abbrev rm_X6_seen : Room := { frames := 5, cells := 0, slots := 0, locals := 116 }
set_option maxRecDepth 20000 in
theorem c_X6_seen {X : Wx} {N : Nat} {o0 : Nat} {p1 : Int32} (h0 : akd o0 = 6) {u u' : ASt} {r : Int32} (hf : f_X6_seen N o0 p1 u = some (r, u')) (l : Launch) : Met l yX6_seen (ws_ yX6_seen cX6_seen 2 (some .int)) rm_X6_seen (Pg 0 X u [.ref (X.2.1 o0), .int p1]) (Qg 0 X (some (.int r)) u') 0 0 (Aw 0 X) := by
  refine v_met (res := (some (.int r), u')) (by decide) (Nat.le_of_ble_eq_true rfl) (fun M K => ?_)
  have K : OkM 0 M X cX6_seen 2 RX6 rm_X6_seen (some .int) := K
  show V 0 M X (some (.int r), u') 2 0 [(0, .ref (X.2.1 o0)), (1, .int p1)] [] u
  unfold f_X6_seen at hf
  refine v_iload_n K 1 rfl rfl dX6_seen_0 ?_
  obtain ⟨r2, u1, e3, hf⟩ := bnd_of hf
  refine v_callSi K (c_X6_isBit e3) cv_X6_isBit ml_X6_116 ⟨rfl, rfl, Nat.le_of_ble_eq_true rfl, Nat.le_of_ble_eq_true rfl⟩ rfl rfl (Nat.le_of_ble_eq_true rfl) dX6_seen_1 ?_
  refine v_if_ne K 14 (by decide) dX6_seen_4 (fun c4 => ?_) (fun c4 => ?_)
  · have hf := ite_f c4 hf
    refine v_aload_n K 0 rfl rfl dX6_seen_14 ?_
    refine gf_6_2 K h0 fl_X6_28 dX6_seen_15 ?_
    refine v_iload_n K 1 rfl rfl dX6_seen_18 ?_
    obtain ⟨r6, u5, e7, hf⟩ := bnd_of hf
    refine v_callVi K (c_X4_showsFaults (ak_6_2 h0) e7) cv_X4_showsFaults ml_X6_140 (am0_4 (ak_6_2 h0)) (ak_6_2 h0) kdX4 ⟨rfl, rfl, Nat.le_of_ble_eq_true rfl, Nat.le_of_ble_eq_true rfl⟩ rfl rfl (Nat.le_of_ble_eq_true rfl) dX6_seen_19 ?_
    refine v_if_eq K 29 (by decide) dX6_seen_22 (fun c8 => ?_) (fun c8 => ?_)
    · have hf := ite_t c8 hf
      refine v_iconst K (v := 0) (by decide) dX6_seen_29 ?_
      obtain ⟨rfl, rfl⟩ := pair_of hf
      exact v_iret K dX6_seen_30
    · have hf := ite_f c8 hf
      refine v_iconst K (v := 1) (by decide) dX6_seen_25 ?_
      refine v_goto K 30 (by decide) dX6_seen_26 ?_
      obtain ⟨rfl, rfl⟩ := pair_of hf
      exact v_iret K dX6_seen_30
  · have hf := ite_t c4 hf
    refine v_aload_n K 0 rfl rfl dX6_seen_7 ?_
    refine v_bipush K (v := (-2)) (by decide) dX6_seen_8 ?_
    obtain ⟨r10, u9, e11, hf⟩ := bnd_of hf
    refine v_callVi K (c_X6_counted h0 e11) cv_X6_counted ml_X6_84 (am0_6 h0) h0 kdX6 ⟨rfl, rfl, Nat.le_of_ble_eq_true rfl, Nat.le_of_ble_eq_true rfl⟩ rfl rfl (Nat.le_of_ble_eq_true rfl) dX6_seen_10 ?_
    obtain ⟨rfl, rfl⟩ := pair_of hf
    exact v_iret K dX6_seen_13
abbrev rm_X6_suspects : Room := { frames := 5, cells := 0, slots := 0, locals := 118 }
set_option maxRecDepth 20000 in
theorem t_X6_suspects_12 {M : Mx} {X : Wx} {N : Nat} {o0 : Nat} {p1 : Int32} {p2 : Int32} (h0 : akd o0 = 6) {r : Int32} {u' : ASt} (K : OkM 0 M X cX6_suspects 4 RX6 rm_X6_suspects (some .int)) {u : ASt} (hf : f_X6_suspects_12 N o0 p1 p2  u = some (r, u')) : V 0 M X (some (.int r), u') 4 12 [(0, .ref (X.2.1 o0))] [] u := by
  unfold f_X6_suspects_12 at hf
  refine v_aload_n K 0 rfl rfl dX6_suspects_12 ?_
  refine v_bipush K (v := (-2)) (by decide) dX6_suspects_13 ?_
  obtain ⟨r2, u1, e3, hf⟩ := bnd_of hf
  refine v_callVi K (c_X6_counted h0 e3) cv_X6_counted ml_X6_84 (am0_6 h0) h0 kdX6 ⟨rfl, rfl, Nat.le_of_ble_eq_true rfl, Nat.le_of_ble_eq_true rfl⟩ rfl rfl (Nat.le_of_ble_eq_true rfl) dX6_suspects_15 ?_
  obtain ⟨rfl, rfl⟩ := pair_of hf
  exact v_iret K dX6_suspects_18
set_option maxRecDepth 20000 in
theorem c_X6_suspects {X : Wx} {N : Nat} {o0 : Nat} {p1 : Int32} {p2 : Int32} (h0 : akd o0 = 6) {u u' : ASt} {r : Int32} (hf : f_X6_suspects N o0 p1 p2 u = some (r, u')) (l : Launch) : Met l yX6_suspects (ws_ yX6_suspects cX6_suspects 4 (some .int)) rm_X6_suspects (Pg 0 X u [.ref (X.2.1 o0), .int p1, .int p2]) (Qg 0 X (some (.int r)) u') 0 0 (Aw 0 X) := by
  refine v_met (res := (some (.int r), u')) (by decide) (Nat.le_of_ble_eq_true rfl) (fun M K => ?_)
  have K : OkM 0 M X cX6_suspects 4 RX6 rm_X6_suspects (some .int) := K
  show V 0 M X (some (.int r), u') 4 0 [(0, .ref (X.2.1 o0)), (1, .int p1), (2, .int p2)] [] u
  unfold f_X6_suspects at hf
  refine v_iload_n K 1 rfl rfl dX6_suspects_0 ?_
  obtain ⟨r5, u4, e6, hf⟩ := bnd_of hf
  refine v_callSi K (c_X6_isBit e6) cv_X6_isBit ml_X6_116 ⟨rfl, rfl, Nat.le_of_ble_eq_true rfl, Nat.le_of_ble_eq_true rfl⟩ rfl rfl (Nat.le_of_ble_eq_true rfl) dX6_suspects_1 ?_
  refine v_if_eq K 12 (by decide) dX6_suspects_4 (fun c7 => ?_) (fun c7 => ?_)
  · have hf := ite_t c7 hf
    refine v_sub [0] rfl ?_
    exact t_X6_suspects_12 h0 K hf
  · have hf := ite_f c7 hf
    refine v_iload_n K 2 rfl rfl dX6_suspects_7 ?_
    refine v_iconst K (v := (-1)) (by decide) dX6_suspects_8 ?_
    refine v_icmp_ge K 19 (by decide) dX6_suspects_9 (fun c8 => ?_) (fun c8 => ?_)
    · have hf := ite_t c8 hf
      refine v_aload_n K 0 rfl rfl dX6_suspects_19 ?_
      refine gf_6_2 K h0 fl_X6_28 dX6_suspects_20 ?_
      refine v_iload_n K 1 rfl rfl dX6_suspects_23 ?_
      obtain ⟨r10, u9, e11, hf⟩ := bnd_of hf
      refine v_callVi K (c_X4_findSuspects (ak_6_2 h0) e11) cv_X4_findSuspects ml_X6_143 (am0_4 (ak_6_2 h0)) (ak_6_2 h0) kdX4 ⟨rfl, rfl, Nat.le_of_ble_eq_true rfl, Nat.le_of_ble_eq_true rfl⟩ rfl rfl (Nat.le_of_ble_eq_true rfl) dX6_suspects_24 ?_
      refine v_istore_n K (ls' := [(3, .int r10), (0, .ref (X.2.1 o0)), (1, .int p1), (2, .int p2)]) rfl (by decide) rfl dX6_suspects_27 ?_
      refine v_iload_n K 3 rfl rfl dX6_suspects_28 ?_
      refine v_iconst K (v := (-1)) (by decide) dX6_suspects_29 ?_
      refine v_icmp_ne K 35 (by decide) dX6_suspects_30 (fun c12 => ?_) (fun c12 => ?_)
      · have hf := ite_f c12 hf
        refine v_iload_n K 3 rfl rfl dX6_suspects_35 ?_
        refine v_iload_n K 0 rfl rfl dX6_suspects_36 ?_
        refine v_icmp_ge K 52 (by decide) dX6_suspects_37 (fun c13 => ?_) (fun c13 => ?_)
        · have hf := ite_t c13 hf
          refine v_bipush K (v := (-5)) (by decide) dX6_suspects_52 ?_
          obtain ⟨rfl, rfl⟩ := pair_of hf
          exact v_iret K dX6_suspects_54
        · have hf := ite_f c13 hf
          refine v_aload_n K 1 rfl rfl dX6_suspects_40 ?_
          refine gf_6_2 K h0 fl_X6_28 dX6_suspects_41 ?_
          refine gf_4_5 K (ak_6_2 h0) fl_X6_146 dX6_suspects_44 ?_
          refine v_iload_n K 3 rfl rfl dX6_suspects_47 ?_
          obtain ⟨g14, hf⟩ := chk_of hf
          refine v_iald K (am0_9 (ak_4_5 (ak_6_2 h0))) (.inl (ak_4_5 (ak_6_2 h0))) g14 dX6_suspects_48 ?_
          refine v_goto K 54 (by decide) dX6_suspects_49 ?_
          obtain ⟨rfl, rfl⟩ := pair_of hf
          exact v_iret K dX6_suspects_54
      · have hf := ite_t c12 hf
        refine v_iload_n K 0 rfl rfl dX6_suspects_33 ?_
        obtain ⟨rfl, rfl⟩ := pair_of hf
        exact v_iret K dX6_suspects_34
    · have hf := ite_f c8 hf
      refine v_sub [0] rfl ?_
      exact t_X6_suspects_12 h0 K hf
abbrev rm_X6_type : Room := { frames := 1, cells := 0, slots := 0, locals := 21 }
set_option maxRecDepth 20000 in
theorem c_X6_type {X : Wx} {N : Nat} {o0 : Nat} {p1 : Int32} (h0 : akd o0 = 6) {u u' : ASt} {r : Int32} (hf : f_X6_type N o0 p1 u = some (r, u')) (l : Launch) : Met l yX6_type (ws_ yX6_type cX6_type 2 (some .int)) rm_X6_type (Pg 0 X u [.ref (X.2.1 o0), .int p1]) (Qg 0 X (some (.int r)) u') 0 0 (Aw 0 X) := by
  refine v_met (res := (some (.int r), u')) (by decide) (Nat.le_of_ble_eq_true rfl) (fun M K => ?_)
  have K : OkM 0 M X cX6_type 2 RX6 rm_X6_type (some .int) := K
  show V 0 M X (some (.int r), u') 2 0 [(0, .ref (X.2.1 o0)), (1, .int p1)] [] u
  unfold f_X6_type at hf
  refine v_aload_n K 0 rfl rfl dX6_type_0 ?_
  refine v_aload_n K 0 rfl rfl dX6_type_1 ?_
  refine gf_6_4 K h0 fl_X6_42 dX6_type_2 ?_
  refine v_iload_n K 1 rfl rfl dX6_type_5 ?_
  obtain ⟨r2, u1, e3, hf⟩ := bnd_of hf
  refine v_callVi K (c_X5_append (ak_6_4 h0) e3) cv_X5_append ml_X6_149 (am0_5 (ak_6_4 h0)) (ak_6_4 h0) kdX5 ⟨rfl, rfl, Nat.le_of_ble_eq_true rfl, Nat.le_of_ble_eq_true rfl⟩ rfl rfl (Nat.le_of_ble_eq_true rfl) dX6_type_6 ?_
  obtain ⟨r5, u4, e6, hf⟩ := bnd_of hf
  refine v_callVi K (c_X6_counted h0 e6) cv_X6_counted ml_X6_84 (am0_6 h0) h0 kdX6 ⟨rfl, rfl, Nat.le_of_ble_eq_true rfl, Nat.le_of_ble_eq_true rfl⟩ rfl rfl (Nat.le_of_ble_eq_true rfl) dX6_type_9 ?_
  obtain ⟨rfl, rfl⟩ := pair_of hf
  exact v_iret K dX6_type_12
abbrev rm_X6_clear : Room := { frames := 1, cells := 0, slots := 0, locals := 21 }
set_option maxRecDepth 20000 in
theorem c_X6_clear {X : Wx} {N : Nat} {o0 : Nat} (h0 : akd o0 = 6) {u u' : ASt} {r : Int32} (hf : f_X6_clear N o0 u = some (r, u')) (l : Launch) : Met l yX6_clear (ws_ yX6_clear cX6_clear 1 (some .int)) rm_X6_clear (Pg 0 X u [.ref (X.2.1 o0)]) (Qg 0 X (some (.int r)) u') 0 0 (Aw 0 X) := by
  refine v_met (res := (some (.int r), u')) (by decide) (Nat.le_of_ble_eq_true rfl) (fun M K => ?_)
  have K : OkM 0 M X cX6_clear 1 RX6 rm_X6_clear (some .int) := K
  show V 0 M X (some (.int r), u') 1 0 [(0, .ref (X.2.1 o0))] [] u
  unfold f_X6_clear at hf
  refine v_aload_n K 0 rfl rfl dX6_clear_0 ?_
  refine gf_6_4 K h0 fl_X6_42 dX6_clear_1 ?_
  obtain ⟨r2, u1, e3, hf⟩ := bnd_of hf
  refine v_callVi K (c_X5_drop (ak_6_4 h0) e3) cv_X5_drop ml_X6_152 (am0_5 (ak_6_4 h0)) (ak_6_4 h0) kdX5 ⟨rfl, rfl, Nat.le_of_ble_eq_true rfl, Nat.le_of_ble_eq_true rfl⟩ rfl rfl (Nat.le_of_ble_eq_true rfl) dX6_clear_4 ?_
  obtain ⟨rfl, rfl⟩ := pair_of hf
  exact v_iret K dX6_clear_7
abbrev rm_X6_carryOut : Room := { frames := 5, cells := 0, slots := 0, locals := 114 }
set_option maxRecDepth 20000 in
theorem c_X6_carryOut {X : Wx} {N : Nat} {o0 : Nat} {p1 : Int32} {p2 : Int32} (h0 : akd o0 = 6) {u u' : ASt} {r : Int32} (hf : f_X6_carryOut N o0 p1 p2 u = some (r, u')) (l : Launch) : Met l yX6_carryOut (ws_ yX6_carryOut cX6_carryOut 6 (some .int)) rm_X6_carryOut (Pg 0 X u [.ref (X.2.1 o0), .int p1, .int p2]) (Qg 0 X (some (.int r)) u') 0 0 (Aw 0 X) := by
  refine v_met (res := (some (.int r), u')) (by decide) (Nat.le_of_ble_eq_true rfl) (fun M K => ?_)
  have K : OkM 0 M X cX6_carryOut 6 RX6 rm_X6_carryOut (some .int) := K
  show V 0 M X (some (.int r), u') 6 0 [(0, .ref (X.2.1 o0)), (1, .int p1), (2, .int p2)] [] u
  unfold f_X6_carryOut at hf
  refine v_aload_n K 0 rfl rfl dX6_carryOut_0 ?_
  refine gf_6_4 K h0 fl_X6_42 dX6_carryOut_1 ?_
  refine gf_5_3 K (ak_6_4 h0) fl_X6_251 dX6_carryOut_4 ?_
  refine v_iload_n K 2 rfl rfl dX6_carryOut_7 ?_
  obtain ⟨g1, hf⟩ := chk_of hf
  refine v_iald K (am0_9 (ak_5_3 (ak_6_4 h0))) (.inl (ak_5_3 (ak_6_4 h0))) g1 dX6_carryOut_8 ?_
  refine v_topi (fun z2 ez2 => ?_)
  have hf := lte_of ez2 hf
  refine v_istore_n K (ls' := [(3, .int z2), (0, .ref (X.2.1 o0)), (1, .int p1), (2, .int p2)]) rfl (by decide) rfl dX6_carryOut_9 ?_
  refine v_aload_n K 1 rfl rfl dX6_carryOut_10 ?_
  refine gf_6_4 K h0 fl_X6_42 dX6_carryOut_11 ?_
  refine gf_5_3 K (ak_6_4 h0) fl_X6_251 dX6_carryOut_14 ?_
  refine v_iload_n K 3 rfl rfl dX6_carryOut_17 ?_
  refine v_iconst K (v := 1) (by decide) dX6_carryOut_18 ?_
  refine v_iadd K dX6_carryOut_19 ?_
  obtain ⟨g3, hf⟩ := chk_of hf
  refine v_iald K (am0_9 (ak_5_3 (ak_6_4 h0))) (.inl (ak_5_3 (ak_6_4 h0))) g3 dX6_carryOut_20 ?_
  refine v_topi (fun z4 ez4 => ?_)
  have hf := lte_of ez4 hf
  refine v_istore K (ls' := [(4, .int z4), (3, .int z2), (0, .ref (X.2.1 o0)), (1, .int p1), (2, .int p2)]) (by decide) rfl dX6_carryOut_21 ?_
  refine v_aload_n K 2 rfl rfl dX6_carryOut_23 ?_
  refine gf_6_4 K h0 fl_X6_42 dX6_carryOut_24 ?_
  refine gf_5_3 K (ak_6_4 h0) fl_X6_251 dX6_carryOut_27 ?_
  refine v_iload_n K 4 rfl rfl dX6_carryOut_30 ?_
  refine v_iconst K (v := 2) (by decide) dX6_carryOut_31 ?_
  refine v_iadd K dX6_carryOut_32 ?_
  obtain ⟨g5, hf⟩ := chk_of hf
  refine v_iald K (am0_9 (ak_5_3 (ak_6_4 h0))) (.inl (ak_5_3 (ak_6_4 h0))) g5 dX6_carryOut_33 ?_
  refine v_topi (fun z6 ez6 => ?_)
  have hf := lte_of ez6 hf
  refine v_istore K (ls' := [(5, .int z6), (4, .int z4), (3, .int z2), (0, .ref (X.2.1 o0)), (1, .int p1), (2, .int p2)]) (by decide) rfl dX6_carryOut_34 ?_
  refine v_iload_n K 4 rfl rfl dX6_carryOut_36 ?_
  by_cases c7 : p1 = 99
  · have hf := ite_t c7 hf
    refine v_tabK K 128 c7 (a := 99) (by decide) (by decide) (by decide) rfl (by decide) dX6_carryOut_37 ?_
    refine v_aload_n K 3 rfl rfl dX6_carryOut_128 ?_
    refine gf_6_0 K h0 fl_X6_12 dX6_carryOut_129 ?_
    refine v_iload_n K 2 rfl rfl dX6_carryOut_132 ?_
    refine v_iload K 1 rfl dX6_carryOut_133 ?_
    obtain ⟨r9, u8, e10, hf⟩ := bnd_of hf
    refine v_callVi K (c_X0_addChip (ak_6_0 h0) e10) cv_X0_addChip ml_X6_49 (am0_0 (ak_6_0 h0)) (ak_6_0 h0) kdX0 ⟨rfl, rfl, Nat.le_of_ble_eq_true rfl, Nat.le_of_ble_eq_true rfl⟩ rfl rfl (Nat.le_of_ble_eq_true rfl) dX6_carryOut_135 ?_
    obtain ⟨rfl, rfl⟩ := pair_of hf
    exact v_iret K dX6_carryOut_138
  have hf := ite_f c7 hf
  by_cases c11 : p1 = 104
  · have hf := ite_t c11 hf
    refine v_tabK K 202 c11 (a := 104) (by decide) (by decide) (by decide) rfl (by decide) dX6_carryOut_37 ?_
    refine v_aload_n K 3 rfl rfl dX6_carryOut_202 ?_
    refine gf_6_0 K h0 fl_X6_12 dX6_carryOut_203 ?_
    obtain ⟨r13, u12, e14, hf⟩ := bnd_of hf
    refine v_callVi K (c_X0_dropFaults (ak_6_0 h0) e14) cv_X0_dropFaults ml_X6_70 (am0_0 (ak_6_0 h0)) (ak_6_0 h0) kdX0 ⟨rfl, rfl, Nat.le_of_ble_eq_true rfl, Nat.le_of_ble_eq_true rfl⟩ rfl rfl (Nat.le_of_ble_eq_true rfl) dX6_carryOut_206 ?_
    obtain ⟨rfl, rfl⟩ := pair_of hf
    exact v_iret K dX6_carryOut_209
  have hf := ite_f c11 hf
  by_cases c15 : p1 = 107
  · have hf := ite_t c15 hf
    refine v_tabK K 152 c15 (a := 107) (by decide) (by decide) (by decide) rfl (by decide) dX6_carryOut_37 ?_
    refine v_aload_n K 3 rfl rfl dX6_carryOut_152 ?_
    refine gf_6_0 K h0 fl_X6_12 dX6_carryOut_153 ?_
    refine v_iload_n K 2 rfl rfl dX6_carryOut_156 ?_
    refine v_iload K 1 rfl dX6_carryOut_157 ?_
    refine v_aload_n K 3 rfl rfl dX6_carryOut_159 ?_
    refine gf_6_1 K h0 fl_X6_21 dX6_carryOut_160 ?_
    obtain ⟨r17, u16, e18, hf⟩ := bnd_of hf
    refine v_callVi K (c_X0_tick (ak_6_0 h0) (ak_6_1 h0) e18) cv_X0_tick ml_X6_74 (am0_0 (ak_6_0 h0)) (ak_6_0 h0) kdX0 ⟨rfl, rfl, Nat.le_of_ble_eq_true rfl, Nat.le_of_ble_eq_true rfl⟩ rfl rfl (Nat.le_of_ble_eq_true rfl) dX6_carryOut_163 ?_
    obtain ⟨rfl, rfl⟩ := pair_of hf
    exact v_iret K dX6_carryOut_166
  have hf := ite_f c15 hf
  by_cases c19 : p1 = 111
  · have hf := ite_t c19 hf
    refine v_tabK K 167 c19 (a := 111) (by decide) (by decide) (by decide) rfl (by decide) dX6_carryOut_37 ?_
    refine v_aload_n K 3 rfl rfl dX6_carryOut_167 ?_
    refine gf_6_0 K h0 fl_X6_12 dX6_carryOut_168 ?_
    refine v_iload_n K 2 rfl rfl dX6_carryOut_171 ?_
    refine v_iload K 1 rfl dX6_carryOut_172 ?_
    obtain ⟨r21, u20, e22, hf⟩ := bnd_of hf
    refine v_callVi K (c_X0_addOpen (ak_6_0 h0) e22) cv_X0_addOpen ml_X6_61 (am0_0 (ak_6_0 h0)) (ak_6_0 h0) kdX0 ⟨rfl, rfl, Nat.le_of_ble_eq_true rfl, Nat.le_of_ble_eq_true rfl⟩ rfl rfl (Nat.le_of_ble_eq_true rfl) dX6_carryOut_174 ?_
    obtain ⟨rfl, rfl⟩ := pair_of hf
    exact v_iret K dX6_carryOut_177
  have hf := ite_f c19 hf
  by_cases c23 : p1 = 112
  · have hf := ite_t c23 hf
    refine v_tabK K 139 c23 (a := 112) (by decide) (by decide) (by decide) rfl (by decide) dX6_carryOut_37 ?_
    refine v_aload_n K 3 rfl rfl dX6_carryOut_139 ?_
    refine gf_6_0 K h0 fl_X6_12 dX6_carryOut_140 ?_
    refine v_iload_n K 2 rfl rfl dX6_carryOut_143 ?_
    refine v_iload K 1 rfl dX6_carryOut_144 ?_
    refine v_iload K 0 rfl dX6_carryOut_146 ?_
    obtain ⟨r25, u24, e26, hf⟩ := bnd_of hf
    refine v_callVi K (c_X0_addCell (ak_6_0 h0) e26) cv_X0_addCell ml_X6_57 (am0_0 (ak_6_0 h0)) (ak_6_0 h0) kdX0 ⟨rfl, rfl, Nat.le_of_ble_eq_true rfl, Nat.le_of_ble_eq_true rfl⟩ rfl rfl (Nat.le_of_ble_eq_true rfl) dX6_carryOut_148 ?_
    obtain ⟨rfl, rfl⟩ := pair_of hf
    exact v_iret K dX6_carryOut_151
  have hf := ite_f c23 hf
  by_cases c27 : p1 = 115
  · have hf := ite_t c27 hf
    refine v_tabK K 189 c27 (a := 115) (by decide) (by decide) (by decide) rfl (by decide) dX6_carryOut_37 ?_
    refine v_aload_n K 3 rfl rfl dX6_carryOut_189 ?_
    refine gf_6_0 K h0 fl_X6_12 dX6_carryOut_190 ?_
    refine v_iload_n K 2 rfl rfl dX6_carryOut_193 ?_
    refine v_iload K 1 rfl dX6_carryOut_194 ?_
    refine v_iload K 0 rfl dX6_carryOut_196 ?_
    obtain ⟨r29, u28, e30, hf⟩ := bnd_of hf
    refine v_callVi K (c_X0_addShort (ak_6_0 h0) e30) cv_X0_addShort ml_X6_67 (am0_0 (ak_6_0 h0)) (ak_6_0 h0) kdX0 ⟨rfl, rfl, Nat.le_of_ble_eq_true rfl, Nat.le_of_ble_eq_true rfl⟩ rfl rfl (Nat.le_of_ble_eq_true rfl) dX6_carryOut_198 ?_
    obtain ⟨rfl, rfl⟩ := pair_of hf
    exact v_iret K dX6_carryOut_201
  have hf := ite_f c27 hf
  by_cases c31 : p1 = 117
  · have hf := ite_t c31 hf
    refine v_tabK K 178 c31 (a := 117) (by decide) (by decide) (by decide) rfl (by decide) dX6_carryOut_37 ?_
    refine v_aload_n K 3 rfl rfl dX6_carryOut_178 ?_
    refine gf_6_0 K h0 fl_X6_12 dX6_carryOut_179 ?_
    refine v_iload_n K 2 rfl rfl dX6_carryOut_182 ?_
    refine v_iload K 1 rfl dX6_carryOut_183 ?_
    obtain ⟨r33, u32, e34, hf⟩ := bnd_of hf
    refine v_callVi K (c_X0_addStuck (ak_6_0 h0) e34) cv_X0_addStuck ml_X6_64 (am0_0 (ak_6_0 h0)) (ak_6_0 h0) kdX0 ⟨rfl, rfl, Nat.le_of_ble_eq_true rfl, Nat.le_of_ble_eq_true rfl⟩ rfl rfl (Nat.le_of_ble_eq_true rfl) dX6_carryOut_185 ?_
    obtain ⟨rfl, rfl⟩ := pair_of hf
    exact v_iret K dX6_carryOut_188
  have hf := ite_f c31 hf
  refine v_tabD K 210 (keys := [99, 104, 107, 111, 112, 115, 117]) (by decide) (by decide) (List.forall_mem_cons.mpr ⟨lv_neT c7 (by decide), (List.forall_mem_cons.mpr ⟨lv_neT c11 (by decide), (List.forall_mem_cons.mpr ⟨lv_neT c15 (by decide), (List.forall_mem_cons.mpr ⟨lv_neT c19 (by decide), (List.forall_mem_cons.mpr ⟨lv_neT c23 (by decide), (List.forall_mem_cons.mpr ⟨lv_neT c27 (by decide), (List.forall_mem_cons.mpr ⟨lv_neT c31 (by decide), (fun _ h => absurd h List.not_mem_nil)⟩)⟩)⟩)⟩)⟩)⟩)⟩) (by decide) dX6_carryOut_37 ?_
  refine v_bipush K (v := (-2)) (by decide) dX6_carryOut_210 ?_
  obtain ⟨rfl, rfl⟩ := pair_of hf
  exact v_iret K dX6_carryOut_212
abbrev rm_X6_does : Room := { frames := 6, cells := 0, slots := 0, locals := 139 }
set_option maxRecDepth 20000 in
theorem t_X6_does_31 {M : Mx} {X : Wx} {N : Nat} {o0 : Nat} (h0 : akd o0 = 6) {r : Int32} {u' : ASt} (K : OkM 0 M X cX6_does 3 RX6 rm_X6_does (some .int)) : ∀ (n : Nat) (x2 : Int32) (u : ASt), f_X6_does_31 N o0 n x2 u = some (r, u') → V 0 M X (some (.int r), u') 3 31 [(0, .ref (X.2.1 o0)), (2, .int x2)] [] u := by
  intro n
  induction n with
  | zero => intro x2 u hf; cases hf
  | succ n ih =>
    intro x2 u hf
    rw [f_X6_does_31] at hf
    refine v_iload_n K 1 rfl rfl dX6_does_31 ?_
    refine v_aload_n K 0 rfl rfl dX6_does_32 ?_
    refine gf_6_4 K h0 fl_X6_42 dX6_does_33 ?_
    refine gf_5_4 K (ak_6_4 h0) fl_X6_158 dX6_does_36 ?_
    refine v_icmp_ge K 84 (by decide) dX6_does_39 (fun c1 => ?_) (fun c1 => ?_)
    · have hf := ite_t c1 hf
      refine v_aload_n K 0 rfl rfl dX6_does_84 ?_
      refine gf_6_3 K h0 fl_X6_35 dX6_does_85 ?_
      obtain ⟨r3, u2, e4, hf⟩ := bnd_of hf
      refine v_callVv K (c_X2_keepMark (ak_6_3 h0) e4) cv_X2_keepMark ml_X6_171 (am0_2 (ak_6_3 h0)) (ak_6_3 h0) kdX2 ⟨rfl, rfl, Nat.le_of_ble_eq_true rfl, Nat.le_of_ble_eq_true rfl⟩ rfl rfl (Nat.le_of_ble_eq_true rfl) dX6_does_88 ?_
      refine v_aload_n K 0 rfl rfl dX6_does_91 ?_
      refine gf_6_4 K h0 fl_X6_42 dX6_does_92 ?_
      refine gf_5_4 K (ak_6_4 h0) fl_X6_158 dX6_does_95 ?_
      obtain ⟨rfl, rfl⟩ := pair_of hf
      exact v_iret K dX6_does_98
    · have hf := ite_f c1 hf
      refine v_aload_n K 0 rfl rfl dX6_does_42 ?_
      refine v_aload_n K 0 rfl rfl dX6_does_43 ?_
      refine gf_6_4 K h0 fl_X6_42 dX6_does_44 ?_
      refine gf_5_2 K (ak_6_4 h0) fl_X6_161 dX6_does_47 ?_
      refine v_iload_n K 1 rfl rfl dX6_does_50 ?_
      obtain ⟨g5, hf⟩ := chk_of hf
      refine v_bald K (am0_8 (ak_5_2 (ak_6_4 h0))) (ak_5_2 (ak_6_4 h0)) g5 dX6_does_51 ?_
      refine v_iload_n K 1 rfl rfl dX6_does_52 ?_
      refine v_iconst K (v := 3) (by decide) dX6_does_53 ?_
      refine v_imul K dX6_does_54 ?_
      obtain ⟨r7, u6, e8, hf⟩ := bnd_of hf
      refine v_callVi K (c_X6_carryOut h0 e8) cv_X6_carryOut ml_X6_165 (am0_6 h0) h0 kdX6 ⟨rfl, rfl, Nat.le_of_ble_eq_true rfl, Nat.le_of_ble_eq_true rfl⟩ rfl rfl (Nat.le_of_ble_eq_true rfl) dX6_does_55 ?_
      refine v_if_ge K 78 (by decide) dX6_does_58 (fun c9 => ?_) (fun c9 => ?_)
      · have hf := ite_t c9 hf
        refine v_iinc K 1 (v := x2 + 1) (ls' := [(2, .int (x2 + 1)), (0, .ref (X.2.1 o0))]) rfl rfl (by decide) rfl dX6_does_78 ?_
        refine v_goto K 31 (by decide) dX6_does_81 ?_
        refine v_sub [1, 0] rfl ?_
        exact ih (x2 + 1) u6 hf
      · have hf := ite_f c9 hf
        refine v_aload_n K 0 rfl rfl dX6_does_61 ?_
        refine gf_6_3 K h0 fl_X6_35 dX6_does_62 ?_
        refine v_aload_n K 0 rfl rfl dX6_does_65 ?_
        refine gf_6_0 K h0 fl_X6_12 dX6_does_66 ?_
        obtain ⟨r11, u10, e12, hf⟩ := bnd_of hf
        refine v_callVv K (c_X2_returnToMark (ak_6_3 h0) (ak_6_0 h0) e12) cv_X2_returnToMark ml_X6_168 (am0_2 (ak_6_3 h0)) (ak_6_3 h0) kdX2 ⟨rfl, rfl, Nat.le_of_ble_eq_true rfl, Nat.le_of_ble_eq_true rfl⟩ rfl rfl (Nat.le_of_ble_eq_true rfl) dX6_does_69 ?_
        refine v_sipush K (v := (-1000)) (by decide) dX6_does_72 ?_
        refine v_iload_n K 1 rfl rfl dX6_does_75 ?_
        refine v_isub K dX6_does_76 ?_
        obtain ⟨rfl, rfl⟩ := pair_of hf
        exact v_iret K dX6_does_77
set_option maxRecDepth 20000 in
theorem c_X6_does {X : Wx} {N : Nat} {o0 : Nat} (h0 : akd o0 = 6) {u u' : ASt} {r : Int32} (hf : f_X6_does N o0 u = some (r, u')) (l : Launch) : Met l yX6_does (ws_ yX6_does cX6_does 3 (some .int)) rm_X6_does (Pg 0 X u [.ref (X.2.1 o0)]) (Qg 0 X (some (.int r)) u') 0 0 (Aw 0 X) := by
  refine v_met (res := (some (.int r), u')) (by decide) (Nat.le_of_ble_eq_true rfl) (fun M K => ?_)
  have K : OkM 0 M X cX6_does 3 RX6 rm_X6_does (some .int) := K
  show V 0 M X (some (.int r), u') 3 0 [(0, .ref (X.2.1 o0))] [] u
  unfold f_X6_does at hf
  refine v_aload_n K 0 rfl rfl dX6_does_0 ?_
  refine gf_6_4 K h0 fl_X6_42 dX6_does_1 ?_
  obtain ⟨r14, u13, e15, hf⟩ := bnd_of hf
  refine v_callVi K (c_X5_parse (ak_6_4 h0) e15) cv_X5_parse ml_X6_155 (am0_5 (ak_6_4 h0)) (ak_6_4 h0) kdX5 ⟨rfl, rfl, Nat.le_of_ble_eq_true rfl, Nat.le_of_ble_eq_true rfl⟩ rfl rfl (Nat.le_of_ble_eq_true rfl) dX6_does_4 ?_
  refine v_istore_n K (ls' := [(1, .int r14), (0, .ref (X.2.1 o0))]) rfl (by decide) rfl dX6_does_7 ?_
  refine v_iload_n K 0 rfl rfl dX6_does_8 ?_
  refine v_iconst K (v := (-1)) (by decide) dX6_does_9 ?_
  refine v_icmp_eq K 18 (by decide) dX6_does_10 (fun c16 => ?_) (fun c16 => ?_)
  · have hf := ite_t c16 hf
    refine v_aload_n K 1 rfl rfl dX6_does_18 ?_
    refine gf_6_3 K h0 fl_X6_35 dX6_does_19 ?_
    refine v_aload_n K 1 rfl rfl dX6_does_22 ?_
    refine gf_6_0 K h0 fl_X6_12 dX6_does_23 ?_
    obtain ⟨r18, u17, e19, hf⟩ := bnd_of hf
    refine v_callVv K (c_X2_mark (ak_6_3 h0) (ak_6_0 h0) e19) cv_X2_mark ml_X6_46 (am0_2 (ak_6_3 h0)) (ak_6_3 h0) kdX2 ⟨rfl, rfl, Nat.le_of_ble_eq_true rfl, Nat.le_of_ble_eq_true rfl⟩ rfl rfl (Nat.le_of_ble_eq_true rfl) dX6_does_26 ?_
    refine v_iconst K (v := 0) (by decide) dX6_does_29 ?_
    refine v_istore_n K (ls' := [(2, .int 0), (1, .int r14), (0, .ref (X.2.1 o0))]) rfl (by decide) rfl dX6_does_30 ?_
    refine v_sub [2, 0] rfl ?_
    exact t_X6_does_31 h0 K N 0 u17 hf
  · have hf := ite_f c16 hf
    refine v_bipush K (v := (-10)) (by decide) dX6_does_13 ?_
    refine v_iload_n K 0 rfl rfl dX6_does_15 ?_
    refine v_isub K dX6_does_16 ?_
    obtain ⟨rfl, rfl⟩ := pair_of hf
    exact v_iret K dX6_does_17
abbrev rm_X6_back : Room := { frames := 5, cells := 0, slots := 0, locals := 125 }
set_option maxRecDepth 20000 in
theorem c_X6_back {X : Wx} {N : Nat} {o0 : Nat} (h0 : akd o0 = 6) {u u' : ASt} {r : Int32} (hf : f_X6_back N o0 u = some (r, u')) (l : Launch) : Met l yX6_back (ws_ yX6_back cX6_back 1 (some .int)) rm_X6_back (Pg 0 X u [.ref (X.2.1 o0)]) (Qg 0 X (some (.int r)) u') 0 0 (Aw 0 X) := by
  refine v_met (res := (some (.int r), u')) (by decide) (Nat.le_of_ble_eq_true rfl) (fun M K => ?_)
  have K : OkM 0 M X cX6_back 1 RX6 rm_X6_back (some .int) := K
  show V 0 M X (some (.int r), u') 1 0 [(0, .ref (X.2.1 o0))] [] u
  unfold f_X6_back at hf
  refine v_aload_n K 0 rfl rfl dX6_back_0 ?_
  refine v_aload_n K 0 rfl rfl dX6_back_1 ?_
  refine gf_6_3 K h0 fl_X6_35 dX6_back_2 ?_
  refine v_aload_n K 0 rfl rfl dX6_back_5 ?_
  refine gf_6_0 K h0 fl_X6_12 dX6_back_6 ?_
  obtain ⟨r2, u1, e3, hf⟩ := bnd_of hf
  refine v_callVi K (c_X2_takeBack (ak_6_3 h0) (ak_6_0 h0) e3) cv_X2_takeBack ml_X6_174 (am0_2 (ak_6_3 h0)) (ak_6_3 h0) kdX2 ⟨rfl, rfl, Nat.le_of_ble_eq_true rfl, Nat.le_of_ble_eq_true rfl⟩ rfl rfl (Nat.le_of_ble_eq_true rfl) dX6_back_9 ?_
  obtain ⟨r5, u4, e6, hf⟩ := bnd_of hf
  refine v_callVi K (c_X6_counted h0 e6) cv_X6_counted ml_X6_84 (am0_6 h0) h0 kdX6 ⟨rfl, rfl, Nat.le_of_ble_eq_true rfl, Nat.le_of_ble_eq_true rfl⟩ rfl rfl (Nat.le_of_ble_eq_true rfl) dX6_back_12 ?_
  obtain ⟨rfl, rfl⟩ := pair_of hf
  exact v_iret K dX6_back_15
abbrev rm_X6_told : Room := { frames := 1, cells := 0, slots := 0, locals := 21 }
set_option maxRecDepth 20000 in
theorem c_X6_told {X : Wx} {N : Nat} {o0 : Nat} {p1 : Int32} (h0 : akd o0 = 6) {u u' : ASt} {r : Int32} (hf : f_X6_told N o0 p1 u = some (r, u')) (l : Launch) : Met l yX6_told (ws_ yX6_told cX6_told 2 (some .int)) rm_X6_told (Pg 0 X u [.ref (X.2.1 o0), .int p1]) (Qg 0 X (some (.int r)) u') 0 0 (Aw 0 X) := by
  refine v_met (res := (some (.int r), u')) (by decide) (Nat.le_of_ble_eq_true rfl) (fun M K => ?_)
  have K : OkM 0 M X cX6_told 2 RX6 rm_X6_told (some .int) := K
  show V 0 M X (some (.int r), u') 2 0 [(0, .ref (X.2.1 o0)), (1, .int p1)] [] u
  unfold f_X6_told at hf
  refine v_iload_n K 1 rfl rfl dX6_told_0 ?_
  by_cases c1 : p1 = 0
  · have hf := ite_t c1 hf
    refine v_tabK K 36 c1 (a := 0) (by decide) (by decide) (by decide) rfl (by decide) dX6_told_1 ?_
    refine v_aload_n K 0 rfl rfl dX6_told_36 ?_
    refine gf_6_5 K h0 fl_X6_178 dX6_told_37 ?_
    obtain ⟨rfl, rfl⟩ := pair_of hf
    exact v_iret K dX6_told_40
  have hf := ite_f c1 hf
  by_cases c2 : p1 = 1
  · have hf := ite_t c2 hf
    refine v_tabK K 41 c2 (a := 1) (by decide) (by decide) (by decide) rfl (by decide) dX6_told_1 ?_
    refine v_aload_n K 0 rfl rfl dX6_told_41 ?_
    refine gf_6_6 K h0 fl_X6_181 dX6_told_42 ?_
    obtain ⟨rfl, rfl⟩ := pair_of hf
    exact v_iret K dX6_told_45
  have hf := ite_f c2 hf
  by_cases c3 : p1 = 2
  · have hf := ite_t c3 hf
    refine v_tabK K 46 c3 (a := 2) (by decide) (by decide) (by decide) rfl (by decide) dX6_told_1 ?_
    refine v_aload_n K 0 rfl rfl dX6_told_46 ?_
    refine gf_6_7 K h0 fl_X6_184 dX6_told_47 ?_
    obtain ⟨rfl, rfl⟩ := pair_of hf
    exact v_iret K dX6_told_50
  have hf := ite_f c3 hf
  by_cases c4 : p1 = 3
  · have hf := ite_t c4 hf
    refine v_tabK K 51 c4 (a := 3) (by decide) (by decide) (by decide) rfl (by decide) dX6_told_1 ?_
    refine v_aload_n K 0 rfl rfl dX6_told_51 ?_
    refine gf_6_4 K h0 fl_X6_42 dX6_told_52 ?_
    refine gf_5_1 K (ak_6_4 h0) fl_X6_187 dX6_told_55 ?_
    obtain ⟨rfl, rfl⟩ := pair_of hf
    exact v_iret K dX6_told_58
  have hf := ite_f c4 hf
  by_cases c5 : p1 = 4
  · have hf := ite_t c5 hf
    refine v_tabK K 59 c5 (a := 4) (by decide) (by decide) (by decide) rfl (by decide) dX6_told_1 ?_
    refine v_aload_n K 0 rfl rfl dX6_told_59 ?_
    refine gf_6_3 K h0 fl_X6_35 dX6_told_60 ?_
    refine gf_2_2 K (ak_6_3 h0) fl_X6_190 dX6_told_63 ?_
    obtain ⟨rfl, rfl⟩ := pair_of hf
    exact v_iret K dX6_told_66
  have hf := ite_f c5 hf
  refine v_tabD K 67 (keys := [0, 1, 2, 3, 4]) (by decide) (by decide) (List.forall_mem_cons.mpr ⟨lv_neT c1 (by decide), (List.forall_mem_cons.mpr ⟨lv_neT c2 (by decide), (List.forall_mem_cons.mpr ⟨lv_neT c3 (by decide), (List.forall_mem_cons.mpr ⟨lv_neT c4 (by decide), (List.forall_mem_cons.mpr ⟨lv_neT c5 (by decide), (fun _ h => absurd h List.not_mem_nil)⟩)⟩)⟩)⟩)⟩) (by decide) dX6_told_1 ?_
  refine v_aload_n K 0 rfl rfl dX6_told_67 ?_
  refine v_bipush K (v := (-2)) (by decide) dX6_told_68 ?_
  obtain ⟨r7, u6, e8, hf⟩ := bnd_of hf
  refine v_callVi K (c_X6_counted h0 e8) cv_X6_counted ml_X6_84 (am0_6 h0) h0 kdX6 ⟨rfl, rfl, Nat.le_of_ble_eq_true rfl, Nat.le_of_ble_eq_true rfl⟩ rfl rfl (Nat.le_of_ble_eq_true rfl) dX6_told_70 ?_
  obtain ⟨rfl, rfl⟩ := pair_of hf
  exact v_iret K dX6_told_73
abbrev rm_X6_mixed : Room := { frames := 0, cells := 0, slots := 0, locals := 0 }
set_option maxRecDepth 20000 in
theorem c_X6_mixed {X : Wx} {N : Nat} {p1 : Int64} {p2 : Int32} {u u' : ASt} {r : Int64} (hf : f_X6_mixed N p1 p2 u = some (r, u')) (l : Launch) : Met l yX6_mixed (ws_ yX6_mixed cX6_mixed 3 (some .long)) rm_X6_mixed (Pg 0 X u [.long p1, .int p2]) (Qg 0 X (some (.long r)) u') 0 0 (Aw 0 X) := by
  refine v_met (res := (some (.long r), u')) (by decide) (Nat.le_of_ble_eq_true rfl) (fun M K => ?_)
  have K : OkM 0 M X cX6_mixed 3 RX6 rm_X6_mixed (some .long) := K
  show V 0 M X (some (.long r), u') 3 0 [(0, .long p1), (2, .int p2)] [] u
  unfold f_X6_mixed at hf
  refine v_ldc2 K co_X6_221 dX6_mixed_0 ?_
  refine v_lload_n K 0 rfl rfl dX6_mixed_3 ?_
  refine v_lmul K dX6_mixed_4 ?_
  refine v_iload_n K 1 rfl rfl dX6_mixed_5 ?_
  refine v_i2l K dX6_mixed_6 ?_
  refine v_ladd K dX6_mixed_7 ?_
  obtain ⟨rfl, rfl⟩ := pair_of hf
  exact v_lret K dX6_mixed_8
abbrev rm_X6_mixedChips : Room := { frames := 5, cells := 0, slots := 0, locals := 114 }
set_option maxRecDepth 20000 in
theorem t_X6_mixedChips_74 {M : Mx} {X : Wx} {N : Nat} {o0 : Nat} {p1 : Int64} (h0 : akd o0 = 6) {r : Int64} {u' : ASt} (K : OkM 0 M X cX6_mixedChips 9 RX6 rm_X6_mixedChips (some .long)) {k5 : Int64 → Int32 → ASt → Option (Int64 × ASt)} (hk5 : ∀ (x3 : Int64) (x5 : Int32) (u : ASt), k5 x3 x5 u = some (r, u') → V 0 M X (some (.long r), u') 9 5 [(0, .ref (X.2.1 o0)), (3, .long x3), (5, .int x5)] [] u) {k64 : Int64 → Int32 → Int32 → Int32 → ASt → Option (Int64 × ASt)} (hk64 : ∀ (x3 : Int64) (x5 : Int32) (x6 : Int32) (x7 : Int32) (u : ASt), k64 x3 x5 x6 x7 u = some (r, u') → V 0 M X (some (.long r), u') 9 64 [(0, .ref (X.2.1 o0)), (3, .long x3), (5, .int x5), (6, .int x6), (7, .int x7)] [] u) : ∀ (n : Nat) (x3 : Int64) (x5 : Int32) (x6 : Int32) (x7 : Int32) (x8 : Int32) (u : ASt), f_X6_mixedChips_74 N o0 p1 k5 k64 n x3 x5 x6 x7 x8 u = some (r, u') → V 0 M X (some (.long r), u') 9 74 [(0, .ref (X.2.1 o0)), (3, .long x3), (5, .int x5), (6, .int x6), (7, .int x7), (8, .int x8)] [] u := by
  intro n
  induction n with
  | zero => intro x3 x5 x6 x7 x8 u hf; cases hf
  | succ n ih =>
    intro x3 x5 x6 x7 x8 u hf
    rw [f_X6_mixedChips_74] at hf
    refine v_iload K 5 rfl dX6_mixedChips_74 ?_
    refine v_iconst K (v := 3) (by decide) dX6_mixedChips_76 ?_
    refine v_icmp_ge K 101 (by decide) dX6_mixedChips_77 (fun c1 => ?_) (fun c1 => ?_)
    · have hf := ite_t c1 hf
      refine v_iinc K 4 (v := x7 + 1) (ls' := [(7, .int (x7 + 1)), (0, .ref (X.2.1 o0)), (3, .long x3), (5, .int x5), (6, .int x6), (8, .int x8)]) rfl rfl (by decide) rfl dX6_mixedChips_101 ?_
      refine v_goto K 64 (by decide) dX6_mixedChips_104 ?_
      refine v_sub [1, 2, 3, 4, 0] rfl ?_
      exact hk64 x3 x5 x6 (x7 + 1) u hf
    · have hf := ite_f c1 hf
      refine v_lload_n K 1 rfl rfl dX6_mixedChips_80 ?_
      refine v_aload_n K 0 rfl rfl dX6_mixedChips_81 ?_
      refine v_iload K 2 rfl dX6_mixedChips_82 ?_
      refine v_iload K 4 rfl dX6_mixedChips_84 ?_
      refine v_iload K 5 rfl dX6_mixedChips_86 ?_
      obtain ⟨r3, u2, e4, hf⟩ := bnd_of hf
      refine v_callVi K (c_X6_about h0 e4) cv_X6_about ml_X6_263 (am0_6 h0) h0 kdX6 ⟨rfl, rfl, Nat.le_of_ble_eq_true rfl, Nat.le_of_ble_eq_true rfl⟩ rfl rfl (Nat.le_of_ble_eq_true rfl) dX6_mixedChips_88 ?_
      obtain ⟨r6, u5, e7, hf⟩ := bnd_of hf
      refine v_callSl K (c_X6_mixed e7) cv_X6_mixed ml_X6_198 ⟨rfl, rfl, Nat.le_of_ble_eq_true rfl, Nat.le_of_ble_eq_true rfl⟩ rfl rfl (Nat.le_of_ble_eq_true rfl) dX6_mixedChips_91 ?_
      refine v_lstore_n K (ls' := [(3, .long r6), (0, .ref (X.2.1 o0)), (5, .int x5), (6, .int x6), (7, .int x7), (8, .int x8)]) rfl (by decide) rfl dX6_mixedChips_94 ?_
      refine v_iinc K 5 (v := x8 + 1) (ls' := [(8, .int (x8 + 1)), (3, .long r6), (0, .ref (X.2.1 o0)), (5, .int x5), (6, .int x6), (7, .int x7)]) rfl rfl (by decide) rfl dX6_mixedChips_95 ?_
      refine v_goto K 74 (by decide) dX6_mixedChips_98 ?_
      refine v_sub [2, 1, 3, 4, 5, 0] rfl ?_
      exact ih r6 x5 x6 x7 (x8 + 1) u5 hf
set_option maxRecDepth 20000 in
theorem t_X6_mixedChips_64 {M : Mx} {X : Wx} {N : Nat} {o0 : Nat} {p1 : Int64} (h0 : akd o0 = 6) {r : Int64} {u' : ASt} (K : OkM 0 M X cX6_mixedChips 9 RX6 rm_X6_mixedChips (some .long)) {k5 : Int64 → Int32 → ASt → Option (Int64 × ASt)} (hk5 : ∀ (x3 : Int64) (x5 : Int32) (u : ASt), k5 x3 x5 u = some (r, u') → V 0 M X (some (.long r), u') 9 5 [(0, .ref (X.2.1 o0)), (3, .long x3), (5, .int x5)] [] u) : ∀ (n : Nat) (x3 : Int64) (x5 : Int32) (x6 : Int32) (x7 : Int32) (u : ASt), f_X6_mixedChips_64 N o0 p1 k5 n x3 x5 x6 x7 u = some (r, u') → V 0 M X (some (.long r), u') 9 64 [(0, .ref (X.2.1 o0)), (3, .long x3), (5, .int x5), (6, .int x6), (7, .int x7)] [] u := by
  intro n
  induction n with
  | zero => intro x3 x5 x6 x7 u hf; cases hf
  | succ n ih =>
    intro x3 x5 x6 x7 u hf
    rw [f_X6_mixedChips_64] at hf
    refine v_iload K 4 rfl dX6_mixedChips_64 ?_
    refine v_iload K 3 rfl dX6_mixedChips_66 ?_
    refine v_icmp_ge K 107 (by decide) dX6_mixedChips_68 (fun c8 => ?_) (fun c8 => ?_)
    · have hf := ite_t c8 hf
      refine v_iinc K 2 (v := x5 + 1) (ls' := [(5, .int (x5 + 1)), (0, .ref (X.2.1 o0)), (3, .long x3), (6, .int x6), (7, .int x7)]) rfl rfl (by decide) rfl dX6_mixedChips_107 ?_
      refine v_goto K 5 (by decide) dX6_mixedChips_110 ?_
      refine v_sub [1, 2, 0] rfl ?_
      exact hk5 x3 (x5 + 1) u hf
    · have hf := ite_f c8 hf
      refine v_iconst K (v := 0) (by decide) dX6_mixedChips_71 ?_
      refine v_istore K (ls' := [(8, .int 0), (0, .ref (X.2.1 o0)), (3, .long x3), (5, .int x5), (6, .int x6), (7, .int x7)]) (by decide) rfl dX6_mixedChips_72 ?_
      refine v_sub [1, 2, 3, 4, 5, 0] rfl ?_
      exact t_X6_mixedChips_74 h0 K hk5 ih N x3 x5 x6 x7 0 u hf
set_option maxRecDepth 20000 in
theorem t_X6_mixedChips_20 {M : Mx} {X : Wx} {N : Nat} {o0 : Nat} {p1 : Int64} (h0 : akd o0 = 6) {r : Int64} {u' : ASt} (K : OkM 0 M X cX6_mixedChips 9 RX6 rm_X6_mixedChips (some .long)) {k5 : Int64 → Int32 → ASt → Option (Int64 × ASt)} (hk5 : ∀ (x3 : Int64) (x5 : Int32) (u : ASt), k5 x3 x5 u = some (r, u') → V 0 M X (some (.long r), u') 9 5 [(0, .ref (X.2.1 o0)), (3, .long x3), (5, .int x5)] [] u) : ∀ (n : Nat) (x3 : Int64) (x5 : Int32) (x6 : Int32) (u : ASt), f_X6_mixedChips_20 N o0 p1 k5 n x3 x5 x6 u = some (r, u') → V 0 M X (some (.long r), u') 9 20 [(0, .ref (X.2.1 o0)), (3, .long x3), (5, .int x5), (6, .int x6)] [] u := by
  intro n
  induction n with
  | zero => intro x3 x5 x6 u hf; cases hf
  | succ n ih =>
    intro x3 x5 x6 u hf
    rw [f_X6_mixedChips_20] at hf
    refine v_iload K 3 rfl dX6_mixedChips_20 ?_
    refine v_bipush K (v := 8) (by decide) dX6_mixedChips_22 ?_
    refine v_icmp_ge K 46 (by decide) dX6_mixedChips_24 (fun c9 => ?_) (fun c9 => ?_)
    · have hf := ite_t c9 hf
      refine v_aload_n K 0 rfl rfl dX6_mixedChips_46 ?_
      refine gf_6_0 K h0 fl_X6_12 dX6_mixedChips_47 ?_
      refine gf_0_0 K (ak_6_0 h0) fl_X6_91 dX6_mixedChips_50 ?_
      refine v_iload K 2 rfl dX6_mixedChips_53 ?_
      obtain ⟨g10, hf⟩ := chk_of hf
      refine v_aald K (am0_11 (ak_0_0 (ak_6_0 h0))) (.inr (ak_0_0 (ak_6_0 h0))) g10 dX6_mixedChips_55 ?_
      refine gf_1_6 K (ae_11 (ak_0_0 (ak_6_0 h0)) g10) fl_X6_260 dX6_mixedChips_56 ?_
      refine v_topi (fun z11 ez11 => ?_)
      have hf := lte_of ez11 hf
      refine v_istore K (ls' := [(6, .int z11), (0, .ref (X.2.1 o0)), (3, .long x3), (5, .int x5)]) (by decide) rfl dX6_mixedChips_59 ?_
      refine v_iconst K (v := 0) (by decide) dX6_mixedChips_61 ?_
      refine v_istore K (ls' := [(7, .int 0), (6, .int z11), (0, .ref (X.2.1 o0)), (3, .long x3), (5, .int x5)]) (by decide) rfl dX6_mixedChips_62 ?_
      refine v_sub [2, 3, 4, 1, 0] rfl ?_
      exact t_X6_mixedChips_64 h0 K hk5 N x3 x5 z11 0 u hf
    · have hf := ite_f c9 hf
      refine v_lload_n K 1 rfl rfl dX6_mixedChips_27 ?_
      refine v_aload_n K 0 rfl rfl dX6_mixedChips_28 ?_
      refine v_iload K 2 rfl dX6_mixedChips_29 ?_
      refine v_iload K 3 rfl dX6_mixedChips_31 ?_
      obtain ⟨r13, u12, e14, hf⟩ := bnd_of hf
      refine v_callVi K (c_X6_of h0 e14) cv_X6_of ml_X6_257 (am0_6 h0) h0 kdX6 ⟨rfl, rfl, Nat.le_of_ble_eq_true rfl, Nat.le_of_ble_eq_true rfl⟩ rfl rfl (Nat.le_of_ble_eq_true rfl) dX6_mixedChips_33 ?_
      obtain ⟨r16, u15, e17, hf⟩ := bnd_of hf
      refine v_callSl K (c_X6_mixed e17) cv_X6_mixed ml_X6_198 ⟨rfl, rfl, Nat.le_of_ble_eq_true rfl, Nat.le_of_ble_eq_true rfl⟩ rfl rfl (Nat.le_of_ble_eq_true rfl) dX6_mixedChips_36 ?_
      refine v_lstore_n K (ls' := [(3, .long r16), (0, .ref (X.2.1 o0)), (5, .int x5), (6, .int x6)]) rfl (by decide) rfl dX6_mixedChips_39 ?_
      refine v_iinc K 3 (v := x6 + 1) (ls' := [(6, .int (x6 + 1)), (3, .long r16), (0, .ref (X.2.1 o0)), (5, .int x5)]) rfl rfl (by decide) rfl dX6_mixedChips_40 ?_
      refine v_goto K 20 (by decide) dX6_mixedChips_43 ?_
      refine v_sub [2, 1, 3, 0] rfl ?_
      exact ih r16 x5 (x6 + 1) u15 hf
set_option maxRecDepth 20000 in
theorem t_X6_mixedChips_5 {M : Mx} {X : Wx} {N : Nat} {o0 : Nat} {p1 : Int64} (h0 : akd o0 = 6) {r : Int64} {u' : ASt} (K : OkM 0 M X cX6_mixedChips 9 RX6 rm_X6_mixedChips (some .long)) : ∀ (n : Nat) (x3 : Int64) (x5 : Int32) (u : ASt), f_X6_mixedChips_5 N o0 p1 n x3 x5 u = some (r, u') → V 0 M X (some (.long r), u') 9 5 [(0, .ref (X.2.1 o0)), (3, .long x3), (5, .int x5)] [] u := by
  intro n
  induction n with
  | zero => intro x3 x5 u hf; cases hf
  | succ n ih =>
    intro x3 x5 u hf
    rw [f_X6_mixedChips_5] at hf
    refine v_iload K 2 rfl dX6_mixedChips_5 ?_
    refine v_aload_n K 0 rfl rfl dX6_mixedChips_7 ?_
    refine gf_6_0 K h0 fl_X6_12 dX6_mixedChips_8 ?_
    refine gf_0_1 K (ak_6_0 h0) fl_X6_254 dX6_mixedChips_11 ?_
    refine v_icmp_ge K 113 (by decide) dX6_mixedChips_14 (fun c18 => ?_) (fun c18 => ?_)
    · have hf := ite_t c18 hf
      refine v_lload_n K 1 rfl rfl dX6_mixedChips_113 ?_
      obtain ⟨rfl, rfl⟩ := pair_of hf
      exact v_lret K dX6_mixedChips_114
    · have hf := ite_f c18 hf
      refine v_iconst K (v := 0) (by decide) dX6_mixedChips_17 ?_
      refine v_istore K (ls' := [(6, .int 0), (0, .ref (X.2.1 o0)), (3, .long x3), (5, .int x5)]) (by decide) rfl dX6_mixedChips_18 ?_
      refine v_sub [1, 2, 3, 0] rfl ?_
      exact t_X6_mixedChips_20 h0 K ih N x3 x5 0 u hf
set_option maxRecDepth 20000 in
theorem c_X6_mixedChips {X : Wx} {N : Nat} {o0 : Nat} {p1 : Int64} (h0 : akd o0 = 6) {u u' : ASt} {r : Int64} (hf : f_X6_mixedChips N o0 p1 u = some (r, u')) (l : Launch) : Met l yX6_mixedChips (ws_ yX6_mixedChips cX6_mixedChips 9 (some .long)) rm_X6_mixedChips (Pg 0 X u [.ref (X.2.1 o0), .long p1]) (Qg 0 X (some (.long r)) u') 0 0 (Aw 0 X) := by
  refine v_met (res := (some (.long r), u')) (by decide) (Nat.le_of_ble_eq_true rfl) (fun M K => ?_)
  have K : OkM 0 M X cX6_mixedChips 9 RX6 rm_X6_mixedChips (some .long) := K
  show V 0 M X (some (.long r), u') 9 0 [(0, .ref (X.2.1 o0)), (1, .long p1)] [] u
  unfold f_X6_mixedChips at hf
  refine v_lload_n K 1 rfl rfl dX6_mixedChips_0 ?_
  refine v_lstore_n K (ls' := [(3, .long p1), (0, .ref (X.2.1 o0)), (1, .long p1)]) rfl (by decide) rfl dX6_mixedChips_1 ?_
  refine v_iconst K (v := 0) (by decide) dX6_mixedChips_2 ?_
  refine v_istore K (ls' := [(5, .int 0), (3, .long p1), (0, .ref (X.2.1 o0)), (1, .long p1)]) (by decide) rfl dX6_mixedChips_3 ?_
  refine v_sub [2, 1, 0] rfl ?_
  exact t_X6_mixedChips_5 h0 K N p1 0 u hf
abbrev rm_X6_digest : Room := { frames := 6, cells := 0, slots := 0, locals := 142 }
set_option maxRecDepth 20000 in
theorem t_X6_digest_81 {M : Mx} {X : Wx} {N : Nat} {o0 : Nat} (h0 : akd o0 = 6) {r : Int64} {u' : ASt} (K : OkM 0 M X cX6_digest 4 RX6 rm_X6_digest (some .long)) : ∀ (n : Nat) (x1 : Int64) (x3 : Int32) (u : ASt), f_X6_digest_81 N o0 n x1 x3 u = some (r, u') → V 0 M X (some (.long r), u') 4 81 [(0, .ref (X.2.1 o0)), (1, .long x1), (3, .int x3)] [] u := by
  intro n
  induction n with
  | zero => intro x1 x3 u hf; cases hf
  | succ n ih =>
    intro x1 x3 u hf
    rw [f_X6_digest_81] at hf
    refine v_iload_n K 2 rfl rfl dX6_digest_81 ?_
    refine v_aload_n K 0 rfl rfl dX6_digest_82 ?_
    refine gf_6_0 K h0 fl_X6_12 dX6_digest_83 ?_
    refine gf_0_3 K (ak_6_0 h0) fl_X6_108 dX6_digest_86 ?_
    refine v_icmp_ge K 112 (by decide) dX6_digest_89 (fun c1 => ?_) (fun c1 => ?_)
    · have hf := ite_t c1 hf
      refine v_lload_n K 1 rfl rfl dX6_digest_112 ?_
      refine v_aload_n K 0 rfl rfl dX6_digest_113 ?_
      refine v_iconst K (v := 0) (by decide) dX6_digest_114 ?_
      obtain ⟨r3, u2, e4, hf⟩ := bnd_of hf
      refine v_callVi K (c_X6_patterns h0 e4) cv_X6_patterns ml_X6_212 (am0_6 h0) h0 kdX6 ⟨rfl, rfl, Nat.le_of_ble_eq_true rfl, Nat.le_of_ble_eq_true rfl⟩ rfl rfl (Nat.le_of_ble_eq_true rfl) dX6_digest_115 ?_
      obtain ⟨r6, u5, e7, hf⟩ := bnd_of hf
      refine v_callSl K (c_X6_mixed e7) cv_X6_mixed ml_X6_198 ⟨rfl, rfl, Nat.le_of_ble_eq_true rfl, Nat.le_of_ble_eq_true rfl⟩ rfl rfl (Nat.le_of_ble_eq_true rfl) dX6_digest_118 ?_
      refine v_lstore_n K (ls' := [(1, .long r6), (0, .ref (X.2.1 o0)), (3, .int x3)]) rfl (by decide) rfl dX6_digest_121 ?_
      refine v_lload_n K 0 rfl rfl dX6_digest_122 ?_
      refine v_aload_n K 1 rfl rfl dX6_digest_123 ?_
      refine v_iconst K (v := 0) (by decide) dX6_digest_124 ?_
      obtain ⟨r9, u8, e10, hf⟩ := bnd_of hf
      refine v_callVi K (c_X6_seen h0 e10) cv_X6_seen ml_X6_215 (am0_6 h0) h0 kdX6 ⟨rfl, rfl, Nat.le_of_ble_eq_true rfl, Nat.le_of_ble_eq_true rfl⟩ rfl rfl (Nat.le_of_ble_eq_true rfl) dX6_digest_125 ?_
      obtain ⟨r12, u11, e13, hf⟩ := bnd_of hf
      refine v_callSl K (c_X6_mixed e13) cv_X6_mixed ml_X6_198 ⟨rfl, rfl, Nat.le_of_ble_eq_true rfl, Nat.le_of_ble_eq_true rfl⟩ rfl rfl (Nat.le_of_ble_eq_true rfl) dX6_digest_128 ?_
      refine v_lstore_n K (ls' := [(1, .long r12), (0, .ref (X.2.1 o0)), (3, .int x3)]) rfl (by decide) rfl dX6_digest_131 ?_
      refine v_lload_n K 0 rfl rfl dX6_digest_132 ?_
      refine v_aload_n K 1 rfl rfl dX6_digest_133 ?_
      refine v_iconst K (v := 1) (by decide) dX6_digest_134 ?_
      obtain ⟨r15, u14, e16, hf⟩ := bnd_of hf
      refine v_callVi K (c_X6_seen h0 e16) cv_X6_seen ml_X6_215 (am0_6 h0) h0 kdX6 ⟨rfl, rfl, Nat.le_of_ble_eq_true rfl, Nat.le_of_ble_eq_true rfl⟩ rfl rfl (Nat.le_of_ble_eq_true rfl) dX6_digest_135 ?_
      obtain ⟨r18, u17, e19, hf⟩ := bnd_of hf
      refine v_callSl K (c_X6_mixed e19) cv_X6_mixed ml_X6_198 ⟨rfl, rfl, Nat.le_of_ble_eq_true rfl, Nat.le_of_ble_eq_true rfl⟩ rfl rfl (Nat.le_of_ble_eq_true rfl) dX6_digest_138 ?_
      refine v_lstore_n K (ls' := [(1, .long r18), (0, .ref (X.2.1 o0)), (3, .int x3)]) rfl (by decide) rfl dX6_digest_141 ?_
      refine v_lload_n K 0 rfl rfl dX6_digest_142 ?_
      refine v_aload_n K 1 rfl rfl dX6_digest_143 ?_
      refine v_iconst K (v := 0) (by decide) dX6_digest_144 ?_
      refine v_iconst K (v := (-1)) (by decide) dX6_digest_145 ?_
      obtain ⟨r21, u20, e22, hf⟩ := bnd_of hf
      refine v_callVi K (c_X6_suspects h0 e22) cv_X6_suspects ml_X6_218 (am0_6 h0) h0 kdX6 ⟨rfl, rfl, Nat.le_of_ble_eq_true rfl, Nat.le_of_ble_eq_true rfl⟩ rfl rfl (Nat.le_of_ble_eq_true rfl) dX6_digest_146 ?_
      obtain ⟨r24, u23, e25, hf⟩ := bnd_of hf
      refine v_callSl K (c_X6_mixed e25) cv_X6_mixed ml_X6_198 ⟨rfl, rfl, Nat.le_of_ble_eq_true rfl, Nat.le_of_ble_eq_true rfl⟩ rfl rfl (Nat.le_of_ble_eq_true rfl) dX6_digest_149 ?_
      refine v_lstore_n K (ls' := [(1, .long r24), (0, .ref (X.2.1 o0)), (3, .int x3)]) rfl (by decide) rfl dX6_digest_152 ?_
      refine v_lload_n K 0 rfl rfl dX6_digest_153 ?_
      refine v_aload_n K 1 rfl rfl dX6_digest_154 ?_
      refine v_iconst K (v := 1) (by decide) dX6_digest_155 ?_
      refine v_iconst K (v := (-1)) (by decide) dX6_digest_156 ?_
      obtain ⟨r27, u26, e28, hf⟩ := bnd_of hf
      refine v_callVi K (c_X6_suspects h0 e28) cv_X6_suspects ml_X6_218 (am0_6 h0) h0 kdX6 ⟨rfl, rfl, Nat.le_of_ble_eq_true rfl, Nat.le_of_ble_eq_true rfl⟩ rfl rfl (Nat.le_of_ble_eq_true rfl) dX6_digest_157 ?_
      obtain ⟨r30, u29, e31, hf⟩ := bnd_of hf
      refine v_callSl K (c_X6_mixed e31) cv_X6_mixed ml_X6_198 ⟨rfl, rfl, Nat.le_of_ble_eq_true rfl, Nat.le_of_ble_eq_true rfl⟩ rfl rfl (Nat.le_of_ble_eq_true rfl) dX6_digest_160 ?_
      obtain ⟨rfl, rfl⟩ := pair_of hf
      exact v_lret K dX6_digest_163
    · have hf := ite_f c1 hf
      refine v_lload_n K 1 rfl rfl dX6_digest_92 ?_
      refine v_aload_n K 0 rfl rfl dX6_digest_93 ?_
      refine gf_6_0 K h0 fl_X6_12 dX6_digest_94 ?_
      refine gf_0_2 K (ak_6_0 h0) fl_X6_112 dX6_digest_97 ?_
      refine v_iload_n K 2 rfl rfl dX6_digest_100 ?_
      obtain ⟨g32, hf⟩ := chk_of hf
      refine v_iald K (am0_9 (ak_0_2 (ak_6_0 h0))) (.inl (ak_0_2 (ak_6_0 h0))) g32 dX6_digest_101 ?_
      obtain ⟨r34, u33, e35, hf⟩ := bnd_of hf
      refine v_callSl K (c_X6_mixed e35) cv_X6_mixed ml_X6_198 ⟨rfl, rfl, Nat.le_of_ble_eq_true rfl, Nat.le_of_ble_eq_true rfl⟩ rfl rfl (Nat.le_of_ble_eq_true rfl) dX6_digest_102 ?_
      refine v_lstore_n K (ls' := [(1, .long r34), (0, .ref (X.2.1 o0)), (3, .int x3)]) rfl (by decide) rfl dX6_digest_105 ?_
      refine v_iinc K 2 (v := x3 + 1) (ls' := [(3, .int (x3 + 1)), (1, .long r34), (0, .ref (X.2.1 o0))]) rfl rfl (by decide) rfl dX6_digest_106 ?_
      refine v_goto K 81 (by decide) dX6_digest_109 ?_
      refine v_sub [2, 1, 0] rfl ?_
      exact ih r34 (x3 + 1) u33 hf
set_option maxRecDepth 20000 in
theorem t_X6_digest_52 {M : Mx} {X : Wx} {N : Nat} {o0 : Nat} (h0 : akd o0 = 6) {r : Int64} {u' : ASt} (K : OkM 0 M X cX6_digest 4 RX6 rm_X6_digest (some .long)) : ∀ (n : Nat) (x1 : Int64) (x3 : Int32) (u : ASt), f_X6_digest_52 N o0 n x1 x3 u = some (r, u') → V 0 M X (some (.long r), u') 4 52 [(0, .ref (X.2.1 o0)), (1, .long x1), (3, .int x3)] [] u := by
  intro n
  induction n with
  | zero => intro x1 x3 u hf; cases hf
  | succ n ih =>
    intro x1 x3 u hf
    rw [f_X6_digest_52] at hf
    refine v_iload_n K 2 rfl rfl dX6_digest_52 ?_
    refine v_iconst K (v := 5) (by decide) dX6_digest_53 ?_
    refine v_icmp_ge K 73 (by decide) dX6_digest_54 (fun c36 => ?_) (fun c36 => ?_)
    · have hf := ite_t c36 hf
      refine v_aload_n K 0 rfl rfl dX6_digest_73 ?_
      refine v_lload_n K 1 rfl rfl dX6_digest_74 ?_
      obtain ⟨r38, u37, e39, hf⟩ := bnd_of hf
      refine v_callVl K (c_X6_mixedChips h0 e39) cv_X6_mixedChips ml_X6_208 (am0_6 h0) h0 kdX6 ⟨rfl, rfl, Nat.le_of_ble_eq_true rfl, Nat.le_of_ble_eq_true rfl⟩ rfl rfl (Nat.le_of_ble_eq_true rfl) dX6_digest_75 ?_
      refine v_lstore_n K (ls' := [(1, .long r38), (0, .ref (X.2.1 o0)), (3, .int x3)]) rfl (by decide) rfl dX6_digest_78 ?_
      refine v_iconst K (v := 0) (by decide) dX6_digest_79 ?_
      refine v_istore_n K (ls' := [(3, .int 0), (1, .long r38), (0, .ref (X.2.1 o0))]) rfl (by decide) rfl dX6_digest_80 ?_
      refine v_sub [2, 1, 0] rfl ?_
      exact t_X6_digest_81 h0 K N r38 0 u37 hf
    · have hf := ite_f c36 hf
      refine v_lload_n K 1 rfl rfl dX6_digest_57 ?_
      refine v_aload_n K 0 rfl rfl dX6_digest_58 ?_
      refine v_iload_n K 2 rfl rfl dX6_digest_59 ?_
      obtain ⟨r41, u40, e42, hf⟩ := bnd_of hf
      refine v_callVi K (c_X6_port h0 e42) cv_X6_port ml_X6_205 (am0_6 h0) h0 kdX6 ⟨rfl, rfl, Nat.le_of_ble_eq_true rfl, Nat.le_of_ble_eq_true rfl⟩ rfl rfl (Nat.le_of_ble_eq_true rfl) dX6_digest_60 ?_
      obtain ⟨r44, u43, e45, hf⟩ := bnd_of hf
      refine v_callSl K (c_X6_mixed e45) cv_X6_mixed ml_X6_198 ⟨rfl, rfl, Nat.le_of_ble_eq_true rfl, Nat.le_of_ble_eq_true rfl⟩ rfl rfl (Nat.le_of_ble_eq_true rfl) dX6_digest_63 ?_
      refine v_lstore_n K (ls' := [(1, .long r44), (0, .ref (X.2.1 o0)), (3, .int x3)]) rfl (by decide) rfl dX6_digest_66 ?_
      refine v_iinc K 2 (v := x3 + 1) (ls' := [(3, .int (x3 + 1)), (1, .long r44), (0, .ref (X.2.1 o0))]) rfl rfl (by decide) rfl dX6_digest_67 ?_
      refine v_goto K 52 (by decide) dX6_digest_70 ?_
      refine v_sub [2, 1, 0] rfl ?_
      exact ih r44 (x3 + 1) u43 hf
set_option maxRecDepth 20000 in
theorem t_X6_digest_29 {M : Mx} {X : Wx} {N : Nat} {o0 : Nat} (h0 : akd o0 = 6) {r : Int64} {u' : ASt} (K : OkM 0 M X cX6_digest 4 RX6 rm_X6_digest (some .long)) : ∀ (n : Nat) (x1 : Int64) (x3 : Int32) (u : ASt), f_X6_digest_29 N o0 n x1 x3 u = some (r, u') → V 0 M X (some (.long r), u') 4 29 [(0, .ref (X.2.1 o0)), (1, .long x1), (3, .int x3)] [] u := by
  intro n
  induction n with
  | zero => intro x1 x3 u hf; cases hf
  | succ n ih =>
    intro x1 x3 u hf
    rw [f_X6_digest_29] at hf
    refine v_iload_n K 2 rfl rfl dX6_digest_29 ?_
    refine v_iconst K (v := 5) (by decide) dX6_digest_30 ?_
    refine v_icmp_ge K 50 (by decide) dX6_digest_31 (fun c46 => ?_) (fun c46 => ?_)
    · have hf := ite_t c46 hf
      refine v_iconst K (v := 0) (by decide) dX6_digest_50 ?_
      refine v_istore_n K (ls' := [(3, .int 0), (0, .ref (X.2.1 o0)), (1, .long x1)]) rfl (by decide) rfl dX6_digest_51 ?_
      refine v_sub [1, 2, 0] rfl ?_
      exact t_X6_digest_52 h0 K N x1 0 u hf
    · have hf := ite_f c46 hf
      refine v_lload_n K 1 rfl rfl dX6_digest_34 ?_
      refine v_aload_n K 0 rfl rfl dX6_digest_35 ?_
      refine v_iload_n K 2 rfl rfl dX6_digest_36 ?_
      obtain ⟨r48, u47, e49, hf⟩ := bnd_of hf
      refine v_callVi K (c_X6_count h0 e49) cv_X6_count ml_X6_202 (am0_6 h0) h0 kdX6 ⟨rfl, rfl, Nat.le_of_ble_eq_true rfl, Nat.le_of_ble_eq_true rfl⟩ rfl rfl (Nat.le_of_ble_eq_true rfl) dX6_digest_37 ?_
      obtain ⟨r51, u50, e52, hf⟩ := bnd_of hf
      refine v_callSl K (c_X6_mixed e52) cv_X6_mixed ml_X6_198 ⟨rfl, rfl, Nat.le_of_ble_eq_true rfl, Nat.le_of_ble_eq_true rfl⟩ rfl rfl (Nat.le_of_ble_eq_true rfl) dX6_digest_40 ?_
      refine v_lstore_n K (ls' := [(1, .long r51), (0, .ref (X.2.1 o0)), (3, .int x3)]) rfl (by decide) rfl dX6_digest_43 ?_
      refine v_iinc K 2 (v := x3 + 1) (ls' := [(3, .int (x3 + 1)), (1, .long r51), (0, .ref (X.2.1 o0))]) rfl rfl (by decide) rfl dX6_digest_44 ?_
      refine v_goto K 29 (by decide) dX6_digest_47 ?_
      refine v_sub [2, 1, 0] rfl ?_
      exact ih r51 (x3 + 1) u50 hf
set_option maxRecDepth 20000 in
theorem t_X6_digest_6 {M : Mx} {X : Wx} {N : Nat} {o0 : Nat} (h0 : akd o0 = 6) {r : Int64} {u' : ASt} (K : OkM 0 M X cX6_digest 4 RX6 rm_X6_digest (some .long)) : ∀ (n : Nat) (x1 : Int64) (x3 : Int32) (u : ASt), f_X6_digest_6 N o0 n x1 x3 u = some (r, u') → V 0 M X (some (.long r), u') 4 6 [(0, .ref (X.2.1 o0)), (1, .long x1), (3, .int x3)] [] u := by
  intro n
  induction n with
  | zero => intro x1 x3 u hf; cases hf
  | succ n ih =>
    intro x1 x3 u hf
    rw [f_X6_digest_6] at hf
    refine v_iload_n K 2 rfl rfl dX6_digest_6 ?_
    refine v_iconst K (v := 5) (by decide) dX6_digest_7 ?_
    refine v_icmp_ge K 27 (by decide) dX6_digest_8 (fun c53 => ?_) (fun c53 => ?_)
    · have hf := ite_t c53 hf
      refine v_iconst K (v := 0) (by decide) dX6_digest_27 ?_
      refine v_istore_n K (ls' := [(3, .int 0), (0, .ref (X.2.1 o0)), (1, .long x1)]) rfl (by decide) rfl dX6_digest_28 ?_
      refine v_sub [1, 2, 0] rfl ?_
      exact t_X6_digest_29 h0 K N x1 0 u hf
    · have hf := ite_f c53 hf
      refine v_lload_n K 1 rfl rfl dX6_digest_11 ?_
      refine v_aload_n K 0 rfl rfl dX6_digest_12 ?_
      refine v_iload_n K 2 rfl rfl dX6_digest_13 ?_
      obtain ⟨r55, u54, e56, hf⟩ := bnd_of hf
      refine v_callVi K (c_X6_told h0 e56) cv_X6_told ml_X6_195 (am0_6 h0) h0 kdX6 ⟨rfl, rfl, Nat.le_of_ble_eq_true rfl, Nat.le_of_ble_eq_true rfl⟩ rfl rfl (Nat.le_of_ble_eq_true rfl) dX6_digest_14 ?_
      obtain ⟨r58, u57, e59, hf⟩ := bnd_of hf
      refine v_callSl K (c_X6_mixed e59) cv_X6_mixed ml_X6_198 ⟨rfl, rfl, Nat.le_of_ble_eq_true rfl, Nat.le_of_ble_eq_true rfl⟩ rfl rfl (Nat.le_of_ble_eq_true rfl) dX6_digest_17 ?_
      refine v_lstore_n K (ls' := [(1, .long r58), (0, .ref (X.2.1 o0)), (3, .int x3)]) rfl (by decide) rfl dX6_digest_20 ?_
      refine v_iinc K 2 (v := x3 + 1) (ls' := [(3, .int (x3 + 1)), (1, .long r58), (0, .ref (X.2.1 o0))]) rfl rfl (by decide) rfl dX6_digest_21 ?_
      refine v_goto K 6 (by decide) dX6_digest_24 ?_
      refine v_sub [2, 1, 0] rfl ?_
      exact ih r58 (x3 + 1) u57 hf
set_option maxRecDepth 20000 in
theorem c_X6_digest {X : Wx} {N : Nat} {o0 : Nat} (h0 : akd o0 = 6) {u u' : ASt} {r : Int64} (hf : f_X6_digest N o0 u = some (r, u')) (l : Launch) : Met l yX6_digest (ws_ yX6_digest cX6_digest 4 (some .long)) rm_X6_digest (Pg 0 X u [.ref (X.2.1 o0)]) (Qg 0 X (some (.long r)) u') 0 0 (Aw 0 X) := by
  refine v_met (res := (some (.long r), u')) (by decide) (Nat.le_of_ble_eq_true rfl) (fun M K => ?_)
  have K : OkM 0 M X cX6_digest 4 RX6 rm_X6_digest (some .long) := K
  show V 0 M X (some (.long r), u') 4 0 [(0, .ref (X.2.1 o0))] [] u
  unfold f_X6_digest at hf
  refine v_ldc2 K co_X6_193 dX6_digest_0 ?_
  refine v_lstore_n K (ls' := [(1, .long 2694), (0, .ref (X.2.1 o0))]) rfl (by decide) rfl dX6_digest_3 ?_
  refine v_iconst K (v := 0) (by decide) dX6_digest_4 ?_
  refine v_istore_n K (ls' := [(3, .int 0), (1, .long 2694), (0, .ref (X.2.1 o0))]) rfl (by decide) rfl dX6_digest_5 ?_
  refine v_sub [2, 1, 0] rfl ?_
  exact t_X6_digest_6 h0 K N 2694 0 u hf
