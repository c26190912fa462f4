abbrev rm_X7_doesOrder : Room := { frames := 13, cells := 0, slots := 0, locals := 296 }
set_option maxRecDepth 20000 in
theorem c_X7_doesOrder {X : Wx} {N : Nat} {o0 : Nat} {p1 : Int32} (h0 : akd o0 = 7) {u u' : ASt} {r : Int32} (hf : f_X7_doesOrder N o0 p1 u = some (r, u')) (l : Launch) : Met l yX7_doesOrder (ws_ yX7_doesOrder cX7_doesOrder 5 (some .int)) rm_X7_doesOrder (Pg 1 X u [.ref (X.2.1 o0), .int p1]) (Qg 1 X (some (.int r)) u') 0 0 (Aw 1 X) := by
  refine v_met (res := (some (.int r), u')) (by decide) (Nat.le_of_ble_eq_true rfl) (fun M K => ?_)
  have K : OkM 1 M X cX7_doesOrder 5 RX7 rm_X7_doesOrder (some .int) := K
  show V 1 M X (some (.int r), u') 5 0 [(0, .ref (X.2.1 o0)), (1, .int p1)] [] u
  unfold f_X7_doesOrder at hf
  refine v_aload_n K 0 rfl rfl dX7_doesOrder_0 ?_
  refine gf_7_17 K h0 fl_X7_40 dX7_doesOrder_1 ?_
  refine v_iconst K (v := 3) (by decide) dX7_doesOrder_4 ?_
  refine v_iload_n K 1 rfl rfl dX7_doesOrder_5 ?_
  refine v_imul K dX7_doesOrder_6 ?_
  obtain ⟨g1, hf⟩ := chk_of hf
  refine v_iald K (am1_12 (ak_7_17 h0)) (.inr (ak_7_17 h0)) g1 dX7_doesOrder_7 ?_
  refine v_topi (fun z2 ez2 => ?_)
  have hf := lte_of ez2 hf
  refine v_istore_n K (ls' := [(2, .int z2), (0, .ref (X.2.1 o0)), (1, .int p1)]) rfl (by decide) rfl dX7_doesOrder_8 ?_
  refine v_aload_n K 1 rfl rfl dX7_doesOrder_9 ?_
  refine gf_7_17 K h0 fl_X7_40 dX7_doesOrder_10 ?_
  refine v_iconst K (v := 3) (by decide) dX7_doesOrder_13 ?_
  refine v_iload_n K 2 rfl rfl dX7_doesOrder_14 ?_
  refine v_imul K dX7_doesOrder_15 ?_
  refine v_iconst K (v := 1) (by decide) dX7_doesOrder_16 ?_
  refine v_iadd K dX7_doesOrder_17 ?_
  obtain ⟨g3, hf⟩ := chk_of hf
  refine v_iald K (am1_12 (ak_7_17 h0)) (.inr (ak_7_17 h0)) g3 dX7_doesOrder_18 ?_
  refine v_topi (fun z4 ez4 => ?_)
  have hf := lte_of ez4 hf
  refine v_istore_n K (ls' := [(3, .int z4), (2, .int z2), (0, .ref (X.2.1 o0)), (1, .int p1)]) rfl (by decide) rfl dX7_doesOrder_19 ?_
  refine v_aload_n K 2 rfl rfl dX7_doesOrder_20 ?_
  refine gf_7_17 K h0 fl_X7_40 dX7_doesOrder_21 ?_
  refine v_iconst K (v := 3) (by decide) dX7_doesOrder_24 ?_
  refine v_iload_n K 3 rfl rfl dX7_doesOrder_25 ?_
  refine v_imul K dX7_doesOrder_26 ?_
  refine v_iconst K (v := 2) (by decide) dX7_doesOrder_27 ?_
  refine v_iadd K dX7_doesOrder_28 ?_
  obtain ⟨g5, hf⟩ := chk_of hf
  refine v_iald K (am1_12 (ak_7_17 h0)) (.inr (ak_7_17 h0)) g5 dX7_doesOrder_29 ?_
  refine v_topi (fun z6 ez6 => ?_)
  have hf := lte_of ez6 hf
  refine v_istore K (ls' := [(4, .int z6), (3, .int z4), (2, .int z2), (0, .ref (X.2.1 o0)), (1, .int p1)]) (by decide) rfl dX7_doesOrder_30 ?_
  refine v_aload_n K 3 rfl rfl dX7_doesOrder_32 ?_
  refine gf_7_16 K h0 fl_X7_37 dX7_doesOrder_33 ?_
  refine v_iload_n K 4 rfl rfl dX7_doesOrder_36 ?_
  obtain ⟨g7, hf⟩ := chk_of hf
  refine v_iald K (am1_12 (ak_7_16 h0)) (.inr (ak_7_16 h0)) g7 dX7_doesOrder_37 ?_
  by_cases c8 : (agt u (arf o0 16) (Int32.toNatClampNeg p1)) = 99
  · have hf := ite_t c8 hf
    refine v_tabK K 128 c8 (a := 99) (by decide) (by decide) (by decide) rfl (by decide) dX7_doesOrder_38 ?_
    refine v_aload_n K 3 rfl rfl dX7_doesOrder_128 ?_
    refine v_iload_n K 2 rfl rfl dX7_doesOrder_129 ?_
    refine v_iload_n K 1 rfl rfl dX7_doesOrder_130 ?_
    obtain ⟨r10, u9, e11, hf⟩ := bnd_of hf
    refine v_callVi K (c_X7_addsChip h0 e11) cv_X7_addsChip ml_X7_96 (am1_7 h0) h0 kdX7 ⟨rfl, rfl, Nat.le_of_ble_eq_true rfl, Nat.le_of_ble_eq_true rfl⟩ rfl rfl (Nat.le_of_ble_eq_true rfl) dX7_doesOrder_131 ?_
    obtain ⟨rfl, rfl⟩ := pair_of hf
    exact v_iret K dX7_doesOrder_134
  have hf := ite_f c8 hf
  by_cases c12 : (agt u (arf o0 16) (Int32.toNatClampNeg p1)) = 107
  · have hf := ite_t c12 hf
    refine v_tabK K 144 c12 (a := 107) (by decide) (by decide) (by decide) rfl (by decide) dX7_doesOrder_38 ?_
    refine v_aload_n K 3 rfl rfl dX7_doesOrder_144 ?_
    refine v_iload_n K 2 rfl rfl dX7_doesOrder_145 ?_
    refine v_iload_n K 1 rfl rfl dX7_doesOrder_146 ?_
    obtain ⟨r14, u13, e15, hf⟩ := bnd_of hf
    refine v_callVi K (c_X7_clocksTo h0 e15) cv_X7_clocksTo ml_X7_191 (am1_7 h0) h0 kdX7 ⟨rfl, rfl, Nat.le_of_ble_eq_true rfl, Nat.le_of_ble_eq_true rfl⟩ rfl rfl (Nat.le_of_ble_eq_true rfl) dX7_doesOrder_147 ?_
    obtain ⟨rfl, rfl⟩ := pair_of hf
    exact v_iret K dX7_doesOrder_150
  have hf := ite_f c12 hf
  by_cases c16 : (agt u (arf o0 16) (Int32.toNatClampNeg p1)) = 111
  · have hf := ite_t c16 hf
    refine v_tabK K 151 c16 (a := 111) (by decide) (by decide) (by decide) rfl (by decide) dX7_doesOrder_38 ?_
    refine v_aload_n K 3 rfl rfl dX7_doesOrder_151 ?_
    refine v_iload_n K 2 rfl rfl dX7_doesOrder_152 ?_
    refine v_iload_n K 1 rfl rfl dX7_doesOrder_153 ?_
    obtain ⟨r18, u17, e19, hf⟩ := bnd_of hf
    refine v_callVi K (c_X7_opensOne h0 e19) cv_X7_opensOne ml_X7_106 (am1_7 h0) h0 kdX7 ⟨rfl, rfl, Nat.le_of_ble_eq_true rfl, Nat.le_of_ble_eq_true rfl⟩ rfl rfl (Nat.le_of_ble_eq_true rfl) dX7_doesOrder_154 ?_
    obtain ⟨rfl, rfl⟩ := pair_of hf
    exact v_iret K dX7_doesOrder_157
  have hf := ite_f c16 hf
  by_cases c20 : (agt u (arf o0 16) (Int32.toNatClampNeg p1)) = 112
  · have hf := ite_t c20 hf
    refine v_tabK K 135 c20 (a := 112) (by decide) (by decide) (by decide) rfl (by decide) dX7_doesOrder_38 ?_
    refine v_aload_n K 3 rfl rfl dX7_doesOrder_135 ?_
    refine v_iload_n K 2 rfl rfl dX7_doesOrder_136 ?_
    refine v_iload_n K 1 rfl rfl dX7_doesOrder_137 ?_
    refine v_iload K 0 rfl dX7_doesOrder_138 ?_
    obtain ⟨r22, u21, e23, hf⟩ := bnd_of hf
    refine v_callVi K (c_X7_addsCell h0 e23) cv_X7_addsCell ml_X7_102 (am1_7 h0) h0 kdX7 ⟨rfl, rfl, Nat.le_of_ble_eq_true rfl, Nat.le_of_ble_eq_true rfl⟩ rfl rfl (Nat.le_of_ble_eq_true rfl) dX7_doesOrder_140 ?_
    obtain ⟨rfl, rfl⟩ := pair_of hf
    exact v_iret K dX7_doesOrder_143
  have hf := ite_f c20 hf
  by_cases c24 : (agt u (arf o0 16) (Int32.toNatClampNeg p1)) = 115
  · have hf := ite_t c24 hf
    refine v_tabK K 165 c24 (a := 115) (by decide) (by decide) (by decide) rfl (by decide) dX7_doesOrder_38 ?_
    refine v_aload_n K 3 rfl rfl dX7_doesOrder_165 ?_
    refine v_iload_n K 2 rfl rfl dX7_doesOrder_166 ?_
    refine v_iload_n K 1 rfl rfl dX7_doesOrder_167 ?_
    refine v_iload K 0 rfl dX7_doesOrder_168 ?_
    obtain ⟨r26, u25, e27, hf⟩ := bnd_of hf
    refine v_callVi K (c_X7_shortsTwo h0 e27) cv_X7_shortsTwo ml_X7_112 (am1_7 h0) h0 kdX7 ⟨rfl, rfl, Nat.le_of_ble_eq_true rfl, Nat.le_of_ble_eq_true rfl⟩ rfl rfl (Nat.le_of_ble_eq_true rfl) dX7_doesOrder_170 ?_
    obtain ⟨rfl, rfl⟩ := pair_of hf
    exact v_iret K dX7_doesOrder_173
  have hf := ite_f c24 hf
  by_cases c28 : (agt u (arf o0 16) (Int32.toNatClampNeg p1)) = 117
  · have hf := ite_t c28 hf
    refine v_tabK K 158 c28 (a := 117) (by decide) (by decide) (by decide) rfl (by decide) dX7_doesOrder_38 ?_
    refine v_aload_n K 3 rfl rfl dX7_doesOrder_158 ?_
    refine v_iload_n K 2 rfl rfl dX7_doesOrder_159 ?_
    refine v_iload_n K 1 rfl rfl dX7_doesOrder_160 ?_
    obtain ⟨r30, u29, e31, hf⟩ := bnd_of hf
    refine v_callVi K (c_X7_sticksOne h0 e31) cv_X7_sticksOne ml_X7_109 (am1_7 h0) h0 kdX7 ⟨rfl, rfl, Nat.le_of_ble_eq_true rfl, Nat.le_of_ble_eq_true rfl⟩ rfl rfl (Nat.le_of_ble_eq_true rfl) dX7_doesOrder_161 ?_
    obtain ⟨rfl, rfl⟩ := pair_of hf
    exact v_iret K dX7_doesOrder_164
  have hf := ite_f c28 hf
  refine v_tabD K 174 (keys := [99, 107, 111, 112, 115, 117]) (by decide) (by decide) (List.forall_mem_cons.mpr ⟨lv_neT c8 (by decide), (List.forall_mem_cons.mpr ⟨lv_neT c12 (by decide), (List.forall_mem_cons.mpr ⟨lv_neT c16 (by decide), (List.forall_mem_cons.mpr ⟨lv_neT c20 (by decide), (List.forall_mem_cons.mpr ⟨lv_neT c24 (by decide), (List.forall_mem_cons.mpr ⟨lv_neT c28 (by decide), (fun _ h => absurd h List.not_mem_nil)⟩)⟩)⟩)⟩)⟩)⟩) (by decide) dX7_doesOrder_38 ?_
  refine v_aload_n K 3 rfl rfl dX7_doesOrder_174 ?_
  obtain ⟨r33, u32, e34, hf⟩ := bnd_of hf
  refine v_callVi K (c_X7_healsAll h0 e34) cv_X7_healsAll ml_X7_115 (am1_7 h0) h0 kdX7 ⟨rfl, rfl, Nat.le_of_ble_eq_true rfl, Nat.le_of_ble_eq_true rfl⟩ rfl rfl (Nat.le_of_ble_eq_true rfl) dX7_doesOrder_175 ?_
  obtain ⟨rfl, rfl⟩ := pair_of hf
  exact v_iret K dX7_doesOrder_178
abbrev rm_X7_does : Room := { frames := 14, cells := 0, slots := 0, locals := 320 }
set_option maxRecDepth 20000 in
theorem t_X7_does_39 {M : Mx} {X : Wx} {N : Nat} {o0 : Nat} (h0 : akd o0 = 7) {r : Int32} {u' : ASt} (K : OkM 1 M X cX7_does 3 RX7 rm_X7_does (some .int)) : ∀ (n : Nat) (x1 : Int32) (x2 : Int32) (u : ASt), f_X7_does_39 N o0 n x1 x2 u = some (r, u') → V 1 M X (some (.int r), u') 3 39 [(0, .ref (X.2.1 o0)), (1, .int x1), (2, .int x2)] [] u := by
  intro n
  induction n with
  | zero => intro x1 x2 u hf; cases hf
  | succ n ih =>
    intro x1 x2 u hf
    rw [f_X7_does_39] at hf
    refine v_iload_n K 2 rfl rfl dX7_does_39 ?_
    refine v_bipush K (v := 83) (by decide) dX7_does_40 ?_
    refine v_icmp_ge K 63 (by decide) dX7_does_42 (fun c1 => ?_) (fun c1 => ?_)
    · have hf := ite_t c1 hf
      refine v_sipush K (v := (-1000)) (by decide) dX7_does_63 ?_
      refine v_iload_n K 1 rfl rfl dX7_does_66 ?_
      refine v_isub K dX7_does_67 ?_
      obtain ⟨rfl, rfl⟩ := pair_of hf
      exact v_iret K dX7_does_68
    · have hf := ite_f c1 hf
      refine v_aload_n K 0 rfl rfl dX7_does_45 ?_
      refine gf_7_0 K h0 fl_X7_7 dX7_does_46 ?_
      refine v_iload_n K 2 rfl rfl dX7_does_49 ?_
      refine v_aload_n K 0 rfl rfl dX7_does_50 ?_
      refine gf_7_1 K h0 fl_X7_13 dX7_does_51 ?_
      refine v_iload_n K 2 rfl rfl dX7_does_54 ?_
      obtain ⟨g2, hf⟩ := chk_of hf
      refine v_iald K (am1_12 (ak_7_1 h0)) (.inr (ak_7_1 h0)) g2 dX7_does_55 ?_
      obtain ⟨g3, hf⟩ := chk_of hf
      refine v_iast K (am1_12 (ak_7_0 h0)) (.inr (ak_7_0 h0)) g3 dX7_does_56 ?_
      refine v_st (fun u4 eu4 => ?_)
      have hf := lte_of eu4 hf
      refine v_iinc K 2 (v := x2 + 1) (ls' := [(2, .int (x2 + 1)), (0, .ref (X.2.1 o0)), (1, .int x1)]) rfl rfl (by decide) rfl dX7_does_57 ?_
      refine v_goto K 39 (by decide) dX7_does_60 ?_
      refine v_sub [1, 2, 0] rfl ?_
      exact ih x1 (x2 + 1) u4 hf
set_option maxRecDepth 20000 in
theorem t_X7_does_21 {M : Mx} {X : Wx} {N : Nat} {o0 : Nat} (h0 : akd o0 = 7) {r : Int32} {u' : ASt} (K : OkM 1 M X cX7_does 3 RX7 rm_X7_does (some .int)) : ∀ (n : Nat) (x1 : Int32) (u : ASt), f_X7_does_21 N o0 n x1 u = some (r, u') → V 1 M X (some (.int r), u') 3 21 [(0, .ref (X.2.1 o0)), (1, .int x1)] [] u := by
  intro n
  induction n with
  | zero => intro x1 u hf; cases hf
  | succ n ih =>
    intro x1 u hf
    rw [f_X7_does_21] at hf
    refine v_iload_n K 1 rfl rfl dX7_does_21 ?_
    refine v_aload_n K 0 rfl rfl dX7_does_22 ?_
    refine gf_7_15 K h0 fl_X7_267 dX7_does_23 ?_
    refine v_icmp_ge K 75 (by decide) dX7_does_26 (fun c5 => ?_) (fun c5 => ?_)
    · have hf := ite_t c5 hf
      refine v_aload_n K 0 rfl rfl dX7_does_75 ?_
      obtain ⟨r7, u6, e8, hf⟩ := bnd_of hf
      refine v_callVv K (c_X7_leaves h0 e8) cv_X7_leaves ml_X7_66 (am1_7 h0) h0 kdX7 ⟨rfl, rfl, Nat.le_of_ble_eq_true rfl, Nat.le_of_ble_eq_true rfl⟩ rfl rfl (Nat.le_of_ble_eq_true rfl) dX7_does_76 ?_
      refine v_aload_n K 0 rfl rfl dX7_does_79 ?_
      refine gf_7_15 K h0 fl_X7_267 dX7_does_80 ?_
      obtain ⟨rfl, rfl⟩ := pair_of hf
      exact v_iret K dX7_does_83
    · have hf := ite_f c5 hf
      refine v_aload_n K 0 rfl rfl dX7_does_29 ?_
      refine v_iload_n K 1 rfl rfl dX7_does_30 ?_
      obtain ⟨r10, u9, e11, hf⟩ := bnd_of hf
      refine v_callVi K (c_X7_doesOrder h0 e11) cv_X7_doesOrder ml_X7_280 (am1_7 h0) h0 kdX7 ⟨rfl, rfl, Nat.le_of_ble_eq_true rfl, Nat.le_of_ble_eq_true rfl⟩ rfl rfl (Nat.le_of_ble_eq_true rfl) dX7_does_31 ?_
      refine v_if_ge K 69 (by decide) dX7_does_34 (fun c12 => ?_) (fun c12 => ?_)
      · have hf := ite_t c12 hf
        refine v_iinc K 1 (v := x1 + 1) (ls' := [(1, .int (x1 + 1)), (0, .ref (X.2.1 o0))]) rfl rfl (by decide) rfl dX7_does_69 ?_
        refine v_goto K 21 (by decide) dX7_does_72 ?_
        refine v_sub [1, 0] rfl ?_
        exact ih (x1 + 1) u9 hf
      · have hf := ite_f c12 hf
        refine v_iconst K (v := 0) (by decide) dX7_does_37 ?_
        refine v_istore_n K (ls' := [(2, .int 0), (0, .ref (X.2.1 o0)), (1, .int x1)]) rfl (by decide) rfl dX7_does_38 ?_
        refine v_sub [1, 2, 0] rfl ?_
        exact t_X7_does_39 h0 K N x1 0 u9 hf
set_option maxRecDepth 20000 in
theorem c_X7_does {X : Wx} {N : Nat} {o0 : Nat} (h0 : akd o0 = 7) {u u' : ASt} {r : Int32} (hf : f_X7_does N o0 u = some (r, u')) (l : Launch) : Met l yX7_does (ws_ yX7_does cX7_does 3 (some .int)) rm_X7_does (Pg 1 X u [.ref (X.2.1 o0)]) (Qg 1 X (some (.int r)) u') 0 0 (Aw 1 X) := by
  refine v_met (res := (some (.int r), u')) (by decide) (Nat.le_of_ble_eq_true rfl) (fun M K => ?_)
  have K : OkM 1 M X cX7_does 3 RX7 rm_X7_does (some .int) := K
  show V 1 M X (some (.int r), u') 3 0 [(0, .ref (X.2.1 o0))] [] u
  unfold f_X7_does at hf
  refine v_aload_n K 0 rfl rfl dX7_does_0 ?_
  obtain ⟨r14, u13, e15, hf⟩ := bnd_of hf
  refine v_callVi K (c_X7_reads h0 e15) cv_X7_reads ml_X7_276 (am1_7 h0) h0 kdX7 ⟨rfl, rfl, Nat.le_of_ble_eq_true rfl, Nat.le_of_ble_eq_true rfl⟩ rfl rfl (Nat.le_of_ble_eq_true rfl) dX7_does_1 ?_
  refine v_if_ne K 15 (by decide) dX7_does_4 (fun c16 => ?_) (fun c16 => ?_)
  · have hf := ite_f c16 hf
    refine v_aload_n K 0 rfl rfl dX7_does_15 ?_
    obtain ⟨r18, u17, e19, hf⟩ := bnd_of hf
    refine v_callVv K (c_X7_laysAside h0 e19) cv_X7_laysAside ml_X7_93 (am1_7 h0) h0 kdX7 ⟨rfl, rfl, Nat.le_of_ble_eq_true rfl, Nat.le_of_ble_eq_true rfl⟩ rfl rfl (Nat.le_of_ble_eq_true rfl) dX7_does_16 ?_
    refine v_iconst K (v := 0) (by decide) dX7_does_19 ?_
    refine v_istore_n K (ls' := [(1, .int 0), (0, .ref (X.2.1 o0))]) rfl (by decide) rfl dX7_does_20 ?_
    refine v_sub [1, 0] rfl ?_
    exact t_X7_does_21 h0 K N 0 u17 hf
  · have hf := ite_t c16 hf
    refine v_bipush K (v := (-10)) (by decide) dX7_does_7 ?_
    refine v_aload_n K 0 rfl rfl dX7_does_9 ?_
    refine gf_7_13 K h0 fl_X7_251 dX7_does_10 ?_
    refine v_isub K dX7_does_13 ?_
    obtain ⟨rfl, rfl⟩ := pair_of hf
    exact v_iret K dX7_does_14
abbrev rm_X7_toldOf : Room := { frames := 0, cells := 0, slots := 0, locals := 0 }
set_option maxRecDepth 20000 in
theorem c_X7_toldOf {X : Wx} {N : Nat} {o0 : Nat} {p1 : Int32} (h0 : akd o0 = 7) {u u' : ASt} {r : Int32} (hf : f_X7_toldOf N o0 p1 u = some (r, u')) (l : Launch) : Met l yX7_toldOf (ws_ yX7_toldOf cX7_toldOf 2 (some .int)) rm_X7_toldOf (Pg 1 X u [.ref (X.2.1 o0), .int p1]) (Qg 1 X (some (.int r)) u') 0 0 (Aw 1 X) := by
  refine v_met (res := (some (.int r), u')) (by decide) (Nat.le_of_ble_eq_true rfl) (fun M K => ?_)
  have K : OkM 1 M X cX7_toldOf 2 RX7 rm_X7_toldOf (some .int) := K
  show V 1 M X (some (.int r), u') 2 0 [(0, .ref (X.2.1 o0)), (1, .int p1)] [] u
  unfold f_X7_toldOf at hf
  refine v_iload_n K 1 rfl rfl dX7_toldOf_0 ?_
  refine v_iconst K (v := 3) (by decide) dX7_toldOf_1 ?_
  refine v_icmp_ge K 14 (by decide) dX7_toldOf_2 (fun c1 => ?_) (fun c1 => ?_)
  · have hf := ite_t c1 hf
    refine v_iload_n K 1 rfl rfl dX7_toldOf_14 ?_
    refine v_iconst K (v := 3) (by decide) dX7_toldOf_15 ?_
    refine v_icmp_ne K 26 (by decide) dX7_toldOf_16 (fun c2 => ?_) (fun c2 => ?_)
    · have hf := ite_f c2 hf
      refine v_aload_n K 0 rfl rfl dX7_toldOf_26 ?_
      refine gf_7_3 K h0 fl_X7_58 dX7_toldOf_27 ?_
      obtain ⟨rfl, rfl⟩ := pair_of hf
      exact v_iret K dX7_toldOf_30
    · have hf := ite_t c2 hf
      refine v_aload_n K 0 rfl rfl dX7_toldOf_19 ?_
      refine gf_7_6 K h0 fl_X7_248 dX7_toldOf_20 ?_
      refine v_goto K 30 (by decide) dX7_toldOf_23 ?_
      obtain ⟨rfl, rfl⟩ := pair_of hf
      exact v_iret K dX7_toldOf_30
  · have hf := ite_f c1 hf
    refine v_aload_n K 0 rfl rfl dX7_toldOf_5 ?_
    refine gf_7_4 K h0 fl_X7_19 dX7_toldOf_6 ?_
    refine v_iload_n K 1 rfl rfl dX7_toldOf_9 ?_
    obtain ⟨g3, hf⟩ := chk_of hf
    refine v_iald K (am1_12 (ak_7_4 h0)) (.inr (ak_7_4 h0)) g3 dX7_toldOf_10 ?_
    refine v_goto K 30 (by decide) dX7_toldOf_11 ?_
    obtain ⟨rfl, rfl⟩ := pair_of hf
    exact v_iret K dX7_toldOf_30
abbrev rm_X7_told : Room := { frames := 1, cells := 0, slots := 0, locals := 22 }
set_option maxRecDepth 20000 in
theorem c_X7_told {X : Wx} {N : Nat} {o0 : Nat} {p1 : Int32} (h0 : akd o0 = 7) {u u' : ASt} {r : Int32} (hf : f_X7_told N o0 p1 u = some (r, u')) (l : Launch) : Met l yX7_told (ws_ yX7_told cX7_told 2 (some .int)) rm_X7_told (Pg 1 X u [.ref (X.2.1 o0), .int p1]) (Qg 1 X (some (.int r)) u') 0 0 (Aw 1 X) := by
  refine v_met (res := (some (.int r), u')) (by decide) (Nat.le_of_ble_eq_true rfl) (fun M K => ?_)
  have K : OkM 1 M X cX7_told 2 RX7 rm_X7_told (some .int) := K
  show V 1 M X (some (.int r), u') 2 0 [(0, .ref (X.2.1 o0)), (1, .int p1)] [] u
  unfold f_X7_told at hf
  refine v_iload_n K 1 rfl rfl dX7_told_0 ?_
  refine v_iconst K (v := 0) (by decide) dX7_told_1 ?_
  refine v_iconst K (v := 4) (by decide) dX7_told_2 ?_
  obtain ⟨r2, u1, e3, hf⟩ := bnd_of hf
  refine v_callSi K (c_X7_within e3) cv_X7_within ml_X7_43 ⟨rfl, rfl, Nat.le_of_ble_eq_true rfl, Nat.le_of_ble_eq_true rfl⟩ rfl rfl (Nat.le_of_ble_eq_true rfl) dX7_told_3 ?_
  refine v_if_eq K 17 (by decide) dX7_told_6 (fun c4 => ?_) (fun c4 => ?_)
  · have hf := ite_t c4 hf
    refine v_aload_n K 0 rfl rfl dX7_told_17 ?_
    obtain ⟨r6, u5, e7, hf⟩ := bnd_of hf
    refine v_callVi K (c_X7_bad h0 e7) cv_X7_bad ml_X7_72 (am1_7 h0) h0 kdX7 ⟨rfl, rfl, Nat.le_of_ble_eq_true rfl, Nat.le_of_ble_eq_true rfl⟩ rfl rfl (Nat.le_of_ble_eq_true rfl) dX7_told_18 ?_
    obtain ⟨rfl, rfl⟩ := pair_of hf
    exact v_iret K dX7_told_21
  · have hf := ite_f c4 hf
    refine v_aload_n K 0 rfl rfl dX7_told_9 ?_
    refine v_iload_n K 1 rfl rfl dX7_told_10 ?_
    obtain ⟨r9, u8, e10, hf⟩ := bnd_of hf
    refine v_callVi K (c_X7_toldOf h0 e10) cv_X7_toldOf ml_X7_283 (am1_7 h0) h0 kdX7 ⟨rfl, rfl, Nat.le_of_ble_eq_true rfl, Nat.le_of_ble_eq_true rfl⟩ rfl rfl (Nat.le_of_ble_eq_true rfl) dX7_told_11 ?_
    refine v_goto K 21 (by decide) dX7_told_14 ?_
    obtain ⟨rfl, rfl⟩ := pair_of hf
    exact v_iret K dX7_told_21
abbrev rm_X7_mix : Room := { frames := 0, cells := 0, slots := 0, locals := 0 }
set_option maxRecDepth 20000 in
theorem c_X7_mix {X : Wx} {N : Nat} {o0 : Nat} {p1 : Int32} (h0 : akd o0 = 7) {u u' : ASt} {r : Unit} (hf : f_X7_mix N o0 p1 u = some (r, u')) (l : Launch) : Met l yX7_mix (ws_ yX7_mix cX7_mix 2 none) rm_X7_mix (Pg 1 X u [.ref (X.2.1 o0), .int p1]) (Qg 1 X (none) u') 0 0 (Aw 1 X) := by
  refine v_met (res := (none, u')) (by decide) (Nat.le_of_ble_eq_true rfl) (fun M K => ?_)
  have K : OkM 1 M X cX7_mix 2 RX7 rm_X7_mix none := K
  show V 1 M X (none, u') 2 0 [(0, .ref (X.2.1 o0)), (1, .int p1)] [] u
  unfold f_X7_mix at hf
  refine v_aload_n K 0 rfl rfl dX7_mix_0 ?_
  refine v_ldc2 K co_X7_286 dX7_mix_1 ?_
  refine v_aload_n K 0 rfl rfl dX7_mix_4 ?_
  refine gf_7_18 K h0 fl_X7_288 dX7_mix_5 ?_
  refine v_lmul K dX7_mix_8 ?_
  refine v_iload_n K 1 rfl rfl dX7_mix_9 ?_
  refine v_i2l K dX7_mix_10 ?_
  refine v_ladd K dX7_mix_11 ?_
  refine pf_7_18 K h0 fl_X7_288 dX7_mix_12 ?_
  refine v_st (fun u1 eu1 => ?_)
  have hf := lte_of eu1 hf
  obtain ⟨rfl, rfl⟩ := pair_of hf
  exact v_vret K dX7_mix_15
abbrev rm_X7_mixChip : Room := { frames := 11, cells := 0, slots := 0, locals := 251 }
set_option maxRecDepth 20000 in
theorem t_X7_mixChip_26 {M : Mx} {X : Wx} {N : Nat} {o0 : Nat} {p1 : Int32} (h0 : akd o0 = 7) {r : Unit} {u' : ASt} (K : OkM 1 M X cX7_mixChip 3 RX7 rm_X7_mixChip none) : ∀ (n : Nat) (x2 : Int32) (u : ASt), f_X7_mixChip_26 N o0 p1 n x2 u = some (r, u') → V 1 M X (none, u') 3 26 [(0, .ref (X.2.1 o0)), (1, .int p1), (2, .int x2)] [] u := by
  intro n
  induction n with
  | zero => intro x2 u hf; cases hf
  | succ n ih =>
    intro x2 u hf
    rw [f_X7_mixChip_26] at hf
    refine v_iload_n K 2 rfl rfl dX7_mixChip_26 ?_
    refine v_iconst K (v := 3) (by decide) dX7_mixChip_27 ?_
    refine v_aload_n K 0 rfl rfl dX7_mixChip_28 ?_
    refine v_iload_n K 1 rfl rfl dX7_mixChip_29 ?_
    refine v_iconst K (v := 2) (by decide) dX7_mixChip_30 ?_
    obtain ⟨r2, u1, e3, hf⟩ := bnd_of hf
    refine v_callVi K (c_X7_get h0 e3) cv_X7_get ml_X7_55 (am1_7 h0) h0 kdX7 ⟨rfl, rfl, Nat.le_of_ble_eq_true rfl, Nat.le_of_ble_eq_true rfl⟩ rfl rfl (Nat.le_of_ble_eq_true rfl) dX7_mixChip_31 ?_
    refine v_imul K dX7_mixChip_34 ?_
    refine v_icmp_ge K 59 (by decide) dX7_mixChip_35 (fun c4 => ?_) (fun c4 => ?_)
    · have hf := ite_t c4 hf
      obtain ⟨rfl, rfl⟩ := pair_of hf
      exact v_vret K dX7_mixChip_59
    · have hf := ite_f c4 hf
      refine v_aload_n K 0 rfl rfl dX7_mixChip_38 ?_
      refine v_aload_n K 0 rfl rfl dX7_mixChip_39 ?_
      refine v_iload_n K 1 rfl rfl dX7_mixChip_40 ?_
      refine v_iload_n K 2 rfl rfl dX7_mixChip_41 ?_
      refine v_iconst K (v := 3) (by decide) dX7_mixChip_42 ?_
      refine v_idiv K (by decide) dX7_mixChip_43 ?_
      refine v_iload_n K 2 rfl rfl dX7_mixChip_44 ?_
      refine v_iconst K (v := 3) (by decide) dX7_mixChip_45 ?_
      refine v_irem K (by decide) dX7_mixChip_46 ?_
      obtain ⟨r6, u5, e7, hf⟩ := bnd_of hf
      refine v_callVi K (c_X7_tellCell h0 e7) cv_X7_tellCell ml_X7_211 (am1_7 h0) h0 kdX7 ⟨rfl, rfl, Nat.le_of_ble_eq_true rfl, Nat.le_of_ble_eq_true rfl⟩ rfl rfl (Nat.le_of_ble_eq_true rfl) dX7_mixChip_47 ?_
      obtain ⟨r9, u8, e10, hf⟩ := bnd_of hf
      refine v_callVv K (c_X7_mix h0 e10) cv_X7_mix ml_X7_292 (am1_7 h0) h0 kdX7 ⟨rfl, rfl, Nat.le_of_ble_eq_true rfl, Nat.le_of_ble_eq_true rfl⟩ rfl rfl (Nat.le_of_ble_eq_true rfl) dX7_mixChip_50 ?_
      refine v_iinc K 2 (v := x2 + 1) (ls' := [(2, .int (x2 + 1)), (0, .ref (X.2.1 o0)), (1, .int p1)]) rfl rfl (by decide) rfl dX7_mixChip_53 ?_
      refine v_goto K 26 (by decide) dX7_mixChip_56 ?_
      refine v_sub [1, 2, 0] rfl ?_
      exact ih (x2 + 1) u8 hf
set_option maxRecDepth 20000 in
theorem t_X7_mixChip_2 {M : Mx} {X : Wx} {N : Nat} {o0 : Nat} {p1 : Int32} (h0 : akd o0 = 7) {r : Unit} {u' : ASt} (K : OkM 1 M X cX7_mixChip 3 RX7 rm_X7_mixChip none) : ∀ (n : Nat) (x2 : Int32) (u : ASt), f_X7_mixChip_2 N o0 p1 n x2 u = some (r, u') → V 1 M X (none, u') 3 2 [(0, .ref (X.2.1 o0)), (1, .int p1), (2, .int x2)] [] u := by
  intro n
  induction n with
  | zero => intro x2 u hf; cases hf
  | succ n ih =>
    intro x2 u hf
    rw [f_X7_mixChip_2] at hf
    refine v_iload_n K 2 rfl rfl dX7_mixChip_2 ?_
    refine v_bipush K (v := 8) (by decide) dX7_mixChip_3 ?_
    refine v_icmp_ge K 24 (by decide) dX7_mixChip_5 (fun c11 => ?_) (fun c11 => ?_)
    · have hf := ite_t c11 hf
      refine v_iconst K (v := 0) (by decide) dX7_mixChip_24 ?_
      refine v_istore_n K (ls' := [(2, .int 0), (0, .ref (X.2.1 o0)), (1, .int p1)]) rfl (by decide) rfl dX7_mixChip_25 ?_
      refine v_sub [1, 2, 0] rfl ?_
      exact t_X7_mixChip_26 h0 K N 0 u hf
    · have hf := ite_f c11 hf
      refine v_aload_n K 0 rfl rfl dX7_mixChip_8 ?_
      refine v_aload_n K 0 rfl rfl dX7_mixChip_9 ?_
      refine v_iload_n K 1 rfl rfl dX7_mixChip_10 ?_
      refine v_iload_n K 2 rfl rfl dX7_mixChip_11 ?_
      obtain ⟨r13, u12, e14, hf⟩ := bnd_of hf
      refine v_callVi K (c_X7_tellChip h0 e14) cv_X7_tellChip ml_X7_208 (am1_7 h0) h0 kdX7 ⟨rfl, rfl, Nat.le_of_ble_eq_true rfl, Nat.le_of_ble_eq_true rfl⟩ rfl rfl (Nat.le_of_ble_eq_true rfl) dX7_mixChip_12 ?_
      obtain ⟨r16, u15, e17, hf⟩ := bnd_of hf
      refine v_callVv K (c_X7_mix h0 e17) cv_X7_mix ml_X7_292 (am1_7 h0) h0 kdX7 ⟨rfl, rfl, Nat.le_of_ble_eq_true rfl, Nat.le_of_ble_eq_true rfl⟩ rfl rfl (Nat.le_of_ble_eq_true rfl) dX7_mixChip_15 ?_
      refine v_iinc K 2 (v := x2 + 1) (ls' := [(2, .int (x2 + 1)), (0, .ref (X.2.1 o0)), (1, .int p1)]) rfl rfl (by decide) rfl dX7_mixChip_18 ?_
      refine v_goto K 2 (by decide) dX7_mixChip_21 ?_
      refine v_sub [1, 2, 0] rfl ?_
      exact ih (x2 + 1) u15 hf
set_option maxRecDepth 20000 in
theorem c_X7_mixChip {X : Wx} {N : Nat} {o0 : Nat} {p1 : Int32} (h0 : akd o0 = 7) {u u' : ASt} {r : Unit} (hf : f_X7_mixChip N o0 p1 u = some (r, u')) (l : Launch) : Met l yX7_mixChip (ws_ yX7_mixChip cX7_mixChip 3 none) rm_X7_mixChip (Pg 1 X u [.ref (X.2.1 o0), .int p1]) (Qg 1 X (none) u') 0 0 (Aw 1 X) := by
  refine v_met (res := (none, u')) (by decide) (Nat.le_of_ble_eq_true rfl) (fun M K => ?_)
  have K : OkM 1 M X cX7_mixChip 3 RX7 rm_X7_mixChip none := K
  show V 1 M X (none, u') 3 0 [(0, .ref (X.2.1 o0)), (1, .int p1)] [] u
  unfold f_X7_mixChip at hf
  refine v_iconst K (v := 0) (by decide) dX7_mixChip_0 ?_
  refine v_istore_n K (ls' := [(2, .int 0), (0, .ref (X.2.1 o0)), (1, .int p1)]) rfl (by decide) rfl dX7_mixChip_1 ?_
  refine v_sub [1, 2, 0] rfl ?_
  exact t_X7_mixChip_2 h0 K N 0 u hf
abbrev rm_X7_digest : Room := { frames := 12, cells := 0, slots := 0, locals := 283 }
set_option maxRecDepth 20000 in
theorem t_X7_digest_96 {M : Mx} {X : Wx} {N : Nat} {o0 : Nat} (h0 : akd o0 = 7) {r : Int64} {u' : ASt} (K : OkM 1 M X cX7_digest 2 RX7 rm_X7_digest (some .long)) : ∀ (n : Nat) (x1 : Int32) (u : ASt), f_X7_digest_96 N o0 n x1 u = some (r, u') → V 1 M X (some (.long r), u') 2 96 [(0, .ref (X.2.1 o0)), (1, .int x1)] [] u := by
  intro n
  induction n with
  | zero => intro x1 u hf; cases hf
  | succ n ih =>
    intro x1 u hf
    rw [f_X7_digest_96] at hf
    refine v_iload_n K 1 rfl rfl dX7_digest_96 ?_
    refine v_aload_n K 0 rfl rfl dX7_digest_97 ?_
    refine gf_7_0 K h0 fl_X7_7 dX7_digest_98 ?_
    refine v_iconst K (v := 2) (by decide) dX7_digest_101 ?_
    obtain ⟨g1, hf⟩ := chk_of hf
    refine v_iald K (am1_12 (ak_7_0 h0)) (.inr (ak_7_0 h0)) g1 dX7_digest_102 ?_
    refine v_icmp_ge K 124 (by decide) dX7_digest_103 (fun c2 => ?_) (fun c2 => ?_)
    · have hf := ite_t c2 hf
      refine v_aload_n K 0 rfl rfl dX7_digest_124 ?_
      refine v_aload_n K 0 rfl rfl dX7_digest_125 ?_
      refine v_iconst K (v := 0) (by decide) dX7_digest_126 ?_
      obtain ⟨r4, u3, e5, hf⟩ := bnd_of hf
      refine v_callVi K (c_X7_patternsOf h0 e5) cv_X7_patternsOf ml_X7_223 (am1_7 h0) h0 kdX7 ⟨rfl, rfl, Nat.le_of_ble_eq_true rfl, Nat.le_of_ble_eq_true rfl⟩ rfl rfl (Nat.le_of_ble_eq_true rfl) dX7_digest_127 ?_
      obtain ⟨r7, u6, e8, hf⟩ := bnd_of hf
      refine v_callVv K (c_X7_mix h0 e8) cv_X7_mix ml_X7_292 (am1_7 h0) h0 kdX7 ⟨rfl, rfl, Nat.le_of_ble_eq_true rfl, Nat.le_of_ble_eq_true rfl⟩ rfl rfl (Nat.le_of_ble_eq_true rfl) dX7_digest_130 ?_
      refine v_aload_n K 0 rfl rfl dX7_digest_133 ?_
      refine v_aload_n K 0 rfl rfl dX7_digest_134 ?_
      refine v_iconst K (v := 0) (by decide) dX7_digest_135 ?_
      obtain ⟨r10, u9, e11, hf⟩ := bnd_of hf
      refine v_callVi K (c_X7_seenBy h0 e11) cv_X7_seenBy ml_X7_239 (am1_7 h0) h0 kdX7 ⟨rfl, rfl, Nat.le_of_ble_eq_true rfl, Nat.le_of_ble_eq_true rfl⟩ rfl rfl (Nat.le_of_ble_eq_true rfl) dX7_digest_136 ?_
      obtain ⟨r13, u12, e14, hf⟩ := bnd_of hf
      refine v_callVv K (c_X7_mix h0 e14) cv_X7_mix ml_X7_292 (am1_7 h0) h0 kdX7 ⟨rfl, rfl, Nat.le_of_ble_eq_true rfl, Nat.le_of_ble_eq_true rfl⟩ rfl rfl (Nat.le_of_ble_eq_true rfl) dX7_digest_139 ?_
      refine v_aload_n K 0 rfl rfl dX7_digest_142 ?_
      refine v_aload_n K 0 rfl rfl dX7_digest_143 ?_
      refine v_iconst K (v := 1) (by decide) dX7_digest_144 ?_
      obtain ⟨r16, u15, e17, hf⟩ := bnd_of hf
      refine v_callVi K (c_X7_seenBy h0 e17) cv_X7_seenBy ml_X7_239 (am1_7 h0) h0 kdX7 ⟨rfl, rfl, Nat.le_of_ble_eq_true rfl, Nat.le_of_ble_eq_true rfl⟩ rfl rfl (Nat.le_of_ble_eq_true rfl) dX7_digest_145 ?_
      obtain ⟨r19, u18, e20, hf⟩ := bnd_of hf
      refine v_callVv K (c_X7_mix h0 e20) cv_X7_mix ml_X7_292 (am1_7 h0) h0 kdX7 ⟨rfl, rfl, Nat.le_of_ble_eq_true rfl, Nat.le_of_ble_eq_true rfl⟩ rfl rfl (Nat.le_of_ble_eq_true rfl) dX7_digest_148 ?_
      refine v_aload_n K 0 rfl rfl dX7_digest_151 ?_
      refine v_aload_n K 0 rfl rfl dX7_digest_152 ?_
      refine v_iconst K (v := 0) (by decide) dX7_digest_153 ?_
      refine v_iconst K (v := (-1)) (by decide) dX7_digest_154 ?_
      obtain ⟨r22, u21, e23, hf⟩ := bnd_of hf
      refine v_callVi K (c_X7_suspectsBy h0 e23) cv_X7_suspectsBy ml_X7_245 (am1_7 h0) h0 kdX7 ⟨rfl, rfl, Nat.le_of_ble_eq_true rfl, Nat.le_of_ble_eq_true rfl⟩ rfl rfl (Nat.le_of_ble_eq_true rfl) dX7_digest_155 ?_
      obtain ⟨r25, u24, e26, hf⟩ := bnd_of hf
      refine v_callVv K (c_X7_mix h0 e26) cv_X7_mix ml_X7_292 (am1_7 h0) h0 kdX7 ⟨rfl, rfl, Nat.le_of_ble_eq_true rfl, Nat.le_of_ble_eq_true rfl⟩ rfl rfl (Nat.le_of_ble_eq_true rfl) dX7_digest_158 ?_
      refine v_aload_n K 0 rfl rfl dX7_digest_161 ?_
      refine v_aload_n K 0 rfl rfl dX7_digest_162 ?_
      refine v_iconst K (v := 1) (by decide) dX7_digest_163 ?_
      refine v_iconst K (v := (-1)) (by decide) dX7_digest_164 ?_
      obtain ⟨r28, u27, e29, hf⟩ := bnd_of hf
      refine v_callVi K (c_X7_suspectsBy h0 e29) cv_X7_suspectsBy ml_X7_245 (am1_7 h0) h0 kdX7 ⟨rfl, rfl, Nat.le_of_ble_eq_true rfl, Nat.le_of_ble_eq_true rfl⟩ rfl rfl (Nat.le_of_ble_eq_true rfl) dX7_digest_165 ?_
      obtain ⟨r31, u30, e32, hf⟩ := bnd_of hf
      refine v_callVv K (c_X7_mix h0 e32) cv_X7_mix ml_X7_292 (am1_7 h0) h0 kdX7 ⟨rfl, rfl, Nat.le_of_ble_eq_true rfl, Nat.le_of_ble_eq_true rfl⟩ rfl rfl (Nat.le_of_ble_eq_true rfl) dX7_digest_168 ?_
      refine v_aload_n K 0 rfl rfl dX7_digest_171 ?_
      refine gf_7_18 K h0 fl_X7_288 dX7_digest_172 ?_
      obtain ⟨rfl, rfl⟩ := pair_of hf
      exact v_lret K dX7_digest_175
    · have hf := ite_f c2 hf
      refine v_aload_n K 0 rfl rfl dX7_digest_106 ?_
      refine v_aload_n K 0 rfl rfl dX7_digest_107 ?_
      refine gf_7_0 K h0 fl_X7_7 dX7_digest_108 ?_
      refine v_iconst K (v := 3) (by decide) dX7_digest_111 ?_
      refine v_iload_n K 1 rfl rfl dX7_digest_112 ?_
      refine v_iadd K dX7_digest_113 ?_
      obtain ⟨g33, hf⟩ := chk_of hf
      refine v_iald K (am1_12 (ak_7_0 h0)) (.inr (ak_7_0 h0)) g33 dX7_digest_114 ?_
      obtain ⟨r35, u34, e36, hf⟩ := bnd_of hf
      refine v_callVv K (c_X7_mix h0 e36) cv_X7_mix ml_X7_292 (am1_7 h0) h0 kdX7 ⟨rfl, rfl, Nat.le_of_ble_eq_true rfl, Nat.le_of_ble_eq_true rfl⟩ rfl rfl (Nat.le_of_ble_eq_true rfl) dX7_digest_115 ?_
      refine v_iinc K 1 (v := x1 + 1) (ls' := [(1, .int (x1 + 1)), (0, .ref (X.2.1 o0))]) rfl rfl (by decide) rfl dX7_digest_118 ?_
      refine v_goto K 96 (by decide) dX7_digest_121 ?_
      refine v_sub [1, 0] rfl ?_
      exact ih (x1 + 1) u34 hf
set_option maxRecDepth 20000 in
theorem t_X7_digest_75 {M : Mx} {X : Wx} {N : Nat} {o0 : Nat} (h0 : akd o0 = 7) {r : Int64} {u' : ASt} (K : OkM 1 M X cX7_digest 2 RX7 rm_X7_digest (some .long)) : ∀ (n : Nat) (x1 : Int32) (u : ASt), f_X7_digest_75 N o0 n x1 u = some (r, u') → V 1 M X (some (.long r), u') 2 75 [(0, .ref (X.2.1 o0)), (1, .int x1)] [] u := by
  intro n
  induction n with
  | zero => intro x1 u hf; cases hf
  | succ n ih =>
    intro x1 u hf
    rw [f_X7_digest_75] at hf
    refine v_iload_n K 1 rfl rfl dX7_digest_75 ?_
    refine v_aload_n K 0 rfl rfl dX7_digest_76 ?_
    obtain ⟨r38, u37, e39, hf⟩ := bnd_of hf
    refine v_callVi K (c_X7_chips h0 e39) cv_X7_chips ml_X7_121 (am1_7 h0) h0 kdX7 ⟨rfl, rfl, Nat.le_of_ble_eq_true rfl, Nat.le_of_ble_eq_true rfl⟩ rfl rfl (Nat.le_of_ble_eq_true rfl) dX7_digest_77 ?_
    refine v_icmp_ge K 94 (by decide) dX7_digest_80 (fun c40 => ?_) (fun c40 => ?_)
    · have hf := ite_t c40 hf
      refine v_iconst K (v := 0) (by decide) dX7_digest_94 ?_
      refine v_istore_n K (ls' := [(1, .int 0), (0, .ref (X.2.1 o0))]) rfl (by decide) rfl dX7_digest_95 ?_
      refine v_sub [1, 0] rfl ?_
      exact t_X7_digest_96 h0 K N 0 u37 hf
    · have hf := ite_f c40 hf
      refine v_aload_n K 0 rfl rfl dX7_digest_83 ?_
      refine v_iload_n K 1 rfl rfl dX7_digest_84 ?_
      obtain ⟨r42, u41, e43, hf⟩ := bnd_of hf
      refine v_callVv K (c_X7_mixChip h0 e43) cv_X7_mixChip ml_X7_297 (am1_7 h0) h0 kdX7 ⟨rfl, rfl, Nat.le_of_ble_eq_true rfl, Nat.le_of_ble_eq_true rfl⟩ rfl rfl (Nat.le_of_ble_eq_true rfl) dX7_digest_85 ?_
      refine v_iinc K 1 (v := x1 + 1) (ls' := [(1, .int (x1 + 1)), (0, .ref (X.2.1 o0))]) rfl rfl (by decide) rfl dX7_digest_88 ?_
      refine v_goto K 75 (by decide) dX7_digest_91 ?_
      refine v_sub [1, 0] rfl ?_
      exact ih (x1 + 1) u41 hf
set_option maxRecDepth 20000 in
theorem t_X7_digest_53 {M : Mx} {X : Wx} {N : Nat} {o0 : Nat} (h0 : akd o0 = 7) {r : Int64} {u' : ASt} (K : OkM 1 M X cX7_digest 2 RX7 rm_X7_digest (some .long)) : ∀ (n : Nat) (x1 : Int32) (u : ASt), f_X7_digest_53 N o0 n x1 u = some (r, u') → V 1 M X (some (.long r), u') 2 53 [(0, .ref (X.2.1 o0)), (1, .int x1)] [] u := by
  intro n
  induction n with
  | zero => intro x1 u hf; cases hf
  | succ n ih =>
    intro x1 u hf
    rw [f_X7_digest_53] at hf
    refine v_iload_n K 1 rfl rfl dX7_digest_53 ?_
    refine v_iconst K (v := 5) (by decide) dX7_digest_54 ?_
    refine v_icmp_ge K 73 (by decide) dX7_digest_55 (fun c44 => ?_) (fun c44 => ?_)
    · have hf := ite_t c44 hf
      refine v_iconst K (v := 0) (by decide) dX7_digest_73 ?_
      refine v_istore_n K (ls' := [(1, .int 0), (0, .ref (X.2.1 o0))]) rfl (by decide) rfl dX7_digest_74 ?_
      refine v_sub [1, 0] rfl ?_
      exact t_X7_digest_75 h0 K N 0 u hf
    · have hf := ite_f c44 hf
      refine v_aload_n K 0 rfl rfl dX7_digest_58 ?_
      refine v_aload_n K 0 rfl rfl dX7_digest_59 ?_
      refine v_iload_n K 1 rfl rfl dX7_digest_60 ?_
      obtain ⟨r46, u45, e47, hf⟩ := bnd_of hf
      refine v_callVi K (c_X7_tellPort h0 e47) cv_X7_tellPort ml_X7_205 (am1_7 h0) h0 kdX7 ⟨rfl, rfl, Nat.le_of_ble_eq_true rfl, Nat.le_of_ble_eq_true rfl⟩ rfl rfl (Nat.le_of_ble_eq_true rfl) dX7_digest_61 ?_
      obtain ⟨r49, u48, e50, hf⟩ := bnd_of hf
      refine v_callVv K (c_X7_mix h0 e50) cv_X7_mix ml_X7_292 (am1_7 h0) h0 kdX7 ⟨rfl, rfl, Nat.le_of_ble_eq_true rfl, Nat.le_of_ble_eq_true rfl⟩ rfl rfl (Nat.le_of_ble_eq_true rfl) dX7_digest_64 ?_
      refine v_iinc K 1 (v := x1 + 1) (ls' := [(1, .int (x1 + 1)), (0, .ref (X.2.1 o0))]) rfl rfl (by decide) rfl dX7_digest_67 ?_
      refine v_goto K 53 (by decide) dX7_digest_70 ?_
      refine v_sub [1, 0] rfl ?_
      exact ih (x1 + 1) u48 hf
set_option maxRecDepth 20000 in
theorem t_X7_digest_31 {M : Mx} {X : Wx} {N : Nat} {o0 : Nat} (h0 : akd o0 = 7) {r : Int64} {u' : ASt} (K : OkM 1 M X cX7_digest 2 RX7 rm_X7_digest (some .long)) : ∀ (n : Nat) (x1 : Int32) (u : ASt), f_X7_digest_31 N o0 n x1 u = some (r, u') → V 1 M X (some (.long r), u') 2 31 [(0, .ref (X.2.1 o0)), (1, .int x1)] [] u := by
  intro n
  induction n with
  | zero => intro x1 u hf; cases hf
  | succ n ih =>
    intro x1 u hf
    rw [f_X7_digest_31] at hf
    refine v_iload_n K 1 rfl rfl dX7_digest_31 ?_
    refine v_iconst K (v := 5) (by decide) dX7_digest_32 ?_
    refine v_icmp_ge K 51 (by decide) dX7_digest_33 (fun c51 => ?_) (fun c51 => ?_)
    · have hf := ite_t c51 hf
      refine v_iconst K (v := 0) (by decide) dX7_digest_51 ?_
      refine v_istore_n K (ls' := [(1, .int 0), (0, .ref (X.2.1 o0))]) rfl (by decide) rfl dX7_digest_52 ?_
      refine v_sub [1, 0] rfl ?_
      exact t_X7_digest_53 h0 K N 0 u hf
    · have hf := ite_f c51 hf
      refine v_aload_n K 0 rfl rfl dX7_digest_36 ?_
      refine v_aload_n K 0 rfl rfl dX7_digest_37 ?_
      refine v_iload_n K 1 rfl rfl dX7_digest_38 ?_
      obtain ⟨r53, u52, e54, hf⟩ := bnd_of hf
      refine v_callVi K (c_X7_countOf h0 e54) cv_X7_countOf ml_X7_220 (am1_7 h0) h0 kdX7 ⟨rfl, rfl, Nat.le_of_ble_eq_true rfl, Nat.le_of_ble_eq_true rfl⟩ rfl rfl (Nat.le_of_ble_eq_true rfl) dX7_digest_39 ?_
      obtain ⟨r56, u55, e57, hf⟩ := bnd_of hf
      refine v_callVv K (c_X7_mix h0 e57) cv_X7_mix ml_X7_292 (am1_7 h0) h0 kdX7 ⟨rfl, rfl, Nat.le_of_ble_eq_true rfl, Nat.le_of_ble_eq_true rfl⟩ rfl rfl (Nat.le_of_ble_eq_true rfl) dX7_digest_42 ?_
      refine v_iinc K 1 (v := x1 + 1) (ls' := [(1, .int (x1 + 1)), (0, .ref (X.2.1 o0))]) rfl rfl (by decide) rfl dX7_digest_45 ?_
      refine v_goto K 31 (by decide) dX7_digest_48 ?_
      refine v_sub [1, 0] rfl ?_
      exact ih (x1 + 1) u55 hf
set_option maxRecDepth 20000 in
theorem t_X7_digest_9 {M : Mx} {X : Wx} {N : Nat} {o0 : Nat} (h0 : akd o0 = 7) {r : Int64} {u' : ASt} (K : OkM 1 M X cX7_digest 2 RX7 rm_X7_digest (some .long)) : ∀ (n : Nat) (x1 : Int32) (u : ASt), f_X7_digest_9 N o0 n x1 u = some (r, u') → V 1 M X (some (.long r), u') 2 9 [(0, .ref (X.2.1 o0)), (1, .int x1)] [] u := by
  intro n
  induction n with
  | zero => intro x1 u hf; cases hf
  | succ n ih =>
    intro x1 u hf
    rw [f_X7_digest_9] at hf
    refine v_iload_n K 1 rfl rfl dX7_digest_9 ?_
    refine v_iconst K (v := 5) (by decide) dX7_digest_10 ?_
    refine v_icmp_ge K 29 (by decide) dX7_digest_11 (fun c58 => ?_) (fun c58 => ?_)
    · have hf := ite_t c58 hf
      refine v_iconst K (v := 0) (by decide) dX7_digest_29 ?_
      refine v_istore_n K (ls' := [(1, .int 0), (0, .ref (X.2.1 o0))]) rfl (by decide) rfl dX7_digest_30 ?_
      refine v_sub [1, 0] rfl ?_
      exact t_X7_digest_31 h0 K N 0 u hf
    · have hf := ite_f c58 hf
      refine v_aload_n K 0 rfl rfl dX7_digest_14 ?_
      refine v_aload_n K 0 rfl rfl dX7_digest_15 ?_
      refine v_iload_n K 1 rfl rfl dX7_digest_16 ?_
      obtain ⟨r60, u59, e61, hf⟩ := bnd_of hf
      refine v_callVi K (c_X7_toldOf h0 e61) cv_X7_toldOf ml_X7_283 (am1_7 h0) h0 kdX7 ⟨rfl, rfl, Nat.le_of_ble_eq_true rfl, Nat.le_of_ble_eq_true rfl⟩ rfl rfl (Nat.le_of_ble_eq_true rfl) dX7_digest_17 ?_
      obtain ⟨r63, u62, e64, hf⟩ := bnd_of hf
      refine v_callVv K (c_X7_mix h0 e64) cv_X7_mix ml_X7_292 (am1_7 h0) h0 kdX7 ⟨rfl, rfl, Nat.le_of_ble_eq_true rfl, Nat.le_of_ble_eq_true rfl⟩ rfl rfl (Nat.le_of_ble_eq_true rfl) dX7_digest_20 ?_
      refine v_iinc K 1 (v := x1 + 1) (ls' := [(1, .int (x1 + 1)), (0, .ref (X.2.1 o0))]) rfl rfl (by decide) rfl dX7_digest_23 ?_
      refine v_goto K 9 (by decide) dX7_digest_26 ?_
      refine v_sub [1, 0] rfl ?_
      exact ih (x1 + 1) u62 hf
set_option maxRecDepth 20000 in
theorem c_X7_digest {X : Wx} {N : Nat} {o0 : Nat} (h0 : akd o0 = 7) {u u' : ASt} {r : Int64} (hf : f_X7_digest N o0 u = some (r, u')) (l : Launch) : Met l yX7_digest (ws_ yX7_digest cX7_digest 2 (some .long)) rm_X7_digest (Pg 1 X u [.ref (X.2.1 o0)]) (Qg 1 X (some (.long r)) u') 0 0 (Aw 1 X) := by
  refine v_met (res := (some (.long r), u')) (by decide) (Nat.le_of_ble_eq_true rfl) (fun M K => ?_)
  have K : OkM 1 M X cX7_digest 2 RX7 rm_X7_digest (some .long) := K
  show V 1 M X (some (.long r), u') 2 0 [(0, .ref (X.2.1 o0))] [] u
  unfold f_X7_digest at hf
  refine v_aload_n K 0 rfl rfl dX7_digest_0 ?_
  refine v_ldc2 K co_X7_295 dX7_digest_1 ?_
  refine pf_7_18 K h0 fl_X7_288 dX7_digest_4 ?_
  refine v_st (fun u65 eu65 => ?_)
  have hf := lte_of eu65 hf
  refine v_iconst K (v := 0) (by decide) dX7_digest_7 ?_
  refine v_istore_n K (ls' := [(1, .int 0), (0, .ref (X.2.1 o0))]) rfl (by decide) rfl dX7_digest_8 ?_
  refine v_sub [1, 0] rfl ?_
  exact t_X7_digest_9 h0 K N 0 u65 hf
