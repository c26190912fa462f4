abbrev rm_X1_copyFrom : Room := { frames := 1, cells := 0, slots := 0, locals := 40 }
set_option maxRecDepth 20000 in
theorem c_X1_copyFrom {X : Wx} {N : Nat} {o0 : Nat} {o1 : Nat} (h0 : akd o0 = 1) (h1 : akd o1 = 1) {u u' : ASt} {r : Unit} (hf : f_X1_copyFrom N o0 o1 u = some (r, u')) (l : Launch) : Met l yX1_copyFrom (ws_ yX1_copyFrom cX1_copyFrom 2 none) rm_X1_copyFrom (Pg 0 X u [.ref (X.2.1 o0), .ref (X.2.1 o1)]) (Qg 0 X (none) u') 0 0 (Aw 0 X) := by
  refine v_met (res := (none, u')) (by decide) (Nat.le_of_ble_eq_true rfl) (fun M K => ?_)
  have K : OkM 0 M X cX1_copyFrom 2 RX1 rm_X1_copyFrom none := K
  show V 0 M X (none, u') 2 0 [(0, .ref (X.2.1 o0)), (1, .ref (X.2.1 o1))] [] u
  unfold f_X1_copyFrom at hf
  refine v_aload_n K 0 rfl rfl dX1_copyFrom_0 ?_
  refine v_aload_n K 1 rfl rfl dX1_copyFrom_1 ?_
  refine gf_1_0 K h1 fl_X1_15 dX1_copyFrom_2 ?_
  refine pf_1_0 K h0 fl_X1_15 dX1_copyFrom_5 ?_
  refine v_st (fun u1 eu1 => ?_)
  have hf := lte_of eu1 hf
  refine v_aload_n K 0 rfl rfl dX1_copyFrom_8 ?_
  refine v_aload_n K 1 rfl rfl dX1_copyFrom_9 ?_
  refine gf_1_1 K h1 fl_X1_19 dX1_copyFrom_10 ?_
  refine pf_1_1 K h0 fl_X1_19 dX1_copyFrom_13 ?_
  refine v_st (fun u2 eu2 => ?_)
  have hf := lte_of eu2 hf
  refine v_aload_n K 0 rfl rfl dX1_copyFrom_16 ?_
  refine v_aload_n K 1 rfl rfl dX1_copyFrom_17 ?_
  refine gf_1_2 K h1 fl_X1_40 dX1_copyFrom_18 ?_
  refine pf_1_2 K h0 fl_X1_40 dX1_copyFrom_21 ?_
  refine v_st (fun u3 eu3 => ?_)
  have hf := lte_of eu3 hf
  refine v_aload_n K 0 rfl rfl dX1_copyFrom_24 ?_
  refine v_aload_n K 1 rfl rfl dX1_copyFrom_25 ?_
  refine gf_1_3 K h1 fl_X1_22 dX1_copyFrom_26 ?_
  refine pf_1_3 K h0 fl_X1_22 dX1_copyFrom_29 ?_
  refine v_st (fun u4 eu4 => ?_)
  have hf := lte_of eu4 hf
  refine v_aload_n K 0 rfl rfl dX1_copyFrom_32 ?_
  refine v_aload_n K 1 rfl rfl dX1_copyFrom_33 ?_
  refine gf_1_4 K h1 fl_X1_25 dX1_copyFrom_34 ?_
  refine pf_1_4 K h0 fl_X1_25 dX1_copyFrom_37 ?_
  refine v_st (fun u5 eu5 => ?_)
  have hf := lte_of eu5 hf
  refine v_aload_n K 0 rfl rfl dX1_copyFrom_40 ?_
  refine v_aload_n K 1 rfl rfl dX1_copyFrom_41 ?_
  refine gf_1_5 K h1 fl_X1_28 dX1_copyFrom_42 ?_
  refine pf_1_5 K h0 fl_X1_28 dX1_copyFrom_45 ?_
  refine v_st (fun u6 eu6 => ?_)
  have hf := lte_of eu6 hf
  refine v_aload_n K 0 rfl rfl dX1_copyFrom_48 ?_
  refine v_aload_n K 1 rfl rfl dX1_copyFrom_49 ?_
  refine gf_1_6 K h1 fl_X1_31 dX1_copyFrom_50 ?_
  refine pf_1_6 K h0 fl_X1_31 dX1_copyFrom_53 ?_
  refine v_st (fun u7 eu7 => ?_)
  have hf := lte_of eu7 hf
  refine v_aload_n K 0 rfl rfl dX1_copyFrom_56 ?_
  refine v_aload_n K 1 rfl rfl dX1_copyFrom_57 ?_
  refine gf_1_7 K h1 fl_X1_34 dX1_copyFrom_58 ?_
  refine pf_1_7 K h0 fl_X1_34 dX1_copyFrom_61 ?_
  refine v_st (fun u8 eu8 => ?_)
  have hf := lte_of eu8 hf
  refine v_aload_n K 1 rfl rfl dX1_copyFrom_64 ?_
  refine gf_1_8 K h1 fl_X1_9 dX1_copyFrom_65 ?_
  refine v_iconst K (v := 0) (by decide) dX1_copyFrom_68 ?_
  refine v_aload_n K 0 rfl rfl dX1_copyFrom_69 ?_
  refine gf_1_8 K h0 fl_X1_9 dX1_copyFrom_70 ?_
  refine v_iconst K (v := 0) (by decide) dX1_copyFrom_73 ?_
  refine v_bipush K (v := 6) (by decide) dX1_copyFrom_74 ?_
  obtain ⟨g10, hf⟩ := chk_of hf
  obtain ⟨g11, hf⟩ := chk_of hf
  obtain ⟨g12, hf⟩ := chk_of hf
  obtain ⟨g13, hf⟩ := chk_of hf
  obtain ⟨g14, hf⟩ := chk_of hf
  refine v_acopy K ml_X1_43 aw_1 aw_2 aw_3 (am0_9 (ak_1_8 h1)) (am0_9 (ak_1_8 h0)) (.inl (ak_1_8 h1)) (.inl (ak_1_8 h0)) g10 g11 g12 g13 g14 (by decide) (Nat.le_of_ble_eq_true rfl) dX1_copyFrom_76 ?_
  refine v_st (fun u9 eu9 => ?_)
  have hf := lte_of eu9 hf
  obtain ⟨rfl, rfl⟩ := pair_of hf
  exact v_vret K dX1_copyFrom_79
abbrev rm_X0_copyFrom : Room := { frames := 2, cells := 0, slots := 0, locals := 61 }
set_option maxRecDepth 20000 in
theorem t_X0_copyFrom_2 {M : Mx} {X : Wx} {N : Nat} {o0 : Nat} {o1 : Nat} (h0 : akd o0 = 0) (h1 : akd o1 = 0) {r : Unit} {u' : ASt} (K : OkM 0 M X cX0_copyFrom 3 RX0 rm_X0_copyFrom none) : ∀ (n : Nat) (x2 : Int32) (u : ASt), f_X0_copyFrom_2 N o0 o1 n x2 u = some (r, u') → V 0 M X (none, u') 3 2 [(0, .ref (X.2.1 o0)), (1, .ref (X.2.1 o1)), (2, .int x2)] [] u := by
  intro n
  induction n with
  | zero => intro x2 u hf; cases hf
  | succ n ih =>
    intro x2 u hf
    rw [f_X0_copyFrom_2] at hf
    refine v_iload_n K 2 rfl rfl dX0_copyFrom_2 ?_
    refine v_aload_n K 1 rfl rfl dX0_copyFrom_3 ?_
    refine gf_0_1 K h1 fl_X0_22 dX0_copyFrom_4 ?_
    refine v_icmp_ge K 31 (by decide) dX0_copyFrom_7 (fun c1 => ?_) (fun c1 => ?_)
    · have hf := ite_t c1 hf
      refine v_aload_n K 0 rfl rfl dX0_copyFrom_31 ?_
      refine v_aload_n K 1 rfl rfl dX0_copyFrom_32 ?_
      refine gf_0_1 K h1 fl_X0_22 dX0_copyFrom_33 ?_
      refine pf_0_1 K h0 fl_X0_22 dX0_copyFrom_36 ?_
      refine v_st (fun u2 eu2 => ?_)
      have hf := lte_of eu2 hf
      refine v_aload_n K 1 rfl rfl dX0_copyFrom_39 ?_
      refine gf_0_2 K h1 fl_X0_17 dX0_copyFrom_40 ?_
      refine v_iconst K (v := 0) (by decide) dX0_copyFrom_43 ?_
      refine v_aload_n K 0 rfl rfl dX0_copyFrom_44 ?_
      refine gf_0_2 K h0 fl_X0_17 dX0_copyFrom_45 ?_
      refine v_iconst K (v := 0) (by decide) dX0_copyFrom_48 ?_
      refine v_iconst K (v := 4) (by decide) dX0_copyFrom_49 ?_
      obtain ⟨g4, hf⟩ := chk_of hf
      obtain ⟨g5, hf⟩ := chk_of hf
      obtain ⟨g6, hf⟩ := chk_of hf
      obtain ⟨g7, hf⟩ := chk_of hf
      obtain ⟨g8, hf⟩ := chk_of hf
      refine v_acopy K ml_X0_30 aw_1 aw_2 aw_3 (am0_9 (ak_0_2 h1)) (am0_9 (ak_0_2 h0)) (.inl (ak_0_2 h1)) (.inl (ak_0_2 h0)) g4 g5 g6 g7 g8 (by decide) (Nat.le_of_ble_eq_true rfl) dX0_copyFrom_50 ?_
      refine v_st (fun u3 eu3 => ?_)
      have hf := lte_of eu3 hf
      refine v_aload_n K 0 rfl rfl dX0_copyFrom_53 ?_
      refine v_aload_n K 1 rfl rfl dX0_copyFrom_54 ?_
      refine gf_0_3 K h1 fl_X0_36 dX0_copyFrom_55 ?_
      refine pf_0_3 K h0 fl_X0_36 dX0_copyFrom_58 ?_
      refine v_st (fun u9 eu9 => ?_)
      have hf := lte_of eu9 hf
      refine v_aload_n K 0 rfl rfl dX0_copyFrom_61 ?_
      refine v_aload_n K 1 rfl rfl dX0_copyFrom_62 ?_
      refine gf_0_4 K h1 fl_X0_39 dX0_copyFrom_63 ?_
      refine pf_0_4 K h0 fl_X0_39 dX0_copyFrom_66 ?_
      refine v_st (fun u10 eu10 => ?_)
      have hf := lte_of eu10 hf
      refine v_aload_n K 0 rfl rfl dX0_copyFrom_69 ?_
      refine v_aload_n K 1 rfl rfl dX0_copyFrom_70 ?_
      refine gf_0_5 K h1 fl_X0_42 dX0_copyFrom_71 ?_
      refine pf_0_5 K h0 fl_X0_42 dX0_copyFrom_74 ?_
      refine v_st (fun u11 eu11 => ?_)
      have hf := lte_of eu11 hf
      refine v_aload_n K 0 rfl rfl dX0_copyFrom_77 ?_
      refine v_aload_n K 1 rfl rfl dX0_copyFrom_78 ?_
      refine gf_0_6 K h1 fl_X0_45 dX0_copyFrom_79 ?_
      refine pf_0_6 K h0 fl_X0_45 dX0_copyFrom_82 ?_
      refine v_st (fun u12 eu12 => ?_)
      have hf := lte_of eu12 hf
      obtain ⟨rfl, rfl⟩ := pair_of hf
      exact v_vret K dX0_copyFrom_85
    · have hf := ite_f c1 hf
      refine v_aload_n K 0 rfl rfl dX0_copyFrom_10 ?_
      refine gf_0_0 K h0 fl_X0_11 dX0_copyFrom_11 ?_
      refine v_iload_n K 2 rfl rfl dX0_copyFrom_14 ?_
      obtain ⟨g13, hf⟩ := chk_of hf
      refine v_aald K (am0_11 (ak_0_0 h0)) (.inr (ak_0_0 h0)) g13 dX0_copyFrom_15 ?_
      refine v_aload_n K 1 rfl rfl dX0_copyFrom_16 ?_
      refine gf_0_0 K h1 fl_X0_11 dX0_copyFrom_17 ?_
      refine v_iload_n K 2 rfl rfl dX0_copyFrom_20 ?_
      obtain ⟨g14, hf⟩ := chk_of hf
      refine v_aald K (am0_11 (ak_0_0 h1)) (.inr (ak_0_0 h1)) g14 dX0_copyFrom_21 ?_
      obtain ⟨r16, u15, e17, hf⟩ := bnd_of hf
      refine v_callVv K (c_X1_copyFrom (ae_11 (ak_0_0 h0) g13) (ae_11 (ak_0_0 h1) g14) e17) cv_X1_copyFrom ml_X0_26 (am0_1 (ae_11 (ak_0_0 h0) g13)) (ae_11 (ak_0_0 h0) g13) kdX1 ⟨rfl, rfl, Nat.le_of_ble_eq_true rfl, Nat.le_of_ble_eq_true rfl⟩ rfl rfl (Nat.le_of_ble_eq_true rfl) dX0_copyFrom_22 ?_
      refine v_iinc K 2 (v := x2 + 1) (ls' := [(2, .int (x2 + 1)), (0, .ref (X.2.1 o0)), (1, .ref (X.2.1 o1))]) rfl rfl (by decide) rfl dX0_copyFrom_25 ?_
      refine v_goto K 2 (by decide) dX0_copyFrom_28 ?_
      refine v_sub [1, 2, 0] rfl ?_
      exact ih (x2 + 1) u15 hf
set_option maxRecDepth 20000 in
theorem c_X0_copyFrom {X : Wx} {N : Nat} {o0 : Nat} {o1 : Nat} (h0 : akd o0 = 0) (h1 : akd o1 = 0) {u u' : ASt} {r : Unit} (hf : f_X0_copyFrom N o0 o1 u = some (r, u')) (l : Launch) : Met l yX0_copyFrom (ws_ yX0_copyFrom cX0_copyFrom 3 none) rm_X0_copyFrom (Pg 0 X u [.ref (X.2.1 o0), .ref (X.2.1 o1)]) (Qg 0 X (none) u') 0 0 (Aw 0 X) := by
  refine v_met (res := (none, u')) (by decide) (Nat.le_of_ble_eq_true rfl) (fun M K => ?_)
  have K : OkM 0 M X cX0_copyFrom 3 RX0 rm_X0_copyFrom none := K
  show V 0 M X (none, u') 3 0 [(0, .ref (X.2.1 o0)), (1, .ref (X.2.1 o1))] [] u
  unfold f_X0_copyFrom at hf
  refine v_iconst K (v := 0) (by decide) dX0_copyFrom_0 ?_
  refine v_istore_n K (ls' := [(2, .int 0), (0, .ref (X.2.1 o0)), (1, .ref (X.2.1 o1))]) rfl (by decide) rfl dX0_copyFrom_1 ?_
  refine v_sub [1, 2, 0] rfl ?_
  exact t_X0_copyFrom_2 h0 h1 K N 0 u hf
abbrev rm_X0_hasChip : Room := { frames := 0, cells := 0, slots := 0, locals := 0 }
set_option maxRecDepth 20000 in
theorem t_X0_hasChip_16 {M : Mx} {X : Wx} {N : Nat} {o0 : Nat} {p1 : Int32} (h0 : akd o0 = 0) {r : Int32} {u' : ASt} (K : OkM 0 M X cX0_hasChip 2 RX0 rm_X0_hasChip (some .boolean)) {u : ASt} (hf : f_X0_hasChip_16 N o0 p1  u = some (r, u')) : V 0 M X (some (.int r), u') 2 16 [] [] u := by
  unfold f_X0_hasChip_16 at hf
  refine v_iconst K (v := 0) (by decide) dX0_hasChip_16 ?_
  obtain ⟨rfl, rfl⟩ := pair_of hf
  exact v_zret K (by decide) dX0_hasChip_17
set_option maxRecDepth 20000 in
theorem c_X0_hasChip {X : Wx} {N : Nat} {o0 : Nat} {p1 : Int32} (h0 : akd o0 = 0) {u u' : ASt} {r : Int32} (hf : f_X0_hasChip N o0 p1 u = some (r, u')) (l : Launch) : Met l yX0_hasChip (ws_ yX0_hasChip cX0_hasChip 2 (some .boolean)) rm_X0_hasChip (Pg 0 X u [.ref (X.2.1 o0), .int p1]) (Qg 0 X (some (.int r)) u') 0 0 (Aw 0 X) := by
  refine v_met (res := (some (.int r), u')) (by decide) (Nat.le_of_ble_eq_true rfl) (fun M K => ?_)
  have K : OkM 0 M X cX0_hasChip 2 RX0 rm_X0_hasChip (some .boolean) := K
  show V 0 M X (some (.int r), u') 2 0 [(0, .ref (X.2.1 o0)), (1, .int p1)] [] u
  unfold f_X0_hasChip at hf
  refine v_iload_n K 1 rfl rfl dX0_hasChip_0 ?_
  refine v_if_lt K 16 (by decide) dX0_hasChip_1 (fun c1 => ?_) (fun c1 => ?_)
  · have hf := ite_t c1 hf
    refine v_sub [] rfl ?_
    exact t_X0_hasChip_16 h0 K hf
  · have hf := ite_f c1 hf
    refine v_iload_n K 1 rfl rfl dX0_hasChip_4 ?_
    refine v_aload_n K 0 rfl rfl dX0_hasChip_5 ?_
    refine gf_0_1 K h0 fl_X0_22 dX0_hasChip_6 ?_
    refine v_icmp_ge K 16 (by decide) dX0_hasChip_9 (fun c2 => ?_) (fun c2 => ?_)
    · have hf := ite_t c2 hf
      refine v_sub [] rfl ?_
      exact t_X0_hasChip_16 h0 K hf
    · have hf := ite_f c2 hf
      refine v_iconst K (v := 1) (by decide) dX0_hasChip_12 ?_
      refine v_goto K 17 (by decide) dX0_hasChip_13 ?_
      obtain ⟨rfl, rfl⟩ := pair_of hf
      exact v_zret K (by decide) dX0_hasChip_17
abbrev rm_X0_hasCell : Room := { frames := 1, cells := 0, slots := 0, locals := 21 }
set_option maxRecDepth 20000 in
theorem t_X0_hasCell_29 {M : Mx} {X : Wx} {N : Nat} {o0 : Nat} {p1 : Int32} {p2 : Int32} (h0 : akd o0 = 0) {r : Int32} {u' : ASt} (K : OkM 0 M X cX0_hasCell 3 RX0 rm_X0_hasCell (some .boolean)) {u : ASt} (hf : f_X0_hasCell_29 N o0 p1 p2  u = some (r, u')) : V 0 M X (some (.int r), u') 3 29 [] [] u := by
  unfold f_X0_hasCell_29 at hf
  refine v_iconst K (v := 0) (by decide) dX0_hasCell_29 ?_
  obtain ⟨rfl, rfl⟩ := pair_of hf
  exact v_zret K (by decide) dX0_hasCell_30
set_option maxRecDepth 20000 in
theorem c_X0_hasCell {X : Wx} {N : Nat} {o0 : Nat} {p1 : Int32} {p2 : Int32} (h0 : akd o0 = 0) {u u' : ASt} {r : Int32} (hf : f_X0_hasCell N o0 p1 p2 u = some (r, u')) (l : Launch) : Met l yX0_hasCell (ws_ yX0_hasCell cX0_hasCell 3 (some .boolean)) rm_X0_hasCell (Pg 0 X u [.ref (X.2.1 o0), .int p1, .int p2]) (Qg 0 X (some (.int r)) u') 0 0 (Aw 0 X) := by
  refine v_met (res := (some (.int r), u')) (by decide) (Nat.le_of_ble_eq_true rfl) (fun M K => ?_)
  have K : OkM 0 M X cX0_hasCell 3 RX0 rm_X0_hasCell (some .boolean) := K
  show V 0 M X (some (.int r), u') 3 0 [(0, .ref (X.2.1 o0)), (1, .int p1), (2, .int p2)] [] u
  unfold f_X0_hasCell at hf
  refine v_aload_n K 0 rfl rfl dX0_hasCell_0 ?_
  refine v_iload_n K 1 rfl rfl dX0_hasCell_1 ?_
  obtain ⟨r2, u1, e3, hf⟩ := bnd_of hf
  refine v_callVi K (c_X0_hasChip h0 e3) cv_X0_hasChip ml_X0_48 (am0_0 h0) h0 kdX0 ⟨rfl, rfl, Nat.le_of_ble_eq_true rfl, Nat.le_of_ble_eq_true rfl⟩ rfl rfl (Nat.le_of_ble_eq_true rfl) dX0_hasCell_2 ?_
  refine v_if_eq K 29 (by decide) dX0_hasCell_5 (fun c4 => ?_) (fun c4 => ?_)
  · have hf := ite_t c4 hf
    refine v_sub [] rfl ?_
    exact t_X0_hasCell_29 h0 K hf
  · have hf := ite_f c4 hf
    refine v_iload_n K 2 rfl rfl dX0_hasCell_8 ?_
    refine v_if_lt K 29 (by decide) dX0_hasCell_9 (fun c5 => ?_) (fun c5 => ?_)
    · have hf := ite_t c5 hf
      refine v_sub [] rfl ?_
      exact t_X0_hasCell_29 h0 K hf
    · have hf := ite_f c5 hf
      refine v_iload_n K 2 rfl rfl dX0_hasCell_12 ?_
      refine v_aload_n K 0 rfl rfl dX0_hasCell_13 ?_
      refine gf_0_0 K h0 fl_X0_11 dX0_hasCell_14 ?_
      refine v_iload_n K 1 rfl rfl dX0_hasCell_17 ?_
      obtain ⟨g6, hf⟩ := chk_of hf
      refine v_aald K (am0_11 (ak_0_0 h0)) (.inr (ak_0_0 h0)) g6 dX0_hasCell_18 ?_
      refine gf_1_6 K (ae_11 (ak_0_0 h0) g6) fl_X0_52 dX0_hasCell_19 ?_
      refine v_icmp_ge K 29 (by decide) dX0_hasCell_22 (fun c7 => ?_) (fun c7 => ?_)
      · have hf := ite_t c7 hf
        refine v_sub [] rfl ?_
        exact t_X0_hasCell_29 h0 K hf
      · have hf := ite_f c7 hf
        refine v_iconst K (v := 1) (by decide) dX0_hasCell_25 ?_
        refine v_goto K 30 (by decide) dX0_hasCell_26 ?_
        obtain ⟨rfl, rfl⟩ := pair_of hf
        exact v_zret K (by decide) dX0_hasCell_30
abbrev rm_X1_reset : Room := { frames := 0, cells := 0, slots := 0, locals := 0 }
set_option maxRecDepth 20000 in
theorem t_X1_reset_23 {M : Mx} {X : Wx} {N : Nat} {o0 : Nat} (h0 : akd o0 = 1) {r : Unit} {u' : ASt} (K : OkM 0 M X cX1_reset 1 RX1 rm_X1_reset none) {c0 : Nat} {y1 : Int32} (hc0 : akd c0 = 1) {u : ASt} (hf : f_X1_reset_23 N o0 c0 y1 u = some (r, u')) : V 0 M X (none, u') 1 23 [] [.int y1, .ref (X.2.1 c0)] u := by
  unfold f_X1_reset_23 at hf
  refine pf_1_2 K hc0 fl_X1_40 dX1_reset_23 ?_
  refine v_st (fun u1 eu1 => ?_)
  have hf := lte_of eu1 hf
  obtain ⟨rfl, rfl⟩ := pair_of hf
  exact v_vret K dX1_reset_26
set_option maxRecDepth 20000 in
theorem c_X1_reset {X : Wx} {N : Nat} {o0 : Nat} (h0 : akd o0 = 1) {u u' : ASt} {r : Unit} (hf : f_X1_reset N o0 u = some (r, u')) (l : Launch) : Met l yX1_reset (ws_ yX1_reset cX1_reset 1 none) rm_X1_reset (Pg 0 X u [.ref (X.2.1 o0)]) (Qg 0 X (none) u') 0 0 (Aw 0 X) := by
  refine v_met (res := (none, u')) (by decide) (Nat.le_of_ble_eq_true rfl) (fun M K => ?_)
  have K : OkM 0 M X cX1_reset 1 RX1 rm_X1_reset none := K
  show V 0 M X (none, u') 1 0 [(0, .ref (X.2.1 o0))] [] u
  unfold f_X1_reset at hf
  refine v_aload_n K 0 rfl rfl dX1_reset_0 ?_
  refine v_aload_n K 0 rfl rfl dX1_reset_1 ?_
  refine gf_1_1 K h0 fl_X1_19 dX1_reset_2 ?_
  refine v_sipush K (v := 256) (by decide) dX1_reset_5 ?_
  refine v_icmp_ne K 22 (by decide) dX1_reset_8 (fun c2 => ?_) (fun c2 => ?_)
  · have hf := ite_f c2 hf
    refine v_iconst K (v := 2) (by decide) dX1_reset_22 ?_
    refine v_sub [] rfl ?_
    exact t_X1_reset_23 h0 K h0 hf
  · have hf := ite_t c2 hf
    refine v_iconst K (v := 1) (by decide) dX1_reset_11 ?_
    refine v_aload_n K 0 rfl rfl dX1_reset_12 ?_
    refine gf_1_0 K h0 fl_X1_15 dX1_reset_13 ?_
    refine v_ishl K dX1_reset_16 ?_
    refine v_iconst K (v := 1) (by decide) dX1_reset_17 ?_
    refine v_isub K dX1_reset_18 ?_
    refine v_goto K 23 (by decide) dX1_reset_19 ?_
    refine v_sub [] rfl ?_
    exact t_X1_reset_23 h0 K h0 hf
abbrev rm_X1_begin : Room := { frames := 1, cells := 0, slots := 0, locals := 20 }
set_option maxRecDepth 20000 in
theorem c_X1_begin {X : Wx} {N : Nat} {o0 : Nat} {p1 : Int32} {p2 : Int32} (h0 : akd o0 = 1) {u u' : ASt} {r : Unit} (hf : f_X1_begin N o0 p1 p2 u = some (r, u')) (l : Launch) : Met l yX1_begin (ws_ yX1_begin cX1_begin 3 none) rm_X1_begin (Pg 0 X u [.ref (X.2.1 o0), .int p1, .int p2]) (Qg 0 X (none) u') 0 0 (Aw 0 X) := by
  refine v_met (res := (none, u')) (by decide) (Nat.le_of_ble_eq_true rfl) (fun M K => ?_)
  have K : OkM 0 M X cX1_begin 3 RX1 rm_X1_begin none := K
  show V 0 M X (none, u') 3 0 [(0, .ref (X.2.1 o0)), (1, .int p1), (2, .int p2)] [] u
  unfold f_X1_begin at hf
  refine v_aload_n K 0 rfl rfl dX1_begin_0 ?_
  refine v_iload_n K 1 rfl rfl dX1_begin_1 ?_
  refine pf_1_0 K h0 fl_X1_15 dX1_begin_2 ?_
  refine v_st (fun u1 eu1 => ?_)
  have hf := lte_of eu1 hf
  refine v_aload_n K 0 rfl rfl dX1_begin_5 ?_
  refine v_iload_n K 2 rfl rfl dX1_begin_6 ?_
  refine pf_1_1 K h0 fl_X1_19 dX1_begin_7 ?_
  refine v_st (fun u2 eu2 => ?_)
  have hf := lte_of eu2 hf
  refine v_aload_n K 0 rfl rfl dX1_begin_10 ?_
  refine v_iconst K (v := 0) (by decide) dX1_begin_11 ?_
  refine pf_1_3 K h0 fl_X1_22 dX1_begin_12 ?_
  refine v_st (fun u3 eu3 => ?_)
  have hf := lte_of eu3 hf
  refine v_aload_n K 0 rfl rfl dX1_begin_15 ?_
  refine v_iconst K (v := 0) (by decide) dX1_begin_16 ?_
  refine pf_1_4 K h0 fl_X1_25 dX1_begin_17 ?_
  refine v_st (fun u4 eu4 => ?_)
  have hf := lte_of eu4 hf
  refine v_aload_n K 0 rfl rfl dX1_begin_20 ?_
  refine v_iconst K (v := 0) (by decide) dX1_begin_21 ?_
  refine pf_1_5 K h0 fl_X1_28 dX1_begin_22 ?_
  refine v_st (fun u5 eu5 => ?_)
  have hf := lte_of eu5 hf
  refine v_aload_n K 0 rfl rfl dX1_begin_25 ?_
  refine v_iconst K (v := 0) (by decide) dX1_begin_26 ?_
  refine pf_1_6 K h0 fl_X1_31 dX1_begin_27 ?_
  refine v_st (fun u6 eu6 => ?_)
  have hf := lte_of eu6 hf
  refine v_aload_n K 0 rfl rfl dX1_begin_30 ?_
  refine v_iconst K (v := 0) (by decide) dX1_begin_31 ?_
  refine pf_1_7 K h0 fl_X1_34 dX1_begin_32 ?_
  refine v_st (fun u7 eu7 => ?_)
  have hf := lte_of eu7 hf
  refine v_aload_n K 0 rfl rfl dX1_begin_35 ?_
  obtain ⟨r9, u8, e10, hf⟩ := bnd_of hf
  refine v_callVv K (c_X1_reset h0 e10) cv_X1_reset ml_X1_37 (am0_1 h0) h0 kdX1 ⟨rfl, rfl, Nat.le_of_ble_eq_true rfl, Nat.le_of_ble_eq_true rfl⟩ rfl rfl (Nat.le_of_ble_eq_true rfl) dX1_begin_36 ?_
  obtain ⟨rfl, rfl⟩ := pair_of hf
  exact v_vret K dX1_begin_39
abbrev rm_X0_addChip : Room := { frames := 2, cells := 0, slots := 0, locals := 42 }
set_option maxRecDepth 20000 in
theorem t_X0_addChip_21 {M : Mx} {X : Wx} {N : Nat} {o0 : Nat} {p1 : Int32} {p2 : Int32} (h0 : akd o0 = 0) {r : Int32} {u' : ASt} (K : OkM 0 M X cX0_addChip 3 RX0 rm_X0_addChip (some .int)) {u : ASt} (hf : f_X0_addChip_21 N o0 p1 p2  u = some (r, u')) : V 0 M X (some (.int r), u') 3 21 [] [] u := by
  unfold f_X0_addChip_21 at hf
  refine v_bipush K (v := (-2)) (by decide) dX0_addChip_21 ?_
  obtain ⟨rfl, rfl⟩ := pair_of hf
  exact v_iret K dX0_addChip_23
set_option maxRecDepth 20000 in
theorem c_X0_addChip {X : Wx} {N : Nat} {o0 : Nat} {p1 : Int32} {p2 : Int32} (h0 : akd o0 = 0) {u u' : ASt} {r : Int32} (hf : f_X0_addChip N o0 p1 p2 u = some (r, u')) (l : Launch) : Met l yX0_addChip (ws_ yX0_addChip cX0_addChip 3 (some .int)) rm_X0_addChip (Pg 0 X u [.ref (X.2.1 o0), .int p1, .int p2]) (Qg 0 X (some (.int r)) u') 0 0 (Aw 0 X) := by
  refine v_met (res := (some (.int r), u')) (by decide) (Nat.le_of_ble_eq_true rfl) (fun M K => ?_)
  have K : OkM 0 M X cX0_addChip 3 RX0 rm_X0_addChip (some .int) := K
  show V 0 M X (some (.int r), u') 3 0 [(0, .ref (X.2.1 o0)), (1, .int p1), (2, .int p2)] [] u
  unfold f_X0_addChip at hf
  refine v_iload_n K 1 rfl rfl dX0_addChip_0 ?_
  refine v_iconst K (v := 2) (by decide) dX0_addChip_1 ?_
  refine v_icmp_lt K 21 (by decide) dX0_addChip_2 (fun c1 => ?_) (fun c1 => ?_)
  · have hf := ite_t c1 hf
    refine v_sub [] rfl ?_
    exact t_X0_addChip_21 h0 K hf
  · have hf := ite_f c1 hf
    refine v_iload_n K 1 rfl rfl dX0_addChip_5 ?_
    refine v_iconst K (v := 4) (by decide) dX0_addChip_6 ?_
    refine v_icmp_gt K 21 (by decide) dX0_addChip_7 (fun c2 => ?_) (fun c2 => ?_)
    · have hf := ite_t c2 hf
      refine v_sub [] rfl ?_
      exact t_X0_addChip_21 h0 K hf
    · have hf := ite_f c2 hf
      refine v_iload_n K 2 rfl rfl dX0_addChip_10 ?_
      refine v_if_lt K 21 (by decide) dX0_addChip_11 (fun c3 => ?_) (fun c3 => ?_)
      · have hf := ite_t c3 hf
        refine v_sub [] rfl ?_
        exact t_X0_addChip_21 h0 K hf
      · have hf := ite_f c3 hf
        refine v_iload_n K 2 rfl rfl dX0_addChip_14 ?_
        refine v_sipush K (v := 256) (by decide) dX0_addChip_15 ?_
        refine v_icmp_le K 24 (by decide) dX0_addChip_18 (fun c4 => ?_) (fun c4 => ?_)
        · have hf := ite_t c4 hf
          refine v_aload_n K 0 rfl rfl dX0_addChip_24 ?_
          refine gf_0_1 K h0 fl_X0_22 dX0_addChip_25 ?_
          refine v_iconst K (v := 4) (by decide) dX0_addChip_28 ?_
          refine v_icmp_lt K 35 (by decide) dX0_addChip_29 (fun c5 => ?_) (fun c5 => ?_)
          · have hf := ite_t c5 hf
            refine v_aload_n K 0 rfl rfl dX0_addChip_35 ?_
            refine gf_0_0 K h0 fl_X0_11 dX0_addChip_36 ?_
            refine v_aload_n K 0 rfl rfl dX0_addChip_39 ?_
            refine gf_0_1 K h0 fl_X0_22 dX0_addChip_40 ?_
            obtain ⟨g6, hf⟩ := chk_of hf
            refine v_aald K (am0_11 (ak_0_0 h0)) (.inr (ak_0_0 h0)) g6 dX0_addChip_43 ?_
            refine v_iload_n K 1 rfl rfl dX0_addChip_44 ?_
            refine v_iload_n K 2 rfl rfl dX0_addChip_45 ?_
            obtain ⟨r8, u7, e9, hf⟩ := bnd_of hf
            refine v_callVv K (c_X1_begin (ae_11 (ak_0_0 h0) g6) e9) cv_X1_begin ml_X0_55 (am0_1 (ae_11 (ak_0_0 h0) g6)) (ae_11 (ak_0_0 h0) g6) kdX1 ⟨rfl, rfl, Nat.le_of_ble_eq_true rfl, Nat.le_of_ble_eq_true rfl⟩ rfl rfl (Nat.le_of_ble_eq_true rfl) dX0_addChip_46 ?_
            refine v_aload_n K 0 rfl rfl dX0_addChip_49 ?_
            refine v_dup K rfl dX0_addChip_50 ?_
            refine gf_0_1 K h0 fl_X0_22 dX0_addChip_51 ?_
            refine v_iconst K (v := 1) (by decide) dX0_addChip_54 ?_
            refine v_iadd K dX0_addChip_55 ?_
            refine pf_0_1 K h0 fl_X0_22 dX0_addChip_56 ?_
            refine v_st (fun u10 eu10 => ?_)
            have hf := lte_of eu10 hf
            refine v_aload_n K 0 rfl rfl dX0_addChip_59 ?_
            refine gf_0_1 K h0 fl_X0_22 dX0_addChip_60 ?_
            refine v_iconst K (v := 1) (by decide) dX0_addChip_63 ?_
            refine v_isub K dX0_addChip_64 ?_
            obtain ⟨rfl, rfl⟩ := pair_of hf
            exact v_iret K dX0_addChip_65
          · have hf := ite_f c5 hf
            refine v_bipush K (v := (-4)) (by decide) dX0_addChip_32 ?_
            obtain ⟨rfl, rfl⟩ := pair_of hf
            exact v_iret K dX0_addChip_34
        · have hf := ite_f c4 hf
          refine v_sub [] rfl ?_
          exact t_X0_addChip_21 h0 K hf
abbrev rm_X6_isBit : Room := { frames := 0, cells := 0, slots := 0, locals := 0 }
set_option maxRecDepth 20000 in
theorem t_X6_isBit_9 {M : Mx} {X : Wx} {N : Nat} {p1 : Int32} {r : Int32} {u' : ASt} (K : OkM 0 M X cX6_isBit 1 RX6 rm_X6_isBit (some .boolean)) {u : ASt} (hf : f_X6_isBit_9 N p1  u = some (r, u')) : V 0 M X (some (.int r), u') 1 9 [] [] u := by
  unfold f_X6_isBit_9 at hf
  refine v_iconst K (v := 1) (by decide) dX6_isBit_9 ?_
  refine v_goto K 14 (by decide) dX6_isBit_10 ?_
  obtain ⟨rfl, rfl⟩ := pair_of hf
  exact v_zret K (by decide) dX6_isBit_14
set_option maxRecDepth 20000 in
theorem c_X6_isBit {X : Wx} {N : Nat} {p1 : Int32} {u u' : ASt} {r : Int32} (hf : f_X6_isBit N p1 u = some (r, u')) (l : Launch) : Met l yX6_isBit (ws_ yX6_isBit cX6_isBit 1 (some .boolean)) rm_X6_isBit (Pg 0 X u [.int p1]) (Qg 0 X (some (.int r)) u') 0 0 (Aw 0 X) := by
  refine v_met (res := (some (.int r), u')) (by decide) (Nat.le_of_ble_eq_true rfl) (fun M K => ?_)
  have K : OkM 0 M X cX6_isBit 1 RX6 rm_X6_isBit (some .boolean) := K
  show V 0 M X (some (.int r), u') 1 0 [(0, .int p1)] [] u
  unfold f_X6_isBit at hf
  refine v_iload_n K 0 rfl rfl dX6_isBit_0 ?_
  refine v_if_eq K 9 (by decide) dX6_isBit_1 (fun c1 => ?_) (fun c1 => ?_)
  · have hf := ite_t c1 hf
    refine v_sub [] rfl ?_
    exact t_X6_isBit_9 K hf
  · have hf := ite_f c1 hf
    refine v_iload_n K 0 rfl rfl dX6_isBit_4 ?_
    refine v_iconst K (v := 1) (by decide) dX6_isBit_5 ?_
    refine v_icmp_ne K 13 (by decide) dX6_isBit_6 (fun c2 => ?_) (fun c2 => ?_)
    · have hf := ite_f c2 hf
      refine v_iconst K (v := 0) (by decide) dX6_isBit_13 ?_
      obtain ⟨rfl, rfl⟩ := pair_of hf
      exact v_zret K (by decide) dX6_isBit_14
    · have hf := ite_t c2 hf
      refine v_sub [] rfl ?_
      exact t_X6_isBit_9 K hf
abbrev rm_X6_isNet : Room := { frames := 0, cells := 0, slots := 0, locals := 0 }
set_option maxRecDepth 20000 in
theorem t_X6_isNet_14 {M : Mx} {X : Wx} {N : Nat} {p1 : Int32} {r : Int32} {u' : ASt} (K : OkM 0 M X cX6_isNet 1 RX6 rm_X6_isNet (some .boolean)) {u : ASt} (hf : f_X6_isNet_14 N p1  u = some (r, u')) : V 0 M X (some (.int r), u') 1 14 [] [] u := by
  unfold f_X6_isNet_14 at hf
  refine v_iconst K (v := 0) (by decide) dX6_isNet_14 ?_
  obtain ⟨rfl, rfl⟩ := pair_of hf
  exact v_zret K (by decide) dX6_isNet_15
set_option maxRecDepth 20000 in
theorem c_X6_isNet {X : Wx} {N : Nat} {p1 : Int32} {u u' : ASt} {r : Int32} (hf : f_X6_isNet N p1 u = some (r, u')) (l : Launch) : Met l yX6_isNet (ws_ yX6_isNet cX6_isNet 1 (some .boolean)) rm_X6_isNet (Pg 0 X u [.int p1]) (Qg 0 X (some (.int r)) u') 0 0 (Aw 0 X) := by
  refine v_met (res := (some (.int r), u')) (by decide) (Nat.le_of_ble_eq_true rfl) (fun M K => ?_)
  have K : OkM 0 M X cX6_isNet 1 RX6 rm_X6_isNet (some .boolean) := K
  show V 0 M X (some (.int r), u') 1 0 [(0, .int p1)] [] u
  unfold f_X6_isNet at hf
  refine v_iload_n K 0 rfl rfl dX6_isNet_0 ?_
  refine v_if_lt K 14 (by decide) dX6_isNet_1 (fun c1 => ?_) (fun c1 => ?_)
  · have hf := ite_t c1 hf
    refine v_sub [] rfl ?_
    exact t_X6_isNet_14 K hf
  · have hf := ite_f c1 hf
    refine v_iload_n K 0 rfl rfl dX6_isNet_4 ?_
    refine v_bipush K (v := 8) (by decide) dX6_isNet_5 ?_
    refine v_icmp_ge K 14 (by decide) dX6_isNet_7 (fun c2 => ?_) (fun c2 => ?_)
    · have hf := ite_t c2 hf
      refine v_sub [] rfl ?_
      exact t_X6_isNet_14 K hf
    · have hf := ite_f c2 hf
      refine v_iconst K (v := 1) (by decide) dX6_isNet_10 ?_
      refine v_goto K 15 (by decide) dX6_isNet_11 ?_
      obtain ⟨rfl, rfl⟩ := pair_of hf
      exact v_zret K (by decide) dX6_isNet_15
abbrev rm_X1_addCell : Room := { frames := 0, cells := 0, slots := 0, locals := 0 }
set_option maxRecDepth 20000 in
theorem c_X1_addCell {X : Wx} {N : Nat} {o0 : Nat} {p1 : Int32} {p2 : Int32} (h0 : akd o0 = 1) {u u' : ASt} {r : Int32} (hf : f_X1_addCell N o0 p1 p2 u = some (r, u')) (l : Launch) : Met l yX1_addCell (ws_ yX1_addCell cX1_addCell 4 (some .int)) rm_X1_addCell (Pg 0 X u [.ref (X.2.1 o0), .int p1, .int p2]) (Qg 0 X (some (.int r)) u') 0 0 (Aw 0 X) := by
  refine v_met (res := (some (.int r), u')) (by decide) (Nat.le_of_ble_eq_true rfl) (fun M K => ?_)
  have K : OkM 0 M X cX1_addCell 4 RX1 rm_X1_addCell (some .int) := K
  show V 0 M X (some (.int r), u') 4 0 [(0, .ref (X.2.1 o0)), (1, .int p1), (2, .int p2)] [] u
  unfold f_X1_addCell at hf
  refine v_aload_n K 0 rfl rfl dX1_addCell_0 ?_
  refine gf_1_6 K h0 fl_X1_31 dX1_addCell_1 ?_
  refine v_bipush K (v := 6) (by decide) dX1_addCell_4 ?_
  refine v_icmp_lt K 12 (by decide) dX1_addCell_6 (fun c1 => ?_) (fun c1 => ?_)
  · have hf := ite_t c1 hf
    refine v_aload_n K 0 rfl rfl dX1_addCell_12 ?_
    refine gf_1_6 K h0 fl_X1_31 dX1_addCell_13 ?_
    refine v_topi (fun z2 ez2 => ?_)
    have hf := lte_of ez2 hf
    refine v_istore_n K (ls' := [(3, .int z2), (0, .ref (X.2.1 o0)), (1, .int p1), (2, .int p2)]) rfl (by decide) rfl dX1_addCell_16 ?_
    refine v_aload_n K 1 rfl rfl dX1_addCell_17 ?_
    refine gf_1_8 K h0 fl_X1_9 dX1_addCell_18 ?_
    refine v_iload_n K 0 rfl rfl dX1_addCell_21 ?_
    refine v_iload_n K 3 rfl rfl dX1_addCell_22 ?_
    obtain ⟨g3, hf⟩ := chk_of hf
    refine v_iast K (am0_9 (ak_1_8 h0)) (.inl (ak_1_8 h0)) g3 dX1_addCell_23 ?_
    refine v_st (fun u4 eu4 => ?_)
    have hf := lte_of eu4 hf
    refine v_aload_n K 1 rfl rfl dX1_addCell_24 ?_
    refine v_dup K rfl dX1_addCell_25 ?_
    refine gf_1_7 K h0 fl_X1_34 dX1_addCell_26 ?_
    refine v_iload_n K 2 rfl rfl dX1_addCell_29 ?_
    refine v_iload_n K 0 rfl rfl dX1_addCell_30 ?_
    refine v_ishl K dX1_addCell_31 ?_
    refine v_ior K dX1_addCell_32 ?_
    refine pf_1_7 K h0 fl_X1_34 dX1_addCell_33 ?_
    refine v_st (fun u5 eu5 => ?_)
    have hf := lte_of eu5 hf
    refine v_aload_n K 1 rfl rfl dX1_addCell_36 ?_
    refine v_dup K rfl dX1_addCell_37 ?_
    refine gf_1_6 K h0 fl_X1_31 dX1_addCell_38 ?_
    refine v_iconst K (v := 1) (by decide) dX1_addCell_41 ?_
    refine v_iadd K dX1_addCell_42 ?_
    refine pf_1_6 K h0 fl_X1_31 dX1_addCell_43 ?_
    refine v_st (fun u6 eu6 => ?_)
    have hf := lte_of eu6 hf
    refine v_iload_n K 0 rfl rfl dX1_addCell_46 ?_
    obtain ⟨rfl, rfl⟩ := pair_of hf
    exact v_iret K dX1_addCell_47
  · have hf := ite_f c1 hf
    refine v_bipush K (v := (-4)) (by decide) dX1_addCell_9 ?_
    obtain ⟨rfl, rfl⟩ := pair_of hf
    exact v_iret K dX1_addCell_11
abbrev rm_X0_addCell : Room := { frames := 1, cells := 0, slots := 0, locals := 23 }
set_option maxRecDepth 20000 in
theorem t_X0_addCell_67 {M : Mx} {X : Wx} {N : Nat} {o0 : Nat} {p1 : Int32} {p2 : Int32} {p3 : Int32} (h0 : akd o0 = 0) {r : Int32} {u' : ASt} (K : OkM 0 M X cX0_addCell 5 RX0 rm_X0_addCell (some .int)) {x4 : Int32} {u : ASt} (hf : f_X0_addCell_67 N o0 p1 p2 p3 x4 u = some (r, u')) : V 0 M X (some (.int r), u') 5 67 [(4, .int x4)] [] u := by
  unfold f_X0_addCell_67 at hf
  refine v_iload K 0 rfl dX0_addCell_67 ?_
  obtain ⟨rfl, rfl⟩ := pair_of hf
  exact v_iret K dX0_addCell_69
set_option maxRecDepth 20000 in
theorem t_X0_addCell_22 {M : Mx} {X : Wx} {N : Nat} {o0 : Nat} {p1 : Int32} {p2 : Int32} {p3 : Int32} (h0 : akd o0 = 0) {r : Int32} {u' : ASt} (K : OkM 0 M X cX0_addCell 5 RX0 rm_X0_addCell (some .int)) {u : ASt} (hf : f_X0_addCell_22 N o0 p1 p2 p3  u = some (r, u')) : V 0 M X (some (.int r), u') 5 22 [] [] u := by
  unfold f_X0_addCell_22 at hf
  refine v_bipush K (v := (-2)) (by decide) dX0_addCell_22 ?_
  obtain ⟨rfl, rfl⟩ := pair_of hf
  exact v_iret K dX0_addCell_24
set_option maxRecDepth 20000 in
theorem c_X0_addCell {X : Wx} {N : Nat} {o0 : Nat} {p1 : Int32} {p2 : Int32} {p3 : Int32} (h0 : akd o0 = 0) {u u' : ASt} {r : Int32} (hf : f_X0_addCell N o0 p1 p2 p3 u = some (r, u')) (l : Launch) : Met l yX0_addCell (ws_ yX0_addCell cX0_addCell 5 (some .int)) rm_X0_addCell (Pg 0 X u [.ref (X.2.1 o0), .int p1, .int p2, .int p3]) (Qg 0 X (some (.int r)) u') 0 0 (Aw 0 X) := by
  refine v_met (res := (some (.int r), u')) (by decide) (Nat.le_of_ble_eq_true rfl) (fun M K => ?_)
  have K : OkM 0 M X cX0_addCell 5 RX0 rm_X0_addCell (some .int) := K
  show V 0 M X (some (.int r), u') 5 0 [(0, .ref (X.2.1 o0)), (1, .int p1), (2, .int p2), (3, .int p3)] [] u
  unfold f_X0_addCell at hf
  refine v_aload_n K 0 rfl rfl dX0_addCell_0 ?_
  refine v_iload_n K 1 rfl rfl dX0_addCell_1 ?_
  obtain ⟨r2, u1, e3, hf⟩ := bnd_of hf
  refine v_callVi K (c_X0_hasChip h0 e3) cv_X0_hasChip ml_X0_48 (am0_0 h0) h0 kdX0 ⟨rfl, rfl, Nat.le_of_ble_eq_true rfl, Nat.le_of_ble_eq_true rfl⟩ rfl rfl (Nat.le_of_ble_eq_true rfl) dX0_addCell_2 ?_
  refine v_if_eq K 22 (by decide) dX0_addCell_5 (fun c4 => ?_) (fun c4 => ?_)
  · have hf := ite_t c4 hf
    refine v_sub [] rfl ?_
    exact t_X0_addCell_22 h0 K hf
  · have hf := ite_f c4 hf
    refine v_iload_n K 2 rfl rfl dX0_addCell_8 ?_
    obtain ⟨r6, u5, e7, hf⟩ := bnd_of hf
    refine v_callNi K (c_X6_isBit e7) cv_X6_isBit (List.mem_of_getElem? (i := 0) rfl) ⟨rfl, rfl, Nat.le_of_ble_eq_true rfl, Nat.le_of_ble_eq_true rfl⟩ rfl rfl (Nat.le_of_ble_eq_true rfl) dX0_addCell_9 ?_
    refine v_if_eq K 22 (by decide) dX0_addCell_12 (fun c8 => ?_) (fun c8 => ?_)
    · have hf := ite_t c8 hf
      refine v_sub [] rfl ?_
      exact t_X0_addCell_22 h0 K hf
    · have hf := ite_f c8 hf
      refine v_iload_n K 3 rfl rfl dX0_addCell_15 ?_
      obtain ⟨r10, u9, e11, hf⟩ := bnd_of hf
      refine v_callNi K (c_X6_isNet e11) cv_X6_isNet (List.mem_of_getElem? (i := 1) rfl) ⟨rfl, rfl, Nat.le_of_ble_eq_true rfl, Nat.le_of_ble_eq_true rfl⟩ rfl rfl (Nat.le_of_ble_eq_true rfl) dX0_addCell_16 ?_
      refine v_if_ne K 25 (by decide) dX0_addCell_19 (fun c12 => ?_) (fun c12 => ?_)
      · have hf := ite_f c12 hf
        refine v_aload_n K 0 rfl rfl dX0_addCell_25 ?_
        refine gf_0_0 K h0 fl_X0_11 dX0_addCell_26 ?_
        refine v_iload_n K 1 rfl rfl dX0_addCell_29 ?_
        obtain ⟨g13, hf⟩ := chk_of hf
        refine v_aald K (am0_11 (ak_0_0 h0)) (.inr (ak_0_0 h0)) g13 dX0_addCell_30 ?_
        refine v_iload_n K 2 rfl rfl dX0_addCell_31 ?_
        refine v_iload_n K 3 rfl rfl dX0_addCell_32 ?_
        obtain ⟨r15, u14, e16, hf⟩ := bnd_of hf
        refine v_callVi K (c_X1_addCell (ae_11 (ak_0_0 h0) g13) e16) cv_X1_addCell ml_X0_65 (am0_1 (ae_11 (ak_0_0 h0) g13)) (ae_11 (ak_0_0 h0) g13) kdX1 ⟨rfl, rfl, Nat.le_of_ble_eq_true rfl, Nat.le_of_ble_eq_true rfl⟩ rfl rfl (Nat.le_of_ble_eq_true rfl) dX0_addCell_33 ?_
        refine v_istore K (ls' := [(4, .int r15), (0, .ref (X.2.1 o0)), (1, .int p1), (2, .int p2), (3, .int p3)]) (by decide) rfl dX0_addCell_36 ?_
        refine v_iload K 0 rfl dX0_addCell_38 ?_
        refine v_if_lt K 67 (by decide) dX0_addCell_40 (fun c17 => ?_) (fun c17 => ?_)
        · have hf := ite_t c17 hf
          refine v_sub [0] rfl ?_
          exact t_X0_addCell_67 h0 K hf
        · have hf := ite_f c17 hf
          refine v_aload_n K 1 rfl rfl dX0_addCell_43 ?_
          refine v_dup K rfl dX0_addCell_44 ?_
          refine gf_0_5 K h0 fl_X0_42 dX0_addCell_45 ?_
          refine v_iconst K (v := 1) (by decide) dX0_addCell_48 ?_
          refine v_iload_n K 4 rfl rfl dX0_addCell_49 ?_
          refine v_ishl K dX0_addCell_50 ?_
          refine v_ior K dX0_addCell_51 ?_
          refine pf_0_5 K h0 fl_X0_42 dX0_addCell_52 ?_
          refine v_st (fun u18 eu18 => ?_)
          have hf := lte_of eu18 hf
          refine v_aload_n K 1 rfl rfl dX0_addCell_55 ?_
          refine v_dup K rfl dX0_addCell_56 ?_
          refine gf_0_6 K h0 fl_X0_45 dX0_addCell_57 ?_
          refine v_iload_n K 3 rfl rfl dX0_addCell_60 ?_
          refine v_iload_n K 4 rfl rfl dX0_addCell_61 ?_
          refine v_ishl K dX0_addCell_62 ?_
          refine v_ior K dX0_addCell_63 ?_
          refine pf_0_6 K h0 fl_X0_45 dX0_addCell_64 ?_
          refine v_st (fun u19 eu19 => ?_)
          have hf := lte_of eu19 hf
          refine v_sub [0] rfl ?_
          exact t_X0_addCell_67 h0 K hf
      · have hf := ite_t c12 hf
        refine v_sub [] rfl ?_
        exact t_X0_addCell_22 h0 K hf
abbrev rm_X6_faultCode : Room := { frames := 0, cells := 0, slots := 0, locals := 0 }
set_option maxRecDepth 20000 in
theorem c_X6_faultCode {X : Wx} {N : Nat} {p1 : Int32} {p2 : Int32} {p3 : Int32} {u u' : ASt} {r : Int32} (hf : f_X6_faultCode N p1 p2 p3 u = some (r, u')) (l : Launch) : Met l yX6_faultCode (ws_ yX6_faultCode cX6_faultCode 3 (some .int)) rm_X6_faultCode (Pg 0 X u [.int p1, .int p2, .int p3]) (Qg 0 X (some (.int r)) u') 0 0 (Aw 0 X) := by
  refine v_met (res := (some (.int r), u')) (by decide) (Nat.le_of_ble_eq_true rfl) (fun M K => ?_)
  have K : OkM 0 M X cX6_faultCode 3 RX6 rm_X6_faultCode (some .int) := K
  show V 0 M X (some (.int r), u') 3 0 [(0, .int p1), (1, .int p2), (2, .int p3)] [] u
  unfold f_X6_faultCode at hf
  refine v_sipush K (v := 1000) (by decide) dX6_faultCode_0 ?_
  refine v_iload_n K 0 rfl rfl dX6_faultCode_3 ?_
  refine v_imul K dX6_faultCode_4 ?_
  refine v_bipush K (v := 10) (by decide) dX6_faultCode_5 ?_
  refine v_iload_n K 1 rfl rfl dX6_faultCode_7 ?_
  refine v_imul K dX6_faultCode_8 ?_
  refine v_iadd K dX6_faultCode_9 ?_
  refine v_iload_n K 2 rfl rfl dX6_faultCode_10 ?_
  refine v_iadd K dX6_faultCode_11 ?_
  obtain ⟨rfl, rfl⟩ := pair_of hf
  exact v_iret K dX6_faultCode_12
abbrev rm_X0_addFault : Room := { frames := 0, cells := 0, slots := 0, locals := 0 }
set_option maxRecDepth 20000 in
theorem c_X0_addFault {X : Wx} {N : Nat} {o0 : Nat} {p1 : Int32} (h0 : akd o0 = 0) {u u' : ASt} {r : Int32} (hf : f_X0_addFault N o0 p1 u = some (r, u')) (l : Launch) : Met l yX0_addFault (ws_ yX0_addFault cX0_addFault 2 (some .int)) rm_X0_addFault (Pg 0 X u [.ref (X.2.1 o0), .int p1]) (Qg 0 X (some (.int r)) u') 0 0 (Aw 0 X) := by
  refine v_met (res := (some (.int r), u')) (by decide) (Nat.le_of_ble_eq_true rfl) (fun M K => ?_)
  have K : OkM 0 M X cX0_addFault 2 RX0 rm_X0_addFault (some .int) := K
  show V 0 M X (some (.int r), u') 2 0 [(0, .ref (X.2.1 o0)), (1, .int p1)] [] u
  unfold f_X0_addFault at hf
  refine v_aload_n K 0 rfl rfl dX0_addFault_0 ?_
  refine gf_0_3 K h0 fl_X0_36 dX0_addFault_1 ?_
  refine v_iconst K (v := 4) (by decide) dX0_addFault_4 ?_
  refine v_icmp_lt K 11 (by decide) dX0_addFault_5 (fun c1 => ?_) (fun c1 => ?_)
  · have hf := ite_t c1 hf
    refine v_aload_n K 0 rfl rfl dX0_addFault_11 ?_
    refine gf_0_2 K h0 fl_X0_17 dX0_addFault_12 ?_
    refine v_aload_n K 0 rfl rfl dX0_addFault_15 ?_
    refine gf_0_3 K h0 fl_X0_36 dX0_addFault_16 ?_
    refine v_iload_n K 1 rfl rfl dX0_addFault_19 ?_
    obtain ⟨g2, hf⟩ := chk_of hf
    refine v_iast K (am0_9 (ak_0_2 h0)) (.inl (ak_0_2 h0)) g2 dX0_addFault_20 ?_
    refine v_st (fun u3 eu3 => ?_)
    have hf := lte_of eu3 hf
    refine v_aload_n K 0 rfl rfl dX0_addFault_21 ?_
    refine v_dup K rfl dX0_addFault_22 ?_
    refine gf_0_3 K h0 fl_X0_36 dX0_addFault_23 ?_
    refine v_iconst K (v := 1) (by decide) dX0_addFault_26 ?_
    refine v_iadd K dX0_addFault_27 ?_
    refine pf_0_3 K h0 fl_X0_36 dX0_addFault_28 ?_
    refine v_st (fun u4 eu4 => ?_)
    have hf := lte_of eu4 hf
    refine v_aload_n K 0 rfl rfl dX0_addFault_31 ?_
    refine gf_0_3 K h0 fl_X0_36 dX0_addFault_32 ?_
    obtain ⟨rfl, rfl⟩ := pair_of hf
    exact v_iret K dX0_addFault_35
  · have hf := ite_f c1 hf
    refine v_bipush K (v := (-4)) (by decide) dX0_addFault_8 ?_
    obtain ⟨rfl, rfl⟩ := pair_of hf
    exact v_iret K dX0_addFault_10
abbrev rm_X0_addOpen : Room := { frames := 2, cells := 0, slots := 0, locals := 43 }
set_option maxRecDepth 20000 in
theorem c_X0_addOpen {X : Wx} {N : Nat} {o0 : Nat} {p1 : Int32} {p2 : Int32} (h0 : akd o0 = 0) {u u' : ASt} {r : Int32} (hf : f_X0_addOpen N o0 p1 p2 u = some (r, u')) (l : Launch) : Met l yX0_addOpen (ws_ yX0_addOpen cX0_addOpen 3 (some .int)) rm_X0_addOpen (Pg 0 X u [.ref (X.2.1 o0), .int p1, .int p2]) (Qg 0 X (some (.int r)) u') 0 0 (Aw 0 X) := by
  refine v_met (res := (some (.int r), u')) (by decide) (Nat.le_of_ble_eq_true rfl) (fun M K => ?_)
  have K : OkM 0 M X cX0_addOpen 3 RX0 rm_X0_addOpen (some .int) := K
  show V 0 M X (some (.int r), u') 3 0 [(0, .ref (X.2.1 o0)), (1, .int p1), (2, .int p2)] [] u
  unfold f_X0_addOpen at hf
  refine v_aload_n K 0 rfl rfl dX0_addOpen_0 ?_
  refine v_iload_n K 1 rfl rfl dX0_addOpen_1 ?_
  refine v_iload_n K 2 rfl rfl dX0_addOpen_2 ?_
  obtain ⟨r2, u1, e3, hf⟩ := bnd_of hf
  refine v_callVi K (c_X0_hasCell h0 e3) cv_X0_hasCell ml_X0_69 (am0_0 h0) h0 kdX0 ⟨rfl, rfl, Nat.le_of_ble_eq_true rfl, Nat.le_of_ble_eq_true rfl⟩ rfl rfl (Nat.le_of_ble_eq_true rfl) dX0_addOpen_3 ?_
  refine v_if_eq K 22 (by decide) dX0_addOpen_6 (fun c4 => ?_) (fun c4 => ?_)
  · have hf := ite_t c4 hf
    refine v_bipush K (v := (-2)) (by decide) dX0_addOpen_22 ?_
    obtain ⟨rfl, rfl⟩ := pair_of hf
    exact v_iret K dX0_addOpen_24
  · have hf := ite_f c4 hf
    refine v_aload_n K 0 rfl rfl dX0_addOpen_9 ?_
    refine v_iconst K (v := 1) (by decide) dX0_addOpen_10 ?_
    refine v_iload_n K 1 rfl rfl dX0_addOpen_11 ?_
    refine v_iload_n K 2 rfl rfl dX0_addOpen_12 ?_
    obtain ⟨r6, u5, e7, hf⟩ := bnd_of hf
    refine v_callNi K (c_X6_faultCode e7) cv_X6_faultCode (List.mem_of_getElem? (i := 2) rfl) ⟨rfl, rfl, Nat.le_of_ble_eq_true rfl, Nat.le_of_ble_eq_true rfl⟩ rfl rfl (Nat.le_of_ble_eq_true rfl) dX0_addOpen_13 ?_
    obtain ⟨r9, u8, e10, hf⟩ := bnd_of hf
    refine v_callVi K (c_X0_addFault h0 e10) cv_X0_addFault ml_X0_77 (am0_0 h0) h0 kdX0 ⟨rfl, rfl, Nat.le_of_ble_eq_true rfl, Nat.le_of_ble_eq_true rfl⟩ rfl rfl (Nat.le_of_ble_eq_true rfl) dX0_addOpen_16 ?_
    refine v_goto K 24 (by decide) dX0_addOpen_19 ?_
    obtain ⟨rfl, rfl⟩ := pair_of hf
    exact v_iret K dX0_addOpen_24
abbrev rm_X0_addStuck : Room := { frames := 1, cells := 0, slots := 0, locals := 22 }
set_option maxRecDepth 20000 in
theorem t_X0_addStuck_27 {M : Mx} {X : Wx} {N : Nat} {o0 : Nat} {p1 : Int32} {p2 : Int32} (h0 : akd o0 = 0) {r : Int32} {u' : ASt} (K : OkM 0 M X cX0_addStuck 3 RX0 rm_X0_addStuck (some .int)) {u : ASt} (hf : f_X0_addStuck_27 N o0 p1 p2  u = some (r, u')) : V 0 M X (some (.int r), u') 3 27 [] [] u := by
  unfold f_X0_addStuck_27 at hf
  refine v_bipush K (v := (-2)) (by decide) dX0_addStuck_27 ?_
  obtain ⟨rfl, rfl⟩ := pair_of hf
  exact v_iret K dX0_addStuck_29
set_option maxRecDepth 20000 in
theorem c_X0_addStuck {X : Wx} {N : Nat} {o0 : Nat} {p1 : Int32} {p2 : Int32} (h0 : akd o0 = 0) {u u' : ASt} {r : Int32} (hf : f_X0_addStuck N o0 p1 p2 u = some (r, u')) (l : Launch) : Met l yX0_addStuck (ws_ yX0_addStuck cX0_addStuck 3 (some .int)) rm_X0_addStuck (Pg 0 X u [.ref (X.2.1 o0), .int p1, .int p2]) (Qg 0 X (some (.int r)) u') 0 0 (Aw 0 X) := by
  refine v_met (res := (some (.int r), u')) (by decide) (Nat.le_of_ble_eq_true rfl) (fun M K => ?_)
  have K : OkM 0 M X cX0_addStuck 3 RX0 rm_X0_addStuck (some .int) := K
  show V 0 M X (some (.int r), u') 3 0 [(0, .ref (X.2.1 o0)), (1, .int p1), (2, .int p2)] [] u
  unfold f_X0_addStuck at hf
  refine v_iload_n K 1 rfl rfl dX0_addStuck_0 ?_
  obtain ⟨r2, u1, e3, hf⟩ := bnd_of hf
  refine v_callNi K (c_X6_isNet e3) cv_X6_isNet (List.mem_of_getElem? (i := 1) rfl) ⟨rfl, rfl, Nat.le_of_ble_eq_true rfl, Nat.le_of_ble_eq_true rfl⟩ rfl rfl (Nat.le_of_ble_eq_true rfl) dX0_addStuck_1 ?_
  refine v_if_eq K 27 (by decide) dX0_addStuck_4 (fun c4 => ?_) (fun c4 => ?_)
  · have hf := ite_t c4 hf
    refine v_sub [] rfl ?_
    exact t_X0_addStuck_27 h0 K hf
  · have hf := ite_f c4 hf
    refine v_iload_n K 2 rfl rfl dX0_addStuck_7 ?_
    obtain ⟨r6, u5, e7, hf⟩ := bnd_of hf
    refine v_callNi K (c_X6_isBit e7) cv_X6_isBit (List.mem_of_getElem? (i := 0) rfl) ⟨rfl, rfl, Nat.le_of_ble_eq_true rfl, Nat.le_of_ble_eq_true rfl⟩ rfl rfl (Nat.le_of_ble_eq_true rfl) dX0_addStuck_8 ?_
    refine v_if_eq K 27 (by decide) dX0_addStuck_11 (fun c8 => ?_) (fun c8 => ?_)
    · have hf := ite_t c8 hf
      refine v_sub [] rfl ?_
      exact t_X0_addStuck_27 h0 K hf
    · have hf := ite_f c8 hf
      refine v_aload_n K 0 rfl rfl dX0_addStuck_14 ?_
      refine v_iconst K (v := 2) (by decide) dX0_addStuck_15 ?_
      refine v_iload_n K 1 rfl rfl dX0_addStuck_16 ?_
      refine v_iload_n K 2 rfl rfl dX0_addStuck_17 ?_
      obtain ⟨r10, u9, e11, hf⟩ := bnd_of hf
      refine v_callNi K (c_X6_faultCode e11) cv_X6_faultCode (List.mem_of_getElem? (i := 2) rfl) ⟨rfl, rfl, Nat.le_of_ble_eq_true rfl, Nat.le_of_ble_eq_true rfl⟩ rfl rfl (Nat.le_of_ble_eq_true rfl) dX0_addStuck_18 ?_
      obtain ⟨r13, u12, e14, hf⟩ := bnd_of hf
      refine v_callVi K (c_X0_addFault h0 e14) cv_X0_addFault ml_X0_77 (am0_0 h0) h0 kdX0 ⟨rfl, rfl, Nat.le_of_ble_eq_true rfl, Nat.le_of_ble_eq_true rfl⟩ rfl rfl (Nat.le_of_ble_eq_true rfl) dX0_addStuck_21 ?_
      refine v_goto K 29 (by decide) dX0_addStuck_24 ?_
      obtain ⟨rfl, rfl⟩ := pair_of hf
      exact v_iret K dX0_addStuck_29
abbrev rm_X0_addShort : Room := { frames := 1, cells := 0, slots := 0, locals := 22 }
set_option maxRecDepth 20000 in
theorem t_X0_addShort_38 {M : Mx} {X : Wx} {N : Nat} {o0 : Nat} {p1 : Int32} {p2 : Int32} {p3 : Int32} (h0 : akd o0 = 0) {r : Int32} {u' : ASt} (K : OkM 0 M X cX0_addShort 5 RX0 rm_X0_addShort (some .int)) {y0 : Int32} {u : ASt} (hf : f_X0_addShort_38 N o0 p1 p2 p3 y0 u = some (r, u')) : V 0 M X (some (.int r), u') 5 38 [(0, .ref (X.2.1 o0)), (1, .int p1), (2, .int p2)] [.int y0] u := by
  unfold f_X0_addShort_38 at hf
  refine v_iload_n K 1 rfl rfl dX0_addShort_38 ?_
  refine v_iload_n K 2 rfl rfl dX0_addShort_39 ?_
  refine v_min K ml_X0_81 mw_1min mw_2 mw_3min (by decide) (Nat.le_of_ble_eq_true rfl) dX0_addShort_40 ?_
  refine v_iload_n K 1 rfl rfl dX0_addShort_43 ?_
  refine v_iload_n K 2 rfl rfl dX0_addShort_44 ?_
  refine v_max K ml_X0_86 mw_1max mw_2 mw_3max (by decide) (Nat.le_of_ble_eq_true rfl) dX0_addShort_45 ?_
  obtain ⟨r2, u1, e3, hf⟩ := bnd_of hf
  refine v_callNi K (c_X6_faultCode e3) cv_X6_faultCode (List.mem_of_getElem? (i := 2) rfl) ⟨rfl, rfl, Nat.le_of_ble_eq_true rfl, Nat.le_of_ble_eq_true rfl⟩ rfl rfl (Nat.le_of_ble_eq_true rfl) dX0_addShort_48 ?_
  refine v_istore K (ls' := [(4, .int r2), (0, .ref (X.2.1 o0)), (1, .int p1), (2, .int p2)]) (by decide) rfl dX0_addShort_51 ?_
  refine v_aload_n K 1 rfl rfl dX0_addShort_53 ?_
  refine v_iload K 0 rfl dX0_addShort_54 ?_
  obtain ⟨r5, u4, e6, hf⟩ := bnd_of hf
  refine v_callVi K (c_X0_addFault h0 e6) cv_X0_addFault ml_X0_77 (am0_0 h0) h0 kdX0 ⟨rfl, rfl, Nat.le_of_ble_eq_true rfl, Nat.le_of_ble_eq_true rfl⟩ rfl rfl (Nat.le_of_ble_eq_true rfl) dX0_addShort_56 ?_
  obtain ⟨rfl, rfl⟩ := pair_of hf
  exact v_iret K dX0_addShort_59
set_option maxRecDepth 20000 in
theorem t_X0_addShort_26 {M : Mx} {X : Wx} {N : Nat} {o0 : Nat} {p1 : Int32} {p2 : Int32} {p3 : Int32} (h0 : akd o0 = 0) {r : Int32} {u' : ASt} (K : OkM 0 M X cX0_addShort 5 RX0 rm_X0_addShort (some .int)) {u : ASt} (hf : f_X0_addShort_26 N o0 p1 p2 p3  u = some (r, u')) : V 0 M X (some (.int r), u') 5 26 [] [] u := by
  unfold f_X0_addShort_26 at hf
  refine v_bipush K (v := (-2)) (by decide) dX0_addShort_26 ?_
  obtain ⟨rfl, rfl⟩ := pair_of hf
  exact v_iret K dX0_addShort_28
set_option maxRecDepth 20000 in
theorem c_X0_addShort {X : Wx} {N : Nat} {o0 : Nat} {p1 : Int32} {p2 : Int32} {p3 : Int32} (h0 : akd o0 = 0) {u u' : ASt} {r : Int32} (hf : f_X0_addShort N o0 p1 p2 p3 u = some (r, u')) (l : Launch) : Met l yX0_addShort (ws_ yX0_addShort cX0_addShort 5 (some .int)) rm_X0_addShort (Pg 0 X u [.ref (X.2.1 o0), .int p1, .int p2, .int p3]) (Qg 0 X (some (.int r)) u') 0 0 (Aw 0 X) := by
  refine v_met (res := (some (.int r), u')) (by decide) (Nat.le_of_ble_eq_true rfl) (fun M K => ?_)
  have K : OkM 0 M X cX0_addShort 5 RX0 rm_X0_addShort (some .int) := K
  show V 0 M X (some (.int r), u') 5 0 [(0, .ref (X.2.1 o0)), (1, .int p1), (2, .int p2), (3, .int p3)] [] u
  unfold f_X0_addShort at hf
  refine v_iload_n K 1 rfl rfl dX0_addShort_0 ?_
  obtain ⟨r8, u7, e9, hf⟩ := bnd_of hf
  refine v_callNi K (c_X6_isNet e9) cv_X6_isNet (List.mem_of_getElem? (i := 1) rfl) ⟨rfl, rfl, Nat.le_of_ble_eq_true rfl, Nat.le_of_ble_eq_true rfl⟩ rfl rfl (Nat.le_of_ble_eq_true rfl) dX0_addShort_1 ?_
  refine v_if_eq K 26 (by decide) dX0_addShort_4 (fun c10 => ?_) (fun c10 => ?_)
  · have hf := ite_t c10 hf
    refine v_sub [] rfl ?_
    exact t_X0_addShort_26 h0 K hf
  · have hf := ite_f c10 hf
    refine v_iload_n K 2 rfl rfl dX0_addShort_7 ?_
    obtain ⟨r12, u11, e13, hf⟩ := bnd_of hf
    refine v_callNi K (c_X6_isNet e13) cv_X6_isNet (List.mem_of_getElem? (i := 1) rfl) ⟨rfl, rfl, Nat.le_of_ble_eq_true rfl, Nat.le_of_ble_eq_true rfl⟩ rfl rfl (Nat.le_of_ble_eq_true rfl) dX0_addShort_8 ?_
    refine v_if_eq K 26 (by decide) dX0_addShort_11 (fun c14 => ?_) (fun c14 => ?_)
    · have hf := ite_t c14 hf
      refine v_sub [] rfl ?_
      exact t_X0_addShort_26 h0 K hf
    · have hf := ite_f c14 hf
      refine v_iload_n K 1 rfl rfl dX0_addShort_14 ?_
      refine v_iload_n K 2 rfl rfl dX0_addShort_15 ?_
      refine v_icmp_eq K 26 (by decide) dX0_addShort_16 (fun c15 => ?_) (fun c15 => ?_)
      · have hf := ite_t c15 hf
        refine v_sub [] rfl ?_
        exact t_X0_addShort_26 h0 K hf
      · have hf := ite_f c15 hf
        refine v_iload_n K 3 rfl rfl dX0_addShort_19 ?_
        obtain ⟨r17, u16, e18, hf⟩ := bnd_of hf
        refine v_callNi K (c_X6_isBit e18) cv_X6_isBit (List.mem_of_getElem? (i := 0) rfl) ⟨rfl, rfl, Nat.le_of_ble_eq_true rfl, Nat.le_of_ble_eq_true rfl⟩ rfl rfl (Nat.le_of_ble_eq_true rfl) dX0_addShort_20 ?_
        refine v_if_ne K 29 (by decide) dX0_addShort_23 (fun c19 => ?_) (fun c19 => ?_)
        · have hf := ite_f c19 hf
          refine v_iload_n K 3 rfl rfl dX0_addShort_29 ?_
          refine v_if_ne K 37 (by decide) dX0_addShort_30 (fun c20 => ?_) (fun c20 => ?_)
          · have hf := ite_f c20 hf
            refine v_iconst K (v := 4) (by decide) dX0_addShort_37 ?_
            refine v_sub [0, 1, 2] rfl ?_
            exact t_X0_addShort_38 h0 K hf
          · have hf := ite_t c20 hf
            refine v_iconst K (v := 3) (by decide) dX0_addShort_33 ?_
            refine v_goto K 38 (by decide) dX0_addShort_34 ?_
            refine v_sub [0, 1, 2] rfl ?_
            exact t_X0_addShort_38 h0 K hf
        · have hf := ite_t c19 hf
          refine v_sub [] rfl ?_
          exact t_X0_addShort_26 h0 K hf
abbrev rm_X0_dropFaults : Room := { frames := 0, cells := 0, slots := 0, locals := 0 }
set_option maxRecDepth 20000 in
theorem c_X0_dropFaults {X : Wx} {N : Nat} {o0 : Nat} (h0 : akd o0 = 0) {u u' : ASt} {r : Int32} (hf : f_X0_dropFaults N o0 u = some (r, u')) (l : Launch) : Met l yX0_dropFaults (ws_ yX0_dropFaults cX0_dropFaults 2 (some .int)) rm_X0_dropFaults (Pg 0 X u [.ref (X.2.1 o0)]) (Qg 0 X (some (.int r)) u') 0 0 (Aw 0 X) := by
  refine v_met (res := (some (.int r), u')) (by decide) (Nat.le_of_ble_eq_true rfl) (fun M K => ?_)
  have K : OkM 0 M X cX0_dropFaults 2 RX0 rm_X0_dropFaults (some .int) := K
  show V 0 M X (some (.int r), u') 2 0 [(0, .ref (X.2.1 o0))] [] u
  unfold f_X0_dropFaults at hf
  refine v_aload_n K 0 rfl rfl dX0_dropFaults_0 ?_
  refine gf_0_3 K h0 fl_X0_36 dX0_dropFaults_1 ?_
  refine v_topi (fun z1 ez1 => ?_)
  have hf := lte_of ez1 hf
  refine v_istore_n K (ls' := [(1, .int z1), (0, .ref (X.2.1 o0))]) rfl (by decide) rfl dX0_dropFaults_4 ?_
  refine v_aload_n K 1 rfl rfl dX0_dropFaults_5 ?_
  refine v_iconst K (v := 0) (by decide) dX0_dropFaults_6 ?_
  refine pf_0_3 K h0 fl_X0_36 dX0_dropFaults_7 ?_
  refine v_st (fun u2 eu2 => ?_)
  have hf := lte_of eu2 hf
  refine v_iload_n K 0 rfl rfl dX0_dropFaults_10 ?_
  obtain ⟨rfl, rfl⟩ := pair_of hf
  exact v_iret K dX0_dropFaults_11
abbrev rm_X0_resetChips : Room := { frames := 1, cells := 0, slots := 0, locals := 20 }
set_option maxRecDepth 20000 in
theorem t_X0_resetChips_2 {M : Mx} {X : Wx} {N : Nat} {o0 : Nat} (h0 : akd o0 = 0) {r : Unit} {u' : ASt} (K : OkM 0 M X cX0_resetChips 2 RX0 rm_X0_resetChips none) : ∀ (n : Nat) (x1 : Int32) (u : ASt), f_X0_resetChips_2 N o0 n x1 u = some (r, u') → V 0 M X (none, u') 2 2 [(0, .ref (X.2.1 o0)), (1, .int x1)] [] u := by
  intro n
  induction n with
  | zero => intro x1 u hf; cases hf
  | succ n ih =>
    intro x1 u hf
    rw [f_X0_resetChips_2] at hf
    refine v_iload_n K 1 rfl rfl dX0_resetChips_2 ?_
    refine v_aload_n K 0 rfl rfl dX0_resetChips_3 ?_
    refine gf_0_1 K h0 fl_X0_22 dX0_resetChips_4 ?_
    refine v_icmp_ge K 25 (by decide) dX0_resetChips_7 (fun c1 => ?_) (fun c1 => ?_)
    · have hf := ite_t c1 hf
      obtain ⟨rfl, rfl⟩ := pair_of hf
      exact v_vret K dX0_resetChips_25
    · have hf := ite_f c1 hf
      refine v_aload_n K 0 rfl rfl dX0_resetChips_10 ?_
      refine gf_0_0 K h0 fl_X0_11 dX0_resetChips_11 ?_
      refine v_iload_n K 1 rfl rfl dX0_resetChips_14 ?_
      obtain ⟨g2, hf⟩ := chk_of hf
      refine v_aald K (am0_11 (ak_0_0 h0)) (.inr (ak_0_0 h0)) g2 dX0_resetChips_15 ?_
      obtain ⟨r4, u3, e5, hf⟩ := bnd_of hf
      refine v_callVv K (c_X1_reset (ae_11 (ak_0_0 h0) g2) e5) cv_X1_reset ml_X0_114 (am0_1 (ae_11 (ak_0_0 h0) g2)) (ae_11 (ak_0_0 h0) g2) kdX1 ⟨rfl, rfl, Nat.le_of_ble_eq_true rfl, Nat.le_of_ble_eq_true rfl⟩ rfl rfl (Nat.le_of_ble_eq_true rfl) dX0_resetChips_16 ?_
      refine v_iinc K 1 (v := x1 + 1) (ls' := [(1, .int (x1 + 1)), (0, .ref (X.2.1 o0))]) rfl rfl (by decide) rfl dX0_resetChips_19 ?_
      refine v_goto K 2 (by decide) dX0_resetChips_22 ?_
      refine v_sub [1, 0] rfl ?_
      exact ih (x1 + 1) u3 hf
set_option maxRecDepth 20000 in
theorem c_X0_resetChips {X : Wx} {N : Nat} {o0 : Nat} (h0 : akd o0 = 0) {u u' : ASt} {r : Unit} (hf : f_X0_resetChips N o0 u = some (r, u')) (l : Launch) : Met l yX0_resetChips (ws_ yX0_resetChips cX0_resetChips 2 none) rm_X0_resetChips (Pg 0 X u [.ref (X.2.1 o0)]) (Qg 0 X (none) u') 0 0 (Aw 0 X) := by
  refine v_met (res := (none, u')) (by decide) (Nat.le_of_ble_eq_true rfl) (fun M K => ?_)
  have K : OkM 0 M X cX0_resetChips 2 RX0 rm_X0_resetChips none := K
  show V 0 M X (none, u') 2 0 [(0, .ref (X.2.1 o0))] [] u
  unfold f_X0_resetChips at hf
  refine v_iconst K (v := 0) (by decide) dX0_resetChips_0 ?_
  refine v_istore_n K (ls' := [(1, .int 0), (0, .ref (X.2.1 o0))]) rfl (by decide) rfl dX0_resetChips_1 ?_
  refine v_sub [1, 0] rfl ?_
  exact t_X0_resetChips_2 h0 K N 0 u hf
abbrev rm_X0_captureInstructions : Room := { frames := 0, cells := 0, slots := 0, locals := 0 }
set_option maxRecDepth 20000 in
theorem t_X0_captureInstructions_2 {M : Mx} {X : Wx} {N : Nat} {o0 : Nat} (h0 : akd o0 = 0) {r : Unit} {u' : ASt} (K : OkM 0 M X cX0_captureInstructions 2 RX0 rm_X0_captureInstructions none) : ∀ (n : Nat) (x1 : Int32) (u : ASt), f_X0_captureInstructions_2 N o0 n x1 u = some (r, u') → V 0 M X (none, u') 2 2 [(0, .ref (X.2.1 o0)), (1, .int x1)] [] u := by
  intro n
  induction n with
  | zero => intro x1 u hf; cases hf
  | succ n ih =>
    intro x1 u hf
    rw [f_X0_captureInstructions_2] at hf
    refine v_iload_n K 1 rfl rfl dX0_captureInstructions_2 ?_
    refine v_aload_n K 0 rfl rfl dX0_captureInstructions_3 ?_
    refine gf_0_1 K h0 fl_X0_22 dX0_captureInstructions_4 ?_
    refine v_icmp_ge K 26 (by decide) dX0_captureInstructions_7 (fun c1 => ?_) (fun c1 => ?_)
    · have hf := ite_t c1 hf
      obtain ⟨rfl, rfl⟩ := pair_of hf
      exact v_vret K dX0_captureInstructions_26
    · have hf := ite_f c1 hf
      refine v_aload_n K 0 rfl rfl dX0_captureInstructions_10 ?_
      refine gf_0_0 K h0 fl_X0_11 dX0_captureInstructions_11 ?_
      refine v_iload_n K 1 rfl rfl dX0_captureInstructions_14 ?_
      obtain ⟨g2, hf⟩ := chk_of hf
      refine v_aald K (am0_11 (ak_0_0 h0)) (.inr (ak_0_0 h0)) g2 dX0_captureInstructions_15 ?_
      refine v_iconst K (v := 1) (by decide) dX0_captureInstructions_16 ?_
      refine pf_1_3 K (ae_11 (ak_0_0 h0) g2) fl_X0_117 dX0_captureInstructions_17 ?_
      refine v_st (fun u3 eu3 => ?_)
      have hf := lte_of eu3 hf
      refine v_iinc K 1 (v := x1 + 1) (ls' := [(1, .int (x1 + 1)), (0, .ref (X.2.1 o0))]) rfl rfl (by decide) rfl dX0_captureInstructions_20 ?_
      refine v_goto K 2 (by decide) dX0_captureInstructions_23 ?_
      refine v_sub [1, 0] rfl ?_
      exact ih (x1 + 1) u3 hf
set_option maxRecDepth 20000 in
theorem c_X0_captureInstructions {X : Wx} {N : Nat} {o0 : Nat} (h0 : akd o0 = 0) {u u' : ASt} {r : Unit} (hf : f_X0_captureInstructions N o0 u = some (r, u')) (l : Launch) : Met l yX0_captureInstructions (ws_ yX0_captureInstructions cX0_captureInstructions 2 none) rm_X0_captureInstructions (Pg 0 X u [.ref (X.2.1 o0)]) (Qg 0 X (none) u') 0 0 (Aw 0 X) := by
  refine v_met (res := (none, u')) (by decide) (Nat.le_of_ble_eq_true rfl) (fun M K => ?_)
  have K : OkM 0 M X cX0_captureInstructions 2 RX0 rm_X0_captureInstructions none := K
  show V 0 M X (none, u') 2 0 [(0, .ref (X.2.1 o0))] [] u
  unfold f_X0_captureInstructions at hf
  refine v_iconst K (v := 0) (by decide) dX0_captureInstructions_0 ?_
  refine v_istore_n K (ls' := [(1, .int 0), (0, .ref (X.2.1 o0))]) rfl (by decide) rfl dX0_captureInstructions_1 ?_
  refine v_sub [1, 0] rfl ?_
  exact t_X0_captureInstructions_2 h0 K N 0 u hf
abbrev rm_X6_kindOf : Room := { frames := 0, cells := 0, slots := 0, locals := 0 }
set_option maxRecDepth 20000 in
theorem c_X6_kindOf {X : Wx} {N : Nat} {p1 : Int32} {u u' : ASt} {r : Int32} (hf : f_X6_kindOf N p1 u = some (r, u')) (l : Launch) : Met l yX6_kindOf (ws_ yX6_kindOf cX6_kindOf 1 (some .int)) rm_X6_kindOf (Pg 0 X u [.int p1]) (Qg 0 X (some (.int r)) u') 0 0 (Aw 0 X) := by
  refine v_met (res := (some (.int r), u')) (by decide) (Nat.le_of_ble_eq_true rfl) (fun M K => ?_)
  have K : OkM 0 M X cX6_kindOf 1 RX6 rm_X6_kindOf (some .int) := K
  show V 0 M X (some (.int r), u') 1 0 [(0, .int p1)] [] u
  unfold f_X6_kindOf at hf
  refine v_iload_n K 0 rfl rfl dX6_kindOf_0 ?_
  refine v_sipush K (v := 1000) (by decide) dX6_kindOf_1 ?_
  refine v_idiv K (by decide) dX6_kindOf_4 ?_
  obtain ⟨rfl, rfl⟩ := pair_of hf
  exact v_iret K dX6_kindOf_5
abbrev rm_X6_tensOf : Room := { frames := 0, cells := 0, slots := 0, locals := 0 }
set_option maxRecDepth 20000 in
theorem c_X6_tensOf {X : Wx} {N : Nat} {p1 : Int32} {u u' : ASt} {r : Int32} (hf : f_X6_tensOf N p1 u = some (r, u')) (l : Launch) : Met l yX6_tensOf (ws_ yX6_tensOf cX6_tensOf 1 (some .int)) rm_X6_tensOf (Pg 0 X u [.int p1]) (Qg 0 X (some (.int r)) u') 0 0 (Aw 0 X) := by
  refine v_met (res := (some (.int r), u')) (by decide) (Nat.le_of_ble_eq_true rfl) (fun M K => ?_)
  have K : OkM 0 M X cX6_tensOf 1 RX6 rm_X6_tensOf (some .int) := K
  show V 0 M X (some (.int r), u') 1 0 [(0, .int p1)] [] u
  unfold f_X6_tensOf at hf
  refine v_iload_n K 0 rfl rfl dX6_tensOf_0 ?_
  refine v_bipush K (v := 10) (by decide) dX6_tensOf_1 ?_
  refine v_idiv K (by decide) dX6_tensOf_3 ?_
  refine v_bipush K (v := 10) (by decide) dX6_tensOf_4 ?_
  refine v_irem K (by decide) dX6_tensOf_6 ?_
  obtain ⟨rfl, rfl⟩ := pair_of hf
  exact v_iret K dX6_tensOf_7
abbrev rm_X6_onesOf : Room := { frames := 0, cells := 0, slots := 0, locals := 0 }
set_option maxRecDepth 20000 in
theorem c_X6_onesOf {X : Wx} {N : Nat} {p1 : Int32} {u u' : ASt} {r : Int32} (hf : f_X6_onesOf N p1 u = some (r, u')) (l : Launch) : Met l yX6_onesOf (ws_ yX6_onesOf cX6_onesOf 1 (some .int)) rm_X6_onesOf (Pg 0 X u [.int p1]) (Qg 0 X (some (.int r)) u') 0 0 (Aw 0 X) := by
  refine v_met (res := (some (.int r), u')) (by decide) (Nat.le_of_ble_eq_true rfl) (fun M K => ?_)
  have K : OkM 0 M X cX6_onesOf 1 RX6 rm_X6_onesOf (some .int) := K
  show V 0 M X (some (.int r), u') 1 0 [(0, .int p1)] [] u
  unfold f_X6_onesOf at hf
  refine v_iload_n K 0 rfl rfl dX6_onesOf_0 ?_
  refine v_bipush K (v := 10) (by decide) dX6_onesOf_1 ?_
  refine v_irem K (by decide) dX6_onesOf_3 ?_
  obtain ⟨rfl, rfl⟩ := pair_of hf
  exact v_iret K dX6_onesOf_4
abbrev rm_X3_findOpenCells : Room := { frames := 1, cells := 0, slots := 0, locals := 20 }
set_option maxRecDepth 20000 in
theorem t_X3_findOpenCells_69 {M : Mx} {X : Wx} {N : Nat} {o0 : Nat} {o1 : Nat} {p1 : Int32} (h0 : akd o0 = 3) (h1 : akd o1 = 9) {r : Unit} {u' : ASt} (K : OkM 0 M X cX3_findOpenCells 4 RX3 rm_X3_findOpenCells none) {k27 : Int32 → ASt → Option (Unit × ASt)} (hk27 : ∀ (x3 : Int32) (u : ASt), k27 x3 u = some (r, u') → V 0 M X (none, u') 4 27 [(0, .ref (X.2.1 o0)), (1, .ref (X.2.1 o1)), (2, .int p1), (3, .int x3)] [] u) {x3 : Int32} {u : ASt} (hf : f_X3_findOpenCells_69 N o0 o1 p1 k27 x3 u = some (r, u')) : V 0 M X (none, u') 4 69 [(0, .ref (X.2.1 o0)), (1, .ref (X.2.1 o1)), (2, .int p1), (3, .int x3)] [] u := by
  unfold f_X3_findOpenCells_69 at hf
  refine v_iinc K 3 (v := x3 + 1) (ls' := [(3, .int (x3 + 1)), (0, .ref (X.2.1 o0)), (1, .ref (X.2.1 o1)), (2, .int p1)]) rfl rfl (by decide) rfl dX3_findOpenCells_69 ?_
  refine v_goto K 27 (by decide) dX3_findOpenCells_72 ?_
  refine v_sub [1, 2, 3, 0] rfl ?_
  exact hk27 (x3 + 1) u hf
set_option maxRecDepth 20000 in
theorem t_X3_findOpenCells_27 {M : Mx} {X : Wx} {N : Nat} {o0 : Nat} {o1 : Nat} {p1 : Int32} (h0 : akd o0 = 3) (h1 : akd o1 = 9) {r : Unit} {u' : ASt} (K : OkM 0 M X cX3_findOpenCells 4 RX3 rm_X3_findOpenCells none) : ∀ (n : Nat) (x3 : Int32) (u : ASt), f_X3_findOpenCells_27 N o0 o1 p1 n x3 u = some (r, u') → V 0 M X (none, u') 4 27 [(0, .ref (X.2.1 o0)), (1, .ref (X.2.1 o1)), (2, .int p1), (3, .int x3)] [] u := by
  intro n
  induction n with
  | zero => intro x3 u hf; cases hf
  | succ n ih =>
    intro x3 u hf
    rw [f_X3_findOpenCells_27] at hf
    refine v_iload_n K 3 rfl rfl dX3_findOpenCells_27 ?_
    refine v_iload_n K 2 rfl rfl dX3_findOpenCells_28 ?_
    refine v_icmp_ge K 75 (by decide) dX3_findOpenCells_29 (fun c1 => ?_) (fun c1 => ?_)
    · have hf := ite_t c1 hf
      obtain ⟨rfl, rfl⟩ := pair_of hf
      exact v_vret K dX3_findOpenCells_75
    · have hf := ite_f c1 hf
      refine v_aload_n K 1 rfl rfl dX3_findOpenCells_32 ?_
      refine v_iload_n K 3 rfl rfl dX3_findOpenCells_33 ?_
      obtain ⟨g2, hf⟩ := chk_of hf
      refine v_iald K (am0_9 h1) (.inl h1) g2 dX3_findOpenCells_34 ?_
      obtain ⟨r4, u3, e5, hf⟩ := bnd_of hf
      refine v_callNi K (c_X6_kindOf e5) cv_X6_kindOf (List.mem_of_getElem? (i := 3) rfl) ⟨rfl, rfl, Nat.le_of_ble_eq_true rfl, Nat.le_of_ble_eq_true rfl⟩ rfl rfl (Nat.le_of_ble_eq_true rfl) dX3_findOpenCells_35 ?_
      refine v_iconst K (v := 1) (by decide) dX3_findOpenCells_38 ?_
      refine v_icmp_ne K 69 (by decide) dX3_findOpenCells_39 (fun c6 => ?_) (fun c6 => ?_)
      · have hf := ite_f c6 hf
        exact t_X3_findOpenCells_69 h0 h1 K ih hf
      · have hf := ite_t c6 hf
        refine v_aload_n K 0 rfl rfl dX3_findOpenCells_42 ?_
        refine v_iconst K (v := 1) (by decide) dX3_findOpenCells_43 ?_
        refine pf_3_3 K h0 (by decide) fl_X3_47 dX3_findOpenCells_44 ?_
        refine v_st (fun u7 eu7 => ?_)
        have hf := lte_of eu7 hf
        refine v_aload_n K 0 rfl rfl dX3_findOpenCells_47 ?_
        refine gf_3_2 K h0 fl_X3_15 dX3_findOpenCells_48 ?_
        refine v_aload_n K 1 rfl rfl dX3_findOpenCells_51 ?_
        refine v_iload_n K 3 rfl rfl dX3_findOpenCells_52 ?_
        obtain ⟨g8, hf⟩ := chk_of hf
        refine v_iald K (am0_9 h1) (.inl h1) g8 dX3_findOpenCells_53 ?_
        obtain ⟨r10, u9, e11, hf⟩ := bnd_of hf
        refine v_callNi K (c_X6_tensOf e11) cv_X6_tensOf (List.mem_of_getElem? (i := 4) rfl) ⟨rfl, rfl, Nat.le_of_ble_eq_true rfl, Nat.le_of_ble_eq_true rfl⟩ rfl rfl (Nat.le_of_ble_eq_true rfl) dX3_findOpenCells_54 ?_
        refine v_dup2 K rfl rfl dX3_findOpenCells_57 ?_
        obtain ⟨g12, hf⟩ := chk_of hf
        refine v_iald K (am0_9 (ak_3_2 h0)) (.inl (ak_3_2 h0)) g12 dX3_findOpenCells_58 ?_
        refine v_iconst K (v := 1) (by decide) dX3_findOpenCells_59 ?_
        refine v_aload_n K 1 rfl rfl dX3_findOpenCells_60 ?_
        refine v_iload_n K 3 rfl rfl dX3_findOpenCells_61 ?_
        obtain ⟨g13, hf⟩ := chk_of hf
        refine v_iald K (am0_9 h1) (.inl h1) g13 dX3_findOpenCells_62 ?_
        obtain ⟨r15, u14, e16, hf⟩ := bnd_of hf
        refine v_callNi K (c_X6_onesOf e16) cv_X6_onesOf (List.mem_of_getElem? (i := 5) rfl) ⟨rfl, rfl, Nat.le_of_ble_eq_true rfl, Nat.le_of_ble_eq_true rfl⟩ rfl rfl (Nat.le_of_ble_eq_true rfl) dX3_findOpenCells_63 ?_
        refine v_ishl K dX3_findOpenCells_66 ?_
        refine v_ior K dX3_findOpenCells_67 ?_
        obtain ⟨g17, hf⟩ := chk_of hf
        refine v_iast K (am0_9 (ak_3_2 h0)) (.inl (ak_3_2 h0)) g17 dX3_findOpenCells_68 ?_
        refine v_st (fun u18 eu18 => ?_)
        have hf := lte_of eu18 hf
        exact t_X3_findOpenCells_69 h0 h1 K ih hf
set_option maxRecDepth 20000 in
theorem t_X3_findOpenCells_7 {M : Mx} {X : Wx} {N : Nat} {o0 : Nat} {o1 : Nat} {p1 : Int32} (h0 : akd o0 = 3) (h1 : akd o1 = 9) {r : Unit} {u' : ASt} (K : OkM 0 M X cX3_findOpenCells 4 RX3 rm_X3_findOpenCells none) : ∀ (n : Nat) (x3 : Int32) (u : ASt), f_X3_findOpenCells_7 N o0 o1 p1 n x3 u = some (r, u') → V 0 M X (none, u') 4 7 [(0, .ref (X.2.1 o0)), (1, .ref (X.2.1 o1)), (2, .int p1), (3, .int x3)] [] u := by
  intro n
  induction n with
  | zero => intro x3 u hf; cases hf
  | succ n ih =>
    intro x3 u hf
    rw [f_X3_findOpenCells_7] at hf
    refine v_iload_n K 3 rfl rfl dX3_findOpenCells_7 ?_
    refine v_iconst K (v := 4) (by decide) dX3_findOpenCells_8 ?_
    refine v_icmp_ge K 25 (by decide) dX3_findOpenCells_9 (fun c19 => ?_) (fun c19 => ?_)
    · have hf := ite_t c19 hf
      refine v_iconst K (v := 0) (by decide) dX3_findOpenCells_25 ?_
      refine v_istore_n K (ls' := [(3, .int 0), (0, .ref (X.2.1 o0)), (1, .ref (X.2.1 o1)), (2, .int p1)]) rfl (by decide) rfl dX3_findOpenCells_26 ?_
      refine v_sub [1, 2, 3, 0] rfl ?_
      exact t_X3_findOpenCells_27 h0 h1 K N 0 u hf
    · have hf := ite_f c19 hf
      refine v_aload_n K 0 rfl rfl dX3_findOpenCells_12 ?_
      refine gf_3_2 K h0 fl_X3_15 dX3_findOpenCells_13 ?_
      refine v_iload_n K 3 rfl rfl dX3_findOpenCells_16 ?_
      refine v_iconst K (v := 0) (by decide) dX3_findOpenCells_17 ?_
      obtain ⟨g20, hf⟩ := chk_of hf
      refine v_iast K (am0_9 (ak_3_2 h0)) (.inl (ak_3_2 h0)) g20 dX3_findOpenCells_18 ?_
      refine v_st (fun u21 eu21 => ?_)
      have hf := lte_of eu21 hf
      refine v_iinc K 3 (v := x3 + 1) (ls' := [(3, .int (x3 + 1)), (0, .ref (X.2.1 o0)), (1, .ref (X.2.1 o1)), (2, .int p1)]) rfl rfl (by decide) rfl dX3_findOpenCells_19 ?_
      refine v_goto K 7 (by decide) dX3_findOpenCells_22 ?_
      refine v_sub [1, 2, 3, 0] rfl ?_
      exact ih (x3 + 1) u21 hf
set_option maxRecDepth 20000 in
theorem c_X3_findOpenCells {X : Wx} {N : Nat} {o0 : Nat} {o1 : Nat} {p1 : Int32} (h0 : akd o0 = 3) (h1 : akd o1 = 9) {u u' : ASt} {r : Unit} (hf : f_X3_findOpenCells N o0 o1 p1 u = some (r, u')) (l : Launch) : Met l yX3_findOpenCells (ws_ yX3_findOpenCells cX3_findOpenCells 4 none) rm_X3_findOpenCells (Pg 0 X u [.ref (X.2.1 o0), .ref (X.2.1 o1), .int p1]) (Qg 0 X (none) u') 0 0 (Aw 0 X) := by
  refine v_met (res := (none, u')) (by decide) (Nat.le_of_ble_eq_true rfl) (fun M K => ?_)
  have K : OkM 0 M X cX3_findOpenCells 4 RX3 rm_X3_findOpenCells none := K
  show V 0 M X (none, u') 4 0 [(0, .ref (X.2.1 o0)), (1, .ref (X.2.1 o1)), (2, .int p1)] [] u
  unfold f_X3_findOpenCells at hf
  refine v_aload_n K 0 rfl rfl dX3_findOpenCells_0 ?_
  refine v_iconst K (v := 0) (by decide) dX3_findOpenCells_1 ?_
  refine pf_3_3 K h0 (by decide) fl_X3_47 dX3_findOpenCells_2 ?_
  refine v_st (fun u22 eu22 => ?_)
  have hf := lte_of eu22 hf
  refine v_iconst K (v := 0) (by decide) dX3_findOpenCells_5 ?_
  refine v_istore_n K (ls' := [(3, .int 0), (0, .ref (X.2.1 o0)), (1, .ref (X.2.1 o1)), (2, .int p1)]) rfl (by decide) rfl dX3_findOpenCells_6 ?_
  refine v_sub [1, 2, 3, 0] rfl ?_
  exact t_X3_findOpenCells_7 h0 h1 K N 0 u22 hf
abbrev rm_X3_soundOutputs : Room := { frames := 0, cells := 0, slots := 0, locals := 0 }
set_option maxRecDepth 20000 in
theorem c_X3_soundOutputs {X : Wx} {N : Nat} {o0 : Nat} {p1 : Int32} (h0 : akd o0 = 3) {u u' : ASt} {r : Int32} (hf : f_X3_soundOutputs N o0 p1 u = some (r, u')) (l : Launch) : Met l yX3_soundOutputs (ws_ yX3_soundOutputs cX3_soundOutputs 2 (some .int)) rm_X3_soundOutputs (Pg 0 X u [.ref (X.2.1 o0), .int p1]) (Qg 0 X (some (.int r)) u') 0 0 (Aw 0 X) := by
  refine v_met (res := (some (.int r), u')) (by decide) (Nat.le_of_ble_eq_true rfl) (fun M K => ?_)
  have K : OkM 0 M X cX3_soundOutputs 2 RX3 rm_X3_soundOutputs (some .int) := K
  show V 0 M X (some (.int r), u') 2 0 [(0, .ref (X.2.1 o0)), (1, .int p1)] [] u
  unfold f_X3_soundOutputs at hf
  refine v_aload_n K 0 rfl rfl dX3_soundOutputs_0 ?_
  refine gf_3_0 K h0 fl_X3_18 dX3_soundOutputs_1 ?_
  refine gf_0_0 K (ak_3_0 h0) fl_X3_71 dX3_soundOutputs_4 ?_
  refine v_iload_n K 1 rfl rfl dX3_soundOutputs_7 ?_
  obtain ⟨g1, hf⟩ := chk_of hf
  refine v_aald K (am0_11 (ak_0_0 (ak_3_0 h0))) (.inr (ak_0_0 (ak_3_0 h0))) g1 dX3_soundOutputs_8 ?_
  refine gf_1_7 K (ae_11 (ak_0_0 (ak_3_0 h0)) g1) fl_X3_75 dX3_soundOutputs_9 ?_
  refine v_aload_n K 0 rfl rfl dX3_soundOutputs_12 ?_
  refine gf_3_2 K h0 fl_X3_15 dX3_soundOutputs_13 ?_
  refine v_iload_n K 1 rfl rfl dX3_soundOutputs_16 ?_
  obtain ⟨g2, hf⟩ := chk_of hf
  refine v_iald K (am0_9 (ak_3_2 h0)) (.inl (ak_3_2 h0)) g2 dX3_soundOutputs_17 ?_
  refine v_iconst K (v := (-1)) (by decide) dX3_soundOutputs_18 ?_
  refine v_ixor K dX3_soundOutputs_19 ?_
  refine v_iand K dX3_soundOutputs_20 ?_
  obtain ⟨rfl, rfl⟩ := pair_of hf
  exact v_iret K dX3_soundOutputs_21
abbrev rm_X6_isMember : Room := { frames := 0, cells := 0, slots := 0, locals := 0 }
set_option maxRecDepth 20000 in
theorem c_X6_isMember {X : Wx} {N : Nat} {p1 : Int32} {p2 : Int32} {u u' : ASt} {r : Int32} (hf : f_X6_isMember N p1 p2 u = some (r, u')) (l : Launch) : Met l yX6_isMember (ws_ yX6_isMember cX6_isMember 2 (some .boolean)) rm_X6_isMember (Pg 0 X u [.int p1, .int p2]) (Qg 0 X (some (.int r)) u') 0 0 (Aw 0 X) := by
  refine v_met (res := (some (.int r), u')) (by decide) (Nat.le_of_ble_eq_true rfl) (fun M K => ?_)
  have K : OkM 0 M X cX6_isMember 2 RX6 rm_X6_isMember (some .boolean) := K
  show V 0 M X (some (.int r), u') 2 0 [(0, .int p1), (1, .int p2)] [] u
  unfold f_X6_isMember at hf
  refine v_iload_n K 0 rfl rfl dX6_isMember_0 ?_
  refine v_iload_n K 1 rfl rfl dX6_isMember_1 ?_
  refine v_ishr K dX6_isMember_2 ?_
  refine v_iconst K (v := 1) (by decide) dX6_isMember_3 ?_
  refine v_iand K dX6_isMember_4 ?_
  refine v_iconst K (v := 1) (by decide) dX6_isMember_5 ?_
  refine v_icmp_ne K 13 (by decide) dX6_isMember_6 (fun c1 => ?_) (fun c1 => ?_)
  · have hf := ite_f c1 hf
    refine v_iconst K (v := 0) (by decide) dX6_isMember_13 ?_
    obtain ⟨rfl, rfl⟩ := pair_of hf
    exact v_zret K (by decide) dX6_isMember_14
  · have hf := ite_t c1 hf
    refine v_iconst K (v := 1) (by decide) dX6_isMember_9 ?_
    refine v_goto K 14 (by decide) dX6_isMember_10 ?_
    obtain ⟨rfl, rfl⟩ := pair_of hf
    exact v_zret K (by decide) dX6_isMember_14
abbrev rm_X3_driveByLatches : Room := { frames := 1, cells := 0, slots := 0, locals := 21 }
set_option maxRecDepth 20000 in
theorem t_X3_driveByLatches_160 {M : Mx} {X : Wx} {N : Nat} {o0 : Nat} (h0 : akd o0 = 3) {r : Unit} {u' : ASt} (K : OkM 0 M X cX3_driveByLatches 7 RX3 rm_X3_driveByLatches none) {k136 : Int32 → Int32 → ASt → Option (Unit × ASt)} (hk136 : ∀ (x1 : Int32) (x3 : Int32) (u : ASt), k136 x1 x3 u = some (r, u') → V 0 M X (none, u') 7 136 [(0, .ref (X.2.1 o0)), (1, .int x1), (3, .int x3)] [] u) {x1 : Int32} {x3 : Int32} {c0 : Nat} {y1 : Int32} {y2 : Int32} (hc0 : akd c0 = 9) {u : ASt} (hf : f_X3_driveByLatches_160 N o0 k136 x1 x3 c0 y1 y2 u = some (r, u')) : V 0 M X (none, u') 7 160 [(0, .ref (X.2.1 o0)), (1, .int x1), (3, .int x3)] [.int y2, .int y1, .ref (X.2.1 c0)] u := by
  unfold f_X3_driveByLatches_160 at hf
  obtain ⟨g1, hf⟩ := chk_of hf
  refine v_iast K (am0_9 hc0) (.inl hc0) g1 dX3_driveByLatches_160 ?_
  refine v_st (fun u2 eu2 => ?_)
  have hf := lte_of eu2 hf
  refine v_iinc K 2 (v := x3 + 1) (ls' := [(3, .int (x3 + 1)), (0, .ref (X.2.1 o0)), (1, .int x1)]) rfl rfl (by decide) rfl dX3_driveByLatches_161 ?_
  refine v_goto K 136 (by decide) dX3_driveByLatches_164 ?_
  refine v_sub [1, 2, 0] rfl ?_
  exact hk136 x1 (x3 + 1) u2 hf
set_option maxRecDepth 20000 in
theorem t_X3_driveByLatches_136 {M : Mx} {X : Wx} {N : Nat} {o0 : Nat} (h0 : akd o0 = 3) {r : Unit} {u' : ASt} (K : OkM 0 M X cX3_driveByLatches 7 RX3 rm_X3_driveByLatches none) : ∀ (n : Nat) (x1 : Int32) (x3 : Int32) (u : ASt), f_X3_driveByLatches_136 N o0 n x1 x3 u = some (r, u') → V 0 M X (none, u') 7 136 [(0, .ref (X.2.1 o0)), (1, .int x1), (3, .int x3)] [] u := by
  intro n
  induction n with
  | zero => intro x1 x3 u hf; cases hf
  | succ n ih =>
    intro x1 x3 u hf
    rw [f_X3_driveByLatches_136] at hf
    refine v_iload_n K 2 rfl rfl dX3_driveByLatches_136 ?_
    refine v_bipush K (v := 8) (by decide) dX3_driveByLatches_137 ?_
    refine v_icmp_ge K 167 (by decide) dX3_driveByLatches_139 (fun c3 => ?_) (fun c3 => ?_)
    · have hf := ite_t c3 hf
      obtain ⟨rfl, rfl⟩ := pair_of hf
      exact v_vret K dX3_driveByLatches_167
    · have hf := ite_f c3 hf
      refine v_aload_n K 0 rfl rfl dX3_driveByLatches_142 ?_
      refine gf_3_1 K h0 fl_X3_9 dX3_driveByLatches_143 ?_
      refine v_iload_n K 2 rfl rfl dX3_driveByLatches_146 ?_
      refine v_iload_n K 1 rfl rfl dX3_driveByLatches_147 ?_
      refine v_iload_n K 2 rfl rfl dX3_driveByLatches_148 ?_
      obtain ⟨r5, u4, e6, hf⟩ := bnd_of hf
      refine v_callNi K (c_X6_isMember e6) cv_X6_isMember (List.mem_of_getElem? (i := 6) rfl) ⟨rfl, rfl, Nat.le_of_ble_eq_true rfl, Nat.le_of_ble_eq_true rfl⟩ rfl rfl (Nat.le_of_ble_eq_true rfl) dX3_driveByLatches_149 ?_
      refine v_if_eq K 159 (by decide) dX3_driveByLatches_152 (fun c7 => ?_) (fun c7 => ?_)
      · have hf := ite_t c7 hf
        refine v_iconst K (v := 1) (by decide) dX3_driveByLatches_159 ?_
        exact t_X3_driveByLatches_160 h0 K ih (ak_3_1 h0) hf
      · have hf := ite_f c7 hf
        refine v_iconst K (v := 0) (by decide) dX3_driveByLatches_155 ?_
        refine v_goto K 160 (by decide) dX3_driveByLatches_156 ?_
        exact t_X3_driveByLatches_160 h0 K ih (ak_3_1 h0) hf
set_option maxRecDepth 20000 in
theorem t_X3_driveByLatches_115 {M : Mx} {X : Wx} {N : Nat} {o0 : Nat} (h0 : akd o0 = 3) {r : Unit} {u' : ASt} (K : OkM 0 M X cX3_driveByLatches 7 RX3 rm_X3_driveByLatches none) {k6 : Int32 → Int32 → Int32 → ASt → Option (Unit × ASt)} (hk6 : ∀ (x1 : Int32) (x2 : Int32) (x3 : Int32) (u : ASt), k6 x1 x2 x3 u = some (r, u') → V 0 M X (none, u') 7 6 [(0, .ref (X.2.1 o0)), (1, .int x1), (2, .int x2), (3, .int x3)] [] u) {k50 : Int32 → Int32 → Int32 → Nat → Int32 → Int32 → ASt → Option (Unit × ASt)} (hk50 : ∀ (x1 : Int32) (x2 : Int32) (x3 : Int32) (b4 : Nat) (x5 : Int32) (x6 : Int32) (u : ASt), akd b4 = 1 → k50 x1 x2 x3 b4 x5 x6 u = some (r, u') → V 0 M X (none, u') 7 50 [(0, .ref (X.2.1 o0)), (1, .int x1), (2, .int x2), (3, .int x3), (4, .ref (X.2.1 b4)), (5, .int x5), (6, .int x6)] [] u) {x1 : Int32} {x2 : Int32} {x3 : Int32} {b4 : Nat} {x5 : Int32} {x6 : Int32} (hb4 : akd b4 = 1) {u : ASt} (hf : f_X3_driveByLatches_115 N o0 k6 k50 x1 x2 x3 b4 x5 x6 u = some (r, u')) : V 0 M X (none, u') 7 115 [(0, .ref (X.2.1 o0)), (1, .int x1), (2, .int x2), (3, .int x3), (4, .ref (X.2.1 b4)), (5, .int x5), (6, .int x6)] [] u := by
  unfold f_X3_driveByLatches_115 at hf
  refine v_iinc K 6 (v := x6 + 1) (ls' := [(6, .int (x6 + 1)), (0, .ref (X.2.1 o0)), (1, .int x1), (2, .int x2), (3, .int x3), (4, .ref (X.2.1 b4)), (5, .int x5)]) rfl rfl (by decide) rfl dX3_driveByLatches_115 ?_
  refine v_goto K 50 (by decide) dX3_driveByLatches_118 ?_
  refine v_sub [1, 2, 3, 4, 5, 6, 0] rfl ?_
  exact hk50 x1 x2 x3 b4 x5 (x6 + 1) u hb4 hf
set_option maxRecDepth 20000 in
theorem t_X3_driveByLatches_50 {M : Mx} {X : Wx} {N : Nat} {o0 : Nat} (h0 : akd o0 = 3) {r : Unit} {u' : ASt} (K : OkM 0 M X cX3_driveByLatches 7 RX3 rm_X3_driveByLatches none) {k6 : Int32 → Int32 → Int32 → ASt → Option (Unit × ASt)} (hk6 : ∀ (x1 : Int32) (x2 : Int32) (x3 : Int32) (u : ASt), k6 x1 x2 x3 u = some (r, u') → V 0 M X (none, u') 7 6 [(0, .ref (X.2.1 o0)), (1, .int x1), (2, .int x2), (3, .int x3)] [] u) : ∀ (n : Nat) (x1 : Int32) (x2 : Int32) (x3 : Int32) (b4 : Nat) (x5 : Int32) (x6 : Int32) (u : ASt), akd b4 = 1 → f_X3_driveByLatches_50 N o0 k6 n x1 x2 x3 b4 x5 x6 u = some (r, u') → V 0 M X (none, u') 7 50 [(0, .ref (X.2.1 o0)), (1, .int x1), (2, .int x2), (3, .int x3), (4, .ref (X.2.1 b4)), (5, .int x5), (6, .int x6)] [] u := by
  intro n
  induction n with
  | zero => intro x1 x2 x3 b4 x5 x6 u hb4 hf; cases hf
  | succ n ih =>
    intro x1 x2 x3 b4 x5 x6 u hb4 hf
    rw [f_X3_driveByLatches_50] at hf
    refine v_iload K 6 rfl dX3_driveByLatches_50 ?_
    refine v_aload K 4 rfl dX3_driveByLatches_52 ?_
    refine gf_1_6 K hb4 fl_X3_89 dX3_driveByLatches_54 ?_
    refine v_icmp_ge K 121 (by decide) dX3_driveByLatches_57 (fun c8 => ?_) (fun c8 => ?_)
    · have hf := ite_t c8 hf
      refine v_iinc K 3 (v := x3 + 1) (ls' := [(3, .int (x3 + 1)), (0, .ref (X.2.1 o0)), (1, .int x1), (2, .int x2), (4, .ref (X.2.1 b4)), (5, .int x5), (6, .int x6)]) rfl rfl (by decide) rfl dX3_driveByLatches_121 ?_
      refine v_goto K 6 (by decide) dX3_driveByLatches_124 ?_
      refine v_sub [1, 2, 3, 0] rfl ?_
      exact hk6 x1 x2 (x3 + 1) u hf
    · have hf := ite_f c8 hf
      refine v_iload K 5 rfl dX3_driveByLatches_60 ?_
      refine v_aload K 4 rfl dX3_driveByLatches_62 ?_
      refine gf_1_5 K hb4 fl_X3_92 dX3_driveByLatches_64 ?_
      refine v_iand K dX3_driveByLatches_67 ?_
      refine v_iload K 6 rfl dX3_driveByLatches_68 ?_
      obtain ⟨r10, u9, e11, hf⟩ := bnd_of hf
      refine v_callNi K (c_X6_isMember e11) cv_X6_isMember (List.mem_of_getElem? (i := 6) rfl) ⟨rfl, rfl, Nat.le_of_ble_eq_true rfl, Nat.le_of_ble_eq_true rfl⟩ rfl rfl (Nat.le_of_ble_eq_true rfl) dX3_driveByLatches_70 ?_
      refine v_if_eq K 92 (by decide) dX3_driveByLatches_73 (fun c12 => ?_) (fun c12 => ?_)
      · have hf := ite_t c12 hf
        refine v_iload K 5 rfl dX3_driveByLatches_92 ?_
        refine v_iload K 6 rfl dX3_driveByLatches_94 ?_
        obtain ⟨r14, u13, e15, hf⟩ := bnd_of hf
        refine v_callNi K (c_X6_isMember e15) cv_X6_isMember (List.mem_of_getElem? (i := 6) rfl) ⟨rfl, rfl, Nat.le_of_ble_eq_true rfl, Nat.le_of_ble_eq_true rfl⟩ rfl rfl (Nat.le_of_ble_eq_true rfl) dX3_driveByLatches_96 ?_
        refine v_if_eq K 115 (by decide) dX3_driveByLatches_99 (fun c16 => ?_) (fun c16 => ?_)
        · have hf := ite_t c16 hf
          exact t_X3_driveByLatches_115 h0 K hk6 ih hb4 hf
        · have hf := ite_f c16 hf
          refine v_iload_n K 1 rfl rfl dX3_driveByLatches_102 ?_
          refine v_iconst K (v := 1) (by decide) dX3_driveByLatches_103 ?_
          refine v_aload K 4 rfl dX3_driveByLatches_104 ?_
          refine gf_1_8 K hb4 fl_X3_99 dX3_driveByLatches_106 ?_
          refine v_iload K 6 rfl dX3_driveByLatches_109 ?_
          obtain ⟨g17, hf⟩ := chk_of hf
          refine v_iald K (am0_9 (ak_1_8 hb4)) (.inl (ak_1_8 hb4)) g17 dX3_driveByLatches_111 ?_
          refine v_ishl K dX3_driveByLatches_112 ?_
          refine v_ior K dX3_driveByLatches_113 ?_
          refine v_topi (fun z18 ez18 => ?_)
          have hf := lte_of ez18 hf
          refine v_istore_n K (ls' := [(1, .int z18), (0, .ref (X.2.1 o0)), (2, .int x2), (3, .int x3), (4, .ref (X.2.1 b4)), (5, .int x5), (6, .int x6)]) rfl (by decide) rfl dX3_driveByLatches_114 ?_
          refine v_sub [1, 0, 2, 3, 4, 5, 6] rfl ?_
          exact t_X3_driveByLatches_115 h0 K hk6 ih hb4 hf
      · have hf := ite_f c12 hf
        refine v_iload_n K 2 rfl rfl dX3_driveByLatches_76 ?_
        refine v_iconst K (v := 1) (by decide) dX3_driveByLatches_77 ?_
        refine v_aload K 4 rfl dX3_driveByLatches_78 ?_
        refine gf_1_8 K hb4 fl_X3_99 dX3_driveByLatches_80 ?_
        refine v_iload K 6 rfl dX3_driveByLatches_83 ?_
        obtain ⟨g19, hf⟩ := chk_of hf
        refine v_iald K (am0_9 (ak_1_8 hb4)) (.inl (ak_1_8 hb4)) g19 dX3_driveByLatches_85 ?_
        refine v_ishl K dX3_driveByLatches_86 ?_
        refine v_ior K dX3_driveByLatches_87 ?_
        refine v_topi (fun z20 ez20 => ?_)
        have hf := lte_of ez20 hf
        refine v_istore_n K (ls' := [(2, .int z20), (0, .ref (X.2.1 o0)), (1, .int x1), (3, .int x3), (4, .ref (X.2.1 b4)), (5, .int x5), (6, .int x6)]) rfl (by decide) rfl dX3_driveByLatches_88 ?_
        refine v_goto K 115 (by decide) dX3_driveByLatches_89 ?_
        refine v_sub [1, 2, 0, 3, 4, 5, 6] rfl ?_
        exact t_X3_driveByLatches_115 h0 K hk6 ih hb4 hf
set_option maxRecDepth 20000 in
theorem t_X3_driveByLatches_45 {M : Mx} {X : Wx} {N : Nat} {o0 : Nat} (h0 : akd o0 = 3) {r : Unit} {u' : ASt} (K : OkM 0 M X cX3_driveByLatches 7 RX3 rm_X3_driveByLatches none) {k6 : Int32 → Int32 → Int32 → ASt → Option (Unit × ASt)} (hk6 : ∀ (x1 : Int32) (x2 : Int32) (x3 : Int32) (u : ASt), k6 x1 x2 x3 u = some (r, u') → V 0 M X (none, u') 7 6 [(0, .ref (X.2.1 o0)), (1, .int x1), (2, .int x2), (3, .int x3)] [] u) {x1 : Int32} {x2 : Int32} {x3 : Int32} {b4 : Nat} {y0 : Int32} (hb4 : akd b4 = 1) {u : ASt} (hf : f_X3_driveByLatches_45 N o0 k6 x1 x2 x3 b4 y0 u = some (r, u')) : V 0 M X (none, u') 7 45 [(0, .ref (X.2.1 o0)), (1, .int x1), (2, .int x2), (3, .int x3), (4, .ref (X.2.1 b4))] [.int y0] u := by
  unfold f_X3_driveByLatches_45 at hf
  refine v_istore K (ls' := [(5, .int y0), (0, .ref (X.2.1 o0)), (1, .int x1), (2, .int x2), (3, .int x3), (4, .ref (X.2.1 b4))]) (by decide) rfl dX3_driveByLatches_45 ?_
  refine v_iconst K (v := 0) (by decide) dX3_driveByLatches_47 ?_
  refine v_istore K (ls' := [(6, .int 0), (5, .int y0), (0, .ref (X.2.1 o0)), (1, .int x1), (2, .int x2), (3, .int x3), (4, .ref (X.2.1 b4))]) (by decide) rfl dX3_driveByLatches_48 ?_
  refine v_sub [2, 3, 4, 5, 6, 1, 0] rfl ?_
  exact t_X3_driveByLatches_50 h0 K hk6 N x1 x2 x3 b4 y0 0 u hb4 hf
set_option maxRecDepth 20000 in
theorem t_X3_driveByLatches_6 {M : Mx} {X : Wx} {N : Nat} {o0 : Nat} (h0 : akd o0 = 3) {r : Unit} {u' : ASt} (K : OkM 0 M X cX3_driveByLatches 7 RX3 rm_X3_driveByLatches none) : ∀ (n : Nat) (x1 : Int32) (x2 : Int32) (x3 : Int32) (u : ASt), f_X3_driveByLatches_6 N o0 n x1 x2 x3 u = some (r, u') → V 0 M X (none, u') 7 6 [(0, .ref (X.2.1 o0)), (1, .int x1), (2, .int x2), (3, .int x3)] [] u := by
  intro n
  induction n with
  | zero => intro x1 x2 x3 u hf; cases hf
  | succ n ih =>
    intro x1 x2 x3 u hf
    rw [f_X3_driveByLatches_6] at hf
    refine v_iload_n K 3 rfl rfl dX3_driveByLatches_6 ?_
    refine v_aload_n K 0 rfl rfl dX3_driveByLatches_7 ?_
    refine gf_3_0 K h0 fl_X3_18 dX3_driveByLatches_8 ?_
    refine gf_0_1 K (ak_3_0 h0) fl_X3_80 dX3_driveByLatches_11 ?_
    refine v_icmp_ge K 127 (by decide) dX3_driveByLatches_14 (fun c21 => ?_) (fun c21 => ?_)
    · have hf := ite_t c21 hf
      refine v_aload_n K 0 rfl rfl dX3_driveByLatches_127 ?_
      refine v_iload_n K 1 rfl rfl dX3_driveByLatches_128 ?_
      refine v_iload_n K 2 rfl rfl dX3_driveByLatches_129 ?_
      refine v_iand K dX3_driveByLatches_130 ?_
      refine pf_3_5 K h0 fl_X3_102 dX3_driveByLatches_131 ?_
      refine v_st (fun u22 eu22 => ?_)
      have hf := lte_of eu22 hf
      refine v_iconst K (v := 0) (by decide) dX3_driveByLatches_134 ?_
      refine v_istore_n K (ls' := [(3, .int 0), (0, .ref (X.2.1 o0)), (1, .int x1), (2, .int x2)]) rfl (by decide) rfl dX3_driveByLatches_135 ?_
      refine v_sub [1, 2, 0] rfl ?_
      exact t_X3_driveByLatches_136 h0 K N x1 0 u22 hf
    · have hf := ite_f c21 hf
      refine v_aload_n K 0 rfl rfl dX3_driveByLatches_17 ?_
      refine gf_3_0 K h0 fl_X3_18 dX3_driveByLatches_18 ?_
      refine gf_0_0 K (ak_3_0 h0) fl_X3_71 dX3_driveByLatches_21 ?_
      refine v_iload_n K 3 rfl rfl dX3_driveByLatches_24 ?_
      obtain ⟨g23, hf⟩ := chk_of hf
      refine v_aald K (am0_11 (ak_0_0 (ak_3_0 h0))) (.inr (ak_0_0 (ak_3_0 h0))) g23 dX3_driveByLatches_25 ?_
      refine v_astore K (ls' := [(4, .ref (X.2.1 (arf (arf (arf o0 0) 0) (Int32.toNatClampNeg x3)))), (0, .ref (X.2.1 o0)), (1, .int x1), (2, .int x2), (3, .int x3)]) (by decide) rfl dX3_driveByLatches_26 ?_
      refine v_aload K 0 rfl dX3_driveByLatches_28 ?_
      refine gf_1_2 K (ae_11 (ak_0_0 (ak_3_0 h0)) g23) fl_X3_83 dX3_driveByLatches_30 ?_
      refine v_if_ne K 44 (by decide) dX3_driveByLatches_33 (fun c24 => ?_) (fun c24 => ?_)
      · have hf := ite_f c24 hf
        refine v_iconst K (v := 0) (by decide) dX3_driveByLatches_44 ?_
        refine v_sub [1, 2, 3, 4, 0] rfl ?_
        exact t_X3_driveByLatches_45 h0 K ih (ae_11 (ak_0_0 (ak_3_0 h0)) g23) hf
      · have hf := ite_t c24 hf
        refine v_aload_n K 1 rfl rfl dX3_driveByLatches_36 ?_
        refine v_iload_n K 4 rfl rfl dX3_driveByLatches_37 ?_
        obtain ⟨r26, u25, e27, hf⟩ := bnd_of hf
        refine v_callVi K (c_X3_soundOutputs h0 e27) cv_X3_soundOutputs ml_X3_86 (am0_3 h0) h0 kdX3 ⟨rfl, rfl, Nat.le_of_ble_eq_true rfl, Nat.le_of_ble_eq_true rfl⟩ rfl rfl (Nat.le_of_ble_eq_true rfl) dX3_driveByLatches_38 ?_
        refine v_goto K 45 (by decide) dX3_driveByLatches_41 ?_
        refine v_sub [1, 2, 3, 4, 0] rfl ?_
        exact t_X3_driveByLatches_45 h0 K ih (ae_11 (ak_0_0 (ak_3_0 h0)) g23) hf
set_option maxRecDepth 20000 in
theorem c_X3_driveByLatches {X : Wx} {N : Nat} {o0 : Nat} (h0 : akd o0 = 3) {u u' : ASt} {r : Unit} (hf : f_X3_driveByLatches N o0 u = some (r, u')) (l : Launch) : Met l yX3_driveByLatches (ws_ yX3_driveByLatches cX3_driveByLatches 7 none) rm_X3_driveByLatches (Pg 0 X u [.ref (X.2.1 o0)]) (Qg 0 X (none) u') 0 0 (Aw 0 X) := by
  refine v_met (res := (none, u')) (by decide) (Nat.le_of_ble_eq_true rfl) (fun M K => ?_)
  have K : OkM 0 M X cX3_driveByLatches 7 RX3 rm_X3_driveByLatches none := K
  show V 0 M X (none, u') 7 0 [(0, .ref (X.2.1 o0))] [] u
  unfold f_X3_driveByLatches at hf
  refine v_iconst K (v := 0) (by decide) dX3_driveByLatches_0 ?_
  refine v_istore_n K (ls' := [(1, .int 0), (0, .ref (X.2.1 o0))]) rfl (by decide) rfl dX3_driveByLatches_1 ?_
  refine v_iconst K (v := 0) (by decide) dX3_driveByLatches_2 ?_
  refine v_istore_n K (ls' := [(2, .int 0), (1, .int 0), (0, .ref (X.2.1 o0))]) rfl (by decide) rfl dX3_driveByLatches_3 ?_
  refine v_iconst K (v := 0) (by decide) dX3_driveByLatches_4 ?_
  refine v_istore_n K (ls' := [(3, .int 0), (2, .int 0), (1, .int 0), (0, .ref (X.2.1 o0))]) rfl (by decide) rfl dX3_driveByLatches_5 ?_
  refine v_sub [3, 2, 1, 0] rfl ?_
  exact t_X3_driveByLatches_6 h0 K N 0 0 0 u hf
abbrev rm_X3_applyShorts : Room := { frames := 1, cells := 0, slots := 0, locals := 20 }
set_option maxRecDepth 20000 in
theorem t_X3_applyShorts_102 {M : Mx} {X : Wx} {N : Nat} {o0 : Nat} {o1 : Nat} {p1 : Int32} (h0 : akd o0 = 3) (h1 : akd o1 = 9) {r : Unit} {u' : ASt} (K : OkM 0 M X cX3_applyShorts 8 RX3 rm_X3_applyShorts none) {k2 : Int32 → ASt → Option (Unit × ASt)} (hk2 : ∀ (x3 : Int32) (u : ASt), k2 x3 u = some (r, u') → V 0 M X (none, u') 8 2 [(0, .ref (X.2.1 o0)), (1, .ref (X.2.1 o1)), (2, .int p1), (3, .int x3)] [] u) {x3 : Int32} {u : ASt} (hf : f_X3_applyShorts_102 N o0 o1 p1 k2 x3 u = some (r, u')) : V 0 M X (none, u') 8 102 [(0, .ref (X.2.1 o0)), (1, .ref (X.2.1 o1)), (2, .int p1), (3, .int x3)] [] u := by
  unfold f_X3_applyShorts_102 at hf
  refine v_iinc K 3 (v := x3 + 1) (ls' := [(3, .int (x3 + 1)), (0, .ref (X.2.1 o0)), (1, .ref (X.2.1 o1)), (2, .int p1)]) rfl rfl (by decide) rfl dX3_applyShorts_102 ?_
  refine v_goto K 2 (by decide) dX3_applyShorts_105 ?_
  refine v_sub [1, 2, 3, 0] rfl ?_
  exact hk2 (x3 + 1) u hf
set_option maxRecDepth 20000 in
theorem t_X3_applyShorts_82 {M : Mx} {X : Wx} {N : Nat} {o0 : Nat} {o1 : Nat} {p1 : Int32} (h0 : akd o0 = 3) (h1 : akd o1 = 9) {r : Unit} {u' : ASt} (K : OkM 0 M X cX3_applyShorts 8 RX3 rm_X3_applyShorts none) {k2 : Int32 → ASt → Option (Unit × ASt)} (hk2 : ∀ (x3 : Int32) (u : ASt), k2 x3 u = some (r, u') → V 0 M X (none, u') 8 2 [(0, .ref (X.2.1 o0)), (1, .ref (X.2.1 o1)), (2, .int p1), (3, .int x3)] [] u) {x3 : Int32} {x5 : Int32} {x6 : Int32} {y0 : Int32} {u : ASt} (hf : f_X3_applyShorts_82 N o0 o1 p1 k2 x3 x5 x6 y0 u = some (r, u')) : V 0 M X (none, u') 8 82 [(0, .ref (X.2.1 o0)), (1, .ref (X.2.1 o1)), (2, .int p1), (3, .int x3), (5, .int x5), (6, .int x6)] [.int y0] u := by
  unfold f_X3_applyShorts_82 at hf
  refine v_istore K (ls' := [(7, .int y0), (0, .ref (X.2.1 o0)), (1, .ref (X.2.1 o1)), (2, .int p1), (3, .int x3), (5, .int x5), (6, .int x6)]) (by decide) rfl dX3_applyShorts_82 ?_
  refine v_aload_n K 1 rfl rfl dX3_applyShorts_84 ?_
  refine gf_3_1 K h0 fl_X3_9 dX3_applyShorts_85 ?_
  refine v_iload K 5 rfl dX3_applyShorts_88 ?_
  refine v_iload K 0 rfl dX3_applyShorts_90 ?_
  obtain ⟨g1, hf⟩ := chk_of hf
  refine v_iast K (am0_9 (ak_3_1 h0)) (.inl (ak_3_1 h0)) g1 dX3_applyShorts_92 ?_
  refine v_st (fun u2 eu2 => ?_)
  have hf := lte_of eu2 hf
  refine v_aload_n K 1 rfl rfl dX3_applyShorts_93 ?_
  refine gf_3_1 K h0 fl_X3_9 dX3_applyShorts_94 ?_
  refine v_iload K 6 rfl dX3_applyShorts_97 ?_
  refine v_iload K 0 rfl dX3_applyShorts_99 ?_
  obtain ⟨g3, hf⟩ := chk_of hf
  refine v_iast K (am0_9 (ak_3_1 h0)) (.inl (ak_3_1 h0)) g3 dX3_applyShorts_101 ?_
  refine v_st (fun u4 eu4 => ?_)
  have hf := lte_of eu4 hf
  refine v_sub [1, 2, 3, 4] rfl ?_
  exact t_X3_applyShorts_102 h0 h1 K hk2 hf
set_option maxRecDepth 20000 in
theorem t_X3_applyShorts_27 {M : Mx} {X : Wx} {N : Nat} {o0 : Nat} {o1 : Nat} {p1 : Int32} (h0 : akd o0 = 3) (h1 : akd o1 = 9) {r : Unit} {u' : ASt} (K : OkM 0 M X cX3_applyShorts 8 RX3 rm_X3_applyShorts none) {k2 : Int32 → ASt → Option (Unit × ASt)} (hk2 : ∀ (x3 : Int32) (u : ASt), k2 x3 u = some (r, u') → V 0 M X (none, u') 8 2 [(0, .ref (X.2.1 o0)), (1, .ref (X.2.1 o1)), (2, .int p1), (3, .int x3)] [] u) {x3 : Int32} {x4 : Int32} {u : ASt} (hf : f_X3_applyShorts_27 N o0 o1 p1 k2 x3 x4 u = some (r, u')) : V 0 M X (none, u') 8 27 [(0, .ref (X.2.1 o0)), (1, .ref (X.2.1 o1)), (2, .int p1), (3, .int x3), (4, .int x4)] [] u := by
  unfold f_X3_applyShorts_27 at hf
  refine v_aload_n K 1 rfl rfl dX3_applyShorts_27 ?_
  refine v_iload_n K 3 rfl rfl dX3_applyShorts_28 ?_
  obtain ⟨g5, hf⟩ := chk_of hf
  refine v_iald K (am0_9 h1) (.inl h1) g5 dX3_applyShorts_29 ?_
  obtain ⟨r7, u6, e8, hf⟩ := bnd_of hf
  refine v_callNi K (c_X6_tensOf e8) cv_X6_tensOf (List.mem_of_getElem? (i := 4) rfl) ⟨rfl, rfl, Nat.le_of_ble_eq_true rfl, Nat.le_of_ble_eq_true rfl⟩ rfl rfl (Nat.le_of_ble_eq_true rfl) dX3_applyShorts_30 ?_
  refine v_istore K (ls' := [(5, .int r7), (0, .ref (X.2.1 o0)), (1, .ref (X.2.1 o1)), (2, .int p1), (3, .int x3), (4, .int x4)]) (by decide) rfl dX3_applyShorts_33 ?_
  refine v_aload_n K 2 rfl rfl dX3_applyShorts_35 ?_
  refine v_iload_n K 4 rfl rfl dX3_applyShorts_36 ?_
  obtain ⟨g9, hf⟩ := chk_of hf
  refine v_iald K (am0_9 h1) (.inl h1) g9 dX3_applyShorts_37 ?_
  obtain ⟨r11, u10, e12, hf⟩ := bnd_of hf
  refine v_callNi K (c_X6_onesOf e12) cv_X6_onesOf (List.mem_of_getElem? (i := 5) rfl) ⟨rfl, rfl, Nat.le_of_ble_eq_true rfl, Nat.le_of_ble_eq_true rfl⟩ rfl rfl (Nat.le_of_ble_eq_true rfl) dX3_applyShorts_38 ?_
  refine v_istore K (ls' := [(6, .int r11), (5, .int r7), (0, .ref (X.2.1 o0)), (1, .ref (X.2.1 o1)), (2, .int p1), (3, .int x3), (4, .int x4)]) (by decide) rfl dX3_applyShorts_41 ?_
  refine v_iload K 6 rfl dX3_applyShorts_43 ?_
  refine v_iconst K (v := 3) (by decide) dX3_applyShorts_45 ?_
  refine v_icmp_ne K 67 (by decide) dX3_applyShorts_46 (fun c13 => ?_) (fun c13 => ?_)
  · have hf := ite_f c13 hf
    refine v_aload_n K 2 rfl rfl dX3_applyShorts_67 ?_
    refine gf_3_1 K h0 fl_X3_9 dX3_applyShorts_68 ?_
    refine v_iload K 1 rfl dX3_applyShorts_71 ?_
    obtain ⟨g14, hf⟩ := chk_of hf
    refine v_iald K (am0_9 (ak_3_1 h0)) (.inl (ak_3_1 h0)) g14 dX3_applyShorts_73 ?_
    refine v_aload_n K 2 rfl rfl dX3_applyShorts_74 ?_
    refine gf_3_1 K h0 fl_X3_9 dX3_applyShorts_75 ?_
    refine v_iload K 0 rfl dX3_applyShorts_78 ?_
    obtain ⟨g15, hf⟩ := chk_of hf
    refine v_iald K (am0_9 (ak_3_1 h0)) (.inl (ak_3_1 h0)) g15 dX3_applyShorts_80 ?_
    refine v_ior K dX3_applyShorts_81 ?_
    refine v_sub [2, 3, 4, 5, 1, 0] rfl ?_
    exact t_X3_applyShorts_82 h0 h1 K hk2 hf
  · have hf := ite_t c13 hf
    refine v_aload_n K 2 rfl rfl dX3_applyShorts_49 ?_
    refine gf_3_1 K h0 fl_X3_9 dX3_applyShorts_50 ?_
    refine v_iload K 1 rfl dX3_applyShorts_53 ?_
    obtain ⟨g16, hf⟩ := chk_of hf
    refine v_iald K (am0_9 (ak_3_1 h0)) (.inl (ak_3_1 h0)) g16 dX3_applyShorts_55 ?_
    refine v_aload_n K 2 rfl rfl dX3_applyShorts_56 ?_
    refine gf_3_1 K h0 fl_X3_9 dX3_applyShorts_57 ?_
    refine v_iload K 0 rfl dX3_applyShorts_60 ?_
    obtain ⟨g17, hf⟩ := chk_of hf
    refine v_iald K (am0_9 (ak_3_1 h0)) (.inl (ak_3_1 h0)) g17 dX3_applyShorts_62 ?_
    refine v_iand K dX3_applyShorts_63 ?_
    refine v_goto K 82 (by decide) dX3_applyShorts_64 ?_
    refine v_sub [2, 3, 4, 5, 1, 0] rfl ?_
    exact t_X3_applyShorts_82 h0 h1 K hk2 hf
set_option maxRecDepth 20000 in
theorem t_X3_applyShorts_2 {M : Mx} {X : Wx} {N : Nat} {o0 : Nat} {o1 : Nat} {p1 : Int32} (h0 : akd o0 = 3) (h1 : akd o1 = 9) {r : Unit} {u' : ASt} (K : OkM 0 M X cX3_applyShorts 8 RX3 rm_X3_applyShorts none) : ∀ (n : Nat) (x3 : Int32) (u : ASt), f_X3_applyShorts_2 N o0 o1 p1 n x3 u = some (r, u') → V 0 M X (none, u') 8 2 [(0, .ref (X.2.1 o0)), (1, .ref (X.2.1 o1)), (2, .int p1), (3, .int x3)] [] u := by
  intro n
  induction n with
  | zero => intro x3 u hf; cases hf
  | succ n ih =>
    intro x3 u hf
    rw [f_X3_applyShorts_2] at hf
    refine v_iload_n K 3 rfl rfl dX3_applyShorts_2 ?_
    refine v_iload_n K 2 rfl rfl dX3_applyShorts_3 ?_
    refine v_icmp_ge K 108 (by decide) dX3_applyShorts_4 (fun c18 => ?_) (fun c18 => ?_)
    · have hf := ite_t c18 hf
      obtain ⟨rfl, rfl⟩ := pair_of hf
      exact v_vret K dX3_applyShorts_108
    · have hf := ite_f c18 hf
      refine v_aload_n K 1 rfl rfl dX3_applyShorts_7 ?_
      refine v_iload_n K 3 rfl rfl dX3_applyShorts_8 ?_
      obtain ⟨g19, hf⟩ := chk_of hf
      refine v_iald K (am0_9 h1) (.inl h1) g19 dX3_applyShorts_9 ?_
      obtain ⟨r21, u20, e22, hf⟩ := bnd_of hf
      refine v_callNi K (c_X6_kindOf e22) cv_X6_kindOf (List.mem_of_getElem? (i := 3) rfl) ⟨rfl, rfl, Nat.le_of_ble_eq_true rfl, Nat.le_of_ble_eq_true rfl⟩ rfl rfl (Nat.le_of_ble_eq_true rfl) dX3_applyShorts_10 ?_
      refine v_istore K (ls' := [(4, .int r21), (0, .ref (X.2.1 o0)), (1, .ref (X.2.1 o1)), (2, .int p1), (3, .int x3)]) (by decide) rfl dX3_applyShorts_13 ?_
      refine v_iload K 0 rfl dX3_applyShorts_15 ?_
      refine v_iconst K (v := 3) (by decide) dX3_applyShorts_17 ?_
      refine v_icmp_eq K 27 (by decide) dX3_applyShorts_18 (fun c23 => ?_) (fun c23 => ?_)
      · have hf := ite_t c23 hf
        refine v_sub [1, 2, 3, 4, 0] rfl ?_
        exact t_X3_applyShorts_27 h0 h1 K ih hf
      · have hf := ite_f c23 hf
        refine v_iload K 0 rfl dX3_applyShorts_21 ?_
        refine v_iconst K (v := 4) (by decide) dX3_applyShorts_23 ?_
        refine v_icmp_ne K 102 (by decide) dX3_applyShorts_24 (fun c24 => ?_) (fun c24 => ?_)
        · have hf := ite_f c24 hf
          refine v_sub [1, 2, 3, 4] rfl ?_
          exact t_X3_applyShorts_102 h0 h1 K ih hf
        · have hf := ite_t c24 hf
          refine v_sub [1, 2, 3, 4, 0] rfl ?_
          exact t_X3_applyShorts_27 h0 h1 K ih hf
set_option maxRecDepth 20000 in
theorem c_X3_applyShorts {X : Wx} {N : Nat} {o0 : Nat} {o1 : Nat} {p1 : Int32} (h0 : akd o0 = 3) (h1 : akd o1 = 9) {u u' : ASt} {r : Unit} (hf : f_X3_applyShorts N o0 o1 p1 u = some (r, u')) (l : Launch) : Met l yX3_applyShorts (ws_ yX3_applyShorts cX3_applyShorts 8 none) rm_X3_applyShorts (Pg 0 X u [.ref (X.2.1 o0), .ref (X.2.1 o1), .int p1]) (Qg 0 X (none) u') 0 0 (Aw 0 X) := by
  refine v_met (res := (none, u')) (by decide) (Nat.le_of_ble_eq_true rfl) (fun M K => ?_)
  have K : OkM 0 M X cX3_applyShorts 8 RX3 rm_X3_applyShorts none := K
  show V 0 M X (none, u') 8 0 [(0, .ref (X.2.1 o0)), (1, .ref (X.2.1 o1)), (2, .int p1)] [] u
  unfold f_X3_applyShorts at hf
  refine v_iconst K (v := 0) (by decide) dX3_applyShorts_0 ?_
  refine v_istore_n K (ls' := [(3, .int 0), (0, .ref (X.2.1 o0)), (1, .ref (X.2.1 o1)), (2, .int p1)]) rfl (by decide) rfl dX3_applyShorts_1 ?_
  refine v_sub [1, 2, 3, 0] rfl ?_
  exact t_X3_applyShorts_2 h0 h1 K N 0 u hf
abbrev rm_X3_applyStuck : Room := { frames := 1, cells := 0, slots := 0, locals := 20 }
set_option maxRecDepth 20000 in
theorem t_X3_applyStuck_46 {M : Mx} {X : Wx} {N : Nat} {o0 : Nat} {o1 : Nat} {p1 : Int32} (h0 : akd o0 = 3) (h1 : akd o1 = 9) {r : Unit} {u' : ASt} (K : OkM 0 M X cX3_applyStuck 4 RX3 rm_X3_applyStuck none) {k2 : Int32 → ASt → Option (Unit × ASt)} (hk2 : ∀ (x3 : Int32) (u : ASt), k2 x3 u = some (r, u') → V 0 M X (none, u') 4 2 [(0, .ref (X.2.1 o0)), (1, .ref (X.2.1 o1)), (2, .int p1), (3, .int x3)] [] u) {x3 : Int32} {u : ASt} (hf : f_X3_applyStuck_46 N o0 o1 p1 k2 x3 u = some (r, u')) : V 0 M X (none, u') 4 46 [(0, .ref (X.2.1 o0)), (1, .ref (X.2.1 o1)), (2, .int p1), (3, .int x3)] [] u := by
  unfold f_X3_applyStuck_46 at hf
  refine v_iinc K 3 (v := x3 + 1) (ls' := [(3, .int (x3 + 1)), (0, .ref (X.2.1 o0)), (1, .ref (X.2.1 o1)), (2, .int p1)]) rfl rfl (by decide) rfl dX3_applyStuck_46 ?_
  refine v_goto K 2 (by decide) dX3_applyStuck_49 ?_
  refine v_sub [1, 2, 3, 0] rfl ?_
  exact hk2 (x3 + 1) u hf
set_option maxRecDepth 20000 in
theorem t_X3_applyStuck_45 {M : Mx} {X : Wx} {N : Nat} {o0 : Nat} {o1 : Nat} {p1 : Int32} (h0 : akd o0 = 3) (h1 : akd o1 = 9) {r : Unit} {u' : ASt} (K : OkM 0 M X cX3_applyStuck 4 RX3 rm_X3_applyStuck none) {k2 : Int32 → ASt → Option (Unit × ASt)} (hk2 : ∀ (x3 : Int32) (u : ASt), k2 x3 u = some (r, u') → V 0 M X (none, u') 4 2 [(0, .ref (X.2.1 o0)), (1, .ref (X.2.1 o1)), (2, .int p1), (3, .int x3)] [] u) {x3 : Int32} {c0 : Nat} {y1 : Int32} {y2 : Int32} (hc0 : akd c0 = 9) {u : ASt} (hf : f_X3_applyStuck_45 N o0 o1 p1 k2 x3 c0 y1 y2 u = some (r, u')) : V 0 M X (none, u') 4 45 [(0, .ref (X.2.1 o0)), (1, .ref (X.2.1 o1)), (2, .int p1), (3, .int x3)] [.int y2, .int y1, .ref (X.2.1 c0)] u := by
  unfold f_X3_applyStuck_45 at hf
  obtain ⟨g1, hf⟩ := chk_of hf
  refine v_iast K (am0_9 hc0) (.inl hc0) g1 dX3_applyStuck_45 ?_
  refine v_st (fun u2 eu2 => ?_)
  have hf := lte_of eu2 hf
  exact t_X3_applyStuck_46 h0 h1 K hk2 hf
set_option maxRecDepth 20000 in
theorem t_X3_applyStuck_2 {M : Mx} {X : Wx} {N : Nat} {o0 : Nat} {o1 : Nat} {p1 : Int32} (h0 : akd o0 = 3) (h1 : akd o1 = 9) {r : Unit} {u' : ASt} (K : OkM 0 M X cX3_applyStuck 4 RX3 rm_X3_applyStuck none) : ∀ (n : Nat) (x3 : Int32) (u : ASt), f_X3_applyStuck_2 N o0 o1 p1 n x3 u = some (r, u') → V 0 M X (none, u') 4 2 [(0, .ref (X.2.1 o0)), (1, .ref (X.2.1 o1)), (2, .int p1), (3, .int x3)] [] u := by
  intro n
  induction n with
  | zero => intro x3 u hf; cases hf
  | succ n ih =>
    intro x3 u hf
    rw [f_X3_applyStuck_2] at hf
    refine v_iload_n K 3 rfl rfl dX3_applyStuck_2 ?_
    refine v_iload_n K 2 rfl rfl dX3_applyStuck_3 ?_
    refine v_icmp_ge K 52 (by decide) dX3_applyStuck_4 (fun c3 => ?_) (fun c3 => ?_)
    · have hf := ite_t c3 hf
      obtain ⟨rfl, rfl⟩ := pair_of hf
      exact v_vret K dX3_applyStuck_52
    · have hf := ite_f c3 hf
      refine v_aload_n K 1 rfl rfl dX3_applyStuck_7 ?_
      refine v_iload_n K 3 rfl rfl dX3_applyStuck_8 ?_
      obtain ⟨g4, hf⟩ := chk_of hf
      refine v_iald K (am0_9 h1) (.inl h1) g4 dX3_applyStuck_9 ?_
      obtain ⟨r6, u5, e7, hf⟩ := bnd_of hf
      refine v_callNi K (c_X6_kindOf e7) cv_X6_kindOf (List.mem_of_getElem? (i := 3) rfl) ⟨rfl, rfl, Nat.le_of_ble_eq_true rfl, Nat.le_of_ble_eq_true rfl⟩ rfl rfl (Nat.le_of_ble_eq_true rfl) dX3_applyStuck_10 ?_
      refine v_iconst K (v := 2) (by decide) dX3_applyStuck_13 ?_
      refine v_icmp_ne K 46 (by decide) dX3_applyStuck_14 (fun c8 => ?_) (fun c8 => ?_)
      · have hf := ite_f c8 hf
        exact t_X3_applyStuck_46 h0 h1 K ih hf
      · have hf := ite_t c8 hf
        refine v_aload_n K 0 rfl rfl dX3_applyStuck_17 ?_
        refine gf_3_1 K h0 fl_X3_9 dX3_applyStuck_18 ?_
        refine v_aload_n K 1 rfl rfl dX3_applyStuck_21 ?_
        refine v_iload_n K 3 rfl rfl dX3_applyStuck_22 ?_
        obtain ⟨g9, hf⟩ := chk_of hf
        refine v_iald K (am0_9 h1) (.inl h1) g9 dX3_applyStuck_23 ?_
        obtain ⟨r11, u10, e12, hf⟩ := bnd_of hf
        refine v_callNi K (c_X6_tensOf e12) cv_X6_tensOf (List.mem_of_getElem? (i := 4) rfl) ⟨rfl, rfl, Nat.le_of_ble_eq_true rfl, Nat.le_of_ble_eq_true rfl⟩ rfl rfl (Nat.le_of_ble_eq_true rfl) dX3_applyStuck_24 ?_
        refine v_aload_n K 1 rfl rfl dX3_applyStuck_27 ?_
        refine v_iload_n K 3 rfl rfl dX3_applyStuck_28 ?_
        obtain ⟨g13, hf⟩ := chk_of hf
        refine v_iald K (am0_9 h1) (.inl h1) g13 dX3_applyStuck_29 ?_
        obtain ⟨r15, u14, e16, hf⟩ := bnd_of hf
        refine v_callNi K (c_X6_onesOf e16) cv_X6_onesOf (List.mem_of_getElem? (i := 5) rfl) ⟨rfl, rfl, Nat.le_of_ble_eq_true rfl, Nat.le_of_ble_eq_true rfl⟩ rfl rfl (Nat.le_of_ble_eq_true rfl) dX3_applyStuck_30 ?_
        refine v_iconst K (v := 1) (by decide) dX3_applyStuck_33 ?_
        refine v_icmp_ne K 44 (by decide) dX3_applyStuck_34 (fun c17 => ?_) (fun c17 => ?_)
        · have hf := ite_f c17 hf
          refine v_iconst K (v := 0) (by decide) dX3_applyStuck_44 ?_
          exact t_X3_applyStuck_45 h0 h1 K ih (ak_3_1 h0) hf
        · have hf := ite_t c17 hf
          refine v_aload_n K 0 rfl rfl dX3_applyStuck_37 ?_
          refine gf_3_4 K h0 fl_X3_22 dX3_applyStuck_38 ?_
          refine v_goto K 45 (by decide) dX3_applyStuck_41 ?_
          exact t_X3_applyStuck_45 h0 h1 K ih (ak_3_1 h0) hf
set_option maxRecDepth 20000 in
theorem c_X3_applyStuck {X : Wx} {N : Nat} {o0 : Nat} {o1 : Nat} {p1 : Int32} (h0 : akd o0 = 3) (h1 : akd o1 = 9) {u u' : ASt} {r : Unit} (hf : f_X3_applyStuck N o0 o1 p1 u = some (r, u')) (l : Launch) : Met l yX3_applyStuck (ws_ yX3_applyStuck cX3_applyStuck 4 none) rm_X3_applyStuck (Pg 0 X u [.ref (X.2.1 o0), .ref (X.2.1 o1), .int p1]) (Qg 0 X (none) u') 0 0 (Aw 0 X) := by
  refine v_met (res := (none, u')) (by decide) (Nat.le_of_ble_eq_true rfl) (fun M K => ?_)
  have K : OkM 0 M X cX3_applyStuck 4 RX3 rm_X3_applyStuck none := K
  show V 0 M X (none, u') 4 0 [(0, .ref (X.2.1 o0)), (1, .ref (X.2.1 o1)), (2, .int p1)] [] u
  unfold f_X3_applyStuck at hf
  refine v_iconst K (v := 0) (by decide) dX3_applyStuck_0 ?_
  refine v_istore_n K (ls' := [(3, .int 0), (0, .ref (X.2.1 o0)), (1, .ref (X.2.1 o1)), (2, .int p1)]) rfl (by decide) rfl dX3_applyStuck_1 ?_
  refine v_sub [1, 2, 3, 0] rfl ?_
  exact t_X3_applyStuck_2 h0 h1 K N 0 u hf
abbrev rm_X3_settleNow : Room := { frames := 2, cells := 0, slots := 0, locals := 47 }
set_option maxRecDepth 20000 in
theorem c_X3_settleNow {X : Wx} {N : Nat} {o0 : Nat} (h0 : akd o0 = 3) {u u' : ASt} {r : Unit} (hf : f_X3_settleNow N o0 u = some (r, u')) (l : Launch) : Met l yX3_settleNow (ws_ yX3_settleNow cX3_settleNow 1 none) rm_X3_settleNow (Pg 0 X u [.ref (X.2.1 o0)]) (Qg 0 X (none) u') 0 0 (Aw 0 X) := by
  refine v_met (res := (none, u')) (by decide) (Nat.le_of_ble_eq_true rfl) (fun M K => ?_)
  have K : OkM 0 M X cX3_settleNow 1 RX3 rm_X3_settleNow none := K
  show V 0 M X (none, u') 1 0 [(0, .ref (X.2.1 o0))] [] u
  unfold f_X3_settleNow at hf
  refine v_aload_n K 0 rfl rfl dX3_settleNow_0 ?_
  refine v_iconst K (v := 1) (by decide) dX3_settleNow_1 ?_
  refine pf_3_4 K h0 fl_X3_22 dX3_settleNow_2 ?_
  refine v_st (fun u1 eu1 => ?_)
  have hf := lte_of eu1 hf
  refine v_aload_n K 0 rfl rfl dX3_settleNow_5 ?_
  refine v_aload_n K 0 rfl rfl dX3_settleNow_6 ?_
  refine gf_3_0 K h0 fl_X3_18 dX3_settleNow_7 ?_
  refine gf_0_2 K (ak_3_0 h0) fl_X3_26 dX3_settleNow_10 ?_
  refine v_aload_n K 0 rfl rfl dX3_settleNow_13 ?_
  refine gf_3_0 K h0 fl_X3_18 dX3_settleNow_14 ?_
  refine gf_0_3 K (ak_3_0 h0) fl_X3_31 dX3_settleNow_17 ?_
  obtain ⟨r3, u2, e4, hf⟩ := bnd_of hf
  refine v_callVv K (c_X3_findOpenCells h0 (ak_0_2 (ak_3_0 h0)) e4) cv_X3_findOpenCells ml_X3_34 (am0_3 h0) h0 kdX3 ⟨rfl, rfl, Nat.le_of_ble_eq_true rfl, Nat.le_of_ble_eq_true rfl⟩ rfl rfl (Nat.le_of_ble_eq_true rfl) dX3_settleNow_20 ?_
  refine v_aload_n K 0 rfl rfl dX3_settleNow_23 ?_
  obtain ⟨r6, u5, e7, hf⟩ := bnd_of hf
  refine v_callVv K (c_X3_driveByLatches h0 e7) cv_X3_driveByLatches ml_X3_38 (am0_3 h0) h0 kdX3 ⟨rfl, rfl, Nat.le_of_ble_eq_true rfl, Nat.le_of_ble_eq_true rfl⟩ rfl rfl (Nat.le_of_ble_eq_true rfl) dX3_settleNow_24 ?_
  refine v_aload_n K 0 rfl rfl dX3_settleNow_27 ?_
  refine v_aload_n K 0 rfl rfl dX3_settleNow_28 ?_
  refine gf_3_0 K h0 fl_X3_18 dX3_settleNow_29 ?_
  refine gf_0_2 K (ak_3_0 h0) fl_X3_26 dX3_settleNow_32 ?_
  refine v_aload_n K 0 rfl rfl dX3_settleNow_35 ?_
  refine gf_3_0 K h0 fl_X3_18 dX3_settleNow_36 ?_
  refine gf_0_3 K (ak_3_0 h0) fl_X3_31 dX3_settleNow_39 ?_
  obtain ⟨r9, u8, e10, hf⟩ := bnd_of hf
  refine v_callVv K (c_X3_applyShorts h0 (ak_0_2 (ak_3_0 h0)) e10) cv_X3_applyShorts ml_X3_41 (am0_3 h0) h0 kdX3 ⟨rfl, rfl, Nat.le_of_ble_eq_true rfl, Nat.le_of_ble_eq_true rfl⟩ rfl rfl (Nat.le_of_ble_eq_true rfl) dX3_settleNow_42 ?_
  refine v_aload_n K 0 rfl rfl dX3_settleNow_45 ?_
  refine v_aload_n K 0 rfl rfl dX3_settleNow_46 ?_
  refine gf_3_0 K h0 fl_X3_18 dX3_settleNow_47 ?_
  refine gf_0_2 K (ak_3_0 h0) fl_X3_26 dX3_settleNow_50 ?_
  refine v_aload_n K 0 rfl rfl dX3_settleNow_53 ?_
  refine gf_3_0 K h0 fl_X3_18 dX3_settleNow_54 ?_
  refine gf_0_3 K (ak_3_0 h0) fl_X3_31 dX3_settleNow_57 ?_
  obtain ⟨r12, u11, e13, hf⟩ := bnd_of hf
  refine v_callVv K (c_X3_applyStuck h0 (ak_0_2 (ak_3_0 h0)) e13) cv_X3_applyStuck ml_X3_44 (am0_3 h0) h0 kdX3 ⟨rfl, rfl, Nat.le_of_ble_eq_true rfl, Nat.le_of_ble_eq_true rfl⟩ rfl rfl (Nat.le_of_ble_eq_true rfl) dX3_settleNow_60 ?_
  obtain ⟨rfl, rfl⟩ := pair_of hf
  exact v_vret K dX3_settleNow_63
abbrev rm_X1_scansCells : Room := { frames := 0, cells := 0, slots := 0, locals := 0 }
set_option maxRecDepth 20000 in
theorem t_X1_scansCells_26 {M : Mx} {X : Wx} {N : Nat} {o0 : Nat} (h0 : akd o0 = 1) {r : Int32} {u' : ASt} (K : OkM 0 M X cX1_scansCells 1 RX1 rm_X1_scansCells (some .boolean)) {u : ASt} (hf : f_X1_scansCells_26 N o0  u = some (r, u')) : V 0 M X (some (.int r), u') 1 26 [] [] u := by
  unfold f_X1_scansCells_26 at hf
  refine v_iconst K (v := 0) (by decide) dX1_scansCells_26 ?_
  obtain ⟨rfl, rfl⟩ := pair_of hf
  exact v_zret K (by decide) dX1_scansCells_27
set_option maxRecDepth 20000 in
theorem t_X1_scansCells_15 {M : Mx} {X : Wx} {N : Nat} {o0 : Nat} (h0 : akd o0 = 1) {r : Int32} {u' : ASt} (K : OkM 0 M X cX1_scansCells 1 RX1 rm_X1_scansCells (some .boolean)) {u : ASt} (hf : f_X1_scansCells_15 N o0  u = some (r, u')) : V 0 M X (some (.int r), u') 1 15 [(0, .ref (X.2.1 o0))] [] u := by
  unfold f_X1_scansCells_15 at hf
  refine v_aload_n K 0 rfl rfl dX1_scansCells_15 ?_
  refine gf_1_6 K h0 fl_X1_31 dX1_scansCells_16 ?_
  refine v_if_le K 26 (by decide) dX1_scansCells_19 (fun c1 => ?_) (fun c1 => ?_)
  · have hf := ite_t c1 hf
    refine v_sub [] rfl ?_
    exact t_X1_scansCells_26 h0 K hf
  · have hf := ite_f c1 hf
    refine v_iconst K (v := 1) (by decide) dX1_scansCells_22 ?_
    refine v_goto K 27 (by decide) dX1_scansCells_23 ?_
    obtain ⟨rfl, rfl⟩ := pair_of hf
    exact v_zret K (by decide) dX1_scansCells_27
set_option maxRecDepth 20000 in
theorem c_X1_scansCells {X : Wx} {N : Nat} {o0 : Nat} (h0 : akd o0 = 1) {u u' : ASt} {r : Int32} (hf : f_X1_scansCells N o0 u = some (r, u')) (l : Launch) : Met l yX1_scansCells (ws_ yX1_scansCells cX1_scansCells 1 (some .boolean)) rm_X1_scansCells (Pg 0 X u [.ref (X.2.1 o0)]) (Qg 0 X (some (.int r)) u') 0 0 (Aw 0 X) := by
  refine v_met (res := (some (.int r), u')) (by decide) (Nat.le_of_ble_eq_true rfl) (fun M K => ?_)
  have K : OkM 0 M X cX1_scansCells 1 RX1 rm_X1_scansCells (some .boolean) := K
  show V 0 M X (some (.int r), u') 1 0 [(0, .ref (X.2.1 o0))] [] u
  unfold f_X1_scansCells at hf
  refine v_aload_n K 0 rfl rfl dX1_scansCells_0 ?_
  refine gf_1_2 K h0 fl_X1_40 dX1_scansCells_1 ?_
  refine v_if_eq K 15 (by decide) dX1_scansCells_4 (fun c2 => ?_) (fun c2 => ?_)
  · have hf := ite_t c2 hf
    exact t_X1_scansCells_15 h0 K hf
  · have hf := ite_f c2 hf
    refine v_aload_n K 0 rfl rfl dX1_scansCells_7 ?_
    refine gf_1_2 K h0 fl_X1_40 dX1_scansCells_8 ?_
    refine v_iconst K (v := 1) (by decide) dX1_scansCells_11 ?_
    refine v_icmp_ne K 26 (by decide) dX1_scansCells_12 (fun c3 => ?_) (fun c3 => ?_)
    · have hf := ite_f c3 hf
      refine v_sub [] rfl ?_
      exact t_X1_scansCells_26 h0 K hf
    · have hf := ite_t c3 hf
      exact t_X1_scansCells_15 h0 K hf
abbrev rm_X1_isOutput : Room := { frames := 1, cells := 0, slots := 0, locals := 21 }
set_option maxRecDepth 20000 in
theorem c_X1_isOutput {X : Wx} {N : Nat} {o0 : Nat} {p1 : Int32} (h0 : akd o0 = 1) {u u' : ASt} {r : Int32} (hf : f_X1_isOutput N o0 p1 u = some (r, u')) (l : Launch) : Met l yX1_isOutput (ws_ yX1_isOutput cX1_isOutput 2 (some .boolean)) rm_X1_isOutput (Pg 0 X u [.ref (X.2.1 o0), .int p1]) (Qg 0 X (some (.int r)) u') 0 0 (Aw 0 X) := by
  refine v_met (res := (some (.int r), u')) (by decide) (Nat.le_of_ble_eq_true rfl) (fun M K => ?_)
  have K : OkM 0 M X cX1_isOutput 2 RX1 rm_X1_isOutput (some .boolean) := K
  show V 0 M X (some (.int r), u') 2 0 [(0, .ref (X.2.1 o0)), (1, .int p1)] [] u
  unfold f_X1_isOutput at hf
  refine v_aload_n K 0 rfl rfl dX1_isOutput_0 ?_
  refine gf_1_7 K h0 fl_X1_34 dX1_isOutput_1 ?_
  refine v_iload_n K 1 rfl rfl dX1_isOutput_4 ?_
  obtain ⟨r2, u1, e3, hf⟩ := bnd_of hf
  refine v_callNi K (c_X6_isMember e3) cv_X6_isMember (List.mem_of_getElem? (i := 7) rfl) ⟨rfl, rfl, Nat.le_of_ble_eq_true rfl, Nat.le_of_ble_eq_true rfl⟩ rfl rfl (Nat.le_of_ble_eq_true rfl) dX1_isOutput_5 ?_
  obtain ⟨g4, hf⟩ := chk_of hf
  obtain ⟨rfl, rfl⟩ := pair_of hf
  exact v_zret K g4 dX1_isOutput_8
abbrev rm_X3_seenBy : Room := { frames := 1, cells := 0, slots := 0, locals := 21 }
set_option maxRecDepth 20000 in
theorem c_X3_seenBy {X : Wx} {N : Nat} {o0 : Nat} {p1 : Int32} {p2 : Int32} (h0 : akd o0 = 3) {u u' : ASt} {r : Int32} (hf : f_X3_seenBy N o0 p1 p2 u = some (r, u')) (l : Launch) : Met l yX3_seenBy (ws_ yX3_seenBy cX3_seenBy 3 (some .int)) rm_X3_seenBy (Pg 0 X u [.ref (X.2.1 o0), .int p1, .int p2]) (Qg 0 X (some (.int r)) u') 0 0 (Aw 0 X) := by
  refine v_met (res := (some (.int r), u')) (by decide) (Nat.le_of_ble_eq_true rfl) (fun M K => ?_)
  have K : OkM 0 M X cX3_seenBy 3 RX3 rm_X3_seenBy (some .int) := K
  show V 0 M X (some (.int r), u') 3 0 [(0, .ref (X.2.1 o0)), (1, .int p1), (2, .int p2)] [] u
  unfold f_X3_seenBy at hf
  refine v_aload_n K 0 rfl rfl dX3_seenBy_0 ?_
  refine gf_3_2 K h0 fl_X3_15 dX3_seenBy_1 ?_
  refine v_iload_n K 1 rfl rfl dX3_seenBy_4 ?_
  obtain ⟨g1, hf⟩ := chk_of hf
  refine v_iald K (am0_9 (ak_3_2 h0)) (.inl (ak_3_2 h0)) g1 dX3_seenBy_5 ?_
  refine v_iload_n K 2 rfl rfl dX3_seenBy_6 ?_
  obtain ⟨r3, u2, e4, hf⟩ := bnd_of hf
  refine v_callNi K (c_X6_isMember e4) cv_X6_isMember (List.mem_of_getElem? (i := 6) rfl) ⟨rfl, rfl, Nat.le_of_ble_eq_true rfl, Nat.le_of_ble_eq_true rfl⟩ rfl rfl (Nat.le_of_ble_eq_true rfl) dX3_seenBy_7 ?_
  refine v_if_eq K 20 (by decide) dX3_seenBy_10 (fun c5 => ?_) (fun c5 => ?_)
  · have hf := ite_t c5 hf
    refine v_aload_n K 0 rfl rfl dX3_seenBy_20 ?_
    refine gf_3_1 K h0 fl_X3_9 dX3_seenBy_21 ?_
    refine v_aload_n K 0 rfl rfl dX3_seenBy_24 ?_
    refine gf_3_0 K h0 fl_X3_18 dX3_seenBy_25 ?_
    refine gf_0_0 K (ak_3_0 h0) fl_X3_71 dX3_seenBy_28 ?_
    refine v_iload_n K 1 rfl rfl dX3_seenBy_31 ?_
    obtain ⟨g6, hf⟩ := chk_of hf
    refine v_aald K (am0_11 (ak_0_0 (ak_3_0 h0))) (.inr (ak_0_0 (ak_3_0 h0))) g6 dX3_seenBy_32 ?_
    refine gf_1_8 K (ae_11 (ak_0_0 (ak_3_0 h0)) g6) fl_X3_99 dX3_seenBy_33 ?_
    refine v_iload_n K 2 rfl rfl dX3_seenBy_36 ?_
    obtain ⟨g7, hf⟩ := chk_of hf
    refine v_iald K (am0_9 (ak_1_8 (ae_11 (ak_0_0 (ak_3_0 h0)) g6))) (.inl (ak_1_8 (ae_11 (ak_0_0 (ak_3_0 h0)) g6))) g7 dX3_seenBy_37 ?_
    obtain ⟨g8, hf⟩ := chk_of hf
    refine v_iald K (am0_9 (ak_3_1 h0)) (.inl (ak_3_1 h0)) g8 dX3_seenBy_38 ?_
    obtain ⟨rfl, rfl⟩ := pair_of hf
    exact v_iret K dX3_seenBy_39
  · have hf := ite_f c5 hf
    refine v_aload_n K 0 rfl rfl dX3_seenBy_13 ?_
    refine gf_3_4 K h0 fl_X3_22 dX3_seenBy_14 ?_
    refine v_goto K 39 (by decide) dX3_seenBy_17 ?_
    obtain ⟨rfl, rfl⟩ := pair_of hf
    exact v_iret K dX3_seenBy_39
abbrev rm_X3_seenByInputs : Room := { frames := 2, cells := 0, slots := 0, locals := 43 }
set_option maxRecDepth 20000 in
theorem t_X3_seenByInputs_46 {M : Mx} {X : Wx} {N : Nat} {o0 : Nat} {p1 : Int32} (h0 : akd o0 = 3) {r : Int32} {u' : ASt} (K : OkM 0 M X cX3_seenByInputs 5 RX3 rm_X3_seenByInputs (some .int)) {k15 : Nat → Int32 → Int32 → ASt → Option (Int32 × ASt)} (hk15 : ∀ (b2 : Nat) (x3 : Int32) (x4 : Int32) (u : ASt), akd b2 = 1 → k15 b2 x3 x4 u = some (r, u') → V 0 M X (some (.int r), u') 5 15 [(0, .ref (X.2.1 o0)), (1, .int p1), (2, .ref (X.2.1 b2)), (3, .int x3), (4, .int x4)] [] u) {b2 : Nat} {x3 : Int32} {x4 : Int32} (hb2 : akd b2 = 1) {u : ASt} (hf : f_X3_seenByInputs_46 N o0 p1 k15 b2 x3 x4 u = some (r, u')) : V 0 M X (some (.int r), u') 5 46 [(0, .ref (X.2.1 o0)), (1, .int p1), (2, .ref (X.2.1 b2)), (3, .int x3), (4, .int x4)] [] u := by
  unfold f_X3_seenByInputs_46 at hf
  refine v_iinc K 4 (v := x4 + 1) (ls' := [(4, .int (x4 + 1)), (0, .ref (X.2.1 o0)), (1, .int p1), (2, .ref (X.2.1 b2)), (3, .int x3)]) rfl rfl (by decide) rfl dX3_seenByInputs_46 ?_
  refine v_goto K 15 (by decide) dX3_seenByInputs_49 ?_
  refine v_sub [1, 2, 3, 4, 0] rfl ?_
  exact hk15 b2 x3 (x4 + 1) u hb2 hf
set_option maxRecDepth 20000 in
theorem t_X3_seenByInputs_15 {M : Mx} {X : Wx} {N : Nat} {o0 : Nat} {p1 : Int32} (h0 : akd o0 = 3) {r : Int32} {u' : ASt} (K : OkM 0 M X cX3_seenByInputs 5 RX3 rm_X3_seenByInputs (some .int)) : ∀ (n : Nat) (b2 : Nat) (x3 : Int32) (x4 : Int32) (u : ASt), akd b2 = 1 → f_X3_seenByInputs_15 N o0 p1 n b2 x3 x4 u = some (r, u') → V 0 M X (some (.int r), u') 5 15 [(0, .ref (X.2.1 o0)), (1, .int p1), (2, .ref (X.2.1 b2)), (3, .int x3), (4, .int x4)] [] u := by
  intro n
  induction n with
  | zero => intro b2 x3 x4 u hb2 hf; cases hf
  | succ n ih =>
    intro b2 x3 x4 u hb2 hf
    rw [f_X3_seenByInputs_15] at hf
    refine v_iload K 4 rfl dX3_seenByInputs_15 ?_
    refine v_aload_n K 2 rfl rfl dX3_seenByInputs_17 ?_
    refine gf_1_6 K hb2 fl_X3_89 dX3_seenByInputs_18 ?_
    refine v_icmp_ge K 52 (by decide) dX3_seenByInputs_21 (fun c1 => ?_) (fun c1 => ?_)
    · have hf := ite_t c1 hf
      refine v_iload_n K 3 rfl rfl dX3_seenByInputs_52 ?_
      obtain ⟨rfl, rfl⟩ := pair_of hf
      exact v_iret K dX3_seenByInputs_53
    · have hf := ite_f c1 hf
      refine v_aload_n K 2 rfl rfl dX3_seenByInputs_24 ?_
      refine v_iload K 4 rfl dX3_seenByInputs_25 ?_
      obtain ⟨r3, u2, e4, hf⟩ := bnd_of hf
      refine v_callVi K (c_X1_isOutput hb2 e4) cv_X1_isOutput ml_X3_105 (am0_1 hb2) hb2 kdX1 ⟨rfl, rfl, Nat.le_of_ble_eq_true rfl, Nat.le_of_ble_eq_true rfl⟩ rfl rfl (Nat.le_of_ble_eq_true rfl) dX3_seenByInputs_27 ?_
      refine v_if_ne K 46 (by decide) dX3_seenByInputs_30 (fun c5 => ?_) (fun c5 => ?_)
      · have hf := ite_f c5 hf
        exact t_X3_seenByInputs_46 h0 K ih hb2 hf
      · have hf := ite_t c5 hf
        refine v_iload_n K 3 rfl rfl dX3_seenByInputs_33 ?_
        refine v_aload_n K 0 rfl rfl dX3_seenByInputs_34 ?_
        refine v_iload_n K 1 rfl rfl dX3_seenByInputs_35 ?_
        refine v_iload K 4 rfl dX3_seenByInputs_36 ?_
        obtain ⟨r7, u6, e8, hf⟩ := bnd_of hf
        refine v_callVi K (c_X3_seenBy h0 e8) cv_X3_seenBy ml_X3_109 (am0_3 h0) h0 kdX3 ⟨rfl, rfl, Nat.le_of_ble_eq_true rfl, Nat.le_of_ble_eq_true rfl⟩ rfl rfl (Nat.le_of_ble_eq_true rfl) dX3_seenByInputs_38 ?_
        refine v_iload K 4 rfl dX3_seenByInputs_41 ?_
        refine v_ishl K dX3_seenByInputs_43 ?_
        refine v_ior K dX3_seenByInputs_44 ?_
        refine v_topi (fun z9 ez9 => ?_)
        have hf := lte_of ez9 hf
        refine v_istore_n K (ls' := [(3, .int z9), (0, .ref (X.2.1 o0)), (1, .int p1), (2, .ref (X.2.1 b2)), (4, .int x4)]) rfl (by decide) rfl dX3_seenByInputs_45 ?_
        refine v_sub [1, 2, 3, 0, 4] rfl ?_
        exact t_X3_seenByInputs_46 h0 K ih hb2 hf
set_option maxRecDepth 20000 in
theorem c_X3_seenByInputs {X : Wx} {N : Nat} {o0 : Nat} {p1 : Int32} (h0 : akd o0 = 3) {u u' : ASt} {r : Int32} (hf : f_X3_seenByInputs N o0 p1 u = some (r, u')) (l : Launch) : Met l yX3_seenByInputs (ws_ yX3_seenByInputs cX3_seenByInputs 5 (some .int)) rm_X3_seenByInputs (Pg 0 X u [.ref (X.2.1 o0), .int p1]) (Qg 0 X (some (.int r)) u') 0 0 (Aw 0 X) := by
  refine v_met (res := (some (.int r), u')) (by decide) (Nat.le_of_ble_eq_true rfl) (fun M K => ?_)
  have K : OkM 0 M X cX3_seenByInputs 5 RX3 rm_X3_seenByInputs (some .int) := K
  show V 0 M X (some (.int r), u') 5 0 [(0, .ref (X.2.1 o0)), (1, .int p1)] [] u
  unfold f_X3_seenByInputs at hf
  refine v_aload_n K 0 rfl rfl dX3_seenByInputs_0 ?_
  refine gf_3_0 K h0 fl_X3_18 dX3_seenByInputs_1 ?_
  refine gf_0_0 K (ak_3_0 h0) fl_X3_71 dX3_seenByInputs_4 ?_
  refine v_iload_n K 1 rfl rfl dX3_seenByInputs_7 ?_
  obtain ⟨g10, hf⟩ := chk_of hf
  refine v_aald K (am0_11 (ak_0_0 (ak_3_0 h0))) (.inr (ak_0_0 (ak_3_0 h0))) g10 dX3_seenByInputs_8 ?_
  refine v_astore_n K (ls' := [(2, .ref (X.2.1 (arf (arf (arf o0 0) 0) (Int32.toNatClampNeg p1)))), (0, .ref (X.2.1 o0)), (1, .int p1)]) rfl (by decide) rfl dX3_seenByInputs_9 ?_
  refine v_iconst K (v := 0) (by decide) dX3_seenByInputs_10 ?_
  refine v_istore_n K (ls' := [(3, .int 0), (2, .ref (X.2.1 (arf (arf (arf o0 0) 0) (Int32.toNatClampNeg p1)))), (0, .ref (X.2.1 o0)), (1, .int p1)]) rfl (by decide) rfl dX3_seenByInputs_11 ?_
  refine v_iconst K (v := 0) (by decide) dX3_seenByInputs_12 ?_
  refine v_istore K (ls' := [(4, .int 0), (3, .int 0), (2, .ref (X.2.1 (arf (arf (arf o0 0) 0) (Int32.toNatClampNeg p1)))), (0, .ref (X.2.1 o0)), (1, .int p1)]) (by decide) rfl dX3_seenByInputs_13 ?_
  refine v_sub [3, 4, 2, 1, 0] rfl ?_
  exact t_X3_seenByInputs_15 h0 K N (arf (arf (arf o0 0) 0) (Int32.toNatClampNeg p1)) 0 0 u (ae_11 (ak_0_0 (ak_3_0 h0)) g10) hf
abbrev rm_X1_scansIdentity : Room := { frames := 0, cells := 0, slots := 0, locals := 0 }
set_option maxRecDepth 20000 in
theorem t_X1_scansIdentity_22 {M : Mx} {X : Wx} {N : Nat} {o0 : Nat} (h0 : akd o0 = 1) {r : Int32} {u' : ASt} (K : OkM 0 M X cX1_scansIdentity 1 RX1 rm_X1_scansIdentity (some .boolean)) {u : ASt} (hf : f_X1_scansIdentity_22 N o0  u = some (r, u')) : V 0 M X (some (.int r), u') 1 22 [] [] u := by
  unfold f_X1_scansIdentity_22 at hf
  refine v_iconst K (v := 0) (by decide) dX1_scansIdentity_22 ?_
  obtain ⟨rfl, rfl⟩ := pair_of hf
  exact v_zret K (by decide) dX1_scansIdentity_23
set_option maxRecDepth 20000 in
theorem c_X1_scansIdentity {X : Wx} {N : Nat} {o0 : Nat} (h0 : akd o0 = 1) {u u' : ASt} {r : Int32} (hf : f_X1_scansIdentity N o0 u = some (r, u')) (l : Launch) : Met l yX1_scansIdentity (ws_ yX1_scansIdentity cX1_scansIdentity 1 (some .boolean)) rm_X1_scansIdentity (Pg 0 X u [.ref (X.2.1 o0)]) (Qg 0 X (some (.int r)) u') 0 0 (Aw 0 X) := by
  refine v_met (res := (some (.int r), u')) (by decide) (Nat.le_of_ble_eq_true rfl) (fun M K => ?_)
  have K : OkM 0 M X cX1_scansIdentity 1 RX1 rm_X1_scansIdentity (some .boolean) := K
  show V 0 M X (some (.int r), u') 1 0 [(0, .ref (X.2.1 o0))] [] u
  unfold f_X1_scansIdentity at hf
  refine v_aload_n K 0 rfl rfl dX1_scansIdentity_0 ?_
  refine gf_1_2 K h0 fl_X1_40 dX1_scansIdentity_1 ?_
  refine v_iconst K (v := 2) (by decide) dX1_scansIdentity_4 ?_
  refine v_icmp_ne K 22 (by decide) dX1_scansIdentity_5 (fun c1 => ?_) (fun c1 => ?_)
  · have hf := ite_f c1 hf
    refine v_sub [] rfl ?_
    exact t_X1_scansIdentity_22 h0 K hf
  · have hf := ite_t c1 hf
    refine v_aload_n K 0 rfl rfl dX1_scansIdentity_8 ?_
    refine gf_1_1 K h0 fl_X1_19 dX1_scansIdentity_9 ?_
    refine v_sipush K (v := 256) (by decide) dX1_scansIdentity_12 ?_
    refine v_icmp_eq K 22 (by decide) dX1_scansIdentity_15 (fun c2 => ?_) (fun c2 => ?_)
    · have hf := ite_t c2 hf
      refine v_sub [] rfl ?_
      exact t_X1_scansIdentity_22 h0 K hf
    · have hf := ite_f c2 hf
      refine v_iconst K (v := 1) (by decide) dX1_scansIdentity_18 ?_
      refine v_goto K 23 (by decide) dX1_scansIdentity_19 ?_
      obtain ⟨rfl, rfl⟩ := pair_of hf
      exact v_zret K (by decide) dX1_scansIdentity_23
