abbrev rm_X0_captureData : Room := { frames := 3, cells := 0, slots := 0, locals := 67 }
set_option maxRecDepth 20000 in
theorem t_X0_captureData_69 {M : Mx} {X : Wx} {N : Nat} {o0 : Nat} {o1 : Nat} (h0 : akd o0 = 0) (h1 : akd o1 = 3) {r : Unit} {u' : ASt} (K : OkM 0 M X cX0_captureData 4 RX0 rm_X0_captureData none) {k6 : Int32 → ASt → Option (Unit × ASt)} (hk6 : ∀ (x2 : Int32) (u : ASt), k6 x2 u = some (r, u') → V 0 M X (none, u') 4 6 [(0, .ref (X.2.1 o0)), (1, .ref (X.2.1 o1)), (2, .int x2)] [] u) {x2 : Int32} {u : ASt} (hf : f_X0_captureData_69 N o0 o1 k6 x2 u = some (r, u')) : V 0 M X (none, u') 4 69 [(0, .ref (X.2.1 o0)), (1, .ref (X.2.1 o1)), (2, .int x2)] [] u := by
  unfold f_X0_captureData_69 at hf
  refine v_iinc K 2 (v := x2 + 1) (ls' := [(2, .int (x2 + 1)), (0, .ref (X.2.1 o0)), (1, .ref (X.2.1 o1))]) rfl rfl (by decide) rfl dX0_captureData_69 ?_
  refine v_goto K 6 (by decide) dX0_captureData_72 ?_
  refine v_sub [1, 2, 0] rfl ?_
  exact hk6 (x2 + 1) u hf
set_option maxRecDepth 20000 in
theorem t_X0_captureData_66 {M : Mx} {X : Wx} {N : Nat} {o0 : Nat} {o1 : Nat} (h0 : akd o0 = 0) (h1 : akd o1 = 3) {r : Unit} {u' : ASt} (K : OkM 0 M X cX0_captureData 4 RX0 rm_X0_captureData none) {k6 : Int32 → ASt → Option (Unit × ASt)} (hk6 : ∀ (x2 : Int32) (u : ASt), k6 x2 u = some (r, u') → V 0 M X (none, u') 4 6 [(0, .ref (X.2.1 o0)), (1, .ref (X.2.1 o1)), (2, .int x2)] [] u) {x2 : Int32} {c0 : Nat} {y1 : Int32} (hc0 : akd c0 = 1) {u : ASt} (hf : f_X0_captureData_66 N o0 o1 k6 x2 c0 y1 u = some (r, u')) : V 0 M X (none, u') 4 66 [(0, .ref (X.2.1 o0)), (1, .ref (X.2.1 o1)), (2, .int x2)] [.int y1, .ref (X.2.1 c0)] u := by
  unfold f_X0_captureData_66 at hf
  refine pf_1_4 K hc0 fl_X0_138 dX0_captureData_66 ?_
  refine v_st (fun u1 eu1 => ?_)
  have hf := lte_of eu1 hf
  exact t_X0_captureData_69 h0 h1 K hk6 hf
set_option maxRecDepth 20000 in
theorem t_X0_captureData_6 {M : Mx} {X : Wx} {N : Nat} {o0 : Nat} {o1 : Nat} (h0 : akd o0 = 0) (h1 : akd o1 = 3) {r : Unit} {u' : ASt} (K : OkM 0 M X cX0_captureData 4 RX0 rm_X0_captureData none) : ∀ (n : Nat) (x2 : Int32) (u : ASt), f_X0_captureData_6 N o0 o1 n x2 u = some (r, u') → V 0 M X (none, u') 4 6 [(0, .ref (X.2.1 o0)), (1, .ref (X.2.1 o1)), (2, .int x2)] [] u := by
  intro n
  induction n with
  | zero => intro x2 u hf; cases hf
  | succ n ih =>
    intro x2 u hf
    rw [f_X0_captureData_6] at hf
    refine v_iload_n K 2 rfl rfl dX0_captureData_6 ?_
    refine v_aload_n K 0 rfl rfl dX0_captureData_7 ?_
    refine gf_0_1 K h0 fl_X0_22 dX0_captureData_8 ?_
    refine v_icmp_ge K 75 (by decide) dX0_captureData_11 (fun c2 => ?_) (fun c2 => ?_)
    · have hf := ite_t c2 hf
      obtain ⟨rfl, rfl⟩ := pair_of hf
      exact v_vret K dX0_captureData_75
    · have hf := ite_f c2 hf
      refine v_aload_n K 0 rfl rfl dX0_captureData_14 ?_
      refine gf_0_0 K h0 fl_X0_11 dX0_captureData_15 ?_
      refine v_iload_n K 2 rfl rfl dX0_captureData_18 ?_
      obtain ⟨g3, hf⟩ := chk_of hf
      refine v_aald K (am0_11 (ak_0_0 h0)) (.inr (ak_0_0 h0)) g3 dX0_captureData_19 ?_
      refine v_astore_n K (ls' := [(3, .ref (X.2.1 (arf (arf o0 0) (Int32.toNatClampNeg x2)))), (0, .ref (X.2.1 o0)), (1, .ref (X.2.1 o1)), (2, .int x2)]) rfl (by decide) rfl dX0_captureData_20 ?_
      refine v_aload_n K 0 rfl rfl dX0_captureData_21 ?_
      obtain ⟨r5, u4, e6, hf⟩ := bnd_of hf
      refine v_callVi K (c_X1_scansCells (ae_11 (ak_0_0 h0) g3) e6) cv_X1_scansCells ml_X0_125 (am0_1 (ae_11 (ak_0_0 h0) g3)) (ae_11 (ak_0_0 h0) g3) kdX1 ⟨rfl, rfl, Nat.le_of_ble_eq_true rfl, Nat.le_of_ble_eq_true rfl⟩ rfl rfl (Nat.le_of_ble_eq_true rfl) dX0_captureData_22 ?_
      refine v_if_eq K 50 (by decide) dX0_captureData_25 (fun c7 => ?_) (fun c7 => ?_)
      · have hf := ite_t c7 hf
        refine v_aload_n K 0 rfl rfl dX0_captureData_50 ?_
        refine v_aload_n K 0 rfl rfl dX0_captureData_51 ?_
        obtain ⟨r9, u8, e10, hf⟩ := bnd_of hf
        refine v_callVi K (c_X1_scansIdentity (ae_11 (ak_0_0 h0) g3) e10) cv_X1_scansIdentity ml_X0_141 (am0_1 (ae_11 (ak_0_0 h0) g3)) (ae_11 (ak_0_0 h0) g3) kdX1 ⟨rfl, rfl, Nat.le_of_ble_eq_true rfl, Nat.le_of_ble_eq_true rfl⟩ rfl rfl (Nat.le_of_ble_eq_true rfl) dX0_captureData_52 ?_
        refine v_if_eq K 65 (by decide) dX0_captureData_55 (fun c11 => ?_) (fun c11 => ?_)
        · have hf := ite_t c11 hf
          refine v_iconst K (v := 0) (by decide) dX0_captureData_65 ?_
          refine v_sub [1, 2, 3] rfl ?_
          exact t_X0_captureData_66 h0 h1 K ih (ae_11 (ak_0_0 h0) g3) hf
        · have hf := ite_f c11 hf
          refine v_aload_n K 0 rfl rfl dX0_captureData_58 ?_
          refine gf_1_1 K (ae_11 (ak_0_0 h0) g3) fl_X0_144 dX0_captureData_59 ?_
          refine v_goto K 66 (by decide) dX0_captureData_62 ?_
          refine v_sub [1, 2, 3] rfl ?_
          exact t_X0_captureData_66 h0 h1 K ih (ae_11 (ak_0_0 h0) g3) hf
      · have hf := ite_f c7 hf
        refine v_aload_n K 0 rfl rfl dX0_captureData_28 ?_
        refine v_aload_n K 2 rfl rfl dX0_captureData_29 ?_
        refine v_iload_n K 3 rfl rfl dX0_captureData_30 ?_
        obtain ⟨r13, u12, e14, hf⟩ := bnd_of hf
        refine v_callVi K (c_X3_seenByInputs h1 e14) cv_X3_seenByInputs ml_X0_129 (am0_3 h1) h1 kdX3 ⟨rfl, rfl, Nat.le_of_ble_eq_true rfl, Nat.le_of_ble_eq_true rfl⟩ rfl rfl (Nat.le_of_ble_eq_true rfl) dX0_captureData_31 ?_
        refine v_aload_n K 0 rfl rfl dX0_captureData_34 ?_
        refine gf_1_5 K (ae_11 (ak_0_0 h0) g3) fl_X0_132 dX0_captureData_35 ?_
        refine v_aload_n K 0 rfl rfl dX0_captureData_38 ?_
        refine gf_1_7 K (ae_11 (ak_0_0 h0) g3) fl_X0_135 dX0_captureData_39 ?_
        refine v_iand K dX0_captureData_42 ?_
        refine v_ior K dX0_captureData_43 ?_
        refine pf_1_4 K (ae_11 (ak_0_0 h0) g3) fl_X0_138 dX0_captureData_44 ?_
        refine v_st (fun u15 eu15 => ?_)
        have hf := lte_of eu15 hf
        refine v_goto K 69 (by decide) dX0_captureData_47 ?_
        refine v_sub [1, 2, 3] rfl ?_
        exact t_X0_captureData_69 h0 h1 K ih hf
set_option maxRecDepth 20000 in
theorem c_X0_captureData {X : Wx} {N : Nat} {o0 : Nat} {o1 : Nat} (h0 : akd o0 = 0) (h1 : akd o1 = 3) {u u' : ASt} {r : Unit} (hf : f_X0_captureData N o0 o1 u = some (r, u')) (l : Launch) : Met l yX0_captureData (ws_ yX0_captureData cX0_captureData 4 none) rm_X0_captureData (Pg 0 X u [.ref (X.2.1 o0), .ref (X.2.1 o1)]) (Qg 0 X (none) u') 0 0 (Aw 0 X) := by
  refine v_met (res := (none, u')) (by decide) (Nat.le_of_ble_eq_true rfl) (fun M K => ?_)
  have K : OkM 0 M X cX0_captureData 4 RX0 rm_X0_captureData none := K
  show V 0 M X (none, u') 4 0 [(0, .ref (X.2.1 o0)), (1, .ref (X.2.1 o1))] [] u
  unfold f_X0_captureData at hf
  refine v_aload_n K 1 rfl rfl dX0_captureData_0 ?_
  obtain ⟨r17, u16, e18, hf⟩ := bnd_of hf
  refine v_callVv K (c_X3_settleNow h1 e18) cv_X3_settleNow ml_X0_120 (am0_3 h1) h1 kdX3 ⟨rfl, rfl, Nat.le_of_ble_eq_true rfl, Nat.le_of_ble_eq_true rfl⟩ rfl rfl (Nat.le_of_ble_eq_true rfl) dX0_captureData_1 ?_
  refine v_iconst K (v := 0) (by decide) dX0_captureData_4 ?_
  refine v_istore_n K (ls' := [(2, .int 0), (0, .ref (X.2.1 o0)), (1, .ref (X.2.1 o1))]) rfl (by decide) rfl dX0_captureData_5 ?_
  refine v_sub [1, 2, 0] rfl ?_
  exact t_X0_captureData_6 h0 h1 K N 0 u16 hf
abbrev rm_X0_updateInstructions : Room := { frames := 0, cells := 0, slots := 0, locals := 0 }
set_option maxRecDepth 20000 in
theorem t_X0_updateInstructions_2 {M : Mx} {X : Wx} {N : Nat} {o0 : Nat} (h0 : akd o0 = 0) {r : Unit} {u' : ASt} (K : OkM 0 M X cX0_updateInstructions 2 RX0 rm_X0_updateInstructions none) : ∀ (n : Nat) (x1 : Int32) (u : ASt), f_X0_updateInstructions_2 N o0 n x1 u = some (r, u') → V 0 M X (none, u') 2 2 [(0, .ref (X.2.1 o0)), (1, .int x1)] [] u := by
  intro n
  induction n with
  | zero => intro x1 u hf; cases hf
  | succ n ih =>
    intro x1 u hf
    rw [f_X0_updateInstructions_2] at hf
    refine v_iload_n K 1 rfl rfl dX0_updateInstructions_2 ?_
    refine v_aload_n K 0 rfl rfl dX0_updateInstructions_3 ?_
    refine gf_0_1 K h0 fl_X0_22 dX0_updateInstructions_4 ?_
    refine v_icmp_ge K 34 (by decide) dX0_updateInstructions_7 (fun c1 => ?_) (fun c1 => ?_)
    · have hf := ite_t c1 hf
      obtain ⟨rfl, rfl⟩ := pair_of hf
      exact v_vret K dX0_updateInstructions_34
    · have hf := ite_f c1 hf
      refine v_aload_n K 0 rfl rfl dX0_updateInstructions_10 ?_
      refine gf_0_0 K h0 fl_X0_11 dX0_updateInstructions_11 ?_
      refine v_iload_n K 1 rfl rfl dX0_updateInstructions_14 ?_
      obtain ⟨g2, hf⟩ := chk_of hf
      refine v_aald K (am0_11 (ak_0_0 h0)) (.inr (ak_0_0 h0)) g2 dX0_updateInstructions_15 ?_
      refine v_aload_n K 0 rfl rfl dX0_updateInstructions_16 ?_
      refine gf_0_0 K h0 fl_X0_11 dX0_updateInstructions_17 ?_
      refine v_iload_n K 1 rfl rfl dX0_updateInstructions_20 ?_
      obtain ⟨g3, hf⟩ := chk_of hf
      refine v_aald K (am0_11 (ak_0_0 h0)) (.inr (ak_0_0 h0)) g3 dX0_updateInstructions_21 ?_
      refine gf_1_3 K (ae_11 (ak_0_0 h0) g3) fl_X0_117 dX0_updateInstructions_22 ?_
      refine pf_1_2 K (ae_11 (ak_0_0 h0) g2) fl_X0_147 dX0_updateInstructions_25 ?_
      refine v_st (fun u4 eu4 => ?_)
      have hf := lte_of eu4 hf
      refine v_iinc K 1 (v := x1 + 1) (ls' := [(1, .int (x1 + 1)), (0, .ref (X.2.1 o0))]) rfl rfl (by decide) rfl dX0_updateInstructions_28 ?_
      refine v_goto K 2 (by decide) dX0_updateInstructions_31 ?_
      refine v_sub [1, 0] rfl ?_
      exact ih (x1 + 1) u4 hf
set_option maxRecDepth 20000 in
theorem c_X0_updateInstructions {X : Wx} {N : Nat} {o0 : Nat} (h0 : akd o0 = 0) {u u' : ASt} {r : Unit} (hf : f_X0_updateInstructions N o0 u = some (r, u')) (l : Launch) : Met l yX0_updateInstructions (ws_ yX0_updateInstructions cX0_updateInstructions 2 none) rm_X0_updateInstructions (Pg 0 X u [.ref (X.2.1 o0)]) (Qg 0 X (none) u') 0 0 (Aw 0 X) := by
  refine v_met (res := (none, u')) (by decide) (Nat.le_of_ble_eq_true rfl) (fun M K => ?_)
  have K : OkM 0 M X cX0_updateInstructions 2 RX0 rm_X0_updateInstructions none := K
  show V 0 M X (none, u') 2 0 [(0, .ref (X.2.1 o0))] [] u
  unfold f_X0_updateInstructions at hf
  refine v_iconst K (v := 0) (by decide) dX0_updateInstructions_0 ?_
  refine v_istore_n K (ls' := [(1, .int 0), (0, .ref (X.2.1 o0))]) rfl (by decide) rfl dX0_updateInstructions_1 ?_
  refine v_sub [1, 0] rfl ?_
  exact t_X0_updateInstructions_2 h0 K N 0 u hf
abbrev rm_X1_updateLatches : Room := { frames := 1, cells := 0, slots := 0, locals := 20 }
set_option maxRecDepth 20000 in
theorem c_X1_updateLatches {X : Wx} {N : Nat} {o0 : Nat} (h0 : akd o0 = 1) {u u' : ASt} {r : Unit} (hf : f_X1_updateLatches N o0 u = some (r, u')) (l : Launch) : Met l yX1_updateLatches (ws_ yX1_updateLatches cX1_updateLatches 1 none) rm_X1_updateLatches (Pg 0 X u [.ref (X.2.1 o0)]) (Qg 0 X (none) u') 0 0 (Aw 0 X) := by
  refine v_met (res := (none, u')) (by decide) (Nat.le_of_ble_eq_true rfl) (fun M K => ?_)
  have K : OkM 0 M X cX1_updateLatches 1 RX1 rm_X1_updateLatches none := K
  show V 0 M X (none, u') 1 0 [(0, .ref (X.2.1 o0))] [] u
  unfold f_X1_updateLatches at hf
  refine v_aload_n K 0 rfl rfl dX1_updateLatches_0 ?_
  obtain ⟨r2, u1, e3, hf⟩ := bnd_of hf
  refine v_callVi K (c_X1_scansCells h0 e3) cv_X1_scansCells ml_X1_53 (am0_1 h0) h0 kdX1 ⟨rfl, rfl, Nat.le_of_ble_eq_true rfl, Nat.le_of_ble_eq_true rfl⟩ rfl rfl (Nat.le_of_ble_eq_true rfl) dX1_updateLatches_1 ?_
  refine v_if_eq K 15 (by decide) dX1_updateLatches_4 (fun c4 => ?_) (fun c4 => ?_)
  · have hf := ite_t c4 hf
    obtain ⟨rfl, rfl⟩ := pair_of hf
    exact v_vret K dX1_updateLatches_15
  · have hf := ite_f c4 hf
    refine v_aload_n K 0 rfl rfl dX1_updateLatches_7 ?_
    refine v_aload_n K 0 rfl rfl dX1_updateLatches_8 ?_
    refine gf_1_4 K h0 fl_X1_25 dX1_updateLatches_9 ?_
    refine pf_1_5 K h0 fl_X1_28 dX1_updateLatches_12 ?_
    refine v_st (fun u5 eu5 => ?_)
    have hf := lte_of eu5 hf
    obtain ⟨rfl, rfl⟩ := pair_of hf
    exact v_vret K dX1_updateLatches_15
abbrev rm_X0_updateLatches : Room := { frames := 2, cells := 0, slots := 0, locals := 40 }
set_option maxRecDepth 20000 in
theorem t_X0_updateLatches_2 {M : Mx} {X : Wx} {N : Nat} {o0 : Nat} (h0 : akd o0 = 0) {r : Unit} {u' : ASt} (K : OkM 0 M X cX0_updateLatches 2 RX0 rm_X0_updateLatches none) : ∀ (n : Nat) (x1 : Int32) (u : ASt), f_X0_updateLatches_2 N o0 n x1 u = some (r, u') → V 0 M X (none, u') 2 2 [(0, .ref (X.2.1 o0)), (1, .int x1)] [] u := by
  intro n
  induction n with
  | zero => intro x1 u hf; cases hf
  | succ n ih =>
    intro x1 u hf
    rw [f_X0_updateLatches_2] at hf
    refine v_iload_n K 1 rfl rfl dX0_updateLatches_2 ?_
    refine v_aload_n K 0 rfl rfl dX0_updateLatches_3 ?_
    refine gf_0_1 K h0 fl_X0_22 dX0_updateLatches_4 ?_
    refine v_icmp_ge K 25 (by decide) dX0_updateLatches_7 (fun c1 => ?_) (fun c1 => ?_)
    · have hf := ite_t c1 hf
      obtain ⟨rfl, rfl⟩ := pair_of hf
      exact v_vret K dX0_updateLatches_25
    · have hf := ite_f c1 hf
      refine v_aload_n K 0 rfl rfl dX0_updateLatches_10 ?_
      refine gf_0_0 K h0 fl_X0_11 dX0_updateLatches_11 ?_
      refine v_iload_n K 1 rfl rfl dX0_updateLatches_14 ?_
      obtain ⟨g2, hf⟩ := chk_of hf
      refine v_aald K (am0_11 (ak_0_0 h0)) (.inr (ak_0_0 h0)) g2 dX0_updateLatches_15 ?_
      obtain ⟨r4, u3, e5, hf⟩ := bnd_of hf
      refine v_callVv K (c_X1_updateLatches (ae_11 (ak_0_0 h0) g2) e5) cv_X1_updateLatches ml_X0_150 (am0_1 (ae_11 (ak_0_0 h0) g2)) (ae_11 (ak_0_0 h0) g2) kdX1 ⟨rfl, rfl, Nat.le_of_ble_eq_true rfl, Nat.le_of_ble_eq_true rfl⟩ rfl rfl (Nat.le_of_ble_eq_true rfl) dX0_updateLatches_16 ?_
      refine v_iinc K 1 (v := x1 + 1) (ls' := [(1, .int (x1 + 1)), (0, .ref (X.2.1 o0))]) rfl rfl (by decide) rfl dX0_updateLatches_19 ?_
      refine v_goto K 2 (by decide) dX0_updateLatches_22 ?_
      refine v_sub [1, 0] rfl ?_
      exact ih (x1 + 1) u3 hf
set_option maxRecDepth 20000 in
theorem c_X0_updateLatches {X : Wx} {N : Nat} {o0 : Nat} (h0 : akd o0 = 0) {u u' : ASt} {r : Unit} (hf : f_X0_updateLatches N o0 u = some (r, u')) (l : Launch) : Met l yX0_updateLatches (ws_ yX0_updateLatches cX0_updateLatches 2 none) rm_X0_updateLatches (Pg 0 X u [.ref (X.2.1 o0)]) (Qg 0 X (none) u') 0 0 (Aw 0 X) := by
  refine v_met (res := (none, u')) (by decide) (Nat.le_of_ble_eq_true rfl) (fun M K => ?_)
  have K : OkM 0 M X cX0_updateLatches 2 RX0 rm_X0_updateLatches none := K
  show V 0 M X (none, u') 2 0 [(0, .ref (X.2.1 o0))] [] u
  unfold f_X0_updateLatches at hf
  refine v_iconst K (v := 0) (by decide) dX0_updateLatches_0 ?_
  refine v_istore_n K (ls' := [(1, .int 0), (0, .ref (X.2.1 o0))]) rfl (by decide) rfl dX0_updateLatches_1 ?_
  refine v_sub [1, 0] rfl ?_
  exact t_X0_updateLatches_2 h0 K N 0 u hf
abbrev rm_X1_shiftInstruction : Room := { frames := 0, cells := 0, slots := 0, locals := 0 }
set_option maxRecDepth 20000 in
theorem c_X1_shiftInstruction {X : Wx} {N : Nat} {o0 : Nat} {p1 : Int32} (h0 : akd o0 = 1) {u u' : ASt} {r : Int32} (hf : f_X1_shiftInstruction N o0 p1 u = some (r, u')) (l : Launch) : Met l yX1_shiftInstruction (ws_ yX1_shiftInstruction cX1_shiftInstruction 3 (some .int)) rm_X1_shiftInstruction (Pg 0 X u [.ref (X.2.1 o0), .int p1]) (Qg 0 X (some (.int r)) u') 0 0 (Aw 0 X) := by
  refine v_met (res := (some (.int r), u')) (by decide) (Nat.le_of_ble_eq_true rfl) (fun M K => ?_)
  have K : OkM 0 M X cX1_shiftInstruction 3 RX1 rm_X1_shiftInstruction (some .int) := K
  show V 0 M X (some (.int r), u') 3 0 [(0, .ref (X.2.1 o0)), (1, .int p1)] [] u
  unfold f_X1_shiftInstruction at hf
  refine v_aload_n K 0 rfl rfl dX1_shiftInstruction_0 ?_
  refine gf_1_3 K h0 fl_X1_22 dX1_shiftInstruction_1 ?_
  refine v_iconst K (v := 1) (by decide) dX1_shiftInstruction_4 ?_
  refine v_iand K dX1_shiftInstruction_5 ?_
  refine v_topi (fun z1 ez1 => ?_)
  have hf := lte_of ez1 hf
  refine v_istore_n K (ls' := [(2, .int z1), (0, .ref (X.2.1 o0)), (1, .int p1)]) rfl (by decide) rfl dX1_shiftInstruction_6 ?_
  refine v_aload_n K 1 rfl rfl dX1_shiftInstruction_7 ?_
  refine v_aload_n K 1 rfl rfl dX1_shiftInstruction_8 ?_
  refine gf_1_3 K h0 fl_X1_22 dX1_shiftInstruction_9 ?_
  refine v_iconst K (v := 1) (by decide) dX1_shiftInstruction_12 ?_
  refine v_ishr K dX1_shiftInstruction_13 ?_
  refine v_iload_n K 2 rfl rfl dX1_shiftInstruction_14 ?_
  refine v_aload_n K 1 rfl rfl dX1_shiftInstruction_15 ?_
  refine gf_1_0 K h0 fl_X1_15 dX1_shiftInstruction_16 ?_
  refine v_iconst K (v := 1) (by decide) dX1_shiftInstruction_19 ?_
  refine v_isub K dX1_shiftInstruction_20 ?_
  refine v_ishl K dX1_shiftInstruction_21 ?_
  refine v_ior K dX1_shiftInstruction_22 ?_
  refine pf_1_3 K h0 fl_X1_22 dX1_shiftInstruction_23 ?_
  refine v_st (fun u2 eu2 => ?_)
  have hf := lte_of eu2 hf
  refine v_iload_n K 0 rfl rfl dX1_shiftInstruction_26 ?_
  obtain ⟨rfl, rfl⟩ := pair_of hf
  exact v_iret K dX1_shiftInstruction_27
abbrev rm_X0_shiftInstructions : Room := { frames := 1, cells := 0, slots := 0, locals := 22 }
set_option maxRecDepth 20000 in
theorem t_X0_shiftInstructions_4 {M : Mx} {X : Wx} {N : Nat} {o0 : Nat} {p1 : Int32} (h0 : akd o0 = 0) {r : Int32} {u' : ASt} (K : OkM 0 M X cX0_shiftInstructions 4 RX0 rm_X0_shiftInstructions (some .int)) : ∀ (n : Nat) (x2 : Int32) (x3 : Int32) (u : ASt), f_X0_shiftInstructions_4 N o0 p1 n x2 x3 u = some (r, u') → V 0 M X (some (.int r), u') 4 4 [(0, .ref (X.2.1 o0)), (2, .int x2), (3, .int x3)] [] u := by
  intro n
  induction n with
  | zero => intro x2 x3 u hf; cases hf
  | succ n ih =>
    intro x2 x3 u hf
    rw [f_X0_shiftInstructions_4] at hf
    refine v_iload_n K 2 rfl rfl dX0_shiftInstructions_4 ?_
    refine v_aload_n K 0 rfl rfl dX0_shiftInstructions_5 ?_
    refine gf_0_1 K h0 fl_X0_22 dX0_shiftInstructions_6 ?_
    refine v_icmp_ge K 29 (by decide) dX0_shiftInstructions_9 (fun c1 => ?_) (fun c1 => ?_)
    · have hf := ite_t c1 hf
      refine v_iload_n K 1 rfl rfl dX0_shiftInstructions_29 ?_
      obtain ⟨rfl, rfl⟩ := pair_of hf
      exact v_iret K dX0_shiftInstructions_30
    · have hf := ite_f c1 hf
      refine v_aload_n K 0 rfl rfl dX0_shiftInstructions_12 ?_
      refine gf_0_0 K h0 fl_X0_11 dX0_shiftInstructions_13 ?_
      refine v_iload_n K 2 rfl rfl dX0_shiftInstructions_16 ?_
      obtain ⟨g2, hf⟩ := chk_of hf
      refine v_aald K (am0_11 (ak_0_0 h0)) (.inr (ak_0_0 h0)) g2 dX0_shiftInstructions_17 ?_
      refine v_iload_n K 1 rfl rfl dX0_shiftInstructions_18 ?_
      obtain ⟨r4, u3, e5, hf⟩ := bnd_of hf
      refine v_callVi K (c_X1_shiftInstruction (ae_11 (ak_0_0 h0) g2) e5) cv_X1_shiftInstruction ml_X0_151 (am0_1 (ae_11 (ak_0_0 h0) g2)) (ae_11 (ak_0_0 h0) g2) kdX1 ⟨rfl, rfl, Nat.le_of_ble_eq_true rfl, Nat.le_of_ble_eq_true rfl⟩ rfl rfl (Nat.le_of_ble_eq_true rfl) dX0_shiftInstructions_19 ?_
      refine v_istore_n K (ls' := [(2, .int r4), (0, .ref (X.2.1 o0)), (3, .int x3)]) rfl (by decide) rfl dX0_shiftInstructions_22 ?_
      refine v_iinc K 2 (v := x3 + 1) (ls' := [(3, .int (x3 + 1)), (2, .int r4), (0, .ref (X.2.1 o0))]) rfl rfl (by decide) rfl dX0_shiftInstructions_23 ?_
      refine v_goto K 4 (by decide) dX0_shiftInstructions_26 ?_
      refine v_sub [2, 1, 0] rfl ?_
      exact ih r4 (x3 + 1) u3 hf
set_option maxRecDepth 20000 in
theorem c_X0_shiftInstructions {X : Wx} {N : Nat} {o0 : Nat} {p1 : Int32} (h0 : akd o0 = 0) {u u' : ASt} {r : Int32} (hf : f_X0_shiftInstructions N o0 p1 u = some (r, u')) (l : Launch) : Met l yX0_shiftInstructions (ws_ yX0_shiftInstructions cX0_shiftInstructions 4 (some .int)) rm_X0_shiftInstructions (Pg 0 X u [.ref (X.2.1 o0), .int p1]) (Qg 0 X (some (.int r)) u') 0 0 (Aw 0 X) := by
  refine v_met (res := (some (.int r), u')) (by decide) (Nat.le_of_ble_eq_true rfl) (fun M K => ?_)
  have K : OkM 0 M X cX0_shiftInstructions 4 RX0 rm_X0_shiftInstructions (some .int) := K
  show V 0 M X (some (.int r), u') 4 0 [(0, .ref (X.2.1 o0)), (1, .int p1)] [] u
  unfold f_X0_shiftInstructions at hf
  refine v_iload_n K 1 rfl rfl dX0_shiftInstructions_0 ?_
  refine v_istore_n K (ls' := [(2, .int p1), (0, .ref (X.2.1 o0)), (1, .int p1)]) rfl (by decide) rfl dX0_shiftInstructions_1 ?_
  refine v_iconst K (v := 0) (by decide) dX0_shiftInstructions_2 ?_
  refine v_istore_n K (ls' := [(3, .int 0), (2, .int p1), (0, .ref (X.2.1 o0)), (1, .int p1)]) rfl (by decide) rfl dX0_shiftInstructions_3 ?_
  refine v_sub [2, 1, 0] rfl ?_
  exact t_X0_shiftInstructions_4 h0 K N p1 0 u hf
abbrev rm_X1_dataBits : Room := { frames := 1, cells := 0, slots := 0, locals := 20 }
set_option maxRecDepth 20000 in
theorem c_X1_dataBits {X : Wx} {N : Nat} {o0 : Nat} (h0 : akd o0 = 1) {u u' : ASt} {r : Int32} (hf : f_X1_dataBits N o0 u = some (r, u')) (l : Launch) : Met l yX1_dataBits (ws_ yX1_dataBits cX1_dataBits 1 (some .int)) rm_X1_dataBits (Pg 0 X u [.ref (X.2.1 o0)]) (Qg 0 X (some (.int r)) u') 0 0 (Aw 0 X) := by
  refine v_met (res := (some (.int r), u')) (by decide) (Nat.le_of_ble_eq_true rfl) (fun M K => ?_)
  have K : OkM 0 M X cX1_dataBits 1 RX1 rm_X1_dataBits (some .int) := K
  show V 0 M X (some (.int r), u') 1 0 [(0, .ref (X.2.1 o0))] [] u
  unfold f_X1_dataBits at hf
  refine v_aload_n K 0 rfl rfl dX1_dataBits_0 ?_
  obtain ⟨r2, u1, e3, hf⟩ := bnd_of hf
  refine v_callVi K (c_X1_scansCells h0 e3) cv_X1_scansCells ml_X1_53 (am0_1 h0) h0 kdX1 ⟨rfl, rfl, Nat.le_of_ble_eq_true rfl, Nat.le_of_ble_eq_true rfl⟩ rfl rfl (Nat.le_of_ble_eq_true rfl) dX1_dataBits_1 ?_
  refine v_if_eq K 12 (by decide) dX1_dataBits_4 (fun c4 => ?_) (fun c4 => ?_)
  · have hf := ite_t c4 hf
    refine v_aload_n K 0 rfl rfl dX1_dataBits_12 ?_
    obtain ⟨r6, u5, e7, hf⟩ := bnd_of hf
    refine v_callVi K (c_X1_scansIdentity h0 e7) cv_X1_scansIdentity ml_X1_57 (am0_1 h0) h0 kdX1 ⟨rfl, rfl, Nat.le_of_ble_eq_true rfl, Nat.le_of_ble_eq_true rfl⟩ rfl rfl (Nat.le_of_ble_eq_true rfl) dX1_dataBits_13 ?_
    refine v_if_eq K 24 (by decide) dX1_dataBits_16 (fun c8 => ?_) (fun c8 => ?_)
    · have hf := ite_t c8 hf
      refine v_iconst K (v := 1) (by decide) dX1_dataBits_24 ?_
      obtain ⟨rfl, rfl⟩ := pair_of hf
      exact v_iret K dX1_dataBits_25
    · have hf := ite_f c8 hf
      refine v_bipush K (v := 8) (by decide) dX1_dataBits_19 ?_
      refine v_goto K 25 (by decide) dX1_dataBits_21 ?_
      obtain ⟨rfl, rfl⟩ := pair_of hf
      exact v_iret K dX1_dataBits_25
  · have hf := ite_f c4 hf
    refine v_aload_n K 0 rfl rfl dX1_dataBits_7 ?_
    refine gf_1_6 K h0 fl_X1_31 dX1_dataBits_8 ?_
    obtain ⟨rfl, rfl⟩ := pair_of hf
    exact v_iret K dX1_dataBits_11
abbrev rm_X1_shiftData : Room := { frames := 2, cells := 0, slots := 0, locals := 40 }
set_option maxRecDepth 20000 in
theorem c_X1_shiftData {X : Wx} {N : Nat} {o0 : Nat} {p1 : Int32} (h0 : akd o0 = 1) {u u' : ASt} {r : Int32} (hf : f_X1_shiftData N o0 p1 u = some (r, u')) (l : Launch) : Met l yX1_shiftData (ws_ yX1_shiftData cX1_shiftData 3 (some .int)) rm_X1_shiftData (Pg 0 X u [.ref (X.2.1 o0), .int p1]) (Qg 0 X (some (.int r)) u') 0 0 (Aw 0 X) := by
  refine v_met (res := (some (.int r), u')) (by decide) (Nat.le_of_ble_eq_true rfl) (fun M K => ?_)
  have K : OkM 0 M X cX1_shiftData 3 RX1 rm_X1_shiftData (some .int) := K
  show V 0 M X (some (.int r), u') 3 0 [(0, .ref (X.2.1 o0)), (1, .int p1)] [] u
  unfold f_X1_shiftData at hf
  refine v_aload_n K 0 rfl rfl dX1_shiftData_0 ?_
  refine gf_1_4 K h0 fl_X1_25 dX1_shiftData_1 ?_
  refine v_iconst K (v := 1) (by decide) dX1_shiftData_4 ?_
  refine v_iand K dX1_shiftData_5 ?_
  refine v_topi (fun z1 ez1 => ?_)
  have hf := lte_of ez1 hf
  refine v_istore_n K (ls' := [(2, .int z1), (0, .ref (X.2.1 o0)), (1, .int p1)]) rfl (by decide) rfl dX1_shiftData_6 ?_
  refine v_aload_n K 1 rfl rfl dX1_shiftData_7 ?_
  refine v_aload_n K 1 rfl rfl dX1_shiftData_8 ?_
  refine gf_1_4 K h0 fl_X1_25 dX1_shiftData_9 ?_
  refine v_iconst K (v := 1) (by decide) dX1_shiftData_12 ?_
  refine v_ishr K dX1_shiftData_13 ?_
  refine v_iload_n K 2 rfl rfl dX1_shiftData_14 ?_
  refine v_aload_n K 1 rfl rfl dX1_shiftData_15 ?_
  obtain ⟨r3, u2, e4, hf⟩ := bnd_of hf
  refine v_callVi K (c_X1_dataBits h0 e4) cv_X1_dataBits ml_X1_60 (am0_1 h0) h0 kdX1 ⟨rfl, rfl, Nat.le_of_ble_eq_true rfl, Nat.le_of_ble_eq_true rfl⟩ rfl rfl (Nat.le_of_ble_eq_true rfl) dX1_shiftData_16 ?_
  refine v_iconst K (v := 1) (by decide) dX1_shiftData_19 ?_
  refine v_isub K dX1_shiftData_20 ?_
  refine v_ishl K dX1_shiftData_21 ?_
  refine v_ior K dX1_shiftData_22 ?_
  refine pf_1_4 K h0 fl_X1_25 dX1_shiftData_23 ?_
  refine v_st (fun u5 eu5 => ?_)
  have hf := lte_of eu5 hf
  refine v_iload_n K 0 rfl rfl dX1_shiftData_26 ?_
  obtain ⟨rfl, rfl⟩ := pair_of hf
  exact v_iret K dX1_shiftData_27
abbrev rm_X0_shiftData : Room := { frames := 3, cells := 0, slots := 0, locals := 62 }
set_option maxRecDepth 20000 in
theorem t_X0_shiftData_4 {M : Mx} {X : Wx} {N : Nat} {o0 : Nat} {p1 : Int32} (h0 : akd o0 = 0) {r : Int32} {u' : ASt} (K : OkM 0 M X cX0_shiftData 4 RX0 rm_X0_shiftData (some .int)) : ∀ (n : Nat) (x2 : Int32) (x3 : Int32) (u : ASt), f_X0_shiftData_4 N o0 p1 n x2 x3 u = some (r, u') → V 0 M X (some (.int r), u') 4 4 [(0, .ref (X.2.1 o0)), (2, .int x2), (3, .int x3)] [] u := by
  intro n
  induction n with
  | zero => intro x2 x3 u hf; cases hf
  | succ n ih =>
    intro x2 x3 u hf
    rw [f_X0_shiftData_4] at hf
    refine v_iload_n K 2 rfl rfl dX0_shiftData_4 ?_
    refine v_aload_n K 0 rfl rfl dX0_shiftData_5 ?_
    refine gf_0_1 K h0 fl_X0_22 dX0_shiftData_6 ?_
    refine v_icmp_ge K 29 (by decide) dX0_shiftData_9 (fun c1 => ?_) (fun c1 => ?_)
    · have hf := ite_t c1 hf
      refine v_iload_n K 1 rfl rfl dX0_shiftData_29 ?_
      obtain ⟨rfl, rfl⟩ := pair_of hf
      exact v_iret K dX0_shiftData_30
    · have hf := ite_f c1 hf
      refine v_aload_n K 0 rfl rfl dX0_shiftData_12 ?_
      refine gf_0_0 K h0 fl_X0_11 dX0_shiftData_13 ?_
      refine v_iload_n K 2 rfl rfl dX0_shiftData_16 ?_
      obtain ⟨g2, hf⟩ := chk_of hf
      refine v_aald K (am0_11 (ak_0_0 h0)) (.inr (ak_0_0 h0)) g2 dX0_shiftData_17 ?_
      refine v_iload_n K 1 rfl rfl dX0_shiftData_18 ?_
      obtain ⟨r4, u3, e5, hf⟩ := bnd_of hf
      refine v_callVi K (c_X1_shiftData (ae_11 (ak_0_0 h0) g2) e5) cv_X1_shiftData ml_X0_154 (am0_1 (ae_11 (ak_0_0 h0) g2)) (ae_11 (ak_0_0 h0) g2) kdX1 ⟨rfl, rfl, Nat.le_of_ble_eq_true rfl, Nat.le_of_ble_eq_true rfl⟩ rfl rfl (Nat.le_of_ble_eq_true rfl) dX0_shiftData_19 ?_
      refine v_istore_n K (ls' := [(2, .int r4), (0, .ref (X.2.1 o0)), (3, .int x3)]) rfl (by decide) rfl dX0_shiftData_22 ?_
      refine v_iinc K 2 (v := x3 + 1) (ls' := [(3, .int (x3 + 1)), (2, .int r4), (0, .ref (X.2.1 o0))]) rfl rfl (by decide) rfl dX0_shiftData_23 ?_
      refine v_goto K 4 (by decide) dX0_shiftData_26 ?_
      refine v_sub [2, 1, 0] rfl ?_
      exact ih r4 (x3 + 1) u3 hf
set_option maxRecDepth 20000 in
theorem c_X0_shiftData {X : Wx} {N : Nat} {o0 : Nat} {p1 : Int32} (h0 : akd o0 = 0) {u u' : ASt} {r : Int32} (hf : f_X0_shiftData N o0 p1 u = some (r, u')) (l : Launch) : Met l yX0_shiftData (ws_ yX0_shiftData cX0_shiftData 4 (some .int)) rm_X0_shiftData (Pg 0 X u [.ref (X.2.1 o0), .int p1]) (Qg 0 X (some (.int r)) u') 0 0 (Aw 0 X) := by
  refine v_met (res := (some (.int r), u')) (by decide) (Nat.le_of_ble_eq_true rfl) (fun M K => ?_)
  have K : OkM 0 M X cX0_shiftData 4 RX0 rm_X0_shiftData (some .int) := K
  show V 0 M X (some (.int r), u') 4 0 [(0, .ref (X.2.1 o0)), (1, .int p1)] [] u
  unfold f_X0_shiftData at hf
  refine v_iload_n K 1 rfl rfl dX0_shiftData_0 ?_
  refine v_istore_n K (ls' := [(2, .int p1), (0, .ref (X.2.1 o0)), (1, .int p1)]) rfl (by decide) rfl dX0_shiftData_1 ?_
  refine v_iconst K (v := 0) (by decide) dX0_shiftData_2 ?_
  refine v_istore_n K (ls' := [(3, .int 0), (2, .int p1), (0, .ref (X.2.1 o0)), (1, .int p1)]) rfl (by decide) rfl dX0_shiftData_3 ?_
  refine v_sub [2, 1, 0] rfl ?_
  exact t_X0_shiftData_4 h0 K N p1 0 u hf
abbrev rm_X0_tick : Room := { frames := 4, cells := 0, slots := 0, locals := 90 }
set_option maxRecDepth 20000 in
theorem t_X0_tick_160 {M : Mx} {X : Wx} {N : Nat} {o0 : Nat} {p1 : Int32} {p2 : Int32} {o1 : Nat} (h0 : akd o0 = 0) (h1 : akd o1 = 3) {r : Int32} {u' : ASt} (K : OkM 0 M X cX0_tick 5 RX0 rm_X0_tick (some .int)) {x4 : Int32} {u : ASt} (hf : f_X0_tick_160 N o0 p1 p2 o1 x4 u = some (r, u')) : V 0 M X (some (.int r), u') 5 160 [(0, .ref (X.2.1 o0)), (1, .int p1), (4, .int x4)] [] u := by
  unfold f_X0_tick_160 at hf
  refine v_aload_n K 0 rfl rfl dX0_tick_160 ?_
  refine v_nst K dX0_tick_161 ?_
  refine v_iconst K (v := 2) (by decide) dX0_tick_164 ?_
  refine v_aload_n K 0 rfl rfl dX0_tick_165 ?_
  refine gf_0_4 K h0 fl_X0_39 dX0_tick_166 ?_
  refine v_imul K dX0_tick_169 ?_
  refine v_iload_n K 1 rfl rfl dX0_tick_170 ?_
  refine v_iadd K dX0_tick_171 ?_
  obtain ⟨g1, hf⟩ := chk_of hf
  refine v_nsl K g1 dX0_tick_172 ?_
  refine pf_0_4 K h0 fl_X0_39 dX0_tick_173 ?_
  refine v_st (fun u2 eu2 => ?_)
  have hf := lte_of eu2 hf
  refine v_iload K 2 rfl dX0_tick_176 ?_
  obtain ⟨rfl, rfl⟩ := pair_of hf
  exact v_iret K dX0_tick_178
set_option maxRecDepth 20000 in
theorem t_X0_tick_14 {M : Mx} {X : Wx} {N : Nat} {o0 : Nat} {p1 : Int32} {p2 : Int32} {o1 : Nat} (h0 : akd o0 = 0) (h1 : akd o1 = 3) {r : Int32} {u' : ASt} (K : OkM 0 M X cX0_tick 5 RX0 rm_X0_tick (some .int)) {u : ASt} (hf : f_X0_tick_14 N o0 p1 p2 o1  u = some (r, u')) : V 0 M X (some (.int r), u') 5 14 [] [] u := by
  unfold f_X0_tick_14 at hf
  refine v_bipush K (v := (-2)) (by decide) dX0_tick_14 ?_
  obtain ⟨rfl, rfl⟩ := pair_of hf
  exact v_iret K dX0_tick_16
set_option maxRecDepth 20000 in
theorem c_X0_tick {X : Wx} {N : Nat} {o0 : Nat} {p1 : Int32} {p2 : Int32} {o1 : Nat} (h0 : akd o0 = 0) (h1 : akd o1 = 3) {u u' : ASt} {r : Int32} (hf : f_X0_tick N o0 p1 p2 o1 u = some (r, u')) (l : Launch) : Met l yX0_tick (ws_ yX0_tick cX0_tick 5 (some .int)) rm_X0_tick (Pg 0 X u [.ref (X.2.1 o0), .int p1, .int p2, .ref (X.2.1 o1)]) (Qg 0 X (some (.int r)) u') 0 0 (Aw 0 X) := by
  refine v_met (res := (some (.int r), u')) (by decide) (Nat.le_of_ble_eq_true rfl) (fun M K => ?_)
  have K : OkM 0 M X cX0_tick 5 RX0 rm_X0_tick (some .int) := K
  show V 0 M X (some (.int r), u') 5 0 [(0, .ref (X.2.1 o0)), (1, .int p1), (2, .int p2), (3, .ref (X.2.1 o1))] [] u
  unfold f_X0_tick at hf
  refine v_iload_n K 1 rfl rfl dX0_tick_0 ?_
  obtain ⟨r4, u3, e5, hf⟩ := bnd_of hf
  refine v_callNi K (c_X6_isBit e5) cv_X6_isBit (List.mem_of_getElem? (i := 0) rfl) ⟨rfl, rfl, Nat.le_of_ble_eq_true rfl, Nat.le_of_ble_eq_true rfl⟩ rfl rfl (Nat.le_of_ble_eq_true rfl) dX0_tick_1 ?_
  refine v_if_eq K 14 (by decide) dX0_tick_4 (fun c6 => ?_) (fun c6 => ?_)
  · have hf := ite_t c6 hf
    refine v_sub [] rfl ?_
    exact t_X0_tick_14 h0 h1 K hf
  · have hf := ite_f c6 hf
    refine v_iload_n K 2 rfl rfl dX0_tick_7 ?_
    obtain ⟨r8, u7, e9, hf⟩ := bnd_of hf
    refine v_callNi K (c_X6_isBit e9) cv_X6_isBit (List.mem_of_getElem? (i := 0) rfl) ⟨rfl, rfl, Nat.le_of_ble_eq_true rfl, Nat.le_of_ble_eq_true rfl⟩ rfl rfl (Nat.le_of_ble_eq_true rfl) dX0_tick_8 ?_
    refine v_if_ne K 17 (by decide) dX0_tick_11 (fun c10 => ?_) (fun c10 => ?_)
    · have hf := ite_f c10 hf
      refine v_iconst K (v := 2) (by decide) dX0_tick_17 ?_
      refine v_istore K (ls' := [(4, .int 2), (0, .ref (X.2.1 o0)), (1, .int p1), (2, .int p2), (3, .ref (X.2.1 o1))]) (by decide) rfl dX0_tick_18 ?_
      refine v_aload_n K 1 rfl rfl dX0_tick_20 ?_
      refine gf_0_4 K h0 fl_X0_39 dX0_tick_21 ?_
      by_cases c11 : (agt u7 o0 4) = 0
      · have hf := ite_t c11 hf
        refine v_tabK K 104 c11 (a := 0) (by decide) (by decide) (by decide) rfl (by decide) dX0_tick_24 ?_
        refine v_aload_n K 1 rfl rfl dX0_tick_104 ?_
        obtain ⟨r13, u12, e14, hf⟩ := bnd_of hf
        refine v_callVv K (c_X0_resetChips h0 e14) cv_X0_resetChips ml_X0_89 (am0_0 h0) h0 kdX0 ⟨rfl, rfl, Nat.le_of_ble_eq_true rfl, Nat.le_of_ble_eq_true rfl⟩ rfl rfl (Nat.le_of_ble_eq_true rfl) dX0_tick_105 ?_
        refine v_goto K 160 (by decide) dX0_tick_108 ?_
        refine v_sub [1, 2, 0] rfl ?_
        exact t_X0_tick_160 h0 h1 K hf
      have hf := ite_f c11 hf
      by_cases c15 : (agt u7 o0 4) = 3
      · have hf := ite_t c15 hf
        refine v_tabK K 118 c15 (a := 3) (by decide) (by decide) (by decide) rfl (by decide) dX0_tick_24 ?_
        refine v_aload_n K 1 rfl rfl dX0_tick_118 ?_
        refine v_aload_n K 4 rfl rfl dX0_tick_119 ?_
        obtain ⟨r17, u16, e18, hf⟩ := bnd_of hf
        refine v_callVv K (c_X0_captureData h0 h1 e18) cv_X0_captureData ml_X0_95 (am0_0 h0) h0 kdX0 ⟨rfl, rfl, Nat.le_of_ble_eq_true rfl, Nat.le_of_ble_eq_true rfl⟩ rfl rfl (Nat.le_of_ble_eq_true rfl) dX0_tick_120 ?_
        refine v_goto K 160 (by decide) dX0_tick_123 ?_
        refine v_sub [1, 2, 0] rfl ?_
        exact t_X0_tick_160 h0 h1 K hf
      have hf := ite_f c15 hf
      by_cases c19 : (agt u7 o0 4) = 4
      · have hf := ite_t c19 hf
        refine v_tabK K 150 c19 (a := 4) (by decide) (by decide) (by decide) rfl (by decide) dX0_tick_24 ?_
        refine v_aload_n K 1 rfl rfl dX0_tick_150 ?_
        refine v_iload_n K 3 rfl rfl dX0_tick_151 ?_
        obtain ⟨r21, u20, e22, hf⟩ := bnd_of hf
        refine v_callVi K (c_X0_shiftData h0 e22) cv_X0_shiftData ml_X0_108 (am0_0 h0) h0 kdX0 ⟨rfl, rfl, Nat.le_of_ble_eq_true rfl, Nat.le_of_ble_eq_true rfl⟩ rfl rfl (Nat.le_of_ble_eq_true rfl) dX0_tick_152 ?_
        refine v_istore K (ls' := [(4, .int r21), (0, .ref (X.2.1 o0)), (1, .int p1), (2, .int p2), (3, .ref (X.2.1 o1))]) (by decide) rfl dX0_tick_155 ?_
        refine v_goto K 160 (by decide) dX0_tick_157 ?_
        refine v_sub [1, 2, 0] rfl ?_
        exact t_X0_tick_160 h0 h1 K hf
      have hf := ite_f c19 hf
      by_cases c23 : (agt u7 o0 4) = 8
      · have hf := ite_t c23 hf
        refine v_tabK K 133 c23 (a := 8) (by decide) (by decide) (by decide) rfl (by decide) dX0_tick_24 ?_
        refine v_aload_n K 1 rfl rfl dX0_tick_133 ?_
        obtain ⟨r25, u24, e26, hf⟩ := bnd_of hf
        refine v_callVv K (c_X0_updateLatches h0 e26) cv_X0_updateLatches ml_X0_102 (am0_0 h0) h0 kdX0 ⟨rfl, rfl, Nat.le_of_ble_eq_true rfl, Nat.le_of_ble_eq_true rfl⟩ rfl rfl (Nat.le_of_ble_eq_true rfl) dX0_tick_134 ?_
        refine v_goto K 160 (by decide) dX0_tick_137 ?_
        refine v_sub [1, 2, 0] rfl ?_
        exact t_X0_tick_160 h0 h1 K hf
      have hf := ite_f c23 hf
      by_cases c27 : (agt u7 o0 4) = 10
      · have hf := ite_t c27 hf
        refine v_tabK K 111 c27 (a := 10) (by decide) (by decide) (by decide) rfl (by decide) dX0_tick_24 ?_
        refine v_aload_n K 1 rfl rfl dX0_tick_111 ?_
        obtain ⟨r29, u28, e30, hf⟩ := bnd_of hf
        refine v_callVv K (c_X0_captureInstructions h0 e30) cv_X0_captureInstructions ml_X0_92 (am0_0 h0) h0 kdX0 ⟨rfl, rfl, Nat.le_of_ble_eq_true rfl, Nat.le_of_ble_eq_true rfl⟩ rfl rfl (Nat.le_of_ble_eq_true rfl) dX0_tick_112 ?_
        refine v_goto K 160 (by decide) dX0_tick_115 ?_
        refine v_sub [1, 2, 0] rfl ?_
        exact t_X0_tick_160 h0 h1 K hf
      have hf := ite_f c27 hf
      by_cases c31 : (agt u7 o0 4) = 11
      · have hf := ite_t c31 hf
        refine v_tabK K 140 c31 (a := 11) (by decide) (by decide) (by decide) rfl (by decide) dX0_tick_24 ?_
        refine v_aload_n K 1 rfl rfl dX0_tick_140 ?_
        refine v_iload_n K 3 rfl rfl dX0_tick_141 ?_
        obtain ⟨r33, u32, e34, hf⟩ := bnd_of hf
        refine v_callVi K (c_X0_shiftInstructions h0 e34) cv_X0_shiftInstructions ml_X0_105 (am0_0 h0) h0 kdX0 ⟨rfl, rfl, Nat.le_of_ble_eq_true rfl, Nat.le_of_ble_eq_true rfl⟩ rfl rfl (Nat.le_of_ble_eq_true rfl) dX0_tick_142 ?_
        refine v_istore K (ls' := [(4, .int r33), (0, .ref (X.2.1 o0)), (1, .int p1), (2, .int p2), (3, .ref (X.2.1 o1))]) (by decide) rfl dX0_tick_145 ?_
        refine v_goto K 160 (by decide) dX0_tick_147 ?_
        refine v_sub [1, 2, 0] rfl ?_
        exact t_X0_tick_160 h0 h1 K hf
      have hf := ite_f c31 hf
      by_cases c35 : (agt u7 o0 4) = 15
      · have hf := ite_t c35 hf
        refine v_tabK K 126 c35 (a := 15) (by decide) (by decide) (by decide) rfl (by decide) dX0_tick_24 ?_
        refine v_aload_n K 1 rfl rfl dX0_tick_126 ?_
        obtain ⟨r37, u36, e38, hf⟩ := bnd_of hf
        refine v_callVv K (c_X0_updateInstructions h0 e38) cv_X0_updateInstructions ml_X0_99 (am0_0 h0) h0 kdX0 ⟨rfl, rfl, Nat.le_of_ble_eq_true rfl, Nat.le_of_ble_eq_true rfl⟩ rfl rfl (Nat.le_of_ble_eq_true rfl) dX0_tick_127 ?_
        refine v_goto K 160 (by decide) dX0_tick_130 ?_
        refine v_sub [1, 2, 0] rfl ?_
        exact t_X0_tick_160 h0 h1 K hf
      have hf := ite_f c35 hf
      refine v_tabD K 160 (keys := [0, 3, 4, 8, 10, 11, 15]) (by decide) (by decide) (List.forall_mem_cons.mpr ⟨lv_neT c11 (by decide), (List.forall_mem_cons.mpr ⟨lv_neT c15 (by decide), (List.forall_mem_cons.mpr ⟨lv_neT c19 (by decide), (List.forall_mem_cons.mpr ⟨lv_neT c23 (by decide), (List.forall_mem_cons.mpr ⟨lv_neT c27 (by decide), (List.forall_mem_cons.mpr ⟨lv_neT c31 (by decide), (List.forall_mem_cons.mpr ⟨lv_neT c35 (by decide), (fun _ h => absurd h List.not_mem_nil)⟩)⟩)⟩)⟩)⟩)⟩)⟩) (by decide) dX0_tick_24 ?_
      refine v_sub [1, 2, 0] rfl ?_
      exact t_X0_tick_160 h0 h1 K hf
    · have hf := ite_t c10 hf
      refine v_sub [] rfl ?_
      exact t_X0_tick_14 h0 h1 K hf
abbrev rm_X0_dataBits : Room := { frames := 2, cells := 0, slots := 0, locals := 40 }
set_option maxRecDepth 20000 in
theorem t_X0_dataBits_4 {M : Mx} {X : Wx} {N : Nat} {o0 : Nat} (h0 : akd o0 = 0) {r : Int32} {u' : ASt} (K : OkM 0 M X cX0_dataBits 3 RX0 rm_X0_dataBits (some .int)) : ∀ (n : Nat) (x1 : Int32) (x2 : Int32) (u : ASt), f_X0_dataBits_4 N o0 n x1 x2 u = some (r, u') → V 0 M X (some (.int r), u') 3 4 [(0, .ref (X.2.1 o0)), (1, .int x1), (2, .int x2)] [] u := by
  intro n
  induction n with
  | zero => intro x1 x2 u hf; cases hf
  | succ n ih =>
    intro x1 x2 u hf
    rw [f_X0_dataBits_4] at hf
    refine v_iload_n K 2 rfl rfl dX0_dataBits_4 ?_
    refine v_aload_n K 0 rfl rfl dX0_dataBits_5 ?_
    refine gf_0_1 K h0 fl_X0_22 dX0_dataBits_6 ?_
    refine v_icmp_ge K 30 (by decide) dX0_dataBits_9 (fun c1 => ?_) (fun c1 => ?_)
    · have hf := ite_t c1 hf
      refine v_iload_n K 1 rfl rfl dX0_dataBits_30 ?_
      obtain ⟨rfl, rfl⟩ := pair_of hf
      exact v_iret K dX0_dataBits_31
    · have hf := ite_f c1 hf
      refine v_iload_n K 1 rfl rfl dX0_dataBits_12 ?_
      refine v_aload_n K 0 rfl rfl dX0_dataBits_13 ?_
      refine gf_0_0 K h0 fl_X0_11 dX0_dataBits_14 ?_
      refine v_iload_n K 2 rfl rfl dX0_dataBits_17 ?_
      obtain ⟨g2, hf⟩ := chk_of hf
      refine v_aald K (am0_11 (ak_0_0 h0)) (.inr (ak_0_0 h0)) g2 dX0_dataBits_18 ?_
      obtain ⟨r4, u3, e5, hf⟩ := bnd_of hf
      refine v_callVi K (c_X1_dataBits (ae_11 (ak_0_0 h0) g2) e5) cv_X1_dataBits ml_X0_155 (am0_1 (ae_11 (ak_0_0 h0) g2)) (ae_11 (ak_0_0 h0) g2) kdX1 ⟨rfl, rfl, Nat.le_of_ble_eq_true rfl, Nat.le_of_ble_eq_true rfl⟩ rfl rfl (Nat.le_of_ble_eq_true rfl) dX0_dataBits_19 ?_
      refine v_iadd K dX0_dataBits_22 ?_
      refine v_topi (fun z6 ez6 => ?_)
      have hf := lte_of ez6 hf
      refine v_istore_n K (ls' := [(1, .int z6), (0, .ref (X.2.1 o0)), (2, .int x2)]) rfl (by decide) rfl dX0_dataBits_23 ?_
      refine v_iinc K 2 (v := x2 + 1) (ls' := [(2, .int (x2 + 1)), (1, .int z6), (0, .ref (X.2.1 o0))]) rfl rfl (by decide) rfl dX0_dataBits_24 ?_
      refine v_goto K 4 (by decide) dX0_dataBits_27 ?_
      refine v_sub [2, 1, 0] rfl ?_
      exact ih z6 (x2 + 1) u3 hf
set_option maxRecDepth 20000 in
theorem c_X0_dataBits {X : Wx} {N : Nat} {o0 : Nat} (h0 : akd o0 = 0) {u u' : ASt} {r : Int32} (hf : f_X0_dataBits N o0 u = some (r, u')) (l : Launch) : Met l yX0_dataBits (ws_ yX0_dataBits cX0_dataBits 3 (some .int)) rm_X0_dataBits (Pg 0 X u [.ref (X.2.1 o0)]) (Qg 0 X (some (.int r)) u') 0 0 (Aw 0 X) := by
  refine v_met (res := (some (.int r), u')) (by decide) (Nat.le_of_ble_eq_true rfl) (fun M K => ?_)
  have K : OkM 0 M X cX0_dataBits 3 RX0 rm_X0_dataBits (some .int) := K
  show V 0 M X (some (.int r), u') 3 0 [(0, .ref (X.2.1 o0))] [] u
  unfold f_X0_dataBits at hf
  refine v_iconst K (v := 0) (by decide) dX0_dataBits_0 ?_
  refine v_istore_n K (ls' := [(1, .int 0), (0, .ref (X.2.1 o0))]) rfl (by decide) rfl dX0_dataBits_1 ?_
  refine v_iconst K (v := 0) (by decide) dX0_dataBits_2 ?_
  refine v_istore_n K (ls' := [(2, .int 0), (1, .int 0), (0, .ref (X.2.1 o0))]) rfl (by decide) rfl dX0_dataBits_3 ?_
  refine v_sub [2, 1, 0] rfl ?_
  exact t_X0_dataBits_4 h0 K N 0 0 u hf
abbrev rm_X0_instructionBits : Room := { frames := 0, cells := 0, slots := 0, locals := 0 }
set_option maxRecDepth 20000 in
theorem t_X0_instructionBits_4 {M : Mx} {X : Wx} {N : Nat} {o0 : Nat} (h0 : akd o0 = 0) {r : Int32} {u' : ASt} (K : OkM 0 M X cX0_instructionBits 3 RX0 rm_X0_instructionBits (some .int)) : ∀ (n : Nat) (x1 : Int32) (x2 : Int32) (u : ASt), f_X0_instructionBits_4 N o0 n x1 x2 u = some (r, u') → V 0 M X (some (.int r), u') 3 4 [(0, .ref (X.2.1 o0)), (1, .int x1), (2, .int x2)] [] u := by
  intro n
  induction n with
  | zero => intro x1 x2 u hf; cases hf
  | succ n ih =>
    intro x1 x2 u hf
    rw [f_X0_instructionBits_4] at hf
    refine v_iload_n K 2 rfl rfl dX0_instructionBits_4 ?_
    refine v_aload_n K 0 rfl rfl dX0_instructionBits_5 ?_
    refine gf_0_1 K h0 fl_X0_22 dX0_instructionBits_6 ?_
    refine v_icmp_ge K 30 (by decide) dX0_instructionBits_9 (fun c1 => ?_) (fun c1 => ?_)
    · have hf := ite_t c1 hf
      refine v_iload_n K 1 rfl rfl dX0_instructionBits_30 ?_
      obtain ⟨rfl, rfl⟩ := pair_of hf
      exact v_iret K dX0_instructionBits_31
    · have hf := ite_f c1 hf
      refine v_iload_n K 1 rfl rfl dX0_instructionBits_12 ?_
      refine v_aload_n K 0 rfl rfl dX0_instructionBits_13 ?_
      refine gf_0_0 K h0 fl_X0_11 dX0_instructionBits_14 ?_
      refine v_iload_n K 2 rfl rfl dX0_instructionBits_17 ?_
      obtain ⟨g2, hf⟩ := chk_of hf
      refine v_aald K (am0_11 (ak_0_0 h0)) (.inr (ak_0_0 h0)) g2 dX0_instructionBits_18 ?_
      refine gf_1_0 K (ae_11 (ak_0_0 h0) g2) fl_X0_159 dX0_instructionBits_19 ?_
      refine v_iadd K dX0_instructionBits_22 ?_
      refine v_topi (fun z3 ez3 => ?_)
      have hf := lte_of ez3 hf
      refine v_istore_n K (ls' := [(1, .int z3), (0, .ref (X.2.1 o0)), (2, .int x2)]) rfl (by decide) rfl dX0_instructionBits_23 ?_
      refine v_iinc K 2 (v := x2 + 1) (ls' := [(2, .int (x2 + 1)), (1, .int z3), (0, .ref (X.2.1 o0))]) rfl rfl (by decide) rfl dX0_instructionBits_24 ?_
      refine v_goto K 4 (by decide) dX0_instructionBits_27 ?_
      refine v_sub [2, 1, 0] rfl ?_
      exact ih z3 (x2 + 1) u hf
set_option maxRecDepth 20000 in
theorem c_X0_instructionBits {X : Wx} {N : Nat} {o0 : Nat} (h0 : akd o0 = 0) {u u' : ASt} {r : Int32} (hf : f_X0_instructionBits N o0 u = some (r, u')) (l : Launch) : Met l yX0_instructionBits (ws_ yX0_instructionBits cX0_instructionBits 3 (some .int)) rm_X0_instructionBits (Pg 0 X u [.ref (X.2.1 o0)]) (Qg 0 X (some (.int r)) u') 0 0 (Aw 0 X) := by
  refine v_met (res := (some (.int r), u')) (by decide) (Nat.le_of_ble_eq_true rfl) (fun M K => ?_)
  have K : OkM 0 M X cX0_instructionBits 3 RX0 rm_X0_instructionBits (some .int) := K
  show V 0 M X (some (.int r), u') 3 0 [(0, .ref (X.2.1 o0))] [] u
  unfold f_X0_instructionBits at hf
  refine v_iconst K (v := 0) (by decide) dX0_instructionBits_0 ?_
  refine v_istore_n K (ls' := [(1, .int 0), (0, .ref (X.2.1 o0))]) rfl (by decide) rfl dX0_instructionBits_1 ?_
  refine v_iconst K (v := 0) (by decide) dX0_instructionBits_2 ?_
  refine v_istore_n K (ls' := [(2, .int 0), (1, .int 0), (0, .ref (X.2.1 o0))]) rfl (by decide) rfl dX0_instructionBits_3 ?_
  refine v_sub [2, 1, 0] rfl ?_
  exact t_X0_instructionBits_4 h0 K N 0 0 u hf
abbrev rm_X0_cellCount : Room := { frames := 0, cells := 0, slots := 0, locals := 0 }
set_option maxRecDepth 20000 in
theorem t_X0_cellCount_4 {M : Mx} {X : Wx} {N : Nat} {o0 : Nat} (h0 : akd o0 = 0) {r : Int32} {u' : ASt} (K : OkM 0 M X cX0_cellCount 3 RX0 rm_X0_cellCount (some .int)) : ∀ (n : Nat) (x1 : Int32) (x2 : Int32) (u : ASt), f_X0_cellCount_4 N o0 n x1 x2 u = some (r, u') → V 0 M X (some (.int r), u') 3 4 [(0, .ref (X.2.1 o0)), (1, .int x1), (2, .int x2)] [] u := by
  intro n
  induction n with
  | zero => intro x1 x2 u hf; cases hf
  | succ n ih =>
    intro x1 x2 u hf
    rw [f_X0_cellCount_4] at hf
    refine v_iload_n K 2 rfl rfl dX0_cellCount_4 ?_
    refine v_aload_n K 0 rfl rfl dX0_cellCount_5 ?_
    refine gf_0_1 K h0 fl_X0_22 dX0_cellCount_6 ?_
    refine v_icmp_ge K 30 (by decide) dX0_cellCount_9 (fun c1 => ?_) (fun c1 => ?_)
    · have hf := ite_t c1 hf
      refine v_iload_n K 1 rfl rfl dX0_cellCount_30 ?_
      obtain ⟨rfl, rfl⟩ := pair_of hf
      exact v_iret K dX0_cellCount_31
    · have hf := ite_f c1 hf
      refine v_iload_n K 1 rfl rfl dX0_cellCount_12 ?_
      refine v_aload_n K 0 rfl rfl dX0_cellCount_13 ?_
      refine gf_0_0 K h0 fl_X0_11 dX0_cellCount_14 ?_
      refine v_iload_n K 2 rfl rfl dX0_cellCount_17 ?_
      obtain ⟨g2, hf⟩ := chk_of hf
      refine v_aald K (am0_11 (ak_0_0 h0)) (.inr (ak_0_0 h0)) g2 dX0_cellCount_18 ?_
      refine gf_1_6 K (ae_11 (ak_0_0 h0) g2) fl_X0_52 dX0_cellCount_19 ?_
      refine v_iadd K dX0_cellCount_22 ?_
      refine v_topi (fun z3 ez3 => ?_)
      have hf := lte_of ez3 hf
      refine v_istore_n K (ls' := [(1, .int z3), (0, .ref (X.2.1 o0)), (2, .int x2)]) rfl (by decide) rfl dX0_cellCount_23 ?_
      refine v_iinc K 2 (v := x2 + 1) (ls' := [(2, .int (x2 + 1)), (1, .int z3), (0, .ref (X.2.1 o0))]) rfl rfl (by decide) rfl dX0_cellCount_24 ?_
      refine v_goto K 4 (by decide) dX0_cellCount_27 ?_
      refine v_sub [2, 1, 0] rfl ?_
      exact ih z3 (x2 + 1) u hf
set_option maxRecDepth 20000 in
theorem c_X0_cellCount {X : Wx} {N : Nat} {o0 : Nat} (h0 : akd o0 = 0) {u u' : ASt} {r : Int32} (hf : f_X0_cellCount N o0 u = some (r, u')) (l : Launch) : Met l yX0_cellCount (ws_ yX0_cellCount cX0_cellCount 3 (some .int)) rm_X0_cellCount (Pg 0 X u [.ref (X.2.1 o0)]) (Qg 0 X (some (.int r)) u') 0 0 (Aw 0 X) := by
  refine v_met (res := (some (.int r), u')) (by decide) (Nat.le_of_ble_eq_true rfl) (fun M K => ?_)
  have K : OkM 0 M X cX0_cellCount 3 RX0 rm_X0_cellCount (some .int) := K
  show V 0 M X (some (.int r), u') 3 0 [(0, .ref (X.2.1 o0))] [] u
  unfold f_X0_cellCount at hf
  refine v_iconst K (v := 0) (by decide) dX0_cellCount_0 ?_
  refine v_istore_n K (ls' := [(1, .int 0), (0, .ref (X.2.1 o0))]) rfl (by decide) rfl dX0_cellCount_1 ?_
  refine v_iconst K (v := 0) (by decide) dX0_cellCount_2 ?_
  refine v_istore_n K (ls' := [(2, .int 0), (1, .int 0), (0, .ref (X.2.1 o0))]) rfl (by decide) rfl dX0_cellCount_3 ?_
  refine v_sub [2, 1, 0] rfl ?_
  exact t_X0_cellCount_4 h0 K N 0 0 u hf
abbrev rm_X0_number : Room := { frames := 1, cells := 0, slots := 0, locals := 22 }
set_option maxRecDepth 20000 in
theorem c_X0_number {X : Wx} {N : Nat} {o0 : Nat} {p1 : Int32} (h0 : akd o0 = 0) {u u' : ASt} {r : Int32} (hf : f_X0_number N o0 p1 u = some (r, u')) (l : Launch) : Met l yX0_number (ws_ yX0_number cX0_number 2 (some .int)) rm_X0_number (Pg 0 X u [.ref (X.2.1 o0), .int p1]) (Qg 0 X (some (.int r)) u') 0 0 (Aw 0 X) := by
  refine v_met (res := (some (.int r), u')) (by decide) (Nat.le_of_ble_eq_true rfl) (fun M K => ?_)
  have K : OkM 0 M X cX0_number 2 RX0 rm_X0_number (some .int) := K
  show V 0 M X (some (.int r), u') 2 0 [(0, .ref (X.2.1 o0)), (1, .int p1)] [] u
  unfold f_X0_number at hf
  refine v_iload_n K 1 rfl rfl dX0_number_0 ?_
  by_cases c1 : p1 = 0
  · have hf := ite_t c1 hf
    refine v_tabK K 36 c1 (a := 0) (by decide) (by decide) (by decide) rfl (by decide) dX0_number_1 ?_
    refine v_aload_n K 0 rfl rfl dX0_number_36 ?_
    refine gf_0_1 K h0 fl_X0_22 dX0_number_37 ?_
    obtain ⟨rfl, rfl⟩ := pair_of hf
    exact v_iret K dX0_number_40
  have hf := ite_f c1 hf
  by_cases c2 : p1 = 1
  · have hf := ite_t c2 hf
    refine v_tabK K 41 c2 (a := 1) (by decide) (by decide) (by decide) rfl (by decide) dX0_number_1 ?_
    refine v_aload_n K 0 rfl rfl dX0_number_41 ?_
    obtain ⟨r4, u3, e5, hf⟩ := bnd_of hf
    refine v_callVi K (c_X0_cellCount h0 e5) cv_X0_cellCount ml_X0_162 (am0_0 h0) h0 kdX0 ⟨rfl, rfl, Nat.le_of_ble_eq_true rfl, Nat.le_of_ble_eq_true rfl⟩ rfl rfl (Nat.le_of_ble_eq_true rfl) dX0_number_42 ?_
    obtain ⟨rfl, rfl⟩ := pair_of hf
    exact v_iret K dX0_number_45
  have hf := ite_f c2 hf
  by_cases c6 : p1 = 2
  · have hf := ite_t c6 hf
    refine v_tabK K 46 c6 (a := 2) (by decide) (by decide) (by decide) rfl (by decide) dX0_number_1 ?_
    refine v_aload_n K 0 rfl rfl dX0_number_46 ?_
    refine gf_0_3 K h0 fl_X0_36 dX0_number_47 ?_
    obtain ⟨rfl, rfl⟩ := pair_of hf
    exact v_iret K dX0_number_50
  have hf := ite_f c6 hf
  by_cases c7 : p1 = 3
  · have hf := ite_t c7 hf
    refine v_tabK K 51 c7 (a := 3) (by decide) (by decide) (by decide) rfl (by decide) dX0_number_1 ?_
    refine v_aload_n K 0 rfl rfl dX0_number_51 ?_
    refine gf_0_5 K h0 fl_X0_42 dX0_number_52 ?_
    obtain ⟨rfl, rfl⟩ := pair_of hf
    exact v_iret K dX0_number_55
  have hf := ite_f c7 hf
  by_cases c8 : p1 = 4
  · have hf := ite_t c8 hf
    refine v_tabK K 56 c8 (a := 4) (by decide) (by decide) (by decide) rfl (by decide) dX0_number_1 ?_
    refine v_aload_n K 0 rfl rfl dX0_number_56 ?_
    refine gf_0_6 K h0 fl_X0_45 dX0_number_57 ?_
    obtain ⟨rfl, rfl⟩ := pair_of hf
    exact v_iret K dX0_number_60
  have hf := ite_f c8 hf
  refine v_tabD K 61 (keys := [0, 1, 2, 3, 4]) (by decide) (by decide) (List.forall_mem_cons.mpr ⟨lv_neT c1 (by decide), (List.forall_mem_cons.mpr ⟨lv_neT c2 (by decide), (List.forall_mem_cons.mpr ⟨lv_neT c6 (by decide), (List.forall_mem_cons.mpr ⟨lv_neT c7 (by decide), (List.forall_mem_cons.mpr ⟨lv_neT c8 (by decide), (fun _ h => absurd h List.not_mem_nil)⟩)⟩)⟩)⟩)⟩) (by decide) dX0_number_1 ?_
  refine v_bipush K (v := (-2)) (by decide) dX0_number_61 ?_
  obtain ⟨rfl, rfl⟩ := pair_of hf
  exact v_iret K dX0_number_63
abbrev rm_X1_number : Room := { frames := 2, cells := 0, slots := 0, locals := 40 }
set_option maxRecDepth 20000 in
theorem c_X1_number {X : Wx} {N : Nat} {o0 : Nat} {p1 : Int32} (h0 : akd o0 = 1) {u u' : ASt} {r : Int32} (hf : f_X1_number N o0 p1 u = some (r, u')) (l : Launch) : Met l yX1_number (ws_ yX1_number cX1_number 2 (some .int)) rm_X1_number (Pg 0 X u [.ref (X.2.1 o0), .int p1]) (Qg 0 X (some (.int r)) u') 0 0 (Aw 0 X) := by
  refine v_met (res := (some (.int r), u')) (by decide) (Nat.le_of_ble_eq_true rfl) (fun M K => ?_)
  have K : OkM 0 M X cX1_number 2 RX1 rm_X1_number (some .int) := K
  show V 0 M X (some (.int r), u') 2 0 [(0, .ref (X.2.1 o0)), (1, .int p1)] [] u
  unfold f_X1_number at hf
  refine v_iload_n K 1 rfl rfl dX1_number_0 ?_
  by_cases c1 : p1 = 0
  · have hf := ite_t c1 hf
    refine v_tabK K 48 c1 (a := 0) (by decide) (by decide) (by decide) rfl (by decide) dX1_number_1 ?_
    refine v_aload_n K 0 rfl rfl dX1_number_48 ?_
    refine gf_1_0 K h0 fl_X1_15 dX1_number_49 ?_
    obtain ⟨rfl, rfl⟩ := pair_of hf
    exact v_iret K dX1_number_52
  have hf := ite_f c1 hf
  by_cases c2 : p1 = 1
  · have hf := ite_t c2 hf
    refine v_tabK K 53 c2 (a := 1) (by decide) (by decide) (by decide) rfl (by decide) dX1_number_1 ?_
    refine v_aload_n K 0 rfl rfl dX1_number_53 ?_
    refine gf_1_1 K h0 fl_X1_19 dX1_number_54 ?_
    obtain ⟨rfl, rfl⟩ := pair_of hf
    exact v_iret K dX1_number_57
  have hf := ite_f c2 hf
  by_cases c3 : p1 = 2
  · have hf := ite_t c3 hf
    refine v_tabK K 58 c3 (a := 2) (by decide) (by decide) (by decide) rfl (by decide) dX1_number_1 ?_
    refine v_aload_n K 0 rfl rfl dX1_number_58 ?_
    refine gf_1_6 K h0 fl_X1_31 dX1_number_59 ?_
    obtain ⟨rfl, rfl⟩ := pair_of hf
    exact v_iret K dX1_number_62
  have hf := ite_f c3 hf
  by_cases c4 : p1 = 3
  · have hf := ite_t c4 hf
    refine v_tabK K 63 c4 (a := 3) (by decide) (by decide) (by decide) rfl (by decide) dX1_number_1 ?_
    refine v_aload_n K 0 rfl rfl dX1_number_63 ?_
    refine gf_1_2 K h0 fl_X1_40 dX1_number_64 ?_
    obtain ⟨rfl, rfl⟩ := pair_of hf
    exact v_iret K dX1_number_67
  have hf := ite_f c4 hf
  by_cases c5 : p1 = 4
  · have hf := ite_t c5 hf
    refine v_tabK K 68 c5 (a := 4) (by decide) (by decide) (by decide) rfl (by decide) dX1_number_1 ?_
    refine v_aload_n K 0 rfl rfl dX1_number_68 ?_
    obtain ⟨r7, u6, e8, hf⟩ := bnd_of hf
    refine v_callVi K (c_X1_dataBits h0 e8) cv_X1_dataBits ml_X1_60 (am0_1 h0) h0 kdX1 ⟨rfl, rfl, Nat.le_of_ble_eq_true rfl, Nat.le_of_ble_eq_true rfl⟩ rfl rfl (Nat.le_of_ble_eq_true rfl) dX1_number_69 ?_
    obtain ⟨rfl, rfl⟩ := pair_of hf
    exact v_iret K dX1_number_72
  have hf := ite_f c5 hf
  by_cases c9 : p1 = 5
  · have hf := ite_t c9 hf
    refine v_tabK K 73 c9 (a := 5) (by decide) (by decide) (by decide) rfl (by decide) dX1_number_1 ?_
    refine v_aload_n K 0 rfl rfl dX1_number_73 ?_
    refine gf_1_3 K h0 fl_X1_22 dX1_number_74 ?_
    obtain ⟨rfl, rfl⟩ := pair_of hf
    exact v_iret K dX1_number_77
  have hf := ite_f c9 hf
  by_cases c10 : p1 = 6
  · have hf := ite_t c10 hf
    refine v_tabK K 78 c10 (a := 6) (by decide) (by decide) (by decide) rfl (by decide) dX1_number_1 ?_
    refine v_aload_n K 0 rfl rfl dX1_number_78 ?_
    refine gf_1_4 K h0 fl_X1_25 dX1_number_79 ?_
    obtain ⟨rfl, rfl⟩ := pair_of hf
    exact v_iret K dX1_number_82
  have hf := ite_f c10 hf
  by_cases c11 : p1 = 7
  · have hf := ite_t c11 hf
    refine v_tabK K 83 c11 (a := 7) (by decide) (by decide) (by decide) rfl (by decide) dX1_number_1 ?_
    refine v_aload_n K 0 rfl rfl dX1_number_83 ?_
    refine gf_1_5 K h0 fl_X1_28 dX1_number_84 ?_
    obtain ⟨rfl, rfl⟩ := pair_of hf
    exact v_iret K dX1_number_87
  have hf := ite_f c11 hf
  refine v_tabD K 88 (keys := [0, 1, 2, 3, 4, 5, 6, 7]) (by decide) (by decide) (List.forall_mem_cons.mpr ⟨lv_neT c1 (by decide), (List.forall_mem_cons.mpr ⟨lv_neT c2 (by decide), (List.forall_mem_cons.mpr ⟨lv_neT c3 (by decide), (List.forall_mem_cons.mpr ⟨lv_neT c4 (by decide), (List.forall_mem_cons.mpr ⟨lv_neT c5 (by decide), (List.forall_mem_cons.mpr ⟨lv_neT c9 (by decide), (List.forall_mem_cons.mpr ⟨lv_neT c10 (by decide), (List.forall_mem_cons.mpr ⟨lv_neT c11 (by decide), (fun _ h => absurd h List.not_mem_nil)⟩)⟩)⟩)⟩)⟩)⟩)⟩)⟩) (by decide) dX1_number_1 ?_
  refine v_bipush K (v := (-2)) (by decide) dX1_number_88 ?_
  obtain ⟨rfl, rfl⟩ := pair_of hf
  exact v_iret K dX1_number_90
abbrev rm_X2_mark : Room := { frames := 3, cells := 0, slots := 0, locals := 83 }
set_option maxRecDepth 20000 in
theorem c_X2_mark {X : Wx} {N : Nat} {o0 : Nat} {o1 : Nat} (h0 : akd o0 = 2) (h1 : akd o1 = 0) {u u' : ASt} {r : Unit} (hf : f_X2_mark N o0 o1 u = some (r, u')) (l : Launch) : Met l yX2_mark (ws_ yX2_mark cX2_mark 2 none) rm_X2_mark (Pg 0 X u [.ref (X.2.1 o0), .ref (X.2.1 o1)]) (Qg 0 X (none) u') 0 0 (Aw 0 X) := by
  refine v_met (res := (none, u')) (by decide) (Nat.le_of_ble_eq_true rfl) (fun M K => ?_)
  have K : OkM 0 M X cX2_mark 2 RX2 rm_X2_mark none := K
  show V 0 M X (none, u') 2 0 [(0, .ref (X.2.1 o0)), (1, .ref (X.2.1 o1))] [] u
  unfold f_X2_mark at hf
  refine v_aload_n K 0 rfl rfl dX2_mark_0 ?_
  refine gf_2_0 K h0 fl_X2_13 dX2_mark_1 ?_
  refine v_aload_n K 0 rfl rfl dX2_mark_4 ?_
  refine gf_2_1 K h0 fl_X2_18 dX2_mark_5 ?_
  obtain ⟨g1, hf⟩ := chk_of hf
  refine v_aald K (am0_10 (ak_2_0 h0)) (.inl (ak_2_0 h0)) g1 dX2_mark_8 ?_
  refine v_aload_n K 1 rfl rfl dX2_mark_9 ?_
  obtain ⟨r3, u2, e4, hf⟩ := bnd_of hf
  refine v_callVv K (c_X0_copyFrom (ae_10 (ak_2_0 h0) g1) h1 e4) cv_X0_copyFrom ml_X2_22 (am0_0 (ae_10 (ak_2_0 h0) g1)) (ae_10 (ak_2_0 h0) g1) kdX0 ⟨rfl, rfl, Nat.le_of_ble_eq_true rfl, Nat.le_of_ble_eq_true rfl⟩ rfl rfl (Nat.le_of_ble_eq_true rfl) dX2_mark_10 ?_
  obtain ⟨rfl, rfl⟩ := pair_of hf
  exact v_vret K dX2_mark_13
abbrev rm_X2_keepMark : Room := { frames := 1, cells := 0, slots := 0, locals := 21 }
set_option maxRecDepth 20000 in
theorem c_X2_keepMark {X : Wx} {N : Nat} {o0 : Nat} (h0 : akd o0 = 2) {u u' : ASt} {r : Unit} (hf : f_X2_keepMark N o0 u = some (r, u')) (l : Launch) : Met l yX2_keepMark (ws_ yX2_keepMark cX2_keepMark 1 none) rm_X2_keepMark (Pg 0 X u [.ref (X.2.1 o0)]) (Qg 0 X (none) u') 0 0 (Aw 0 X) := by
  refine v_met (res := (none, u')) (by decide) (Nat.le_of_ble_eq_true rfl) (fun M K => ?_)
  have K : OkM 0 M X cX2_keepMark 1 RX2 rm_X2_keepMark none := K
  show V 0 M X (none, u') 1 0 [(0, .ref (X.2.1 o0))] [] u
  unfold f_X2_keepMark at hf
  refine v_aload_n K 0 rfl rfl dX2_keepMark_0 ?_
  refine v_aload_n K 0 rfl rfl dX2_keepMark_1 ?_
  refine gf_2_1 K h0 fl_X2_18 dX2_keepMark_2 ?_
  refine v_iconst K (v := 1) (by decide) dX2_keepMark_5 ?_
  refine v_iadd K dX2_keepMark_6 ?_
  refine v_bipush K (v := 6) (by decide) dX2_keepMark_7 ?_
  refine v_irem K (by decide) dX2_keepMark_9 ?_
  refine pf_2_1 K h0 fl_X2_18 dX2_keepMark_10 ?_
  refine v_st (fun u1 eu1 => ?_)
  have hf := lte_of eu1 hf
  refine v_aload_n K 0 rfl rfl dX2_keepMark_13 ?_
  refine v_aload_n K 0 rfl rfl dX2_keepMark_14 ?_
  refine gf_2_2 K h0 fl_X2_26 dX2_keepMark_15 ?_
  refine v_iconst K (v := 1) (by decide) dX2_keepMark_18 ?_
  refine v_iadd K dX2_keepMark_19 ?_
  refine v_iconst K (v := 5) (by decide) dX2_keepMark_20 ?_
  refine v_min K ml_X2_29 mw_1min mw_2 mw_3min (by decide) (Nat.le_of_ble_eq_true rfl) dX2_keepMark_21 ?_
  refine pf_2_2 K h0 fl_X2_26 dX2_keepMark_24 ?_
  refine v_st (fun u2 eu2 => ?_)
  have hf := lte_of eu2 hf
  obtain ⟨rfl, rfl⟩ := pair_of hf
  exact v_vret K dX2_keepMark_27
abbrev rm_X2_returnToMark : Room := { frames := 3, cells := 0, slots := 0, locals := 83 }
set_option maxRecDepth 20000 in
theorem c_X2_returnToMark {X : Wx} {N : Nat} {o0 : Nat} {o1 : Nat} (h0 : akd o0 = 2) (h1 : akd o1 = 0) {u u' : ASt} {r : Unit} (hf : f_X2_returnToMark N o0 o1 u = some (r, u')) (l : Launch) : Met l yX2_returnToMark (ws_ yX2_returnToMark cX2_returnToMark 2 none) rm_X2_returnToMark (Pg 0 X u [.ref (X.2.1 o0), .ref (X.2.1 o1)]) (Qg 0 X (none) u') 0 0 (Aw 0 X) := by
  refine v_met (res := (none, u')) (by decide) (Nat.le_of_ble_eq_true rfl) (fun M K => ?_)
  have K : OkM 0 M X cX2_returnToMark 2 RX2 rm_X2_returnToMark none := K
  show V 0 M X (none, u') 2 0 [(0, .ref (X.2.1 o0)), (1, .ref (X.2.1 o1))] [] u
  unfold f_X2_returnToMark at hf
  refine v_aload_n K 1 rfl rfl dX2_returnToMark_0 ?_
  refine v_aload_n K 0 rfl rfl dX2_returnToMark_1 ?_
  refine gf_2_0 K h0 fl_X2_13 dX2_returnToMark_2 ?_
  refine v_aload_n K 0 rfl rfl dX2_returnToMark_5 ?_
  refine gf_2_1 K h0 fl_X2_18 dX2_returnToMark_6 ?_
  obtain ⟨g1, hf⟩ := chk_of hf
  refine v_aald K (am0_10 (ak_2_0 h0)) (.inl (ak_2_0 h0)) g1 dX2_returnToMark_9 ?_
  obtain ⟨r3, u2, e4, hf⟩ := bnd_of hf
  refine v_callVv K (c_X0_copyFrom h1 (ae_10 (ak_2_0 h0) g1) e4) cv_X0_copyFrom ml_X2_22 (am0_0 h1) h1 kdX0 ⟨rfl, rfl, Nat.le_of_ble_eq_true rfl, Nat.le_of_ble_eq_true rfl⟩ rfl rfl (Nat.le_of_ble_eq_true rfl) dX2_returnToMark_10 ?_
  obtain ⟨rfl, rfl⟩ := pair_of hf
  exact v_vret K dX2_returnToMark_13
abbrev rm_X2_takeBack : Room := { frames := 4, cells := 0, slots := 0, locals := 104 }
set_option maxRecDepth 20000 in
theorem c_X2_takeBack {X : Wx} {N : Nat} {o0 : Nat} {o1 : Nat} (h0 : akd o0 = 2) (h1 : akd o1 = 0) {u u' : ASt} {r : Int32} (hf : f_X2_takeBack N o0 o1 u = some (r, u')) (l : Launch) : Met l yX2_takeBack (ws_ yX2_takeBack cX2_takeBack 2 (some .int)) rm_X2_takeBack (Pg 0 X u [.ref (X.2.1 o0), .ref (X.2.1 o1)]) (Qg 0 X (some (.int r)) u') 0 0 (Aw 0 X) := by
  refine v_met (res := (some (.int r), u')) (by decide) (Nat.le_of_ble_eq_true rfl) (fun M K => ?_)
  have K : OkM 0 M X cX2_takeBack 2 RX2 rm_X2_takeBack (some .int) := K
  show V 0 M X (some (.int r), u') 2 0 [(0, .ref (X.2.1 o0)), (1, .ref (X.2.1 o1))] [] u
  unfold f_X2_takeBack at hf
  refine v_aload_n K 0 rfl rfl dX2_takeBack_0 ?_
  refine gf_2_2 K h0 fl_X2_26 dX2_takeBack_1 ?_
  refine v_if_ne K 10 (by decide) dX2_takeBack_4 (fun c1 => ?_) (fun c1 => ?_)
  · have hf := ite_f c1 hf
    refine v_aload_n K 0 rfl rfl dX2_takeBack_10 ?_
    refine v_aload_n K 0 rfl rfl dX2_takeBack_11 ?_
    refine gf_2_1 K h0 fl_X2_18 dX2_takeBack_12 ?_
    refine v_bipush K (v := 6) (by decide) dX2_takeBack_15 ?_
    refine v_iadd K dX2_takeBack_17 ?_
    refine v_iconst K (v := 1) (by decide) dX2_takeBack_18 ?_
    refine v_isub K dX2_takeBack_19 ?_
    refine v_bipush K (v := 6) (by decide) dX2_takeBack_20 ?_
    refine v_irem K (by decide) dX2_takeBack_22 ?_
    refine pf_2_1 K h0 fl_X2_18 dX2_takeBack_23 ?_
    refine v_st (fun u2 eu2 => ?_)
    have hf := lte_of eu2 hf
    refine v_aload_n K 0 rfl rfl dX2_takeBack_26 ?_
    refine v_dup K rfl dX2_takeBack_27 ?_
    refine gf_2_2 K h0 fl_X2_26 dX2_takeBack_28 ?_
    refine v_iconst K (v := 1) (by decide) dX2_takeBack_31 ?_
    refine v_isub K dX2_takeBack_32 ?_
    refine pf_2_2 K h0 fl_X2_26 dX2_takeBack_33 ?_
    refine v_st (fun u3 eu3 => ?_)
    have hf := lte_of eu3 hf
    refine v_aload_n K 0 rfl rfl dX2_takeBack_36 ?_
    refine v_aload_n K 1 rfl rfl dX2_takeBack_37 ?_
    obtain ⟨r5, u4, e6, hf⟩ := bnd_of hf
    refine v_callVv K (c_X2_returnToMark h0 h1 e6) cv_X2_returnToMark ml_X2_35 (am0_2 h0) h0 kdX2 ⟨rfl, rfl, Nat.le_of_ble_eq_true rfl, Nat.le_of_ble_eq_true rfl⟩ rfl rfl (Nat.le_of_ble_eq_true rfl) dX2_takeBack_38 ?_
    refine v_aload_n K 0 rfl rfl dX2_takeBack_41 ?_
    refine gf_2_2 K h0 fl_X2_26 dX2_takeBack_42 ?_
    obtain ⟨rfl, rfl⟩ := pair_of hf
    exact v_iret K dX2_takeBack_45
  · have hf := ite_t c1 hf
    refine v_bipush K (v := (-3)) (by decide) dX2_takeBack_7 ?_
    obtain ⟨rfl, rfl⟩ := pair_of hf
    exact v_iret K dX2_takeBack_9
abbrev rm_X3_netsOfSoundOutputs : Room := { frames := 1, cells := 0, slots := 0, locals := 21 }
set_option maxRecDepth 20000 in
theorem t_X3_netsOfSoundOutputs_66 {M : Mx} {X : Wx} {N : Nat} {o0 : Nat} (h0 : akd o0 = 3) {r : Int32} {u' : ASt} (K : OkM 0 M X cX3_netsOfSoundOutputs 6 RX3 rm_X3_netsOfSoundOutputs (some .int)) {k4 : Int32 → Int32 → ASt → Option (Int32 × ASt)} (hk4 : ∀ (x1 : Int32) (x2 : Int32) (u : ASt), k4 x1 x2 u = some (r, u') → V 0 M X (some (.int r), u') 6 4 [(0, .ref (X.2.1 o0)), (1, .int x1), (2, .int x2)] [] u) {k35 : Int32 → Int32 → Nat → Int32 → Int32 → ASt → Option (Int32 × ASt)} (hk35 : ∀ (x1 : Int32) (x2 : Int32) (b3 : Nat) (x4 : Int32) (x5 : Int32) (u : ASt), akd b3 = 1 → k35 x1 x2 b3 x4 x5 u = some (r, u') → V 0 M X (some (.int r), u') 6 35 [(0, .ref (X.2.1 o0)), (1, .int x1), (2, .int x2), (3, .ref (X.2.1 b3)), (4, .int x4), (5, .int x5)] [] u) {x1 : Int32} {x2 : Int32} {b3 : Nat} {x4 : Int32} {x5 : Int32} (hb3 : akd b3 = 1) {u : ASt} (hf : f_X3_netsOfSoundOutputs_66 N o0 k4 k35 x1 x2 b3 x4 x5 u = some (r, u')) : V 0 M X (some (.int r), u') 6 66 [(0, .ref (X.2.1 o0)), (1, .int x1), (2, .int x2), (3, .ref (X.2.1 b3)), (4, .int x4), (5, .int x5)] [] u := by
  unfold f_X3_netsOfSoundOutputs_66 at hf
  refine v_iinc K 5 (v := x5 + 1) (ls' := [(5, .int (x5 + 1)), (0, .ref (X.2.1 o0)), (1, .int x1), (2, .int x2), (3, .ref (X.2.1 b3)), (4, .int x4)]) rfl rfl (by decide) rfl dX3_netsOfSoundOutputs_66 ?_
  refine v_goto K 35 (by decide) dX3_netsOfSoundOutputs_69 ?_
  refine v_sub [1, 2, 3, 4, 5, 0] rfl ?_
  exact hk35 x1 x2 b3 x4 (x5 + 1) u hb3 hf
set_option maxRecDepth 20000 in
theorem t_X3_netsOfSoundOutputs_35 {M : Mx} {X : Wx} {N : Nat} {o0 : Nat} (h0 : akd o0 = 3) {r : Int32} {u' : ASt} (K : OkM 0 M X cX3_netsOfSoundOutputs 6 RX3 rm_X3_netsOfSoundOutputs (some .int)) {k4 : Int32 → Int32 → ASt → Option (Int32 × ASt)} (hk4 : ∀ (x1 : Int32) (x2 : Int32) (u : ASt), k4 x1 x2 u = some (r, u') → V 0 M X (some (.int r), u') 6 4 [(0, .ref (X.2.1 o0)), (1, .int x1), (2, .int x2)] [] u) : ∀ (n : Nat) (x1 : Int32) (x2 : Int32) (b3 : Nat) (x4 : Int32) (x5 : Int32) (u : ASt), akd b3 = 1 → f_X3_netsOfSoundOutputs_35 N o0 k4 n x1 x2 b3 x4 x5 u = some (r, u') → V 0 M X (some (.int r), u') 6 35 [(0, .ref (X.2.1 o0)), (1, .int x1), (2, .int x2), (3, .ref (X.2.1 b3)), (4, .int x4), (5, .int x5)] [] u := by
  intro n
  induction n with
  | zero => intro x1 x2 b3 x4 x5 u hb3 hf; cases hf
  | succ n ih =>
    intro x1 x2 b3 x4 x5 u hb3 hf
    rw [f_X3_netsOfSoundOutputs_35] at hf
    refine v_iload K 5 rfl dX3_netsOfSoundOutputs_35 ?_
    refine v_aload_n K 3 rfl rfl dX3_netsOfSoundOutputs_37 ?_
    refine gf_1_6 K hb3 fl_X3_89 dX3_netsOfSoundOutputs_38 ?_
    refine v_icmp_ge K 72 (by decide) dX3_netsOfSoundOutputs_41 (fun c1 => ?_) (fun c1 => ?_)
    · have hf := ite_t c1 hf
      refine v_iinc K 2 (v := x2 + 1) (ls' := [(2, .int (x2 + 1)), (0, .ref (X.2.1 o0)), (1, .int x1), (3, .ref (X.2.1 b3)), (4, .int x4), (5, .int x5)]) rfl rfl (by decide) rfl dX3_netsOfSoundOutputs_72 ?_
      refine v_goto K 4 (by decide) dX3_netsOfSoundOutputs_75 ?_
      refine v_sub [1, 2, 0] rfl ?_
      exact hk4 x1 (x2 + 1) u hf
    · have hf := ite_f c1 hf
      refine v_iload K 4 rfl dX3_netsOfSoundOutputs_44 ?_
      refine v_iload K 5 rfl dX3_netsOfSoundOutputs_46 ?_
      obtain ⟨r3, u2, e4, hf⟩ := bnd_of hf
      refine v_callNi K (c_X6_isMember e4) cv_X6_isMember (List.mem_of_getElem? (i := 6) rfl) ⟨rfl, rfl, Nat.le_of_ble_eq_true rfl, Nat.le_of_ble_eq_true rfl⟩ rfl rfl (Nat.le_of_ble_eq_true rfl) dX3_netsOfSoundOutputs_48 ?_
      refine v_if_eq K 66 (by decide) dX3_netsOfSoundOutputs_51 (fun c5 => ?_) (fun c5 => ?_)
      · have hf := ite_t c5 hf
        exact t_X3_netsOfSoundOutputs_66 h0 K hk4 ih hb3 hf
      · have hf := ite_f c5 hf
        refine v_iload_n K 1 rfl rfl dX3_netsOfSoundOutputs_54 ?_
        refine v_iconst K (v := 1) (by decide) dX3_netsOfSoundOutputs_55 ?_
        refine v_aload_n K 3 rfl rfl dX3_netsOfSoundOutputs_56 ?_
        refine gf_1_8 K hb3 fl_X3_99 dX3_netsOfSoundOutputs_57 ?_
        refine v_iload K 5 rfl dX3_netsOfSoundOutputs_60 ?_
        obtain ⟨g6, hf⟩ := chk_of hf
        refine v_iald K (am0_9 (ak_1_8 hb3)) (.inl (ak_1_8 hb3)) g6 dX3_netsOfSoundOutputs_62 ?_
        refine v_ishl K dX3_netsOfSoundOutputs_63 ?_
        refine v_ior K dX3_netsOfSoundOutputs_64 ?_
        refine v_topi (fun z7 ez7 => ?_)
        have hf := lte_of ez7 hf
        refine v_istore_n K (ls' := [(1, .int z7), (0, .ref (X.2.1 o0)), (2, .int x2), (3, .ref (X.2.1 b3)), (4, .int x4), (5, .int x5)]) rfl (by decide) rfl dX3_netsOfSoundOutputs_65 ?_
        refine v_sub [1, 0, 2, 3, 4, 5] rfl ?_
        exact t_X3_netsOfSoundOutputs_66 h0 K hk4 ih hb3 hf
set_option maxRecDepth 20000 in
theorem t_X3_netsOfSoundOutputs_4 {M : Mx} {X : Wx} {N : Nat} {o0 : Nat} (h0 : akd o0 = 3) {r : Int32} {u' : ASt} (K : OkM 0 M X cX3_netsOfSoundOutputs 6 RX3 rm_X3_netsOfSoundOutputs (some .int)) : ∀ (n : Nat) (x1 : Int32) (x2 : Int32) (u : ASt), f_X3_netsOfSoundOutputs_4 N o0 n x1 x2 u = some (r, u') → V 0 M X (some (.int r), u') 6 4 [(0, .ref (X.2.1 o0)), (1, .int x1), (2, .int x2)] [] u := by
  intro n
  induction n with
  | zero => intro x1 x2 u hf; cases hf
  | succ n ih =>
    intro x1 x2 u hf
    rw [f_X3_netsOfSoundOutputs_4] at hf
    refine v_iload_n K 2 rfl rfl dX3_netsOfSoundOutputs_4 ?_
    refine v_aload_n K 0 rfl rfl dX3_netsOfSoundOutputs_5 ?_
    refine gf_3_0 K h0 fl_X3_18 dX3_netsOfSoundOutputs_6 ?_
    refine gf_0_1 K (ak_3_0 h0) fl_X3_80 dX3_netsOfSoundOutputs_9 ?_
    refine v_icmp_ge K 78 (by decide) dX3_netsOfSoundOutputs_12 (fun c8 => ?_) (fun c8 => ?_)
    · have hf := ite_t c8 hf
      refine v_iload_n K 1 rfl rfl dX3_netsOfSoundOutputs_78 ?_
      obtain ⟨rfl, rfl⟩ := pair_of hf
      exact v_iret K dX3_netsOfSoundOutputs_79
    · have hf := ite_f c8 hf
      refine v_aload_n K 0 rfl rfl dX3_netsOfSoundOutputs_15 ?_
      refine gf_3_0 K h0 fl_X3_18 dX3_netsOfSoundOutputs_16 ?_
      refine gf_0_0 K (ak_3_0 h0) fl_X3_71 dX3_netsOfSoundOutputs_19 ?_
      refine v_iload_n K 2 rfl rfl dX3_netsOfSoundOutputs_22 ?_
      obtain ⟨g9, hf⟩ := chk_of hf
      refine v_aald K (am0_11 (ak_0_0 (ak_3_0 h0))) (.inr (ak_0_0 (ak_3_0 h0))) g9 dX3_netsOfSoundOutputs_23 ?_
      refine v_astore_n K (ls' := [(3, .ref (X.2.1 (arf (arf (arf o0 0) 0) (Int32.toNatClampNeg x2)))), (0, .ref (X.2.1 o0)), (1, .int x1), (2, .int x2)]) rfl (by decide) rfl dX3_netsOfSoundOutputs_24 ?_
      refine v_aload_n K 1 rfl rfl dX3_netsOfSoundOutputs_25 ?_
      refine v_iload_n K 3 rfl rfl dX3_netsOfSoundOutputs_26 ?_
      obtain ⟨r11, u10, e12, hf⟩ := bnd_of hf
      refine v_callVi K (c_X3_soundOutputs h0 e12) cv_X3_soundOutputs ml_X3_86 (am0_3 h0) h0 kdX3 ⟨rfl, rfl, Nat.le_of_ble_eq_true rfl, Nat.le_of_ble_eq_true rfl⟩ rfl rfl (Nat.le_of_ble_eq_true rfl) dX3_netsOfSoundOutputs_27 ?_
      refine v_istore K (ls' := [(4, .int r11), (3, .ref (X.2.1 (arf (arf (arf o0 0) 0) (Int32.toNatClampNeg x2)))), (0, .ref (X.2.1 o0)), (1, .int x1), (2, .int x2)]) (by decide) rfl dX3_netsOfSoundOutputs_30 ?_
      refine v_iconst K (v := 0) (by decide) dX3_netsOfSoundOutputs_32 ?_
      refine v_istore K (ls' := [(5, .int 0), (4, .int r11), (3, .ref (X.2.1 (arf (arf (arf o0 0) 0) (Int32.toNatClampNeg x2)))), (0, .ref (X.2.1 o0)), (1, .int x1), (2, .int x2)]) (by decide) rfl dX3_netsOfSoundOutputs_33 ?_
      refine v_sub [3, 4, 5, 2, 1, 0] rfl ?_
      exact t_X3_netsOfSoundOutputs_35 h0 K ih N x1 x2 (arf (arf (arf o0 0) 0) (Int32.toNatClampNeg x2)) r11 0 u10 (ae_11 (ak_0_0 (ak_3_0 h0)) g9) hf
set_option maxRecDepth 20000 in
theorem c_X3_netsOfSoundOutputs {X : Wx} {N : Nat} {o0 : Nat} (h0 : akd o0 = 3) {u u' : ASt} {r : Int32} (hf : f_X3_netsOfSoundOutputs N o0 u = some (r, u')) (l : Launch) : Met l yX3_netsOfSoundOutputs (ws_ yX3_netsOfSoundOutputs cX3_netsOfSoundOutputs 6 (some .int)) rm_X3_netsOfSoundOutputs (Pg 0 X u [.ref (X.2.1 o0)]) (Qg 0 X (some (.int r)) u') 0 0 (Aw 0 X) := by
  refine v_met (res := (some (.int r), u')) (by decide) (Nat.le_of_ble_eq_true rfl) (fun M K => ?_)
  have K : OkM 0 M X cX3_netsOfSoundOutputs 6 RX3 rm_X3_netsOfSoundOutputs (some .int) := K
  show V 0 M X (some (.int r), u') 6 0 [(0, .ref (X.2.1 o0))] [] u
  unfold f_X3_netsOfSoundOutputs at hf
  refine v_iconst K (v := 0) (by decide) dX3_netsOfSoundOutputs_0 ?_
  refine v_istore_n K (ls' := [(1, .int 0), (0, .ref (X.2.1 o0))]) rfl (by decide) rfl dX3_netsOfSoundOutputs_1 ?_
  refine v_iconst K (v := 0) (by decide) dX3_netsOfSoundOutputs_2 ?_
  refine v_istore_n K (ls' := [(2, .int 0), (1, .int 0), (0, .ref (X.2.1 o0))]) rfl (by decide) rfl dX3_netsOfSoundOutputs_3 ?_
  refine v_sub [2, 1, 0] rfl ?_
  exact t_X3_netsOfSoundOutputs_4 h0 K N 0 0 u hf
abbrev rm_X3_driveByStimuli : Room := { frames := 1, cells := 0, slots := 0, locals := 21 }
set_option maxRecDepth 20000 in
theorem t_X3_driveByStimuli_31 {M : Mx} {X : Wx} {N : Nat} {o0 : Nat} {o1 : Nat} {p1 : Int32} (h0 : akd o0 = 3) (h1 : akd o1 = 9) {r : Unit} {u' : ASt} (K : OkM 0 M X cX3_driveByStimuli 4 RX3 rm_X3_driveByStimuli none) {k2 : Int32 → ASt → Option (Unit × ASt)} (hk2 : ∀ (x3 : Int32) (u : ASt), k2 x3 u = some (r, u') → V 0 M X (none, u') 4 2 [(0, .ref (X.2.1 o0)), (1, .ref (X.2.1 o1)), (2, .int p1), (3, .int x3)] [] u) {x3 : Int32} {c0 : Nat} {y1 : Int32} {y2 : Int32} (hc0 : akd c0 = 9) {u : ASt} (hf : f_X3_driveByStimuli_31 N o0 o1 p1 k2 x3 c0 y1 y2 u = some (r, u')) : V 0 M X (none, u') 4 31 [(0, .ref (X.2.1 o0)), (1, .ref (X.2.1 o1)), (2, .int p1), (3, .int x3)] [.int y2, .int y1, .ref (X.2.1 c0)] u := by
  unfold f_X3_driveByStimuli_31 at hf
  obtain ⟨g1, hf⟩ := chk_of hf
  refine v_iast K (am0_9 hc0) (.inl hc0) g1 dX3_driveByStimuli_31 ?_
  refine v_st (fun u2 eu2 => ?_)
  have hf := lte_of eu2 hf
  refine v_iinc K 3 (v := x3 + 1) (ls' := [(3, .int (x3 + 1)), (0, .ref (X.2.1 o0)), (1, .ref (X.2.1 o1)), (2, .int p1)]) rfl rfl (by decide) rfl dX3_driveByStimuli_32 ?_
  refine v_goto K 2 (by decide) dX3_driveByStimuli_35 ?_
  refine v_sub [1, 2, 3, 0] rfl ?_
  exact hk2 (x3 + 1) u2 hf
set_option maxRecDepth 20000 in
theorem t_X3_driveByStimuli_2 {M : Mx} {X : Wx} {N : Nat} {o0 : Nat} {o1 : Nat} {p1 : Int32} (h0 : akd o0 = 3) (h1 : akd o1 = 9) {r : Unit} {u' : ASt} (K : OkM 0 M X cX3_driveByStimuli 4 RX3 rm_X3_driveByStimuli none) : ∀ (n : Nat) (x3 : Int32) (u : ASt), f_X3_driveByStimuli_2 N o0 o1 p1 n x3 u = some (r, u') → V 0 M X (none, u') 4 2 [(0, .ref (X.2.1 o0)), (1, .ref (X.2.1 o1)), (2, .int p1), (3, .int x3)] [] u := by
  intro n
  induction n with
  | zero => intro x3 u hf; cases hf
  | succ n ih =>
    intro x3 u hf
    rw [f_X3_driveByStimuli_2] at hf
    refine v_iload_n K 3 rfl rfl dX3_driveByStimuli_2 ?_
    refine v_bipush K (v := 8) (by decide) dX3_driveByStimuli_3 ?_
    refine v_icmp_ge K 38 (by decide) dX3_driveByStimuli_5 (fun c3 => ?_) (fun c3 => ?_)
    · have hf := ite_t c3 hf
      obtain ⟨rfl, rfl⟩ := pair_of hf
      exact v_vret K dX3_driveByStimuli_38
    · have hf := ite_f c3 hf
      refine v_aload_n K 0 rfl rfl dX3_driveByStimuli_8 ?_
      refine gf_3_1 K h0 fl_X3_9 dX3_driveByStimuli_9 ?_
      refine v_iload_n K 3 rfl rfl dX3_driveByStimuli_12 ?_
      refine v_iload_n K 2 rfl rfl dX3_driveByStimuli_13 ?_
      refine v_iload_n K 3 rfl rfl dX3_driveByStimuli_14 ?_
      obtain ⟨r5, u4, e6, hf⟩ := bnd_of hf
      refine v_callNi K (c_X6_isMember e6) cv_X6_isMember (List.mem_of_getElem? (i := 6) rfl) ⟨rfl, rfl, Nat.le_of_ble_eq_true rfl, Nat.le_of_ble_eq_true rfl⟩ rfl rfl (Nat.le_of_ble_eq_true rfl) dX3_driveByStimuli_15 ?_
      refine v_if_eq K 27 (by decide) dX3_driveByStimuli_18 (fun c7 => ?_) (fun c7 => ?_)
      · have hf := ite_t c7 hf
        refine v_aload_n K 0 rfl rfl dX3_driveByStimuli_27 ?_
        refine gf_3_4 K h0 fl_X3_22 dX3_driveByStimuli_28 ?_
        exact t_X3_driveByStimuli_31 h0 h1 K ih (ak_3_1 h0) hf
      · have hf := ite_f c7 hf
        refine v_aload_n K 1 rfl rfl dX3_driveByStimuli_21 ?_
        refine v_iload_n K 3 rfl rfl dX3_driveByStimuli_22 ?_
        obtain ⟨g8, hf⟩ := chk_of hf
        refine v_iald K (am0_9 h1) (.inl h1) g8 dX3_driveByStimuli_23 ?_
        refine v_goto K 31 (by decide) dX3_driveByStimuli_24 ?_
        exact t_X3_driveByStimuli_31 h0 h1 K ih (ak_3_1 h0) hf
set_option maxRecDepth 20000 in
theorem c_X3_driveByStimuli {X : Wx} {N : Nat} {o0 : Nat} {o1 : Nat} {p1 : Int32} (h0 : akd o0 = 3) (h1 : akd o1 = 9) {u u' : ASt} {r : Unit} (hf : f_X3_driveByStimuli N o0 o1 p1 u = some (r, u')) (l : Launch) : Met l yX3_driveByStimuli (ws_ yX3_driveByStimuli cX3_driveByStimuli 4 none) rm_X3_driveByStimuli (Pg 0 X u [.ref (X.2.1 o0), .ref (X.2.1 o1), .int p1]) (Qg 0 X (none) u') 0 0 (Aw 0 X) := by
  refine v_met (res := (none, u')) (by decide) (Nat.le_of_ble_eq_true rfl) (fun M K => ?_)
  have K : OkM 0 M X cX3_driveByStimuli 4 RX3 rm_X3_driveByStimuli none := K
  show V 0 M X (none, u') 4 0 [(0, .ref (X.2.1 o0)), (1, .ref (X.2.1 o1)), (2, .int p1)] [] u
  unfold f_X3_driveByStimuli at hf
  refine v_iconst K (v := 0) (by decide) dX3_driveByStimuli_0 ?_
  refine v_istore_n K (ls' := [(3, .int 0), (0, .ref (X.2.1 o0)), (1, .ref (X.2.1 o1)), (2, .int p1)]) rfl (by decide) rfl dX3_driveByStimuli_1 ?_
  refine v_sub [1, 2, 3, 0] rfl ?_
  exact t_X3_driveByStimuli_2 h0 h1 K N 0 u hf
abbrev rm_X3_settleInTest : Room := { frames := 2, cells := 0, slots := 0, locals := 47 }
set_option maxRecDepth 20000 in
theorem t_X3_settleInTest_35 {M : Mx} {X : Wx} {N : Nat} {o0 : Nat} {o1 : Nat} {p1 : Int32} {o2 : Nat} {p2 : Int32} (h0 : akd o0 = 3) (h1 : akd o1 = 9) (h2 : akd o2 = 9) {r : Unit} {u' : ASt} (K : OkM 0 M X cX3_settleInTest 5 RX3 rm_X3_settleInTest none) {c0 : Nat} {c1 : Nat} {y2 : Int32} (hc0 : akd c0 = 3) (hc1 : akd c1 = 9) {u : ASt} (hf : f_X3_settleInTest_35 N o0 o1 p1 o2 p2 c0 c1 y2 u = some (r, u')) : V 0 M X (none, u') 5 35 [(0, .ref (X.2.1 o0)), (3, .ref (X.2.1 o2)), (4, .int p2)] [.int y2, .ref (X.2.1 c1), .ref (X.2.1 c0)] u := by
  unfold f_X3_settleInTest_35 at hf
  obtain ⟨r2, u1, e3, hf⟩ := bnd_of hf
  refine v_callVv K (c_X3_driveByStimuli hc0 hc1 e3) cv_X3_driveByStimuli ml_X3_58 (am0_3 hc0) hc0 kdX3 ⟨rfl, rfl, Nat.le_of_ble_eq_true rfl, Nat.le_of_ble_eq_true rfl⟩ rfl rfl (Nat.le_of_ble_eq_true rfl) dX3_settleInTest_35 ?_
  refine v_aload_n K 0 rfl rfl dX3_settleInTest_38 ?_
  refine v_aload_n K 1 rfl rfl dX3_settleInTest_39 ?_
  refine v_iload K 2 rfl dX3_settleInTest_40 ?_
  obtain ⟨r5, u4, e6, hf⟩ := bnd_of hf
  refine v_callVv K (c_X3_applyShorts h0 h2 e6) cv_X3_applyShorts ml_X3_41 (am0_3 h0) h0 kdX3 ⟨rfl, rfl, Nat.le_of_ble_eq_true rfl, Nat.le_of_ble_eq_true rfl⟩ rfl rfl (Nat.le_of_ble_eq_true rfl) dX3_settleInTest_42 ?_
  refine v_aload_n K 0 rfl rfl dX3_settleInTest_45 ?_
  refine v_aload_n K 1 rfl rfl dX3_settleInTest_46 ?_
  refine v_iload K 2 rfl dX3_settleInTest_47 ?_
  obtain ⟨r8, u7, e9, hf⟩ := bnd_of hf
  refine v_callVv K (c_X3_applyStuck h0 h2 e9) cv_X3_applyStuck ml_X3_44 (am0_3 h0) h0 kdX3 ⟨rfl, rfl, Nat.le_of_ble_eq_true rfl, Nat.le_of_ble_eq_true rfl⟩ rfl rfl (Nat.le_of_ble_eq_true rfl) dX3_settleInTest_49 ?_
  obtain ⟨rfl, rfl⟩ := pair_of hf
  exact v_vret K dX3_settleInTest_52
set_option maxRecDepth 20000 in
theorem c_X3_settleInTest {X : Wx} {N : Nat} {o0 : Nat} {o1 : Nat} {p1 : Int32} {o2 : Nat} {p2 : Int32} (h0 : akd o0 = 3) (h1 : akd o1 = 9) (h2 : akd o2 = 9) {u u' : ASt} {r : Unit} (hf : f_X3_settleInTest N o0 o1 p1 o2 p2 u = some (r, u')) (l : Launch) : Met l yX3_settleInTest (ws_ yX3_settleInTest cX3_settleInTest 5 none) rm_X3_settleInTest (Pg 0 X u [.ref (X.2.1 o0), .ref (X.2.1 o1), .int p1, .ref (X.2.1 o2), .int p2]) (Qg 0 X (none) u') 0 0 (Aw 0 X) := by
  refine v_met (res := (none, u')) (by decide) (Nat.le_of_ble_eq_true rfl) (fun M K => ?_)
  have K : OkM 0 M X cX3_settleInTest 5 RX3 rm_X3_settleInTest none := K
  show V 0 M X (none, u') 5 0 [(0, .ref (X.2.1 o0)), (1, .ref (X.2.1 o1)), (2, .int p1), (3, .ref (X.2.1 o2)), (4, .int p2)] [] u
  unfold f_X3_settleInTest at hf
  refine v_aload_n K 0 rfl rfl dX3_settleInTest_0 ?_
  refine v_iload_n K 2 rfl rfl dX3_settleInTest_1 ?_
  refine pf_3_4 K h0 fl_X3_22 dX3_settleInTest_2 ?_
  refine v_st (fun u10 eu10 => ?_)
  have hf := lte_of eu10 hf
  refine v_aload_n K 0 rfl rfl dX3_settleInTest_5 ?_
  refine v_aload_n K 3 rfl rfl dX3_settleInTest_6 ?_
  refine v_iload K 4 rfl dX3_settleInTest_7 ?_
  obtain ⟨r12, u11, e13, hf⟩ := bnd_of hf
  refine v_callVv K (c_X3_findOpenCells h0 h2 e13) cv_X3_findOpenCells ml_X3_34 (am0_3 h0) h0 kdX3 ⟨rfl, rfl, Nat.le_of_ble_eq_true rfl, Nat.le_of_ble_eq_true rfl⟩ rfl rfl (Nat.le_of_ble_eq_true rfl) dX3_settleInTest_9 ?_
  refine v_aload_n K 0 rfl rfl dX3_settleInTest_12 ?_
  refine v_aload_n K 1 rfl rfl dX3_settleInTest_13 ?_
  refine v_aload_n K 0 rfl rfl dX3_settleInTest_14 ?_
  refine gf_3_3 K h0 fl_X3_47 dX3_settleInTest_15 ?_
  refine v_if_eq K 28 (by decide) dX3_settleInTest_18 (fun c14 => ?_) (fun c14 => ?_)
  · have hf := ite_t c14 hf
    refine v_aload_n K 0 rfl rfl dX3_settleInTest_28 ?_
    refine gf_3_0 K h0 fl_X3_18 dX3_settleInTest_29 ?_
    refine gf_0_6 K (ak_3_0 h0) fl_X3_55 dX3_settleInTest_32 ?_
    refine v_sub [0, 3, 4] rfl ?_
    exact t_X3_settleInTest_35 h0 h1 h2 K h0 h1 hf
  · have hf := ite_f c14 hf
    refine v_aload_n K 0 rfl rfl dX3_settleInTest_21 ?_
    obtain ⟨r16, u15, e17, hf⟩ := bnd_of hf
    refine v_callVi K (c_X3_netsOfSoundOutputs h0 e17) cv_X3_netsOfSoundOutputs ml_X3_51 (am0_3 h0) h0 kdX3 ⟨rfl, rfl, Nat.le_of_ble_eq_true rfl, Nat.le_of_ble_eq_true rfl⟩ rfl rfl (Nat.le_of_ble_eq_true rfl) dX3_settleInTest_22 ?_
    refine v_goto K 35 (by decide) dX3_settleInTest_25 ?_
    refine v_sub [0, 3, 4] rfl ?_
    exact t_X3_settleInTest_35 h0 h1 h2 K h0 h1 hf
abbrev rm_X3_netsAtOne : Room := { frames := 0, cells := 0, slots := 0, locals := 0 }
set_option maxRecDepth 20000 in
theorem t_X3_netsAtOne_4 {M : Mx} {X : Wx} {N : Nat} {o0 : Nat} (h0 : akd o0 = 3) {r : Int32} {u' : ASt} (K : OkM 0 M X cX3_netsAtOne 3 RX3 rm_X3_netsAtOne (some .int)) : ∀ (n : Nat) (x1 : Int32) (x2 : Int32) (u : ASt), f_X3_netsAtOne_4 N o0 n x1 x2 u = some (r, u') → V 0 M X (some (.int r), u') 3 4 [(0, .ref (X.2.1 o0)), (1, .int x1), (2, .int x2)] [] u := by
  intro n
  induction n with
  | zero => intro x1 x2 u hf; cases hf
  | succ n ih =>
    intro x1 x2 u hf
    rw [f_X3_netsAtOne_4] at hf
    refine v_iload_n K 2 rfl rfl dX3_netsAtOne_4 ?_
    refine v_bipush K (v := 8) (by decide) dX3_netsAtOne_5 ?_
    refine v_icmp_ge K 27 (by decide) dX3_netsAtOne_7 (fun c1 => ?_) (fun c1 => ?_)
    · have hf := ite_t c1 hf
      refine v_iload_n K 1 rfl rfl dX3_netsAtOne_27 ?_
      obtain ⟨rfl, rfl⟩ := pair_of hf
      exact v_iret K dX3_netsAtOne_28
    · have hf := ite_f c1 hf
      refine v_iload_n K 1 rfl rfl dX3_netsAtOne_10 ?_
      refine v_aload_n K 0 rfl rfl dX3_netsAtOne_11 ?_
      refine gf_3_1 K h0 fl_X3_9 dX3_netsAtOne_12 ?_
      refine v_iload_n K 2 rfl rfl dX3_netsAtOne_15 ?_
      obtain ⟨g2, hf⟩ := chk_of hf
      refine v_iald K (am0_9 (ak_3_1 h0)) (.inl (ak_3_1 h0)) g2 dX3_netsAtOne_16 ?_
      refine v_iload_n K 2 rfl rfl dX3_netsAtOne_17 ?_
      refine v_ishl K dX3_netsAtOne_18 ?_
      refine v_ior K dX3_netsAtOne_19 ?_
      refine v_topi (fun z3 ez3 => ?_)
      have hf := lte_of ez3 hf
      refine v_istore_n K (ls' := [(1, .int z3), (0, .ref (X.2.1 o0)), (2, .int x2)]) rfl (by decide) rfl dX3_netsAtOne_20 ?_
      refine v_iinc K 2 (v := x2 + 1) (ls' := [(2, .int (x2 + 1)), (1, .int z3), (0, .ref (X.2.1 o0))]) rfl rfl (by decide) rfl dX3_netsAtOne_21 ?_
      refine v_goto K 4 (by decide) dX3_netsAtOne_24 ?_
      refine v_sub [2, 1, 0] rfl ?_
      exact ih z3 (x2 + 1) u hf
set_option maxRecDepth 20000 in
theorem c_X3_netsAtOne {X : Wx} {N : Nat} {o0 : Nat} (h0 : akd o0 = 3) {u u' : ASt} {r : Int32} (hf : f_X3_netsAtOne N o0 u = some (r, u')) (l : Launch) : Met l yX3_netsAtOne (ws_ yX3_netsAtOne cX3_netsAtOne 3 (some .int)) rm_X3_netsAtOne (Pg 0 X u [.ref (X.2.1 o0)]) (Qg 0 X (some (.int r)) u') 0 0 (Aw 0 X) := by
  refine v_met (res := (some (.int r), u')) (by decide) (Nat.le_of_ble_eq_true rfl) (fun M K => ?_)
  have K : OkM 0 M X cX3_netsAtOne 3 RX3 rm_X3_netsAtOne (some .int) := K
  show V 0 M X (some (.int r), u') 3 0 [(0, .ref (X.2.1 o0))] [] u
  unfold f_X3_netsAtOne at hf
  refine v_iconst K (v := 0) (by decide) dX3_netsAtOne_0 ?_
  refine v_istore_n K (ls' := [(1, .int 0), (0, .ref (X.2.1 o0))]) rfl (by decide) rfl dX3_netsAtOne_1 ?_
  refine v_iconst K (v := 0) (by decide) dX3_netsAtOne_2 ?_
  refine v_istore_n K (ls' := [(2, .int 0), (1, .int 0), (0, .ref (X.2.1 o0))]) rfl (by decide) rfl dX3_netsAtOne_3 ?_
  refine v_sub [2, 1, 0] rfl ?_
  exact t_X3_netsAtOne_4 h0 K N 0 0 u hf
abbrev rm_J6_bitCount_0f7a4 : Room := { frames := 0, cells := 0, slots := 0, locals := 0 }
set_option maxRecDepth 20000 in
theorem c_J6_bitCount_0f7a4 {X : Wx} {N : Nat} {p1 : Int32} {u u' : ASt} {r : Int32} (hf : f_J6_bitCount_0f7a4 N p1 u = some (r, u')) (l : Launch) : Met l yJ6_bitCount_0f7a4 (ws_ yJ6_bitCount_0f7a4 cJ6_bitCount_0f7a4 1 (some .int)) rm_J6_bitCount_0f7a4 (Pg 0 X u [.int p1]) (Qg 0 X (some (.int r)) u') 0 0 (Aw 0 X) := by
  refine v_met (res := (some (.int r), u')) (by decide) (Nat.le_of_ble_eq_true rfl) (fun M K => ?_)
  have K : OkM 0 M X cJ6_bitCount_0f7a4 1 RJ6 rm_J6_bitCount_0f7a4 (some .int) := K
  show V 0 M X (some (.int r), u') 1 0 [(0, .int p1)] [] u
  unfold f_J6_bitCount_0f7a4 at hf
  refine v_iload_n K 0 rfl rfl dJ6_bitCount_0f7a4_0 ?_
  refine v_iload_n K 0 rfl rfl dJ6_bitCount_0f7a4_1 ?_
  refine v_iconst K (v := 1) (by decide) dJ6_bitCount_0f7a4_2 ?_
  refine v_iushr K dJ6_bitCount_0f7a4_3 ?_
  refine v_ldcw K co_J6_265 dJ6_bitCount_0f7a4_4 ?_
  refine v_iand K dJ6_bitCount_0f7a4_7 ?_
  refine v_isub K dJ6_bitCount_0f7a4_8 ?_
  refine v_topi (fun z1 ez1 => ?_)
  have hf := lte_of ez1 hf
  refine v_istore_n K (ls' := [(0, .int z1)]) rfl (by decide) rfl dJ6_bitCount_0f7a4_9 ?_
  refine v_iload_n K 0 rfl rfl dJ6_bitCount_0f7a4_10 ?_
  refine v_ldcw K co_J6_266 dJ6_bitCount_0f7a4_11 ?_
  refine v_iand K dJ6_bitCount_0f7a4_14 ?_
  refine v_iload_n K 0 rfl rfl dJ6_bitCount_0f7a4_15 ?_
  refine v_iconst K (v := 2) (by decide) dJ6_bitCount_0f7a4_16 ?_
  refine v_iushr K dJ6_bitCount_0f7a4_17 ?_
  refine v_ldcw K co_J6_266 dJ6_bitCount_0f7a4_18 ?_
  refine v_iand K dJ6_bitCount_0f7a4_21 ?_
  refine v_iadd K dJ6_bitCount_0f7a4_22 ?_
  refine v_topi (fun z2 ez2 => ?_)
  have hf := lte_of ez2 hf
  refine v_istore_n K (ls' := [(0, .int z2)]) rfl (by decide) rfl dJ6_bitCount_0f7a4_23 ?_
  refine v_iload_n K 0 rfl rfl dJ6_bitCount_0f7a4_24 ?_
  refine v_iload_n K 0 rfl rfl dJ6_bitCount_0f7a4_25 ?_
  refine v_iconst K (v := 4) (by decide) dJ6_bitCount_0f7a4_26 ?_
  refine v_iushr K dJ6_bitCount_0f7a4_27 ?_
  refine v_iadd K dJ6_bitCount_0f7a4_28 ?_
  refine v_ldcw K co_J6_267 dJ6_bitCount_0f7a4_29 ?_
  refine v_iand K dJ6_bitCount_0f7a4_32 ?_
  refine v_topi (fun z3 ez3 => ?_)
  have hf := lte_of ez3 hf
  refine v_istore_n K (ls' := [(0, .int z3)]) rfl (by decide) rfl dJ6_bitCount_0f7a4_33 ?_
  refine v_iload_n K 0 rfl rfl dJ6_bitCount_0f7a4_34 ?_
  refine v_iload_n K 0 rfl rfl dJ6_bitCount_0f7a4_35 ?_
  refine v_bipush K (v := 8) (by decide) dJ6_bitCount_0f7a4_36 ?_
  refine v_iushr K dJ6_bitCount_0f7a4_38 ?_
  refine v_iadd K dJ6_bitCount_0f7a4_39 ?_
  refine v_topi (fun z4 ez4 => ?_)
  have hf := lte_of ez4 hf
  refine v_istore_n K (ls' := [(0, .int z4)]) rfl (by decide) rfl dJ6_bitCount_0f7a4_40 ?_
  refine v_iload_n K 0 rfl rfl dJ6_bitCount_0f7a4_41 ?_
  refine v_iload_n K 0 rfl rfl dJ6_bitCount_0f7a4_42 ?_
  refine v_bipush K (v := 16) (by decide) dJ6_bitCount_0f7a4_43 ?_
  refine v_iushr K dJ6_bitCount_0f7a4_45 ?_
  refine v_iadd K dJ6_bitCount_0f7a4_46 ?_
  refine v_topi (fun z5 ez5 => ?_)
  have hf := lte_of ez5 hf
  refine v_istore_n K (ls' := [(0, .int z5)]) rfl (by decide) rfl dJ6_bitCount_0f7a4_47 ?_
  refine v_iload_n K 0 rfl rfl dJ6_bitCount_0f7a4_48 ?_
  refine v_bipush K (v := 63) (by decide) dJ6_bitCount_0f7a4_49 ?_
  refine v_iand K dJ6_bitCount_0f7a4_51 ?_
  obtain ⟨rfl, rfl⟩ := pair_of hf
  exact v_iret K dJ6_bitCount_0f7a4_52
abbrev rm_X4_codeBits : Room := { frames := 1, cells := 0, slots := 0, locals := 20 }
set_option maxRecDepth 20000 in
theorem t_X4_codeBits_28 {M : Mx} {X : Wx} {N : Nat} {p1 : Int32} {r : Int32} {u' : ASt} (K : OkM 0 M X cX4_codeBits 3 RX4 rm_X4_codeBits (some .int)) {x2 : Int32} {u : ASt} (hf : f_X4_codeBits_28 N p1 x2 u = some (r, u')) : V 0 M X (some (.int r), u') 3 28 [(2, .int x2)] [] u := by
  unfold f_X4_codeBits_28 at hf
  refine v_iload_n K 0 rfl rfl dX4_codeBits_28 ?_
  obtain ⟨rfl, rfl⟩ := pair_of hf
  exact v_iret K dX4_codeBits_29
set_option maxRecDepth 20000 in
theorem t_X4_codeBits_9 {M : Mx} {X : Wx} {N : Nat} {p1 : Int32} {r : Int32} {u' : ASt} (K : OkM 0 M X cX4_codeBits 3 RX4 rm_X4_codeBits (some .int)) : ∀ (n : Nat) (x1 : Int32) (x2 : Int32) (u : ASt), f_X4_codeBits_9 N p1 n x1 x2 u = some (r, u') → V 0 M X (some (.int r), u') 3 9 [(1, .int x1), (2, .int x2)] [] u := by
  intro n
  induction n with
  | zero => intro x1 x2 u hf; cases hf
  | succ n ih =>
    intro x1 x2 u hf
    rw [f_X4_codeBits_9] at hf
    refine v_iload_n K 1 rfl rfl dX4_codeBits_9 ?_
    refine v_bipush K (v := 8) (by decide) dX4_codeBits_10 ?_
    refine v_icmp_ge K 28 (by decide) dX4_codeBits_12 (fun c1 => ?_) (fun c1 => ?_)
    · have hf := ite_t c1 hf
      refine v_sub [1] rfl ?_
      exact t_X4_codeBits_28 K hf
    · have hf := ite_f c1 hf
      refine v_iconst K (v := 1) (by decide) dX4_codeBits_15 ?_
      refine v_iload_n K 1 rfl rfl dX4_codeBits_16 ?_
      refine v_ishl K dX4_codeBits_17 ?_
      refine v_iload_n K 0 rfl rfl dX4_codeBits_18 ?_
      refine v_icmp_ge K 28 (by decide) dX4_codeBits_19 (fun c2 => ?_) (fun c2 => ?_)
      · have hf := ite_t c2 hf
        refine v_sub [1] rfl ?_
        exact t_X4_codeBits_28 K hf
      · have hf := ite_f c2 hf
        refine v_iinc K 1 (v := x2 + 1) (ls' := [(2, .int (x2 + 1)), (1, .int x1)]) rfl rfl (by decide) rfl dX4_codeBits_22 ?_
        refine v_goto K 9 (by decide) dX4_codeBits_25 ?_
        refine v_sub [1, 0] rfl ?_
        exact ih x1 (x2 + 1) u hf
set_option maxRecDepth 20000 in
theorem c_X4_codeBits {X : Wx} {N : Nat} {p1 : Int32} {u u' : ASt} {r : Int32} (hf : f_X4_codeBits N p1 u = some (r, u')) (l : Launch) : Met l yX4_codeBits (ws_ yX4_codeBits cX4_codeBits 3 (some .int)) rm_X4_codeBits (Pg 0 X u [.int p1]) (Qg 0 X (some (.int r)) u') 0 0 (Aw 0 X) := by
  refine v_met (res := (some (.int r), u')) (by decide) (Nat.le_of_ble_eq_true rfl) (fun M K => ?_)
  have K : OkM 0 M X cX4_codeBits 3 RX4 rm_X4_codeBits (some .int) := K
  show V 0 M X (some (.int r), u') 3 0 [(0, .int p1)] [] u
  unfold f_X4_codeBits at hf
  refine v_iload_n K 0 rfl rfl dX4_codeBits_0 ?_
  obtain ⟨r4, u3, e5, hf⟩ := bnd_of hf
  refine v_callSi K (c_J6_bitCount_0f7a4 e5) cv_J6_bitCount_0f7a4 ml_X4_51 ⟨rfl, rfl, Nat.le_of_ble_eq_true rfl, Nat.le_of_ble_eq_true rfl⟩ rfl rfl (Nat.le_of_ble_eq_true rfl) dX4_codeBits_1 ?_
  refine v_iconst K (v := 2) (by decide) dX4_codeBits_4 ?_
  refine v_iadd K dX4_codeBits_5 ?_
  refine v_topi (fun z6 ez6 => ?_)
  have hf := lte_of ez6 hf
  refine v_istore_n K (ls' := [(1, .int z6), (0, .int p1)]) rfl (by decide) rfl dX4_codeBits_6 ?_
  refine v_iconst K (v := 1) (by decide) dX4_codeBits_7 ?_
  refine v_istore_n K (ls' := [(2, .int 1), (1, .int z6), (0, .int p1)]) rfl (by decide) rfl dX4_codeBits_8 ?_
  refine v_sub [1, 0] rfl ?_
  exact t_X4_codeBits_9 K N z6 1 u3 hf
abbrev rm_X4_patternCount : Room := { frames := 2, cells := 0, slots := 0, locals := 42 }
set_option maxRecDepth 20000 in
theorem c_X4_patternCount {X : Wx} {N : Nat} {o0 : Nat} {p1 : Int32} (h0 : akd o0 = 4) {u u' : ASt} {r : Int32} (hf : f_X4_patternCount N o0 p1 u = some (r, u')) (l : Launch) : Met l yX4_patternCount (ws_ yX4_patternCount cX4_patternCount 2 (some .int)) rm_X4_patternCount (Pg 0 X u [.ref (X.2.1 o0), .int p1]) (Qg 0 X (some (.int r)) u') 0 0 (Aw 0 X) := by
  refine v_met (res := (some (.int r), u')) (by decide) (Nat.le_of_ble_eq_true rfl) (fun M K => ?_)
  have K : OkM 0 M X cX4_patternCount 2 RX4 rm_X4_patternCount (some .int) := K
  show V 0 M X (some (.int r), u') 2 0 [(0, .ref (X.2.1 o0)), (1, .int p1)] [] u
  unfold f_X4_patternCount at hf
  refine v_aload_n K 0 rfl rfl dX4_patternCount_0 ?_
  refine gf_4_0 K h0 fl_X4_24 dX4_patternCount_1 ?_
  refine gf_0_6 K (ak_4_0 h0) fl_X4_37 dX4_patternCount_4 ?_
  obtain ⟨r2, u1, e3, hf⟩ := bnd_of hf
  refine v_callSi K (c_X4_codeBits e3) cv_X4_codeBits ml_X4_43 ⟨rfl, rfl, Nat.le_of_ble_eq_true rfl, Nat.le_of_ble_eq_true rfl⟩ rfl rfl (Nat.le_of_ble_eq_true rfl) dX4_patternCount_7 ?_
  refine v_iload_n K 1 rfl rfl dX4_patternCount_10 ?_
  refine v_ishl K dX4_patternCount_11 ?_
  obtain ⟨rfl, rfl⟩ := pair_of hf
  exact v_iret K dX4_patternCount_12
abbrev rm_X4_stimulusAt : Room := { frames := 2, cells := 0, slots := 0, locals := 42 }
set_option maxRecDepth 20000 in
theorem c_X4_stimulusAt {X : Wx} {N : Nat} {p1 : Int32} {p2 : Int32} {p3 : Int32} {u u' : ASt} {r : Int32} (hf : f_X4_stimulusAt N p1 p2 p3 u = some (r, u')) (l : Launch) : Met l yX4_stimulusAt (ws_ yX4_stimulusAt cX4_stimulusAt 7 (some .int)) rm_X4_stimulusAt (Pg 0 X u [.int p1, .int p2, .int p3]) (Qg 0 X (some (.int r)) u') 0 0 (Aw 0 X) := by
  refine v_met (res := (some (.int r), u')) (by decide) (Nat.le_of_ble_eq_true rfl) (fun M K => ?_)
  have K : OkM 0 M X cX4_stimulusAt 7 RX4 rm_X4_stimulusAt (some .int) := K
  show V 0 M X (some (.int r), u') 7 0 [(0, .int p1), (1, .int p2), (2, .int p3)] [] u
  unfold f_X4_stimulusAt at hf
  refine v_iload_n K 2 rfl rfl dX4_stimulusAt_0 ?_
  obtain ⟨r2, u1, e3, hf⟩ := bnd_of hf
  refine v_callSi K (c_X4_codeBits e3) cv_X4_codeBits ml_X4_43 ⟨rfl, rfl, Nat.le_of_ble_eq_true rfl, Nat.le_of_ble_eq_true rfl⟩ rfl rfl (Nat.le_of_ble_eq_true rfl) dX4_stimulusAt_1 ?_
  refine v_istore_n K (ls' := [(3, .int r2), (0, .int p1), (1, .int p2), (2, .int p3)]) rfl (by decide) rfl dX4_stimulusAt_4 ?_
  refine v_iconst K (v := 2) (by decide) dX4_stimulusAt_5 ?_
  refine v_iload_n K 2 rfl rfl dX4_stimulusAt_6 ?_
  refine v_ishl K dX4_stimulusAt_7 ?_
  refine v_iconst K (v := 1) (by decide) dX4_stimulusAt_8 ?_
  refine v_isub K dX4_stimulusAt_9 ?_
  refine v_topi (fun z4 ez4 => ?_)
  have hf := lte_of ez4 hf
  refine v_istore K (ls' := [(4, .int z4), (3, .int r2), (0, .int p1), (1, .int p2), (2, .int p3)]) (by decide) rfl dX4_stimulusAt_10 ?_
  refine v_iload_n K 4 rfl rfl dX4_stimulusAt_12 ?_
  refine v_iload K 0 rfl dX4_stimulusAt_13 ?_
  refine v_iand K dX4_stimulusAt_15 ?_
  obtain ⟨r6, u5, e7, hf⟩ := bnd_of hf
  refine v_callSi K (c_J6_bitCount_0f7a4 e7) cv_J6_bitCount_0f7a4 ml_X4_51 ⟨rfl, rfl, Nat.le_of_ble_eq_true rfl, Nat.le_of_ble_eq_true rfl⟩ rfl rfl (Nat.le_of_ble_eq_true rfl) dX4_stimulusAt_16 ?_
  refine v_istore K (ls' := [(5, .int r6), (4, .int z4), (3, .int r2), (0, .int p1), (1, .int p2), (2, .int p3)]) (by decide) rfl dX4_stimulusAt_19 ?_
  refine v_iconst K (v := 1) (by decide) dX4_stimulusAt_21 ?_
  refine v_iload_n K 2 rfl rfl dX4_stimulusAt_22 ?_
  refine v_ishl K dX4_stimulusAt_23 ?_
  refine v_iconst K (v := 1) (by decide) dX4_stimulusAt_24 ?_
  refine v_isub K dX4_stimulusAt_25 ?_
  refine v_iload K 0 rfl dX4_stimulusAt_26 ?_
  refine v_isub K dX4_stimulusAt_28 ?_
  refine v_topi (fun z8 ez8 => ?_)
  have hf := lte_of ez8 hf
  refine v_istore K (ls' := [(6, .int z8), (5, .int r6), (4, .int z4), (3, .int r2), (0, .int p1), (1, .int p2), (2, .int p3)]) (by decide) rfl dX4_stimulusAt_29 ?_
  refine v_iload_n K 4 rfl rfl dX4_stimulusAt_31 ?_
  refine v_if_ne K 40 (by decide) dX4_stimulusAt_32 (fun c9 => ?_) (fun c9 => ?_)
  · have hf := ite_f c9 hf
    refine v_iload K 1 rfl dX4_stimulusAt_40 ?_
    refine v_iload K 0 rfl dX4_stimulusAt_42 ?_
    refine v_iload_n K 3 rfl rfl dX4_stimulusAt_44 ?_
    refine v_ishl K dX4_stimulusAt_45 ?_
    refine v_ior K dX4_stimulusAt_46 ?_
    obtain ⟨rfl, rfl⟩ := pair_of hf
    exact v_iret K dX4_stimulusAt_47
  · have hf := ite_t c9 hf
    refine v_iload K 1 rfl dX4_stimulusAt_35 ?_
    refine v_goto K 47 (by decide) dX4_stimulusAt_37 ?_
    obtain ⟨rfl, rfl⟩ := pair_of hf
    exact v_iret K dX4_stimulusAt_47
abbrev rm_X4_stimulus : Room := { frames := 3, cells := 0, slots := 0, locals := 68 }
set_option maxRecDepth 20000 in
theorem c_X4_stimulus {X : Wx} {N : Nat} {o0 : Nat} {p1 : Int32} {p2 : Int32} (h0 : akd o0 = 4) {u u' : ASt} {r : Int32} (hf : f_X4_stimulus N o0 p1 p2 u = some (r, u')) (l : Launch) : Met l yX4_stimulus (ws_ yX4_stimulus cX4_stimulus 3 (some .int)) rm_X4_stimulus (Pg 0 X u [.ref (X.2.1 o0), .int p1, .int p2]) (Qg 0 X (some (.int r)) u') 0 0 (Aw 0 X) := by
  refine v_met (res := (some (.int r), u')) (by decide) (Nat.le_of_ble_eq_true rfl) (fun M K => ?_)
  have K : OkM 0 M X cX4_stimulus 3 RX4 rm_X4_stimulus (some .int) := K
  show V 0 M X (some (.int r), u') 3 0 [(0, .ref (X.2.1 o0)), (1, .int p1), (2, .int p2)] [] u
  unfold f_X4_stimulus at hf
  refine v_iload_n K 1 rfl rfl dX4_stimulus_0 ?_
  refine v_iload_n K 2 rfl rfl dX4_stimulus_1 ?_
  refine v_aload_n K 0 rfl rfl dX4_stimulus_2 ?_
  refine gf_4_0 K h0 fl_X4_24 dX4_stimulus_3 ?_
  refine gf_0_6 K (ak_4_0 h0) fl_X4_37 dX4_stimulus_6 ?_
  obtain ⟨r2, u1, e3, hf⟩ := bnd_of hf
  refine v_callSi K (c_X4_stimulusAt e3) cv_X4_stimulusAt ml_X4_47 ⟨rfl, rfl, Nat.le_of_ble_eq_true rfl, Nat.le_of_ble_eq_true rfl⟩ rfl rfl (Nat.le_of_ble_eq_true rfl) dX4_stimulus_9 ?_
  obtain ⟨rfl, rfl⟩ := pair_of hf
  exact v_iret K dX4_stimulus_12
abbrev rm_X4_prepare : Room := { frames := 3, cells := 0, slots := 0, locals := 68 }
set_option maxRecDepth 20000 in
theorem t_X4_prepare_24 {M : Mx} {X : Wx} {N : Nat} {o0 : Nat} {p1 : Int32} (h0 : akd o0 = 4) {r : Unit} {u' : ASt} (K : OkM 0 M X cX4_prepare 4 RX4 rm_X4_prepare none) : ∀ (n : Nat) (x2 : Int32) (x3 : Int32) (u : ASt), f_X4_prepare_24 N o0 p1 n x2 x3 u = some (r, u') → V 0 M X (none, u') 4 24 [(0, .ref (X.2.1 o0)), (1, .int p1), (2, .int x2), (3, .int x3)] [] u := by
  intro n
  induction n with
  | zero => intro x2 x3 u hf; cases hf
  | succ n ih =>
    intro x2 x3 u hf
    rw [f_X4_prepare_24] at hf
    refine v_iload_n K 3 rfl rfl dX4_prepare_24 ?_
    refine v_bipush K (v := 8) (by decide) dX4_prepare_25 ?_
    refine v_icmp_ge K 48 (by decide) dX4_prepare_27 (fun c1 => ?_) (fun c1 => ?_)
    · have hf := ite_t c1 hf
      obtain ⟨rfl, rfl⟩ := pair_of hf
      exact v_vret K dX4_prepare_48
    · have hf := ite_f c1 hf
      refine v_aload_n K 0 rfl rfl dX4_prepare_30 ?_
      refine gf_4_2 K h0 fl_X4_9 dX4_prepare_31 ?_
      refine v_iload_n K 3 rfl rfl dX4_prepare_34 ?_
      refine v_iload_n K 1 rfl rfl dX4_prepare_35 ?_
      refine v_iload_n K 3 rfl rfl dX4_prepare_36 ?_
      refine v_iload_n K 2 rfl rfl dX4_prepare_37 ?_
      obtain ⟨r3, u2, e4, hf⟩ := bnd_of hf
      refine v_callSi K (c_X4_stimulusAt e4) cv_X4_stimulusAt ml_X4_47 ⟨rfl, rfl, Nat.le_of_ble_eq_true rfl, Nat.le_of_ble_eq_true rfl⟩ rfl rfl (Nat.le_of_ble_eq_true rfl) dX4_prepare_38 ?_
      obtain ⟨g5, hf⟩ := chk_of hf
      refine v_iast K (am0_9 (ak_4_2 h0)) (.inl (ak_4_2 h0)) g5 dX4_prepare_41 ?_
      refine v_st (fun u6 eu6 => ?_)
      have hf := lte_of eu6 hf
      refine v_iinc K 3 (v := x3 + 1) (ls' := [(3, .int (x3 + 1)), (0, .ref (X.2.1 o0)), (1, .int p1), (2, .int x2)]) rfl rfl (by decide) rfl dX4_prepare_42 ?_
      refine v_goto K 24 (by decide) dX4_prepare_45 ?_
      refine v_sub [1, 2, 3, 0] rfl ?_
      exact ih x2 (x3 + 1) u6 hf
set_option maxRecDepth 20000 in
theorem c_X4_prepare {X : Wx} {N : Nat} {o0 : Nat} {p1 : Int32} (h0 : akd o0 = 4) {u u' : ASt} {r : Unit} (hf : f_X4_prepare N o0 p1 u = some (r, u')) (l : Launch) : Met l yX4_prepare (ws_ yX4_prepare cX4_prepare 4 none) rm_X4_prepare (Pg 0 X u [.ref (X.2.1 o0), .int p1]) (Qg 0 X (none) u') 0 0 (Aw 0 X) := by
  refine v_met (res := (none, u')) (by decide) (Nat.le_of_ble_eq_true rfl) (fun M K => ?_)
  have K : OkM 0 M X cX4_prepare 4 RX4 rm_X4_prepare none := K
  show V 0 M X (none, u') 4 0 [(0, .ref (X.2.1 o0)), (1, .int p1)] [] u
  unfold f_X4_prepare at hf
  refine v_aload_n K 0 rfl rfl dX4_prepare_0 ?_
  refine gf_4_0 K h0 fl_X4_24 dX4_prepare_1 ?_
  refine gf_0_6 K (ak_4_0 h0) fl_X4_37 dX4_prepare_4 ?_
  refine v_topi (fun z7 ez7 => ?_)
  have hf := lte_of ez7 hf
  refine v_istore_n K (ls' := [(2, .int z7), (0, .ref (X.2.1 o0)), (1, .int p1)]) rfl (by decide) rfl dX4_prepare_7 ?_
  refine v_aload_n K 1 rfl rfl dX4_prepare_8 ?_
  refine v_iconst K (v := 1) (by decide) dX4_prepare_9 ?_
  refine v_iload_n K 0 rfl rfl dX4_prepare_10 ?_
  obtain ⟨r9, u8, e10, hf⟩ := bnd_of hf
  refine v_callSi K (c_X4_codeBits e10) cv_X4_codeBits ml_X4_43 ⟨rfl, rfl, Nat.le_of_ble_eq_true rfl, Nat.le_of_ble_eq_true rfl⟩ rfl rfl (Nat.le_of_ble_eq_true rfl) dX4_prepare_11 ?_
  refine v_iload_n K 2 rfl rfl dX4_prepare_14 ?_
  refine v_ishl K dX4_prepare_15 ?_
  refine v_ishl K dX4_prepare_16 ?_
  refine v_iconst K (v := 1) (by decide) dX4_prepare_17 ?_
  refine v_isub K dX4_prepare_18 ?_
  refine pf_4_7 K h0 fl_X4_56 dX4_prepare_19 ?_
  refine v_st (fun u11 eu11 => ?_)
  have hf := lte_of eu11 hf
  refine v_iconst K (v := 0) (by decide) dX4_prepare_22 ?_
  refine v_istore_n K (ls' := [(3, .int 0), (2, .int z7), (0, .ref (X.2.1 o0)), (1, .int p1)]) rfl (by decide) rfl dX4_prepare_23 ?_
  refine v_sub [2, 3, 1, 0] rfl ?_
  exact t_X4_prepare_24 h0 K N z7 0 u11 hf
abbrev rm_X4_presentAnswer : Room := { frames := 4, cells := 0, slots := 0, locals := 91 }
set_option maxRecDepth 20000 in
theorem c_X4_presentAnswer {X : Wx} {N : Nat} {o0 : Nat} {p1 : Int32} {p2 : Int32} {p3 : Int32} (h0 : akd o0 = 4) {u u' : ASt} {r : Int32} (hf : f_X4_presentAnswer N o0 p1 p2 p3 u = some (r, u')) (l : Launch) : Met l yX4_presentAnswer (ws_ yX4_presentAnswer cX4_presentAnswer 4 (some .int)) rm_X4_presentAnswer (Pg 0 X u [.ref (X.2.1 o0), .int p1, .int p2, .int p3]) (Qg 0 X (some (.int r)) u') 0 0 (Aw 0 X) := by
  refine v_met (res := (some (.int r), u')) (by decide) (Nat.le_of_ble_eq_true rfl) (fun M K => ?_)
  have K : OkM 0 M X cX4_presentAnswer 4 RX4 rm_X4_presentAnswer (some .int) := K
  show V 0 M X (some (.int r), u') 4 0 [(0, .ref (X.2.1 o0)), (1, .int p1), (2, .int p2), (3, .int p3)] [] u
  unfold f_X4_presentAnswer at hf
  refine v_aload_n K 0 rfl rfl dX4_presentAnswer_0 ?_
  refine v_iload_n K 1 rfl rfl dX4_presentAnswer_1 ?_
  obtain ⟨r2, u1, e3, hf⟩ := bnd_of hf
  refine v_callVv K (c_X4_prepare h0 e3) cv_X4_prepare ml_X4_59 (am0_4 h0) h0 kdX4 ⟨rfl, rfl, Nat.le_of_ble_eq_true rfl, Nat.le_of_ble_eq_true rfl⟩ rfl rfl (Nat.le_of_ble_eq_true rfl) dX4_presentAnswer_2 ?_
  refine v_aload_n K 0 rfl rfl dX4_presentAnswer_5 ?_
  refine gf_4_1 K h0 fl_X4_33 dX4_presentAnswer_6 ?_
  refine v_aload_n K 0 rfl rfl dX4_presentAnswer_9 ?_
  refine gf_4_2 K h0 fl_X4_9 dX4_presentAnswer_10 ?_
  refine v_aload_n K 0 rfl rfl dX4_presentAnswer_13 ?_
  refine gf_4_7 K h0 fl_X4_56 dX4_presentAnswer_14 ?_
  refine v_aload_n K 0 rfl rfl dX4_presentAnswer_17 ?_
  refine gf_4_0 K h0 fl_X4_24 dX4_presentAnswer_18 ?_
  refine gf_0_2 K (ak_4_0 h0) fl_X4_63 dX4_presentAnswer_21 ?_
  refine v_aload_n K 0 rfl rfl dX4_presentAnswer_24 ?_
  refine gf_4_0 K h0 fl_X4_24 dX4_presentAnswer_25 ?_
  refine gf_0_3 K (ak_4_0 h0) fl_X4_66 dX4_presentAnswer_28 ?_
  obtain ⟨r5, u4, e6, hf⟩ := bnd_of hf
  refine v_callVv K (c_X3_settleInTest (ak_4_1 h0) (ak_4_2 h0) (ak_0_2 (ak_4_0 h0)) e6) cv_X3_settleInTest ml_X4_69 (am0_3 (ak_4_1 h0)) (ak_4_1 h0) kdX3 ⟨rfl, rfl, Nat.le_of_ble_eq_true rfl, Nat.le_of_ble_eq_true rfl⟩ rfl rfl (Nat.le_of_ble_eq_true rfl) dX4_presentAnswer_31 ?_
  refine v_aload_n K 0 rfl rfl dX4_presentAnswer_34 ?_
  refine gf_4_1 K h0 fl_X4_33 dX4_presentAnswer_35 ?_
  refine v_iload_n K 2 rfl rfl dX4_presentAnswer_38 ?_
  refine v_iload_n K 3 rfl rfl dX4_presentAnswer_39 ?_
  obtain ⟨r8, u7, e9, hf⟩ := bnd_of hf
  refine v_callVi K (c_X3_seenBy (ak_4_1 h0) e9) cv_X3_seenBy ml_X4_73 (am0_3 (ak_4_1 h0)) (ak_4_1 h0) kdX3 ⟨rfl, rfl, Nat.le_of_ble_eq_true rfl, Nat.le_of_ble_eq_true rfl⟩ rfl rfl (Nat.le_of_ble_eq_true rfl) dX4_presentAnswer_40 ?_
  obtain ⟨rfl, rfl⟩ := pair_of hf
  exact v_iret K dX4_presentAnswer_43
abbrev rm_X4_noteAnswers : Room := { frames := 3, cells := 0, slots := 0, locals := 71 }
set_option maxRecDepth 20000 in
theorem t_X4_noteAnswers_44 {M : Mx} {X : Wx} {N : Nat} {o0 : Nat} (h0 : akd o0 = 4) {r : Unit} {u' : ASt} (K : OkM 0 M X cX4_noteAnswers 3 RX4 rm_X4_noteAnswers none) {k31 : Int32 → ASt → Option (Unit × ASt)} (hk31 : ∀ (x1 : Int32) (u : ASt), k31 x1 u = some (r, u') → V 0 M X (none, u') 3 31 [(0, .ref (X.2.1 o0)), (1, .int x1)] [] u) : ∀ (n : Nat) (x1 : Int32) (x2 : Int32) (u : ASt), f_X4_noteAnswers_44 N o0 k31 n x1 x2 u = some (r, u') → V 0 M X (none, u') 3 44 [(0, .ref (X.2.1 o0)), (1, .int x1), (2, .int x2)] [] u := by
  intro n
  induction n with
  | zero => intro x1 x2 u hf; cases hf
  | succ n ih =>
    intro x1 x2 u hf
    rw [f_X4_noteAnswers_44] at hf
    refine v_iload_n K 2 rfl rfl dX4_noteAnswers_44 ?_
    refine v_aload_n K 0 rfl rfl dX4_noteAnswers_45 ?_
    refine gf_4_0 K h0 fl_X4_24 dX4_noteAnswers_46 ?_
    refine gf_0_0 K (ak_4_0 h0) fl_X4_80 dX4_noteAnswers_49 ?_
    refine v_iload_n K 1 rfl rfl dX4_noteAnswers_52 ?_
    obtain ⟨g1, hf⟩ := chk_of hf
    refine v_aald K (am0_11 (ak_0_0 (ak_4_0 h0))) (.inr (ak_0_0 (ak_4_0 h0))) g1 dX4_noteAnswers_53 ?_
    refine gf_1_6 K (ae_11 (ak_0_0 (ak_4_0 h0)) g1) fl_X4_84 dX4_noteAnswers_54 ?_
    refine v_icmp_ge K 86 (by decide) dX4_noteAnswers_57 (fun c2 => ?_) (fun c2 => ?_)
    · have hf := ite_t c2 hf
      refine v_iinc K 1 (v := x1 + 1) (ls' := [(1, .int (x1 + 1)), (0, .ref (X.2.1 o0)), (2, .int x2)]) rfl rfl (by decide) rfl dX4_noteAnswers_86 ?_
      refine v_goto K 31 (by decide) dX4_noteAnswers_89 ?_
      refine v_sub [1, 0] rfl ?_
      exact hk31 (x1 + 1) u hf
    · have hf := ite_f c2 hf
      refine v_aload_n K 0 rfl rfl dX4_noteAnswers_60 ?_
      refine gf_4_3 K h0 fl_X4_15 dX4_noteAnswers_61 ?_
      refine v_iload_n K 1 rfl rfl dX4_noteAnswers_64 ?_
      refine v_bipush K (v := 6) (by decide) dX4_noteAnswers_65 ?_
      refine v_imul K dX4_noteAnswers_67 ?_
      refine v_iload_n K 2 rfl rfl dX4_noteAnswers_68 ?_
      refine v_iadd K dX4_noteAnswers_69 ?_
      refine v_aload_n K 0 rfl rfl dX4_noteAnswers_70 ?_
      refine gf_4_1 K h0 fl_X4_33 dX4_noteAnswers_71 ?_
      refine v_iload_n K 1 rfl rfl dX4_noteAnswers_74 ?_
      refine v_iload_n K 2 rfl rfl dX4_noteAnswers_75 ?_
      obtain ⟨r4, u3, e5, hf⟩ := bnd_of hf
      refine v_callVi K (c_X3_seenBy (ak_4_1 h0) e5) cv_X3_seenBy ml_X4_73 (am0_3 (ak_4_1 h0)) (ak_4_1 h0) kdX3 ⟨rfl, rfl, Nat.le_of_ble_eq_true rfl, Nat.le_of_ble_eq_true rfl⟩ rfl rfl (Nat.le_of_ble_eq_true rfl) dX4_noteAnswers_76 ?_
      obtain ⟨g6, hf⟩ := chk_of hf
      refine v_iast K (am0_9 (ak_4_3 h0)) (.inl (ak_4_3 h0)) g6 dX4_noteAnswers_79 ?_
      refine v_st (fun u7 eu7 => ?_)
      have hf := lte_of eu7 hf
      refine v_iinc K 2 (v := x2 + 1) (ls' := [(2, .int (x2 + 1)), (0, .ref (X.2.1 o0)), (1, .int x1)]) rfl rfl (by decide) rfl dX4_noteAnswers_80 ?_
      refine v_goto K 44 (by decide) dX4_noteAnswers_83 ?_
      refine v_sub [1, 2, 0] rfl ?_
      exact ih x1 (x2 + 1) u7 hf
set_option maxRecDepth 20000 in
theorem t_X4_noteAnswers_31 {M : Mx} {X : Wx} {N : Nat} {o0 : Nat} (h0 : akd o0 = 4) {r : Unit} {u' : ASt} (K : OkM 0 M X cX4_noteAnswers 3 RX4 rm_X4_noteAnswers none) : ∀ (n : Nat) (x1 : Int32) (u : ASt), f_X4_noteAnswers_31 N o0 n x1 u = some (r, u') → V 0 M X (none, u') 3 31 [(0, .ref (X.2.1 o0)), (1, .int x1)] [] u := by
  intro n
  induction n with
  | zero => intro x1 u hf; cases hf
  | succ n ih =>
    intro x1 u hf
    rw [f_X4_noteAnswers_31] at hf
    refine v_iload_n K 1 rfl rfl dX4_noteAnswers_31 ?_
    refine v_aload_n K 0 rfl rfl dX4_noteAnswers_32 ?_
    refine gf_4_0 K h0 fl_X4_24 dX4_noteAnswers_33 ?_
    refine gf_0_1 K (ak_4_0 h0) fl_X4_77 dX4_noteAnswers_36 ?_
    refine v_icmp_ge K 92 (by decide) dX4_noteAnswers_39 (fun c8 => ?_) (fun c8 => ?_)
    · have hf := ite_t c8 hf
      obtain ⟨rfl, rfl⟩ := pair_of hf
      exact v_vret K dX4_noteAnswers_92
    · have hf := ite_f c8 hf
      refine v_iconst K (v := 0) (by decide) dX4_noteAnswers_42 ?_
      refine v_istore_n K (ls' := [(2, .int 0), (0, .ref (X.2.1 o0)), (1, .int x1)]) rfl (by decide) rfl dX4_noteAnswers_43 ?_
      refine v_sub [1, 2, 0] rfl ?_
      exact t_X4_noteAnswers_44 h0 K ih N x1 0 u hf
set_option maxRecDepth 20000 in
theorem c_X4_noteAnswers {X : Wx} {N : Nat} {o0 : Nat} (h0 : akd o0 = 4) {u u' : ASt} {r : Unit} (hf : f_X4_noteAnswers N o0 u = some (r, u')) (l : Launch) : Met l yX4_noteAnswers (ws_ yX4_noteAnswers cX4_noteAnswers 3 none) rm_X4_noteAnswers (Pg 0 X u [.ref (X.2.1 o0)]) (Qg 0 X (none) u') 0 0 (Aw 0 X) := by
  refine v_met (res := (none, u')) (by decide) (Nat.le_of_ble_eq_true rfl) (fun M K => ?_)
  have K : OkM 0 M X cX4_noteAnswers 3 RX4 rm_X4_noteAnswers none := K
  show V 0 M X (none, u') 3 0 [(0, .ref (X.2.1 o0))] [] u
  unfold f_X4_noteAnswers at hf
  refine v_aload_n K 0 rfl rfl dX4_noteAnswers_0 ?_
  refine gf_4_1 K h0 fl_X4_33 dX4_noteAnswers_1 ?_
  refine v_aload_n K 0 rfl rfl dX4_noteAnswers_4 ?_
  refine gf_4_2 K h0 fl_X4_9 dX4_noteAnswers_5 ?_
  refine v_aload_n K 0 rfl rfl dX4_noteAnswers_8 ?_
  refine gf_4_7 K h0 fl_X4_56 dX4_noteAnswers_9 ?_
  refine v_aload_n K 0 rfl rfl dX4_noteAnswers_12 ?_
  refine gf_4_0 K h0 fl_X4_24 dX4_noteAnswers_13 ?_
  refine gf_0_2 K (ak_4_0 h0) fl_X4_63 dX4_noteAnswers_16 ?_
  refine v_aload_n K 0 rfl rfl dX4_noteAnswers_19 ?_
  refine gf_4_0 K h0 fl_X4_24 dX4_noteAnswers_20 ?_
  refine gf_0_3 K (ak_4_0 h0) fl_X4_66 dX4_noteAnswers_23 ?_
  obtain ⟨r10, u9, e11, hf⟩ := bnd_of hf
  refine v_callVv K (c_X3_settleInTest (ak_4_1 h0) (ak_4_2 h0) (ak_0_2 (ak_4_0 h0)) e11) cv_X3_settleInTest ml_X4_69 (am0_3 (ak_4_1 h0)) (ak_4_1 h0) kdX3 ⟨rfl, rfl, Nat.le_of_ble_eq_true rfl, Nat.le_of_ble_eq_true rfl⟩ rfl rfl (Nat.le_of_ble_eq_true rfl) dX4_noteAnswers_26 ?_
  refine v_iconst K (v := 0) (by decide) dX4_noteAnswers_29 ?_
  refine v_istore_n K (ls' := [(1, .int 0), (0, .ref (X.2.1 o0))]) rfl (by decide) rfl dX4_noteAnswers_30 ?_
  refine v_sub [1, 0] rfl ?_
  exact t_X4_noteAnswers_31 h0 K N 0 u9 hf
abbrev rm_X4_explains : Room := { frames := 3, cells := 0, slots := 0, locals := 71 }
set_option maxRecDepth 20000 in
theorem t_X4_explains_106 {M : Mx} {X : Wx} {N : Nat} {o0 : Nat} {p1 : Int32} (h0 : akd o0 = 4) {r : Int32} {u' : ASt} (K : OkM 0 M X cX4_explains 5 RX4 rm_X4_explains (some .boolean)) {k37 : Int32 → ASt → Option (Int32 × ASt)} (hk37 : ∀ (x2 : Int32) (u : ASt), k37 x2 u = some (r, u') → V 0 M X (some (.int r), u') 5 37 [(0, .ref (X.2.1 o0)), (2, .int x2)] [] u) {k61 : Int32 → Nat → Int32 → ASt → Option (Int32 × ASt)} (hk61 : ∀ (x2 : Int32) (b3 : Nat) (x4 : Int32) (u : ASt), akd b3 = 1 → k61 x2 b3 x4 u = some (r, u') → V 0 M X (some (.int r), u') 5 61 [(0, .ref (X.2.1 o0)), (2, .int x2), (3, .ref (X.2.1 b3)), (4, .int x4)] [] u) {x2 : Int32} {b3 : Nat} {x4 : Int32} (hb3 : akd b3 = 1) {u : ASt} (hf : f_X4_explains_106 N o0 p1 k37 k61 x2 b3 x4 u = some (r, u')) : V 0 M X (some (.int r), u') 5 106 [(0, .ref (X.2.1 o0)), (2, .int x2), (3, .ref (X.2.1 b3)), (4, .int x4)] [] u := by
  unfold f_X4_explains_106 at hf
  refine v_iinc K 3 (v := x4 + 1) (ls' := [(4, .int (x4 + 1)), (0, .ref (X.2.1 o0)), (2, .int x2), (3, .ref (X.2.1 b3))]) rfl rfl (by decide) rfl dX4_explains_106 ?_
  refine v_goto K 61 (by decide) dX4_explains_109 ?_
  refine v_sub [1, 2, 3, 0] rfl ?_
  exact hk61 x2 b3 (x4 + 1) u hb3 hf
set_option maxRecDepth 20000 in
theorem t_X4_explains_61 {M : Mx} {X : Wx} {N : Nat} {o0 : Nat} {p1 : Int32} (h0 : akd o0 = 4) {r : Int32} {u' : ASt} (K : OkM 0 M X cX4_explains 5 RX4 rm_X4_explains (some .boolean)) {k37 : Int32 → ASt → Option (Int32 × ASt)} (hk37 : ∀ (x2 : Int32) (u : ASt), k37 x2 u = some (r, u') → V 0 M X (some (.int r), u') 5 37 [(0, .ref (X.2.1 o0)), (2, .int x2)] [] u) : ∀ (n : Nat) (x2 : Int32) (b3 : Nat) (x4 : Int32) (u : ASt), akd b3 = 1 → f_X4_explains_61 N o0 p1 k37 n x2 b3 x4 u = some (r, u') → V 0 M X (some (.int r), u') 5 61 [(0, .ref (X.2.1 o0)), (2, .int x2), (3, .ref (X.2.1 b3)), (4, .int x4)] [] u := by
  intro n
  induction n with
  | zero => intro x2 b3 x4 u hb3 hf; cases hf
  | succ n ih =>
    intro x2 b3 x4 u hb3 hf
    rw [f_X4_explains_61] at hf
    refine v_iload K 3 rfl dX4_explains_61 ?_
    refine v_aload_n K 2 rfl rfl dX4_explains_63 ?_
    refine gf_1_6 K hb3 fl_X4_84 dX4_explains_64 ?_
    refine v_icmp_ge K 112 (by decide) dX4_explains_67 (fun c1 => ?_) (fun c1 => ?_)
    · have hf := ite_t c1 hf
      refine v_iinc K 1 (v := x2 + 1) (ls' := [(2, .int (x2 + 1)), (0, .ref (X.2.1 o0)), (3, .ref (X.2.1 b3)), (4, .int x4)]) rfl rfl (by decide) rfl dX4_explains_112 ?_
      refine v_goto K 37 (by decide) dX4_explains_115 ?_
      refine v_sub [1, 0] rfl ?_
      exact hk37 (x2 + 1) u hf
    · have hf := ite_f c1 hf
      refine v_aload_n K 2 rfl rfl dX4_explains_70 ?_
      refine v_iload K 3 rfl dX4_explains_71 ?_
      obtain ⟨r3, u2, e4, hf⟩ := bnd_of hf
      refine v_callVi K (c_X1_isOutput hb3 e4) cv_X1_isOutput ml_X4_89 (am0_1 hb3) hb3 kdX1 ⟨rfl, rfl, Nat.le_of_ble_eq_true rfl, Nat.le_of_ble_eq_true rfl⟩ rfl rfl (Nat.le_of_ble_eq_true rfl) dX4_explains_73 ?_
      refine v_if_ne K 106 (by decide) dX4_explains_76 (fun c5 => ?_) (fun c5 => ?_)
      · have hf := ite_f c5 hf
        exact t_X4_explains_106 h0 K hk37 ih hb3 hf
      · have hf := ite_t c5 hf
        refine v_aload_n K 0 rfl rfl dX4_explains_79 ?_
        refine gf_4_1 K h0 fl_X4_33 dX4_explains_80 ?_
        refine v_iload_n K 1 rfl rfl dX4_explains_83 ?_
        refine v_iload K 3 rfl dX4_explains_84 ?_
        obtain ⟨r7, u6, e8, hf⟩ := bnd_of hf
        refine v_callVi K (c_X3_seenBy (ak_4_1 h0) e8) cv_X3_seenBy ml_X4_73 (am0_3 (ak_4_1 h0)) (ak_4_1 h0) kdX3 ⟨rfl, rfl, Nat.le_of_ble_eq_true rfl, Nat.le_of_ble_eq_true rfl⟩ rfl rfl (Nat.le_of_ble_eq_true rfl) dX4_explains_86 ?_
        refine v_aload_n K 0 rfl rfl dX4_explains_89 ?_
        refine gf_4_3 K h0 fl_X4_15 dX4_explains_90 ?_
        refine v_iload_n K 1 rfl rfl dX4_explains_93 ?_
        refine v_bipush K (v := 6) (by decide) dX4_explains_94 ?_
        refine v_imul K dX4_explains_96 ?_
        refine v_iload K 3 rfl dX4_explains_97 ?_
        refine v_iadd K dX4_explains_99 ?_
        obtain ⟨g9, hf⟩ := chk_of hf
        refine v_iald K (am0_9 (ak_4_3 h0)) (.inl (ak_4_3 h0)) g9 dX4_explains_100 ?_
        refine v_icmp_eq K 106 (by decide) dX4_explains_101 (fun c10 => ?_) (fun c10 => ?_)
        · have hf := ite_t c10 hf
          exact t_X4_explains_106 h0 K hk37 ih hb3 hf
        · have hf := ite_f c10 hf
          refine v_iconst K (v := 0) (by decide) dX4_explains_104 ?_
          obtain ⟨rfl, rfl⟩ := pair_of hf
          exact v_zret K (by decide) dX4_explains_105
set_option maxRecDepth 20000 in
theorem t_X4_explains_37 {M : Mx} {X : Wx} {N : Nat} {o0 : Nat} {p1 : Int32} (h0 : akd o0 = 4) {r : Int32} {u' : ASt} (K : OkM 0 M X cX4_explains 5 RX4 rm_X4_explains (some .boolean)) : ∀ (n : Nat) (x2 : Int32) (u : ASt), f_X4_explains_37 N o0 p1 n x2 u = some (r, u') → V 0 M X (some (.int r), u') 5 37 [(0, .ref (X.2.1 o0)), (2, .int x2)] [] u := by
  intro n
  induction n with
  | zero => intro x2 u hf; cases hf
  | succ n ih =>
    intro x2 u hf
    rw [f_X4_explains_37] at hf
    refine v_iload_n K 1 rfl rfl dX4_explains_37 ?_
    refine v_aload_n K 0 rfl rfl dX4_explains_38 ?_
    refine gf_4_0 K h0 fl_X4_24 dX4_explains_39 ?_
    refine gf_0_1 K (ak_4_0 h0) fl_X4_77 dX4_explains_42 ?_
    refine v_icmp_ge K 118 (by decide) dX4_explains_45 (fun c11 => ?_) (fun c11 => ?_)
    · have hf := ite_t c11 hf
      refine v_iconst K (v := 1) (by decide) dX4_explains_118 ?_
      obtain ⟨rfl, rfl⟩ := pair_of hf
      exact v_zret K (by decide) dX4_explains_119
    · have hf := ite_f c11 hf
      refine v_aload_n K 0 rfl rfl dX4_explains_48 ?_
      refine gf_4_0 K h0 fl_X4_24 dX4_explains_49 ?_
      refine gf_0_0 K (ak_4_0 h0) fl_X4_80 dX4_explains_52 ?_
      refine v_iload_n K 1 rfl rfl dX4_explains_55 ?_
      obtain ⟨g12, hf⟩ := chk_of hf
      refine v_aald K (am0_11 (ak_0_0 (ak_4_0 h0))) (.inr (ak_0_0 (ak_4_0 h0))) g12 dX4_explains_56 ?_
      refine v_astore_n K (ls' := [(3, .ref (X.2.1 (arf (arf (arf o0 0) 0) (Int32.toNatClampNeg x2)))), (0, .ref (X.2.1 o0)), (2, .int x2)]) rfl (by decide) rfl dX4_explains_57 ?_
      refine v_iconst K (v := 0) (by decide) dX4_explains_58 ?_
      refine v_istore K (ls' := [(4, .int 0), (3, .ref (X.2.1 (arf (arf (arf o0 0) 0) (Int32.toNatClampNeg x2)))), (0, .ref (X.2.1 o0)), (2, .int x2)]) (by decide) rfl dX4_explains_59 ?_
      refine v_sub [2, 3, 1, 0] rfl ?_
      exact t_X4_explains_61 h0 K ih N x2 (arf (arf (arf o0 0) 0) (Int32.toNatClampNeg x2)) 0 u (ae_11 (ak_0_0 (ak_4_0 h0)) g12) hf
set_option maxRecDepth 20000 in
theorem t_X4_explains_32 {M : Mx} {X : Wx} {N : Nat} {o0 : Nat} {p1 : Int32} (h0 : akd o0 = 4) {r : Int32} {u' : ASt} (K : OkM 0 M X cX4_explains 5 RX4 rm_X4_explains (some .boolean)) {c0 : Nat} {c1 : Nat} {y2 : Int32} {c3 : Nat} {y4 : Int32} (hc0 : akd c0 = 3) (hc1 : akd c1 = 9) (hc3 : akd c3 = 9) {u : ASt} (hf : f_X4_explains_32 N o0 p1 c0 c1 y2 c3 y4 u = some (r, u')) : V 0 M X (some (.int r), u') 5 32 [(0, .ref (X.2.1 o0))] [.int y4, .ref (X.2.1 c3), .int y2, .ref (X.2.1 c1), .ref (X.2.1 c0)] u := by
  unfold f_X4_explains_32 at hf
  obtain ⟨r14, u13, e15, hf⟩ := bnd_of hf
  refine v_callVv K (c_X3_settleInTest hc0 hc1 hc3 e15) cv_X3_settleInTest ml_X4_69 (am0_3 hc0) hc0 kdX3 ⟨rfl, rfl, Nat.le_of_ble_eq_true rfl, Nat.le_of_ble_eq_true rfl⟩ rfl rfl (Nat.le_of_ble_eq_true rfl) dX4_explains_32 ?_
  refine v_iconst K (v := 0) (by decide) dX4_explains_35 ?_
  refine v_istore_n K (ls' := [(2, .int 0), (0, .ref (X.2.1 o0))]) rfl (by decide) rfl dX4_explains_36 ?_
  refine v_sub [1, 0] rfl ?_
  exact t_X4_explains_37 h0 K N 0 u13 hf
set_option maxRecDepth 20000 in
theorem c_X4_explains {X : Wx} {N : Nat} {o0 : Nat} {p1 : Int32} (h0 : akd o0 = 4) {u u' : ASt} {r : Int32} (hf : f_X4_explains N o0 p1 u = some (r, u')) (l : Launch) : Met l yX4_explains (ws_ yX4_explains cX4_explains 5 (some .boolean)) rm_X4_explains (Pg 0 X u [.ref (X.2.1 o0), .int p1]) (Qg 0 X (some (.int r)) u') 0 0 (Aw 0 X) := by
  refine v_met (res := (some (.int r), u')) (by decide) (Nat.le_of_ble_eq_true rfl) (fun M K => ?_)
  have K : OkM 0 M X cX4_explains 5 RX4 rm_X4_explains (some .boolean) := K
  show V 0 M X (some (.int r), u') 5 0 [(0, .ref (X.2.1 o0)), (1, .int p1)] [] u
  unfold f_X4_explains at hf
  refine v_aload_n K 0 rfl rfl dX4_explains_0 ?_
  refine gf_4_4 K h0 fl_X4_18 dX4_explains_1 ?_
  refine v_iconst K (v := 0) (by decide) dX4_explains_4 ?_
  refine v_iload_n K 1 rfl rfl dX4_explains_5 ?_
  obtain ⟨g16, hf⟩ := chk_of hf
  refine v_iast K (am0_9 (ak_4_4 h0)) (.inl (ak_4_4 h0)) g16 dX4_explains_6 ?_
  refine v_st (fun u17 eu17 => ?_)
  have hf := lte_of eu17 hf
  refine v_aload_n K 0 rfl rfl dX4_explains_7 ?_
  refine gf_4_1 K h0 fl_X4_33 dX4_explains_8 ?_
  refine v_aload_n K 0 rfl rfl dX4_explains_11 ?_
  refine gf_4_2 K h0 fl_X4_9 dX4_explains_12 ?_
  refine v_aload_n K 0 rfl rfl dX4_explains_15 ?_
  refine gf_4_7 K h0 fl_X4_56 dX4_explains_16 ?_
  refine v_aload_n K 0 rfl rfl dX4_explains_19 ?_
  refine gf_4_4 K h0 fl_X4_18 dX4_explains_20 ?_
  refine v_iload_n K 1 rfl rfl dX4_explains_23 ?_
  refine v_if_ne K 31 (by decide) dX4_explains_24 (fun c18 => ?_) (fun c18 => ?_)
  · have hf := ite_f c18 hf
    refine v_iconst K (v := 1) (by decide) dX4_explains_31 ?_
    refine v_sub [0] rfl ?_
    exact t_X4_explains_32 h0 K (ak_4_1 h0) (ak_4_2 h0) (ak_4_4 h0) hf
  · have hf := ite_t c18 hf
    refine v_iconst K (v := 0) (by decide) dX4_explains_27 ?_
    refine v_goto K 32 (by decide) dX4_explains_28 ?_
    refine v_sub [0] rfl ?_
    exact t_X4_explains_32 h0 K (ak_4_1 h0) (ak_4_2 h0) (ak_4_4 h0) hf
abbrev rm_X4_showsFaults : Room := { frames := 4, cells := 0, slots := 0, locals := 95 }
set_option maxRecDepth 20000 in
theorem c_X4_showsFaults {X : Wx} {N : Nat} {o0 : Nat} {p1 : Int32} (h0 : akd o0 = 4) {u u' : ASt} {r : Int32} (hf : f_X4_showsFaults N o0 p1 u = some (r, u')) (l : Launch) : Met l yX4_showsFaults (ws_ yX4_showsFaults cX4_showsFaults 2 (some .boolean)) rm_X4_showsFaults (Pg 0 X u [.ref (X.2.1 o0), .int p1]) (Qg 0 X (some (.int r)) u') 0 0 (Aw 0 X) := by
  refine v_met (res := (some (.int r), u')) (by decide) (Nat.le_of_ble_eq_true rfl) (fun M K => ?_)
  have K : OkM 0 M X cX4_showsFaults 2 RX4 rm_X4_showsFaults (some .boolean) := K
  show V 0 M X (some (.int r), u') 2 0 [(0, .ref (X.2.1 o0)), (1, .int p1)] [] u
  unfold f_X4_showsFaults at hf
  refine v_aload_n K 0 rfl rfl dX4_showsFaults_0 ?_
  refine v_iload_n K 1 rfl rfl dX4_showsFaults_1 ?_
  obtain ⟨r2, u1, e3, hf⟩ := bnd_of hf
  refine v_callVv K (c_X4_prepare h0 e3) cv_X4_prepare ml_X4_59 (am0_4 h0) h0 kdX4 ⟨rfl, rfl, Nat.le_of_ble_eq_true rfl, Nat.le_of_ble_eq_true rfl⟩ rfl rfl (Nat.le_of_ble_eq_true rfl) dX4_showsFaults_2 ?_
  refine v_aload_n K 0 rfl rfl dX4_showsFaults_5 ?_
  obtain ⟨r5, u4, e6, hf⟩ := bnd_of hf
  refine v_callVv K (c_X4_noteAnswers h0 e6) cv_X4_noteAnswers ml_X4_93 (am0_4 h0) h0 kdX4 ⟨rfl, rfl, Nat.le_of_ble_eq_true rfl, Nat.le_of_ble_eq_true rfl⟩ rfl rfl (Nat.le_of_ble_eq_true rfl) dX4_showsFaults_6 ?_
  refine v_aload_n K 0 rfl rfl dX4_showsFaults_9 ?_
  refine v_iconst K (v := 0) (by decide) dX4_showsFaults_10 ?_
  obtain ⟨r8, u7, e9, hf⟩ := bnd_of hf
  refine v_callVi K (c_X4_explains h0 e9) cv_X4_explains ml_X4_96 (am0_4 h0) h0 kdX4 ⟨rfl, rfl, Nat.le_of_ble_eq_true rfl, Nat.le_of_ble_eq_true rfl⟩ rfl rfl (Nat.le_of_ble_eq_true rfl) dX4_showsFaults_11 ?_
  refine v_if_ne K 21 (by decide) dX4_showsFaults_14 (fun c10 => ?_) (fun c10 => ?_)
  · have hf := ite_f c10 hf
    refine v_iconst K (v := 0) (by decide) dX4_showsFaults_21 ?_
    obtain ⟨rfl, rfl⟩ := pair_of hf
    exact v_zret K (by decide) dX4_showsFaults_22
  · have hf := ite_t c10 hf
    refine v_iconst K (v := 1) (by decide) dX4_showsFaults_17 ?_
    refine v_goto K 22 (by decide) dX4_showsFaults_18 ?_
    obtain ⟨rfl, rfl⟩ := pair_of hf
    exact v_zret K (by decide) dX4_showsFaults_22
