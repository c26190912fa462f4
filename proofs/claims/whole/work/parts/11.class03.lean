abbrev rm_X4_list : Room := { frames := 0, cells := 0, slots := 0, locals := 0 }
set_option maxRecDepth 20000 in
theorem c_X4_list {X : Wx} {N : Nat} {o0 : Nat} {p1 : Int32} (h0 : akd o0 = 4) {u u' : ASt} {r : Unit} (hf : f_X4_list N o0 p1 u = some (r, u')) (l : Launch) : Met l yX4_list (ws_ yX4_list cX4_list 2 none) rm_X4_list (Pg 0 X u [.ref (X.2.1 o0), .int p1]) (Qg 0 X (none) u') 0 0 (Aw 0 X) := by
  refine v_met (res := (none, u')) (by decide) (Nat.le_of_ble_eq_true rfl) (fun M K => ?_)
  have K : OkM 0 M X cX4_list 2 RX4 rm_X4_list none := K
  show V 0 M X (none, u') 2 0 [(0, .ref (X.2.1 o0)), (1, .int p1)] [] u
  unfold f_X4_list at hf
  refine v_aload_n K 0 rfl rfl dX4_list_0 ?_
  refine gf_4_6 K h0 fl_X4_102 dX4_list_1 ?_
  refine v_bipush K (v := 97) (by decide) dX4_list_4 ?_
  refine v_icmp_ge K 29 (by decide) dX4_list_6 (fun c1 => ?_) (fun c1 => ?_)
  · have hf := ite_t c1 hf
    obtain ⟨rfl, rfl⟩ := pair_of hf
    exact v_vret K dX4_list_29
  · have hf := ite_f c1 hf
    refine v_aload_n K 0 rfl rfl dX4_list_9 ?_
    refine gf_4_5 K h0 fl_X4_21 dX4_list_10 ?_
    refine v_aload_n K 0 rfl rfl dX4_list_13 ?_
    refine gf_4_6 K h0 fl_X4_102 dX4_list_14 ?_
    refine v_iload_n K 1 rfl rfl dX4_list_17 ?_
    obtain ⟨g2, hf⟩ := chk_of hf
    refine v_iast K (am0_9 (ak_4_5 h0)) (.inl (ak_4_5 h0)) g2 dX4_list_18 ?_
    refine v_st (fun u3 eu3 => ?_)
    have hf := lte_of eu3 hf
    refine v_aload_n K 0 rfl rfl dX4_list_19 ?_
    refine v_dup K rfl dX4_list_20 ?_
    refine gf_4_6 K h0 fl_X4_102 dX4_list_21 ?_
    refine v_iconst K (v := 1) (by decide) dX4_list_24 ?_
    refine v_iadd K dX4_list_25 ?_
    refine pf_4_6 K h0 fl_X4_102 dX4_list_26 ?_
    refine v_st (fun u4 eu4 => ?_)
    have hf := lte_of eu4 hf
    obtain ⟨rfl, rfl⟩ := pair_of hf
    exact v_vret K dX4_list_29
abbrev rm_X4_listOpenCells : Room := { frames := 1, cells := 0, slots := 0, locals := 22 }
set_option maxRecDepth 20000 in
theorem t_X4_listOpenCells_15 {M : Mx} {X : Wx} {N : Nat} {o0 : Nat} (h0 : akd o0 = 4) {r : Unit} {u' : ASt} (K : OkM 0 M X cX4_listOpenCells 3 RX4 rm_X4_listOpenCells none) {k2 : Int32 → ASt → Option (Unit × ASt)} (hk2 : ∀ (x1 : Int32) (u : ASt), k2 x1 u = some (r, u') → V 0 M X (none, u') 3 2 [(0, .ref (X.2.1 o0)), (1, .int x1)] [] u) : ∀ (n : Nat) (x1 : Int32) (x2 : Int32) (u : ASt), f_X4_listOpenCells_15 N o0 k2 n x1 x2 u = some (r, u') → V 0 M X (none, u') 3 15 [(0, .ref (X.2.1 o0)), (1, .int x1), (2, .int x2)] [] u := by
  intro n
  induction n with
  | zero => intro x1 x2 u hf; cases hf
  | succ n ih =>
    intro x1 x2 u hf
    rw [f_X4_listOpenCells_15] at hf
    refine v_iload_n K 2 rfl rfl dX4_listOpenCells_15 ?_
    refine v_aload_n K 0 rfl rfl dX4_listOpenCells_16 ?_
    refine gf_4_0 K h0 fl_X4_24 dX4_listOpenCells_17 ?_
    refine gf_0_0 K (ak_4_0 h0) fl_X4_80 dX4_listOpenCells_20 ?_
    refine v_iload_n K 1 rfl rfl dX4_listOpenCells_23 ?_
    obtain ⟨g1, hf⟩ := chk_of hf
    refine v_aald K (am0_11 (ak_0_0 (ak_4_0 h0))) (.inr (ak_0_0 (ak_4_0 h0))) g1 dX4_listOpenCells_24 ?_
    refine gf_1_6 K (ae_11 (ak_0_0 (ak_4_0 h0)) g1) fl_X4_84 dX4_listOpenCells_25 ?_
    refine v_icmp_ge K 47 (by decide) dX4_listOpenCells_28 (fun c2 => ?_) (fun c2 => ?_)
    · have hf := ite_t c2 hf
      refine v_iinc K 1 (v := x1 + 1) (ls' := [(1, .int (x1 + 1)), (0, .ref (X.2.1 o0)), (2, .int x2)]) rfl rfl (by decide) rfl dX4_listOpenCells_47 ?_
      refine v_goto K 2 (by decide) dX4_listOpenCells_50 ?_
      refine v_sub [1, 0] rfl ?_
      exact hk2 (x1 + 1) u hf
    · have hf := ite_f c2 hf
      refine v_aload_n K 0 rfl rfl dX4_listOpenCells_31 ?_
      refine v_iconst K (v := 1) (by decide) dX4_listOpenCells_32 ?_
      refine v_iload_n K 1 rfl rfl dX4_listOpenCells_33 ?_
      refine v_iload_n K 2 rfl rfl dX4_listOpenCells_34 ?_
      obtain ⟨r4, u3, e5, hf⟩ := bnd_of hf
      refine v_callNi K (c_X6_faultCode e5) cv_X6_faultCode (List.mem_of_getElem? (i := 8) rfl) ⟨rfl, rfl, Nat.le_of_ble_eq_true rfl, Nat.le_of_ble_eq_true rfl⟩ rfl rfl (Nat.le_of_ble_eq_true rfl) dX4_listOpenCells_35 ?_
      obtain ⟨r7, u6, e8, hf⟩ := bnd_of hf
      refine v_callVv K (c_X4_list h0 e8) cv_X4_list ml_X4_108 (am0_4 h0) h0 kdX4 ⟨rfl, rfl, Nat.le_of_ble_eq_true rfl, Nat.le_of_ble_eq_true rfl⟩ rfl rfl (Nat.le_of_ble_eq_true rfl) dX4_listOpenCells_38 ?_
      refine v_iinc K 2 (v := x2 + 1) (ls' := [(2, .int (x2 + 1)), (0, .ref (X.2.1 o0)), (1, .int x1)]) rfl rfl (by decide) rfl dX4_listOpenCells_41 ?_
      refine v_goto K 15 (by decide) dX4_listOpenCells_44 ?_
      refine v_sub [1, 2, 0] rfl ?_
      exact ih x1 (x2 + 1) u6 hf
set_option maxRecDepth 20000 in
theorem t_X4_listOpenCells_2 {M : Mx} {X : Wx} {N : Nat} {o0 : Nat} (h0 : akd o0 = 4) {r : Unit} {u' : ASt} (K : OkM 0 M X cX4_listOpenCells 3 RX4 rm_X4_listOpenCells none) : ∀ (n : Nat) (x1 : Int32) (u : ASt), f_X4_listOpenCells_2 N o0 n x1 u = some (r, u') → V 0 M X (none, u') 3 2 [(0, .ref (X.2.1 o0)), (1, .int x1)] [] u := by
  intro n
  induction n with
  | zero => intro x1 u hf; cases hf
  | succ n ih =>
    intro x1 u hf
    rw [f_X4_listOpenCells_2] at hf
    refine v_iload_n K 1 rfl rfl dX4_listOpenCells_2 ?_
    refine v_aload_n K 0 rfl rfl dX4_listOpenCells_3 ?_
    refine gf_4_0 K h0 fl_X4_24 dX4_listOpenCells_4 ?_
    refine gf_0_1 K (ak_4_0 h0) fl_X4_77 dX4_listOpenCells_7 ?_
    refine v_icmp_ge K 53 (by decide) dX4_listOpenCells_10 (fun c9 => ?_) (fun c9 => ?_)
    · have hf := ite_t c9 hf
      obtain ⟨rfl, rfl⟩ := pair_of hf
      exact v_vret K dX4_listOpenCells_53
    · have hf := ite_f c9 hf
      refine v_iconst K (v := 0) (by decide) dX4_listOpenCells_13 ?_
      refine v_istore_n K (ls' := [(2, .int 0), (0, .ref (X.2.1 o0)), (1, .int x1)]) rfl (by decide) rfl dX4_listOpenCells_14 ?_
      refine v_sub [1, 2, 0] rfl ?_
      exact t_X4_listOpenCells_15 h0 K ih N x1 0 u hf
set_option maxRecDepth 20000 in
theorem c_X4_listOpenCells {X : Wx} {N : Nat} {o0 : Nat} (h0 : akd o0 = 4) {u u' : ASt} {r : Unit} (hf : f_X4_listOpenCells N o0 u = some (r, u')) (l : Launch) : Met l yX4_listOpenCells (ws_ yX4_listOpenCells cX4_listOpenCells 3 none) rm_X4_listOpenCells (Pg 0 X u [.ref (X.2.1 o0)]) (Qg 0 X (none) u') 0 0 (Aw 0 X) := by
  refine v_met (res := (none, u')) (by decide) (Nat.le_of_ble_eq_true rfl) (fun M K => ?_)
  have K : OkM 0 M X cX4_listOpenCells 3 RX4 rm_X4_listOpenCells none := K
  show V 0 M X (none, u') 3 0 [(0, .ref (X.2.1 o0))] [] u
  unfold f_X4_listOpenCells at hf
  refine v_iconst K (v := 0) (by decide) dX4_listOpenCells_0 ?_
  refine v_istore_n K (ls' := [(1, .int 0), (0, .ref (X.2.1 o0))]) rfl (by decide) rfl dX4_listOpenCells_1 ?_
  refine v_sub [1, 0] rfl ?_
  exact t_X4_listOpenCells_2 h0 K N 0 u hf
abbrev rm_X4_listStuckNets : Room := { frames := 1, cells := 0, slots := 0, locals := 22 }
set_option maxRecDepth 20000 in
theorem t_X4_listStuckNets_36 {M : Mx} {X : Wx} {N : Nat} {o0 : Nat} {p1 : Int32} (h0 : akd o0 = 4) {r : Unit} {u' : ASt} (K : OkM 0 M X cX4_listStuckNets 3 RX4 rm_X4_listStuckNets none) {k2 : Int32 → ASt → Option (Unit × ASt)} (hk2 : ∀ (x2 : Int32) (u : ASt), k2 x2 u = some (r, u') → V 0 M X (none, u') 3 2 [(0, .ref (X.2.1 o0)), (1, .int p1), (2, .int x2)] [] u) {x2 : Int32} {u : ASt} (hf : f_X4_listStuckNets_36 N o0 p1 k2 x2 u = some (r, u')) : V 0 M X (none, u') 3 36 [(0, .ref (X.2.1 o0)), (1, .int p1), (2, .int x2)] [] u := by
  unfold f_X4_listStuckNets_36 at hf
  refine v_iinc K 2 (v := x2 + 1) (ls' := [(2, .int (x2 + 1)), (0, .ref (X.2.1 o0)), (1, .int p1)]) rfl rfl (by decide) rfl dX4_listStuckNets_36 ?_
  refine v_goto K 2 (by decide) dX4_listStuckNets_39 ?_
  refine v_sub [1, 2, 0] rfl ?_
  exact hk2 (x2 + 1) u hf
set_option maxRecDepth 20000 in
theorem t_X4_listStuckNets_2 {M : Mx} {X : Wx} {N : Nat} {o0 : Nat} {p1 : Int32} (h0 : akd o0 = 4) {r : Unit} {u' : ASt} (K : OkM 0 M X cX4_listStuckNets 3 RX4 rm_X4_listStuckNets none) : ∀ (n : Nat) (x2 : Int32) (u : ASt), f_X4_listStuckNets_2 N o0 p1 n x2 u = some (r, u') → V 0 M X (none, u') 3 2 [(0, .ref (X.2.1 o0)), (1, .int p1), (2, .int x2)] [] u := by
  intro n
  induction n with
  | zero => intro x2 u hf; cases hf
  | succ n ih =>
    intro x2 u hf
    rw [f_X4_listStuckNets_2] at hf
    refine v_iload_n K 2 rfl rfl dX4_listStuckNets_2 ?_
    refine v_bipush K (v := 8) (by decide) dX4_listStuckNets_3 ?_
    refine v_icmp_ge K 42 (by decide) dX4_listStuckNets_5 (fun c1 => ?_) (fun c1 => ?_)
    · have hf := ite_t c1 hf
      obtain ⟨rfl, rfl⟩ := pair_of hf
      exact v_vret K dX4_listStuckNets_42
    · have hf := ite_f c1 hf
      refine v_iload_n K 1 rfl rfl dX4_listStuckNets_8 ?_
      refine v_iload_n K 2 rfl rfl dX4_listStuckNets_9 ?_
      obtain ⟨r3, u2, e4, hf⟩ := bnd_of hf
      refine v_callNi K (c_X6_isMember e4) cv_X6_isMember (List.mem_of_getElem? (i := 9) rfl) ⟨rfl, rfl, Nat.le_of_ble_eq_true rfl, Nat.le_of_ble_eq_true rfl⟩ rfl rfl (Nat.le_of_ble_eq_true rfl) dX4_listStuckNets_10 ?_
      refine v_if_eq K 36 (by decide) dX4_listStuckNets_13 (fun c5 => ?_) (fun c5 => ?_)
      · have hf := ite_t c5 hf
        exact t_X4_listStuckNets_36 h0 K ih hf
      · have hf := ite_f c5 hf
        refine v_aload_n K 0 rfl rfl dX4_listStuckNets_16 ?_
        refine v_iconst K (v := 2) (by decide) dX4_listStuckNets_17 ?_
        refine v_iload_n K 2 rfl rfl dX4_listStuckNets_18 ?_
        refine v_iconst K (v := 0) (by decide) dX4_listStuckNets_19 ?_
        obtain ⟨r7, u6, e8, hf⟩ := bnd_of hf
        refine v_callNi K (c_X6_faultCode e8) cv_X6_faultCode (List.mem_of_getElem? (i := 8) rfl) ⟨rfl, rfl, Nat.le_of_ble_eq_true rfl, Nat.le_of_ble_eq_true rfl⟩ rfl rfl (Nat.le_of_ble_eq_true rfl) dX4_listStuckNets_20 ?_
        obtain ⟨r10, u9, e11, hf⟩ := bnd_of hf
        refine v_callVv K (c_X4_list h0 e11) cv_X4_list ml_X4_108 (am0_4 h0) h0 kdX4 ⟨rfl, rfl, Nat.le_of_ble_eq_true rfl, Nat.le_of_ble_eq_true rfl⟩ rfl rfl (Nat.le_of_ble_eq_true rfl) dX4_listStuckNets_23 ?_
        refine v_aload_n K 0 rfl rfl dX4_listStuckNets_26 ?_
        refine v_iconst K (v := 2) (by decide) dX4_listStuckNets_27 ?_
        refine v_iload_n K 2 rfl rfl dX4_listStuckNets_28 ?_
        refine v_iconst K (v := 1) (by decide) dX4_listStuckNets_29 ?_
        obtain ⟨r13, u12, e14, hf⟩ := bnd_of hf
        refine v_callNi K (c_X6_faultCode e14) cv_X6_faultCode (List.mem_of_getElem? (i := 8) rfl) ⟨rfl, rfl, Nat.le_of_ble_eq_true rfl, Nat.le_of_ble_eq_true rfl⟩ rfl rfl (Nat.le_of_ble_eq_true rfl) dX4_listStuckNets_30 ?_
        obtain ⟨r16, u15, e17, hf⟩ := bnd_of hf
        refine v_callVv K (c_X4_list h0 e17) cv_X4_list ml_X4_108 (am0_4 h0) h0 kdX4 ⟨rfl, rfl, Nat.le_of_ble_eq_true rfl, Nat.le_of_ble_eq_true rfl⟩ rfl rfl (Nat.le_of_ble_eq_true rfl) dX4_listStuckNets_33 ?_
        exact t_X4_listStuckNets_36 h0 K ih hf
set_option maxRecDepth 20000 in
theorem c_X4_listStuckNets {X : Wx} {N : Nat} {o0 : Nat} {p1 : Int32} (h0 : akd o0 = 4) {u u' : ASt} {r : Unit} (hf : f_X4_listStuckNets N o0 p1 u = some (r, u')) (l : Launch) : Met l yX4_listStuckNets (ws_ yX4_listStuckNets cX4_listStuckNets 3 none) rm_X4_listStuckNets (Pg 0 X u [.ref (X.2.1 o0), .int p1]) (Qg 0 X (none) u') 0 0 (Aw 0 X) := by
  refine v_met (res := (none, u')) (by decide) (Nat.le_of_ble_eq_true rfl) (fun M K => ?_)
  have K : OkM 0 M X cX4_listStuckNets 3 RX4 rm_X4_listStuckNets none := K
  show V 0 M X (none, u') 3 0 [(0, .ref (X.2.1 o0)), (1, .int p1)] [] u
  unfold f_X4_listStuckNets at hf
  refine v_iconst K (v := 0) (by decide) dX4_listStuckNets_0 ?_
  refine v_istore_n K (ls' := [(2, .int 0), (0, .ref (X.2.1 o0)), (1, .int p1)]) rfl (by decide) rfl dX4_listStuckNets_1 ?_
  refine v_sub [1, 2, 0] rfl ?_
  exact t_X4_listStuckNets_2 h0 K N 0 u hf
abbrev rm_X4_listShorts : Room := { frames := 1, cells := 0, slots := 0, locals := 22 }
set_option maxRecDepth 20000 in
theorem t_X4_listShorts_48 {M : Mx} {X : Wx} {N : Nat} {o0 : Nat} {p1 : Int32} {p2 : Int32} (h0 : akd o0 = 4) {r : Unit} {u' : ASt} (K : OkM 0 M X cX4_listShorts 5 RX4 rm_X4_listShorts none) {k2 : Int32 → ASt → Option (Unit × ASt)} (hk2 : ∀ (x3 : Int32) (u : ASt), k2 x3 u = some (r, u') → V 0 M X (none, u') 5 2 [(0, .ref (X.2.1 o0)), (1, .int p1), (2, .int p2), (3, .int x3)] [] u) {k13 : Int32 → Int32 → ASt → Option (Unit × ASt)} (hk13 : ∀ (x3 : Int32) (x4 : Int32) (u : ASt), k13 x3 x4 u = some (r, u') → V 0 M X (none, u') 5 13 [(0, .ref (X.2.1 o0)), (1, .int p1), (2, .int p2), (3, .int x3), (4, .int x4)] [] u) {x3 : Int32} {x4 : Int32} {u : ASt} (hf : f_X4_listShorts_48 N o0 p1 p2 k2 k13 x3 x4 u = some (r, u')) : V 0 M X (none, u') 5 48 [(0, .ref (X.2.1 o0)), (1, .int p1), (2, .int p2), (3, .int x3), (4, .int x4)] [] u := by
  unfold f_X4_listShorts_48 at hf
  refine v_iinc K 4 (v := x4 + 1) (ls' := [(4, .int (x4 + 1)), (0, .ref (X.2.1 o0)), (1, .int p1), (2, .int p2), (3, .int x3)]) rfl rfl (by decide) rfl dX4_listShorts_48 ?_
  refine v_goto K 13 (by decide) dX4_listShorts_51 ?_
  refine v_sub [1, 2, 3, 4, 0] rfl ?_
  exact hk13 x3 (x4 + 1) u hf
set_option maxRecDepth 20000 in
theorem t_X4_listShorts_13 {M : Mx} {X : Wx} {N : Nat} {o0 : Nat} {p1 : Int32} {p2 : Int32} (h0 : akd o0 = 4) {r : Unit} {u' : ASt} (K : OkM 0 M X cX4_listShorts 5 RX4 rm_X4_listShorts none) {k2 : Int32 → ASt → Option (Unit × ASt)} (hk2 : ∀ (x3 : Int32) (u : ASt), k2 x3 u = some (r, u') → V 0 M X (none, u') 5 2 [(0, .ref (X.2.1 o0)), (1, .int p1), (2, .int p2), (3, .int x3)] [] u) : ∀ (n : Nat) (x3 : Int32) (x4 : Int32) (u : ASt), f_X4_listShorts_13 N o0 p1 p2 k2 n x3 x4 u = some (r, u') → V 0 M X (none, u') 5 13 [(0, .ref (X.2.1 o0)), (1, .int p1), (2, .int p2), (3, .int x3), (4, .int x4)] [] u := by
  intro n
  induction n with
  | zero => intro x3 x4 u hf; cases hf
  | succ n ih =>
    intro x3 x4 u hf
    rw [f_X4_listShorts_13] at hf
    refine v_iload K 4 rfl dX4_listShorts_13 ?_
    refine v_bipush K (v := 8) (by decide) dX4_listShorts_15 ?_
    refine v_icmp_ge K 54 (by decide) dX4_listShorts_17 (fun c1 => ?_) (fun c1 => ?_)
    · have hf := ite_t c1 hf
      refine v_iinc K 3 (v := x3 + 1) (ls' := [(3, .int (x3 + 1)), (0, .ref (X.2.1 o0)), (1, .int p1), (2, .int p2), (4, .int x4)]) rfl rfl (by decide) rfl dX4_listShorts_54 ?_
      refine v_goto K 2 (by decide) dX4_listShorts_57 ?_
      refine v_sub [1, 2, 3, 0] rfl ?_
      exact hk2 (x3 + 1) u hf
    · have hf := ite_f c1 hf
      refine v_iload_n K 2 rfl rfl dX4_listShorts_20 ?_
      refine v_iload_n K 3 rfl rfl dX4_listShorts_21 ?_
      obtain ⟨r3, u2, e4, hf⟩ := bnd_of hf
      refine v_callNi K (c_X6_isMember e4) cv_X6_isMember (List.mem_of_getElem? (i := 9) rfl) ⟨rfl, rfl, Nat.le_of_ble_eq_true rfl, Nat.le_of_ble_eq_true rfl⟩ rfl rfl (Nat.le_of_ble_eq_true rfl) dX4_listShorts_22 ?_
      refine v_if_eq K 48 (by decide) dX4_listShorts_25 (fun c5 => ?_) (fun c5 => ?_)
      · have hf := ite_t c5 hf
        exact t_X4_listShorts_48 h0 K hk2 ih hf
      · have hf := ite_f c5 hf
        refine v_iload_n K 2 rfl rfl dX4_listShorts_28 ?_
        refine v_iload K 4 rfl dX4_listShorts_29 ?_
        obtain ⟨r7, u6, e8, hf⟩ := bnd_of hf
        refine v_callNi K (c_X6_isMember e8) cv_X6_isMember (List.mem_of_getElem? (i := 9) rfl) ⟨rfl, rfl, Nat.le_of_ble_eq_true rfl, Nat.le_of_ble_eq_true rfl⟩ rfl rfl (Nat.le_of_ble_eq_true rfl) dX4_listShorts_31 ?_
        refine v_if_eq K 48 (by decide) dX4_listShorts_34 (fun c9 => ?_) (fun c9 => ?_)
        · have hf := ite_t c9 hf
          exact t_X4_listShorts_48 h0 K hk2 ih hf
        · have hf := ite_f c9 hf
          refine v_aload_n K 0 rfl rfl dX4_listShorts_37 ?_
          refine v_iload_n K 1 rfl rfl dX4_listShorts_38 ?_
          refine v_iload_n K 3 rfl rfl dX4_listShorts_39 ?_
          refine v_iload K 4 rfl dX4_listShorts_40 ?_
          obtain ⟨r11, u10, e12, hf⟩ := bnd_of hf
          refine v_callNi K (c_X6_faultCode e12) cv_X6_faultCode (List.mem_of_getElem? (i := 8) rfl) ⟨rfl, rfl, Nat.le_of_ble_eq_true rfl, Nat.le_of_ble_eq_true rfl⟩ rfl rfl (Nat.le_of_ble_eq_true rfl) dX4_listShorts_42 ?_
          obtain ⟨r14, u13, e15, hf⟩ := bnd_of hf
          refine v_callVv K (c_X4_list h0 e15) cv_X4_list ml_X4_108 (am0_4 h0) h0 kdX4 ⟨rfl, rfl, Nat.le_of_ble_eq_true rfl, Nat.le_of_ble_eq_true rfl⟩ rfl rfl (Nat.le_of_ble_eq_true rfl) dX4_listShorts_45 ?_
          exact t_X4_listShorts_48 h0 K hk2 ih hf
set_option maxRecDepth 20000 in
theorem t_X4_listShorts_2 {M : Mx} {X : Wx} {N : Nat} {o0 : Nat} {p1 : Int32} {p2 : Int32} (h0 : akd o0 = 4) {r : Unit} {u' : ASt} (K : OkM 0 M X cX4_listShorts 5 RX4 rm_X4_listShorts none) : ∀ (n : Nat) (x3 : Int32) (u : ASt), f_X4_listShorts_2 N o0 p1 p2 n x3 u = some (r, u') → V 0 M X (none, u') 5 2 [(0, .ref (X.2.1 o0)), (1, .int p1), (2, .int p2), (3, .int x3)] [] u := by
  intro n
  induction n with
  | zero => intro x3 u hf; cases hf
  | succ n ih =>
    intro x3 u hf
    rw [f_X4_listShorts_2] at hf
    refine v_iload_n K 3 rfl rfl dX4_listShorts_2 ?_
    refine v_bipush K (v := 8) (by decide) dX4_listShorts_3 ?_
    refine v_icmp_ge K 60 (by decide) dX4_listShorts_5 (fun c16 => ?_) (fun c16 => ?_)
    · have hf := ite_t c16 hf
      obtain ⟨rfl, rfl⟩ := pair_of hf
      exact v_vret K dX4_listShorts_60
    · have hf := ite_f c16 hf
      refine v_iload_n K 3 rfl rfl dX4_listShorts_8 ?_
      refine v_iconst K (v := 1) (by decide) dX4_listShorts_9 ?_
      refine v_iadd K dX4_listShorts_10 ?_
      refine v_topi (fun z17 ez17 => ?_)
      have hf := lte_of ez17 hf
      refine v_istore K (ls' := [(4, .int z17), (0, .ref (X.2.1 o0)), (1, .int p1), (2, .int p2), (3, .int x3)]) (by decide) rfl dX4_listShorts_11 ?_
      refine v_sub [1, 2, 3, 4, 0] rfl ?_
      exact t_X4_listShorts_13 h0 K ih N x3 z17 u hf
set_option maxRecDepth 20000 in
theorem c_X4_listShorts {X : Wx} {N : Nat} {o0 : Nat} {p1 : Int32} {p2 : Int32} (h0 : akd o0 = 4) {u u' : ASt} {r : Unit} (hf : f_X4_listShorts N o0 p1 p2 u = some (r, u')) (l : Launch) : Met l yX4_listShorts (ws_ yX4_listShorts cX4_listShorts 5 none) rm_X4_listShorts (Pg 0 X u [.ref (X.2.1 o0), .int p1, .int p2]) (Qg 0 X (none) u') 0 0 (Aw 0 X) := by
  refine v_met (res := (none, u')) (by decide) (Nat.le_of_ble_eq_true rfl) (fun M K => ?_)
  have K : OkM 0 M X cX4_listShorts 5 RX4 rm_X4_listShorts none := K
  show V 0 M X (none, u') 5 0 [(0, .ref (X.2.1 o0)), (1, .int p1), (2, .int p2)] [] u
  unfold f_X4_listShorts at hf
  refine v_iconst K (v := 0) (by decide) dX4_listShorts_0 ?_
  refine v_istore_n K (ls' := [(3, .int 0), (0, .ref (X.2.1 o0)), (1, .int p1), (2, .int p2)]) rfl (by decide) rfl dX4_listShorts_1 ?_
  refine v_sub [1, 2, 3, 0] rfl ?_
  exact t_X4_listShorts_2 h0 K N 0 u hf
abbrev rm_X4_listCandidates : Room := { frames := 2, cells := 0, slots := 0, locals := 46 }
set_option maxRecDepth 20000 in
theorem c_X4_listCandidates {X : Wx} {N : Nat} {o0 : Nat} (h0 : akd o0 = 4) {u u' : ASt} {r : Unit} (hf : f_X4_listCandidates N o0 u = some (r, u')) (l : Launch) : Met l yX4_listCandidates (ws_ yX4_listCandidates cX4_listCandidates 2 none) rm_X4_listCandidates (Pg 0 X u [.ref (X.2.1 o0)]) (Qg 0 X (none) u') 0 0 (Aw 0 X) := by
  refine v_met (res := (none, u')) (by decide) (Nat.le_of_ble_eq_true rfl) (fun M K => ?_)
  have K : OkM 0 M X cX4_listCandidates 2 RX4 rm_X4_listCandidates none := K
  show V 0 M X (none, u') 2 0 [(0, .ref (X.2.1 o0))] [] u
  unfold f_X4_listCandidates at hf
  refine v_aload_n K 0 rfl rfl dX4_listCandidates_0 ?_
  refine gf_4_0 K h0 fl_X4_24 dX4_listCandidates_1 ?_
  refine gf_0_5 K (ak_4_0 h0) fl_X4_105 dX4_listCandidates_4 ?_
  refine v_topi (fun z1 ez1 => ?_)
  have hf := lte_of ez1 hf
  refine v_istore_n K (ls' := [(1, .int z1), (0, .ref (X.2.1 o0))]) rfl (by decide) rfl dX4_listCandidates_7 ?_
  refine v_aload_n K 1 rfl rfl dX4_listCandidates_8 ?_
  refine v_iconst K (v := 0) (by decide) dX4_listCandidates_9 ?_
  refine pf_4_6 K h0 fl_X4_102 dX4_listCandidates_10 ?_
  refine v_st (fun u2 eu2 => ?_)
  have hf := lte_of eu2 hf
  refine v_aload_n K 1 rfl rfl dX4_listCandidates_13 ?_
  refine v_iconst K (v := 0) (by decide) dX4_listCandidates_14 ?_
  obtain ⟨r4, u3, e5, hf⟩ := bnd_of hf
  refine v_callVv K (c_X4_list h0 e5) cv_X4_list ml_X4_108 (am0_4 h0) h0 kdX4 ⟨rfl, rfl, Nat.le_of_ble_eq_true rfl, Nat.le_of_ble_eq_true rfl⟩ rfl rfl (Nat.le_of_ble_eq_true rfl) dX4_listCandidates_15 ?_
  refine v_aload_n K 1 rfl rfl dX4_listCandidates_18 ?_
  obtain ⟨r7, u6, e8, hf⟩ := bnd_of hf
  refine v_callVv K (c_X4_listOpenCells h0 e8) cv_X4_listOpenCells ml_X4_111 (am0_4 h0) h0 kdX4 ⟨rfl, rfl, Nat.le_of_ble_eq_true rfl, Nat.le_of_ble_eq_true rfl⟩ rfl rfl (Nat.le_of_ble_eq_true rfl) dX4_listCandidates_19 ?_
  refine v_aload_n K 1 rfl rfl dX4_listCandidates_22 ?_
  refine v_iload_n K 0 rfl rfl dX4_listCandidates_23 ?_
  obtain ⟨r10, u9, e11, hf⟩ := bnd_of hf
  refine v_callVv K (c_X4_listStuckNets h0 e11) cv_X4_listStuckNets ml_X4_114 (am0_4 h0) h0 kdX4 ⟨rfl, rfl, Nat.le_of_ble_eq_true rfl, Nat.le_of_ble_eq_true rfl⟩ rfl rfl (Nat.le_of_ble_eq_true rfl) dX4_listCandidates_24 ?_
  refine v_aload_n K 1 rfl rfl dX4_listCandidates_27 ?_
  refine v_iconst K (v := 3) (by decide) dX4_listCandidates_28 ?_
  refine v_iload_n K 0 rfl rfl dX4_listCandidates_29 ?_
  obtain ⟨r13, u12, e14, hf⟩ := bnd_of hf
  refine v_callVv K (c_X4_listShorts h0 e14) cv_X4_listShorts ml_X4_117 (am0_4 h0) h0 kdX4 ⟨rfl, rfl, Nat.le_of_ble_eq_true rfl, Nat.le_of_ble_eq_true rfl⟩ rfl rfl (Nat.le_of_ble_eq_true rfl) dX4_listCandidates_30 ?_
  refine v_aload_n K 1 rfl rfl dX4_listCandidates_33 ?_
  refine v_iconst K (v := 4) (by decide) dX4_listCandidates_34 ?_
  refine v_iload_n K 0 rfl rfl dX4_listCandidates_35 ?_
  obtain ⟨r16, u15, e17, hf⟩ := bnd_of hf
  refine v_callVv K (c_X4_listShorts h0 e17) cv_X4_listShorts ml_X4_117 (am0_4 h0) h0 kdX4 ⟨rfl, rfl, Nat.le_of_ble_eq_true rfl, Nat.le_of_ble_eq_true rfl⟩ rfl rfl (Nat.le_of_ble_eq_true rfl) dX4_listCandidates_36 ?_
  obtain ⟨rfl, rfl⟩ := pair_of hf
  exact v_vret K dX4_listCandidates_39
abbrev rm_X4_findSuspects : Room := { frames := 4, cells := 0, slots := 0, locals := 95 }
set_option maxRecDepth 20000 in
theorem t_X4_findSuspects_53 {M : Mx} {X : Wx} {N : Nat} {o0 : Nat} {p1 : Int32} (h0 : akd o0 = 4) {r : Int32} {u' : ASt} (K : OkM 0 M X cX4_findSuspects 4 RX4 rm_X4_findSuspects (some .int)) {k17 : Int32 → Int32 → ASt → Option (Int32 × ASt)} (hk17 : ∀ (x2 : Int32) (x3 : Int32) (u : ASt), k17 x2 x3 u = some (r, u') → V 0 M X (some (.int r), u') 4 17 [(0, .ref (X.2.1 o0)), (2, .int x2), (3, .int x3)] [] u) {x2 : Int32} {x3 : Int32} {u : ASt} (hf : f_X4_findSuspects_53 N o0 p1 k17 x2 x3 u = some (r, u')) : V 0 M X (some (.int r), u') 4 53 [(0, .ref (X.2.1 o0)), (2, .int x2), (3, .int x3)] [] u := by
  unfold f_X4_findSuspects_53 at hf
  refine v_iinc K 2 (v := x3 + 1) (ls' := [(3, .int (x3 + 1)), (0, .ref (X.2.1 o0)), (2, .int x2)]) rfl rfl (by decide) rfl dX4_findSuspects_53 ?_
  refine v_goto K 17 (by decide) dX4_findSuspects_56 ?_
  refine v_sub [1, 2, 0] rfl ?_
  exact hk17 x2 (x3 + 1) u hf
set_option maxRecDepth 20000 in
theorem t_X4_findSuspects_17 {M : Mx} {X : Wx} {N : Nat} {o0 : Nat} {p1 : Int32} (h0 : akd o0 = 4) {r : Int32} {u' : ASt} (K : OkM 0 M X cX4_findSuspects 4 RX4 rm_X4_findSuspects (some .int)) : ∀ (n : Nat) (x2 : Int32) (x3 : Int32) (u : ASt), f_X4_findSuspects_17 N o0 p1 n x2 x3 u = some (r, u') → V 0 M X (some (.int r), u') 4 17 [(0, .ref (X.2.1 o0)), (2, .int x2), (3, .int x3)] [] u := by
  intro n
  induction n with
  | zero => intro x2 x3 u hf; cases hf
  | succ n ih =>
    intro x2 x3 u hf
    rw [f_X4_findSuspects_17] at hf
    refine v_iload_n K 2 rfl rfl dX4_findSuspects_17 ?_
    refine v_aload_n K 0 rfl rfl dX4_findSuspects_18 ?_
    refine gf_4_6 K h0 fl_X4_102 dX4_findSuspects_19 ?_
    refine v_icmp_ge K 59 (by decide) dX4_findSuspects_22 (fun c1 => ?_) (fun c1 => ?_)
    · have hf := ite_t c1 hf
      refine v_iload_n K 1 rfl rfl dX4_findSuspects_59 ?_
      obtain ⟨rfl, rfl⟩ := pair_of hf
      exact v_iret K dX4_findSuspects_60
    · have hf := ite_f c1 hf
      refine v_aload_n K 0 rfl rfl dX4_findSuspects_25 ?_
      refine v_aload_n K 0 rfl rfl dX4_findSuspects_26 ?_
      refine gf_4_5 K h0 fl_X4_21 dX4_findSuspects_27 ?_
      refine v_iload_n K 2 rfl rfl dX4_findSuspects_30 ?_
      obtain ⟨g2, hf⟩ := chk_of hf
      refine v_iald K (am0_9 (ak_4_5 h0)) (.inl (ak_4_5 h0)) g2 dX4_findSuspects_31 ?_
      obtain ⟨r4, u3, e5, hf⟩ := bnd_of hf
      refine v_callVi K (c_X4_explains h0 e5) cv_X4_explains ml_X4_96 (am0_4 h0) h0 kdX4 ⟨rfl, rfl, Nat.le_of_ble_eq_true rfl, Nat.le_of_ble_eq_true rfl⟩ rfl rfl (Nat.le_of_ble_eq_true rfl) dX4_findSuspects_32 ?_
      refine v_if_eq K 53 (by decide) dX4_findSuspects_35 (fun c6 => ?_) (fun c6 => ?_)
      · have hf := ite_t c6 hf
        exact t_X4_findSuspects_53 h0 K ih hf
      · have hf := ite_f c6 hf
        refine v_aload_n K 0 rfl rfl dX4_findSuspects_38 ?_
        refine gf_4_5 K h0 fl_X4_21 dX4_findSuspects_39 ?_
        refine v_iload_n K 1 rfl rfl dX4_findSuspects_42 ?_
        refine v_aload_n K 0 rfl rfl dX4_findSuspects_43 ?_
        refine gf_4_5 K h0 fl_X4_21 dX4_findSuspects_44 ?_
        refine v_iload_n K 2 rfl rfl dX4_findSuspects_47 ?_
        obtain ⟨g7, hf⟩ := chk_of hf
        refine v_iald K (am0_9 (ak_4_5 h0)) (.inl (ak_4_5 h0)) g7 dX4_findSuspects_48 ?_
        obtain ⟨g8, hf⟩ := chk_of hf
        refine v_iast K (am0_9 (ak_4_5 h0)) (.inl (ak_4_5 h0)) g8 dX4_findSuspects_49 ?_
        refine v_st (fun u9 eu9 => ?_)
        have hf := lte_of eu9 hf
        refine v_iinc K 1 (v := x2 + 1) (ls' := [(2, .int (x2 + 1)), (0, .ref (X.2.1 o0)), (3, .int x3)]) rfl rfl (by decide) rfl dX4_findSuspects_50 ?_
        refine v_sub [1, 0, 2] rfl ?_
        exact t_X4_findSuspects_53 h0 K ih hf
set_option maxRecDepth 20000 in
theorem c_X4_findSuspects {X : Wx} {N : Nat} {o0 : Nat} {p1 : Int32} (h0 : akd o0 = 4) {u u' : ASt} {r : Int32} (hf : f_X4_findSuspects N o0 p1 u = some (r, u')) (l : Launch) : Met l yX4_findSuspects (ws_ yX4_findSuspects cX4_findSuspects 4 (some .int)) rm_X4_findSuspects (Pg 0 X u [.ref (X.2.1 o0), .int p1]) (Qg 0 X (some (.int r)) u') 0 0 (Aw 0 X) := by
  refine v_met (res := (some (.int r), u')) (by decide) (Nat.le_of_ble_eq_true rfl) (fun M K => ?_)
  have K : OkM 0 M X cX4_findSuspects 4 RX4 rm_X4_findSuspects (some .int) := K
  show V 0 M X (some (.int r), u') 4 0 [(0, .ref (X.2.1 o0)), (1, .int p1)] [] u
  unfold f_X4_findSuspects at hf
  refine v_aload_n K 0 rfl rfl dX4_findSuspects_0 ?_
  refine v_iload_n K 1 rfl rfl dX4_findSuspects_1 ?_
  obtain ⟨r11, u10, e12, hf⟩ := bnd_of hf
  refine v_callVv K (c_X4_prepare h0 e12) cv_X4_prepare ml_X4_59 (am0_4 h0) h0 kdX4 ⟨rfl, rfl, Nat.le_of_ble_eq_true rfl, Nat.le_of_ble_eq_true rfl⟩ rfl rfl (Nat.le_of_ble_eq_true rfl) dX4_findSuspects_2 ?_
  refine v_aload_n K 0 rfl rfl dX4_findSuspects_5 ?_
  obtain ⟨r14, u13, e15, hf⟩ := bnd_of hf
  refine v_callVv K (c_X4_noteAnswers h0 e15) cv_X4_noteAnswers ml_X4_93 (am0_4 h0) h0 kdX4 ⟨rfl, rfl, Nat.le_of_ble_eq_true rfl, Nat.le_of_ble_eq_true rfl⟩ rfl rfl (Nat.le_of_ble_eq_true rfl) dX4_findSuspects_6 ?_
  refine v_aload_n K 0 rfl rfl dX4_findSuspects_9 ?_
  obtain ⟨r17, u16, e18, hf⟩ := bnd_of hf
  refine v_callVv K (c_X4_listCandidates h0 e18) cv_X4_listCandidates ml_X4_99 (am0_4 h0) h0 kdX4 ⟨rfl, rfl, Nat.le_of_ble_eq_true rfl, Nat.le_of_ble_eq_true rfl⟩ rfl rfl (Nat.le_of_ble_eq_true rfl) dX4_findSuspects_10 ?_
  refine v_iconst K (v := 0) (by decide) dX4_findSuspects_13 ?_
  refine v_istore_n K (ls' := [(2, .int 0), (0, .ref (X.2.1 o0)), (1, .int p1)]) rfl (by decide) rfl dX4_findSuspects_14 ?_
  refine v_iconst K (v := 0) (by decide) dX4_findSuspects_15 ?_
  refine v_istore_n K (ls' := [(3, .int 0), (2, .int 0), (0, .ref (X.2.1 o0)), (1, .int p1)]) rfl (by decide) rfl dX4_findSuspects_16 ?_
  refine v_sub [2, 1, 0] rfl ?_
  exact t_X4_findSuspects_17 h0 K N 0 0 u16 hf
abbrev rm_X5_append : Room := { frames := 0, cells := 0, slots := 0, locals := 0 }
set_option maxRecDepth 20000 in
theorem t_X5_append_10 {M : Mx} {X : Wx} {N : Nat} {o0 : Nat} {p1 : Int32} (h0 : akd o0 = 5) {r : Int32} {u' : ASt} (K : OkM 0 M X cX5_append 2 RX5 rm_X5_append (some .int)) {u : ASt} (hf : f_X5_append_10 N o0 p1  u = some (r, u')) : V 0 M X (some (.int r), u') 2 10 [] [] u := by
  unfold f_X5_append_10 at hf
  refine v_bipush K (v := (-2)) (by decide) dX5_append_10 ?_
  obtain ⟨rfl, rfl⟩ := pair_of hf
  exact v_iret K dX5_append_12
set_option maxRecDepth 20000 in
theorem c_X5_append {X : Wx} {N : Nat} {o0 : Nat} {p1 : Int32} (h0 : akd o0 = 5) {u u' : ASt} {r : Int32} (hf : f_X5_append N o0 p1 u = some (r, u')) (l : Launch) : Met l yX5_append (ws_ yX5_append cX5_append 2 (some .int)) rm_X5_append (Pg 0 X u [.ref (X.2.1 o0), .int p1]) (Qg 0 X (some (.int r)) u') 0 0 (Aw 0 X) := by
  refine v_met (res := (some (.int r), u')) (by decide) (Nat.le_of_ble_eq_true rfl) (fun M K => ?_)
  have K : OkM 0 M X cX5_append 2 RX5 rm_X5_append (some .int) := K
  show V 0 M X (some (.int r), u') 2 0 [(0, .ref (X.2.1 o0)), (1, .int p1)] [] u
  unfold f_X5_append at hf
  refine v_iload_n K 1 rfl rfl dX5_append_0 ?_
  refine v_if_lt K 10 (by decide) dX5_append_1 (fun c1 => ?_) (fun c1 => ?_)
  · have hf := ite_t c1 hf
    refine v_sub [] rfl ?_
    exact t_X5_append_10 h0 K hf
  · have hf := ite_f c1 hf
    refine v_iload_n K 1 rfl rfl dX5_append_4 ?_
    refine v_bipush K (v := 127) (by decide) dX5_append_5 ?_
    refine v_icmp_le K 13 (by decide) dX5_append_7 (fun c2 => ?_) (fun c2 => ?_)
    · have hf := ite_t c2 hf
      refine v_aload_n K 0 rfl rfl dX5_append_13 ?_
      refine gf_5_1 K h0 fl_X5_22 dX5_append_14 ?_
      refine v_bipush K (v := 120) (by decide) dX5_append_17 ?_
      refine v_icmp_lt K 25 (by decide) dX5_append_19 (fun c3 => ?_) (fun c3 => ?_)
      · have hf := ite_t c3 hf
        refine v_aload_n K 0 rfl rfl dX5_append_25 ?_
        refine gf_5_0 K h0 fl_X5_9 dX5_append_26 ?_
        refine v_aload_n K 0 rfl rfl dX5_append_29 ?_
        refine gf_5_1 K h0 fl_X5_22 dX5_append_30 ?_
        refine v_iload_n K 1 rfl rfl dX5_append_33 ?_
        refine v_i2b K dX5_append_34 ?_
        obtain ⟨g4, hf⟩ := chk_of hf
        refine v_bast K (am0_8 (ak_5_0 h0)) (ak_5_0 h0) g4 dX5_append_35 ?_
        refine v_st (fun u5 eu5 => ?_)
        have hf := lte_of eu5 hf
        refine v_aload_n K 0 rfl rfl dX5_append_36 ?_
        refine v_dup K rfl dX5_append_37 ?_
        refine gf_5_1 K h0 fl_X5_22 dX5_append_38 ?_
        refine v_iconst K (v := 1) (by decide) dX5_append_41 ?_
        refine v_iadd K dX5_append_42 ?_
        refine pf_5_1 K h0 fl_X5_22 dX5_append_43 ?_
        refine v_st (fun u6 eu6 => ?_)
        have hf := lte_of eu6 hf
        refine v_aload_n K 0 rfl rfl dX5_append_46 ?_
        refine gf_5_1 K h0 fl_X5_22 dX5_append_47 ?_
        obtain ⟨rfl, rfl⟩ := pair_of hf
        exact v_iret K dX5_append_50
      · have hf := ite_f c3 hf
        refine v_bipush K (v := (-4)) (by decide) dX5_append_22 ?_
        obtain ⟨rfl, rfl⟩ := pair_of hf
        exact v_iret K dX5_append_24
    · have hf := ite_f c2 hf
      refine v_sub [] rfl ?_
      exact t_X5_append_10 h0 K hf
abbrev rm_X5_drop : Room := { frames := 0, cells := 0, slots := 0, locals := 0 }
set_option maxRecDepth 20000 in
theorem c_X5_drop {X : Wx} {N : Nat} {o0 : Nat} (h0 : akd o0 = 5) {u u' : ASt} {r : Int32} (hf : f_X5_drop N o0 u = some (r, u')) (l : Launch) : Met l yX5_drop (ws_ yX5_drop cX5_drop 2 (some .int)) rm_X5_drop (Pg 0 X u [.ref (X.2.1 o0)]) (Qg 0 X (some (.int r)) u') 0 0 (Aw 0 X) := by
  refine v_met (res := (some (.int r), u')) (by decide) (Nat.le_of_ble_eq_true rfl) (fun M K => ?_)
  have K : OkM 0 M X cX5_drop 2 RX5 rm_X5_drop (some .int) := K
  show V 0 M X (some (.int r), u') 2 0 [(0, .ref (X.2.1 o0))] [] u
  unfold f_X5_drop at hf
  refine v_aload_n K 0 rfl rfl dX5_drop_0 ?_
  refine gf_5_1 K h0 fl_X5_22 dX5_drop_1 ?_
  refine v_topi (fun z1 ez1 => ?_)
  have hf := lte_of ez1 hf
  refine v_istore_n K (ls' := [(1, .int z1), (0, .ref (X.2.1 o0))]) rfl (by decide) rfl dX5_drop_4 ?_
  refine v_aload_n K 1 rfl rfl dX5_drop_5 ?_
  refine v_iconst K (v := 0) (by decide) dX5_drop_6 ?_
  refine pf_5_1 K h0 fl_X5_22 dX5_drop_7 ?_
  refine v_st (fun u2 eu2 => ?_)
  have hf := lte_of eu2 hf
  refine v_iload_n K 0 rfl rfl dX5_drop_10 ?_
  obtain ⟨rfl, rfl⟩ := pair_of hf
  exact v_iret K dX5_drop_11
abbrev rm_X5_numbersOf : Room := { frames := 0, cells := 0, slots := 0, locals := 0 }
set_option maxRecDepth 20000 in
theorem c_X5_numbersOf {X : Wx} {N : Nat} {p1 : Int32} {u u' : ASt} {r : Int32} (hf : f_X5_numbersOf N p1 u = some (r, u')) (l : Launch) : Met l yX5_numbersOf (ws_ yX5_numbersOf cX5_numbersOf 1 (some .int)) rm_X5_numbersOf (Pg 0 X u [.int p1]) (Qg 0 X (some (.int r)) u') 0 0 (Aw 0 X) := by
  refine v_met (res := (some (.int r), u')) (by decide) (Nat.le_of_ble_eq_true rfl) (fun M K => ?_)
  have K : OkM 0 M X cX5_numbersOf 1 RX5 rm_X5_numbersOf (some .int) := K
  show V 0 M X (some (.int r), u') 1 0 [(0, .int p1)] [] u
  unfold f_X5_numbersOf at hf
  refine v_iload_n K 0 rfl rfl dX5_numbersOf_0 ?_
  by_cases c1 : p1 = 99
  · have hf := ite_t c1 hf
    refine v_tabK K 94 c1 (a := 99) (by decide) (by decide) (by decide) rfl (by decide) dX5_numbersOf_1 ?_
    refine v_iconst K (v := 2) (by decide) dX5_numbersOf_94 ?_
    obtain ⟨rfl, rfl⟩ := pair_of hf
    exact v_iret K dX5_numbersOf_95
  have hf := ite_f c1 hf
  by_cases c2 : p1 = 104
  · have hf := ite_t c2 hf
    refine v_tabK K 92 c2 (a := 104) (by decide) (by decide) (by decide) rfl (by decide) dX5_numbersOf_1 ?_
    refine v_iconst K (v := 0) (by decide) dX5_numbersOf_92 ?_
    obtain ⟨rfl, rfl⟩ := pair_of hf
    exact v_iret K dX5_numbersOf_93
  have hf := ite_f c2 hf
  by_cases c3 : p1 = 107
  · have hf := ite_t c3 hf
    refine v_tabK K 94 c3 (a := 107) (by decide) (by decide) (by decide) rfl (by decide) dX5_numbersOf_1 ?_
    refine v_iconst K (v := 2) (by decide) dX5_numbersOf_94 ?_
    obtain ⟨rfl, rfl⟩ := pair_of hf
    exact v_iret K dX5_numbersOf_95
  have hf := ite_f c3 hf
  by_cases c4 : p1 = 111
  · have hf := ite_t c4 hf
    refine v_tabK K 94 c4 (a := 111) (by decide) (by decide) (by decide) rfl (by decide) dX5_numbersOf_1 ?_
    refine v_iconst K (v := 2) (by decide) dX5_numbersOf_94 ?_
    obtain ⟨rfl, rfl⟩ := pair_of hf
    exact v_iret K dX5_numbersOf_95
  have hf := ite_f c4 hf
  by_cases c5 : p1 = 112
  · have hf := ite_t c5 hf
    refine v_tabK K 96 c5 (a := 112) (by decide) (by decide) (by decide) rfl (by decide) dX5_numbersOf_1 ?_
    refine v_iconst K (v := 3) (by decide) dX5_numbersOf_96 ?_
    obtain ⟨rfl, rfl⟩ := pair_of hf
    exact v_iret K dX5_numbersOf_97
  have hf := ite_f c5 hf
  by_cases c6 : p1 = 115
  · have hf := ite_t c6 hf
    refine v_tabK K 96 c6 (a := 115) (by decide) (by decide) (by decide) rfl (by decide) dX5_numbersOf_1 ?_
    refine v_iconst K (v := 3) (by decide) dX5_numbersOf_96 ?_
    obtain ⟨rfl, rfl⟩ := pair_of hf
    exact v_iret K dX5_numbersOf_97
  have hf := ite_f c6 hf
  by_cases c7 : p1 = 117
  · have hf := ite_t c7 hf
    refine v_tabK K 94 c7 (a := 117) (by decide) (by decide) (by decide) rfl (by decide) dX5_numbersOf_1 ?_
    refine v_iconst K (v := 2) (by decide) dX5_numbersOf_94 ?_
    obtain ⟨rfl, rfl⟩ := pair_of hf
    exact v_iret K dX5_numbersOf_95
  have hf := ite_f c7 hf
  refine v_tabD K 98 (keys := [99, 104, 107, 111, 112, 115, 117]) (by decide) (by decide) (List.forall_mem_cons.mpr ⟨lv_neT c1 (by decide), (List.forall_mem_cons.mpr ⟨lv_neT c2 (by decide), (List.forall_mem_cons.mpr ⟨lv_neT c3 (by decide), (List.forall_mem_cons.mpr ⟨lv_neT c4 (by decide), (List.forall_mem_cons.mpr ⟨lv_neT c5 (by decide), (List.forall_mem_cons.mpr ⟨lv_neT c6 (by decide), (List.forall_mem_cons.mpr ⟨lv_neT c7 (by decide), (fun _ h => absurd h List.not_mem_nil)⟩)⟩)⟩)⟩)⟩)⟩)⟩) (by decide) dX5_numbersOf_1 ?_
  refine v_iconst K (v := (-1)) (by decide) dX5_numbersOf_98 ?_
  obtain ⟨rfl, rfl⟩ := pair_of hf
  exact v_iret K dX5_numbersOf_99
abbrev rm_X5_takesLetter : Room := { frames := 1, cells := 0, slots := 0, locals := 20 }
set_option maxRecDepth 20000 in
theorem t_X5_takesLetter_40 {M : Mx} {X : Wx} {N : Nat} {o0 : Nat} {p1 : Int32} (h0 : akd o0 = 5) {r : Int32} {u' : ASt} (K : OkM 0 M X cX5_takesLetter 3 RX5 rm_X5_takesLetter (some .boolean)) : ∀ (n : Nat) (x2 : Int32) (u : ASt), f_X5_takesLetter_40 N o0 p1 n x2 u = some (r, u') → V 0 M X (some (.int r), u') 3 40 [(0, .ref (X.2.1 o0)), (2, .int x2)] [] u := by
  intro n
  induction n with
  | zero => intro x2 u hf; cases hf
  | succ n ih =>
    intro x2 u hf
    rw [f_X5_takesLetter_40] at hf
    refine v_iload_n K 1 rfl rfl dX5_takesLetter_40 ?_
    refine v_iconst K (v := 3) (by decide) dX5_takesLetter_41 ?_
    refine v_icmp_ge K 65 (by decide) dX5_takesLetter_42 (fun c1 => ?_) (fun c1 => ?_)
    · have hf := ite_t c1 hf
      refine v_aload_n K 0 rfl rfl dX5_takesLetter_65 ?_
      refine v_iconst K (v := 1) (by decide) dX5_takesLetter_66 ?_
      refine pf_5_5 K h0 (by decide) fl_X5_29 dX5_takesLetter_67 ?_
      refine v_st (fun u2 eu2 => ?_)
      have hf := lte_of eu2 hf
      refine v_aload_n K 0 rfl rfl dX5_takesLetter_70 ?_
      refine v_iconst K (v := 0) (by decide) dX5_takesLetter_71 ?_
      refine pf_5_7 K h0 fl_X5_57 dX5_takesLetter_72 ?_
      refine v_st (fun u3 eu3 => ?_)
      have hf := lte_of eu3 hf
      refine v_aload_n K 0 rfl rfl dX5_takesLetter_75 ?_
      refine v_iconst K (v := 0) (by decide) dX5_takesLetter_76 ?_
      refine pf_5_8 K h0 fl_X5_37 dX5_takesLetter_77 ?_
      refine v_st (fun u4 eu4 => ?_)
      have hf := lte_of eu4 hf
      refine v_iconst K (v := 1) (by decide) dX5_takesLetter_80 ?_
      obtain ⟨rfl, rfl⟩ := pair_of hf
      exact v_zret K (by decide) dX5_takesLetter_81
    · have hf := ite_f c1 hf
      refine v_aload_n K 0 rfl rfl dX5_takesLetter_45 ?_
      refine gf_5_3 K h0 fl_X5_18 dX5_takesLetter_46 ?_
      refine v_aload_n K 0 rfl rfl dX5_takesLetter_49 ?_
      refine gf_5_4 K h0 fl_X5_26 dX5_takesLetter_50 ?_
      refine v_iconst K (v := 3) (by decide) dX5_takesLetter_53 ?_
      refine v_imul K dX5_takesLetter_54 ?_
      refine v_iload_n K 1 rfl rfl dX5_takesLetter_55 ?_
      refine v_iadd K dX5_takesLetter_56 ?_
      refine v_iconst K (v := 0) (by decide) dX5_takesLetter_57 ?_
      obtain ⟨g5, hf⟩ := chk_of hf
      refine v_iast K (am0_9 (ak_5_3 h0)) (.inl (ak_5_3 h0)) g5 dX5_takesLetter_58 ?_
      refine v_st (fun u6 eu6 => ?_)
      have hf := lte_of eu6 hf
      refine v_iinc K 1 (v := x2 + 1) (ls' := [(2, .int (x2 + 1)), (0, .ref (X.2.1 o0))]) rfl rfl (by decide) rfl dX5_takesLetter_59 ?_
      refine v_goto K 40 (by decide) dX5_takesLetter_62 ?_
      refine v_sub [1, 0] rfl ?_
      exact ih (x2 + 1) u6 hf
set_option maxRecDepth 20000 in
theorem t_X5_takesLetter_25 {M : Mx} {X : Wx} {N : Nat} {o0 : Nat} {p1 : Int32} (h0 : akd o0 = 5) {r : Int32} {u' : ASt} (K : OkM 0 M X cX5_takesLetter 3 RX5 rm_X5_takesLetter (some .boolean)) {u : ASt} (hf : f_X5_takesLetter_25 N o0 p1  u = some (r, u')) : V 0 M X (some (.int r), u') 3 25 [] [] u := by
  unfold f_X5_takesLetter_25 at hf
  refine v_iconst K (v := 0) (by decide) dX5_takesLetter_25 ?_
  obtain ⟨rfl, rfl⟩ := pair_of hf
  exact v_zret K (by decide) dX5_takesLetter_26
set_option maxRecDepth 20000 in
theorem c_X5_takesLetter {X : Wx} {N : Nat} {o0 : Nat} {p1 : Int32} (h0 : akd o0 = 5) {u u' : ASt} {r : Int32} (hf : f_X5_takesLetter N o0 p1 u = some (r, u')) (l : Launch) : Met l yX5_takesLetter (ws_ yX5_takesLetter cX5_takesLetter 3 (some .boolean)) rm_X5_takesLetter (Pg 0 X u [.ref (X.2.1 o0), .int p1]) (Qg 0 X (some (.int r)) u') 0 0 (Aw 0 X) := by
  refine v_met (res := (some (.int r), u')) (by decide) (Nat.le_of_ble_eq_true rfl) (fun M K => ?_)
  have K : OkM 0 M X cX5_takesLetter 3 RX5 rm_X5_takesLetter (some .boolean) := K
  show V 0 M X (some (.int r), u') 3 0 [(0, .ref (X.2.1 o0)), (1, .int p1)] [] u
  unfold f_X5_takesLetter at hf
  refine v_aload_n K 0 rfl rfl dX5_takesLetter_0 ?_
  refine v_iload_n K 1 rfl rfl dX5_takesLetter_1 ?_
  obtain ⟨r8, u7, e9, hf⟩ := bnd_of hf
  refine v_callSi K (c_X5_numbersOf e9) cv_X5_numbersOf ml_X5_50 ⟨rfl, rfl, Nat.le_of_ble_eq_true rfl, Nat.le_of_ble_eq_true rfl⟩ rfl rfl (Nat.le_of_ble_eq_true rfl) dX5_takesLetter_2 ?_
  refine pf_5_6 K h0 fl_X5_54 dX5_takesLetter_5 ?_
  refine v_st (fun u10 eu10 => ?_)
  have hf := lte_of eu10 hf
  refine v_aload_n K 0 rfl rfl dX5_takesLetter_8 ?_
  refine gf_5_6 K h0 fl_X5_54 dX5_takesLetter_9 ?_
  refine v_iconst K (v := (-1)) (by decide) dX5_takesLetter_12 ?_
  refine v_icmp_eq K 25 (by decide) dX5_takesLetter_13 (fun c11 => ?_) (fun c11 => ?_)
  · have hf := ite_t c11 hf
    refine v_sub [] rfl ?_
    exact t_X5_takesLetter_25 h0 K hf
  · have hf := ite_f c11 hf
    refine v_aload_n K 0 rfl rfl dX5_takesLetter_16 ?_
    refine gf_5_4 K h0 fl_X5_26 dX5_takesLetter_17 ?_
    refine v_bipush K (v := 60) (by decide) dX5_takesLetter_20 ?_
    refine v_icmp_lt K 27 (by decide) dX5_takesLetter_22 (fun c12 => ?_) (fun c12 => ?_)
    · have hf := ite_t c12 hf
      refine v_aload_n K 0 rfl rfl dX5_takesLetter_27 ?_
      refine gf_5_2 K h0 fl_X5_15 dX5_takesLetter_28 ?_
      refine v_aload_n K 0 rfl rfl dX5_takesLetter_31 ?_
      refine gf_5_4 K h0 fl_X5_26 dX5_takesLetter_32 ?_
      refine v_iload_n K 1 rfl rfl dX5_takesLetter_35 ?_
      refine v_i2b K dX5_takesLetter_36 ?_
      obtain ⟨g13, hf⟩ := chk_of hf
      refine v_bast K (am0_8 (ak_5_2 h0)) (ak_5_2 h0) g13 dX5_takesLetter_37 ?_
      refine v_st (fun u14 eu14 => ?_)
      have hf := lte_of eu14 hf
      refine v_iconst K (v := 0) (by decide) dX5_takesLetter_38 ?_
      refine v_istore_n K (ls' := [(2, .int 0), (0, .ref (X.2.1 o0)), (1, .int p1)]) rfl (by decide) rfl dX5_takesLetter_39 ?_
      refine v_sub [1, 0] rfl ?_
      exact t_X5_takesLetter_40 h0 K N 0 u14 hf
    · have hf := ite_f c12 hf
      refine v_sub [] rfl ?_
      exact t_X5_takesLetter_25 h0 K hf
abbrev rm_X5_takesEnd : Room := { frames := 0, cells := 0, slots := 0, locals := 0 }
set_option maxRecDepth 20000 in
theorem c_X5_takesEnd {X : Wx} {N : Nat} {o0 : Nat} (h0 : akd o0 = 5) {u u' : ASt} {r : Int32} (hf : f_X5_takesEnd N o0 u = some (r, u')) (l : Launch) : Met l yX5_takesEnd (ws_ yX5_takesEnd cX5_takesEnd 1 (some .boolean)) rm_X5_takesEnd (Pg 0 X u [.ref (X.2.1 o0)]) (Qg 0 X (some (.int r)) u') 0 0 (Aw 0 X) := by
  refine v_met (res := (some (.int r), u')) (by decide) (Nat.le_of_ble_eq_true rfl) (fun M K => ?_)
  have K : OkM 0 M X cX5_takesEnd 1 RX5 rm_X5_takesEnd (some .boolean) := K
  show V 0 M X (some (.int r), u') 1 0 [(0, .ref (X.2.1 o0))] [] u
  unfold f_X5_takesEnd at hf
  refine v_aload_n K 0 rfl rfl dX5_takesEnd_0 ?_
  refine gf_5_7 K h0 fl_X5_57 dX5_takesEnd_1 ?_
  refine v_aload_n K 0 rfl rfl dX5_takesEnd_4 ?_
  refine gf_5_6 K h0 fl_X5_54 dX5_takesEnd_5 ?_
  refine v_icmp_eq K 13 (by decide) dX5_takesEnd_8 (fun c1 => ?_) (fun c1 => ?_)
  · have hf := ite_t c1 hf
    refine v_aload_n K 0 rfl rfl dX5_takesEnd_13 ?_
    refine v_dup K rfl dX5_takesEnd_14 ?_
    refine gf_5_4 K h0 fl_X5_26 dX5_takesEnd_15 ?_
    refine v_iconst K (v := 1) (by decide) dX5_takesEnd_18 ?_
    refine v_iadd K dX5_takesEnd_19 ?_
    refine pf_5_4 K h0 fl_X5_26 dX5_takesEnd_20 ?_
    refine v_st (fun u2 eu2 => ?_)
    have hf := lte_of eu2 hf
    refine v_aload_n K 0 rfl rfl dX5_takesEnd_23 ?_
    refine v_iconst K (v := 0) (by decide) dX5_takesEnd_24 ?_
    refine pf_5_5 K h0 (by decide) fl_X5_29 dX5_takesEnd_25 ?_
    refine v_st (fun u3 eu3 => ?_)
    have hf := lte_of eu3 hf
    refine v_iconst K (v := 1) (by decide) dX5_takesEnd_28 ?_
    obtain ⟨rfl, rfl⟩ := pair_of hf
    exact v_zret K (by decide) dX5_takesEnd_29
  · have hf := ite_f c1 hf
    refine v_iconst K (v := 0) (by decide) dX5_takesEnd_11 ?_
    obtain ⟨rfl, rfl⟩ := pair_of hf
    exact v_zret K (by decide) dX5_takesEnd_12
abbrev rm_X5_takesDigit : Room := { frames := 0, cells := 0, slots := 0, locals := 0 }
set_option maxRecDepth 20000 in
theorem t_X5_takesDigit_43 {M : Mx} {X : Wx} {N : Nat} {o0 : Nat} {p1 : Int32} (h0 : akd o0 = 5) {r : Int32} {u' : ASt} (K : OkM 0 M X cX5_takesDigit 3 RX5 rm_X5_takesDigit (some .boolean)) {u : ASt} (hf : f_X5_takesDigit_43 N o0 p1  u = some (r, u')) : V 0 M X (some (.int r), u') 3 43 [(0, .ref (X.2.1 o0)), (1, .int p1)] [] u := by
  unfold f_X5_takesDigit_43 at hf
  refine v_aload_n K 0 rfl rfl dX5_takesDigit_43 ?_
  refine gf_5_4 K h0 fl_X5_26 dX5_takesDigit_44 ?_
  refine v_iconst K (v := 3) (by decide) dX5_takesDigit_47 ?_
  refine v_imul K dX5_takesDigit_48 ?_
  refine v_aload_n K 0 rfl rfl dX5_takesDigit_49 ?_
  refine gf_5_7 K h0 fl_X5_57 dX5_takesDigit_50 ?_
  refine v_iadd K dX5_takesDigit_53 ?_
  refine v_iconst K (v := 1) (by decide) dX5_takesDigit_54 ?_
  refine v_isub K dX5_takesDigit_55 ?_
  refine v_topi (fun z1 ez1 => ?_)
  have hf := lte_of ez1 hf
  refine v_istore_n K (ls' := [(2, .int z1), (0, .ref (X.2.1 o0)), (1, .int p1)]) rfl (by decide) rfl dX5_takesDigit_56 ?_
  refine v_aload_n K 1 rfl rfl dX5_takesDigit_57 ?_
  refine gf_5_3 K h0 fl_X5_18 dX5_takesDigit_58 ?_
  refine v_iload_n K 0 rfl rfl dX5_takesDigit_61 ?_
  refine v_bipush K (v := 10) (by decide) dX5_takesDigit_62 ?_
  refine v_aload_n K 1 rfl rfl dX5_takesDigit_64 ?_
  refine gf_5_3 K h0 fl_X5_18 dX5_takesDigit_65 ?_
  refine v_iload_n K 0 rfl rfl dX5_takesDigit_68 ?_
  obtain ⟨g2, hf⟩ := chk_of hf
  refine v_iald K (am0_9 (ak_5_3 h0)) (.inl (ak_5_3 h0)) g2 dX5_takesDigit_69 ?_
  refine v_imul K dX5_takesDigit_70 ?_
  refine v_iload_n K 2 rfl rfl dX5_takesDigit_71 ?_
  refine v_iadd K dX5_takesDigit_72 ?_
  obtain ⟨g3, hf⟩ := chk_of hf
  refine v_iast K (am0_9 (ak_5_3 h0)) (.inl (ak_5_3 h0)) g3 dX5_takesDigit_73 ?_
  refine v_st (fun u4 eu4 => ?_)
  have hf := lte_of eu4 hf
  refine v_aload_n K 1 rfl rfl dX5_takesDigit_74 ?_
  refine v_dup K rfl dX5_takesDigit_75 ?_
  refine gf_5_8 K h0 fl_X5_37 dX5_takesDigit_76 ?_
  refine v_iconst K (v := 1) (by decide) dX5_takesDigit_79 ?_
  refine v_iadd K dX5_takesDigit_80 ?_
  refine pf_5_8 K h0 fl_X5_37 dX5_takesDigit_81 ?_
  refine v_st (fun u5 eu5 => ?_)
  have hf := lte_of eu5 hf
  refine v_iconst K (v := 1) (by decide) dX5_takesDigit_84 ?_
  obtain ⟨rfl, rfl⟩ := pair_of hf
  exact v_zret K (by decide) dX5_takesDigit_85
set_option maxRecDepth 20000 in
theorem c_X5_takesDigit {X : Wx} {N : Nat} {o0 : Nat} {p1 : Int32} (h0 : akd o0 = 5) {u u' : ASt} {r : Int32} (hf : f_X5_takesDigit N o0 p1 u = some (r, u')) (l : Launch) : Met l yX5_takesDigit (ws_ yX5_takesDigit cX5_takesDigit 3 (some .boolean)) rm_X5_takesDigit (Pg 0 X u [.ref (X.2.1 o0), .int p1]) (Qg 0 X (some (.int r)) u') 0 0 (Aw 0 X) := by
  refine v_met (res := (some (.int r), u')) (by decide) (Nat.le_of_ble_eq_true rfl) (fun M K => ?_)
  have K : OkM 0 M X cX5_takesDigit 3 RX5 rm_X5_takesDigit (some .boolean) := K
  show V 0 M X (some (.int r), u') 3 0 [(0, .ref (X.2.1 o0)), (1, .int p1)] [] u
  unfold f_X5_takesDigit at hf
  refine v_aload_n K 0 rfl rfl dX5_takesDigit_0 ?_
  refine gf_5_8 K h0 fl_X5_37 dX5_takesDigit_1 ?_
  refine v_if_ne K 33 (by decide) dX5_takesDigit_4 (fun c6 => ?_) (fun c6 => ?_)
  · have hf := ite_f c6 hf
    refine v_aload_n K 0 rfl rfl dX5_takesDigit_33 ?_
    refine gf_5_8 K h0 fl_X5_37 dX5_takesDigit_34 ?_
    refine v_iconst K (v := 3) (by decide) dX5_takesDigit_37 ?_
    refine v_icmp_ne K 43 (by decide) dX5_takesDigit_38 (fun c7 => ?_) (fun c7 => ?_)
    · have hf := ite_f c7 hf
      exact t_X5_takesDigit_43 h0 K hf
    · have hf := ite_t c7 hf
      refine v_iconst K (v := 0) (by decide) dX5_takesDigit_41 ?_
      obtain ⟨rfl, rfl⟩ := pair_of hf
      exact v_zret K (by decide) dX5_takesDigit_42
  · have hf := ite_t c6 hf
    refine v_aload_n K 0 rfl rfl dX5_takesDigit_7 ?_
    refine gf_5_7 K h0 fl_X5_57 dX5_takesDigit_8 ?_
    refine v_aload_n K 0 rfl rfl dX5_takesDigit_11 ?_
    refine gf_5_6 K h0 fl_X5_54 dX5_takesDigit_12 ?_
    refine v_icmp_ne K 20 (by decide) dX5_takesDigit_15 (fun c8 => ?_) (fun c8 => ?_)
    · have hf := ite_f c8 hf
      refine v_aload_n K 0 rfl rfl dX5_takesDigit_20 ?_
      refine v_dup K rfl dX5_takesDigit_21 ?_
      refine gf_5_7 K h0 fl_X5_57 dX5_takesDigit_22 ?_
      refine v_iconst K (v := 1) (by decide) dX5_takesDigit_25 ?_
      refine v_iadd K dX5_takesDigit_26 ?_
      refine pf_5_7 K h0 fl_X5_57 dX5_takesDigit_27 ?_
      refine v_st (fun u9 eu9 => ?_)
      have hf := lte_of eu9 hf
      refine v_goto K 43 (by decide) dX5_takesDigit_30 ?_
      exact t_X5_takesDigit_43 h0 K hf
    · have hf := ite_t c8 hf
      refine v_iconst K (v := 0) (by decide) dX5_takesDigit_18 ?_
      obtain ⟨rfl, rfl⟩ := pair_of hf
      exact v_zret K (by decide) dX5_takesDigit_19
abbrev rm_X5_takes : Room := { frames := 2, cells := 0, slots := 0, locals := 42 }
set_option maxRecDepth 20000 in
theorem t_X5_takes_64 {M : Mx} {X : Wx} {N : Nat} {o0 : Nat} {p1 : Int32} (h0 : akd o0 = 5) {r : Int32} {u' : ASt} (K : OkM 0 M X cX5_takes 2 RX5 rm_X5_takes (some .boolean)) {u : ASt} (hf : f_X5_takes_64 N o0 p1  u = some (r, u')) : V 0 M X (some (.int r), u') 2 64 [] [] u := by
  unfold f_X5_takes_64 at hf
  refine v_iconst K (v := 0) (by decide) dX5_takes_64 ?_
  obtain ⟨rfl, rfl⟩ := pair_of hf
  exact v_zret K (by decide) dX5_takes_65
set_option maxRecDepth 20000 in
theorem c_X5_takes {X : Wx} {N : Nat} {o0 : Nat} {p1 : Int32} (h0 : akd o0 = 5) {u u' : ASt} {r : Int32} (hf : f_X5_takes N o0 p1 u = some (r, u')) (l : Launch) : Met l yX5_takes (ws_ yX5_takes cX5_takes 2 (some .boolean)) rm_X5_takes (Pg 0 X u [.ref (X.2.1 o0), .int p1]) (Qg 0 X (some (.int r)) u') 0 0 (Aw 0 X) := by
  refine v_met (res := (some (.int r), u')) (by decide) (Nat.le_of_ble_eq_true rfl) (fun M K => ?_)
  have K : OkM 0 M X cX5_takes 2 RX5 rm_X5_takes (some .boolean) := K
  show V 0 M X (some (.int r), u') 2 0 [(0, .ref (X.2.1 o0)), (1, .int p1)] [] u
  unfold f_X5_takes at hf
  refine v_iload_n K 1 rfl rfl dX5_takes_0 ?_
  refine v_bipush K (v := 32) (by decide) dX5_takes_1 ?_
  refine v_icmp_ne K 13 (by decide) dX5_takes_3 (fun c1 => ?_) (fun c1 => ?_)
  · have hf := ite_f c1 hf
    refine v_aload_n K 0 rfl rfl dX5_takes_13 ?_
    refine gf_5_5 K h0 fl_X5_29 dX5_takes_14 ?_
    refine v_if_ne K 26 (by decide) dX5_takes_17 (fun c2 => ?_) (fun c2 => ?_)
    · have hf := ite_f c2 hf
      refine v_iload_n K 1 rfl rfl dX5_takes_26 ?_
      refine v_bipush K (v := 59) (by decide) dX5_takes_27 ?_
      refine v_icmp_ne K 37 (by decide) dX5_takes_29 (fun c3 => ?_) (fun c3 => ?_)
      · have hf := ite_f c3 hf
        refine v_iload_n K 1 rfl rfl dX5_takes_37 ?_
        refine v_bipush K (v := 48) (by decide) dX5_takes_38 ?_
        refine v_icmp_lt K 64 (by decide) dX5_takes_40 (fun c4 => ?_) (fun c4 => ?_)
        · have hf := ite_t c4 hf
          refine v_sub [] rfl ?_
          exact t_X5_takes_64 h0 K hf
        · have hf := ite_f c4 hf
          refine v_iload_n K 1 rfl rfl dX5_takes_43 ?_
          refine v_bipush K (v := 57) (by decide) dX5_takes_44 ?_
          refine v_icmp_gt K 64 (by decide) dX5_takes_46 (fun c5 => ?_) (fun c5 => ?_)
          · have hf := ite_t c5 hf
            refine v_sub [] rfl ?_
            exact t_X5_takes_64 h0 K hf
          · have hf := ite_f c5 hf
            refine v_aload_n K 0 rfl rfl dX5_takes_49 ?_
            refine v_iload_n K 1 rfl rfl dX5_takes_50 ?_
            refine v_bipush K (v := 48) (by decide) dX5_takes_51 ?_
            refine v_isub K dX5_takes_53 ?_
            obtain ⟨r7, u6, e8, hf⟩ := bnd_of hf
            refine v_callVi K (c_X5_takesDigit h0 e8) cv_X5_takesDigit ml_X5_47 (am0_5 h0) h0 kdX5 ⟨rfl, rfl, Nat.le_of_ble_eq_true rfl, Nat.le_of_ble_eq_true rfl⟩ rfl rfl (Nat.le_of_ble_eq_true rfl) dX5_takes_54 ?_
            refine v_if_eq K 64 (by decide) dX5_takes_57 (fun c9 => ?_) (fun c9 => ?_)
            · have hf := ite_t c9 hf
              refine v_sub [] rfl ?_
              exact t_X5_takes_64 h0 K hf
            · have hf := ite_f c9 hf
              refine v_iconst K (v := 1) (by decide) dX5_takes_60 ?_
              refine v_goto K 65 (by decide) dX5_takes_61 ?_
              obtain ⟨rfl, rfl⟩ := pair_of hf
              exact v_zret K (by decide) dX5_takes_65
      · have hf := ite_t c3 hf
        refine v_aload_n K 0 rfl rfl dX5_takes_32 ?_
        obtain ⟨r11, u10, e12, hf⟩ := bnd_of hf
        refine v_callVi K (c_X5_takesEnd h0 e12) cv_X5_takesEnd ml_X5_43 (am0_5 h0) h0 kdX5 ⟨rfl, rfl, Nat.le_of_ble_eq_true rfl, Nat.le_of_ble_eq_true rfl⟩ rfl rfl (Nat.le_of_ble_eq_true rfl) dX5_takes_33 ?_
        obtain ⟨g13, hf⟩ := chk_of hf
        obtain ⟨rfl, rfl⟩ := pair_of hf
        exact v_zret K g13 dX5_takes_36
    · have hf := ite_t c2 hf
      refine v_aload_n K 0 rfl rfl dX5_takes_20 ?_
      refine v_iload_n K 1 rfl rfl dX5_takes_21 ?_
      obtain ⟨r15, u14, e16, hf⟩ := bnd_of hf
      refine v_callVi K (c_X5_takesLetter h0 e16) cv_X5_takesLetter ml_X5_40 (am0_5 h0) h0 kdX5 ⟨rfl, rfl, Nat.le_of_ble_eq_true rfl, Nat.le_of_ble_eq_true rfl⟩ rfl rfl (Nat.le_of_ble_eq_true rfl) dX5_takes_22 ?_
      obtain ⟨g17, hf⟩ := chk_of hf
      obtain ⟨rfl, rfl⟩ := pair_of hf
      exact v_zret K g17 dX5_takes_25
  · have hf := ite_t c1 hf
    refine v_aload_n K 0 rfl rfl dX5_takes_6 ?_
    refine v_iconst K (v := 0) (by decide) dX5_takes_7 ?_
    refine pf_5_8 K h0 fl_X5_37 dX5_takes_8 ?_
    refine v_st (fun u18 eu18 => ?_)
    have hf := lte_of eu18 hf
    refine v_iconst K (v := 1) (by decide) dX5_takes_11 ?_
    obtain ⟨rfl, rfl⟩ := pair_of hf
    exact v_zret K (by decide) dX5_takes_12
abbrev rm_X5_parse : Room := { frames := 3, cells := 0, slots := 0, locals := 63 }
set_option maxRecDepth 20000 in
theorem t_X5_parse_55 {M : Mx} {X : Wx} {N : Nat} {o0 : Nat} (h0 : akd o0 = 5) {r : Int32} {u' : ASt} (K : OkM 0 M X cX5_parse 2 RX5 rm_X5_parse (some .int)) {u : ASt} (hf : f_X5_parse_55 N o0  u = some (r, u')) : V 0 M X (some (.int r), u') 2 55 [(0, .ref (X.2.1 o0))] [] u := by
  unfold f_X5_parse_55 at hf
  refine v_aload_n K 0 rfl rfl dX5_parse_55 ?_
  refine gf_5_1 K h0 fl_X5_22 dX5_parse_56 ?_
  refine v_goto K 63 (by decide) dX5_parse_59 ?_
  obtain ⟨rfl, rfl⟩ := pair_of hf
  exact v_iret K dX5_parse_63
set_option maxRecDepth 20000 in
theorem t_X5_parse_12 {M : Mx} {X : Wx} {N : Nat} {o0 : Nat} (h0 : akd o0 = 5) {r : Int32} {u' : ASt} (K : OkM 0 M X cX5_parse 2 RX5 rm_X5_parse (some .int)) : ∀ (n : Nat) (x1 : Int32) (u : ASt), f_X5_parse_12 N o0 n x1 u = some (r, u') → V 0 M X (some (.int r), u') 2 12 [(0, .ref (X.2.1 o0)), (1, .int x1)] [] u := by
  intro n
  induction n with
  | zero => intro x1 u hf; cases hf
  | succ n ih =>
    intro x1 u hf
    rw [f_X5_parse_12] at hf
    refine v_iload_n K 1 rfl rfl dX5_parse_12 ?_
    refine v_aload_n K 0 rfl rfl dX5_parse_13 ?_
    refine gf_5_1 K h0 fl_X5_22 dX5_parse_14 ?_
    refine v_icmp_ge K 41 (by decide) dX5_parse_17 (fun c1 => ?_) (fun c1 => ?_)
    · have hf := ite_t c1 hf
      refine v_aload_n K 0 rfl rfl dX5_parse_41 ?_
      refine gf_5_5 K h0 fl_X5_29 dX5_parse_42 ?_
      refine v_if_ne K 55 (by decide) dX5_parse_45 (fun c2 => ?_) (fun c2 => ?_)
      · have hf := ite_f c2 hf
        refine v_sub [0] rfl ?_
        exact t_X5_parse_55 h0 K hf
      · have hf := ite_t c2 hf
        refine v_aload_n K 0 rfl rfl dX5_parse_48 ?_
        refine gf_5_4 K h0 fl_X5_26 dX5_parse_49 ?_
        refine v_if_ne K 62 (by decide) dX5_parse_52 (fun c3 => ?_) (fun c3 => ?_)
        · have hf := ite_f c3 hf
          refine v_iconst K (v := (-1)) (by decide) dX5_parse_62 ?_
          obtain ⟨rfl, rfl⟩ := pair_of hf
          exact v_iret K dX5_parse_63
        · have hf := ite_t c3 hf
          refine v_sub [0] rfl ?_
          exact t_X5_parse_55 h0 K hf
    · have hf := ite_f c1 hf
      refine v_aload_n K 0 rfl rfl dX5_parse_20 ?_
      refine v_aload_n K 0 rfl rfl dX5_parse_21 ?_
      refine gf_5_0 K h0 fl_X5_9 dX5_parse_22 ?_
      refine v_iload_n K 1 rfl rfl dX5_parse_25 ?_
      obtain ⟨g4, hf⟩ := chk_of hf
      refine v_bald K (am0_8 (ak_5_0 h0)) (ak_5_0 h0) g4 dX5_parse_26 ?_
      obtain ⟨r6, u5, e7, hf⟩ := bnd_of hf
      refine v_callVi K (c_X5_takes h0 e7) cv_X5_takes ml_X5_33 (am0_5 h0) h0 kdX5 ⟨rfl, rfl, Nat.le_of_ble_eq_true rfl, Nat.le_of_ble_eq_true rfl⟩ rfl rfl (Nat.le_of_ble_eq_true rfl) dX5_parse_27 ?_
      refine v_if_ne K 35 (by decide) dX5_parse_30 (fun c8 => ?_) (fun c8 => ?_)
      · have hf := ite_f c8 hf
        refine v_iinc K 1 (v := x1 + 1) (ls' := [(1, .int (x1 + 1)), (0, .ref (X.2.1 o0))]) rfl rfl (by decide) rfl dX5_parse_35 ?_
        refine v_goto K 12 (by decide) dX5_parse_38 ?_
        refine v_sub [1, 0] rfl ?_
        exact ih (x1 + 1) u5 hf
      · have hf := ite_t c8 hf
        refine v_iload_n K 1 rfl rfl dX5_parse_33 ?_
        obtain ⟨rfl, rfl⟩ := pair_of hf
        exact v_iret K dX5_parse_34
set_option maxRecDepth 20000 in
theorem c_X5_parse {X : Wx} {N : Nat} {o0 : Nat} (h0 : akd o0 = 5) {u u' : ASt} {r : Int32} (hf : f_X5_parse N o0 u = some (r, u')) (l : Launch) : Met l yX5_parse (ws_ yX5_parse cX5_parse 2 (some .int)) rm_X5_parse (Pg 0 X u [.ref (X.2.1 o0)]) (Qg 0 X (some (.int r)) u') 0 0 (Aw 0 X) := by
  refine v_met (res := (some (.int r), u')) (by decide) (Nat.le_of_ble_eq_true rfl) (fun M K => ?_)
  have K : OkM 0 M X cX5_parse 2 RX5 rm_X5_parse (some .int) := K
  show V 0 M X (some (.int r), u') 2 0 [(0, .ref (X.2.1 o0))] [] u
  unfold f_X5_parse at hf
  refine v_aload_n K 0 rfl rfl dX5_parse_0 ?_
  refine v_iconst K (v := 0) (by decide) dX5_parse_1 ?_
  refine pf_5_4 K h0 fl_X5_26 dX5_parse_2 ?_
  refine v_st (fun u9 eu9 => ?_)
  have hf := lte_of eu9 hf
  refine v_aload_n K 0 rfl rfl dX5_parse_5 ?_
  refine v_iconst K (v := 0) (by decide) dX5_parse_6 ?_
  refine pf_5_5 K h0 (by decide) fl_X5_29 dX5_parse_7 ?_
  refine v_st (fun u10 eu10 => ?_)
  have hf := lte_of eu10 hf
  refine v_iconst K (v := 0) (by decide) dX5_parse_10 ?_
  refine v_istore_n K (ls' := [(1, .int 0), (0, .ref (X.2.1 o0))]) rfl (by decide) rfl dX5_parse_11 ?_
  refine v_sub [1, 0] rfl ?_
  exact t_X5_parse_12 h0 K N 0 u10 hf
abbrev rm_X6_counted : Room := { frames := 0, cells := 0, slots := 0, locals := 0 }
set_option maxRecDepth 20000 in
theorem t_X6_counted_54 {M : Mx} {X : Wx} {N : Nat} {o0 : Nat} {p1 : Int32} (h0 : akd o0 = 6) {r : Int32} {u' : ASt} (K : OkM 0 M X cX6_counted 2 RX6 rm_X6_counted (some .int)) {u : ASt} (hf : f_X6_counted_54 N o0 p1  u = some (r, u')) : V 0 M X (some (.int r), u') 2 54 [(1, .int p1)] [] u := by
  unfold f_X6_counted_54 at hf
  refine v_iload_n K 0 rfl rfl dX6_counted_54 ?_
  obtain ⟨rfl, rfl⟩ := pair_of hf
  exact v_iret K dX6_counted_55
set_option maxRecDepth 20000 in
theorem c_X6_counted {X : Wx} {N : Nat} {o0 : Nat} {p1 : Int32} (h0 : akd o0 = 6) {u u' : ASt} {r : Int32} (hf : f_X6_counted N o0 p1 u = some (r, u')) (l : Launch) : Met l yX6_counted (ws_ yX6_counted cX6_counted 2 (some .int)) rm_X6_counted (Pg 0 X u [.ref (X.2.1 o0), .int p1]) (Qg 0 X (some (.int r)) u') 0 0 (Aw 0 X) := by
  refine v_met (res := (some (.int r), u')) (by decide) (Nat.le_of_ble_eq_true rfl) (fun M K => ?_)
  have K : OkM 0 M X cX6_counted 2 RX6 rm_X6_counted (some .int) := K
  show V 0 M X (some (.int r), u') 2 0 [(0, .ref (X.2.1 o0)), (1, .int p1)] [] u
  unfold f_X6_counted at hf
  refine v_iload_n K 1 rfl rfl dX6_counted_0 ?_
  refine v_bipush K (v := (-2)) (by decide) dX6_counted_1 ?_
  refine v_icmp_ne K 19 (by decide) dX6_counted_3 (fun c1 => ?_) (fun c1 => ?_)
  · have hf := ite_f c1 hf
    refine v_iload_n K 1 rfl rfl dX6_counted_19 ?_
    refine v_bipush K (v := (-3)) (by decide) dX6_counted_20 ?_
    refine v_icmp_ne K 38 (by decide) dX6_counted_22 (fun c2 => ?_) (fun c2 => ?_)
    · have hf := ite_f c2 hf
      refine v_iload_n K 1 rfl rfl dX6_counted_38 ?_
      refine v_bipush K (v := (-4)) (by decide) dX6_counted_39 ?_
      refine v_icmp_ne K 54 (by decide) dX6_counted_41 (fun c3 => ?_) (fun c3 => ?_)
      · have hf := ite_f c3 hf
        refine v_sub [1] rfl ?_
        exact t_X6_counted_54 h0 K hf
      · have hf := ite_t c3 hf
        refine v_aload_n K 0 rfl rfl dX6_counted_44 ?_
        refine v_dup K rfl dX6_counted_45 ?_
        refine gf_6_7 K h0 fl_X6_184 dX6_counted_46 ?_
        refine v_iconst K (v := 1) (by decide) dX6_counted_49 ?_
        refine v_iadd K dX6_counted_50 ?_
        refine pf_6_7 K h0 fl_X6_184 dX6_counted_51 ?_
        refine v_st (fun u4 eu4 => ?_)
        have hf := lte_of eu4 hf
        refine v_sub [1] rfl ?_
        exact t_X6_counted_54 h0 K hf
    · have hf := ite_t c2 hf
      refine v_aload_n K 0 rfl rfl dX6_counted_25 ?_
      refine v_dup K rfl dX6_counted_26 ?_
      refine gf_6_6 K h0 fl_X6_181 dX6_counted_27 ?_
      refine v_iconst K (v := 1) (by decide) dX6_counted_30 ?_
      refine v_iadd K dX6_counted_31 ?_
      refine pf_6_6 K h0 fl_X6_181 dX6_counted_32 ?_
      refine v_st (fun u5 eu5 => ?_)
      have hf := lte_of eu5 hf
      refine v_goto K 54 (by decide) dX6_counted_35 ?_
      refine v_sub [1] rfl ?_
      exact t_X6_counted_54 h0 K hf
  · have hf := ite_t c1 hf
    refine v_aload_n K 0 rfl rfl dX6_counted_6 ?_
    refine v_dup K rfl dX6_counted_7 ?_
    refine gf_6_5 K h0 fl_X6_178 dX6_counted_8 ?_
    refine v_iconst K (v := 1) (by decide) dX6_counted_11 ?_
    refine v_iadd K dX6_counted_12 ?_
    refine pf_6_5 K h0 fl_X6_178 dX6_counted_13 ?_
    refine v_st (fun u6 eu6 => ?_)
    have hf := lte_of eu6 hf
    refine v_goto K 54 (by decide) dX6_counted_16 ?_
    refine v_sub [1] rfl ?_
    exact t_X6_counted_54 h0 K hf
abbrev rm_X6_actEnded : Room := { frames := 2, cells := 0, slots := 0, locals := 41 }
set_option maxRecDepth 20000 in
theorem t_X6_actEnded_11 {M : Mx} {X : Wx} {N : Nat} {o0 : Nat} {p1 : Int32} (h0 : akd o0 = 6) {r : Int32} {u' : ASt} (K : OkM 0 M X cX6_actEnded 2 RX6 rm_X6_actEnded (some .int)) {u : ASt} (hf : f_X6_actEnded_11 N o0 p1  u = some (r, u')) : V 0 M X (some (.int r), u') 2 11 [(0, .ref (X.2.1 o0)), (1, .int p1)] [] u := by
  unfold f_X6_actEnded_11 at hf
  refine v_aload_n K 0 rfl rfl dX6_actEnded_11 ?_
  refine v_iload_n K 1 rfl rfl dX6_actEnded_12 ?_
  obtain ⟨r2, u1, e3, hf⟩ := bnd_of hf
  refine v_callVi K (c_X6_counted h0 e3) cv_X6_counted ml_X6_84 (am0_6 h0) h0 kdX6 ⟨rfl, rfl, Nat.le_of_ble_eq_true rfl, Nat.le_of_ble_eq_true rfl⟩ rfl rfl (Nat.le_of_ble_eq_true rfl) dX6_actEnded_13 ?_
  obtain ⟨rfl, rfl⟩ := pair_of hf
  exact v_iret K dX6_actEnded_16
set_option maxRecDepth 20000 in
theorem c_X6_actEnded {X : Wx} {N : Nat} {o0 : Nat} {p1 : Int32} (h0 : akd o0 = 6) {u u' : ASt} {r : Int32} (hf : f_X6_actEnded N o0 p1 u = some (r, u')) (l : Launch) : Met l yX6_actEnded (ws_ yX6_actEnded cX6_actEnded 2 (some .int)) rm_X6_actEnded (Pg 0 X u [.ref (X.2.1 o0), .int p1]) (Qg 0 X (some (.int r)) u') 0 0 (Aw 0 X) := by
  refine v_met (res := (some (.int r), u')) (by decide) (Nat.le_of_ble_eq_true rfl) (fun M K => ?_)
  have K : OkM 0 M X cX6_actEnded 2 RX6 rm_X6_actEnded (some .int) := K
  show V 0 M X (some (.int r), u') 2 0 [(0, .ref (X.2.1 o0)), (1, .int p1)] [] u
  unfold f_X6_actEnded at hf
  refine v_iload_n K 1 rfl rfl dX6_actEnded_0 ?_
  refine v_if_lt K 11 (by decide) dX6_actEnded_1 (fun c4 => ?_) (fun c4 => ?_)
  · have hf := ite_t c4 hf
    exact t_X6_actEnded_11 h0 K hf
  · have hf := ite_f c4 hf
    refine v_aload_n K 0 rfl rfl dX6_actEnded_4 ?_
    refine gf_6_3 K h0 fl_X6_35 dX6_actEnded_5 ?_
    obtain ⟨r6, u5, e7, hf⟩ := bnd_of hf
    refine v_callVv K (c_X2_keepMark (ak_6_3 h0) e7) cv_X2_keepMark ml_X6_171 (am0_2 (ak_6_3 h0)) (ak_6_3 h0) kdX2 ⟨rfl, rfl, Nat.le_of_ble_eq_true rfl, Nat.le_of_ble_eq_true rfl⟩ rfl rfl (Nat.le_of_ble_eq_true rfl) dX6_actEnded_8 ?_
    exact t_X6_actEnded_11 h0 K hf
abbrev rm_X6_chip : Room := { frames := 4, cells := 0, slots := 0, locals := 104 }
set_option maxRecDepth 20000 in
theorem c_X6_chip {X : Wx} {N : Nat} {o0 : Nat} {p1 : Int32} {p2 : Int32} (h0 : akd o0 = 6) {u u' : ASt} {r : Int32} (hf : f_X6_chip N o0 p1 p2 u = some (r, u')) (l : Launch) : Met l yX6_chip (ws_ yX6_chip cX6_chip 3 (some .int)) rm_X6_chip (Pg 0 X u [.ref (X.2.1 o0), .int p1, .int p2]) (Qg 0 X (some (.int r)) u') 0 0 (Aw 0 X) := by
  refine v_met (res := (some (.int r), u')) (by decide) (Nat.le_of_ble_eq_true rfl) (fun M K => ?_)
  have K : OkM 0 M X cX6_chip 3 RX6 rm_X6_chip (some .int) := K
  show V 0 M X (some (.int r), u') 3 0 [(0, .ref (X.2.1 o0)), (1, .int p1), (2, .int p2)] [] u
  unfold f_X6_chip at hf
  refine v_aload_n K 0 rfl rfl dX6_chip_0 ?_
  refine gf_6_3 K h0 fl_X6_35 dX6_chip_1 ?_
  refine v_aload_n K 0 rfl rfl dX6_chip_4 ?_
  refine gf_6_0 K h0 fl_X6_12 dX6_chip_5 ?_
  obtain ⟨r2, u1, e3, hf⟩ := bnd_of hf
  refine v_callVv K (c_X2_mark (ak_6_3 h0) (ak_6_0 h0) e3) cv_X2_mark ml_X6_46 (am0_2 (ak_6_3 h0)) (ak_6_3 h0) kdX2 ⟨rfl, rfl, Nat.le_of_ble_eq_true rfl, Nat.le_of_ble_eq_true rfl⟩ rfl rfl (Nat.le_of_ble_eq_true rfl) dX6_chip_8 ?_
  refine v_aload_n K 0 rfl rfl dX6_chip_11 ?_
  refine v_aload_n K 0 rfl rfl dX6_chip_12 ?_
  refine gf_6_0 K h0 fl_X6_12 dX6_chip_13 ?_
  refine v_iload_n K 1 rfl rfl dX6_chip_16 ?_
  refine v_iload_n K 2 rfl rfl dX6_chip_17 ?_
  obtain ⟨r5, u4, e6, hf⟩ := bnd_of hf
  refine v_callVi K (c_X0_addChip (ak_6_0 h0) e6) cv_X0_addChip ml_X6_49 (am0_0 (ak_6_0 h0)) (ak_6_0 h0) kdX0 ⟨rfl, rfl, Nat.le_of_ble_eq_true rfl, Nat.le_of_ble_eq_true rfl⟩ rfl rfl (Nat.le_of_ble_eq_true rfl) dX6_chip_18 ?_
  obtain ⟨r8, u7, e9, hf⟩ := bnd_of hf
  refine v_callVi K (c_X6_actEnded h0 e9) cv_X6_actEnded ml_X6_53 (am0_6 h0) h0 kdX6 ⟨rfl, rfl, Nat.le_of_ble_eq_true rfl, Nat.le_of_ble_eq_true rfl⟩ rfl rfl (Nat.le_of_ble_eq_true rfl) dX6_chip_21 ?_
  obtain ⟨rfl, rfl⟩ := pair_of hf
  exact v_iret K dX6_chip_24
abbrev rm_X6_cell : Room := { frames := 4, cells := 0, slots := 0, locals := 104 }
set_option maxRecDepth 20000 in
theorem c_X6_cell {X : Wx} {N : Nat} {o0 : Nat} {p1 : Int32} {p2 : Int32} {p3 : Int32} (h0 : akd o0 = 6) {u u' : ASt} {r : Int32} (hf : f_X6_cell N o0 p1 p2 p3 u = some (r, u')) (l : Launch) : Met l yX6_cell (ws_ yX6_cell cX6_cell 4 (some .int)) rm_X6_cell (Pg 0 X u [.ref (X.2.1 o0), .int p1, .int p2, .int p3]) (Qg 0 X (some (.int r)) u') 0 0 (Aw 0 X) := by
  refine v_met (res := (some (.int r), u')) (by decide) (Nat.le_of_ble_eq_true rfl) (fun M K => ?_)
  have K : OkM 0 M X cX6_cell 4 RX6 rm_X6_cell (some .int) := K
  show V 0 M X (some (.int r), u') 4 0 [(0, .ref (X.2.1 o0)), (1, .int p1), (2, .int p2), (3, .int p3)] [] u
  unfold f_X6_cell at hf
  refine v_aload_n K 0 rfl rfl dX6_cell_0 ?_
  refine gf_6_3 K h0 fl_X6_35 dX6_cell_1 ?_
  refine v_aload_n K 0 rfl rfl dX6_cell_4 ?_
  refine gf_6_0 K h0 fl_X6_12 dX6_cell_5 ?_
  obtain ⟨r2, u1, e3, hf⟩ := bnd_of hf
  refine v_callVv K (c_X2_mark (ak_6_3 h0) (ak_6_0 h0) e3) cv_X2_mark ml_X6_46 (am0_2 (ak_6_3 h0)) (ak_6_3 h0) kdX2 ⟨rfl, rfl, Nat.le_of_ble_eq_true rfl, Nat.le_of_ble_eq_true rfl⟩ rfl rfl (Nat.le_of_ble_eq_true rfl) dX6_cell_8 ?_
  refine v_aload_n K 0 rfl rfl dX6_cell_11 ?_
  refine v_aload_n K 0 rfl rfl dX6_cell_12 ?_
  refine gf_6_0 K h0 fl_X6_12 dX6_cell_13 ?_
  refine v_iload_n K 1 rfl rfl dX6_cell_16 ?_
  refine v_iload_n K 2 rfl rfl dX6_cell_17 ?_
  refine v_iload_n K 3 rfl rfl dX6_cell_18 ?_
  obtain ⟨r5, u4, e6, hf⟩ := bnd_of hf
  refine v_callVi K (c_X0_addCell (ak_6_0 h0) e6) cv_X0_addCell ml_X6_57 (am0_0 (ak_6_0 h0)) (ak_6_0 h0) kdX0 ⟨rfl, rfl, Nat.le_of_ble_eq_true rfl, Nat.le_of_ble_eq_true rfl⟩ rfl rfl (Nat.le_of_ble_eq_true rfl) dX6_cell_19 ?_
  obtain ⟨r8, u7, e9, hf⟩ := bnd_of hf
  refine v_callVi K (c_X6_actEnded h0 e9) cv_X6_actEnded ml_X6_53 (am0_6 h0) h0 kdX6 ⟨rfl, rfl, Nat.le_of_ble_eq_true rfl, Nat.le_of_ble_eq_true rfl⟩ rfl rfl (Nat.le_of_ble_eq_true rfl) dX6_cell_22 ?_
  obtain ⟨rfl, rfl⟩ := pair_of hf
  exact v_iret K dX6_cell_25
abbrev rm_X6_opens : Room := { frames := 4, cells := 0, slots := 0, locals := 104 }
set_option maxRecDepth 20000 in
theorem c_X6_opens {X : Wx} {N : Nat} {o0 : Nat} {p1 : Int32} {p2 : Int32} (h0 : akd o0 = 6) {u u' : ASt} {r : Int32} (hf : f_X6_opens N o0 p1 p2 u = some (r, u')) (l : Launch) : Met l yX6_opens (ws_ yX6_opens cX6_opens 3 (some .int)) rm_X6_opens (Pg 0 X u [.ref (X.2.1 o0), .int p1, .int p2]) (Qg 0 X (some (.int r)) u') 0 0 (Aw 0 X) := by
  refine v_met (res := (some (.int r), u')) (by decide) (Nat.le_of_ble_eq_true rfl) (fun M K => ?_)
  have K : OkM 0 M X cX6_opens 3 RX6 rm_X6_opens (some .int) := K
  show V 0 M X (some (.int r), u') 3 0 [(0, .ref (X.2.1 o0)), (1, .int p1), (2, .int p2)] [] u
  unfold f_X6_opens at hf
  refine v_aload_n K 0 rfl rfl dX6_opens_0 ?_
  refine gf_6_3 K h0 fl_X6_35 dX6_opens_1 ?_
  refine v_aload_n K 0 rfl rfl dX6_opens_4 ?_
  refine gf_6_0 K h0 fl_X6_12 dX6_opens_5 ?_
  obtain ⟨r2, u1, e3, hf⟩ := bnd_of hf
  refine v_callVv K (c_X2_mark (ak_6_3 h0) (ak_6_0 h0) e3) cv_X2_mark ml_X6_46 (am0_2 (ak_6_3 h0)) (ak_6_3 h0) kdX2 ⟨rfl, rfl, Nat.le_of_ble_eq_true rfl, Nat.le_of_ble_eq_true rfl⟩ rfl rfl (Nat.le_of_ble_eq_true rfl) dX6_opens_8 ?_
  refine v_aload_n K 0 rfl rfl dX6_opens_11 ?_
  refine v_aload_n K 0 rfl rfl dX6_opens_12 ?_
  refine gf_6_0 K h0 fl_X6_12 dX6_opens_13 ?_
  refine v_iload_n K 1 rfl rfl dX6_opens_16 ?_
  refine v_iload_n K 2 rfl rfl dX6_opens_17 ?_
  obtain ⟨r5, u4, e6, hf⟩ := bnd_of hf
  refine v_callVi K (c_X0_addOpen (ak_6_0 h0) e6) cv_X0_addOpen ml_X6_61 (am0_0 (ak_6_0 h0)) (ak_6_0 h0) kdX0 ⟨rfl, rfl, Nat.le_of_ble_eq_true rfl, Nat.le_of_ble_eq_true rfl⟩ rfl rfl (Nat.le_of_ble_eq_true rfl) dX6_opens_18 ?_
  obtain ⟨r8, u7, e9, hf⟩ := bnd_of hf
  refine v_callVi K (c_X6_actEnded h0 e9) cv_X6_actEnded ml_X6_53 (am0_6 h0) h0 kdX6 ⟨rfl, rfl, Nat.le_of_ble_eq_true rfl, Nat.le_of_ble_eq_true rfl⟩ rfl rfl (Nat.le_of_ble_eq_true rfl) dX6_opens_21 ?_
  obtain ⟨rfl, rfl⟩ := pair_of hf
  exact v_iret K dX6_opens_24
abbrev rm_X6_sticks : Room := { frames := 4, cells := 0, slots := 0, locals := 104 }
set_option maxRecDepth 20000 in
theorem c_X6_sticks {X : Wx} {N : Nat} {o0 : Nat} {p1 : Int32} {p2 : Int32} (h0 : akd o0 = 6) {u u' : ASt} {r : Int32} (hf : f_X6_sticks N o0 p1 p2 u = some (r, u')) (l : Launch) : Met l yX6_sticks (ws_ yX6_sticks cX6_sticks 3 (some .int)) rm_X6_sticks (Pg 0 X u [.ref (X.2.1 o0), .int p1, .int p2]) (Qg 0 X (some (.int r)) u') 0 0 (Aw 0 X) := by
  refine v_met (res := (some (.int r), u')) (by decide) (Nat.le_of_ble_eq_true rfl) (fun M K => ?_)
  have K : OkM 0 M X cX6_sticks 3 RX6 rm_X6_sticks (some .int) := K
  show V 0 M X (some (.int r), u') 3 0 [(0, .ref (X.2.1 o0)), (1, .int p1), (2, .int p2)] [] u
  unfold f_X6_sticks at hf
  refine v_aload_n K 0 rfl rfl dX6_sticks_0 ?_
  refine gf_6_3 K h0 fl_X6_35 dX6_sticks_1 ?_
  refine v_aload_n K 0 rfl rfl dX6_sticks_4 ?_
  refine gf_6_0 K h0 fl_X6_12 dX6_sticks_5 ?_
  obtain ⟨r2, u1, e3, hf⟩ := bnd_of hf
  refine v_callVv K (c_X2_mark (ak_6_3 h0) (ak_6_0 h0) e3) cv_X2_mark ml_X6_46 (am0_2 (ak_6_3 h0)) (ak_6_3 h0) kdX2 ⟨rfl, rfl, Nat.le_of_ble_eq_true rfl, Nat.le_of_ble_eq_true rfl⟩ rfl rfl (Nat.le_of_ble_eq_true rfl) dX6_sticks_8 ?_
  refine v_aload_n K 0 rfl rfl dX6_sticks_11 ?_
  refine v_aload_n K 0 rfl rfl dX6_sticks_12 ?_
  refine gf_6_0 K h0 fl_X6_12 dX6_sticks_13 ?_
  refine v_iload_n K 1 rfl rfl dX6_sticks_16 ?_
  refine v_iload_n K 2 rfl rfl dX6_sticks_17 ?_
  obtain ⟨r5, u4, e6, hf⟩ := bnd_of hf
  refine v_callVi K (c_X0_addStuck (ak_6_0 h0) e6) cv_X0_addStuck ml_X6_64 (am0_0 (ak_6_0 h0)) (ak_6_0 h0) kdX0 ⟨rfl, rfl, Nat.le_of_ble_eq_true rfl, Nat.le_of_ble_eq_true rfl⟩ rfl rfl (Nat.le_of_ble_eq_true rfl) dX6_sticks_18 ?_
  obtain ⟨r8, u7, e9, hf⟩ := bnd_of hf
  refine v_callVi K (c_X6_actEnded h0 e9) cv_X6_actEnded ml_X6_53 (am0_6 h0) h0 kdX6 ⟨rfl, rfl, Nat.le_of_ble_eq_true rfl, Nat.le_of_ble_eq_true rfl⟩ rfl rfl (Nat.le_of_ble_eq_true rfl) dX6_sticks_21 ?_
  obtain ⟨rfl, rfl⟩ := pair_of hf
  exact v_iret K dX6_sticks_24
abbrev rm_X6_shorts : Room := { frames := 4, cells := 0, slots := 0, locals := 104 }
set_option maxRecDepth 20000 in
theorem c_X6_shorts {X : Wx} {N : Nat} {o0 : Nat} {p1 : Int32} {p2 : Int32} {p3 : Int32} (h0 : akd o0 = 6) {u u' : ASt} {r : Int32} (hf : f_X6_shorts N o0 p1 p2 p3 u = some (r, u')) (l : Launch) : Met l yX6_shorts (ws_ yX6_shorts cX6_shorts 4 (some .int)) rm_X6_shorts (Pg 0 X u [.ref (X.2.1 o0), .int p1, .int p2, .int p3]) (Qg 0 X (some (.int r)) u') 0 0 (Aw 0 X) := by
  refine v_met (res := (some (.int r), u')) (by decide) (Nat.le_of_ble_eq_true rfl) (fun M K => ?_)
  have K : OkM 0 M X cX6_shorts 4 RX6 rm_X6_shorts (some .int) := K
  show V 0 M X (some (.int r), u') 4 0 [(0, .ref (X.2.1 o0)), (1, .int p1), (2, .int p2), (3, .int p3)] [] u
  unfold f_X6_shorts at hf
  refine v_aload_n K 0 rfl rfl dX6_shorts_0 ?_
  refine gf_6_3 K h0 fl_X6_35 dX6_shorts_1 ?_
  refine v_aload_n K 0 rfl rfl dX6_shorts_4 ?_
  refine gf_6_0 K h0 fl_X6_12 dX6_shorts_5 ?_
  obtain ⟨r2, u1, e3, hf⟩ := bnd_of hf
  refine v_callVv K (c_X2_mark (ak_6_3 h0) (ak_6_0 h0) e3) cv_X2_mark ml_X6_46 (am0_2 (ak_6_3 h0)) (ak_6_3 h0) kdX2 ⟨rfl, rfl, Nat.le_of_ble_eq_true rfl, Nat.le_of_ble_eq_true rfl⟩ rfl rfl (Nat.le_of_ble_eq_true rfl) dX6_shorts_8 ?_
  refine v_aload_n K 0 rfl rfl dX6_shorts_11 ?_
  refine v_aload_n K 0 rfl rfl dX6_shorts_12 ?_
  refine gf_6_0 K h0 fl_X6_12 dX6_shorts_13 ?_
  refine v_iload_n K 1 rfl rfl dX6_shorts_16 ?_
  refine v_iload_n K 2 rfl rfl dX6_shorts_17 ?_
  refine v_iload_n K 3 rfl rfl dX6_shorts_18 ?_
  obtain ⟨r5, u4, e6, hf⟩ := bnd_of hf
  refine v_callVi K (c_X0_addShort (ak_6_0 h0) e6) cv_X0_addShort ml_X6_67 (am0_0 (ak_6_0 h0)) (ak_6_0 h0) kdX0 ⟨rfl, rfl, Nat.le_of_ble_eq_true rfl, Nat.le_of_ble_eq_true rfl⟩ rfl rfl (Nat.le_of_ble_eq_true rfl) dX6_shorts_19 ?_
  obtain ⟨r8, u7, e9, hf⟩ := bnd_of hf
  refine v_callVi K (c_X6_actEnded h0 e9) cv_X6_actEnded ml_X6_53 (am0_6 h0) h0 kdX6 ⟨rfl, rfl, Nat.le_of_ble_eq_true rfl, Nat.le_of_ble_eq_true rfl⟩ rfl rfl (Nat.le_of_ble_eq_true rfl) dX6_shorts_22 ?_
  obtain ⟨rfl, rfl⟩ := pair_of hf
  exact v_iret K dX6_shorts_25
abbrev rm_X6_heals : Room := { frames := 4, cells := 0, slots := 0, locals := 104 }
set_option maxRecDepth 20000 in
theorem c_X6_heals {X : Wx} {N : Nat} {o0 : Nat} (h0 : akd o0 = 6) {u u' : ASt} {r : Int32} (hf : f_X6_heals N o0 u = some (r, u')) (l : Launch) : Met l yX6_heals (ws_ yX6_heals cX6_heals 1 (some .int)) rm_X6_heals (Pg 0 X u [.ref (X.2.1 o0)]) (Qg 0 X (some (.int r)) u') 0 0 (Aw 0 X) := by
  refine v_met (res := (some (.int r), u')) (by decide) (Nat.le_of_ble_eq_true rfl) (fun M K => ?_)
  have K : OkM 0 M X cX6_heals 1 RX6 rm_X6_heals (some .int) := K
  show V 0 M X (some (.int r), u') 1 0 [(0, .ref (X.2.1 o0))] [] u
  unfold f_X6_heals at hf
  refine v_aload_n K 0 rfl rfl dX6_heals_0 ?_
  refine gf_6_3 K h0 fl_X6_35 dX6_heals_1 ?_
  refine v_aload_n K 0 rfl rfl dX6_heals_4 ?_
  refine gf_6_0 K h0 fl_X6_12 dX6_heals_5 ?_
  obtain ⟨r2, u1, e3, hf⟩ := bnd_of hf
  refine v_callVv K (c_X2_mark (ak_6_3 h0) (ak_6_0 h0) e3) cv_X2_mark ml_X6_46 (am0_2 (ak_6_3 h0)) (ak_6_3 h0) kdX2 ⟨rfl, rfl, Nat.le_of_ble_eq_true rfl, Nat.le_of_ble_eq_true rfl⟩ rfl rfl (Nat.le_of_ble_eq_true rfl) dX6_heals_8 ?_
  refine v_aload_n K 0 rfl rfl dX6_heals_11 ?_
  refine v_aload_n K 0 rfl rfl dX6_heals_12 ?_
  refine gf_6_0 K h0 fl_X6_12 dX6_heals_13 ?_
  obtain ⟨r5, u4, e6, hf⟩ := bnd_of hf
  refine v_callVi K (c_X0_dropFaults (ak_6_0 h0) e6) cv_X0_dropFaults ml_X6_70 (am0_0 (ak_6_0 h0)) (ak_6_0 h0) kdX0 ⟨rfl, rfl, Nat.le_of_ble_eq_true rfl, Nat.le_of_ble_eq_true rfl⟩ rfl rfl (Nat.le_of_ble_eq_true rfl) dX6_heals_16 ?_
  obtain ⟨r8, u7, e9, hf⟩ := bnd_of hf
  refine v_callVi K (c_X6_actEnded h0 e9) cv_X6_actEnded ml_X6_53 (am0_6 h0) h0 kdX6 ⟨rfl, rfl, Nat.le_of_ble_eq_true rfl, Nat.le_of_ble_eq_true rfl⟩ rfl rfl (Nat.le_of_ble_eq_true rfl) dX6_heals_19 ?_
  obtain ⟨rfl, rfl⟩ := pair_of hf
  exact v_iret K dX6_heals_22
abbrev rm_X6_clock : Room := { frames := 5, cells := 0, slots := 0, locals := 114 }
set_option maxRecDepth 20000 in
theorem c_X6_clock {X : Wx} {N : Nat} {o0 : Nat} {p1 : Int32} {p2 : Int32} (h0 : akd o0 = 6) {u u' : ASt} {r : Int32} (hf : f_X6_clock N o0 p1 p2 u = some (r, u')) (l : Launch) : Met l yX6_clock (ws_ yX6_clock cX6_clock 3 (some .int)) rm_X6_clock (Pg 0 X u [.ref (X.2.1 o0), .int p1, .int p2]) (Qg 0 X (some (.int r)) u') 0 0 (Aw 0 X) := by
  refine v_met (res := (some (.int r), u')) (by decide) (Nat.le_of_ble_eq_true rfl) (fun M K => ?_)
  have K : OkM 0 M X cX6_clock 3 RX6 rm_X6_clock (some .int) := K
  show V 0 M X (some (.int r), u') 3 0 [(0, .ref (X.2.1 o0)), (1, .int p1), (2, .int p2)] [] u
  unfold f_X6_clock at hf
  refine v_aload_n K 0 rfl rfl dX6_clock_0 ?_
  refine gf_6_3 K h0 fl_X6_35 dX6_clock_1 ?_
  refine v_aload_n K 0 rfl rfl dX6_clock_4 ?_
  refine gf_6_0 K h0 fl_X6_12 dX6_clock_5 ?_
  obtain ⟨r2, u1, e3, hf⟩ := bnd_of hf
  refine v_callVv K (c_X2_mark (ak_6_3 h0) (ak_6_0 h0) e3) cv_X2_mark ml_X6_46 (am0_2 (ak_6_3 h0)) (ak_6_3 h0) kdX2 ⟨rfl, rfl, Nat.le_of_ble_eq_true rfl, Nat.le_of_ble_eq_true rfl⟩ rfl rfl (Nat.le_of_ble_eq_true rfl) dX6_clock_8 ?_
  refine v_aload_n K 0 rfl rfl dX6_clock_11 ?_
  refine v_aload_n K 0 rfl rfl dX6_clock_12 ?_
  refine gf_6_0 K h0 fl_X6_12 dX6_clock_13 ?_
  refine v_iload_n K 1 rfl rfl dX6_clock_16 ?_
  refine v_iload_n K 2 rfl rfl dX6_clock_17 ?_
  refine v_aload_n K 0 rfl rfl dX6_clock_18 ?_
  refine gf_6_1 K h0 fl_X6_21 dX6_clock_19 ?_
  obtain ⟨r5, u4, e6, hf⟩ := bnd_of hf
  refine v_callVi K (c_X0_tick (ak_6_0 h0) (ak_6_1 h0) e6) cv_X0_tick ml_X6_74 (am0_0 (ak_6_0 h0)) (ak_6_0 h0) kdX0 ⟨rfl, rfl, Nat.le_of_ble_eq_true rfl, Nat.le_of_ble_eq_true rfl⟩ rfl rfl (Nat.le_of_ble_eq_true rfl) dX6_clock_22 ?_
  obtain ⟨r8, u7, e9, hf⟩ := bnd_of hf
  refine v_callVi K (c_X6_actEnded h0 e9) cv_X6_actEnded ml_X6_53 (am0_6 h0) h0 kdX6 ⟨rfl, rfl, Nat.le_of_ble_eq_true rfl, Nat.le_of_ble_eq_true rfl⟩ rfl rfl (Nat.le_of_ble_eq_true rfl) dX6_clock_25 ?_
  obtain ⟨rfl, rfl⟩ := pair_of hf
  exact v_iret K dX6_clock_28
abbrev rm_X6_manyClocks : Room := { frames := 5, cells := 0, slots := 0, locals := 114 }
set_option maxRecDepth 20000 in
theorem t_X6_manyClocks_93 {M : Mx} {X : Wx} {N : Nat} {o0 : Nat} {p1 : Int32} {p2 : Int32} {p3 : Int32} (h0 : akd o0 = 6) {r : Int32} {u' : ASt} (K : OkM 0 M X cX6_manyClocks 8 RX6 rm_X6_manyClocks (some .int)) {k43 : Int32 → Int32 → Int32 → ASt → Option (Int32 × ASt)} (hk43 : ∀ (x4 : Int32) (x5 : Int32) (x6 : Int32) (u : ASt), k43 x4 x5 x6 u = some (r, u') → V 0 M X (some (.int r), u') 8 43 [(0, .ref (X.2.1 o0)), (1, .int p1), (2, .int p2), (3, .int p3), (4, .int x4), (5, .int x5), (6, .int x6)] [] u) {x4 : Int32} {x5 : Int32} {x6 : Int32} {u : ASt} (hf : f_X6_manyClocks_93 N o0 p1 p2 p3 k43 x4 x5 x6 u = some (r, u')) : V 0 M X (some (.int r), u') 8 93 [(0, .ref (X.2.1 o0)), (1, .int p1), (2, .int p2), (3, .int p3), (4, .int x4), (5, .int x5), (6, .int x6)] [] u := by
  unfold f_X6_manyClocks_93 at hf
  refine v_iinc K 6 (v := x6 + 1) (ls' := [(6, .int (x6 + 1)), (0, .ref (X.2.1 o0)), (1, .int p1), (2, .int p2), (3, .int p3), (4, .int x4), (5, .int x5)]) rfl rfl (by decide) rfl dX6_manyClocks_93 ?_
  refine v_goto K 43 (by decide) dX6_manyClocks_96 ?_
  refine v_sub [1, 2, 3, 4, 5, 6, 0] rfl ?_
  exact hk43 x4 x5 (x6 + 1) u hf
set_option maxRecDepth 20000 in
theorem t_X6_manyClocks_43 {M : Mx} {X : Wx} {N : Nat} {o0 : Nat} {p1 : Int32} {p2 : Int32} {p3 : Int32} (h0 : akd o0 = 6) {r : Int32} {u' : ASt} (K : OkM 0 M X cX6_manyClocks 8 RX6 rm_X6_manyClocks (some .int)) : ∀ (n : Nat) (x4 : Int32) (x5 : Int32) (x6 : Int32) (u : ASt), f_X6_manyClocks_43 N o0 p1 p2 p3 n x4 x5 x6 u = some (r, u') → V 0 M X (some (.int r), u') 8 43 [(0, .ref (X.2.1 o0)), (1, .int p1), (2, .int p2), (3, .int p3), (4, .int x4), (5, .int x5), (6, .int x6)] [] u := by
  intro n
  induction n with
  | zero => intro x4 x5 x6 u hf; cases hf
  | succ n ih =>
    intro x4 x5 x6 u hf
    rw [f_X6_manyClocks_43] at hf
    refine v_iload K 6 rfl dX6_manyClocks_43 ?_
    refine v_iload_n K 1 rfl rfl dX6_manyClocks_45 ?_
    refine v_icmp_ge K 99 (by decide) dX6_manyClocks_46 (fun c1 => ?_) (fun c1 => ?_)
    · have hf := ite_t c1 hf
      refine v_iload K 4 rfl dX6_manyClocks_99 ?_
      obtain ⟨rfl, rfl⟩ := pair_of hf
      exact v_iret K dX6_manyClocks_101
    · have hf := ite_f c1 hf
      refine v_aload_n K 0 rfl rfl dX6_manyClocks_49 ?_
      refine gf_6_0 K h0 fl_X6_12 dX6_manyClocks_50 ?_
      refine v_iload_n K 2 rfl rfl dX6_manyClocks_53 ?_
      refine v_iload K 6 rfl dX6_manyClocks_54 ?_
      refine v_ishr K dX6_manyClocks_56 ?_
      refine v_iconst K (v := 1) (by decide) dX6_manyClocks_57 ?_
      refine v_iand K dX6_manyClocks_58 ?_
      refine v_iload_n K 3 rfl rfl dX6_manyClocks_59 ?_
      refine v_iload K 6 rfl dX6_manyClocks_60 ?_
      refine v_ishr K dX6_manyClocks_62 ?_
      refine v_iconst K (v := 1) (by decide) dX6_manyClocks_63 ?_
      refine v_iand K dX6_manyClocks_64 ?_
      refine v_aload_n K 0 rfl rfl dX6_manyClocks_65 ?_
      refine gf_6_1 K h0 fl_X6_21 dX6_manyClocks_66 ?_
      obtain ⟨r3, u2, e4, hf⟩ := bnd_of hf
      refine v_callVi K (c_X0_tick (ak_6_0 h0) (ak_6_1 h0) e4) cv_X0_tick ml_X6_74 (am0_0 (ak_6_0 h0)) (ak_6_0 h0) kdX0 ⟨rfl, rfl, Nat.le_of_ble_eq_true rfl, Nat.le_of_ble_eq_true rfl⟩ rfl rfl (Nat.le_of_ble_eq_true rfl) dX6_manyClocks_69 ?_
      refine v_istore K (ls' := [(7, .int r3), (0, .ref (X.2.1 o0)), (1, .int p1), (2, .int p2), (3, .int p3), (4, .int x4), (5, .int x5), (6, .int x6)]) (by decide) rfl dX6_manyClocks_72 ?_
      refine v_iload K 0 rfl dX6_manyClocks_74 ?_
      refine v_iconst K (v := 2) (by decide) dX6_manyClocks_76 ?_
      refine v_icmp_eq K 93 (by decide) dX6_manyClocks_77 (fun c5 => ?_) (fun c5 => ?_)
      · have hf := ite_t c5 hf
        refine v_sub [1, 2, 3, 4, 5, 6, 7] rfl ?_
        exact t_X6_manyClocks_93 h0 K ih hf
      · have hf := ite_f c5 hf
        refine v_iload K 5 rfl dX6_manyClocks_80 ?_
        refine v_iload K 0 rfl dX6_manyClocks_82 ?_
        refine v_iload K 6 rfl dX6_manyClocks_84 ?_
        refine v_ishl K dX6_manyClocks_86 ?_
        refine v_ior K dX6_manyClocks_87 ?_
        refine v_topi (fun z6 ez6 => ?_)
        have hf := lte_of ez6 hf
        refine v_istore K (ls' := [(4, .int z6), (7, .int r3), (0, .ref (X.2.1 o0)), (1, .int p1), (2, .int p2), (3, .int p3), (5, .int x5), (6, .int x6)]) (by decide) rfl dX6_manyClocks_88 ?_
        refine v_iinc K 6 (v := x5 + 1) (ls' := [(5, .int (x5 + 1)), (4, .int z6), (7, .int r3), (0, .ref (X.2.1 o0)), (1, .int p1), (2, .int p2), (3, .int p3), (6, .int x6)]) rfl rfl (by decide) rfl dX6_manyClocks_90 ?_
        refine v_sub [3, 4, 5, 6, 1, 0, 7] rfl ?_
        exact t_X6_manyClocks_93 h0 K ih hf
set_option maxRecDepth 20000 in
theorem t_X6_manyClocks_31 {M : Mx} {X : Wx} {N : Nat} {o0 : Nat} {p1 : Int32} {p2 : Int32} {p3 : Int32} (h0 : akd o0 = 6) {r : Int32} {u' : ASt} (K : OkM 0 M X cX6_manyClocks 8 RX6 rm_X6_manyClocks (some .int)) {u : ASt} (hf : f_X6_manyClocks_31 N o0 p1 p2 p3  u = some (r, u')) : V 0 M X (some (.int r), u') 8 31 [] [] u := by
  unfold f_X6_manyClocks_31 at hf
  refine v_bipush K (v := (-2)) (by decide) dX6_manyClocks_31 ?_
  obtain ⟨rfl, rfl⟩ := pair_of hf
  exact v_iret K dX6_manyClocks_33
set_option maxRecDepth 20000 in
theorem c_X6_manyClocks {X : Wx} {N : Nat} {o0 : Nat} {p1 : Int32} {p2 : Int32} {p3 : Int32} (h0 : akd o0 = 6) {u u' : ASt} {r : Int32} (hf : f_X6_manyClocks N o0 p1 p2 p3 u = some (r, u')) (l : Launch) : Met l yX6_manyClocks (ws_ yX6_manyClocks cX6_manyClocks 8 (some .int)) rm_X6_manyClocks (Pg 0 X u [.ref (X.2.1 o0), .int p1, .int p2, .int p3]) (Qg 0 X (some (.int r)) u') 0 0 (Aw 0 X) := by
  refine v_met (res := (some (.int r), u')) (by decide) (Nat.le_of_ble_eq_true rfl) (fun M K => ?_)
  have K : OkM 0 M X cX6_manyClocks 8 RX6 rm_X6_manyClocks (some .int) := K
  show V 0 M X (some (.int r), u') 8 0 [(0, .ref (X.2.1 o0)), (1, .int p1), (2, .int p2), (3, .int p3)] [] u
  unfold f_X6_manyClocks at hf
  refine v_iload_n K 1 rfl rfl dX6_manyClocks_0 ?_
  refine v_iconst K (v := 1) (by decide) dX6_manyClocks_1 ?_
  refine v_icmp_lt K 31 (by decide) dX6_manyClocks_2 (fun c7 => ?_) (fun c7 => ?_)
  · have hf := ite_t c7 hf
    refine v_sub [] rfl ?_
    exact t_X6_manyClocks_31 h0 K hf
  · have hf := ite_f c7 hf
    refine v_iload_n K 1 rfl rfl dX6_manyClocks_5 ?_
    refine v_bipush K (v := 16) (by decide) dX6_manyClocks_6 ?_
    refine v_icmp_gt K 31 (by decide) dX6_manyClocks_8 (fun c8 => ?_) (fun c8 => ?_)
    · have hf := ite_t c8 hf
      refine v_sub [] rfl ?_
      exact t_X6_manyClocks_31 h0 K hf
    · have hf := ite_f c8 hf
      refine v_iload_n K 2 rfl rfl dX6_manyClocks_11 ?_
      refine v_if_lt K 31 (by decide) dX6_manyClocks_12 (fun c9 => ?_) (fun c9 => ?_)
      · have hf := ite_t c9 hf
        refine v_sub [] rfl ?_
        exact t_X6_manyClocks_31 h0 K hf
      · have hf := ite_f c9 hf
        refine v_iload_n K 2 rfl rfl dX6_manyClocks_15 ?_
        refine v_ldc K co_X6_223 dX6_manyClocks_16 ?_
        refine v_icmp_gt K 31 (by decide) dX6_manyClocks_18 (fun c10 => ?_) (fun c10 => ?_)
        · have hf := ite_t c10 hf
          refine v_sub [] rfl ?_
          exact t_X6_manyClocks_31 h0 K hf
        · have hf := ite_f c10 hf
          refine v_iload_n K 3 rfl rfl dX6_manyClocks_21 ?_
          refine v_if_lt K 31 (by decide) dX6_manyClocks_22 (fun c11 => ?_) (fun c11 => ?_)
          · have hf := ite_t c11 hf
            refine v_sub [] rfl ?_
            exact t_X6_manyClocks_31 h0 K hf
          · have hf := ite_f c11 hf
            refine v_iload_n K 3 rfl rfl dX6_manyClocks_25 ?_
            refine v_ldc K co_X6_223 dX6_manyClocks_26 ?_
            refine v_icmp_le K 34 (by decide) dX6_manyClocks_28 (fun c12 => ?_) (fun c12 => ?_)
            · have hf := ite_t c12 hf
              refine v_iconst K (v := 0) (by decide) dX6_manyClocks_34 ?_
              refine v_istore K (ls' := [(4, .int 0), (0, .ref (X.2.1 o0)), (1, .int p1), (2, .int p2), (3, .int p3)]) (by decide) rfl dX6_manyClocks_35 ?_
              refine v_iconst K (v := 0) (by decide) dX6_manyClocks_37 ?_
              refine v_istore K (ls' := [(5, .int 0), (4, .int 0), (0, .ref (X.2.1 o0)), (1, .int p1), (2, .int p2), (3, .int p3)]) (by decide) rfl dX6_manyClocks_38 ?_
              refine v_iconst K (v := 0) (by decide) dX6_manyClocks_40 ?_
              refine v_istore K (ls' := [(6, .int 0), (5, .int 0), (4, .int 0), (0, .ref (X.2.1 o0)), (1, .int p1), (2, .int p2), (3, .int p3)]) (by decide) rfl dX6_manyClocks_41 ?_
              refine v_sub [3, 4, 5, 6, 2, 1, 0] rfl ?_
              exact t_X6_manyClocks_43 h0 K N 0 0 0 u hf
            · have hf := ite_f c12 hf
              refine v_sub [] rfl ?_
              exact t_X6_manyClocks_31 h0 K hf
abbrev rm_X6_clocks : Room := { frames := 6, cells := 0, slots := 0, locals := 141 }
set_option maxRecDepth 20000 in
theorem c_X6_clocks {X : Wx} {N : Nat} {o0 : Nat} {p1 : Int32} {p2 : Int32} {p3 : Int32} (h0 : akd o0 = 6) {u u' : ASt} {r : Int32} (hf : f_X6_clocks N o0 p1 p2 p3 u = some (r, u')) (l : Launch) : Met l yX6_clocks (ws_ yX6_clocks cX6_clocks 4 (some .int)) rm_X6_clocks (Pg 0 X u [.ref (X.2.1 o0), .int p1, .int p2, .int p3]) (Qg 0 X (some (.int r)) u') 0 0 (Aw 0 X) := by
  refine v_met (res := (some (.int r), u')) (by decide) (Nat.le_of_ble_eq_true rfl) (fun M K => ?_)
  have K : OkM 0 M X cX6_clocks 4 RX6 rm_X6_clocks (some .int) := K
  show V 0 M X (some (.int r), u') 4 0 [(0, .ref (X.2.1 o0)), (1, .int p1), (2, .int p2), (3, .int p3)] [] u
  unfold f_X6_clocks at hf
  refine v_aload_n K 0 rfl rfl dX6_clocks_0 ?_
  refine gf_6_3 K h0 fl_X6_35 dX6_clocks_1 ?_
  refine v_aload_n K 0 rfl rfl dX6_clocks_4 ?_
  refine gf_6_0 K h0 fl_X6_12 dX6_clocks_5 ?_
  obtain ⟨r2, u1, e3, hf⟩ := bnd_of hf
  refine v_callVv K (c_X2_mark (ak_6_3 h0) (ak_6_0 h0) e3) cv_X2_mark ml_X6_46 (am0_2 (ak_6_3 h0)) (ak_6_3 h0) kdX2 ⟨rfl, rfl, Nat.le_of_ble_eq_true rfl, Nat.le_of_ble_eq_true rfl⟩ rfl rfl (Nat.le_of_ble_eq_true rfl) dX6_clocks_8 ?_
  refine v_aload_n K 0 rfl rfl dX6_clocks_11 ?_
  refine v_aload_n K 0 rfl rfl dX6_clocks_12 ?_
  refine v_iload_n K 1 rfl rfl dX6_clocks_13 ?_
  refine v_iload_n K 2 rfl rfl dX6_clocks_14 ?_
  refine v_iload_n K 3 rfl rfl dX6_clocks_15 ?_
  obtain ⟨r5, u4, e6, hf⟩ := bnd_of hf
  refine v_callVi K (c_X6_manyClocks h0 e6) cv_X6_manyClocks ml_X6_78 (am0_6 h0) h0 kdX6 ⟨rfl, rfl, Nat.le_of_ble_eq_true rfl, Nat.le_of_ble_eq_true rfl⟩ rfl rfl (Nat.le_of_ble_eq_true rfl) dX6_clocks_16 ?_
  obtain ⟨r8, u7, e9, hf⟩ := bnd_of hf
  refine v_callVi K (c_X6_actEnded h0 e9) cv_X6_actEnded ml_X6_53 (am0_6 h0) h0 kdX6 ⟨rfl, rfl, Nat.le_of_ble_eq_true rfl, Nat.le_of_ble_eq_true rfl⟩ rfl rfl (Nat.le_of_ble_eq_true rfl) dX6_clocks_19 ?_
  obtain ⟨rfl, rfl⟩ := pair_of hf
  exact v_iret K dX6_clocks_22
abbrev rm_X6_portNumber : Room := { frames := 3, cells := 0, slots := 0, locals := 67 }
set_option maxRecDepth 20000 in
theorem c_X6_portNumber {X : Wx} {N : Nat} {o0 : Nat} {p1 : Int32} (h0 : akd o0 = 6) {u u' : ASt} {r : Int32} (hf : f_X6_portNumber N o0 p1 u = some (r, u')) (l : Launch) : Met l yX6_portNumber (ws_ yX6_portNumber cX6_portNumber 2 (some .int)) rm_X6_portNumber (Pg 0 X u [.ref (X.2.1 o0), .int p1]) (Qg 0 X (some (.int r)) u') 0 0 (Aw 0 X) := by
  refine v_met (res := (some (.int r), u')) (by decide) (Nat.le_of_ble_eq_true rfl) (fun M K => ?_)
  have K : OkM 0 M X cX6_portNumber 2 RX6 rm_X6_portNumber (some .int) := K
  show V 0 M X (some (.int r), u') 2 0 [(0, .ref (X.2.1 o0)), (1, .int p1)] [] u
  unfold f_X6_portNumber at hf
  refine v_iload_n K 1 rfl rfl dX6_portNumber_0 ?_
  by_cases c1 : p1 = 0
  · have hf := ite_t c1 hf
    refine v_tabK K 36 c1 (a := 0) (by decide) (by decide) (by decide) rfl (by decide) dX6_portNumber_1 ?_
    refine v_aload_n K 0 rfl rfl dX6_portNumber_36 ?_
    refine gf_6_0 K h0 fl_X6_12 dX6_portNumber_37 ?_
    refine gf_0_4 K (ak_6_0 h0) fl_X6_224 dX6_portNumber_40 ?_
    obtain ⟨rfl, rfl⟩ := pair_of hf
    exact v_iret K dX6_portNumber_43
  have hf := ite_f c1 hf
  by_cases c2 : p1 = 1
  · have hf := ite_t c2 hf
    refine v_tabK K 44 c2 (a := 1) (by decide) (by decide) (by decide) rfl (by decide) dX6_portNumber_1 ?_
    refine v_aload_n K 0 rfl rfl dX6_portNumber_44 ?_
    refine gf_6_0 K h0 fl_X6_12 dX6_portNumber_45 ?_
    obtain ⟨r4, u3, e5, hf⟩ := bnd_of hf
    refine v_callVi K (c_X0_dataBits (ak_6_0 h0) e5) cv_X0_dataBits ml_X6_227 (am0_0 (ak_6_0 h0)) (ak_6_0 h0) kdX0 ⟨rfl, rfl, Nat.le_of_ble_eq_true rfl, Nat.le_of_ble_eq_true rfl⟩ rfl rfl (Nat.le_of_ble_eq_true rfl) dX6_portNumber_48 ?_
    obtain ⟨rfl, rfl⟩ := pair_of hf
    exact v_iret K dX6_portNumber_51
  have hf := ite_f c2 hf
  by_cases c6 : p1 = 2
  · have hf := ite_t c6 hf
    refine v_tabK K 52 c6 (a := 2) (by decide) (by decide) (by decide) rfl (by decide) dX6_portNumber_1 ?_
    refine v_aload_n K 0 rfl rfl dX6_portNumber_52 ?_
    refine gf_6_0 K h0 fl_X6_12 dX6_portNumber_53 ?_
    obtain ⟨r8, u7, e9, hf⟩ := bnd_of hf
    refine v_callVi K (c_X0_instructionBits (ak_6_0 h0) e9) cv_X0_instructionBits ml_X6_230 (am0_0 (ak_6_0 h0)) (ak_6_0 h0) kdX0 ⟨rfl, rfl, Nat.le_of_ble_eq_true rfl, Nat.le_of_ble_eq_true rfl⟩ rfl rfl (Nat.le_of_ble_eq_true rfl) dX6_portNumber_56 ?_
    obtain ⟨rfl, rfl⟩ := pair_of hf
    exact v_iret K dX6_portNumber_59
  have hf := ite_f c6 hf
  by_cases c10 : p1 = 3
  · have hf := ite_t c10 hf
    refine v_tabK K 60 c10 (a := 3) (by decide) (by decide) (by decide) rfl (by decide) dX6_portNumber_1 ?_
    refine v_aload_n K 0 rfl rfl dX6_portNumber_60 ?_
    refine gf_6_1 K h0 fl_X6_21 dX6_portNumber_61 ?_
    obtain ⟨r12, u11, e13, hf⟩ := bnd_of hf
    refine v_callVv K (c_X3_settleNow (ak_6_1 h0) e13) cv_X3_settleNow ml_X6_233 (am0_3 (ak_6_1 h0)) (ak_6_1 h0) kdX3 ⟨rfl, rfl, Nat.le_of_ble_eq_true rfl, Nat.le_of_ble_eq_true rfl⟩ rfl rfl (Nat.le_of_ble_eq_true rfl) dX6_portNumber_64 ?_
    refine v_aload_n K 0 rfl rfl dX6_portNumber_67 ?_
    refine gf_6_1 K h0 fl_X6_21 dX6_portNumber_68 ?_
    refine gf_3_5 K (ak_6_1 h0) fl_X6_236 dX6_portNumber_71 ?_
    obtain ⟨rfl, rfl⟩ := pair_of hf
    exact v_iret K dX6_portNumber_74
  have hf := ite_f c10 hf
  by_cases c14 : p1 = 4
  · have hf := ite_t c14 hf
    refine v_tabK K 75 c14 (a := 4) (by decide) (by decide) (by decide) rfl (by decide) dX6_portNumber_1 ?_
    refine v_aload_n K 0 rfl rfl dX6_portNumber_75 ?_
    refine gf_6_1 K h0 fl_X6_21 dX6_portNumber_76 ?_
    obtain ⟨r16, u15, e17, hf⟩ := bnd_of hf
    refine v_callVv K (c_X3_settleNow (ak_6_1 h0) e17) cv_X3_settleNow ml_X6_233 (am0_3 (ak_6_1 h0)) (ak_6_1 h0) kdX3 ⟨rfl, rfl, Nat.le_of_ble_eq_true rfl, Nat.le_of_ble_eq_true rfl⟩ rfl rfl (Nat.le_of_ble_eq_true rfl) dX6_portNumber_79 ?_
    refine v_aload_n K 0 rfl rfl dX6_portNumber_82 ?_
    refine gf_6_1 K h0 fl_X6_21 dX6_portNumber_83 ?_
    obtain ⟨r19, u18, e20, hf⟩ := bnd_of hf
    refine v_callVi K (c_X3_netsAtOne (ak_6_1 h0) e20) cv_X3_netsAtOne ml_X6_239 (am0_3 (ak_6_1 h0)) (ak_6_1 h0) kdX3 ⟨rfl, rfl, Nat.le_of_ble_eq_true rfl, Nat.le_of_ble_eq_true rfl⟩ rfl rfl (Nat.le_of_ble_eq_true rfl) dX6_portNumber_86 ?_
    obtain ⟨rfl, rfl⟩ := pair_of hf
    exact v_iret K dX6_portNumber_89
  have hf := ite_f c14 hf
  refine v_tabD K 90 (keys := [0, 1, 2, 3, 4]) (by decide) (by decide) (List.forall_mem_cons.mpr ⟨lv_neT c1 (by decide), (List.forall_mem_cons.mpr ⟨lv_neT c2 (by decide), (List.forall_mem_cons.mpr ⟨lv_neT c6 (by decide), (List.forall_mem_cons.mpr ⟨lv_neT c10 (by decide), (List.forall_mem_cons.mpr ⟨lv_neT c14 (by decide), (fun _ h => absurd h List.not_mem_nil)⟩)⟩)⟩)⟩)⟩) (by decide) dX6_portNumber_1 ?_
  refine v_bipush K (v := (-2)) (by decide) dX6_portNumber_90 ?_
  obtain ⟨rfl, rfl⟩ := pair_of hf
  exact v_iret K dX6_portNumber_92
abbrev rm_X6_port : Room := { frames := 4, cells := 0, slots := 0, locals := 88 }
set_option maxRecDepth 20000 in
theorem c_X6_port {X : Wx} {N : Nat} {o0 : Nat} {p1 : Int32} (h0 : akd o0 = 6) {u u' : ASt} {r : Int32} (hf : f_X6_port N o0 p1 u = some (r, u')) (l : Launch) : Met l yX6_port (ws_ yX6_port cX6_port 2 (some .int)) rm_X6_port (Pg 0 X u [.ref (X.2.1 o0), .int p1]) (Qg 0 X (some (.int r)) u') 0 0 (Aw 0 X) := by
  refine v_met (res := (some (.int r), u')) (by decide) (Nat.le_of_ble_eq_true rfl) (fun M K => ?_)
  have K : OkM 0 M X cX6_port 2 RX6 rm_X6_port (some .int) := K
  show V 0 M X (some (.int r), u') 2 0 [(0, .ref (X.2.1 o0)), (1, .int p1)] [] u
  unfold f_X6_port at hf
  refine v_aload_n K 0 rfl rfl dX6_port_0 ?_
  refine v_aload_n K 0 rfl rfl dX6_port_1 ?_
  refine v_iload_n K 1 rfl rfl dX6_port_2 ?_
  obtain ⟨r2, u1, e3, hf⟩ := bnd_of hf
  refine v_callVi K (c_X6_portNumber h0 e3) cv_X6_portNumber ml_X6_81 (am0_6 h0) h0 kdX6 ⟨rfl, rfl, Nat.le_of_ble_eq_true rfl, Nat.le_of_ble_eq_true rfl⟩ rfl rfl (Nat.le_of_ble_eq_true rfl) dX6_port_3 ?_
  obtain ⟨r5, u4, e6, hf⟩ := bnd_of hf
  refine v_callVi K (c_X6_counted h0 e6) cv_X6_counted ml_X6_84 (am0_6 h0) h0 kdX6 ⟨rfl, rfl, Nat.le_of_ble_eq_true rfl, Nat.le_of_ble_eq_true rfl⟩ rfl rfl (Nat.le_of_ble_eq_true rfl) dX6_port_6 ?_
  obtain ⟨rfl, rfl⟩ := pair_of hf
  exact v_iret K dX6_port_9
abbrev rm_X6_of : Room := { frames := 3, cells := 0, slots := 0, locals := 61 }
set_option maxRecDepth 20000 in
theorem c_X6_of {X : Wx} {N : Nat} {o0 : Nat} {p1 : Int32} {p2 : Int32} (h0 : akd o0 = 6) {u u' : ASt} {r : Int32} (hf : f_X6_of N o0 p1 p2 u = some (r, u')) (l : Launch) : Met l yX6_of (ws_ yX6_of cX6_of 3 (some .int)) rm_X6_of (Pg 0 X u [.ref (X.2.1 o0), .int p1, .int p2]) (Qg 0 X (some (.int r)) u') 0 0 (Aw 0 X) := by
  refine v_met (res := (some (.int r), u')) (by decide) (Nat.le_of_ble_eq_true rfl) (fun M K => ?_)
  have K : OkM 0 M X cX6_of 3 RX6 rm_X6_of (some .int) := K
  show V 0 M X (some (.int r), u') 3 0 [(0, .ref (X.2.1 o0)), (1, .int p1), (2, .int p2)] [] u
  unfold f_X6_of at hf
  refine v_aload_n K 0 rfl rfl dX6_of_0 ?_
  refine gf_6_0 K h0 fl_X6_12 dX6_of_1 ?_
  refine v_iload_n K 1 rfl rfl dX6_of_4 ?_
  obtain ⟨r2, u1, e3, hf⟩ := bnd_of hf
  refine v_callVi K (c_X0_hasChip (ak_6_0 h0) e3) cv_X0_hasChip ml_X6_87 (am0_0 (ak_6_0 h0)) (ak_6_0 h0) kdX0 ⟨rfl, rfl, Nat.le_of_ble_eq_true rfl, Nat.le_of_ble_eq_true rfl⟩ rfl rfl (Nat.le_of_ble_eq_true rfl) dX6_of_5 ?_
  refine v_if_ne K 18 (by decide) dX6_of_8 (fun c4 => ?_) (fun c4 => ?_)
  · have hf := ite_f c4 hf
    refine v_aload_n K 0 rfl rfl dX6_of_18 ?_
    refine v_aload_n K 0 rfl rfl dX6_of_19 ?_
    refine gf_6_0 K h0 fl_X6_12 dX6_of_20 ?_
    refine gf_0_0 K (ak_6_0 h0) fl_X6_91 dX6_of_23 ?_
    refine v_iload_n K 1 rfl rfl dX6_of_26 ?_
    obtain ⟨g5, hf⟩ := chk_of hf
    refine v_aald K (am0_11 (ak_0_0 (ak_6_0 h0))) (.inr (ak_0_0 (ak_6_0 h0))) g5 dX6_of_27 ?_
    refine v_iload_n K 2 rfl rfl dX6_of_28 ?_
    obtain ⟨r7, u6, e8, hf⟩ := bnd_of hf
    refine v_callVi K (c_X1_number (ae_11 (ak_0_0 (ak_6_0 h0)) g5) e8) cv_X1_number ml_X6_95 (am0_1 (ae_11 (ak_0_0 (ak_6_0 h0)) g5)) (ae_11 (ak_0_0 (ak_6_0 h0)) g5) kdX1 ⟨rfl, rfl, Nat.le_of_ble_eq_true rfl, Nat.le_of_ble_eq_true rfl⟩ rfl rfl (Nat.le_of_ble_eq_true rfl) dX6_of_29 ?_
    obtain ⟨r10, u9, e11, hf⟩ := bnd_of hf
    refine v_callVi K (c_X6_counted h0 e11) cv_X6_counted ml_X6_84 (am0_6 h0) h0 kdX6 ⟨rfl, rfl, Nat.le_of_ble_eq_true rfl, Nat.le_of_ble_eq_true rfl⟩ rfl rfl (Nat.le_of_ble_eq_true rfl) dX6_of_32 ?_
    obtain ⟨rfl, rfl⟩ := pair_of hf
    exact v_iret K dX6_of_35
  · have hf := ite_t c4 hf
    refine v_aload_n K 0 rfl rfl dX6_of_11 ?_
    refine v_bipush K (v := (-2)) (by decide) dX6_of_12 ?_
    obtain ⟨r13, u12, e14, hf⟩ := bnd_of hf
    refine v_callVi K (c_X6_counted h0 e14) cv_X6_counted ml_X6_84 (am0_6 h0) h0 kdX6 ⟨rfl, rfl, Nat.le_of_ble_eq_true rfl, Nat.le_of_ble_eq_true rfl⟩ rfl rfl (Nat.le_of_ble_eq_true rfl) dX6_of_14 ?_
    obtain ⟨rfl, rfl⟩ := pair_of hf
    exact v_iret K dX6_of_17
abbrev rm_X6_cellNumber : Room := { frames := 3, cells := 0, slots := 0, locals := 67 }
set_option maxRecDepth 20000 in
theorem c_X6_cellNumber {X : Wx} {N : Nat} {o0 : Nat} {p1 : Int32} {p2 : Int32} {p3 : Int32} (h0 : akd o0 = 6) {u u' : ASt} {r : Int32} (hf : f_X6_cellNumber N o0 p1 p2 p3 u = some (r, u')) (l : Launch) : Met l yX6_cellNumber (ws_ yX6_cellNumber cX6_cellNumber 5 (some .int)) rm_X6_cellNumber (Pg 0 X u [.ref (X.2.1 o0), .int p1, .int p2, .int p3]) (Qg 0 X (some (.int r)) u') 0 0 (Aw 0 X) := by
  refine v_met (res := (some (.int r), u')) (by decide) (Nat.le_of_ble_eq_true rfl) (fun M K => ?_)
  have K : OkM 0 M X cX6_cellNumber 5 RX6 rm_X6_cellNumber (some .int) := K
  show V 0 M X (some (.int r), u') 5 0 [(0, .ref (X.2.1 o0)), (1, .int p1), (2, .int p2), (3, .int p3)] [] u
  unfold f_X6_cellNumber at hf
  refine v_aload_n K 0 rfl rfl dX6_cellNumber_0 ?_
  refine gf_6_0 K h0 fl_X6_12 dX6_cellNumber_1 ?_
  refine gf_0_0 K (ak_6_0 h0) fl_X6_91 dX6_cellNumber_4 ?_
  refine v_iload_n K 1 rfl rfl dX6_cellNumber_7 ?_
  obtain ⟨g1, hf⟩ := chk_of hf
  refine v_aald K (am0_11 (ak_0_0 (ak_6_0 h0))) (.inr (ak_0_0 (ak_6_0 h0))) g1 dX6_cellNumber_8 ?_
  refine v_astore K (ls' := [(4, .ref (X.2.1 (arf (arf (arf o0 0) 0) (Int32.toNatClampNeg p1)))), (0, .ref (X.2.1 o0)), (1, .int p1), (2, .int p2), (3, .int p3)]) (by decide) rfl dX6_cellNumber_9 ?_
  refine v_iload_n K 4 rfl rfl dX6_cellNumber_11 ?_
  by_cases c2 : p3 = 0
  · have hf := ite_t c2 hf
    refine v_tabK K 40 c2 (a := 0) (by decide) (by decide) (by decide) rfl (by decide) dX6_cellNumber_12 ?_
    refine v_aload K 0 rfl dX6_cellNumber_40 ?_
    refine v_iload_n K 3 rfl rfl dX6_cellNumber_42 ?_
    obtain ⟨r4, u3, e5, hf⟩ := bnd_of hf
    refine v_callVi K (c_X1_isOutput (ae_11 (ak_0_0 (ak_6_0 h0)) g1) e5) cv_X1_isOutput ml_X6_134 (am0_1 (ae_11 (ak_0_0 (ak_6_0 h0)) g1)) (ae_11 (ak_0_0 (ak_6_0 h0)) g1) kdX1 ⟨rfl, rfl, Nat.le_of_ble_eq_true rfl, Nat.le_of_ble_eq_true rfl⟩ rfl rfl (Nat.le_of_ble_eq_true rfl) dX6_cellNumber_43 ?_
    refine v_if_eq K 53 (by decide) dX6_cellNumber_46 (fun c6 => ?_) (fun c6 => ?_)
    · have hf := ite_t c6 hf
      refine v_iconst K (v := 0) (by decide) dX6_cellNumber_53 ?_
      obtain ⟨rfl, rfl⟩ := pair_of hf
      exact v_iret K dX6_cellNumber_54
    · have hf := ite_f c6 hf
      refine v_iconst K (v := 1) (by decide) dX6_cellNumber_49 ?_
      refine v_goto K 54 (by decide) dX6_cellNumber_50 ?_
      obtain ⟨rfl, rfl⟩ := pair_of hf
      exact v_iret K dX6_cellNumber_54
  have hf := ite_f c2 hf
  by_cases c7 : p3 = 1
  · have hf := ite_t c7 hf
    refine v_tabK K 55 c7 (a := 1) (by decide) (by decide) (by decide) rfl (by decide) dX6_cellNumber_12 ?_
    refine v_aload K 0 rfl dX6_cellNumber_55 ?_
    refine gf_1_8 K (ae_11 (ak_0_0 (ak_6_0 h0)) g1) fl_X6_242 dX6_cellNumber_57 ?_
    refine v_iload_n K 3 rfl rfl dX6_cellNumber_60 ?_
    obtain ⟨g8, hf⟩ := chk_of hf
    refine v_iald K (am0_9 (ak_1_8 (ae_11 (ak_0_0 (ak_6_0 h0)) g1))) (.inl (ak_1_8 (ae_11 (ak_0_0 (ak_6_0 h0)) g1))) g8 dX6_cellNumber_61 ?_
    obtain ⟨rfl, rfl⟩ := pair_of hf
    exact v_iret K dX6_cellNumber_62
  have hf := ite_f c7 hf
  by_cases c9 : p3 = 2
  · have hf := ite_t c9 hf
    refine v_tabK K 63 c9 (a := 2) (by decide) (by decide) (by decide) rfl (by decide) dX6_cellNumber_12 ?_
    refine v_aload K 0 rfl dX6_cellNumber_63 ?_
    refine v_iload_n K 3 rfl rfl dX6_cellNumber_65 ?_
    obtain ⟨r11, u10, e12, hf⟩ := bnd_of hf
    refine v_callVi K (c_X1_isOutput (ae_11 (ak_0_0 (ak_6_0 h0)) g1) e12) cv_X1_isOutput ml_X6_134 (am0_1 (ae_11 (ak_0_0 (ak_6_0 h0)) g1)) (ae_11 (ak_0_0 (ak_6_0 h0)) g1) kdX1 ⟨rfl, rfl, Nat.le_of_ble_eq_true rfl, Nat.le_of_ble_eq_true rfl⟩ rfl rfl (Nat.le_of_ble_eq_true rfl) dX6_cellNumber_66 ?_
    refine v_if_eq K 82 (by decide) dX6_cellNumber_69 (fun c13 => ?_) (fun c13 => ?_)
    · have hf := ite_t c13 hf
      refine v_aload_n K 1 rfl rfl dX6_cellNumber_82 ?_
      refine gf_6_1 K h0 fl_X6_21 dX6_cellNumber_83 ?_
      obtain ⟨r15, u14, e16, hf⟩ := bnd_of hf
      refine v_callVv K (c_X3_settleNow (ak_6_1 h0) e16) cv_X3_settleNow ml_X6_233 (am0_3 (ak_6_1 h0)) (ak_6_1 h0) kdX3 ⟨rfl, rfl, Nat.le_of_ble_eq_true rfl, Nat.le_of_ble_eq_true rfl⟩ rfl rfl (Nat.le_of_ble_eq_true rfl) dX6_cellNumber_86 ?_
      refine v_aload_n K 1 rfl rfl dX6_cellNumber_89 ?_
      refine gf_6_1 K h0 fl_X6_21 dX6_cellNumber_90 ?_
      refine v_iload_n K 2 rfl rfl dX6_cellNumber_93 ?_
      refine v_iload_n K 3 rfl rfl dX6_cellNumber_94 ?_
      obtain ⟨r18, u17, e19, hf⟩ := bnd_of hf
      refine v_callVi K (c_X3_seenBy (ak_6_1 h0) e19) cv_X3_seenBy ml_X6_248 (am0_3 (ak_6_1 h0)) (ak_6_1 h0) kdX3 ⟨rfl, rfl, Nat.le_of_ble_eq_true rfl, Nat.le_of_ble_eq_true rfl⟩ rfl rfl (Nat.le_of_ble_eq_true rfl) dX6_cellNumber_95 ?_
      obtain ⟨rfl, rfl⟩ := pair_of hf
      exact v_iret K dX6_cellNumber_98
    · have hf := ite_f c13 hf
      refine v_aload K 0 rfl dX6_cellNumber_72 ?_
      refine gf_1_5 K (ae_11 (ak_0_0 (ak_6_0 h0)) g1) fl_X6_245 dX6_cellNumber_74 ?_
      refine v_iload_n K 3 rfl rfl dX6_cellNumber_77 ?_
      refine v_ishr K dX6_cellNumber_78 ?_
      refine v_iconst K (v := 1) (by decide) dX6_cellNumber_79 ?_
      refine v_iand K dX6_cellNumber_80 ?_
      obtain ⟨rfl, rfl⟩ := pair_of hf
      exact v_iret K dX6_cellNumber_81
  have hf := ite_f c9 hf
  refine v_tabD K 99 (keys := [0, 1, 2]) (by decide) (by decide) (List.forall_mem_cons.mpr ⟨lv_neT c2 (by decide), (List.forall_mem_cons.mpr ⟨lv_neT c7 (by decide), (List.forall_mem_cons.mpr ⟨lv_neT c9 (by decide), (fun _ h => absurd h List.not_mem_nil)⟩)⟩)⟩) (by decide) dX6_cellNumber_12 ?_
  refine v_bipush K (v := (-2)) (by decide) dX6_cellNumber_99 ?_
  obtain ⟨rfl, rfl⟩ := pair_of hf
  exact v_iret K dX6_cellNumber_101
abbrev rm_X6_about : Room := { frames := 4, cells := 0, slots := 0, locals := 91 }
set_option maxRecDepth 20000 in
theorem c_X6_about {X : Wx} {N : Nat} {o0 : Nat} {p1 : Int32} {p2 : Int32} {p3 : Int32} (h0 : akd o0 = 6) {u u' : ASt} {r : Int32} (hf : f_X6_about N o0 p1 p2 p3 u = some (r, u')) (l : Launch) : Met l yX6_about (ws_ yX6_about cX6_about 4 (some .int)) rm_X6_about (Pg 0 X u [.ref (X.2.1 o0), .int p1, .int p2, .int p3]) (Qg 0 X (some (.int r)) u') 0 0 (Aw 0 X) := by
  refine v_met (res := (some (.int r), u')) (by decide) (Nat.le_of_ble_eq_true rfl) (fun M K => ?_)
  have K : OkM 0 M X cX6_about 4 RX6 rm_X6_about (some .int) := K
  show V 0 M X (some (.int r), u') 4 0 [(0, .ref (X.2.1 o0)), (1, .int p1), (2, .int p2), (3, .int p3)] [] u
  unfold f_X6_about at hf
  refine v_aload_n K 0 rfl rfl dX6_about_0 ?_
  refine gf_6_0 K h0 fl_X6_12 dX6_about_1 ?_
  refine v_iload_n K 1 rfl rfl dX6_about_4 ?_
  refine v_iload_n K 2 rfl rfl dX6_about_5 ?_
  obtain ⟨r2, u1, e3, hf⟩ := bnd_of hf
  refine v_callVi K (c_X0_hasCell (ak_6_0 h0) e3) cv_X0_hasCell ml_X6_100 (am0_0 (ak_6_0 h0)) (ak_6_0 h0) kdX0 ⟨rfl, rfl, Nat.le_of_ble_eq_true rfl, Nat.le_of_ble_eq_true rfl⟩ rfl rfl (Nat.le_of_ble_eq_true rfl) dX6_about_6 ?_
  refine v_if_ne K 19 (by decide) dX6_about_9 (fun c4 => ?_) (fun c4 => ?_)
  · have hf := ite_f c4 hf
    refine v_aload_n K 0 rfl rfl dX6_about_19 ?_
    refine v_aload_n K 0 rfl rfl dX6_about_20 ?_
    refine v_iload_n K 1 rfl rfl dX6_about_21 ?_
    refine v_iload_n K 2 rfl rfl dX6_about_22 ?_
    refine v_iload_n K 3 rfl rfl dX6_about_23 ?_
    obtain ⟨r6, u5, e7, hf⟩ := bnd_of hf
    refine v_callVi K (c_X6_cellNumber h0 e7) cv_X6_cellNumber ml_X6_104 (am0_6 h0) h0 kdX6 ⟨rfl, rfl, Nat.le_of_ble_eq_true rfl, Nat.le_of_ble_eq_true rfl⟩ rfl rfl (Nat.le_of_ble_eq_true rfl) dX6_about_24 ?_
    obtain ⟨r9, u8, e10, hf⟩ := bnd_of hf
    refine v_callVi K (c_X6_counted h0 e10) cv_X6_counted ml_X6_84 (am0_6 h0) h0 kdX6 ⟨rfl, rfl, Nat.le_of_ble_eq_true rfl, Nat.le_of_ble_eq_true rfl⟩ rfl rfl (Nat.le_of_ble_eq_true rfl) dX6_about_27 ?_
    obtain ⟨rfl, rfl⟩ := pair_of hf
    exact v_iret K dX6_about_30
  · have hf := ite_t c4 hf
    refine v_aload_n K 0 rfl rfl dX6_about_12 ?_
    refine v_bipush K (v := (-2)) (by decide) dX6_about_13 ?_
    obtain ⟨r12, u11, e13, hf⟩ := bnd_of hf
    refine v_callVi K (c_X6_counted h0 e13) cv_X6_counted ml_X6_84 (am0_6 h0) h0 kdX6 ⟨rfl, rfl, Nat.le_of_ble_eq_true rfl, Nat.le_of_ble_eq_true rfl⟩ rfl rfl (Nat.le_of_ble_eq_true rfl) dX6_about_15 ?_
    obtain ⟨rfl, rfl⟩ := pair_of hf
    exact v_iret K dX6_about_18
abbrev rm_X6_count : Room := { frames := 2, cells := 0, slots := 0, locals := 43 }
set_option maxRecDepth 20000 in
theorem c_X6_count {X : Wx} {N : Nat} {o0 : Nat} {p1 : Int32} (h0 : akd o0 = 6) {u u' : ASt} {r : Int32} (hf : f_X6_count N o0 p1 u = some (r, u')) (l : Launch) : Met l yX6_count (ws_ yX6_count cX6_count 2 (some .int)) rm_X6_count (Pg 0 X u [.ref (X.2.1 o0), .int p1]) (Qg 0 X (some (.int r)) u') 0 0 (Aw 0 X) := by
  refine v_met (res := (some (.int r), u')) (by decide) (Nat.le_of_ble_eq_true rfl) (fun M K => ?_)
  have K : OkM 0 M X cX6_count 2 RX6 rm_X6_count (some .int) := K
  show V 0 M X (some (.int r), u') 2 0 [(0, .ref (X.2.1 o0)), (1, .int p1)] [] u
  unfold f_X6_count at hf
  refine v_aload_n K 0 rfl rfl dX6_count_0 ?_
  refine v_aload_n K 0 rfl rfl dX6_count_1 ?_
  refine gf_6_0 K h0 fl_X6_12 dX6_count_2 ?_
  refine v_iload_n K 1 rfl rfl dX6_count_5 ?_
  obtain ⟨r2, u1, e3, hf⟩ := bnd_of hf
  refine v_callVi K (c_X0_number (ak_6_0 h0) e3) cv_X0_number ml_X6_107 (am0_0 (ak_6_0 h0)) (ak_6_0 h0) kdX0 ⟨rfl, rfl, Nat.le_of_ble_eq_true rfl, Nat.le_of_ble_eq_true rfl⟩ rfl rfl (Nat.le_of_ble_eq_true rfl) dX6_count_6 ?_
  obtain ⟨r5, u4, e6, hf⟩ := bnd_of hf
  refine v_callVi K (c_X6_counted h0 e6) cv_X6_counted ml_X6_84 (am0_6 h0) h0 kdX6 ⟨rfl, rfl, Nat.le_of_ble_eq_true rfl, Nat.le_of_ble_eq_true rfl⟩ rfl rfl (Nat.le_of_ble_eq_true rfl) dX6_count_9 ?_
  obtain ⟨rfl, rfl⟩ := pair_of hf
  exact v_iret K dX6_count_12
abbrev rm_X6_fault : Room := { frames := 1, cells := 0, slots := 0, locals := 21 }
set_option maxRecDepth 20000 in
theorem c_X6_fault {X : Wx} {N : Nat} {o0 : Nat} {p1 : Int32} (h0 : akd o0 = 6) {u u' : ASt} {r : Int32} (hf : f_X6_fault N o0 p1 u = some (r, u')) (l : Launch) : Met l yX6_fault (ws_ yX6_fault cX6_fault 2 (some .int)) rm_X6_fault (Pg 0 X u [.ref (X.2.1 o0), .int p1]) (Qg 0 X (some (.int r)) u') 0 0 (Aw 0 X) := by
  refine v_met (res := (some (.int r), u')) (by decide) (Nat.le_of_ble_eq_true rfl) (fun M K => ?_)
  have K : OkM 0 M X cX6_fault 2 RX6 rm_X6_fault (some .int) := K
  show V 0 M X (some (.int r), u') 2 0 [(0, .ref (X.2.1 o0)), (1, .int p1)] [] u
  unfold f_X6_fault at hf
  refine v_iload_n K 1 rfl rfl dX6_fault_0 ?_
  refine v_if_ge K 11 (by decide) dX6_fault_1 (fun c1 => ?_) (fun c1 => ?_)
  · have hf := ite_t c1 hf
    refine v_iload_n K 1 rfl rfl dX6_fault_11 ?_
    refine v_aload_n K 0 rfl rfl dX6_fault_12 ?_
    refine gf_6_0 K h0 fl_X6_12 dX6_fault_13 ?_
    refine gf_0_3 K (ak_6_0 h0) fl_X6_108 dX6_fault_16 ?_
    refine v_icmp_ge K 34 (by decide) dX6_fault_19 (fun c2 => ?_) (fun c2 => ?_)
    · have hf := ite_t c2 hf
      refine v_iconst K (v := (-1)) (by decide) dX6_fault_34 ?_
      obtain ⟨rfl, rfl⟩ := pair_of hf
      exact v_iret K dX6_fault_35
    · have hf := ite_f c2 hf
      refine v_aload_n K 0 rfl rfl dX6_fault_22 ?_
      refine gf_6_0 K h0 fl_X6_12 dX6_fault_23 ?_
      refine gf_0_2 K (ak_6_0 h0) fl_X6_112 dX6_fault_26 ?_
      refine v_iload_n K 1 rfl rfl dX6_fault_29 ?_
      obtain ⟨g3, hf⟩ := chk_of hf
      refine v_iald K (am0_9 (ak_0_2 (ak_6_0 h0))) (.inl (ak_0_2 (ak_6_0 h0))) g3 dX6_fault_30 ?_
      refine v_goto K 35 (by decide) dX6_fault_31 ?_
      obtain ⟨rfl, rfl⟩ := pair_of hf
      exact v_iret K dX6_fault_35
  · have hf := ite_f c1 hf
    refine v_aload_n K 0 rfl rfl dX6_fault_4 ?_
    refine v_bipush K (v := (-2)) (by decide) dX6_fault_5 ?_
    obtain ⟨r5, u4, e6, hf⟩ := bnd_of hf
    refine v_callVi K (c_X6_counted h0 e6) cv_X6_counted ml_X6_84 (am0_6 h0) h0 kdX6 ⟨rfl, rfl, Nat.le_of_ble_eq_true rfl, Nat.le_of_ble_eq_true rfl⟩ rfl rfl (Nat.le_of_ble_eq_true rfl) dX6_fault_7 ?_
    obtain ⟨rfl, rfl⟩ := pair_of hf
    exact v_iret K dX6_fault_10
abbrev rm_X6_patterns : Room := { frames := 3, cells := 0, slots := 0, locals := 63 }
set_option maxRecDepth 20000 in
theorem c_X6_patterns {X : Wx} {N : Nat} {o0 : Nat} {p1 : Int32} (h0 : akd o0 = 6) {u u' : ASt} {r : Int32} (hf : f_X6_patterns N o0 p1 u = some (r, u')) (l : Launch) : Met l yX6_patterns (ws_ yX6_patterns cX6_patterns 2 (some .int)) rm_X6_patterns (Pg 0 X u [.ref (X.2.1 o0), .int p1]) (Qg 0 X (some (.int r)) u') 0 0 (Aw 0 X) := by
  refine v_met (res := (some (.int r), u')) (by decide) (Nat.le_of_ble_eq_true rfl) (fun M K => ?_)
  have K : OkM 0 M X cX6_patterns 2 RX6 rm_X6_patterns (some .int) := K
  show V 0 M X (some (.int r), u') 2 0 [(0, .ref (X.2.1 o0)), (1, .int p1)] [] u
  unfold f_X6_patterns at hf
  refine v_iload_n K 1 rfl rfl dX6_patterns_0 ?_
  obtain ⟨r2, u1, e3, hf⟩ := bnd_of hf
  refine v_callSi K (c_X6_isBit e3) cv_X6_isBit ml_X6_116 ⟨rfl, rfl, Nat.le_of_ble_eq_true rfl, Nat.le_of_ble_eq_true rfl⟩ rfl rfl (Nat.le_of_ble_eq_true rfl) dX6_patterns_1 ?_
  refine v_if_eq K 18 (by decide) dX6_patterns_4 (fun c4 => ?_) (fun c4 => ?_)
  · have hf := ite_t c4 hf
    refine v_aload_n K 0 rfl rfl dX6_patterns_18 ?_
    refine v_bipush K (v := (-2)) (by decide) dX6_patterns_19 ?_
    obtain ⟨r6, u5, e7, hf⟩ := bnd_of hf
    refine v_callVi K (c_X6_counted h0 e7) cv_X6_counted ml_X6_84 (am0_6 h0) h0 kdX6 ⟨rfl, rfl, Nat.le_of_ble_eq_true rfl, Nat.le_of_ble_eq_true rfl⟩ rfl rfl (Nat.le_of_ble_eq_true rfl) dX6_patterns_21 ?_
    obtain ⟨rfl, rfl⟩ := pair_of hf
    exact v_iret K dX6_patterns_24
  · have hf := ite_f c4 hf
    refine v_aload_n K 0 rfl rfl dX6_patterns_7 ?_
    refine gf_6_2 K h0 fl_X6_28 dX6_patterns_8 ?_
    refine v_iload_n K 1 rfl rfl dX6_patterns_11 ?_
    obtain ⟨r9, u8, e10, hf⟩ := bnd_of hf
    refine v_callVi K (c_X4_patternCount (ak_6_2 h0) e10) cv_X4_patternCount ml_X6_119 (am0_4 (ak_6_2 h0)) (ak_6_2 h0) kdX4 ⟨rfl, rfl, Nat.le_of_ble_eq_true rfl, Nat.le_of_ble_eq_true rfl⟩ rfl rfl (Nat.le_of_ble_eq_true rfl) dX6_patterns_12 ?_
    refine v_goto K 24 (by decide) dX6_patterns_15 ?_
    obtain ⟨rfl, rfl⟩ := pair_of hf
    exact v_iret K dX6_patterns_24
abbrev rm_X6_pattern : Room := { frames := 4, cells := 0, slots := 0, locals := 90 }
set_option maxRecDepth 20000 in
theorem t_X6_pattern_30 {M : Mx} {X : Wx} {N : Nat} {o0 : Nat} {p1 : Int32} {p2 : Int32} {p3 : Int32} (h0 : akd o0 = 6) {r : Int32} {u' : ASt} (K : OkM 0 M X cX6_pattern 4 RX6 rm_X6_pattern (some .int)) {u : ASt} (hf : f_X6_pattern_30 N o0 p1 p2 p3  u = some (r, u')) : V 0 M X (some (.int r), u') 4 30 [(0, .ref (X.2.1 o0))] [] u := by
  unfold f_X6_pattern_30 at hf
  refine v_aload_n K 0 rfl rfl dX6_pattern_30 ?_
  refine v_bipush K (v := (-2)) (by decide) dX6_pattern_31 ?_
  obtain ⟨r2, u1, e3, hf⟩ := bnd_of hf
  refine v_callVi K (c_X6_counted h0 e3) cv_X6_counted ml_X6_84 (am0_6 h0) h0 kdX6 ⟨rfl, rfl, Nat.le_of_ble_eq_true rfl, Nat.le_of_ble_eq_true rfl⟩ rfl rfl (Nat.le_of_ble_eq_true rfl) dX6_pattern_33 ?_
  obtain ⟨rfl, rfl⟩ := pair_of hf
  exact v_iret K dX6_pattern_36
set_option maxRecDepth 20000 in
theorem c_X6_pattern {X : Wx} {N : Nat} {o0 : Nat} {p1 : Int32} {p2 : Int32} {p3 : Int32} (h0 : akd o0 = 6) {u u' : ASt} {r : Int32} (hf : f_X6_pattern N o0 p1 p2 p3 u = some (r, u')) (l : Launch) : Met l yX6_pattern (ws_ yX6_pattern cX6_pattern 4 (some .int)) rm_X6_pattern (Pg 0 X u [.ref (X.2.1 o0), .int p1, .int p2, .int p3]) (Qg 0 X (some (.int r)) u') 0 0 (Aw 0 X) := by
  refine v_met (res := (some (.int r), u')) (by decide) (Nat.le_of_ble_eq_true rfl) (fun M K => ?_)
  have K : OkM 0 M X cX6_pattern 4 RX6 rm_X6_pattern (some .int) := K
  show V 0 M X (some (.int r), u') 4 0 [(0, .ref (X.2.1 o0)), (1, .int p1), (2, .int p2), (3, .int p3)] [] u
  unfold f_X6_pattern at hf
  refine v_iload_n K 1 rfl rfl dX6_pattern_0 ?_
  obtain ⟨r5, u4, e6, hf⟩ := bnd_of hf
  refine v_callSi K (c_X6_isBit e6) cv_X6_isBit ml_X6_116 ⟨rfl, rfl, Nat.le_of_ble_eq_true rfl, Nat.le_of_ble_eq_true rfl⟩ rfl rfl (Nat.le_of_ble_eq_true rfl) dX6_pattern_1 ?_
  refine v_if_eq K 30 (by decide) dX6_pattern_4 (fun c7 => ?_) (fun c7 => ?_)
  · have hf := ite_t c7 hf
    refine v_sub [0] rfl ?_
    exact t_X6_pattern_30 h0 K hf
  · have hf := ite_f c7 hf
    refine v_iload_n K 3 rfl rfl dX6_pattern_7 ?_
    obtain ⟨r9, u8, e10, hf⟩ := bnd_of hf
    refine v_callSi K (c_X6_isNet e10) cv_X6_isNet ml_X6_122 ⟨rfl, rfl, Nat.le_of_ble_eq_true rfl, Nat.le_of_ble_eq_true rfl⟩ rfl rfl (Nat.le_of_ble_eq_true rfl) dX6_pattern_8 ?_
    refine v_if_eq K 30 (by decide) dX6_pattern_11 (fun c11 => ?_) (fun c11 => ?_)
    · have hf := ite_t c11 hf
      refine v_sub [0] rfl ?_
      exact t_X6_pattern_30 h0 K hf
    · have hf := ite_f c11 hf
      refine v_iload_n K 2 rfl rfl dX6_pattern_14 ?_
      refine v_if_lt K 30 (by decide) dX6_pattern_15 (fun c12 => ?_) (fun c12 => ?_)
      · have hf := ite_t c12 hf
        refine v_sub [0] rfl ?_
        exact t_X6_pattern_30 h0 K hf
      · have hf := ite_f c12 hf
        refine v_iload_n K 2 rfl rfl dX6_pattern_18 ?_
        refine v_aload_n K 0 rfl rfl dX6_pattern_19 ?_
        refine gf_6_2 K h0 fl_X6_28 dX6_pattern_20 ?_
        refine v_iload_n K 1 rfl rfl dX6_pattern_23 ?_
        obtain ⟨r14, u13, e15, hf⟩ := bnd_of hf
        refine v_callVi K (c_X4_patternCount (ak_6_2 h0) e15) cv_X4_patternCount ml_X6_119 (am0_4 (ak_6_2 h0)) (ak_6_2 h0) kdX4 ⟨rfl, rfl, Nat.le_of_ble_eq_true rfl, Nat.le_of_ble_eq_true rfl⟩ rfl rfl (Nat.le_of_ble_eq_true rfl) dX6_pattern_24 ?_
        refine v_icmp_lt K 37 (by decide) dX6_pattern_27 (fun c16 => ?_) (fun c16 => ?_)
        · have hf := ite_t c16 hf
          refine v_aload_n K 0 rfl rfl dX6_pattern_37 ?_
          refine gf_6_0 K h0 fl_X6_12 dX6_pattern_38 ?_
          refine gf_0_6 K (ak_6_0 h0) fl_X6_125 dX6_pattern_41 ?_
          refine v_iload_n K 3 rfl rfl dX6_pattern_44 ?_
          obtain ⟨r18, u17, e19, hf⟩ := bnd_of hf
          refine v_callSi K (c_X6_isMember e19) cv_X6_isMember ml_X6_128 ⟨rfl, rfl, Nat.le_of_ble_eq_true rfl, Nat.le_of_ble_eq_true rfl⟩ rfl rfl (Nat.le_of_ble_eq_true rfl) dX6_pattern_45 ?_
          refine v_if_ne K 53 (by decide) dX6_pattern_48 (fun c20 => ?_) (fun c20 => ?_)
          · have hf := ite_f c20 hf
            refine v_aload_n K 0 rfl rfl dX6_pattern_53 ?_
            refine gf_6_2 K h0 fl_X6_28 dX6_pattern_54 ?_
            refine v_iload_n K 1 rfl rfl dX6_pattern_57 ?_
            refine v_iload_n K 3 rfl rfl dX6_pattern_58 ?_
            obtain ⟨r22, u21, e23, hf⟩ := bnd_of hf
            refine v_callVi K (c_X4_stimulus (ak_6_2 h0) e23) cv_X4_stimulus ml_X6_131 (am0_4 (ak_6_2 h0)) (ak_6_2 h0) kdX4 ⟨rfl, rfl, Nat.le_of_ble_eq_true rfl, Nat.le_of_ble_eq_true rfl⟩ rfl rfl (Nat.le_of_ble_eq_true rfl) dX6_pattern_59 ?_
            refine v_iload_n K 2 rfl rfl dX6_pattern_62 ?_
            refine v_ishr K dX6_pattern_63 ?_
            refine v_iconst K (v := 1) (by decide) dX6_pattern_64 ?_
            refine v_iand K dX6_pattern_65 ?_
            obtain ⟨rfl, rfl⟩ := pair_of hf
            exact v_iret K dX6_pattern_66
          · have hf := ite_t c20 hf
            refine v_iconst K (v := (-1)) (by decide) dX6_pattern_51 ?_
            obtain ⟨rfl, rfl⟩ := pair_of hf
            exact v_iret K dX6_pattern_52
        · have hf := ite_f c16 hf
          refine v_sub [0] rfl ?_
          exact t_X6_pattern_30 h0 K hf
