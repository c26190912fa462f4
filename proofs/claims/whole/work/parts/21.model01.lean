abbrev rm_X7_bad : Room := { frames := 0, cells := 0, slots := 0, locals := 0 }
set_option maxRecDepth 20000 in
theorem c_X7_bad {X : Wx} {N : Nat} {o0 : Nat} (h0 : akd o0 = 7) {u u' : ASt} {r : Int32} (hf : f_X7_bad N o0 u = some (r, u')) (l : Launch) : Met l yX7_bad (ws_ yX7_bad cX7_bad 1 (some .int)) rm_X7_bad (Pg 1 X u [.ref (X.2.1 o0)]) (Qg 1 X (some (.int r)) u') 0 0 (Aw 1 X) := by
  refine v_met (res := (some (.int r), u')) (by decide) (Nat.le_of_ble_eq_true rfl) (fun M K => ?_)
  have K : OkM 1 M X cX7_bad 1 RX7 rm_X7_bad (some .int) := K
  show V 1 M X (some (.int r), u') 1 0 [(0, .ref (X.2.1 o0))] [] u
  unfold f_X7_bad at hf
  refine v_aload_n K 0 rfl rfl dX7_bad_0 ?_
  refine gf_7_4 K h0 fl_X7_19 dX7_bad_1 ?_
  refine v_iconst K (v := 0) (by decide) dX7_bad_4 ?_
  refine v_dup2 K rfl rfl dX7_bad_5 ?_
  obtain ⟨g1, hf⟩ := chk_of hf
  refine v_iald K (am1_12 (ak_7_4 h0)) (.inr (ak_7_4 h0)) g1 dX7_bad_6 ?_
  refine v_iconst K (v := 1) (by decide) dX7_bad_7 ?_
  refine v_iadd K dX7_bad_8 ?_
  obtain ⟨g2, hf⟩ := chk_of hf
  refine v_iast K (am1_12 (ak_7_4 h0)) (.inr (ak_7_4 h0)) g2 dX7_bad_9 ?_
  refine v_st (fun u3 eu3 => ?_)
  have hf := lte_of eu3 hf
  refine v_bipush K (v := (-2)) (by decide) dX7_bad_10 ?_
  obtain ⟨rfl, rfl⟩ := pair_of hf
  exact v_iret K dX7_bad_12
abbrev rm_X7_no : Room := { frames := 0, cells := 0, slots := 0, locals := 0 }
set_option maxRecDepth 20000 in
theorem c_X7_no {X : Wx} {N : Nat} {o0 : Nat} (h0 : akd o0 = 7) {u u' : ASt} {r : Int32} (hf : f_X7_no N o0 u = some (r, u')) (l : Launch) : Met l yX7_no (ws_ yX7_no cX7_no 1 (some .int)) rm_X7_no (Pg 1 X u [.ref (X.2.1 o0)]) (Qg 1 X (some (.int r)) u') 0 0 (Aw 1 X) := by
  refine v_met (res := (some (.int r), u')) (by decide) (Nat.le_of_ble_eq_true rfl) (fun M K => ?_)
  have K : OkM 1 M X cX7_no 1 RX7 rm_X7_no (some .int) := K
  show V 1 M X (some (.int r), u') 1 0 [(0, .ref (X.2.1 o0))] [] u
  unfold f_X7_no at hf
  refine v_aload_n K 0 rfl rfl dX7_no_0 ?_
  refine gf_7_4 K h0 fl_X7_19 dX7_no_1 ?_
  refine v_iconst K (v := 1) (by decide) dX7_no_4 ?_
  refine v_dup2 K rfl rfl dX7_no_5 ?_
  obtain ⟨g1, hf⟩ := chk_of hf
  refine v_iald K (am1_12 (ak_7_4 h0)) (.inr (ak_7_4 h0)) g1 dX7_no_6 ?_
  refine v_iconst K (v := 1) (by decide) dX7_no_7 ?_
  refine v_iadd K dX7_no_8 ?_
  obtain ⟨g2, hf⟩ := chk_of hf
  refine v_iast K (am1_12 (ak_7_4 h0)) (.inr (ak_7_4 h0)) g2 dX7_no_9 ?_
  refine v_st (fun u3 eu3 => ?_)
  have hf := lte_of eu3 hf
  refine v_bipush K (v := (-3)) (by decide) dX7_no_10 ?_
  obtain ⟨rfl, rfl⟩ := pair_of hf
  exact v_iret K dX7_no_12
abbrev rm_X7_full : Room := { frames := 0, cells := 0, slots := 0, locals := 0 }
set_option maxRecDepth 20000 in
theorem c_X7_full {X : Wx} {N : Nat} {o0 : Nat} (h0 : akd o0 = 7) {u u' : ASt} {r : Int32} (hf : f_X7_full N o0 u = some (r, u')) (l : Launch) : Met l yX7_full (ws_ yX7_full cX7_full 1 (some .int)) rm_X7_full (Pg 1 X u [.ref (X.2.1 o0)]) (Qg 1 X (some (.int r)) u') 0 0 (Aw 1 X) := by
  refine v_met (res := (some (.int r), u')) (by decide) (Nat.le_of_ble_eq_true rfl) (fun M K => ?_)
  have K : OkM 1 M X cX7_full 1 RX7 rm_X7_full (some .int) := K
  show V 1 M X (some (.int r), u') 1 0 [(0, .ref (X.2.1 o0))] [] u
  unfold f_X7_full at hf
  refine v_aload_n K 0 rfl rfl dX7_full_0 ?_
  refine gf_7_4 K h0 fl_X7_19 dX7_full_1 ?_
  refine v_iconst K (v := 2) (by decide) dX7_full_4 ?_
  refine v_dup2 K rfl rfl dX7_full_5 ?_
  obtain ⟨g1, hf⟩ := chk_of hf
  refine v_iald K (am1_12 (ak_7_4 h0)) (.inr (ak_7_4 h0)) g1 dX7_full_6 ?_
  refine v_iconst K (v := 1) (by decide) dX7_full_7 ?_
  refine v_iadd K dX7_full_8 ?_
  obtain ⟨g2, hf⟩ := chk_of hf
  refine v_iast K (am1_12 (ak_7_4 h0)) (.inr (ak_7_4 h0)) g2 dX7_full_9 ?_
  refine v_st (fun u3 eu3 => ?_)
  have hf := lte_of eu3 hf
  refine v_bipush K (v := (-4)) (by decide) dX7_full_10 ?_
  obtain ⟨rfl, rfl⟩ := pair_of hf
  exact v_iret K dX7_full_12
abbrev rm_X7_within : Room := { frames := 0, cells := 0, slots := 0, locals := 0 }
set_option maxRecDepth 20000 in
theorem t_X7_within_14 {M : Mx} {X : Wx} {N : Nat} {p1 : Int32} {p2 : Int32} {p3 : Int32} {r : Int32} {u' : ASt} (K : OkM 1 M X cX7_within 3 RX7 rm_X7_within (some .boolean)) {u : ASt} (hf : f_X7_within_14 N p1 p2 p3  u = some (r, u')) : V 1 M X (some (.int r), u') 3 14 [] [] u := by
  unfold f_X7_within_14 at hf
  refine v_iconst K (v := 0) (by decide) dX7_within_14 ?_
  obtain ⟨rfl, rfl⟩ := pair_of hf
  exact v_zret K (by decide) dX7_within_15
set_option maxRecDepth 20000 in
theorem c_X7_within {X : Wx} {N : Nat} {p1 : Int32} {p2 : Int32} {p3 : Int32} {u u' : ASt} {r : Int32} (hf : f_X7_within N p1 p2 p3 u = some (r, u')) (l : Launch) : Met l yX7_within (ws_ yX7_within cX7_within 3 (some .boolean)) rm_X7_within (Pg 1 X u [.int p1, .int p2, .int p3]) (Qg 1 X (some (.int r)) u') 0 0 (Aw 1 X) := by
  refine v_met (res := (some (.int r), u')) (by decide) (Nat.le_of_ble_eq_true rfl) (fun M K => ?_)
  have K : OkM 1 M X cX7_within 3 RX7 rm_X7_within (some .boolean) := K
  show V 1 M X (some (.int r), u') 3 0 [(0, .int p1), (1, .int p2), (2, .int p3)] [] u
  unfold f_X7_within at hf
  refine v_iload_n K 0 rfl rfl dX7_within_0 ?_
  refine v_iload_n K 1 rfl rfl dX7_within_1 ?_
  refine v_icmp_lt K 14 (by decide) dX7_within_2 (fun c1 => ?_) (fun c1 => ?_)
  · have hf := ite_t c1 hf
    refine v_sub [] rfl ?_
    exact t_X7_within_14 K hf
  · have hf := ite_f c1 hf
    refine v_iload_n K 0 rfl rfl dX7_within_5 ?_
    refine v_iload_n K 2 rfl rfl dX7_within_6 ?_
    refine v_icmp_gt K 14 (by decide) dX7_within_7 (fun c2 => ?_) (fun c2 => ?_)
    · have hf := ite_t c2 hf
      refine v_sub [] rfl ?_
      exact t_X7_within_14 K hf
    · have hf := ite_f c2 hf
      refine v_iconst K (v := 1) (by decide) dX7_within_10 ?_
      refine v_goto K 15 (by decide) dX7_within_11 ?_
      obtain ⟨rfl, rfl⟩ := pair_of hf
      exact v_zret K (by decide) dX7_within_15
abbrev rm_X7_isBit : Room := { frames := 0, cells := 0, slots := 0, locals := 0 }
set_option maxRecDepth 20000 in
theorem t_X7_isBit_9 {M : Mx} {X : Wx} {N : Nat} {p1 : Int32} {r : Int32} {u' : ASt} (K : OkM 1 M X cX7_isBit 1 RX7 rm_X7_isBit (some .boolean)) {u : ASt} (hf : f_X7_isBit_9 N p1  u = some (r, u')) : V 1 M X (some (.int r), u') 1 9 [] [] u := by
  unfold f_X7_isBit_9 at hf
  refine v_iconst K (v := 1) (by decide) dX7_isBit_9 ?_
  refine v_goto K 14 (by decide) dX7_isBit_10 ?_
  obtain ⟨rfl, rfl⟩ := pair_of hf
  exact v_zret K (by decide) dX7_isBit_14
set_option maxRecDepth 20000 in
theorem c_X7_isBit {X : Wx} {N : Nat} {p1 : Int32} {u u' : ASt} {r : Int32} (hf : f_X7_isBit N p1 u = some (r, u')) (l : Launch) : Met l yX7_isBit (ws_ yX7_isBit cX7_isBit 1 (some .boolean)) rm_X7_isBit (Pg 1 X u [.int p1]) (Qg 1 X (some (.int r)) u') 0 0 (Aw 1 X) := by
  refine v_met (res := (some (.int r), u')) (by decide) (Nat.le_of_ble_eq_true rfl) (fun M K => ?_)
  have K : OkM 1 M X cX7_isBit 1 RX7 rm_X7_isBit (some .boolean) := K
  show V 1 M X (some (.int r), u') 1 0 [(0, .int p1)] [] u
  unfold f_X7_isBit at hf
  refine v_iload_n K 0 rfl rfl dX7_isBit_0 ?_
  refine v_if_eq K 9 (by decide) dX7_isBit_1 (fun c1 => ?_) (fun c1 => ?_)
  · have hf := ite_t c1 hf
    refine v_sub [] rfl ?_
    exact t_X7_isBit_9 K hf
  · have hf := ite_f c1 hf
    refine v_iload_n K 0 rfl rfl dX7_isBit_4 ?_
    refine v_iconst K (v := 1) (by decide) dX7_isBit_5 ?_
    refine v_icmp_ne K 13 (by decide) dX7_isBit_6 (fun c2 => ?_) (fun c2 => ?_)
    · have hf := ite_f c2 hf
      refine v_iconst K (v := 0) (by decide) dX7_isBit_13 ?_
      obtain ⟨rfl, rfl⟩ := pair_of hf
      exact v_zret K (by decide) dX7_isBit_14
    · have hf := ite_t c2 hf
      refine v_sub [] rfl ?_
      exact t_X7_isBit_9 K hf
abbrev rm_X7_has : Room := { frames := 0, cells := 0, slots := 0, locals := 0 }
set_option maxRecDepth 20000 in
theorem c_X7_has {X : Wx} {N : Nat} {p1 : Int32} {p2 : Int32} {u u' : ASt} {r : Int32} (hf : f_X7_has N p1 p2 u = some (r, u')) (l : Launch) : Met l yX7_has (ws_ yX7_has cX7_has 2 (some .boolean)) rm_X7_has (Pg 1 X u [.int p1, .int p2]) (Qg 1 X (some (.int r)) u') 0 0 (Aw 1 X) := by
  refine v_met (res := (some (.int r), u')) (by decide) (Nat.le_of_ble_eq_true rfl) (fun M K => ?_)
  have K : OkM 1 M X cX7_has 2 RX7 rm_X7_has (some .boolean) := K
  show V 1 M X (some (.int r), u') 2 0 [(0, .int p1), (1, .int p2)] [] u
  unfold f_X7_has at hf
  refine v_iload_n K 0 rfl rfl dX7_has_0 ?_
  refine v_iload_n K 1 rfl rfl dX7_has_1 ?_
  refine v_ishr K dX7_has_2 ?_
  refine v_iconst K (v := 1) (by decide) dX7_has_3 ?_
  refine v_iand K dX7_has_4 ?_
  refine v_iconst K (v := 1) (by decide) dX7_has_5 ?_
  refine v_icmp_ne K 13 (by decide) dX7_has_6 (fun c1 => ?_) (fun c1 => ?_)
  · have hf := ite_f c1 hf
    refine v_iconst K (v := 0) (by decide) dX7_has_13 ?_
    obtain ⟨rfl, rfl⟩ := pair_of hf
    exact v_zret K (by decide) dX7_has_14
  · have hf := ite_t c1 hf
    refine v_iconst K (v := 1) (by decide) dX7_has_9 ?_
    refine v_goto K 14 (by decide) dX7_has_10 ?_
    obtain ⟨rfl, rfl⟩ := pair_of hf
    exact v_zret K (by decide) dX7_has_14
abbrev rm_X7_chips : Room := { frames := 0, cells := 0, slots := 0, locals := 0 }
set_option maxRecDepth 20000 in
theorem c_X7_chips {X : Wx} {N : Nat} {o0 : Nat} (h0 : akd o0 = 7) {u u' : ASt} {r : Int32} (hf : f_X7_chips N o0 u = some (r, u')) (l : Launch) : Met l yX7_chips (ws_ yX7_chips cX7_chips 1 (some .int)) rm_X7_chips (Pg 1 X u [.ref (X.2.1 o0)]) (Qg 1 X (some (.int r)) u') 0 0 (Aw 1 X) := by
  refine v_met (res := (some (.int r), u')) (by decide) (Nat.le_of_ble_eq_true rfl) (fun M K => ?_)
  have K : OkM 1 M X cX7_chips 1 RX7 rm_X7_chips (some .int) := K
  show V 1 M X (some (.int r), u') 1 0 [(0, .ref (X.2.1 o0))] [] u
  unfold f_X7_chips at hf
  refine v_aload_n K 0 rfl rfl dX7_chips_0 ?_
  refine gf_7_0 K h0 fl_X7_7 dX7_chips_1 ?_
  refine v_iconst K (v := 0) (by decide) dX7_chips_4 ?_
  obtain ⟨g1, hf⟩ := chk_of hf
  refine v_iald K (am1_12 (ak_7_0 h0)) (.inr (ak_7_0 h0)) g1 dX7_chips_5 ?_
  obtain ⟨rfl, rfl⟩ := pair_of hf
  exact v_iret K dX7_chips_6
abbrev rm_X7_isChip : Room := { frames := 1, cells := 0, slots := 0, locals := 22 }
set_option maxRecDepth 20000 in
theorem c_X7_isChip {X : Wx} {N : Nat} {o0 : Nat} {p1 : Int32} (h0 : akd o0 = 7) {u u' : ASt} {r : Int32} (hf : f_X7_isChip N o0 p1 u = some (r, u')) (l : Launch) : Met l yX7_isChip (ws_ yX7_isChip cX7_isChip 2 (some .boolean)) rm_X7_isChip (Pg 1 X u [.ref (X.2.1 o0), .int p1]) (Qg 1 X (some (.int r)) u') 0 0 (Aw 1 X) := by
  refine v_met (res := (some (.int r), u')) (by decide) (Nat.le_of_ble_eq_true rfl) (fun M K => ?_)
  have K : OkM 1 M X cX7_isChip 2 RX7 rm_X7_isChip (some .boolean) := K
  show V 1 M X (some (.int r), u') 2 0 [(0, .ref (X.2.1 o0)), (1, .int p1)] [] u
  unfold f_X7_isChip at hf
  refine v_iload_n K 1 rfl rfl dX7_isChip_0 ?_
  refine v_iconst K (v := 0) (by decide) dX7_isChip_1 ?_
  refine v_aload_n K 0 rfl rfl dX7_isChip_2 ?_
  refine gf_7_0 K h0 fl_X7_7 dX7_isChip_3 ?_
  refine v_iconst K (v := 0) (by decide) dX7_isChip_6 ?_
  obtain ⟨g1, hf⟩ := chk_of hf
  refine v_iald K (am1_12 (ak_7_0 h0)) (.inr (ak_7_0 h0)) g1 dX7_isChip_7 ?_
  refine v_iconst K (v := 1) (by decide) dX7_isChip_8 ?_
  refine v_isub K dX7_isChip_9 ?_
  obtain ⟨r3, u2, e4, hf⟩ := bnd_of hf
  refine v_callSi K (c_X7_within e4) cv_X7_within ml_X7_43 ⟨rfl, rfl, Nat.le_of_ble_eq_true rfl, Nat.le_of_ble_eq_true rfl⟩ rfl rfl (Nat.le_of_ble_eq_true rfl) dX7_isChip_10 ?_
  obtain ⟨g5, hf⟩ := chk_of hf
  obtain ⟨rfl, rfl⟩ := pair_of hf
  exact v_zret K g5 dX7_isChip_13
abbrev rm_X7_at : Room := { frames := 0, cells := 0, slots := 0, locals := 0 }
set_option maxRecDepth 20000 in
theorem c_X7_at {X : Wx} {N : Nat} {p1 : Int32} {p2 : Int32} {u u' : ASt} {r : Int32} (hf : f_X7_at N p1 p2 u = some (r, u')) (l : Launch) : Met l yX7_at (ws_ yX7_at cX7_at 2 (some .int)) rm_X7_at (Pg 1 X u [.int p1, .int p2]) (Qg 1 X (some (.int r)) u') 0 0 (Aw 1 X) := by
  refine v_met (res := (some (.int r), u')) (by decide) (Nat.le_of_ble_eq_true rfl) (fun M K => ?_)
  have K : OkM 1 M X cX7_at 2 RX7 rm_X7_at (some .int) := K
  show V 1 M X (some (.int r), u') 2 0 [(0, .int p1), (1, .int p2)] [] u
  unfold f_X7_at at hf
  refine v_bipush K (v := 7) (by decide) dX7_at_0 ?_
  refine v_bipush K (v := 19) (by decide) dX7_at_2 ?_
  refine v_iload_n K 0 rfl rfl dX7_at_4 ?_
  refine v_imul K dX7_at_5 ?_
  refine v_iadd K dX7_at_6 ?_
  refine v_iload_n K 1 rfl rfl dX7_at_7 ?_
  refine v_iadd K dX7_at_8 ?_
  obtain ⟨rfl, rfl⟩ := pair_of hf
  exact v_iret K dX7_at_9
abbrev rm_X7_get : Room := { frames := 1, cells := 0, slots := 0, locals := 21 }
set_option maxRecDepth 20000 in
theorem c_X7_get {X : Wx} {N : Nat} {o0 : Nat} {p1 : Int32} {p2 : Int32} (h0 : akd o0 = 7) {u u' : ASt} {r : Int32} (hf : f_X7_get N o0 p1 p2 u = some (r, u')) (l : Launch) : Met l yX7_get (ws_ yX7_get cX7_get 3 (some .int)) rm_X7_get (Pg 1 X u [.ref (X.2.1 o0), .int p1, .int p2]) (Qg 1 X (some (.int r)) u') 0 0 (Aw 1 X) := by
  refine v_met (res := (some (.int r), u')) (by decide) (Nat.le_of_ble_eq_true rfl) (fun M K => ?_)
  have K : OkM 1 M X cX7_get 3 RX7 rm_X7_get (some .int) := K
  show V 1 M X (some (.int r), u') 3 0 [(0, .ref (X.2.1 o0)), (1, .int p1), (2, .int p2)] [] u
  unfold f_X7_get at hf
  refine v_aload_n K 0 rfl rfl dX7_get_0 ?_
  refine gf_7_0 K h0 fl_X7_7 dX7_get_1 ?_
  refine v_iload_n K 1 rfl rfl dX7_get_4 ?_
  refine v_iload_n K 2 rfl rfl dX7_get_5 ?_
  obtain ⟨r2, u1, e3, hf⟩ := bnd_of hf
  refine v_callSi K (c_X7_at e3) cv_X7_at ml_X7_47 ⟨rfl, rfl, Nat.le_of_ble_eq_true rfl, Nat.le_of_ble_eq_true rfl⟩ rfl rfl (Nat.le_of_ble_eq_true rfl) dX7_get_6 ?_
  obtain ⟨g4, hf⟩ := chk_of hf
  refine v_iald K (am1_12 (ak_7_0 h0)) (.inr (ak_7_0 h0)) g4 dX7_get_9 ?_
  obtain ⟨rfl, rfl⟩ := pair_of hf
  exact v_iret K dX7_get_10
abbrev rm_X7_isCell : Room := { frames := 2, cells := 0, slots := 0, locals := 43 }
set_option maxRecDepth 20000 in
theorem t_X7_isCell_28 {M : Mx} {X : Wx} {N : Nat} {o0 : Nat} {p1 : Int32} {p2 : Int32} (h0 : akd o0 = 7) {r : Int32} {u' : ASt} (K : OkM 1 M X cX7_isCell 3 RX7 rm_X7_isCell (some .boolean)) {u : ASt} (hf : f_X7_isCell_28 N o0 p1 p2  u = some (r, u')) : V 1 M X (some (.int r), u') 3 28 [] [] u := by
  unfold f_X7_isCell_28 at hf
  refine v_iconst K (v := 0) (by decide) dX7_isCell_28 ?_
  obtain ⟨rfl, rfl⟩ := pair_of hf
  exact v_zret K (by decide) dX7_isCell_29
set_option maxRecDepth 20000 in
theorem c_X7_isCell {X : Wx} {N : Nat} {o0 : Nat} {p1 : Int32} {p2 : Int32} (h0 : akd o0 = 7) {u u' : ASt} {r : Int32} (hf : f_X7_isCell N o0 p1 p2 u = some (r, u')) (l : Launch) : Met l yX7_isCell (ws_ yX7_isCell cX7_isCell 3 (some .boolean)) rm_X7_isCell (Pg 1 X u [.ref (X.2.1 o0), .int p1, .int p2]) (Qg 1 X (some (.int r)) u') 0 0 (Aw 1 X) := by
  refine v_met (res := (some (.int r), u')) (by decide) (Nat.le_of_ble_eq_true rfl) (fun M K => ?_)
  have K : OkM 1 M X cX7_isCell 3 RX7 rm_X7_isCell (some .boolean) := K
  show V 1 M X (some (.int r), u') 3 0 [(0, .ref (X.2.1 o0)), (1, .int p1), (2, .int p2)] [] u
  unfold f_X7_isCell at hf
  refine v_aload_n K 0 rfl rfl dX7_isCell_0 ?_
  refine v_iload_n K 1 rfl rfl dX7_isCell_1 ?_
  obtain ⟨r2, u1, e3, hf⟩ := bnd_of hf
  refine v_callVi K (c_X7_isChip h0 e3) cv_X7_isChip ml_X7_51 (am1_7 h0) h0 kdX7 ⟨rfl, rfl, Nat.le_of_ble_eq_true rfl, Nat.le_of_ble_eq_true rfl⟩ rfl rfl (Nat.le_of_ble_eq_true rfl) dX7_isCell_2 ?_
  refine v_if_eq K 28 (by decide) dX7_isCell_5 (fun c4 => ?_) (fun c4 => ?_)
  · have hf := ite_t c4 hf
    refine v_sub [] rfl ?_
    exact t_X7_isCell_28 h0 K hf
  · have hf := ite_f c4 hf
    refine v_iload_n K 2 rfl rfl dX7_isCell_8 ?_
    refine v_iconst K (v := 0) (by decide) dX7_isCell_9 ?_
    refine v_aload_n K 0 rfl rfl dX7_isCell_10 ?_
    refine v_iload_n K 1 rfl rfl dX7_isCell_11 ?_
    refine v_iconst K (v := 2) (by decide) dX7_isCell_12 ?_
    obtain ⟨r6, u5, e7, hf⟩ := bnd_of hf
    refine v_callVi K (c_X7_get h0 e7) cv_X7_get ml_X7_55 (am1_7 h0) h0 kdX7 ⟨rfl, rfl, Nat.le_of_ble_eq_true rfl, Nat.le_of_ble_eq_true rfl⟩ rfl rfl (Nat.le_of_ble_eq_true rfl) dX7_isCell_13 ?_
    refine v_iconst K (v := 1) (by decide) dX7_isCell_16 ?_
    refine v_isub K dX7_isCell_17 ?_
    obtain ⟨r9, u8, e10, hf⟩ := bnd_of hf
    refine v_callSi K (c_X7_within e10) cv_X7_within ml_X7_43 ⟨rfl, rfl, Nat.le_of_ble_eq_true rfl, Nat.le_of_ble_eq_true rfl⟩ rfl rfl (Nat.le_of_ble_eq_true rfl) dX7_isCell_18 ?_
    refine v_if_eq K 28 (by decide) dX7_isCell_21 (fun c11 => ?_) (fun c11 => ?_)
    · have hf := ite_t c11 hf
      refine v_sub [] rfl ?_
      exact t_X7_isCell_28 h0 K hf
    · have hf := ite_f c11 hf
      refine v_iconst K (v := 1) (by decide) dX7_isCell_24 ?_
      refine v_goto K 29 (by decide) dX7_isCell_25 ?_
      obtain ⟨rfl, rfl⟩ := pair_of hf
      exact v_zret K (by decide) dX7_isCell_29
abbrev rm_X7_isOut : Room := { frames := 2, cells := 0, slots := 0, locals := 43 }
set_option maxRecDepth 20000 in
theorem c_X7_isOut {X : Wx} {N : Nat} {o0 : Nat} {p1 : Int32} {p2 : Int32} (h0 : akd o0 = 7) {u u' : ASt} {r : Int32} (hf : f_X7_isOut N o0 p1 p2 u = some (r, u')) (l : Launch) : Met l yX7_isOut (ws_ yX7_isOut cX7_isOut 3 (some .boolean)) rm_X7_isOut (Pg 1 X u [.ref (X.2.1 o0), .int p1, .int p2]) (Qg 1 X (some (.int r)) u') 0 0 (Aw 1 X) := by
  refine v_met (res := (some (.int r), u')) (by decide) (Nat.le_of_ble_eq_true rfl) (fun M K => ?_)
  have K : OkM 1 M X cX7_isOut 3 RX7 rm_X7_isOut (some .boolean) := K
  show V 1 M X (some (.int r), u') 3 0 [(0, .ref (X.2.1 o0)), (1, .int p1), (2, .int p2)] [] u
  unfold f_X7_isOut at hf
  refine v_aload_n K 0 rfl rfl dX7_isOut_0 ?_
  refine v_iload_n K 1 rfl rfl dX7_isOut_1 ?_
  refine v_bipush K (v := 7) (by decide) dX7_isOut_2 ?_
  refine v_iconst K (v := 2) (by decide) dX7_isOut_4 ?_
  refine v_iload_n K 2 rfl rfl dX7_isOut_5 ?_
  refine v_imul K dX7_isOut_6 ?_
  refine v_iadd K dX7_isOut_7 ?_
  obtain ⟨r2, u1, e3, hf⟩ := bnd_of hf
  refine v_callVi K (c_X7_get h0 e3) cv_X7_get ml_X7_55 (am1_7 h0) h0 kdX7 ⟨rfl, rfl, Nat.le_of_ble_eq_true rfl, Nat.le_of_ble_eq_true rfl⟩ rfl rfl (Nat.le_of_ble_eq_true rfl) dX7_isOut_8 ?_
  refine v_iconst K (v := 1) (by decide) dX7_isOut_11 ?_
  refine v_icmp_ne K 19 (by decide) dX7_isOut_12 (fun c4 => ?_) (fun c4 => ?_)
  · have hf := ite_f c4 hf
    refine v_iconst K (v := 0) (by decide) dX7_isOut_19 ?_
    obtain ⟨rfl, rfl⟩ := pair_of hf
    exact v_zret K (by decide) dX7_isOut_20
  · have hf := ite_t c4 hf
    refine v_iconst K (v := 1) (by decide) dX7_isOut_15 ?_
    refine v_goto K 20 (by decide) dX7_isOut_16 ?_
    obtain ⟨rfl, rfl⟩ := pair_of hf
    exact v_zret K (by decide) dX7_isOut_20
abbrev rm_X7_netOf : Room := { frames := 2, cells := 0, slots := 0, locals := 43 }
set_option maxRecDepth 20000 in
theorem c_X7_netOf {X : Wx} {N : Nat} {o0 : Nat} {p1 : Int32} {p2 : Int32} (h0 : akd o0 = 7) {u u' : ASt} {r : Int32} (hf : f_X7_netOf N o0 p1 p2 u = some (r, u')) (l : Launch) : Met l yX7_netOf (ws_ yX7_netOf cX7_netOf 3 (some .int)) rm_X7_netOf (Pg 1 X u [.ref (X.2.1 o0), .int p1, .int p2]) (Qg 1 X (some (.int r)) u') 0 0 (Aw 1 X) := by
  refine v_met (res := (some (.int r), u')) (by decide) (Nat.le_of_ble_eq_true rfl) (fun M K => ?_)
  have K : OkM 1 M X cX7_netOf 3 RX7 rm_X7_netOf (some .int) := K
  show V 1 M X (some (.int r), u') 3 0 [(0, .ref (X.2.1 o0)), (1, .int p1), (2, .int p2)] [] u
  unfold f_X7_netOf at hf
  refine v_aload_n K 0 rfl rfl dX7_netOf_0 ?_
  refine v_iload_n K 1 rfl rfl dX7_netOf_1 ?_
  refine v_bipush K (v := 7) (by decide) dX7_netOf_2 ?_
  refine v_iconst K (v := 2) (by decide) dX7_netOf_4 ?_
  refine v_iload_n K 2 rfl rfl dX7_netOf_5 ?_
  refine v_imul K dX7_netOf_6 ?_
  refine v_iadd K dX7_netOf_7 ?_
  refine v_iconst K (v := 1) (by decide) dX7_netOf_8 ?_
  refine v_iadd K dX7_netOf_9 ?_
  obtain ⟨r2, u1, e3, hf⟩ := bnd_of hf
  refine v_callVi K (c_X7_get h0 e3) cv_X7_get ml_X7_55 (am1_7 h0) h0 kdX7 ⟨rfl, rfl, Nat.le_of_ble_eq_true rfl, Nat.le_of_ble_eq_true rfl⟩ rfl rfl (Nat.le_of_ble_eq_true rfl) dX7_netOf_10 ?_
  obtain ⟨rfl, rfl⟩ := pair_of hf
  exact v_iret K dX7_netOf_13
abbrev rm_X7_isNet : Room := { frames := 1, cells := 0, slots := 0, locals := 22 }
set_option maxRecDepth 20000 in
theorem c_X7_isNet {X : Wx} {N : Nat} {p1 : Int32} {u u' : ASt} {r : Int32} (hf : f_X7_isNet N p1 u = some (r, u')) (l : Launch) : Met l yX7_isNet (ws_ yX7_isNet cX7_isNet 1 (some .boolean)) rm_X7_isNet (Pg 1 X u [.int p1]) (Qg 1 X (some (.int r)) u') 0 0 (Aw 1 X) := by
  refine v_met (res := (some (.int r), u')) (by decide) (Nat.le_of_ble_eq_true rfl) (fun M K => ?_)
  have K : OkM 1 M X cX7_isNet 1 RX7 rm_X7_isNet (some .boolean) := K
  show V 1 M X (some (.int r), u') 1 0 [(0, .int p1)] [] u
  unfold f_X7_isNet at hf
  refine v_iload_n K 0 rfl rfl dX7_isNet_0 ?_
  refine v_iconst K (v := 0) (by decide) dX7_isNet_1 ?_
  refine v_bipush K (v := 7) (by decide) dX7_isNet_2 ?_
  obtain ⟨r2, u1, e3, hf⟩ := bnd_of hf
  refine v_callSi K (c_X7_within e3) cv_X7_within ml_X7_43 ⟨rfl, rfl, Nat.le_of_ble_eq_true rfl, Nat.le_of_ble_eq_true rfl⟩ rfl rfl (Nat.le_of_ble_eq_true rfl) dX7_isNet_4 ?_
  obtain ⟨g4, hf⟩ := chk_of hf
  obtain ⟨rfl, rfl⟩ := pair_of hf
  exact v_zret K g4 dX7_isNet_7
abbrev rm_X7_laysAside : Room := { frames := 0, cells := 0, slots := 0, locals := 0 }
set_option maxRecDepth 20000 in
theorem t_X7_laysAside_2 {M : Mx} {X : Wx} {N : Nat} {o0 : Nat} (h0 : akd o0 = 7) {r : Unit} {u' : ASt} (K : OkM 1 M X cX7_laysAside 2 RX7 rm_X7_laysAside none) : ∀ (n : Nat) (x1 : Int32) (u : ASt), f_X7_laysAside_2 N o0 n x1 u = some (r, u') → V 1 M X (none, u') 2 2 [(0, .ref (X.2.1 o0)), (1, .int x1)] [] u := by
  intro n
  induction n with
  | zero => intro x1 u hf; cases hf
  | succ n ih =>
    intro x1 u hf
    rw [f_X7_laysAside_2] at hf
    refine v_iload_n K 1 rfl rfl dX7_laysAside_2 ?_
    refine v_bipush K (v := 83) (by decide) dX7_laysAside_3 ?_
    refine v_icmp_ge K 26 (by decide) dX7_laysAside_5 (fun c1 => ?_) (fun c1 => ?_)
    · have hf := ite_t c1 hf
      obtain ⟨rfl, rfl⟩ := pair_of hf
      exact v_vret K dX7_laysAside_26
    · have hf := ite_f c1 hf
      refine v_aload_n K 0 rfl rfl dX7_laysAside_8 ?_
      refine gf_7_1 K h0 fl_X7_13 dX7_laysAside_9 ?_
      refine v_iload_n K 1 rfl rfl dX7_laysAside_12 ?_
      refine v_aload_n K 0 rfl rfl dX7_laysAside_13 ?_
      refine gf_7_0 K h0 fl_X7_7 dX7_laysAside_14 ?_
      refine v_iload_n K 1 rfl rfl dX7_laysAside_17 ?_
      obtain ⟨g2, hf⟩ := chk_of hf
      refine v_iald K (am1_12 (ak_7_0 h0)) (.inr (ak_7_0 h0)) g2 dX7_laysAside_18 ?_
      obtain ⟨g3, hf⟩ := chk_of hf
      refine v_iast K (am1_12 (ak_7_1 h0)) (.inr (ak_7_1 h0)) g3 dX7_laysAside_19 ?_
      refine v_st (fun u4 eu4 => ?_)
      have hf := lte_of eu4 hf
      refine v_iinc K 1 (v := x1 + 1) (ls' := [(1, .int (x1 + 1)), (0, .ref (X.2.1 o0))]) rfl rfl (by decide) rfl dX7_laysAside_20 ?_
      refine v_goto K 2 (by decide) dX7_laysAside_23 ?_
      refine v_sub [1, 0] rfl ?_
      exact ih (x1 + 1) u4 hf
set_option maxRecDepth 20000 in
theorem c_X7_laysAside {X : Wx} {N : Nat} {o0 : Nat} (h0 : akd o0 = 7) {u u' : ASt} {r : Unit} (hf : f_X7_laysAside N o0 u = some (r, u')) (l : Launch) : Met l yX7_laysAside (ws_ yX7_laysAside cX7_laysAside 2 none) rm_X7_laysAside (Pg 1 X u [.ref (X.2.1 o0)]) (Qg 1 X (none) u') 0 0 (Aw 1 X) := by
  refine v_met (res := (none, u')) (by decide) (Nat.le_of_ble_eq_true rfl) (fun M K => ?_)
  have K : OkM 1 M X cX7_laysAside 2 RX7 rm_X7_laysAside none := K
  show V 1 M X (none, u') 2 0 [(0, .ref (X.2.1 o0))] [] u
  unfold f_X7_laysAside at hf
  refine v_iconst K (v := 0) (by decide) dX7_laysAside_0 ?_
  refine v_istore_n K (ls' := [(1, .int 0), (0, .ref (X.2.1 o0))]) rfl (by decide) rfl dX7_laysAside_1 ?_
  refine v_sub [1, 0] rfl ?_
  exact t_X7_laysAside_2 h0 K N 0 u hf
abbrev rm_X7_leaves : Room := { frames := 0, cells := 0, slots := 0, locals := 0 }
set_option maxRecDepth 20000 in
theorem t_X7_leaves_50 {M : Mx} {X : Wx} {N : Nat} {o0 : Nat} (h0 : akd o0 = 7) {r : Unit} {u' : ASt} (K : OkM 1 M X cX7_leaves 2 RX7 rm_X7_leaves none) : ∀ (n : Nat) (x1 : Int32) (u : ASt), f_X7_leaves_50 N o0 n x1 u = some (r, u') → V 1 M X (none, u') 2 50 [(0, .ref (X.2.1 o0)), (1, .int x1)] [] u := by
  intro n
  induction n with
  | zero => intro x1 u hf; cases hf
  | succ n ih =>
    intro x1 u hf
    rw [f_X7_leaves_50] at hf
    refine v_iload_n K 1 rfl rfl dX7_leaves_50 ?_
    refine v_bipush K (v := 83) (by decide) dX7_leaves_51 ?_
    refine v_icmp_ge K 82 (by decide) dX7_leaves_53 (fun c1 => ?_) (fun c1 => ?_)
    · have hf := ite_t c1 hf
      refine v_aload_n K 0 rfl rfl dX7_leaves_82 ?_
      refine v_dup K rfl dX7_leaves_83 ?_
      refine gf_7_3 K h0 fl_X7_58 dX7_leaves_84 ?_
      refine v_iconst K (v := 1) (by decide) dX7_leaves_87 ?_
      refine v_iadd K dX7_leaves_88 ?_
      refine pf_7_3 K h0 fl_X7_58 dX7_leaves_89 ?_
      refine v_st (fun u2 eu2 => ?_)
      have hf := lte_of eu2 hf
      obtain ⟨rfl, rfl⟩ := pair_of hf
      exact v_vret K dX7_leaves_92
    · have hf := ite_f c1 hf
      refine v_aload_n K 0 rfl rfl dX7_leaves_56 ?_
      refine gf_7_2 K h0 fl_X7_16 dX7_leaves_57 ?_
      refine v_bipush K (v := 83) (by decide) dX7_leaves_60 ?_
      refine v_aload_n K 0 rfl rfl dX7_leaves_62 ?_
      refine gf_7_3 K h0 fl_X7_58 dX7_leaves_63 ?_
      refine v_imul K dX7_leaves_66 ?_
      refine v_iload_n K 1 rfl rfl dX7_leaves_67 ?_
      refine v_iadd K dX7_leaves_68 ?_
      refine v_aload_n K 0 rfl rfl dX7_leaves_69 ?_
      refine gf_7_1 K h0 fl_X7_13 dX7_leaves_70 ?_
      refine v_iload_n K 1 rfl rfl dX7_leaves_73 ?_
      obtain ⟨g3, hf⟩ := chk_of hf
      refine v_iald K (am1_12 (ak_7_1 h0)) (.inr (ak_7_1 h0)) g3 dX7_leaves_74 ?_
      obtain ⟨g4, hf⟩ := chk_of hf
      refine v_iast K (am1_12 (ak_7_2 h0)) (.inr (ak_7_2 h0)) g4 dX7_leaves_75 ?_
      refine v_st (fun u5 eu5 => ?_)
      have hf := lte_of eu5 hf
      refine v_iinc K 1 (v := x1 + 1) (ls' := [(1, .int (x1 + 1)), (0, .ref (X.2.1 o0))]) rfl rfl (by decide) rfl dX7_leaves_76 ?_
      refine v_goto K 50 (by decide) dX7_leaves_79 ?_
      refine v_sub [1, 0] rfl ?_
      exact ih (x1 + 1) u5 hf
set_option maxRecDepth 20000 in
theorem t_X7_leaves_48 {M : Mx} {X : Wx} {N : Nat} {o0 : Nat} (h0 : akd o0 = 7) {r : Unit} {u' : ASt} (K : OkM 1 M X cX7_leaves 2 RX7 rm_X7_leaves none) {u : ASt} (hf : f_X7_leaves_48 N o0  u = some (r, u')) : V 1 M X (none, u') 2 48 [(0, .ref (X.2.1 o0))] [] u := by
  unfold f_X7_leaves_48 at hf
  refine v_iconst K (v := 0) (by decide) dX7_leaves_48 ?_
  refine v_istore_n K (ls' := [(1, .int 0), (0, .ref (X.2.1 o0))]) rfl (by decide) rfl dX7_leaves_49 ?_
  refine v_sub [1, 0] rfl ?_
  exact t_X7_leaves_50 h0 K N 0 u hf
set_option maxRecDepth 20000 in
theorem t_X7_leaves_10 {M : Mx} {X : Wx} {N : Nat} {o0 : Nat} (h0 : akd o0 = 7) {r : Unit} {u' : ASt} (K : OkM 1 M X cX7_leaves 2 RX7 rm_X7_leaves none) : ∀ (n : Nat) (x1 : Int32) (u : ASt), f_X7_leaves_10 N o0 n x1 u = some (r, u') → V 1 M X (none, u') 2 10 [(0, .ref (X.2.1 o0)), (1, .int x1)] [] u := by
  intro n
  induction n with
  | zero => intro x1 u hf; cases hf
  | succ n ih =>
    intro x1 u hf
    rw [f_X7_leaves_10] at hf
    refine v_iload_n K 1 rfl rfl dX7_leaves_10 ?_
    refine v_sipush K (v := 332) (by decide) dX7_leaves_11 ?_
    refine v_icmp_ge K 38 (by decide) dX7_leaves_14 (fun c6 => ?_) (fun c6 => ?_)
    · have hf := ite_t c6 hf
      refine v_aload_n K 0 rfl rfl dX7_leaves_38 ?_
      refine v_dup K rfl dX7_leaves_39 ?_
      refine gf_7_3 K h0 fl_X7_58 dX7_leaves_40 ?_
      refine v_iconst K (v := 1) (by decide) dX7_leaves_43 ?_
      refine v_isub K dX7_leaves_44 ?_
      refine pf_7_3 K h0 fl_X7_58 dX7_leaves_45 ?_
      refine v_st (fun u7 eu7 => ?_)
      have hf := lte_of eu7 hf
      refine v_sub [0] rfl ?_
      exact t_X7_leaves_48 h0 K hf
    · have hf := ite_f c6 hf
      refine v_aload_n K 0 rfl rfl dX7_leaves_17 ?_
      refine gf_7_2 K h0 fl_X7_16 dX7_leaves_18 ?_
      refine v_iload_n K 1 rfl rfl dX7_leaves_21 ?_
      refine v_aload_n K 0 rfl rfl dX7_leaves_22 ?_
      refine gf_7_2 K h0 fl_X7_16 dX7_leaves_23 ?_
      refine v_iload_n K 1 rfl rfl dX7_leaves_26 ?_
      refine v_bipush K (v := 83) (by decide) dX7_leaves_27 ?_
      refine v_iadd K dX7_leaves_29 ?_
      obtain ⟨g8, hf⟩ := chk_of hf
      refine v_iald K (am1_12 (ak_7_2 h0)) (.inr (ak_7_2 h0)) g8 dX7_leaves_30 ?_
      obtain ⟨g9, hf⟩ := chk_of hf
      refine v_iast K (am1_12 (ak_7_2 h0)) (.inr (ak_7_2 h0)) g9 dX7_leaves_31 ?_
      refine v_st (fun u10 eu10 => ?_)
      have hf := lte_of eu10 hf
      refine v_iinc K 1 (v := x1 + 1) (ls' := [(1, .int (x1 + 1)), (0, .ref (X.2.1 o0))]) rfl rfl (by decide) rfl dX7_leaves_32 ?_
      refine v_goto K 10 (by decide) dX7_leaves_35 ?_
      refine v_sub [1, 0] rfl ?_
      exact ih (x1 + 1) u10 hf
set_option maxRecDepth 20000 in
theorem c_X7_leaves {X : Wx} {N : Nat} {o0 : Nat} (h0 : akd o0 = 7) {u u' : ASt} {r : Unit} (hf : f_X7_leaves N o0 u = some (r, u')) (l : Launch) : Met l yX7_leaves (ws_ yX7_leaves cX7_leaves 2 none) rm_X7_leaves (Pg 1 X u [.ref (X.2.1 o0)]) (Qg 1 X (none) u') 0 0 (Aw 1 X) := by
  refine v_met (res := (none, u')) (by decide) (Nat.le_of_ble_eq_true rfl) (fun M K => ?_)
  have K : OkM 1 M X cX7_leaves 2 RX7 rm_X7_leaves none := K
  show V 1 M X (none, u') 2 0 [(0, .ref (X.2.1 o0))] [] u
  unfold f_X7_leaves at hf
  refine v_aload_n K 0 rfl rfl dX7_leaves_0 ?_
  refine gf_7_3 K h0 fl_X7_58 dX7_leaves_1 ?_
  refine v_iconst K (v := 5) (by decide) dX7_leaves_4 ?_
  refine v_icmp_ne K 48 (by decide) dX7_leaves_5 (fun c11 => ?_) (fun c11 => ?_)
  · have hf := ite_f c11 hf
    exact t_X7_leaves_48 h0 K hf
  · have hf := ite_t c11 hf
    refine v_iconst K (v := 0) (by decide) dX7_leaves_8 ?_
    refine v_istore_n K (ls' := [(1, .int 0), (0, .ref (X.2.1 o0))]) rfl (by decide) rfl dX7_leaves_9 ?_
    refine v_sub [1, 0] rfl ?_
    exact t_X7_leaves_10 h0 K N 0 u hf
abbrev rm_X7_back : Room := { frames := 1, cells := 0, slots := 0, locals := 20 }
set_option maxRecDepth 20000 in
theorem t_X7_back_24 {M : Mx} {X : Wx} {N : Nat} {o0 : Nat} (h0 : akd o0 = 7) {r : Int32} {u' : ASt} (K : OkM 1 M X cX7_back 2 RX7 rm_X7_back (some .int)) : ∀ (n : Nat) (x1 : Int32) (u : ASt), f_X7_back_24 N o0 n x1 u = some (r, u') → V 1 M X (some (.int r), u') 2 24 [(0, .ref (X.2.1 o0)), (1, .int x1)] [] u := by
  intro n
  induction n with
  | zero => intro x1 u hf; cases hf
  | succ n ih =>
    intro x1 u hf
    rw [f_X7_back_24] at hf
    refine v_iload_n K 1 rfl rfl dX7_back_24 ?_
    refine v_bipush K (v := 83) (by decide) dX7_back_25 ?_
    refine v_icmp_ge K 56 (by decide) dX7_back_27 (fun c1 => ?_) (fun c1 => ?_)
    · have hf := ite_t c1 hf
      refine v_aload_n K 0 rfl rfl dX7_back_56 ?_
      refine gf_7_3 K h0 fl_X7_58 dX7_back_57 ?_
      obtain ⟨rfl, rfl⟩ := pair_of hf
      exact v_iret K dX7_back_60
    · have hf := ite_f c1 hf
      refine v_aload_n K 0 rfl rfl dX7_back_30 ?_
      refine gf_7_0 K h0 fl_X7_7 dX7_back_31 ?_
      refine v_iload_n K 1 rfl rfl dX7_back_34 ?_
      refine v_aload_n K 0 rfl rfl dX7_back_35 ?_
      refine gf_7_2 K h0 fl_X7_16 dX7_back_36 ?_
      refine v_bipush K (v := 83) (by decide) dX7_back_39 ?_
      refine v_aload_n K 0 rfl rfl dX7_back_41 ?_
      refine gf_7_3 K h0 fl_X7_58 dX7_back_42 ?_
      refine v_imul K dX7_back_45 ?_
      refine v_iload_n K 1 rfl rfl dX7_back_46 ?_
      refine v_iadd K dX7_back_47 ?_
      obtain ⟨g2, hf⟩ := chk_of hf
      refine v_iald K (am1_12 (ak_7_2 h0)) (.inr (ak_7_2 h0)) g2 dX7_back_48 ?_
      obtain ⟨g3, hf⟩ := chk_of hf
      refine v_iast K (am1_12 (ak_7_0 h0)) (.inr (ak_7_0 h0)) g3 dX7_back_49 ?_
      refine v_st (fun u4 eu4 => ?_)
      have hf := lte_of eu4 hf
      refine v_iinc K 1 (v := x1 + 1) (ls' := [(1, .int (x1 + 1)), (0, .ref (X.2.1 o0))]) rfl rfl (by decide) rfl dX7_back_50 ?_
      refine v_goto K 24 (by decide) dX7_back_53 ?_
      refine v_sub [1, 0] rfl ?_
      exact ih (x1 + 1) u4 hf
set_option maxRecDepth 20000 in
theorem c_X7_back {X : Wx} {N : Nat} {o0 : Nat} (h0 : akd o0 = 7) {u u' : ASt} {r : Int32} (hf : f_X7_back N o0 u = some (r, u')) (l : Launch) : Met l yX7_back (ws_ yX7_back cX7_back 2 (some .int)) rm_X7_back (Pg 1 X u [.ref (X.2.1 o0)]) (Qg 1 X (some (.int r)) u') 0 0 (Aw 1 X) := by
  refine v_met (res := (some (.int r), u')) (by decide) (Nat.le_of_ble_eq_true rfl) (fun M K => ?_)
  have K : OkM 1 M X cX7_back 2 RX7 rm_X7_back (some .int) := K
  show V 1 M X (some (.int r), u') 2 0 [(0, .ref (X.2.1 o0))] [] u
  unfold f_X7_back at hf
  refine v_aload_n K 0 rfl rfl dX7_back_0 ?_
  refine gf_7_3 K h0 fl_X7_58 dX7_back_1 ?_
  refine v_if_ne K 12 (by decide) dX7_back_4 (fun c5 => ?_) (fun c5 => ?_)
  · have hf := ite_f c5 hf
    refine v_aload_n K 0 rfl rfl dX7_back_12 ?_
    refine v_dup K rfl dX7_back_13 ?_
    refine gf_7_3 K h0 fl_X7_58 dX7_back_14 ?_
    refine v_iconst K (v := 1) (by decide) dX7_back_17 ?_
    refine v_isub K dX7_back_18 ?_
    refine pf_7_3 K h0 fl_X7_58 dX7_back_19 ?_
    refine v_st (fun u6 eu6 => ?_)
    have hf := lte_of eu6 hf
    refine v_iconst K (v := 0) (by decide) dX7_back_22 ?_
    refine v_istore_n K (ls' := [(1, .int 0), (0, .ref (X.2.1 o0))]) rfl (by decide) rfl dX7_back_23 ?_
    refine v_sub [1, 0] rfl ?_
    exact t_X7_back_24 h0 K N 0 u6 hf
  · have hf := ite_t c5 hf
    refine v_aload_n K 0 rfl rfl dX7_back_7 ?_
    obtain ⟨r8, u7, e9, hf⟩ := bnd_of hf
    refine v_callVi K (c_X7_no h0 e9) cv_X7_no ml_X7_62 (am1_7 h0) h0 kdX7 ⟨rfl, rfl, Nat.le_of_ble_eq_true rfl, Nat.le_of_ble_eq_true rfl⟩ rfl rfl (Nat.le_of_ble_eq_true rfl) dX7_back_8 ?_
    obtain ⟨rfl, rfl⟩ := pair_of hf
    exact v_iret K dX7_back_11
abbrev rm_X7_ends : Room := { frames := 1, cells := 0, slots := 0, locals := 21 }
set_option maxRecDepth 20000 in
theorem c_X7_ends {X : Wx} {N : Nat} {o0 : Nat} {p1 : Int32} (h0 : akd o0 = 7) {u u' : ASt} {r : Int32} (hf : f_X7_ends N o0 p1 u = some (r, u')) (l : Launch) : Met l yX7_ends (ws_ yX7_ends cX7_ends 2 (some .int)) rm_X7_ends (Pg 1 X u [.ref (X.2.1 o0), .int p1]) (Qg 1 X (some (.int r)) u') 0 0 (Aw 1 X) := by
  refine v_met (res := (some (.int r), u')) (by decide) (Nat.le_of_ble_eq_true rfl) (fun M K => ?_)
  have K : OkM 1 M X cX7_ends 2 RX7 rm_X7_ends (some .int) := K
  show V 1 M X (some (.int r), u') 2 0 [(0, .ref (X.2.1 o0)), (1, .int p1)] [] u
  unfold f_X7_ends at hf
  refine v_iload_n K 1 rfl rfl dX7_ends_0 ?_
  refine v_if_lt K 10 (by decide) dX7_ends_1 (fun c1 => ?_) (fun c1 => ?_)
  · have hf := ite_t c1 hf
    refine v_iload_n K 1 rfl rfl dX7_ends_10 ?_
    refine v_bipush K (v := (-4)) (by decide) dX7_ends_11 ?_
    refine v_icmp_ne K 23 (by decide) dX7_ends_13 (fun c2 => ?_) (fun c2 => ?_)
    · have hf := ite_f c2 hf
      refine v_aload_n K 0 rfl rfl dX7_ends_23 ?_
      obtain ⟨r4, u3, e5, hf⟩ := bnd_of hf
      refine v_callVi K (c_X7_bad h0 e5) cv_X7_bad ml_X7_72 (am1_7 h0) h0 kdX7 ⟨rfl, rfl, Nat.le_of_ble_eq_true rfl, Nat.le_of_ble_eq_true rfl⟩ rfl rfl (Nat.le_of_ble_eq_true rfl) dX7_ends_24 ?_
      obtain ⟨rfl, rfl⟩ := pair_of hf
      exact v_iret K dX7_ends_27
    · have hf := ite_t c2 hf
      refine v_aload_n K 0 rfl rfl dX7_ends_16 ?_
      obtain ⟨r7, u6, e8, hf⟩ := bnd_of hf
      refine v_callVi K (c_X7_full h0 e8) cv_X7_full ml_X7_69 (am1_7 h0) h0 kdX7 ⟨rfl, rfl, Nat.le_of_ble_eq_true rfl, Nat.le_of_ble_eq_true rfl⟩ rfl rfl (Nat.le_of_ble_eq_true rfl) dX7_ends_17 ?_
      refine v_goto K 27 (by decide) dX7_ends_20 ?_
      obtain ⟨rfl, rfl⟩ := pair_of hf
      exact v_iret K dX7_ends_27
  · have hf := ite_f c1 hf
    refine v_aload_n K 0 rfl rfl dX7_ends_4 ?_
    obtain ⟨r10, u9, e11, hf⟩ := bnd_of hf
    refine v_callVv K (c_X7_leaves h0 e11) cv_X7_leaves ml_X7_66 (am1_7 h0) h0 kdX7 ⟨rfl, rfl, Nat.le_of_ble_eq_true rfl, Nat.le_of_ble_eq_true rfl⟩ rfl rfl (Nat.le_of_ble_eq_true rfl) dX7_ends_5 ?_
    refine v_iload_n K 1 rfl rfl dX7_ends_8 ?_
    obtain ⟨rfl, rfl⟩ := pair_of hf
    exact v_iret K dX7_ends_9
abbrev rm_X7_firstOf : Room := { frames := 2, cells := 0, slots := 0, locals := 43 }
set_option maxRecDepth 20000 in
theorem c_X7_firstOf {X : Wx} {N : Nat} {o0 : Nat} {p1 : Int32} (h0 : akd o0 = 7) {u u' : ASt} {r : Int32} (hf : f_X7_firstOf N o0 p1 u = some (r, u')) (l : Launch) : Met l yX7_firstOf (ws_ yX7_firstOf cX7_firstOf 2 (some .int)) rm_X7_firstOf (Pg 1 X u [.ref (X.2.1 o0), .int p1]) (Qg 1 X (some (.int r)) u') 0 0 (Aw 1 X) := by
  refine v_met (res := (some (.int r), u')) (by decide) (Nat.le_of_ble_eq_true rfl) (fun M K => ?_)
  have K : OkM 1 M X cX7_firstOf 2 RX7 rm_X7_firstOf (some .int) := K
  show V 1 M X (some (.int r), u') 2 0 [(0, .ref (X.2.1 o0)), (1, .int p1)] [] u
  unfold f_X7_firstOf at hf
  refine v_aload_n K 0 rfl rfl dX7_firstOf_0 ?_
  refine v_iload_n K 1 rfl rfl dX7_firstOf_1 ?_
  refine v_iconst K (v := 1) (by decide) dX7_firstOf_2 ?_
  obtain ⟨r2, u1, e3, hf⟩ := bnd_of hf
  refine v_callVi K (c_X7_get h0 e3) cv_X7_get ml_X7_55 (am1_7 h0) h0 kdX7 ⟨rfl, rfl, Nat.le_of_ble_eq_true rfl, Nat.le_of_ble_eq_true rfl⟩ rfl rfl (Nat.le_of_ble_eq_true rfl) dX7_firstOf_3 ?_
  refine v_sipush K (v := 256) (by decide) dX7_firstOf_6 ?_
  refine v_icmp_ge K 16 (by decide) dX7_firstOf_9 (fun c4 => ?_) (fun c4 => ?_)
  · have hf := ite_t c4 hf
    refine v_iconst K (v := 1) (by decide) dX7_firstOf_16 ?_
    refine v_aload_n K 0 rfl rfl dX7_firstOf_17 ?_
    refine v_iload_n K 1 rfl rfl dX7_firstOf_18 ?_
    refine v_iconst K (v := 0) (by decide) dX7_firstOf_19 ?_
    obtain ⟨r6, u5, e7, hf⟩ := bnd_of hf
    refine v_callVi K (c_X7_get h0 e7) cv_X7_get ml_X7_55 (am1_7 h0) h0 kdX7 ⟨rfl, rfl, Nat.le_of_ble_eq_true rfl, Nat.le_of_ble_eq_true rfl⟩ rfl rfl (Nat.le_of_ble_eq_true rfl) dX7_firstOf_20 ?_
    refine v_ishl K dX7_firstOf_23 ?_
    refine v_iconst K (v := 1) (by decide) dX7_firstOf_24 ?_
    refine v_isub K dX7_firstOf_25 ?_
    obtain ⟨rfl, rfl⟩ := pair_of hf
    exact v_iret K dX7_firstOf_26
  · have hf := ite_f c4 hf
    refine v_iconst K (v := 2) (by decide) dX7_firstOf_12 ?_
    refine v_goto K 26 (by decide) dX7_firstOf_13 ?_
    obtain ⟨rfl, rfl⟩ := pair_of hf
    exact v_iret K dX7_firstOf_26
abbrev rm_X7_addsChip : Room := { frames := 3, cells := 0, slots := 0, locals := 64 }
set_option maxRecDepth 20000 in
theorem t_X7_addsChip_46 {M : Mx} {X : Wx} {N : Nat} {o0 : Nat} {p1 : Int32} {p2 : Int32} (h0 : akd o0 = 7) {r : Int32} {u' : ASt} (K : OkM 1 M X cX7_addsChip 5 RX7 rm_X7_addsChip (some .int)) : ∀ (n : Nat) (x3 : Int32) (x4 : Int32) (u : ASt), f_X7_addsChip_46 N o0 p1 p2 n x3 x4 u = some (r, u') → V 1 M X (some (.int r), u') 5 46 [(0, .ref (X.2.1 o0)), (1, .int p1), (2, .int p2), (3, .int x3), (4, .int x4)] [] u := by
  intro n
  induction n with
  | zero => intro x3 x4 u hf; cases hf
  | succ n ih =>
    intro x3 x4 u hf
    rw [f_X7_addsChip_46] at hf
    refine v_iload K 4 rfl dX7_addsChip_46 ?_
    refine v_bipush K (v := 19) (by decide) dX7_addsChip_48 ?_
    refine v_icmp_ge K 71 (by decide) dX7_addsChip_50 (fun c1 => ?_) (fun c1 => ?_)
    · have hf := ite_t c1 hf
      refine v_aload_n K 0 rfl rfl dX7_addsChip_71 ?_
      refine gf_7_0 K h0 fl_X7_7 dX7_addsChip_72 ?_
      refine v_iload_n K 3 rfl rfl dX7_addsChip_75 ?_
      refine v_iconst K (v := 0) (by decide) dX7_addsChip_76 ?_
      obtain ⟨r3, u2, e4, hf⟩ := bnd_of hf
      refine v_callSi K (c_X7_at e4) cv_X7_at ml_X7_47 ⟨rfl, rfl, Nat.le_of_ble_eq_true rfl, Nat.le_of_ble_eq_true rfl⟩ rfl rfl (Nat.le_of_ble_eq_true rfl) dX7_addsChip_77 ?_
      refine v_iload_n K 1 rfl rfl dX7_addsChip_80 ?_
      obtain ⟨g5, hf⟩ := chk_of hf
      refine v_iast K (am1_12 (ak_7_0 h0)) (.inr (ak_7_0 h0)) g5 dX7_addsChip_81 ?_
      refine v_st (fun u6 eu6 => ?_)
      have hf := lte_of eu6 hf
      refine v_aload_n K 0 rfl rfl dX7_addsChip_82 ?_
      refine gf_7_0 K h0 fl_X7_7 dX7_addsChip_83 ?_
      refine v_iload_n K 3 rfl rfl dX7_addsChip_86 ?_
      refine v_iconst K (v := 1) (by decide) dX7_addsChip_87 ?_
      obtain ⟨r8, u7, e9, hf⟩ := bnd_of hf
      refine v_callSi K (c_X7_at e9) cv_X7_at ml_X7_47 ⟨rfl, rfl, Nat.le_of_ble_eq_true rfl, Nat.le_of_ble_eq_true rfl⟩ rfl rfl (Nat.le_of_ble_eq_true rfl) dX7_addsChip_88 ?_
      refine v_iload_n K 2 rfl rfl dX7_addsChip_91 ?_
      obtain ⟨g10, hf⟩ := chk_of hf
      refine v_iast K (am1_12 (ak_7_0 h0)) (.inr (ak_7_0 h0)) g10 dX7_addsChip_92 ?_
      refine v_st (fun u11 eu11 => ?_)
      have hf := lte_of eu11 hf
      refine v_aload_n K 0 rfl rfl dX7_addsChip_93 ?_
      refine gf_7_0 K h0 fl_X7_7 dX7_addsChip_94 ?_
      refine v_iload_n K 3 rfl rfl dX7_addsChip_97 ?_
      refine v_iconst K (v := 3) (by decide) dX7_addsChip_98 ?_
      obtain ⟨r13, u12, e14, hf⟩ := bnd_of hf
      refine v_callSi K (c_X7_at e14) cv_X7_at ml_X7_47 ⟨rfl, rfl, Nat.le_of_ble_eq_true rfl, Nat.le_of_ble_eq_true rfl⟩ rfl rfl (Nat.le_of_ble_eq_true rfl) dX7_addsChip_99 ?_
      refine v_aload_n K 0 rfl rfl dX7_addsChip_102 ?_
      refine v_iload_n K 3 rfl rfl dX7_addsChip_103 ?_
      obtain ⟨r16, u15, e17, hf⟩ := bnd_of hf
      refine v_callVi K (c_X7_firstOf h0 e17) cv_X7_firstOf ml_X7_75 (am1_7 h0) h0 kdX7 ⟨rfl, rfl, Nat.le_of_ble_eq_true rfl, Nat.le_of_ble_eq_true rfl⟩ rfl rfl (Nat.le_of_ble_eq_true rfl) dX7_addsChip_104 ?_
      obtain ⟨g18, hf⟩ := chk_of hf
      refine v_iast K (am1_12 (ak_7_0 h0)) (.inr (ak_7_0 h0)) g18 dX7_addsChip_107 ?_
      refine v_st (fun u19 eu19 => ?_)
      have hf := lte_of eu19 hf
      refine v_aload_n K 0 rfl rfl dX7_addsChip_108 ?_
      refine gf_7_0 K h0 fl_X7_7 dX7_addsChip_109 ?_
      refine v_iconst K (v := 0) (by decide) dX7_addsChip_112 ?_
      refine v_dup2 K rfl rfl dX7_addsChip_113 ?_
      obtain ⟨g20, hf⟩ := chk_of hf
      refine v_iald K (am1_12 (ak_7_0 h0)) (.inr (ak_7_0 h0)) g20 dX7_addsChip_114 ?_
      refine v_iconst K (v := 1) (by decide) dX7_addsChip_115 ?_
      refine v_iadd K dX7_addsChip_116 ?_
      obtain ⟨g21, hf⟩ := chk_of hf
      refine v_iast K (am1_12 (ak_7_0 h0)) (.inr (ak_7_0 h0)) g21 dX7_addsChip_117 ?_
      refine v_st (fun u22 eu22 => ?_)
      have hf := lte_of eu22 hf
      refine v_iload_n K 3 rfl rfl dX7_addsChip_118 ?_
      obtain ⟨rfl, rfl⟩ := pair_of hf
      exact v_iret K dX7_addsChip_119
    · have hf := ite_f c1 hf
      refine v_aload_n K 0 rfl rfl dX7_addsChip_53 ?_
      refine gf_7_0 K h0 fl_X7_7 dX7_addsChip_54 ?_
      refine v_iload_n K 3 rfl rfl dX7_addsChip_57 ?_
      refine v_iload K 4 rfl dX7_addsChip_58 ?_
      obtain ⟨r24, u23, e25, hf⟩ := bnd_of hf
      refine v_callSi K (c_X7_at e25) cv_X7_at ml_X7_47 ⟨rfl, rfl, Nat.le_of_ble_eq_true rfl, Nat.le_of_ble_eq_true rfl⟩ rfl rfl (Nat.le_of_ble_eq_true rfl) dX7_addsChip_60 ?_
      refine v_iconst K (v := 0) (by decide) dX7_addsChip_63 ?_
      obtain ⟨g26, hf⟩ := chk_of hf
      refine v_iast K (am1_12 (ak_7_0 h0)) (.inr (ak_7_0 h0)) g26 dX7_addsChip_64 ?_
      refine v_st (fun u27 eu27 => ?_)
      have hf := lte_of eu27 hf
      refine v_iinc K 4 (v := x4 + 1) (ls' := [(4, .int (x4 + 1)), (0, .ref (X.2.1 o0)), (1, .int p1), (2, .int p2), (3, .int x3)]) rfl rfl (by decide) rfl dX7_addsChip_65 ?_
      refine v_goto K 46 (by decide) dX7_addsChip_68 ?_
      refine v_sub [1, 2, 3, 4, 0] rfl ?_
      exact ih x3 (x4 + 1) u27 hf
set_option maxRecDepth 20000 in
theorem t_X7_addsChip_20 {M : Mx} {X : Wx} {N : Nat} {o0 : Nat} {p1 : Int32} {p2 : Int32} (h0 : akd o0 = 7) {r : Int32} {u' : ASt} (K : OkM 1 M X cX7_addsChip 5 RX7 rm_X7_addsChip (some .int)) {u : ASt} (hf : f_X7_addsChip_20 N o0 p1 p2  u = some (r, u')) : V 1 M X (some (.int r), u') 5 20 [] [] u := by
  unfold f_X7_addsChip_20 at hf
  refine v_bipush K (v := (-2)) (by decide) dX7_addsChip_20 ?_
  obtain ⟨rfl, rfl⟩ := pair_of hf
  exact v_iret K dX7_addsChip_22
set_option maxRecDepth 20000 in
theorem c_X7_addsChip {X : Wx} {N : Nat} {o0 : Nat} {p1 : Int32} {p2 : Int32} (h0 : akd o0 = 7) {u u' : ASt} {r : Int32} (hf : f_X7_addsChip N o0 p1 p2 u = some (r, u')) (l : Launch) : Met l yX7_addsChip (ws_ yX7_addsChip cX7_addsChip 5 (some .int)) rm_X7_addsChip (Pg 1 X u [.ref (X.2.1 o0), .int p1, .int p2]) (Qg 1 X (some (.int r)) u') 0 0 (Aw 1 X) := by
  refine v_met (res := (some (.int r), u')) (by decide) (Nat.le_of_ble_eq_true rfl) (fun M K => ?_)
  have K : OkM 1 M X cX7_addsChip 5 RX7 rm_X7_addsChip (some .int) := K
  show V 1 M X (some (.int r), u') 5 0 [(0, .ref (X.2.1 o0)), (1, .int p1), (2, .int p2)] [] u
  unfold f_X7_addsChip at hf
  refine v_iload_n K 1 rfl rfl dX7_addsChip_0 ?_
  refine v_iconst K (v := 2) (by decide) dX7_addsChip_1 ?_
  refine v_iconst K (v := 4) (by decide) dX7_addsChip_2 ?_
  obtain ⟨r29, u28, e30, hf⟩ := bnd_of hf
  refine v_callSi K (c_X7_within e30) cv_X7_within ml_X7_43 ⟨rfl, rfl, Nat.le_of_ble_eq_true rfl, Nat.le_of_ble_eq_true rfl⟩ rfl rfl (Nat.le_of_ble_eq_true rfl) dX7_addsChip_3 ?_
  refine v_if_eq K 20 (by decide) dX7_addsChip_6 (fun c31 => ?_) (fun c31 => ?_)
  · have hf := ite_t c31 hf
    refine v_sub [] rfl ?_
    exact t_X7_addsChip_20 h0 K hf
  · have hf := ite_f c31 hf
    refine v_iload_n K 2 rfl rfl dX7_addsChip_9 ?_
    refine v_iconst K (v := 0) (by decide) dX7_addsChip_10 ?_
    refine v_sipush K (v := 256) (by decide) dX7_addsChip_11 ?_
    obtain ⟨r33, u32, e34, hf⟩ := bnd_of hf
    refine v_callSi K (c_X7_within e34) cv_X7_within ml_X7_43 ⟨rfl, rfl, Nat.le_of_ble_eq_true rfl, Nat.le_of_ble_eq_true rfl⟩ rfl rfl (Nat.le_of_ble_eq_true rfl) dX7_addsChip_14 ?_
    refine v_if_ne K 23 (by decide) dX7_addsChip_17 (fun c35 => ?_) (fun c35 => ?_)
    · have hf := ite_f c35 hf
      refine v_aload_n K 0 rfl rfl dX7_addsChip_23 ?_
      refine gf_7_0 K h0 fl_X7_7 dX7_addsChip_24 ?_
      refine v_iconst K (v := 0) (by decide) dX7_addsChip_27 ?_
      obtain ⟨g36, hf⟩ := chk_of hf
      refine v_iald K (am1_12 (ak_7_0 h0)) (.inr (ak_7_0 h0)) g36 dX7_addsChip_28 ?_
      refine v_iconst K (v := 4) (by decide) dX7_addsChip_29 ?_
      refine v_icmp_ne K 36 (by decide) dX7_addsChip_30 (fun c37 => ?_) (fun c37 => ?_)
      · have hf := ite_f c37 hf
        refine v_aload_n K 0 rfl rfl dX7_addsChip_36 ?_
        refine gf_7_0 K h0 fl_X7_7 dX7_addsChip_37 ?_
        refine v_iconst K (v := 0) (by decide) dX7_addsChip_40 ?_
        obtain ⟨g38, hf⟩ := chk_of hf
        refine v_iald K (am1_12 (ak_7_0 h0)) (.inr (ak_7_0 h0)) g38 dX7_addsChip_41 ?_
        refine v_topi (fun z39 ez39 => ?_)
        have hf := lte_of ez39 hf
        refine v_istore_n K (ls' := [(3, .int z39), (0, .ref (X.2.1 o0)), (1, .int p1), (2, .int p2)]) rfl (by decide) rfl dX7_addsChip_42 ?_
        refine v_iconst K (v := 0) (by decide) dX7_addsChip_43 ?_
        refine v_istore K (ls' := [(4, .int 0), (3, .int z39), (0, .ref (X.2.1 o0)), (1, .int p1), (2, .int p2)]) (by decide) rfl dX7_addsChip_44 ?_
        refine v_sub [2, 3, 4, 1, 0] rfl ?_
        exact t_X7_addsChip_46 h0 K N z39 0 u32 hf
      · have hf := ite_t c37 hf
        refine v_bipush K (v := (-4)) (by decide) dX7_addsChip_33 ?_
        obtain ⟨rfl, rfl⟩ := pair_of hf
        exact v_iret K dX7_addsChip_35
    · have hf := ite_t c35 hf
      refine v_sub [] rfl ?_
      exact t_X7_addsChip_20 h0 K hf
abbrev rm_X7_addsCell : Room := { frames := 2, cells := 0, slots := 0, locals := 43 }
set_option maxRecDepth 20000 in
theorem t_X7_addsCell_22 {M : Mx} {X : Wx} {N : Nat} {o0 : Nat} {p1 : Int32} {p2 : Int32} {p3 : Int32} (h0 : akd o0 = 7) {r : Int32} {u' : ASt} (K : OkM 1 M X cX7_addsCell 5 RX7 rm_X7_addsCell (some .int)) {u : ASt} (hf : f_X7_addsCell_22 N o0 p1 p2 p3  u = some (r, u')) : V 1 M X (some (.int r), u') 5 22 [] [] u := by
  unfold f_X7_addsCell_22 at hf
  refine v_bipush K (v := (-2)) (by decide) dX7_addsCell_22 ?_
  obtain ⟨rfl, rfl⟩ := pair_of hf
  exact v_iret K dX7_addsCell_24
set_option maxRecDepth 20000 in
theorem c_X7_addsCell {X : Wx} {N : Nat} {o0 : Nat} {p1 : Int32} {p2 : Int32} {p3 : Int32} (h0 : akd o0 = 7) {u u' : ASt} {r : Int32} (hf : f_X7_addsCell N o0 p1 p2 p3 u = some (r, u')) (l : Launch) : Met l yX7_addsCell (ws_ yX7_addsCell cX7_addsCell 5 (some .int)) rm_X7_addsCell (Pg 1 X u [.ref (X.2.1 o0), .int p1, .int p2, .int p3]) (Qg 1 X (some (.int r)) u') 0 0 (Aw 1 X) := by
  refine v_met (res := (some (.int r), u')) (by decide) (Nat.le_of_ble_eq_true rfl) (fun M K => ?_)
  have K : OkM 1 M X cX7_addsCell 5 RX7 rm_X7_addsCell (some .int) := K
  show V 1 M X (some (.int r), u') 5 0 [(0, .ref (X.2.1 o0)), (1, .int p1), (2, .int p2), (3, .int p3)] [] u
  unfold f_X7_addsCell at hf
  refine v_aload_n K 0 rfl rfl dX7_addsCell_0 ?_
  refine v_iload_n K 1 rfl rfl dX7_addsCell_1 ?_
  obtain ⟨r2, u1, e3, hf⟩ := bnd_of hf
  refine v_callVi K (c_X7_isChip h0 e3) cv_X7_isChip ml_X7_51 (am1_7 h0) h0 kdX7 ⟨rfl, rfl, Nat.le_of_ble_eq_true rfl, Nat.le_of_ble_eq_true rfl⟩ rfl rfl (Nat.le_of_ble_eq_true rfl) dX7_addsCell_2 ?_
  refine v_if_eq K 22 (by decide) dX7_addsCell_5 (fun c4 => ?_) (fun c4 => ?_)
  · have hf := ite_t c4 hf
    refine v_sub [] rfl ?_
    exact t_X7_addsCell_22 h0 K hf
  · have hf := ite_f c4 hf
    refine v_iload_n K 2 rfl rfl dX7_addsCell_8 ?_
    obtain ⟨r6, u5, e7, hf⟩ := bnd_of hf
    refine v_callSi K (c_X7_isBit e7) cv_X7_isBit ml_X7_79 ⟨rfl, rfl, Nat.le_of_ble_eq_true rfl, Nat.le_of_ble_eq_true rfl⟩ rfl rfl (Nat.le_of_ble_eq_true rfl) dX7_addsCell_9 ?_
    refine v_if_eq K 22 (by decide) dX7_addsCell_12 (fun c8 => ?_) (fun c8 => ?_)
    · have hf := ite_t c8 hf
      refine v_sub [] rfl ?_
      exact t_X7_addsCell_22 h0 K hf
    · have hf := ite_f c8 hf
      refine v_iload_n K 3 rfl rfl dX7_addsCell_15 ?_
      obtain ⟨r10, u9, e11, hf⟩ := bnd_of hf
      refine v_callSi K (c_X7_isNet e11) cv_X7_isNet ml_X7_82 ⟨rfl, rfl, Nat.le_of_ble_eq_true rfl, Nat.le_of_ble_eq_true rfl⟩ rfl rfl (Nat.le_of_ble_eq_true rfl) dX7_addsCell_16 ?_
      refine v_if_ne K 25 (by decide) dX7_addsCell_19 (fun c12 => ?_) (fun c12 => ?_)
      · have hf := ite_f c12 hf
        refine v_aload_n K 0 rfl rfl dX7_addsCell_25 ?_
        refine v_iload_n K 1 rfl rfl dX7_addsCell_26 ?_
        refine v_iconst K (v := 2) (by decide) dX7_addsCell_27 ?_
        obtain ⟨r14, u13, e15, hf⟩ := bnd_of hf
        refine v_callVi K (c_X7_get h0 e15) cv_X7_get ml_X7_55 (am1_7 h0) h0 kdX7 ⟨rfl, rfl, Nat.le_of_ble_eq_true rfl, Nat.le_of_ble_eq_true rfl⟩ rfl rfl (Nat.le_of_ble_eq_true rfl) dX7_addsCell_28 ?_
        refine v_istore K (ls' := [(4, .int r14), (0, .ref (X.2.1 o0)), (1, .int p1), (2, .int p2), (3, .int p3)]) (by decide) rfl dX7_addsCell_31 ?_
        refine v_iload K 0 rfl dX7_addsCell_33 ?_
        refine v_bipush K (v := 6) (by decide) dX7_addsCell_35 ?_
        refine v_icmp_ne K 43 (by decide) dX7_addsCell_37 (fun c16 => ?_) (fun c16 => ?_)
        · have hf := ite_f c16 hf
          refine v_aload_n K 1 rfl rfl dX7_addsCell_43 ?_
          refine gf_7_0 K h0 fl_X7_7 dX7_addsCell_44 ?_
          refine v_iload_n K 2 rfl rfl dX7_addsCell_47 ?_
          refine v_bipush K (v := 7) (by decide) dX7_addsCell_48 ?_
          refine v_iconst K (v := 2) (by decide) dX7_addsCell_50 ?_
          refine v_iload K 0 rfl dX7_addsCell_51 ?_
          refine v_imul K dX7_addsCell_53 ?_
          refine v_iadd K dX7_addsCell_54 ?_
          obtain ⟨r18, u17, e19, hf⟩ := bnd_of hf
          refine v_callSi K (c_X7_at e19) cv_X7_at ml_X7_47 ⟨rfl, rfl, Nat.le_of_ble_eq_true rfl, Nat.le_of_ble_eq_true rfl⟩ rfl rfl (Nat.le_of_ble_eq_true rfl) dX7_addsCell_55 ?_
          refine v_iload_n K 3 rfl rfl dX7_addsCell_58 ?_
          obtain ⟨g20, hf⟩ := chk_of hf
          refine v_iast K (am1_12 (ak_7_0 h0)) (.inr (ak_7_0 h0)) g20 dX7_addsCell_59 ?_
          refine v_st (fun u21 eu21 => ?_)
          have hf := lte_of eu21 hf
          refine v_aload_n K 1 rfl rfl dX7_addsCell_60 ?_
          refine gf_7_0 K h0 fl_X7_7 dX7_addsCell_61 ?_
          refine v_iload_n K 2 rfl rfl dX7_addsCell_64 ?_
          refine v_bipush K (v := 7) (by decide) dX7_addsCell_65 ?_
          refine v_iconst K (v := 2) (by decide) dX7_addsCell_67 ?_
          refine v_iload K 0 rfl dX7_addsCell_68 ?_
          refine v_imul K dX7_addsCell_70 ?_
          refine v_iadd K dX7_addsCell_71 ?_
          refine v_iconst K (v := 1) (by decide) dX7_addsCell_72 ?_
          refine v_iadd K dX7_addsCell_73 ?_
          obtain ⟨r23, u22, e24, hf⟩ := bnd_of hf
          refine v_callSi K (c_X7_at e24) cv_X7_at ml_X7_47 ⟨rfl, rfl, Nat.le_of_ble_eq_true rfl, Nat.le_of_ble_eq_true rfl⟩ rfl rfl (Nat.le_of_ble_eq_true rfl) dX7_addsCell_74 ?_
          refine v_iload_n K 4 rfl rfl dX7_addsCell_77 ?_
          obtain ⟨g25, hf⟩ := chk_of hf
          refine v_iast K (am1_12 (ak_7_0 h0)) (.inr (ak_7_0 h0)) g25 dX7_addsCell_78 ?_
          refine v_st (fun u26 eu26 => ?_)
          have hf := lte_of eu26 hf
          refine v_aload_n K 1 rfl rfl dX7_addsCell_79 ?_
          refine gf_7_0 K h0 fl_X7_7 dX7_addsCell_80 ?_
          refine v_iload_n K 2 rfl rfl dX7_addsCell_83 ?_
          refine v_iconst K (v := 2) (by decide) dX7_addsCell_84 ?_
          obtain ⟨r28, u27, e29, hf⟩ := bnd_of hf
          refine v_callSi K (c_X7_at e29) cv_X7_at ml_X7_47 ⟨rfl, rfl, Nat.le_of_ble_eq_true rfl, Nat.le_of_ble_eq_true rfl⟩ rfl rfl (Nat.le_of_ble_eq_true rfl) dX7_addsCell_85 ?_
          refine v_dup2 K rfl rfl dX7_addsCell_88 ?_
          obtain ⟨g30, hf⟩ := chk_of hf
          refine v_iald K (am1_12 (ak_7_0 h0)) (.inr (ak_7_0 h0)) g30 dX7_addsCell_89 ?_
          refine v_iconst K (v := 1) (by decide) dX7_addsCell_90 ?_
          refine v_iadd K dX7_addsCell_91 ?_
          obtain ⟨g31, hf⟩ := chk_of hf
          refine v_iast K (am1_12 (ak_7_0 h0)) (.inr (ak_7_0 h0)) g31 dX7_addsCell_92 ?_
          refine v_st (fun u32 eu32 => ?_)
          have hf := lte_of eu32 hf
          refine v_iload K 0 rfl dX7_addsCell_93 ?_
          obtain ⟨rfl, rfl⟩ := pair_of hf
          exact v_iret K dX7_addsCell_95
        · have hf := ite_t c16 hf
          refine v_bipush K (v := (-4)) (by decide) dX7_addsCell_40 ?_
          obtain ⟨rfl, rfl⟩ := pair_of hf
          exact v_iret K dX7_addsCell_42
      · have hf := ite_t c12 hf
        refine v_sub [] rfl ?_
        exact t_X7_addsCell_22 h0 K hf
abbrev rm_X7_addsFault : Room := { frames := 0, cells := 0, slots := 0, locals := 0 }
set_option maxRecDepth 20000 in
theorem c_X7_addsFault {X : Wx} {N : Nat} {o0 : Nat} {p1 : Int32} {p2 : Int32} (h0 : akd o0 = 7) {u u' : ASt} {r : Int32} (hf : f_X7_addsFault N o0 p1 p2 u = some (r, u')) (l : Launch) : Met l yX7_addsFault (ws_ yX7_addsFault cX7_addsFault 3 (some .int)) rm_X7_addsFault (Pg 1 X u [.ref (X.2.1 o0), .int p1, .int p2]) (Qg 1 X (some (.int r)) u') 0 0 (Aw 1 X) := by
  refine v_met (res := (some (.int r), u')) (by decide) (Nat.le_of_ble_eq_true rfl) (fun M K => ?_)
  have K : OkM 1 M X cX7_addsFault 3 RX7 rm_X7_addsFault (some .int) := K
  show V 1 M X (some (.int r), u') 3 0 [(0, .ref (X.2.1 o0)), (1, .int p1), (2, .int p2)] [] u
  unfold f_X7_addsFault at hf
  refine v_iload_n K 1 rfl rfl dX7_addsFault_0 ?_
  refine v_if_ne K 7 (by decide) dX7_addsFault_1 (fun c1 => ?_) (fun c1 => ?_)
  · have hf := ite_f c1 hf
    refine v_aload_n K 0 rfl rfl dX7_addsFault_7 ?_
    refine gf_7_0 K h0 fl_X7_7 dX7_addsFault_8 ?_
    refine v_iconst K (v := 2) (by decide) dX7_addsFault_11 ?_
    obtain ⟨g2, hf⟩ := chk_of hf
    refine v_iald K (am1_12 (ak_7_0 h0)) (.inr (ak_7_0 h0)) g2 dX7_addsFault_12 ?_
    refine v_iconst K (v := 4) (by decide) dX7_addsFault_13 ?_
    refine v_icmp_ne K 20 (by decide) dX7_addsFault_14 (fun c3 => ?_) (fun c3 => ?_)
    · have hf := ite_f c3 hf
      refine v_aload_n K 0 rfl rfl dX7_addsFault_20 ?_
      refine gf_7_0 K h0 fl_X7_7 dX7_addsFault_21 ?_
      refine v_iconst K (v := 3) (by decide) dX7_addsFault_24 ?_
      refine v_aload_n K 0 rfl rfl dX7_addsFault_25 ?_
      refine gf_7_0 K h0 fl_X7_7 dX7_addsFault_26 ?_
      refine v_iconst K (v := 2) (by decide) dX7_addsFault_29 ?_
      obtain ⟨g4, hf⟩ := chk_of hf
      refine v_iald K (am1_12 (ak_7_0 h0)) (.inr (ak_7_0 h0)) g4 dX7_addsFault_30 ?_
      refine v_iadd K dX7_addsFault_31 ?_
      refine v_iload_n K 2 rfl rfl dX7_addsFault_32 ?_
      obtain ⟨g5, hf⟩ := chk_of hf
      refine v_iast K (am1_12 (ak_7_0 h0)) (.inr (ak_7_0 h0)) g5 dX7_addsFault_33 ?_
      refine v_st (fun u6 eu6 => ?_)
      have hf := lte_of eu6 hf
      refine v_aload_n K 0 rfl rfl dX7_addsFault_34 ?_
      refine gf_7_0 K h0 fl_X7_7 dX7_addsFault_35 ?_
      refine v_iconst K (v := 2) (by decide) dX7_addsFault_38 ?_
      refine v_dup2 K rfl rfl dX7_addsFault_39 ?_
      obtain ⟨g7, hf⟩ := chk_of hf
      refine v_iald K (am1_12 (ak_7_0 h0)) (.inr (ak_7_0 h0)) g7 dX7_addsFault_40 ?_
      refine v_iconst K (v := 1) (by decide) dX7_addsFault_41 ?_
      refine v_iadd K dX7_addsFault_42 ?_
      obtain ⟨g8, hf⟩ := chk_of hf
      refine v_iast K (am1_12 (ak_7_0 h0)) (.inr (ak_7_0 h0)) g8 dX7_addsFault_43 ?_
      refine v_st (fun u9 eu9 => ?_)
      have hf := lte_of eu9 hf
      refine v_aload_n K 0 rfl rfl dX7_addsFault_44 ?_
      refine gf_7_0 K h0 fl_X7_7 dX7_addsFault_45 ?_
      refine v_iconst K (v := 2) (by decide) dX7_addsFault_48 ?_
      obtain ⟨g10, hf⟩ := chk_of hf
      refine v_iald K (am1_12 (ak_7_0 h0)) (.inr (ak_7_0 h0)) g10 dX7_addsFault_49 ?_
      obtain ⟨rfl, rfl⟩ := pair_of hf
      exact v_iret K dX7_addsFault_50
    · have hf := ite_t c3 hf
      refine v_bipush K (v := (-4)) (by decide) dX7_addsFault_17 ?_
      obtain ⟨rfl, rfl⟩ := pair_of hf
      exact v_iret K dX7_addsFault_19
  · have hf := ite_t c1 hf
    refine v_bipush K (v := (-2)) (by decide) dX7_addsFault_4 ?_
    obtain ⟨rfl, rfl⟩ := pair_of hf
    exact v_iret K dX7_addsFault_6
abbrev rm_X7_opensOne : Room := { frames := 3, cells := 0, slots := 0, locals := 65 }
set_option maxRecDepth 20000 in
theorem c_X7_opensOne {X : Wx} {N : Nat} {o0 : Nat} {p1 : Int32} {p2 : Int32} (h0 : akd o0 = 7) {u u' : ASt} {r : Int32} (hf : f_X7_opensOne N o0 p1 p2 u = some (r, u')) (l : Launch) : Met l yX7_opensOne (ws_ yX7_opensOne cX7_opensOne 3 (some .int)) rm_X7_opensOne (Pg 1 X u [.ref (X.2.1 o0), .int p1, .int p2]) (Qg 1 X (some (.int r)) u') 0 0 (Aw 1 X) := by
  refine v_met (res := (some (.int r), u')) (by decide) (Nat.le_of_ble_eq_true rfl) (fun M K => ?_)
  have K : OkM 1 M X cX7_opensOne 3 RX7 rm_X7_opensOne (some .int) := K
  show V 1 M X (some (.int r), u') 3 0 [(0, .ref (X.2.1 o0)), (1, .int p1), (2, .int p2)] [] u
  unfold f_X7_opensOne at hf
  refine v_aload_n K 0 rfl rfl dX7_opensOne_0 ?_
  refine v_aload_n K 0 rfl rfl dX7_opensOne_1 ?_
  refine v_iload_n K 1 rfl rfl dX7_opensOne_2 ?_
  refine v_iload_n K 2 rfl rfl dX7_opensOne_3 ?_
  obtain ⟨r2, u1, e3, hf⟩ := bnd_of hf
  refine v_callVi K (c_X7_isCell h0 e3) cv_X7_isCell ml_X7_85 (am1_7 h0) h0 kdX7 ⟨rfl, rfl, Nat.le_of_ble_eq_true rfl, Nat.le_of_ble_eq_true rfl⟩ rfl rfl (Nat.le_of_ble_eq_true rfl) dX7_opensOne_4 ?_
  refine v_sipush K (v := 1000) (by decide) dX7_opensOne_7 ?_
  refine v_bipush K (v := 10) (by decide) dX7_opensOne_10 ?_
  refine v_iload_n K 1 rfl rfl dX7_opensOne_12 ?_
  refine v_imul K dX7_opensOne_13 ?_
  refine v_iadd K dX7_opensOne_14 ?_
  refine v_iload_n K 2 rfl rfl dX7_opensOne_15 ?_
  refine v_iadd K dX7_opensOne_16 ?_
  obtain ⟨r5, u4, e6, hf⟩ := bnd_of hf
  refine v_callVi K (c_X7_addsFault h0 e6) cv_X7_addsFault ml_X7_89 (am1_7 h0) h0 kdX7 ⟨rfl, rfl, Nat.le_of_ble_eq_true rfl, Nat.le_of_ble_eq_true rfl⟩ rfl rfl (Nat.le_of_ble_eq_true rfl) dX7_opensOne_17 ?_
  obtain ⟨rfl, rfl⟩ := pair_of hf
  exact v_iret K dX7_opensOne_20
abbrev rm_X7_sticksOne : Room := { frames := 2, cells := 0, slots := 0, locals := 42 }
set_option maxRecDepth 20000 in
theorem t_X7_sticksOne_20 {M : Mx} {X : Wx} {N : Nat} {o0 : Nat} {p1 : Int32} {p2 : Int32} (h0 : akd o0 = 7) {r : Int32} {u' : ASt} (K : OkM 1 M X cX7_sticksOne 3 RX7 rm_X7_sticksOne (some .int)) {c0 : Nat} {y1 : Int32} (hc0 : akd c0 = 7) {u : ASt} (hf : f_X7_sticksOne_20 N o0 p1 p2 c0 y1 u = some (r, u')) : V 1 M X (some (.int r), u') 3 20 [(1, .int p1), (2, .int p2)] [.int y1, .ref (X.2.1 c0)] u := by
  unfold f_X7_sticksOne_20 at hf
  refine v_sipush K (v := 2000) (by decide) dX7_sticksOne_20 ?_
  refine v_bipush K (v := 10) (by decide) dX7_sticksOne_23 ?_
  refine v_iload_n K 0 rfl rfl dX7_sticksOne_25 ?_
  refine v_imul K dX7_sticksOne_26 ?_
  refine v_iadd K dX7_sticksOne_27 ?_
  refine v_iload_n K 1 rfl rfl dX7_sticksOne_28 ?_
  refine v_iadd K dX7_sticksOne_29 ?_
  obtain ⟨r2, u1, e3, hf⟩ := bnd_of hf
  refine v_callVi K (c_X7_addsFault hc0 e3) cv_X7_addsFault ml_X7_89 (am1_7 hc0) hc0 kdX7 ⟨rfl, rfl, Nat.le_of_ble_eq_true rfl, Nat.le_of_ble_eq_true rfl⟩ rfl rfl (Nat.le_of_ble_eq_true rfl) dX7_sticksOne_30 ?_
  obtain ⟨rfl, rfl⟩ := pair_of hf
  exact v_iret K dX7_sticksOne_33
set_option maxRecDepth 20000 in
theorem t_X7_sticksOne_19 {M : Mx} {X : Wx} {N : Nat} {o0 : Nat} {p1 : Int32} {p2 : Int32} (h0 : akd o0 = 7) {r : Int32} {u' : ASt} (K : OkM 1 M X cX7_sticksOne 3 RX7 rm_X7_sticksOne (some .int)) {c0 : Nat} (hc0 : akd c0 = 7) {u : ASt} (hf : f_X7_sticksOne_19 N o0 p1 p2 c0 u = some (r, u')) : V 1 M X (some (.int r), u') 3 19 [(1, .int p1), (2, .int p2)] [.ref (X.2.1 c0)] u := by
  unfold f_X7_sticksOne_19 at hf
  refine v_iconst K (v := 0) (by decide) dX7_sticksOne_19 ?_
  exact t_X7_sticksOne_20 h0 K hc0 hf
set_option maxRecDepth 20000 in
theorem c_X7_sticksOne {X : Wx} {N : Nat} {o0 : Nat} {p1 : Int32} {p2 : Int32} (h0 : akd o0 = 7) {u u' : ASt} {r : Int32} (hf : f_X7_sticksOne N o0 p1 p2 u = some (r, u')) (l : Launch) : Met l yX7_sticksOne (ws_ yX7_sticksOne cX7_sticksOne 3 (some .int)) rm_X7_sticksOne (Pg 1 X u [.ref (X.2.1 o0), .int p1, .int p2]) (Qg 1 X (some (.int r)) u') 0 0 (Aw 1 X) := by
  refine v_met (res := (some (.int r), u')) (by decide) (Nat.le_of_ble_eq_true rfl) (fun M K => ?_)
  have K : OkM 1 M X cX7_sticksOne 3 RX7 rm_X7_sticksOne (some .int) := K
  show V 1 M X (some (.int r), u') 3 0 [(0, .ref (X.2.1 o0)), (1, .int p1), (2, .int p2)] [] u
  unfold f_X7_sticksOne at hf
  refine v_aload_n K 0 rfl rfl dX7_sticksOne_0 ?_
  refine v_iload_n K 1 rfl rfl dX7_sticksOne_1 ?_
  obtain ⟨r5, u4, e6, hf⟩ := bnd_of hf
  refine v_callSi K (c_X7_isNet e6) cv_X7_isNet ml_X7_82 ⟨rfl, rfl, Nat.le_of_ble_eq_true rfl, Nat.le_of_ble_eq_true rfl⟩ rfl rfl (Nat.le_of_ble_eq_true rfl) dX7_sticksOne_2 ?_
  refine v_if_eq K 19 (by decide) dX7_sticksOne_5 (fun c7 => ?_) (fun c7 => ?_)
  · have hf := ite_t c7 hf
    refine v_sub [1, 2] rfl ?_
    exact t_X7_sticksOne_19 h0 K h0 hf
  · have hf := ite_f c7 hf
    refine v_iload_n K 2 rfl rfl dX7_sticksOne_8 ?_
    obtain ⟨r9, u8, e10, hf⟩ := bnd_of hf
    refine v_callSi K (c_X7_isBit e10) cv_X7_isBit ml_X7_79 ⟨rfl, rfl, Nat.le_of_ble_eq_true rfl, Nat.le_of_ble_eq_true rfl⟩ rfl rfl (Nat.le_of_ble_eq_true rfl) dX7_sticksOne_9 ?_
    refine v_if_eq K 19 (by decide) dX7_sticksOne_12 (fun c11 => ?_) (fun c11 => ?_)
    · have hf := ite_t c11 hf
      refine v_sub [1, 2] rfl ?_
      exact t_X7_sticksOne_19 h0 K h0 hf
    · have hf := ite_f c11 hf
      refine v_iconst K (v := 1) (by decide) dX7_sticksOne_15 ?_
      refine v_goto K 20 (by decide) dX7_sticksOne_16 ?_
      refine v_sub [1, 2] rfl ?_
      exact t_X7_sticksOne_20 h0 K h0 hf
abbrev rm_X7_shortsTwo : Room := { frames := 2, cells := 0, slots := 0, locals := 42 }
set_option maxRecDepth 20000 in
theorem t_X7_shortsTwo_56 {M : Mx} {X : Wx} {N : Nat} {o0 : Nat} {p1 : Int32} {p2 : Int32} {p3 : Int32} (h0 : akd o0 = 7) {r : Int32} {u' : ASt} (K : OkM 1 M X cX7_shortsTwo 6 RX7 rm_X7_shortsTwo (some .int)) {x4 : Int32} {x5 : Int32} {c0 : Nat} {y1 : Int32} (hc0 : akd c0 = 7) {u : ASt} (hf : f_X7_shortsTwo_56 N o0 p1 p2 p3 x4 x5 c0 y1 u = some (r, u')) : V 1 M X (some (.int r), u') 6 56 [(3, .int p3), (4, .int x4), (5, .int x5)] [.int y1, .ref (X.2.1 c0)] u := by
  unfold f_X7_shortsTwo_56 at hf
  refine v_sipush K (v := 3000) (by decide) dX7_shortsTwo_56 ?_
  refine v_sipush K (v := 1000) (by decide) dX7_shortsTwo_59 ?_
  refine v_iload_n K 0 rfl rfl dX7_shortsTwo_62 ?_
  refine v_imul K dX7_shortsTwo_63 ?_
  refine v_iadd K dX7_shortsTwo_64 ?_
  refine v_bipush K (v := 10) (by decide) dX7_shortsTwo_65 ?_
  refine v_iload K 1 rfl dX7_shortsTwo_67 ?_
  refine v_imul K dX7_shortsTwo_69 ?_
  refine v_iadd K dX7_shortsTwo_70 ?_
  refine v_iload K 2 rfl dX7_shortsTwo_71 ?_
  refine v_iadd K dX7_shortsTwo_73 ?_
  obtain ⟨r2, u1, e3, hf⟩ := bnd_of hf
  refine v_callVi K (c_X7_addsFault hc0 e3) cv_X7_addsFault ml_X7_89 (am1_7 hc0) hc0 kdX7 ⟨rfl, rfl, Nat.le_of_ble_eq_true rfl, Nat.le_of_ble_eq_true rfl⟩ rfl rfl (Nat.le_of_ble_eq_true rfl) dX7_shortsTwo_74 ?_
  obtain ⟨rfl, rfl⟩ := pair_of hf
  exact v_iret K dX7_shortsTwo_77
set_option maxRecDepth 20000 in
theorem t_X7_shortsTwo_55 {M : Mx} {X : Wx} {N : Nat} {o0 : Nat} {p1 : Int32} {p2 : Int32} {p3 : Int32} (h0 : akd o0 = 7) {r : Int32} {u' : ASt} (K : OkM 1 M X cX7_shortsTwo 6 RX7 rm_X7_shortsTwo (some .int)) {x4 : Int32} {x5 : Int32} {c0 : Nat} (hc0 : akd c0 = 7) {u : ASt} (hf : f_X7_shortsTwo_55 N o0 p1 p2 p3 x4 x5 c0 u = some (r, u')) : V 1 M X (some (.int r), u') 6 55 [(3, .int p3), (4, .int x4), (5, .int x5)] [.ref (X.2.1 c0)] u := by
  unfold f_X7_shortsTwo_55 at hf
  refine v_iconst K (v := 0) (by decide) dX7_shortsTwo_55 ?_
  exact t_X7_shortsTwo_56 h0 K hc0 hf
set_option maxRecDepth 20000 in
theorem t_X7_shortsTwo_22 {M : Mx} {X : Wx} {N : Nat} {o0 : Nat} {p1 : Int32} {p2 : Int32} {p3 : Int32} (h0 : akd o0 = 7) {r : Int32} {u' : ASt} (K : OkM 1 M X cX7_shortsTwo 6 RX7 rm_X7_shortsTwo (some .int)) {x4 : Int32} {y0 : Int32} {u : ASt} (hf : f_X7_shortsTwo_22 N o0 p1 p2 p3 x4 y0 u = some (r, u')) : V 1 M X (some (.int r), u') 6 22 [(0, .ref (X.2.1 o0)), (1, .int p1), (2, .int p2), (3, .int p3), (4, .int x4)] [.int y0] u := by
  unfold f_X7_shortsTwo_22 at hf
  refine v_istore K (ls' := [(5, .int y0), (0, .ref (X.2.1 o0)), (1, .int p1), (2, .int p2), (3, .int p3), (4, .int x4)]) (by decide) rfl dX7_shortsTwo_22 ?_
  refine v_aload_n K 1 rfl rfl dX7_shortsTwo_24 ?_
  refine v_iload_n K 2 rfl rfl dX7_shortsTwo_25 ?_
  obtain ⟨r5, u4, e6, hf⟩ := bnd_of hf
  refine v_callSi K (c_X7_isNet e6) cv_X7_isNet ml_X7_82 ⟨rfl, rfl, Nat.le_of_ble_eq_true rfl, Nat.le_of_ble_eq_true rfl⟩ rfl rfl (Nat.le_of_ble_eq_true rfl) dX7_shortsTwo_26 ?_
  refine v_if_eq K 55 (by decide) dX7_shortsTwo_29 (fun c7 => ?_) (fun c7 => ?_)
  · have hf := ite_t c7 hf
    refine v_sub [4, 5, 0] rfl ?_
    exact t_X7_shortsTwo_55 h0 K h0 hf
  · have hf := ite_f c7 hf
    refine v_iload_n K 3 rfl rfl dX7_shortsTwo_32 ?_
    obtain ⟨r9, u8, e10, hf⟩ := bnd_of hf
    refine v_callSi K (c_X7_isNet e10) cv_X7_isNet ml_X7_82 ⟨rfl, rfl, Nat.le_of_ble_eq_true rfl, Nat.le_of_ble_eq_true rfl⟩ rfl rfl (Nat.le_of_ble_eq_true rfl) dX7_shortsTwo_33 ?_
    refine v_if_eq K 55 (by decide) dX7_shortsTwo_36 (fun c11 => ?_) (fun c11 => ?_)
    · have hf := ite_t c11 hf
      refine v_sub [4, 5, 0] rfl ?_
      exact t_X7_shortsTwo_55 h0 K h0 hf
    · have hf := ite_f c11 hf
      refine v_iload_n K 2 rfl rfl dX7_shortsTwo_39 ?_
      refine v_iload_n K 3 rfl rfl dX7_shortsTwo_40 ?_
      refine v_icmp_eq K 55 (by decide) dX7_shortsTwo_41 (fun c12 => ?_) (fun c12 => ?_)
      · have hf := ite_t c12 hf
        refine v_sub [4, 5, 0] rfl ?_
        exact t_X7_shortsTwo_55 h0 K h0 hf
      · have hf := ite_f c12 hf
        refine v_iload_n K 4 rfl rfl dX7_shortsTwo_44 ?_
        obtain ⟨r14, u13, e15, hf⟩ := bnd_of hf
        refine v_callSi K (c_X7_isBit e15) cv_X7_isBit ml_X7_79 ⟨rfl, rfl, Nat.le_of_ble_eq_true rfl, Nat.le_of_ble_eq_true rfl⟩ rfl rfl (Nat.le_of_ble_eq_true rfl) dX7_shortsTwo_45 ?_
        refine v_if_eq K 55 (by decide) dX7_shortsTwo_48 (fun c16 => ?_) (fun c16 => ?_)
        · have hf := ite_t c16 hf
          refine v_sub [4, 5, 0] rfl ?_
          exact t_X7_shortsTwo_55 h0 K h0 hf
        · have hf := ite_f c16 hf
          refine v_iconst K (v := 1) (by decide) dX7_shortsTwo_51 ?_
          refine v_goto K 56 (by decide) dX7_shortsTwo_52 ?_
          refine v_sub [4, 5, 0] rfl ?_
          exact t_X7_shortsTwo_56 h0 K h0 hf
set_option maxRecDepth 20000 in
theorem t_X7_shortsTwo_10 {M : Mx} {X : Wx} {N : Nat} {o0 : Nat} {p1 : Int32} {p2 : Int32} {p3 : Int32} (h0 : akd o0 = 7) {r : Int32} {u' : ASt} (K : OkM 1 M X cX7_shortsTwo 6 RX7 rm_X7_shortsTwo (some .int)) {y0 : Int32} {u : ASt} (hf : f_X7_shortsTwo_10 N o0 p1 p2 p3 y0 u = some (r, u')) : V 1 M X (some (.int r), u') 6 10 [(0, .ref (X.2.1 o0)), (1, .int p1), (2, .int p2), (3, .int p3)] [.int y0] u := by
  unfold f_X7_shortsTwo_10 at hf
  refine v_istore K (ls' := [(4, .int y0), (0, .ref (X.2.1 o0)), (1, .int p1), (2, .int p2), (3, .int p3)]) (by decide) rfl dX7_shortsTwo_10 ?_
  refine v_iload_n K 2 rfl rfl dX7_shortsTwo_12 ?_
  refine v_iload_n K 3 rfl rfl dX7_shortsTwo_13 ?_
  refine v_icmp_ge K 21 (by decide) dX7_shortsTwo_14 (fun c17 => ?_) (fun c17 => ?_)
  · have hf := ite_t c17 hf
    refine v_iload_n K 2 rfl rfl dX7_shortsTwo_21 ?_
    refine v_sub [1, 2, 3, 4, 0] rfl ?_
    exact t_X7_shortsTwo_22 h0 K hf
  · have hf := ite_f c17 hf
    refine v_iload_n K 3 rfl rfl dX7_shortsTwo_17 ?_
    refine v_goto K 22 (by decide) dX7_shortsTwo_18 ?_
    refine v_sub [1, 2, 3, 4, 0] rfl ?_
    exact t_X7_shortsTwo_22 h0 K hf
set_option maxRecDepth 20000 in
theorem c_X7_shortsTwo {X : Wx} {N : Nat} {o0 : Nat} {p1 : Int32} {p2 : Int32} {p3 : Int32} (h0 : akd o0 = 7) {u u' : ASt} {r : Int32} (hf : f_X7_shortsTwo N o0 p1 p2 p3 u = some (r, u')) (l : Launch) : Met l yX7_shortsTwo (ws_ yX7_shortsTwo cX7_shortsTwo 6 (some .int)) rm_X7_shortsTwo (Pg 1 X u [.ref (X.2.1 o0), .int p1, .int p2, .int p3]) (Qg 1 X (some (.int r)) u') 0 0 (Aw 1 X) := by
  refine v_met (res := (some (.int r), u')) (by decide) (Nat.le_of_ble_eq_true rfl) (fun M K => ?_)
  have K : OkM 1 M X cX7_shortsTwo 6 RX7 rm_X7_shortsTwo (some .int) := K
  show V 1 M X (some (.int r), u') 6 0 [(0, .ref (X.2.1 o0)), (1, .int p1), (2, .int p2), (3, .int p3)] [] u
  unfold f_X7_shortsTwo at hf
  refine v_iload_n K 1 rfl rfl dX7_shortsTwo_0 ?_
  refine v_iload_n K 2 rfl rfl dX7_shortsTwo_1 ?_
  refine v_icmp_ge K 9 (by decide) dX7_shortsTwo_2 (fun c18 => ?_) (fun c18 => ?_)
  · have hf := ite_t c18 hf
    refine v_iload_n K 2 rfl rfl dX7_shortsTwo_9 ?_
    exact t_X7_shortsTwo_10 h0 K hf
  · have hf := ite_f c18 hf
    refine v_iload_n K 1 rfl rfl dX7_shortsTwo_5 ?_
    refine v_goto K 10 (by decide) dX7_shortsTwo_6 ?_
    exact t_X7_shortsTwo_10 h0 K hf
abbrev rm_X7_healsAll : Room := { frames := 0, cells := 0, slots := 0, locals := 0 }
set_option maxRecDepth 20000 in
theorem c_X7_healsAll {X : Wx} {N : Nat} {o0 : Nat} (h0 : akd o0 = 7) {u u' : ASt} {r : Int32} (hf : f_X7_healsAll N o0 u = some (r, u')) (l : Launch) : Met l yX7_healsAll (ws_ yX7_healsAll cX7_healsAll 2 (some .int)) rm_X7_healsAll (Pg 1 X u [.ref (X.2.1 o0)]) (Qg 1 X (some (.int r)) u') 0 0 (Aw 1 X) := by
  refine v_met (res := (some (.int r), u')) (by decide) (Nat.le_of_ble_eq_true rfl) (fun M K => ?_)
  have K : OkM 1 M X cX7_healsAll 2 RX7 rm_X7_healsAll (some .int) := K
  show V 1 M X (some (.int r), u') 2 0 [(0, .ref (X.2.1 o0))] [] u
  unfold f_X7_healsAll at hf
  refine v_aload_n K 0 rfl rfl dX7_healsAll_0 ?_
  refine gf_7_0 K h0 fl_X7_7 dX7_healsAll_1 ?_
  refine v_iconst K (v := 2) (by decide) dX7_healsAll_4 ?_
  obtain ⟨g1, hf⟩ := chk_of hf
  refine v_iald K (am1_12 (ak_7_0 h0)) (.inr (ak_7_0 h0)) g1 dX7_healsAll_5 ?_
  refine v_topi (fun z2 ez2 => ?_)
  have hf := lte_of ez2 hf
  refine v_istore_n K (ls' := [(1, .int z2), (0, .ref (X.2.1 o0))]) rfl (by decide) rfl dX7_healsAll_6 ?_
  refine v_aload_n K 1 rfl rfl dX7_healsAll_7 ?_
  refine gf_7_0 K h0 fl_X7_7 dX7_healsAll_8 ?_
  refine v_iconst K (v := 2) (by decide) dX7_healsAll_11 ?_
  refine v_iconst K (v := 0) (by decide) dX7_healsAll_12 ?_
  obtain ⟨g3, hf⟩ := chk_of hf
  refine v_iast K (am1_12 (ak_7_0 h0)) (.inr (ak_7_0 h0)) g3 dX7_healsAll_13 ?_
  refine v_st (fun u4 eu4 => ?_)
  have hf := lte_of eu4 hf
  refine v_iload_n K 0 rfl rfl dX7_healsAll_14 ?_
  obtain ⟨rfl, rfl⟩ := pair_of hf
  exact v_iret K dX7_healsAll_15
abbrev rm_X7_chip : Room := { frames := 4, cells := 0, slots := 0, locals := 88 }
set_option maxRecDepth 20000 in
theorem c_X7_chip {X : Wx} {N : Nat} {o0 : Nat} {p1 : Int32} {p2 : Int32} (h0 : akd o0 = 7) {u u' : ASt} {r : Int32} (hf : f_X7_chip N o0 p1 p2 u = some (r, u')) (l : Launch) : Met l yX7_chip (ws_ yX7_chip cX7_chip 3 (some .int)) rm_X7_chip (Pg 1 X u [.ref (X.2.1 o0), .int p1, .int p2]) (Qg 1 X (some (.int r)) u') 0 0 (Aw 1 X) := by
  refine v_met (res := (some (.int r), u')) (by decide) (Nat.le_of_ble_eq_true rfl) (fun M K => ?_)
  have K : OkM 1 M X cX7_chip 3 RX7 rm_X7_chip (some .int) := K
  show V 1 M X (some (.int r), u') 3 0 [(0, .ref (X.2.1 o0)), (1, .int p1), (2, .int p2)] [] u
  unfold f_X7_chip at hf
  refine v_aload_n K 0 rfl rfl dX7_chip_0 ?_
  obtain ⟨r2, u1, e3, hf⟩ := bnd_of hf
  refine v_callVv K (c_X7_laysAside h0 e3) cv_X7_laysAside ml_X7_93 (am1_7 h0) h0 kdX7 ⟨rfl, rfl, Nat.le_of_ble_eq_true rfl, Nat.le_of_ble_eq_true rfl⟩ rfl rfl (Nat.le_of_ble_eq_true rfl) dX7_chip_1 ?_
  refine v_aload_n K 0 rfl rfl dX7_chip_4 ?_
  refine v_aload_n K 0 rfl rfl dX7_chip_5 ?_
  refine v_iload_n K 1 rfl rfl dX7_chip_6 ?_
  refine v_iload_n K 2 rfl rfl dX7_chip_7 ?_
  obtain ⟨r5, u4, e6, hf⟩ := bnd_of hf
  refine v_callVi K (c_X7_addsChip h0 e6) cv_X7_addsChip ml_X7_96 (am1_7 h0) h0 kdX7 ⟨rfl, rfl, Nat.le_of_ble_eq_true rfl, Nat.le_of_ble_eq_true rfl⟩ rfl rfl (Nat.le_of_ble_eq_true rfl) dX7_chip_8 ?_
  obtain ⟨r8, u7, e9, hf⟩ := bnd_of hf
  refine v_callVi K (c_X7_ends h0 e9) cv_X7_ends ml_X7_99 (am1_7 h0) h0 kdX7 ⟨rfl, rfl, Nat.le_of_ble_eq_true rfl, Nat.le_of_ble_eq_true rfl⟩ rfl rfl (Nat.le_of_ble_eq_true rfl) dX7_chip_11 ?_
  obtain ⟨rfl, rfl⟩ := pair_of hf
  exact v_iret K dX7_chip_14
abbrev rm_X7_cell : Room := { frames := 3, cells := 0, slots := 0, locals := 67 }
set_option maxRecDepth 20000 in
theorem c_X7_cell {X : Wx} {N : Nat} {o0 : Nat} {p1 : Int32} {p2 : Int32} {p3 : Int32} (h0 : akd o0 = 7) {u u' : ASt} {r : Int32} (hf : f_X7_cell N o0 p1 p2 p3 u = some (r, u')) (l : Launch) : Met l yX7_cell (ws_ yX7_cell cX7_cell 4 (some .int)) rm_X7_cell (Pg 1 X u [.ref (X.2.1 o0), .int p1, .int p2, .int p3]) (Qg 1 X (some (.int r)) u') 0 0 (Aw 1 X) := by
  refine v_met (res := (some (.int r), u')) (by decide) (Nat.le_of_ble_eq_true rfl) (fun M K => ?_)
  have K : OkM 1 M X cX7_cell 4 RX7 rm_X7_cell (some .int) := K
  show V 1 M X (some (.int r), u') 4 0 [(0, .ref (X.2.1 o0)), (1, .int p1), (2, .int p2), (3, .int p3)] [] u
  unfold f_X7_cell at hf
  refine v_aload_n K 0 rfl rfl dX7_cell_0 ?_
  obtain ⟨r2, u1, e3, hf⟩ := bnd_of hf
  refine v_callVv K (c_X7_laysAside h0 e3) cv_X7_laysAside ml_X7_93 (am1_7 h0) h0 kdX7 ⟨rfl, rfl, Nat.le_of_ble_eq_true rfl, Nat.le_of_ble_eq_true rfl⟩ rfl rfl (Nat.le_of_ble_eq_true rfl) dX7_cell_1 ?_
  refine v_aload_n K 0 rfl rfl dX7_cell_4 ?_
  refine v_aload_n K 0 rfl rfl dX7_cell_5 ?_
  refine v_iload_n K 1 rfl rfl dX7_cell_6 ?_
  refine v_iload_n K 2 rfl rfl dX7_cell_7 ?_
  refine v_iload_n K 3 rfl rfl dX7_cell_8 ?_
  obtain ⟨r5, u4, e6, hf⟩ := bnd_of hf
  refine v_callVi K (c_X7_addsCell h0 e6) cv_X7_addsCell ml_X7_102 (am1_7 h0) h0 kdX7 ⟨rfl, rfl, Nat.le_of_ble_eq_true rfl, Nat.le_of_ble_eq_true rfl⟩ rfl rfl (Nat.le_of_ble_eq_true rfl) dX7_cell_9 ?_
  obtain ⟨r8, u7, e9, hf⟩ := bnd_of hf
  refine v_callVi K (c_X7_ends h0 e9) cv_X7_ends ml_X7_99 (am1_7 h0) h0 kdX7 ⟨rfl, rfl, Nat.le_of_ble_eq_true rfl, Nat.le_of_ble_eq_true rfl⟩ rfl rfl (Nat.le_of_ble_eq_true rfl) dX7_cell_12 ?_
  obtain ⟨rfl, rfl⟩ := pair_of hf
  exact v_iret K dX7_cell_15
abbrev rm_X7_opens : Room := { frames := 4, cells := 0, slots := 0, locals := 87 }
set_option maxRecDepth 20000 in
theorem c_X7_opens {X : Wx} {N : Nat} {o0 : Nat} {p1 : Int32} {p2 : Int32} (h0 : akd o0 = 7) {u u' : ASt} {r : Int32} (hf : f_X7_opens N o0 p1 p2 u = some (r, u')) (l : Launch) : Met l yX7_opens (ws_ yX7_opens cX7_opens 3 (some .int)) rm_X7_opens (Pg 1 X u [.ref (X.2.1 o0), .int p1, .int p2]) (Qg 1 X (some (.int r)) u') 0 0 (Aw 1 X) := by
  refine v_met (res := (some (.int r), u')) (by decide) (Nat.le_of_ble_eq_true rfl) (fun M K => ?_)
  have K : OkM 1 M X cX7_opens 3 RX7 rm_X7_opens (some .int) := K
  show V 1 M X (some (.int r), u') 3 0 [(0, .ref (X.2.1 o0)), (1, .int p1), (2, .int p2)] [] u
  unfold f_X7_opens at hf
  refine v_aload_n K 0 rfl rfl dX7_opens_0 ?_
  obtain ⟨r2, u1, e3, hf⟩ := bnd_of hf
  refine v_callVv K (c_X7_laysAside h0 e3) cv_X7_laysAside ml_X7_93 (am1_7 h0) h0 kdX7 ⟨rfl, rfl, Nat.le_of_ble_eq_true rfl, Nat.le_of_ble_eq_true rfl⟩ rfl rfl (Nat.le_of_ble_eq_true rfl) dX7_opens_1 ?_
  refine v_aload_n K 0 rfl rfl dX7_opens_4 ?_
  refine v_aload_n K 0 rfl rfl dX7_opens_5 ?_
  refine v_iload_n K 1 rfl rfl dX7_opens_6 ?_
  refine v_iload_n K 2 rfl rfl dX7_opens_7 ?_
  obtain ⟨r5, u4, e6, hf⟩ := bnd_of hf
  refine v_callVi K (c_X7_opensOne h0 e6) cv_X7_opensOne ml_X7_106 (am1_7 h0) h0 kdX7 ⟨rfl, rfl, Nat.le_of_ble_eq_true rfl, Nat.le_of_ble_eq_true rfl⟩ rfl rfl (Nat.le_of_ble_eq_true rfl) dX7_opens_8 ?_
  obtain ⟨r8, u7, e9, hf⟩ := bnd_of hf
  refine v_callVi K (c_X7_ends h0 e9) cv_X7_ends ml_X7_99 (am1_7 h0) h0 kdX7 ⟨rfl, rfl, Nat.le_of_ble_eq_true rfl, Nat.le_of_ble_eq_true rfl⟩ rfl rfl (Nat.le_of_ble_eq_true rfl) dX7_opens_11 ?_
  obtain ⟨rfl, rfl⟩ := pair_of hf
  exact v_iret K dX7_opens_14
abbrev rm_X7_sticks : Room := { frames := 3, cells := 0, slots := 0, locals := 64 }
set_option maxRecDepth 20000 in
theorem c_X7_sticks {X : Wx} {N : Nat} {o0 : Nat} {p1 : Int32} {p2 : Int32} (h0 : akd o0 = 7) {u u' : ASt} {r : Int32} (hf : f_X7_sticks N o0 p1 p2 u = some (r, u')) (l : Launch) : Met l yX7_sticks (ws_ yX7_sticks cX7_sticks 3 (some .int)) rm_X7_sticks (Pg 1 X u [.ref (X.2.1 o0), .int p1, .int p2]) (Qg 1 X (some (.int r)) u') 0 0 (Aw 1 X) := by
  refine v_met (res := (some (.int r), u')) (by decide) (Nat.le_of_ble_eq_true rfl) (fun M K => ?_)
  have K : OkM 1 M X cX7_sticks 3 RX7 rm_X7_sticks (some .int) := K
  show V 1 M X (some (.int r), u') 3 0 [(0, .ref (X.2.1 o0)), (1, .int p1), (2, .int p2)] [] u
  unfold f_X7_sticks at hf
  refine v_aload_n K 0 rfl rfl dX7_sticks_0 ?_
  obtain ⟨r2, u1, e3, hf⟩ := bnd_of hf
  refine v_callVv K (c_X7_laysAside h0 e3) cv_X7_laysAside ml_X7_93 (am1_7 h0) h0 kdX7 ⟨rfl, rfl, Nat.le_of_ble_eq_true rfl, Nat.le_of_ble_eq_true rfl⟩ rfl rfl (Nat.le_of_ble_eq_true rfl) dX7_sticks_1 ?_
  refine v_aload_n K 0 rfl rfl dX7_sticks_4 ?_
  refine v_aload_n K 0 rfl rfl dX7_sticks_5 ?_
  refine v_iload_n K 1 rfl rfl dX7_sticks_6 ?_
  refine v_iload_n K 2 rfl rfl dX7_sticks_7 ?_
  obtain ⟨r5, u4, e6, hf⟩ := bnd_of hf
  refine v_callVi K (c_X7_sticksOne h0 e6) cv_X7_sticksOne ml_X7_109 (am1_7 h0) h0 kdX7 ⟨rfl, rfl, Nat.le_of_ble_eq_true rfl, Nat.le_of_ble_eq_true rfl⟩ rfl rfl (Nat.le_of_ble_eq_true rfl) dX7_sticks_8 ?_
  obtain ⟨r8, u7, e9, hf⟩ := bnd_of hf
  refine v_callVi K (c_X7_ends h0 e9) cv_X7_ends ml_X7_99 (am1_7 h0) h0 kdX7 ⟨rfl, rfl, Nat.le_of_ble_eq_true rfl, Nat.le_of_ble_eq_true rfl⟩ rfl rfl (Nat.le_of_ble_eq_true rfl) dX7_sticks_11 ?_
  obtain ⟨rfl, rfl⟩ := pair_of hf
  exact v_iret K dX7_sticks_14
abbrev rm_X7_shorts : Room := { frames := 3, cells := 0, slots := 0, locals := 67 }
set_option maxRecDepth 20000 in
theorem c_X7_shorts {X : Wx} {N : Nat} {o0 : Nat} {p1 : Int32} {p2 : Int32} {p3 : Int32} (h0 : akd o0 = 7) {u u' : ASt} {r : Int32} (hf : f_X7_shorts N o0 p1 p2 p3 u = some (r, u')) (l : Launch) : Met l yX7_shorts (ws_ yX7_shorts cX7_shorts 4 (some .int)) rm_X7_shorts (Pg 1 X u [.ref (X.2.1 o0), .int p1, .int p2, .int p3]) (Qg 1 X (some (.int r)) u') 0 0 (Aw 1 X) := by
  refine v_met (res := (some (.int r), u')) (by decide) (Nat.le_of_ble_eq_true rfl) (fun M K => ?_)
  have K : OkM 1 M X cX7_shorts 4 RX7 rm_X7_shorts (some .int) := K
  show V 1 M X (some (.int r), u') 4 0 [(0, .ref (X.2.1 o0)), (1, .int p1), (2, .int p2), (3, .int p3)] [] u
  unfold f_X7_shorts at hf
  refine v_aload_n K 0 rfl rfl dX7_shorts_0 ?_
  obtain ⟨r2, u1, e3, hf⟩ := bnd_of hf
  refine v_callVv K (c_X7_laysAside h0 e3) cv_X7_laysAside ml_X7_93 (am1_7 h0) h0 kdX7 ⟨rfl, rfl, Nat.le_of_ble_eq_true rfl, Nat.le_of_ble_eq_true rfl⟩ rfl rfl (Nat.le_of_ble_eq_true rfl) dX7_shorts_1 ?_
  refine v_aload_n K 0 rfl rfl dX7_shorts_4 ?_
  refine v_aload_n K 0 rfl rfl dX7_shorts_5 ?_
  refine v_iload_n K 1 rfl rfl dX7_shorts_6 ?_
  refine v_iload_n K 2 rfl rfl dX7_shorts_7 ?_
  refine v_iload_n K 3 rfl rfl dX7_shorts_8 ?_
  obtain ⟨r5, u4, e6, hf⟩ := bnd_of hf
  refine v_callVi K (c_X7_shortsTwo h0 e6) cv_X7_shortsTwo ml_X7_112 (am1_7 h0) h0 kdX7 ⟨rfl, rfl, Nat.le_of_ble_eq_true rfl, Nat.le_of_ble_eq_true rfl⟩ rfl rfl (Nat.le_of_ble_eq_true rfl) dX7_shorts_9 ?_
  obtain ⟨r8, u7, e9, hf⟩ := bnd_of hf
  refine v_callVi K (c_X7_ends h0 e9) cv_X7_ends ml_X7_99 (am1_7 h0) h0 kdX7 ⟨rfl, rfl, Nat.le_of_ble_eq_true rfl, Nat.le_of_ble_eq_true rfl⟩ rfl rfl (Nat.le_of_ble_eq_true rfl) dX7_shorts_12 ?_
  obtain ⟨rfl, rfl⟩ := pair_of hf
  exact v_iret K dX7_shorts_15
abbrev rm_X7_heals : Room := { frames := 2, cells := 0, slots := 0, locals := 42 }
set_option maxRecDepth 20000 in
theorem c_X7_heals {X : Wx} {N : Nat} {o0 : Nat} (h0 : akd o0 = 7) {u u' : ASt} {r : Int32} (hf : f_X7_heals N o0 u = some (r, u')) (l : Launch) : Met l yX7_heals (ws_ yX7_heals cX7_heals 1 (some .int)) rm_X7_heals (Pg 1 X u [.ref (X.2.1 o0)]) (Qg 1 X (some (.int r)) u') 0 0 (Aw 1 X) := by
  refine v_met (res := (some (.int r), u')) (by decide) (Nat.le_of_ble_eq_true rfl) (fun M K => ?_)
  have K : OkM 1 M X cX7_heals 1 RX7 rm_X7_heals (some .int) := K
  show V 1 M X (some (.int r), u') 1 0 [(0, .ref (X.2.1 o0))] [] u
  unfold f_X7_heals at hf
  refine v_aload_n K 0 rfl rfl dX7_heals_0 ?_
  obtain ⟨r2, u1, e3, hf⟩ := bnd_of hf
  refine v_callVv K (c_X7_laysAside h0 e3) cv_X7_laysAside ml_X7_93 (am1_7 h0) h0 kdX7 ⟨rfl, rfl, Nat.le_of_ble_eq_true rfl, Nat.le_of_ble_eq_true rfl⟩ rfl rfl (Nat.le_of_ble_eq_true rfl) dX7_heals_1 ?_
  refine v_aload_n K 0 rfl rfl dX7_heals_4 ?_
  refine v_aload_n K 0 rfl rfl dX7_heals_5 ?_
  obtain ⟨r5, u4, e6, hf⟩ := bnd_of hf
  refine v_callVi K (c_X7_healsAll h0 e6) cv_X7_healsAll ml_X7_115 (am1_7 h0) h0 kdX7 ⟨rfl, rfl, Nat.le_of_ble_eq_true rfl, Nat.le_of_ble_eq_true rfl⟩ rfl rfl (Nat.le_of_ble_eq_true rfl) dX7_heals_6 ?_
  obtain ⟨r8, u7, e9, hf⟩ := bnd_of hf
  refine v_callVi K (c_X7_ends h0 e9) cv_X7_ends ml_X7_99 (am1_7 h0) h0 kdX7 ⟨rfl, rfl, Nat.le_of_ble_eq_true rfl, Nat.le_of_ble_eq_true rfl⟩ rfl rfl (Nat.le_of_ble_eq_true rfl) dX7_heals_9 ?_
  obtain ⟨rfl, rfl⟩ := pair_of hf
  exact v_iret K dX7_heals_12
abbrev rm_X7_usesAll : Room := { frames := 0, cells := 0, slots := 0, locals := 0 }
set_option maxRecDepth 20000 in
theorem t_X7_usesAll_12 {M : Mx} {X : Wx} {N : Nat} {o0 : Nat} (h0 : akd o0 = 7) {r : Unit} {u' : ASt} (K : OkM 1 M X cX7_usesAll 2 RX7 rm_X7_usesAll none) : ∀ (n : Nat) (x1 : Int32) (u : ASt), f_X7_usesAll_12 N o0 n x1 u = some (r, u') → V 1 M X (none, u') 2 12 [(0, .ref (X.2.1 o0)), (1, .int x1)] [] u := by
  intro n
  induction n with
  | zero => intro x1 u hf; cases hf
  | succ n ih =>
    intro x1 u hf
    rw [f_X7_usesAll_12] at hf
    refine v_iload_n K 1 rfl rfl dX7_usesAll_12 ?_
    refine v_aload_n K 0 rfl rfl dX7_usesAll_13 ?_
    refine gf_7_8 K h0 fl_X7_118 dX7_usesAll_14 ?_
    refine v_icmp_ge K 40 (by decide) dX7_usesAll_17 (fun c1 => ?_) (fun c1 => ?_)
    · have hf := ite_t c1 hf
      obtain ⟨rfl, rfl⟩ := pair_of hf
      exact v_vret K dX7_usesAll_40
    · have hf := ite_f c1 hf
      refine v_aload_n K 0 rfl rfl dX7_usesAll_20 ?_
      refine gf_7_7 K h0 fl_X7_25 dX7_usesAll_21 ?_
      refine v_iload_n K 1 rfl rfl dX7_usesAll_24 ?_
      refine v_aload_n K 0 rfl rfl dX7_usesAll_25 ?_
      refine gf_7_0 K h0 fl_X7_7 dX7_usesAll_26 ?_
      refine v_iconst K (v := 3) (by decide) dX7_usesAll_29 ?_
      refine v_iload_n K 1 rfl rfl dX7_usesAll_30 ?_
      refine v_iadd K dX7_usesAll_31 ?_
      obtain ⟨g2, hf⟩ := chk_of hf
      refine v_iald K (am1_12 (ak_7_0 h0)) (.inr (ak_7_0 h0)) g2 dX7_usesAll_32 ?_
      obtain ⟨g3, hf⟩ := chk_of hf
      refine v_iast K (am1_12 (ak_7_7 h0)) (.inr (ak_7_7 h0)) g3 dX7_usesAll_33 ?_
      refine v_st (fun u4 eu4 => ?_)
      have hf := lte_of eu4 hf
      refine v_iinc K 1 (v := x1 + 1) (ls' := [(1, .int (x1 + 1)), (0, .ref (X.2.1 o0))]) rfl rfl (by decide) rfl dX7_usesAll_34 ?_
      refine v_goto K 12 (by decide) dX7_usesAll_37 ?_
      refine v_sub [1, 0] rfl ?_
      exact ih (x1 + 1) u4 hf
set_option maxRecDepth 20000 in
theorem c_X7_usesAll {X : Wx} {N : Nat} {o0 : Nat} (h0 : akd o0 = 7) {u u' : ASt} {r : Unit} (hf : f_X7_usesAll N o0 u = some (r, u')) (l : Launch) : Met l yX7_usesAll (ws_ yX7_usesAll cX7_usesAll 2 none) rm_X7_usesAll (Pg 1 X u [.ref (X.2.1 o0)]) (Qg 1 X (none) u') 0 0 (Aw 1 X) := by
  refine v_met (res := (none, u')) (by decide) (Nat.le_of_ble_eq_true rfl) (fun M K => ?_)
  have K : OkM 1 M X cX7_usesAll 2 RX7 rm_X7_usesAll none := K
  show V 1 M X (none, u') 2 0 [(0, .ref (X.2.1 o0))] [] u
  unfold f_X7_usesAll at hf
  refine v_aload_n K 0 rfl rfl dX7_usesAll_0 ?_
  refine v_aload_n K 0 rfl rfl dX7_usesAll_1 ?_
  refine gf_7_0 K h0 fl_X7_7 dX7_usesAll_2 ?_
  refine v_iconst K (v := 2) (by decide) dX7_usesAll_5 ?_
  obtain ⟨g5, hf⟩ := chk_of hf
  refine v_iald K (am1_12 (ak_7_0 h0)) (.inr (ak_7_0 h0)) g5 dX7_usesAll_6 ?_
  refine pf_7_8 K h0 fl_X7_118 dX7_usesAll_7 ?_
  refine v_st (fun u6 eu6 => ?_)
  have hf := lte_of eu6 hf
  refine v_iconst K (v := 0) (by decide) dX7_usesAll_10 ?_
  refine v_istore_n K (ls' := [(1, .int 0), (0, .ref (X.2.1 o0))]) rfl (by decide) rfl dX7_usesAll_11 ?_
  refine v_sub [1, 0] rfl ?_
  exact t_X7_usesAll_12 h0 K N 0 u6 hf
abbrev rm_X7_usesOne : Room := { frames := 0, cells := 0, slots := 0, locals := 0 }
set_option maxRecDepth 20000 in
theorem t_X7_usesOne_10 {M : Mx} {X : Wx} {N : Nat} {o0 : Nat} {p1 : Int32} (h0 : akd o0 = 7) {r : Unit} {u' : ASt} (K : OkM 1 M X cX7_usesOne 2 RX7 rm_X7_usesOne none) {c0 : Nat} {y1 : Int32} (hc0 : akd c0 = 7) {u : ASt} (hf : f_X7_usesOne_10 N o0 p1 c0 y1 u = some (r, u')) : V 1 M X (none, u') 2 10 [(0, .ref (X.2.1 o0)), (1, .int p1)] [.int y1, .ref (X.2.1 c0)] u := by
  unfold f_X7_usesOne_10 at hf
  refine pf_7_8 K hc0 fl_X7_118 dX7_usesOne_10 ?_
  refine v_st (fun u1 eu1 => ?_)
  have hf := lte_of eu1 hf
  refine v_aload_n K 0 rfl rfl dX7_usesOne_13 ?_
  refine gf_7_7 K h0 fl_X7_25 dX7_usesOne_14 ?_
  refine v_iconst K (v := 0) (by decide) dX7_usesOne_17 ?_
  refine v_iload_n K 1 rfl rfl dX7_usesOne_18 ?_
  obtain ⟨g2, hf⟩ := chk_of hf
  refine v_iast K (am1_12 (ak_7_7 h0)) (.inr (ak_7_7 h0)) g2 dX7_usesOne_19 ?_
  refine v_st (fun u3 eu3 => ?_)
  have hf := lte_of eu3 hf
  obtain ⟨rfl, rfl⟩ := pair_of hf
  exact v_vret K dX7_usesOne_20
set_option maxRecDepth 20000 in
theorem c_X7_usesOne {X : Wx} {N : Nat} {o0 : Nat} {p1 : Int32} (h0 : akd o0 = 7) {u u' : ASt} {r : Unit} (hf : f_X7_usesOne N o0 p1 u = some (r, u')) (l : Launch) : Met l yX7_usesOne (ws_ yX7_usesOne cX7_usesOne 2 none) rm_X7_usesOne (Pg 1 X u [.ref (X.2.1 o0), .int p1]) (Qg 1 X (none) u') 0 0 (Aw 1 X) := by
  refine v_met (res := (none, u')) (by decide) (Nat.le_of_ble_eq_true rfl) (fun M K => ?_)
  have K : OkM 1 M X cX7_usesOne 2 RX7 rm_X7_usesOne none := K
  show V 1 M X (none, u') 2 0 [(0, .ref (X.2.1 o0)), (1, .int p1)] [] u
  unfold f_X7_usesOne at hf
  refine v_aload_n K 0 rfl rfl dX7_usesOne_0 ?_
  refine v_iload_n K 1 rfl rfl dX7_usesOne_1 ?_
  refine v_if_ne K 9 (by decide) dX7_usesOne_2 (fun c4 => ?_) (fun c4 => ?_)
  · have hf := ite_f c4 hf
    refine v_iconst K (v := 1) (by decide) dX7_usesOne_9 ?_
    exact t_X7_usesOne_10 h0 K h0 hf
  · have hf := ite_t c4 hf
    refine v_iconst K (v := 0) (by decide) dX7_usesOne_5 ?_
    refine v_goto K 10 (by decide) dX7_usesOne_6 ?_
    exact t_X7_usesOne_10 h0 K h0 hf
abbrev rm_X7_isOpen : Room := { frames := 0, cells := 0, slots := 0, locals := 0 }
set_option maxRecDepth 20000 in
theorem t_X7_isOpen_43 {M : Mx} {X : Wx} {N : Nat} {o0 : Nat} {p1 : Int32} {p2 : Int32} (h0 : akd o0 = 7) {r : Int32} {u' : ASt} (K : OkM 1 M X cX7_isOpen 5 RX7 rm_X7_isOpen (some .boolean)) {k5 : Int32 → Int32 → ASt → Option (Int32 × ASt)} (hk5 : ∀ (x3 : Int32) (x4 : Int32) (u : ASt), k5 x3 x4 u = some (r, u') → V 1 M X (some (.int r), u') 5 5 [(0, .ref (X.2.1 o0)), (1, .int p1), (2, .int p2), (3, .int x3), (4, .int x4)] [] u) {x4 : Int32} {y0 : Int32} {u : ASt} (hf : f_X7_isOpen_43 N o0 p1 p2 k5 x4 y0 u = some (r, u')) : V 1 M X (some (.int r), u') 5 43 [(0, .ref (X.2.1 o0)), (1, .int p1), (2, .int p2), (4, .int x4)] [.int y0] u := by
  unfold f_X7_isOpen_43 at hf
  refine v_istore_n K (ls' := [(3, .int y0), (0, .ref (X.2.1 o0)), (1, .int p1), (2, .int p2), (4, .int x4)]) rfl (by decide) rfl dX7_isOpen_43 ?_
  refine v_iinc K 4 (v := x4 + 1) (ls' := [(4, .int (x4 + 1)), (3, .int y0), (0, .ref (X.2.1 o0)), (1, .int p1), (2, .int p2)]) rfl rfl (by decide) rfl dX7_isOpen_44 ?_
  refine v_goto K 5 (by decide) dX7_isOpen_47 ?_
  refine v_sub [2, 3, 4, 1, 0] rfl ?_
  exact hk5 y0 (x4 + 1) u hf
set_option maxRecDepth 20000 in
theorem t_X7_isOpen_38 {M : Mx} {X : Wx} {N : Nat} {o0 : Nat} {p1 : Int32} {p2 : Int32} (h0 : akd o0 = 7) {r : Int32} {u' : ASt} (K : OkM 1 M X cX7_isOpen 5 RX7 rm_X7_isOpen (some .boolean)) {k5 : Int32 → Int32 → ASt → Option (Int32 × ASt)} (hk5 : ∀ (x3 : Int32) (x4 : Int32) (u : ASt), k5 x3 x4 u = some (r, u') → V 1 M X (some (.int r), u') 5 5 [(0, .ref (X.2.1 o0)), (1, .int p1), (2, .int p2), (3, .int x3), (4, .int x4)] [] u) {x4 : Int32} {u : ASt} (hf : f_X7_isOpen_38 N o0 p1 p2 k5 x4 u = some (r, u')) : V 1 M X (some (.int r), u') 5 38 [(0, .ref (X.2.1 o0)), (1, .int p1), (2, .int p2), (4, .int x4)] [] u := by
  unfold f_X7_isOpen_38 at hf
  refine v_iconst K (v := 1) (by decide) dX7_isOpen_38 ?_
  refine v_goto K 43 (by decide) dX7_isOpen_39 ?_
  exact t_X7_isOpen_43 h0 K hk5 hf
set_option maxRecDepth 20000 in
theorem t_X7_isOpen_5 {M : Mx} {X : Wx} {N : Nat} {o0 : Nat} {p1 : Int32} {p2 : Int32} (h0 : akd o0 = 7) {r : Int32} {u' : ASt} (K : OkM 1 M X cX7_isOpen 5 RX7 rm_X7_isOpen (some .boolean)) : ∀ (n : Nat) (x3 : Int32) (x4 : Int32) (u : ASt), f_X7_isOpen_5 N o0 p1 p2 n x3 x4 u = some (r, u') → V 1 M X (some (.int r), u') 5 5 [(0, .ref (X.2.1 o0)), (1, .int p1), (2, .int p2), (3, .int x3), (4, .int x4)] [] u := by
  intro n
  induction n with
  | zero => intro x3 x4 u hf; cases hf
  | succ n ih =>
    intro x3 x4 u hf
    rw [f_X7_isOpen_5] at hf
    refine v_iload K 4 rfl dX7_isOpen_5 ?_
    refine v_aload_n K 0 rfl rfl dX7_isOpen_7 ?_
    refine gf_7_8 K h0 fl_X7_118 dX7_isOpen_8 ?_
    refine v_icmp_ge K 50 (by decide) dX7_isOpen_11 (fun c1 => ?_) (fun c1 => ?_)
    · have hf := ite_t c1 hf
      refine v_iload_n K 3 rfl rfl dX7_isOpen_50 ?_
      obtain ⟨g2, hf⟩ := chk_of hf
      obtain ⟨rfl, rfl⟩ := pair_of hf
      exact v_zret K g2 dX7_isOpen_51
    · have hf := ite_f c1 hf
      refine v_iload_n K 3 rfl rfl dX7_isOpen_14 ?_
      refine v_if_ne K 38 (by decide) dX7_isOpen_15 (fun c3 => ?_) (fun c3 => ?_)
      · have hf := ite_f c3 hf
        refine v_sub [0, 1, 2, 4] rfl ?_
        exact t_X7_isOpen_38 h0 K ih hf
      · have hf := ite_t c3 hf
        refine v_aload_n K 0 rfl rfl dX7_isOpen_18 ?_
        refine gf_7_7 K h0 fl_X7_25 dX7_isOpen_19 ?_
        refine v_iload K 4 rfl dX7_isOpen_22 ?_
        obtain ⟨g4, hf⟩ := chk_of hf
        refine v_iald K (am1_12 (ak_7_7 h0)) (.inr (ak_7_7 h0)) g4 dX7_isOpen_24 ?_
        refine v_sipush K (v := 1000) (by decide) dX7_isOpen_25 ?_
        refine v_bipush K (v := 10) (by decide) dX7_isOpen_28 ?_
        refine v_iload_n K 1 rfl rfl dX7_isOpen_30 ?_
        refine v_imul K dX7_isOpen_31 ?_
        refine v_iadd K dX7_isOpen_32 ?_
        refine v_iload_n K 2 rfl rfl dX7_isOpen_33 ?_
        refine v_iadd K dX7_isOpen_34 ?_
        refine v_icmp_ne K 42 (by decide) dX7_isOpen_35 (fun c5 => ?_) (fun c5 => ?_)
        · have hf := ite_f c5 hf
          refine v_iconst K (v := 0) (by decide) dX7_isOpen_42 ?_
          refine v_sub [0, 1, 2, 4] rfl ?_
          exact t_X7_isOpen_43 h0 K ih hf
        · have hf := ite_t c5 hf
          refine v_sub [0, 1, 2, 4] rfl ?_
          exact t_X7_isOpen_38 h0 K ih hf
set_option maxRecDepth 20000 in
theorem c_X7_isOpen {X : Wx} {N : Nat} {o0 : Nat} {p1 : Int32} {p2 : Int32} (h0 : akd o0 = 7) {u u' : ASt} {r : Int32} (hf : f_X7_isOpen N o0 p1 p2 u = some (r, u')) (l : Launch) : Met l yX7_isOpen (ws_ yX7_isOpen cX7_isOpen 5 (some .boolean)) rm_X7_isOpen (Pg 1 X u [.ref (X.2.1 o0), .int p1, .int p2]) (Qg 1 X (some (.int r)) u') 0 0 (Aw 1 X) := by
  refine v_met (res := (some (.int r), u')) (by decide) (Nat.le_of_ble_eq_true rfl) (fun M K => ?_)
  have K : OkM 1 M X cX7_isOpen 5 RX7 rm_X7_isOpen (some .boolean) := K
  show V 1 M X (some (.int r), u') 5 0 [(0, .ref (X.2.1 o0)), (1, .int p1), (2, .int p2)] [] u
  unfold f_X7_isOpen at hf
  refine v_iconst K (v := 0) (by decide) dX7_isOpen_0 ?_
  refine v_istore_n K (ls' := [(3, .int 0), (0, .ref (X.2.1 o0)), (1, .int p1), (2, .int p2)]) rfl (by decide) rfl dX7_isOpen_1 ?_
  refine v_iconst K (v := 0) (by decide) dX7_isOpen_2 ?_
  refine v_istore K (ls' := [(4, .int 0), (3, .int 0), (0, .ref (X.2.1 o0)), (1, .int p1), (2, .int p2)]) (by decide) rfl dX7_isOpen_3 ?_
  refine v_sub [2, 3, 4, 1, 0] rfl ?_
  exact t_X7_isOpen_5 h0 K N 0 0 u hf
abbrev rm_X7_outs : Room := { frames := 3, cells := 0, slots := 0, locals := 65 }
set_option maxRecDepth 20000 in
theorem t_X7_outs_46 {M : Mx} {X : Wx} {N : Nat} {o0 : Nat} (h0 : akd o0 = 7) {r : Int32} {u' : ASt} (K : OkM 1 M X cX7_outs 4 RX7 rm_X7_outs (some .int)) {k4 : Int32 → Int32 → ASt → Option (Int32 × ASt)} (hk4 : ∀ (x1 : Int32) (x2 : Int32) (u : ASt), k4 x1 x2 u = some (r, u') → V 1 M X (some (.int r), u') 4 4 [(0, .ref (X.2.1 o0)), (1, .int x1), (2, .int x2)] [] u) {k14 : Int32 → Int32 → Int32 → ASt → Option (Int32 × ASt)} (hk14 : ∀ (x1 : Int32) (x2 : Int32) (x3 : Int32) (u : ASt), k14 x1 x2 x3 u = some (r, u') → V 1 M X (some (.int r), u') 4 14 [(0, .ref (X.2.1 o0)), (1, .int x1), (2, .int x2), (3, .int x3)] [] u) {x2 : Int32} {x3 : Int32} {y0 : Int32} {y1 : Int32} {u : ASt} (hf : f_X7_outs_46 N o0 k4 k14 x2 x3 y0 y1 u = some (r, u')) : V 1 M X (some (.int r), u') 4 46 [(0, .ref (X.2.1 o0)), (2, .int x2), (3, .int x3)] [.int y1, .int y0] u := by
  unfold f_X7_outs_46 at hf
  refine v_ior K dX7_outs_46 ?_
  refine v_topi (fun z1 ez1 => ?_)
  have hf := lte_of ez1 hf
  refine v_istore_n K (ls' := [(1, .int z1), (0, .ref (X.2.1 o0)), (2, .int x2), (3, .int x3)]) rfl (by decide) rfl dX7_outs_47 ?_
  refine v_iinc K 3 (v := x3 + 1) (ls' := [(3, .int (x3 + 1)), (1, .int z1), (0, .ref (X.2.1 o0)), (2, .int x2)]) rfl rfl (by decide) rfl dX7_outs_48 ?_
  refine v_goto K 14 (by decide) dX7_outs_51 ?_
  refine v_sub [2, 1, 3, 0] rfl ?_
  exact hk14 z1 x2 (x3 + 1) u hf
set_option maxRecDepth 20000 in
theorem t_X7_outs_14 {M : Mx} {X : Wx} {N : Nat} {o0 : Nat} (h0 : akd o0 = 7) {r : Int32} {u' : ASt} (K : OkM 1 M X cX7_outs 4 RX7 rm_X7_outs (some .int)) {k4 : Int32 → Int32 → ASt → Option (Int32 × ASt)} (hk4 : ∀ (x1 : Int32) (x2 : Int32) (u : ASt), k4 x1 x2 u = some (r, u') → V 1 M X (some (.int r), u') 4 4 [(0, .ref (X.2.1 o0)), (1, .int x1), (2, .int x2)] [] u) : ∀ (n : Nat) (x1 : Int32) (x2 : Int32) (x3 : Int32) (u : ASt), f_X7_outs_14 N o0 k4 n x1 x2 x3 u = some (r, u') → V 1 M X (some (.int r), u') 4 14 [(0, .ref (X.2.1 o0)), (1, .int x1), (2, .int x2), (3, .int x3)] [] u := by
  intro n
  induction n with
  | zero => intro x1 x2 x3 u hf; cases hf
  | succ n ih =>
    intro x1 x2 x3 u hf
    rw [f_X7_outs_14] at hf
    refine v_iload_n K 3 rfl rfl dX7_outs_14 ?_
    refine v_aload_n K 0 rfl rfl dX7_outs_15 ?_
    refine v_iload_n K 2 rfl rfl dX7_outs_16 ?_
    refine v_iconst K (v := 2) (by decide) dX7_outs_17 ?_
    obtain ⟨r3, u2, e4, hf⟩ := bnd_of hf
    refine v_callVi K (c_X7_get h0 e4) cv_X7_get ml_X7_55 (am1_7 h0) h0 kdX7 ⟨rfl, rfl, Nat.le_of_ble_eq_true rfl, Nat.le_of_ble_eq_true rfl⟩ rfl rfl (Nat.le_of_ble_eq_true rfl) dX7_outs_18 ?_
    refine v_icmp_ge K 54 (by decide) dX7_outs_21 (fun c5 => ?_) (fun c5 => ?_)
    · have hf := ite_t c5 hf
      refine v_iinc K 2 (v := x2 + 1) (ls' := [(2, .int (x2 + 1)), (0, .ref (X.2.1 o0)), (1, .int x1), (3, .int x3)]) rfl rfl (by decide) rfl dX7_outs_54 ?_
      refine v_goto K 4 (by decide) dX7_outs_57 ?_
      refine v_sub [1, 2, 0] rfl ?_
      exact hk4 x1 (x2 + 1) u2 hf
    · have hf := ite_f c5 hf
      refine v_iload_n K 1 rfl rfl dX7_outs_24 ?_
      refine v_aload_n K 0 rfl rfl dX7_outs_25 ?_
      refine v_iload_n K 2 rfl rfl dX7_outs_26 ?_
      refine v_iload_n K 3 rfl rfl dX7_outs_27 ?_
      obtain ⟨r7, u6, e8, hf⟩ := bnd_of hf
      refine v_callVi K (c_X7_isOut h0 e8) cv_X7_isOut ml_X7_124 (am1_7 h0) h0 kdX7 ⟨rfl, rfl, Nat.le_of_ble_eq_true rfl, Nat.le_of_ble_eq_true rfl⟩ rfl rfl (Nat.le_of_ble_eq_true rfl) dX7_outs_28 ?_
      refine v_if_eq K 45 (by decide) dX7_outs_31 (fun c9 => ?_) (fun c9 => ?_)
      · have hf := ite_t c9 hf
        refine v_iconst K (v := 0) (by decide) dX7_outs_45 ?_
        refine v_sub [0, 2, 3] rfl ?_
        exact t_X7_outs_46 h0 K hk4 ih hf
      · have hf := ite_f c9 hf
        refine v_iconst K (v := 1) (by decide) dX7_outs_34 ?_
        refine v_aload_n K 0 rfl rfl dX7_outs_35 ?_
        refine v_iload_n K 2 rfl rfl dX7_outs_36 ?_
        refine v_iload_n K 3 rfl rfl dX7_outs_37 ?_
        obtain ⟨r11, u10, e12, hf⟩ := bnd_of hf
        refine v_callVi K (c_X7_netOf h0 e12) cv_X7_netOf ml_X7_127 (am1_7 h0) h0 kdX7 ⟨rfl, rfl, Nat.le_of_ble_eq_true rfl, Nat.le_of_ble_eq_true rfl⟩ rfl rfl (Nat.le_of_ble_eq_true rfl) dX7_outs_38 ?_
        refine v_ishl K dX7_outs_41 ?_
        refine v_goto K 46 (by decide) dX7_outs_42 ?_
        refine v_sub [0, 2, 3] rfl ?_
        exact t_X7_outs_46 h0 K hk4 ih hf
set_option maxRecDepth 20000 in
theorem t_X7_outs_4 {M : Mx} {X : Wx} {N : Nat} {o0 : Nat} (h0 : akd o0 = 7) {r : Int32} {u' : ASt} (K : OkM 1 M X cX7_outs 4 RX7 rm_X7_outs (some .int)) : ∀ (n : Nat) (x1 : Int32) (x2 : Int32) (u : ASt), f_X7_outs_4 N o0 n x1 x2 u = some (r, u') → V 1 M X (some (.int r), u') 4 4 [(0, .ref (X.2.1 o0)), (1, .int x1), (2, .int x2)] [] u := by
  intro n
  induction n with
  | zero => intro x1 x2 u hf; cases hf
  | succ n ih =>
    intro x1 x2 u hf
    rw [f_X7_outs_4] at hf
    refine v_iload_n K 2 rfl rfl dX7_outs_4 ?_
    refine v_aload_n K 0 rfl rfl dX7_outs_5 ?_
    obtain ⟨r14, u13, e15, hf⟩ := bnd_of hf
    refine v_callVi K (c_X7_chips h0 e15) cv_X7_chips ml_X7_121 (am1_7 h0) h0 kdX7 ⟨rfl, rfl, Nat.le_of_ble_eq_true rfl, Nat.le_of_ble_eq_true rfl⟩ rfl rfl (Nat.le_of_ble_eq_true rfl) dX7_outs_6 ?_
    refine v_icmp_ge K 60 (by decide) dX7_outs_9 (fun c16 => ?_) (fun c16 => ?_)
    · have hf := ite_t c16 hf
      refine v_iload_n K 1 rfl rfl dX7_outs_60 ?_
      obtain ⟨rfl, rfl⟩ := pair_of hf
      exact v_iret K dX7_outs_61
    · have hf := ite_f c16 hf
      refine v_iconst K (v := 0) (by decide) dX7_outs_12 ?_
      refine v_istore_n K (ls' := [(3, .int 0), (0, .ref (X.2.1 o0)), (1, .int x1), (2, .int x2)]) rfl (by decide) rfl dX7_outs_13 ?_
      refine v_sub [1, 2, 3, 0] rfl ?_
      exact t_X7_outs_14 h0 K ih N x1 x2 0 u13 hf
set_option maxRecDepth 20000 in
theorem c_X7_outs {X : Wx} {N : Nat} {o0 : Nat} (h0 : akd o0 = 7) {u u' : ASt} {r : Int32} (hf : f_X7_outs N o0 u = some (r, u')) (l : Launch) : Met l yX7_outs (ws_ yX7_outs cX7_outs 4 (some .int)) rm_X7_outs (Pg 1 X u [.ref (X.2.1 o0)]) (Qg 1 X (some (.int r)) u') 0 0 (Aw 1 X) := by
  refine v_met (res := (some (.int r), u')) (by decide) (Nat.le_of_ble_eq_true rfl) (fun M K => ?_)
  have K : OkM 1 M X cX7_outs 4 RX7 rm_X7_outs (some .int) := K
  show V 1 M X (some (.int r), u') 4 0 [(0, .ref (X.2.1 o0))] [] u
  unfold f_X7_outs at hf
  refine v_iconst K (v := 0) (by decide) dX7_outs_0 ?_
  refine v_istore_n K (ls' := [(1, .int 0), (0, .ref (X.2.1 o0))]) rfl (by decide) rfl dX7_outs_1 ?_
  refine v_iconst K (v := 0) (by decide) dX7_outs_2 ?_
  refine v_istore_n K (ls' := [(2, .int 0), (1, .int 0), (0, .ref (X.2.1 o0))]) rfl (by decide) rfl dX7_outs_3 ?_
  refine v_sub [2, 1, 0] rfl ?_
  exact t_X7_outs_4 h0 K N 0 0 u hf
abbrev rm_X7_netsWithCells : Room := { frames := 3, cells := 0, slots := 0, locals := 65 }
set_option maxRecDepth 20000 in
theorem t_X7_netsWithCells_14 {M : Mx} {X : Wx} {N : Nat} {o0 : Nat} (h0 : akd o0 = 7) {r : Int32} {u' : ASt} (K : OkM 1 M X cX7_netsWithCells 4 RX7 rm_X7_netsWithCells (some .int)) {k4 : Int32 → Int32 → ASt → Option (Int32 × ASt)} (hk4 : ∀ (x1 : Int32) (x2 : Int32) (u : ASt), k4 x1 x2 u = some (r, u') → V 1 M X (some (.int r), u') 4 4 [(0, .ref (X.2.1 o0)), (1, .int x1), (2, .int x2)] [] u) : ∀ (n : Nat) (x1 : Int32) (x2 : Int32) (x3 : Int32) (u : ASt), f_X7_netsWithCells_14 N o0 k4 n x1 x2 x3 u = some (r, u') → V 1 M X (some (.int r), u') 4 14 [(0, .ref (X.2.1 o0)), (1, .int x1), (2, .int x2), (3, .int x3)] [] u := by
  intro n
  induction n with
  | zero => intro x1 x2 x3 u hf; cases hf
  | succ n ih =>
    intro x1 x2 x3 u hf
    rw [f_X7_netsWithCells_14] at hf
    refine v_iload_n K 3 rfl rfl dX7_netsWithCells_14 ?_
    refine v_aload_n K 0 rfl rfl dX7_netsWithCells_15 ?_
    refine v_iload_n K 2 rfl rfl dX7_netsWithCells_16 ?_
    refine v_iconst K (v := 2) (by decide) dX7_netsWithCells_17 ?_
    obtain ⟨r2, u1, e3, hf⟩ := bnd_of hf
    refine v_callVi K (c_X7_get h0 e3) cv_X7_get ml_X7_55 (am1_7 h0) h0 kdX7 ⟨rfl, rfl, Nat.le_of_ble_eq_true rfl, Nat.le_of_ble_eq_true rfl⟩ rfl rfl (Nat.le_of_ble_eq_true rfl) dX7_netsWithCells_18 ?_
    refine v_icmp_ge K 41 (by decide) dX7_netsWithCells_21 (fun c4 => ?_) (fun c4 => ?_)
    · have hf := ite_t c4 hf
      refine v_iinc K 2 (v := x2 + 1) (ls' := [(2, .int (x2 + 1)), (0, .ref (X.2.1 o0)), (1, .int x1), (3, .int x3)]) rfl rfl (by decide) rfl dX7_netsWithCells_41 ?_
      refine v_goto K 4 (by decide) dX7_netsWithCells_44 ?_
      refine v_sub [1, 2, 0] rfl ?_
      exact hk4 x1 (x2 + 1) u1 hf
    · have hf := ite_f c4 hf
      refine v_iload_n K 1 rfl rfl dX7_netsWithCells_24 ?_
      refine v_iconst K (v := 1) (by decide) dX7_netsWithCells_25 ?_
      refine v_aload_n K 0 rfl rfl dX7_netsWithCells_26 ?_
      refine v_iload_n K 2 rfl rfl dX7_netsWithCells_27 ?_
      refine v_iload_n K 3 rfl rfl dX7_netsWithCells_28 ?_
      obtain ⟨r6, u5, e7, hf⟩ := bnd_of hf
      refine v_callVi K (c_X7_netOf h0 e7) cv_X7_netOf ml_X7_127 (am1_7 h0) h0 kdX7 ⟨rfl, rfl, Nat.le_of_ble_eq_true rfl, Nat.le_of_ble_eq_true rfl⟩ rfl rfl (Nat.le_of_ble_eq_true rfl) dX7_netsWithCells_29 ?_
      refine v_ishl K dX7_netsWithCells_32 ?_
      refine v_ior K dX7_netsWithCells_33 ?_
      refine v_topi (fun z8 ez8 => ?_)
      have hf := lte_of ez8 hf
      refine v_istore_n K (ls' := [(1, .int z8), (0, .ref (X.2.1 o0)), (2, .int x2), (3, .int x3)]) rfl (by decide) rfl dX7_netsWithCells_34 ?_
      refine v_iinc K 3 (v := x3 + 1) (ls' := [(3, .int (x3 + 1)), (1, .int z8), (0, .ref (X.2.1 o0)), (2, .int x2)]) rfl rfl (by decide) rfl dX7_netsWithCells_35 ?_
      refine v_goto K 14 (by decide) dX7_netsWithCells_38 ?_
      refine v_sub [2, 1, 3, 0] rfl ?_
      exact ih z8 x2 (x3 + 1) u5 hf
set_option maxRecDepth 20000 in
theorem t_X7_netsWithCells_4 {M : Mx} {X : Wx} {N : Nat} {o0 : Nat} (h0 : akd o0 = 7) {r : Int32} {u' : ASt} (K : OkM 1 M X cX7_netsWithCells 4 RX7 rm_X7_netsWithCells (some .int)) : ∀ (n : Nat) (x1 : Int32) (x2 : Int32) (u : ASt), f_X7_netsWithCells_4 N o0 n x1 x2 u = some (r, u') → V 1 M X (some (.int r), u') 4 4 [(0, .ref (X.2.1 o0)), (1, .int x1), (2, .int x2)] [] u := by
  intro n
  induction n with
  | zero => intro x1 x2 u hf; cases hf
  | succ n ih =>
    intro x1 x2 u hf
    rw [f_X7_netsWithCells_4] at hf
    refine v_iload_n K 2 rfl rfl dX7_netsWithCells_4 ?_
    refine v_aload_n K 0 rfl rfl dX7_netsWithCells_5 ?_
    obtain ⟨r10, u9, e11, hf⟩ := bnd_of hf
    refine v_callVi K (c_X7_chips h0 e11) cv_X7_chips ml_X7_121 (am1_7 h0) h0 kdX7 ⟨rfl, rfl, Nat.le_of_ble_eq_true rfl, Nat.le_of_ble_eq_true rfl⟩ rfl rfl (Nat.le_of_ble_eq_true rfl) dX7_netsWithCells_6 ?_
    refine v_icmp_ge K 47 (by decide) dX7_netsWithCells_9 (fun c12 => ?_) (fun c12 => ?_)
    · have hf := ite_t c12 hf
      refine v_iload_n K 1 rfl rfl dX7_netsWithCells_47 ?_
      obtain ⟨rfl, rfl⟩ := pair_of hf
      exact v_iret K dX7_netsWithCells_48
    · have hf := ite_f c12 hf
      refine v_iconst K (v := 0) (by decide) dX7_netsWithCells_12 ?_
      refine v_istore_n K (ls' := [(3, .int 0), (0, .ref (X.2.1 o0)), (1, .int x1), (2, .int x2)]) rfl (by decide) rfl dX7_netsWithCells_13 ?_
      refine v_sub [1, 2, 3, 0] rfl ?_
      exact t_X7_netsWithCells_14 h0 K ih N x1 x2 0 u9 hf
set_option maxRecDepth 20000 in
theorem c_X7_netsWithCells {X : Wx} {N : Nat} {o0 : Nat} (h0 : akd o0 = 7) {u u' : ASt} {r : Int32} (hf : f_X7_netsWithCells N o0 u = some (r, u')) (l : Launch) : Met l yX7_netsWithCells (ws_ yX7_netsWithCells cX7_netsWithCells 4 (some .int)) rm_X7_netsWithCells (Pg 1 X u [.ref (X.2.1 o0)]) (Qg 1 X (some (.int r)) u') 0 0 (Aw 1 X) := by
  refine v_met (res := (some (.int r), u')) (by decide) (Nat.le_of_ble_eq_true rfl) (fun M K => ?_)
  have K : OkM 1 M X cX7_netsWithCells 4 RX7 rm_X7_netsWithCells (some .int) := K
  show V 1 M X (some (.int r), u') 4 0 [(0, .ref (X.2.1 o0))] [] u
  unfold f_X7_netsWithCells at hf
  refine v_iconst K (v := 0) (by decide) dX7_netsWithCells_0 ?_
  refine v_istore_n K (ls' := [(1, .int 0), (0, .ref (X.2.1 o0))]) rfl (by decide) rfl dX7_netsWithCells_1 ?_
  refine v_iconst K (v := 0) (by decide) dX7_netsWithCells_2 ?_
  refine v_istore_n K (ls' := [(2, .int 0), (1, .int 0), (0, .ref (X.2.1 o0))]) rfl (by decide) rfl dX7_netsWithCells_3 ?_
  refine v_sub [2, 1, 0] rfl ?_
  exact t_X7_netsWithCells_4 h0 K N 0 0 u hf
abbrev rm_X7_ones : Room := { frames := 0, cells := 0, slots := 0, locals := 0 }
set_option maxRecDepth 20000 in
theorem t_X7_ones_4 {M : Mx} {X : Wx} {N : Nat} {p1 : Int32} {r : Int32} {u' : ASt} (K : OkM 1 M X cX7_ones 3 RX7 rm_X7_ones (some .int)) : ∀ (n : Nat) (x1 : Int32) (x2 : Int32) (u : ASt), f_X7_ones_4 N p1 n x1 x2 u = some (r, u') → V 1 M X (some (.int r), u') 3 4 [(0, .int p1), (1, .int x1), (2, .int x2)] [] u := by
  intro n
  induction n with
  | zero => intro x1 x2 u hf; cases hf
  | succ n ih =>
    intro x1 x2 u hf
    rw [f_X7_ones_4] at hf
    refine v_iload_n K 2 rfl rfl dX7_ones_4 ?_
    refine v_bipush K (v := 8) (by decide) dX7_ones_5 ?_
    refine v_icmp_ge K 24 (by decide) dX7_ones_7 (fun c1 => ?_) (fun c1 => ?_)
    · have hf := ite_t c1 hf
      refine v_iload_n K 1 rfl rfl dX7_ones_24 ?_
      obtain ⟨rfl, rfl⟩ := pair_of hf
      exact v_iret K dX7_ones_25
    · have hf := ite_f c1 hf
      refine v_iload_n K 1 rfl rfl dX7_ones_10 ?_
      refine v_iload_n K 0 rfl rfl dX7_ones_11 ?_
      refine v_iload_n K 2 rfl rfl dX7_ones_12 ?_
      refine v_ishr K dX7_ones_13 ?_
      refine v_iconst K (v := 1) (by decide) dX7_ones_14 ?_
      refine v_iand K dX7_ones_15 ?_
      refine v_iadd K dX7_ones_16 ?_
      refine v_topi (fun z2 ez2 => ?_)
      have hf := lte_of ez2 hf
      refine v_istore_n K (ls' := [(1, .int z2), (0, .int p1), (2, .int x2)]) rfl (by decide) rfl dX7_ones_17 ?_
      refine v_iinc K 2 (v := x2 + 1) (ls' := [(2, .int (x2 + 1)), (1, .int z2), (0, .int p1)]) rfl rfl (by decide) rfl dX7_ones_18 ?_
      refine v_goto K 4 (by decide) dX7_ones_21 ?_
      refine v_sub [2, 1, 0] rfl ?_
      exact ih z2 (x2 + 1) u hf
set_option maxRecDepth 20000 in
theorem c_X7_ones {X : Wx} {N : Nat} {p1 : Int32} {u u' : ASt} {r : Int32} (hf : f_X7_ones N p1 u = some (r, u')) (l : Launch) : Met l yX7_ones (ws_ yX7_ones cX7_ones 3 (some .int)) rm_X7_ones (Pg 1 X u [.int p1]) (Qg 1 X (some (.int r)) u') 0 0 (Aw 1 X) := by
  refine v_met (res := (some (.int r), u')) (by decide) (Nat.le_of_ble_eq_true rfl) (fun M K => ?_)
  have K : OkM 1 M X cX7_ones 3 RX7 rm_X7_ones (some .int) := K
  show V 1 M X (some (.int r), u') 3 0 [(0, .int p1)] [] u
  unfold f_X7_ones at hf
  refine v_iconst K (v := 0) (by decide) dX7_ones_0 ?_
  refine v_istore_n K (ls' := [(1, .int 0), (0, .int p1)]) rfl (by decide) rfl dX7_ones_1 ?_
  refine v_iconst K (v := 0) (by decide) dX7_ones_2 ?_
  refine v_istore_n K (ls' := [(2, .int 0), (1, .int 0), (0, .int p1)]) rfl (by decide) rfl dX7_ones_3 ?_
  refine v_sub [2, 1, 0] rfl ?_
  exact t_X7_ones_4 K N 0 0 u hf
abbrev rm_X7_counting : Room := { frames := 4, cells := 0, slots := 0, locals := 88 }
set_option maxRecDepth 20000 in
theorem t_X7_counting_2 {M : Mx} {X : Wx} {N : Nat} {o0 : Nat} (h0 : akd o0 = 7) {r : Int32} {u' : ASt} (K : OkM 1 M X cX7_counting 2 RX7 rm_X7_counting (some .int)) : ∀ (n : Nat) (x1 : Int32) (u : ASt), f_X7_counting_2 N o0 n x1 u = some (r, u') → V 1 M X (some (.int r), u') 2 2 [(0, .ref (X.2.1 o0)), (1, .int x1)] [] u := by
  intro n
  induction n with
  | zero => intro x1 u hf; cases hf
  | succ n ih =>
    intro x1 u hf
    rw [f_X7_counting_2] at hf
    refine v_iconst K (v := 1) (by decide) dX7_counting_2 ?_
    refine v_iload_n K 1 rfl rfl dX7_counting_3 ?_
    refine v_ishl K dX7_counting_4 ?_
    refine v_aload_n K 0 rfl rfl dX7_counting_5 ?_
    obtain ⟨r2, u1, e3, hf⟩ := bnd_of hf
    refine v_callVi K (c_X7_outs h0 e3) cv_X7_outs ml_X7_130 (am1_7 h0) h0 kdX7 ⟨rfl, rfl, Nat.le_of_ble_eq_true rfl, Nat.le_of_ble_eq_true rfl⟩ rfl rfl (Nat.le_of_ble_eq_true rfl) dX7_counting_6 ?_
    obtain ⟨r5, u4, e6, hf⟩ := bnd_of hf
    refine v_callSi K (c_X7_ones e6) cv_X7_ones ml_X7_133 ⟨rfl, rfl, Nat.le_of_ble_eq_true rfl, Nat.le_of_ble_eq_true rfl⟩ rfl rfl (Nat.le_of_ble_eq_true rfl) dX7_counting_9 ?_
    refine v_iconst K (v := 2) (by decide) dX7_counting_12 ?_
    refine v_iadd K dX7_counting_13 ?_
    refine v_icmp_ge K 23 (by decide) dX7_counting_14 (fun c7 => ?_) (fun c7 => ?_)
    · have hf := ite_t c7 hf
      refine v_iload_n K 1 rfl rfl dX7_counting_23 ?_
      obtain ⟨rfl, rfl⟩ := pair_of hf
      exact v_iret K dX7_counting_24
    · have hf := ite_f c7 hf
      refine v_iinc K 1 (v := x1 + 1) (ls' := [(1, .int (x1 + 1)), (0, .ref (X.2.1 o0))]) rfl rfl (by decide) rfl dX7_counting_17 ?_
      refine v_goto K 2 (by decide) dX7_counting_20 ?_
      refine v_sub [1, 0] rfl ?_
      exact ih (x1 + 1) u4 hf
set_option maxRecDepth 20000 in
theorem c_X7_counting {X : Wx} {N : Nat} {o0 : Nat} (h0 : akd o0 = 7) {u u' : ASt} {r : Int32} (hf : f_X7_counting N o0 u = some (r, u')) (l : Launch) : Met l yX7_counting (ws_ yX7_counting cX7_counting 2 (some .int)) rm_X7_counting (Pg 1 X u [.ref (X.2.1 o0)]) (Qg 1 X (some (.int r)) u') 0 0 (Aw 1 X) := by
  refine v_met (res := (some (.int r), u')) (by decide) (Nat.le_of_ble_eq_true rfl) (fun M K => ?_)
  have K : OkM 1 M X cX7_counting 2 RX7 rm_X7_counting (some .int) := K
  show V 1 M X (some (.int r), u') 2 0 [(0, .ref (X.2.1 o0))] [] u
  unfold f_X7_counting at hf
  refine v_iconst K (v := 0) (by decide) dX7_counting_0 ?_
  refine v_istore_n K (ls' := [(1, .int 0), (0, .ref (X.2.1 o0))]) rfl (by decide) rfl dX7_counting_1 ?_
  refine v_sub [1, 0] rfl ?_
  exact t_X7_counting_2 h0 K N 0 u hf
abbrev rm_X7_patternAt : Room := { frames := 5, cells := 0, slots := 0, locals := 109 }
set_option maxRecDepth 20000 in
theorem c_X7_patternAt {X : Wx} {N : Nat} {o0 : Nat} {p1 : Int32} {p2 : Int32} (h0 : akd o0 = 7) {u u' : ASt} {r : Int32} (hf : f_X7_patternAt N o0 p1 p2 u = some (r, u')) (l : Launch) : Met l yX7_patternAt (ws_ yX7_patternAt cX7_patternAt 5 (some .int)) rm_X7_patternAt (Pg 1 X u [.ref (X.2.1 o0), .int p1, .int p2]) (Qg 1 X (some (.int r)) u') 0 0 (Aw 1 X) := by
  refine v_met (res := (some (.int r), u')) (by decide) (Nat.le_of_ble_eq_true rfl) (fun M K => ?_)
  have K : OkM 1 M X cX7_patternAt 5 RX7 rm_X7_patternAt (some .int) := K
  show V 1 M X (some (.int r), u') 5 0 [(0, .ref (X.2.1 o0)), (1, .int p1), (2, .int p2)] [] u
  unfold f_X7_patternAt at hf
  refine v_aload_n K 0 rfl rfl dX7_patternAt_0 ?_
  obtain ⟨r2, u1, e3, hf⟩ := bnd_of hf
  refine v_callVi K (c_X7_counting h0 e3) cv_X7_counting ml_X7_136 (am1_7 h0) h0 kdX7 ⟨rfl, rfl, Nat.le_of_ble_eq_true rfl, Nat.le_of_ble_eq_true rfl⟩ rfl rfl (Nat.le_of_ble_eq_true rfl) dX7_patternAt_1 ?_
  refine v_istore_n K (ls' := [(3, .int r2), (0, .ref (X.2.1 o0)), (1, .int p1), (2, .int p2)]) rfl (by decide) rfl dX7_patternAt_4 ?_
  refine v_aload_n K 1 rfl rfl dX7_patternAt_5 ?_
  obtain ⟨r5, u4, e6, hf⟩ := bnd_of hf
  refine v_callVi K (c_X7_outs h0 e6) cv_X7_outs ml_X7_130 (am1_7 h0) h0 kdX7 ⟨rfl, rfl, Nat.le_of_ble_eq_true rfl, Nat.le_of_ble_eq_true rfl⟩ rfl rfl (Nat.le_of_ble_eq_true rfl) dX7_patternAt_6 ?_
  refine v_iconst K (v := 1) (by decide) dX7_patternAt_9 ?_
  refine v_iload_n K 3 rfl rfl dX7_patternAt_10 ?_
  refine v_ishl K dX7_patternAt_11 ?_
  refine v_iconst K (v := 1) (by decide) dX7_patternAt_12 ?_
  refine v_isub K dX7_patternAt_13 ?_
  refine v_iand K dX7_patternAt_14 ?_
  obtain ⟨r8, u7, e9, hf⟩ := bnd_of hf
  refine v_callSi K (c_X7_ones e9) cv_X7_ones ml_X7_133 ⟨rfl, rfl, Nat.le_of_ble_eq_true rfl, Nat.le_of_ble_eq_true rfl⟩ rfl rfl (Nat.le_of_ble_eq_true rfl) dX7_patternAt_15 ?_
  refine v_iconst K (v := 1) (by decide) dX7_patternAt_18 ?_
  refine v_iadd K dX7_patternAt_19 ?_
  refine v_topi (fun z10 ez10 => ?_)
  have hf := lte_of ez10 hf
  refine v_istore K (ls' := [(4, .int z10), (3, .int r2), (0, .ref (X.2.1 o0)), (1, .int p1), (2, .int p2)]) (by decide) rfl dX7_patternAt_20 ?_
  refine v_iload_n K 3 rfl rfl dX7_patternAt_22 ?_
  refine v_iload_n K 1 rfl rfl dX7_patternAt_23 ?_
  refine v_icmp_ge K 36 (by decide) dX7_patternAt_24 (fun c11 => ?_) (fun c11 => ?_)
  · have hf := ite_t c11 hf
    refine v_iconst K (v := 1) (by decide) dX7_patternAt_36 ?_
    refine v_iload K 0 rfl dX7_patternAt_37 ?_
    refine v_iload_n K 3 rfl rfl dX7_patternAt_39 ?_
    refine v_iload_n K 1 rfl rfl dX7_patternAt_40 ?_
    refine v_isub K dX7_patternAt_41 ?_
    refine v_ishr K dX7_patternAt_42 ?_
    refine v_iconst K (v := 1) (by decide) dX7_patternAt_43 ?_
    refine v_iand K dX7_patternAt_44 ?_
    refine v_isub K dX7_patternAt_45 ?_
    obtain ⟨rfl, rfl⟩ := pair_of hf
    exact v_iret K dX7_patternAt_46
  · have hf := ite_f c11 hf
    refine v_iload K 0 rfl dX7_patternAt_27 ?_
    refine v_iload_n K 3 rfl rfl dX7_patternAt_29 ?_
    refine v_ishr K dX7_patternAt_30 ?_
    refine v_iconst K (v := 1) (by decide) dX7_patternAt_31 ?_
    refine v_iand K dX7_patternAt_32 ?_
    refine v_goto K 46 (by decide) dX7_patternAt_33 ?_
    obtain ⟨rfl, rfl⟩ := pair_of hf
    exact v_iret K dX7_patternAt_46
abbrev rm_X7_drives : Room := { frames := 6, cells := 0, slots := 0, locals := 133 }
set_option maxRecDepth 20000 in
theorem t_X7_drives_33 {M : Mx} {X : Wx} {N : Nat} {o0 : Nat} {p1 : Int32} {p2 : Int32} {p3 : Int32} (h0 : akd o0 = 7) {r : Int32} {u' : ASt} (K : OkM 1 M X cX7_drives 4 RX7 rm_X7_drives (some .int)) {u : ASt} (hf : f_X7_drives_33 N o0 p1 p2 p3  u = some (r, u')) : V 1 M X (some (.int r), u') 4 33 [(0, .ref (X.2.1 o0)), (1, .int p1), (2, .int p2), (3, .int p3)] [] u := by
  unfold f_X7_drives_33 at hf
  refine v_iload_n K 3 rfl rfl dX7_drives_33 ?_
  refine v_if_ge K 51 (by decide) dX7_drives_34 (fun c1 => ?_) (fun c1 => ?_)
  · have hf := ite_t c1 hf
    refine v_aload_n K 0 rfl rfl dX7_drives_51 ?_
    refine v_iload_n K 3 rfl rfl dX7_drives_52 ?_
    refine v_aload_n K 0 rfl rfl dX7_drives_53 ?_
    refine v_iload_n K 1 rfl rfl dX7_drives_54 ?_
    refine v_iload_n K 2 rfl rfl dX7_drives_55 ?_
    obtain ⟨r3, u2, e4, hf⟩ := bnd_of hf
    refine v_callVi K (c_X7_netOf h0 e4) cv_X7_netOf ml_X7_127 (am1_7 h0) h0 kdX7 ⟨rfl, rfl, Nat.le_of_ble_eq_true rfl, Nat.le_of_ble_eq_true rfl⟩ rfl rfl (Nat.le_of_ble_eq_true rfl) dX7_drives_56 ?_
    obtain ⟨r6, u5, e7, hf⟩ := bnd_of hf
    refine v_callVi K (c_X7_patternAt h0 e7) cv_X7_patternAt ml_X7_142 (am1_7 h0) h0 kdX7 ⟨rfl, rfl, Nat.le_of_ble_eq_true rfl, Nat.le_of_ble_eq_true rfl⟩ rfl rfl (Nat.le_of_ble_eq_true rfl) dX7_drives_59 ?_
    obtain ⟨rfl, rfl⟩ := pair_of hf
    exact v_iret K dX7_drives_62
  · have hf := ite_f c1 hf
    refine v_aload_n K 0 rfl rfl dX7_drives_37 ?_
    refine v_iload_n K 1 rfl rfl dX7_drives_38 ?_
    refine v_bipush K (v := 6) (by decide) dX7_drives_39 ?_
    obtain ⟨r9, u8, e10, hf⟩ := bnd_of hf
    refine v_callVi K (c_X7_get h0 e10) cv_X7_get ml_X7_55 (am1_7 h0) h0 kdX7 ⟨rfl, rfl, Nat.le_of_ble_eq_true rfl, Nat.le_of_ble_eq_true rfl⟩ rfl rfl (Nat.le_of_ble_eq_true rfl) dX7_drives_41 ?_
    refine v_iload_n K 2 rfl rfl dX7_drives_44 ?_
    refine v_ishr K dX7_drives_45 ?_
    refine v_iconst K (v := 1) (by decide) dX7_drives_46 ?_
    refine v_iand K dX7_drives_47 ?_
    refine v_goto K 62 (by decide) dX7_drives_48 ?_
    obtain ⟨rfl, rfl⟩ := pair_of hf
    exact v_iret K dX7_drives_62
set_option maxRecDepth 20000 in
theorem t_X7_drives_31 {M : Mx} {X : Wx} {N : Nat} {o0 : Nat} {p1 : Int32} {p2 : Int32} {p3 : Int32} (h0 : akd o0 = 7) {r : Int32} {u' : ASt} (K : OkM 1 M X cX7_drives 4 RX7 rm_X7_drives (some .int)) {u : ASt} (hf : f_X7_drives_31 N o0 p1 p2 p3  u = some (r, u')) : V 1 M X (some (.int r), u') 4 31 [] [] u := by
  unfold f_X7_drives_31 at hf
  refine v_iconst K (v := (-1)) (by decide) dX7_drives_31 ?_
  obtain ⟨rfl, rfl⟩ := pair_of hf
  exact v_iret K dX7_drives_32
set_option maxRecDepth 20000 in
theorem c_X7_drives {X : Wx} {N : Nat} {o0 : Nat} {p1 : Int32} {p2 : Int32} {p3 : Int32} (h0 : akd o0 = 7) {u u' : ASt} {r : Int32} (hf : f_X7_drives N o0 p1 p2 p3 u = some (r, u')) (l : Launch) : Met l yX7_drives (ws_ yX7_drives cX7_drives 4 (some .int)) rm_X7_drives (Pg 1 X u [.ref (X.2.1 o0), .int p1, .int p2, .int p3]) (Qg 1 X (some (.int r)) u') 0 0 (Aw 1 X) := by
  refine v_met (res := (some (.int r), u')) (by decide) (Nat.le_of_ble_eq_true rfl) (fun M K => ?_)
  have K : OkM 1 M X cX7_drives 4 RX7 rm_X7_drives (some .int) := K
  show V 1 M X (some (.int r), u') 4 0 [(0, .ref (X.2.1 o0)), (1, .int p1), (2, .int p2), (3, .int p3)] [] u
  unfold f_X7_drives at hf
  refine v_aload_n K 0 rfl rfl dX7_drives_0 ?_
  refine v_iload_n K 1 rfl rfl dX7_drives_1 ?_
  refine v_iload_n K 2 rfl rfl dX7_drives_2 ?_
  obtain ⟨r12, u11, e13, hf⟩ := bnd_of hf
  refine v_callVi K (c_X7_isOut h0 e13) cv_X7_isOut ml_X7_124 (am1_7 h0) h0 kdX7 ⟨rfl, rfl, Nat.le_of_ble_eq_true rfl, Nat.le_of_ble_eq_true rfl⟩ rfl rfl (Nat.le_of_ble_eq_true rfl) dX7_drives_3 ?_
  refine v_if_eq K 31 (by decide) dX7_drives_6 (fun c14 => ?_) (fun c14 => ?_)
  · have hf := ite_t c14 hf
    refine v_sub [] rfl ?_
    exact t_X7_drives_31 h0 K hf
  · have hf := ite_f c14 hf
    refine v_aload_n K 0 rfl rfl dX7_drives_9 ?_
    refine v_iload_n K 1 rfl rfl dX7_drives_10 ?_
    refine v_iload_n K 2 rfl rfl dX7_drives_11 ?_
    obtain ⟨r16, u15, e17, hf⟩ := bnd_of hf
    refine v_callVi K (c_X7_isOpen h0 e17) cv_X7_isOpen ml_X7_139 (am1_7 h0) h0 kdX7 ⟨rfl, rfl, Nat.le_of_ble_eq_true rfl, Nat.le_of_ble_eq_true rfl⟩ rfl rfl (Nat.le_of_ble_eq_true rfl) dX7_drives_12 ?_
    refine v_if_ne K 31 (by decide) dX7_drives_15 (fun c18 => ?_) (fun c18 => ?_)
    · have hf := ite_f c18 hf
      refine v_sub [] rfl ?_
      exact t_X7_drives_31 h0 K hf
    · have hf := ite_t c18 hf
      refine v_iload_n K 3 rfl rfl dX7_drives_18 ?_
      refine v_if_ge K 33 (by decide) dX7_drives_19 (fun c19 => ?_) (fun c19 => ?_)
      · have hf := ite_t c19 hf
        exact t_X7_drives_33 h0 K hf
      · have hf := ite_f c19 hf
        refine v_aload_n K 0 rfl rfl dX7_drives_22 ?_
        refine v_iload_n K 1 rfl rfl dX7_drives_23 ?_
        refine v_iconst K (v := 3) (by decide) dX7_drives_24 ?_
        obtain ⟨r21, u20, e22, hf⟩ := bnd_of hf
        refine v_callVi K (c_X7_get h0 e22) cv_X7_get ml_X7_55 (am1_7 h0) h0 kdX7 ⟨rfl, rfl, Nat.le_of_ble_eq_true rfl, Nat.le_of_ble_eq_true rfl⟩ rfl rfl (Nat.le_of_ble_eq_true rfl) dX7_drives_25 ?_
        refine v_if_eq K 33 (by decide) dX7_drives_28 (fun c23 => ?_) (fun c23 => ?_)
        · have hf := ite_t c23 hf
          exact t_X7_drives_33 h0 K hf
        · have hf := ite_f c23 hf
          refine v_sub [] rfl ?_
          exact t_X7_drives_31 h0 K hf
