abbrev rm_X7_laysDrivers : Room := { frames := 7, cells := 0, slots := 0, locals := 156 }
set_option maxRecDepth 20000 in
theorem t_X7_laysDrivers_136 {M : Mx} {X : Wx} {N : Nat} {o0 : Nat} {p1 : Int32} (h0 : akd o0 = 7) {r : Unit} {u' : ASt} (K : OkM 1 M X cX7_laysDrivers 7 RX7 rm_X7_laysDrivers none) {k109 : Int32 → Int32 → ASt → Option (Unit × ASt)} (hk109 : ∀ (x2 : Int32) (x4 : Int32) (u : ASt), k109 x2 x4 u = some (r, u') → V 1 M X (none, u') 7 109 [(0, .ref (X.2.1 o0)), (2, .int x2), (4, .int x4)] [] u) {x2 : Int32} {x4 : Int32} {c0 : Nat} {y1 : Int32} {y2 : Int32} (hc0 : akd c0 = 12) {u : ASt} (hf : f_X7_laysDrivers_136 N o0 p1 k109 x2 x4 c0 y1 y2 u = some (r, u')) : V 1 M X (none, u') 7 136 [(0, .ref (X.2.1 o0)), (2, .int x2), (4, .int x4)] [.int y2, .int y1, .ref (X.2.1 c0)] u := by
  unfold f_X7_laysDrivers_136 at hf
  obtain ⟨g1, hf⟩ := chk_of hf
  refine v_iast K (am1_12 hc0) (.inr hc0) g1 dX7_laysDrivers_136 ?_
  refine v_st (fun u2 eu2 => ?_)
  have hf := lte_of eu2 hf
  refine v_iinc K 2 (v := x4 + 1) (ls' := [(4, .int (x4 + 1)), (0, .ref (X.2.1 o0)), (2, .int x2)]) rfl rfl (by decide) rfl dX7_laysDrivers_137 ?_
  refine v_goto K 109 (by decide) dX7_laysDrivers_140 ?_
  refine v_sub [1, 2, 0] rfl ?_
  exact hk109 x2 (x4 + 1) u2 hf
set_option maxRecDepth 20000 in
theorem t_X7_laysDrivers_109 {M : Mx} {X : Wx} {N : Nat} {o0 : Nat} {p1 : Int32} (h0 : akd o0 = 7) {r : Unit} {u' : ASt} (K : OkM 1 M X cX7_laysDrivers 7 RX7 rm_X7_laysDrivers none) : ∀ (n : Nat) (x2 : Int32) (x4 : Int32) (u : ASt), f_X7_laysDrivers_109 N o0 p1 n x2 x4 u = some (r, u') → V 1 M X (none, u') 7 109 [(0, .ref (X.2.1 o0)), (2, .int x2), (4, .int x4)] [] u := by
  intro n
  induction n with
  | zero => intro x2 x4 u hf; cases hf
  | succ n ih =>
    intro x2 x4 u hf
    rw [f_X7_laysDrivers_109] at hf
    refine v_iload K 2 rfl dX7_laysDrivers_109 ?_
    refine v_bipush K (v := 8) (by decide) dX7_laysDrivers_111 ?_
    refine v_icmp_ge K 143 (by decide) dX7_laysDrivers_113 (fun c3 => ?_) (fun c3 => ?_)
    · have hf := ite_t c3 hf
      obtain ⟨rfl, rfl⟩ := pair_of hf
      exact v_vret K dX7_laysDrivers_143
    · have hf := ite_f c3 hf
      refine v_aload_n K 0 rfl rfl dX7_laysDrivers_116 ?_
      refine gf_7_9 K h0 fl_X7_28 dX7_laysDrivers_117 ?_
      refine v_iload K 2 rfl dX7_laysDrivers_120 ?_
      refine v_iload_n K 1 rfl rfl dX7_laysDrivers_122 ?_
      refine v_iload K 2 rfl dX7_laysDrivers_123 ?_
      obtain ⟨r5, u4, e6, hf⟩ := bnd_of hf
      refine v_callSi K (c_X7_has e6) cv_X7_has ml_X7_151 ⟨rfl, rfl, Nat.le_of_ble_eq_true rfl, Nat.le_of_ble_eq_true rfl⟩ rfl rfl (Nat.le_of_ble_eq_true rfl) dX7_laysDrivers_125 ?_
      refine v_if_eq K 135 (by decide) dX7_laysDrivers_128 (fun c7 => ?_) (fun c7 => ?_)
      · have hf := ite_t c7 hf
        refine v_iconst K (v := 1) (by decide) dX7_laysDrivers_135 ?_
        exact t_X7_laysDrivers_136 h0 K ih (ak_7_9 h0) hf
      · have hf := ite_f c7 hf
        refine v_iconst K (v := 0) (by decide) dX7_laysDrivers_131 ?_
        refine v_goto K 136 (by decide) dX7_laysDrivers_132 ?_
        exact t_X7_laysDrivers_136 h0 K ih (ak_7_9 h0) hf
set_option maxRecDepth 20000 in
theorem t_X7_laysDrivers_85 {M : Mx} {X : Wx} {N : Nat} {o0 : Nat} {p1 : Int32} (h0 : akd o0 = 7) {r : Unit} {u' : ASt} (K : OkM 1 M X cX7_laysDrivers 7 RX7 rm_X7_laysDrivers none) {k7 : Int32 → Int32 → Int32 → ASt → Option (Unit × ASt)} (hk7 : ∀ (x2 : Int32) (x3 : Int32) (x4 : Int32) (u : ASt), k7 x2 x3 x4 u = some (r, u') → V 1 M X (none, u') 7 7 [(0, .ref (X.2.1 o0)), (1, .int p1), (2, .int x2), (3, .int x3), (4, .int x4)] [] u) {k19 : Int32 → Int32 → Int32 → Int32 → ASt → Option (Unit × ASt)} (hk19 : ∀ (x2 : Int32) (x3 : Int32) (x4 : Int32) (x5 : Int32) (u : ASt), k19 x2 x3 x4 x5 u = some (r, u') → V 1 M X (none, u') 7 19 [(0, .ref (X.2.1 o0)), (1, .int p1), (2, .int x2), (3, .int x3), (4, .int x4), (5, .int x5)] [] u) {x2 : Int32} {x4 : Int32} {x5 : Int32} {y0 : Int32} {y1 : Int32} {u : ASt} (hf : f_X7_laysDrivers_85 N o0 p1 k7 k19 x2 x4 x5 y0 y1 u = some (r, u')) : V 1 M X (none, u') 7 85 [(0, .ref (X.2.1 o0)), (1, .int p1), (2, .int x2), (4, .int x4), (5, .int x5)] [.int y1, .int y0] u := by
  unfold f_X7_laysDrivers_85 at hf
  refine v_ior K dX7_laysDrivers_85 ?_
  refine v_topi (fun z8 ez8 => ?_)
  have hf := lte_of ez8 hf
  refine v_istore_n K (ls' := [(3, .int z8), (0, .ref (X.2.1 o0)), (1, .int p1), (2, .int x2), (4, .int x4), (5, .int x5)]) rfl (by decide) rfl dX7_laysDrivers_86 ?_
  refine v_iinc K 5 (v := x5 + 1) (ls' := [(5, .int (x5 + 1)), (3, .int z8), (0, .ref (X.2.1 o0)), (1, .int p1), (2, .int x2), (4, .int x4)]) rfl rfl (by decide) rfl dX7_laysDrivers_87 ?_
  refine v_goto K 19 (by decide) dX7_laysDrivers_90 ?_
  refine v_sub [2, 3, 4, 1, 5, 0] rfl ?_
  exact hk19 x2 z8 x4 (x5 + 1) u hf
set_option maxRecDepth 20000 in
theorem t_X7_laysDrivers_62 {M : Mx} {X : Wx} {N : Nat} {o0 : Nat} {p1 : Int32} (h0 : akd o0 = 7) {r : Unit} {u' : ASt} (K : OkM 1 M X cX7_laysDrivers 7 RX7 rm_X7_laysDrivers none) {k7 : Int32 → Int32 → Int32 → ASt → Option (Unit × ASt)} (hk7 : ∀ (x2 : Int32) (x3 : Int32) (x4 : Int32) (u : ASt), k7 x2 x3 x4 u = some (r, u') → V 1 M X (none, u') 7 7 [(0, .ref (X.2.1 o0)), (1, .int p1), (2, .int x2), (3, .int x3), (4, .int x4)] [] u) {k19 : Int32 → Int32 → Int32 → Int32 → ASt → Option (Unit × ASt)} (hk19 : ∀ (x2 : Int32) (x3 : Int32) (x4 : Int32) (x5 : Int32) (u : ASt), k19 x2 x3 x4 x5 u = some (r, u') → V 1 M X (none, u') 7 19 [(0, .ref (X.2.1 o0)), (1, .int p1), (2, .int x2), (3, .int x3), (4, .int x4), (5, .int x5)] [] u) {x3 : Int32} {x4 : Int32} {x5 : Int32} {x6 : Int32} {y0 : Int32} {y1 : Int32} {u : ASt} (hf : f_X7_laysDrivers_62 N o0 p1 k7 k19 x3 x4 x5 x6 y0 y1 u = some (r, u')) : V 1 M X (none, u') 7 62 [(0, .ref (X.2.1 o0)), (1, .int p1), (3, .int x3), (4, .int x4), (5, .int x5), (6, .int x6)] [.int y1, .int y0] u := by
  unfold f_X7_laysDrivers_62 at hf
  refine v_ior K dX7_laysDrivers_62 ?_
  refine v_topi (fun z9 ez9 => ?_)
  have hf := lte_of ez9 hf
  refine v_istore_n K (ls' := [(2, .int z9), (0, .ref (X.2.1 o0)), (1, .int p1), (3, .int x3), (4, .int x4), (5, .int x5), (6, .int x6)]) rfl (by decide) rfl dX7_laysDrivers_63 ?_
  refine v_iload_n K 3 rfl rfl dX7_laysDrivers_64 ?_
  refine v_iload K 6 rfl dX7_laysDrivers_65 ?_
  refine v_iconst K (v := 1) (by decide) dX7_laysDrivers_67 ?_
  refine v_icmp_ne K 84 (by decide) dX7_laysDrivers_68 (fun c10 => ?_) (fun c10 => ?_)
  · have hf := ite_f c10 hf
    refine v_iconst K (v := 0) (by decide) dX7_laysDrivers_84 ?_
    refine v_sub [1, 2, 0, 4, 5] rfl ?_
    exact t_X7_laysDrivers_85 h0 K hk7 hk19 hf
  · have hf := ite_t c10 hf
    refine v_iconst K (v := 1) (by decide) dX7_laysDrivers_71 ?_
    refine v_aload_n K 1 rfl rfl dX7_laysDrivers_72 ?_
    refine v_iload K 4 rfl dX7_laysDrivers_73 ?_
    refine v_iload K 5 rfl dX7_laysDrivers_75 ?_
    obtain ⟨r12, u11, e13, hf⟩ := bnd_of hf
    refine v_callVi K (c_X7_netOf h0 e13) cv_X7_netOf ml_X7_127 (am1_7 h0) h0 kdX7 ⟨rfl, rfl, Nat.le_of_ble_eq_true rfl, Nat.le_of_ble_eq_true rfl⟩ rfl rfl (Nat.le_of_ble_eq_true rfl) dX7_laysDrivers_77 ?_
    refine v_ishl K dX7_laysDrivers_80 ?_
    refine v_goto K 85 (by decide) dX7_laysDrivers_81 ?_
    refine v_sub [1, 2, 0, 4, 5] rfl ?_
    exact t_X7_laysDrivers_85 h0 K hk7 hk19 hf
set_option maxRecDepth 20000 in
theorem t_X7_laysDrivers_19 {M : Mx} {X : Wx} {N : Nat} {o0 : Nat} {p1 : Int32} (h0 : akd o0 = 7) {r : Unit} {u' : ASt} (K : OkM 1 M X cX7_laysDrivers 7 RX7 rm_X7_laysDrivers none) {k7 : Int32 → Int32 → Int32 → ASt → Option (Unit × ASt)} (hk7 : ∀ (x2 : Int32) (x3 : Int32) (x4 : Int32) (u : ASt), k7 x2 x3 x4 u = some (r, u') → V 1 M X (none, u') 7 7 [(0, .ref (X.2.1 o0)), (1, .int p1), (2, .int x2), (3, .int x3), (4, .int x4)] [] u) : ∀ (n : Nat) (x2 : Int32) (x3 : Int32) (x4 : Int32) (x5 : Int32) (u : ASt), f_X7_laysDrivers_19 N o0 p1 k7 n x2 x3 x4 x5 u = some (r, u') → V 1 M X (none, u') 7 19 [(0, .ref (X.2.1 o0)), (1, .int p1), (2, .int x2), (3, .int x3), (4, .int x4), (5, .int x5)] [] u := by
  intro n
  induction n with
  | zero => intro x2 x3 x4 x5 u hf; cases hf
  | succ n ih =>
    intro x2 x3 x4 x5 u hf
    rw [f_X7_laysDrivers_19] at hf
    refine v_iload K 5 rfl dX7_laysDrivers_19 ?_
    refine v_aload_n K 0 rfl rfl dX7_laysDrivers_21 ?_
    refine v_iload K 4 rfl dX7_laysDrivers_22 ?_
    refine v_iconst K (v := 2) (by decide) dX7_laysDrivers_24 ?_
    obtain ⟨r15, u14, e16, hf⟩ := bnd_of hf
    refine v_callVi K (c_X7_get h0 e16) cv_X7_get ml_X7_55 (am1_7 h0) h0 kdX7 ⟨rfl, rfl, Nat.le_of_ble_eq_true rfl, Nat.le_of_ble_eq_true rfl⟩ rfl rfl (Nat.le_of_ble_eq_true rfl) dX7_laysDrivers_25 ?_
    refine v_icmp_ge K 93 (by decide) dX7_laysDrivers_28 (fun c17 => ?_) (fun c17 => ?_)
    · have hf := ite_t c17 hf
      refine v_iinc K 4 (v := x4 + 1) (ls' := [(4, .int (x4 + 1)), (0, .ref (X.2.1 o0)), (1, .int p1), (2, .int x2), (3, .int x3), (5, .int x5)]) rfl rfl (by decide) rfl dX7_laysDrivers_93 ?_
      refine v_goto K 7 (by decide) dX7_laysDrivers_96 ?_
      refine v_sub [1, 2, 3, 4, 0] rfl ?_
      exact hk7 x2 x3 (x4 + 1) u14 hf
    · have hf := ite_f c17 hf
      refine v_aload_n K 0 rfl rfl dX7_laysDrivers_31 ?_
      refine v_iload K 4 rfl dX7_laysDrivers_32 ?_
      refine v_iload K 5 rfl dX7_laysDrivers_34 ?_
      refine v_iload_n K 1 rfl rfl dX7_laysDrivers_36 ?_
      obtain ⟨r19, u18, e20, hf⟩ := bnd_of hf
      refine v_callVi K (c_X7_drives h0 e20) cv_X7_drives ml_X7_145 (am1_7 h0) h0 kdX7 ⟨rfl, rfl, Nat.le_of_ble_eq_true rfl, Nat.le_of_ble_eq_true rfl⟩ rfl rfl (Nat.le_of_ble_eq_true rfl) dX7_laysDrivers_37 ?_
      refine v_istore K (ls' := [(6, .int r19), (0, .ref (X.2.1 o0)), (1, .int p1), (2, .int x2), (3, .int x3), (4, .int x4), (5, .int x5)]) (by decide) rfl dX7_laysDrivers_40 ?_
      refine v_iload_n K 3 rfl rfl dX7_laysDrivers_42 ?_
      refine v_iload K 0 rfl dX7_laysDrivers_43 ?_
      refine v_if_ne K 61 (by decide) dX7_laysDrivers_45 (fun c21 => ?_) (fun c21 => ?_)
      · have hf := ite_f c21 hf
        refine v_iconst K (v := 0) (by decide) dX7_laysDrivers_61 ?_
        refine v_sub [1, 2, 4, 5, 6, 0] rfl ?_
        exact t_X7_laysDrivers_62 h0 K hk7 ih hf
      · have hf := ite_t c21 hf
        refine v_iconst K (v := 1) (by decide) dX7_laysDrivers_48 ?_
        refine v_aload_n K 1 rfl rfl dX7_laysDrivers_49 ?_
        refine v_iload K 5 rfl dX7_laysDrivers_50 ?_
        refine v_iload K 6 rfl dX7_laysDrivers_52 ?_
        obtain ⟨r23, u22, e24, hf⟩ := bnd_of hf
        refine v_callVi K (c_X7_netOf h0 e24) cv_X7_netOf ml_X7_127 (am1_7 h0) h0 kdX7 ⟨rfl, rfl, Nat.le_of_ble_eq_true rfl, Nat.le_of_ble_eq_true rfl⟩ rfl rfl (Nat.le_of_ble_eq_true rfl) dX7_laysDrivers_54 ?_
        refine v_ishl K dX7_laysDrivers_57 ?_
        refine v_goto K 62 (by decide) dX7_laysDrivers_58 ?_
        refine v_sub [1, 2, 4, 5, 6, 0] rfl ?_
        exact t_X7_laysDrivers_62 h0 K hk7 ih hf
set_option maxRecDepth 20000 in
theorem t_X7_laysDrivers_7 {M : Mx} {X : Wx} {N : Nat} {o0 : Nat} {p1 : Int32} (h0 : akd o0 = 7) {r : Unit} {u' : ASt} (K : OkM 1 M X cX7_laysDrivers 7 RX7 rm_X7_laysDrivers none) : ∀ (n : Nat) (x2 : Int32) (x3 : Int32) (x4 : Int32) (u : ASt), f_X7_laysDrivers_7 N o0 p1 n x2 x3 x4 u = some (r, u') → V 1 M X (none, u') 7 7 [(0, .ref (X.2.1 o0)), (1, .int p1), (2, .int x2), (3, .int x3), (4, .int x4)] [] u := by
  intro n
  induction n with
  | zero => intro x2 x3 x4 u hf; cases hf
  | succ n ih =>
    intro x2 x3 x4 u hf
    rw [f_X7_laysDrivers_7] at hf
    refine v_iload K 4 rfl dX7_laysDrivers_7 ?_
    refine v_aload_n K 0 rfl rfl dX7_laysDrivers_9 ?_
    obtain ⟨r26, u25, e27, hf⟩ := bnd_of hf
    refine v_callVi K (c_X7_chips h0 e27) cv_X7_chips ml_X7_121 (am1_7 h0) h0 kdX7 ⟨rfl, rfl, Nat.le_of_ble_eq_true rfl, Nat.le_of_ble_eq_true rfl⟩ rfl rfl (Nat.le_of_ble_eq_true rfl) dX7_laysDrivers_10 ?_
    refine v_icmp_ge K 99 (by decide) dX7_laysDrivers_13 (fun c28 => ?_) (fun c28 => ?_)
    · have hf := ite_t c28 hf
      refine v_aload_n K 0 rfl rfl dX7_laysDrivers_99 ?_
      refine v_iload_n K 2 rfl rfl dX7_laysDrivers_100 ?_
      refine v_iload_n K 3 rfl rfl dX7_laysDrivers_101 ?_
      refine v_iand K dX7_laysDrivers_102 ?_
      refine pf_7_10 K h0 fl_X7_148 dX7_laysDrivers_103 ?_
      refine v_st (fun u29 eu29 => ?_)
      have hf := lte_of eu29 hf
      refine v_iconst K (v := 0) (by decide) dX7_laysDrivers_106 ?_
      refine v_istore K (ls' := [(4, .int 0), (0, .ref (X.2.1 o0)), (1, .int p1), (2, .int x2), (3, .int x3)]) (by decide) rfl dX7_laysDrivers_107 ?_
      refine v_sub [1, 3, 0] rfl ?_
      exact t_X7_laysDrivers_109 h0 K N x2 0 u29 hf
    · have hf := ite_f c28 hf
      refine v_iconst K (v := 0) (by decide) dX7_laysDrivers_16 ?_
      refine v_istore K (ls' := [(5, .int 0), (0, .ref (X.2.1 o0)), (1, .int p1), (2, .int x2), (3, .int x3), (4, .int x4)]) (by decide) rfl dX7_laysDrivers_17 ?_
      refine v_sub [1, 2, 3, 4, 5, 0] rfl ?_
      exact t_X7_laysDrivers_19 h0 K ih N x2 x3 x4 0 u25 hf
set_option maxRecDepth 20000 in
theorem c_X7_laysDrivers {X : Wx} {N : Nat} {o0 : Nat} {p1 : Int32} (h0 : akd o0 = 7) {u u' : ASt} {r : Unit} (hf : f_X7_laysDrivers N o0 p1 u = some (r, u')) (l : Launch) : Met l yX7_laysDrivers (ws_ yX7_laysDrivers cX7_laysDrivers 7 none) rm_X7_laysDrivers (Pg 1 X u [.ref (X.2.1 o0), .int p1]) (Qg 1 X (none) u') 0 0 (Aw 1 X) := by
  refine v_met (res := (none, u')) (by decide) (Nat.le_of_ble_eq_true rfl) (fun M K => ?_)
  have K : OkM 1 M X cX7_laysDrivers 7 RX7 rm_X7_laysDrivers none := K
  show V 1 M X (none, u') 7 0 [(0, .ref (X.2.1 o0)), (1, .int p1)] [] u
  unfold f_X7_laysDrivers at hf
  refine v_iconst K (v := 0) (by decide) dX7_laysDrivers_0 ?_
  refine v_istore_n K (ls' := [(2, .int 0), (0, .ref (X.2.1 o0)), (1, .int p1)]) rfl (by decide) rfl dX7_laysDrivers_1 ?_
  refine v_iconst K (v := 0) (by decide) dX7_laysDrivers_2 ?_
  refine v_istore_n K (ls' := [(3, .int 0), (2, .int 0), (0, .ref (X.2.1 o0)), (1, .int p1)]) rfl (by decide) rfl dX7_laysDrivers_3 ?_
  refine v_iconst K (v := 0) (by decide) dX7_laysDrivers_4 ?_
  refine v_istore K (ls' := [(4, .int 0), (3, .int 0), (2, .int 0), (0, .ref (X.2.1 o0)), (1, .int p1)]) (by decide) rfl dX7_laysDrivers_5 ?_
  refine v_sub [3, 4, 2, 1, 0] rfl ?_
  exact t_X7_laysDrivers_7 h0 K N 0 0 0 u hf
abbrev rm_X7_laysNets : Room := { frames := 8, cells := 0, slots := 0, locals := 182 }
set_option maxRecDepth 20000 in
theorem t_X7_laysNets_160 {M : Mx} {X : Wx} {N : Nat} {o0 : Nat} {p1 : Int32} (h0 : akd o0 = 7) {r : Unit} {u' : ASt} (K : OkM 1 M X cX7_laysNets 7 RX7 rm_X7_laysNets none) {k112 : Int32 → ASt → Option (Unit × ASt)} (hk112 : ∀ (x2 : Int32) (u : ASt), k112 x2 u = some (r, u') → V 1 M X (none, u') 7 112 [(0, .ref (X.2.1 o0)), (2, .int x2)] [] u) {x2 : Int32} {u : ASt} (hf : f_X7_laysNets_160 N o0 p1 k112 x2 u = some (r, u')) : V 1 M X (none, u') 7 160 [(0, .ref (X.2.1 o0)), (2, .int x2)] [] u := by
  unfold f_X7_laysNets_160 at hf
  refine v_iinc K 1 (v := x2 + 1) (ls' := [(2, .int (x2 + 1)), (0, .ref (X.2.1 o0))]) rfl rfl (by decide) rfl dX7_laysNets_160 ?_
  refine v_goto K 112 (by decide) dX7_laysNets_163 ?_
  refine v_sub [1, 0] rfl ?_
  exact hk112 (x2 + 1) u hf
set_option maxRecDepth 20000 in
theorem t_X7_laysNets_112 {M : Mx} {X : Wx} {N : Nat} {o0 : Nat} {p1 : Int32} (h0 : akd o0 = 7) {r : Unit} {u' : ASt} (K : OkM 1 M X cX7_laysNets 7 RX7 rm_X7_laysNets none) : ∀ (n : Nat) (x2 : Int32) (u : ASt), f_X7_laysNets_112 N o0 p1 n x2 u = some (r, u') → V 1 M X (none, u') 7 112 [(0, .ref (X.2.1 o0)), (2, .int x2)] [] u := by
  intro n
  induction n with
  | zero => intro x2 u hf; cases hf
  | succ n ih =>
    intro x2 u hf
    rw [f_X7_laysNets_112] at hf
    refine v_iload_n K 1 rfl rfl dX7_laysNets_112 ?_
    refine v_aload_n K 0 rfl rfl dX7_laysNets_113 ?_
    refine gf_7_8 K h0 fl_X7_118 dX7_laysNets_114 ?_
    refine v_icmp_ge K 166 (by decide) dX7_laysNets_117 (fun c1 => ?_) (fun c1 => ?_)
    · have hf := ite_t c1 hf
      obtain ⟨rfl, rfl⟩ := pair_of hf
      exact v_vret K dX7_laysNets_166
    · have hf := ite_f c1 hf
      refine v_aload_n K 0 rfl rfl dX7_laysNets_120 ?_
      refine gf_7_7 K h0 fl_X7_25 dX7_laysNets_121 ?_
      refine v_iload_n K 1 rfl rfl dX7_laysNets_124 ?_
      obtain ⟨g2, hf⟩ := chk_of hf
      refine v_iald K (am1_12 (ak_7_7 h0)) (.inr (ak_7_7 h0)) g2 dX7_laysNets_125 ?_
      refine v_sipush K (v := 1000) (by decide) dX7_laysNets_126 ?_
      refine v_idiv K (by decide) dX7_laysNets_129 ?_
      refine v_iconst K (v := 2) (by decide) dX7_laysNets_130 ?_
      refine v_icmp_ne K 160 (by decide) dX7_laysNets_131 (fun c3 => ?_) (fun c3 => ?_)
      · have hf := ite_f c3 hf
        exact t_X7_laysNets_160 h0 K ih hf
      · have hf := ite_t c3 hf
        refine v_aload_n K 0 rfl rfl dX7_laysNets_134 ?_
        refine gf_7_9 K h0 fl_X7_28 dX7_laysNets_135 ?_
        refine v_aload_n K 0 rfl rfl dX7_laysNets_138 ?_
        refine gf_7_7 K h0 fl_X7_25 dX7_laysNets_139 ?_
        refine v_iload_n K 1 rfl rfl dX7_laysNets_142 ?_
        obtain ⟨g4, hf⟩ := chk_of hf
        refine v_iald K (am1_12 (ak_7_7 h0)) (.inr (ak_7_7 h0)) g4 dX7_laysNets_143 ?_
        refine v_bipush K (v := 10) (by decide) dX7_laysNets_144 ?_
        refine v_idiv K (by decide) dX7_laysNets_146 ?_
        refine v_bipush K (v := 10) (by decide) dX7_laysNets_147 ?_
        refine v_irem K (by decide) dX7_laysNets_149 ?_
        refine v_aload_n K 0 rfl rfl dX7_laysNets_150 ?_
        refine gf_7_7 K h0 fl_X7_25 dX7_laysNets_151 ?_
        refine v_iload_n K 1 rfl rfl dX7_laysNets_154 ?_
        obtain ⟨g5, hf⟩ := chk_of hf
        refine v_iald K (am1_12 (ak_7_7 h0)) (.inr (ak_7_7 h0)) g5 dX7_laysNets_155 ?_
        refine v_bipush K (v := 10) (by decide) dX7_laysNets_156 ?_
        refine v_irem K (by decide) dX7_laysNets_158 ?_
        obtain ⟨g6, hf⟩ := chk_of hf
        refine v_iast K (am1_12 (ak_7_9 h0)) (.inr (ak_7_9 h0)) g6 dX7_laysNets_159 ?_
        refine v_st (fun u7 eu7 => ?_)
        have hf := lte_of eu7 hf
        exact t_X7_laysNets_160 h0 K ih hf
set_option maxRecDepth 20000 in
theorem t_X7_laysNets_104 {M : Mx} {X : Wx} {N : Nat} {o0 : Nat} {p1 : Int32} (h0 : akd o0 = 7) {r : Unit} {u' : ASt} (K : OkM 1 M X cX7_laysNets 7 RX7 rm_X7_laysNets none) {k7 : Int32 → ASt → Option (Unit × ASt)} (hk7 : ∀ (x2 : Int32) (u : ASt), k7 x2 u = some (r, u') → V 1 M X (none, u') 7 7 [(0, .ref (X.2.1 o0)), (2, .int x2)] [] u) {x2 : Int32} {u : ASt} (hf : f_X7_laysNets_104 N o0 p1 k7 x2 u = some (r, u')) : V 1 M X (none, u') 7 104 [(0, .ref (X.2.1 o0)), (2, .int x2)] [] u := by
  unfold f_X7_laysNets_104 at hf
  refine v_iinc K 1 (v := x2 + 1) (ls' := [(2, .int (x2 + 1)), (0, .ref (X.2.1 o0))]) rfl rfl (by decide) rfl dX7_laysNets_104 ?_
  refine v_goto K 7 (by decide) dX7_laysNets_107 ?_
  refine v_sub [1, 0] rfl ?_
  exact hk7 (x2 + 1) u hf
set_option maxRecDepth 20000 in
theorem t_X7_laysNets_84 {M : Mx} {X : Wx} {N : Nat} {o0 : Nat} {p1 : Int32} (h0 : akd o0 = 7) {r : Unit} {u' : ASt} (K : OkM 1 M X cX7_laysNets 7 RX7 rm_X7_laysNets none) {k7 : Int32 → ASt → Option (Unit × ASt)} (hk7 : ∀ (x2 : Int32) (u : ASt), k7 x2 u = some (r, u') → V 1 M X (none, u') 7 7 [(0, .ref (X.2.1 o0)), (2, .int x2)] [] u) {x2 : Int32} {x4 : Int32} {x5 : Int32} {y0 : Int32} {u : ASt} (hf : f_X7_laysNets_84 N o0 p1 k7 x2 x4 x5 y0 u = some (r, u')) : V 1 M X (none, u') 7 84 [(0, .ref (X.2.1 o0)), (2, .int x2), (4, .int x4), (5, .int x5)] [.int y0] u := by
  unfold f_X7_laysNets_84 at hf
  refine v_istore K (ls' := [(6, .int y0), (0, .ref (X.2.1 o0)), (2, .int x2), (4, .int x4), (5, .int x5)]) (by decide) rfl dX7_laysNets_84 ?_
  refine v_aload_n K 1 rfl rfl dX7_laysNets_86 ?_
  refine gf_7_9 K h0 fl_X7_28 dX7_laysNets_87 ?_
  refine v_iload K 3 rfl dX7_laysNets_90 ?_
  refine v_iload K 0 rfl dX7_laysNets_92 ?_
  obtain ⟨g8, hf⟩ := chk_of hf
  refine v_iast K (am1_12 (ak_7_9 h0)) (.inr (ak_7_9 h0)) g8 dX7_laysNets_94 ?_
  refine v_st (fun u9 eu9 => ?_)
  have hf := lte_of eu9 hf
  refine v_aload_n K 1 rfl rfl dX7_laysNets_95 ?_
  refine gf_7_9 K h0 fl_X7_28 dX7_laysNets_96 ?_
  refine v_iload K 4 rfl dX7_laysNets_99 ?_
  refine v_iload K 0 rfl dX7_laysNets_101 ?_
  obtain ⟨g10, hf⟩ := chk_of hf
  refine v_iast K (am1_12 (ak_7_9 h0)) (.inr (ak_7_9 h0)) g10 dX7_laysNets_103 ?_
  refine v_st (fun u11 eu11 => ?_)
  have hf := lte_of eu11 hf
  refine v_sub [1, 2] rfl ?_
  exact t_X7_laysNets_104 h0 K hk7 hf
set_option maxRecDepth 20000 in
theorem t_X7_laysNets_7 {M : Mx} {X : Wx} {N : Nat} {o0 : Nat} {p1 : Int32} (h0 : akd o0 = 7) {r : Unit} {u' : ASt} (K : OkM 1 M X cX7_laysNets 7 RX7 rm_X7_laysNets none) : ∀ (n : Nat) (x2 : Int32) (u : ASt), f_X7_laysNets_7 N o0 p1 n x2 u = some (r, u') → V 1 M X (none, u') 7 7 [(0, .ref (X.2.1 o0)), (2, .int x2)] [] u := by
  intro n
  induction n with
  | zero => intro x2 u hf; cases hf
  | succ n ih =>
    intro x2 u hf
    rw [f_X7_laysNets_7] at hf
    refine v_iload_n K 1 rfl rfl dX7_laysNets_7 ?_
    refine v_aload_n K 0 rfl rfl dX7_laysNets_8 ?_
    refine gf_7_8 K h0 fl_X7_118 dX7_laysNets_9 ?_
    refine v_icmp_ge K 110 (by decide) dX7_laysNets_12 (fun c12 => ?_) (fun c12 => ?_)
    · have hf := ite_t c12 hf
      refine v_iconst K (v := 0) (by decide) dX7_laysNets_110 ?_
      refine v_istore_n K (ls' := [(2, .int 0), (0, .ref (X.2.1 o0))]) rfl (by decide) rfl dX7_laysNets_111 ?_
      refine v_sub [1, 0] rfl ?_
      exact t_X7_laysNets_112 h0 K N 0 u hf
    · have hf := ite_f c12 hf
      refine v_aload_n K 0 rfl rfl dX7_laysNets_15 ?_
      refine gf_7_7 K h0 fl_X7_25 dX7_laysNets_16 ?_
      refine v_iload_n K 1 rfl rfl dX7_laysNets_19 ?_
      obtain ⟨g13, hf⟩ := chk_of hf
      refine v_iald K (am1_12 (ak_7_7 h0)) (.inr (ak_7_7 h0)) g13 dX7_laysNets_20 ?_
      refine v_topi (fun z14 ez14 => ?_)
      have hf := lte_of ez14 hf
      refine v_istore_n K (ls' := [(3, .int z14), (0, .ref (X.2.1 o0)), (2, .int x2)]) rfl (by decide) rfl dX7_laysNets_21 ?_
      refine v_iload_n K 0 rfl rfl dX7_laysNets_22 ?_
      refine v_sipush K (v := 3000) (by decide) dX7_laysNets_23 ?_
      refine v_icmp_lt K 104 (by decide) dX7_laysNets_26 (fun c15 => ?_) (fun c15 => ?_)
      · have hf := ite_t c15 hf
        refine v_sub [1, 2] rfl ?_
        exact t_X7_laysNets_104 h0 K ih hf
      · have hf := ite_f c15 hf
        refine v_iload_n K 0 rfl rfl dX7_laysNets_29 ?_
        refine v_bipush K (v := 10) (by decide) dX7_laysNets_30 ?_
        refine v_idiv K (by decide) dX7_laysNets_32 ?_
        refine v_bipush K (v := 10) (by decide) dX7_laysNets_33 ?_
        refine v_irem K (by decide) dX7_laysNets_35 ?_
        refine v_topi (fun z16 ez16 => ?_)
        have hf := lte_of ez16 hf
        refine v_istore K (ls' := [(4, .int z16), (3, .int z14), (0, .ref (X.2.1 o0)), (2, .int x2)]) (by decide) rfl dX7_laysNets_36 ?_
        refine v_iload_n K 1 rfl rfl dX7_laysNets_38 ?_
        refine v_bipush K (v := 10) (by decide) dX7_laysNets_39 ?_
        refine v_irem K (by decide) dX7_laysNets_41 ?_
        refine v_topi (fun z17 ez17 => ?_)
        have hf := lte_of ez17 hf
        refine v_istore K (ls' := [(5, .int z17), (4, .int z16), (3, .int z14), (0, .ref (X.2.1 o0)), (2, .int x2)]) (by decide) rfl dX7_laysNets_42 ?_
        refine v_iload_n K 2 rfl rfl dX7_laysNets_44 ?_
        refine v_sipush K (v := 4000) (by decide) dX7_laysNets_45 ?_
        refine v_icmp_ge K 69 (by decide) dX7_laysNets_48 (fun c18 => ?_) (fun c18 => ?_)
        · have hf := ite_t c18 hf
          refine v_aload_n K 3 rfl rfl dX7_laysNets_69 ?_
          refine gf_7_9 K h0 fl_X7_28 dX7_laysNets_70 ?_
          refine v_iload K 1 rfl dX7_laysNets_73 ?_
          obtain ⟨g19, hf⟩ := chk_of hf
          refine v_iald K (am1_12 (ak_7_9 h0)) (.inr (ak_7_9 h0)) g19 dX7_laysNets_75 ?_
          refine v_aload_n K 3 rfl rfl dX7_laysNets_76 ?_
          refine gf_7_9 K h0 fl_X7_28 dX7_laysNets_77 ?_
          refine v_iload K 0 rfl dX7_laysNets_80 ?_
          obtain ⟨g20, hf⟩ := chk_of hf
          refine v_iald K (am1_12 (ak_7_9 h0)) (.inr (ak_7_9 h0)) g20 dX7_laysNets_82 ?_
          refine v_ior K dX7_laysNets_83 ?_
          refine v_sub [3, 4, 1, 0] rfl ?_
          exact t_X7_laysNets_84 h0 K ih hf
        · have hf := ite_f c18 hf
          refine v_aload_n K 3 rfl rfl dX7_laysNets_51 ?_
          refine gf_7_9 K h0 fl_X7_28 dX7_laysNets_52 ?_
          refine v_iload K 1 rfl dX7_laysNets_55 ?_
          obtain ⟨g21, hf⟩ := chk_of hf
          refine v_iald K (am1_12 (ak_7_9 h0)) (.inr (ak_7_9 h0)) g21 dX7_laysNets_57 ?_
          refine v_aload_n K 3 rfl rfl dX7_laysNets_58 ?_
          refine gf_7_9 K h0 fl_X7_28 dX7_laysNets_59 ?_
          refine v_iload K 0 rfl dX7_laysNets_62 ?_
          obtain ⟨g22, hf⟩ := chk_of hf
          refine v_iald K (am1_12 (ak_7_9 h0)) (.inr (ak_7_9 h0)) g22 dX7_laysNets_64 ?_
          refine v_iand K dX7_laysNets_65 ?_
          refine v_goto K 84 (by decide) dX7_laysNets_66 ?_
          refine v_sub [3, 4, 1, 0] rfl ?_
          exact t_X7_laysNets_84 h0 K ih hf
set_option maxRecDepth 20000 in
theorem c_X7_laysNets {X : Wx} {N : Nat} {o0 : Nat} {p1 : Int32} (h0 : akd o0 = 7) {u u' : ASt} {r : Unit} (hf : f_X7_laysNets N o0 p1 u = some (r, u')) (l : Launch) : Met l yX7_laysNets (ws_ yX7_laysNets cX7_laysNets 7 none) rm_X7_laysNets (Pg 1 X u [.ref (X.2.1 o0), .int p1]) (Qg 1 X (none) u') 0 0 (Aw 1 X) := by
  refine v_met (res := (none, u')) (by decide) (Nat.le_of_ble_eq_true rfl) (fun M K => ?_)
  have K : OkM 1 M X cX7_laysNets 7 RX7 rm_X7_laysNets none := K
  show V 1 M X (none, u') 7 0 [(0, .ref (X.2.1 o0)), (1, .int p1)] [] u
  unfold f_X7_laysNets at hf
  refine v_aload_n K 0 rfl rfl dX7_laysNets_0 ?_
  refine v_iload_n K 1 rfl rfl dX7_laysNets_1 ?_
  obtain ⟨r24, u23, e25, hf⟩ := bnd_of hf
  refine v_callVv K (c_X7_laysDrivers h0 e25) cv_X7_laysDrivers ml_X7_154 (am1_7 h0) h0 kdX7 ⟨rfl, rfl, Nat.le_of_ble_eq_true rfl, Nat.le_of_ble_eq_true rfl⟩ rfl rfl (Nat.le_of_ble_eq_true rfl) dX7_laysNets_2 ?_
  refine v_iconst K (v := 0) (by decide) dX7_laysNets_5 ?_
  refine v_istore_n K (ls' := [(2, .int 0), (0, .ref (X.2.1 o0)), (1, .int p1)]) rfl (by decide) rfl dX7_laysNets_6 ?_
  refine v_sub [1, 0] rfl ?_
  exact t_X7_laysNets_7 h0 K N 0 u23 hf
abbrev rm_X7_sees : Room := { frames := 3, cells := 0, slots := 0, locals := 65 }
set_option maxRecDepth 20000 in
theorem c_X7_sees {X : Wx} {N : Nat} {o0 : Nat} {p1 : Int32} {p2 : Int32} (h0 : akd o0 = 7) {u u' : ASt} {r : Int32} (hf : f_X7_sees N o0 p1 p2 u = some (r, u')) (l : Launch) : Met l yX7_sees (ws_ yX7_sees cX7_sees 3 (some .int)) rm_X7_sees (Pg 1 X u [.ref (X.2.1 o0), .int p1, .int p2]) (Qg 1 X (some (.int r)) u') 0 0 (Aw 1 X) := by
  refine v_met (res := (some (.int r), u')) (by decide) (Nat.le_of_ble_eq_true rfl) (fun M K => ?_)
  have K : OkM 1 M X cX7_sees 3 RX7 rm_X7_sees (some .int) := K
  show V 1 M X (some (.int r), u') 3 0 [(0, .ref (X.2.1 o0)), (1, .int p1), (2, .int p2)] [] u
  unfold f_X7_sees at hf
  refine v_aload_n K 0 rfl rfl dX7_sees_0 ?_
  refine v_iload_n K 1 rfl rfl dX7_sees_1 ?_
  refine v_iload_n K 2 rfl rfl dX7_sees_2 ?_
  obtain ⟨r2, u1, e3, hf⟩ := bnd_of hf
  refine v_callVi K (c_X7_isOpen h0 e3) cv_X7_isOpen ml_X7_139 (am1_7 h0) h0 kdX7 ⟨rfl, rfl, Nat.le_of_ble_eq_true rfl, Nat.le_of_ble_eq_true rfl⟩ rfl rfl (Nat.le_of_ble_eq_true rfl) dX7_sees_3 ?_
  refine v_if_eq K 13 (by decide) dX7_sees_6 (fun c4 => ?_) (fun c4 => ?_)
  · have hf := ite_t c4 hf
    refine v_aload_n K 0 rfl rfl dX7_sees_13 ?_
    refine gf_7_9 K h0 fl_X7_28 dX7_sees_14 ?_
    refine v_aload_n K 0 rfl rfl dX7_sees_17 ?_
    refine v_iload_n K 1 rfl rfl dX7_sees_18 ?_
    refine v_iload_n K 2 rfl rfl dX7_sees_19 ?_
    obtain ⟨r6, u5, e7, hf⟩ := bnd_of hf
    refine v_callVi K (c_X7_netOf h0 e7) cv_X7_netOf ml_X7_127 (am1_7 h0) h0 kdX7 ⟨rfl, rfl, Nat.le_of_ble_eq_true rfl, Nat.le_of_ble_eq_true rfl⟩ rfl rfl (Nat.le_of_ble_eq_true rfl) dX7_sees_20 ?_
    obtain ⟨g8, hf⟩ := chk_of hf
    refine v_iald K (am1_12 (ak_7_9 h0)) (.inr (ak_7_9 h0)) g8 dX7_sees_23 ?_
    obtain ⟨rfl, rfl⟩ := pair_of hf
    exact v_iret K dX7_sees_24
  · have hf := ite_f c4 hf
    refine v_iconst K (v := 1) (by decide) dX7_sees_9 ?_
    refine v_goto K 24 (by decide) dX7_sees_10 ?_
    obtain ⟨rfl, rfl⟩ := pair_of hf
    exact v_iret K dX7_sees_24
abbrev rm_X7_laysNow : Room := { frames := 9, cells := 0, slots := 0, locals := 208 }
set_option maxRecDepth 20000 in
theorem c_X7_laysNow {X : Wx} {N : Nat} {o0 : Nat} (h0 : akd o0 = 7) {u u' : ASt} {r : Unit} (hf : f_X7_laysNow N o0 u = some (r, u')) (l : Launch) : Met l yX7_laysNow (ws_ yX7_laysNow cX7_laysNow 1 none) rm_X7_laysNow (Pg 1 X u [.ref (X.2.1 o0)]) (Qg 1 X (none) u') 0 0 (Aw 1 X) := by
  refine v_met (res := (none, u')) (by decide) (Nat.le_of_ble_eq_true rfl) (fun M K => ?_)
  have K : OkM 1 M X cX7_laysNow 1 RX7 rm_X7_laysNow none := K
  show V 1 M X (none, u') 1 0 [(0, .ref (X.2.1 o0))] [] u
  unfold f_X7_laysNow at hf
  refine v_aload_n K 0 rfl rfl dX7_laysNow_0 ?_
  obtain ⟨r2, u1, e3, hf⟩ := bnd_of hf
  refine v_callVv K (c_X7_usesAll h0 e3) cv_X7_usesAll ml_X7_158 (am1_7 h0) h0 kdX7 ⟨rfl, rfl, Nat.le_of_ble_eq_true rfl, Nat.le_of_ble_eq_true rfl⟩ rfl rfl (Nat.le_of_ble_eq_true rfl) dX7_laysNow_1 ?_
  refine v_aload_n K 0 rfl rfl dX7_laysNow_4 ?_
  refine v_iconst K (v := (-1)) (by decide) dX7_laysNow_5 ?_
  obtain ⟨r5, u4, e6, hf⟩ := bnd_of hf
  refine v_callVv K (c_X7_laysNets h0 e6) cv_X7_laysNets ml_X7_161 (am1_7 h0) h0 kdX7 ⟨rfl, rfl, Nat.le_of_ble_eq_true rfl, Nat.le_of_ble_eq_true rfl⟩ rfl rfl (Nat.le_of_ble_eq_true rfl) dX7_laysNow_6 ?_
  obtain ⟨rfl, rfl⟩ := pair_of hf
  exact v_vret K dX7_laysNow_9
abbrev rm_X7_onesNow : Room := { frames := 10, cells := 0, slots := 0, locals := 228 }
set_option maxRecDepth 20000 in
theorem t_X7_onesNow_8 {M : Mx} {X : Wx} {N : Nat} {o0 : Nat} (h0 : akd o0 = 7) {r : Int32} {u' : ASt} (K : OkM 1 M X cX7_onesNow 3 RX7 rm_X7_onesNow (some .int)) : ∀ (n : Nat) (x1 : Int32) (x2 : Int32) (u : ASt), f_X7_onesNow_8 N o0 n x1 x2 u = some (r, u') → V 1 M X (some (.int r), u') 3 8 [(0, .ref (X.2.1 o0)), (1, .int x1), (2, .int x2)] [] u := by
  intro n
  induction n with
  | zero => intro x1 x2 u hf; cases hf
  | succ n ih =>
    intro x1 x2 u hf
    rw [f_X7_onesNow_8] at hf
    refine v_iload_n K 2 rfl rfl dX7_onesNow_8 ?_
    refine v_bipush K (v := 8) (by decide) dX7_onesNow_9 ?_
    refine v_icmp_ge K 31 (by decide) dX7_onesNow_11 (fun c1 => ?_) (fun c1 => ?_)
    · have hf := ite_t c1 hf
      refine v_iload_n K 1 rfl rfl dX7_onesNow_31 ?_
      obtain ⟨rfl, rfl⟩ := pair_of hf
      exact v_iret K dX7_onesNow_32
    · have hf := ite_f c1 hf
      refine v_iload_n K 1 rfl rfl dX7_onesNow_14 ?_
      refine v_aload_n K 0 rfl rfl dX7_onesNow_15 ?_
      refine gf_7_9 K h0 fl_X7_28 dX7_onesNow_16 ?_
      refine v_iload_n K 2 rfl rfl dX7_onesNow_19 ?_
      obtain ⟨g2, hf⟩ := chk_of hf
      refine v_iald K (am1_12 (ak_7_9 h0)) (.inr (ak_7_9 h0)) g2 dX7_onesNow_20 ?_
      refine v_iload_n K 2 rfl rfl dX7_onesNow_21 ?_
      refine v_ishl K dX7_onesNow_22 ?_
      refine v_ior K dX7_onesNow_23 ?_
      refine v_topi (fun z3 ez3 => ?_)
      have hf := lte_of ez3 hf
      refine v_istore_n K (ls' := [(1, .int z3), (0, .ref (X.2.1 o0)), (2, .int x2)]) rfl (by decide) rfl dX7_onesNow_24 ?_
      refine v_iinc K 2 (v := x2 + 1) (ls' := [(2, .int (x2 + 1)), (1, .int z3), (0, .ref (X.2.1 o0))]) rfl rfl (by decide) rfl dX7_onesNow_25 ?_
      refine v_goto K 8 (by decide) dX7_onesNow_28 ?_
      refine v_sub [2, 1, 0] rfl ?_
      exact ih z3 (x2 + 1) u hf
set_option maxRecDepth 20000 in
theorem c_X7_onesNow {X : Wx} {N : Nat} {o0 : Nat} (h0 : akd o0 = 7) {u u' : ASt} {r : Int32} (hf : f_X7_onesNow N o0 u = some (r, u')) (l : Launch) : Met l yX7_onesNow (ws_ yX7_onesNow cX7_onesNow 3 (some .int)) rm_X7_onesNow (Pg 1 X u [.ref (X.2.1 o0)]) (Qg 1 X (some (.int r)) u') 0 0 (Aw 1 X) := by
  refine v_met (res := (some (.int r), u')) (by decide) (Nat.le_of_ble_eq_true rfl) (fun M K => ?_)
  have K : OkM 1 M X cX7_onesNow 3 RX7 rm_X7_onesNow (some .int) := K
  show V 1 M X (some (.int r), u') 3 0 [(0, .ref (X.2.1 o0))] [] u
  unfold f_X7_onesNow at hf
  refine v_aload_n K 0 rfl rfl dX7_onesNow_0 ?_
  obtain ⟨r5, u4, e6, hf⟩ := bnd_of hf
  refine v_callVv K (c_X7_laysNow h0 e6) cv_X7_laysNow ml_X7_164 (am1_7 h0) h0 kdX7 ⟨rfl, rfl, Nat.le_of_ble_eq_true rfl, Nat.le_of_ble_eq_true rfl⟩ rfl rfl (Nat.le_of_ble_eq_true rfl) dX7_onesNow_1 ?_
  refine v_iconst K (v := 0) (by decide) dX7_onesNow_4 ?_
  refine v_istore_n K (ls' := [(1, .int 0), (0, .ref (X.2.1 o0))]) rfl (by decide) rfl dX7_onesNow_5 ?_
  refine v_iconst K (v := 0) (by decide) dX7_onesNow_6 ?_
  refine v_istore_n K (ls' := [(2, .int 0), (1, .int 0), (0, .ref (X.2.1 o0))]) rfl (by decide) rfl dX7_onesNow_7 ?_
  refine v_sub [2, 1, 0] rfl ?_
  exact t_X7_onesNow_8 h0 K N 0 0 u4 hf
abbrev rm_X7_kindOf : Room := { frames := 2, cells := 0, slots := 0, locals := 43 }
set_option maxRecDepth 20000 in
theorem t_X7_kindOf_48 {M : Mx} {X : Wx} {N : Nat} {o0 : Nat} {p1 : Int32} (h0 : akd o0 = 7) {r : Int32} {u' : ASt} (K : OkM 1 M X cX7_kindOf 3 RX7 rm_X7_kindOf (some .int)) {u : ASt} (hf : f_X7_kindOf_48 N o0 p1  u = some (r, u')) : V 1 M X (some (.int r), u') 3 48 [] [] u := by
  unfold f_X7_kindOf_48 at hf
  refine v_iconst K (v := 3) (by decide) dX7_kindOf_48 ?_
  obtain ⟨rfl, rfl⟩ := pair_of hf
  exact v_iret K dX7_kindOf_49
set_option maxRecDepth 20000 in
theorem c_X7_kindOf {X : Wx} {N : Nat} {o0 : Nat} {p1 : Int32} (h0 : akd o0 = 7) {u u' : ASt} {r : Int32} (hf : f_X7_kindOf N o0 p1 u = some (r, u')) (l : Launch) : Met l yX7_kindOf (ws_ yX7_kindOf cX7_kindOf 3 (some .int)) rm_X7_kindOf (Pg 1 X u [.ref (X.2.1 o0), .int p1]) (Qg 1 X (some (.int r)) u') 0 0 (Aw 1 X) := by
  refine v_met (res := (some (.int r), u')) (by decide) (Nat.le_of_ble_eq_true rfl) (fun M K => ?_)
  have K : OkM 1 M X cX7_kindOf 3 RX7 rm_X7_kindOf (some .int) := K
  show V 1 M X (some (.int r), u') 3 0 [(0, .ref (X.2.1 o0)), (1, .int p1)] [] u
  unfold f_X7_kindOf at hf
  refine v_aload_n K 0 rfl rfl dX7_kindOf_0 ?_
  refine v_iload_n K 1 rfl rfl dX7_kindOf_1 ?_
  refine v_iconst K (v := 3) (by decide) dX7_kindOf_2 ?_
  obtain ⟨r2, u1, e3, hf⟩ := bnd_of hf
  refine v_callVi K (c_X7_get h0 e3) cv_X7_get ml_X7_55 (am1_7 h0) h0 kdX7 ⟨rfl, rfl, Nat.le_of_ble_eq_true rfl, Nat.le_of_ble_eq_true rfl⟩ rfl rfl (Nat.le_of_ble_eq_true rfl) dX7_kindOf_3 ?_
  refine v_istore_n K (ls' := [(2, .int r2), (0, .ref (X.2.1 o0)), (1, .int p1)]) rfl (by decide) rfl dX7_kindOf_6 ?_
  refine v_iload_n K 0 rfl rfl dX7_kindOf_7 ?_
  refine v_iconst K (v := 2) (by decide) dX7_kindOf_8 ?_
  refine v_icmp_ge K 27 (by decide) dX7_kindOf_9 (fun c4 => ?_) (fun c4 => ?_)
  · have hf := ite_t c4 hf
    refine v_iload_n K 0 rfl rfl dX7_kindOf_27 ?_
    refine v_iconst K (v := 2) (by decide) dX7_kindOf_28 ?_
    refine v_icmp_ne K 48 (by decide) dX7_kindOf_29 (fun c5 => ?_) (fun c5 => ?_)
    · have hf := ite_f c5 hf
      refine v_sub [] rfl ?_
      exact t_X7_kindOf_48 h0 K hf
    · have hf := ite_t c5 hf
      refine v_aload_n K 1 rfl rfl dX7_kindOf_32 ?_
      refine v_iload_n K 2 rfl rfl dX7_kindOf_33 ?_
      refine v_iconst K (v := 1) (by decide) dX7_kindOf_34 ?_
      obtain ⟨r7, u6, e8, hf⟩ := bnd_of hf
      refine v_callVi K (c_X7_get h0 e8) cv_X7_get ml_X7_55 (am1_7 h0) h0 kdX7 ⟨rfl, rfl, Nat.le_of_ble_eq_true rfl, Nat.le_of_ble_eq_true rfl⟩ rfl rfl (Nat.le_of_ble_eq_true rfl) dX7_kindOf_35 ?_
      refine v_sipush K (v := 256) (by decide) dX7_kindOf_38 ?_
      refine v_icmp_ge K 48 (by decide) dX7_kindOf_41 (fun c9 => ?_) (fun c9 => ?_)
      · have hf := ite_t c9 hf
        refine v_sub [] rfl ?_
        exact t_X7_kindOf_48 h0 K hf
      · have hf := ite_f c9 hf
        refine v_iconst K (v := 2) (by decide) dX7_kindOf_44 ?_
        refine v_goto K 49 (by decide) dX7_kindOf_45 ?_
        obtain ⟨rfl, rfl⟩ := pair_of hf
        exact v_iret K dX7_kindOf_49
  · have hf := ite_f c4 hf
    refine v_aload_n K 1 rfl rfl dX7_kindOf_12 ?_
    refine v_iload_n K 2 rfl rfl dX7_kindOf_13 ?_
    refine v_iconst K (v := 2) (by decide) dX7_kindOf_14 ?_
    obtain ⟨r11, u10, e12, hf⟩ := bnd_of hf
    refine v_callVi K (c_X7_get h0 e12) cv_X7_get ml_X7_55 (am1_7 h0) h0 kdX7 ⟨rfl, rfl, Nat.le_of_ble_eq_true rfl, Nat.le_of_ble_eq_true rfl⟩ rfl rfl (Nat.le_of_ble_eq_true rfl) dX7_kindOf_15 ?_
    refine v_if_le K 25 (by decide) dX7_kindOf_18 (fun c13 => ?_) (fun c13 => ?_)
    · have hf := ite_t c13 hf
      refine v_iconst K (v := 3) (by decide) dX7_kindOf_25 ?_
      obtain ⟨rfl, rfl⟩ := pair_of hf
      exact v_iret K dX7_kindOf_26
    · have hf := ite_f c13 hf
      refine v_iload_n K 0 rfl rfl dX7_kindOf_21 ?_
      refine v_goto K 26 (by decide) dX7_kindOf_22 ?_
      obtain ⟨rfl, rfl⟩ := pair_of hf
      exact v_iret K dX7_kindOf_26
abbrev rm_X7_longOf : Room := { frames := 3, cells := 0, slots := 0, locals := 65 }
set_option maxRecDepth 20000 in
theorem c_X7_longOf {X : Wx} {N : Nat} {o0 : Nat} {p1 : Int32} (h0 : akd o0 = 7) {u u' : ASt} {r : Int32} (hf : f_X7_longOf N o0 p1 u = some (r, u')) (l : Launch) : Met l yX7_longOf (ws_ yX7_longOf cX7_longOf 3 (some .int)) rm_X7_longOf (Pg 1 X u [.ref (X.2.1 o0), .int p1]) (Qg 1 X (some (.int r)) u') 0 0 (Aw 1 X) := by
  refine v_met (res := (some (.int r), u')) (by decide) (Nat.le_of_ble_eq_true rfl) (fun M K => ?_)
  have K : OkM 1 M X cX7_longOf 3 RX7 rm_X7_longOf (some .int) := K
  show V 1 M X (some (.int r), u') 3 0 [(0, .ref (X.2.1 o0)), (1, .int p1)] [] u
  unfold f_X7_longOf at hf
  refine v_aload_n K 0 rfl rfl dX7_longOf_0 ?_
  refine v_iload_n K 1 rfl rfl dX7_longOf_1 ?_
  obtain ⟨r2, u1, e3, hf⟩ := bnd_of hf
  refine v_callVi K (c_X7_kindOf h0 e3) cv_X7_kindOf ml_X7_167 (am1_7 h0) h0 kdX7 ⟨rfl, rfl, Nat.le_of_ble_eq_true rfl, Nat.le_of_ble_eq_true rfl⟩ rfl rfl (Nat.le_of_ble_eq_true rfl) dX7_longOf_2 ?_
  refine v_istore_n K (ls' := [(2, .int r2), (0, .ref (X.2.1 o0)), (1, .int p1)]) rfl (by decide) rfl dX7_longOf_5 ?_
  refine v_iload_n K 0 rfl rfl dX7_longOf_6 ?_
  refine v_iconst K (v := 2) (by decide) dX7_longOf_7 ?_
  refine v_icmp_ge K 20 (by decide) dX7_longOf_8 (fun c4 => ?_) (fun c4 => ?_)
  · have hf := ite_t c4 hf
    refine v_iload_n K 0 rfl rfl dX7_longOf_20 ?_
    refine v_iconst K (v := 2) (by decide) dX7_longOf_21 ?_
    refine v_icmp_ne K 30 (by decide) dX7_longOf_22 (fun c5 => ?_) (fun c5 => ?_)
    · have hf := ite_f c5 hf
      refine v_iconst K (v := 1) (by decide) dX7_longOf_30 ?_
      obtain ⟨rfl, rfl⟩ := pair_of hf
      exact v_iret K dX7_longOf_31
    · have hf := ite_t c5 hf
      refine v_bipush K (v := 8) (by decide) dX7_longOf_25 ?_
      refine v_goto K 31 (by decide) dX7_longOf_27 ?_
      obtain ⟨rfl, rfl⟩ := pair_of hf
      exact v_iret K dX7_longOf_31
  · have hf := ite_f c4 hf
    refine v_aload_n K 1 rfl rfl dX7_longOf_11 ?_
    refine v_iload_n K 2 rfl rfl dX7_longOf_12 ?_
    refine v_iconst K (v := 2) (by decide) dX7_longOf_13 ?_
    obtain ⟨r7, u6, e8, hf⟩ := bnd_of hf
    refine v_callVi K (c_X7_get h0 e8) cv_X7_get ml_X7_55 (am1_7 h0) h0 kdX7 ⟨rfl, rfl, Nat.le_of_ble_eq_true rfl, Nat.le_of_ble_eq_true rfl⟩ rfl rfl (Nat.le_of_ble_eq_true rfl) dX7_longOf_14 ?_
    refine v_goto K 31 (by decide) dX7_longOf_17 ?_
    obtain ⟨rfl, rfl⟩ := pair_of hf
    exact v_iret K dX7_longOf_31
abbrev rm_X7_captured : Room := { frames := 4, cells := 0, slots := 0, locals := 87 }
set_option maxRecDepth 20000 in
theorem t_X7_captured_76 {M : Mx} {X : Wx} {N : Nat} {o0 : Nat} {p1 : Int32} (h0 : akd o0 = 7) {r : Int32} {u' : ASt} (K : OkM 1 M X cX7_captured 5 RX7 rm_X7_captured (some .int)) {k32 : Int32 → Int32 → ASt → Option (Int32 × ASt)} (hk32 : ∀ (x3 : Int32) (x4 : Int32) (u : ASt), k32 x3 x4 u = some (r, u') → V 1 M X (some (.int r), u') 5 32 [(0, .ref (X.2.1 o0)), (1, .int p1), (3, .int x3), (4, .int x4)] [] u) {x4 : Int32} {y0 : Int32} {y1 : Int32} {u : ASt} (hf : f_X7_captured_76 N o0 p1 k32 x4 y0 y1 u = some (r, u')) : V 1 M X (some (.int r), u') 5 76 [(0, .ref (X.2.1 o0)), (1, .int p1), (4, .int x4)] [.int y1, .int y0] u := by
  unfold f_X7_captured_76 at hf
  refine v_iload K 2 rfl dX7_captured_76 ?_
  refine v_ishl K dX7_captured_78 ?_
  refine v_ior K dX7_captured_79 ?_
  refine v_topi (fun z1 ez1 => ?_)
  have hf := lte_of ez1 hf
  refine v_istore_n K (ls' := [(3, .int z1), (0, .ref (X.2.1 o0)), (1, .int p1), (4, .int x4)]) rfl (by decide) rfl dX7_captured_80 ?_
  refine v_iinc K 3 (v := x4 + 1) (ls' := [(4, .int (x4 + 1)), (3, .int z1), (0, .ref (X.2.1 o0)), (1, .int p1)]) rfl rfl (by decide) rfl dX7_captured_81 ?_
  refine v_goto K 32 (by decide) dX7_captured_84 ?_
  refine v_sub [2, 3, 1, 0] rfl ?_
  exact hk32 z1 (x4 + 1) u hf
set_option maxRecDepth 20000 in
theorem t_X7_captured_32 {M : Mx} {X : Wx} {N : Nat} {o0 : Nat} {p1 : Int32} (h0 : akd o0 = 7) {r : Int32} {u' : ASt} (K : OkM 1 M X cX7_captured 5 RX7 rm_X7_captured (some .int)) : ∀ (n : Nat) (x3 : Int32) (x4 : Int32) (u : ASt), f_X7_captured_32 N o0 p1 n x3 x4 u = some (r, u') → V 1 M X (some (.int r), u') 5 32 [(0, .ref (X.2.1 o0)), (1, .int p1), (3, .int x3), (4, .int x4)] [] u := by
  intro n
  induction n with
  | zero => intro x3 x4 u hf; cases hf
  | succ n ih =>
    intro x3 x4 u hf
    rw [f_X7_captured_32] at hf
    refine v_iload K 3 rfl dX7_captured_32 ?_
    refine v_aload_n K 0 rfl rfl dX7_captured_34 ?_
    refine v_iload_n K 1 rfl rfl dX7_captured_35 ?_
    refine v_iconst K (v := 2) (by decide) dX7_captured_36 ?_
    obtain ⟨r3, u2, e4, hf⟩ := bnd_of hf
    refine v_callVi K (c_X7_get h0 e4) cv_X7_get ml_X7_55 (am1_7 h0) h0 kdX7 ⟨rfl, rfl, Nat.le_of_ble_eq_true rfl, Nat.le_of_ble_eq_true rfl⟩ rfl rfl (Nat.le_of_ble_eq_true rfl) dX7_captured_37 ?_
    refine v_icmp_ge K 87 (by decide) dX7_captured_40 (fun c5 => ?_) (fun c5 => ?_)
    · have hf := ite_t c5 hf
      refine v_iload_n K 2 rfl rfl dX7_captured_87 ?_
      obtain ⟨rfl, rfl⟩ := pair_of hf
      exact v_iret K dX7_captured_88
    · have hf := ite_f c5 hf
      refine v_iload_n K 2 rfl rfl dX7_captured_43 ?_
      refine v_aload_n K 0 rfl rfl dX7_captured_44 ?_
      refine v_iload_n K 1 rfl rfl dX7_captured_45 ?_
      refine v_iload K 3 rfl dX7_captured_46 ?_
      obtain ⟨r7, u6, e8, hf⟩ := bnd_of hf
      refine v_callVi K (c_X7_isOut h0 e8) cv_X7_isOut ml_X7_124 (am1_7 h0) h0 kdX7 ⟨rfl, rfl, Nat.le_of_ble_eq_true rfl, Nat.le_of_ble_eq_true rfl⟩ rfl rfl (Nat.le_of_ble_eq_true rfl) dX7_captured_48 ?_
      refine v_if_eq K 69 (by decide) dX7_captured_51 (fun c9 => ?_) (fun c9 => ?_)
      · have hf := ite_t c9 hf
        refine v_aload_n K 0 rfl rfl dX7_captured_69 ?_
        refine v_iload_n K 1 rfl rfl dX7_captured_70 ?_
        refine v_iload K 3 rfl dX7_captured_71 ?_
        obtain ⟨r11, u10, e12, hf⟩ := bnd_of hf
        refine v_callVi K (c_X7_sees h0 e12) cv_X7_sees ml_X7_170 (am1_7 h0) h0 kdX7 ⟨rfl, rfl, Nat.le_of_ble_eq_true rfl, Nat.le_of_ble_eq_true rfl⟩ rfl rfl (Nat.le_of_ble_eq_true rfl) dX7_captured_73 ?_
        refine v_sub [0, 1, 3] rfl ?_
        exact t_X7_captured_76 h0 K ih hf
      · have hf := ite_f c9 hf
        refine v_aload_n K 0 rfl rfl dX7_captured_54 ?_
        refine v_iload_n K 1 rfl rfl dX7_captured_55 ?_
        refine v_bipush K (v := 6) (by decide) dX7_captured_56 ?_
        obtain ⟨r14, u13, e15, hf⟩ := bnd_of hf
        refine v_callVi K (c_X7_get h0 e15) cv_X7_get ml_X7_55 (am1_7 h0) h0 kdX7 ⟨rfl, rfl, Nat.le_of_ble_eq_true rfl, Nat.le_of_ble_eq_true rfl⟩ rfl rfl (Nat.le_of_ble_eq_true rfl) dX7_captured_58 ?_
        refine v_iload K 3 rfl dX7_captured_61 ?_
        refine v_ishr K dX7_captured_63 ?_
        refine v_iconst K (v := 1) (by decide) dX7_captured_64 ?_
        refine v_iand K dX7_captured_65 ?_
        refine v_goto K 76 (by decide) dX7_captured_66 ?_
        refine v_sub [0, 1, 3] rfl ?_
        exact t_X7_captured_76 h0 K ih hf
set_option maxRecDepth 20000 in
theorem c_X7_captured {X : Wx} {N : Nat} {o0 : Nat} {p1 : Int32} (h0 : akd o0 = 7) {u u' : ASt} {r : Int32} (hf : f_X7_captured N o0 p1 u = some (r, u')) (l : Launch) : Met l yX7_captured (ws_ yX7_captured cX7_captured 5 (some .int)) rm_X7_captured (Pg 1 X u [.ref (X.2.1 o0), .int p1]) (Qg 1 X (some (.int r)) u') 0 0 (Aw 1 X) := by
  refine v_met (res := (some (.int r), u')) (by decide) (Nat.le_of_ble_eq_true rfl) (fun M K => ?_)
  have K : OkM 1 M X cX7_captured 5 RX7 rm_X7_captured (some .int) := K
  show V 1 M X (some (.int r), u') 5 0 [(0, .ref (X.2.1 o0)), (1, .int p1)] [] u
  unfold f_X7_captured at hf
  refine v_aload_n K 0 rfl rfl dX7_captured_0 ?_
  refine v_iload_n K 1 rfl rfl dX7_captured_1 ?_
  obtain ⟨r17, u16, e18, hf⟩ := bnd_of hf
  refine v_callVi K (c_X7_kindOf h0 e18) cv_X7_kindOf ml_X7_167 (am1_7 h0) h0 kdX7 ⟨rfl, rfl, Nat.le_of_ble_eq_true rfl, Nat.le_of_ble_eq_true rfl⟩ rfl rfl (Nat.le_of_ble_eq_true rfl) dX7_captured_2 ?_
  refine v_istore_n K (ls' := [(2, .int r17), (0, .ref (X.2.1 o0)), (1, .int p1)]) rfl (by decide) rfl dX7_captured_5 ?_
  refine v_iload_n K 0 rfl rfl dX7_captured_6 ?_
  refine v_iconst K (v := 2) (by decide) dX7_captured_7 ?_
  refine v_icmp_lt K 27 (by decide) dX7_captured_8 (fun c19 => ?_) (fun c19 => ?_)
  · have hf := ite_t c19 hf
    refine v_iconst K (v := 0) (by decide) dX7_captured_27 ?_
    refine v_istore_n K (ls' := [(3, .int 0), (2, .int r17), (0, .ref (X.2.1 o0)), (1, .int p1)]) rfl (by decide) rfl dX7_captured_28 ?_
    refine v_iconst K (v := 0) (by decide) dX7_captured_29 ?_
    refine v_istore K (ls' := [(4, .int 0), (3, .int 0), (2, .int r17), (0, .ref (X.2.1 o0)), (1, .int p1)]) (by decide) rfl dX7_captured_30 ?_
    refine v_sub [3, 4, 1, 0] rfl ?_
    exact t_X7_captured_32 h0 K N 0 0 u16 hf
  · have hf := ite_f c19 hf
    refine v_iload_n K 0 rfl rfl dX7_captured_11 ?_
    refine v_iconst K (v := 2) (by decide) dX7_captured_12 ?_
    refine v_icmp_ne K 25 (by decide) dX7_captured_13 (fun c20 => ?_) (fun c20 => ?_)
    · have hf := ite_f c20 hf
      refine v_iconst K (v := 0) (by decide) dX7_captured_25 ?_
      obtain ⟨rfl, rfl⟩ := pair_of hf
      exact v_iret K dX7_captured_26
    · have hf := ite_t c20 hf
      refine v_aload_n K 1 rfl rfl dX7_captured_16 ?_
      refine v_iload_n K 2 rfl rfl dX7_captured_17 ?_
      refine v_iconst K (v := 1) (by decide) dX7_captured_18 ?_
      obtain ⟨r22, u21, e23, hf⟩ := bnd_of hf
      refine v_callVi K (c_X7_get h0 e23) cv_X7_get ml_X7_55 (am1_7 h0) h0 kdX7 ⟨rfl, rfl, Nat.le_of_ble_eq_true rfl, Nat.le_of_ble_eq_true rfl⟩ rfl rfl (Nat.le_of_ble_eq_true rfl) dX7_captured_19 ?_
      refine v_goto K 26 (by decide) dX7_captured_22 ?_
      obtain ⟨rfl, rfl⟩ := pair_of hf
      exact v_iret K dX7_captured_26
abbrev rm_X7_shifts : Room := { frames := 4, cells := 0, slots := 0, locals := 87 }
set_option maxRecDepth 20000 in
theorem t_X7_shifts_35 {M : Mx} {X : Wx} {N : Nat} {o0 : Nat} {p1 : Int32} {p2 : Int32} (h0 : akd o0 = 7) {r : Int32} {u' : ASt} (K : OkM 1 M X cX7_shifts 7 RX7 rm_X7_shifts (some .int)) {k5 : Int32 → Int32 → ASt → Option (Int32 × ASt)} (hk5 : ∀ (x3 : Int32) (x4 : Int32) (u : ASt), k5 x3 x4 u = some (r, u') → V 1 M X (some (.int r), u') 7 5 [(0, .ref (X.2.1 o0)), (1, .int p1), (3, .int x3), (4, .int x4)] [] u) {x3 : Int32} {x4 : Int32} {y0 : Int32} {u : ASt} (hf : f_X7_shifts_35 N o0 p1 p2 k5 x3 x4 y0 u = some (r, u')) : V 1 M X (some (.int r), u') 7 35 [(0, .ref (X.2.1 o0)), (1, .int p1), (3, .int x3), (4, .int x4)] [.int y0] u := by
  unfold f_X7_shifts_35 at hf
  refine v_istore K (ls' := [(5, .int y0), (0, .ref (X.2.1 o0)), (1, .int p1), (3, .int x3), (4, .int x4)]) (by decide) rfl dX7_shifts_35 ?_
  refine v_aload_n K 1 rfl rfl dX7_shifts_37 ?_
  refine v_iload K 4 rfl dX7_shifts_38 ?_
  refine v_iload_n K 2 rfl rfl dX7_shifts_40 ?_
  obtain ⟨r2, u1, e3, hf⟩ := bnd_of hf
  refine v_callVi K (c_X7_get h0 e3) cv_X7_get ml_X7_55 (am1_7 h0) h0 kdX7 ⟨rfl, rfl, Nat.le_of_ble_eq_true rfl, Nat.le_of_ble_eq_true rfl⟩ rfl rfl (Nat.le_of_ble_eq_true rfl) dX7_shifts_41 ?_
  refine v_istore K (ls' := [(6, .int r2), (5, .int y0), (0, .ref (X.2.1 o0)), (1, .int p1), (3, .int x3), (4, .int x4)]) (by decide) rfl dX7_shifts_44 ?_
  refine v_aload_n K 2 rfl rfl dX7_shifts_46 ?_
  refine gf_7_0 K h0 fl_X7_7 dX7_shifts_47 ?_
  refine v_iload K 5 rfl dX7_shifts_50 ?_
  refine v_iload_n K 3 rfl rfl dX7_shifts_52 ?_
  obtain ⟨r5, u4, e6, hf⟩ := bnd_of hf
  refine v_callSi K (c_X7_at e6) cv_X7_at ml_X7_47 ⟨rfl, rfl, Nat.le_of_ble_eq_true rfl, Nat.le_of_ble_eq_true rfl⟩ rfl rfl (Nat.le_of_ble_eq_true rfl) dX7_shifts_53 ?_
  refine v_iload K 0 rfl dX7_shifts_56 ?_
  refine v_iconst K (v := 1) (by decide) dX7_shifts_58 ?_
  refine v_ishr K dX7_shifts_59 ?_
  refine v_iload_n K 4 rfl rfl dX7_shifts_60 ?_
  refine v_iload K 1 rfl dX7_shifts_61 ?_
  refine v_iconst K (v := 1) (by decide) dX7_shifts_63 ?_
  refine v_isub K dX7_shifts_64 ?_
  refine v_ishl K dX7_shifts_65 ?_
  refine v_ior K dX7_shifts_66 ?_
  obtain ⟨g7, hf⟩ := chk_of hf
  refine v_iast K (am1_12 (ak_7_0 h0)) (.inr (ak_7_0 h0)) g7 dX7_shifts_67 ?_
  refine v_st (fun u8 eu8 => ?_)
  have hf := lte_of eu8 hf
  refine v_iload K 0 rfl dX7_shifts_68 ?_
  refine v_iconst K (v := 1) (by decide) dX7_shifts_70 ?_
  refine v_iand K dX7_shifts_71 ?_
  refine v_topi (fun z9 ez9 => ?_)
  have hf := lte_of ez9 hf
  refine v_istore_n K (ls' := [(3, .int z9), (6, .int r2), (5, .int y0), (0, .ref (X.2.1 o0)), (1, .int p1), (4, .int x4)]) rfl (by decide) rfl dX7_shifts_72 ?_
  refine v_iinc K 5 (v := x4 + 1) (ls' := [(4, .int (x4 + 1)), (3, .int z9), (6, .int r2), (5, .int y0), (0, .ref (X.2.1 o0)), (1, .int p1)]) rfl rfl (by decide) rfl dX7_shifts_73 ?_
  refine v_goto K 5 (by decide) dX7_shifts_76 ?_
  refine v_sub [4, 5, 1, 0] rfl ?_
  exact hk5 z9 (x4 + 1) u8 hf
set_option maxRecDepth 20000 in
theorem t_X7_shifts_5 {M : Mx} {X : Wx} {N : Nat} {o0 : Nat} {p1 : Int32} {p2 : Int32} (h0 : akd o0 = 7) {r : Int32} {u' : ASt} (K : OkM 1 M X cX7_shifts 7 RX7 rm_X7_shifts (some .int)) : ∀ (n : Nat) (x3 : Int32) (x4 : Int32) (u : ASt), f_X7_shifts_5 N o0 p1 p2 n x3 x4 u = some (r, u') → V 1 M X (some (.int r), u') 7 5 [(0, .ref (X.2.1 o0)), (1, .int p1), (3, .int x3), (4, .int x4)] [] u := by
  intro n
  induction n with
  | zero => intro x3 x4 u hf; cases hf
  | succ n ih =>
    intro x3 x4 u hf
    rw [f_X7_shifts_5] at hf
    refine v_iload K 3 rfl dX7_shifts_5 ?_
    refine v_aload_n K 0 rfl rfl dX7_shifts_7 ?_
    obtain ⟨r11, u10, e12, hf⟩ := bnd_of hf
    refine v_callVi K (c_X7_chips h0 e12) cv_X7_chips ml_X7_121 (am1_7 h0) h0 kdX7 ⟨rfl, rfl, Nat.le_of_ble_eq_true rfl, Nat.le_of_ble_eq_true rfl⟩ rfl rfl (Nat.le_of_ble_eq_true rfl) dX7_shifts_8 ?_
    refine v_icmp_ge K 79 (by decide) dX7_shifts_11 (fun c13 => ?_) (fun c13 => ?_)
    · have hf := ite_t c13 hf
      refine v_iload_n K 2 rfl rfl dX7_shifts_79 ?_
      obtain ⟨rfl, rfl⟩ := pair_of hf
      exact v_iret K dX7_shifts_80
    · have hf := ite_f c13 hf
      refine v_iload_n K 1 rfl rfl dX7_shifts_14 ?_
      refine v_iconst K (v := 4) (by decide) dX7_shifts_15 ?_
      refine v_icmp_ne K 29 (by decide) dX7_shifts_16 (fun c14 => ?_) (fun c14 => ?_)
      · have hf := ite_f c14 hf
        refine v_aload_n K 0 rfl rfl dX7_shifts_29 ?_
        refine v_iload K 3 rfl dX7_shifts_30 ?_
        obtain ⟨r16, u15, e17, hf⟩ := bnd_of hf
        refine v_callVi K (c_X7_longOf h0 e17) cv_X7_longOf ml_X7_173 (am1_7 h0) h0 kdX7 ⟨rfl, rfl, Nat.le_of_ble_eq_true rfl, Nat.le_of_ble_eq_true rfl⟩ rfl rfl (Nat.le_of_ble_eq_true rfl) dX7_shifts_32 ?_
        exact t_X7_shifts_35 h0 K ih hf
      · have hf := ite_t c14 hf
        refine v_aload_n K 0 rfl rfl dX7_shifts_19 ?_
        refine v_iload K 3 rfl dX7_shifts_20 ?_
        refine v_iconst K (v := 0) (by decide) dX7_shifts_22 ?_
        obtain ⟨r19, u18, e20, hf⟩ := bnd_of hf
        refine v_callVi K (c_X7_get h0 e20) cv_X7_get ml_X7_55 (am1_7 h0) h0 kdX7 ⟨rfl, rfl, Nat.le_of_ble_eq_true rfl, Nat.le_of_ble_eq_true rfl⟩ rfl rfl (Nat.le_of_ble_eq_true rfl) dX7_shifts_23 ?_
        refine v_goto K 35 (by decide) dX7_shifts_26 ?_
        exact t_X7_shifts_35 h0 K ih hf
set_option maxRecDepth 20000 in
theorem c_X7_shifts {X : Wx} {N : Nat} {o0 : Nat} {p1 : Int32} {p2 : Int32} (h0 : akd o0 = 7) {u u' : ASt} {r : Int32} (hf : f_X7_shifts N o0 p1 p2 u = some (r, u')) (l : Launch) : Met l yX7_shifts (ws_ yX7_shifts cX7_shifts 7 (some .int)) rm_X7_shifts (Pg 1 X u [.ref (X.2.1 o0), .int p1, .int p2]) (Qg 1 X (some (.int r)) u') 0 0 (Aw 1 X) := by
  refine v_met (res := (some (.int r), u')) (by decide) (Nat.le_of_ble_eq_true rfl) (fun M K => ?_)
  have K : OkM 1 M X cX7_shifts 7 RX7 rm_X7_shifts (some .int) := K
  show V 1 M X (some (.int r), u') 7 0 [(0, .ref (X.2.1 o0)), (1, .int p1), (2, .int p2)] [] u
  unfold f_X7_shifts at hf
  refine v_iload_n K 2 rfl rfl dX7_shifts_0 ?_
  refine v_istore_n K (ls' := [(3, .int p2), (0, .ref (X.2.1 o0)), (1, .int p1), (2, .int p2)]) rfl (by decide) rfl dX7_shifts_1 ?_
  refine v_iconst K (v := 0) (by decide) dX7_shifts_2 ?_
  refine v_istore K (ls' := [(4, .int 0), (3, .int p2), (0, .ref (X.2.1 o0)), (1, .int p1), (2, .int p2)]) (by decide) rfl dX7_shifts_3 ?_
  refine v_sub [2, 3, 1, 0] rfl ?_
  exact t_X7_shifts_5 h0 K N p2 0 u hf
abbrev rm_X7_doesPlace : Room := { frames := 10, cells := 0, slots := 0, locals := 228 }
set_option maxRecDepth 20000 in
theorem t_X7_doesPlace_136 {M : Mx} {X : Wx} {N : Nat} {o0 : Nat} {p1 : Int32} (h0 : akd o0 = 7) {r : Unit} {u' : ASt} (K : OkM 1 M X cX7_doesPlace 3 RX7 rm_X7_doesPlace none) {k6 : Int32 → ASt → Option (Unit × ASt)} (hk6 : ∀ (x2 : Int32) (u : ASt), k6 x2 u = some (r, u') → V 1 M X (none, u') 3 6 [(0, .ref (X.2.1 o0)), (1, .int p1), (2, .int x2)] [] u) {x2 : Int32} {u : ASt} (hf : f_X7_doesPlace_136 N o0 p1 k6 x2 u = some (r, u')) : V 1 M X (none, u') 3 136 [(0, .ref (X.2.1 o0)), (1, .int p1), (2, .int x2)] [] u := by
  unfold f_X7_doesPlace_136 at hf
  refine v_iinc K 2 (v := x2 + 1) (ls' := [(2, .int (x2 + 1)), (0, .ref (X.2.1 o0)), (1, .int p1)]) rfl rfl (by decide) rfl dX7_doesPlace_136 ?_
  refine v_goto K 6 (by decide) dX7_doesPlace_139 ?_
  refine v_sub [1, 2, 0] rfl ?_
  exact hk6 (x2 + 1) u hf
set_option maxRecDepth 20000 in
theorem t_X7_doesPlace_6 {M : Mx} {X : Wx} {N : Nat} {o0 : Nat} {p1 : Int32} (h0 : akd o0 = 7) {r : Unit} {u' : ASt} (K : OkM 1 M X cX7_doesPlace 3 RX7 rm_X7_doesPlace none) : ∀ (n : Nat) (x2 : Int32) (u : ASt), f_X7_doesPlace_6 N o0 p1 n x2 u = some (r, u') → V 1 M X (none, u') 3 6 [(0, .ref (X.2.1 o0)), (1, .int p1), (2, .int x2)] [] u := by
  intro n
  induction n with
  | zero => intro x2 u hf; cases hf
  | succ n ih =>
    intro x2 u hf
    rw [f_X7_doesPlace_6] at hf
    refine v_iload_n K 2 rfl rfl dX7_doesPlace_6 ?_
    refine v_aload_n K 0 rfl rfl dX7_doesPlace_7 ?_
    obtain ⟨r2, u1, e3, hf⟩ := bnd_of hf
    refine v_callVi K (c_X7_chips h0 e3) cv_X7_chips ml_X7_121 (am1_7 h0) h0 kdX7 ⟨rfl, rfl, Nat.le_of_ble_eq_true rfl, Nat.le_of_ble_eq_true rfl⟩ rfl rfl (Nat.le_of_ble_eq_true rfl) dX7_doesPlace_8 ?_
    refine v_icmp_ge K 142 (by decide) dX7_doesPlace_11 (fun c4 => ?_) (fun c4 => ?_)
    · have hf := ite_t c4 hf
      obtain ⟨rfl, rfl⟩ := pair_of hf
      exact v_vret K dX7_doesPlace_142
    · have hf := ite_f c4 hf
      refine v_iload_n K 1 rfl rfl dX7_doesPlace_14 ?_
      refine v_if_ne K 36 (by decide) dX7_doesPlace_15 (fun c5 => ?_) (fun c5 => ?_)
      · have hf := ite_f c5 hf
        refine v_iload_n K 1 rfl rfl dX7_doesPlace_36 ?_
        refine v_bipush K (v := 10) (by decide) dX7_doesPlace_37 ?_
        refine v_icmp_ne K 56 (by decide) dX7_doesPlace_39 (fun c6 => ?_) (fun c6 => ?_)
        · have hf := ite_f c6 hf
          refine v_iload_n K 1 rfl rfl dX7_doesPlace_56 ?_
          refine v_iconst K (v := 3) (by decide) dX7_doesPlace_57 ?_
          refine v_icmp_ne K 79 (by decide) dX7_doesPlace_58 (fun c7 => ?_) (fun c7 => ?_)
          · have hf := ite_f c7 hf
            refine v_iload_n K 1 rfl rfl dX7_doesPlace_79 ?_
            refine v_bipush K (v := 15) (by decide) dX7_doesPlace_80 ?_
            refine v_icmp_ne K 104 (by decide) dX7_doesPlace_82 (fun c8 => ?_) (fun c8 => ?_)
            · have hf := ite_f c8 hf
              refine v_iload_n K 1 rfl rfl dX7_doesPlace_104 ?_
              refine v_bipush K (v := 8) (by decide) dX7_doesPlace_105 ?_
              refine v_icmp_ne K 136 (by decide) dX7_doesPlace_107 (fun c9 => ?_) (fun c9 => ?_)
              · have hf := ite_f c9 hf
                exact t_X7_doesPlace_136 h0 K ih hf
              · have hf := ite_t c9 hf
                refine v_aload_n K 0 rfl rfl dX7_doesPlace_110 ?_
                refine v_iload_n K 2 rfl rfl dX7_doesPlace_111 ?_
                obtain ⟨r11, u10, e12, hf⟩ := bnd_of hf
                refine v_callVi K (c_X7_kindOf h0 e12) cv_X7_kindOf ml_X7_167 (am1_7 h0) h0 kdX7 ⟨rfl, rfl, Nat.le_of_ble_eq_true rfl, Nat.le_of_ble_eq_true rfl⟩ rfl rfl (Nat.le_of_ble_eq_true rfl) dX7_doesPlace_112 ?_
                refine v_iconst K (v := 2) (by decide) dX7_doesPlace_115 ?_
                refine v_icmp_ge K 136 (by decide) dX7_doesPlace_116 (fun c13 => ?_) (fun c13 => ?_)
                · have hf := ite_t c13 hf
                  exact t_X7_doesPlace_136 h0 K ih hf
                · have hf := ite_f c13 hf
                  refine v_aload_n K 0 rfl rfl dX7_doesPlace_119 ?_
                  refine gf_7_0 K h0 fl_X7_7 dX7_doesPlace_120 ?_
                  refine v_iload_n K 2 rfl rfl dX7_doesPlace_123 ?_
                  refine v_bipush K (v := 6) (by decide) dX7_doesPlace_124 ?_
                  obtain ⟨r15, u14, e16, hf⟩ := bnd_of hf
                  refine v_callSi K (c_X7_at e16) cv_X7_at ml_X7_47 ⟨rfl, rfl, Nat.le_of_ble_eq_true rfl, Nat.le_of_ble_eq_true rfl⟩ rfl rfl (Nat.le_of_ble_eq_true rfl) dX7_doesPlace_126 ?_
                  refine v_aload_n K 0 rfl rfl dX7_doesPlace_129 ?_
                  refine v_iload_n K 2 rfl rfl dX7_doesPlace_130 ?_
                  refine v_iconst K (v := 5) (by decide) dX7_doesPlace_131 ?_
                  obtain ⟨r18, u17, e19, hf⟩ := bnd_of hf
                  refine v_callVi K (c_X7_get h0 e19) cv_X7_get ml_X7_55 (am1_7 h0) h0 kdX7 ⟨rfl, rfl, Nat.le_of_ble_eq_true rfl, Nat.le_of_ble_eq_true rfl⟩ rfl rfl (Nat.le_of_ble_eq_true rfl) dX7_doesPlace_132 ?_
                  obtain ⟨g20, hf⟩ := chk_of hf
                  refine v_iast K (am1_12 (ak_7_0 h0)) (.inr (ak_7_0 h0)) g20 dX7_doesPlace_135 ?_
                  refine v_st (fun u21 eu21 => ?_)
                  have hf := lte_of eu21 hf
                  exact t_X7_doesPlace_136 h0 K ih hf
            · have hf := ite_t c8 hf
              refine v_aload_n K 0 rfl rfl dX7_doesPlace_85 ?_
              refine gf_7_0 K h0 fl_X7_7 dX7_doesPlace_86 ?_
              refine v_iload_n K 2 rfl rfl dX7_doesPlace_89 ?_
              refine v_iconst K (v := 3) (by decide) dX7_doesPlace_90 ?_
              obtain ⟨r23, u22, e24, hf⟩ := bnd_of hf
              refine v_callSi K (c_X7_at e24) cv_X7_at ml_X7_47 ⟨rfl, rfl, Nat.le_of_ble_eq_true rfl, Nat.le_of_ble_eq_true rfl⟩ rfl rfl (Nat.le_of_ble_eq_true rfl) dX7_doesPlace_91 ?_
              refine v_aload_n K 0 rfl rfl dX7_doesPlace_94 ?_
              refine v_iload_n K 2 rfl rfl dX7_doesPlace_95 ?_
              refine v_iconst K (v := 4) (by decide) dX7_doesPlace_96 ?_
              obtain ⟨r26, u25, e27, hf⟩ := bnd_of hf
              refine v_callVi K (c_X7_get h0 e27) cv_X7_get ml_X7_55 (am1_7 h0) h0 kdX7 ⟨rfl, rfl, Nat.le_of_ble_eq_true rfl, Nat.le_of_ble_eq_true rfl⟩ rfl rfl (Nat.le_of_ble_eq_true rfl) dX7_doesPlace_97 ?_
              obtain ⟨g28, hf⟩ := chk_of hf
              refine v_iast K (am1_12 (ak_7_0 h0)) (.inr (ak_7_0 h0)) g28 dX7_doesPlace_100 ?_
              refine v_st (fun u29 eu29 => ?_)
              have hf := lte_of eu29 hf
              refine v_goto K 136 (by decide) dX7_doesPlace_101 ?_
              exact t_X7_doesPlace_136 h0 K ih hf
          · have hf := ite_t c7 hf
            refine v_aload_n K 0 rfl rfl dX7_doesPlace_61 ?_
            refine gf_7_0 K h0 fl_X7_7 dX7_doesPlace_62 ?_
            refine v_iload_n K 2 rfl rfl dX7_doesPlace_65 ?_
            refine v_iconst K (v := 5) (by decide) dX7_doesPlace_66 ?_
            obtain ⟨r31, u30, e32, hf⟩ := bnd_of hf
            refine v_callSi K (c_X7_at e32) cv_X7_at ml_X7_47 ⟨rfl, rfl, Nat.le_of_ble_eq_true rfl, Nat.le_of_ble_eq_true rfl⟩ rfl rfl (Nat.le_of_ble_eq_true rfl) dX7_doesPlace_67 ?_
            refine v_aload_n K 0 rfl rfl dX7_doesPlace_70 ?_
            refine v_iload_n K 2 rfl rfl dX7_doesPlace_71 ?_
            obtain ⟨r34, u33, e35, hf⟩ := bnd_of hf
            refine v_callVi K (c_X7_captured h0 e35) cv_X7_captured ml_X7_176 (am1_7 h0) h0 kdX7 ⟨rfl, rfl, Nat.le_of_ble_eq_true rfl, Nat.le_of_ble_eq_true rfl⟩ rfl rfl (Nat.le_of_ble_eq_true rfl) dX7_doesPlace_72 ?_
            obtain ⟨g36, hf⟩ := chk_of hf
            refine v_iast K (am1_12 (ak_7_0 h0)) (.inr (ak_7_0 h0)) g36 dX7_doesPlace_75 ?_
            refine v_st (fun u37 eu37 => ?_)
            have hf := lte_of eu37 hf
            refine v_goto K 136 (by decide) dX7_doesPlace_76 ?_
            exact t_X7_doesPlace_136 h0 K ih hf
        · have hf := ite_t c6 hf
          refine v_aload_n K 0 rfl rfl dX7_doesPlace_42 ?_
          refine gf_7_0 K h0 fl_X7_7 dX7_doesPlace_43 ?_
          refine v_iload_n K 2 rfl rfl dX7_doesPlace_46 ?_
          refine v_iconst K (v := 4) (by decide) dX7_doesPlace_47 ?_
          obtain ⟨r39, u38, e40, hf⟩ := bnd_of hf
          refine v_callSi K (c_X7_at e40) cv_X7_at ml_X7_47 ⟨rfl, rfl, Nat.le_of_ble_eq_true rfl, Nat.le_of_ble_eq_true rfl⟩ rfl rfl (Nat.le_of_ble_eq_true rfl) dX7_doesPlace_48 ?_
          refine v_iconst K (v := 1) (by decide) dX7_doesPlace_51 ?_
          obtain ⟨g41, hf⟩ := chk_of hf
          refine v_iast K (am1_12 (ak_7_0 h0)) (.inr (ak_7_0 h0)) g41 dX7_doesPlace_52 ?_
          refine v_st (fun u42 eu42 => ?_)
          have hf := lte_of eu42 hf
          refine v_goto K 136 (by decide) dX7_doesPlace_53 ?_
          exact t_X7_doesPlace_136 h0 K ih hf
      · have hf := ite_t c5 hf
        refine v_aload_n K 0 rfl rfl dX7_doesPlace_18 ?_
        refine gf_7_0 K h0 fl_X7_7 dX7_doesPlace_19 ?_
        refine v_iload_n K 2 rfl rfl dX7_doesPlace_22 ?_
        refine v_iconst K (v := 3) (by decide) dX7_doesPlace_23 ?_
        obtain ⟨r44, u43, e45, hf⟩ := bnd_of hf
        refine v_callSi K (c_X7_at e45) cv_X7_at ml_X7_47 ⟨rfl, rfl, Nat.le_of_ble_eq_true rfl, Nat.le_of_ble_eq_true rfl⟩ rfl rfl (Nat.le_of_ble_eq_true rfl) dX7_doesPlace_24 ?_
        refine v_aload_n K 0 rfl rfl dX7_doesPlace_27 ?_
        refine v_iload_n K 2 rfl rfl dX7_doesPlace_28 ?_
        obtain ⟨r47, u46, e48, hf⟩ := bnd_of hf
        refine v_callVi K (c_X7_firstOf h0 e48) cv_X7_firstOf ml_X7_75 (am1_7 h0) h0 kdX7 ⟨rfl, rfl, Nat.le_of_ble_eq_true rfl, Nat.le_of_ble_eq_true rfl⟩ rfl rfl (Nat.le_of_ble_eq_true rfl) dX7_doesPlace_29 ?_
        obtain ⟨g49, hf⟩ := chk_of hf
        refine v_iast K (am1_12 (ak_7_0 h0)) (.inr (ak_7_0 h0)) g49 dX7_doesPlace_32 ?_
        refine v_st (fun u50 eu50 => ?_)
        have hf := lte_of eu50 hf
        refine v_goto K 136 (by decide) dX7_doesPlace_33 ?_
        exact t_X7_doesPlace_136 h0 K ih hf
set_option maxRecDepth 20000 in
theorem c_X7_doesPlace {X : Wx} {N : Nat} {o0 : Nat} {p1 : Int32} (h0 : akd o0 = 7) {u u' : ASt} {r : Unit} (hf : f_X7_doesPlace N o0 p1 u = some (r, u')) (l : Launch) : Met l yX7_doesPlace (ws_ yX7_doesPlace cX7_doesPlace 3 none) rm_X7_doesPlace (Pg 1 X u [.ref (X.2.1 o0), .int p1]) (Qg 1 X (none) u') 0 0 (Aw 1 X) := by
  refine v_met (res := (none, u')) (by decide) (Nat.le_of_ble_eq_true rfl) (fun M K => ?_)
  have K : OkM 1 M X cX7_doesPlace 3 RX7 rm_X7_doesPlace none := K
  show V 1 M X (none, u') 3 0 [(0, .ref (X.2.1 o0)), (1, .int p1)] [] u
  unfold f_X7_doesPlace at hf
  refine v_aload_n K 0 rfl rfl dX7_doesPlace_0 ?_
  obtain ⟨r52, u51, e53, hf⟩ := bnd_of hf
  refine v_callVv K (c_X7_laysNow h0 e53) cv_X7_laysNow ml_X7_164 (am1_7 h0) h0 kdX7 ⟨rfl, rfl, Nat.le_of_ble_eq_true rfl, Nat.le_of_ble_eq_true rfl⟩ rfl rfl (Nat.le_of_ble_eq_true rfl) dX7_doesPlace_1 ?_
  refine v_iconst K (v := 0) (by decide) dX7_doesPlace_4 ?_
  refine v_istore_n K (ls' := [(2, .int 0), (0, .ref (X.2.1 o0)), (1, .int p1)]) rfl (by decide) rfl dX7_doesPlace_5 ?_
  refine v_sub [1, 2, 0] rfl ?_
  exact t_X7_doesPlace_6 h0 K N 0 u51 hf
abbrev rm_X7_nextPlace : Room := { frames := 0, cells := 0, slots := 0, locals := 0 }
set_option maxRecDepth 20000 in
theorem c_X7_nextPlace {X : Wx} {N : Nat} {p1 : Int32} {p2 : Int32} {u u' : ASt} {r : Int32} (hf : f_X7_nextPlace N p1 p2 u = some (r, u')) (l : Launch) : Met l yX7_nextPlace (ws_ yX7_nextPlace cX7_nextPlace 2 (some .int)) rm_X7_nextPlace (Pg 1 X u [.int p1, .int p2]) (Qg 1 X (some (.int r)) u') 0 0 (Aw 1 X) := by
  refine v_met (res := (some (.int r), u')) (by decide) (Nat.le_of_ble_eq_true rfl) (fun M K => ?_)
  have K : OkM 1 M X cX7_nextPlace 2 RX7 rm_X7_nextPlace (some .int) := K
  show V 1 M X (some (.int r), u') 2 0 [(0, .int p1), (1, .int p2)] [] u
  unfold f_X7_nextPlace at hf
  refine v_iload_n K 0 rfl rfl dX7_nextPlace_0 ?_
  by_cases c1 : p1 = 0
  · have hf := ite_t c1 hf
    refine v_tabK K 76 c1 (a := 0) (by decide) (by decide) (by decide) rfl (by decide) dX7_nextPlace_1 ?_
    refine v_iload_n K 1 rfl rfl dX7_nextPlace_76 ?_
    refine v_if_ne K 84 (by decide) dX7_nextPlace_77 (fun c2 => ?_) (fun c2 => ?_)
    · have hf := ite_f c2 hf
      refine v_iconst K (v := 0) (by decide) dX7_nextPlace_84 ?_
      obtain ⟨rfl, rfl⟩ := pair_of hf
      exact v_iret K dX7_nextPlace_85
    · have hf := ite_t c2 hf
      refine v_iconst K (v := 1) (by decide) dX7_nextPlace_80 ?_
      refine v_goto K 85 (by decide) dX7_nextPlace_81 ?_
      obtain ⟨rfl, rfl⟩ := pair_of hf
      exact v_iret K dX7_nextPlace_85
  have hf := ite_f c1 hf
  by_cases c3 : p1 = 2
  · have hf := ite_t c3 hf
    refine v_tabK K 86 c3 (a := 2) (by decide) (by decide) (by decide) rfl (by decide) dX7_nextPlace_1 ?_
    refine v_iload_n K 1 rfl rfl dX7_nextPlace_86 ?_
    refine v_if_ne K 94 (by decide) dX7_nextPlace_87 (fun c4 => ?_) (fun c4 => ?_)
    · have hf := ite_f c4 hf
      refine v_bipush K (v := 9) (by decide) dX7_nextPlace_94 ?_
      obtain ⟨rfl, rfl⟩ := pair_of hf
      exact v_iret K dX7_nextPlace_96
    · have hf := ite_t c4 hf
      refine v_iconst K (v := 3) (by decide) dX7_nextPlace_90 ?_
      refine v_goto K 96 (by decide) dX7_nextPlace_91 ?_
      obtain ⟨rfl, rfl⟩ := pair_of hf
      exact v_iret K dX7_nextPlace_96
  have hf := ite_f c3 hf
  by_cases c5 : p1 = 3
  · have hf := ite_t c5 hf
    refine v_tabK K 97 c5 (a := 3) (by decide) (by decide) (by decide) rfl (by decide) dX7_nextPlace_1 ?_
    refine v_iload_n K 1 rfl rfl dX7_nextPlace_97 ?_
    refine v_if_ne K 105 (by decide) dX7_nextPlace_98 (fun c6 => ?_) (fun c6 => ?_)
    · have hf := ite_f c6 hf
      refine v_iconst K (v := 5) (by decide) dX7_nextPlace_105 ?_
      obtain ⟨rfl, rfl⟩ := pair_of hf
      exact v_iret K dX7_nextPlace_106
    · have hf := ite_t c6 hf
      refine v_iconst K (v := 4) (by decide) dX7_nextPlace_101 ?_
      refine v_goto K 106 (by decide) dX7_nextPlace_102 ?_
      obtain ⟨rfl, rfl⟩ := pair_of hf
      exact v_iret K dX7_nextPlace_106
  have hf := ite_f c5 hf
  by_cases c7 : p1 = 4
  · have hf := ite_t c7 hf
    refine v_tabK K 97 c7 (a := 4) (by decide) (by decide) (by decide) rfl (by decide) dX7_nextPlace_1 ?_
    refine v_iload_n K 1 rfl rfl dX7_nextPlace_97 ?_
    refine v_if_ne K 105 (by decide) dX7_nextPlace_98 (fun c8 => ?_) (fun c8 => ?_)
    · have hf := ite_f c8 hf
      refine v_iconst K (v := 5) (by decide) dX7_nextPlace_105 ?_
      obtain ⟨rfl, rfl⟩ := pair_of hf
      exact v_iret K dX7_nextPlace_106
    · have hf := ite_t c8 hf
      refine v_iconst K (v := 4) (by decide) dX7_nextPlace_101 ?_
      refine v_goto K 106 (by decide) dX7_nextPlace_102 ?_
      obtain ⟨rfl, rfl⟩ := pair_of hf
      exact v_iret K dX7_nextPlace_106
  have hf := ite_f c7 hf
  by_cases c9 : p1 = 5
  · have hf := ite_t c9 hf
    refine v_tabK K 107 c9 (a := 5) (by decide) (by decide) (by decide) rfl (by decide) dX7_nextPlace_1 ?_
    refine v_iload_n K 1 rfl rfl dX7_nextPlace_107 ?_
    refine v_if_ne K 116 (by decide) dX7_nextPlace_108 (fun c10 => ?_) (fun c10 => ?_)
    · have hf := ite_f c10 hf
      refine v_bipush K (v := 8) (by decide) dX7_nextPlace_116 ?_
      obtain ⟨rfl, rfl⟩ := pair_of hf
      exact v_iret K dX7_nextPlace_118
    · have hf := ite_t c10 hf
      refine v_bipush K (v := 6) (by decide) dX7_nextPlace_111 ?_
      refine v_goto K 118 (by decide) dX7_nextPlace_113 ?_
      obtain ⟨rfl, rfl⟩ := pair_of hf
      exact v_iret K dX7_nextPlace_118
  have hf := ite_f c9 hf
  by_cases c11 : p1 = 6
  · have hf := ite_t c11 hf
    refine v_tabK K 119 c11 (a := 6) (by decide) (by decide) (by decide) rfl (by decide) dX7_nextPlace_1 ?_
    refine v_iload_n K 1 rfl rfl dX7_nextPlace_119 ?_
    refine v_if_ne K 128 (by decide) dX7_nextPlace_120 (fun c12 => ?_) (fun c12 => ?_)
    · have hf := ite_f c12 hf
      refine v_bipush K (v := 7) (by decide) dX7_nextPlace_128 ?_
      obtain ⟨rfl, rfl⟩ := pair_of hf
      exact v_iret K dX7_nextPlace_130
    · have hf := ite_t c12 hf
      refine v_bipush K (v := 6) (by decide) dX7_nextPlace_123 ?_
      refine v_goto K 130 (by decide) dX7_nextPlace_125 ?_
      obtain ⟨rfl, rfl⟩ := pair_of hf
      exact v_iret K dX7_nextPlace_130
  have hf := ite_f c11 hf
  by_cases c13 : p1 = 7
  · have hf := ite_t c13 hf
    refine v_tabK K 131 c13 (a := 7) (by decide) (by decide) (by decide) rfl (by decide) dX7_nextPlace_1 ?_
    refine v_iload_n K 1 rfl rfl dX7_nextPlace_131 ?_
    refine v_if_ne K 139 (by decide) dX7_nextPlace_132 (fun c14 => ?_) (fun c14 => ?_)
    · have hf := ite_f c14 hf
      refine v_bipush K (v := 8) (by decide) dX7_nextPlace_139 ?_
      obtain ⟨rfl, rfl⟩ := pair_of hf
      exact v_iret K dX7_nextPlace_141
    · have hf := ite_t c14 hf
      refine v_iconst K (v := 4) (by decide) dX7_nextPlace_135 ?_
      refine v_goto K 141 (by decide) dX7_nextPlace_136 ?_
      obtain ⟨rfl, rfl⟩ := pair_of hf
      exact v_iret K dX7_nextPlace_141
  have hf := ite_f c13 hf
  by_cases c15 : p1 = 9
  · have hf := ite_t c15 hf
    refine v_tabK K 142 c15 (a := 9) (by decide) (by decide) (by decide) rfl (by decide) dX7_nextPlace_1 ?_
    refine v_iload_n K 1 rfl rfl dX7_nextPlace_142 ?_
    refine v_if_ne K 151 (by decide) dX7_nextPlace_143 (fun c16 => ?_) (fun c16 => ?_)
    · have hf := ite_f c16 hf
      refine v_iconst K (v := 0) (by decide) dX7_nextPlace_151 ?_
      obtain ⟨rfl, rfl⟩ := pair_of hf
      exact v_iret K dX7_nextPlace_152
    · have hf := ite_t c16 hf
      refine v_bipush K (v := 10) (by decide) dX7_nextPlace_146 ?_
      refine v_goto K 152 (by decide) dX7_nextPlace_148 ?_
      obtain ⟨rfl, rfl⟩ := pair_of hf
      exact v_iret K dX7_nextPlace_152
  have hf := ite_f c15 hf
  by_cases c17 : p1 = 10
  · have hf := ite_t c17 hf
    refine v_tabK K 153 c17 (a := 10) (by decide) (by decide) (by decide) rfl (by decide) dX7_nextPlace_1 ?_
    refine v_iload_n K 1 rfl rfl dX7_nextPlace_153 ?_
    refine v_if_ne K 162 (by decide) dX7_nextPlace_154 (fun c18 => ?_) (fun c18 => ?_)
    · have hf := ite_f c18 hf
      refine v_bipush K (v := 12) (by decide) dX7_nextPlace_162 ?_
      obtain ⟨rfl, rfl⟩ := pair_of hf
      exact v_iret K dX7_nextPlace_164
    · have hf := ite_t c18 hf
      refine v_bipush K (v := 11) (by decide) dX7_nextPlace_157 ?_
      refine v_goto K 164 (by decide) dX7_nextPlace_159 ?_
      obtain ⟨rfl, rfl⟩ := pair_of hf
      exact v_iret K dX7_nextPlace_164
  have hf := ite_f c17 hf
  by_cases c19 : p1 = 11
  · have hf := ite_t c19 hf
    refine v_tabK K 153 c19 (a := 11) (by decide) (by decide) (by decide) rfl (by decide) dX7_nextPlace_1 ?_
    refine v_iload_n K 1 rfl rfl dX7_nextPlace_153 ?_
    refine v_if_ne K 162 (by decide) dX7_nextPlace_154 (fun c20 => ?_) (fun c20 => ?_)
    · have hf := ite_f c20 hf
      refine v_bipush K (v := 12) (by decide) dX7_nextPlace_162 ?_
      obtain ⟨rfl, rfl⟩ := pair_of hf
      exact v_iret K dX7_nextPlace_164
    · have hf := ite_t c20 hf
      refine v_bipush K (v := 11) (by decide) dX7_nextPlace_157 ?_
      refine v_goto K 164 (by decide) dX7_nextPlace_159 ?_
      obtain ⟨rfl, rfl⟩ := pair_of hf
      exact v_iret K dX7_nextPlace_164
  have hf := ite_f c19 hf
  by_cases c21 : p1 = 12
  · have hf := ite_t c21 hf
    refine v_tabK K 165 c21 (a := 12) (by decide) (by decide) (by decide) rfl (by decide) dX7_nextPlace_1 ?_
    refine v_iload_n K 1 rfl rfl dX7_nextPlace_165 ?_
    refine v_if_ne K 174 (by decide) dX7_nextPlace_166 (fun c22 => ?_) (fun c22 => ?_)
    · have hf := ite_f c22 hf
      refine v_bipush K (v := 15) (by decide) dX7_nextPlace_174 ?_
      obtain ⟨rfl, rfl⟩ := pair_of hf
      exact v_iret K dX7_nextPlace_176
    · have hf := ite_t c22 hf
      refine v_bipush K (v := 13) (by decide) dX7_nextPlace_169 ?_
      refine v_goto K 176 (by decide) dX7_nextPlace_171 ?_
      obtain ⟨rfl, rfl⟩ := pair_of hf
      exact v_iret K dX7_nextPlace_176
  have hf := ite_f c21 hf
  by_cases c23 : p1 = 13
  · have hf := ite_t c23 hf
    refine v_tabK K 177 c23 (a := 13) (by decide) (by decide) (by decide) rfl (by decide) dX7_nextPlace_1 ?_
    refine v_iload_n K 1 rfl rfl dX7_nextPlace_177 ?_
    refine v_if_ne K 186 (by decide) dX7_nextPlace_178 (fun c24 => ?_) (fun c24 => ?_)
    · have hf := ite_f c24 hf
      refine v_bipush K (v := 14) (by decide) dX7_nextPlace_186 ?_
      obtain ⟨rfl, rfl⟩ := pair_of hf
      exact v_iret K dX7_nextPlace_188
    · have hf := ite_t c24 hf
      refine v_bipush K (v := 13) (by decide) dX7_nextPlace_181 ?_
      refine v_goto K 188 (by decide) dX7_nextPlace_183 ?_
      obtain ⟨rfl, rfl⟩ := pair_of hf
      exact v_iret K dX7_nextPlace_188
  have hf := ite_f c23 hf
  by_cases c25 : p1 = 14
  · have hf := ite_t c25 hf
    refine v_tabK K 189 c25 (a := 14) (by decide) (by decide) (by decide) rfl (by decide) dX7_nextPlace_1 ?_
    refine v_iload_n K 1 rfl rfl dX7_nextPlace_189 ?_
    refine v_if_ne K 198 (by decide) dX7_nextPlace_190 (fun c26 => ?_) (fun c26 => ?_)
    · have hf := ite_f c26 hf
      refine v_bipush K (v := 15) (by decide) dX7_nextPlace_198 ?_
      obtain ⟨rfl, rfl⟩ := pair_of hf
      exact v_iret K dX7_nextPlace_200
    · have hf := ite_t c26 hf
      refine v_bipush K (v := 11) (by decide) dX7_nextPlace_193 ?_
      refine v_goto K 200 (by decide) dX7_nextPlace_195 ?_
      obtain ⟨rfl, rfl⟩ := pair_of hf
      exact v_iret K dX7_nextPlace_200
  have hf := ite_f c25 hf
  refine v_tabD K 201 (keys := [0, 2, 3, 4, 5, 6, 7, 9, 10, 11, 12, 13, 14]) (by decide) (by decide) (List.forall_mem_cons.mpr ⟨lv_neT c1 (by decide), (List.forall_mem_cons.mpr ⟨lv_neT c3 (by decide), (List.forall_mem_cons.mpr ⟨lv_neT c5 (by decide), (List.forall_mem_cons.mpr ⟨lv_neT c7 (by decide), (List.forall_mem_cons.mpr ⟨lv_neT c9 (by decide), (List.forall_mem_cons.mpr ⟨lv_neT c11 (by decide), (List.forall_mem_cons.mpr ⟨lv_neT c13 (by decide), (List.forall_mem_cons.mpr ⟨lv_neT c15 (by decide), (List.forall_mem_cons.mpr ⟨lv_neT c17 (by decide), (List.forall_mem_cons.mpr ⟨lv_neT c19 (by decide), (List.forall_mem_cons.mpr ⟨lv_neT c21 (by decide), (List.forall_mem_cons.mpr ⟨lv_neT c23 (by decide), (List.forall_mem_cons.mpr ⟨lv_neT c25 (by decide), (fun _ h => absurd h List.not_mem_nil)⟩)⟩)⟩)⟩)⟩)⟩)⟩)⟩)⟩)⟩)⟩)⟩)⟩) (by decide) dX7_nextPlace_1 ?_
  refine v_iload_n K 1 rfl rfl dX7_nextPlace_201 ?_
  refine v_if_ne K 209 (by decide) dX7_nextPlace_202 (fun c27 => ?_) (fun c27 => ?_)
  · have hf := ite_f c27 hf
    refine v_iconst K (v := 2) (by decide) dX7_nextPlace_209 ?_
    obtain ⟨rfl, rfl⟩ := pair_of hf
    exact v_iret K dX7_nextPlace_210
  · have hf := ite_t c27 hf
    refine v_iconst K (v := 1) (by decide) dX7_nextPlace_205 ?_
    refine v_goto K 210 (by decide) dX7_nextPlace_206 ?_
    obtain ⟨rfl, rfl⟩ := pair_of hf
    exact v_iret K dX7_nextPlace_210
abbrev rm_X7_clocksOnce : Room := { frames := 11, cells := 0, slots := 0, locals := 250 }
set_option maxRecDepth 20000 in
theorem t_X7_clocksOnce_47 {M : Mx} {X : Wx} {N : Nat} {o0 : Nat} {p1 : Int32} {p2 : Int32} (h0 : akd o0 = 7) {r : Int32} {u' : ASt} (K : OkM 1 M X cX7_clocksOnce 5 RX7 rm_X7_clocksOnce (some .int)) {x3 : Int32} {x4 : Int32} {u : ASt} (hf : f_X7_clocksOnce_47 N o0 p1 p2 x3 x4 u = some (r, u')) : V 1 M X (some (.int r), u') 5 47 [(0, .ref (X.2.1 o0)), (1, .int p1), (3, .int x3), (4, .int x4)] [] u := by
  unfold f_X7_clocksOnce_47 at hf
  refine v_aload_n K 0 rfl rfl dX7_clocksOnce_47 ?_
  refine gf_7_0 K h0 fl_X7_7 dX7_clocksOnce_48 ?_
  refine v_iconst K (v := 1) (by decide) dX7_clocksOnce_51 ?_
  refine v_iload_n K 2 rfl rfl dX7_clocksOnce_52 ?_
  refine v_iload_n K 1 rfl rfl dX7_clocksOnce_53 ?_
  obtain ⟨r2, u1, e3, hf⟩ := bnd_of hf
  refine v_callSi K (c_X7_nextPlace e3) cv_X7_nextPlace ml_X7_185 ⟨rfl, rfl, Nat.le_of_ble_eq_true rfl, Nat.le_of_ble_eq_true rfl⟩ rfl rfl (Nat.le_of_ble_eq_true rfl) dX7_clocksOnce_54 ?_
  obtain ⟨g4, hf⟩ := chk_of hf
  refine v_iast K (am1_12 (ak_7_0 h0)) (.inr (ak_7_0 h0)) g4 dX7_clocksOnce_57 ?_
  refine v_st (fun u5 eu5 => ?_)
  have hf := lte_of eu5 hf
  refine v_iload K 3 rfl dX7_clocksOnce_58 ?_
  obtain ⟨rfl, rfl⟩ := pair_of hf
  exact v_iret K dX7_clocksOnce_60
set_option maxRecDepth 20000 in
theorem t_X7_clocksOnce_33 {M : Mx} {X : Wx} {N : Nat} {o0 : Nat} {p1 : Int32} {p2 : Int32} (h0 : akd o0 = 7) {r : Int32} {u' : ASt} (K : OkM 1 M X cX7_clocksOnce 5 RX7 rm_X7_clocksOnce (some .int)) {x3 : Int32} {c0 : Nat} {y1 : Int32} (hc0 : akd c0 = 7) {u : ASt} (hf : f_X7_clocksOnce_33 N o0 p1 p2 x3 c0 y1 u = some (r, u')) : V 1 M X (some (.int r), u') 5 33 [(0, .ref (X.2.1 o0)), (1, .int p1), (2, .int p2), (3, .int x3)] [.int y1, .ref (X.2.1 c0)] u := by
  unfold f_X7_clocksOnce_33 at hf
  refine v_iload_n K 2 rfl rfl dX7_clocksOnce_33 ?_
  obtain ⟨r7, u6, e8, hf⟩ := bnd_of hf
  refine v_callVi K (c_X7_shifts hc0 e8) cv_X7_shifts ml_X7_179 (am1_7 hc0) hc0 kdX7 ⟨rfl, rfl, Nat.le_of_ble_eq_true rfl, Nat.le_of_ble_eq_true rfl⟩ rfl rfl (Nat.le_of_ble_eq_true rfl) dX7_clocksOnce_34 ?_
  refine v_istore K (ls' := [(4, .int r7), (0, .ref (X.2.1 o0)), (1, .int p1), (2, .int p2), (3, .int x3)]) (by decide) rfl dX7_clocksOnce_37 ?_
  refine v_goto K 47 (by decide) dX7_clocksOnce_39 ?_
  refine v_sub [1, 2, 4, 0] rfl ?_
  exact t_X7_clocksOnce_47 h0 K hf
set_option maxRecDepth 20000 in
theorem t_X7_clocksOnce_21 {M : Mx} {X : Wx} {N : Nat} {o0 : Nat} {p1 : Int32} {p2 : Int32} (h0 : akd o0 = 7) {r : Int32} {u' : ASt} (K : OkM 1 M X cX7_clocksOnce 5 RX7 rm_X7_clocksOnce (some .int)) {x3 : Int32} {u : ASt} (hf : f_X7_clocksOnce_21 N o0 p1 p2 x3 u = some (r, u')) : V 1 M X (some (.int r), u') 5 21 [(0, .ref (X.2.1 o0)), (1, .int p1), (2, .int p2), (3, .int x3)] [] u := by
  unfold f_X7_clocksOnce_21 at hf
  refine v_aload_n K 0 rfl rfl dX7_clocksOnce_21 ?_
  refine v_iload_n K 3 rfl rfl dX7_clocksOnce_22 ?_
  refine v_bipush K (v := 11) (by decide) dX7_clocksOnce_23 ?_
  refine v_icmp_ne K 32 (by decide) dX7_clocksOnce_25 (fun c9 => ?_) (fun c9 => ?_)
  · have hf := ite_f c9 hf
    refine v_iconst K (v := 5) (by decide) dX7_clocksOnce_32 ?_
    exact t_X7_clocksOnce_33 h0 K h0 hf
  · have hf := ite_t c9 hf
    refine v_iconst K (v := 4) (by decide) dX7_clocksOnce_28 ?_
    refine v_goto K 33 (by decide) dX7_clocksOnce_29 ?_
    exact t_X7_clocksOnce_33 h0 K h0 hf
set_option maxRecDepth 20000 in
theorem c_X7_clocksOnce {X : Wx} {N : Nat} {o0 : Nat} {p1 : Int32} {p2 : Int32} (h0 : akd o0 = 7) {u u' : ASt} {r : Int32} (hf : f_X7_clocksOnce N o0 p1 p2 u = some (r, u')) (l : Launch) : Met l yX7_clocksOnce (ws_ yX7_clocksOnce cX7_clocksOnce 5 (some .int)) rm_X7_clocksOnce (Pg 1 X u [.ref (X.2.1 o0), .int p1, .int p2]) (Qg 1 X (some (.int r)) u') 0 0 (Aw 1 X) := by
  refine v_met (res := (some (.int r), u')) (by decide) (Nat.le_of_ble_eq_true rfl) (fun M K => ?_)
  have K : OkM 1 M X cX7_clocksOnce 5 RX7 rm_X7_clocksOnce (some .int) := K
  show V 1 M X (some (.int r), u') 5 0 [(0, .ref (X.2.1 o0)), (1, .int p1), (2, .int p2)] [] u
  unfold f_X7_clocksOnce at hf
  refine v_aload_n K 0 rfl rfl dX7_clocksOnce_0 ?_
  refine gf_7_0 K h0 fl_X7_7 dX7_clocksOnce_1 ?_
  refine v_iconst K (v := 1) (by decide) dX7_clocksOnce_4 ?_
  obtain ⟨g10, hf⟩ := chk_of hf
  refine v_iald K (am1_12 (ak_7_0 h0)) (.inr (ak_7_0 h0)) g10 dX7_clocksOnce_5 ?_
  refine v_topi (fun z11 ez11 => ?_)
  have hf := lte_of ez11 hf
  refine v_istore_n K (ls' := [(3, .int z11), (0, .ref (X.2.1 o0)), (1, .int p1), (2, .int p2)]) rfl (by decide) rfl dX7_clocksOnce_6 ?_
  refine v_iconst K (v := 2) (by decide) dX7_clocksOnce_7 ?_
  refine v_istore K (ls' := [(4, .int 2), (3, .int z11), (0, .ref (X.2.1 o0)), (1, .int p1), (2, .int p2)]) (by decide) rfl dX7_clocksOnce_8 ?_
  refine v_iload_n K 1 rfl rfl dX7_clocksOnce_10 ?_
  refine v_iconst K (v := 4) (by decide) dX7_clocksOnce_11 ?_
  refine v_icmp_eq K 21 (by decide) dX7_clocksOnce_12 (fun c12 => ?_) (fun c12 => ?_)
  · have hf := ite_t c12 hf
    refine v_sub [2, 3, 4, 1] rfl ?_
    exact t_X7_clocksOnce_21 h0 K hf
  · have hf := ite_f c12 hf
    refine v_iload_n K 1 rfl rfl dX7_clocksOnce_15 ?_
    refine v_bipush K (v := 11) (by decide) dX7_clocksOnce_16 ?_
    refine v_icmp_ne K 42 (by decide) dX7_clocksOnce_18 (fun c13 => ?_) (fun c13 => ?_)
    · have hf := ite_f c13 hf
      refine v_aload_n K 2 rfl rfl dX7_clocksOnce_42 ?_
      refine v_iload_n K 1 rfl rfl dX7_clocksOnce_43 ?_
      obtain ⟨r15, u14, e16, hf⟩ := bnd_of hf
      refine v_callVv K (c_X7_doesPlace h0 e16) cv_X7_doesPlace ml_X7_182 (am1_7 h0) h0 kdX7 ⟨rfl, rfl, Nat.le_of_ble_eq_true rfl, Nat.le_of_ble_eq_true rfl⟩ rfl rfl (Nat.le_of_ble_eq_true rfl) dX7_clocksOnce_44 ?_
      refine v_sub [2, 3, 1, 0] rfl ?_
      exact t_X7_clocksOnce_47 h0 K hf
    · have hf := ite_t c13 hf
      refine v_sub [2, 3, 4, 1] rfl ?_
      exact t_X7_clocksOnce_21 h0 K hf
abbrev rm_X7_clocksTo : Room := { frames := 12, cells := 0, slots := 0, locals := 274 }
set_option maxRecDepth 20000 in
theorem t_X7_clocksTo_23 {M : Mx} {X : Wx} {N : Nat} {o0 : Nat} {p1 : Int32} {p2 : Int32} (h0 : akd o0 = 7) {r : Int32} {u' : ASt} (K : OkM 1 M X cX7_clocksTo 3 RX7 rm_X7_clocksTo (some .int)) {u : ASt} (hf : f_X7_clocksTo_23 N o0 p1 p2  u = some (r, u')) : V 1 M X (some (.int r), u') 3 23 [] [] u := by
  unfold f_X7_clocksTo_23 at hf
  refine v_bipush K (v := (-2)) (by decide) dX7_clocksTo_23 ?_
  obtain ⟨rfl, rfl⟩ := pair_of hf
  exact v_iret K dX7_clocksTo_25
set_option maxRecDepth 20000 in
theorem c_X7_clocksTo {X : Wx} {N : Nat} {o0 : Nat} {p1 : Int32} {p2 : Int32} (h0 : akd o0 = 7) {u u' : ASt} {r : Int32} (hf : f_X7_clocksTo N o0 p1 p2 u = some (r, u')) (l : Launch) : Met l yX7_clocksTo (ws_ yX7_clocksTo cX7_clocksTo 3 (some .int)) rm_X7_clocksTo (Pg 1 X u [.ref (X.2.1 o0), .int p1, .int p2]) (Qg 1 X (some (.int r)) u') 0 0 (Aw 1 X) := by
  refine v_met (res := (some (.int r), u')) (by decide) (Nat.le_of_ble_eq_true rfl) (fun M K => ?_)
  have K : OkM 1 M X cX7_clocksTo 3 RX7 rm_X7_clocksTo (some .int) := K
  show V 1 M X (some (.int r), u') 3 0 [(0, .ref (X.2.1 o0)), (1, .int p1), (2, .int p2)] [] u
  unfold f_X7_clocksTo at hf
  refine v_iload_n K 1 rfl rfl dX7_clocksTo_0 ?_
  obtain ⟨r2, u1, e3, hf⟩ := bnd_of hf
  refine v_callSi K (c_X7_isBit e3) cv_X7_isBit ml_X7_79 ⟨rfl, rfl, Nat.le_of_ble_eq_true rfl, Nat.le_of_ble_eq_true rfl⟩ rfl rfl (Nat.le_of_ble_eq_true rfl) dX7_clocksTo_1 ?_
  refine v_if_eq K 23 (by decide) dX7_clocksTo_4 (fun c4 => ?_) (fun c4 => ?_)
  · have hf := ite_t c4 hf
    refine v_sub [] rfl ?_
    exact t_X7_clocksTo_23 h0 K hf
  · have hf := ite_f c4 hf
    refine v_iload_n K 2 rfl rfl dX7_clocksTo_7 ?_
    obtain ⟨r6, u5, e7, hf⟩ := bnd_of hf
    refine v_callSi K (c_X7_isBit e7) cv_X7_isBit ml_X7_79 ⟨rfl, rfl, Nat.le_of_ble_eq_true rfl, Nat.le_of_ble_eq_true rfl⟩ rfl rfl (Nat.le_of_ble_eq_true rfl) dX7_clocksTo_8 ?_
    refine v_if_eq K 23 (by decide) dX7_clocksTo_11 (fun c8 => ?_) (fun c8 => ?_)
    · have hf := ite_t c8 hf
      refine v_sub [] rfl ?_
      exact t_X7_clocksTo_23 h0 K hf
    · have hf := ite_f c8 hf
      refine v_aload_n K 0 rfl rfl dX7_clocksTo_14 ?_
      refine v_iload_n K 1 rfl rfl dX7_clocksTo_15 ?_
      refine v_iload_n K 2 rfl rfl dX7_clocksTo_16 ?_
      obtain ⟨r10, u9, e11, hf⟩ := bnd_of hf
      refine v_callVi K (c_X7_clocksOnce h0 e11) cv_X7_clocksOnce ml_X7_188 (am1_7 h0) h0 kdX7 ⟨rfl, rfl, Nat.le_of_ble_eq_true rfl, Nat.le_of_ble_eq_true rfl⟩ rfl rfl (Nat.le_of_ble_eq_true rfl) dX7_clocksTo_17 ?_
      refine v_goto K 25 (by decide) dX7_clocksTo_20 ?_
      obtain ⟨rfl, rfl⟩ := pair_of hf
      exact v_iret K dX7_clocksTo_25
abbrev rm_X7_clock : Room := { frames := 13, cells := 0, slots := 0, locals := 296 }
set_option maxRecDepth 20000 in
theorem c_X7_clock {X : Wx} {N : Nat} {o0 : Nat} {p1 : Int32} {p2 : Int32} (h0 : akd o0 = 7) {u u' : ASt} {r : Int32} (hf : f_X7_clock N o0 p1 p2 u = some (r, u')) (l : Launch) : Met l yX7_clock (ws_ yX7_clock cX7_clock 3 (some .int)) rm_X7_clock (Pg 1 X u [.ref (X.2.1 o0), .int p1, .int p2]) (Qg 1 X (some (.int r)) u') 0 0 (Aw 1 X) := by
  refine v_met (res := (some (.int r), u')) (by decide) (Nat.le_of_ble_eq_true rfl) (fun M K => ?_)
  have K : OkM 1 M X cX7_clock 3 RX7 rm_X7_clock (some .int) := K
  show V 1 M X (some (.int r), u') 3 0 [(0, .ref (X.2.1 o0)), (1, .int p1), (2, .int p2)] [] u
  unfold f_X7_clock at hf
  refine v_aload_n K 0 rfl rfl dX7_clock_0 ?_
  obtain ⟨r2, u1, e3, hf⟩ := bnd_of hf
  refine v_callVv K (c_X7_laysAside h0 e3) cv_X7_laysAside ml_X7_93 (am1_7 h0) h0 kdX7 ⟨rfl, rfl, Nat.le_of_ble_eq_true rfl, Nat.le_of_ble_eq_true rfl⟩ rfl rfl (Nat.le_of_ble_eq_true rfl) dX7_clock_1 ?_
  refine v_aload_n K 0 rfl rfl dX7_clock_4 ?_
  refine v_aload_n K 0 rfl rfl dX7_clock_5 ?_
  refine v_iload_n K 1 rfl rfl dX7_clock_6 ?_
  refine v_iload_n K 2 rfl rfl dX7_clock_7 ?_
  obtain ⟨r5, u4, e6, hf⟩ := bnd_of hf
  refine v_callVi K (c_X7_clocksTo h0 e6) cv_X7_clocksTo ml_X7_191 (am1_7 h0) h0 kdX7 ⟨rfl, rfl, Nat.le_of_ble_eq_true rfl, Nat.le_of_ble_eq_true rfl⟩ rfl rfl (Nat.le_of_ble_eq_true rfl) dX7_clock_8 ?_
  obtain ⟨r8, u7, e9, hf⟩ := bnd_of hf
  refine v_callVi K (c_X7_ends h0 e9) cv_X7_ends ml_X7_99 (am1_7 h0) h0 kdX7 ⟨rfl, rfl, Nat.le_of_ble_eq_true rfl, Nat.le_of_ble_eq_true rfl⟩ rfl rfl (Nat.le_of_ble_eq_true rfl) dX7_clock_11 ?_
  obtain ⟨rfl, rfl⟩ := pair_of hf
  exact v_iret K dX7_clock_14
abbrev rm_X7_clocks : Room := { frames := 12, cells := 0, slots := 0, locals := 274 }
set_option maxRecDepth 20000 in
theorem t_X7_clocks_104 {M : Mx} {X : Wx} {N : Nat} {o0 : Nat} {p1 : Int32} {p2 : Int32} {p3 : Int32} (h0 : akd o0 = 7) {r : Int32} {u' : ASt} (K : OkM 1 M X cX7_clocks 8 RX7 rm_X7_clocks (some .int)) {k48 : Int32 → Int32 → Int32 → ASt → Option (Int32 × ASt)} (hk48 : ∀ (x4 : Int32) (x5 : Int32) (x6 : Int32) (u : ASt), k48 x4 x5 x6 u = some (r, u') → V 1 M X (some (.int r), u') 8 48 [(0, .ref (X.2.1 o0)), (1, .int p1), (2, .int p2), (3, .int p3), (4, .int x4), (5, .int x5), (6, .int x6)] [] u) {x4 : Int32} {x6 : Int32} {y0 : Int32} {y1 : Int32} {u : ASt} (hf : f_X7_clocks_104 N o0 p1 p2 p3 k48 x4 x6 y0 y1 u = some (r, u')) : V 1 M X (some (.int r), u') 8 104 [(0, .ref (X.2.1 o0)), (1, .int p1), (2, .int p2), (3, .int p3), (4, .int x4), (6, .int x6)] [.int y1, .int y0] u := by
  unfold f_X7_clocks_104 at hf
  refine v_iadd K dX7_clocks_104 ?_
  refine v_topi (fun z1 ez1 => ?_)
  have hf := lte_of ez1 hf
  refine v_istore K (ls' := [(5, .int z1), (0, .ref (X.2.1 o0)), (1, .int p1), (2, .int p2), (3, .int p3), (4, .int x4), (6, .int x6)]) (by decide) rfl dX7_clocks_105 ?_
  refine v_iinc K 6 (v := x6 + 1) (ls' := [(6, .int (x6 + 1)), (5, .int z1), (0, .ref (X.2.1 o0)), (1, .int p1), (2, .int p2), (3, .int p3), (4, .int x4)]) rfl rfl (by decide) rfl dX7_clocks_107 ?_
  refine v_goto K 48 (by decide) dX7_clocks_110 ?_
  refine v_sub [2, 3, 4, 5, 6, 1, 0] rfl ?_
  exact hk48 x4 z1 (x6 + 1) u hf
set_option maxRecDepth 20000 in
theorem t_X7_clocks_88 {M : Mx} {X : Wx} {N : Nat} {o0 : Nat} {p1 : Int32} {p2 : Int32} {p3 : Int32} (h0 : akd o0 = 7) {r : Int32} {u' : ASt} (K : OkM 1 M X cX7_clocks 8 RX7 rm_X7_clocks (some .int)) {k48 : Int32 → Int32 → Int32 → ASt → Option (Int32 × ASt)} (hk48 : ∀ (x4 : Int32) (x5 : Int32) (x6 : Int32) (u : ASt), k48 x4 x5 x6 u = some (r, u') → V 1 M X (some (.int r), u') 8 48 [(0, .ref (X.2.1 o0)), (1, .int p1), (2, .int p2), (3, .int p3), (4, .int x4), (5, .int x5), (6, .int x6)] [] u) {x5 : Int32} {x6 : Int32} {x7 : Int32} {y0 : Int32} {y1 : Int32} {u : ASt} (hf : f_X7_clocks_88 N o0 p1 p2 p3 k48 x5 x6 x7 y0 y1 u = some (r, u')) : V 1 M X (some (.int r), u') 8 88 [(0, .ref (X.2.1 o0)), (1, .int p1), (2, .int p2), (3, .int p3), (5, .int x5), (6, .int x6), (7, .int x7)] [.int y1, .int y0] u := by
  unfold f_X7_clocks_88 at hf
  refine v_ior K dX7_clocks_88 ?_
  refine v_topi (fun z2 ez2 => ?_)
  have hf := lte_of ez2 hf
  refine v_istore K (ls' := [(4, .int z2), (0, .ref (X.2.1 o0)), (1, .int p1), (2, .int p2), (3, .int p3), (5, .int x5), (6, .int x6), (7, .int x7)]) (by decide) rfl dX7_clocks_89 ?_
  refine v_iload K 5 rfl dX7_clocks_91 ?_
  refine v_iload K 7 rfl dX7_clocks_93 ?_
  refine v_iconst K (v := 2) (by decide) dX7_clocks_95 ?_
  refine v_icmp_ge K 103 (by decide) dX7_clocks_96 (fun c3 => ?_) (fun c3 => ?_)
  · have hf := ite_t c3 hf
    refine v_iconst K (v := 0) (by decide) dX7_clocks_103 ?_
    refine v_sub [1, 2, 3, 4, 0, 6] rfl ?_
    exact t_X7_clocks_104 h0 K hk48 hf
  · have hf := ite_f c3 hf
    refine v_iconst K (v := 1) (by decide) dX7_clocks_99 ?_
    refine v_goto K 104 (by decide) dX7_clocks_100 ?_
    refine v_sub [1, 2, 3, 4, 0, 6] rfl ?_
    exact t_X7_clocks_104 h0 K hk48 hf
set_option maxRecDepth 20000 in
theorem t_X7_clocks_48 {M : Mx} {X : Wx} {N : Nat} {o0 : Nat} {p1 : Int32} {p2 : Int32} {p3 : Int32} (h0 : akd o0 = 7) {r : Int32} {u' : ASt} (K : OkM 1 M X cX7_clocks 8 RX7 rm_X7_clocks (some .int)) : ∀ (n : Nat) (x4 : Int32) (x5 : Int32) (x6 : Int32) (u : ASt), f_X7_clocks_48 N o0 p1 p2 p3 n x4 x5 x6 u = some (r, u') → V 1 M X (some (.int r), u') 8 48 [(0, .ref (X.2.1 o0)), (1, .int p1), (2, .int p2), (3, .int p3), (4, .int x4), (5, .int x5), (6, .int x6)] [] u := by
  intro n
  induction n with
  | zero => intro x4 x5 x6 u hf; cases hf
  | succ n ih =>
    intro x4 x5 x6 u hf
    rw [f_X7_clocks_48] at hf
    refine v_iload K 6 rfl dX7_clocks_48 ?_
    refine v_iload_n K 1 rfl rfl dX7_clocks_50 ?_
    refine v_icmp_ge K 113 (by decide) dX7_clocks_51 (fun c4 => ?_) (fun c4 => ?_)
    · have hf := ite_t c4 hf
      refine v_aload_n K 0 rfl rfl dX7_clocks_113 ?_
      obtain ⟨r6, u5, e7, hf⟩ := bnd_of hf
      refine v_callVv K (c_X7_leaves h0 e7) cv_X7_leaves ml_X7_66 (am1_7 h0) h0 kdX7 ⟨rfl, rfl, Nat.le_of_ble_eq_true rfl, Nat.le_of_ble_eq_true rfl⟩ rfl rfl (Nat.le_of_ble_eq_true rfl) dX7_clocks_114 ?_
      refine v_iload K 4 rfl dX7_clocks_117 ?_
      obtain ⟨rfl, rfl⟩ := pair_of hf
      exact v_iret K dX7_clocks_119
    · have hf := ite_f c4 hf
      refine v_aload_n K 0 rfl rfl dX7_clocks_54 ?_
      refine v_iload_n K 2 rfl rfl dX7_clocks_55 ?_
      refine v_iload K 6 rfl dX7_clocks_56 ?_
      refine v_ishr K dX7_clocks_58 ?_
      refine v_iconst K (v := 1) (by decide) dX7_clocks_59 ?_
      refine v_iand K dX7_clocks_60 ?_
      refine v_iload_n K 3 rfl rfl dX7_clocks_61 ?_
      refine v_iload K 6 rfl dX7_clocks_62 ?_
      refine v_ishr K dX7_clocks_64 ?_
      refine v_iconst K (v := 1) (by decide) dX7_clocks_65 ?_
      refine v_iand K dX7_clocks_66 ?_
      obtain ⟨r9, u8, e10, hf⟩ := bnd_of hf
      refine v_callVi K (c_X7_clocksOnce h0 e10) cv_X7_clocksOnce ml_X7_188 (am1_7 h0) h0 kdX7 ⟨rfl, rfl, Nat.le_of_ble_eq_true rfl, Nat.le_of_ble_eq_true rfl⟩ rfl rfl (Nat.le_of_ble_eq_true rfl) dX7_clocks_67 ?_
      refine v_istore K (ls' := [(7, .int r9), (0, .ref (X.2.1 o0)), (1, .int p1), (2, .int p2), (3, .int p3), (4, .int x4), (5, .int x5), (6, .int x6)]) (by decide) rfl dX7_clocks_70 ?_
      refine v_iload K 5 rfl dX7_clocks_72 ?_
      refine v_iload K 0 rfl dX7_clocks_74 ?_
      refine v_iconst K (v := 1) (by decide) dX7_clocks_76 ?_
      refine v_icmp_ne K 87 (by decide) dX7_clocks_77 (fun c11 => ?_) (fun c11 => ?_)
      · have hf := ite_f c11 hf
        refine v_iconst K (v := 0) (by decide) dX7_clocks_87 ?_
        refine v_sub [1, 2, 3, 4, 6, 7, 0] rfl ?_
        exact t_X7_clocks_88 h0 K ih hf
      · have hf := ite_t c11 hf
        refine v_iconst K (v := 1) (by decide) dX7_clocks_80 ?_
        refine v_iload K 6 rfl dX7_clocks_81 ?_
        refine v_ishl K dX7_clocks_83 ?_
        refine v_goto K 88 (by decide) dX7_clocks_84 ?_
        refine v_sub [1, 2, 3, 4, 6, 7, 0] rfl ?_
        exact t_X7_clocks_88 h0 K ih hf
set_option maxRecDepth 20000 in
theorem t_X7_clocks_30 {M : Mx} {X : Wx} {N : Nat} {o0 : Nat} {p1 : Int32} {p2 : Int32} {p3 : Int32} (h0 : akd o0 = 7) {r : Int32} {u' : ASt} (K : OkM 1 M X cX7_clocks 8 RX7 rm_X7_clocks (some .int)) {u : ASt} (hf : f_X7_clocks_30 N o0 p1 p2 p3  u = some (r, u')) : V 1 M X (some (.int r), u') 8 30 [(0, .ref (X.2.1 o0))] [] u := by
  unfold f_X7_clocks_30 at hf
  refine v_aload_n K 0 rfl rfl dX7_clocks_30 ?_
  obtain ⟨r13, u12, e14, hf⟩ := bnd_of hf
  refine v_callVi K (c_X7_bad h0 e14) cv_X7_bad ml_X7_72 (am1_7 h0) h0 kdX7 ⟨rfl, rfl, Nat.le_of_ble_eq_true rfl, Nat.le_of_ble_eq_true rfl⟩ rfl rfl (Nat.le_of_ble_eq_true rfl) dX7_clocks_31 ?_
  obtain ⟨rfl, rfl⟩ := pair_of hf
  exact v_iret K dX7_clocks_34
set_option maxRecDepth 20000 in
theorem c_X7_clocks {X : Wx} {N : Nat} {o0 : Nat} {p1 : Int32} {p2 : Int32} {p3 : Int32} (h0 : akd o0 = 7) {u u' : ASt} {r : Int32} (hf : f_X7_clocks N o0 p1 p2 p3 u = some (r, u')) (l : Launch) : Met l yX7_clocks (ws_ yX7_clocks cX7_clocks 8 (some .int)) rm_X7_clocks (Pg 1 X u [.ref (X.2.1 o0), .int p1, .int p2, .int p3]) (Qg 1 X (some (.int r)) u') 0 0 (Aw 1 X) := by
  refine v_met (res := (some (.int r), u')) (by decide) (Nat.le_of_ble_eq_true rfl) (fun M K => ?_)
  have K : OkM 1 M X cX7_clocks 8 RX7 rm_X7_clocks (some .int) := K
  show V 1 M X (some (.int r), u') 8 0 [(0, .ref (X.2.1 o0)), (1, .int p1), (2, .int p2), (3, .int p3)] [] u
  unfold f_X7_clocks at hf
  refine v_iload_n K 1 rfl rfl dX7_clocks_0 ?_
  refine v_iconst K (v := 1) (by decide) dX7_clocks_1 ?_
  refine v_bipush K (v := 16) (by decide) dX7_clocks_2 ?_
  obtain ⟨r16, u15, e17, hf⟩ := bnd_of hf
  refine v_callSi K (c_X7_within e17) cv_X7_within ml_X7_43 ⟨rfl, rfl, Nat.le_of_ble_eq_true rfl, Nat.le_of_ble_eq_true rfl⟩ rfl rfl (Nat.le_of_ble_eq_true rfl) dX7_clocks_4 ?_
  refine v_if_eq K 30 (by decide) dX7_clocks_7 (fun c18 => ?_) (fun c18 => ?_)
  · have hf := ite_t c18 hf
    refine v_sub [0] rfl ?_
    exact t_X7_clocks_30 h0 K hf
  · have hf := ite_f c18 hf
    refine v_iload_n K 2 rfl rfl dX7_clocks_10 ?_
    refine v_iconst K (v := 0) (by decide) dX7_clocks_11 ?_
    refine v_ldc K co_X7_194 dX7_clocks_12 ?_
    obtain ⟨r20, u19, e21, hf⟩ := bnd_of hf
    refine v_callSi K (c_X7_within e21) cv_X7_within ml_X7_43 ⟨rfl, rfl, Nat.le_of_ble_eq_true rfl, Nat.le_of_ble_eq_true rfl⟩ rfl rfl (Nat.le_of_ble_eq_true rfl) dX7_clocks_14 ?_
    refine v_if_eq K 30 (by decide) dX7_clocks_17 (fun c22 => ?_) (fun c22 => ?_)
    · have hf := ite_t c22 hf
      refine v_sub [0] rfl ?_
      exact t_X7_clocks_30 h0 K hf
    · have hf := ite_f c22 hf
      refine v_iload_n K 3 rfl rfl dX7_clocks_20 ?_
      refine v_iconst K (v := 0) (by decide) dX7_clocks_21 ?_
      refine v_ldc K co_X7_194 dX7_clocks_22 ?_
      obtain ⟨r24, u23, e25, hf⟩ := bnd_of hf
      refine v_callSi K (c_X7_within e25) cv_X7_within ml_X7_43 ⟨rfl, rfl, Nat.le_of_ble_eq_true rfl, Nat.le_of_ble_eq_true rfl⟩ rfl rfl (Nat.le_of_ble_eq_true rfl) dX7_clocks_24 ?_
      refine v_if_ne K 35 (by decide) dX7_clocks_27 (fun c26 => ?_) (fun c26 => ?_)
      · have hf := ite_f c26 hf
        refine v_aload_n K 0 rfl rfl dX7_clocks_35 ?_
        obtain ⟨r28, u27, e29, hf⟩ := bnd_of hf
        refine v_callVv K (c_X7_laysAside h0 e29) cv_X7_laysAside ml_X7_93 (am1_7 h0) h0 kdX7 ⟨rfl, rfl, Nat.le_of_ble_eq_true rfl, Nat.le_of_ble_eq_true rfl⟩ rfl rfl (Nat.le_of_ble_eq_true rfl) dX7_clocks_36 ?_
        refine v_iconst K (v := 0) (by decide) dX7_clocks_39 ?_
        refine v_istore K (ls' := [(4, .int 0), (0, .ref (X.2.1 o0)), (1, .int p1), (2, .int p2), (3, .int p3)]) (by decide) rfl dX7_clocks_40 ?_
        refine v_iconst K (v := 0) (by decide) dX7_clocks_42 ?_
        refine v_istore K (ls' := [(5, .int 0), (4, .int 0), (0, .ref (X.2.1 o0)), (1, .int p1), (2, .int p2), (3, .int p3)]) (by decide) rfl dX7_clocks_43 ?_
        refine v_iconst K (v := 0) (by decide) dX7_clocks_45 ?_
        refine v_istore K (ls' := [(6, .int 0), (5, .int 0), (4, .int 0), (0, .ref (X.2.1 o0)), (1, .int p1), (2, .int p2), (3, .int p3)]) (by decide) rfl dX7_clocks_46 ?_
        refine v_sub [3, 4, 5, 6, 2, 1, 0] rfl ?_
        exact t_X7_clocks_48 h0 K N 0 0 0 u27 hf
      · have hf := ite_t c26 hf
        refine v_sub [0] rfl ?_
        exact t_X7_clocks_30 h0 K hf
abbrev rm_X7_longAll : Room := { frames := 4, cells := 0, slots := 0, locals := 87 }
set_option maxRecDepth 20000 in
theorem t_X7_longAll_31 {M : Mx} {X : Wx} {N : Nat} {o0 : Nat} {p1 : Int32} (h0 : akd o0 = 7) {r : Int32} {u' : ASt} (K : OkM 1 M X cX7_longAll 4 RX7 rm_X7_longAll (some .int)) {k4 : Int32 → Int32 → ASt → Option (Int32 × ASt)} (hk4 : ∀ (x2 : Int32) (x3 : Int32) (u : ASt), k4 x2 x3 u = some (r, u') → V 1 M X (some (.int r), u') 4 4 [(0, .ref (X.2.1 o0)), (1, .int p1), (2, .int x2), (3, .int x3)] [] u) {x3 : Int32} {y0 : Int32} {y1 : Int32} {u : ASt} (hf : f_X7_longAll_31 N o0 p1 k4 x3 y0 y1 u = some (r, u')) : V 1 M X (some (.int r), u') 4 31 [(0, .ref (X.2.1 o0)), (1, .int p1), (3, .int x3)] [.int y1, .int y0] u := by
  unfold f_X7_longAll_31 at hf
  refine v_iadd K dX7_longAll_31 ?_
  refine v_topi (fun z1 ez1 => ?_)
  have hf := lte_of ez1 hf
  refine v_istore_n K (ls' := [(2, .int z1), (0, .ref (X.2.1 o0)), (1, .int p1), (3, .int x3)]) rfl (by decide) rfl dX7_longAll_32 ?_
  refine v_iinc K 3 (v := x3 + 1) (ls' := [(3, .int (x3 + 1)), (2, .int z1), (0, .ref (X.2.1 o0)), (1, .int p1)]) rfl rfl (by decide) rfl dX7_longAll_33 ?_
  refine v_goto K 4 (by decide) dX7_longAll_36 ?_
  refine v_sub [2, 3, 1, 0] rfl ?_
  exact hk4 z1 (x3 + 1) u hf
set_option maxRecDepth 20000 in
theorem t_X7_longAll_4 {M : Mx} {X : Wx} {N : Nat} {o0 : Nat} {p1 : Int32} (h0 : akd o0 = 7) {r : Int32} {u' : ASt} (K : OkM 1 M X cX7_longAll 4 RX7 rm_X7_longAll (some .int)) : ∀ (n : Nat) (x2 : Int32) (x3 : Int32) (u : ASt), f_X7_longAll_4 N o0 p1 n x2 x3 u = some (r, u') → V 1 M X (some (.int r), u') 4 4 [(0, .ref (X.2.1 o0)), (1, .int p1), (2, .int x2), (3, .int x3)] [] u := by
  intro n
  induction n with
  | zero => intro x2 x3 u hf; cases hf
  | succ n ih =>
    intro x2 x3 u hf
    rw [f_X7_longAll_4] at hf
    refine v_iload_n K 3 rfl rfl dX7_longAll_4 ?_
    refine v_aload_n K 0 rfl rfl dX7_longAll_5 ?_
    obtain ⟨r3, u2, e4, hf⟩ := bnd_of hf
    refine v_callVi K (c_X7_chips h0 e4) cv_X7_chips ml_X7_121 (am1_7 h0) h0 kdX7 ⟨rfl, rfl, Nat.le_of_ble_eq_true rfl, Nat.le_of_ble_eq_true rfl⟩ rfl rfl (Nat.le_of_ble_eq_true rfl) dX7_longAll_6 ?_
    refine v_icmp_ge K 39 (by decide) dX7_longAll_9 (fun c5 => ?_) (fun c5 => ?_)
    · have hf := ite_t c5 hf
      refine v_iload_n K 2 rfl rfl dX7_longAll_39 ?_
      obtain ⟨rfl, rfl⟩ := pair_of hf
      exact v_iret K dX7_longAll_40
    · have hf := ite_f c5 hf
      refine v_iload_n K 2 rfl rfl dX7_longAll_12 ?_
      refine v_iload_n K 1 rfl rfl dX7_longAll_13 ?_
      refine v_if_eq K 26 (by decide) dX7_longAll_14 (fun c6 => ?_) (fun c6 => ?_)
      · have hf := ite_t c6 hf
        refine v_aload_n K 0 rfl rfl dX7_longAll_26 ?_
        refine v_iload_n K 3 rfl rfl dX7_longAll_27 ?_
        obtain ⟨r8, u7, e9, hf⟩ := bnd_of hf
        refine v_callVi K (c_X7_longOf h0 e9) cv_X7_longOf ml_X7_173 (am1_7 h0) h0 kdX7 ⟨rfl, rfl, Nat.le_of_ble_eq_true rfl, Nat.le_of_ble_eq_true rfl⟩ rfl rfl (Nat.le_of_ble_eq_true rfl) dX7_longAll_28 ?_
        refine v_sub [0, 1, 3] rfl ?_
        exact t_X7_longAll_31 h0 K ih hf
      · have hf := ite_f c6 hf
        refine v_aload_n K 0 rfl rfl dX7_longAll_17 ?_
        refine v_iload_n K 3 rfl rfl dX7_longAll_18 ?_
        refine v_iconst K (v := 0) (by decide) dX7_longAll_19 ?_
        obtain ⟨r11, u10, e12, hf⟩ := bnd_of hf
        refine v_callVi K (c_X7_get h0 e12) cv_X7_get ml_X7_55 (am1_7 h0) h0 kdX7 ⟨rfl, rfl, Nat.le_of_ble_eq_true rfl, Nat.le_of_ble_eq_true rfl⟩ rfl rfl (Nat.le_of_ble_eq_true rfl) dX7_longAll_20 ?_
        refine v_goto K 31 (by decide) dX7_longAll_23 ?_
        refine v_sub [0, 1, 3] rfl ?_
        exact t_X7_longAll_31 h0 K ih hf
set_option maxRecDepth 20000 in
theorem c_X7_longAll {X : Wx} {N : Nat} {o0 : Nat} {p1 : Int32} (h0 : akd o0 = 7) {u u' : ASt} {r : Int32} (hf : f_X7_longAll N o0 p1 u = some (r, u')) (l : Launch) : Met l yX7_longAll (ws_ yX7_longAll cX7_longAll 4 (some .int)) rm_X7_longAll (Pg 1 X u [.ref (X.2.1 o0), .int p1]) (Qg 1 X (some (.int r)) u') 0 0 (Aw 1 X) := by
  refine v_met (res := (some (.int r), u')) (by decide) (Nat.le_of_ble_eq_true rfl) (fun M K => ?_)
  have K : OkM 1 M X cX7_longAll 4 RX7 rm_X7_longAll (some .int) := K
  show V 1 M X (some (.int r), u') 4 0 [(0, .ref (X.2.1 o0)), (1, .int p1)] [] u
  unfold f_X7_longAll at hf
  refine v_iconst K (v := 0) (by decide) dX7_longAll_0 ?_
  refine v_istore_n K (ls' := [(2, .int 0), (0, .ref (X.2.1 o0)), (1, .int p1)]) rfl (by decide) rfl dX7_longAll_1 ?_
  refine v_iconst K (v := 0) (by decide) dX7_longAll_2 ?_
  refine v_istore_n K (ls' := [(3, .int 0), (2, .int 0), (0, .ref (X.2.1 o0)), (1, .int p1)]) rfl (by decide) rfl dX7_longAll_3 ?_
  refine v_sub [2, 3, 1, 0] rfl ?_
  exact t_X7_longAll_4 h0 K N 0 0 u hf
abbrev rm_X7_fightsNow : Room := { frames := 10, cells := 0, slots := 0, locals := 228 }
set_option maxRecDepth 20000 in
theorem c_X7_fightsNow {X : Wx} {N : Nat} {o0 : Nat} (h0 : akd o0 = 7) {u u' : ASt} {r : Int32} (hf : f_X7_fightsNow N o0 u = some (r, u')) (l : Launch) : Met l yX7_fightsNow (ws_ yX7_fightsNow cX7_fightsNow 1 (some .int)) rm_X7_fightsNow (Pg 1 X u [.ref (X.2.1 o0)]) (Qg 1 X (some (.int r)) u') 0 0 (Aw 1 X) := by
  refine v_met (res := (some (.int r), u')) (by decide) (Nat.le_of_ble_eq_true rfl) (fun M K => ?_)
  have K : OkM 1 M X cX7_fightsNow 1 RX7 rm_X7_fightsNow (some .int) := K
  show V 1 M X (some (.int r), u') 1 0 [(0, .ref (X.2.1 o0))] [] u
  unfold f_X7_fightsNow at hf
  refine v_aload_n K 0 rfl rfl dX7_fightsNow_0 ?_
  obtain ⟨r2, u1, e3, hf⟩ := bnd_of hf
  refine v_callVv K (c_X7_laysNow h0 e3) cv_X7_laysNow ml_X7_164 (am1_7 h0) h0 kdX7 ⟨rfl, rfl, Nat.le_of_ble_eq_true rfl, Nat.le_of_ble_eq_true rfl⟩ rfl rfl (Nat.le_of_ble_eq_true rfl) dX7_fightsNow_1 ?_
  refine v_aload_n K 0 rfl rfl dX7_fightsNow_4 ?_
  refine gf_7_10 K h0 fl_X7_148 dX7_fightsNow_5 ?_
  obtain ⟨rfl, rfl⟩ := pair_of hf
  exact v_iret K dX7_fightsNow_8
abbrev rm_X7_tellPort : Room := { frames := 11, cells := 0, slots := 0, locals := 250 }
set_option maxRecDepth 20000 in
theorem c_X7_tellPort {X : Wx} {N : Nat} {o0 : Nat} {p1 : Int32} (h0 : akd o0 = 7) {u u' : ASt} {r : Int32} (hf : f_X7_tellPort N o0 p1 u = some (r, u')) (l : Launch) : Met l yX7_tellPort (ws_ yX7_tellPort cX7_tellPort 2 (some .int)) rm_X7_tellPort (Pg 1 X u [.ref (X.2.1 o0), .int p1]) (Qg 1 X (some (.int r)) u') 0 0 (Aw 1 X) := by
  refine v_met (res := (some (.int r), u')) (by decide) (Nat.le_of_ble_eq_true rfl) (fun M K => ?_)
  have K : OkM 1 M X cX7_tellPort 2 RX7 rm_X7_tellPort (some .int) := K
  show V 1 M X (some (.int r), u') 2 0 [(0, .ref (X.2.1 o0)), (1, .int p1)] [] u
  unfold f_X7_tellPort at hf
  refine v_iload_n K 1 rfl rfl dX7_tellPort_0 ?_
  by_cases c1 : p1 = 0
  · have hf := ite_t c1 hf
    refine v_tabK K 32 c1 (a := 0) (by decide) (by decide) (by decide) rfl (by decide) dX7_tellPort_1 ?_
    refine v_aload_n K 0 rfl rfl dX7_tellPort_32 ?_
    refine gf_7_0 K h0 fl_X7_7 dX7_tellPort_33 ?_
    refine v_iconst K (v := 1) (by decide) dX7_tellPort_36 ?_
    obtain ⟨g2, hf⟩ := chk_of hf
    refine v_iald K (am1_12 (ak_7_0 h0)) (.inr (ak_7_0 h0)) g2 dX7_tellPort_37 ?_
    obtain ⟨rfl, rfl⟩ := pair_of hf
    exact v_iret K dX7_tellPort_38
  have hf := ite_f c1 hf
  by_cases c3 : p1 = 1
  · have hf := ite_t c3 hf
    refine v_tabK K 39 c3 (a := 1) (by decide) (by decide) (by decide) rfl (by decide) dX7_tellPort_1 ?_
    refine v_aload_n K 0 rfl rfl dX7_tellPort_39 ?_
    refine v_iconst K (v := 0) (by decide) dX7_tellPort_40 ?_
    obtain ⟨r5, u4, e6, hf⟩ := bnd_of hf
    refine v_callVi K (c_X7_longAll h0 e6) cv_X7_longAll ml_X7_195 (am1_7 h0) h0 kdX7 ⟨rfl, rfl, Nat.le_of_ble_eq_true rfl, Nat.le_of_ble_eq_true rfl⟩ rfl rfl (Nat.le_of_ble_eq_true rfl) dX7_tellPort_41 ?_
    obtain ⟨rfl, rfl⟩ := pair_of hf
    exact v_iret K dX7_tellPort_44
  have hf := ite_f c3 hf
  by_cases c7 : p1 = 2
  · have hf := ite_t c7 hf
    refine v_tabK K 45 c7 (a := 2) (by decide) (by decide) (by decide) rfl (by decide) dX7_tellPort_1 ?_
    refine v_aload_n K 0 rfl rfl dX7_tellPort_45 ?_
    refine v_iconst K (v := 1) (by decide) dX7_tellPort_46 ?_
    obtain ⟨r9, u8, e10, hf⟩ := bnd_of hf
    refine v_callVi K (c_X7_longAll h0 e10) cv_X7_longAll ml_X7_195 (am1_7 h0) h0 kdX7 ⟨rfl, rfl, Nat.le_of_ble_eq_true rfl, Nat.le_of_ble_eq_true rfl⟩ rfl rfl (Nat.le_of_ble_eq_true rfl) dX7_tellPort_47 ?_
    obtain ⟨rfl, rfl⟩ := pair_of hf
    exact v_iret K dX7_tellPort_50
  have hf := ite_f c7 hf
  by_cases c11 : p1 = 3
  · have hf := ite_t c11 hf
    refine v_tabK K 51 c11 (a := 3) (by decide) (by decide) (by decide) rfl (by decide) dX7_tellPort_1 ?_
    refine v_aload_n K 0 rfl rfl dX7_tellPort_51 ?_
    obtain ⟨r13, u12, e14, hf⟩ := bnd_of hf
    refine v_callVi K (c_X7_fightsNow h0 e14) cv_X7_fightsNow ml_X7_199 (am1_7 h0) h0 kdX7 ⟨rfl, rfl, Nat.le_of_ble_eq_true rfl, Nat.le_of_ble_eq_true rfl⟩ rfl rfl (Nat.le_of_ble_eq_true rfl) dX7_tellPort_52 ?_
    obtain ⟨rfl, rfl⟩ := pair_of hf
    exact v_iret K dX7_tellPort_55
  have hf := ite_f c11 hf
  refine v_tabD K 56 (keys := [0, 1, 2, 3]) (by decide) (by decide) (List.forall_mem_cons.mpr ⟨lv_neT c1 (by decide), (List.forall_mem_cons.mpr ⟨lv_neT c3 (by decide), (List.forall_mem_cons.mpr ⟨lv_neT c7 (by decide), (List.forall_mem_cons.mpr ⟨lv_neT c11 (by decide), (fun _ h => absurd h List.not_mem_nil)⟩)⟩)⟩)⟩) (by decide) dX7_tellPort_1 ?_
  refine v_aload_n K 0 rfl rfl dX7_tellPort_56 ?_
  obtain ⟨r16, u15, e17, hf⟩ := bnd_of hf
  refine v_callVi K (c_X7_onesNow h0 e17) cv_X7_onesNow ml_X7_202 (am1_7 h0) h0 kdX7 ⟨rfl, rfl, Nat.le_of_ble_eq_true rfl, Nat.le_of_ble_eq_true rfl⟩ rfl rfl (Nat.le_of_ble_eq_true rfl) dX7_tellPort_57 ?_
  obtain ⟨rfl, rfl⟩ := pair_of hf
  exact v_iret K dX7_tellPort_60
abbrev rm_X7_port : Room := { frames := 12, cells := 0, slots := 0, locals := 271 }
set_option maxRecDepth 20000 in
theorem c_X7_port {X : Wx} {N : Nat} {o0 : Nat} {p1 : Int32} (h0 : akd o0 = 7) {u u' : ASt} {r : Int32} (hf : f_X7_port N o0 p1 u = some (r, u')) (l : Launch) : Met l yX7_port (ws_ yX7_port cX7_port 2 (some .int)) rm_X7_port (Pg 1 X u [.ref (X.2.1 o0), .int p1]) (Qg 1 X (some (.int r)) u') 0 0 (Aw 1 X) := by
  refine v_met (res := (some (.int r), u')) (by decide) (Nat.le_of_ble_eq_true rfl) (fun M K => ?_)
  have K : OkM 1 M X cX7_port 2 RX7 rm_X7_port (some .int) := K
  show V 1 M X (some (.int r), u') 2 0 [(0, .ref (X.2.1 o0)), (1, .int p1)] [] u
  unfold f_X7_port at hf
  refine v_iload_n K 1 rfl rfl dX7_port_0 ?_
  refine v_iconst K (v := 0) (by decide) dX7_port_1 ?_
  refine v_iconst K (v := 4) (by decide) dX7_port_2 ?_
  obtain ⟨r2, u1, e3, hf⟩ := bnd_of hf
  refine v_callSi K (c_X7_within e3) cv_X7_within ml_X7_43 ⟨rfl, rfl, Nat.le_of_ble_eq_true rfl, Nat.le_of_ble_eq_true rfl⟩ rfl rfl (Nat.le_of_ble_eq_true rfl) dX7_port_3 ?_
  refine v_if_eq K 17 (by decide) dX7_port_6 (fun c4 => ?_) (fun c4 => ?_)
  · have hf := ite_t c4 hf
    refine v_aload_n K 0 rfl rfl dX7_port_17 ?_
    obtain ⟨r6, u5, e7, hf⟩ := bnd_of hf
    refine v_callVi K (c_X7_bad h0 e7) cv_X7_bad ml_X7_72 (am1_7 h0) h0 kdX7 ⟨rfl, rfl, Nat.le_of_ble_eq_true rfl, Nat.le_of_ble_eq_true rfl⟩ rfl rfl (Nat.le_of_ble_eq_true rfl) dX7_port_18 ?_
    obtain ⟨rfl, rfl⟩ := pair_of hf
    exact v_iret K dX7_port_21
  · have hf := ite_f c4 hf
    refine v_aload_n K 0 rfl rfl dX7_port_9 ?_
    refine v_iload_n K 1 rfl rfl dX7_port_10 ?_
    obtain ⟨r9, u8, e10, hf⟩ := bnd_of hf
    refine v_callVi K (c_X7_tellPort h0 e10) cv_X7_tellPort ml_X7_205 (am1_7 h0) h0 kdX7 ⟨rfl, rfl, Nat.le_of_ble_eq_true rfl, Nat.le_of_ble_eq_true rfl⟩ rfl rfl (Nat.le_of_ble_eq_true rfl) dX7_port_11 ?_
    refine v_goto K 21 (by decide) dX7_port_14 ?_
    obtain ⟨rfl, rfl⟩ := pair_of hf
    exact v_iret K dX7_port_21
abbrev rm_X7_tellChip : Room := { frames := 4, cells := 0, slots := 0, locals := 87 }
set_option maxRecDepth 20000 in
theorem c_X7_tellChip {X : Wx} {N : Nat} {o0 : Nat} {p1 : Int32} {p2 : Int32} (h0 : akd o0 = 7) {u u' : ASt} {r : Int32} (hf : f_X7_tellChip N o0 p1 p2 u = some (r, u')) (l : Launch) : Met l yX7_tellChip (ws_ yX7_tellChip cX7_tellChip 3 (some .int)) rm_X7_tellChip (Pg 1 X u [.ref (X.2.1 o0), .int p1, .int p2]) (Qg 1 X (some (.int r)) u') 0 0 (Aw 1 X) := by
  refine v_met (res := (some (.int r), u')) (by decide) (Nat.le_of_ble_eq_true rfl) (fun M K => ?_)
  have K : OkM 1 M X cX7_tellChip 3 RX7 rm_X7_tellChip (some .int) := K
  show V 1 M X (some (.int r), u') 3 0 [(0, .ref (X.2.1 o0)), (1, .int p1), (2, .int p2)] [] u
  unfold f_X7_tellChip at hf
  refine v_iload_n K 2 rfl rfl dX7_tellChip_0 ?_
  by_cases c1 : p2 = 0
  · have hf := ite_t c1 hf
    refine v_tabK K 44 c1 (a := 0) (by decide) (by decide) (by decide) rfl (by decide) dX7_tellChip_1 ?_
    refine v_aload_n K 0 rfl rfl dX7_tellChip_44 ?_
    refine v_iload_n K 1 rfl rfl dX7_tellChip_45 ?_
    refine v_iconst K (v := 0) (by decide) dX7_tellChip_46 ?_
    obtain ⟨r3, u2, e4, hf⟩ := bnd_of hf
    refine v_callVi K (c_X7_get h0 e4) cv_X7_get ml_X7_55 (am1_7 h0) h0 kdX7 ⟨rfl, rfl, Nat.le_of_ble_eq_true rfl, Nat.le_of_ble_eq_true rfl⟩ rfl rfl (Nat.le_of_ble_eq_true rfl) dX7_tellChip_47 ?_
    obtain ⟨rfl, rfl⟩ := pair_of hf
    exact v_iret K dX7_tellChip_50
  have hf := ite_f c1 hf
  by_cases c5 : p2 = 1
  · have hf := ite_t c5 hf
    refine v_tabK K 51 c5 (a := 1) (by decide) (by decide) (by decide) rfl (by decide) dX7_tellChip_1 ?_
    refine v_aload_n K 0 rfl rfl dX7_tellChip_51 ?_
    refine v_iload_n K 1 rfl rfl dX7_tellChip_52 ?_
    refine v_iconst K (v := 1) (by decide) dX7_tellChip_53 ?_
    obtain ⟨r7, u6, e8, hf⟩ := bnd_of hf
    refine v_callVi K (c_X7_get h0 e8) cv_X7_get ml_X7_55 (am1_7 h0) h0 kdX7 ⟨rfl, rfl, Nat.le_of_ble_eq_true rfl, Nat.le_of_ble_eq_true rfl⟩ rfl rfl (Nat.le_of_ble_eq_true rfl) dX7_tellChip_54 ?_
    obtain ⟨rfl, rfl⟩ := pair_of hf
    exact v_iret K dX7_tellChip_57
  have hf := ite_f c5 hf
  by_cases c9 : p2 = 2
  · have hf := ite_t c9 hf
    refine v_tabK K 58 c9 (a := 2) (by decide) (by decide) (by decide) rfl (by decide) dX7_tellChip_1 ?_
    refine v_aload_n K 0 rfl rfl dX7_tellChip_58 ?_
    refine v_iload_n K 1 rfl rfl dX7_tellChip_59 ?_
    refine v_iconst K (v := 2) (by decide) dX7_tellChip_60 ?_
    obtain ⟨r11, u10, e12, hf⟩ := bnd_of hf
    refine v_callVi K (c_X7_get h0 e12) cv_X7_get ml_X7_55 (am1_7 h0) h0 kdX7 ⟨rfl, rfl, Nat.le_of_ble_eq_true rfl, Nat.le_of_ble_eq_true rfl⟩ rfl rfl (Nat.le_of_ble_eq_true rfl) dX7_tellChip_61 ?_
    obtain ⟨rfl, rfl⟩ := pair_of hf
    exact v_iret K dX7_tellChip_64
  have hf := ite_f c9 hf
  by_cases c13 : p2 = 3
  · have hf := ite_t c13 hf
    refine v_tabK K 65 c13 (a := 3) (by decide) (by decide) (by decide) rfl (by decide) dX7_tellChip_1 ?_
    refine v_aload_n K 0 rfl rfl dX7_tellChip_65 ?_
    refine v_iload_n K 1 rfl rfl dX7_tellChip_66 ?_
    refine v_iconst K (v := 3) (by decide) dX7_tellChip_67 ?_
    obtain ⟨r15, u14, e16, hf⟩ := bnd_of hf
    refine v_callVi K (c_X7_get h0 e16) cv_X7_get ml_X7_55 (am1_7 h0) h0 kdX7 ⟨rfl, rfl, Nat.le_of_ble_eq_true rfl, Nat.le_of_ble_eq_true rfl⟩ rfl rfl (Nat.le_of_ble_eq_true rfl) dX7_tellChip_68 ?_
    obtain ⟨rfl, rfl⟩ := pair_of hf
    exact v_iret K dX7_tellChip_71
  have hf := ite_f c13 hf
  by_cases c17 : p2 = 4
  · have hf := ite_t c17 hf
    refine v_tabK K 72 c17 (a := 4) (by decide) (by decide) (by decide) rfl (by decide) dX7_tellChip_1 ?_
    refine v_aload_n K 0 rfl rfl dX7_tellChip_72 ?_
    refine v_iload_n K 1 rfl rfl dX7_tellChip_73 ?_
    obtain ⟨r19, u18, e20, hf⟩ := bnd_of hf
    refine v_callVi K (c_X7_longOf h0 e20) cv_X7_longOf ml_X7_173 (am1_7 h0) h0 kdX7 ⟨rfl, rfl, Nat.le_of_ble_eq_true rfl, Nat.le_of_ble_eq_true rfl⟩ rfl rfl (Nat.le_of_ble_eq_true rfl) dX7_tellChip_74 ?_
    obtain ⟨rfl, rfl⟩ := pair_of hf
    exact v_iret K dX7_tellChip_77
  have hf := ite_f c17 hf
  by_cases c21 : p2 = 5
  · have hf := ite_t c21 hf
    refine v_tabK K 78 c21 (a := 5) (by decide) (by decide) (by decide) rfl (by decide) dX7_tellChip_1 ?_
    refine v_aload_n K 0 rfl rfl dX7_tellChip_78 ?_
    refine v_iload_n K 1 rfl rfl dX7_tellChip_79 ?_
    refine v_iconst K (v := 4) (by decide) dX7_tellChip_80 ?_
    obtain ⟨r23, u22, e24, hf⟩ := bnd_of hf
    refine v_callVi K (c_X7_get h0 e24) cv_X7_get ml_X7_55 (am1_7 h0) h0 kdX7 ⟨rfl, rfl, Nat.le_of_ble_eq_true rfl, Nat.le_of_ble_eq_true rfl⟩ rfl rfl (Nat.le_of_ble_eq_true rfl) dX7_tellChip_81 ?_
    obtain ⟨rfl, rfl⟩ := pair_of hf
    exact v_iret K dX7_tellChip_84
  have hf := ite_f c21 hf
  by_cases c25 : p2 = 6
  · have hf := ite_t c25 hf
    refine v_tabK K 85 c25 (a := 6) (by decide) (by decide) (by decide) rfl (by decide) dX7_tellChip_1 ?_
    refine v_aload_n K 0 rfl rfl dX7_tellChip_85 ?_
    refine v_iload_n K 1 rfl rfl dX7_tellChip_86 ?_
    refine v_iconst K (v := 5) (by decide) dX7_tellChip_87 ?_
    obtain ⟨r27, u26, e28, hf⟩ := bnd_of hf
    refine v_callVi K (c_X7_get h0 e28) cv_X7_get ml_X7_55 (am1_7 h0) h0 kdX7 ⟨rfl, rfl, Nat.le_of_ble_eq_true rfl, Nat.le_of_ble_eq_true rfl⟩ rfl rfl (Nat.le_of_ble_eq_true rfl) dX7_tellChip_88 ?_
    obtain ⟨rfl, rfl⟩ := pair_of hf
    exact v_iret K dX7_tellChip_91
  have hf := ite_f c25 hf
  refine v_tabD K 92 (keys := [0, 1, 2, 3, 4, 5, 6]) (by decide) (by decide) (List.forall_mem_cons.mpr ⟨lv_neT c1 (by decide), (List.forall_mem_cons.mpr ⟨lv_neT c5 (by decide), (List.forall_mem_cons.mpr ⟨lv_neT c9 (by decide), (List.forall_mem_cons.mpr ⟨lv_neT c13 (by decide), (List.forall_mem_cons.mpr ⟨lv_neT c17 (by decide), (List.forall_mem_cons.mpr ⟨lv_neT c21 (by decide), (List.forall_mem_cons.mpr ⟨lv_neT c25 (by decide), (fun _ h => absurd h List.not_mem_nil)⟩)⟩)⟩)⟩)⟩)⟩)⟩) (by decide) dX7_tellChip_1 ?_
  refine v_aload_n K 0 rfl rfl dX7_tellChip_92 ?_
  refine v_iload_n K 1 rfl rfl dX7_tellChip_93 ?_
  refine v_bipush K (v := 6) (by decide) dX7_tellChip_94 ?_
  obtain ⟨r30, u29, e31, hf⟩ := bnd_of hf
  refine v_callVi K (c_X7_get h0 e31) cv_X7_get ml_X7_55 (am1_7 h0) h0 kdX7 ⟨rfl, rfl, Nat.le_of_ble_eq_true rfl, Nat.le_of_ble_eq_true rfl⟩ rfl rfl (Nat.le_of_ble_eq_true rfl) dX7_tellChip_96 ?_
  obtain ⟨rfl, rfl⟩ := pair_of hf
  exact v_iret K dX7_tellChip_99
abbrev rm_X7_of : Room := { frames := 5, cells := 0, slots := 0, locals := 109 }
set_option maxRecDepth 20000 in
theorem t_X7_of_27 {M : Mx} {X : Wx} {N : Nat} {o0 : Nat} {p1 : Int32} {p2 : Int32} (h0 : akd o0 = 7) {r : Int32} {u' : ASt} (K : OkM 1 M X cX7_of 3 RX7 rm_X7_of (some .int)) {u : ASt} (hf : f_X7_of_27 N o0 p1 p2  u = some (r, u')) : V 1 M X (some (.int r), u') 3 27 [(0, .ref (X.2.1 o0))] [] u := by
  unfold f_X7_of_27 at hf
  refine v_aload_n K 0 rfl rfl dX7_of_27 ?_
  obtain ⟨r2, u1, e3, hf⟩ := bnd_of hf
  refine v_callVi K (c_X7_bad h0 e3) cv_X7_bad ml_X7_72 (am1_7 h0) h0 kdX7 ⟨rfl, rfl, Nat.le_of_ble_eq_true rfl, Nat.le_of_ble_eq_true rfl⟩ rfl rfl (Nat.le_of_ble_eq_true rfl) dX7_of_28 ?_
  obtain ⟨rfl, rfl⟩ := pair_of hf
  exact v_iret K dX7_of_31
set_option maxRecDepth 20000 in
theorem c_X7_of {X : Wx} {N : Nat} {o0 : Nat} {p1 : Int32} {p2 : Int32} (h0 : akd o0 = 7) {u u' : ASt} {r : Int32} (hf : f_X7_of N o0 p1 p2 u = some (r, u')) (l : Launch) : Met l yX7_of (ws_ yX7_of cX7_of 3 (some .int)) rm_X7_of (Pg 1 X u [.ref (X.2.1 o0), .int p1, .int p2]) (Qg 1 X (some (.int r)) u') 0 0 (Aw 1 X) := by
  refine v_met (res := (some (.int r), u')) (by decide) (Nat.le_of_ble_eq_true rfl) (fun M K => ?_)
  have K : OkM 1 M X cX7_of 3 RX7 rm_X7_of (some .int) := K
  show V 1 M X (some (.int r), u') 3 0 [(0, .ref (X.2.1 o0)), (1, .int p1), (2, .int p2)] [] u
  unfold f_X7_of at hf
  refine v_aload_n K 0 rfl rfl dX7_of_0 ?_
  refine v_iload_n K 1 rfl rfl dX7_of_1 ?_
  obtain ⟨r5, u4, e6, hf⟩ := bnd_of hf
  refine v_callVi K (c_X7_isChip h0 e6) cv_X7_isChip ml_X7_51 (am1_7 h0) h0 kdX7 ⟨rfl, rfl, Nat.le_of_ble_eq_true rfl, Nat.le_of_ble_eq_true rfl⟩ rfl rfl (Nat.le_of_ble_eq_true rfl) dX7_of_2 ?_
  refine v_if_eq K 27 (by decide) dX7_of_5 (fun c7 => ?_) (fun c7 => ?_)
  · have hf := ite_t c7 hf
    refine v_sub [0] rfl ?_
    exact t_X7_of_27 h0 K hf
  · have hf := ite_f c7 hf
    refine v_iload_n K 2 rfl rfl dX7_of_8 ?_
    refine v_iconst K (v := 0) (by decide) dX7_of_9 ?_
    refine v_bipush K (v := 7) (by decide) dX7_of_10 ?_
    obtain ⟨r9, u8, e10, hf⟩ := bnd_of hf
    refine v_callSi K (c_X7_within e10) cv_X7_within ml_X7_43 ⟨rfl, rfl, Nat.le_of_ble_eq_true rfl, Nat.le_of_ble_eq_true rfl⟩ rfl rfl (Nat.le_of_ble_eq_true rfl) dX7_of_12 ?_
    refine v_if_eq K 27 (by decide) dX7_of_15 (fun c11 => ?_) (fun c11 => ?_)
    · have hf := ite_t c11 hf
      refine v_sub [0] rfl ?_
      exact t_X7_of_27 h0 K hf
    · have hf := ite_f c11 hf
      refine v_aload_n K 0 rfl rfl dX7_of_18 ?_
      refine v_iload_n K 1 rfl rfl dX7_of_19 ?_
      refine v_iload_n K 2 rfl rfl dX7_of_20 ?_
      obtain ⟨r13, u12, e14, hf⟩ := bnd_of hf
      refine v_callVi K (c_X7_tellChip h0 e14) cv_X7_tellChip ml_X7_208 (am1_7 h0) h0 kdX7 ⟨rfl, rfl, Nat.le_of_ble_eq_true rfl, Nat.le_of_ble_eq_true rfl⟩ rfl rfl (Nat.le_of_ble_eq_true rfl) dX7_of_21 ?_
      refine v_goto K 31 (by decide) dX7_of_24 ?_
      obtain ⟨rfl, rfl⟩ := pair_of hf
      exact v_iret K dX7_of_31
