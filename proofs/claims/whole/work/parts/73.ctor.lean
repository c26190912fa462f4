/-! the constructors -/
def fr0 : List Value := [.null, .int 0, .null, .int 0, .int 0, .int 0, .int 0]
theorem df_X0 : ∀ j, j < 7 → defaultValue (tyX0 j) = vp_V fr0 j := by
  intro j hj
  rcases (show j = 0 ∨ j = 1 ∨ j = 2 ∨ j = 3 ∨ j = 4 ∨ j = 5 ∨ j = 6 by omega) with rfl | rfl | rfl | rfl | rfl | rfl | rfl <;> rfl
def fr1 : List Value := [.int 0, .int 0, .int 0, .int 0, .int 0, .int 0, .int 0, .int 0, .null]
theorem df_X1 : ∀ j, j < 9 → defaultValue (tyX1 j) = vp_V fr1 j := by
  intro j hj
  rcases (show j = 0 ∨ j = 1 ∨ j = 2 ∨ j = 3 ∨ j = 4 ∨ j = 5 ∨ j = 6 ∨ j = 7 ∨ j = 8 by omega) with rfl | rfl | rfl | rfl | rfl | rfl | rfl | rfl | rfl <;> rfl
def fr2 : List Value := [.null, .int 0, .int 0]
theorem df_X2 : ∀ j, j < 3 → defaultValue (tyX2 j) = vp_V fr2 j := by
  intro j hj
  rcases (show j = 0 ∨ j = 1 ∨ j = 2 by omega) with rfl | rfl | rfl <;> rfl
def fr3 : List Value := [.null, .null, .null, .int 0, .int 0, .int 0]
theorem df_X3 : ∀ j, j < 6 → defaultValue (tyX3 j) = vp_V fr3 j := by
  intro j hj
  rcases (show j = 0 ∨ j = 1 ∨ j = 2 ∨ j = 3 ∨ j = 4 ∨ j = 5 by omega) with rfl | rfl | rfl | rfl | rfl | rfl <;> rfl
def fr4 : List Value := [.null, .null, .null, .null, .null, .null, .int 0, .int 0]
theorem df_X4 : ∀ j, j < 8 → defaultValue (tyX4 j) = vp_V fr4 j := by
  intro j hj
  rcases (show j = 0 ∨ j = 1 ∨ j = 2 ∨ j = 3 ∨ j = 4 ∨ j = 5 ∨ j = 6 ∨ j = 7 by omega) with rfl | rfl | rfl | rfl | rfl | rfl | rfl | rfl <;> rfl
def fr5 : List Value := [.null, .int 0, .null, .null, .int 0, .int 0, .int 0, .int 0, .int 0]
theorem df_X5 : ∀ j, j < 9 → defaultValue (tyX5 j) = vp_V fr5 j := by
  intro j hj
  rcases (show j = 0 ∨ j = 1 ∨ j = 2 ∨ j = 3 ∨ j = 4 ∨ j = 5 ∨ j = 6 ∨ j = 7 ∨ j = 8 by omega) with rfl | rfl | rfl | rfl | rfl | rfl | rfl | rfl | rfl <;> rfl
def fr6 : List Value := [.null, .null, .null, .null, .null, .int 0, .int 0, .int 0]
theorem df_X6 : ∀ j, j < 8 → defaultValue (tyX6 j) = vp_V fr6 j := by
  intro j hj
  rcases (show j = 0 ∨ j = 1 ∨ j = 2 ∨ j = 3 ∨ j = 4 ∨ j = 5 ∨ j = 6 ∨ j = 7 by omega) with rfl | rfl | rfl | rfl | rfl | rfl | rfl | rfl <;> rfl
def fr7 : List Value := [.null, .null, .null, .int 0, .null, .null, .int 0, .null, .int 0, .null, .int 0, .null, .null, .int 0, .int 0, .int 0, .null, .null, .long 0]
theorem df_X7 : ∀ j, j < 19 → defaultValue (tyX7 j) = vp_V fr7 j := by
  intro j hj
  rcases (show j = 0 ∨ j = 1 ∨ j = 2 ∨ j = 3 ∨ j = 4 ∨ j = 5 ∨ j = 6 ∨ j = 7 ∨ j = 8 ∨ j = 9 ∨ j = 10 ∨ j = 11 ∨ j = 12 ∨ j = 13 ∨ j = 14 ∨ j = 15 ∨ j = 16 ∨ j = 17 ∨ j = 18 by omega) with rfl | rfl | rfl | rfl | rfl | rfl | rfl | rfl | rfl | rfl | rfl | rfl | rfl | rfl | rfl | rfl | rfl | rfl | rfl <;> rfl
def reg (p sz : Nat) (f : Nat → va_E) (g : Nat → va_E) : Nat → va_E := fun k => if p ≤ k ∧ k < p + sz then f (k - p) else g k
theorem reg_in {p sz k r : Nat} {f g : Nat → va_E} (h1 : k = p + r) (h2 : r < sz) : reg p sz f g k = f r := by
  subst h1
  unfold reg
  rw [if_pos (by omega), Nat.add_sub_cancel_left]
theorem reg_out {p sz k : Nat} {f g : Nat → va_E} (h : k < p ∨ p + sz ≤ k) : reg p sz f g k = g k := by
  unfold reg
  rw [if_neg (by omega)]
theorem reg_0 {p sz : Nat} {f g : Nat → va_E} (h : 0 < sz) : reg p sz f g p = f 0 := by
  unfold reg
  rw [if_pos (by omega), Nat.sub_self]
theorem gup_s {g : Nat → va_E} {n : Nat} {e : va_E} : gup g n e n = e := if_pos rfl
theorem gup_n {g : Nat → va_E} {n k : Nat} {e : va_E} (h : k ≠ n) : gup g n e k = g k := if_neg h
def zar (B : Bx) (len : Nat) : va_E := .inl (B.2.1.2.1, len, .inl (fun _ => 0))
def zbr (B : Bx) (len : Nat) : va_E := .inl (B.2.1.1, len, .inl (fun _ => 0))
def rar (cA : ClassId) (len : Nat) (f : Nat → Option Nat) : va_E := .inl (cA, len, .inr (.inr (.inr (.inr f))))
abbrev rmI_X1 : Room := { frames := 1, cells := 1, slots := 6, locals := 12 }
abbrev rmI_X0 : Room := { frames := 2, cells := 10, slots := 68, locals := 32 }
abbrev rmI_X3 : Room := { frames := 1, cells := 2, slots := 12, locals := 12 }
abbrev rmI_X4 : Room := { frames := 2, cells := 7, slots := 148, locals := 33 }
abbrev rmI_X2 : Room := { frames := 3, cells := 67, slots := 456, locals := 53 }
abbrev rmI_X5 : Room := { frames := 1, cells := 3, slots := 360, locals := 12 }
abbrev rmI_X6 : Room := { frames := 4, cells := 94, slots := 1077, locals := 74 }
abbrev rmI_X7 : Room := { frames := 1, cells := 11, slots := 1008, locals := 12 }
def chp (B : Bx) (k : Nat) : va_E := .inr (1, fr1.set 8 (.ref (B.2.2 + (k + 1))))
theorem c_X1_init {B : Bx} {n j : Nat} {g : Nat → va_E} (hj : j < n) (hg : g j = .inr (1, fr1)) (l : Launch) : Met l yX1_init (ws_ yX1_init cX1_init 1 none) rmI_X1 (Pb B n g [.ref (B.2.2 + j)]) (Qb B (n + 1) (gup (gup g n (zar B 6)) j (.inr (1, fr1.set 8 (.ref (B.2.2 + n)))))) 1 6 (Ab B) := by
  refine b_met (by decide) rfl (Nat.le_of_ble_eq_true rfl) (fun M K I => ?_)
  have K : OkB M B cX1_init 1 RX1 rmI_X1 := K
  show VB M B (MQB M B (n + 1) (gup (gup g n (zar B 6)) j (.inr (1, fr1.set 8 (.ref (B.2.2 + n))))) 1 6) 1 0 [(0, .ref (B.2.2 + j))] [] n g 0 0
  refine b_aload_n K 0 rfl rfl dX1_init_0 ?_
  refine b_obj K mo_X1 wn_obj wc_obj (Nat.le_of_ble_eq_true rfl) (Nat.le_of_ble_eq_true rfl) dX1_init_1 ?_
  refine b_aload_n K 0 rfl rfl dX1_init_4 ?_
  refine b_bipush K (v := 6) rfl dX1_init_5 ?_
  refine b_newa K (atype := .int) (t := 1) (e := zar B 6) wa_int rfl (fun _ _ => rfl) rfl rfl (by decide) rfl (Nat.le_of_ble_eq_true rfl) (Nat.le_of_ble_eq_true rfl) (Nat.le_of_ble_eq_true rfl) dX1_init_7 ?_
  refine b_putF K I kdX1 (k := 8) (fs := fr1) (by omega) ((gup_n (by omega)).trans hg) (by decide) fl_X1_9 rfl rfl rfl rfl (Nat.le_of_ble_eq_true rfl) dX1_init_9 ?_
  exact b_vret K I dX1_init_12
def brc (B : Bx) (p c r : Nat) : va_E := if r = 0 then .inr (0, (fr0.set 0 (.ref (B.2.2 + (p + 1)))).set 2 (.ref (B.2.2 + (p + 2)))) else if r = 1 then rar B.2.1.2.2.2 4 (fun i => if i < c then some (B.2.2 + (p + 3 + 2 * i)) else none) else if r = 2 then zar B 4 else if r % 2 = 1 then chp B (p + r) else zar B 6
theorem brc_ne {B : Bx} {p c c' r : Nat} (h : r ≠ 1) : brc B p c r = brc B p c' r := by
  unfold brc
  by_cases h0 : r = 0
  · rw [if_pos h0, if_pos h0]
  · rw [if_neg h0, if_neg h0, if_neg h, if_neg h]
theorem bd_loop {M : Mx} {B : Bx} {j : Nat} {g : Nat → va_E} (K : OkB M B cX0_init 2 RX0 rmI_X0) (I : InB M) : ∀ d c, c + d = 4 → VB M B (MQB M B (j + 11) (reg j 11 (brc B j 4) g) 10 68) 2 21 [(0, .ref (B.2.2 + j)), (1, .int (nI c))] [] (j + 3 + 2 * c) (reg j (3 + 2 * c) (brc B j c) g) (2 + 2 * c) (8 + 15 * c) := by
  intro d
  induction d with
  | zero =>
    intro c hc
    obtain rfl : c = 4 := by omega
    refine b_iload_n K 1 rfl rfl dX0_init_21 ?_
    refine b_iconst K (v := 4) rfl dX0_init_22 ?_
    refine b_icmp_ge K 45 (by decide) dX0_init_23 (fun _ => ?_) (fun h => absurd (by decide) h)
    exact b_vret K I dX0_init_45
  | succ d ih =>
    intro c hc
    have h4 : ¬ (4 : Int32) ≤ nI c := fun z => by have := (nLE (a := 4) (by omega) (by omega)).mp z; omega
    obtain ⟨m, hm⟩ : ∃ m, m = j + 3 + 2 * c := ⟨_, rfl⟩
    refine b_iload_n K 1 rfl rfl dX0_init_21 ?_
    refine b_iconst K (v := 4) rfl dX0_init_22 ?_
    refine b_icmp_ge K 45 (by decide) dX0_init_23 (fun z => absurd z h4) (fun _ => ?_)
    refine b_aload_n K 0 rfl rfl dX0_init_26 ?_
    refine b_get K kdX0 (k := 0) (v := .ref (B.2.2 + (j + 1))) (by omega) (reg_0 (by omega)) (by decide) fl_X0_11 rfl rfl dX0_init_27 ?_
    refine b_iload_n K 1 rfl rfl dX0_init_30 ?_
    rw [← hm]
    refine b_new K kdX1 cl_X0_9 wm_X1 wi_X1 df_X1 (by show 2 + 2 * c + 1 ≤ 10; omega) (by show 8 + 15 * c + 9 ≤ 68; omega) dX0_init_31 ?_
    refine b_dup K rfl dX0_init_34 ?_
    refine b_callIN K (As := []) (rest := [.ref (B.2.2 + m), .int (nI c), .ref (B.2.2 + (j + 1))]) (c_X1_init (by omega) gup_s) ci_X1 (fun U h => h.2.2.2.1) ⟨rfl, rfl, Nat.le_of_ble_eq_true rfl, Nat.le_of_ble_eq_true rfl⟩ ⟨by show 2 + 2 * c + 1 + 1 ≤ 10; omega, by show 8 + 15 * c + 9 + 6 ≤ 68; omega⟩ rfl rfl (Nat.le_of_ble_eq_true rfl) dX0_init_35 ?_
    refine b_aast K (j := j + 1) (jv := m) (t := 3) (ci := 1) (r := (RX1, TX1, 9)) (len := 4) (cA := B.2.1.2.2.2) (vs := fr1.set 8 (.ref (B.2.2 + (m + 1)))) (f := fun i => if i < c then some (B.2.2 + (j + 3 + 2 * i)) else none) (by omega) ?_ rfl (by omega) gup_s rfl ?_ dX0_init_38 ?_
    · rw [gup_n (by omega), gup_n (by omega), gup_n (by omega)]
      exact reg_in (r := 1) rfl (by omega)
    · exact vp_in_nI (by omega) (by omega)
    refine b_iinc K 1 rfl (v := nI (c + 1)) (by exact nI_add c 1) (by decide) rfl dX0_init_39 ?_
    refine b_goto K 21 (by decide) dX0_init_42 ?_
    refine b_sub [1, 0] rfl ?_
    refine b_congr (g' := reg j (3 + 2 * (c + 1)) (brc B j (c + 1)) g) ?_ ?_
    · intro k hk
      by_cases h1 : k = j + 1
      · rw [h1, gup_s, reg_in (r := 1) rfl (by omega), nCl (by omega)]
        show rar _ _ _ = rar _ _ _
        congr 1
        funext i
        unfold va_up
        by_cases q : i = c
        · subst q
          rw [if_pos rfl, if_pos (by omega), hm]
        · rw [if_neg q]
          show (if i < c then some (B.2.2 + (j + 3 + 2 * i)) else none) = _
          by_cases q2 : i < c
          · rw [if_pos q2, if_pos (by omega)]
          · rw [if_neg q2, if_neg (by omega)]
      · rw [gup_n h1]
        by_cases h2 : k = m
        · subst h2
          rw [gup_s, hm, reg_in (r := 3 + 2 * c) (by omega) (by omega)]
          unfold brc
          rw [if_neg (by omega), if_neg (by omega), if_neg (by omega), if_pos (by omega)]
          unfold chp
          rw [show j + (3 + 2 * c) = j + 3 + 2 * c by omega]
        · rw [gup_n h2]
          by_cases h3 : k = m + 1
          · rw [h3, gup_s, hm, reg_in (r := 4 + 2 * c) (by omega) (by omega)]
            unfold brc
            rw [if_neg (by omega), if_neg (by omega), if_neg (by omega), if_neg (by omega)]
          · rw [gup_n h3, gup_n h2]
            by_cases h5 : j ≤ k
            · rw [reg_in (r := k - j) (by omega) (by omega), reg_in (r := k - j) (by omega) (by omega)]
              exact brc_ne (by omega)
            · rw [reg_out (by omega), reg_out (by omega)]
    · have := ih (c + 1) (by omega)
      rw [show j + 3 + 2 * (c + 1) = m + 1 + 1 by omega, show 2 + 2 * (c + 1) = 2 + 2 * c + 1 + 1 by omega, show 8 + 15 * (c + 1) = 8 + 15 * c + 9 + 6 by omega] at this
      exact this
theorem c_X0_init {B : Bx} {j : Nat} {g : Nat → va_E} (hg : g j = .inr (0, fr0)) (l : Launch) : Met l yX0_init (ws_ yX0_init cX0_init 2 none) rmI_X0 (Pb B (j + 1) g [.ref (B.2.2 + j)]) (Qb B (j + 11) (reg j 11 (brc B j 4) g)) 10 68 (Ab B) := by
  refine b_met (by decide) rfl (Nat.le_of_ble_eq_true rfl) (fun M K I => ?_)
  have K : OkB M B cX0_init 2 RX0 rmI_X0 := K
  show VB M B (MQB M B (j + 11) (reg j 11 (brc B j 4) g) 10 68) 2 0 [(0, .ref (B.2.2 + j))] [] (j + 1) g 0 0
  refine b_aload_n K 0 rfl rfl dX0_init_0 ?_
  refine b_obj K mo_X0 wn_obj wc_obj (Nat.le_of_ble_eq_true rfl) (Nat.le_of_ble_eq_true rfl) dX0_init_1 ?_
  refine b_aload_n K 0 rfl rfl dX0_init_4 ?_
  refine b_iconst K (v := 4) rfl dX0_init_5 ?_
  refine b_anew K (t := 3) cl_X0_9 (fun U h => h.2.1) rfl (by decide) rfl (Nat.le_of_ble_eq_true rfl) (Nat.le_of_ble_eq_true rfl) (Nat.le_of_ble_eq_true rfl) dX0_init_6 ?_
  refine b_putF K I kdX0 (k := 0) (fs := fr0) (by omega) ((gup_n (by omega)).trans hg) (by decide) fl_X0_11 rfl rfl rfl rfl (Nat.le_of_ble_eq_true rfl) dX0_init_9 ?_
  refine b_aload_n K 0 rfl rfl dX0_init_12 ?_
  refine b_iconst K (v := 4) rfl dX0_init_13 ?_
  refine b_newa K (atype := .int) (t := 1) (e := zar B 4) wa_int rfl (fun _ _ => rfl) rfl rfl (by decide) rfl (Nat.le_of_ble_eq_true rfl) (Nat.le_of_ble_eq_true rfl) (Nat.le_of_ble_eq_true rfl) dX0_init_14 ?_
  refine b_putF K I kdX0 (k := 2) (fs := fr0.set 0 (.ref (B.2.2 + (j + 1)))) (by omega) ((gup_n (by omega)).trans gup_s) (by decide) fl_X0_17 rfl rfl rfl rfl (Nat.le_of_ble_eq_true rfl) dX0_init_16 ?_
  refine b_iconst K (v := 0) rfl dX0_init_19 ?_
  refine b_istore_n K (ls' := [(1, .int 0), (0, .ref (B.2.2 + j))]) rfl (by decide) rfl dX0_init_20 ?_
  refine b_sub (ls' := [(0, .ref (B.2.2 + j)), (1, .int (nI 0))]) [1, 0] rfl ?_
  refine b_congr (g' := reg j (3 + 2 * 0) (brc B j 0) g) ?_ (bd_loop K I 4 0 rfl)
  intro k hk
  have h : k < j ∨ k = j ∨ k = j + 1 ∨ k = j + 2 := by omega
  rcases h with h | h | h | h
  · rw [reg_out (by omega), gup_n (by omega), gup_n (by omega), gup_n (by omega), gup_n (by omega)]
  · rw [h, reg_0 (by omega), gup_s]; rfl
  · rw [h, reg_in (r := 1) rfl (by omega), gup_n (by omega), gup_n (by omega), gup_n (by omega), gup_s]
    show rar _ _ _ = rar _ _ _
    congr 1
  · rw [h, reg_in (r := 2) rfl (by omega), gup_n (by omega), gup_s]; rfl
def ntc (B : Bx) (p a r : Nat) : va_E := if r = 0 then .inr (3, [.ref a, .ref (B.2.2 + (p + 1)), .ref (B.2.2 + (p + 2)), .int 0, .int 0, .int 0]) else if r = 1 then zar B 8 else zar B 4
theorem c_X3_init {B : Bx} {j a : Nat} {g : Nat → va_E} (hg : g j = .inr (3, fr3)) (l : Launch) : Met l yX3_init (ws_ yX3_init cX3_init 2 none) rmI_X3 (Pb B (j + 1) g [.ref (B.2.2 + j), .ref a]) (Qb B (j + 3) (reg j 3 (ntc B j a) g)) 2 12 (Ab B) := by
  refine b_met (by decide) rfl (Nat.le_of_ble_eq_true rfl) (fun M K I => ?_)
  have K : OkB M B cX3_init 2 RX3 rmI_X3 := K
  show VB M B (MQB M B (j + 3) (reg j 3 (ntc B j a) g) 2 12) 2 0 [(0, .ref (B.2.2 + j)), (1, .ref a)] [] (j + 1) g 0 0
  refine b_aload_n K 0 rfl rfl dX3_init_0 ?_
  refine b_obj K mo_X3 wn_obj wc_obj (Nat.le_of_ble_eq_true rfl) (Nat.le_of_ble_eq_true rfl) dX3_init_1 ?_
  refine b_aload_n K 0 rfl rfl dX3_init_4 ?_
  refine b_bipush K (v := 8) rfl dX3_init_5 ?_
  refine b_newa K (atype := .int) (t := 1) (e := zar B 8) wa_int rfl (fun _ _ => rfl) rfl rfl (by decide) rfl (Nat.le_of_ble_eq_true rfl) (Nat.le_of_ble_eq_true rfl) (Nat.le_of_ble_eq_true rfl) dX3_init_7 ?_
  refine b_putF K I kdX3 (k := 1) (fs := fr3) (by omega) ((gup_n (by omega)).trans hg) (by decide) fl_X3_9 rfl rfl rfl rfl (Nat.le_of_ble_eq_true rfl) dX3_init_9 ?_
  refine b_aload_n K 0 rfl rfl dX3_init_12 ?_
  refine b_iconst K (v := 4) rfl dX3_init_13 ?_
  refine b_newa K (atype := .int) (t := 1) (e := zar B 4) wa_int rfl (fun _ _ => rfl) rfl rfl (by decide) rfl (Nat.le_of_ble_eq_true rfl) (Nat.le_of_ble_eq_true rfl) (Nat.le_of_ble_eq_true rfl) dX3_init_14 ?_
  refine b_putF K I kdX3 (k := 2) (fs := fr3.set 1 (.ref (B.2.2 + (j + 1)))) (by omega) ((gup_n (by omega)).trans gup_s) (by decide) fl_X3_15 rfl rfl rfl rfl (Nat.le_of_ble_eq_true rfl) dX3_init_16 ?_
  refine b_aload_n K 0 rfl rfl dX3_init_19 ?_
  refine b_aload_n K 1 rfl rfl dX3_init_20 ?_
  refine b_putF K I kdX3 (k := 0) (fs := (fr3.set 1 (.ref (B.2.2 + (j + 1)))).set 2 (.ref (B.2.2 + (j + 1 + 1)))) (by omega) (gup_s) (by decide) fl_X3_18 rfl rfl rfl rfl (Nat.le_of_ble_eq_true rfl) dX3_init_21 ?_
  refine b_congr (g' := reg j 3 (ntc B j a) g) ?_ (b_vret K I dX3_init_24)
  intro k hk
  have h : k < j ∨ k = j ∨ k = j + 1 ∨ k = j + 2 := by omega
  rcases h with h | h | h | h
  · rw [reg_out (by omega), gup_n (by omega), gup_n (by omega), gup_n (by omega), gup_n (by omega), gup_n (by omega)]
  · rw [h, reg_0 (by omega), gup_s]; rfl
  · rw [h, reg_in (r := 1) rfl (by omega), gup_n (by omega), gup_n (by omega), gup_n (by omega), gup_n (by omega), gup_s]; rfl
  · rw [h, reg_in (r := 2) rfl (by omega), gup_n (by omega), gup_n (by omega), gup_s]; rfl
def ttc (B : Bx) (p a r : Nat) : va_E := if r = 0 then .inr (4, [.ref a, .ref (B.2.2 + (p + 5)), .ref (B.2.2 + (p + 1)), .ref (B.2.2 + (p + 2)), .ref (B.2.2 + (p + 3)), .ref (B.2.2 + (p + 4)), .int 0, .int 0]) else if r = 1 then zar B 8 else if r = 2 then zar B 24 else if r = 3 then zar B 1 else if r = 4 then zar B 97 else ntc B (p + 5) a (r - 5)
theorem c_X4_init {B : Bx} {j a : Nat} {g : Nat → va_E} (hg : g j = .inr (4, fr4)) (l : Launch) : Met l yX4_init (ws_ yX4_init cX4_init 2 none) rmI_X4 (Pb B (j + 1) g [.ref (B.2.2 + j), .ref a]) (Qb B (j + 8) (reg j 8 (ttc B j a) g)) 7 148 (Ab B) := by
  refine b_met (by decide) rfl (Nat.le_of_ble_eq_true rfl) (fun M K I => ?_)
  have K : OkB M B cX4_init 2 RX4 rmI_X4 := K
  show VB M B (MQB M B (j + 8) (reg j 8 (ttc B j a) g) 7 148) 2 0 [(0, .ref (B.2.2 + j)), (1, .ref a)] [] (j + 1) g 0 0
  refine b_aload_n K 0 rfl rfl dX4_init_0 ?_
  refine b_obj K mo_X4 wn_obj wc_obj (Nat.le_of_ble_eq_true rfl) (Nat.le_of_ble_eq_true rfl) dX4_init_1 ?_
  refine b_aload_n K 0 rfl rfl dX4_init_4 ?_
  refine b_bipush K (v := 8) rfl dX4_init_5 ?_
  refine b_newa K (atype := .int) (t := 1) (e := zar B 8) wa_int rfl (fun _ _ => rfl) rfl rfl (by decide) rfl (Nat.le_of_ble_eq_true rfl) (Nat.le_of_ble_eq_true rfl) (Nat.le_of_ble_eq_true rfl) dX4_init_7 ?_
  refine b_putF K I kdX4 (k := 2) (fs := fr4) (by omega) ((gup_n (by omega)).trans hg) (by decide) fl_X4_9 rfl rfl rfl rfl (Nat.le_of_ble_eq_true rfl) dX4_init_9 ?_
  refine b_aload_n K 0 rfl rfl dX4_init_12 ?_
  refine b_bipush K (v := 24) rfl dX4_init_13 ?_
  refine b_newa K (atype := .int) (t := 1) (e := zar B 24) wa_int rfl (fun _ _ => rfl) rfl rfl (by decide) rfl (Nat.le_of_ble_eq_true rfl) (Nat.le_of_ble_eq_true rfl) (Nat.le_of_ble_eq_true rfl) dX4_init_15 ?_
  refine b_putF K I kdX4 (k := 3) (fs := (fr4.set 2 (.ref (B.2.2 + (j + 1))))) (by omega) ((gup_n (by omega)).trans gup_s) (by decide) fl_X4_15 rfl rfl rfl rfl (Nat.le_of_ble_eq_true rfl) dX4_init_17 ?_
  refine b_aload_n K 0 rfl rfl dX4_init_20 ?_
  refine b_iconst K (v := 1) rfl dX4_init_21 ?_
  refine b_newa K (atype := .int) (t := 1) (e := zar B 1) wa_int rfl (fun _ _ => rfl) rfl rfl (by decide) rfl (Nat.le_of_ble_eq_true rfl) (Nat.le_of_ble_eq_true rfl) (Nat.le_of_ble_eq_true rfl) dX4_init_22 ?_
  refine b_putF K I kdX4 (k := 4) (fs := ((fr4.set 2 (.ref (B.2.2 + (j + 1)))).set 3 (.ref (B.2.2 + (j + 1 + 1))))) (by omega) ((gup_n (by omega)).trans gup_s) (by decide) fl_X4_18 rfl rfl rfl rfl (Nat.le_of_ble_eq_true rfl) dX4_init_24 ?_
  refine b_aload_n K 0 rfl rfl dX4_init_27 ?_
  refine b_bipush K (v := 97) rfl dX4_init_28 ?_
  refine b_newa K (atype := .int) (t := 1) (e := zar B 97) wa_int rfl (fun _ _ => rfl) rfl rfl (by decide) rfl (Nat.le_of_ble_eq_true rfl) (Nat.le_of_ble_eq_true rfl) (Nat.le_of_ble_eq_true rfl) dX4_init_30 ?_
  refine b_putF K I kdX4 (k := 5) (fs := (((fr4.set 2 (.ref (B.2.2 + (j + 1)))).set 3 (.ref (B.2.2 + (j + 1 + 1)))).set 4 (.ref (B.2.2 + (j + 1 + 1 + 1))))) (by omega) ((gup_n (by omega)).trans gup_s) (by decide) fl_X4_21 rfl rfl rfl rfl (Nat.le_of_ble_eq_true rfl) dX4_init_32 ?_
  refine b_aload_n K 0 rfl rfl dX4_init_35 ?_
  refine b_aload_n K 1 rfl rfl dX4_init_36 ?_
  refine b_putF K I kdX4 (k := 0) (fs := ((((fr4.set 2 (.ref (B.2.2 + (j + 1)))).set 3 (.ref (B.2.2 + (j + 1 + 1)))).set 4 (.ref (B.2.2 + (j + 1 + 1 + 1)))).set 5 (.ref (B.2.2 + (j + 1 + 1 + 1 + 1))))) (by omega) (gup_s) (by decide) fl_X4_24 rfl rfl rfl rfl (Nat.le_of_ble_eq_true rfl) dX4_init_37 ?_
  refine b_aload_n K 0 rfl rfl dX4_init_40 ?_
  refine b_new K kdX3 cl_X4_28 wm_X3 wi_X3 df_X3 (Nat.le_of_ble_eq_true rfl) (Nat.le_of_ble_eq_true rfl) dX4_init_41 ?_
  refine b_dup K rfl dX4_init_44 ?_
  refine b_aload_n K 1 rfl rfl dX4_init_45 ?_
  refine b_callI K (As := [.ref a]) (rest := [.ref (B.2.2 + (j + 1 + 1 + 1 + 1 + 1)), .ref (B.2.2 + j)]) (c_X3_init gup_s) ci_X3 ml_X4_30 ⟨rfl, rfl, Nat.le_of_ble_eq_true rfl, Nat.le_of_ble_eq_true rfl⟩ ⟨Nat.le_of_ble_eq_true rfl, Nat.le_of_ble_eq_true rfl⟩ rfl rfl (Nat.le_of_ble_eq_true rfl) dX4_init_46 ?_
  refine b_putF K I kdX4 (k := 1) (fs := (((((fr4.set 2 (.ref (B.2.2 + (j + 1)))).set 3 (.ref (B.2.2 + (j + 1 + 1)))).set 4 (.ref (B.2.2 + (j + 1 + 1 + 1)))).set 5 (.ref (B.2.2 + (j + 1 + 1 + 1 + 1)))).set 0 (.ref a))) (by omega) ((reg_out (by omega)).trans ((gup_n (by omega)).trans gup_s)) (by decide) fl_X4_33 rfl rfl rfl rfl (Nat.le_of_ble_eq_true rfl) dX4_init_49 ?_
  refine b_congr (g' := reg j 8 (ttc B j a) g) ?_ (b_vret K I dX4_init_52)
  intro k hk
  have h : k < j ∨ k = j ∨ k = j + 1 ∨ k = j + 2 ∨ k = j + 3 ∨ k = j + 4 ∨ (j + 5 ≤ k ∧ k < j + 8) := by omega
  rcases h with h | h | h | h | h | h | h
  · rw [reg_out (by omega), gup_n (by omega), reg_out (by omega)]
    repeat rw [gup_n (by omega)]
  · rw [h, reg_0 (by omega), gup_s]; rfl
  · rw [h, reg_in (r := 1) rfl (by omega), gup_n (by omega), reg_out (by omega)]
    iterate 9 rw [gup_n (by omega)]
    rw [gup_s]; rfl
  · rw [h, reg_in (r := 2) rfl (by omega), gup_n (by omega), reg_out (by omega)]
    iterate 7 rw [gup_n (by omega)]
    rw [gup_s]; rfl
  · rw [h, reg_in (r := 3) rfl (by omega), gup_n (by omega), reg_out (by omega)]
    iterate 5 rw [gup_n (by omega)]
    rw [gup_s]; rfl
  · rw [h, reg_in (r := 4) rfl (by omega), gup_n (by omega), reg_out (by omega)]
    iterate 3 rw [gup_n (by omega)]
    rw [gup_s]; rfl
  · obtain ⟨r, rfl⟩ : ∃ r, k = j + 5 + r := ⟨k - (j + 5), by omega⟩
    rw [reg_in (p := j) (r := 5 + r) (by omega) (by omega), gup_n (by omega), reg_in (r := r) (by omega) (by omega)]
    unfold ttc
    rw [if_neg (by omega), if_neg (by omega), if_neg (by omega), if_neg (by omega), if_neg (by omega), Nat.add_sub_cancel_left]
def txc (B : Bx) (p r : Nat) : va_E := if r = 0 then .inr (5, [.ref (B.2.2 + (p + 1)), .int 0, .ref (B.2.2 + (p + 2)), .ref (B.2.2 + (p + 3)), .int 0, .int 0, .int 0, .int 0, .int 0]) else if r = 1 then zbr B 120 else if r = 2 then zbr B 60 else zar B 180
theorem c_X5_init {B : Bx} {j : Nat} {g : Nat → va_E} (hg : g j = .inr (5, fr5)) (l : Launch) : Met l yX5_init (ws_ yX5_init cX5_init 1 none) rmI_X5 (Pb B (j + 1) g [.ref (B.2.2 + j)]) (Qb B (j + 4) (reg j 4 (txc B j) g)) 3 360 (Ab B) := by
  refine b_met (by decide) rfl (Nat.le_of_ble_eq_true rfl) (fun M K I => ?_)
  have K : OkB M B cX5_init 1 RX5 rmI_X5 := K
  show VB M B (MQB M B (j + 4) (reg j 4 (txc B j) g) 3 360) 1 0 [(0, .ref (B.2.2 + j))] [] (j + 1) g 0 0
  refine b_aload_n K 0 rfl rfl dX5_init_0 ?_
  refine b_obj K mo_X5 wn_obj wc_obj (Nat.le_of_ble_eq_true rfl) (Nat.le_of_ble_eq_true rfl) dX5_init_1 ?_
  refine b_aload_n K 0 rfl rfl dX5_init_4 ?_
  refine b_bipush K (v := 120) rfl dX5_init_5 ?_
  refine b_newa K (atype := .byte) (t := 0) (e := zbr B 120) wa_byte rfl (fun _ _ => rfl) rfl rfl (by decide) rfl (Nat.le_of_ble_eq_true rfl) (Nat.le_of_ble_eq_true rfl) (Nat.le_of_ble_eq_true rfl) dX5_init_7 ?_
  refine b_putF K I kdX5 (k := 0) (fs := fr5) (by omega) ((gup_n (by omega)).trans hg) (by decide) fl_X5_9 rfl rfl rfl rfl (Nat.le_of_ble_eq_true rfl) dX5_init_9 ?_
  refine b_aload_n K 0 rfl rfl dX5_init_12 ?_
  refine b_bipush K (v := 60) rfl dX5_init_13 ?_
  refine b_newa K (atype := .byte) (t := 0) (e := zbr B 60) wa_byte rfl (fun _ _ => rfl) rfl rfl (by decide) rfl (Nat.le_of_ble_eq_true rfl) (Nat.le_of_ble_eq_true rfl) (Nat.le_of_ble_eq_true rfl) dX5_init_15 ?_
  refine b_putF K I kdX5 (k := 2) (fs := (fr5.set 0 (.ref (B.2.2 + (j + 1))))) (by omega) ((gup_n (by omega)).trans gup_s) (by decide) fl_X5_15 rfl rfl rfl rfl (Nat.le_of_ble_eq_true rfl) dX5_init_17 ?_
  refine b_aload_n K 0 rfl rfl dX5_init_20 ?_
  refine b_sipush K (v := 180) rfl dX5_init_21 ?_
  refine b_newa K (atype := .int) (t := 1) (e := zar B 180) wa_int rfl (fun _ _ => rfl) rfl rfl (by decide) rfl (Nat.le_of_ble_eq_true rfl) (Nat.le_of_ble_eq_true rfl) (Nat.le_of_ble_eq_true rfl) dX5_init_24 ?_
  refine b_putF K I kdX5 (k := 3) (fs := ((fr5.set 0 (.ref (B.2.2 + (j + 1)))).set 2 (.ref (B.2.2 + (j + 1 + 1))))) (by omega) ((gup_n (by omega)).trans gup_s) (by decide) fl_X5_18 rfl rfl rfl rfl (Nat.le_of_ble_eq_true rfl) dX5_init_26 ?_
  refine b_congr (g' := reg j 4 (txc B j) g) ?_ (b_vret K I dX5_init_29)
  intro k hk
  have h : k < j ∨ k = j ∨ k = j + 1 ∨ k = j + 2 ∨ k = j + 3 := by omega
  rcases h with h | h | h | h | h
  · rw [reg_out (by omega)]
    iterate 6 rw [gup_n (by omega)]
  · rw [h, reg_0 (by omega), gup_s]; rfl
  · rw [h, reg_in (r := 1) rfl (by omega)]
    iterate 5 rw [gup_n (by omega)]
    rw [gup_s]; rfl
  · rw [h, reg_in (r := 2) rfl (by omega)]
    iterate 3 rw [gup_n (by omega)]
    rw [gup_s]; rfl
  · rw [h, reg_in (r := 3) rfl (by omega)]
    iterate 1 rw [gup_n (by omega)]
    rw [gup_s]; rfl
def hsc (B : Bx) (p i r : Nat) : va_E := if r = 0 then .inr (2, fr2.set 0 (.ref (B.2.2 + (p + 1)))) else if r = 1 then rar B.2.1.2.2.1 6 (fun t => if t < i then some (B.2.2 + (p + 2 + 11 * t)) else none) else brc B (p + 2 + 11 * ((r - 2) / 11)) 4 ((r - 2) % 11)
theorem hsc_ne {B : Bx} {p c c' r : Nat} (h : r ≠ 1) : hsc B p c r = hsc B p c' r := by
  unfold hsc
  by_cases h0 : r = 0
  · rw [if_pos h0, if_pos h0]
  · rw [if_neg h0, if_neg h0, if_neg h, if_neg h]
theorem hs_loop {M : Mx} {B : Bx} {j : Nat} {g : Nat → va_E} (K : OkB M B cX2_init 2 RX2 rmI_X2) (I : InB M) : ∀ d i, i + d = 6 → VB M B (MQB M B (j + 68) (reg j 68 (hsc B j 6) g) 67 456) 2 15 [(0, .ref (B.2.2 + j)), (1, .int (nI i))] [] (j + 2 + 11 * i) (reg j (2 + 11 * i) (hsc B j i) g) (1 + 11 * i) (6 + 75 * i) := by
  intro d
  induction d with
  | zero =>
    intro i hi
    obtain rfl : i = 6 := by omega
    refine b_iload_n K 1 rfl rfl dX2_init_15 ?_
    refine b_bipush K (v := 6) rfl dX2_init_16 ?_
    refine b_icmp_ge K 40 (by decide) dX2_init_18 (fun _ => ?_) (fun h => absurd (by decide) h)
    exact b_vret K I dX2_init_40
  | succ d ih =>
    intro i hi
    have h6 : ¬ (6 : Int32) ≤ nI i := fun z => by have := (nLE (a := 6) (by omega) (by omega)).mp z; omega
    obtain ⟨p, hp⟩ : ∃ p, p = j + 2 + 11 * i := ⟨_, rfl⟩
    refine b_iload_n K 1 rfl rfl dX2_init_15 ?_
    refine b_bipush K (v := 6) rfl dX2_init_16 ?_
    refine b_icmp_ge K 40 (by decide) dX2_init_18 (fun z => absurd z h6) (fun _ => ?_)
    refine b_aload_n K 0 rfl rfl dX2_init_21 ?_
    refine b_get K kdX2 (k := 0) (v := .ref (B.2.2 + (j + 1))) (by omega) (reg_0 (by omega)) (by decide) fl_X2_13 rfl rfl dX2_init_22 ?_
    refine b_iload_n K 1 rfl rfl dX2_init_25 ?_
    rw [← hp]
    refine b_new K kdX0 cl_X2_11 wm_X0 wi_X0 df_X0 (by show 1 + 11 * i + 1 ≤ 67; omega) (by show 6 + 75 * i + 7 ≤ 456; omega) dX2_init_26 ?_
    refine b_dup K rfl dX2_init_29 ?_
    refine b_callI K (As := []) (rest := [.ref (B.2.2 + p), .int (nI i), .ref (B.2.2 + (j + 1))]) (c_X0_init gup_s) ci_X0 ml_X2_17 ⟨rfl, rfl, Nat.le_of_ble_eq_true rfl, Nat.le_of_ble_eq_true rfl⟩ ⟨by show 1 + 11 * i + 1 + 10 ≤ 67; omega, by show 6 + 75 * i + 7 + 68 ≤ 456; omega⟩ rfl rfl (Nat.le_of_ble_eq_true rfl) dX2_init_30 ?_
    refine b_aast K (j := j + 1) (jv := p) (t := 2) (ci := 0) (r := (RX0, TX0, 7)) (len := 6) (cA := B.2.1.2.2.1) (vs := (fr0.set 0 (.ref (B.2.2 + (p + 1)))).set 2 (.ref (B.2.2 + (p + 2)))) (f := fun t => if t < i then some (B.2.2 + (j + 2 + 11 * t)) else none) (by omega) ?_ rfl (by omega) (reg_0 (by omega)) rfl ?_ dX2_init_33 ?_
    · rw [reg_out (by omega), gup_n (by omega)]
      exact reg_in (r := 1) rfl (by omega)
    · exact vp_in_nI (by omega) (by omega)
    refine b_iinc K 1 rfl (v := nI (i + 1)) (by exact nI_add i 1) (by decide) rfl dX2_init_34 ?_
    refine b_goto K 15 (by decide) dX2_init_37 ?_
    refine b_sub [1, 0] rfl ?_
    refine b_congr (g' := reg j (2 + 11 * (i + 1)) (hsc B j (i + 1)) g) ?_ ?_
    · intro k hk
      by_cases h1 : k = j + 1
      · rw [h1, gup_s, reg_in (r := 1) rfl (by omega), nCl (by omega)]
        show rar _ _ _ = rar _ _ _
        congr 1
        funext t
        unfold va_up
        by_cases q : t = i
        · subst q
          rw [if_pos rfl, if_pos (by omega), hp]
        · rw [if_neg q]
          show (if t < i then some (B.2.2 + (j + 2 + 11 * t)) else none) = _
          by_cases q2 : t < i
          · rw [if_pos q2, if_pos (by omega)]
          · rw [if_neg q2, if_neg (by omega)]
      · rw [gup_n h1]
        by_cases h2 : p ≤ k
        · obtain ⟨r, rfl⟩ : ∃ r, k = p + r := ⟨k - p, by omega⟩
          rw [reg_in (p := p) (r := r) rfl (by omega), hp, reg_in (p := j) (r := 2 + 11 * i + r) (by omega) (by omega)]
          unfold hsc
          rw [if_neg (by omega), if_neg (by omega), show 2 + 11 * i + r - 2 = 11 * i + r by omega, show (11 * i + r) / 11 = i by omega, show (11 * i + r) % 11 = r by omega]
        · rw [reg_out (by omega), gup_n (by omega)]
          by_cases h5 : j ≤ k
          · rw [reg_in (r := k - j) (by omega) (by omega), reg_in (r := k - j) (by omega) (by omega)]
            exact hsc_ne (by omega)
          · rw [reg_out (by omega), reg_out (by omega)]
    · have := ih (i + 1) (by omega)
      rw [show j + 2 + 11 * (i + 1) = p + 11 by omega, show 1 + 11 * (i + 1) = 1 + 11 * i + 1 + 10 by omega, show 6 + 75 * (i + 1) = 6 + 75 * i + 7 + 68 by omega] at this
      exact this
theorem c_X2_init {B : Bx} {j : Nat} {g : Nat → va_E} (hg : g j = .inr (2, fr2)) (l : Launch) : Met l yX2_init (ws_ yX2_init cX2_init 2 none) rmI_X2 (Pb B (j + 1) g [.ref (B.2.2 + j)]) (Qb B (j + 68) (reg j 68 (hsc B j 6) g)) 67 456 (Ab B) := by
  refine b_met (by decide) rfl (Nat.le_of_ble_eq_true rfl) (fun M K I => ?_)
  have K : OkB M B cX2_init 2 RX2 rmI_X2 := K
  show VB M B (MQB M B (j + 68) (reg j 68 (hsc B j 6) g) 67 456) 2 0 [(0, .ref (B.2.2 + j))] [] (j + 1) g 0 0
  refine b_aload_n K 0 rfl rfl dX2_init_0 ?_
  refine b_obj K mo_X2 wn_obj wc_obj (Nat.le_of_ble_eq_true rfl) (Nat.le_of_ble_eq_true rfl) dX2_init_1 ?_
  refine b_aload_n K 0 rfl rfl dX2_init_4 ?_
  refine b_bipush K (v := 6) rfl dX2_init_5 ?_
  refine b_anew K (t := 2) cl_X2_11 (fun U h => h.2.2.1) rfl (by decide) rfl (Nat.le_of_ble_eq_true rfl) (Nat.le_of_ble_eq_true rfl) (Nat.le_of_ble_eq_true rfl) dX2_init_7 ?_
  refine b_putF K I kdX2 (k := 0) (fs := fr2) (by omega) ((gup_n (by omega)).trans hg) (by decide) fl_X2_13 rfl rfl rfl rfl (Nat.le_of_ble_eq_true rfl) dX2_init_10 ?_
  refine b_iconst K (v := 0) rfl dX2_init_13 ?_
  refine b_istore_n K (ls' := [(1, .int 0), (0, .ref (B.2.2 + j))]) rfl (by decide) rfl dX2_init_14 ?_
  refine b_sub (ls' := [(0, .ref (B.2.2 + j)), (1, .int (nI 0))]) [1, 0] rfl ?_
  refine b_congr (g' := reg j (2 + 11 * 0) (hsc B j 0) g) ?_ (hs_loop K I 6 0 rfl)
  intro k hk
  have h : k < j ∨ k = j ∨ k = j + 1 := by omega
  rcases h with h | h | h
  · rw [reg_out (by omega), gup_n (by omega), gup_n (by omega)]
  · rw [h, reg_0 (by omega), gup_s]; rfl
  · rw [h, reg_in (r := 1) rfl (by omega), gup_n (by omega), gup_s]
    show rar _ _ _ = rar _ _ _
    congr 1
def crc (B : Bx) (k : Nat) : va_E := if k = 0 then .inr (6, [.ref (B.2.2 + 1), .ref (B.2.2 + 12), .ref (B.2.2 + 15), .ref (B.2.2 + 23), .ref (B.2.2 + 91), .int 0, .int 0, .int 0]) else if k < 12 then brc B 1 4 (k - 1) else if k < 15 then ntc B 12 (B.2.2 + 1) (k - 12) else if k < 23 then ttc B 15 (B.2.2 + 1) (k - 15) else if k < 91 then hsc B 23 6 (k - 23) else txc B 91 (k - 91)
theorem c_X6_init {B : Bx} {g : Nat → va_E} (hg : g 0 = .inr (6, fr6)) (l : Launch) : Met l yX6_init (ws_ yX6_init cX6_init 2 none) rmI_X6 (Pb B 1 g [.ref (B.2.2 + 0)]) (Qb B 95 (crc B)) 94 1077 (Ab B) := by
  refine b_met (by decide) rfl (Nat.le_of_ble_eq_true rfl) (fun M K I => ?_)
  have K : OkB M B cX6_init 2 RX6 rmI_X6 := K
  show VB M B (MQB M B 95 (crc B) 94 1077) 2 0 [(0, .ref (B.2.2 + 0))] [] 1 g 0 0
  refine b_aload_n K 0 rfl rfl dX6_init_0 ?_
  refine b_obj K mo_X6 wn_obj wc_obj (Nat.le_of_ble_eq_true rfl) (Nat.le_of_ble_eq_true rfl) dX6_init_1 ?_
  refine b_new K kdX0 cl_X6_9 wm_X0 wi_X0 df_X0 (Nat.le_of_ble_eq_true rfl) (Nat.le_of_ble_eq_true rfl) dX6_init_4 ?_
  refine b_dup K rfl dX6_init_7 ?_
  refine b_callI K (As := []) (rest := [.ref (B.2.2 + 1)]) (c_X0_init (j := 1) gup_s) ci_X0 ml_X6_11 ⟨rfl, rfl, Nat.le_of_ble_eq_true rfl, Nat.le_of_ble_eq_true rfl⟩ ⟨Nat.le_of_ble_eq_true rfl, Nat.le_of_ble_eq_true rfl⟩ rfl rfl (Nat.le_of_ble_eq_true rfl) dX6_init_8 ?_
  refine b_astore_n K (ls' := [(1, .ref (B.2.2 + 1)), (0, .ref (B.2.2 + 0))]) rfl (by decide) rfl dX6_init_11 ?_
  refine b_sub (ls' := [(0, .ref (B.2.2 + 0)), (1, .ref (B.2.2 + 1))]) [1, 0] rfl ?_
  refine b_aload_n K 0 rfl rfl dX6_init_12 ?_
  refine b_aload_n K 1 rfl rfl dX6_init_13 ?_
  refine b_putF K I kdX6 (k := 0) (fs := fr6) (by omega) ((reg_out (by omega)).trans ((gup_n (by omega)).trans hg)) (by decide) fl_X6_12 rfl rfl rfl rfl (Nat.le_of_ble_eq_true rfl) dX6_init_14 ?_
  refine b_aload_n K 0 rfl rfl dX6_init_17 ?_
  refine b_new K kdX3 cl_X6_16 wm_X3 wi_X3 df_X3 (Nat.le_of_ble_eq_true rfl) (Nat.le_of_ble_eq_true rfl) dX6_init_18 ?_
  refine b_dup K rfl dX6_init_21 ?_
  refine b_aload_n K 1 rfl rfl dX6_init_22 ?_
  refine b_callI K (As := [.ref (B.2.2 + 1)]) (rest := [.ref (B.2.2 + 12), .ref (B.2.2 + 0)]) (c_X3_init (j := 12) gup_s) ci_X3 ml_X6_18 ⟨rfl, rfl, Nat.le_of_ble_eq_true rfl, Nat.le_of_ble_eq_true rfl⟩ ⟨Nat.le_of_ble_eq_true rfl, Nat.le_of_ble_eq_true rfl⟩ rfl rfl (Nat.le_of_ble_eq_true rfl) dX6_init_23 ?_
  refine b_putF K I kdX6 (k := 1) (fs := (fr6.set 0 (.ref (B.2.2 + 1)))) (by omega) ((reg_out (by omega)).trans ((gup_n (by omega)).trans gup_s)) (by decide) fl_X6_21 rfl rfl rfl rfl (Nat.le_of_ble_eq_true rfl) dX6_init_26 ?_
  refine b_aload_n K 0 rfl rfl dX6_init_29 ?_
  refine b_new K kdX4 cl_X6_25 wm_X4 wi_X4 df_X4 (Nat.le_of_ble_eq_true rfl) (Nat.le_of_ble_eq_true rfl) dX6_init_30 ?_
  refine b_dup K rfl dX6_init_33 ?_
  refine b_aload_n K 1 rfl rfl dX6_init_34 ?_
  refine b_callI K (As := [.ref (B.2.2 + 1)]) (rest := [.ref (B.2.2 + 15), .ref (B.2.2 + 0)]) (c_X4_init (j := 15) gup_s) ci_X4 ml_X6_27 ⟨rfl, rfl, Nat.le_of_ble_eq_true rfl, Nat.le_of_ble_eq_true rfl⟩ ⟨Nat.le_of_ble_eq_true rfl, Nat.le_of_ble_eq_true rfl⟩ rfl rfl (Nat.le_of_ble_eq_true rfl) dX6_init_35 ?_
  refine b_putF K I kdX6 (k := 2) (fs := ((fr6.set 0 (.ref (B.2.2 + 1))).set 1 (.ref (B.2.2 + 12)))) (by omega) ((reg_out (by omega)).trans ((gup_n (by omega)).trans gup_s)) (by decide) fl_X6_28 rfl rfl rfl rfl (Nat.le_of_ble_eq_true rfl) dX6_init_38 ?_
  refine b_aload_n K 0 rfl rfl dX6_init_41 ?_
  refine b_new K kdX2 cl_X6_32 wm_X2 wi_X2 df_X2 (Nat.le_of_ble_eq_true rfl) (Nat.le_of_ble_eq_true rfl) dX6_init_42 ?_
  refine b_dup K rfl dX6_init_45 ?_
  refine b_callI K (As := []) (rest := [.ref (B.2.2 + 23), .ref (B.2.2 + 0)]) (c_X2_init (j := 23) gup_s) ci_X2 ml_X6_34 ⟨rfl, rfl, Nat.le_of_ble_eq_true rfl, Nat.le_of_ble_eq_true rfl⟩ ⟨Nat.le_of_ble_eq_true rfl, Nat.le_of_ble_eq_true rfl⟩ rfl rfl (Nat.le_of_ble_eq_true rfl) dX6_init_46 ?_
  refine b_putF K I kdX6 (k := 3) (fs := (((fr6.set 0 (.ref (B.2.2 + 1))).set 1 (.ref (B.2.2 + 12))).set 2 (.ref (B.2.2 + 15)))) (by omega) ((reg_out (by omega)).trans ((gup_n (by omega)).trans gup_s)) (by decide) fl_X6_35 rfl rfl rfl rfl (Nat.le_of_ble_eq_true rfl) dX6_init_49 ?_
  refine b_aload_n K 0 rfl rfl dX6_init_52 ?_
  refine b_new K kdX5 cl_X6_39 wm_X5 wi_X5 df_X5 (Nat.le_of_ble_eq_true rfl) (Nat.le_of_ble_eq_true rfl) dX6_init_53 ?_
  refine b_dup K rfl dX6_init_56 ?_
  refine b_callIN K (As := []) (rest := [.ref (B.2.2 + 91), .ref (B.2.2 + 0)]) (c_X5_init (j := 91) gup_s) ci_X5 (fun U h => h.2.2.2.2) ⟨rfl, rfl, Nat.le_of_ble_eq_true rfl, Nat.le_of_ble_eq_true rfl⟩ ⟨Nat.le_of_ble_eq_true rfl, Nat.le_of_ble_eq_true rfl⟩ rfl rfl (Nat.le_of_ble_eq_true rfl) dX6_init_57 ?_
  refine b_putF K I kdX6 (k := 4) (fs := ((((fr6.set 0 (.ref (B.2.2 + 1))).set 1 (.ref (B.2.2 + 12))).set 2 (.ref (B.2.2 + 15))).set 3 (.ref (B.2.2 + 23)))) (by omega) ((reg_out (by omega)).trans ((gup_n (by omega)).trans gup_s)) (by decide) fl_X6_42 rfl rfl rfl rfl (Nat.le_of_ble_eq_true rfl) dX6_init_60 ?_
  refine b_congr (g' := crc B) ?_ (b_vret K I dX6_init_63)
  intro k hk
  have h : k = 0 ∨ (1 ≤ k ∧ k < 12) ∨ (12 ≤ k ∧ k < 15) ∨ (15 ≤ k ∧ k < 23) ∨ (23 ≤ k ∧ k < 91) ∨ (91 ≤ k ∧ k < 95) := by omega
  unfold crc
  rcases h with h | h | h | h | h | h
  · rw [h, gup_s]; rfl
  · rw [if_neg (by omega), if_pos (by omega), gup_n (by omega), reg_out (by omega), gup_n (by omega), gup_n (by omega), reg_out (by omega), gup_n (by omega), gup_n (by omega), reg_out (by omega), gup_n (by omega), gup_n (by omega), reg_out (by omega), gup_n (by omega), gup_n (by omega), reg_in (r := k - 1) (by omega) (by omega)]
  · rw [if_neg (by omega), if_neg (by omega), if_pos (by omega), gup_n (by omega), reg_out (by omega), gup_n (by omega), gup_n (by omega), reg_out (by omega), gup_n (by omega), gup_n (by omega), reg_out (by omega), gup_n (by omega), gup_n (by omega), reg_in (r := k - 12) (by omega) (by omega)]
  · rw [if_neg (by omega), if_neg (by omega), if_neg (by omega), if_pos (by omega), gup_n (by omega), reg_out (by omega), gup_n (by omega), gup_n (by omega), reg_out (by omega), gup_n (by omega), gup_n (by omega), reg_in (r := k - 15) (by omega) (by omega)]
  · rw [if_neg (by omega), if_neg (by omega), if_neg (by omega), if_neg (by omega), if_pos (by omega), gup_n (by omega), reg_out (by omega), gup_n (by omega), gup_n (by omega), reg_in (r := k - 23) (by omega) (by omega)]
  · rw [if_neg (by omega), if_neg (by omega), if_neg (by omega), if_neg (by omega), if_neg (by omega), gup_n (by omega), reg_in (r := k - 91) (by omega) (by omega)]
def mdc (B : Bx) (j r : Nat) : va_E := if r = 0 then .inr (7, [.ref (B.2.2 + (j + 1)), .ref (B.2.2 + (j + 2)), .ref (B.2.2 + (j + 3)), .int 0, .ref (B.2.2 + (j + 4)), .ref (B.2.2 + (j + 5)), .int 0, .ref (B.2.2 + (j + 6)), .int 0, .ref (B.2.2 + (j + 7)), .int 0, .ref (B.2.2 + (j + 8)), .ref (B.2.2 + (j + 9)), .int 0, .int 0, .int 0, .ref (B.2.2 + (j + 10)), .ref (B.2.2 + (j + 11)), .long 0]) else zar B ([0, 83, 83, 415, 3, 120, 4, 8, 24, 24, 61, 183].getD r 0)
theorem c_X7_init {B : Bx} {j : Nat} {g : Nat → va_E} (hg : g j = .inr (7, fr7)) (l : Launch) : Met l yX7_init (ws_ yX7_init cX7_init 1 none) rmI_X7 (Pb B (j + 1) g [.ref (B.2.2 + j)]) (Qb B (j + 12) (reg j 12 (mdc B j) g)) 11 1008 (Ab B) := by
  refine b_met (by decide) rfl (Nat.le_of_ble_eq_true rfl) (fun M K I => ?_)
  have K : OkB M B cX7_init 1 RX7 rmI_X7 := K
  show VB M B (MQB M B (j + 12) (reg j 12 (mdc B j) g) 11 1008) 1 0 [(0, .ref (B.2.2 + j))] [] (j + 1) g 0 0
  refine b_aload_n K 0 rfl rfl dX7_init_0 ?_
  refine b_obj K mo_X7 wn_obj wc_obj (Nat.le_of_ble_eq_true rfl) (Nat.le_of_ble_eq_true rfl) dX7_init_1 ?_
  refine b_aload_n K 0 rfl rfl dX7_init_4 ?_
  refine b_bipush K (v := 83) rfl dX7_init_5 ?_
  refine b_newa K (atype := .int) (t := 1) (e := zar B 83) wa_int rfl (fun _ _ => rfl) rfl rfl (by decide) rfl (Nat.le_of_ble_eq_true rfl) (Nat.le_of_ble_eq_true rfl) (Nat.le_of_ble_eq_true rfl) dX7_init_7 ?_
  refine b_putF K I kdX7 (k := 0) (fs := fr7) (by omega) ((gup_n (by omega)).trans hg) (by decide) fl_X7_7 rfl rfl rfl rfl (Nat.le_of_ble_eq_true rfl) dX7_init_9 ?_
  refine b_aload_n K 0 rfl rfl dX7_init_12 ?_
  refine b_bipush K (v := 83) rfl dX7_init_13 ?_
  refine b_newa K (atype := .int) (t := 1) (e := zar B 83) wa_int rfl (fun _ _ => rfl) rfl rfl (by decide) rfl (Nat.le_of_ble_eq_true rfl) (Nat.le_of_ble_eq_true rfl) (Nat.le_of_ble_eq_true rfl) dX7_init_15 ?_
  refine b_putF K I kdX7 (k := 1) (fs := (fr7.set 0 (.ref (B.2.2 + (j + 1))))) (by omega) ((gup_n (by omega)).trans gup_s) (by decide) fl_X7_13 rfl rfl rfl rfl (Nat.le_of_ble_eq_true rfl) dX7_init_17 ?_
  refine b_aload_n K 0 rfl rfl dX7_init_20 ?_
  refine b_sipush K (v := 415) rfl dX7_init_21 ?_
  refine b_newa K (atype := .int) (t := 1) (e := zar B 415) wa_int rfl (fun _ _ => rfl) rfl rfl (by decide) rfl (Nat.le_of_ble_eq_true rfl) (Nat.le_of_ble_eq_true rfl) (Nat.le_of_ble_eq_true rfl) dX7_init_24 ?_
  refine b_putF K I kdX7 (k := 2) (fs := ((fr7.set 0 (.ref (B.2.2 + (j + 1)))).set 1 (.ref (B.2.2 + (j + 1 + 1))))) (by omega) ((gup_n (by omega)).trans gup_s) (by decide) fl_X7_16 rfl rfl rfl rfl (Nat.le_of_ble_eq_true rfl) dX7_init_26 ?_
  refine b_aload_n K 0 rfl rfl dX7_init_29 ?_
  refine b_iconst K (v := 3) rfl dX7_init_30 ?_
  refine b_newa K (atype := .int) (t := 1) (e := zar B 3) wa_int rfl (fun _ _ => rfl) rfl rfl (by decide) rfl (Nat.le_of_ble_eq_true rfl) (Nat.le_of_ble_eq_true rfl) (Nat.le_of_ble_eq_true rfl) dX7_init_31 ?_
  refine b_putF K I kdX7 (k := 4) (fs := (((fr7.set 0 (.ref (B.2.2 + (j + 1)))).set 1 (.ref (B.2.2 + (j + 1 + 1)))).set 2 (.ref (B.2.2 + (j + 1 + 1 + 1))))) (by omega) ((gup_n (by omega)).trans gup_s) (by decide) fl_X7_19 rfl rfl rfl rfl (Nat.le_of_ble_eq_true rfl) dX7_init_33 ?_
  refine b_aload_n K 0 rfl rfl dX7_init_36 ?_
  refine b_bipush K (v := 120) rfl dX7_init_37 ?_
  refine b_newa K (atype := .int) (t := 1) (e := zar B 120) wa_int rfl (fun _ _ => rfl) rfl rfl (by decide) rfl (Nat.le_of_ble_eq_true rfl) (Nat.le_of_ble_eq_true rfl) (Nat.le_of_ble_eq_true rfl) dX7_init_39 ?_
  refine b_putF K I kdX7 (k := 5) (fs := ((((fr7.set 0 (.ref (B.2.2 + (j + 1)))).set 1 (.ref (B.2.2 + (j + 1 + 1)))).set 2 (.ref (B.2.2 + (j + 1 + 1 + 1)))).set 4 (.ref (B.2.2 + (j + 1 + 1 + 1 + 1))))) (by omega) ((gup_n (by omega)).trans gup_s) (by decide) fl_X7_22 rfl rfl rfl rfl (Nat.le_of_ble_eq_true rfl) dX7_init_41 ?_
  refine b_aload_n K 0 rfl rfl dX7_init_44 ?_
  refine b_iconst K (v := 4) rfl dX7_init_45 ?_
  refine b_newa K (atype := .int) (t := 1) (e := zar B 4) wa_int rfl (fun _ _ => rfl) rfl rfl (by decide) rfl (Nat.le_of_ble_eq_true rfl) (Nat.le_of_ble_eq_true rfl) (Nat.le_of_ble_eq_true rfl) dX7_init_46 ?_
  refine b_putF K I kdX7 (k := 7) (fs := (((((fr7.set 0 (.ref (B.2.2 + (j + 1)))).set 1 (.ref (B.2.2 + (j + 1 + 1)))).set 2 (.ref (B.2.2 + (j + 1 + 1 + 1)))).set 4 (.ref (B.2.2 + (j + 1 + 1 + 1 + 1)))).set 5 (.ref (B.2.2 + (j + 1 + 1 + 1 + 1 + 1))))) (by omega) ((gup_n (by omega)).trans gup_s) (by decide) fl_X7_25 rfl rfl rfl rfl (Nat.le_of_ble_eq_true rfl) dX7_init_48 ?_
  refine b_aload_n K 0 rfl rfl dX7_init_51 ?_
  refine b_bipush K (v := 8) rfl dX7_init_52 ?_
  refine b_newa K (atype := .int) (t := 1) (e := zar B 8) wa_int rfl (fun _ _ => rfl) rfl rfl (by decide) rfl (Nat.le_of_ble_eq_true rfl) (Nat.le_of_ble_eq_true rfl) (Nat.le_of_ble_eq_true rfl) dX7_init_54 ?_
  refine b_putF K I kdX7 (k := 9) (fs := ((((((fr7.set 0 (.ref (B.2.2 + (j + 1)))).set 1 (.ref (B.2.2 + (j + 1 + 1)))).set 2 (.ref (B.2.2 + (j + 1 + 1 + 1)))).set 4 (.ref (B.2.2 + (j + 1 + 1 + 1 + 1)))).set 5 (.ref (B.2.2 + (j + 1 + 1 + 1 + 1 + 1)))).set 7 (.ref (B.2.2 + (j + 1 + 1 + 1 + 1 + 1 + 1))))) (by omega) ((gup_n (by omega)).trans gup_s) (by decide) fl_X7_28 rfl rfl rfl rfl (Nat.le_of_ble_eq_true rfl) dX7_init_56 ?_
  refine b_aload_n K 0 rfl rfl dX7_init_59 ?_
  refine b_bipush K (v := 24) rfl dX7_init_60 ?_
  refine b_newa K (atype := .int) (t := 1) (e := zar B 24) wa_int rfl (fun _ _ => rfl) rfl rfl (by decide) rfl (Nat.le_of_ble_eq_true rfl) (Nat.le_of_ble_eq_true rfl) (Nat.le_of_ble_eq_true rfl) dX7_init_62 ?_
  refine b_putF K I kdX7 (k := 11) (fs := (((((((fr7.set 0 (.ref (B.2.2 + (j + 1)))).set 1 (.ref (B.2.2 + (j + 1 + 1)))).set 2 (.ref (B.2.2 + (j + 1 + 1 + 1)))).set 4 (.ref (B.2.2 + (j + 1 + 1 + 1 + 1)))).set 5 (.ref (B.2.2 + (j + 1 + 1 + 1 + 1 + 1)))).set 7 (.ref (B.2.2 + (j + 1 + 1 + 1 + 1 + 1 + 1)))).set 9 (.ref (B.2.2 + (j + 1 + 1 + 1 + 1 + 1 + 1 + 1))))) (by omega) ((gup_n (by omega)).trans gup_s) (by decide) fl_X7_31 rfl rfl rfl rfl (Nat.le_of_ble_eq_true rfl) dX7_init_64 ?_
  refine b_aload_n K 0 rfl rfl dX7_init_67 ?_
  refine b_bipush K (v := 24) rfl dX7_init_68 ?_
  refine b_newa K (atype := .int) (t := 1) (e := zar B 24) wa_int rfl (fun _ _ => rfl) rfl rfl (by decide) rfl (Nat.le_of_ble_eq_true rfl) (Nat.le_of_ble_eq_true rfl) (Nat.le_of_ble_eq_true rfl) dX7_init_70 ?_
  refine b_putF K I kdX7 (k := 12) (fs := ((((((((fr7.set 0 (.ref (B.2.2 + (j + 1)))).set 1 (.ref (B.2.2 + (j + 1 + 1)))).set 2 (.ref (B.2.2 + (j + 1 + 1 + 1)))).set 4 (.ref (B.2.2 + (j + 1 + 1 + 1 + 1)))).set 5 (.ref (B.2.2 + (j + 1 + 1 + 1 + 1 + 1)))).set 7 (.ref (B.2.2 + (j + 1 + 1 + 1 + 1 + 1 + 1)))).set 9 (.ref (B.2.2 + (j + 1 + 1 + 1 + 1 + 1 + 1 + 1)))).set 11 (.ref (B.2.2 + (j + 1 + 1 + 1 + 1 + 1 + 1 + 1 + 1))))) (by omega) ((gup_n (by omega)).trans gup_s) (by decide) fl_X7_34 rfl rfl rfl rfl (Nat.le_of_ble_eq_true rfl) dX7_init_72 ?_
  refine b_aload_n K 0 rfl rfl dX7_init_75 ?_
  refine b_bipush K (v := 61) rfl dX7_init_76 ?_
  refine b_newa K (atype := .int) (t := 1) (e := zar B 61) wa_int rfl (fun _ _ => rfl) rfl rfl (by decide) rfl (Nat.le_of_ble_eq_true rfl) (Nat.le_of_ble_eq_true rfl) (Nat.le_of_ble_eq_true rfl) dX7_init_78 ?_
  refine b_putF K I kdX7 (k := 16) (fs := (((((((((fr7.set 0 (.ref (B.2.2 + (j + 1)))).set 1 (.ref (B.2.2 + (j + 1 + 1)))).set 2 (.ref (B.2.2 + (j + 1 + 1 + 1)))).set 4 (.ref (B.2.2 + (j + 1 + 1 + 1 + 1)))).set 5 (.ref (B.2.2 + (j + 1 + 1 + 1 + 1 + 1)))).set 7 (.ref (B.2.2 + (j + 1 + 1 + 1 + 1 + 1 + 1)))).set 9 (.ref (B.2.2 + (j + 1 + 1 + 1 + 1 + 1 + 1 + 1)))).set 11 (.ref (B.2.2 + (j + 1 + 1 + 1 + 1 + 1 + 1 + 1 + 1)))).set 12 (.ref (B.2.2 + (j + 1 + 1 + 1 + 1 + 1 + 1 + 1 + 1 + 1))))) (by omega) ((gup_n (by omega)).trans gup_s) (by decide) fl_X7_37 rfl rfl rfl rfl (Nat.le_of_ble_eq_true rfl) dX7_init_80 ?_
  refine b_aload_n K 0 rfl rfl dX7_init_83 ?_
  refine b_sipush K (v := 183) rfl dX7_init_84 ?_
  refine b_newa K (atype := .int) (t := 1) (e := zar B 183) wa_int rfl (fun _ _ => rfl) rfl rfl (by decide) rfl (Nat.le_of_ble_eq_true rfl) (Nat.le_of_ble_eq_true rfl) (Nat.le_of_ble_eq_true rfl) dX7_init_87 ?_
  refine b_putF K I kdX7 (k := 17) (fs := ((((((((((fr7.set 0 (.ref (B.2.2 + (j + 1)))).set 1 (.ref (B.2.2 + (j + 1 + 1)))).set 2 (.ref (B.2.2 + (j + 1 + 1 + 1)))).set 4 (.ref (B.2.2 + (j + 1 + 1 + 1 + 1)))).set 5 (.ref (B.2.2 + (j + 1 + 1 + 1 + 1 + 1)))).set 7 (.ref (B.2.2 + (j + 1 + 1 + 1 + 1 + 1 + 1)))).set 9 (.ref (B.2.2 + (j + 1 + 1 + 1 + 1 + 1 + 1 + 1)))).set 11 (.ref (B.2.2 + (j + 1 + 1 + 1 + 1 + 1 + 1 + 1 + 1)))).set 12 (.ref (B.2.2 + (j + 1 + 1 + 1 + 1 + 1 + 1 + 1 + 1 + 1)))).set 16 (.ref (B.2.2 + (j + 1 + 1 + 1 + 1 + 1 + 1 + 1 + 1 + 1 + 1))))) (by omega) ((gup_n (by omega)).trans gup_s) (by decide) fl_X7_40 rfl rfl rfl rfl (Nat.le_of_ble_eq_true rfl) dX7_init_89 ?_
  refine b_congr (g' := reg j 12 (mdc B j) g) ?_ (b_vret K I dX7_init_92)
  intro k hk
  have h : k < j ∨ k = j ∨ k = j + 1 ∨ k = j + 2 ∨ k = j + 3 ∨ k = j + 4 ∨ k = j + 5 ∨ k = j + 6 ∨ k = j + 7 ∨ k = j + 8 ∨ k = j + 9 ∨ k = j + 10 ∨ k = j + 11 := by omega
  rcases h with h | h | h | h | h | h | h | h | h | h | h | h | h
  · rw [reg_out (by omega)]
    iterate 22 rw [gup_n (by omega)]
  · rw [h, reg_0 (by omega), gup_s]; rfl
  · rw [h, reg_in (r := 1) rfl (by omega)]
    iterate 21 rw [gup_n (by omega)]
    rw [gup_s]; rfl
  · rw [h, reg_in (r := 2) rfl (by omega)]
    iterate 19 rw [gup_n (by omega)]
    rw [gup_s]; rfl
  · rw [h, reg_in (r := 3) rfl (by omega)]
    iterate 17 rw [gup_n (by omega)]
    rw [gup_s]; rfl
  · rw [h, reg_in (r := 4) rfl (by omega)]
    iterate 15 rw [gup_n (by omega)]
    rw [gup_s]; rfl
  · rw [h, reg_in (r := 5) rfl (by omega)]
    iterate 13 rw [gup_n (by omega)]
    rw [gup_s]; rfl
  · rw [h, reg_in (r := 6) rfl (by omega)]
    iterate 11 rw [gup_n (by omega)]
    rw [gup_s]; rfl
  · rw [h, reg_in (r := 7) rfl (by omega)]
    iterate 9 rw [gup_n (by omega)]
    rw [gup_s]; rfl
  · rw [h, reg_in (r := 8) rfl (by omega)]
    iterate 7 rw [gup_n (by omega)]
    rw [gup_s]; rfl
  · rw [h, reg_in (r := 9) rfl (by omega)]
    iterate 5 rw [gup_n (by omega)]
    rw [gup_s]; rfl
  · rw [h, reg_in (r := 10) rfl (by omega)]
    iterate 3 rw [gup_n (by omega)]
    rw [gup_s]; rfl
  · rw [h, reg_in (r := 11) rfl (by omega)]
    iterate 1 rw [gup_n (by omega)]
    rw [gup_s]; rfl
