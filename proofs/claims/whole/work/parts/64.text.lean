/-! the text: both read it -/
def many (c : Nat) : Nat := if c = 104 then 0 else if c = 112 ∨ c = 115 then 3 else 2
def isL (c : Nat) : Prop := c = 99 ∨ c = 104 ∨ c = 107 ∨ c = 111 ∨ c = 112 ∨ c = 115 ∨ c = 117
def isD (c : Nat) : Prop := 48 ≤ c ∧ c ≤ 57
theorem many_3 {c : Nat} : many c ≤ 3 := by unfold many; split <;> (try split) <;> omega
section TEXT
variable {N : Nat} {n : Nat} {tx : Nat → Nat}
theorem k_nums {c : Nat} (hc : isL c) {u : ASt} : f_X5_numbersOf N (nI c) u = some (nI (many c), u) := by
  rcases hc with rfl | rfl | rfl | rfl | rfl | rfl | rfl <;> rfl
theorem m_many {c : Nat} (hc : isL c) {v : ASt} : f_X7_manyOf N (nI c) v = some (nI (many c), v) := by
  rcases hc with rfl | rfl | rfl | rfl | rfl | rfl | rfl <;> rfl
theorem k_nums_no {c : Nat} (h : c < 128) (hc : ¬ isL c) {u : ASt} : f_X5_numbersOf N (nI c) u = some (-1, u) := by
  unfold isL at hc
  have e : ∀ k, k < 128 → ¬ c = k → ¬ nI c = nI k := fun k hk z w => z ((nE (by omega) (by omega)).mp w)
  simp only [f_X5_numbersOf, lit, e 99 (by omega) (by omega), e 104 (by omega) (by omega), e 107 (by omega) (by omega), e 111 (by omega) (by omega), e 112 (by omega) (by omega), e 115 (by omega) (by omega), e 117 (by omega) (by omega), if_false]
theorem m_many_no {c : Nat} (h : c < 128) (hc : ¬ isL c) {v : ASt} : f_X7_manyOf N (nI c) v = some (-1, v) := by
  unfold isL at hc
  have e : ∀ k, k < 128 → ¬ c = k → ¬ nI c = nI k := fun k hk z w => z ((nE (by omega) (by omega)).mp w)
  simp only [f_X7_manyOf, lit, e 99 (by omega) (by omega), e 104 (by omega) (by omega), e 107 (by omega) (by omega), e 111 (by omega) (by omega), e 112 (by omega) (by omega), e 115 (by omega) (by omega), e 117 (by omega) (by omega), if_false]
/-- the class reads from place i on -/
def run (N i : Nat) (u : ASt) (r : Int32) (w : ASt) : Prop := ∀ f, 120 < f + i → f_X5_parse_12 N 91 f (nI i) u = some (r, w)
def Adv (N i : Nat) (u : ASt) (i' : Nat) (u' : ASt) : Prop := ∀ r w, run N i' u' r w → run N i u r w
theorem Adv.rf {i : Nat} {u : ASt} : Adv N i u i u := fun _ _ h => h
theorem Adv.tr {i j k : Nat} {a b c : ASt} (h : Adv N i a j b) (g : Adv N j b k c) : Adv N i a k c := fun r w q => h r w (g r w q)
theorem run_step {i : Nat} {u u1 : ASt} (hn : n ≤ 120) (hT : CT u n tx) (hi : i < n) (h : f_X5_takes N 91 (nI (tx i)) u = some (nI 1, u1)) : Adv N i u (i + 1) u1 := by
  intro r w g f hf
  obtain ⟨f, rfl⟩ : ∃ m, f = m + 1 := ⟨f - 1, by omega⟩
  have hi' : ¬ n ≤ i := by omega
  have := g f (by omega)
  simp (disch := omega) only [f_X5_parse_12, lit, hT.1, nLE, hi', if_false, ar91_0, al92, chk_in, nCl, hT.2 i hi, h, bnd_s, nE, show ¬ (1 : Nat) = 0 by omega, nI_add]
  exact this
theorem run_fail {i : Nat} {u u1 : ASt} (hn : n ≤ 120) (hT : CT u n tx) (hi : i < n) (h : f_X5_takes N 91 (nI (tx i)) u = some (nI 0, u1)) : run N i u (nI i) u1 := by
  intro f hf
  obtain ⟨f, rfl⟩ : ∃ m, f = m + 1 := ⟨f - 1, by omega⟩
  have hi' : ¬ n ≤ i := by omega
  simp (disch := omega) only [f_X5_parse_12, lit, hT.1, nLE, hi', if_false, ar91_0, al92, chk_in, nCl, hT.2 i hi, h, bnd_s, if_true]
theorem run_end_in {u : ASt} (hn : n ≤ 120) (hT : CT u n tx) (h5 : agt u 91 5 = nI 1) : run N n u (nI n) u := by
  intro f hf
  obtain ⟨f, rfl⟩ : ∃ m, f = m + 1 := ⟨f - 1, by omega⟩
  simp (disch := omega) only [f_X5_parse_12, f_X5_parse_55, lit, hT.1, nLE, Nat.le_refl, if_true, h5, nE, show ¬ (1 : Nat) = 0 by omega, if_false]
theorem run_end_0 {u : ASt} (hn : n ≤ 120) (hT : CT u n tx) (h5 : agt u 91 5 = nI 0) (h4 : agt u 91 4 = nI 0) : run N n u (nI n) u := by
  intro f hf
  obtain ⟨f, rfl⟩ : ∃ m, f = m + 1 := ⟨f - 1, by omega⟩
  simp (disch := omega) only [f_X5_parse_12, f_X5_parse_55, lit, hT.1, nLE, Nat.le_refl, if_true, h5, h4]
theorem run_end_ok {u : ASt} {o : Nat} (hn : n ≤ 120) (ho : 1 ≤ o ∧ o ≤ 60) (hT : CT u n tx) (h5 : agt u 91 5 = nI 0) (h4 : agt u 91 4 = nI o) : run N n u (-1) u := by
  intro f hf
  obtain ⟨f, rfl⟩ : ∃ m, f = m + 1 := ⟨f - 1, by omega⟩
  have h0 : ¬ o = 0 := by omega
  simp (disch := omega) only [f_X5_parse_12, f_X5_parse_55, lit, hT.1, nLE, Nat.le_refl, if_true, h5, h4, nE, h0, if_false]
/-! states -/
def TF (u u' : ASt) : Prop := ∀ a, a ≠ 91 → a ≠ 93 → a ≠ 94 → u'.1 a = u.1 a
theorem TF.rf {u : ASt} : TF u u := fun _ _ _ _ => rfl
theorem TF.tr {a b c : ASt} (h : TF a b) (g : TF b c) : TF a c := fun q h1 h2 h3 => (g q h1 h2 h3).trans (h q h1 h2 h3)
theorem TF.p {u : ASt} {o k : Nat} {x : Int32} (h : o = 91 ∨ o = 93 ∨ o = 94) : TF u (apt u o k x) := fun a h1 h2 h3 => apt_ne (by omega)
def MF (v v' : ASt) : Prop := (∀ a, a ≠ 95 → a ≠ 105 → a ≠ 106 → v'.1 a = v.1 a) ∧ ∀ k, k < 13 → agt v' 95 k = agt v 95 k
theorem MF.rf {u : ASt} : MF u u := ⟨fun _ _ _ _ => rfl, fun _ _ => rfl⟩
theorem MF.tr {a b c : ASt} (h : MF a b) (g : MF b c) : MF a c := ⟨fun q h1 h2 h3 => (g.1 q h1 h2 h3).trans (h.1 q h1 h2 h3), fun k hk => (g.2 k hk).trans (h.2 k hk)⟩
theorem MF.p5 {v : ASt} {k : Nat} {x : Int32} (h : 13 ≤ k) : MF v (apt v 95 k x) := ⟨fun a h1 _ _ => apt_ne h1, fun j hj => agt_pt_k (by omega)⟩
theorem MF.po {v : ASt} {o k : Nat} {x : Int32} (h : o = 105 ∨ o = 106) : MF v (apt v o k x) := ⟨fun a h1 h2 h3 => apt_ne (by omega), fun j hj => agt_pt_o (by omega)⟩
theorem MF.mt {v v' : ASt} (h : MF v v') (g : MT v n tx) : MT v' n tx := ⟨(h.2 6 (by omega)).trans g.1, fun j hj => (agt_e (h.1 100 (by omega) (by omega) (by omega)) j).trans (g.2 j hj)⟩
/-- the class between orders, and within one -/
def CQ (u : ASt) (n : Nat) (tx : Nat → Nat) (o : Nat) (LT NU : Nat → Nat) : Prop := CT u n tx ∧ agt u 91 4 = nI o ∧ (∀ j, j < o → agt u 93 j = nI (LT j)) ∧ ∀ j, j < 3 * o → agt u 94 j = nI (NU j)
def CO (u : ASt) (n : Nat) (tx : Nat → Nat) (o : Nat) (LT NU : Nat → Nat) (c w b d : Nat) (cu : Nat → Nat) : Prop := CQ u n tx o LT NU ∧ agt u 91 5 = nI 1 ∧ agt u 91 6 = nI w ∧ agt u 91 7 = nI b ∧ agt u 91 8 = nI d ∧ agt u 93 o = nI c ∧ ∀ k, k < 3 → agt u 94 (3 * o + k) = nI (cu k)
def MQt (v : ASt) (n : Nat) (tx : Nat → Nat) (o : Nat) (LT NU : Nat → Nat) : Prop := MT v n tx ∧ agt v 95 15 = nI o ∧ (∀ j, j < o → agt v 105 j = nI (LT j)) ∧ ∀ j, j < o → ∀ k, k < many (LT j) → agt v 106 (3 * j + k) = nI (NU (3 * j + k))
theorem CQ.p91 {u : ASt} {o k : Nat} {x : Int32} {LT NU : Nat → Nat} (h : CQ u n tx o LT NU) (h1 : k ≠ 1) (h4 : k ≠ 4) : CQ (apt u 91 k x) n tx o LT NU :=
  ⟨⟨by rw [agt_pt_k (by omega)]; exact h.1.1, fun j hj => by rw [agt_pt_o (by omega)]; exact h.1.2 j hj⟩, by rw [agt_pt_k (by omega)]; exact h.2.1, fun j hj => by rw [agt_pt_o (by omega)]; exact h.2.2.1 j hj, fun j hj => by rw [agt_pt_o (by omega)]; exact h.2.2.2 j hj⟩
theorem CT.p {u : ASt} {o k : Nat} {x : Int32} (h : CT u n tx) (ho : (o = 91 ∧ k ≠ 1) ∨ o = 93 ∨ o = 94) : CT (apt u o k x) n tx :=
  ⟨by rw [agt_pt]; rw [if_neg (by omega)]; exact h.1, fun j hj => by rw [agt_pt_o (by omega)]; exact h.2 j hj⟩
/-! blanks -/
theorem k_blank {u : ASt} : f_X5_takes N 91 (nI 32) u = some (nI 1, apt u 91 8 (nI 0)) := by
  simp only [f_X5_takes, lit, if_true, lte_s]
theorem k_blanks (hn : n ≤ 120) : ∀ d i u, i + d ≤ n → CT u n tx → (∀ j, i ≤ j → j < i + d → tx j = 32) → ∃ u', Adv N i u (i + d) u' ∧ (u' = u ∧ d = 0 ∨ agt u' 91 8 = nI 0 ∧ (∀ k, k ≠ 8 → agt u' 91 k = agt u 91 k) ∧ ∀ a, a ≠ 91 → u'.1 a = u.1 a) := by
  intro d
  induction d with
  | zero => intro i u _ _ _; exact ⟨u, Adv.rf, Or.inl ⟨rfl, rfl⟩⟩
  | succ d ih =>
    intro i u h1 hT h2
    obtain ⟨u', e1, e2⟩ := ih (i + 1) (apt u 91 8 (nI 0)) (by omega) (hT.p (Or.inl ⟨rfl, by omega⟩)) (fun j h3 h4 => h2 j (by omega) (by omega))
    have A : Adv N i u (i + 1) (apt u 91 8 (nI 0)) := run_step hn hT (by omega) (by rw [h2 i (by omega) (by omega)]; exact k_blank)
    rw [show i + 1 + d = i + (d + 1) by omega] at e1
    refine ⟨u', A.tr e1, Or.inr ?_⟩
    rcases e2 with ⟨rfl, -⟩ | ⟨g1, g2, g3⟩
    · exact ⟨agt_pt_s _ _ _ _, fun k hk => agt_pt_k hk, fun a ha => apt_ne ha⟩
    · exact ⟨g1, fun k hk => (g2 k hk).trans (agt_pt_k hk), fun a ha => (g3 a ha).trans (apt_ne ha)⟩
theorem m_isAt {v : ASt} {i a b : Nat} (hn : n ≤ 120) (hM : MT v n tx) (hi : i ≤ n) (ht : ∀ j, j < n → tx j < 128) (hs : agt v 95 13 = nI i) (ha : a < 128) (hb : b < 128) : f_X7_isAt N 95 (nI a) (nI b) v = some (bI (i < n ∧ a ≤ tx i ∧ tx i ≤ b), v) := by
  by_cases q : n ≤ i
  · rw [bIf (fun z => by omega)]
    simp (disch := omega) only [f_X7_isAt, f_X7_isAt_32, lit, hM.1, hs, nLE, q, if_true]
  · have hi2 : i < n := by omega
    have := ht i hi2
    simp (disch := omega) only [f_X7_isAt, f_X7_isAt_32, lit, hM.1, hs, nLE, q, if_false, ar95_5, al100, chk_in, nCl, hM.2 i hi2, m_within, bnd_s, bI0]
    by_cases z : a ≤ tx i ∧ tx i ≤ b
    · rw [if_neg (fun w => w z), bIt ⟨hi2, z⟩]
    · rw [if_pos z, bIf (fun w => z w.2)]
theorem m_blanks_loop (hn : n ≤ 120) (ht : ∀ j, j < n → tx j < 128) : ∀ f i v, i ≤ n → n < f + i → MT v n tx → agt v 95 13 = nI i → ∃ i' v', i ≤ i' ∧ i' ≤ n ∧ f_X7_blanks_0 N 95 f v = some ((), v') ∧ (∀ j, i ≤ j → j < i' → tx j = 32) ∧ (i' < n → ¬ tx i' = 32) ∧ agt v' 95 13 = nI i' ∧ (∀ k, k ≠ 13 → agt v' 95 k = agt v 95 k) ∧ ∀ a, a ≠ 95 → v'.1 a = v.1 a := by
  intro f
  induction f with
  | zero => intro i v h1 h2; omega
  | succ f ih =>
    intro i v h1 h2 hM hs
    have A := m_isAt (N := N) (a := 32) (b := 32) hn hM h1 ht hs (by omega) (by omega)
    by_cases q : i < n ∧ 32 ≤ tx i ∧ tx i ≤ 32
    · obtain ⟨i', v', g1, g2, g3, g4, g5, g6, g7, g8⟩ := ih (i + 1) (apt v 95 13 (nI (i + 1))) (by omega) (by omega) ((MF.p5 (by omega)).mt hM) (agt_pt_s _ _ _ _)
      refine ⟨i', v', by omega, g2, ?_, fun j h3 h4 => ?_, g5, g6, fun k hk => (g7 k hk).trans (agt_pt_k hk), fun a ha => (g8 a ha).trans (apt_ne ha)⟩
      · simp only [f_X7_blanks_0, lit, A, bnd_s, bI0, q, and_self, not_true, if_false, hs, nI_add, lte_s]
        exact g3
      · by_cases z : j = i
        · subst z; omega
        · exact g4 j (by omega) h4
    · refine ⟨i, v, by omega, h1, ?_, fun j h3 h4 => by omega, fun z w => q ⟨z, by omega, by omega⟩, hs, fun k _ => rfl, fun a _ => rfl⟩
      simp only [f_X7_blanks_0, lit, A, bnd_s, bI0, q, not_false_eq_true, if_true]
/-- blanks on both sides -/
theorem b_blanks (hN : 1000 ≤ N) (hn : n ≤ 120) (ht : ∀ j, j < n → tx j < 128) {i : Nat} {u v : ASt} (hi : i ≤ n) (hT : CT u n tx) (hM : MT v n tx) (hs : agt v 95 13 = nI i) : ∃ i' u' v', i ≤ i' ∧ i' ≤ n ∧ f_X7_blanks N 95 v = some ((), v') ∧ (i' < n → ¬ tx i' = 32) ∧ agt v' 95 13 = nI i' ∧ (∀ k, k ≠ 13 → agt v' 95 k = agt v 95 k) ∧ (∀ a, a ≠ 95 → v'.1 a = v.1 a) ∧ Adv N i u i' u' ∧ (u' = u ∧ i' = i ∨ agt u' 91 8 = nI 0 ∧ (∀ k, k ≠ 8 → agt u' 91 k = agt u 91 k) ∧ ∀ a, a ≠ 91 → u'.1 a = u.1 a) := by
  obtain ⟨i', v', g1, g2, g3, g4, g5, g6, g7, g8⟩ := m_blanks_loop (N := N) hn ht N i v hi (by omega) hM hs
  obtain ⟨u', e1, e2⟩ := k_blanks (N := N) (tx := tx) hn (i' - i) i u (by omega) hT (fun j h1 h2 => g4 j h1 (by omega))
  rw [show i + (i' - i) = i' by omega] at e1
  exact ⟨i', u', v', g1, g2, g3, g5, g6, g7, g8, e1, e2.imp (fun h => ⟨h.1, by omega⟩) id⟩
theorem CQ.bl {P : Prop} {u u' : ASt} {o : Nat} {LT NU : Nat → Nat} (h : CQ u n tx o LT NU) (e : (u' = u ∧ P) ∨ agt u' 91 8 = nI 0 ∧ (∀ k, k ≠ 8 → agt u' 91 k = agt u 91 k) ∧ ∀ a, a ≠ 91 → u'.1 a = u.1 a) : CQ u' n tx o LT NU := by
  rcases e with ⟨rfl, -⟩ | ⟨-, g2, g3⟩
  · exact h
  · exact ⟨⟨by rw [g2 1 (by omega)]; exact h.1.1, fun j hj => by rw [agt_e (g3 92 (by omega))]; exact h.1.2 j hj⟩, by rw [g2 4 (by omega)]; exact h.2.1, fun j hj => by rw [agt_e (g3 93 (by omega))]; exact h.2.2.1 j hj, fun j hj => by rw [agt_e (g3 94 (by omega))]; exact h.2.2.2 j hj⟩
theorem TF.bl {P : Prop} {u u' : ASt} (e : (u' = u ∧ P) ∨ agt u' 91 8 = nI 0 ∧ (∀ k, k ≠ 8 → agt u' 91 k = agt u 91 k) ∧ ∀ a, a ≠ 91 → u'.1 a = u.1 a) : TF u u' := by
  rcases e with ⟨rfl, -⟩ | ⟨-, g2, g3⟩
  · exact TF.rf
  · exact fun a h1 _ _ => g3 a h1
theorem MQt.k {v v' : ASt} {o : Nat} {LT NU : Nat → Nat} (h : MQt v n tx o LT NU) (e5 : agt v' 95 15 = agt v 95 15) (e6 : agt v' 95 6 = agt v 95 6) (e : ∀ a, a ≠ 95 → v'.1 a = v.1 a) : MQt v' n tx o LT NU :=
  ⟨⟨by rw [e6]; exact h.1.1, fun j hj => by rw [agt_e (e 100 (by omega))]; exact h.1.2 j hj⟩, by rw [e5]; exact h.2.1, fun j hj => by rw [agt_e (e 105 (by omega))]; exact h.2.2.1 j hj, fun j hj k hk => by rw [agt_e (e 106 (by omega))]; exact h.2.2.2 j hj k hk⟩
/-! a digit, the class -/
theorem k_digit {u : ASt} {o c w b d x : Nat} {LT NU cu : Nat → Nat} (ho : o < 60) (hb : b ≤ w) (hw : w ≤ 3) (hd : d < 3) (hx : isD x) (h : CO u n tx o LT NU c w b d cu) (h0 : d = 0 → b < w) (h1 : d ≠ 0 → 0 < b) (hcu : ∀ k, k < 3 → cu k < 1000) : ∃ u', f_X5_takes N 91 (nI x) u = some (nI 1, u') ∧ TF u u' ∧ CO u' n tx o LT NU c w (if d = 0 then b + 1 else b) (d + 1) (sb cu ((if d = 0 then b + 1 else b) - 1) (10 * cu ((if d = 0 then b + 1 else b) - 1) + (x - 48))) := by
  obtain ⟨q, h5, h6, h7, h8, h9, h10⟩ := h
  unfold isD at hx
  have x1 : ¬ x = 32 := by omega
  have x2 : ¬ x = 59 := by omega
  have x3 : ¬ x < 48 := by omega
  have x4 : ¬ 57 < x := by omega
  -- the part that both ways share
  have P : ∀ (u0 : ASt) (b0 : Nat), 0 < b0 → b0 ≤ 3 → CQ u0 n tx o LT NU → agt u0 91 5 = nI 1 → agt u0 91 6 = nI w → agt u0 91 7 = nI b0 → agt u0 91 8 = nI d → agt u0 93 o = nI c → (∀ k, k < 3 → agt u0 94 (3 * o + k) = nI (cu k)) → ∃ u', f_X5_takesDigit_43 N 91 (nI (x - 48)) u0 = some (nI 1, u') ∧ TF u0 u' ∧ CO u' n tx o LT NU c w b0 (d + 1) (sb cu (b0 - 1) (10 * cu (b0 - 1) + (x - 48))) := by
    intro u0 b0 hb0 hb3 q0 g5 g6 g7 g8 g9 g10
    have c1 := hcu (b0 - 1) (by omega)
    have n1 := g10 (b0 - 1) (by omega)
    obtain ⟨u', hu'⟩ : ∃ z, z = apt (apt u0 94 (3 * o + (b0 - 1)) (nI (10 * cu (b0 - 1) + (x - 48)))) 91 8 (nI (d + 1)) := ⟨_, rfl⟩
    have e8 : agt (apt u0 94 (3 * o + (b0 - 1)) (nI (10 * cu (b0 - 1) + (x - 48)))) 91 8 = nI d := by rw [agt_pt_o (by omega)]; exact g8
    refine ⟨u', ?_, ?_, ⟨⟨⟨?_, fun j hj => ?_⟩, ?_, fun j hj => ?_, fun j hj => ?_⟩, ?_, ?_, ?_, ?_, ?_, fun k hk => ?_⟩⟩
    · have ix : nI (o * 3 + b0) - nI 1 = nI (3 * o + (b0 - 1)) := by rw [nSub (by omega)]; congr 1; omega
      simp (disch := omega) only [f_X5_takesDigit_43, lit, q0.2.1, pk_mul, g7, nI_add, ix, lte_s, ar91_3, al94, chk_in, nCl, n1, nI_add, e8, ← hu']
    · rw [hu']; exact (TF.p (Or.inr (Or.inr rfl))).tr (TF.p (Or.inl rfl))
    · rw [hu', agt_pt_k (by omega), agt_pt_o (by omega)]; exact q0.1.1
    · rw [hu', agt_pt_o (by omega), agt_pt_o (by omega)]; exact q0.1.2 j hj
    · rw [hu', agt_pt_k (by omega), agt_pt_o (by omega)]; exact q0.2.1
    · rw [hu', agt_pt_o (by omega), agt_pt_o (by omega)]; exact q0.2.2.1 j hj
    · rw [hu', agt_pt_o (by omega), agt_pt_k (by omega)]; exact q0.2.2.2 j hj
    · rw [hu', agt_pt_k (by omega), agt_pt_o (by omega)]; exact g5
    · rw [hu', agt_pt_k (by omega), agt_pt_o (by omega)]; exact g6
    · rw [hu', agt_pt_k (by omega), agt_pt_o (by omega)]; exact g7
    · rw [hu', agt_pt_s]
    · rw [hu', agt_pt_o (by omega), agt_pt_o (by omega)]; exact g9
    · rw [hu', agt_pt_o (by omega), agt_pt]
      unfold sb
      by_cases z : k = b0 - 1
      · subst z; simp
      · rw [if_neg (by omega), if_neg z]; exact g10 k hk
  by_cases z : d = 0
  · subst z
    have hbw : ¬ b = w := by have := h0 rfl; omega
    obtain ⟨u', e1, e2, e3⟩ := P (apt u 91 7 (nI (b + 1))) (b + 1) (by omega) (by have := h0 rfl; omega) (q.p91 (by omega) (by omega)) (by rw [agt_pt_k (by omega)]; exact h5) (by rw [agt_pt_k (by omega)]; exact h6) (agt_pt_s _ _ _ _) (by rw [agt_pt_k (by omega)]; exact h8) (by rw [agt_pt_o (by omega)]; exact h9) (fun k hk => by rw [agt_pt_o (by omega)]; exact h10 k hk)
    refine ⟨u', ?_, (TF.p (Or.inl rfl)).tr e2, by rw [if_pos rfl]; exact e3⟩
    simp (disch := omega) only [f_X5_takes, f_X5_takesDigit, lit, nE, x1, x2, nLT, x3, x4, if_false, h5, show ¬ (1 : Nat) = 0 by omega, nSub, h8, if_true, h7, h6, hbw, nI_add, lte_s, e1, bnd_s]
  · have hd3 : ¬ d = 3 := by omega
    obtain ⟨u', e1, e2, e3⟩ := P u b (h1 z) (by omega) q h5 h6 h7 h8 h9 h10
    refine ⟨u', ?_, e2, by rw [if_neg z]; exact e3⟩
    simp (disch := omega) only [f_X5_takes, f_X5_takesDigit, lit, nE, x1, x2, nLT, x3, x4, if_false, h5, show ¬ (1 : Nat) = 0 by omega, nSub, h8, z, hd3, e1, bnd_s]
theorem k_digit_full {u : ASt} {x : Nat} (hx : isD x) (h5 : agt u 91 5 = nI 1) (h8 : agt u 91 8 = nI 3) : f_X5_takes N 91 (nI x) u = some (nI 0, u) := by
  unfold isD at hx
  have x1 : ¬ x = 32 := by omega
  have x2 : ¬ x = 59 := by omega
  have x3 : ¬ x < 48 := by omega
  have x4 : ¬ 57 < x := by omega
  simp (disch := omega) only [f_X5_takes, f_X5_takes_64, f_X5_takesDigit, lit, nE, x1, x2, nLT, x3, x4, if_false, h5, show ¬ (1 : Nat) = 0 by omega, nSub, h8, show ¬ (3 : Nat) = 0 by omega, if_true, bnd_s]
theorem k_digit_over {u : ASt} {x w : Nat} (hx : isD x) (hw : w ≤ 3) (h5 : agt u 91 5 = nI 1) (h8 : agt u 91 8 = nI 0) (h7 : agt u 91 7 = nI w) (h6 : agt u 91 6 = nI w) : f_X5_takes N 91 (nI x) u = some (nI 0, u) := by
  unfold isD at hx
  have x1 : ¬ x = 32 := by omega
  have x2 : ¬ x = 59 := by omega
  have x3 : ¬ x < 48 := by omega
  have x4 : ¬ 57 < x := by omega
  simp (disch := omega) only [f_X5_takes, f_X5_takes_64, f_X5_takesDigit, lit, nE, x1, x2, nLT, x3, x4, if_false, h5, show ¬ (1 : Nat) = 0 by omega, nSub, h8, if_true, h7, h6, bnd_s]
theorem k_other {u : ASt} {x : Nat} (h : x < 128) (h1 : ¬ x = 32) (h2 : ¬ x = 59) (hx : ¬ isD x) (h5 : agt u 91 5 = nI 1) : f_X5_takes N 91 (nI x) u = some (nI 0, u) := by
  unfold isD at hx
  by_cases x3 : x < 48
  · simp (disch := omega) only [f_X5_takes, f_X5_takes_64, lit, nE, h1, h2, nLT, x3, if_false, h5, show ¬ (1 : Nat) = 0 by omega, if_true]
  · have x4 : 57 < x := by omega
    simp (disch := omega) only [f_X5_takes, f_X5_takes_64, lit, nE, h1, h2, nLT, x3, x4, if_false, h5, show ¬ (1 : Nat) = 0 by omega, if_true]
theorem k_semi_no {u : ASt} {b w : Nat} (hb : b ≤ 3) (hw : w ≤ 3) (hbw : ¬ b = w) (h5 : agt u 91 5 = nI 1) (h7 : agt u 91 7 = nI b) (h6 : agt u 91 6 = nI w) : f_X5_takes N 91 (nI 59) u = some (nI 0, u) := by
  simp (disch := omega) only [f_X5_takes, f_X5_takesEnd, lit, nE, show ¬ (59 : Nat) = 32 by omega, if_false, h5, show ¬ (1 : Nat) = 0 by omega, if_true, h7, h6, hbw, bnd_s, show (0 : Nat) = 1 ↔ False by simp, or_false, chk_True]
theorem k_semi {u : ASt} {o w : Nat} (ho : o < 60) (hw : w ≤ 3) (h4 : agt u 91 4 = nI o) (h5 : agt u 91 5 = nI 1) (h7 : agt u 91 7 = nI w) (h6 : agt u 91 6 = nI w) : f_X5_takes N 91 (nI 59) u = some (nI 1, apt (apt u 91 4 (nI (o + 1))) 91 5 (nI 0)) := by
  simp (disch := omega) only [f_X5_takes, f_X5_takesEnd, lit, nE, show ¬ (59 : Nat) = 32 by omega, if_false, h5, show ¬ (1 : Nat) = 0 by omega, if_true, h7, h6, h4, nI_add, lte_s, bnd_s, or_true, chk_True]
end TEXT
