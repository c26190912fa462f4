/-! a board as a row of 83 numbers: 0 chips, 1 the port's place, 2 faults, 3.. their codes, 7 + 19 c + f field f of chip c
    (0 long, 1 id, 2 cells, 3 instruction, 4 IR, 5 DR, 6 latches, 7 + 2 k kind of cell k, 8 + 2 k its net) -/
def bc (β : Nat → Nat) (c f : Nat) : Nat := β (7 + 19 * c + f)
def sb (β : Nat → Nat) (i x : Nat) : Nat → Nat := fun k => if k = i then x else β k
def WF (x : Nat) : Prop := (∃ c k, c < 4 ∧ k < 6 ∧ x = 1000 + 10 * c + k) ∨ (∃ n v, n < 8 ∧ v < 2 ∧ x = 2000 + 10 * n + v) ∨ (∃ a b, a < b ∧ b < 8 ∧ (x = 3000 + 10 * a + b ∨ x = 4000 + 10 * a + b))
def WC (β : Nat → Nat) (c : Nat) : Prop := 2 ≤ bc β c 0 ∧ bc β c 0 ≤ 4 ∧ bc β c 1 ≤ 256 ∧ bc β c 2 ≤ 6 ∧ bc β c 3 < 16 ∧ bc β c 4 < 16 ∧ bc β c 5 < 256 ∧ bc β c 6 < 256 ∧ ∀ k, k < bc β c 2 → bc β c (7 + 2 * k) ≤ 1 ∧ bc β c (8 + 2 * k) < 8
def WB (β : Nat → Nat) : Prop := β 0 ≤ 4 ∧ β 1 < 16 ∧ β 2 ≤ 4 ∧ (∀ j, j < β 2 → WF (β (3 + j))) ∧ ∀ c, c < β 0 → WC β c
theorem WF_lt {x : Nat} (h : WF x) : x < 5000 := by
  rcases h with ⟨c, k, h1, h2, h3⟩ | ⟨c, k, h1, h2, h3⟩ | ⟨c, k, h1, h2, h3 | h3⟩ <;> omega
/-! masks -/
def orC (β : Nat → Nat) (c : Nat) (q : Nat → Nat) : Nat → Nat
  | 0 => 0
  | k + 1 => orC β c q k ||| q k
/-- the outputs of a chip, as a set of cells -/
def omk (β : Nat → Nat) (c : Nat) : Nat → Nat
  | 0 => 0
  | k + 1 => omk β c k ||| (bc β c (7 + 2 * k) <<< k)
/-- the nets of the cells of chips below c, then of the first k of chip c: all, or of outputs -/
def nmk1 (β : Nat → Nat) (out : Bool) (c : Nat) : Nat → Nat
  | 0 => 0
  | k + 1 => nmk1 β out c k ||| (if out = true ∧ bc β c (7 + 2 * k) = 0 then 0 else 1 <<< bc β c (8 + 2 * k))
def nmk (β : Nat → Nat) (out : Bool) : Nat → Nat
  | 0 => 0
  | c + 1 => nmk β out c ||| nmk1 β out c (bc β c 2)
/-- the model's row -/
def MB (v : ASt) (β : Nat → Nat) : Prop := ∀ k, k < 83 → agt v 96 k = nI (β k)
/-- a chip of the class -/
def CC (u : ASt) (o a : Nat) (β : Nat → Nat) (c : Nat) : Prop := agt u o 0 = nI (bc β c 0) ∧ agt u o 1 = nI (bc β c 1) ∧ agt u o 2 = nI (bc β c 3) ∧ agt u o 3 = nI (bc β c 4) ∧ agt u o 4 = nI (bc β c 5) ∧ agt u o 5 = nI (bc β c 6) ∧ agt u o 6 = nI (bc β c 2) ∧ agt u o 7 = nI (omk β c (bc β c 2)) ∧ ∀ k, k < bc β c 2 → agt u a k = nI (bc β c (8 + 2 * k))
/-- board b of the class -/
def CB (u : ASt) (b : Nat) (β : Nat → Nat) : Prop := agt u (11 * b) 1 = nI (β 0) ∧ agt u (11 * b) 4 = nI (β 1) ∧ agt u (11 * b) 3 = nI (β 2) ∧ (∀ j, j < β 2 → agt u (11 * b + 2) j = nI (β (3 + j))) ∧ (∀ c, c < β 0 → CC u (11 * b + 3 + c) (11 * b + 7 + c) β c) ∧ agt u (11 * b) 5 = nI (nmk β false (β 0)) ∧ agt u (11 * b) 6 = nI (nmk β true (β 0))
/-- what a call on the board leaves as it was: all but board 0 and what the nets and the tester scribble -/
def CK (u u' : ASt) : Prop := ∀ a, 11 ≤ a → ¬ (78 ≤ a ∧ a ≤ 88) → u'.1 a = u.1 a
def CK0 (u u' : ASt) : Prop := ∀ a, ¬ (78 ≤ a ∧ a ≤ 88) → u'.1 a = u.1 a
def MK (v v' : ASt) : Prop := (∀ a, 97 ≤ a → a ≤ 100 → v'.1 a = v.1 a) ∧ agt v' 95 3 = agt v 95 3 ∧ agt v' 95 6 = agt v 95 6
def MK0 (v v' : ASt) : Prop := (∀ a, 96 ≤ a → a ≤ 100 → v'.1 a = v.1 a) ∧ agt v' 95 3 = agt v 95 3 ∧ agt v' 95 6 = agt v 95 6
theorem CK.rf {u : ASt} : CK u u := fun _ _ _ => rfl
theorem CK0.rf {u : ASt} : CK0 u u := fun _ _ => rfl
theorem MK.rf {u : ASt} : MK u u := ⟨fun _ _ _ => rfl, rfl, rfl⟩
theorem MK0.rf {u : ASt} : MK0 u u := ⟨fun _ _ _ => rfl, rfl, rfl⟩
theorem CK.tr {a b c : ASt} (h : CK a b) (g : CK b c) : CK a c := fun q h1 h2 => (g q h1 h2).trans (h q h1 h2)
theorem CK0.tr {a b c : ASt} (h : CK0 a b) (g : CK0 b c) : CK0 a c := fun q h1 => (g q h1).trans (h q h1)
theorem CK0.k {a b : ASt} (h : CK0 a b) : CK a b := fun q _ h2 => h q h2
theorem MK.tr {a b c : ASt} (h : MK a b) (g : MK b c) : MK a c := ⟨fun q h1 h2 => (g.1 q h1 h2).trans (h.1 q h1 h2), g.2.1.trans h.2.1, g.2.2.trans h.2.2⟩
theorem MK0.tr {a b c : ASt} (h : MK0 a b) (g : MK0 b c) : MK0 a c := ⟨fun q h1 h2 => (g.1 q h1 h2).trans (h.1 q h1 h2), g.2.1.trans h.2.1, g.2.2.trans h.2.2⟩
theorem MK0.k {a b : ASt} (h : MK0 a b) : MK a b := ⟨fun q h1 h2 => h.1 q (by omega) h2, h.2⟩
theorem MK0.mb {a b : ASt} {β : Nat → Nat} (h : MK0 a b) (g : MB a β) : MB b β := fun k hk => (agt_e (h.1 96 (by omega) (by omega)) k).trans (g k hk)
theorem CC.kept {u u' : ASt} {o a c : Nat} {β : Nat → Nat} (h : CC u o a β c) (h1 : u'.1 o = u.1 o) (h2 : u'.1 a = u.1 a) : CC u' o a β c := by
  obtain ⟨a0, a1, a2, a3, a4, a5, a6, a7, a8⟩ := h
  refine ⟨?_, ?_, ?_, ?_, ?_, ?_, ?_, ?_, fun k hk => ?_⟩ <;> first | (rw [agt_e h1]; assumption) | (rw [agt_e h2]; exact a8 k hk)
theorem CB.kept {u u' : ASt} {b : Nat} {β : Nat → Nat} (h : CB u b β) (hw : β 0 ≤ 4) (hk : ∀ a, 11 * b ≤ a → a < 11 * b + 11 → u'.1 a = u.1 a) : CB u' b β := by
  obtain ⟨a0, a1, a2, a3, a4, a5, a6⟩ := h
  have e0 := hk (11 * b) (by omega) (by omega)
  refine ⟨?_, ?_, ?_, fun j hj => ?_, fun c hc => (a4 c hc).kept (hk _ (by omega) (by omega)) (hk _ (by omega) (by omega)), ?_, ?_⟩ <;> first | (rw [agt_e e0]; assumption) | (rw [agt_e (hk _ (by omega) (by omega))]; exact a3 j hj)
/-! updates of a row -/
theorem sb_eq {β : Nat → Nat} {i x : Nat} : sb β i x i = x := if_pos rfl
theorem sb_ne {β : Nat → Nat} {i x k : Nat} (h : k ≠ i) : sb β i x k = β k := if_neg h
theorem bc_sb {β : Nat → Nat} {c f x c' f' : Nat} (hf : f < 19) (hf' : f' < 19) : bc (sb β (7 + 19 * c + f) x) c' f' = if c' = c ∧ f' = f then x else bc β c' f' := by
  unfold bc sb
  by_cases h : c' = c ∧ f' = f
  · obtain ⟨rfl, rfl⟩ := h
    simp
  · rw [if_neg h, if_neg]
    intro e
    apply h
    omega
theorem bc_lo {β : Nat → Nat} {i x c f : Nat} (h : i < 7) : bc (sb β i x) c f = bc β c f := by
  unfold bc sb
  rw [if_neg (by omega)]
theorem MB.put {v : ASt} {β : Nat → Nat} {i x : Nat} (h : MB v β) : MB (apt v 96 i (nI x)) (sb β i x) := by
  intro k hk
  rw [agt_pt]
  unfold sb
  by_cases e : k = i
  · simp [e]
  · simp [e, h k hk]
theorem MB.get {v : ASt} {β : Nat → Nat} (h : MB v β) {c f : Nat} (hc : c < 4) (hf : f < 19) : agt v 96 (7 + 19 * c + f) = nI (bc β c f) := h _ (by omega)
theorem MK.p96 {v : ASt} {i : Nat} {x : Int32} : MK v (apt v 96 i x) := ⟨fun a h1 h2 => apt_ne (by omega), by rw [agt_pt_o (by decide)], by rw [agt_pt_o (by decide)]⟩
theorem omk_congr {β β' : Nat → Nat} {c : Nat} : ∀ n, (∀ k, k < n → bc β' c (7 + 2 * k) = bc β c (7 + 2 * k)) → omk β' c n = omk β c n
  | 0, _ => rfl
  | n + 1, h => by rw [omk, omk, omk_congr n (fun k hk => h k (by omega)), h n (by omega)]
theorem nmk1_congr {β β' : Nat → Nat} {b : Bool} {c : Nat} : ∀ n, (∀ k, k < n → bc β' c (7 + 2 * k) = bc β c (7 + 2 * k) ∧ bc β' c (8 + 2 * k) = bc β c (8 + 2 * k)) → nmk1 β' b c n = nmk1 β b c n
  | 0, _ => rfl
  | n + 1, h => by rw [nmk1, nmk1, nmk1_congr n (fun k hk => h k (by omega)), (h n (by omega)).1, (h n (by omega)).2]
theorem nmk_congr {β β' : Nat → Nat} {b : Bool} : ∀ n, (∀ c, c < n → bc β' c 2 = bc β c 2 ∧ ∀ k, k < bc β c 2 → bc β' c (7 + 2 * k) = bc β c (7 + 2 * k) ∧ bc β' c (8 + 2 * k) = bc β c (8 + 2 * k)) → nmk β' b n = nmk β b n
  | 0, _ => rfl
  | n + 1, h => by rw [nmk, nmk, nmk_congr n (fun k hk => h k (by omega)), (h n (by omega)).1, nmk1_congr _ (h n (by omega)).2]
theorem shl_256 {a n : Nat} (ha : a ≤ 1) (hn : n < 8) : a <<< n < 256 := by
  have : ∀ a, a < 2 → ∀ n, n < 8 → a <<< n < 256 := by decide
  exact this a (by omega) n hn
theorem omk_lt {β : Nat → Nat} {c : Nat} : ∀ n, n ≤ 6 → (∀ k, k < n → bc β c (7 + 2 * k) ≤ 1) → omk β c n < 256
  | 0, _, _ => by show 0 < 256; decide
  | n + 1, hn, h => Nat.or_lt_two_pow (n := 8) (omk_lt n (by omega) (fun k hk => h k (by omega))) (shl_256 (h n (by omega)) (by omega))
theorem nmk1_lt {β : Nat → Nat} {b : Bool} {c : Nat} : ∀ n, (∀ k, k < n → bc β c (8 + 2 * k) < 8) → nmk1 β b c n < 256
  | 0, _ => by show 0 < 256; decide
  | n + 1, h => by
    refine Nat.or_lt_two_pow (n := 8) (nmk1_lt n (fun k hk => h k (by omega))) ?_
    split
    · decide
    · exact shl_256 (Nat.le_refl 1) (h n (by omega))
theorem nmk_lt {β : Nat → Nat} {b : Bool} : ∀ n, (∀ c, c < n → ∀ k, k < bc β c 2 → bc β c (8 + 2 * k) < 8) → nmk β b n < 256
  | 0, _ => by show 0 < 256; decide
  | n + 1, h => Nat.or_lt_two_pow (n := 8) (nmk_lt n (fun c hc => h c (by omega))) (nmk1_lt _ (h n (by omega)))
