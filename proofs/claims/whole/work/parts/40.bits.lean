/-! bits -/
theorem nI_bit {a i : Nat} (hi : i < 32) : (nI a).toBitVec.getLsbD i = a.testBit i := by
  show (BitVec.ofNat 32 a).getLsbD i = _
  rw [BitVec.getLsbD_ofNat]
  simp [hi]
theorem i32_ext {x y : Int32} (h : ∀ i, i < 32 → x.toBitVec.getLsbD i = y.toBitVec.getLsbD i) : x = y := by
  apply Int32.toBitVec_inj.mp
  apply BitVec.eq_of_getLsbD_eq
  exact h
theorem tb_255 : ∀ i, (255 : Nat).testBit i = decide (i < 8) := by
  intro i
  exact Nat.testBit_two_pow_sub_one 8 i
theorem tb_hi {a i : Nat} (ha : a < 256) (hi : 8 ≤ i) : a.testBit i = false := by
  apply Nat.testBit_lt_two_pow
  exact Nat.lt_of_lt_of_le ha (Nat.pow_le_pow_right (n := 2) (by omega) hi)
theorem nAndN {a b : Nat} (ha : a < 256) : nI a &&& (nI b ^^^ (-1)) = nI (a &&& (255 ^^^ b)) := by
  apply i32_ext
  intro i hi
  rw [nI_bit hi, Int32.toBitVec_and, Int32.toBitVec_xor, BitVec.getLsbD_and, BitVec.getLsbD_xor, nI_bit hi, nI_bit hi, Nat.testBit_and, Nat.testBit_xor, tb_255]
  have h1 : (-1 : Int32).toBitVec.getLsbD i = true := by
    have : ∀ i, i < 32 → (-1 : Int32).toBitVec.getLsbD i = true := by decide
    exact this i hi
  rw [h1]
  by_cases q : i < 8
  · simp [q, Bool.xor_comm]
  · rw [tb_hi ha (by omega)]
    simp
theorem andN_lt {a b : Nat} (ha : a < 256) : a &&& (255 ^^^ b) < 256 := Nat.lt_of_le_of_lt Nat.and_le_left ha
theorem tb_one {s k : Nat} : (s >>> k &&& 1 = 1) ↔ s.testBit k = true := by
  rw [Nat.and_comm]
  unfold Nat.testBit
  have h : 1 &&& s >>> k < 2 := Nat.lt_of_le_of_lt Nat.and_le_left (by decide)
  generalize 1 &&& s >>> k = z at h ⊢
  have : z = 0 ∨ z = 1 := by omega
  rcases this with rfl | rfl <;> simp
theorem tb_bit {s k : Nat} : s >>> k &&& 1 = if s.testBit k = true then 1 else 0 := by
  by_cases h : s.testBit k = true
  · rw [if_pos h]; exact tb_one.mpr h
  · rw [if_neg h]
    have h1 : ¬ (s >>> k &&& 1 = 1) := fun q => h (tb_one.mp q)
    have h2 : s >>> k &&& 1 < 2 := Nat.lt_of_le_of_lt Nat.and_le_right (by decide)
    omega
theorem shr_lt {s k n : Nat} (h : s < n) : s >>> k < n := by
  rw [Nat.shiftRight_eq_div_pow]
  exact Nat.lt_of_le_of_lt (Nat.div_le_self _ _) h
theorem k_isMember {N s k : Nat} {u : ASt} (hs : s < 2147483648) (hk : k < 32) : f_X6_isMember N (nI s) (nI k) u = some (bI (s.testBit k = true), u) := by
  have e : nI s >>> (nI k &&& nI 31) = nI (s >>> k) := nShr hk hs
  have h1 : s >>> k < 2147483648 := shr_lt hs
  have h2 : s >>> k &&& 1 < 2147483648 := Nat.lt_of_le_of_lt Nat.and_le_left h1
  simp only [f_X6_isMember, lit, e]
  simp (disch := omega) only [nAnd, nE]
  by_cases q : s.testBit k = true
  · rw [if_pos (tb_one.mpr q), bIt q]
  · rw [if_neg (fun z => q (tb_one.mp z)), bIf q]
theorem m_has {N s k : Nat} {u : ASt} (hs : s < 2147483648) (hk : k < 32) : f_X7_has N (nI s) (nI k) u = some (bI (s.testBit k = true), u) := by
  have e : nI s >>> (nI k &&& nI 31) = nI (s >>> k) := nShr hk hs
  have h1 : s >>> k < 2147483648 := shr_lt hs
  have h2 : s >>> k &&& 1 < 2147483648 := Nat.lt_of_le_of_lt Nat.and_le_left h1
  simp only [f_X7_has, lit, e]
  simp (disch := omega) only [nAnd, nE]
  by_cases q : s.testBit k = true
  · rw [if_pos (tb_one.mpr q), bIt q]
  · rw [if_neg (fun z => q (tb_one.mp z)), bIf q]
theorem tb_shl1 {n i : Nat} : (1 <<< n).testBit i = decide (i = n) := by
  rw [Nat.shiftLeft_eq, Nat.one_mul, Nat.testBit_two_pow]
  simp [eq_comm]
theorem omk_tb {β : Nat → Nat} {c : Nat} : ∀ n, (∀ k, k < n → bc β c (7 + 2 * k) ≤ 1) → ∀ k, (omk β c n).testBit k = decide (k < n ∧ bc β c (7 + 2 * k) = 1)
  | 0, _, k => by simp [omk]
  | n + 1, h, k => by
    rw [omk, Nat.testBit_or, omk_tb n (fun j hj => h j (by omega)) k]
    have hb := h n (by omega)
    have q : bc β c (7 + 2 * n) = 0 ∨ bc β c (7 + 2 * n) = 1 := by omega
    by_cases e : k = n
    · subst e
      rcases q with q | q <;> rw [q] <;> simp [tb_shl1]
    · rcases q with q | q
      · rw [q]
        have : (k < n + 1) ↔ k < n := by omega
        simp [this]
      · rw [q, tb_shl1]
        have : (k < n + 1) ↔ k < n := by omega
        simp [this, e]
/-! codes of faults -/
theorem k_kind {N x : Nat} {u : ASt} (h : x < 5000) : f_X6_kindOf N (nI x) u = some (nI (x / 1000), u) := by
  simp (disch := omega) only [f_X6_kindOf, lit, nDiv]
theorem k_tens {N x : Nat} {u : ASt} (h : x < 5000) : f_X6_tensOf N (nI x) u = some (nI (x / 10 % 10), u) := by
  have h1 : x / 10 < 5000 := by omega
  simp (disch := omega) only [f_X6_tensOf, lit, nDiv]
  rw [← nRem (a := x / 10) (d := 10) (by omega) (by omega) (by omega), nDiv (by omega) (by omega) (by omega)]
theorem k_ones {N x : Nat} {u : ASt} (h : x < 5000) : f_X6_onesOf N (nI x) u = some (nI (x % 10), u) := by
  simp (disch := omega) only [f_X6_onesOf, lit, nRem]
theorem WF_1 {x : Nat} (h : WF x) (h1 : x / 1000 = 1) : x / 10 % 10 < 4 ∧ x % 10 < 6 ∧ x = 1000 + 10 * (x / 10 % 10) + x % 10 := by
  rcases h with ⟨c, k, h1, h2, h3⟩ | ⟨c, k, h1, h2, h3⟩ | ⟨c, k, h1, h2, h3 | h3⟩ <;> omega
theorem WF_2 {x : Nat} (h : WF x) (h1 : x / 1000 = 2) : x / 10 % 10 < 8 ∧ x % 10 < 2 ∧ x = 2000 + 10 * (x / 10 % 10) + x % 10 := by
  rcases h with ⟨c, k, h1, h2, h3⟩ | ⟨c, k, h1, h2, h3⟩ | ⟨c, k, h1, h2, h3 | h3⟩ <;> omega
theorem WF_34 {x : Nat} (h : WF x) (h1 : 3000 ≤ x) : x / 10 % 10 < 8 ∧ x % 10 < 8 ∧ x / 10 % 10 < x % 10 ∧ (x / 1000 = 3 ↔ x < 4000) ∧ (x / 1000 = 4 ↔ ¬ x < 4000) := by
  rcases h with ⟨c, k, h1, h2, h3⟩ | ⟨c, k, h1, h2, h3⟩ | ⟨c, k, h1, h2, h3 | h3⟩ <;> omega
theorem WF_n {x : Nat} (h : WF x) : (x / 1000 = 3 ∨ x / 1000 = 4) ↔ 3000 ≤ x := by
  rcases h with ⟨c, k, h1, h2, h3⟩ | ⟨c, k, h1, h2, h3⟩ | ⟨c, k, h1, h2, h3 | h3⟩ <;> omega
theorem WF_open {x c k : Nat} (h : WF x) (hc : c < 10) (hk : k < 10) : x = 1000 + 10 * c + k ↔ (x / 1000 = 1 ∧ x / 10 % 10 = c ∧ x % 10 = k) := by
  rcases h with ⟨c, k, h1, h2, h3⟩ | ⟨c, k, h1, h2, h3⟩ | ⟨c, k, h1, h2, h3 | h3⟩ <;> omega
/-! what nets are: shorts, then stuck ones -/
def sh1 (x : Nat) (W : Nat → Nat) : Nat → Nat := if 3000 ≤ x then (fun n => if n = x / 10 % 10 ∨ n = x % 10 then (if x < 4000 then W (x / 10 % 10) &&& W (x % 10) else W (x / 10 % 10) ||| W (x % 10)) else W n) else W
def st1 (A x : Nat) (W : Nat → Nat) : Nat → Nat := if x / 1000 = 2 then (fun n => if n = x / 10 % 10 then (if x % 10 = 1 then A else 0) else W n) else W
def shs (F : Nat → Nat) : Nat → (Nat → Nat) → Nat → Nat
  | 0, W => W
  | j + 1, W => sh1 (F j) (shs F j W)
def sts (A : Nat) (F : Nat → Nat) : Nat → (Nat → Nat) → Nat → Nat
  | 0, W => W
  | j + 1, W => st1 A (F j) (sts A F j W)
/-- a row of eight holds these -/
def R8 (u : ASt) (o : Nat) (W : Nat → Nat) : Prop := ∀ n, n < 8 → agt u o n = nI (W n)
def B8 (W : Nat → Nat) : Prop := ∀ n, n < 8 → W n < 256
theorem sh1_B {x : Nat} {W : Nat → Nat} (hx : WF x) (h : B8 W) : B8 (sh1 x W) := by
  intro n hn
  unfold sh1
  by_cases q : 3000 ≤ x
  · rw [if_pos q]
    obtain ⟨q1, q2, -⟩ := WF_34 hx q
    try dsimp only
    split
    · split
      · exact Nat.lt_of_le_of_lt Nat.and_le_left (h _ q1)
      · exact Nat.or_lt_two_pow (n := 8) (h _ q1) (h _ q2)
    · exact h n hn
  · rw [if_neg q]; exact h n hn
theorem st1_B {A x : Nat} {W : Nat → Nat} (hA : A < 256) (h : B8 W) : B8 (st1 A x W) := by
  intro n hn
  unfold st1
  split
  · try dsimp only
    split
    · split <;> omega
    · exact h n hn
  · exact h n hn
theorem shs_B {F : Nat → Nat} {W : Nat → Nat} : ∀ m, (∀ j, j < m → WF (F j)) → B8 W → B8 (shs F m W)
  | 0, _, h => h
  | m + 1, hF, h => sh1_B (hF m (by omega)) (shs_B m (fun j hj => hF j (by omega)) h)
theorem sts_B {A : Nat} {F : Nat → Nat} {W : Nat → Nat} (hA : A < 256) : ∀ m, B8 W → B8 (sts A F m W)
  | 0, h => h
  | m + 1, h => st1_B hA (sts_B hA m h)
