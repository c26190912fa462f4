/-! numbers: Int32 as Nat -/
theorem lit (n : Nat) : (OfNat.ofNat n : Int32) = nI (OfNat.ofNat n) := rfl
theorem nE {a b : Nat} (ha : a < 2147483648) (hb : b < 2147483648) : (nI a = nI b) ↔ a = b := nI_eq (by omega) (by omega)
theorem nLE {a b : Nat} (ha : a < 2147483648) (hb : b < 2147483648) : (nI a ≤ nI b) ↔ a ≤ b := nI_leI (by omega) (by omega)
theorem nLT {a b : Nat} (ha : a < 2147483648) (hb : b < 2147483648) : (nI a < nI b) ↔ a < b := nI_ltI (by omega) (by omega)
theorem nCl {a : Nat} (ha : a < 2147483648) : Int32.toNatClampNeg (nI a) = a := nI_clamp (by omega)
theorem nIn {a n : Nat} (ha : a < 2147483648) : ain (nI a) n ↔ a < n := by
  show (¬ (nI a < nI 0 ∨ n ≤ Int32.toNatClampNeg (nI a))) ↔ a < n
  rw [nCl ha, nLT ha (by omega)]
  omega
theorem nSub {a b : Nat} (h : b ≤ a) : nI a - nI b = nI (a - b) := pk_sub h
theorem nOr (a b : Nat) : nI a ||| nI b = nI (a ||| b) := by
  apply Int32.toBitVec_inj.mp
  show BitVec.ofNat 32 a ||| BitVec.ofNat 32 b = BitVec.ofNat 32 (a ||| b)
  apply BitVec.eq_of_toNat_eq
  simp [BitVec.toNat_or, BitVec.toNat_ofNat, Nat.or_mod_two_pow]
theorem nAnd (a b : Nat) : nI a &&& nI b = nI (a &&& b) := by
  apply Int32.toBitVec_inj.mp
  show BitVec.ofNat 32 a &&& BitVec.ofNat 32 b = BitVec.ofNat 32 (a &&& b)
  apply BitVec.eq_of_toNat_eq
  simp [BitVec.toNat_and, BitVec.toNat_ofNat, Nat.and_mod_two_pow]
theorem nSm : ∀ s, s < 32 → ((nI s &&& 31).toBitVec.smod 32).toNat = s := by decide
theorem nShl {a s : Nat} (hs : s < 32) (h : a <<< s < 4294967296) : nI a <<< (nI s &&& 31) = nI (a <<< s) := by
  rw [Nat.shiftLeft_eq] at h ⊢
  exact pk_shlN (nI s &&& 31) s (nSm s hs) h
theorem nShr {a s : Nat} (hs : s < 32) (h : a < 2147483648) : nI a >>> (nI s &&& 31) = nI (a >>> s) := by
  rw [Nat.shiftRight_eq_div_pow]
  exact pk_shrN h (nI s &&& 31) s (nSm s hs)
theorem nDiv {a d : Nat} (ha : a < 2147483648) (h0 : 0 < d) (hd : d < 2147483648) : nI a / nI d = nI (a / d) := pk_div (by omega) h0 (by omega)
theorem nRem {a d : Nat} (ha : a < 2147483648) (h0 : 0 < d) (hd : d < 2147483648) : nI a - nI a / nI d * nI d = nI (a % d) := pk_rem (by omega) h0 (by omega)
/-! shapes -/
theorem chk_t {α : Type} {P : Prop} (h : P) (x : Option α) : chk P x = x := if_pos h
theorem chk_in {α : Type} {a n : Nat} {x : Option α} (h : a < n) (ha : a < 2147483648) : chk (ain (nI a) n) x = x := if_pos ((nIn ha).mpr h)
theorem bnd_s {α β : Type} (a : α) (v : ASt) (k : α → ASt → Option β) : bnd (some (a, v)) k = k a v := rfl
theorem lte_s {α β : Type} (x : α) (k : α → Option β) : lte x k = k x := rfl
noncomputable def bI (P : Prop) : Int32 := @ite Int32 P (Classical.propDecidable P) (nI 1) (nI 0)
theorem bIt {P : Prop} (h : P) : bI P = nI 1 := if_pos h
theorem bIf {P : Prop} (h : ¬ P) : bI P = nI 0 := if_neg h
theorem bI0 {P : Prop} : (bI P = nI 0) ↔ ¬ P := by
  by_cases h : P
  · rw [bIt h]; simp [h]; decide
  · rw [bIf h]; simp [h]
theorem bI1 {P : Prop} : (bI P = nI 1) ↔ P := by
  by_cases h : P
  · rw [bIt h]; simp [h]
  · rw [bIf h]; simp [h]; decide
theorem bIc {P Q : Prop} (h : P ↔ Q) : bI P = bI Q := by rw [show P = Q from propext h]
theorem bI_ite {P : Prop} {d : Decidable P} : @ite Int32 P d (nI 1) (nI 0) = bI P := by
  by_cases h : P
  · rw [bIt h, if_pos h]
  · rw [bIf h, if_neg h]
theorem bI_itn {P : Prop} {d : Decidable P} : @ite Int32 P d (nI 0) (nI 1) = bI (¬ P) := by
  by_cases h : P
  · rw [bIf (fun q => q h), if_pos h]
  · rw [bIt h, if_neg h]
theorem chk_b {α : Type} {P : Prop} {x : Option α} : chk (bI P = nI 0 ∨ bI P = nI 1) x = x := by
  apply if_pos
  rw [bI0, bI1]
  by_cases h : P <;> simp [h]
theorem chk_0 {α : Type} {x : Option α} : chk (nI 0 = nI 0 ∨ nI 0 = nI 1) x = x := if_pos (Or.inl rfl)
theorem chk_1 {α : Type} {x : Option α} : chk (nI 1 = nI 0 ∨ nI 1 = nI 1) x = x := if_pos (Or.inr rfl)
theorem ite_s {α : Type} {P : Prop} [Decidable P] {a b : Option α} : (if P then a else b) = if P then a else b := rfl
theorem agt_pt (u : ASt) (o k : Nat) (x : Int32) (a b : Nat) : agt (apt u o k x) a b = if a = o ∧ b = k then x else agt u a b := by
  unfold agt apt upd
  by_cases h : a = o <;> by_cases h2 : b = k <;> simp [h, h2]
theorem agt_pt_s (u : ASt) (o k : Nat) (x : Int32) : agt (apt u o k x) o k = x := by rw [agt_pt]; simp
theorem agt_pt_o {u : ASt} {o k : Nat} {x : Int32} {a b : Nat} (h : a ≠ o) : agt (apt u o k x) a b = agt u a b := by rw [agt_pt]; simp [h]
theorem agt_pt_k {u : ASt} {o k : Nat} {x : Int32} {a b : Nat} (h : b ≠ k) : agt (apt u o k x) a b = agt u a b := by rw [agt_pt]; simp [h]
theorem agt_e {u v : ASt} {a : Nat} (h : u.1 a = v.1 a) (k : Nat) : agt u a k = agt v a k := by unfold agt; rw [h]
/-- an argument within -/
def inR (c : Int32) (n : Nat) : Prop := 0 ≤ c ∧ c < nI n
theorem inR_n {j n : Nat} (hj : j < 2147483648) (hn : n < 2147483648) : inR (nI j) n ↔ j < n := by
  unfold inR
  rw [nLT hj hn]
  have : (0 : Int32) ≤ nI j := nI_pos' (by omega)
  simp [this]
theorem inR_of {c : Int32} {n : Nat} (hn : n < 2147483648) (h : inR c n) : ∃ j, j < n ∧ c = nI j := by
  obtain ⟨h1, h2⟩ := h
  rcases pk_ix c (n := n) (by omega) with q | q | q
  · exact absurd h1 (by rw [Int32.not_le]; exact q)
  · exact absurd h2 (by rw [Int32.not_lt]; exact q)
  · exact q
def inRd (c : Int32) (n : Nat) : Decidable (inR c n) := inferInstanceAs (Decidable (0 ≤ c ∧ c < nI n))
/-! rows of references and lengths -/
theorem ar95_0 : arf 95 0 = 96 := rfl
theorem ar95_1 : arf 95 1 = 97 := rfl
theorem ar95_2 : arf 95 2 = 98 := rfl
theorem ar95_4 : arf 95 4 = 99 := rfl
theorem ar95_5 : arf 95 5 = 100 := rfl
theorem ar95_7 : arf 95 7 = 101 := rfl
theorem ar95_9 : arf 95 9 = 102 := rfl
theorem ar95_11 : arf 95 11 = 103 := rfl
theorem ar95_12 : arf 95 12 = 104 := rfl
theorem ar95_16 : arf 95 16 = 105 := rfl
theorem ar95_17 : arf 95 17 = 106 := rfl
theorem al96 : aln 96 = 83 := rfl
theorem al97 : aln 97 = 83 := rfl
theorem al98 : aln 98 = 415 := rfl
theorem al99 : aln 99 = 3 := rfl
theorem al100 : aln 100 = 120 := rfl
theorem al101 : aln 101 = 4 := rfl
theorem al102 : aln 102 = 8 := rfl
theorem al103 : aln 103 = 24 := rfl
theorem al104 : aln 104 = 24 := rfl
theorem al105 : aln 105 = 61 := rfl
theorem al106 : aln 106 = 183 := rfl
theorem ar77_0 : arf 77 0 = 0 := rfl
theorem ar77_1 : arf 77 1 = 78 := rfl
theorem ar77_2 : arf 77 2 = 81 := rfl
theorem ar77_3 : arf 77 3 = 89 := rfl
theorem ar77_4 : arf 77 4 = 91 := rfl
theorem ar78_0 : arf 78 0 = 0 := rfl
theorem ar78_1 : arf 78 1 = 79 := rfl
theorem ar78_2 : arf 78 2 = 80 := rfl
theorem ar81_0 : arf 81 0 = 0 := rfl
theorem ar81_1 : arf 81 1 = 86 := rfl
theorem ar81_2 : arf 81 2 = 82 := rfl
theorem ar81_3 : arf 81 3 = 83 := rfl
theorem ar81_4 : arf 81 4 = 84 := rfl
theorem ar81_5 : arf 81 5 = 85 := rfl
theorem ar86_0 : arf 86 0 = 0 := rfl
theorem ar86_1 : arf 86 1 = 87 := rfl
theorem ar86_2 : arf 86 2 = 88 := rfl
theorem ar89_0 : arf 89 0 = 90 := rfl
theorem ar91_0 : arf 91 0 = 92 := rfl
theorem ar91_2 : arf 91 2 = 93 := rfl
theorem ar91_3 : arf 91 3 = 94 := rfl
theorem al79 : aln 79 = 8 := rfl
theorem al80 : aln 80 = 4 := rfl
theorem al82 : aln 82 = 8 := rfl
theorem al83 : aln 83 = 24 := rfl
theorem al84 : aln 84 = 1 := rfl
theorem al85 : aln 85 = 97 := rfl
theorem al87 : aln 87 = 8 := rfl
theorem al88 : aln 88 = 4 := rfl
theorem al90 : aln 90 = 6 := rfl
theorem al92 : aln 92 = 120 := rfl
theorem al93 : aln 93 = 60 := rfl
theorem al94 : aln 94 = 180 := rfl
