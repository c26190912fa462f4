/-! counting patterns -/
def pcn (s : Nat) : Nat → Nat
  | 0 => 0
  | k + 1 => pcn s k + (s >>> k &&& 1)
def pc (s : Nat) : Nat := pcn s 8
def bcE (p : Int32) : Int32 :=
  let a := p - (((p.toUInt32 >>> (Int32.toUInt32 1 &&& Int32.toUInt32 31)).toInt32) &&& 1431655765)
  let b := (a &&& 858993459) + (((a.toUInt32 >>> (Int32.toUInt32 2 &&& Int32.toUInt32 31)).toInt32) &&& 858993459)
  let c := (b + ((b.toUInt32 >>> (Int32.toUInt32 4 &&& Int32.toUInt32 31)).toInt32)) &&& 252645135
  let d := c + ((c.toUInt32 >>> (Int32.toUInt32 8 &&& Int32.toUInt32 31)).toInt32)
  (d + ((d.toUInt32 >>> (Int32.toUInt32 16 &&& Int32.toUInt32 31)).toInt32)) &&& 63
theorem bcE_pc : ∀ s, s < 256 → bcE (nI s) = nI (pc s) := by decide +kernel
theorem k_popc {N s : Nat} {u : ASt} (hs : s < 256) : f_J6_bitCount_0f7a4 N (nI s) u = some (nI (pc s), u) := by
  rw [← bcE_pc s hs]; rfl
theorem pc_8 : ∀ s, s < 256 → pc s ≤ 8 := by decide +kernel
def cb (s : Nat) : Nat := if pc s = 0 then 1 else if pc s ≤ 2 then 2 else if pc s ≤ 6 then 3 else 4
theorem cb_b {s : Nat} : 1 ≤ cb s ∧ cb s ≤ 4 := by unfold cb; refine ⟨?_, ?_⟩ <;> (repeat' split) <;> omega
section CNT
variable {N : Nat}
theorem k_cb9 {p : Int32} {z : Nat} (hz : z ≤ 8) {u : ASt} : ∀ n, 5 ≤ n → f_X4_codeBits_9 N p n (nI (z + 2)) (nI 1) u = some (nI (if z = 0 then 1 else if z ≤ 2 then 2 else if z ≤ 6 then 3 else 4), u) := by
  intro n hn
  obtain ⟨n, rfl⟩ : ∃ m, n = m + 5 := ⟨n - 5, by omega⟩
  have s1 : nI 1 <<< (nI 1 &&& nI 31) = nI 2 := rfl
  have s2 : nI 1 <<< (nI 2 &&& nI 31) = nI 4 := rfl
  have s3 : nI 1 <<< (nI 3 &&& nI 31) = nI 8 := rfl
  have s4 : nI 1 <<< (nI 4 &&& nI 31) = nI 16 := rfl
  have h : z = 0 ∨ z = 1 ∨ z = 2 ∨ z = 3 ∨ z = 4 ∨ z = 5 ∨ z = 6 ∨ z = 7 ∨ z = 8 := by omega
  rcases h with rfl | rfl | rfl | rfl | rfl | rfl | rfl | rfl | rfl <;> simp (disch := omega) [f_X4_codeBits_9, f_X4_codeBits_28, lit, s1, s2, s3, s4, nLE, nI_add]
theorem k_cb (hN : 20 ≤ N) {s : Nat} (hs : s < 256) {u : ASt} : f_X4_codeBits N (nI s) u = some (nI (cb s), u) := by
  have h8 := pc_8 s hs
  have := k_cb9 (N := N) (p := nI s) (u := u) h8 N (by omega)
  simp only [f_X4_codeBits, k_popc hs, bnd_s, lit, nI_add, lte_s]
  exact this
def cd (s n : Nat) : Nat := pc (s &&& (2 <<< n - 1))
def cdm (s n : Nat) : Nat := pc (s &&& (1 <<< n - 1))
theorem cd_b : ∀ s, s < 256 → ∀ n, n < 8 → cd s n < 1 <<< cb s := by decide +kernel
theorem cdm_b : ∀ s, s < 256 → ∀ n, n < 8 → cdm s n ≤ 8 := by decide +kernel
theorem cd_m : ∀ s, s < 256 → ∀ n, n < 8 → s.testBit n = true → cdm s n + 1 = cd s n := by decide +kernel
theorem shl2_m : ∀ n, n < 8 → (nI 2 <<< (nI n &&& nI 31)) - nI 1 = nI (2 <<< n - 1) := by decide
theorem shl1_m : ∀ n, n < 16 → (nI 1 <<< (nI n &&& nI 31)) - nI 1 = nI (1 <<< n - 1) := by decide
def stim (t s n : Nat) : Nat := if t = 0 then cd s n else cd s n ||| (1 <<< cb s - 1 - cd s n) <<< cb s
def Pn (t s : Nat) : Nat := cb s * (1 + t)
theorem cbt : ∀ b, b < 5 → ∀ t, t < 2 → nI b <<< (nI t &&& nI 31) = nI (b * (1 + t)) := by decide
theorem hi_b : ∀ b, b < 5 → ∀ c, c < 16 → c < 1 <<< b → nI (1 <<< b - 1 - c) <<< (nI b &&& nI 31) = nI ((1 <<< b - 1 - c) <<< b) := by decide +kernel
theorem st_b : ∀ b, b < 5 → ∀ c, c < 16 → c < 1 <<< b → c ||| (1 <<< b - 1 - c) <<< b < 1 <<< (b * 2) := by decide +kernel
theorem shl_le16 : ∀ b, b < 5 → 1 <<< b ≤ 16 := by decide
theorem Pn_b {t s : Nat} (ht : t < 2) : 1 ≤ Pn t s ∧ Pn t s ≤ 8 := by
  have := cb_b (s := s)
  unfold Pn
  have : t = 0 ∨ t = 1 := by omega
  rcases this with rfl | rfl <;> omega
theorem stim_b {t s n : Nat} (ht : t < 2) (hs : s < 256) (hn : n < 8) : stim t s n < 1 <<< Pn t s := by
  have h1 := cb_b (s := s)
  have h2 := cd_b s hs n hn
  have h3 := shl_le16 (cb s) (by omega)
  unfold stim Pn
  split
  · rename_i q; subst q; rw [Nat.add_zero, Nat.mul_one]; exact h2
  · have : t = 1 := by omega
    subst this
    exact st_b (cb s) (by omega) _ (by omega) h2
theorem shl_256' : ∀ p, p ≤ 8 → 1 <<< p ≤ 256 := by decide
theorem k_stim (hN : 20 ≤ N) {t s n : Nat} (ht : t < 2) (hs : s < 256) (hn : n < 8) {u : ASt} : f_X4_stimulusAt N (nI t) (nI n) (nI s) u = some (nI (stim t s n), u) := by
  have h1 := cb_b (s := s)
  have h2 := cd_b s hs n hn
  have h3 := shl_le16 (cb s) (by omega)
  have h4 : s &&& (2 <<< n - 1) < 256 := Nat.lt_of_le_of_lt Nat.and_le_left hs
  have e1 := hi_b (cb s) (by omega) _ (by omega) h2
  have e2 : f_J6_bitCount_0f7a4 N (nI (s &&& (2 <<< n - 1))) u = some (nI (cd s n), u) := k_popc h4
  simp (disch := omega) only [f_X4_stimulusAt, lit, k_cb hN hs, bnd_s, shl2_m, lte_s, nAnd s, e2, shl1_m, nSub, e1, nE, nOr]
  unfold stim
  split <;> rfl
theorem k_pcount (hN : 20 ≤ N) {t s : Nat} (ht : t < 2) (hs : s < 256) {u : ASt} (h : agt u 0 6 = nI s) : f_X4_patternCount N 81 (nI t) u = some (nI (Pn t s), u) := by
  have h1 := cb_b (s := s)
  simp (disch := omega) only [f_X4_patternCount, ar81_0, h, k_cb hN hs, bnd_s, lit, cbt]
  rfl
/-! the model's -/
theorem m_ones (hN : 20 ≤ N) {s : Nat} (hs : s < 256) {v : ASt} : f_X7_ones N (nI s) v = some (nI (pc s), v) := by
  have L : ∀ n k, k ≤ 8 → 8 < n + k → f_X7_ones_4 N (nI s) n (nI (pcn s k)) (nI k) v = some (nI (pc s), v) := by
    intro n
    induction n with
    | zero => intro k h1 h2; omega
    | succ n ih =>
      intro k h1 h2
      by_cases hk : 8 ≤ k
      · have ek : k = 8 := by omega
        subst ek
        simp (disch := omega) only [f_X7_ones_4, lit, nLE, Nat.le_refl, if_true]
        rfl
      · have IH := ih (k + 1) (by omega) (by omega)
        have e : nI s >>> (nI k &&& nI 31) = nI (s >>> k) := nShr (by omega) (by omega)
        rw [pcn] at IH
        simp (disch := omega) only [f_X7_ones_4, lit, nLE, hk, if_false, e, nAnd (s >>> k), lte_s, nI_add]
        exact IH
  exact L N 0 (by omega) (by omega)
theorem m_counting {β : Nat → Nat} (hw : WB β) (hN : 20 ≤ N) {v : ASt} (hM : MB v β) : f_X7_counting N 95 v = some (nI (cb (nmk β true (β 0))), v) := by
  have hs := nmk_lt (β := β) (b := true) (β 0) (fun c hc k hk => hw.net hc hk)
  have L : ∀ n, 5 ≤ n → f_X7_counting_2 N 95 n (nI 0) v = some (nI (cb (nmk β true (β 0))), v) := by
    intro n hn
    obtain ⟨n, rfl⟩ : ∃ m, n = m + 5 := ⟨n - 5, by omega⟩
    have o := m_outs hw hN hM
    have p := m_ones (N := N) hN hs (v := v)
    generalize nmk β true (β 0) = s at o p hs ⊢
    have h8 := pc_8 s hs
    unfold cb
    generalize pc s = z at p h8 ⊢
    have s0 : nI 1 <<< (nI 0 &&& nI 31) = nI 1 := rfl
    have s1 : nI 1 <<< (nI 1 &&& nI 31) = nI 2 := rfl
    have s2 : nI 1 <<< (nI 2 &&& nI 31) = nI 4 := rfl
    have s3 : nI 1 <<< (nI 3 &&& nI 31) = nI 8 := rfl
    have s4 : nI 1 <<< (nI 4 &&& nI 31) = nI 16 := rfl
    have h : z = 0 ∨ z = 1 ∨ z = 2 ∨ z = 3 ∨ z = 4 ∨ z = 5 ∨ z = 6 ∨ z = 7 ∨ z = 8 := by omega
    rcases h with rfl | rfl | rfl | rfl | rfl | rfl | rfl | rfl | rfl <;> simp (disch := omega) [f_X7_counting_2, o, p, bnd_s, lit, s0, s1, s2, s3, s4, nLE, nI_add]
  exact L N (by omega)
theorem m_patternsOf {β : Nat → Nat} (hw : WB β) (hN : 20 ≤ N) {v : ASt} (hM : MB v β) {t : Nat} : f_X7_patternsOf N 95 (nI t) v = some (nI (Pn t (nmk β true (β 0))), v) := by
  simp only [f_X7_patternsOf, m_counting hw hN hM, bnd_s, lit, nI_add, pk_mul]
  rfl
theorem bit_lo : ∀ z, z < 16 → ∀ i, i < 4 → (nI z >>> (nI i &&& nI 31)) &&& nI 1 = nI (if z.testBit i = true then 1 else 0) := by decide +kernel
theorem bit_hi : ∀ z, z < 16 → ∀ i, i < 4 → nI 1 - ((nI z >>> (nI i &&& nI 31)) &&& nI 1) = nI (if z.testBit i = true then 0 else 1) := by decide +kernel
theorem bit_st1 : ∀ b, b < 5 → ∀ c, c < 16 → c < 1 <<< b → ∀ i, i < b → (c ||| (1 <<< b - 1 - c) <<< b).testBit i = c.testBit i := by decide +kernel
theorem bit_st2 : ∀ b, b < 5 → ∀ c, c < 16 → c < 1 <<< b → ∀ i, i < b → (c ||| (1 <<< b - 1 - c) <<< b).testBit (b + i) = !c.testBit i := by decide +kernel
theorem stim_0 {s n : Nat} : stim 0 s n = cd s n := rfl
theorem stim_1 {s n : Nat} : stim 1 s n = cd s n ||| (1 <<< cb s - 1 - cd s n) <<< cb s := rfl
theorem m_patternAt {β : Nat → Nat} (hw : WB β) (hN : 20 ≤ N) {v : ASt} (hM : MB v β) {t n i : Nat} (ht : t < 2) (hn : n < 8) (hb : (nmk β true (β 0)).testBit n = true) (hi : i < Pn t (nmk β true (β 0))) : f_X7_patternAt N 95 (nI i) (nI n) v = some (nI (if (stim t (nmk β true (β 0)) n).testBit i = true then 1 else 0), v) := by
  have hs := nmk_lt (β := β) (b := true) (β 0) (fun c hc k hk => hw.net hc hk)
  have o := m_outs hw hN hM
  have q := m_counting hw hN hM
  have hp := Pn_b (t := t) (s := nmk β true (β 0)) ht
  generalize nmk β true (β 0) = s at o q hs hb hi hp ⊢
  have h1 := cb_b (s := s)
  have h2 := cd_b s hs n hn
  have h3 := shl_le16 (cb s) (by omega)
  have h4 : s &&& (1 <<< n - 1) < 256 := Nat.lt_of_le_of_lt Nat.and_le_left hs
  have e2 : f_X7_ones N (nI (s &&& (1 <<< n - 1))) v = some (nI (cdm s n), v) := m_ones hN h4
  have e3 := cd_m s hs n hn hb
  simp (disch := omega) only [f_X7_patternAt, q, o, bnd_s, lit, shl1_m, nAnd s, e2, nI_add, e3, lte_s, nLE]
  unfold Pn at hi
  have ht2 : t = 0 ∨ t = 1 := by omega
  by_cases c1 : cb s ≤ i
  · have ht1 : t = 1 := by
      rcases ht2 with rfl | rfl
      · omega
      · rfl
    subst ht1
    have := bit_st2 (cb s) (by omega) _ (by omega) h2 (i - cb s) (by omega)
    rw [show cb s + (i - cb s) = i by omega] at this
    rw [if_pos c1, nSub c1, bit_hi _ (by omega) _ (by omega), stim_1, this]
    cases (cd s n).testBit (i - cb s) <;> rfl
  · rw [if_neg c1, bit_lo _ (by omega) _ (by omega)]
    rcases ht2 with rfl | rfl
    · rw [stim_0]
    · rw [stim_1, bit_st1 (cb s) (by omega) _ (by omega) h2 i (by omega)]
end CNT
