/-! the class's port, place by place -/
theorem CB.u0 {u : ASt} {β : Nat → Nat} (h : CB u 0 β) : agt u 0 1 = nI (β 0) := by have := h.1; simpa using this
theorem CB.u4 {u : ASt} {β : Nat → Nat} (h : CB u 0 β) : agt u 0 4 = nI (β 1) := by have := h.2.1; simpa using this
theorem CK.pc {u : ASt} {c k : Nat} {x : Int32} (hc : c < 4) : CK u (apt u (3 + c) k x) := fun a h1 _ => apt_ne (by omega)
section TC
variable {N : Nat} {β : Nat → Nat} {x : Nat → Nat}
theorem CB_step {u : ASt} {c kf f : Nat} (hw : WB β) (hf : (kf = 2 ∧ f = 3) ∨ (kf = 3 ∧ f = 4) ∨ (kf = 4 ∧ f = 5) ∨ (kf = 5 ∧ f = 6)) (hx : ∀ c, c < β 0 → (f = 3 ∨ f = 4 → x c < 16) ∧ x c < 256) (hc : c < β 0) (h : CB u 0 (upF β f x c)) : CB (apt u (3 + c) kf (nI (x c))) 0 (upF β f x (c + 1)) :=
  CB.put h (WB_upF hw (by omega) hx c (by omega)) (by rw [upF_lo (by omega)]; exact hc) hf
theorem k_resets (hw : WB β) (hN : 20 ≤ N) {u : ASt} (hC : CB u 0 β) : ∃ u', f_X0_resetChips N 0 u = some ((), u') ∧ CB u' 0 (upF β 3 (fun c => fst_ (bc β c 0) (bc β c 1)) (β 0)) ∧ CK u u' := by
  have h4 := hw.1
  have hx : ∀ c, c < β 0 → ((3 : Nat) = 3 ∨ (3 : Nat) = 4 → fst_ (bc β c 0) (bc β c 1) < 16) ∧ fst_ (bc β c 0) (bc β c 1) < 256 := fun c hc => by
    have := fst_lt (d := bc β c 1) ⟨(hw.2.2.2.2 c hc).1, (hw.2.2.2.2 c hc).2.1⟩
    omega
  refine loop_c (β := β) (f := 3) (x := fun c => fst_ (bc β c 0) (bc β c 1)) (fun n (_ : Unit) => f_X0_resetChips_2 N 0 n) (fun _ => ()) (fun u B => CB u 0 B) CK (fun _ => CK.rf) (fun _ _ _ => CK.tr) ?_ ?_ N 0 u (by omega) (by omega) hC
  · intro n u h
    have a0 := h.u0
    rw [upF_lo (by omega)] at a0
    simp (disch := omega) only [f_X0_resetChips_2, a0, nLE, Nat.le_refl, if_true]
  · intro n c u hc h
    have a0 := h.u0
    rw [upF_lo (by omega)] at a0
    have hCC := h.cc (c := c) (by rw [upF_lo (by omega)]; exact hc)
    have hc' : ¬ β 0 ≤ c := by omega
    have g0 := hCC.1
    have g1 := hCC.2.1
    rw [upF_o (by omega) (by omega) (Or.inr (Nat.le_refl _))] at g0 g1
    have W := hw.2.2.2.2 c hc
    refine ⟨_, ?_, CB_step (kf := 2) hw (by omega) hx hc h, CK.pc (by omega)⟩
    simp (disch := omega) only [f_X0_resetChips_2, a0, nLE, hc', if_false, lit, ar_b0, al_1, chk_in, nCl, ar_1, k_reset g0 g1 W.2.1 W.2.2.1, bnd_s, nI_add]
theorem k_capIR (hw : WB β) (hN : 20 ≤ N) {u : ASt} (hC : CB u 0 β) : ∃ u', f_X0_captureInstructions N 0 u = some ((), u') ∧ CB u' 0 (upF β 4 (fun _ => 1) (β 0)) ∧ CK u u' := by
  have h4 := hw.1
  have hx : ∀ c, c < β 0 → ((4 : Nat) = 3 ∨ (4 : Nat) = 4 → 1 < 16) ∧ 1 < 256 := fun c hc => by omega
  refine loop_c (β := β) (f := 4) (x := fun _ => 1) (fun n (_ : Unit) => f_X0_captureInstructions_2 N 0 n) (fun _ => ()) (fun u B => CB u 0 B) CK (fun _ => CK.rf) (fun _ _ _ => CK.tr) ?_ ?_ N 0 u (by omega) (by omega) hC
  · intro n u h
    have a0 := h.u0
    rw [upF_lo (by omega)] at a0
    simp (disch := omega) only [f_X0_captureInstructions_2, a0, nLE, Nat.le_refl, if_true]
  · intro n c u hc h
    have a0 := h.u0
    rw [upF_lo (by omega)] at a0
    have hc' : ¬ β 0 ≤ c := by omega
    refine ⟨_, ?_, CB_step (kf := 3) hw (by omega) hx hc h, CK.pc (by omega)⟩
    simp (disch := omega) only [f_X0_captureInstructions_2, a0, nLE, hc', if_false, lit, ar_b0, al_1, chk_in, nCl, ar_1, lte_s, nI_add]
theorem k_updIR (hw : WB β) (hN : 20 ≤ N) {u : ASt} (hC : CB u 0 β) : ∃ u', f_X0_updateInstructions N 0 u = some ((), u') ∧ CB u' 0 (upF β 3 (fun c => bc β c 4) (β 0)) ∧ CK u u' := by
  have h4 := hw.1
  have hx : ∀ c, c < β 0 → ((3 : Nat) = 3 ∨ (3 : Nat) = 4 → bc β c 4 < 16) ∧ bc β c 4 < 256 := fun c hc => by
    have := (hw.2.2.2.2 c hc).2.2.2.2.2.1
    omega
  refine loop_c (β := β) (f := 3) (x := fun c => bc β c 4) (fun n (_ : Unit) => f_X0_updateInstructions_2 N 0 n) (fun _ => ()) (fun u B => CB u 0 B) CK (fun _ => CK.rf) (fun _ _ _ => CK.tr) ?_ ?_ N 0 u (by omega) (by omega) hC
  · intro n u h
    have a0 := h.u0
    rw [upF_lo (by omega)] at a0
    simp (disch := omega) only [f_X0_updateInstructions_2, a0, nLE, Nat.le_refl, if_true]
  · intro n c u hc h
    have a0 := h.u0
    rw [upF_lo (by omega)] at a0
    have hCC := h.cc (c := c) (by rw [upF_lo (by omega)]; exact hc)
    have hc' : ¬ β 0 ≤ c := by omega
    have g3 := hCC.2.2.2.1
    rw [upF_o (by omega) (by omega) (Or.inr (Nat.le_refl _))] at g3
    refine ⟨_, ?_, CB_step (kf := 2) hw (by omega) hx hc h, CK.pc (by omega)⟩
    simp (disch := omega) only [f_X0_updateInstructions_2, a0, nLE, hc', if_false, lit, ar_b0, al_1, chk_in, nCl, ar_1, g3, lte_s, nI_add]
noncomputable def ulx (β : Nat → Nat) (c : Nat) : Nat := @ite Nat (scn β c) (Classical.propDecidable _) (bc β c 5) (bc β c 6)
theorem ulx_b (hw : WB β) : ∀ c, c < β 0 → ((6 : Nat) = 3 ∨ (6 : Nat) = 4 → ulx β c < 16) ∧ ulx β c < 256 := fun c hc => by
  have h5 := (hw.2.2.2.2 c hc).2.2.2.2.2.2.1
  have h6 := (hw.2.2.2.2 c hc).2.2.2.2.2.2.2.1
  refine ⟨fun h => by omega, ?_⟩
  unfold ulx
  split <;> omega
theorem scn_up {f : Nat} {c n : Nat} (hf : f = 4 ∨ f = 5 ∨ f = 6) : scn (upF β f x n) c ↔ scn β c := by
  unfold scn
  rw [upF_o (by omega) (by omega) (Or.inl (by omega)), upF_o (by omega) (by omega) (Or.inl (by omega))]
theorem idn_up {f : Nat} {c n : Nat} (hf : f = 4 ∨ f = 5 ∨ f = 6) : idn (upF β f x n) c ↔ idn β c := by
  unfold idn
  rw [upF_o (by omega) (by omega) (Or.inl (by omega)), upF_o (by omega) (by omega) (Or.inl (by omega))]
theorem k_updDR (hw : WB β) (hN : 20 ≤ N) {u : ASt} (hC : CB u 0 β) : ∃ u', f_X0_updateLatches N 0 u = some ((), u') ∧ CB u' 0 (upF β 6 (ulx β) (β 0)) ∧ CK u u' := by
  have h4 := hw.1
  have hx := ulx_b hw
  refine loop_c (β := β) (f := 6) (x := ulx β) (fun n (_ : Unit) => f_X0_updateLatches_2 N 0 n) (fun _ => ()) (fun u B => CB u 0 B) CK (fun _ => CK.rf) (fun _ _ _ => CK.tr) ?_ ?_ N 0 u (by omega) (by omega) hC
  · intro n u h
    have a0 := h.u0
    rw [upF_lo (by omega)] at a0
    simp (disch := omega) only [f_X0_updateLatches_2, a0, nLE, Nat.le_refl, if_true]
  · intro n c u hc h
    have a0 := h.u0
    rw [upF_lo (by omega)] at a0
    have hCC := h.cc (c := c) (by rw [upF_lo (by omega)]; exact hc)
    have hc' : ¬ β 0 ≤ c := by omega
    have g4 := hCC.2.2.2.2.1
    rw [upF_o (by omega) (by omega) (Or.inr (Nat.le_refl _))] at g4
    have W := (WB_upF hw (by omega) hx c (by omega)).2.2.2.2 c (by rw [upF_lo (by omega)]; exact hc)
    have S := k_scan (N := N) hCC W.2.2.2.2.1 W.2.2.2.1
    rw [bIc (scn_up (by omega))] at S
    by_cases q : scn β c
    · have ex : ulx β c = bc β c 5 := by unfold ulx; rw [if_pos q]
      refine ⟨apt u (3 + c) 5 (nI (ulx β c)), ?_, CB_step (kf := 5) hw (by omega) hx hc h, CK.pc (by omega)⟩
      simp (disch := omega) only [f_X0_updateLatches_2, f_X1_updateLatches, a0, nLE, hc', if_false, lit, ar_b0, al_1, chk_in, nCl, ar_1, S, bnd_s, bI0, q, not_true, g4, lte_s, nI_add, ex]
    · have ex : ulx β c = bc β c 6 := by unfold ulx; rw [if_neg q]
      refine ⟨u, ?_, ?_, CK.rf⟩
      · simp (disch := omega) only [f_X0_updateLatches_2, f_X1_updateLatches, a0, nLE, hc', if_false, lit, ar_b0, al_1, chk_in, nCl, ar_1, S, bnd_s, bI0, q, not_false_eq_true, if_true, nI_add]
      · rw [upF, sb_same]
        · exact h
        · have : bc (upF β 6 (ulx β) c) c 6 = bc β c 6 := upF_o (by omega) (by omega) (Or.inr (Nat.le_refl _))
          rw [ex]; exact this
/-! shifts -/
def btf (β : Nat → Nat) (f t : Nat) : Nat → Nat
  | 0 => t
  | c + 1 => bc β c f &&& 1
theorem btf_s {f t c : Nat} : btf β f t (c + 1) = bc β c f &&& 1 := rfl
theorem btf_1 {f t c : Nat} (ht : t ≤ 1) : btf β f t c ≤ 1 := by
  cases c with
  | zero => exact ht
  | succ c => exact Nat.and_le_right
def sfx (β : Nat → Nat) (f t : Nat) (l : Nat → Nat) (c : Nat) : Nat := bc β c f >>> 1 ||| btf β f t c <<< (l c - 1)
theorem shl_lt {a s n : Nat} (ha : a ≤ 1) (hs : s < n) : a <<< s < 2 ^ n := by
  have : a = 0 ∨ a = 1 := by omega
  rcases this with rfl | rfl
  · rw [Nat.zero_shiftLeft]; exact Nat.two_pow_pos n
  · rw [Nat.shiftLeft_eq, Nat.one_mul]; exact Nat.pow_lt_pow_right (by omega) hs
theorem sfx4 {t c : Nat} (hw : WB β) (hc : c < β 0) (ht : t ≤ 1) : sfx β 4 t (fun c => bc β c 0) c < 16 := by
  have W := hw.2.2.2.2 c hc
  exact Nat.or_lt_two_pow (n := 4) (shr_lt W.2.2.2.2.2.1) (shl_lt (btf_1 ht) (by have := W.1; have := W.2.1; show bc β c 0 - 1 < 4; omega))
theorem sfx5 {t c : Nat} (hw : WB β) (hc : c < β 0) (ht : t ≤ 1) : sfx β 5 t (ln_ β) c < 256 := by
  have W := hw.2.2.2.2 c hc
  have := ln_b (β := β) (c := c) W.2.2.2.1
  exact Nat.or_lt_two_pow (n := 8) (shr_lt W.2.2.2.2.2.2.1) (shl_lt (btf_1 ht) (by omega))
theorem sh_i {a b l : Nat} (ha : a < 256) (hb : b ≤ 1) (hl : 1 ≤ l ∧ l ≤ 8) : (nI a >>> (nI 1 &&& nI 31)) ||| (nI b <<< ((nI l - nI 1) &&& nI 31)) = nI (a >>> 1 ||| b <<< (l - 1)) := by
  have e1 : nI a >>> (nI 1 &&& nI 31) = nI (a >>> 1) := nShr (by omega) (by omega)
  have e2 : nI b <<< (nI (l - 1) &&& nI 31) = nI (b <<< (l - 1)) := nShl (by omega) (Nat.lt_trans (shl_lt (n := 8) hb (by omega)) (by decide))
  rw [nSub (by omega), e1, e2, nOr]
theorem k_shIR (hw : WB β) (hN : 20 ≤ N) {t : Nat} (ht : t ≤ 1) {u : ASt} (hC : CB u 0 β) : ∃ u', f_X0_shiftInstructions N 0 (nI t) u = some (nI (btf β 4 t (β 0)), u') ∧ CB u' 0 (upF β 4 (sfx β 4 t (fun c => bc β c 0)) (β 0)) ∧ CK u u' := by
  have h4 := hw.1
  have hx : ∀ c, c < β 0 → ((4 : Nat) = 3 ∨ (4 : Nat) = 4 → sfx β 4 t (fun c => bc β c 0) c < 16) ∧ sfx β 4 t (fun c => bc β c 0) c < 256 := fun c hc => by
    have := sfx4 hw hc ht
    omega
  refine loop_c (β := β) (f := 4) (x := sfx β 4 t (fun c => bc β c 0)) (f_X0_shiftInstructions_4 N 0 (nI t)) (fun c => nI (btf β 4 t c)) (fun u B => CB u 0 B) CK (fun _ => CK.rf) (fun _ _ _ => CK.tr) ?_ ?_ N 0 u (by omega) (by omega) hC
  · intro n u h
    have a0 := h.u0
    rw [upF_lo (by omega)] at a0
    simp (disch := omega) only [f_X0_shiftInstructions_4, a0, nLE, Nat.le_refl, if_true]
  · intro n c u hc h
    have a0 := h.u0
    rw [upF_lo (by omega)] at a0
    have hCC := h.cc (c := c) (by rw [upF_lo (by omega)]; exact hc)
    have hc' : ¬ β 0 ≤ c := by omega
    have g0 := hCC.1
    have g3 := hCC.2.2.2.1
    rw [upF_o (by omega) (by omega) (Or.inr (Nat.le_refl _))] at g0 g3
    have W := hw.2.2.2.2 c hc
    have w1 := W.1
    have w2 := W.2.1
    have w4 := W.2.2.2.2.2.1
    have si := sh_i (a := bc β c 4) (b := btf β 4 t c) (l := bc β c 0) (by omega) (btf_1 ht) (by omega)
    refine ⟨_, ?_, CB_step (kf := 3) hw (by omega) hx hc h, CK.pc (by omega)⟩
    simp (disch := omega) only [f_X0_shiftInstructions_4, f_X1_shiftInstruction, a0, nLE, hc', if_false, lit, ar_b0, al_1, chk_in, nCl, ar_1, g0, g3, si, bnd_s, lte_s, nI_add, nAnd (bc β c 4) 1, sfx, btf_s]
theorem ln_up {c n : Nat} : ln_ (upF β 5 x n) c = ln_ β c := by
  unfold ln_
  rw [upF_o (by omega) (by omega) (Or.inl (by omega))]
  by_cases q : scn β c
  · rw [if_pos q, if_pos ((scn_up (by omega)).mpr q)]
  · rw [if_neg q, if_neg (fun z => q ((scn_up (by omega)).mp z))]
    by_cases q2 : idn β c
    · rw [if_pos q2, if_pos ((idn_up (by omega)).mpr q2)]
    · rw [if_neg q2, if_neg (fun z => q2 ((idn_up (by omega)).mp z))]
theorem k_shDR (hw : WB β) (hN : 20 ≤ N) {t : Nat} (ht : t ≤ 1) {u : ASt} (hC : CB u 0 β) : ∃ u', f_X0_shiftData N 0 (nI t) u = some (nI (btf β 5 t (β 0)), u') ∧ CB u' 0 (upF β 5 (sfx β 5 t (ln_ β)) (β 0)) ∧ CK u u' := by
  have h4 := hw.1
  have hx : ∀ c, c < β 0 → ((5 : Nat) = 3 ∨ (5 : Nat) = 4 → sfx β 5 t (ln_ β) c < 16) ∧ sfx β 5 t (ln_ β) c < 256 := fun c hc => by
    have := sfx5 hw hc ht
    omega
  refine loop_c (β := β) (f := 5) (x := sfx β 5 t (ln_ β)) (f_X0_shiftData_4 N 0 (nI t)) (fun c => nI (btf β 5 t c)) (fun u B => CB u 0 B) CK (fun _ => CK.rf) (fun _ _ _ => CK.tr) ?_ ?_ N 0 u (by omega) (by omega) hC
  · intro n u h
    have a0 := h.u0
    rw [upF_lo (by omega)] at a0
    simp (disch := omega) only [f_X0_shiftData_4, a0, nLE, Nat.le_refl, if_true]
  · intro n c u hc h
    have a0 := h.u0
    rw [upF_lo (by omega)] at a0
    have hCC := h.cc (c := c) (by rw [upF_lo (by omega)]; exact hc)
    have hc' : ¬ β 0 ≤ c := by omega
    have g4 := hCC.2.2.2.2.1
    rw [upF_o (by omega) (by omega) (Or.inr (Nat.le_refl _))] at g4
    have W := hw.2.2.2.2 c hc
    have w5 := W.2.2.2.2.2.2.1
    have W' := (WB_upF hw (by omega) hx c (by omega)).2.2.2.2 c (by rw [upF_lo (by omega)]; exact hc)
    have D := k_bits (N := N) hCC W'
    rw [ln_up] at D
    have lb := ln_b (β := β) (c := c) W.2.2.2.1
    have si := sh_i (a := bc β c 5) (b := btf β 5 t c) (l := ln_ β c) (by omega) (btf_1 ht) lb
    refine ⟨_, ?_, CB_step (kf := 4) hw (by omega) hx hc h, CK.pc (by omega)⟩
    simp (disch := omega) only [f_X0_shiftData_4, f_X1_shiftData, a0, nLE, hc', if_false, lit, ar_b0, al_1, chk_in, nCl, ar_1, g4, D, si, bnd_s, lte_s, nI_add, nAnd (bc β c 5) 1, sfx, btf_s]
end TC
