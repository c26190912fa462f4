/-! places of the world's cells -/
theorem aol_nodup (w : Nat) : (aol w).Nodup := by
  unfold aol
  split
  · exact List.nodup_range
  · exact List.nodup_range'
theorem aol_lt {w o : Nat} (h : o ∈ aol w) : o < 107 := by
  unfold aol at h
  split at h
  · have := List.mem_range.mp h; omega
  · have := List.mem_range'.mp h; omega
theorem map_set {α β : Type} (l : List α) (nd : l.Nodup) (g g' : α → β) (i : Nat) (o : α) (hi : l[i]? = some o) (hne : ∀ a, a ∈ l → a ≠ o → g' a = g a) : (l.map g).set i (g' o) = l.map g' := by
  apply List.ext_getElem?
  intro j
  rw [List.getElem?_set]
  by_cases hj : i = j
  · subst hj
    have hlt : i < l.length := (List.getElem?_eq_some_iff.mp hi).1
    rw [if_pos rfl, if_pos (by rw [List.length_map]; exact hlt), List.getElem?_map, hi]
    rfl
  · simp only [hj, if_false, List.getElem?_map]
    cases hq : l[j]? with
    | none => rfl
    | some a =>
      have : a ≠ o := by
        intro e
        subst e
        exact hj ((List.getElem?_inj (List.getElem?_eq_some_iff.mp hi).1 nd).mp (hi.trans hq.symm))
      simp [hne a (List.mem_of_getElem? hq) this]
theorem acells_at {w : Nat} {X : Wx} {u : ASt} {o : Nat} (h : o ∈ aol w) : ∃ i : Nat, (aol w)[i]? = some o ∧ (acells w X u)[i]? = some (X.2.1 o, acell X u o) := by
  obtain ⟨i, hi⟩ := List.getElem?_of_mem h
  exact ⟨i, hi, by simp [acells, List.getElem?_map, hi]⟩
theorem acells_set {w : Nat} {X : Wx} {u u' : ASt} {o i : Nat} {e : va_E} (hi : (aol w)[i]? = some o) (he : acell X u' o = e) (hne : ∀ a, a ≠ o → acell X u' a = acell X u a) : (acells w X u).set i (X.2.1 o, e) = acells w X u' := by
  subst he
  exact map_set (aol w) (aol_nodup w) (fun o => (X.2.1 o, acell X u o)) (fun o => (X.2.1 o, acell X u' o)) i o hi (fun a _ ha => by show (X.2.1 a, _) = _; rw [hne a ha])
theorem acells_D {w : Nat} {X : Wx} {u : ASt} (hinj : ∀ a b, a < 107 → b < 107 → X.2.1 a = X.2.1 b → a = b) : va_D (Aw w X) (acells w X u) := by
  constructor
  · intro i j p q hi hj e
    simp only [acells, List.getElem?_map, Option.map_eq_some_iff] at hi hj
    obtain ⟨a, ha, rfl⟩ := hi
    obtain ⟨b, hb, rfl⟩ := hj
    have hab := hinj a b (aol_lt (List.mem_of_getElem? ha)) (aol_lt (List.mem_of_getElem? hb)) e
    subst hab
    exact (List.getElem?_inj (List.getElem?_eq_some_iff.mp ha).1 (aol_nodup w)).mp (ha.trans hb.symm)
  · intro k q hk
    simp only [acells, List.getElem?_map, Option.map_eq_some_iff] at hk
    obtain ⟨a, ha, rfl⟩ := hk
    exact ⟨a, List.mem_of_getElem? ha, rfl⟩
/-! what a cell is, by its kind -/
theorem acell_o {X : Wx} {u : ASt} {o ci : Nat} (h : akd o = ci) (hc : ci < 8) : acell X u o = .inr (ci, (List.range (anf ci)).map (afv X u o ci)) := by
  subst h
  unfold acell
  rw [if_neg (by omega), if_neg (by omega), if_neg (by omega), if_neg (by omega), if_neg (by omega)]
theorem acell_8 {X : Wx} {u : ASt} {o : Nat} (h : akd o = 8) : acell X u o = .inl (X.2.2.1.1, aln o, .inl (u.1 o)) := by
  unfold acell; rw [if_pos h]
theorem acell_9 {X : Wx} {u : ASt} {o : Nat} (h : akd o = 9) : acell X u o = .inl (X.2.2.1.2.1, aln o, .inl (u.1 o)) := by
  unfold acell; rw [if_neg (by omega), if_pos h]
theorem acell_12 {X : Wx} {u : ASt} {o : Nat} (h : akd o = 12) : acell X u o = .inl (X.2.2.1.2.1, aln o, .inl (u.1 o)) := by
  unfold acell; rw [if_neg (by omega), if_neg (by omega), if_pos h]
theorem acell_I {X : Wx} {u : ASt} {o : Nat} (h : akd o = 9 ∨ akd o = 12) : acell X u o = .inl (X.2.2.1.2.1, aln o, .inl (u.1 o)) := h.elim acell_9 acell_12
theorem acell_10 {X : Wx} {u : ASt} {o : Nat} (h : akd o = 10) : acell X u o = .inl (X.2.2.1.2.2.1, aln o, .inr (.inr (.inr (.inr (fun j => some (X.2.1 (arf o j))))))) := by
  unfold acell; rw [if_neg (by omega), if_neg (by omega), if_neg (by omega), if_pos h]
theorem acell_11 {X : Wx} {u : ASt} {o : Nat} (h : akd o = 11) : acell X u o = .inl (X.2.2.1.2.2.2, aln o, .inr (.inr (.inr (.inr (fun j => some (X.2.1 (arf o j))))))) := by
  unfold acell; rw [if_neg (by omega), if_neg (by omega), if_neg (by omega), if_neg (by omega), if_pos h]
theorem apt_ne {u : ASt} {o k : Nat} {v : Int32} {a : Nat} (h : a ≠ o) : (apt u o k v).1 a = u.1 a := by
  show (if a = o then _ else _) = _
  rw [if_neg h]
theorem apt_eq {u : ASt} {o k : Nat} {v : Int32} : (apt u o k v).1 o = upd (u.1 o) k v := by
  show (if o = o then _ else _) = _
  rw [if_pos rfl]
theorem acell_ne {X : Wx} {u u' : ASt} {o a : Nat} (h1 : u'.1 a = u.1 a) (h2 : u'.2 = u.2) : acell X u' a = acell X u a := by
  unfold acell
  rw [h1]
  have : afv X u' a (akd a) = afv X u a (akd a) := by
    funext k
    unfold afv
    rw [h1, h2]
  rw [this]
theorem map_range_set {n k : Nat} {f g : Nat → Value} {v : Value} (hk : k < n) (hv : g k = v) (hne : ∀ j, j < n → j ≠ k → g j = f j) : ((List.range n).map f).set k v = (List.range n).map g := by
  subst hv
  exact map_set (List.range n) List.nodup_range f g k k (by simp [hk]) (fun a ha => hne a (List.mem_range.mp ha))
theorem akd_lt {o k : Nat} (h : akd o = k) (hk : k ≠ 99) : o < 107 := by
  rcases Nat.lt_or_ge o 107 with q | q
  · exact q
  · exfalso
    apply hk
    rw [← h]
    unfold akd
    rw [List.getD_eq_getElem?_getD, List.getElem?_eq_none (show akdl.length ≤ o from q)]
    rfl
theorem akd_all {P : Nat → Prop} {o k : Nat} (h : akd o = k) (hk : k ≠ 99) (hP : ∀ o, o < 107 → akd o = k → P o) : P o := hP o (akd_lt h hk) h
theorem akd_7 {o : Nat} (h : akd o = 7) : o = 95 := akd_all (P := fun o => o = 95) h (by decide) (by decide)
theorem aft_01 {ci k : Nat} (h : ci ≠ 7) (hk : k < anf ci) : aft ci k = 0 ∨ aft ci k = 1 := by
  rcases Nat.lt_or_ge ci 8 with q | q
  · have : ∀ ci, ci < 8 → ci ≠ 7 → ∀ k, k < anf ci → aft ci k = 0 ∨ aft ci k = 1 := by decide
    exact this ci q h k hk
  · exfalso
    have : anf ci = 0 := by
      unfold anf
      rw [List.getD_eq_getElem?_getD, List.getElem?_eq_none (show aftl.length ≤ ci from q)]
      rfl
    omega
theorem acell_L {X : Wx} {u : ASt} {v : Int64} {a : Nat} (h : a ≠ 95) : acell X (aptL u v) a = acell X u a := by
  unfold acell
  have : (List.range (anf (akd a))).map (afv X (aptL u v) a (akd a)) = (List.range (anf (akd a))).map (afv X u a (akd a)) := by
    apply List.map_congr_left
    intro k hk
    unfold afv
    rcases aft_01 (fun e => h (akd_7 e)) (List.mem_range.mp hk) with h0 | h0 <;> rw [h0] <;> rfl
  rw [this]
  rfl
section HEAP
variable {w : Nat} {M : Mx} {X : Wx} {res : Option Value × ASt} {cc : ByteArray} {nL pc : Nat} {own : String} {rm : Room} {ret : Option FieldType} {ls : List (Nat × Value)} {stk : List Value} {u : ASt}
/-- what the tables say of the fields of a kind: its name, fields, types -/
def Kd (ci : Nat) (C : String) (T : u_T) (N : Nat) (ty : Nat → FieldType) : Prop := ci < 8 ∧ vwCl[ci]? = some (C, T, N) ∧ anf ci = N ∧ (∀ w ∈ u_ws C T N, w ∈ lw_good) ∧ (∀ k, k < N → parseFieldDescriptor (T k).2.2.1 = some (ty k)) ∧ (∀ a, a < N → ∀ b, b < N → a ≠ b → (T a).2.1 ≠ (T b).2.1)
theorem v_get (K : OkM w M X cc nL own rm ret) {o ci N k i : Nat} {C : String} {T : u_T} {ty : Nat → FieldType} {v : Value} (hm : o ∈ aol w) (hk : akd o = ci) (kd : Kd ci C T N ty) (hkN : k < N) (hw : Cond.fieldLink own i C (T k).2.1 (T k).2.2.1 ∈ lw_good) (hC : (T k).1 = C) (hv : afv X u o ci k = v) (d : decode cc pc = .ok (.getfield i, 3)) (kk : V w M X res nL (pc + 3) ls (v :: stk) u) : V w M X res nL pc ls (.ref (X.2.1 o) :: stk) u := by
  obtain ⟨p, l, e, R, s, m, args, below, meth, c⟩ := M
  obtain ⟨hx, hb, hml, hown, hts, hK, hR, hlk, hrt⟩ := K
  obtain ⟨k1, k2, k3, k4, k5, k6⟩ := kd
  intro H locs L hP hS hl
  obtain ⟨q, -, hq⟩ := acells_at (X := X) (u := u) hm
  rw [acell_o hk k1] at hq
  exact va_get (ref := C) hx hb hts k4 hown hK.1 hP q hq k2 k hkN (hts _ hw) (fun x hx => by rw [← hC]; exact hx) (by rw [List.getElem?_map, List.getElem?_range (by omega)]; exact congrArg some hv) d (kk H locs L hP hS hl)
theorem v_putg (K : OkM w M X cc nL own rm ret) {o ci N k i : Nat} {C : String} {T : u_T} {ty : Nat → FieldType} {v : Value} {u' : ASt} (hm : o ∈ aol w) (hk : akd o = ci) (kd : Kd ci C T N ty) (hkN : k < N) (hw : Cond.fieldLink own i C (T k).2.1 (T k).2.2.1 ∈ lw_good) (hC : (T k).1 = C) (hfin : (T k).2.2.2 = false) (hn : narrow (ty k) v = v) (hfit : fits (ty k) v = true) (hv : afv X u' o ci k = v) (hne : ∀ j, j < N → j ≠ k → afv X u' o ci j = afv X u o ci j) (hno : ∀ a, a ≠ o → acell X u' a = acell X u a) (d : decode cc pc = .ok (.putfield i, 3)) (kk : V w M X res nL (pc + 3) ls stk u') : V w M X res nL pc ls (v :: .ref (X.2.1 o) :: stk) u := by
  obtain ⟨p, l, e, R, s, m, args, below, meth, c⟩ := M
  obtain ⟨hx, hb, hml, hown, hts, hK, hR, hlk, hrt⟩ := K
  obtain ⟨k1, k2, k3, k4, k5, k6⟩ := kd
  intro H locs L hP hS hl
  obtain ⟨q, hq0, hq⟩ := acells_at (X := X) (u := u) hm
  rw [acell_o hk k1] at hq
  refine va_put (ref := C) hx hb hts k4 ty k5 k6 hown hK.1 hP (acells_D hK.2.1) hS q hq k2 k hkN (hts _ hw) (fun x hx => by rw [← hC]; exact hx) hfin (k5 k hkN) hn hfit (by simp only [List.length_map, List.length_range]; omega) d (fun H1 locs1 hP1 hD1 hS1 => ?_)
  have he : (acells w X u).set q (X.2.1 o, .inr (ci, ((List.range (anf ci)).map (afv X u o ci)).set k v)) = acells w X u' := acells_set hq0 (by rw [acell_o hk k1, map_range_set (by omega) hv (fun j hj => hne j (by omega))]) hno
  rw [he] at hP1
  exact kk H1 locs1 L hP1 hS1 hl
theorem v_put (K : OkM w M X cc nL own rm ret) {o ci N k i : Nat} {C : String} {T : u_T} {ty : Nat → FieldType} {v : Int32} (hm : o ∈ aol w) (hk : akd o = ci) (kd : Kd ci C T N ty) (hkN : k < N) (hw : Cond.fieldLink own i C (T k).2.1 (T k).2.2.1 ∈ lw_good) (hC : (T k).1 = C) (hfin : (T k).2.2.2 = false) (hn : narrow (ty k) (.int v) = .int v) (hfit : fits (ty k) (.int v) = true) (hft : aft ci k = 0) (d : decode cc pc = .ok (.putfield i, 3)) (kk : V w M X res nL (pc + 3) ls stk (apt u o k v)) : V w M X res nL pc ls (.int v :: .ref (X.2.1 o) :: stk) u := by
  refine v_putg K hm hk kd hkN hw hC hfin hn hfit ?_ ?_ ?_ d kk
  · show (match aft ci k with | 0 => Value.int ((apt u o k v).1 o k) | 1 => Value.ref (X.2.1 (arf o k)) | _ => Value.long u.2) = _
    rw [hft, apt_eq]
    simp [upd]
  · intro j _ hj
    unfold afv
    rw [apt_eq]
    simp [upd, hj, apt]
  · intro a ha
    exact acell_ne (o := o) (apt_ne ha) rfl
theorem v_putL (K : OkM w M X cc nL own rm ret) {o ci N k i : Nat} {C : String} {T : u_T} {ty : Nat → FieldType} {v : Int64} (hm : o ∈ aol w) (hk : akd o = ci) (kd : Kd ci C T N ty) (hkN : k < N) (hw : Cond.fieldLink own i C (T k).2.1 (T k).2.2.1 ∈ lw_good) (hC : (T k).1 = C) (hfin : (T k).2.2.2 = false) (hn : narrow (ty k) (.long v) = .long v) (hfit : fits (ty k) (.long v) = true) (ho : o = 95) (hk18 : k = 18) (d : decode cc pc = .ok (.putfield i, 3)) (kk : V w M X res nL (pc + 3) ls stk (aptL u v)) : V w M X res nL pc ls (.long v :: .ref (X.2.1 o) :: stk) u := by
  subst ho
  subst hk18
  have hc7 : ci = 7 := hk.symm.trans rfl
  subst hc7
  have hN : N = 19 := kd.2.2.1.symm.trans rfl
  refine v_putg K hm hk kd hkN hw hC hfin hn hfit rfl ?_ ?_ d kk
  · intro j h1 hj
    have : ∀ j, j < 18 → aft 7 j = 0 ∨ aft 7 j = 1 := by decide
    unfold afv
    rcases this j (by omega) with h0 | h0 <;> rw [h0] <;> rfl
  · intro a ha
    exact acell_L ha
theorem v_iald (K : OkM w M X cc nL own rm ret) {o : Nat} {i : Int32} (hm : o ∈ aol w) (hk : akd o = 9 ∨ akd o = 12) (hin : vp_in i (aln o)) (d : decode cc pc = .ok (.iaload, 1)) (kk : V w M X res nL (pc + 1) ls (.int (agt u o i.toNatClampNeg) :: stk) u) : V w M X res nL pc ls (.int i :: .ref (X.2.1 o) :: stk) u := by
  obtain ⟨p, l, e, R, s, m, args, below, meth, c⟩ := M
  obtain ⟨hx, hb, hml, hown, hts, hK, hR, hlk, hrt⟩ := K
  intro H locs L hP hS hl
  obtain ⟨q, -, hq⟩ := acells_at (X := X) (u := u) hm
  rw [acell_I hk] at hq
  exact va_iald hx hb hK.1 hP q 1 hq rfl hin d (kk H locs L hP hS hl)
theorem v_bald (K : OkM w M X cc nL own rm ret) {o : Nat} {i : Int32} (hm : o ∈ aol w) (hk : akd o = 8) (hin : vp_in i (aln o)) (d : decode cc pc = .ok (.baload, 1)) (kk : V w M X res nL (pc + 1) ls (.int (agt u o i.toNatClampNeg) :: stk) u) : V w M X res nL pc ls (.int i :: .ref (X.2.1 o) :: stk) u := by
  obtain ⟨p, l, e, R, s, m, args, below, meth, c⟩ := M
  obtain ⟨hx, hb, hml, hown, hts, hK, hR, hlk, hrt⟩ := K
  intro H locs L hP hS hl
  obtain ⟨q, -, hq⟩ := acells_at (X := X) (u := u) hm
  rw [acell_8 hk] at hq
  exact va_bald hx hb hK.1 hP q 0 hq rfl hin d (kk H locs L hP hS hl)
theorem v_iast (K : OkM w M X cc nL own rm ret) {o : Nat} {i x : Int32} (hm : o ∈ aol w) (hk : akd o = 9 ∨ akd o = 12) (hin : vp_in i (aln o)) (d : decode cc pc = .ok (.iastore, 1)) (kk : V w M X res nL (pc + 1) ls stk (apt u o i.toNatClampNeg x)) : V w M X res nL pc ls (.int x :: .int i :: .ref (X.2.1 o) :: stk) u := by
  obtain ⟨p, l, e, R, s, m, args, below, meth, c⟩ := M
  obtain ⟨hx, hb, hml, hown, hts, hK, hR, hlk, hrt⟩ := K
  intro H locs L hP hS hl
  obtain ⟨q, hq0, hq⟩ := acells_at (X := X) (u := u) hm
  rw [acell_I hk] at hq
  refine va_iast hx hb hK.1 hP (acells_D hK.2.1) hS q 1 hq rfl hin d (fun H1 locs1 hP1 hD1 hS1 => ?_)
  have he := acells_set (X := X) (u := u) (u' := apt u o i.toNatClampNeg x) (e := .inl (X.2.2.1.2.1, aln o, .inl (upd (u.1 o) i.toNatClampNeg x))) hq0 (by rw [acell_I hk, apt_eq]) (fun a ha => acell_ne (o := o) (apt_ne ha) rfl)
  rw [he] at hP1
  exact kk H1 locs1 L hP1 hS1 hl
theorem v_bast (K : OkM w M X cc nL own rm ret) {o : Nat} {i x : Int32} (hm : o ∈ aol w) (hk : akd o = 8) (hin : vp_in i (aln o)) (d : decode cc pc = .ok (.bastore, 1)) (kk : V w M X res nL (pc + 1) ls stk (apt u o i.toNatClampNeg (vp_nar .byte x))) : V w M X res nL pc ls (.int x :: .int i :: .ref (X.2.1 o) :: stk) u := by
  obtain ⟨p, l, e, R, s, m, args, below, meth, c⟩ := M
  obtain ⟨hx, hb, hml, hown, hts, hK, hR, hlk, hrt⟩ := K
  intro H locs L hP hS hl
  obtain ⟨q, hq0, hq⟩ := acells_at (X := X) (u := u) hm
  rw [acell_8 hk] at hq
  refine va_bast hx hb hK.1 hP (acells_D hK.2.1) hS q 0 hq rfl hin d (fun H1 locs1 hP1 hD1 hS1 => ?_)
  have he := acells_set (X := X) (u := u) (u' := apt u o i.toNatClampNeg (vp_nar .byte x)) (e := .inl (X.2.2.1.1, aln o, .inl (upd (u.1 o) i.toNatClampNeg (vp_nar .byte x)))) hq0 (by rw [acell_8 hk, apt_eq]) (fun a ha => acell_ne (o := o) (apt_ne ha) rfl)
  rw [he] at hP1
  exact kk H1 locs1 L hP1 hS1 hl
theorem v_aald (K : OkM w M X cc nL own rm ret) {o : Nat} {i : Int32} (hm : o ∈ aol w) (hk : akd o = 10 ∨ akd o = 11) (hin : vp_in i (aln o)) (d : decode cc pc = .ok (.aaload, 1)) (kk : V w M X res nL (pc + 1) ls (.ref (X.2.1 (arf o i.toNatClampNeg)) :: stk) u) : V w M X res nL pc ls (.int i :: .ref (X.2.1 o) :: stk) u := by
  obtain ⟨p, l, e, R, s, m, args, below, meth, c⟩ := M
  obtain ⟨hx, hb, hml, hown, hts, hK, hR, hlk, hrt⟩ := K
  intro H locs L hP hS hl
  obtain ⟨q, -, hq⟩ := acells_at (X := X) (u := u) hm
  rcases hk with hk | hk
  · rw [acell_10 hk] at hq
    exact va_aldq hx hb hK.1 hP q 2 hq rfl hin d (kk H locs L hP hS hl)
  · rw [acell_11 hk] at hq
    exact va_aldq hx hb hK.1 hP q 3 hq rfl hin d (kk H locs L hP hS hl)
/-- the static row of next states -/
theorem v_nst (K : OkM w M X cc nL RX0 rm ret) (d : decode cc pc = .ok (.getstatic 111, 3)) (kk : V w M X res nL (pc + 3) ls (.ref X.2.2.2 :: stk) u) : V w M X res nL pc ls stk u := by
  obtain ⟨p, l, e, R, s, m, args, below, meth, c⟩ := M
  obtain ⟨hx, hb, hml, hown, hts, hK, hR, hlk, hrt⟩ := K
  intro H locs L hP hS hl
  exact va_getsN hx hb hK.2.2.2.1 hS hown (va_Nw.use rfl hK.2.2.1.2) (fun _ h => h) d (kk H locs L hP hS hl)
theorem v_nsl (K : OkM w M X cc nL own rm ret) {i : Int32} (hin : vp_in i 32) (d : decode cc pc = .ok (.iaload, 1)) (kk : V w M X res nL (pc + 1) ls (.int (anx i.toNatClampNeg) :: stk) u) : V w M X res nL pc ls (.int i :: .ref X.2.2.2 :: stk) u := by
  obtain ⟨p, l, e, R, s, m, args, below, meth, c⟩ := M
  obtain ⟨hx, hb, hml, hown, hts, hK, hR, hlk, hrt⟩ := K
  intro H locs L hP hS hl
  obtain ⟨cell, h1, h2, h3, h4, h5, h6, h7⟩ := hK.2.2.2.2.kept hS.2.1
  have hlt : i.toNatClampNeg < 32 := Nat.not_le.mp fun q => hin (Or.inr q)
  exact W.iald (v := .int (anx i.toNatClampNeg)) hx hb h1 h2 h3 (fun h => h.elim (fun h => hin (Or.inl h)) (fun h => by omega)) (h6 _ hlt) rfl rfl d (kk H locs L hP hS hl)
/-! the ends -/
theorem v_iret (K : OkM w M X cc nL own rm (some .int)) {v : Int32} (d : decode cc pc = .ok (.ireturn, 1)) : V w M X (some (.int v), u) nL pc ls [.int v] u := by
  obtain ⟨p, l, e, R, s, m, args, below, meth, c⟩ := M
  obtain ⟨hx, hb, hml, hown, hts, hK, hR, hlk, hrt⟩ := K
  intro H locs L hP hS hl
  exact W.iret hx hb hrt (fun t ht hW => ⟨⟨rfl, by rw [ht]; exact hP⟩, hS.F ht⟩) hS.2.2 d hlk
theorem v_zret (K : OkM w M X cc nL own rm (some .boolean)) {v : Int32} (hv : v = 0 ∨ v = 1) (d : decode cc pc = .ok (.ireturn, 1)) : V w M X (some (.int v), u) nL pc ls [.int v] u := by
  obtain ⟨p, l, e, R, s, m, args, below, meth, c⟩ := M
  obtain ⟨hx, hb, hml, hown, hts, hK, hR, hlk, hrt⟩ := K
  intro H locs L hP hS hl
  exact W.zret hx hb hrt (by rcases hv with rfl | rfl <;> rfl) (fun t ht hW => ⟨⟨rfl, by rw [ht]; exact hP⟩, hS.F ht⟩) hS.2.2 d hlk
theorem v_lret (K : OkM w M X cc nL own rm (some .long)) {v : Int64} (d : decode cc pc = .ok (.lreturn, 1)) : V w M X (some (.long v), u) nL pc ls [.long v] u := by
  obtain ⟨p, l, e, R, s, m, args, below, meth, c⟩ := M
  obtain ⟨hx, hb, hml, hown, hts, hK, hR, hlk, hrt⟩ := K
  intro H locs L hP hS hl
  exact W.lret hx hb hrt (fun t ht hW => ⟨⟨rfl, by rw [ht]; exact hP⟩, hS.F ht⟩) hS.2.2 d hlk
theorem v_vret (K : OkM w M X cc nL own rm none) (d : decode cc pc = .ok (.return_, 1)) : V w M X (none, u) nL pc ls [] u := by
  obtain ⟨p, l, e, R, s, m, args, below, meth, c⟩ := M
  obtain ⟨hx, hb, hml, hown, hts, hK, hR, hlk, hrt⟩ := K
  intro H locs L hP hS hl
  exact W.vret hx hb hrt (fun t ht hW => ⟨⟨rfl, by rw [ht]; exact hP⟩, hS.F ht⟩) hS.2.2 d hlk
end HEAP
