theorem aptR_eq {u : ASt} {o : Nat} {f : Nat → Int32} : (aptR u o f).1 o = f := by
  show (if o = o then _ else _) = _
  rw [if_pos rfl]
theorem aptR_ne {u : ASt} {o a : Nat} {f : Nat → Int32} (h : a ≠ o) : (aptR u o f).1 a = u.1 a := by
  show (if a = o then _ else _) = _
  rw [if_neg h]
/-- the words of a method that is called on an object; of a static one -/
def CalV (y : MethodName) (C : String) (bytes : ByteArray) (maxL : Nat) (ret : Option FieldType) (n : Nat) : Prop := Cond.instanceMethod y ∈ lw_good ∧ Cond.selects C y y ∈ lw_good ∧ Cond.initialized y.cls ∈ lw_good ∧ Cond.code y bytes maxL ret ∈ lw_good ∧ (y.cls ≠ "java/lang/invoke/MethodHandle" ∧ y.cls ≠ "java/lang/invoke/VarHandle" ∧ (parseMethodDescriptor y.desc).map (fun d => d.parameters.length) = some n)
def CalS (y : MethodName) (bytes : ByteArray) (maxL : Nat) (ret : Option FieldType) (n : Nat) : Prop := Cond.static y ∈ lw_good ∧ Cond.initialized y.cls ∈ lw_good ∧ Cond.code y bytes maxL ret ∈ lw_good ∧ (y.cls ≠ "java/lang/invoke/MethodHandle" ∧ y.cls ≠ "java/lang/invoke/VarHandle" ∧ (parseMethodDescriptor y.desc).map (fun d => d.parameters.length) = some n)
def RmOk (rmc rm : Room) (maxL : Nat) : Prop := rmc.cells = 0 ∧ rmc.slots = 0 ∧ rmc.frames + 1 ≤ rm.frames ∧ 8 + (maxL + 11) + rmc.locals ≤ rm.locals
section CALLS
variable {w : Nat} {M : Mx} {X : Wx} {res : Option Value × ASt} {cc : ByteArray} {nL pc : Nat} {own : String} {rm : Room} {ret : Option FieldType} {ls : List (Nat × Value)} {stk : List Value} {u : ASt}
theorem v_back {p : Program} {l : Launch} {e : Env} {R : Room} {s : State} {m : MethodId} {args : Array Value} {below : List Frame} {meth : Method} {c : Code} {H : Heap} {locs : List Loc} {L : Array Slot} {rest st0 : List Value} {a : Array Value} {v : Option Value} {u' : ASt}
    (hr : va_Run p l e R s m args below meth c H locs 0 0 0 0 (F0 m pc L st0) rest (Qg w X v u' a) (Aw w X)) (hS : va_S (Aw w X) s.heap H locs) (hl : lv_has L nL ls)
    (k : V w (p, l, e, R, s, m, args, below, meth, c) X res nL (pc + 3) ls (v.toList ++ rest) u') : W p l e R s m args below meth c H locs 0 0 (MQ below (Qg w X res.1 res.2) args s 0 0 (Aw w X)) (F0 m pc L st0) := by
  intro T hT X0
  obtain ⟨v', st₀, t, T', L1, h0, X', hL, e1, e2, ⟨⟨hv, hP1⟩, hz, hk⟩, st⟩ := hr T hT X0
  cases hv
  rw [h0] at hz hk
  obtain ⟨t2, a1, b1⟩ := k T'.heap (locs ++ L1) L (by rw [e1]; exact hP1) ⟨Nat.le_trans hS.1 (by rw [e1]; exact hz), fun q h1 h2 => by rw [e1, hk q (Nat.lt_of_lt_of_le h1 hS.1) h2]; exact hS.2.1 q h1 h2, fun q hq => by
      rcases List.mem_append.mp hq with h | h
      · exact hS.2.2 q h
      · exact hL q h⟩ hl T' rfl X'
  exact ⟨t2, st t2 a1, b1⟩
theorem v_callV (K : OkM w M X cc nL own rm ret) {y : MethodName} {bytes : ByteArray} {maxL n idx ci N : Nat} {retc : Option FieldType} {rmc : Room} {C : String} {T : u_T} {ty : Nat → FieldType} {o : Nat} {As rest : List Value} {v : Option Value} {u' : ASt}
    (hM : ∀ l, Met l y (ws_ y bytes maxL retc) rmc (Pg w X u (.ref (X.2.1 o) :: As)) (Qg w X v u') 0 0 (Aw w X)) (cv : CalV y C bytes maxL retc n) (hl : Cond.methodLink own idx y ∈ lw_good) (hm : o ∈ aol w) (hk : akd o = ci) (kd : Kd ci C T N ty) (hR : RmOk rmc rm maxL) (hn : As.length = n) (hst : As.reverse ++ .ref (X.2.1 o) :: rest = stk) (hW : (rest.map fun v => v.category).sum ≤ 8)
    (d : decode cc pc = .ok (.invokevirtual idx, 3)) (k : V w M X res nL (pc + 3) ls (v.toList ++ rest) u') : V w M X res nL pc ls stk u := by
  obtain ⟨p, l, e, R, s, m, args, below, meth, c⟩ := M
  obtain ⟨hx, hb, hml, hown, hts, hK, rfl, hlk, hrt⟩ := K
  obtain ⟨k1, k2, k3, k4, k5, k6⟩ := kd
  obtain ⟨c1, c2, c3, c4, c5⟩ := cv
  obtain ⟨r1, r2, r3, r4⟩ := hR
  subst hst
  intro H locs L hP hS hL
  obtain ⟨q, -, hq⟩ := acells_at (X := X) (u := u) hm
  rw [acell_o hk k1] at hq
  exact v_back (va_runV (As := As) (rest := rest) ⟨hx, hb, hml, hown, hts⟩ (hM l) ⟨callB_of n hts (ws_good c4) rfl r1 r2 (hts _ c3) (hts _ hl) c5 ⟨r3, r4⟩, hts _ c1, hts _ c2⟩ ⟨Pg.blind, va_recv hK.1 hP k2 hq, fun U hU hW => ⟨rfl, by rw [hU]; exact hP, hK.moved hW hU hS⟩⟩ rfl hn hL.1 rfl (lv_room hW) d ⟨Nat.zero_le _, Nat.zero_le _⟩) hS hL k
theorem v_callS (K : OkM w M X cc nL own rm ret) {y : MethodName} {bytes : ByteArray} {maxL n idx : Nat} {retc : Option FieldType} {rmc : Room} {As rest : List Value} {v : Option Value} {u' : ASt}
    (hM : ∀ l, Met l y (ws_ y bytes maxL retc) rmc (Pg w X u As) (Qg w X v u') 0 0 (Aw w X)) (cv : CalS y bytes maxL retc n) (hl : Cond.methodLink own idx y ∈ lw_good) (hR : RmOk rmc rm maxL) (hn : As.length = n) (hst : As.reverse ++ rest = stk) (hW : (rest.map fun v => v.category).sum ≤ 8)
    (d : decode cc pc = .ok (.invokestatic idx, 3)) (k : V w M X res nL (pc + 3) ls (v.toList ++ rest) u') : V w M X res nL pc ls stk u := by
  obtain ⟨p, l, e, R, s, m, args, below, meth, c⟩ := M
  obtain ⟨hx, hb, hml, hown, hts, hK, rfl, hlk, hrt⟩ := K
  obtain ⟨c1, c3, c4, c5⟩ := cv
  obtain ⟨r1, r2, r3, r4⟩ := hR
  subst hst
  intro H locs L hP hS hL
  exact v_back (va_runS (As := As) (rest := rest) ⟨hx, hb, hml, hown, hts⟩ (hM l) ⟨callB_of n hts (ws_good c4) rfl r1 r2 (hts _ c3) (hts _ hl) c5 ⟨r3, r4⟩, hts _ c1⟩ ⟨Pg.blind, fun U hU hW => ⟨rfl, by rw [hU]; exact hP, hK.moved hW hU hS⟩⟩ rfl hn hL.1 rfl (lv_room hW) d ⟨Nat.zero_le _, Nat.zero_le _⟩) hS hL k
theorem v_callN (K : OkM w M X cc nL own rm ret) {y : MethodName} {bytes : ByteArray} {maxL n idx : Nat} {retc : Option FieldType} {rmc : Room} {As rest : List Value} {v : Option Value} {u' : ASt}
    (hM : ∀ l, Met l y (ws_ y bytes maxL retc) rmc (Pg w X u As) (Qg w X v u') 0 0 (Aw w X)) (cv : CalS y bytes maxL retc n) (hl : (own, idx, y) ∈ anest) (hR : RmOk rmc rm maxL) (hn : As.length = n) (hst : As.reverse ++ rest = stk) (hW : (rest.map fun v => v.category).sum ≤ 8)
    (d : decode cc pc = .ok (.invokestatic idx, 3)) (k : V w M X res nL (pc + 3) ls (v.toList ++ rest) u') : V w M X res nL pc ls stk u := by
  obtain ⟨p, l, e, R, s, m, args, below, meth, c⟩ := M
  obtain ⟨hx, hb, hml, hown, hts, hK, rfl, hlk, hrt⟩ := K
  obtain ⟨c1, c3, c4, c5⟩ := cv
  obtain ⟨r1, r2, r3, r4⟩ := hR
  subst hst
  intro H locs L hP hS hL
  exact v_back (va_runSN (As := As) (rest := rest) ⟨hx, hb, hml, hown, hts⟩ (hM l) ⟨va_cnB n hts (ws_good c4) rfl r1 r2 (hK.2.2.1.1 _ hl) (hts _ c3) c5 ⟨r3, r4⟩, hts _ c1, trivial⟩ ⟨Pg.blind, fun U hU hW => ⟨rfl, by rw [hU]; exact hP, hK.moved hW hU hS⟩⟩ rfl hn hL.1 rfl (lv_room hW) d ⟨Nat.zero_le _, Nat.zero_le _⟩) hS hL k
theorem v_min (K : OkM w M X cc nL own rm ret) {idx : Nat} {x y : Int32} (h1 : Cond.methodLink own idx Lib.Math.min.name ∈ lw_good) (h2 : Cond.static Lib.Math.min.name ∈ lw_good) (h3 : Cond.initialized "java/lang/Math" ∈ lw_good) (h4 : Cond.code Lib.Math.min.name Lib.Math.min.code 2 (some .int) ∈ lw_good) (hf : 1 ≤ rm.frames) (hlo : (stk.map fun v => v.category).sum + 13 ≤ rm.locals)
    (d : decode cc pc = .ok (.invokestatic idx, 3)) (k : V w M X res nL (pc + 3) ls (.int (if y < x then y else x) :: stk) u) : V w M X res nL pc ls (.int y :: .int x :: stk) u := by
  obtain ⟨p, l, e, R, s, m, args, below, meth, c⟩ := M
  obtain ⟨hx, hb, hml, hown, hts, hK, rfl, hlk, hrt⟩ := K
  intro H locs L hP hS hL
  exact va_mmin hx hb (hml.trans hL.1.symm) hown (hts _ h1) (hts _ h2) (hts _ h3) (hts _ h4) hf hlo (Nat.zero_le _) (Nat.zero_le _) d (k H locs L hP hS hL)
theorem v_max (K : OkM w M X cc nL own rm ret) {idx : Nat} {x y : Int32} (h1 : Cond.methodLink own idx Lib.Math.max.name ∈ lw_good) (h2 : Cond.static Lib.Math.max.name ∈ lw_good) (h3 : Cond.initialized "java/lang/Math" ∈ lw_good) (h4 : Cond.code Lib.Math.max.name Lib.Math.max.code 2 (some .int) ∈ lw_good) (hf : 1 ≤ rm.frames) (hlo : (stk.map fun v => v.category).sum + 13 ≤ rm.locals)
    (d : decode cc pc = .ok (.invokestatic idx, 3)) (k : V w M X res nL (pc + 3) ls (.int (if x < y then y else x) :: stk) u) : V w M X res nL pc ls (.int y :: .int x :: stk) u := by
  obtain ⟨p, l, e, R, s, m, args, below, meth, c⟩ := M
  obtain ⟨hx, hb, hml, hown, hts, hK, rfl, hlk, hrt⟩ := K
  intro H locs L hP hS hL
  exact va_mmax hx hb (hml.trans hL.1.symm) hown (hts _ h1) (hts _ h2) (hts _ h3) (hts _ h4) hf hlo (Nat.zero_le _) (Nat.zero_le _) d (k H locs L hP hS hL)
theorem v_acopy (K : OkM w M X cc nL own rm ret) {idx o0 o1 : Nat} {sp dp n : Int32} (h1 : Cond.methodLink own idx arraycopyName ∈ lw_good) (h2 : Cond.native arraycopyName ∈ lw_good) (h3 : Cond.static arraycopyName ∈ lw_good) (h4 : Cond.initialized "java/lang/System" ∈ lw_good) (m0 : o0 ∈ aol w) (m1 : o1 ∈ aol w) (k0 : akd o0 = 9 ∨ akd o0 = 12) (k1 : akd o1 = 9 ∨ akd o1 = 12)
    (g1 : ¬ sp < 0) (g2 : ¬ dp < 0) (g3 : ¬ n < 0) (g4 : sp.toNatClampNeg + n.toNatClampNeg ≤ aln o0) (g5 : dp.toNatClampNeg + n.toNatClampNeg ≤ aln o1) (hf : 1 ≤ rm.frames) (hlo : (stk.map fun v => v.category).sum + (nativeFrameWords "java/lang/System" "arraycopy" 5 + 11) ≤ rm.locals)
    (d : decode cc pc = .ok (.invokestatic idx, 3)) (k : V w M X res nL (pc + 3) ls stk (aptR u o1 (va_cpy (u.1 o0) (u.1 o1) sp.toNatClampNeg dp.toNatClampNeg n.toNatClampNeg))) : V w M X res nL pc ls (.int n :: .int dp :: .ref (X.2.1 o1) :: .int sp :: .ref (X.2.1 o0) :: stk) u := by
  obtain ⟨p, l, e, R, s, m, args, below, meth, c⟩ := M
  obtain ⟨hx, hb, hml, hown, hts, hK, rfl, hlk, hrt⟩ := K
  intro H locs L hP hS hL
  obtain ⟨q0, hq00, hq0⟩ := acells_at (X := X) (u := u) m0
  obtain ⟨q1, hq10, hq1⟩ := acells_at (X := X) (u := u) m1
  rw [acell_I k0] at hq0
  rw [acell_I k1] at hq1
  refine va_copyi hx hb (hml.trans hL.1.symm) hown (hts _ h1) (hts _ h2) (hts _ h3) (hts _ h4) hK.1 hP (acells_D hK.2.1) hS q0 q1 1 1 hq0 hq1 rfl rfl rfl g1 g2 g3 g4 g5 (fun i _ => rfl) hf hlo d (fun H1 locs1 hP1 hD1 hS1 => ?_)
  have he := acells_set (X := X) (u := u) (u' := aptR u o1 (va_cpy (u.1 o0) (u.1 o1) sp.toNatClampNeg dp.toNatClampNeg n.toNatClampNeg)) (e := .inl (X.2.2.1.2.1, aln o1, .inl (va_cpy (u.1 o0) (u.1 o1) sp.toNatClampNeg dp.toNatClampNeg n.toNatClampNeg))) hq10 (by rw [acell_I k1, aptR_eq]) (fun a ha => acell_ne (o := o1) (aptR_ne ha) rfl)
  rw [he] at hP1
  exact k H1 locs1 L hP1 hS1 hL
end CALLS
/-! the shapes of the functions that the walks compute -/
section SHAPES
variable {α β : Type}
noncomputable def chk (P : Prop) (x : Option α) : Option α := @ite _ P (Classical.propDecidable P) x none
def bnd (x : Option (α × ASt)) (k : α → ASt → Option β) : Option β := x.bind (fun q => k q.1 q.2)
def lte (x : α) (k : α → Option β) : Option β := k x
theorem chk_of {P : Prop} {x : Option α} {r : α} (h : chk P x = some r) : P ∧ x = some r := by
  unfold chk at h
  split at h
  · exact ⟨by assumption, h⟩
  · cases h
theorem bnd_of {x : Option (α × ASt)} {k : α → ASt → Option β} {r : β} (h : bnd x k = some r) : ∃ (a : α) (v : ASt), x = some (a, v) ∧ k a v = some r := by
  unfold bnd at h
  obtain ⟨⟨a, v⟩, h1, h2⟩ := Option.bind_eq_some_iff.mp h
  exact ⟨a, v, h1, h2⟩
theorem lte_of {x y : α} {k : α → Option β} {r : β} (e : y = x) (h : lte x k = some r) : k y = some r := by
  rw [e]; exact h
theorem ite_t {P : Prop} [Decidable P] {a b : Option α} {r : α} (c : P) (h : (if P then a else b) = some r) : a = some r := by rw [if_pos c] at h; exact h
theorem ite_f {P : Prop} [Decidable P] {a b : Option α} {r : α} (c : ¬ P) (h : (if P then a else b) = some r) : b = some r := by rw [if_neg c] at h; exact h
theorem pair_of {a c : α} {b d : ASt} (h : some (a, b) = some (c, d)) : c = a ∧ d = b := by
  have h1 := Option.some.inj h
  exact ⟨(congrArg Prod.fst h1).symm, (congrArg Prod.snd h1).symm⟩
end SHAPES
