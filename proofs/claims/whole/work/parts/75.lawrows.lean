/-! THE CLAIM OUT OF ONE WALK OF THE LAW'S BODY. Your part is whole_start (and what it stands on); all else here is the same for every law, but numbers. -/
def R_law : String := "ChipRingLaw"
def lw_P (b : Addr) (xs : List Int32) (args : Array Value) (s : State) : Prop := args = #[.ref b] ∧ s.IntsAt b xs ∧ xs.length ≤ 2048 ∧ (Jvm.Cond.and given_1 narrow_1).before args s = true
def lw_Q (_ : Array Value) (s : State) (o : Outcome) (t : State) : Prop := o = .returned (some (.int 1)) ∧ Framed s o t [] 600000 7302250
def lw_Z (below : List Frame) (a : Array Value) (s : State) : State → Prop := fun t => ∃ o, t.status = .running ∧ Ended t below o ∧ lw_Q a s o t
/-- the law's own end, with 1 on the stack, nothing written that was there before, its room as the claim has it -/
theorem lw_ret {p : Program} {l : Launch} {e : Env} {s : State} {m : MethodId} {below : List Frame} {meth : Method} {c : Code} {b : Nat} (hx : p.tables.exec = Jvm.exec) (hb : c.code = code) (hr : meth.sig.returnType = ret) (hlocks : meth.locks = false) {pc : Nat} {H : Heap} {ls : Array Slot} (hdg : decode code pc = .ok (.ireturn, 1)) : W p l e room_1 s m #[Value.ref b] below meth c H [] 600000 7302250 (lw_Z below #[Value.ref b] s) (F0 m pc ls [.int 1]) := by
  intro T hT X
  obtain ⟨fs, hret, hrun, hended, hW, hframe⟩ := X.leave (v := some (.int 1)) (hlocks := hlocks) (fun h => by rw [hr] at h; cases h)
  have hmeth' : T.vm.method? m = some meth := X.method'
  refine ⟨T.setFrames fs, ?_, .returned (some (.int 1)), hrun, hended, rfl, ⟨_, rfl⟩, hW, hframe⟩
  jvm_step X.here [X.here.top, hx, hb, hdg, hmeth', hr, ret, narrow_b1]
  (try refine ⟨rfl, ?_⟩); (try refine ⟨rfl, ?_⟩)
  first | (intro acts; rw [hret _ acts rfl rfl rfl]) | rw [hret _ _ rfl rfl rfl]
  exact Steps.refl _
/-- what holds at the law's entry: the machine, the code, the tables' words (any of lw_tbl by 'hts w (by decide +kernel)'), the script of L ints xs at the cell b, what the Statement gives of the start (any of its parts by flat_of_before) -/
def lw_At (p : Program) (s : State) (m : MethodId) (meth : Method) (c : Code) (b L : Nat) (xs : Nat → Int32) : Prop :=
  p.tables.exec = Jvm.exec ∧ c.code = code ∧ meth.sig.returnType = ret ∧ c.maxLocals = 4 ∧ s.vm.findClass R_law = some m.cls ∧ (∀ w ∈ lw_tbl, w.before #[Value.ref b] s = true) ∧ va_X b L xs s s.heap ∧ b < s.heap.size ∧ meth.locks = false ∧ (Jvm.Cond.and given_1 narrow_1).before #[Value.ref b] s = true
/-! the law: both objects in one heap -/
abbrev Lx : Type := Program × Launch × Env × State × MethodId × List Frame × Method × Code
def LH (s : State) (X : Wx) (u v : ASt) (H : Heap) (locs : List Loc) : Prop := PW 0 X u H ∧ PW 1 X v H ∧ va_S (fun q => s.heap.size ≤ q) s.heap H locs
def VL (Y : Lx) (X : Wx) (b pc : Nat) (ls : List (Nat × Value)) (stk : List Value) (u v : ASt) : Prop := match Y with
  | (p, l, e, s, m, below, meth, c) => ∀ (H : Heap) (locs : List Loc) (L : Array Slot), LH s X u v H locs → lv_has L 4 ls → W p l e room_1 s m #[Value.ref b] below meth c H locs 107 2112 (lw_Z below #[Value.ref b] s) (F0 m pc L stk)
def LOk (Y : Lx) (X : Wx) (b Ln : Nat) (xs : Nat → Int32) : Prop := match Y with
  | (p, _, _, s, m, _, meth, c) => lw_At p s m meth c b Ln xs ∧ XK 0 X s ∧ XK 1 X s ∧ (∀ o, o < 107 → s.heap.size ≤ X.2.1 o) ∧ Ln ≤ 2048
theorem PW_other {w w' : Nat} {X : Wx} {v : ASt} {H H1 : Heap} (hd : ∀ a ∈ aol w', ∀ b ∈ aol w, a ≠ b) (hinj : ∀ a b, a < 107 → b < 107 → X.2.1 a = X.2.1 b → a = b) (h : PW w' X v H) (hk : ∀ q : Nat, q < H.size → ¬ Aw w X q → H1[q]? = H[q]?) : PW w' X v H1 := by
  intro k q hq
  have h1 := h k q hq
  refine h1.kept (hk _ h1.lt ?_)
  simp only [acells, List.getElem?_map, Option.map_eq_some_iff] at hq
  obtain ⟨o, ho, rfl⟩ := hq
  rintro ⟨o', ho', e⟩
  have m1 := List.mem_of_getElem? ho
  exact hd o m1 o' ho' (hinj o o' (aol_lt m1) (aol_lt ho') e)
theorem dis01 : ∀ a ∈ aol 1, ∀ b ∈ aol 0, a ≠ b := by decide +kernel
theorem dis10 : ∀ a ∈ aol 0, ∀ b ∈ aol 1, a ≠ b := by decide +kernel
theorem and31 (x : Int32) : ∃ t, t < 32 ∧ x &&& 31 = nI t := by
  refine ⟨(x &&& 31).toBitVec.toNat, ?_, ?_⟩
  · show (x.toBitVec &&& (31 : Int32).toBitVec).toNat < 32
    rw [BitVec.toNat_and]
    exact Nat.lt_of_le_of_lt Nat.and_le_right (by decide)
  · apply Int32.toBitVec_inj.mp
    show (x &&& 31).toBitVec = BitVec.ofNat 32 (x &&& 31).toBitVec.toNat
    rw [BitVec.ofNat_toNat, BitVec.setWidth_eq]
section LROWS
variable {Y : Lx} {X : Wx} {b Ln : Nat} {xs : Nat → Int32} {pc : Nat} {ls : List (Nat × Value)} {stk : List Value} {u v : ASt}
theorem n_iconst (K : LOk Y X b Ln xs) {z : Int} {x : Int32} (hv : Int32.ofInt z = x) (d : decode code pc = .ok (.iconst z, 1)) (k : VL Y X b (pc + 1) ls (.int x :: stk) u v) : VL Y X b pc ls (stk) u v := by
  obtain ⟨p, l, e, s, m, below, meth, c⟩ := Y
  obtain ⟨⟨hx, hb, hr, hml, hown, hts, hX, hbl, hlk, hgv⟩, x0, x1, hA, hLn⟩ := K
  intro H locs L hP hl
  exact lv_iconst hx hb d hv (k H locs L hP hl)
theorem n_bipush (K : LOk Y X b Ln xs) {z : Int} {x : Int32} (hv : (Int8.ofInt z).toInt32 = x) (d : decode code pc = .ok (.bipush z, 2)) (k : VL Y X b (pc + 2) ls (.int x :: stk) u v) : VL Y X b pc ls (stk) u v := by
  obtain ⟨p, l, e, s, m, below, meth, c⟩ := Y
  obtain ⟨⟨hx, hb, hr, hml, hown, hts, hX, hbl, hlk, hgv⟩, x0, x1, hA, hLn⟩ := K
  intro H locs L hP hl
  exact lv_bipush hx hb d hv (k H locs L hP hl)
theorem n_iload_n (K : LOk Y X b Ln xs) (j : Nat) {q : Fin 4} {i : Nat} {x : Int32} (hi : (q : Nat) = i) (hj : ls[j]? = some (i, .int x)) (d : decode code pc = .ok (.iload_n q, 1)) (k : VL Y X b (pc + 1) ls (.int x :: stk) u v) : VL Y X b pc ls (stk) u v := by
  obtain ⟨p, l, e, s, m, below, meth, c⟩ := Y
  obtain ⟨⟨hx, hb, hr, hml, hown, hts, hX, hbl, hlk, hgv⟩, x0, x1, hA, hLn⟩ := K
  intro H locs L hP hl
  exact lv_iload_n hx hb d hi (lv_at hl j hj) (k H locs L hP hl)
theorem n_aload_n (K : LOk Y X b Ln xs) (j : Nat) {q : Fin 4} {i : Nat} {x : Nat} (hi : (q : Nat) = i) (hj : ls[j]? = some (i, .ref x)) (d : decode code pc = .ok (.aload_n q, 1)) (k : VL Y X b (pc + 1) ls (.ref x :: stk) u v) : VL Y X b pc ls (stk) u v := by
  obtain ⟨p, l, e, s, m, below, meth, c⟩ := Y
  obtain ⟨⟨hx, hb, hr, hml, hown, hts, hX, hbl, hlk, hgv⟩, x0, x1, hA, hLn⟩ := K
  intro H locs L hP hl
  exact lv_aload_n hx hb d hi (lv_at hl j hj) (k H locs L hP hl)
theorem n_addn (K : LOk Y X b Ln xs) {i j : Nat} (d : decode code pc = .ok (.iadd, 1)) (k : VL Y X b (pc + 1) ls (.int (nI (i + j)) :: stk) u v) : VL Y X b pc ls (.int (nI j) :: .int (nI i) :: stk) u v := by
  obtain ⟨p, l, e, s, m, below, meth, c⟩ := Y
  obtain ⟨⟨hx, hb, hr, hml, hown, hts, hX, hbl, hlk, hgv⟩, x0, x1, hA, hLn⟩ := K
  intro H locs L hP hl
  exact lv_iadd hx hb d (by rw [nI_add]; exact k H locs L hP hl)
theorem n_isub (K : LOk Y X b Ln xs) {x y : Int32} (d : decode code pc = .ok (.isub, 1)) (k : VL Y X b (pc + 1) ls (.int (x - y) :: stk) u v) : VL Y X b pc ls (.int y :: .int x :: stk) u v := by
  obtain ⟨p, l, e, s, m, below, meth, c⟩ := Y
  obtain ⟨⟨hx, hb, hr, hml, hown, hts, hX, hbl, hlk, hgv⟩, x0, x1, hA, hLn⟩ := K
  intro H locs L hP hl
  exact lv_isub hx hb d (k H locs L hP hl)
theorem n_iand (K : LOk Y X b Ln xs) {x y : Int32} (d : decode code pc = .ok (.iand, 1)) (k : VL Y X b (pc + 1) ls (.int (x &&& y) :: stk) u v) : VL Y X b pc ls (.int y :: .int x :: stk) u v := by
  obtain ⟨p, l, e, s, m, below, meth, c⟩ := Y
  obtain ⟨⟨hx, hb, hr, hml, hown, hts, hX, hbl, hlk, hgv⟩, x0, x1, hA, hLn⟩ := K
  intro H locs L hP hl
  exact lv_iand hx hb d (k H locs L hP hl)
theorem n_slen (K : LOk Y X b Ln xs)  (d : decode code pc = .ok (.arraylength, 1)) (k : VL Y X b (pc + 1) ls (.int (nI Ln) :: stk) u v) : VL Y X b pc ls (.ref b :: stk) u v := by
  obtain ⟨p, l, e, s, m, below, meth, c⟩ := Y
  obtain ⟨⟨hx, hb, hr, hml, hown, hts, hX, hbl, hlk, hgv⟩, x0, x1, hA, hLn⟩ := K
  intro H locs L hP hl
  exact va_slen (A := fun q => s.heap.size ≤ q) hx hb hX hbl (Nat.not_le.mpr hbl) hP.2.2 d (k H locs L hP hl)
theorem n_sld (K : LOk Y X b Ln xs) {i : Nat} (hi : i < Ln) (d : decode code pc = .ok (.iaload, 1)) (k : VL Y X b (pc + 1) ls (.int (xs i) :: stk) u v) : VL Y X b pc ls (.int (nI i) :: .ref b :: stk) u v := by
  obtain ⟨p, l, e, s, m, below, meth, c⟩ := Y
  obtain ⟨⟨hx, hb, hr, hml, hown, hts, hX, hbl, hlk, hgv⟩, x0, x1, hA, hLn⟩ := K
  intro H locs L hP hl
  exact va_sld (A := fun q => s.heap.size ≤ q) hx hb hX hbl (Nat.not_le.mpr hbl) hP.2.2 (vp_in_nI hi (by omega)) d (by rw [nCl (by omega)]; exact k H locs L hP hl)
theorem n_iinc (K : LOk Y X b Ln xs) (j : Nat) {i : Nat} {z : Int} {x y : Int32} {ls' : List (Nat × Value)} (hj : ls[j]? = some (i, .int x)) (hv : x + Int32.ofInt z = y) (hn : i < 4) (he : (i, Value.int y) :: ls.filter (fun q => !(q.1 == i) && !(q.1 + 1 == i && q.2.category == 2)) = ls') (d : decode code pc = .ok (.iinc i z, 3)) (k : VL Y X b (pc + 3) ls' (stk) u v) : VL Y X b pc ls (stk) u v := by
  obtain ⟨p, l, e, s, m, below, meth, c⟩ := Y
  obtain ⟨⟨hx, hb, hr, hml, hown, hts, hX, hbl, hlk, hgv⟩, x0, x1, hA, hLn⟩ := K
  intro H locs L hP hl
  exact lv_iinc hx hb d hl hj hv hn he (fun L hl => k H locs L hP hl)
theorem n_goto (K : LOk Y X b Ln xs) {off : Int} (tgt : Nat) (ht : (pc : Int) + off = (tgt : Int)) (d : decode code pc = .ok (.goto off, 3)) (k : VL Y X b tgt ls stk u v) : VL Y X b pc ls (stk) u v := by
  obtain ⟨p, l, e, s, m, below, meth, c⟩ := Y
  obtain ⟨⟨hx, hb, hr, hml, hown, hts, hX, hbl, hlk, hgv⟩, x0, x1, hA, hLn⟩ := K
  intro H locs L hP hl
  exact lv_goto hx hb d ht (k H locs L hP hl)
theorem n_icmp_gt (K : LOk Y X b Ln xs) {x y : Int32} {off : Int} (tgt : Nat) (ht : (pc : Int) + off = (tgt : Int)) (d : decode code pc = .ok (.if_icmp .gt off, 3)) (kt : y < x → VL Y X b tgt ls stk u v) (kf : ¬ y < x → VL Y X b (pc + 3) ls stk u v) : VL Y X b pc ls (.int y :: .int x :: stk) u v := by
  obtain ⟨p, l, e, s, m, below, meth, c⟩ := Y
  obtain ⟨⟨hx, hb, hr, hml, hown, hts, hX, hbl, hlk, hgv⟩, x0, x1, hA, hLn⟩ := K
  intro H locs L hP hl
  exact lv_icmp_gt hx hb d ht (fun h => kt h H locs L hP hl) (fun h => kf h H locs L hP hl)
theorem n_icmp_eq (K : LOk Y X b Ln xs) {x y : Int32} {off : Int} (tgt : Nat) (ht : (pc : Int) + off = (tgt : Int)) (d : decode code pc = .ok (.if_icmp .eq off, 3)) (kt : x = y → VL Y X b tgt ls stk u v) (kf : ¬ x = y → VL Y X b (pc + 3) ls stk u v) : VL Y X b pc ls (.int y :: .int x :: stk) u v := by
  obtain ⟨p, l, e, s, m, below, meth, c⟩ := Y
  obtain ⟨⟨hx, hb, hr, hml, hown, hts, hX, hbl, hlk, hgv⟩, x0, x1, hA, hLn⟩ := K
  intro H locs L hP hl
  exact lv_icmp_eq hx hb d ht (fun h => kt h H locs L hP hl) (fun h => kf h H locs L hP hl)
theorem n_if_eq (K : LOk Y X b Ln xs) {x : Int32} {off : Int} (tgt : Nat) (ht : (pc : Int) + off = (tgt : Int)) (d : decode code pc = .ok (.ifCond .eq off, 3)) (kt : x = 0 → VL Y X b tgt ls stk u v) (kf : ¬ x = 0 → VL Y X b (pc + 3) ls stk u v) : VL Y X b pc ls (.int x :: stk) u v := by
  obtain ⟨p, l, e, s, m, below, meth, c⟩ := Y
  obtain ⟨⟨hx, hb, hr, hml, hown, hts, hX, hbl, hlk, hgv⟩, x0, x1, hA, hLn⟩ := K
  intro H locs L hP hl
  exact lv_if_eq hx hb d ht (fun h => kt h H locs L hP hl) (fun h => kf h H locs L hP hl)
theorem n_lcmp (K : LOk Y X b Ln xs) {x y : Int64} (d : decode code pc = .ok (.lcmp, 1)) (k : VL Y X b (pc + 1) ls (.int (lg_cmp x y) :: stk) u v) : VL Y X b pc ls (.long y :: .long x :: stk) u v := by
  obtain ⟨p, l, e, s, m, below, meth, c⟩ := Y
  obtain ⟨⟨hx, hb, hr, hml, hown, hts, hX, hbl, hlk, hgv⟩, x0, x1, hA, hLn⟩ := K
  intro H locs L hP hl
  exact W.lcmp hx hb d (k H locs L hP hl)
theorem n_tabOut (K : LOk Y X b Ln xs) {dflt lo hi : Int} {offs : Array Int} {len : Nat} {x : Int32} (tgt : Nat) (h : x.toInt < lo ∨ hi < x.toInt) (ht : (pc : Int) + dflt = (tgt : Int)) (d : decode code pc = .ok (.tableswitch dflt lo hi offs, len)) (k : VL Y X b tgt ls stk u v) : VL Y X b pc ls (.int x :: stk) u v := by
  obtain ⟨p, l, e, s, m, below, meth, c⟩ := Y
  obtain ⟨⟨hx, hb, hr, hml, hown, hts, hX, hbl, hlk, hgv⟩, x0, x1, hA, hLn⟩ := K
  intro H locs L hP hl
  exact lv_tableOut hx hb d h ht (k H locs L hP hl)
theorem n_tabIn (K : LOk Y X b Ln xs) {dflt lo hi : Int} {offs : Array Int} {len : Nat} {x : Int32} {off : Int} (tgt : Nat) (h1 : ¬ x.toInt < lo) (h2 : ¬ hi < x.toInt) (ho : offs[(x.toInt - lo).toNat]? = some off) (ht : (pc : Int) + off = (tgt : Int)) (d : decode code pc = .ok (.tableswitch dflt lo hi offs, len)) (k : VL Y X b tgt ls stk u v) : VL Y X b pc ls (.int x :: stk) u v := by
  obtain ⟨p, l, e, s, m, below, meth, c⟩ := Y
  obtain ⟨⟨hx, hb, hr, hml, hown, hts, hX, hbl, hlk, hgv⟩, x0, x1, hA, hLn⟩ := K
  intro H locs L hP hl
  exact lv_tableIn hx hb d h1 h2 ho ht (k H locs L hP hl)
theorem n_sub {ls' : List (Nat × Value)} (ks : List Nat) (hl : lv_pick ls ks = ls') (h : VL Y X b pc ls' stk u v) : VL Y X b pc ls stk u v := by
  obtain ⟨p, l, e, s, m, below, meth, c⟩ := Y
  intro H locs L hP hL
  exact h H locs L hP (lv_sub hL ks hl)
theorem n_arg (K : LOk Y X b Ln xs) (k : Nat) {z : Int} {i : Nat} (hz : Int32.ofInt z = nI k) (hik : i + k < Ln) (h0 : ls[0]? = some (0, .ref b)) (h3 : ls[3]? = some (3, .int (nI i))) (d0 : decode code pc = .ok (.aload_n 0, 1)) (d1 : decode code (pc + 1) = .ok (.iload_n 3, 1)) (d2 : decode code (pc + 2) = .ok (.iconst z, 1)) (d3 : decode code (pc + 3) = .ok (.iadd, 1)) (d4 : decode code (pc + 4) = .ok (.iaload, 1)) (kk : VL Y X b (pc + 5) ls (.int (xs (i + k)) :: stk) u v) : VL Y X b pc ls stk u v := by
  refine n_aload_n K 0 rfl h0 d0 ?_
  refine n_iload_n K 3 rfl h3 d1 ?_
  refine n_iconst K hz d2 ?_
  refine n_addn K d3 ?_
  exact n_sld K hik d4 kk
theorem n_end (K : LOk Y X b Ln xs) : VL Y X b 833 ls [] u v := by
  obtain ⟨p, l, e, s, m, below, meth, c⟩ := Y
  obtain ⟨⟨hx, hb, hr, hml, hown, hts, hX, hbl, hlk, hgv⟩, x0, x1, hA, hLn⟩ := K
  intro H locs L hP hl
  refine lv_iconst (v := 1) hx hb dL_law_833 (by decide) ?_
  refine va_forget (fun q hq => hP.2.2.2.2 q hq) ?_
  refine W.widen (k := 600000) (n := 7302250) (Nat.le_of_ble_eq_true rfl) (Nat.le_of_ble_eq_true rfl) ?_
  exact lw_ret hx hb hr hlk dL_law_834
theorem n_callC (K : LOk Y X b Ln xs) {y : MethodName} {bytes : ByteArray} {maxL nn idx : Nat} {retc : Option FieldType} {rmc : Room} {As rest : List Value} {rv : Value} {u' : ASt}
    (hM : ∀ l, Met l y (ws_ y bytes maxL retc) rmc (Pg 0 X u (.ref (X.2.1 77) :: As)) (Qg 0 X (some rv) u') 0 0 (Aw 0 X)) (cv : CalV y RX6 bytes maxL retc nn) (hl : Cond.methodLink RL idx y ∈ lw_good) (hR : RmOk rmc room_1 maxL) (hn : As.length = nn) (hst : As.reverse ++ .ref (X.2.1 77) :: rest = stk) (hW : (rest.map fun v => v.category).sum ≤ 8)
    (d : decode code pc = .ok (.invokevirtual idx, 3)) (k : VL Y X b (pc + 3) ls (rv :: rest) u' v) : VL Y X b pc ls stk u v := by
  obtain ⟨p, l, e, s, m, below, meth, c⟩ := Y
  obtain ⟨⟨hx, hb, hr, hml, hown, hts0, hX, hbl, hlk, hgv⟩, x0, x1, hA, hLn⟩ := K
  obtain ⟨c1, c2, c3, c4, c5⟩ := cv
  obtain ⟨r1, r2, r3, r4⟩ := hR
  subst hst
  intro H locs L hP hL
  have hts : ∀ w ∈ lw_good, w.before #[Value.ref b] s = true := fun w hw => hts0 w (lw_good_in hw)
  have hS := hP.2.2
  have hS0 : va_S (Aw 0 X) s.heap H [] := ⟨hS.1, fun q h1 _ => hS.2.1 q h1 (Nat.not_le.mpr h1), fun _ h => by cases h⟩
  obtain ⟨q, -, hq⟩ := acells_at (X := X) (u := u) (w := 0) (o := 77) (by decide)
  rw [acell_o (ci := 6) rfl (by decide)] at hq
  have hrun := va_runV (cells := 107) (slots := 2112) (locs := locs) (below := below) (e := e) (meth := meth) (As := As) (rest := rest) (g := F0 m pc L (As.reverse ++ .ref (X.2.1 77) :: rest)) (R := room_1) (own := RL) ⟨hx, hb, hml, hown, hts⟩ (hM l) ⟨callB_of nn hts (ws_good c4) rfl r1 r2 (hts _ c3) (hts _ hl) c5 ⟨r3, r4⟩, hts _ c1, hts _ c2⟩ ⟨Pg.blind, va_recv x0.1 hP.1 kdX6.2.1 hq, fun U hU hW => ⟨rfl, by rw [hU]; exact hP.1, x0.moved hW hU hS0⟩⟩ rfl hn hL.1 rfl (lv_room hW) d ⟨Nat.le_of_ble_eq_true rfl, Nat.le_of_ble_eq_true rfl⟩
  intro T hT X0
  obtain ⟨v', st₀, t, T', L1, h0, X', hLq, e1, e2, ⟨⟨hv, hP1⟩, hz, hk⟩, st⟩ := hrun T hT X0
  cases hv
  rw [h0] at hz hk
  have hO := PW_other (w := 0) dis01 x0.2.1 hP.2.1 (H1 := T'.heap) (fun q h1 h2 => by rw [e1]; exact hk q h1 h2)
  have hin : ∀ q, Aw 0 X q → s.heap.size ≤ q := fun q hq => by
    obtain ⟨o, ho, rfl⟩ := hq
    exact hA o (aol_lt ho)
  have hS1 : va_S (fun q => s.heap.size ≤ q) s.heap T'.heap (locs ++ L1) := ⟨Nat.le_trans hS.1 (by rw [e1]; exact hz), fun q h1 h2 => by rw [e1, hk q (Nat.lt_of_lt_of_le h1 hS.1) (fun z => h2 (hin q z))]; exact hS.2.1 q h1 h2, fun q hq => by
      rcases List.mem_append.mp hq with h | h
      · exact hS.2.2 q h
      · exact hin _ (hLq q h)⟩
  obtain ⟨t2, a1, b1⟩ := k T'.heap (locs ++ L1) L ⟨by rw [e1]; exact hP1, hO, hS1⟩ hL T' rfl X'
  exact ⟨t2, st t2 a1, b1⟩
theorem n_callM (K : LOk Y X b Ln xs) {y : MethodName} {bytes : ByteArray} {maxL nn idx : Nat} {retc : Option FieldType} {rmc : Room} {As rest : List Value} {rv : Value} {v' : ASt}
    (hM : ∀ l, Met l y (ws_ y bytes maxL retc) rmc (Pg 1 X v (.ref (X.2.1 95) :: As)) (Qg 1 X (some rv) v') 0 0 (Aw 1 X)) (cv : CalV y RX7 bytes maxL retc nn) (hl : Cond.methodLink RL idx y ∈ lw_good) (hR : RmOk rmc room_1 maxL) (hn : As.length = nn) (hst : As.reverse ++ .ref (X.2.1 95) :: rest = stk) (hW : (rest.map fun v => v.category).sum ≤ 8)
    (d : decode code pc = .ok (.invokevirtual idx, 3)) (k : VL Y X b (pc + 3) ls (rv :: rest) u v') : VL Y X b pc ls stk u v := by
  obtain ⟨p, l, e, s, m, below, meth, c⟩ := Y
  obtain ⟨⟨hx, hb, hr, hml, hown, hts0, hX, hbl, hlk, hgv⟩, x0, x1, hA, hLn⟩ := K
  obtain ⟨c1, c2, c3, c4, c5⟩ := cv
  obtain ⟨r1, r2, r3, r4⟩ := hR
  subst hst
  intro H locs L hP hL
  have hts : ∀ w ∈ lw_good, w.before #[Value.ref b] s = true := fun w hw => hts0 w (lw_good_in hw)
  have hS := hP.2.2
  have hS0 : va_S (Aw 1 X) s.heap H [] := ⟨hS.1, fun q h1 _ => hS.2.1 q h1 (Nat.not_le.mpr h1), fun _ h => by cases h⟩
  obtain ⟨q, -, hq⟩ := acells_at (X := X) (u := v) (w := 1) (o := 95) (by decide)
  rw [acell_o (ci := 7) rfl (by decide)] at hq
  have hrun := va_runV (cells := 107) (slots := 2112) (locs := locs) (below := below) (e := e) (meth := meth) (As := As) (rest := rest) (g := F0 m pc L (As.reverse ++ .ref (X.2.1 95) :: rest)) (R := room_1) (own := RL) ⟨hx, hb, hml, hown, hts⟩ (hM l) ⟨callB_of nn hts (ws_good c4) rfl r1 r2 (hts _ c3) (hts _ hl) c5 ⟨r3, r4⟩, hts _ c1, hts _ c2⟩ ⟨Pg.blind, va_recv x1.1 hP.2.1 kdX7.2.1 hq, fun U hU hW => ⟨rfl, by rw [hU]; exact hP.2.1, x1.moved hW hU hS0⟩⟩ rfl hn hL.1 rfl (lv_room hW) d ⟨Nat.le_of_ble_eq_true rfl, Nat.le_of_ble_eq_true rfl⟩
  intro T hT X0
  obtain ⟨v', st₀, t, T', L1, h0, X', hLq, e1, e2, ⟨⟨hv, hP1⟩, hz, hk⟩, st⟩ := hrun T hT X0
  cases hv
  rw [h0] at hz hk
  have hO := PW_other (w := 1) dis10 x1.2.1 hP.1 (H1 := T'.heap) (fun q h1 h2 => by rw [e1]; exact hk q h1 h2)
  have hin : ∀ q, Aw 1 X q → s.heap.size ≤ q := fun q hq => by
    obtain ⟨o, ho, rfl⟩ := hq
    exact hA o (aol_lt ho)
  have hS1 : va_S (fun q => s.heap.size ≤ q) s.heap T'.heap (locs ++ L1) := ⟨Nat.le_trans hS.1 (by rw [e1]; exact hz), fun q h1 h2 => by rw [e1, hk q (Nat.lt_of_lt_of_le h1 hS.1) (fun z => h2 (hin q z))]; exact hS.2.1 q h1 h2, fun q hq => by
      rcases List.mem_append.mp hq with h | h
      · exact hS.2.2 q h
      · exact hin _ (hLq q h)⟩
  obtain ⟨t2, a1, b1⟩ := k T'.heap (locs ++ L1) L ⟨hO, by rw [e1]; exact hP1, hS1⟩ hL T' rfl X'
  exact ⟨t2, st t2 a1, b1⟩
end LROWS
