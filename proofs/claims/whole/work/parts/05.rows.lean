section ROWS
variable {w : Nat} {M : Mx} {X : Wx} {res : Option Value × ASt} {cc : ByteArray} {nL pc : Nat} {own : String} {rm : Room} {ret : Option FieldType} {ls : List (Nat × Value)} {stk : List Value} {u : ASt}
theorem v_iconst (K : OkM w M X cc nL own rm ret) {n : Int} {v : Int32} (hv : Int32.ofInt n = v) (d : decode cc pc = .ok (.iconst n, 1)) (k : V w M X res nL (pc + 1) ls (.int v :: stk) u) : V w M X res nL pc ls (stk) u := by
  obtain ⟨p, l, e, R, s, m, args, below, meth, c⟩ := M
  obtain ⟨hx, hb, hml, hown, hts, hK, hR, hlk, hrt⟩ := K
  intro H locs L hP hS hl
  exact lv_iconst hx hb d hv (k H locs L hP hS hl)
theorem v_bipush (K : OkM w M X cc nL own rm ret) {n : Int} {v : Int32} (hv : (Int8.ofInt n).toInt32 = v) (d : decode cc pc = .ok (.bipush n, 2)) (k : V w M X res nL (pc + 2) ls (.int v :: stk) u) : V w M X res nL pc ls (stk) u := by
  obtain ⟨p, l, e, R, s, m, args, below, meth, c⟩ := M
  obtain ⟨hx, hb, hml, hown, hts, hK, hR, hlk, hrt⟩ := K
  intro H locs L hP hS hl
  exact lv_bipush hx hb d hv (k H locs L hP hS hl)
theorem v_sipush (K : OkM w M X cc nL own rm ret) {n : Int} {v : Int32} (hv : (Int16.ofInt n).toInt32 = v) (d : decode cc pc = .ok (.sipush n, 3)) (k : V w M X res nL (pc + 3) ls (.int v :: stk) u) : V w M X res nL pc ls (stk) u := by
  obtain ⟨p, l, e, R, s, m, args, below, meth, c⟩ := M
  obtain ⟨hx, hb, hml, hown, hts, hK, hR, hlk, hrt⟩ := K
  intro H locs L hP hS hl
  exact lv_sipush hx hb d hv (k H locs L hP hS hl)
theorem v_ldc (K : OkM w M X cc nL own rm ret) {i : Nat} {v : Int32} (hw : Cond.constant own i v ∈ lw_good) (d : decode cc pc = .ok (.ldc i, 2)) (k : V w M X res nL (pc + 2) ls (.int v :: stk) u) : V w M X res nL pc ls (stk) u := by
  obtain ⟨p, l, e, R, s, m, args, below, meth, c⟩ := M
  obtain ⟨hx, hb, hml, hown, hts, hK, hR, hlk, hrt⟩ := K
  intro H locs L hP hS hl
  exact lv_ldc hx hb hown (hts _ hw) d (k H locs L hP hS hl)
theorem v_ldcw (K : OkM w M X cc nL own rm ret) {i : Nat} {v : Int32} (hw : Cond.constant own i v ∈ lw_good) (d : decode cc pc = .ok (.ldc_w i, 3)) (k : V w M X res nL (pc + 3) ls (.int v :: stk) u) : V w M X res nL pc ls (stk) u := by
  obtain ⟨p, l, e, R, s, m, args, below, meth, c⟩ := M
  obtain ⟨hx, hb, hml, hown, hts, hK, hR, hlk, hrt⟩ := K
  intro H locs L hP hS hl
  exact lv_ldcw hx hb hown (hts _ hw) d (k H locs L hP hS hl)
theorem v_ldc2 (K : OkM w M X cc nL own rm ret) {i : Nat} {v : Int64} (hw : Cond.constantLong own i v ∈ lw_good) (d : decode cc pc = .ok (.ldc2_w i, 3)) (k : V w M X res nL (pc + 3) ls (.long v :: stk) u) : V w M X res nL pc ls (stk) u := by
  obtain ⟨p, l, e, R, s, m, args, below, meth, c⟩ := M
  obtain ⟨hx, hb, hml, hown, hts, hK, hR, hlk, hrt⟩ := K
  intro H locs L hP hS hl
  exact lv_ldc2 hx hb hown (hts _ hw) d (k H locs L hP hS hl)
theorem v_iload_n (K : OkM w M X cc nL own rm ret) (j : Nat) {n : Fin 4} {i : Nat} {x : Int32} (hi : (n : Nat) = i) (hj : ls[j]? = some (i, .int x)) (d : decode cc pc = .ok (.iload_n n, 1)) (k : V w M X res nL (pc + 1) ls (.int x :: stk) u) : V w M X res nL pc ls (stk) u := by
  obtain ⟨p, l, e, R, s, m, args, below, meth, c⟩ := M
  obtain ⟨hx, hb, hml, hown, hts, hK, hR, hlk, hrt⟩ := K
  intro H locs L hP hS hl
  exact lv_iload_n hx hb d hi (lv_at hl j hj) (k H locs L hP hS hl)
theorem v_iload (K : OkM w M X cc nL own rm ret) (j : Nat) {i : Nat} {x : Int32} (hj : ls[j]? = some (i, .int x)) (d : decode cc pc = .ok (.iload i, 2)) (k : V w M X res nL (pc + 2) ls (.int x :: stk) u) : V w M X res nL pc ls (stk) u := by
  obtain ⟨p, l, e, R, s, m, args, below, meth, c⟩ := M
  obtain ⟨hx, hb, hml, hown, hts, hK, hR, hlk, hrt⟩ := K
  intro H locs L hP hS hl
  exact lv_iload hx hb d (lv_at hl j hj) (k H locs L hP hS hl)
theorem v_istore_n (K : OkM w M X cc nL own rm ret) {n : Fin 4} {i : Nat} {x : Int32} {ls' : List (Nat × Value)} (hi : (n : Nat) = i) (hn : i < nL) (he : (i, Value.int x) :: ls.filter (fun q => !(q.1 == i) && !(q.1 + 1 == i && q.2.category == 2)) = ls') (d : decode cc pc = .ok (.istore_n n, 1)) (k : V w M X res nL (pc + 1) ls' (stk) u) : V w M X res nL pc ls (.int x :: stk) u := by
  obtain ⟨p, l, e, R, s, m, args, below, meth, c⟩ := M
  obtain ⟨hx, hb, hml, hown, hts, hK, hR, hlk, hrt⟩ := K
  intro H locs L hP hS hl
  exact lv_istore_n hx hb d hi hl hn he (fun L hl => k H locs L hP hS hl)
theorem v_istore (K : OkM w M X cc nL own rm ret) {i : Nat} {x : Int32} {ls' : List (Nat × Value)} (hn : i < nL) (he : (i, Value.int x) :: ls.filter (fun q => !(q.1 == i) && !(q.1 + 1 == i && q.2.category == 2)) = ls') (d : decode cc pc = .ok (.istore i, 2)) (k : V w M X res nL (pc + 2) ls' (stk) u) : V w M X res nL pc ls (.int x :: stk) u := by
  obtain ⟨p, l, e, R, s, m, args, below, meth, c⟩ := M
  obtain ⟨hx, hb, hml, hown, hts, hK, hR, hlk, hrt⟩ := K
  intro H locs L hP hS hl
  exact lv_istore hx hb d hl hn he (fun L hl => k H locs L hP hS hl)
theorem v_lload_n (K : OkM w M X cc nL own rm ret) (j : Nat) {n : Fin 4} {i : Nat} {x : Int64} (hi : (n : Nat) = i) (hj : ls[j]? = some (i, .long x)) (d : decode cc pc = .ok (.lload_n n, 1)) (k : V w M X res nL (pc + 1) ls (.long x :: stk) u) : V w M X res nL pc ls (stk) u := by
  obtain ⟨p, l, e, R, s, m, args, below, meth, c⟩ := M
  obtain ⟨hx, hb, hml, hown, hts, hK, hR, hlk, hrt⟩ := K
  intro H locs L hP hS hl
  exact lv_lload_n hx hb d hi (lv_at hl j hj) (k H locs L hP hS hl)
theorem v_lload (K : OkM w M X cc nL own rm ret) (j : Nat) {i : Nat} {x : Int64} (hj : ls[j]? = some (i, .long x)) (d : decode cc pc = .ok (.lload i, 2)) (k : V w M X res nL (pc + 2) ls (.long x :: stk) u) : V w M X res nL pc ls (stk) u := by
  obtain ⟨p, l, e, R, s, m, args, below, meth, c⟩ := M
  obtain ⟨hx, hb, hml, hown, hts, hK, hR, hlk, hrt⟩ := K
  intro H locs L hP hS hl
  exact lv_lload hx hb d (lv_at hl j hj) (k H locs L hP hS hl)
theorem v_lstore_n (K : OkM w M X cc nL own rm ret) {n : Fin 4} {i : Nat} {x : Int64} {ls' : List (Nat × Value)} (hi : (n : Nat) = i) (hn : i + 1 < nL) (he : (i, Value.long x) :: ls.filter (fun q => !(q.1 == i) && (!(q.1 == i + 1) && !(q.1 + 1 == i && q.2.category == 2))) = ls') (d : decode cc pc = .ok (.lstore_n n, 1)) (k : V w M X res nL (pc + 1) ls' (stk) u) : V w M X res nL pc ls (.long x :: stk) u := by
  obtain ⟨p, l, e, R, s, m, args, below, meth, c⟩ := M
  obtain ⟨hx, hb, hml, hown, hts, hK, hR, hlk, hrt⟩ := K
  intro H locs L hP hS hl
  exact lv_lstore_n hx hb d hi hl hn he (fun L hl => k H locs L hP hS hl)
theorem v_lstore (K : OkM w M X cc nL own rm ret) {i : Nat} {x : Int64} {ls' : List (Nat × Value)} (hn : i + 1 < nL) (he : (i, Value.long x) :: ls.filter (fun q => !(q.1 == i) && (!(q.1 == i + 1) && !(q.1 + 1 == i && q.2.category == 2))) = ls') (d : decode cc pc = .ok (.lstore i, 2)) (k : V w M X res nL (pc + 2) ls' (stk) u) : V w M X res nL pc ls (.long x :: stk) u := by
  obtain ⟨p, l, e, R, s, m, args, below, meth, c⟩ := M
  obtain ⟨hx, hb, hml, hown, hts, hK, hR, hlk, hrt⟩ := K
  intro H locs L hP hS hl
  exact lv_lstore hx hb d hl hn he (fun L hl => k H locs L hP hS hl)
theorem v_aload_n (K : OkM w M X cc nL own rm ret) (j : Nat) {n : Fin 4} {i : Nat} {x : Nat} (hi : (n : Nat) = i) (hj : ls[j]? = some (i, .ref x)) (d : decode cc pc = .ok (.aload_n n, 1)) (k : V w M X res nL (pc + 1) ls (.ref x :: stk) u) : V w M X res nL pc ls (stk) u := by
  obtain ⟨p, l, e, R, s, m, args, below, meth, c⟩ := M
  obtain ⟨hx, hb, hml, hown, hts, hK, hR, hlk, hrt⟩ := K
  intro H locs L hP hS hl
  exact lv_aload_n hx hb d hi (lv_at hl j hj) (k H locs L hP hS hl)
theorem v_aload (K : OkM w M X cc nL own rm ret) (j : Nat) {i : Nat} {x : Nat} (hj : ls[j]? = some (i, .ref x)) (d : decode cc pc = .ok (.aload i, 2)) (k : V w M X res nL (pc + 2) ls (.ref x :: stk) u) : V w M X res nL pc ls (stk) u := by
  obtain ⟨p, l, e, R, s, m, args, below, meth, c⟩ := M
  obtain ⟨hx, hb, hml, hown, hts, hK, hR, hlk, hrt⟩ := K
  intro H locs L hP hS hl
  exact lv_aload hx hb d (lv_at hl j hj) (k H locs L hP hS hl)
theorem v_astore_n (K : OkM w M X cc nL own rm ret) {n : Fin 4} {i : Nat} {x : Nat} {ls' : List (Nat × Value)} (hi : (n : Nat) = i) (hn : i < nL) (he : (i, Value.ref x) :: ls.filter (fun q => !(q.1 == i) && !(q.1 + 1 == i && q.2.category == 2)) = ls') (d : decode cc pc = .ok (.astore_n n, 1)) (k : V w M X res nL (pc + 1) ls' (stk) u) : V w M X res nL pc ls (.ref x :: stk) u := by
  obtain ⟨p, l, e, R, s, m, args, below, meth, c⟩ := M
  obtain ⟨hx, hb, hml, hown, hts, hK, hR, hlk, hrt⟩ := K
  intro H locs L hP hS hl
  exact lv_astore_n hx hb d hi hl hn he (fun L hl => k H locs L hP hS hl)
theorem v_astore (K : OkM w M X cc nL own rm ret) {i : Nat} {x : Nat} {ls' : List (Nat × Value)} (hn : i < nL) (he : (i, Value.ref x) :: ls.filter (fun q => !(q.1 == i) && !(q.1 + 1 == i && q.2.category == 2)) = ls') (d : decode cc pc = .ok (.astore i, 2)) (k : V w M X res nL (pc + 2) ls' (stk) u) : V w M X res nL pc ls (.ref x :: stk) u := by
  obtain ⟨p, l, e, R, s, m, args, below, meth, c⟩ := M
  obtain ⟨hx, hb, hml, hown, hts, hK, hR, hlk, hrt⟩ := K
  intro H locs L hP hS hl
  exact lv_astore hx hb d hl hn he (fun L hl => k H locs L hP hS hl)
theorem v_iinc (K : OkM w M X cc nL own rm ret) (j : Nat) {i : Nat} {n : Int} {x v : Int32} {ls' : List (Nat × Value)} (hj : ls[j]? = some (i, .int x)) (hv : x + Int32.ofInt n = v) (hn : i < nL) (he : (i, Value.int v) :: ls.filter (fun q => !(q.1 == i) && !(q.1 + 1 == i && q.2.category == 2)) = ls') (d : decode cc pc = .ok (.iinc i n, 3)) (k : V w M X res nL (pc + 3) ls' (stk) u) : V w M X res nL pc ls (stk) u := by
  obtain ⟨p, l, e, R, s, m, args, below, meth, c⟩ := M
  obtain ⟨hx, hb, hml, hown, hts, hK, hR, hlk, hrt⟩ := K
  intro H locs L hP hS hl
  exact lv_iinc hx hb d hl hj hv hn he (fun L hl => k H locs L hP hS hl)
theorem v_iadd (K : OkM w M X cc nL own rm ret) {x y : Int32} (d : decode cc pc = .ok (.iadd, 1)) (k : V w M X res nL (pc + 1) ls (.int (x + y) :: stk) u) : V w M X res nL pc ls (.int y :: .int x :: stk) u := by
  obtain ⟨p, l, e, R, s, m, args, below, meth, c⟩ := M
  obtain ⟨hx, hb, hml, hown, hts, hK, hR, hlk, hrt⟩ := K
  intro H locs L hP hS hl
  exact lv_iadd hx hb d (k H locs L hP hS hl)
theorem v_isub (K : OkM w M X cc nL own rm ret) {x y : Int32} (d : decode cc pc = .ok (.isub, 1)) (k : V w M X res nL (pc + 1) ls (.int (x - y) :: stk) u) : V w M X res nL pc ls (.int y :: .int x :: stk) u := by
  obtain ⟨p, l, e, R, s, m, args, below, meth, c⟩ := M
  obtain ⟨hx, hb, hml, hown, hts, hK, hR, hlk, hrt⟩ := K
  intro H locs L hP hS hl
  exact lv_isub hx hb d (k H locs L hP hS hl)
theorem v_imul (K : OkM w M X cc nL own rm ret) {x y : Int32} (d : decode cc pc = .ok (.imul, 1)) (k : V w M X res nL (pc + 1) ls (.int (x * y) :: stk) u) : V w M X res nL pc ls (.int y :: .int x :: stk) u := by
  obtain ⟨p, l, e, R, s, m, args, below, meth, c⟩ := M
  obtain ⟨hx, hb, hml, hown, hts, hK, hR, hlk, hrt⟩ := K
  intro H locs L hP hS hl
  exact lv_imul hx hb d (k H locs L hP hS hl)
theorem v_iand (K : OkM w M X cc nL own rm ret) {x y : Int32} (d : decode cc pc = .ok (.iand, 1)) (k : V w M X res nL (pc + 1) ls (.int (x &&& y) :: stk) u) : V w M X res nL pc ls (.int y :: .int x :: stk) u := by
  obtain ⟨p, l, e, R, s, m, args, below, meth, c⟩ := M
  obtain ⟨hx, hb, hml, hown, hts, hK, hR, hlk, hrt⟩ := K
  intro H locs L hP hS hl
  exact lv_iand hx hb d (k H locs L hP hS hl)
theorem v_ior (K : OkM w M X cc nL own rm ret) {x y : Int32} (d : decode cc pc = .ok (.ior, 1)) (k : V w M X res nL (pc + 1) ls (.int (x ||| y) :: stk) u) : V w M X res nL pc ls (.int y :: .int x :: stk) u := by
  obtain ⟨p, l, e, R, s, m, args, below, meth, c⟩ := M
  obtain ⟨hx, hb, hml, hown, hts, hK, hR, hlk, hrt⟩ := K
  intro H locs L hP hS hl
  exact lv_ior hx hb d (k H locs L hP hS hl)
theorem v_ixor (K : OkM w M X cc nL own rm ret) {x y : Int32} (d : decode cc pc = .ok (.ixor, 1)) (k : V w M X res nL (pc + 1) ls (.int (x ^^^ y) :: stk) u) : V w M X res nL pc ls (.int y :: .int x :: stk) u := by
  obtain ⟨p, l, e, R, s, m, args, below, meth, c⟩ := M
  obtain ⟨hx, hb, hml, hown, hts, hK, hR, hlk, hrt⟩ := K
  intro H locs L hP hS hl
  exact lv_ixor hx hb d (k H locs L hP hS hl)
theorem v_ishl (K : OkM w M X cc nL own rm ret) {x y : Int32} (d : decode cc pc = .ok (.ishl, 1)) (k : V w M X res nL (pc + 1) ls (.int (x <<< (y &&& 31)) :: stk) u) : V w M X res nL pc ls (.int y :: .int x :: stk) u := by
  obtain ⟨p, l, e, R, s, m, args, below, meth, c⟩ := M
  obtain ⟨hx, hb, hml, hown, hts, hK, hR, hlk, hrt⟩ := K
  intro H locs L hP hS hl
  exact lv_ishl hx hb d (k H locs L hP hS hl)
theorem v_ishr (K : OkM w M X cc nL own rm ret) {x y : Int32} (d : decode cc pc = .ok (.ishr, 1)) (k : V w M X res nL (pc + 1) ls (.int (x >>> (y &&& 31)) :: stk) u) : V w M X res nL pc ls (.int y :: .int x :: stk) u := by
  obtain ⟨p, l, e, R, s, m, args, below, meth, c⟩ := M
  obtain ⟨hx, hb, hml, hown, hts, hK, hR, hlk, hrt⟩ := K
  intro H locs L hP hS hl
  exact lv_ishr hx hb d (k H locs L hP hS hl)
theorem v_iushr (K : OkM w M X cc nL own rm ret) {x y : Int32} (d : decode cc pc = .ok (.iushr, 1)) (k : V w M X res nL (pc + 1) ls (.int (x.toUInt32 >>> (y.toUInt32 &&& Int32.toUInt32 31)).toInt32 :: stk) u) : V w M X res nL pc ls (.int y :: .int x :: stk) u := by
  obtain ⟨p, l, e, R, s, m, args, below, meth, c⟩ := M
  obtain ⟨hx, hb, hml, hown, hts, hK, hR, hlk, hrt⟩ := K
  intro H locs L hP hS hl
  exact lv_iushr hx hb d rfl (k H locs L hP hS hl)
theorem v_idiv (K : OkM w M X cc nL own rm ret) {x y : Int32} (hy : ¬ y = 0) (d : decode cc pc = .ok (.idiv, 1)) (k : V w M X res nL (pc + 1) ls (.int (x / y) :: stk) u) : V w M X res nL pc ls (.int y :: .int x :: stk) u := by
  obtain ⟨p, l, e, R, s, m, args, below, meth, c⟩ := M
  obtain ⟨hx, hb, hml, hown, hts, hK, hR, hlk, hrt⟩ := K
  intro H locs L hP hS hl
  exact lv_idiv hx hb d hy (k H locs L hP hS hl)
theorem v_irem (K : OkM w M X cc nL own rm ret) {x y : Int32} (hy : ¬ y = 0) (d : decode cc pc = .ok (.irem, 1)) (k : V w M X res nL (pc + 1) ls (.int (x - x / y * y) :: stk) u) : V w M X res nL pc ls (.int y :: .int x :: stk) u := by
  obtain ⟨p, l, e, R, s, m, args, below, meth, c⟩ := M
  obtain ⟨hx, hb, hml, hown, hts, hK, hR, hlk, hrt⟩ := K
  intro H locs L hP hS hl
  exact lv_irem hx hb d hy (k H locs L hP hS hl)
theorem v_ladd (K : OkM w M X cc nL own rm ret) {x y : Int64} (d : decode cc pc = .ok (.ladd, 1)) (k : V w M X res nL (pc + 1) ls (.long (x + y) :: stk) u) : V w M X res nL pc ls (.long y :: .long x :: stk) u := by
  obtain ⟨p, l, e, R, s, m, args, below, meth, c⟩ := M
  obtain ⟨hx, hb, hml, hown, hts, hK, hR, hlk, hrt⟩ := K
  intro H locs L hP hS hl
  exact lv_ladd hx hb d (k H locs L hP hS hl)
theorem v_lmul (K : OkM w M X cc nL own rm ret) {x y : Int64} (d : decode cc pc = .ok (.lmul, 1)) (k : V w M X res nL (pc + 1) ls (.long (x * y) :: stk) u) : V w M X res nL pc ls (.long y :: .long x :: stk) u := by
  obtain ⟨p, l, e, R, s, m, args, below, meth, c⟩ := M
  obtain ⟨hx, hb, hml, hown, hts, hK, hR, hlk, hrt⟩ := K
  intro H locs L hP hS hl
  exact lv_lmul hx hb d (k H locs L hP hS hl)
theorem v_i2l (K : OkM w M X cc nL own rm ret) {x : Int32} (d : decode cc pc = .ok (.i2l, 1)) (k : V w M X res nL (pc + 1) ls (.long x.toInt64 :: stk) u) : V w M X res nL pc ls (.int x :: stk) u := by
  obtain ⟨p, l, e, R, s, m, args, below, meth, c⟩ := M
  obtain ⟨hx, hb, hml, hown, hts, hK, hR, hlk, hrt⟩ := K
  intro H locs L hP hS hl
  exact lv_i2l hx hb d rfl (k H locs L hP hS hl)
theorem v_i2b (K : OkM w M X cc nL own rm ret) {x : Int32} (d : decode cc pc = .ok (.i2b, 1)) (k : V w M X res nL (pc + 1) ls (.int x.toInt8.toInt32 :: stk) u) : V w M X res nL pc ls (.int x :: stk) u := by
  obtain ⟨p, l, e, R, s, m, args, below, meth, c⟩ := M
  obtain ⟨hx, hb, hml, hown, hts, hK, hR, hlk, hrt⟩ := K
  intro H locs L hP hS hl
  exact lv_i2b hx hb d rfl (k H locs L hP hS hl)
theorem v_dup (K : OkM w M X cc nL own rm ret) {a : Value} (ha : a.category = 1) (d : decode cc pc = .ok (.dup, 1)) (k : V w M X res nL (pc + 1) ls (a :: a :: stk) u) : V w M X res nL pc ls (a :: stk) u := by
  obtain ⟨p, l, e, R, s, m, args, below, meth, c⟩ := M
  obtain ⟨hx, hb, hml, hown, hts, hK, hR, hlk, hrt⟩ := K
  intro H locs L hP hS hl
  exact lv_dup hx hb d ha (k H locs L hP hS hl)
theorem v_dup2 (K : OkM w M X cc nL own rm ret) {a b : Value} (ha : a.category = 1) (hb1 : b.category = 1) (d : decode cc pc = .ok (.dup2, 1)) (k : V w M X res nL (pc + 1) ls (a :: b :: a :: b :: stk) u) : V w M X res nL pc ls (a :: b :: stk) u := by
  obtain ⟨p, l, e, R, s, m, args, below, meth, c⟩ := M
  obtain ⟨hx, hb, hml, hown, hts, hK, hR, hlk, hrt⟩ := K
  intro H locs L hP hS hl
  exact lv_dup2_11 hx hb d ha hb1 (k H locs L hP hS hl)
theorem v_if_eq (K : OkM w M X cc nL own rm ret) {x : Int32} {off : Int} (tgt : Nat) (ht : (pc : Int) + off = (tgt : Int)) (d : decode cc pc = .ok (.ifCond .eq off, 3)) (kt : x = 0 → V w M X res nL tgt ls stk u) (kf : ¬ x = 0 → V w M X res nL (pc + 3) ls stk u) : V w M X res nL pc ls (.int x :: stk) u := by
  obtain ⟨p, l, e, R, s, m, args, below, meth, c⟩ := M
  obtain ⟨hx, hb, hml, hown, hts, hK, hR, hlk, hrt⟩ := K
  intro H locs L hP hS hl
  exact lv_if_eq hx hb d ht (fun h => kt h H locs L hP hS hl) (fun h => kf h H locs L hP hS hl)
theorem v_icmp_eq (K : OkM w M X cc nL own rm ret) {x y : Int32} {off : Int} (tgt : Nat) (ht : (pc : Int) + off = (tgt : Int)) (d : decode cc pc = .ok (.if_icmp .eq off, 3)) (kt : x = y → V w M X res nL tgt ls stk u) (kf : ¬ x = y → V w M X res nL (pc + 3) ls stk u) : V w M X res nL pc ls (.int y :: .int x :: stk) u := by
  obtain ⟨p, l, e, R, s, m, args, below, meth, c⟩ := M
  obtain ⟨hx, hb, hml, hown, hts, hK, hR, hlk, hrt⟩ := K
  intro H locs L hP hS hl
  exact lv_icmp_eq hx hb d ht (fun h => kt h H locs L hP hS hl) (fun h => kf h H locs L hP hS hl)
theorem v_if_ne (K : OkM w M X cc nL own rm ret) {x : Int32} {off : Int} (tgt : Nat) (ht : (pc : Int) + off = (tgt : Int)) (d : decode cc pc = .ok (.ifCond .ne off, 3)) (kt : ¬ x = 0 → V w M X res nL tgt ls stk u) (kf : x = 0 → V w M X res nL (pc + 3) ls stk u) : V w M X res nL pc ls (.int x :: stk) u := by
  obtain ⟨p, l, e, R, s, m, args, below, meth, c⟩ := M
  obtain ⟨hx, hb, hml, hown, hts, hK, hR, hlk, hrt⟩ := K
  intro H locs L hP hS hl
  exact lv_if_ne hx hb d ht (fun h => kt h H locs L hP hS hl) (fun h => kf h H locs L hP hS hl)
theorem v_icmp_ne (K : OkM w M X cc nL own rm ret) {x y : Int32} {off : Int} (tgt : Nat) (ht : (pc : Int) + off = (tgt : Int)) (d : decode cc pc = .ok (.if_icmp .ne off, 3)) (kt : ¬ x = y → V w M X res nL tgt ls stk u) (kf : x = y → V w M X res nL (pc + 3) ls stk u) : V w M X res nL pc ls (.int y :: .int x :: stk) u := by
  obtain ⟨p, l, e, R, s, m, args, below, meth, c⟩ := M
  obtain ⟨hx, hb, hml, hown, hts, hK, hR, hlk, hrt⟩ := K
  intro H locs L hP hS hl
  exact lv_icmp_ne hx hb d ht (fun h => kt h H locs L hP hS hl) (fun h => kf h H locs L hP hS hl)
theorem v_if_lt (K : OkM w M X cc nL own rm ret) {x : Int32} {off : Int} (tgt : Nat) (ht : (pc : Int) + off = (tgt : Int)) (d : decode cc pc = .ok (.ifCond .lt off, 3)) (kt : x < 0 → V w M X res nL tgt ls stk u) (kf : ¬ x < 0 → V w M X res nL (pc + 3) ls stk u) : V w M X res nL pc ls (.int x :: stk) u := by
  obtain ⟨p, l, e, R, s, m, args, below, meth, c⟩ := M
  obtain ⟨hx, hb, hml, hown, hts, hK, hR, hlk, hrt⟩ := K
  intro H locs L hP hS hl
  exact lv_if_lt hx hb d ht (fun h => kt h H locs L hP hS hl) (fun h => kf h H locs L hP hS hl)
theorem v_icmp_lt (K : OkM w M X cc nL own rm ret) {x y : Int32} {off : Int} (tgt : Nat) (ht : (pc : Int) + off = (tgt : Int)) (d : decode cc pc = .ok (.if_icmp .lt off, 3)) (kt : x < y → V w M X res nL tgt ls stk u) (kf : ¬ x < y → V w M X res nL (pc + 3) ls stk u) : V w M X res nL pc ls (.int y :: .int x :: stk) u := by
  obtain ⟨p, l, e, R, s, m, args, below, meth, c⟩ := M
  obtain ⟨hx, hb, hml, hown, hts, hK, hR, hlk, hrt⟩ := K
  intro H locs L hP hS hl
  exact lv_icmp_lt hx hb d ht (fun h => kt h H locs L hP hS hl) (fun h => kf h H locs L hP hS hl)
theorem v_if_ge (K : OkM w M X cc nL own rm ret) {x : Int32} {off : Int} (tgt : Nat) (ht : (pc : Int) + off = (tgt : Int)) (d : decode cc pc = .ok (.ifCond .ge off, 3)) (kt : 0 ≤ x → V w M X res nL tgt ls stk u) (kf : ¬ 0 ≤ x → V w M X res nL (pc + 3) ls stk u) : V w M X res nL pc ls (.int x :: stk) u := by
  obtain ⟨p, l, e, R, s, m, args, below, meth, c⟩ := M
  obtain ⟨hx, hb, hml, hown, hts, hK, hR, hlk, hrt⟩ := K
  intro H locs L hP hS hl
  exact lv_if_ge hx hb d ht (fun h => kt h H locs L hP hS hl) (fun h => kf h H locs L hP hS hl)
theorem v_icmp_ge (K : OkM w M X cc nL own rm ret) {x y : Int32} {off : Int} (tgt : Nat) (ht : (pc : Int) + off = (tgt : Int)) (d : decode cc pc = .ok (.if_icmp .ge off, 3)) (kt : y ≤ x → V w M X res nL tgt ls stk u) (kf : ¬ y ≤ x → V w M X res nL (pc + 3) ls stk u) : V w M X res nL pc ls (.int y :: .int x :: stk) u := by
  obtain ⟨p, l, e, R, s, m, args, below, meth, c⟩ := M
  obtain ⟨hx, hb, hml, hown, hts, hK, hR, hlk, hrt⟩ := K
  intro H locs L hP hS hl
  exact lv_icmp_ge hx hb d ht (fun h => kt h H locs L hP hS hl) (fun h => kf h H locs L hP hS hl)
theorem v_if_gt (K : OkM w M X cc nL own rm ret) {x : Int32} {off : Int} (tgt : Nat) (ht : (pc : Int) + off = (tgt : Int)) (d : decode cc pc = .ok (.ifCond .gt off, 3)) (kt : 0 < x → V w M X res nL tgt ls stk u) (kf : ¬ 0 < x → V w M X res nL (pc + 3) ls stk u) : V w M X res nL pc ls (.int x :: stk) u := by
  obtain ⟨p, l, e, R, s, m, args, below, meth, c⟩ := M
  obtain ⟨hx, hb, hml, hown, hts, hK, hR, hlk, hrt⟩ := K
  intro H locs L hP hS hl
  exact lv_if_gt hx hb d ht (fun h => kt h H locs L hP hS hl) (fun h => kf h H locs L hP hS hl)
theorem v_icmp_gt (K : OkM w M X cc nL own rm ret) {x y : Int32} {off : Int} (tgt : Nat) (ht : (pc : Int) + off = (tgt : Int)) (d : decode cc pc = .ok (.if_icmp .gt off, 3)) (kt : y < x → V w M X res nL tgt ls stk u) (kf : ¬ y < x → V w M X res nL (pc + 3) ls stk u) : V w M X res nL pc ls (.int y :: .int x :: stk) u := by
  obtain ⟨p, l, e, R, s, m, args, below, meth, c⟩ := M
  obtain ⟨hx, hb, hml, hown, hts, hK, hR, hlk, hrt⟩ := K
  intro H locs L hP hS hl
  exact lv_icmp_gt hx hb d ht (fun h => kt h H locs L hP hS hl) (fun h => kf h H locs L hP hS hl)
theorem v_if_le (K : OkM w M X cc nL own rm ret) {x : Int32} {off : Int} (tgt : Nat) (ht : (pc : Int) + off = (tgt : Int)) (d : decode cc pc = .ok (.ifCond .le off, 3)) (kt : x ≤ 0 → V w M X res nL tgt ls stk u) (kf : ¬ x ≤ 0 → V w M X res nL (pc + 3) ls stk u) : V w M X res nL pc ls (.int x :: stk) u := by
  obtain ⟨p, l, e, R, s, m, args, below, meth, c⟩ := M
  obtain ⟨hx, hb, hml, hown, hts, hK, hR, hlk, hrt⟩ := K
  intro H locs L hP hS hl
  exact lv_if_le hx hb d ht (fun h => kt h H locs L hP hS hl) (fun h => kf h H locs L hP hS hl)
theorem v_icmp_le (K : OkM w M X cc nL own rm ret) {x y : Int32} {off : Int} (tgt : Nat) (ht : (pc : Int) + off = (tgt : Int)) (d : decode cc pc = .ok (.if_icmp .le off, 3)) (kt : x ≤ y → V w M X res nL tgt ls stk u) (kf : ¬ x ≤ y → V w M X res nL (pc + 3) ls stk u) : V w M X res nL pc ls (.int y :: .int x :: stk) u := by
  obtain ⟨p, l, e, R, s, m, args, below, meth, c⟩ := M
  obtain ⟨hx, hb, hml, hown, hts, hK, hR, hlk, hrt⟩ := K
  intro H locs L hP hS hl
  exact lv_icmp_le hx hb d ht (fun h => kt h H locs L hP hS hl) (fun h => kf h H locs L hP hS hl)
theorem v_goto (K : OkM w M X cc nL own rm ret) {off : Int} (tgt : Nat) (ht : (pc : Int) + off = (tgt : Int)) (d : decode cc pc = .ok (.goto off, 3)) (k : V w M X res nL tgt ls stk u) : V w M X res nL pc ls (stk) u := by
  obtain ⟨p, l, e, R, s, m, args, below, meth, c⟩ := M
  obtain ⟨hx, hb, hml, hown, hts, hK, hR, hlk, hrt⟩ := K
  intro H locs L hP hS hl
  exact lv_goto hx hb d ht (k H locs L hP hS hl)
theorem v_tabOut (K : OkM w M X cc nL own rm ret) {dflt lo hi : Int} {offs : Array Int} {len : Nat} {x : Int32} (tgt : Nat) (h : x.toInt < lo ∨ hi < x.toInt) (ht : (pc : Int) + dflt = (tgt : Int)) (d : decode cc pc = .ok (.tableswitch dflt lo hi offs, len)) (k : V w M X res nL tgt ls stk u) : V w M X res nL pc ls (.int x :: stk) u := by
  obtain ⟨p, l, e, R, s, m, args, below, meth, c⟩ := M
  obtain ⟨hx, hb, hml, hown, hts, hK, hR, hlk, hrt⟩ := K
  intro H locs L hP hS hl
  exact lv_tableOut hx hb d h ht (k H locs L hP hS hl)
theorem v_tabIn (K : OkM w M X cc nL own rm ret) {dflt lo hi : Int} {offs : Array Int} {len : Nat} {x : Int32} {off : Int} (tgt : Nat) (h1 : ¬ x.toInt < lo) (h2 : ¬ hi < x.toInt) (ho : offs[(x.toInt - lo).toNat]? = some off) (ht : (pc : Int) + off = (tgt : Int)) (d : decode cc pc = .ok (.tableswitch dflt lo hi offs, len)) (k : V w M X res nL tgt ls stk u) : V w M X res nL pc ls (.int x :: stk) u := by
  obtain ⟨p, l, e, R, s, m, args, below, meth, c⟩ := M
  obtain ⟨hx, hb, hml, hown, hts, hK, hR, hlk, hrt⟩ := K
  intro H locs L hP hS hl
  exact lv_tableIn hx hb d h1 h2 ho ht (k H locs L hP hS hl)
theorem v_look (K : OkM w M X cc nL own rm ret) {dflt : Int} {ps : Array (Int × Int)} {len : Nat} {x : Int32} {off : Int} (tgt : Nat) (hp : (ps.toList.zip (ps.toList.drop 1)).all (fun (a, next) => a.1 < next.1) = true) (ho : Op.lookupswitch.offset ps.toList dflt x.toInt = off) (ht : (pc : Int) + off = (tgt : Int)) (d : decode cc pc = .ok (.lookupswitch dflt ps, len)) (k : V w M X res nL tgt ls stk u) : V w M X res nL pc ls (.int x :: stk) u := by
  obtain ⟨p, l, e, R, s, m, args, below, meth, c⟩ := M
  obtain ⟨hx, hb, hml, hown, hts, hK, hR, hlk, hrt⟩ := K
  intro H locs L hP hS hl
  exact lv_lookup hx hb d hp ho ht (k H locs L hP hS hl)
theorem v_topi {x : Int32} (k : ∀ y : Int32, y = x → V w M X res nL pc ls (.int y :: stk) u) : V w M X res nL pc ls (.int x :: stk) u := k x rfl
theorem v_topl {x : Int64} (k : ∀ y : Int64, y = x → V w M X res nL pc ls (.long y :: stk) u) : V w M X res nL pc ls (.long x :: stk) u := k x rfl
theorem v_st (k : ∀ v : ASt, v = u → V w M X res nL pc ls stk v) : V w M X res nL pc ls stk u := k u rfl
end ROWS
