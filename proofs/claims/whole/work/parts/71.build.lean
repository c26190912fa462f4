/-! building: cells by their places, from an address on; the heap holds just n of them beyond it -/
abbrev Bx : Type := va_G × (ClassId × ClassId × ClassId × ClassId) × Nat
def gup (g : Nat → va_E) (n : Nat) (e : va_E) : Nat → va_E := fun k => if k = n then e else g k
def bws (B : Bx) (n : Nat) (g : Nat → va_E) : va_W := (List.range n).map (fun j => (B.2.2 + j, g j))
def PB (B : Bx) (n : Nat) (g : Nat → va_E) (H : Heap) : Prop := H.size = B.2.2 + n ∧ ∀ j, j < n → va_at B.1 vwCl (B.2.2 + j, g j) H
def Ab (B : Bx) : Nat → Prop := fun q => B.2.2 ≤ q
def btys (B : Bx) : List (ClassId × FieldType) := [(B.2.1.1, .byte), (B.2.1.2.1, .int), (B.2.1.2.2.1, .object "ChipRing$Board"), (B.2.1.2.2.2, .object "ChipRing$Chip")]
def KB (B : Bx) (U : State) : Prop := va_K B.1 vwCl (btys B) U ∧ va_AO "ChipRing$Chip" U ∧ va_AO "ChipRing$Board" U ∧ va_Nw (.methodLinkNest RX0 21 yX1_init RX6) U ∧ va_Nw (.methodLinkNest RX6 41 yX5_init RX6) U
theorem KB.moved {B : Bx} {s U : State} (h : KB B s) (hW : s.WarmedH U.vm) : KB B U := ⟨va_K.moved hW.alike h.1, va_AO.moved hW.alike h.2.1, va_AO.moved hW.alike h.2.2.1, va_Nw.warmM hW h.2.2.2.1, va_Nw.warmM hW h.2.2.2.2⟩
theorem bws_at {B : Bx} {n j : Nat} {g : Nat → va_E} (h : j < n) : (bws B n g)[j]? = some (B.2.2 + j, g j) := by
  simp [bws, List.getElem?_map, List.getElem?_range h]
theorem bws_of {B : Bx} {n k : Nat} {g : Nat → va_E} {q : Nat × va_E} (h : (bws B n g)[k]? = some q) : k < n ∧ q = (B.2.2 + k, g k) := by
  rcases Nat.lt_or_ge k n with hk | hk
  · rw [bws_at hk] at h
    exact ⟨hk, (Option.some.inj h).symm⟩
  · rw [List.getElem?_eq_none (by simp [bws]; exact hk)] at h
    cases h
theorem PB.P {B : Bx} {n : Nat} {g : Nat → va_E} {H : Heap} (h : PB B n g H) : va_P B.1 vwCl (bws B n g) H := fun k q hk => by
  obtain ⟨h1, rfl⟩ := bws_of hk
  exact h.2 k h1
theorem bws_D {B : Bx} {n : Nat} {g : Nat → va_E} : va_D (Ab B) (bws B n g) := by
  refine ⟨fun i j p q hi hj e => ?_, fun k q hk => ?_⟩
  · obtain ⟨-, rfl⟩ := bws_of hi
    obtain ⟨-, rfl⟩ := bws_of hj
    exact Nat.add_left_cancel e
  · obtain ⟨-, rfl⟩ := bws_of hk
    exact Nat.le_add_right _ _
theorem PB.push {B : Bx} {n : Nat} {g : Nat → va_E} {H H1 : Heap} {e : va_E} (h : PB B n g H) (hz : H1.size = B.2.2 + n + 1) (o : ∀ q, q < B.2.2 + n → H1[q]? = H[q]?) (he : va_at B.1 vwCl (B.2.2 + n, e) H1) : PB B (n + 1) (gup g n e) H1 := by
  refine ⟨by rw [hz]; omega, fun j hj => ?_⟩
  unfold gup
  by_cases q : j = n
  · subst q
    rw [if_pos rfl]; exact he
  · rw [if_neg q]
    exact (h.2 j (by omega)).kept (o _ (show B.2.2 + j < B.2.2 + n by omega))
theorem PB.put {B : Bx} {n j : Nat} {g : Nat → va_E} {H H1 : Heap} {e : va_E} (h : PB B n g H) (hz : H1.size = H.size) (o : ∀ q, q ≠ B.2.2 + j → H1[q]? = H[q]?) (he : va_at B.1 vwCl (B.2.2 + j, e) H1) : PB B n (gup g j e) H1 := by
  refine ⟨by rw [hz]; exact h.1, fun k hk => ?_⟩
  unfold gup
  by_cases q : k = j
  · subst q
    rw [if_pos rfl]; exact he
  · rw [if_neg q]
    exact (h.2 k hk).kept (o _ (show B.2.2 + k ≠ B.2.2 + j by omega))
theorem PB.congr {B : Bx} {n : Nat} {g g' : Nat → va_E} {H : Heap} (h : PB B n g H) (e : ∀ j, j < n → g j = g' j) : PB B n g' H := ⟨h.1, fun j hj => by rw [← e j hj]; exact h.2 j hj⟩
def VB (M : Mx) (B : Bx) (Q : State → Prop) (nL pc : Nat) (ls : List (Nat × Value)) (stk : List Value) (n : Nat) (g : Nat → va_E) (cells slots : Nat) : Prop := match M with
  | (p, l, e, R, s, m, args, below, meth, c) => ∀ (H : Heap) (locs : List Loc) (L : Array Slot), PB B n g H → va_S (Ab B) s.heap H locs → lv_has L nL ls → W p l e R s m args below meth c H locs cells slots Q (F0 m pc L stk)
def OkB (M : Mx) (B : Bx) (cc : ByteArray) (nL : Nat) (own : String) (rm : Room) : Prop := match M with
  | (p, _, _, R, s, m, args, _, _, c) => p.tables.exec = Jvm.exec ∧ c.code = cc ∧ c.maxLocals = nL ∧ s.vm.findClass own = some m.cls ∧ (∀ w ∈ lw_good, w.before args s = true) ∧ KB B s ∧ R = rm
def InB (M : Mx) : Prop := match M with
  | (_, _, _, _, _, _, _, _, meth, _) => meth.name = "<init>" ∧ meth.locks = false ∧ meth.sig.returnType = none
def Pb (B : Bx) (n : Nat) (g : Nat → va_E) (av : List Value) : Array Value → State → Prop := fun v U => v = av.toArray ∧ PB B n g U.heap ∧ KB B U
def Qb (B : Bx) (n : Nat) (g : Nat → va_E) : Array Value → State → Outcome → State → Prop := fun _ st oc t => (oc = .returned none ∧ PB B n g t.heap) ∧ va_F (Ab B) st t
def MQB (M : Mx) (B : Bx) (n : Nat) (g : Nat → va_E) (mc ms : Nat) : State → Prop := match M with
  | (_, _, _, _, s, _, args, below, _, _) => MQ below (Qb B n g) args s mc ms (Ab B)
theorem Pb.blind {B : Bx} {n : Nat} {g : Nat → va_E} {av : List Value} : FrameBlind (Pb B n g av) := by
  intro a U f mk h
  obtain ⟨h1, h2, h3, h4, h5, h6, h7⟩ := h
  exact ⟨h1, h2, va_K.moved (u := U) (U := U.calling f mk a) (Vm.Alike.refl U.vm) h3, va_AO.moved (u := U) (U := U.calling f mk a) (Vm.Alike.refl U.vm) h4, va_AO.moved (u := U) (U := U.calling f mk a) (Vm.Alike.refl U.vm) h5, va_Nw.same rfl (u := U) (U := U.calling f mk a) rfl h6, va_Nw.same rfl (u := U) (U := U.calling f mk a) rfl h7⟩
theorem b_met {B : Bx} {n n' : Nat} {g g' : Nat → va_E} {av : List Value} {l : Launch} {y : MethodName} {cc : ByteArray} {nL mc ms : Nat} {rm : Room} (hy : plainName y.cls = true) (hi : y.name = "<init>") (hlen : (lg_sl av).length ≤ nL)
    (h : ∀ M : Mx, OkB M B cc nL y.cls rm → InB M → VB M B (MQB M B n' g' mc ms) nL 0 (lv_args 0 av) [] n g 0 0) : Met l y (ws_ y cc nL none) rm (Pb B n g av) (Qb B n' g') mc ms (Ab B) := by
  refine Met.ofW (cc := cc) (maxL := nL) (ret := none) hy rfl ?_
  intro p e s m args below meth c s₁ BB hml hv
  obtain ⟨rfl, hP, hK⟩ := hv
  have hts := atoms_spec (ws := ws_ y cc nL none) BB.pre
  have hl := lv_entry av (n := nL) hlen
  rw [lg_entry_eq]
  exact h (p, l, e, rm, s, m, av.toArray, below, meth, c) ⟨BB.exec, BB.bytes, hml, findClass_of_methodNamed BB.named, fun w hw => hts w (List.mem_cons_of_mem _ hw), hK, rfl⟩ ⟨(name_of_methodNamed BB.named BB.method).1.trans hi, BB.notSynchronized, BB.returns⟩ s.heap [] _ hP va_S.rf hl
section BROWS
variable {M : Mx} {B : Bx} {Q : State → Prop} {cc : ByteArray} {nL pc : Nat} {own : String} {rm : Room} {ls : List (Nat × Value)} {stk : List Value} {n : Nat} {g : Nat → va_E} {cells slots : Nat}
theorem b_congr {g' : Nat → va_E} (e : ∀ j, j < n → g j = g' j) (k : VB M B Q nL pc ls stk n g' cells slots) : VB M B Q nL pc ls stk n g cells slots := by
  obtain ⟨p, l, e, R, s, m, args, below, meth, c⟩ := M
  intro H locs L hP hS hL
  exact k H locs L (hP.congr (by assumption)) hS hL
theorem b_sub {ls' : List (Nat × Value)} (ks : List Nat) (hl : lv_pick ls ks = ls') (h : VB M B Q nL pc ls' stk n g cells slots) : VB M B Q nL pc ls stk n g cells slots := by
  obtain ⟨p, l, e, R, s, m, args, below, meth, c⟩ := M
  intro H locs L hP hS hL
  exact h H locs L hP hS (lv_sub hL ks hl)
theorem b_vret {mc ms : Nat} (K : OkB M B cc nL own rm) (I : InB M) (d : decode cc pc = .ok (.return_, 1)) : VB M B (MQB M B n g mc ms) nL pc ls [] n g mc ms := by
  obtain ⟨p, l, e, R, s, m, args, below, meth, c⟩ := M
  obtain ⟨hx, hb, hml, hown, hts, hK, rfl⟩ := K
  obtain ⟨hin, hlk, hrt⟩ := I
  intro H locs L hP hS hl
  exact W.vret hx hb hrt (fun t ht hW => ⟨⟨rfl, by rw [ht]; exact hP⟩, hS.F ht⟩) hS.2.2 d hlk
theorem b_new (K : OkB M B cc nL own rm) {ci N i : Nat} {C : String} {T : u_T} {ty : Nat → FieldType} (kd : Kd ci C T N ty) (h1 : Cond.classLink own i C ∈ lw_good) (h2 : Cond.instantiable C N ∈ lw_good) (h3 : Cond.initialized C ∈ lw_good) {fs : List Value} (hfs : ∀ j, j < N → defaultValue (ty j) = vp_V fs j) (hc : cells + 1 ≤ rm.cells) (hs : slots + N ≤ rm.slots) (d : decode cc pc = .ok (.new i, 3)) (k : VB M B Q nL (pc + 3) ls (.ref (B.2.2 + n) :: stk) (n + 1) (gup g n (.inr (ci, fs))) (cells + 1) (slots + N)) : VB M B Q nL pc ls stk n g cells slots := by
  obtain ⟨p, l, e, R, s, m, args, below, meth, c⟩ := M
  obtain ⟨hx, hb, hml, hown, hts, hK, rfl⟩ := K
  obtain ⟨k1, k2, k3, k4, k5, k6⟩ := kd
  intro H locs L hP hS hl
  have hKn := hK.1.1 ci _ k2
  refine W.newcK hx hb hown (hts _ h1) (hts _ h2) (hts _ h3) rfl d hc hs hKn.2.1 hP.1 fun H1 kC hkC e1 z1 o1 => ?_
  refine k H1 locs L (hP.push z1 o1 ⟨_, k2, (u_born ty hts k4 hKn hkC e1 k5).to hfs⟩) ⟨?_, fun q a1 a2 => ?_, hS.2.2⟩ hl
  · have := hS.1; have := hP.1; omega
  · rw [o1 q (by have := hS.1; have := hP.1; omega)]; exact hS.2.1 q a1 a2
theorem b_newa (K : OkB M B cc nL own rm) {atype : ArrayType} {len : Int32} {N t : Nat} {cA : ClassId} {e : va_E} (h1 : Cond.arrayClass (newarray.typeOf atype) ∈ lw_good) (ht : (btys B)[t]? = some (cA, newarray.typeOf atype)) (hra : ∀ (U : State) (cC : ClassId), va_RA U cC (newarray.typeOf atype) = (U.vm.findClass ("[" ++ (newarray.typeOf atype).toString) = some cC)) (he : e = .inl (cA, N, .inl (fun _ => 0))) (hd : defaultValue (newarray.typeOf atype) = .int 0) (hn : ¬ len < 0) (hN : len.toNatClampNeg = N) (hbytes : N * componentBytes (newarray.typeOf atype) ≤ 536870912) (hc : cells + 1 ≤ rm.cells) (hs : slots + N ≤ rm.slots) (d : decode cc pc = .ok (.newarray atype, 2)) (k : VB M B Q nL (pc + 2) ls (.ref (B.2.2 + n) :: stk) (n + 1) (gup g n e) (cells + 1) (slots + N)) : VB M B Q nL pc ls (.int len :: stk) n g cells slots := by
  obtain ⟨p, l, ev, R, s, m, args, below, meth, c⟩ := M
  obtain ⟨hx, hb, hml, hown, hts, hK, rfl⟩ := K
  subst he
  intro H locs L hP hS hl
  refine va_newaK hx hb (hts _ h1) rfl d rfl hn hN hbytes hc hs hP.1 fun H1 cA' e1 z1 o1 hAr hNm => ?_
  have hcc : cA' = cA := by
    have h9 := (hK.1.2 t _ ht).2
    rw [hra] at h9
    exact Option.some.inj (hNm.symm.trans h9)
  subst hcc
  refine k H1 locs L (hP.push z1 o1 ?_) ⟨?_, fun q a1 a2 => ?_, hS.2.2⟩ hl
  · show H1[B.2.2 + n]? = some (vp_cell _ _)
    rw [e1, hd]
    rfl
  · have := hS.1; have := hP.1; omega
  · rw [o1 q (by have := hS.1; have := hP.1; omega)]; exact hS.2.1 q a1 a2
theorem b_anew (K : OkB M B cc nL own rm) {len : Int32} {N t i : Nat} {C : String} {cA : ClassId} (h1 : Cond.classLink own i C ∈ lw_good) (ho : ∀ U, KB B U → va_AO C U) (ht : (btys B)[t]? = some (cA, .object C)) (hn : ¬ len < 0) (hN : len.toNatClampNeg = N) (hbytes : N * 4 ≤ 536870912) (hc : cells + 1 ≤ rm.cells) (hs : slots + N ≤ rm.slots) (d : decode cc pc = .ok (.anewarray i, 3)) (k : VB M B Q nL (pc + 3) ls (.ref (B.2.2 + n) :: stk) (n + 1) (gup g n (.inl (cA, N, .inr (.inr (.inr (.inr (fun _ => none))))))) (cells + 1) (slots + N)) : VB M B Q nL pc ls (.int len :: stk) n g cells slots := by
  obtain ⟨p, l, ev, R, s, m, args, below, meth, c⟩ := M
  obtain ⟨hx, hb, hml, hown, hts, hK, rfl⟩ := K
  subst hN
  intro H locs L hP hS hl
  refine W.anew hx hb hown (hts _ h1) (va_AO.use (ho s hK)) rfl d rfl hn hbytes hc hs fun cA' kA comp f1 f2 f3 f4 => ?_
  obtain ⟨kA2, comp2, y1, y2, y3, y4⟩ := (hK.1.2 t _ ht).2
  have hcc : cA' = cA := Option.some.inj (f1.symm.trans y4)
  subst hcc
  obtain ⟨H1, hH1⟩ : ∃ z, z = H.push ({ cls := cA', slots := Array.replicate len.toNatClampNeg .null, vm := .none } : Cell) := ⟨_, rfl⟩
  rw [← hH1]
  have z1 : H1.size = H.size + 1 := by rw [hH1, Array.size_push]
  have o1 : ∀ q : Nat, q < H.size → H1[q]? = H[q]? := fun q hq => by rw [hH1, Array.getElem?_push, if_neg (Nat.ne_of_lt hq)]
  have e1 : H1[H.size]? = some (arrV cA' len.toNatClampNeg (fun _ => .null)) := by rw [hH1, Array.getElem?_push_size, ← arrV_new]
  have hsz := hP.1
  rw [hsz] at z1 o1 e1
  rw [show H.size = B.2.2 + n from hsz]
  refine k H1 locs L (hP.push z1 o1 ?_) ⟨?_, fun q a1 a2 => ?_, hS.2.2⟩ hl
  · exact e1
  · have := hS.1; omega
  · rw [o1 q (by have := hS.1; omega)]; exact hS.2.1 q a1 a2
theorem b_get (K : OkB M B cc nL own rm) {j ci N k i : Nat} {C : String} {T : u_T} {ty : Nat → FieldType} {fs : List Value} {v : Value} (kd : Kd ci C T N ty) (hj : j < n) (hg : g j = .inr (ci, fs)) (hkN : k < N) (hw : Cond.fieldLink own i C (T k).2.1 (T k).2.2.1 ∈ lw_good) (hC : (T k).1 = C) (hv : fs[k]? = some v) (d : decode cc pc = .ok (.getfield i, 3)) (kk : VB M B Q nL (pc + 3) ls (v :: stk) n g cells slots) : VB M B Q nL pc ls (.ref (B.2.2 + j) :: stk) n g cells slots := by
  obtain ⟨p, l, e, R, s, m, args, below, meth, c⟩ := M
  obtain ⟨hx, hb, hml, hown, hts, hK, hR⟩ := K
  obtain ⟨k1, k2, k3, k4, k5, k6⟩ := kd
  intro H locs L hP hS hl
  have hq := bws_at (B := B) (g := g) hj
  rw [hg] at hq
  exact va_get (ref := C) hx hb hts k4 hown hK.1 hP.P j hq k2 k hkN (hts _ hw) (fun x hx => by rw [← hC]; exact hx) hv d (kk H locs L hP hS hl)
theorem b_putF (K : OkB M B cc nL own rm) (I : InB M) {j ci N k i : Nat} {T : u_T} {ty : Nat → FieldType} {fs : List Value} {v : Value} (kd : Kd ci own T N ty) (hj : j < n) (hg : g j = .inr (ci, fs)) (hkN : k < N) (hw : Cond.fieldLink own i own (T k).2.1 (T k).2.2.1 ∈ lw_good) (hC : (T k).1 = own) (hfin : (T k).2.2.2 = true) (hn : narrow (ty k) v = v) (hfit : fits (ty k) v = true) (hl : k < fs.length) (d : decode cc pc = .ok (.putfield i, 3)) (kk : VB M B Q nL (pc + 3) ls stk n (gup g j (.inr (ci, fs.set k v))) cells slots) : VB M B Q nL pc ls (v :: .ref (B.2.2 + j) :: stk) n g cells slots := by
  obtain ⟨p, l, e, R, s, m, args, below, meth, c⟩ := M
  obtain ⟨hx, hb, hml, hown, hts, hK, hR⟩ := K
  obtain ⟨hin, hlk, hrt⟩ := I
  obtain ⟨k1, k2, k3, k4, k5, k6⟩ := kd
  intro H locs L hP hS hL
  have hap := va_apart (own := own) hts k4 ty k5 k6 hK.1 k2
  have hat := hP.2 j hj
  rw [hg] at hat
  obtain ⟨r, h1, cell, q1, q2, q3, q4⟩ := hat
  have hr : r = (own, T, N) := Option.some.inj (h1.symm.trans k2)
  subst hr
  obtain ⟨hSl, hfc, kC, hkC, hkind⟩ := hK.1.1 ci _ k2
  obtain ⟨cf, kf, fi, f, hi, hsl⟩ := hSl k hkN
  have hlay := hts _ (k4 _ (u_in_lay hkN))
  unfold u_lay at hlay
  rw [if_pos hfin] at hlay
  have hst := (u_facts hfc hkC (u_lays hts k4 hkN) hi).1
  have hcf : m.cls = cf := by
    obtain ⟨_, _, c', _, _, _, -, -, hf', -, -, -, hown2, -⟩ := Cond.laysFinal_spec hlay
    have e1 : c' = cf := by have := hi.symm.trans hf'; simp at this; exact this.1.symm
    rw [hC] at hown2
    rw [← e1]; exact Option.some.inj (hown.symm.trans hown2)
  have h6 := u_fits hfc hkC hkind (Or.inr hlay) hi (k5 k hkN) hn hfit
  refine W.putFinK hx hb hown (hts _ hw) (by rw [← hC] ; exact hi) hst hcf hin (by rw [q2]; exact h6) q1 q3 (by rw [hsl]; exact k2_hasslot (q4 k hkN)) rfl rfl d fun H' e1 e2 e3 => ?_
  rw [hsl] at e1 ⊢
  exact kk H' _ L (hP.put e2 e3 ⟨_, k2, t_OB.to (V := updV (vp_V fs) k v) ⟨_, e1, q2, q3, t_set q4 hap hkN v⟩ (fun j _ => vp_updV_set hl v j)⟩) (hS.put e2 e3 (Nat.le_add_right _ _)) hL
theorem b_aast (K : OkB M B cc nL own rm) {j jv t ci len : Nat} {cA : ClassId} {r : vw_C} {vs : List Value} {f : Nat → Option Nat} {i : Int32} (hj : j < n) (hg : g j = .inl (cA, len, .inr (.inr (.inr (.inr f))))) (ht : (btys B)[t]? = some (cA, .object r.1)) (hjv : jv < n) (hgv : g jv = .inr (ci, vs)) (hc : vwCl[ci]? = some r) (hin : vp_in i len) (d : decode cc pc = .ok (.aastore, 1)) (kk : VB M B Q nL (pc + 1) ls stk n (gup g j (.inl (cA, len, .inr (.inr (.inr (.inr (va_up f i.toNatClampNeg (some (B.2.2 + jv))))))))) cells slots) : VB M B Q nL pc ls (.ref (B.2.2 + jv) :: .int i :: .ref (B.2.2 + j) :: stk) n g cells slots := by
  obtain ⟨p, l, e, R, s, m, args, below, meth, c⟩ := M
  obtain ⟨hx, hb, hml, hown, hts, hK, hR⟩ := K
  intro H locs L hP hS hL
  have hlt : i.toNatClampNeg < len := Nat.not_le.mp fun q => hin (Or.inr q)
  have h0 : ¬ i < 0 := fun q => hin (Or.inl q)
  have hat := hP.2 j hj
  rw [hg] at hat
  have hav := hP.2 jv hjv
  rw [hgv] at hav
  obtain ⟨r', hr', cellV, g1, g2, g3, -⟩ := hav
  have hcls := (hK.1.1 ci r hc).2
  obtain ⟨kA, comp, k1, k2, k3, -⟩ := (hK.1.2 t _ ht).2
  have hcomp : comp = B.1.1 ci := Option.some.inj (k3.symm.trans hcls.1)
  subst hcomp
  obtain ⟨kC, hkC, -⟩ := id hcls.2
  refine W.aast hx hb hat (fun q h => by cases h) (fun h => by cases h) k1 k2 rfl hkC ⟨h0, by show _ < (arrV _ _ _).slots.size; rw [arrV_size]; exact hlt⟩ g1 (fun q h => by rw [g3] at h; cases h) (by rw [g2]; exact hkC) (by rw [g2]; exact va_assign hcls) rfl rfl d fun H1 e1 z1 oq => ?_
  refine kk H1 _ L (hP.put z1 oq ?_) (hS.put z1 oq (Nat.le_add_right _ _)) hL
  show H1[B.2.2 + j]? = some (vp_cell _ _)
  rw [e1, vp_cell_q, vp_cell_q, arrV_store]
  congr 2
  funext q
  by_cases hq : q = i.toNatClampNeg
  · subst hq
    simp [updV, va_up, va_rf]
  · simp [updV, va_up, hq]
theorem b_obj (K : OkB M B cc nL own rm) {idx a : Nat} (w1 : Cond.methodLink own idx objectInit ∈ lw_good) (w2 : Cond.instanceMethod objectInit ∈ lw_good) (w3 : Cond.code objectInit ⟨#[0xb1]⟩ 1 none ∈ lw_good) (hf : 1 ≤ rm.frames) (hlo : (stk.map fun v => v.category).sum + 12 ≤ rm.locals) (d : decode cc pc = .ok (.invokespecial idx, 3)) (k : VB M B Q nL (pc + 3) ls stk n g cells slots) : VB M B Q nL pc ls (.ref a :: stk) n g cells slots := by
  obtain ⟨p, l, e, R, s, m, args, below, meth, c⟩ := M
  obtain ⟨hx, hb, hml, hown, hts, hK, rfl⟩ := K
  intro H locs L hP hS hl
  exact W.objInit hx hb hown (hts _ w1) (hts _ w2) (hts _ w3) rfl (by rw [hml]; exact hl.1) rfl d hf (by show 2 * 0 + (stk.map fun v => v.category).sum + 12 ≤ _; omega) (k H locs L hP hS hl)
theorem w_back {p : Program} {l : Launch} {e : Env} {R : Room} {s : State} {m : MethodId} {args : Array Value} {below : List Frame} {meth : Method} {c : Code} {H : Heap} {locs : List Loc} {L : Array Slot} {rest st0 : List Value} {a : Array Value} {n' mc1 ms1 : Nat} {g' : Nat → va_E}
    (hr : va_Run p l e R s m args below meth c H locs cells slots mc1 ms1 (F0 m pc L st0) rest (Qb B n' g' a) (Ab B)) (hS : va_S (Ab B) s.heap H locs) (hl : lv_has L nL ls)
    (k : VB (p, l, e, R, s, m, args, below, meth, c) B Q nL (pc + 3) ls rest n' g' (cells + mc1) (slots + ms1)) : W p l e R s m args below meth c H locs cells slots Q (F0 m pc L st0) := by
  intro T hT X0
  obtain ⟨v', st₀, t, T', L1, h0, X', hL, e1, e2, ⟨⟨hv, hP1⟩, hz, hk⟩, st⟩ := hr T hT X0
  cases hv
  rw [h0] at hz hk
  obtain ⟨t2, a1, b1⟩ := k T'.heap (locs ++ L1) L (by rw [e1]; exact hP1) ⟨Nat.le_trans hS.1 (by rw [e1]; exact hz), fun q h1 h2 => by rw [e1, hk q (Nat.lt_of_lt_of_le h1 hS.1) h2]; exact hS.2.1 q h1 h2, fun q hq => by
      rcases List.mem_append.mp hq with h | h
      · exact hS.2.2 q h
      · exact hL q h⟩ hl T' rfl X'
  exact ⟨t2, st t2 a1, b1⟩
/-- the words of a constructor that is called -/
def CalI (y : MethodName) (bytes : ByteArray) (maxL : Nat) (nn : Nat) : Prop := Cond.instanceMethod y ∈ lw_good ∧ Cond.initialized y.cls ∈ lw_good ∧ Cond.code y bytes maxL none ∈ lw_good ∧ y.name = "<init>" ∧ (y.cls ≠ "java/lang/invoke/MethodHandle" ∧ y.cls ≠ "java/lang/invoke/VarHandle" ∧ (parseMethodDescriptor y.desc).map (fun d => d.parameters.length) = some nn)
theorem b_callI (K : OkB M B cc nL own rm) {y : MethodName} {bytes : ByteArray} {maxL nn idx mc1 ms1 n' j : Nat} {rmc : Room} {g' : Nat → va_E} {As rest : List Value} (hM : ∀ l, Met l y (ws_ y bytes maxL none) rmc (Pb B n g (.ref (B.2.2 + j) :: As)) (Qb B n' g') mc1 ms1 (Ab B)) (cv : CalI y bytes maxL nn) (hl : Cond.methodLink own idx y ∈ lw_good) (hR : rmc.cells = mc1 ∧ rmc.slots = ms1 ∧ rmc.frames + 1 ≤ rm.frames ∧ 8 + (maxL + 11) + rmc.locals ≤ rm.locals) (hcs : cells + mc1 ≤ rm.cells ∧ slots + ms1 ≤ rm.slots) (hn : As.length = nn) (hst : As.reverse ++ .ref (B.2.2 + j) :: rest = stk) (hW : (rest.map fun v => v.category).sum ≤ 8)
    (d : decode cc pc = .ok (.invokespecial idx, 3)) (k : VB M B Q nL (pc + 3) ls rest n' g' (cells + mc1) (slots + ms1)) : VB M B Q nL pc ls stk n g cells slots := by
  obtain ⟨p, l, e, R, s, m, args, below, meth, c⟩ := M
  obtain ⟨hx, hb, hml, hown, hts, hK, rfl⟩ := K
  obtain ⟨c1, c2, c3, c4, c5⟩ := cv
  obtain ⟨r1, r2, r3, r4⟩ := hR
  subst hst
  intro H locs L hP hS hL
  exact w_back (va_runI (As := As) (rest := rest) ⟨hx, hb, hml, hown, hts⟩ (hM l) ⟨callB_of nn hts (ws_good c3) rfl r1 r2 (hts _ c2) (hts _ hl) c5 ⟨r3, r4⟩, c4, hts _ c1⟩ ⟨Pb.blind, fun U hU hW => ⟨rfl, by rw [hU]; exact hP, hK.moved hW⟩⟩ rfl hn hL.1 rfl (lv_room hW) d hcs) hS hL k
theorem b_callIN (K : OkB M B cc nL own rm) {y : MethodName} {bytes : ByteArray} {maxL nn idx mc1 ms1 n' j : Nat} {rmc : Room} {g' : Nat → va_E} {As rest : List Value} (hM : ∀ l, Met l y (ws_ y bytes maxL none) rmc (Pb B n g (.ref (B.2.2 + j) :: As)) (Qb B n' g') mc1 ms1 (Ab B)) (cv : CalI y bytes maxL nn) (hl : ∀ U, KB B U → va_Nw (.methodLinkNest own idx y RX6) U) (hR : rmc.cells = mc1 ∧ rmc.slots = ms1 ∧ rmc.frames + 1 ≤ rm.frames ∧ 8 + (maxL + 11) + rmc.locals ≤ rm.locals) (hcs : cells + mc1 ≤ rm.cells ∧ slots + ms1 ≤ rm.slots) (hn : As.length = nn) (hst : As.reverse ++ .ref (B.2.2 + j) :: rest = stk) (hW : (rest.map fun v => v.category).sum ≤ 8)
    (d : decode cc pc = .ok (.invokespecial idx, 3)) (k : VB M B Q nL (pc + 3) ls rest n' g' (cells + mc1) (slots + ms1)) : VB M B Q nL pc ls stk n g cells slots := by
  obtain ⟨p, l, e, R, s, m, args, below, meth, c⟩ := M
  obtain ⟨hx, hb, hml, hown, hts, hK, rfl⟩ := K
  obtain ⟨c1, c2, c3, c4, c5⟩ := cv
  obtain ⟨r1, r2, r3, r4⟩ := hR
  subst hst
  intro H locs L hP hS hL
  exact w_back (va_runIN (As := As) (rest := rest) ⟨hx, hb, hml, hown, hts⟩ (hM l) ⟨va_cnB nn hts (ws_good c3) rfl r1 r2 (hl s hK) (hts _ c2) c5 ⟨r3, r4⟩, c4, hts _ c1⟩ ⟨Pb.blind, fun U hU hW => ⟨rfl, by rw [hU]; exact hP, hK.moved hW⟩⟩ rfl hn hL.1 rfl (lv_room hW) d hcs) hS hL k
theorem b_iconst (K : OkB M B cc nL own rm) {z : Int} {v : Int32} (hv : Int32.ofInt z = v) (d : decode cc pc = .ok (.iconst z, 1)) (k : VB M B Q nL (pc + 1) ls (.int v :: stk) n g cells slots) : VB M B Q nL pc ls (stk) n g cells slots := by
  obtain ⟨p, l, e, R, s, m, args, below, meth, c⟩ := M
  obtain ⟨hx, hb, hml, hown, hts, hK, hR⟩ := K
  intro H locs L hP hS hl
  exact lv_iconst hx hb d hv (k H locs L hP hS hl)
theorem b_bipush (K : OkB M B cc nL own rm) {z : Int} {v : Int32} (hv : (Int8.ofInt z).toInt32 = v) (d : decode cc pc = .ok (.bipush z, 2)) (k : VB M B Q nL (pc + 2) ls (.int v :: stk) n g cells slots) : VB M B Q nL pc ls (stk) n g cells slots := by
  obtain ⟨p, l, e, R, s, m, args, below, meth, c⟩ := M
  obtain ⟨hx, hb, hml, hown, hts, hK, hR⟩ := K
  intro H locs L hP hS hl
  exact lv_bipush hx hb d hv (k H locs L hP hS hl)
theorem b_sipush (K : OkB M B cc nL own rm) {z : Int} {v : Int32} (hv : (Int16.ofInt z).toInt32 = v) (d : decode cc pc = .ok (.sipush z, 3)) (k : VB M B Q nL (pc + 3) ls (.int v :: stk) n g cells slots) : VB M B Q nL pc ls (stk) n g cells slots := by
  obtain ⟨p, l, e, R, s, m, args, below, meth, c⟩ := M
  obtain ⟨hx, hb, hml, hown, hts, hK, hR⟩ := K
  intro H locs L hP hS hl
  exact lv_sipush hx hb d hv (k H locs L hP hS hl)
theorem b_iload_n (K : OkB M B cc nL own rm) (j : Nat) {q : Fin 4} {i : Nat} {x : Int32} (hi : (q : Nat) = i) (hj : ls[j]? = some (i, .int x)) (d : decode cc pc = .ok (.iload_n q, 1)) (k : VB M B Q nL (pc + 1) ls (.int x :: stk) n g cells slots) : VB M B Q nL pc ls (stk) n g cells slots := by
  obtain ⟨p, l, e, R, s, m, args, below, meth, c⟩ := M
  obtain ⟨hx, hb, hml, hown, hts, hK, hR⟩ := K
  intro H locs L hP hS hl
  exact lv_iload_n hx hb d hi (lv_at hl j hj) (k H locs L hP hS hl)
theorem b_istore_n (K : OkB M B cc nL own rm) {q : Fin 4} {i : Nat} {x : Int32} {ls' : List (Nat × Value)} (hi : (q : Nat) = i) (hn : i < nL) (he : (i, Value.int x) :: ls.filter (fun q => !(q.1 == i) && !(q.1 + 1 == i && q.2.category == 2)) = ls') (d : decode cc pc = .ok (.istore_n q, 1)) (k : VB M B Q nL (pc + 1) ls' (stk) n g cells slots) : VB M B Q nL pc ls (.int x :: stk) n g cells slots := by
  obtain ⟨p, l, e, R, s, m, args, below, meth, c⟩ := M
  obtain ⟨hx, hb, hml, hown, hts, hK, hR⟩ := K
  intro H locs L hP hS hl
  exact lv_istore_n hx hb d hi hl hn he (fun L hl => k H locs L hP hS hl)
theorem b_aload_n (K : OkB M B cc nL own rm) (j : Nat) {q : Fin 4} {i : Nat} {x : Nat} (hi : (q : Nat) = i) (hj : ls[j]? = some (i, .ref x)) (d : decode cc pc = .ok (.aload_n q, 1)) (k : VB M B Q nL (pc + 1) ls (.ref x :: stk) n g cells slots) : VB M B Q nL pc ls (stk) n g cells slots := by
  obtain ⟨p, l, e, R, s, m, args, below, meth, c⟩ := M
  obtain ⟨hx, hb, hml, hown, hts, hK, hR⟩ := K
  intro H locs L hP hS hl
  exact lv_aload_n hx hb d hi (lv_at hl j hj) (k H locs L hP hS hl)
theorem b_astore_n (K : OkB M B cc nL own rm) {q : Fin 4} {i : Nat} {x : Nat} {ls' : List (Nat × Value)} (hi : (q : Nat) = i) (hn : i < nL) (he : (i, Value.ref x) :: ls.filter (fun q => !(q.1 == i) && !(q.1 + 1 == i && q.2.category == 2)) = ls') (d : decode cc pc = .ok (.astore_n q, 1)) (k : VB M B Q nL (pc + 1) ls' (stk) n g cells slots) : VB M B Q nL pc ls (.ref x :: stk) n g cells slots := by
  obtain ⟨p, l, e, R, s, m, args, below, meth, c⟩ := M
  obtain ⟨hx, hb, hml, hown, hts, hK, hR⟩ := K
  intro H locs L hP hS hl
  exact lv_astore_n hx hb d hi hl hn he (fun L hl => k H locs L hP hS hl)
theorem b_iinc (K : OkB M B cc nL own rm) (j : Nat) {i : Nat} {z : Int} {x v : Int32} {ls' : List (Nat × Value)} (hj : ls[j]? = some (i, .int x)) (hv : x + Int32.ofInt z = v) (hn : i < nL) (he : (i, Value.int v) :: ls.filter (fun q => !(q.1 == i) && !(q.1 + 1 == i && q.2.category == 2)) = ls') (d : decode cc pc = .ok (.iinc i z, 3)) (k : VB M B Q nL (pc + 3) ls' (stk) n g cells slots) : VB M B Q nL pc ls (stk) n g cells slots := by
  obtain ⟨p, l, e, R, s, m, args, below, meth, c⟩ := M
  obtain ⟨hx, hb, hml, hown, hts, hK, hR⟩ := K
  intro H locs L hP hS hl
  exact lv_iinc hx hb d hl hj hv hn he (fun L hl => k H locs L hP hS hl)
theorem b_dup (K : OkB M B cc nL own rm) {a : Value} (ha : a.category = 1) (d : decode cc pc = .ok (.dup, 1)) (k : VB M B Q nL (pc + 1) ls (a :: a :: stk) n g cells slots) : VB M B Q nL pc ls (a :: stk) n g cells slots := by
  obtain ⟨p, l, e, R, s, m, args, below, meth, c⟩ := M
  obtain ⟨hx, hb, hml, hown, hts, hK, hR⟩ := K
  intro H locs L hP hS hl
  exact lv_dup hx hb d ha (k H locs L hP hS hl)
theorem b_goto (K : OkB M B cc nL own rm) {off : Int} (tgt : Nat) (ht : (pc : Int) + off = (tgt : Int)) (d : decode cc pc = .ok (.goto off, 3)) (k : VB M B Q nL tgt ls stk n g cells slots) : VB M B Q nL pc ls (stk) n g cells slots := by
  obtain ⟨p, l, e, R, s, m, args, below, meth, c⟩ := M
  obtain ⟨hx, hb, hml, hown, hts, hK, hR⟩ := K
  intro H locs L hP hS hl
  exact lv_goto hx hb d ht (k H locs L hP hS hl)
theorem b_icmp_ge (K : OkB M B cc nL own rm) {x y : Int32} {off : Int} (tgt : Nat) (ht : (pc : Int) + off = (tgt : Int)) (d : decode cc pc = .ok (.if_icmp .ge off, 3)) (kt : y ≤ x → VB M B Q nL tgt ls stk n g cells slots) (kf : ¬ y ≤ x → VB M B Q nL (pc + 3) ls stk n g cells slots) : VB M B Q nL pc ls (.int y :: .int x :: stk) n g cells slots := by
  obtain ⟨p, l, e, R, s, m, args, below, meth, c⟩ := M
  obtain ⟨hx, hb, hml, hown, hts, hK, hR⟩ := K
  intro H locs L hP hS hl
  exact lv_icmp_ge hx hb d ht (fun h => kt h H locs L hP hS hl) (fun h => kf h H locs L hP hS hl)
end BROWS
