/-! the state of the system as numbers: object number, slot; one long beside -/
abbrev ASt : Type := (Nat → Nat → Int32) × Int64
def agt (u : ASt) (o k : Nat) : Int32 := u.1 o k
def apt (u : ASt) (o k : Nat) (v : Int32) : ASt := (fun a => if a = o then upd (u.1 a) k v else u.1 a, u.2)
def aptR (u : ASt) (o : Nat) (f : Nat → Int32) : ASt := (fun a => if a = o then f else u.1 a, u.2)
def agtL (u : ASt) : Int64 := u.2
def aptL (u : ASt) (v : Int64) : ASt := (u.1, v)
/-- kinds of the objects: 0 Board, 1 Chip, 2 History, 3 Nets, 4 Tester, 5 Text, 6 ChipRing, 7 ChipRingModel, 8 bytes, 9 ints, 10 Board[], 11 Chip[], 12 ints of the model -/
def akdB : List Nat := [0, 11, 9, 1, 1, 1, 1, 9, 9, 9, 9]
def akdl : List Nat := akdB ++ akdB ++ akdB ++ akdB ++ akdB ++ akdB ++ akdB ++ [6, 3, 9, 9, 4, 9, 9, 9, 9, 3, 9, 9, 2, 10, 5, 8, 8, 9, 7, 12, 12, 12, 12, 12, 12, 12, 12, 12, 12, 12]
def akd (o : Nat) : Nat := akdl.getD o 99
def alnB : List Nat := [0, 4, 4, 0, 0, 0, 0, 6, 6, 6, 6]
def alnl : List Nat := alnB ++ alnB ++ alnB ++ alnB ++ alnB ++ alnB ++ alnB ++ [0, 0, 8, 4, 0, 8, 24, 1, 97, 0, 8, 4, 0, 6, 0, 120, 60, 180, 0, 83, 83, 415, 3, 120, 4, 8, 24, 24, 61, 183]
def aln (o : Nat) : Nat := alnl.getD o 0
def arfB (b : Nat) : List (List Nat) := [[b + 1, 0, b + 2], [b + 3, b + 4, b + 5, b + 6], [], [0, 0, 0, 0, 0, 0, 0, 0, b + 7], [0, 0, 0, 0, 0, 0, 0, 0, b + 8], [0, 0, 0, 0, 0, 0, 0, 0, b + 9], [0, 0, 0, 0, 0, 0, 0, 0, b + 10], [], [], [], []]
def arfl : List (List Nat) := arfB 0 ++ arfB 11 ++ arfB 22 ++ arfB 33 ++ arfB 44 ++ arfB 55 ++ arfB 66 ++ [[0, 78, 81, 89, 91], [0, 79, 80], [], [], [0, 86, 82, 83, 84, 85], [], [], [], [], [0, 87, 88], [], [], [90], [11, 22, 33, 44, 55, 66], [92, 0, 93, 94], [], [], [], [96, 97, 98, 0, 99, 100, 0, 101, 0, 102, 0, 103, 104, 0, 0, 0, 105, 106]]
def arf (o k : Nat) : Nat := (arfl.getD o []).getD k 0
def aftl : List (List Nat) := [[1, 0, 1, 0, 0, 0, 0], [0, 0, 0, 0, 0, 0, 0, 0, 1], [1, 0, 0], [1, 1, 1, 0, 0, 0], [1, 1, 1, 1, 1, 1, 0, 0], [1, 0, 1, 1, 0, 0, 0, 0, 0], [1, 1, 1, 1, 1, 0, 0, 0], [1, 1, 1, 0, 1, 1, 0, 1, 0, 1, 0, 1, 1, 0, 0, 0, 1, 1, 2]]
def aft (ci k : Nat) : Nat := (aftl.getD ci []).getD k 3
def anf (ci : Nat) : Nat := (aftl.getD ci []).length
/-- the objects of a world: 0 the class's, 1 the model's -/
def aol (w : Nat) : List Nat := if w = 0 then List.range 95 else List.range' 95 12
/-- the next states of the port -/
def anxl : List Int32 := [1, 0, 1, 2, 3, 9, 4, 5, 4, 5, 6, 8, 6, 7, 4, 8, 1, 2, 10, 0, 11, 12, 11, 12, 13, 15, 13, 14, 11, 15, 1, 2]
def anx (j : Nat) : Int32 := anxl.getD j 0
abbrev Wx : Type := va_G × (Nat → Nat) × (ClassId × ClassId × ClassId × ClassId) × Nat
abbrev Mx : Type := Program × Launch × Env × Room × State × MethodId × Array Value × List Frame × Method × Code
def afv (X : Wx) (u : ASt) (o ci k : Nat) : Value := match aft ci k with
  | 0 => .int (u.1 o k)
  | 1 => .ref (X.2.1 (arf o k))
  | _ => .long u.2
def acell (X : Wx) (u : ASt) (o : Nat) : va_E :=
  if akd o = 8 then .inl (X.2.2.1.1, aln o, .inl (u.1 o))
  else if akd o = 9 then .inl (X.2.2.1.2.1, aln o, .inl (u.1 o))
  else if akd o = 12 then .inl (X.2.2.1.2.1, aln o, .inl (u.1 o))
  else if akd o = 10 then .inl (X.2.2.1.2.2.1, aln o, .inr (.inr (.inr (.inr (fun j => some (X.2.1 (arf o j)))))))
  else if akd o = 11 then .inl (X.2.2.1.2.2.2, aln o, .inr (.inr (.inr (.inr (fun j => some (X.2.1 (arf o j)))))))
  else .inr (akd o, (List.range (anf (akd o))).map (afv X u o (akd o)))
def acells (w : Nat) (X : Wx) (u : ASt) : va_W := (aol w).map (fun o => (X.2.1 o, acell X u o))
def PW (w : Nat) (X : Wx) (u : ASt) (H : Heap) : Prop := va_P X.1 vwCl (acells w X u) H
def Aw (w : Nat) (X : Wx) : Nat → Prop := fun q => ∃ o, o ∈ aol w ∧ q = X.2.1 o
def atys (X : Wx) : List (ClassId × FieldType) := [(X.2.2.1.1, .byte), (X.2.2.1.2.1, .int), (X.2.2.1.2.2.1, .object "ChipRing$Board"), (X.2.2.1.2.2.2, .object "ChipRing$Chip")]
/-- links among nest mates -/
def anest : List (String × Nat × MethodName) := [(RX0, 59, yX6_isBit), (RX0, 62, yX6_isNet), (RX0, 73, yX6_faultCode), (RX3, 61, yX6_kindOf), (RX3, 65, yX6_tensOf), (RX3, 68, yX6_onesOf), (RX3, 95, yX6_isMember), (RX1, 49, yX6_isMember), (RX4, 121, yX6_faultCode), (RX4, 124, yX6_isMember)]
def XN (U : State) : Prop := (∀ q ∈ anest, va_Nw (.methodLinkNest q.1 q.2.1 q.2.2 RX6) U) ∧ va_Nw (.fieldLinkNest RX0 111 RX6 "NEXT_STATE" "[I" RX6) U
def XK (w : Nat) (X : Wx) (U : State) : Prop := va_K X.1 vwCl (atys X) U ∧ (∀ a b, a < 107 → b < 107 → X.2.1 a = X.2.1 b → a = b) ∧ XN U ∧ va_Z "ChipRing" "NEXT_STATE" "[I" (.ref X.2.2.2) (Aw w X) U U.heap ∧ va_T .int X.2.2.2 32 (fun j => .int (anx j)) (Aw w X) U U.heap
theorem XN.warm {s U : State} (h : XN s) (hW : s.WarmedH U.vm) : XN U := ⟨fun q hq => va_Nw.warmM hW (h.1 q hq), va_Nw.warmF hW h.2⟩
theorem XK.moved {w : Nat} {X : Wx} {s U : State} {H : Heap} {locs : List Loc} (h : XK w X s) (hW : s.WarmedH U.vm) (hU : U.heap = H) (hS : va_S (Aw w X) s.heap H locs) : XK w X U := by
  obtain ⟨h1, h2, h3, h4, h5⟩ := h
  subst hU
  exact ⟨va_K.moved hW.alike h1, h2, h3.warm hW, (h4.moved hW.alike).kept hS.2.1, (h5.moved hW.alike).kept hS.2.1⟩
def lw_good : List Cond := lw_tbl.filter goodWord
def ws_ (y : MethodName) (bytes : ByteArray) (maxL : Nat) (ret : Option FieldType) : List Cond := Cond.code y bytes maxL ret :: lw_good
theorem lw_good_in {w : Cond} (h : w ∈ lw_good) : w ∈ lw_tbl := (List.mem_filter.mp h).1
theorem lw_gd {w : Cond} (i : Nat) (h : lw_tbl[i]? = some w) (hg : goodWord w = true) : w ∈ lw_good := List.mem_filter.mpr ⟨List.mem_of_getElem? h, hg⟩
theorem lw_goodIn : GoodIn lw_good lw_good := fun w hw => ⟨hw, good_of_word (List.mem_filter.mp hw).2⟩
theorem ws_good {y : MethodName} {bytes : ByteArray} {maxL : Nat} {ret : Option FieldType} (h : Cond.code y bytes maxL ret ∈ lw_good) : GoodIn lw_good (ws_ y bytes maxL ret) := fun w hw => by
  rcases List.mem_cons.mp hw with e | e
  · rw [e]; exact lw_goodIn _ h
  · exact lw_goodIn _ e
def Pg (w : Nat) (X : Wx) (u : ASt) (av : List Value) : Array Value → State → Prop := fun v U => v = av.toArray ∧ PW w X u U.heap ∧ XK w X U
def Qg (w : Nat) (X : Wx) (v : Option Value) (u : ASt) : Array Value → State → Outcome → State → Prop := fun _ st oc t => (oc = .returned v ∧ PW w X u t.heap) ∧ va_F (Aw w X) st t
theorem Pg.blind {w : Nat} {X : Wx} {u : ASt} {av : List Value} : FrameBlind (Pg w X u av) := by
  intro a U g mk h
  obtain ⟨h1, h2, h3, h4, h5, h6, h7⟩ := h
  exact ⟨h1, h2, va_K.moved (u := U) (U := U.calling g mk a) (Vm.Alike.refl U.vm) h3, h4, ⟨fun q hq => va_Nw.same rfl (u := U) (U := U.calling g mk a) rfl (h5.1 q hq), va_Nw.same rfl (u := U) (U := U.calling g mk a) rfl h5.2⟩, h6.moved (U := U.calling g mk a) (Vm.Alike.refl U.vm), h7.moved (U := U.calling g mk a) (Vm.Alike.refl U.vm)⟩
/-- from any heap that holds u, at pc, with these locals and this stack: the method ends with res -/
def V (w : Nat) (M : Mx) (X : Wx) (res : Option Value × ASt) (nL pc : Nat) (ls : List (Nat × Value)) (stk : List Value) (u : ASt) : Prop := match M with
  | (p, l, e, R, s, m, args, below, meth, c) => ∀ (H : Heap) (locs : List Loc) (L : Array Slot), PW w X u H → va_S (Aw w X) s.heap H locs → lv_has L nL ls → W p l e R s m args below meth c H locs 0 0 (MQ below (Qg w X res.1 res.2) args s 0 0 (Aw w X)) (F0 m pc L stk)
def OkM (w : Nat) (M : Mx) (X : Wx) (cc : ByteArray) (nL : Nat) (own : String) (rm : Room) (ret : Option FieldType) : Prop := match M with
  | (p, _, _, R, s, m, args, _, meth, c) => p.tables.exec = Jvm.exec ∧ c.code = cc ∧ c.maxLocals = nL ∧ s.vm.findClass own = some m.cls ∧ (∀ w ∈ lw_good, w.before args s = true) ∧ XK w X s ∧ R = rm ∧ meth.locks = false ∧ meth.sig.returnType = ret
/-- a method's contract out of its walk -/
theorem v_met {w : Nat} {X : Wx} {u : ASt} {av : List Value} {res : Option Value × ASt} {l : Launch} {y : MethodName} {cc : ByteArray} {nL : Nat} {rm : Room} {ret : Option FieldType} (hy : plainName y.cls = true) (hlen : (lg_sl av).length ≤ nL)
    (h : ∀ M : Mx, OkM w M X cc nL y.cls rm ret → V w M X res nL 0 (lv_args 0 av) [] u) : Met l y (ws_ y cc nL ret) rm (Pg w X u av) (Qg w X res.1 res.2) 0 0 (Aw w X) := by
  refine Met.ofW (cc := cc) (maxL := nL) (ret := ret) hy rfl ?_
  intro p e s m args below meth c s₁ B hml hv
  obtain ⟨rfl, hP, hK⟩ := hv
  have hts := atoms_spec (ws := ws_ y cc nL ret) B.pre
  have hl := lv_entry av (n := nL) hlen
  rw [lg_entry_eq]
  exact h (p, l, e, rm, s, m, av.toArray, below, meth, c) ⟨B.exec, B.bytes, hml, findClass_of_methodNamed B.named, fun w hw => hts w (List.mem_cons_of_mem _ hw), hK, rfl, B.notSynchronized, B.returns⟩ s.heap [] _ hP va_S.rf hl
theorem v_sub {w : Nat} {M : Mx} {X : Wx} {res : Option Value × ASt} {nL pc : Nat} {ls ls' : List (Nat × Value)} {stk : List Value} {u : ASt} (ks : List Nat) (hl : lv_pick ls ks = ls') (h : V w M X res nL pc ls' stk u) : V w M X res nL pc ls stk u := by
  obtain ⟨p, l, e, R, s, m, args, below, meth, c⟩ := M
  intro H locs L hP hS hL
  exact h H locs L hP hS (lv_sub hL ks hl)
