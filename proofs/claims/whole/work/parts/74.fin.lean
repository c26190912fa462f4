/-! what the constructors leave: the state of all zeros -/
def posl : List Nat := [1, 2, 3, 4, 6, 8, 10, 5, 7, 9, 11, 25, 26, 27, 28, 30, 32, 34, 29, 31, 33, 35, 36, 37, 38, 39, 41, 43, 45, 40, 42, 44, 46, 47, 48, 49, 50, 52, 54, 56, 51, 53, 55, 57, 58, 59, 60, 61, 63, 65, 67, 62, 64, 66, 68, 69, 70, 71, 72, 74, 76, 78, 73, 75, 77, 79, 80, 81, 82, 83, 85, 87, 89, 84, 86, 88, 90, 0, 12, 13, 14, 15, 16, 17, 18, 19, 20, 21, 22, 23, 24, 91, 92, 93, 94, 95, 96, 97, 98, 99, 100, 101, 102, 103, 104, 105, 106]
def pos (o : Nat) : Nat := posl.getD o 0
def XB (B : Bx) (a : Nat) : Wx := (B.1, (fun o => B.2.2 + pos o), B.2.1, a)
def u00 : ASt := (fun _ _ => 0, 0)
def finB (B : Bx) : Nat → va_E := reg 95 12 (mdc B 95) (gup (crc B) 95 (.inr (7, fr7)))
theorem va_at_q {D : va_G} {cl : List vw_C} {a n : Nat} {cA : ClassId} {f f' : Nat → Option Nat} {H : Heap} (e : ∀ i, i < n → f i = f' i) (h : va_at D cl (a, rar cA n f) H) : va_at D cl (a, rar cA n f') H := by
  have h1 : H[a]? = some (vp_cell cA (n, .inr (.inr (.inr (.inr f))))) := h
  show H[a]? = some (vp_cell cA (n, .inr (.inr (.inr (.inr f')))))
  rw [h1, vp_cell_q, vp_cell_q]
  congr 1
  unfold arrV
  congr 1
  congr 1
  funext j
  show va_rf (f j.val) = va_rf (f' j.val)
  rw [e j.val j.isLt]
def CellOk (B : Bx) (a o : Nat) : Prop := ∀ H, va_at B.1 vwCl (B.2.2 + pos o, finB B (pos o)) H → va_at B.1 vwCl (B.2.2 + pos o, acell (XB B a) u00 o) H
theorem CellOk.eq {B : Bx} {a o : Nat} (e : finB B (pos o) = acell (XB B a) u00 o) : CellOk B a o := fun H h => by rw [← e]; exact h
theorem fc_0 {B : Bx} {a : Nat} : CellOk B a 0 := CellOk.eq rfl
theorem fc_1 {B : Bx} {a : Nat} : CellOk B a 1 := fun H h => va_at_q (n := 4) (f := fun i => if i < 4 then some (B.2.2 + (4 + 2 * i)) else none) (fun i hi => by
  rcases (show i = 0 ∨ i = 1 ∨ i = 2 ∨ i = 3 by omega) with rfl | rfl | rfl | rfl <;> rfl) h
theorem fc_2 {B : Bx} {a : Nat} : CellOk B a 2 := CellOk.eq rfl
theorem fc_3 {B : Bx} {a : Nat} : CellOk B a 3 := CellOk.eq rfl
theorem fc_4 {B : Bx} {a : Nat} : CellOk B a 4 := CellOk.eq rfl
theorem fc_5 {B : Bx} {a : Nat} : CellOk B a 5 := CellOk.eq rfl
theorem fc_6 {B : Bx} {a : Nat} : CellOk B a 6 := CellOk.eq rfl
theorem fc_7 {B : Bx} {a : Nat} : CellOk B a 7 := CellOk.eq rfl
theorem fc_8 {B : Bx} {a : Nat} : CellOk B a 8 := CellOk.eq rfl
theorem fc_9 {B : Bx} {a : Nat} : CellOk B a 9 := CellOk.eq rfl
theorem fc_10 {B : Bx} {a : Nat} : CellOk B a 10 := CellOk.eq rfl
theorem fc_11 {B : Bx} {a : Nat} : CellOk B a 11 := CellOk.eq rfl
theorem fc_12 {B : Bx} {a : Nat} : CellOk B a 12 := fun H h => va_at_q (n := 4) (f := fun i => if i < 4 then some (B.2.2 + (28 + 2 * i)) else none) (fun i hi => by
  rcases (show i = 0 ∨ i = 1 ∨ i = 2 ∨ i = 3 by omega) with rfl | rfl | rfl | rfl <;> rfl) h
theorem fc_13 {B : Bx} {a : Nat} : CellOk B a 13 := CellOk.eq rfl
theorem fc_14 {B : Bx} {a : Nat} : CellOk B a 14 := CellOk.eq rfl
theorem fc_15 {B : Bx} {a : Nat} : CellOk B a 15 := CellOk.eq rfl
theorem fc_16 {B : Bx} {a : Nat} : CellOk B a 16 := CellOk.eq rfl
theorem fc_17 {B : Bx} {a : Nat} : CellOk B a 17 := CellOk.eq rfl
theorem fc_18 {B : Bx} {a : Nat} : CellOk B a 18 := CellOk.eq rfl
theorem fc_19 {B : Bx} {a : Nat} : CellOk B a 19 := CellOk.eq rfl
theorem fc_20 {B : Bx} {a : Nat} : CellOk B a 20 := CellOk.eq rfl
theorem fc_21 {B : Bx} {a : Nat} : CellOk B a 21 := CellOk.eq rfl
theorem fc_22 {B : Bx} {a : Nat} : CellOk B a 22 := CellOk.eq rfl
theorem fc_23 {B : Bx} {a : Nat} : CellOk B a 23 := fun H h => va_at_q (n := 4) (f := fun i => if i < 4 then some (B.2.2 + (39 + 2 * i)) else none) (fun i hi => by
  rcases (show i = 0 ∨ i = 1 ∨ i = 2 ∨ i = 3 by omega) with rfl | rfl | rfl | rfl <;> rfl) h
theorem fc_24 {B : Bx} {a : Nat} : CellOk B a 24 := CellOk.eq rfl
theorem fc_25 {B : Bx} {a : Nat} : CellOk B a 25 := CellOk.eq rfl
theorem fc_26 {B : Bx} {a : Nat} : CellOk B a 26 := CellOk.eq rfl
theorem fc_27 {B : Bx} {a : Nat} : CellOk B a 27 := CellOk.eq rfl
theorem fc_28 {B : Bx} {a : Nat} : CellOk B a 28 := CellOk.eq rfl
theorem fc_29 {B : Bx} {a : Nat} : CellOk B a 29 := CellOk.eq rfl
theorem fc_30 {B : Bx} {a : Nat} : CellOk B a 30 := CellOk.eq rfl
theorem fc_31 {B : Bx} {a : Nat} : CellOk B a 31 := CellOk.eq rfl
theorem fc_32 {B : Bx} {a : Nat} : CellOk B a 32 := CellOk.eq rfl
theorem fc_33 {B : Bx} {a : Nat} : CellOk B a 33 := CellOk.eq rfl
theorem fc_34 {B : Bx} {a : Nat} : CellOk B a 34 := fun H h => va_at_q (n := 4) (f := fun i => if i < 4 then some (B.2.2 + (50 + 2 * i)) else none) (fun i hi => by
  rcases (show i = 0 ∨ i = 1 ∨ i = 2 ∨ i = 3 by omega) with rfl | rfl | rfl | rfl <;> rfl) h
theorem fc_35 {B : Bx} {a : Nat} : CellOk B a 35 := CellOk.eq rfl
theorem fc_36 {B : Bx} {a : Nat} : CellOk B a 36 := CellOk.eq rfl
theorem fc_37 {B : Bx} {a : Nat} : CellOk B a 37 := CellOk.eq rfl
theorem fc_38 {B : Bx} {a : Nat} : CellOk B a 38 := CellOk.eq rfl
theorem fc_39 {B : Bx} {a : Nat} : CellOk B a 39 := CellOk.eq rfl
theorem fc_40 {B : Bx} {a : Nat} : CellOk B a 40 := CellOk.eq rfl
theorem fc_41 {B : Bx} {a : Nat} : CellOk B a 41 := CellOk.eq rfl
theorem fc_42 {B : Bx} {a : Nat} : CellOk B a 42 := CellOk.eq rfl
theorem fc_43 {B : Bx} {a : Nat} : CellOk B a 43 := CellOk.eq rfl
theorem fc_44 {B : Bx} {a : Nat} : CellOk B a 44 := CellOk.eq rfl
theorem fc_45 {B : Bx} {a : Nat} : CellOk B a 45 := fun H h => va_at_q (n := 4) (f := fun i => if i < 4 then some (B.2.2 + (61 + 2 * i)) else none) (fun i hi => by
  rcases (show i = 0 ∨ i = 1 ∨ i = 2 ∨ i = 3 by omega) with rfl | rfl | rfl | rfl <;> rfl) h
theorem fc_46 {B : Bx} {a : Nat} : CellOk B a 46 := CellOk.eq rfl
theorem fc_47 {B : Bx} {a : Nat} : CellOk B a 47 := CellOk.eq rfl
theorem fc_48 {B : Bx} {a : Nat} : CellOk B a 48 := CellOk.eq rfl
theorem fc_49 {B : Bx} {a : Nat} : CellOk B a 49 := CellOk.eq rfl
theorem fc_50 {B : Bx} {a : Nat} : CellOk B a 50 := CellOk.eq rfl
theorem fc_51 {B : Bx} {a : Nat} : CellOk B a 51 := CellOk.eq rfl
theorem fc_52 {B : Bx} {a : Nat} : CellOk B a 52 := CellOk.eq rfl
theorem fc_53 {B : Bx} {a : Nat} : CellOk B a 53 := CellOk.eq rfl
theorem fc_54 {B : Bx} {a : Nat} : CellOk B a 54 := CellOk.eq rfl
theorem fc_55 {B : Bx} {a : Nat} : CellOk B a 55 := CellOk.eq rfl
theorem fc_56 {B : Bx} {a : Nat} : CellOk B a 56 := fun H h => va_at_q (n := 4) (f := fun i => if i < 4 then some (B.2.2 + (72 + 2 * i)) else none) (fun i hi => by
  rcases (show i = 0 ∨ i = 1 ∨ i = 2 ∨ i = 3 by omega) with rfl | rfl | rfl | rfl <;> rfl) h
theorem fc_57 {B : Bx} {a : Nat} : CellOk B a 57 := CellOk.eq rfl
theorem fc_58 {B : Bx} {a : Nat} : CellOk B a 58 := CellOk.eq rfl
theorem fc_59 {B : Bx} {a : Nat} : CellOk B a 59 := CellOk.eq rfl
theorem fc_60 {B : Bx} {a : Nat} : CellOk B a 60 := CellOk.eq rfl
theorem fc_61 {B : Bx} {a : Nat} : CellOk B a 61 := CellOk.eq rfl
theorem fc_62 {B : Bx} {a : Nat} : CellOk B a 62 := CellOk.eq rfl
theorem fc_63 {B : Bx} {a : Nat} : CellOk B a 63 := CellOk.eq rfl
theorem fc_64 {B : Bx} {a : Nat} : CellOk B a 64 := CellOk.eq rfl
theorem fc_65 {B : Bx} {a : Nat} : CellOk B a 65 := CellOk.eq rfl
theorem fc_66 {B : Bx} {a : Nat} : CellOk B a 66 := CellOk.eq rfl
theorem fc_67 {B : Bx} {a : Nat} : CellOk B a 67 := fun H h => va_at_q (n := 4) (f := fun i => if i < 4 then some (B.2.2 + (83 + 2 * i)) else none) (fun i hi => by
  rcases (show i = 0 ∨ i = 1 ∨ i = 2 ∨ i = 3 by omega) with rfl | rfl | rfl | rfl <;> rfl) h
theorem fc_68 {B : Bx} {a : Nat} : CellOk B a 68 := CellOk.eq rfl
theorem fc_69 {B : Bx} {a : Nat} : CellOk B a 69 := CellOk.eq rfl
theorem fc_70 {B : Bx} {a : Nat} : CellOk B a 70 := CellOk.eq rfl
theorem fc_71 {B : Bx} {a : Nat} : CellOk B a 71 := CellOk.eq rfl
theorem fc_72 {B : Bx} {a : Nat} : CellOk B a 72 := CellOk.eq rfl
theorem fc_73 {B : Bx} {a : Nat} : CellOk B a 73 := CellOk.eq rfl
theorem fc_74 {B : Bx} {a : Nat} : CellOk B a 74 := CellOk.eq rfl
theorem fc_75 {B : Bx} {a : Nat} : CellOk B a 75 := CellOk.eq rfl
theorem fc_76 {B : Bx} {a : Nat} : CellOk B a 76 := CellOk.eq rfl
theorem fc_77 {B : Bx} {a : Nat} : CellOk B a 77 := CellOk.eq rfl
theorem fc_78 {B : Bx} {a : Nat} : CellOk B a 78 := CellOk.eq rfl
theorem fc_79 {B : Bx} {a : Nat} : CellOk B a 79 := CellOk.eq rfl
theorem fc_80 {B : Bx} {a : Nat} : CellOk B a 80 := CellOk.eq rfl
theorem fc_81 {B : Bx} {a : Nat} : CellOk B a 81 := CellOk.eq rfl
theorem fc_82 {B : Bx} {a : Nat} : CellOk B a 82 := CellOk.eq rfl
theorem fc_83 {B : Bx} {a : Nat} : CellOk B a 83 := CellOk.eq rfl
theorem fc_84 {B : Bx} {a : Nat} : CellOk B a 84 := CellOk.eq rfl
theorem fc_85 {B : Bx} {a : Nat} : CellOk B a 85 := CellOk.eq rfl
theorem fc_86 {B : Bx} {a : Nat} : CellOk B a 86 := CellOk.eq rfl
theorem fc_87 {B : Bx} {a : Nat} : CellOk B a 87 := CellOk.eq rfl
theorem fc_88 {B : Bx} {a : Nat} : CellOk B a 88 := CellOk.eq rfl
theorem fc_89 {B : Bx} {a : Nat} : CellOk B a 89 := CellOk.eq rfl
theorem fc_90 {B : Bx} {a : Nat} : CellOk B a 90 := fun H h => va_at_q (n := 6) (f := fun i => if i < 6 then some (B.2.2 + (25 + 11 * i)) else none) (fun i hi => by
  rcases (show i = 0 ∨ i = 1 ∨ i = 2 ∨ i = 3 ∨ i = 4 ∨ i = 5 by omega) with rfl | rfl | rfl | rfl | rfl | rfl <;> rfl) h
theorem fc_91 {B : Bx} {a : Nat} : CellOk B a 91 := CellOk.eq rfl
theorem fc_92 {B : Bx} {a : Nat} : CellOk B a 92 := CellOk.eq rfl
theorem fc_93 {B : Bx} {a : Nat} : CellOk B a 93 := CellOk.eq rfl
theorem fc_94 {B : Bx} {a : Nat} : CellOk B a 94 := CellOk.eq rfl
theorem fc_95 {B : Bx} {a : Nat} : CellOk B a 95 := CellOk.eq rfl
theorem fc_96 {B : Bx} {a : Nat} : CellOk B a 96 := CellOk.eq rfl
theorem fc_97 {B : Bx} {a : Nat} : CellOk B a 97 := CellOk.eq rfl
theorem fc_98 {B : Bx} {a : Nat} : CellOk B a 98 := CellOk.eq rfl
theorem fc_99 {B : Bx} {a : Nat} : CellOk B a 99 := CellOk.eq rfl
theorem fc_100 {B : Bx} {a : Nat} : CellOk B a 100 := CellOk.eq rfl
theorem fc_101 {B : Bx} {a : Nat} : CellOk B a 101 := CellOk.eq rfl
theorem fc_102 {B : Bx} {a : Nat} : CellOk B a 102 := CellOk.eq rfl
theorem fc_103 {B : Bx} {a : Nat} : CellOk B a 103 := CellOk.eq rfl
theorem fc_104 {B : Bx} {a : Nat} : CellOk B a 104 := CellOk.eq rfl
theorem fc_105 {B : Bx} {a : Nat} : CellOk B a 105 := CellOk.eq rfl
theorem fc_106 {B : Bx} {a : Nat} : CellOk B a 106 := CellOk.eq rfl
theorem cell_ok {B : Bx} {a : Nat} : ∀ o, o < 107 → CellOk B a o
  | 0, _ => fc_0
  | 1, _ => fc_1
  | 2, _ => fc_2
  | 3, _ => fc_3
  | 4, _ => fc_4
  | 5, _ => fc_5
  | 6, _ => fc_6
  | 7, _ => fc_7
  | 8, _ => fc_8
  | 9, _ => fc_9
  | 10, _ => fc_10
  | 11, _ => fc_11
  | 12, _ => fc_12
  | 13, _ => fc_13
  | 14, _ => fc_14
  | 15, _ => fc_15
  | 16, _ => fc_16
  | 17, _ => fc_17
  | 18, _ => fc_18
  | 19, _ => fc_19
  | 20, _ => fc_20
  | 21, _ => fc_21
  | 22, _ => fc_22
  | 23, _ => fc_23
  | 24, _ => fc_24
  | 25, _ => fc_25
  | 26, _ => fc_26
  | 27, _ => fc_27
  | 28, _ => fc_28
  | 29, _ => fc_29
  | 30, _ => fc_30
  | 31, _ => fc_31
  | 32, _ => fc_32
  | 33, _ => fc_33
  | 34, _ => fc_34
  | 35, _ => fc_35
  | 36, _ => fc_36
  | 37, _ => fc_37
  | 38, _ => fc_38
  | 39, _ => fc_39
  | 40, _ => fc_40
  | 41, _ => fc_41
  | 42, _ => fc_42
  | 43, _ => fc_43
  | 44, _ => fc_44
  | 45, _ => fc_45
  | 46, _ => fc_46
  | 47, _ => fc_47
  | 48, _ => fc_48
  | 49, _ => fc_49
  | 50, _ => fc_50
  | 51, _ => fc_51
  | 52, _ => fc_52
  | 53, _ => fc_53
  | 54, _ => fc_54
  | 55, _ => fc_55
  | 56, _ => fc_56
  | 57, _ => fc_57
  | 58, _ => fc_58
  | 59, _ => fc_59
  | 60, _ => fc_60
  | 61, _ => fc_61
  | 62, _ => fc_62
  | 63, _ => fc_63
  | 64, _ => fc_64
  | 65, _ => fc_65
  | 66, _ => fc_66
  | 67, _ => fc_67
  | 68, _ => fc_68
  | 69, _ => fc_69
  | 70, _ => fc_70
  | 71, _ => fc_71
  | 72, _ => fc_72
  | 73, _ => fc_73
  | 74, _ => fc_74
  | 75, _ => fc_75
  | 76, _ => fc_76
  | 77, _ => fc_77
  | 78, _ => fc_78
  | 79, _ => fc_79
  | 80, _ => fc_80
  | 81, _ => fc_81
  | 82, _ => fc_82
  | 83, _ => fc_83
  | 84, _ => fc_84
  | 85, _ => fc_85
  | 86, _ => fc_86
  | 87, _ => fc_87
  | 88, _ => fc_88
  | 89, _ => fc_89
  | 90, _ => fc_90
  | 91, _ => fc_91
  | 92, _ => fc_92
  | 93, _ => fc_93
  | 94, _ => fc_94
  | 95, _ => fc_95
  | 96, _ => fc_96
  | 97, _ => fc_97
  | 98, _ => fc_98
  | 99, _ => fc_99
  | 100, _ => fc_100
  | 101, _ => fc_101
  | 102, _ => fc_102
  | 103, _ => fc_103
  | 104, _ => fc_104
  | 105, _ => fc_105
  | 106, _ => fc_106
  | n + 107, h => absurd h (by omega)
theorem pos_lt : ∀ o, o < 107 → pos o < 107 := by decide
theorem pos_inj : ∀ a, a < 107 → ∀ b, b < 107 → pos a = pos b → a = b := by decide +kernel
theorem PW_of {B : Bx} {a w : Nat} {H : Heap} (h : PB B 107 (finB B) H) : PW w (XB B a) u00 H := by
  intro k q hk
  simp only [acells, List.getElem?_map, Option.map_eq_some_iff] at hk
  obtain ⟨o, ho, rfl⟩ := hk
  have hlt := aol_lt (List.mem_of_getElem? ho)
  exact cell_ok o hlt H (h.2 (pos o) (pos_lt o hlt))
theorem Rel_00 : Rel u00 u00 := ⟨fun _ => 0, 0, 0, fun _ _ => 0, 0, fun _ => 0, ⟨Nat.zero_le _, (by decide : 0 < 16), Nat.zero_le _, fun j hj => absurd hj (Nat.not_lt_zero _), fun c hc => absurd hc (Nat.not_lt_zero _)⟩, fun i hi => absurd hi (Nat.not_lt_zero _), Nat.zero_le _, (by decide : 0 < 6), Nat.zero_le _, fun j hj => absurd hj (Nat.not_lt_zero _), ⟨rfl, rfl, rfl, fun j hj => absurd hj (Nat.not_lt_zero _), fun c hc => absurd hc (Nat.not_lt_zero _), rfl, rfl⟩, ⟨rfl, rfl, fun i hi => absurd hi (Nat.not_lt_zero _)⟩, ⟨rfl, fun j hj => absurd hj (Nat.not_lt_zero _)⟩, fun k hk => rfl, ⟨rfl, fun i hi => absurd hi (Nat.not_lt_zero _)⟩, ⟨rfl, fun j hj => absurd hj (Nat.not_lt_zero _)⟩, ⟨rfl, rfl, rfl⟩⟩
