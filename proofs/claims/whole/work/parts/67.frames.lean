/-! what the model leaves alone -/
def Inv {α : Type} (Φ : ASt → Prop) (x : Option (α × ASt)) : Prop := ∀ r w, x = some (r, w) → Φ w
def Alw (o k : Nat) : Prop := o ≠ 105 ∧ o ≠ 106 ∧ (o = 95 → k < 13)
def Stb (Φ : ASt → Prop) : Prop := ∀ u o k x, Alw o k → Φ u → Φ (apt u o k x)
theorem I_some {α : Type} {Φ : ASt → Prop} {r : α} {u : ASt} (h : Φ u) : Inv Φ (some (r, u)) := fun _ _ e => by cases e; exact h
theorem I_none {α : Type} {Φ : ASt → Prop} : Inv Φ (none : Option (α × ASt)) := fun _ _ e => by cases e
theorem I_bnd {α γ : Type} {Φ : ASt → Prop} {x : Option (α × ASt)} {k : α → ASt → Option (γ × ASt)} (h : Inv Φ x) (g : ∀ r u, Φ u → Inv Φ (k r u)) : Inv Φ (bnd x k) := by
  cases x with
  | none => exact fun _ _ e => by cases e
  | some p => exact g p.1 p.2 (h p.1 p.2 rfl)
theorem I_lte {α γ : Type} {Φ : ASt → Prop} {x : α} {k : α → Option (γ × ASt)} (h : Inv Φ (k x)) : Inv Φ (lte x k) := h
theorem I_chk {γ : Type} {Φ : ASt → Prop} {Q : Prop} {x : Option (γ × ASt)} (h : Inv Φ x) : Inv Φ (chk Q x) := by
  by_cases q : Q
  · rw [chk_t q]; exact h
  · rw [show chk Q x = none from if_neg q]; exact I_none
theorem I_ite {γ : Type} {Φ : ASt → Prop} {Q : Prop} {d : Decidable Q} {a b : Option (γ × ASt)} (h1 : Inv Φ a) (h2 : Inv Φ b) : Inv Φ (@ite _ Q d a b) := by
  by_cases q : Q
  · rw [if_pos q]; exact h1
  · rw [if_neg q]; exact h2
theorem Alw_o {o k : Nat} (ho : o = 103 ∨ o = 104) : Alw o k := ⟨by omega, by omega, fun h => by omega⟩
theorem i_X7_bad {Φ : ASt → Prop} (St : Stb Φ) {N : Nat} {u : ASt} (h : Φ u) : Inv Φ (f_X7_bad N 95 u) := by
  unfold f_X7_bad
  repeat' (first | (with_reducible first | assumption | refine I_chk ?_ | refine I_ite ?_ ?_ | refine I_lte ?_ | refine I_some ?_ | refine I_bnd ?_ (fun _ _ _ => ?_)) | refine St _ _ _ _ (by first | exact ⟨by decide, by decide, fun _ => by decide⟩ | exact ⟨by decide, by decide, fun hh => absurd hh (by decide)⟩ | exact Alw_o (by assumption)) ?_)
theorem i_X7_no {Φ : ASt → Prop} (St : Stb Φ) {N : Nat} {u : ASt} (h : Φ u) : Inv Φ (f_X7_no N 95 u) := by
  unfold f_X7_no
  repeat' (first | (with_reducible first | assumption | refine I_chk ?_ | refine I_ite ?_ ?_ | refine I_lte ?_ | refine I_some ?_ | refine I_bnd ?_ (fun _ _ _ => ?_)) | refine St _ _ _ _ (by first | exact ⟨by decide, by decide, fun _ => by decide⟩ | exact ⟨by decide, by decide, fun hh => absurd hh (by decide)⟩ | exact Alw_o (by assumption)) ?_)
theorem i_X7_full {Φ : ASt → Prop} (St : Stb Φ) {N : Nat} {u : ASt} (h : Φ u) : Inv Φ (f_X7_full N 95 u) := by
  unfold f_X7_full
  repeat' (first | (with_reducible first | assumption | refine I_chk ?_ | refine I_ite ?_ ?_ | refine I_lte ?_ | refine I_some ?_ | refine I_bnd ?_ (fun _ _ _ => ?_)) | refine St _ _ _ _ (by first | exact ⟨by decide, by decide, fun _ => by decide⟩ | exact ⟨by decide, by decide, fun hh => absurd hh (by decide)⟩ | exact Alw_o (by assumption)) ?_)
theorem i_X7_within_14 {Φ : ASt → Prop} (St : Stb Φ) {N : Nat} {p1 : Int32} {p2 : Int32} {p3 : Int32} {u : ASt} (h : Φ u) : Inv Φ (f_X7_within_14 N p1 p2 p3 u) := by
  unfold f_X7_within_14
  repeat' (first | (with_reducible first | assumption | refine I_chk ?_ | refine I_ite ?_ ?_ | refine I_lte ?_ | refine I_some ?_ | refine I_bnd ?_ (fun _ _ _ => ?_)) | refine St _ _ _ _ (by first | exact ⟨by decide, by decide, fun _ => by decide⟩ | exact ⟨by decide, by decide, fun hh => absurd hh (by decide)⟩ | exact Alw_o (by assumption)) ?_)
theorem i_X7_within {Φ : ASt → Prop} (St : Stb Φ) {N : Nat} {p1 : Int32} {p2 : Int32} {p3 : Int32} {u : ASt} (h : Φ u) : Inv Φ (f_X7_within N p1 p2 p3 u) := by
  unfold f_X7_within
  repeat' (first | (with_reducible first | assumption | refine I_chk ?_ | refine I_ite ?_ ?_ | refine I_lte ?_ | refine I_some ?_ | refine i_X7_within_14 St ?_ | refine I_bnd ?_ (fun _ _ _ => ?_)) | refine St _ _ _ _ (by first | exact ⟨by decide, by decide, fun _ => by decide⟩ | exact ⟨by decide, by decide, fun hh => absurd hh (by decide)⟩ | exact Alw_o (by assumption)) ?_)
theorem i_X7_isBit_9 {Φ : ASt → Prop} (St : Stb Φ) {N : Nat} {p1 : Int32} {u : ASt} (h : Φ u) : Inv Φ (f_X7_isBit_9 N p1 u) := by
  unfold f_X7_isBit_9
  repeat' (first | (with_reducible first | assumption | refine I_chk ?_ | refine I_ite ?_ ?_ | refine I_lte ?_ | refine I_some ?_ | refine I_bnd ?_ (fun _ _ _ => ?_)) | refine St _ _ _ _ (by first | exact ⟨by decide, by decide, fun _ => by decide⟩ | exact ⟨by decide, by decide, fun hh => absurd hh (by decide)⟩ | exact Alw_o (by assumption)) ?_)
theorem i_X7_isBit {Φ : ASt → Prop} (St : Stb Φ) {N : Nat} {p1 : Int32} {u : ASt} (h : Φ u) : Inv Φ (f_X7_isBit N p1 u) := by
  unfold f_X7_isBit
  repeat' (first | (with_reducible first | assumption | refine I_chk ?_ | refine I_ite ?_ ?_ | refine I_lte ?_ | refine I_some ?_ | refine i_X7_isBit_9 St ?_ | refine I_bnd ?_ (fun _ _ _ => ?_)) | refine St _ _ _ _ (by first | exact ⟨by decide, by decide, fun _ => by decide⟩ | exact ⟨by decide, by decide, fun hh => absurd hh (by decide)⟩ | exact Alw_o (by assumption)) ?_)
theorem i_X7_has {Φ : ASt → Prop} (St : Stb Φ) {N : Nat} {p1 : Int32} {p2 : Int32} {u : ASt} (h : Φ u) : Inv Φ (f_X7_has N p1 p2 u) := by
  unfold f_X7_has
  repeat' (first | (with_reducible first | assumption | refine I_chk ?_ | refine I_ite ?_ ?_ | refine I_lte ?_ | refine I_some ?_ | refine I_bnd ?_ (fun _ _ _ => ?_)) | refine St _ _ _ _ (by first | exact ⟨by decide, by decide, fun _ => by decide⟩ | exact ⟨by decide, by decide, fun hh => absurd hh (by decide)⟩ | exact Alw_o (by assumption)) ?_)
theorem i_X7_chips {Φ : ASt → Prop} (St : Stb Φ) {N : Nat} {u : ASt} (h : Φ u) : Inv Φ (f_X7_chips N 95 u) := by
  unfold f_X7_chips
  repeat' (first | (with_reducible first | assumption | refine I_chk ?_ | refine I_ite ?_ ?_ | refine I_lte ?_ | refine I_some ?_ | refine I_bnd ?_ (fun _ _ _ => ?_)) | refine St _ _ _ _ (by first | exact ⟨by decide, by decide, fun _ => by decide⟩ | exact ⟨by decide, by decide, fun hh => absurd hh (by decide)⟩ | exact Alw_o (by assumption)) ?_)
theorem i_X7_isChip {Φ : ASt → Prop} (St : Stb Φ) {N : Nat} {p1 : Int32} {u : ASt} (h : Φ u) : Inv Φ (f_X7_isChip N 95 p1 u) := by
  unfold f_X7_isChip
  repeat' (first | (with_reducible first | assumption | refine I_chk ?_ | refine I_ite ?_ ?_ | refine I_lte ?_ | refine I_some ?_ | refine i_X7_within St ?_ | refine I_bnd ?_ (fun _ _ _ => ?_)) | refine St _ _ _ _ (by first | exact ⟨by decide, by decide, fun _ => by decide⟩ | exact ⟨by decide, by decide, fun hh => absurd hh (by decide)⟩ | exact Alw_o (by assumption)) ?_)
theorem i_X7_at {Φ : ASt → Prop} (St : Stb Φ) {N : Nat} {p1 : Int32} {p2 : Int32} {u : ASt} (h : Φ u) : Inv Φ (f_X7_at N p1 p2 u) := by
  unfold f_X7_at
  repeat' (first | (with_reducible first | assumption | refine I_chk ?_ | refine I_ite ?_ ?_ | refine I_lte ?_ | refine I_some ?_ | refine I_bnd ?_ (fun _ _ _ => ?_)) | refine St _ _ _ _ (by first | exact ⟨by decide, by decide, fun _ => by decide⟩ | exact ⟨by decide, by decide, fun hh => absurd hh (by decide)⟩ | exact Alw_o (by assumption)) ?_)
theorem i_X7_get {Φ : ASt → Prop} (St : Stb Φ) {N : Nat} {p1 : Int32} {p2 : Int32} {u : ASt} (h : Φ u) : Inv Φ (f_X7_get N 95 p1 p2 u) := by
  unfold f_X7_get
  repeat' (first | (with_reducible first | assumption | refine I_chk ?_ | refine I_ite ?_ ?_ | refine I_lte ?_ | refine I_some ?_ | refine i_X7_at St ?_ | refine I_bnd ?_ (fun _ _ _ => ?_)) | refine St _ _ _ _ (by first | exact ⟨by decide, by decide, fun _ => by decide⟩ | exact ⟨by decide, by decide, fun hh => absurd hh (by decide)⟩ | exact Alw_o (by assumption)) ?_)
theorem i_X7_isCell_28 {Φ : ASt → Prop} (St : Stb Φ) {N : Nat} {p1 : Int32} {p2 : Int32} {u : ASt} (h : Φ u) : Inv Φ (f_X7_isCell_28 N 95 p1 p2 u) := by
  unfold f_X7_isCell_28
  repeat' (first | (with_reducible first | assumption | refine I_chk ?_ | refine I_ite ?_ ?_ | refine I_lte ?_ | refine I_some ?_ | refine I_bnd ?_ (fun _ _ _ => ?_)) | refine St _ _ _ _ (by first | exact ⟨by decide, by decide, fun _ => by decide⟩ | exact ⟨by decide, by decide, fun hh => absurd hh (by decide)⟩ | exact Alw_o (by assumption)) ?_)
theorem i_X7_isCell {Φ : ASt → Prop} (St : Stb Φ) {N : Nat} {p1 : Int32} {p2 : Int32} {u : ASt} (h : Φ u) : Inv Φ (f_X7_isCell N 95 p1 p2 u) := by
  unfold f_X7_isCell
  repeat' (first | (with_reducible first | assumption | refine I_chk ?_ | refine I_ite ?_ ?_ | refine I_lte ?_ | refine I_some ?_ | refine i_X7_isChip St ?_ | refine i_X7_isCell_28 St ?_ | refine i_X7_get St ?_ | refine i_X7_within St ?_ | refine I_bnd ?_ (fun _ _ _ => ?_)) | refine St _ _ _ _ (by first | exact ⟨by decide, by decide, fun _ => by decide⟩ | exact ⟨by decide, by decide, fun hh => absurd hh (by decide)⟩ | exact Alw_o (by assumption)) ?_)
theorem i_X7_isOut {Φ : ASt → Prop} (St : Stb Φ) {N : Nat} {p1 : Int32} {p2 : Int32} {u : ASt} (h : Φ u) : Inv Φ (f_X7_isOut N 95 p1 p2 u) := by
  unfold f_X7_isOut
  repeat' (first | (with_reducible first | assumption | refine I_chk ?_ | refine I_ite ?_ ?_ | refine I_lte ?_ | refine I_some ?_ | refine i_X7_get St ?_ | refine I_bnd ?_ (fun _ _ _ => ?_)) | refine St _ _ _ _ (by first | exact ⟨by decide, by decide, fun _ => by decide⟩ | exact ⟨by decide, by decide, fun hh => absurd hh (by decide)⟩ | exact Alw_o (by assumption)) ?_)
theorem i_X7_netOf {Φ : ASt → Prop} (St : Stb Φ) {N : Nat} {p1 : Int32} {p2 : Int32} {u : ASt} (h : Φ u) : Inv Φ (f_X7_netOf N 95 p1 p2 u) := by
  unfold f_X7_netOf
  repeat' (first | (with_reducible first | assumption | refine I_chk ?_ | refine I_ite ?_ ?_ | refine I_lte ?_ | refine I_some ?_ | refine i_X7_get St ?_ | refine I_bnd ?_ (fun _ _ _ => ?_)) | refine St _ _ _ _ (by first | exact ⟨by decide, by decide, fun _ => by decide⟩ | exact ⟨by decide, by decide, fun hh => absurd hh (by decide)⟩ | exact Alw_o (by assumption)) ?_)
theorem i_X7_isNet {Φ : ASt → Prop} (St : Stb Φ) {N : Nat} {p1 : Int32} {u : ASt} (h : Φ u) : Inv Φ (f_X7_isNet N p1 u) := by
  unfold f_X7_isNet
  repeat' (first | (with_reducible first | assumption | refine I_chk ?_ | refine I_ite ?_ ?_ | refine I_lte ?_ | refine I_some ?_ | refine i_X7_within St ?_ | refine I_bnd ?_ (fun _ _ _ => ?_)) | refine St _ _ _ _ (by first | exact ⟨by decide, by decide, fun _ => by decide⟩ | exact ⟨by decide, by decide, fun hh => absurd hh (by decide)⟩ | exact Alw_o (by assumption)) ?_)
theorem i_X7_laysAside_2 {Φ : ASt → Prop} (St : Stb Φ) {N : Nat} : ∀ (n : Nat) (q0 : Int32) (u : ASt), Φ u → Inv Φ (f_X7_laysAside_2 N 95 n q0 u) := by
  intro n
  induction n with
  | zero => intros; exact I_none
  | succ n ih =>
    intro q0 u h
    rw [f_X7_laysAside_2]
    repeat' (first | (with_reducible first | assumption | refine I_chk ?_ | refine I_ite ?_ ?_ | refine I_lte ?_ | refine I_some ?_ | refine ih _ _ ?_ | refine I_bnd ?_ (fun _ _ _ => ?_)) | refine St _ _ _ _ (by first | exact ⟨by decide, by decide, fun _ => by decide⟩ | exact ⟨by decide, by decide, fun hh => absurd hh (by decide)⟩ | exact Alw_o (by assumption)) ?_)
theorem i_X7_laysAside {Φ : ASt → Prop} (St : Stb Φ) {N : Nat} {u : ASt} (h : Φ u) : Inv Φ (f_X7_laysAside N 95 u) := by
  unfold f_X7_laysAside
  repeat' (first | (with_reducible first | assumption | refine I_chk ?_ | refine I_ite ?_ ?_ | refine I_lte ?_ | refine I_some ?_ | refine i_X7_laysAside_2 St _ _ _ ?_ | refine I_bnd ?_ (fun _ _ _ => ?_)) | refine St _ _ _ _ (by first | exact ⟨by decide, by decide, fun _ => by decide⟩ | exact ⟨by decide, by decide, fun hh => absurd hh (by decide)⟩ | exact Alw_o (by assumption)) ?_)
theorem i_X7_leaves_50 {Φ : ASt → Prop} (St : Stb Φ) {N : Nat} : ∀ (n : Nat) (q0 : Int32) (u : ASt), Φ u → Inv Φ (f_X7_leaves_50 N 95 n q0 u) := by
  intro n
  induction n with
  | zero => intros; exact I_none
  | succ n ih =>
    intro q0 u h
    rw [f_X7_leaves_50]
    repeat' (first | (with_reducible first | assumption | refine I_chk ?_ | refine I_ite ?_ ?_ | refine I_lte ?_ | refine I_some ?_ | refine ih _ _ ?_ | refine I_bnd ?_ (fun _ _ _ => ?_)) | refine St _ _ _ _ (by first | exact ⟨by decide, by decide, fun _ => by decide⟩ | exact ⟨by decide, by decide, fun hh => absurd hh (by decide)⟩ | exact Alw_o (by assumption)) ?_)
theorem i_X7_leaves_48 {Φ : ASt → Prop} (St : Stb Φ) {N : Nat} {u : ASt} (h : Φ u) : Inv Φ (f_X7_leaves_48 N 95 u) := by
  unfold f_X7_leaves_48
  repeat' (first | (with_reducible first | assumption | refine I_chk ?_ | refine I_ite ?_ ?_ | refine I_lte ?_ | refine I_some ?_ | refine i_X7_leaves_50 St _ _ _ ?_ | refine I_bnd ?_ (fun _ _ _ => ?_)) | refine St _ _ _ _ (by first | exact ⟨by decide, by decide, fun _ => by decide⟩ | exact ⟨by decide, by decide, fun hh => absurd hh (by decide)⟩ | exact Alw_o (by assumption)) ?_)
theorem i_X7_leaves_10 {Φ : ASt → Prop} (St : Stb Φ) {N : Nat} : ∀ (n : Nat) (q0 : Int32) (u : ASt), Φ u → Inv Φ (f_X7_leaves_10 N 95 n q0 u) := by
  intro n
  induction n with
  | zero => intros; exact I_none
  | succ n ih =>
    intro q0 u h
    rw [f_X7_leaves_10]
    repeat' (first | (with_reducible first | assumption | refine I_chk ?_ | refine I_ite ?_ ?_ | refine I_lte ?_ | refine I_some ?_ | refine i_X7_leaves_48 St ?_ | refine ih _ _ ?_ | refine I_bnd ?_ (fun _ _ _ => ?_)) | refine St _ _ _ _ (by first | exact ⟨by decide, by decide, fun _ => by decide⟩ | exact ⟨by decide, by decide, fun hh => absurd hh (by decide)⟩ | exact Alw_o (by assumption)) ?_)
theorem i_X7_leaves {Φ : ASt → Prop} (St : Stb Φ) {N : Nat} {u : ASt} (h : Φ u) : Inv Φ (f_X7_leaves N 95 u) := by
  unfold f_X7_leaves
  repeat' (first | (with_reducible first | assumption | refine I_chk ?_ | refine I_ite ?_ ?_ | refine I_lte ?_ | refine I_some ?_ | refine i_X7_leaves_10 St _ _ _ ?_ | refine i_X7_leaves_48 St ?_ | refine I_bnd ?_ (fun _ _ _ => ?_)) | refine St _ _ _ _ (by first | exact ⟨by decide, by decide, fun _ => by decide⟩ | exact ⟨by decide, by decide, fun hh => absurd hh (by decide)⟩ | exact Alw_o (by assumption)) ?_)
theorem i_X7_back_24 {Φ : ASt → Prop} (St : Stb Φ) {N : Nat} : ∀ (n : Nat) (q0 : Int32) (u : ASt), Φ u → Inv Φ (f_X7_back_24 N 95 n q0 u) := by
  intro n
  induction n with
  | zero => intros; exact I_none
  | succ n ih =>
    intro q0 u h
    rw [f_X7_back_24]
    repeat' (first | (with_reducible first | assumption | refine I_chk ?_ | refine I_ite ?_ ?_ | refine I_lte ?_ | refine I_some ?_ | refine ih _ _ ?_ | refine I_bnd ?_ (fun _ _ _ => ?_)) | refine St _ _ _ _ (by first | exact ⟨by decide, by decide, fun _ => by decide⟩ | exact ⟨by decide, by decide, fun hh => absurd hh (by decide)⟩ | exact Alw_o (by assumption)) ?_)
theorem i_X7_back {Φ : ASt → Prop} (St : Stb Φ) {N : Nat} {u : ASt} (h : Φ u) : Inv Φ (f_X7_back N 95 u) := by
  unfold f_X7_back
  repeat' (first | (with_reducible first | assumption | refine I_chk ?_ | refine I_ite ?_ ?_ | refine I_lte ?_ | refine I_some ?_ | refine i_X7_no St ?_ | refine i_X7_back_24 St _ _ _ ?_ | refine I_bnd ?_ (fun _ _ _ => ?_)) | refine St _ _ _ _ (by first | exact ⟨by decide, by decide, fun _ => by decide⟩ | exact ⟨by decide, by decide, fun hh => absurd hh (by decide)⟩ | exact Alw_o (by assumption)) ?_)
theorem i_X7_ends {Φ : ASt → Prop} (St : Stb Φ) {N : Nat} {p1 : Int32} {u : ASt} (h : Φ u) : Inv Φ (f_X7_ends N 95 p1 u) := by
  unfold f_X7_ends
  repeat' (first | (with_reducible first | assumption | refine I_chk ?_ | refine I_ite ?_ ?_ | refine I_lte ?_ | refine I_some ?_ | refine i_X7_full St ?_ | refine i_X7_bad St ?_ | refine i_X7_leaves St ?_ | refine I_bnd ?_ (fun _ _ _ => ?_)) | refine St _ _ _ _ (by first | exact ⟨by decide, by decide, fun _ => by decide⟩ | exact ⟨by decide, by decide, fun hh => absurd hh (by decide)⟩ | exact Alw_o (by assumption)) ?_)
theorem i_X7_firstOf {Φ : ASt → Prop} (St : Stb Φ) {N : Nat} {p1 : Int32} {u : ASt} (h : Φ u) : Inv Φ (f_X7_firstOf N 95 p1 u) := by
  unfold f_X7_firstOf
  repeat' (first | (with_reducible first | assumption | refine I_chk ?_ | refine I_ite ?_ ?_ | refine I_lte ?_ | refine I_some ?_ | refine i_X7_get St ?_ | refine I_bnd ?_ (fun _ _ _ => ?_)) | refine St _ _ _ _ (by first | exact ⟨by decide, by decide, fun _ => by decide⟩ | exact ⟨by decide, by decide, fun hh => absurd hh (by decide)⟩ | exact Alw_o (by assumption)) ?_)
theorem i_X7_addsChip_46 {Φ : ASt → Prop} (St : Stb Φ) {N : Nat} {p1 : Int32} {p2 : Int32} : ∀ (n : Nat) (q0 : Int32) (q1 : Int32) (u : ASt), Φ u → Inv Φ (f_X7_addsChip_46 N 95 p1 p2 n q0 q1 u) := by
  intro n
  induction n with
  | zero => intros; exact I_none
  | succ n ih =>
    intro q0 q1 u h
    rw [f_X7_addsChip_46]
    repeat' (first | (with_reducible first | assumption | refine I_chk ?_ | refine I_ite ?_ ?_ | refine I_lte ?_ | refine I_some ?_ | refine i_X7_at St ?_ | refine i_X7_firstOf St ?_ | refine ih _ _ _ ?_ | refine I_bnd ?_ (fun _ _ _ => ?_)) | refine St _ _ _ _ (by first | exact ⟨by decide, by decide, fun _ => by decide⟩ | exact ⟨by decide, by decide, fun hh => absurd hh (by decide)⟩ | exact Alw_o (by assumption)) ?_)
theorem i_X7_addsChip_20 {Φ : ASt → Prop} (St : Stb Φ) {N : Nat} {p1 : Int32} {p2 : Int32} {u : ASt} (h : Φ u) : Inv Φ (f_X7_addsChip_20 N 95 p1 p2 u) := by
  unfold f_X7_addsChip_20
  repeat' (first | (with_reducible first | assumption | refine I_chk ?_ | refine I_ite ?_ ?_ | refine I_lte ?_ | refine I_some ?_ | refine I_bnd ?_ (fun _ _ _ => ?_)) | refine St _ _ _ _ (by first | exact ⟨by decide, by decide, fun _ => by decide⟩ | exact ⟨by decide, by decide, fun hh => absurd hh (by decide)⟩ | exact Alw_o (by assumption)) ?_)
theorem i_X7_addsChip {Φ : ASt → Prop} (St : Stb Φ) {N : Nat} {p1 : Int32} {p2 : Int32} {u : ASt} (h : Φ u) : Inv Φ (f_X7_addsChip N 95 p1 p2 u) := by
  unfold f_X7_addsChip
  repeat' (first | (with_reducible first | assumption | refine I_chk ?_ | refine I_ite ?_ ?_ | refine I_lte ?_ | refine I_some ?_ | refine i_X7_within St ?_ | refine i_X7_addsChip_20 St ?_ | refine i_X7_addsChip_46 St _ _ _ _ ?_ | refine I_bnd ?_ (fun _ _ _ => ?_)) | refine St _ _ _ _ (by first | exact ⟨by decide, by decide, fun _ => by decide⟩ | exact ⟨by decide, by decide, fun hh => absurd hh (by decide)⟩ | exact Alw_o (by assumption)) ?_)
theorem i_X7_addsCell_22 {Φ : ASt → Prop} (St : Stb Φ) {N : Nat} {p1 : Int32} {p2 : Int32} {p3 : Int32} {u : ASt} (h : Φ u) : Inv Φ (f_X7_addsCell_22 N 95 p1 p2 p3 u) := by
  unfold f_X7_addsCell_22
  repeat' (first | (with_reducible first | assumption | refine I_chk ?_ | refine I_ite ?_ ?_ | refine I_lte ?_ | refine I_some ?_ | refine I_bnd ?_ (fun _ _ _ => ?_)) | refine St _ _ _ _ (by first | exact ⟨by decide, by decide, fun _ => by decide⟩ | exact ⟨by decide, by decide, fun hh => absurd hh (by decide)⟩ | exact Alw_o (by assumption)) ?_)
theorem i_X7_addsCell {Φ : ASt → Prop} (St : Stb Φ) {N : Nat} {p1 : Int32} {p2 : Int32} {p3 : Int32} {u : ASt} (h : Φ u) : Inv Φ (f_X7_addsCell N 95 p1 p2 p3 u) := by
  unfold f_X7_addsCell
  repeat' (first | (with_reducible first | assumption | refine I_chk ?_ | refine I_ite ?_ ?_ | refine I_lte ?_ | refine I_some ?_ | refine i_X7_isChip St ?_ | refine i_X7_addsCell_22 St ?_ | refine i_X7_isBit St ?_ | refine i_X7_isNet St ?_ | refine i_X7_get St ?_ | refine i_X7_at St ?_ | refine I_bnd ?_ (fun _ _ _ => ?_)) | refine St _ _ _ _ (by first | exact ⟨by decide, by decide, fun _ => by decide⟩ | exact ⟨by decide, by decide, fun hh => absurd hh (by decide)⟩ | exact Alw_o (by assumption)) ?_)
theorem i_X7_addsFault {Φ : ASt → Prop} (St : Stb Φ) {N : Nat} {p1 : Int32} {p2 : Int32} {u : ASt} (h : Φ u) : Inv Φ (f_X7_addsFault N 95 p1 p2 u) := by
  unfold f_X7_addsFault
  repeat' (first | (with_reducible first | assumption | refine I_chk ?_ | refine I_ite ?_ ?_ | refine I_lte ?_ | refine I_some ?_ | refine I_bnd ?_ (fun _ _ _ => ?_)) | refine St _ _ _ _ (by first | exact ⟨by decide, by decide, fun _ => by decide⟩ | exact ⟨by decide, by decide, fun hh => absurd hh (by decide)⟩ | exact Alw_o (by assumption)) ?_)
theorem i_X7_opensOne {Φ : ASt → Prop} (St : Stb Φ) {N : Nat} {p1 : Int32} {p2 : Int32} {u : ASt} (h : Φ u) : Inv Φ (f_X7_opensOne N 95 p1 p2 u) := by
  unfold f_X7_opensOne
  repeat' (first | (with_reducible first | assumption | refine I_chk ?_ | refine I_ite ?_ ?_ | refine I_lte ?_ | refine I_some ?_ | refine i_X7_isCell St ?_ | refine i_X7_addsFault St ?_ | refine I_bnd ?_ (fun _ _ _ => ?_)) | refine St _ _ _ _ (by first | exact ⟨by decide, by decide, fun _ => by decide⟩ | exact ⟨by decide, by decide, fun hh => absurd hh (by decide)⟩ | exact Alw_o (by assumption)) ?_)
theorem i_X7_sticksOne_20 {Φ : ASt → Prop} (St : Stb Φ) {N : Nat} {p1 : Int32} {p2 : Int32} {y1 : Int32} {u : ASt} (h : Φ u) : Inv Φ (f_X7_sticksOne_20 N 95 p1 p2 95 y1 u) := by
  unfold f_X7_sticksOne_20
  repeat' (first | (with_reducible first | assumption | refine I_chk ?_ | refine I_ite ?_ ?_ | refine I_lte ?_ | refine I_some ?_ | refine i_X7_addsFault St ?_ | refine I_bnd ?_ (fun _ _ _ => ?_)) | refine St _ _ _ _ (by first | exact ⟨by decide, by decide, fun _ => by decide⟩ | exact ⟨by decide, by decide, fun hh => absurd hh (by decide)⟩ | exact Alw_o (by assumption)) ?_)
theorem i_X7_sticksOne_19 {Φ : ASt → Prop} (St : Stb Φ) {N : Nat} {p1 : Int32} {p2 : Int32} {u : ASt} (h : Φ u) : Inv Φ (f_X7_sticksOne_19 N 95 p1 p2 95 u) := by
  unfold f_X7_sticksOne_19
  repeat' (first | (with_reducible first | assumption | refine I_chk ?_ | refine I_ite ?_ ?_ | refine I_lte ?_ | refine I_some ?_ | refine i_X7_sticksOne_20 St ?_ | refine I_bnd ?_ (fun _ _ _ => ?_)) | refine St _ _ _ _ (by first | exact ⟨by decide, by decide, fun _ => by decide⟩ | exact ⟨by decide, by decide, fun hh => absurd hh (by decide)⟩ | exact Alw_o (by assumption)) ?_)
theorem i_X7_sticksOne {Φ : ASt → Prop} (St : Stb Φ) {N : Nat} {p1 : Int32} {p2 : Int32} {u : ASt} (h : Φ u) : Inv Φ (f_X7_sticksOne N 95 p1 p2 u) := by
  unfold f_X7_sticksOne
  repeat' (first | (with_reducible first | assumption | refine I_chk ?_ | refine I_ite ?_ ?_ | refine I_lte ?_ | refine I_some ?_ | refine i_X7_isNet St ?_ | refine i_X7_sticksOne_19 St ?_ | refine i_X7_isBit St ?_ | refine i_X7_sticksOne_20 St ?_ | refine I_bnd ?_ (fun _ _ _ => ?_)) | refine St _ _ _ _ (by first | exact ⟨by decide, by decide, fun _ => by decide⟩ | exact ⟨by decide, by decide, fun hh => absurd hh (by decide)⟩ | exact Alw_o (by assumption)) ?_)
theorem i_X7_shortsTwo_56 {Φ : ASt → Prop} (St : Stb Φ) {N : Nat} {p1 : Int32} {p2 : Int32} {p3 : Int32} {x4 : Int32} {x5 : Int32} {y1 : Int32} {u : ASt} (h : Φ u) : Inv Φ (f_X7_shortsTwo_56 N 95 p1 p2 p3 x4 x5 95 y1 u) := by
  unfold f_X7_shortsTwo_56
  repeat' (first | (with_reducible first | assumption | refine I_chk ?_ | refine I_ite ?_ ?_ | refine I_lte ?_ | refine I_some ?_ | refine i_X7_addsFault St ?_ | refine I_bnd ?_ (fun _ _ _ => ?_)) | refine St _ _ _ _ (by first | exact ⟨by decide, by decide, fun _ => by decide⟩ | exact ⟨by decide, by decide, fun hh => absurd hh (by decide)⟩ | exact Alw_o (by assumption)) ?_)
theorem i_X7_shortsTwo_55 {Φ : ASt → Prop} (St : Stb Φ) {N : Nat} {p1 : Int32} {p2 : Int32} {p3 : Int32} {x4 : Int32} {x5 : Int32} {u : ASt} (h : Φ u) : Inv Φ (f_X7_shortsTwo_55 N 95 p1 p2 p3 x4 x5 95 u) := by
  unfold f_X7_shortsTwo_55
  repeat' (first | (with_reducible first | assumption | refine I_chk ?_ | refine I_ite ?_ ?_ | refine I_lte ?_ | refine I_some ?_ | refine i_X7_shortsTwo_56 St ?_ | refine I_bnd ?_ (fun _ _ _ => ?_)) | refine St _ _ _ _ (by first | exact ⟨by decide, by decide, fun _ => by decide⟩ | exact ⟨by decide, by decide, fun hh => absurd hh (by decide)⟩ | exact Alw_o (by assumption)) ?_)
theorem i_X7_shortsTwo_22 {Φ : ASt → Prop} (St : Stb Φ) {N : Nat} {p1 : Int32} {p2 : Int32} {p3 : Int32} {x4 : Int32} {y0 : Int32} {u : ASt} (h : Φ u) : Inv Φ (f_X7_shortsTwo_22 N 95 p1 p2 p3 x4 y0 u) := by
  unfold f_X7_shortsTwo_22
  repeat' (first | (with_reducible first | assumption | refine I_chk ?_ | refine I_ite ?_ ?_ | refine I_lte ?_ | refine I_some ?_ | refine i_X7_isNet St ?_ | refine i_X7_shortsTwo_55 St ?_ | refine i_X7_isBit St ?_ | refine i_X7_shortsTwo_56 St ?_ | refine I_bnd ?_ (fun _ _ _ => ?_)) | refine St _ _ _ _ (by first | exact ⟨by decide, by decide, fun _ => by decide⟩ | exact ⟨by decide, by decide, fun hh => absurd hh (by decide)⟩ | exact Alw_o (by assumption)) ?_)
theorem i_X7_shortsTwo_10 {Φ : ASt → Prop} (St : Stb Φ) {N : Nat} {p1 : Int32} {p2 : Int32} {p3 : Int32} {y0 : Int32} {u : ASt} (h : Φ u) : Inv Φ (f_X7_shortsTwo_10 N 95 p1 p2 p3 y0 u) := by
  unfold f_X7_shortsTwo_10
  repeat' (first | (with_reducible first | assumption | refine I_chk ?_ | refine I_ite ?_ ?_ | refine I_lte ?_ | refine I_some ?_ | refine i_X7_shortsTwo_22 St ?_ | refine I_bnd ?_ (fun _ _ _ => ?_)) | refine St _ _ _ _ (by first | exact ⟨by decide, by decide, fun _ => by decide⟩ | exact ⟨by decide, by decide, fun hh => absurd hh (by decide)⟩ | exact Alw_o (by assumption)) ?_)
theorem i_X7_shortsTwo {Φ : ASt → Prop} (St : Stb Φ) {N : Nat} {p1 : Int32} {p2 : Int32} {p3 : Int32} {u : ASt} (h : Φ u) : Inv Φ (f_X7_shortsTwo N 95 p1 p2 p3 u) := by
  unfold f_X7_shortsTwo
  repeat' (first | (with_reducible first | assumption | refine I_chk ?_ | refine I_ite ?_ ?_ | refine I_lte ?_ | refine I_some ?_ | refine i_X7_shortsTwo_10 St ?_ | refine I_bnd ?_ (fun _ _ _ => ?_)) | refine St _ _ _ _ (by first | exact ⟨by decide, by decide, fun _ => by decide⟩ | exact ⟨by decide, by decide, fun hh => absurd hh (by decide)⟩ | exact Alw_o (by assumption)) ?_)
theorem i_X7_healsAll {Φ : ASt → Prop} (St : Stb Φ) {N : Nat} {u : ASt} (h : Φ u) : Inv Φ (f_X7_healsAll N 95 u) := by
  unfold f_X7_healsAll
  repeat' (first | (with_reducible first | assumption | refine I_chk ?_ | refine I_ite ?_ ?_ | refine I_lte ?_ | refine I_some ?_ | refine I_bnd ?_ (fun _ _ _ => ?_)) | refine St _ _ _ _ (by first | exact ⟨by decide, by decide, fun _ => by decide⟩ | exact ⟨by decide, by decide, fun hh => absurd hh (by decide)⟩ | exact Alw_o (by assumption)) ?_)
theorem i_X7_chip {Φ : ASt → Prop} (St : Stb Φ) {N : Nat} {p1 : Int32} {p2 : Int32} {u : ASt} (h : Φ u) : Inv Φ (f_X7_chip N 95 p1 p2 u) := by
  unfold f_X7_chip
  repeat' (first | (with_reducible first | assumption | refine I_chk ?_ | refine I_ite ?_ ?_ | refine I_lte ?_ | refine I_some ?_ | refine i_X7_laysAside St ?_ | refine i_X7_addsChip St ?_ | refine i_X7_ends St ?_ | refine I_bnd ?_ (fun _ _ _ => ?_)) | refine St _ _ _ _ (by first | exact ⟨by decide, by decide, fun _ => by decide⟩ | exact ⟨by decide, by decide, fun hh => absurd hh (by decide)⟩ | exact Alw_o (by assumption)) ?_)
theorem i_X7_cell {Φ : ASt → Prop} (St : Stb Φ) {N : Nat} {p1 : Int32} {p2 : Int32} {p3 : Int32} {u : ASt} (h : Φ u) : Inv Φ (f_X7_cell N 95 p1 p2 p3 u) := by
  unfold f_X7_cell
  repeat' (first | (with_reducible first | assumption | refine I_chk ?_ | refine I_ite ?_ ?_ | refine I_lte ?_ | refine I_some ?_ | refine i_X7_laysAside St ?_ | refine i_X7_addsCell St ?_ | refine i_X7_ends St ?_ | refine I_bnd ?_ (fun _ _ _ => ?_)) | refine St _ _ _ _ (by first | exact ⟨by decide, by decide, fun _ => by decide⟩ | exact ⟨by decide, by decide, fun hh => absurd hh (by decide)⟩ | exact Alw_o (by assumption)) ?_)
theorem i_X7_opens {Φ : ASt → Prop} (St : Stb Φ) {N : Nat} {p1 : Int32} {p2 : Int32} {u : ASt} (h : Φ u) : Inv Φ (f_X7_opens N 95 p1 p2 u) := by
  unfold f_X7_opens
  repeat' (first | (with_reducible first | assumption | refine I_chk ?_ | refine I_ite ?_ ?_ | refine I_lte ?_ | refine I_some ?_ | refine i_X7_laysAside St ?_ | refine i_X7_opensOne St ?_ | refine i_X7_ends St ?_ | refine I_bnd ?_ (fun _ _ _ => ?_)) | refine St _ _ _ _ (by first | exact ⟨by decide, by decide, fun _ => by decide⟩ | exact ⟨by decide, by decide, fun hh => absurd hh (by decide)⟩ | exact Alw_o (by assumption)) ?_)
theorem i_X7_sticks {Φ : ASt → Prop} (St : Stb Φ) {N : Nat} {p1 : Int32} {p2 : Int32} {u : ASt} (h : Φ u) : Inv Φ (f_X7_sticks N 95 p1 p2 u) := by
  unfold f_X7_sticks
  repeat' (first | (with_reducible first | assumption | refine I_chk ?_ | refine I_ite ?_ ?_ | refine I_lte ?_ | refine I_some ?_ | refine i_X7_laysAside St ?_ | refine i_X7_sticksOne St ?_ | refine i_X7_ends St ?_ | refine I_bnd ?_ (fun _ _ _ => ?_)) | refine St _ _ _ _ (by first | exact ⟨by decide, by decide, fun _ => by decide⟩ | exact ⟨by decide, by decide, fun hh => absurd hh (by decide)⟩ | exact Alw_o (by assumption)) ?_)
theorem i_X7_shorts {Φ : ASt → Prop} (St : Stb Φ) {N : Nat} {p1 : Int32} {p2 : Int32} {p3 : Int32} {u : ASt} (h : Φ u) : Inv Φ (f_X7_shorts N 95 p1 p2 p3 u) := by
  unfold f_X7_shorts
  repeat' (first | (with_reducible first | assumption | refine I_chk ?_ | refine I_ite ?_ ?_ | refine I_lte ?_ | refine I_some ?_ | refine i_X7_laysAside St ?_ | refine i_X7_shortsTwo St ?_ | refine i_X7_ends St ?_ | refine I_bnd ?_ (fun _ _ _ => ?_)) | refine St _ _ _ _ (by first | exact ⟨by decide, by decide, fun _ => by decide⟩ | exact ⟨by decide, by decide, fun hh => absurd hh (by decide)⟩ | exact Alw_o (by assumption)) ?_)
theorem i_X7_heals {Φ : ASt → Prop} (St : Stb Φ) {N : Nat} {u : ASt} (h : Φ u) : Inv Φ (f_X7_heals N 95 u) := by
  unfold f_X7_heals
  repeat' (first | (with_reducible first | assumption | refine I_chk ?_ | refine I_ite ?_ ?_ | refine I_lte ?_ | refine I_some ?_ | refine i_X7_laysAside St ?_ | refine i_X7_healsAll St ?_ | refine i_X7_ends St ?_ | refine I_bnd ?_ (fun _ _ _ => ?_)) | refine St _ _ _ _ (by first | exact ⟨by decide, by decide, fun _ => by decide⟩ | exact ⟨by decide, by decide, fun hh => absurd hh (by decide)⟩ | exact Alw_o (by assumption)) ?_)
theorem i_X7_usesAll_12 {Φ : ASt → Prop} (St : Stb Φ) {N : Nat} : ∀ (n : Nat) (q0 : Int32) (u : ASt), Φ u → Inv Φ (f_X7_usesAll_12 N 95 n q0 u) := by
  intro n
  induction n with
  | zero => intros; exact I_none
  | succ n ih =>
    intro q0 u h
    rw [f_X7_usesAll_12]
    repeat' (first | (with_reducible first | assumption | refine I_chk ?_ | refine I_ite ?_ ?_ | refine I_lte ?_ | refine I_some ?_ | refine ih _ _ ?_ | refine I_bnd ?_ (fun _ _ _ => ?_)) | refine St _ _ _ _ (by first | exact ⟨by decide, by decide, fun _ => by decide⟩ | exact ⟨by decide, by decide, fun hh => absurd hh (by decide)⟩ | exact Alw_o (by assumption)) ?_)
theorem i_X7_usesAll {Φ : ASt → Prop} (St : Stb Φ) {N : Nat} {u : ASt} (h : Φ u) : Inv Φ (f_X7_usesAll N 95 u) := by
  unfold f_X7_usesAll
  repeat' (first | (with_reducible first | assumption | refine I_chk ?_ | refine I_ite ?_ ?_ | refine I_lte ?_ | refine I_some ?_ | refine i_X7_usesAll_12 St _ _ _ ?_ | refine I_bnd ?_ (fun _ _ _ => ?_)) | refine St _ _ _ _ (by first | exact ⟨by decide, by decide, fun _ => by decide⟩ | exact ⟨by decide, by decide, fun hh => absurd hh (by decide)⟩ | exact Alw_o (by assumption)) ?_)
theorem i_X7_usesOne_10 {Φ : ASt → Prop} (St : Stb Φ) {N : Nat} {p1 : Int32} {y1 : Int32} {u : ASt} (h : Φ u) : Inv Φ (f_X7_usesOne_10 N 95 p1 95 y1 u) := by
  unfold f_X7_usesOne_10
  repeat' (first | (with_reducible first | assumption | refine I_chk ?_ | refine I_ite ?_ ?_ | refine I_lte ?_ | refine I_some ?_ | refine I_bnd ?_ (fun _ _ _ => ?_)) | refine St _ _ _ _ (by first | exact ⟨by decide, by decide, fun _ => by decide⟩ | exact ⟨by decide, by decide, fun hh => absurd hh (by decide)⟩ | exact Alw_o (by assumption)) ?_)
theorem i_X7_usesOne {Φ : ASt → Prop} (St : Stb Φ) {N : Nat} {p1 : Int32} {u : ASt} (h : Φ u) : Inv Φ (f_X7_usesOne N 95 p1 u) := by
  unfold f_X7_usesOne
  repeat' (first | (with_reducible first | assumption | refine I_chk ?_ | refine I_ite ?_ ?_ | refine I_lte ?_ | refine I_some ?_ | refine i_X7_usesOne_10 St ?_ | refine I_bnd ?_ (fun _ _ _ => ?_)) | refine St _ _ _ _ (by first | exact ⟨by decide, by decide, fun _ => by decide⟩ | exact ⟨by decide, by decide, fun hh => absurd hh (by decide)⟩ | exact Alw_o (by assumption)) ?_)
theorem i_X7_isOpen_43 {Φ : ASt → Prop} (St : Stb Φ) {N : Nat} {p1 : Int32} {p2 : Int32} {k5 : Int32 → Int32 → ASt → Option (Int32 × ASt)} (hk5 : ∀ (q0 : Int32) (q1 : Int32) (u : ASt), Φ u → Inv Φ (k5 q0 q1 u)) {x4 : Int32} {y0 : Int32} {u : ASt} (h : Φ u) : Inv Φ (f_X7_isOpen_43 N 95 p1 p2 k5 x4 y0 u) := by
  unfold f_X7_isOpen_43
  repeat' (first | (with_reducible first | assumption | refine I_chk ?_ | refine I_ite ?_ ?_ | refine I_lte ?_ | refine I_some ?_ | refine hk5 _ _ _ ?_ | refine I_bnd ?_ (fun _ _ _ => ?_)) | refine St _ _ _ _ (by first | exact ⟨by decide, by decide, fun _ => by decide⟩ | exact ⟨by decide, by decide, fun hh => absurd hh (by decide)⟩ | exact Alw_o (by assumption)) ?_)
theorem i_X7_isOpen_38 {Φ : ASt → Prop} (St : Stb Φ) {N : Nat} {p1 : Int32} {p2 : Int32} {k5 : Int32 → Int32 → ASt → Option (Int32 × ASt)} (hk5 : ∀ (q0 : Int32) (q1 : Int32) (u : ASt), Φ u → Inv Φ (k5 q0 q1 u)) {x4 : Int32} {u : ASt} (h : Φ u) : Inv Φ (f_X7_isOpen_38 N 95 p1 p2 k5 x4 u) := by
  unfold f_X7_isOpen_38
  repeat' (first | (with_reducible first | assumption | refine I_chk ?_ | refine I_ite ?_ ?_ | refine I_lte ?_ | refine I_some ?_ | refine i_X7_isOpen_43 St ?_ ?_ | refine hk5 _ _ _ ?_ | refine I_bnd ?_ (fun _ _ _ => ?_)) | refine St _ _ _ _ (by first | exact ⟨by decide, by decide, fun _ => by decide⟩ | exact ⟨by decide, by decide, fun hh => absurd hh (by decide)⟩ | exact Alw_o (by assumption)) ?_)
theorem i_X7_isOpen_5 {Φ : ASt → Prop} (St : Stb Φ) {N : Nat} {p1 : Int32} {p2 : Int32} : ∀ (n : Nat) (q0 : Int32) (q1 : Int32) (u : ASt), Φ u → Inv Φ (f_X7_isOpen_5 N 95 p1 p2 n q0 q1 u) := by
  intro n
  induction n with
  | zero => intros; exact I_none
  | succ n ih =>
    intro q0 q1 u h
    rw [f_X7_isOpen_5]
    repeat' (first | (with_reducible first | assumption | refine I_chk ?_ | refine I_ite ?_ ?_ | refine I_lte ?_ | refine I_some ?_ | refine i_X7_isOpen_38 St ?_ ?_ | refine i_X7_isOpen_43 St ?_ ?_ | refine ih _ _ _ ?_ | refine I_bnd ?_ (fun _ _ _ => ?_)) | refine St _ _ _ _ (by first | exact ⟨by decide, by decide, fun _ => by decide⟩ | exact ⟨by decide, by decide, fun hh => absurd hh (by decide)⟩ | exact Alw_o (by assumption)) ?_)
theorem i_X7_isOpen {Φ : ASt → Prop} (St : Stb Φ) {N : Nat} {p1 : Int32} {p2 : Int32} {u : ASt} (h : Φ u) : Inv Φ (f_X7_isOpen N 95 p1 p2 u) := by
  unfold f_X7_isOpen
  repeat' (first | (with_reducible first | assumption | refine I_chk ?_ | refine I_ite ?_ ?_ | refine I_lte ?_ | refine I_some ?_ | refine i_X7_isOpen_5 St _ _ _ _ ?_ | refine I_bnd ?_ (fun _ _ _ => ?_)) | refine St _ _ _ _ (by first | exact ⟨by decide, by decide, fun _ => by decide⟩ | exact ⟨by decide, by decide, fun hh => absurd hh (by decide)⟩ | exact Alw_o (by assumption)) ?_)
theorem i_X7_outs_46 {Φ : ASt → Prop} (St : Stb Φ) {N : Nat} {k4 : Int32 → Int32 → ASt → Option (Int32 × ASt)} (hk4 : ∀ (q0 : Int32) (q1 : Int32) (u : ASt), Φ u → Inv Φ (k4 q0 q1 u)) {k14 : Int32 → Int32 → Int32 → ASt → Option (Int32 × ASt)} (hk14 : ∀ (q0 : Int32) (q1 : Int32) (q2 : Int32) (u : ASt), Φ u → Inv Φ (k14 q0 q1 q2 u)) {x2 : Int32} {x3 : Int32} {y0 : Int32} {y1 : Int32} {u : ASt} (h : Φ u) : Inv Φ (f_X7_outs_46 N 95 k4 k14 x2 x3 y0 y1 u) := by
  unfold f_X7_outs_46
  repeat' (first | (with_reducible first | assumption | refine I_chk ?_ | refine I_ite ?_ ?_ | refine I_lte ?_ | refine I_some ?_ | refine hk4 _ _ _ ?_ | refine hk14 _ _ _ _ ?_ | refine I_bnd ?_ (fun _ _ _ => ?_)) | refine St _ _ _ _ (by first | exact ⟨by decide, by decide, fun _ => by decide⟩ | exact ⟨by decide, by decide, fun hh => absurd hh (by decide)⟩ | exact Alw_o (by assumption)) ?_)
theorem i_X7_outs_14 {Φ : ASt → Prop} (St : Stb Φ) {N : Nat} {k4 : Int32 → Int32 → ASt → Option (Int32 × ASt)} (hk4 : ∀ (q0 : Int32) (q1 : Int32) (u : ASt), Φ u → Inv Φ (k4 q0 q1 u)) : ∀ (n : Nat) (q0 : Int32) (q1 : Int32) (q2 : Int32) (u : ASt), Φ u → Inv Φ (f_X7_outs_14 N 95 k4 n q0 q1 q2 u) := by
  intro n
  induction n with
  | zero => intros; exact I_none
  | succ n ih =>
    intro q0 q1 q2 u h
    rw [f_X7_outs_14]
    repeat' (first | (with_reducible first | assumption | refine I_chk ?_ | refine I_ite ?_ ?_ | refine I_lte ?_ | refine I_some ?_ | refine i_X7_get St ?_ | refine i_X7_isOut St ?_ | refine i_X7_outs_46 St ?_ ?_ ?_ | refine i_X7_netOf St ?_ | refine hk4 _ _ _ ?_ | refine ih _ _ _ _ ?_ | refine I_bnd ?_ (fun _ _ _ => ?_)) | refine St _ _ _ _ (by first | exact ⟨by decide, by decide, fun _ => by decide⟩ | exact ⟨by decide, by decide, fun hh => absurd hh (by decide)⟩ | exact Alw_o (by assumption)) ?_)
theorem i_X7_outs_4 {Φ : ASt → Prop} (St : Stb Φ) {N : Nat} : ∀ (n : Nat) (q0 : Int32) (q1 : Int32) (u : ASt), Φ u → Inv Φ (f_X7_outs_4 N 95 n q0 q1 u) := by
  intro n
  induction n with
  | zero => intros; exact I_none
  | succ n ih =>
    intro q0 q1 u h
    rw [f_X7_outs_4]
    repeat' (first | (with_reducible first | assumption | refine I_chk ?_ | refine I_ite ?_ ?_ | refine I_lte ?_ | refine I_some ?_ | refine i_X7_chips St ?_ | refine i_X7_outs_14 St ?_ _ _ _ _ _ ?_ | refine ih _ _ _ ?_ | refine I_bnd ?_ (fun _ _ _ => ?_)) | refine St _ _ _ _ (by first | exact ⟨by decide, by decide, fun _ => by decide⟩ | exact ⟨by decide, by decide, fun hh => absurd hh (by decide)⟩ | exact Alw_o (by assumption)) ?_)
theorem i_X7_outs {Φ : ASt → Prop} (St : Stb Φ) {N : Nat} {u : ASt} (h : Φ u) : Inv Φ (f_X7_outs N 95 u) := by
  unfold f_X7_outs
  repeat' (first | (with_reducible first | assumption | refine I_chk ?_ | refine I_ite ?_ ?_ | refine I_lte ?_ | refine I_some ?_ | refine i_X7_outs_4 St _ _ _ _ ?_ | refine I_bnd ?_ (fun _ _ _ => ?_)) | refine St _ _ _ _ (by first | exact ⟨by decide, by decide, fun _ => by decide⟩ | exact ⟨by decide, by decide, fun hh => absurd hh (by decide)⟩ | exact Alw_o (by assumption)) ?_)
theorem i_X7_netsWithCells_14 {Φ : ASt → Prop} (St : Stb Φ) {N : Nat} {k4 : Int32 → Int32 → ASt → Option (Int32 × ASt)} (hk4 : ∀ (q0 : Int32) (q1 : Int32) (u : ASt), Φ u → Inv Φ (k4 q0 q1 u)) : ∀ (n : Nat) (q0 : Int32) (q1 : Int32) (q2 : Int32) (u : ASt), Φ u → Inv Φ (f_X7_netsWithCells_14 N 95 k4 n q0 q1 q2 u) := by
  intro n
  induction n with
  | zero => intros; exact I_none
  | succ n ih =>
    intro q0 q1 q2 u h
    rw [f_X7_netsWithCells_14]
    repeat' (first | (with_reducible first | assumption | refine I_chk ?_ | refine I_ite ?_ ?_ | refine I_lte ?_ | refine I_some ?_ | refine i_X7_get St ?_ | refine i_X7_netOf St ?_ | refine hk4 _ _ _ ?_ | refine ih _ _ _ _ ?_ | refine I_bnd ?_ (fun _ _ _ => ?_)) | refine St _ _ _ _ (by first | exact ⟨by decide, by decide, fun _ => by decide⟩ | exact ⟨by decide, by decide, fun hh => absurd hh (by decide)⟩ | exact Alw_o (by assumption)) ?_)
theorem i_X7_netsWithCells_4 {Φ : ASt → Prop} (St : Stb Φ) {N : Nat} : ∀ (n : Nat) (q0 : Int32) (q1 : Int32) (u : ASt), Φ u → Inv Φ (f_X7_netsWithCells_4 N 95 n q0 q1 u) := by
  intro n
  induction n with
  | zero => intros; exact I_none
  | succ n ih =>
    intro q0 q1 u h
    rw [f_X7_netsWithCells_4]
    repeat' (first | (with_reducible first | assumption | refine I_chk ?_ | refine I_ite ?_ ?_ | refine I_lte ?_ | refine I_some ?_ | refine i_X7_chips St ?_ | refine i_X7_netsWithCells_14 St ?_ _ _ _ _ _ ?_ | refine ih _ _ _ ?_ | refine I_bnd ?_ (fun _ _ _ => ?_)) | refine St _ _ _ _ (by first | exact ⟨by decide, by decide, fun _ => by decide⟩ | exact ⟨by decide, by decide, fun hh => absurd hh (by decide)⟩ | exact Alw_o (by assumption)) ?_)
theorem i_X7_netsWithCells {Φ : ASt → Prop} (St : Stb Φ) {N : Nat} {u : ASt} (h : Φ u) : Inv Φ (f_X7_netsWithCells N 95 u) := by
  unfold f_X7_netsWithCells
  repeat' (first | (with_reducible first | assumption | refine I_chk ?_ | refine I_ite ?_ ?_ | refine I_lte ?_ | refine I_some ?_ | refine i_X7_netsWithCells_4 St _ _ _ _ ?_ | refine I_bnd ?_ (fun _ _ _ => ?_)) | refine St _ _ _ _ (by first | exact ⟨by decide, by decide, fun _ => by decide⟩ | exact ⟨by decide, by decide, fun hh => absurd hh (by decide)⟩ | exact Alw_o (by assumption)) ?_)
theorem i_X7_ones_4 {Φ : ASt → Prop} (St : Stb Φ) {N : Nat} {p1 : Int32} : ∀ (n : Nat) (q0 : Int32) (q1 : Int32) (u : ASt), Φ u → Inv Φ (f_X7_ones_4 N p1 n q0 q1 u) := by
  intro n
  induction n with
  | zero => intros; exact I_none
  | succ n ih =>
    intro q0 q1 u h
    rw [f_X7_ones_4]
    repeat' (first | (with_reducible first | assumption | refine I_chk ?_ | refine I_ite ?_ ?_ | refine I_lte ?_ | refine I_some ?_ | refine ih _ _ _ ?_ | refine I_bnd ?_ (fun _ _ _ => ?_)) | refine St _ _ _ _ (by first | exact ⟨by decide, by decide, fun _ => by decide⟩ | exact ⟨by decide, by decide, fun hh => absurd hh (by decide)⟩ | exact Alw_o (by assumption)) ?_)
theorem i_X7_ones {Φ : ASt → Prop} (St : Stb Φ) {N : Nat} {p1 : Int32} {u : ASt} (h : Φ u) : Inv Φ (f_X7_ones N p1 u) := by
  unfold f_X7_ones
  repeat' (first | (with_reducible first | assumption | refine I_chk ?_ | refine I_ite ?_ ?_ | refine I_lte ?_ | refine I_some ?_ | refine i_X7_ones_4 St _ _ _ _ ?_ | refine I_bnd ?_ (fun _ _ _ => ?_)) | refine St _ _ _ _ (by first | exact ⟨by decide, by decide, fun _ => by decide⟩ | exact ⟨by decide, by decide, fun hh => absurd hh (by decide)⟩ | exact Alw_o (by assumption)) ?_)
theorem i_X7_counting_2 {Φ : ASt → Prop} (St : Stb Φ) {N : Nat} : ∀ (n : Nat) (q0 : Int32) (u : ASt), Φ u → Inv Φ (f_X7_counting_2 N 95 n q0 u) := by
  intro n
  induction n with
  | zero => intros; exact I_none
  | succ n ih =>
    intro q0 u h
    rw [f_X7_counting_2]
    repeat' (first | (with_reducible first | assumption | refine I_chk ?_ | refine I_ite ?_ ?_ | refine I_lte ?_ | refine I_some ?_ | refine i_X7_outs St ?_ | refine i_X7_ones St ?_ | refine ih _ _ ?_ | refine I_bnd ?_ (fun _ _ _ => ?_)) | refine St _ _ _ _ (by first | exact ⟨by decide, by decide, fun _ => by decide⟩ | exact ⟨by decide, by decide, fun hh => absurd hh (by decide)⟩ | exact Alw_o (by assumption)) ?_)
theorem i_X7_counting {Φ : ASt → Prop} (St : Stb Φ) {N : Nat} {u : ASt} (h : Φ u) : Inv Φ (f_X7_counting N 95 u) := by
  unfold f_X7_counting
  repeat' (first | (with_reducible first | assumption | refine I_chk ?_ | refine I_ite ?_ ?_ | refine I_lte ?_ | refine I_some ?_ | refine i_X7_counting_2 St _ _ _ ?_ | refine I_bnd ?_ (fun _ _ _ => ?_)) | refine St _ _ _ _ (by first | exact ⟨by decide, by decide, fun _ => by decide⟩ | exact ⟨by decide, by decide, fun hh => absurd hh (by decide)⟩ | exact Alw_o (by assumption)) ?_)
theorem i_X7_patternAt {Φ : ASt → Prop} (St : Stb Φ) {N : Nat} {p1 : Int32} {p2 : Int32} {u : ASt} (h : Φ u) : Inv Φ (f_X7_patternAt N 95 p1 p2 u) := by
  unfold f_X7_patternAt
  repeat' (first | (with_reducible first | assumption | refine I_chk ?_ | refine I_ite ?_ ?_ | refine I_lte ?_ | refine I_some ?_ | refine i_X7_counting St ?_ | refine i_X7_outs St ?_ | refine i_X7_ones St ?_ | refine I_bnd ?_ (fun _ _ _ => ?_)) | refine St _ _ _ _ (by first | exact ⟨by decide, by decide, fun _ => by decide⟩ | exact ⟨by decide, by decide, fun hh => absurd hh (by decide)⟩ | exact Alw_o (by assumption)) ?_)
theorem i_X7_drives_33 {Φ : ASt → Prop} (St : Stb Φ) {N : Nat} {p1 : Int32} {p2 : Int32} {p3 : Int32} {u : ASt} (h : Φ u) : Inv Φ (f_X7_drives_33 N 95 p1 p2 p3 u) := by
  unfold f_X7_drives_33
  repeat' (first | (with_reducible first | assumption | refine I_chk ?_ | refine I_ite ?_ ?_ | refine I_lte ?_ | refine I_some ?_ | refine i_X7_netOf St ?_ | refine i_X7_patternAt St ?_ | refine i_X7_get St ?_ | refine I_bnd ?_ (fun _ _ _ => ?_)) | refine St _ _ _ _ (by first | exact ⟨by decide, by decide, fun _ => by decide⟩ | exact ⟨by decide, by decide, fun hh => absurd hh (by decide)⟩ | exact Alw_o (by assumption)) ?_)
theorem i_X7_drives_31 {Φ : ASt → Prop} (St : Stb Φ) {N : Nat} {p1 : Int32} {p2 : Int32} {p3 : Int32} {u : ASt} (h : Φ u) : Inv Φ (f_X7_drives_31 N 95 p1 p2 p3 u) := by
  unfold f_X7_drives_31
  repeat' (first | (with_reducible first | assumption | refine I_chk ?_ | refine I_ite ?_ ?_ | refine I_lte ?_ | refine I_some ?_ | refine I_bnd ?_ (fun _ _ _ => ?_)) | refine St _ _ _ _ (by first | exact ⟨by decide, by decide, fun _ => by decide⟩ | exact ⟨by decide, by decide, fun hh => absurd hh (by decide)⟩ | exact Alw_o (by assumption)) ?_)
theorem i_X7_drives {Φ : ASt → Prop} (St : Stb Φ) {N : Nat} {p1 : Int32} {p2 : Int32} {p3 : Int32} {u : ASt} (h : Φ u) : Inv Φ (f_X7_drives N 95 p1 p2 p3 u) := by
  unfold f_X7_drives
  repeat' (first | (with_reducible first | assumption | refine I_chk ?_ | refine I_ite ?_ ?_ | refine I_lte ?_ | refine I_some ?_ | refine i_X7_isOut St ?_ | refine i_X7_drives_31 St ?_ | refine i_X7_isOpen St ?_ | refine i_X7_drives_33 St ?_ | refine i_X7_get St ?_ | refine I_bnd ?_ (fun _ _ _ => ?_)) | refine St _ _ _ _ (by first | exact ⟨by decide, by decide, fun _ => by decide⟩ | exact ⟨by decide, by decide, fun hh => absurd hh (by decide)⟩ | exact Alw_o (by assumption)) ?_)
theorem i_X7_laysDrivers_136 {Φ : ASt → Prop} (St : Stb Φ) {N : Nat} {p1 : Int32} {k109 : Int32 → Int32 → ASt → Option (Unit × ASt)} (hk109 : ∀ (q0 : Int32) (q1 : Int32) (u : ASt), Φ u → Inv Φ (k109 q0 q1 u)) {x2 : Int32} {x4 : Int32} {y1 : Int32} {y2 : Int32} {u : ASt} (h : Φ u) : Inv Φ (f_X7_laysDrivers_136 N 95 p1 k109 x2 x4 (arf 95 9) y1 y2 u) := by
  unfold f_X7_laysDrivers_136
  repeat' (first | (with_reducible first | assumption | refine I_chk ?_ | refine I_ite ?_ ?_ | refine I_lte ?_ | refine I_some ?_ | refine hk109 _ _ _ ?_ | refine I_bnd ?_ (fun _ _ _ => ?_)) | refine St _ _ _ _ (by first | exact ⟨by decide, by decide, fun _ => by decide⟩ | exact ⟨by decide, by decide, fun hh => absurd hh (by decide)⟩ | exact Alw_o (by assumption)) ?_)
theorem i_X7_laysDrivers_109 {Φ : ASt → Prop} (St : Stb Φ) {N : Nat} {p1 : Int32} : ∀ (n : Nat) (q0 : Int32) (q1 : Int32) (u : ASt), Φ u → Inv Φ (f_X7_laysDrivers_109 N 95 p1 n q0 q1 u) := by
  intro n
  induction n with
  | zero => intros; exact I_none
  | succ n ih =>
    intro q0 q1 u h
    rw [f_X7_laysDrivers_109]
    repeat' (first | (with_reducible first | assumption | refine I_chk ?_ | refine I_ite ?_ ?_ | refine I_lte ?_ | refine I_some ?_ | refine i_X7_has St ?_ | refine i_X7_laysDrivers_136 St ?_ ?_ | refine ih _ _ _ ?_ | refine I_bnd ?_ (fun _ _ _ => ?_)) | refine St _ _ _ _ (by first | exact ⟨by decide, by decide, fun _ => by decide⟩ | exact ⟨by decide, by decide, fun hh => absurd hh (by decide)⟩ | exact Alw_o (by assumption)) ?_)
theorem i_X7_laysDrivers_85 {Φ : ASt → Prop} (St : Stb Φ) {N : Nat} {p1 : Int32} {k7 : Int32 → Int32 → Int32 → ASt → Option (Unit × ASt)} (hk7 : ∀ (q0 : Int32) (q1 : Int32) (q2 : Int32) (u : ASt), Φ u → Inv Φ (k7 q0 q1 q2 u)) {k19 : Int32 → Int32 → Int32 → Int32 → ASt → Option (Unit × ASt)} (hk19 : ∀ (q0 : Int32) (q1 : Int32) (q2 : Int32) (q3 : Int32) (u : ASt), Φ u → Inv Φ (k19 q0 q1 q2 q3 u)) {x2 : Int32} {x4 : Int32} {x5 : Int32} {y0 : Int32} {y1 : Int32} {u : ASt} (h : Φ u) : Inv Φ (f_X7_laysDrivers_85 N 95 p1 k7 k19 x2 x4 x5 y0 y1 u) := by
  unfold f_X7_laysDrivers_85
  repeat' (first | (with_reducible first | assumption | refine I_chk ?_ | refine I_ite ?_ ?_ | refine I_lte ?_ | refine I_some ?_ | refine hk7 _ _ _ _ ?_ | refine hk19 _ _ _ _ _ ?_ | refine I_bnd ?_ (fun _ _ _ => ?_)) | refine St _ _ _ _ (by first | exact ⟨by decide, by decide, fun _ => by decide⟩ | exact ⟨by decide, by decide, fun hh => absurd hh (by decide)⟩ | exact Alw_o (by assumption)) ?_)
theorem i_X7_laysDrivers_62 {Φ : ASt → Prop} (St : Stb Φ) {N : Nat} {p1 : Int32} {k7 : Int32 → Int32 → Int32 → ASt → Option (Unit × ASt)} (hk7 : ∀ (q0 : Int32) (q1 : Int32) (q2 : Int32) (u : ASt), Φ u → Inv Φ (k7 q0 q1 q2 u)) {k19 : Int32 → Int32 → Int32 → Int32 → ASt → Option (Unit × ASt)} (hk19 : ∀ (q0 : Int32) (q1 : Int32) (q2 : Int32) (q3 : Int32) (u : ASt), Φ u → Inv Φ (k19 q0 q1 q2 q3 u)) {x3 : Int32} {x4 : Int32} {x5 : Int32} {x6 : Int32} {y0 : Int32} {y1 : Int32} {u : ASt} (h : Φ u) : Inv Φ (f_X7_laysDrivers_62 N 95 p1 k7 k19 x3 x4 x5 x6 y0 y1 u) := by
  unfold f_X7_laysDrivers_62
  repeat' (first | (with_reducible first | assumption | refine I_chk ?_ | refine I_ite ?_ ?_ | refine I_lte ?_ | refine I_some ?_ | refine i_X7_netOf St ?_ | refine i_X7_laysDrivers_85 St ?_ ?_ ?_ | refine hk7 _ _ _ _ ?_ | refine hk19 _ _ _ _ _ ?_ | refine I_bnd ?_ (fun _ _ _ => ?_)) | refine St _ _ _ _ (by first | exact ⟨by decide, by decide, fun _ => by decide⟩ | exact ⟨by decide, by decide, fun hh => absurd hh (by decide)⟩ | exact Alw_o (by assumption)) ?_)
theorem i_X7_laysDrivers_19 {Φ : ASt → Prop} (St : Stb Φ) {N : Nat} {p1 : Int32} {k7 : Int32 → Int32 → Int32 → ASt → Option (Unit × ASt)} (hk7 : ∀ (q0 : Int32) (q1 : Int32) (q2 : Int32) (u : ASt), Φ u → Inv Φ (k7 q0 q1 q2 u)) : ∀ (n : Nat) (q0 : Int32) (q1 : Int32) (q2 : Int32) (q3 : Int32) (u : ASt), Φ u → Inv Φ (f_X7_laysDrivers_19 N 95 p1 k7 n q0 q1 q2 q3 u) := by
  intro n
  induction n with
  | zero => intros; exact I_none
  | succ n ih =>
    intro q0 q1 q2 q3 u h
    rw [f_X7_laysDrivers_19]
    repeat' (first | (with_reducible first | assumption | refine I_chk ?_ | refine I_ite ?_ ?_ | refine I_lte ?_ | refine I_some ?_ | refine i_X7_get St ?_ | refine i_X7_drives St ?_ | refine i_X7_netOf St ?_ | refine i_X7_laysDrivers_62 St ?_ ?_ ?_ | refine hk7 _ _ _ _ ?_ | refine ih _ _ _ _ _ ?_ | refine I_bnd ?_ (fun _ _ _ => ?_)) | refine St _ _ _ _ (by first | exact ⟨by decide, by decide, fun _ => by decide⟩ | exact ⟨by decide, by decide, fun hh => absurd hh (by decide)⟩ | exact Alw_o (by assumption)) ?_)
theorem i_X7_laysDrivers_7 {Φ : ASt → Prop} (St : Stb Φ) {N : Nat} {p1 : Int32} : ∀ (n : Nat) (q0 : Int32) (q1 : Int32) (q2 : Int32) (u : ASt), Φ u → Inv Φ (f_X7_laysDrivers_7 N 95 p1 n q0 q1 q2 u) := by
  intro n
  induction n with
  | zero => intros; exact I_none
  | succ n ih =>
    intro q0 q1 q2 u h
    rw [f_X7_laysDrivers_7]
    repeat' (first | (with_reducible first | assumption | refine I_chk ?_ | refine I_ite ?_ ?_ | refine I_lte ?_ | refine I_some ?_ | refine i_X7_chips St ?_ | refine i_X7_laysDrivers_109 St _ _ _ _ ?_ | refine i_X7_laysDrivers_19 St ?_ _ _ _ _ _ _ ?_ | refine ih _ _ _ _ ?_ | refine I_bnd ?_ (fun _ _ _ => ?_)) | refine St _ _ _ _ (by first | exact ⟨by decide, by decide, fun _ => by decide⟩ | exact ⟨by decide, by decide, fun hh => absurd hh (by decide)⟩ | exact Alw_o (by assumption)) ?_)
theorem i_X7_laysDrivers {Φ : ASt → Prop} (St : Stb Φ) {N : Nat} {p1 : Int32} {u : ASt} (h : Φ u) : Inv Φ (f_X7_laysDrivers N 95 p1 u) := by
  unfold f_X7_laysDrivers
  repeat' (first | (with_reducible first | assumption | refine I_chk ?_ | refine I_ite ?_ ?_ | refine I_lte ?_ | refine I_some ?_ | refine i_X7_laysDrivers_7 St _ _ _ _ _ ?_ | refine I_bnd ?_ (fun _ _ _ => ?_)) | refine St _ _ _ _ (by first | exact ⟨by decide, by decide, fun _ => by decide⟩ | exact ⟨by decide, by decide, fun hh => absurd hh (by decide)⟩ | exact Alw_o (by assumption)) ?_)
theorem i_X7_laysNets_160 {Φ : ASt → Prop} (St : Stb Φ) {N : Nat} {p1 : Int32} {k112 : Int32 → ASt → Option (Unit × ASt)} (hk112 : ∀ (q0 : Int32) (u : ASt), Φ u → Inv Φ (k112 q0 u)) {x2 : Int32} {u : ASt} (h : Φ u) : Inv Φ (f_X7_laysNets_160 N 95 p1 k112 x2 u) := by
  unfold f_X7_laysNets_160
  repeat' (first | (with_reducible first | assumption | refine I_chk ?_ | refine I_ite ?_ ?_ | refine I_lte ?_ | refine I_some ?_ | refine hk112 _ _ ?_ | refine I_bnd ?_ (fun _ _ _ => ?_)) | refine St _ _ _ _ (by first | exact ⟨by decide, by decide, fun _ => by decide⟩ | exact ⟨by decide, by decide, fun hh => absurd hh (by decide)⟩ | exact Alw_o (by assumption)) ?_)
theorem i_X7_laysNets_112 {Φ : ASt → Prop} (St : Stb Φ) {N : Nat} {p1 : Int32} : ∀ (n : Nat) (q0 : Int32) (u : ASt), Φ u → Inv Φ (f_X7_laysNets_112 N 95 p1 n q0 u) := by
  intro n
  induction n with
  | zero => intros; exact I_none
  | succ n ih =>
    intro q0 u h
    rw [f_X7_laysNets_112]
    repeat' (first | (with_reducible first | assumption | refine I_chk ?_ | refine I_ite ?_ ?_ | refine I_lte ?_ | refine I_some ?_ | refine i_X7_laysNets_160 St ?_ ?_ | refine ih _ _ ?_ | refine I_bnd ?_ (fun _ _ _ => ?_)) | refine St _ _ _ _ (by first | exact ⟨by decide, by decide, fun _ => by decide⟩ | exact ⟨by decide, by decide, fun hh => absurd hh (by decide)⟩ | exact Alw_o (by assumption)) ?_)
theorem i_X7_laysNets_104 {Φ : ASt → Prop} (St : Stb Φ) {N : Nat} {p1 : Int32} {k7 : Int32 → ASt → Option (Unit × ASt)} (hk7 : ∀ (q0 : Int32) (u : ASt), Φ u → Inv Φ (k7 q0 u)) {x2 : Int32} {u : ASt} (h : Φ u) : Inv Φ (f_X7_laysNets_104 N 95 p1 k7 x2 u) := by
  unfold f_X7_laysNets_104
  repeat' (first | (with_reducible first | assumption | refine I_chk ?_ | refine I_ite ?_ ?_ | refine I_lte ?_ | refine I_some ?_ | refine hk7 _ _ ?_ | refine I_bnd ?_ (fun _ _ _ => ?_)) | refine St _ _ _ _ (by first | exact ⟨by decide, by decide, fun _ => by decide⟩ | exact ⟨by decide, by decide, fun hh => absurd hh (by decide)⟩ | exact Alw_o (by assumption)) ?_)
theorem i_X7_laysNets_84 {Φ : ASt → Prop} (St : Stb Φ) {N : Nat} {p1 : Int32} {k7 : Int32 → ASt → Option (Unit × ASt)} (hk7 : ∀ (q0 : Int32) (u : ASt), Φ u → Inv Φ (k7 q0 u)) {x2 : Int32} {x4 : Int32} {x5 : Int32} {y0 : Int32} {u : ASt} (h : Φ u) : Inv Φ (f_X7_laysNets_84 N 95 p1 k7 x2 x4 x5 y0 u) := by
  unfold f_X7_laysNets_84
  repeat' (first | (with_reducible first | assumption | refine I_chk ?_ | refine I_ite ?_ ?_ | refine I_lte ?_ | refine I_some ?_ | refine i_X7_laysNets_104 St ?_ ?_ | refine hk7 _ _ ?_ | refine I_bnd ?_ (fun _ _ _ => ?_)) | refine St _ _ _ _ (by first | exact ⟨by decide, by decide, fun _ => by decide⟩ | exact ⟨by decide, by decide, fun hh => absurd hh (by decide)⟩ | exact Alw_o (by assumption)) ?_)
theorem i_X7_laysNets_7 {Φ : ASt → Prop} (St : Stb Φ) {N : Nat} {p1 : Int32} : ∀ (n : Nat) (q0 : Int32) (u : ASt), Φ u → Inv Φ (f_X7_laysNets_7 N 95 p1 n q0 u) := by
  intro n
  induction n with
  | zero => intros; exact I_none
  | succ n ih =>
    intro q0 u h
    rw [f_X7_laysNets_7]
    repeat' (first | (with_reducible first | assumption | refine I_chk ?_ | refine I_ite ?_ ?_ | refine I_lte ?_ | refine I_some ?_ | refine i_X7_laysNets_112 St _ _ _ ?_ | refine i_X7_laysNets_104 St ?_ ?_ | refine i_X7_laysNets_84 St ?_ ?_ | refine ih _ _ ?_ | refine I_bnd ?_ (fun _ _ _ => ?_)) | refine St _ _ _ _ (by first | exact ⟨by decide, by decide, fun _ => by decide⟩ | exact ⟨by decide, by decide, fun hh => absurd hh (by decide)⟩ | exact Alw_o (by assumption)) ?_)
theorem i_X7_laysNets {Φ : ASt → Prop} (St : Stb Φ) {N : Nat} {p1 : Int32} {u : ASt} (h : Φ u) : Inv Φ (f_X7_laysNets N 95 p1 u) := by
  unfold f_X7_laysNets
  repeat' (first | (with_reducible first | assumption | refine I_chk ?_ | refine I_ite ?_ ?_ | refine I_lte ?_ | refine I_some ?_ | refine i_X7_laysDrivers St ?_ | refine i_X7_laysNets_7 St _ _ _ ?_ | refine I_bnd ?_ (fun _ _ _ => ?_)) | refine St _ _ _ _ (by first | exact ⟨by decide, by decide, fun _ => by decide⟩ | exact ⟨by decide, by decide, fun hh => absurd hh (by decide)⟩ | exact Alw_o (by assumption)) ?_)
theorem i_X7_sees {Φ : ASt → Prop} (St : Stb Φ) {N : Nat} {p1 : Int32} {p2 : Int32} {u : ASt} (h : Φ u) : Inv Φ (f_X7_sees N 95 p1 p2 u) := by
  unfold f_X7_sees
  repeat' (first | (with_reducible first | assumption | refine I_chk ?_ | refine I_ite ?_ ?_ | refine I_lte ?_ | refine I_some ?_ | refine i_X7_isOpen St ?_ | refine i_X7_netOf St ?_ | refine I_bnd ?_ (fun _ _ _ => ?_)) | refine St _ _ _ _ (by first | exact ⟨by decide, by decide, fun _ => by decide⟩ | exact ⟨by decide, by decide, fun hh => absurd hh (by decide)⟩ | exact Alw_o (by assumption)) ?_)
theorem i_X7_laysNow {Φ : ASt → Prop} (St : Stb Φ) {N : Nat} {u : ASt} (h : Φ u) : Inv Φ (f_X7_laysNow N 95 u) := by
  unfold f_X7_laysNow
  repeat' (first | (with_reducible first | assumption | refine I_chk ?_ | refine I_ite ?_ ?_ | refine I_lte ?_ | refine I_some ?_ | refine i_X7_usesAll St ?_ | refine i_X7_laysNets St ?_ | refine I_bnd ?_ (fun _ _ _ => ?_)) | refine St _ _ _ _ (by first | exact ⟨by decide, by decide, fun _ => by decide⟩ | exact ⟨by decide, by decide, fun hh => absurd hh (by decide)⟩ | exact Alw_o (by assumption)) ?_)
theorem i_X7_onesNow_8 {Φ : ASt → Prop} (St : Stb Φ) {N : Nat} : ∀ (n : Nat) (q0 : Int32) (q1 : Int32) (u : ASt), Φ u → Inv Φ (f_X7_onesNow_8 N 95 n q0 q1 u) := by
  intro n
  induction n with
  | zero => intros; exact I_none
  | succ n ih =>
    intro q0 q1 u h
    rw [f_X7_onesNow_8]
    repeat' (first | (with_reducible first | assumption | refine I_chk ?_ | refine I_ite ?_ ?_ | refine I_lte ?_ | refine I_some ?_ | refine ih _ _ _ ?_ | refine I_bnd ?_ (fun _ _ _ => ?_)) | refine St _ _ _ _ (by first | exact ⟨by decide, by decide, fun _ => by decide⟩ | exact ⟨by decide, by decide, fun hh => absurd hh (by decide)⟩ | exact Alw_o (by assumption)) ?_)
theorem i_X7_onesNow {Φ : ASt → Prop} (St : Stb Φ) {N : Nat} {u : ASt} (h : Φ u) : Inv Φ (f_X7_onesNow N 95 u) := by
  unfold f_X7_onesNow
  repeat' (first | (with_reducible first | assumption | refine I_chk ?_ | refine I_ite ?_ ?_ | refine I_lte ?_ | refine I_some ?_ | refine i_X7_laysNow St ?_ | refine i_X7_onesNow_8 St _ _ _ _ ?_ | refine I_bnd ?_ (fun _ _ _ => ?_)) | refine St _ _ _ _ (by first | exact ⟨by decide, by decide, fun _ => by decide⟩ | exact ⟨by decide, by decide, fun hh => absurd hh (by decide)⟩ | exact Alw_o (by assumption)) ?_)
theorem i_X7_kindOf_48 {Φ : ASt → Prop} (St : Stb Φ) {N : Nat} {p1 : Int32} {u : ASt} (h : Φ u) : Inv Φ (f_X7_kindOf_48 N 95 p1 u) := by
  unfold f_X7_kindOf_48
  repeat' (first | (with_reducible first | assumption | refine I_chk ?_ | refine I_ite ?_ ?_ | refine I_lte ?_ | refine I_some ?_ | refine I_bnd ?_ (fun _ _ _ => ?_)) | refine St _ _ _ _ (by first | exact ⟨by decide, by decide, fun _ => by decide⟩ | exact ⟨by decide, by decide, fun hh => absurd hh (by decide)⟩ | exact Alw_o (by assumption)) ?_)
theorem i_X7_kindOf {Φ : ASt → Prop} (St : Stb Φ) {N : Nat} {p1 : Int32} {u : ASt} (h : Φ u) : Inv Φ (f_X7_kindOf N 95 p1 u) := by
  unfold f_X7_kindOf
  repeat' (first | (with_reducible first | assumption | refine I_chk ?_ | refine I_ite ?_ ?_ | refine I_lte ?_ | refine I_some ?_ | refine i_X7_get St ?_ | refine i_X7_kindOf_48 St ?_ | refine I_bnd ?_ (fun _ _ _ => ?_)) | refine St _ _ _ _ (by first | exact ⟨by decide, by decide, fun _ => by decide⟩ | exact ⟨by decide, by decide, fun hh => absurd hh (by decide)⟩ | exact Alw_o (by assumption)) ?_)
theorem i_X7_longOf {Φ : ASt → Prop} (St : Stb Φ) {N : Nat} {p1 : Int32} {u : ASt} (h : Φ u) : Inv Φ (f_X7_longOf N 95 p1 u) := by
  unfold f_X7_longOf
  repeat' (first | (with_reducible first | assumption | refine I_chk ?_ | refine I_ite ?_ ?_ | refine I_lte ?_ | refine I_some ?_ | refine i_X7_kindOf St ?_ | refine i_X7_get St ?_ | refine I_bnd ?_ (fun _ _ _ => ?_)) | refine St _ _ _ _ (by first | exact ⟨by decide, by decide, fun _ => by decide⟩ | exact ⟨by decide, by decide, fun hh => absurd hh (by decide)⟩ | exact Alw_o (by assumption)) ?_)
theorem i_X7_captured_76 {Φ : ASt → Prop} (St : Stb Φ) {N : Nat} {p1 : Int32} {k32 : Int32 → Int32 → ASt → Option (Int32 × ASt)} (hk32 : ∀ (q0 : Int32) (q1 : Int32) (u : ASt), Φ u → Inv Φ (k32 q0 q1 u)) {x4 : Int32} {y0 : Int32} {y1 : Int32} {u : ASt} (h : Φ u) : Inv Φ (f_X7_captured_76 N 95 p1 k32 x4 y0 y1 u) := by
  unfold f_X7_captured_76
  repeat' (first | (with_reducible first | assumption | refine I_chk ?_ | refine I_ite ?_ ?_ | refine I_lte ?_ | refine I_some ?_ | refine hk32 _ _ _ ?_ | refine I_bnd ?_ (fun _ _ _ => ?_)) | refine St _ _ _ _ (by first | exact ⟨by decide, by decide, fun _ => by decide⟩ | exact ⟨by decide, by decide, fun hh => absurd hh (by decide)⟩ | exact Alw_o (by assumption)) ?_)
theorem i_X7_captured_32 {Φ : ASt → Prop} (St : Stb Φ) {N : Nat} {p1 : Int32} : ∀ (n : Nat) (q0 : Int32) (q1 : Int32) (u : ASt), Φ u → Inv Φ (f_X7_captured_32 N 95 p1 n q0 q1 u) := by
  intro n
  induction n with
  | zero => intros; exact I_none
  | succ n ih =>
    intro q0 q1 u h
    rw [f_X7_captured_32]
    repeat' (first | (with_reducible first | assumption | refine I_chk ?_ | refine I_ite ?_ ?_ | refine I_lte ?_ | refine I_some ?_ | refine i_X7_get St ?_ | refine i_X7_isOut St ?_ | refine i_X7_sees St ?_ | refine i_X7_captured_76 St ?_ ?_ | refine ih _ _ _ ?_ | refine I_bnd ?_ (fun _ _ _ => ?_)) | refine St _ _ _ _ (by first | exact ⟨by decide, by decide, fun _ => by decide⟩ | exact ⟨by decide, by decide, fun hh => absurd hh (by decide)⟩ | exact Alw_o (by assumption)) ?_)
theorem i_X7_captured {Φ : ASt → Prop} (St : Stb Φ) {N : Nat} {p1 : Int32} {u : ASt} (h : Φ u) : Inv Φ (f_X7_captured N 95 p1 u) := by
  unfold f_X7_captured
  repeat' (first | (with_reducible first | assumption | refine I_chk ?_ | refine I_ite ?_ ?_ | refine I_lte ?_ | refine I_some ?_ | refine i_X7_kindOf St ?_ | refine i_X7_captured_32 St _ _ _ _ ?_ | refine i_X7_get St ?_ | refine I_bnd ?_ (fun _ _ _ => ?_)) | refine St _ _ _ _ (by first | exact ⟨by decide, by decide, fun _ => by decide⟩ | exact ⟨by decide, by decide, fun hh => absurd hh (by decide)⟩ | exact Alw_o (by assumption)) ?_)
theorem i_X7_shifts_35 {Φ : ASt → Prop} (St : Stb Φ) {N : Nat} {p1 : Int32} {p2 : Int32} {k5 : Int32 → Int32 → ASt → Option (Int32 × ASt)} (hk5 : ∀ (q0 : Int32) (q1 : Int32) (u : ASt), Φ u → Inv Φ (k5 q0 q1 u)) {x3 : Int32} {x4 : Int32} {y0 : Int32} {u : ASt} (h : Φ u) : Inv Φ (f_X7_shifts_35 N 95 p1 p2 k5 x3 x4 y0 u) := by
  unfold f_X7_shifts_35
  repeat' (first | (with_reducible first | assumption | refine I_chk ?_ | refine I_ite ?_ ?_ | refine I_lte ?_ | refine I_some ?_ | refine i_X7_get St ?_ | refine i_X7_at St ?_ | refine hk5 _ _ _ ?_ | refine I_bnd ?_ (fun _ _ _ => ?_)) | refine St _ _ _ _ (by first | exact ⟨by decide, by decide, fun _ => by decide⟩ | exact ⟨by decide, by decide, fun hh => absurd hh (by decide)⟩ | exact Alw_o (by assumption)) ?_)
theorem i_X7_shifts_5 {Φ : ASt → Prop} (St : Stb Φ) {N : Nat} {p1 : Int32} {p2 : Int32} : ∀ (n : Nat) (q0 : Int32) (q1 : Int32) (u : ASt), Φ u → Inv Φ (f_X7_shifts_5 N 95 p1 p2 n q0 q1 u) := by
  intro n
  induction n with
  | zero => intros; exact I_none
  | succ n ih =>
    intro q0 q1 u h
    rw [f_X7_shifts_5]
    repeat' (first | (with_reducible first | assumption | refine I_chk ?_ | refine I_ite ?_ ?_ | refine I_lte ?_ | refine I_some ?_ | refine i_X7_chips St ?_ | refine i_X7_get St ?_ | refine i_X7_shifts_35 St ?_ ?_ | refine i_X7_longOf St ?_ | refine ih _ _ _ ?_ | refine I_bnd ?_ (fun _ _ _ => ?_)) | refine St _ _ _ _ (by first | exact ⟨by decide, by decide, fun _ => by decide⟩ | exact ⟨by decide, by decide, fun hh => absurd hh (by decide)⟩ | exact Alw_o (by assumption)) ?_)
theorem i_X7_shifts {Φ : ASt → Prop} (St : Stb Φ) {N : Nat} {p1 : Int32} {p2 : Int32} {u : ASt} (h : Φ u) : Inv Φ (f_X7_shifts N 95 p1 p2 u) := by
  unfold f_X7_shifts
  repeat' (first | (with_reducible first | assumption | refine I_chk ?_ | refine I_ite ?_ ?_ | refine I_lte ?_ | refine I_some ?_ | refine i_X7_shifts_5 St _ _ _ _ ?_ | refine I_bnd ?_ (fun _ _ _ => ?_)) | refine St _ _ _ _ (by first | exact ⟨by decide, by decide, fun _ => by decide⟩ | exact ⟨by decide, by decide, fun hh => absurd hh (by decide)⟩ | exact Alw_o (by assumption)) ?_)
theorem i_X7_doesPlace_136 {Φ : ASt → Prop} (St : Stb Φ) {N : Nat} {p1 : Int32} {k6 : Int32 → ASt → Option (Unit × ASt)} (hk6 : ∀ (q0 : Int32) (u : ASt), Φ u → Inv Φ (k6 q0 u)) {x2 : Int32} {u : ASt} (h : Φ u) : Inv Φ (f_X7_doesPlace_136 N 95 p1 k6 x2 u) := by
  unfold f_X7_doesPlace_136
  repeat' (first | (with_reducible first | assumption | refine I_chk ?_ | refine I_ite ?_ ?_ | refine I_lte ?_ | refine I_some ?_ | refine hk6 _ _ ?_ | refine I_bnd ?_ (fun _ _ _ => ?_)) | refine St _ _ _ _ (by first | exact ⟨by decide, by decide, fun _ => by decide⟩ | exact ⟨by decide, by decide, fun hh => absurd hh (by decide)⟩ | exact Alw_o (by assumption)) ?_)
theorem i_X7_doesPlace_6 {Φ : ASt → Prop} (St : Stb Φ) {N : Nat} {p1 : Int32} : ∀ (n : Nat) (q0 : Int32) (u : ASt), Φ u → Inv Φ (f_X7_doesPlace_6 N 95 p1 n q0 u) := by
  intro n
  induction n with
  | zero => intros; exact I_none
  | succ n ih =>
    intro q0 u h
    rw [f_X7_doesPlace_6]
    repeat' (first | (with_reducible first | assumption | refine I_chk ?_ | refine I_ite ?_ ?_ | refine I_lte ?_ | refine I_some ?_ | refine i_X7_chips St ?_ | refine i_X7_at St ?_ | refine i_X7_firstOf St ?_ | refine i_X7_doesPlace_136 St ?_ ?_ | refine i_X7_captured St ?_ | refine i_X7_get St ?_ | refine i_X7_kindOf St ?_ | refine ih _ _ ?_ | refine I_bnd ?_ (fun _ _ _ => ?_)) | refine St _ _ _ _ (by first | exact ⟨by decide, by decide, fun _ => by decide⟩ | exact ⟨by decide, by decide, fun hh => absurd hh (by decide)⟩ | exact Alw_o (by assumption)) ?_)
theorem i_X7_doesPlace {Φ : ASt → Prop} (St : Stb Φ) {N : Nat} {p1 : Int32} {u : ASt} (h : Φ u) : Inv Φ (f_X7_doesPlace N 95 p1 u) := by
  unfold f_X7_doesPlace
  repeat' (first | (with_reducible first | assumption | refine I_chk ?_ | refine I_ite ?_ ?_ | refine I_lte ?_ | refine I_some ?_ | refine i_X7_laysNow St ?_ | refine i_X7_doesPlace_6 St _ _ _ ?_ | refine I_bnd ?_ (fun _ _ _ => ?_)) | refine St _ _ _ _ (by first | exact ⟨by decide, by decide, fun _ => by decide⟩ | exact ⟨by decide, by decide, fun hh => absurd hh (by decide)⟩ | exact Alw_o (by assumption)) ?_)
theorem i_X7_nextPlace {Φ : ASt → Prop} (St : Stb Φ) {N : Nat} {p1 : Int32} {p2 : Int32} {u : ASt} (h : Φ u) : Inv Φ (f_X7_nextPlace N p1 p2 u) := by
  unfold f_X7_nextPlace
  repeat' (first | (with_reducible first | assumption | refine I_chk ?_ | refine I_ite ?_ ?_ | refine I_lte ?_ | refine I_some ?_ | refine I_bnd ?_ (fun _ _ _ => ?_)) | refine St _ _ _ _ (by first | exact ⟨by decide, by decide, fun _ => by decide⟩ | exact ⟨by decide, by decide, fun hh => absurd hh (by decide)⟩ | exact Alw_o (by assumption)) ?_)
theorem i_X7_clocksOnce_47 {Φ : ASt → Prop} (St : Stb Φ) {N : Nat} {p1 : Int32} {p2 : Int32} {x3 : Int32} {x4 : Int32} {u : ASt} (h : Φ u) : Inv Φ (f_X7_clocksOnce_47 N 95 p1 p2 x3 x4 u) := by
  unfold f_X7_clocksOnce_47
  repeat' (first | (with_reducible first | assumption | refine I_chk ?_ | refine I_ite ?_ ?_ | refine I_lte ?_ | refine I_some ?_ | refine i_X7_nextPlace St ?_ | refine I_bnd ?_ (fun _ _ _ => ?_)) | refine St _ _ _ _ (by first | exact ⟨by decide, by decide, fun _ => by decide⟩ | exact ⟨by decide, by decide, fun hh => absurd hh (by decide)⟩ | exact Alw_o (by assumption)) ?_)
theorem i_X7_clocksOnce_33 {Φ : ASt → Prop} (St : Stb Φ) {N : Nat} {p1 : Int32} {p2 : Int32} {x3 : Int32} {y1 : Int32} {u : ASt} (h : Φ u) : Inv Φ (f_X7_clocksOnce_33 N 95 p1 p2 x3 95 y1 u) := by
  unfold f_X7_clocksOnce_33
  repeat' (first | (with_reducible first | assumption | refine I_chk ?_ | refine I_ite ?_ ?_ | refine I_lte ?_ | refine I_some ?_ | refine i_X7_shifts St ?_ | refine i_X7_clocksOnce_47 St ?_ | refine I_bnd ?_ (fun _ _ _ => ?_)) | refine St _ _ _ _ (by first | exact ⟨by decide, by decide, fun _ => by decide⟩ | exact ⟨by decide, by decide, fun hh => absurd hh (by decide)⟩ | exact Alw_o (by assumption)) ?_)
theorem i_X7_clocksOnce_21 {Φ : ASt → Prop} (St : Stb Φ) {N : Nat} {p1 : Int32} {p2 : Int32} {x3 : Int32} {u : ASt} (h : Φ u) : Inv Φ (f_X7_clocksOnce_21 N 95 p1 p2 x3 u) := by
  unfold f_X7_clocksOnce_21
  repeat' (first | (with_reducible first | assumption | refine I_chk ?_ | refine I_ite ?_ ?_ | refine I_lte ?_ | refine I_some ?_ | refine i_X7_clocksOnce_33 St ?_ | refine I_bnd ?_ (fun _ _ _ => ?_)) | refine St _ _ _ _ (by first | exact ⟨by decide, by decide, fun _ => by decide⟩ | exact ⟨by decide, by decide, fun hh => absurd hh (by decide)⟩ | exact Alw_o (by assumption)) ?_)
theorem i_X7_clocksOnce {Φ : ASt → Prop} (St : Stb Φ) {N : Nat} {p1 : Int32} {p2 : Int32} {u : ASt} (h : Φ u) : Inv Φ (f_X7_clocksOnce N 95 p1 p2 u) := by
  unfold f_X7_clocksOnce
  repeat' (first | (with_reducible first | assumption | refine I_chk ?_ | refine I_ite ?_ ?_ | refine I_lte ?_ | refine I_some ?_ | refine i_X7_clocksOnce_21 St ?_ | refine i_X7_doesPlace St ?_ | refine i_X7_clocksOnce_47 St ?_ | refine I_bnd ?_ (fun _ _ _ => ?_)) | refine St _ _ _ _ (by first | exact ⟨by decide, by decide, fun _ => by decide⟩ | exact ⟨by decide, by decide, fun hh => absurd hh (by decide)⟩ | exact Alw_o (by assumption)) ?_)
theorem i_X7_clocksTo_23 {Φ : ASt → Prop} (St : Stb Φ) {N : Nat} {p1 : Int32} {p2 : Int32} {u : ASt} (h : Φ u) : Inv Φ (f_X7_clocksTo_23 N 95 p1 p2 u) := by
  unfold f_X7_clocksTo_23
  repeat' (first | (with_reducible first | assumption | refine I_chk ?_ | refine I_ite ?_ ?_ | refine I_lte ?_ | refine I_some ?_ | refine I_bnd ?_ (fun _ _ _ => ?_)) | refine St _ _ _ _ (by first | exact ⟨by decide, by decide, fun _ => by decide⟩ | exact ⟨by decide, by decide, fun hh => absurd hh (by decide)⟩ | exact Alw_o (by assumption)) ?_)
theorem i_X7_clocksTo {Φ : ASt → Prop} (St : Stb Φ) {N : Nat} {p1 : Int32} {p2 : Int32} {u : ASt} (h : Φ u) : Inv Φ (f_X7_clocksTo N 95 p1 p2 u) := by
  unfold f_X7_clocksTo
  repeat' (first | (with_reducible first | assumption | refine I_chk ?_ | refine I_ite ?_ ?_ | refine I_lte ?_ | refine I_some ?_ | refine i_X7_isBit St ?_ | refine i_X7_clocksTo_23 St ?_ | refine i_X7_clocksOnce St ?_ | refine I_bnd ?_ (fun _ _ _ => ?_)) | refine St _ _ _ _ (by first | exact ⟨by decide, by decide, fun _ => by decide⟩ | exact ⟨by decide, by decide, fun hh => absurd hh (by decide)⟩ | exact Alw_o (by assumption)) ?_)
theorem i_X7_clock {Φ : ASt → Prop} (St : Stb Φ) {N : Nat} {p1 : Int32} {p2 : Int32} {u : ASt} (h : Φ u) : Inv Φ (f_X7_clock N 95 p1 p2 u) := by
  unfold f_X7_clock
  repeat' (first | (with_reducible first | assumption | refine I_chk ?_ | refine I_ite ?_ ?_ | refine I_lte ?_ | refine I_some ?_ | refine i_X7_laysAside St ?_ | refine i_X7_clocksTo St ?_ | refine i_X7_ends St ?_ | refine I_bnd ?_ (fun _ _ _ => ?_)) | refine St _ _ _ _ (by first | exact ⟨by decide, by decide, fun _ => by decide⟩ | exact ⟨by decide, by decide, fun hh => absurd hh (by decide)⟩ | exact Alw_o (by assumption)) ?_)
theorem i_X7_clocks_104 {Φ : ASt → Prop} (St : Stb Φ) {N : Nat} {p1 : Int32} {p2 : Int32} {p3 : Int32} {k48 : Int32 → Int32 → Int32 → ASt → Option (Int32 × ASt)} (hk48 : ∀ (q0 : Int32) (q1 : Int32) (q2 : Int32) (u : ASt), Φ u → Inv Φ (k48 q0 q1 q2 u)) {x4 : Int32} {x6 : Int32} {y0 : Int32} {y1 : Int32} {u : ASt} (h : Φ u) : Inv Φ (f_X7_clocks_104 N 95 p1 p2 p3 k48 x4 x6 y0 y1 u) := by
  unfold f_X7_clocks_104
  repeat' (first | (with_reducible first | assumption | refine I_chk ?_ | refine I_ite ?_ ?_ | refine I_lte ?_ | refine I_some ?_ | refine hk48 _ _ _ _ ?_ | refine I_bnd ?_ (fun _ _ _ => ?_)) | refine St _ _ _ _ (by first | exact ⟨by decide, by decide, fun _ => by decide⟩ | exact ⟨by decide, by decide, fun hh => absurd hh (by decide)⟩ | exact Alw_o (by assumption)) ?_)
theorem i_X7_clocks_88 {Φ : ASt → Prop} (St : Stb Φ) {N : Nat} {p1 : Int32} {p2 : Int32} {p3 : Int32} {k48 : Int32 → Int32 → Int32 → ASt → Option (Int32 × ASt)} (hk48 : ∀ (q0 : Int32) (q1 : Int32) (q2 : Int32) (u : ASt), Φ u → Inv Φ (k48 q0 q1 q2 u)) {x5 : Int32} {x6 : Int32} {x7 : Int32} {y0 : Int32} {y1 : Int32} {u : ASt} (h : Φ u) : Inv Φ (f_X7_clocks_88 N 95 p1 p2 p3 k48 x5 x6 x7 y0 y1 u) := by
  unfold f_X7_clocks_88
  repeat' (first | (with_reducible first | assumption | refine I_chk ?_ | refine I_ite ?_ ?_ | refine I_lte ?_ | refine I_some ?_ | refine i_X7_clocks_104 St ?_ ?_ | refine hk48 _ _ _ _ ?_ | refine I_bnd ?_ (fun _ _ _ => ?_)) | refine St _ _ _ _ (by first | exact ⟨by decide, by decide, fun _ => by decide⟩ | exact ⟨by decide, by decide, fun hh => absurd hh (by decide)⟩ | exact Alw_o (by assumption)) ?_)
theorem i_X7_clocks_48 {Φ : ASt → Prop} (St : Stb Φ) {N : Nat} {p1 : Int32} {p2 : Int32} {p3 : Int32} : ∀ (n : Nat) (q0 : Int32) (q1 : Int32) (q2 : Int32) (u : ASt), Φ u → Inv Φ (f_X7_clocks_48 N 95 p1 p2 p3 n q0 q1 q2 u) := by
  intro n
  induction n with
  | zero => intros; exact I_none
  | succ n ih =>
    intro q0 q1 q2 u h
    rw [f_X7_clocks_48]
    repeat' (first | (with_reducible first | assumption | refine I_chk ?_ | refine I_ite ?_ ?_ | refine I_lte ?_ | refine I_some ?_ | refine i_X7_leaves St ?_ | refine i_X7_clocksOnce St ?_ | refine i_X7_clocks_88 St ?_ ?_ | refine ih _ _ _ _ ?_ | refine I_bnd ?_ (fun _ _ _ => ?_)) | refine St _ _ _ _ (by first | exact ⟨by decide, by decide, fun _ => by decide⟩ | exact ⟨by decide, by decide, fun hh => absurd hh (by decide)⟩ | exact Alw_o (by assumption)) ?_)
theorem i_X7_clocks_30 {Φ : ASt → Prop} (St : Stb Φ) {N : Nat} {p1 : Int32} {p2 : Int32} {p3 : Int32} {u : ASt} (h : Φ u) : Inv Φ (f_X7_clocks_30 N 95 p1 p2 p3 u) := by
  unfold f_X7_clocks_30
  repeat' (first | (with_reducible first | assumption | refine I_chk ?_ | refine I_ite ?_ ?_ | refine I_lte ?_ | refine I_some ?_ | refine i_X7_bad St ?_ | refine I_bnd ?_ (fun _ _ _ => ?_)) | refine St _ _ _ _ (by first | exact ⟨by decide, by decide, fun _ => by decide⟩ | exact ⟨by decide, by decide, fun hh => absurd hh (by decide)⟩ | exact Alw_o (by assumption)) ?_)
theorem i_X7_clocks {Φ : ASt → Prop} (St : Stb Φ) {N : Nat} {p1 : Int32} {p2 : Int32} {p3 : Int32} {u : ASt} (h : Φ u) : Inv Φ (f_X7_clocks N 95 p1 p2 p3 u) := by
  unfold f_X7_clocks
  repeat' (first | (with_reducible first | assumption | refine I_chk ?_ | refine I_ite ?_ ?_ | refine I_lte ?_ | refine I_some ?_ | refine i_X7_within St ?_ | refine i_X7_clocks_30 St ?_ | refine i_X7_laysAside St ?_ | refine i_X7_clocks_48 St _ _ _ _ _ ?_ | refine I_bnd ?_ (fun _ _ _ => ?_)) | refine St _ _ _ _ (by first | exact ⟨by decide, by decide, fun _ => by decide⟩ | exact ⟨by decide, by decide, fun hh => absurd hh (by decide)⟩ | exact Alw_o (by assumption)) ?_)
theorem i_X7_longAll_31 {Φ : ASt → Prop} (St : Stb Φ) {N : Nat} {p1 : Int32} {k4 : Int32 → Int32 → ASt → Option (Int32 × ASt)} (hk4 : ∀ (q0 : Int32) (q1 : Int32) (u : ASt), Φ u → Inv Φ (k4 q0 q1 u)) {x3 : Int32} {y0 : Int32} {y1 : Int32} {u : ASt} (h : Φ u) : Inv Φ (f_X7_longAll_31 N 95 p1 k4 x3 y0 y1 u) := by
  unfold f_X7_longAll_31
  repeat' (first | (with_reducible first | assumption | refine I_chk ?_ | refine I_ite ?_ ?_ | refine I_lte ?_ | refine I_some ?_ | refine hk4 _ _ _ ?_ | refine I_bnd ?_ (fun _ _ _ => ?_)) | refine St _ _ _ _ (by first | exact ⟨by decide, by decide, fun _ => by decide⟩ | exact ⟨by decide, by decide, fun hh => absurd hh (by decide)⟩ | exact Alw_o (by assumption)) ?_)
theorem i_X7_longAll_4 {Φ : ASt → Prop} (St : Stb Φ) {N : Nat} {p1 : Int32} : ∀ (n : Nat) (q0 : Int32) (q1 : Int32) (u : ASt), Φ u → Inv Φ (f_X7_longAll_4 N 95 p1 n q0 q1 u) := by
  intro n
  induction n with
  | zero => intros; exact I_none
  | succ n ih =>
    intro q0 q1 u h
    rw [f_X7_longAll_4]
    repeat' (first | (with_reducible first | assumption | refine I_chk ?_ | refine I_ite ?_ ?_ | refine I_lte ?_ | refine I_some ?_ | refine i_X7_chips St ?_ | refine i_X7_longOf St ?_ | refine i_X7_longAll_31 St ?_ ?_ | refine i_X7_get St ?_ | refine ih _ _ _ ?_ | refine I_bnd ?_ (fun _ _ _ => ?_)) | refine St _ _ _ _ (by first | exact ⟨by decide, by decide, fun _ => by decide⟩ | exact ⟨by decide, by decide, fun hh => absurd hh (by decide)⟩ | exact Alw_o (by assumption)) ?_)
theorem i_X7_longAll {Φ : ASt → Prop} (St : Stb Φ) {N : Nat} {p1 : Int32} {u : ASt} (h : Φ u) : Inv Φ (f_X7_longAll N 95 p1 u) := by
  unfold f_X7_longAll
  repeat' (first | (with_reducible first | assumption | refine I_chk ?_ | refine I_ite ?_ ?_ | refine I_lte ?_ | refine I_some ?_ | refine i_X7_longAll_4 St _ _ _ _ ?_ | refine I_bnd ?_ (fun _ _ _ => ?_)) | refine St _ _ _ _ (by first | exact ⟨by decide, by decide, fun _ => by decide⟩ | exact ⟨by decide, by decide, fun hh => absurd hh (by decide)⟩ | exact Alw_o (by assumption)) ?_)
theorem i_X7_fightsNow {Φ : ASt → Prop} (St : Stb Φ) {N : Nat} {u : ASt} (h : Φ u) : Inv Φ (f_X7_fightsNow N 95 u) := by
  unfold f_X7_fightsNow
  repeat' (first | (with_reducible first | assumption | refine I_chk ?_ | refine I_ite ?_ ?_ | refine I_lte ?_ | refine I_some ?_ | refine i_X7_laysNow St ?_ | refine I_bnd ?_ (fun _ _ _ => ?_)) | refine St _ _ _ _ (by first | exact ⟨by decide, by decide, fun _ => by decide⟩ | exact ⟨by decide, by decide, fun hh => absurd hh (by decide)⟩ | exact Alw_o (by assumption)) ?_)
theorem i_X7_tellPort {Φ : ASt → Prop} (St : Stb Φ) {N : Nat} {p1 : Int32} {u : ASt} (h : Φ u) : Inv Φ (f_X7_tellPort N 95 p1 u) := by
  unfold f_X7_tellPort
  repeat' (first | (with_reducible first | assumption | refine I_chk ?_ | refine I_ite ?_ ?_ | refine I_lte ?_ | refine I_some ?_ | refine i_X7_longAll St ?_ | refine i_X7_fightsNow St ?_ | refine i_X7_onesNow St ?_ | refine I_bnd ?_ (fun _ _ _ => ?_)) | refine St _ _ _ _ (by first | exact ⟨by decide, by decide, fun _ => by decide⟩ | exact ⟨by decide, by decide, fun hh => absurd hh (by decide)⟩ | exact Alw_o (by assumption)) ?_)
theorem i_X7_port {Φ : ASt → Prop} (St : Stb Φ) {N : Nat} {p1 : Int32} {u : ASt} (h : Φ u) : Inv Φ (f_X7_port N 95 p1 u) := by
  unfold f_X7_port
  repeat' (first | (with_reducible first | assumption | refine I_chk ?_ | refine I_ite ?_ ?_ | refine I_lte ?_ | refine I_some ?_ | refine i_X7_within St ?_ | refine i_X7_bad St ?_ | refine i_X7_tellPort St ?_ | refine I_bnd ?_ (fun _ _ _ => ?_)) | refine St _ _ _ _ (by first | exact ⟨by decide, by decide, fun _ => by decide⟩ | exact ⟨by decide, by decide, fun hh => absurd hh (by decide)⟩ | exact Alw_o (by assumption)) ?_)
theorem i_X7_tellChip {Φ : ASt → Prop} (St : Stb Φ) {N : Nat} {p1 : Int32} {p2 : Int32} {u : ASt} (h : Φ u) : Inv Φ (f_X7_tellChip N 95 p1 p2 u) := by
  unfold f_X7_tellChip
  repeat' (first | (with_reducible first | assumption | refine I_chk ?_ | refine I_ite ?_ ?_ | refine I_lte ?_ | refine I_some ?_ | refine i_X7_get St ?_ | refine i_X7_longOf St ?_ | refine I_bnd ?_ (fun _ _ _ => ?_)) | refine St _ _ _ _ (by first | exact ⟨by decide, by decide, fun _ => by decide⟩ | exact ⟨by decide, by decide, fun hh => absurd hh (by decide)⟩ | exact Alw_o (by assumption)) ?_)
theorem i_X7_of_27 {Φ : ASt → Prop} (St : Stb Φ) {N : Nat} {p1 : Int32} {p2 : Int32} {u : ASt} (h : Φ u) : Inv Φ (f_X7_of_27 N 95 p1 p2 u) := by
  unfold f_X7_of_27
  repeat' (first | (with_reducible first | assumption | refine I_chk ?_ | refine I_ite ?_ ?_ | refine I_lte ?_ | refine I_some ?_ | refine i_X7_bad St ?_ | refine I_bnd ?_ (fun _ _ _ => ?_)) | refine St _ _ _ _ (by first | exact ⟨by decide, by decide, fun _ => by decide⟩ | exact ⟨by decide, by decide, fun hh => absurd hh (by decide)⟩ | exact Alw_o (by assumption)) ?_)
theorem i_X7_of {Φ : ASt → Prop} (St : Stb Φ) {N : Nat} {p1 : Int32} {p2 : Int32} {u : ASt} (h : Φ u) : Inv Φ (f_X7_of N 95 p1 p2 u) := by
  unfold f_X7_of
  repeat' (first | (with_reducible first | assumption | refine I_chk ?_ | refine I_ite ?_ ?_ | refine I_lte ?_ | refine I_some ?_ | refine i_X7_isChip St ?_ | refine i_X7_of_27 St ?_ | refine i_X7_within St ?_ | refine i_X7_tellChip St ?_ | refine I_bnd ?_ (fun _ _ _ => ?_)) | refine St _ _ _ _ (by first | exact ⟨by decide, by decide, fun _ => by decide⟩ | exact ⟨by decide, by decide, fun hh => absurd hh (by decide)⟩ | exact Alw_o (by assumption)) ?_)
theorem i_X7_tellCell {Φ : ASt → Prop} (St : Stb Φ) {N : Nat} {p1 : Int32} {p2 : Int32} {p3 : Int32} {u : ASt} (h : Φ u) : Inv Φ (f_X7_tellCell N 95 p1 p2 p3 u) := by
  unfold f_X7_tellCell
  repeat' (first | (with_reducible first | assumption | refine I_chk ?_ | refine I_ite ?_ ?_ | refine I_lte ?_ | refine I_some ?_ | refine i_X7_laysNow St ?_ | refine i_X7_isOut St ?_ | refine i_X7_sees St ?_ | refine i_X7_get St ?_ | refine I_bnd ?_ (fun _ _ _ => ?_)) | refine St _ _ _ _ (by first | exact ⟨by decide, by decide, fun _ => by decide⟩ | exact ⟨by decide, by decide, fun hh => absurd hh (by decide)⟩ | exact Alw_o (by assumption)) ?_)
theorem i_X7_about_28 {Φ : ASt → Prop} (St : Stb Φ) {N : Nat} {p1 : Int32} {p2 : Int32} {p3 : Int32} {u : ASt} (h : Φ u) : Inv Φ (f_X7_about_28 N 95 p1 p2 p3 u) := by
  unfold f_X7_about_28
  repeat' (first | (with_reducible first | assumption | refine I_chk ?_ | refine I_ite ?_ ?_ | refine I_lte ?_ | refine I_some ?_ | refine i_X7_bad St ?_ | refine I_bnd ?_ (fun _ _ _ => ?_)) | refine St _ _ _ _ (by first | exact ⟨by decide, by decide, fun _ => by decide⟩ | exact ⟨by decide, by decide, fun hh => absurd hh (by decide)⟩ | exact Alw_o (by assumption)) ?_)
theorem i_X7_about {Φ : ASt → Prop} (St : Stb Φ) {N : Nat} {p1 : Int32} {p2 : Int32} {p3 : Int32} {u : ASt} (h : Φ u) : Inv Φ (f_X7_about N 95 p1 p2 p3 u) := by
  unfold f_X7_about
  repeat' (first | (with_reducible first | assumption | refine I_chk ?_ | refine I_ite ?_ ?_ | refine I_lte ?_ | refine I_some ?_ | refine i_X7_isCell St ?_ | refine i_X7_about_28 St ?_ | refine i_X7_within St ?_ | refine i_X7_tellCell St ?_ | refine I_bnd ?_ (fun _ _ _ => ?_)) | refine St _ _ _ _ (by first | exact ⟨by decide, by decide, fun _ => by decide⟩ | exact ⟨by decide, by decide, fun hh => absurd hh (by decide)⟩ | exact Alw_o (by assumption)) ?_)
theorem i_X7_cells_4 {Φ : ASt → Prop} (St : Stb Φ) {N : Nat} : ∀ (n : Nat) (q0 : Int32) (q1 : Int32) (u : ASt), Φ u → Inv Φ (f_X7_cells_4 N 95 n q0 q1 u) := by
  intro n
  induction n with
  | zero => intros; exact I_none
  | succ n ih =>
    intro q0 q1 u h
    rw [f_X7_cells_4]
    repeat' (first | (with_reducible first | assumption | refine I_chk ?_ | refine I_ite ?_ ?_ | refine I_lte ?_ | refine I_some ?_ | refine i_X7_chips St ?_ | refine i_X7_get St ?_ | refine ih _ _ _ ?_ | refine I_bnd ?_ (fun _ _ _ => ?_)) | refine St _ _ _ _ (by first | exact ⟨by decide, by decide, fun _ => by decide⟩ | exact ⟨by decide, by decide, fun hh => absurd hh (by decide)⟩ | exact Alw_o (by assumption)) ?_)
theorem i_X7_cells {Φ : ASt → Prop} (St : Stb Φ) {N : Nat} {u : ASt} (h : Φ u) : Inv Φ (f_X7_cells N 95 u) := by
  unfold f_X7_cells
  repeat' (first | (with_reducible first | assumption | refine I_chk ?_ | refine I_ite ?_ ?_ | refine I_lte ?_ | refine I_some ?_ | refine i_X7_cells_4 St _ _ _ _ ?_ | refine I_bnd ?_ (fun _ _ _ => ?_)) | refine St _ _ _ _ (by first | exact ⟨by decide, by decide, fun _ => by decide⟩ | exact ⟨by decide, by decide, fun hh => absurd hh (by decide)⟩ | exact Alw_o (by assumption)) ?_)
theorem i_X7_countOf {Φ : ASt → Prop} (St : Stb Φ) {N : Nat} {p1 : Int32} {u : ASt} (h : Φ u) : Inv Φ (f_X7_countOf N 95 p1 u) := by
  unfold f_X7_countOf
  repeat' (first | (with_reducible first | assumption | refine I_chk ?_ | refine I_ite ?_ ?_ | refine I_lte ?_ | refine I_some ?_ | refine i_X7_chips St ?_ | refine i_X7_cells St ?_ | refine i_X7_netsWithCells St ?_ | refine i_X7_outs St ?_ | refine I_bnd ?_ (fun _ _ _ => ?_)) | refine St _ _ _ _ (by first | exact ⟨by decide, by decide, fun _ => by decide⟩ | exact ⟨by decide, by decide, fun hh => absurd hh (by decide)⟩ | exact Alw_o (by assumption)) ?_)
theorem i_X7_count {Φ : ASt → Prop} (St : Stb Φ) {N : Nat} {p1 : Int32} {u : ASt} (h : Φ u) : Inv Φ (f_X7_count N 95 p1 u) := by
  unfold f_X7_count
  repeat' (first | (with_reducible first | assumption | refine I_chk ?_ | refine I_ite ?_ ?_ | refine I_lte ?_ | refine I_some ?_ | refine i_X7_within St ?_ | refine i_X7_bad St ?_ | refine i_X7_countOf St ?_ | refine I_bnd ?_ (fun _ _ _ => ?_)) | refine St _ _ _ _ (by first | exact ⟨by decide, by decide, fun _ => by decide⟩ | exact ⟨by decide, by decide, fun hh => absurd hh (by decide)⟩ | exact Alw_o (by assumption)) ?_)
theorem i_X7_fault {Φ : ASt → Prop} (St : Stb Φ) {N : Nat} {p1 : Int32} {u : ASt} (h : Φ u) : Inv Φ (f_X7_fault N 95 p1 u) := by
  unfold f_X7_fault
  repeat' (first | (with_reducible first | assumption | refine I_chk ?_ | refine I_ite ?_ ?_ | refine I_lte ?_ | refine I_some ?_ | refine i_X7_bad St ?_ | refine I_bnd ?_ (fun _ _ _ => ?_)) | refine St _ _ _ _ (by first | exact ⟨by decide, by decide, fun _ => by decide⟩ | exact ⟨by decide, by decide, fun hh => absurd hh (by decide)⟩ | exact Alw_o (by assumption)) ?_)
theorem i_X7_patternsOf {Φ : ASt → Prop} (St : Stb Φ) {N : Nat} {p1 : Int32} {u : ASt} (h : Φ u) : Inv Φ (f_X7_patternsOf N 95 p1 u) := by
  unfold f_X7_patternsOf
  repeat' (first | (with_reducible first | assumption | refine I_chk ?_ | refine I_ite ?_ ?_ | refine I_lte ?_ | refine I_some ?_ | refine i_X7_counting St ?_ | refine I_bnd ?_ (fun _ _ _ => ?_)) | refine St _ _ _ _ (by first | exact ⟨by decide, by decide, fun _ => by decide⟩ | exact ⟨by decide, by decide, fun hh => absurd hh (by decide)⟩ | exact Alw_o (by assumption)) ?_)
theorem i_X7_patterns {Φ : ASt → Prop} (St : Stb Φ) {N : Nat} {p1 : Int32} {u : ASt} (h : Φ u) : Inv Φ (f_X7_patterns N 95 p1 u) := by
  unfold f_X7_patterns
  repeat' (first | (with_reducible first | assumption | refine I_chk ?_ | refine I_ite ?_ ?_ | refine I_lte ?_ | refine I_some ?_ | refine i_X7_isBit St ?_ | refine i_X7_bad St ?_ | refine i_X7_patternsOf St ?_ | refine I_bnd ?_ (fun _ _ _ => ?_)) | refine St _ _ _ _ (by first | exact ⟨by decide, by decide, fun _ => by decide⟩ | exact ⟨by decide, by decide, fun hh => absurd hh (by decide)⟩ | exact Alw_o (by assumption)) ?_)
theorem i_X7_pattern_29 {Φ : ASt → Prop} (St : Stb Φ) {N : Nat} {p1 : Int32} {p2 : Int32} {p3 : Int32} {u : ASt} (h : Φ u) : Inv Φ (f_X7_pattern_29 N 95 p1 p2 p3 u) := by
  unfold f_X7_pattern_29
  repeat' (first | (with_reducible first | assumption | refine I_chk ?_ | refine I_ite ?_ ?_ | refine I_lte ?_ | refine I_some ?_ | refine i_X7_bad St ?_ | refine I_bnd ?_ (fun _ _ _ => ?_)) | refine St _ _ _ _ (by first | exact ⟨by decide, by decide, fun _ => by decide⟩ | exact ⟨by decide, by decide, fun hh => absurd hh (by decide)⟩ | exact Alw_o (by assumption)) ?_)
theorem i_X7_pattern {Φ : ASt → Prop} (St : Stb Φ) {N : Nat} {p1 : Int32} {p2 : Int32} {p3 : Int32} {u : ASt} (h : Φ u) : Inv Φ (f_X7_pattern N 95 p1 p2 p3 u) := by
  unfold f_X7_pattern
  repeat' (first | (with_reducible first | assumption | refine I_chk ?_ | refine I_ite ?_ ?_ | refine I_lte ?_ | refine I_some ?_ | refine i_X7_isBit St ?_ | refine i_X7_pattern_29 St ?_ | refine i_X7_patternsOf St ?_ | refine i_X7_within St ?_ | refine i_X7_isNet St ?_ | refine i_X7_outs St ?_ | refine i_X7_has St ?_ | refine i_X7_patternAt St ?_ | refine I_bnd ?_ (fun _ _ _ => ?_)) | refine St _ _ _ _ (by first | exact ⟨by decide, by decide, fun _ => by decide⟩ | exact ⟨by decide, by decide, fun hh => absurd hh (by decide)⟩ | exact Alw_o (by assumption)) ?_)
theorem i_X7_laysAnswers_103 {Φ : ASt → Prop} (St : Stb Φ) {N : Nat} {p1 : Int32} {o1 : Nat} (ho : o1 = 103 ∨ o1 = 104) {k27 : Int32 → Int32 → ASt → Option (Unit × ASt)} (hk27 : ∀ (q0 : Int32) (q1 : Int32) (u : ASt), Φ u → Inv Φ (k27 q0 q1 u)) {k42 : Int32 → Int32 → Int32 → ASt → Option (Unit × ASt)} (hk42 : ∀ (q0 : Int32) (q1 : Int32) (q2 : Int32) (u : ASt), Φ u → Inv Φ (k42 q0 q1 q2 u)) {k54 : Int32 → Int32 → Int32 → Int32 → ASt → Option (Unit × ASt)} (hk54 : ∀ (q0 : Int32) (q1 : Int32) (q2 : Int32) (q3 : Int32) (u : ASt), Φ u → Inv Φ (k54 q0 q1 q2 q3 u)) {x3 : Int32} {x4 : Int32} {x5 : Int32} {x6 : Int32} {y1 : Int32} {y2 : Int32} {y3 : Int32} {u : ASt} (h : Φ u) : Inv Φ (f_X7_laysAnswers_103 N 95 p1 o1 k27 k42 k54 x3 x4 x5 x6 o1 y1 y2 y3 u) := by
  unfold f_X7_laysAnswers_103
  repeat' (first | (with_reducible first | assumption | refine I_chk ?_ | refine I_ite ?_ ?_ | refine I_lte ?_ | refine I_some ?_ | refine hk27 _ _ _ ?_ | refine hk42 _ _ _ _ ?_ | refine hk54 _ _ _ _ _ ?_ | refine I_bnd ?_ (fun _ _ _ => ?_)) | refine St _ _ _ _ (by first | exact ⟨by decide, by decide, fun _ => by decide⟩ | exact ⟨by decide, by decide, fun hh => absurd hh (by decide)⟩ | exact Alw_o (by assumption)) ?_)
theorem i_X7_laysAnswers_54 {Φ : ASt → Prop} (St : Stb Φ) {N : Nat} {p1 : Int32} {o1 : Nat} (ho : o1 = 103 ∨ o1 = 104) {k27 : Int32 → Int32 → ASt → Option (Unit × ASt)} (hk27 : ∀ (q0 : Int32) (q1 : Int32) (u : ASt), Φ u → Inv Φ (k27 q0 q1 u)) {k42 : Int32 → Int32 → Int32 → ASt → Option (Unit × ASt)} (hk42 : ∀ (q0 : Int32) (q1 : Int32) (q2 : Int32) (u : ASt), Φ u → Inv Φ (k42 q0 q1 q2 u)) : ∀ (n : Nat) (q0 : Int32) (q1 : Int32) (q2 : Int32) (q3 : Int32) (u : ASt), Φ u → Inv Φ (f_X7_laysAnswers_54 N 95 p1 o1 k27 k42 n q0 q1 q2 q3 u) := by
  intro n
  induction n with
  | zero => intros; exact I_none
  | succ n ih =>
    intro q0 q1 q2 q3 u h
    rw [f_X7_laysAnswers_54]
    repeat' (first | (with_reducible first | assumption | refine I_chk ?_ | refine I_ite ?_ ?_ | refine I_lte ?_ | refine I_some ?_ | refine i_X7_get St ?_ | refine i_X7_isOut St ?_ | refine i_X7_sees St ?_ | refine i_X7_laysAnswers_103 St (by first | assumption | decide) ?_ ?_ ?_ ?_ | refine hk27 _ _ _ ?_ | refine hk42 _ _ _ _ ?_ | refine ih _ _ _ _ _ ?_ | refine I_bnd ?_ (fun _ _ _ => ?_)) | refine St _ _ _ _ (by first | exact ⟨by decide, by decide, fun _ => by decide⟩ | exact ⟨by decide, by decide, fun hh => absurd hh (by decide)⟩ | exact Alw_o (by assumption)) ?_)
theorem i_X7_laysAnswers_42 {Φ : ASt → Prop} (St : Stb Φ) {N : Nat} {p1 : Int32} {o1 : Nat} (ho : o1 = 103 ∨ o1 = 104) {k27 : Int32 → Int32 → ASt → Option (Unit × ASt)} (hk27 : ∀ (q0 : Int32) (q1 : Int32) (u : ASt), Φ u → Inv Φ (k27 q0 q1 u)) : ∀ (n : Nat) (q0 : Int32) (q1 : Int32) (q2 : Int32) (u : ASt), Φ u → Inv Φ (f_X7_laysAnswers_42 N 95 p1 o1 k27 n q0 q1 q2 u) := by
  intro n
  induction n with
  | zero => intros; exact I_none
  | succ n ih =>
    intro q0 q1 q2 u h
    rw [f_X7_laysAnswers_42]
    repeat' (first | (with_reducible first | assumption | refine I_chk ?_ | refine I_ite ?_ ?_ | refine I_lte ?_ | refine I_some ?_ | refine i_X7_chips St ?_ | refine i_X7_laysAnswers_54 St (by first | assumption | decide) ?_ ?_ _ _ _ _ _ _ ?_ | refine hk27 _ _ _ ?_ | refine ih _ _ _ _ ?_ | refine I_bnd ?_ (fun _ _ _ => ?_)) | refine St _ _ _ _ (by first | exact ⟨by decide, by decide, fun _ => by decide⟩ | exact ⟨by decide, by decide, fun hh => absurd hh (by decide)⟩ | exact Alw_o (by assumption)) ?_)
theorem i_X7_laysAnswers_27 {Φ : ASt → Prop} (St : Stb Φ) {N : Nat} {p1 : Int32} {o1 : Nat} (ho : o1 = 103 ∨ o1 = 104) : ∀ (n : Nat) (q0 : Int32) (q1 : Int32) (u : ASt), Φ u → Inv Φ (f_X7_laysAnswers_27 N 95 p1 o1 n q0 q1 u) := by
  intro n
  induction n with
  | zero => intros; exact I_none
  | succ n ih =>
    intro q0 q1 u h
    rw [f_X7_laysAnswers_27]
    repeat' (first | (with_reducible first | assumption | refine I_chk ?_ | refine I_ite ?_ ?_ | refine I_lte ?_ | refine I_some ?_ | refine i_X7_laysNets St ?_ | refine i_X7_laysAnswers_42 St (by first | assumption | decide) ?_ _ _ _ _ _ ?_ | refine ih _ _ _ ?_ | refine I_bnd ?_ (fun _ _ _ => ?_)) | refine St _ _ _ _ (by first | exact ⟨by decide, by decide, fun _ => by decide⟩ | exact ⟨by decide, by decide, fun hh => absurd hh (by decide)⟩ | exact Alw_o (by assumption)) ?_)
theorem i_X7_laysAnswers_2 {Φ : ASt → Prop} (St : Stb Φ) {N : Nat} {p1 : Int32} {o1 : Nat} (ho : o1 = 103 ∨ o1 = 104) : ∀ (n : Nat) (q0 : Int32) (u : ASt), Φ u → Inv Φ (f_X7_laysAnswers_2 N 95 p1 o1 n q0 u) := by
  intro n
  induction n with
  | zero => intros; exact I_none
  | succ n ih =>
    intro q0 u h
    rw [f_X7_laysAnswers_2]
    repeat' (first | (with_reducible first | assumption | refine I_chk ?_ | refine I_ite ?_ ?_ | refine I_lte ?_ | refine I_some ?_ | refine i_X7_patternsOf St ?_ | refine i_X7_laysAnswers_27 St (by first | assumption | decide) _ _ _ _ ?_ | refine ih _ _ ?_ | refine I_bnd ?_ (fun _ _ _ => ?_)) | refine St _ _ _ _ (by first | exact ⟨by decide, by decide, fun _ => by decide⟩ | exact ⟨by decide, by decide, fun hh => absurd hh (by decide)⟩ | exact Alw_o (by assumption)) ?_)
theorem i_X7_laysAnswers {Φ : ASt → Prop} (St : Stb Φ) {N : Nat} {p1 : Int32} {o1 : Nat} (ho : o1 = 103 ∨ o1 = 104) {u : ASt} (h : Φ u) : Inv Φ (f_X7_laysAnswers N 95 p1 o1 u) := by
  unfold f_X7_laysAnswers
  repeat' (first | (with_reducible first | assumption | refine I_chk ?_ | refine I_ite ?_ ?_ | refine I_lte ?_ | refine I_some ?_ | refine i_X7_laysAnswers_2 St (by first | assumption | decide) _ _ _ ?_ | refine I_bnd ?_ (fun _ _ _ => ?_)) | refine St _ _ _ _ (by first | exact ⟨by decide, by decide, fun _ => by decide⟩ | exact ⟨by decide, by decide, fun hh => absurd hh (by decide)⟩ | exact Alw_o (by assumption)) ?_)
theorem i_X7_laysAnswersNow {Φ : ASt → Prop} (St : Stb Φ) {N : Nat} {p1 : Int32} {u : ASt} (h : Φ u) : Inv Φ (f_X7_laysAnswersNow N 95 p1 u) := by
  unfold f_X7_laysAnswersNow
  repeat' (first | (with_reducible first | assumption | refine I_chk ?_ | refine I_ite ?_ ?_ | refine I_lte ?_ | refine I_some ?_ | refine i_X7_usesAll St ?_ | refine i_X7_laysAnswers St (by first | assumption | decide) ?_ | refine I_bnd ?_ (fun _ _ _ => ?_)) | refine St _ _ _ _ (by first | exact ⟨by decide, by decide, fun _ => by decide⟩ | exact ⟨by decide, by decide, fun hh => absurd hh (by decide)⟩ | exact Alw_o (by assumption)) ?_)
theorem i_X7_answer_25 {Φ : ASt → Prop} (St : Stb Φ) {N : Nat} {p1 : Int32} {p2 : Int32} {p3 : Int32} {u : ASt} (h : Φ u) : Inv Φ (f_X7_answer_25 N 95 p1 p2 p3 u) := by
  unfold f_X7_answer_25
  repeat' (first | (with_reducible first | assumption | refine I_chk ?_ | refine I_ite ?_ ?_ | refine I_lte ?_ | refine I_some ?_ | refine i_X7_bad St ?_ | refine I_bnd ?_ (fun _ _ _ => ?_)) | refine St _ _ _ _ (by first | exact ⟨by decide, by decide, fun _ => by decide⟩ | exact ⟨by decide, by decide, fun hh => absurd hh (by decide)⟩ | exact Alw_o (by assumption)) ?_)
theorem i_X7_answer {Φ : ASt → Prop} (St : Stb Φ) {N : Nat} {p1 : Int32} {p2 : Int32} {p3 : Int32} {u : ASt} (h : Φ u) : Inv Φ (f_X7_answer N 95 p1 p2 p3 u) := by
  unfold f_X7_answer
  repeat' (first | (with_reducible first | assumption | refine I_chk ?_ | refine I_ite ?_ ?_ | refine I_lte ?_ | refine I_some ?_ | refine i_X7_isBit St ?_ | refine i_X7_answer_25 St ?_ | refine i_X7_isCell St ?_ | refine i_X7_isOut St ?_ | refine i_X7_laysAnswersNow St ?_ | refine I_bnd ?_ (fun _ _ _ => ?_)) | refine St _ _ _ _ (by first | exact ⟨by decide, by decide, fun _ => by decide⟩ | exact ⟨by decide, by decide, fun hh => absurd hh (by decide)⟩ | exact Alw_o (by assumption)) ?_)
theorem i_X7_answersSo_52 {Φ : ASt → Prop} (St : Stb Φ) {N : Nat} {p1 : Int32} {p2 : Int32} {k19 : Int32 → Int32 → ASt → Option (Int32 × ASt)} (hk19 : ∀ (q0 : Int32) (q1 : Int32) (u : ASt), Φ u → Inv Φ (k19 q0 q1 u)) {x4 : Int32} {y0 : Int32} {u : ASt} (h : Φ u) : Inv Φ (f_X7_answersSo_52 N 95 p1 p2 k19 x4 y0 u) := by
  unfold f_X7_answersSo_52
  repeat' (first | (with_reducible first | assumption | refine I_chk ?_ | refine I_ite ?_ ?_ | refine I_lte ?_ | refine I_some ?_ | refine hk19 _ _ _ ?_ | refine I_bnd ?_ (fun _ _ _ => ?_)) | refine St _ _ _ _ (by first | exact ⟨by decide, by decide, fun _ => by decide⟩ | exact ⟨by decide, by decide, fun hh => absurd hh (by decide)⟩ | exact Alw_o (by assumption)) ?_)
theorem i_X7_answersSo_51 {Φ : ASt → Prop} (St : Stb Φ) {N : Nat} {p1 : Int32} {p2 : Int32} {k19 : Int32 → Int32 → ASt → Option (Int32 × ASt)} (hk19 : ∀ (q0 : Int32) (q1 : Int32) (u : ASt), Φ u → Inv Φ (k19 q0 q1 u)) {x4 : Int32} {u : ASt} (h : Φ u) : Inv Φ (f_X7_answersSo_51 N 95 p1 p2 k19 x4 u) := by
  unfold f_X7_answersSo_51
  repeat' (first | (with_reducible first | assumption | refine I_chk ?_ | refine I_ite ?_ ?_ | refine I_lte ?_ | refine I_some ?_ | refine i_X7_answersSo_52 St ?_ ?_ | refine hk19 _ _ _ ?_ | refine I_bnd ?_ (fun _ _ _ => ?_)) | refine St _ _ _ _ (by first | exact ⟨by decide, by decide, fun _ => by decide⟩ | exact ⟨by decide, by decide, fun hh => absurd hh (by decide)⟩ | exact Alw_o (by assumption)) ?_)
theorem i_X7_answersSo_19 {Φ : ASt → Prop} (St : Stb Φ) {N : Nat} {p1 : Int32} {p2 : Int32} : ∀ (n : Nat) (q0 : Int32) (q1 : Int32) (u : ASt), Φ u → Inv Φ (f_X7_answersSo_19 N 95 p1 p2 n q0 q1 u) := by
  intro n
  induction n with
  | zero => intros; exact I_none
  | succ n ih =>
    intro q0 q1 u h
    rw [f_X7_answersSo_19]
    repeat' (first | (with_reducible first | assumption | refine I_chk ?_ | refine I_ite ?_ ?_ | refine I_lte ?_ | refine I_some ?_ | refine i_X7_answersSo_51 St ?_ ?_ | refine i_X7_answersSo_52 St ?_ ?_ | refine ih _ _ _ ?_ | refine I_bnd ?_ (fun _ _ _ => ?_)) | refine St _ _ _ _ (by first | exact ⟨by decide, by decide, fun _ => by decide⟩ | exact ⟨by decide, by decide, fun hh => absurd hh (by decide)⟩ | exact Alw_o (by assumption)) ?_)
theorem i_X7_answersSo {Φ : ASt → Prop} (St : Stb Φ) {N : Nat} {p1 : Int32} {p2 : Int32} {u : ASt} (h : Φ u) : Inv Φ (f_X7_answersSo N 95 p1 p2 u) := by
  unfold f_X7_answersSo
  repeat' (first | (with_reducible first | assumption | refine I_chk ?_ | refine I_ite ?_ ?_ | refine I_lte ?_ | refine I_some ?_ | refine i_X7_usesOne St ?_ | refine i_X7_laysAnswers St (by first | assumption | decide) ?_ | refine i_X7_answersSo_19 St _ _ _ _ ?_ | refine I_bnd ?_ (fun _ _ _ => ?_)) | refine St _ _ _ _ (by first | exact ⟨by decide, by decide, fun _ => by decide⟩ | exact ⟨by decide, by decide, fun hh => absurd hh (by decide)⟩ | exact Alw_o (by assumption)) ?_)
theorem i_X7_seenBy {Φ : ASt → Prop} (St : Stb Φ) {N : Nat} {p1 : Int32} {u : ASt} (h : Φ u) : Inv Φ (f_X7_seenBy N 95 p1 u) := by
  unfold f_X7_seenBy
  repeat' (first | (with_reducible first | assumption | refine I_chk ?_ | refine I_ite ?_ ?_ | refine I_lte ?_ | refine I_some ?_ | refine i_X7_laysAnswersNow St ?_ | refine i_X7_answersSo St ?_ | refine I_bnd ?_ (fun _ _ _ => ?_)) | refine St _ _ _ _ (by first | exact ⟨by decide, by decide, fun _ => by decide⟩ | exact ⟨by decide, by decide, fun hh => absurd hh (by decide)⟩ | exact Alw_o (by assumption)) ?_)
theorem i_X7_seen {Φ : ASt → Prop} (St : Stb Φ) {N : Nat} {p1 : Int32} {u : ASt} (h : Φ u) : Inv Φ (f_X7_seen N 95 p1 u) := by
  unfold f_X7_seen
  repeat' (first | (with_reducible first | assumption | refine I_chk ?_ | refine I_ite ?_ ?_ | refine I_lte ?_ | refine I_some ?_ | refine i_X7_isBit St ?_ | refine i_X7_bad St ?_ | refine i_X7_seenBy St ?_ | refine I_bnd ?_ (fun _ _ _ => ?_)) | refine St _ _ _ _ (by first | exact ⟨by decide, by decide, fun _ => by decide⟩ | exact ⟨by decide, by decide, fun hh => absurd hh (by decide)⟩ | exact Alw_o (by assumption)) ?_)
theorem i_X7_canBe_145 {Φ : ASt → Prop} (St : Stb Φ) {N : Nat} {p1 : Int32} {p2 : Int32} {u : ASt} (h : Φ u) : Inv Φ (f_X7_canBe_145 N 95 p1 p2 u) := by
  unfold f_X7_canBe_145
  repeat' (first | (with_reducible first | assumption | refine I_chk ?_ | refine I_ite ?_ ?_ | refine I_lte ?_ | refine I_some ?_ | refine I_bnd ?_ (fun _ _ _ => ?_)) | refine St _ _ _ _ (by first | exact ⟨by decide, by decide, fun _ => by decide⟩ | exact ⟨by decide, by decide, fun hh => absurd hh (by decide)⟩ | exact Alw_o (by assumption)) ?_)
theorem i_X7_canBe_99 {Φ : ASt → Prop} (St : Stb Φ) {N : Nat} {p1 : Int32} {p2 : Int32} {u : ASt} (h : Φ u) : Inv Φ (f_X7_canBe_99 N 95 p1 p2 u) := by
  unfold f_X7_canBe_99
  repeat' (first | (with_reducible first | assumption | refine I_chk ?_ | refine I_ite ?_ ?_ | refine I_lte ?_ | refine I_some ?_ | refine I_bnd ?_ (fun _ _ _ => ?_)) | refine St _ _ _ _ (by first | exact ⟨by decide, by decide, fun _ => by decide⟩ | exact ⟨by decide, by decide, fun hh => absurd hh (by decide)⟩ | exact Alw_o (by assumption)) ?_)
theorem i_X7_canBe {Φ : ASt → Prop} (St : Stb Φ) {N : Nat} {p1 : Int32} {p2 : Int32} {u : ASt} (h : Φ u) : Inv Φ (f_X7_canBe N 95 p1 p2 u) := by
  unfold f_X7_canBe
  repeat' (first | (with_reducible first | assumption | refine I_chk ?_ | refine I_ite ?_ ?_ | refine I_lte ?_ | refine I_some ?_ | refine i_X7_isCell St ?_ | refine i_X7_canBe_99 St ?_ | refine i_X7_has St ?_ | refine i_X7_canBe_145 St ?_ | refine I_bnd ?_ (fun _ _ _ => ?_)) | refine St _ _ _ _ (by first | exact ⟨by decide, by decide, fun _ => by decide⟩ | exact ⟨by decide, by decide, fun hh => absurd hh (by decide)⟩ | exact Alw_o (by assumption)) ?_)
theorem i_X7_suspectsBy_91 {Φ : ASt → Prop} (St : Stb Φ) {N : Nat} {p1 : Int32} {p2 : Int32} {k16 : Int32 → Int32 → Int32 → ASt → Option (Int32 × ASt)} (hk16 : ∀ (q0 : Int32) (q1 : Int32) (q2 : Int32) (u : ASt), Φ u → Inv Φ (k16 q0 q1 q2 u)) {x3 : Int32} {x4 : Int32} {y0 : Int32} {u : ASt} (h : Φ u) : Inv Φ (f_X7_suspectsBy_91 N 95 p1 p2 k16 x3 x4 y0 u) := by
  unfold f_X7_suspectsBy_91
  repeat' (first | (with_reducible first | assumption | refine I_chk ?_ | refine I_ite ?_ ?_ | refine I_lte ?_ | refine I_some ?_ | refine hk16 _ _ _ _ ?_ | refine I_bnd ?_ (fun _ _ _ => ?_)) | refine St _ _ _ _ (by first | exact ⟨by decide, by decide, fun _ => by decide⟩ | exact ⟨by decide, by decide, fun hh => absurd hh (by decide)⟩ | exact Alw_o (by assumption)) ?_)
theorem i_X7_suspectsBy_72 {Φ : ASt → Prop} (St : Stb Φ) {N : Nat} {p1 : Int32} {p2 : Int32} {k16 : Int32 → Int32 → Int32 → ASt → Option (Int32 × ASt)} (hk16 : ∀ (q0 : Int32) (q1 : Int32) (q2 : Int32) (u : ASt), Φ u → Inv Φ (k16 q0 q1 q2 u)) {x3 : Int32} {x4 : Int32} {x5 : Int32} {u : ASt} (h : Φ u) : Inv Φ (f_X7_suspectsBy_72 N 95 p1 p2 k16 x3 x4 x5 u) := by
  unfold f_X7_suspectsBy_72
  repeat' (first | (with_reducible first | assumption | refine I_chk ?_ | refine I_ite ?_ ?_ | refine I_lte ?_ | refine I_some ?_ | refine i_X7_suspectsBy_91 St ?_ ?_ | refine hk16 _ _ _ _ ?_ | refine I_bnd ?_ (fun _ _ _ => ?_)) | refine St _ _ _ _ (by first | exact ⟨by decide, by decide, fun _ => by decide⟩ | exact ⟨by decide, by decide, fun hh => absurd hh (by decide)⟩ | exact Alw_o (by assumption)) ?_)
theorem i_X7_suspectsBy_56 {Φ : ASt → Prop} (St : Stb Φ) {N : Nat} {p1 : Int32} {p2 : Int32} {k16 : Int32 → Int32 → Int32 → ASt → Option (Int32 × ASt)} (hk16 : ∀ (q0 : Int32) (q1 : Int32) (q2 : Int32) (u : ASt), Φ u → Inv Φ (k16 q0 q1 q2 u)) {x3 : Int32} {x4 : Int32} {x5 : Int32} {u : ASt} (h : Φ u) : Inv Φ (f_X7_suspectsBy_56 N 95 p1 p2 k16 x3 x4 x5 u) := by
  unfold f_X7_suspectsBy_56
  repeat' (first | (with_reducible first | assumption | refine I_chk ?_ | refine I_ite ?_ ?_ | refine I_lte ?_ | refine I_some ?_ | refine i_X7_suspectsBy_72 St ?_ ?_ | refine i_X7_suspectsBy_91 St ?_ ?_ | refine hk16 _ _ _ _ ?_ | refine I_bnd ?_ (fun _ _ _ => ?_)) | refine St _ _ _ _ (by first | exact ⟨by decide, by decide, fun _ => by decide⟩ | exact ⟨by decide, by decide, fun hh => absurd hh (by decide)⟩ | exact Alw_o (by assumption)) ?_)
theorem i_X7_suspectsBy_16 {Φ : ASt → Prop} (St : Stb Φ) {N : Nat} {p1 : Int32} {p2 : Int32} : ∀ (n : Nat) (q0 : Int32) (q1 : Int32) (q2 : Int32) (u : ASt), Φ u → Inv Φ (f_X7_suspectsBy_16 N 95 p1 p2 n q0 q1 q2 u) := by
  intro n
  induction n with
  | zero => intros; exact I_none
  | succ n ih =>
    intro q0 q1 q2 u h
    rw [f_X7_suspectsBy_16]
    repeat' (first | (with_reducible first | assumption | refine I_chk ?_ | refine I_ite ?_ ?_ | refine I_lte ?_ | refine I_some ?_ | refine i_X7_canBe St ?_ | refine i_X7_suspectsBy_56 St ?_ ?_ | refine i_X7_answersSo St ?_ | refine ih _ _ _ _ ?_ | refine I_bnd ?_ (fun _ _ _ => ?_)) | refine St _ _ _ _ (by first | exact ⟨by decide, by decide, fun _ => by decide⟩ | exact ⟨by decide, by decide, fun hh => absurd hh (by decide)⟩ | exact Alw_o (by assumption)) ?_)
theorem i_X7_suspectsBy {Φ : ASt → Prop} (St : Stb Φ) {N : Nat} {p1 : Int32} {p2 : Int32} {u : ASt} (h : Φ u) : Inv Φ (f_X7_suspectsBy N 95 p1 p2 u) := by
  unfold f_X7_suspectsBy
  repeat' (first | (with_reducible first | assumption | refine I_chk ?_ | refine I_ite ?_ ?_ | refine I_lte ?_ | refine I_some ?_ | refine i_X7_laysAnswersNow St ?_ | refine i_X7_netsWithCells St ?_ | refine i_X7_suspectsBy_16 St _ _ _ _ _ ?_ | refine I_bnd ?_ (fun _ _ _ => ?_)) | refine St _ _ _ _ (by first | exact ⟨by decide, by decide, fun _ => by decide⟩ | exact ⟨by decide, by decide, fun hh => absurd hh (by decide)⟩ | exact Alw_o (by assumption)) ?_)
