/-! the longs of the memory are kept (made by wip/whole/genL.py) -/
theorem ite_mo {c : Prop} [Decidable c] {A B A2 B2 : Prop} (h1 : A → A2) (h2 : B → B2) : (if c then A else B) → (if c then A2 else B2) := fun h => by
  by_cases z : c
  · rw [if_pos z] at h ⊢; exact h1 h
  · rw [if_neg z] at h ⊢; exact h2 h
theorem imp_mo {c A A2 : Prop} (f : c → A → A2) : (c → A) → c → A2 := fun h z => f z (h z)
theorem LK_wp_X8_hangOn_j275 {k216 k2162 : Int32 → Mm → Prop} {K K2 : Mm → Prop} {L : Nat → Nat → Int64} {a0 : Nat} {a1 : Nat} {a2 : Nat} {x4 : Int32} {x6 : Int32} {x7 : Int32} {x8 : Int32} {x9 : Int32} (hk216 : ∀ (a0 : Int32) (a1 : Mm), a1.2 = L → k216 a0 a1 → k2162 a0 a1) (hK : ∀ (a0 : Mm), a0.2 = L → K a0 → K2 a0) {m : Mm} (hm : m.2 = L) : wp_X8_hangOn_j275 k216 K a0 a1 a2 x4 x6 x7 x8 x9 m → wp_X8_hangOn_j275 k2162 K2 a0 a1 a2 x4 x6 x7 x8 x9 m := by
  unfold wp_X8_hangOn_j275
  repeat' first
    | with_reducible exact id
    | exact hk216 _ _ (by first | assumption | (simp only [wI_L]; assumption))
    | exact hK _ (by first | assumption | (simp only [wI_L]; assumption))
    | refine And.imp ?_ ?_
    | refine ite_mo ?_ ?_
    | (refine imp_mo (fun he => ?_); first | subst he | skip)
    | refine forall_imp (fun _ => ?_)
theorem LK_wb_X8_hangOn_l216 {rec rec2 : Int32 → Mm → Prop} {K K2 : Mm → Prop} {L : Nat → Nat → Int64} {a0 : Nat} {a1 : Nat} {a2 : Nat} {x4 : Int32} {x6 : Int32} {x7 : Int32} {x8 : Int32} {x9 : Int32} (hrec : ∀ (a0 : Int32) (a1 : Mm), a1.2 = L → rec a0 a1 → rec2 a0 a1) (hK : ∀ (a0 : Mm), a0.2 = L → K a0 → K2 a0) {m : Mm} (hm : m.2 = L) : wb_X8_hangOn_l216 rec K a0 a1 a2 x4 x6 x7 x8 x9 m → wb_X8_hangOn_l216 rec2 K2 a0 a1 a2 x4 x6 x7 x8 x9 m := by
  unfold wb_X8_hangOn_l216
  repeat' first
    | with_reducible exact id
    | exact hrec _ _ (by first | assumption | (simp only [wI_L]; assumption))
    | exact hK _ (by first | assumption | (simp only [wI_L]; assumption))
    | refine LK_wp_X8_hangOn_j275 (fun _ _ hq => ?_) (fun _ hq => ?_) (by first | assumption | (simp only [wI_L]; assumption))
    | refine And.imp ?_ ?_
    | refine ite_mo ?_ ?_
    | (refine imp_mo (fun he => ?_); first | subst he | skip)
    | refine forall_imp (fun _ => ?_)
theorem LK_wp_X8_hangOn_l216 {K K2 : Mm → Prop} {L : Nat → Nat → Int64} {a0 : Nat} {a1 : Nat} {a2 : Nat} {x4 : Int32} {x6 : Int32} {x7 : Int32} {x8 : Int32} (hK : ∀ (a0 : Mm), a0.2 = L → K a0 → K2 a0) : ∀ n (z0 : Int32) (z1 : Mm), z1.2 = L → wp_X8_hangOn_l216 K a0 a1 a2 x4 x6 x7 x8 n z0 z1 → wp_X8_hangOn_l216 K2 a0 a1 a2 x4 x6 x7 x8 n z0 z1 := by
  intro n
  induction n with
  | zero => intro z0 z1 _ h; exact h
  | succ n ih => intro z0 z1 hm; exact LK_wb_X8_hangOn_l216 (fun q0 q1 hq => ih q0 q1 hq) hK hm
theorem LK_wp_X8_hangOn {K K2 : Mm → Prop} {L : Nat → Nat → Int64} {a0 : Nat} {a1 : Nat} {a2 : Nat} {x3 : Int32} (hK : ∀ (a0 : Mm), a0.2 = L → K a0 → K2 a0) {m : Mm} (hm : m.2 = L) : wp_X8_hangOn a0 a1 a2 x3 m K → wp_X8_hangOn a0 a1 a2 x3 m K2 := by
  unfold wp_X8_hangOn
  repeat' first
    | with_reducible exact id
    | exact hK _ (by first | assumption | (simp only [wI_L]; assumption))
    | refine LK_wp_X8_hangOn_l216 (fun _ hq => ?_) _ _ _ (by first | assumption | (simp only [wI_L]; assumption))
    | refine And.imp ?_ ?_
    | refine ite_mo ?_ ?_
    | (refine imp_mo (fun he => ?_); first | subst he | skip)
    | refine forall_imp (fun _ => ?_)
theorem LK_wb_X8_measure_l2 {rec rec2 : Int32 → Mm → Prop} {k49 k492 : Mm → Prop} {K K2 : Mm → Prop} {L : Nat → Nat → Int64} {a0 : Nat} {x1 : Int32} (hrec : ∀ (a0 : Int32) (a1 : Mm), a1.2 = L → rec a0 a1 → rec2 a0 a1) (hk49 : ∀ (a0 : Mm), a0.2 = L → k49 a0 → k492 a0) (hK : ∀ (a0 : Mm), a0.2 = L → K a0 → K2 a0) {m : Mm} (hm : m.2 = L) : wb_X8_measure_l2 rec k49 K a0 x1 m → wb_X8_measure_l2 rec2 k492 K2 a0 x1 m := by
  unfold wb_X8_measure_l2
  repeat' first
    | with_reducible exact id
    | exact hrec _ _ (by first | assumption | (simp only [wI_L]; assumption))
    | exact hk49 _ (by first | assumption | (simp only [wI_L]; assumption))
    | exact hK _ (by first | assumption | (simp only [wI_L]; assumption))
    | refine And.imp ?_ ?_
    | refine ite_mo ?_ ?_
    | (refine imp_mo (fun he => ?_); first | subst he | skip)
    | refine forall_imp (fun _ => ?_)
theorem LK_wp_X8_measure_l2 {k49 k492 : Mm → Prop} {K K2 : Mm → Prop} {L : Nat → Nat → Int64} {a0 : Nat} (hk49 : ∀ (a0 : Mm), a0.2 = L → k49 a0 → k492 a0) (hK : ∀ (a0 : Mm), a0.2 = L → K a0 → K2 a0) : ∀ n (z0 : Int32) (z1 : Mm), z1.2 = L → wp_X8_measure_l2 k49 K a0 n z0 z1 → wp_X8_measure_l2 k492 K2 a0 n z0 z1 := by
  intro n
  induction n with
  | zero => intro z0 z1 _ h; exact h
  | succ n ih => intro z0 z1 hm; exact LK_wb_X8_measure_l2 (fun q0 q1 hq => ih q0 q1 hq) hk49 hK hm
theorem LK_wb_X8_measure_l51 {rec rec2 : Int32 → Mm → Prop} {K K2 : Mm → Prop} {L : Nat → Nat → Int64} {a0 : Nat} {x1 : Int32} (hrec : ∀ (a0 : Int32) (a1 : Mm), a1.2 = L → rec a0 a1 → rec2 a0 a1) (hK : ∀ (a0 : Mm), a0.2 = L → K a0 → K2 a0) {m : Mm} (hm : m.2 = L) : wb_X8_measure_l51 rec K a0 x1 m → wb_X8_measure_l51 rec2 K2 a0 x1 m := by
  unfold wb_X8_measure_l51
  repeat' first
    | with_reducible exact id
    | exact hrec _ _ (by first | assumption | (simp only [wI_L]; assumption))
    | exact hK _ (by first | assumption | (simp only [wI_L]; assumption))
    | refine And.imp ?_ ?_
    | refine ite_mo ?_ ?_
    | (refine imp_mo (fun he => ?_); first | subst he | skip)
    | refine forall_imp (fun _ => ?_)
theorem LK_wp_X8_measure_l51 {K K2 : Mm → Prop} {L : Nat → Nat → Int64} {a0 : Nat} (hK : ∀ (a0 : Mm), a0.2 = L → K a0 → K2 a0) : ∀ n (z0 : Int32) (z1 : Mm), z1.2 = L → wp_X8_measure_l51 K a0 n z0 z1 → wp_X8_measure_l51 K2 a0 n z0 z1 := by
  intro n
  induction n with
  | zero => intro z0 z1 _ h; exact h
  | succ n ih => intro z0 z1 hm; exact LK_wb_X8_measure_l51 (fun q0 q1 hq => ih q0 q1 hq) hK hm
theorem LK_wp_X8_measure {K K2 : Mm → Prop} {L : Nat → Nat → Int64} {a0 : Nat} (hK : ∀ (a0 : Mm), a0.2 = L → K a0 → K2 a0) {m : Mm} (hm : m.2 = L) : wp_X8_measure a0 m K → wp_X8_measure a0 m K2 := by
  unfold wp_X8_measure
  repeat' first
    | with_reducible exact id
    | exact hK _ (by first | assumption | (simp only [wI_L]; assumption))
    | refine LK_wp_X8_measure_l2 (fun _ hq => ?_) (fun _ hq => ?_) _ _ _ (by first | assumption | (simp only [wI_L]; assumption))
    | refine LK_wp_X8_measure_l51 (fun _ hq => ?_) _ _ _ (by first | assumption | (simp only [wI_L]; assumption))
    | refine And.imp ?_ ?_
    | refine ite_mo ?_ ?_
    | (refine imp_mo (fun he => ?_); first | subst he | skip)
    | refine forall_imp (fun _ => ?_)
theorem LK_wb_X5_fold_l38 {rec rec2 : Int32 → Mm → Prop} {K K2 : Mm → Prop} {L : Nat → Nat → Int64} {a1 : Nat} {x2 : Int32} {x3 : Int32} (hrec : ∀ (a0 : Int32) (a1 : Mm), a1.2 = L → rec a0 a1 → rec2 a0 a1) (hK : ∀ (a0 : Mm), a0.2 = L → K a0 → K2 a0) {m : Mm} (hm : m.2 = L) : wb_X5_fold_l38 rec K a1 x2 x3 m → wb_X5_fold_l38 rec2 K2 a1 x2 x3 m := by
  unfold wb_X5_fold_l38
  repeat' first
    | with_reducible exact id
    | exact hrec _ _ (by first | assumption | (simp only [wI_L]; assumption))
    | exact hK _ (by first | assumption | (simp only [wI_L]; assumption))
    | refine LK_wp_X8_hangOn (fun _ hq => ?_) (by first | assumption | (simp only [wI_L]; assumption))
    | refine LK_wp_X8_measure (fun _ hq => ?_) (by first | assumption | (simp only [wI_L]; assumption))
    | refine And.imp ?_ ?_
    | refine ite_mo ?_ ?_
    | (refine imp_mo (fun he => ?_); first | subst he | skip)
    | refine forall_imp (fun _ => ?_)
theorem LK_wp_X5_fold_l38 {K K2 : Mm → Prop} {L : Nat → Nat → Int64} {a1 : Nat} {x2 : Int32} (hK : ∀ (a0 : Mm), a0.2 = L → K a0 → K2 a0) : ∀ n (z0 : Int32) (z1 : Mm), z1.2 = L → wp_X5_fold_l38 K a1 x2 n z0 z1 → wp_X5_fold_l38 K2 a1 x2 n z0 z1 := by
  intro n
  induction n with
  | zero => intro z0 z1 _ h; exact h
  | succ n ih => intro z0 z1 hm; exact LK_wb_X5_fold_l38 (fun q0 q1 hq => ih q0 q1 hq) hK hm
theorem LK_wp_X5_fold_j36 {K K2 : Mm → Prop} {L : Nat → Nat → Int64} {a1 : Nat} {x2 : Int32} (hK : ∀ (a0 : Mm), a0.2 = L → K a0 → K2 a0) {m : Mm} (hm : m.2 = L) : wp_X5_fold_j36 K a1 x2 m → wp_X5_fold_j36 K2 a1 x2 m := by
  unfold wp_X5_fold_j36
  repeat' first
    | with_reducible exact id
    | exact hK _ (by first | assumption | (simp only [wI_L]; assumption))
    | refine LK_wp_X5_fold_l38 (fun _ hq => ?_) _ _ _ (by first | assumption | (simp only [wI_L]; assumption))
    | refine And.imp ?_ ?_
    | refine ite_mo ?_ ?_
    | (refine imp_mo (fun he => ?_); first | subst he | skip)
    | refine forall_imp (fun _ => ?_)
theorem LK_wp_X8_layFlat {K K2 : Mm → Prop} {L : Nat → Nat → Int64} {a0 : Nat} {a1 : Nat} (hK : ∀ (a0 : Mm), a0.2 = L → K a0 → K2 a0) {m : Mm} (hm : m.2 = L) : wp_X8_layFlat a0 a1 m K → wp_X8_layFlat a0 a1 m K2 := by
  unfold wp_X8_layFlat
  repeat' first
    | with_reducible exact id
    | exact hK _ (by first | assumption | (simp only [wI_L]; assumption))
    | refine And.imp ?_ ?_
    | refine ite_mo ?_ ?_
    | (refine imp_mo (fun he => ?_); first | subst he | skip)
    | refine forall_imp (fun _ => ?_)
theorem LK_wp_X5_fold {K K2 : Mm → Prop} {L : Nat → Nat → Int64} {a1 : Nat} {x2 : Int32} (hK : ∀ (a0 : Mm), a0.2 = L → K a0 → K2 a0) {m : Mm} (hm : m.2 = L) : wp_X5_fold a1 x2 m K → wp_X5_fold a1 x2 m K2 := by
  unfold wp_X5_fold
  repeat' first
    | with_reducible exact id
    | exact hK _ (by first | assumption | (simp only [wI_L]; assumption))
    | refine LK_wp_X5_fold_j36 (fun _ hq => ?_) (by first | assumption | (simp only [wI_L]; assumption))
    | refine LK_wp_X8_layFlat (fun _ hq => ?_) (by first | assumption | (simp only [wI_L]; assumption))
    | refine LK_wp_X8_measure (fun _ hq => ?_) (by first | assumption | (simp only [wI_L]; assumption))
    | refine And.imp ?_ ?_
    | refine ite_mo ?_ ?_
    | (refine imp_mo (fun he => ?_); first | subst he | skip)
    | refine forall_imp (fun _ => ?_)
theorem LK_wb_X10_joinSide_l33 {rec rec2 : Int32 → Mm → Prop} {K K2 : Mm → Prop} {L : Nat → Nat → Int64} {x1 : Int32} {x2 : Int32} {x3 : Int32} {a4 : Nat} {a5 : Nat} {x6 : Int32} (hrec : ∀ (a0 : Int32) (a1 : Mm), a1.2 = L → rec a0 a1 → rec2 a0 a1) (hK : ∀ (a0 : Mm), a0.2 = L → K a0 → K2 a0) {m : Mm} (hm : m.2 = L) : wb_X10_joinSide_l33 rec K x1 x2 x3 a4 a5 x6 m → wb_X10_joinSide_l33 rec2 K2 x1 x2 x3 a4 a5 x6 m := by
  unfold wb_X10_joinSide_l33
  repeat' first
    | with_reducible exact id
    | exact hrec _ _ (by first | assumption | (simp only [wI_L]; assumption))
    | exact hK _ (by first | assumption | (simp only [wI_L]; assumption))
    | refine And.imp ?_ ?_
    | refine ite_mo ?_ ?_
    | (refine imp_mo (fun he => ?_); first | subst he | skip)
    | refine forall_imp (fun _ => ?_)
theorem LK_wp_X10_joinSide_l33 {K K2 : Mm → Prop} {L : Nat → Nat → Int64} {x1 : Int32} {x2 : Int32} {x3 : Int32} {a4 : Nat} {a5 : Nat} (hK : ∀ (a0 : Mm), a0.2 = L → K a0 → K2 a0) : ∀ n (z0 : Int32) (z1 : Mm), z1.2 = L → wp_X10_joinSide_l33 K x1 x2 x3 a4 a5 n z0 z1 → wp_X10_joinSide_l33 K2 x1 x2 x3 a4 a5 n z0 z1 := by
  intro n
  induction n with
  | zero => intro z0 z1 _ h; exact h
  | succ n ih => intro z0 z1 hm; exact LK_wb_X10_joinSide_l33 (fun q0 q1 hq => ih q0 q1 hq) hK hm
theorem LK_wp_X10_joinSide {K K2 : Mm → Prop} {L : Nat → Nat → Int64} {x1 : Int32} {x2 : Int32} {x3 : Int32} (hK : ∀ (a0 : Mm), a0.2 = L → K a0 → K2 a0) {m : Mm} (hm : m.2 = L) : wp_X10_joinSide x1 x2 x3 m K → wp_X10_joinSide x1 x2 x3 m K2 := by
  unfold wp_X10_joinSide
  repeat' first
    | with_reducible exact id
    | exact hK _ (by first | assumption | (simp only [wI_L]; assumption))
    | refine LK_wp_X10_joinSide_l33 (fun _ hq => ?_) _ _ _ (by first | assumption | (simp only [wI_L]; assumption))
    | refine And.imp ?_ ?_
    | refine ite_mo ?_ ?_
    | (refine imp_mo (fun he => ?_); first | subst he | skip)
    | refine forall_imp (fun _ => ?_)
theorem LK_wb_X10_find_l35 {rec rec2 : Int32 → Mm → Prop} {k25 k252 : Int32 → Mm → Prop} {K K2 : Mm → Prop} {L : Nat → Nat → Int64} {x2 : Int32} {x3 : Int32} {x4 : Int32} (hrec : ∀ (a0 : Int32) (a1 : Mm), a1.2 = L → rec a0 a1 → rec2 a0 a1) (hk25 : ∀ (a0 : Int32) (a1 : Mm), a1.2 = L → k25 a0 a1 → k252 a0 a1) (hK : ∀ (a0 : Mm), a0.2 = L → K a0 → K2 a0) {m : Mm} (hm : m.2 = L) : wb_X10_find_l35 rec k25 K x2 x3 x4 m → wb_X10_find_l35 rec2 k252 K2 x2 x3 x4 m := by
  unfold wb_X10_find_l35
  repeat' first
    | with_reducible exact id
    | exact hrec _ _ (by first | assumption | (simp only [wI_L]; assumption))
    | exact hk25 _ _ (by first | assumption | (simp only [wI_L]; assumption))
    | exact hK _ (by first | assumption | (simp only [wI_L]; assumption))
    | refine LK_wp_X10_joinSide (fun _ hq => ?_) (by first | assumption | (simp only [wI_L]; assumption))
    | refine And.imp ?_ ?_
    | refine ite_mo ?_ ?_
    | (refine imp_mo (fun he => ?_); first | subst he | skip)
    | refine forall_imp (fun _ => ?_)
theorem LK_wp_X10_find_l35 {k25 k252 : Int32 → Mm → Prop} {K K2 : Mm → Prop} {L : Nat → Nat → Int64} {x2 : Int32} {x3 : Int32} (hk25 : ∀ (a0 : Int32) (a1 : Mm), a1.2 = L → k25 a0 a1 → k252 a0 a1) (hK : ∀ (a0 : Mm), a0.2 = L → K a0 → K2 a0) : ∀ n (z0 : Int32) (z1 : Mm), z1.2 = L → wp_X10_find_l35 k25 K x2 x3 n z0 z1 → wp_X10_find_l35 k252 K2 x2 x3 n z0 z1 := by
  intro n
  induction n with
  | zero => intro z0 z1 _ h; exact h
  | succ n ih => intro z0 z1 hm; exact LK_wb_X10_find_l35 (fun q0 q1 hq => ih q0 q1 hq) hk25 hK hm
theorem LK_wb_X10_find_l25 {rec rec2 : Int32 → Mm → Prop} {k12 k122 : Int32 → Mm → Prop} {K K2 : Mm → Prop} {L : Nat → Nat → Int64} {x2 : Int32} {x3 : Int32} (hrec : ∀ (a0 : Int32) (a1 : Mm), a1.2 = L → rec a0 a1 → rec2 a0 a1) (hk12 : ∀ (a0 : Int32) (a1 : Mm), a1.2 = L → k12 a0 a1 → k122 a0 a1) (hK : ∀ (a0 : Mm), a0.2 = L → K a0 → K2 a0) {m : Mm} (hm : m.2 = L) : wb_X10_find_l25 rec k12 K x2 x3 m → wb_X10_find_l25 rec2 k122 K2 x2 x3 m := by
  unfold wb_X10_find_l25
  repeat' first
    | with_reducible exact id
    | exact hrec _ _ (by first | assumption | (simp only [wI_L]; assumption))
    | exact hk12 _ _ (by first | assumption | (simp only [wI_L]; assumption))
    | exact hK _ (by first | assumption | (simp only [wI_L]; assumption))
    | refine LK_wp_X10_find_l35 (fun _ _ hq => ?_) (fun _ hq => ?_) _ _ _ (by first | assumption | (simp only [wI_L]; assumption))
    | refine And.imp ?_ ?_
    | refine ite_mo ?_ ?_
    | (refine imp_mo (fun he => ?_); first | subst he | skip)
    | refine forall_imp (fun _ => ?_)
theorem LK_wp_X10_find_l25 {k12 k122 : Int32 → Mm → Prop} {K K2 : Mm → Prop} {L : Nat → Nat → Int64} {x2 : Int32} (hk12 : ∀ (a0 : Int32) (a1 : Mm), a1.2 = L → k12 a0 a1 → k122 a0 a1) (hK : ∀ (a0 : Mm), a0.2 = L → K a0 → K2 a0) : ∀ n (z0 : Int32) (z1 : Mm), z1.2 = L → wp_X10_find_l25 k12 K x2 n z0 z1 → wp_X10_find_l25 k122 K2 x2 n z0 z1 := by
  intro n
  induction n with
  | zero => intro z0 z1 _ h; exact h
  | succ n ih => intro z0 z1 hm; exact LK_wb_X10_find_l25 (fun q0 q1 hq => ih q0 q1 hq) hk12 hK hm
theorem LK_wb_X10_find_l12 {rec rec2 : Int32 → Mm → Prop} {K K2 : Mm → Prop} {L : Nat → Nat → Int64} {x2 : Int32} (hrec : ∀ (a0 : Int32) (a1 : Mm), a1.2 = L → rec a0 a1 → rec2 a0 a1) (hK : ∀ (a0 : Mm), a0.2 = L → K a0 → K2 a0) {m : Mm} (hm : m.2 = L) : wb_X10_find_l12 rec K x2 m → wb_X10_find_l12 rec2 K2 x2 m := by
  unfold wb_X10_find_l12
  repeat' first
    | with_reducible exact id
    | exact hrec _ _ (by first | assumption | (simp only [wI_L]; assumption))
    | exact hK _ (by first | assumption | (simp only [wI_L]; assumption))
    | refine LK_wp_X10_find_l25 (fun _ _ hq => ?_) (fun _ hq => ?_) _ _ _ (by first | assumption | (simp only [wI_L]; assumption))
    | refine And.imp ?_ ?_
    | refine ite_mo ?_ ?_
    | (refine imp_mo (fun he => ?_); first | subst he | skip)
    | refine forall_imp (fun _ => ?_)
theorem LK_wp_X10_find_l12 {K K2 : Mm → Prop} {L : Nat → Nat → Int64}  (hK : ∀ (a0 : Mm), a0.2 = L → K a0 → K2 a0) : ∀ n (z0 : Int32) (z1 : Mm), z1.2 = L → wp_X10_find_l12 K n z0 z1 → wp_X10_find_l12 K2 n z0 z1 := by
  intro n
  induction n with
  | zero => intro z0 z1 _ h; exact h
  | succ n ih => intro z0 z1 hm; exact LK_wb_X10_find_l12 (fun q0 q1 hq => ih q0 q1 hq) hK hm
theorem LK_wp_X10_find {K K2 : Mm → Prop} {L : Nat → Nat → Int64} {x1 : Int32} (hK : ∀ (a0 : Mm), a0.2 = L → K a0 → K2 a0) {m : Mm} (hm : m.2 = L) : wp_X10_find x1 m K → wp_X10_find x1 m K2 := by
  unfold wp_X10_find
  repeat' first
    | with_reducible exact id
    | exact hK _ (by first | assumption | (simp only [wI_L]; assumption))
    | refine LK_wp_X10_find_l12 (fun _ hq => ?_) _ _ _ (by first | assumption | (simp only [wI_L]; assumption))
    | refine And.imp ?_ ?_
    | refine ite_mo ?_ ?_
    | (refine imp_mo (fun he => ?_); first | subst he | skip)
    | refine forall_imp (fun _ => ?_)
theorem LK_wp_X2_empty {K K2 : Mm → Prop} {L : Nat → Nat → Int64} {a0 : Nat} (hK : ∀ (a0 : Mm), a0.2 = L → K a0 → K2 a0) {m : Mm} (hm : m.2 = L) : wp_X2_empty a0 m K → wp_X2_empty a0 m K2 := by
  unfold wp_X2_empty
  repeat' first
    | with_reducible exact id
    | exact hK _ (by first | assumption | (simp only [wI_L]; assumption))
    | refine And.imp ?_ ?_
    | refine ite_mo ?_ ?_
    | (refine imp_mo (fun he => ?_); first | subst he | skip)
    | refine forall_imp (fun _ => ?_)
theorem LK_wb_X2_add_l15 {rec rec2 : Int32 → Mm → Prop} {k65 k652 : Int32 → Mm → Prop} {K K2 : Mm → Prop} {L : Nat → Nat → Int64} {a0 : Nat} {x1 : Int32} {x2 : Int32} {x3 : Int32} (hrec : ∀ (a0 : Int32) (a1 : Mm), a1.2 = L → rec a0 a1 → rec2 a0 a1) (hk65 : ∀ (a0 : Int32) (a1 : Mm), a1.2 = L → k65 a0 a1 → k652 a0 a1) (hK : ∀ (a0 : Mm), a0.2 = L → K a0 → K2 a0) {m : Mm} (hm : m.2 = L) : wb_X2_add_l15 rec k65 K a0 x1 x2 x3 m → wb_X2_add_l15 rec2 k652 K2 a0 x1 x2 x3 m := by
  unfold wb_X2_add_l15
  repeat' first
    | with_reducible exact id
    | exact hrec _ _ (by first | assumption | (simp only [wI_L]; assumption))
    | exact hk65 _ _ (by first | assumption | (simp only [wI_L]; assumption))
    | exact hK _ (by first | assumption | (simp only [wI_L]; assumption))
    | refine And.imp ?_ ?_
    | refine ite_mo ?_ ?_
    | (refine imp_mo (fun he => ?_); first | subst he | skip)
    | refine forall_imp (fun _ => ?_)
theorem LK_wp_X2_add_l15 {k65 k652 : Int32 → Mm → Prop} {K K2 : Mm → Prop} {L : Nat → Nat → Int64} {a0 : Nat} {x1 : Int32} {x2 : Int32} (hk65 : ∀ (a0 : Int32) (a1 : Mm), a1.2 = L → k65 a0 a1 → k652 a0 a1) (hK : ∀ (a0 : Mm), a0.2 = L → K a0 → K2 a0) : ∀ n (z0 : Int32) (z1 : Mm), z1.2 = L → wp_X2_add_l15 k65 K a0 x1 x2 n z0 z1 → wp_X2_add_l15 k652 K2 a0 x1 x2 n z0 z1 := by
  intro n
  induction n with
  | zero => intro z0 z1 _ h; exact h
  | succ n ih => intro z0 z1 hm; exact LK_wb_X2_add_l15 (fun q0 q1 hq => ih q0 q1 hq) hk65 hK hm
theorem LK_wp_X2_add {K K2 : Mm → Prop} {L : Nat → Nat → Int64} {a0 : Nat} {x1 : Int32} {x2 : Int32} (hK : ∀ (a0 : Mm), a0.2 = L → K a0 → K2 a0) {m : Mm} (hm : m.2 = L) : wp_X2_add a0 x1 x2 m K → wp_X2_add a0 x1 x2 m K2 := by
  unfold wp_X2_add
  repeat' first
    | with_reducible exact id
    | exact hK _ (by first | assumption | (simp only [wI_L]; assumption))
    | refine LK_wp_X2_add_l15 (fun _ _ hq => ?_) (fun _ hq => ?_) _ _ _ (by first | assumption | (simp only [wI_L]; assumption))
    | refine And.imp ?_ ?_
    | refine ite_mo ?_ ?_
    | (refine imp_mo (fun he => ?_); first | subst he | skip)
    | refine forall_imp (fun _ => ?_)
theorem LK_wp_X10_open_j66 {k27 k272 : Int32 → Mm → Prop} {K K2 : Int32 → Mm → Prop} {L : Nat → Nat → Int64} {x1 : Int32} {x2 : Int32} {x3 : Int32} {x4 : Int32} (hk27 : ∀ (a0 : Int32) (a1 : Mm), a1.2 = L → k27 a0 a1 → k272 a0 a1) (hK : ∀ (a0 : Int32) (a1 : Mm), a1.2 = L → K a0 a1 → K2 a0 a1) {m : Mm} (hm : m.2 = L) : wp_X10_open_j66 k27 K x1 x2 x3 x4 m → wp_X10_open_j66 k272 K2 x1 x2 x3 x4 m := by
  unfold wp_X10_open_j66
  repeat' first
    | with_reducible exact id
    | exact hk27 _ _ (by first | assumption | (simp only [wI_L]; assumption))
    | exact hK _ _ (by first | assumption | (simp only [wI_L]; assumption))
    | refine LK_wp_X2_add (fun _ hq => ?_) (by first | assumption | (simp only [wI_L]; assumption))
    | refine And.imp ?_ ?_
    | refine ite_mo ?_ ?_
    | (refine imp_mo (fun he => ?_); first | subst he | skip)
    | refine forall_imp (fun _ => ?_)
theorem LK_wb_X10_open_l27 {rec rec2 : Int32 → Mm → Prop} {k103 k1032 : Mm → Prop} {K K2 : Int32 → Mm → Prop} {L : Nat → Nat → Int64} {x1 : Int32} {x2 : Int32} {x3 : Int32} {x4 : Int32} (hrec : ∀ (a0 : Int32) (a1 : Mm), a1.2 = L → rec a0 a1 → rec2 a0 a1) (hk103 : ∀ (a0 : Mm), a0.2 = L → k103 a0 → k1032 a0) (hK : ∀ (a0 : Int32) (a1 : Mm), a1.2 = L → K a0 a1 → K2 a0 a1) {m : Mm} (hm : m.2 = L) : wb_X10_open_l27 rec k103 K x1 x2 x3 x4 m → wb_X10_open_l27 rec2 k1032 K2 x1 x2 x3 x4 m := by
  unfold wb_X10_open_l27
  repeat' first
    | with_reducible exact id
    | exact hrec _ _ (by first | assumption | (simp only [wI_L]; assumption))
    | exact hk103 _ (by first | assumption | (simp only [wI_L]; assumption))
    | exact hK _ _ (by first | assumption | (simp only [wI_L]; assumption))
    | refine LK_wp_X10_open_j66 (fun _ _ hq => ?_) (fun _ _ hq => ?_) (by first | assumption | (simp only [wI_L]; assumption))
    | refine And.imp ?_ ?_
    | refine ite_mo ?_ ?_
    | (refine imp_mo (fun he => ?_); first | subst he | skip)
    | refine forall_imp (fun _ => ?_)
theorem LK_wp_X10_open_l27 {k103 k1032 : Mm → Prop} {K K2 : Int32 → Mm → Prop} {L : Nat → Nat → Int64} {x1 : Int32} {x2 : Int32} {x3 : Int32} (hk103 : ∀ (a0 : Mm), a0.2 = L → k103 a0 → k1032 a0) (hK : ∀ (a0 : Int32) (a1 : Mm), a1.2 = L → K a0 a1 → K2 a0 a1) : ∀ n (z0 : Int32) (z1 : Mm), z1.2 = L → wp_X10_open_l27 k103 K x1 x2 x3 n z0 z1 → wp_X10_open_l27 k1032 K2 x1 x2 x3 n z0 z1 := by
  intro n
  induction n with
  | zero => intro z0 z1 _ h; exact h
  | succ n ih => intro z0 z1 hm; exact LK_wb_X10_open_l27 (fun q0 q1 hq => ih q0 q1 hq) hk103 hK hm
theorem LK_wb_X2_uncovered_l8 {rec rec2 : Int32 → Int32 → Int32 → Mm → Prop} {k62 k622 : Int32 → Int32 → Mm → Prop} {K K2 : Int32 → Mm → Prop} {L : Nat → Nat → Int64} {a0 : Nat} {x2 : Int32} {x3 : Int32} {x4 : Int32} {x5 : Int32} (hrec : ∀ (a0 : Int32) (a1 : Int32) (a2 : Int32) (a3 : Mm), a3.2 = L → rec a0 a1 a2 a3 → rec2 a0 a1 a2 a3) (hk62 : ∀ (a0 : Int32) (a1 : Int32) (a2 : Mm), a2.2 = L → k62 a0 a1 a2 → k622 a0 a1 a2) (hK : ∀ (a0 : Int32) (a1 : Mm), a1.2 = L → K a0 a1 → K2 a0 a1) {m : Mm} (hm : m.2 = L) : wb_X2_uncovered_l8 rec k62 K a0 x2 x3 x4 x5 m → wb_X2_uncovered_l8 rec2 k622 K2 a0 x2 x3 x4 x5 m := by
  unfold wb_X2_uncovered_l8
  repeat' first
    | with_reducible exact id
    | exact hrec _ _ _ _ (by first | assumption | (simp only [wI_L]; assumption))
    | exact hk62 _ _ _ (by first | assumption | (simp only [wI_L]; assumption))
    | exact hK _ _ (by first | assumption | (simp only [wI_L]; assumption))
    | refine And.imp ?_ ?_
    | refine ite_mo ?_ ?_
    | (refine imp_mo (fun he => ?_); first | subst he | skip)
    | refine forall_imp (fun _ => ?_)
theorem LK_wp_X2_uncovered_l8 {k62 k622 : Int32 → Int32 → Mm → Prop} {K K2 : Int32 → Mm → Prop} {L : Nat → Nat → Int64} {a0 : Nat} {x2 : Int32} (hk62 : ∀ (a0 : Int32) (a1 : Int32) (a2 : Mm), a2.2 = L → k62 a0 a1 a2 → k622 a0 a1 a2) (hK : ∀ (a0 : Int32) (a1 : Mm), a1.2 = L → K a0 a1 → K2 a0 a1) : ∀ n (z0 : Int32) (z1 : Int32) (z2 : Int32) (z3 : Mm), z3.2 = L → wp_X2_uncovered_l8 k62 K a0 x2 n z0 z1 z2 z3 → wp_X2_uncovered_l8 k622 K2 a0 x2 n z0 z1 z2 z3 := by
  intro n
  induction n with
  | zero => intro z0 z1 z2 z3 _ h; exact h
  | succ n ih => intro z0 z1 z2 z3 hm; exact LK_wb_X2_uncovered_l8 (fun q0 q1 q2 q3 hq => ih q0 q1 q2 q3 hq) hk62 hK hm
theorem LK_wp_X2_uncovered {K K2 : Int32 → Mm → Prop} {L : Nat → Nat → Int64} {a0 : Nat} {x1 : Int32} {x2 : Int32} (hK : ∀ (a0 : Int32) (a1 : Mm), a1.2 = L → K a0 a1 → K2 a0 a1) {m : Mm} (hm : m.2 = L) : wp_X2_uncovered a0 x1 x2 m K → wp_X2_uncovered a0 x1 x2 m K2 := by
  unfold wp_X2_uncovered
  repeat' first
    | with_reducible exact id
    | exact hK _ _ (by first | assumption | (simp only [wI_L]; assumption))
    | refine LK_wp_X2_uncovered_l8 (fun _ _ _ hq => ?_) (fun _ _ hq => ?_) _ _ _ _ _ (by first | assumption | (simp only [wI_L]; assumption))
    | refine And.imp ?_ ?_
    | refine ite_mo ?_ ?_
    | (refine imp_mo (fun he => ?_); first | subst he | skip)
    | refine forall_imp (fun _ => ?_)
theorem LK_wp_X10_open {K K2 : Int32 → Mm → Prop} {L : Nat → Nat → Int64} {x1 : Int32} {x2 : Int32} (hK : ∀ (a0 : Int32) (a1 : Mm), a1.2 = L → K a0 a1 → K2 a0 a1) {m : Mm} (hm : m.2 = L) : wp_X10_open x1 x2 m K → wp_X10_open x1 x2 m K2 := by
  unfold wp_X10_open
  repeat' first
    | with_reducible exact id
    | exact hK _ _ (by first | assumption | (simp only [wI_L]; assumption))
    | refine LK_wp_X2_empty (fun _ hq => ?_) (by first | assumption | (simp only [wI_L]; assumption))
    | refine LK_wp_X10_open_l27 (fun _ hq => ?_) (fun _ _ hq => ?_) _ _ _ (by first | assumption | (simp only [wI_L]; assumption))
    | refine LK_wp_X2_uncovered (fun _ _ hq => ?_) (by first | assumption | (simp only [wI_L]; assumption))
    | refine And.imp ?_ ?_
    | refine ite_mo ?_ ?_
    | (refine imp_mo (fun he => ?_); first | subst he | skip)
    | refine forall_imp (fun _ => ?_)
theorem LK_wp_X0_takePoint {K K2 : Mm → Prop} {L : Nat → Nat → Int64} {x1 : Int32} {x2 : Int32} {x3 : Int32} (hK : ∀ (a0 : Mm), a0.2 = L → K a0 → K2 a0) {m : Mm} (hm : m.2 = L) : wp_X0_takePoint x1 x2 x3 m K → wp_X0_takePoint x1 x2 x3 m K2 := by
  unfold wp_X0_takePoint
  repeat' first
    | with_reducible exact id
    | exact hK _ (by first | assumption | (simp only [wI_L]; assumption))
    | refine And.imp ?_ ?_
    | refine ite_mo ?_ ?_
    | (refine imp_mo (fun he => ?_); first | subst he | skip)
    | refine forall_imp (fun _ => ?_)
theorem LK_wp_X0_takePoints {K K2 : Mm → Prop} {L : Nat → Nat → Int64} {x1 : Int32} (hK : ∀ (a0 : Mm), a0.2 = L → K a0 → K2 a0) {m : Mm} (hm : m.2 = L) : wp_X0_takePoints x1 m K → wp_X0_takePoints x1 m K2 := by
  unfold wp_X0_takePoints
  repeat' first
    | with_reducible exact id
    | exact hK _ (by first | assumption | (simp only [wI_L]; assumption))
    | refine LK_wp_X0_takePoint (fun _ hq => ?_) (by first | assumption | (simp only [wI_L]; assumption))
    | refine And.imp ?_ ?_
    | refine ite_mo ?_ ?_
    | (refine imp_mo (fun he => ?_); first | subst he | skip)
    | refine forall_imp (fun _ => ?_)
theorem LK_wb_X0_takeCoordinates_l7 {rec rec2 : Int32 → Mm → Prop} {K K2 : Mm → Prop} {L : Nat → Nat → Int64} {a1 : Nat} {a2 : Nat} {x3 : Int32} {x4 : Int32} (hrec : ∀ (a0 : Int32) (a1 : Mm), a1.2 = L → rec a0 a1 → rec2 a0 a1) (hK : ∀ (a0 : Mm), a0.2 = L → K a0 → K2 a0) {m : Mm} (hm : m.2 = L) : wb_X0_takeCoordinates_l7 rec K a1 a2 x3 x4 m → wb_X0_takeCoordinates_l7 rec2 K2 a1 a2 x3 x4 m := by
  unfold wb_X0_takeCoordinates_l7
  repeat' first
    | with_reducible exact id
    | exact hrec _ _ (by first | assumption | (simp only [wI_L]; assumption))
    | exact hK _ (by first | assumption | (simp only [wI_L]; assumption))
    | refine And.imp ?_ ?_
    | refine ite_mo ?_ ?_
    | (refine imp_mo (fun he => ?_); first | subst he | skip)
    | refine forall_imp (fun _ => ?_)
theorem LK_wp_X0_takeCoordinates_l7 {K K2 : Mm → Prop} {L : Nat → Nat → Int64} {a1 : Nat} {a2 : Nat} {x3 : Int32} (hK : ∀ (a0 : Mm), a0.2 = L → K a0 → K2 a0) : ∀ n (z0 : Int32) (z1 : Mm), z1.2 = L → wp_X0_takeCoordinates_l7 K a1 a2 x3 n z0 z1 → wp_X0_takeCoordinates_l7 K2 a1 a2 x3 n z0 z1 := by
  intro n
  induction n with
  | zero => intro z0 z1 _ h; exact h
  | succ n ih => intro z0 z1 hm; exact LK_wb_X0_takeCoordinates_l7 (fun q0 q1 hq => ih q0 q1 hq) hK hm
theorem LK_wp_X0_takeCoordinates {K K2 : Mm → Prop} {L : Nat → Nat → Int64} {a1 : Nat} {a2 : Nat} {x3 : Int32} (hK : ∀ (a0 : Mm), a0.2 = L → K a0 → K2 a0) {m : Mm} (hm : m.2 = L) : wp_X0_takeCoordinates a1 a2 x3 m K → wp_X0_takeCoordinates a1 a2 x3 m K2 := by
  unfold wp_X0_takeCoordinates
  repeat' first
    | with_reducible exact id
    | exact hK _ (by first | assumption | (simp only [wI_L]; assumption))
    | refine LK_wp_X0_takeCoordinates_l7 (fun _ hq => ?_) _ _ _ (by first | assumption | (simp only [wI_L]; assumption))
    | refine And.imp ?_ ?_
    | refine ite_mo ?_ ?_
    | (refine imp_mo (fun he => ?_); first | subst he | skip)
    | refine forall_imp (fun _ => ?_)
theorem LK_wb_X0_mismatch_l117 {rec rec2 : Int32 → Int32 → Mm → Prop} {k183 k1832 : Int32 → Mm → Prop} {K K2 : Int32 → Mm → Prop} {L : Nat → Nat → Int64} {x5 : Int32} {x6 : Int32} (hrec : ∀ (a0 : Int32) (a1 : Int32) (a2 : Mm), a2.2 = L → rec a0 a1 a2 → rec2 a0 a1 a2) (hk183 : ∀ (a0 : Int32) (a1 : Mm), a1.2 = L → k183 a0 a1 → k1832 a0 a1) (hK : ∀ (a0 : Int32) (a1 : Mm), a1.2 = L → K a0 a1 → K2 a0 a1) {m : Mm} (hm : m.2 = L) : wb_X0_mismatch_l117 rec k183 K x5 x6 m → wb_X0_mismatch_l117 rec2 k1832 K2 x5 x6 m := by
  unfold wb_X0_mismatch_l117
  repeat' first
    | with_reducible exact id
    | exact hrec _ _ _ (by first | assumption | (simp only [wI_L]; assumption))
    | exact hk183 _ _ (by first | assumption | (simp only [wI_L]; assumption))
    | exact hK _ _ (by first | assumption | (simp only [wI_L]; assumption))
    | refine And.imp ?_ ?_
    | refine ite_mo ?_ ?_
    | (refine imp_mo (fun he => ?_); first | subst he | skip)
    | refine forall_imp (fun _ => ?_)
theorem LK_wp_X0_mismatch_l117 {k183 k1832 : Int32 → Mm → Prop} {K K2 : Int32 → Mm → Prop} {L : Nat → Nat → Int64}  (hk183 : ∀ (a0 : Int32) (a1 : Mm), a1.2 = L → k183 a0 a1 → k1832 a0 a1) (hK : ∀ (a0 : Int32) (a1 : Mm), a1.2 = L → K a0 a1 → K2 a0 a1) : ∀ n (z0 : Int32) (z1 : Int32) (z2 : Mm), z2.2 = L → wp_X0_mismatch_l117 k183 K n z0 z1 z2 → wp_X0_mismatch_l117 k1832 K2 n z0 z1 z2 := by
  intro n
  induction n with
  | zero => intro z0 z1 z2 _ h; exact h
  | succ n ih => intro z0 z1 z2 hm; exact LK_wb_X0_mismatch_l117 (fun q0 q1 q2 hq => ih q0 q1 q2 hq) hk183 hK hm
theorem LK_wp_X0_mismatch {K K2 : Int32 → Mm → Prop} {L : Nat → Nat → Int64} {a1 : Nat} {x2 : Int32} (hK : ∀ (a0 : Int32) (a1 : Mm), a1.2 = L → K a0 a1 → K2 a0 a1) {m : Mm} (hm : m.2 = L) : wp_X0_mismatch a1 x2 m K → wp_X0_mismatch a1 x2 m K2 := by
  unfold wp_X0_mismatch
  repeat' first
    | with_reducible exact id
    | exact hK _ _ (by first | assumption | (simp only [wI_L]; assumption))
    | refine LK_wp_X0_takePoints (fun _ hq => ?_) (by first | assumption | (simp only [wI_L]; assumption))
    | refine LK_wp_X0_takeCoordinates (fun _ hq => ?_) (by first | assumption | (simp only [wI_L]; assumption))
    | refine LK_wp_X0_mismatch_l117 (fun _ _ hq => ?_) (fun _ _ hq => ?_) _ _ _ _ (by first | assumption | (simp only [wI_L]; assumption))
    | refine And.imp ?_ ?_
    | refine ite_mo ?_ ?_
    | (refine imp_mo (fun he => ?_); first | subst he | skip)
    | refine forall_imp (fun _ => ?_)
theorem fold_L {d : Nat} {x : Int32} {m : Mm} {K : Mm → Prop} (h : wp_X5_fold d x m (fun m2 => m2.2 = m.2 → K m2)) : wp_X5_fold d x m K := LK_wp_X5_fold (K := fun m2 => m2.2 = m.2 → K m2) (fun _ hq h => h hq) rfl h
theorem find_L {x : Int32} {m : Mm} {K : Mm → Prop} (h : wp_X10_find x m (fun m2 => m2.2 = m.2 → K m2)) : wp_X10_find x m K := LK_wp_X10_find (K := fun m2 => m2.2 = m.2 → K m2) (fun _ hq h => h hq) rfl h
theorem open_L {x y : Int32} {m : Mm} {K : Int32 → Mm → Prop} (h : wp_X10_open x y m (fun r m2 => m2.2 = m.2 → K r m2)) : wp_X10_open x y m K := LK_wp_X10_open (K := fun r m2 => m2.2 = m.2 → K r m2) (fun _ _ hq h => h hq) rfl h
theorem mis_L {d : Nat} {x : Int32} {m : Mm} {K : Int32 → Mm → Prop} (h : wp_X0_mismatch d x m (fun r m2 => m2.2 = m.2 → K r m2)) : wp_X0_mismatch d x m K := LK_wp_X0_mismatch (K := fun r m2 => m2.2 = m.2 → K r m2) (fun _ _ hq h => h hq) rfl h
