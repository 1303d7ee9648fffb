/-! the class plans, the reference continues -/
def coR (m : Mm) (g : Vc) (an : Nat → Int32) (s : Qd) (b : Bool) : Prop := ∀ i, i < 3 → m.1 393 (aB b + i) = cU g an s (aB b + i) ∧ m.1 394 (aB b + i) = cV g an s (aB b + i)
theorem aB_le (b : Bool) : aB b ≤ 3 ∧ oB b ≤ 3 ∧ aB b + oB b = 3 := by cases b <;> decide
theorem agrees_ok {m : Mm} {d : Nat} {g : Vc} {an : Nat → Int32} {s : Qd} {b : Bool} {x : Int32} {t : Nat} {K : Int32 → Mm → Prop} (hr : rngD g) (hd : desR m.1 d g) (hb : x = 0 ↔ b = false) (hk : fK s b < pn g) (ht : t < 8) (hP : ptR m g an s) (hC : coR m g an s b) (h4 : m.1 267 4 = pf g (fK s b) 7)
    (kk : ∀ y m2, flag y (xAg g an s b t) → m2.1 267 1 = xpx g an s b t → m2.1 267 2 = xpy g an s b t → (∀ b j, b ≠ 267 ∨ (j ≠ 1 ∧ j ≠ 2) → m2.1 b j = m.1 b j) → K y m2) : wp_X0_agrees d (nI t) x m K := by
  have hp1 := hr.par.1
  obtain ⟨l1, l2, l3⟩ := aB_le b
  unfold wp_X0_agrees
  have e2 : (if x = 0 then (0 : Int32) else 3) = nI (aB b) := by
    unfold aB
    cases b
    · rw [if_pos (hb.mpr rfl)]; rfl
    · rw [if_neg (fun z => by have := hb.mp z; cases this)]; rfl
  rw [e2]
  rintro y2 rfl
  rw [show (3 : Int32) - nI (aB b) = nI (3 - aB b) from nI_sub (a := 3) l1, show 3 - aB b = oB b by omega]
  rintro y3 rfl
  rw [h4, c_iw hr hd hk, c_ih hr hd hk]
  rintro y4 rfl y5 rfl
  refine ⟨vp_in_nI (by omega) (by omega), vp_in_nI (by omega) (by omega), ?_⟩
  rw [clamp_nI (by omega), clamp_nI (by omega)]
  have c0 := hC 0 (by omega)
  rw [Nat.add_zero] at c0
  rw [c0.1, c0.2, (hP (oB b) (by omega)).1]
  intro m8 h8 m9 h9
  have a8 : ∀ b, b ≠ 267 → m8.1 b = m.1 b := fun b hb => by funext j; rw [h8, wI_ne _ _ _ _ hb]
  rw [a8 392 (by omega), a8 393 (by omega), a8 394 (by omega), c0.1, c0.2, (hP (oB b) (by omega)).2] at h9
  have a9 : ∀ b, b ≠ 267 → m9.1 b = m.1 b := fun b hb => by funext j; rw [h9, wI_ne _ _ _ _ hb, a8 b hb]
  have x9 : m9.1 267 1 = xpx g an s b t := by rw [h9, wI_nj _ _ _ _ (by omega), h8, wI_same]; rfl
  have y9 : m9.1 267 2 = xpy g an s b t := by rw [h9, wI_same]; rfl
  have f9 : ∀ b j, b ≠ 267 ∨ (j ≠ 1 ∧ j ≠ 2) → m9.1 b j = m.1 b j := fun b j h => by
    by_cases w : b = 267
    · subst w
      rw [h9, wI_nj _ _ _ _ (by omega), h8, wI_nj _ _ _ _ (by omega)]
    · rw [a9 b w]
  refine loop_a (wp := fun n i (_ : Unit) => wp_X0_agrees_l108 K (nI t) (nI (aB b)) (nI (oB b)) (imw g (fK s b)) (imh g (fK s b)) n i m9) (I := fun i _ => ∀ j, 1 ≤ j → j < i → agi g an s b t j) (a := 1) (N := 3) (by omega) (by omega) ?_ ?_ (s0 := ()) (fun j h1 h2 => by omega)
  · rintro n i - h1 h2 i1
    have e : i = 3 := by omega
    subst e
    show wb_X0_agrees_l108 _ _ _ _ _ _ _ _ _
    unfold wb_X0_agrees_l108
    rw [if_pos (show (3 : Int32) ≤ nI 3 from ile (a := 3) (by omega) (by omega))]
    exact kk 1 m9 (Or.inl ⟨rfl, i1 1 (by omega) (by omega), i1 2 (by omega) (by omega)⟩) x9 y9 f9
  · rintro n i - h1 h2 i1 k2
    show wb_X0_agrees_l108 _ _ _ _ _ _ _ _ _
    unfold wb_X0_agrees_l108
    rw [if_neg (show ¬ (3 : Int32) ≤ nI i from inle (a := 3) h2 (by omega)), nI_add, nI_add, clamp_nI (by omega), clamp_nI (by omega), a9 391 (by omega), a9 392 (by omega), a9 393 (by omega), a9 394 (by omega), x9, y9, (hP (oB b + i) (by omega)).1, (hP (oB b + i) (by omega)).2, (hC i h2).1, (hC i h2).2]
    refine ⟨vp_in_nI (by omega) (by omega), ?_⟩
    rintro y12 rfl y13 rfl
    refine ⟨vp_in_nI (by omega) (by omega), ?_⟩
    have kf : ¬ agi g an s b t i → K 0 m9 := fun z => kk 0 m9 (Or.inr ⟨rfl, fun q => by
      have : i = 1 ∨ i = 2 := by omega
      rcases this with w | w
      · rw [w] at z; exact z q.1
      · rw [w] at z; exact z q.2⟩) x9 y9 f9
    by_cases q1 : v_X0_originalU (nI t) (imw g (fK s b)) (PX g an s (oB b + i) - xpx g an s b t) (PY g an s (oB b + i) - xpy g an s b t) = cU g an s (aB b + i)
    · rw [if_pos q1]
      by_cases q2 : v_X0_originalV (nI t) (imh g (fK s b)) (PX g an s (oB b + i) - xpx g an s b t) (PY g an s (oB b + i) - xpy g an s b t) = cV g an s (aB b + i)
      · rw [if_pos q2]
        refine k2 () (fun j j1 j2 => ?_)
        by_cases w : j = i
        · rw [w]; exact (agi_c ht).mpr ⟨q1, q2⟩
        · exact i1 j j1 (by omega)
      · rw [if_neg q2]
        exact kf (fun z => q2 ((agi_c ht).mp z).2)
    · rw [if_neg q1]
      exact kf (fun z => q1 ((agi_c ht).mp z).1)
def frV (m m2 : Mm) : Prop := ∀ b, b ≠ 267 → b ≠ 391 → b ≠ 392 → b ≠ 393 → b ≠ 394 → m2.1 b = m.1 b
theorem plan_ok {m : Mm} {d : Nat} {g : Vc} {an : Nat → Int32} {tol : Int32} {i : Nat} {s : Qd} {b : Bool} {x : Int32} {K : Int32 → Mm → Prop} (hr : rngD g) (hd2 : d < 250) (hd : desR m.1 d g) (hF : cFd m g an) (hS : cSm m g an tol (seamL g an tol)) (hl : (seamL g an tol).length ≤ 360) (hi : (seamL g an tol)[i]? = some s) (hb : x = 0 ↔ b = false)
    (k0 : ∀ m2, (∀ t, ¬ xPl g an s b t) → frV m m2 → K 0 m2)
    (k1 : ∀ t m2, xPl g an s b t → m2.1 267 0 = nI t → m2.1 267 1 = xpx g an s b t → m2.1 267 2 = xpy g an s b t → m2.1 267 3 = nI (tK s b) → m2.1 267 4 = pf g (fK s b) 7 → frV m m2 → K 1 m2) : wp_X0_plan d (nI i) x m K := by
  have hp1 := hr.par.1
  have wf := seam_at hi
  obtain ⟨f1, f2, f3, f4, f5, -⟩ := seam_fin (b := b) wf
  obtain ⟨c1, c2, c3, c4, c5, c6, c7, c8⟩ := seam_c hp1 hS hl hi
  have ei : ∀ {α : Type} (u v : α), (if x = 0 then u else v) = if b then v else u := fun u v => by
    cases b
    · rw [if_pos (hb.mpr rfl)]; rfl
    · rw [if_neg (fun z => by have := hb.mp z; cases this)]; rfl
  unfold wp_X0_plan
  rw [c2, c3, c4, c5, ei, ei, ei, ei]
  refine ⟨⟨fun _ _ => c8, fun _ _ => c8⟩, ?_⟩
  have e5 : (if b then nI s.2.2.1 else nI s.1) = nI (fK s b) := by unfold fK; cases b <;> rfl
  have e10 : (if b then nI s.2.2.2 else nI s.2.1) = nI (fS s b) := by unfold fS; cases b <;> rfl
  have e16 : (if b then nI s.1 else nI s.2.2.1) = nI (tK s b) := by unfold tK; cases b <;> rfl
  have e21 : (if b then (3 : Int32) else 0) = nI (aB b) := by unfold aB; cases b <;> rfl
  rw [e5]
  rintro y5 rfl
  refine ⟨⟨fun _ _ => c8, fun _ _ => c8⟩, ?_⟩
  rw [e10]
  rintro y10 rfl
  rw [panelAt_in (by omega), c_reach hr hd f1]
  by_cases q0 : aReach g (fK s b) (nI (fS s b)) = -9
  · rw [if_pos q0]
    exact k0 m (fun t z => z.1 q0) (fun _ _ _ _ _ _ => rfl)
  rw [if_neg q0]
  refine ⟨⟨fun _ _ => c8, fun _ _ => c8⟩, ?_⟩
  rw [e16]
  rintro y16 rfl
  intro m17 h17 m18 h18
  have a17 : ∀ b, b ≠ 267 → m17.1 b = m.1 b := fun b hb => by funext j; rw [h17, wI_ne _ _ _ _ hb]
  rw [a17 (d + 5 + fK s b) (by omega), d_pf hd f1 (by omega) (by omega)] at h18
  have a18 : ∀ b, b ≠ 267 → m18.1 b = m.1 b := fun b hb => by funext j; rw [h18, wI_ne _ _ _ _ hb, a17 b hb]
  have o18 : frO m (fun b => if b = 267 then m.1 b else m18.1 b, m18.2) := fun b hb => by
    show (if b = 267 then m.1 b else m18.1 b) = m.1 b
    by_cases w : b = 267
    · rw [if_pos w]
    · rw [if_neg w, a18 b w]
  have F18 : cFd m18 g an := by
    refine ⟨by rw [a18 269 (by omega)]; exact hF.1, fun k hk => ?_⟩
    have h3 := hF.2 k hk
    unfold cF1 cP cL cS at h3 ⊢
    have e : ∀ b, b < 10 → m18.1 (283 + 10 * k + b) = m.1 (283 + 10 * k + b) := fun b hb => a18 _ (by omega)
    have e0 : m18.1 (283 + 10 * k) = m.1 (283 + 10 * k) := a18 _ (by omega)
    rw [e0, e 1 (by omega), e 2 (by omega), e 3 (by omega), e 4 (by omega), e 5 (by omega), e 6 (by omega), e 7 (by omega), e 8 (by omega), e 9 (by omega)]
    exact h3
  have S18 : cSm m18 g an tol (seamL g an tol) := by
    unfold cSm at hS ⊢
    rw [a18 268 (by omega), a18 383 (by omega), a18 384 (by omega), a18 385 (by omega), a18 386 (by omega), a18 387 (by omega)]
    exact hS
  refine takePoints_ok hp1 F18 S18 hl hi (fun m19 p19 f19 => ?_)
  rw [e21]
  rintro y21 rfl
  have d19 : desR m19.1 d g := desR_congr hp1 hd (fun b b1 b2 => by rw [f19 b (by omega) (by omega) (by omega) (by omega), a18 b (by omega)])
  obtain ⟨l1, l2, l3⟩ := aB_le b
  refine takeCo_ok (a := aB b) hr hd2 d19 f1 l1 p19 (fun m22 u22 v22 f22 => ?_)
  have d22 : desR m22.1 d g := desR_congr hp1 d19 (fun b b1 b2 => f22 b (by omega) (by omega))
  have p22 : ptR m22 g an s := fun i hi => by rw [f22 391 (by omega) (by omega), f22 392 (by omega) (by omega)]; exact p19 i hi
  have C22 : coR m22 g an s b := fun i hi => by
    have c := cU_f g an s b i hi
    rw [c.1, c.2]
    exact u22 (aB b + i) (by omega) (by omega)
  have w22 : m22.1 267 = m18.1 267 := by rw [f22 267 (by omega) (by omega), f19 267 (by omega) (by omega) (by omega) (by omega)]
  have t22 : m22.1 267 3 = nI (tK s b) := by rw [w22, h18, wI_nj _ _ _ _ (by omega), h17, wI_same]
  have g22 : m22.1 267 4 = pf g (fK s b) 7 := by rw [w22, h18, wI_same]
  have fv22 : frV m m22 := fun b b1 b2 b3 b4 b5 => by rw [f22 b b4 b5, f19 b b2 b3 b4 b5, a18 b b1]
  refine loop_i (W := fun n t s2 => wp_X0_plan_l133 _ K d x n (nI t) s2) (I := fun t s2 => (∀ b j, b ≠ 267 ∨ (j ≠ 1 ∧ j ≠ 2) → s2.1 b j = m22.1 b j) ∧ ∀ t', t' < t → ¬ xAg g an s b t') 8 ?_ ?_ FU 0 m22 (by omega) (FU_gt (by omega)) ⟨fun _ _ _ => rfl, fun t h => by omega⟩
  · rintro n s2 ⟨i1, i2⟩
    show wb_X0_plan_l133 _ _ _ _ _ _ _
    unfold wb_X0_plan_l133
    rw [if_pos (show (8 : Int32) ≤ nI 8 from ile (a := 8) (by omega) (by omega))]
    exact k0 s2 (fun t z => i2 t z.2.1 z.2.2.1) (fun b b1 b2 b3 b4 b5 => by rw [show s2.1 b = m22.1 b from funext fun j => i1 b j (Or.inl b1), fv22 b b1 b2 b3 b4 b5])
  · rintro n t s2 ht ⟨i1, i2⟩ k2
    show wb_X0_plan_l133 _ _ _ _ _ _ _
    unfold wb_X0_plan_l133
    rw [if_neg (show ¬ (8 : Int32) ≤ nI t from inle (a := 8) ht (by omega)), nI_1]
    have j1 : ∀ b, b ≠ 267 → s2.1 b = m22.1 b := fun b hb => funext fun j => i1 b j (Or.inl hb)
    refine agrees_ok hr (desR_congr hp1 d22 (fun b b1 b2 => j1 b (by omega))) hb f1 ht (fun i hi => by rw [j1 391 (by omega), j1 392 (by omega)]; exact p22 i hi) (fun i hi => by rw [j1 393 (by omega), j1 394 (by omega)]; exact C22 i hi) (by rw [i1 267 4 (by omega)]; exact g22) (fun y m24 hy x24 y24 f24 => ?_)
    have j24 : ∀ b j, b ≠ 267 ∨ (j ≠ 1 ∧ j ≠ 2) → m24.1 b j = m22.1 b j := fun b j h => by rw [f24 b j h, i1 b j h]
    rcases hy with ⟨z1, z2⟩ | ⟨z1, z2⟩
    · show (if _ then _ else _)
      rw [if_neg (by rw [z1]; decide)]
      intro m29 h29 y32 h32
      have x29 : m29.1 267 1 = xpx g an s b t := by rw [h29, wI_nj _ _ _ _ (by omega)]; exact x24
      have y29 : m29.1 267 2 = xpy g an s b t := by rw [h29, wI_nj _ _ _ _ (by omega)]; exact y24
      have fv29 : frV m m29 := fun b b1 b2 b3 b4 b5 => by
        rw [← fv22 b b1 b2 b3 b4 b5]
        funext j
        rw [h29, wI_ne _ _ _ _ b1, j24 b j (Or.inl b1)]
      rw [x29, y29] at h32
      by_cases q1 : -300 ≤ (xpx g an s b t).toInt ∧ (xpx g an s b t).toInt ≤ 300
      · rw [if_neg (fun z => isPos_0.mp z q1)] at h32
        by_cases q2 : -300 ≤ (xpy g an s b t).toInt ∧ (xpy g an s b t).toInt ≤ 300
        · rw [if_neg (fun z => isPos_0.mp z q2)] at h32
          rw [h32]
          refine k1 t m29 ⟨q0, ht, z2, q1, q2⟩ (by rw [h29, wI_same]) x29 y29 ?_ ?_ fv29
          · rw [h29, wI_nj _ _ _ _ (by omega), j24 267 3 (by omega)]; exact t22
          · rw [h29, wI_nj _ _ _ _ (by omega), j24 267 4 (by omega)]; exact g22
        · rw [if_pos (isPos_0.mpr q2)] at h32
          rw [h32]
          refine k0 m29 (fun t' z => q2 ?_) fv29
          rw [xAg_one hr wf ht z.2.1 z2 z.2.2.1]; exact z.2.2.2.2
      · rw [if_pos (isPos_0.mpr q1)] at h32
        rw [h32]
        refine k0 m29 (fun t' z => q1 ?_) fv29
        rw [xAg_one hr wf ht z.2.1 z2 z.2.2.1]; exact z.2.2.2.1
    · show (if _ then _ else _)
      rw [if_pos z1]
      refine k2 m24 ⟨j24, fun t' h' => ?_⟩
      by_cases w : t' = t
      · rw [w]; exact z2
      · exact i2 t' (by omega)
