/-! the reference's continueOver; continueImage -/
theorem gPrn_get (g : Vc) (k : Nat) (im t px py : Int32) (i : Nat) : gPrn g k im t px py i = if i = 11 + 11 * k + 10 then py else if i = 11 + 11 * k + 9 then px else if i = 11 + 11 * k + 8 then t else if i = 11 + 11 * k + 7 then im else g i := rfl
theorem rcont_ok {m : Mm} {g : Vc} {an : Nat → Int32} {tol : Int32} {i : Nat} {s : Qd} {b : Bool} {x : Int32} {K : Int32 → Mm → Prop} (hr : rngD g) (hs : stR m g) (hf : flatR m g (pn g)) (hF : fR m g an (pn g)) (hS : rSm m g an (seamL g an tol)) (hl : (seamL g an tol).length ≤ 720) (hi : (seamL g an tol)[i]? = some s) (hb : x = 0 ↔ b = false)
    (k0 : (∀ t, ¬ xPl g an s b t) → K (-9) m)
    (k1 : ∀ t m2, xPl g an s b t → stR m2 (gPrn g (tK s b) (pf g (fK s b) 7) (nI t) (xpx g an s b t) (xpy g an s b t)) → (∀ b, b ≠ 427 → m2.1 b = m.1 b) → K (nI t) m2) : wp_X12_continueOver (nI i) x m K := by
  have hp1 := hr.par.1
  have wf := seam_at hi
  obtain ⟨h1, -⟩ := List.getElem?_eq_some_iff.mp hi
  obtain ⟨f1, f2, f3, f4, f5, ⟨a1, a2⟩, ⟨a3, a4⟩, ⟨a5, a6⟩, ⟨a7, a8⟩, z1, z2⟩ := seam_fin (b := b) wf
  obtain ⟨r0, r1, r2, r3, r4, r5, r6, r7, r8⟩ := hS.2 i s hi
  have ei : ∀ {α : Type} (u v : α), (if x = 0 then u else v) = if b then v else u := fun u v => by
    cases b
    · rw [if_pos (hb.mpr rfl)]; rfl
    · rw [if_neg (fun z => by have := hb.mp z; cases this)]; rfl
  have e5 : (if b then nI s.2.2.1 else nI s.1) = nI (fK s b) := by unfold fK; cases b <;> rfl
  have e10 : (if b then nI s.2.2.2 else nI s.2.1) = nI (fS s b) := by unfold fS; cases b <;> rfl
  have e16 : (if b then nI s.1 else nI s.2.2.1) = nI (tK s b) := by unfold tK; cases b <;> rfl
  have e21 : (if b then nI s.2.1 else nI s.2.2.2) = nI (tS s b) := by unfold tS; cases b <;> rfl
  have ec2 : ∀ a : Nat, a < 9 → (nI (9 * i + a)).toNatClampNeg = 9 * i + a := fun a ha => clamp_nI (by omega)
  have ev : ∀ a : Nat, a < 9 → vp_in (nI (9 * i + a)) 6480 := fun a ha => vp_in_nI (by omega) (by omega)
  have n1 : nI (9 * i) + (1 : Int32) = nI (9 * i + 1) := nI_add _ 1
  have n2 : nI (9 * i) + (2 : Int32) = nI (9 * i + 2) := nI_add _ 2
  have n3 : nI (9 * i) + (3 : Int32) = nI (9 * i + 3) := nI_add _ 3
  have n4 : nI (9 * i) + (4 : Int32) = nI (9 * i + 4) := nI_add _ 4
  have n5 : nI (9 * i) + (5 : Int32) = nI (9 * i + 5) := nI_add _ 5
  have n6 : nI (9 * i) + (6 : Int32) = nI (9 * i + 6) := nI_add _ 6
  unfold wp_X12_continueOver
  rw [show (9 : Int32) * nI i = nI (9 * i) from nI_mul 9 i]
  rintro y1 rfl
  rw [n1, n2, n3, n4, n5, n6, clamp_nI (show 9 * i < 2 ^ 31 by omega), ec2 1 (by omega), ec2 2 (by omega), ec2 3 (by omega), ec2 4 (by omega), ec2 5 (by omega), ec2 6 (by omega), r0, r1, r2, r3, r4, r5, r6, ei, ei, ei, ei, e5, e10, e16, e21]
  refine ⟨⟨fun _ => ev 0 (by omega), fun _ => ev 2 (by omega)⟩, ?_⟩
  rintro y6 rfl
  refine ⟨⟨fun _ => ev 1 (by omega), fun _ => ev 3 (by omega)⟩, ?_⟩
  rintro y11 rfl
  refine ⟨⟨fun _ => ev 2 (by omega), fun _ => ev 0 (by omega)⟩, ?_⟩
  rintro y16 rfl
  refine ⟨⟨fun _ => ev 3 (by omega), fun _ => ev 1 (by omega)⟩, ?_⟩
  rintro y21 rfl
  refine ⟨ev 4 (by omega), ?_⟩
  rintro y23 rfl
  obtain ⟨p1, p2⟩ := r_reach (x := nI (fS s b)) hr hs hf f1
  rw [p1]
  refine ⟨p2, ?_⟩
  by_cases q0 : aReach g (fK s b) (nI (fS s b)) = -9
  · rw [if_pos q0]
    exact k0 (fun t z => z.1 q0)
  rw [if_neg q0]
  have gi := reach_img q0
  obtain ⟨⟨s1, s2⟩, s3, s4⟩ := r_size hr hs f1 gi
  rw [s1, s3]
  refine ⟨s2, ?_⟩
  rintro y27 rfl
  refine ⟨s4, ?_⟩
  rintro y29 rfl
  refine ⟨ev 5 (by omega), ?_⟩
  have E1 := r_end hr hs hF hf f1 f2 gi a1 a2
  have E2 := r_end hr hs hF hf f1 f2 gi a3 a4
  have A1 := r_along hr hF hf f3 f4 a5 a6
  have A2 := r_along hr hF hf f3 f4 a7 a8
  rw [z1] at E1 E2
  rw [z2] at A1 A2
  obtain ⟨P1, P2, P3, P4, P5, P6, P7, P8⟩ := PX0 g an s b
  have C0 := cU_f g an s b 0 (by omega)
  rw [Nat.add_zero] at C0
  have C1 := cU_f g an s b 1 (by omega)
  have C2 := cU_f g an s b 2 (by omega)
  have g1 : v_X12_atEnd (nI (fK s b)) (nI (fS s b)) (nI (zA g an s.1 s.2.1)) (sL g an s) 0 m = cU g an s (aB b) := by rw [E1.1, C0.1, P1, P2]
  have g2 : v_X12_atEnd (nI (fK s b)) (nI (fS s b)) (nI (zA g an s.1 s.2.1)) (sL g an s) 1 m = cV g an s (aB b) := by rw [E1.2.1, C0.2, P1, P2]
  have g3 : v_X12_atEnd (nI (fK s b)) (nI (fS s b)) (nI (zA g an s.1 s.2.1)) (sH g an s) 0 m = cU g an s (aB b + 1) := by rw [E2.1, C1.1, P3, P4]
  have g4 : v_X12_atEnd (nI (fK s b)) (nI (fS s b)) (nI (zA g an s.1 s.2.1)) (sH g an s) 1 m = cV g an s (aB b + 1) := by rw [E2.2.1, C1.2, P3, P4]
  rw [g1, g2, g3, g4, A1.1, A1.2.1, A2.1, A2.2.1, ← P5, ← P6, ← P7, ← P8]
  refine ⟨E1.2.2 _, ?_⟩
  rintro y32 rfl
  refine ⟨E1.2.2 _, ?_⟩
  rintro y34 rfl
  refine ⟨ev 6 (by omega), E2.2.2 _, ?_⟩
  rintro y37 rfl
  refine ⟨E2.2.2 _, ?_⟩
  rintro y39 rfl
  obtain ⟨⟨st1, st2⟩, ⟨st3, st4⟩, st5⟩ := r_step (s := fS s b) hr hs f1 gi (PX g an s (aB b)) (PY g an s (aB b))
  refine ⟨st5 _ _, ?_⟩
  rintro y41 h41
  refine ⟨st5 _ _, ?_⟩
  rintro y43 h43
  refine ⟨A1.2.2 _, ?_⟩
  rintro y45 rfl
  refine ⟨A1.2.2 _, ?_⟩
  rintro y47 rfl
  refine ⟨A2.2.2 _, ?_⟩
  rintro y49 rfl
  refine ⟨A2.2.2 _, ?_⟩
  rintro y51 rfl
  obtain ⟨t0, h0, et⟩ := turn_i hr f1
  obtain ⟨su, hsu⟩ : ∃ su, su = v_X12_step (nI (fK s b)) (nI (fS s b)) 1 0 m := ⟨_, rfl⟩
  obtain ⟨sv, hsv⟩ : ∃ sv, sv = v_X12_step (nI (fK s b)) (nI (fS s b)) 1 1 m := ⟨_, rfl⟩
  rw [← hsu] at h41 st1
  rw [← hsv] at h43 st2
  have X2 := PX2 g an s b
  have Hu : cU g an s (aB b + 2) - cU g an s (aB b) = (if b then -su else su) ∧ cV g an s (aB b + 2) - cV g an s (aB b) = (if b then -sv else sv) := by
    have c := cU_d (an := an) (s := s) (b := b) (i := 2) (by omega) h0 et
    rw [c.1, c.2, X2.1, X2.2.1]
    have u1 : su = lU t0 (oX (fS s b)) (oY (fS s b)) ∧ sv = lV t0 (oX (fS s b)) (oY (fS s b)) := by
      rw [st1, st2]
      unfold aU aV
      rw [et]
      have d1 := oU_diff h0 (imw g (fK s b)) (PX g an s (aB b)) (PY g an s (aB b)) (PX g an s (aB b) + oX (fS s b)) (PY g an s (aB b) + oY (fS s b)) (pf g (fK s b) 9) (pf g (fK s b) 10)
      have d2 := oU_diff h0 (imh g (fK s b)) (PX g an s (aB b)) (PY g an s (aB b)) (PX g an s (aB b) + oX (fS s b)) (PY g an s (aB b) + oY (fS s b)) (pf g (fK s b) 9) (pf g (fK s b) 10)
      have e1 : PX g an s (aB b) + oX (fS s b) - PX g an s (aB b) = oX (fS s b) := by grind
      have e2 : PY g an s (aB b) + oY (fS s b) - PY g an s (aB b) = oY (fS s b) := by grind
      rw [d1.1, d2.2, e1, e2]
      exact ⟨rfl, rfl⟩
    have ng := lU_mul h0 (-1) (oX (fS s b)) (oY (fS s b))
    have m1 : ∀ z : Int32, -1 * z = -z := fun z => by grind
    rw [m1, m1, m1, m1] at ng
    cases b
    · exact ⟨u1.1.symm, u1.2.symm⟩
    · simp only [if_true]
      rw [u1.1, u1.2]
      exact ng
  subst h41
  subst h43
  have st9 : ∀ (g2 : Vc) (m2 : Mm), stR m2 g2 → ∀ (j : Nat) (v : Int32), stR (wI m2 427 j v) (vset g2 j v) := fun g2 m2 h j v k hk => by
    rw [wI_get, if_pos rfl]
    unfold vset
    by_cases w : k = j
    · rw [if_pos w, if_pos w]
    · rw [if_neg w, if_neg w]; exact h k hk
  refine loop_i (W := fun n t (q : Int32 × Mm) => wp_X12_continueOver_l354 _ K (nI (fK s b)) (nI (tK s b)) (nI (tS s b)) (imw g (fK s b)) (imh g (fK s b)) (cU g an s (aB b)) (cV g an s (aB b)) (cU g an s (aB b + 1)) (cV g an s (aB b + 1)) (cU g an s (aB b) + su) (cV g an s (aB b) + sv) (PX g an s (oB b)) (PY g an s (oB b)) (PX g an s (oB b + 1)) (PY g an s (oB b + 1)) n q.1 (nI t) q.2)
    (I := fun t q => (q.1 = -9 ∧ q.2 = m ∧ ∀ t', t' < t → ¬ xPl g an s b t') ∨ ∃ t', t' < t ∧ xPl g an s b t' ∧ q.1 = nI t' ∧ stR q.2 (gF (gF g (tK s b) 9 (xpx g an s b t')) (tK s b) 10 (xpy g an s b t')) ∧ ∀ b, b ≠ 427 → q.2.1 b = m.1 b) 8 ?_ ?_ FU 0 (-9, m) (by omega) (FU_gt (by omega)) (Or.inl ⟨rfl, rfl, fun t h => by omega⟩)
  · rintro n ⟨q1, q2⟩ hq
    show wb_X12_continueOver_l354 _ _ _ _ _ _ _ _ _ _ _ _ _ _ _ _ _ _ _ _ _
    unfold wb_X12_continueOver_l354
    rw [if_pos (show (8 : Int32) ≤ nI 8 from ile (a := 8) (by omega) (by omega))]
    rcases hq with ⟨u1, u2, u3⟩ | ⟨t, u0, u1, u2, u3, u4⟩
    · show (if q1 = _ then _ else _)
      rw [if_pos u1]
      have u2' : q2 = m := u2
      rw [u2', show q1 = -9 from u1]
      exact k0 (fun t z => u3 t z.2.1 z)
    · show (if q1 = _ then _ else _)
      have e9 : (-9 : Int32).toInt = -9 := rfl
      rw [show q1 = nI t from u2, if_neg (show ¬ nI t = (-9 : Int32) from fun z => by have := congrArg Int32.toInt z; rw [nI_toInt (by omega)] at this; omega)]
      refine ⟨sof7 (by omega), ?_⟩
      have u3' : stR q2 (gF (gF g (tK s b) 9 (xpx g an s b t)) (tK s b) 10 (xpy g an s b t)) := u3
      rw [of7 u3' (by omega), gF_other (by omega) (by omega) (Or.inr (by omega)), gF_other (by omega) (by omega) (Or.inr (by omega))]
      refine put_ok (j := 7) rfl (by omega) (by omega) (put_ok (j := 8) rfl (by omega) (by omega) ?_)
      refine k1 t _ u1 (fun k hk => ?_) (fun b hb => ?_)
      · have := st9 _ _ (st9 _ _ u3' (11 + 11 * tK s b + 7) (pf g (fK s b) 7)) (11 + 11 * tK s b + 8) (nI t) k hk
        rw [this, gPrn_get]
        unfold gF vset
        by_cases w1 : k = 11 + 11 * tK s b + 10
        · rw [if_neg (by omega), if_neg (by omega), if_pos w1, if_pos w1]
        · by_cases w2 : k = 11 + 11 * tK s b + 9
          · rw [if_neg (by omega), if_neg (by omega), if_neg w1, if_pos w2, if_neg w1, if_pos w2]
          · by_cases w3 : k = 11 + 11 * tK s b + 8
            · rw [if_pos w3, if_neg w1, if_neg w2, if_pos w3]
            · rw [if_neg w3, if_neg w1, if_neg w2, if_neg w1, if_neg w2, if_neg w3]
      · funext j
        rw [wI_ne _ _ _ _ hb, wI_ne _ _ _ _ hb]
        exact congrFun (u4 b hb) j
  · rintro n t ⟨q1, q2⟩ ht hq k2
    show wb_X12_continueOver_l354 _ _ _ _ _ _ _ _ _ _ _ _ _ _ _ _ _ _ _ _ _
    unfold wb_X12_continueOver_l354
    rw [if_neg (show ¬ (8 : Int32) ≤ nI t from inle (a := 8) ht (by omega)), (r_ot ht _ _ _ _).1, (r_ot ht _ _ _ _).2, (r_ot ht _ _ _ _).1, (r_ot ht _ _ _ _).2, (r_ot ht _ _ _ _).1, (r_ot ht _ _ _ _).2, nI_1]
    intro y53 h53 y54 h54
    have g53 : y53 = xpx g an s b t := h53
    have g54 : y54 = xpy g an s b t := h54
    clear h53 h54
    subst g53
    subst g54
    intro y57 h57 y61 h61
    have G1 := agi_r1 (g := g) (an := an) (s := s) (b := b) (i := 1) ht
    have G2 := agi_r2 (g := g) (an := an) (s := s) (b := b) ht Hu.1 Hu.2
    have F57 : flag y57 (agi g an s b t 1) := by
      rw [h57]
      refine flag_iff ?_ G1.symm
      by_cases w1 : PX g an s (oB b + 1) - xpx g an s b t = v_X0_turnedA (nI t) (imw g (fK s b)) (imh g (fK s b)) (cU g an s (aB b + 1)) (cV g an s (aB b + 1))
      · rw [if_pos w1]
        by_cases w2 : PY g an s (oB b + 1) - xpy g an s b t = v_X0_turnedB (nI t) (imw g (fK s b)) (imh g (fK s b)) (cU g an s (aB b + 1)) (cV g an s (aB b + 1))
        · rw [if_pos w2]; exact Or.inl ⟨rfl, w1, w2⟩
        · rw [if_neg w2]; exact Or.inr ⟨rfl, fun z => w2 z.2⟩
      · rw [if_neg w1]; exact Or.inr ⟨rfl, fun z => w1 z.1⟩
    have F61 : flag y61 (xAg g an s b t) := by
      rw [h61]
      unfold xAg
      rcases F57 with ⟨v1, v2⟩ | ⟨v1, v2⟩
      · rw [if_neg (by rw [v1]; decide)]
        by_cases w1 : PX g an s (oB b) - oX (tS s b) - xpx g an s b t = v_X0_turnedA (nI t) (imw g (fK s b)) (imh g (fK s b)) (cU g an s (aB b) + su) (cV g an s (aB b) + sv)
        · have w1' : PX g an s (oB b) - v_X12_outward (nI (tS s b)) 0 - xpx g an s b t = v_X0_turnedA (nI t) (imw g (fK s b)) (imh g (fK s b)) (cU g an s (aB b) + su) (cV g an s (aB b) + sv) := w1
          rw [if_pos w1']
          by_cases w2 : PY g an s (oB b) - oY (tS s b) - xpy g an s b t = v_X0_turnedB (nI t) (imw g (fK s b)) (imh g (fK s b)) (cU g an s (aB b) + su) (cV g an s (aB b) + sv)
          · have w2' : PY g an s (oB b) - v_X12_outward (nI (tS s b)) 1 - xpy g an s b t = v_X0_turnedB (nI t) (imw g (fK s b)) (imh g (fK s b)) (cU g an s (aB b) + su) (cV g an s (aB b) + sv) := w2
            rw [if_pos w2']; exact Or.inl ⟨rfl, v2, G2.mpr ⟨w1, w2⟩⟩
          · have w2' : ¬ PY g an s (oB b) - v_X12_outward (nI (tS s b)) 1 - xpy g an s b t = v_X0_turnedB (nI t) (imw g (fK s b)) (imh g (fK s b)) (cU g an s (aB b) + su) (cV g an s (aB b) + sv) := w2
            rw [if_neg w2']; exact Or.inr ⟨rfl, fun z => w2 (G2.mp z.2).2⟩
        · have w1' : ¬ PX g an s (oB b) - v_X12_outward (nI (tS s b)) 0 - xpx g an s b t = v_X0_turnedA (nI t) (imw g (fK s b)) (imh g (fK s b)) (cU g an s (aB b) + su) (cV g an s (aB b) + sv) := w1
          rw [if_neg w1']; exact Or.inr ⟨rfl, fun z => w1 (G2.mp z.2).1⟩
      · rw [if_pos v1]; exact Or.inr ⟨rfl, fun z => v2 z.1⟩
    have kskip : ¬ xPl g an s b t → wp_X12_continueOver_l354 _ K (nI (fK s b)) (nI (tK s b)) (nI (tS s b)) (imw g (fK s b)) (imh g (fK s b)) (cU g an s (aB b)) (cV g an s (aB b)) (cU g an s (aB b + 1)) (cV g an s (aB b + 1)) (cU g an s (aB b) + su) (cV g an s (aB b) + sv) (PX g an s (oB b)) (PY g an s (oB b)) (PX g an s (oB b + 1)) (PY g an s (oB b + 1)) n q1 (nI (t + 1)) q2 := fun z => k2 (q1, q2) (by
      rcases hq with ⟨u1, u2, u3⟩ | ⟨t', u0, u1⟩
      · exact Or.inl ⟨u1, u2, fun t' h' => by
          by_cases w : t' = t
          · rw [w]; exact z
          · exact u3 t' (by omega)⟩
      · exact Or.inr ⟨t', by omega, u1⟩)
    have a3 : (-300 : Int32).toInt = -300 := rfl
    have a4 : (300 : Int32).toInt = 300 := rfl
    rcases F61 with ⟨v1, v2⟩ | ⟨v1, v2⟩
    · rw [if_neg (by rw [v1]; decide)]
      by_cases w1 : inR (xpx g an s b t) (-300) 300
      · rw [if_neg (in_ne (by have := w1.1; omega) (by have := w1.2; omega))]
        by_cases w2 : inR (xpy g an s b t) (-300) 300
        · rw [if_neg (in_ne (by have := w2.1; omega) (by have := w2.2; omega))]
          have hpl : xPl g an s b t := ⟨q0, ht, v2, w1, w2⟩
          refine put_ok (j := 9) rfl (by omega) (by omega) (put_ok (j := 10) rfl (by omega) (by omega) ?_)
          rcases hq with ⟨u1, u2, u3⟩ | ⟨t', u0, u1, -⟩
          · have u2' : q2 = m := u2
            refine k2 (nI t, _) (Or.inr ⟨t, by omega, hpl, rfl, ?_, fun b hb => ?_⟩)
            · rw [u2']
              exact st9 _ _ (st9 _ _ hs _ _) _ _
            · funext j
              show (wI (wI q2 427 _ _) 427 _ _).1 b j = _
              rw [wI_ne _ _ _ _ hb, wI_ne _ _ _ _ hb, u2']
          · exact absurd (xAg_one hr wf ht u1.2.1 v2 u1.2.2.1) (by omega)
        · rw [if_pos (in_iff.mpr (fun z => w2 ⟨by rw [a3] at z; exact z.1, by rw [a4] at z; exact z.2⟩))]
          exact kskip (fun z => w2 z.2.2.2.2)
      · rw [if_pos (in_iff.mpr (fun z => w1 ⟨by rw [a3] at z; exact z.1, by rw [a4] at z; exact z.2⟩))]
        exact kskip (fun z => w1 z.2.2.2.1)
    · rw [if_pos v1]
      exact kskip (fun z => v2 z.2.2.1)
