/-! the class's copying: Panel.become, Design.become, the history -/
theorem pbecome_ok {p q : Nat} {m : Mm} {K : Mm → Prop} (hne : q ≠ p) (h : K (cpA m q p 0 0 15)) : wp_X7_become p q m K := by
  have st := fun i => cpA_step m q p 0 0 i (fun e => absurd e hne)
  simp only [Nat.zero_add] at st
  unfold wp_X7_become
  simp only [forall_eq]
  have e : ∀ {a : Mm}, a = cpA m q p 0 0 0 → wI (wI (wI (wI (wI (wI (wI (wI (wI (wI (wI (wI (wI (wI (wI a p 0 (m.1 q 0)) p 1 (m.1 q 1)) p 2 (m.1 q 2)) p 3 (m.1 q 3)) p 4 (m.1 q 4)) p 5 (m.1 q 5)) p 6 (m.1 q 6)) p 7 (m.1 q 7)) p 8 (m.1 q 8)) p 9 (m.1 q 9)) p 10 (m.1 q 10)) p 11 (m.1 q 11)) p 12 (m.1 q 12)) p 13 (m.1 q 13)) p 14 (m.1 q 14) = cpA m q p 0 0 15 := by
    intro a ha
    have hr : ∀ i j, (cpA m q p 0 0 i).1 q j = m.1 q j := fun i j => by rw [cpA_get, if_neg (fun z => hne z.1)]
    simp only [hr] at st
    rw [ha, st, st, st, st, st, st, st, st, st, st, st, st, st, st, st]
  have e2 := e (a := m) (cpA_0 m q p 0 0).symm
  simp only [wI_ne _ _ _ _ hne]
  rw [e2]
  exact h
theorem panelAt_in {d i : Nat} (h : i < 10) : v_X3_panelAt d (nI i) = d + 5 + i := by
  unfold v_X3_panelAt
  rw [if_neg (show ¬ nI i < 0 from nI_pos (by omega)), if_neg (show ¬ (10 : Int32) ≤ nI i from inle (a := 10) h (by omega)), clamp_nI (by omega)]
def bcm (m : Mm) (d e n : Nat) : Mm := (fun b j => if b = d ∧ (j = 2 ∨ j = 3 ∨ j = 4) then m.1 e j else if (b = d + 1 ∨ b = d + 2) ∧ j < 4 then m.1 (b - d + e) j else if d + 5 ≤ b ∧ b < d + 5 + n ∧ j < 15 then m.1 (b - d + e) j else m.1 b j, m.2)
theorem bcm_get (m : Mm) (d e n b j : Nat) : (bcm m d e n).1 b j = if b = d ∧ (j = 2 ∨ j = 3 ∨ j = 4) then m.1 e j else if (b = d + 1 ∨ b = d + 2) ∧ j < 4 then m.1 (b - d + e) j else if d + 5 ≤ b ∧ b < d + 5 + n ∧ j < 15 then m.1 (b - d + e) j else m.1 b j := rfl
theorem bcm_out {m : Mm} {d e n b : Nat} (h : b < d ∨ d + 15 ≤ b) (hn : n ≤ 10) : (bcm m d e n).1 b = m.1 b := by
  funext j
  rw [bcm_get, if_neg (by omega), if_neg (by omega), if_neg (by omega)]
def cpB (m : Mm) (d e i : Nat) : Mm := (fun b j => if d + 5 ≤ b ∧ b < d + 5 + i ∧ j < 15 then m.1 (b - d + e) j else m.1 b j, m.2)
def cpC (m : Mm) (d e i : Nat) : Mm := (fun b j => if (b = d + 1 ∨ b = d + 2) ∧ j < i then m.1 (b - d + e) j else m.1 b j, m.2)
theorem cpB_get (m : Mm) (d e i b j : Nat) : (cpB m d e i).1 b j = if d + 5 ≤ b ∧ b < d + 5 + i ∧ j < 15 then m.1 (b - d + e) j else m.1 b j := rfl
theorem cpC_get (m : Mm) (d e i b j : Nat) : (cpC m d e i).1 b j = if (b = d + 1 ∨ b = d + 2) ∧ j < i then m.1 (b - d + e) j else m.1 b j := rfl
theorem become_ok {d e n : Nat} {m : Mm} {K : Mm → Prop} (hde : d + 15 ≤ e ∨ e + 15 ≤ d) (hn : m.1 e 4 = nI n) (hn2 : n ≤ 10) (h : K (bcm m d e n)) : wp_X3_become d e m K := by
  unfold wp_X3_become
  rintro m1 rfl m2 rfl m3 rfl
  have hed : e ≠ d := by omega
  have e3 : wI (wI (wI m d 2 (m.1 e 2)) d 3 ((wI m d 2 (m.1 e 2)).1 e 3)) d 4 ((wI (wI m d 2 (m.1 e 2)) d 3 ((wI m d 2 (m.1 e 2)).1 e 3)).1 e 4) = wI (wI (wI m d 2 (m.1 e 2)) d 3 (m.1 e 3)) d 4 (m.1 e 4) := by
    simp only [wI_ne _ _ _ _ hed]
  rw [e3]
  generalize hm1 : wI (wI (wI m d 2 (m.1 e 2)) d 3 (m.1 e 3)) d 4 (m.1 e 4) = m1
  have g1 : ∀ b, b ≠ d → m1.1 b = m.1 b := fun b hb => by
    funext j
    rw [← hm1, wI_ne _ _ _ _ hb, wI_ne _ _ _ _ hb, wI_ne _ _ _ _ hb]
  have g4 : m1.1 d 4 = nI n := by rw [← hm1, wI_same, hn]
  refine loop_i (W := fun k i s => wp_X3_become_l26 _ K d e k (nI i) s) (I := fun i s => s = cpB m1 d e i) n ?_ ?_ FU 0 m1 (by omega) (FU_gt (by omega)) (Mm_ext (fun b j => by rw [cpB_get, if_neg (by omega)]) rfl)
  · intro k s es
    show wb_X3_become_l26 _ _ _ _ _ _ _
    unfold wb_X3_become_l26
    have hs4 : s.1 d 4 = nI n := by rw [es, cpB_get, if_neg (by omega), g4]
    rw [if_pos (by rw [hs4]; exact ile (Nat.le_refl n) (by omega)), es]
    refine loop_i (W := fun k i s => wp_X3_become_l55 K d e k (nI i) s) (I := fun i s => s = cpC (cpB m1 d e n) d e i) 4 ?_ ?_ FU 0 _ (by omega) (FU_gt (by omega)) (Mm_ext (fun b j => by rw [cpC_get, if_neg (by omega)]) rfl)
    · intro k s es
      show wb_X3_become_l55 _ _ _ _ _ _
      unfold wb_X3_become_l55
      rw [if_pos (show (4 : Int32) ≤ nI 4 from ile (a := 4) (by omega) (by omega)), es]
      have ef : cpC (cpB m1 d e n) d e 4 = bcm m d e n := by
        refine Mm_ext (fun b j => ?_) (by show m1.2 = m.2; rw [← hm1]; rfl)
        rw [cpC_get, bcm_get, cpB_get, cpB_get]
        by_cases h1 : (b = d + 1 ∨ b = d + 2) ∧ j < 4
        · rw [if_pos h1, if_neg (by omega), if_neg (by omega), if_pos h1, g1 _ (by omega)]
        · rw [if_neg h1, if_neg h1]
          by_cases h2 : d + 5 ≤ b ∧ b < d + 5 + n ∧ j < 15
          · rw [if_pos h2, if_pos h2, if_neg (by omega), g1 _ (by omega)]
          · rw [if_neg h2, if_neg h2]
            by_cases hb : b = d
            · subst hb
              rw [← hm1, wI_get, if_pos rfl, wI_get, if_pos rfl, wI_get, if_pos rfl]
              by_cases j4 : j = 4
              · subst j4; simp
              · by_cases j3 : j = 3
                · subst j3; simp
                · by_cases j2 : j = 2
                  · subst j2; simp
                  · rw [if_neg j4, if_neg j3, if_neg j2, if_neg (by omega)]
            · rw [if_neg (by omega), g1 b hb]
      rw [ef]
      exact h
    · intro k i s hi es kk
      show wb_X3_become_l55 _ _ _ _ _ _
      unfold wb_X3_become_l55
      rw [if_neg (show ¬ (4 : Int32) ≤ nI i from inle (a := 4) hi (by omega))]
      refine ⟨vp_in_nI hi (by omega), fun m5 h5 m6 h6 => ?_⟩
      rw [nI_1]
      refine kk _ ?_
      rw [h6, h5, clamp_nI (by omega), es]
      refine Mm_ext (fun b j => ?_) rfl
      have r1 : (cpC (cpB m1 d e n) d e i).1 (e + 1) i = (cpB m1 d e n).1 (e + 1) i := by rw [cpC_get, if_neg (by omega)]
      have r2 : (wI (cpC (cpB m1 d e n) d e i) (d + 1) i ((cpC (cpB m1 d e n) d e i).1 (e + 1) i)).1 (e + 2) i = (cpB m1 d e n).1 (e + 2) i := by rw [wI_ne _ _ _ _ (by omega), cpC_get, if_neg (by omega)]
      rw [r2, r1, wI_get, wI_get, cpC_get, cpC_get]
      by_cases b2 : b = d + 2
      · subst b2
        rw [if_pos rfl]
        by_cases hj : j = i
        · rw [if_pos hj, if_pos (by omega), hj, show d + 2 - d + e = e + 2 by omega]
        · rw [if_neg hj, if_neg (by omega)]
          by_cases hji : j < i
          · rw [if_pos (by omega), if_pos (by omega)]
          · rw [if_neg (by omega), if_neg (by omega)]
      · rw [if_neg b2]
        by_cases b1 : b = d + 1
        · subst b1
          rw [if_pos rfl]
          by_cases hj : j = i
          · rw [if_pos hj, if_pos (by omega), hj, show d + 1 - d + e = e + 1 by omega]
          · rw [if_neg hj]
            by_cases hji : j < i
            · rw [if_pos (by omega), if_pos (by omega)]
            · rw [if_neg (by omega), if_neg (by omega)]
        · rw [if_neg b1, if_neg (by omega), if_neg (by omega)]
  · intro k i s hi es kk
    show wb_X3_become_l26 _ _ _ _ _ _ _
    unfold wb_X3_become_l26
    have hs4 : s.1 d 4 = nI n := by rw [es, cpB_get, if_neg (by omega), g4]
    rw [if_neg (by rw [hs4]; exact inle hi (by omega)), panelAt_in (by omega), panelAt_in (by omega)]
    refine pbecome_ok (by omega) ?_
    rw [nI_1]
    refine kk _ ?_
    rw [es]
    refine Mm_ext (fun b j => ?_) rfl
    rw [cpA_get, cpB_get, cpB_get, cpB_get]
    by_cases hb : b = d + 5 + i
    · subst hb
      by_cases hj : j < 15
      · rw [if_pos (by omega), if_neg (by omega), if_pos (by omega), show d + 5 + i - d + e = e + 5 + i by omega]; simp
      · rw [if_neg (by omega), if_neg (by omega), if_neg (by omega)]
    · rw [if_neg (by omega)]
      by_cases hc : d + 5 ≤ b ∧ b < d + 5 + i ∧ j < 15
      · rw [if_pos hc, if_pos (by omega)]
      · rw [if_neg hc, if_neg (by omega)]
