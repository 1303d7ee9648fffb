/-! the class's copying: Panel.become, Design.become, the history -/
theorem pbecome_ok {p q : Nat} {m : Mm} {K : Mm → Prop} (hne : q ≠ p) (h : K (cpA m q p 0 0 15)) : wp_X7_become p q m K := by
  have st := fun i => cpA_step m q p 0 0 i (fun e => absurd e hne)
  simp only [Nat.zero_add] at st
  unfold wp_X7_become
  simp only [forall_eq]
  have e : ∀ {a : Mm}, a = cpA m q p 0 0 0 → wI (wI (wI (wI (wI (wI (wI (wI (wI (wI (wI (wI (wI (wI (wI a p 0 (m.1 q 0)) p 1 (m.1 q 1)) p 2 (m.1 q 2)) p 3 (m.1 q 3)) p 4 (m.1 q 4)) p 5 (m.1 q 5)) p 6 (m.1 q 6)) p 7 (m.1 q 7)) p 8 (m.1 q 8)) p 9 (m.1 q 9)) p 10 (m.1 q 10)) p 11 (m.1 q 11)) p 12 (m.1 q 12)) p 13 (m.1 q 13)) p 14 (m.1 q 14) = cpA m q p 0 0 15 := by
    intro a ha
    have hr : ∀ i j, (cpA m q p 0 0 i).1 q j = m.1 q j := fun i j => by rw [cpA_get, if_neg (fun z => hne z.1)]
    simp only [hr] at st
    rw [ha, st, st, st, st, st, st, st, st, st, st, st, st, st, st, st]
  have e2 := e (a := m) (cpA_0 m q p 0 0).symm
  simp only [wI_ne _ _ _ _ hne]
  rw [e2]
  exact h
