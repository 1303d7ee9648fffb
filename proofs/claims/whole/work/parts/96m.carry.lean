/-! load: carrying out one item -/
theorem co_98 (nu : Nat → Int32) (g : Vc) : (rBase (nu 0) (nu 1) (nu 2) (nu 3) ∧ gok (gBase g (nu 0) (nu 1) (nu 2) (nu 3)) → co 98 nu g = some (gBase g (nu 0) (nu 1) (nu 2) (nu 3))) ∧ (¬ (rBase (nu 0) (nu 1) (nu 2) (nu 3) ∧ gok (gBase g (nu 0) (nu 1) (nu 2) (nu 3))) → co 98 nu g = none) := by
  unfold co
  rw [if_pos rfl]
  exact ⟨fun h => if_pos h, fun h => if_neg h⟩
theorem co_102 (nu : Nat → Int32) (g : Vc) : ((0 ≤ (nu 1).toInt ∧ (nu 1).toInt < pn g) ∧ rFlap (pn g) (nu 0) (nu 1) → co 102 nu g = some (gF g (nu 0).toNatClampNeg 6 (nu 1))) ∧ (¬ ((0 ≤ (nu 1).toInt ∧ (nu 1).toInt < pn g) ∧ rFlap (pn g) (nu 0) (nu 1)) → co 102 nu g = none) := by
  unfold co
  rw [if_neg (by decide), if_pos rfl]
  exact ⟨fun h => if_pos h, fun h => if_neg h⟩
theorem co_105 (nu : Nat → Int32) (g : Vc) : (rImg (nu 0) (nu 1) (nu 2) → co 105 nu g = some (gImg g (nu 0).toNatClampNeg (nu 1) (nu 2))) ∧ (¬ rImg (nu 0) (nu 1) (nu 2) → co 105 nu g = none) := by
  unfold co
  rw [if_neg (by decide), if_neg (by decide), if_pos rfl]
  exact ⟨fun h => if_pos h, fun h => if_neg h⟩
theorem co_112 (nu : Nat → Int32) (g : Vc) : ((0 ≤ (nu 5).toInt ∧ (nu 5).toInt ≤ 3) ∧ rPan (pn g) (nu 0) (nu 1) (nu 2) (nu 3) (nu 4) (aN (nu 5)) ∧ pn g < 10 ∧ gok (gPan g (pn g) (nu 0) (nu 1) (nu 2) (nu 3) (nu 4) (aN (nu 5))) → co 112 nu g = some (gPan g (pn g) (nu 0) (nu 1) (nu 2) (nu 3) (nu 4) (aN (nu 5)))) ∧ (¬ ((0 ≤ (nu 5).toInt ∧ (nu 5).toInt ≤ 3) ∧ rPan (pn g) (nu 0) (nu 1) (nu 2) (nu 3) (nu 4) (aN (nu 5)) ∧ pn g < 10 ∧ gok (gPan g (pn g) (nu 0) (nu 1) (nu 2) (nu 3) (nu 4) (aN (nu 5)))) → co 112 nu g = none) := by
  unfold co
  rw [if_neg (by decide), if_neg (by decide), if_neg (by decide), if_pos rfl]
  exact ⟨fun h => if_pos h, fun h => if_neg h⟩
theorem co_115 (nu : Nat → Int32) (g : Vc) : (rSheet (nu 0) (nu 1) ∧ gok (gSheet g (nu 0) (nu 1)) → co 115 nu g = some (gSheet g (nu 0) (nu 1))) ∧ (¬ (rSheet (nu 0) (nu 1) ∧ gok (gSheet g (nu 0) (nu 1))) → co 115 nu g = none) := by
  unfold co
  rw [if_neg (by decide), if_neg (by decide), if_neg (by decide), if_neg (by decide), if_pos rfl]
  exact ⟨fun h => if_pos h, fun h => if_neg h⟩
theorem co_97 (nu : Nat → Int32) (g : Vc) : (rPrn (pn g) (nu 0) (nu 1) (nu 2) (nu 3) (nu 4) ∧ ¬ g (3 + 2 * (nu 1).toNatClampNeg) = 0 → co 97 nu g = some (gPrn g (nu 0).toNatClampNeg (nu 1) (nu 2) (nu 3) (nu 4))) ∧ (¬ (rPrn (pn g) (nu 0) (nu 1) (nu 2) (nu 3) (nu 4) ∧ ¬ g (3 + 2 * (nu 1).toNatClampNeg) = 0) → co 97 nu g = none) := by
  unfold co
  rw [if_neg (by decide), if_neg (by decide), if_neg (by decide), if_neg (by decide), if_neg (by decide)]
  exact ⟨fun h => if_pos h, fun h => if_neg h⟩
theorem nof_c {c : Int32} (h : ¬ nof c = 0) : c = 98 ∨ c = 102 ∨ c = 105 ∨ c = 112 ∨ c = 115 ∨ c = 97 := by
  unfold nof at h
  by_cases c1 : c = 115
  · simp [c1]
  by_cases c2 : c = 102
  · simp [c2]
  by_cases c3 : c = 105
  · simp [c3]
  by_cases c4 : c = 98
  · simp [c4]
  by_cases c5 : c = 97
  · simp [c5]
  by_cases c6 : c = 112
  · simp [c6]
  rw [if_neg c1, if_neg c2, if_neg c3, if_neg c4, if_neg c5, if_neg c6] at h
  exact absurd rfl h
theorem co_good {c : Int32} {nu : Nat → Int32} {g g2 : Vc} (hD : Dd g) (hn : ¬ nof c = 0) (h : co c nu g = some g2) : Dd g2 ∧ ∀ k, 125 ≤ k → g2 k = g k := by
  have hp := hD.ple
  rcases nof_c hn with z | z | z | z | z | z <;> subst z
  · by_cases w : rBase (nu 0) (nu 1) (nu 2) (nu 3) ∧ gok (gBase g (nu 0) (nu 1) (nu 2) (nu 3))
    · rw [(co_98 nu g).1 w] at h
      have e := Option.some.inj h
      subst e
      exact ⟨⟨gBase_rng hD.r w.1, w.2⟩, fun k hk => gBase_hi (by omega)⟩
    · rw [(co_98 nu g).2 w] at h; cases h
  · by_cases w : (0 ≤ (nu 1).toInt ∧ (nu 1).toInt < pn g) ∧ rFlap (pn g) (nu 0) (nu 1)
    · rw [(co_102 nu g).1 w] at h
      have e := Option.some.inj h
      subst e
      have w2 := w.2.1
      obtain ⟨k, ek, ek2, ek3⟩ := asN (x := nu 0) (by omega)
      have hk : k < pn g := by omega
      rw [ek3]
      exact ⟨Dd_flap hD hk ek w.2, fun i hi => gF_out (by omega) (by omega) (by omega)⟩
    · rw [(co_102 nu g).2 w] at h; cases h
  · by_cases w : rImg (nu 0) (nu 1) (nu 2)
    · rw [(co_105 nu g).1 w] at h
      have e := Option.some.inj h
      subst e
      have w2 := w.1
      obtain ⟨k, ek, ek2, ek3⟩ := asN (x := nu 0) (by omega)
      rw [ek3]
      exact ⟨Dd_img hD (by omega) w.2.1 w.2.2, fun i hi => gImg_out (by omega) (by omega)⟩
    · rw [(co_105 nu g).2 w] at h; cases h
  · by_cases w : (0 ≤ (nu 5).toInt ∧ (nu 5).toInt ≤ 3) ∧ rPan (pn g) (nu 0) (nu 1) (nu 2) (nu 3) (nu 4) (aN (nu 5)) ∧ pn g < 10 ∧ gok (gPan g (pn g) (nu 0) (nu 1) (nu 2) (nu 3) (nu 4) (aN (nu 5)))
    · rw [(co_112 nu g).1 w] at h
      have e := Option.some.inj h
      subst e
      have w3 := w.2.2.1
      exact ⟨⟨gPan_rng hD.r w.2.2.1 w.2.1, w.2.2.2⟩, fun i hi => gPan_out (by omega) (by omega)⟩
    · rw [(co_112 nu g).2 w] at h; cases h
  · by_cases w : rSheet (nu 0) (nu 1) ∧ gok (gSheet g (nu 0) (nu 1))
    · rw [(co_115 nu g).1 w] at h
      have e := Option.some.inj h
      subst e
      exact ⟨⟨gSheet_rng hD.r w.1.1 w.1.2, w.2⟩, fun i hi => gSheet_ge (by omega)⟩
    · rw [(co_115 nu g).2 w] at h; cases h
  · by_cases w : rPrn (pn g) (nu 0) (nu 1) (nu 2) (nu 3) (nu 4) ∧ ¬ g (3 + 2 * (nu 1).toNatClampNeg) = 0
    · rw [(co_97 nu g).1 w] at h
      have e := Option.some.inj h
      subst e
      obtain ⟨c1, c2⟩ := w
      have w2 := c1.1
      have w3 := c1.2.1
      obtain ⟨i, ei, ei2, ei3⟩ := asN c1.2.1.1
      obtain ⟨k, ek, ek2, ek3⟩ := asN c1.1.1
      rw [ei3] at c2
      rw [ek3]
      exact ⟨Dd_prn hD (by omega) (Or.inr ⟨i, by omega, ei, c2⟩) c1.2.2.1 c1.2.2.2.1 c1.2.2.2.2, fun i hi => gPrn_hi (by omega) (by omega)⟩
    · rw [(co_97 nu g).2 w] at h; cases h
theorem lt0_nI {n : Nat} (h : n < 2 ^ 31) : ¬ nI n < (0 : Int32) := inlt (i := 0) (by omega) h
theorem ccarry_ok {m : Mm} {g : Vc} {c : Int32} {nu : Nat → Int32} {K : Int32 → Mm → Prop} (hD : Dd g) (hd : desR m.1 243 g) (hc : m.1 242 4 = c) (hn : ¬ nof c = 0) (hnu : ∀ j, j < nof c → m.1 258 j = nu j) (k0 : co c nu g = none → ∀ m2, frD 243 m m2 → K 0 m2) (k1 : ∀ g2, co c nu g = some g2 → ∀ m2, desR m2.1 243 g2 → frD 243 m m2 → K 1 m2) : wp_X9_carryOut m K := by
  have hp := hD.ple
  have hr : frD 243 m m := fun _ _ => rfl
  have h4 : m.1 243 4 = nI (pn g) := by rw [hd.2.2.1]; exact hD.g2
  unfold wp_X9_carryOut
  rw [hc]
  rcases nof_c hn with z | z | z | z | z | z <;> subst z
  · rw [if_pos rfl, hnu 0 (by decide), hnu 1 (by decide), hnu 2 (by decide), hnu 3 (by decide)]
    have hF := baseFault_ok (x := nu 0) (y := nu 1) (w := nu 2) (h := nu 3) hd
    by_cases c1 : rBase (nu 0) (nu 1) (nu 2) (nu 3)
    · by_cases c2 : gok (gBase g (nu 0) (nu 1) (nu 2) (nu 3))
      · rw [hF.2.2 c1 c2, if_pos rfl]
        refine startBase_ok hd (fun m2 d2 f2 => ?_)
        rintro y6 rfl
        rw [hD.g2, if_neg (lt0_nI (by omega))]
        exact k1 _ ((co_98 nu g).1 ⟨c1, c2⟩) _ d2 f2
      · rw [hF.2.1 c1 c2, if_neg (by decide)]
        exact k0 ((co_98 nu g).2 (fun w => c2 w.2)) _ hr
    · rw [hF.1 c1, if_neg (by decide)]
      exact k0 ((co_98 nu g).2 (fun w => c1 w.1)) _ hr
  · rw [if_neg (by decide), if_pos rfl]
    unfold wp_X9_glue
    rw [hnu 0 (by decide), hnu 1 (by decide)]
    by_cases c1 : 0 ≤ (nu 1).toInt ∧ (nu 1).toInt < pn g
    · rw [if_neg (fun w => (has_0 h4 hp).mp w c1)]
      have hF := flapFault_ok (d := 243) (x := nu 0) (y := nu 1) h4 hp
      by_cases c2 : rFlap (pn g) (nu 0) (nu 1)
      · rw [hF.2 c2, if_pos rfl]
        have w2 := c2.1
        obtain ⟨k, ek, ek2, ek3⟩ := asN (x := nu 0) (by omega)
        have hco := (co_102 nu g).1 ⟨c1, c2⟩
        rw [ek3] at hco
        rw [ek]
        exact changeTarget_ok (g := g) hd hp (by omega) (fun m2 d2 f2 => ⟨bo_1, k1 _ hco _ d2 f2⟩)
      · rw [hF.1 c2, if_neg (by decide)]
        exact ⟨bo_0, k0 ((co_102 nu g).2 (fun w => c2 w.2)) _ hr⟩
    · rw [if_pos ((has_0 h4 hp).mpr c1)]
      exact ⟨bo_0, k0 ((co_102 nu g).2 (fun w => c1 w.1)) _ hr⟩
  · rw [if_neg (by decide), if_neg (by decide), if_pos rfl, hnu 0 (by decide), hnu 1 (by decide), hnu 2 (by decide)]
    have hF := imageFault_ok (d := 243) (i := nu 0) (w := nu 1) (h := nu 2)
    by_cases c1 : rImg (nu 0) (nu 1) (nu 2)
    · rw [hF.2 c1, if_pos rfl]
      have w2 := c1.1
      obtain ⟨k, ek, ek2, ek3⟩ := asN (x := nu 0) (by omega)
      have hco := (co_105 nu g).1 c1
      rw [ek3] at hco
      rw [ek]
      refine changeImage_ok (g := g) hd hp (by omega) (fun m2 d2 f2 => ?_)
      rintro y6 rfl
      rw [if_neg (show ¬ (if g (3 + 2 * k) ≤ 0 then (0 : Int32) else 1) < 0 by split <;> decide)]
      exact k1 _ hco _ d2 f2
    · rw [hF.1 c1, if_neg (by decide)]
      exact k0 ((co_105 nu g).2 c1) _ hr
  · rw [if_neg (by decide), if_neg (by decide), if_neg (by decide), if_pos rfl]
    unfold wp_X9_hangPanel
    rw [hnu 0 (by decide), hnu 1 (by decide), hnu 2 (by decide), hnu 3 (by decide), hnu 4 (by decide), hnu 5 (by decide)]
    have a0 : (0 : Int32).toInt = 0 := rfl
    have a3 : (3 : Int32).toInt = 3 := rfl
    by_cases c0 : 0 ≤ (nu 5).toInt ∧ (nu 5).toInt ≤ 3
    · rw [if_neg (by rw [fa_lt]; omega), if_pos (by rw [fa_le]; omega)]
      rintro y4 rfl
      refine hangFault_ok hd hD (fun z => ?_) (fun z1 z2 => ?_) (fun z1 z2 z3 m2 f2 => ?_) (fun z1 z2 z3 m2 f2 => ?_)
      · rw [if_neg (by decide)]
        exact ⟨bo_0, k0 ((co_112 nu g).2 (fun w => z w.2.1)) _ hr⟩
      · rw [if_neg (by decide)]
        exact ⟨bo_0, k0 ((co_112 nu g).2 (fun w => by have := w.2.2.1; omega)) _ hr⟩
      · rw [if_neg (by decide)]
        exact ⟨bo_0, k0 ((co_112 nu g).2 (fun w => z3 w.2.2.2)) _ (fun b hb => f2 b (by omega))⟩
      · rw [if_pos rfl, f2 258 (by omega), hnu 0 (by decide), hnu 1 (by decide), hnu 2 (by decide), hnu 3 (by decide), hnu 4 (by decide)]
        have hd2 : desR m2.1 243 g := desR_tail hd f2
        refine hang_ok hd2 hD z2 z1 (fun m3 d3 f3 => ⟨bo_1, k1 _ ((co_112 nu g).1 ⟨c0, z1, z2, z3⟩) _ d3 (fun b hb => ?_)⟩)
        rw [f3 b hb, f2 b (by omega)]
    · by_cases c01 : nu 5 < (0 : Int32)
      · rw [if_pos c01]
        exact ⟨bo_0, k0 ((co_112 nu g).2 (fun w => c0 w.1)) _ hr⟩
      · rw [if_neg c01, if_neg (by rw [fa_le]; rw [fa_lt] at c01; omega)]
        exact ⟨bo_0, k0 ((co_112 nu g).2 (fun w => c0 w.1)) _ hr⟩
  · rw [if_neg (by decide), if_neg (by decide), if_neg (by decide), if_neg (by decide), if_pos rfl, hnu 0 (by decide), hnu 1 (by decide)]
    refine sheetFault_ok hd hD (fun z => ?_) (fun z1 z2 => ?_) (fun z1 z2 => ?_)
    · rw [if_neg (by decide)]
      exact k0 ((co_115 nu g).2 (fun w => z w.1)) _ hr
    · rw [if_neg (by decide)]
      exact k0 ((co_115 nu g).2 (fun w => z2 w.2)) _ hr
    · rw [if_pos rfl, hnu 0 (by decide), hnu 1 (by decide)]
      refine changeSheet_ok hd hp (fun m2 d2 f2 => ?_)
      rintro y30 rfl
      have hg0 := hD.r.1
      rw [if_neg (show ¬ g 0 < (0 : Int32) by rw [fa_lt]; have a0 : (0 : Int32).toInt = 0 := rfl; have := hg0.1; omega)]
      exact k1 _ ((co_115 nu g).1 ⟨z1, z2⟩) _ d2 f2
  · rw [if_neg (by decide), if_neg (by decide), if_neg (by decide), if_neg (by decide), if_neg (by decide)]
    unfold wp_X9_printImage
    rw [hnu 0 (by decide), hnu 1 (by decide), hnu 2 (by decide), hnu 3 (by decide), hnu 4 (by decide)]
    have hF := printFault_ok (x := nu 0) (im := nu 1) (t := nu 2) (px := nu 3) (py := nu 4) hd hD
    by_cases c1 : rPrn (pn g) (nu 0) (nu 1) (nu 2) (nu 3) (nu 4)
    · by_cases c2 : g (3 + 2 * (nu 1).toNatClampNeg) = 0
      · rw [hF.2.1 c1 c2, if_neg (by decide)]
        exact ⟨bo_0, k0 ((co_97 nu g).2 (fun w => w.2 c2)) _ hr⟩
      · rw [hF.2.2 c1 c2, if_pos rfl]
        have w2 := c1.1
        obtain ⟨k, ek, ek2, ek3⟩ := asN (x := nu 0) (by omega)
        have hco := (co_97 nu g).1 ⟨c1, c2⟩
        rw [ek3] at hco
        rw [ek]
        exact print_ok (g := g) hd hp (by omega) (fun m2 d2 f2 => ⟨bo_1, k1 _ hco _ d2 f2⟩)
    · rw [hF.1 c1, if_neg (by decide)]
      exact ⟨bo_0, k0 ((co_97 nu g).2 (fun w => c1 w.1)) _ hr⟩
theorem rcarry_ok {m0 m : Mm} {S : AS} {c : Int32} {nu : Nat → Int32} {K : Mm → Prop} (hD : Dd (sg S)) (hB : RB m0 m S (sg S)) (hn : ¬ nof c = 0) (hnu : ∀ j, j < nof c → m.1 437 j = nu j) (k0 : co c nu (sg S) = none → ∀ m2, RQ m0 m2 S → K m2) (k1 : ∀ g2, co c nu (sg S) = some g2 → ∀ m2, RB m0 m2 S g2 → K m2) : wp_X12_carryOut c m K := by
  have hp := hD.ple
  have hs := RB_st hB
  unfold wp_X12_carryOut
  rcases nof_c hn with z | z | z | z | z | z <;> subst z
  · rw [if_pos rfl, hnu 0 (by decide), hnu 1 (by decide), hnu 2 (by decide), hnu 3 (by decide)]
    exact doBase_ok hD hB (fun z m2 h2 => k0 ((co_98 nu _).2 (fun w => z w.1)) _ h2) (fun z1 z2 m2 h2 => k0 ((co_98 nu _).2 (fun w => z2 w.2)) _ h2) (fun z1 z2 m2 h2 => k1 _ ((co_98 nu _).1 ⟨z1, z2⟩) _ h2)
  · rw [if_neg (by decide), if_pos rfl, hnu 0 (by decide), hnu 1 (by decide)]
    rintro y6 rfl
    by_cases c1 : 0 ≤ (nu 1).toInt ∧ (nu 1).toInt < pn (sg S)
    · rw [if_neg (fun w => (isPanel_0 hs hD.g2 hp).mp w c1)]
      refine doFlap_ok hD hB (fun z m2 h2 => k0 ((co_102 nu _).2 (fun w => z w.2)) _ h2) (fun k ek h0 hk hr m2 h2 => ?_)
      have hco := (co_102 nu (sg S)).1 ⟨c1, hr⟩
      have e : (nu 0).toNatClampNeg = k := by rw [ek, clamp_nI (by omega)]
      rw [e] at hco
      exact k1 _ hco _ h2
    · rw [if_pos ((isPanel_0 hs hD.g2 hp).mpr c1)]
      have hno : ¬ rFlap (pn (sg S)) (nu 0) 300 := fun w => by
        have a3 : (300 : Int32).toInt = 300 := rfl
        rcases w.2 with w | w
        · exact absurd w (by decide)
        · have := w.1; omega
      exact doFlap_ok hD hB (fun z m2 h2 => k0 ((co_102 nu _).2 (fun w => c1 w.1)) _ h2) (fun k ek h0 hk hr m2 h2 => absurd hr hno)
  · rw [if_neg (by decide), if_neg (by decide), if_pos rfl, hnu 0 (by decide), hnu 1 (by decide), hnu 2 (by decide)]
    refine doImage_ok hB (fun z m2 h2 => k0 ((co_105 nu _).2 z) _ h2) (fun k ek hk hr m2 h2 => ?_)
    have hco := (co_105 nu (sg S)).1 hr
    have e : (nu 0).toNatClampNeg = k := by rw [ek, clamp_nI (by omega)]
    rw [e] at hco
    exact k1 _ hco _ h2
  · rw [if_neg (by decide), if_neg (by decide), if_neg (by decide), if_pos rfl, hnu 0 (by decide), hnu 1 (by decide), hnu 2 (by decide), hnu 3 (by decide), hnu 4 (by decide), hnu 5 (by decide)]
    rintro y16 rfl
    have a0 : (0 : Int32).toInt = 0 := rfl
    have a3 : (3 : Int32).toInt = 3 := rfl
    by_cases c0 : 0 ≤ (nu 5).toInt ∧ (nu 5).toInt ≤ 3
    · rw [if_neg (in_ne (by omega) (by omega))]
      exact doPanel_ok hD hB (fun z m2 h2 => k0 ((co_112 nu _).2 (fun w => z w.2.1)) _ h2) (fun z1 z2 m2 h2 => k0 ((co_112 nu _).2 (fun w => by have := w.2.2.1; omega)) _ h2) (fun z1 z2 z3 m2 h2 => k0 ((co_112 nu _).2 (fun w => z3 w.2.2.2)) _ h2) (fun z1 z2 z3 m2 h2 => k1 _ ((co_112 nu _).1 ⟨c0, z1, z2, z3⟩) _ h2)
    · rw [if_pos (in_0 (by omega))]
      have hno : ∀ n p s o l d, ¬ rPan n p s o l d 300 := fun n p s o l d w => by
        have a3 : (300 : Int32).toInt = 300 := rfl
        have := w.2.2.2.2.2; omega
      have hz := (co_112 nu (sg S)).2 (fun w => c0 w.1)
      exact doPanel_ok hD hB (fun z m2 h2 => k0 hz _ h2) (fun z1 => absurd z1 (hno _ _ _ _ _ _)) (fun z1 => absurd z1 (hno _ _ _ _ _ _)) (fun z1 => absurd z1 (hno _ _ _ _ _ _))
  · rw [if_neg (by decide), if_neg (by decide), if_neg (by decide), if_neg (by decide), if_pos rfl, hnu 0 (by decide), hnu 1 (by decide)]
    exact doSheet_ok hD hB (fun z m2 h2 => k0 ((co_115 nu _).2 (fun w => z w.1)) _ h2) (fun z1 z2 m2 h2 => k0 ((co_115 nu _).2 (fun w => z2 w.2)) _ h2) (fun z1 z2 m2 h2 => k1 _ ((co_115 nu _).1 ⟨z1, z2⟩) _ h2)
  · rw [if_neg (by decide), if_neg (by decide), if_neg (by decide), if_neg (by decide), if_neg (by decide), hnu 0 (by decide), hnu 1 (by decide), hnu 2 (by decide), hnu 3 (by decide), hnu 4 (by decide)]
    refine doPlace_ok hD hB (fun z m2 h2 => k0 ((co_97 nu _).2 (fun w => z w.1)) _ h2) (fun z1 z2 m2 h2 => k0 ((co_97 nu _).2 (fun w => w.2 z2)) _ h2) (fun k ek hk z1 z2 m2 h2 => ?_)
    have hco := (co_97 nu (sg S)).1 ⟨z1, z2⟩
    have e : (nu 0).toNatClampNeg = k := by rw [ek, clamp_nI (by omega)]
    rw [e] at hco
    exact k1 _ hco _ h2
