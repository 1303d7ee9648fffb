/-! changes of one field: setAngle, setFlap, defineImage, place, clearImage, removeLast -/
def gF (g : Vc) (k j : Nat) (x : Int32) : Vc := vset g (11 + 11 * k + j) x
theorem gF_pf {g : Vc} {k j : Nat} {x : Int32} {i l : Nat} (hj : j < 11) (hl : l < 11) : pf (gF g k j x) i l = if i = k ∧ l = j then x else pf g i l := by
  unfold pf gF vset
  by_cases h : i = k ∧ l = j
  · rw [if_pos h, if_pos (by omega)]
  · rw [if_neg h, if_neg (by omega)]
theorem gF_same {g : Vc} {k j : Nat} {x : Int32} : pf (gF g k j x) k j = x := vset_same _ _ _
theorem gF_other {g : Vc} {k j : Nat} {x : Int32} {i l : Nat} (hj : j < 11) (hl : l < 11) (h : i ≠ k ∨ l ≠ j) : pf (gF g k j x) i l = pf g i l := by
  rw [gF_pf hj hl, if_neg (by omega)]
theorem gF_out {g : Vc} {k j : Nat} {x : Int32} {i : Nat} (hk : k < 10) (hj : j < 11) (h : i < 11 ∨ 121 ≤ i) : gF g k j x i = g i := vset_ne _ _ (by omega)
theorem gF_pn {g : Vc} {k j : Nat} {x : Int32} (hk : k < 10) (hj : j < 11) : pn (gF g k j x) = pn g := by unfold pn; rw [gF_out hk hj (by omega)]
theorem gF_rect {g : Vc} {k j : Nat} {x : Int32} (hk : k < 10) (h5 : 5 ≤ j) (hj : j < 11) {i : Nat} (hi : i < 10) : rect (gF g k j x) i = rect g i :=
  rect_congr2 (n := 10) (fun a h1 _ => gF_out hk hj (by omega)) (fun a _ b hb => gF_other hj (by omega) (by omega)) i hi
theorem gF_rng {g : Vc} {k j : Nat} {x : Int32} (hr : rngD g) (hk : k < pn g) (h5 : 5 ≤ j) (hj : j < 11) (c5 : j = 5 → 0 < k ∧ inR x (-1) 2) (c6 : j = 6 → 0 < k ∧ (x = -9 ∨ ∃ t, t < pn g ∧ t ≠ k ∧ x = nI t)) (c7 : j = 7 → x = -9 ∨ ∃ i, i < 4 ∧ x = nI i ∧ ¬ g (3 + 2 * i) = 0)
    (c8 : j = 8 → inR x 0 7) (c9 : j = 9 ∨ j = 10 → inR x (-300) 300) : rngD (gF g k j x) := by
  have hp := hr.par.1
  have hk10 : k < 10 := by omega
  obtain ⟨d1, d2, d3, d4, d5, d6, d7⟩ := hr
  refine ⟨by rw [gF_out hk10 hj (by omega)]; exact d1, by rw [gF_out hk10 hj (by omega)]; exact d2, by rw [gF_out hk10 hj (by omega)]; exact d3, fun i hi => by rw [gF_out hk10 hj (by omega), gF_out hk10 hj (by omega)]; exact d4 i hi, fun q => ?_, fun i hi => ?_, fun i h0 hi => ?_⟩
  · rw [gF_out hk10 hj (by omega), gF_out hk10 hj (by omega), gF_out hk10 hj (by omega), gF_out hk10 hj (by omega)]
    rw [gF_pn hk10 hj] at q
    obtain ⟨x1, x2, x3, x4, x5, x6⟩ := d5 q
    refine ⟨x1, x2, x3, x4, fun l hl => ?_, ?_⟩
    · rw [gF_other hj (by omega) (by have := c5; omega)]; exact x5 l hl
    · rw [gF_other hj (by omega) (by have := fun z => (c6 z).1; omega)]; exact x6
  · rw [gF_pn hk10 hj] at hi ⊢
    obtain ⟨q1, q2, q3, q4, q5⟩ := d6 i hi
    refine ⟨?_, ?_, ?_, ?_, ?_⟩
    · rw [gF_pf hj (by omega)]
      by_cases e : i = k ∧ 6 = j
      · rw [if_pos e, e.1]; exact (c6 e.2.symm).2
      · rw [if_neg e]; exact q1
    · rw [gF_pf hj (by omega)]
      by_cases e : i = k ∧ 7 = j
      · rw [if_pos e]
        rcases c7 e.2.symm with z | ⟨a, z1, z2, z3⟩
        · exact Or.inl z
        · exact Or.inr ⟨a, z1, z2, by rw [gF_out hk10 hj (by omega)]; exact z3⟩
      · rw [if_neg e]
        rcases q2 with z | ⟨a, z1, z2, z3⟩
        · exact Or.inl z
        · exact Or.inr ⟨a, z1, z2, by rw [gF_out hk10 hj (by omega)]; exact z3⟩
    · rw [gF_pf hj (by omega)]
      by_cases e : i = k ∧ 8 = j
      · rw [if_pos e]; exact c8 e.2.symm
      · rw [if_neg e]; exact q3
    · rw [gF_pf hj (by omega)]
      by_cases e : i = k ∧ 9 = j
      · rw [if_pos e]; exact c9 (by omega)
      · rw [if_neg e]; exact q4
    · rw [gF_pf hj (by omega)]
      by_cases e : i = k ∧ 10 = j
      · rw [if_pos e]; exact c9 (by omega)
      · rw [if_neg e]; exact q5
  · rw [gF_pn hk10 hj] at hi
    obtain ⟨q1, q2, q3, q4, q5, q6⟩ := d7 i h0 hi
    refine ⟨?_, ?_, ?_, ?_, ?_, ?_⟩
    · rw [gF_other hj (by omega) (by omega)]; exact q1
    · rw [gF_other hj (by omega) (by omega)]; exact q2
    · rw [gF_other hj (by omega) (by omega)]; exact q3
    · rw [gF_other hj (by omega) (by omega)]; exact q4
    · rw [gF_other hj (by omega) (by omega)]; exact q5
    · rw [gF_pf hj (by omega)]
      by_cases e : i = k ∧ 5 = j
      · rw [if_pos e]; exact (c5 e.2.symm).2
      · rw [if_neg e]; exact q6
theorem gF_gok {g : Vc} {k j : Nat} {x : Int32} (hD : Dd g) (hk : k < pn g) (h5 : 5 ≤ j) (hj : j < 11) : gok (gF g k j x) := by
  have hp := hD.ple
  have hk10 : k < 10 := by omega
  intro i hi
  rw [gF_pn hk10 hj] at hi
  obtain ⟨q1, q2, q3⟩ := hD.2 i hi
  refine ⟨?_, fun h0 => ?_, fun o ho => ?_⟩
  · rw [gF_rect hk10 h5 hj (by omega), gF_out hk10 hj (by omega), gF_out hk10 hj (by omega)]; exact q1
  · obtain ⟨p, s, hpk, ep, hs, es, er⟩ := par_s hD.r.par h0 hi
    have := q2 h0
    rw [gF_other hj (by omega) (by omega), gF_other hj (by omega) (by omega), gF_other hj (by omega) (by omega), gF_other hj (by omega) (by omega), gF_rect hk10 h5 hj (by rw [ep, clamp_nI (by omega)]; omega)]
    exact this
  · rw [gF_rect hk10 h5 hj (by omega), gF_rect hk10 h5 hj (by omega)]; exact q3 o ho
theorem desR_gF {m : Mm} {d : Nat} {g : Vc} {k j : Nat} {x : Int32} (hp : pn g ≤ 10) (hd : desR m.1 d g) (hk : k < pn g) (h5 : 5 ≤ j) (hj : j < 11) : desR (wI m (d + 5 + k) j x).1 d (gF g k j x) := by
  obtain ⟨h1, h2, h3, h4, h6⟩ := hd
  have hk10 : k < 10 := by omega
  have eo : ∀ b, b ≠ d + 5 + k → (wI m (d + 5 + k) j x).1 b = m.1 b := fun b hb => by funext i; rw [wI_ne _ _ _ _ hb]
  refine ⟨?_, ?_, ?_, fun i hi => ?_, fun i hi => ?_⟩
  · rw [eo _ (by omega), gF_out hk10 hj (by omega)]; exact h1
  · rw [eo _ (by omega), gF_out hk10 hj (by omega)]; exact h2
  · rw [eo _ (by omega), gF_out hk10 hj (by omega)]; exact h3
  · rw [eo _ (by omega), eo _ (by omega), gF_out hk10 hj (by omega), gF_out hk10 hj (by omega)]; exact h4 i hi
  · rw [gF_pn hk10 hj] at hi
    obtain ⟨x1, x2, x3, x4⟩ := h6 i hi
    by_cases e : i = k
    · subst e
      refine ⟨fun l q1 q2 => ?_, fun z => ?_, fun z l hl => ?_, ?_⟩
      · rw [wI_get, if_pos rfl, gF_pf hj q2]
        by_cases z : l = j
        · rw [if_pos z, if_pos ⟨rfl, z⟩]
        · rw [if_neg z, if_neg (fun q => z q.2)]; exact x1 l q1 q2
      · rw [wI_nj _ _ _ _ (by omega), wI_nj _ _ _ _ (by omega)]; exact x2 z
      · rw [wI_nj _ _ _ _ (by omega), gF_other hj (by omega) (by omega)]; exact x3 z l hl
      · rw [gF_rect hk10 h5 hj (by omega), wI_nj _ _ _ _ (by omega), wI_nj _ _ _ _ (by omega), wI_nj _ _ _ _ (by omega), wI_nj _ _ _ _ (by omega)]; exact x4
    · unfold panR
      rw [eo _ (by omega), gF_rect hk10 h5 hj (by omega)]
      exact ⟨fun l q1 q2 => by rw [gF_other hj q2 (by omega)]; exact x1 l q1 q2, x2, fun z l hl => by rw [gF_other hj (by omega) (by omega)]; exact x3 z l hl, x4⟩
theorem frD_wI {d : Nat} {m m2 : Mm} {a k : Nat} {x : Int32} (h : frD d m m2) (h1 : d ≤ a) (h2 : a < d + 15) : frD d m (wI m2 a k x) := fun b hb => by
  funext j
  rw [wI_ne _ _ _ _ (by omega)]
  exact congrFun (h b hb) j
theorem frD_refl (d : Nat) (m : Mm) : frD d m m := fun _ _ => rfl
theorem d_pf {f : Nat → Nat → Int32} {d : Nat} {g : Vc} (hd : desR f d g) {k j : Nat} (hk : k < pn g) (h1 : 5 ≤ j) (h2 : j < 11) : f (d + 5 + k) j = pf g k j := (hd.2.2.2.2 k hk).1 j h1 h2
theorem op_setAngle {m : Mm} {S : AS} {x y : Int32} {P : Int32 → Int32 → Mm → Prop} (hS : Sim m S) (kk : ∀ r m2 S2, Sim m2 S2 → P r r m2) : wp_X11_setAngle x y m (fun r m1 => wp_X12_setAngle x y m1 (fun r2 m2 => P r r2 m2)) := by
  have hI := hS.2.2
  have hC := hS.2.1
  have hD := hI.1
  have hp := hD.ple
  have h4 := c_pc hC hI
  have a1 : (-1 : Int32).toInt = -1 := rfl
  have a2 : (2 : Int32).toInt = 2 := rfl
  by_cases c1 : (1 ≤ x.toInt ∧ x.toInt < pn (sg S)) ∧ (-1 ≤ y.toInt ∧ y.toInt ≤ 2)
  · obtain ⟨k, ek, ek2, -⟩ := asN (x := x) (by omega)
    have hk : k < pn (sg S) := by omega
    refine combine (c := wp_X11_setAngle x y m) (d := wp_X12_setAngle x y) (r := pf (sg S) k 5) (S2 := (gF (sg S) k 5 y, pushH (sh S) (sg S), S.2.2)) hS (fun K k1 => ?_) (fun m1 K hR k1 => ?_) ?_ kk
    · unfold wp_X11_setAngle
      rw [if_neg (fun z => (hangs_0 h4 hp).mp z c1.1), if_neg (fun z => isAng_0.mp z c1.2)]
      refine remember_ok hC hI (fun m2 hC2 hk2 => ?_)
      unfold wp_X3_turnFold
      rw [ek, panelAt_in (by omega)]
      rintro y1 rfl m3 rfl
      have := ClsR_chg hI hC2 hk2 (desR_gF (g := sg S) hp hC2.1 hk (x := y) (j := 5) (by omega) (by omega)) (frD_wI (frD_refl _ _) (by omega) (by omega)) (fun i hi => gF_out (by omega) (by omega) (by omega))
      rw [d_pf (g := sg S) hC2.1 hk (by omega) (by omega)]
      exact k1 _ this.1 this.2
    · unfold wp_X12_setAngle
      refine RB_begins hR (fun m2 hB => ?_)
      rw [if_neg (fun z => (isHung_0 (RB_st hB) hD.g2 hp).mp z c1.1), if_neg (in_ne (by omega) (by omega)), ek]
      refine ⟨sof5 (by omega), ?_⟩
      rintro y5 rfl
      rw [of5 (RB_st hB) (by omega)]
      refine put_ok (j := 5) rfl (by omega) (by omega) ?_
      exact RB_ends hI (RB_put hB) (fun m3 r3 l3 => k1 _ r3 l3)
    · exact Inv_push hI ⟨gF_rng hD.r hk (by omega) (by omega) (fun _ => ⟨by omega, c1.2⟩) (fun z => by omega) (fun z => by omega) (fun z => by omega) (fun z => by omega), gF_gok hD hk (by omega) (by omega)⟩ (Ll_eq hI.2.1 (fun i hi => gF_out (by omega) (by omega) (by omega)))
  · refine combine (c := wp_X11_setAngle x y m) (d := wp_X12_setAngle x y) (r := -1) (S2 := S) hS (fun K k1 => ?_) (fun m1 K hR k1 => ?_) hI kk
    · have k2 := k1 _ hC (fun _ _ => rfl)
      unfold wp_X11_setAngle
      by_cases q1 : 1 ≤ x.toInt ∧ x.toInt < pn (sg S)
      · rw [if_neg (fun z => (hangs_0 h4 hp).mp z q1), if_pos (isAng_0.mpr (fun z => c1 ⟨q1, z⟩))]; exact k2
      · rw [if_pos ((hangs_0 h4 hp).mpr q1)]; exact k2
    · unfold wp_X12_setAngle
      refine RB_begins hR (fun m2 hB => ?_)
      have k2 := k1 _ (RB_stop hB) hB.2.2.2.2
      by_cases q1 : 1 ≤ x.toInt ∧ x.toInt < pn (sg S)
      · rw [if_neg (fun z => (isHung_0 (RB_st hB) hD.g2 hp).mp z q1), if_pos (in_0 (by omega))]; exact k2
      · rw [if_pos ((isHung_0 (RB_st hB) hD.g2 hp).mpr q1)]; exact k2
/-- setFlap -/
def rFlap (n : Nat) (x y : Int32) : Prop := (1 ≤ x.toInt ∧ x.toInt < n) ∧ (y = -9 ∨ ((0 ≤ y.toInt ∧ y.toInt < n) ∧ y ≠ x))
theorem flapFault_ok {d : Nat} {m : Mm} {g : Vc} {x y : Int32} (h4 : m.1 d 4 = nI (pn g)) (hp : pn g ≤ 10) : (¬ rFlap (pn g) x y → v_X3_flapFault d x y m = -1) ∧ (rFlap (pn g) x y → v_X3_flapFault d x y m = 0) := by
  unfold v_X3_flapFault
  by_cases c1 : 1 ≤ x.toInt ∧ x.toInt < pn g
  · rw [if_neg (fun z => (hangs_0 h4 hp).mp z c1)]
    by_cases c2 : y = -9
    · rw [if_pos c2]; exact ⟨fun z => absurd ⟨c1, Or.inl c2⟩ z, fun _ => rfl⟩
    · rw [if_neg c2]
      by_cases c3 : 0 ≤ y.toInt ∧ y.toInt < pn g
      · rw [if_neg (fun z => (has_0 h4 hp).mp z c3)]
        by_cases c4 : y = x
        · rw [if_pos c4, if_pos rfl]
          exact ⟨fun _ => rfl, fun z => by rcases z.2 with q | q; exact absurd q c2; exact absurd c4 q.2⟩
        · rw [if_neg c4, if_neg (by decide)]
          exact ⟨fun z => absurd ⟨c1, Or.inr ⟨c3, c4⟩⟩ z, fun _ => rfl⟩
      · rw [if_pos ((has_0 h4 hp).mpr c3), if_pos rfl]
        exact ⟨fun _ => rfl, fun z => by rcases z.2 with q | q; exact absurd q c2; exact absurd q.1 c3⟩
  · rw [if_pos ((hangs_0 h4 hp).mpr c1)]
    exact ⟨fun _ => rfl, fun z => absurd z.1 c1⟩
theorem doFlap_ok {m0 m : Mm} {S : AS} {x y : Int32} {K : Int32 → Mm → Prop} (hD : Dd (sg S)) (hB : RB m0 m S (sg S)) (k1 : ¬ rFlap (pn (sg S)) x y → ∀ m2, RQ m0 m2 S → K (-1) m2)
    (k2 : ∀ k, x = nI k → 0 < k → k < pn (sg S) → rFlap (pn (sg S)) x y → ∀ m2, RB m0 m2 S (gF (sg S) k 6 y) → K (pf (sg S) k 6) m2) : wp_X12_doFlap x y m K := by
  have hp := hD.ple
  have kj : ¬ rFlap (pn (sg S)) x y → wp_X12_doFlap_j27 K m := fun z => by
    unfold wp_X12_doFlap_j27
    exact RB_refuse hB (fun m2 r1 r2 r3 => k1 z m2 ⟨r1, r2, r3⟩)
  have kg : rFlap (pn (sg S)) x y → wp_X12_doFlap_j33 K x y m := fun z => by
    unfold wp_X12_doFlap_j33
    have c1 := z.1
    obtain ⟨k, ek, ek2, -⟩ := asN (x := x) (by omega)
    have k3 := k2 k ek (by omega) (by omega) z
    rw [ek]
    refine ⟨sof6 (by omega), ?_⟩
    rintro y6 rfl
    rw [of6 (RB_st hB) (by omega)]
    exact put_ok (j := 6) rfl (by omega) (by omega) (k3 _ (RB_put hB))
  unfold wp_X12_doFlap
  by_cases c1 : 1 ≤ x.toInt ∧ x.toInt < pn (sg S)
  · rw [if_neg (fun z => (isHung_0 (RB_st hB) hD.g2 hp).mp z c1)]
    by_cases c2 : y = -9
    · rw [if_pos c2]; exact kg ⟨c1, Or.inl c2⟩
    · rw [if_neg c2]
      by_cases c3 : 0 ≤ y.toInt ∧ y.toInt < pn (sg S)
      · rw [if_neg (fun z => (isPanel_0 (RB_st hB) hD.g2 hp).mp z c3)]
        by_cases c4 : y = x
        · rw [if_pos c4]; exact kj (fun z => by rcases z.2 with q | q; exact absurd q c2; exact absurd c4 q.2)
        · rw [if_neg c4]; exact kg ⟨c1, Or.inr ⟨c3, c4⟩⟩
      · rw [if_pos ((isPanel_0 (RB_st hB) hD.g2 hp).mpr c3)]; exact kj (fun z => by rcases z.2 with q | q; exact absurd q c2; exact absurd q.1 c3)
  · rw [if_pos ((isHung_0 (RB_st hB) hD.g2 hp).mpr c1)]; exact kj (fun z => absurd z.1 c1)
theorem Dd_flap {g : Vc} {k : Nat} {x y : Int32} (hD : Dd g) (hk : k < pn g) (ek : x = nI k) (hr : rFlap (pn g) x y) : Dd (gF g k 6 y) := by
  have hp := hD.ple
  have e : x.toInt = k := by rw [ek]; exact nI_toInt (by omega)
  refine ⟨gF_rng hD.r hk (by omega) (by omega) (fun z => by omega) (fun _ => ⟨by have := hr.1; omega, ?_⟩) (fun z => by omega) (fun z => by omega) (fun z => by omega), gF_gok hD hk (by omega) (by omega)⟩
  rcases hr.2 with q | q
  · exact Or.inl q
  · obtain ⟨t, et, et2, -⟩ := asN q.1.1
    exact Or.inr ⟨t, by have := q.1.2; omega, fun z => q.2 (by rw [et, ek, z]), et⟩
theorem changeTarget_ok {d : Nat} {m : Mm} {g : Vc} {k : Nat} {y : Int32} {K : Int32 → Mm → Prop} (hd : desR m.1 d g) (hp : pn g ≤ 10) (hk : k < pn g) (kk : ∀ m2, desR m2.1 d (gF g k 6 y) → frD d m m2 → K (pf g k 6) m2) : wp_X3_changeTarget d (nI k) y m K := by
  unfold wp_X3_changeTarget
  rw [panelAt_in (by omega)]
  rintro y1 rfl m3 rfl
  rw [d_pf hd hk (by omega) (by omega)]
  exact kk _ (desR_gF hp hd hk (by omega) (by omega)) (frD_wI (frD_refl _ _) (by omega) (by omega))
theorem op_setFlap {m : Mm} {S : AS} {x y : Int32} {P : Int32 → Int32 → Mm → Prop} (hS : Sim m S) (kk : ∀ r m2 S2, Sim m2 S2 → P r r m2) : wp_X11_setFlap x y m (fun r m1 => wp_X12_setFlap x y m1 (fun r2 m2 => P r r2 m2)) := by
  have hI := hS.2.2
  have hC := hS.2.1
  have hD := hI.1
  have hp := hD.ple
  have h4 := c_pc hC hI
  have hF := flapFault_ok (x := x) (y := y) h4 hp
  by_cases c1 : rFlap (pn (sg S)) x y
  · have c1' := c1.1
    obtain ⟨k, ek, ek2, -⟩ := asN (x := x) (by omega)
    have hk : k < pn (sg S) := by omega
    refine combine (c := wp_X11_setFlap x y m) (d := wp_X12_setFlap x y) (r := pf (sg S) k 6) (S2 := (gF (sg S) k 6 y, pushH (sh S) (sg S), S.2.2)) hS (fun K k1 => ?_) (fun m1 K hR k1 => ?_) ?_ kk
    · unfold wp_X11_setFlap
      rintro y1 rfl
      rw [hF.2 c1, if_pos rfl]
      refine remember_ok hC hI (fun m2 hC2 hk2 => ?_)
      rw [ek]
      refine changeTarget_ok (g := sg S) hC2.1 hp hk (fun m3 hd hf => ?_)
      have := ClsR_chg hI hC2 hk2 hd hf (fun i hi => gF_out (by omega) (by omega) (by omega))
      exact k1 _ this.1 this.2
    · unfold wp_X12_setFlap
      refine RB_begins hR (fun m2 hB => ?_)
      refine doFlap_ok hD hB (fun z => absurd c1 z) (fun k' e' h0 hk' _ m3 hB3 => ?_)
      have : k' = k := by
        have a : nI k' = nI k := by rw [← e', ek]
        exact (nI_eq (by omega) (by omega)).mp a
      subst this
      exact RB_ends hI hB3 (fun m4 r4 l4 => k1 _ r4 l4)
    · exact Inv_push hI (Dd_flap hD hk ek c1) (Ll_eq hI.2.1 (fun i hi => gF_out (by omega) (by omega) (by omega)))
  · refine combine (c := wp_X11_setFlap x y m) (d := wp_X12_setFlap x y) (r := -1) (S2 := S) hS (fun K k1 => ?_) (fun m1 K hR k1 => ?_) hI kk
    · unfold wp_X11_setFlap
      rintro y1 rfl
      rw [hF.1 c1, if_neg (by decide)]; exact k1 _ hC (fun _ _ => rfl)
    · unfold wp_X12_setFlap
      refine RB_begins hR (fun m2 hB => ?_)
      exact doFlap_ok hD hB (fun _ m3 h3 => RQ_ends h3 k1) (fun _ _ _ _ z => absurd z c1)
/-- clearImage -/
theorem op_clearImage {m : Mm} {S : AS} {x : Int32} {P : Int32 → Int32 → Mm → Prop} (hS : Sim m S) (kk : ∀ r m2 S2, Sim m2 S2 → P r r m2) : wp_X11_clearImage x m (fun r m1 => wp_X12_clearImage x m1 (fun r2 m2 => P r r2 m2)) := by
  have hI := hS.2.2
  have hC := hS.2.1
  have hD := hI.1
  have hp := hD.ple
  have h4 := c_pc hC hI
  by_cases c1 : 0 ≤ x.toInt ∧ x.toInt < pn (sg S)
  · obtain ⟨k, ek, ek2, -⟩ := asN (x := x) (by omega)
    have hk : k < pn (sg S) := by omega
    have e7 : m.1 (v_X3_panelAt 1 x) 7 = pf (sg S) k 7 := by rw [ek, panelAt_in (by omega)]; exact d_pf hC.1 hk (by omega) (by omega)
    by_cases c2 : pf (sg S) k 7 = -9
    · refine combine (c := wp_X11_clearImage x m) (d := wp_X12_clearImage x) (r := -2) (S2 := S) hS (fun K k1 => ?_) (fun m1 K hR k1 => ?_) hI kk
      · unfold wp_X11_clearImage v_X3_bareFault
        rw [if_neg (fun z => (has_0 h4 hp).mp z c1), e7, if_pos c2]
        rintro y1 rfl
        rw [if_neg (by decide)]; exact k1 _ hC (fun _ _ => rfl)
      · unfold wp_X12_clearImage
        refine RB_begins hR (fun m2 hB => ?_)
        rw [if_neg (fun z => (isPanel_0 (RB_st hB) hD.g2 hp).mp z c1), ek]
        refine ⟨sof7 (by omega), ?_⟩
        rintro y4 rfl
        rw [of7 (RB_st hB) (by omega), if_pos c2]
        exact k1 _ (RB_stop hB) hB.2.2.2.2
    · refine combine (c := wp_X11_clearImage x m) (d := wp_X12_clearImage x) (r := pf (sg S) k 7) (S2 := (gF (sg S) k 7 (-9), pushH (sh S) (sg S), S.2.2)) hS (fun K k1 => ?_) (fun m1 K hR k1 => ?_) ?_ kk
      · unfold wp_X11_clearImage v_X3_bareFault
        rw [if_neg (fun z => (has_0 h4 hp).mp z c1), e7, if_neg c2]
        rintro y1 rfl
        rw [if_pos rfl]
        refine remember_ok hC hI (fun m2 hC2 hk2 => ?_)
        unfold wp_X3_wipe
        rw [ek, panelAt_in (by omega)]
        rintro y1 rfl m3 rfl
        have := ClsR_chg hI hC2 hk2 (desR_gF (g := sg S) hp hC2.1 hk (x := -9) (j := 7) (by omega) (by omega)) (frD_wI (frD_refl _ _) (by omega) (by omega)) (fun i hi => gF_out (by omega) (by omega) (by omega))
        rw [d_pf (g := sg S) hC2.1 hk (by omega) (by omega)]
        exact k1 _ this.1 this.2
      · unfold wp_X12_clearImage
        refine RB_begins hR (fun m2 hB => ?_)
        rw [if_neg (fun z => (isPanel_0 (RB_st hB) hD.g2 hp).mp z c1), ek]
        refine ⟨sof7 (by omega), ?_⟩
        rintro y4 rfl
        rw [of7 (RB_st hB) (by omega), if_neg c2]
        refine put_ok (j := 7) rfl (by omega) (by omega) ?_
        exact RB_ends hI (RB_put hB) (fun m3 r3 l3 => k1 _ r3 l3)
      · exact Inv_push hI ⟨gF_rng hD.r hk (by omega) (by omega) (fun z => by omega) (fun z => by omega) (fun _ => Or.inl rfl) (fun z => by omega) (fun z => by omega), gF_gok hD hk (by omega) (by omega)⟩ (Ll_eq hI.2.1 (fun i hi => gF_out (by omega) (by omega) (by omega)))
  · refine combine (c := wp_X11_clearImage x m) (d := wp_X12_clearImage x) (r := -1) (S2 := S) hS (fun K k1 => ?_) (fun m1 K hR k1 => ?_) hI kk
    · unfold wp_X11_clearImage v_X3_bareFault
      rw [if_pos ((has_0 h4 hp).mpr c1)]
      rintro y1 rfl
      rw [if_neg (by decide)]; exact k1 _ hC (fun _ _ => rfl)
    · unfold wp_X12_clearImage
      refine RB_begins hR (fun m2 hB => ?_)
      rw [if_pos ((isPanel_0 (RB_st hB) hD.g2 hp).mpr c1)]
      exact k1 _ (RB_stop hB) hB.2.2.2.2
