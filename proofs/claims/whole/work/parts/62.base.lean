/-! setBase, addPanel -/
theorem isOff_0 {x : Int32} : v_X11_isOffset x = 0 ↔ ¬ (0 ≤ x.toInt ∧ x.toInt ≤ 300) := by
  have a1 : (0 : Int32).toInt = 0 := rfl
  have a2 : (300 : Int32).toInt = 300 := rfl
  unfold v_X11_isOffset
  rw [flag_0 (flag_n (q := 0 ≤ x.toInt) (by rw [fa_lt]; omega) (flag_n (q := x.toInt ≤ 300) (by rw [fa_lt]; omega) flag_1))]
  exact ⟨fun z q => z ⟨q.1, q.2, trivial⟩, fun z q => z ⟨q.1, q.2.1⟩⟩
theorem isLen_0 {x : Int32} : v_X11_isLength x = 0 ↔ ¬ (1 ≤ x.toInt ∧ x.toInt ≤ 300) := by
  have a1 : (1 : Int32).toInt = 1 := rfl
  have a2 : (300 : Int32).toInt = 300 := rfl
  unfold v_X11_isLength
  rw [flag_0 (flag_n (q := 1 ≤ x.toInt) (by rw [fa_lt]; omega) (flag_n (q := x.toInt ≤ 300) (by rw [fa_lt]; omega) flag_1))]
  exact ⟨fun z q => z ⟨q.1, q.2, trivial⟩, fun z q => z ⟨q.1, q.2.1⟩⟩
theorem isAng_0 {x : Int32} : v_X11_isAngle x = 0 ↔ ¬ (-1 ≤ x.toInt ∧ x.toInt ≤ 2) := by
  have a1 : (-1 : Int32).toInt = -1 := rfl
  have a2 : (2 : Int32).toInt = 2 := rfl
  unfold v_X11_isAngle
  rw [flag_0 (flag_n (q := -1 ≤ x.toInt) (by rw [fa_lt]; omega) (flag_n (q := x.toInt ≤ 2) (by rw [fa_lt]; omega) flag_1))]
  exact ⟨fun z q => z ⟨q.1, q.2, trivial⟩, fun z q => z ⟨q.1, q.2.1⟩⟩
theorem isPos_0 {x : Int32} : v_X11_isPosition x = 0 ↔ ¬ (-300 ≤ x.toInt ∧ x.toInt ≤ 300) := by
  have a1 : (-300 : Int32).toInt = -300 := rfl
  have a2 : (300 : Int32).toInt = 300 := rfl
  unfold v_X11_isPosition
  rw [flag_0 (flag_n (q := -300 ≤ x.toInt) (by rw [fa_lt]; omega) (flag_n (q := x.toInt ≤ 300) (by rw [fa_lt]; omega) flag_1))]
  exact ⟨fun z q => z ⟨q.1, q.2, trivial⟩, fun z q => z ⟨q.1, q.2.1⟩⟩
theorem in_iff {x a b : Int32} : v_X12_in x a b = 0 ↔ ¬ (a.toInt ≤ x.toInt ∧ x.toInt ≤ b.toInt) := by
  unfold v_X12_in
  rw [flag_0 (flag_n (q := a.toInt ≤ x.toInt) (by rw [fa_lt]; omega) (flag_n (q := x.toInt ≤ b.toInt) (by rw [fa_lt]; omega) flag_1))]
  exact ⟨fun z q => z ⟨q.1, q.2, trivial⟩, fun z q => z ⟨q.1, q.2.1⟩⟩
theorem has_0 {d : Nat} {m : Mm} {g : Vc} {x : Int32} (h : m.1 d 4 = nI (pn g)) (hp : pn g ≤ 10) : v_X3_has d x m = 0 ↔ ¬ (0 ≤ x.toInt ∧ x.toInt < pn g) := by
  have a1 : (0 : Int32).toInt = 0 := rfl
  have a2 : (nI (pn g)).toInt = pn g := nI_toInt (by omega)
  unfold v_X3_has
  rw [h, flag_0 (flag_n (q := 0 ≤ x.toInt) (by rw [fa_lt]; omega) (flag_n (q := x.toInt < pn g) (by rw [fa_le]; omega) flag_1))]
  exact ⟨fun z q => z ⟨q.1, q.2, trivial⟩, fun z q => z ⟨q.1, q.2.1⟩⟩
theorem hangs_0 {d : Nat} {m : Mm} {g : Vc} {x : Int32} (h : m.1 d 4 = nI (pn g)) (hp : pn g ≤ 10) : v_X3_hangs d x m = 0 ↔ ¬ (1 ≤ x.toInt ∧ x.toInt < pn g) := by
  have a1 : (1 : Int32).toInt = 1 := rfl
  have a2 : (nI (pn g)).toInt = pn g := nI_toInt (by omega)
  unfold v_X3_hangs
  rw [h, flag_0 (flag_n (q := 1 ≤ x.toInt) (by rw [fa_lt]; omega) (flag_n (q := x.toInt < pn g) (by rw [fa_le]; omega) flag_1))]
  exact ⟨fun z q => z ⟨q.1, q.2, trivial⟩, fun z q => z ⟨q.1, q.2.1⟩⟩
theorem many1_t {m : Mm} {g : Vc} (h : stR m g) (h2 : g 2 = nI (pn g)) (hp : pn g ≤ 10) : (v_X12_many m - 1).toInt = (pn g : Int) - 1 := by
  have a1 : (1 : Int32).toInt = 1 := rfl
  have a2 : (nI (pn g)).toInt = pn g := nI_toInt (by omega)
  rw [many_ok h h2, sub_t (by omega) (by omega) (by omega) (by omega), a1, a2]
theorem isPanel_0 {m : Mm} {g : Vc} {x : Int32} (h : stR m g) (h2 : g 2 = nI (pn g)) (hp : pn g ≤ 10) : v_X12_isPanel x m = 0 ↔ ¬ (0 ≤ x.toInt ∧ x.toInt < pn g) := by
  have a1 : (0 : Int32).toInt = 0 := rfl
  unfold v_X12_isPanel
  rw [in_iff, many1_t h h2 hp]
  omega
theorem isHung_0 {m : Mm} {g : Vc} {x : Int32} (h : stR m g) (h2 : g 2 = nI (pn g)) (hp : pn g ≤ 10) : v_X12_isHung x m = 0 ↔ ¬ (1 ≤ x.toInt ∧ x.toInt < pn g) := by
  have a1 : (1 : Int32).toInt = 1 := rfl
  unfold v_X12_isHung
  rw [in_iff, many1_t h h2 hp]
  omega
def newP (g : Vc) (k : Nat) : Vc := fun j => if 11 + 11 * k ≤ j ∧ j < 22 + 11 * k then (if j = 17 + 11 * k ∨ j = 18 + 11 * k then -9 else 0) else g j
def zp (g : Vc) (k i : Nat) : Vc := fun j => if 11 + 11 * k ≤ j ∧ j < 11 + 11 * k + i then 0 else g j
theorem zp_get (g : Vc) (k i j : Nat) : zp g k i j = if 11 + 11 * k ≤ j ∧ j < 11 + 11 * k + i then 0 else g j := rfl
theorem newPanel_ok {m0 m : Mm} {S : AS} {g : Vc} {k : Nat} {K : Mm → Prop} (hk : k < 10) (hB : RB m0 m S g) (kk : ∀ m2, RB m0 m2 S (newP g k) → K m2) : wp_X12_newPanel (nI k) m K := by
  unfold wp_X12_newPanel
  refine loop_i (W := fun n i s => wp_X12_newPanel_l2 _ K (nI k) n (nI i) s) (I := fun i s => RB m0 s S (zp g k i)) 11 ?_ ?_ FU 0 m (by omega) (FU_gt (by omega)) (RB_congr hB (fun j _ => by rw [zp_get, if_neg (by omega)]))
  · intro n s hs
    show wb_X12_newPanel_l2 _ _ _ _ _ _
    unfold wb_X12_newPanel_l2
    rw [if_pos (show (11 : Int32) ≤ nI 11 from ile (a := 11) (by omega) (by omega))]
    refine put_ok (j := 6) rfl hk (by omega) (put_ok (j := 7) rfl hk (by omega) (kk _ (RB_congr (RB_put (RB_put hs)) (fun j hj => ?_))))
    unfold newP vset
    rw [zp_get]
    by_cases h1 : j = 11 + 11 * k + 7
    · rw [if_pos h1, if_pos (by omega), if_pos (by omega)]
    · rw [if_neg h1]
      by_cases h2 : j = 11 + 11 * k + 6
      · rw [if_pos h2, if_pos (by omega), if_pos (by omega)]
      · rw [if_neg h2]
        by_cases h3 : 11 + 11 * k ≤ j ∧ j < 22 + 11 * k
        · rw [if_pos h3, if_neg (by omega), if_pos (by omega)]
        · rw [if_neg h3, if_neg (by omega)]
  · intro n i s hi hs k2
    show wb_X12_newPanel_l2 _ _ _ _ _ _
    unfold wb_X12_newPanel_l2
    rw [if_neg (show ¬ (11 : Int32) ≤ nI i from inle (a := 11) hi (by omega))]
    refine put_ok (j := i) rfl hk hi ?_
    rw [nI_1]
    refine k2 _ (RB_congr (RB_put hs) (fun j hj => ?_))
    unfold vset
    rw [zp_get, zp_get]
    by_cases h1 : j = 11 + 11 * k + i
    · rw [if_pos h1, if_pos (by omega)]
    · rw [if_neg h1]
      by_cases h2 : 11 + 11 * k ≤ j ∧ j < 11 + 11 * k + i
      · rw [if_pos h2, if_pos (by omega)]
      · rw [if_neg h2, if_neg (by omega)]
/-- rectangles depend on what is before them alone -/
theorem rect_congr2 {g g2 : Vc} {n : Nat} (hb : ∀ k, 121 ≤ k → k < 125 → g2 k = g k) (h : ∀ i, i < n → ∀ j, j < 5 → pf g2 i j = pf g i j) : ∀ k, k < n → rect g2 k = rect g k := by
  intro k
  induction k using Nat.strongRecOn with
  | _ k ih =>
    intro hk
    rw [rect_eq g2 k, rect_eq g k]
    by_cases h0 : k = 0
    · rw [if_pos h0, if_pos h0, hb 121 (by omega) (by omega), hb 122 (by omega) (by omega), hb 123 (by omega) (by omega), hb 124 (by omega) (by omega)]
    · rw [if_neg h0, if_neg h0]
      have e0 := h k hk 0 (by omega)
      by_cases h1 : (pf g k 0).toNatClampNeg < k
      · rw [dif_pos (by rw [e0]; exact h1), dif_pos h1, e0, ih _ h1 (by omega)]
        unfold hung
        rw [h k hk 1 (by omega), h k hk 2 (by omega), h k hk 3 (by omega), h k hk 4 (by omega)]
      · rw [dif_neg (by rw [e0]; exact h1), dif_neg h1]
def gBase (g : Vc) (x y w h : Int32) : Vc := vset (vset (vset (vset (newP (vset g 2 1) 0) 121 x) 122 y) 123 w) 124 h
theorem gBase_lo {g : Vc} {x y w h : Int32} {k : Nat} (hk : k < 11) (h2 : k ≠ 2) : gBase g x y w h k = g k := by
  unfold gBase
  rw [vset_ne _ _ (by omega), vset_ne _ _ (by omega), vset_ne _ _ (by omega), vset_ne _ _ (by omega)]
  unfold newP
  rw [if_neg (by omega), vset_ne _ _ h2]
theorem gBase_2 {g : Vc} {x y w h : Int32} : gBase g x y w h 2 = 1 := by
  unfold gBase
  rw [vset_ne _ _ (by omega), vset_ne _ _ (by omega), vset_ne _ _ (by omega), vset_ne _ _ (by omega)]
  unfold newP
  rw [if_neg (by omega), vset_same]
theorem gBase_hi {g : Vc} {x y w h : Int32} {k : Nat} (hk : 125 ≤ k) : gBase g x y w h k = g k := by
  unfold gBase
  rw [vset_ne _ _ (by omega), vset_ne _ _ (by omega), vset_ne _ _ (by omega), vset_ne _ _ (by omega)]
  unfold newP
  rw [if_neg (by omega), vset_ne _ _ (by omega)]
theorem gBase_pf {g : Vc} {x y w h : Int32} {j : Nat} (hj : j < 11) : pf (gBase g x y w h) 0 j = if j = 6 ∨ j = 7 then -9 else 0 := by
  unfold pf gBase
  rw [vset_ne _ _ (by omega), vset_ne _ _ (by omega), vset_ne _ _ (by omega), vset_ne _ _ (by omega)]
  unfold newP
  rw [if_pos (by omega)]
  by_cases q : j = 6 ∨ j = 7
  · rw [if_pos q, if_pos (by omega)]
  · rw [if_neg q, if_neg (by omega)]
theorem gBase_pn {g : Vc} {x y w h : Int32} : pn (gBase g x y w h) = 1 := by unfold pn; rw [gBase_2]; rfl
theorem gBase_rect {g : Vc} {x y w h : Int32} : rect (gBase g x y w h) 0 = (x, y, w, h) := by
  rw [rect_0]
  unfold gBase
  rw [vset_same, vset_ne _ _ (show 123 ≠ 124 by omega), vset_same, vset_ne _ _ (show 122 ≠ 124 by omega), vset_ne _ _ (show 122 ≠ 123 by omega), vset_same, vset_ne _ _ (show 121 ≠ 124 by omega), vset_ne _ _ (show 121 ≠ 123 by omega), vset_ne _ _ (show 121 ≠ 122 by omega), vset_same]
def rBase (x y w h : Int32) : Prop := (0 ≤ x.toInt ∧ x.toInt ≤ 300) ∧ (0 ≤ y.toInt ∧ y.toInt ≤ 300) ∧ (1 ≤ w.toInt ∧ w.toInt ≤ 300) ∧ (1 ≤ h.toInt ∧ h.toInt ≤ 300)
theorem gBase_rng {g : Vc} {x y w h : Int32} (hr : rngD g) (hb : rBase x y w h) : rngD (gBase g x y w h) := by
  obtain ⟨d1, d2, d3, d4, d5, d6, d7⟩ := hr
  have hb' := gBase_rect (g := g) (x := x) (y := y) (w := w) (h := h)
  rw [rect_0] at hb'
  injection hb' with e1 hb'
  injection hb' with e2 hb'
  injection hb' with e3 e4
  refine ⟨by rw [gBase_lo (by omega) (by omega)]; exact d1, by rw [gBase_lo (by omega) (by omega)]; exact d2, ⟨1, by omega, gBase_2⟩, fun i hi => by rw [gBase_lo (by omega) (by omega), gBase_lo (by omega) (by omega)]; exact d4 i hi, fun _ => ?_, fun k hk => ?_, fun k h0 hk => ?_⟩
  · rw [e1, e2, e3, e4]
    exact ⟨hb.1, hb.2.1, hb.2.2.1, hb.2.2.2, fun j hj => by rw [gBase_pf (by omega), if_neg (by omega)], by rw [gBase_pf (by omega), if_pos (by omega)]⟩
  · rw [gBase_pn] at hk
    rw [show k = 0 by omega, gBase_pf (by omega), gBase_pf (by omega), gBase_pf (by omega), gBase_pf (by omega), gBase_pf (by omega)]
    exact ⟨Or.inl rfl, Or.inl rfl, ⟨by decide, by decide⟩, ⟨by decide, by decide⟩, by decide, by decide⟩
  · rw [gBase_pn] at hk; omega
theorem gBase_gok {g : Vc} {x y w h : Int32} (hb : rBase x y w h) : gok (gBase g x y w h) ↔ x.toInt + w.toInt ≤ (g 0).toInt ∧ y.toInt + h.toInt ≤ (g 1).toInt := by
  rw [gok_iff, gBase_pn]
  refine ⟨fun z => ?_, fun z k hk => ?_⟩
  · have := (z 0 (by omega)).1
    rw [gBase_rect, gBase_lo (by omega) (by omega), gBase_lo (by omega) (by omega)] at this
    exact this.2.2
  · rw [show k = 0 by omega]
    refine ⟨?_, fun q => by omega, fun o ho => by omega⟩
    rw [gBase_rect, gBase_lo (by omega) (by omega), gBase_lo (by omega) (by omega)]
    exact ⟨hb.1.1, hb.2.1.1, z⟩
theorem baseFault_ok {d : Nat} {m : Mm} {g : Vc} {x y w h : Int32} (hd : desR m.1 d g) : (¬ rBase x y w h → v_X3_baseFault d x y w h m = -1) ∧ (rBase x y w h → ¬ gok (gBase g x y w h) → v_X3_baseFault d x y w h m = -4) ∧ (rBase x y w h → gok (gBase g x y w h) → v_X3_baseFault d x y w h m = 0) := by
  unfold v_X3_baseFault
  rw [hd.1, hd.2.1]
  by_cases c1 : 0 ≤ x.toInt ∧ x.toInt ≤ 300
  · rw [if_neg (fun z => isOff_0.mp z c1)]
    by_cases c2 : 0 ≤ y.toInt ∧ y.toInt ≤ 300
    · rw [if_neg (fun z => isOff_0.mp z c2)]
      by_cases c3 : 1 ≤ w.toInt ∧ w.toInt ≤ 300
      · rw [if_neg (fun z => isLen_0.mp z c3)]
        by_cases c4 : 1 ≤ h.toInt ∧ h.toInt ≤ 300
        · rw [if_neg (fun z => isLen_0.mp z c4)]
          have hb : rBase x y w h := ⟨c1, c2, c3, c4⟩
          have e1 : (x + w).toInt = x.toInt + w.toInt := add_t (by omega) (by omega) (by omega) (by omega)
          have e2 : (y + h).toInt = y.toInt + h.toInt := add_t (by omega) (by omega) (by omega) (by omega)
          refine ⟨fun z => absurd hb z, fun _ z => ?_, fun _ z => ?_⟩
          · rw [gBase_gok hb] at z
            by_cases q : g 0 < x + w
            · rw [if_pos q]
            · rw [if_neg q, if_neg]
              rw [fa_le, e2]
              rw [fa_lt, e1] at q
              omega
          · rw [gBase_gok hb] at z
            rw [if_neg (by rw [fa_lt, e1]; omega), if_pos (by rw [fa_le, e2]; omega)]
        · rw [if_pos (isLen_0.mpr c4)]
          exact ⟨fun _ => rfl, fun z => absurd z.2.2.2 c4, fun z => absurd z.2.2.2 c4⟩
      · rw [if_pos (isLen_0.mpr c3)]
        exact ⟨fun _ => rfl, fun z => absurd z.2.2.1 c3, fun z => absurd z.2.2.1 c3⟩
    · rw [if_pos (isOff_0.mpr c2)]
      exact ⟨fun _ => rfl, fun z => absurd z.2.1 c2, fun z => absurd z.2.1 c2⟩
  · rw [if_pos (isOff_0.mpr c1)]
    exact ⟨fun _ => rfl, fun z => absurd z.1 c1, fun z => absurd z.1 c1⟩
theorem startBase_ok {d : Nat} {m : Mm} {g : Vc} {x y w h : Int32} {K : Int32 → Mm → Prop} (hd : desR m.1 d g) (kk : ∀ m2, desR m2.1 d (gBase g x y w h) → frD d m m2 → K (g 2) m2) : wp_X3_startBase d x y w h m K := by
  unfold wp_X3_startBase
  rw [show v_X3_panelAt d 0 = d + 5 from panelAt_in (i := 0) (by omega)]
  rintro y1 rfl
  unfold wp_X7_makePlain
  rintro m1 e1 m2 e2 m3 e3 m4 e4 m5 e5 m6 e6 m7 e7 m8 e8 m9 e9 m10 e10 m11 e11 m12 e12 m13 e13
  have hm : m13 = wI (wI (wI (wI (wI (wI (wI (wI (wI (wI (wI (wI (wI m (d + 5) 6 (-9)) (d + 5) 7 (-9)) (d + 5) 8 0) (d + 5) 9 0) (d + 5) 10 0) (d + 5) 0 (-9)) (d + 5) 1 (-9)) (d + 5) 5 0) (d + 5) 11 x) (d + 5) 12 y) (d + 5) 13 w) (d + 5) 14 h) d 4 1 := by
    rw [e13, e12, e11, e10, e9, e8, e7, e6, e5, e4, e3, e2, e1]
  clear e1 e2 e3 e4 e5 e6 e7 e8 e9 e10 e11 e12 e13
  rw [hd.2.2.1]
  have hne : d ≠ d + 5 := by omega
  have hne2 : d + 5 ≠ d := by omega
  have eo : ∀ b, b ≠ d → b ≠ d + 5 → m13.1 b = m.1 b := fun b q1 q2 => by
    funext j
    rw [hm]
    simp only [wI_get, if_neg q1, if_neg q2]
  have ed : ∀ j, m13.1 d j = if j = 4 then 1 else m.1 d j := fun j => by
    rw [hm]
    simp only [wI_get, if_neg hne, if_true]
  have ep : ∀ j, m13.1 (d + 5) j = if j = 14 then h else if j = 13 then w else if j = 12 then y else if j = 11 then x else if j = 5 then 0 else if j = 1 then -9 else if j = 0 then -9 else if j = 10 then 0 else if j = 9 then 0 else if j = 8 then 0 else if j = 7 then -9 else if j = 6 then -9 else m.1 (d + 5) j := fun j => by
    rw [hm]
    simp only [wI_get, if_neg hne2, if_true]
  refine kk _ ⟨?_, ?_, ?_, fun i hi => ?_, fun k hk => ?_⟩ (fun b hb => eo b (by omega) (by omega))
  · rw [gBase_lo (by omega) (by omega), ed, if_neg (by omega)]; exact hd.1
  · rw [gBase_lo (by omega) (by omega), ed, if_neg (by omega)]; exact hd.2.1
  · rw [gBase_2, ed, if_pos rfl]
  · rw [gBase_lo (by omega) (by omega), gBase_lo (by omega) (by omega), eo _ (by omega) (by omega), eo _ (by omega) (by omega)]; exact hd.2.2.2.1 i hi
  · rw [gBase_pn] at hk
    rw [show k = 0 by omega]
    refine ⟨fun j h1 h2 => ?_, fun _ => ⟨?_, ?_⟩, fun q => by omega, ?_, ?_, ?_, ?_⟩
    · rw [gBase_pf h2, Nat.add_zero, ep]
      match j, h1, h2 with
      | 5, _, _ => rfl
      | 6, _, _ => rfl
      | 7, _, _ => rfl
      | 8, _, _ => rfl
      | 9, _, _ => rfl
      | 10, _, _ => rfl
    · rw [Nat.add_zero, ep]; rfl
    · rw [Nat.add_zero, ep]; rfl
    · rw [gBase_rect, Nat.add_zero, ep]; rfl
    · rw [gBase_rect, Nat.add_zero, ep]; rfl
    · rw [gBase_rect, Nat.add_zero, ep]; rfl
    · rw [gBase_rect, Nat.add_zero, ep]; rfl
theorem doBase_ok {m0 m : Mm} {S : AS} {x y w h : Int32} {K : Int32 → Mm → Prop} (hD : Dd (sg S)) (hB : RB m0 m S (sg S)) (k1 : ¬ rBase x y w h → ∀ m2, RQ m0 m2 S → K (-1) m2) (k2 : rBase x y w h → ¬ gok (gBase (sg S) x y w h) → ∀ m2, RQ m0 m2 S → K (-4) m2)
    (k3 : rBase x y w h → gok (gBase (sg S) x y w h) → ∀ m2, RB m0 m2 S (gBase (sg S) x y w h) → K (sg S 2) m2) : wp_X12_doBase x y w h m K := by
  have a0 : (0 : Int32).toInt = 0 := rfl
  have a1 : (1 : Int32).toInt = 1 := rfl
  have a2 : (300 : Int32).toInt = 300 := rfl
  have kj : ¬ rBase x y w h → wp_X12_doBase_j45 K m := fun z => by
    unfold wp_X12_doBase_j45
    exact RB_refuse hB (fun m2 r1 r2 r3 => k1 z m2 ⟨r1, r2, r3⟩)
  unfold wp_X12_doBase
  by_cases c1 : 0 ≤ x.toInt ∧ x.toInt ≤ 300
  · rw [if_neg (in_ne (by omega) (by omega))]
    by_cases c2 : 0 ≤ y.toInt ∧ y.toInt ≤ 300
    · rw [if_neg (in_ne (by omega) (by omega))]
      by_cases c3 : 1 ≤ w.toInt ∧ w.toInt ≤ 300
      · rw [if_neg (in_ne (by omega) (by omega))]
        by_cases c4 : 1 ≤ h.toInt ∧ h.toInt ≤ 300
        · rw [if_neg (in_ne (by omega) (by omega))]
          have hb : rBase x y w h := ⟨c1, c2, c3, c4⟩
          rintro y7 rfl m8 rfl
          have e7 : v_X12_many m = sg S 2 := hB.1 2 (by omega)
          rw [e7]
          refine newPanel_ok (k := 0) (by omega) (RB_put hB) (fun m9 hB9 => ?_)
          rintro m10 rfl m11 rfl m12 rfl m13 rfl
          have hB2 : RB m0 (wI (wI (wI (wI m9 427 121 x) 427 122 y) 427 123 w) 427 124 h) S (gBase (sg S) x y w h) := RB_put (RB_put (RB_put (RB_put hB9)))
          refine rvalid_ok (RB_st hB2) (gBase_rng hD.r hb) (fun r m2 hr _ f => ?_)
          have hB3 := RB_fr hB2 f
          rcases hr with ⟨r1, r2⟩ | ⟨r1, r2⟩
          · rw [r1, if_neg (by decide)]; exact k3 hb r2 _ hB3
          · rw [r1, if_pos rfl]; exact RB_refuse hB3 (fun m2 r1 r3 r4 => k2 hb r2 m2 ⟨r1, r3, r4⟩)
        · rw [if_pos (in_0 (by omega))]; exact kj (fun z => c4 z.2.2.2)
      · rw [if_pos (in_0 (by omega))]; exact kj (fun z => c3 z.2.2.1)
    · rw [if_pos (in_0 (by omega))]; exact kj (fun z => c2 z.2.1)
  · rw [if_pos (in_0 (by omega))]; exact kj (fun z => c1 z.1)
theorem op_setBase {m : Mm} {S : AS} {x y w h : Int32} {P : Int32 → Int32 → Mm → Prop} (hS : Sim m S) (kk : ∀ r m2 S2, Sim m2 S2 → P r r m2) : wp_X11_setBase x y w h m (fun r m1 => wp_X12_setBase x y w h m1 (fun r2 m2 => P r r2 m2)) := by
  have hI := hS.2.2
  have hC := hS.2.1
  have hD := hI.1
  have hF := baseFault_ok (x := x) (y := y) (w := w) (h := h) hC.1
  by_cases c1 : rBase x y w h
  · by_cases c2 : gok (gBase (sg S) x y w h)
    · refine combine (c := wp_X11_setBase x y w h m) (d := wp_X12_setBase x y w h) (r := sg S 2) (S2 := (gBase (sg S) x y w h, pushH (sh S) (sg S), S.2.2)) hS (fun K k1 => ?_) (fun m1 K hR k1 => ?_) ?_ kk
      · unfold wp_X11_setBase
        rintro y1 rfl
        rw [hF.2.2 c1 c2, if_pos rfl]
        refine remember_ok hC hI (fun m2 hC2 hk => ?_)
        refine startBase_ok hC2.1 (fun m3 hd hf => ?_)
        have := ClsR_chg hI hC2 hk hd hf (fun k hk => gBase_hi (by omega))
        exact k1 _ this.1 this.2
      · unfold wp_X12_setBase
        refine RB_begins hR (fun m2 hB => ?_)
        exact doBase_ok hD hB (fun z => absurd c1 z) (fun _ z => absurd c2 z) (fun _ _ m3 hB3 => RB_ends hI hB3 (fun m4 r4 l4 => k1 _ r4 l4))
      · exact Inv_push hI ⟨gBase_rng hD.r c1, c2⟩ (Ll_eq hI.2.1 (fun k hk => gBase_hi (by omega)))
    · refine combine (c := wp_X11_setBase x y w h m) (d := wp_X12_setBase x y w h) (r := -4) (S2 := S) hS (fun K k1 => ?_) (fun m1 K hR k1 => ?_) hI kk
      · unfold wp_X11_setBase
        rintro y1 rfl
        rw [hF.2.1 c1 c2, if_neg (by decide)]; exact k1 _ hC (fun _ _ => rfl)
      · unfold wp_X12_setBase
        refine RB_begins hR (fun m2 hB => ?_)
        exact doBase_ok hD hB (fun z => absurd c1 z) (fun _ _ m3 h3 => RQ_ends h3 k1) (fun _ z => absurd z c2)
  · refine combine (c := wp_X11_setBase x y w h m) (d := wp_X12_setBase x y w h) (r := -1) (S2 := S) hS (fun K k1 => ?_) (fun m1 K hR k1 => ?_) hI kk
    · unfold wp_X11_setBase
      rintro y1 rfl
      rw [hF.1 c1, if_neg (by decide)]; exact k1 _ hC (fun _ _ => rfl)
    · unfold wp_X12_setBase
      refine RB_begins hR (fun m2 hB => ?_)
      exact doBase_ok hD hB (fun _ m3 h3 => RQ_ends h3 k1) (fun z => absurd z c1) (fun z => absurd z c1)
