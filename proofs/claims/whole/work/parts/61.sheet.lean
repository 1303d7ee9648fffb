/-! setSheet, setBase: the changes on a design of the class, and on the row -/
theorem RB_congr {m0 m : Mm} {S : AS} {g g2 : Vc} (h : RB m0 m S g) (e : ∀ k, k < 137 → g2 k = g k) : RB m0 m S g2 := ⟨fun k hk => by rw [e k hk]; exact h.1 k hk, h.2⟩
theorem RB_st {m0 m : Mm} {S : AS} {g : Vc} (h : RB m0 m S g) : stR m g := h.1
theorem RB_fr {m0 m m2 : Mm} {S : AS} {g : Vc} (h : RB m0 m S g) (f : fr 432 436 m m2) : RB m0 m2 S g := by
  obtain ⟨h1, h2, h3, h4, h5⟩ := h
  refine ⟨fun k hk => by rw [f 427 (by omega)]; exact h1 k hk, ⟨fun k hk => by rw [f 428 (by omega)]; exact h2.1 k hk, (f 438 (by omega)).trans h2.2.1, by rw [f 426 (by omega)]; exact h2.2.2⟩, by rw [f 426 (by omega)]; exact h3, Rr_congr h4 (by rw [f 426 (by omega)]) (by rw [f 426 (by omega)]) (by rw [f 426 (by omega)]) (fun b hb => f b (by unfold rcell at hb; omega)), fun b hb => by rw [f b (by omega)]; exact h5 b hb⟩
/-- what is left after a refusal -/
def RQ (m0 m : Mm) (S : AS) : Prop := RefR m S ∧ (m.1 426 2 = 1 ∧ kp m0 m) ∧ ∀ b, b < 426 → m.1 b = m0.1 b
theorem RQ_ends {m0 m : Mm} {S : AS} {x : Int32} {K : Int32 → Mm → Prop} (h : RQ m0 m S) (kk : ∀ m2, RefR m2 S → (∀ b, b < 426 → m2.1 b = m0.1 b) → K x m2) : wp_X12_ends x m K := ends_failed h.2.1.1 (kk _ h.1 h.2.2)
theorem gok_iff {g : Vc} : gok g ↔ ∀ k, k < pn g → gok1 g k := Iff.rfl
theorem Dd.r {g : Vc} (h : Dd g) : rngD g := h.1
def gSheet (g : Vc) (w h : Int32) : Vc := vset (vset g 0 w) 1 h
theorem gSheet_ge {g : Vc} {w h : Int32} {k : Nat} (hk : 2 ≤ k) : gSheet g w h k = g k := by unfold gSheet; rw [vset_ne _ _ (by omega), vset_ne _ _ (by omega)]
theorem gSheet_0 {g : Vc} {w h : Int32} : gSheet g w h 0 = w := by unfold gSheet; rw [vset_ne _ _ (by omega), vset_same]
theorem gSheet_1 {g : Vc} {w h : Int32} : gSheet g w h 1 = h := vset_same _ _ _
theorem gSheet_pf {g : Vc} {w h : Int32} (k j : Nat) : pf (gSheet g w h) k j = pf g k j := gSheet_ge (by omega)
theorem gSheet_pn {g : Vc} {w h : Int32} : pn (gSheet g w h) = pn g := by unfold pn; rw [gSheet_ge (by omega)]
theorem gSheet_rect {g : Vc} {w h : Int32} {k : Nat} (hk : k < 10) : rect (gSheet g w h) k = rect g k := rect_congr (fun j _ h2 => gSheet_ge (by omega)) k hk
theorem gSheet_rng {g : Vc} {w h : Int32} (hr : rngD g) (hw : inR w 20 300) (hh : inR h 20 300) : rngD (gSheet g w h) := by
  obtain ⟨d1, d2, d3, d4, d5, d6, d7⟩ := hr
  refine ⟨by rw [gSheet_0]; exact hw, by rw [gSheet_1]; exact hh, by rw [gSheet_ge (by omega)]; exact d3, fun i hi => by rw [gSheet_ge (by omega), gSheet_ge (by omega)]; exact d4 i hi, fun q => ?_, fun k hk => ?_, fun k h0 hk => ?_⟩
  · rw [gSheet_ge (by omega), gSheet_ge (by omega), gSheet_ge (by omega), gSheet_ge (by omega), gSheet_pf]
    rw [gSheet_pn] at q
    obtain ⟨a, b, c, d, e, f⟩ := d5 q
    exact ⟨a, b, c, d, fun j hj => by rw [gSheet_pf]; exact e j hj, f⟩
  · rw [gSheet_pn] at hk ⊢
    rw [gSheet_pf, gSheet_pf, gSheet_pf, gSheet_pf, gSheet_pf]
    obtain ⟨q1, q2, q3⟩ := d6 k hk
    refine ⟨q1, ?_, q3⟩
    rcases q2 with q | ⟨i, hi, q, q4⟩
    · exact Or.inl q
    · exact Or.inr ⟨i, hi, q, by rw [gSheet_ge (by omega)]; exact q4⟩
  · rw [gSheet_pn] at hk
    rw [gSheet_pf, gSheet_pf, gSheet_pf, gSheet_pf, gSheet_pf, gSheet_pf]
    exact d7 k h0 hk
theorem gSheet_gok {g : Vc} {w h : Int32} (hD : Dd g) : gok (gSheet g w h) ↔ ∀ k, k < pn g → (rect g k).1.toInt + (rect g k).2.2.1.toInt ≤ w.toInt ∧ (rect g k).2.1.toInt + (rect g k).2.2.2.toInt ≤ h.toInt := by
  have hp := hD.ple
  rw [gok_iff, gSheet_pn]
  refine ⟨fun z k hk => ?_, fun z k hk => ?_⟩
  · have := (z k hk).1
    rw [gSheet_0, gSheet_1, gSheet_rect (by omega)] at this
    exact this.2.2
  · obtain ⟨q1, q2, q3⟩ := hD.2 k hk
    obtain ⟨z1, z2⟩ := z k hk
    refine ⟨?_, fun h0 => ?_, fun o ho => ?_⟩
    · rw [gSheet_0, gSheet_1, gSheet_rect (by omega)]
      exact ⟨q1.1, q1.2.1, z1, z2⟩
    · obtain ⟨p, s, hpk, ep, hs, es, er⟩ := par_s hD.r.par h0 hk
      have := q2 h0
      rw [gSheet_pf, gSheet_pf, gSheet_pf, gSheet_pf, gSheet_rect (by rw [ep, clamp_nI (by omega)]; omega)]
      exact this
    · rw [gSheet_rect (by omega), gSheet_rect (by omega)]; exact q3 o ho
def rSheet (w h : Int32) : Prop := (20 ≤ w.toInt ∧ w.toInt ≤ 300) ∧ (20 ≤ h.toInt ∧ h.toInt ≤ 300)
/-- the class's check -/
theorem sheetFault_ok {d : Nat} {m : Mm} {g : Vc} {w h : Int32} {K : Int32 → Mm → Prop} (hd : desR m.1 d g) (hD : Dd g) (k1 : ¬ rSheet w h → K (-1) m) (k2 : rSheet w h → ¬ gok (gSheet g w h) → K (-4) m) (k3 : rSheet w h → gok (gSheet g w h) → K 0 m) : wp_X3_sheetFault d w h m K := by
  have hp := hD.ple
  have a1 : (20 : Int32).toInt = 20 := rfl
  have a2 : (300 : Int32).toInt = 300 := rfl
  unfold wp_X3_sheetFault
  by_cases c1 : w < 20
  · rw [if_pos c1]; exact k1 (fun z => by rw [fa_lt] at c1; have := z.1; omega)
  rw [if_neg c1]
  by_cases c2 : 300 < w
  · rw [if_pos c2]; exact k1 (fun z => by rw [fa_lt] at c2; have := z.1; omega)
  rw [if_neg c2]
  by_cases c3 : h < 20
  · rw [if_pos c3]; exact k1 (fun z => by rw [fa_lt] at c3; have := z.2; omega)
  rw [if_neg c3]
  by_cases c4 : ¬ h ≤ 300
  · rw [if_neg c4]; exact k1 (fun z => by rw [fa_le] at c4; have := z.2; omega)
  replace c4 := Decidable.not_not.mp c4
  rw [if_pos c4]
  have hR : rSheet w h := by
    rw [fa_lt] at c1 c2 c3
    rw [fa_le] at c4
    exact ⟨⟨by omega, by omega⟩, by omega, by omega⟩
  have h4 : m.1 d 4 = nI (pn g) := by rw [hd.2.2.1]; exact hD.g2
  refine loop_i (W := fun n i s => wp_X3_sheetFault_l30 K d w h n (nI i) s) (I := fun i s => s = m ∧ ∀ k, k < i → (rect g k).1.toInt + (rect g k).2.2.1.toInt ≤ w.toInt ∧ (rect g k).2.1.toInt + (rect g k).2.2.2.toInt ≤ h.toInt) (pn g) ?_ ?_ FU 0 m (by omega) (FU_gt (by omega)) ⟨rfl, fun o ho => by omega⟩
  · rintro n s ⟨rfl, hs⟩
    show wb_X3_sheetFault_l30 _ _ _ _ _ _ _
    unfold wb_X3_sheetFault_l30
    rw [h4, if_pos (ile (Nat.le_refl _) (by omega))]
    exact k3 hR ((gSheet_gok hD).mpr hs)
  · rintro n i s hi ⟨rfl, hs⟩ kk
    show wb_X3_sheetFault_l30 _ _ _ _ _ _ _
    unfold wb_X3_sheetFault_l30
    obtain ⟨q1, q2, q3, q4⟩ := (hd.2.2.2.2 i hi).R
    have ei := bdr_xw (rect_b hD.r hi)
    rw [h4, if_neg (inle hi (by omega)), panelAt_in (by omega), q1, q2, q3, q4]
    by_cases e1 : w < (rect g i).1 + (rect g i).2.2.1
    · rw [if_pos e1]; exact k2 hR (fun z => by rw [fa_lt, ei.1] at e1; have := ((gSheet_gok hD).mp z i hi).1; omega)
    rw [if_neg e1]
    by_cases e2 : (rect g i).2.1 + (rect g i).2.2.2 ≤ h
    · rw [if_pos e2, nI_1]
      refine kk _ ⟨rfl, fun k hk => ?_⟩
      rcases Nat.lt_or_ge k i with q | q
      · exact hs k q
      · rw [show k = i by omega]
        rw [fa_lt, ei.1] at e1
        rw [fa_le, ei.2] at e2
        exact ⟨by omega, e2⟩
    · rw [if_neg e2]; exact k2 hR (fun z => by rw [fa_le, ei.2] at e2; have := ((gSheet_gok hD).mp z i hi).2; omega)
/-- cells of one design alone are written -/
def frD (d : Nat) (m m2 : Mm) : Prop := ∀ b, b < d ∨ d + 15 ≤ b → m2.1 b = m.1 b
theorem changeSheet_ok {d : Nat} {m : Mm} {g : Vc} {w h : Int32} {K : Int32 → Mm → Prop} (hd : desR m.1 d g) (hp : pn g ≤ 10) (kk : ∀ m2, desR m2.1 d (gSheet g w h) → frD d m m2 → K (g 0) m2) : wp_X3_changeSheet d w h m K := by
  unfold wp_X3_changeSheet
  rintro y1 rfl m2 rfl m3 rfl
  rw [hd.1]
  have e : ∀ b, b ≠ d → (wI (wI m d 2 w) d 3 h).1 b = m.1 b := fun b hb => by funext j; rw [wI_ne _ _ _ _ hb, wI_ne _ _ _ _ hb]
  refine kk _ ⟨?_, ?_, ?_, fun i hi => ?_, fun k hk => ?_⟩ (fun b hb => e b (by omega))
  · rw [gSheet_0, wI_nj _ _ _ _ (by omega), wI_same]
  · rw [gSheet_1, wI_same]
  · rw [gSheet_ge (by omega), wI_nj _ _ _ _ (by omega), wI_nj _ _ _ _ (by omega)]; exact hd.2.2.1
  · rw [gSheet_ge (by omega), gSheet_ge (by omega), e _ (by omega), e _ (by omega)]; exact hd.2.2.2.1 i hi
  · rw [gSheet_pn] at hk
    obtain ⟨a1, a2, a3, a4⟩ := hd.2.2.2.2 k hk
    unfold panR
    rw [e _ (by omega), gSheet_rect (by omega)]
    exact ⟨fun j h1 h2 => by rw [gSheet_pf]; exact a1 j h1 h2, a2, fun h0 j hj => by rw [gSheet_pf]; exact a3 h0 j hj, a4⟩
/-- the reference's change -/
theorem doSheet_ok {m0 m : Mm} {S : AS} {w h : Int32} {K : Int32 → Mm → Prop} (hD : Dd (sg S)) (hB : RB m0 m S (sg S)) (k1 : ¬ rSheet w h → ∀ m2, RQ m0 m2 S → K (-1) m2) (k2 : rSheet w h → ¬ gok (gSheet (sg S) w h) → ∀ m2, RQ m0 m2 S → K (-4) m2)
    (k3 : rSheet w h → gok (gSheet (sg S) w h) → ∀ m2, RB m0 m2 S (gSheet (sg S) w h) → K (sg S 0) m2) : wp_X12_doSheet w h m K := by
  have a1 : (20 : Int32).toInt = 20 := rfl
  have a2 : (300 : Int32).toInt = 300 := rfl
  have kj : ¬ rSheet w h → wp_X12_doSheet_j24 K m := fun z => by
    unfold wp_X12_doSheet_j24
    exact RB_refuse hB (fun m2 r1 r2 r3 => k1 z m2 ⟨r1, r2, r3⟩)
  unfold wp_X12_doSheet
  by_cases c1 : 20 ≤ w.toInt ∧ w.toInt ≤ 300
  · rw [if_neg (in_ne (by omega) (by omega))]
    by_cases c2 : 20 ≤ h.toInt ∧ h.toInt ≤ 300
    · rw [if_neg (in_ne (by omega) (by omega))]
      rintro y5 rfl m6 rfl m7 rfl
      have hB2 : RB m0 (wI (wI m 427 0 w) 427 1 h) S (gSheet (sg S) w h) := RB_put (RB_put hB)
      rw [hB.1 0 (by omega)]
      refine rvalid_ok (RB_st hB2) (gSheet_rng hD.r c1 c2) (fun r m2 hr _ f => ?_)
      have hB3 := RB_fr hB2 f
      rcases hr with ⟨r1, r2⟩ | ⟨r1, r2⟩
      · rw [r1, if_neg (by decide)]; exact k3 ⟨c1, c2⟩ r2 _ hB3
      · rw [r1, if_pos rfl]; exact RB_refuse hB3 (fun m2 r1 r3 r4 => k2 ⟨c1, c2⟩ r2 m2 ⟨r1, r3, r4⟩)
    · rw [if_pos (in_0 (by omega))]; exact kj (fun z => c2 z.2)
  · rw [if_pos (in_0 (by omega))]; exact kj (fun z => c1 z.1)
theorem Ll_eq {g g2 : Vc} (h : Ll g) (e : ∀ k, 125 ≤ k → g2 k = g k) : Ll g2 := by
  obtain ⟨h1, h2, h3⟩ := h
  exact ⟨fun i hi => by rw [e _ (by omega)]; exact h1 i hi, by rw [e _ (by omega)]; exact h2, fun i hi => by rw [e _ (by omega)]; exact h3 i hi⟩
theorem limR_eq {f : Nat → Nat → Int32} {a b : Nat} {g g2 : Vc} (h : limR f a b g) (e : ∀ k, 125 ≤ k → g2 k = g k) : limR f a b g2 :=
  ⟨fun i hi => by rw [e _ (by omega)]; exact h.1 i hi, fun i hi => by rw [e _ (by omega)]; exact h.2 i hi⟩
/-- the class after 'remember' and a change of its design -/
theorem ClsR_chg {m m2 m3 : Mm} {S : AS} {g2 : Vc} (hI : Inv S) (hC : ClsR m2 (sg S, pushH (sh S) (sg S), S.2.2)) (hk : keepH m m2) (hd : desR m3.1 1 g2) (hf : frD 1 m2 m3) (e : ∀ k, 125 ≤ k → g2 k = sg S k) : ClsR m3 (g2, pushH (sh S) (sg S), S.2.2) ∧ ∀ b, 426 ≤ b → m3.1 b = m.1 b :=
  ⟨ClsR_des (S := (sg S, pushH (sh S) (sg S), S.2.2)) (hist_ok hI) hI.2.2.2.2.1 hC hd (limR_eq (limR_congr hC.2.1 (hf 265 (by omega)) (hf 266 (by omega))) e) (fun b _ hb _ _ => hf b (by omega)), fun b hb => by rw [hf b (by omega), hk.1 b (by omega)]⟩
theorem op_setSheet {m : Mm} {S : AS} {w h : Int32} {P : Int32 → Int32 → Mm → Prop} (hS : Sim m S) (kk : ∀ r m2 S2, Sim m2 S2 → P r r m2) : wp_X11_setSheet w h m (fun r m1 => wp_X12_setSheet w h m1 (fun r2 m2 => P r r2 m2)) := by
  have hI := hS.2.2
  have hC := hS.2.1
  have hD := hI.1
  by_cases c1 : rSheet w h
  · by_cases c2 : gok (gSheet (sg S) w h)
    · refine combine (c := wp_X11_setSheet w h m) (d := wp_X12_setSheet w h) (r := sg S 0) (S2 := (gSheet (sg S) w h, pushH (sh S) (sg S), S.2.2)) hS (fun K k1 => ?_) (fun m1 K hR k1 => ?_) ?_ kk
      · unfold wp_X11_setSheet
        refine sheetFault_ok hC.1 hD (fun z => absurd c1 z) (fun _ z => absurd c2 z) (fun _ _ => ?_)
        rw [if_pos rfl]
        refine remember_ok hC hI (fun m2 hC2 hk => ?_)
        refine changeSheet_ok hC2.1 hD.ple (fun m3 hd hf => ?_)
        have := ClsR_chg hI hC2 hk hd hf (fun k hk => gSheet_ge (by omega))
        exact k1 _ this.1 this.2
      · unfold wp_X12_setSheet
        refine RB_begins hR (fun m2 hB => ?_)
        exact doSheet_ok hD hB (fun z => absurd c1 z) (fun _ z => absurd c2 z) (fun _ _ m3 hB3 => RB_ends hI hB3 (fun m4 r4 l4 => k1 _ r4 l4))
      · exact Inv_push hI ⟨gSheet_rng hD.r c1.1 c1.2, c2⟩ (Ll_eq hI.2.1 (fun k hk => gSheet_ge (by omega)))
    · refine combine (c := wp_X11_setSheet w h m) (d := wp_X12_setSheet w h) (r := -4) (S2 := S) hS (fun K k1 => ?_) (fun m1 K hR k1 => ?_) hI kk
      · unfold wp_X11_setSheet
        refine sheetFault_ok hC.1 hD (fun z => absurd c1 z) (fun _ _ => ?_) (fun _ z => absurd z c2)
        rw [if_neg (by decide)]; exact k1 _ hC (fun _ _ => rfl)
      · unfold wp_X12_setSheet
        refine RB_begins hR (fun m2 hB => ?_)
        exact doSheet_ok hD hB (fun z => absurd c1 z) (fun _ _ m3 h3 => RQ_ends h3 k1) (fun _ z => absurd z c2)
  · refine combine (c := wp_X11_setSheet w h m) (d := wp_X12_setSheet w h) (r := -1) (S2 := S) hS (fun K k1 => ?_) (fun m1 K hR k1 => ?_) hI kk
    · unfold wp_X11_setSheet
      refine sheetFault_ok hC.1 hD (fun _ => ?_) (fun z => absurd z c1) (fun z => absurd z c1)
      rw [if_neg (by decide)]; exact k1 _ hC (fun _ _ => rfl)
    · unfold wp_X12_setSheet
      refine RB_begins hR (fun m2 hB => ?_)
      exact doSheet_ok hD hB (fun _ m3 h3 => RQ_ends h3 k1) (fun z => absurd z c1) (fun z => absurd z c1)
