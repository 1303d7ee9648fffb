/-! bestAngle, bestDepth -/
theorem gF_twice (g : Vc) (k j : Nat) (x y : Int32) : gF (gF g k j x) k j y = gF g k j y := by
  funext i
  unfold gF vset
  by_cases z : i = 11 + 11 * k + j
  · rw [if_pos z, if_pos z]
  · rw [if_neg z, if_neg z, if_neg z]
theorem gF_self (g : Vc) (k j : Nat) : gF g k j (pf g k j) = g := by
  funext i
  unfold gF vset pf
  by_cases z : i = 11 + 11 * k + j
  · rw [if_pos z, z]
  · rw [if_neg z]
noncomputable def cost (g : Vc) : Int64 := lN (sumC g (CL g))
theorem ccost_ok {d : Nat} {g : Vc} {m : Mm} {K : Mm → Prop} (hD : Dd g) (hl : Ll g) (hd2 : d < 240) (hd : desR m.1 d g) (hlm : limR m.1 265 266 g) (kk : ∀ m2, m2.2 264 1 = cost g → frZ m m2 → K m2) : wp_X4_collect d m K :=
  collect_ok hD hl hd2 hd hlm (fun m2 c _ f => kk m2 c.2.1 f)
theorem rcost_ok {g : Vc} {m : Mm} {K : Int64 → Mm → Prop} (hD : Dd g) (hl : Ll g) (hs : stR m g) (kk : ∀ m2, frH m m2 → K (cost g) m2) : wp_X12_costs (-9) m K := by
  refine rcosts_ok (f := fun _ => true) hD hl hs (fun y _ => ⟨fun _ => Or.inl rfl, fun _ => rfl⟩) (fun m2 f => ?_)
  rw [sumP_perm hl, sumP_all]
  exact kk m2 f
theorem Ll_gF {g : Vc} {k j : Nat} {x : Int32} (hl : Ll g) (hk : k < 10) (hj : j < 11) : Ll (gF g k j x) := Ll_eq hl (fun i hi => gF_out hk hj (by omega))
theorem lim_gF {f : Nat → Nat → Int32} {g : Vc} {k j : Nat} {x : Int32} (h : limR f 265 266 g) (hk : k < 10) (hj : j < 11) : limR f 265 266 (gF g k j x) := limR_eq h (fun i hi => gF_out hk hj (by omega))
def frN (m m2 : Mm) : Prop := ∀ b j, b < 426 ∨ (b = 426 ∧ j ≠ 25 ∧ j ≠ 27 ∧ j ≠ 2) ∨ (429 ≤ b ∧ b < 432) ∨ (436 ≤ b ∧ b < 439) ∨ 449 ≤ b → m2.1 b j = m.1 b j
theorem frN_t {m m2 m3 : Mm} (f : frN m m2) (q : frN m2 m3) : frN m m3 := fun b j h => by rw [q b j h, f b j h]
theorem frN_H {m m2 : Mm} (f : frH m m2) : frN m m2 := fun b j h => f b j (by omega)
theorem frN_w (m : Mm) (k : Nat) (x : Int32) : frN m (wI m 427 k x) := fun b j h => by rw [wI_ne _ _ _ _ (by omega)]
theorem RefR_N {m m2 : Mm} {S : AS} (h : RefR m S) (f : frN m m2) (hs : stR m2 (sg S)) : RefR m2 S :=
  ⟨hs, Rr_congr h.2 (f 426 4 (by omega)) (f 426 12 (by omega)) (f 426 13 (by omega)) (fun b hb => funext fun j => f b j (by unfold rcell at hb; omega))⟩
theorem low_N {m m2 : Mm} (f : frN m m2) : ∀ b, b < 426 → m2.1 b = m.1 b := fun b hb => funext fun j => f b j (Or.inl hb)
theorem stR_set {m : Mm} {g : Vc} (h : stR m g) (k j : Nat) (x : Int32) : stR (wI m 427 (11 + 11 * k + j) x) (gF g k j x) := fun i hi => by
  rw [wI_get, if_pos rfl]
  unfold gF vset
  by_cases w : i = 11 + 11 * k + j
  · rw [if_pos w, if_pos w]
  · rw [if_neg w, if_neg w]; exact h i hi
def frA (m m2 : Mm) : Prop := ∀ b, b < 16 ∨ (31 ≤ b ∧ b < 264) ∨ b = 265 ∨ b = 266 ∨ 395 ≤ b → m2.1 b = m.1 b
theorem ClsR_A {m m2 : Mm} {S : AS} (hI : Inv S) (h : ClsR m S) (f : frA m m2) : ClsR m2 S := ClsR_congr hI h (fun b hb => f b (by unfold ccell at hb; omega))
theorem up_A {m m2 : Mm} (f : frA m m2) : ∀ b, 426 ≤ b → m2.1 b = m.1 b := fun b hb => f b (by omega)
theorem angI {i : Nat} (hi : i < 10) : (nI i - 1).toInt = (i : Int) - 1 ∧ nI i - 1 + 1 = nI (i + 1) - 1 := by
  have e : (nI i).toInt = i := nI_toInt (by omega)
  have e1 : (1 : Int32).toInt = 1 := rfl
  refine ⟨by rw [fb_subI (by omega) (by omega), e, e1], ?_⟩
  rw [← nI_1 i]
  grind
noncomputable def cAg (g : Vc) (k i : Nat) : Int64 := cost (gF g k 5 (nI i - 1))
noncomputable def stA (g : Vc) (k : Nat) (i : Nat) (s : Int32 × Int64) : Int32 × Int64 := (if (0 : Int32) ≤ lg_cmp (cAg g k i) s.2 then s.1 else nI i - 1, if (0 : Int32) ≤ lg_cmp (cAg g k i) s.2 then s.2 else cAg g k i)
theorem Dd_ang {g : Vc} (hD : Dd g) {k i : Nat} (h0 : 0 < k) (hk : k < pn g) (hi : i < 4) : Dd (gF g k 5 (nI i - 1)) := by
  have e := (angI (i := i) (by omega)).1
  exact ⟨gF_rng hD.r hk (by omega) (by omega) (fun _ => ⟨h0, by rw [inR, e]; omega⟩) (fun z => by omega) (fun z => by omega) (fun z => by omega) (fun z => by omega), gF_gok hD hk (by omega) (by omega)⟩
theorem op_bestAngle {m : Mm} {S : AS} {x : Int32} {P : Int32 → Int32 → Mm → Prop} (h : Sim m S) (kk : ∀ r m2 S2, Sim m2 S2 → P r r m2) : wp_X11_bestAngle x m (fun r m1 => wp_X12_bestAngle x m1 (fun r2 m2 => P r r2 m2)) := by
  have hI := h.2.2
  have hC := h.2.1
  have hD := hI.1
  have hl := hI.2.1
  have hp := hD.ple
  have h4 := c_pc hC hI
  have a2 : (2 : Int32).toInt = 2 := rfl
  by_cases cx : 1 ≤ x.toInt ∧ x.toInt < pn (sg S)
  · obtain ⟨k, ek, ek2, -⟩ := asN (x := x) (by omega)
    have hk : k < pn (sg S) := by omega
    have h0 : 0 < k := by omega
    refine combine (c := wp_X11_bestAngle x m) (d := wp_X12_bestAngle x) (r := (ifo (stA (sg S) k) (pf (sg S) k 5, cost (sg S)) 0 4).1) (S2 := S) h (fun K k1 => ?_) (fun m1 K hR k1 => ?_) hI kk
    · unfold wp_X11_bestAngle
      rw [if_neg (fun q => (hangs_0 h4 hp).mp q cx), ek]
      refine become_ok (n := pn (sg S)) (by omega) h4 hp ?_
      have d16 : desR (bcm m 16 1 (pn (sg S))).1 16 (sg S) := desR_bcm (by omega) hp hC.1
      have o16 : ∀ b, b < 16 ∨ 31 ≤ b → (bcm m 16 1 (pn (sg S))).1 b = m.1 b := fun b hb => bcm_out (by omega) hp
      have l16 : limR (bcm m 16 1 (pn (sg S))).1 265 266 (sg S) := limR_congr hC.2.1 (o16 265 (by omega)) (o16 266 (by omega))
      refine ccost_ok hD hl (by omega) d16 l16 (fun m3 c3 f3 => ?_)
      have d3 : desR m3.1 16 (sg S) := desR_congr hp d16 (fun b b1 b2 => f3 b (by omega))
      rw [panelAt_in (by omega), d_pf d3 hk (by omega) (by omega), c3]
      rintro y4 rfl y5 rfl
      have F3 : frA m m3 := fun b hb => by rw [f3 b (by omega), o16 b (by omega)]
      refine fa_post (P := fun z => wp_X11_bestAngle_l58 K (nI k) FU (pf (sg S) k 5) (cost (sg S)) z m3) (y := nI 0 - 1) (by decide) ?_
      refine loop_i (W := fun n i (s : (Int32 × Int64) × Mm) => wp_X11_bestAngle_l58 K (nI k) n s.1.1 s.1.2 (nI i - 1) s.2) (I := fun i s => s.1 = ifo (stA (sg S) k) (pf (sg S) k 5, cost (sg S)) 0 i ∧ (∃ a, desR s.2.1 16 (gF (sg S) k 5 a)) ∧ limR s.2.1 265 266 (sg S) ∧ frA m s.2) 4 ?_ ?_ FU 0 ((pf (sg S) k 5, cost (sg S)), m3) (by omega) (FU_gt (by omega)) ⟨rfl, ⟨pf (sg S) k 5, by rw [gF_self]; exact d3⟩, limR_congr l16 (f3 265 (by omega)) (f3 266 (by omega)), F3⟩
      · rintro n ⟨⟨b, l⟩, ms⟩ ⟨i1, i2, i3, i4⟩
        show wb_X11_bestAngle_l58 _ _ _ _ _ _ _
        unfold wb_X11_bestAngle_l58
        rw [if_pos (by rw [fa_lt, (angI (i := 4) (by omega)).1]; omega)]
        have e1 : b = (ifo (stA (sg S) k) (pf (sg S) k 5, cost (sg S)) 0 4).1 := congrArg Prod.fst i1
        show K b ms
        rw [e1]
        exact k1 _ (ClsR_A hI hC i4) (up_A i4)
      · rintro n i ⟨⟨b, l⟩, ms⟩ hi ⟨i1, ⟨a, i2⟩, i3, i4⟩ k2
        show wb_X11_bestAngle_l58 _ _ _ _ _ _ _
        unfold wb_X11_bestAngle_l58
        rw [if_neg (by rw [fa_lt, (angI (i := i) (by omega)).1]; omega), panelAt_in (by omega), (angI (i := i) (by omega)).2]
        have pe : pn (gF (sg S) k 5 a) = pn (sg S) := gF_pn (by omega) (by omega)
        intro m7 h7
        have d7 : desR m7.1 16 (gF (sg S) k 5 (nI i - 1)) := by
          rw [h7, ← gF_twice (sg S) k 5 a (nI i - 1)]
          exact desR_gF (by omega) i2 (by omega) (by omega) (by omega)
        have l7 : limR m7.1 265 266 (gF (sg S) k 5 (nI i - 1)) := by
          refine lim_gF (limR_congr i3 ?_ ?_) (by omega) (by omega)
          · funext j; rw [h7, wI_ne _ _ _ _ (by omega)]
          · funext j; rw [h7, wI_ne _ _ _ _ (by omega)]
        refine ccost_ok (Dd_ang hD h0 hk hi) (Ll_gF hl (by omega) (by omega)) (by omega) d7 l7 (fun m8 c8 f8 => ?_)
        rw [c8]
        have ec : cost (gF (sg S) k 5 (nI i - 1)) = cAg (sg S) k i := rfl
        rw [ec]
        rintro y10 h10 y11 h11
        refine k2 ((y10, y11), m8) ⟨?_, ⟨nI i - 1, desR_congr (by rw [gF_pn (by omega) (by omega)]; exact hp) d7 (fun b b1 b2 => f8 b (by omega))⟩, ?_, ?_⟩
        · show (y10, y11) = stA (sg S) k (0 + i) (ifo (stA (sg S) k) (pf (sg S) k 5, cost (sg S)) 0 i)
          have i1' : (b, l) = ifo (stA (sg S) k) (pf (sg S) k 5, cost (sg S)) 0 i := i1
          rw [← i1', Nat.zero_add, h10, h11]
          rfl
        · refine limR_congr i3 ?_ ?_
          · rw [f8 265 (by omega)]; funext j; rw [h7, wI_ne _ _ _ _ (by omega)]
          · rw [f8 266 (by omega)]; funext j; rw [h7, wI_ne _ _ _ _ (by omega)]
        · intro b hb
          rw [f8 b (by omega), ← i4 b hb, h7]
          funext j
          rw [wI_ne _ _ _ _ (by omega)]
    · unfold wp_X12_bestAngle
      rw [if_neg (fun q => (isHung_0 hR.st hD.g2 hp).mp q cx), ek, of5 hR.st (by omega)]
      refine ⟨sof5 (by omega), ?_⟩
      rintro y3 rfl
      refine rcost_ok hD hl hR.st (fun m4 f4 => ?_)
      have s4 : stR m4 (sg S) := fun i hi => by rw [f4 427 i (by omega)]; exact hR.st i hi
      refine fa_post (P := fun z => wp_X12_bestAngle_l30 _ K (nI k) (pf (sg S) k 5) FU (pf (sg S) k 5) (cost (sg S)) z m4) (y := nI 0 - 1) (by decide) ?_
      refine loop_i (W := fun n i (s : (Int32 × Int64) × Mm) => wp_X12_bestAngle_l30 _ K (nI k) (pf (sg S) k 5) n s.1.1 s.1.2 (nI i - 1) s.2) (I := fun i s => s.1 = ifo (stA (sg S) k) (pf (sg S) k 5, cost (sg S)) 0 i ∧ (∃ a, stR s.2 (gF (sg S) k 5 a)) ∧ frN m1 s.2) 4 ?_ ?_ FU 0 ((pf (sg S) k 5, cost (sg S)), m4) (by omega) (FU_gt (by omega)) ⟨rfl, ⟨pf (sg S) k 5, by rw [gF_self]; exact s4⟩, frN_H f4⟩
      · rintro n ⟨⟨b, l⟩, ms⟩ ⟨i1, ⟨a, i2⟩, i3⟩
        show wb_X12_bestAngle_l30 _ _ _ _ _ _ _ _ _
        unfold wb_X12_bestAngle_l30
        rw [if_pos (by rw [fa_lt, (angI (i := 4) (by omega)).1]; omega)]
        have e1 : b = (ifo (stA (sg S) k) (pf (sg S) k 5, cost (sg S)) 0 4).1 := congrArg Prod.fst i1
        refine put_ok (j := 5) rfl (by omega) (by omega) ?_
        have st := stR_set i2 k 5 (pf (sg S) k 5)
        rw [gF_twice, gF_self] at st
        show K b _
        rw [e1]
        have f5 := frN_t i3 (frN_w ms (11 + 11 * k + 5) (pf (sg S) k 5))
        exact k1 _ (RefR_N hR f5 st) (low_N f5)
      · rintro n i ⟨⟨b, l⟩, ms⟩ hi ⟨i1, ⟨a, i2⟩, i3⟩ k2
        show wb_X12_bestAngle_l30 _ _ _ _ _ _ _ _ _
        unfold wb_X12_bestAngle_l30
        rw [if_neg (by rw [fa_lt, (angI (i := i) (by omega)).1]; omega), (angI (i := i) (by omega)).2]
        refine put_ok (j := 5) rfl (by omega) (by omega) ?_
        have st := stR_set i2 k 5 (nI i - 1)
        rw [gF_twice] at st
        refine rcost_ok (Dd_ang hD h0 hk hi) (Ll_gF hl (by omega) (by omega)) st (fun m8 f8 => ?_)
        have ec : cost (gF (sg S) k 5 (nI i - 1)) = cAg (sg S) k i := rfl
        rw [ec]
        rintro y11 h11 y12 h12
        refine k2 ((y11, y12), m8) ⟨?_, ⟨nI i - 1, fun q hq => by rw [f8 427 q (by omega)]; exact st q hq⟩, frN_t (frN_t i3 (frN_w ms (11 + 11 * k + 5) (nI i - 1))) (frN_H f8)⟩
        show (y11, y12) = stA (sg S) k (0 + i) (ifo (stA (sg S) k) (pf (sg S) k 5, cost (sg S)) 0 i)
        have i1' : (b, l) = ifo (stA (sg S) k) (pf (sg S) k 5, cost (sg S)) 0 i := i1
        rw [← i1', Nat.zero_add, h11, h12]
        rfl
  · refine combine (c := wp_X11_bestAngle x m) (d := wp_X12_bestAngle x) (r := -1) (S2 := S) h (fun K k1 => ?_) (fun m1 K hR k1 => ?_) hI kk
    · unfold wp_X11_bestAngle
      rw [if_pos ((hangs_0 h4 hp).mpr cx)]; exact k1 _ hC (fun _ _ => rfl)
    · unfold wp_X12_bestAngle
      rw [if_pos ((isHung_0 hR.st hD.g2 hp).mpr cx)]; exact k1 _ hR (fun _ _ => rfl)
def bDp (had x : Int32) (c : Int64) (b : Int32) (l : Int64) : Int32 := if b = -9 then x else if lg_cmp c l < 0 then x else if lg_cmp c l = 0 then (if ab32 (b - had) ≤ ab32 (x - had) then b else x) else b
def lDp (had x : Int32) (c : Int64) (b : Int32) (l : Int64) : Int64 := if b = -9 then c else if lg_cmp c l < 0 then c else if lg_cmp c l = 0 then (if ab32 (b - had) ≤ ab32 (x - had) then l else c) else l
noncomputable def stD (g : Vc) (k : Nat) (i : Nat) (s : Int32 × Int64) : Int32 × Int64 := @ite _ (gok (gF g k 4 (nI i))) (Classical.propDecidable _) (bDp (pf g k 4) (nI i) (cost (gF g k 4 (nI i))) s.1 s.2, lDp (pf g k 4) (nI i) (cost (gF g k 4 (nI i))) s.1 s.2) s
theorem stD_y {g : Vc} {k i : Nat} {s : Int32 × Int64} (h : gok (gF g k 4 (nI i))) : stD g k i s = (bDp (pf g k 4) (nI i) (cost (gF g k 4 (nI i))) s.1 s.2, lDp (pf g k 4) (nI i) (cost (gF g k 4 (nI i))) s.1 s.2) := by unfold stD; rw [if_pos h]
theorem stD_n {g : Vc} {k i : Nat} {s : Int32 × Int64} (h : ¬ gok (gF g k 4 (nI i))) : stD g k i s = s := by unfold stD; rw [if_neg h]
theorem rng_dep {g : Vc} (hr : rngD g) {k i : Nat} (h0 : 0 < k) (hk : k < pn g) (h1 : 1 ≤ i) (hi : i ≤ 100) : rngD (gF g k 4 (nI i)) := gF_rng2 (w := 2) hr h0 hk (by omega) ⟨by rw [nI_toInt (by omega), if_neg (by omega)]; omega, by rw [nI_toInt (by omega)]; omega⟩
theorem op_bestDepth {m : Mm} {S : AS} {x : Int32} {P : Int32 → Int32 → Mm → Prop} (h : Sim m S) (kk : ∀ r m2 S2, Sim m2 S2 → P r r m2) : wp_X11_bestDepth x m (fun r m1 => wp_X12_bestDepth x m1 (fun r2 m2 => P r r2 m2)) := by
  have hI := h.2.2
  have hC := h.2.1
  have hD := hI.1
  have hl := hI.2.1
  have hp := hD.ple
  have h4 := c_pc hC hI
  by_cases cx : 1 ≤ x.toInt ∧ x.toInt < pn (sg S)
  · obtain ⟨k, ek, ek2, -⟩ := asN (x := x) (by omega)
    have hk : k < pn (sg S) := by omega
    have h0 : 0 < k := by omega
    refine combine (c := wp_X11_bestDepth x m) (d := wp_X12_bestDepth x) (r := (ifo (stD (sg S) k) (-9, 0) 1 (101 - 1)).1) (S2 := S) h (fun K k1 => ?_) (fun m1 K hR k1 => ?_) hI kk
    · unfold wp_X11_bestDepth
      rw [if_neg (fun q => (hangs_0 h4 hp).mp q cx), ek]
      refine become_ok (n := pn (sg S)) (by omega) h4 hp ?_
      have d16 : desR (bcm m 16 1 (pn (sg S))).1 16 (sg S) := desR_bcm (by omega) hp hC.1
      have o16 : ∀ b, b < 16 ∨ 31 ≤ b → (bcm m 16 1 (pn (sg S))).1 b = m.1 b := fun b hb => bcm_out (by omega) hp
      have l16 : limR (bcm m 16 1 (pn (sg S))).1 265 266 (sg S) := limR_congr hC.2.1 (o16 265 (by omega)) (o16 266 (by omega))
      rw [panelAt_in (by omega), o16 (1 + 5 + k) (by omega), (hC.1.2.2.2.2 k hk).2.2.1 h0 4 (by omega)]
      rintro y3 rfl
      refine rel_loop (wp := fun n i (s : (Int32 × Int64) × Mm) => wp_X11_bestDepth_l45 K (nI k) (pf (sg S) k 4) n s.1.1 s.1.2 i s.2) (R := fun _ s v => s.1 = v ∧ (∃ a, desR s.2.1 16 (gF (sg S) k 4 a)) ∧ limR s.2.1 265 266 (sg S) ∧ frA m s.2) (stD (sg S) k) (s0 := ((-9, 0), bcm m 16 1 (pn (sg S)))) (l0 := (-9, 0)) (a := 1) (N := 101) (by omega) (by omega) ?_ ?_ ⟨rfl, ⟨pf (sg S) k 4, by rw [gF_self]; exact d16⟩, l16, fun b hb => o16 b (by omega)⟩
      · rintro n i ⟨⟨b, l⟩, ms⟩ h1 h2 ⟨i1, i2, i3, i4⟩
        have ei : i = 101 := by omega
        subst ei
        show wb_X11_bestDepth_l45 _ _ _ _ _ _ _ _
        unfold wb_X11_bestDepth_l45
        rw [if_pos (show (100 : Int32) < nI 101 from ilt (a := 100) (by omega) (by omega))]
        have e1 : b = (ifo (stD (sg S) k) (-9, 0) 1 (101 - 1)).1 := congrArg Prod.fst i1
        show K b ms
        rw [e1]
        exact k1 _ (ClsR_A hI hC i4) (up_A i4)
      · rintro n i ⟨⟨b, l⟩, ms⟩ v h1 h2 ⟨i1, ⟨a, i2⟩, i3, i4⟩ k2
        show wb_X11_bestDepth_l45 _ _ _ _ _ _ _ _
        unfold wb_X11_bestDepth_l45
        have i1' : (b, l) = v := i1
        subst i1'
        have pe : pn (gF (sg S) k 4 a) = pn (sg S) := gF_pn (by omega) (by omega)
        have pe2 : pn (gF (sg S) k 4 (nI i)) = pn (sg S) := gF_pn (by omega) (by omega)
        rw [if_neg (show ¬ (100 : Int32) < nI i from inlt (a := 100) (by omega) (by omega)), panelAt_in (by omega)]
        rintro m5 rfl
        have hr6 := rng_dep hD.r h0 hk h1 (show i ≤ 100 by omega)
        have para : par (gF (sg S) k 4 a) := gF_par (w := 2) hD.r.par hk (by omega)
        refine setF_ok (w := 2) i2 para h0 (by omega) (by omega) (fun m6 d6 f6 => ?_)
        rw [show 2 + 2 = 4 from rfl, gF_twice] at d6
        have F6 : frA m m6 := fun b hb => by rw [f6 b (by omega), i4 b hb]
        have L6 : limR m6.1 265 266 (sg S) := limR_congr i3 (f6 265 (by omega)) (f6 266 (by omega))
        refine cvalid_ok hr6 d6.1 d6.2.1 (by rw [d6.2.2.1]; exact hr6.par.2.1) d6.2.2.2.2 (fun y8 hy8 => ?_)
        rcases hy8 with ⟨u1, u2⟩ | ⟨u1, u2⟩
        · rw [if_neg (by rw [u1]; decide)]
          refine ccost_ok ⟨hr6, u2⟩ (Ll_gF hl (by omega) (by omega)) (by omega) d6 (lim_gF L6 (by omega) (by omega)) (fun m10 c10 f10 => ?_)
          rw [c10]
          rintro y12 h12 y17 h17 y18 h18
          refine k2 ((y17, y18), m10) ⟨?_, ⟨nI i, desR_congr (by omega) d6 (fun b b1 b2 => f10 b (by omega))⟩, limR_congr L6 (f10 265 (by omega)) (f10 266 (by omega)), fun b hb => by rw [f10 b (by omega), F6 b hb]⟩
          show (y17, y18) = stD (sg S) k i (b, l)
          rw [stD_y u2, h17, h18, h12]
          unfold bDp lDp
          show (_, _) = (_, _)
          by_cases q : ab32 (b - pf (sg S) k 4) ≤ ab32 (nI i - pf (sg S) k 4)
          · simp only [if_pos q]; simp
          · simp only [if_neg q]; simp
        · rw [if_pos u1]
          exact k2 ((b, l), m6) ⟨by show (b, l) = stD (sg S) k i (b, l); rw [stD_n u2], ⟨nI i, d6⟩, L6, F6⟩
    · unfold wp_X12_bestDepth
      rw [if_neg (fun q => (isHung_0 hR.st hD.g2 hp).mp q cx), ek]
      refine RB_begins hR (fun m2 hB => ?_)
      rw [of4 (RB_st hB) (by omega)]
      refine ⟨sof4 (by omega), ?_⟩
      rintro y4 rfl
      have hfin : ∀ (mm : Mm) (g2 : Vc) (a : Int32), RB m1 mm S g2 → g2 = gF (sg S) k 4 a → ∀ m25, m25 = wI mm 427 (11 + 11 * k + 4) (pf (sg S) k 4) → RefR m25 S ∧ ∀ b, b < 426 → m25.1 b = m1.1 b := fun mm g2 a hb eg m25 e25 => by
        have hb2 := RB_put (k := 11 + 11 * k + 4) (x := pf (sg S) k 4) hb
        have eg2 : vset g2 (11 + 11 * k + 4) (pf (sg S) k 4) = sg S := by
          rw [eg]
          exact (gF_twice (sg S) k 4 a (pf (sg S) k 4)).trans (gF_self (sg S) k 4)
        rw [eg2] at hb2
        rw [e25]
        exact ⟨RB_stop hb2, hb2.2.2.2.2⟩
      have rbH : ∀ (mm mm2 : Mm) (g2 : Vc), RB m1 mm S g2 → frH mm mm2 → RB m1 mm2 S g2 := fun mm mm2 g2 hb f => by
        obtain ⟨b1, b2, b3, b4, b5⟩ := hb
        exact ⟨fun q hq => by rw [f 427 q (by omega)]; exact b1 q hq, ⟨fun q hq => by rw [f 428 q (by omega)]; exact b2.1 q hq, (funext fun j => f 438 j (by omega)).trans b2.2.1, by rw [f 426 14 (by omega)]; exact b2.2.2⟩, by rw [f 426 2 (by omega)]; exact b3, Rr_congr b4 (f 426 4 (by omega)) (f 426 12 (by omega)) (f 426 13 (by omega)) (fun b hb => funext fun j => f b j (by unfold rcell at hb; omega)), fun b hb => by rw [low_H f b hb, b5 b hb]⟩
      refine rel_loop (wp := fun n i (s : (Int32 × Int64) × Mm) => wp_X12_bestDepth_l30 _ K (nI k) (pf (sg S) k 4) n s.1.1 s.1.2 i s.2) (R := fun _ s v => s.1 = v ∧ ∃ a, RB m1 s.2 S (gF (sg S) k 4 a)) (stD (sg S) k) (s0 := ((-9, 0), m2)) (l0 := (-9, 0)) (a := 1) (N := 101) (by omega) (by omega) ?_ ?_ ⟨rfl, ⟨pf (sg S) k 4, by rw [gF_self]; exact hB⟩⟩
      · rintro n i ⟨⟨b, l⟩, ms⟩ h1 h2 ⟨i1, ⟨a, i2⟩⟩
        have ei : i = 101 := by omega
        subst ei
        show wb_X12_bestDepth_l30 _ _ _ _ _ _ _ _ _
        unfold wb_X12_bestDepth_l30
        rw [if_pos (show (100 : Int32) < nI 101 from ilt (a := 100) (by omega) (by omega))]
        have e1 : b = (ifo (stD (sg S) k) (-9, 0) 1 (101 - 1)).1 := congrArg Prod.fst i1
        refine put_ok (j := 4) rfl (by omega) (by omega) ?_
        obtain ⟨r1, r2⟩ := hfin ms _ a i2 rfl _ rfl
        show K b _
        rw [e1]
        exact k1 _ r1 r2
      · rintro n i ⟨⟨b, l⟩, ms⟩ v h1 h2 ⟨i1, ⟨a, i2⟩⟩ k2
        show wb_X12_bestDepth_l30 _ _ _ _ _ _ _ _ _
        unfold wb_X12_bestDepth_l30
        have i1' : (b, l) = v := i1
        subst i1'
        rw [if_neg (show ¬ (100 : Int32) < nI i from inlt (a := 100) (by omega) (by omega))]
        refine put_ok (j := 4) rfl (by omega) (by omega) ?_
        have hr6 := rng_dep hD.r h0 hk h1 (show i ≤ 100 by omega)
        have B6 : RB m1 (wI ms 427 (11 + 11 * k + 4) (nI i)) S (gF (sg S) k 4 (nI i)) := by
          have := RB_put (k := 11 + 11 * k + 4) (x := nI i) i2
          rw [show vset (gF (sg S) k 4 a) (11 + 11 * k + 4) (nI i) = gF (sg S) k 4 (nI i) from gF_twice (sg S) k 4 a (nI i)] at this
          exact this
        refine rvalid_ok (RB_st B6) hr6 (fun y8 m7 hy8 _ f7 => ?_)
        have B7 : RB m1 m7 S (gF (sg S) k 4 (nI i)) := RB_fr B6 f7
        rcases hy8 with ⟨u1, u2⟩ | ⟨u1, u2⟩
        · rw [if_neg (by rw [u1]; decide)]
          refine rcost_ok ⟨hr6, u2⟩ (Ll_gF hl (by omega) (by omega)) (RB_st B7) (fun m10 f10 => ?_)
          rintro y15 h15 y19 h19 y20 h20
          refine k2 ((y19, y20), m10) ⟨?_, ⟨nI i, rbH _ _ _ B7 f10⟩⟩
          show (y19, y20) = stD (sg S) k i (b, l)
          rw [stD_y u2, h19, h20, h15]
          unfold bDp lDp
          show (_, _) = (_, _)
          by_cases q9 : b = -9
          · simp only [if_pos q9]
          · simp only [if_neg q9]
            by_cases q8 : lg_cmp (cost (gF (sg S) k 4 (nI i))) l < 0
            · simp only [if_pos q8]
            · simp only [if_neg q8]
              by_cases q7 : lg_cmp (cost (gF (sg S) k 4 (nI i))) l = 0
              · simp only [if_pos q7, ← ab_amount]
                by_cases q : ab32 (b - pf (sg S) k 4) ≤ ab32 (nI i - pf (sg S) k 4)
                · simp only [if_pos q]; simp
                · simp only [if_neg q]; simp
              · simp only [if_neg q7]; simp
        · rw [if_pos u1]
          exact k2 ((b, l), m7) ⟨by show (b, l) = stD (sg S) k i (b, l); rw [stD_n u2], ⟨nI i, B7⟩⟩
  · refine combine (c := wp_X11_bestDepth x m) (d := wp_X12_bestDepth x) (r := -1) (S2 := S) h (fun K k1 => ?_) (fun m1 K hR k1 => ?_) hI kk
    · unfold wp_X11_bestDepth
      rw [if_pos ((hangs_0 h4 hp).mpr cx)]; exact k1 _ hC (fun _ _ => rfl)
    · unfold wp_X12_bestDepth
      rw [if_pos ((isHung_0 hR.st hD.g2 hp).mpr cx)]; exact k1 _ hR (fun _ _ => rfl)
