/-! pitch: class and reference -/
theorem least_pitch {g : Vc} (hD : Dd g) (h0 : 0 < pn g) {ax : Nat} {tn : Bool} {gap : Int} (hg : gap ≤ 50) : ∃ r, 1 ≤ r ∧ r ≤ 350 ∧ frD1 g ax tn gap r ∧ ∀ d, 1 ≤ d → d < r → ¬ frD1 g ax tn gap d := by
  have h350 : frD1 g ax tn gap 350 := fun q h1 _ => nrA_far hD h0 hg (by omega)
  have hd : DecidablePred (fun i => frD1 g ax tn gap (1 + i)) := fun _ => Classical.propDecidable _
  obtain ⟨i, h1, h2, h3⟩ := fb_first (p := fun i => frD1 g ax tn gap (1 + i)) (n := 350) ⟨349, by omega, h350⟩
  exact ⟨1 + i, by omega, by omega, h2, fun d d1 d2 => by have := h3 (d - 1) (by omega); rw [show 1 + (d - 1) = d by omega] at this; exact this⟩
def frM (m m2 : Mm) : Prop := ∀ b, b ≠ 263 → m2.1 b = m.1 b
theorem take_ok {m : Mm} {a b : Int32} {K : Mm → Prop} (ha : inR a (-1000) 1000) (hb : inR b (-1000) 1000) (kk : ∀ m2, (∀ sh : Nat, sh ≤ 350 → m2.1 263 sh = if a.toInt ≤ sh ∧ (sh : Int) ≤ b.toInt then 1 else m.1 263 sh) → frM m m2 → K m2) : wp_X1_take a b m K := by
  obtain ⟨a1, a2⟩ := ha
  obtain ⟨b1, b2⟩ := hb
  have e0 : (0 : Int32).toInt = 0 := rfl
  have em := mx_t 0 a
  obtain ⟨s, es, es2, -⟩ := asN (x := mx32 0 a) (by split at em <;> omega)
  have hs : (s : Int) = if 0 ≤ a.toInt then a.toInt else 0 := by rw [es2, em, e0]
  unfold wp_X1_take
  rw [es]
  rintro y1 rfl
  have bI : ∀ i : Nat, i < 2000 → (nI i).toInt = i := fun i hi => nI_toInt (by omega)
  refine loop_a (wp := fun n i t => wp_X1_take_l6 K b n i t) (I := fun i t => (∀ sh : Nat, sh ≤ 350 → t.1 263 sh = if a.toInt ≤ sh ∧ (sh : Int) ≤ b.toInt ∧ sh < i then 1 else m.1 263 sh) ∧ frM m t) (a := s) (N := 1500) (by split at hs <;> omega) (by omega) ?_ ?_ ⟨fun sh h => by rw [if_neg (by split at hs <;> omega)], fun _ _ => rfl⟩
  · rintro n i t h1 h2 ⟨i1, i2⟩
    have : i < 2000 := by split at hs <;> omega
    show wb_X1_take_l6 _ _ _ _ _
    unfold wb_X1_take_l6
    rw [if_pos (by rw [fa_lt, bI i this]; omega)]
    refine kk t (fun sh h => ?_) i2
    rw [i1 sh h]
    by_cases z : a.toInt ≤ sh ∧ (sh : Int) ≤ b.toInt
    · rw [if_pos ⟨z.1, z.2, by omega⟩, if_pos z]
    · rw [if_neg (fun q => z ⟨q.1, q.2.1⟩), if_neg z]
  · rintro n i t h1 h2 ⟨i1, i2⟩ k2
    show wb_X1_take_l6 _ _ _ _ _
    unfold wb_X1_take_l6
    by_cases z : b < nI i
    · rw [if_pos z]
      rw [fa_lt, bI i (by omega)] at z
      refine kk t (fun sh h => ?_) i2
      rw [i1 sh h]
      by_cases w : a.toInt ≤ sh ∧ (sh : Int) ≤ b.toInt
      · rw [if_pos ⟨w.1, w.2, by omega⟩, if_pos w]
      · rw [if_neg (fun q => w ⟨q.1, q.2.1⟩), if_neg w]
    · rw [if_neg z]
      rw [fa_lt, bI i (by omega)] at z
      by_cases z2 : 350 < i
      · rw [if_pos (show (350 : Int32) < nI i from ilt (a := 350) z2 (by omega))]
        refine kk t (fun sh h => ?_) i2
        rw [i1 sh h]
        by_cases w : a.toInt ≤ sh ∧ (sh : Int) ≤ b.toInt
        · rw [if_pos ⟨w.1, w.2, by omega⟩, if_pos w]
        · rw [if_neg (fun q => w ⟨q.1, q.2.1⟩), if_neg w]
      · rw [if_neg (show ¬ (350 : Int32) < nI i from inlt (a := 350) (by omega) (by omega)), clamp_nI (by omega)]
        refine ⟨vp_in_nI (by omega) (by omega), ?_⟩
        intro m5 h5
        refine k2 m5 ⟨fun sh h => ?_, fun b hb => by rw [h5]; funext j; rw [wI_ne _ _ _ _ hb, i2 b hb]⟩
        rw [h5, wI_get, if_pos rfl, i1 sh h]
        have hsa : a.toInt ≤ s := by split at hs <;> omega
        by_cases w : sh = i
        · rw [if_pos w, if_pos (by omega)]
        · rw [if_neg w]
          by_cases w2 : a.toInt ≤ sh ∧ (sh : Int) ≤ b.toInt ∧ sh < i
          · rw [if_pos w2, if_pos (by omega)]
          · rw [if_neg w2, if_neg (by omega)]
theorem cpitch_ok {m : Mm} {g : Vc} {ax r : Nat} {tn : Bool} {gap x4 : Int32} {K : Int32 → Mm → Prop} (hD : Dd g) (h0 : 0 < pn g) (hd : desR m.1 1 g) (hax : ax < 2) (hg : inR gap 0 50) (ht : x4 = 0 ↔ tn = false) (r1 : 1 ≤ r) (r2 : r ≤ 350) (r3 : frD1 g ax tn gap.toInt r) (r4 : ∀ d, 1 ≤ d → d < r → ¬ frD1 g ax tn gap.toInt d) (kk : ∀ m2, frM m m2 → K (nI r) m2) : wp_X1_leastPitch 1 (nI ax) gap x4 m K := by
  have hp1 := hD.ple
  have dF : ∀ m2, frM m m2 → desR m2.1 1 g := fun m2 f => desR_congr hp1 hd (fun b b1 b2 => f b (by omega))
  have h4 : ∀ m2, frM m m2 → m2.1 1 4 = nI (pn g) := fun m2 f => by rw [(dF m2 f).2.2.1]; exact hD.g2
  have e1x : (1 : Int32) - nI ax = nI (1 - ax) := nI_sub (a := 1) (by omega)
  have ei : ∀ {α : Type} (u v : α), (if x4 = 0 then u else v) = if tn then v else u := fun u v => by
    cases tn
    · rw [if_pos (ht.mpr rfl)]; rfl
    · rw [if_neg (fun z => by have := ht.mp z; cases this)]; rfl
  obtain ⟨gp1, gp2⟩ := hg
  unfold wp_X1_leastPitch
  refine loop_i (W := fun n i t => wp_X1_leastPitch_l3 _ K 1 (nI ax) gap x4 n (nI i) t) (I := fun i t => (∀ sh, sh < i → t.1 263 sh = 0) ∧ frM m t) 351 ?_ ?_ FU 0 m (by omega) (FU_gt (by omega)) ⟨fun sh h => by omega, fun _ _ => rfl⟩
  · rintro n m4 ⟨c4, f4⟩
    show wb_X1_leastPitch_l3 _ _ _ _ _ _ _ _ _
    unfold wb_X1_leastPitch_l3
    rw [if_pos (show (350 : Int32) < nI 351 from ilt (a := 350) (by omega) (by omega))]
    have d4 := dF m4 f4
    show wp_X1_smallest _ _ _ _
    refine csmall_ok hD h0 d4 hax ?_
    refine cgreat_ok hD h0 d4 hax ?_
    rintro y9 rfl
    rw [e1x]
    refine csmall_ok hD h0 d4 (by omega) ?_
    refine cgreat_ok hD h0 d4 (by omega) ?_
    rintro y14 rfl
    have tf : ∀ {i j sh : Nat} {q : Prop} {v : Int32}, flag v q → flag v q := fun h => h
    refine loop_i (W := fun n i t => wp_X1_leastPitch_l58 _ K 1 (nI ax) gap x4 (smF g ax + grF g ax) (smF g (1 - ax) + grF g (1 - ax)) n (nI i) t) (I := fun i t => (∀ sh : Nat, sh ≤ 350 → flag (t.1 263 sh) (∃ i' j, i' < i ∧ i' < pn g ∧ j < pn g ∧ nr1 g tn (1 - ax) i' j gap.toInt 0 ∧ nr1 g tn ax i' j gap.toInt sh)) ∧ frM m t) (pn g) ?_ ?_ FU 0 m4 (by omega) (FU_gt (by omega)) ⟨fun sh h => Or.inr ⟨c4 sh (by omega), by rintro ⟨i', j, h, -⟩; omega⟩, f4⟩
    · rintro n m5 ⟨c5, f5⟩
      show wb_X1_leastPitch_l58 _ _ _ _ _ _ _ _ _ _ _
      unfold wb_X1_leastPitch_l58
      rw [h4 m5 f5, if_pos (ile (Nat.le_refl _) (by omega))]
      have c6 : ∀ sh : Nat, sh ≤ 350 → flag (m5.1 263 sh) (nrA g ax tn gap.toInt sh) := fun sh h => flag_iff (c5 sh h) ⟨by rintro ⟨i, j, a, b, c, d⟩; exact ⟨i, j, b, c, d⟩, by rintro ⟨i, j, b, c, d⟩; exact ⟨i, j, b, b, c, d⟩⟩
      refine loop_a (wp := fun n i (_ : Unit) => wp_X1_leastPitch_l276 K x4 n i m5) (I := fun i _ => ∀ d, 1 ≤ d → d < i → ¬ frD1 g ax tn gap.toInt d) (a := 1) (N := 350) (by omega) (by omega) ?_ ?_ (s0 := ()) (fun d h1 h2 => by omega)
      · rintro n2 i - i1 i2 i3
        have e : i = 350 := by omega
        subst e
        show wb_X1_leastPitch_l276 _ _ _ _ _
        unfold wb_X1_leastPitch_l276
        rw [if_pos (show (350 : Int32) ≤ nI 350 from ile (a := 350) (by omega) (by omega))]
        have er : r = 350 := by
          rcases Nat.lt_or_ge r 350 with z | z
          · exact absurd r3 (i3 r r1 z)
          · omega
        have := kk m5 f5
        rw [er] at this
        exact this
      · rintro n2 p - p1 p2 i3 k2
        show wb_X1_leastPitch_l276 _ _ _ _ _
        unfold wb_X1_leastPitch_l276
        rw [if_neg (show ¬ (350 : Int32) ≤ nI p from inle (a := 350) p2 (by omega)), ei]
        intro y34 h34
        have g34 : y34 = nI (if tn then p else 350) := by rw [h34]; cases tn <;> rfl
        subst g34
        have hend : ∀ v : Int32, flag v (frD1 g ax tn gap.toInt p) → (if v = 0 then wp_X1_leastPitch_l276 K x4 n2 (nI p + 1) m5 else K (nI p) m5) := fun v hv => by
          rcases hv with ⟨u1, u2⟩ | ⟨u1, u2⟩
          · rw [if_neg (by rw [u1]; decide)]
            have er : r = p := by
              rcases Nat.lt_trichotomy r p with z | z | z
              · exact absurd r3 (i3 r r1 z)
              · exact z
              · exact absurd u2 (r4 p p1 z)
            rw [← er]
            exact kk m5 f5
          · rw [if_pos u1]
            exact k2 () (fun d d1 d2 => by
              by_cases z : d = p
              · rw [z]; exact u2
              · exact i3 d d1 (by omega))
        unfold wp_X1_isFree
        refine fa_post (P := fun z => wp_X1_isFree_l2 _ (nI p) (nI (if tn then p else 350)) FU z m5) (y := nI (1 * p)) (by rw [Nat.one_mul]) ?_
        have hm : (if tn then p else 350) ≤ 350 := by split <;> omega
        refine (fun hh => hh FU 1 (FU_gt (by omega)) (by omega) (by omega) (fun q q1 q2 => by omega)) (?_ : ∀ fu q : Nat, 352 - q < fu → 1 ≤ q → q ≤ 352 → (∀ q' : Nat, 1 ≤ q' → q' < q → ¬ nrA g ax tn gap.toInt ((q' * p : Nat) : Int)) → wp_X1_isFree_l2 _ (nI p) (nI (if tn then p else 350)) fu (nI (q * p)) m5)
        intro fu
        induction fu with
        | zero => intro q h; omega
        | succ fu ih =>
          intro q hq1 hq2 hq3 hq4
          show wb_X1_isFree_l2 _ _ _ _ _ _
          unfold wb_X1_isFree_l2
          have hqp : 1 * 1 ≤ q * p := Nat.mul_le_mul hq2 p1
          have hqb : q * p ≤ 352 * 350 := Nat.mul_le_mul hq3 (by omega)
          have hqq : q * 1 ≤ q * p := Nat.mul_le_mul (Nat.le_refl _) p1
          have hsucc : (q + 1) * p = q * p + p := Nat.succ_mul q p
          rw [if_neg (show ¬ nI (q * p) ≤ (0 : Int32) from inle (i := 0) (by omega) (by omega))]
          by_cases z : (if tn then p else 350) < q * p
          · rw [if_pos (ilt z (by omega))]
            refine hend 1 (Or.inl ⟨rfl, fun q' a b => ?_⟩)
            refine hq4 q' a ?_
            cases tn
            · simp only [Bool.false_eq_true, if_false] at b z
              rcases Nat.lt_or_ge q' q with w | w
              · exact w
              · have := Nat.mul_le_mul w (Nat.le_refl p); omega
            · simp only [if_true] at b z
              rcases Nat.lt_or_ge q' q with w | w
              · exact w
              · have : q = 1 := by omega
                rw [this] at z; omega
          · rw [if_neg (inlt (by omega) (by omega)), if_neg (show ¬ (350 : Int32) < nI (q * p) from inlt (a := 350) (by omega) (by omega)), clamp_nI (by omega)]
            refine ⟨vp_in_nI (by omega) (by omega), ?_⟩
            rcases c6 (q * p) (by omega) with ⟨u1, u2⟩ | ⟨u1, u2⟩
            · rw [if_neg (by rw [u1]; decide)]
              refine hend 0 (Or.inr ⟨rfl, fun w => w q hq2 ?_ u2⟩)
              cases tn
              · simp only [Bool.false_eq_true, if_false] at z ⊢; omega
              · simp only [if_true] at z ⊢
                have : q * p ≤ 1 * p := by omega
                have := Nat.le_of_mul_le_mul_right this (by omega)
                omega
            · rw [if_pos u1, nI_add, ← hsucc]
              rintro y6 rfl
              refine ih (q + 1) (by omega) (by omega) (by omega) (fun q' a b => ?_)
              by_cases w : q' = q
              · rw [w]; exact u2
              · exact hq4 q' a (by omega)
    · rintro n i m5 hi ⟨c5, f5⟩ k2
      show wb_X1_leastPitch_l58 _ _ _ _ _ _ _ _ _ _ _
      unfold wb_X1_leastPitch_l58
      rw [h4 m5 f5, if_neg (inle hi (by omega))]
      refine loop_i (W := fun n2 j t => wp_X1_leastPitch_l70 (fun a b => wp_X1_leastPitch_l58 _ K 1 (nI ax) gap x4 (smF g ax + grF g ax) (smF g (1 - ax) + grF g (1 - ax)) n a b) K 1 (nI ax) gap x4 (smF g ax + grF g ax) (smF g (1 - ax) + grF g (1 - ax)) (nI i) n2 (nI j) t) (I := fun j t => (∀ sh : Nat, sh ≤ 350 → flag (t.1 263 sh) ((∃ i' j', i' < i ∧ i' < pn g ∧ j' < pn g ∧ nr1 g tn (1 - ax) i' j' gap.toInt 0 ∧ nr1 g tn ax i' j' gap.toInt sh) ∨ ∃ j', j' < j ∧ nr1 g tn (1 - ax) i j' gap.toInt 0 ∧ nr1 g tn ax i j' gap.toInt sh)) ∧ frM m t) (pn g) ?_ ?_ FU 0 m5 (by omega) (FU_gt (by omega)) ⟨fun sh h => flag_iff (c5 sh h) ⟨fun w => Or.inl w, fun w => by rcases w with w | ⟨j', w, -⟩; exact w; omega⟩, f5⟩
      · rintro n2 m6 ⟨c6, f6⟩
        show wb_X1_leastPitch_l70 _ _ _ _ _ _ _ _ _ _ _ _
        unfold wb_X1_leastPitch_l70
        rw [h4 m6 f6, if_pos (ile (Nat.le_refl _) (by omega)), nI_1]
        refine k2 m6 ⟨fun sh h => flag_iff (c6 sh h) ⟨?_, ?_⟩, f6⟩
        · rintro (⟨i', j', a, b⟩ | ⟨j', a, b⟩)
          · exact ⟨i', j', by omega, b⟩
          · exact ⟨i, j', by omega, hi, a, b⟩
        · rintro ⟨i', j', a, b, c, w⟩
          by_cases z : i' = i
          · subst z; exact Or.inr ⟨j', c, w⟩
          · exact Or.inl ⟨i', j', by omega, b, c, w⟩
      · rintro n2 j m6 hj ⟨c6, f6⟩ k3
        show wb_X1_leastPitch_l70 _ _ _ _ _ _ _ _ _ _ _ _
        unfold wb_X1_leastPitch_l70
        have d6 := dF m6 f6
        rw [h4 m6 f6, if_neg (inle hj (by omega)), panelAt_in (by omega), panelAt_in (by omega), e1x, (low_c d6 hj hax).1, (low_c d6 hj hax).2, (low_c d6 hj (show 1 - ax < 2 by omega)).1, (low_c d6 hj (show 1 - ax < 2 by omega)).2, (low_c d6 hi hax).1, (low_c d6 hi hax).2, (low_c d6 hi (show 1 - ax < 2 by omega)).1, (low_c d6 hi (show 1 - ax < 2 by omega)).2, nI_1]
        rw [ei, ei, ei, ei]
        intro y18 h18 y20 h20 y22 h22 y24 h24
        have g18 : y18 = cLo g tn ax j := h18
        have g20 : y20 = cHi g tn ax j := h20
        have g22 : y22 = cLo g tn (1 - ax) j := h22
        have g24 : y24 = cHi g tn (1 - ax) j := h24
        clear h18 h20 h22 h24
        subst g18 g20 g22 g24
        obtain ⟨a1, a2, a3, -⟩ := lo_rng hD hi ax
        obtain ⟨b1, b2, b3, -⟩ := cLo_b (e := ax) hD h0 tn hj
        obtain ⟨a4, a5, a6, -⟩ := lo_rng hD hi (1 - ax)
        obtain ⟨b4, b5, b6, -⟩ := cLo_b (e := 1 - ax) hD h0 tn hj
        simp only [loI, hiI] at a1 a2 a3 a4 a5 a6
        have hcom := com_n (a := lo2 g (1 - ax) i) (b := hi2 g (1 - ax) i) (c := cLo g tn (1 - ax) j) (d := cHi g tn (1 - ax) j) (gap := gap) ⟨by omega, by omega⟩ ⟨by omega, by omega⟩ ⟨by omega, by omega⟩ ⟨by omega, by omega⟩ a5 b5 ⟨gp1, gp2⟩
        have hn0 : nr1 g tn (1 - ax) i j gap.toInt 0 ↔ ((lo2 g (1 - ax) i).toInt - ((cHi g tn (1 - ax) j).toInt + 0) < gap.toInt ∧ ((cLo g tn (1 - ax) j).toInt + 0) - (hi2 g (1 - ax) i).toInt < gap.toInt) := Iff.rfl
        by_cases z : gap ≤ -(v_X11_common (lo2 g (1 - ax) i) (hi2 g (1 - ax) i) (cLo g tn (1 - ax) j) (cHi g tn (1 - ax) j))
        · rw [if_pos z]
          have nz : ¬ nr1 g tn (1 - ax) i j gap.toInt 0 := fun q => hcom.mp z (hn0.mp q)
          refine k3 m6 ⟨fun sh h => flag_iff (c6 sh h) ⟨?_, ?_⟩, f6⟩
          · rintro (w | ⟨j', a, b⟩)
            · exact Or.inl w
            · exact Or.inr ⟨j', by omega, b⟩
          · rintro (w | ⟨j', a, b⟩)
            · exact Or.inl w
            · by_cases q : j' = j
              · subst q; exact absurd b.1 nz
              · exact Or.inr ⟨j', by omega, b⟩
        · rw [if_neg z]
          have nz : nr1 g tn (1 - ax) i j gap.toInt 0 := hn0.mpr (Decidable.byContradiction fun q => z (hcom.mpr q))
          have x1 : (lo2 g ax i - cHi g tn ax j).toInt = (lo2 g ax i).toInt - (cHi g tn ax j).toInt := fb_subI (by omega) (by omega)
          have x2 : (lo2 g ax i - cHi g tn ax j - gap).toInt = (lo2 g ax i - cHi g tn ax j).toInt - gap.toInt := fb_subI (by omega) (by omega)
          have one : (1 : Int32).toInt = 1 := rfl
          have x3 : (lo2 g ax i - cHi g tn ax j - gap + 1).toInt = (lo2 g ax i - cHi g tn ax j - gap).toInt + 1 := by rw [fb_addI (by omega) (by omega), one]
          have y1 : (hi2 g ax i - cLo g tn ax j).toInt = (hi2 g ax i).toInt - (cLo g tn ax j).toInt := fb_subI (by omega) (by omega)
          have y2 : (hi2 g ax i - cLo g tn ax j + gap).toInt = (hi2 g ax i - cLo g tn ax j).toInt + gap.toInt := fb_addI (by omega) (by omega)
          have y3 : (hi2 g ax i - cLo g tn ax j + gap - 1).toInt = (hi2 g ax i - cLo g tn ax j + gap).toInt - 1 := by rw [fb_subI (by omega) (by omega), one]
          refine take_ok ⟨by omega, by omega⟩ ⟨by omega, by omega⟩ (fun m7 t7 f7 => ?_)
          refine k3 m7 ⟨fun sh h => ?_, fun b hb => by rw [f7 b hb, f6 b hb]⟩
          have hn1 : nr1 g tn ax i j gap.toInt sh ↔ ((lo2 g ax i - cHi g tn ax j - gap + 1).toInt ≤ (sh : Int) ∧ (sh : Int) ≤ (hi2 g ax i - cLo g tn ax j + gap - 1).toInt) := by
            unfold nr1 loI hiI
            omega
          rw [t7 sh h]
          by_cases w : (lo2 g ax i - cHi g tn ax j - gap + 1).toInt ≤ (sh : Int) ∧ (sh : Int) ≤ (hi2 g ax i - cLo g tn ax j + gap - 1).toInt
          · rw [if_pos w]; exact Or.inl ⟨rfl, Or.inr ⟨j, by omega, nz, hn1.mpr w⟩⟩
          · rw [if_neg w]
            refine flag_iff (c6 sh h) ⟨?_, ?_⟩
            · rintro (u | ⟨j', a, b⟩)
              · exact Or.inl u
              · exact Or.inr ⟨j', by omega, b⟩
            · rintro (u | ⟨j', a, b, c⟩)
              · exact Or.inl u
              · by_cases q : j' = j
                · subst q; exact absurd (hn1.mp c) w
                · exact Or.inr ⟨j', by omega, b, c⟩
  · rintro n i t hi ⟨i1, i2⟩ k2
    show wb_X1_leastPitch_l3 _ _ _ _ _ _ _ _ _
    unfold wb_X1_leastPitch_l3
    rw [if_neg (show ¬ (350 : Int32) < nI i from inlt (a := 350) (by omega) (by omega)), clamp_nI (by omega), nI_1]
    refine ⟨vp_in_nI (by omega) (by omega), ?_⟩
    intro m3 h3
    refine k2 m3 ⟨fun sh h => ?_, fun b hb => by rw [h3]; funext j; rw [wI_ne _ _ _ _ hb, i2 b hb]⟩
    rw [h3, wI_get, if_pos rfl]
    by_cases w : sh = i
    · rw [if_pos w]
    · rw [if_neg w]; exact i1 sh (by omega)
