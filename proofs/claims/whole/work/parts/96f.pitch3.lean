/-! pitch: the reference -/
theorem near_r {m : Mm} {g : Vc} {i j ax : Nat} {tn : Bool} {gap : Int32} {by' : Nat} (hD : Dd g) (h0 : 0 < pn g) (hf : flatR m g (pn g)) (hi : i < pn g) (hj : j < pn g) (hax : ax < 2) (hg : inR gap 0 50) (hb : by' ≤ 1000) : flag (v_X12_isNear (nI i) (nI j) (if nI ax = (0 : Int32) then cLo g tn 0 j + nI by' else cLo g tn 0 j) (if nI ax = (1 : Int32) then cLo g tn 1 j + nI by' else cLo g tn 1 j) gap m) (nr1 g tn (1 - ax) i j gap.toInt 0 ∧ nr1 g tn ax i j gap.toInt by') := by
  have hp1 := hD.ple
  obtain ⟨f1, f2, f3, f4⟩ := hf i hi
  obtain ⟨e1, e2, e3, e4⟩ := hf j hj
  obtain ⟨x1, x2, x3, -⟩ := lo_rng hD hi 0
  obtain ⟨y1, y2, y3, -⟩ := lo_rng hD hi 1
  obtain ⟨u1, u2, u3, u4⟩ := cLo_b (e := 0) hD h0 tn hj
  obtain ⟨v1, v2, v3, v4⟩ := cLo_b (e := 1) hD h0 tn hj
  obtain ⟨-, -, ⟨b5, b6⟩, b7, b8⟩ := rect_b hD.r hj
  obtain ⟨-, -, -, hh0⟩ := lo_rng hD hj 0
  obtain ⟨-, -, -, hh1⟩ := lo_rng hD hj 1
  have w0 : hiI g 0 j - loI g 0 j = (rect g j).2.2.1.toInt := by unfold hiI loI; rw [hh0, if_pos rfl]; show _ - (rect g j).1.toInt = _; omega
  have w1 : hiI g 1 j - loI g 1 j = (rect g j).2.2.2.toInt := by unfold hiI loI; rw [hh1, if_neg (by decide)]; show _ - (rect g j).2.1.toInt = _; omega
  have bI : (nI by').toInt = by' := nI_toInt (by omega)
  have eX : (rect g i).1 = lo2 g 0 i := rfl
  have eXW : (rect g i).1 + (rect g i).2.2.1 = hi2 g 0 i := rfl
  have eY : (rect g i).2.1 = lo2 g 1 i := rfl
  have eYH : (rect g i).2.1 + (rect g i).2.2.2 = hi2 g 1 i := rfl
  simp only [loI, hiI] at x1 x2 x3 y1 y2 y3
  unfold v_X12_isNear
  rw [clamp_nI (by omega), clamp_nI (by omega), f1, f2, f3, f4, e3, e4, eXW, eYH, eX, eY, show (0 : Int32) = nI 0 from rfl, show (1 : Int32) = nI 1 from rfl, if_nI (by omega) (by omega), if_nI (by omega) (by omega)]
  have key : ∀ (X Y : Int32) (sx sy : Int), X.toInt = (cLo g tn 0 j).toInt + sx → Y.toInt = (cLo g tn 1 j).toInt + sy → 0 ≤ sx → sx ≤ 1000 → 0 ≤ sy → sy ≤ 1000 → flag (if gap ≤ v_X12_apart (lo2 g 0 i) (hi2 g 0 i) X (X + (rect g j).2.2.1) then nI 0 else if gap ≤ v_X12_apart (lo2 g 1 i) (hi2 g 1 i) Y (Y + (rect g j).2.2.2) then nI 0 else nI 1) (nr1 g tn 0 i j gap.toInt sx ∧ nr1 g tn 1 i j gap.toInt sy) := by
    intro X Y sx sy hX hY p1 p2 p3 p4
    have eX2 : (X + (rect g j).2.2.1).toInt = X.toInt + (rect g j).2.2.1.toInt := fb_addI (by omega) (by omega)
    have eY2 : (Y + (rect g j).2.2.2).toInt = Y.toInt + (rect g j).2.2.2.toInt := fb_addI (by omega) (by omega)
    have a1 := apart_n (a := lo2 g 0 i) (b := hi2 g 0 i) (c := X) (d := X + (rect g j).2.2.1) (gap := gap) ⟨by omega, by omega⟩ ⟨by omega, by omega⟩ ⟨by omega, by omega⟩ ⟨by omega, by omega⟩ x2 (by omega) hg
    have a2 := apart_n (a := lo2 g 1 i) (b := hi2 g 1 i) (c := Y) (d := Y + (rect g j).2.2.2) (gap := gap) ⟨by omega, by omega⟩ ⟨by omega, by omega⟩ ⟨by omega, by omega⟩ ⟨by omega, by omega⟩ y2 (by omega) hg
    have n1 : nr1 g tn 0 i j gap.toInt sx ↔ ((lo2 g 0 i).toInt - (X + (rect g j).2.2.1).toInt < gap.toInt ∧ X.toInt - (hi2 g 0 i).toInt < gap.toInt) := by
      unfold nr1 loI hiI
      rw [eX2, hX]
      have : (cHi g tn 0 j).toInt = (cLo g tn 0 j).toInt + (rect g j).2.2.1.toInt := by omega
      omega
    have n2 : nr1 g tn 1 i j gap.toInt sy ↔ ((lo2 g 1 i).toInt - (Y + (rect g j).2.2.2).toInt < gap.toInt ∧ Y.toInt - (hi2 g 1 i).toInt < gap.toInt) := by
      unfold nr1 loI hiI
      rw [eY2, hY]
      have : (cHi g tn 1 j).toInt = (cLo g tn 1 j).toInt + (rect g j).2.2.2.toInt := by omega
      omega
    by_cases z1 : gap ≤ v_X12_apart (lo2 g 0 i) (hi2 g 0 i) X (X + (rect g j).2.2.1)
    · rw [if_pos z1]; exact Or.inr ⟨rfl, fun q => a1.mp z1 (n1.mp q.1)⟩
    · rw [if_neg z1]
      have h1 := n1.mpr (Decidable.byContradiction fun q => z1 (a1.mpr q))
      by_cases z2 : gap ≤ v_X12_apart (lo2 g 1 i) (hi2 g 1 i) Y (Y + (rect g j).2.2.2)
      · rw [if_pos z2]; exact Or.inr ⟨rfl, fun q => a2.mp z2 (n2.mp q.2)⟩
      · rw [if_neg z2]; exact Or.inl ⟨rfl, h1, n2.mpr (Decidable.byContradiction fun q => z2 (a2.mpr q))⟩
  have sX : (cLo g tn 0 j + nI by').toInt = (cLo g tn 0 j).toInt + by' := by rw [fb_addI (by omega) (by omega), bI]
  have sY : (cLo g tn 1 j + nI by').toInt = (cLo g tn 1 j).toInt + by' := by rw [fb_addI (by omega) (by omega), bI]
  have hax2 : ax = 0 ∨ ax = 1 := by omega
  rcases hax2 with z | z <;> subst z
  · rw [if_pos (show (0 : Nat) = 0 from rfl), if_neg (show ¬ (0 : Nat) = 1 by decide), show 1 - 0 = 1 from rfl]
    have kk := key (cLo g tn 0 j + nI by') (cLo g tn 1 j) by' 0 sX (by omega) (by omega) (by omega) (by omega) (by omega)
    exact flag_iff kk and_comm
  · rw [if_neg (show ¬ (1 : Nat) = 0 by decide), if_pos (show (1 : Nat) = 1 from rfl), show 1 - 1 = 0 from rfl]
    exact key (cLo g tn 0 j) (cLo g tn 1 j + nI by') 0 by' (by omega) sY (by omega) (by omega) (by omega) (by omega)
theorem rfree_ok {m : Mm} {g : Vc} {ax by' : Nat} {tn : Bool} {gap x3 : Int32} {K : Int32 → Mm → Prop} (hD : Dd g) (h0 : 0 < pn g) (hs : stR m g) (hf : flatR m g (pn g)) (hax : ax < 2) (hg : inR gap 0 50) (ht : x3 = 0 ↔ tn = false) (hb : by' ≤ 1000) (kk : ∀ r, flag r (¬ nrA g ax tn gap.toInt by') → K r m) : wp_X12_isFree (nI ax) gap x3 (nI by') m K := by
  have hp1 := hD.ple
  unfold wp_X12_isFree
  refine loop_i (W := fun n i (q : Int32) => wp_X12_isFree_l6 K (nI ax) gap x3 (nI by') n q (nI i) m) (I := fun i q => flag q (∀ i' j, i' < i → i' < pn g → j < pn g → ¬ (nr1 g tn (1 - ax) i' j gap.toInt 0 ∧ nr1 g tn ax i' j gap.toInt by'))) (pn g) ?_ ?_ FU 0 1 (by omega) (FU_gt (by omega)) (Or.inl ⟨rfl, fun i' j h => by omega⟩)
  · intro n q hq
    show wb_X12_isFree_l6 _ _ _ _ _ _ _ _ _
    unfold wb_X12_isFree_l6
    rw [many_ok hs hD.g2, if_pos (ile (Nat.le_refl _) (by omega))]
    refine ⟨flag_bo hq, kk q (flag_iff hq ⟨?_, ?_⟩)⟩
    · rintro h ⟨i, j, a, b, c⟩; exact h i j a a b c
    · intro h i j _ a b c; exact h ⟨i, j, a, b, c⟩
  · intro n i q hi hq k2
    show wb_X12_isFree_l6 _ _ _ _ _ _ _ _ _
    unfold wb_X12_isFree_l6
    rw [many_ok hs hD.g2, if_neg (inle hi (by omega))]
    refine loop_i (W := fun n2 j (q : Int32) => wp_X12_isFree_l18 (fun a b c => wp_X12_isFree_l6 K (nI ax) gap x3 (nI by') n a b c) K (nI ax) gap x3 (nI by') (nI i) n2 q (nI j) m) (I := fun j q => flag q ((∀ i' j', i' < i → i' < pn g → j' < pn g → ¬ (nr1 g tn (1 - ax) i' j' gap.toInt 0 ∧ nr1 g tn ax i' j' gap.toInt by')) ∧ ∀ j', j' < j → ¬ (nr1 g tn (1 - ax) i j' gap.toInt 0 ∧ nr1 g tn ax i j' gap.toInt by'))) (pn g) ?_ ?_ FU 0 q (by omega) (FU_gt (by omega)) (flag_iff hq ⟨fun w => ⟨w, fun j' h => by omega⟩, fun w => w.1⟩)
    · intro n2 q2 h2
      show wb_X12_isFree_l18 _ _ _ _ _ _ _ _ _ _ _
      unfold wb_X12_isFree_l18
      rw [many_ok hs hD.g2, if_pos (ile (Nat.le_refl _) (by omega)), nI_1]
      refine k2 q2 (flag_iff h2 ⟨?_, ?_⟩)
      · rintro ⟨a, b⟩ i' j h1 h3 h4
        by_cases z : i' = i
        · subst z; exact b j h4
        · exact a i' j (by omega) h3 h4
      · intro h
        exact ⟨fun i' j' a b c => h i' j' (by omega) b c, fun j' a => h i j' (by omega) hi a⟩
    · intro n2 j q2 hj h2 k3
      show wb_X12_isFree_l18 _ _ _ _ _ _ _ _ _ _ _
      unfold wb_X12_isFree_l18
      obtain ⟨e1, e2, e3, e4⟩ := hf j hj
      have vi : vp_in (nI j) 10 := vp_in_nI (by omega) (by omega)
      have hnr := near_r (tn := tn) (gap := gap) (by' := by') hD h0 hf hi hj hax hg hb
      have hend : wp_X12_isFree_j111 (fun a b c => wp_X12_isFree_l18 (fun a b c => wp_X12_isFree_l6 K (nI ax) gap x3 (nI by') n a b c) K (nI ax) gap x3 (nI by') (nI i) n2 a b c) K (nI ax) gap x3 (nI by') q2 (nI i) (nI j) (cLo g tn 0 j) (cLo g tn 1 j) m := by
        unfold wp_X12_isFree_j111
        refine ⟨fun _ => ⟨vp_in_nI (by omega) (by omega), vi⟩, ?_⟩
        rw [nI_1]
        rintro y14 rfl
        refine k3 _ ?_
        rcases h2 with ⟨a, b, c⟩ | ⟨a, b⟩
        · rw [if_neg (by rw [a]; decide)]
          rcases hnr with ⟨u1, u2⟩ | ⟨u1, u2⟩
          · rw [if_neg (by rw [u1]; decide)]; exact Or.inr ⟨rfl, fun w => w.2 j (by omega) u2⟩
          · rw [if_pos u1]
            refine Or.inl ⟨rfl, b, fun j' h => ?_⟩
            by_cases z : j' = j
            · rw [z]; exact u2
            · exact c j' (by omega)
        · rw [if_pos a]; exact Or.inr ⟨rfl, fun w => b ⟨w.1, fun j' h => w.2 j' (by omega)⟩⟩
      rw [many_ok hs hD.g2, if_neg (inle hj (by omega)), clamp_nI (by omega)]
      cases htn : tn
      · rw [htn] at hend
        rw [if_pos (ht.mpr htn)]
        refine ⟨vi, ?_⟩
        unfold wp_X12_isFree_j68
        rw [if_pos (ht.mpr htn), clamp_nI (by omega)]
        refine ⟨vi, ?_⟩
        rw [e1, e2]
        exact hend
      · rw [htn] at hend
        have nz : ¬ x3 = 0 := fun q => by rw [ht.mp q] at htn; cases htn
        rw [if_neg nz]
        refine rleast_ok (e := 0) hD h0 hs hf (by omega) ?_
        refine rgreat_ok (e := 0) hD h0 hs hf (by omega) ?_
        refine ⟨vi, ?_⟩
        unfold wp_X12_isFree_j68
        rw [if_neg nz]
        refine rleast_ok (e := 1) hD h0 hs hf (by omega) ?_
        refine rgreat_ok (e := 1) hD h0 hs hf (by omega) ?_
        refine ⟨vi, ?_⟩
        rw [clamp_nI (by omega), e1, e2, e3, e4]
        have c0 : smF g 0 + grF g 0 - (rect g j).1 - (rect g j).2.2.1 = cLo g true 0 j := by
          show _ = smF g 0 + grF g 0 - ((rect g j).1 + (rect g j).2.2.1)
          grind
        have c1 : smF g 1 + grF g 1 - (rect g j).2.1 - (rect g j).2.2.2 = cLo g true 1 j := by
          show _ = smF g 1 + grF g 1 - ((rect g j).2.1 + (rect g j).2.2.2)
          grind
        rw [c0, c1]
        exact hend
theorem rpitch_ok {m : Mm} {g : Vc} {ax r : Nat} {tn : Bool} {gap x3 : Int32} {K : Int32 → Mm → Prop} (hD : Dd g) (h0 : 0 < pn g) (hs : stR m g) (hax : ax < 2) (hg : inR gap 0 50) (ht : x3 = 0 ↔ tn = false) (r1 : 1 ≤ r) (r2 : r ≤ 350) (r3 : frD1 g ax tn gap.toInt r) (r4 : ∀ d, 1 ≤ d → d < r → ¬ frD1 g ax tn gap.toInt d) (kk : ∀ m2, flatR m2 g (pn g) → fr 432 436 m m2 → K (nI r) m2) : wp_X12_pitchOf (nI ax) gap x3 m K := by
  have hp1 := hD.ple
  unfold wp_X12_pitchOf
  refine layFlat_ok hs hD.r.par (fun m1 hf f1 => ?_)
  have s1 : stR m1 g := stR_fr hs f1 (by omega)
  have ei : ∀ {α : Type} (u v : α), (if x3 = 0 then u else v) = if tn then v else u := fun u v => by
    cases tn
    · rw [if_pos (ht.mpr rfl)]; rfl
    · rw [if_neg (fun z => by have := ht.mp z; cases this)]; rfl
  refine loop_i (W := fun n i (q : Int32) => wp_X12_pitchOf_l10 K (nI ax) gap x3 n (nI i) q m1) (I := fun i q => i ≤ r ∧ flag q (i = r)) r ?_ ?_ FU 0 0 (by omega) (FU_gt (by omega)) ⟨by omega, Or.inr ⟨rfl, by omega⟩⟩
  · rintro n q ⟨-, h2⟩
    show wb_X12_pitchOf_l10 _ _ _ _ _ _ _ _
    unfold wb_X12_pitchOf_l10
    rcases h2 with ⟨u1, u2⟩ | ⟨u1, u2⟩
    · rw [if_neg (by rw [u1]; decide)]; exact kk m1 hf f1
    · exact absurd rfl u2
  · rintro n i q hi ⟨-, h2⟩ k2
    show wb_X12_pitchOf_l10 _ _ _ _ _ _ _ _
    unfold wb_X12_pitchOf_l10
    rcases h2 with ⟨u1, u2⟩ | ⟨u1, u2⟩
    · omega
    rw [if_pos u1, nI_1]
    rintro y3 rfl
    have hd1 : 1 ≤ i + 1 := by omega
    have hlim : (if x3 = 0 then v_X12_most (nI (i + 1)) 400 else nI (i + 1)) = nI (if tn then i + 1 else 400) := by
      rw [ei]
      cases tn
      · show v_X12_most (nI (i + 1)) 400 = nI 400
        rw [← mx_most, fa_eq]
        have := mx_t (nI (i + 1)) 400
        have e4 : (400 : Int32).toInt = 400 := rfl
        rw [nI_toInt (by omega), e4] at this
        rw [nI_toInt (by omega)]
        split at this <;> omega
      · rfl
    have hfr : ∀ v : Int32, flag v (frD1 g ax tn gap.toInt (i + 1)) → wp_X12_pitchOf_l10 K (nI ax) gap x3 n (nI (i + 1)) v m1 := fun v hv => k2 v ⟨by omega, flag_iff hv ⟨fun w => by
      rcases Nat.lt_or_ge (i + 1) r with z | z
      · exact absurd w (r4 (i + 1) hd1 z)
      · omega, fun w => by rw [w]; exact r3⟩⟩
    refine fa_post (P := fun z => wp_X12_pitchOf_l25 _ K (nI ax) gap x3 (nI (i + 1)) FU 1 z m1) (y := nI (1 * (i + 1))) (by rw [Nat.one_mul]) ?_
    refine (fun hh => hh FU 1 1 (FU_gt (by omega)) (by omega) (by omega) (Or.inl ⟨rfl, fun q q1 q2 => by omega⟩) (fun q q1 q2 => by omega)) (?_ : ∀ (fu q : Nat) (v : Int32), 402 - q < fu → 1 ≤ q → q ≤ 402 → flag v (∀ q' : Nat, 1 ≤ q' → q' < q → ¬ nrA g ax tn gap.toInt ((q' * (i + 1) : Nat) : Int)) → (∀ q' : Nat, 1 ≤ q' → q' < q → q' * (i + 1) ≤ (if tn then i + 1 else 400)) → wp_X12_pitchOf_l25 _ K (nI ax) gap x3 (nI (i + 1)) fu v (nI (q * (i + 1))) m1)
    intro fu
    induction fu with
    | zero => intro q v h; omega
    | succ fu ih =>
      intro q v hq1 hq2 hq3 hv hq4
      show wb_X12_pitchOf_l25 _ _ _ _ _ _ _ _ _ _
      unfold wb_X12_pitchOf_l25
      have hqb : q * (i + 1) ≤ 402 * 350 := Nat.mul_le_mul hq3 (by omega)
      have hqq : q * 1 ≤ q * (i + 1) := Nat.mul_le_mul (Nat.le_refl _) hd1
      have hsucc : (q + 1) * (i + 1) = q * (i + 1) + (i + 1) := Nat.succ_mul q (i + 1)
      have hm : (if tn then i + 1 else 400) ≤ 400 := by split <;> omega
      rw [hlim]
      rintro y5 rfl
      have hstop : (∀ q' : Nat, 1 ≤ q' → q' * (i + 1) ≤ (if tn then i + 1 else 400) → q' < q) ∨ v = 0 → wp_X12_pitchOf_l10 K (nI ax) gap x3 n (nI (i + 1)) v m1 := fun hst => by
        refine hfr v ?_
        rcases hv with ⟨a, b⟩ | ⟨a, b⟩
        · rcases hst with hst | hst
          · refine Or.inl ⟨a, fun q' p1 p2 => b q' p1 (hst q' p1 ?_)⟩
            cases tn
            · simp only [Bool.false_eq_true, if_false] at p2 ⊢; omega
            · simp only [if_true] at p2 ⊢; rw [p2]; omega
          · rw [a] at hst; exact absurd hst (by decide)
        · refine Or.inr ⟨a, fun w => b (fun q' p1 p2 => ?_)⟩
          by_cases hn : nrA g ax tn gap.toInt ((q' * (i + 1) : Nat) : Int)
          · have hlt : q' * (i + 1) < 350 := by
              rcases Nat.lt_or_ge (q' * (i + 1)) 350 with z | z
              · exact z
              · exact absurd hn (nrA_far hD h0 hg.2 (by omega))
            refine w q' p1 ?_
            have := hq4 q' p1 p2
            cases tn
            · simp only [Bool.false_eq_true, if_false]; omega
            · simp only [if_true] at this ⊢
              have h3 : q' * (i + 1) ≤ 1 * (i + 1) := by omega
              have := Nat.le_of_mul_le_mul_right h3 (by omega)
              omega
          · exact hn
      by_cases z : (if tn then i + 1 else 400) < q * (i + 1)
      · rw [if_pos (ilt z (by omega))]
        refine hstop (Or.inl (fun q' p1 p2 => ?_))
        rcases Nat.lt_or_ge q' q with w | w
        · exact w
        · have := Nat.mul_le_mul w (Nat.le_refl (i + 1)); omega
      · rw [if_neg (inlt (by omega) (by omega))]
        by_cases z2 : v = 0
        · rw [if_pos z2]; exact hstop (Or.inr z2)
        · rw [if_neg z2, nI_add, ← hsucc]
          refine rfree_ok hD h0 s1 hf hax hg ht (by omega) (fun r' hr' => ?_)
          rintro y10 rfl
          have hall : ∀ q' : Nat, 1 ≤ q' → q' < q → ¬ nrA g ax tn gap.toInt ((q' * (i + 1) : Nat) : Int) := by
            rcases hv with ⟨a, b⟩ | ⟨a, b⟩
            · exact b
            · exact absurd a z2
          refine ih (q + 1) r' (by omega) (by omega) (by omega) (flag_iff hr' ⟨fun w q' p1 p2 => ?_, fun w => w q (by omega) (by omega)⟩) (fun q' p1 p2 => ?_)
          · by_cases e : q' = q
            · rw [e]; exact w
            · exact hall q' p1 (by omega)
          · by_cases e : q' = q
            · rw [e]; omega
            · exact hq4 q' p1 (by omega)
theorem pfault_c {m : Mm} {g : Vc} {x y : Int32} (hD : Dd g) (h4 : m.1 1 4 = nI (pn g)) : (¬ ((0 ≤ x.toInt ∧ x.toInt ≤ 1) ∧ (0 ≤ y.toInt ∧ y.toInt ≤ 50)) → v_X11_pitchFault x y m = -1) ∧ (((0 ≤ x.toInt ∧ x.toInt ≤ 1) ∧ (0 ≤ y.toInt ∧ y.toInt ≤ 50)) → v_X11_pitchFault x y m = if pn g = 0 then -2 else 0) := by
  have hp1 := hD.ple
  have a0 : (0 : Int32).toInt = 0 := rfl
  have a1 : (1 : Int32).toInt = 1 := rfl
  have a5 : (50 : Int32).toInt = 50 := rfl
  unfold v_X11_pitchFault
  rw [h4]
  constructor
  · intro h
    by_cases q1 : x < 0
    · rw [if_pos q1]
    rw [if_neg q1]
    by_cases q2 : 1 < x
    · rw [if_pos q2]
    rw [if_neg q2]
    by_cases q3 : y < 0
    · rw [if_pos q3]
    rw [if_neg q3]
    rw [fa_lt] at q1 q2 q3
    rw [if_neg (by rw [fa_le]; omega)]
  · rintro ⟨⟨h1, h2⟩, h3, h5⟩
    rw [if_neg (by rw [fa_lt]; omega), if_neg (by rw [fa_lt]; omega), if_neg (by rw [fa_lt]; omega), if_pos (by rw [fa_le]; omega)]
    by_cases z : pn g = 0
    · rw [if_pos z, z, if_pos (show nI 0 = (0 : Int32) from rfl)]
    · rw [if_neg z, if_neg (show ¬ nI (pn g) = (0 : Int32) from ine (i := 0) z (by omega) (by omega))]
theorem op_pitch {m : Mm} {S : AS} {x y z : Int32} {P : Int32 → Int32 → Mm → Prop} (h : Sim m S) (kk : ∀ r m2 S2, Sim m2 S2 → P r r m2) : wp_X11_pitch x y z m (fun r m1 => wp_X12_pitch x y z m1 (fun r2 m2 => P r r2 m2)) := by
  have hI := h.2.2
  have hC := h.2.1
  have hD := hI.1
  have hp := hD.ple
  have h4 := c_pc hC hI
  have a0 : (0 : Int32).toInt = 0 := rfl
  have a1 : (1 : Int32).toInt = 1 := rfl
  have a5 : (50 : Int32).toInt = 50 := rfl
  obtain ⟨p1, p2⟩ := pfault_c (x := x) (y := y) hD h4
  by_cases c : (0 ≤ x.toInt ∧ x.toInt ≤ 1) ∧ (0 ≤ y.toInt ∧ y.toInt ≤ 50)
  · by_cases c0 : pn (sg S) = 0
    · refine combine (c := wp_X11_pitch x y z m) (d := wp_X12_pitch x y z) (r := -2) (S2 := S) h (fun K k1 => ?_) (fun m1 K hR k1 => ?_) hI kk
      · unfold wp_X11_pitch
        rw [p2 c, if_pos c0]
        rintro y1 rfl
        rw [if_neg (by decide)]
        exact k1 _ hC (fun _ _ => rfl)
      · unfold wp_X12_pitch
        rw [if_neg (in_ne (by omega) (by omega)), if_neg (in_ne (by omega) (by omega)), many_ok hR.st hD.g2, c0, if_pos (show nI 0 = (0 : Int32) from rfl)]
        exact k1 _ hR (fun _ _ => rfl)
    · have h0 : 0 < pn (sg S) := by omega
      obtain ⟨ax, ex, ex2, -⟩ := asN c.1.1
      obtain ⟨tn, ht⟩ : ∃ b : Bool, z = 0 ↔ b = false := by
        by_cases w : z = 0
        · exact ⟨false, fun _ => rfl, fun _ => w⟩
        · exact ⟨true, fun q => absurd q w, fun q => by cases q⟩
      obtain ⟨r, r1, r2, r3, r4⟩ := least_pitch (ax := ax) (tn := tn) (gap := y.toInt) hD h0 c.2.2
      refine combine (c := wp_X11_pitch x y z m) (d := wp_X12_pitch x y z) (r := nI r) (S2 := S) h (fun K k1 => ?_) (fun m1 K hR k1 => ?_) hI kk
      · unfold wp_X11_pitch
        rw [p2 c, if_neg c0]
        rintro y1 rfl
        rw [if_pos rfl, ex]
        refine cpitch_ok hD h0 hC.1 (by omega) c.2 ht r1 r2 r3 r4 (fun m2 f => ?_)
        exact k1 _ (ClsR_congr hI hC (fun b hb => f b (by unfold ccell at hb; omega))) (fun b hb => f b (by omega))
      · unfold wp_X12_pitch
        rw [if_neg (in_ne (by omega) (by omega)), if_neg (in_ne (by omega) (by omega)), many_ok hR.st hD.g2, if_neg (show ¬ nI (pn (sg S)) = (0 : Int32) from ine (i := 0) c0 (by omega) (by omega)), ex]
        refine rpitch_ok hD h0 hR.st (by omega) c.2 ht r1 r2 r3 r4 (fun m2 _ f => ?_)
        exact k1 _ (RefR_fr hR f (f 436 (by omega))) (fun b hb => f b (by omega))
  · refine combine (c := wp_X11_pitch x y z m) (d := wp_X12_pitch x y z) (r := -1) (S2 := S) h (fun K k1 => ?_) (fun m1 K hR k1 => ?_) hI kk
    · unfold wp_X11_pitch
      rw [p1 c]
      rintro y1 rfl
      rw [if_neg (by decide)]
      exact k1 _ hC (fun _ _ => rfl)
    · have k2 := k1 _ hR (fun _ _ => rfl)
      unfold wp_X12_pitch
      by_cases q1 : 0 ≤ x.toInt ∧ x.toInt ≤ 1
      · rw [if_neg (in_ne (by omega) (by omega)), if_pos (in_0 (by omega))]; exact k2
      · rw [if_pos (in_0 (by omega))]; exact k2
theorem op_rowCount {m : Mm} {S : AS} {x y : Int32} {P : Int32 → Int32 → Mm → Prop} (h : Sim m S) (kk : ∀ r m2 S2, Sim m2 S2 → P r r m2) : wp_X11_rowCount x y m (fun r m1 => wp_X12_rowCount x y m1 (fun r2 m2 => P r r2 m2)) := by
  have hI := h.2.2
  have hC := h.2.1
  have hD := hI.1
  have hp := hD.ple
  have h4 := c_pc hC hI
  have a0 : (0 : Int32).toInt = 0 := rfl
  have a1 : (1 : Int32).toInt = 1 := rfl
  have a5 : (50 : Int32).toInt = 50 := rfl
  obtain ⟨p1, p2⟩ := pfault_c (x := x) (y := y) hD h4
  by_cases c : (0 ≤ x.toInt ∧ x.toInt ≤ 1) ∧ (0 ≤ y.toInt ∧ y.toInt ≤ 50)
  · by_cases c0 : pn (sg S) = 0
    · refine combine (c := wp_X11_rowCount x y m) (d := wp_X12_rowCount x y) (r := -2) (S2 := S) h (fun K k1 => ?_) (fun m1 K hR k1 => ?_) hI kk
      · unfold wp_X11_rowCount
        rw [p2 c, if_pos c0]
        rintro y1 rfl
        rw [if_neg (by decide)]
        exact k1 _ hC (fun _ _ => rfl)
      · unfold wp_X12_rowCount
        rw [if_neg (in_ne (by omega) (by omega)), if_neg (in_ne (by omega) (by omega)), many_ok hR.st hD.g2, c0, if_pos (show nI 0 = (0 : Int32) from rfl)]
        exact k1 _ hR (fun _ _ => rfl)
    · have h0 : 0 < pn (sg S) := by omega
      obtain ⟨ax, ex, ex2, -⟩ := asN c.1.1
      have ht : (0 : Int32) = 0 ↔ false = false := ⟨fun _ => rfl, fun _ => rfl⟩
      obtain ⟨r, r1, r2, r3, r4⟩ := least_pitch (ax := ax) (tn := false) (gap := y.toInt) hD h0 c.2.2
      refine combine (c := wp_X11_rowCount x y m) (d := wp_X12_rowCount x y) (r := 1 + ((if ax = 0 then sg S 0 else sg S 1) - (grF (sg S) ax - smF (sg S) ax)) / nI r) (S2 := S) h (fun K k1 => ?_) (fun m1 K hR k1 => ?_) hI kk
      · unfold wp_X11_rowCount
        rw [p2 c, if_neg c0]
        rintro y1 rfl
        rw [if_pos rfl, ex]
        unfold wp_X1_copiesInRow
        refine cpitch_ok hD h0 hC.1 (by omega) c.2 ht r1 r2 r3 r4 (fun m2 f => ?_)
        have C2 := ClsR_congr hI hC (m2 := m2) (fun b hb => f b (by unfold ccell at hb; omega))
        rw [C2.1.1, C2.1.2.1, show (0 : Int32) = nI 0 from rfl, if_nI (by omega) (by omega)]
        rintro y4 rfl
        refine cgreat_ok hD h0 C2.1 (by omega) ?_
        refine csmall_ok hD h0 C2.1 (by omega) ?_
        rintro y9 rfl y11 rfl
        rw [if_neg (inle (by omega) (by omega))]
        exact k1 _ C2 (fun b hb => f b (by omega))
      · unfold wp_X12_rowCount
        rw [if_neg (in_ne (by omega) (by omega)), if_neg (in_ne (by omega) (by omega)), many_ok hR.st hD.g2, if_neg (show ¬ nI (pn (sg S)) = (0 : Int32) from ine (i := 0) c0 (by omega) (by omega)), ex]
        refine rpitch_ok hD h0 hR.st (by omega) c.2 ht r1 r2 r3 r4 (fun m2 hf f => ?_)
        have s2 : stR m2 (sg S) := stR_fr hR.st f (by omega)
        rw [s2 0 (by omega), s2 1 (by omega), show (if nI ax = (0 : Int32) then sg S 0 else sg S 1) = if ax = 0 then sg S 0 else sg S 1 from if_nI (b := 0) (by omega) (by omega) _ _]
        rintro y7 rfl
        refine rgreat_ok hD h0 s2 hf (by omega) ?_
        refine rleast_ok hD h0 s2 hf (by omega) ?_
        exact ⟨show ¬ nI r = (0 : Int32) from ine (i := 0) (by omega) (by omega) (by omega), k1 _ (RefR_fr hR f (f 436 (by omega))) (fun b hb => f b (by omega))⟩
  · refine combine (c := wp_X11_rowCount x y m) (d := wp_X12_rowCount x y) (r := -1) (S2 := S) h (fun K k1 => ?_) (fun m1 K hR k1 => ?_) hI kk
    · unfold wp_X11_rowCount
      rw [p1 c]
      rintro y1 rfl
      rw [if_neg (by decide)]
      exact k1 _ hC (fun _ _ => rfl)
    · have k2 := k1 _ hR (fun _ _ => rfl)
      unfold wp_X12_rowCount
      by_cases q1 : 0 ≤ x.toInt ∧ x.toInt ≤ 1
      · rw [if_neg (in_ne (by omega) (by omega)), if_pos (in_0 (by omega))]; exact k2
      · rw [if_pos (in_0 (by omega))]; exact k2
