/-! removeLast, setSize -/
def gDrop (g : Vc) : Vc := vset g 2 (nI (pn g - 1))
def oDrop (g : Vc) : Prop := 0 < pn g ∧ ∀ k, k < pn g → ¬ pf g k 6 = nI (pn g - 1)
theorem gDrop_ne {g : Vc} {k : Nat} (h : k ≠ 2) : gDrop g k = g k := vset_ne _ _ h
theorem gDrop_pf (g : Vc) (k j : Nat) : pf (gDrop g) k j = pf g k j := gDrop_ne (by omega)
theorem gDrop_pn {g : Vc} (hp : pn g ≤ 10) : pn (gDrop g) = pn g - 1 := by
  show (gDrop g 2).toNatClampNeg = pn g - 1
  unfold gDrop
  rw [vset_same, clamp_nI (by omega)]
theorem gDrop_rect {g : Vc} {k : Nat} (hk : k < 10) : rect (gDrop g) k = rect g k := rect_congr2 (n := 10) (fun a h1 _ => gDrop_ne (by omega)) (fun a _ b _ => gDrop_pf g a b) k hk
theorem Dd_drop {g : Vc} (hD : Dd g) (ho : oDrop g) : Dd (gDrop g) := by
  have hp := hD.ple
  have hn := gDrop_pn hp
  have ho1 := ho.1
  have hpar := hD.r.par
  obtain ⟨⟨d1, d2, d3, d4, d5, d6, d7⟩, d8⟩ := hD
  refine ⟨⟨by rw [gDrop_ne (by omega)]; exact d1, by rw [gDrop_ne (by omega)]; exact d2, ⟨pn g - 1, by omega, vset_same _ _ _⟩, fun a ha => by rw [gDrop_ne (by omega), gDrop_ne (by omega)]; exact d4 a ha, fun q => ?_, fun k hk => ?_, fun k h0 hk => ?_⟩, fun k hk => ?_⟩
  · rw [gDrop_ne (by omega), gDrop_ne (by omega), gDrop_ne (by omega), gDrop_ne (by omega), gDrop_pf]
    obtain ⟨x1, x2, x3, x4, x5, x6⟩ := d5 ho1
    exact ⟨x1, x2, x3, x4, fun j hj => by rw [gDrop_pf]; exact x5 j hj, x6⟩
  · rw [hn] at hk ⊢
    rw [gDrop_pf, gDrop_pf, gDrop_pf, gDrop_pf, gDrop_pf]
    obtain ⟨q1, q2, q3⟩ := d6 k (by omega)
    refine ⟨?_, ?_, q3⟩
    · rcases q1 with z | ⟨t, t1, t2, t3⟩
      · exact Or.inl z
      · refine Or.inr ⟨t, ?_, t2, t3⟩
        have : t ≠ pn g - 1 := fun e => ho.2 k (by omega) (by rw [t3, e])
        omega
    · rcases q2 with z | ⟨a, z1, z2, z3⟩
      · exact Or.inl z
      · exact Or.inr ⟨a, z1, z2, by rw [gDrop_ne (by omega)]; exact z3⟩
  · rw [hn] at hk
    rw [gDrop_pf, gDrop_pf, gDrop_pf, gDrop_pf, gDrop_pf, gDrop_pf]
    exact d7 k h0 (by omega)
  · rw [hn] at hk
    obtain ⟨q1, q2, q3⟩ := d8 k (by omega)
    refine ⟨?_, fun h0 => ?_, fun o ho => ?_⟩
    · rw [gDrop_rect (by omega), gDrop_ne (by omega), gDrop_ne (by omega)]; exact q1
    · obtain ⟨p, s, hpk, ep, hs, es, er⟩ := par_s hpar h0 (show k < pn g by omega)
      have := q2 h0
      rw [gDrop_pf, gDrop_pf, gDrop_pf, gDrop_pf, gDrop_rect (by rw [ep, clamp_nI (by omega)]; omega)]
      exact this
    · rw [gDrop_rect (by omega), gDrop_rect (by omega)]; exact q3 o ho
theorem dropFault_ok {d : Nat} {m : Mm} {g : Vc} {K : Int32 → Mm → Prop} (hd : desR m.1 d g) (hD : Dd g) (k1 : ¬ oDrop g → K (-2) m) (k2 : oDrop g → K 0 m) : wp_X3_dropFault d m K := by
  have hp := hD.ple
  have h4 : m.1 d 4 = nI (pn g) := by rw [hd.2.2.1]; exact hD.g2
  unfold wp_X3_dropFault
  rw [h4]
  by_cases h0 : pn g = 0
  · rw [if_pos (by rw [h0]; rfl)]; exact k1 (fun z => by have := z.1; omega)
  rw [if_neg (show ¬ nI (pn g) = (0 : Int32) from ine (i := 0) h0 (by omega) (by omega))]
  refine loop_i (W := fun n i s => wp_X3_dropFault_l12 K d n (nI i) s) (I := fun i s => s = m ∧ ∀ k, k < i → ¬ pf g k 6 = nI (pn g - 1)) (pn g) ?_ ?_ FU 0 m (by omega) (FU_gt (by omega)) ⟨rfl, fun o ho => by omega⟩
  · rintro n s ⟨rfl, hs⟩
    show wb_X3_dropFault_l12 _ _ _ _ _
    unfold wb_X3_dropFault_l12
    rw [h4, if_pos (ile (Nat.le_refl _) (by omega))]
    exact k2 ⟨by omega, hs⟩
  · rintro n i s hi ⟨rfl, hs⟩ kk
    show wb_X3_dropFault_l12 _ _ _ _ _
    unfold wb_X3_dropFault_l12
    rw [h4, if_neg (inle hi (by omega)), panelAt_in (by omega), d_pf hd hi (by omega) (by omega), show (1 : Int32) = nI 1 from rfl, nI_sub (by omega)]
    by_cases e : pf g i 6 = nI (pn g - 1)
    · rw [if_pos e]; exact k1 (fun z => z.2 i hi e)
    · rw [if_neg e, nI_add]
      refine kk _ ⟨rfl, fun k hk => ?_⟩
      rcases Nat.lt_or_ge k i with q | q
      · exact hs k q
      · rw [show k = i by omega]; exact e
theorem op_removeLast {m : Mm} {S : AS} {P : Int32 → Int32 → Mm → Prop} (hS : Sim m S) (kk : ∀ r m2 S2, Sim m2 S2 → P r r m2) : wp_X11_removeLast m (fun r m1 => wp_X12_removeLast m1 (fun r2 m2 => P r r2 m2)) := by
  have hI := hS.2.2
  have hC := hS.2.1
  have hD := hI.1
  have hp := hD.ple
  have a0 : (0 : Int32).toInt = 0 := rfl
  have hloop : ∀ {m1 m2 : Mm} {k58 : Int32 → Mm → Prop} {K : Int32 → Mm → Prop}, RB m1 m2 S (sg S) → (∀ y, flag y (¬ oDrop (sg S)) → k58 y m2) → ∀ y4, y4 = (if 0 ≤ v_X12_many m2 - 1 then (0 : Int32) else 1) → wp_X12_removeLast_l23 k58 K (v_X12_many m2 - 1) FU y4 0 m2 := by
    intro m1 m2 k58 K hB k1 y4 e4
    have hm := many_ok (RB_st hB) hD.g2
    have h1 := many1_t (RB_st hB) hD.g2 hp
    have f0 : flag y4 (¬ 0 < pn (sg S)) := by
      rw [e4]
      by_cases q : (0 : Int32) ≤ v_X12_many m2 - 1
      · rw [if_pos q]; rw [fa_le, h1] at q; exact Or.inr ⟨rfl, fun z => by omega⟩
      · rw [if_neg q]; rw [fa_le, h1] at q; exact Or.inl ⟨rfl, by omega⟩
    refine loop_i (W := fun n i y => wp_X12_removeLast_l23 k58 K (v_X12_many m2 - 1) n y (nI i) m2) (I := fun i y => flag y (¬ (0 < pn (sg S) ∧ ∀ k, k < i → ¬ pf (sg S) k 6 = nI (pn (sg S) - 1)))) (pn (sg S)) ?_ ?_ FU 0 y4 (by omega) (FU_gt (by omega)) (flag_iff f0 ⟨fun z q => z q.1, fun z q => z ⟨q, fun k hk => by omega⟩⟩)
    · intro n y hy
      show wb_X12_removeLast_l23 _ _ _ _ _ _ _
      unfold wb_X12_removeLast_l23
      rw [hm, if_pos (ile (Nat.le_refl _) (by omega))]
      exact k1 y hy
    · intro n i y hi hy k2
      show wb_X12_removeLast_l23 _ _ _ _ _ _ _
      unfold wb_X12_removeLast_l23
      rw [hm, if_neg (inle hi (by omega)), of6 (RB_st hB) (by omega), show (1 : Int32) = nI 1 from rfl, nI_sub (by omega), nI_add]
      have hx : v_X12_many m2 - 1 = nI (pn (sg S) - 1) := by rw [hm, show (1 : Int32) = nI 1 from rfl, nI_sub (by omega)]
      have k2' : ∀ y, flag y (¬ (0 < pn (sg S) ∧ ∀ k, k < i + 1 → ¬ pf (sg S) k 6 = nI (pn (sg S) - 1))) → wp_X12_removeLast_l23 k58 K (nI (pn (sg S) - 1)) n y (nI (i + 1)) m2 := fun y hy => by
        have z : wp_X12_removeLast_l23 k58 K (v_X12_many m2 - 1) n y (nI (i + 1)) m2 := k2 y hy
        rw [hx] at z
        exact z
      refine ⟨fun _ => sof6 (by omega), fun y10 e10 => k2' _ ?_⟩
      rcases hy with ⟨y1, y2⟩ | ⟨y1, y2⟩
      · rw [y1, if_neg (by decide)] at e10
        rw [e10]
        exact Or.inl ⟨rfl, fun z => y2 ⟨z.1, fun k hk => z.2 k (by omega)⟩⟩
      · rw [y1, if_pos rfl] at e10
        have y3 : 0 < pn (sg S) ∧ ∀ k, k < i → ¬ pf (sg S) k 6 = nI (pn (sg S) - 1) := Classical.byContradiction y2
        by_cases e : pf (sg S) i 6 = nI (pn (sg S) - 1)
        · rw [if_pos e] at e10
          rw [e10]
          exact Or.inl ⟨rfl, fun z => z.2 i (by omega) e⟩
        · rw [if_neg e] at e10
          rw [e10]
          refine Or.inr ⟨rfl, fun z => z ⟨y3.1, fun k hk => ?_⟩⟩
          rcases Nat.lt_or_ge k i with q | q
          · exact y3.2 k q
          · rw [show k = i by omega]; exact e
  by_cases c1 : oDrop (sg S)
  · have c11 := c1.1
    refine combine (c := wp_X11_removeLast m) (d := wp_X12_removeLast) (r := nI (pn (sg S) - 1)) (S2 := (gDrop (sg S), pushH (sh S) (sg S), S.2.2)) hS (fun K k1 => ?_) (fun m1 K hR k1 => ?_) ?_ kk
    · unfold wp_X11_removeLast
      refine dropFault_ok hC.1 hD (fun z => absurd c1 z) (fun _ => ?_)
      rw [if_pos rfl]
      refine remember_ok hC hI (fun m2 hC2 hk2 => ?_)
      unfold wp_X3_dropLast
      rintro m3 rfl
      have h4 : m2.1 1 4 = nI (pn (sg S)) := by rw [hC2.1.2.2.1]; exact hD.g2
      rw [wI_same, h4, show (1 : Int32) = nI 1 from rfl, nI_sub (by omega)]
      have eo : ∀ b, b ≠ 1 → (wI m2 1 4 (nI (pn (sg S) - 1))).1 b = m2.1 b := fun b hb => by funext j; rw [wI_ne _ _ _ _ hb]
      have hd : desR (wI m2 1 4 (nI (pn (sg S) - 1))).1 1 (gDrop (sg S)) := by
        obtain ⟨h1, h2, h3, h5, h6⟩ := hC2.1
        refine ⟨?_, ?_, ?_, fun a ha => ?_, fun k hk => ?_⟩
        · rw [wI_nj _ _ _ _ (by omega), gDrop_ne (by omega)]; exact h1
        · rw [wI_nj _ _ _ _ (by omega), gDrop_ne (by omega)]; exact h2
        · rw [wI_same]; exact (vset_same _ _ _).symm
        · rw [eo _ (by omega), eo _ (by omega), gDrop_ne (by omega), gDrop_ne (by omega)]; exact h5 a ha
        · rw [gDrop_pn hp] at hk
          obtain ⟨x1, x2, x3, x4⟩ := h6 k (show k < pn (sg S) by omega)
          unfold panR
          rw [eo _ (by omega), gDrop_rect (by omega)]
          exact ⟨fun l q1 q2 => by rw [gDrop_pf]; exact x1 l q1 q2, x2, fun z l hl => by rw [gDrop_pf]; exact x3 z l hl, x4⟩
      have := ClsR_chg hI hC2 hk2 hd (frD_wI (frD_refl _ _) (by omega) (by omega)) (fun i hi => gDrop_ne (by omega))
      exact k1 _ this.1 this.2
    · unfold wp_X12_removeLast
      refine RB_begins hR (fun m2 hB => ?_)
      rintro y2 rfl y4 e4
      refine hloop hB (fun y hy => ?_) y4 e4
      rw [if_pos ((flag_0 hy).mpr (fun z => z c1))]
      rintro m17 rfl
      have hm : m2.1 427 2 = nI (pn (sg S)) := many_ok (RB_st hB) hD.g2
      rw [hm, show (1 : Int32) = nI 1 from rfl, nI_sub (by omega)]
      have hv : v_X12_many (wI m2 427 2 (nI (pn (sg S) - 1))) = nI (pn (sg S) - 1) := wI_same _ _ _ _
      rw [hv]
      exact RB_ends hI (RB_put hB) (fun m4 r4 l4 => k1 _ r4 l4)
    · exact Inv_push hI (Dd_drop hD c1) (Ll_eq hI.2.1 (fun i hi => gDrop_ne (by omega)))
  · refine combine (c := wp_X11_removeLast m) (d := wp_X12_removeLast) (r := -2) (S2 := S) hS (fun K k1 => ?_) (fun m1 K hR k1 => ?_) hI kk
    · unfold wp_X11_removeLast
      refine dropFault_ok hC.1 hD (fun _ => ?_) (fun z => absurd z c1)
      rw [if_neg (by decide)]; exact k1 _ hC (fun _ _ => rfl)
    · unfold wp_X12_removeLast
      refine RB_begins hR (fun m2 hB => ?_)
      rintro y2 rfl y4 e4
      refine hloop hB (fun y hy => ?_) y4 e4
      rw [if_neg (fun z => (flag_0 hy).mp z c1)]
      exact k1 _ (RB_stop hB) hB.2.2.2.2
/-- setSize -/
theorem gF_rng2 {g : Vc} {k w : Nat} {x : Int32} (hr : rngD g) (h0 : 0 < k) (hk : k < pn g) (hw : w < 3) (hx : (if w = 0 then 0 else 1) ≤ x.toInt ∧ x.toInt ≤ 300) : rngD (gF g k (2 + w) x) := by
  have hp := hr.par.1
  have hk10 : k < 10 := by omega
  have hj : 2 + w < 11 := by omega
  obtain ⟨d1, d2, d3, d4, d5, d6, d7⟩ := hr
  refine ⟨by rw [gF_out hk10 hj (by omega)]; exact d1, by rw [gF_out hk10 hj (by omega)]; exact d2, by rw [gF_out hk10 hj (by omega)]; exact d3, fun i hi => by rw [gF_out hk10 hj (by omega), gF_out hk10 hj (by omega)]; exact d4 i hi, fun q => ?_, fun i hi => ?_, fun i h0' hi => ?_⟩
  · rw [gF_out hk10 hj (by omega), gF_out hk10 hj (by omega), gF_out hk10 hj (by omega), gF_out hk10 hj (by omega), gF_other hj (by omega) (by omega)]
    rw [gF_pn hk10 hj] at q
    obtain ⟨x1, x2, x3, x4, x5, x6⟩ := d5 q
    exact ⟨x1, x2, x3, x4, fun l hl => by rw [gF_other hj (by omega) (by omega)]; exact x5 l hl, x6⟩
  · rw [gF_pn hk10 hj] at hi ⊢
    rw [gF_other hj (by omega) (by omega), gF_other hj (by omega) (by omega), gF_other hj (by omega) (by omega), gF_other hj (by omega) (by omega), gF_other hj (by omega) (by omega)]
    obtain ⟨q1, q2, q3⟩ := d6 i hi
    refine ⟨q1, ?_, q3⟩
    rcases q2 with z | ⟨a, z1, z2, z3⟩
    · exact Or.inl z
    · exact Or.inr ⟨a, z1, z2, by rw [gF_out hk10 hj (by omega)]; exact z3⟩
  · rw [gF_pn hk10 hj] at hi
    obtain ⟨q1, q2, q3, q4, q5, q6⟩ := d7 i h0' hi
    refine ⟨by rw [gF_other hj (by omega) (by omega)]; exact q1, by rw [gF_other hj (by omega) (by omega)]; exact q2, ?_, ?_, ?_, by rw [gF_other hj (by omega) (by omega)]; exact q6⟩
    · rw [gF_pf hj (by omega)]
      by_cases e : i = k ∧ 2 = 2 + w
      · rw [if_pos e]; rw [if_pos (by omega)] at hx; exact hx
      · rw [if_neg e]; exact q3
    · rw [gF_pf hj (by omega)]
      by_cases e : i = k ∧ 3 = 2 + w
      · rw [if_pos e]; rw [if_neg (by omega)] at hx; exact hx
      · rw [if_neg e]; exact q4
    · rw [gF_pf hj (by omega)]
      by_cases e : i = k ∧ 4 = 2 + w
      · rw [if_pos e]; rw [if_neg (by omega)] at hx; exact hx
      · rw [if_neg e]; exact q5
theorem gF_par {g : Vc} {k w : Nat} {x : Int32} (hp : par g) (hk : k < pn g) (hw : w < 3) : par (gF g k (2 + w) x) := by
  have hp1 := hp.1
  have hn : pn (gF g k (2 + w) x) = pn g := gF_pn (by omega) (by omega)
  refine ⟨by omega, by rw [gF_out (by omega) (by omega) (by omega), hn]; exact hp.2.1, fun i h0 hi => ?_⟩
  rw [gF_other (by omega) (by omega) (by omega), gF_other (by omega) (by omega) (by omega)]
  exact hp.2.2 i h0 (by omega)
theorem setF_ok {d : Nat} {m : Mm} {g : Vc} {k w : Nat} {x : Int32} {K : Mm → Prop} (hd : desR m.1 d g) (hp : par g) (h0 : 0 < k) (hk : k < pn g) (hw : w < 3) (kk : ∀ m2, desR m2.1 d (gF g k (2 + w) x) → frD d m m2 → K m2) : wp_X3_layOutAll d (wI m (d + 5 + k) (2 + w) x) K := by
  have hp1 := hp.1
  have hn : pn (gF g k (2 + w) x) = pn g := gF_pn (by omega) (by omega)
  have eo : ∀ b, b ≠ d + 5 + k → (wI m (d + 5 + k) (2 + w) x).1 b = m.1 b := fun b hb => by funext i; rw [wI_ne _ _ _ _ hb]
  obtain ⟨h1, h2, h3, h4, h6⟩ := hd
  refine layOutAll_ok (gF_par hp hk hw) (by rw [eo _ (by omega), h3, hn]; exact hp.2.1) (fun i hi => ?_) (fun _ => ?_) (fun m2 c1 c2 => kk m2 ⟨?_, ?_, ?_, fun i hi => ?_, c1⟩ (fun b hb => by rw [c2 b (by omega), eo b (by omega)]))
  · rw [hn] at hi
    obtain ⟨x1, x2, x3, x4⟩ := h6 i hi
    by_cases e : i = k
    · subst e
      refine ⟨fun l q1 q2 => ?_, fun z => by omega, fun z l hl => ?_⟩
      · rw [wI_nj _ _ _ _ (by omega), gF_other (by omega) q2 (by omega)]; exact x1 l q1 q2
      · rw [wI_get, if_pos rfl, gF_pf (by omega) (by omega)]
        by_cases z2 : l = 2 + w
        · rw [if_pos z2, if_pos ⟨rfl, z2⟩]
        · rw [if_neg z2, if_neg (fun q => z2 q.2)]; exact x3 z l hl
    · unfold panF
      rw [eo _ (by omega)]
      exact ⟨fun l q1 q2 => by rw [gF_other (by omega) q2 (by omega)]; exact x1 l q1 q2, x2, fun z l hl => by rw [gF_other (by omega) (by omega) (by omega)]; exact x3 z l hl⟩
  · unfold rcR
    rw [eo _ (by omega), rect_0, gF_out (by omega) (by omega) (by omega), gF_out (by omega) (by omega) (by omega), gF_out (by omega) (by omega) (by omega), gF_out (by omega) (by omega) (by omega)]
    have := (h6 0 (by omega)).R
    unfold rcR at this
    rw [rect_0] at this
    exact this
  · rw [c2 d (by omega), eo _ (by omega), gF_out (by omega) (by omega) (by omega)]; exact h1
  · rw [c2 d (by omega), eo _ (by omega), gF_out (by omega) (by omega) (by omega)]; exact h2
  · rw [c2 d (by omega), eo _ (by omega), gF_out (by omega) (by omega) (by omega)]; exact h3
  · rw [c2 _ (by omega), c2 _ (by omega), eo _ (by omega), eo _ (by omega), gF_out (by omega) (by omega) (by omega), gF_out (by omega) (by omega) (by omega)]; exact h4 i hi
theorem changeSize_ok {d : Nat} {m : Mm} {g : Vc} {k w : Nat} {x : Int32} {K : Int32 → Mm → Prop} (hd : desR m.1 d g) (hp : par g) (h0 : 0 < k) (hk : k < pn g) (hw : w < 3) (kk : ∀ m2, desR m2.1 d (gF g k (2 + w) x) → frD d m m2 → K (pf g k (2 + w)) m2) : wp_X3_changeSize d (nI k) (nI w) x m K := by
  have hp1 := hp.1
  have hF := (hd.2.2.2.2 k hk).F.2.2 h0
  unfold wp_X3_changeSize
  rw [panelAt_in (by omega), hF 2 (by omega), hF 3 (by omega), hF 4 (by omega)]
  rintro y3 rfl
  match w, hw with
  | 0, _ =>
    rw [if_pos (show nI 0 = (0 : Int32) from rfl), if_pos (show nI 0 = (0 : Int32) from rfl)]
    rintro m9 rfl
    unfold wp_X3_changeSize_j72
    exact setF_ok (w := 0) hd hp h0 hk (by omega) kk
  | 1, _ =>
    rw [if_neg (show ¬ nI 1 = (0 : Int32) by decide), if_neg (show ¬ nI 1 = (0 : Int32) by decide), if_pos (show nI 1 = (1 : Int32) from rfl), if_pos (show nI 1 = (1 : Int32) from rfl)]
    rintro m9 rfl
    unfold wp_X3_changeSize_j72
    exact setF_ok (w := 1) hd hp h0 hk (by omega) kk
  | 2, _ =>
    rw [if_neg (show ¬ nI 2 = (0 : Int32) by decide), if_neg (show ¬ nI 2 = (0 : Int32) by decide), if_neg (show ¬ nI 2 = (1 : Int32) by decide), if_neg (show ¬ nI 2 = (1 : Int32) by decide)]
    rintro m9 rfl
    unfold wp_X3_changeSize_j72
    exact setF_ok (w := 2) hd hp h0 hk (by omega) kk
def rSize (n : Nat) (x w v : Int32) : Prop := (1 ≤ x.toInt ∧ x.toInt < n) ∧ (0 ≤ w.toInt ∧ w.toInt ≤ 2) ∧ ((if w = 0 then 0 else 1) ≤ v.toInt ∧ v.toInt ≤ 300)
theorem sizeFault_ok {d : Nat} {m : Mm} {g : Vc} {x w v : Int32} {K : Int32 → Mm → Prop} (hd : desR m.1 d g) (hD : Dd g) (k1 : ¬ rSize (pn g) x w v → K (-1) m)
    (k2 : ∀ k j, x = nI k → w = nI j → k < pn g → j < 3 → rSize (pn g) x w v → ∀ f m2, (f = 0 ∧ gok (gF g k (2 + j) v)) ∨ (f = -4 ∧ ¬ gok (gF g k (2 + j) v)) → desR m2.1 d g → frD d m m2 → K f m2) : wp_X3_sizeFault d x w v m K := by
  have hp := hD.ple
  have h4 : m.1 d 4 = nI (pn g) := by rw [hd.2.2.1]; exact hD.g2
  have a0 : (0 : Int32).toInt = 0 := rfl
  have a2 : (2 : Int32).toInt = 2 := rfl
  unfold wp_X3_sizeFault
  by_cases c1 : ¬ (1 ≤ x.toInt ∧ x.toInt < pn g)
  · rw [if_pos ((hangs_0 h4 hp).mpr c1)]; exact k1 (fun z => c1 z.1)
  replace c1 := Decidable.not_not.mp c1
  rw [if_neg (fun z => (hangs_0 h4 hp).mp z c1)]
  by_cases c2 : w < 0
  · rw [if_pos c2]; rw [fa_lt] at c2; exact k1 (fun z => by have := z.2.1; omega)
  rw [if_neg c2]
  by_cases c3 : ¬ w ≤ 2
  · rw [if_neg c3]; rw [fa_le] at c3; exact k1 (fun z => by have := z.2.1; omega)
  rw [if_pos (Decidable.not_not.mp c3)]
  rw [fa_lt] at c2
  rw [fa_le] at c3
  obtain ⟨k, ek, ek2, -⟩ := asN (x := x) (by omega)
  obtain ⟨j, ej, ej2, -⟩ := asN (x := w) (by omega)
  have hgo : (if w = 0 then 0 else 1) ≤ v.toInt ∧ v.toInt ≤ 300 → wp_X3_sizeFault_j42 K d x w v m := by
    intro hv
    have hR : rSize (pn g) x w v := ⟨c1, ⟨by omega, by omega⟩, hv⟩
    have k3 := k2 k j ek ej (by omega) (by omega) hR
    unfold wp_X3_sizeFault_j42
    rw [ek, ej]
    have hv2 : (if j = 0 then 0 else 1) ≤ v.toInt ∧ v.toInt ≤ 300 := by
      rw [ej] at hv
      by_cases z : j = 0
      · rw [if_pos (by rw [z]; rfl)] at hv; rw [if_pos z]; exact hv
      · rw [if_neg (show ¬ nI j = (0 : Int32) from ine (i := 0) z (by omega) (by omega))] at hv; rw [if_neg z]; exact hv
    refine changeSize_ok hd hD.r.par (by omega) (by omega) (by omega) (fun m2 d2 f2 => ?_)
    have hn : pn (gF g k (2 + j) v) = pn g := gF_pn (by omega) (by omega)
    have hr2 := gF_rng2 (x := v) (k := k) (w := j) hD.r (by omega) (by omega) (by omega) hv2
    refine cvalid_ok hr2 d2.1 d2.2.1 (by rw [d2.2.2.1]; exact hr2.par.2.1) d2.2.2.2.2 (fun r hr => ?_)
    refine changeSize_ok d2 hr2.par (by omega) (by omega) (by omega) (fun m3 d3 f3 => ?_)
    rintro y13 rfl
    have d4 : desR m3.1 d g := by
      refine desR_row (by rw [gF_pn (by omega) (by omega)]; omega) d3 (fun i hi => ?_)
      unfold gF vset
      by_cases z : i = 11 + 11 * k + (2 + j)
      · rw [if_pos z, z]; rfl
      · rw [if_neg z, if_neg z]
    refine k3 _ m3 ?_ d4 (fun b hb => by rw [f3 b hb, f2 b hb])
    rcases hr with ⟨r1, r2⟩ | ⟨r1, r2⟩
    · rw [r1, if_neg (by decide)]; exact Or.inl ⟨rfl, r2⟩
    · rw [r1, if_pos rfl]; exact Or.inr ⟨rfl, r2⟩
  by_cases c4 : w = 0
  · rw [if_pos c4]
    by_cases c5 : 0 ≤ v.toInt ∧ v.toInt ≤ 300
    · rw [if_neg (fun z => isOff_0.mp z c5)]; exact hgo (by rw [if_pos c4]; exact c5)
    · rw [if_pos (isOff_0.mpr c5)]; exact k1 (fun z => by have := z.2.2; rw [if_pos c4] at this; exact c5 this)
  · rw [if_neg c4]
    by_cases c5 : 1 ≤ v.toInt ∧ v.toInt ≤ 300
    · rw [if_neg (fun z => isLen_0.mp z c5)]; exact hgo (by rw [if_neg c4]; exact c5)
    · rw [if_pos (isLen_0.mpr c5)]; exact k1 (fun z => by have := z.2.2; rw [if_neg c4] at this; exact c5 this)
theorem op_setSize {m : Mm} {S : AS} {x w v : Int32} {P : Int32 → Int32 → Mm → Prop} (hS : Sim m S) (kk : ∀ r m2 S2, Sim m2 S2 → P r r m2) : wp_X11_setSize x w v m (fun r m1 => wp_X12_setSize x w v m1 (fun r2 m2 => P r r2 m2)) := by
  have hI := hS.2.2
  have hC := hS.2.1
  have hD := hI.1
  have hp := hD.ple
  have a0 : (0 : Int32).toInt = 0 := rfl
  have a1 : (1 : Int32).toInt = 1 := rfl
  have a2 : (2 : Int32).toInt = 2 := rfl
  have a3 : (300 : Int32).toInt = 300 := rfl
  have e5 : ((if w = (0 : Int32) then (0 : Int32) else (1 : Int32))).toInt = if w = 0 then 0 else 1 := by
    by_cases z : w = 0
    · rw [if_pos z, if_pos z]; rfl
    · rw [if_neg z, if_neg z]; rfl
  have keepC : ∀ m2 : Mm, desR m2.1 1 (sg S) → frD 1 m m2 → ClsR m2 S := fun m2 d2 f2 => ClsR_des (S := S) (g2 := sg S) hI.2.2.2.1 hI.2.2.2.2.1 hC d2 (limR_congr hC.2.1 (f2 265 (by omega)) (f2 266 (by omega))) (fun b _ hb _ _ => f2 b (by omega))
  by_cases c1 : rSize (pn (sg S)) x w v
  · obtain ⟨c11, c12, c13⟩ := c1
    obtain ⟨k, ek, ek2, -⟩ := asN (x := x) (by omega)
    obtain ⟨j, ej, ej2, -⟩ := asN (x := w) (by omega)
    have hk : k < pn (sg S) := by omega
    have hj : j < 3 := by omega
    have same : ∀ k' j', x = nI k' → w = nI j' → k' < pn (sg S) → j' < 3 → k' = k ∧ j' = j := fun k' j' h1 h2 h3 h4 =>
      ⟨(nI_eq (by omega) (by omega)).mp (by rw [← h1, ek]), (nI_eq (by omega) (by omega)).mp (by rw [← h2, ej])⟩
    have hv2 : (if j = 0 then 0 else 1) ≤ v.toInt ∧ v.toInt ≤ 300 := by
      rw [ej] at c13
      by_cases z : j = 0
      · rw [if_pos (by rw [z]; rfl)] at c13; rw [if_pos z]; exact c13
      · rw [if_neg (show ¬ nI j = (0 : Int32) from ine (i := 0) z (by omega) (by omega))] at c13; rw [if_neg z]; exact c13
    have hr2 := gF_rng2 (x := v) (k := k) (w := j) hD.r (by omega) (by omega) (by omega) hv2
    have eoff : (2 : Int32) + w = nI (2 + j) := by rw [ej, show (2 : Int32) = nI 2 from rfl, nI_add]
    have hRef : ∀ {m1 : Mm} {K : Int32 → Mm → Prop}, RefR m1 S → (¬ gok (gF (sg S) k (2 + j) v) → ∀ m2, RefR m2 S → (∀ b, b < 426 → m2.1 b = m1.1 b) → K (-4) m2) →
        (gok (gF (sg S) k (2 + j) v) → ∀ m2, RefR m2 (gF (sg S) k (2 + j) v, pushH (sh S) (sg S), S.2.2) → (∀ b, b < 426 → m2.1 b = m1.1 b) → K (pf (sg S) k (2 + j)) m2) → wp_X12_setSize x w v m1 K := by
      intro m1 K hR k1 k2
      unfold wp_X12_setSize
      refine RB_begins hR (fun m2 hB => ?_)
      rw [if_neg (fun z => (isHung_0 (RB_st hB) hD.g2 hp).mp z c11), if_neg (in_ne (by omega) (by omega))]
      rintro y5 rfl
      rw [if_neg (in_ne (by rw [e5]; exact c13.1) (by omega)), eoff, ek]
      refine ⟨s_of (j := 2 + j) rfl (by omega) (by omega), ?_⟩
      rintro y8 rfl
      rw [v_of (RB_st hB) (j := 2 + j) rfl (by omega) (by omega)]
      refine put_ok (j := 2 + j) rfl (by omega) (by omega) ?_
      have hB2 : RB m1 (wI m2 427 (11 + 11 * k + (2 + j)) v) S (gF (sg S) k (2 + j) v) := RB_put hB
      refine rvalid_ok (RB_st hB2) hr2 (fun r m3 hr _ f => ?_)
      have hB3 := RB_fr hB2 f
      rcases hr with ⟨r1, r2⟩ | ⟨r1, r2⟩
      · rw [r1, if_neg (by decide)]
        unfold wp_X12_setSize_j80
        exact RB_ends hI hB3 (fun m4 r4 l4 => k2 r2 _ r4 l4)
      · rw [r1, if_pos rfl]
        refine RB_refuse hB3 (fun m4 r1 r3 r4 => ?_)
        unfold wp_X12_setSize_j80
        exact ends_failed r3.1 (k1 r2 _ r1 r4)
    by_cases c2 : gok (gF (sg S) k (2 + j) v)
    · refine combine (c := wp_X11_setSize x w v m) (d := wp_X12_setSize x w v) (r := pf (sg S) k (2 + j)) (S2 := (gF (sg S) k (2 + j) v, pushH (sh S) (sg S), S.2.2)) hS (fun K k1 => ?_) (fun m1 K hR k1 => hRef hR (fun z => absurd c2 z) (fun _ => k1)) ?_ kk
      · unfold wp_X11_setSize
        refine sizeFault_ok hC.1 hD (fun z => absurd ⟨c11, c12, c13⟩ z) (fun k' j' h1 h2 h3 h4 _ f m2 hf d2 f2 => ?_)
        obtain ⟨rfl, rfl⟩ := same k' j' h1 h2 h3 h4
        rcases hf with ⟨f0, -⟩ | ⟨-, z⟩
        · rw [f0, if_pos rfl]
          refine remember_ok (keepC m2 d2 f2) hI (fun m3 hC3 hk3 => ?_)
          rw [ek, ej]
          refine changeSize_ok (g := sg S) hC3.1 hD.r.par (by omega) hk hj (fun m4 d4 f4 => ?_)
          have := ClsR_chg hI hC3 hk3 d4 f4 (fun i hi => gF_out (by omega) (by omega) (by omega))
          exact k1 _ this.1 (fun b hb => by rw [this.2 b hb, f2 b (by omega)])
        · exact absurd c2 z
      · exact Inv_push hI ⟨hr2, c2⟩ (Ll_eq hI.2.1 (fun i hi => gF_out (by omega) (by omega) (by omega)))
    · refine combine (c := wp_X11_setSize x w v m) (d := wp_X12_setSize x w v) (r := -4) (S2 := S) hS (fun K k1 => ?_) (fun m1 K hR k1 => hRef hR (fun _ => k1) (fun z => absurd z c2)) hI kk
      unfold wp_X11_setSize
      refine sizeFault_ok hC.1 hD (fun z => absurd ⟨c11, c12, c13⟩ z) (fun k' j' h1 h2 h3 h4 _ f m2 hf d2 f2 => ?_)
      obtain ⟨rfl, rfl⟩ := same k' j' h1 h2 h3 h4
      rcases hf with ⟨-, z⟩ | ⟨f0, -⟩
      · exact absurd z c2
      · rw [f0, if_neg (by decide)]; exact k1 _ (keepC m2 d2 f2) (fun b hb => f2 b (by omega))
  · refine combine (c := wp_X11_setSize x w v m) (d := wp_X12_setSize x w v) (r := -1) (S2 := S) hS (fun K k1 => ?_) (fun m1 K hR k1 => ?_) hI kk
    · unfold wp_X11_setSize
      refine sizeFault_ok hC.1 hD (fun _ => ?_) (fun _ _ _ _ _ _ z => absurd z c1)
      rw [if_neg (by decide)]; exact k1 _ hC (fun _ _ => rfl)
    · unfold wp_X12_setSize
      refine RB_begins hR (fun m2 hB => ?_)
      have k2 := k1 _ (RB_stop hB) hB.2.2.2.2
      by_cases q1 : 1 ≤ x.toInt ∧ x.toInt < pn (sg S)
      · rw [if_neg (fun z => (isHung_0 (RB_st hB) hD.g2 hp).mp z q1)]
        by_cases q2 : 0 ≤ w.toInt ∧ w.toInt ≤ 2
        · rw [if_neg (in_ne (by omega) (by omega))]
          rintro y5 rfl
          rw [if_pos (in_iff.mpr (fun z => c1 ⟨q1, q2, by rw [e5, a3] at z; exact z⟩))]
          exact k2
        · rw [if_pos (in_0 (by omega))]; exact k2
      · rw [if_pos ((isHung_0 (RB_st hB) hD.g2 hp).mpr q1)]; exact k2
