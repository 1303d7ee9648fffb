/-! undo, save, restore -/
theorem ClsR_des {m m2 : Mm} {S : AS} {g2 : Vc} (hH : ∀ v ∈ sh S, Dd v ∧ Ll v) (hS : ∀ q v, ss S q = some v → Dd v) (h : ClsR m S) (hd : desR m2.1 1 g2) (hl : limR m2.1 265 266 g2)
    (hm : ∀ b, ccell b → b = 0 ∨ 16 ≤ b → b ≠ 265 → b ≠ 266 → m2.1 b = m.1 b) : ClsR m2 (g2, S.2) := by
  obtain ⟨c1, c2, ⟨c3, o, ho, c4, c5⟩, c6, c7, c8⟩ := h
  have e : ∀ b, (32 ≤ b ∧ b < 242) ∨ b = 0 ∨ (396 ≤ b ∧ b < 426) → m2.1 b = m.1 b := fun b hb => hm b (by unfold ccell; omega) (by omega) (by omega) (by omega)
  refine ⟨hd, hl, ⟨by rw [e 33 (by omega)]; exact c3, o, ho, by rw [e 33 (by omega)]; exact c4, fun j v hv => ?_⟩, fun q hq => ?_, ?_, ?_⟩
  · obtain ⟨d1, d2⟩ := c5 j v hv
    have hvD := (hH v (List.mem_of_getElem? hv)).1
    exact ⟨desR_congr hvD.ple d1 (fun b h1 h2 => e b (by omega)), limR_congr d2 (e _ (by omega)) (e _ (by omega))⟩
  · have := c6 q hq
    show match ss S q with | none => _ | some v => _
    cases hs : ss S q with
    | none => rw [hs] at this; rw [e 32 (by omega)]; exact this
    | some v =>
      rw [hs] at this
      exact ⟨by rw [e 32 (by omega)]; exact this.1, desR_congr (hS q v hs).ple this.2 (fun b h1 h2 => e b (by omega))⟩
  · exact ⟨by rw [e 0 (by omega)]; exact c7.1, fun i x hx => by rw [e 241 (by omega)]; exact c7.2 i x hx⟩
  · rw [e 0 (by omega)]; exact c8
theorem list_last {α : Type} (l : List α) : l = [] ∨ ∃ k a, l = k ++ [a] := by
  induction l with
  | nil => exact Or.inl rfl
  | cons x t ih =>
    rcases ih with e | ⟨k, a, e⟩
    · exact Or.inr ⟨[], x, by rw [e]; rfl⟩
    · exact Or.inr ⟨x :: k, a, by rw [e]; rfl⟩
theorem op_undo {m : Mm} {S : AS} {P : Int32 → Int32 → Mm → Prop} (h : Sim m S) (kk : ∀ r m2 S2, Sim m2 S2 → P r r m2) : wp_X11_undo m (fun r m1 => wp_X12_undo m1 (fun r2 m2 => P r r2 m2)) := by
  have hI := h.2.2
  have hlen := hI.2.2.1
  rcases list_last (sh S) with e0 | ⟨k, v, ek⟩
  · refine combine (c := wp_X11_undo m) (d := wp_X12_undo) (r := -2) (S2 := S) h (fun K k1 => ?_) (fun m1 K hR k1 => ?_) hI kk
    · unfold wp_X11_undo
      rw [if_pos (by rw [h.2.1.2.2.1.1, e0]; rfl)]; exact k1 _ h.2.1 (fun _ _ => rfl)
    · unfold wp_X12_undo
      rw [if_pos (by rw [hR.2.1.1, e0]; rfl)]; exact k1 _ hR (fun _ _ => rfl)
  · have hk : (sh S).length = k.length + 1 := by rw [ek, List.length_append]; rfl
    have hget : (sh S)[k.length]? = some v := by rw [ek, List.getElem?_append_right (Nat.le_refl _), Nat.sub_self]; rfl
    have hv := hI.2.2.2.1 v (List.mem_of_getElem? hget)
    have hk2 : ∀ j w, k[j]? = some w → (sh S)[j]? = some w := fun j w hw => by
      rw [ek, List.getElem?_append_left (List.getElem?_eq_some_iff.mp hw).1]; exact hw
    have hkm : ∀ w ∈ k, Dd w ∧ Ll w := fun w hw => hI.2.2.2.1 w (by rw [ek]; exact List.mem_append_left _ hw)
    refine combine (c := wp_X11_undo m) (d := wp_X12_undo) (r := nI k.length) (S2 := (v, k, S.2.2)) h (fun K k1 => ?_) (fun m1 K hR k1 => ?_) ?_ kk
    · obtain ⟨c1, c2, ⟨c3, o, ho, c4, c5⟩, c6, c7, c8⟩ := h.2.1
      unfold wp_X11_undo
      rw [if_neg (by rw [c3]; exact ine (i := 0) (by omega) (by omega) (by omega))]
      unfold wp_X6_recall
      rw [if_pos (by rw [c3]; exact ilt (a := 0) (by omega) (by omega))]
      rintro m2 rfl y3 rfl
      rw [wI_same, wI_nj _ _ _ _ (by omega), c3, hk, c4, show (1 : Int32) = nI 1 from rfl, nI_sub (by omega), nI_add, show (12 : Int32) = nI 12 from rfl, rm32_nI (by omega) (by omega) (by omega), show k.length + 1 - 1 = k.length by omega]
      generalize he : (o + k.length) % 12 = e
      have he2 : e < 12 := by omega
      refine ⟨vp_in_nI he2 (by omega), ?_⟩
      rw [clamp_nI (by omega)]
      obtain ⟨d1, d2⟩ := c5 k.length v hget
      rw [he] at d1 d2
      generalize hm2 : wI m 33 0 (nI k.length) = m2
      have g2 : ∀ b, b ≠ 33 → m2.1 b = m.1 b := fun b hb => by funext j; rw [← hm2, wI_ne _ _ _ _ hb]
      have d1' : desR m2.1 (61 + 15 * e) v := desR_congr hv.1.ple d1 (fun b h1 h2 => g2 b (by omega))
      refine become_ok (n := pn v) (by omega) (by rw [d1'.2.2.1]; exact hv.1.g2) hv.1.ple ?_
      refine hcopy_ok (len36 he2) len265 (by omega) (by omega) ?_
      refine hcopy_ok (len49 he2) len266 (by omega) (by omega) ?_
      have hb : ∀ b, 16 ≤ b → (bcm m2 1 (61 + 15 * e) (pn v)).1 b = m2.1 b := fun b hb => bcm_out (by omega) hv.1.ple
      have hb0 : (bcm m2 1 (61 + 15 * e) (pn v)).1 0 = m2.1 0 := bcm_out (by omega) hv.1.ple
      have ho2 : ∀ b, b ≠ 265 → b ≠ 266 → (cpA (cpA (bcm m2 1 (61 + 15 * e) (pn v)) (36 + e) 265 0 0 4) (49 + e) 266 0 0 8).1 b = (bcm m2 1 (61 + 15 * e) (pn v)).1 b := fun b q1 q2 => by
        funext j; rw [cpA_get, if_neg (fun z => q2 z.1), cpA_get, if_neg (fun z => q1 z.1)]
      have h33 : (cpA (cpA (bcm m2 1 (61 + 15 * e) (pn v)) (36 + e) 265 0 0 4) (49 + e) 266 0 0 8).1 33 = m2.1 33 := by rw [ho2 33 (by omega) (by omega), hb 33 (by omega)]
      have hC0 : ClsR m2 (sg S, k, S.2.2) := by
        have e2 : ∀ b, b ≠ 33 → m2.1 b = m.1 b := g2
        refine ⟨desR_congr hI.1.ple c1 (fun b h1 h2 => e2 b (by omega)), limR_congr c2 (e2 265 (by omega)) (e2 266 (by omega)), ⟨by rw [← hm2, wI_same], o, ho, by rw [← hm2, wI_nj _ _ _ _ (by omega)]; exact c4, fun j w hw => ?_⟩, fun q hq => ?_, ?_, ?_⟩
        · obtain ⟨d1, d2⟩ := c5 j w (hk2 j w hw)
          exact ⟨desR_congr (hkm w (List.mem_of_getElem? hw)).1.ple d1 (fun b h1 h2 => e2 b (by omega)), limR_congr d2 (e2 _ (by omega)) (e2 _ (by omega))⟩
        · have := c6 q hq
          show match ss S q with | none => _ | some v => _
          cases hs : ss S q with
          | none => rw [hs] at this; rw [e2 32 (by omega)]; exact this
          | some v =>
            rw [hs] at this
            exact ⟨by rw [e2 32 (by omega)]; exact this.1, desR_congr (hI.2.2.2.2.1 q v hs).ple this.2 (fun b h1 h2 => e2 b (by omega))⟩
        · exact ⟨by rw [e2 0 (by omega)]; exact c7.1, fun i x hx => by rw [e2 241 (by omega)]; exact c7.2 i x hx⟩
        · rw [e2 0 (by omega)]; exact c8
      have hres : (cpA (cpA (bcm m2 1 (61 + 15 * e) (pn v)) (36 + e) 265 0 0 4) (49 + e) 266 0 0 8).1 33 0 = nI k.length := by rw [h33, ← hm2, wI_same]
      show K _ _
      rw [hres]
      refine k1 _ (ClsR_des (S := (sg S, k, S.2.2)) hkm hI.2.2.2.2.1 hC0 (desR_congr hv.1.ple (desR_bcm (by omega) hv.1.ple d1') (fun b h1 h2 => ho2 b (by omega) (by omega))) ⟨fun i hi => ?_, fun i hi => ?_⟩ (fun b hb1 hb2 q1 q2 => ?_)) (fun b hb1 => ?_)
      · rw [cpA_get, if_neg (by omega), cpA_get, if_pos (by omega), hb _ (by omega), g2 _ (by omega)]
        simpa using d2.1 i hi
      · rw [cpA_get, if_pos (by omega), cpA_get, if_neg (by omega), hb _ (by omega), g2 _ (by omega)]
        simpa using d2.2 i hi
      · rw [ho2 b q1 q2]
        rcases hb2 with z | z
        · rw [z, hb0]
        · rw [hb b z]
      · rw [ho2 b (by omega) (by omega), hb b (by omega), g2 b (by omega)]
    · unfold wp_X12_undo
      obtain ⟨r1, ⟨r2, r3⟩, r4, r5, r6⟩ := hR
      rw [if_neg (by rw [r2]; exact ine (i := 0) (by omega) (by omega) (by omega))]
      rintro m2 rfl
      rw [r2, hk, show (1 : Int32) = nI 1 from rfl, nI_sub (by omega), show k.length + 1 - 1 = k.length by omega]
      refine undo_l (b := k.length) (wI_same _ _ _ _) (by omega) ?_
      have hw : ∀ b, b ≠ 427 → b ≠ 426 → (cpA (wI m1 426 4 (nI k.length)) 429 427 (137 * k.length) 0 137).1 b = m1.1 b := fun b q1 q2 => by
        funext j; rw [cpA_get, if_neg (fun z => q1 z.1), wI_ne _ _ _ _ q2]
      have hw4 : (cpA (wI m1 426 4 (nI k.length)) 429 427 (137 * k.length) 0 137).1 426 4 = nI k.length := by rw [cpA_get, if_neg (by omega), wI_same]
      have hwj : ∀ j, j ≠ 4 → (cpA (wI m1 426 4 (nI k.length)) 429 427 (137 * k.length) 0 137).1 426 j = m1.1 426 j := fun j hj => by rw [cpA_get, if_neg (by omega), wI_nj _ _ _ _ hj]
      rw [hw4]
      refine k1 _ ⟨fun j hj => ?_, ⟨hw4, fun j w hw2 i hi => ?_⟩, ?_, ⟨by rw [hwj 12 (by omega)]; exact r5.1, by rw [hw 436 (by omega) (by omega)]; exact r5.2⟩, by rw [hwj 13 (by omega)]; exact r6⟩ (fun b hb => hw b (by omega) (by omega))
      · rw [cpA_get, if_pos (by omega), wI_ne _ _ _ _ (by omega), show j - 0 + 137 * k.length = 137 * k.length + j by omega]
        exact r3 k.length v hget j hj
      · rw [hw 429 (by omega) (by omega)]
        exact r3 j w (hk2 j w hw2) i hi
      · rw [hw 430 (by omega) (by omega), hw 431 (by omega) (by omega)]
        exact r4
    · exact ⟨hv.1, hv.2, by show k.length ≤ 12; omega, hkm, hI.2.2.2.2⟩
def sset (s : Nat → Option Vc) (q : Nat) (g : Vc) : Nat → Option Vc := fun i => if i = q then some g else s i
theorem op_save {m : Mm} {S : AS} {x : Int32} {P : Int32 → Int32 → Mm → Prop} (h : Sim m S) (kk : ∀ r m2 S2, Sim m2 S2 → P r r m2) : wp_X11_save x m (fun r m1 => wp_X12_save x m1 (fun r2 m2 => P r r2 m2)) := by
  have hI := h.2.2
  have a1 : (0 : Int32).toInt = 0 := rfl
  have a2 : (1 : Int32).toInt = 1 := rfl
  have a3 : (2 : Int32).toInt = 2 := rfl
  by_cases hx : 0 ≤ x.toInt ∧ x.toInt ≤ 1
  · obtain ⟨x1, x2⟩ := hx
    obtain ⟨q, eq, eq2, eq3⟩ := asN x1
    have hq : q < 2 := by omega
    refine combine (c := wp_X11_save x m) (d := wp_X12_save x) (r := nI (pn (sg S))) (S2 := (sg S, sh S, sset (ss S) q (sg S), S.2.2.2)) h (fun K k1 => ?_) (fun m1 K hR k1 => ?_) ?_ kk
    · unfold wp_X11_save
      rw [if_neg (by rw [fa_lt]; omega), if_pos (by rw [fa_lt]; omega), eq3]
      have hC := h.2.1
      refine become_ok (n := pn (sg S)) (by omega) (by rw [hC.1.2.2.1]; exact hI.1.g2) hI.1.ple ?_
      rintro m4 rfl
      have hb : ∀ b, b < 396 + 15 * q ∨ 396 + 15 * q + 15 ≤ b → (bcm m (396 + 15 * q) 1 (pn (sg S))).1 b = m.1 b := fun b hb => bcm_out hb hI.1.ple
      have hw : ∀ b, b ≠ 32 → b < 396 + 15 * q ∨ 396 + 15 * q + 15 ≤ b → (wI (bcm m (396 + 15 * q) 1 (pn (sg S))) 32 q 1).1 b = m.1 b := fun b q1 q2 => by
        funext j; rw [wI_ne _ _ _ _ q1, hb b q2]
      have hr : (wI (bcm m (396 + 15 * q) 1 (pn (sg S))) 32 q 1).1 1 4 = nI (pn (sg S)) := by rw [hw 1 (by omega) (by omega), hC.1.2.2.1]; exact hI.1.g2
      rw [hr]
      obtain ⟨c1, c2, ⟨c3, o, ho, c4, c5⟩, c6, c7, c8⟩ := hC
      refine k1 _ ⟨desR_congr hI.1.ple c1 (fun b h1 h2 => hw b (by omega) (by omega)), limR_congr c2 (hw 265 (by omega) (by omega)) (hw 266 (by omega) (by omega)), ⟨by rw [hw 33 (by omega) (by omega)]; exact c3, o, ho, by rw [hw 33 (by omega) (by omega)]; exact c4, fun j v hv => ?_⟩, fun i hi => ?_, ?_, ?_⟩ (fun b hb2 => ?_)
      · obtain ⟨d1, d2⟩ := c5 j v hv
        exact ⟨desR_congr (hI.2.2.2.1 v (List.mem_of_getElem? hv)).1.ple d1 (fun b h1 h2 => hw b (by omega) (by omega)), limR_congr d2 (hw _ (by omega) (by omega)) (hw _ (by omega) (by omega))⟩
      · show match sset (ss S) q (sg S) i with | none => _ | some v => _
        unfold sset
        by_cases e : i = q
        · rw [if_pos e, e]
          refine ⟨wI_same _ _ _ _, desR_congr hI.1.ple (desR_bcm (d := 396 + 15 * q) (e := 1) (by omega) hI.1.ple c1) (fun b h1 h2 => ?_)⟩
          funext j; rw [wI_ne _ _ _ _ (by omega)]
        · rw [if_neg e]
          have := c6 i hi
          cases hs : ss S i with
          | none => rw [hs] at this; rw [wI_nj _ _ _ _ e, hb 32 (by omega)]; exact this
          | some v =>
            rw [hs] at this
            exact ⟨by rw [wI_nj _ _ _ _ e, hb 32 (by omega)]; exact this.1, desR_congr (hI.2.2.2.2.1 i v hs).ple this.2 (fun b h1 h2 => hw b (by omega) (by omega))⟩
      · exact ⟨by rw [hw 0 (by omega) (by omega)]; exact c7.1, fun i x hx => by rw [hw 241 (by omega) (by omega)]; exact c7.2 i x hx⟩
      · rw [hw 0 (by omega) (by omega)]; exact c8
      · exact hw b (by omega) (by omega)
    · unfold wp_X12_save
      rw [if_neg (in_ne (by omega) (by omega)), eq]
      refine ⟨vp_in_nI hq (by omega), ?_⟩
      rintro m3 rfl
      rw [clamp_nI (by omega)]
      refine save_l hq ?_
      have hw : ∀ b, b ≠ 430 → b ≠ 431 → (cpA (wI m1 431 q 1) 427 430 0 (125 * q) 125).1 b = m1.1 b := fun b q1 q2 => by
        funext j; rw [cpA_get, if_neg (fun z => q1 z.1), wI_ne _ _ _ _ q2]
      obtain ⟨r1, r2, r4, r5, r6⟩ := hR
      have hr : v_X12_many (cpA (wI m1 431 q 1) 427 430 0 (125 * q) 125) = nI (pn (sg S)) := by
        unfold v_X12_many
        rw [hw 427 (by omega) (by omega), r1 2 (by omega)]; exact hI.1.g2
      rw [hr]
      refine k1 _ ⟨by rw [hw 427 (by omega) (by omega)]; exact r1, by rw [hw 426 (by omega) (by omega), hw 429 (by omega) (by omega)]; exact r2, fun i hi => ?_, by rw [hw 426 (by omega) (by omega), hw 436 (by omega) (by omega)]; exact r5, by rw [hw 426 (by omega) (by omega)]; exact r6⟩ (fun b hb => hw b (by omega) (by omega))
      show match sset (ss S) q (sg S) i with | none => _ | some v => _
      unfold sset
      by_cases e : i = q
      · rw [if_pos e, e]
        refine ⟨by rw [cpA_get, if_neg (by omega), wI_same], fun k hk => ?_⟩
        rw [cpA_get, if_pos (by omega), wI_ne _ _ _ _ (by omega), show 125 * q + k - 125 * q + 0 = k by omega]
        exact r1 k (by omega)
      · rw [if_neg e]
        have := r4 i hi
        cases hs : ss S i with
        | none => rw [hs] at this; rw [cpA_get, if_neg (by omega), wI_nj _ _ _ _ e]; exact this
        | some v =>
          rw [hs] at this
          refine ⟨by rw [cpA_get, if_neg (by omega), wI_nj _ _ _ _ e]; exact this.1, fun k hk => ?_⟩
          rw [cpA_get, if_neg (by omega), wI_ne _ _ _ _ (by omega)]
          exact this.2 k hk
    · obtain ⟨i1, i2, i3, i4, i5, i6⟩ := hI
      refine ⟨i1, i2, i3, i4, fun i v hv => ?_, i6⟩
      have hv2 : sset (ss S) q (sg S) i = some v := hv
      unfold sset at hv2
      by_cases e : i = q
      · rw [if_pos e] at hv2
        rw [← Option.some.inj hv2]; exact i1
      · rw [if_neg e] at hv2; exact i5 i v hv2
  · refine combine (c := wp_X11_save x m) (d := wp_X12_save x) (r := -1) (S2 := S) h (fun K k1 => ?_) (fun m1 K hR k1 => ?_) hI kk
    · have k2 := k1 _ h.2.1 (fun _ _ => rfl)
      unfold wp_X11_save
      by_cases q1 : x < 0
      · rw [if_pos q1]; exact k2
      · rw [if_neg q1, if_neg (by rw [fa_lt] at q1 ⊢; omega)]; exact k2
    · unfold wp_X12_save
      rw [if_pos (in_0 (by omega))]; exact k1 _ hR (fun _ _ => rfl)
/-- the design of one row, the limits and weights of another -/
def over (v g : Vc) : Vc := fun k => if k < 125 then v k else g k
theorem over_lo {v g : Vc} {k : Nat} (h : k < 125) : over v g k = v k := if_pos h
theorem over_hi {v g : Vc} {k : Nat} (h : ¬ k < 125) : over v g k = g k := if_neg h
theorem Ll_over {v g : Vc} (h : Ll g) : Ll (over v g) := by
  obtain ⟨h1, h2, h3⟩ := h
  refine ⟨fun i hi => by rw [over_hi (by omega)]; exact h1 i hi, by rw [over_hi (by omega)]; exact h2, fun i hi => by rw [over_hi (by omega)]; exact h3 i hi⟩
theorem limR_over {f : Nat → Nat → Int32} {a b : Nat} {v g : Vc} (h : limR f a b g) : limR f a b (over v g) :=
  ⟨fun i hi => by rw [over_hi (by omega)]; exact h.1 i hi, fun i hi => by rw [over_hi (by omega)]; exact h.2 i hi⟩
theorem desR_over {f : Nat → Nat → Int32} {d : Nat} {v g : Vc} (hn : pn v ≤ 10) (h : desR f d v) : desR f d (over v g) := desR_row hn h (fun k hk => over_lo hk)
theorem op_restore {m : Mm} {S : AS} {x : Int32} {P : Int32 → Int32 → Mm → Prop} (h : Sim m S) (kk : ∀ r m2 S2, Sim m2 S2 → P r r m2) : wp_X11_restore x m (fun r m1 => wp_X12_restore x m1 (fun r2 m2 => P r r2 m2)) := by
  have hI := h.2.2
  have a1 : (0 : Int32).toInt = 0 := rfl
  have a2 : (1 : Int32).toInt = 1 := rfl
  have a3 : (2 : Int32).toInt = 2 := rfl
  by_cases hx : 0 ≤ x.toInt ∧ x.toInt ≤ 1
  · obtain ⟨x1, x2⟩ := hx
    obtain ⟨q, eq, eq2, eq3⟩ := asN x1
    have hq : q < 2 := by omega
    cases hs : ss S q with
    | none =>
      refine combine (c := wp_X11_restore x m) (d := wp_X12_restore x) (r := -2) (S2 := S) h (fun K k1 => ?_) (fun m1 K hR k1 => ?_) hI kk
      · unfold wp_X11_restore
        have := h.2.1.2.2.2.1 q hq
        rw [hs] at this
        rw [if_neg (by rw [fa_lt]; omega), if_pos (by rw [fa_lt]; omega), eq3, if_pos this]
        exact k1 _ h.2.1 (fun _ _ => rfl)
      · unfold wp_X12_restore
        refine RB_begins hR (fun m2 hB => ?_)
        have := (RB_stop hB).2.2.1 q hq
        rw [hs] at this
        rw [if_neg (in_ne (by omega) (by omega)), eq]
        refine ⟨vp_in_nI hq (by omega), ?_⟩
        rw [clamp_nI (by omega), if_pos this]
        exact k1 _ (RB_stop hB) hB.2.2.2.2
    | some v =>
      have hv := hI.2.2.2.2.1 q v hs
      refine combine (c := wp_X11_restore x m) (d := wp_X12_restore x) (r := nI (pn v)) (S2 := (over v (sg S), pushH (sh S) (sg S), S.2.2)) h (fun K k1 => ?_) (fun m1 K hR k1 => ?_) ?_ kk
      · unfold wp_X11_restore
        have := h.2.1.2.2.2.1 q hq
        rw [hs] at this
        rw [if_neg (by rw [fa_lt]; omega), if_pos (by rw [fa_lt]; omega), eq3, if_neg (by rw [this.1]; decide)]
        refine remember_ok h.2.1 hI (fun m2 hC hk => ?_)
        have hd : desR m2.1 (396 + 15 * q) v := desR_congr hv.ple this.2 (fun b h1 h2 => hk.1 b (by omega))
        refine become_ok (n := pn v) (by omega) (by rw [hd.2.2.1]; exact hv.g2) hv.ple ?_
        have hd2 := desR_bcm (d := 1) (e := 396 + 15 * q) (by omega) hv.ple hd
        rw [hd2.2.2.1, hv.g2]
        have hb : ∀ b, b = 0 ∨ 16 ≤ b → (bcm m2 1 (396 + 15 * q) (pn v)).1 b = m2.1 b := fun b hb => bcm_out (by omega) hv.ple
        refine k1 _ (ClsR_des (S := (sg S, pushH (sh S) (sg S), S.2.2)) (hist_ok hI) hI.2.2.2.2.1 hC (desR_over hv.ple hd2) (limR_over (limR_congr hC.2.1 (hb 265 (by omega)) (hb 266 (by omega)))) (fun b _ h2 _ _ => hb b h2)) (fun b hb2 => ?_)
        rw [hb b (by omega), hk.1 b (by omega)]
      · unfold wp_X12_restore
        refine RB_begins hR (fun m2 hB => ?_)
        have := (RB_stop hB).2.2.1 q hq
        rw [hs] at this
        rw [if_neg (in_ne (by omega) (by omega)), eq]
        refine ⟨vp_in_nI hq (by omega), ?_⟩
        rw [clamp_nI (by omega), if_neg (by rw [this.1]; decide)]
        refine restore_l hq ?_
        have hw : ∀ b, b ≠ 427 → (cpA m2 430 427 (125 * q) 0 125).1 b = m2.1 b := fun b q1 => by
          funext j; rw [cpA_get, if_neg (fun z => q1 z.1)]
        have hB2 : RB m1 (cpA m2 430 427 (125 * q) 0 125) S (over v (sg S)) := by
          obtain ⟨b1, b2, b3, b4, b5⟩ := hB
          refine ⟨fun k hk => ?_, ⟨by rw [hw 428 (by omega)]; exact b2.1, (hw 438 (by omega)).trans b2.2.1, by rw [hw 426 (by omega)]; exact b2.2.2⟩, by rw [hw 426 (by omega)]; exact b3, Rr_congr b4 (by rw [hw 426 (by omega)]) (by rw [hw 426 (by omega)]) (by rw [hw 426 (by omega)]) (fun b hb => hw b (by unfold rcell at hb; omega)), fun b hb => by rw [hw b (by omega)]; exact b5 b hb⟩
          rw [cpA_get]
          by_cases hk2 : k < 125
          · rw [if_pos (by omega), over_lo hk2, show k - 0 + 125 * q = 125 * q + k by omega]; exact this.2 k hk2
          · rw [if_neg (by omega), over_hi hk2]; exact b1 k hk
        have hr : v_X12_many (cpA m2 430 427 (125 * q) 0 125) = nI (pn v) := by
          unfold v_X12_many
          rw [hB2.1 2 (by omega), over_lo (by omega)]; exact hv.g2
        rw [hr]
        exact RB_ends hI hB2 (fun m3 r3 l3 => k1 _ r3 l3)
      · exact Inv_push hI (Dd_row (fun k hk => over_lo hk) hv) (Ll_over hI.2.1)
  · refine combine (c := wp_X11_restore x m) (d := wp_X12_restore x) (r := -1) (S2 := S) h (fun K k1 => ?_) (fun m1 K hR k1 => ?_) hI kk
    · have k2 := k1 _ h.2.1 (fun _ _ => rfl)
      unfold wp_X11_restore
      by_cases q1 : x < 0
      · rw [if_pos q1]; exact k2
      · rw [if_neg q1, if_neg (by rw [fa_lt] at q1 ⊢; omega)]; exact k2
    · unfold wp_X12_restore
      refine RB_begins hR (fun m2 hB => ?_)
      rw [if_pos (in_0 (by omega))]; exact k1 _ (RB_stop hB) hB.2.2.2.2
