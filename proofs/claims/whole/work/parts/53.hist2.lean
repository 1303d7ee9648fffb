/-! the class's history over the abstract state -/
theorem desR_bcm {m : Mm} {d e : Nat} {g : Vc} (hde : d + 15 ≤ e ∨ e + 15 ≤ d) (hn : pn g ≤ 10) (h : desR m.1 e g) : desR (bcm m d e (pn g)).1 d g := by
  obtain ⟨h1, h2, h3, h4, h5⟩ := h
  refine ⟨?_, ?_, ?_, fun i hi => ⟨?_, ?_⟩, fun k hk => ?_⟩
  · rw [bcm_get, if_pos (by omega)]; exact h1
  · rw [bcm_get, if_pos (by omega)]; exact h2
  · rw [bcm_get, if_pos (by omega)]; exact h3
  · rw [bcm_get, if_neg (by omega), if_pos (by omega), show d + 1 - d + e = e + 1 by omega]; exact (h4 i hi).1
  · rw [bcm_get, if_neg (by omega), if_pos (by omega), show d + 2 - d + e = e + 2 by omega]; exact (h4 i hi).2
  · have hj : ∀ j, j < 15 → (bcm m d e (pn g)).1 (d + 5 + k) j = m.1 (e + 5 + k) j := fun j hj => by
      rw [bcm_get, if_neg (by omega), if_neg (by omega), if_pos (by omega), show d + 5 + k - d + e = e + 5 + k by omega]
    obtain ⟨a1, a2, a3, a4, a5, a6, a7⟩ := h5 k hk
    refine ⟨fun j q1 q2 => by rw [hj j (by omega)]; exact a1 j q1 q2, fun q => ?_, fun q j qj => by rw [hj j (by omega)]; exact a3 q j qj, ?_, ?_, ?_, ?_⟩
    · rw [hj 0 (by omega), hj 1 (by omega)]; exact a2 q
    · rw [hj 11 (by omega)]; exact a4
    · rw [hj 12 (by omega)]; exact a5
    · rw [hj 13 (by omega)]; exact a6
    · rw [hj 14 (by omega)]; exact a7
theorem hcopy_ok {a b n : Nat} {m : Mm} {K : Mm → Prop} (ha : len a = n) (hb : len b = n) (hn : n < 1000) (hne : a ≠ b) (h : K (cpA m a b 0 0 n)) : wp_X6_copy a b m K := by
  unfold wp_X6_copy
  refine copy_loop (wp := fun k y m => wp_X6_copy_l2 K a b k y m) (kx := K) (src := a) (dst := b) (sO := 0) (dO := 0) (N := n) (fun e => absurd e hne) (by omega) (fun k s hs => ?_) (fun k i s hi e kk => ?_) h
  · show wb_X6_copy_l2 _ _ _ _ _ _
    unfold wb_X6_copy_l2
    rw [ha, if_pos (show Int32.ofNat n ≤ nI n from ile (a := n) (Nat.le_refl n) (by omega))]
    exact hs
  · show wb_X6_copy_l2 _ _ _ _ _ _
    unfold wb_X6_copy_l2
    rw [ha, hb, if_neg (show ¬ Int32.ofNat n ≤ nI i from inle (a := n) hi (by omega)), if_neg (show ¬ Int32.ofNat n ≤ nI i from inle (a := n) hi (by omega))]
    refine ⟨vp_in_nI hi (by omega), vp_in_nI hi (by omega), fun m5 h5 => ?_⟩
    rw [h5, clamp_nI (by omega)]
    simpa using kk
def pushH (h : List Vc) (g : Vc) : List Vc := if h.length = 12 then h.tail ++ [g] else h ++ [g]
/-- cells that are not the history's stay -/
def keepH (m m2 : Mm) : Prop := (∀ b, b < 33 ∨ 241 ≤ b → m2.1 b = m.1 b) ∧ m2.2 = m.2
theorem limR_congr {f f2 : Nat → Nat → Int32} {a b : Nat} {g : Vc} (h : limR f a b g) (ha : f2 a = f a) (hb : f2 b = f b) : limR f2 a b g := by
  unfold limR at h ⊢
  rw [ha, hb]
  exact h
theorem len36 {e : Nat} (h : e < 12) : len (36 + e) = 4 := le_e35 h
theorem len49 {e : Nat} (h : e < 12) : len (49 + e) = 8 := le_e48 h
theorem len265 : len 265 = 4 := by decide +kernel
theorem len266 : len 266 = 8 := by decide +kernel
/-- an entry of the ring is written: design, limits, weights -/
def entW (m : Mm) (e n : Nat) : Mm := cpA (cpA (bcm m (61 + 15 * e) 1 n) 265 (36 + e) 0 0 4) 266 (49 + e) 0 0 8
theorem entW_out {m : Mm} {e n b : Nat} (he : e < 12) (hn : n ≤ 10) (h1 : b < 61 + 15 * e ∨ 61 + 15 * e + 15 ≤ b) (h2 : b ≠ 36 + e) (h3 : b ≠ 49 + e) : (entW m e n).1 b = m.1 b := by
  funext j
  unfold entW
  rw [cpA_get, if_neg (fun q => h3 q.1), cpA_get, if_neg (fun q => h2 q.1), bcm_out h1 hn]
theorem entW_des {m : Mm} {e : Nat} {g : Vc} (he : e < 12) (hn : pn g ≤ 10) (h : desR m.1 1 g) : desR (entW m e (pn g)).1 (61 + 15 * e) g := by
  refine desR_congr hn (desR_bcm (d := 61 + 15 * e) (e := 1) (by omega) hn h) (fun b h1 h2 => ?_)
  funext j
  unfold entW
  rw [cpA_get, if_neg (by omega), cpA_get, if_neg (by omega)]
theorem entW_lim {m : Mm} {e n : Nat} {g : Vc} (he : e < 12) (hn : n ≤ 10) (h : limR m.1 265 266 g) : limR (entW m e n).1 (36 + e) (49 + e) g := by
  have o1 : ∀ j, (bcm m (61 + 15 * e) 1 n).1 265 j = m.1 265 j := fun j => by rw [bcm_out (by omega) hn]
  have o2 : ∀ j, (bcm m (61 + 15 * e) 1 n).1 266 j = m.1 266 j := fun j => by rw [bcm_out (by omega) hn]
  refine ⟨fun i hi => ?_, fun i hi => ?_⟩
  · unfold entW
    rw [cpA_get, if_neg (by omega), cpA_get, if_pos (by omega), o1]
    simpa using h.1 i hi
  · unfold entW
    rw [cpA_get, if_pos (by omega), cpA_get, if_neg (by omega), o2]
    simpa using h.2 i hi
theorem remember_j {m : Mm} {S : AS} {K : Mm → Prop} (hC : ClsR m S) (hI : Inv S) (hlen : (sh S).length < 12) (h : ∀ m2, ClsR m2 (sg S, sh S ++ [sg S], S.2.2) → keepH m m2 → K m2) : wp_X6_remember_j28 K 1 m := by
  obtain ⟨c1, c2, ⟨c3, o, ho, c4, c5⟩, c6, c7, c8⟩ := hC
  have hD := hI.1
  have hH := hI.2.2.2.1
  unfold wp_X6_remember_j28
  have hidx : rm32 (m.1 33 1 + m.1 33 0) (12 : Int32) = nI ((o + (sh S).length) % 12) := by
    rw [c3, c4, nI_add, show (12 : Int32) = nI 12 from rfl, rm32_nI (by omega) (by omega) (by omega)]
  generalize he : (o + (sh S).length) % 12 = e at hidx
  have he2 : e < 12 := by omega
  rintro y2 rfl
  rw [hidx]
  refine ⟨vp_in_nI he2 (by omega), ?_⟩
  rw [clamp_nI (by omega)]
  have hn4 : m.1 1 4 = nI (pn (sg S)) := by rw [c1.2.2.1]; exact hD.g2
  refine become_ok (by omega) hn4 hD.ple ?_
  refine hcopy_ok len265 (len36 he2) (by omega) (by omega) ?_
  refine hcopy_ok len266 (len49 he2) (by omega) (by omega) ?_
  rintro m7 rfl
  have hE : ∀ b, (b < 33 ∨ 241 ≤ b) → (entW m e (pn (sg S))).1 b = m.1 b := fun b hb => entW_out he2 hD.ple (by omega) (by omega) (by omega)
  have h33 : ∀ j, (entW m e (pn (sg S))).1 33 j = m.1 33 j := fun j => by rw [entW_out he2 hD.ple (by omega) (by omega) (by omega)]
  show K (wI (entW m e (pn (sg S))) 33 0 ((entW m e (pn (sg S))).1 33 0 + 1))
  rw [h33, c3, nI_1]
  have hw : ∀ b, b ≠ 33 → (wI (entW m e (pn (sg S))) 33 0 (nI ((sh S).length + 1))).1 b = (entW m e (pn (sg S))).1 b := fun b hb => by funext j; rw [wI_ne _ _ _ _ hb]
  have hw2 : ∀ b, (b < 33 ∨ 241 ≤ b) → (wI (entW m e (pn (sg S))) 33 0 (nI ((sh S).length + 1))).1 b = m.1 b := fun b hb => by rw [hw b (by omega), hE b hb]
  refine h _ ⟨desR_congr hD.ple c1 (fun b h1 h2 => hw2 b (by omega)), limR_congr c2 (hw2 265 (by omega)) (hw2 266 (by omega)), ⟨by rw [wI_same]; show nI _ = nI (sh S ++ [sg S]).length; rw [List.length_append]; rfl, o, ho, ?_, fun j v hv => ?_⟩, fun q hq => ?_, ?_, ?_⟩ ⟨hw2, rfl⟩
  · rw [wI_nj _ _ _ _ (by omega), h33, c4]
  · have hj : j < (sh S).length + 1 := by
      have h3 : j < (sh S ++ [sg S]).length := (List.getElem?_eq_some_iff.mp hv).1
      simpa using h3
    by_cases hjl : j = (sh S).length
    · subst hjl
      have hv2 : v = sg S := by
        have h3 : (sh S ++ [sg S])[(sh S).length]? = some v := hv
        rw [List.getElem?_append_right (Nat.le_refl _), Nat.sub_self] at h3
        exact (Option.some.inj h3).symm
      subst hv2
      rw [he]
      exact ⟨desR_congr hD.ple (entW_des he2 hD.ple c1) (fun b h1 h2 => hw b (by omega)), limR_congr (entW_lim he2 hD.ple c2) (hw _ (by omega)) (hw _ (by omega))⟩
    · have hv2 : (sh S)[j]? = some v := by
        have h3 : (sh S ++ [sg S])[j]? = some v := hv
        rwa [List.getElem?_append_left (by omega)] at h3
      have hvD := (hH v (List.mem_of_getElem? hv2)).1
      obtain ⟨d1, d2⟩ := c5 j v hv2
      have hne : (o + j) % 12 ≠ e := by omega
      refine ⟨desR_congr hvD.ple d1 (fun b h1 h2 => ?_), limR_congr d2 ?_ ?_⟩
      · rw [hw b (by omega), entW_out he2 hD.ple (by omega) (by omega) (by omega)]
      · rw [hw _ (by omega), entW_out he2 hD.ple (by omega) (by omega) (by omega)]
      · rw [hw _ (by omega), entW_out he2 hD.ple (by omega) (by omega) (by omega)]
  · have := c6 q hq
    show match ss S q with | none => _ | some v => _
    cases hs : ss S q with
    | none => rw [hs] at this; rw [hw2 32 (by omega)]; exact this
    | some v =>
      rw [hs] at this
      refine ⟨by rw [hw2 32 (by omega)]; exact this.1, ?_⟩
      exact desR_congr (hI.2.2.2.2.1 q v hs).ple this.2 (fun b h1 h2 => hw2 b (by omega))
  · refine ⟨by rw [hw2 0 (by omega)]; exact c7.1, fun i x hx => by rw [hw2 241 (by omega)]; exact c7.2 i x hx⟩
  · rw [hw2 0 (by omega)]; exact c8
theorem remember_ok {m : Mm} {S : AS} {K : Mm → Prop} (hC : ClsR m S) (hI : Inv S) (h : ∀ m2, ClsR m2 (sg S, pushH (sh S) (sg S), S.2.2) → keepH m m2 → K m2) : wp_X6_remember 1 m K := by
  unfold wp_X6_remember
  have hlen := hI.2.2.1
  have c3 := hC.2.2.1.1
  by_cases h12 : (sh S).length = 12
  · rw [if_neg (by rw [c3]; exact inlt (i := 12) (by omega) (by omega))]
    obtain ⟨c1, c2, ⟨-, o, ho, c4, c5⟩, c6, c7, c8⟩ := hC
    rintro m8 rfl m9 rfl
    have hidx : rm32 (m.1 33 1 + (1 : Int32)) (12 : Int32) = nI ((o + 1) % 12) := by
      rw [c4, nI_1, show (12 : Int32) = nI 12 from rfl, rm32_nI (by omega) (by omega) (by omega)]
    rw [hidx]
    generalize hm2 : wI (wI m 33 1 (nI ((o + 1) % 12))) 33 0 (11 : Int32) = m2
    have hw : ∀ b, b ≠ 33 → m2.1 b = m.1 b := fun b hb => by funext j; rw [← hm2, wI_ne _ _ _ _ hb, wI_ne _ _ _ _ hb]
    have htl : (sh S).tail.length = 11 := by rw [List.length_tail]; omega
    have hget : ∀ j, (sh S).tail[j]? = (sh S)[j + 1]? := fun j => by rw [List.getElem?_tail]
    have hC2 : ClsR m2 (sg S, (sh S).tail, S.2.2) := by
      refine ⟨desR_congr hI.1.ple c1 (fun b h1 h2 => hw b (by omega)), limR_congr c2 (hw 265 (by omega)) (hw 266 (by omega)), ⟨?_, (o + 1) % 12, by omega, ?_, fun j v hv => ?_⟩, fun q hq => ?_, ?_, ?_⟩
      · show m2.1 33 0 = nI (sh S).tail.length
        rw [htl, ← hm2, wI_same]
        rfl
      · rw [← hm2, wI_nj _ _ _ _ (by omega), wI_same]
      · have hv2 : (sh S)[j + 1]? = some v := by rw [← hget]; exact hv
        obtain ⟨d1, d2⟩ := c5 (j + 1) v hv2
        have hvD := (hI.2.2.2.1 v (List.mem_of_getElem? hv2)).1
        have e1 : ((o + 1) % 12 + j) % 12 = (o + (j + 1)) % 12 := by omega
        rw [e1]
        exact ⟨desR_congr hvD.ple d1 (fun b h1 h2 => hw b (by omega)), limR_congr d2 (hw _ (by omega)) (hw _ (by omega))⟩
      · have := c6 q hq
        show match ss S q with | none => _ | some v => _
        cases hs : ss S q with
        | none => rw [hs] at this; rw [hw 32 (by omega)]; exact this
        | some v =>
          rw [hs] at this
          exact ⟨by rw [hw 32 (by omega)]; exact this.1, desR_congr (hI.2.2.2.2.1 q v hs).ple this.2 (fun b h1 h2 => hw b (by omega))⟩
      · exact ⟨by rw [hw 0 (by omega)]; exact c7.1, fun i x hx => by rw [hw 241 (by omega)]; exact c7.2 i x hx⟩
      · rw [hw 0 (by omega)]; exact c8
    have hI2 : Inv (sg S, (sh S).tail, S.2.2) := ⟨hI.1, hI.2.1, by show (sh S).tail.length ≤ 12; omega, fun v hv => hI.2.2.2.1 v (List.mem_of_mem_tail hv), hI.2.2.2.2⟩
    refine remember_j hC2 hI2 (by show (sh S).tail.length < 12; omega) (fun m3 hm3 hk => h m3 ?_ ⟨fun b hb => by rw [hk.1 b hb, hw b (by omega)], by rw [hk.2, ← hm2]; rfl⟩)
    have e : pushH (sh S) (sg S) = (sh S).tail ++ [sg S] := by unfold pushH; rw [if_pos h12]
    rw [e]
    exact hm3
  · rw [if_pos (by rw [c3]; exact ilt (i := 12) (by omega) (by omega))]
    refine remember_j hC hI (by omega) (fun m3 hm3 hk => h m3 ?_ hk)
    have e : pushH (sh S) (sg S) = sh S ++ [sg S] := by unfold pushH; rw [if_neg h12]
    rw [e]
    exact hm3
