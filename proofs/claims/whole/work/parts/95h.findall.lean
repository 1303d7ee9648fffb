/-! the reference finds all -/
def Rst (g : Vc) (m : Mm) : Prop := stR m g ∧ flatR m g (pn g) ∧ fR m g (fA g) (pn g) ∧ rSm m g (fA g) (seamL g (fA g) (g 125))
def frE (m m2 : Mm) : Prop := ∀ b j, b ≠ 447 → b ≠ 448 → ¬ (b = 426 ∧ j = 27) → m2.1 b j = m.1 b j
theorem frE.c {m m2 : Mm} (f : frE m m2) {b : Nat} (h1 : b ≠ 447) (h2 : b ≠ 448) (h3 : b ≠ 426) : m2.1 b = m.1 b := funext fun j => f b j h1 h2 (fun q => h3 q.1)
theorem Rst_E {g : Vc} {m m2 : Mm} (h : Rst g m) (f : frE m m2) : Rst g m2 := by
  obtain ⟨h1, h2, h3, h4⟩ := h
  refine ⟨fun k hk => by rw [f.c (by omega) (by omega) (by omega)]; exact h1 k hk, fun k hk => ?_, fun k hk => ?_, ?_⟩
  · rw [f.c (b := 432) (by omega) (by omega) (by omega), f.c (b := 433) (by omega) (by omega) (by omega), f.c (b := 434) (by omega) (by omega) (by omega), f.c (b := 435) (by omega) (by omega) (by omega)]; exact h2 k hk
  · have h5 := h3 k hk
    unfold pR exR at h5 ⊢
    rw [f.c (b := 439) (by omega) (by omega) (by omega), f.c (b := 440) (by omega) (by omega) (by omega), f.c (b := 441) (by omega) (by omega) (by omega), f.c (b := 442) (by omega) (by omega) (by omega), f.c (b := 443) (by omega) (by omega) (by omega), f.c (b := 444) (by omega) (by omega) (by omega), f.c (b := 445) (by omega) (by omega) (by omega)]
    exact h5
  · unfold rSm at h4 ⊢
    rw [f 426 25 (by omega) (by omega) (by omega), f.c (b := 446) (by omega) (by omega) (by omega)]
    exact h4
def RR (g : Vc) (m0 m : Mm) (l : List Fnd) : Prop := Rst g m ∧ rFn m g l ∧ frE m0 m
theorem rfind3 {g : Vc} {m0 m : Mm} {l : List Fnd} {kd p sc oc : Nat} {a : Int32} {x1 x3 x4 : Int32} {K : Mm → Prop} (hl : Ll g) (h : RR g m0 m l) (hn : l.length < 1600) (hk : kd < 8) (e1 : x1 = nI kd) (e3 : x3 = cdI sc) (e4 : x4 = cdI oc)
    (kk : ∀ m2, RR g m0 m2 (l ++ em g kd p sc oc a) → (∀ b, b ≠ 447 → b ≠ 426 → m2.1 b = m.1 b) → K m2) : wp_X12_finds x1 (nI p) x3 x4 a m K := by
  refine rfinds_ok hl h.1.1 h.2.1 hn hk e1 e3 e4 (fun m2 q1 q2 => kk m2 ⟨Rst_E h.1 (fun b j b1 _ b3 => q2 b j b1 b3), q1, fun b j b1 b2 b3 => by rw [q2 b j b1 b3, h.2.2 b j b1 b2 b3]⟩ (fun b b1 b2 => funext fun j => q2 b j b1 (fun q => b2 q.1)))
theorem em_z {g : Vc} {kd p sc oc : Nat} : em g kd p sc oc 0 = [] := by unfold em; split; rfl; rw [if_pos (by decide)]
theorem rfolded_ok {g : Vc} {m : Mm} {k s : Nat} {K : Int32 → Mm → Prop} (hD : Dd g) (hs' : stR m g) (hf : flatR m g (pn g)) (hk : k < pn g) (hs : s < 4) (kk : ∀ y, flag y (aFo g k s = true) → K y m) : wp_X12_isFolded (nI k) (nI s) m K := by
  have hr := hD.r
  have hp1 := hD.ple
  obtain ⟨f1, f2, f3, f4⟩ := hf k hk
  obtain ⟨sl1, sl2⟩ := sdL_e (s := s) hr hk
  have hfs := fsum_le hD hk hs
  have hsl : v_X12_sideLength (nI k) (nI s) m = nI (sdL g k s) := by
    unfold v_X12_sideLength
    rw [clamp_nI (by omega), f3, f4, show rm32 (nI s) 2 = nI (s % 2) from rm32_nI (d := 2) (by omega) (by omega) (by omega), ← sl1]
    by_cases z : s % 2 = 0
    · rw [if_pos z, z, if_pos (show nI 0 = (0 : Int32) from rfl)]
    · rw [if_neg z, if_neg (show ¬ nI (s % 2) = (0 : Int32) from ine (i := 0) z (by omega) (by omega))]
  have ssl : s_X12_sideLength (nI k) (nI s) := vp_in_nI (by omega) (by omega)
  unfold wp_X12_isFolded
  refine acc_loop (wp := fun n i y => wp_X12_isFolded_l5 _ K (nI k) (nI s) n y i m) (a := 1) (N := pn g) (fun o y => y + nI (chS g k s o)) (by omega) (by omega) (fun n i h1 h2 => ?_) (fun n i y h1 h2 k2 => ?_)
  · show wb_X12_isFolded_l5 _ _ _ _ _ _ _ _
    unfold wb_X12_isFolded_l5
    rw [many_ok hs' hD.g2, if_pos (ile h1 (by omega)), ifo_sm]
    have ef : fb_sm (fun i => chS g k s (1 + i)) (pn g - 1) = fsum g k s := rfl
    rw [ef]
    show _ ∧ _
    rw [hsl, of1 hs' (by omega)]
    refine ⟨⟨fun _ => ssl, fun _ => ⟨sof1 (by omega), fun _ => ssl⟩⟩, ?_⟩
    rintro y25 h25
    refine kk y25 ?_
    have ec : ∀ {α : Type} (a b : α), (if nI (fsum g k s) = nI (sdL g k s) then a else b) = if fsum g k s = sdL g k s then a else b := fun a b => if_nI (by omega) (by omega) a b
    rw [ec] at h25
    have eaf : (aFo g k s = true) ↔ ((0 < k ∧ nearN g k = s) ∨ fsum g k s = sdL g k s) := by
      unfold aFo
      rw [Bool.or_eq_true, Bool.and_eq_true, decide_eq_true_iff, decide_eq_true_iff, decide_eq_true_iff]
    rw [h25]
    refine flag_iff ?_ eaf.symm
    by_cases zk : 0 < k
    · obtain ⟨-, ⟨t, ht, et⟩⟩ := hr.par.2.2 k zk hk
      have en : rm32 (pf g k 1 + 2) 4 = nI (nearN g k) := by
        unfold nearN
        rw [et, clamp_nI (by omega), show nI t + (2 : Int32) = nI (t + 2) from nI_add t 2]
        exact rm32_nI (d := 4) (by omega) (by omega) (by omega)
      rw [if_neg (show ¬ nI k ≤ (0 : Int32) from inle (i := 0) zk (by omega)), en, if_nI (by have := nearN_lt g k; omega) (by omega)]
      by_cases z1 : nearN g k = s
      · rw [if_pos z1]; exact Or.inl ⟨rfl, Or.inl ⟨zk, z1⟩⟩
      · rw [if_neg z1]
        by_cases z2 : fsum g k s = sdL g k s
        · rw [if_pos z2]; exact Or.inl ⟨rfl, Or.inr z2⟩
        · rw [if_neg z2]; exact Or.inr ⟨rfl, by rintro (q | q); exact z1 q.2; exact z2 q⟩
    · rw [if_pos (show nI k ≤ (0 : Int32) from ile (i := 0) (by omega) (by omega))]
      by_cases z2 : fsum g k s = sdL g k s
      · rw [if_pos z2]; exact Or.inl ⟨rfl, Or.inr z2⟩
      · rw [if_neg z2]; exact Or.inr ⟨rfl, by rintro (q | q); exact zk q.1; exact z2 q⟩
  · show wb_X12_isFolded_l5 _ _ _ _ _ _ _ _
    unfold wb_X12_isFolded_l5
    rw [many_ok hs' hD.g2, if_neg (inle h2 (by omega)), of0 hs' (by omega), of1 hs' (by omega), of3 hs' (by omega)]
    refine ⟨sof0 (by omega), fun _ => ⟨sof1 (by omega), fun _ => sof3 (by omega)⟩, ?_⟩
    rintro y8 h8 y9 rfl
    have e8 : y8 = nI (chS g k s i) := by
      rw [h8, ← chS_e hr h2 (by omega)]
      by_cases z1 : pf g i 0 = nI k
      · rw [if_pos z1]
        by_cases z2 : pf g i 1 = nI s
        · rw [if_pos z2, if_pos ⟨by omega, z1, z2⟩]
        · rw [if_neg z2, if_neg (fun q => z2 q.2.2)]
      · rw [if_neg z1, if_neg (fun q => z1 q.2.1)]
    rw [e8]
    exact k2
/-- the strip beyond a side: its ends -/
def st4 (g : Vc) (k s j : Nat) : Int32 := if j / 2 = s % 2 then (if j % 2 = 0 then lo2 g (s % 2) k + inkL g (s % 2) k else lo2 g (s % 2) k + inkH g (s % 2) k) else (if j % 2 = 0 then stl g k s else stl g k s + sW g k s)
theorem rstrip_ok {g : Vc} {m : Mm} {k s : Nat} {K : Int32 → Mm → Prop} (hr : rngD g) (hl : Ll g) (hs' : stR m g) (hf : flatR m g (pn g)) (hk : k < pn g) (hs : s < 4) (k0 : sW g k s ≤ 0 → K 0 m) (k1 : 0 < (sW g k s).toInt → ∀ m2, (∀ j, j < 4 → m2.1 448 j = st4 g k s j) → (∀ b, b ≠ 448 → m2.1 b = m.1 b) → K (sW g k s) m2) : wp_X12_stripOf (nI k) (nI s) m K := by
  have hp1 := hr.par.1
  have e0 : (0 : Int32).toInt = 0 := rfl
  obtain ⟨l1, l2⟩ : inR (g 126) 0 20 := hl.1 1 (by omega)
  obtain ⟨p1, p2⟩ := r_reach (x := nI s) hr hs' hf hk
  obtain ⟨f1, f2, f3, f4⟩ := hf k hk
  have hlim : v_X12_limitOf (1 : Int32) m = g 126 := hs' 126 (by omega)
  have esw := mn_t (aReach g k (nI s)) (g 126)
  have esw2 : sW g k s = mn32 (aReach g k (nI s)) (g 126) := rfl
  unfold wp_X12_stripOf
  rw [p1, hlim]
  refine ⟨p2, ?_⟩
  rintro y2 rfl
  refine ⟨vp_in_nI (n := 126) (by omega) (by omega), ?_⟩
  rw [← mn_least (aReach g k (nI s)) (g 126)]
  rw [← esw2] at esw ⊢
  rintro y4 rfl
  by_cases z1 : aReach g k (nI s) ≤ 0
  · rw [if_pos z1]
    rw [fa_le] at z1
    exact k0 (by rw [fa_le]; split at esw <;> omega)
  rw [if_neg z1]
  by_cases z2 : sW g k s = 0
  · rw [if_pos z2]; exact k0 (by rw [z2]; decide)
  rw [if_neg z2]
  rw [fa_le] at z1
  rw [fa_eq] at z2
  have hpos : 0 < (sW g k s).toInt := by split at esw <;> omega
  have gi : ¬ pf g k 7 = -9 := reach_img (fun q => by rw [q] at z1; exact z1 (by decide))
  have k2 := k1 hpos
  have T : ∀ mm : Mm, stR mm g → v_X12_turnedSize (nI k) 0 mm = tw g k ∧ v_X12_turnedSize (nI k) 1 mm = th g k ∧ ∀ z, s_X12_turnedSize (nI k) z mm := fun mm h => r_turned hr h hk gi
  refine ⟨sof9 (by omega), ?_⟩
  rw [of9 hs' (by omega), of10 hs' (by omega)]
  rintro y8 rfl
  refine ⟨sof10 (by omega), ?_⟩
  rintro y10 rfl
  rw [show rm32 (nI s) 2 = nI (s % 2) from rm32_nI (d := 2) (by omega) (by omega) (by omega), clamp_nI (by omega), f1, f3]
  have n10 : ¬ (1 : Int32) = 0 := by decide
  intro y12 h12
  have g12 : y12 = if s % 2 = 0 then 1 else 0 := by
    rw [h12]
    by_cases z : s % 2 = 0
    · rw [if_pos z, z, if_pos (show nI 0 = (0 : Int32) from rfl)]
    · rw [if_neg z, if_neg (show ¬ nI (s % 2) = (0 : Int32) from ine (i := 0) z (by omega) (by omega))]
  refine ⟨vp_in_nI (by omega) (by omega), ?_⟩
  intro y19 h19 m20 h20
  have s20 : stR m20 g := fun k hk => by rw [h20, wI_ne _ _ _ _ (by omega)]; exact hs' k hk
  have b20 : ∀ b, b ≠ 448 → m20.1 b = m.1 b := fun b hb => by funext j; rw [h20, wI_ne _ _ _ _ hb]
  rw [b20 432 (by omega), b20 434 (by omega), f1, f3, (T m20 s20).1]
  refine ⟨fun _ => ⟨vp_in_nI (by omega) (by omega), (T m20 s20).2.2 _⟩, ?_⟩
  intro y25 h25 m26 h26
  have s26 : stR m26 g := fun k hk => by rw [h26, wI_ne _ _ _ _ (by omega)]; exact s20 k hk
  have b26 : ∀ b, b ≠ 448 → m26.1 b = m.1 b := fun b hb => by funext j; rw [h26, wI_ne _ _ _ _ hb, b20 b hb]
  rw [b26 433 (by omega), b26 435 (by omega), f2, f4]
  refine ⟨vp_in_nI (by omega) (by omega), ?_⟩
  intro y33 h33 m34 h34
  have s34 : stR m34 g := fun k hk => by rw [h34, wI_ne _ _ _ _ (by omega)]; exact s26 k hk
  have b34 : ∀ b, b ≠ 448 → m34.1 b = m.1 b := fun b hb => by funext j; rw [h34, wI_ne _ _ _ _ hb, b26 b hb]
  rw [b34 433 (by omega), b34 435 (by omega), f2, f4, (T m34 s34).2.1]
  refine ⟨fun _ => ⟨vp_in_nI (by omega) (by omega), (T m34 s34).2.2 _⟩, ?_⟩
  intro y39 h39 m40 h40
  have b40 : ∀ b, b ≠ 448 → m40.1 b = m.1 b := fun b hb => by funext j; rw [h40, wI_ne _ _ _ _ hb, b34 b hb]
  have v20 : m20.1 448 0 = y19 := by rw [h20, wI_same]
  have v34 : m34.1 448 2 = y33 := by rw [h34, wI_same]
  rw [v20] at h25
  rw [v34] at h39
  refine k2 m40 (fun j hj => ?_) b40
  have w0 : m40.1 448 0 = y19 := by rw [h40, wI_nj _ _ _ _ (by omega), h34, wI_nj _ _ _ _ (by omega), h26, wI_nj _ _ _ _ (by omega), v20]
  have w1 : m40.1 448 1 = y25 := by rw [h40, wI_nj _ _ _ _ (by omega), h34, wI_nj _ _ _ _ (by omega), h26, wI_same]
  have w2 : m40.1 448 2 = y33 := by rw [h40, wI_nj _ _ _ _ (by omega), v34]
  have w3 : m40.1 448 3 = y39 := by rw [h40, wI_same]
  by_cases z : s % 2 = 0
  · rw [if_pos z] at g12
    rw [g12, if_neg n10] at h19 h25 h33 h39
    have c0 : y19 = lo2 g (s % 2) k + inkL g (s % 2) k := by rw [h19, ← mx_most]; unfold lo2 inkL; rw [if_pos z, if_pos z]
    have c1 : y25 = lo2 g (s % 2) k + inkH g (s % 2) k := by rw [h25, ← mn_least]; unfold lo2 inkH; rw [if_pos z, if_pos z]
    have c2 : y33 = stl g k s := by
      rw [h33]
      unfold stl lo2 hi2
      rw [z, if_neg (show ¬ 1 - 0 = 0 by omega), if_neg (show ¬ 1 - 0 = 0 by omega)]
      by_cases q : s = 2
      · rw [if_pos (show nI s = (2 : Int32) by rw [q]; rfl), if_neg (by omega)]
      · rw [if_neg (show ¬ nI s = (2 : Int32) from ine (i := 2) q (by omega) (by omega)), if_pos (by omega)]
    have c3 : y39 = stl g k s + sW g k s := by rw [h39, c2]
    unfold st4
    have hj4 : j = 0 ∨ j = 1 ∨ j = 2 ∨ j = 3 := by omega
    rcases hj4 with q | q | q | q <;> subst q
    · rw [w0, c0, if_pos (by omega), if_pos (by omega)]
    · rw [w1, c1, if_pos (by omega), if_neg (by omega)]
    · rw [w2, c2, if_neg (by omega), if_pos (by omega)]
    · rw [w3, c3, if_neg (by omega), if_neg (by omega)]
  · rw [if_neg z] at g12
    rw [g12, if_pos rfl] at h19 h25 h33 h39
    have c0 : y19 = stl g k s := by
      rw [h19]
      unfold stl lo2 hi2
      rw [show s % 2 = 1 by omega, if_pos (show 1 - 1 = 0 by omega), if_pos (show 1 - 1 = 0 by omega)]
      by_cases q : s = 1
      · rw [if_pos (show nI s = (1 : Int32) by rw [q]; rfl), if_neg (by omega)]
      · rw [if_neg (show ¬ nI s = (1 : Int32) from ine (i := 1) q (by omega) (by omega)), if_pos (by omega)]
    have c1 : y25 = stl g k s + sW g k s := by rw [h25, c0]
    have c2 : y33 = lo2 g (s % 2) k + inkL g (s % 2) k := by rw [h33, ← mx_most]; unfold lo2 inkL; rw [if_neg z, if_neg z]
    have c3 : y39 = lo2 g (s % 2) k + inkH g (s % 2) k := by rw [h39, ← mn_least]; unfold lo2 inkH; rw [if_neg z, if_neg z]
    unfold st4
    have hj4 : j = 0 ∨ j = 1 ∨ j = 2 ∨ j = 3 := by omega
    rcases hj4 with q | q | q | q <;> subst q
    · rw [w0, c0, if_neg (by omega), if_pos (by omega)]
    · rw [w1, c1, if_neg (by omega), if_neg (by omega)]
    · rw [w2, c2, if_pos (by omega), if_pos (by omega)]
    · rw [w3, c3, if_pos (by omega), if_neg (by omega)]
theorem com_c (a b c d : Int32) : v_X12_common a b c d = v_X11_common a b c d := by unfold v_X12_common v_X11_common; rw [mn_least, mx_most]
theorem rintr_ok {g : Vc} {m0 m : Mm} {l : List Fnd} {k s : Nat} {K : Mm → Prop} (hD : Dd g) (hl : Ll g) (hk : k < pn g) (hs : s < 4) (h : RR g m0 m l) (hn : l.length + 11 ≤ 1600) (kk : ∀ m2, RR g m0 m2 (l ++ (INs g k s ++ BY g k s)) → K m2) : wp_X12_findIntrusions (nI k) (nI s) m K := by
  have hr := hD.r
  have hp1 := hD.ple
  have e0 : (0 : Int32).toInt = 0 := rfl
  unfold wp_X12_findIntrusions
  refine rstrip_ok hr hl h.1.1 h.1.2.1 hk hs (fun z => ?_) (fun z m2 st f2 => ?_)
  · show (if _ then _ else _)
    rw [if_pos rfl]
    refine kk m ?_
    unfold INs BY
    rw [if_pos z, if_pos z, List.append_nil, List.append_nil]
    exact h
  · have zz : ¬ sW g k s ≤ 0 := by rw [fa_le]; omega
    show (if _ then _ else _)
    rw [if_neg (show ¬ sW g k s = 0 by rw [fa_eq]; omega)]
    have R2 : RR g m0 m2 l := ⟨Rst_E h.1 (fun b j _ b2 _ => by rw [f2 b b2]), by have h2 := h.2.1; unfold rFn at h2 ⊢; rw [f2 426 (by omega), f2 447 (by omega)]; exact h2, fun b j b1 b2 b3 => by rw [f2 b b2, h.2.2 b j b1 b2 b3]⟩
    refine app_loop (wp := fun n i s2 => wp_X12_findIntrusions_l12 _ K (nI k) (nI s) n i s2) (R := fun s2 l => RR g m0 s2 l ∧ ∀ j, j < 4 → s2.1 448 j = st4 g k s j) (INo g k s) (a := 0) (N := pn g) (c := 1) (B := 1599) (by omega) (by omega) (fun i _ _ => INo_len _ _ _ _) (by omega) ?_ ?_ ⟨R2, st⟩
    · rintro n i m3 i1 i2 ⟨i3, i4⟩
      show wb_X12_findIntrusions_l12 _ _ _ _ _ _ _
      unfold wb_X12_findIntrusions_l12
      rw [many_ok i3.1.1 hD.g2, if_pos (ile i1 (by omega))]
      show ∀ y45, y45 = _ → _
      rw [i4 0 (by omega), i4 1 (by omega), i4 2 (by omega), i4 3 (by omega), i3.1.1 0 (by omega), i3.1.1 1 (by omega)]
      intro y45 h45
      have e45 : y45 = bey g k s := by
        rw [h45]
        unfold bey st4 stl lo2 hi2
        rcases side4 hs with q | q | q | q <;> subst q
        · rw [if_pos (show nI 0 = (0 : Int32) from rfl)]; simp
        · rw [if_neg (show ¬ nI 1 = (0 : Int32) by decide), if_pos (show nI 1 = (1 : Int32) from rfl)]; simp
        · rw [if_neg (show ¬ nI 2 = (0 : Int32) by decide), if_neg (show ¬ nI 2 = (1 : Int32) by decide), if_pos (show nI 2 = (2 : Int32) from rfl)]; simp
        · rw [if_neg (show ¬ nI 3 = (0 : Int32) by decide), if_neg (show ¬ nI 3 = (1 : Int32) by decide), if_neg (show ¬ nI 3 = (2 : Int32) by decide)]; simp
      rw [e45]
      have hfl := flL_len (X := INo g k s) (a := 0) (c := 1) (n := pn g) (fun i _ _ => INo_len g k s i)
      unfold INs BY at kk
      rw [if_neg zz, if_neg zz, ← List.append_assoc] at kk
      exact rfind3 (kd := 5) (sc := s + 1) (oc := 0) hl i3 (by rw [List.length_append]; show _ + (flL (INo g k s) 0 (pn g)).length < 1600; omega) (by omega) rfl (cdI_s s) cdI_z (fun m4 c4 _ => kk m4 c4)
    · rintro n o m3 l3 _ ho ⟨i3, i4⟩ i5 k2
      show wb_X12_findIntrusions_l12 _ _ _ _ _ _ _
      unfold wb_X12_findIntrusions_l12
      obtain ⟨f1, f2', f3, f4⟩ := i3.1.2.1 o ho
      rw [many_ok i3.1.1 hD.g2, if_neg (inle ho (by omega)), of0 i3.1.1 (by omega), of1 i3.1.1 (by omega), of0 i3.1.1 (by omega), of1 i3.1.1 (by omega)]
      refine ⟨fun _ => ⟨sof0 (by omega), fun _ => sof1 (by omega)⟩, ?_⟩
      intro y11 h11
      refine ⟨fun _ => ⟨sof0 (by omega), fun _ => sof1 (by omega)⟩, ?_⟩
      intro y18 h18
      refine ⟨vp_in_nI (by omega) (by omega), ?_⟩
      rw [clamp_nI (by omega), i4 0 (by omega), i4 1 (by omega), i4 2 (by omega), i4 3 (by omega), f1, f2', f3, f4, com_c, com_c]
      intro y20 h20 y21 h21
      have F11 : flag y11 (0 < o ∧ pf g o 0 = nI k ∧ pf g o 1 = nI s) := by
        rw [h11]
        by_cases z0 : 0 < o
        · rw [if_neg (show ¬ nI o ≤ (0 : Int32) from inle (i := 0) z0 (by omega))]
          by_cases z1 : pf g o 0 = nI k
          · rw [if_pos z1]
            by_cases z2 : pf g o 1 = nI s
            · rw [if_pos z2]; exact Or.inl ⟨rfl, z0, z1, z2⟩
            · rw [if_neg z2]; exact Or.inr ⟨rfl, fun q => z2 q.2.2⟩
          · rw [if_neg z1]; exact Or.inr ⟨rfl, fun q => z1 q.2.1⟩
        · rw [if_pos (show nI o ≤ (0 : Int32) from ile (i := 0) (by omega) (by omega))]; exact Or.inr ⟨rfl, fun q => z0 q.1⟩
      have F18 : flag y18 (0 < k ∧ pf g k 0 = nI o ∧ nearN g k = s) := by
        rw [h18]
        by_cases z0 : 0 < k
        · obtain ⟨-, ⟨t, ht, et⟩⟩ := hr.par.2.2 k z0 hk
          have en : rm32 (pf g k 1 + 2) 4 = nI (nearN g k) := by
            unfold nearN
            rw [et, clamp_nI (by omega), show nI t + (2 : Int32) = nI (t + 2) from nI_add t 2]
            exact rm32_nI (d := 4) (by omega) (by omega) (by omega)
          rw [if_neg (show ¬ nI k ≤ (0 : Int32) from inle (i := 0) z0 (by omega)), en, if_nI (by have := nearN_lt g k; omega) (by omega)]
          by_cases z1 : pf g k 0 = nI o
          · rw [if_pos z1]
            by_cases z2 : nearN g k = s
            · rw [if_pos z2]; exact Or.inl ⟨rfl, z0, z1, z2⟩
            · rw [if_neg z2]; exact Or.inr ⟨rfl, fun q => z2 q.2.2⟩
          · rw [if_neg z1]; exact Or.inr ⟨rfl, fun q => z1 q.2.1⟩
        · rw [if_pos (show nI k ≤ (0 : Int32) from ile (i := 0) (by omega) (by omega))]; exact Or.inr ⟨rfl, fun q => z0 q.1⟩
      have eJ : joinB g k s o = true ↔ (0 < o ∧ pf g o 0 = nI k ∧ pf g o 1 = nI s) ∨ (0 < k ∧ pf g k 0 = nI o ∧ nearN g k = s) := by
        unfold joinB
        rw [Bool.or_eq_true, Bool.and_eq_true, Bool.and_eq_true, Bool.and_eq_true, Bool.and_eq_true, decide_eq_true_iff, decide_eq_true_iff, decide_eq_true_iff, decide_eq_true_iff, decide_eq_true_iff, decide_eq_true_iff, and_assoc, and_assoc]
      have kn : INo g k s o = [] → wp_X12_findIntrusions_l12 _ K (nI k) (nI s) n (nI o + 1) m3 := fun z => k2 m3 ⟨by rw [z, List.append_nil]; exact i3, i4⟩
      unfold INo at kn k2
      rw [if_nI (by omega) (by omega)]
      by_cases z0 : o = k
      · rw [if_pos z0]; exact kn (by rw [if_pos z0])
      rw [if_neg z0]
      rw [if_neg z0] at kn k2
      rcases F11 with ⟨u1, u2⟩ | ⟨u1, u2⟩
      · rw [if_neg (by rw [u1]; decide)]; exact kn (by rw [if_pos (eJ.mpr (Or.inl u2))])
      rw [if_pos u1]
      rcases F18 with ⟨v1, v2⟩ | ⟨v1, v2⟩
      · rw [if_neg (by rw [v1]; decide)]; exact kn (by rw [if_pos (eJ.mpr (Or.inr v2))])
      rw [if_pos v1]
      have nJ : ¬ joinB g k s o = true := fun q => by rcases eJ.mp q with q | q; exact u2 q; exact v2 q
      rw [if_neg nJ] at kn k2
      have ex : (if s % 2 = 0 then y20 else y21) = bes g k s o ∧ (if s % 2 = 0 then y21 else y20) = ins g k s o := by
        rw [h20, h21]
        unfold bes ins st4
        by_cases z : s % 2 = 0
        · rw [if_pos z, if_pos z, z]
          exact ⟨rfl, rfl⟩
        · rw [if_neg z, if_neg z, show s % 2 = 1 by omega]
          exact ⟨rfl, rfl⟩
      have kadd : ¬ bes g k s o ≤ 0 → ∀ y28 : Int32, y28 = (if rm32 (nI s) 2 = 0 then y21 else y20) → wp_X12_finds 5 (nI k) (nI s) (nI o) y28 m3 (fun m29 => wp_X12_findIntrusions_l12 _ K (nI k) (nI s) n (nI o + 1) m29) := fun z1 y28 h28 => by
        rw [if_neg z1] at k2
        have e28 : y28 = ins g k s o := by
          rw [h28, ← ex.2, show rm32 (nI s) 2 = nI (s % 2) from rm32_nI (d := 2) (by omega) (by omega) (by omega)]
          by_cases z : s % 2 = 0
          · rw [if_pos z, z, if_pos (show nI 0 = (0 : Int32) from rfl)]
          · rw [if_neg z, if_neg (show ¬ nI (s % 2) = (0 : Int32) from ine (i := 0) z (by omega) (by omega))]
        rw [e28]
        exact rfind3 (kd := 5) (sc := s + 1) (oc := o + 1) hl i3 (by omega) (by omega) rfl (cdI_s s) (cdI_s o) (fun m4 c4 f4 => k2 m4 ⟨c4, fun j hj => by rw [f4 448 (by omega) (by omega)]; exact i4 j hj⟩)
      have kno : bes g k s o ≤ 0 ∨ ins g k s o ≤ 0 → wp_X12_findIntrusions_l12 _ K (nI k) (nI s) n (nI o + 1) m3 := fun z => kn (by
        by_cases z1 : bes g k s o ≤ 0
        · rw [if_pos z1]
        · rw [if_neg z1]
          rcases z with z | z
          · exact absurd z z1
          · unfold em
            split
            · rfl
            · first | rfl | rw [if_pos z])
      by_cases z : s % 2 = 0
      · rw [if_pos z, if_pos z] at ex
        by_cases z1 : y20 ≤ 0
        · rw [if_pos z1]; exact kno (Or.inl (by rw [← ex.1]; exact z1))
        rw [if_neg z1]
        by_cases z2 : y21 ≤ 0
        · rw [if_pos z2]; exact kno (Or.inr (by rw [← ex.2]; exact z2))
        rw [if_neg z2]
        exact kadd (by rw [← ex.1]; exact z1)
      · rw [if_neg z, if_neg z] at ex
        by_cases z1 : y20 ≤ 0
        · rw [if_pos z1]; exact kno (Or.inr (by rw [← ex.2]; exact z1))
        rw [if_neg z1]
        by_cases z2 : y21 ≤ 0
        · rw [if_pos z2]; exact kno (Or.inl (by rw [← ex.1]; exact z2))
        rw [if_neg z2]
        exact kadd (by rw [← ex.1]; exact z2)
