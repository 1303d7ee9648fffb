/-! the class collects: all of it -/
theorem sW_pos {g : Vc} {k s : Nat} : (sW g k s ≤ 0) ↔ ¬ 0 < (sW g k s).toInt := by
  have e0 : (0 : Int32).toInt = 0 := rfl
  rw [fa_le]; omega
theorem BL_len (g : Vc) (k s : Nat) : (BL g k s).length ≤ 1 := by
  unfold BL
  split
  · exact Nat.zero_le _
  · split
    · split
      · exact Nat.zero_le _
      · exact em_len _ _ _ _ _ _
    · exact Nat.zero_le _
theorem BY_len (g : Vc) (k s : Nat) : (BY g k s).length ≤ 1 := by
  unfold BY
  split
  · exact Nat.zero_le _
  · exact em_len _ _ _ _ _ _
theorem INs_len {g : Vc} (hp : pn g ≤ 10) (k s : Nat) : (INs g k s).length ≤ 10 := by
  unfold INs
  split
  · exact Nat.zero_le _
  · have := flL_len (X := INo g k s) (a := 0) (c := 1) (n := pn g) (fun i _ _ => INo_len g k s i)
    omega
theorem SDS_len {g : Vc} (hp : pn g ≤ 10) (k s : Nat) : (SDS g k s).length ≤ 12 := by
  unfold SDS
  rw [List.length_append, List.length_append]
  have := BL_len g k s
  have := BY_len g k s
  have := INs_len hp k s
  omega
theorem FLP_len (g : Vc) (k : Nat) : (FLP g k).length ≤ 4 := by
  unfold FLP
  split
  · have := flL_len (X := OPn g k) (a := 0) (c := 1) (n := 4) (fun i _ _ => em_len _ _ _ _ _ _)
    omega
  · rw [List.length_append]
    have h1 : (GLU g k).length ≤ 1 := em_len _ _ _ _ _ _
    have h2 : (INK g k).length ≤ 1 := by
      unfold INK
      split
      · exact Nat.zero_le _
      · exact em_len _ _ _ _ _ _
    omega
theorem CK_len {g : Vc} (hp : pn g ≤ 10) (k : Nat) : (CK g k).length ≤ 52 := by
  unfold CK
  rw [List.length_append]
  have := FLP_len g k
  have h2 := flL_len (X := SDS g k) (a := 0) (c := 12) (n := 4) (fun i _ _ => SDS_len hp k i)
  split
  · show _ + 0 ≤ 52; omega
  · omega
theorem BRs_len (g : Vc) (i : Nat) : (BRs g i).length ≤ 1 := by
  unfold BRs
  split
  · exact Nat.zero_le _
  · unfold BR1
    split
    · exact Nat.zero_le _
    · exact em_len _ _ _ _ _ _
noncomputable def CL (g : Vc) : List Fnd := (flL (PRS g) 0 (pn g) ++ flL (CK g) 0 (pn g)) ++ flL (BRs g) 0 (seamL g (fA g) (g 125)).length
theorem bey_c {d : Nat} {g : Vc} {m : Mm} {k s : Nat} (hd : desR m.1 d g) (hk : k < pn g) (hs : s < 4) : v_X4_beyondSheet d (d + 5 + k) (nI s) (sW g k s) m = bey g k s := by
  obtain ⟨r1, r2, r3, r4⟩ := (hd.2.2.2.2 k hk).R
  unfold v_X4_beyondSheet bey
  rw [r1, r2, r3, r4, hd.1, hd.2.1, show (0 : Int32) = nI 0 from rfl, show (1 : Int32) = nI 1 from rfl, show (2 : Int32) = nI 2 from rfl, if_nI (by omega) (by omega), if_nI (by omega) (by omega), if_nI (by omega) (by omega)]
theorem cprint_ok {d : Nat} {g : Vc} {m0 m : Mm} {l : List Fnd} {k : Nat} {K : Mm → Prop} (hD : Dd g) (hl : Ll g) (hd2 : d < 240) (hk : k < pn g) (h : CR d g m0 m l) (hn : l.length + 48 ≤ 1000) (kk : ∀ m2, CR d g m0 m2 (l ++ flL (SDS g k) 0 4) → K m2) : wp_X4_collectPrint d (nI k) m K := by
  have hr := hD.r
  have hp1 := hD.ple
  unfold wp_X4_collectPrint
  rw [panelAt_in (by omega)]
  refine app_loop (wp := fun n i s => wp_X4_collectPrint_l9 K d (nI k) (d + 5 + k) n i s) (R := fun s l => CR d g m0 s l) (SDS g k) (a := 0) (N := 4) (c := 12) (B := 1000) (by omega) (by omega) (fun i _ _ => SDS_len hp1 k i) (by omega) ?_ ?_ h
  · intro n i s h1 h2 h3
    have e : i = 4 := by omega
    subst e
    show wb_X4_collectPrint_l9 _ _ _ _ _ _ _
    unfold wb_X4_collectPrint_l9
    rw [if_pos (show (4 : Int32) ≤ nI 4 from ile (a := 4) (by omega) (by omega))]
    exact kk s h3
  · intro n s m1 l1 _ hs h3 h5 k2
    show wb_X4_collectPrint_l9 _ _ _ _ _ _ _
    unfold wb_X4_collectPrint_l9
    rw [if_neg (show ¬ (4 : Int32) ≤ nI s from inle (a := 4) hs (by omega)), c_reach hr h3.1.1 hk]
    rintro y2 rfl
    have hj : ∀ (m2 : Mm), CR d g m0 m2 (l1 ++ BL g k s) → wp_X4_collectPrint_j66 (fun a b => wp_X4_collectPrint_l9 K d (nI k) (d + 5 + k) n a b) K d (nI k) (d + 5 + k) (nI s) (aReach g k (nI s)) m2 := by
      intro m2 c2
      unfold wp_X4_collectPrint_j66
      rw [lim1k c2.1]
      intro y4 h4
      have g4 : y4 = sW g k s := h4
      subst g4
      unfold SDS BY INs at k2
      have lb := BL_len g k s
      by_cases z : sW g k s ≤ 0
      · rw [if_pos z]
        refine k2 m2 ?_
        rw [if_pos z, if_pos z, List.append_nil, List.append_nil]
        exact c2
      · rw [if_neg z]
        have z0 : 0 < (sW g k s).toInt := Decidable.byContradiction fun q => z (sW_pos.mpr q)
        rw [if_neg z, if_neg z, ← List.append_assoc, ← List.append_assoc] at k2
        rw [bey_c c2.1.1 hk hs]
        refine cadd3 (kd := 5) (sc := s + 1) (oc := 0) hp1 hd2 hl c2 (by rw [List.length_append]; omega) (by omega) (by omega) (by omega) (by omega) rfl (cdI_s s) cdI_z (bey_b hD hl hk z0) (fun m4 c4 => ?_)
        have le := em_len g 5 k (s + 1) 0 (bey g k s)
        refine cintr_ok hD hl hd2 hk hs z0 c4 (by rw [List.length_append, List.length_append]; omega) (fun m5 c5 => k2 m5 c5)
    have bl : BL g k s = if aReach g k (nI s) = -9 then [] else if pf g k 6 = -9 then (if aFo g k s then [] else em g 4 k (s + 1) 0 (g 126 - aReach g k (nI s))) else [] := rfl
    by_cases z1 : aReach g k (nI s) = -9
    · rw [if_pos z1]
      rw [if_pos z1] at bl
      exact hj m1 (by rw [bl, List.append_nil]; exact h3)
    rw [if_neg z1]
    rw [if_neg z1] at bl
    by_cases z2 : pf g k 6 = -9
    · have fl : v_X7_isFlap (d + 5 + k) m1 = 0 := by have := (isFlap_c h3.1.1 hk hp1).mpr z2; rw [panelAt_in (by omega)] at this; exact this
      rw [if_pos fl]
      rw [if_pos z2] at bl
      refine callf_ok hD h3.1.1 hk hs (fun y hy => ?_)
      rcases hy with ⟨u1, u2⟩ | ⟨u1, u2⟩
      · rw [if_neg (by rw [u1]; decide)]
        rw [if_pos u2] at bl
        exact hj m1 (by rw [bl, List.append_nil]; exact h3)
      · rw [if_pos u1, lim1k h3.1]
        rw [if_neg u2] at bl
        refine cadd3 (kd := 4) (sc := s + 1) (oc := 0) hp1 hd2 hl h3 (by omega) (by omega) (by omega) (by omega) (by omega) rfl (cdI_s s) cdI_z (bl_b hl z1) (fun m4 c4 => ?_)
        exact hj m4 (by rw [bl]; exact c4)
    · have fl : ¬ v_X7_isFlap (d + 5 + k) m1 = 0 := fun q => z2 ((isFlap_c h3.1.1 hk hp1).mp (by rw [panelAt_in (by omega)]; exact q))
      rw [if_neg fl]
      rw [if_neg z2] at bl
      exact hj m1 (by rw [bl, List.append_nil]; exact h3)
theorem cbreaks_ok {d : Nat} {g : Vc} {m0 m : Mm} {l : List Fnd} {K : Mm → Prop} (hD : Dd g) (hl : Ll g) (hd2 : d < 240) (hll : (seamL g (fA g) (g 125)).length ≤ 360) (h : CR d g m0 m l) (hn : l.length + 360 ≤ 1000) (kk : ∀ m2, CR d g m0 m2 (l ++ flL (BRs g) 0 (seamL g (fA g) (g 125)).length) → K m2) : wp_X4_collectBreaks d m K := by
  have hr := hD.r
  have hp1 := hD.ple
  unfold wp_X4_collectBreaks
  rw [wgt7k h.1]
  by_cases z : g (129 + 7) = 0
  · rw [if_pos z]
    refine kk m ?_
    rw [flL_nil (X := BRs g) (fun i _ _ => ?_), List.append_nil]
    · exact h
    · unfold BRs
      split
      · rfl
      · unfold BR1
        split
        · rfl
        · exact em_0 z
  rw [if_neg z]
  refine app_loop (wp := fun n i s => wp_X4_collectBreaks_l12 K d n i s) (R := fun s l => CR d g m0 s l) (BRs g) (a := 0) (N := (seamL g (fA g) (g 125)).length) (c := 1) (B := 1000) (by omega) (by omega) (fun i _ _ => BRs_len g i) (by omega) ?_ ?_ h
  · intro n i s h1 h2 h3
    show wb_X4_collectBreaks_l12 _ _ _ _ _
    unfold wb_X4_collectBreaks_l12
    rw [h3.1.2.2.2.1, if_pos (ile h1 (by omega))]
    exact kk s h3
  · intro n i m1 l1 _ hi h3 h5 k2
    show wb_X4_collectBreaks_l12 _ _ _ _ _
    unfold wb_X4_collectBreaks_l12
    rw [h3.1.2.2.2.1, if_neg (inle hi (by omega))]
    obtain ⟨s, es⟩ : ∃ s, (seamL g (fA g) (g 125))[i]? = some s := ⟨_, List.getElem?_eq_getElem hi⟩
    have wf := seam_at es
    obtain ⟨w1, w2, w3, w4, -⟩ := seam_at es
    refine mis_L (cmis_ok hr (by omega) h3.1.1 h3.1.2.2.1 h3.1.2.2.2 hll es (fun m3 f3 e3 => ?_))
    have c3 : CR d g m0 m3 l1 := ⟨Cst_B hp1 hd2 h3.1 (fun b hb => f3 b (by omega) (by omega) (by omega) (by omega)), cFn_2 h3.2.1 (f3 264 (by omega) (by omega) (by omega) (by omega)) e3, fun b hb => by rw [f3 b (by omega) (by omega) (by omega) (by omega), h3.2.2 b hb]⟩
    have eb : BRs g i = BR1 g s := by unfold BRs; rw [es]
    rw [eb] at k2
    unfold BR1 at k2
    show (if _ then _ else _)
    rw [lim0k c3.1]
    by_cases z1 : xMis g (fA g) s ≤ g 125
    · rw [if_pos z1]
      rw [if_pos z1, List.append_nil] at k2
      exact k2 m3 c3
    · rw [if_neg z1]
      rw [if_neg z1] at k2
      obtain ⟨c1, c2, c3', c4, c5, c6, c7, c8⟩ := seam_c hp1 c3.1.2.2.2 hll es
      refine ⟨fun _ => c8, fun _ => c8, fun _ => c8, ?_⟩
      rw [c2, c3', c4]
      exact cadd3 (kd := 7) (sc := s.2.1 + 1) (oc := s.2.2.1 + 1) hp1 hd2 hl c3 (by omega) (by omega) (by omega) (by omega) (by omega) rfl (cdI_s _) (cdI_s _) (mis_b hr wf) (fun m4 c4 => k2 m4 c4)
def frZ (m m2 : Mm) : Prop := ∀ b, b < 264 ∨ b = 265 ∨ b = 266 ∨ 395 ≤ b → m2.1 b = m.1 b
theorem collect_ok {d : Nat} {g : Vc} {m : Mm} {K : Mm → Prop} (hD : Dd g) (hl : Ll g) (hd2 : d < 240) (hd : desR m.1 d g) (hlm : limR m.1 265 266 g) (kk : ∀ m2, cFn m2 g (CL g) → (CL g).length ≤ 1000 → frZ m m2 → K m2) : wp_X4_collect d m K := by
  have hr := hD.r
  have hp1 := hD.ple
  unfold wp_X4_collect
  intro m1 h1 m2 h2
  have a2 : m2.1 = m1.1 := by rw [h2, wL_I]
  have b2 : ∀ b, b ≠ 264 → m2.1 b = m.1 b := fun b hb => by rw [a2, h1]; funext j; rw [wI_ne _ _ _ _ hb]
  refine fold_L (cfold_ok hr (desR_congr hp1 hd (fun b b1 b2' => b2 b (by omega))) (by omega) bit_all (fun m3 hF f3 e3 => ?_))
  have l3 : limR m3.1 265 266 g := limR_congr hlm (by rw [f3 265 (by omega) (by omega), b2 265 (by omega)]) (by rw [f3 266 (by omega) (by omega), b2 266 (by omega)])
  have hlim : v_X4_limit (0 : Int32) m3 = g 125 := l3.1 0 (by omega)
  rw [hlim]
  refine find_L (find_ok hr hF (fun m4 s1 s2 s3 f4 e4 => ?_))
  have n4 : m4.1 264 0 = 0 := by rw [f4 264 (by omega) (by omega), f3 264 (by omega) (by omega), a2, h1, wI_same]
  have o4 : m4.2 264 1 = lN 0 := by rw [e4, e3, h2, wL_get, if_pos rfl, if_pos rfl]; rfl
  have C4 : CR d g m4 m4 [] := by
    refine ⟨⟨desR_congr hp1 hd (fun b b1 b2' => by rw [f4 b (by omega) (by omega), f3 b (by omega) (by omega), b2 b (by omega)]), limR_congr l3 (f4 265 (by omega) (by omega)) (f4 266 (by omega) (by omega)), s2, s1⟩, ⟨by rw [n4]; rfl, by rw [o4]; rfl, fun i x hi => by cases hi⟩, fun _ _ => rfl⟩
  have F4 : frZ m m4 := fun b hb => by rw [f4 b (by omega) (by omega), f3 b (by omega) (by omega), b2 b (by omega)]
  refine cpairs2_ok hD hl hd2 C4 (fun m5 C5 => ?_)
  have hpl := PRS_all hp1
  have h4 : ∀ s, Cst d g s → s.1 d 4 = nI (pn g) := fun s q => by rw [q.1.2.2.1]; exact hD.g2
  refine app_loop (wp := fun n i s => wp_X4_collect_l38 _ K d n i s) (R := fun s l => CR d g m4 s l) (CK g) (a := 0) (N := pn g) (c := 52) (B := 610) (by omega) (by omega) (fun i _ _ => CK_len hp1 i) (by omega) ?_ ?_ C5
  · intro n i s i1 i2 i3
    show wb_X4_collect_l38 _ _ _ _ _ _
    unfold wb_X4_collect_l38
    rw [h4 s i3.1, if_pos (ile i1 (by omega))]
    have hcl := flL_len (X := CK g) (a := 0) (c := 52) (n := pn g) (fun i _ _ => CK_len hp1 i)
    refine cbreaks_ok hD hl hd2 s3 i3 (by rw [List.length_append]; show _ + (flL (CK g) 0 (pn g)).length + 360 ≤ 1000; omega) (fun m6 C6 => ?_)
    refine kk m6 C6.2.1 ?_ (fun b hb => by rw [C6.2.2 b (by omega), F4 b hb])
    have hbl := flL_len (X := BRs g) (a := 0) (c := 1) (n := (seamL g (fA g) (g 125)).length) (fun i _ _ => BRs_len g i)
    have s3' : (seamL g (fA g) (g 125)).length ≤ 360 := s3
    unfold CL
    rw [List.length_append, List.length_append]
    omega
  · intro n k m6 l6 _ hk C6 h6 k2
    show wb_X4_collect_l38 _ _ _ _ _ _
    unfold wb_X4_collect_l38
    rw [h4 m6 C6.1, if_neg (inle hk (by omega)), panelAt_in (by omega)]
    have lf := FLP_len g k
    have hj : ∀ rec : Int32 → Mm → Prop, (∀ s2, CR d g m4 s2 (l6 ++ CK g k) → rec (nI k + 1) s2) → ∀ m7, CR d g m4 m7 (l6 ++ FLP g k) → wp_X4_collect_j73 rec K d (nI k) (d + 5 + k) m7 := by
      intro rec k2 m7 C7
      unfold wp_X4_collect_j73
      rw [show_c hr C7.1.1 hk]
      unfold CK at k2
      by_cases z : aShow g k = 0
      · rw [if_pos z]
        rw [if_pos z, List.append_nil] at k2
        exact k2 m7 C7
      · rw [if_neg z]
        rw [if_neg z, ← List.append_assoc] at k2
        exact cprint_ok hD hl hd2 hk C7 (by rw [List.length_append]; omega) (fun m8 C8 => k2 m8 C8)
    have ef : FLP g k = if pf g k 6 = -9 then flL (OPn g k) 0 4 else GLU g k ++ INK g k := rfl
    by_cases z : pf g k 6 = -9
    · have fl : v_X7_isFlap (d + 5 + k) m6 = 0 := by have := (isFlap_c C6.1.1 hk hp1).mpr z; rw [panelAt_in (by omega)] at this; exact this
      rw [if_pos fl]
      rw [if_pos z] at ef
      exact copenl_ok hD hl hd2 hk s3 C6 (by omega) (fun m7 C7 => hj _ k2 m7 (by rw [ef]; exact C7))
    · have fl : ¬ v_X7_isFlap (d + 5 + k) m6 = 0 := fun q => z ((isFlap_c C6.1.1 hk hp1).mp (by rw [panelAt_in (by omega)]; exact q))
      rw [if_neg fl]
      rw [if_neg z] at ef
      exact cflap_ok hD hl hd2 hk z C6 (by omega) (fun m7 C7 => hj _ k2 m7 (by rw [ef]; exact C7))
