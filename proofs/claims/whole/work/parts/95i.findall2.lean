/-! the reference finds all: the whole list -/
noncomputable def RSD (g : Vc) (k s : Nat) : List Fnd := (if pf g k 6 = -9 then OPn g k s ++ BL g k s else []) ++ (INs g k s ++ BY g k s)
noncomputable def RK (g : Vc) (k : Nat) : List Fnd := ((flL (RSD g k) 0 4 ++ (if pf g k 6 = -9 then [] else INK g k)) ++ (if pf g k 6 = -9 then [] else GLU g k)) ++ PRS g k
noncomputable def RLs (g : Vc) : List Fnd := flL (RK g) 0 (pn g) ++ flL (BRs g) 0 (seamL g (fA g) (g 125)).length
theorem RSD_len {g : Vc} (hp : pn g ≤ 10) (k s : Nat) : (RSD g k s).length ≤ 13 := by
  unfold RSD
  rw [List.length_append, List.length_append]
  have h1 : (OPn g k s).length ≤ 1 := em_len _ _ _ _ _ _
  have h2 := BL_len g k s
  have h3 := INs_len hp k s
  have h4 := BY_len g k s
  split
  · rw [List.length_append]; omega
  · show 0 + _ ≤ 13; omega
theorem INK_len (g : Vc) (k : Nat) : (INK g k).length ≤ 1 := by
  unfold INK
  split
  · exact Nat.zero_le _
  · exact em_len _ _ _ _ _ _
theorem RK_len {g : Vc} (hp : pn g ≤ 10) (k : Nat) : (RK g k).length ≤ 72 := by
  unfold RK
  rw [List.length_append, List.length_append, List.length_append]
  have h1 := flL_len (X := RSD g k) (a := 0) (c := 13) (n := 4) (fun i _ _ => RSD_len hp k i)
  have h2 := INK_len g k
  have h3 : (GLU g k).length ≤ 1 := em_len _ _ _ _ _ _
  have h4 := PRS_len g k
  split
  · show _ + 0 + 0 + _ ≤ 72; omega
  · omega
theorem rsides_ok {g : Vc} {m0 m : Mm} {l : List Fnd} {k : Nat} {K : Mm → Prop} (hD : Dd g) (hl : Ll g) (hk : k < pn g) (hll : (seamL g (fA g) (g 125)).length ≤ 720) (h : RR g m0 m l) (hn : l.length + 52 ≤ 1599) (kk : ∀ m2, RR g m0 m2 (l ++ flL (RSD g k) 0 4) → K m2) : wp_X12_findSides (nI k) (g 125) m K := by
  have hr := hD.r
  have hp1 := hD.ple
  unfold wp_X12_findSides
  refine app_loop (wp := fun n i s => wp_X12_findSides_l2 K (nI k) (g 125) n i s) (R := fun s l => RR g m0 s l) (RSD g k) (a := 0) (N := 4) (c := 13) (B := 1599) (by omega) (by omega) (fun i _ _ => RSD_len hp1 k i) (by omega) ?_ ?_ h
  · intro n i s h1 h2 h3
    have e : i = 4 := by omega
    subst e
    show wb_X12_findSides_l2 _ _ _ _ _ _
    unfold wb_X12_findSides_l2
    rw [if_pos (show (4 : Int32) ≤ nI 4 from ile (a := 4) (by omega) (by omega))]
    exact kk s h3
  · intro n s m1 l1 _ hs h3 h5 k2
    show wb_X12_findSides_l2 _ _ _ _ _ _
    unfold wb_X12_findSides_l2
    obtain ⟨p1, p2⟩ := r_reach (x := nI s) hr h3.1.1 h3.1.2.1 hk
    rw [if_neg (show ¬ (4 : Int32) ≤ nI s from inle (a := 4) hs (by omega)), p1]
    refine ⟨p2, ?_⟩
    rintro y3 rfl
    refine ⟨sof6 (by omega), ?_⟩
    have lo : (OPn g k s).length ≤ 1 := em_len _ _ _ _ _ _
    have lb := BL_len g k s
    have hj : ∀ m2, RR g m0 m2 (l1 ++ (if pf g k 6 = -9 then OPn g k s ++ BL g k s else [])) → wp_X12_findSides_j76 (fun a b => wp_X12_findSides_l2 K (nI k) (g 125) n a b) K (nI k) (g 125) (nI s) m2 := fun m2 c2 => by
      unfold wp_X12_findSides_j76
      refine rintr_ok hD hl hk hs c2 ?_ (fun m3 c3 => k2 m3 ?_)
      · rw [List.length_append]
        split
        · rw [List.length_append]; omega
        · show _ + 0 + 11 ≤ 1600; omega
      · unfold RSD
        rw [← List.append_assoc]
        exact c3
    by_cases z : pf g k 6 = -9
    · rw [if_pos ((isFlap_r h3.1.1 (by omega)).mpr z)]
      rw [if_pos z] at hj
      refine ropen_ok (tol := g 125) hr (inR_up (hl.1 0 (by omega)) (by omega) (by omega)) h3.1.2.1 h3.1.2.2.1 h3.1.2.2.2 hll hk hs ?_
      refine rfind3 (kd := 0) (sc := s + 1) (oc := 0) hl h3 (by omega) (by omega) rfl (cdI_s s) cdI_z (fun m4 c4 _ => ?_)
      have bl : BL g k s = if aReach g k (nI s) = -9 then [] else if pf g k 6 = -9 then (if aFo g k s then [] else em g 4 k (s + 1) 0 (g 126 - aReach g k (nI s))) else [] := rfl
      rw [← List.append_assoc] at hj
      show (if _ then _ else _)
      by_cases z1 : aReach g k (nI s) = -9
      · rw [if_pos z1]
        rw [if_pos z1] at bl
        unfold wp_X12_findSides_j72 wp_X12_findSides_j73
        refine rfind3 (kd := 4) (sc := s + 1) (oc := 0) hl c4 (by rw [List.length_append]; have : (em g 0 k (s + 1) 0 (nI (xOpn g (fA g) (g 125) k s))).length ≤ 1 := em_len _ _ _ _ _ _; omega) (by omega) rfl (cdI_s s) cdI_z (fun m5 c5 _ => ?_)
        exact hj m5 (by rw [bl]; rw [em_z] at c5; exact c5)
      · rw [if_neg z1]
        rw [if_neg z1, if_pos z] at bl
        refine rfolded_ok hD c4.1.1 c4.1.2.1 hk hs (fun y hy => ?_)
        have hlim : v_X12_limitOf (1 : Int32) m4 = g 126 := c4.1.1 126 (by omega)
        rw [hlim]
        refine ⟨fun _ => vp_in_nI (n := 126) (by omega) (by omega), ?_⟩
        rintro y17 rfl
        refine rfind3 (kd := 4) (sc := s + 1) (oc := 0) hl c4 (by rw [List.length_append]; have : (em g 0 k (s + 1) 0 (nI (xOpn g (fA g) (g 125) k s))).length ≤ 1 := em_len _ _ _ _ _ _; omega) (by omega) rfl (cdI_s s) cdI_z (fun m5 c5 _ => ?_)
        refine hj m5 ?_
        rw [bl]
        rcases hy with ⟨u1, u2⟩ | ⟨u1, u2⟩
        · rw [if_neg (by rw [u1]; decide), em_z] at c5
          rw [if_pos u2]
          exact c5
        · rw [if_pos u1] at c5
          rw [if_neg u2]
          exact c5
    · rw [if_neg (fun q => z ((isFlap_r h3.1.1 (by omega)).mp q))]
      rw [if_neg z, List.append_nil] at hj
      exact hj m1 h3
theorem rink_ok {g : Vc} {m0 m : Mm} {l : List Fnd} {k : Nat} {K : Mm → Prop} (hD : Dd g) (hl : Ll g) (hk : k < pn g) (h : RR g m0 m l) (hn : l.length + 1 ≤ 1600) (kk : ∀ m2, RR g m0 m2 (l ++ (if pf g k 6 = -9 then [] else INK g k)) → K m2) : wp_X12_findInk (nI k) m K := by
  have hr := hD.r
  have hp1 := hD.ple
  obtain ⟨f1, f2, f3, f4⟩ := h.1.2.1 k hk
  obtain ⟨p1, p2⟩ := r_shows hr h.1.1 h.1.2.1 hk
  unfold wp_X12_findInk
  refine ⟨sof6 (by omega), ?_⟩
  by_cases z : pf g k 6 = -9
  · rw [if_pos ((isFlap_r h.1.1 (by omega)).mpr z)]
    rw [if_pos z, List.append_nil] at kk
    exact kk m h
  rw [if_neg (fun q => z ((isFlap_r h.1.1 (by omega)).mp q)), p1]
  rw [if_neg z] at kk
  unfold INK at kk
  refine ⟨p2, ?_⟩
  by_cases z1 : aShow g k = 0
  · rw [if_pos z1]
    rw [if_pos z1, List.append_nil] at kk
    exact kk m h
  rw [if_neg z1]
  rw [if_neg z1] at kk
  have gi : ¬ pf g k 7 = -9 := fun q => z1 (by unfold aShow; rw [if_pos q])
  have T := r_turned hr h.1.1 hk gi
  have h0 := flap_pos hr hk z
  obtain ⟨-, ⟨t, ht, et⟩⟩ := hr.par.2.2 k h0 hk
  have en : rm32 (pf g k 1 + 2) 4 = nI (nearN g k) := by
    unfold nearN
    rw [et, clamp_nI (by omega), show nI t + (2 : Int32) = nI (t + 2) from nI_add t 2]
    exact rm32_nI (d := 4) (by omega) (by omega) (by omega)
  have nl := nearN_lt g k
  refine ⟨sof1 (by omega), ?_⟩
  rw [of1 h.1.1 (by omega), en, of9 h.1.1 (by omega), of10 h.1.1 (by omega), clamp_nI (by omega), f3, f4, T.1, T.2.1]
  rintro y6 rfl
  refine ⟨sof9 (by omega), ?_⟩
  rintro y8 rfl
  refine ⟨sof10 (by omega), ?_⟩
  rintro y10 rfl
  have vi : vp_in (nI k) 10 := vp_in_nI (by omega) (by omega)
  refine ⟨⟨fun _ => ⟨fun _ => ⟨fun _ => vi, fun _ => ⟨vi, T.2.2 _⟩⟩, fun _ => vi⟩, fun _ => ⟨vi, T.2.2 _⟩⟩, ?_⟩
  intro y21 h21
  have e21 : y21 = ink g k := by
    rw [h21, ← mn_least, ← mn_least, ← mx_most, ← mx_most, show (0 : Int32) = nI 0 from rfl, show (2 : Int32) = nI 2 from rfl, show (3 : Int32) = nI 3 from rfl, if_nI (by omega) (by omega), if_nI (by omega) (by omega), if_nI (by omega) (by omega)]
    unfold ink
    rcases side4 nl with q | q | q | q <;> simp only [q] <;> simp <;> rfl
  have hlim : v_X12_limitOf (2 : Int32) m = g 127 := h.1.1 127 (by omega)
  rw [e21, hlim]
  refine ⟨vp_in_nI (n := 127) (by omega) (by omega), ?_⟩
  exact rfind3 (kd := 6) (sc := 0) (oc := 0) hl h (by omega) (by omega) rfl cdI_z cdI_z (fun m4 c4 _ => kk m4 c4)
def frH (m m2 : Mm) : Prop := ∀ b j, b < 426 ∨ (b = 426 ∧ j ≠ 25 ∧ j ≠ 27) ∨ (427 ≤ b ∧ b < 432) ∨ (436 ≤ b ∧ b < 439) ∨ 449 ≤ b → m2.1 b j = m.1 b j
theorem rall_ok {g : Vc} {m : Mm} {K : Mm → Prop} (hD : Dd g) (hl : Ll g) (hs : stR m g) (kk : ∀ m2, rFn m2 g (RLs g) → (RLs g).length ≤ 1600 → frH m m2 → K m2) : wp_X12_findAll m K := by
  have hr := hD.r
  have hp1 := hD.ple
  unfold wp_X12_findAll
  rw [lim0_r hs]
  refine ⟨lim0_s, ?_⟩
  rintro y2 rfl
  refine rfind_ok hr hs (fun m2 m3 f q s1 s2 s3 hS hll => ?_)
  intro m4 h4
  have b4 : ∀ b j, ¬ (b = 426 ∧ j = 27) → m4.1 b j = m3.1 b j := fun b j hb => by
    rw [h4]
    by_cases w : b = 426
    · subst w; rw [wI_nj _ _ _ _ (by omega)]
    · rw [wI_ne _ _ _ _ w]
  have R4 : RR g m4 m4 [] := by
    refine ⟨?_, ⟨by rw [h4, wI_same]; rfl, fun i x hi => by cases hi⟩, fun _ _ _ _ _ => rfl⟩
    exact Rst_E (m := m3) ⟨s1, s2, s3, hS⟩ (fun b j _ _ b3 => b4 b j b3)
  have F4 : frH m m4 := fun b j hb => by rw [b4 b j (by omega), frG_FQ f q b j (by omega)]
  refine app_loop (wp := fun n i s => wp_X12_findAll_l18 _ K (g 125) n i s) (R := fun s l => RR g m4 s l) (RK g) (a := 0) (N := pn g) (c := 72) (B := 720) (by omega) (by omega) (fun i _ _ => RK_len hp1 i) (by show 0 + 72 * (pn g - 0) ≤ 720; omega) ?_ ?_ R4
  · intro n i s i1 i2 i3
    show wb_X12_findAll_l18 _ _ _ _ _ _
    unfold wb_X12_findAll_l18
    rw [many_ok i3.1.1 hD.g2, if_pos (ile i1 (by omega))]
    have hrl := flL_len (X := RK g) (a := 0) (c := 72) (n := pn g) (fun i _ _ => RK_len hp1 i)
    have hll' : (seamL g (fA g) (g 125)).length ≤ 720 := hll
    have hbl := flL_len (X := BRs g) (a := 0) (c := 1) (n := (seamL g (fA g) (g 125)).length) (fun i _ _ => BRs_len g i)
    refine app_loop (wp := fun n i s => wp_X12_findAll_l160 K (g 125) n i s) (R := fun s l => RR g m4 s l) (BRs g) (a := 0) (N := (seamL g (fA g) (g 125)).length) (c := 1) (B := 1590) (by omega) (by omega) (fun i _ _ => BRs_len g i) (by show (flL (RK g) 0 (pn g)).length + 1 * ((seamL g (fA g) (g 125)).length - 0) ≤ 1590; omega) ?_ ?_ i3
    · intro n2 j s2 j1 j2 j3
      show wb_X12_findAll_l160 _ _ _ _ _
      unfold wb_X12_findAll_l160
      rw [j3.1.2.2.2.1, if_pos (ile j1 (by omega))]
      refine kk s2 j3.2.1 ?_ (fun b j hb => by rw [j3.2.2 b j (by omega) (by omega) (by omega), F4 b j hb])
      unfold RLs
      rw [List.length_append]
      omega
    · intro n2 j s2 l2 _ hj j3 j5 k2
      show wb_X12_findAll_l160 _ _ _ _ _
      unfold wb_X12_findAll_l160
      rw [j3.1.2.2.2.1, if_neg (inle hj (by omega))]
      obtain ⟨s, es⟩ : ∃ s, (seamL g (fA g) (g 125))[j]? = some s := ⟨_, List.getElem?_eq_getElem hj⟩
      obtain ⟨w1, w2, w3, w4, -⟩ := seam_at es
      obtain ⟨r0, r1, r2, -⟩ := j3.1.2.2.2.2 j s es
      refine rmis_ok hr j3.1.1 j3.1.2.1 j3.1.2.2.1 j3.1.2.2.2 hll es ?_
      show _ ∧ _
      rw [show (9 : Int32) * nI j = nI (9 * j) from nI_mul 9 j, show nI (9 * j) + (1 : Int32) = nI (9 * j + 1) from nI_add _ 1, show nI (9 * j) + (2 : Int32) = nI (9 * j + 2) from nI_add _ 2, clamp_nI (by omega), clamp_nI (by omega), clamp_nI (by omega), r0, r1, r2]
      refine ⟨vp_in_nI (by omega) (by omega), vp_in_nI (by omega) (by omega), vp_in_nI (by omega) (by omega), ?_⟩
      rintro y41 h41
      have eb : BRs g j = BR1 g s := by unfold BRs; rw [es]
      rw [eb] at k2
      refine rfind3 (kd := 7) (sc := s.2.1 + 1) (oc := s.2.2.1 + 1) hl j3 (by omega) (by omega) rfl (cdI_s _) (cdI_s _) (fun m5 c5 _ => k2 m5 ?_)
      unfold BR1
      by_cases z1 : xMis g (fA g) s ≤ g 125
      · rw [if_pos z1] at h41
        rw [h41, em_z] at c5
        rw [if_pos z1]
        exact c5
      · rw [if_neg z1] at h41
        rw [h41] at c5
        rw [if_neg z1]
        exact c5
  · intro n k m5 l5 _ hk c5 h5 k2
    show wb_X12_findAll_l18 _ _ _ _ _ _
    unfold wb_X12_findAll_l18
    rw [many_ok c5.1.1 hD.g2, if_neg (inle hk (by omega))]
    have lsd := flL_len (X := RSD g k) (a := 0) (c := 13) (n := 4) (fun i _ _ => RSD_len hp1 k i)
    have lik := INK_len g k
    have lgl : (GLU g k).length ≤ 1 := em_len _ _ _ _ _ _
    have lps := PRS_len g k
    refine rsides_ok hD hl hk hll c5 (by omega) (fun m6 c6 => ?_)
    refine rink_ok hD hl hk c6 (by rw [List.length_append]; omega) (fun m7 c7 => ?_)
    have l7 : (l5 ++ flL (RSD g k) 0 4 ++ (if pf g k 6 = -9 then [] else INK g k)).length ≤ l5.length + 53 := by
      rw [List.length_append, List.length_append]
      split
      · show _ + 0 ≤ _; omega
      · omega
    have hj : ∀ rec : Int32 → Mm → Prop, (∀ s2, RR g m4 s2 (l5 ++ RK g k) → rec (nI k + 1) s2) → ∀ m8, RR g m4 m8 ((l5 ++ flL (RSD g k) 0 4 ++ (if pf g k 6 = -9 then [] else INK g k)) ++ (if pf g k 6 = -9 then [] else GLU g k)) → wp_X12_findAll_j76 rec K (g 125) (nI k) m8 := by
      intro rec k2 m8 c8
      have l8 : ((l5 ++ flL (RSD g k) 0 4 ++ (if pf g k 6 = -9 then [] else INK g k)) ++ (if pf g k 6 = -9 then [] else GLU g k)).length ≤ l5.length + 54 := by
        rw [List.length_append]
        split
        · show _ + 0 ≤ _; rw [if_pos (by assumption)] at l7; omega
        · rw [if_neg (by assumption)] at l7; omega
      unfold wp_X12_findAll_j76
      rw [nI_1]
      rintro y9 rfl
      refine app_loop (wp := fun n2 i s => wp_X12_findAll_l80 rec K (g 125) (nI k) n2 i s) (R := fun s l => RR g m4 s l) (PRp g k) (a := k + 1) (N := pn g) (c := 2) (B := 1590) (by omega) (by omega) (fun i _ _ => PRp_len g k i) (by omega) ?_ ?_ c8
      · intro n2 i s i1 i2 i3
        show wb_X12_findAll_l80 _ _ _ _ _ _ _
        unfold wb_X12_findAll_l80
        rw [many_ok i3.1.1 hD.g2, if_pos (ile i1 (by omega))]
        refine k2 s ?_
        unfold RK PRS
        rw [← List.append_assoc, ← List.append_assoc, ← List.append_assoc]
        exact i3
      · intro n2 o s l9 i1 ho i3 i5 k3
        show wb_X12_findAll_l80 _ _ _ _ _ _ _
        unfold wb_X12_findAll_l80
        obtain ⟨u1, u2⟩ := r_crossing (t := g 125) i3.1.2.2.1 hr.par hk ho
        rw [many_ok i3.1.1 hD.g2, if_neg (inle ho (by omega)), u1]
        refine ⟨u2, rfind3 (kd := 1) (sc := 0) (oc := o + 1) hl i3 (by omega) (by omega) rfl cdI_z (cdI_s o) (fun m10 c10 _ => ?_)⟩
        obtain ⟨v1, v2⟩ := r_doubled (t := g 125) c10.1.2.2.1 hr.par hk ho
        have le1 := em_len g 1 k 0 (o + 1) (xCrs g (fA g) k o (g 125))
        rw [of6 c10.1.1 (by omega), of6 c10.1.1 (by omega), v1]
        refine ⟨sof6 (by omega), fun _ => ⟨sof6 (by omega), fun _ => v2⟩, ?_⟩
        rintro y19 h19
        refine rfind3 (kd := 2) (sc := 0) (oc := o + 1) hl c10 (by rw [List.length_append]; omega) (by omega) rfl cdI_z (cdI_s o) (fun m11 c11 _ => k3 m11 ?_)
        unfold PRp DBp
        rw [← List.append_assoc]
        by_cases z1 : pf g k 6 = nI o
        · rw [if_pos z1] at h19
          rw [h19, em_z] at c11
          rw [if_pos z1]
          exact c11
        · rw [if_neg z1] at h19
          rw [if_neg z1]
          by_cases z2 : pf g o 6 = nI k
          · rw [if_pos z2] at h19
            rw [h19, em_z] at c11
            rw [if_pos z2]
            exact c11
          · rw [if_neg z2] at h19
            rw [h19] at c11
            rw [if_neg z2]
            exact c11
    by_cases z : pf g k 6 = -9
    · have hj2 := hj _ k2 m7 (by rw [if_pos z, List.append_nil, if_pos z]; rw [if_pos z] at c7; exact c7)
      by_cases z0 : nI k ≤ 0
      · rw [if_pos z0]; exact hj2
      · rw [if_neg z0]
        refine ⟨sof6 (by omega), ?_⟩
        rw [if_pos ((isFlap_r c7.1.1 (by omega)).mpr z)]
        exact hj2
    · have h0 := flap_pos hr hk z
      rw [if_neg (show ¬ nI k ≤ (0 : Int32) from inle (i := 0) h0 (by omega))]
      refine ⟨sof6 (by omega), ?_⟩
      rw [if_neg (fun q => z ((isFlap_r c7.1.1 (by omega)).mp q))]
      obtain ⟨t1, t2⟩ := tgt_e hr hk z
      have hlim : v_X12_limitOf (3 : Int32) m7 = g 128 := c7.1.1 128 (by omega)
      rw [of6 c7.1.1 (by omega), hlim]
      refine ⟨sof6 (by omega), vp_in_nI (n := 128) (by omega) (by omega), ?_⟩
      refine rcovered_ok hr c7.1.1 c7.1.2.1 hk t1 t2 c7.1.2.2.1 ?_
      refine rfind3 (kd := 3) (sc := 0) (oc := (pf g k 6).toNatClampNeg + 1) hl c7 (by omega) (by omega) rfl cdI_z (by rw [t2, ← cdI_s, clamp_nI (by omega)]) (fun m8 c8 _ => ?_)
      exact hj _ k2 m8 (by rw [if_neg z, if_neg z]; rw [if_neg z] at c8; exact c8)
