/-! the class collects findings -/
def Cst (d : Nat) (g : Vc) (m : Mm) : Prop := desR m.1 d g ∧ limR m.1 265 266 g ∧ cFd m g (fA g) ∧ cSm m g (fA g) (g 125) (seamL g (fA g) (g 125))
def frB (m m2 : Mm) : Prop := ∀ b, b < 264 ∨ b = 265 ∨ b = 266 ∨ b = 268 ∨ b = 269 ∨ (283 ≤ b ∧ b < 388) ∨ 395 ≤ b → m2.1 b = m.1 b
theorem Cst_B {d : Nat} {g : Vc} {m m2 : Mm} (hp : pn g ≤ 10) (hd2 : d < 240) (h : Cst d g m) (f : frB m m2) : Cst d g m2 := by
  obtain ⟨h1, h2, h3, h4⟩ := h
  refine ⟨desR_congr hp h1 (fun b b1 b2 => f b (by omega)), limR_congr h2 (f 265 (by omega)) (f 266 (by omega)), ?_, ?_⟩
  · refine ⟨by rw [f 269 (by omega)]; exact h3.1, fun k hk => ?_⟩
    have h5 := h3.2 k hk
    unfold cF1 cP cL cS at h5 ⊢
    have e : ∀ b, b < 10 → m2.1 (283 + 10 * k + b) = m.1 (283 + 10 * k + b) := fun b hb => f _ (by omega)
    have e0 : m2.1 (283 + 10 * k) = m.1 (283 + 10 * k) := f _ (by omega)
    rw [e0, e 1 (by omega), e 2 (by omega), e 3 (by omega), e 4 (by omega), e 5 (by omega), e 6 (by omega), e 7 (by omega), e 8 (by omega), e 9 (by omega)]
    exact h5
  · unfold cSm at h4 ⊢
    rw [f 268 (by omega), f 383 (by omega), f 384 (by omega), f 385 (by omega), f 386 (by omega), f 387 (by omega)]
    exact h4
def CR (d : Nat) (g : Vc) (m0 m : Mm) (l : List Fnd) : Prop := Cst d g m ∧ cFn m g l ∧ frB m0 m
theorem cFn_2 {m m2 : Mm} {g : Vc} {l : List Fnd} (h : cFn m g l) (e1 : m2.1 264 = m.1 264) (e2 : m2.2 = m.2) : cFn m2 g l := by
  unfold cFn at h ⊢
  rw [e1, e2]
  exact h
theorem cadd3 {d : Nat} {g : Vc} {m0 m : Mm} {l : List Fnd} {kd p sc oc : Nat} {a : Int32} {x1 x3 x4 : Int32} {K : Mm → Prop} (hp1 : pn g ≤ 10) (hd2 : d < 240) (hl : Ll g) (h : CR d g m0 m l) (hn : l.length < 1000) (hk : kd < 8) (hp : p < 10) (hs : sc < 5) (ho : oc < 11) (e1 : x1 = nI kd) (e3 : x3 = cdI sc) (e4 : x4 = cdI oc) (ha : a.toInt ≤ 90000)
    (kk : ∀ m2, CR d g m0 m2 (l ++ em g kd p sc oc a) → K m2) : wp_X4_add x1 (nI p) x3 x4 a m K := by
  refine cadd2_ok hl (h.1.2.1.2 kd hk) h.2.1 hn hk hp hs ho e1 e3 e4 ha (fun m2 q1 q2 => kk m2 ⟨Cst_B hp1 hd2 h.1 (fun b hb => q2 b (by omega)), q1, fun b hb => by rw [q2 b (by omega), h.2.2 b hb]⟩)
theorem lim_c {d : Nat} {g : Vc} {m : Mm} (h : Cst d g m) {i : Nat} (hi : i < 4) {x : Int32} (e : x = nI i) : v_X4_limit x m = g (125 + i) := by
  subst e
  unfold v_X4_limit
  rw [if_neg (nI_pos (by omega)), if_neg (show ¬ (4 : Int32) ≤ nI i from inle (a := 4) hi (by omega)), clamp_nI (by omega)]
  exact h.2.1.1 i hi
theorem wgt_c {d : Nat} {g : Vc} {m : Mm} (h : Cst d g m) {i : Nat} (hi : i < 8) {x : Int32} (e : x = nI i) : v_X4_weight x m = g (129 + i) := by
  subst e
  unfold v_X4_weight
  rw [if_neg (nI_pos (by omega)), if_neg (show ¬ (8 : Int32) ≤ nI i from inle (a := 8) hi (by omega)), clamp_nI (by omega)]
  exact h.2.1.2 i hi
theorem lim0k {d : Nat} {g : Vc} {m : Mm} (h : Cst d g m) : v_X4_limit (0 : Int32) m = g 125 := lim_c h (i := 0) (by omega) rfl
theorem lim1k {d : Nat} {g : Vc} {m : Mm} (h : Cst d g m) : v_X4_limit (1 : Int32) m = g 126 := lim_c h (i := 1) (by omega) rfl
theorem lim2k {d : Nat} {g : Vc} {m : Mm} (h : Cst d g m) : v_X4_limit (2 : Int32) m = g 127 := lim_c h (i := 2) (by omega) rfl
theorem lim3k {d : Nat} {g : Vc} {m : Mm} (h : Cst d g m) : v_X4_limit (3 : Int32) m = g 128 := lim_c h (i := 3) (by omega) rfl
theorem wgt0k {d : Nat} {g : Vc} {m : Mm} (h : Cst d g m) : v_X4_weight (0 : Int32) m = g (129 + 0) := wgt_c h (i := 0) (by omega) rfl
theorem wgt7k {d : Nat} {g : Vc} {m : Mm} (h : Cst d g m) : v_X4_weight (7 : Int32) m = g (129 + 7) := wgt_c h (i := 7) (by omega) rfl
theorem cdI_s (n : Nat) : nI n = cdI (n + 1) := by unfold cdI; rw [if_neg (by omega)]; rfl
theorem cdI_z : (-9 : Int32) = cdI 0 := rfl
theorem flL_nil {X : Nat → List Fnd} {a : Nat} : ∀ {n}, (∀ i, a ≤ i → i < a + n → X i = []) → flL X a n = [] := by
  intro n
  induction n with
  | zero => exact fun _ => rfl
  | succ n ih =>
    intro h
    show flL X a n ++ X (a + n) = []
    rw [ih (fun i h1 h2 => h i h1 (by omega)), h (a + n) (by omega) (by omega)]
    rfl
theorem em_0 {g : Vc} {kd p sc oc : Nat} {a : Int32} (h : g (129 + kd) = 0) : em g kd p sc oc a = [] := by unfold em; rw [if_pos h]
theorem PRp_len (g : Vc) (p q : Nat) : (PRp g p q).length ≤ 2 := by
  unfold PRp DBp
  rw [List.length_append]
  have h1 := em_len g 1 p 0 (q + 1) (xCrs g (fA g) p q (g 125))
  have h2 := em_len g 2 p 0 (q + 1) (xDbl g (fA g) p q (g 125))
  split
  · show _ + 0 ≤ 2; omega
  · split
    · show _ + 0 ≤ 2; omega
    · omega
theorem PRS_len (g : Vc) (p : Nat) : (PRS g p).length ≤ 2 * (pn g - (p + 1)) := flL_len (fun i _ _ => PRp_len g p i)
theorem PRS_all {g : Vc} (hp : pn g ≤ 10) : (flL (PRS g) 0 (pn g)).length ≤ 90 := by
  have h : ∀ n, n ≤ pn g → (flL (PRS g) 0 n).length + 2 * tri1 (pn g - n) ≤ 2 * tri1 (pn g) := by
    intro n
    induction n with
    | zero => intro _; show 0 + _ ≤ _; rw [Nat.sub_zero]; omega
    | succ n ih =>
      intro hn
      have h1 := ih (by omega)
      have h2 := PRS_len g (0 + n)
      show (flL (PRS g) 0 n ++ PRS g (0 + n)).length + _ ≤ _
      rw [List.length_append]
      have et : tri1 (pn g - n) = tri1 (pn g - (n + 1)) + (pn g - (n + 1)) := by
        rw [show pn g - n = (pn g - (n + 1)) + 1 by omega]; rfl
      rw [Nat.zero_add] at h2 ⊢
      omega
  have := h (pn g) (Nat.le_refl _)
  have := tri1_le hp
  omega
theorem cpairs2_ok {d : Nat} {g : Vc} {m0 m : Mm} {K : Mm → Prop} (hD : Dd g) (hl : Ll g) (hd2 : d < 240) (h : CR d g m0 m []) (kk : ∀ m2, CR d g m0 m2 (flL (PRS g) 0 (pn g)) → K m2) : wp_X4_collectPairs d m K := by
  have hr := hD.r
  have hp1 := hD.ple
  have h4 : ∀ s, Cst d g s → s.1 d 4 = nI (pn g) := fun s q => by rw [q.1.2.2.1]; exact hD.g2
  unfold wp_X4_collectPairs
  refine app_loop (wp := fun n i s => wp_X4_collectPairs_l2 K d n i s) (R := fun s l => CR d g m0 s l) (PRS g) (a := 0) (N := pn g) (c := 18) (B := 180) (by omega) (by omega) (fun i _ _ => by have := PRS_len g i; omega) (by show 0 + 18 * (pn g - 0) ≤ 180; omega) ?_ ?_ h
  · intro n i s h1 h2 h3
    show wb_X4_collectPairs_l2 _ _ _ _ _
    unfold wb_X4_collectPairs_l2
    rw [h4 s h3.1, if_pos (ile h1 (by omega))]
    exact kk s h3
  · intro n p s l h1 hp h3 h5 k2
    show wb_X4_collectPairs_l2 _ _ _ _ _
    unfold wb_X4_collectPairs_l2
    rw [h4 s h3.1, if_neg (inle hp (by omega)), nI_1]
    rintro y2 rfl
    refine app_loop (wp := fun n2 i s => wp_X4_collectPairs_l14 (fun a b => wp_X4_collectPairs_l2 K d n a b) K d (nI p) n2 i s) (R := fun s l => CR d g m0 s l) (PRp g p) (a := p + 1) (N := pn g) (c := 2) (B := 200) (by omega) (by omega) (fun i _ _ => PRp_len g p i) (by omega) ?_ ?_ h3
    · intro n2 i s2 i1 i2 i3
      show wb_X4_collectPairs_l14 _ _ _ _ _ _ _
      unfold wb_X4_collectPairs_l14
      rw [h4 s2 i3.1, if_pos (ile i1 (by omega))]
      exact k2 s2 i3
    · intro n2 q s2 l2 i1 hq i3 i5 k3
      show wb_X4_collectPairs_l14 _ _ _ _ _ _ _
      unfold wb_X4_collectPairs_l14
      rw [h4 s2 i3.1, if_neg (inle hq (by omega)), lim0k i3.1, c_crossing hr.par hp hq i3.1.2.2.1]
      refine cadd3 (kd := 1) (sc := 0) (oc := q + 1) hp1 hd2 hl i3 (by omega) (by omega) (by omega) (by omega) (by omega) rfl cdI_z (cdI_s q) (crs_b hr hp hq _) (fun m4 c4 => ?_)
      intro y7 h7
      rw [panelAt_in (by omega), panelAt_in (by omega), d_pf c4.1.1 hp (by omega) (by omega), d_pf c4.1.1 hq (by omega) (by omega)] at h7
      have kend : ∀ s3, CR d g m0 s3 ((l2 ++ em g 1 p 0 (q + 1) (xCrs g (fA g) p q (g 125))) ++ DBp g p q) → wp_X4_collectPairs_l14 (fun a b => wp_X4_collectPairs_l2 K d n a b) K d (nI p) n2 (nI q + 1) s3 := fun s3 z => k3 s3 (by unfold PRp; rw [← List.append_assoc]; exact z)
      have ll := em_len g 1 p 0 (q + 1) (xCrs g (fA g) p q (g 125))
      by_cases z1 : pf g p 6 = nI q
      · rw [if_pos z1] at h7
        rw [if_neg (show ¬ y7 = 0 by rw [h7]; decide)]
        exact kend m4 (by unfold DBp; rw [if_pos z1, List.append_nil]; exact c4)
      · rw [if_neg z1] at h7
        by_cases z2 : pf g q 6 = nI p
        · rw [if_pos z2] at h7
          rw [if_neg (show ¬ y7 = 0 by rw [h7]; decide)]
          exact kend m4 (by unfold DBp; rw [if_neg z1, if_pos z2, List.append_nil]; exact c4)
        · rw [if_neg z2] at h7
          rw [if_pos h7, lim0k c4.1, c_doubled hr.par hp hq c4.1.2.2.1]
          refine cadd3 (kd := 2) (sc := 0) (oc := q + 1) hp1 hd2 hl c4 (by rw [List.length_append]; omega) (by omega) (by omega) (by omega) (by omega) rfl cdI_z (cdI_s q) (dbl_b hr hp hq _).2 (fun m5 c5 => ?_)
          exact kend m5 (by unfold DBp; rw [if_neg z1, if_neg z2]; exact c5)
theorem copenl_ok {d : Nat} {g : Vc} {m0 m : Mm} {l : List Fnd} {k : Nat} {K : Mm → Prop} (hD : Dd g) (hl : Ll g) (hd2 : d < 240) (hk : k < pn g) (hll : (seamL g (fA g) (g 125)).length ≤ 360) (h : CR d g m0 m l) (hn : l.length + 4 ≤ 1000) (kk : ∀ m2, CR d g m0 m2 (l ++ flL (OPn g k) 0 4) → K m2) : wp_X4_collectOpen (nI k) m K := by
  have hr := hD.r
  have hp1 := hD.ple
  unfold wp_X4_collectOpen
  rw [wgt0k h.1]
  by_cases z : g (129 + 0) = 0
  · rw [if_pos z]
    exact kk m (by rw [flL_nil (X := OPn g k) (fun i _ _ => em_0 z), List.append_nil]; exact h)
  rw [if_neg z]
  refine app_loop (wp := fun n i s => wp_X4_collectOpen_l11 K (nI k) n i s) (R := fun s l => CR d g m0 s l) (OPn g k) (a := 0) (N := 4) (c := 1) (B := 1000) (by omega) (by omega) (fun i _ _ => em_len _ _ _ _ _ _) (by omega) ?_ ?_ h
  · intro n i s h1 h2 h3
    have e : i = 4 := by omega
    subst e
    show wb_X4_collectOpen_l11 _ _ _ _ _
    unfold wb_X4_collectOpen_l11
    rw [if_pos (show (4 : Int32) ≤ nI 4 from ile (a := 4) (by omega) (by omega))]
    exact kk s h3
  · intro n i s l2 _ hi h3 h5 k2
    show wb_X4_collectOpen_l11 _ _ _ _ _
    unfold wb_X4_collectOpen_l11
    rw [if_neg (show ¬ (4 : Int32) ≤ nI i from inle (a := 4) hi (by omega))]
    refine open_L (copen_ok (tol := g 125) hr (inR_up (hl.1 0 (by omega)) (by omega) (by omega)) h3.1.2.2.1 h3.1.2.2.2 hll hk hi (fun m3 f3 e3 => ?_))
    have c3 : CR d g m0 m3 l2 := ⟨Cst_B hp1 hd2 h3.1 (fun b hb => f3 b (by omega)), cFn_2 h3.2.1 (f3 264 (by omega)) e3, fun b hb => by rw [f3 b (by omega), h3.2.2 b hb]⟩
    have ub := xOpn_le (an := fA g) (tol := g 125) (d := i) hr hk
    exact cadd3 (kd := 0) (sc := i + 1) (oc := 0) hp1 hd2 hl c3 (by omega) (by omega) (by omega) (by omega) (by omega) rfl (cdI_s i) cdI_z (by rw [nI_toInt (by omega)]; omega) (fun m4 c4 => k2 m4 c4)
theorem near_c {d : Nat} {g : Vc} {m : Mm} {k : Nat} (hr : rngD g) (hd : desR m.1 d g) (hk : k < pn g) : v_X7_nearSide (d + 5 + k) m = if 0 < k then nI (nearN g k) else -9 := by
  have hp1 := hr.par.1
  have hP := hd.2.2.2.2 k hk
  unfold v_X7_nearSide
  by_cases z : 0 < k
  · obtain ⟨⟨p, hp, ep⟩, ⟨s, hs, es⟩⟩ := hr.par.2.2 k z hk
    have e9 : (-9 : Int32).toInt = -9 := rfl
    rw [if_pos z, hP.2.2.1 z 0 (by omega), hP.2.2.1 z 1 (by omega), ep, if_neg (fun q => by have := congrArg Int32.toInt q; rw [nI_toInt (by omega)] at this; omega), es]
    unfold nearN
    rw [es, clamp_nI (by omega), show nI s + (2 : Int32) = nI (s + 2) from nI_add _ 2]
    exact fa_mask _ 2
  · rw [if_neg z, (hP.2.1 (by omega)).1, if_pos rfl]
theorem show_c {d : Nat} {g : Vc} {m : Mm} {k : Nat} (hr : rngD g) (hd : desR m.1 d g) (hk : k < pn g) : v_X0_shows d (d + 5 + k) m = aShow g k := by
  unfold v_X0_shows
  rw [c_right hr hd hk, c_upper hr hd hk, c_shows hr hd hk]
theorem flap_pos {g : Vc} (hr : rngD g) {k : Nat} (hk : k < pn g) (h : ¬ pf g k 6 = -9) : 0 < k := by
  rcases Nat.eq_zero_or_pos k with z | z
  · subst z; exact absurd (hr.2.2.2.2.1 hk).2.2.2.2.2 h
  · exact z
theorem nearN_lt (g : Vc) (k : Nat) : nearN g k < 4 := Nat.mod_lt _ (by omega)
theorem ink_c {d : Nat} {g : Vc} {m : Mm} {k : Nat} (hr : rngD g) (hd : desR m.1 d g) (hk : k < pn g) (h0 : 0 < k) : v_X4_inkDistance d (d + 5 + k) m = ink g k := by
  obtain ⟨-, -, q3, q4⟩ := (hd.2.2.2.2 k hk).R
  unfold v_X4_inkDistance ink
  rw [near_c hr hd hk, if_pos h0, q3, q4, c_right hr hd hk, c_upper hr hd hk, d_pf hd hk (by omega) (by omega), d_pf hd hk (by omega) (by omega)]
  rcases side4 (nearN_lt g k) with z | z | z | z <;> rw [z] <;> rfl
theorem ink_b {g : Vc} (hr : rngD g) (hl : Ll g) {k : Nat} (hk : k < pn g) : (ink g k - g 127).toInt ≤ 90000 := by
  obtain ⟨-, -, ⟨b5, b6⟩, b7, b8⟩ := rect_b hr hk
  obtain ⟨l1, l2⟩ : inR (g 127) 0 20 := hl.1 2 (by omega)
  obtain ⟨u1, u2⟩ := (hr.2.2.2.2.2.1 k hk).2.2.2.1
  obtain ⟨v1, v2⟩ := (hr.2.2.2.2.2.1 k hk).2.2.2.2
  have e0 : (0 : Int32).toInt = 0 := rfl
  have hi : (ink g k).toInt ≤ 300 ∧ -10000000 ≤ (ink g k).toInt ∨ (ink g k).toInt ≤ 300 := by
    right
    unfold ink
    split
    · have := mn_t (rect g k).2.2.2 (pf g k 10 + th g k)
      split at this <;> omega
    · split
      · have := mx_t 0 (pf g k 9)
        rw [fb_subI (by split at this <;> omega) (by split at this <;> omega)]
        split at this <;> omega
      · split
        · have := mx_t 0 (pf g k 10)
          rw [fb_subI (by split at this <;> omega) (by split at this <;> omega)]
          split at this <;> omega
        · have := mn_t (rect g k).2.2.1 (pf g k 9 + tw g k)
          split at this <;> omega
  have hlo : -2147483000 ≤ (ink g k).toInt := by
    have tb : inR (tw g k) (-200) 200 ∧ inR (th g k) (-200) 200 := by
      have e0' : inR 0 (-200) 200 := inR_0 (by omega)
      have hw : inR (imw g k) (-200) 200 := by
        unfold imw
        by_cases z : pf g k 7 = -9
        · rw [if_pos z]; exact e0'
        · rw [if_neg z]
          obtain ⟨i, hi, e, -⟩ := img_i hr hk z
          rw [e, clamp_nI (by omega)]
          exact inR_up (hr.2.2.2.1 i hi).1 (by omega) (by omega)
      have hh : inR (imh g k) (-200) 200 := by
        unfold imh
        by_cases z : pf g k 7 = -9
        · rw [if_pos z]; exact e0'
        · rw [if_neg z]
          obtain ⟨i, hi, e, -⟩ := img_i hr hk z
          rw [e, clamp_nI (by omega)]
          exact inR_up (hr.2.2.2.1 i hi).2.1 (by omega) (by omega)
      unfold tw th
      constructor
      · split
        · exact hw
        · exact hh
      · split
        · exact hh
        · exact hw
    obtain ⟨w1, w2⟩ := inR_add (x := pf g k 9) (y := tw g k) ⟨u1, u2⟩ tb.1 (by omega) (by omega)
    obtain ⟨x1, x2⟩ := inR_add (x := pf g k 10) (y := th g k) ⟨v1, v2⟩ tb.2 (by omega) (by omega)
    unfold ink
    split
    · have := mn_t (rect g k).2.2.2 (pf g k 10 + th g k)
      split at this <;> omega
    · split
      · have := mx_t 0 (pf g k 9)
        rw [fb_subI (by split at this <;> omega) (by split at this <;> omega)]
        split at this <;> omega
      · split
        · have := mx_t 0 (pf g k 10)
          rw [fb_subI (by split at this <;> omega) (by split at this <;> omega)]
          split at this <;> omega
        · have := mn_t (rect g k).2.2.1 (pf g k 9 + tw g k)
          split at this <;> omega
  rw [fb_subI (by omega) (by omega)]
  omega
theorem glu_b {g : Vc} (hr : rngD g) (hl : Ll g) {k : Nat} (hk : k < pn g) (h : ¬ pf g k 6 = -9) : (g 128 - xCovT g (fA g) k (g 125)).toInt ≤ 90000 := by
  obtain ⟨t1, -⟩ := tgt_e hr hk h
  have c := cov_nn (an := fA g) hr hk t1 (g 125)
  obtain ⟨l1, l2⟩ : inR (g 128) 0 100 := hl.2.1
  have c2 := fb_rng (xCov g (fA g) k (pf g k 6).toNatClampNeg (g 125))
  unfold xCovT
  rw [fb_subI (by omega) (by omega)]
  omega
theorem cflap_ok {d : Nat} {g : Vc} {m0 m : Mm} {l : List Fnd} {k : Nat} {K : Mm → Prop} (hD : Dd g) (hl : Ll g) (hd2 : d < 240) (hk : k < pn g) (hf : ¬ pf g k 6 = -9) (h : CR d g m0 m l) (hn : l.length + 2 ≤ 1000) (kk : ∀ m2, CR d g m0 m2 (l ++ (GLU g k ++ INK g k)) → K m2) : wp_X4_collectFlap d (nI k) m K := by
  have hr := hD.r
  have hp1 := hD.ple
  obtain ⟨t1, t2⟩ := tgt_e hr hk hf
  unfold wp_X4_collectFlap
  rw [lim0k h.1, c_covered hr h.1.1 hk t1 t2 h.1.2.2.1, lim3k h.1, panelAt_in (by omega), d_pf h.1.1 hk (by omega) (by omega)]
  rintro y1 rfl
  refine cadd3 (kd := 3) (sc := 0) (oc := (pf g k 6).toNatClampNeg + 1) hp1 hd2 hl h (by omega) (by omega) (by omega) (by omega) (by omega) rfl cdI_z (by rw [t2, ← cdI_s, clamp_nI (by omega)]) (glu_b hr hl hk hf) (fun m2 c2 => ?_)
  have ll := em_len g 3 k 0 ((pf g k 6).toNatClampNeg + 1) (g 128 - xCovT g (fA g) k (g 125))
  show (if _ then _ else _)
  rw [show_c hr c2.1.1 hk]
  unfold INK at kk
  by_cases z : aShow g k = 0
  · rw [if_pos z]
    rw [if_pos z, List.append_nil] at kk
    exact kk m2 c2
  · rw [if_neg z]
    rw [if_neg z, ← List.append_assoc] at kk
    rw [ink_c hr c2.1.1 hk (flap_pos hr hk hf), lim2k c2.1]
    exact cadd3 (kd := 6) (sc := 0) (oc := 0) hp1 hd2 hl c2 (by rw [List.length_append]; have := em_len g 3 k 0 ((pf g k 6).toNatClampNeg + 1) (g 128 - xCov g (fA g) k (pf g k 6).toNatClampNeg (g 125)); omega) (by omega) (by omega) (by omega) (by omega) rfl cdI_z cdI_z (ink_b hr hl hk) (fun m4 c4 => kk m4 c4)
