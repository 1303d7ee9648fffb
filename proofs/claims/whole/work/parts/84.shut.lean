/-! seamCount, openLength, volume, leastTolerance -/
def frW (m m2 : Mm) : Prop := ∀ b, b ≠ 268 → b ≠ 269 → b < 283 ∨ 391 ≤ b → m2.1 b = m.1 b
theorem ClsR_W {m m2 : Mm} {S : AS} (hI : Inv S) (h : ClsR m S) (f : frW m m2) : ClsR m2 S := ClsR_congr hI h (fun b hb => f b (by unfold ccell at hb; omega) (by unfold ccell at hb; omega) (by unfold ccell at hb; omega))
theorem frW_C {m m2 : Mm} (f : frC m m2) : frW m m2 := fun b _ h2 h3 => f b h2 (by omega)
theorem frW_S {m m2 : Mm} (f : frS m m2) : frW m m2 := fun b h1 _ h3 => f b h1 (by omega)
theorem frW_O {m m2 : Mm} (f : frO m m2) : frW m m2 := fun b _ _ h3 => f b (by omega)
theorem frW_t {m m2 m3 : Mm} (f : frW m m2) (f2 : frW m2 m3) : frW m m3 := fun b h1 h2 h3 => by rw [f2 b h1 h2 h3, f b h1 h2 h3]
theorem cseams_ok {m : Mm} {S : AS} {K : Mm → Prop} (hI : Inv S) (hC : ClsR m S) (kk : ∀ m2, frW m m2 → cFd m2 (sg S) (angM (sg S) (-1)) → cSm m2 (sg S) (angM (sg S) (-1)) (sg S 125) (seamL (sg S) (angM (sg S) (-1)) (sg S 125)) → (seamL (sg S) (angM (sg S) (-1)) (sg S 125)).length ≤ 360 → K m2) : wp_X11_findSeams m K := by
  unfold wp_X11_findSeams
  refine cfold_ok hI.1.r hC.1 (by omega) bit_all (fun m2 hF f => ?_)
  have hC2 := ClsR_C hI hC f
  rw [lim0_c hC2]
  refine find_ok hI.1.r hF (fun m3 s1 s2 s3 f3 => ?_)
  exact kk m3 (frW_t (frW_C f) (frW_S f3)) s2 s1 s3
theorem tol_b {S : AS} (hI : Inv S) : inR (sg S 125) 0 100 := inR_up (hI.2.1.1 0 (by omega)) (by omega) (by omega)
theorem lim0_r {m : Mm} {g : Vc} (h : stR m g) : v_X12_limitOf 0 m = g 125 := h 125 (by omega)
theorem lim0_s : s_X12_limitOf 0 := vp_in_nI (n := 125) (by omega) (by omega)
theorem RefR_FQ {m m2 m3 : Mm} {S : AS} (h : RefR m S) (f : frF m m2) (q : frQ m2 m3) : RefR m3 S := RefR_Q (RefR_F h f) q
theorem low_FQ {m m2 m3 : Mm} (f : frF m m2) (q : frQ m2 m3) : ∀ b, b < 426 → m3.1 b = m.1 b := fun b hb => by rw [q.c (by omega) (by omega), f b (by omega)]
theorem up_W {m m2 : Mm} (f : frW m m2) : ∀ b, 426 ≤ b → m2.1 b = m.1 b := fun b hb => f b (by omega) (by omega) (by omega)
theorem op_seamCount {m : Mm} {S : AS} {P : Int32 → Int32 → Mm → Prop} (h : Sim m S) (kk : ∀ r m2 S2, Sim m2 S2 → P r r m2) : wp_X11_seamCount m (fun r m1 => wp_X12_seamCount m1 (fun r2 m2 => P r r2 m2)) := by
  have hI := h.2.2
  have hC := h.2.1
  refine combine (c := wp_X11_seamCount m) (d := wp_X12_seamCount) (r := nI (seamL (sg S) (angM (sg S) (-1)) (sg S 125)).length) (S2 := S) h (fun K k1 => ?_) (fun m1 K hR k1 => ?_) hI kk
  · unfold wp_X11_seamCount
    refine cseams_ok hI hC (fun m2 f _ hS _ => ?_)
    rw [hS.1]
    exact k1 _ (ClsR_W hI hC f) (up_W f)
  · unfold wp_X12_seamCount
    rw [lim0_r hR.st]
    refine ⟨lim0_s, rfind_ok hI.1.r hR.st (fun m2 m3 f q _ _ _ hS _ => ?_)⟩
    rw [hS.1]
    exact k1 _ (RefR_FQ hR f q) (low_FQ f q)
theorem op_openLength {m : Mm} {S : AS} {x y : Int32} {P : Int32 → Int32 → Mm → Prop} (h : Sim m S) (kk : ∀ r m2 S2, Sim m2 S2 → P r r m2) : wp_X11_openLength x y m (fun r m1 => wp_X12_openLength x y m1 (fun r2 m2 => P r r2 m2)) := by
  have hI := h.2.2
  have hC := h.2.1
  have hD := hI.1
  have hp := hD.ple
  have h4 := c_pc hC hI
  have a0 : (0 : Int32).toInt = 0 := rfl
  have a3 : (3 : Int32).toInt = 3 := rfl
  by_cases c1 : (0 ≤ x.toInt ∧ x.toInt < pn (sg S)) ∧ (0 ≤ y.toInt ∧ y.toInt ≤ 3)
  · obtain ⟨cx, cy⟩ := c1
    obtain ⟨k, ek, ek2, -⟩ := asN cx.1
    obtain ⟨n, en, en2, -⟩ := asN cy.1
    have hk : k < pn (sg S) := by omega
    refine combine (c := wp_X11_openLength x y m) (d := wp_X12_openLength x y) (r := nI (xOpn (sg S) (angM (sg S) (-1)) (sg S 125) k n)) (S2 := S) h (fun K k1 => ?_) (fun m1 K hR k1 => ?_) hI kk
    · unfold wp_X11_openLength
      rw [if_neg (fun q => (has_0 h4 hp).mp q cx), if_neg (by rw [fa_lt]; omega), if_pos (by rw [fa_le]; omega)]
      refine cseams_ok hI hC (fun m2 f hF hS hl => ?_)
      rw [ek, en]
      refine copen_ok hD.r (tol_b hI) hF hS hl hk (by omega) (fun m3 f3 => ?_)
      have f4 := frW_t f (frW_O f3)
      exact k1 _ (ClsR_W hI hC f4) (up_W f4)
    · unfold wp_X12_openLength
      rw [if_neg (fun q => (isPanel_0 hR.st hD.g2 hp).mp q cx), if_neg (in_ne (by omega) (by omega)), lim0_r hR.st]
      refine ⟨lim0_s, rfind_ok hI.1.r hR.st (fun m2 m3 f q s1 s2 s3 hS hl => ?_)⟩
      rw [ek, en, lim0_r s1]
      exact ropen_ok hD.r (tol_b hI) s2 s3 hS hl hk (by omega) (k1 _ (RefR_FQ hR f q) (low_FQ f q))
  · refine combine (c := wp_X11_openLength x y m) (d := wp_X12_openLength x y) (r := -1) (S2 := S) h (fun K k1 => ?_) (fun m1 K hR k1 => ?_) hI kk
    · have k2 := k1 _ hC (fun _ _ => rfl)
      unfold wp_X11_openLength
      by_cases q1 : 0 ≤ x.toInt ∧ x.toInt < pn (sg S)
      · rw [if_neg (fun q => (has_0 h4 hp).mp q q1)]
        by_cases q2 : y < 0
        · rw [if_pos q2]; exact k2
        rw [if_neg q2]
        rw [fa_lt] at q2
        rw [if_neg (by rw [fa_le]; omega)]; exact k2
      · rw [if_pos ((has_0 h4 hp).mpr q1)]; exact k2
    · have k2 := k1 _ hR (fun _ _ => rfl)
      unfold wp_X12_openLength
      by_cases q1 : 0 ≤ x.toInt ∧ x.toInt < pn (sg S)
      · rw [if_neg (fun q => (isPanel_0 hR.st hD.g2 hp).mp q q1), if_pos (in_0 (by omega))]; exact k2
      · rw [if_pos ((isPanel_0 hR.st hD.g2 hp).mpr q1)]; exact k2
/-- an open side of a panel that is no flap -/
def xAny (g : Vc) (an : Nat → Int32) (tol : Int32) : Prop := ∃ k d, k < pn g ∧ d < 4 ∧ pf g k 6 = -9 ∧ 0 < xOpn g an tol k d
theorem isFlap_c {d : Nat} {m : Mm} {g : Vc} {k : Nat} (hd : desR m.1 d g) (hk : k < pn g) (h10 : pn g ≤ 10) : v_X7_isFlap (v_X3_panelAt d (nI k)) m = 0 ↔ pf g k 6 = -9 := by
  unfold v_X7_isFlap
  rw [panelAt_in (by omega), d_pf hd hk (by omega) (by omega)]
  by_cases q : pf g k 6 = -9
  · rw [if_pos q]; exact ⟨fun _ => q, fun _ => rfl⟩
  · rw [if_neg q]; exact ⟨fun z => absurd z (by decide), fun z => absurd z q⟩
theorem isFlap_r {m : Mm} {g : Vc} {k : Nat} (hs : stR m g) (hk : k < 10) : v_X12_isFlap (nI k) m = 0 ↔ pf g k 6 = -9 := by
  unfold v_X12_isFlap
  rw [of6 hs hk]
  by_cases q : pf g k 6 = -9
  · rw [if_pos q]; exact ⟨fun _ => q, fun _ => rfl⟩
  · rw [if_neg q]; exact ⟨fun z => absurd z (by decide), fun z => absurd z q⟩
theorem anyOpen_ok {m : Mm} {d : Nat} {g : Vc} {an : Nat → Int32} {tol : Int32} {K : Int32 → Mm → Prop} (hr : rngD g) (hd2 : d < 250) (hd : desR m.1 d g) (ht : inR tol 0 100) (hF : cFd m g an) (hS : cSm m g an tol (seamL g an tol)) (hl : (seamL g an tol).length ≤ 360)
    (kk : ∀ y m2, flag y (xAny g an tol) → frO m m2 → K y m2) : wp_X4_anyOpen d m K := by
  have hp1 := hr.par.1
  have h4 : ∀ s, frO m s → s.1 d 4 = nI (pn g) := fun s f => by rw [f d (by omega), hd.2.2.1]; exact hr.par.2.1
  unfold wp_X4_anyOpen
  refine loop_i (W := fun n i s => wp_X4_anyOpen_l2 K d n (nI i) s) (I := fun i s => frO m s ∧ ∀ k e, k < i → e < 4 → pf g k 6 = -9 → xOpn g an tol k e = 0) (pn g) ?_ ?_ FU 0 m (by omega) (FU_gt (by omega)) ⟨fun _ _ => rfl, fun k e q => by omega⟩
  · rintro n s ⟨i1, i2⟩
    show wb_X4_anyOpen_l2 _ _ _ _ _
    unfold wb_X4_anyOpen_l2
    rw [h4 s i1, if_pos (ile (Nat.le_refl _) (by omega))]
    exact kk 0 s (Or.inr ⟨rfl, by rintro ⟨k, e, q1, q2, q3, q4⟩; have := i2 k e q1 q2 q3; omega⟩) i1
  · rintro n i s hi ⟨i1, i2⟩ k2
    show wb_X4_anyOpen_l2 _ _ _ _ _
    unfold wb_X4_anyOpen_l2
    rw [h4 s i1, if_neg (inle hi (by omega))]
    refine loop_i (W := fun n2 j s => wp_X4_anyOpen_l12 (fun a b => wp_X4_anyOpen_l2 K d n a b) K d (nI i) n2 (nI j) s) (I := fun j s => frO m s ∧ ∀ e, e < j → pf g i 6 = -9 → xOpn g an tol i e = 0) 4 ?_ ?_ FU 0 s (by omega) (FU_gt (by omega)) ⟨i1, fun e q => by omega⟩
    · rintro n2 s2 ⟨j1, j2⟩
      show wb_X4_anyOpen_l12 _ _ _ _ _ _ _
      unfold wb_X4_anyOpen_l12
      rw [if_pos (show (4 : Int32) ≤ nI 4 from ile (a := 4) (by omega) (by omega)), nI_1]
      refine k2 s2 ⟨j1, fun k e q1 q2 q3 => ?_⟩
      by_cases w : k = i
      · subst w; exact j2 e q2 q3
      · exact i2 k e (by omega) q2 q3
    · rintro n2 j s2 hj ⟨j1, j2⟩ k3
      show wb_X4_anyOpen_l12 _ _ _ _ _ _ _
      unfold wb_X4_anyOpen_l12
      have hd3 : desR s2.1 d g := desR_congr hp1 hd (fun b b1 b2 => j1 b (by omega))
      rw [if_neg (show ¬ (4 : Int32) ≤ nI j from inle (a := 4) hj (by omega)), nI_1]
      by_cases w : pf g i 6 = -9
      · rw [if_pos ((isFlap_c hd3 hi hp1).mpr w)]
        refine copen_ok hr ht (cFd_O hp1 hF j1) (cSm_O hS j1) hl hi hj (fun m3 f3 => ?_)
        have ub := xOpn_le (an := an) (tol := tol) (d := j) hr hi
        have f4 : frO m m3 := fun b hb => by rw [f3 b hb, j1 b hb]
        by_cases z : xOpn g an tol i j = 0
        · show (if _ then _ else _)
          rw [if_pos (show nI (xOpn g an tol i j) ≤ (0 : Int32) from ile (i := 0) (by omega) (by omega))]
          refine k3 m3 ⟨f4, fun e q1 q2 => ?_⟩
          by_cases w : e = j
          · rw [w]; exact z
          · exact j2 e (by omega) q2
        · show (if _ then _ else _)
          rw [if_neg (show ¬ nI (xOpn g an tol i j) ≤ (0 : Int32) from inle (i := 0) (by omega) (by omega))]
          exact kk 1 m3 (Or.inl ⟨rfl, i, j, hi, hj, w, by omega⟩) f4
      · rw [if_neg (fun z => w ((isFlap_c hd3 hi hp1).mp z))]
        exact k3 s2 ⟨j1, fun e q1 q2 => absurd q2 w⟩
theorem rshut_ok {m : Mm} {g : Vc} {tol : Int32} {K : Int32 → Mm → Prop} (hr : rngD g) (ht : inR tol 0 100) (h : stR m g) (kk : ∀ y m2 m3, flag y (¬ xAny g (angM g (-1)) tol) → frF m m2 → frQ m2 m3 → stR m3 g → flatR m3 g (pn g) → fR m3 g (angM g (-1)) (pn g) → K y m3) : wp_X12_isShut tol m K := by
  have hp1 := hr.par.1
  unfold wp_X12_isShut
  refine rfind_ok hr h (fun m2 m3 f q s1 s2 s3 hS hl => ?_)
  refine loop_i (W := fun n i y => wp_X12_isShut_l9 K tol n y (nI i) m3) (I := fun i y => flag y (∀ k e, k < i → e < 4 → pf g k 6 = -9 → xOpn g (angM g (-1)) tol k e = 0)) (pn g) ?_ ?_ FU 0 1 (by omega) (FU_gt (by omega)) (Or.inl ⟨rfl, fun k e q => by omega⟩)
  · intro n y hy
    show wb_X12_isShut_l9 _ _ _ _ _ _
    unfold wb_X12_isShut_l9
    rw [many_ok s1 hr.par.2.1, if_pos (ile (Nat.le_refl _) (by omega))]
    refine ⟨flag_bo hy, kk y m2 m3 (flag_iff hy ⟨?_, ?_⟩) f q s1 s2 s3⟩
    · rintro z ⟨k, e, q1, q2, q3, q4⟩
      have := z k e q1 q2 q3
      omega
    · intro z k e q1 q2 q3
      exact Nat.eq_zero_of_not_pos (fun w => z ⟨k, e, q1, q2, q3, w⟩)
  · intro n i y hi hy k2
    show wb_X12_isShut_l9 _ _ _ _ _ _
    unfold wb_X12_isShut_l9
    rw [many_ok s1 hr.par.2.1, if_neg (inle hi (by omega))]
    refine loop_i (W := fun n2 j y => wp_X12_isShut_l20 (fun a b c => wp_X12_isShut_l9 K tol n a b c) K tol (nI i) n2 y (nI j) m3) (I := fun j y => flag y ((∀ k e, k < i → e < 4 → pf g k 6 = -9 → xOpn g (angM g (-1)) tol k e = 0) ∧ ∀ e, e < j → pf g i 6 = -9 → xOpn g (angM g (-1)) tol i e = 0)) 4 ?_ ?_ FU 0 y (by omega) (FU_gt (by omega)) (flag_iff hy ⟨fun z => ⟨z, fun e q => by omega⟩, fun z => z.1⟩)
    · intro n2 y2 hy2
      show wb_X12_isShut_l20 _ _ _ _ _ _ _ _
      unfold wb_X12_isShut_l20
      rw [if_pos (show (4 : Int32) ≤ nI 4 from ile (a := 4) (by omega) (by omega)), nI_1]
      refine k2 y2 (flag_iff hy2 ⟨fun z k e q1 q2 q3 => ?_, fun z => ⟨fun k e q1 => z k e (by omega), fun e q1 => z i e (by omega) q1⟩⟩)
      by_cases w : k = i
      · subst w; exact z.2 e q2 q3
      · exact z.1 k e (by omega) q2 q3
    · intro n2 j y2 hj hy2 k3
      show wb_X12_isShut_l20 _ _ _ _ _ _ _ _
      unfold wb_X12_isShut_l20
      rw [if_neg (show ¬ (4 : Int32) ≤ nI j from inle (a := 4) hj (by omega))]
      refine ⟨sof6 (by omega), ?_⟩
      by_cases w : pf g i 6 = -9
      · rw [if_pos ((isFlap_r s1 (by omega)).mpr w)]
        rcases hy2 with ⟨z1, z2⟩ | ⟨z1, z2⟩
        · rw [if_neg (by rw [z1]; decide)]
          refine ropen_ok hr ht s2 s3 hS hl hi hj ?_
          have ub := xOpn_le (an := angM g (-1)) (tol := tol) (d := j) hr hi
          show ∀ y11, y11 = _ → _
          rintro y11 h11
          rw [nI_1]
          refine k3 y11 ?_
          rw [h11]
          by_cases z : xOpn g (angM g (-1)) tol i j = 0
          · rw [z, if_pos (show nI 0 = (0 : Int32) from rfl)]
            refine Or.inl ⟨rfl, z2.1, fun e q1 q2 => ?_⟩
            by_cases w2 : e = j
            · rw [w2]; exact z
            · exact z2.2 e (by omega) q2
          · rw [if_neg (show ¬ nI (xOpn g (angM g (-1)) tol i j) = (0 : Int32) from ine (i := 0) z (by omega) (by omega))]
            exact Or.inr ⟨rfl, fun q => z (q.2 j (by omega) w)⟩
        · rw [if_pos z1]
          unfold wp_X12_isShut_j53 wp_X12_isShut_j54
          rw [nI_1]
          exact k3 0 (Or.inr ⟨rfl, fun q => z2 ⟨q.1, fun e q1 => q.2 e (by omega)⟩⟩)
      · rw [if_neg (fun z => w ((isFlap_r s1 (by omega)).mp z)), nI_1]
        refine k2 y2 (flag_iff hy2 ⟨fun z k e q1 q2 q3 => ?_, fun z => ⟨fun k e q1 => z k e (by omega), fun e q1 q2 => absurd q2 w⟩⟩)
        by_cases w2 : k = i
        · subst w2; exact absurd q3 w
        · exact z.1 k e (by omega) q2 q3
