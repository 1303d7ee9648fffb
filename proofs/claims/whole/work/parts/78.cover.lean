/-! crossings, coverage -/
theorem lim0_c {m : Mm} {S : AS} (hC : ClsR m S) : m.1 265 0 = sg S 125 := hC.2.1.1 0 (by omega)
theorem op_crossings {m : Mm} {S : AS} {x : Int32} {P : Int32 → Int32 → Mm → Prop} (h : Sim m S) (kk : ∀ r m2 S2, Sim m2 S2 → P r r m2) : wp_X11_crossings x m (fun r m1 => wp_X12_crossings x m1 (fun r2 m2 => P r r2 m2)) := by
  have hI := h.2.2
  have hC := h.2.1
  have hD := hI.1
  have hp := hD.ple
  have h4 := c_pc hC hI
  by_cases c0 : x < 0
  · refine combine (c := wp_X11_crossings x m) (d := wp_X12_crossings x) (r := -1) (S2 := S) h (fun K k1 => ?_) (fun m1 K hR k1 => ?_) hI kk
    · unfold wp_X11_crossings
      rw [if_pos c0]; exact k1 _ hC (fun _ _ => rfl)
    · unfold wp_X12_crossings
      rw [if_pos c0]; exact k1 _ hR (fun _ _ => rfl)
  have c0' : 0 ≤ x.toInt := by rw [fa_lt] at c0; have a0 : (0 : Int32).toInt = 0 := rfl; omega
  obtain ⟨v, ev, ev2, -⟩ := asN c0'
  have hv : v < 2 ^ 31 := by have := fb_rng x; omega
  have hpw : 2 ^ pn (sg S) < 2 ^ 31 := Nat.pow_lt_pow_right (by omega) (by omega)
  have e1 : x &&& 1 = nI (v % 2) := by rw [ev]; exact and_1 v
  have hv2 : v % 2 < 2 := Nat.mod_lt _ (by omega)
  have e2 : ∀ {α : Type} (a b : α), (if x < (1 : Int32) <<< (nI (pn (sg S)) &&& 31) then a else b) = if v < 2 ^ pn (sg S) then a else b := fun a b => by
    rw [shl_k hp, ev]
    by_cases z : v < 2 ^ pn (sg S)
    · rw [if_pos z, if_pos (ilt z hpw)]
    · rw [if_neg z, if_neg (inlt (by omega) hv)]
  have e3 : ∀ {α : Type} (a b : α), (if x >>> (nI (pn (sg S)) &&& 31) = 0 then a else b) = if v < 2 ^ pn (sg S) then a else b := fun a b => by
    rw [ev, shr_k hv hp]
    by_cases z : v < 2 ^ pn (sg S)
    · rw [if_pos z, if_pos (by rw [Nat.div_eq_of_lt z]; rfl)]
    · have h0 : 0 < v / 2 ^ pn (sg S) := Nat.div_pos (by omega) (Nat.two_pow_pos _)
      have h1 : v / 2 ^ pn (sg S) ≤ v := Nat.div_le_self _ _
      rw [if_neg z, if_neg (show ¬ nI (v / 2 ^ pn (sg S)) = (0 : Int32) from ine (i := 0) (by omega) (by omega) (by omega))]
  by_cases c1 : v % 2 = 0 ∧ v < 2 ^ pn (sg S)
  · refine combine (c := wp_X11_crossings x m) (d := wp_X12_crossings x) (r := xPairs (sg S) (angM (sg S) x) (sg S 125)) (S2 := S) h (fun K k1 => ?_) (fun m1 K hR k1 => ?_) hI kk
    · unfold wp_X11_crossings
      rw [if_neg c0, e1, c1.1, if_pos (show nI 0 = (0 : Int32) from rfl), h4, e2, if_pos c1.2]
      refine cfold_ok hD.r hC.1 (by omega) (by rw [ev]; exact bit_N hv) (fun m2 hF f => ?_)
      have hC2 := ClsR_C hI hC f
      rw [lim0_c hC2]
      exact cpairs_ok hD.r.par hF (k1 _ hC2 (fun b hb => f b (by omega) (by omega)))
    · unfold wp_X12_crossings
      rw [if_neg c0, many_ok hR.st hD.g2, e3, if_pos c1.2, e1, c1.1, if_neg (show ¬ nI 0 = (1 : Int32) by decide)]
      exact rpairs_ok hD.r hR.st (fun m2 f => k1 _ (RefR_F hR f) (fun b hb => f b (by omega)))
  · refine combine (c := wp_X11_crossings x m) (d := wp_X12_crossings x) (r := -1) (S2 := S) h (fun K k1 => ?_) (fun m1 K hR k1 => ?_) hI kk
    · have k2 := k1 _ hC (fun _ _ => rfl)
      unfold wp_X11_crossings
      rw [if_neg c0, e1, h4, e2]
      by_cases z : v % 2 = 0
      · rw [z, if_pos (show nI 0 = (0 : Int32) from rfl), if_neg (fun q => c1 ⟨z, q⟩)]; exact k2
      · rw [if_neg (show ¬ nI (v % 2) = (0 : Int32) from ine (i := 0) z (by omega) (by omega))]; exact k2
    · have k2 := k1 _ hR (fun _ _ => rfl)
      unfold wp_X12_crossings
      rw [if_neg c0, many_ok hR.st hD.g2, e3, e1]
      by_cases z : v < 2 ^ pn (sg S)
      · rw [if_pos z, if_pos (by rw [show v % 2 = 1 by omega]; rfl)]; exact k2
      · rw [if_neg z]; exact k2
theorem pt_inj {a b : Nat} (ha : a < 6) (hb : b < 6) : (∀ c, c < 3 → pt a c = pt b c) ↔ a = b := by
  refine ⟨fun h => ?_, fun h c _ => by rw [h]⟩
  have h0 := h 0 (by omega)
  have h1 := h 1 (by omega)
  have h2 := h 2 (by omega)
  revert h0 h1 h2
  rcases six ha with z | z | z | z | z | z <;> subst z <;> rcases six hb with y | y | y | y | y | y <;> subst y <;> decide
def xCov (g : Vc) (an : Nat → Int32) (k t : Nat) (tol : Int32) : Int32 := if (poseF g an k).2.2.1 = (poseF g an t).2.2.1 then ((100 : Int32) * xDbl g an k t tol) / ((rect g k).2.2.1 * (rect g k).2.2.2) else 0
theorem area_pos {g : Vc} (hr : rngD g) {k : Nat} (hk : k < pn g) : 0 < ((rect g k).2.2.1 * (rect g k).2.2.2).toInt := by
  obtain ⟨-, -, ⟨b5, b6⟩, b7, b8⟩ := rect_b hr hk
  have h1 : 0 < (rect g k).2.2.1.toInt * (rect g k).2.2.2.toInt := Int.mul_pos (by omega) (by omega)
  have h2 : (rect g k).2.2.1.toInt * (rect g k).2.2.2.toInt ≤ 300 * 300 := Int.mul_le_mul b6 b8 (by omega) (by omega)
  rw [fb_mulI (by omega) (by omega)]
  exact h1
theorem c_covered {d : Nat} {m : Mm} {g : Vc} {an : Nat → Int32} {k t : Nat} {tol : Int32} (hr : rngD g) (hd : desR m.1 d g) (hk : k < pn g) (ht : t < pn g) (et : pf g k 6 = nI t) (h : cFd m g an) : v_X5_covered d (nI k) tol m = xCov g an k t tol := by
  have hp := hr.par
  have hp1 := hp.1
  have ha := area_pos hr hk
  obtain ⟨-, -, r3, r4⟩ := (hd.2.2.2.2 k hk).R
  unfold v_X5_covered xCov
  rw [panelAt_in (by omega), r3, r4, d_pf hd hk (by omega) (by omega), et, poseAt_in (by omega), poseAt_in (by omega), (h.2 k hk).1.1, (h.2 t ht).1.1, c_doubled hp hk ht h, if_neg (by rw [fa_le]; have a0 : (0 : Int32).toInt = 0 := rfl; omega), if_nI (by have := (pose_ok (an := an) hp k hk).2.2.1; omega) (by have := (pose_ok (an := an) hp t ht).2.2.1; omega)]
theorem rcovered_ok {m : Mm} {g : Vc} {an : Nat → Int32} {k t : Nat} {tol : Int32} {K : Int32 → Mm → Prop} (hr : rngD g) (hs : stR m g) (hf : flatR m g (pn g)) (hk : k < pn g) (ht : t < pn g) (et : pf g k 6 = nI t) (h : fR m g an (pn g)) (kk : K (xCov g an k t tol) m) : wp_X12_covered (nI k) tol m K := by
  have hp := hr.par
  have hp1 := hp.1
  have ha := area_pos hr hk
  have o1 := (pose_ok (an := an) hp k hk).2.2.1
  have o2 := (pose_ok (an := an) hp t ht).2.2.1
  obtain ⟨f1, f2, f3, f4⟩ := hf k hk
  unfold wp_X12_covered
  refine ⟨sof6 (by omega), ?_⟩
  rintro y2 rfl
  rw [of6 hs (by omega), et]
  refine loop_i (W := fun n i y => wp_X12_covered_l14 _ K (nI k) tol (nI t) n y (nI i) m) (I := fun i y => flag y (∀ c, c < i → pt (poseF g an k).2.2.1 c = pt (poseF g an t).2.2.1 c)) 3 ?_ ?_ FU 0 1 (by omega) (FU_gt (by omega)) (Or.inl ⟨rfl, fun c hc => by omega⟩)
  · intro n y hy
    show wb_X12_covered_l14 _ _ _ _ _ _ _ _ _
    unfold wb_X12_covered_l14
    rw [if_pos (show (3 : Int32) ≤ nI 3 from ile (a := 3) (by omega) (by omega))]
    have hy2 := flag_iff hy (pt_inj o1 o2)
    obtain ⟨v1, v2⟩ := r_doubled (t := tol) h hp hk ht
    show _ ∧ _
    rw [v1, clamp_nI (by omega), f3, f4]
    refine ⟨fun _ => ⟨v2, vp_in_nI (by omega) (by omega), fun z => by rw [z] at ha; exact absurd ha (by decide)⟩, ?_⟩
    rintro y20 rfl
    unfold xCov at kk
    rcases hy2 with ⟨z1, z2⟩ | ⟨z1, z2⟩
    · rw [if_pos z2] at kk; rw [z1, if_neg (by decide)]; exact kk
    · rw [if_neg z2] at kk; rw [z1, if_pos rfl]; exact kk
  · intro n c y hc hy k2
    show wb_X12_covered_l14 _ _ _ _ _ _ _ _ _
    unfold wb_X12_covered_l14
    rw [if_neg (show ¬ (3 : Int32) ≤ nI c from inle (a := 3) hc (by omega))]
    refine ⟨fun _ => ⟨in30 (by omega) hc, in30 (by omega) hc⟩, fun y9 e9 => ?_⟩
    have g1 : m.1 442 ((3 : Int32) * nI k + nI c).toNatClampNeg = pt (poseF g an k).2.2.1 c := by
      rw [show (3 : Int32) = nI 3 from rfl, nI_mul, nI_add, clamp_nI (by omega)]; exact ((h k hk).1 c hc).2.2.2
    have g2 : m.1 442 ((3 : Int32) * nI t + nI c).toNatClampNeg = pt (poseF g an t).2.2.1 c := by
      rw [show (3 : Int32) = nI 3 from rfl, nI_mul, nI_add, clamp_nI (by omega)]; exact ((h t ht).1 c hc).2.2.2
    rw [g1, g2] at e9
    rw [nI_1]
    refine k2 _ (flag_iff (flag_and hy (fun _ => flag_p (q := pt (poseF g an k).2.2.1 c = pt (poseF g an t).2.2.1 c) Iff.rfl flag_1) e9) ⟨fun z c' hc' => ?_, fun z => ⟨fun c' hc' => z c' (by omega), z c (by omega), trivial⟩⟩)
    rcases Nat.lt_or_ge c' c with q | q
    · exact z.1 c' q
    · rw [show c' = c by omega]; exact z.2.1
theorem tgt_i {g : Vc} (hr : rngD g) {k : Nat} (hk : k < pn g) (h : ¬ pf g k 6 = -9) : ∃ t, t < pn g ∧ t ≠ k ∧ pf g k 6 = nI t := by
  rcases (hr.2.2.2.2.2.1 k hk).1 with z | z
  · exact absurd z h
  · exact z
theorem op_coverage {m : Mm} {S : AS} {x : Int32} {P : Int32 → Int32 → Mm → Prop} (h : Sim m S) (kk : ∀ r m2 S2, Sim m2 S2 → P r r m2) : wp_X11_coverage x m (fun r m1 => wp_X12_coverage x m1 (fun r2 m2 => P r r2 m2)) := by
  have hI := h.2.2
  have hC := h.2.1
  have hD := hI.1
  have hp := hD.ple
  have h4 := c_pc hC hI
  by_cases cx : 0 ≤ x.toInt ∧ x.toInt < pn (sg S)
  · obtain ⟨k, ek, ek2, -⟩ := asN cx.1
    have hk : k < pn (sg S) := by omega
    by_cases c6 : pf (sg S) k 6 = -9
    · refine combine (c := wp_X11_coverage x m) (d := wp_X12_coverage x) (r := -9) (S2 := S) h (fun K k1 => ?_) (fun m1 K hR k1 => ?_) hI kk
      · unfold wp_X11_coverage v_X7_isFlap
        rw [if_neg (fun q => (has_0 h4 hp).mp q cx), ek, panelAt_in (by omega), d_pf hC.1 hk (by omega) (by omega), if_pos c6, if_pos rfl]
        exact k1 _ hC (fun _ _ => rfl)
      · unfold wp_X12_coverage v_X12_isFlap s_X12_isFlap
        rw [if_neg (fun q => (isPanel_0 hR.st hD.g2 hp).mp q cx), ek, of6 hR.st (by omega), if_pos c6, if_pos rfl]
        exact ⟨sof6 (by omega), k1 _ hR (fun _ _ => rfl)⟩
    · obtain ⟨t, ht, htk, et⟩ := tgt_i hD.r hk c6
      refine combine (c := wp_X11_coverage x m) (d := wp_X12_coverage x) (r := xCov (sg S) (angM (sg S) (-1)) k t (sg S 125)) (S2 := S) h (fun K k1 => ?_) (fun m1 K hR k1 => ?_) hI kk
      · unfold wp_X11_coverage v_X7_isFlap
        rw [if_neg (fun q => (has_0 h4 hp).mp q cx), ek, panelAt_in (by omega), d_pf hC.1 hk (by omega) (by omega), if_neg c6, if_neg (by decide)]
        refine cfold_ok hD.r hC.1 (by omega) bit_all (fun m2 hF f => ?_)
        have hC2 := ClsR_C hI hC f
        rw [lim0_c hC2, c_covered hD.r hC2.1 hk ht et hF]
        exact k1 _ hC2 (fun b hb => f b (by omega) (by omega))
      · unfold wp_X12_coverage v_X12_isFlap s_X12_isFlap
        rw [if_neg (fun q => (isPanel_0 hR.st hD.g2 hp).mp q cx), ek, of6 hR.st (by omega), if_neg c6, if_neg (by decide)]
        refine ⟨sof6 (by omega), ?_⟩
        refine rfold_ok hD.r hR.st (fun m2 hF hf f => ?_)
        have h2 : stR m2 (sg S) := fun k hk => by rw [f 427 (by omega)]; exact hR.st k hk
        have hl : v_X12_limitOf 0 m2 = sg S 125 := h2 125 (by omega)
        rw [hl]
        refine ⟨vp_in_nI (n := 125) (by omega) (by omega), ?_⟩
        exact rcovered_ok hD.r h2 hf hk ht et hF (k1 _ (RefR_F hR f) (fun b hb => f b (by omega)))
  · refine combine (c := wp_X11_coverage x m) (d := wp_X12_coverage x) (r := -1) (S2 := S) h (fun K k1 => ?_) (fun m1 K hR k1 => ?_) hI kk
    · unfold wp_X11_coverage
      rw [if_pos ((has_0 h4 hp).mpr cx)]; exact k1 _ hC (fun _ _ => rfl)
    · unfold wp_X12_coverage
      rw [if_pos ((isPanel_0 hR.st hD.g2 hp).mpr cx)]; exact k1 _ hR (fun _ _ => rfl)
