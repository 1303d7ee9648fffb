/-! volume, leastTolerance -/
theorem combineL {m : Mm} {S S2 : AS} {r : Int64} {c : (Int64 → Mm → Prop) → Prop} {d : Mm → (Int64 → Mm → Prop) → Prop} {P : Int64 → Int64 → Mm → Prop} (h : Sim m S)
    (hc : ∀ K, (∀ m1, ClsR m1 S2 → (∀ b, 426 ≤ b → m1.1 b = m.1 b) → K r m1) → c K) (hd : ∀ m1 K, RefR m1 S → (∀ m2, RefR m2 S2 → (∀ b, b < 426 → m2.1 b = m1.1 b) → K r m2) → d m1 K) (hI : Inv S2)
    (kk : ∀ r m2 S2, Sim m2 S2 → P r r m2) : c (fun r m1 => d m1 (fun r2 m2 => P r r2 m2)) :=
  hc _ (fun m1 c1 u1 => hd m1 _ (RefR_up h.1 u1) (fun m2 r2 l2 => kk _ _ S2 (sim_of r2 c1 hI l2)))
def vPart (g : Vc) (an : Nat → Int32) (k : Nat) : Int64 := (rect g k).2.2.1.toInt64 * (rect g k).2.2.2.toInt64 * (plo g an k (nax g an k)).toInt64
def vStep (g : Vc) (an : Nat → Int32) (k : Nat) (x : Int64) : Int64 := if pf g k 6 = -9 then x + (if (poseF g an k).2.2.1 % 2 = 0 then vPart g an k else -vPart g an k) else x
def xVol (g : Vc) (an : Nat → Int32) : Int64 := ab64 (ifo (vStep g an) 0 0 (pn g - 0)) / 3
theorem cenc_ok {m : Mm} {d : Nat} {g : Vc} {an : Nat → Int32} {K : Int64 → Mm → Prop} (hr : rngD g) (hd : desR m.1 d g) (hF : cFd m g an) (kk : K (xVol g an) m) : wp_X5_enclosed d m K := by
  have hp1 := hr.par.1
  unfold wp_X5_enclosed
  refine acc_loop (wp := fun n i x => wp_X5_enclosed_l5 _ K d n x i m) (a := 0) (N := pn g) (vStep g an) (by omega) (by omega) (fun n i h1 h2 => ?_) (fun n i x h1 h2 k1 => ?_)
  · show wb_X5_enclosed_l5 _ _ _ _ _ _ _
    unfold wb_X5_enclosed_l5
    rw [hF.1, if_pos (ile h1 (by omega))]
    exact kk
  · show wb_X5_enclosed_l5 _ _ _ _ _ _ _
    unfold wb_X5_enclosed_l5
    have o := (pose_ok (an := an) hr.par i h2).2.2.1
    obtain ⟨-, -, r3, r4⟩ := (hd.2.2.2.2 i h2).R
    rw [hF.1, if_neg (inle h2 (by omega)), poseAt_in (by omega), c_ax hr.par h2 (hF.2 i h2), c_low (hF.2 i h2) (by unfold nax; omega), (hF.2 i h2).1.1, and_1]
    rintro y2 h2' y5 h5
    have e2 : y2 = vPart g an i := by rw [h2', panelAt_in (by omega), r3, r4]; rfl
    have e5 : y5 = vStep g an i x := by
      rw [h5, e2]
      unfold vStep
      by_cases w : pf g i 6 = -9
      · rw [if_pos ((isFlap_c hd h2 hp1).mpr w), if_pos w]
        by_cases z : (poseF g an i).2.2.1 % 2 = 0
        · rw [if_pos z, if_pos (by rw [z]; rfl)]
        · rw [if_neg z, if_neg (show ¬ nI ((poseF g an i).2.2.1 % 2) = (0 : Int32) from ine (i := 0) z (by omega) (by omega))]
      · rw [if_neg (fun z => w ((isFlap_c hd h2 hp1).mp z)), if_neg w]
    rw [e5]
    exact k1
theorem pt_self (d : Nat) : pt d (d / 2) = if d % 2 = 0 then 1 else -1 := by unfold pt; rw [if_pos rfl]
theorem rvol_ok {m : Mm} {g : Vc} {an : Nat → Int32} {K : Int64 → Mm → Prop} (hr : rngD g) (hs : stR m g) (hf : flatR m g (pn g)) (hF : fR m g an (pn g)) (kk : K (xVol g an) m) : wp_X12_volume_l27 (fun y18 m19 => ∀ y21 : Int64, y21 = (if (0 : Int32) ≤ (lg_cmp y18 (0 : Int64)) then y18 else (-y18)) → (K (y21 / (3 : Int64)) m19)) K FU (0 : Int64) (0 : Int32) m := by
  have hp1 := hr.par.1
  refine acc_loop (wp := fun n i x => wp_X12_volume_l27 _ K n x i m) (a := 0) (N := pn g) (vStep g an) (by omega) (by omega) (fun n i h1 h2 => ?_) (fun n i x h1 h2 k1 => ?_)
  · show wb_X12_volume_l27 _ _ _ _ _ _
    unfold wb_X12_volume_l27
    rw [many_ok hs hr.par.2.1, if_pos (ile h1 (by omega))]
    show ∀ y21, y21 = _ → _
    rintro y21 h21
    have e : y21 = ab64 (ifo (vStep g an) 0 0 (pn g - 0)) := by
      rw [h21]
      unfold ab64
      by_cases z : (0 : Int64) < ifo (vStep g an) 0 0 (pn g - 0)
      · rw [if_pos z, if_pos ((lg_cmp_ge _ _).mpr (by rw [fa_lt64] at z; rw [fa_le64]; omega))]
      · rw [if_neg z]
        by_cases z2 : 0 ≤ lg_cmp (ifo (vStep g an) 0 0 (pn g - 0)) 0
        · rw [if_pos z2]
          rw [lg_cmp_ge, fa_le64] at z2
          rw [fa_lt64] at z
          have : ifo (vStep g an) 0 0 (pn g - 0) = 0 := by rw [fa_eq64]; omega
          rw [this]; rfl
        · rw [if_neg z2]
    rw [e]
    exact kk
  · show wb_X12_volume_l27 _ _ _ _ _ _
    unfold wb_X12_volume_l27
    have o := (pose_ok (an := an) hr.par i h2).2.2.1
    obtain ⟨f1, f2, f3, f4⟩ := hf i h2
    have e8 : (3 : Int32) * nI i + m.1 445 (nI i).toNatClampNeg = nI (3 * i + (poseF g an i).2.2.1 / 2) := by
      rw [clamp_nI (by omega), (hF i h2).2.2, show (3 : Int32) = nI 3 from rfl, nI_mul, nI_add]
    rw [many_ok hs hr.par.2.1, if_neg (inle h2 (by omega))]
    refine ⟨vp_in_nI (by omega) (by omega), ?_⟩
    rw [e8]
    rintro y8 rfl
    refine ⟨sof6 (by omega), fun _ => vp_in_nI (by omega) (by omega), ?_⟩
    rw [clamp_nI (by omega), clamp_nI (by omega), f3, f4, ((hF i h2).2.1 _ (by omega)).1, ((hF i h2).1 _ (by omega)).2.2.2, pt_self]
    rintro y13 h13 y14 h14
    have e : y14 = vStep g an i x := by
      rw [h14, h13]
      unfold vStep vPart nax
      by_cases w : pf g i 6 = -9
      · rw [if_pos ((isFlap_r hs (by omega)).mpr w), if_pos w]
        by_cases z : (poseF g an i).2.2.1 % 2 = 0
        · rw [if_pos z, if_pos z, show Int32.toInt64 1 = 1 from rfl, Int64.mul_one]
        · rw [if_neg z, if_neg z, show Int32.toInt64 (-1) = -(1 : Int64) from rfl, Int64.mul_neg, Int64.mul_one]
      · rw [if_neg (fun z => w ((isFlap_r hs (by omega)).mp z)), if_neg w, Int64.add_zero]
    rw [e]
    exact k1
theorem op_volume {m : Mm} {S : AS} {P : Int64 → Int64 → Mm → Prop} (h : Sim m S) (kk : ∀ r m2 S2, Sim m2 S2 → P r r m2) : wp_X11_volume m (fun r m1 => wp_X12_volume m1 (fun r2 m2 => P r r2 m2)) := by
  have hI := h.2.2
  have hC := h.2.1
  have hD := hI.1
  have hp := hD.ple
  by_cases c0 : pn (sg S) = 0
  · refine combineL (c := wp_X11_volume m) (d := wp_X12_volume) (r := -2) (S2 := S) h (fun K k1 => ?_) (fun m1 K hR k1 => ?_) hI kk
    · unfold wp_X11_volume
      refine cseams_ok hI hC (fun m2 f hF hS hl => ?_)
      rw [c_pc (ClsR_W hI hC f) hI, c0, if_pos (show nI 0 = (0 : Int32) from rfl)]
      exact k1 _ (ClsR_W hI hC f) (up_W f)
    · unfold wp_X12_volume
      rw [many_ok hR.st hD.g2, c0, if_pos (show nI 0 = (0 : Int32) from rfl)]
      exact k1 _ hR (fun _ _ => rfl)
  have n0 : ¬ nI (pn (sg S)) = (0 : Int32) := ine (i := 0) c0 (by omega) (by omega)
  by_cases c1 : xAny (sg S) (angM (sg S) (-1)) (sg S 125)
  · refine combineL (c := wp_X11_volume m) (d := wp_X12_volume) (r := -2) (S2 := S) h (fun K k1 => ?_) (fun m1 K hR k1 => ?_) hI kk
    · unfold wp_X11_volume
      refine cseams_ok hI hC (fun m2 f hF hS hl => ?_)
      have hC2 := ClsR_W hI hC f
      rw [c_pc hC2 hI, if_neg n0]
      refine anyOpen_ok hD.r (by omega) hC2.1 (tol_b hI) hF hS hl (fun y m3 hy f3 => ?_)
      rcases hy with ⟨z1, z2⟩ | ⟨z1, z2⟩
      · show (if _ then _ else _)
        rw [if_neg (by rw [z1]; decide)]
        have f4 := frW_t f (frW_O f3)
        exact k1 _ (ClsR_W hI hC f4) (up_W f4)
      · exact absurd c1 z2
    · unfold wp_X12_volume
      rw [many_ok hR.st hD.g2, if_neg n0, lim0_r hR.st]
      refine ⟨lim0_s, rshut_ok hD.r (tol_b hI) hR.st (fun y m2 m3 hy f q s1 s2 s3 => ?_)⟩
      rcases hy with ⟨z1, z2⟩ | ⟨z1, z2⟩
      · exact absurd c1 z2
      · show (if _ then _ else _)
        rw [if_pos z1]
        exact k1 _ (RefR_FQ hR f q) (low_FQ f q)
  · refine combineL (c := wp_X11_volume m) (d := wp_X12_volume) (r := xVol (sg S) (angM (sg S) (-1))) (S2 := S) h (fun K k1 => ?_) (fun m1 K hR k1 => ?_) hI kk
    · unfold wp_X11_volume
      refine cseams_ok hI hC (fun m2 f hF hS hl => ?_)
      have hC2 := ClsR_W hI hC f
      rw [c_pc hC2 hI, if_neg n0]
      refine anyOpen_ok hD.r (by omega) hC2.1 (tol_b hI) hF hS hl (fun y m3 hy f3 => ?_)
      rcases hy with ⟨z1, z2⟩ | ⟨z1, z2⟩
      · exact absurd z2 c1
      · show (if _ then _ else _)
        rw [if_pos z1]
        have f4 := frW_t f (frW_O f3)
        have hC3 := ClsR_W hI hC f4
        exact cenc_ok hD.r hC3.1 (cFd_O hp hF f3) (k1 _ hC3 (up_W f4))
    · unfold wp_X12_volume
      rw [many_ok hR.st hD.g2, if_neg n0, lim0_r hR.st]
      refine ⟨lim0_s, rshut_ok hD.r (tol_b hI) hR.st (fun y m2 m3 hy f q s1 s2 s3 => ?_)⟩
      rcases hy with ⟨z1, z2⟩ | ⟨z1, z2⟩
      · show (if _ then _ else _)
        rw [if_neg (by rw [z1]; decide)]
        exact rvol_ok hD.r s1 s2 s3 (k1 _ (RefR_FQ hR f q) (low_FQ f q))
      · exact absurd c1 z2
/-! leastTolerance -/
def xCovT (g : Vc) (an : Nat → Int32) (k : Nat) (tol : Int32) : Int32 := xCov g an k (pf g k 6).toNatClampNeg tol
def xCl (g : Vc) (an : Nat → Int32) (tol : Int32) : Prop := (∀ k, k < pn g → ¬ pf g k 6 = -9 → g 128 ≤ xCovT g an k tol) ∧ ¬ xAny g an tol
theorem tgt_e {g : Vc} (hr : rngD g) {k : Nat} (hk : k < pn g) (h : ¬ pf g k 6 = -9) : (pf g k 6).toNatClampNeg < pn g ∧ pf g k 6 = nI (pf g k 6).toNatClampNeg := by
  have hp1 := hr.par.1
  obtain ⟨t, t1, t2, t3⟩ := tgt_i hr hk h
  rw [t3, clamp_nI (by omega)]
  exact ⟨t1, rfl⟩
def frY (m m2 : Mm) : Prop := ∀ b, b ≠ 268 → b < 383 ∨ 391 ≤ b → m2.1 b = m.1 b
theorem cFd_Y {m m2 : Mm} {g : Vc} {an : Nat → Int32} (hp : pn g ≤ 10) (h : cFd m g an) (f : frY m m2) : cFd m2 g an := by
  refine ⟨by rw [f 269 (by omega) (by omega)]; exact h.1, fun k hk => ?_⟩
  have h2 := h.2 k hk
  unfold cF1 cP cL cS at h2 ⊢
  have e : ∀ b, b < 10 → m2.1 (283 + 10 * k + b) = m.1 (283 + 10 * k + b) := fun b hb => f _ (by omega) (by omega)
  have e0 : m2.1 (283 + 10 * k) = m.1 (283 + 10 * k) := f _ (by omega) (by omega)
  rw [e0, e 1 (by omega), e 2 (by omega), e 3 (by omega), e 4 (by omega), e 5 (by omega), e 6 (by omega), e 7 (by omega), e 8 (by omega), e 9 (by omega)]
  exact h2
theorem firstOr (P : Nat → Prop) (n : Nat) (d : Int32) : ∃ r, (∀ i, i < n → P i → (∀ j, j < i → ¬ P j) → r = nI i) ∧ ((∀ j, j < n → ¬ P j) → r = d) := by
  by_cases h : ∃ i, i < n ∧ P i
  · have hd : DecidablePred P := fun _ => Classical.propDecidable _
    obtain ⟨i, h1, h2, h3⟩ := fb_first h
    exact ⟨nI i, fun j j1 j2 j3 => by rw [fb_first_one h2 h3 j2 j3], fun z => absurd h2 (z i h1)⟩
  · exact ⟨d, fun i h1 h2 _ => absurd ⟨i, h1, h2⟩ h, fun _ => rfl⟩
theorem isClosed_ok {m : Mm} {d : Nat} {g : Vc} {an : Nat → Int32} {tol : Int32} {K : Int32 → Mm → Prop} (hr : rngD g) (hd2 : d < 250) (hd : desR m.1 d g) (hl3 : m.1 265 3 = g 128) (ht : inR tol 0 100) (hF : cFd m g an)
    (kk : ∀ y m2, flag y (xCl g an tol) → frY m m2 → K y m2) : wp_X4_isClosed d tol m K := by
  have hp1 := hr.par.1
  have h4 : m.1 d 4 = nI (pn g) := by rw [hd.2.2.1]; exact hr.par.2.1
  unfold wp_X4_isClosed
  refine loop_i (W := fun n i (_ : Unit) => wp_X4_isClosed_l2 _ K d tol n (nI i) m) (I := fun i _ => ∀ k, k < i → ¬ pf g k 6 = -9 → g 128 ≤ xCovT g an k tol) (pn g) ?_ ?_ FU 0 () (by omega) (FU_gt (by omega)) (fun k q => by omega)
  · rintro n - i1
    show wb_X4_isClosed_l2 _ _ _ _ _ _ _
    unfold wb_X4_isClosed_l2
    rw [h4, if_pos (ile (Nat.le_refl _) (by omega))]
    refine find_ok hr hF (fun m3 s1 s2 s3 f3 => ?_)
    refine anyOpen_ok hr hd2 (desR_congr hp1 hd (fun b b1 b2 => f3 b (by omega) (by omega))) ht s2 s1 s3 (fun y m4 hy f4 => ?_)
    have f5 : frY m m4 := fun b b1 b2 => by rw [f4 b (by omega), f3 b b1 (by omega)]
    rintro y9 h9
    refine kk y9 m4 ?_ f5
    rw [h9]
    rcases hy with ⟨z1, z2⟩ | ⟨z1, z2⟩
    · rw [if_neg (by rw [z1]; decide)]; exact Or.inr ⟨rfl, fun q => q.2 z2⟩
    · rw [if_pos z1]; exact Or.inl ⟨rfl, i1, z2⟩
  · rintro n i - hi i1 k2
    show wb_X4_isClosed_l2 _ _ _ _ _ _ _
    unfold wb_X4_isClosed_l2
    rw [h4, if_neg (inle hi (by omega)), nI_1]
    by_cases w : pf g i 6 = -9
    · rw [if_pos ((isFlap_c hd hi hp1).mpr w)]
      refine k2 () (fun k q1 q2 => ?_)
      by_cases z : k = i
      · subst z; exact absurd w q2
      · exact i1 k (by omega) q2
    · rw [if_neg (fun z => w ((isFlap_c hd hi hp1).mp z))]
      obtain ⟨t1, t2⟩ := tgt_e hr hi w
      have el : v_X4_limit (3 : Int32) m = g 128 := by
        unfold v_X4_limit
        rw [if_neg (by decide), if_neg (by decide)]; exact hl3
      rw [el, c_covered hr hd hi t1 t2 hF]
      by_cases z : g 128 ≤ xCov g an i (pf g i 6).toNatClampNeg tol
      · rw [if_pos z]
        refine k2 () (fun k q1 q2 => ?_)
        by_cases y : k = i
        · subst y; exact z
        · exact i1 k (by omega) q2
      · rw [if_neg z]
        exact kk 0 m (Or.inr ⟨rfl, fun q => z (q.1 i hi w)⟩) (fun _ _ _ => rfl)
def frG (m m2 : Mm) : Prop := ∀ b j, b < 426 ∨ (b = 426 ∧ j ≠ 25) ∨ (427 ≤ b ∧ b < 432) ∨ (436 ≤ b ∧ b < 439) ∨ 447 ≤ b → m2.1 b j = m.1 b j
theorem frG_FQ {m m2 m3 : Mm} (f : frF m m2) (q : frQ m2 m3) : frG m m3 := fun b j h => by
  rw [q b j (by omega) (by omega)]
  by_cases w : b = 426
  · subst w; rw [f 426 (by omega)]
  · rw [f b (by omega)]
theorem frG_t {m m2 m3 : Mm} (f : frG m m2) (q : frG m2 m3) : frG m m3 := fun b j h => by rw [q b j h, f b j h]
theorem RefR_G {m m2 : Mm} {S : AS} (h : RefR m S) (f : frG m m2) : RefR m2 S :=
  RefR_congr h (f 426 4 (by omega)) (f 426 12 (by omega)) (f 426 13 (by omega)) (fun b hb => funext fun j => f b j (by unfold rcell at hb; omega))
theorem low_G {m m2 : Mm} (f : frG m m2) : ∀ b, b < 426 → m2.1 b = m.1 b := fun b hb => funext fun j => f b j (Or.inl hb)
theorem stR_G {m m2 : Mm} {g : Vc} (h : stR m g) (f : frG m m2) : stR m2 g := fun k hk => by rw [f 427 k (by omega)]; exact h k hk
theorem op_leastTolerance {m : Mm} {S : AS} {P : Int32 → Int32 → Mm → Prop} (h : Sim m S) (kk : ∀ r m2 S2, Sim m2 S2 → P r r m2) : wp_X11_leastTolerance m (fun r m1 => wp_X12_leastTolerance m1 (fun r2 m2 => P r r2 m2)) := by
  have hI := h.2.2
  have hC := h.2.1
  have hD := hI.1
  have hr := hD.r
  have hp := hD.ple
  obtain ⟨r, hr1, hr2⟩ := firstOr (fun t => xCl (sg S) (angM (sg S) (-1)) (nI t)) 21 (-9)
  have tb : ∀ i, i < 21 → inR (nI i) 0 100 := fun i hi => ⟨by rw [nI_toInt (by omega)]; omega, by rw [nI_toInt (by omega)]; omega⟩
  refine combine (c := wp_X11_leastTolerance m) (d := wp_X12_leastTolerance) (r := r) (S2 := S) h (fun K k1 => ?_) (fun m1 K hR k1 => ?_) hI kk
  · unfold wp_X11_leastTolerance
    refine cfold_ok hr hC.1 (by omega) bit_all (fun m2 hF f => ?_)
    refine loop_i (W := fun n i s => wp_X11_leastTolerance_l14 K n (nI i) s) (I := fun i s => frY m2 s ∧ ∀ j, j < i → ¬ xCl (sg S) (angM (sg S) (-1)) (nI j)) 21 ?_ ?_ FU 0 m2 (by omega) (FU_gt (by omega)) ⟨fun _ _ _ => rfl, fun j q => by omega⟩
    · rintro n s ⟨i1, i2⟩
      show wb_X11_leastTolerance_l14 _ _ _ _
      unfold wb_X11_leastTolerance_l14
      rw [if_pos (show (20 : Int32) < nI 21 from ilt (a := 20) (by omega) (by omega)), ← hr2 i2]
      have fw : frW m s := fun b b1 b2 b3 => by rw [i1 b b1 (by omega), f b b2 (by omega)]
      exact k1 _ (ClsR_W hI hC fw) (up_W fw)
    · rintro n i s hi ⟨i1, i2⟩ k2
      show wb_X11_leastTolerance_l14 _ _ _ _
      unfold wb_X11_leastTolerance_l14
      rw [if_neg (show ¬ (20 : Int32) < nI i from inlt (a := 20) (by omega) (by omega)), nI_1]
      have fw : frW m s := fun b b1 b2 b3 => by rw [i1 b b1 (by omega), f b b2 (by omega)]
      have hC3 := ClsR_W hI hC fw
      refine isClosed_ok hr (by omega) hC3.1 (hC3.2.1.1 3 (by omega)) (tb i hi) (cFd_Y hp hF i1) (fun y m4 hy f4 => ?_)
      have f5 : frY m2 m4 := fun b b1 b2 => by rw [f4 b b1 b2, i1 b b1 b2]
      rcases hy with ⟨z1, z2⟩ | ⟨z1, z2⟩
      · show (if _ then _ else _)
        rw [if_neg (by rw [z1]; decide), ← hr1 i hi z2 i2]
        have fw4 : frW m m4 := fun b b1 b2 b3 => by rw [f5 b b1 (by omega), f b b2 (by omega)]
        exact k1 _ (ClsR_W hI hC fw4) (up_W fw4)
      · show (if _ then _ else _)
        rw [if_pos z1]
        refine k2 m4 ⟨f5, fun j q => ?_⟩
        by_cases w : j = i
        · rw [w]; exact z2
        · exact i2 j (by omega)
  · unfold wp_X12_leastTolerance
    refine loop_i (W := fun n i s => wp_X12_leastTolerance_l2 K n (nI i) s) (I := fun i s => frG m1 s ∧ ∀ j, j < i → ¬ xCl (sg S) (angM (sg S) (-1)) (nI j)) 21 ?_ ?_ FU 0 m1 (by omega) (FU_gt (by omega)) ⟨fun _ _ _ => rfl, fun j q => by omega⟩
    · rintro n s ⟨i1, i2⟩
      show wb_X12_leastTolerance_l2 _ _ _ _
      unfold wb_X12_leastTolerance_l2
      rw [if_pos (show (20 : Int32) < nI 21 from ilt (a := 20) (by omega) (by omega)), ← hr2 i2]
      exact k1 _ (RefR_G hR i1) (low_G i1)
    · rintro n i s hi ⟨i1, i2⟩ k2
      show wb_X12_leastTolerance_l2 _ _ _ _
      unfold wb_X12_leastTolerance_l2
      rw [if_neg (show ¬ (20 : Int32) < nI i from inlt (a := 20) (by omega) (by omega))]
      refine rshut_ok hr (tb i hi) (stR_G hR.st i1) (fun y m2 m3 hy f q s1 s2 s3 => ?_)
      have f5 : frG m1 m3 := frG_t i1 (frG_FQ f q)
      have hl : v_X12_limitOf 3 m3 = sg S 128 := s1 128 (by omega)
      refine loop_i (W := fun n2 j y => wp_X12_leastTolerance_l16 _ K (nI i) n2 y (nI j) m3) (I := fun j y => flag y ((∀ k, k < j → ¬ pf (sg S) k 6 = -9 → (sg S) 128 ≤ xCovT (sg S) (angM (sg S) (-1)) k (nI i)) ∧ ¬ xAny (sg S) (angM (sg S) (-1)) (nI i))) (pn (sg S)) ?_ ?_ FU 0 y (by omega) (FU_gt (by omega)) (flag_iff hy ⟨fun z => ⟨fun k q => by omega, z⟩, fun z => z.2⟩)
      · intro n2 y2 hy2
        show wb_X12_leastTolerance_l16 _ _ _ _ _ _ _
        unfold wb_X12_leastTolerance_l16
        rw [many_ok s1 hD.g2, if_pos (ile (Nat.le_refl _) (by omega)), nI_1]
        rcases hy2 with ⟨z1, z2⟩ | ⟨z1, z2⟩
        · show (if _ then _ else _)
          rw [if_neg (by rw [z1]; decide), ← hr1 i hi z2 i2]
          exact k1 _ (RefR_G hR f5) (low_G f5)
        · show (if _ then _ else _)
          rw [if_pos z1]
          refine k2 m3 ⟨f5, fun j q => ?_⟩
          by_cases w : j = i
          · rw [w]; exact z2
          · exact i2 j (by omega)
      · intro n2 j y2 hj hy2 k3
        show wb_X12_leastTolerance_l16 _ _ _ _ _ _ _
        unfold wb_X12_leastTolerance_l16
        rw [many_ok s1 hD.g2, if_neg (inle hj (by omega))]
        rcases hy2 with ⟨z1, z2⟩ | ⟨z1, z2⟩
        · rw [if_neg (by rw [z1]; decide)]
          refine ⟨sof6 (by omega), ?_⟩
          by_cases w : pf (sg S) j 6 = -9
          · rw [if_pos ((isFlap_r s1 (by omega)).mpr w)]
            unfold wp_X12_leastTolerance_j50 wp_X12_leastTolerance_j55
            rw [nI_1 j]
            refine k3 1 (Or.inl ⟨rfl, fun k q1 q2 => ?_, z2.2⟩)
            by_cases v : k = j
            · subst v; exact absurd w q2
            · exact z2.1 k (by omega) q2
          · rw [if_neg (fun z => w ((isFlap_r s1 (by omega)).mp z))]
            obtain ⟨t1, t2⟩ := tgt_e hr hj w
            refine rcovered_ok hr s1 s2 hj t1 t2 s3 ?_
            refine ⟨vp_in_nI (n := 128) (by omega) (by omega), ?_⟩
            rw [hl, nI_1 j]
            rintro y12 h12
            refine k3 y12 ?_
            rw [h12]
            by_cases v : xCov (sg S) (angM (sg S) (-1)) j (pf (sg S) j 6).toNatClampNeg (nI i) < (sg S) 128
            · rw [if_pos v]
              refine Or.inr ⟨rfl, fun q => ?_⟩
              have := q.1 j (by omega) w
              unfold xCovT at this
              rw [fa_lt] at v
              rw [fa_le] at this
              omega
            · rw [if_neg v]
              refine Or.inl ⟨rfl, fun k q1 q2 => ?_, z2.2⟩
              by_cases u : k = j
              · subst u; unfold xCovT; rw [fa_lt] at v; rw [fa_le]; omega
              · exact z2.1 k (by omega) q2
        · rw [if_pos z1]
          unfold wp_X12_leastTolerance_j54 wp_X12_leastTolerance_j55
          rw [nI_1 j]
          exact k3 0 (Or.inr ⟨rfl, fun q => z2 ⟨fun k q1 => q.1 k (by omega), q.2⟩⟩)
