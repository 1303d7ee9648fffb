/-! the reference folds: the base, the extents, all panels -/
def pend (g : Vc) (an : Nat → Int32) (k c : Nat) : Int32 := (poseF g an k).2.2.2 c + (rect g k).2.2.1 * pt (poseF g an k).1 c + (rect g k).2.2.2 * pt (poseF g an k).2.1 c
def plo (g : Vc) (an : Nat → Int32) (k c : Nat) : Int32 := v_X12_least ((poseF g an k).2.2.2 c) (pend g an k c)
def phi (g : Vc) (an : Nat → Int32) (k c : Nat) : Int32 := v_X12_most ((poseF g an k).2.2.2 c) (pend g an k c)
def exR (m : Mm) (g : Vc) (an : Nat → Int32) (k n : Nat) : Prop := ∀ c, c < n → m.1 443 (3 * k + c) = plo g an k c ∧ m.1 444 (3 * k + c) = phi g an k c
def fR (m : Mm) (g : Vc) (an : Nat → Int32) (n : Nat) : Prop := ∀ k, k < n → pR m (poseF g an k) k 3 ∧ exR m g an k 3 ∧ m.1 445 k = nI ((poseF g an k).2.2.1 / 2)
theorem pose_ok {g : Vc} {an : Nat → Int32} (hp : par g) : ∀ k, k < pn g → pzok (poseF g an k) := by
  intro k
  induction k using Nat.strongRecOn with
  | _ k ih =>
    intro hk
    have hp1 := hp.1
    by_cases h0 : k = 0
    · subst h0
      rw [poseF_0]
      show (0 : Nat) < 6 ∧ 2 < 6 ∧ 4 < 6 ∧ 0 / 2 ≠ 2 / 2 ∧ 0 / 2 ≠ 4 / 2 ∧ 2 / 2 ≠ 4 / 2
      decide
    · obtain ⟨p, s, hpk, ep, hs, es, er⟩ := par_s hp (by omega) hk
      rw [poseF_s (by omega) (by omega) hpk ep hs es]
      exact pzok_hung hs (ih p hpk (by omega))
theorem layBase_ok {m : Mm} {g : Vc} {an : Nat → Int32} {K : Mm → Prop} (h1 : m.1 432 0 = g 121) (h2 : m.1 433 0 = g 122) (kk : ∀ m2, pR m2 (poseF g an 0) 0 3 → fr 439 443 m m2 → K m2) : wp_X12_layBase m K := by
  unfold wp_X12_layBase
  rw [poseF_0] at kk
  refine loop_i (W := fun n i m => wp_X12_layBase_l2 K n (nI i) m) (I := fun i s => pR s (0, 2, 4, fun c => if c = 0 then g 121 else if c = 1 then g 122 else 0) 0 i ∧ fr 439 443 m s) 3 ?_ ?_ FU 0 m (by omega) (FU_gt (by omega)) ⟨fun c hc => by omega, fr_refl _ _ _⟩
  · rintro n s ⟨i1, i2⟩
    show wb_X12_layBase_l2 _ _ _ _
    unfold wb_X12_layBase_l2
    rw [if_pos (show (3 : Int32) ≤ nI 3 from ile (a := 3) (by omega) (by omega))]
    exact kk s i1 i2
  · rintro n c s hc ⟨i1, i2⟩ k2
    show wb_X12_layBase_l2 _ _ _ _
    unfold wb_X12_layBase_l2
    rw [if_neg (show ¬ (3 : Int32) ≤ nI c from inle (a := 3) hc (by omega)), i2 432 (by omega), i2 433 (by omega), h1, h2, clamp_nI (by omega)]
    rintro y4 rfl
    refine ⟨vp_in_nI (by omega) (by omega), ?_⟩
    rintro m6 e6 y8 rfl m9 e9 y11 rfl m12 e12 y14 rfl m15 e15
    have hF : fr 439 443 m m15 := by
      rw [e15]
      refine fr_wI ?_ (by omega) (by omega)
      rw [e12]
      refine fr_wI ?_ (by omega) (by omega)
      rw [e9]
      refine fr_wI ?_ (by omega) (by omega)
      rw [e6]
      exact fr_wI i2 (by omega) (by omega)
    have hO : ∀ b j, j ≠ c → m15.1 b j = s.1 b j := fun b j hj => by rw [e15, wI_nj _ _ _ _ hj, e12, wI_nj _ _ _ _ hj, e9, wI_nj _ _ _ _ hj, e6, wI_nj _ _ _ _ hj]
    rw [nI_1]
    refine k2 _ ⟨fun c' hc' => ?_, hF⟩
    rcases Nat.lt_or_ge c' c with z | z
    · exact pR_congr i1 (fun b i _ _ z1 z2 => hO b i (by omega)) c' z
    · have ec : c' = c := by omega
      rw [ec, show 3 * 0 + c = c by omega]
      have w442 : m15.1 442 c = if nI c = 2 then 1 else 0 := by rw [e15, wI_same]
      have w441 : m15.1 441 c = if nI c = 1 then 1 else 0 := by rw [e15, wI_ne _ _ _ _ (by omega), e12, wI_same]
      have w440 : m15.1 440 c = if nI c = 0 then 1 else 0 := by rw [e15, wI_ne _ _ _ _ (by omega), e12, wI_ne _ _ _ _ (by omega), e9, wI_same]
      have w439 : m15.1 439 c = if nI c = 0 then g 121 else if nI c = 1 then g 122 else 0 := by rw [e15, wI_ne _ _ _ _ (by omega), e12, wI_ne _ _ _ _ (by omega), e9, wI_ne _ _ _ _ (by omega), e6, wI_same]
      rw [w439, w440, w441, w442]
      rcases tri hc with y | y | y <;> subst y <;> refine ⟨rfl, ?_, ?_, ?_⟩ <;> first | (show _ = pt 0 _; decide) | (show _ = pt 2 _; decide) | (show _ = pt 4 _; decide)
theorem extent_ok {m : Mm} {g : Vc} {an : Nat → Int32} {k : Nat} {rec : Int32 → Mm → Prop} {K : Mm → Prop} {x1 : Int32} (hp : par g) (hk : k < pn g) (hf : flatR m g (pn g)) (hP : pR m (poseF g an k) k 3)
    (kk : ∀ m2, exR m2 g an k 3 → m2.1 445 k = nI ((poseF g an k).2.2.1 / 2) → fr 443 446 m m2 → (∀ j, j ≠ k → m2.1 445 j = m.1 445 j) → (∀ b j, b = 443 ∨ b = 444 → j < 3 * k → m2.1 b j = m.1 b j) → rec (nI k + 1) m2) : wp_X12_fold_j49 rec K x1 (nI k) m := by
  have hp1 := hp.1
  have ok := pose_ok (an := an) hp k hk
  unfold wp_X12_fold_j49
  refine loop_i (W := fun n i m => wp_X12_fold_l51 rec K x1 (nI k) n (nI i) m) (I := fun i s => exR s g an k i ∧ ((poseF g an k).2.2.1 / 2 < i → s.1 445 k = nI ((poseF g an k).2.2.1 / 2)) ∧ fr 443 446 m s ∧ (∀ j, j ≠ k → s.1 445 j = m.1 445 j) ∧ (∀ b j, b = 443 ∨ b = 444 → j < 3 * k → s.1 b j = m.1 b j)) 3 ?_ ?_ FU 0 m (by omega) (FU_gt (by omega)) ⟨fun c hc => by omega, fun z => by omega, fr_refl _ _ _, fun _ _ => rfl, fun _ _ _ _ => rfl⟩
  · rintro n s ⟨i1, i2, i3, i4, i5⟩
    show wb_X12_fold_l51 _ _ _ _ _ _ _
    unfold wb_X12_fold_l51
    rw [if_pos (show (3 : Int32) ≤ nI 3 from ile (a := 3) (by omega) (by omega))]
    exact kk s i1 (i2 (by have := ok.2.2.1; omega)) i3 i4 i5
  · rintro n c s hc ⟨i1, i2, i3, i4, i5⟩ k2
    show wb_X12_fold_l51 _ _ _ _ _ _ _
    unfold wb_X12_fold_l51
    have eb : (3 : Int32) * nI k + nI c = nI (3 * k + c) := by rw [show (3 : Int32) = nI 3 from rfl, nI_mul, nI_add]
    obtain ⟨q1, q2, q3, q4⟩ := hP c hc
    obtain ⟨f1, f2, f3, f4⟩ := hf k hk
    rw [if_neg (show ¬ (3 : Int32) ≤ nI c from inle (a := 3) hc (by omega)), eb, clamp_nI (show 3 * k + c < 2 ^ 31 by omega), clamp_nI (show k < 2 ^ 31 by omega), i3 439 (by omega), i3 440 (by omega), i3 441 (by omega), i3 434 (by omega), i3 435 (by omega), q1, q2, q3, f3, f4]
    refine ⟨vp_in_nI (by omega) (by omega), vp_in_nI (by omega) (by omega), ?_⟩
    rintro y12 rfl m13 e13 m14 e14 y16 e16 m17 e17
    have a439 : m13.1 439 (3 * k + c) = (poseF g an k).2.2.2 c := by rw [e13, wI_ne _ _ _ _ (by omega), i3 439 (by omega), q1]
    have a442 : m14.1 442 (3 * k + c) = pt (poseF g an k).2.2.1 c := by rw [e14, wI_ne _ _ _ _ (by omega), e13, wI_ne _ _ _ _ (by omega), i3 442 (by omega), q4]
    have a445 : m14.1 445 k = s.1 445 k := by rw [e14, wI_ne _ _ _ _ (by omega), e13, wI_ne _ _ _ _ (by omega)]
    rw [a439] at e14
    rw [a442, a445] at e16
    rw [nI_1]
    refine k2 _ ⟨fun c' hc' => ?_, fun z => ?_, ?_, fun j hj => ?_, fun b j hb hj => ?_⟩
    · rcases Nat.lt_or_ge c' c with z | z
      · rw [e17, wI_ne _ _ _ _ (by omega), wI_ne _ _ _ _ (by omega), e14, wI_ne _ 444 _ _ (show 443 ≠ 444 by omega), wI_nj _ _ _ _ (by omega), e13, wI_nj _ _ _ _ (by omega), wI_ne _ 443 _ _ (show 444 ≠ 443 by omega)]
        exact i1 c' z
      · have ec : c' = c := by omega
        rw [ec, e17, wI_ne _ _ _ _ (by omega), wI_ne _ _ _ _ (by omega), e14, wI_ne _ 444 _ _ (show 443 ≠ 444 by omega), wI_same, e13, wI_same]
        exact ⟨rfl, rfl⟩
    · rw [e17, wI_same, e16]
      by_cases hz : pt (poseF g an k).2.2.1 c = 0
      · rw [if_pos hz]
        have hne : ¬ (poseF g an k).2.2.1 / 2 = c := fun q => pt_ne.mpr q hz
        exact i2 (by omega)
      · rw [if_neg hz, pt_ne.mp hz]
    · rw [e17]
      refine fr_wI ?_ (by omega) (by omega)
      rw [e14]
      refine fr_wI ?_ (by omega) (by omega)
      rw [e13]
      exact fr_wI i3 (by omega) (by omega)
    · rw [e17, wI_nj _ _ _ _ hj, e14, wI_ne _ _ _ _ (by omega), e13, wI_ne _ _ _ _ (by omega)]; exact i4 j hj
    · rw [e17, wI_ne _ _ _ _ (by omega), e14, wI_nj _ _ _ _ (by omega), e13, wI_nj _ _ _ _ (by omega)]; exact i5 b j hb hj
def angM (g : Vc) (made : Int32) (k : Nat) : Int32 := if (made >>> (nI k &&& 31)) &&& 1 = 1 then pf g k 5 else 0
def frF (m m2 : Mm) : Prop := ∀ b, b < 432 ∨ (436 ≤ b ∧ b < 439) ∨ 446 ≤ b → m2.1 b = m.1 b
theorem flatR_fr {lo hi : Nat} {m m2 : Mm} {g : Vc} {n : Nat} (h : flatR m g n) (f : fr lo hi m m2) (hl : 435 < lo) : flatR m2 g n := fun k hk => by
  rw [f 432 (by omega), f 433 (by omega), f 434 (by omega), f 435 (by omega)]; exact h k hk
theorem rfold_ok {m : Mm} {g : Vc} {made : Int32} {K : Mm → Prop} (hr : rngD g) (h : stR m g) (kk : ∀ m2, fR m2 g (angM g made) (pn g) → flatR m2 g (pn g) → frF m m2 → K m2) : wp_X12_fold made m K := by
  have hp := hr.par
  have hp1 := hp.1
  unfold wp_X12_fold
  refine layFlat_ok h hp (fun m1 hf f1 => ?_)
  have h1 : stR m1 g := stR_fr h f1 (by omega)
  refine loop_i (W := fun n i m => wp_X12_fold_l6 K made n (nI i) m) (I := fun i s => fR s g (angM g made) i ∧ fr 439 446 m1 s) (pn g) ?_ ?_ FU 0 m1 (by omega) (FU_gt (by omega)) ⟨fun k hk => by omega, fr_refl _ _ _⟩
  · rintro n s ⟨i1, i2⟩
    show wb_X12_fold_l6 _ _ _ _ _
    unfold wb_X12_fold_l6
    rw [many_ok (stR_fr h1 i2 (by omega)) hp.2.1, if_pos (ile (Nat.le_refl _) (by omega))]
    exact kk s i1 (flatR_fr hf i2 (by omega)) (fun b hb => by rw [i2 b (by omega), f1 b (by omega)])
  · rintro n k s hk ⟨i1, i2⟩ k2
    show wb_X12_fold_l6 _ _ _ _ _
    unfold wb_X12_fold_l6
    have hs : stR s g := stR_fr h1 i2 (by omega)
    have hfs : flatR s g (pn g) := flatR_fr hf i2 (by omega)
    have hend : ∀ m2, (∀ j, j < k + 1 → pR m2 (poseF g (angM g made) j) j 3) → fr 439 443 s m2 → wp_X12_fold_j49 (fun x m => wp_X12_fold_l6 K made n x m) K made (nI k) m2 := by
      intro m2 hP hf2
      refine extent_ok hp hk (flatR_fr hfs hf2 (by omega)) (hP k (by omega)) (fun m3 c1 c2 c3 c4 c5 => ?_)
      rw [nI_1]
      refine k2 _ ⟨fun j hj => ?_, ?_⟩
      · have hPj : pR m3 (poseF g (angM g made) j) j 3 := pR_congr (hP j hj) (fun b i z1 z2 _ _ => by rw [c3 b (by omega)])
        rcases Nat.lt_or_ge j k with q | q
        · obtain ⟨-, a2, a3⟩ := i1 j q
          refine ⟨hPj, fun c hc => ?_, ?_⟩
          · rw [c5 443 _ (by omega) (by omega), c5 444 _ (by omega) (by omega), hf2 443 (by omega), hf2 444 (by omega)]; exact a2 c hc
          · rw [c4 j (by omega), hf2 445 (by omega)]; exact a3
        · rw [show j = k by omega]
          rw [show j = k by omega] at hPj
          exact ⟨hPj, c1, c2⟩
      · exact fr_trans i2 (fr_trans (fr_mono hf2 (by omega) (by omega)) (fr_mono c3 (by omega) (by omega)))
    rw [many_ok hs hp.2.1, if_neg (inle hk (by omega))]
    by_cases h0 : k = 0
    · subst h0
      rw [if_pos (show nI 0 = (0 : Int32) from rfl)]
      obtain ⟨q1, q2, -, -⟩ := hfs 0 hk
      rw [rect_0] at q1 q2
      refine layBase_ok q1 q2 (fun m2 hP hf2 => hend m2 (fun j hj => by rw [show j = 0 by omega]; exact hP) hf2)
    · rw [if_neg (show ¬ nI k = (0 : Int32) from ine (i := 0) h0 (by omega) (by omega)), of5 hs (by omega)]
      refine ⟨fun _ => sof5 (by omega), ?_⟩
      rintro y7 rfl
      exact layHung_ok (an := angM g made) hr (by omega) hk hs hfs (fun j hj => (i1 j hj).1) (fun j hj => pose_ok hp j (by omega)) (fun m2 hP hf2 => hend m2 hP hf2)
