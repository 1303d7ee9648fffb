/-! the class folds all panels -/
def cF1 (m : Mm) (g : Vc) (an : Nat → Int32) (k : Nat) : Prop := cP m (283 + 10 * k) (poseF g an k) (rect g k).2.2.1 (rect g k).2.2.2 ∧ cL m (283 + 10 * k) (poseF g an k) (rect g k).2.2.1 (rect g k).2.2.2 3 ∧ cS m (283 + 10 * k) (poseF g an k) (rect g k).2.2.1 (rect g k).2.2.2 4
def cFd (m : Mm) (g : Vc) (an : Nat → Int32) : Prop := m.1 269 0 = nI (pn g) ∧ ∀ k, k < pn g → cF1 m g an k
def frC (m m2 : Mm) : Prop := ∀ b, b ≠ 269 → b < 283 ∨ 383 ≤ b → m2.1 b = m.1 b
theorem cF1_congr {m m2 : Mm} {g : Vc} {an : Nat → Int32} {k : Nat} (h : cF1 m g an k) (e : ∀ b, 283 + 10 * k ≤ b → b < 283 + 10 * k + 10 → m2.1 b = m.1 b) : cF1 m2 g an k := by
  obtain ⟨h1, h2, h3⟩ := h
  refine ⟨cP_congr h1 (e _ (by omega) (by omega)) (e _ (by omega) (by omega)), ?_, ?_⟩
  · unfold cL at h2 ⊢
    rw [e _ (by omega) (by omega), e _ (by omega) (by omega)]
    exact h2
  · unfold cS at h3 ⊢
    rw [e _ (by omega) (by omega), e _ (by omega) (by omega), e _ (by omega) (by omega), e _ (by omega) (by omega), e _ (by omega) (by omega), e _ (by omega) (by omega)]
    exact h3
def bitOK (made : Int32) : Prop := ∀ k, k < 10 → ((made &&& ((1 : Int32) <<< (nI k &&& 31))) = 0 ↔ ¬ ((made >>> (nI k &&& 31)) &&& 1) = 1)
theorem cfold_ok {d : Nat} {m : Mm} {g : Vc} {made : Int32} {K : Mm → Prop} (hr : rngD g) (hd : desR m.1 d g) (hd2 : d < 250) (hb : bitOK made) (kk : ∀ m2, cFd m2 g (angM g made) → frC m m2 → K m2) : wp_X5_fold d made m K := by
  have hp := hr.par
  have hp1 := hp.1
  have h4 : m.1 d 4 = nI (pn g) := by rw [hd.2.2.1]; exact hp.2.1
  unfold wp_X5_fold
  rintro m1 rfl
  have f1 : ∀ b, b ≠ 269 → (wI m 269 0 (m.1 d 4)).1 b = m.1 b := fun b hb => by funext j; rw [wI_ne _ _ _ _ hb]
  rw [wI_same, h4]
  rw [h4] at f1
  have hloop : ∀ m2 : Mm, m2.1 269 0 = nI (pn g) → (0 < pn g → cF1 m2 g (angM g made) 0) → (∀ b, b ≠ 269 → b < 283 ∨ 383 ≤ b → m2.1 b = m.1 b) → wp_X5_fold_j36 K d made m2 := by
    intro m2 c0 c1 c2
    unfold wp_X5_fold_j36
    refine loop_a (wp := fun n i s => wp_X5_fold_l38 K d made n i s) (a := 1) (N := pn g) (I := fun i s => s.1 269 0 = nI (pn g) ∧ (∀ k, k < i → k < pn g → cF1 s g (angM g made) k) ∧ frC m s) (by omega) (by omega) ?_ ?_ ⟨c0, fun k z1 z2 => by rw [show k = 0 by omega]; exact c1 (by omega), c2⟩
    · rintro n i s z1 _ ⟨i1, i2, i3⟩
      show wb_X5_fold_l38 _ _ _ _ _ _
      unfold wb_X5_fold_l38
      rw [i1, if_pos (ile z1 (by omega))]
      exact kk s ⟨i1, fun k hk => i2 k (by omega) hk⟩ i3
    · rintro n i s z1 z2 ⟨i1, i2, i3⟩ k2
      show wb_X5_fold_l38 _ _ _ _ _ _
      unfold wb_X5_fold_l38
      obtain ⟨p, t, hpk, ep, ht, et, er⟩ := par_s hp (by omega) z2
      have hpan := hd.2.2.2.2 i z2
      have hF := hpan.F.2.2 (by omega)
      obtain ⟨r1, r2, r3, r4⟩ := hpan.R
      have ea : s.1 (d + 5 + i) = m.1 (d + 5 + i) := i3 _ (by omega) (by omega)
      rw [i1, if_neg (inle z2 (by omega)), panelAt_in (by omega), ea, hF 0 (by omega), ep, poseAt_in (by omega), poseAt_in (by omega), hpan.1 5 (by omega) (by omega)]
      intro y5 e5
      have e5' : y5 = angM g made i := by
        rw [e5]
        unfold angM
        by_cases q : (made &&& ((1 : Int32) <<< (nI i &&& 31))) = 0
        · rw [if_pos q, if_neg ((hb i (by omega)).mp q)]
        · rw [if_neg q, if_pos (Decidable.not_not.mp (fun z => q ((hb i (by omega)).mpr z)))]
      subst e5'
      obtain ⟨w1, w2, w3⟩ := i2 p (by omega) (by omega)
      have okp := pose_ok (an := angM g made) hp p (by omega)
      have oki := pose_ok (an := angM g made) hp i z2
      have epose := poseF_s (an := angM g made) (by omega) (by omega) hpk ep ht et
      refine hangOn_ok (off := pf g i 2) (dep := pf g i 4) (w2 := (rect g i).2.2.1) (h2 := (rect g i).2.2.2) (by omega) (by omega) w1 okp ht (by rw [ea, hF 1 (by omega), et]) (by rw [ea, hF 2 (by omega)]) (by rw [ea, hF 4 (by omega)]) (by rw [ea, r3]) (by rw [ea, r4]) (fun m3 v1 v2 => ?_)
      rw [← epose] at v1
      refine measure_ok v1 oki (fun m4 u1 u2 u3 u4 => ?_)
      have e34 : ∀ b, b < 283 + 10 * i ∨ 283 + 10 * i + 10 ≤ b → m4.1 b = s.1 b := fun b hb => by rw [u4 b hb, v2 b hb]
      refine k2 _ ⟨by rw [e34 269 (by omega)]; exact i1, fun k q1 q2 => ?_, fun b q1 q2 => by rw [e34 b (by omega)]; exact i3 b q1 q2⟩
      rcases Nat.lt_or_ge k i with z | z
      · exact cF1_congr (i2 k z q2) (fun b x1 x2 => e34 b (by omega))
      · rw [show k = i by omega]; exact ⟨u1, u2, u3⟩
  by_cases h0 : pn g = 0
  · rw [if_pos (by rw [h0]; decide)]
    exact hloop _ (wI_same _ _ _ _) (fun z => by omega) (fun b q1 q2 => f1 b q1)
  · rw [if_neg (show ¬ nI (pn g) ≤ (0 : Int32) from inle (i := 0) (by omega) (by omega)), show v_X5_poseAt 0 = 283 from poseAt_in (k := 0) (by omega), show v_X3_panelAt d 0 = d + 5 from panelAt_in (i := 0) (by omega)]
    have hrc : rcR (wI m 269 0 (nI (pn g))).1 (d + 5) g 0 := by
      unfold rcR
      rw [f1 (d + 5) (by omega)]
      exact (hd.2.2.2.2 0 (by omega)).R
    refine clayFlat_ok (an := angM g made) (by omega) hrc (fun m2 v1 v2 => ?_)
    refine measure_ok v1 (pose_ok hp 0 (by omega)) (fun m3 u1 u2 u3 u4 => ?_)
    refine hloop _ ?_ (fun _ => ⟨u1, u2, u3⟩) (fun b q1 q2 => ?_)
    · rw [u4 269 (by omega), v2 269 (by omega), wI_same]
    · rw [u4 b (by omega), v2 b (by omega), f1 b q1]
