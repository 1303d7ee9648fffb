/-! the flat design: both sides lay out the same rectangles -/
def par (g : Vc) : Prop := pn g ≤ 10 ∧ g 2 = nI (pn g) ∧ ∀ k, 0 < k → k < pn g → (∃ p, p < k ∧ pf g k 0 = nI p) ∧ ∃ s, s < 4 ∧ pf g k 1 = nI s
theorem rngD.par {g : Vc} (h : rngD g) : par g := by
  obtain ⟨n, hn, e⟩ := h.2.2.1
  have hp := pn_of e hn
  exact ⟨by omega, by rw [hp]; exact e, fun k h0 hk => ⟨(h.2.2.2.2.2.2 k h0 hk).1, (h.2.2.2.2.2.2 k h0 hk).2.1⟩⟩
def flatR (m : Mm) (g : Vc) (n : Nat) : Prop := ∀ k, k < n → m.1 432 k = (rect g k).1 ∧ m.1 433 k = (rect g k).2.1 ∧ m.1 434 k = (rect g k).2.2.1 ∧ m.1 435 k = (rect g k).2.2.2
def fr (lo hi : Nat) (m m2 : Mm) : Prop := ∀ b, b < lo ∨ hi ≤ b → m2.1 b = m.1 b
theorem fr_refl (lo hi : Nat) (m : Mm) : fr lo hi m m := fun _ _ => rfl
theorem fr_wI {lo hi : Nat} {m m2 : Mm} {a k : Nat} {x : Int32} (h : fr lo hi m m2) (h1 : lo ≤ a) (h2 : a < hi) : fr lo hi m (wI m2 a k x) := fun b hb => by
  funext j
  rw [wI_ne _ _ _ _ (by omega)]
  exact congrFun (h b hb) j
theorem fr_trans {lo hi : Nat} {m m2 m3 : Mm} (h : fr lo hi m m2) (h2 : fr lo hi m2 m3) : fr lo hi m m3 := fun b hb => by rw [h2 b hb, h b hb]
theorem fr_mono {lo hi lo2 hi2 : Nat} {m m2 : Mm} (h : fr lo hi m m2) (h1 : lo2 ≤ lo) (h2 : hi ≤ hi2) : fr lo2 hi2 m m2 := fun b hb => h b (by omega)
theorem stR_fr {lo hi : Nat} {m m2 : Mm} {g : Vc} (h : stR m g) (f : fr lo hi m m2) (hl : 427 < lo) : stR m2 g := fun k hk => by rw [f 427 (by omega)]; exact h k hk
theorem par_s {g : Vc} (h : par g) {k : Nat} (h0 : 0 < k) (hk : k < pn g) : ∃ p s, p < k ∧ pf g k 0 = nI p ∧ s < 4 ∧ pf g k 1 = nI s ∧ rect g k = hung g k (rect g p) := by
  obtain ⟨⟨p, hp, ep⟩, s, hs, es⟩ := h.2.2 k h0 hk
  exact ⟨p, s, hp, ep, hs, es, rect_s h0 ep hp (by have := h.1; omega)⟩
theorem lay_one {m : Mm} {g : Vc} {k : Nat} {rec : Int32 → Mm → Prop} {K : Mm → Prop} (h : stR m g) (hp : par g) (hk : k < pn g) (hf : flatR m g k)
    (kk : ∀ m2, flatR m2 g (k + 1) → fr 432 436 m m2 → rec (nI k + 1) m2) : wb_X12_layFlat_l2 rec K (nI k) m := by
  have hp10 := hp.1
  have hk10 : k < 10 := by omega
  unfold wb_X12_layFlat_l2
  rw [many_ok h hp.2.1, if_neg (inle hk (by omega))]
  by_cases h0 : k = 0
  · subst h0
    rw [if_pos (show nI 0 = (0 : Int32) from rfl)]
    rintro m1 rfl m2 rfl m3 rfl m4 rfl
    refine kk _ (fun j hj => ?_) (fr_wI (fr_wI (fr_wI (fr_wI (fr_refl _ _ _) (by omega) (by omega)) (by omega) (by omega)) (by omega) (by omega)) (by omega) (by omega))
    rw [show j = 0 by omega, rect_0]
    have e : ∀ i, i < 137 → m.1 427 i = g i := h
    refine ⟨?_, ?_, ?_, ?_⟩
    · rw [wI_ne _ _ _ _ (by omega), wI_ne _ _ _ _ (by omega), wI_ne _ _ _ _ (by omega), wI_same, e _ (by omega)]
    · rw [wI_ne _ _ _ _ (by omega), wI_ne _ _ _ _ (by omega), wI_same, wI_ne _ _ _ _ (by omega), e _ (by omega)]
    · rw [wI_ne _ _ _ _ (by omega), wI_same, wI_ne _ _ _ _ (by omega), wI_ne _ _ _ _ (by omega), e _ (by omega)]
    · rw [wI_same, wI_ne _ _ _ _ (by omega), wI_ne _ _ _ _ (by omega), wI_ne _ _ _ _ (by omega), e _ (by omega)]
  · rw [if_neg (show ¬ nI k = (0 : Int32) from ine (i := 0) h0 (by omega) (by omega))]
    obtain ⟨p, s, hpk, ep, hs, es, er⟩ := par_s hp (by omega) hk
    obtain ⟨f1, f2, f3, f4⟩ := hf p hpk
    rw [of0 h hk10, of1 h hk10, of4 h hk10, ep, es]
    refine ⟨sof0 hk10, ?_⟩
    rintro y4 rfl
    refine ⟨sof1 hk10, ?_⟩
    rintro y6 rfl
    refine ⟨sof4 hk10, ?_⟩
    rintro y8 rfl y10 hy10
    have hlev : y10 = if pf g k 1 = 0 ∨ pf g k 1 = 2 then (1 : Int32) else 0 := by
      rw [hy10, es, show rm32 (nI s) (2 : Int32) = nI (s % 2) from rm32_nI (d := 2) (by omega) (by omega) (by omega)]
      match s, hs with
      | 0, _ => decide
      | 1, _ => decide
      | 2, _ => decide
      | 3, _ => decide
    have hw : ∀ {m1 : Mm}, fr 432 436 m m1 → stR m1 g := fun f => stR_fr h f (by omega)
    refine ⟨fun _ => sof3 hk10, ?_⟩
    rintro y14 rfl
    refine ⟨vp_in_nI hk10 (by omega), ?_⟩
    rintro m16 h16
    have F16 : fr 432 436 m m16 := by rw [h16]; exact fr_wI (fr_refl _ _ _) (by omega) (by omega)
    refine ⟨fun _ => sof3 hk10, ?_⟩
    rintro y20 rfl m21 h21
    have F21 : fr 432 436 m m21 := by rw [h21]; exact fr_wI F16 (by omega) (by omega)
    refine ⟨⟨fun _ => vp_in_nI (by omega) (by omega), fun _ => ⟨vp_in_nI (by omega) (by omega), sof2 hk10⟩⟩, ?_⟩
    rintro y29 rfl m30 h30
    have F30 : fr 432 436 m m30 := by rw [h30]; exact fr_wI F21 (by omega) (by omega)
    refine ⟨⟨fun _ => vp_in_nI (by omega) (by omega), fun _ => ⟨vp_in_nI (by omega) (by omega), sof2 hk10⟩⟩, ?_⟩
    rintro y38 rfl m39 h39
    have F39 : fr 432 436 m m39 := by rw [h39]; exact fr_wI F30 (by omega) (by omega)
    rw [clamp_nI (by omega), of3 h hk10] at h16
    rw [clamp_nI (by omega), of3 (hw F16) hk10] at h21
    rw [clamp_nI (by omega), clamp_nI (by omega), of2 (hw F21) hk10] at h30
    rw [clamp_nI (by omega), clamp_nI (by omega), of2 (hw F30) hk10] at h39
    have a16 : ∀ b, b ≠ 434 → m16.1 b = m.1 b := fun b hb => by funext j; rw [h16, wI_ne _ _ _ _ hb]
    have a21 : ∀ b, b ≠ 434 → b ≠ 435 → m21.1 b = m.1 b := fun b hb hb2 => by funext j; rw [h21, wI_ne _ _ _ _ hb2, a16 b hb]
    have a30 : ∀ b, b ≠ 434 → b ≠ 435 → b ≠ 432 → m30.1 b = m.1 b := fun b hb hb2 hb3 => by funext j; rw [h30, wI_ne _ _ _ _ hb3, a21 b hb hb2]
    have v16 : ∀ j, j ≠ k → m16.1 434 j = m.1 434 j := fun j hj => by rw [h16, wI_nj _ _ _ _ hj]
    have v21 : ∀ j, j ≠ k → m21.1 434 j = m.1 434 j := fun j hj => by rw [h21, wI_ne _ _ _ _ (by omega), v16 j hj]
    have v21b : ∀ j, j ≠ k → m21.1 435 j = m.1 435 j := fun j hj => by rw [h21, wI_nj _ _ _ _ hj, a16 435 (by omega)]
    have v30b : ∀ j, j ≠ k → m30.1 435 j = m.1 435 j := fun j hj => by rw [h30, wI_ne _ _ _ _ (by omega), v21b j hj]
    rw [a21 432 (by omega) (by omega), v21 p (by omega), f1, f3] at h30
    rw [a30 433 (by omega) (by omega) (by omega), v30b p (by omega), f2, f4] at h39
    refine kk _ (fun j hj => ?_) F39
    by_cases hjk : j = k
    · subst hjk
      rw [er]
      unfold hung
      have w432 : m39.1 432 j = if y10 = 0 then (if nI s = 1 then (rect g p).1 + (rect g p).2.2.1 else (rect g p).1 - pf g j 4) else (rect g p).1 + pf g j 2 := by rw [h39, wI_ne _ _ _ _ (by omega), h30, wI_same]
      have w433 : m39.1 433 j = if y10 = 0 then (rect g p).2.1 + pf g j 2 else (if nI s = 2 then (rect g p).2.1 + (rect g p).2.2.2 else (rect g p).2.1 - pf g j 4) := by rw [h39, wI_same]
      have w434 : m39.1 434 j = if y10 = 0 then pf g j 4 else pf g j 3 := by rw [h39, wI_ne _ _ _ _ (by omega), h30, wI_ne _ _ _ _ (by omega), h21, wI_ne _ _ _ _ (by omega), h16, wI_same]
      have w435 : m39.1 435 j = if y10 = 0 then pf g j 3 else pf g j 4 := by rw [h39, wI_ne _ _ _ _ (by omega), h30, wI_ne _ _ _ _ (by omega), h21, wI_same]
      rw [w432, w433, w434, w435, hlev, es]
      match s, hs with
      | 0, _ => exact ⟨rfl, rfl, rfl, rfl⟩
      | 1, _ => exact ⟨rfl, rfl, rfl, rfl⟩
      | 2, _ => exact ⟨rfl, rfl, rfl, rfl⟩
      | 3, _ => exact ⟨rfl, rfl, rfl, rfl⟩
    · obtain ⟨q1, q2, q3, q4⟩ := hf j (by omega)
      have w1 : m39.1 432 j = m.1 432 j := by rw [h39, wI_ne _ _ _ _ (by omega), h30, wI_nj _ _ _ _ hjk, a21 432 (by omega) (by omega)]
      have w2 : m39.1 433 j = m.1 433 j := by rw [h39, wI_nj _ _ _ _ hjk, a30 433 (by omega) (by omega) (by omega)]
      have w3 : m39.1 434 j = m.1 434 j := by rw [h39, wI_ne _ _ _ _ (by omega), h30, wI_ne _ _ _ _ (by omega), v21 j hjk]
      have w4 : m39.1 435 j = m.1 435 j := by rw [h39, wI_ne _ _ _ _ (by omega), v30b j hjk]
      rw [w1, w2, w3, w4]
      exact ⟨q1, q2, q3, q4⟩
theorem layFlat_ok {m : Mm} {g : Vc} {K : Mm → Prop} (h : stR m g) (hp : par g) (kk : ∀ m2, flatR m2 g (pn g) → fr 432 436 m m2 → K m2) : wp_X12_layFlat m K := by
  unfold wp_X12_layFlat
  refine loop_i (W := fun n i m => wp_X12_layFlat_l2 K n (nI i) m) (I := fun i s => flatR s g i ∧ fr 432 436 m s) (pn g) ?_ ?_ FU 0 m (by omega) (FU_gt (by have := hp.1; omega)) ⟨fun k hk => by omega, fr_refl _ _ _⟩
  · intro n s hs
    show wb_X12_layFlat_l2 _ _ _ _
    unfold wb_X12_layFlat_l2
    rw [many_ok (stR_fr h hs.2 (by omega)) hp.2.1, if_pos (ile (Nat.le_refl _) (by have := hp.1; omega))]
    exact kk s hs.1 hs.2
  · intro n i s hi hs k2
    show wb_X12_layFlat_l2 _ _ _ _
    refine lay_one (stR_fr h hs.2 (by omega)) hp hi hs.1 (fun m2 q1 q2 => ?_)
    rw [nI_1]
    exact k2 _ ⟨q1, fr_trans hs.2 q2⟩
