/-! mismatch -/
theorem and3 {t : Nat} (h : t < 4) : nI t &&& (3 : Int32) = nI t := by rcases side4 h with z | z | z | z <;> subst z <;> decide
theorem cSm_T {m m2 : Mm} {g : Vc} {an : Nat → Int32} {tol : Int32} {l : List Qd} (h : cSm m g an tol l) (f : frT m m2) : cSm m2 g an tol l := by
  unfold cSm at h ⊢
  rw [f 268 (by omega) (by omega) (by omega) (by omega), f 383 (by omega) (by omega) (by omega) (by omega), f 384 (by omega) (by omega) (by omega) (by omega), f 385 (by omega) (by omega) (by omega) (by omega), f 386 (by omega) (by omega) (by omega) (by omega), f 387 (by omega) (by omega) (by omega) (by omega)]
  exact h
def ptR (m : Mm) (g : Vc) (an : Nat → Int32) (s : Qd) : Prop := ∀ i, i < 6 → m.1 391 i = PX g an s i ∧ m.1 392 i = PY g an s i
theorem takePoints_ok {m : Mm} {g : Vc} {an : Nat → Int32} {tol : Int32} {i : Nat} {s : Qd} {K : Mm → Prop} (hp : pn g ≤ 10) (hF : cFd m g an) (hS : cSm m g an tol (seamL g an tol)) (hl : (seamL g an tol).length ≤ 360) (hi : (seamL g an tol)[i]? = some s)
    (kk : ∀ m2, ptR m2 g an s → frT m m2 → K m2) : wp_X0_takePoints (nI i) m K := by
  obtain ⟨w1, w2, w3, w4, -⟩ := seam_at hi
  obtain ⟨c1, c2, c3, c4, c5, c6, c7, c8⟩ := seam_c hp hS hl hi
  unfold wp_X0_takePoints
  rw [c2, c3, c4, c5, c6, c7, and3 w3, and3 w4, poseAt_in (by omega), poseAt_in (by omega)]
  refine ⟨fun _ => c8, fun _ => c8, fun _ => c8, ?_⟩
  rintro y4 rfl
  refine ⟨fun _ => c8, ?_⟩
  rintro y6 rfl
  refine ⟨fun _ => c8, ?_⟩
  rintro y8 rfl
  refine ⟨fun _ => c8, ?_⟩
  rintro y10 rfl
  rw [clamp_nI (by omega), clamp_nI (by omega), szv2 w3, szv3 w3, szv2 w4, szv3 w4]
  refine ⟨c_spY w3 _, tp_ok (i := 0) rfl (by omega) ?_⟩
  rw [c_pX hF (by omega) w3, c_pY hF (by omega) w3]
  have f1 : ∀ x y, frT m (wI (wI m 391 0 x) 392 0 y) := fun x y b h1 h2 h3 h4 => by funext j; rw [wI_ne _ _ _ _ h2, wI_ne _ _ _ _ h1]
  have st : ∀ (m1 : Mm) k x y, frT m m1 → frT m (wI (wI m1 391 k x) 392 k y) := fun m1 k x y f b h1 h2 h3 h4 => by funext j; rw [wI_ne _ _ _ _ h2, wI_ne _ _ _ _ h1, f b h1 h2 h3 h4]
  obtain ⟨m12, h12⟩ : ∃ m2, m2 = wI (wI m 391 0 (qX g an s.1 s.2.1 (sL g an s))) 392 0 (qY g an s.1 s.2.1 (sL g an s)) := ⟨_, rfl⟩
  have f12 : frT m m12 := by rw [h12]; exact f1 _ _
  rw [← h12]
  refine ⟨c_spY w3 _, tp_ok (i := 1) rfl (by omega) ?_⟩
  rw [c_pX (cFd_T hp hF f12) (by omega) w3, c_pY (cFd_T hp hF f12) (by omega) w3]
  obtain ⟨m14, h14⟩ : ∃ m2, m2 = wI (wI m12 391 1 (qX g an s.1 s.2.1 (sH g an s))) 392 1 (qY g an s.1 s.2.1 (sH g an s)) := ⟨_, rfl⟩
  have f14 : frT m m14 := by rw [h14]; exact st _ _ _ _ f12
  rw [← h14]
  refine ⟨vp_in_nI (by omega) (by omega), tp_ok (i := 2) rfl (by omega) ?_⟩
  have x14 : m14.1 391 0 = qX g an s.1 s.2.1 (sL g an s) := by rw [h14, wI_ne _ _ _ _ (by omega), wI_nj _ _ _ _ (by omega), h12, wI_ne _ _ _ _ (by omega), wI_same]
  have y14 : m14.1 392 0 = qY g an s.1 s.2.1 (sL g an s) := by rw [h14, wI_nj _ _ _ _ (by omega), wI_ne _ _ _ _ (by omega), h12, wI_same]
  rw [x14, y14]
  obtain ⟨m16, h16⟩ : ∃ m2, m2 = wI (wI m14 391 2 (qX g an s.1 s.2.1 (sL g an s) + oX s.2.1)) 392 2 (qY g an s.1 s.2.1 (sL g an s) + oY s.2.1) := ⟨_, rfl⟩
  have f16 : frT m m16 := by rw [h16]; exact st _ _ _ _ f14
  rw [← h16]
  refine ⟨c_spY w4 _, tp_ok (i := 3) rfl (by omega) ?_⟩
  rw [c_pX (cFd_T hp hF f16) w2 w4, c_pY (cFd_T hp hF f16) w2 w4]
  obtain ⟨m18, h18⟩ : ∃ m2, m2 = wI (wI m16 391 3 (qX g an s.2.2.1 s.2.2.2 (sL g an s))) 392 3 (qY g an s.2.2.1 s.2.2.2 (sL g an s)) := ⟨_, rfl⟩
  have f18 : frT m m18 := by rw [h18]; exact st _ _ _ _ f16
  rw [← h18]
  refine ⟨c_spY w4 _, tp_ok (i := 4) rfl (by omega) ?_⟩
  rw [c_pX (cFd_T hp hF f18) w2 w4, c_pY (cFd_T hp hF f18) w2 w4]
  obtain ⟨m20, h20⟩ : ∃ m2, m2 = wI (wI m18 391 4 (qX g an s.2.2.1 s.2.2.2 (sH g an s))) 392 4 (qY g an s.2.2.1 s.2.2.2 (sH g an s)) := ⟨_, rfl⟩
  have f20 : frT m m20 := by rw [h20]; exact st _ _ _ _ f18
  rw [← h20]
  refine ⟨vp_in_nI (by omega) (by omega), tp_ok (i := 5) rfl (by omega) ?_⟩
  have x20 : m20.1 391 3 = qX g an s.2.2.1 s.2.2.2 (sL g an s) := by rw [h20, wI_ne _ _ _ _ (by omega), wI_nj _ _ _ _ (by omega), h18, wI_ne _ _ _ _ (by omega), wI_same]
  have y20 : m20.1 392 3 = qY g an s.2.2.1 s.2.2.2 (sL g an s) := by rw [h20, wI_nj _ _ _ _ (by omega), wI_ne _ _ _ _ (by omega), h18, wI_same]
  rw [x20, y20]
  refine kk _ (fun i hi => ?_) (st _ _ _ _ f20)
  rw [wI_ne _ _ _ _ (by omega), wI_get, if_pos rfl, wI_get, if_pos rfl, wI_ne _ _ _ _ (by omega)]
  rw [h20, wI_ne _ _ _ _ (by omega), wI_get, if_pos rfl, wI_get, if_pos rfl, wI_ne _ _ _ _ (by omega)]
  rw [h18, wI_ne _ _ _ _ (by omega), wI_get, if_pos rfl, wI_get, if_pos rfl, wI_ne _ _ _ _ (by omega)]
  rw [h16, wI_ne _ _ _ _ (by omega), wI_get, if_pos rfl, wI_get, if_pos rfl, wI_ne _ _ _ _ (by omega)]
  rw [h14, wI_ne _ _ _ _ (by omega), wI_get, if_pos rfl, wI_get, if_pos rfl, wI_ne _ _ _ _ (by omega)]
  rw [h12, wI_ne _ _ _ _ (by omega), wI_get, if_pos rfl, wI_get, if_pos rfl, wI_ne _ _ _ _ (by omega)]
  have hj : i = 0 ∨ i = 1 ∨ i = 2 ∨ i = 3 ∨ i = 4 ∨ i = 5 := by omega
  rcases hj with z | z | z | z | z | z <;> subst z <;> simp [PX, PY]
def frU (m m2 : Mm) : Prop := ∀ b, b ≠ 393 → b ≠ 394 → m2.1 b = m.1 b
theorem takeCo_ok {m : Mm} {g : Vc} {an : Nat → Int32} {d k a : Nat} {s : Qd} {K : Mm → Prop} (hr : rngD g) (hd2 : d < 250) (hd : desR m.1 d g) (hk : k < pn g) (ha : a ≤ 3) (hP : ptR m g an s)
    (kk : ∀ m2, (∀ i, a ≤ i → i < a + 3 → m2.1 393 i = aU g k (PX g an s i) (PY g an s i) ∧ m2.1 394 i = aV g k (PX g an s i) (PY g an s i)) → (∀ i, i < a ∨ a + 3 ≤ i → m2.1 393 i = m.1 393 i ∧ m2.1 394 i = m.1 394 i) → frU m m2 → K m2) : wp_X0_takeCoordinates d (d + 5 + k) (nI a) m K := by
  have hp1 := hr.par.1
  unfold wp_X0_takeCoordinates
  have e0 : mx32 (0 : Int32) (nI a) = nI a := by
    unfold mx32
    by_cases z : (0 : Int32) < nI a
    · rw [if_pos z]
    · rw [if_neg z]
      have : ¬ 0 < a := fun w => z (ilt (a := 0) w (by omega))
      rw [show a = 0 by omega]; rfl
  rw [e0]
  rintro y1 rfl
  refine loop_a (wp := fun n i s => wp_X0_takeCoordinates_l7 K d (d + 5 + k) (nI a) n i s) (I := fun i s2 => frU m s2 ∧ (∀ j, a ≤ j → j < i → s2.1 393 j = aU g k (PX g an s j) (PY g an s j) ∧ s2.1 394 j = aV g k (PX g an s j) (PY g an s j)) ∧ (∀ j, j < a ∨ i ≤ j → s2.1 393 j = m.1 393 j ∧ s2.1 394 j = m.1 394 j)) (a := a) (N := a + 3) (by omega) (by omega) ?_ ?_ ⟨fun _ _ _ => rfl, fun j h1 h2 => by omega, fun _ _ => ⟨rfl, rfl⟩⟩
  · rintro n i s2 h1 h2 ⟨i1, i2, i3⟩
    have e : i = a + 3 := by omega
    subst e
    show wb_X0_takeCoordinates_l7 _ _ _ _ _ _ _
    unfold wb_X0_takeCoordinates_l7
    rw [show nI a + (3 : Int32) = nI (a + 3) from nI_add a 3, if_pos (ile (Nat.le_refl _) (by omega))]
    exact kk s2 i2 i3 i1
  · rintro n i s2 h1 h2 ⟨i1, i2, i3⟩ k2
    show wb_X0_takeCoordinates_l7 _ _ _ _ _ _ _
    unfold wb_X0_takeCoordinates_l7
    rw [show nI a + (3 : Int32) = nI (a + 3) from nI_add a 3, if_neg (inle h2 (by omega)), if_neg (show ¬ (6 : Int32) ≤ nI i from inle (a := 6) (by omega) (by omega)), clamp_nI (by omega)]
    refine ⟨vp_in_nI (by omega) (by omega), ?_⟩
    obtain ⟨x1, x2⟩ := hP i (by omega)
    rw [i1 391 (by omega) (by omega), x1, i1 392 (by omega) (by omega), x2]
    intro m5 h5 m6 h6
    have d2 : desR s2.1 d g := desR_congr hp1 hd (fun b b1 b2 => i1 b (by omega) (by omega))
    have d5 : desR m5.1 d g := desR_congr hp1 d2 (fun b b1 b2 => by funext j; rw [h5, wI_ne _ _ _ _ (by omega)])
    rw [c_U hr d2 hk] at h5
    rw [c_V hr d5 hk] at h6
    have e391 : m5.1 391 i = PX g an s i := by rw [h5, wI_ne _ _ _ _ (by omega), i1 391 (by omega) (by omega), x1]
    have e392 : m5.1 392 i = PY g an s i := by rw [h5, wI_ne _ _ _ _ (by omega), i1 392 (by omega) (by omega), x2]
    rw [e391, e392] at h6
    refine k2 m6 ⟨fun b b1 b2 => ?_, fun j j1 j2 => ?_, fun j j1 => ?_⟩
    · funext j
      rw [h6, wI_ne _ _ _ _ b2, h5, wI_ne _ _ _ _ b1, i1 b b1 b2]
    · rw [h6, wI_ne _ _ _ _ (by omega), wI_get, if_pos rfl, h5, wI_get, if_pos rfl, wI_ne _ _ _ _ (by omega)]
      by_cases q : j = i
      · rw [if_pos q, if_pos q, q]; exact ⟨rfl, rfl⟩
      · rw [if_neg q, if_neg q]; exact i2 j j1 (by omega)
    · rw [h6, wI_ne _ _ _ _ (by omega), wI_get, if_pos rfl, h5, wI_get, if_pos rfl, wI_ne _ _ _ _ (by omega), if_neg (by omega), if_neg (by omega)]
      exact i3 j (by omega)
def cU (g : Vc) (an : Nat → Int32) (s : Qd) (i : Nat) : Int32 := aU g (if i < 3 then s.1 else s.2.2.1) (PX g an s i) (PY g an s i)
def cV (g : Vc) (an : Nat → Int32) (s : Qd) (i : Nat) : Int32 := aV g (if i < 3 then s.1 else s.2.2.1) (PX g an s i) (PY g an s i)
def misG (g : Vc) (an : Nat → Int32) (s : Qd) : Nat → Int32 → Int32 := fun i y => mx32 (mx32 y (ab32 (cU g an s i - cU g an s (i + 3)))) (ab32 (cV g an s i - cV g an s (i + 3)))
def xMis (g : Vc) (an : Nat → Int32) (s : Qd) : Int32 := if aReach g s.1 (nI s.2.1) = -9 then -9 else if aReach g s.2.2.1 (nI s.2.2.2) = -9 then -9 else if pf g s.1 7 = pf g s.2.2.1 7 then
  (if cU g an s 2 - cU g an s 0 = cU g an s 5 - cU g an s 3 ∧ cV g an s 2 - cV g an s 0 = cV g an s 5 - cV g an s 3 then ifo (misG g an s) 0 0 2 else mx32 100 (ifo (misG g an s) 0 0 2)) else -9
theorem reach_img {g : Vc} {k : Nat} {x : Int32} (h : ¬ aReach g k x = -9) : ¬ pf g k 7 = -9 := by
  intro z
  apply h
  unfold aReach aShow
  rw [if_pos z, if_pos rfl]
theorem cmis_ok {m : Mm} {d : Nat} {g : Vc} {an : Nat → Int32} {tol : Int32} {i : Nat} {s : Qd} {K : Int32 → Mm → Prop} (hr : rngD g) (hd2 : d < 250) (hd : desR m.1 d g) (hF : cFd m g an) (hS : cSm m g an tol (seamL g an tol)) (hl : (seamL g an tol).length ≤ 360) (hi : (seamL g an tol)[i]? = some s)
    (kk : ∀ m2, frT m m2 → K (xMis g an s) m2) : wp_X0_mismatch d (nI i) m K := by
  have hp1 := hr.par.1
  obtain ⟨w1, w2, w3, w4, -⟩ := seam_at hi
  have wp : s.1 < pn g := by omega
  obtain ⟨c1, c2, c3, c4, c5, c6, c7, c8⟩ := seam_c hp1 hS hl hi
  unfold wp_X0_mismatch
  rw [c2, c3, c4, c5, panelAt_in (by omega), panelAt_in (by omega), d_pf hd wp (by omega) (by omega), d_pf hd w2 (by omega) (by omega), c_reach hr hd wp, c_reach hr hd w2]
  refine ⟨fun _ => c8, fun _ => c8, ?_⟩
  unfold xMis at kk
  have kn : (aReach g s.1 (nI s.2.1) = -9 ∨ aReach g s.2.2.1 (nI s.2.2.2) = -9 ∨ ¬ pf g s.1 7 = pf g s.2.2.1 7) → K (-9) m := fun z => by
    have := kk m (fun _ _ _ _ _ => rfl)
    by_cases z1 : aReach g s.1 (nI s.2.1) = -9
    · rw [if_pos z1] at this; exact this
    · rw [if_neg z1] at this
      by_cases z2 : aReach g s.2.2.1 (nI s.2.2.2) = -9
      · rw [if_pos z2] at this; exact this
      · rw [if_neg z2, if_neg (by rcases z with z | z | z; exact absurd z z1; exact absurd z z2; exact z)] at this; exact this
  by_cases q0 : pf g s.1 7 = -9
  · rw [if_pos q0]
    refine kn (Or.inl ?_)
    unfold aReach aShow
    rw [if_pos q0, if_pos rfl]
  rw [if_neg q0]
  by_cases q1 : pf g s.1 7 = pf g s.2.2.1 7
  · rw [if_pos q1]
    refine ⟨fun _ => c8, ?_⟩
    by_cases q2 : aReach g s.1 (nI s.2.1) = -9
    · rw [if_pos q2]; exact kn (Or.inl q2)
    rw [if_neg q2]
    refine ⟨fun _ => c8, ?_⟩
    by_cases q3 : aReach g s.2.2.1 (nI s.2.2.2) = -9
    · rw [if_pos q3]; exact kn (Or.inr (Or.inl q3))
    rw [if_neg q3]
    rw [if_neg q2, if_neg q3, if_pos q1] at kk
    refine takePoints_ok hp1 hF hS hl hi (fun m9 p9 f9 => ?_)
    have d9 : desR m9.1 d g := desR_congr hp1 hd (fun b b1 b2 => f9 b (by omega) (by omega) (by omega) (by omega))
    refine takeCo_ok (a := 0) hr hd2 d9 wp (by omega) p9 (fun m10 u10 v10 f10 => ?_)
    have d10 : desR m10.1 d g := desR_congr hp1 d9 (fun b b1 b2 => f10 b (by omega) (by omega))
    have p10 : ptR m10 g an s := fun i hi => by rw [f10 391 (by omega) (by omega), f10 392 (by omega) (by omega)]; exact p9 i hi
    refine takeCo_ok (a := 3) hr hd2 d10 w2 (by omega) p10 (fun m11 u11 v11 f11 => ?_)
    have f : frT m m11 := fun b b1 b2 b3 b4 => by rw [f11 b b3 b4, f10 b b3 b4, f9 b b1 b2 b3 b4]
    have eu : ∀ i, i < 6 → m11.1 393 i = cU g an s i ∧ m11.1 394 i = cV g an s i := fun i hi => by
      unfold cU cV
      by_cases z : i < 3
      · rw [if_pos z, (v11 i (by omega)).1, (v11 i (by omega)).2]; exact u10 i (by omega) (by omega)
      · rw [if_neg z]; exact u11 i (by omega) (by omega)
    refine acc_loop (wp := fun n i x => wp_X0_mismatch_l117 _ K n x i m11) (a := 0) (N := 2) (misG g an s) (by omega) (by omega) (fun n i h1 h2 => ?_) (fun n i x h1 h2 k1 => ?_)
    · show wb_X0_mismatch_l117 _ _ _ _ _ _
      unfold wb_X0_mismatch_l117
      rw [if_pos (show (2 : Int32) ≤ nI i from ile (a := 2) h1 (by omega))]
      show ∀ y21, y21 = _ → _
      rw [(eu 0 (by omega)).1, (eu 2 (by omega)).1, (eu 3 (by omega)).1, (eu 5 (by omega)).1, (eu 0 (by omega)).2, (eu 2 (by omega)).2, (eu 3 (by omega)).2, (eu 5 (by omega)).2]
      rintro y21 h21 y23 h23
      have e23 : y23 = (if cU g an s 2 - cU g an s 0 = cU g an s 5 - cU g an s 3 ∧ cV g an s 2 - cV g an s 0 = cV g an s 5 - cV g an s 3 then ifo (misG g an s) 0 0 2 else mx32 100 (ifo (misG g an s) 0 0 2)) := by
        rw [h23, h21]
        by_cases z1 : cU g an s 2 - cU g an s 0 = cU g an s 5 - cU g an s 3
        · rw [if_pos z1]
          by_cases z2 : cV g an s 2 - cV g an s 0 = cV g an s 5 - cV g an s 3
          · rw [if_pos z2, if_neg (show ¬ (1 : Int32) = 0 by decide), if_pos ⟨z1, z2⟩]
          · rw [if_neg z2, if_pos (show (0 : Int32) = 0 from rfl), if_neg (fun z => z2 z.2)]
        · rw [if_neg z1, if_pos (show (0 : Int32) = 0 from rfl), if_neg (fun z => z1 z.1)]
      rw [e23]
      exact kk m11 f
    · show wb_X0_mismatch_l117 _ _ _ _ _ _
      unfold wb_X0_mismatch_l117
      rw [if_neg (show ¬ (2 : Int32) ≤ nI i from inle (a := 2) h2 (by omega)), show nI i + (3 : Int32) = nI (i + 3) from nI_add i 3, clamp_nI (by omega), clamp_nI (by omega), (eu i (by omega)).1, (eu (i + 3) (by omega)).1, (eu i (by omega)).2, (eu (i + 3) (by omega)).2]
      refine ⟨vp_in_nI (by omega) (by omega), vp_in_nI (by omega) (by omega), ?_⟩
      rintro y15 rfl y16 rfl
      exact k1
  · rw [if_neg q1]; exact kn (Or.inr (Or.inr q1))
theorem orig_diff (t : Nat) (ht : t < 8) (w x y dx dy px py : Int32) : v_X0_originalU (nI t) w (x + dx - px) (y + dy - py) - v_X0_originalU (nI t) w (x - px) (y - py) = v_X0_originalU (nI t) w (dx - px) (dy - py) - v_X0_originalU (nI t) w (0 - px) (0 - py) ∧
    v_X0_originalV (nI t) w (x + dx - px) (y + dy - py) - v_X0_originalV (nI t) w (x - px) (y - py) = v_X0_originalV (nI t) w (dx - px) (dy - py) - v_X0_originalV (nI t) w (0 - px) (0 - py) := by
  match t, ht with
  | 0, _ => exact ⟨show (x + dx - px) - (x - px) = (dx - px) - (0 - px) by grind, show (y + dy - py) - (y - py) = (dy - py) - (0 - py) by grind⟩
  | 1, _ => exact ⟨show (y + dy - py) - (y - py) = (dy - py) - (0 - py) by grind, show (w - (x + dx - px)) - (w - (x - px)) = (w - (dx - px)) - (w - (0 - px)) by grind⟩
  | 2, _ => exact ⟨show (w - (x + dx - px)) - (w - (x - px)) = (w - (dx - px)) - (w - (0 - px)) by grind, show (w - (y + dy - py)) - (w - (y - py)) = (w - (dy - py)) - (w - (0 - py)) by grind⟩
  | 3, _ => exact ⟨show (w - (y + dy - py)) - (w - (y - py)) = (w - (dy - py)) - (w - (0 - py)) by grind, show (x + dx - px) - (x - px) = (dx - px) - (0 - px) by grind⟩
  | 4, _ => exact ⟨show (w - (x + dx - px)) - (w - (x - px)) = (w - (dx - px)) - (w - (0 - px)) by grind, show (y + dy - py) - (y - py) = (dy - py) - (0 - py) by grind⟩
  | 5, _ => exact ⟨show (w - (y + dy - py)) - (w - (y - py)) = (w - (dy - py)) - (w - (0 - py)) by grind, show (w - (x + dx - px)) - (w - (x - px)) = (w - (dx - px)) - (w - (0 - px)) by grind⟩
  | 6, _ => exact ⟨show (w - (w - (x + dx - px))) - (w - (w - (x - px))) = (w - (w - (dx - px))) - (w - (w - (0 - px))) by grind, show (w - (y + dy - py)) - (w - (y - py)) = (w - (dy - py)) - (w - (0 - py)) by grind⟩
  | 7, _ => exact ⟨show (w - (w - (y + dy - py))) - (w - (w - (y - py))) = (w - (w - (dy - py))) - (w - (w - (0 - py))) by grind, show (x + dx - px) - (x - px) = (dx - px) - (0 - px) by grind⟩
theorem aU_diff {g : Vc} (hr : rngD g) {k : Nat} (hk : k < pn g) (x y dx dy : Int32) : aU g k (x + dx) (y + dy) - aU g k x y = aU g k dx dy - aU g k 0 0 ∧ aV g k (x + dx) (y + dy) - aV g k x y = aV g k dx dy - aV g k 0 0 := by
  obtain ⟨t, ht, et⟩ := turn_i hr hk
  unfold aU aV
  rw [et]
  exact ⟨(orig_diff t ht _ x y dx dy _ _).1, (orig_diff t ht _ x y dx dy _ _).2⟩
theorem r_step {m : Mm} {g : Vc} (hr : rngD g) (hs : stR m g) {k s : Nat} (hk : k < pn g) (hi : ¬ pf g k 7 = -9) (x y : Int32) :
    (v_X12_step (nI k) (nI s) 1 0 m = aU g k (x + oX s) (y + oY s) - aU g k x y ∧ v_X12_step (nI k) (nI s) 1 1 m = aV g k (x + oX s) (y + oY s) - aV g k x y) ∧ (v_X12_step (nI k) (nI s) (-1) 0 m = aU g k (x - oX s) (y - oY s) - aU g k x y ∧ v_X12_step (nI k) (nI s) (-1) 1 m = aV g k (x - oX s) (y - oY s) - aV g k x y) ∧ ∀ a b, s_X12_step (nI k) (nI s) a b m := by
  have n1 : ∀ z : Int32, -1 * z = -z := fun z => by grind
  have n2 : ∀ a z : Int32, a + -z = a - z := fun a z => by grind
  unfold v_X12_step s_X12_step
  rw [Int32.one_mul, Int32.one_mul, n1, n1]
  obtain ⟨a1, a2⟩ := aU_diff hr hk x y (oX s) (oY s)
  obtain ⟨b1, b2⟩ := aU_diff hr hk x y (-oX s) (-oY s)
  rw [n2, n2] at b1 b2
  rw [(r_on hr hs hk hi).1, (r_on hr hs hk hi).2.1, (r_on hr hs hk hi).1, (r_on hr hs hk hi).2.1, (r_on hr hs hk hi).1, (r_on hr hs hk hi).2.1]
  exact ⟨⟨a1.symm, a2.symm⟩, ⟨b1.symm, b2.symm⟩, fun a b => ⟨(r_on hr hs hk hi).2.2 b, (r_on hr hs hk hi).2.2 b⟩⟩
theorem r_end {m : Mm} {g : Vc} {an : Nat → Int32} (hr : rngD g) (hs : stR m g) (hF : fR m g an (pn g)) (hf : flatR m g (pn g)) {k s : Nat} (hk : k < pn g) (hs4 : s < 4) (hi : ¬ pf g k 7 = -9) {c : Int32} (h1 : (zL g an k s).toInt ≤ c.toInt) (h2 : c.toInt ≤ (zH g an k s).toInt) :
    v_X12_atEnd (nI k) (nI s) (nI (zA g an k s)) c 0 m = aU g k (qX g an k s c) (qY g an k s c) ∧ v_X12_atEnd (nI k) (nI s) (nI (zA g an k s)) c 1 m = aV g k (qX g an k s c) (qY g an k s c) ∧ ∀ z, s_X12_atEnd (nI k) (nI s) (nI (zA g an k s)) c z m := by
  obtain ⟨a1, a2, a3⟩ := r_along hr hF hf hk hs4 h1 h2
  unfold v_X12_atEnd s_X12_atEnd
  rw [a1, a2, (r_on hr hs hk hi).1, (r_on hr hs hk hi).2.1]
  exact ⟨rfl, rfl, fun z => ⟨a3 _, a3 _, (r_on hr hs hk hi).2.2 z⟩⟩
theorem ifo_5 {σ : Type} (f : Nat → σ → σ) (s : σ) : ifo (fun j => f (j - 5)) s 5 (7 - 5) = ifo f s 0 2 := rfl
theorem rmis_ok {m : Mm} {g : Vc} {an : Nat → Int32} {tol : Int32} {i : Nat} {s : Qd} {K : Int32 → Mm → Prop} (hr : rngD g) (hs : stR m g) (hf : flatR m g (pn g)) (hF : fR m g an (pn g)) (hS : rSm m g an (seamL g an tol)) (hl : (seamL g an tol).length ≤ 720) (hi : (seamL g an tol)[i]? = some s)
    (kk : K (xMis g an s) m) : wp_X12_mismatch (nI i) m K := by
  have hp1 := hr.par.1
  obtain ⟨h1, -⟩ := List.getElem?_eq_some_iff.mp hi
  obtain ⟨w1, w2, w3, w4, w5, w6, w7⟩ := seam_at hi
  obtain ⟨⟨i1, i2⟩, ⟨i3, i4⟩, ⟨i5, i6⟩, ⟨i7, i8⟩⟩ := seam_in (seam_at hi)
  have wp : s.1 < pn g := by omega
  obtain ⟨r0, r1, r2, r3, r4, r5, r6, r7, r8⟩ := hS.2 i s hi
  have ei2 : ∀ a : Nat, a < 9 → nI (9 * i) + nI a = nI (9 * i + a) := fun a ha => nI_add _ _
  have ec2 : ∀ a : Nat, a < 9 → (nI (9 * i + a)).toNatClampNeg = 9 * i + a := fun a ha => clamp_nI (by omega)
  have ev : ∀ a : Nat, a < 9 → vp_in (nI (9 * i + a)) 6480 := fun a ha => vp_in_nI (by omega) (by omega)
  obtain ⟨p1, p2⟩ := r_reach (x := nI s.2.1) hr hs hf wp
  obtain ⟨p3, p4⟩ := r_reach (x := nI s.2.2.2) hr hs hf w2
  unfold wp_X12_mismatch
  rw [show (9 : Int32) * nI i = nI (9 * i) from nI_mul 9 i]
  rintro y1 rfl
  rw [clamp_nI (show 9 * i < 2 ^ 31 by omega), r0]
  refine ⟨ev 0 (by omega), ?_⟩
  rintro y3 rfl
  rw [show nI (9 * i) + (1 : Int32) = nI (9 * i + 1) from nI_add _ 1, ec2 1 (by omega), r1]
  refine ⟨ev 1 (by omega), ?_⟩
  rintro y5 rfl
  rw [show nI (9 * i) + (2 : Int32) = nI (9 * i + 2) from nI_add _ 2, ec2 2 (by omega), r2]
  refine ⟨ev 2 (by omega), ?_⟩
  rintro y7 rfl
  rw [show nI (9 * i) + (3 : Int32) = nI (9 * i + 3) from nI_add _ 3, ec2 3 (by omega), r3]
  refine ⟨ev 3 (by omega), ?_⟩
  rintro y9 rfl
  rw [show nI (9 * i) + (4 : Int32) = nI (9 * i + 4) from nI_add _ 4, ec2 4 (by omega), r4]
  refine ⟨ev 4 (by omega), ?_⟩
  rintro y11 rfl
  rw [p1, p3, of7 hs (by omega), of7 hs (by omega)]
  refine ⟨p2, ?_⟩
  unfold xMis at kk
  by_cases q2 : aReach g s.1 (nI s.2.1) = -9
  · rw [if_pos q2]; rw [if_pos q2] at kk; exact kk
  rw [if_neg q2]
  rw [if_neg q2] at kk
  refine ⟨p4, ?_⟩
  by_cases q3 : aReach g s.2.2.1 (nI s.2.2.2) = -9
  · rw [if_pos q3]; rw [if_pos q3] at kk; exact kk
  rw [if_neg q3]
  rw [if_neg q3] at kk
  refine ⟨sof7 (by omega), sof7 (by omega), ?_⟩
  by_cases q1 : pf g s.1 7 = pf g s.2.2.1 7
  · rw [if_pos q1]
    rw [if_pos q1] at kk
    have g1 := reach_img q2
    have g2 := reach_img q3
    have E1 := r_end hr hs hF hf wp w3 g1 i1 i2
    have E2 := r_end hr hs hF hf wp w3 g1 i3 i4
    have E3 := r_end hr hs hF hf w2 w4 g2 i5 i6
    have E4 := r_end hr hs hF hf w2 w4 g2 i7 i8
    rw [← w5] at E3 E4
    refine acc_loop (wp := fun n j x => wp_X12_mismatch_l104 _ K (nI (9 * i)) (nI s.1) (nI s.2.1) (nI s.2.2.1) (nI s.2.2.2) (nI (zA g an s.1 s.2.1)) n x j m) (a := 5) (N := 7) (fun j => misG g an s (j - 5)) (by omega) (by omega) (fun n j h1 h2 => ?_) (fun n j x h1 h2 k1 => ?_)
    · show wb_X12_mismatch_l104 _ _ _ _ _ _ _ _ _ _ _ _
      unfold wb_X12_mismatch_l104
      rw [if_pos (show (7 : Int32) ≤ nI j from ile (a := 7) h1 (by omega))]
      have eifo : ifo (fun j => misG g an s (j - 5)) 0 5 (7 - 5) = ifo (misG g an s) 0 0 2 := ifo_5 _ _
      rw [eifo]
      obtain ⟨⟨s1, s2⟩, -, s5⟩ := r_step (s := s.2.1) hr hs wp g1 (qX g an s.1 s.2.1 (sL g an s)) (qY g an s.1 s.2.1 (sL g an s))
      obtain ⟨-, ⟨s3, s4⟩, s6⟩ := r_step (s := s.2.2.2) hr hs w2 g2 (qX g an s.2.2.1 s.2.2.2 (sL g an s)) (qY g an s.2.2.1 s.2.2.2 (sL g an s))
      show _ ∧ _
      rw [s1, s2, s3, s4]
      refine ⟨s5 _ _, s6 _ _, fun _ => ⟨s5 _ _, s6 _ _⟩, ?_⟩
      rintro y36 h36 y38 h38
      have e38 : y38 = (if cU g an s 2 - cU g an s 0 = cU g an s 5 - cU g an s 3 ∧ cV g an s 2 - cV g an s 0 = cV g an s 5 - cV g an s 3 then ifo (misG g an s) 0 0 2 else mx32 100 (ifo (misG g an s) 0 0 2)) := by
        have u1 : cU g an s 2 - cU g an s 0 = aU g s.1 (qX g an s.1 s.2.1 (sL g an s) + oX s.2.1) (qY g an s.1 s.2.1 (sL g an s) + oY s.2.1) - aU g s.1 (qX g an s.1 s.2.1 (sL g an s)) (qY g an s.1 s.2.1 (sL g an s)) := rfl
        have u2 : cV g an s 2 - cV g an s 0 = aV g s.1 (qX g an s.1 s.2.1 (sL g an s) + oX s.2.1) (qY g an s.1 s.2.1 (sL g an s) + oY s.2.1) - aV g s.1 (qX g an s.1 s.2.1 (sL g an s)) (qY g an s.1 s.2.1 (sL g an s)) := rfl
        have u3 : cU g an s 5 - cU g an s 3 = aU g s.2.2.1 (qX g an s.2.2.1 s.2.2.2 (sL g an s) - oX s.2.2.2) (qY g an s.2.2.1 s.2.2.2 (sL g an s) - oY s.2.2.2) - aU g s.2.2.1 (qX g an s.2.2.1 s.2.2.2 (sL g an s)) (qY g an s.2.2.1 s.2.2.2 (sL g an s)) := rfl
        have u4 : cV g an s 5 - cV g an s 3 = aV g s.2.2.1 (qX g an s.2.2.1 s.2.2.2 (sL g an s) - oX s.2.2.2) (qY g an s.2.2.1 s.2.2.2 (sL g an s) - oY s.2.2.2) - aV g s.2.2.1 (qX g an s.2.2.1 s.2.2.2 (sL g an s)) (qY g an s.2.2.1 s.2.2.2 (sL g an s)) := rfl
        rw [h38, h36, ← u1, ← u2, ← u3, ← u4, ← mx_most]
        by_cases z1 : cU g an s 2 - cU g an s 0 = cU g an s 5 - cU g an s 3
        · rw [if_pos z1]
          by_cases z2 : cV g an s 2 - cV g an s 0 = cV g an s 5 - cV g an s 3
          · rw [if_pos z2, if_neg (show ¬ (1 : Int32) = 0 by decide), if_pos ⟨z1, z2⟩]
          · rw [if_neg z2, if_pos (show (0 : Int32) = 0 from rfl), if_neg (fun z => z2 z.2)]
        · rw [if_neg z1, if_pos (show (0 : Int32) = 0 from rfl), if_neg (fun z => z1 z.1)]
      rw [e38]
      exact kk
    · show wb_X12_mismatch_l104 _ _ _ _ _ _ _ _ _ _ _ _
      unfold wb_X12_mismatch_l104
      rw [if_neg (show ¬ (7 : Int32) ≤ nI j from inle (a := 7) h2 (by omega)), nI_add, clamp_nI (by omega)]
      have hj : j = 5 ∨ j = 6 := by omega
      rcases hj with z | z <;> subst z
      · rw [r5, E1.1, E1.2.1, E3.1, E3.2.1, ← mx_most, ← ab_amount]
        refine ⟨ev 5 (by omega), E1.2.2 _, E3.2.2 _, ?_⟩
        rintro y23 rfl
        rw [← mx_most, ← ab_amount]
        refine ⟨E1.2.2 _, E3.2.2 _, ?_⟩
        rintro y26 rfl
        exact k1
      · rw [r6, E2.1, E2.2.1, E4.1, E4.2.1, ← mx_most, ← ab_amount]
        refine ⟨ev 6 (by omega), E2.2.2 _, E4.2.2 _, ?_⟩
        rintro y23 rfl
        rw [← mx_most, ← ab_amount]
        refine ⟨E2.2.2 _, E4.2.2 _, ?_⟩
        rintro y26 rfl
        exact k1
  · rw [if_neg q1]; rw [if_neg q1] at kk; exact kk
