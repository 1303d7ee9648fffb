/-! load: the reference's item -/
theorem num_F {S : AS} {R : PRs} {m0 m : Mm} {p k : Nat} {k89 : Int32 → Mm → Prop} {y19 : Int32} (hI : Inv S) (h : LoF m0 m S R) (h2 : R.2.1 = p) (hp : p < (sx S).length) (hk : k < 7) (ey : y19 = nI (eN (tX S) p)) (k0 : ∀ m2, LoF m0 m2 S R → k89 (nI k + 1) m2) :
    wp_X12_numberAt (m.1 426 14) y19 m (fun y25 m24 => vp_in (nI k) 7 ∧ (∀ m27 : Mm, m27 = wI m24 437 ((nI k).toNatClampNeg) y25 → (∀ y29 : Int32, y29 = (if (m27.1 426 13) = (0 : Int32) then y19 else (m27.1 426 14)) → (∀ m30 : Mm, m30 = wI m27 426 14 y29 → (k89 (nI k + (1 : Int32)) m30))))) := by
  have e14 : m.1 426 14 = nI p := by
    obtain ⟨g, h1, h3, h4, h5, h6⟩ := h
    rw [h4, h2]
  have h12 : m.1 426 12 = nI (sx S).length := by
    obtain ⟨g, h1, h3, h4, h5, h6⟩ := h
    exact h1.2.2.2.1.1
  have h436 : ∀ i x, (sx S)[i]? = some x → m.1 436 i = x := by
    obtain ⟨g, h1, h3, h4, h5, h6⟩ := h
    exact h1.2.2.2.1.2
  rw [e14, ey]
  refine numberAt_ok hI h12 h436 hp (fun y _ => ⟨vp_in_nI (by omega) (by omega), ?_⟩)
  rintro m27 rfl y29 hy m30 rfl
  have h27 := LF_437 ((nI k).toNatClampNeg) y h
  rw [if_neg (LF_13 h27)] at hy
  rw [hy]
  exact k0 _ (LF_14 h27)
theorem j149_ok {S : AS} {R : PRs} {m0 m : Mm} {g : Vc} {p : Nat} {c x1 : Int32} {k : Nat} {nu : Nat → Int32} {it : Nat} {rec : Int32 → Mm → Prop} {K : Mm → Prop} (hI : Inv S) (h : LoS m0 m S g p) (hP : PS (tX S) (sx S).length R p c k nu g it) (hp : p < (sx S).length) (hN : isN (tX S p)) (hk : k ≤ nof c) (hc : ¬ c = 0) (hnu : ∀ j, j < k → m.1 437 j = nu j)
    (k0 : ∀ m2, LoF m0 m2 S R → rec (nI k + 1) m2)
    (k1 : ∀ m2 nu2, k < nof c → LoS m0 m2 S g (nE (tX S) p) → PS (tX S) (sx S).length R (nE (tX S) p) c (k + 1) nu2 g it → (∀ j, j < k + 1 → m2.1 437 j = nu2 j) → p < nE (tX S) p → rec (nI k + 1) m2) : wp_X12_readItem_j149 rec K x1 (nI (nof c)) (nI k) m := by
  have hL := (tX_ok hI).1
  have h7 := nof_le c
  obtain ⟨a1, a2, a3, a4, a5, a6⟩ := nE_ok (tX_ok hI).1 (tX_ok hI).2.1 hp
  unfold wp_X12_readItem_j149
  have e14 : m.1 426 14 = nI p := h.2.2.1
  rw [e14]
  refine numberEnd_ok hI h hp ?_
  rintro y22 hy
  rw [e14] at hy
  by_cases hn : nOK (tX S) p
  · have hn1 := hn.1
    have e1 : eN (tX S) p = nE (tX S) p := if_pos hn
    rw [if_neg (show ¬ nI (eN (tX S) p) = nI p from ine (by omega) (by omega) (by omega))] at hy
    by_cases z : k = nof c
    · rw [if_pos (by rw [z])] at hy
      rw [hy]
      have hR := PS_many hP hp hN hn (Or.inr (by omega))
      refine faulty_ok h (by rw [hR]) (by rw [hR]) (Or.inr (Or.inl rfl)) (fun m23 hF _ _ => num_F hI hF (by rw [hR]) hp (by omega) rfl k0)
    · rw [if_neg (ine z (by omega) (by omega))] at hy
      rw [hy]
      refine faulty_0 h (fun m23 h23 f23 => ?_)
      rw [h23.2.2.1]
      refine numberAt_ok hI h23.1.2.2.2.1.1 h23.1.2.2.2.1.2 hp (fun y hy => ⟨vp_in_nI (by omega) (by omega), ?_⟩)
      rintro m27 rfl y29 hy29 m30 rfl
      have h27 := LS_437 ((nI k).toNatClampNeg) y h23
      rw [if_pos (LS_13 h27), e1] at hy29
      rw [hy29]
      refine k1 _ (fun j => if j = k then nV (tX S) p else nu j) (by omega) (LS_14 _ h27) (PS_num (tX_ok hI).1 (tX_ok hI).2.1 hP hp hN hn (fun w => w.elim hc (by omega))) (fun j hj => ?_) (by omega)
      rw [wI_ne _ _ _ _ (by omega), clamp_nI (by omega), wI_get, if_pos rfl]
      show (if j = k then y else m23.1 437 j) = if j = k then nV (tX S) p else nu j
      by_cases z2 : j = k
      · rw [if_pos z2, if_pos z2]; exact hy hn
      · rw [if_neg z2, if_neg z2, f23 437 (by omega)]; exact hnu j (by omega)
  · have e1 : eN (tX S) p = p := if_neg hn
    rw [if_pos (by rw [e1])] at hy
    rw [hy]
    have hR := PS_bad hP hp hN hn
    refine faulty_ok h (by rw [hR]) (by rw [hR]) (Or.inl rfl) (fun m23 hF _ _ => num_F hI hF (by rw [hR]) hp (by omega) rfl k0)
theorem item_step {S : AS} {R : PRs} {m0 m : Mm} {g : Vc} {p : Nat} {c x1 : Int32} {k : Nat} {nu : Nat → Int32} {it : Nat} {rec : Int32 → Mm → Prop} {k275 K : Mm → Prop} (hI : Inv S) (h : LoS m0 m S g p) (hP : PS (tX S) (sx S).length R p c k nu g it) (hk : k ≤ nof c) (hc : ¬ c = 0) (hnu : ∀ j, j < k → m.1 437 j = nu j)
    (k0 : ∀ m2, LoF m0 m2 S R → rec (nI k + 1) m2)
    (k1 : ∀ m2 q nu2, k < nof c → p ≤ q → LoS m0 m2 S g q → PS (tX S) (sx S).length R q c (k + 1) nu2 g it → (∀ j, j < k + 1 → m2.1 437 j = nu2 j) → rec (nI k + 1) m2)
    (k2 : ∀ m2 q, k = nof c → p ≤ q → LoS m0 m2 S g q → PS (tX S) (sx S).length R q c k nu g it → q < (sx S).length → tX S q = 59 → (∀ j, j < k → m2.1 437 j = nu j) → rec (nI k + 1) m2) : wb_X12_readItem_l89 rec k275 K x1 (nI (nof c)) (nI k) m := by
  have hL := (tX_ok hI).1
  have h7 := nof_le c
  unfold wb_X12_readItem_l89
  rw [if_neg (inlt hk (by omega)), if_pos (LS_13 h)]
  refine skips_ok hI h hP (fun m12 q hq h12 hP12 h32 e437 => ?_)
  have hqL := PS_le hP12
  obtain ⟨b1, b2⟩ := LS_here hI h12 (q := q) (by omega)
  rw [h12.2.2.1, b2]
  refine ⟨b1, ?_⟩
  rintro y14 rfl
  by_cases z9 : tX S q = -9
  · rw [if_pos z9]
    have eq : q = (sx S).length := by
      by_cases w : q < (sx S).length
      · exact absurd z9 (tX_n9 hI w)
      · omega
    rw [eq] at hP12
    have hR := PS_end hP12
    rw [if_neg hc] at hR
    exact faulty_ok h12 (by rw [hR]) (by rw [hR, eq]) (Or.inr (Or.inl rfl)) (fun m2 hF _ _ => k0 m2 hF)
  rw [if_neg z9]
  have hp : q < (sx S).length := tX_9 hI z9
  obtain ⟨c1, c2⟩ := LS_dg hI h12 (q := q) (by omega)
  refine ⟨c1, ?_⟩
  have hnu12 : ∀ j, j < k → m12.1 437 j = nu j := fun j hj => by rw [e437]; exact hnu j hj
  have J : isN (tX S q) → wp_X12_readItem_j149 rec K x1 (nI (nof c)) (nI k) m12 := fun hN => j149_ok hI h12 hP12 hp hN hk hc hnu12 k0 (fun m2 nu2 d1 d2 d3 d4 d5 => k1 m2 _ nu2 d1 (by omega) d2 d3 d4)
  by_cases hd : dgt (tX S q)
  · rw [if_neg (fun w => c2.mp w hd)]
    exact J (Or.inl hd)
  rw [if_pos (c2.mpr hd)]
  by_cases h45 : tX S q = 45
  · rw [if_pos h45]; exact J (Or.inr h45)
  rw [if_neg h45]
  have nN : ¬ isN (tX S q) := fun w => w.elim hd h45
  by_cases h59 : tX S q = 59
  · rw [if_pos h59]
    rintro y40 hy
    by_cases zk : k = nof c
    · rw [if_pos (ile (by omega) (by omega))] at hy
      rw [hy]
      exact faulty_0 h12 (fun m2 d1 d2 => k2 m2 q zk hq d1 hP12 hp h59 (fun j hj => by rw [d2 437 (by omega)]; exact hnu12 j hj))
    · rw [if_neg (inle (by omega) (by omega))] at hy
      rw [hy]
      have hR := PS_few hP12 hp h59 (Or.inr (by omega))
      exact faulty_ok h12 (by rw [hR]) (by rw [hR]) (Or.inr (Or.inl rfl)) (fun m2 hF _ _ => k0 m2 hF)
  rw [if_neg h59]
  rintro y36 hy
  rw [r_nof] at hy
  have h8 := nof_le (tX S q)
  by_cases n0 : nof (tX S q) = 0
  · rw [if_pos (show nI (nof (tX S q)) ≤ (0 : Int32) by rw [n0]; decide)] at hy
    rw [hy]
    have hR := PS_odd hP12 hp h32 nN h59 n0
    exact faulty_ok h12 (by rw [hR]) (by rw [hR]) (Or.inl rfl) (fun m2 hF _ _ => k0 m2 hF)
  · rw [if_neg (show ¬ nI (nof (tX S q)) ≤ (0 : Int32) from inle (i := 0) (by omega) (by omega))] at hy
    rw [hy]
    have hR := PS_two hP12 hp n0 hc
    exact faulty_ok h12 (by rw [hR]) (by rw [hR]) (Or.inr (Or.inl rfl)) (fun m2 hF _ _ => k0 m2 hF)
theorem begins_2 {m : Mm} {S : AS} {K : Mm → Prop} (h : RefR m S) (kk : ∀ m2, RB m m2 S (sg S) → m2.1 437 = m.1 437 → K m2) : wp_X12_begins m K := by
  refine begins_ok (kk _ ⟨fun k hk => ?_, ⟨fun k hk => ?_, funext fun j => ?_, ?_⟩, ?_, ?_, fun b hb => ?_⟩ (funext fun j => ?_))
  · rw [cpA_get, if_neg (by omega), wI_ne _ _ _ _ (by omega)]; exact h.1 k hk
  · rw [cpA_get, if_pos (by omega), wI_ne _ _ _ _ (by omega)]; simpa using h.1 k hk
  · rw [cpA_get, if_neg (by omega), wI_ne _ _ _ _ (by omega)]
  · rw [cpA_get, if_neg (by omega), wI_nj _ _ _ _ (by omega)]
  · rw [cpA_get, if_neg (by omega), wI_same]
  · refine Rr_congr (m := m) h.2 ?_ ?_ ?_ (fun b hb => ?_)
    · rw [cpA_get, if_neg (by omega), wI_nj _ _ _ _ (by omega)]
    · rw [cpA_get, if_neg (by omega), wI_nj _ _ _ _ (by omega)]
    · rw [cpA_get, if_neg (by omega), wI_nj _ _ _ _ (by omega)]
    · funext j
      unfold rcell at hb
      rw [cpA_get, if_neg (by omega), wI_ne _ _ _ _ (by omega)]
  · funext j
    rw [cpA_get, if_neg (by omega), wI_ne _ _ _ _ (by omega)]
  · rw [cpA_get, if_neg (by omega), wI_ne _ _ _ _ (by omega)]
theorem item_end {S : AS} {R : PRs} {m0 m : Mm} {g : Vc} {q : Nat} {c : Int32} {nu : Nat → Int32} {it : Nat} {K : Mm → Prop} (h : LoS m0 m S g q) (hP : PS (tX S) (sx S).length R q c (nof c) nu g it) (hp : q < (sx S).length) (h59 : tX S q = 59) (hn : ¬ nof c = 0) (hc : ¬ c = 0) (hnu : ∀ j, j < nof c → m.1 437 j = nu j) (hD : Dd g)
    (k0 : ∀ m2, LoF m0 m2 S R → K m2)
    (k1 : ∀ m2 g2, LoS m0 m2 S g2 (q + 1) → PS (tX S) (sx S).length R (q + 1) 0 0 nu g2 (it + 1) → Dd g2 → (∀ j, 125 ≤ j → g2 j = g j) → K m2) :
    wp_X12_begins m (fun m46 => wp_X12_carryOut c m46 (fun m47 => ∀ y49 : Int32, y49 = (if (m47.1 426 2) = (0 : Int32) then (0 : Int32) else (3 : Int32)) → (wp_X12_faulty y49 m47 (fun m50 => ∀ y52 : Int32, y52 = (if (m50.1 426 13) = (0 : Int32) then (1 : Int32) else (0 : Int32)) → (∀ m53 : Mm, m53 = wI m50 426 14 ((m50.1 426 14) + y52) → (K m53)))))) := by
  have hk : ¬ (c = 0 ∨ nof c < nof c) := fun w => w.elim hc (Nat.lt_irrefl _)
  obtain ⟨h1, h2, h3, h4⟩ := h
  refine begins_2 h1 (fun m46 hB e437 => ?_)
  refine rcarry_ok (S := Sd S g 0) (m0 := m) (nu := nu) hD hB hn (fun j hj => by rw [e437]; exact hnu j hj) (fun ho m47 hQ => ?_) (fun g2 ho m47 hB2 => ?_)
  · obtain ⟨q1, ⟨q2, q3, q4⟩, q5⟩ := hQ
    rintro y49 hy
    rw [if_neg (show ¬ m47.1 426 2 = 0 by rw [q2]; decide)] at hy
    rw [hy]
    have hR := PS_no hP hp h59 hk ho
    have L47 : LoS m0 m47 S g q := ⟨q1, fun k hk => by rw [q3]; exact h2 k hk, by rw [q4]; exact h3, fun b hb => by rw [q5 b hb]; exact h4 b hb⟩
    refine faulty_ok (R := R) L47 (by rw [hR]) (by rw [hR]) (Or.inr (Or.inr rfl)) (fun m50 hF _ _ => ?_)
    rintro y52 hy52 m53 h53
    rw [if_neg (LF_13 hF)] at hy52
    rw [hy52, Int32.add_zero] at h53
    rw [h53]
    exact k0 _ (LF_14 hF)
  · obtain ⟨q1, ⟨q2, q3, q4⟩, q5, q6, q7⟩ := hB2
    rintro y49 hy
    rw [if_pos q5] at hy
    rw [hy]
    have L47 : LoS m0 m47 S g2 q := ⟨⟨q1, q6⟩, fun k hk => by rw [q3]; exact h2 k hk, by rw [q4]; exact h3, fun b hb => by rw [q7 b hb]; exact h4 b hb⟩
    refine faulty_0 L47 (fun m50 h50 _ => ?_)
    rintro y52 hy52 m53 h53
    rw [if_pos (LS_13 h50)] at hy52
    rw [hy52, h50.2.2.1, nI_1] at h53
    rw [h53]
    obtain ⟨G1, G2⟩ := co_good hD hn ho
    exact k1 _ g2 (LS_14 _ h50) (PS_do hP hp h59 hk ho) G1 G2
theorem nof0 : nof 0 = 0 := by decide
theorem readItem_ok {S : AS} {R : PRs} {m0 m : Mm} {g : Vc} {p : Nat} {nu : Nat → Int32} {it : Nat} {K : Mm → Prop} (hI : Inv S) (h : LoS m0 m S g p) (hP : PS (tX S) (sx S).length R p 0 0 nu g it) (hp : p < (sx S).length) (h32 : ¬ tX S p = 32) (hD : Dd g)
    (k0 : ∀ m2, LoF m0 m2 S R → K m2)
    (k1 : ∀ m2 q nu2 g2, p < q → LoS m0 m2 S g2 q → PS (tX S) (sx S).length R q 0 0 nu2 g2 (it + 1) → Dd g2 → (∀ j, 125 ≤ j → g2 j = g j) → K m2) : wp_X12_readItem m K := by
  have hL := (tX_ok hI).1
  unfold wp_X12_readItem
  obtain ⟨b1, b2⟩ := LS_here hI h (q := p) (by omega)
  obtain ⟨c1, c2⟩ := LS_dg hI h (q := p) (by omega)
  have e14 : m.1 426 14 = nI p := h.2.2.1
  rw [e14, b2]
  refine ⟨b1, ?_⟩
  rintro y2 rfl y3 rfl
  refine ⟨c1, ?_⟩
  rintro y7 hy7
  rw [r_nof]
  have h7 := nof_le (tX S p)
  by_cases n0 : nof (tX S p) = 0
  · rw [if_pos (show nI (nof (tX S p)) = (0 : Int32) by rw [n0]; rfl)]
    by_cases hN : isN (tX S p)
    · have e7 : ¬ y7 = 0 := by
        rw [hy7]
        by_cases z : dgt (tX S p)
        · rw [if_neg (fun w => c2.mp w z)]; decide
        · rw [if_pos (c2.mpr z), if_pos (hN.resolve_left z)]; decide
      rw [if_neg e7]
      refine numberEnd_ok hI h hp ?_
      rintro y65 hy
      rw [e14] at hy
      obtain ⟨a1, a2, a3, a4, a5, a6⟩ := nE_ok (tX_ok hI).1 (tX_ok hI).2.1 hp
      by_cases hn : nOK (tX S) p
      · have hn1 := hn.1
        rw [show eN (tX S) p = nE (tX S) p from if_pos hn, if_pos (ilt (by omega) (by omega))] at hy
        rw [hy]
        have hR := PS_many hP hp hN hn (Or.inl rfl)
        exact faulty_ok h (by rw [hR]) (by rw [hR]) (Or.inr (Or.inl rfl)) (fun m2 hF _ _ => k0 m2 hF)
      · rw [show eN (tX S) p = p from if_neg hn, if_neg (inlt (Nat.le_refl _) (by omega)), if_neg (n59 hN)] at hy
        rw [hy]
        have hR := PS_bad hP hp hN hn
        exact faulty_ok h (by rw [hR]) (by rw [hR]) (Or.inl rfl) (fun m2 hF _ _ => k0 m2 hF)
    · have e7 : y7 = 0 := by rw [hy7, if_pos (c2.mpr (fun w => hN (Or.inl w))), if_neg (fun w => hN (Or.inr w))]
      rw [if_pos e7]
      unfold wp_X12_readItem_j61
      rintro y58 hy
      by_cases h59 : tX S p = 59
      · rw [if_pos h59] at hy
        rw [hy]
        have hR := PS_few hP hp h59 (Or.inl rfl)
        exact faulty_ok h (by rw [hR]) (by rw [hR]) (Or.inr (Or.inl rfl)) (fun m2 hF _ _ => k0 m2 hF)
      · rw [if_neg h59] at hy
        rw [hy]
        have hR := PS_odd hP hp h32 hN h59 n0
        exact faulty_ok h (by rw [hR]) (by rw [hR]) (Or.inl rfl) (fun m2 hF _ _ => k0 m2 hF)
  · rw [if_neg (show ¬ nI (nof (tX S p)) = (0 : Int32) from ine (i := 0) n0 (by omega) (by omega))]
    rintro m9 rfl
    rw [nI_1]
    have hc : ¬ tX S p = 0 := fun z => n0 (by rw [z]; exact nof0)
    refine loop_a (wp := fun n i q => wp_X12_readItem_l89 _ K (tX S p) (nI (nof (tX S p))) n i q) (I := fun i m' => LoF m0 m' S R ∨ (i ≤ nof (tX S p) ∧ ∃ q nu, p < q ∧ LoS m0 m' S g q ∧ PS (tX S) (sx S).length R q (tX S p) i nu g it ∧ ∀ j, j < i → m'.1 437 j = nu j) ∨ (nof (tX S p) < i ∧ ∃ q nu, p < q ∧ q < (sx S).length ∧ LoS m0 m' S g q ∧ PS (tX S) (sx S).length R q (tX S p) (nof (tX S p)) nu g it ∧ tX S q = 59 ∧ ∀ j, j < nof (tX S p) → m'.1 437 j = nu j)) (a := 0) (N := nof (tX S p) + 1) (by omega) (by omega) (fun n i m' i1 i2 hI2 => ?_) (fun n i m' i1 i2 hI2 kn => ?_) (Or.inr (Or.inl ⟨by omega, p + 1, fun _ => 0, by omega, LS_14 _ h, PS_let hP hp n0 rfl, fun j hj => by omega⟩))
    · show wb_X12_readItem_l89 _ _ _ _ _ _ _
      unfold wb_X12_readItem_l89
      rw [if_pos (ilt (by omega) (by omega))]
      rcases hI2 with hF | ⟨w, _⟩ | ⟨_, q, nu2, d1, d2, d3, d4, d5, d6⟩
      · rw [if_neg (LF_13 hF)]; exact k0 _ hF
      · omega
      · rw [if_pos (LS_13 d3)]
        exact item_end d3 d4 d2 d5 n0 hc d6 hD k0 (fun m2 g2 e1 e2 e3 e4 => k1 m2 (q + 1) nu2 g2 (by omega) e1 e2 e3 e4)
    · show wb_X12_readItem_l89 _ _ _ _ _ _ _
      rcases hI2 with hF | ⟨w, q, nu2, d1, d3, d4, d6⟩ | ⟨w, _⟩
      · unfold wb_X12_readItem_l89
        rw [if_neg (inlt (by omega) (by omega)), if_neg (LF_13 hF)]
        show (if m'.1 426 13 = 0 then _ else K m')
        rw [if_neg (LF_13 hF)]
        exact k0 _ hF
      · refine item_step hI d3 d4 w hc d6 (fun m2 hF => kn _ (Or.inl hF)) (fun m2 q2 nu3 e1 e2 e3 e4 e5 => kn _ (Or.inr (Or.inl ⟨by omega, q2, nu3, by omega, e3, e4, e5⟩))) (fun m2 q2 e1 e2 e3 e4 e5 e6 e7 => kn _ (Or.inr (Or.inr ⟨by omega, q2, nu2, by omega, e5, e3, by rw [← e1]; exact e4, e6, by rw [← e1]; exact e7⟩)))
      · omega
