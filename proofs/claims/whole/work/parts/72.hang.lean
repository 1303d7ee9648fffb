/-! the class hangs a pose on another -/
theorem outward_ok {m : Mm} {q : Nat} {P : PZ} {w h : Int32} {s : Nat} (hP : cP m q P w h) (ok : pzok P) (hs : s < 4) : v_X8_outward q (nI s) m = nI (outC P s) := by
  obtain ⟨h0, h8, h9, -⟩ := hP
  unfold v_X8_outward
  rw [h8, h9]
  rcases side4 hs with z | z | z | z <;> subst z
  · exact opp_nI ok.2.1
  · rfl
  · rfl
  · exact opp_nI ok.1
theorem into_ok {P : PZ} {s : Nat} {a : Int32} (ok : pzok P) (hs : s < 4) : (if a = (0 : Int32) then nI (outC P s) else if a = (1 : Int32) then nI P.2.2.1 ^^^ 1 else if a = (2 : Int32) then nI (outC P s) ^^^ 1 else nI P.2.2.1) = nI (intC P s a) := by
  unfold intC
  rw [opp_nI ok.2.2.1, opp_nI (outC_lt ok hs)]
  by_cases a0 : a = 0
  · rw [if_pos a0, if_pos a0]
  · rw [if_neg a0, if_neg a0]
    by_cases a1 : a = 1
    · rw [if_pos a1, if_pos a1]
    · rw [if_neg a1, if_neg a1]
      by_cases a2 : a = 2
      · rw [if_pos a2, if_pos a2]
      · rw [if_neg a2, if_neg a2]
theorem norm_ok {P : PZ} {s : Nat} {a : Int32} (ok : pzok P) (hs : s < 4) : (if a = (0 : Int32) then nI P.2.2.1 else if a = (1 : Int32) then nI (outC P s) else if a = (2 : Int32) then nI P.2.2.1 ^^^ 1 else nI (outC P s) ^^^ 1) = nI (nrmC P s a) := by
  unfold nrmC
  rw [opp_nI ok.2.2.1, opp_nI (outC_lt ok hs)]
  by_cases a0 : a = 0
  · rw [if_pos a0, if_pos a0]
  · rw [if_neg a0, if_neg a0]
    by_cases a1 : a = 1
    · rw [if_pos a1, if_pos a1]
    · rw [if_neg a1, if_neg a1]
      by_cases a2 : a = 2
      · rw [if_pos a2, if_pos a2]
      · rw [if_neg a2, if_neg a2]
theorem cP_congr {m m2 : Mm} {q : Nat} {P : PZ} {w h : Int32} (hP : cP m q P w h) (e0 : m2.1 q = m.1 q) (e8 : m2.1 (q + 8) = m.1 (q + 8)) : cP m2 q P w h := by
  unfold cP at hP ⊢
  rw [e0, e8]
  exact hP
theorem hangOn_ok {m : Mm} {q qp a : Nat} {P : PZ} {w h : Int32} {s : Nat} {ang off dep w2 h2 : Int32} {K : Mm → Prop} (hq : qp + 10 ≤ q ∨ q + 10 ≤ qp) (ha : a < q) (hP : cP m qp P w h) (ok : pzok P) (hs : s < 4) (g1 : m.1 a 1 = nI s) (g2 : m.1 a 2 = off) (g4 : m.1 a 4 = dep) (g13 : m.1 a 13 = w2) (g14 : m.1 a 14 = h2)
    (kk : ∀ m2, cP m2 q (hungP P w h s ang off dep) w2 h2 → frP q m m2 → K m2) : wp_X8_hangOn q qp a ang m K := by
  obtain ⟨p0, p8, p9, p10, p11, ps⟩ := id hP
  unfold wp_X8_hangOn
  rintro y1 rfl y2 rfl
  rw [g1, outward_ok hP ok hs, p0]
  rintro y6 e6 y10 e10
  rw [into_ok ok hs] at e6
  rw [norm_ok ok hs] at e10
  subst e6
  subst e10
  rintro m11 e11 y13 e13 y16 e16 m17 e17 y20 e20 m21 e21 m22 e22 m23 e23 y26 e26
  have il := intC_lt (a := ang) ok hs
  have hlev : y13 = if s = 0 ∨ s = 2 then (1 : Int32) else 0 := by
    rw [e13]
    rcases side4 hs with z | z | z | z <;> subst z <;> rfl
  have hbeg : y26 = nI (if s = 1 then 1 else if s = 2 then 3 else 0) := by
    rw [e26]
    rcases side4 hs with z | z | z | z <;> subst z <;> rfl
  have f11 : ∀ b, b ≠ q → m11.1 b = m.1 b := fun b hb => by funext j; rw [e11, wI_ne _ _ _ _ hb]
  have f17 : ∀ b, b ≠ q → m17.1 b = m.1 b := fun b hb => by funext j; rw [e17, wI_ne _ _ _ _ hb, f11 b hb]
  have f21 : ∀ b, b ≠ q → m21.1 b = m.1 b := fun b hb => by funext j; rw [e21, wI_ne _ _ _ _ hb, f17 b hb]
  have f22 : ∀ b, b ≠ q → m22.1 b = m.1 b := fun b hb => by funext j; rw [e22, wI_ne _ _ _ _ hb, f21 b hb]
  have f23 : ∀ b, b ≠ q → m23.1 b = m.1 b := fun b hb => by funext j; rw [e23, wI_ne _ _ _ _ hb, f22 b hb]
  rw [f11 qp (by omega), p8] at e16
  rw [f17 qp (by omega), p9] at e20
  rw [f21 a (by omega), g13] at e22
  rw [f22 a (by omega), g14] at e23
  have hu : y16 = nI (hungP P w h s ang off dep).1 := by
    rw [e16, hlev]
    rcases side4 hs with z | z | z | z <;> subst z
    · rfl
    · rfl
    · rfl
    · exact opp_nI il
  have hv : y20 = nI (hungP P w h s ang off dep).2.1 := by
    rw [e20, hlev]
    rcases side4 hs with z | z | z | z <;> subst z
    · exact opp_nI il
    · rfl
    · rfl
    · rfl
  have q0 : m23.1 q 0 = nI (nrmC P s ang) := by rw [e23, wI_nj _ _ _ _ (by omega), e22, wI_nj _ _ _ _ (by omega), e21, wI_nj _ _ _ _ (by omega), e17, wI_nj _ _ _ _ (by omega), e11, wI_same]
  have q8 : m23.1 q 8 = nI (hungP P w h s ang off dep).1 := by rw [e23, wI_nj _ _ _ _ (by omega), e22, wI_nj _ _ _ _ (by omega), e21, wI_nj _ _ _ _ (by omega), e17, wI_same, hu]
  have q9 : m23.1 q 9 = nI (hungP P w h s ang off dep).2.1 := by rw [e23, wI_nj _ _ _ _ (by omega), e22, wI_nj _ _ _ _ (by omega), e21, wI_same, hv]
  have q10 : m23.1 q 10 = w2 := by rw [e23, wI_nj _ _ _ _ (by omega), e22, wI_same]
  have q11 : m23.1 q 11 = h2 := by rw [e23, wI_same]
  clear e11 e17 e21 e22 e23 e16 e20 e13 e26
  refine loop_i (W := fun n i m => wp_X8_hangOn_l216 K q qp a (nI s) (nI (intC P s ang)) y13 y26 n (nI i) m) (I := fun i t => (∀ c, c < i → t.1 (q + 8) c = (hungP P w h s ang off dep).2.2.2 c) ∧ ∀ b, b ≠ q + 8 → t.1 b = m23.1 b) 3 ?_ ?_ FU 0 m23 (by omega) (FU_gt (by omega)) ⟨fun c hc => by omega, fun _ _ => rfl⟩
  · rintro n t ⟨i1, i2⟩
    show wb_X8_hangOn_l216 _ _ _ _ _ _ _ _ _ _ _
    unfold wb_X8_hangOn_l216
    rw [if_pos (show (3 : Int32) ≤ nI 3 from ile (a := 3) (by omega) (by omega))]
    refine kk t ⟨by rw [i2 q (by omega)]; exact q0, by rw [i2 q (by omega)]; exact q8, by rw [i2 q (by omega)]; exact q9, by rw [i2 q (by omega)]; exact q10, by rw [i2 q (by omega)]; exact q11, i1⟩ (fun b hb => by rw [i2 b (by omega), f23 b (by omega)])
  · rintro n c t hc ⟨i1, i2⟩ k2
    show wb_X8_hangOn_l216 _ _ _ _ _ _ _ _ _ _ _
    unfold wb_X8_hangOn_l216
    have et : ∀ b, b ≠ q → b ≠ q + 8 → t.1 b = m.1 b := fun b z1 z2 => by rw [i2 b z2, f23 b z1]
    have hPt : cP t qp P w h := cP_congr hP (et qp (by omega) (by omega)) (et (qp + 8) (by omega) (by omega))
    rw [if_neg (show ¬ (3 : Int32) ≤ nI c from inle (a := 3) hc (by omega)), et qp (by omega) (by omega), et a (by omega) (by omega), p8, p9, g2, hbeg, cornerAt_ok hPt ok (by split <;> (try split) <;> omega) hc, clamp_nI (by omega)]
    intro y29 e29
    refine ⟨vp_in_nI (by omega) (by omega), ?_⟩
    rintro m31 e31
    have ep : v_X8_part y29 (nI c) = if s = 0 ∨ s = 2 then pt P.1 c else pt P.2.1 c := by
      rw [e29, hlev]
      rcases side4 hs with z | z | z | z <;> subst z
      · exact part_pt ok.1 hc
      · exact part_pt ok.2.1 hc
      · exact part_pt ok.1 hc
      · exact part_pt ok.2.1 hc
    rw [ep] at e31
    have hO : ∀ b, b ≠ q + 8 → m31.1 b = m23.1 b := fun b hb => by funext j; rw [e31, wI_ne _ _ _ _ hb, i2 b hb]
    have hN : ∀ j, j ≠ c → m31.1 (q + 8) j = t.1 (q + 8) j := fun j hj => by rw [e31, wI_nj _ _ _ _ hj]
    have hW : m31.1 (q + 8) c = pcor P w h (if s = 1 then 1 else if s = 2 then 3 else 0) c + off * (if s = 0 ∨ s = 2 then pt P.1 c else pt P.2.1 c) := by rw [e31, wI_same]
    have hj : s = 0 ∨ s = 3 → wp_X8_hangOn_j275 (fun x m => wp_X8_hangOn_l216 K q qp a (nI s) (nI (intC P s ang)) y13 y26 n x m) K q qp a (nI s) (nI (intC P s ang)) y13 y26 (nI c) m31 := by
      intro hs03
      unfold wp_X8_hangOn_j275
      rw [clamp_nI (by omega), hW, hO a (by omega), f23 a (by omega), g4, part_pt il hc]
      refine ⟨vp_in_nI (by omega) (by omega), ?_⟩
      rintro m34 rfl
      rw [nI_1]
      refine k2 _ ⟨fun c' hc' => ?_, fun b hb => ?_⟩
      · rcases Nat.lt_or_ge c' c with z | z
        · rw [wI_nj _ _ _ _ (by omega), hN c' (by omega)]; exact i1 c' z
        · rw [show c' = c by omega, wI_same]
          unfold pcor hungP
          rcases hs03 with z | z <;> subst z
          · show _ + 0 + 0 + _ + _ = _ + 0 + _ + _
            rw [i32_0]; rfl
          · show _ + 0 + 0 + _ + _ = _ + 0 + _ + _
            rw [i32_0]; rfl
      · funext j; rw [wI_ne _ _ _ _ hb, hO b hb]
    have hstep : s = 1 ∨ s = 2 → wp_X8_hangOn_l216 K q qp a (nI s) (nI (intC P s ang)) y13 y26 n (nI c + 1) m31 := by
      intro hs12
      rw [nI_1]
      refine k2 _ ⟨fun c' hc' => ?_, hO⟩
      rcases Nat.lt_or_ge c' c with z | z
      · rw [hN c' (by omega)]; exact i1 c' z
      · rw [show c' = c by omega, hW]
        unfold pcor hungP
        rcases hs12 with z | z <;> subst z
        · show _ + _ + 0 + _ = _ + _ + _ + 0
          rw [i32_0, i32_0]; rfl
        · show _ + 0 + _ + _ = _ + _ + _ + 0
          rw [i32_0, i32_0]; rfl
    rcases side4 hs with z | z | z | z
    · rw [if_pos (by rw [z]; rfl), ← hbeg]; exact hj (Or.inl z)
    · rw [if_neg (by rw [z]; decide), if_neg (by rw [z]; decide), ← hbeg]; exact hstep (Or.inl z)
    · rw [if_neg (by rw [z]; decide), if_neg (by rw [z]; decide), ← hbeg]; exact hstep (Or.inr z)
    · rw [if_neg (by rw [z]; decide), if_pos (by rw [z]; rfl), ← hbeg]; exact hj (Or.inr z)
