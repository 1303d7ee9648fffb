/-! the class measures a pose -/
def sb0 (s : Nat) : Nat := if s = 1 then 1 else if s = 2 then 3 else 0
def sb1 (s : Nat) : Nat := if s = 0 then 1 else if s = 3 then 3 else 2
def sax (P : PZ) (s : Nat) : Nat := (if s % 2 = 0 then P.1 else P.2.1) / 2
theorem szv0 {s : Nat} (hs : s < 4) : szv 0 s = nI (sb0 s) := by rcases side4 hs with z | z | z | z <;> subst z <;> rfl
theorem szv1 {s : Nat} (hs : s < 4) : szv 1 s = nI (sb1 s) := by rcases side4 hs with z | z | z | z <;> subst z <;> rfl
theorem sb0_lt (s : Nat) : sb0 s < 4 := by unfold sb0; split <;> (try split) <;> omega
theorem sb1_lt (s : Nat) : sb1 s < 4 := by unfold sb1; split <;> (try split) <;> omega
theorem sax_lt {P : PZ} (ok : pzok P) (s : Nat) : sax P s < 3 := by
  unfold sax
  have h1 := ok.1
  have h2 := ok.2.1
  split <;> omega
def cL (m : Mm) (q : Nat) (P : PZ) (w h : Int32) (n : Nat) : Prop := ∀ c, c < n → m.1 (q + 1) c = mn32 (P.2.2.2 c) (pcor P w h 2 c) ∧ m.1 (q + 2) c = mx32 (P.2.2.2 c) (pcor P w h 2 c)
def cS (m : Mm) (q : Nat) (P : PZ) (w h : Int32) (n : Nat) : Prop := ∀ s, s < n → m.1 (q + 3) s = nI (sax P s) ∧ m.1 (q + 9) s = pcor P w h (sb0 s) (sax P s) ∧ m.1 (q + 4) s = mn32 (pcor P w h (sb0 s) (sax P s)) (pcor P w h (sb1 s) (sax P s)) ∧
  m.1 (q + 5) s = mx32 (pcor P w h (sb0 s) (sax P s)) (pcor P w h (sb1 s) (sax P s)) ∧ m.1 (q + 6) s = pcor P w h (sb0 s) ((sax P s + 1) % 3) ∧ m.1 (q + 7) s = pcor P w h (sb0 s) ((sax P s + 2) % 3)
theorem measure_ok {m : Mm} {q : Nat} {P : PZ} {w h : Int32} {K : Mm → Prop} (hP : cP m q P w h) (ok : pzok P) (kk : ∀ m2, cP m2 q P w h → cL m2 q P w h 3 → cS m2 q P w h 4 → frP q m m2 → K m2) : wp_X8_measure q m K := by
  unfold wp_X8_measure
  refine loop_i (W := fun n i m => wp_X8_measure_l2 _ K q n (nI i) m) (I := fun i t => cL t q P w h i ∧ cP t q P w h ∧ frP q m t) 3 ?_ ?_ FU 0 m (by omega) (FU_gt (by omega)) ⟨fun c hc => by omega, hP, fun _ _ => rfl⟩
  · rintro n t ⟨i1, i2, i3⟩
    show wb_X8_measure_l2 _ _ _ _ _ _
    unfold wb_X8_measure_l2
    rw [if_pos (show (3 : Int32) ≤ nI 3 from ile (a := 3) (by omega) (by omega))]
    refine loop_i (W := fun n i m => wp_X8_measure_l51 K q n (nI i) m) (I := fun i t2 => cS t2 q P w h i ∧ cL t2 q P w h 3 ∧ cP t2 q P w h ∧ frP q m t2) 4 ?_ ?_ FU 0 t (by omega) (FU_gt (by omega)) ⟨fun c hc => by omega, i1, i2, i3⟩
    · rintro n2 t2 ⟨j1, j2, j3, j4⟩
      show wb_X8_measure_l51 _ _ _ _ _
      unfold wb_X8_measure_l51
      rw [if_pos (show (4 : Int32) ≤ nI 4 from ile (a := 4) (by omega) (by omega))]
      exact kk t2 j3 j2 j1 j4
    · rintro n2 s t2 hs ⟨j1, j2, j3, j4⟩ k2
      show wb_X8_measure_l51 _ _ _ _ _
      unfold wb_X8_measure_l51
      obtain ⟨p0, p8, p9, p10, p11, pS⟩ := id j3
      have hax := sax_lt ok s
      rw [if_neg (show ¬ (4 : Int32) ≤ nI s from inle (a := 4) hs (by omega)), p8, p9]
      intro y10 e10 y11 e11
      have ex : y11 = nI (sax P s) := by
        rw [e11, e10]
        unfold sax
        rcases side4 hs with z | z | z | z <;> subst z
        · exact axis_sh ok.1
        · exact axis_sh ok.2.1
        · exact axis_sh ok.1
        · exact axis_sh ok.2.1
      subst ex
      rw [clamp_nI (by omega), szv0 hs, szv1 hs]
      refine ⟨vp_in_nI hs (by omega), ?_⟩
      rintro y13 e13 y14 e14 m15 e15 m16 e16 m17 e17 m18 e18 m19 e19 m20 e20
      rw [cornerAt_ok j3 ok (sb0_lt s) hax] at e13
      rw [cornerAt_ok j3 ok (sb1_lt s) hax] at e14
      subst e13
      subst e14
      have f18 : ∀ b, b = q ∨ b = q + 8 → m18.1 b = t2.1 b := fun b hb => by funext j; rw [e18, wI_ne _ _ _ _ (by omega), e17, wI_ne _ _ _ _ (by omega), e16, wI_ne _ _ _ _ (by omega), e15, wI_ne _ _ _ _ (by omega)]
      have P18 : cP m18 q P w h := cP_congr j3 (f18 q (Or.inl rfl)) (f18 (q + 8) (Or.inr rfl))
      have r1 : rm32 (nI (sax P s) + 1) 3 = nI ((sax P s + 1) % 3) := by rw [nI_1]; exact rm32_nI (d := 3) (by omega) (by omega) (by omega)
      have r2 : rm32 (nI (sax P s) + 2) 3 = nI ((sax P s + 2) % 3) := by rw [show (2 : Int32) = nI 2 from rfl, nI_add]; exact rm32_nI (d := 3) (by omega) (by omega) (by omega)
      rw [r1, cornerAt_ok P18 ok (sb0_lt s) (by omega)] at e19
      have P19 : cP m19 q P w h := cP_congr P18 (by funext j; rw [e19, wI_ne _ _ _ _ (by omega)]) (by funext j; rw [e19, wI_ne _ _ _ _ (by omega)])
      rw [r2, cornerAt_ok P19 ok (sb0_lt s) (by omega)] at e20
      have hm : m20 = wI (wI (wI (wI (wI (wI t2 (q + 3) s (nI (sax P s))) (q + 9) s (pcor P w h (sb0 s) (sax P s))) (q + 4) s (mn32 (pcor P w h (sb0 s) (sax P s)) (pcor P w h (sb1 s) (sax P s)))) (q + 5) s (mx32 (pcor P w h (sb0 s) (sax P s)) (pcor P w h (sb1 s) (sax P s)))) (q + 6) s (pcor P w h (sb0 s) ((sax P s + 1) % 3))) (q + 7) s (pcor P w h (sb0 s) ((sax P s + 2) % 3)) := by rw [e20, e19, e18, e17, e16, e15]
      have hO : ∀ b, b < q + 3 ∨ b = q + 8 ∨ q + 10 ≤ b → m20.1 b = t2.1 b := fun b hb => by funext j; rw [hm, wI_ne _ _ _ _ (by omega), wI_ne _ _ _ _ (by omega), wI_ne _ _ _ _ (by omega), wI_ne _ _ _ _ (by omega), wI_ne _ _ _ _ (by omega), wI_ne _ _ _ _ (by omega)]
      have hN : ∀ b j, j ≠ s → m20.1 b j = t2.1 b j := fun b j hj => by rw [hm, wI_nj _ _ _ _ hj, wI_nj _ _ _ _ hj, wI_nj _ _ _ _ hj, wI_nj _ _ _ _ hj, wI_nj _ _ _ _ hj, wI_nj _ _ _ _ hj]
      rw [nI_1]
      refine k2 _ ⟨fun s' hs' => ?_, fun c hc => by rw [hO (q + 1) (by omega), hO (q + 2) (by omega)]; exact j2 c hc, cP_congr j3 (hO q (by omega)) (hO (q + 8) (by omega)), fun b hb => by rw [hO b (by omega)]; exact j4 b hb⟩
      rcases Nat.lt_or_ge s' s with z | z
      · rw [hN _ _ (by omega), hN _ _ (by omega), hN _ _ (by omega), hN _ _ (by omega), hN _ _ (by omega), hN _ _ (by omega)]; exact j1 s' z
      · rw [show s' = s by omega, hm]
        refine ⟨?_, ?_, ?_, ?_, ?_, wI_same _ _ _ _⟩
        · rw [wI_ne _ _ _ _ (by omega), wI_ne _ _ _ _ (by omega), wI_ne _ _ _ _ (by omega), wI_ne _ _ _ _ (by omega), wI_ne _ _ _ _ (by omega), wI_same]
        · rw [wI_ne _ _ _ _ (by omega), wI_ne _ _ _ _ (by omega), wI_ne _ _ _ _ (by omega), wI_ne _ _ _ _ (by omega), wI_same]
        · rw [wI_ne _ _ _ _ (by omega), wI_ne _ _ _ _ (by omega), wI_ne _ _ _ _ (by omega), wI_same]
        · rw [wI_ne _ _ _ _ (by omega), wI_ne _ _ _ _ (by omega), wI_same]
        · rw [wI_ne _ _ _ _ (by omega), wI_same]
  · rintro n c t hc ⟨i1, i2, i3⟩ k2
    show wb_X8_measure_l2 _ _ _ _ _ _
    unfold wb_X8_measure_l2
    have ec : v_X8_cornerAt q 2 (nI c) t = pcor P w h 2 c := cornerAt_ok (n := 2) i2 ok (by omega) hc
    rw [if_neg (show ¬ (3 : Int32) ≤ nI c from inle (a := 3) hc (by omega)), clamp_nI (by omega), ec, i2.2.2.2.2.2 c hc]
    refine ⟨vp_in_nI hc (by omega), ?_⟩
    rintro y3 rfl y4 rfl m5 e5 m6 e6
    have hO : ∀ b, b ≠ q + 1 → b ≠ q + 2 → m6.1 b = t.1 b := fun b z1 z2 => by funext j; rw [e6, wI_ne _ _ _ _ z2, e5, wI_ne _ _ _ _ z1]
    rw [nI_1]
    refine k2 _ ⟨fun c' hc' => ?_, cP_congr i2 (hO q (by omega) (by omega)) (hO (q + 8) (by omega) (by omega)), fun b hb => by rw [hO b (by omega) (by omega)]; exact i3 b hb⟩
    rcases Nat.lt_or_ge c' c with z | z
    · rw [e6, wI_nj _ _ _ _ (by omega), wI_nj _ _ _ _ (by omega), e5, wI_nj _ _ _ _ (by omega), wI_nj _ _ _ _ (by omega)]; exact i1 c' z
    · rw [show c' = c by omega, e6, wI_same, wI_ne _ _ _ _ (by omega), e5, wI_same]; exact ⟨rfl, rfl⟩
