/-! the reference folds -/
def pR (m : Mm) (P : PZ) (i n : Nat) : Prop := ∀ c, c < n → m.1 439 (3 * i + c) = P.2.2.2 c ∧ m.1 440 (3 * i + c) = pt P.1 c ∧ m.1 441 (3 * i + c) = pt P.2.1 c ∧ m.1 442 (3 * i + c) = pt P.2.2.1 c
theorem pR_congr {m m2 : Mm} {P : PZ} {i n : Nat} (h : pR m P i n) (e : ∀ b j, 439 ≤ b → b < 443 → j < 3 * i + n → 3 * i ≤ j → m2.1 b j = m.1 b j) : pR m2 P i n := fun c hc => by
  obtain ⟨h1, h2, h3, h4⟩ := h c hc
  exact ⟨by rw [e 439 _ (by omega) (by omega) (by omega) (by omega)]; exact h1, by rw [e 440 _ (by omega) (by omega) (by omega) (by omega)]; exact h2, by rw [e 441 _ (by omega) (by omega) (by omega) (by omega)]; exact h3, by rw [e 442 _ (by omega) (by omega) (by omega) (by omega)]; exact h4⟩
theorem nIe {a b : Nat} (ha : a < 2 ^ 31) (hb : b < 2 ^ 31) : (nI a = nI b) ↔ a = b := nI_eq ha hb
theorem out_pt {P : PZ} {s : Nat} (hP : pzok P) (hs : s < 4) (c : Nat) : (if nI s = (0 : Int32) then -pt P.2.1 c else if nI s = (1 : Int32) then pt P.1 c else if nI s = (2 : Int32) then pt P.2.1 c else -pt P.1 c) = pt (outC P s) c := by
  rcases side4 hs with z | z | z | z <;> subst z
  · exact (pt_opp hP.2.1 c).symm
  · rfl
  · rfl
  · exact (pt_opp hP.1 c).symm
theorem outC_lt {P : PZ} {s : Nat} (hP : pzok P) (hs : s < 4) : outC P s < 6 := by
  rcases side4 hs with z | z | z | z <;> subst z
  · exact opp_lt hP.2.1
  · exact hP.1
  · exact hP.2.1
  · exact opp_lt hP.1
theorem int_pt {P : PZ} {s : Nat} {a : Int32} (hP : pzok P) (hs : s < 4) (c : Nat) : (if a = 0 then pt (outC P s) c else if a = 1 then -pt P.2.2.1 c else if a = 2 then -pt (outC P s) c else pt P.2.2.1 c) = pt (intC P s a) c := by
  unfold intC
  by_cases a0 : a = 0
  · rw [if_pos a0, if_pos a0]
  · rw [if_neg a0, if_neg a0]
    by_cases a1 : a = 1
    · rw [if_pos a1, if_pos a1, pt_opp hP.2.2.1]
    · rw [if_neg a1, if_neg a1]
      by_cases a2 : a = 2
      · rw [if_pos a2, if_pos a2, pt_opp (outC_lt hP hs)]
      · rw [if_neg a2, if_neg a2]
theorem nrm_pt {P : PZ} {s : Nat} {a : Int32} (hP : pzok P) (hs : s < 4) (c : Nat) : (if a = 0 then pt P.2.2.1 c else if a = 1 then pt (outC P s) c else if a = 2 then -pt P.2.2.1 c else -pt (outC P s) c) = pt (nrmC P s a) c := by
  unfold nrmC
  by_cases a0 : a = 0
  · rw [if_pos a0, if_pos a0]
  · rw [if_neg a0, if_neg a0]
    by_cases a1 : a = 1
    · rw [if_pos a1, if_pos a1]
    · rw [if_neg a1, if_neg a1]
      by_cases a2 : a = 2
      · rw [if_pos a2, if_pos a2, pt_opp hP.2.2.1]
      · rw [if_neg a2, if_neg a2, pt_opp (outC_lt hP hs)]
theorem intC_lt {P : PZ} {s : Nat} {a : Int32} (hP : pzok P) (hs : s < 4) : intC P s a < 6 := by
  unfold intC
  by_cases a0 : a = 0
  · rw [if_pos a0]; exact outC_lt hP hs
  · rw [if_neg a0]
    by_cases a1 : a = 1
    · rw [if_pos a1]; exact opp_lt hP.2.2.1
    · rw [if_neg a1]
      by_cases a2 : a = 2
      · rw [if_pos a2]; exact opp_lt (outC_lt hP hs)
      · rw [if_neg a2]; exact hP.2.2.1
theorem i32_rc (a b c : Int32) : a + b + c = a + c + b := by rw [Int32.add_assoc, Int32.add_comm b c, ← Int32.add_assoc]
theorem i32_0 (a : Int32) : a + 0 = a := Int32.add_zero a
theorem layHung_ok {m : Mm} {g : Vc} {an : Nat → Int32} {k : Nat} {K : Mm → Prop} (hr : rngD g) (h0 : 0 < k) (hk : k < pn g) (h : stR m g) (hf : flatR m g (pn g)) (hP : ∀ j, j < k → pR m (poseF g an j) j 3) (hok : ∀ j, j < k → pzok (poseF g an j))
    (kk : ∀ m2, (∀ j, j < k + 1 → pR m2 (poseF g an j) j 3) → fr 439 443 m m2 → K m2) : wp_X12_layHung (nI k) (an k) m K := by
  have hp := hr.par
  have hp1 := hp.1
  obtain ⟨p, s, hpk, ep, hs, es, er⟩ := par_s hp h0 hk
  have epose := poseF_s (an := an) h0 (by omega) hpk ep hs es
  have okp := hok p hpk
  unfold wp_X12_layHung
  refine ⟨sof0 (by omega), ?_⟩
  rintro y2 rfl
  refine ⟨sof1 (by omega), ?_⟩
  rintro y4 rfl y6 e6
  rw [of0 h (by omega), of1 h (by omega), ep, es]
  rw [of1 h (by omega), es] at e6
  have hlev : y6 = if s = 0 ∨ s = 2 then (1 : Int32) else 0 := by
    rw [e6]
    rcases side4 hs with z | z | z | z <;> subst z <;> rfl
  refine loop_i (W := fun n i m => wp_X12_layHung_l32 K (nI k) (an k) (nI p) (nI s) y6 n (nI i) m) (I := fun i s2 => (∀ j, j < k → pR s2 (poseF g an j) j 3) ∧ pR s2 (poseF g an k) k i ∧ fr 439 443 m s2) 3 ?_ ?_ FU 0 m (by omega) (FU_gt (by omega)) ⟨hP, fun c hc => by omega, fr_refl _ _ _⟩
  · rintro n s2 ⟨i1, i2, i3⟩
    show wb_X12_layHung_l32 _ _ _ _ _ _ _ _ _
    unfold wb_X12_layHung_l32
    rw [if_pos (show (3 : Int32) ≤ nI 3 from ile (a := 3) (by omega) (by omega))]
    refine kk s2 (fun j hj => ?_) i3
    rcases Nat.lt_or_ge j k with q | q
    · exact i1 j q
    · rw [show j = k by omega]; exact i2
  · rintro n c m2 hc ⟨i1, i2, i3⟩ k2
    show wb_X12_layHung_l32 _ _ _ _ _ _ _ _ _
    unfold wb_X12_layHung_l32
    have h2 : stR m2 g := stR_fr h i3 (by omega)
    obtain ⟨q1, q2, q3, q4⟩ := i1 p hpk c hc
    obtain ⟨f1, f2, f3, f4⟩ := hf p (by omega)
    have ea : (3 : Int32) * nI p + nI c = nI (3 * p + c) := by rw [show (3 : Int32) = nI 3 from rfl, nI_mul, nI_add]
    have eb : (3 : Int32) * nI k + nI c = nI (3 * k + c) := by rw [show (3 : Int32) = nI 3 from rfl, nI_mul, nI_add]
    rw [if_neg (show ¬ (3 : Int32) ≤ nI c from inle (a := 3) hc (by omega)), ea, eb, clamp_nI (show 3 * p + c < 2 ^ 31 by omega), clamp_nI (show 3 * k + c < 2 ^ 31 by omega), q2, q3, q4]
    refine ⟨vp_in_nI (by omega) (by omega), ?_⟩
    rintro y9 rfl y10 rfl y11 rfl y15 e15 y19 e19 y23 e23
    rw [out_pt okp hs c] at e15
    subst e15
    rw [int_pt okp hs c] at e19
    rw [nrm_pt okp hs c] at e23
    refine ⟨vp_in_nI (by omega) (by omega), ?_⟩
    rintro m25 h25 y28 e28 m29 h29 y32 e32 m33 h33
    have F33 : ∀ b, b ≠ 440 → b ≠ 441 → b ≠ 442 → m33.1 b = m2.1 b := fun b z1 z2 z3 => by
      funext j
      rw [h33, wI_ne _ _ _ _ z2, h29, wI_ne _ _ _ _ z1, h25, wI_ne _ _ _ _ z3]
    have h33st : stR m33 g := fun i hi => by rw [F33 427 (by omega) (by omega) (by omega)]; exact h2 i hi
    refine ⟨sof2 (by omega), ?_⟩
    rintro y36 e36 y37 e37
    rw [F33 439 (by omega) (by omega) (by omega), q1, of2 h33st (by omega)] at e37
    refine ⟨⟨fun _ _ => vp_in_nI (by omega) (by omega), fun _ => vp_in_nI (by omega) (by omega)⟩, ?_⟩
    rintro y43 e43 y44 e44
    rw [clamp_nI (show p < 2 ^ 31 by omega), F33 434 (by omega) (by omega) (by omega), F33 435 (by omega) (by omega) (by omega), i3 434 (by omega), i3 435 (by omega), f3, f4] at e43
    refine ⟨⟨fun _ => sof4 (by omega), fun _ _ => sof4 (by omega)⟩, ?_⟩
    rintro y50 e50 m51 h51
    rw [of4 h33st (by omega)] at e50
    have hF : fr 439 443 m m51 := by
      rw [h51]
      refine fr_wI ?_ (by omega) (by omega)
      rw [h33]
      refine fr_wI ?_ (by omega) (by omega)
      rw [h29]
      refine fr_wI ?_ (by omega) (by omega)
      rw [h25]
      exact fr_wI i3 (by omega) (by omega)
    have hO : ∀ b j, j ≠ 3 * k + c → m51.1 b j = m2.1 b j := fun b j hj => by
      rw [h51, wI_nj _ _ _ _ hj, h33, wI_nj _ _ _ _ hj, h29, wI_nj _ _ _ _ hj, h25, wI_nj _ _ _ _ hj]
    rw [nI_1]
    refine k2 _ ⟨fun j hj => pR_congr (i1 j hj) (fun b i _ _ z1 z2 => hO b i (by omega)), fun c' hc' => ?_, hF⟩
    rcases Nat.lt_or_ge c' c with z | z
    · exact pR_congr i2 (fun b i _ _ z1 z2 => hO b i (by omega)) c' z
    · have ec : c' = c := by omega
      rw [ec, epose]
      have w439 : m51.1 439 (3 * k + c) = y50 := by rw [h51, wI_same]
      have w441 : m51.1 441 (3 * k + c) = y32 := by rw [h51, wI_ne _ _ _ _ (by omega), h33, wI_same]
      have w440 : m51.1 440 (3 * k + c) = y28 := by rw [h51, wI_ne _ _ _ _ (by omega), h33, wI_ne _ _ _ _ (by omega), h29, wI_same]
      have w442 : m51.1 442 (3 * k + c) = y23 := by rw [h51, wI_ne _ _ _ _ (by omega), h33, wI_ne _ _ _ _ (by omega), h29, wI_ne _ _ _ _ (by omega), h25, wI_same]
      rw [w439, w440, w441, w442, e23, e50, e44, e43, e37, e36, e28, e32, e19, hlev]
      have il := intC_lt (a := an k) okp hs
      unfold hungP
      rcases side4 hs with z | z | z | z <;> subst z
      · refine ⟨?_, rfl, (pt_opp il c).symm, rfl⟩
        show _ + _ * _ + 0 + _ = _ + 0 + _ * _ + _
        rw [i32_0, i32_0]; rfl
      · refine ⟨?_, rfl, rfl, rfl⟩
        show _ + _ * _ + _ = _ + _ + _ * _ + 0
        rw [i32_0, i32_rc]; rfl
      · refine ⟨?_, rfl, rfl, rfl⟩
        show _ + _ * _ + _ = _ + _ + _ * _ + 0
        rw [i32_0, i32_rc]; rfl
      · refine ⟨?_, (pt_opp il c).symm, rfl, rfl⟩
        show _ + _ * _ + 0 + _ = _ + 0 + _ * _ + _
        rw [i32_0, i32_0]; rfl
