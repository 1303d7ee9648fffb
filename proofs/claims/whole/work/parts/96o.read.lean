/-! load: the class's reader, byte by byte -/
theorem fail_ok0 {m0 m : Mm} {R : PRs} {x : Int32} {p : Nat} {K : Mm → Prop} (hf : frRd m0 m) (h1 : R.1 = x) (h0 : ¬ x = 0) (h2 : R.2.1 = p) (kk : ∀ m2, CF m0 m2 R → K m2) : wp_X9_fail x (nI p) m K := by
  unfold wp_X9_fail
  rintro m1 rfl m2 rfl
  refine kk _ ⟨?_, by rw [h1]; exact h0, ?_, fun b hb => ?_⟩
  · rw [wI_nj _ _ _ _ (by omega), wI_same, h1]
  · rw [wI_same, h2]
  · rw [← hf b hb]; funext j; rw [wI_ne _ _ _ _ (by omega), wI_ne _ _ _ _ (by omega)]
/-- between two bytes: a token's start, or within a number -/
def RI (tx : Nat → Int32) (L : Nat) (R : PRs) (g0 : Vc) (m0 : Mm) (a : Nat) (m : Mm) : Prop :=
  CF m0 m R ∨ ∃ e c k nu g it, a ≤ e ∧ (∀ i, a ≤ i → i < e → dgt (tx i)) ∧ (a < e → 0 < a ∧ isN (tx (a - 1))) ∧ (0 < e → isN (tx (e - 1)) → ¬ dgt (tx e)) ∧ PS tx L R e c k nu g it ∧ CS m0 m g c k nu it ∧ Dd g ∧ ∀ j, 125 ≤ j → g j = g0 j
theorem CS_6 {m0 m : Mm} {g : Vc} {c : Int32} {k : Nat} {nu : Nat → Int32} {it : Nat} (x : Int32) (hn : pn g ≤ 10) (h : CS m0 m g c k nu it) : CS m0 (wI m 242 6 x) g c k nu it := by
  obtain ⟨s1, s2, s3, s4, s5, s6⟩ := h
  refine ⟨?_, ?_, ?_, fun hc => ?_, ?_, fun b hb => ?_⟩
  · rw [wI_nj _ _ _ _ (by omega)]; exact s1
  · rw [wI_nj _ _ _ _ (by omega)]; exact s2
  · rw [wI_nj _ _ _ _ (by omega)]; exact s3
  · obtain ⟨t1, t2, t3, t4⟩ := s4 hc
    refine ⟨by rw [wI_nj _ _ _ _ (by omega)]; exact t1, fun j hj => ?_, t3, t4⟩
    rw [wI_ne _ _ _ _ (by omega)]; exact t2 j hj
  · refine desR_congr hn s5 (fun b b1 b2 => ?_)
    funext j; rw [wI_ne _ _ _ _ (by omega)]
  · rw [← s6 b hb]; funext j; rw [wI_ne _ _ _ _ (by omega)]
theorem CF_6 {m0 m : Mm} {R : PRs} (x : Int32) (h : CF m0 m R) : CF m0 (wI m 242 6 x) R := by
  obtain ⟨s1, s2, s3, s4⟩ := h
  refine ⟨?_, s2, ?_, fun b hb => ?_⟩
  · rw [wI_nj _ _ _ _ (by omega)]; exact s1
  · rw [wI_nj _ _ _ _ (by omega)]; exact s3
  · rw [← s4 b hb]; funext j; rw [wI_ne _ _ _ _ (by omega)]
theorem RI_tok {tx : Nat → Int32} {L : Nat} {R : PRs} {g0 : Vc} {m0 m : Mm} {a : Nat} {c : Int32} {k : Nat} {nu : Nat → Int32} {g : Vc} {it : Nat} (hP : PS tx L R (a + 1) c k nu g it) (hC : CS m0 m g c k nu it) (hD : Dd g) (hh : ∀ j, 125 ≤ j → g j = g0 j) (hn : ¬ isN (tx a)) : RI tx L R g0 m0 (a + 1) m :=
  Or.inr ⟨a + 1, c, k, nu, g, it, Nat.le_refl _, fun i h1 h2 => by omega, fun h => by omega, fun _ h => absurd h hn, hP, hC, hD, hh⟩
theorem bnum_ok {m0 m : Mm} {tx : Nat → Int32} {L : Nat} {R : PRs} {g0 : Vc} {p : Nat} {c : Int32} {k : Nat} {nu : Nat → Int32} {g : Vc} {it : Nat} {K : Mm → Prop} (ht : tOK tx L) (hm : ∀ i, i < L → m0.1 241 i = tx i) (hp : p < L) (hN : isN (tx p)) (hP : PS tx L R p c k nu g it) (hC : CS m0 m g c k nu it) (hD : Dd g) (hh : ∀ j, 125 ≤ j → g j = g0 j) (h6 : m.1 242 6 = 0)
    (k1 : ∀ m2, m2.1 242 6 = 0 → RI tx L R g0 m0 (p + 1) m2 → K m2) : wp_X9_takeNumber (nI L) (nI p) m K := by
  obtain ⟨a1, a2, a3, a4, a5, a6⟩ := nE_ok ht.1 ht.2.1 hp
  refine tnum_ok hD.ple ht (fun i hi => ?_) hp hN hP hC h6 (fun m2 h w => k1 m2 w (Or.inl h)) (fun m2 nu2 h1 h2 h3 h4 => k1 m2 h3 (Or.inr ⟨nE tx p, c, k + 1, nu2, g, it, h4, fun i i1 i2 => ?_, fun h => ⟨by omega, ?_⟩, fun _ _ => a3, h1, h2, hD, hh⟩))
  · rw [hC.2.2.2.2.2 241 (by omega)]; exact hm i hi
  · refine a2 i ?_ i2
    unfold nF; split <;> omega
  · exact hN
theorem takeByte_ok {m0 m : Mm} {tx : Nat → Int32} {L : Nat} {R : PRs} {g0 : Vc} {p e : Nat} {c : Int32} {k : Nat} {nu : Nat → Int32} {g : Vc} {it : Nat} {K : Mm → Prop} (ht : tOK tx L) (hm : ∀ i, i < L → m0.1 241 i = tx i) (hp : p < L)
    (he : p ≤ e) (hd : ∀ i, p ≤ i → i < e → dgt (tx i)) (hb : p < e → 0 < p ∧ isN (tx (p - 1))) (hbe : 0 < e → isN (tx (e - 1)) → ¬ dgt (tx e)) (hP : PS tx L R e c k nu g it) (hC : CS m0 m g c k nu it) (hD : Dd g) (hh : ∀ j, 125 ≤ j → g j = g0 j) (h6 : m.1 242 6 = 0)
    (k1 : ∀ m2, m2.1 242 6 = 0 → RI tx L R g0 m0 (p + 1) m2 → K m2)
    (k2 : ∀ m2, m2.1 242 6 = 1 → tx p = 59 → PS tx L R p c k nu g it → ¬ (c = 0 ∨ k < nof c) → CS m0 m2 g c k nu it → K m2) : wp_X9_takeByte (nI L) (nI p) m K := by
  have hL := ht.1
  have em : ∀ i, i < L → m.1 241 i = tx i := fun i hi => by rw [hC.2.2.2.2.2 241 (by omega)]; exact hm i hi
  have hfr : frRd m0 m := hC.2.2.2.2.2
  unfold wp_X9_takeByte
  rw [if_neg (show ¬ nI p < (0 : Int32) from inlt (i := 0) (by omega) (by omega)), if_pos (show nI p < (160 : Int32) from ilt (i := 160) (by omega) (by omega)), clamp_nI (by omega), em p hp]
  rintro y2 rfl
  by_cases hlt : p < e
  · -- within a number
    have hdp := hd p (Nat.le_refl _) hlt
    obtain ⟨b1, b2⟩ := hb hlt
    have h45 : ¬ tx p = 45 := fun z => by
      rw [z] at hdp
      have a1 : (45 : Int32).toInt = 45 := rfl
      omega
    rw [if_neg (fun w => (c_dgt _).mp w hdp)]
    unfold wp_X9_takeByte_j31
    have e1 : nI p - 1 = nI (p - 1) := by
      obtain ⟨q, rfl⟩ : ∃ q, p = q + 1 := ⟨p - 1, by omega⟩
      rw [← nI_1, Nat.add_sub_cancel]; exact Int32.add_sub_cancel _ _
    rw [e1, clamp_nI (by omega), em (p - 1) (by omega)]
    refine ⟨fun _ => vp_in_nI (by omega) (by omega), ?_⟩
    rintro y9 rfl
    rw [if_neg h45, if_neg (show ¬ nI p ≤ (0 : Int32) from inle (i := 0) (by omega) (by omega))]
    have ey : ¬ (if v_X9_isDigit (tx (p - 1)) = (0 : Int32) then (if tx (p - 1) = (45 : Int32) then (1 : Int32) else (0 : Int32)) else (1 : Int32)) = 0 := by
      by_cases z : dgt (tx (p - 1))
      · rw [if_neg (fun w => (c_dgt _).mp w z)]; decide
      · rw [if_pos ((c_dgt _).mpr z), if_pos (b2.resolve_left z)]; decide
    rw [if_neg ey]
    exact k1 _ h6 (Or.inr ⟨e, c, k, nu, g, it, by omega, fun i h1 h2 => hd i (by omega) h2, fun _ => ⟨by omega, Or.inl hdp⟩, hbe, hP, hC, hD, hh⟩)
  · have ee : e = p := by omega
    subst ee
    have j20 : isN (tx e) → wp_X9_takeByte_j31 K (nI L) (nI e) (tx e) m := fun hN => by
      unfold wp_X9_takeByte_j31
      refine ⟨fun z => ?_, fun y9 hy => ?_⟩
      · have z0 : 0 < e := Decidable.byContradiction fun q => z (ile (i := 0) (by omega) (by omega))
        obtain ⟨q, rfl⟩ : ∃ q, e = q + 1 := ⟨e - 1, by omega⟩
        rw [← nI_1, show nI q + 1 - 1 = nI q from Int32.add_sub_cancel _ _]
        exact vp_in_nI (by omega) (by omega)
      · have T : wp_X9_takeByte_j75 K (nI L) (nI e) m := bnum_ok ht hm hp hN hP hC hD hh h6 k1
        by_cases h45 : tx e = 45
        · rw [if_pos h45]; exact T
        · rw [if_neg h45]
          have hdp : dgt (tx e) := hN.resolve_right h45
          have ey : y9 = 0 := by
            rw [hy]
            by_cases z0 : e = 0
            · rw [z0]; exact if_pos (by decide)
            · obtain ⟨q, rfl⟩ : ∃ q, e = q + 1 := ⟨e - 1, by omega⟩
              have e1 : nI (q + 1) - 1 = nI q := by rw [← nI_1]; exact Int32.add_sub_cancel _ _
              rw [if_neg (show ¬ nI (q + 1) ≤ (0 : Int32) from inle (i := 0) (by omega) (by omega)), e1, clamp_nI (by omega), em q (by omega)]
              have nn : ¬ isN (tx q) := fun w => hbe (by omega) w hdp
              rw [if_pos ((c_dgt _).mpr (fun w => nn (Or.inl w))), if_neg (fun w => nn (Or.inr w))]
          rw [if_pos ey]; exact T
    by_cases hdp : dgt (tx e)
    · rw [if_neg (fun w => (c_dgt _).mp w hdp)]
      exact j20 (Or.inl hdp)
    rw [if_pos ((c_dgt _).mpr hdp)]
    by_cases h45 : tx e = 45
    · rw [if_pos h45]; exact j20 (Or.inr h45)
    rw [if_neg h45]
    have nN : ¬ isN (tx e) := fun w => w.elim hdp h45
    by_cases h59 : tx e = 59
    · rw [if_pos h59]
      unfold wp_X9_endItem
      rintro y3 hy3 m4 h4
      rw [hC.2.2.1] at hy3
      have C4 : CS m0 m4 g c k nu it := by rw [h4]; exact CS_6 _ hD.ple hC
      have e4 : m4.1 242 6 = y3 := by rw [h4, wI_same]
      rw [e4]
      by_cases c0 : c = 0
      · rw [if_pos c0] at hy3
        rw [if_pos hy3]
        have hR := PS_few hP hp h59 (Or.inl c0)
        exact fail_ok C4.2.2.2.2.2 (by rw [hR]) (by decide) (by rw [hR]) (by rw [e4, hy3]) (fun m2 h w => k1 m2 w (Or.inl h))
      · obtain ⟨t1, t2, t3, t4⟩ := hC.2.2.2.1 c0
        rw [if_neg c0, t1, c_nof] at hy3
        have h7 := nof_le c
        by_cases hk : k < nof c
        · rw [if_pos (ilt hk (by omega))] at hy3
          rw [if_pos hy3]
          have hR := PS_few hP hp h59 (Or.inr hk)
          exact fail_ok C4.2.2.2.2.2 (by rw [hR]) (by decide) (by rw [hR]) (by rw [e4, hy3]) (fun m2 h w => k1 m2 w (Or.inl h))
        · rw [if_neg (inlt (by omega) (by omega))] at hy3
          rw [if_neg (show ¬ y3 = 0 by rw [hy3]; decide)]
          exact k2 m4 (by rw [e4, hy3]) h59 hP (fun w => w.elim c0 hk) C4
    rw [if_neg h59, c_nof]
    have h7 := nof_le (tx e)
    by_cases n0 : nof (tx e) = 0
    · rw [if_pos (show nI (nof (tx e)) ≤ (0 : Int32) by rw [n0]; decide)]
      by_cases h32 : tx e = 32
      · rw [if_pos h32]
        exact k1 m h6 (RI_tok (PS_sp hP hp h32) hC hD hh nN)
      · rw [if_neg h32]
        have hR := PS_odd hP hp h32 nN h59 n0
        exact fail_ok hfr (by rw [hR]) (by decide) (by rw [hR]) h6 (fun m2 h w => k1 m2 w (Or.inl h))
    · rw [if_neg (show ¬ nI (nof (tx e)) ≤ (0 : Int32) from inle (i := 0) (by omega) (by omega))]
      unfold wp_X9_beginItem
      rw [hC.2.2.1]
      by_cases c0 : c = 0
      · rw [if_pos c0]
        rintro m2 rfl m3 rfl
        obtain ⟨s1, s2, s3, s4, s5, s6⟩ := hC
        refine k1 _ ?_ (RI_tok (PS_let hP hp n0 c0) ⟨?_, ?_, ?_, fun _ => ⟨?_, fun j hj => by omega, by omega, n0⟩, ?_, fun b hb => ?_⟩ hD hh nN)
        · rw [wI_nj _ _ _ _ (by omega), wI_nj _ _ _ _ (by omega)]; exact h6
        · rw [wI_nj _ _ _ _ (by omega), wI_nj _ _ _ _ (by omega)]; exact s1
        · rw [wI_nj _ _ _ _ (by omega), wI_nj _ _ _ _ (by omega)]; exact s2
        · rw [wI_nj _ _ _ _ (by omega), wI_same]
        · rw [wI_same]; rfl
        · refine desR_congr hD.ple s5 (fun b b1 b2 => ?_)
          funext j; rw [wI_ne _ _ _ _ (by omega), wI_ne _ _ _ _ (by omega)]
        · rw [← hfr b hb]; funext j; rw [wI_ne _ _ _ _ (by omega), wI_ne _ _ _ _ (by omega)]
      · rw [if_neg c0]
        have hR := PS_two hP hp n0 c0
        exact fail_ok hfr (by rw [hR]) (by decide) (by rw [hR]) h6 (fun m2 h w => k1 m2 w (Or.inl h))
/-- what the reader leaves -/
def CO (m0 m : Mm) (R : PRs) (g0 : Vc) : Prop := m.1 242 1 = R.1 ∧ frRd m0 m ∧ (R.1 = 0 → desR m.1 243 R.2.2.2 ∧ Dd R.2.2.2 ∧ ∀ j, 125 ≤ j → R.2.2.2 j = g0 j)
abbrev yR (R : PRs) : Int32 := if R.1 = 0 then nI R.2.2.1 else -10 - nI R.2.1
theorem j125_F {m0 m : Mm} {R : PRs} {g0 : Vc} {K : Int32 → Mm → Prop} (h : CF m0 m R) (kk : ∀ m2, CO m0 m2 R g0 → K (yR R) m2) : wp_X9_read_j125 K m := by
  unfold wp_X9_read_j125
  rintro y rfl
  obtain ⟨h1, h2, h3, h4⟩ := h
  have e : (if m.1 242 1 = (0 : Int32) then m.1 242 3 else (-10 : Int32) - m.1 242 2) = yR R := by
    unfold yR
    rw [if_neg h2, if_neg (by rw [h1]; exact h2), h3]
  rw [e]
  exact kk m ⟨h1, h4, fun z => absurd z h2⟩
theorem read_end {m0 m : Mm} {tx : Nat → Int32} {L : Nat} {R : PRs} {g0 : Vc} {K : Int32 → Mm → Prop} (h : CF m0 m R ∨ RI tx L R g0 m0 L m) (kk : ∀ m2, CO m0 m2 R g0 → K (yR R) m2) :
    if (m.1 242 1) = (0 : Int32) then (if (m.1 242 4) = (0 : Int32) then (wp_X9_read_j125 K m) else (wp_X9_fail (2 : Int32) (nI L) m (fun m24 => wp_X9_read_j125 K m24))) else (wp_X9_read_j125 K m) := by
  have h' : RI tx L R g0 m0 L m := h.elim Or.inl id
  rcases h' with h' | ⟨e, c, k, nu, g, it, e1, -, -, -, hP, hC, hD, hh⟩
  · rw [if_neg (show ¬ m.1 242 1 = 0 by rw [h'.1]; exact h'.2.1)]
    exact j125_F h' kk
  · have ee : e = L := by
      obtain ⟨_, _, z, _⟩ := hP
      omega
    subst ee
    have hR := PS_end hP
    rw [if_pos hC.1, hC.2.2.1]
    by_cases c0 : c = 0
    · rw [if_pos c0] at hR ⊢
      unfold wp_X9_read_j125
      rintro y rfl
      rw [if_pos hC.1, hC.2.1]
      have := kk m ⟨by rw [hR]; exact hC.1, hC.2.2.2.2.2, fun _ => by rw [hR]; exact ⟨hC.2.2.2.2.1, hD, hh⟩⟩
      rw [hR] at this
      exact this
    · rw [if_neg c0] at hR ⊢
      exact fail_ok0 hC.2.2.2.2.2 (by rw [hR]) (by decide) (by rw [hR]) (fun m2 h => j125_F h kk)
theorem read_ok {m : Mm} {tx : Nat → Int32} {L : Nat} {R : PRs} {g0 : Vc} {K : Int32 → Mm → Prop} (ht : tOK tx L) (hm : ∀ i, i < L → m.1 241 i = tx i) (hP : PS tx L R 0 0 0 (fun _ => 0) (gE g0) 0) (kk : ∀ m2, CO m m2 R g0 → K (yR R) m2) : wp_X9_read (nI L) m K := by
  have hL := ht.1
  unfold wp_X9_read
  refine empty_ok (g := g0) (fun m1 d1 f1 => ?_)
  rintro m2 rfl m3 rfl m4 h4
  refine loop_a (wp := fun n i q => wp_X9_read_l24 _ K (nI L) n i q) (I := fun a m' => RI tx L R g0 m a m') (a := 0) (N := L) (by omega) (by omega) (fun n i m' h1 h2 hI => ?_) (fun n i m' h1 h2 hI k2 => ?_) (Or.inr ⟨0, 0, 0, fun _ => 0, gE g0, 0, by omega, fun i h1 h2 => by omega, fun h => by omega, fun h => by omega, hP, ⟨?_, ?_, ?_, fun h => absurd rfl h, ?_, fun b hb => ?_⟩, gE_Dd g0, fun j hj => gE_hi hj⟩)
  · have ei : i = L := by omega
    subst ei
    show wb_X9_read_l24 _ _ _ _ _ _
    unfold wb_X9_read_l24
    rw [if_pos (ile (by omega) (by omega))]
    exact read_end (Or.inr hI) kk
  · show wb_X9_read_l24 _ _ _ _ _ _
    unfold wb_X9_read_l24
    rw [if_neg (inle (by omega) (by omega)), if_neg (show ¬ (160 : Int32) ≤ nI i from inle (a := 160) (by omega) (by omega))]
    rcases hI with hF | ⟨e, c, k, nu, g, it, e1, e2, e3, e4, hP, hC, hD, hh⟩
    · rw [if_neg (show ¬ m'.1 242 1 = 0 by rw [hF.1]; exact hF.2.1)]
      exact read_end (tx := tx) (L := L) (Or.inl hF) kk
    · rw [if_pos hC.1]
      rintro m8 rfl
      refine takeByte_ok ht hm h2 e1 e2 e3 e4 hP (CS_6 0 hD.ple hC) hD hh (wI_same _ _ _ _) (fun m9 h6 hI => ?_) (fun m9 h6 h59 hP hk hC => ?_)
      · rw [if_pos h6]
        unfold wp_X9_read_j77
        rw [if_pos h6]
        exact k2 _ hI
      · have c0 : ¬ c = 0 := fun z => hk (Or.inl z)
        obtain ⟨t1, t2, t3, t4⟩ := hC.2.2.2.1 c0
        rw [if_neg (show ¬ m9.1 242 6 = 0 by rw [h6]; decide)]
        have nN : ¬ isN (tx i) := fun w => n59 w h59
        refine ccarry_ok hD hC.2.2.2.2.1 hC.2.2.1 t4 (fun j hj => t2 j (by omega)) (fun ho m14 f => ?_) (fun g2 ho m14 d14 f => ?_)
        · rw [if_pos rfl]
          have hR := PS_no hP h2 h59 hk ho
          refine fail_ok0 (m0 := m) (fun b hb => ?_) (by rw [hR]) (by decide) (by rw [hR]) (fun m17 hF => k2 _ (Or.inl hF))
          rw [f b (by omega)]; exact hC.2.2.2.2.2 b hb
        · obtain ⟨G1, G2⟩ := co_good hD t4 ho
          rw [if_neg (show ¬ (1 : Int32) = 0 by decide)]
          unfold wp_X9_read_j77
          have e14 : m14.1 242 = m9.1 242 := f 242 (by omega)
          rw [if_neg (show ¬ m14.1 242 6 = 0 by rw [e14, h6]; decide)]
          rintro m12 rfl m13 rfl
          obtain ⟨s1, s2, s3, s4, s5, s6⟩ := hC
          refine k2 _ (RI_tok (PS_do hP h2 h59 hk ho) ⟨?_, ?_, ?_, fun h => absurd rfl h, ?_, fun b hb => ?_⟩ G1 (fun j hj => by rw [G2 j hj]; exact hh j hj) nN)
          · rw [wI_nj _ _ _ _ (by omega), wI_nj _ _ _ _ (by omega), e14]; exact s1
          · rw [wI_same, wI_nj _ _ _ _ (by omega), e14, s2, nI_1]
          · rw [wI_nj _ _ _ _ (by omega), wI_same]
          · refine desR_congr G1.ple d14 (fun b b1 b2 => ?_)
            funext j; rw [wI_ne _ _ _ _ (by omega), wI_ne _ _ _ _ (by omega)]
          · rw [← s6 b hb, ← f b (by omega)]; funext j; rw [wI_ne _ _ _ _ (by omega), wI_ne _ _ _ _ (by omega)]
  · rw [h4, wI_nj _ _ _ _ (by omega), wI_nj _ _ _ _ (by omega), wI_same]
  · rw [h4, wI_nj _ _ _ _ (by omega), wI_same]; rfl
  · rw [h4, wI_same]
  · refine desR_congr (gE_Dd g0).ple d1 (fun b b1 b2 => ?_)
    funext j; rw [h4, wI_ne _ _ _ _ (by omega), wI_ne _ _ _ _ (by omega), wI_ne _ _ _ _ (by omega)]
  · rw [← f1 b (by omega)]; funext j; rw [h4, wI_ne _ _ _ _ (by omega), wI_ne _ _ _ _ (by omega), wI_ne _ _ _ _ (by omega)]
