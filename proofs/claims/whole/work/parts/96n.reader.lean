/-! load: the class's reader -/
def gE (g : Vc) : Vc := vset (vset (fun k => if k < 125 then 0 else g k) 0 200) 1 200
theorem gE_hi {g : Vc} {k : Nat} (h : 125 ≤ k) : gE g k = g k := by unfold gE; rw [vset_ne _ _ (by omega), vset_ne _ _ (by omega), if_neg (by omega)]
theorem gE_lo {g : Vc} {k : Nat} (h : 2 ≤ k) (h2 : k < 125) : gE g k = 0 := by unfold gE; rw [vset_ne _ _ (by omega), vset_ne _ _ (by omega), if_pos h2]
theorem gE_pn (g : Vc) : pn (gE g) = 0 := by unfold pn; rw [gE_lo (by omega) (by omega)]; rfl
theorem gE_Dd (g : Vc) : Dd (gE g) := by
  have e0 : gE g 0 = 200 := rfl
  have e1 : gE g 1 = 200 := rfl
  have a2 : (200 : Int32).toInt = 200 := rfl
  have a0 : (0 : Int32).toInt = 0 := rfl
  refine ⟨⟨?_, ?_, ⟨0, by omega, gE_lo (by omega) (by omega)⟩, fun i hi => ?_, fun h => ?_, fun k hk => ?_, fun k h0 hk => ?_⟩, fun k hk => ?_⟩
  · rw [e0]; exact ⟨by omega, by omega⟩
  · rw [e1]; exact ⟨by omega, by omega⟩
  · rw [gE_lo (by omega) (by omega), gE_lo (by omega) (by omega)]; exact ⟨⟨by omega, by omega⟩, ⟨by omega, by omega⟩, Iff.rfl⟩
  · rw [gE_pn] at h; omega
  · rw [gE_pn] at hk; omega
  · rw [gE_pn] at hk; omega
  · rw [gE_pn] at hk; omega
theorem empty_ok {d : Nat} {m : Mm} {g : Vc} {K : Mm → Prop} (kk : ∀ m2, desR m2.1 d (gE g) → frD d m m2 → K m2) : wp_X3_empty d m K := by
  unfold wp_X3_empty
  rintro m1 rfl m2 rfl m3 rfl
  refine loop_a (wp := fun n i q => wp_X3_empty_l21 K d n i q) (I := fun i m' => m'.1 d = (wI (wI (wI m d 2 200) d 3 200) d 4 0).1 d ∧ (∀ j, j < i → m'.1 (d + 1) j = 0 ∧ m'.1 (d + 2) j = 0) ∧ frD d m m') (a := 0) (N := 4) (by omega) (by omega) (fun n i m' h1 h2 hI => ?_) (fun n i m' h1 h2 hI k1 => ?_) ⟨rfl, fun j hj => by omega, fun b hb => ?_⟩
  · obtain ⟨a1, a2, a3⟩ := hI
    show wb_X3_empty_l21 _ _ _ _ _
    unfold wb_X3_empty_l21
    rw [if_pos (show (4 : Int32) ≤ nI i from ile (a := 4) h1 (by omega))]
    refine kk _ ⟨?_, ?_, ?_, fun j hj => ?_, fun k hk => ?_⟩ a3
    · rw [a1, wI_nj _ _ _ _ (by omega), wI_nj _ _ _ _ (by omega), wI_same]; rfl
    · rw [a1, wI_nj _ _ _ _ (by omega), wI_same]; rfl
    · rw [a1, wI_same, gE_lo (by omega) (by omega)]
    · have := a2 j (by omega)
      rw [this.1, this.2, gE_lo (by omega) (by omega), gE_lo (by omega) (by omega)]
      exact ⟨rfl, rfl⟩
    · rw [gE_pn] at hk; omega
  · obtain ⟨a1, a2, a3⟩ := hI
    show wb_X3_empty_l21 _ _ _ _ _
    unfold wb_X3_empty_l21
    rw [if_neg (show ¬ (4 : Int32) ≤ nI i from inle (a := 4) h2 (by omega)), clamp_nI (by omega)]
    refine ⟨vp_in_nI h2 (by omega), ?_⟩
    rintro m6 rfl m7 rfl
    refine k1 _ ⟨?_, fun j hj => ?_, fun b hb => ?_⟩
    · rw [← a1]; funext j; rw [wI_ne _ _ _ _ (by omega), wI_ne _ _ _ _ (by omega)]
    · by_cases z : j = i
      · subst z
        rw [wI_ne _ _ _ _ (show d + 1 ≠ d + 2 by omega), wI_same, wI_same]; exact ⟨rfl, rfl⟩
      · rw [wI_nj _ _ _ _ z, wI_nj _ _ _ _ z, wI_nj _ _ _ _ z, wI_nj _ _ _ _ z]; exact a2 j (by omega)
    · rw [← a3 b hb]; funext j; rw [wI_ne _ _ _ _ (by omega), wI_ne _ _ _ _ (by omega)]
  · funext j
    rw [wI_ne _ _ _ _ (by omega), wI_ne _ _ _ _ (by omega), wI_ne _ _ _ _ (by omega)]
theorem c_nof (x : Int32) : v_X9_numbersOf x = nI (nof x) := by
  unfold v_X9_numbersOf nof
  by_cases c1 : x = 115
  · subst c1; decide
  by_cases c2 : x = 102
  · subst c2; decide
  by_cases c3 : x = 105
  · subst c3; decide
  by_cases c4 : x = 98
  · subst c4; decide
  by_cases c5 : x = 97
  · subst c5; decide
  by_cases c6 : x = 112
  · subst c6; decide
  simp only [if_neg c1, if_neg c2, if_neg c3, if_neg c4, if_neg c5, if_neg c6, ite_self]
  rfl
theorem r_nof (x : Int32) : v_X12_numbersOf x = nI (nof x) := by
  unfold v_X12_numbersOf nof
  by_cases c1 : x = 115
  · rw [if_pos c1, if_pos c1]; rfl
  by_cases c2 : x = 102
  · rw [if_neg c1, if_neg c1, if_pos c2, if_pos c2]; rfl
  by_cases c3 : x = 105
  · rw [if_neg c1, if_neg c1, if_neg c2, if_neg c2, if_pos c3, if_pos c3]; rfl
  by_cases c4 : x = 98
  · rw [if_neg c1, if_neg c1, if_neg c2, if_neg c2, if_neg c3, if_neg c3, if_pos c4, if_pos c4]; rfl
  by_cases c5 : x = 97
  · rw [if_neg c1, if_neg c1, if_neg c2, if_neg c2, if_neg c3, if_neg c3, if_neg c4, if_neg c4, if_pos c5, if_pos c5]; rfl
  by_cases c6 : x = 112
  · rw [if_neg c1, if_neg c1, if_neg c2, if_neg c2, if_neg c3, if_neg c3, if_neg c4, if_neg c4, if_neg c5, if_neg c5, if_pos c6, if_pos c6]; rfl
  rw [if_neg c1, if_neg c1, if_neg c2, if_neg c2, if_neg c3, if_neg c3, if_neg c4, if_neg c4, if_neg c5, if_neg c5, if_neg c6, if_neg c6]; rfl
theorem nof_le (x : Int32) : nof x ≤ 6 := by
  by_cases h : nof x = 0
  · omega
  · rcases nof_c h with z | z | z | z | z | z <;> subst z <;> decide
theorem c_dgt (x : Int32) : v_X9_isDigit x = 0 ↔ ¬ dgt x := by
  unfold v_X9_isDigit
  have a1 : (48 : Int32).toInt = 48 := rfl
  have a2 : (57 : Int32).toInt = 57 := rfl
  by_cases c1 : x < 48
  · rw [if_pos c1]; rw [fa_lt] at c1; exact ⟨fun _ h => by have := h.1; omega, fun _ => rfl⟩
  · rw [if_neg c1]
    rw [fa_lt] at c1
    by_cases c2 : 57 < x
    · rw [if_pos c2]; rw [fa_lt] at c2; exact ⟨fun _ h => by have := h.2; omega, fun _ => rfl⟩
    · rw [if_neg c2]; rw [fa_lt] at c2; exact ⟨fun z => absurd z (by decide), fun z => absurd ⟨by omega, by omega⟩ z⟩
/-- what the reader holds between two bytes -/
def CS (m0 m : Mm) (g : Vc) (c : Int32) (k : Nat) (nu : Nat → Int32) (it : Nat) : Prop :=
  m.1 242 1 = 0 ∧ m.1 242 3 = nI it ∧ m.1 242 4 = c ∧ (¬ c = 0 → m.1 242 5 = nI k ∧ (∀ j, j < k → m.1 258 j = nu j) ∧ k ≤ nof c ∧ ¬ nof c = 0) ∧ desR m.1 243 g ∧ ∀ b, b < 242 ∨ 259 ≤ b → m.1 b = m0.1 b
def frRd (m0 m : Mm) : Prop := ∀ b, b < 242 ∨ 259 ≤ b → m.1 b = m0.1 b
/-- a fault, as the reader writes it down -/
def CF (m0 m : Mm) (R : PRs) : Prop := m.1 242 1 = R.1 ∧ ¬ R.1 = 0 ∧ m.1 242 2 = nI R.2.1 ∧ frRd m0 m
theorem fail_ok {m0 m : Mm} {R : PRs} {x : Int32} {p : Nat} {K : Mm → Prop} (hf : frRd m0 m) (h1 : R.1 = x) (h0 : ¬ x = 0) (h2 : R.2.1 = p) (h6 : m.1 242 6 = 0) (kk : ∀ m2, CF m0 m2 R → m2.1 242 6 = 0 → K m2) : wp_X9_fail x (nI p) m K := by
  unfold wp_X9_fail
  rintro m1 rfl m2 rfl
  refine kk _ ⟨?_, by rw [h1]; exact h0, ?_, fun b hb => ?_⟩ ?_
  · rw [wI_nj _ _ _ _ (by omega), wI_same, h1]
  · rw [wI_same, h2]
  · rw [← hf b hb]; funext j; rw [wI_ne _ _ _ _ (by omega), wI_ne _ _ _ _ (by omega)]
  · rw [wI_nj _ _ _ _ (by omega), wI_nj _ _ _ _ (by omega)]; exact h6
/-- the text, as both sides hold it -/
def tOK (tx : Nat → Int32) (L : Nat) : Prop := L ≤ 160 ∧ (∀ i, L ≤ i → tx i = -9) ∧ ∀ i, i < L → inR (tx i) 0 127
theorem vF_s (tx : Nat → Int32) (f n : Nat) : vF tx f (n + 1) = 10 * vF tx f n + tx (f + n) - 48 := rfl
theorem tnum_end {m0 m : Mm} {tx : Nat → Int32} {L : Nat} {R : PRs} {p : Nat} {c : Int32} {k : Nat} {nu : Nat → Int32} {g : Vc} {it : Nat} {K : Mm → Prop} {x6 : Int32} (h10 : pn g ≤ 10) (hL : L ≤ 160) (hx : ∀ i, L ≤ i → tx i = -9) (hp : p < L) (hN : isN (tx p)) (hP : PS tx L R p c k nu g it) (hC : CS m0 m g c k nu it) (h6 : m.1 242 6 = 0) (hI2 : nE tx p - nF tx p ≤ 3 → x6 = vF tx (nF tx p) (nE tx p - nF tx p))
    (k0 : ∀ m2, CF m0 m2 R → m2.1 242 6 = 0 → K m2) (k1 : ∀ m2 nu2, PS tx L R (nE tx p) c (k + 1) nu2 g it → CS m0 m2 g c (k + 1) nu2 it → m2.1 242 6 = 0 → p < nE tx p → K m2) :
    if nI (nE tx p - nF tx p) = (0 : Int32) then (wp_X9_takeNumber_j115 K (nI p) m) else (if nI (nE tx p - nF tx p) ≤ (3 : Int32) then (if (m.1 242 4) = (0 : Int32) then (wp_X9_takeNumber_j157 K (nI p) m) else (if (v_X9_numbersOf (m.1 242 4)) ≤ (m.1 242 5) then (wp_X9_takeNumber_j157 K (nI p) m) else (if (m.1 242 5) < (6 : Int32) then (∀ y24 : Int32, y24 = (if (if tx p = 45 then (1 : Int32) else 0) = (0 : Int32) then x6 else (-x6)) → (vp_in (m.1 242 5) 6 ∧ (∀ m26 : Mm, m26 = wI m 258 ((m.1 242 5).toNatClampNeg) y24 → (∀ m27 : Mm, m27 = wI m26 242 5 ((m26.1 242 5) + (1 : Int32)) → (K m27))))) else (wp_X9_takeNumber_j157 K (nI p) m)))) else (wp_X9_takeNumber_j115 K (nI p) m)) := by
  obtain ⟨a1, a2, a3, a4, a5, a6⟩ := nE_ok hL hx hp
  obtain ⟨s1, s2, s3, s4, s5, s6⟩ := hC
  have hfr : frRd m0 m := s6
  by_cases hn : nOK tx p
  · rw [if_neg (show ¬ nI (nE tx p - nF tx p) = (0 : Int32) from ine (i := 0) (by omega) (by omega) (by omega)), if_pos (show nI (nE tx p - nF tx p) ≤ (3 : Int32) from ile (i := 3) (by omega) (by omega)), s3]
    by_cases c0 : c = 0
    · rw [if_pos c0]
      have hR := PS_many hP hp hN hn (Or.inl c0)
      exact fail_ok hfr (by rw [hR]) (by decide) (by rw [hR]) h6 k0
    · rw [if_neg c0]
      obtain ⟨t1, t2, t3, t4⟩ := s4 c0
      have h7 := nof_le c
      rw [t1, c_nof]
      by_cases c1 : nof c ≤ k
      · rw [if_pos (ile c1 (by omega))]
        have hR := PS_many hP hp hN hn (Or.inr c1)
        exact fail_ok hfr (by rw [hR]) (by decide) (by rw [hR]) h6 k0
      · rw [if_neg (inle (by omega) (by omega)), if_pos (show nI k < (6 : Int32) from ilt (i := 6) (by omega) (by omega)), clamp_nI (by omega)]
        rintro y24 rfl
        refine ⟨vp_in_nI (by omega) (by omega), ?_⟩
        rintro m26 rfl m27 rfl
        have ev : (if (if tx p = 45 then (1 : Int32) else 0) = (0 : Int32) then x6 else (-x6)) = nV tx p := by
          unfold nV
          rw [hI2 hn.2]
          by_cases z : tx p = 45
          · rw [if_pos z, if_pos z, if_neg (by decide)]
          · rw [if_neg z, if_neg z, if_pos rfl]
        rw [ev, wI_ne _ _ _ _ (show (242 : Nat) ≠ 258 by omega), t1, nI_1]
        refine k1 _ (fun j => if j = k then nV tx p else nu j) (PS_num hL hx hP hp hN hn (fun w => w.elim c0 c1)) ⟨?_, ?_, ?_, fun _ => ⟨wI_same _ _ _ _, fun j hj => ?_, by omega, t4⟩, ?_, fun b hb => ?_⟩ ?_ (by have := hn.1; omega)
        · rw [wI_nj _ _ _ _ (by omega), wI_ne _ _ _ _ (by omega)]; exact s1
        · rw [wI_nj _ _ _ _ (by omega), wI_ne _ _ _ _ (by omega)]; exact s2
        · rw [wI_nj _ _ _ _ (by omega), wI_ne _ _ _ _ (by omega)]; exact s3
        · rw [wI_ne _ _ _ _ (by omega), wI_get, if_pos rfl]
          show (if j = k then nV tx p else m.1 258 j) = if j = k then nV tx p else nu j
          by_cases z : j = k
          · rw [if_pos z, if_pos z]
          · rw [if_neg z, if_neg z]; exact t2 j (by omega)
        · refine desR_congr h10 s5 (fun b b1 b2 => ?_)
          funext j; rw [wI_ne _ _ _ _ (by omega), wI_ne _ _ _ _ (by omega)]
        · rw [← hfr b hb]; funext j; rw [wI_ne _ _ _ _ (by omega), wI_ne _ _ _ _ (by omega)]
        · rw [wI_nj _ _ _ _ (by omega), wI_ne _ _ _ _ (by omega)]; exact h6
  · have hR := PS_bad hP hp hN hn
    by_cases z : nE tx p - nF tx p = 0
    · rw [z, if_pos (show nI 0 = (0 : Int32) from rfl)]
      exact fail_ok hfr (by rw [hR]) (by decide) (by rw [hR]) h6 k0
    · rw [if_neg (show ¬ nI (nE tx p - nF tx p) = (0 : Int32) from ine (i := 0) (by omega) (by omega) (by omega)), if_neg (show ¬ nI (nE tx p - nF tx p) ≤ (3 : Int32) from inle (i := 3) (by omega) (by omega))]
      exact fail_ok hfr (by rw [hR]) (by decide) (by rw [hR]) h6 k0
theorem tnum_ok {m0 m : Mm} {tx : Nat → Int32} {L : Nat} {R : PRs} {p : Nat} {c : Int32} {k : Nat} {nu : Nat → Int32} {g : Vc} {it : Nat} {K : Mm → Prop} (h10 : pn g ≤ 10) (ht : tOK tx L) (hm : ∀ i, i < L → m.1 241 i = tx i) (hp : p < L) (hN : isN (tx p)) (hP : PS tx L R p c k nu g it) (hC : CS m0 m g c k nu it) (h6 : m.1 242 6 = 0)
    (k0 : ∀ m2, CF m0 m2 R → m2.1 242 6 = 0 → K m2) (k1 : ∀ m2 nu2, PS tx L R (nE tx p) c (k + 1) nu2 g it → CS m0 m2 g c (k + 1) nu2 it → m2.1 242 6 = 0 → p < nE tx p → K m2) : wp_X9_takeNumber (nI L) (nI p) m K := by
  obtain ⟨hL, hx, -⟩ := ht
  obtain ⟨a1, a2, a3, a4, a5, a6⟩ := nE_ok hL hx hp
  obtain ⟨s1, s2, s3, s4, s5, s6⟩ := hC
  have hfr : frRd m0 m := s6
  unfold wp_X9_takeNumber
  rw [if_neg (show ¬ nI p < (0 : Int32) from inlt (i := 0) (by omega) (by omega)), if_pos (show nI p < (160 : Int32) from ilt (i := 160) (by omega) (by omega)), clamp_nI (by omega), hm p hp]
  rintro y3 rfl y5 rfl
  have e5 : (if (if tx p = 45 then (1 : Int32) else 0) = 0 then nI p else nI p + 1) = nI (nF tx p) := by
    unfold nF
    by_cases z : tx p = 45
    · rw [if_pos z, if_pos z, if_neg (by decide), nI_1]
    · rw [if_neg z, if_neg z, if_pos rfl]
  rw [e5]
  refine loop_a (σ := Int32 × Int32) (wp := fun n i (q : Int32 × Int32) => wp_X9_takeNumber_l46 _ K (nI L) (nI p) (if tx p = 45 then (1 : Int32) else 0) n q.1 q.2 i m) (I := fun i (q : Int32 × Int32) => q.1 = nI (i - nF tx p) ∧ (i - nF tx p ≤ 3 → q.2 = vF tx (nF tx p) (i - nF tx p))) (a := nF tx p) (N := nE tx p) (by omega) (by omega) (fun n i q h1 h2 hI => ?_) (fun n i q h1 h2 hI k2 => ?_) (s0 := (0, 0)) ⟨by rw [Nat.sub_self]; rfl, fun _ => by rw [Nat.sub_self]; rfl⟩
  · have ei : i = nE tx p := by omega
    subst ei
    obtain ⟨x5, x6⟩ := q
    have hI1 : x5 = nI (nE tx p - nF tx p) := hI.1
    have hI2 : nE tx p - nF tx p ≤ 3 → x6 = vF tx (nF tx p) (nE tx p - nF tx p) := hI.2
    subst hI1
    show wb_X9_takeNumber_l46 _ _ _ _ _ _ _ _ _ _
    unfold wb_X9_takeNumber_l46
    by_cases z : L ≤ nE tx p
    · rw [if_pos (ile z (by omega))]; exact tnum_end h10 hL hx hp hN hP ⟨s1, s2, s3, s4, s5, s6⟩ h6 hI2 k0 k1
    · rw [if_neg (inle (by omega) (by omega)), if_neg (show ¬ (160 : Int32) ≤ nI (nE tx p) from inle (a := 160) (by omega) (by omega)), clamp_nI (by omega), hm _ (by omega), if_pos ((c_dgt _).mpr a3)]
      exact ⟨vp_in_nI (by omega) (by omega), tnum_end h10 hL hx hp hN hP ⟨s1, s2, s3, s4, s5, s6⟩ h6 hI2 k0 k1⟩
  · obtain ⟨x5, x6⟩ := q
    have hI1 : x5 = nI (i - nF tx p) := hI.1
    have hI2 : i - nF tx p ≤ 3 → x6 = vF tx (nF tx p) (i - nF tx p) := hI.2
    subst hI1
    have hd := a2 i h1 h2
    show wb_X9_takeNumber_l46 _ _ _ _ _ _ _ _ _ _
    unfold wb_X9_takeNumber_l46
    rw [if_neg (inle (by omega) (by omega)), if_neg (show ¬ (160 : Int32) ≤ nI i from inle (a := 160) (by omega) (by omega)), clamp_nI (by omega), hm _ (by omega), if_neg (fun w => (c_dgt _).mp w hd)]
    refine ⟨vp_in_nI (by omega) (by omega), ?_⟩
    rintro y11 hy
    have ey : y11 = if nI (i - nF tx p) + 1 ≤ (3 : Int32) then 10 * x6 + tx i - 48 else x6 := hy
    refine k2 (nI (i - nF tx p) + 1, y11) ⟨?_, fun h => ?_⟩
    · show nI (i - nF tx p) + 1 = _
      rw [nI_1, show i + 1 - nF tx p = i - nF tx p + 1 by omega]
    · show y11 = _
      rw [ey, nI_1, if_pos (show nI (i - nF tx p + 1) ≤ (3 : Int32) from ile (i := 3) (by omega) (by omega)), hI2 (by omega), show i + 1 - nF tx p = i - nF tx p + 1 by omega, vF_s, show nF tx p + (i - nF tx p) = i by omega]
