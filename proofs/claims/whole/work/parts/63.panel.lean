/-! addPanel, removeLast -/
def gPan (g : Vc) (n : Nat) (p s o l dp a : Int32) : Vc := vset (vset (vset (vset (vset (vset (newP (vset g 2 (nI (n + 1))) n) (11 + 11 * n + 0) p) (11 + 11 * n + 1) s) (11 + 11 * n + 2) o) (11 + 11 * n + 3) l) (11 + 11 * n + 4) dp) (11 + 11 * n + 5) a
theorem gPan_out {g : Vc} {n : Nat} {p s o l dp a : Int32} {k : Nat} (hk : k < 11 + 11 * n ∨ 22 + 11 * n ≤ k) (h2 : k ≠ 2) : gPan g n p s o l dp a k = g k := by
  unfold gPan
  rw [vset_ne _ _ (by omega), vset_ne _ _ (by omega), vset_ne _ _ (by omega), vset_ne _ _ (by omega), vset_ne _ _ (by omega), vset_ne _ _ (by omega)]
  unfold newP
  rw [if_neg (by omega), vset_ne _ _ h2]
theorem gPan_2 {g : Vc} {n : Nat} {p s o l dp a : Int32} : gPan g n p s o l dp a 2 = nI (n + 1) := by
  unfold gPan
  rw [vset_ne _ _ (by omega), vset_ne _ _ (by omega), vset_ne _ _ (by omega), vset_ne _ _ (by omega), vset_ne _ _ (by omega), vset_ne _ _ (by omega)]
  unfold newP
  rw [if_neg (by omega), vset_same]
theorem gPan_old {g : Vc} {n : Nat} {p s o l dp a : Int32} {i j : Nat} (hi : i < n) (hj : j < 11) : pf (gPan g n p s o l dp a) i j = pf g i j := gPan_out (by omega) (by omega)
theorem gPan_f0 {g : Vc} {n : Nat} {p s o l dp a : Int32} : pf (gPan g n p s o l dp a) n 0 = p := by
  unfold pf gPan
  rw [vset_ne _ _ (by omega), vset_ne _ _ (by omega), vset_ne _ _ (by omega), vset_ne _ _ (by omega), vset_ne _ _ (by omega), vset_same]
theorem gPan_f1 {g : Vc} {n : Nat} {p s o l dp a : Int32} : pf (gPan g n p s o l dp a) n 1 = s := by
  unfold pf gPan
  rw [vset_ne _ _ (by omega), vset_ne _ _ (by omega), vset_ne _ _ (by omega), vset_ne _ _ (by omega), vset_same]
theorem gPan_f2 {g : Vc} {n : Nat} {p s o l dp a : Int32} : pf (gPan g n p s o l dp a) n 2 = o := by
  unfold pf gPan
  rw [vset_ne _ _ (by omega), vset_ne _ _ (by omega), vset_ne _ _ (by omega), vset_same]
theorem gPan_f3 {g : Vc} {n : Nat} {p s o l dp a : Int32} : pf (gPan g n p s o l dp a) n 3 = l := by
  unfold pf gPan
  rw [vset_ne _ _ (by omega), vset_ne _ _ (by omega), vset_same]
theorem gPan_f4 {g : Vc} {n : Nat} {p s o l dp a : Int32} : pf (gPan g n p s o l dp a) n 4 = dp := by
  unfold pf gPan
  rw [vset_ne _ _ (by omega), vset_same]
theorem gPan_f5 {g : Vc} {n : Nat} {p s o l dp a : Int32} : pf (gPan g n p s o l dp a) n 5 = a := by
  unfold pf gPan
  rw [vset_same]
theorem gPan_f6 {g : Vc} {n : Nat} {p s o l dp a : Int32} {j : Nat} (h : 5 < j) (hj : j < 11) : pf (gPan g n p s o l dp a) n j = if j = 6 ∨ j = 7 then -9 else 0 := by
  unfold pf gPan
  rw [vset_ne _ _ (by omega), vset_ne _ _ (by omega), vset_ne _ _ (by omega), vset_ne _ _ (by omega), vset_ne _ _ (by omega), vset_ne _ _ (by omega)]
  unfold newP
  rw [if_pos (by omega)]
  by_cases q : j = 6 ∨ j = 7
  · rw [if_pos q, if_pos (by omega)]
  · rw [if_neg q, if_neg (by omega)]
theorem gPan_pn {g : Vc} {n : Nat} {p s o l dp a : Int32} (hn : n < 10) : pn (gPan g n p s o l dp a) = n + 1 := by unfold pn; rw [gPan_2, clamp_nI (by omega)]
theorem gPan_rect {g : Vc} {n : Nat} {p s o l dp a : Int32} (hn : n < 10) {k : Nat} (hk : k < n) : rect (gPan g n p s o l dp a) k = rect g k :=
  rect_congr2 (n := n) (fun k _ _ => gPan_out (by omega) (by omega)) (fun i hi j hj => gPan_old hi (by omega)) k hk
def rPan (n : Nat) (p s o l dp a : Int32) : Prop := (0 ≤ p.toInt ∧ p.toInt < n) ∧ (0 ≤ s.toInt ∧ s.toInt ≤ 3) ∧ (0 ≤ o.toInt ∧ o.toInt ≤ 300) ∧ (1 ≤ l.toInt ∧ l.toInt ≤ 300) ∧ (1 ≤ dp.toInt ∧ dp.toInt ≤ 300) ∧ (-1 ≤ a.toInt ∧ a.toInt ≤ 2)
theorem gPan_rng {g : Vc} {p s o l dp a : Int32} (hr : rngD g) (hn : pn g < 10) (hb : rPan (pn g) p s o l dp a) : rngD (gPan g (pn g) p s o l dp a) := by
  obtain ⟨d1, d2, d3, d4, d5, d6, d7⟩ := hr
  obtain ⟨p', ep, ep2, -⟩ := asN hb.1.1
  obtain ⟨s', es, es2, -⟩ := asN hb.2.1.1
  have b1 := hb.1.2
  have b2 := hb.2.1.2
  refine ⟨by rw [gPan_out (by omega) (by omega)]; exact d1, by rw [gPan_out (by omega) (by omega)]; exact d2, ⟨pn g + 1, by omega, gPan_2⟩, fun i hi => by rw [gPan_out (by omega) (by omega), gPan_out (by omega) (by omega)]; exact d4 i hi, fun _ => ?_, fun k hk => ?_, fun k h0 hk => ?_⟩
  · rw [gPan_out (by omega) (by omega), gPan_out (by omega) (by omega), gPan_out (by omega) (by omega), gPan_out (by omega) (by omega), gPan_old (by omega) (by omega)]
    obtain ⟨x1, x2, x3, x4, x5, x6⟩ := d5 (by omega)
    exact ⟨x1, x2, x3, x4, fun j hj => by rw [gPan_old (by omega) (by omega)]; exact x5 j hj, x6⟩
  · rw [gPan_pn hn] at hk ⊢
    rcases Nat.lt_or_ge k (pn g) with q | q
    · rw [gPan_old q (by omega), gPan_old q (by omega), gPan_old q (by omega), gPan_old q (by omega), gPan_old q (by omega)]
      obtain ⟨q1, q2, q3⟩ := d6 k q
      refine ⟨?_, ?_, q3⟩
      · rcases q1 with z | ⟨t, t1, t2, t3⟩
        · exact Or.inl z
        · exact Or.inr ⟨t, by omega, t2, t3⟩
      · rcases q2 with z | ⟨i, hi, z, z4⟩
        · exact Or.inl z
        · exact Or.inr ⟨i, hi, z, by rw [gPan_out (by omega) (by omega)]; exact z4⟩
    · rw [show k = pn g by omega, gPan_f6 (by omega) (by omega), gPan_f6 (by omega) (by omega), gPan_f6 (by omega) (by omega), gPan_f6 (by omega) (by omega), gPan_f6 (by omega) (by omega)]
      exact ⟨Or.inl rfl, Or.inl rfl, ⟨by decide, by decide⟩, ⟨by decide, by decide⟩, by decide, by decide⟩
  · rw [gPan_pn hn] at hk
    rcases Nat.lt_or_ge k (pn g) with q | q
    · rw [gPan_old q (by omega), gPan_old q (by omega), gPan_old q (by omega), gPan_old q (by omega), gPan_old q (by omega), gPan_old q (by omega)]
      exact d7 k h0 q
    · rw [show k = pn g by omega, gPan_f0, gPan_f1, gPan_f2, gPan_f3, gPan_f4, gPan_f5]
      exact ⟨⟨p', by omega, ep⟩, ⟨s', by omega, es⟩, hb.2.2⟩
theorem gPan_gok {g : Vc} {p s o l dp a : Int32} (hD : Dd g) (hn : pn g < 10) : gok (gPan g (pn g) p s o l dp a) ↔ gok1 (gPan g (pn g) p s o l dp a) (pn g) := by
  rw [gok_iff, gPan_pn hn]
  refine ⟨fun z => z _ (by omega), fun z k hk => ?_⟩
  rcases Nat.lt_or_ge k (pn g) with q | q
  · obtain ⟨q1, q2, q3⟩ := hD.2 k q
    refine ⟨?_, fun h0 => ?_, fun o ho => ?_⟩
    · rw [gPan_rect hn q, gPan_out (by omega) (by omega), gPan_out (by omega) (by omega)]; exact q1
    · obtain ⟨p, s, hpk, ep, hs, es, er⟩ := par_s hD.r.par h0 q
      have := q2 h0
      rw [gPan_old q (by omega), gPan_old q (by omega), gPan_old q (by omega), gPan_old q (by omega), gPan_rect hn (by rw [ep, clamp_nI (by omega)]; omega)]
      exact this
    · rw [gPan_rect hn q, gPan_rect hn (by omega)]; exact q3 o ho
  · rw [show k = pn g by omega]; exact z
theorem draft_ok {d : Nat} {m : Mm} {g : Vc} {p s o l dp a : Int32} {K : Mm → Prop} (hd : desR m.1 d g) (hD : Dd g) (hn : pn g < 10) (hb : rPan (pn g) p s o l dp a)
    (kk : ∀ m2, panR m2.1 (d + 5 + pn g) (gPan g (pn g) p s o l dp a) (pn g) → (∀ b, b ≠ d + 5 + pn g → m2.1 b = m.1 b) → K m2) : wp_X3_draft d p s o l dp a m K := by
  have h4 : m.1 d 4 = nI (pn g) := by rw [hd.2.2.1]; exact hD.g2
  obtain ⟨p', ep, ep2, -⟩ := asN hb.1.1
  obtain ⟨s', es, es2, -⟩ := asN hb.2.1.1
  have b1 := hb.1.2
  have b2 := hb.2.1.2
  subst ep
  unfold wp_X3_draft
  rw [h4, panelAt_in hn, panelAt_in (by omega)]
  unfold wp_X7_makePlain
  rintro m1 e1 m2 e2 m3 e3 m4 e4 m5 e5 m6 e6 m7 e7 m8 e8 m9 e9 m10 e10 m11 e11
  generalize hq : d + 5 + pn g = q at *
  have hm : m11 = wI (wI (wI (wI (wI (wI (wI (wI (wI (wI (wI m q 6 (-9)) q 7 (-9)) q 8 0) q 9 0) q 10 0) q 0 (nI p')) q 1 s) q 2 o) q 3 l) q 4 dp) q 5 a := by
    rw [e11, e10, e9, e8, e7, e6, e5, e4, e3, e2, e1]
  clear e1 e2 e3 e4 e5 e6 e7 e8 e9 e10 e11
  have eo : ∀ b, b ≠ q → m11.1 b = m.1 b := fun b q1 => by
    funext j
    rw [hm]
    simp only [wI_get, if_neg q1]
  have eq : ∀ j, m11.1 q j = if j = 5 then a else if j = 4 then dp else if j = 3 then l else if j = 2 then o else if j = 1 then s else if j = 0 then nI p' else if j = 10 then 0 else if j = 9 then 0 else if j = 8 then 0 else if j = 7 then -9 else if j = 6 then -9 else m.1 q j := fun j => by
    rw [hm]
    simp only [wI_get, if_true]
  obtain ⟨f1, f2, f3, f4⟩ := (hd.2.2.2.2 p' (by omega)).R
  have hF : ∀ j, j < 5 → m11.1 q j = pf (gPan g (pn g) (nI p') s o l dp a) (pn g) j := fun j hj => by
    rw [eq]
    match j, hj with
    | 0, _ => rw [gPan_f0]; rfl
    | 1, _ => rw [gPan_f1]; rfl
    | 2, _ => rw [gPan_f2]; rfl
    | 3, _ => rw [gPan_f3]; rfl
    | 4, _ => rw [gPan_f4]; rfl
  refine layOut_ok (g := gPan g (pn g) (nI p') s o l dp a) (k := pn g) (s := s') (r := rect g p') (by omega) (by omega) (by rw [gPan_f1]; exact es) hF (by rw [eo _ (by omega)]; exact ⟨f1, f2, f3, f4⟩) (fun m2 c1 c2 c3 => kk m2 (panR_mk ⟨fun j h1 h2 => ?_, fun z => ?_, fun z j hj => by rw [c2 j (by omega)]; exact hF j hj⟩ ?_) (fun b hb => by rw [c3 b hb]; exact eo b hb))
  · rw [c2 j h2, eq]
    match j, h1, h2 with
    | 5, _, _ => rw [gPan_f5]; rfl
    | 6, _, _ => rw [gPan_f6 (by omega) (by omega)]; rfl
    | 7, _, _ => rw [gPan_f6 (by omega) (by omega)]; rfl
    | 8, _, _ => rw [gPan_f6 (by omega) (by omega)]; rfl
    | 9, _, _ => rw [gPan_f6 (by omega) (by omega)]; rfl
    | 10, _, _ => rw [gPan_f6 (by omega) (by omega)]; rfl
  · omega
  · unfold rcR
    rw [rect_s (g := gPan g (pn g) (nI p') s o l dp a) (k := pn g) (p := p') (by omega) gPan_f0 (by omega) (by omega), gPan_rect hn (by omega)]
    exact c1
theorem desR_tail {f f2 : Nat → Nat → Int32} {d : Nat} {g : Vc} (h : desR f d g) (hf : ∀ b, b ≠ d + 5 + pn g → f2 b = f b) : desR f2 d g := by
  obtain ⟨h1, h2, h3, h4, h5⟩ := h
  refine ⟨by rw [hf d (by omega)]; exact h1, by rw [hf d (by omega)]; exact h2, by rw [hf d (by omega)]; exact h3, fun i hi => ?_, fun k hk => ?_⟩
  · rw [hf (d + 1) (by omega), hf (d + 2) (by omega)]
    exact h4 i hi
  · have := h5 k hk
    unfold panR at this ⊢
    rw [hf (d + 5 + k) (by omega)]
    exact this
theorem hangFault_ok {d : Nat} {m : Mm} {g : Vc} {p s o l dp a : Int32} {K : Int32 → Mm → Prop} (hd : desR m.1 d g) (hD : Dd g) (k1 : ¬ rPan (pn g) p s o l dp a → K (-1) m) (k2 : rPan (pn g) p s o l dp a → pn g = 10 → K (-3) m)
    (k3 : rPan (pn g) p s o l dp a → pn g < 10 → ¬ gok (gPan g (pn g) p s o l dp a) → ∀ m2, (∀ b, b ≠ d + 5 + pn g → m2.1 b = m.1 b) → K (-4) m2)
    (k4 : rPan (pn g) p s o l dp a → pn g < 10 → gok (gPan g (pn g) p s o l dp a) → ∀ m2, (∀ b, b ≠ d + 5 + pn g → m2.1 b = m.1 b) → K 0 m2) : wp_X3_hangFault d p s o l dp a m K := by
  have h4 : m.1 d 4 = nI (pn g) := by rw [hd.2.2.1]; exact hD.g2
  have hp := hD.ple
  have a0 : (0 : Int32).toInt = 0 := rfl
  have a3 : (3 : Int32).toInt = 3 := rfl
  unfold wp_X3_hangFault
  by_cases c1 : ¬ (0 ≤ p.toInt ∧ p.toInt < pn g)
  · rw [if_pos ((has_0 h4 hp).mpr c1)]; exact k1 (fun z => c1 z.1)
  replace c1 := Decidable.not_not.mp c1
  rw [if_neg (fun z => (has_0 h4 hp).mp z c1)]
  by_cases c2 : s < 0
  · rw [if_pos c2]; exact k1 (fun z => by rw [fa_lt] at c2; have := z.2.1.1; omega)
  rw [if_neg c2]
  by_cases c2' : 3 < s
  · rw [if_pos c2']; exact k1 (fun z => by rw [fa_lt] at c2'; have := z.2.1.2; omega)
  rw [if_neg c2']
  by_cases c3 : ¬ (0 ≤ o.toInt ∧ o.toInt ≤ 300)
  · rw [if_pos (isOff_0.mpr c3)]; exact k1 (fun z => c3 z.2.2.1)
  replace c3 := Decidable.not_not.mp c3
  rw [if_neg (fun z => isOff_0.mp z c3)]
  by_cases c4 : ¬ (1 ≤ l.toInt ∧ l.toInt ≤ 300)
  · rw [if_pos (isLen_0.mpr c4)]; exact k1 (fun z => c4 z.2.2.2.1)
  replace c4 := Decidable.not_not.mp c4
  rw [if_neg (fun z => isLen_0.mp z c4)]
  by_cases c5 : ¬ (1 ≤ dp.toInt ∧ dp.toInt ≤ 300)
  · rw [if_pos (isLen_0.mpr c5)]; exact k1 (fun z => c5 z.2.2.2.2.1)
  replace c5 := Decidable.not_not.mp c5
  rw [if_neg (fun z => isLen_0.mp z c5)]
  by_cases c6 : ¬ (-1 ≤ a.toInt ∧ a.toInt ≤ 2)
  · rw [if_pos (isAng_0.mpr c6)]; exact k1 (fun z => c6 z.2.2.2.2.2)
  replace c6 := Decidable.not_not.mp c6
  rw [if_neg (fun z => isAng_0.mp z c6)]
  rw [fa_lt] at c2 c2'
  have hb : rPan (pn g) p s o l dp a := ⟨c1, ⟨by omega, by omega⟩, c3, c4, c5, c6⟩
  by_cases hn : pn g = 10
  · rw [h4, if_neg (by rw [hn]; decide)]; exact k2 hb hn
  have hn2 : pn g < 10 := by omega
  rw [h4, if_pos (show nI (pn g) < (10 : Int32) from ilt (i := 10) hn2 (by omega))]
  refine draft_ok hd hD hn2 hb (fun m2 c1 c2 => ?_)
  have e4 : m2.1 d 4 = nI (pn g) := by rw [c2 d (by omega)]; exact h4
  rw [e4]
  refine fits_ok (g := gPan g (pn g) p s o l dp a) (gPan_rng hD.r hn2 hb) (by rw [gPan_pn hn2]; omega) ?_ ?_ (fun j hj => ?_) (fun r hr => ?_)
  · rw [c2 d (by omega), gPan_out (by omega) (by omega)]; exact hd.1
  · rw [c2 d (by omega), gPan_out (by omega) (by omega)]; exact hd.2.1
  · rcases Nat.lt_or_ge j (pn g) with q | q
    · obtain ⟨x1, x2, x3, x4⟩ := hd.2.2.2.2 j q
      unfold panR
      rw [c2 _ (by omega), gPan_rect hn2 q]
      exact ⟨fun i q1 q2 => by rw [gPan_old q q2]; exact x1 i q1 q2, x2, fun q1 i q2 => by rw [gPan_old q (by omega)]; exact x3 q1 i q2, x4⟩
    · rw [show j = pn g by omega]; exact c1
  · rintro y13 rfl
    rcases hr with ⟨r1, r2⟩ | ⟨r1, r2⟩
    · rw [r1, if_neg (by decide)]; exact k4 hb hn2 ((gPan_gok hD hn2).mpr r2) m2 c2
    · rw [r1, if_pos rfl]; exact k3 hb hn2 (fun z => r2 ((gPan_gok hD hn2).mp z)) m2 c2
theorem hang_ok {d : Nat} {m : Mm} {g : Vc} {p s o l dp a : Int32} {K : Int32 → Mm → Prop} (hd : desR m.1 d g) (hD : Dd g) (hn : pn g < 10) (hb : rPan (pn g) p s o l dp a)
    (kk : ∀ m2, desR m2.1 d (gPan g (pn g) p s o l dp a) → frD d m m2 → K (nI (pn g)) m2) : wp_X3_hang d p s o l dp a m K := by
  have h4 : m.1 d 4 = nI (pn g) := by rw [hd.2.2.1]; exact hD.g2
  unfold wp_X3_hang
  refine draft_ok hd hD hn hb (fun m2 c1 c2 => ?_)
  rintro m3 rfl
  have e4 : m2.1 d 4 = nI (pn g) := by rw [c2 d (by omega)]; exact h4
  rw [wI_same, e4, nI_1, show (1 : Int32) = nI 1 from rfl, nI_sub (by omega), show pn g + 1 - 1 = pn g by omega]
  have eo : ∀ b, b ≠ d → (wI m2 d 4 (nI (pn g + 1))).1 b = m2.1 b := fun b hb => by funext j; rw [wI_ne _ _ _ _ hb]
  refine kk _ ⟨?_, ?_, ?_, fun i hi => ?_, fun k hk => ?_⟩ (fun b hb => by rw [eo b (by omega), c2 b (by omega)])
  · rw [wI_nj _ _ _ _ (by omega), c2 d (by omega), gPan_out (by omega) (by omega)]; exact hd.1
  · rw [wI_nj _ _ _ _ (by omega), c2 d (by omega), gPan_out (by omega) (by omega)]; exact hd.2.1
  · rw [wI_same, gPan_2]
  · rw [eo _ (by omega), eo _ (by omega), c2 _ (by omega), c2 _ (by omega), gPan_out (by omega) (by omega), gPan_out (by omega) (by omega)]; exact hd.2.2.2.1 i hi
  · rw [gPan_pn hn] at hk
    rcases Nat.lt_or_ge k (pn g) with q | q
    · obtain ⟨x1, x2, x3, x4⟩ := hd.2.2.2.2 k q
      unfold panR
      rw [eo _ (by omega), c2 _ (by omega), gPan_rect hn q]
      exact ⟨fun i q1 q2 => by rw [gPan_old q q2]; exact x1 i q1 q2, x2, fun q1 i q2 => by rw [gPan_old q (by omega)]; exact x3 q1 i q2, x4⟩
    · rw [show k = pn g by omega]
      unfold panR at c1 ⊢
      rw [eo _ (by omega)]; exact c1
theorem doPanel_ok {m0 m : Mm} {S : AS} {p s o l dp a : Int32} {K : Int32 → Mm → Prop} (hD : Dd (sg S)) (hB : RB m0 m S (sg S)) (k1 : ¬ rPan (pn (sg S)) p s o l dp a → ∀ m2, RQ m0 m2 S → K (-1) m2) (k2 : rPan (pn (sg S)) p s o l dp a → pn (sg S) = 10 → ∀ m2, RQ m0 m2 S → K (-3) m2)
    (k3 : rPan (pn (sg S)) p s o l dp a → pn (sg S) < 10 → ¬ gok (gPan (sg S) (pn (sg S)) p s o l dp a) → ∀ m2, RQ m0 m2 S → K (-4) m2)
    (k4 : rPan (pn (sg S)) p s o l dp a → pn (sg S) < 10 → gok (gPan (sg S) (pn (sg S)) p s o l dp a) → ∀ m2, RB m0 m2 S (gPan (sg S) (pn (sg S)) p s o l dp a) → K (nI (pn (sg S))) m2) : wp_X12_doPanel p s o l dp a m K := by
  have hp := hD.ple
  have a0 : (0 : Int32).toInt = 0 := rfl
  have a1 : (1 : Int32).toInt = 1 := rfl
  have a1' : (-1 : Int32).toInt = -1 := rfl
  have a2 : (2 : Int32).toInt = 2 := rfl
  have a3 : (3 : Int32).toInt = 3 := rfl
  have a4 : (300 : Int32).toInt = 300 := rfl
  have kj : ¬ rPan (pn (sg S)) p s o l dp a → wp_X12_doPanel_j62 K m := fun z => by
    unfold wp_X12_doPanel_j62
    exact RB_refuse hB (fun m2 r1 r2 r3 => k1 z m2 ⟨r1, r2, r3⟩)
  unfold wp_X12_doPanel
  by_cases c1 : ¬ (0 ≤ p.toInt ∧ p.toInt < pn (sg S))
  · rw [if_pos ((isPanel_0 (RB_st hB) hD.g2 hp).mpr c1)]; exact kj (fun z => c1 z.1)
  replace c1 := Decidable.not_not.mp c1
  rw [if_neg (fun z => (isPanel_0 (RB_st hB) hD.g2 hp).mp z c1)]
  by_cases c2 : ¬ (0 ≤ s.toInt ∧ s.toInt ≤ 3)
  · rw [if_pos (in_0 (by omega))]; exact kj (fun z => c2 z.2.1)
  rw [if_neg (in_ne (by omega) (by omega))]
  by_cases c3 : ¬ (0 ≤ o.toInt ∧ o.toInt ≤ 300)
  · rw [if_pos (in_0 (by omega))]; exact kj (fun z => c3 z.2.2.1)
  rw [if_neg (in_ne (by omega) (by omega))]
  by_cases c4 : ¬ (1 ≤ l.toInt ∧ l.toInt ≤ 300)
  · rw [if_pos (in_0 (by omega))]; exact kj (fun z => c4 z.2.2.2.1)
  rw [if_neg (in_ne (by omega) (by omega))]
  by_cases c5 : ¬ (1 ≤ dp.toInt ∧ dp.toInt ≤ 300)
  · rw [if_pos (in_0 (by omega))]; exact kj (fun z => c5 z.2.2.2.2.1)
  rw [if_neg (in_ne (by omega) (by omega))]
  by_cases c6 : ¬ (-1 ≤ a.toInt ∧ a.toInt ≤ 2)
  · rw [if_pos (in_0 (by omega))]; exact kj (fun z => c6 z.2.2.2.2.2)
  rw [if_neg (in_ne (by omega) (by omega))]
  have hb : rPan (pn (sg S)) p s o l dp a := ⟨c1, Decidable.not_not.mp c2, Decidable.not_not.mp c3, Decidable.not_not.mp c4, Decidable.not_not.mp c5, Decidable.not_not.mp c6⟩
  rintro y9 rfl
  rw [many_ok (RB_st hB) hD.g2]
  by_cases hn : pn (sg S) = 10
  · rw [if_pos (by rw [hn]; rfl)]
    exact RB_refuse hB (fun m2 r1 r2 r3 => k2 hb hn m2 ⟨r1, r2, r3⟩)
  have hn2 : pn (sg S) < 10 := by omega
  rw [if_neg (show ¬ nI (pn (sg S)) = (10 : Int32) from ine (i := 10) hn (by omega) (by omega))]
  rintro m11 rfl
  rw [show m.1 427 2 = nI (pn (sg S)) from many_ok (RB_st hB) hD.g2, nI_1]
  refine newPanel_ok hn2 (RB_put hB) (fun m12 hB12 => ?_)
  refine put_ok (j := 0) rfl hn2 (by omega) (put_ok (j := 1) rfl hn2 (by omega) (put_ok (j := 2) rfl hn2 (by omega) (put_ok (j := 3) rfl hn2 (by omega) (put_ok (j := 4) rfl hn2 (by omega) (put_ok (j := 5) rfl hn2 (by omega) ?_)))))
  have hB2 : RB m0 _ S (gPan (sg S) (pn (sg S)) p s o l dp a) := RB_put (x := a) (k := 11 + 11 * pn (sg S) + 5) (RB_put (x := dp) (k := 11 + 11 * pn (sg S) + 4) (RB_put (x := l) (k := 11 + 11 * pn (sg S) + 3) (RB_put (x := o) (k := 11 + 11 * pn (sg S) + 2) (RB_put (x := s) (k := 11 + 11 * pn (sg S) + 1) (RB_put (x := p) (k := 11 + 11 * pn (sg S) + 0) hB12)))))
  refine rvalid_ok (RB_st hB2) (gPan_rng hD.r hn2 hb) (fun r m2 hr _ f => ?_)
  have hB3 := RB_fr hB2 f
  rcases hr with ⟨r1, r2⟩ | ⟨r1, r2⟩
  · rw [r1, if_neg (by decide)]; exact k4 hb hn2 r2 _ hB3
  · rw [r1, if_pos rfl]; exact RB_refuse hB3 (fun m2 r1 r3 r4 => k3 hb hn2 r2 m2 ⟨r1, r3, r4⟩)
theorem ClsR_tail {m m2 : Mm} {S : AS} (hI : Inv S) (hC : ClsR m S) (hn : pn (sg S) < 10) (hf : ∀ b, b ≠ 1 + 5 + pn (sg S) → m2.1 b = m.1 b) : ClsR m2 S :=
  ClsR_des (S := S) (g2 := sg S) hI.2.2.2.1 hI.2.2.2.2.1 hC (desR_tail hC.1 hf) (limR_congr hC.2.1 (hf 265 (by omega)) (hf 266 (by omega))) (fun b _ hb _ _ => hf b (by omega))
theorem op_addPanel {m : Mm} {S : AS} {p s o l dp a : Int32} {P : Int32 → Int32 → Mm → Prop} (hS : Sim m S) (kk : ∀ r m2 S2, Sim m2 S2 → P r r m2) : wp_X11_addPanel p s o l dp a m (fun r m1 => wp_X12_addPanel p s o l dp a m1 (fun r2 m2 => P r r2 m2)) := by
  have hI := hS.2.2
  have hC := hS.2.1
  have hD := hI.1
  have hp := hD.ple
  by_cases c1 : rPan (pn (sg S)) p s o l dp a
  · by_cases hn : pn (sg S) = 10
    · refine combine (c := wp_X11_addPanel p s o l dp a m) (d := wp_X12_addPanel p s o l dp a) (r := -3) (S2 := S) hS (fun K k1 => ?_) (fun m1 K hR k1 => ?_) hI kk
      · unfold wp_X11_addPanel
        refine hangFault_ok hC.1 hD (fun z => absurd c1 z) (fun _ _ => ?_) (fun _ z => by omega) (fun _ z => by omega)
        rw [if_neg (by decide)]; exact k1 _ hC (fun _ _ => rfl)
      · unfold wp_X12_addPanel
        refine RB_begins hR (fun m2 hB => ?_)
        exact doPanel_ok hD hB (fun z => absurd c1 z) (fun _ _ m3 h3 => RQ_ends h3 k1) (fun _ z => by omega) (fun _ z => by omega)
    · have hn2 : pn (sg S) < 10 := by omega
      by_cases c2 : gok (gPan (sg S) (pn (sg S)) p s o l dp a)
      · refine combine (c := wp_X11_addPanel p s o l dp a m) (d := wp_X12_addPanel p s o l dp a) (r := nI (pn (sg S))) (S2 := (gPan (sg S) (pn (sg S)) p s o l dp a, pushH (sh S) (sg S), S.2.2)) hS (fun K k1 => ?_) (fun m1 K hR k1 => ?_) ?_ kk
        · unfold wp_X11_addPanel
          refine hangFault_ok hC.1 hD (fun z => absurd c1 z) (fun _ z => by omega) (fun _ _ z => absurd c2 z) (fun _ _ _ m1 h1 => ?_)
          rw [if_pos rfl]
          refine remember_ok (ClsR_tail hI hC hn2 h1) hI (fun m2 hC2 hk => ?_)
          refine hang_ok (g := sg S) hC2.1 hD hn2 c1 (fun m3 hd hf => ?_)
          have := ClsR_chg hI hC2 hk hd hf (fun k hk => gPan_out (by omega) (by omega))
          exact k1 _ this.1 (fun b hb => by rw [this.2 b hb, h1 b (by omega)])
        · unfold wp_X12_addPanel
          refine RB_begins hR (fun m2 hB => ?_)
          exact doPanel_ok hD hB (fun z => absurd c1 z) (fun _ z => by omega) (fun _ _ z => absurd c2 z) (fun _ _ _ m3 hB3 => RB_ends hI hB3 (fun m4 r4 l4 => k1 _ r4 l4))
        · exact Inv_push hI ⟨gPan_rng hD.r hn2 c1, c2⟩ (Ll_eq hI.2.1 (fun k hk => gPan_out (by omega) (by omega)))
      · refine combine (c := wp_X11_addPanel p s o l dp a m) (d := wp_X12_addPanel p s o l dp a) (r := -4) (S2 := S) hS (fun K k1 => ?_) (fun m1 K hR k1 => ?_) hI kk
        · unfold wp_X11_addPanel
          refine hangFault_ok hC.1 hD (fun z => absurd c1 z) (fun _ z => by omega) (fun _ _ _ m1 h1 => ?_) (fun _ _ z => absurd z c2)
          rw [if_neg (by decide)]; exact k1 _ (ClsR_tail hI hC hn2 h1) (fun b hb => h1 b (by omega))
        · unfold wp_X12_addPanel
          refine RB_begins hR (fun m2 hB => ?_)
          exact doPanel_ok hD hB (fun z => absurd c1 z) (fun _ z => by omega) (fun _ _ _ m3 h3 => RQ_ends h3 k1) (fun _ _ z => absurd z c2)
  · refine combine (c := wp_X11_addPanel p s o l dp a m) (d := wp_X12_addPanel p s o l dp a) (r := -1) (S2 := S) hS (fun K k1 => ?_) (fun m1 K hR k1 => ?_) hI kk
    · unfold wp_X11_addPanel
      refine hangFault_ok hC.1 hD (fun _ => ?_) (fun z => absurd z c1) (fun z => absurd z c1) (fun z => absurd z c1)
      rw [if_neg (by decide)]; exact k1 _ hC (fun _ _ => rfl)
    · unfold wp_X12_addPanel
      refine RB_begins hR (fun m2 hB => ?_)
      exact doPanel_ok hD hB (fun _ m3 h3 => RQ_ends h3 k1) (fun z => absurd z c1) (fun z => absurd z c1) (fun z => absurd z c1)
