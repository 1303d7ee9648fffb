/-! the class: laying out, validity -/
theorem loop_a {σ : Type} {wp : Nat → Int32 → σ → Prop} {I : Nat → σ → Prop} {a N : Nat} (ha : a < 90000) (hN : N < 90000) (hx : ∀ n i s, N ≤ i → i ≤ N ∨ i = a → I i s → wp (n + 1) (nI i) s)
    (hs : ∀ n i s, a ≤ i → i < N → I i s → (∀ s', I (i + 1) s' → wp n (nI i + 1) s') → wp (n + 1) (nI i) s) {s0 : σ} (h0 : I a s0) : wp FU (nI a) s0 := by
  by_cases h : N ≤ a
  · exact hx 99999 a s0 h (Or.inr rfl) h0
  · refine loop_i (W := fun n i s => wp n (nI (a + i)) s) (I := fun i s => I (a + i) s) (N - a) ?_ ?_ FU 0 s0 (by omega) (FU_gt (by omega)) h0
    · intro n s e
      exact hx n (a + (N - a)) s (by omega) (by omega) e
    · intro n i s hi e kk
      refine hs n (a + i) s (by omega) (by omega) e (fun s' h' => ?_)
      rw [nI_1]
      exact kk s' h'
theorem layOut_ok {a0 a1 k s : Nat} {m : Mm} {g : Vc} {r : R4} {K : Mm → Prop} (hne : a1 ≠ a0) (hs : s < 4) (es : pf g k 1 = nI s) (hF : ∀ j, j < 5 → m.1 a0 j = pf g k j) (hr : m.1 a1 11 = r.1 ∧ m.1 a1 12 = r.2.1 ∧ m.1 a1 13 = r.2.2.1 ∧ m.1 a1 14 = r.2.2.2)
    (kk : ∀ m2 : Mm, (m2.1 a0 11 = (hung g k r).1 ∧ m2.1 a0 12 = (hung g k r).2.1 ∧ m2.1 a0 13 = (hung g k r).2.2.1 ∧ m2.1 a0 14 = (hung g k r).2.2.2) → (∀ j, j < 11 → m2.1 a0 j = m.1 a0 j) → (∀ b, b ≠ a0 → m2.1 b = m.1 b) → K m2) : wp_X3_layOut a0 a1 m K := by
  obtain ⟨r1, r2, r3, r4⟩ := hr
  unfold wp_X3_layOut
  intro y2 h2
  rw [hF 1 (by omega), es] at h2
  rintro y4 rfl m5 h5 y7 rfl m8 h8 y11 rfl m12 h12 y15 rfl m16 h16
  have a5 : ∀ b, b ≠ a0 → m5.1 b = m.1 b := fun b hb => by funext j; rw [h5, wI_ne _ _ _ _ hb]
  have a8 : ∀ b, b ≠ a0 → m8.1 b = m.1 b := fun b hb => by funext j; rw [h8, wI_ne _ _ _ _ hb, a5 b hb]
  have a12 : ∀ b, b ≠ a0 → m12.1 b = m.1 b := fun b hb => by funext j; rw [h12, wI_ne _ _ _ _ hb, a8 b hb]
  have a16 : ∀ b, b ≠ a0 → m16.1 b = m.1 b := fun b hb => by funext j; rw [h16, wI_ne _ _ _ _ hb, a12 b hb]
  have b5 : ∀ j, j < 11 → m5.1 a0 j = m.1 a0 j := fun j hj => by rw [h5, wI_nj _ _ _ _ (by omega)]
  have b8 : ∀ j, j < 11 → m8.1 a0 j = m.1 a0 j := fun j hj => by rw [h8, wI_nj _ _ _ _ (by omega), b5 j hj]
  have b12 : ∀ j, j < 11 → m12.1 a0 j = m.1 a0 j := fun j hj => by rw [h12, wI_nj _ _ _ _ (by omega), b8 j hj]
  have b16 : ∀ j, j < 11 → m16.1 a0 j = m.1 a0 j := fun j hj => by rw [h16, wI_nj _ _ _ _ (by omega), b12 j hj]
  rw [hF 4 (by omega), hF 3 (by omega)] at h5
  rw [b5 3 (by omega), b5 4 (by omega), hF 4 (by omega), hF 3 (by omega)] at h8
  rw [b8 1 (by omega), b8 2 (by omega), b8 4 (by omega), a8 a1 hne, r1, r3, hF 1 (by omega), hF 2 (by omega), hF 4 (by omega), es] at h12
  rw [b12 1 (by omega), b12 2 (by omega), b12 4 (by omega), a12 a1 hne, r2, r4, hF 1 (by omega), hF 2 (by omega), hF 4 (by omega), es] at h16
  refine kk _ ?_ b16 a16
  have w11 : m16.1 a0 11 = r.1 + (if y2 = 0 then (if nI s = 1 then r.2.2.1 else -pf g k 4) else pf g k 2) := by rw [h16, wI_nj _ _ _ _ (by omega), h12, wI_same]
  have w12 : m16.1 a0 12 = r.2.1 + (if y2 = 0 then pf g k 2 else (if nI s = 2 then r.2.2.2 else -pf g k 4)) := by rw [h16, wI_same]
  have w13 : m16.1 a0 13 = if y2 = 0 then pf g k 4 else pf g k 3 := by rw [h16, wI_nj _ _ _ _ (by omega), h12, wI_nj _ _ _ _ (by omega), h8, wI_nj _ _ _ _ (by omega), h5, wI_same]
  have w14 : m16.1 a0 14 = if y2 = 0 then pf g k 3 else pf g k 4 := by rw [h16, wI_nj _ _ _ _ (by omega), h12, wI_nj _ _ _ _ (by omega), h8, wI_same]
  rw [w11, w12, w13, w14, h2]
  rcases side4 hs with z | z | z | z <;> subst z
  · rw [hung_s0 es]
    exact ⟨rfl, by rw [Int32.sub_eq_add_neg]; rfl, rfl, rfl⟩
  · rw [hung_s1 es]
    exact ⟨rfl, rfl, rfl, rfl⟩
  · rw [hung_s2 es]
    exact ⟨rfl, rfl, rfl, rfl⟩
  · rw [hung_s3 es]
    exact ⟨by rw [Int32.sub_eq_add_neg]; rfl, rfl, rfl, rfl⟩
def panF (f : Nat → Nat → Int32) (p : Nat) (g : Vc) (k : Nat) : Prop := (∀ j, 5 ≤ j → j < 11 → f p j = pf g k j) ∧ (k = 0 → f p 0 = -9 ∧ f p 1 = -9) ∧ (0 < k → ∀ j, j < 5 → f p j = pf g k j)
def rcR (f : Nat → Nat → Int32) (p : Nat) (g : Vc) (k : Nat) : Prop := f p 11 = (rect g k).1 ∧ f p 12 = (rect g k).2.1 ∧ f p 13 = (rect g k).2.2.1 ∧ f p 14 = (rect g k).2.2.2
theorem panR_mk {f : Nat → Nat → Int32} {p : Nat} {g : Vc} {k : Nat} (h1 : panF f p g k) (h2 : rcR f p g k) : panR f p g k := ⟨h1.1, h1.2.1, h1.2.2, h2⟩
theorem panR.F {f : Nat → Nat → Int32} {p : Nat} {g : Vc} {k : Nat} (h : panR f p g k) : panF f p g k := ⟨h.1, h.2.1, h.2.2.1⟩
theorem panR.R {f : Nat → Nat → Int32} {p : Nat} {g : Vc} {k : Nat} (h : panR f p g k) : rcR f p g k := h.2.2.2
theorem panF_congr {f f2 : Nat → Nat → Int32} {p : Nat} {g : Vc} {k : Nat} (h : panF f p g k) (e : ∀ j, j < 11 → f2 p j = f p j) : panF f2 p g k :=
  ⟨fun j h1 h2 => by rw [e j h2]; exact h.1 j h1 h2, fun q => by rw [e 0 (by omega), e 1 (by omega)]; exact h.2.1 q, fun q j hj => by rw [e j (by omega)]; exact h.2.2 q j hj⟩
theorem layOutAll_ok {d : Nat} {m : Mm} {g : Vc} {K : Mm → Prop} (hp : par g) (h4 : m.1 d 4 = nI (pn g)) (hF : ∀ k, k < pn g → panF m.1 (d + 5 + k) g k) (hB : 0 < pn g → rcR m.1 (d + 5) g 0)
    (kk : ∀ m2 : Mm, (∀ k, k < pn g → panR m2.1 (d + 5 + k) g k) → (∀ b, b ≤ d + 5 ∨ d + 15 ≤ b → m2.1 b = m.1 b) → K m2) : wp_X3_layOutAll d m K := by
  have hp1 := hp.1
  unfold wp_X3_layOutAll
  refine loop_a (wp := fun n i s => wp_X3_layOutAll_l2 K d n i s) (a := 1) (N := pn g) (I := fun i s => (∀ k, k < pn g → panF s.1 (d + 5 + k) g k) ∧ (∀ k, k < i → k < pn g → rcR s.1 (d + 5 + k) g k) ∧ ∀ b, b ≤ d + 5 ∨ d + 15 ≤ b → s.1 b = m.1 b) (by omega) (by omega) ?_ ?_ ⟨hF, fun k h1 h2 => by rw [show k = 0 by omega]; exact hB (by omega), fun _ _ => rfl⟩
  · intro n i s h1 _ ⟨i1, i2, i3⟩
    show wb_X3_layOutAll_l2 _ _ _ _ _
    unfold wb_X3_layOutAll_l2
    rw [i3 d (by omega), h4, if_pos (ile h1 (by omega))]
    exact kk s (fun k hk => panR_mk (i1 k hk) (i2 k (by omega) hk)) i3
  · intro n i s h1 h2 ⟨i1, i2, i3⟩ k2
    show wb_X3_layOutAll_l2 _ _ _ _ _
    unfold wb_X3_layOutAll_l2
    obtain ⟨p, t, hpk, ep, ht, et, er⟩ := par_s hp (by omega) h2
    have hF2 := (i1 i h2).2.2 (by omega)
    rw [i3 d (by omega), h4, if_neg (inle h2 (by omega)), panelAt_in (by omega), hF2 0 (by omega), ep, panelAt_in (by omega)]
    refine layOut_ok (by omega) ht et hF2 (i2 p (by omega) (by omega)) (fun m2 c1 c2 c3 => k2 _ ⟨fun k hk => ?_, fun k hk hk2 => ?_, fun b hb => ?_⟩)
    · by_cases e : k = i
      · subst e; exact panF_congr (i1 k hk) c2
      · exact panF_congr (i1 k hk) (fun j _ => by rw [c3 _ (by omega)])
    · by_cases e : k = i
      · subst e; unfold rcR; rw [er]; exact c1
      · unfold rcR; rw [c3 _ (by omega)]; exact i2 k (by omega) hk2
    · rw [c3 b (by omega)]; exact i3 b hb
theorem overlaps_ok {m : Mm} {a b : Nat} {r s : R4} (ha : m.1 a 11 = r.1 ∧ m.1 a 12 = r.2.1 ∧ m.1 a 13 = r.2.2.1 ∧ m.1 a 14 = r.2.2.2) (hb : m.1 b 11 = s.1 ∧ m.1 b 12 = s.2.1 ∧ m.1 b 13 = s.2.2.1 ∧ m.1 b 14 = s.2.2.2) (br : bdr 6000 r) (bs : bdr 6000 s) : flag (v_X7_overlaps a b m) (ovl s r) := by
  unfold v_X7_overlaps
  rw [ha.1, ha.2.1, ha.2.2.1, ha.2.2.2, hb.1, hb.2.1, hb.2.2.1, hb.2.2.2]
  have er := bdr_xw br
  have es := bdr_xw bs
  refine flag_iff (flag_n (q := r.1.toInt < s.1.toInt + s.2.2.1.toInt) (by rw [fa_le, es.1]; omega) (flag_n (q := s.1.toInt < r.1.toInt + r.2.2.1.toInt) (by rw [fa_le, er.1]; omega) (flag_n (q := r.2.1.toInt < s.2.1.toInt + s.2.2.2.toInt) (by rw [fa_le, es.2]; omega) (flag_n (q := s.2.1.toInt < r.2.1.toInt + r.2.2.2.toInt) (by rw [fa_le, er.2]; omega) flag_1)))) ?_
  unfold ovl
  exact ⟨fun ⟨a, b, c, d, _⟩ => ⟨b, a, d, c⟩, fun ⟨a, b, c, d⟩ => ⟨b, a, d, c, trivial⟩⟩
theorem fits_ok {d k : Nat} {m : Mm} {g : Vc} {K : Int32 → Mm → Prop} (hr : rngD g) (hk : k < pn g) (h2 : m.1 d 2 = g 0) (h3 : m.1 d 3 = g 1) (hP : ∀ j, j ≤ k → panR m.1 (d + 5 + j) g j) (kk : ∀ r, flag r (gok1 g k) → K r m) : wp_X3_fits d (nI k) m K := by
  have hp := hr.par
  have hp1 := hp.1
  have bk := rect_b hr hk
  have ek := bdr_xw bk
  have z0 : (0 : Int32).toInt = 0 := rfl
  obtain ⟨q1, q2, q3, q4⟩ := (hP k (Nat.le_refl _)).R
  have k0 : ¬ gok1 g k → K 0 m := fun h => kk 0 (Or.inr ⟨rfl, h⟩)
  unfold wp_X3_fits
  rw [panelAt_in (by omega), q1, q2, q3, q4, h2, h3]
  by_cases c1 : (rect g k).1 < 0
  · rw [if_pos c1]; exact k0 (fun z => by rw [fa_lt] at c1; have := z.1.1; omega)
  rw [if_neg c1]
  by_cases c2 : (rect g k).2.1 < 0
  · rw [if_pos c2]; exact k0 (fun z => by rw [fa_lt] at c2; have := z.1.2.1; omega)
  rw [if_neg c2]
  by_cases c3 : g 0 < (rect g k).1 + (rect g k).2.2.1
  · rw [if_pos c3]; exact k0 (fun z => by rw [fa_lt, ek.1] at c3; have := z.1.2.2.1; omega)
  rw [if_neg c3]
  by_cases c4 : ¬ (rect g k).2.1 + (rect g k).2.2.2 ≤ g 1
  · rw [if_neg c4]; exact k0 (fun z => by rw [fa_le, ek.2] at c4; have := z.1.2.2.2; omega)
  replace c4 := Decidable.not_not.mp c4
  rw [if_pos c4]
  have hin : (0 < k → (pf g k 2).toInt + (pf g k 3).toInt ≤ (sdl (rect g (pf g k 0).toNatClampNeg) (pf g k 1)).toInt) → wp_X3_fits_j87 K d (nI k) (d + 5 + k) m := by
    intro hB
    unfold wp_X3_fits_j87
    refine loop_i (W := fun n i s => wp_X3_fits_l89 K d (nI k) (d + 5 + k) n (nI i) s) (I := fun i s => s = m ∧ ∀ o, o < i → ¬ ovl (rect g o) (rect g k)) k ?_ ?_ FU 0 m (by omega) (FU_gt (by omega)) ⟨rfl, fun o ho => by omega⟩
    · rintro n s ⟨rfl, hs⟩
      show wb_X3_fits_l89 _ _ _ _ _ _ _
      unfold wb_X3_fits_l89
      rw [if_pos (ile (Nat.le_refl _) (by omega))]
      rw [fa_lt] at c1 c2 c3
      rw [fa_le] at c4
      rw [ek.1] at c3
      rw [ek.2] at c4
      exact kk 1 (Or.inl ⟨rfl, ⟨by omega, by omega, by omega, by omega⟩, hB, hs⟩)
    · rintro n i s hi ⟨rfl, hs⟩ k2
      show wb_X3_fits_l89 _ _ _ _ _ _ _
      unfold wb_X3_fits_l89
      rw [if_neg (inle hi (by omega)), panelAt_in (by omega)]
      have fo := overlaps_ok (a := d + 5 + k) (b := d + 5 + i) (hP k (Nat.le_refl _)).R (hP i (by omega)).R bk (rect_b hr (by omega))
      rcases fo with ⟨o1, o2⟩ | ⟨o1, o2⟩
      · rw [o1, if_neg (by decide)]; exact k0 (fun z => z.2.2 i hi o2)
      · rw [o1, if_pos rfl, nI_1]
        refine k2 _ ⟨rfl, fun o ho => ?_⟩
        rcases Nat.lt_or_ge o i with q | q
        · exact hs o q
        · rw [show o = i by omega]; exact o2
  by_cases h0 : k = 0
  · rw [if_pos (by rw [h0]; decide)]
    exact hin (fun z => by omega)
  · rw [if_neg (show ¬ nI k ≤ (0 : Int32) from inle (i := 0) (by omega) (by omega))]
    obtain ⟨p, s, hpk, ep, hs, es, er⟩ := par_s hp (by omega) hk
    have hF := (hP k (Nat.le_refl _)).F.2.2 (by omega)
    obtain ⟨-, -, ⟨r2, r2'⟩, ⟨r3, r3'⟩, -, -⟩ := hr.2.2.2.2.2.2 k (by omega) hk
    obtain ⟨-, -, p3, p4⟩ := (hP p (by omega)).R
    rw [hF 0 (by omega), hF 1 (by omega), hF 2 (by omega), hF 3 (by omega), ep, es, panelAt_in (by omega)]
    have e : v_X7_sideLength (d + 5 + p) (nI s) m = sdl (rect g p) (nI s) := by
      unfold v_X7_sideLength
      rw [p3, p4, sdl_cls hs]
    rw [e]
    have hpe : (pf g k 0).toNatClampNeg = p := by rw [ep, clamp_nI (by omega)]
    by_cases c5 : pf g k 2 + pf g k 3 ≤ sdl (rect g p) (nI s)
    · rw [if_pos c5]
      refine hin (fun _ => ?_)
      rw [hpe, es]
      rw [fa_le, add_t (by omega) (by omega) (by omega) (by omega)] at c5
      exact c5
    · rw [if_neg c5]
      refine k0 (fun z => c5 ?_)
      have := z.2.1 (by omega)
      rw [hpe, es] at this
      rw [fa_le, add_t (by omega) (by omega) (by omega) (by omega)]
      exact this
theorem cvalid_ok {d : Nat} {m : Mm} {g : Vc} {K : Int32 → Mm → Prop} (hr : rngD g) (h2 : m.1 d 2 = g 0) (h3 : m.1 d 3 = g 1) (h4 : m.1 d 4 = nI (pn g)) (hP : ∀ j, j < pn g → panR m.1 (d + 5 + j) g j) (kk : ∀ r, flag r (gok g) → K r m) : wp_X3_isValid d m K := by
  have hp1 := hr.par.1
  unfold wp_X3_isValid
  refine loop_i (W := fun n i s => wp_X3_isValid_l2 K d n (nI i) s) (I := fun i s => s = m ∧ ∀ k, k < i → gok1 g k) (pn g) ?_ ?_ FU 0 m (by omega) (FU_gt (by omega)) ⟨rfl, fun o ho => by omega⟩
  · rintro n s ⟨rfl, hs⟩
    show wb_X3_isValid_l2 _ _ _ _ _
    unfold wb_X3_isValid_l2
    rw [h4, if_pos (ile (Nat.le_refl _) (by omega))]
    exact kk 1 (Or.inl ⟨rfl, hs⟩)
  · rintro n i s hi ⟨rfl, hs⟩ k2
    show wb_X3_isValid_l2 _ _ _ _ _
    unfold wb_X3_isValid_l2
    rw [h4, if_neg (inle hi (by omega))]
    refine fits_ok hr hi h2 h3 (fun j hj => hP j (by omega)) (fun r hf => ?_)
    rcases hf with ⟨o1, o2⟩ | ⟨o1, o2⟩
    · rw [o1, if_neg (by decide), nI_1]
      refine k2 _ ⟨rfl, fun k hk => ?_⟩
      rcases Nat.lt_or_ge k i with q | q
      · exact hs k q
      · rw [show k = i by omega]; exact o2
    · rw [o1, if_pos rfl]; exact kk 0 (Or.inr ⟨rfl, fun z => o2 (z i hi)⟩)
