/-! open lengths -/
theorem ifo_indI {σ : Type} {P : Nat → σ → Prop} (step : Nat → σ → σ) {s0 : σ} {a : Nat} (h0 : P a s0) : ∀ n, (∀ i s, a ≤ i → i < a + n → P i s → P (i + 1) (step i s)) → P (a + n) (ifo step s0 a n) := by
  intro n
  induction n with
  | zero => exact fun _ => h0
  | succ n ih => exact fun h => h (a + n) _ (by omega) (by omega) (ih (fun i s h1 h2 => h i s h1 (by omega)))
def sCd (s : Qd) : Nat := 160 * s.1 + 40 * s.2.1 + 4 * s.2.2.1 + s.2.2.2
def sOrd (b : Nat) (l : List Qd) : Prop := l.Pairwise (fun s t => sCd s < sCd t) ∧ ∀ s ∈ l, sCd s < b
theorem sOrd_up {b b2 : Nat} {l : List Qd} (h : sOrd b l) (hb : b ≤ b2) : sOrd b2 l := ⟨h.1, fun s hs => by have := h.2 s hs; omega⟩
theorem sOrd_add {g : Vc} {an : Nat → Int32} {tol : Int32} {s : Qd} {l : List Qd} (h : sOrd (sCd s) l) : sOrd (sCd s + 1) (sAdd g an tol s l) := by
  have h2 : sOrd (sCd s + 1) l := sOrd_up h (by omega)
  unfold sAdd
  split
  · split
    · exact h2
    · split
      · exact h2
      · refine ⟨?_, fun t ht => ?_⟩
        · rw [List.pairwise_append]
          refine ⟨h.1, List.pairwise_singleton _ _, fun a ha b hb => ?_⟩
          rw [List.mem_singleton] at hb
          rw [hb]
          exact h.2 a ha
        · rw [List.mem_append] at ht
          rcases ht with z | z
          · exact h2.2 t z
          · rw [List.mem_singleton] at z
            rw [z]; omega
  · exact h2
theorem seam_ord {g : Vc} {an : Nat → Int32} {tol : Int32} (hp : pn g ≤ 10) : (seamL g an tol).Pairwise (fun s t => sCd s < sCd t) := by
  have h : sOrd (160 * (0 + pn g)) (seamL g an tol) := by
    unfold seamL
    refine ifo_indI (P := fun p l => sOrd (160 * p) l) _ ⟨List.Pairwise.nil, by intro s hs; cases hs⟩ _ (fun p l _ hp2 h => ?_)
    show sOrd (160 * (p + 1)) (oL g an tol p l)
    unfold oL
    refine sOrd_up (b := 160 * p + 40 * (0 + 4)) (ifo_indI (P := fun o l => sOrd (160 * p + 40 * o) l) _ h _ (fun o l _ ho h => ?_)) (by omega)
    show sOrd (160 * p + 40 * (o + 1)) (qL g an tol p o l)
    unfold qL
    by_cases hq : p + 1 ≤ pn g
    · refine sOrd_up (b := 160 * p + 40 * o + 4 * (p + 1 + (pn g - (p + 1)))) (ifo_indI (P := fun q l => sOrd (160 * p + 40 * o + 4 * q) l) _ (sOrd_up h (by omega)) _ (fun q l hq1 hq2 h => ?_)) (by omega)
      show sOrd (160 * p + 40 * o + 4 * (q + 1)) (jL g an tol p o q l)
      unfold jL
      refine sOrd_up (b := 160 * p + 40 * o + 4 * q + (0 + 4)) (ifo_indI (P := fun t l => sOrd (160 * p + 40 * o + 4 * q + t) l) _ h _ (fun t l _ ht h => ?_)) (by omega)
      exact sOrd_add (s := (p, o, q, t)) h
    · rw [show pn g - (p + 1) = 0 by omega]
      exact sOrd_up h (by omega)
  exact h.1
theorem seam_ne {g : Vc} {an : Nat → Int32} {tol : Int32} (hp : pn g ≤ 10) {i j : Nat} {s t : Qd} (hi : (seamL g an tol)[i]? = some s) (hj : (seamL g an tol)[j]? = some t) (h : i < j) : s ≠ t := by
  have := (List.pairwise_iff_getElem.mp (seam_ord (g := g) (an := an) (tol := tol) hp))
  obtain ⟨h1, e1⟩ := List.getElem?_eq_some_iff.mp hi
  obtain ⟨h2, e2⟩ := List.getElem?_eq_some_iff.mp hj
  have q := this i j h1 h2 h
  rw [e1, e2] at q
  intro z
  rw [z] at q
  omega
theorem seam_at {g : Vc} {an : Nat → Int32} {tol : Int32} {i : Nat} {s : Qd} (hi : (seamL g an tol)[i]? = some s) : sWf g an tol s := seam_wf s (List.mem_of_getElem? hi)
/-- a seam touches a side -/
def hitS (k d : Nat) (s : Qd) : Prop := (s.1 = k ∧ s.2.1 = d) ∨ (s.2.2.1 = k ∧ s.2.2.2 = d)
theorem ct_inj {p : Nat → Bool} {f : Nat → Nat} {n M : Nat} (hb : ∀ j, j < n → p j = true → f j < M) (hi : ∀ i j, i < j → j < n → p i = true → p j = true → f i ≠ f j) : fb_ct p n ≤ M := by
  have hk : ∀ t, ∃ i, t < fb_ct p n → (i < n ∧ p i = true ∧ fb_ct p i = t) := fun t => by
    by_cases ht : t < fb_ct p n
    · obtain ⟨i, h⟩ := fb_ct_kth ht
      exact ⟨i, fun _ => h⟩
    · exact ⟨0, fun z => absurd z ht⟩
  have ⟨e, he⟩ := Classical.axiomOfChoice hk
  refine fb_holes M (fb_ct p n) (fun t => f (e t)) (fun t ht => hb _ (he t ht).1 (he t ht).2.1) (fun a b hab hb2 => ?_)
  obtain ⟨a1, a2, a3⟩ := he a (by omega)
  obtain ⟨b1, b2, b3⟩ := he b hb2
  rcases Nat.lt_trichotomy (e a) (e b) with z | z | z
  · exact hi _ _ z b1 a2 b2
  · rw [z] at a3; omega
  · exact (hi _ _ z a1 b2 a2).symm
noncomputable def hitB (l : List Qd) (k d j : Nat) : Bool := @decide (∃ s, l[j]? = some s ∧ hitS k d s) (Classical.propDecidable _)
theorem hitB_t {l : List Qd} {k d j : Nat} : hitB l k d j = true ↔ ∃ s, l[j]? = some s ∧ hitS k d s := by unfold hitB; exact @decide_eq_true_iff _ (Classical.propDecidable _)
def oCd (k : Nat) (s : Qd) : Nat := if s.1 = k then 4 * s.2.2.1 + s.2.2.2 else 4 * s.1 + s.2.1
theorem hit_le {g : Vc} {an : Nat → Int32} {tol : Int32} (hp : pn g ≤ 10) {k d : Nat} (n : Nat) : fb_ct (hitB (seamL g an tol) k d) n ≤ 40 := by
  have key : ∀ j : Nat, ∃ c, ∀ s, (seamL g an tol)[j]? = some s → c = oCd k s := fun j => by
    cases h : (seamL g an tol)[j]? with
    | none => exact ⟨0, by intro s hs; cases hs⟩
    | some s => exact ⟨oCd k s, by intro s2 hs; cases hs; rfl⟩
  have ⟨f, hf⟩ := Classical.axiomOfChoice key
  refine ct_inj (f := f) (fun j hj q => ?_) (fun i j hij hj q1 q2 => ?_)
  · obtain ⟨s, hs, h⟩ := hitB_t.mp q
    rw [hf j s hs]
    obtain ⟨w1, w2, w3, w4, -⟩ := seam_at hs
    unfold oCd
    split <;> omega
  · obtain ⟨s, hs, h⟩ := hitB_t.mp q1
    obtain ⟨t, ht, h'⟩ := hitB_t.mp q2
    rw [hf i s hs, hf j t ht]
    have ne := seam_ne hp hs ht hij
    obtain ⟨w1, w2, w3, w4, -⟩ := seam_at hs
    obtain ⟨v1, v2, v3, v4, -⟩ := seam_at ht
    intro e
    apply ne
    obtain ⟨s1, s2, s3, s4⟩ := s
    obtain ⟨t1, t2, t3, t4⟩ := t
    unfold hitS at h h'
    unfold oCd at e
    simp only [] at *
    have : s1 = t1 ∧ s2 = t2 ∧ s3 = t3 ∧ s4 = t4 := by split at e <;> split at e <;> omega
    obtain ⟨z1, z2, z3, z4⟩ := this
    rw [z1, z2, z3, z4]
def xcv (g : Vc) (an : Nat → Int32) (tol : Int32) (k d i : Nat) (c : Int) : Prop := ∃ j s, j < i ∧ (seamL g an tol)[j]? = some s ∧ hitS k d s ∧ (sL g an s).toInt - tol.toInt ≤ c ∧ c < (sH g an s).toInt + tol.toInt
noncomputable def xOpn (g : Vc) (an : Nat → Int32) (tol : Int32) (k d : Nat) : Nat := un (fun c => ¬ xcv g an tol k d (seamL g an tol).length c) (zL g an k d).toInt (zH g an k d).toInt
theorem xOpn_le {g : Vc} {an : Nat → Int32} {tol : Int32} {k d : Nat} (hr : rngD g) (hk : k < pn g) : xOpn g an tol k d ≤ 18000 := by
  obtain ⟨⟨a1, a2⟩, ⟨a3, a4⟩, -⟩ := sL_b (an := an) hr hk d
  have := un_le (fun c => ¬ xcv g an tol k d (seamL g an tol).length c) (zL g an k d).toInt (zH g an k d).toInt
  unfold xOpn
  omega
def frO (m m2 : Mm) : Prop := ∀ b, b < 388 ∨ 391 ≤ b → m2.1 b = m.1 b
theorem frO_S {m m2 : Mm} (f : frO m m2) {b : Nat} (h : b < 388 ∨ 391 ≤ b) : m2.1 b = m.1 b := f b h
theorem cFd_O {m m2 : Mm} {g : Vc} {an : Nat → Int32} (hp : pn g ≤ 10) (h : cFd m g an) (f : frO m m2) : cFd m2 g an := by
  refine ⟨by rw [f 269 (by omega)]; exact h.1, fun k hk => ?_⟩
  have h2 := h.2 k hk
  unfold cF1 cP cL cS at h2 ⊢
  have e : ∀ b, b < 10 → m2.1 (283 + 10 * k + b) = m.1 (283 + 10 * k + b) := fun b hb => f _ (by omega)
  have e0 : m2.1 (283 + 10 * k) = m.1 (283 + 10 * k) := f _ (by omega)
  rw [e0, e 1 (by omega), e 2 (by omega), e 3 (by omega), e 4 (by omega), e 5 (by omega), e 6 (by omega), e 7 (by omega), e 8 (by omega), e 9 (by omega)]
  exact h2
theorem cSm_O {m m2 : Mm} {g : Vc} {an : Nat → Int32} {tol : Int32} {l : List Qd} (h : cSm m g an tol l) (f : frO m m2) : cSm m2 g an tol l := by
  unfold cSm at h ⊢
  rw [f 268 (by omega), f 383 (by omega), f 384 (by omega), f 385 (by omega), f 386 (by omega), f 387 (by omega)]
  exact h
theorem code_eq {p o k d : Nat} (hp : p < 10) (ho : o < 4) (hk : k < 10) (hd : d < 4) : nI (4 * p + o) = nI (4 * k + d) ↔ p = k ∧ o = d := by
  constructor
  · intro h
    by_cases z : 4 * p + o = 4 * k + d
    · omega
    · exact absurd h (ine z (by omega) (by omega))
  · rintro ⟨h1, h2⟩; rw [h1, h2]
theorem copen_ok {m : Mm} {g : Vc} {an : Nat → Int32} {tol : Int32} {k d : Nat} {K : Int32 → Mm → Prop} (hr : rngD g) (ht : inR tol 0 100) (hF : cFd m g an) (hS : cSm m g an tol (seamL g an tol)) (hl : (seamL g an tol).length ≤ 360) (hk : k < pn g) (hd : d < 4)
    (kk : ∀ m2, frO m m2 → K (nI (xOpn g an tol k d)) m2) : wp_X10_open (nI k) (nI d) m K := by
  have hp1 := hr.par.1
  obtain ⟨t1, t2⟩ := ht
  unfold wp_X10_open
  rw [if_neg (nI_pos (by omega)), if_pos (show nI d ≤ (3 : Int32) from ile (i := 3) (by omega) (by omega))]
  rintro y3 rfl
  rw [show (4 : Int32) = nI 4 from rfl, nI_mul, nI_add, poseAt_in (by omega)]
  unfold wp_X2_empty
  intro m1 h1
  have f1 : frO m m1 := fun b hb => by funext j; rw [h1, wI_ne _ _ _ _ (by omega)]
  have c1 : cvS m1 388 0 := ⟨by rw [h1, wI_same]; rfl, fun i j _ hj => by omega, fun i hi => by omega⟩
  refine loop_i (W := fun n i s => wp_X10_open_l27 _ K (nI k) (nI d) (nI (4 * k + d)) n (nI i) s) (I := fun i s => frO m s ∧ cvS s 388 (fb_ct (hitB (seamL g an tol) k d) i) ∧ ∀ c, cv s 388 0 (fb_ct (hitB (seamL g an tol) k d) i) c ↔ xcv g an tol k d i c) (seamL g an tol).length ?_ ?_ FU 0 m1 (by omega) (FU_gt (by omega)) ⟨f1, c1, fun c => ⟨by rintro ⟨j, q1, q2, -⟩; exact absurd q2 (by show ¬ j < 0; omega), by rintro ⟨j, s, q, -⟩; omega⟩⟩
  · rintro n s ⟨i1, i2, i3⟩
    show wb_X10_open_l27 _ _ _ _ _ _ _ _
    unfold wb_X10_open_l27
    have hS2 := cSm_O hS i1
    have hF2 := cFd_O hp1 hF i1
    rw [hS2.1, if_pos (ile (Nat.le_refl _) (by omega))]
    obtain ⟨p3, p9, p4, p5, p6, p7⟩ := side_c hF2 hk hd
    obtain ⟨a1, a2, a3⟩ := sL_b (an := an) hr hk d
    show wp_X2_uncovered _ _ _ _ _
    rw [clamp_nI (by omega), p4, p5]
    refine uncov_ok i2 (hit_le hp1 _) (inR_up a1 (by omega) (by omega)) (inR_up a2 (by omega) (by omega)) ?_
    have e : un (fun c => ¬ cv s 388 0 (fb_ct (hitB (seamL g an tol) k d) (seamL g an tol).length) c) (zL g an k d).toInt (zH g an k d).toInt = xOpn g an tol k d := un_congr (fun c _ _ => by rw [i3 c])
    rw [e]
    exact kk s i1
  · rintro n i s hi ⟨i1, i2, i3⟩ k2
    show wb_X10_open_l27 _ _ _ _ _ _ _ _
    unfold wb_X10_open_l27
    have hS2 := cSm_O hS i1
    rw [hS2.1, if_neg (inle hi (by omega)), if_neg (show ¬ (360 : Int32) ≤ nI i from inle (a := 360) (by omega) (by omega)), clamp_nI (by omega)]
    refine ⟨vp_in_nI (by omega) (by omega), ?_⟩
    obtain ⟨t, et⟩ : ∃ t, (seamL g an tol)[i]? = some t := ⟨_, List.getElem?_eq_getElem hi⟩
    obtain ⟨w1, w2, w3, w4, -, w6, w7⟩ := seam_at et
    obtain ⟨r1, r2, r3, r4, r5⟩ := hS2.2.2 i t et
    rw [r1, r2]
    have hadd : ∀ rec : Int32 → Mm → Prop, (∀ s', (frO m s' ∧ cvS s' 388 (fb_ct (hitB (seamL g an tol) k d) (i + 1)) ∧ ∀ c, cv s' 388 0 (fb_ct (hitB (seamL g an tol) k d) (i + 1)) c ↔ xcv g an tol k d (i + 1) c) → rec (nI (i + 1)) s') → hitS k d t → wp_X10_open_j66 rec K (nI k) (nI d) (nI (4 * k + d)) (nI i) s := by
      intro rec k2 hh
      unfold wp_X10_open_j66
      rw [clamp_nI (by omega), r3, r4, hS2.2.1, nI_1]
      refine ⟨vp_in_nI (by omega) (by omega), ?_⟩
      obtain ⟨⟨d1, d2⟩, ⟨d3, d4⟩⟩ := sLH_b (an := an) hr (s := t) (by omega) w2
      have e1 : (sL g an t - tol).toInt = (sL g an t).toInt - tol.toInt := fb_subI (by omega) (by omega)
      have e2 : (sH g an t + tol).toInt = (sH g an t).toInt + tol.toInt := fb_addI (by omega) (by omega)
      have hb : hitB (seamL g an tol) k d i = true := hitB_t.mpr ⟨t, et, hh⟩
      have hct : fb_ct (hitB (seamL g an tol) k d) (i + 1) = fb_ct (hitB (seamL g an tol) k d) i + 1 := by rw [fb_ct_succ, if_pos hb]
      have hct2 := hit_le (g := g) (an := an) (tol := tol) hp1 (k := k) (d := d) (i + 1)
      rw [fa_le] at w7
      refine cadd_ok i2 (by omega) ⟨by omega, by omega⟩ ⟨by omega, by omega⟩ (by omega) (fun m2 q1 q2 q3 => ?_)
      refine k2 m2 ⟨fun b hb => by rw [q3 b (by omega), i1 b hb], by rw [hct]; exact q1, fun c => ?_⟩
      rw [hct, q2 c, i3 c, e1, e2]
      constructor
      · rintro (⟨j, t', z1, z2, z3, z4⟩ | z)
        · exact ⟨j, t', by omega, z2, z3, z4⟩
        · exact ⟨i, t, by omega, et, hh, z⟩
      · rintro ⟨j, t', z1, z2, z3, z4⟩
        by_cases q : j = i
        · subst q
          rw [et] at z2
          cases z2
          exact Or.inr z4
        · exact Or.inl ⟨j, t', by omega, z2, z3, z4⟩
    by_cases h1 : t.1 = k ∧ t.2.1 = d
    · rw [if_pos ((code_eq (by omega) w3 (by omega) hd).mpr h1)]
      exact hadd _ k2 (Or.inl h1)
    · rw [if_neg (fun z => h1 ((code_eq (by omega) w3 (by omega) hd).mp z))]
      by_cases h2 : t.2.2.1 = k ∧ t.2.2.2 = d
      · rw [if_pos ((code_eq (by omega) w4 (by omega) hd).mpr h2)]
        exact hadd _ k2 (Or.inr h2)
      · rw [if_neg (fun z => h2 ((code_eq (by omega) w4 (by omega) hd).mp z)), nI_1]
        have hb : ¬ hitB (seamL g an tol) k d i = true := fun z => by
          obtain ⟨t', z1, z2⟩ := hitB_t.mp z
          rw [et] at z1
          cases z1
          rcases z2 with z | z
          · exact h1 z
          · exact h2 z
        have hct : fb_ct (hitB (seamL g an tol) k d) (i + 1) = fb_ct (hitB (seamL g an tol) k d) i := by rw [fb_ct_succ, if_neg hb]; omega
        refine k2 s ⟨i1, by rw [hct]; exact i2, fun c => ?_⟩
        rw [hct, i3 c]
        constructor
        · rintro ⟨j, t', z1, z2⟩
          exact ⟨j, t', by omega, z2⟩
        · rintro ⟨j, t', z1, z2, z3, z4⟩
          by_cases q : j = i
          · subst q
            exact absurd (hitB_t.mpr ⟨t', z2, z3⟩) hb
          · exact ⟨j, t', by omega, z2, z3, z4⟩
theorem ropen_ok {m : Mm} {g : Vc} {an : Nat → Int32} {tol : Int32} {k d : Nat} {K : Int32 → Mm → Prop} (hr : rngD g) (ht : inR tol 0 100) (hf : flatR m g (pn g)) (hF : fR m g an (pn g)) (hS : rSm m g an (seamL g an tol)) (hl : (seamL g an tol).length ≤ 720) (hk : k < pn g) (hd : d < 4)
    (kk : K (nI (xOpn g an tol k d)) m) : wp_X12_openOf (nI k) (nI d) tol m K := by
  have hp1 := hr.par.1
  have b1 := zA_lt (an := an) hr hk d
  obtain ⟨t1, t2⟩ := ht
  obtain ⟨⟨a1, a2⟩, ⟨a3, a4⟩, a5⟩ := sL_b (an := an) hr hk d
  unfold wp_X12_openOf
  refine rsax_ok hr hF hk hd ?_
  refine ⟨r_sfrom (by omega) b1, ?_⟩
  rw [r_from hF hf hk (by omega) hd b1]
  intro y4 h4
  have g4 : y4 = zL g an k d := h4
  clear h4
  subst g4
  have ei : ∀ i, i ≤ ((zH g an k d).toInt - (zL g an k d).toInt).toNat → (zL g an k d + nI i).toInt = (zL g an k d).toInt + i := fun i hi => by
    rw [fb_addI (by rw [nI_toInt (by omega)]; omega) (by rw [nI_toInt (by omega)]; omega), nI_toInt (by omega)]
  refine fa_post (P := fun x => wp_X12_openOf_l21 K (nI k) (nI d) tol (nI (zA g an k d)) FU 0 x m) (y := zL g an k d + nI 0) ?_ ?_
  · rw [fa_eq, ei 0 (by omega)]; omega
  refine loop_i (W := fun n i y => wp_X12_openOf_l21 K (nI k) (nI d) tol (nI (zA g an k d)) n y (zL g an k d + nI i) m) (I := fun i y => y = nI (cnP (fun c => ¬ xcv g an tol k d (seamL g an tol).length c) (zL g an k d).toInt i)) ((zH g an k d).toInt - (zL g an k d).toInt).toNat ?_ ?_ FU 0 0 (by omega) (FU_gt (by omega)) rfl
  · rintro n y rfl
    show wb_X12_openOf_l21 _ _ _ _ _ _ _ _ _
    unfold wb_X12_openOf_l21
    refine ⟨r_sto (by omega) b1, ?_⟩
    rw [r_to hF hf hk (by omega) hd b1]
    have e : mx32 (ck g an k (sb0 d) (zA g an k d)) (ck g an k (sb1 d) (zA g an k d)) = zH g an k d := rfl
    rw [e, if_pos (by rw [fa_le, ei _ (Nat.le_refl _)]; omega)]
    exact kk
  · rintro n i y hi rfl k2
    show wb_X12_openOf_l21 _ _ _ _ _ _ _ _ _
    unfold wb_X12_openOf_l21
    refine ⟨r_sto (by omega) b1, ?_⟩
    rw [r_to hF hf hk (by omega) hd b1]
    have e : mx32 (ck g an k (sb0 d) (zA g an k d)) (ck g an k (sb1 d) (zA g an k d)) = zH g an k d := rfl
    rw [e, if_neg (by rw [fa_le, ei _ (by omega)]; omega)]
    obtain ⟨c, hc⟩ : ∃ c : Int, c = (zL g an k d).toInt + i := ⟨_, rfl⟩
    have ec := ei i (by omega)
    rw [← hc] at ec
    refine loop_i (W := fun n2 j y => wp_X12_openOf_l40 _ K (nI k) (nI d) tol (nI (zA g an k d)) _ (zL g an k d + nI i) n2 y (nI (9 * j)) m) (I := fun j y => flag y (xcv g an tol k d j c)) (seamL g an tol).length ?_ ?_ FU 0 0 (by omega) (FU_gt (by omega)) (Or.inr ⟨rfl, by rintro ⟨j, s, q, -⟩; omega⟩)
    · intro n2 y hy
      show wb_X12_openOf_l40 _ _ _ _ _ _ _ _ _ _ _ _
      unfold wb_X12_openOf_l40
      rw [hS.1, show (9 : Int32) = nI 9 from rfl, nI_mul, if_pos (ile (Nat.le_refl _) (by omega))]
      show ∀ y51, y51 = _ → _
      rintro y51 h51 y52 h52
      have en : zL g an k d + nI i + 1 = zL g an k d + nI (i + 1) := by rw [Int32.add_assoc, nI_1]
      rw [en]
      refine k2 _ ?_
      rw [h52, h51]
      rcases hy with ⟨z1, z2⟩ | ⟨z1, z2⟩
      · rw [if_neg (by rw [z1]; decide), cnP_s0 (by rw [← hc]; exact fun z => z z2)]
        exact nI_add _ 0
      · rw [if_pos z1, cnP_s1 (by rw [← hc]; exact z2)]
        exact nI_1 _
    · intro n2 j y hj hy k3
      show wb_X12_openOf_l40 _ _ _ _ _ _ _ _ _ _ _ _
      unfold wb_X12_openOf_l40
      obtain ⟨t, et⟩ : ∃ t, (seamL g an tol)[j]? = some t := ⟨_, List.getElem?_eq_getElem hj⟩
      obtain ⟨w1, w2, w3, w4, -, w6, w7⟩ := seam_at et
      obtain ⟨r0, r1, r2, r3, r4, r5, r6, r7, r8⟩ := hS.2 j t et
      have ei2 : ∀ a : Nat, a < 9 → nI (9 * j) + nI a = nI (9 * j + a) := fun a ha => nI_add _ _
      have ec2 : ∀ a : Nat, a < 9 → (nI (9 * j + a)).toNatClampNeg = 9 * j + a := fun a ha => clamp_nI (by omega)
      have ev : ∀ a : Nat, a < 9 → vp_in (nI (9 * j + a)) 6480 := fun a ha => vp_in_nI (by omega) (by omega)
      have e9 : nI (9 * j) + nI 9 = nI (9 * (j + 1)) := nI_add _ _
      rw [hS.1, show (9 : Int32) = nI 9 from rfl, nI_mul, if_neg (inle (by omega) (by omega)), e9, clamp_nI (show 9 * j < 2 ^ 31 by omega), show (1 : Int32) = nI 1 from rfl, show (2 : Int32) = nI 2 from rfl, show (3 : Int32) = nI 3 from rfl, show (5 : Int32) = nI 5 from rfl, show (6 : Int32) = nI 6 from rfl, ei2 1 (by omega), ei2 2 (by omega), ei2 3 (by omega), ei2 5 (by omega), ei2 6 (by omega), ec2 1 (by omega), ec2 2 (by omega), ec2 3 (by omega), ec2 5 (by omega), ec2 6 (by omega), r0, r1, r2, r3, r5, r6, show nI 1 = (1 : Int32) from rfl]
      refine ⟨ev 0 (by omega), ⟨fun _ => ⟨ev 2 (by omega), fun _ => ev 3 (by omega)⟩, fun _ => ⟨ev 1 (by omega), fun _ => ⟨ev 2 (by omega), fun _ => ev 3 (by omega)⟩⟩⟩, ?_⟩
      intro y21 h21
      have f21 : flag y21 (hitS k d t) := by
        rw [h21, if_nI (by omega) (by omega), if_nI (by omega) (by omega), if_nI (by omega) (by omega), if_nI (by omega) (by omega)]
        unfold hitS flag
        by_cases q1 : t.1 = k
        · rw [if_pos q1]
          by_cases q2 : t.2.1 = d
          · rw [if_pos q2]; exact Or.inl ⟨rfl, Or.inl ⟨q1, q2⟩⟩
          · rw [if_neg q2, if_neg (by omega)]; exact Or.inr ⟨rfl, by omega⟩
        · rw [if_neg q1]
          by_cases q2 : t.2.2.1 = k
          · rw [if_pos q2]
            by_cases q3 : t.2.2.2 = d
            · rw [if_pos q3]; exact Or.inl ⟨rfl, Or.inr ⟨q2, q3⟩⟩
            · rw [if_neg q3]; exact Or.inr ⟨rfl, by omega⟩
          · rw [if_neg q2]; exact Or.inr ⟨rfl, by omega⟩
      refine ⟨fun _ _ => ⟨ev 5 (by omega), fun _ => ev 6 (by omega)⟩, ?_⟩
      intro y29 h29
      obtain ⟨⟨d1, d2⟩, ⟨d3, d4⟩⟩ := sLH_b (an := an) hr (s := t) (by omega) w2
      have e1 : (sL g an t - tol).toInt = (sL g an t).toInt - tol.toInt := fb_subI (by omega) (by omega)
      have e2 : (sH g an t + tol).toInt = (sH g an t).toInt + tol.toInt := fb_addI (by omega) (by omega)
      refine k3 y29 ?_
      have hstep : xcv g an tol k d (j + 1) c ↔ xcv g an tol k d j c ∨ (hitS k d t ∧ (sL g an t).toInt - tol.toInt ≤ c ∧ c < (sH g an t).toInt + tol.toInt) := by
        constructor
        · rintro ⟨j', t', z1, z2, z3, z4⟩
          by_cases q : j' = j
          · subst q
            rw [et] at z2
            cases z2
            exact Or.inr ⟨z3, z4⟩
          · exact Or.inl ⟨j', t', by omega, z2, z3, z4⟩
        · rintro (⟨j', t', z1, z2, z3, z4⟩ | ⟨z3, z4⟩)
          · exact ⟨j', t', by omega, z2, z3, z4⟩
          · exact ⟨j, t, by omega, et, z3, z4⟩
      rw [h29]
      refine flag_iff ?_ hstep.symm
      rcases hy with ⟨z1, z2⟩ | ⟨z1, z2⟩
      · rw [if_neg (by rw [z1]; decide)]; exact Or.inl ⟨rfl, Or.inl z2⟩
      · rw [if_pos z1]
        rcases f21 with ⟨u1, u2⟩ | ⟨u1, u2⟩
        · rw [if_neg (by rw [u1]; decide)]
          by_cases v1 : zL g an k d + nI i < sL g an t - tol
          · rw [if_pos v1]
            rw [fa_lt, ec, e1] at v1
            exact Or.inr ⟨rfl, by rintro (z | ⟨-, z, -⟩); exact z2 z; omega⟩
          · rw [if_neg v1]
            rw [fa_lt, ec, e1] at v1
            by_cases v2 : sH g an t + tol ≤ zL g an k d + nI i
            · rw [if_pos v2]
              rw [fa_le, ec, e2] at v2
              exact Or.inr ⟨rfl, by rintro (z | ⟨-, -, z⟩); exact z2 z; omega⟩
            · rw [if_neg v2]
              rw [fa_le, ec, e2] at v2
              exact Or.inl ⟨rfl, Or.inr ⟨u2, by omega, by omega⟩⟩
        · rw [if_pos u1]
          exact Or.inr ⟨rfl, by rintro (z | ⟨z, -⟩); exact z2 z; exact u2 z⟩
