/-! load -/
theorem ps_good (tx : Nat → Int32) (L : Nat) : ∀ n p c k nu g it, Dd g → (c = 0 ∨ ¬ nof c = 0) → Dd (ps tx L n p c k nu g it).2.2.2 ∧ (∀ j, 125 ≤ j → (ps tx L n p c k nu g it).2.2.2 j = g j) ∧ ((ps tx L n p c k nu g it).1 = 0 ∨ (ps tx L n p c k nu g it).1 = 1 ∨ (ps tx L n p c k nu g it).1 = 2 ∨ (ps tx L n p c k nu g it).1 = 3) := by
  intro n
  induction n with
  | zero => intro p c k nu g it hD _; exact ⟨hD, fun _ _ => rfl, Or.inl rfl⟩
  | succ n ih =>
    intro p c k nu g it hD hc
    have e : ps tx L (n + 1) p c k nu g it = (if L ≤ p then (if c = 0 then (0, p, it, g) else (2, p, it, g))
      else if tx p = 32 then ps tx L n (p + 1) c k nu g it
      else if isN (tx p) then (if nOK tx p then (if c = 0 ∨ nof c ≤ k then (2, p, it, g) else ps tx L n (nE tx p) c (k + 1) (fun j => if j = k then nV tx p else nu j) g it) else (1, p, it, g))
      else if tx p = 59 then (if c = 0 ∨ k < nof c then (2, p, it, g) else (match co c nu g with | none => (3, p, it, g) | some g2 => ps tx L n (p + 1) 0 0 nu g2 (it + 1)))
      else if nof (tx p) = 0 then (1, p, it, g)
      else if c = 0 then ps tx L n (p + 1) (tx p) 0 (fun _ => 0) g it else (2, p, it, g)) := rfl
    have q1 : ∀ (p it : Nat), Dd ((1, p, it, g) : PRs).2.2.2 ∧ (∀ j, 125 ≤ j → ((1, p, it, g) : PRs).2.2.2 j = g j) ∧ (((1, p, it, g) : PRs).1 = 0 ∨ ((1, p, it, g) : PRs).1 = 1 ∨ ((1, p, it, g) : PRs).1 = 2 ∨ ((1, p, it, g) : PRs).1 = 3) := fun _ _ => ⟨hD, fun _ _ => rfl, Or.inr (Or.inl rfl)⟩
    have q2 : ∀ (p it : Nat), Dd ((2, p, it, g) : PRs).2.2.2 ∧ (∀ j, 125 ≤ j → ((2, p, it, g) : PRs).2.2.2 j = g j) ∧ (((2, p, it, g) : PRs).1 = 0 ∨ ((2, p, it, g) : PRs).1 = 1 ∨ ((2, p, it, g) : PRs).1 = 2 ∨ ((2, p, it, g) : PRs).1 = 3) := fun _ _ => ⟨hD, fun _ _ => rfl, Or.inr (Or.inr (Or.inl rfl))⟩
    rw [e]
    by_cases c1 : L ≤ p
    · rw [if_pos c1]
      by_cases c2 : c = 0
      · rw [if_pos c2]; exact ⟨hD, fun _ _ => rfl, Or.inl rfl⟩
      · rw [if_neg c2]; exact q2 p it
    rw [if_neg c1]
    by_cases c2 : tx p = 32
    · rw [if_pos c2]; exact ih _ _ _ _ _ _ hD hc
    rw [if_neg c2]
    by_cases c3 : isN (tx p)
    · rw [if_pos c3]
      by_cases c4 : nOK tx p
      · rw [if_pos c4]
        by_cases c5 : c = 0 ∨ nof c ≤ k
        · rw [if_pos c5]; exact q2 p it
        · rw [if_neg c5]; exact ih _ _ _ _ _ _ hD hc
      · rw [if_neg c4]; exact q1 p it
    rw [if_neg c3]
    by_cases c4 : tx p = 59
    · rw [if_pos c4]
      by_cases c5 : c = 0 ∨ k < nof c
      · rw [if_pos c5]; exact q2 p it
      · rw [if_neg c5]
        cases ho : co c nu g with
        | none => exact ⟨hD, fun _ _ => rfl, Or.inr (Or.inr (Or.inr rfl))⟩
        | some g2 =>
          obtain ⟨G1, G2⟩ := co_good hD (hc.resolve_left (fun w => c5 (Or.inl w))) ho
          obtain ⟨r1, r2, r3⟩ := ih (p + 1) 0 0 nu g2 (it + 1) G1 (Or.inl rfl)
          exact ⟨r1, fun j hj => by rw [← G2 j hj]; exact r2 j hj, r3⟩
    rw [if_neg c4]
    by_cases c5 : nof (tx p) = 0
    · rw [if_pos c5]; exact q1 p it
    rw [if_neg c5]
    by_cases c6 : c = 0
    · rw [if_pos c6]; exact ih _ _ _ _ _ _ hD (Or.inr c5)
    · rw [if_neg c6]; exact q2 p it
theorem load_n {S : AS} {R : PRs} {m0 : Mm} {k86 : Int32 → Mm → Prop} {K : Int32 → Mm → Prop} (hI : Inv S) (kF : ∀ x m, LoF m0 m S R → k86 x m) (kE : ∀ m g it, R = (0, (sx S).length, it, g) → LoS m0 m S g (sx S).length → k86 (nI it) m) :
    ∀ n p g nu it m, (sx S).length < n + p → LoS m0 m S g p → PS (tX S) (sx S).length R p 0 0 nu g it → ¬ tX S p = 32 → Dd g → wp_X12_load_l47 k86 K n (nI it) m := by
  have hL := (tX_ok hI).1
  intro n
  induction n with
  | zero => intro p g nu it m h1 _ h3 _ _; have := PS_le h3; omega
  | succ n ih =>
    intro p g nu it m h1 h2 h3 h4 hD
    have h5 := PS_le h3
    show wb_X12_load_l47 _ _ _ _ _
    unfold wb_X12_load_l47
    rw [if_pos (LS_13 h2), h2.2.2.1, show m.1 426 12 = nI (sx S).length from h2.1.2.2.2.1.1]
    by_cases z : (sx S).length ≤ p
    · have ep : p = (sx S).length := by omega
      rw [if_pos (ile z (by omega))]
      subst ep
      have hR := PS_end h3
      rw [if_pos rfl] at hR
      exact kE m g it hR h2
    · rw [if_neg (inle (by omega) (by omega))]
      refine readItem_ok hI h2 h3 (by omega) h4 hD (fun m11 hF => ?_) (fun m11 q nu2 g2 d1 d2 d3 d4 d5 => ?_)
      · rw [if_neg (LF_13 hF)]
        obtain ⟨n', rfl⟩ : ∃ n', n = n' + 1 := ⟨n - 1, by omega⟩
        show wb_X12_load_l47 _ _ _ _ _
        unfold wb_X12_load_l47
        rw [if_neg (LF_13 hF)]
        exact kF _ _ hF
      · rw [if_pos (LS_13 d2)]
        refine skips_ok hI d2 d3 (fun m13 q2 e1 e2 e3 e4 _ => ?_)
        rw [nI_1]
        exact ih q2 g2 nu2 (it + 1) m13 (by omega) e2 e3 e4 d4
abbrev SL (S : AS) (R : PRs) : AS := if R.1 = 0 then (R.2.2.2, [], ss S, sx S, 0) else (sg S, sh S, ss S, sx S, R.1)
theorem rload_ok {m : Mm} {S : AS} {R : PRs} {K : Int32 → Mm → Prop} (hI : Inv S) (hR : RefR m S) (hP : PS (tX S) (sx S).length R 0 0 0 (fun _ => 0) (gE (sg S)) 0) (kk : ∀ m2, RefR m2 (SL S R) → (∀ b, b < 426 → m2.1 b = m.1 b) → K (yR R) m2) : wp_X12_load m K := by
  have hL := (tX_ok hI).1
  unfold wp_X12_load
  refine load_l2 (clearDesign_ok ?_)
  rintro m6 rfl m7 h7
  have w : ∀ b, b ≠ 426 → b ≠ 427 → b ≠ 438 → m7.1 b = m.1 b := fun b b1 b2 b3 => by
    funext j
    rw [h7, wI_ne _ _ _ _ b1, wI_ne _ _ _ _ b1, wI_ne _ _ _ _ b2, wI_ne _ _ _ _ b2, zrA_get, if_neg (fun z => b2 z.1), cpA_get, if_neg (fun z => b3 z.1)]
  have w6 : ∀ j, j ≠ 13 → j ≠ 14 → m7.1 426 j = m.1 426 j := fun j j1 j2 => by
    rw [h7, wI_nj _ _ _ _ j2, wI_nj _ _ _ _ j1, wI_ne _ _ _ _ (by omega), wI_ne _ _ _ _ (by omega), zrA_get, if_neg (by omega), cpA_get, if_neg (by omega)]
  have L7 : LoS m m7 S (gE (sg S)) 0 := by
    obtain ⟨h1, ⟨h2, h3⟩, h4, ⟨h5, h6⟩, h7'⟩ := hR
    refine ⟨⟨fun k hk => ?_, ⟨by rw [w6 4 (by omega) (by omega)]; exact h2, by rw [w 429 (by omega) (by omega) (by omega)]; exact h3⟩, by rw [w 430 (by omega) (by omega) (by omega), w 431 (by omega) (by omega) (by omega)]; exact h4, ⟨by rw [w6 12 (by omega) (by omega)]; exact h5, by rw [w 436 (by omega) (by omega) (by omega)]; exact h6⟩, ?_⟩, fun k hk => ?_, ?_, fun b hb => w b (by omega) (by omega) (by omega)⟩
    · rw [h7, wI_ne _ _ _ _ (by omega), wI_ne _ _ _ _ (by omega)]
      show _ = gE (sg S) k
      unfold gE
      by_cases z1 : k = 1
      · rw [z1, wI_same, vset_same]
      · rw [wI_nj _ _ _ _ z1, vset_ne _ _ z1]
        by_cases z0 : k = 0
        · rw [z0, wI_same, vset_same]
        · rw [wI_nj _ _ _ _ z0, vset_ne _ _ z0, zrA_get]
          by_cases z : k < 125
          · rw [if_pos ⟨rfl, z⟩, if_pos z]
          · rw [if_neg (fun q => z q.2), if_neg z, cpA_get, if_neg (by omega)]; exact h1 k hk
    · rw [h7, wI_nj _ _ _ _ (by omega), wI_same]
    · rw [h7, wI_ne _ _ _ _ (by omega), wI_ne _ _ _ _ (by omega), wI_ne _ _ _ _ (by omega), wI_ne _ _ _ _ (by omega), zrA_get, if_neg (by omega), cpA_get, if_pos (by omega)]
      simpa using h1 k hk
    · rw [h7, wI_same]; rfl
  refine skips_ok hI L7 hP (fun m8 q _ e2 e3 e4 _ => ?_)
  have hfu : (sx S).length < FU + q := by
    have := FU_gt (n := (sx S).length) (by omega)
    omega
  refine load_n (m0 := m) hI (fun x m15 hF => ?_) (fun m15 g it hR2 h15 => ?_) _ q (gE (sg S)) _ 0 m8 hfu e2 e3 e4 (gE_Dd _)
  · obtain ⟨g, h1, h2, h3, h4, h5⟩ := hF
    have e13 : m15.1 426 13 = R.1 := h1.2.2.2.2
    have n0 : ¬ R.1 = 0 := by rcases h5 with z | z | z <;> rw [z] <;> decide
    rw [if_neg (show ¬ m15.1 426 13 ≤ 0 by rw [e13]; rcases h5 with z | z | z <;> rw [z] <;> decide)]
    refine load_l95 ?_
    have v : ∀ b, b ≠ 427 → (cpA m15 438 427 0 0 137).1 b = m15.1 b := fun b hb => by funext j; rw [cpA_get, if_neg (fun z => hb z.1)]
    have key := kk (cpA m15 438 427 0 0 137)
    rw [show SL S R = (sg S, sh S, ss S, sx S, R.1) from if_neg n0, show yR R = -10 - nI R.2.1 from if_neg n0] at key
    rw [v 426 (by omega), h3]
    obtain ⟨h1, ⟨i2, i3⟩, i4, ⟨i5, i6⟩, i7⟩ := h1
    refine key ⟨fun k hk => ?_, ⟨by rw [v 426 (by omega)]; exact i2, by rw [v 429 (by omega)]; exact i3⟩, by rw [v 430 (by omega), v 431 (by omega)]; exact i4, ⟨by rw [v 426 (by omega)]; exact i5, by rw [v 436 (by omega)]; exact i6⟩, by rw [v 426 (by omega)]; exact i7⟩ (fun b hb => by rw [v b (by omega)]; exact h4 b hb)
    rw [cpA_get, if_pos (by omega)]
    simpa using h2 k hk
  · rw [if_pos (show m15.1 426 13 ≤ 0 by rw [LS_13 h15]; decide)]
    rintro m17 rfl
    have n0 : R.1 = 0 := by rw [hR2]
    have key := kk (wI m15 426 4 0)
    rw [show SL S R = (R.2.2.2, [], ss S, sx S, 0) from if_pos n0, show yR R = nI R.2.2.1 from if_pos n0, hR2] at key
    obtain ⟨⟨h1, ⟨i2, i3⟩, i4, ⟨i5, i6⟩, i7⟩, h2, h3, h4⟩ := h15
    have v : ∀ b, b ≠ 426 → (wI m15 426 4 0).1 b = m15.1 b := fun b hb => by funext j; rw [wI_ne _ _ _ _ hb]
    refine key ⟨by rw [v 427 (by omega)]; exact h1, ⟨by rw [wI_same]; rfl, fun j v hv => by cases hv⟩, by rw [v 430 (by omega), v 431 (by omega)]; exact i4, ⟨by rw [wI_nj _ _ _ _ (by omega)]; exact i5, by rw [v 436 (by omega)]; exact i6⟩, by rw [wI_nj _ _ _ _ (by omega)]; exact i7⟩ (fun b hb => by rw [v b (by omega)]; exact h4 b hb)
theorem op_load {m : Mm} {S : AS} {P : Int32 → Int32 → Mm → Prop} (h : Sim m S) (kk : ∀ r m2 S2, Sim m2 S2 → P r r m2) : wp_X11_load m (fun r m1 => wp_X12_load m1 (fun r2 m2 => P r r2 m2)) := by
  have hI := h.2.2
  have hL := (tX_ok hI).1
  obtain ⟨R, hP, hg⟩ : ∃ R, PS (tX S) (sx S).length R 0 0 0 (fun _ => 0) (gE (sg S)) 0 ∧ Dd R.2.2.2 ∧ (∀ j, 125 ≤ j → R.2.2.2 j = gE (sg S) j) ∧ (R.1 = 0 ∨ R.1 = 1 ∨ R.1 = 2 ∨ R.1 = 3) :=
    ⟨ps (tX S) (sx S).length 200 0 0 0 (fun _ => 0) (gE (sg S)) 0, ⟨200, by omega, by omega, rfl⟩, ps_good _ _ _ _ _ _ _ _ _ (gE_Dd _) (Or.inl rfl)⟩
  obtain ⟨g1, g2, g3⟩ := hg
  refine combine (c := wp_X11_load m) (d := wp_X12_load) (r := yR R) (S2 := SL S R) h (fun K k1 => ?_) (fun m1 K hR k1 => rload_ok hI hR hP k1) ?_ kk
  · unfold wp_X11_load
    obtain ⟨c1, c2, ⟨c3, o, ho, c4, c5⟩, c6, ⟨c7, c8⟩, c9⟩ := h.2.1
    rw [c7]
    refine read_ok (g0 := sg S) (tX_ok hI) (fun i hi => c8 i _ (tX_get hi)) hP (fun m1 hO => ?_)
    obtain ⟨o1, o2, o3⟩ := hO
    rintro m3 rfl
    rw [wI_same, o1]
    have w3 : ∀ b, b ≠ 0 → b < 242 ∨ 259 ≤ b → (wI m1 0 15 R.1).1 b = m.1 b := fun b b0 hb => by rw [← o2 b hb]; funext j; rw [wI_ne _ _ _ _ b0]
    by_cases n0 : R.1 = 0
    · rw [if_pos n0]
      obtain ⟨d1, d2, d3⟩ := o3 n0
      have d1' : desR (wI m1 0 15 R.1).1 243 R.2.2.2 := desR_congr d2.ple d1 (fun b b1 b2 => by funext j; rw [wI_ne _ _ _ _ (by omega)])
      refine become_ok (n := pn R.2.2.2) (by omega) (by rw [d1'.2.2.1]; exact d2.g2) d2.ple ?_
      have hd2 := desR_bcm (d := 1) (e := 243) (by omega) d2.ple d1'
      have hb : ∀ b, b = 0 ∨ 16 ≤ b → (bcm (wI m1 0 15 R.1) 1 243 (pn R.2.2.2)).1 b = (wI m1 0 15 R.1).1 b := fun b hb => bcm_out (by omega) d2.ple
      unfold wp_X6_forgetAll
      rintro m6 rfl m8 h8
      rw [show SL S R = (R.2.2.2, [], ss S, sx S, 0) from if_pos n0] at k1
      have v : ∀ b, b ≠ 33 → m8.1 b = (bcm (wI m1 0 15 R.1) 1 243 (pn R.2.2.2)).1 b := fun b hb => by funext j; rw [h8, wI_ne _ _ _ _ hb, wI_ne _ _ _ _ hb]
      have e0 : ∀ j, j ≠ 15 → m8.1 0 j = m.1 0 j := fun j hj => by rw [v 0 (by omega), hb 0 (by omega), wI_nj _ _ _ _ hj, o2 0 (by omega)]
      have ev : ∀ b, b ≠ 33 → 16 ≤ b → b < 242 ∨ 259 ≤ b → m8.1 b = m.1 b := fun b b1 b2 b3 => by rw [v b b1, hb b (by omega), w3 b (by omega) b3]
      refine k1 m8 ⟨desR_congr d2.ple hd2 (fun b b1 b2 => v b (by omega)), limR_congr (f := m.1) (a := 265) (b := 266) ⟨fun i hi => ?_, fun i hi => ?_⟩ (ev 265 (by omega) (by omega) (by omega)) (ev 266 (by omega) (by omega) (by omega)), ⟨?_, 0, by omega, ?_, fun j v hv => by cases hv⟩, fun q hq => ?_, ⟨?_, ?_⟩, ?_⟩ (fun b hb => ev b (by omega) (by omega) (by omega))
      · rw [c2.1 i hi]; exact (d3 _ (by omega)).symm
      · rw [c2.2 i hi]; exact (d3 _ (by omega)).symm
      · rw [h8, wI_nj _ _ _ _ (by omega), wI_same]; rfl
      · rw [h8, wI_same]; rfl
      · have := c6 q hq
        show match ss S q with | none => _ | some v => _
        cases hs : ss S q with
        | none => rw [hs] at this; rw [ev 32 (by omega) (by omega) (by omega)]; exact this
        | some v =>
          rw [hs] at this
          exact ⟨by rw [ev 32 (by omega) (by omega) (by omega)]; exact this.1, desR_congr (hI.2.2.2.2.1 q v hs).ple this.2 (fun b h1 h2 => ev b (by omega) (by omega) (by omega))⟩
      · rw [e0 14 (by omega)]; exact c7
      · intro i x hx
        rw [ev 241 (by omega) (by omega) (by omega)]; exact c8 i x hx
      · rw [v 0 (by omega), hb 0 (by omega), wI_same]; exact n0
    · rw [if_neg n0]
      rw [show SL S R = (sg S, sh S, ss S, sx S, R.1) from if_neg n0] at k1
      refine k1 _ (ClsR_text hI h.2.1 (fun b hb b0 b1 => w3 b b0 (by unfold ccell at hb; omega)) ?_ (fun i x hx => ?_) (wI_same _ _ _ _)) (fun b hb => w3 b (by omega) (by omega))
      · rw [wI_nj _ _ _ _ (by omega), o2 0 (by omega)]; exact c7
      · rw [w3 241 (by omega) (by omega)]; exact c8 i x hx
  · obtain ⟨i1, i2, i3, i4, i5, i6, i7, i8⟩ := hI
    by_cases n0 : R.1 = 0
    · rw [show SL S R = (R.2.2.2, [], ss S, sx S, 0) from if_pos n0]
      have G : ∀ j, 125 ≤ j → R.2.2.2 j = sg S j := fun j hj => by rw [g2 j hj]; exact gE_hi hj
      refine ⟨g1, ⟨fun i hi => ?_, ?_, fun i hi => ?_⟩, Nat.zero_le _, ⟨fun v hv => ?_, ⟨i5, ⟨i6, ⟨i7, ?_⟩⟩⟩⟩⟩
      · show inR (R.2.2.2 (125 + i)) 0 20
        rw [G _ (by omega)]; exact i2.1 i hi
      · show inR (R.2.2.2 128) 0 100
        rw [G _ (by omega)]; exact i2.2.1
      · show inR (R.2.2.2 (129 + i)) 0 9
        rw [G _ (by omega)]; exact i2.2.2 i hi
      · exact absurd (show v ∈ ([] : List Vc) from hv) (List.not_mem_nil)
      · show inR (0 : Int32) 0 3
        exact ⟨by decide, by decide⟩
    · rw [show SL S R = (sg S, sh S, ss S, sx S, R.1) from if_neg n0]
      refine ⟨i1, i2, i3, i4, i5, i6, i7, ?_⟩
      show inR R.1 0 3
      rcases g3 with z | z | z | z <;> rw [z] <;> exact ⟨by decide, by decide⟩
