/-! cutLength -/
theorem fold_one {g : Vc} (hD : Dd g) {i j : Nat} (hi : 1 ≤ i) (hi2 : i < pn g) (hj : 1 ≤ j) (hj2 : j < pn g) {u : Int} (h1 : sdU g i (nearN g i) u) (h2 : sdU g j (nearN g j) u) : i = j := by
  obtain ⟨c, c1, c2, c3⟩ := h1
  obtain ⟨d, d1, d2, d3⟩ := h2
  obtain ⟨a1, a2, a3, -⟩ := lo_rng hD hi2 (nearN g i % 2)
  obtain ⟨b1, b2, b3, -⟩ := lo_rng hD hj2 (nearN g j % 2)
  obtain ⟨e1, e2, e3⟩ := cdU_inj (show nearN g i % 2 < 2 by omega) (show nearN g j % 2 < 2 by omega) (ln_rng hD hi2 _) (ln_rng hD hj2 _) ⟨by omega, by omega⟩ ⟨by omega, by omega⟩ (c3.symm.trans d3)
  obtain ⟨p, hp, hc⟩ := fold_cells hD hi hi2
  obtain ⟨q, hq, hd⟩ := fold_cells hD hj hj2
  have H1 := hc c c1 c2
  have H2 := hd d d1 d2
  rw [← e1, ← e2, ← e3] at H2
  by_cases z : nearN g i % 2 = 0
  · rw [if_pos z] at H1 H2
    rcases H1 with ⟨m1, m2⟩ | ⟨m1, m2⟩ <;> rcases H2 with ⟨n1, n2⟩ | ⟨n1, n2⟩
    · exact inC_one hD hi2 hj2 m1 n1
    · have x1 := inC_one hD hi2 (by omega) m1 n1
      have x2 := inC_one hD (by omega) hj2 m2 n2
      omega
    · have x1 := inC_one hD (by omega) hj2 m1 n1
      have x2 := inC_one hD hi2 (by omega) m2 n2
      omega
    · exact inC_one hD hi2 hj2 m2 n2
  · rw [if_neg z] at H1 H2
    rcases H1 with ⟨m1, m2⟩ | ⟨m1, m2⟩ <;> rcases H2 with ⟨n1, n2⟩ | ⟨n1, n2⟩
    · exact inC_one hD hi2 hj2 m1 n1
    · have x1 := inC_one hD hi2 (by omega) m1 n1
      have x2 := inC_one hD (by omega) hj2 m2 n2
      omega
    · have x1 := inC_one hD (by omega) hj2 m1 n1
      have x2 := inC_one hD hi2 (by omega) m2 n2
      omega
    · exact inC_one hD hi2 hj2 m2 n2
def lenN (g : Vc) (j : Nat) : Nat := (pf g j 3).toNatClampNeg
theorem near_len {g : Vc} (hD : Dd g) {j : Nat} (h1 : 1 ≤ j) (hj : j < pn g) : (hiI g (nearN g j % 2) j - loI g (nearN g j % 2) j).toNat = lenN g j ∧ pf g j 3 = nI (lenN g j) := by
  have hp1 := hD.ple
  obtain ⟨⟨p, hp, ep⟩, ⟨s, hs, es⟩, -, ⟨u3, u4⟩, -⟩ := hD.r.2.2.2.2.2.2 j (by omega) hj
  obtain ⟨er, -, -⟩ := hung_at hD (show p < pn g by omega) hj (by omega) hs ⟨ep, es⟩
  obtain ⟨v, v1, v2, v3⟩ := asN (x := pf g j 3) (by omega)
  have hn : nearN g j % 2 = s % 2 := by unfold nearN; rw [es, clamp_nI (by omega)]; omega
  obtain ⟨-, -, -, e⟩ := lo_rng hD hj (s % 2)
  have el : lenN g j = v := v3
  rw [el, hn]
  refine ⟨?_, v1⟩
  unfold hiI loI
  rw [e]
  unfold lo2
  have q0 : (nI s = (0 : Int32) ∨ nI s = (2 : Int32)) ↔ s % 2 = 0 := by
    rcases side4 hs with z | z | z | z <;> subst z <;> decide
  by_cases z : s % 2 = 0
  · rw [if_pos z, if_pos z]
    have x3 : (rect g j).2.2.1 = pf g j 3 := by rw [er]; simp only [hung, es, if_pos (q0.mpr z)]
    rw [x3]
    omega
  · rw [if_neg z, if_neg z]
    have x4 : (rect g j).2.2.2 = pf g j 3 := by rw [er]; simp only [hung, es, if_neg (fun q => z (q0.mp q))]
    rw [x4]
    omega
theorem folds_un {g : Vc} (hD : Dd g) : ∀ n, n ≤ pn g - 1 → un (fun u => ∃ i, i < n ∧ sdU g (1 + i) (nearN g (1 + i)) u) 0 UM = fb_sm (fun i => lenN g (1 + i)) n := by
  intro n
  induction n with
  | zero => exact fun _ => un_none (fun u _ _ => by rintro ⟨i, hi, -⟩; omega)
  | succ n ih =>
    intro hn
    rw [fb_sm_succ, ← ih (by omega)]
    have e : un (fun u => sdU g (1 + n) (nearN g (1 + n)) u) 0 UM = lenN g (1 + n) := by
      have h := side_un (s := nearN g (1 + n)) hD (show 1 + n < pn g by omega) (fun _ => True)
      rw [un_all (P := fun c => True) (fun _ _ _ => trivial), (near_len hD (by omega) (by omega)).1] at h
      rw [← h]
      exact un_congr (fun u _ _ => ⟨fun q => ⟨q, trivial⟩, fun q => q.1⟩)
    rw [← e, ← un_or]
    · refine un_congr (fun u _ _ => ?_)
      constructor
      · rintro ⟨i, hi, h⟩
        by_cases z : i = n
        · subst z; exact Or.inr h
        · exact Or.inl ⟨i, by omega, h⟩
      · rintro (⟨i, hi, h⟩ | h)
        · exact ⟨i, by omega, h⟩
        · exact ⟨n, by omega, h⟩
    · rintro u ⟨⟨i, hi, h⟩, h2⟩
      have := fold_one hD (show 1 ≤ 1 + i by omega) (by omega) (show 1 ≤ 1 + n by omega) (by omega) h h2
      omega
theorem fld_un {g : Vc} (hD : Dd g) : un (fldU g) 0 UM = fb_sm (fun i => lenN g (1 + i)) (pn g - 1) := by
  rw [← folds_un hD (pn g - 1) (Nat.le_refl _)]
  refine un_congr (fun u _ _ => ?_)
  constructor
  · rintro ⟨j, h1, h2, h3⟩
    exact ⟨j - 1, by omega, by rw [show 1 + (j - 1) = j by omega]; exact h3⟩
  · rintro ⟨i, hi, h⟩
    exact ⟨1 + i, by omega, by omega, h⟩
theorem xNew_un {g : Vc} (hD : Dd g) {k s : Nat} (hk : k < pn g) : xNew g k s = un (fun u => sdU g k s u ∧ (¬ allU g k u ∧ True)) 0 UM := by
  have h := side_un (s := s) hD hk (fun u => ¬ allU g k u ∧ True)
  rw [h]
  unfold xNew
  exact un_congr (fun c _ _ => ⟨fun q => ⟨q, trivial⟩, fun q => q.1⟩)
/-- the lengths of all lines, of the cuts -/
noncomputable def xAll (g : Vc) (n : Nat) : Nat := un (fun u => allU g n u ∧ True) 0 UM
noncomputable def xCutL (g : Vc) (n : Nat) : Nat := un (fun u => allU g n u ∧ ¬ fldU g u) 0 UM
theorem cut_sum {g : Vc} (hD : Dd g) : xAll g (pn g) = xCutL g (pn g) + fb_sm (fun i => lenN g (1 + i)) (pn g - 1) := by
  rw [← fld_un hD]
  unfold xAll xCutL
  rw [← un_or]
  · refine un_congr (fun u _ _ => ?_)
    constructor
    · rintro ⟨h, -⟩
      by_cases z : fldU g u
      · exact Or.inr z
      · exact Or.inl ⟨h, z⟩
    · rintro (⟨h, -⟩ | ⟨j, h1, h2, h3⟩)
      · exact ⟨h, trivial⟩
      · exact ⟨⟨j, nearN g j, h2, nearN_lt g j, h3⟩, trivial⟩
  · rintro u ⟨⟨-, h⟩, h2⟩
    exact h h2
theorem xAll_s {g : Vc} (hD : Dd g) {k : Nat} (hk : k < pn g) : xAll g (k + 1) = xAll g k + fb_sm (fun s => xNew g k s) 4 := by
  unfold xAll
  rw [add_sides hD hk (fun _ => True)]
  congr 1
  exact fb_sm_cong (fun s _ => (xNew_un hD hk).symm)
theorem xAll_0 (g : Vc) : xAll g 0 = 0 := un_none (fun u _ _ => by rintro ⟨⟨k, s, hk, -⟩, -⟩; omega)
/-! the class -/
def ln2 (g : Vc) (k s : Nat) : Int32 := if s = 0 ∨ s = 3 then lo2 g (1 - s % 2) k else hi2 g (1 - s % 2) k
theorem ln2_t (g : Vc) (k s : Nat) : (ln2 g k s).toInt = lnI g k s := by unfold ln2 lnI; split <;> rfl
theorem low_c {d : Nat} {g : Vc} {m : Mm} (hd : desR m.1 d g) {o e : Nat} (ho : o < pn g) (he : e < 2) : v_X7_lowOn (d + 5 + o) (nI e) m = lo2 g e o ∧ v_X7_highOn (d + 5 + o) (nI e) m = hi2 g e o := by
  obtain ⟨r1, r2, r3, r4⟩ := (hd.2.2.2.2 o ho).R
  unfold v_X7_lowOn v_X7_highOn lo2 hi2
  rw [r1, r2, r3, r4]
  have : e = 0 ∨ e = 1 := by omega
  rcases this with z | z <;> subst z
  · rw [if_pos (show nI 0 = (0 : Int32) from rfl), if_pos (show nI 0 = (0 : Int32) from rfl), if_pos rfl, if_pos rfl]; exact ⟨rfl, rfl⟩
  · rw [if_neg (show ¬ nI 1 = (0 : Int32) by decide), if_neg (show ¬ nI 1 = (0 : Int32) by decide), if_neg (by decide), if_neg (by decide)]; exact ⟨rfl, rfl⟩
theorem line_c {d : Nat} {g : Vc} {m : Mm} (hd : desR m.1 d g) {o s : Nat} (ho : o < pn g) (hs : s < 4) : v_X1_lineOf (d + 5 + o) (nI s) m = ln2 g o s := by
  unfold v_X1_lineOf ln2
  rw [and_1, show (1 : Int32) - nI (s % 2) = nI (1 - s % 2) from nI_sub (a := 1) (by omega), (low_c hd ho (show 1 - s % 2 < 2 by omega)).1, (low_c hd ho (show 1 - s % 2 < 2 by omega)).2]
  by_cases z0 : s = 0
  · rw [if_pos (show nI s = (0 : Int32) by rw [z0]; rfl), if_pos (Or.inl z0)]
  · rw [if_neg (show ¬ nI s = (0 : Int32) from ine (i := 0) z0 (by omega) (by omega))]
    by_cases z3 : s = 3
    · rw [if_pos (show nI s = (3 : Int32) by rw [z3]; rfl), if_pos (Or.inr z3)]
    · rw [if_neg (show ¬ nI s = (3 : Int32) from ine (i := 3) z3 (by omega) (by omega)), if_neg (by omega)]
theorem xor2 {s : Nat} (hs : s < 4) : nI s ^^^ (2 : Int32) = nI ((s + 2) % 4) := by rcases side4 hs with z | z | z | z <;> subst z <;> decide
theorem all_at {g : Vc} (hD : Dd g) {k n s : Nat} (hk : k < pn g) (hn : n ≤ pn g) (hs : s < 4) {c : Int} (c1 : loI g (s % 2) k ≤ c) (c2 : c < hiI g (s % 2) k) : allU g n (cdU (s % 2) (lnI g k s) + c) ↔ ∃ o, o < n ∧ (lnI g o s = lnI g k s ∨ lnI g o ((s + 2) % 4) = lnI g k s) ∧ loI g (s % 2) o ≤ c ∧ c < hiI g (s % 2) o := by
  obtain ⟨a1, a2, a3, -⟩ := lo_rng hD hk (s % 2)
  constructor
  · rintro ⟨o, t, ho, ht, d, d1, d2, d3⟩
    obtain ⟨b1, b2, b3, -⟩ := lo_rng hD (show o < pn g by omega) (t % 2)
    obtain ⟨e1, e2, e3⟩ := cdU_inj (show s % 2 < 2 by omega) (show t % 2 < 2 by omega) (ln_rng hD hk s) (ln_rng hD (show o < pn g by omega) t) ⟨by omega, by omega⟩ ⟨by omega, by omega⟩ d3
    refine ⟨o, ho, ?_, by rw [e1, e3]; exact d1, by rw [e1, e3]; exact d2⟩
    have : t = s ∨ t = (s + 2) % 4 := by omega
    rcases this with z | z
    · left; rw [e2, z]
    · right; rw [e2, z]
  · rintro ⟨o, ho, h | h, d1, d2⟩
    · exact ⟨o, s, ho, hs, c, d1, d2, by rw [h]⟩
    · have e : (s + 2) % 4 % 2 = s % 2 := by omega
      exact ⟨o, (s + 2) % 4, ho, by omega, c, by rw [e]; exact d1, by rw [e]; exact d2, by rw [h, e]⟩
def frL (m m2 : Mm) : Prop := ∀ b, b < 260 ∨ 263 ≤ b → m2.1 b = m.1 b
theorem newLine_ok {m : Mm} {g : Vc} {k s : Nat} {K : Int32 → Mm → Prop} (hD : Dd g) (hd : desR m.1 1 g) (hk : k < pn g) (hs : s < 4) (kk : ∀ m2, frL m m2 → K (nI (xNew g k s)) m2) : wp_X1_newLine 1 (nI k) (nI s) m K := by
  have hp1 := hD.ple
  have dF : ∀ m2, frL m m2 → desR m2.1 1 g := fun m2 f => desR_congr hp1 hd (fun b b1 b2 => f b (by omega))
  have rng : ∀ o, o < pn g → inR (lo2 g (s % 2) o) (-20000) 20000 ∧ inR (hi2 g (s % 2) o) (-20000) 20000 ∧ (lo2 g (s % 2) o).toInt ≤ (hi2 g (s % 2) o).toInt := fun o ho => by
    obtain ⟨a1, a2, a3, -⟩ := lo_rng hD ho (s % 2)
    simp only [loI, hiI] at a1 a2 a3
    unfold inR
    omega
  unfold wp_X1_newLine
  rw [and_1, panelAt_in (by omega), line_c hd hk hs]
  rintro y1 rfl y2 rfl
  unfold wp_X2_empty
  intro m1 h1
  have f1 : frL m m1 := fun b hb => by funext j; rw [h1, wI_ne _ _ _ _ (by omega)]
  have v1 : cvS m1 260 0 := ⟨by rw [h1, wI_same]; rfl, fun i j _ hj => by omega, fun i hi => by omega⟩
  refine loop_i (W := fun n i t => wp_X1_newLine_l30 _ K 1 (nI k) (nI s) (1 + 5 + k) (nI (s % 2)) (ln2 g k s) n (nI i) t) (I := fun i t => frL m t ∧ ∃ n, n ≤ i ∧ cvS t 260 n ∧ ∀ c, cv t 260 0 n c ↔ ∃ o, o < i ∧ (lnI g o s = lnI g k s ∨ lnI g o ((s + 2) % 4) = lnI g k s) ∧ loI g (s % 2) o ≤ c ∧ c < hiI g (s % 2) o) k ?_ ?_ FU 0 m1 (by omega) (FU_gt (by omega)) ⟨f1, 0, Nat.le_refl _, v1, fun c => ⟨by rintro ⟨j, -, q, -⟩; omega, by rintro ⟨o, q, -⟩; omega⟩⟩
  · rintro n t ⟨i1, n1, i2, i3, i4⟩
    show wb_X1_newLine_l30 _ _ _ _ _ _ _ _ _ _ _
    unfold wb_X1_newLine_l30
    rw [if_pos (ile (Nat.le_refl _) (by omega))]
    obtain ⟨q1, q2⟩ := low_c (dF t i1) hk (show s % 2 < 2 by omega)
    show wp_X2_uncovered _ _ _ _ _
    rw [q1, q2]
    refine uncov_ok i3 (by omega) (rng k hk).1 (rng k hk).2.1 ?_
    have e : un (fun c => ¬ cv t 260 0 n1 c) (lo2 g (s % 2) k).toInt (hi2 g (s % 2) k).toInt = xNew g k s := un_congr (fun c c1 c2 => by rw [i4 c, all_at hD hk (by omega) hs c1 c2])
    rw [e]
    exact kk t i1
  · rintro n i t hi ⟨i1, n1, i2, i3, i4⟩ k2
    show wb_X1_newLine_l30 _ _ _ _ _ _ _ _ _ _ _
    unfold wb_X1_newLine_l30
    have dt := dF t i1
    rw [if_neg (inle hi (by omega)), panelAt_in (by omega), xor2 hs, line_c dt (by omega) hs, line_c dt (by omega) (by omega)]
    have hadd : ∀ rec : Int32 → Mm → Prop, (∀ s', (frL m s' ∧ ∃ n, n ≤ i + 1 ∧ cvS s' 260 n ∧ ∀ c, cv s' 260 0 n c ↔ ∃ o, o < i + 1 ∧ (lnI g o s = lnI g k s ∨ lnI g o ((s + 2) % 4) = lnI g k s) ∧ loI g (s % 2) o ≤ c ∧ c < hiI g (s % 2) o) → rec (nI (i + 1)) s') → (lnI g i s = lnI g k s ∨ lnI g i ((s + 2) % 4) = lnI g k s) → wp_X1_newLine_j68 rec K 1 (nI k) (nI s) (1 + 5 + k) (nI (s % 2)) (ln2 g k s) (nI i) (1 + 5 + i) t := by
      intro rec k2 hh
      unfold wp_X1_newLine_j68
      obtain ⟨q1, q2⟩ := low_c dt (show i < pn g by omega) (show s % 2 < 2 by omega)
      rw [q1, q2, nI_1]
      obtain ⟨g1, g2, g3⟩ := rng i (by omega)
      refine cadd_ok i3 (by omega) g1 g2 g3 (fun m2 w1 w2 w3 => ?_)
      refine k2 m2 ⟨fun b hb => by rw [w3 b (by omega), i1 b hb], n1 + 1, by omega, w1, fun c => ?_⟩
      rw [w2 c, i4 c]
      constructor
      · rintro (⟨o, o1, o2⟩ | z)
        · exact ⟨o, by omega, o2⟩
        · exact ⟨i, by omega, hh, z⟩
      · rintro ⟨o, o1, o2, o3⟩
        by_cases q : o = i
        · subst q; exact Or.inr o3
        · exact Or.inl ⟨o, by omega, o2, o3⟩
    have eq : ∀ t' : Nat, (ln2 g i t' = ln2 g k s) ↔ lnI g i t' = lnI g k s := fun t' => by rw [fa_eq, ln2_t, ln2_t]
    by_cases z1 : ln2 g i s = ln2 g k s
    · rw [if_pos z1]; exact hadd _ k2 (Or.inl ((eq s).mp z1))
    · rw [if_neg z1]
      by_cases z2 : ln2 g i ((s + 2) % 4) = ln2 g k s
      · rw [if_pos z2]; exact hadd _ k2 (Or.inr ((eq _).mp z2))
      · rw [if_neg z2, nI_1]
        refine k2 t ⟨i1, n1, by omega, i3, fun c => ?_⟩
        rw [i4 c]
        constructor
        · rintro ⟨o, o1, o2⟩
          exact ⟨o, by omega, o2⟩
        · rintro ⟨o, o1, o2, o3⟩
          by_cases q : o = i
          · subst q
            rcases o2 with o2 | o2
            · exact absurd ((eq s).mpr o2) z1
            · exact absurd ((eq _).mpr o2) z2
          · exact ⟨o, by omega, o2, o3⟩
theorem ccuts_ok {m : Mm} {g : Vc} {K : Int32 → Mm → Prop} (hD : Dd g) (hd : desR m.1 1 g) (kk : ∀ m2, frL m m2 → K (nI (xCutL g (pn g))) m2) : wp_X1_cuts 1 m K := by
  have hp1 := hD.ple
  have dF : ∀ m2, frL m m2 → desR m2.1 1 g := fun m2 f => desR_congr hp1 hd (fun b b1 b2 => f b (by omega))
  have h4 : ∀ m2, frL m m2 → m2.1 1 4 = nI (pn g) := fun m2 f => by rw [(dF m2 f).2.2.1]; exact hD.g2
  unfold wp_X1_cuts
  refine loop_i (W := fun n i (q : Int32 × Mm) => wp_X1_cuts_l4 K 1 n q.1 (nI i) q.2) (I := fun i q => q.1 = nI (xAll g i) - nI (fb_sm (fun j => lenN g (1 + j)) (i - 1)) ∧ frL m q.2) (pn g) ?_ ?_ FU 0 (0, m) (by omega) (FU_gt (by omega)) ⟨by rw [xAll_0]; show (0 : Int32) = nI 0 - nI 0; decide, fun _ _ => rfl⟩
  · rintro n ⟨q1, q2⟩ ⟨i1, i2⟩
    show wb_X1_cuts_l4 _ _ _ _ _ _
    unfold wb_X1_cuts_l4
    rw [h4 q2 i2, if_pos (ile (Nat.le_refl _) (by omega))]
    have i1' : q1 = nI (xAll g (pn g)) - nI (fb_sm (fun j => lenN g (1 + j)) (pn g - 1)) := i1
    have cs := cut_sum hD
    show K q1 q2
    rw [i1', nI_sub (by omega), show xAll g (pn g) - fb_sm (fun j => lenN g (1 + j)) (pn g - 1) = xCutL g (pn g) by omega]
    exact kk q2 i2
  · rintro n k ⟨q1, q2⟩ hk ⟨i1, i2⟩ k2
    show wb_X1_cuts_l4 _ _ _ _ _ _
    unfold wb_X1_cuts_l4
    rw [h4 q2 i2, if_neg (inle hk (by omega))]
    have i1' : q1 = nI (xAll g k) - nI (fb_sm (fun j => lenN g (1 + j)) (k - 1)) := i1
    refine loop_i (W := fun n2 s (q : Int32 × Mm) => wp_X1_cuts_l15 _ K 1 (nI k) n2 q.1 (nI s) q.2) (I := fun s q => q.1 = nI (xAll g k) - nI (fb_sm (fun j => lenN g (1 + j)) (k - 1)) + nI (fb_sm (fun t => xNew g k t) s) ∧ frL m q.2) 4 ?_ ?_ FU 0 (q1, q2) (by omega) (FU_gt (by omega)) ⟨by show q1 = _ + nI 0; rw [i1', show nI 0 = (0 : Int32) from rfl, Int32.add_zero], i2⟩
    · rintro n2 ⟨r1, r2⟩ ⟨j1, j2⟩
      show wb_X1_cuts_l15 _ _ _ _ _ _ _ _
      unfold wb_X1_cuts_l15
      rw [if_pos (show (4 : Int32) ≤ nI 4 from ile (a := 4) (by omega) (by omega))]
      show ∀ y9, y9 = _ → _
      rw [panelAt_in (by omega), nI_1]
      rintro y9 h9 y10 rfl
      refine k2 (_, r2) ⟨?_, j2⟩
      have j1' : r1 = nI (xAll g k) - nI (fb_sm (fun j => lenN g (1 + j)) (k - 1)) + nI (fb_sm (fun t => xNew g k t) 4) := j1
      show r1 - y9 = nI (xAll g (k + 1)) - nI (fb_sm (fun j => lenN g (1 + j)) (k + 1 - 1))
      rw [j1', h9, xAll_s hD hk, ← nI_add]
      by_cases z : 0 < k
      · rw [if_neg (show ¬ nI k ≤ (0 : Int32) from inle (i := 0) z (by omega)), ((dF r2 j2).2.2.2.2 k hk).2.2.1 z 3 (by omega), (near_len hD z hk).2, show k + 1 - 1 = (k - 1) + 1 by omega, fb_sm_succ (fun j => lenN g (1 + j)) (k - 1), show 1 + (k - 1) = k by omega, ← nI_add (fb_sm (fun j => lenN g (1 + j)) (k - 1))]
        grind
      · rw [if_pos (show nI k ≤ (0 : Int32) from ile (i := 0) (by omega) (by omega)), show k = 0 by omega]
        show _ + _ - (0 : Int32) = _
        grind
    · rintro n2 s ⟨r1, r2⟩ hs ⟨j1, j2⟩ k3
      show wb_X1_cuts_l15 _ _ _ _ _ _ _ _
      unfold wb_X1_cuts_l15
      rw [if_neg (show ¬ (4 : Int32) ≤ nI s from inle (a := 4) hs (by omega)), nI_1 s]
      refine newLine_ok hD (dF r2 j2) hk hs (fun m3 f3 => ?_)
      rintro y5 rfl
      refine k3 (_, m3) ⟨?_, fun b hb => by rw [f3 b hb, j2 b hb]⟩
      have j1' : r1 = nI (xAll g k) - nI (fb_sm (fun j => lenN g (1 + j)) (k - 1)) + nI (fb_sm (fun t => xNew g k t) s) := j1
      show r1 + nI (xNew g k s) = _
      rw [j1', fb_sm_succ, ← nI_add, Int32.add_assoc]
