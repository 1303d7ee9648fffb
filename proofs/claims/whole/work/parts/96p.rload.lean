/-! load: the reference's reader -/
abbrev tX (S : AS) (i : Nat) : Int32 := (sx S).getD i (-9)
abbrev Sd (S : AS) (g : Vc) (x : Int32) : AS := (g, sh S, ss S, sx S, x)
theorem tX_ok {S : AS} (hI : Inv S) : tOK (tX S) (sx S).length := by
  obtain ⟨-, -, -, -, -, h1, h2, -⟩ := hI
  refine ⟨h1, fun i hi => ?_, fun i hi => ?_⟩
  · show (sx S).getD i (-9) = -9
    rw [List.getD_eq_getElem?_getD, List.getElem?_eq_none hi]; rfl
  · show inR ((sx S).getD i (-9)) 0 127
    rw [List.getD_eq_getElem?_getD, List.getElem?_eq_getElem hi]
    exact h2 _ (List.getElem_mem hi)
theorem tX_get {S : AS} {i : Nat} (hi : i < (sx S).length) : (sx S)[i]? = some (tX S i) := by
  show (sx S)[i]? = some ((sx S).getD i (-9))
  rw [List.getD_eq_getElem?_getD, List.getElem?_eq_getElem hi]; rfl
theorem tX_9 {S : AS} (hI : Inv S) {i : Nat} (h : ¬ tX S i = -9) : i < (sx S).length := Decidable.byContradiction fun z => h ((tX_ok hI).2.1 i (by omega))
theorem tX_n9 {S : AS} (hI : Inv S) {i : Nat} (h : i < (sx S).length) : ¬ tX S i = -9 := fun z => by
  have := (tX_ok hI).2.2 i h
  rw [z] at this
  exact absurd this.1 (by decide)
theorem here_ok {m : Mm} {S : AS} {p : Nat} (hI : Inv S) (h12 : m.1 426 12 = nI (sx S).length) (h436 : ∀ i x, (sx S)[i]? = some x → m.1 436 i = x) (hp : p < 1000) : s_X12_here (nI p) m ∧ v_X12_here (nI p) m = tX S p := by
  have hL := (tX_ok hI).1
  unfold s_X12_here v_X12_here
  rw [h12, clamp_nI (by omega)]
  by_cases z : (sx S).length ≤ p
  · rw [if_pos (ile z (by omega)), (tX_ok hI).2.1 p z]
    exact ⟨fun w => absurd (ile z (by omega)) w, rfl⟩
  · rw [if_neg (inle (by omega) (by omega)), h436 p _ (tX_get (by omega))]
    exact ⟨fun _ => vp_in_nI (by omega) (by omega), rfl⟩
/-- the reference between two tokens: the draft row in 427, the row before in 438, the place in 426/14 -/
def LoS (m0 m : Mm) (S : AS) (g : Vc) (p : Nat) : Prop := RefR m (Sd S g 0) ∧ (∀ k, k < 137 → m.1 438 k = sg S k) ∧ m.1 426 14 = nI p ∧ ∀ b, b < 426 → m.1 b = m0.1 b
/-- the reference behind a fault -/
def LoF (m0 m : Mm) (S : AS) (R : PRs) : Prop := ∃ g, RefR m (Sd S g R.1) ∧ (∀ k, k < 137 → m.1 438 k = sg S k) ∧ m.1 426 14 = nI R.2.1 ∧ (∀ b, b < 426 → m.1 b = m0.1 b) ∧ (R.1 = 1 ∨ R.1 = 2 ∨ R.1 = 3)
theorem LS_here {m0 m : Mm} {S : AS} {g : Vc} {p q : Nat} (hI : Inv S) (h : LoS m0 m S g p) (hq : q < 1000) : s_X12_here (nI q) m ∧ v_X12_here (nI q) m = tX S q := here_ok hI h.1.2.2.2.1.1 h.1.2.2.2.1.2 hq
theorem LS_dg {m0 m : Mm} {S : AS} {g : Vc} {p q : Nat} (hI : Inv S) (h : LoS m0 m S g p) (hq : q < 1000) : s_X12_isDigit (nI q) m ∧ (v_X12_isDigit (nI q) m = 0 ↔ ¬ dgt (tX S q)) := by
  obtain ⟨h1, h2⟩ := LS_here hI h hq
  refine ⟨h1, ?_⟩
  unfold v_X12_isDigit
  rw [h2, in_iff]
  exact Iff.rfl
theorem LS_13 {m0 m : Mm} {S : AS} {g : Vc} {p : Nat} (h : LoS m0 m S g p) : m.1 426 13 = 0 := h.1.2.2.2.2
theorem LF_13 {m0 m : Mm} {S : AS} {R : PRs} (h : LoF m0 m S R) : ¬ m.1 426 13 = 0 := by
  obtain ⟨g, h1, h2, h3, h4, h5⟩ := h
  have e : m.1 426 13 = R.1 := h1.2.2.2.2
  rw [e]
  rcases h5 with z | z | z <;> rw [z] <;> decide
theorem LS_14 {m0 m : Mm} {S : AS} {g : Vc} {p : Nat} (q : Nat) (h : LoS m0 m S g p) : LoS m0 (wI m 426 14 (nI q)) S g q := by
  obtain ⟨h1, h2, h3, h4⟩ := h
  refine ⟨RefR_congr h1 ?_ ?_ ?_ (fun b hb => ?_), fun k hk => ?_, wI_same _ _ _ _, fun b hb => ?_⟩
  · rw [wI_nj _ _ _ _ (by omega)]
  · rw [wI_nj _ _ _ _ (by omega)]
  · rw [wI_nj _ _ _ _ (by omega)]
  · unfold rcell at hb; funext j; rw [wI_ne _ _ _ _ (by omega)]
  · rw [wI_ne _ _ _ _ (by omega)]; exact h2 k hk
  · rw [← h4 b hb]; funext j; rw [wI_ne _ _ _ _ (by omega)]
theorem LS_437 {m0 m : Mm} {S : AS} {g : Vc} {p : Nat} (j : Nat) (x : Int32) (h : LoS m0 m S g p) : LoS m0 (wI m 437 j x) S g p := by
  obtain ⟨h1, h2, h3, h4⟩ := h
  refine ⟨RefR_congr h1 ?_ ?_ ?_ (fun b hb => ?_), fun k hk => ?_, ?_, fun b hb => ?_⟩
  · rw [wI_ne _ _ _ _ (by omega)]
  · rw [wI_ne _ _ _ _ (by omega)]
  · rw [wI_ne _ _ _ _ (by omega)]
  · unfold rcell at hb; funext j; rw [wI_ne _ _ _ _ (by omega)]
  · rw [wI_ne _ _ _ _ (by omega)]; exact h2 k hk
  · rw [wI_ne _ _ _ _ (by omega)]; exact h3
  · rw [← h4 b hb]; funext j; rw [wI_ne _ _ _ _ (by omega)]
theorem LF_437 {m0 m : Mm} {S : AS} {R : PRs} (j : Nat) (x : Int32) (h : LoF m0 m S R) : LoF m0 (wI m 437 j x) S R := by
  obtain ⟨g, h1, h2, h3, h4, h5⟩ := h
  refine ⟨g, RefR_congr h1 ?_ ?_ ?_ (fun b hb => ?_), fun k hk => ?_, ?_, fun b hb => ?_, h5⟩
  · rw [wI_ne _ _ _ _ (by omega)]
  · rw [wI_ne _ _ _ _ (by omega)]
  · rw [wI_ne _ _ _ _ (by omega)]
  · unfold rcell at hb; funext j; rw [wI_ne _ _ _ _ (by omega)]
  · rw [wI_ne _ _ _ _ (by omega)]; exact h2 k hk
  · rw [wI_ne _ _ _ _ (by omega)]; exact h3
  · rw [← h4 b hb]; funext j; rw [wI_ne _ _ _ _ (by omega)]
theorem LF_14 {m0 m : Mm} {S : AS} {R : PRs} (h : LoF m0 m S R) : LoF m0 (wI m 426 14 (m.1 426 14)) S R := by
  obtain ⟨g, h1, h2, h3, h4, h5⟩ := h
  refine ⟨g, RefR_congr h1 ?_ ?_ ?_ (fun b hb => ?_), fun k hk => ?_, ?_, fun b hb => ?_, h5⟩
  · rw [wI_nj _ _ _ _ (by omega)]
  · rw [wI_nj _ _ _ _ (by omega)]
  · rw [wI_nj _ _ _ _ (by omega)]
  · unfold rcell at hb; funext j; rw [wI_ne _ _ _ _ (by omega)]
  · rw [wI_ne _ _ _ _ (by omega)]; exact h2 k hk
  · rw [wI_same]; exact h3
  · rw [← h4 b hb]; funext j; rw [wI_ne _ _ _ _ (by omega)]
theorem RefR_13 {m : Mm} {S : AS} {g : Vc} {y : Int32} (x : Int32) (h : RefR m (Sd S g y)) : RefR (wI m 426 13 x) (Sd S g x) := by
  have w : ∀ b, ¬ b = 426 → (wI m 426 13 x).1 b = m.1 b := fun b hb => by funext j; rw [wI_ne _ _ _ _ hb]
  obtain ⟨h1, ⟨h2, h3⟩, h4, ⟨h5, h6⟩, h7⟩ := h
  refine ⟨by rw [w 427 (by omega)]; exact h1, ⟨?_, by rw [w 429 (by omega)]; exact h3⟩, by rw [w 430 (by omega), w 431 (by omega)]; exact h4, ⟨?_, by rw [w 436 (by omega)]; exact h6⟩, wI_same _ _ _ _⟩
  · rw [wI_nj _ _ _ _ (by omega)]; exact h2
  · rw [wI_nj _ _ _ _ (by omega)]; exact h5
/-- a fault at the place where the reference stands -/
theorem faulty_ok {m0 m : Mm} {S : AS} {g : Vc} {p : Nat} {R : PRs} {x : Int32} {K : Mm → Prop} (h : LoS m0 m S g p) (h1 : R.1 = x) (h2 : R.2.1 = p) (h0 : x = 1 ∨ x = 2 ∨ x = 3) (kk : ∀ m2, LoF m0 m2 S R → (∀ b, b ≠ 426 → m2.1 b = m.1 b) → m2.1 426 14 = m.1 426 14 → K m2) : wp_X12_faulty x m K := by
  unfold wp_X12_faulty
  rw [if_pos (LS_13 h)]
  rintro m2 rfl
  obtain ⟨a1, a2, a3, a4⟩ := h
  refine kk _ ⟨g, by rw [h1]; exact RefR_13 x a1, fun k hk => ?_, ?_, fun b hb => ?_, by rw [h1]; exact h0⟩ (fun b hb => ?_) ?_
  · rw [wI_ne _ _ _ _ (by omega)]; exact a2 k hk
  · rw [wI_nj _ _ _ _ (by omega), h2]; exact a3
  · rw [← a4 b hb]; funext j; rw [wI_ne _ _ _ _ (by omega)]
  · funext j; rw [wI_ne _ _ _ _ hb]
  · rw [wI_nj _ _ _ _ (by omega)]
theorem faulty_0 {m0 m : Mm} {S : AS} {g : Vc} {p : Nat} {K : Mm → Prop} (h : LoS m0 m S g p) (kk : ∀ m2, LoS m0 m2 S g p → (∀ b, b ≠ 426 → m2.1 b = m.1 b) → K m2) : wp_X12_faulty 0 m K := by
  unfold wp_X12_faulty
  rw [if_pos (LS_13 h)]
  rintro m2 rfl
  obtain ⟨a1, a2, a3, a4⟩ := h
  refine kk _ ⟨RefR_13 0 a1, fun k hk => ?_, ?_, fun b hb => ?_⟩ (fun b hb => ?_)
  · rw [wI_ne _ _ _ _ (by omega)]; exact a2 k hk
  · rw [wI_nj _ _ _ _ (by omega)]; exact a3
  · rw [← a4 b hb]; funext j; rw [wI_ne _ _ _ _ (by omega)]
  · funext j; rw [wI_ne _ _ _ _ hb]
theorem PS_le {tx : Nat → Int32} {L : Nat} {R : PRs} {p : Nat} {c : Int32} {k : Nat} {nu : Nat → Int32} {g : Vc} {it : Nat} (h : PS tx L R p c k nu g it) : p ≤ L := h.elim fun _ w => w.2.1
theorem skips_n {S : AS} {R : PRs} {m0 : Mm} {g : Vc} {c : Int32} {k : Nat} {nu : Nat → Int32} {it : Nat} {K : Mm → Prop} (hI : Inv S) : ∀ n p m, (sx S).length < n + p → LoS m0 m S g p → PS (tX S) (sx S).length R p c k nu g it →
    (∀ m2 q, p ≤ q → LoS m0 m2 S g q → PS (tX S) (sx S).length R q c k nu g it → ¬ tX S q = 32 → m2.1 437 = m.1 437 → K m2) → wp_X12_skips_l0 K n m := by
  have hL := (tX_ok hI).1
  intro n
  induction n with
  | zero => intro p m h1 h2 h3 _; have := PS_le h3; omega
  | succ n ih =>
    intro p m h1 h2 h3 kk
    have h4 := PS_le h3
    show wb_X12_skips_l0 _ _ _
    unfold wb_X12_skips_l0
    obtain ⟨a1, a2⟩ := LS_here hI h2 (q := p) (by omega)
    rw [h2.2.2.1, a2]
    refine ⟨a1, ?_⟩
    by_cases z : tX S p = 32
    · have hp : p < (sx S).length := tX_9 hI (by rw [z]; decide)
      rw [if_pos z]
      rintro m3 rfl
      rw [nI_1]
      refine ih (p + 1) _ (by omega) (LS_14 (p + 1) h2) (PS_sp h3 hp z) (fun m2 q b1 b2 b3 b4 b5 => kk m2 q (by omega) b2 b3 b4 (by rw [b5]; funext j; rw [wI_ne _ _ _ _ (by omega)]))
    · rw [if_neg z]
      exact kk m p (Nat.le_refl _) h2 h3 z rfl
theorem skips_ok {S : AS} {R : PRs} {m0 m : Mm} {g : Vc} {c : Int32} {k : Nat} {nu : Nat → Int32} {it p : Nat} {K : Mm → Prop} (hI : Inv S) (h2 : LoS m0 m S g p) (h3 : PS (tX S) (sx S).length R p c k nu g it)
    (kk : ∀ m2 q, p ≤ q → LoS m0 m2 S g q → PS (tX S) (sx S).length R q c k nu g it → ¬ tX S q = 32 → m2.1 437 = m.1 437 → K m2) : wp_X12_skips m K := by
  have hL := (tX_ok hI).1
  unfold wp_X12_skips
  refine skips_n hI _ p m ?_ h2 h3 kk
  have := FU_gt (n := (sx S).length) (by omega)
  omega
abbrev eN (tx : Nat → Int32) (p : Nat) : Nat := if nOK tx p then nE tx p else p
theorem y3_eq (tx : Nat → Int32) (p : Nat) : (if tx p = (45 : Int32) then nI p + 1 else nI p) = nI (nF tx p) := by
  unfold nF
  by_cases z : tx p = 45
  · rw [if_pos z, if_pos z, nI_1]
  · rw [if_neg z, if_neg z]
theorem numberEnd_ok {S : AS} {m0 m : Mm} {g : Vc} {p : Nat} {K : Int32 → Mm → Prop} (hI : Inv S) (h : LoS m0 m S g p) (hp : p < (sx S).length) (kk : K (nI (eN (tX S) p)) m) : wp_X12_numberEnd (nI p) m K := by
  have hL := (tX_ok hI).1
  obtain ⟨a1, a2, a3, a4, a5, a6⟩ := nE_ok (tX_ok hI).1 (tX_ok hI).2.1 hp
  unfold wp_X12_numberEnd
  obtain ⟨b1, b2⟩ := LS_here hI h (q := p) (by omega)
  refine ⟨b1, ?_⟩
  rw [b2, y3_eq]
  rintro y3 rfl
  refine loop_a (σ := Unit) (wp := fun n i _ => wp_X12_numberEnd_l20 _ K (nI p) (nI (nF (tX S) p)) n i m) (I := fun _ _ => True) (a := nF (tX S) p) (N := nE (tX S) p) (by omega) (by omega) (fun n i _ h1 h2 _ => ?_) (fun n i _ h1 h2 _ k2 => ?_) (s0 := ()) trivial
  · have ei : i = nE (tX S) p := by omega
    subst ei
    show wb_X12_numberEnd_l20 _ _ _ _ _ _ _
    unfold wb_X12_numberEnd_l20
    obtain ⟨c1, c2⟩ := LS_dg hI h (q := nE (tX S) p) (by omega)
    rw [if_pos (c2.mpr a3)]
    refine ⟨c1, ?_⟩
    rintro y9 rfl
    rw [nI_sub a1]
    by_cases hn : nOK (tX S) p
    · rw [if_neg (show ¬ v_X12_in (nI (nE (tX S) p - nF (tX S) p)) 1 3 = 0 from in_ne (by rw [nI_toInt (by omega)]; show (1 : Int) ≤ _; have := hn.1; omega) (by rw [nI_toInt (by omega)]; show _ ≤ (3 : Int); have := hn.2; omega))]
      rw [show eN (tX S) p = nE (tX S) p from if_pos hn] at kk
      exact kk
    · rw [if_pos (show v_X12_in (nI (nE (tX S) p - nF (tX S) p)) 1 3 = 0 from in_iff.mpr (fun w => hn (by
        rw [nI_toInt (by omega)] at w
        have w1 : (1 : Int) ≤ ((nE (tX S) p - nF (tX S) p : Nat) : Int) := w.1
        have w2 : ((nE (tX S) p - nF (tX S) p : Nat) : Int) ≤ 3 := w.2
        exact ⟨by omega, by omega⟩)))]
      rw [show eN (tX S) p = p from if_neg hn] at kk
      exact kk
  · show wb_X12_numberEnd_l20 _ _ _ _ _ _ _
    unfold wb_X12_numberEnd_l20
    obtain ⟨c1, c2⟩ := LS_dg hI h (q := i) (by omega)
    rw [if_neg (fun w => c2.mp w (a2 i h1 h2))]
    exact ⟨c1, k2 () trivial⟩
theorem numberAt_ok {S : AS} {m : Mm} {p : Nat} {K : Int32 → Mm → Prop} (hI : Inv S) (h12 : m.1 426 12 = nI (sx S).length) (h436 : ∀ i x, (sx S)[i]? = some x → m.1 436 i = x) (hp : p < (sx S).length) (kk : ∀ y, (nOK (tX S) p → y = nV (tX S) p) → K y m) : wp_X12_numberAt (nI p) (nI (eN (tX S) p)) m K := by
  have hL := (tX_ok hI).1
  obtain ⟨a1, a2, a3, a4, a5, a6⟩ := nE_ok (tX_ok hI).1 (tX_ok hI).2.1 hp
  unfold wp_X12_numberAt
  obtain ⟨b1, b2⟩ := here_ok hI h12 h436 (p := p) (by omega)
  refine ⟨b1, ?_⟩
  rw [b2, y3_eq]
  rintro y3 rfl
  have eE : eN (tX S) p ≤ nE (tX S) p := by unfold eN; split <;> omega
  refine loop_a (wp := fun n i q => wp_X12_numberAt_l21 _ K (nI p) (nI (eN (tX S) p)) n q i m) (I := fun i q => q = vF (tX S) (nF (tX S) p) (i - nF (tX S) p)) (a := nF (tX S) p) (N := eN (tX S) p) (by omega) (by omega) (fun n i q h1 h2 hI2 => ?_) (fun n i q h1 h2 hI2 k2 => ?_) (s0 := 0) (by rw [Nat.sub_self]; rfl)
  · have hi : i ≤ nE (tX S) p := by omega
    show wb_X12_numberAt_l21 _ _ _ _ _ _ _ _
    unfold wb_X12_numberAt_l21
    rw [if_pos (ile h1 (by omega))]
    refine ⟨b1, ?_⟩
    rw [b2]
    rintro y11 rfl
    refine kk _ (fun hn => ?_)
    have hn1 := hn.1
    have e1 : eN (tX S) p = nE (tX S) p := if_pos hn
    have ei : i = nE (tX S) p := by omega
    unfold nV
    rw [hI2, ei]
  · show wb_X12_numberAt_l21 _ _ _ _ _ _ _ _
    unfold wb_X12_numberAt_l21
    obtain ⟨c1, c2⟩ := here_ok hI h12 h436 (p := i) (by omega)
    rw [if_neg (inle h2 (by omega)), c2]
    refine ⟨c1, ?_⟩
    rintro y6 rfl
    refine k2 _ ?_
    rw [show i + 1 - nF (tX S) p = i - nF (tX S) p + 1 by omega, vF_s, hI2, show nF (tX S) p + (i - nF (tX S) p) = i by omega]
