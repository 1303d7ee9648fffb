/-! pitch, rowCount -/
def smF (g : Vc) (e : Nat) : Int32 := ifo (fun i y => mn32 y (lo2 g e i)) (lo2 g e 0) 1 (pn g - 1)
def grF (g : Vc) (e : Nat) : Int32 := ifo (fun i y => mx32 y (hi2 g e i)) (hi2 g e 0) 1 (pn g - 1)
theorem sm_b {g : Vc} (hD : Dd g) (h0 : 0 < pn g) (e : Nat) : (0 ≤ (smF g e).toInt ∧ (smF g e).toInt ≤ 300 ∧ ∀ k, k < pn g → (smF g e).toInt ≤ loI g e k) ∧ (0 ≤ (grF g e).toInt ∧ (grF g e).toInt ≤ 300 ∧ ∀ k, k < pn g → hiI g e k ≤ (grF g e).toInt) := by
  constructor
  · have h : ∀ n, n ≤ pn g - 1 → 0 ≤ (ifo (fun i y => mn32 y (lo2 g e i)) (lo2 g e 0) 1 n).toInt ∧ (ifo (fun i y => mn32 y (lo2 g e i)) (lo2 g e 0) 1 n).toInt ≤ 300 ∧ ∀ k, k < n + 1 → (ifo (fun i y => mn32 y (lo2 g e i)) (lo2 g e 0) 1 n).toInt ≤ loI g e k := by
      intro n
      induction n with
      | zero =>
        intro _
        obtain ⟨a1, a2, a3, -⟩ := lo_rng hD h0 e
        refine ⟨a1, by show loI g e 0 ≤ 300; omega, fun k hk => by rw [show k = 0 by omega]; exact Int.le_refl _⟩
      | succ n ih =>
        intro hn
        obtain ⟨i1, i2, i3⟩ := ih (by omega)
        obtain ⟨a1, a2, a3, -⟩ := lo_rng hD (show 1 + n < pn g by omega) e
        have em := mn_t (ifo (fun i y => mn32 y (lo2 g e i)) (lo2 g e 0) 1 n) (lo2 g e (1 + n))
        have es : ifo (fun i y => mn32 y (lo2 g e i)) (lo2 g e 0) 1 (n + 1) = mn32 (ifo (fun i y => mn32 y (lo2 g e i)) (lo2 g e 0) 1 n) (lo2 g e (1 + n)) := rfl
        have el : loI g e (1 + n) = (lo2 g e (1 + n)).toInt := rfl
        rw [es]
        refine ⟨by split at em <;> omega, by split at em <;> omega, fun k hk => ?_⟩
        by_cases z : k = 1 + n
        · rw [z, el]; split at em <;> omega
        · have := i3 k (by omega); split at em <;> omega
    obtain ⟨h1, h2, h3⟩ := h (pn g - 1) (Nat.le_refl _)
    exact ⟨h1, h2, fun k hk => h3 k (by omega)⟩
  · have h : ∀ n, n ≤ pn g - 1 → 0 ≤ (ifo (fun i y => mx32 y (hi2 g e i)) (hi2 g e 0) 1 n).toInt ∧ (ifo (fun i y => mx32 y (hi2 g e i)) (hi2 g e 0) 1 n).toInt ≤ 300 ∧ ∀ k, k < n + 1 → hiI g e k ≤ (ifo (fun i y => mx32 y (hi2 g e i)) (hi2 g e 0) 1 n).toInt := by
      intro n
      induction n with
      | zero =>
        intro _
        obtain ⟨a1, a2, a3, -⟩ := lo_rng hD h0 e
        refine ⟨by show 0 ≤ hiI g e 0; omega, a3, fun k hk => by rw [show k = 0 by omega]; exact Int.le_refl _⟩
      | succ n ih =>
        intro hn
        obtain ⟨i1, i2, i3⟩ := ih (by omega)
        obtain ⟨a1, a2, a3, -⟩ := lo_rng hD (show 1 + n < pn g by omega) e
        have em := mx_t (ifo (fun i y => mx32 y (hi2 g e i)) (hi2 g e 0) 1 n) (hi2 g e (1 + n))
        have es : ifo (fun i y => mx32 y (hi2 g e i)) (hi2 g e 0) 1 (n + 1) = mx32 (ifo (fun i y => mx32 y (hi2 g e i)) (hi2 g e 0) 1 n) (hi2 g e (1 + n)) := rfl
        have el : hiI g e (1 + n) = (hi2 g e (1 + n)).toInt := rfl
        rw [es]
        refine ⟨by split at em <;> omega, by split at em <;> omega, fun k hk => ?_⟩
        by_cases z : k = 1 + n
        · rw [z, el]; split at em <;> omega
        · have := i3 k (by omega); split at em <;> omega
    obtain ⟨h1, h2, h3⟩ := h (pn g - 1) (Nat.le_refl _)
    exact ⟨h1, h2, fun k hk => h3 k (by omega)⟩
theorem csmall_ok {m : Mm} {g : Vc} {e : Nat} {K : Int32 → Mm → Prop} (hD : Dd g) (h0 : 0 < pn g) (hd : desR m.1 1 g) (he : e < 2) (kk : K (smF g e) m) : wp_X1_smallest 1 (nI e) m K := by
  have hp1 := hD.ple
  have h4 : m.1 1 4 = nI (pn g) := by rw [hd.2.2.1]; exact hD.g2
  unfold wp_X1_smallest
  rw [show v_X3_panelAt 1 (0 : Int32) = 1 + 5 + 0 from panelAt_in (d := 1) (i := 0) (by omega), (low_c hd h0 he).1]
  rintro y1 rfl
  refine acc_loop (wp := fun n i y => wp_X1_smallest_l12 K 1 (nI e) n y i m) (a := 1) (N := pn g) (fun i y => mn32 y (lo2 g e i)) (by omega) (by omega) (fun n i h1 h2 => ?_) (fun n i y h1 h2 k2 => ?_)
  · show wb_X1_smallest_l12 _ _ _ _ _ _ _
    unfold wb_X1_smallest_l12
    rw [h4, if_pos (ile h1 (by omega))]
    exact kk
  · show wb_X1_smallest_l12 _ _ _ _ _ _ _
    unfold wb_X1_smallest_l12
    rw [h4, if_neg (inle h2 (by omega)), panelAt_in (by omega), (low_c hd h2 he).1]
    rintro y3 rfl
    exact k2
theorem cgreat_ok {m : Mm} {g : Vc} {e : Nat} {K : Int32 → Mm → Prop} (hD : Dd g) (h0 : 0 < pn g) (hd : desR m.1 1 g) (he : e < 2) (kk : K (grF g e) m) : wp_X1_greatest 1 (nI e) m K := by
  have hp1 := hD.ple
  have h4 : m.1 1 4 = nI (pn g) := by rw [hd.2.2.1]; exact hD.g2
  unfold wp_X1_greatest
  rw [show v_X3_panelAt 1 (0 : Int32) = 1 + 5 + 0 from panelAt_in (d := 1) (i := 0) (by omega), (low_c hd h0 he).2]
  rintro y1 rfl
  refine acc_loop (wp := fun n i y => wp_X1_greatest_l12 K 1 (nI e) n y i m) (a := 1) (N := pn g) (fun i y => mx32 y (hi2 g e i)) (by omega) (by omega) (fun n i h1 h2 => ?_) (fun n i y h1 h2 k2 => ?_)
  · show wb_X1_greatest_l12 _ _ _ _ _ _ _
    unfold wb_X1_greatest_l12
    rw [h4, if_pos (ile h1 (by omega))]
    exact kk
  · show wb_X1_greatest_l12 _ _ _ _ _ _ _
    unfold wb_X1_greatest_l12
    rw [h4, if_neg (inle h2 (by omega)), panelAt_in (by omega), (low_c hd h2 he).2]
    rintro y3 rfl
    exact k2
theorem rleast_ok {m : Mm} {g : Vc} {e : Nat} {K : Int32 → Mm → Prop} (hD : Dd g) (h0 : 0 < pn g) (hs : stR m g) (hf : flatR m g (pn g)) (he : e < 2) (kk : K (smF g e) m) : wp_X12_leastOf (nI e) m K := by
  have hp1 := hD.ple
  unfold wp_X12_leastOf
  refine acc_loop (wp := fun n i y => wp_X12_leastOf_l6 K (nI e) n y i m) (a := 0) (N := pn g) (fun i y => mn32 y (lo2 g e i)) (by omega) (by omega) (fun n i h1 h2 => ?_) (fun n i y h1 h2 k2 => ?_)
  · show wb_X12_leastOf_l6 _ _ _ _ _ _
    unfold wb_X12_leastOf_l6
    rw [many_ok hs hD.g2, if_pos (ile h1 (by omega))]
    have e1 : ifo (fun i y => mn32 y (lo2 g e i)) (300 : Int32) 0 (pn g - 0) = smF g e := by
      rw [show pn g - 0 = (pn g - 1) + 1 by omega, ifo_head]
      have : mn32 (300 : Int32) (lo2 g e 0) = lo2 g e 0 := by
        obtain ⟨a1, a2, a3, -⟩ := lo_rng hD h0 e
        simp only [loI, hiI] at a1 a2 a3
        have e3 : (300 : Int32).toInt = 300 := rfl
        have := mn_t (300 : Int32) (lo2 g e 0)
        rw [fa_eq]
        split at this <;> omega
      rw [this]
      rfl
    rw [e1]
    exact kk
  · show wb_X12_leastOf_l6 _ _ _ _ _ _
    unfold wb_X12_leastOf_l6
    obtain ⟨f1, f2, f3, f4⟩ := hf i h2
    rw [many_ok hs hD.g2, if_neg (inle h2 (by omega)), clamp_nI (by omega), f1, f2]
    refine ⟨vp_in_nI (by omega) (by omega), ?_⟩
    rintro y6 h6 y7 rfl
    have e6 : y6 = lo2 g e i := by
      rw [h6, show (0 : Int32) = nI 0 from rfl, if_nI (by omega) (by omega)]; rfl
    rw [e6, ← mn_least]
    exact k2
theorem rgreat_ok {m : Mm} {g : Vc} {e : Nat} {K : Int32 → Mm → Prop} (hD : Dd g) (h0 : 0 < pn g) (hs : stR m g) (hf : flatR m g (pn g)) (he : e < 2) (kk : K (grF g e) m) : wp_X12_greatestOf (nI e) m K := by
  have hp1 := hD.ple
  unfold wp_X12_greatestOf
  refine acc_loop (wp := fun n i y => wp_X12_greatestOf_l4 K (nI e) n y i m) (a := 0) (N := pn g) (fun i y => mx32 y (hi2 g e i)) (by omega) (by omega) (fun n i h1 h2 => ?_) (fun n i y h1 h2 k2 => ?_)
  · show wb_X12_greatestOf_l4 _ _ _ _ _ _
    unfold wb_X12_greatestOf_l4
    rw [many_ok hs hD.g2, if_pos (ile h1 (by omega))]
    have e1 : ifo (fun i y => mx32 y (hi2 g e i)) (0 : Int32) 0 (pn g - 0) = grF g e := by
      rw [show pn g - 0 = (pn g - 1) + 1 by omega, ifo_head]
      have : mx32 (0 : Int32) (hi2 g e 0) = hi2 g e 0 := by
        obtain ⟨a1, a2, a3, -⟩ := lo_rng hD h0 e
        simp only [loI, hiI] at a1 a2 a3
        have e3 : (0 : Int32).toInt = 0 := rfl
        have := mx_t (0 : Int32) (hi2 g e 0)
        rw [fa_eq]
        split at this <;> omega
      rw [this]
      rfl
    rw [e1]
    exact kk
  · show wb_X12_greatestOf_l4 _ _ _ _ _ _
    unfold wb_X12_greatestOf_l4
    obtain ⟨f1, f2, f3, f4⟩ := hf i h2
    rw [many_ok hs hD.g2, if_neg (inle h2 (by omega)), clamp_nI (by omega), f1, f2, f3, f4]
    refine ⟨vp_in_nI (by omega) (by omega), ?_⟩
    rintro y6 h6 y7 rfl
    have e6 : y6 = hi2 g e i := by
      rw [h6, show (0 : Int32) = nI 0 from rfl, if_nI (by omega) (by omega)]; rfl
    rw [e6, ← mx_most]
    exact k2
/-- a copy's ends -/
def cLo (g : Vc) (tn : Bool) (e j : Nat) : Int32 := if tn then smF g e + grF g e - hi2 g e j else lo2 g e j
def cHi (g : Vc) (tn : Bool) (e j : Nat) : Int32 := if tn then smF g e + grF g e - lo2 g e j else hi2 g e j
theorem cLo_b {g : Vc} (hD : Dd g) (h0 : 0 < pn g) (tn : Bool) {e j : Nat} (hj : j < pn g) : 0 ≤ (cLo g tn e j).toInt ∧ (cLo g tn e j).toInt < (cHi g tn e j).toInt ∧ (cHi g tn e j).toInt ≤ 300 ∧ (cHi g tn e j).toInt - (cLo g tn e j).toInt = hiI g e j - loI g e j := by
  obtain ⟨a1, a2, a3, -⟩ := lo_rng hD hj e
  obtain ⟨⟨s1, s2, s3⟩, ⟨g1, g2, g3⟩⟩ := sm_b hD h0 e
  have s4 := s3 j hj
  have g4 := g3 j hj
  simp only [loI, hiI] at a1 a2 a3 s4 g4 ⊢
  unfold cLo cHi
  cases tn
  · exact ⟨a1, a2, a3, rfl⟩
  · simp only [if_true]
    have e1 : (smF g e + grF g e).toInt = (smF g e).toInt + (grF g e).toInt := fb_addI (by omega) (by omega)
    have e2 : (smF g e + grF g e - hi2 g e j).toInt = (smF g e + grF g e).toInt - (hi2 g e j).toInt := fb_subI (by omega) (by omega)
    have e3 : (smF g e + grF g e - lo2 g e j).toInt = (smF g e + grF g e).toInt - (lo2 g e j).toInt := fb_subI (by omega) (by omega)
    omega
/-- two panels are too near, on an axis -/
def nr1 (g : Vc) (tn : Bool) (e i j : Nat) (gap sh : Int) : Prop := loI g e i - ((cHi g tn e j).toInt + sh) < gap ∧ ((cLo g tn e j).toInt + sh) - hiI g e i < gap
def nrA (g : Vc) (ax : Nat) (tn : Bool) (gap sh : Int) : Prop := ∃ i j, i < pn g ∧ j < pn g ∧ nr1 g tn (1 - ax) i j gap 0 ∧ nr1 g tn ax i j gap sh
theorem nrA_far {g : Vc} (hD : Dd g) (h0 : 0 < pn g) {ax : Nat} {tn : Bool} {gap sh : Int} (hg : gap ≤ 50) (hs : 350 ≤ sh) : ¬ nrA g ax tn gap sh := by
  rintro ⟨i, j, hi, hj, -, -, h⟩
  obtain ⟨a1, a2, a3, -⟩ := lo_rng hD hi ax
  obtain ⟨b1, b2, b3, -⟩ := cLo_b (e := ax) hD h0 tn hj
  omega
/-- free at every multiple that counts -/
def frD1 (g : Vc) (ax : Nat) (tn : Bool) (gap : Int) (d : Nat) : Prop := ∀ q : Nat, 1 ≤ q → (if tn then q = 1 else q * d ≤ 350) → ¬ nrA g ax tn gap ((q * d : Nat) : Int)
theorem com_n {a b c d gap : Int32} (ha : inR a (-50000) 50000) (hb : inR b (-50000) 50000) (hc : inR c (-50000) 50000) (hd : inR d (-50000) 50000) (hab : a.toInt < b.toInt) (hcd : c.toInt < d.toInt) (hg : inR gap 0 50) : (gap ≤ -(v_X11_common a b c d)) ↔ ¬ (a.toInt - (d.toInt + 0) < gap.toInt ∧ (c.toInt + 0) - b.toInt < gap.toInt) := by
  obtain ⟨a1, a2⟩ := ha
  obtain ⟨b1, b2⟩ := hb
  obtain ⟨c1, c2⟩ := hc
  obtain ⟨d1, d2⟩ := hd
  obtain ⟨g1, g2⟩ := hg
  have l := mn_t b d
  have h := mx_t a c
  have e : (v_X11_common a b c d).toInt = (mn32 b d).toInt - (mx32 a c).toInt := by unfold v_X11_common; exact fb_subI (by split at l <;> split at h <;> omega) (by split at l <;> split at h <;> omega)
  rw [fa_le, fb_negI (by split at l <;> split at h <;> omega), e]
  split at l <;> split at h <;> omega
theorem apart_n {a b c d gap : Int32} (ha : inR a (-50000) 50000) (hb : inR b (-50000) 50000) (hc : inR c (-50000) 50000) (hd : inR d (-50000) 50000) (hab : a.toInt < b.toInt) (hcd : c.toInt < d.toInt) (hg : inR gap 0 50) : (gap ≤ v_X12_apart a b c d) ↔ ¬ (a.toInt - d.toInt < gap.toInt ∧ c.toInt - b.toInt < gap.toInt) := by
  obtain ⟨a1, a2⟩ := ha
  obtain ⟨b1, b2⟩ := hb
  obtain ⟨c1, c2⟩ := hc
  obtain ⟨d1, d2⟩ := hd
  obtain ⟨g1, g2⟩ := hg
  unfold v_X12_apart
  by_cases z : c < a
  · rw [if_pos z]
    rw [fa_lt] at z
    rw [fa_le, fb_subI (by omega) (by omega)]
    omega
  · rw [if_neg z]
    rw [fa_lt] at z
    rw [fa_le, fb_subI (by omega) (by omega)]
    omega
