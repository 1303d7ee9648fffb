/-! cut lines: their units as numbers -/
theorem cnP_or {P Q : Int → Prop} {x : Int} : ∀ {n : Nat}, (∀ c, x ≤ c → c < x + n → ¬ (P c ∧ Q c)) → cnP (fun c => P c ∨ Q c) x n = cnP P x n + cnP Q x n := by
  intro n
  induction n with
  | zero => exact fun _ => rfl
  | succ n ih =>
    intro h
    have i := ih (fun c h1 h2 => h c h1 (by omega))
    have hd := h (x + n) (by omega) (by omega)
    by_cases p : P (x + n)
    · rw [cnP_s1 (P := fun c => P c ∨ Q c) (Or.inl p), cnP_s1 p, cnP_s0 (fun q => hd ⟨p, q⟩), i]; omega
    · by_cases q : Q (x + n)
      · rw [cnP_s1 (P := fun c => P c ∨ Q c) (Or.inr q), cnP_s0 p, cnP_s1 q, i]; omega
      · rw [cnP_s0 (P := fun c => P c ∨ Q c) (by rintro (z | z); exact p z; exact q z), cnP_s0 p, cnP_s0 q, i]
theorem un_or {P Q : Int → Prop} {a b : Int} (h : ∀ c, ¬ (P c ∧ Q c)) : un (fun c => P c ∨ Q c) a b = un P a b + un Q a b := cnP_or (fun c _ _ => h c)
theorem cnP_sh (P : Int → Prop) (B x : Int) : ∀ n, cnP (fun u => P (u - B)) (B + x) n = cnP P x n := by
  intro n
  induction n with
  | zero => rfl
  | succ n ih =>
    have e : B + x + (n : Int) - B = x + n := by omega
    by_cases p : P (x + n)
    · rw [cnP_s1 (P := fun u => P (u - B)) (by rw [e]; exact p), cnP_s1 p, ih]
    · rw [cnP_s0 (P := fun u => P (u - B)) (by rw [e]; exact p), cnP_s0 p, ih]
theorem un_sh (P : Int → Prop) (B a b : Int) : un (fun u => P (u - B)) (B + a) (B + b) = un P a b := by
  unfold un
  rw [show (B + b - (B + a)).toNat = (b - a).toNat by omega]
  exact cnP_sh P B a _
/-- an interval of units among all of them -/
theorem un_part {P : Int → Prop} {B a b M : Int} (h0 : 0 ≤ B + a) (hab : a ≤ b) (hM : B + b ≤ M) : un (fun u => ∃ c, a ≤ c ∧ c < b ∧ u = B + c ∧ P c) 0 M = un P a b := by
  rw [un_cut _ h0 (show B + a ≤ M by omega), un_cut _ (show B + a ≤ B + b by omega) hM]
  have e1 : un (fun u => ∃ c, a ≤ c ∧ c < b ∧ u = B + c ∧ P c) 0 (B + a) = 0 := un_none (fun u _ h2 => by rintro ⟨c, c1, c2, c3, -⟩; omega)
  have e3 : un (fun u => ∃ c, a ≤ c ∧ c < b ∧ u = B + c ∧ P c) (B + b) M = 0 := un_none (fun u h1 _ => by rintro ⟨c, c1, c2, c3, -⟩; omega)
  have e2 : un (fun u => ∃ c, a ≤ c ∧ c < b ∧ u = B + c ∧ P c) (B + a) (B + b) = un P a b := by
    rw [← un_sh P B a b]
    refine un_congr (fun u h1 h2 => ?_)
    constructor
    · rintro ⟨c, c1, c2, c3, c4⟩
      rw [show u - B = c by omega]; exact c4
    · intro h
      exact ⟨u - B, by omega, by omega, by omega, h⟩
  rw [e1, e2, e3]
  omega
/-- the line of a side, its ends -/
def lnI (g : Vc) (k s : Nat) : Int := if s = 0 ∨ s = 3 then (lo2 g (1 - s % 2) k).toInt else (hi2 g (1 - s % 2) k).toInt
def loI (g : Vc) (e k : Nat) : Int := (lo2 g e k).toInt
def hiI (g : Vc) (e k : Nat) : Int := (hi2 g e k).toInt
def cdU (e : Nat) (L : Int) : Int := (e * 1000 + L) * 1000
def sdU (g : Vc) (k s : Nat) (u : Int) : Prop := ∃ c, loI g (s % 2) k ≤ c ∧ c < hiI g (s % 2) k ∧ u = cdU (s % 2) (lnI g k s) + c
theorem lo_rng {g : Vc} (hD : Dd g) {k : Nat} (hk : k < pn g) (e : Nat) : 0 ≤ loI g e k ∧ loI g e k < hiI g e k ∧ hiI g e k ≤ 300 ∧ (hi2 g e k).toInt = (if e = 0 then (rect g k).1.toInt + (rect g k).2.2.1.toInt else (rect g k).2.1.toInt + (rect g k).2.2.2.toInt) := by
  obtain ⟨⟨b1, b2⟩, ⟨b3, b4⟩, ⟨b5, b6⟩, b7, b8⟩ := rect_b hD.r hk
  obtain ⟨⟨g1, g2, g3, g4⟩, -⟩ := hD.2 k hk
  have w1 := hD.r.1.2
  have w2 := hD.r.2.1.2
  have e1 : ((rect g k).1 + (rect g k).2.2.1).toInt = (rect g k).1.toInt + (rect g k).2.2.1.toInt := add_t (by omega) (by omega) (by omega) (by omega)
  have e2 : ((rect g k).2.1 + (rect g k).2.2.2).toInt = (rect g k).2.1.toInt + (rect g k).2.2.2.toInt := add_t (by omega) (by omega) (by omega) (by omega)
  unfold loI hiI lo2 hi2
  by_cases z : e = 0
  · rw [if_pos z, if_pos z, if_pos z, e1]; omega
  · rw [if_neg z, if_neg z, if_neg z, e2]; omega
theorem ln_rng {g : Vc} (hD : Dd g) {k : Nat} (hk : k < pn g) (s : Nat) : 0 ≤ lnI g k s ∧ lnI g k s ≤ 300 := by
  obtain ⟨a1, a2, a3, -⟩ := lo_rng hD hk (1 - s % 2)
  simp only [loI, hiI] at a1 a2 a3
  unfold lnI
  split <;> omega
theorem cdU_inj {e e2 : Nat} {L L2 c c2 : Int} (he : e < 2) (he2 : e2 < 2) (hL : 0 ≤ L ∧ L ≤ 300) (hL2 : 0 ≤ L2 ∧ L2 ≤ 300) (hc : 0 ≤ c ∧ c < 300) (hc2 : 0 ≤ c2 ∧ c2 < 300) (h : cdU e L + c = cdU e2 L2 + c2) : e = e2 ∧ L = L2 ∧ c = c2 := by
  unfold cdU at h
  omega
def UM : Int := 2000000
theorem sd_apart {g : Vc} (hD : Dd g) {k s t : Nat} (hk : k < pn g) (hs : s < 4) (ht : t < 4) (hst : s ≠ t) (u : Int) : ¬ (sdU g k s u ∧ sdU g k t u) := by
  rintro ⟨⟨c, c1, c2, c3⟩, ⟨d, d1, d2, d3⟩⟩
  obtain ⟨a1, a2, a3, -⟩ := lo_rng hD hk (s % 2)
  obtain ⟨b1, b2, b3, -⟩ := lo_rng hD hk (t % 2)
  obtain ⟨q1, q2, q3, -⟩ := lo_rng hD hk (1 - s % 2)
  obtain ⟨e1, e2, -⟩ := cdU_inj (show s % 2 < 2 by omega) (show t % 2 < 2 by omega) (ln_rng hD hk s) (ln_rng hD hk t) ⟨by omega, by omega⟩ ⟨by omega, by omega⟩ (c3.symm.trans d3)
  unfold lnI at e2
  rw [← e1] at e2
  simp only [loI, hiI] at q1 q2 q3
  split at e2 <;> split at e2 <;> omega
/-- all units of the sides of the panels before n -/
def allU (g : Vc) (n : Nat) (u : Int) : Prop := ∃ k s, k < n ∧ s < 4 ∧ sdU g k s u
noncomputable def xNew (g : Vc) (k s : Nat) : Nat := un (fun c => ¬ allU g k (cdU (s % 2) (lnI g k s) + c)) (loI g (s % 2) k) (hiI g (s % 2) k)
theorem part_rng {g : Vc} (hD : Dd g) {k s : Nat} (hk : k < pn g) : 0 ≤ cdU (s % 2) (lnI g k s) + loI g (s % 2) k ∧ loI g (s % 2) k ≤ hiI g (s % 2) k ∧ cdU (s % 2) (lnI g k s) + hiI g (s % 2) k ≤ UM := by
  obtain ⟨a1, a2, a3, -⟩ := lo_rng hD hk (s % 2)
  obtain ⟨l1, l2⟩ := ln_rng hD hk s
  have : s % 2 < 2 := by omega
  unfold cdU UM
  omega
theorem side_un {g : Vc} (hD : Dd g) {k s : Nat} (hk : k < pn g) (P : Int → Prop) : un (fun u => sdU g k s u ∧ P u) 0 UM = un (fun c => P (cdU (s % 2) (lnI g k s) + c)) (loI g (s % 2) k) (hiI g (s % 2) k) := by
  obtain ⟨p1, p2, p3⟩ := part_rng (s := s) hD hk
  rw [← un_part (P := fun c => P (cdU (s % 2) (lnI g k s) + c)) p1 p2 p3]
  refine un_congr (fun u _ _ => ?_)
  constructor
  · rintro ⟨⟨c, c1, c2, c3⟩, h⟩
    exact ⟨c, c1, c2, c3, by rw [← c3]; exact h⟩
  · rintro ⟨c, c1, c2, c3, h⟩
    exact ⟨⟨c, c1, c2, c3⟩, by rw [c3]; exact h⟩
/-- what the sides of panel k add, with a condition -/
theorem add_sides {g : Vc} (hD : Dd g) {k : Nat} (hk : k < pn g) (C : Int → Prop) : un (fun u => allU g (k + 1) u ∧ C u) 0 UM = un (fun u => allU g k u ∧ C u) 0 UM + fb_sm (fun s => un (fun u => sdU g k s u ∧ (¬ allU g k u ∧ C u)) 0 UM) 4 := by
  have h4 : ∀ n, n ≤ 4 → un (fun u => (∃ s, s < n ∧ sdU g k s u) ∧ (¬ allU g k u ∧ C u)) 0 UM = fb_sm (fun s => un (fun u => sdU g k s u ∧ (¬ allU g k u ∧ C u)) 0 UM) n := by
    intro n
    induction n with
    | zero => exact fun _ => un_none (fun u _ _ => by rintro ⟨⟨s, hs, -⟩, -⟩; omega)
    | succ n ih =>
      intro hn
      rw [fb_sm_succ, ← ih (by omega), ← un_or]
      · refine un_congr (fun u _ _ => ?_)
        constructor
        · rintro ⟨⟨s, hs, h⟩, h2⟩
          by_cases z : s = n
          · subst z; exact Or.inr ⟨h, h2⟩
          · exact Or.inl ⟨⟨s, by omega, h⟩, h2⟩
        · rintro (⟨⟨s, hs, h⟩, h2⟩ | ⟨h, h2⟩)
          · exact ⟨⟨s, by omega, h⟩, h2⟩
          · exact ⟨⟨n, by omega, h⟩, h2⟩
      · rintro u ⟨⟨⟨s, hs, h⟩, -⟩, h2, -⟩
        exact sd_apart hD hk (show s < 4 by omega) (show n < 4 by omega) (by omega) u ⟨h, h2⟩
  rw [← h4 4 (Nat.le_refl _), ← un_or]
  · refine un_congr (fun u _ _ => ?_)
    constructor
    · rintro ⟨⟨o, s, ho, hs, h⟩, h2⟩
      by_cases z : allU g k u
      · exact Or.inl ⟨z, h2⟩
      · by_cases w : o = k
        · subst w; exact Or.inr ⟨⟨s, hs, h⟩, z, h2⟩
        · exact absurd ⟨o, s, by omega, hs, h⟩ z
    · rintro (⟨⟨o, s, ho, hs, h⟩, h2⟩ | ⟨⟨s, hs, h⟩, -, h2⟩)
      · exact ⟨⟨o, s, by omega, hs, h⟩, h2⟩
      · exact ⟨⟨k, s, by omega, hs, h⟩, h2⟩
  · rintro u ⟨⟨h, -⟩, -, h2, -⟩
    exact h2 h
def fldU (g : Vc) (u : Int) : Prop := ∃ j, 1 ≤ j ∧ j < pn g ∧ sdU g j (nearN g j) u
/-- the cell on the inner and on the outer side of a fold -/
def inC (g : Vc) (k : Nat) (x y : Int) : Prop := (rect g k).1.toInt ≤ x ∧ x < (rect g k).1.toInt + (rect g k).2.2.1.toInt ∧ (rect g k).2.1.toInt ≤ y ∧ y < (rect g k).2.1.toInt + (rect g k).2.2.2.toInt
theorem inC_one {g : Vc} (hD : Dd g) {a b : Nat} (ha : a < pn g) (hb : b < pn g) {x y : Int} (h1 : inC g a x y) (h2 : inC g b x y) : a = b := by
  have key : ∀ a b, a < b → b < pn g → inC g a x y → inC g b x y → False := fun a b hab hb h1 h2 => by
    have := (hD.2 b hb).2.2 a hab
    apply this
    unfold ovl
    unfold inC at h1 h2
    omega
  rcases Nat.lt_trichotomy a b with z | z | z
  · exact absurd h2 (fun q => key a b z hb h1 q)
  · exact z
  · exact absurd h1 (fun q => key b a z ha h2 q)
theorem fold_cells {g : Vc} (hD : Dd g) {j : Nat} (h1 : 1 ≤ j) (hj : j < pn g) : ∃ p, p < j ∧ ∀ c, loI g (nearN g j % 2) j ≤ c → c < hiI g (nearN g j % 2) j →
    (if nearN g j % 2 = 0 then (inC g j c (lnI g j (nearN g j)) ∧ inC g p c (lnI g j (nearN g j) - 1)) ∨ (inC g p c (lnI g j (nearN g j)) ∧ inC g j c (lnI g j (nearN g j) - 1)) else (inC g j (lnI g j (nearN g j)) c ∧ inC g p (lnI g j (nearN g j) - 1) c) ∨ (inC g p (lnI g j (nearN g j)) c ∧ inC g j (lnI g j (nearN g j) - 1) c)) := by
  have hp1 := hD.ple
  obtain ⟨⟨p, hp, ep⟩, ⟨s, hs, es⟩, ⟨u1, u2⟩, ⟨u3, u4⟩, ⟨u5, u6⟩, -⟩ := hD.r.2.2.2.2.2.2 j (by omega) hj
  obtain ⟨er, -, hle⟩ := hung_at hD (show p < pn g by omega) hj (by omega) hs ⟨ep, es⟩
  have hn : nearN g j = (s + 2) % 4 := by unfold nearN; rw [es, clamp_nI (by omega)]
  refine ⟨p, hp, fun c c1 c2 => ?_⟩
  obtain ⟨-, -, -, h20⟩ := lo_rng hD hj 0
  obtain ⟨-, -, -, h21⟩ := lo_rng hD hj 1
  obtain ⟨⟨r1, r2⟩, ⟨r3, r4⟩, ⟨r5, r6⟩, r7, r8⟩ := rect_b hD.r (show p < pn g by omega)
  obtain ⟨⟨v1, v2⟩, ⟨v3, v4⟩, ⟨v5, v6⟩, v7, v8⟩ := rect_b hD.r hj
  have p1 : ((rect g p).1 + pf g j 2).toInt = (rect g p).1.toInt + (pf g j 2).toInt := add_t (by omega) (by omega) (by omega) (by omega)
  have p2 : ((rect g p).2.1 + pf g j 2).toInt = (rect g p).2.1.toInt + (pf g j 2).toInt := add_t (by omega) (by omega) (by omega) (by omega)
  have p3 : ((rect g p).2.1 - pf g j 4).toInt = (rect g p).2.1.toInt - (pf g j 4).toInt := sub_t (by omega) (by omega) (by omega) (by omega)
  have p4 : ((rect g p).1 - pf g j 4).toInt = (rect g p).1.toInt - (pf g j 4).toInt := sub_t (by omega) (by omega) (by omega) (by omega)
  have p5 : ((rect g p).1 + (rect g p).2.2.1).toInt = (rect g p).1.toInt + (rect g p).2.2.1.toInt := add_t (by omega) (by omega) (by omega) (by omega)
  have p6 : ((rect g p).2.1 + (rect g p).2.2.2).toInt = (rect g p).2.1.toInt + (rect g p).2.2.2.toInt := add_t (by omega) (by omega) (by omega) (by omega)
  have sl : (sdL g p s : Int) = if s % 2 = 0 then (rect g p).2.2.1.toInt else (rect g p).2.2.2.toInt := by
    obtain ⟨e, e2⟩ := sdL_e (s := s) hD.r (show p < pn g by omega)
    have := congrArg Int32.toInt e
    rw [nI_toInt (by omega)] at this
    rw [← this]
    split <;> rfl
  rw [hn] at c1 c2 ⊢
  simp only [loI, hiI, lo2] at c1 c2
  unfold lnI lo2
  unfold inC
  have n01 : ¬ (nI 1 = (0 : Int32) ∨ nI 1 = (2 : Int32)) := by decide
  have n03 : ¬ (nI 3 = (0 : Int32) ∨ nI 3 = (2 : Int32)) := by decide
  have y0 : nI 0 = (0 : Int32) ∨ nI 0 = (2 : Int32) := Or.inl rfl
  have y2 : nI 2 = (0 : Int32) ∨ nI 2 = (2 : Int32) := Or.inr rfl
  have n02 : ¬ nI 0 = (2 : Int32) := by decide
  have y22 : nI 2 = (2 : Int32) := rfl
  have y11 : nI 1 = (1 : Int32) := rfl
  have n31 : ¬ nI 3 = (1 : Int32) := by decide
  rcases side4 hs with z | z | z | z <;> subst z
  · have x1 : (rect g j).1 = (rect g p).1 + pf g j 2 := by rw [er]; simp only [hung, es, if_pos y0]
    have x2 : (rect g j).2.1 = (rect g p).2.1 - pf g j 4 := by rw [er]; simp only [hung, es, if_pos y0, if_neg n02]
    have x3 : (rect g j).2.2.1 = pf g j 3 := by rw [er]; simp only [hung, es, if_pos y0]
    have x4 : (rect g j).2.2.2 = pf g j 4 := by rw [er]; simp only [hung, es, if_pos y0]
    simp at c1 c2 sl ⊢
    rw [h20] at c2
    simp at c2
    rw [h21]
    simp
    rw [x1, x3, p1] at c2
    rw [x1, p1] at c1
    rw [x1, x2, x3, x4, p1, p3]
    omega
  · have x1 : (rect g j).1 = (rect g p).1 + (rect g p).2.2.1 := by rw [er]; simp only [hung, es, if_neg n01, if_pos y11]
    have x2 : (rect g j).2.1 = (rect g p).2.1 + pf g j 2 := by rw [er]; simp only [hung, es, if_neg n01]
    have x3 : (rect g j).2.2.1 = pf g j 4 := by rw [er]; simp only [hung, es, if_neg n01]
    have x4 : (rect g j).2.2.2 = pf g j 3 := by rw [er]; simp only [hung, es, if_neg n01]
    simp at c1 c2 sl ⊢
    rw [h21] at c2
    simp at c2
    rw [x2, x4, p2] at c2
    rw [x2, p2] at c1
    rw [x1, x2, x3, x4, p2, p5]
    omega
  · have x1 : (rect g j).1 = (rect g p).1 + pf g j 2 := by rw [er]; simp only [hung, es, if_pos y2]
    have x2 : (rect g j).2.1 = (rect g p).2.1 + (rect g p).2.2.2 := by rw [er]; simp only [hung, es, if_pos y2, if_pos y22]
    have x3 : (rect g j).2.2.1 = pf g j 3 := by rw [er]; simp only [hung, es, if_pos y2]
    have x4 : (rect g j).2.2.2 = pf g j 4 := by rw [er]; simp only [hung, es, if_pos y2]
    simp at c1 c2 sl ⊢
    rw [h20] at c2
    simp at c2
    rw [x1, x3, p1] at c2
    rw [x1, p1] at c1
    rw [x1, x2, x3, x4, p1, p6]
    omega
  · have x1 : (rect g j).1 = (rect g p).1 - pf g j 4 := by rw [er]; simp only [hung, es, if_neg n03, if_neg n31]
    have x2 : (rect g j).2.1 = (rect g p).2.1 + pf g j 2 := by rw [er]; simp only [hung, es, if_neg n03]
    have x3 : (rect g j).2.2.1 = pf g j 4 := by rw [er]; simp only [hung, es, if_neg n03]
    have x4 : (rect g j).2.2.2 = pf g j 3 := by rw [er]; simp only [hung, es, if_neg n03]
    simp at c1 c2 sl ⊢
    rw [h21] at c2
    simp at c2
    rw [h20]
    simp
    rw [x2, x4, p2] at c2
    rw [x2, p2] at c1
    rw [x1, x2, x3, x4, p2, p4]
    omega
