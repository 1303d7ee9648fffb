/-! validity: both sides decide gok -/
def flag (x : Int32) (p : Prop) : Prop := (x = 1 ∧ p) ∨ (x = 0 ∧ ¬ p)
theorem flag_n {c p q : Prop} [Decidable c] {x : Int32} (h : ¬ c ↔ q) (hx : flag x p) : flag (if c then 0 else x) (q ∧ p) := by
  by_cases hc : c
  · rw [if_pos hc]; exact Or.inr ⟨rfl, fun z => h.mpr z.1 hc⟩
  · rw [if_neg hc]
    rcases hx with ⟨h1, h2⟩ | ⟨h1, h2⟩
    · exact Or.inl ⟨h1, h.mp hc, h2⟩
    · exact Or.inr ⟨h1, fun z => h2 z.2⟩
theorem flag_p {c p q : Prop} [Decidable c] {x : Int32} (h : c ↔ q) (hx : flag x p) : flag (if c then x else 0) (q ∧ p) := by
  by_cases hc : c
  · rw [if_pos hc]
    rcases hx with ⟨h1, h2⟩ | ⟨h1, h2⟩
    · exact Or.inl ⟨h1, h.mp hc, h2⟩
    · exact Or.inr ⟨h1, fun z => h2 z.2⟩
  · rw [if_neg hc]; exact Or.inr ⟨rfl, fun z => hc (h.mpr z.1)⟩
theorem flag_1 : flag 1 True := Or.inl ⟨rfl, trivial⟩
theorem flag_iff {x : Int32} {p q : Prop} (h : flag x p) (e : p ↔ q) : flag x q := by
  rcases h with ⟨h1, h2⟩ | ⟨h1, h2⟩
  · exact Or.inl ⟨h1, e.mp h2⟩
  · exact Or.inr ⟨h1, fun z => h2 (e.mpr z)⟩
theorem flag_0 {x : Int32} {p : Prop} (h : flag x p) : x = 0 ↔ ¬ p := by
  rcases h with ⟨h1, h2⟩ | ⟨h1, h2⟩
  · rw [h1]; exact ⟨fun z => absurd z (by decide), fun z => absurd h2 z⟩
  · exact ⟨fun _ => h2, fun _ => h1⟩
theorem flag_bo {x : Int32} {p : Prop} (h : flag x p) : bo x := by
  rcases h with ⟨h1, h2⟩ | ⟨h1, h2⟩
  · exact Or.inr h1
  · exact Or.inl h1
theorem flag_and {x y c : Int32} {p q : Prop} (h : flag x p) (hc : p → flag c q) (e : y = if x = 0 then 0 else c) : flag y (p ∧ q) := by
  rcases h with ⟨h1, h2⟩ | ⟨h1, h2⟩
  · rw [e, h1, if_neg (by decide)]
    exact flag_iff (hc h2) ⟨fun z => ⟨h2, z⟩, fun z => z.2⟩
  · rw [e, h1, if_pos rfl]; exact Or.inr ⟨rfl, fun z => h2 z.1⟩
theorem flag_inj {x y : Int32} {p : Prop} (h : flag x p) (h2 : flag y p) : x = y := by
  rcases h with ⟨a, b⟩ | ⟨a, b⟩ <;> rcases h2 with ⟨c, d⟩ | ⟨c, d⟩
  · rw [a, c]
  · exact absurd b d
  · exact absurd d b
  · rw [a, c]
/-- rectangles of numbers within ranges do not run over -/
def bdr (B : Int) (r : R4) : Prop := (-B ≤ r.1.toInt ∧ r.1.toInt ≤ B) ∧ (-B ≤ r.2.1.toInt ∧ r.2.1.toInt ≤ B) ∧ (1 ≤ r.2.2.1.toInt ∧ r.2.2.1.toInt ≤ 300) ∧ (1 ≤ r.2.2.2.toInt ∧ r.2.2.2.toInt ≤ 300)
theorem side4 {s : Nat} (h : s < 4) : s = 0 ∨ s = 1 ∨ s = 2 ∨ s = 3 := by omega
theorem hung_s0 {g : Vc} {k : Nat} {r : R4} (h : pf g k 1 = nI 0) : hung g k r = (r.1 + pf g k 2, r.2.1 - pf g k 4, pf g k 3, pf g k 4) := by unfold hung; rw [h]; rfl
theorem hung_s1 {g : Vc} {k : Nat} {r : R4} (h : pf g k 1 = nI 1) : hung g k r = (r.1 + r.2.2.1, r.2.1 + pf g k 2, pf g k 4, pf g k 3) := by unfold hung; rw [h]; rfl
theorem hung_s2 {g : Vc} {k : Nat} {r : R4} (h : pf g k 1 = nI 2) : hung g k r = (r.1 + pf g k 2, r.2.1 + r.2.2.2, pf g k 3, pf g k 4) := by unfold hung; rw [h]; rfl
theorem hung_s3 {g : Vc} {k : Nat} {r : R4} (h : pf g k 1 = nI 3) : hung g k r = (r.1 - pf g k 4, r.2.1 + pf g k 2, pf g k 4, pf g k 3) := by unfold hung; rw [h]; rfl
theorem add_t {x y : Int32} (h1 : -100000000 ≤ x.toInt) (h2 : x.toInt ≤ 100000000) (h3 : -100000000 ≤ y.toInt) (h4 : y.toInt ≤ 100000000) : (x + y).toInt = x.toInt + y.toInt := fb_addI (by omega) (by omega)
theorem sub_t {x y : Int32} (h1 : -100000000 ≤ x.toInt) (h2 : x.toInt ≤ 100000000) (h3 : -100000000 ≤ y.toInt) (h4 : y.toInt ≤ 100000000) : (x - y).toInt = x.toInt - y.toInt := fb_subI (by omega) (by omega)
theorem hung_bd {g : Vc} {k s : Nat} {r : R4} {B : Int} (hs : s < 4) (es : pf g k 1 = nI s) (hB : B ≤ 10000) (h : bdr B r) (h2 : inR (pf g k 2) 0 300) (h3 : inR (pf g k 3) 1 300) (h4 : inR (pf g k 4) 1 300) : bdr (B + 600) (hung g k r) := by
  obtain ⟨⟨b1, b2⟩, ⟨b3, b4⟩, ⟨b5, b6⟩, b7, b8⟩ := h
  obtain ⟨c1, c2⟩ := h2
  obtain ⟨d1, d2⟩ := h3
  obtain ⟨e1, e2⟩ := h4
  rcases side4 hs with z | z | z | z <;> subst z
  · rw [hung_s0 es]
    unfold bdr
    simp only []
    rw [add_t (by omega) (by omega) (by omega) (by omega), sub_t (by omega) (by omega) (by omega) (by omega)]
    omega
  · rw [hung_s1 es]
    unfold bdr
    simp only []
    rw [add_t (by omega) (by omega) (by omega) (by omega), add_t (by omega) (by omega) (by omega) (by omega)]
    omega
  · rw [hung_s2 es]
    unfold bdr
    simp only []
    rw [add_t (by omega) (by omega) (by omega) (by omega), add_t (by omega) (by omega) (by omega) (by omega)]
    omega
  · rw [hung_s3 es]
    unfold bdr
    simp only []
    rw [sub_t (by omega) (by omega) (by omega) (by omega), add_t (by omega) (by omega) (by omega) (by omega)]
    omega
theorem rect_bd {g : Vc} (h : rngD g) : ∀ k, k < pn g → bdr (600 * (k + 1)) (rect g k) := by
  have hp := h.par
  intro k
  induction k using Nat.strongRecOn with
  | _ k ih =>
    intro hk
    have hp1 := hp.1
    by_cases h0 : k = 0
    · subst h0
      rw [rect_0]
      obtain ⟨⟨a1, a2⟩, ⟨a3, a4⟩, ⟨a5, a6⟩, ⟨a7, a8⟩, -⟩ := h.2.2.2.2.1 hk
      exact ⟨⟨by simp only []; omega, by simp only []; omega⟩, ⟨by simp only []; omega, by simp only []; omega⟩, ⟨a5, a6⟩, a7, a8⟩
    · obtain ⟨p, s, hpk, ep, hs, es, er⟩ := par_s hp (by omega) hk
      have hb := ih p hpk (by omega)
      obtain ⟨-, -, r2, r3, r4, -⟩ := h.2.2.2.2.2.2 k (by omega) hk
      rw [er]
      have hb2 : bdr (600 * k) (rect g p) := by
        obtain ⟨⟨b1, b2⟩, ⟨b3, b4⟩, b5⟩ := hb
        exact ⟨⟨by omega, by omega⟩, ⟨by omega, by omega⟩, b5⟩
      have := hung_bd hs es (by omega) hb2 r2 r3 r4
      rw [show (600 : Int) * (k + 1) = 600 * k + 600 by omega]
      exact this
theorem rect_b {g : Vc} (h : rngD g) {k : Nat} (hk : k < pn g) : bdr 6000 (rect g k) := by
  have hp := h.par.1
  obtain ⟨⟨b1, b2⟩, ⟨b3, b4⟩, b5⟩ := rect_bd h k hk
  exact ⟨⟨by omega, by omega⟩, ⟨by omega, by omega⟩, b5⟩
theorem bdr_xw {r : R4} (h : bdr 6000 r) : (r.1 + r.2.2.1).toInt = r.1.toInt + r.2.2.1.toInt ∧ (r.2.1 + r.2.2.2).toInt = r.2.1.toInt + r.2.2.2.toInt := by
  obtain ⟨⟨b1, b2⟩, ⟨b3, b4⟩, ⟨b5, b6⟩, b7, b8⟩ := h
  exact ⟨add_t (by omega) (by omega) (by omega) (by omega), add_t (by omega) (by omega) (by omega) (by omega)⟩
theorem least_t (a b : Int32) : (v_X12_least a b).toInt = if b.toInt ≤ a.toInt then b.toInt else a.toInt := by
  unfold v_X12_least
  by_cases h : b ≤ a
  · rw [if_pos h, if_pos ((fa_le _ _).mp h)]
  · rw [if_neg h, if_neg (by rw [fa_le] at h; omega)]
theorem most_t (a b : Int32) : (v_X12_most a b).toInt = if a.toInt ≤ b.toInt then b.toInt else a.toInt := by
  unfold v_X12_most
  by_cases h : a ≤ b
  · rw [if_pos h, if_pos ((fa_le _ _).mp h)]
  · rw [if_neg h, if_neg (by rw [fa_le] at h; omega)]
theorem common_pos {a b c d : Int32} (ha : -100000 ≤ a.toInt ∧ a.toInt ≤ 100000) (hb : -100000 ≤ b.toInt ∧ b.toInt ≤ 100000) (hc : -100000 ≤ c.toInt ∧ c.toInt ≤ 100000) (hd : -100000 ≤ d.toInt ∧ d.toInt ≤ 100000) (hab : a.toInt < b.toInt) (hcd : c.toInt < d.toInt) :
    ¬ v_X12_common a b c d ≤ 0 ↔ a.toInt < d.toInt ∧ c.toInt < b.toInt := by
  have h1 := least_t b d
  have h2 := most_t a c
  have e : (v_X12_common a b c d).toInt = (v_X12_least b d).toInt - (v_X12_most a c).toInt := by
    unfold v_X12_common
    refine fb_subI ?_ ?_
    · rw [h1, h2]; split <;> split <;> omega
    · rw [h1, h2]; split <;> split <;> omega
  rw [fa_le, e, h1, h2, show (0 : Int32).toInt = 0 from rfl]
  split <;> split <;> omega
/-- what gok says of one panel -/
def gok1 (g : Vc) (k : Nat) : Prop := (0 ≤ (rect g k).1.toInt ∧ 0 ≤ (rect g k).2.1.toInt ∧ (rect g k).1.toInt + (rect g k).2.2.1.toInt ≤ (g 0).toInt ∧ (rect g k).2.1.toInt + (rect g k).2.2.2.toInt ≤ (g 1).toInt) ∧
  (0 < k → (pf g k 2).toInt + (pf g k 3).toInt ≤ (sdl (rect g (pf g k 0).toNatClampNeg) (pf g k 1)).toInt) ∧ ∀ o, o < k → ¬ ovl (rect g o) (rect g k)
theorem sdl_ref {s : Nat} (hs : s < 4) (r : R4) : (if rm32 (nI s) (2 : Int32) = 0 then r.2.2.1 else r.2.2.2) = sdl r (nI s) := by
  rcases side4 hs with z | z | z | z <;> subst z <;> rfl
theorem sdl_cls {s : Nat} (hs : s < 4) (r : R4) : (if nI s &&& (1 : Int32) = 0 then r.2.2.1 else r.2.2.2) = sdl r (nI s) := by
  rcases side4 hs with z | z | z | z <;> subst z <;> rfl
theorem validIn_ok {m : Mm} {g : Vc} {k : Nat} {A : Prop} {rec : Int32 → Int32 → Mm → Prop} {K : Int32 → Mm → Prop} (hr : rngD g) (hk : k < pn g) (hf : flatR m g (pn g)) {x : Int32} (hx : flag x A)
    (kk : ∀ y, flag y (A ∧ ∀ o, o < k → ¬ ovl (rect g o) (rect g k)) → rec y (nI k + 1) m) : wp_X12_isValid_l136 rec K (nI k) FU x 0 m := by
  have hp1 := hr.par.1
  refine loop_i (W := fun n i y => wp_X12_isValid_l136 rec K (nI k) n y (nI i) m) (I := fun i y => flag y (A ∧ ∀ o, o < i → ¬ ovl (rect g o) (rect g k))) k ?_ ?_ FU 0 x (by omega) (FU_gt (by omega)) (flag_iff hx ⟨fun z => ⟨z, fun o ho => by omega⟩, fun z => z.1⟩)
  · intro n y hy
    show wb_X12_isValid_l136 _ _ _ _ _ _ _
    unfold wb_X12_isValid_l136
    rw [if_pos (ile (Nat.le_refl _) (by omega))]
    exact kk y hy
  · intro n i y hi hy k2
    show wb_X12_isValid_l136 _ _ _ _ _ _ _
    unfold wb_X12_isValid_l136
    rw [if_neg (inle hi (by omega))]
    refine ⟨fun _ => ⟨vp_in_nI (by omega) (by omega), vp_in_nI (by omega) (by omega)⟩, fun y27 h27 => ?_⟩
    rw [nI_1]
    refine k2 _ (flag_iff (flag_and (q := ¬ ovl (rect g i) (rect g k)) hy (fun _ => ?_) h27) ⟨fun z => ⟨z.1.1, fun o ho => ?_⟩, fun z => ⟨⟨z.1, fun o ho => z.2 o (by omega)⟩, z.2 i (by omega)⟩⟩)
    · obtain ⟨f1, f2, f3, f4⟩ := hf i (by omega)
      obtain ⟨q1, q2, q3, q4⟩ := hf k hk
      have bi := rect_b hr (k := i) (by omega)
      have bk := rect_b hr hk
      have ei := bdr_xw bi
      have ek := bdr_xw bk
      obtain ⟨⟨b1, b2⟩, ⟨b3, b4⟩, ⟨b5, b6⟩, b7, b8⟩ := bi
      obtain ⟨⟨c1, c2⟩, ⟨c3, c4⟩, ⟨c5, c6⟩, c7, c8⟩ := bk
      have e : v_X12_overlap (nI i) (nI k) m = if v_X12_common (rect g i).1 ((rect g i).1 + (rect g i).2.2.1) (rect g k).1 ((rect g k).1 + (rect g k).2.2.1) ≤ 0 then 0 else if v_X12_common (rect g i).2.1 ((rect g i).2.1 + (rect g i).2.2.2) (rect g k).2.1 ((rect g k).2.1 + (rect g k).2.2.2) ≤ 0 then 0 else 1 := by
        unfold v_X12_overlap
        rw [clamp_nI (by omega), clamp_nI (by omega), f1, f2, f3, f4, q1, q2, q3, q4]
      have fo : flag (v_X12_overlap (nI i) (nI k) m) (ovl (rect g i) (rect g k)) := by
        rw [e]
        refine flag_iff (flag_n (common_pos ⟨by omega, by omega⟩ ⟨by omega, by omega⟩ ⟨by omega, by omega⟩ ⟨by omega, by omega⟩ (by omega) (by omega)) (flag_n (common_pos ⟨by omega, by omega⟩ ⟨by omega, by omega⟩ ⟨by omega, by omega⟩ ⟨by omega, by omega⟩ (by omega) (by omega)) flag_1)) ?_
        rw [ei.1, ei.2, ek.1, ek.2]
        unfold ovl
        exact ⟨fun ⟨⟨a, b⟩, ⟨c, d⟩, _⟩ => ⟨a, b, c, d⟩, fun ⟨a, b, c, d⟩ => ⟨⟨a, b⟩, ⟨c, d⟩, trivial⟩⟩
      rcases fo with ⟨o1, o2⟩ | ⟨o1, o2⟩
      · rw [o1, if_neg (by decide)]; exact Or.inr ⟨rfl, fun z => z o2⟩
      · rw [o1, if_pos rfl]; exact Or.inl ⟨rfl, o2⟩
    · rcases Nat.lt_or_ge o i with q | q
      · exact z.1.2 o q
      · rw [show o = i by omega]; exact z.2
theorem rvalid_ok {m : Mm} {g : Vc} {K : Int32 → Mm → Prop} (h : stR m g) (hr : rngD g) (kk : ∀ r m2, flag r (gok g) → flatR m2 g (pn g) → fr 432 436 m m2 → K r m2) : wp_X12_isValid m K := by
  unfold wp_X12_isValid
  have hp := hr.par
  have hp1 := hp.1
  refine layFlat_ok h hp (fun m1 hf f1 => ?_)
  have h1 : stR m1 g := stR_fr h f1 (by omega)
  refine loop_i (W := fun n i y => wp_X12_isValid_l8 K n y (nI i) m1) (I := fun i y => flag y (∀ k, k < i → gok1 g k)) (pn g) ?_ ?_ FU 0 1 (by omega) (FU_gt (by omega)) (Or.inl ⟨rfl, fun k hk => by omega⟩)
  · intro n y hy
    show wb_X12_isValid_l8 _ _ _ _ _
    unfold wb_X12_isValid_l8
    rw [many_ok h1 hp.2.1, if_pos (ile (Nat.le_refl _) (by omega))]
    exact ⟨flag_bo hy, kk _ _ hy hf f1⟩
  · intro n k y hk hy k2
    show wb_X12_isValid_l8 _ _ _ _ _
    unfold wb_X12_isValid_l8
    rw [many_ok h1 hp.2.1, if_neg (inle hk (by omega))]
    refine ⟨fun _ => vp_in_nI (by omega) (by omega), fun y11 e11 => ?_⟩
    obtain ⟨q1, q2, q3, q4⟩ := hf k hk
    have bk := rect_b hr hk
    have ek := bdr_xw bk
    have z0 : (0 : Int32).toInt = 0 := rfl
    rw [clamp_nI (by omega), q1, q2, q3, q4, h1 0 (by omega), h1 1 (by omega)] at e11
    have hy11 := flag_and hy (fun _ => flag_n (q := 0 ≤ (rect g k).1.toInt) (by rw [fa_lt]; omega) (flag_n (q := 0 ≤ (rect g k).2.1.toInt) (by rw [fa_lt]; omega) (flag_n (q := (rect g k).1.toInt + (rect g k).2.2.1.toInt ≤ (g 0).toInt) (by rw [fa_lt, ek.1]; omega) (flag_n (q := (rect g k).2.1.toInt + (rect g k).2.2.2.toInt ≤ (g 1).toInt) (by rw [fa_lt, ek.2]; omega) flag_1)))) e11
    have hB : ∀ y21, y21 = (if y11 = 0 then 0 else if nI k = 0 then 1 else if v_X12_sideLength (v_X12_of (nI k) 0 m1) (v_X12_of (nI k) 1 m1) m1 < v_X12_of (nI k) 2 m1 + v_X12_of (nI k) 3 m1 then 0 else 1) →
        flag y21 (((∀ j, j < k → gok1 g j) ∧ 0 ≤ (rect g k).1.toInt ∧ 0 ≤ (rect g k).2.1.toInt ∧ (rect g k).1.toInt + (rect g k).2.2.1.toInt ≤ (g 0).toInt ∧ (rect g k).2.1.toInt + (rect g k).2.2.2.toInt ≤ (g 1).toInt ∧ True) ∧ (0 < k → (pf g k 2).toInt + (pf g k 3).toInt ≤ (sdl (rect g (pf g k 0).toNatClampNeg) (pf g k 1)).toInt)) := by
      intro y21 e21
      refine flag_and hy11 (fun _ => ?_) e21
      by_cases h0 : k = 0
      · subst h0
        rw [if_pos (show nI 0 = (0 : Int32) from rfl)]
        exact Or.inl ⟨rfl, fun z => by omega⟩
      · rw [if_neg (show ¬ nI k = (0 : Int32) from ine (i := 0) h0 (by omega) (by omega))]
        obtain ⟨p, s, hpk, ep, hs, es, er⟩ := par_s hp (by omega) hk
        obtain ⟨-, -, ⟨r2, r2'⟩, ⟨r3, r3'⟩, -, -⟩ := hr.2.2.2.2.2.2 k (by omega) hk
        rw [of0 h1 (by omega), of1 h1 (by omega), of2 h1 (by omega), of3 h1 (by omega), ep, es, clamp_nI (by omega)]
        obtain ⟨f1', f2', f3', f4'⟩ := hf p (by omega)
        have e : v_X12_sideLength (nI p) (nI s) m1 = sdl (rect g p) (nI s) := by
          unfold v_X12_sideLength
          rw [clamp_nI (by omega), f3', f4', sdl_ref hs]
        rw [e]
        refine flag_iff (flag_n (q := (pf g k 2).toInt + (pf g k 3).toInt ≤ (sdl (rect g p) (nI s)).toInt) ?_ flag_1) ⟨fun z _ => z.1, fun z => ⟨z (by omega), trivial⟩⟩
        rw [fa_lt, add_t (by omega) (by omega) (by omega) (by omega)]
        omega
    refine ⟨fun _ hk0 => ?_, fun y21 e21 => ?_⟩
    · have h0 : k ≠ 0 := fun e => hk0 (by rw [e]; rfl)
      obtain ⟨p, s, hpk, ep, hs, es, er⟩ := par_s hp (by omega) hk
      rw [of0 h1 (by omega), of1 h1 (by omega), ep]
      exact ⟨sof2 (by omega), sof3 (by omega), sof0 (by omega), sof1 (by omega), vp_in_nI (by omega) (by omega)⟩
    · refine validIn_ok hr hk hf (hB y21 e21) (fun y hy => ?_)
      rw [nI_1]
      refine k2 _ (flag_iff hy ⟨fun z j hj => ?_, fun z => ?_⟩)
      · rcases Nat.lt_or_ge j k with q | q
        · exact z.1.1.1 j q
        · rw [show j = k by omega]
          obtain ⟨⟨⟨-, a1, a2, a3, a4, -⟩, b⟩, c⟩ := z
          exact ⟨⟨a1, a2, a3, a4⟩, b, c⟩
      · obtain ⟨⟨a1, a2, a3, a4⟩, b, c⟩ := z k (by omega)
        exact ⟨⟨⟨fun j hj => z j (by omega), a1, a2, a3, a4, trivial⟩, b⟩, c⟩
