/-! the class sorts its keys -/
def updL (f : Nat → Int64) (a : Nat) (x : Int64) : Nat → Int64 := fun j => if j = a then x else f j
def cVL (f : Nat → Int64) (n : Nat) (v : Int64) : Nat := fb_ct (fun j => decide (f j = v)) n
theorem cVL_upd (f : Nat → Int64) {a n : Nat} (x v : Int64) (h : a < n) : cVL (updL f a x) n v + (if f a = v then 1 else 0) = cVL f n v + (if x = v then 1 else 0) := by
  have e : (fun j => decide (updL f a x j = v)) = fun k => if k = a then decide (x = v) else (fun j => decide (f j = v)) k := by
    funext j
    unfold updL
    by_cases z : j = a
    · rw [if_pos z, if_pos z]
    · rw [if_neg z, if_neg z]
  have u := fb_ct_upd (fun j => decide (f j = v)) (decide (x = v)) h
  unfold cVL
  rw [e]
  simp only [decide_eq_true_eq] at u
  exact u
theorem updL_id (f : Nat → Int64) (a : Nat) : updL f a (f a) = f := by
  funext j
  unfold updL
  by_cases z : j = a
  · rw [if_pos z, z]
  · rw [if_neg z]
theorem wL_395 (m : Mm) (a : Nat) (x : Int64) : (wL m 395 a x).2 395 = updL (m.2 395) a x := by
  funext j
  rw [wL_get, if_pos rfl]
  rfl
theorem s38 {step i : Nat} {key : Int64} {k83 : Int32 → Mm → Prop} {K : Mm → Prop} {x2 : Int32} {P : Nat → Mm → Prop} (hst : 0 < step) (hst2 : step < 1000) (hi : i < 1000) (hx : ∀ a m, a ≤ i → P a m → (a < step ∨ ¬ key.toInt < (m.2 395 (a - step)).toInt) → k83 (nI a) m)
    (hs : ∀ a m, a ≤ i → step ≤ a → P a m → key.toInt < (m.2 395 (a - step)).toInt → P (a - step) (wL m 395 a (m.2 395 (a - step)))) : ∀ fu a m, a < fu → a ≤ i → P a m → wp_X4_sort_l38 k83 K (nI step) x2 key fu (nI a) m := by
  intro fu
  induction fu with
  | zero => intro a m h; omega
  | succ fu ih =>
    intro a m h1 h2 h3
    show wb_X4_sort_l38 _ _ _ _ _ _ _ _
    unfold wb_X4_sort_l38
    by_cases z : a < step
    · rw [if_pos (ilt z (by omega))]; exact hx a m h2 h3 (Or.inl z)
    · rw [if_neg (inlt (by omega) (by omega)), nI_sub (by omega), clamp_nI (by omega)]
      refine ⟨vp_in_nI (by omega) (by omega), ?_⟩
      by_cases z2 : key.toInt < (m.2 395 (a - step)).toInt
      · rw [if_neg (fun q => by rw [lg_cmp_le, fa_le64] at q; omega)]
        refine ⟨vp_in_nI (by omega) (by omega), ?_⟩
        rw [clamp_nI (by omega)]
        rintro m11 rfl y12 rfl
        exact ih (a - step) _ (by omega) (by omega) (hs a m h2 (by omega) h3 z2)
      · rw [if_pos (by rw [lg_cmp_le, fa_le64]; omega)]
        exact hx a m h2 h3 (Or.inr z2)
def srt (m : Mm) (n : Nat) : Prop := ∀ a b, a < b → b < n → (m.2 395 a).toInt ≤ (m.2 395 b).toInt
theorem s13 {st n : Nat} {C : Int64 → Nat} {m0 m : Mm} {k97 : Mm → Prop} {K : Mm → Prop} (hst : 0 < st) (hst2 : st < 1000) (hn : n ≤ 1000) (e0 : m0.1 264 0 = nI n) (h1 : m.1 = m0.1) (h2 : ∀ v, cVL (m.2 395) n v = C v) (kk : ∀ m2, m2.1 = m0.1 → (∀ v, cVL (m2.2 395) n v = C v) → (st = 1 → srt m2 n) → k97 m2) : wp_X4_sort_l13 k97 K (nI st) FU (nI st) m := by
  refine loop_a (wp := fun fu i s => wp_X4_sort_l13 k97 K (nI st) fu i s) (I := fun i s => s.1 = m0.1 ∧ (∀ v, cVL (s.2 395) n v = C v) ∧ (st = 1 → srt s i)) (a := st) (N := n) (by omega) (by omega) ?_ ?_ ⟨h1, h2, fun z => by subst z; intro a b h3 h4; omega⟩
  · rintro fu i s h3 h4 ⟨i1, i2, i3⟩
    show wb_X4_sort_l13 _ _ _ _ _ _
    unfold wb_X4_sort_l13
    rw [i1, e0, if_pos (ile h3 (by omega))]
    refine kk s i1 i2 (fun z => ?_)
    have := i3 z
    intro a b hab hb
    exact this a b hab (by omega)
  · rintro fu i s h3 h4 ⟨i1, i2, i3⟩ k2
    show wb_X4_sort_l13 _ _ _ _ _ _
    unfold wb_X4_sort_l13
    rw [i1, e0, if_neg (inle h4 (by omega)), if_neg (show ¬ (1000 : Int32) ≤ nI i from inle (a := 1000) (by omega) (by omega)), clamp_nI (by omega)]
    refine ⟨vp_in_nI (by omega) (by omega), ?_⟩
    rintro y6 rfl
    refine s38 (P := fun a t => t.1 = m0.1 ∧ (∀ v, cVL (updL (t.2 395) a (s.2 395 i)) n v = C v) ∧ (st = 1 → (∀ j, j < a → t.2 395 j = s.2 395 j) ∧ (∀ j, a < j → j ≤ i → t.2 395 j = s.2 395 (j - 1)) ∧ ∀ j, a ≤ j → j < i → (s.2 395 i).toInt < (s.2 395 j).toInt)) hst hst2 (by omega) ?_ ?_ FU i s (FU_gt (by omega)) (Nat.le_refl _) ⟨i1, fun v => by rw [updL_id]; exact i2 v, fun _ => ⟨fun _ _ => rfl, fun j h5 h6 => by omega, fun j h5 h6 => by omega⟩⟩
    · rintro a t ha ⟨q1, q2, q3⟩ hex
      refine ⟨vp_in_nI (by omega) (by omega), ?_⟩
      rw [clamp_nI (by omega)]
      rintro m16 rfl
      refine k2 _ ⟨by rw [wL_I]; exact q1, fun v => by rw [wL_395]; exact q2 v, fun z => ?_⟩
      obtain ⟨r1, r2, r3⟩ := q3 z
      have ss := i3 z
      intro x y hxy hy
      rw [wL_395]
      have val : ∀ j, j ≤ i → updL (t.2 395) a (s.2 395 i) j = if j < a then s.2 395 j else if j = a then s.2 395 i else s.2 395 (j - 1) := fun j hj => by
        unfold updL
        by_cases w : j = a
        · rw [if_pos w, if_neg (by omega), if_pos w]
        · rw [if_neg w, if_neg w]
          by_cases w2 : j < a
          · rw [if_pos w2, r1 j w2]
          · rw [if_neg w2, r2 j (by omega) hj]
      rw [val x (by omega), val y (by omega)]
      by_cases c1 : y < a
      · rw [if_pos c1, if_pos (by omega)]; exact ss x y hxy (by omega)
      · rw [if_neg c1]
        by_cases c2 : y = a
        · rw [if_pos c2, if_pos (by omega)]
          have hle : (s.2 395 (a - 1)).toInt ≤ (s.2 395 i).toInt := by
            rcases hex with w | w
            · omega
            · rw [z, r1 (a - 1) (by omega)] at w; omega
          by_cases c3 : x = a - 1
          · rw [c3]; exact hle
          · have := ss x (a - 1) (by omega) (by omega); omega
        · rw [if_neg c2]
          by_cases c3 : x < a
          · rw [if_pos c3]
            by_cases c4 : x = y - 1
            · rw [c4]; exact Int.le_refl _
            · exact ss x (y - 1) (by omega) (by omega)
          · rw [if_neg c3]
            by_cases c4 : x = a
            · rw [if_pos c4]
              have := r3 (y - 1) (by omega) (by omega)
              omega
            · rw [if_neg c4]
              exact ss (x - 1) (y - 1) (by omega) (by omega)
    · rintro a t ha hsa ⟨q1, q2, q3⟩ hlt
      refine ⟨by rw [wL_I]; exact q1, fun v => ?_, fun z => ?_⟩
      · rw [wL_395, ← q2 v]
        have u1 := cVL_upd (updL (t.2 395) a (t.2 395 (a - st))) (a := a - st) (n := n) (s.2 395 i) v (by omega)
        have u2 := cVL_upd (t.2 395) (a := a) (n := n) (t.2 395 (a - st)) v (by omega)
        have u3 := cVL_upd (t.2 395) (a := a) (n := n) (s.2 395 i) v (by omega)
        have e : updL (t.2 395) a (t.2 395 (a - st)) (a - st) = t.2 395 (a - st) := by unfold updL; rw [if_neg (by omega)]
        rw [e] at u1
        omega
      · obtain ⟨r1, r2, r3⟩ := q3 z
        subst z
        rw [wL_395]
        refine ⟨fun j hj => ?_, fun j hj hj2 => ?_, fun j hj hj2 => ?_⟩
        · unfold updL; rw [if_neg (by omega)]; exact r1 j (by omega)
        · unfold updL
          by_cases w : j = a
          · rw [if_pos w, r1 (a - 1) (by omega), w]
          · rw [if_neg w]; exact r2 j (by omega) hj2
        · by_cases w : j = a - 1
          · rw [w]; rw [r1 (a - 1) (by omega)] at hlt; exact hlt
          · exact r3 j (by omega) hj2
theorem sort_ok {n : Nat} {m : Mm} {K : Mm → Prop} (hn : n ≤ 1000) (e0 : m.1 264 0 = nI n) (kk : ∀ m2, m2.1 = m.1 → (∀ v, cVL (m2.2 395) n v = cVL (m.2 395) n v) → srt m2 n → K m2) : wp_X4_sort m K := by
  have hl : ∀ fu st (m2 : Mm), st < fu → st < 1000 → m2.1 = m.1 → (∀ v, cVL (m2.2 395) n v = cVL (m.2 395) n v) → (st = 0 → srt m2 n) → wp_X4_sort_l7 K fu (nI st) m2 := by
    intro fu
    induction fu with
    | zero => intro st m2 h; omega
    | succ fu ih =>
      intro st m2 h1 h2 h3 h4 h5
      show wb_X4_sort_l7 _ _ _ _
      unfold wb_X4_sort_l7
      by_cases z : st = 0
      · rw [if_pos (by rw [z]; decide)]; exact kk m2 h3 h4 (h5 z)
      · rw [if_neg (show ¬ nI st ≤ (0 : Int32) from inle (i := 0) (by omega) (by omega))]
        refine s13 (m0 := m) (by omega) h2 hn e0 h3 h4 (fun m3 q1 q2 q3 => ?_)
        rw [show nI st / (2 : Int32) = nI (st / 2) from pk_div (d := 2) (by omega) (by omega) (by omega)]
        rintro y18 rfl
        exact ih (st / 2) m3 (by omega) (by omega) q1 q2 (fun w => q3 (by omega))
  unfold wp_X4_sort
  rw [e0, show nI n / (2 : Int32) = nI (n / 2) from pk_div (d := 2) (by omega) (by omega) (by omega)]
  rintro y1 rfl
  refine hl FU (n / 2) m (FU_gt (by omega)) (by omega) rfl (fun _ => rfl) (fun z => ?_)
  intro a b h1 h2
  omega
