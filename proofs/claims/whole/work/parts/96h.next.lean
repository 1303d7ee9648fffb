/-! foldStep: the class's next fold -/
def gG (g : Vc) (s : Nat) : Prop := xPairs g (angM g (nI s)) (g 125) = 0
def dInv (g : Vc) (A : Nat) (m : Mm) : Prop := ∀ t, sb t A → m.1 282 t ≠ 0 → ¬ (gG g t ∧ Ld (gG g) A t)
def nfR (m m2 : Mm) : Prop := (∀ b, b ≠ 269 → b ≠ 282 → b < 283 ∨ 383 ≤ b → m2.1 b = m.1 b) ∧ ∀ t, m.1 282 t ≠ 0 → m2.1 282 t ≠ 0
def gotN (g : Vc) (A s : Nat) (r : Int32) (m2 : Mm) : Prop := (r = -9 ∧ ∀ q, ¬ okN (gG g) A s q) ∨ ∃ p, r = nI p ∧ p < 10 ∧ A.testBit p = true ∧ s.testBit p = false ∧ gG g (s ||| 2 ^ p) ∧ (∀ q, q < p → ¬ okN (gG g) A s q) ∧ m2.1 282 (s ||| 2 ^ p) = 0
theorem next_ok {m : Mm} {g : Vc} {A s : Nat} {K : Int32 → Mm → Prop} (hr : rngD g) (hd : desR m.1 1 g) (hA : A < 1024) (hb : ∀ q, A.testBit q = true → 1 ≤ q) (hs : sb s A) (h0 : dInv g A m) (kk : ∀ r m2, nfR m m2 → (∀ t, sb t s → m2.1 282 t = m.1 282 t) → dInv g A m2 → gotN g A s r m2 → K r m2) : wp_X5_nextFold 1 (nI s) (nI A &&& (nI s ^^^ (-1 : Int32))) (g 125) m K := by
  have hp1 := hr.par.1
  have hs2 : s < 1024 := by have := sb_le hs; omega
  unfold wp_X5_nextFold
  refine loop_a (wp := fun n i q => wp_X5_nextFold_l3 K 1 (nI s) (nI A &&& (nI s ^^^ (-1 : Int32))) (g 125) n i q) (I := fun i m' => nfR m m' ∧ (∀ t, sb t s → m'.1 282 t = m.1 282 t) ∧ dInv g A m' ∧ ∀ q, q < i → ¬ okN (gG g) A s q) (a := 1) (N := 10) (by omega) (by omega) (fun n i m' h1 h2 hI => ?_) (fun n i m' h1 h2 hI k1 => ?_) ⟨⟨fun _ _ _ _ => rfl, fun _ h => h⟩, fun _ _ => rfl, h0, fun q hq h => by have := hb q h.1; omega⟩
  · obtain ⟨a1, a2, a3, a4⟩ := hI
    show wb_X5_nextFold_l3 _ _ _ _ _ _ _ _
    unfold wb_X5_nextFold_l3
    rw [if_pos (show (10 : Int32) ≤ nI i from ile (a := 10) h1 (by omega))]
    refine kk _ _ a1 a2 a3 (Or.inl ⟨rfl, fun q h => ?_⟩)
    have := tb_lt hA h.1
    exact a4 q (by omega) h
  · obtain ⟨a1, a2, a3, a4⟩ := hI
    show wb_X5_nextFold_l3 _ _ _ _ _ _ _ _
    unfold wb_X5_nextFold_l3
    rw [if_neg (show ¬ (10 : Int32) ≤ nI i from inle (a := 10) h2 (by omega))]
    rintro y2 rfl
    have hno : ¬ okN (gG g) A s i → ∀ q, q < i + 1 → ¬ okN (gG g) A s q := fun w q hq h => by
      by_cases z : q = i
      · subst z; exact w h
      · exact a4 q (by omega) h
    by_cases c1 : A.testBit i = true ∧ s.testBit i = false
    · have ho := or_lt hs2 h2
      have hos := or_sb hs c1.1
      rw [if_neg (fun z => (left_k h2).mp z c1), push_k h2, if_neg (show ¬ (1024 : Int32) ≤ nI (s ||| 2 ^ i) from inle (a := 1024) ho (by omega)), clamp_nI (by omega)]
      refine ⟨vp_in_nI ho (by omega), ?_⟩
      by_cases c2 : m'.1 282 (s ||| 2 ^ i) = 0
      · rw [if_pos c2]
        refine cfold_ok hr (desR_congr hp1 hd (fun b b1 b2 => a1.1 b (by omega) (by omega) (by omega))) (by omega) (bit_N (by omega)) (fun m7 hF f => ?_)
        refine cpairs_ok hr.par hF ?_
        show (if xPairs g (angM g (nI (s ||| 2 ^ i))) (g 125) = 0 then _ else _)
        have e2 : m7.1 282 = m'.1 282 := f 282 (by omega) (by omega)
        have b1 : nfR m m7 := ⟨fun b x1 x2 x3 => by rw [f b x1 x3]; exact a1.1 b x1 x2 x3, fun t ht => by rw [e2]; exact a1.2 t ht⟩
        by_cases c3 : gG g (s ||| 2 ^ i)
        · rw [if_pos (show xPairs g (angM g (nI (s ||| 2 ^ i))) (g 125) = 0 from c3)]
          exact kk _ _ b1 (fun t ht => by rw [e2]; exact a2 t ht) (fun t x1 x2 => a3 t x1 (by rw [← e2]; exact x2)) (Or.inr ⟨i, rfl, h2, c1.1, c1.2, c3, a4, by rw [e2]; exact c2⟩)
        · rw [if_neg (show ¬ xPairs g (angM g (nI (s ||| 2 ^ i))) (g 125) = 0 from c3)]
          rintro m11 rfl
          refine k1 _ ⟨⟨fun b x1 x2 x3 => ?_, fun t ht => ?_⟩, fun t ht => ?_, fun t x1 x2 => ?_, hno (fun h => c3 h.2.2.1)⟩
          · rw [← b1.1 b x1 x2 x3]; exact funext fun j => wI_ne _ _ _ _ x2 j
          · by_cases z : t = s ||| 2 ^ i
            · rw [z, wI_same]; decide
            · rw [wI_nj _ _ _ _ z]; exact b1.2 t ht
          · rw [wI_nj _ _ _ _ (not_sb_or c1.2 ht), e2]; exact a2 t ht
          · by_cases z : t = s ||| 2 ^ i
            · rw [z]; exact fun h => c3 h.1
            · rw [wI_nj _ _ _ _ z, e2] at x2; exact a3 t x1 x2
      · rw [if_neg c2]
        exact k1 _ ⟨a1, a2, a3, hno (fun h => a3 _ hos c2 ⟨h.2.2.1, h.2.2.2⟩)⟩
    · rw [if_pos ((left_k h2).mpr c1)]
      exact k1 _ ⟨a1, a2, a3, hno (fun h => c1 ⟨h.1, h.2.1⟩)⟩
