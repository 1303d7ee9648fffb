/-! foldStep: the reference -/
theorem shr_32 {v k : Nat} (hv : v < 2 ^ 31) (hk : k < 32) : nI v >>> (nI k &&& 31) = nI (v / 2 ^ k) := by
  have h : ∀ k : Fin 32, ((nI k.val &&& 31).toBitVec.smod 32).toNat = k.val := by decide
  exact pk_shrN hv _ k (h ⟨k, hk⟩)
theorem bc_32 {A : Nat} (hA : A < 1024) : ∀ d, bc A (10 + d) = bc A 10 := by
  intro d
  induction d with
  | zero => rfl
  | succ d ih =>
    show bc A (10 + d) + (if A.testBit (10 + d) = true then 1 else 0) = bc A 10
    rw [ih, if_neg (fun h => by have := tb_lt hA h; omega), Nat.add_zero]
theorem bits_ok {m : Mm} {A : Nat} {K : Int32 → Mm → Prop} (hA : A < 1024) (kk : K (nI (bc A 10)) m) : wp_X12_bits (nI A) m K := by
  unfold wp_X12_bits
  refine loop_a (wp := fun n i q => wp_X12_bits_l4 K (nI A) n q i m) (I := fun i q => q = nI (bc A i)) (a := 0) (N := 32) (by omega) (by omega) (fun n i q h1 h2 hI => ?_) (fun n i q h1 h2 hI k1 => ?_) rfl
  · show wb_X12_bits_l4 _ _ _ _ _ _
    unfold wb_X12_bits_l4
    have e : i = 10 + 22 := by omega
    rw [if_pos (show (32 : Int32) ≤ nI i from ile (a := 32) h1 (by omega)), hI, e, bc_32 hA]
    exact kk
  · show wb_X12_bits_l4 _ _ _ _ _ _
    unfold wb_X12_bits_l4
    rw [if_neg (show ¬ (32 : Int32) ≤ nI i from inle (a := 32) h2 (by omega)), hI, shr_32 (by omega) h2, and_1]
    rintro y2 rfl
    refine k1 _ ?_
    rw [nI_add]
    congr 1
    show _ = bc A i + (if A.testBit i = true then 1 else 0)
    rw [Nat.testBit_eq_decide_div_mod_eq]
    have h2 : A / 2 ^ i % 2 < 2 := Nat.mod_lt _ (by omega)
    by_cases z : A / 2 ^ i % 2 = 1
    · rw [decide_eq_true z, if_pos rfl, z]
    · rw [decide_eq_false z, if_neg (by decide)]; omega
def frLd (m m2 : Mm) : Prop := ∀ b, b < 432 ∨ (436 ≤ b ∧ b < 439) ∨ (446 ≤ b ∧ b ≠ 449) → m2.1 b = m.1 b
theorem frLd_F {m m2 m3 : Mm} (f : frLd m m2) (q : frF m2 m3) : frLd m m3 := fun b h => by rw [q b (by omega)]; exact f b h
theorem frLd_w {m m2 : Mm} (f : frLd m m2) (t : Nat) (x : Int32) : frLd m (wI m2 449 t x) := fun b h => by
  rw [← f b h]; exact funext fun j => wI_ne _ _ _ _ (by omega) j
theorem stR_Ld {m m2 : Mm} {g : Vc} (h : stR m g) (f : frLd m m2) : stR m2 g := fun k hk => by rw [f 427 (by omega)]; exact h k hk
theorem RefR_Ld {m m2 : Mm} {S : AS} (h : RefR m S) (f : frLd m m2) : RefR m2 S := by
  have e : m2.1 426 = m.1 426 := f 426 (by omega)
  exact RefR_congr h (by rw [e]) (by rw [e]) (by rw [e]) (fun b hb => f b (by unfold rcell at hb; omega))
def lI (g : Vc) (A j : Nat) (m : Mm) : Prop := ∀ t, j ≤ t → t ≤ A → flag (m.1 449 t) (Ld (gG g) A t)
/-- one set: does it lead on? -/
theorem lone {m m0 : Mm} {g : Vc} {A j : Nat} {K : Int32 → Mm → Prop} {k56 : Int32 → Mm → Prop} {x1 : Int32} (hr : rngD g) (hs : stR m0 g) (hA : A = aS g) (hj : j ≤ A) (hf : frLd m0 m) (hl : lI g A (j + 1) m) (kk : ∀ m2, frLd m0 m2 → lI g A j m2 → k56 (nI j + (-1 : Int32)) m2) : wp_X12_foldStep_l79 k56 K x1 (nI A) (nI j) FU 1 (wI m 449 j (if nI j = nI A then 1 else 0)) := by
  have hp1 := hr.par.1
  have hA2 : A < 1024 := by rw [hA]; exact aS_lt hp1
  have hb : ∀ q, A.testBit q = true → 1 ≤ q ∧ q < pn g := fun q hq => aS_b (by rw [← hA]; exact hq)
  have hlw : ∀ (m' : Mm) (x : Int32), lI g A (j + 1) m' → flag x (Ld (gG g) A j) → lI g A j (wI m' 449 j x) := fun m' x h1 h2 t a b => by
    by_cases w : t = j
    · rw [w, wI_same]; exact h2
    · rw [wI_nj _ _ _ _ w]; exact h1 t (by omega) b
  have hlw2 : ∀ (m' : Mm) (x : Int32), lI g A (j + 1) m' → lI g A (j + 1) (wI m' 449 j x) := fun m' x h1 t a b => by
    rw [wI_nj _ _ _ _ (show t ≠ j by omega)]; exact h1 t (by omega) b
  have hlj : ∀ (m' : Mm), lI g A (j + 1) m' → flag (m'.1 449 j) (Ld (gG g) A j) → lI g A j m' := fun m' h1 h2 t a b => by
    by_cases w : t = j
    · rw [w]; exact h2
    · exact h1 t (by omega) b
  have h0 : flag ((wI m 449 j (if nI j = nI A then 1 else 0)).1 449 j) (j = A) := by
    rw [wI_same, if_nI (by omega) (by omega)]
    by_cases w : j = A
    · rw [if_pos w]; exact Or.inl ⟨rfl, w⟩
    · rw [if_neg w]; exact Or.inr ⟨rfl, w⟩
  refine loop_a (wp := fun n i q => wp_X12_foldStep_l79 k56 K x1 (nI A) (nI j) n i q) (I := fun p m' => frLd m0 m' ∧ lI g A (j + 1) m' ∧ flag (m'.1 449 j) (j = A ∨ ∃ q, q < p ∧ okN (gG g) A j q)) (a := 1) (N := pn g) (by omega) (by omega) (fun n p m' h1 h2 hI => ?_) (fun n p m' h1 h2 hI k1 => ?_) ⟨frLd_w hf _ _, hlw2 _ _ hl, flag_iff h0 ⟨fun w => Or.inl w, fun w => ?_⟩⟩
  · obtain ⟨a1, a2, a3⟩ := hI
    show wb_X12_foldStep_l79 _ _ _ _ _ _ _ _
    unfold wb_X12_foldStep_l79
    rw [many_ok (stR_Ld hs a1) hr.par.2.1, if_pos (ile h1 (by omega))]
    refine kk _ a1 (hlj _ a2 (flag_iff a3 ?_))
    rw [Ld_iff]
    refine ⟨fun w => ?_, fun w => ?_⟩
    · rcases w with w | ⟨q, w1, w2⟩
      · exact Or.inl w
      · exact Or.inr ⟨q, w2⟩
    · rcases w with w | ⟨q, w⟩
      · exact Or.inl w
      · exact Or.inr ⟨q, by have := hb q w.1; omega, w⟩
  · obtain ⟨a1, a2, a3⟩ := hI
    show wb_X12_foldStep_l79 _ _ _ _ _ _ _ _
    unfold wb_X12_foldStep_l79
    rw [many_ok (stR_Ld hs a1) hr.par.2.1, if_neg (inle h2 (by omega))]
    by_cases c1 : sb j A
    · rw [if_pos ((sub_k (by omega)).mpr c1)]
      rintro y20 rfl
      rw [push_k (by omega), clamp_nI (by omega)]
      refine ⟨vp_in_nI (by omega) (by omega), ?_⟩
      have hw : ∀ (m2 : Mm) (x : Int32), frLd m0 m2 → lI g A (j + 1) m2 → flag x (j = A ∨ ∃ q, q < p + 1 ∧ okN (gG g) A j q) → wp_X12_foldStep_l79 k56 K x1 (nI A) (nI j) n (nI p + 1) (wI m2 449 j x) := fun m2 x b1 b2 b3 => k1 _ ⟨frLd_w b1 _ _, hlw2 _ _ b2, by rw [wI_same]; exact b3⟩
      have hext : (okN (gG g) A j p ↔ False) → ((j = A ∨ ∃ q, q < p ∧ okN (gG g) A j q) ↔ (j = A ∨ ∃ q, q < p + 1 ∧ okN (gG g) A j q)) := fun hn => by
        refine ⟨fun w => ?_, fun w => ?_⟩
        · rcases w with w | ⟨q, w1, w2⟩
          · exact Or.inl w
          · exact Or.inr ⟨q, by omega, w2⟩
        · rcases w with w | ⟨q, w1, w2⟩
          · exact Or.inl w
          · by_cases e : q = p
            · subst e; exact absurd w2 (fun h => hn.mp h)
            · exact Or.inr ⟨q, by omega, w2⟩
      have hz : ∀ {m2 : Mm}, m2 = m' → m'.1 449 j = 0 → ¬ okN (gG g) A j p → wp_X12_foldStep_j157 (wp_X12_foldStep_l79 k56 K x1 (nI A) (nI j) n) K x1 (nI A) (nI j) (nI p) (nI j) m2 := by
        rintro m2 rfl e hn
        unfold wp_X12_foldStep_j157 wp_X12_foldStep_j158
        rw [clamp_nI (by omega)]
        refine ⟨vp_in_nI (by omega) (by omega), bo_0, ?_⟩
        rintro m25 rfl
        refine hw _ _ a1 a2 ?_
        rw [← e]
        exact flag_iff a3 (hext ⟨hn, False.elim⟩)
      by_cases c2 : m'.1 449 j = 0
      · rw [if_pos c2]
        by_cases c3 : A.testBit p = true
        · have hp10 : p < 10 := by omega
          rw [if_pos ((bit_k hA2 hp10).mpr c3)]
          cases c4 : j.testBit p with
          | true =>
            rw [or_eq c4, if_pos rfl]
            exact hz rfl c2 (fun h => by rw [h.2.1] at c4; cases c4)
          | false =>
            have ho := or_lt (show j < 1024 by omega) hp10
            have hle := sb_le (or_sb c1 c3)
            have hlt := lt_or c4
            rw [if_neg (ine (or_ne c4) (by omega) (by omega)), clamp_nI (by omega)]
            refine ⟨vp_in_nI ho (by omega), ?_⟩
            have hfl := a2 (j ||| 2 ^ p) (by omega) hle
            by_cases c5 : m'.1 449 (j ||| 2 ^ p) = 0
            · rw [if_pos c5]
              exact hz rfl c2 (fun h => (flag_0 hfl).mp c5 h.2.2.2)
            · rw [if_neg c5]
              have hL : Ld (gG g) A (j ||| 2 ^ p) := Classical.byContradiction fun w => c5 ((flag_0 hfl).mpr w)
              refine rpairs_ok hr (stR_Ld hs a1) (fun m2 f => ?_)
              rintro y33 rfl m34 rfl
              have e449 : m2.1 449 = m'.1 449 := f 449 (by omega)
              refine hw _ _ (frLd_F a1 f) (fun t x1 x2 => by rw [e449]; exact a2 t x1 x2) ?_
              by_cases c6 : gG g (j ||| 2 ^ p)
              · rw [if_pos (show xPairs g (angM g (nI (j ||| 2 ^ p))) (g 125) = 0 from c6)]
                exact Or.inl ⟨rfl, Or.inr ⟨p, by omega, c3, c4, c6, hL⟩⟩
              · rw [if_neg (show ¬ xPairs g (angM g (nI (j ||| 2 ^ p))) (g 125) = 0 from c6), ← c2]
                exact flag_iff a3 (hext ⟨fun h => c6 h.2.2.1, False.elim⟩)
        · rw [if_neg (fun w => c3 ((bit_k hA2 (by omega)).mp w))]
          exact hz rfl c2 (fun h => c3 h.1)
      · rw [if_neg c2]
        unfold wp_X12_foldStep_j153 wp_X12_foldStep_j158
        rw [clamp_nI (by omega)]
        refine ⟨vp_in_nI (by omega) (by omega), bo_1, ?_⟩
        rintro m25 rfl
        refine hw _ _ a1 a2 (Or.inl ⟨rfl, ?_⟩)
        have := Classical.byContradiction (fun w => c2 ((flag_0 a3).mpr w))
        rcases this with w | ⟨q, w1, w2⟩
        · exact Or.inl w
        · exact Or.inr ⟨q, by omega, w2⟩
    · rw [if_neg (fun w => c1 ((sub_k (by omega)).mp w))]
      refine kk _ a1 (hlj _ a2 (flag_iff a3 ⟨fun w => ?_, fun w => absurd (Ld_sb w) c1⟩))
      rcases w with w | ⟨q, w1, w2⟩
      · rw [w] at c1; exact absurd (fun q hq => hq) c1
      · exact absurd (Ld_sb (Ld_iff.mpr (Or.inr ⟨q, w2⟩))) c1
  · rcases w with w | ⟨q, w1, w2⟩
    · exact w
    · have := hb q w2.1; omega
