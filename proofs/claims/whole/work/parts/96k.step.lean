/-! foldStep: the two answers -/
theorem dec_1 (j : Nat) : nI (j + 1) + (-1 : Int32) = nI j := by
  rw [show (-1 : Int32) = -(nI 1) from rfl, ← Int32.sub_eq_add_neg, nI_sub (by omega)]; rfl
theorem lall {m0 : Mm} {g : Vc} {A : Nat} {K : Int32 → Mm → Prop} {k171 : Mm → Prop} {x1 : Int32} (hr : rngD g) (hs : stR m0 g) (hA : A = aS g) (kk : ∀ m2, frLd m0 m2 → lI g A 0 m2 → k171 m2) : ∀ j n m, j ≤ A + 1 → j < n → frLd m0 m → lI g A j m → wp_X12_foldStep_l56 k171 K x1 (nI A) n (nI j + (-1 : Int32)) m := by
  have hA2 : A < 1024 := by rw [hA]; exact aS_lt hr.par.1
  intro j
  induction j with
  | zero =>
    intro n m h1 h2 hf hl
    obtain ⟨n', rfl⟩ : ∃ n', n = n' + 1 := ⟨n - 1, by omega⟩
    show wb_X12_foldStep_l56 _ _ _ _ _ _ _
    unfold wb_X12_foldStep_l56
    rw [if_pos (show nI 0 + (-1 : Int32) < 0 from by decide)]
    exact kk _ hf hl
  | succ j ih =>
    intro n m h1 h2 hf hl
    obtain ⟨n', rfl⟩ : ∃ n', n = n' + 1 := ⟨n - 1, by omega⟩
    show wb_X12_foldStep_l56 _ _ _ _ _ _ _
    unfold wb_X12_foldStep_l56
    rw [dec_1, if_neg (show ¬ nI j < (0 : Int32) from inlt (i := 0) (by omega) (by omega)), clamp_nI (by omega)]
    rintro y15 rfl
    refine ⟨vp_in_nI (by omega) (by omega), ?_⟩
    rintro m17 rfl
    exact lone hr hs hA (by omega) hf hl (fun m2 f2 l2 => ih n' m2 (by omega) (by omega) f2 l2)
theorem lall2 {m0 : Mm} {g : Vc} {A : Nat} {K : Int32 → Mm → Prop} {k171 : Mm → Prop} {x1 : Int32} (hr : rngD g) (hs : stR m0 g) (hA : A = aS g) (kk : ∀ m2, frLd m0 m2 → lI g A 0 m2 → k171 m2) (n : Nat) (hn : A + 1 < n) : wp_X12_foldStep_l56 k171 K x1 (nI A) n (nI A) m0 := by
  have := lall (K := K) (x1 := x1) hr hs hA kk (A + 1) n m0 (Nat.le_refl _) hn (fun _ _ => rfl) (fun t a b => by omega)
  rw [dec_1] at this
  exact this
def rB (g : Vc) (A s p : Nat) (x4 : Int32) : Prop := (x4 = -9 ∧ ∀ q, p < q → ¬ okN (gG g) A s q) ∨ ∃ q, p < q ∧ x4 = nI q ∧ okN (gG g) A s q ∧ ∀ q', p < q' → q' < q → ¬ okN (gG g) A s q'
theorem rone {m0 : Mm} {g : Vc} {A s : Nat} {K : Int32 → Mm → Prop} {k2 : Int32 → Mm → Prop} {x1 x5 : Int32} (hr : rngD g) (hs : stR m0 g) (hA : A = aS g) (hsb : sb s A) (kk : ∀ x4 m2, frLd m0 m2 → lI g A 0 m2 → rB g A s 0 x4 → k2 x4 m2) : ∀ p n x4 m, p < 10 → p < n → frLd m0 m → lI g A 0 m → rB g A s p x4 → wp_X12_foldStep_l198 k2 K x1 (nI A) (nI s) x5 n x4 (nI p) m := by
  have hA2 : A < 1024 := by rw [hA]; exact aS_lt hr.par.1
  have hle := sb_le hsb
  intro p
  induction p with
  | zero =>
    intro n x4 m h1 h2 hf hl hB
    obtain ⟨n', rfl⟩ : ∃ n', n = n' + 1 := ⟨n - 1, by omega⟩
    show wb_X12_foldStep_l198 _ _ _ _ _ _ _ _ _ _
    unfold wb_X12_foldStep_l198
    rw [if_pos (show nI 0 ≤ (0 : Int32) from by decide)]
    exact kk _ _ hf hl hB
  | succ p ih =>
    intro n x4 m h1 h2 hf hl hB
    obtain ⟨n', rfl⟩ : ∃ n', n = n' + 1 := ⟨n - 1, by omega⟩
    show wb_X12_foldStep_l198 _ _ _ _ _ _ _ _ _ _
    unfold wb_X12_foldStep_l198
    rw [if_neg (show ¬ nI (p + 1) ≤ (0 : Int32) from inle (i := 0) (by omega) (by omega))]
    rintro y41 rfl
    rw [push_k (by omega)]
    have hno : ¬ okN (gG g) A s (p + 1) → rB g A s p x4 := fun hn => by
      rcases hB with ⟨a, b⟩ | ⟨q, a, b, c, d⟩
      · refine Or.inl ⟨a, fun q hq => ?_⟩
        by_cases e : q = p + 1
        · subst e; exact hn
        · exact b q (by omega)
      · refine Or.inr ⟨q, by omega, b, c, fun q' x1 x2 => ?_⟩
        by_cases e : q' = p + 1
        · subst e; exact hn
        · exact d q' (by omega) x2
    have hyes : okN (gG g) A s (p + 1) → rB g A s p (nI (p + 1)) := fun h => Or.inr ⟨p + 1, by omega, rfl, h, fun q' a b => by omega⟩
    have hfs : ∀ m2, lI g A 0 m2 → flag (m2.1 449 s) (Ld (gG g) A s) := fun m2 h => h s (by omega) hle
    have hz : ¬ okN (gG g) A s (p + 1) → wp_X12_foldStep_j250 (wp_X12_foldStep_l198 k2 K x1 (nI A) (nI s) x5 n') K x1 (nI A) (nI s) x4 x5 (nI (p + 1)) m := fun hn => by
      unfold wp_X12_foldStep_j250 wp_X12_foldStep_j251
      rw [clamp_nI (by omega)]
      refine ⟨vp_in_nI (by omega) (by omega), ?_⟩
      rintro y46 rfl
      rw [if_pos (show (0 : Int32) = 0 from rfl), ite_self, dec_1]
      exact ih n' x4 m (by omega) (by omega) hf hl (hno hn)
    by_cases c3 : A.testBit (p + 1) = true
    · rw [if_pos ((bit_k hA2 h1).mpr c3)]
      cases c4 : s.testBit (p + 1) with
      | true =>
        rw [or_eq c4, if_pos rfl]
        exact hz (fun h => by rw [h.2.1] at c4; cases c4)
      | false =>
        have ho := or_lt (show s < 1024 by omega) h1
        have hle2 := sb_le (or_sb hsb c3)
        rw [if_neg (ine (or_ne c4) (by omega) (by omega)), clamp_nI (by omega)]
        refine ⟨vp_in_nI ho (by omega), ?_⟩
        have hfl := hl (s ||| 2 ^ (p + 1)) (by omega) hle2
        by_cases c5 : m.1 449 (s ||| 2 ^ (p + 1)) = 0
        · rw [if_pos c5]
          exact hz (fun h => (flag_0 hfl).mp c5 h.2.2.2)
        · rw [if_neg c5]
          have hL : Ld (gG g) A (s ||| 2 ^ (p + 1)) := Classical.byContradiction fun w => c5 ((flag_0 hfl).mpr w)
          refine rpairs_ok hr (stR_Ld hs hf) (fun m2 f => ?_)
          have e449 : m2.1 449 = m.1 449 := f 449 (by omega)
          have hl2 : lI g A 0 m2 := fun t x1 x2 => by rw [e449]; exact hl t x1 x2
          rintro y54 rfl
          rw [clamp_nI (show s < 2 ^ 31 by omega)]
          refine ⟨vp_in_nI (by omega) (by omega), ?_⟩
          rintro y58 rfl
          rw [dec_1]
          refine ih n' _ m2 (by omega) (by omega) (frLd_F hf f) hl2 ?_
          by_cases c6 : gG g (s ||| 2 ^ (p + 1))
          · have hok : okN (gG g) A s (p + 1) := ⟨c3, c4, c6, hL⟩
            rw [if_pos (show xPairs g (angM g (nI (s ||| 2 ^ (p + 1)))) (g 125) = 0 from c6), if_neg (show ¬ (1 : Int32) = 0 by decide), if_neg (fun w => (flag_0 (hfs m2 hl2)).mp w (Ld_iff.mpr (Or.inr ⟨_, hok⟩)))]
            exact hyes hok
          · rw [if_neg (show ¬ xPairs g (angM g (nI (s ||| 2 ^ (p + 1)))) (g 125) = 0 from c6), if_pos (show (0 : Int32) = 0 from rfl), ite_self]
            exact hno (fun h => c6 h.2.2.1)
    · rw [if_neg (fun w => c3 ((bit_k hA2 h1).mp w))]
      exact hz (fun h => c3 h.1)
theorem bc_pos {g : Vc} (hp : pn g ≤ 10) {k : Nat} (h : k < bc (aS g) 10) : 2 ≤ pn g := by
  refine Decidable.byContradiction fun z => ?_
  have e : aS g = 0 := by unfold aS; rw [show pn g - 1 = 0 by omega]; rfl
  rw [e, bc_0] at h; omega
noncomputable def xFs (g : Vc) (k : Nat) : Int32 := by
  classical exact if Ld (gG g) (aS g) 0 ∧ k < bc (aS g) 10 then nI (nx (gG g) (aS g) (pth (gG g) (aS g) k)) else -9
theorem rstep_ok {m : Mm} {g : Vc} {k : Nat} {K : Int32 → Mm → Prop} (hr : rngD g) (hs : stR m g) (hk : k < bc (aS g) 10) (hl : lI g (aS g) 0 m) (kk : ∀ m2, frLd m m2 → K (xFs g k) m2) : wp_X12_foldStep_l180 K (nI k) (nI (aS g)) FU 0 (-9) 0 m := by
  have hp1 := hr.par.1
  have hA := aS_lt hp1
  have hb := bc_le (aS g) 10
  have hp2 := bc_pos hp1 hk
  have hmy : v_X12_many m - (1 : Int32) = nI (pn g - 1) := by rw [many_ok hs hr.par.2.1, show (1 : Int32) = nI 1 from rfl, nI_sub (by omega)]
  have hB0 : ∀ s, rB g (aS g) s (pn g - 1) (-9) := fun s => Or.inl ⟨rfl, fun q hq h => by have := aS_b h.1; omega⟩
  by_cases h0 : Ld (gG g) (aS g) 0
  · refine loop_a (wp := fun n i q => wp_X12_foldStep_l180 K (nI k) (nI (aS g)) n q.1 q.2.1 i q.2.2) (I := fun i q => q.1 = nI (pth (gG g) (aS g) i) ∧ frLd m q.2.2 ∧ lI g (aS g) 0 q.2.2 ∧ (i = k + 1 → q.2.1 = xFs g k)) (a := 0) (N := k + 1) (by omega) (by omega) (fun n i q h1 h2 hI => ?_) (fun n i q h1 h2 hI k1 => ?_) (s0 := (0, -9, m)) ⟨rfl, fun _ _ => rfl, hl, fun h => by omega⟩
    · show wb_X12_foldStep_l180 _ _ _ _ _ _ _ _
      unfold wb_X12_foldStep_l180
      rw [if_pos (ilt (by omega) (by omega)), hI.2.2.2 (by omega)]
      exact kk _ hI.2.1
    · obtain ⟨x3, x4, m'⟩ := q
      obtain ⟨a1, a2, a3, a4⟩ := hI
      have a1' : x3 = nI (pth (gG g) (aS g) i) := a1
      subst a1'
      have a2' : frLd m m' := a2
      have a3' : lI g (aS g) 0 m' := a3
      obtain ⟨b1, b2, b3⟩ := pth_ok hA h0 i (by omega)
      have hx := b3 (by omega)
      show wb_X12_foldStep_l180 _ _ _ _ _ _ _ _
      unfold wb_X12_foldStep_l180
      rw [if_neg (inlt (by omega) (by omega))]
      rintro y39 rfl
      rw [show v_X12_many m' - (1 : Int32) = nI (pn g - 1) by rw [many_ok (stR_Ld hs a2') hr.par.2.1, show (1 : Int32) = nI 1 from rfl, nI_sub (by omega)]]
      refine rone hr hs rfl (Ld_sb b1) (fun x4 m2 f2 l2 hB => ?_) (pn g - 1) FU (-9) m' (by omega) (FU_gt (by omega)) a2' a3' (hB0 _)
      have hx10 := tb_lt hA hx.1.1
      have e : x4 = nI (nx (gG g) (aS g) (pth (gG g) (aS g) i)) := by
        rcases hB with ⟨c1, c2⟩ | ⟨q, c1, c2, c3, c4⟩
        · exact absurd hx.1 (c2 _ (aS_b hx.1.1).1)
        · have hq : isNx (gG g) (aS g) (pth (gG g) (aS g) i) q := ⟨c3, fun q' hq' h => c4 q' (aS_b h.1).1 hq' h⟩
          rw [c2, nx_u hq]
      subst e
      show if _ then _ else _
      rw [if_neg (show ¬ nI (nx (gG g) (aS g) (pth (gG g) (aS g) i)) = (-9 : Int32) from fun w => by have := congrArg Int32.toInt w; rw [nI_toInt (by omega)] at this; have a9 : (-9 : Int32).toInt = -9 := rfl; omega)]
      rintro y64 rfl
      rw [push_k hx10]
      refine k1 (_, _, _) ⟨rfl, f2, l2, fun h => ?_⟩
      have : i = k := by omega
      subst this
      unfold xFs
      rw [if_pos ⟨h0, hk⟩]
      rfl
  · have e99 : FU = 99999 + 1 := rfl
    rw [e99]
    show wb_X12_foldStep_l180 _ _ _ _ _ _ _ _
    unfold wb_X12_foldStep_l180
    rw [if_neg (show ¬ nI k < (0 : Int32) from inlt (i := 0) (by omega) (by omega))]
    rintro y39 rfl
    rw [hmy]
    refine rone (s := 0) hr hs rfl (sb_0 _) (fun x4 m2 f2 l2 hB => ?_) (pn g - 1) FU (-9) m (by omega) (FU_gt (by omega)) (fun _ _ => rfl) hl (hB0 _)
    have e : x4 = -9 := by
      rcases hB with ⟨c1, c2⟩ | ⟨q, c1, c2, c3, c4⟩
      · exact c1
      · exact absurd (Ld_iff.mpr (Or.inr ⟨q, c3⟩)) h0
    subst e
    show if _ then _ else _
    rw [if_pos rfl]
    have := kk m2 f2
    unfold xFs at this
    rw [if_neg (fun w => h0 w.1)] at this
    exact this
theorem ClsR_O {m m2 : Mm} {S : AS} (hI : Inv S) (h : ClsR m S) (f : frOr m m2) : ClsR m2 S := ClsR_congr hI h (fun b hb => f b (by unfold ccell at hb; omega) (by unfold ccell at hb; omega) (by unfold ccell at hb; omega) (by unfold ccell at hb; omega))
theorem op_foldStep {m : Mm} {S : AS} {x : Int32} {P : Int32 → Int32 → Mm → Prop} (h : Sim m S) (kk : ∀ r m2 S2, Sim m2 S2 → P r r m2) : wp_X11_foldStep x m (fun r m1 => wp_X12_foldStep x m1 (fun r2 m2 => P r r2 m2)) := by
  have hI := h.2.2
  have hC := h.2.1
  have hD := hI.1
  have hr := hD.r
  have hp1 := hD.ple
  have hA := aS_lt hp1
  have hb := bc_le (aS (sg S)) 10
  by_cases c0 : (0 : Int32) ≤ x
  · have c0' : 0 ≤ x.toInt := by rw [fa_le] at c0; exact c0
    obtain ⟨k, ek, ek2, -⟩ := asN c0'
    have hk : k < 2 ^ 31 := by have := fb_rng x; omega
    refine combine (c := wp_X11_foldStep x m) (d := wp_X12_foldStep x) (r := xFs (sg S) k) (S2 := S) h (fun K k1 => ?_) (fun m1 K hR k1 => ?_) hI kk
    · unfold wp_X11_foldStep
      rw [if_pos c0, lim0_c hC]
      refine order_ok hr hC.1 (fun r m2 f hE => ?_)
      rintro y5 rfl
      have hC2 := ClsR_O hI hC f
      have hlow : ∀ b, 426 ≤ b → m2.1 b = m.1 b := fun b hb => f b (by omega) (by omega) (by omega) (by omega)
      have e : (if r ≤ x then (-9 : Int32) else v_X5_orderAt x m2) = xFs (sg S) k := by
        unfold xFs
        rw [ek]
        rcases hE with ⟨h1, h2⟩ | ⟨h1, h2, h3⟩
        · rw [h2, if_pos (show (0 : Int32) ≤ nI k from ile (a := 0) (by omega) hk), if_neg (fun w => h1 w.1)]
        · rw [h2]
          by_cases z : k < bc (aS (sg S)) 10
          · rw [if_neg (inle z (by omega)), if_pos ⟨h1, z⟩]
            unfold v_X5_orderAt
            rw [if_neg (show ¬ nI k < (0 : Int32) from inlt (i := 0) (by omega) (by omega)), if_neg (show ¬ (10 : Int32) ≤ nI k from inle (a := 10) (by omega) (by omega)), clamp_nI hk]
            exact h3 k z
          · rw [if_pos (ile (by omega) hk), if_neg (fun w => z w.2)]
      rw [e]
      exact k1 _ hC2 hlow
    · have hs := hR.st
      unfold wp_X12_foldStep
      rw [if_pos c0]
      refine loop_a (wp := fun n i q => wp_X12_foldStep_l10 _ K x n q i m1) (I := fun i q => q = nI (ifo (fun i s => s ||| (if pf (sg S) i 5 = 0 then 0 else 2 ^ i)) 0 1 (i - 1)) ∧ (pn (sg S) ≤ i → q = nI (aS (sg S)))) (a := 1) (N := pn (sg S)) (by omega) (by omega) (fun n i q h1 h2 hI => ?_) (fun n i q h1 h2 hI k2 => ?_) ⟨rfl, fun h => by unfold aS; rw [show pn (sg S) - 1 = 0 by omega]; rfl⟩
      · show wb_X12_foldStep_l10 _ _ _ _ _ _ _
        unfold wb_X12_foldStep_l10
        rw [many_ok hs hD.g2, if_pos (ile h1 (by omega)), hI.2 h1]
        refine bits_ok hA ?_
        show if _ then _ else _
        rw [ek]
        by_cases z : k < bc (aS (sg S)) 10
        · rw [if_pos (ilt z (by omega))]
          have hend : ∀ m2, frLd m1 m2 → lI (sg S) (aS (sg S)) 0 m2 → wp_X12_foldStep_l180 K (nI k) (nI (aS (sg S))) FU 0 (-9) 0 m2 := fun m2 f2 l2 => rstep_ok hr (stR_Ld hs f2) z l2 (fun m3 f3 => k1 _ (RefR_Ld (RefR_Ld hR f2) f3) (fun b hb => by rw [f3 b (by omega), f2 b (by omega)]))
          refine lall2 hr hs rfl hend _ (FU_gt (by omega))
        · rw [if_neg (inlt (by omega) hk)]
          have := k1 m1 hR (fun _ _ => rfl)
          unfold xFs at this
          rw [if_neg (fun w => z w.2)] at this
          exact this
      · show wb_X12_foldStep_l10 _ _ _ _ _ _ _
        unfold wb_X12_foldStep_l10
        rw [many_ok hs hD.g2, if_neg (inle h2 (by omega)), of5 hs (by omega), hI.1]
        refine ⟨sof5 (by omega), ?_⟩
        rintro y3 rfl y4 rfl
        have e : nI (ifo (fun i s => s ||| (if pf (sg S) i 5 = 0 then 0 else 2 ^ i)) 0 1 (i - 1)) ||| (if pf (sg S) i 5 = 0 then (0 : Int32) else (1 : Int32) <<< (nI i &&& 31)) = nI (ifo (fun i s => s ||| (if pf (sg S) i 5 = 0 then 0 else 2 ^ i)) 0 1 (i + 1 - 1)) := by
          rw [show i + 1 - 1 = (i - 1) + 1 by omega]
          show _ = nI (ifo (fun i s => s ||| (if pf (sg S) i 5 = 0 then 0 else 2 ^ i)) 0 1 (i - 1) ||| (if pf (sg S) (1 + (i - 1)) 5 = 0 then 0 else 2 ^ (1 + (i - 1))))
          rw [show 1 + (i - 1) = i by omega, ← fa_or]
          by_cases z : pf (sg S) i 5 = 0
          · rw [if_pos z, if_pos z]; rfl
          · rw [if_neg z, if_neg z, shl_k (by omega)]
        rw [e]
        exact k2 _ ⟨rfl, fun h => by unfold aS; rw [show i + 1 - 1 = pn (sg S) - 1 by omega]⟩
  · refine combine (c := wp_X11_foldStep x m) (d := wp_X12_foldStep x) (r := -1) (S2 := S) h (fun K k1 => ?_) (fun m1 K hR k1 => ?_) hI kk
    · unfold wp_X11_foldStep
      rw [if_neg c0]; exact k1 _ hC (fun _ _ => rfl)
    · unfold wp_X12_foldStep
      rw [if_neg c0]; exact k1 _ hR (fun _ _ => rfl)
