/-! foldStep: the class's order of folds -/
def cn (f : Nat → Int32) : Nat → Nat
  | 0 => 0
  | n + 1 => cn f n + (if f n = 0 then 0 else 1)
theorem cn_le (f : Nat → Int32) (n : Nat) : cn f n ≤ n := by
  induction n with
  | zero => exact Nat.le_refl _
  | succ n ih => show cn f n + (if f n = 0 then 0 else 1) ≤ n + 1; split <;> omega
theorem cn_mono {f f2 : Nat → Int32} (h : ∀ t, f t ≠ 0 → f2 t ≠ 0) (n : Nat) : cn f n ≤ cn f2 n := by
  induction n with
  | zero => exact Nat.le_refl _
  | succ n ih =>
    show cn f n + (if f n = 0 then 0 else 1) ≤ cn f2 n + (if f2 n = 0 then 0 else 1)
    by_cases z : f n = 0
    · rw [if_pos z]; omega
    · rw [if_neg z, if_neg (h n z)]; omega
theorem cn_lt {f f2 : Nat → Int32} (h : ∀ t, f t ≠ 0 → f2 t ≠ 0) {s : Nat} (h1 : f s = 0) (h2 : f2 s ≠ 0) (n : Nat) (hs : s < n) : cn f n + 1 ≤ cn f2 n := by
  induction n with
  | zero => omega
  | succ n ih =>
    show cn f n + (if f n = 0 then 0 else 1) + 1 ≤ cn f2 n + (if f2 n = 0 then 0 else 1)
    by_cases w : s = n
    · subst w
      rw [if_pos h1, if_neg h2]
      have := cn_mono h s; omega
    · have := ih (by omega)
      by_cases z : f n = 0
      · rw [if_pos z]; omega
      · rw [if_neg z, if_neg (h n z)]; omega
def Mk (o : Nat → Nat) : Nat → Nat
  | 0 => 0
  | i + 1 => Mk o i ||| 2 ^ o i
theorem Mk_congr {o o2 : Nat → Nat} (n : Nat) (h : ∀ i, i < n → o2 i = o i) : Mk o2 n = Mk o n := by
  induction n with
  | zero => rfl
  | succ n ih => show Mk o2 n ||| 2 ^ o2 n = Mk o n ||| 2 ^ o n; rw [ih (fun i hi => h i (by omega)), h n (by omega)]
def frOr (m m2 : Mm) : Prop := ∀ b, b ≠ 269 → b ≠ 281 → b ≠ 282 → b < 283 ∨ 383 ≤ b → m2.1 b = m.1 b
def stk (g : Vc) (A : Nat) (o : Nat → Nat) (st : Nat) (m : Mm) : Prop := ∀ i, i < st → m.1 281 i = nI (o i) ∧ A.testBit (o i) = true ∧ (Mk o i).testBit (o i) = false ∧ gG g (Mk o (i + 1)) ∧ m.1 282 (Mk o (i + 1)) = 0 ∧ ∀ q, q < o i → ¬ okN (gG g) A (Mk o i) q
theorem sb_0 (A : Nat) : sb 0 A := fun q hq => by rw [Nat.zero_testBit] at hq; cases hq
theorem stk_sb {g : Vc} {A : Nat} {o : Nat → Nat} {st : Nat} {m : Mm} (h : stk g A o st m) : ∀ i, i ≤ st → sb (Mk o i) A := by
  intro i
  induction i with
  | zero => exact fun _ => sb_0 A
  | succ i ih => exact fun hi => or_sb (ih (by omega)) (h i (by omega)).2.1
theorem Mk_sb (o : Nat → Nat) (i d : Nat) : sb (Mk o i) (Mk o (i + d)) := by
  induction d with
  | zero => exact fun q hq => hq
  | succ d ih => exact sb_trans ih (sb_or _ _)
theorem stk_bc {g : Vc} {A : Nat} {o : Nat → Nat} {st : Nat} {m : Mm} (hA : A < 1024) (h : stk g A o st m) : ∀ i, i ≤ st → bc (Mk o i) 10 = i := by
  intro i
  induction i with
  | zero => exact fun _ => bc_0 10
  | succ i ih =>
    intro hi
    have hh := h i (by omega)
    show bc (Mk o i ||| 2 ^ o i) 10 = i + 1
    rw [bc_or hh.2.2.1, ih (by omega), if_pos (tb_lt hA hh.2.1)]
theorem stk_end {g : Vc} {A : Nat} {o : Nat → Nat} {st : Nat} {m : Mm} (h : stk g A o st m) (hx : Mk o st = A) : ∀ d, d ≤ st → Ld (gG g) A (Mk o (st - d)) := by
  intro d
  induction d with
  | zero => exact fun _ => Ld_iff.mpr (Or.inl hx)
  | succ d ih =>
    intro hd
    have h1 := ih (by omega)
    have hh := h (st - (d + 1)) (by omega)
    rw [show st - d = st - (d + 1) + 1 by omega] at h1
    exact Ld_iff.mpr (Or.inr ⟨o (st - (d + 1)), hh.2.1, hh.2.2.1, hh.2.2.2.1, h1⟩)
theorem stk_nx {g : Vc} {A : Nat} {o : Nat → Nat} {st : Nat} {m : Mm} (h : stk g A o st m) (hx : Mk o st = A) : ∀ i, i < st → o i = nx (gG g) A (Mk o i) := by
  intro i hi
  have hh := h i hi
  have hL := stk_end h hx (st - (i + 1)) (by omega)
  rw [show st - (st - (i + 1)) = i + 1 by omega] at hL
  exact (nx_u ⟨⟨hh.2.1, hh.2.2.1, hh.2.2.2.1, hL⟩, hh.2.2.2.2.2⟩).symm
theorem stk_pth {g : Vc} {A : Nat} {o : Nat → Nat} {st : Nat} {m : Mm} (h : stk g A o st m) (hx : Mk o st = A) : ∀ i, i ≤ st → Mk o i = pth (gG g) A i := by
  intro i
  induction i with
  | zero => exact fun _ => rfl
  | succ i ih =>
    intro hi
    show Mk o i ||| 2 ^ o i = pth (gG g) A i ||| 2 ^ nx (gG g) A (pth (gG g) A i)
    rw [stk_nx h hx i (by omega), ih (by omega)]
/-- all panels with a fold -/
def aS (g : Vc) : Nat := ifo (fun i s => s ||| (if pf g i 5 = 0 then 0 else 2 ^ i)) 0 1 (pn g - 1)
theorem aS_b1 {g : Vc} {q : Nat} : ∀ n, (ifo (fun i s => s ||| (if pf g i 5 = 0 then 0 else 2 ^ i)) 0 1 n).testBit q = true → 1 ≤ q ∧ q < 1 + n := by
  intro n
  induction n with
  | zero => intro h; have h' : (0 : Nat).testBit q = true := h; rw [Nat.zero_testBit] at h'; cases h'
  | succ n ih =>
    intro h
    have h' : (ifo (fun i s => s ||| (if pf g i 5 = 0 then 0 else 2 ^ i)) 0 1 n ||| (if pf g (1 + n) 5 = 0 then 0 else 2 ^ (1 + n))).testBit q = true := h
    by_cases z : pf g (1 + n) 5 = 0
    · rw [if_pos z, Nat.or_zero] at h'
      have := ih h'; omega
    · rw [if_neg z, tb_or] at h'
      by_cases w : 1 + n = q
      · omega
      · rw [decide_eq_false w, Bool.or_false] at h'
        have := ih h'; omega
theorem aS_b {g : Vc} {q : Nat} (h : (aS g).testBit q = true) : 1 ≤ q ∧ q < pn g := by
  have := aS_b1 _ h; omega
theorem aS_lt {g : Vc} (hp : pn g ≤ 10) : aS g < 1024 := lt_of_tb (fun q hq => by have := aS_b hq; omega)
def ordE (g : Vc) (r : Int32) (m2 : Mm) : Prop := (¬ Ld (gG g) (aS g) 0 ∧ r = 0) ∨ (Ld (gG g) (aS g) 0 ∧ r = nI (bc (aS g) 10) ∧ ∀ i, i < bc (aS g) 10 → m2.1 281 i = nI (nx (gG g) (aS g) (pth (gG g) (aS g) i)))
def fI (g : Vc) (m : Mm) (rd : Nat) (s : Int32 × Int32 × Mm) : Prop := ∃ o st, s.1 = nI (Mk o st) ∧ s.2.1 = nI st ∧ frOr m s.2.2 ∧ dInv g (aS g) s.2.2 ∧ stk g (aS g) o st s.2.2 ∧ rd ≤ 2 * cn (s.2.2.1 282) 1024 + st
theorem fround {m : Mm} {g : Vc} {K k2 : Int32 → Mm → Prop} {n rd : Nat} {s : Int32 × Int32 × Mm} (hr : rngD g) (hd : desR m.1 1 g) (hI : fI g m rd s) (hrd : rd < 4096) (k0 : ∀ m2, frOr m m2 → ¬ Ld (gG g) (aS g) 0 → K 0 m2) (ke : ∀ x4 x5 m2, frOr m m2 → x4 = nI (aS g) → ordE g x5 m2 → k2 x5 m2)
    (kn : ∀ s2, fI g m (rd + 1) s2 → wp_X5_findOrder_l85 (fun y28 y29 m30 => ∀ y32 : Int32, y32 = (if y28 = nI (aS g) then y29 else (0 : Int32)) → k2 y32 m30) K 1 (g 125) (nI (aS g)) n s2.1 s2.2.1 (nI rd + 1) s2.2.2) : wb_X5_findOrder_l85 (wp_X5_findOrder_l85 (fun y28 y29 m30 => ∀ y32 : Int32, y32 = (if y28 = nI (aS g) then y29 else (0 : Int32)) → k2 y32 m30) K 1 (g 125) (nI (aS g)) n) (fun y28 y29 m30 => ∀ y32 : Int32, y32 = (if y28 = nI (aS g) then y29 else (0 : Int32)) → k2 y32 m30) K 1 (g 125) (nI (aS g)) s.1 s.2.1 (nI rd) s.2.2 := by
  obtain ⟨x4, x5, m'⟩ := s
  obtain ⟨o, st, e1, e2, hf, hD, hS, hc⟩ := hI
  have hp1 := hr.par.1
  have hA := aS_lt hp1
  have e1' : x4 = nI (Mk o st) := e1
  have e2' : x5 = nI st := e2
  subst e1' e2'
  have hsb := stk_sb hS
  have hbc := stk_bc hA hS
  have hM : ∀ i, i ≤ st → Mk o i < 1024 := fun i hi => by have := sb_le (hsb i hi); omega
  have hst : st ≤ 10 := by have := hbc st (Nat.le_refl _); have := bc_le (Mk o st) 10; omega
  have hMs := hM st (Nat.le_refl _)
  have hf' : frOr m m' := hf
  have hD' : dInv g (aS g) m' := hD
  have hS' : stk g (aS g) o st m' := hS
  have hc' : rd ≤ 2 * cn (m'.1 282) 1024 + st := hc
  unfold wb_X5_findOrder_l85
  show if _ then _ else _
  rw [show (4 : Int32) * 1024 = nI 4096 from rfl, if_neg (inle hrd (by omega))]
  by_cases z : Mk o st = aS g
  · rw [if_pos (by rw [z])]
    rintro y32 rfl
    rw [if_pos (by rw [z])]
    refine ke (nI (aS g)) _ _ hf' rfl (Or.inr ⟨?_, ?_, fun i hi => ?_⟩)
    · have := stk_end hS' z st (Nat.le_refl _)
      rw [Nat.sub_self] at this; exact this
    · rw [← z, hbc st (Nat.le_refl _)]
    · have hi' : i < st := by rw [← z, hbc st (Nat.le_refl _)] at hi; exact hi
      rw [(hS' i hi').1, stk_nx hS' z i hi', stk_pth hS' z i (by omega)]
  rw [if_neg (fun w => z ((nI_eq (by omega) (by omega)).mp w))]
  have hd' : desR m'.1 1 g := desR_congr hp1 hd (fun b b1 b2 => hf' b (by omega) (by omega) (by omega) (by omega))
  refine next_ok hr hd' hA (fun q hq => (aS_b hq).1) (hsb st (Nat.le_refl _)) hD' (fun r m2 n1 n2 n3 n4 => ?_)
  show if _ then _ else _
  have hf2 : frOr m m2 := fun b b1 b2 b3 b4 => by rw [n1.1 b b1 b3 b4]; exact hf' b b1 b2 b3 b4
  have e281 : m2.1 281 = m'.1 281 := n1.1 281 (by omega) (by omega) (by omega)
  have hsub : ∀ i, i ≤ st → sb (Mk o i) (Mk o st) := fun i hi => by have := Mk_sb o i (st - i); rw [show i + (st - i) = st by omega] at this; exact this
  have hS2 : stk g (aS g) o st m2 := fun i hi => by
    obtain ⟨a1, a2, a3, a4, a5, a6⟩ := hS' i hi
    exact ⟨by rw [e281]; exact a1, a2, a3, a4, by rw [n2 _ (hsub (i + 1) (by omega))]; exact a5, a6⟩
  have hcm := cn_mono n1.2 1024
  rcases n4 with ⟨rfl, hno⟩ | ⟨p, rfl, hp, p1, p2, p3, p4, p5⟩
  · rw [if_pos rfl]
    have hnl : ¬ Ld (gG g) (aS g) (Mk o st) := fun h => by
      rcases Ld_iff.mp h with w | ⟨q, w⟩
      · exact z w
      · exact hno q w
    unfold wp_X5_findOrder_j160
    by_cases c0 : st = 0
    · subst c0
      rw [if_pos (show nI 0 ≤ (0 : Int32) from by decide)]
      exact k0 _ hf2 hnl
    · obtain ⟨t, rfl⟩ : ∃ t, st = t + 1 := ⟨st - 1, by omega⟩
      obtain ⟨a1, a2, a3, a4, a5, a6⟩ := hS2 t (by omega)
      have et : nI (t + 1) + (-1 : Int32) = nI t := by
        rw [show (-1 : Int32) = -(nI 1) from rfl, ← Int32.sub_eq_add_neg, nI_sub (by omega)]; rfl
      rw [if_neg (show ¬ nI (t + 1) ≤ (0 : Int32) from inle (i := 0) (by omega) (by omega)), if_neg (show ¬ (1024 : Int32) ≤ nI (Mk o (t + 1)) from inle (a := 1024) hMs (by omega)), clamp_nI (by omega), et, clamp_nI (by omega)]
      refine ⟨vp_in_nI hMs (by omega), ?_⟩
      rintro m21 rfl
      refine ⟨vp_in_nI (by omega) (by omega), ?_⟩
      rintro y23 rfl
      rw [wI_ne _ _ _ _ (show (281 : Nat) ≠ 282 by omega), a1, show Mk o (t + 1) = Mk o t ||| 2 ^ o t from rfl, pop_k (hM t (by omega)) (tb_lt hA a2) a3]
      refine kn (_, _, _) ⟨o, t, rfl, rfl, fun b b1 b2 b3 b4 => ?_, fun u x1 x2 => ?_, fun i hi => ?_, ?_⟩
      · rw [← hf2 b b1 b2 b3 b4]; exact funext fun j => wI_ne _ _ _ _ b3 j
      · by_cases w : u = Mk o t ||| 2 ^ o t
        · rw [w]; exact fun h => hnl h.2
        · have x2' : (wI m2 282 (Mk o t ||| 2 ^ o t) 1).1 282 u ≠ 0 := x2
          rw [wI_nj _ _ _ _ w] at x2'; exact n3 u x1 x2'
      · obtain ⟨b1, b2, b3, b4, b5, b6⟩ := hS2 i (by omega)
        refine ⟨?_, b2, b3, b4, ?_, b6⟩
        · show (wI m2 282 (Mk o t ||| 2 ^ o t) 1).1 281 i = _
          rw [wI_ne _ _ _ _ (show (281 : Nat) ≠ 282 by omega)]; exact b1
        · show (wI m2 282 (Mk o t ||| 2 ^ o t) 1).1 282 _ = _
          have hne : Mk o (i + 1) ≠ Mk o t ||| 2 ^ o t := not_sb_or a3 (by have := Mk_sb o (i + 1) (t - (i + 1)); rw [show i + 1 + (t - (i + 1)) = t by omega] at this; exact this)
          rw [wI_nj _ _ _ _ hne]; exact b5
      · show rd + 1 ≤ 2 * cn ((wI m2 282 (Mk o t ||| 2 ^ o t) 1).1 282) 1024 + t
        have hlt := cn_lt (f := m2.1 282) (f2 := (wI m2 282 (Mk o t ||| 2 ^ o t) 1).1 282) (fun u hu => by
          by_cases w : u = Mk o t ||| 2 ^ o t
          · rw [w, wI_same]; decide
          · rw [wI_nj _ _ _ _ w]; exact hu) (s := Mk o t ||| 2 ^ o t) a5 (by rw [wI_same]; decide) 1024 hMs
        omega
  · have hlt : st < 10 := by
      have h1 := bc_or p2 10
      rw [hbc st (Nat.le_refl _), if_pos hp] at h1
      have := bc_le (Mk o st ||| 2 ^ p) 10
      omega
    rw [if_neg (show ¬ nI p = (-9 : Int32) from fun w => by have := congrArg Int32.toInt w; rw [nI_toInt (by omega)] at this; have a9 : (-9 : Int32).toInt = -9 := rfl; omega), if_neg (show ¬ (10 : Int32) ≤ nI st from inle (a := 10) hlt (by omega)), clamp_nI (by omega)]
    refine ⟨vp_in_nI hlt (by omega), ?_⟩
    rintro m26 rfl y27 rfl
    rw [push_k hp, nI_1]
    have hoe : ∀ i, i < st → (fun i => if i = st then p else o i) i = o i := fun i hi => if_neg (by omega)
    have hos : (fun i => if i = st then p else o i) st = p := if_pos rfl
    have hMe : ∀ i, i ≤ st → Mk (fun i => if i = st then p else o i) i = Mk o i := fun i hi => Mk_congr i (fun j hj => hoe j (by omega))
    have hMp : Mk (fun i => if i = st then p else o i) (st + 1) = Mk o st ||| 2 ^ p := by
      show Mk (fun i => if i = st then p else o i) st ||| 2 ^ (fun i => if i = st then p else o i) st = _
      rw [hMe st (Nat.le_refl _), hos]
    have e282 : (wI m2 281 st (nI p)).1 282 = m2.1 282 := funext fun j => wI_ne _ _ _ _ (by omega) j
    have hsub2 : ∀ i, i ≤ st → sb (Mk o i) (Mk o st ||| 2 ^ p) := fun i hi => sb_trans (hsub i hi) (sb_or _ _)
    refine kn (_, _, _) ⟨fun i => if i = st then p else o i, st + 1, congrArg nI hMp.symm, rfl, fun b b1 b2 b3 b4 => ?_, fun u x1 x2 => n3 u x1 (by rw [← e282]; exact x2), fun i hi => ?_, ?_⟩
    · rw [← hf2 b b1 b2 b3 b4]; exact funext fun j => wI_ne _ _ _ _ b2 j
    · show (wI m2 281 st (nI p)).1 281 i = _ ∧ _ ∧ _ ∧ _ ∧ (wI m2 281 st (nI p)).1 282 _ = _ ∧ _
      rw [e282]
      by_cases w : i = st
      · subst w
        rw [hMp, hMe i (Nat.le_refl _), hos, wI_same]
        exact ⟨rfl, p1, p2, p3, p5, p4⟩
      · obtain ⟨b1, b2, b3, b4, b5, b6⟩ := hS2 i (by omega)
        rw [hMe i (by omega), hMe (i + 1) (by omega), hoe i (by omega), wI_nj _ _ _ _ w]
        exact ⟨b1, b2, b3, b4, b5, b6⟩
    · show rd + 1 ≤ 2 * cn ((wI m2 281 st (nI p)).1 282) 1024 + (st + 1)
      rw [e282]; omega
theorem order_ok {m : Mm} {g : Vc} {K : Int32 → Mm → Prop} (hr : rngD g) (hd : desR m.1 1 g) (kk : ∀ r m2, frOr m m2 → ordE g r m2 → K r m2) : wp_X5_findOrder 1 (g 125) m K := by
  have hp1 := hr.par.1
  have hA := aS_lt hp1
  have h4 : m.1 1 4 = nI (pn g) := by rw [hd.2.2.1]; exact hr.par.2.1
  unfold wp_X5_findOrder
  refine loop_a (wp := fun n i q => wp_X5_findOrder_l5 _ K 1 (g 125) n q i m) (I := fun i q => q = nI (ifo (fun i s => s ||| (if pf g i 5 = 0 then 0 else 2 ^ i)) 0 1 (i - 1)) ∧ (pn g ≤ i → q = nI (aS g))) (a := 1) (N := pn g) (by omega) (by omega) (fun n i q h1 h2 hI => ?_) (fun n i q h1 h2 hI k1 => ?_) ⟨rfl, fun h => by unfold aS; rw [show pn g - 1 = 0 by omega]; rfl⟩
  · show wb_X5_findOrder_l5 _ _ _ _ _ _ _ _
    unfold wb_X5_findOrder_l5
    rw [h4, if_pos (ile h1 (by omega)), hI.2 h1]
    refine loop_a (wp := fun n i q => wp_X5_findOrder_l46 _ K 1 (g 125) (nI (aS g)) n i q) (I := fun i m' => frOr m m' ∧ ∀ t, t < i → m'.1 282 t = 0) (a := 0) (N := aS g + 1) (by omega) (by omega) (fun n i m' h1 h2 hI => ?_) (fun n i m' h1 h2 hI k1 => ?_) ⟨fun _ _ _ _ _ => rfl, fun t ht => by omega⟩
    · show wb_X5_findOrder_l46 _ _ _ _ _ _ _ _
      unfold wb_X5_findOrder_l46
      rw [if_pos (ilt (by omega) (by omega))]
      refine loop_a (wp := fun n i q => wp_X5_findOrder_l85 _ K 1 (g 125) (nI (aS g)) n q.1 q.2.1 i q.2.2) (I := fI g m) (a := 0) (N := 4096) (by omega) (by omega) (fun n i s a1 a2 hs => ?_) (fun n i s a1 a2 hs k2 => ?_) (s0 := (0, 0, m')) ⟨fun _ => 0, 0, rfl, rfl, hI.1, fun t x1 x2 => absurd (hI.2 t (by have := sb_le x1; omega)) x2, fun i hi => by omega, Nat.zero_le _⟩
      · obtain ⟨o, st, e1, e2, hf, hD, hS, hc⟩ := hs
        have c1 := cn_le (s.2.2.1 282) 1024
        have hbc := stk_bc hA hS st (Nat.le_refl _)
        have := bc_le (Mk o st) 10
        omega
      · refine fround (k2 := K) hr hd hs a2 (fun m2 f h => kk _ _ f (Or.inl ⟨h, rfl⟩)) (fun x4 x5 m2 f _ h => kk _ _ f h) k2
    · show wb_X5_findOrder_l46 _ _ _ _ _ _ _ _
      unfold wb_X5_findOrder_l46
      rw [if_neg (inlt (by omega) (by omega)), if_neg (show ¬ (1024 : Int32) ≤ nI i from inle (a := 1024) (by omega) (by omega)), clamp_nI (by omega)]
      refine ⟨vp_in_nI (by omega) (by omega), ?_⟩
      rintro m11 rfl
      refine k1 _ ⟨fun b b1 b2 b3 b4 => ?_, fun t ht => ?_⟩
      · rw [← hI.1 b b1 b2 b3 b4]; exact funext fun j => wI_ne _ _ _ _ b3 j
      · by_cases w : t = i
        · rw [w, wI_same]
        · rw [wI_nj _ _ _ _ w]; exact hI.2 t (by omega)
  · show wb_X5_findOrder_l5 _ _ _ _ _ _ _ _
    unfold wb_X5_findOrder_l5
    have h5 : m.1 (6 + i) 5 = pf g i 5 := (hd.2.2.2.2 i h2).1 5 (by omega) (by omega)
    rw [h4, if_neg (inle h2 (by omega)), panelAt_1 (by omega), h5, hI.1]
    rintro y3 rfl y4 rfl
    have e : nI (ifo (fun i s => s ||| (if pf g i 5 = 0 then 0 else 2 ^ i)) 0 1 (i - 1)) ||| (if pf g i 5 = 0 then (0 : Int32) else (1 : Int32) <<< (nI i &&& 31)) = nI (ifo (fun i s => s ||| (if pf g i 5 = 0 then 0 else 2 ^ i)) 0 1 (i + 1 - 1)) := by
      rw [show i + 1 - 1 = (i - 1) + 1 by omega]
      show _ = nI (ifo (fun i s => s ||| (if pf g i 5 = 0 then 0 else 2 ^ i)) 0 1 (i - 1) ||| (if pf g (1 + (i - 1)) 5 = 0 then 0 else 2 ^ (1 + (i - 1))))
      rw [show 1 + (i - 1) = i by omega, ← fa_or]
      by_cases z : pf g i 5 = 0
      · rw [if_pos z, if_pos z]; rfl
      · rw [if_neg z, if_neg z, shl_k (by omega)]
    rw [e]
    exact k1 _ ⟨rfl, fun h => by unfold aS; rw [show i + 1 - 1 = pn g - 1 by omega]⟩
