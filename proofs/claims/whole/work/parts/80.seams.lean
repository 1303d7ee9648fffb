/-! seams: the list of them, and the class's search -/
theorem rel_loop {σ α : Type} {wp : Nat → Int32 → σ → Prop} {R : Nat → σ → α → Prop} (step : Nat → α → α) {s0 : σ} {l0 : α} {a N : Nat} (ha : a < 90000) (hN : N < 90000)
    (hx : ∀ n i s, N ≤ i → i ≤ N ∨ i = a → R i s (ifo step l0 a (N - a)) → wp (n + 1) (nI i) s)
    (hs : ∀ n i s l, a ≤ i → i < N → R i s l → (∀ s2, R (i + 1) s2 (step i l) → wp n (nI i + 1) s2) → wp (n + 1) (nI i) s) (h0 : R a s0 l0) : wp FU (nI a) s0 := by
  refine loop_a (I := fun i s => R i s (ifo step l0 a (i - a))) ha hN (fun n i s h1 h2 h3 => hx n i s h1 h2 (by rw [show N - a = i - a by omega]; exact h3)) (fun n i s h1 h2 h3 k => hs n i s _ h1 h2 h3 (fun s2 h4 => k s2 ?_)) ?_
  · show R (i + 1) s2 (ifo step l0 a (i + 1 - a))
    rw [show i + 1 - a = (i - a) + 1 by omega]
    show R (i + 1) s2 (step (a + (i - a)) (ifo step l0 a (i - a)))
    rw [show a + (i - a) = i by omega]
    exact h4
  · show R a s0 (ifo step l0 a (a - a))
    rw [Nat.sub_self]; exact h0
theorem ifo_ind {σ : Type} {P : σ → Prop} (step : Nat → σ → σ) {s0 : σ} {a : Nat} (h0 : P s0) : ∀ n, (∀ i s, a ≤ i → i < a + n → P s → P (step i s)) → P (ifo step s0 a n) := by
  intro n
  induction n with
  | zero => exact fun _ => h0
  | succ n ih => exact fun h => h (a + n) _ (by omega) (by omega) (ih (fun i s h1 h2 => h i s h1 (by omega)))
theorem snoc_get {α : Type} {l : List α} {s s' : α} {j : Nat} (h : (l ++ [s])[j]? = some s') : (j < l.length ∧ l[j]? = some s') ∨ (j = l.length ∧ s' = s) := by
  rw [List.getElem?_append] at h
  by_cases c : j < l.length
  · rw [if_pos c] at h; exact Or.inl ⟨c, h⟩
  · rw [if_neg c] at h
    have e : j - l.length = 0 := by
      cases hh : j - l.length with
      | zero => rfl
      | succ n => rw [hh] at h; simp at h
    rw [e] at h
    simp at h
    exact Or.inr ⟨by omega, h.symm⟩
abbrev Qd : Type := Nat × Nat × Nat × Nat
def sL (g : Vc) (an : Nat → Int32) (s : Qd) : Int32 := mx32 (zL g an s.1 s.2.1) (zL g an s.2.2.1 s.2.2.2)
def sH (g : Vc) (an : Nat → Int32) (s : Qd) : Int32 := mn32 (zH g an s.1 s.2.1) (zH g an s.2.2.1 s.2.2.2)
def sG (g : Vc) (an : Nat → Int32) (s : Qd) : Int32 := mx32 (ab32 (ck g an s.1 (sb0 s.2.1) ((zA g an s.1 s.2.1 + 1) % 3) - ck g an s.2.2.1 (sb0 s.2.2.2) ((zA g an s.2.2.1 s.2.2.2 + 1) % 3)))
  (ab32 (ck g an s.1 (sb0 s.2.1) ((zA g an s.1 s.2.1 + 2) % 3) - ck g an s.2.2.1 (sb0 s.2.2.2) ((zA g an s.2.2.1 s.2.2.2 + 2) % 3)))
def sAdd (g : Vc) (an : Nat → Int32) (tol : Int32) (s : Qd) (l : List Qd) : List Qd := if zA g an s.1 s.2.1 = zA g an s.2.2.1 s.2.2.2 then (if tol < sG g an s then l else if sH g an s ≤ sL g an s then l else l ++ [s]) else l
def jL (g : Vc) (an : Nat → Int32) (tol : Int32) (p o q : Nat) (l : List Qd) : List Qd := ifo (fun t l => sAdd g an tol (p, o, q, t) l) l 0 4
def qL (g : Vc) (an : Nat → Int32) (tol : Int32) (p o : Nat) (l : List Qd) : List Qd := ifo (fun q l => jL g an tol p o q l) l (p + 1) (pn g - (p + 1))
def oL (g : Vc) (an : Nat → Int32) (tol : Int32) (p : Nat) (l : List Qd) : List Qd := ifo (fun o l => qL g an tol p o l) l 0 4
def seamL (g : Vc) (an : Nat → Int32) (tol : Int32) : List Qd := ifo (fun p l => oL g an tol p l) [] 0 (pn g)
/-- what a seam is -/
def sWf (g : Vc) (an : Nat → Int32) (tol : Int32) (s : Qd) : Prop := s.1 < s.2.2.1 ∧ s.2.2.1 < pn g ∧ s.2.1 < 4 ∧ s.2.2.2 < 4 ∧ zA g an s.1 s.2.1 = zA g an s.2.2.1 s.2.2.2 ∧ ¬ tol < sG g an s ∧ ¬ sH g an s ≤ sL g an s
theorem seam_wf {g : Vc} {an : Nat → Int32} {tol : Int32} : ∀ s ∈ seamL g an tol, sWf g an tol s := by
  unfold seamL
  refine ifo_ind (P := fun l => ∀ s ∈ l, sWf g an tol s) _ (by intro s hs; cases hs) _ (fun p l _ hp h => ?_)
  unfold oL
  refine ifo_ind (P := fun l => ∀ s ∈ l, sWf g an tol s) _ h _ (fun o l _ ho h => ?_)
  unfold qL
  refine ifo_ind (P := fun l => ∀ s ∈ l, sWf g an tol s) _ h _ (fun q l hq hq2 h => ?_)
  unfold jL
  refine ifo_ind (P := fun l => ∀ s ∈ l, sWf g an tol s) _ h _ (fun t l _ ht h => ?_)
  show ∀ s ∈ sAdd g an tol (p, o, q, t) l, sWf g an tol s
  unfold sAdd
  by_cases c1 : zA g an p o = zA g an q t
  · rw [if_pos c1]
    by_cases c2 : tol < sG g an (p, o, q, t)
    · rw [if_pos c2]; exact h
    rw [if_neg c2]
    by_cases c3 : sH g an (p, o, q, t) ≤ sL g an (p, o, q, t)
    · rw [if_pos c3]; exact h
    rw [if_neg c3]
    intro s hs
    rw [List.mem_append] at hs
    rcases hs with z | z
    · exact h s z
    · rw [List.mem_singleton] at z
      subst z
      exact ⟨by show p < q; omega, by show q < pn g; omega, by show o < 4; omega, by show t < 4; omega, c1, c2, c3⟩
  · rw [if_neg c1]; exact h
/-- the class's rows of seams -/
def cSm (m : Mm) (g : Vc) (an : Nat → Int32) (tol : Int32) (l : List Qd) : Prop := m.1 268 0 = nI l.length ∧ m.1 268 2 = tol ∧ ∀ i s, l[i]? = some s → m.1 383 i = nI (4 * s.1 + s.2.1) ∧ m.1 384 i = nI (4 * s.2.2.1 + s.2.2.2) ∧ m.1 385 i = sL g an s ∧ m.1 386 i = sH g an s ∧ m.1 387 i = sG g an s
def frS (m m2 : Mm) : Prop := ∀ b, b ≠ 268 → b < 383 ∨ 388 ≤ b → m2.1 b = m.1 b
theorem cFd_S {m m2 : Mm} {g : Vc} {an : Nat → Int32} (hp : pn g ≤ 10) (h : cFd m g an) (f : frS m m2) : cFd m2 g an := by
  refine ⟨by rw [f 269 (by omega) (by omega)]; exact h.1, fun k hk => ?_⟩
  have h2 := h.2 k hk
  unfold cF1 cP cL cS at h2 ⊢
  have e : ∀ b, b < 10 → m2.1 (283 + 10 * k + b) = m.1 (283 + 10 * k + b) := fun b hb => f _ (by omega) (by omega)
  have e0 : m2.1 (283 + 10 * k) = m.1 (283 + 10 * k) := f _ (by omega) (by omega)
  rw [e0, e 1 (by omega), e 2 (by omega), e 3 (by omega), e 4 (by omega), e 5 (by omega), e 6 (by omega), e 7 (by omega), e 8 (by omega), e 9 (by omega)]
  exact h2
theorem side_c {m : Mm} {g : Vc} {an : Nat → Int32} (h : cFd m g an) {k s : Nat} (hk : k < pn g) (hs : s < 4) : m.1 (283 + 10 * k + 3) s = nI (zA g an k s) ∧ m.1 (283 + 10 * k + 9) s = ck g an k (sb0 s) (zA g an k s) ∧ m.1 (283 + 10 * k + 4) s = zL g an k s ∧ m.1 (283 + 10 * k + 5) s = zH g an k s ∧
    m.1 (283 + 10 * k + 6) s = ck g an k (sb0 s) ((zA g an k s + 1) % 3) ∧ m.1 (283 + 10 * k + 7) s = ck g an k (sb0 s) ((zA g an k s + 2) % 3) := (h.2 k hk).2.2 s hs
theorem zA_par {g : Vc} {an : Nat → Int32} (hr : rngD g) {k : Nat} (hk : k < pn g) (t : Nat) : zA g an k t = zA g an k 0 ↔ t % 2 = 0 := by
  have h := (pose_ok (an := an) hr.par k hk).2.2.2.1
  unfold zA sax
  rw [if_pos (show 0 % 2 = 0 from rfl)]
  by_cases z : t % 2 = 0
  · rw [if_pos z]; exact ⟨fun _ => z, fun _ => rfl⟩
  · rw [if_neg z]; exact ⟨fun q => absurd q.symm h, fun q => absurd q z⟩
def s2n (b : Prop) [Decidable b] (t : Nat) : Nat := if b then (t + 1) / 2 else t / 2
theorem joinSide_ok {m : Mm} {g : Vc} {an : Nat → Int32} {tol : Int32} {p o q : Nat} {l : List Qd} {K : Mm → Prop} (hr : rngD g) (hp : p < pn g) (ho : o < 4) (hq : q < pn g) (hF : cFd m g an) (hS : cSm m g an tol l) (hl : l.length + 2 ≤ 360)
    (kk : ∀ m2, cSm m2 g an tol (jL g an tol p o q l) → (jL g an tol p o q l).length ≤ l.length + 2 → frS m m2 → K m2) : wp_X10_joinSide (nI p) (nI o) (nI q) m K := by
  have hp1 := hr.par.1
  have b1 := zA_lt (an := an) hr hp o
  unfold wp_X10_joinSide
  rw [if_neg (show ¬ nI o < (0 : Int32) from inlt (i := 0) (by omega) (by omega)), if_pos (show nI o ≤ (3 : Int32) from ile (i := 3) (by omega) (by omega))]
  rw [poseAt_in (by omega), poseAt_in (by omega)]
  refine rel_loop (wp := fun n i s => wp_X10_joinSide_l33 K (nI p) (nI o) (nI q) (283 + 10 * p) (283 + 10 * q) n i s) (R := fun t s l2 => cSm s g an tol l2 ∧ frS m s ∧ l2.length ≤ l.length + s2n (zA g an p o = zA g an q 0) t) (a := 0) (N := 4) (fun t l => sAdd g an tol (p, o, q, t) l) (by omega) (by omega) ?_ ?_ ⟨hS, fun _ _ _ => rfl, Nat.le_add_right _ _⟩
  · rintro n i s h1 h2 ⟨i1, i2, i3⟩
    have e4 : i = 4 := by omega
    subst e4
    show wb_X10_joinSide_l33 _ _ _ _ _ _ _ _ _
    unfold wb_X10_joinSide_l33
    rw [if_pos (show (4 : Int32) ≤ nI 4 from ile (a := 4) (by omega) (by omega))]
    refine kk s i1 ?_ i2
    have : s2n (zA g an p o = zA g an q 0) 4 = 2 := by unfold s2n; split <;> rfl
    rw [this] at i3
    exact i3
  · rintro n t s l2 - ht ⟨⟨i1, i1b, i1c⟩, i2, i3⟩ k2
    show wb_X10_joinSide_l33 _ _ _ _ _ _ _ _ _
    unfold wb_X10_joinSide_l33
    have hFs := cFd_S hp1 hF i2
    have b2 := zA_lt (an := an) hr hq t
    have b3 := zA_par (an := an) hr hq t
    obtain ⟨p3, p9, p4, p5, p6, p7⟩ := side_c hFs hp ho
    obtain ⟨q3, q9, q4, q5, q6, q7⟩ := side_c hFs hq ht
    have hmono : s2n (zA g an p o = zA g an q 0) t ≤ s2n (zA g an p o = zA g an q 0) (t + 1) := by unfold s2n; split <;> omega
    have hno : sAdd g an tol (p, o, q, t) l2 = l2 → wp_X10_joinSide_l33 K (nI p) (nI o) (nI q) (283 + 10 * p) (283 + 10 * q) n (nI t + 1) s := fun e => by
      refine k2 s ?_
      rw [e]
      exact ⟨⟨i1, i1b, i1c⟩, i2, by omega⟩
    rw [if_neg (show ¬ (4 : Int32) ≤ nI t from inle (a := 4) ht (by omega)), clamp_nI (show o < 2 ^ 31 by omega), clamp_nI (show t < 2 ^ 31 by omega), p3, q3, if_nI (by omega) (by omega)]
    refine ⟨vp_in_nI (by omega) (by omega), vp_in_nI (by omega) (by omega), ?_⟩
    unfold sAdd at hno
    unfold sAdd at k2
    by_cases c1 : zA g an p o = zA g an q t
    · rw [if_pos c1]
      rw [if_pos c1] at hno
      rw [p6, p7, q6, q7, p4, q4, p5, q5, i1b]
      intro y5 h5 y6 h6 y7 h7
      have g5 : y5 = sG g an (p, o, q, t) := h5
      have g6 : y6 = sL g an (p, o, q, t) := h6
      have g7 : y7 = sH g an (p, o, q, t) := h7
      clear h5 h6 h7
      subst g5
      subst g6
      subst g7
      by_cases c2 : tol < sG g an (p, o, q, t)
      · rw [if_pos c2]
        rw [if_pos c2] at hno
        exact hno rfl
      rw [if_neg c2]
      rw [if_neg c2] at hno
      by_cases c3 : sH g an (p, o, q, t) ≤ sL g an (p, o, q, t)
      · rw [if_pos c3]
        rw [if_pos c3] at hno
        exact hno rfl
      rw [if_neg c3]
      have hlen : l2.length + 1 ≤ l.length + s2n (zA g an p o = zA g an q 0) (t + 1) := by
        unfold s2n at i3 ⊢
        by_cases c4 : zA g an p o = zA g an q 0
        · rw [if_pos c4] at i3 ⊢
          have := b3.mp (c1.symm.trans c4)
          omega
        · rw [if_neg c4] at i3 ⊢
          have : ¬ t % 2 = 0 := fun z => c4 (c1.trans (b3.mpr z))
          omega
      have hl2 : l2.length < 360 := by
        have : s2n (zA g an p o = zA g an q 0) (t + 1) ≤ 2 := by unfold s2n; split <;> omega
        omega
      rw [i1, if_neg (show ¬ (360 : Int32) ≤ nI l2.length from inle (a := 360) hl2 (by omega)), clamp_nI (by omega)]
      refine ⟨vp_in_nI hl2 (by omega), ?_⟩
      intro m12 h12
      have z12 : m12.1 268 0 = nI l2.length := by rw [h12]; exact i1
      rw [z12, clamp_nI (by omega)]
      refine ⟨vp_in_nI hl2 (by omega), ?_⟩
      intro m14 h14
      have z14 : m14.1 268 0 = nI l2.length := by rw [h14]; exact z12
      rw [z14, clamp_nI (by omega)]
      refine ⟨vp_in_nI hl2 (by omega), ?_⟩
      intro m16 h16
      have z16 : m16.1 268 0 = nI l2.length := by rw [h16]; exact z14
      rw [z16, clamp_nI (by omega)]
      refine ⟨vp_in_nI hl2 (by omega), ?_⟩
      intro m18 h18
      have z18 : m18.1 268 0 = nI l2.length := by rw [h18]; exact z16
      rw [z18, clamp_nI (by omega)]
      refine ⟨vp_in_nI hl2 (by omega), ?_⟩
      intro m20 h20
      have z20 : m20.1 268 0 = nI l2.length := by rw [h20]; exact z18
      rw [z20, nI_1]
      intro m21 h21
      refine k2 m21 ?_
      rw [if_pos c1, if_neg c2, if_neg c3]
      have e383 : ∀ j, m21.1 383 j = if j = l2.length then nI (4 * p + o) else s.1 383 j := fun j => by
        rw [h21, h20, h18, h16, h14, h12, wI_ne _ _ _ _ (by omega), wI_ne _ _ _ _ (by omega), wI_ne _ _ _ _ (by omega), wI_ne _ _ _ _ (by omega), wI_ne _ _ _ _ (by omega), wI_get, if_pos rfl, show (4 : Int32) = nI 4 from rfl, nI_mul, nI_add]
      have e384 : ∀ j, m21.1 384 j = if j = l2.length then nI (4 * q + t) else s.1 384 j := fun j => by
        rw [h21, h20, h18, h16, h14, h12, wI_ne _ _ _ _ (by omega), wI_ne _ _ _ _ (by omega), wI_ne _ _ _ _ (by omega), wI_ne _ _ _ _ (by omega), wI_get, if_pos rfl, wI_ne _ _ _ _ (by omega), show (4 : Int32) = nI 4 from rfl, nI_mul, nI_add]
      have e385 : ∀ j, m21.1 385 j = if j = l2.length then sL g an (p, o, q, t) else s.1 385 j := fun j => by
        rw [h21, h20, h18, h16, h14, h12, wI_ne _ _ _ _ (by omega), wI_ne _ _ _ _ (by omega), wI_ne _ _ _ _ (by omega), wI_get, if_pos rfl, wI_ne _ _ _ _ (by omega), wI_ne _ _ _ _ (by omega)]
      have e386 : ∀ j, m21.1 386 j = if j = l2.length then sH g an (p, o, q, t) else s.1 386 j := fun j => by
        rw [h21, h20, h18, h16, h14, h12, wI_ne _ _ _ _ (by omega), wI_ne _ _ _ _ (by omega), wI_get, if_pos rfl, wI_ne _ _ _ _ (by omega), wI_ne _ _ _ _ (by omega), wI_ne _ _ _ _ (by omega)]
      have e387 : ∀ j, m21.1 387 j = if j = l2.length then sG g an (p, o, q, t) else s.1 387 j := fun j => by
        rw [h21, h20, h18, h16, h14, h12, wI_ne _ _ _ _ (by omega), wI_get, if_pos rfl, wI_ne _ _ _ _ (by omega), wI_ne _ _ _ _ (by omega), wI_ne _ _ _ _ (by omega), wI_ne _ _ _ _ (by omega)]
      have eo : ∀ b, b ≠ 268 → b < 383 ∨ 388 ≤ b → m21.1 b = s.1 b := fun b hb1 hb2 => by
        funext j
        rw [h21, h20, h18, h16, h14, h12, wI_ne _ _ _ _ (by omega), wI_ne _ _ _ _ (by omega), wI_ne _ _ _ _ (by omega), wI_ne _ _ _ _ (by omega), wI_ne _ _ _ _ (by omega), wI_ne _ _ _ _ (by omega)]
      refine ⟨⟨?_, ?_, fun i s' hi => ?_⟩, fun b hb1 hb2 => by rw [eo b hb1 hb2, i2 b hb1 hb2], ?_⟩
      · rw [h21, wI_same, List.length_append]; rfl
      · rw [h21, wI_nj _ _ _ _ (by omega), h20, h18, h16, h14, h12]; exact i1b
      · rw [e383, e384, e385, e386, e387]
        rcases snoc_get hi with ⟨z1, z2⟩ | ⟨z1, z2⟩
        · rw [if_neg (by omega), if_neg (by omega), if_neg (by omega), if_neg (by omega), if_neg (by omega)]; exact i1c i s' z2
        · rw [if_pos z1, if_pos z1, if_pos z1, if_pos z1, if_pos z1, z2]; exact ⟨rfl, rfl, rfl, rfl, rfl⟩
      · rw [List.length_append]; exact hlen
    · rw [if_neg c1]
      rw [if_neg c1] at hno
      exact hno rfl
def tri1 : Nat → Nat
  | 0 => 0
  | n + 1 => tri1 n + n
theorem tri1_le {n : Nat} (h : n ≤ 10) : tri1 n ≤ 45 := by
  have : ∀ n, n < 11 → tri1 n ≤ 45 := by decide
  exact this n (by omega)
theorem find_ok {m : Mm} {g : Vc} {an : Nat → Int32} {tol : Int32} {K : Mm → Prop} (hr : rngD g) (hF : cFd m g an) (kk : ∀ m2, cSm m2 g an tol (seamL g an tol) → cFd m2 g an → (seamL g an tol).length ≤ 360 → frS m m2 → K m2) : wp_X10_find tol m K := by
  have hp1 := hr.par.1
  unfold wp_X10_find
  intro m1 h1 m2 h2
  have f2 : frS m m2 := fun b hb1 hb2 => by funext j; rw [h2, h1, wI_ne _ _ _ _ hb1, wI_ne _ _ _ _ hb1]
  have s2 : cSm m2 g an tol [] := ⟨by rw [h2, wI_nj _ _ _ _ (by omega), h1, wI_same]; rfl, by rw [h2, wI_same], fun i s hi => by cases hi⟩
  refine rel_loop (wp := fun n i s => wp_X10_find_l12 K n i s) (R := fun p s l => cSm s g an tol l ∧ frS m s ∧ l.length + 8 * tri1 (pn g - p) ≤ 360) (a := 0) (N := pn g) (fun p l => oL g an tol p l) (by omega) (by omega) ?_ ?_ ⟨s2, f2, by have := tri1_le hp1; show 0 + 8 * tri1 (pn g) ≤ 360; omega⟩
  · rintro n i s h3 h4 ⟨i1, i2, i3⟩
    have e4 : i = pn g := by omega
    subst e4
    show wb_X10_find_l12 _ _ _ _
    unfold wb_X10_find_l12
    rw [(cFd_S hp1 hF i2).1, if_pos (ile (Nat.le_refl _) (by omega))]
    exact kk s i1 (cFd_S hp1 hF i2) (by have : (seamL g an tol).length + _ ≤ 360 := i3; omega) i2
  · rintro n p s l - hpp ⟨i1, i2, i3⟩ k2
    show wb_X10_find_l12 _ _ _ _
    unfold wb_X10_find_l12
    rw [(cFd_S hp1 hF i2).1, if_neg (inle hpp (by omega))]
    have et : tri1 (pn g - p) = tri1 (pn g - p - 1) + (pn g - p - 1) := by
      rw [show pn g - p = (pn g - p - 1) + 1 by omega]; rfl
    refine rel_loop (wp := fun n2 i s => wp_X10_find_l25 (fun a b => wp_X10_find_l12 K n a b) K (nI p) n2 i s) (R := fun o s l => cSm s g an tol l ∧ frS m s ∧ l.length + 2 * ((4 - o) * (pn g - p - 1)) + 8 * tri1 (pn g - p - 1) ≤ 360) (a := 0) (N := 4) (fun o l => qL g an tol p o l) (by omega) (by omega) ?_ ?_ ⟨i1, i2, by rw [et] at i3; omega⟩
    · rintro n2 i s h3 h4 ⟨j1, j2, j3⟩
      have e4 : i = 4 := by omega
      subst e4
      show wb_X10_find_l25 _ _ _ _ _ _
      unfold wb_X10_find_l25
      rw [if_pos (show (4 : Int32) ≤ nI 4 from ile (a := 4) (by omega) (by omega))]
      refine k2 s ⟨j1, j2, ?_⟩
      rw [Nat.sub_self, Nat.zero_mul] at j3
      rw [show pn g - (p + 1) = pn g - p - 1 by omega]
      exact j3
    · rintro n2 o s l2 - ho ⟨j1, j2, j3⟩ k3
      show wb_X10_find_l25 _ _ _ _ _ _
      unfold wb_X10_find_l25
      rw [if_neg (show ¬ (4 : Int32) ≤ nI o from inle (a := 4) ho (by omega)), nI_1 p]
      rintro y5 rfl
      obtain ⟨x, hx⟩ : ∃ x, x = (3 - o) * (pn g - p - 1) := ⟨_, rfl⟩
      have ex : (4 - o) * (pn g - p - 1) = x + (pn g - p - 1) := by rw [hx, show 4 - o = (3 - o) + 1 by omega, Nat.succ_mul]
      refine rel_loop (wp := fun n3 i s => wp_X10_find_l35 (fun a b => wp_X10_find_l25 (fun a b => wp_X10_find_l12 K n a b) K (nI p) n2 a b) K (nI p) (nI o) n3 i s) (R := fun q s l => cSm s g an tol l ∧ frS m s ∧ l.length + 2 * (pn g - q) + 2 * x + 8 * tri1 (pn g - p - 1) ≤ 360) (a := p + 1) (N := pn g) (fun q l => jL g an tol p o q l) (by omega) (by omega) ?_ ?_ ⟨j1, j2, by rw [ex] at j3; omega⟩
      · rintro n3 i s h3 h4 ⟨u1, u2, u3⟩
        show wb_X10_find_l35 _ _ _ _ _ _ _
        unfold wb_X10_find_l35
        rw [(cFd_S hp1 hF u2).1, if_pos (ile h3 (by omega))]
        refine k3 s ⟨u1, u2, ?_⟩
        rw [show 4 - (o + 1) = 3 - o by omega, ← hx]
        have u4 : (qL g an tol p o l2).length + 2 * (pn g - i) + 2 * x + 8 * tri1 (pn g - p - 1) ≤ 360 := u3
        omega
      · rintro n3 q s l3 hq1 hq ⟨u1, u2, u3⟩ k4
        show wb_X10_find_l35 _ _ _ _ _ _ _
        unfold wb_X10_find_l35
        rw [(cFd_S hp1 hF u2).1, if_neg (inle hq (by omega))]
        refine joinSide_ok hr hpp ho hq (cFd_S hp1 hF u2) u1 (by omega) (fun m3 v1 v2 v3 => ?_)
        exact k4 m3 ⟨v1, fun b hb1 hb2 => by rw [v3 b hb1 hb2, u2 b hb1 hb2], by omega⟩
