/-! the class folds -/
def cP (m : Mm) (q : Nat) (P : PZ) (w h : Int32) : Prop := m.1 q 0 = nI P.2.2.1 ∧ m.1 q 8 = nI P.1 ∧ m.1 q 9 = nI P.2.1 ∧ m.1 q 10 = w ∧ m.1 q 11 = h ∧ ∀ c, c < 3 → m.1 (q + 8) c = P.2.2.2 c
def pcor (P : PZ) (w h : Int32) (n c : Nat) : Int32 := P.2.2.2 c + (if n = 1 ∨ n = 2 then w * pt P.1 c else 0) + (if n = 2 ∨ n = 3 then h * pt P.2.1 c else 0)
theorem cornerAt_ok {m : Mm} {q : Nat} {P : PZ} {w h : Int32} (hP : cP m q P w h) (ok : pzok P) {n c : Nat} (hn : n < 4) (hc : c < 3) : v_X8_cornerAt q (nI n) (nI c) m = pcor P w h n c := by
  obtain ⟨h0, h8, h9, h10, h11, hs⟩ := hP
  unfold v_X8_cornerAt pcor
  rw [if_neg (nI_pos (by omega)), if_pos (show nI c ≤ (2 : Int32) from ile (i := 2) (by omega) (by omega)), clamp_nI (by omega), hs c hc, h8, h9, h10, h11, part_pt ok.1 hc, part_pt ok.2.1 hc]
  rcases side4 hn with z | z | z | z <;> subst z <;> rfl
theorem poseAt_in {k : Nat} (hk : k < 10) : v_X5_poseAt (nI k) = 283 + 10 * k := by
  unfold v_X5_poseAt
  rw [if_neg (nI_pos (by omega)), if_neg (show ¬ (10 : Int32) ≤ nI k from inle (a := 10) hk (by omega)), clamp_nI (by omega)]
/-- cells of one pose alone -/
def frP (q : Nat) (m m2 : Mm) : Prop := ∀ b, b < q ∨ q + 10 ≤ b → m2.1 b = m.1 b
theorem clayFlat_ok {m : Mm} {q a : Nat} {g : Vc} {an : Nat → Int32} {K : Mm → Prop} (ha : a < q ∨ q + 10 ≤ a) (hr : rcR m.1 a g 0) (kk : ∀ m2, cP m2 q (poseF g an 0) (rect g 0).2.2.1 (rect g 0).2.2.2 → frP q m m2 → K m2) : wp_X8_layFlat q a m K := by
  unfold wp_X8_layFlat
  rintro m1 e1 m2 e2 m3 e3 m4 e4 m5 e5 m6 e6 m7 e7 m8 e8
  obtain ⟨r1, r2, r3, r4⟩ := hr
  have f1 : ∀ b, b ≠ q → m1.1 b = m.1 b := fun b hb => by funext j; rw [e1, wI_ne _ _ _ _ hb]
  have f2 : ∀ b, b ≠ q → m2.1 b = m.1 b := fun b hb => by funext j; rw [e2, wI_ne _ _ _ _ hb, f1 b hb]
  have f3 : ∀ b, b ≠ q → m3.1 b = m.1 b := fun b hb => by funext j; rw [e3, wI_ne _ _ _ _ hb, f2 b hb]
  have f4 : ∀ b, b ≠ q → m4.1 b = m.1 b := fun b hb => by funext j; rw [e4, wI_ne _ _ _ _ hb, f3 b hb]
  have f5 : ∀ b, b ≠ q → m5.1 b = m.1 b := fun b hb => by funext j; rw [e5, wI_ne _ _ _ _ hb, f4 b hb]
  have f6 : ∀ b, b ≠ q → b ≠ q + 8 → m6.1 b = m.1 b := fun b hb hb2 => by funext j; rw [e6, wI_ne _ _ _ _ hb2, f5 b hb]
  rw [f3 a (by omega), r3] at e4
  rw [f4 a (by omega), r4] at e5
  rw [f5 a (by omega), r1] at e6
  rw [f6 a (by omega) (by omega), r2] at e7
  have f8 : ∀ b, b ≠ q → b ≠ q + 8 → m8.1 b = m.1 b := fun b hb hb2 => by funext j; rw [e8, wI_ne _ _ _ _ hb2, e7, wI_ne _ _ _ _ hb2, f6 b hb hb2]
  have hm : m8 = wI (wI (wI (wI (wI (wI (wI (wI m q 8 0) q 9 2) q 0 4) q 10 (rect g 0).2.2.1) q 11 (rect g 0).2.2.2) (q + 8) 0 (rect g 0).1) (q + 8) 1 (rect g 0).2.1) (q + 8) 2 0 := by rw [e8, e7, e6, e5, e4, e3, e2, e1]
  have hq : ∀ j, m8.1 q j = if j = 11 then (rect g 0).2.2.2 else if j = 10 then (rect g 0).2.2.1 else if j = 0 then 4 else if j = 9 then 2 else if j = 8 then 0 else m.1 q j := fun j => by
    rw [hm]
    simp only [wI_get, if_neg (show q ≠ q + 8 by omega), if_true]
  have hq8 : ∀ j, m8.1 (q + 8) j = if j = 2 then 0 else if j = 1 then (rect g 0).2.1 else if j = 0 then (rect g 0).1 else m.1 (q + 8) j := fun j => by
    rw [hm]
    simp only [wI_get, if_neg (show q + 8 ≠ q by omega), if_true]
  refine kk _ ?_ (fun b hb => f8 b (by omega) (by omega))
  rw [poseF_0]
  refine ⟨by rw [hq]; rfl, by rw [hq]; rfl, by rw [hq]; rfl, by rw [hq]; rfl, by rw [hq]; rfl, fun c hc => ?_⟩
  rw [hq8, rect_0]
  rcases tri hc with y | y | y <;> subst y <;> rfl
