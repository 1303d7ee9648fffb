/-! folds on a side never overlap -/
def cvr (g : Vc) (k s o : Nat) (c : Int) : Prop := (pf g o 0 = nI k ∧ pf g o 1 = nI s) ∧ (pf g o 2).toInt ≤ c ∧ c < (pf g o 2).toInt + (pf g o 3).toInt
theorem hung_at {g : Vc} (hD : Dd g) {k s o : Nat} (hk : k < pn g) (ho : o < pn g) (h0 : 0 < o) (hs : s < 4) (hc : pf g o 0 = nI k ∧ pf g o 1 = nI s) : rect g o = hung g o (rect g k) ∧ k < o ∧ (pf g o 2).toInt + (pf g o 3).toInt ≤ sdL g k s := by
  have hp1 := hD.ple
  obtain ⟨⟨p, hp, ep⟩, ⟨t, ht, et⟩, -⟩ := hD.r.2.2.2.2.2.2 o h0 ho
  have e1 : p = k := (nI_eq (by omega) (by omega)).mp (by rw [← ep]; exact hc.1)
  subst e1
  have cl : (pf g o 0).toNatClampNeg = p := by rw [ep, clamp_nI (by omega)]
  refine ⟨by rw [rect_eq, if_neg (by omega), dif_pos (by rw [cl]; exact hp), cl], hp, ?_⟩
  have h2 := (hD.2 o ho).2.1 h0
  rw [cl, hc.2] at h2
  obtain ⟨-, -, ⟨b5, b6⟩, b7, b8⟩ := rect_b hD.r hk
  unfold sdL
  unfold sdl at h2
  have q0 : (nI s = (0 : Int32) ∨ nI s = (2 : Int32)) ↔ s % 2 = 0 := by
    rcases side4 hs with z | z | z | z <;> subst z <;> decide
  by_cases z : s % 2 = 0
  · rw [if_pos (q0.mpr z)] at h2
    rw [if_pos z]
    have := asN (x := (rect g p).2.2.1) (by omega)
    obtain ⟨v, -, v2, v3⟩ := this
    omega
  · rw [if_neg (fun q => z (q0.mp q))] at h2
    rw [if_neg z]
    obtain ⟨v, -, v2, v3⟩ := asN (x := (rect g p).2.2.2) (by omega)
    omega
theorem child_apart {g : Vc} (hD : Dd g) {k s o1 o2 : Nat} (hk : k < pn g) (hs : s < 4) (h0 : 0 < o1) (h12 : o1 < o2) (h2 : o2 < pn g) (c1 : pf g o1 0 = nI k ∧ pf g o1 1 = nI s) (c2 : pf g o2 0 = nI k ∧ pf g o2 1 = nI s) (c : Int) : ¬ (cvr g k s o1 c ∧ cvr g k s o2 c) := by
  rintro ⟨⟨-, a1, a2⟩, -, b1, b2⟩
  obtain ⟨e1, -⟩ := hung_at hD hk (by omega) h0 hs c1
  obtain ⟨e2, -⟩ := hung_at hD hk h2 (by omega) hs c2
  have hov := (hD.2 o2 h2).2.2 o1 h12
  apply hov
  obtain ⟨⟨r1, r2⟩, ⟨r3, r4⟩, ⟨r5, r6⟩, r7, r8⟩ := rect_b hD.r hk
  obtain ⟨-, -, ⟨u1, u2⟩, ⟨u3, u4⟩, ⟨u5, u6⟩, -⟩ := hD.r.2.2.2.2.2.2 o1 h0 (by omega)
  obtain ⟨-, -, ⟨v1, v2⟩, ⟨v3, v4⟩, ⟨v5, v6⟩, -⟩ := hD.r.2.2.2.2.2.2 o2 (by omega) h2
  have p1 : ((rect g k).1 + pf g o1 2).toInt = (rect g k).1.toInt + (pf g o1 2).toInt := add_t (by omega) (by omega) (by omega) (by omega)
  have p2 : ((rect g k).1 + pf g o2 2).toInt = (rect g k).1.toInt + (pf g o2 2).toInt := add_t (by omega) (by omega) (by omega) (by omega)
  have p3 : ((rect g k).2.1 + pf g o1 2).toInt = (rect g k).2.1.toInt + (pf g o1 2).toInt := add_t (by omega) (by omega) (by omega) (by omega)
  have p4 : ((rect g k).2.1 + pf g o2 2).toInt = (rect g k).2.1.toInt + (pf g o2 2).toInt := add_t (by omega) (by omega) (by omega) (by omega)
  have p5 : ((rect g k).2.1 - pf g o1 4).toInt = (rect g k).2.1.toInt - (pf g o1 4).toInt := sub_t (by omega) (by omega) (by omega) (by omega)
  have p6 : ((rect g k).2.1 - pf g o2 4).toInt = (rect g k).2.1.toInt - (pf g o2 4).toInt := sub_t (by omega) (by omega) (by omega) (by omega)
  have p7 : ((rect g k).1 - pf g o1 4).toInt = (rect g k).1.toInt - (pf g o1 4).toInt := sub_t (by omega) (by omega) (by omega) (by omega)
  have p8 : ((rect g k).1 - pf g o2 4).toInt = (rect g k).1.toInt - (pf g o2 4).toInt := sub_t (by omega) (by omega) (by omega) (by omega)
  rw [e1, e2]
  unfold ovl hung
  rw [c1.2, c2.2]
  have n01 : ¬ (nI 1 = (0 : Int32) ∨ nI 1 = (2 : Int32)) := by decide
  have n03 : ¬ (nI 3 = (0 : Int32) ∨ nI 3 = (2 : Int32)) := by decide
  have y0 : nI 0 = (0 : Int32) ∨ nI 0 = (2 : Int32) := Or.inl rfl
  have y2 : nI 2 = (0 : Int32) ∨ nI 2 = (2 : Int32) := Or.inr rfl
  have n02 : ¬ nI 0 = (2 : Int32) := by decide
  have y22 : nI 2 = (2 : Int32) := rfl
  have y11 : nI 1 = (1 : Int32) := rfl
  have n31 : ¬ nI 3 = (1 : Int32) := by decide
  rcases side4 hs with z | z | z | z <;> subst z
  · simp only [if_pos y0, if_neg n02, p1, p2, p5, p6]
    omega
  · simp only [if_neg n01, if_pos y11, p3, p4]
    omega
  · simp only [if_pos y2, if_pos y22, p1, p2]
    omega
  · simp only [if_neg n03, if_neg n31, p3, p4, p7, p8]
    omega
theorem fold_un {g : Vc} (hD : Dd g) {k s : Nat} (hk : k < pn g) (hs : s < 4) : ∀ n, n ≤ pn g - 1 → un (fun c => ∃ i, i < n ∧ cvr g k s (1 + i) c) 0 (sdL g k s) = fb_sm (fun i => chS g k s (1 + i)) n := by
  intro n
  induction n with
  | zero => exact fun _ => un_none (fun c _ _ => by rintro ⟨i, hi, -⟩; omega)
  | succ n ih =>
    intro hn
    have i0 := ih (by omega)
    rw [fb_sm_succ, ← i0]
    by_cases hc : pf g (1 + n) 0 = nI k ∧ pf g (1 + n) 1 = nI s
    · obtain ⟨-, -, ⟨u1, u2⟩, ⟨u3, u4⟩, -⟩ := hD.r.2.2.2.2.2.2 (1 + n) (by omega) (by omega)
      obtain ⟨-, -, hle⟩ := hung_at hD hk (show 1 + n < pn g by omega) (by omega) hs hc
      have ec : chS g k s (1 + n) = (pf g (1 + n) 3).toNatClampNeg := by unfold chS; rw [if_pos hc]
      obtain ⟨v, -, v2, v3⟩ := asN (x := pf g (1 + n) 3) (by omega)
      rw [ec, v3]
      obtain ⟨A, hA⟩ : ∃ A, A = (pf g (1 + n) 2).toInt := ⟨_, rfl⟩
      rw [un_cut _ (show (0 : Int) ≤ A by omega) (show A ≤ (sdL g k s : Int) by omega), un_cut _ (show A ≤ A + v by omega) (show A + v ≤ (sdL g k s : Int) by omega)]
      rw [un_cut (fun c => ∃ i, i < n ∧ cvr g k s (1 + i) c) (show (0 : Int) ≤ A by omega) (show A ≤ (sdL g k s : Int) by omega), un_cut (fun c => ∃ i, i < n ∧ cvr g k s (1 + i) c) (show A ≤ A + v by omega) (show A + v ≤ (sdL g k s : Int) by omega)]
      have out : ∀ c, ¬ (A ≤ c ∧ c < A + v) → ((∃ i, i < n + 1 ∧ cvr g k s (1 + i) c) ↔ ∃ i, i < n ∧ cvr g k s (1 + i) c) := fun c hcc => by
        constructor
        · rintro ⟨i, hi, h⟩
          by_cases z : i = n
          · subst z
            exact absurd ⟨by have := h.2.1; omega, by have := h.2.2; omega⟩ hcc
          · exact ⟨i, by omega, h⟩
        · rintro ⟨i, hi, h⟩
          exact ⟨i, by omega, h⟩
      have q1 : un (fun c => ∃ i, i < n + 1 ∧ cvr g k s (1 + i) c) 0 A = un (fun c => ∃ i, i < n ∧ cvr g k s (1 + i) c) 0 A := un_congr (fun c c1 c2 => out c (by omega))
      have q3 : un (fun c => ∃ i, i < n + 1 ∧ cvr g k s (1 + i) c) (A + v) (sdL g k s) = un (fun c => ∃ i, i < n ∧ cvr g k s (1 + i) c) (A + v) (sdL g k s) := un_congr (fun c c1 c2 => out c (by omega))
      have q2 : un (fun c => ∃ i, i < n + 1 ∧ cvr g k s (1 + i) c) A (A + v) = (A + v - A).toNat := un_all (fun c c1 c2 => ⟨n, by omega, hc, by omega, by omega⟩)
      have q4 : un (fun c => ∃ i, i < n ∧ cvr g k s (1 + i) c) A (A + v) = 0 := un_none (fun c c1 c2 => by
        rintro ⟨i, hi, h⟩
        exact child_apart hD hk hs (show 0 < 1 + i by omega) (show 1 + i < 1 + n by omega) (by omega) h.1 hc c ⟨h, hc, by omega, by omega⟩)
      rw [q1, q2, q3, q4]
      omega
    · have ec : chS g k s (1 + n) = 0 := by unfold chS; rw [if_neg hc]
      rw [ec, Nat.add_zero]
      refine un_congr (fun c _ _ => ?_)
      constructor
      · rintro ⟨i, hi, h⟩
        by_cases z : i = n
        · subst z; exact absurd h.1 hc
        · exact ⟨i, by omega, h⟩
      · rintro ⟨i, hi, h⟩
        exact ⟨i, by omega, h⟩
theorem fsum_le {g : Vc} (hD : Dd g) {k s : Nat} (hk : k < pn g) (hs : s < 4) : fsum g k s ≤ sdL g k s := by
  have h := fold_un hD hk hs (pn g - 1) (Nat.le_refl _)
  have l := un_le (fun c => ∃ i, i < pn g - 1 ∧ cvr g k s (1 + i) c) 0 (sdL g k s)
  unfold fsum
  rw [← h]
  omega
theorem fsum_tail {g : Vc} (hD : Dd g) {k s : Nat} (hk : k < pn g) : fb_sm (fun i => chS g k s (k + 1 + i)) (pn g - (k + 1)) = fsum g k s := by
  have hp1 := hD.ple
  unfold fsum
  rw [show pn g - 1 = k + (pn g - (k + 1)) by omega, fb_sm_split]
  have z : fb_sm (fun i => chS g k s (1 + i)) k = 0 := by
    rw [fb_sm_cong (g := fun _ => 0) (fun i hi => ?_), fb_sm_const]
    · omega
    · show chS g k s (1 + i) = 0
      unfold chS
      rw [if_neg]
      rintro ⟨h, -⟩
      obtain ⟨⟨p, hp, ep⟩, -⟩ := hD.r.2.2.2.2.2.2 (1 + i) (by omega) (by omega)
      have : p = k := (nI_eq (by omega) (by omega)).mp (by rw [← ep]; exact h)
      omega
  rw [z, Nat.zero_add]
  exact fb_sm_cong (fun i _ => by rw [show k + 1 + i = 1 + (k + i) by omega])
