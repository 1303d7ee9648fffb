/-! LAYER 2: no machine from here on. Base: numbers, memory, copying loops -/
theorem wI_get (m : Mm) (a k : Nat) (x : Int32) (b j : Nat) : (wI m a k x).1 b j = if b = a then (if j = k then x else m.1 b j) else m.1 b j := rfl
theorem wI_same (m : Mm) (a k : Nat) (x : Int32) : (wI m a k x).1 a k = x := by simp [wI_get]
theorem wI_ne (m : Mm) (a k : Nat) (x : Int32) {b : Nat} (h : b ≠ a) (j : Nat) : (wI m a k x).1 b j = m.1 b j := by simp [wI_get, h]
theorem wI_nj (m : Mm) (a k : Nat) (x : Int32) {j : Nat} (h : j ≠ k) (b : Nat) : (wI m a k x).1 b j = m.1 b j := by simp [wI_get, h]
theorem wI_L (m : Mm) (a k : Nat) (x : Int32) : (wI m a k x).2 = m.2 := rfl
theorem wL_I (m : Mm) (a k : Nat) (x : Int64) : (wL m a k x).1 = m.1 := rfl
theorem FU_gt {n : Nat} (h : n < 100000) : n < FU := h
theorem Mm_ext {m n : Mm} (h1 : ∀ b j, m.1 b j = n.1 b j) (h2 : m.2 = n.2) : m = n := Prod.ext (funext fun b => funext fun j => h1 b j) h2
/-- slots [dO, dO + n) of cell dst are those of src from sO on -/
def cpA (m : Mm) (src dst sO dO n : Nat) : Mm := (fun b j => if b = dst ∧ dO ≤ j ∧ j < dO + n then m.1 src (j - dO + sO) else m.1 b j, m.2)
theorem cpA_get (m : Mm) (src dst sO dO n b j : Nat) : (cpA m src dst sO dO n).1 b j = if b = dst ∧ dO ≤ j ∧ j < dO + n then m.1 src (j - dO + sO) else m.1 b j := rfl
theorem cpA_0 (m : Mm) (src dst sO dO : Nat) : cpA m src dst sO dO 0 = m := Mm_ext (fun b j => by rw [cpA_get, if_neg (by omega)]) rfl
theorem cpA_step (m : Mm) (src dst sO dO i : Nat) (h : src = dst → dO ≤ sO) : wI (cpA m src dst sO dO i) dst (dO + i) ((cpA m src dst sO dO i).1 src (sO + i)) = cpA m src dst sO dO (i + 1) := by
  have hr : (cpA m src dst sO dO i).1 src (sO + i) = m.1 src (sO + i) := by
    rw [cpA_get, if_neg]
    rintro ⟨h1, h2, h3⟩
    have := h h1
    omega
  rw [hr]
  refine Mm_ext (fun b j => ?_) rfl
  rw [wI_get, cpA_get, cpA_get]
  by_cases hb : b = dst
  · subst hb
    rw [if_pos rfl]
    by_cases hj : j = dO + i
    · subst hj
      rw [if_pos rfl, if_pos (by omega), show dO + i - dO + sO = sO + i by omega]
    · rw [if_neg hj]
      by_cases hc : dO ≤ j ∧ j < dO + i
      · rw [if_pos ⟨rfl, hc.1, hc.2⟩, if_pos ⟨rfl, by omega, by omega⟩]
      · rw [if_neg (by omega), if_neg (by omega)]
  · rw [if_neg hb, if_neg (fun q => hb q.1), if_neg (fun q => hb q.1)]
/-- numbers -/
theorem nI_lit (n : Nat) : (OfNat.ofNat n : Int32) = nI n := rfl
theorem nI_sub {a b : Nat} (h : b ≤ a) : nI a - nI b = nI (a - b) := pk_sub h
theorem nI_mul (a b : Nat) : nI a * nI b = nI (a * b) := pk_mul a b
theorem clamp_nI {n : Nat} (h : n < 2 ^ 31) : (nI n).toNatClampNeg = n := nI_clamp h
theorem rm32_nI {a d : Nat} (ha : a < 2 ^ 31) (h0 : 0 < d) (hd : d < 2 ^ 31) : rm32 (nI a) (nI d) = nI (a % d) := pk_rem ha h0 hd
theorem lit_le {a i : Nat} (ha : a < 2 ^ 31) (hi : i < 2 ^ 31) : (nI a ≤ nI i) ↔ a ≤ i := nI_leI ha hi
theorem lit_lt {a i : Nat} (ha : a < 2 ^ 31) (hi : i < 2 ^ 31) : (nI a < nI i) ↔ a < i := nI_ltI ha hi
theorem ile {a i : Nat} (h : a ≤ i) (hi : i < 2 ^ 31) : nI a ≤ nI i := (nI_leI (by omega) hi).mpr h
theorem inle {a i : Nat} (h : i < a) (ha : a < 2 ^ 31) : ¬ nI a ≤ nI i := fun q => absurd ((nI_leI ha (by omega)).mp q) (by omega)
theorem ilt {a i : Nat} (h : a < i) (hi : i < 2 ^ 31) : nI a < nI i := (nI_ltI (by omega) hi).mpr h
theorem inlt {a i : Nat} (h : i ≤ a) (ha : a < 2 ^ 31) : ¬ nI a < nI i := fun q => absurd ((nI_ltI ha (by omega)).mp q) (by omega)
theorem ine {a i : Nat} (h : a ≠ i) (ha : a < 2 ^ 31) (hi : i < 2 ^ 31) : ¬ nI a = nI i := fun q => h ((nI_eq ha hi).mp q)
theorem copy_loop {wp : Nat → Int32 → Mm → Prop} {kx : Mm → Prop} {m : Mm} {N src dst sO dO : Nat} (hd : src = dst → dO ≤ sO) (hN : N < 90000) (hx : ∀ n s, kx s → wp (n + 1) (nI N) s)
    (hs : ∀ n i s, i < N → s = cpA m src dst sO dO i → wp n (nI i + 1) (wI s dst (dO + i) (s.1 src (sO + i))) → wp (n + 1) (nI i) s) (h : kx (cpA m src dst sO dO N)) : wp FU 0 m := by
  refine loop_i (W := fun n i m => wp n (nI i) m) (I := fun i m' => m' = cpA m src dst sO dO i) N ?_ ?_ FU 0 m (by omega) (FU_gt (by omega)) (cpA_0 m src dst sO dO).symm
  · intro n s e
    exact hx n s (by rw [e]; exact h)
  · intro n i s hi e kk
    refine hs n i s hi e ?_
    rw [nI_1]
    refine kk _ ?_
    rw [e]
    exact cpA_step m src dst sO dO i hd
/-! the reference's copying loops -/
theorem begins_ok {m : Mm} {K : Mm → Prop} (h : K (cpA (wI m 426 2 0) 427 428 0 0 137)) : wp_X12_begins m K := by
  unfold wp_X12_begins
  rintro m1 rfl
  refine copy_loop (wp := fun n x m => wp_X12_begins_l7 K n x m) (kx := K) (by decide) (by decide) (fun n s hs => ?_) (fun n i s hi e kk => ?_) h
  · show wb_X12_begins_l7 _ _ _ _
    unfold wb_X12_begins_l7
    rw [if_pos (show (137 : Int32) ≤ nI 137 from ile (a := 137) (by omega) (by omega))]
    exact hs
  · show wb_X12_begins_l7 _ _ _ _
    unfold wb_X12_begins_l7
    rw [if_neg (show ¬ (137 : Int32) ≤ nI i from inle (a := 137) hi (by omega))]
    refine ⟨vp_in_nI hi (by omega), fun m5 h5 => ?_⟩
    rw [h5, clamp_nI (by omega)]
    simpa using kk
theorem refuse_ok {x : Int32} {m : Mm} {K : Int32 → Mm → Prop} (h : K x (cpA (wI m 426 2 1) 428 427 0 0 137)) : wp_X12_refuse x m K := by
  unfold wp_X12_refuse
  rintro m1 rfl
  refine copy_loop (wp := fun n y m => wp_X12_refuse_l7 K x n y m) (kx := K x) (by decide) (by decide) (fun n s hs => ?_) (fun n i s hi e kk => ?_) h
  · show wb_X12_refuse_l7 _ _ _ _ _
    unfold wb_X12_refuse_l7
    rw [if_pos (show (137 : Int32) ≤ nI 137 from ile (a := 137) (by omega) (by omega))]
    exact hs
  · show wb_X12_refuse_l7 _ _ _ _ _
    unfold wb_X12_refuse_l7
    rw [if_neg (show ¬ (137 : Int32) ≤ nI i from inle (a := 137) hi (by omega))]
    refine ⟨vp_in_nI hi (by omega), fun m5 h5 => ?_⟩
    rw [h5, clamp_nI (by omega)]
    simpa using kk
/-- what 'ends' does when the act is done: the list of states before acts, at most twelve of them -/
theorem ends_j {x : Int32} {m : Mm} {K : Int32 → Mm → Prop} {b : Nat} (hb : m.1 426 4 = nI b) (hb2 : b < 12) (h : K x (wI (cpA m 428 429 0 (137 * b) 137) 426 4 (nI (b + 1)))) : wp_X12_ends_j59 K x m := by
  unfold wp_X12_ends_j59
  refine copy_loop (wp := fun n y m => wp_X12_ends_l61 _ K x n y m) (src := 428) (dst := 429) (sO := 0) (dO := 137 * b) (N := 137) (kx := fun m7 => ∀ m8 : Mm, m8 = wI m7 426 4 ((m7.1 426 4) + (1 : Int32)) → (K x m8)) (by omega) (by decide) (fun n s hs => ?_) (fun n i s hi e kk => ?_) ?_
  · show wb_X12_ends_l61 _ _ _ _ _ _
    unfold wb_X12_ends_l61
    rw [if_pos (show (137 : Int32) ≤ nI 137 from ile (a := 137) (by omega) (by omega))]
    exact hs
  · show wb_X12_ends_l61 _ _ _ _ _ _
    unfold wb_X12_ends_l61
    rw [if_neg (show ¬ (137 : Int32) ≤ nI i from inle (a := 137) hi (by omega))]
    have hbs : s.1 426 4 = nI b := by rw [e, cpA_get, if_neg (by omega), hb]
    have hi2 : (137 : Int32) * s.1 426 4 + nI i = nI (137 * b + i) := by rw [hbs, show (137 : Int32) = nI 137 from rfl, nI_mul, nI_add]
    rw [hi2]
    refine ⟨vp_in_nI hi (by omega), vp_in_nI (by omega) (by omega), fun m6 h6 => ?_⟩
    rw [h6, clamp_nI (by omega), clamp_nI (by omega)]
    simpa using kk
  · rintro m8 rfl
    rw [cpA_get, if_neg (by omega), hb, nI_1]
    exact h
theorem ends_ok {x : Int32} {m : Mm} {K : Int32 → Mm → Prop} {b : Nat} (hf : m.1 426 2 = 0) (hb : m.1 426 4 = nI b) (hb2 : b ≤ 12)
    (h1 : b < 12 → K x (wI (cpA m 428 429 0 (137 * b) 137) 426 4 (nI (b + 1)))) (h2 : b = 12 → K x (wI (cpA (wI (cpA m 429 429 137 0 1507) 426 4 (nI 11)) 428 429 0 1507 137) 426 4 (nI 12))) : wp_X12_ends x m K := by
  unfold wp_X12_ends
  rw [if_pos hf]
  by_cases h12 : b = 12
  · subst h12
    rw [if_pos (by rw [hb]; rfl)]
    refine copy_loop (wp := fun n y m => wp_X12_ends_l20 _ K x n y m) (src := 429) (dst := 429) (sO := 137) (dO := 0) (N := 1507) (kx := fun m13 => ∀ m14 : Mm, m14 = wI m13 426 4 ((m13.1 426 4) - (1 : Int32)) → (wp_X12_ends_j59 K x m14)) (by omega) (by decide) (fun n s hs => ?_) (fun n i s hi e kk => ?_) ?_
    · show wb_X12_ends_l20 _ _ _ _ _ _
      unfold wb_X12_ends_l20
      rw [if_pos (show (1507 : Int32) ≤ nI 1507 from ile (a := 1507) (by omega) (by omega))]
      exact hs
    · show wb_X12_ends_l20 _ _ _ _ _ _
      unfold wb_X12_ends_l20
      rw [if_neg (show ¬ (1507 : Int32) ≤ nI i from inle (a := 1507) hi (by omega))]
      have hi2 : nI i + (137 : Int32) = nI (137 + i) := by rw [show (137 : Int32) = nI 137 from rfl, nI_add, Nat.add_comm]
      rw [hi2]
      refine ⟨vp_in_nI (by omega) (by omega), vp_in_nI (by omega) (by omega), fun m6 h6 => ?_⟩
      rw [h6, clamp_nI (by omega), clamp_nI (by omega)]
      simpa using kk
    · rintro m14 rfl
      have e1 : (cpA m 429 429 137 0 1507).1 426 4 = nI 12 := by rw [cpA_get, if_neg (by omega), hb]
      rw [e1, show nI 12 - (1 : Int32) = nI 11 from rfl]
      exact ends_j (b := 11) (wI_same _ _ _ _) (by omega) (h2 rfl)
  · rw [if_neg (by rw [hb]; exact ine (i := 12) h12 (by omega) (by omega))]
    exact ends_j hb (by omega) (h1 (by omega))
theorem undo_l {m : Mm} {K : Int32 → Mm → Prop} {k56 : Mm → Prop} {b : Nat} (hb : m.1 426 4 = nI b) (hb2 : b < 12) (h : k56 (cpA m 429 427 (137 * b) 0 137)) : wp_X12_undo_l22 k56 K FU 0 m := by
  refine copy_loop (wp := fun n y m => wp_X12_undo_l22 k56 K n y m) (kx := k56) (src := 429) (dst := 427) (sO := 137 * b) (dO := 0) (N := 137) (by omega) (by decide) (fun n s hs => ?_) (fun n i s hi e kk => ?_) h
  · show wb_X12_undo_l22 _ _ _ _ _
    unfold wb_X12_undo_l22
    rw [if_pos (show (137 : Int32) ≤ nI 137 from ile (a := 137) (by omega) (by omega))]
    exact hs
  · show wb_X12_undo_l22 _ _ _ _ _
    unfold wb_X12_undo_l22
    rw [if_neg (show ¬ (137 : Int32) ≤ nI i from inle (a := 137) hi (by omega))]
    have hbs : s.1 426 4 = nI b := by rw [e, cpA_get, if_neg (by omega), hb]
    have hi2 : (137 : Int32) * s.1 426 4 + nI i = nI (137 * b + i) := by rw [hbs, show (137 : Int32) = nI 137 from rfl, nI_mul, nI_add]
    rw [hi2]
    refine ⟨vp_in_nI (by omega) (by omega), vp_in_nI hi (by omega), fun m6 h6 => ?_⟩
    rw [h6, clamp_nI (by omega), clamp_nI (by omega)]
    simpa using kk
theorem save_l {m : Mm} {K : Int32 → Mm → Prop} {k49 : Mm → Prop} {q : Nat} (hq : q < 2) (h : k49 (cpA m 427 430 0 (125 * q) 125)) : wp_X12_save_l20 k49 K (nI q) FU 0 m := by
  refine copy_loop (wp := fun n y m => wp_X12_save_l20 k49 K (nI q) n y m) (kx := k49) (src := 427) (dst := 430) (sO := 0) (dO := 125 * q) (N := 125) (by omega) (by decide) (fun n s hs => ?_) (fun n i s hi e kk => ?_) h
  · show wb_X12_save_l20 _ _ _ _ _ _
    unfold wb_X12_save_l20
    rw [if_pos (show (125 : Int32) ≤ nI 125 from ile (a := 125) (by omega) (by omega))]
    exact hs
  · show wb_X12_save_l20 _ _ _ _ _ _
    unfold wb_X12_save_l20
    rw [if_neg (show ¬ (125 : Int32) ≤ nI i from inle (a := 125) hi (by omega))]
    have hi2 : (125 : Int32) * nI q + nI i = nI (125 * q + i) := by rw [show (125 : Int32) = nI 125 from rfl, nI_mul, nI_add]
    rw [hi2]
    refine ⟨vp_in_nI (by omega) (by omega), vp_in_nI (by omega) (by omega), fun m6 h6 => ?_⟩
    rw [h6, clamp_nI (by omega), clamp_nI (by omega)]
    simpa using kk
theorem restore_l {m : Mm} {K : Int32 → Mm → Prop} {k58 : Mm → Prop} {q : Nat} (hq : q < 2) (h : k58 (cpA m 430 427 (125 * q) 0 125)) : wp_X12_restore_l29 k58 K (nI q) FU 0 m := by
  refine copy_loop (wp := fun n y m => wp_X12_restore_l29 k58 K (nI q) n y m) (kx := k58) (src := 430) (dst := 427) (sO := 125 * q) (dO := 0) (N := 125) (by omega) (by decide) (fun n s hs => ?_) (fun n i s hi e kk => ?_) h
  · show wb_X12_restore_l29 _ _ _ _ _ _
    unfold wb_X12_restore_l29
    rw [if_pos (show (125 : Int32) ≤ nI 125 from ile (a := 125) (by omega) (by omega))]
    exact hs
  · show wb_X12_restore_l29 _ _ _ _ _ _
    unfold wb_X12_restore_l29
    rw [if_neg (show ¬ (125 : Int32) ≤ nI i from inle (a := 125) hi (by omega))]
    have hi2 : (125 : Int32) * nI q + nI i = nI (125 * q + i) := by rw [show (125 : Int32) = nI 125 from rfl, nI_mul, nI_add]
    rw [hi2]
    refine ⟨vp_in_nI (by omega) (by omega), vp_in_nI (by omega) (by omega), fun m6 h6 => ?_⟩
    rw [h6, clamp_nI (by omega), clamp_nI (by omega)]
    simpa using kk
theorem load_l2 {m : Mm} {K : Int32 → Mm → Prop} {k27 : Mm → Prop} (h : k27 (cpA m 427 438 0 0 137)) : wp_X12_load_l2 k27 K FU 0 m := by
  refine copy_loop (wp := fun n y m => wp_X12_load_l2 k27 K n y m) (kx := k27) (src := 427) (dst := 438) (sO := 0) (dO := 0) (N := 137) (by omega) (by decide) (fun n s hs => ?_) (fun n i s hi e kk => ?_) h
  · show wb_X12_load_l2 _ _ _ _ _
    unfold wb_X12_load_l2
    rw [if_pos (show (137 : Int32) ≤ nI 137 from ile (a := 137) (by omega) (by omega))]
    exact hs
  · show wb_X12_load_l2 _ _ _ _ _
    unfold wb_X12_load_l2
    rw [if_neg (show ¬ (137 : Int32) ≤ nI i from inle (a := 137) hi (by omega))]
    refine ⟨vp_in_nI hi (by omega), fun m6 h6 => ?_⟩
    rw [h6, clamp_nI (by omega)]
    simpa using kk
theorem load_l95 {m : Mm} {K : Int32 → Mm → Prop} {k120 : Mm → Prop} (h : k120 (cpA m 438 427 0 0 137)) : wp_X12_load_l95 k120 K FU 0 m := by
  refine copy_loop (wp := fun n y m => wp_X12_load_l95 k120 K n y m) (kx := k120) (src := 438) (dst := 427) (sO := 0) (dO := 0) (N := 137) (by omega) (by decide) (fun n s hs => ?_) (fun n i s hi e kk => ?_) h
  · show wb_X12_load_l95 _ _ _ _ _
    unfold wb_X12_load_l95
    rw [if_pos (show (137 : Int32) ≤ nI 137 from ile (a := 137) (by omega) (by omega))]
    exact hs
  · show wb_X12_load_l95 _ _ _ _ _
    unfold wb_X12_load_l95
    rw [if_neg (show ¬ (137 : Int32) ≤ nI i from inle (a := 137) hi (by omega))]
    refine ⟨vp_in_nI hi (by omega), fun m6 h6 => ?_⟩
    rw [h6, clamp_nI (by omega)]
    simpa using kk
/-- slots [0, n) of a cell are zero -/
def zrA (m : Mm) (dst n : Nat) : Mm := (fun b j => if b = dst ∧ j < n then 0 else m.1 b j, m.2)
theorem zrA_get (m : Mm) (dst n b j : Nat) : (zrA m dst n).1 b j = if b = dst ∧ j < n then 0 else m.1 b j := rfl
theorem zrA_step (m : Mm) (dst i : Nat) : wI (zrA m dst i) dst i 0 = zrA m dst (i + 1) := by
  refine Mm_ext (fun b j => ?_) rfl
  rw [wI_get, zrA_get, zrA_get]
  by_cases hb : b = dst
  · subst hb
    rw [if_pos rfl]
    by_cases hj : j = i
    · rw [if_pos hj, if_pos ⟨rfl, by omega⟩]
    · rw [if_neg hj]
      by_cases hc : j < i
      · rw [if_pos ⟨rfl, hc⟩, if_pos ⟨rfl, by omega⟩]
      · rw [if_neg (by omega), if_neg (by omega)]
  · rw [if_neg hb, if_neg (fun q => hb q.1), if_neg (fun q => hb q.1)]
theorem clearDesign_ok {m : Mm} {K : Mm → Prop} (h : K (wI (wI (zrA m 427 125) 427 0 200) 427 1 200)) : wp_X12_clearDesign m K := by
  unfold wp_X12_clearDesign
  refine loop_i (W := fun n i m => wp_X12_clearDesign_l2 _ K n (nI i) m) (I := fun i m' => m' = zrA m 427 i) 125 ?_ ?_ FU 0 m (by omega) (FU_gt (by omega)) (Mm_ext (fun b j => by rw [zrA_get, if_neg (by omega)]) rfl)
  · intro n s e
    show wb_X12_clearDesign_l2 _ _ _ _ _
    unfold wb_X12_clearDesign_l2
    rw [if_pos (show (125 : Int32) ≤ nI 125 from ile (a := 125) (by omega) (by omega)), e]
    rintro m5 rfl m6 rfl
    exact h
  · intro n i s hi e kk
    show wb_X12_clearDesign_l2 _ _ _ _ _
    unfold wb_X12_clearDesign_l2
    rw [if_neg (show ¬ (125 : Int32) ≤ nI i from inle (a := 125) hi (by omega))]
    refine ⟨vp_in_nI (by omega) (by omega), fun m6 h6 => ?_⟩
    rw [nI_1]
    refine kk _ ?_
    rw [h6, clamp_nI (by omega), e, zrA_step]
