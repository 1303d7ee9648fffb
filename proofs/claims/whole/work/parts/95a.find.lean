/-! findings: one of them is kind, panel, side + 1 (or 0), other + 1 (or 0), amount -/
abbrev Fnd : Type := Nat × Nat × Nat × Nat × Nat
def cdI (c : Nat) : Int32 := if c = 0 then -9 else nI (c - 1)
def wg (g : Vc) (kd : Nat) : Nat := (g (129 + kd)).toNatClampNeg
def cst (g : Vc) (x : Fnd) : Nat := wg g x.1 * x.2.2.2.2
def lowN (x : Fnd) : Nat := 2048 * x.1 + 128 * x.2.1 + 16 * x.2.2.1 + x.2.2.2.1
def keyN (g : Vc) (x : Fnd) : Nat := 16384 * (1048576 - cst g x) + lowN x
def em (g : Vc) (kd p sc oc : Nat) (a : Int32) : List Fnd := if g (129 + kd) = 0 then [] else if a ≤ 0 then [] else [(kd, p, sc, oc, a.toNatClampNeg)]
def fdOk (g : Vc) (x : Fnd) : Prop := x.1 < 8 ∧ x.2.1 < 10 ∧ x.2.2.1 < 5 ∧ x.2.2.2.1 < 11 ∧ 0 < x.2.2.2.2 ∧ x.2.2.2.2 ≤ 90000 ∧ 0 < wg g x.1 ∧ wg g x.1 ≤ 9
def sumC (g : Vc) (l : List Fnd) : Nat := (l.map (cst g)).sum
def cFn (m : Mm) (g : Vc) (l : List Fnd) : Prop := m.1 264 0 = nI l.length ∧ m.2 264 1 = lN (sumC g l) ∧ ∀ i x, l[i]? = some x → m.2 395 i = lN (keyN g x)
def rFn (m : Mm) (g : Vc) (l : List Fnd) : Prop := m.1 426 27 = nI l.length ∧ ∀ i x, l[i]? = some x → m.1 447 (6 * i) = nI x.1 ∧ m.1 447 (6 * i + 1) = nI x.2.1 ∧ m.1 447 (6 * i + 2) = cdI x.2.2.1 ∧ m.1 447 (6 * i + 3) = cdI x.2.2.2.1 ∧ m.1 447 (6 * i + 4) = nI x.2.2.2.2 ∧ m.1 447 (6 * i + 5) = nI (cst g x)
theorem wg_e {g : Vc} (hl : Ll g) {kd : Nat} (hk : kd < 8) : g (129 + kd) = nI (wg g kd) ∧ wg g kd ≤ 9 := by
  obtain ⟨h1, h2⟩ := hl.2.2 kd hk
  obtain ⟨k, e, e2, e3⟩ := asN h1
  unfold wg
  rw [e3, e]
  exact ⟨rfl, by omega⟩
theorem em_mem {g : Vc} (hl : Ll g) {kd p sc oc : Nat} {a : Int32} (hk : kd < 8) (hp : p < 10) (hs : sc < 5) (ho : oc < 11) (ha : a.toInt ≤ 90000) : ∀ x ∈ em g kd p sc oc a, fdOk g x := by
  intro x hx
  unfold em at hx
  by_cases z1 : g (129 + kd) = 0
  · rw [if_pos z1] at hx; cases hx
  rw [if_neg z1] at hx
  by_cases z2 : a ≤ 0
  · rw [if_pos z2] at hx; cases hx
  rw [if_neg z2] at hx
  rw [List.mem_singleton] at hx
  subst hx
  have e0 : (0 : Int32).toInt = 0 := rfl
  rw [fa_le] at z2
  obtain ⟨k, e, e2, e3⟩ := asN (x := a) (by omega)
  obtain ⟨w1, w2⟩ := wg_e hl hk
  refine ⟨hk, hp, hs, ho, by show 0 < a.toNatClampNeg; omega, by show a.toNatClampNeg ≤ 90000; omega, ?_, w2⟩
  show 0 < wg g kd
  rcases Nat.eq_zero_or_pos (wg g kd) with z | z
  · rw [z] at w1; exact absurd w1 z1
  · exact z
theorem em_len (g : Vc) (kd p sc oc : Nat) (a : Int32) : (em g kd p sc oc a).length ≤ 1 := by
  unfold em
  split
  · exact Nat.zero_le _
  · split
    · exact Nat.zero_le _
    · exact Nat.le_refl _
theorem cdI_0 {c : Nat} (hc : c < 12) : (if cdI c = (-9 : Int32) then (0 : Int32) else cdI c + 1) = nI c := by
  unfold cdI
  by_cases z : c = 0
  · rw [if_pos z, if_pos rfl, z]; rfl
  · rw [if_neg z]
    have e9 : (-9 : Int32).toInt = -9 := rfl
    rw [if_neg (fun q => by have := congrArg Int32.toInt q; rw [nI_toInt (by omega)] at this; omega), nI_1]
    congr 1
    omega
theorem wide_nI {n : Nat} (h : n < 2 ^ 31) : (nI n).toInt64 = lN n := by
  rw [fa_eq64, Int32.toInt_toInt64, nI_toInt h, lN_toInt h]
theorem shl_c (s : Int32) (a k : Nat) (hs : (s.toBitVec.smod 32).toNat = k) (h : a * 2 ^ k < 2 ^ 32) : nI a <<< s = nI (2 ^ k * a) := by rw [pk_shlN s k hs h, Nat.mul_comm]
theorem low_eq {kd p sc oc : Nat} (hk : kd < 8) (hp : p < 10) (hs : sc < 5) (ho : oc < 11) : (((nI kd <<< ((11 : Int32) &&& 31)) ||| (nI p <<< ((7 : Int32) &&& 31))) ||| (nI sc <<< ((4 : Int32) &&& 31))) ||| nI oc = nI (2048 * kd + 128 * p + 16 * sc + oc) := by
  rw [shl_c _ kd 11 (by decide) (by omega), shl_c _ p 7 (by decide) (by omega), shl_c _ sc 4 (by decide) (by omega)]
  rw [fa_or_sum (k := 11) kd (by omega), show 2 ^ 11 * kd + 2 ^ 7 * p = 2 ^ 7 * (16 * kd + p) by omega, fa_or_sum (k := 7) _ (by omega), show 2 ^ 7 * (16 * kd + p) + 2 ^ 4 * sc = 2 ^ 4 * (8 * (16 * kd + p) + sc) by omega, fa_or_sum (k := 4) _ (by omega), show 2 ^ 4 * (8 * (16 * kd + p) + sc) + oc = 2048 * kd + 128 * p + 16 * sc + oc by omega]
theorem key_eq {c n : Nat} (hc : c ≤ 1048576) (hn : n < 16384) : (((1048576 : Int64) - lN c) <<< ((14 : Int32).toInt64 &&& 63)) ||| (nI n).toInt64 = lN (16384 * (1048576 - c) + n) := by
  rw [show (1048576 : Int64) = lN 1048576 from rfl, lN_sub hc, wide_nI (by omega)]
  have e : lN (1048576 - c) <<< ((14 : Int32).toInt64 &&& 63) = lN (2 ^ 14 * (1048576 - c)) := by
    have h0 := lN_toInt (n := 1048576 - c) (by omega)
    rw [fa_eq64, Jvm.Kit.i64_shl _ _ (k := 14) (by decide) (by rw [h0]; omega) (by rw [h0]; omega), h0]
    have : (lN (2 ^ 14 * (1048576 - c))).toInt = ((2 ^ 14 * (1048576 - c) : Nat) : Int) := lg_ofNat_toInt (by omega)
    rw [this]
    omega
  rw [e, fb_or_sumL (k := 14) _ (by omega)]
theorem sumC_snoc (g : Vc) (l : List Fnd) (x : Fnd) : sumC g (l ++ [x]) = sumC g l + cst g x := by
  unfold sumC
  rw [List.map_append, List.sum_append]
  simp
theorem wL_get (m : Mm) (a k : Nat) (x : Int64) (b j : Nat) : (wL m a k x).2 b j = if b = a then (if j = k then x else m.2 b j) else m.2 b j := rfl
def frK (m m2 : Mm) : Prop := ∀ b, b ≠ 264 → m2.1 b = m.1 b
theorem cadd2_ok {m : Mm} {g : Vc} {l : List Fnd} {kd p sc oc : Nat} {a : Int32} {x1 x3 x4 : Int32} {K : Mm → Prop} (hl : Ll g) (hw : m.1 266 kd = g (129 + kd)) (hF : cFn m g l) (hn : l.length < 1000) (hk : kd < 8) (hp : p < 10) (hs : sc < 5) (ho : oc < 11) (e1 : x1 = nI kd) (e3 : x3 = cdI sc) (e4 : x4 = cdI oc) (ha : a.toInt ≤ 90000)
    (kk : ∀ m2, cFn m2 g (l ++ em g kd p sc oc a) → frK m m2 → K m2) : wp_X4_add x1 (nI p) x3 x4 a m K := by
  subst e1
  subst e3
  subst e4
  obtain ⟨w1, w2⟩ := wg_e hl hk
  have ew : v_X4_weight (nI kd) m = nI (wg g kd) := by
    unfold v_X4_weight
    rw [if_neg (nI_pos (by omega)), if_neg (show ¬ (8 : Int32) ≤ nI kd from inle (a := 8) hk (by omega)), clamp_nI (by omega), hw, w1]
  unfold wp_X4_add
  rw [ew]
  rintro y1 rfl
  unfold em at kk
  have e0 : (0 : Int32).toInt = 0 := rfl
  have kno : (g (129 + kd) = 0 ∨ a ≤ 0) → K m := fun z => by
    refine kk m ?_ (fun _ _ => rfl)
    by_cases z1 : g (129 + kd) = 0
    · rw [if_pos z1, List.append_nil]; exact hF
    · rw [if_neg z1]
      rcases z with z | z
      · exact absurd z z1
      · rw [if_pos z, List.append_nil]; exact hF
  by_cases z2 : a ≤ 0
  · rw [if_pos z2]; exact kno (Or.inr z2)
  rw [if_neg z2]
  by_cases z1 : g (129 + kd) = 0
  · have : wg g kd = 0 := by unfold wg; rw [z1]; rfl
    rw [this, if_pos (show nI 0 ≤ (0 : Int32) from ile (i := 0) (by omega) (by omega))]
    exact kno (Or.inl z1)
  have wpos : 0 < wg g kd := by
    rcases Nat.eq_zero_or_pos (wg g kd) with z | z
    · rw [z] at w1; exact absurd w1 z1
    · exact z
  rw [if_neg (show ¬ nI (wg g kd) ≤ (0 : Int32) from inle (i := 0) (by omega) (by omega))]
  obtain ⟨h1, h2, h3⟩ := hF
  rw [h1, if_pos (show nI l.length < (1000 : Int32) from ilt (i := 1000) hn (by omega))]
  rw [if_neg z1, if_neg z2] at kk
  rw [fa_le] at z2
  obtain ⟨av, ea, ea2, ea3⟩ := asN (x := a) (by omega)
  rw [ea3] at kk
  rw [ea, wide_nI (show av < 2 ^ 31 by omega), wide_nI (show wg g kd < 2 ^ 31 by omega), lN_mul, cdI_0 (by omega), cdI_0 (by omega)]
  rintro y5 rfl y7 rfl y9 rfl
  refine ⟨vp_in_nI hn (by omega), ?_⟩
  have hc : wg g kd * av ≤ 9 * 90000 := Nat.mul_le_mul w2 (by omega)
  rw [clamp_nI (by omega), low_eq hk hp hs ho, key_eq (by omega) (by omega)]
  intro m11 h11 m12 h12 m13 h13
  have i13 : m13.1 = (wI m 264 0 (nI (l.length + 1))).1 := by
    rw [h13, wL_I, h12]
    have : m11.1 = m.1 := by rw [h11, wL_I]
    funext b j
    rw [wI_get, wI_get, this, h1, nI_1]
  have l12 : m12.2 = m11.2 := by rw [h12, wI_L]
  refine kk m13 ⟨?_, ?_, fun i x hi => ?_⟩ (fun b hb => by rw [i13]; funext j; rw [wI_ne _ _ _ _ hb])
  · rw [i13, wI_same, List.length_append]; rfl
  · rw [h13]
    have e11 : m12.2 264 1 = lN (sumC g l) := by
      rw [l12, h11, wL_get, if_neg (by omega), h2]
    rw [wL_get, if_pos rfl, if_pos rfl, e11, lN_add, sumC_snoc]
    rfl
  · have e395 : ∀ j, m13.2 395 j = if j = l.length then lN (keyN g (kd, p, sc, oc, av)) else m.2 395 j := fun j => by
      rw [h13, wL_get, if_neg (by omega), l12, h11, wL_get, if_pos rfl]
      rfl
    rw [e395]
    rcases snoc_get hi with ⟨z1, z2⟩ | ⟨z1, z2⟩
    · rw [if_neg (by omega)]; exact h3 i x z2
    · rw [if_pos z1, z2]
theorem rfinds_ok {m : Mm} {g : Vc} {l : List Fnd} {kd p sc oc : Nat} {a : Int32} {x1 x3 x4 : Int32} {K : Mm → Prop} (hl : Ll g) (hs' : stR m g) (hF : rFn m g l) (hn : l.length < 1600) (hk : kd < 8) (e1 : x1 = nI kd) (e3 : x3 = cdI sc) (e4 : x4 = cdI oc)
    (kk : ∀ m2, rFn m2 g (l ++ em g kd p sc oc a) → (∀ b j, b ≠ 447 → ¬ (b = 426 ∧ j = 27) → m2.1 b j = m.1 b j) → K m2) : wp_X12_finds x1 (nI p) x3 x4 a m K := by
  subst e1
  subst e3
  subst e4
  obtain ⟨w1, w2⟩ := wg_e hl hk
  have e0 : (0 : Int32).toInt = 0 := rfl
  unfold wp_X12_finds
  rw [show (129 : Int32) + nI kd = nI (129 + kd) from nI_add 129 kd, clamp_nI (by omega), hs' (129 + kd) (by omega)]
  refine ⟨vp_in_nI (by omega) (by omega), ?_⟩
  rintro y2 rfl
  unfold em at kk
  by_cases z1 : g (129 + kd) = 0
  · rw [if_pos z1]
    rw [if_pos z1, List.append_nil] at kk
    exact kk m hF (fun _ _ _ _ => rfl)
  rw [if_neg z1]
  rw [if_neg z1] at kk
  by_cases z2 : a ≤ 0
  · rw [if_pos z2, List.append_nil] at kk
    rw [fa_le] at z2
    rw [if_neg (by rw [fa_lt]; omega)]
    exact kk m hF (fun _ _ _ _ => rfl)
  rw [if_neg z2] at kk
  rw [fa_le] at z2
  rw [if_pos (by rw [fa_lt]; omega)]
  obtain ⟨av, ea, ea2, ea3⟩ := asN (x := a) (by omega)
  rw [ea3] at kk
  obtain ⟨h1, h2⟩ := hF
  rw [h1, show (6 : Int32) * nI l.length = nI (6 * l.length) from nI_mul 6 _]
  rintro y5 rfl
  have ev : ∀ k : Nat, k < 6 → vp_in (nI (6 * l.length + k)) 9600 := fun k hk => vp_in_nI (by omega) (by omega)
  have ec : ∀ k : Nat, k < 6 → (nI (6 * l.length + k)).toNatClampNeg = 6 * l.length + k := fun k hk => clamp_nI (by omega)
  rw [show nI (6 * l.length) + (1 : Int32) = nI (6 * l.length + 1) from nI_add _ 1, show nI (6 * l.length) + (2 : Int32) = nI (6 * l.length + 2) from nI_add _ 2, show nI (6 * l.length) + (3 : Int32) = nI (6 * l.length + 3) from nI_add _ 3, show nI (6 * l.length) + (4 : Int32) = nI (6 * l.length + 4) from nI_add _ 4, show nI (6 * l.length) + (5 : Int32) = nI (6 * l.length + 5) from nI_add _ 5,
    clamp_nI (show 6 * l.length < 2 ^ 31 by omega), ec 1 (by omega), ec 2 (by omega), ec 3 (by omega), ec 4 (by omega), ec 5 (by omega)]
  refine ⟨ev 0 (by omega), fun m7 h7 => ⟨ev 1 (by omega), fun m9 h9 => ⟨ev 2 (by omega), fun m11 h11 => ⟨ev 3 (by omega), fun m13 h13 => ⟨ev 4 (by omega), fun m15 h15 => ⟨ev 5 (by omega), fun m17 h17 m18 h18 => ?_⟩⟩⟩⟩⟩⟩
  rw [ea, w1, nI_mul] at h17
  rw [ea] at h15
  have f17 : ∀ b, b ≠ 447 → m17.1 b = m.1 b := fun b hb => by
    funext j
    rw [h17, h15, h13, h11, h9, h7]
    simp only [wI_ne _ _ _ _ hb]
  have e447 : ∀ j, m18.1 447 j = if j = 6 * l.length + 5 then nI (wg g kd * av) else if j = 6 * l.length + 4 then nI av else if j = 6 * l.length + 3 then cdI oc else if j = 6 * l.length + 2 then cdI sc else if j = 6 * l.length + 1 then nI p else if j = 6 * l.length then nI kd else m.1 447 j := fun j => by
    rw [h18, wI_ne _ _ _ _ (by omega), h17, wI_get, if_pos rfl, h15, wI_get, if_pos rfl, h13, wI_get, if_pos rfl, h11, wI_get, if_pos rfl, h9, wI_get, if_pos rfl, h7, wI_get, if_pos rfl]
  refine kk m18 ⟨?_, fun i x hi => ?_⟩ (fun b j hb1 hb2 => ?_)
  · rw [h18, wI_same, f17 426 (by omega), h1, List.length_append]; exact nI_1 _
  · rcases snoc_get hi with ⟨q1, q2⟩ | ⟨q1, q2⟩
    · have n : ∀ c, c < 6 → m18.1 447 (6 * i + c) = m.1 447 (6 * i + c) := fun c hc => by
        rw [e447]
        simp only [if_neg (show ¬ 6 * i + c = 6 * l.length + 5 by omega), if_neg (show ¬ 6 * i + c = 6 * l.length + 4 by omega), if_neg (show ¬ 6 * i + c = 6 * l.length + 3 by omega), if_neg (show ¬ 6 * i + c = 6 * l.length + 2 by omega), if_neg (show ¬ 6 * i + c = 6 * l.length + 1 by omega), if_neg (show ¬ 6 * i + c = 6 * l.length by omega)]
      rw [show m18.1 447 (6 * i) = m.1 447 (6 * i) from n 0 (by omega), n 1 (by omega), n 2 (by omega), n 3 (by omega), n 4 (by omega), n 5 (by omega)]
      exact h2 i x q2
    · subst q1
      subst q2
      simp only [e447]
      simp [cst]
  · rw [h18]
    by_cases w : b = 426
    · subst w
      rw [wI_nj _ _ _ _ (by omega), f17 426 (by omega)]
    · rw [wI_ne _ _ _ _ w, f17 b hb1]
