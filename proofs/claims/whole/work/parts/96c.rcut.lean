/-! the reference's cutLength -/
def onP (g : Vc) (o t e : Nat) (L c : Int) : Prop := t % 2 = e ∧ lnI g o t = L ∧ loI g e o ≤ c ∧ c < hiI g e o
theorem on_sd {g : Vc} (hD : Dd g) {o t e : Nat} {L c : Int} (ho : o < pn g) (he : e < 2) (hL : 0 ≤ L ∧ L ≤ 300) (hc : 0 ≤ c ∧ c < 300) : onP g o t e L c ↔ sdU g o t (cdU e L + c) := by
  constructor
  · rintro ⟨h1, h2, h3, h4⟩
    exact ⟨c, by rw [h1]; exact h3, by rw [h1]; exact h4, by rw [h1, h2]⟩
  · rintro ⟨d, d1, d2, d3⟩
    obtain ⟨b1, b2, b3, -⟩ := lo_rng hD ho (t % 2)
    obtain ⟨e1, e2, e3⟩ := cdU_inj he (show t % 2 < 2 by omega) hL (ln_rng hD ho t) hc ⟨by omega, by omega⟩ d3
    exact ⟨e1.symm, e2.symm, by rw [e1, e3]; exact d1, by rw [e1, e3]; exact d2⟩
def lvI (e : Nat) : Int32 := if e = 0 then 1 else 0
def ptx (e : Nat) (L c x y : Int) : Prop := (e = 0 → x = c ∧ y = L) ∧ (¬ e = 0 → x = L ∧ y = c)
theorem on_r {m : Mm} {g : Vc} {o t e : Nat} {L c : Int} {x y : Int32} (hD : Dd g) (hf : flatR m g (pn g)) (ho : o < pn g) (ht : t < 4) (he : e < 2) (hx : ptx e L c x.toInt y.toInt) : flag (v_X12_isOn (nI o) (nI t) (lvI e) x y m) (onP g o t e L c) ∧ s_X12_isOn (nI o) (nI t) (lvI e) x y m := by
  have hp1 := hD.ple
  obtain ⟨f1, f2, f3, f4⟩ := hf o ho
  have vi : vp_in (nI o) 10 := vp_in_nI (by omega) (by omega)
  refine ⟨?_, fun _ => ⟨fun _ => ⟨vi, fun _ => vi⟩, fun _ => ⟨vi, fun _ => vi⟩⟩⟩
  obtain ⟨-, -, -, h20⟩ := lo_rng hD ho 0
  obtain ⟨-, -, -, h21⟩ := lo_rng hD ho 1
  have n10 : ¬ (1 : Int32) = 0 := by decide
  have n01 : ¬ (0 : Int32) = 1 := by decide
  have sX : (v_X12_sideX (nI o) (nI t) m) = if t = 1 then hi2 g 0 o else lo2 g 0 o := by
    unfold v_X12_sideX hi2 lo2
    rw [clamp_nI (by omega), f1, f3, show (1 : Int32) = nI 1 from rfl, if_nI (by omega) (by omega), if_pos rfl, if_pos rfl]
  have sY : (v_X12_sideY (nI o) (nI t) m) = if t = 2 then hi2 g 1 o else lo2 g 1 o := by
    unfold v_X12_sideY hi2 lo2
    rw [clamp_nI (by omega), f2, f4, show (2 : Int32) = nI 2 from rfl, if_nI (by omega) (by omega), if_neg (show ¬ (1 : Nat) = 0 by decide), if_neg (show ¬ (1 : Nat) = 0 by decide)]
  unfold v_X12_isOn
  rw [sX, sY, clamp_nI (by omega), f1, f2, f3, f4, show rm32 (nI t) 2 = nI (t % 2) from rm32_nI (d := 2) (by omega) (by omega) (by omega)]
  have elv : ((if nI (t % 2) = (0 : Int32) then (1 : Int32) else 0) = lvI e) ↔ t % 2 = e := by
    unfold lvI
    by_cases z : t % 2 = 0
    · rw [z, if_pos (show nI 0 = (0 : Int32) from rfl)]
      by_cases q : e = 0
      · rw [if_pos q]; exact ⟨fun _ => q.symm, fun _ => rfl⟩
      · rw [if_neg q]; exact ⟨fun w => absurd w n10, fun w => absurd w.symm q⟩
    · rw [if_neg (show ¬ nI (t % 2) = (0 : Int32) from ine (i := 0) z (by omega) (by omega))]
      by_cases q : e = 0
      · rw [if_pos q]; exact ⟨fun w => absurd w n01, fun w => absurd (w.trans q) z⟩
      · rw [if_neg q]; exact ⟨fun _ => by omega, fun _ => rfl⟩
  by_cases z : t % 2 = e
  · rw [if_pos (elv.mpr z)]
    unfold onP
    by_cases q : e = 0
    · obtain ⟨x1, x2⟩ := hx.1 q
      have e1 : lvI e = 1 := by unfold lvI; rw [if_pos q]
      have el : lnI g o t = (if t = 2 then hi2 g 1 o else lo2 g 1 o).toInt := by
        unfold lnI
        have : t = 0 ∨ t = 2 := by omega
        rcases this with w | w <;> subst w <;> rfl
      have ew : ((rect g o).1 + (rect g o).2.2.1).toInt = hiI g e o := by rw [q]; rfl
      have ex : (rect g o).1.toInt = loI g e o := by rw [q]; rfl
      rw [e1, if_neg n10]
      by_cases w1 : (if t = 2 then hi2 g 1 o else lo2 g 1 o) = y
      · rw [if_pos w1]
        have w1' : lnI g o t = L := by rw [el, w1, x2]
        by_cases w2 : x < (rect g o).1
        · rw [if_pos w2]; rw [fa_lt] at w2; exact Or.inr ⟨rfl, fun h => by omega⟩
        · rw [if_neg w2]
          rw [fa_lt] at w2
          by_cases w3 : (rect g o).1 + (rect g o).2.2.1 ≤ x
          · rw [if_pos w3]; rw [fa_le] at w3; exact Or.inr ⟨rfl, fun h => by omega⟩
          · rw [if_neg w3]; rw [fa_le] at w3; exact Or.inl ⟨rfl, z, w1', by omega, by omega⟩
      · rw [if_neg w1]
        exact Or.inr ⟨rfl, fun h => w1 (by rw [fa_eq, ← el, h.2.1, x2])⟩
    · obtain ⟨x1, x2⟩ := hx.2 q
      have e1 : lvI e = 0 := by unfold lvI; rw [if_neg q]
      have e11 : e = 1 := by omega
      have el : lnI g o t = (if t = 1 then hi2 g 0 o else lo2 g 0 o).toInt := by
        unfold lnI
        have : t = 1 ∨ t = 3 := by omega
        rcases this with w | w <;> subst w <;> rfl
      have ew : ((rect g o).2.1 + (rect g o).2.2.2).toInt = hiI g e o := by rw [e11]; rfl
      have ex : (rect g o).2.1.toInt = loI g e o := by rw [e11]; rfl
      rw [e1, if_pos rfl]
      by_cases w1 : (if t = 1 then hi2 g 0 o else lo2 g 0 o) = x
      · rw [if_pos w1]
        have w1' : lnI g o t = L := by rw [el, w1, x1]
        by_cases w2 : y < (rect g o).2.1
        · rw [if_pos w2]; rw [fa_lt] at w2; exact Or.inr ⟨rfl, fun h => by omega⟩
        · rw [if_neg w2]
          rw [fa_lt] at w2
          by_cases w3 : (rect g o).2.1 + (rect g o).2.2.2 ≤ y
          · rw [if_pos w3]; rw [fa_le] at w3; exact Or.inr ⟨rfl, fun h => by omega⟩
          · rw [if_neg w3]; rw [fa_le] at w3; exact Or.inl ⟨rfl, z, w1', by omega, by omega⟩
      · rw [if_neg w1]
        exact Or.inr ⟨rfl, fun h => w1 (by rw [fa_eq, ← el, h.2.1, x1])⟩
  · rw [if_neg (fun q => z (elv.mp q))]
    exact Or.inr ⟨rfl, fun h => z h.1⟩
theorem or_step {y r : Int32} {p q : Prop} (hy : flag y p) (hr : flag r q) : flag (if y = 0 then (if r = 0 then 0 else 1) else 1) (p ∨ q) := by
  rcases hy with ⟨a, b⟩ | ⟨a, b⟩
  · rw [if_neg (by rw [a]; decide)]; exact Or.inl ⟨rfl, Or.inl b⟩
  · rw [if_pos a]
    rcases hr with ⟨c, d⟩ | ⟨c, d⟩
    · rw [if_neg (by rw [c]; decide)]; exact Or.inl ⟨rfl, Or.inr d⟩
    · rw [if_pos c]; exact Or.inr ⟨rfl, by rintro (w | w); exact b w; exact d w⟩
theorem risfold_ok {m : Mm} {g : Vc} {e : Nat} {L c : Int} {x y : Int32} {K : Int32 → Mm → Prop} (hD : Dd g) (hs : stR m g) (hf : flatR m g (pn g)) (he : e < 2) (hx : ptx e L c x.toInt y.toInt) (kk : ∀ r, flag r (∃ j, 1 ≤ j ∧ j < pn g ∧ onP g j (nearN g j) e L c) → K r m) : wp_X12_isFold (lvI e) x y m K := by
  have hp1 := hD.ple
  unfold wp_X12_isFold
  refine loop_a (wp := fun n i (q : Int32) => wp_X12_isFold_l6 K (lvI e) x y n q i m) (I := fun i q => flag q (∃ j, 1 ≤ j ∧ j < i ∧ j < pn g ∧ onP g j (nearN g j) e L c)) (a := 1) (N := pn g) (by omega) (by omega) ?_ ?_ (s0 := 0) (Or.inr ⟨rfl, by rintro ⟨j, h1, h2, -⟩; omega⟩)
  · intro n i q h1 h2 h3
    show wb_X12_isFold_l6 _ _ _ _ _ _ _ _
    unfold wb_X12_isFold_l6
    rw [many_ok hs hD.g2, if_pos (ile h1 (by omega))]
    refine ⟨flag_bo h3, kk q (flag_iff h3 ⟨?_, ?_⟩)⟩
    · rintro ⟨j, j1, j2, j3, j4⟩; exact ⟨j, j1, j3, j4⟩
    · rintro ⟨j, j1, j2, j3⟩; exact ⟨j, j1, by omega, j2, j3⟩
  · intro n i q h1 h2 h3 k2
    show wb_X12_isFold_l6 _ _ _ _ _ _ _ _
    unfold wb_X12_isFold_l6
    obtain ⟨-, ⟨t, ht, et⟩⟩ := hD.r.par.2.2 i (by omega) h2
    have en : rm32 (pf g i 1 + 2) 4 = nI (nearN g i) := by
      unfold nearN
      rw [et, clamp_nI (by omega), show nI t + (2 : Int32) = nI (t + 2) from nI_add t 2]
      exact rm32_nI (d := 4) (by omega) (by omega) (by omega)
    obtain ⟨o1, o2⟩ := on_r hD hf h2 (nearN_lt g i) he hx
    rw [many_ok hs hD.g2, if_neg (inle h2 (by omega)), of1 hs (by omega), en]
    refine ⟨fun _ => ⟨sof1 (by omega), o2⟩, ?_⟩
    rintro y8 rfl
    refine k2 _ (flag_iff (or_step h3 o1) ⟨?_, ?_⟩)
    · rintro (⟨j, j1, j2, j3⟩ | h)
      · exact ⟨j, j1, by omega, j3⟩
      · exact ⟨i, h1, by omega, h2, h⟩
    · rintro ⟨j, j1, j2, j3, j4⟩
      by_cases z : j = i
      · subst z; exact Or.inr j4
      · exact Or.inl ⟨j, j1, by omega, j3, j4⟩
theorem rcounted_ok {m : Mm} {g : Vc} {e k s : Nat} {L c : Int} {x y : Int32} {K : Int32 → Mm → Prop} (hD : Dd g) (hf : flatR m g (pn g)) (hk : k < pn g) (hs : s < 4) (he : e < 2) (hx : ptx e L c x.toInt y.toInt) (kk : ∀ r, flag r (∃ o t, o < k + 1 ∧ t < (if o < k then 4 else s) ∧ onP g o t e L c) → K r m) : wp_X12_isCounted (nI k) (nI s) (lvI e) x y m K := by
  have hp1 := hD.ple
  unfold wp_X12_isCounted
  refine loop_i (W := fun n o (q : Int32) => wp_X12_isCounted_l6 K (nI k) (nI s) (lvI e) x y n q (nI o) m) (I := fun i q => flag q (∃ o t, o < i ∧ t < (if o < k then 4 else s) ∧ onP g o t e L c)) (k + 1) ?_ ?_ FU 0 0 (by omega) (FU_gt (by omega)) (Or.inr ⟨rfl, by rintro ⟨o, t, h, -⟩; omega⟩)
  · intro n q h3
    show wb_X12_isCounted_l6 _ _ _ _ _ _ _ _ _ _
    unfold wb_X12_isCounted_l6
    rw [if_pos (ilt (by omega) (by omega))]
    exact ⟨flag_bo h3, kk q h3⟩
  · intro n o q ho h3 k2
    show wb_X12_isCounted_l6 _ _ _ _ _ _ _ _ _ _
    unfold wb_X12_isCounted_l6
    rw [if_neg (inlt (by omega) (by omega))]
    refine loop_i (W := fun n2 t (q : Int32) => wp_X12_isCounted_l15 (fun a b c => wp_X12_isCounted_l6 K (nI k) (nI s) (lvI e) x y n a b c) K (nI k) (nI s) (lvI e) x y (nI o) n2 q (nI t) m) (I := fun t q => flag q ((∃ o' t', o' < o ∧ t' < (if o' < k then 4 else s) ∧ onP g o' t' e L c) ∨ ∃ t', t' < t ∧ onP g o t' e L c)) (if o < k then 4 else s) ?_ ?_ FU 0 q (by omega) (FU_gt (by split <;> omega)) (flag_iff h3 ⟨fun w => Or.inl w, fun w => by rcases w with w | ⟨t', w, -⟩; exact w; omega⟩)
    · intro n2 q2 h4
      show wb_X12_isCounted_l15 _ _ _ _ _ _ _ _ _ _ _ _
      unfold wb_X12_isCounted_l15
      have ey : (if nI k ≤ nI o then nI s else (4 : Int32)) = nI (if o < k then 4 else s) := by
        by_cases z : o < k
        · rw [if_neg (inle z (by omega)), if_pos z]; rfl
        · rw [if_pos (ile (by omega) (by omega)), if_neg z]
      rw [ey]
      rintro y4 rfl
      rw [if_pos (ile (Nat.le_refl _) (by split <;> omega)), nI_1]
      refine k2 q2 (flag_iff h4 ⟨?_, ?_⟩)
      · rintro (⟨o', t', a, b⟩ | ⟨t', a, b⟩)
        · exact ⟨o', t', by omega, b⟩
        · exact ⟨o, t', by omega, a, b⟩
      · rintro ⟨o', t', a, b, w⟩
        by_cases z : o' = o
        · subst z; exact Or.inr ⟨t', b, w⟩
        · exact Or.inl ⟨o', t', by omega, b, w⟩
    · intro n2 t q2 ht h4 k3
      show wb_X12_isCounted_l15 _ _ _ _ _ _ _ _ _ _ _ _
      unfold wb_X12_isCounted_l15
      have ht4 : t < 4 := by split at ht <;> omega
      have ey : (if nI k ≤ nI o then nI s else (4 : Int32)) = nI (if o < k then 4 else s) := by
        by_cases z : o < k
        · rw [if_neg (inle z (by omega)), if_pos z]; rfl
        · rw [if_pos (ile (by omega) (by omega)), if_neg z]
      rw [ey]
      rintro y4 rfl
      obtain ⟨o1, o2⟩ := on_r hD hf (show o < pn g by omega) ht4 he hx
      rw [if_neg (inle ht (by split <;> omega)), nI_1]
      refine ⟨fun _ => o2, ?_⟩
      rintro y10 rfl
      refine k3 _ (flag_iff (or_step h4 o1) ⟨?_, ?_⟩)
      · rintro ((h | ⟨t', a, b⟩) | h)
        · exact Or.inl h
        · exact Or.inr ⟨t', by omega, b⟩
        · exact Or.inr ⟨t, by omega, h⟩
      · rintro (h | ⟨t', a, b⟩)
        · exact Or.inl (Or.inl h)
        · by_cases z : t' = t
          · subst z; exact Or.inr b
          · exact Or.inl (Or.inr ⟨t', by omega, b⟩)
noncomputable def xRef (g : Vc) (k s : Nat) : Nat := un (fun u => sdU g k s u ∧ (¬ allU g k u ∧ ¬ fldU g u)) 0 UM
theorem xCutL_s {g : Vc} (hD : Dd g) {k : Nat} (hk : k < pn g) : xCutL g (k + 1) = xCutL g k + fb_sm (fun s => xRef g k s) 4 := add_sides hD hk (fun u => ¬ fldU g u)
theorem xCutL_0 (g : Vc) : xCutL g 0 = 0 := un_none (fun u _ _ => by rintro ⟨⟨k, s, hk, -⟩, -⟩; omega)
theorem cnP_un (P : Int → Prop) (a : Int) {n : Nat} : cnP P a n = un P a (a + n) := by unfold un; rw [show (a + (n : Int) - a).toNat = n by omega]
theorem rcut_ok {m : Mm} {g : Vc} {K : Int32 → Mm → Prop} (hD : Dd g) (hs : stR m g) (kk : ∀ m2, fr 432 436 m m2 → K (nI (xCutL g (pn g))) m2) : wp_X12_cutLength m K := by
  have hp1 := hD.ple
  unfold wp_X12_cutLength
  refine layFlat_ok hs hD.r.par (fun m1 hf f1 => ?_)
  have s1 : stR m1 g := stR_fr hs f1 (by omega)
  refine loop_i (W := fun n k (q : Int32) => wp_X12_cutLength_l8 K n q (nI k) m1) (I := fun k q => q = nI (xCutL g k)) (pn g) ?_ ?_ FU 0 0 (by omega) (FU_gt (by omega)) (by show (0 : Int32) = nI (xCutL g 0); rw [xCutL_0]; rfl)
  · rintro n q rfl
    show wb_X12_cutLength_l8 _ _ _ _ _
    unfold wb_X12_cutLength_l8
    rw [many_ok s1 hD.g2, if_pos (ile (Nat.le_refl _) (by omega))]
    exact kk m1 f1
  · rintro n k q hk rfl k2
    show wb_X12_cutLength_l8 _ _ _ _ _
    unfold wb_X12_cutLength_l8
    rw [many_ok s1 hD.g2, if_neg (inle hk (by omega))]
    obtain ⟨g1, g2, g3, g4⟩ := hf k hk
    refine loop_i (W := fun n2 s (q : Int32) => wp_X12_cutLength_l18 (fun a b c => wp_X12_cutLength_l8 K n a b c) K (nI k) n2 q (nI s) m1) (I := fun s q => q = nI (xCutL g k + fb_sm (fun t => xRef g k t) s)) 4 ?_ ?_ FU 0 (nI (xCutL g k)) (by omega) (FU_gt (by omega)) (by show nI (xCutL g k) = nI (xCutL g k + 0); rw [Nat.add_zero])
    · rintro n2 q rfl
      show wb_X12_cutLength_l18 _ _ _ _ _ _ _
      unfold wb_X12_cutLength_l18
      rw [if_pos (show (4 : Int32) ≤ nI 4 from ile (a := 4) (by omega) (by omega)), nI_1]
      exact k2 _ (by rw [xCutL_s hD hk])
    · rintro n2 s q hs4 rfl k3
      show wb_X12_cutLength_l18 _ _ _ _ _ _ _
      unfold wb_X12_cutLength_l18
      rw [if_neg (show ¬ (4 : Int32) ≤ nI s from inle (a := 4) hs4 (by omega)), show rm32 (nI s) 2 = nI (s % 2) from rm32_nI (d := 2) (by omega) (by omega) (by omega)]
      have he : s % 2 < 2 := by omega
      have elv : (if nI (s % 2) = (0 : Int32) then (1 : Int32) else 0) = lvI (s % 2) := by
        unfold lvI
        by_cases z : s % 2 = 0
        · rw [if_pos z, z, if_pos (show nI 0 = (0 : Int32) from rfl)]
        · rw [if_neg z, if_neg (show ¬ nI (s % 2) = (0 : Int32) from ine (i := 0) z (by omega) (by omega))]
      rw [elv]
      rintro y5 rfl
      obtain ⟨a1, a2, a3, ah⟩ := lo_rng hD hk (s % 2)
      obtain ⟨L1, L2⟩ := ln_rng hD hk s
      obtain ⟨sl1, sl2⟩ := sdL_e (s := s) hD.r hk
      have hlen : (sdL g k s : Int) = hiI g (s % 2) k - loI g (s % 2) k := by
        have := congrArg Int32.toInt sl1
        rw [nI_toInt (by omega)] at this
        rw [← this]
        unfold hiI loI
        rw [ah]
        unfold lo2
        by_cases z : s % 2 = 0
        · rw [if_pos z, if_pos z, if_pos z]; omega
        · rw [if_neg z, if_neg z, if_neg z]; omega
      have hsl : v_X12_sideLength (nI k) (nI s) m1 = nI (sdL g k s) := by
        unfold v_X12_sideLength
        rw [clamp_nI (by omega), g3, g4, show rm32 (nI s) 2 = nI (s % 2) from rm32_nI (d := 2) (by omega) (by omega) (by omega), ← sl1]
        by_cases z : s % 2 = 0
        · rw [if_pos z, z, if_pos (show nI 0 = (0 : Int32) from rfl)]
        · rw [if_neg z, if_neg (show ¬ nI (s % 2) = (0 : Int32) from ine (i := 0) z (by omega) (by omega))]
      have vi : vp_in (nI k) 10 := vp_in_nI (by omega) (by omega)
      have sX : (v_X12_sideX (nI k) (nI s) m1) = if s = 1 then hi2 g 0 k else lo2 g 0 k := by
        unfold v_X12_sideX hi2 lo2
        rw [clamp_nI (by omega), g1, g3, show (1 : Int32) = nI 1 from rfl, if_nI (by omega) (by omega), if_pos rfl, if_pos rfl]
      have sY : (v_X12_sideY (nI k) (nI s) m1) = if s = 2 then hi2 g 1 k else lo2 g 1 k := by
        unfold v_X12_sideY hi2 lo2
        rw [clamp_nI (by omega), g2, g4, show (2 : Int32) = nI 2 from rfl, if_nI (by omega) (by omega), if_neg (show ¬ (1 : Nat) = 0 by decide), if_neg (show ¬ (1 : Nat) = 0 by decide)]
      refine loop_i (W := fun n3 t (q : Int32) => wp_X12_cutLength_l39 (fun a b c => wp_X12_cutLength_l18 (fun a b c => wp_X12_cutLength_l8 K n a b c) K (nI k) n2 a b c) K (nI k) (nI s) (lvI (s % 2)) n3 q (nI t) m1) (I := fun t q => q = nI (xCutL g k + fb_sm (fun t => xRef g k t) s + cnP (fun c => ¬ allU g k (cdU (s % 2) (lnI g k s) + c) ∧ ¬ fldU g (cdU (s % 2) (lnI g k s) + c)) (loI g (s % 2) k) t)) (sdL g k s) ?_ ?_ FU 0 (nI (xCutL g k + fb_sm (fun t => xRef g k t) s)) (by omega) (FU_gt (by omega)) (by show nI (xCutL g k + fb_sm (fun t => xRef g k t) s) = nI (xCutL g k + fb_sm (fun t => xRef g k t) s + 0); rw [Nat.add_zero])
      · rintro n3 q rfl
        show wb_X12_cutLength_l39 _ _ _ _ _ _ _ _ _
        unfold wb_X12_cutLength_l39
        rw [hsl, if_pos (ile (Nat.le_refl _) (by omega)), nI_1]
        refine ⟨vi, k3 _ ?_⟩
        rw [fb_sm_succ, cnP_un, show loI g (s % 2) k + (sdL g k s : Int) = hiI g (s % 2) k by omega, ← side_un hD hk (fun u => ¬ allU g k u ∧ ¬ fldU g u), Nat.add_assoc]
        rfl
      · rintro n3 t q ht rfl k4
        show wb_X12_cutLength_l39 _ _ _ _ _ _ _ _ _
        unfold wb_X12_cutLength_l39
        rw [hsl, if_neg (inle ht (by omega)), sX, sY]
        refine ⟨vi, vi, ?_⟩
        rintro y10 h10 y11 h11
        refine ⟨vi, ?_⟩
        rintro y14 h14 y15 h15
        have hx : ptx (s % 2) (lnI g k s) (loI g (s % 2) k + t) y11.toInt y15.toInt := by
          have tI : (nI t).toInt = t := nI_toInt (by omega)
          obtain ⟨-, b2, b3, -⟩ := lo_rng hD hk 0
          obtain ⟨-, d2, d3, -⟩ := lo_rng hD hk 1
          simp only [loI, hiI] at b2 b3 d2 d3
          obtain ⟨b1, -⟩ := lo_rng hD hk 0
          obtain ⟨d1, -⟩ := lo_rng hD hk 1
          simp only [loI] at b1 d1
          unfold ptx
          constructor
          · intro z
            have l1 : ¬ lvI (s % 2) = 0 := by unfold lvI; rw [if_pos z]; decide
            rw [if_neg l1] at h10 h14
            have : s = 0 ∨ s = 2 := by omega
            constructor
            · rw [h11, h10, if_neg (by omega), fb_addI (by omega) (by omega), tI, z]; rfl
            · rw [h15, h14, Int32.add_zero]
              unfold lnI
              rcases this with w | w <;> subst w <;> rfl
          · intro z
            have l1 : lvI (s % 2) = 0 := by unfold lvI; rw [if_neg z]
            rw [if_pos l1] at h10 h14
            have : s = 1 ∨ s = 3 := by omega
            constructor
            · rw [h11, h10, Int32.add_zero]
              unfold lnI
              rcases this with w | w <;> subst w <;> rfl
            · rw [h15, h14, if_neg (by omega), fb_addI (by omega) (by omega), tI, show s % 2 = 1 by omega]; rfl
        have hc : 0 ≤ loI g (s % 2) k + t ∧ loI g (s % 2) k + t < 300 := by omega
        have hfo : (∃ j, 1 ≤ j ∧ j < pn g ∧ onP g j (nearN g j) (s % 2) (lnI g k s) (loI g (s % 2) k + t)) ↔ fldU g (cdU (s % 2) (lnI g k s) + (loI g (s % 2) k + t)) := by
          constructor
          · rintro ⟨j, j1, j2, j3⟩; exact ⟨j, j1, j2, (on_sd hD j2 he ⟨L1, L2⟩ hc).mp j3⟩
          · rintro ⟨j, j1, j2, j3⟩; exact ⟨j, j1, j2, (on_sd hD j2 he ⟨L1, L2⟩ hc).mpr j3⟩
        have hct : (∃ o t', o < k + 1 ∧ t' < (if o < k then 4 else s) ∧ onP g o t' (s % 2) (lnI g k s) (loI g (s % 2) k + t)) ↔ allU g k (cdU (s % 2) (lnI g k s) + (loI g (s % 2) k + t)) := by
          constructor
          · rintro ⟨o, t', o1, o2, o3⟩
            have h := (on_sd hD (show o < pn g by omega) he ⟨L1, L2⟩ hc).mp o3
            by_cases z : o < k
            · rw [if_pos z] at o2; exact ⟨o, t', z, o2, h⟩
            · rw [if_neg z] at o2
              have eo : o = k := by omega
              subst eo
              exact absurd ⟨h, ⟨_, by omega, by omega, rfl⟩⟩ (sd_apart hD hk (show t' < 4 by omega) hs4 (by omega) _)
          · rintro ⟨o, t', o1, o2, o3⟩
            exact ⟨o, t', by omega, by rw [if_pos o1]; exact o2, (on_sd hD (show o < pn g by omega) he ⟨L1, L2⟩ hc).mpr o3⟩
        rw [nI_1 t]
        refine risfold_ok hD s1 hf he hx (fun r hr => ?_)
        show (if _ then _ else _)
        rcases flag_iff hr hfo with ⟨u1, u2⟩ | ⟨u1, u2⟩
        · rw [if_neg (by rw [u1]; decide)]
          unfold wp_X12_cutLength_j119 wp_X12_cutLength_j124
          rintro y19 rfl
          rw [nI_1 t]
          refine k4 _ ?_
          rw [cnP_s0 (fun w => w.2 u2), Int32.add_zero]
        · rw [if_pos u1]
          refine rcounted_ok hD hf hk hs4 he hx (fun r2 hr2 => ?_)
          rintro y23 h23 y24 rfl
          refine k4 _ ?_
          rcases flag_iff hr2 hct with ⟨v1, v2⟩ | ⟨v1, v2⟩
          · rw [if_neg (by rw [v1]; decide)] at h23
            rw [h23, cnP_s0 (fun w => w.1 v2), Int32.add_zero]
          · rw [if_pos v1] at h23
            rw [h23, cnP_s1 ⟨v2, u2⟩, nI_1, Nat.add_assoc]
theorem op_cutLength {m : Mm} {S : AS} {P : Int32 → Int32 → Mm → Prop} (h : Sim m S) (kk : ∀ r m2 S2, Sim m2 S2 → P r r m2) : wp_X11_cutLength m (fun r m1 => wp_X12_cutLength m1 (fun r2 m2 => P r r2 m2)) := by
  have hI := h.2.2
  have hC := h.2.1
  refine combine (c := wp_X11_cutLength m) (d := wp_X12_cutLength) (r := nI (xCutL (sg S) (pn (sg S)))) (S2 := S) h (fun K k1 => ?_) (fun m1 K hR k1 => ?_) hI kk
  · unfold wp_X11_cutLength
    refine ccuts_ok hI.1 hC.1 (fun m2 f => ?_)
    exact k1 _ (ClsR_congr hI hC (fun b hb => f b (by unfold ccell at hb; omega))) (fun b hb => f b (by omega))
  · refine rcut_ok hI.1 hR.st (fun m2 f => ?_)
    exact k1 _ (RefR_fr hR f (f 436 (by omega))) (fun b hb => f b (by omega))
