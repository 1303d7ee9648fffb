/-! images on panels, read from the row: imageAt, reach; flat, creaseLength -/
def imw (g : Vc) (k : Nat) : Int32 := if pf g k 7 = -9 then 0 else g (3 + 2 * (pf g k 7).toNatClampNeg)
def imh (g : Vc) (k : Nat) : Int32 := if pf g k 7 = -9 then 0 else g (4 + 2 * (pf g k 7).toNatClampNeg)
def aU (g : Vc) (k : Nat) (x y : Int32) : Int32 := v_X0_originalU (pf g k 8) (imw g k) (x - pf g k 9) (y - pf g k 10)
def aV (g : Vc) (k : Nat) (x y : Int32) : Int32 := v_X0_originalV (pf g k 8) (imh g k) (x - pf g k 9) (y - pf g k 10)
def tw (g : Vc) (k : Nat) : Int32 := if pf g k 8 &&& 1 = 0 then imw g k else imh g k
def th (g : Vc) (k : Nat) : Int32 := if pf g k 8 &&& 1 = 0 then imh g k else imw g k
def aShow (g : Vc) (k : Nat) : Int32 := if pf g k 7 = -9 then 0 else if (rect g k).2.2.1 ≤ pf g k 9 then 0 else if (rect g k).2.2.2 ≤ pf g k 10 then 0 else if pf g k 9 + tw g k ≤ 0 then 0 else if pf g k 10 + th g k ≤ 0 then 0 else 1
def aFar (g : Vc) (k : Nat) (x : Int32) : Int32 := if x = 0 then -pf g k 10 else if x = 1 then pf g k 9 + tw g k - (rect g k).2.2.1 else if x = 2 then pf g k 10 + th g k - (rect g k).2.2.2 else -pf g k 9
def aReach (g : Vc) (k : Nat) (x : Int32) : Int32 := if aShow g k = 0 then -9 else if aFar g k x < 0 then -9 else aFar g k x
theorem img_i {g : Vc} (hr : rngD g) {k : Nat} (hk : k < pn g) (h : ¬ pf g k 7 = -9) : ∃ i, i < 4 ∧ pf g k 7 = nI i ∧ ¬ g (3 + 2 * i) = 0 := by
  rcases (hr.2.2.2.2.2.1 k hk).2.1 with z | z
  · exact absurd z h
  · exact z
theorem c_iw {d k : Nat} {m : Mm} {g : Vc} (hr : rngD g) (hd : desR m.1 d g) (hk : k < pn g) : v_X3_imageWidthOf d (pf g k 7) m = imw g k := by
  unfold v_X3_imageWidthOf imw
  by_cases h : pf g k 7 = -9
  · rw [if_pos h, h, if_pos (by decide)]
  · obtain ⟨i, hi, e, -⟩ := img_i hr hk h
    rw [if_neg h, e, if_neg (nI_pos (by omega)), if_neg (show ¬ (4 : Int32) ≤ nI i from inle (a := 4) hi (by omega)), clamp_nI (by omega), (hd.2.2.2.1 i hi).1]
theorem c_ih {d k : Nat} {m : Mm} {g : Vc} (hr : rngD g) (hd : desR m.1 d g) (hk : k < pn g) : v_X3_imageHeightOf d (pf g k 7) m = imh g k := by
  unfold v_X3_imageHeightOf imh
  by_cases h : pf g k 7 = -9
  · rw [if_pos h, h, if_pos (by decide)]
  · obtain ⟨i, hi, e, -⟩ := img_i hr hk h
    rw [if_neg h, e, if_neg (nI_pos (by omega)), if_neg (show ¬ (4 : Int32) ≤ nI i from inle (a := 4) hi (by omega)), clamp_nI (by omega), (hd.2.2.2.1 i hi).2]
theorem c_U {d k : Nat} {m : Mm} {g : Vc} {x y : Int32} (hr : rngD g) (hd : desR m.1 d g) (hk : k < pn g) : v_X0_imageU d (d + 5 + k) x y m = aU g k x y := by
  unfold v_X0_imageU aU
  rw [d_pf hd hk (by omega) (by omega), d_pf hd hk (by omega) (by omega), d_pf hd hk (by omega) (by omega), d_pf hd hk (by omega) (by omega), c_iw hr hd hk]
theorem c_V {d k : Nat} {m : Mm} {g : Vc} {x y : Int32} (hr : rngD g) (hd : desR m.1 d g) (hk : k < pn g) : v_X0_imageV d (d + 5 + k) x y m = aV g k x y := by
  unfold v_X0_imageV aV
  rw [d_pf hd hk (by omega) (by omega), d_pf hd hk (by omega) (by omega), d_pf hd hk (by omega) (by omega), d_pf hd hk (by omega) (by omega), c_ih hr hd hk]
theorem if10 {c : Prop} [Decidable c] {α : Type} (a b : α) : (if (if c then (1 : Int32) else 0) = 0 then a else b) = if c then b else a := by
  by_cases q : c
  · rw [if_pos q, if_pos q, if_neg (by decide)]
  · rw [if_neg q, if_neg q, if_pos rfl]
theorem c_right {d k : Nat} {m : Mm} {g : Vc} (hr : rngD g) (hd : desR m.1 d g) (hk : k < pn g) : v_X0_rightEnd d (d + 5 + k) m = pf g k 9 + tw g k := by
  unfold v_X0_rightEnd tw
  rw [d_pf hd hk (by omega) (by omega), d_pf hd hk (by omega) (by omega), d_pf hd hk (by omega) (by omega), c_ih hr hd hk, c_iw hr hd hk, if10]
theorem c_upper {d k : Nat} {m : Mm} {g : Vc} (hr : rngD g) (hd : desR m.1 d g) (hk : k < pn g) : v_X0_upperEnd d (d + 5 + k) m = pf g k 10 + th g k := by
  unfold v_X0_upperEnd th
  rw [d_pf hd hk (by omega) (by omega), d_pf hd hk (by omega) (by omega), d_pf hd hk (by omega) (by omega), c_ih hr hd hk, c_iw hr hd hk, if10]
theorem c_shows {d k : Nat} {m : Mm} {g : Vc} (hr : rngD g) (hd : desR m.1 d g) (hk : k < pn g) : v_X0_isSeen (d + 5 + k) (pf g k 9 + tw g k) (pf g k 10 + th g k) m = aShow g k := by
  unfold v_X0_isSeen aShow
  obtain ⟨-, -, q3, q4⟩ := (hd.2.2.2.2 k hk).R
  rw [q3, q4, d_pf hd hk (by omega) (by omega), d_pf hd hk (by omega) (by omega), d_pf hd hk (by omega) (by omega)]
theorem c_reach {d k : Nat} {m : Mm} {g : Vc} {x : Int32} (hr : rngD g) (hd : desR m.1 d g) (hk : k < pn g) : v_X0_reachAt d (d + 5 + k) x m = aReach g k x := by
  unfold v_X0_reachAt aReach aFar
  obtain ⟨-, -, q3, q4⟩ := (hd.2.2.2.2 k hk).R
  rw [c_right hr hd hk, c_upper hr hd hk, c_shows hr hd hk, q3, q4, d_pf hd hk (by omega) (by omega), d_pf hd hk (by omega) (by omega)]
/-! the reference's words for the same -/
theorem turn_i {g : Vc} (hr : rngD g) {k : Nat} (hk : k < pn g) : ∃ t, t < 8 ∧ pf g k 8 = nI t := by
  have h := (hr.2.2.2.2.2.1 k hk).2.2.1
  obtain ⟨t, e, e2, -⟩ := asN h.1
  exact ⟨t, by have := h.2; omega, e⟩
theorem r_size {m : Mm} {g : Vc} {k : Nat} (hr : rngD g) (h : stR m g) (hk : k < pn g) (hi : ¬ pf g k 7 = -9) : (v_X12_imageSize (nI k) 0 m = imw g k ∧ s_X12_imageSize (nI k) 0 m) ∧ (v_X12_imageSize (nI k) 1 m = imh g k ∧ s_X12_imageSize (nI k) 1 m) := by
  have hp := hr.par.1
  obtain ⟨i, hi4, e, -⟩ := img_i hr hk hi
  have e0 : (3 : Int32) + 2 * nI i + 0 = nI (3 + 2 * i) := by rw [show (3 : Int32) = nI 3 from rfl, show (2 : Int32) = nI 2 from rfl, show (0 : Int32) = nI 0 from rfl, nI_mul, nI_add, nI_add, Nat.add_zero]
  have e1 : (3 : Int32) + 2 * nI i + 1 = nI (4 + 2 * i) := by rw [show (3 : Int32) = nI 3 from rfl, show (2 : Int32) = nI 2 from rfl, nI_mul, nI_add, nI_1]; congr 1; omega
  unfold v_X12_imageSize s_X12_imageSize imw imh
  rw [of7 h (by omega), if_neg hi, if_neg hi, e, if_pos rfl, if_neg (show ¬ (1 : Int32) = 0 by decide), e0, e1, clamp_nI (by omega), clamp_nI (by omega), clamp_nI (by omega), h _ (by omega), h _ (by omega)]
  exact ⟨⟨rfl, sof7 (by omega), vp_in_nI (by omega) (by omega)⟩, rfl, sof7 (by omega), vp_in_nI (by omega) (by omega)⟩
theorem r_in {t : Nat} (ht : t < 8) (w h a b : Int32) : v_X12_inImage (nI t) w h a b 0 = v_X0_originalU (nI t) w a b ∧ v_X12_inImage (nI t) w h a b 1 = v_X0_originalV (nI t) h a b := by
  match t, ht with
  | 0, _ => exact ⟨rfl, rfl⟩
  | 1, _ => exact ⟨rfl, rfl⟩
  | 2, _ => exact ⟨rfl, rfl⟩
  | 3, _ => exact ⟨rfl, rfl⟩
  | 4, _ => exact ⟨rfl, rfl⟩
  | 5, _ => exact ⟨rfl, rfl⟩
  | 6, _ => exact ⟨rfl, rfl⟩
  | 7, _ => exact ⟨rfl, rfl⟩
theorem r_on {m : Mm} {g : Vc} {k : Nat} {x y : Int32} (hr : rngD g) (h : stR m g) (hk : k < pn g) (hi : ¬ pf g k 7 = -9) : v_X12_imageOn (nI k) x y 0 m = aU g k x y ∧ v_X12_imageOn (nI k) x y 1 m = aV g k x y ∧ ∀ z, s_X12_imageOn (nI k) x y z m := by
  have hp := hr.par.1
  obtain ⟨⟨s1, s2⟩, s3, s4⟩ := r_size hr h hk hi
  obtain ⟨t, ht, et⟩ := turn_i hr hk
  unfold v_X12_imageOn s_X12_imageOn aU aV
  rw [s1, s3, of8 h (by omega), of9 h (by omega), of10 h (by omega), et, (r_in ht _ _ _ _).1, (r_in ht _ _ _ _).2]
  exact ⟨rfl, rfl, fun _ => ⟨sof8 (by omega), s2, s4, sof9 (by omega), sof10 (by omega)⟩⟩
theorem r_turned {m : Mm} {g : Vc} {k : Nat} (hr : rngD g) (h : stR m g) (hk : k < pn g) (hi : ¬ pf g k 7 = -9) : v_X12_turnedSize (nI k) 0 m = tw g k ∧ v_X12_turnedSize (nI k) 1 m = th g k ∧ ∀ z, s_X12_turnedSize (nI k) z m := by
  have hp := hr.par.1
  obtain ⟨⟨s1, s2⟩, s3, s4⟩ := r_size hr h hk hi
  obtain ⟨t, ht, et⟩ := turn_i hr hk
  unfold v_X12_turnedSize s_X12_turnedSize tw th
  rw [of8 h (by omega), et]
  have hz : ∀ c : Prop, [Decidable c] → s_X12_imageSize (nI k) (if c then (0 : Int32) else 1) m := fun c _ => by
    by_cases q : c
    · rw [if_pos q]; exact s2
    · rw [if_neg q]; exact s4
  refine ⟨?_, ?_, fun z => ⟨sof8 (by omega), hz _⟩⟩
  · match t, ht with
    | 0, _ => exact s1
    | 1, _ => exact s3
    | 2, _ => exact s1
    | 3, _ => exact s3
    | 4, _ => exact s1
    | 5, _ => exact s3
    | 6, _ => exact s1
    | 7, _ => exact s3
  · match t, ht with
    | 0, _ => exact s3
    | 1, _ => exact s1
    | 2, _ => exact s3
    | 3, _ => exact s1
    | 4, _ => exact s3
    | 5, _ => exact s1
    | 6, _ => exact s3
    | 7, _ => exact s1
theorem im_rng {g : Vc} (hr : rngD g) {k : Nat} (hk : k < pn g) (hi : ¬ pf g k 7 = -9) : (1 ≤ (imw g k).toInt ∧ (imw g k).toInt ≤ 200) ∧ (1 ≤ (imh g k).toInt ∧ (imh g k).toInt ≤ 200) := by
  obtain ⟨i, hi4, e, e0⟩ := img_i hr hk hi
  obtain ⟨⟨a1, a2⟩, ⟨b1, b2⟩, c⟩ := hr.2.2.2.1 i hi4
  unfold imw imh
  have a0 : (0 : Int32).toInt = 0 := rfl
  have e1 : ¬ g (4 + 2 * i) = 0 := fun z => e0 (c.mpr z)
  rw [fa_eq] at e0 e1
  rw [if_neg hi, if_neg hi, e, clamp_nI (by omega)]
  omega
theorem tw_rng {g : Vc} (hr : rngD g) {k : Nat} (hk : k < pn g) (hi : ¬ pf g k 7 = -9) : (1 ≤ (tw g k).toInt ∧ (tw g k).toInt ≤ 200) ∧ (1 ≤ (th g k).toInt ∧ (th g k).toInt ≤ 200) := by
  obtain ⟨h1, h2⟩ := im_rng hr hk hi
  unfold tw th
  by_cases q : pf g k 8 &&& 1 = 0
  · rw [if_pos q, if_pos q]; exact ⟨h1, h2⟩
  · rw [if_neg q, if_neg q]; exact ⟨h2, h1⟩
theorem aShow_f {g : Vc} (hr : rngD g) {k : Nat} (hk : k < pn g) : flag (aShow g k) (¬ pf g k 7 = -9 ∧ (pf g k 9).toInt < (rect g k).2.2.1.toInt ∧ (pf g k 10).toInt < (rect g k).2.2.2.toInt ∧ 0 < (pf g k 9 + tw g k).toInt ∧ 0 < (pf g k 10 + th g k).toInt) := by
  have a0 : (0 : Int32).toInt = 0 := rfl
  unfold aShow
  refine flag_iff (flag_n (q := ¬ pf g k 7 = -9) Iff.rfl (flag_n (q := (pf g k 9).toInt < (rect g k).2.2.1.toInt) (by rw [fa_le]; omega) (flag_n (q := (pf g k 10).toInt < (rect g k).2.2.2.toInt) (by rw [fa_le]; omega) (flag_n (q := 0 < (pf g k 9 + tw g k).toInt) (by rw [fa_le]; omega) (flag_n (q := 0 < (pf g k 10 + th g k).toInt) (by rw [fa_le]; omega) flag_1))))) ?_
  exact ⟨fun ⟨a, b, c, d, e, _⟩ => ⟨a, b, c, d, e⟩, fun ⟨a, b, c, d, e⟩ => ⟨a, b, c, d, e, trivial⟩⟩
theorem r_shows {m : Mm} {g : Vc} {k : Nat} (hr : rngD g) (h : stR m g) (hf : flatR m g (pn g)) (hk : k < pn g) : v_X12_shows (nI k) m = aShow g k ∧ s_X12_shows (nI k) m := by
  have hp := hr.par.1
  have a0 : (0 : Int32).toInt = 0 := rfl
  unfold v_X12_shows s_X12_shows
  rw [of7 h (by omega)]
  by_cases hi : pf g k 7 = -9
  · rw [if_pos hi]
    refine ⟨?_, sof7 (by omega), fun z => absurd hi z⟩
    unfold aShow; rw [if_pos hi]
  · rw [if_neg hi]
    obtain ⟨t1, t2, t3⟩ := r_turned hr h hk hi
    obtain ⟨q1, q2, q3, q4⟩ := hf k hk
    obtain ⟨-, -, ⟨b5, b6⟩, b7, b8⟩ := rect_b hr hk
    obtain ⟨⟨w1, w2⟩, w3, w4⟩ := tw_rng hr hk hi
    obtain ⟨-, -, -, ⟨p1, p2⟩, p3, p4⟩ := hr.2.2.2.2.2.1 k hk
    rw [of9 h (by omega), of10 h (by omega), clamp_nI (by omega), q3, q4, t1, t2]
    have e1 : (pf g k 9 + tw g k).toInt = (pf g k 9).toInt + (tw g k).toInt := add_t (by omega) (by omega) (by omega) (by omega)
    have e2 : (pf g k 10 + th g k).toInt = (pf g k 10).toInt + (th g k).toInt := add_t (by omega) (by omega) (by omega) (by omega)
    refine ⟨flag_inj (flag_n (common_pos ⟨by omega, by omega⟩ ⟨by omega, by omega⟩ ⟨by omega, by omega⟩ ⟨by omega, by omega⟩ (by omega) (by omega)) (flag_n (common_pos ⟨by omega, by omega⟩ ⟨by omega, by omega⟩ ⟨by omega, by omega⟩ ⟨by omega, by omega⟩ (by omega) (by omega)) flag_1)) (flag_iff (aShow_f hr hk) ?_), sof7 (by omega), fun _ => ⟨vp_in_nI (by omega) (by omega), sof9 (by omega), t3 _, fun _ => ⟨sof10 (by omega), t3 _⟩⟩⟩
    rw [a0]
    exact ⟨fun ⟨a, b, c, d, e⟩ => ⟨⟨d, b⟩, ⟨e, c⟩, trivial⟩, fun ⟨⟨d, b⟩, ⟨e, c⟩, _⟩ => ⟨hi, b, c, d, e⟩⟩
theorem r_reach {m : Mm} {g : Vc} {k : Nat} {x : Int32} (hr : rngD g) (h : stR m g) (hf : flatR m g (pn g)) (hk : k < pn g) : v_X12_reachOf (nI k) x m = aReach g k x ∧ s_X12_reachOf (nI k) x m := by
  have hp := hr.par.1
  obtain ⟨s1, s2⟩ := r_shows hr h hf hk
  obtain ⟨q1, q2, q3, q4⟩ := hf k hk
  unfold v_X12_reachOf s_X12_reachOf aReach aFar
  rw [s1]
  by_cases c : aShow g k = 0
  · rw [if_pos c, if_pos c]; exact ⟨rfl, s2, fun z => absurd c z⟩
  · have hi : ¬ pf g k 7 = -9 := fun z => c (by unfold aShow; rw [if_pos z])
    obtain ⟨t1, t2, t3⟩ := r_turned hr h hk hi
    rw [if_neg c, if_neg c, of9 h (by omega), of10 h (by omega), t1, t2, clamp_nI (by omega), q3, q4]
    exact ⟨rfl, s2, fun _ => ⟨sof9 (by omega), sof10 (by omega), fun _ => ⟨fun _ _ => ⟨t3 _, vp_in_nI (by omega) (by omega)⟩, fun _ => ⟨t3 _, vp_in_nI (by omega) (by omega)⟩⟩⟩⟩
/-! the queries -/
theorem Sim_low {m m2 : Mm} {S : AS} (h : Sim m S) (hR : RefR m2 S) (hl : ∀ b, b < 426 → m2.1 b = m.1 b) : Sim m2 S := sim_of hR h.2.1 h.2.2 hl
theorem RefR_fr {m m2 : Mm} {S : AS} {hi : Nat} (h : RefR m S) (f : fr 432 hi m m2) (h436 : m2.1 436 = m.1 436) : RefR m2 S :=
  RefR_congr h (by rw [f 426 (by omega)]) (by rw [f 426 (by omega)]) (by rw [f 426 (by omega)]) (fun b hb => by
    unfold rcell at hb
    by_cases e : b = 436
    · rw [e]; exact h436
    · exact f b (by omega))
theorem op_creaseLength {m : Mm} {S : AS} {P : Int32 → Int32 → Mm → Prop} (h : Sim m S) (kk : ∀ r m2 S2, Sim m2 S2 → P r r m2) : wp_X11_creaseLength m (fun r m1 => wp_X12_creaseLength m1 (fun r2 m2 => P r r2 m2)) := by
  have hI := h.2.2
  have hC := h.2.1
  have hp := hI.1.ple
  have hpc := c_pc hC hI
  refine combine (c := wp_X11_creaseLength m) (d := wp_X12_creaseLength) (r := ifo (fun i a => a + (if pf (sg S) i 5 = 0 then (0 : Int32) else pf (sg S) i 3)) 0 1 (pn (sg S) - 1)) (S2 := S) h (fun K k1 => ?_) (fun m1 K hR k1 => ?_) hI kk
  · unfold wp_X11_creaseLength wp_X1_creases
    refine acc_loop (wp := fun n i s => wp_X1_creases_l4 _ 1 n s i m) (a := 1) (N := pn (sg S)) (fun i a => a + (if pf (sg S) i 5 = 0 then (0 : Int32) else pf (sg S) i 3)) (by omega) (by omega) (fun n i h1 h2 => ?_) (fun n i s h1 h2 kk => ?_)
    · show wb_X1_creases_l4 _ _ _ _ _ _
      unfold wb_X1_creases_l4
      rw [hpc, if_pos (ile h1 (by omega))]
      exact k1 _ hC (fun _ _ => rfl)
    · show wb_X1_creases_l4 _ _ _ _ _ _
      unfold wb_X1_creases_l4
      rw [hpc, if_neg (inle h2 (by omega)), panelAt_in (by omega), d_pf hC.1 h2 (by omega) (by omega), (hC.1.2.2.2.2 i h2).F.2.2 (by omega) 3 (by omega)]
      rintro y3 rfl y4 rfl
      exact kk
  · unfold wp_X12_creaseLength
    refine acc_loop (wp := fun n i s => wp_X12_creaseLength_l4 _ n s i m1) (a := 1) (N := pn (sg S)) (fun i a => a + (if pf (sg S) i 5 = 0 then (0 : Int32) else pf (sg S) i 3)) (by omega) (by omega) (fun n i h1 h2 => ?_) (fun n i s h1 h2 kk => ?_)
    · show wb_X12_creaseLength_l4 _ _ _ _ _
      unfold wb_X12_creaseLength_l4
      rw [many_ok hR.st hI.1.g2, if_pos (ile h1 (by omega))]
      exact k1 _ hR (fun _ _ => rfl)
    · show wb_X12_creaseLength_l4 _ _ _ _ _
      unfold wb_X12_creaseLength_l4
      rw [many_ok hR.st hI.1.g2, if_neg (inle h2 (by omega)), of5 hR.st (by omega), of3 hR.st (by omega)]
      refine ⟨sof5 (by omega), fun _ => sof3 (by omega), ?_⟩
      rintro y3 rfl y4 rfl
      exact kk
theorem op_imageAt {m : Mm} {S : AS} {x y z w : Int32} (h : Sim m S) : s_X12_imageAt x y z w m ∧ v_X11_imageAt x y z w m = v_X12_imageAt x y z w m := by
  obtain ⟨hR, hC, hI⟩ := h
  have hD := hI.1
  have hp := hD.ple
  have h4 := c_pc hC hI
  have a0 : (0 : Int32).toInt = 0 := rfl
  have a1 : (1 : Int32).toInt = 1 := rfl
  have a8 : (-300 : Int32).toInt = -300 := rfl
  have a9 : (300 : Int32).toInt = 300 := rfl
  unfold s_X12_imageAt v_X11_imageAt v_X12_imageAt
  by_cases c1 : 0 ≤ x.toInt ∧ x.toInt < pn (sg S)
  · obtain ⟨k, ek, ek2, -⟩ := asN c1.1
    have hk : k < pn (sg S) := by omega
    rw [if_neg (fun q => (has_0 h4 hp).mp q c1), if_neg (fun q => (isPanel_0 hR.st hD.g2 hp).mp q c1), ek, panelAt_in (by omega), of7 hR.st (by omega), d_pf hC.1 hk (by omega) (by omega)]
    have hs : ¬ pf (sg S) k 7 = -9 → s_X12_imageOn (nI k) y z (if w = 1 then 1 else 0) m := fun hi => (r_on hD.r hR.st hk hi).2.2 _
    refine ⟨fun _ _ _ _ => ⟨sof7 (by omega), hs⟩, ?_⟩
    by_cases c2 : -300 ≤ y.toInt ∧ y.toInt ≤ 300
    · rw [if_neg (fun q => isPos_0.mp q c2), if_neg (in_ne (by omega) (by omega))]
      by_cases c3 : -300 ≤ z.toInt ∧ z.toInt ≤ 300
      · rw [if_neg (fun q => isPos_0.mp q c3), if_neg (in_ne (by omega) (by omega))]
        by_cases c4 : 0 ≤ w.toInt ∧ w.toInt ≤ 1
        · rw [if_neg (by rw [fa_lt]; omega), if_pos (by rw [fa_le]; omega), if_neg (in_ne (by omega) (by omega))]
          by_cases hi : pf (sg S) k 7 = -9
          · rw [if_pos hi, if_pos hi]
          · obtain ⟨r1, r2, -⟩ := r_on (x := y) (y := z) hD.r hR.st hk hi
            rw [if_neg hi, if_neg hi, c_U hD.r hC.1 hk, c_V hD.r hC.1 hk]
            by_cases c5 : w = 0
            · rw [if_pos c5, if_neg (by rw [c5]; decide), r1]
            · rw [if_neg c5, if_pos (by rw [fa_eq] at c5 ⊢; omega), r2]
        · rw [if_pos (in_0 (by omega))]
          by_cases c5 : w < 0
          · rw [if_pos c5]
          · rw [if_neg c5, if_neg (by rw [fa_le]; rw [fa_lt] at c5; omega)]
      · rw [if_pos (isPos_0.mpr c3), if_pos (in_0 (by omega))]
    · rw [if_pos (isPos_0.mpr c2), if_pos (in_0 (by omega))]
  · have e1 := (isPanel_0 hR.st hD.g2 hp).mpr c1
    rw [if_pos ((has_0 h4 hp).mpr c1), if_pos e1]
    exact ⟨fun q => absurd e1 q, rfl⟩
theorem op_flat {m : Mm} {S : AS} {x y : Int32} {P : Int32 → Mm → Prop} (h : Sim m S) (kk : ∀ m2 S2, Sim m2 S2 → P (v_X11_flat x y m) m2) : wp_X12_flat x y m P := by
  obtain ⟨hR, hC, hI⟩ := h
  have hD := hI.1
  have hp := hD.ple
  have h4 := c_pc hC hI
  have a0 : (0 : Int32).toInt = 0 := rfl
  have a1 : (1 : Int32).toInt = 1 := rfl
  have a2 : (2 : Int32).toInt = 2 := rfl
  have a3 : (3 : Int32).toInt = 3 := rfl
  unfold wp_X12_flat
  unfold v_X11_flat at kk
  by_cases c1 : 0 ≤ x.toInt ∧ x.toInt < pn (sg S)
  · obtain ⟨k, ek, ek2, ek3⟩ := asN c1.1
    have hk : k < pn (sg S) := by omega
    obtain ⟨r1, r2, r3, r4⟩ := (hC.1.2.2.2.2 k hk).R
    rw [if_neg (fun q => (has_0 h4 hp).mp q c1), ek, panelAt_in (by omega), r1, r2, r3, r4] at kk
    rw [if_neg (fun q => (isPanel_0 hR.st hD.g2 hp).mp q c1)]
    by_cases c2 : 0 ≤ y.toInt ∧ y.toInt ≤ 3
    · rw [if_neg (in_ne (by omega) (by omega))]
      refine layFlat_ok hR.st hD.r.par (fun m2 hf f => ?_)
      obtain ⟨f1, f2, f3, f4⟩ := hf k hk
      rw [ek, clamp_nI (by omega), f1, f2, f3, f4]
      refine ⟨vp_in_nI (by omega) (by omega), ?_⟩
      rintro y12 rfl
      have e : (if y = (0 : Int32) then (rect (sg S) k).1 else if y = 1 then (rect (sg S) k).2.1 else if y = 2 then (rect (sg S) k).2.2.1 else (rect (sg S) k).2.2.2) = (if y = (0 : Int32) then (rect (sg S) k).1 else if y = 1 then (rect (sg S) k).2.1 else if y = 2 then (rect (sg S) k).2.2.1 else if y = 3 then (rect (sg S) k).2.2.2 else -1) := by
        by_cases d0 : y = 0
        · rw [if_pos d0, if_pos d0]
        · rw [if_neg d0, if_neg d0]
          by_cases d1 : y = 1
          · rw [if_pos d1, if_pos d1]
          · rw [if_neg d1, if_neg d1]
            by_cases d2 : y = 2
            · rw [if_pos d2, if_pos d2]
            · rw [if_neg d2, if_neg d2, if_pos (by rw [fa_eq] at d0 d1 d2 ⊢; omega)]
      rw [e]
      exact kk m2 S (sim_of (RefR_fr hR f (f 436 (by omega))) hC hI (fun b hb => f b (by omega)))
    · rw [if_pos (in_0 (by omega))]
      have e : (if y = (0 : Int32) then (rect (sg S) k).1 else if y = 1 then (rect (sg S) k).2.1 else if y = 2 then (rect (sg S) k).2.2.1 else if y = 3 then (rect (sg S) k).2.2.2 else -1) = -1 := by
        rw [if_neg (by rw [fa_eq]; omega), if_neg (by rw [fa_eq]; omega), if_neg (by rw [fa_eq]; omega), if_neg (by rw [fa_eq]; omega)]
      rw [e] at kk
      exact kk m S ⟨hR, hC, hI⟩
  · rw [if_pos ((has_0 h4 hp).mpr c1)] at kk
    rw [if_pos ((isPanel_0 hR.st hD.g2 hp).mpr c1)]
    exact kk m S ⟨hR, hC, hI⟩
theorem op_reach {m : Mm} {S : AS} {x y : Int32} {P : Int32 → Mm → Prop} (h : Sim m S) (kk : ∀ m2 S2, Sim m2 S2 → P (v_X11_reach x y m) m2) : wp_X12_reach x y m P := by
  obtain ⟨hR, hC, hI⟩ := h
  have hD := hI.1
  have hp := hD.ple
  have h4 := c_pc hC hI
  have a0 : (0 : Int32).toInt = 0 := rfl
  have a3 : (3 : Int32).toInt = 3 := rfl
  unfold wp_X12_reach
  unfold v_X11_reach at kk
  by_cases c1 : 0 ≤ x.toInt ∧ x.toInt < pn (sg S)
  · obtain ⟨k, ek, ek2, ek3⟩ := asN c1.1
    have hk : k < pn (sg S) := by omega
    rw [if_neg (fun q => (has_0 h4 hp).mp q c1), ek, panelAt_in (by omega), c_reach hD.r hC.1 hk] at kk
    rw [if_neg (fun q => (isPanel_0 hR.st hD.g2 hp).mp q c1)]
    by_cases c2 : 0 ≤ y.toInt ∧ y.toInt ≤ 3
    · rw [if_neg (by rw [fa_lt]; omega), if_pos (by rw [fa_le]; omega)] at kk
      rw [if_neg (in_ne (by omega) (by omega))]
      refine layFlat_ok hR.st hD.r.par (fun m2 hf f => ?_)
      obtain ⟨r1, r2⟩ := r_reach (x := y) hD.r (stR_fr hR.st f (by omega)) hf hk
      rw [ek, r1]
      exact ⟨r2, kk m2 S (sim_of (RefR_fr hR f (f 436 (by omega))) hC hI (fun b hb => f b (by omega)))⟩
    · rw [if_pos (in_0 (by omega))]
      by_cases c3 : y < 0
      · rw [if_pos c3] at kk; exact kk m S ⟨hR, hC, hI⟩
      · rw [if_neg c3, if_neg (by rw [fa_le]; rw [fa_lt] at c3; omega)] at kk; exact kk m S ⟨hR, hC, hI⟩
  · rw [if_pos ((has_0 h4 hp).mpr c1)] at kk
    rw [if_pos ((isPanel_0 hR.st hD.g2 hp).mpr c1)]
    exact kk m S ⟨hR, hC, hI⟩
