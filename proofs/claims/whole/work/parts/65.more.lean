/-! defineImage, place, removeLast, setSize -/
def gImg (g : Vc) (i : Nat) (w h : Int32) : Vc := vset (vset g (3 + 2 * i) w) (3 + 2 * i + 1) h
theorem gImg_w {g : Vc} {i : Nat} {w h : Int32} : gImg g i w h (3 + 2 * i) = w := by unfold gImg; rw [vset_ne _ _ (by omega), vset_same]
theorem gImg_h {g : Vc} {i : Nat} {w h : Int32} : gImg g i w h (4 + 2 * i) = h := by unfold gImg; rw [show 4 + 2 * i = 3 + 2 * i + 1 by omega, vset_same]
theorem gImg_out {g : Vc} {i k : Nat} {w h : Int32} (h1 : k ≠ 3 + 2 * i) (h2 : k ≠ 4 + 2 * i) : gImg g i w h k = g k := by unfold gImg; rw [vset_ne _ _ (by omega), vset_ne _ _ (by omega)]
theorem gImg_pf {g : Vc} {i : Nat} {w h : Int32} (hi : i < 4) (k j : Nat) : pf (gImg g i w h) k j = pf g k j := gImg_out (by omega) (by omega)
theorem gImg_pn {g : Vc} {i : Nat} {w h : Int32} : pn (gImg g i w h) = pn g := by unfold pn; rw [gImg_out (by omega) (by omega)]
theorem gImg_rect {g : Vc} {i : Nat} {w h : Int32} (hi : i < 4) {k : Nat} (hk : k < 10) : rect (gImg g i w h) k = rect g k :=
  rect_congr2 (n := 10) (fun a h1 _ => gImg_out (by omega) (by omega)) (fun a _ b hb => gImg_pf hi a b) k hk
def rImg (i w h : Int32) : Prop := (0 ≤ i.toInt ∧ i.toInt ≤ 3) ∧ (1 ≤ w.toInt ∧ w.toInt ≤ 200) ∧ (1 ≤ h.toInt ∧ h.toInt ≤ 200)
theorem ne0_of {x : Int32} (h : 1 ≤ x.toInt) : ¬ x = 0 := fun z => by rw [z] at h; exact absurd h (by decide)
theorem Dd_img {g : Vc} {i : Nat} {w h : Int32} (hD : Dd g) (hi : i < 4) (hw : 1 ≤ w.toInt ∧ w.toInt ≤ 200) (hh : 1 ≤ h.toInt ∧ h.toInt ≤ 200) : Dd (gImg g i w h) := by
  have hp := hD.ple
  obtain ⟨⟨d1, d2, d3, d4, d5, d6, d7⟩, d8⟩ := hD
  have hpar : par g := rngD.par ⟨d1, d2, d3, d4, d5, d6, d7⟩
  refine ⟨⟨by rw [gImg_out (by omega) (by omega)]; exact d1, by rw [gImg_out (by omega) (by omega)]; exact d2, by rw [gImg_out (by omega) (by omega)]; exact d3, fun a ha => ?_, fun q => ?_, fun k hk => ?_, fun k h0 hk => ?_⟩, fun k hk => ?_⟩
  · by_cases e : a = i
    · rw [e, gImg_w, gImg_h]
      exact ⟨⟨by omega, by omega⟩, ⟨by omega, by omega⟩, ⟨fun z => absurd z (ne0_of hw.1), fun z => absurd z (ne0_of hh.1)⟩⟩
    · rw [gImg_out (by omega) (by omega), gImg_out (by omega) (by omega)]; exact d4 a ha
  · rw [gImg_out (by omega) (by omega), gImg_out (by omega) (by omega), gImg_out (by omega) (by omega), gImg_out (by omega) (by omega), gImg_pf hi]
    rw [gImg_pn] at q
    obtain ⟨x1, x2, x3, x4, x5, x6⟩ := d5 q
    exact ⟨x1, x2, x3, x4, fun j hj => by rw [gImg_pf hi]; exact x5 j hj, x6⟩
  · rw [gImg_pn] at hk ⊢
    rw [gImg_pf hi, gImg_pf hi, gImg_pf hi, gImg_pf hi, gImg_pf hi]
    obtain ⟨q1, q2, q3⟩ := d6 k hk
    refine ⟨q1, ?_, q3⟩
    rcases q2 with z | ⟨a, z1, z2, z3⟩
    · exact Or.inl z
    · refine Or.inr ⟨a, z1, z2, ?_⟩
      by_cases e : a = i
      · rw [e, gImg_w]; exact ne0_of hw.1
      · rw [gImg_out (by omega) (by omega)]; exact z3
  · rw [gImg_pn] at hk
    rw [gImg_pf hi, gImg_pf hi, gImg_pf hi, gImg_pf hi, gImg_pf hi, gImg_pf hi]
    exact d7 k h0 hk
  · rw [gImg_pn] at hk
    obtain ⟨q1, q2, q3⟩ := d8 k hk
    refine ⟨?_, fun h0 => ?_, fun o ho => ?_⟩
    · rw [gImg_rect hi (by omega), gImg_out (by omega) (by omega), gImg_out (by omega) (by omega)]; exact q1
    · obtain ⟨p, s, hpk, ep, hs, es, er⟩ := par_s hpar h0 hk
      have := q2 h0
      rw [gImg_pf hi, gImg_pf hi, gImg_pf hi, gImg_pf hi, gImg_rect hi (by rw [ep, clamp_nI (by omega)]; omega)]
      exact this
    · rw [gImg_rect hi (by omega), gImg_rect hi (by omega)]; exact q3 o ho
theorem imageFault_ok {d : Nat} {i w h : Int32} : (¬ rImg i w h → v_X3_imageFault d i w h = -1) ∧ (rImg i w h → v_X3_imageFault d i w h = 0) := by
  have a0 : (0 : Int32).toInt = 0 := rfl
  have a1 : (1 : Int32).toInt = 1 := rfl
  have a4 : (4 : Int32).toInt = 4 := rfl
  have a2 : (200 : Int32).toInt = 200 := rfl
  unfold v_X3_imageFault rImg
  by_cases c1 : i < 0
  · rw [if_pos c1]; rw [fa_lt] at c1; exact ⟨fun _ => rfl, fun z => by omega⟩
  rw [if_neg c1]
  by_cases c2 : i < 4
  · rw [if_pos c2]
    by_cases c3 : w < 1
    · rw [if_pos c3]; rw [fa_lt] at c3; exact ⟨fun _ => rfl, fun z => by omega⟩
    rw [if_neg c3]
    by_cases c4 : 200 < w
    · rw [if_pos c4]; rw [fa_lt] at c4; exact ⟨fun _ => rfl, fun z => by omega⟩
    rw [if_neg c4]
    by_cases c5 : h < 1
    · rw [if_pos c5]; rw [fa_lt] at c5; exact ⟨fun _ => rfl, fun z => by omega⟩
    rw [if_neg c5]
    by_cases c6 : h ≤ 200
    · rw [if_pos c6]
      rw [fa_lt] at c1 c2 c3 c4 c5
      rw [fa_le] at c6
      exact ⟨fun z => absurd ⟨⟨by omega, by omega⟩, ⟨by omega, by omega⟩, by omega, by omega⟩ z, fun _ => rfl⟩
    · rw [if_neg c6]; rw [fa_le] at c6; exact ⟨fun _ => rfl, fun z => by omega⟩
  · rw [if_neg c2]; rw [fa_lt] at c2; exact ⟨fun _ => rfl, fun z => by omega⟩
theorem hasImage_in {d : Nat} {m : Mm} {g : Vc} {i : Nat} (hd : desR m.1 d g) (hi : i < 4) : v_X3_hasImage d (nI i) m = if g (3 + 2 * i) ≤ 0 then 0 else 1 := by
  unfold v_X3_hasImage
  rw [if_neg (nI_pos (by omega)), if_neg (show ¬ (4 : Int32) ≤ nI i from inle (a := 4) hi (by omega)), clamp_nI (by omega), (hd.2.2.2.1 i hi).1]
theorem if01 {c : Prop} [Decidable c] : (if (if c then (0 : Int32) else 1) = 0 then (0 : Int32) else 1) = if c then 0 else 1 := by
  by_cases q : c
  · rw [if_pos q, if_pos rfl]
  · rw [if_neg q]; rfl
theorem desR_img {m : Mm} {d : Nat} {g : Vc} {i : Nat} {w h : Int32} (hp : pn g ≤ 10) (hd : desR m.1 d g) (hi : i < 4) : desR (wI (wI m (d + 1) i w) (d + 2) i h).1 d (gImg g i w h) := by
  obtain ⟨h1, h2, h3, h4, h6⟩ := hd
  have eo : ∀ b, b ≠ d + 1 → b ≠ d + 2 → (wI (wI m (d + 1) i w) (d + 2) i h).1 b = m.1 b := fun b hb hb2 => by funext j; rw [wI_ne _ _ _ _ hb2, wI_ne _ _ _ _ hb]
  refine ⟨?_, ?_, ?_, fun a ha => ?_, fun k hk => ?_⟩
  · rw [eo _ (by omega) (by omega), gImg_out (by omega) (by omega)]; exact h1
  · rw [eo _ (by omega) (by omega), gImg_out (by omega) (by omega)]; exact h2
  · rw [eo _ (by omega) (by omega), gImg_out (by omega) (by omega)]; exact h3
  · by_cases e : a = i
    · subst e
      rw [gImg_w, gImg_h, wI_ne _ _ _ _ (by omega), wI_same, wI_same]; exact ⟨rfl, rfl⟩
    · rw [gImg_out (by omega) (by omega), gImg_out (by omega) (by omega), wI_nj _ _ _ _ e, wI_nj _ _ _ _ e, wI_nj _ _ _ _ e, wI_nj _ _ _ _ e]; exact h4 a ha
  · rw [gImg_pn] at hk
    obtain ⟨x1, x2, x3, x4⟩ := h6 k hk
    unfold panR
    rw [eo _ (by omega) (by omega), gImg_rect hi (by omega)]
    exact ⟨fun l q1 q2 => by rw [gImg_pf hi]; exact x1 l q1 q2, x2, fun z l hl => by rw [gImg_pf hi]; exact x3 z l hl, x4⟩
theorem changeImage_ok {d : Nat} {m : Mm} {g : Vc} {i : Nat} {w h : Int32} {K : Int32 → Mm → Prop} (hd : desR m.1 d g) (hp : pn g ≤ 10) (hi : i < 4) (kk : ∀ m2, desR m2.1 d (gImg g i w h) → frD d m m2 → K (if g (3 + 2 * i) ≤ 0 then 0 else 1) m2) : wp_X3_changeImage d (nI i) w h m K := by
  unfold wp_X3_changeImage
  rw [hasImage_in hd hi, if01]
  rintro y2 rfl
  rw [if_neg (nI_pos (by omega)), if_neg (show ¬ (4 : Int32) ≤ nI i from inle (a := 4) hi (by omega)), clamp_nI (by omega)]
  rintro m5 rfl m6 rfl
  exact kk _ (desR_img hp hd hi) (frD_wI (frD_wI (frD_refl _ _) (by omega) (by omega)) (by omega) (by omega))
theorem doImage_ok {m0 m : Mm} {S : AS} {x w h : Int32} {K : Int32 → Mm → Prop} (hB : RB m0 m S (sg S)) (k1 : ¬ rImg x w h → ∀ m2, RQ m0 m2 S → K (-1) m2)
    (k2 : ∀ i, x = nI i → i < 4 → rImg x w h → ∀ m2, RB m0 m2 S (gImg (sg S) i w h) → K (if sg S (3 + 2 * i) ≤ 0 then 0 else 1) m2) : wp_X12_doImage x w h m K := by
  have a0 : (0 : Int32).toInt = 0 := rfl
  have a1 : (1 : Int32).toInt = 1 := rfl
  have a3 : (3 : Int32).toInt = 3 := rfl
  have a2 : (200 : Int32).toInt = 200 := rfl
  have kj : ¬ rImg x w h → wp_X12_doImage_j31 K m := fun z => by
    unfold wp_X12_doImage_j31
    exact RB_refuse hB (fun m2 r1 r2 r3 => k1 z m2 ⟨r1, r2, r3⟩)
  unfold wp_X12_doImage
  by_cases c1 : 0 ≤ x.toInt ∧ x.toInt ≤ 3
  · rw [if_neg (in_ne (by omega) (by omega))]
    by_cases c2 : 1 ≤ w.toInt ∧ w.toInt ≤ 200
    · rw [if_neg (in_ne (by omega) (by omega))]
      by_cases c3 : 1 ≤ h.toInt ∧ h.toInt ≤ 200
      · rw [if_neg (in_ne (by omega) (by omega))]
        obtain ⟨i, ei, ei2, -⟩ := asN c1.1
        have k3 := k2 i ei (by omega) ⟨c1, c2, c3⟩
        rw [ei, show (3 : Int32) = nI 3 from rfl, show (2 : Int32) = nI 2 from rfl, nI_mul, nI_add, nI_1, clamp_nI (by omega), clamp_nI (by omega), hB.1 _ (by omega)]
        refine ⟨vp_in_nI (by omega) (by omega), ?_⟩
        rintro y8 rfl m9 rfl
        refine ⟨vp_in_nI (by omega) (by omega), ?_⟩
        rintro m11 rfl
        exact k3 _ (RB_put (RB_put hB))
      · rw [if_pos (in_0 (by omega))]; exact kj (fun z => c3 z.2.2)
    · rw [if_pos (in_0 (by omega))]; exact kj (fun z => c2 z.2.1)
  · rw [if_pos (in_0 (by omega))]; exact kj (fun z => c1 z.1)
theorem op_defineImage {m : Mm} {S : AS} {x w h : Int32} {P : Int32 → Int32 → Mm → Prop} (hS : Sim m S) (kk : ∀ r m2 S2, Sim m2 S2 → P r r m2) : wp_X11_defineImage x w h m (fun r m1 => wp_X12_defineImage x w h m1 (fun r2 m2 => P r r2 m2)) := by
  have hI := hS.2.2
  have hC := hS.2.1
  have hD := hI.1
  have hp := hD.ple
  have hF := imageFault_ok (d := 1) (i := x) (w := w) (h := h)
  by_cases c1 : rImg x w h
  · obtain ⟨c11, c12, c13⟩ := c1
    obtain ⟨i, ei, ei2, -⟩ := asN c11.1
    have hi : i < 4 := by omega
    refine combine (c := wp_X11_defineImage x w h m) (d := wp_X12_defineImage x w h) (r := if sg S (3 + 2 * i) ≤ 0 then 0 else 1) (S2 := (gImg (sg S) i w h, pushH (sh S) (sg S), S.2.2)) hS (fun K k1 => ?_) (fun m1 K hR k1 => ?_) ?_ kk
    · unfold wp_X11_defineImage
      rintro y1 rfl
      rw [hF.2 ⟨c11, c12, c13⟩, if_pos rfl]
      refine remember_ok hC hI (fun m2 hC2 hk2 => ?_)
      rw [ei]
      refine changeImage_ok (g := sg S) hC2.1 hp hi (fun m3 hd hf => ?_)
      have := ClsR_chg hI hC2 hk2 hd hf (fun i hi => gImg_out (by omega) (by omega))
      exact k1 _ this.1 this.2
    · unfold wp_X12_defineImage
      refine RB_begins hR (fun m2 hB => ?_)
      refine doImage_ok hB (fun z => absurd ⟨c11, c12, c13⟩ z) (fun k' e' hk' _ m3 hB3 => ?_)
      have : k' = i := by
        have a : nI k' = nI i := by rw [← e', ei]
        exact (nI_eq (by omega) (by omega)).mp a
      subst this
      exact RB_ends hI hB3 (fun m4 r4 l4 => k1 _ r4 l4)
    · exact Inv_push hI (Dd_img hD hi c12 c13) (Ll_eq hI.2.1 (fun i hi => gImg_out (by omega) (by omega)))
  · refine combine (c := wp_X11_defineImage x w h m) (d := wp_X12_defineImage x w h) (r := -1) (S2 := S) hS (fun K k1 => ?_) (fun m1 K hR k1 => ?_) hI kk
    · unfold wp_X11_defineImage
      rintro y1 rfl
      rw [hF.1 c1, if_neg (by decide)]; exact k1 _ hC (fun _ _ => rfl)
    · unfold wp_X12_defineImage
      refine RB_begins hR (fun m2 hB => ?_)
      exact doImage_ok hB (fun _ m3 h3 => RQ_ends h3 k1) (fun _ _ _ z => absurd z c1)
/-- place -/
def gPrn (g : Vc) (k : Nat) (im t px py : Int32) : Vc := gF (gF (gF (gF g k 7 im) k 8 t) k 9 px) k 10 py
def rPrn (n : Nat) (x im t px py : Int32) : Prop := (0 ≤ x.toInt ∧ x.toInt < n) ∧ (0 ≤ im.toInt ∧ im.toInt ≤ 3) ∧ (0 ≤ t.toInt ∧ t.toInt ≤ 7) ∧ (-300 ≤ px.toInt ∧ px.toInt ≤ 300) ∧ (-300 ≤ py.toInt ∧ py.toInt ≤ 300)
theorem gPrn_hi {g : Vc} {k : Nat} {im t px py : Int32} (hk : k < 10) {i : Nat} (h : i < 11 ∨ 121 ≤ i) : gPrn g k im t px py i = g i := by
  unfold gPrn
  rw [gF_out hk (by omega) h, gF_out hk (by omega) h, gF_out hk (by omega) h, gF_out hk (by omega) h]
theorem gPrn_pn {g : Vc} {k : Nat} {im t px py : Int32} (hk : k < 10) : pn (gPrn g k im t px py) = pn g := by unfold pn; rw [gPrn_hi hk (by omega)]
theorem Dd_prn {g : Vc} {k : Nat} {im t px py : Int32} (hD : Dd g) (hk : k < pn g) (h7 : im = -9 ∨ ∃ i, i < 4 ∧ im = nI i ∧ ¬ g (3 + 2 * i) = 0) (h8 : inR t 0 7) (h9 : inR px (-300) 300) (h10 : inR py (-300) 300) : Dd (gPrn g k im t px py) := by
  have hp := hD.ple
  have D1 : Dd (gF g k 7 im) := ⟨gF_rng hD.r hk (by omega) (by omega) (fun z => by omega) (fun z => by omega) (fun _ => h7) (fun z => by omega) (fun z => by omega), gF_gok hD hk (by omega) (by omega)⟩
  have e1 : pn (gF g k 7 im) = pn g := gF_pn (by omega) (by omega)
  have D2 : Dd (gF (gF g k 7 im) k 8 t) := ⟨gF_rng D1.r (by omega) (by omega) (by omega) (fun z => by omega) (fun z => by omega) (fun z => by omega) (fun _ => h8) (fun z => by omega), gF_gok D1 (by omega) (by omega) (by omega)⟩
  have e2 : pn (gF (gF g k 7 im) k 8 t) = pn (gF g k 7 im) := gF_pn (by omega) (by omega)
  have D3 : Dd (gF (gF (gF g k 7 im) k 8 t) k 9 px) := ⟨gF_rng D2.r (by omega) (by omega) (by omega) (fun z => by omega) (fun z => by omega) (fun z => by omega) (fun z => by omega) (fun _ => h9), gF_gok D2 (by omega) (by omega) (by omega)⟩
  have e3 : pn (gF (gF (gF g k 7 im) k 8 t) k 9 px) = pn (gF (gF g k 7 im) k 8 t) := gF_pn (by omega) (by omega)
  exact ⟨gF_rng D3.r (by omega) (by omega) (by omega) (fun z => by omega) (fun z => by omega) (fun z => by omega) (fun z => by omega) (fun _ => h10), gF_gok D3 (by omega) (by omega) (by omega)⟩
theorem print_ok {d : Nat} {m : Mm} {g : Vc} {k : Nat} {im t px py : Int32} {K : Int32 → Mm → Prop} (hd : desR m.1 d g) (hp : pn g ≤ 10) (hk : k < pn g) (kk : ∀ m2, desR m2.1 d (gPrn g k im t px py) → frD d m m2 → K (pf g k 7) m2) : wp_X3_print d (nI k) im t px py m K := by
  unfold wp_X3_print
  rw [panelAt_in (by omega)]
  rintro y1 rfl m2 rfl m3 rfl m4 rfl m5 rfl
  rw [d_pf hd hk (by omega) (by omega)]
  have e1 : pn (gF g k 7 im) = pn g := gF_pn (by omega) (by omega)
  have e2 : pn (gF (gF g k 7 im) k 8 t) = pn (gF g k 7 im) := gF_pn (by omega) (by omega)
  have e3 : pn (gF (gF (gF g k 7 im) k 8 t) k 9 px) = pn (gF (gF g k 7 im) k 8 t) := gF_pn (by omega) (by omega)
  have D1 := desR_gF (x := im) (j := 7) hp hd hk (by omega) (by omega)
  have D2 := desR_gF (x := t) (j := 8) (k := k) (by omega) D1 (by omega) (by omega) (by omega)
  have D3 := desR_gF (x := px) (j := 9) (k := k) (by omega) D2 (by omega) (by omega) (by omega)
  have D4 := desR_gF (x := py) (j := 10) (k := k) (by omega) D3 (by omega) (by omega) (by omega)
  exact kk _ D4 (frD_wI (frD_wI (frD_wI (frD_wI (frD_refl _ _) (by omega) (by omega)) (by omega) (by omega)) (by omega) (by omega)) (by omega) (by omega))
theorem img_le {g : Vc} (hr : rngD g) {i : Nat} (hi : i < 4) : g (3 + 2 * i) ≤ 0 ↔ g (3 + 2 * i) = 0 := by
  have h := (hr.2.2.2.1 i hi).1
  have a0 : (0 : Int32).toInt = 0 := rfl
  rw [fa_le, fa_eq]
  have := h.1
  omega
theorem printFault_ok {d : Nat} {m : Mm} {g : Vc} {x im t px py : Int32} (hd : desR m.1 d g) (hD : Dd g) : (¬ rPrn (pn g) x im t px py → v_X3_printFault d x im t px py m = -1) ∧
    (rPrn (pn g) x im t px py → g (3 + 2 * im.toNatClampNeg) = 0 → v_X3_printFault d x im t px py m = -2) ∧ (rPrn (pn g) x im t px py → ¬ g (3 + 2 * im.toNatClampNeg) = 0 → v_X3_printFault d x im t px py m = 0) := by
  have hp := hD.ple
  have h4 : m.1 d 4 = nI (pn g) := by rw [hd.2.2.1]; exact hD.g2
  have a0 : (0 : Int32).toInt = 0 := rfl
  have a4 : (4 : Int32).toInt = 4 := rfl
  have a7 : (7 : Int32).toInt = 7 := rfl
  unfold v_X3_printFault
  have bad : ∀ {c : Prop}, ¬ c → ¬ (c ∧ True) := fun h z => h z.1
  by_cases c1 : ¬ (0 ≤ x.toInt ∧ x.toInt < pn g)
  · rw [if_pos ((has_0 h4 hp).mpr c1)]; exact ⟨fun _ => rfl, fun z => absurd z.1 c1, fun z => absurd z.1 c1⟩
  replace c1 := Decidable.not_not.mp c1
  rw [if_neg (fun z => (has_0 h4 hp).mp z c1)]
  by_cases c2 : ¬ (0 ≤ im.toInt ∧ im.toInt ≤ 3)
  · have e : ∀ X : Int32, (if im < 0 then (-1 : Int32) else if 4 ≤ im then -1 else X) = -1 := fun X => by
      by_cases q : im < 0
      · rw [if_pos q]
      · rw [if_neg q, if_pos (by rw [fa_le]; rw [fa_lt] at q; omega)]
    rw [e]; exact ⟨fun _ => rfl, fun z => absurd z.2.1 c2, fun z => absurd z.2.1 c2⟩
  replace c2 := Decidable.not_not.mp c2
  rw [if_neg (by rw [fa_lt]; omega), if_neg (by rw [fa_le]; omega)]
  by_cases c3 : ¬ (0 ≤ t.toInt ∧ t.toInt ≤ 7)
  · have e : ∀ X : Int32, (if t < 0 then (-1 : Int32) else if t ≤ 7 then X else -1) = -1 := fun X => by
      by_cases q : t < 0
      · rw [if_pos q]
      · rw [if_neg q, if_neg (by rw [fa_le]; rw [fa_lt] at q; omega)]
    rw [e]; exact ⟨fun _ => rfl, fun z => absurd z.2.2.1 c3, fun z => absurd z.2.2.1 c3⟩
  replace c3 := Decidable.not_not.mp c3
  rw [if_neg (by rw [fa_lt]; omega), if_pos (by rw [fa_le]; omega)]
  by_cases c4 : ¬ (-300 ≤ px.toInt ∧ px.toInt ≤ 300)
  · rw [if_pos (isPos_0.mpr c4)]; exact ⟨fun _ => rfl, fun z => absurd z.2.2.2.1 c4, fun z => absurd z.2.2.2.1 c4⟩
  replace c4 := Decidable.not_not.mp c4
  rw [if_neg (fun z => isPos_0.mp z c4)]
  by_cases c5 : ¬ (-300 ≤ py.toInt ∧ py.toInt ≤ 300)
  · rw [if_pos (isPos_0.mpr c5)]; exact ⟨fun _ => rfl, fun z => absurd z.2.2.2.2 c5, fun z => absurd z.2.2.2.2 c5⟩
  replace c5 := Decidable.not_not.mp c5
  rw [if_neg (fun z => isPos_0.mp z c5)]
  obtain ⟨i, ei, ei2, ei3⟩ := asN c2.1
  have hi : i < 4 := by omega
  rw [ei3, ei, hasImage_in hd hi]
  refine ⟨fun z => absurd ⟨c1, by rw [← ei]; exact c2, c3, c4, c5⟩ z, fun _ z => ?_, fun _ z => ?_⟩
  · rw [if_pos ((img_le hD.r hi).mpr z), if_pos rfl]
  · rw [if_neg (fun q => z ((img_le hD.r hi).mp q)), if_neg (by decide)]
theorem doPlace_ok {m0 m : Mm} {S : AS} {x im t px py : Int32} {K : Int32 → Mm → Prop} (hD : Dd (sg S)) (hB : RB m0 m S (sg S)) (k1 : ¬ rPrn (pn (sg S)) x im t px py → ∀ m2, RQ m0 m2 S → K (-1) m2)
    (k2 : rPrn (pn (sg S)) x im t px py → sg S (3 + 2 * im.toNatClampNeg) = 0 → ∀ m2, RQ m0 m2 S → K (-2) m2)
    (k3 : ∀ k, x = nI k → k < pn (sg S) → rPrn (pn (sg S)) x im t px py → ¬ sg S (3 + 2 * im.toNatClampNeg) = 0 → ∀ m2, RB m0 m2 S (gPrn (sg S) k im t px py) → K (pf (sg S) k 7) m2) : wp_X12_doPlace x im t px py m K := by
  have hp := hD.ple
  have a0 : (0 : Int32).toInt = 0 := rfl
  have a3 : (3 : Int32).toInt = 3 := rfl
  have a7 : (7 : Int32).toInt = 7 := rfl
  have a8 : (-300 : Int32).toInt = -300 := rfl
  have a9 : (300 : Int32).toInt = 300 := rfl
  have kj : ¬ rPrn (pn (sg S)) x im t px py → wp_X12_doPlace_j55 K m := fun z => by
    unfold wp_X12_doPlace_j55
    exact RB_refuse hB (fun m2 r1 r2 r3 => k1 z m2 ⟨r1, r2, r3⟩)
  unfold wp_X12_doPlace
  by_cases c1 : ¬ (0 ≤ x.toInt ∧ x.toInt < pn (sg S))
  · rw [if_pos ((isPanel_0 (RB_st hB) hD.g2 hp).mpr c1)]; exact kj (fun z => c1 z.1)
  replace c1 := Decidable.not_not.mp c1
  rw [if_neg (fun z => (isPanel_0 (RB_st hB) hD.g2 hp).mp z c1)]
  by_cases c2 : ¬ (0 ≤ im.toInt ∧ im.toInt ≤ 3)
  · rw [if_pos (in_0 (by omega))]; exact kj (fun z => c2 z.2.1)
  rw [if_neg (in_ne (by omega) (by omega))]
  by_cases c3 : ¬ (0 ≤ t.toInt ∧ t.toInt ≤ 7)
  · rw [if_pos (in_0 (by omega))]; exact kj (fun z => c3 z.2.2.1)
  rw [if_neg (in_ne (by omega) (by omega))]
  by_cases c4 : ¬ (-300 ≤ px.toInt ∧ px.toInt ≤ 300)
  · rw [if_pos (in_0 (by omega))]; exact kj (fun z => c4 z.2.2.2.1)
  rw [if_neg (in_ne (by omega) (by omega))]
  by_cases c5 : ¬ (-300 ≤ py.toInt ∧ py.toInt ≤ 300)
  · rw [if_pos (in_0 (by omega))]; exact kj (fun z => c5 z.2.2.2.2)
  rw [if_neg (in_ne (by omega) (by omega))]
  have hb : rPrn (pn (sg S)) x im t px py := ⟨c1, Decidable.not_not.mp c2, Decidable.not_not.mp c3, Decidable.not_not.mp c4, Decidable.not_not.mp c5⟩
  obtain ⟨i, ei, ei2, ei3⟩ := asN (x := im) (by omega)
  obtain ⟨k, ek, ek2, ek3⟩ := asN c1.1
  have ea : (3 : Int32) + 2 * im = nI (3 + 2 * i) := by rw [ei, show (3 : Int32) = nI 3 from rfl, show (2 : Int32) = nI 2 from rfl, nI_mul, nI_add]
  rw [ea, clamp_nI (by omega), hB.1 _ (by omega)]
  refine ⟨vp_in_nI (by omega) (by omega), ?_⟩
  by_cases c6 : sg S (3 + 2 * i) = 0
  · rw [if_pos c6]
    exact RB_refuse hB (fun m2 r1 r2 r3 => k2 hb (by rw [ei3]; exact c6) m2 ⟨r1, r2, r3⟩)
  · rw [if_neg c6]
    have k4 := k3 k ek (by omega) hb (by rw [ei3]; exact c6)
    rw [ek]
    refine ⟨sof7 (by omega), ?_⟩
    rintro y11 rfl
    rw [of7 (RB_st hB) (by omega)]
    exact put_ok (j := 7) rfl (by omega) (by omega) (put_ok (j := 8) rfl (by omega) (by omega) (put_ok (j := 9) rfl (by omega) (by omega) (put_ok (j := 10) rfl (by omega) (by omega) (k4 _ (RB_put (RB_put (RB_put (RB_put hB))))))))
theorem op_place {m : Mm} {S : AS} {x im t px py : Int32} {P : Int32 → Int32 → Mm → Prop} (hS : Sim m S) (kk : ∀ r m2 S2, Sim m2 S2 → P r r m2) : wp_X11_place x im t px py m (fun r m1 => wp_X12_place x im t px py m1 (fun r2 m2 => P r r2 m2)) := by
  have hI := hS.2.2
  have hC := hS.2.1
  have hD := hI.1
  have hp := hD.ple
  have hF := printFault_ok (x := x) (im := im) (t := t) (px := px) (py := py) hC.1 hD
  by_cases c1 : rPrn (pn (sg S)) x im t px py
  · obtain ⟨i, ei, ei2, ei3⟩ := asN c1.2.1.1
    obtain ⟨k, ek, ek2, ek3⟩ := asN c1.1.1
    have hk : k < pn (sg S) := by have := c1.1; omega
    have hi : i < 4 := by have := c1.2.1; omega
    by_cases c2 : sg S (3 + 2 * im.toNatClampNeg) = 0
    · refine combine (c := wp_X11_place x im t px py m) (d := wp_X12_place x im t px py) (r := -2) (S2 := S) hS (fun K k1 => ?_) (fun m1 K hR k1 => ?_) hI kk
      · unfold wp_X11_place
        rintro y1 rfl
        rw [hF.2.1 c1 c2, if_neg (by decide)]; exact k1 _ hC (fun _ _ => rfl)
      · unfold wp_X12_place
        refine RB_begins hR (fun m2 hB => ?_)
        exact doPlace_ok hD hB (fun z => absurd c1 z) (fun _ _ m3 h3 => RQ_ends h3 k1) (fun _ _ _ _ z => absurd c2 z)
    · refine combine (c := wp_X11_place x im t px py m) (d := wp_X12_place x im t px py) (r := pf (sg S) k 7) (S2 := (gPrn (sg S) k im t px py, pushH (sh S) (sg S), S.2.2)) hS (fun K k1 => ?_) (fun m1 K hR k1 => ?_) ?_ kk
      · unfold wp_X11_place
        rintro y1 rfl
        rw [hF.2.2 c1 c2, if_pos rfl]
        refine remember_ok hC hI (fun m2 hC2 hk2 => ?_)
        rw [ek]
        refine print_ok (g := sg S) hC2.1 hp hk (fun m3 hd hf => ?_)
        have := ClsR_chg hI hC2 hk2 hd hf (fun i hi => gPrn_hi (by omega) (by omega))
        exact k1 _ this.1 this.2
      · unfold wp_X12_place
        refine RB_begins hR (fun m2 hB => ?_)
        refine doPlace_ok hD hB (fun z => absurd c1 z) (fun _ z => absurd z c2) (fun k' e' hk' _ _ m3 hB3 => ?_)
        have : k' = k := by
          have a : nI k' = nI k := by rw [← e', ek]
          exact (nI_eq (by omega) (by omega)).mp a
        subst this
        exact RB_ends hI hB3 (fun m4 r4 l4 => k1 _ r4 l4)
      · rw [ei3] at c2
        exact Inv_push hI (Dd_prn hD hk (Or.inr ⟨i, hi, ei, c2⟩) c1.2.2.1 c1.2.2.2.1 c1.2.2.2.2) (Ll_eq hI.2.1 (fun i hi => gPrn_hi (by omega) (by omega)))
  · refine combine (c := wp_X11_place x im t px py m) (d := wp_X12_place x im t px py) (r := -1) (S2 := S) hS (fun K k1 => ?_) (fun m1 K hR k1 => ?_) hI kk
    · unfold wp_X11_place
      rintro y1 rfl
      rw [hF.1 c1, if_neg (by decide)]; exact k1 _ hC (fun _ _ => rfl)
    · unfold wp_X12_place
      refine RB_begins hR (fun m2 hB => ?_)
      exact doPlace_ok hD hB (fun _ m3 h3 => RQ_ends h3 k1) (fun z => absurd z c1) (fun _ _ _ z => absurd z c1)
