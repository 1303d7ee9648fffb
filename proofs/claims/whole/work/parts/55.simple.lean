/-! the simple calls -/
theorem sim_of {m1 m2 : Mm} {S : AS} (hR : RefR m2 S) (hC : ClsR m1 S) (hI : Inv S) (h : ∀ b, b < 426 → m2.1 b = m1.1 b) : Sim m2 S := ⟨hR, ClsR_low hI hC h, hI⟩
theorem keepH_ref {m m2 : Mm} {S : AS} (h : RefR m S) (k : keepH m m2) : RefR m2 S := RefR_up h (fun b hb => k.1 b (by omega))
theorem combine {m : Mm} {S S2 : AS} {r : Int32} {c : (Int32 → Mm → Prop) → Prop} {d : Mm → (Int32 → Mm → Prop) → Prop} {P : Int32 → Int32 → Mm → Prop} (h : Sim m S)
    (hc : ∀ K, (∀ m1, ClsR m1 S2 → (∀ b, 426 ≤ b → m1.1 b = m.1 b) → K r m1) → c K) (hd : ∀ m1 K, RefR m1 S → (∀ m2, RefR m2 S2 → (∀ b, b < 426 → m2.1 b = m1.1 b) → K r m2) → d m1 K) (hI : Inv S2)
    (kk : ∀ r m2 S2, Sim m2 S2 → P r r m2) : c (fun r m1 => d m1 (fun r2 m2 => P r r2 m2)) :=
  hc _ (fun m1 c1 u1 => hd m1 _ (RefR_up h.1 u1) (fun m2 r2 l2 => kk _ _ S2 (sim_of r2 c1 hI l2)))
theorem ClsR_text {m m2 : Mm} {S : AS} {t : List Int32} {f : Int32} (hI : Inv S) (h : ClsR m S) (hc : ∀ b, ccell b → b ≠ 0 → b ≠ 241 → m2.1 b = m.1 b) (h14 : m2.1 0 14 = nI t.length) (ht : ∀ i x, t[i]? = some x → m2.1 241 i = x) (hf : m2.1 0 15 = f) : ClsR m2 (sg S, sh S, ss S, t, f) := by
  have h2 : ClsR (fun b j => if b = 0 then m.1 b j else if b = 241 then m.1 b j else m2.1 b j, m2.2) S := ClsR_congr hI h (fun b hb => by
    funext j
    show (if b = 0 then m.1 b j else if b = 241 then m.1 b j else m2.1 b j) = m.1 b j
    by_cases q : b = 0
    · rw [if_pos q]
    · rw [if_neg q]
      by_cases q2 : b = 241
      · rw [if_pos q2]
      · rw [if_neg q2, hc b hb q q2])
  have e : ∀ b, b ≠ 0 → b ≠ 241 → m2.1 b = (fun b j => if b = 0 then m.1 b j else if b = 241 then m.1 b j else m2.1 b j : Nat → Nat → Int32) b := fun b q1 q2 => by
    funext j
    show m2.1 b j = if b = 0 then m.1 b j else if b = 241 then m.1 b j else m2.1 b j
    rw [if_neg q1, if_neg q2]
  obtain ⟨c1, c2, ⟨c3, o, ho, c4, c5⟩, c6, c7, c8⟩ := h2
  refine ⟨desR_congr hI.1.ple c1 (fun b h1 h2 => e b (by omega) (by omega)), limR_congr c2 (e 265 (by omega) (by omega)) (e 266 (by omega) (by omega)), ⟨by rw [e 33 (by omega) (by omega)]; exact c3, o, ho, by rw [e 33 (by omega) (by omega)]; exact c4, fun j v hv => ?_⟩, fun q hq => ?_, ⟨h14, ht⟩, hf⟩
  · obtain ⟨d1, d2⟩ := c5 j v hv
    have hvD := (hI.2.2.2.1 v (List.mem_of_getElem? hv)).1
    exact ⟨desR_congr hvD.ple d1 (fun b h1 h2 => e b (by omega) (by omega)), limR_congr d2 (e _ (by omega) (by omega)) (e _ (by omega) (by omega))⟩
  · have := c6 q hq
    show match ss S q with | none => _ | some v => _
    cases hs : ss S q with
    | none => rw [hs] at this; rw [e 32 (by omega) (by omega)]; exact this
    | some v =>
      rw [hs] at this
      exact ⟨by rw [e 32 (by omega) (by omega)]; exact this.1, desR_congr (hI.2.2.2.2.1 q v hs).ple this.2 (fun b h1 h2 => e b (by omega) (by omega))⟩
theorem RefR_text {m m2 : Mm} {S : AS} {t : List Int32} {f : Int32} (h : RefR m S) (hc : ∀ b, b = 427 ∨ b = 429 ∨ b = 430 ∨ b = 431 → m2.1 b = m.1 b) (h4 : m2.1 426 4 = m.1 426 4) (h12 : m2.1 426 12 = nI t.length) (ht : ∀ i x, t[i]? = some x → m2.1 436 i = x) (hf : m2.1 426 13 = f) : RefR m2 (sg S, sh S, ss S, t, f) := by
  obtain ⟨r1, r2, r3, r4, r5⟩ := h
  refine ⟨by rw [hc 427 (by omega)]; exact r1, by rw [hc 429 (by omega), h4]; exact r2, by rw [hc 430 (by omega), hc 431 (by omega)]; exact r3, ⟨h12, ht⟩, hf⟩
theorem text_snoc {f : Nat → Int32} {t : List Int32} {x : Int32} (h : ∀ i y, t[i]? = some y → f i = y) (hx : f t.length = x) : ∀ i y, (t ++ [x])[i]? = some y → f i = y := by
  intro i y hy
  by_cases hi : i = t.length
  · subst hi
    rw [List.getElem?_append_right (Nat.le_refl _), Nat.sub_self] at hy
    rw [hx]; exact Option.some.inj hy
  · have hi2 : i < t.length := by
      have h3 : i < (t ++ [x]).length := (List.getElem?_eq_some_iff.mp hy).1
      rw [List.length_append, List.length_singleton] at h3
      omega
    rw [List.getElem?_append_left hi2] at hy
    exact h i y hy
theorem op_type {m : Mm} {S : AS} {x : Int32} {P : Int32 → Int32 → Mm → Prop} (h : Sim m S) (kk : ∀ r m2 S2, Sim m2 S2 → P r r m2) : wp_X11_type x m (fun r m1 => wp_X12_type x m1 (fun r2 m2 => P r r2 m2)) := by
  have hI := h.2.2
  have hl := hI.2.2.2.2.2.1
  have hlen := h.2.1.2.2.2.2.1.1
  have a1 : (0 : Int32).toInt = 0 := rfl
  have a2 : (127 : Int32).toInt = 127 := rfl
  by_cases hx : x.toInt < 0 ∨ 127 < x.toInt
  · refine combine (c := wp_X11_type x m) (d := wp_X12_type x) (r := -1) (S2 := S) h (fun K k1 => ?_) (fun m1 K hR k1 => ?_) hI kk
    · unfold wp_X11_type
      by_cases h1 : x < 0
      · rw [if_pos h1]; exact k1 _ h.2.1 (fun _ _ => rfl)
      · rw [if_neg h1, if_neg (by rw [fa_le]; rw [fa_lt] at h1; omega)]; exact k1 _ h.2.1 (fun _ _ => rfl)
    · unfold wp_X12_type
      rw [if_pos (in_0 (by omega))]; exact k1 _ hR (fun _ _ => rfl)
  · have hx1 : ¬ v_X12_in x 0 127 = 0 := in_ne (by omega) (by omega)
    by_cases h3 : (sx S).length = 160
    · refine combine (c := wp_X11_type x m) (d := wp_X12_type x) (r := -3) (S2 := S) h (fun K k1 => ?_) (fun m1 K hR k1 => ?_) hI kk
      · unfold wp_X11_type
        rw [if_neg (by rw [fa_lt]; omega), if_pos (by rw [fa_le]; omega), if_neg (by rw [hlen]; exact nI_pos (by omega)), if_neg (by rw [hlen, h3]; decide)]
        exact k1 _ h.2.1 (fun _ _ => rfl)
      · unfold wp_X12_type
        rw [if_neg hx1, if_pos (by rw [hR.2.2.2.1.1, h3]; rfl)]
        exact k1 _ hR (fun _ _ => rfl)
    · refine combine (c := wp_X11_type x m) (d := wp_X12_type x) (r := nI ((sx S).length + 1)) (S2 := (sg S, sh S, ss S, sx S ++ [x], sf S)) h (fun K k1 => ?_) (fun m1 K hR k1 => ?_) ?_ kk
      · unfold wp_X11_type
        rw [if_neg (by rw [fa_lt]; omega), if_pos (by rw [fa_le]; omega), if_neg (by rw [hlen]; exact nI_pos (by omega)), if_pos (by rw [hlen]; exact ilt (i := 160) (by omega) (by omega))]
        rintro m5 rfl m6 rfl
        rw [hlen, clamp_nI (by omega), wI_ne _ 241 _ _ (by omega), hlen, nI_1, wI_same]
        refine k1 _ (ClsR_text hI h.2.1 (fun b hb q1 q2 => ?_) ?_ (text_snoc ?_ ?_) ?_) (fun b hb => ?_)
        · funext j; rw [wI_ne _ _ _ _ q1, wI_ne _ _ _ _ q2]
        · rw [wI_same, List.length_append]; rfl
        · intro i y hy
          have hi : i < (sx S).length := (List.getElem?_eq_some_iff.mp hy).1
          rw [wI_ne _ _ _ _ (by omega), wI_nj _ _ _ _ (by omega)]
          exact h.2.1.2.2.2.2.1.2 i y hy
        · rw [wI_ne _ _ _ _ (by omega), wI_same]
        · rw [wI_nj _ _ _ _ (by omega), wI_ne _ _ _ _ (by omega)]; exact h.2.1.2.2.2.2.2
        · funext j; rw [wI_ne _ _ _ _ (by omega), wI_ne _ _ _ _ (by omega)]
      · unfold wp_X12_type
        have hlen2 := hR.2.2.2.1.1
        rw [if_neg hx1, hlen2, if_neg (show ¬ nI (sx S).length = (160 : Int32) from ine (i := 160) h3 (by omega) (by omega))]
        refine ⟨vp_in_nI (by omega) (by omega), ?_⟩
        rintro m7 rfl m8 rfl
        rw [clamp_nI (by omega), wI_ne _ 436 _ _ (by omega), hlen2, nI_1, wI_same]
        refine k1 _ (RefR_text hR (fun b hb => ?_) ?_ ?_ (text_snoc ?_ ?_) ?_) (fun b hb => ?_)
        · funext j; rw [wI_ne _ _ _ _ (by omega), wI_ne _ _ _ _ (by omega)]
        · rw [wI_nj _ _ _ _ (by omega), wI_ne _ _ _ _ (by omega)]
        · rw [wI_same, List.length_append]; rfl
        · intro i y hy
          have hi : i < (sx S).length := (List.getElem?_eq_some_iff.mp hy).1
          rw [wI_ne _ _ _ _ (by omega), wI_nj _ _ _ _ (by omega)]
          exact hR.2.2.2.1.2 i y hy
        · rw [wI_ne _ _ _ _ (by omega), wI_same]
        · rw [wI_nj _ _ _ _ (by omega), wI_ne _ _ _ _ (by omega)]; exact hR.2.2.2.2
        · funext j; rw [wI_ne _ _ _ _ (by omega), wI_ne _ _ _ _ (by omega)]
      · obtain ⟨i1, i2, i3, i4, i5, i6, i7, i8⟩ := hI
        refine ⟨i1, i2, i3, i4, i5, ?_, fun y hy => ?_, i8⟩
        · show (sx S ++ [x]).length ≤ 160; rw [List.length_append, List.length_singleton]; omega
        · rcases List.mem_append.mp hy with q | q
          · exact i7 y q
          · rw [List.mem_singleton.mp q]
            exact ⟨by omega, by omega⟩
theorem op_clearText {m : Mm} {S : AS} {P : Int32 → Int32 → Mm → Prop} (h : Sim m S) (kk : ∀ r m2 S2, Sim m2 S2 → P r r m2) : wp_X11_clearText m (fun r m1 => wp_X12_clearText m1 (fun r2 m2 => P r r2 m2)) := by
  have hI := h.2.2
  refine combine (c := wp_X11_clearText m) (d := wp_X12_clearText) (r := nI (sx S).length) (S2 := (sg S, sh S, ss S, [], sf S)) h (fun K k1 => ?_) (fun m1 K hR k1 => ?_) ?_ kk
  · unfold wp_X11_clearText
    rintro y rfl m2 rfl
    rw [h.2.1.2.2.2.2.1.1]
    refine k1 _ (ClsR_text hI h.2.1 (fun b hb q1 q2 => ?_) (wI_same _ _ _ _) (fun i x hx => by cases hx) ?_) (fun b hb => ?_)
    · funext j; rw [wI_ne _ _ _ _ q1]
    · rw [wI_nj _ _ _ _ (by omega)]; exact h.2.1.2.2.2.2.2
    · funext j; rw [wI_ne _ _ _ _ (by omega)]
  · unfold wp_X12_clearText
    rintro y rfl m2 rfl
    rw [hR.2.2.2.1.1]
    refine k1 _ (RefR_text hR (fun b hb => ?_) ?_ (wI_same _ _ _ _) (fun i x hx => by cases hx) ?_) (fun b hb => ?_)
    · funext j; rw [wI_ne _ _ _ _ (by omega)]
    · rw [wI_nj _ _ _ _ (by omega)]
    · rw [wI_nj _ _ _ _ (by omega)]; exact hR.2.2.2.2
    · funext j; rw [wI_ne _ _ _ _ (by omega)]
  · obtain ⟨i1, i2, i3, i4, i5, i6, i7, i8⟩ := hI
    exact ⟨i1, i2, i3, i4, i5, Nat.zero_le _, fun y hy => (by cases hy), i8⟩
theorem op_faultKind {m : Mm} {S : AS} (h : Sim m S) : v_X11_faultKind m = v_X12_faultKind m := by
  unfold v_X11_faultKind v_X12_faultKind
  rw [h.1.2.2.2.2, h.2.1.2.2.2.2.2]
theorem Dd_row {g g2 : Vc} (h : ∀ k, k < 125 → g2 k = g k) (hD : Dd g) : Dd g2 := by
  have hp := hD.ple
  have e2 : pn g2 = pn g := by unfold pn; rw [h 2 (by omega)]
  have hr := rect_congr (g := g) (g2 := g2) (fun k hk _ => h k hk)
  have hf : ∀ k j, k < 10 → j < 11 → pf g2 k j = pf g k j := fun k j hk hj => h _ (by omega)
  obtain ⟨⟨d1, d2, d3, d4, d5, d6, d7⟩, d8⟩ := hD
  refine ⟨⟨by rw [h 0 (by omega)]; exact d1, by rw [h 1 (by omega)]; exact d2, by rw [h 2 (by omega)]; exact d3, fun i hi => ?_, fun q => ?_, fun k hk => ?_, fun k h0 hk => ?_⟩, fun k hk => ?_⟩
  · rw [h (3 + 2 * i) (by omega), h (4 + 2 * i) (by omega)]; exact d4 i hi
  · rw [h 121 (by omega), h 122 (by omega), h 123 (by omega), h 124 (by omega), hf 0 6 (by omega) (by omega)]
    obtain ⟨q1, q2, q3, q4, q5, q6⟩ := d5 (by omega)
    exact ⟨q1, q2, q3, q4, fun j hj => by rw [hf 0 j (by omega) (by omega)]; exact q5 j hj, q6⟩
  · rw [e2] at hk ⊢
    rw [hf k 6 (by omega) (by omega), hf k 7 (by omega) (by omega), hf k 8 (by omega) (by omega), hf k 9 (by omega) (by omega), hf k 10 (by omega) (by omega)]
    obtain ⟨q1, q2, q3⟩ := d6 k hk
    refine ⟨q1, ?_, q3⟩
    rcases q2 with q | ⟨i, hi, q, q4⟩
    · exact Or.inl q
    · exact Or.inr ⟨i, hi, q, by rw [h (3 + 2 * i) (by omega)]; exact q4⟩
  · rw [e2] at hk
    rw [hf k 0 (by omega) (by omega), hf k 1 (by omega) (by omega), hf k 2 (by omega) (by omega), hf k 3 (by omega) (by omega), hf k 4 (by omega) (by omega), hf k 5 (by omega) (by omega)]
    exact d7 k h0 hk
  · rw [e2] at hk
    obtain ⟨q1, q2, q3⟩ := d8 k hk
    refine ⟨?_, fun h0 => ?_, fun o ho => ?_⟩
    · rw [hr k (by omega), h 0 (by omega), h 1 (by omega)]; exact q1
    · rw [hf k 0 (by omega) (by omega), hf k 1 (by omega) (by omega), hf k 2 (by omega) (by omega), hf k 3 (by omega) (by omega)]
      have hpk : (pf g k 0).toNatClampNeg < 10 := by
        obtain ⟨⟨p, hp1, hp2⟩, -⟩ := d7 k h0 hk
        rw [hp2, clamp_nI (by omega)]
        omega
      rw [hr _ hpk]
      exact q2 h0
    · rw [hr k (by omega), hr o (by omega)]; exact q3 o ho
theorem RB_stop2 {m0 m : Mm} {S : AS} (h : RB m0 m S (sg S)) (hC : ClsR m0 S) (hI : Inv S) : Sim m S := sim_of (RB_stop h) hC hI h.2.2.2.2
theorem vset_lim {m : Mm} {S : AS} {k : Nat} {x : Int32} (hI : Inv S) (hk : 125 ≤ k) {m2 : Mm} {hs : List Vc} (hC : ClsR m (sg S, hs, S.2.2)) (hD : ∀ v ∈ hs, Dd v ∧ Ll v) (hl : limR m2.1 265 266 (vset (sg S) k x)) (hm : ∀ b, b ≠ 265 → b ≠ 266 → m2.1 b = m.1 b) : ClsR m2 (vset (sg S) k x, hs, S.2.2) := by
  obtain ⟨c1, c2, ⟨c3, o, ho, c4, c5⟩, c6, c7, c8⟩ := hC
  refine ⟨desR_row (g := sg S) hI.1.ple (desR_congr hI.1.ple c1 (fun b h1 h2 => hm b (by omega) (by omega))) (fun j hj => vset_ne _ _ (by omega)), hl, ⟨by rw [hm 33 (by omega) (by omega)]; exact c3, o, ho, by rw [hm 33 (by omega) (by omega)]; exact c4, fun j v hv => ?_⟩, fun q hq => ?_, ?_, ?_⟩
  · obtain ⟨d1, d2⟩ := c5 j v hv
    have hvD := (hD v (List.mem_of_getElem? hv)).1
    exact ⟨desR_congr hvD.ple d1 (fun b h1 h2 => hm b (by omega) (by omega)), limR_congr d2 (hm _ (by omega) (by omega)) (hm _ (by omega) (by omega))⟩
  · have := c6 q hq
    show match ss S q with | none => _ | some v => _
    cases hq2 : ss S q with
    | none =>
      rw [show ss (sg S, hs, S.2.2) q = none from hq2] at this
      rw [hm 32 (by omega) (by omega)]; exact this
    | some v =>
      rw [show ss (sg S, hs, S.2.2) q = some v from hq2] at this
      exact ⟨by rw [hm 32 (by omega) (by omega)]; exact this.1, desR_congr (hI.2.2.2.2.1 q v hq2).ple this.2 (fun b h1 h2 => hm b (by omega) (by omega))⟩
  · exact ⟨by rw [hm 0 (by omega) (by omega)]; exact c7.1, fun i x hx => by rw [hm 241 (by omega) (by omega)]; exact c7.2 i x hx⟩
  · rw [hm 0 (by omega) (by omega)]; exact c8
theorem hist_ok {S : AS} (hI : Inv S) : ∀ v ∈ pushH (sh S) (sg S), Dd v ∧ Ll v := (Inv_push hI hI.1 hI.2.1).2.2.2.1
theorem op_setLimit {m : Mm} {S : AS} {x y : Int32} {P : Int32 → Int32 → Mm → Prop} (h : Sim m S) (kk : ∀ r m2 S2, Sim m2 S2 → P r r m2) : wp_X11_setLimit x y m (fun r m1 => wp_X12_setLimit x y m1 (fun r2 m2 => P r r2 m2)) := by
  have hI := h.2.2
  have a1 : (0 : Int32).toInt = 0 := rfl
  have a2 : (3 : Int32).toInt = 3 := rfl
  have a3 : (4 : Int32).toInt = 4 := rfl
  generalize ht : (if x = (3 : Int32) then (100 : Int32) else (20 : Int32)) = t
  by_cases hx : (0 ≤ x.toInt ∧ x.toInt ≤ 3) ∧ (0 ≤ y.toInt ∧ y.toInt ≤ t.toInt)
  · obtain ⟨⟨x1, x2⟩, y1, y2⟩ := hx
    obtain ⟨k, ek, ek2, ek3⟩ := asN x1
    refine combine (c := wp_X11_setLimit x y m) (d := wp_X12_setLimit x y) (r := sg S (125 + k)) (S2 := (vset (sg S) (125 + k) y, pushH (sh S) (sg S), S.2.2)) h (fun K k1 => ?_) (fun m1 K hR k1 => ?_) ?_ kk
    · unfold wp_X11_setLimit
      rw [if_neg (by rw [fa_lt]; omega), if_neg (by rw [fa_le]; omega), if_pos (by rw [fa_le]; omega), ht]
      rintro y5 rfl
      rw [if_pos ((fa_le _ _).mpr y2)]
      refine remember_ok h.2.1 hI (fun m2 hC hk => ?_)
      rintro y8 rfl m9 rfl
      rw [ek3, hC.2.1.1 k (by omega)]
      refine k1 _ (vset_lim hI (by omega) hC (hist_ok hI) ⟨fun i hi => ?_, fun i hi => ?_⟩ (fun b q1 q2 => ?_)) (fun b hb => ?_)
      · rw [wI_get, if_pos rfl]
        unfold vset
        by_cases e : i = k
        · rw [if_pos e, if_pos (by omega)]
        · rw [if_neg e, if_neg (by omega)]; exact hC.2.1.1 i hi
      · rw [wI_ne _ _ _ _ (by omega), vset_ne _ _ (by omega)]; exact hC.2.1.2 i hi
      · funext j; rw [wI_ne _ _ _ _ q1]
      · funext j; rw [wI_ne _ _ _ _ (by omega), hk.1 b (by omega)]
    · unfold wp_X12_setLimit
      refine RB_begins hR (fun m2 hB => ?_)
      rw [if_neg (in_ne (by omega) (by omega)), ht]
      rintro y5 rfl
      rw [if_neg (in_ne (by omega) y2), ek, show (125 : Int32) = nI 125 from rfl, nI_add]
      refine ⟨vp_in_nI (by omega) (by omega), ?_⟩
      rintro y7 rfl m8 rfl
      rw [clamp_nI (by omega), hB.1 _ (by omega)]
      exact RB_ends hI (RB_put hB) (fun m3 r3 l3 => k1 _ r3 l3)
    · refine Inv_push hI (Dd_row (fun j hj => vset_ne _ _ (by omega)) hI.1) ?_
      obtain ⟨l1, l2, l3⟩ := hI.2.1
      refine ⟨fun i hi => ?_, ?_, fun i hi => by rw [vset_ne _ _ (by omega)]; exact l3 i hi⟩
      · unfold vset
        by_cases e : 125 + i = 125 + k
        · rw [if_pos e]
          rw [if_neg (by rw [fa_eq]; omega)] at ht
          rw [← ht] at y2
          exact ⟨y1, y2⟩
        · rw [if_neg e]; exact l1 i hi
      · unfold vset
        by_cases e : 128 = 125 + k
        · rw [if_pos e]
          rw [if_pos (by rw [fa_eq]; omega)] at ht
          rw [← ht] at y2
          exact ⟨y1, y2⟩
        · rw [if_neg e]; exact l2
  · refine combine (c := wp_X11_setLimit x y m) (d := wp_X12_setLimit x y) (r := -1) (S2 := S) h (fun K k1 => ?_) (fun m1 K hR k1 => ?_) hI kk
    · have k2 := k1 _ h.2.1 (fun _ _ => rfl)
      unfold wp_X11_setLimit
      by_cases q1 : x < 0
      · rw [if_pos q1]; exact k2
      · rw [if_neg q1]
        by_cases q2 : 4 ≤ x
        · rw [if_pos q2]; exact k2
        · rw [if_neg q2]
          by_cases q3 : 0 ≤ y
          · rw [if_pos q3, ht]
            rintro y5 rfl
            rw [fa_lt] at q1
            rw [fa_le] at q2 q3
            rw [if_neg (by rw [fa_le]; omega)]; exact k2
          · rw [if_neg q3]; exact k2
    · unfold wp_X12_setLimit
      refine RB_begins hR (fun m2 hB => ?_)
      have k2 := k1 _ (RB_stop hB) hB.2.2.2.2
      by_cases q1 : 0 ≤ x.toInt ∧ x.toInt ≤ 3
      · rw [if_neg (in_ne (by omega) (by omega)), ht]
        rintro y5 rfl
        rw [if_pos (in_0 (by omega))]; exact k2
      · rw [if_pos (in_0 (by omega))]; exact k2
theorem op_setWeight {m : Mm} {S : AS} {x y : Int32} {P : Int32 → Int32 → Mm → Prop} (h : Sim m S) (kk : ∀ r m2 S2, Sim m2 S2 → P r r m2) : wp_X11_setWeight x y m (fun r m1 => wp_X12_setWeight x y m1 (fun r2 m2 => P r r2 m2)) := by
  have hI := h.2.2
  have a1 : (0 : Int32).toInt = 0 := rfl
  have a2 : (7 : Int32).toInt = 7 := rfl
  have a3 : (8 : Int32).toInt = 8 := rfl
  have a4 : (9 : Int32).toInt = 9 := rfl
  by_cases hx : (0 ≤ x.toInt ∧ x.toInt ≤ 7) ∧ (0 ≤ y.toInt ∧ y.toInt ≤ 9)
  · obtain ⟨⟨x1, x2⟩, y1, y2⟩ := hx
    obtain ⟨k, ek, ek2, ek3⟩ := asN x1
    refine combine (c := wp_X11_setWeight x y m) (d := wp_X12_setWeight x y) (r := sg S (129 + k)) (S2 := (vset (sg S) (129 + k) y, pushH (sh S) (sg S), S.2.2)) h (fun K k1 => ?_) (fun m1 K hR k1 => ?_) ?_ kk
    · unfold wp_X11_setWeight
      rw [if_neg (by rw [fa_lt]; omega), if_neg (by rw [fa_le]; omega), if_neg (by rw [fa_lt]; omega), if_pos (by rw [fa_le]; omega)]
      refine remember_ok h.2.1 hI (fun m2 hC hk => ?_)
      rintro y8 rfl m9 rfl
      rw [ek3, hC.2.1.2 k (by omega)]
      refine k1 _ (vset_lim hI (by omega) hC (hist_ok hI) ⟨fun i hi => ?_, fun i hi => ?_⟩ (fun b q1 q2 => ?_)) (fun b hb => ?_)
      · rw [wI_ne _ _ _ _ (by omega), vset_ne _ _ (by omega)]; exact hC.2.1.1 i hi
      · rw [wI_get, if_pos rfl]
        unfold vset
        by_cases e : i = k
        · rw [if_pos e, if_pos (by omega)]
        · rw [if_neg e, if_neg (by omega)]; exact hC.2.1.2 i hi
      · funext j; rw [wI_ne _ _ _ _ q2]
      · funext j; rw [wI_ne _ _ _ _ (by omega), hk.1 b (by omega)]
    · unfold wp_X12_setWeight
      refine RB_begins hR (fun m2 hB => ?_)
      rw [if_neg (in_ne (by omega) (by omega)), if_neg (in_ne (by omega) (by omega)), ek, show (129 : Int32) = nI 129 from rfl, nI_add]
      refine ⟨vp_in_nI (by omega) (by omega), ?_⟩
      rintro y7 rfl m8 rfl
      rw [clamp_nI (by omega), hB.1 _ (by omega)]
      exact RB_ends hI (RB_put hB) (fun m3 r3 l3 => k1 _ r3 l3)
    · refine Inv_push hI (Dd_row (fun j hj => vset_ne _ _ (by omega)) hI.1) ?_
      obtain ⟨l1, l2, l3⟩ := hI.2.1
      refine ⟨fun i hi => by rw [vset_ne _ _ (by omega)]; exact l1 i hi, by rw [vset_ne _ _ (by omega)]; exact l2, fun i hi => ?_⟩
      unfold vset
      by_cases e : 129 + i = 129 + k
      · rw [if_pos e]; exact ⟨y1, y2⟩
      · rw [if_neg e]; exact l3 i hi
  · refine combine (c := wp_X11_setWeight x y m) (d := wp_X12_setWeight x y) (r := -1) (S2 := S) h (fun K k1 => ?_) (fun m1 K hR k1 => ?_) hI kk
    · have k2 := k1 _ h.2.1 (fun _ _ => rfl)
      unfold wp_X11_setWeight
      by_cases q1 : x < 0
      · rw [if_pos q1]; exact k2
      · rw [if_neg q1]
        by_cases q2 : 8 ≤ x
        · rw [if_pos q2]; exact k2
        · rw [if_neg q2]
          by_cases q3 : y < 0
          · rw [if_pos q3]; exact k2
          · rw [fa_lt] at q1 q3
            rw [fa_le] at q2
            rw [if_neg (by rw [fa_lt]; exact q3), if_neg (by rw [fa_le]; omega)]; exact k2
    · unfold wp_X12_setWeight
      refine RB_begins hR (fun m2 hB => ?_)
      have k2 := k1 _ (RB_stop hB) hB.2.2.2.2
      by_cases q1 : 0 ≤ x.toInt ∧ x.toInt ≤ 7
      · rw [if_neg (in_ne (by omega) (by omega)), if_pos (in_0 (by omega))]; exact k2
      · rw [if_pos (in_0 (by omega))]; exact k2
