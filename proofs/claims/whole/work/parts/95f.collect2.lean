/-! the class collects: print, breaks, all -/
theorem hangs_c {d : Nat} {g : Vc} {m : Mm} {o k s : Nat} (hr : rngD g) (hd : desR m.1 d g) (ho : o < pn g) (hk : k < 10) (hs : s < 4) : v_X7_hangsOn (d + 5 + o) (nI k) (nI s) m = if 0 < o ∧ pf g o 0 = nI k ∧ pf g o 1 = nI s then 1 else 0 := by
  have hP := hd.2.2.2.2 o ho
  have e9 : (-9 : Int32).toInt = -9 := rfl
  unfold v_X7_hangsOn
  by_cases z : 0 < o
  · rw [hP.2.2.1 z 0 (by omega), hP.2.2.1 z 1 (by omega)]
    by_cases z1 : pf g o 0 = nI k
    · rw [if_pos z1]
      by_cases z2 : pf g o 1 = nI s
      · rw [if_pos z2, if_pos ⟨z, z1, z2⟩]
      · rw [if_neg z2, if_neg (fun q => z2 q.2.2)]
    · rw [if_neg z1, if_neg (fun q => z1 q.2.1)]
  · rw [(hP.2.1 (by omega)).1, if_neg (fun q => by have := congrArg Int32.toInt q; rw [nI_toInt (by omega)] at this; omega), if_neg (fun q => z q.1)]
theorem ifo_sm (f : Nat → Nat) (a : Nat) : ∀ n, ifo (fun o y => y + nI (f o)) (0 : Int32) a n = nI (fb_sm (fun i => f (a + i)) n) := by
  intro n
  induction n with
  | zero => rfl
  | succ n ih =>
    show ifo (fun o y => y + nI (f o)) (0 : Int32) a n + nI (f (a + n)) = _
    rw [ih, nI_add, fb_sm_succ]
theorem sdL_e {g : Vc} (hr : rngD g) {k s : Nat} (hk : k < pn g) : (if s % 2 = 0 then (rect g k).2.2.1 else (rect g k).2.2.2) = nI (sdL g k s) ∧ sdL g k s ≤ 300 := by
  obtain ⟨-, -, ⟨b5, b6⟩, b7, b8⟩ := rect_b hr hk
  unfold sdL
  by_cases z : s % 2 = 0
  · rw [if_pos z]
    obtain ⟨v, v1, v2, v3⟩ := asN (x := (rect g k).2.2.1) (by omega)
    rw [v3]
    exact ⟨v1, by omega⟩
  · rw [if_neg z]
    obtain ⟨v, v1, v2, v3⟩ := asN (x := (rect g k).2.2.2) (by omega)
    rw [v3]
    exact ⟨v1, by omega⟩
theorem chS_e {g : Vc} (hr : rngD g) {k s o : Nat} (ho : o < pn g) (h0 : 0 < o) : (if 0 < o ∧ pf g o 0 = nI k ∧ pf g o 1 = nI s then pf g o 3 else 0) = nI (chS g k s o) := by
  obtain ⟨-, -, -, ⟨u3, u4⟩, -⟩ := hr.2.2.2.2.2.2 o h0 ho
  obtain ⟨v, v1, v2, v3⟩ := asN (x := pf g o 3) (by omega)
  unfold chS
  by_cases z : pf g o 0 = nI k ∧ pf g o 1 = nI s
  · rw [if_pos ⟨h0, z⟩, if_pos z, v3]; exact v1
  · rw [if_neg (fun q => z q.2), if_neg z]; rfl
theorem callf_ok {d : Nat} {g : Vc} {m : Mm} {k s : Nat} {K : Int32 → Mm → Prop} (hD : Dd g) (hd : desR m.1 d g) (hk : k < pn g) (hs : s < 4) (kk : ∀ y, flag y (aFo g k s = true) → K y m) : wp_X3_isAllFolds d (nI k) (nI s) m K := by
  have hr := hD.r
  have hp1 := hD.ple
  have h4 : m.1 d 4 = nI (pn g) := by rw [hd.2.2.1]; exact hD.g2
  have e9 : (-9 : Int32).toInt = -9 := rfl
  unfold wp_X3_isAllFolds
  rw [panelAt_in (by omega), near_c hr hd hk]
  have hfs := fsum_le hD hk hs
  obtain ⟨sl1, sl2⟩ := sdL_e (s := s) hr hk
  have hsl : v_X7_sideLength (d + 5 + k) (nI s) m = nI (sdL g k s) := by
    obtain ⟨-, -, q3, q4⟩ := (hd.2.2.2.2 k hk).R
    unfold v_X7_sideLength
    rw [q3, q4, and_1, ← sl1]
    by_cases z : s % 2 = 0
    · rw [if_pos z, z, if_pos (show nI 0 = (0 : Int32) from rfl)]
    · rw [if_neg z, if_neg (show ¬ nI (s % 2) = (0 : Int32) from ine (i := 0) z (by omega) (by omega))]
  by_cases hn : 0 < k ∧ nearN g k = s
  · rw [if_pos hn.1, hn.2, if_pos rfl]
    exact kk 1 (Or.inl ⟨rfl, by unfold aFo; rw [decide_eq_true hn.1, decide_eq_true hn.2]; rfl⟩)
  · have hne : ¬ (if 0 < k then nI (nearN g k) else -9) = nI s := by
      by_cases z : 0 < k
      · rw [if_pos z]; exact ine (fun q => hn ⟨z, q⟩) (by have := nearN_lt g k; omega) (by omega)
      · rw [if_neg z]; exact fun q => by have := congrArg Int32.toInt q; rw [nI_toInt (by omega)] at this; omega
    rw [if_neg hne, nI_1]
    rintro y2 rfl
    refine acc_loop (wp := fun n i y => wp_X3_isAllFolds_l24 _ K d (nI k) (nI s) (d + 5 + k) n y i m) (a := k + 1) (N := pn g) (fun o y => y + nI (chS g k s o)) (by omega) (by omega) (fun n i h1 h2 => ?_) (fun n i y h1 h2 k2 => ?_)
    · show wb_X3_isAllFolds_l24 _ _ _ _ _ _ _ _ _ _
      unfold wb_X3_isAllFolds_l24
      rw [h4, if_pos (ile h1 (by omega)), ifo_sm, fsum_tail hD hk]
      show ∀ y11 : Int32, y11 = (if nI (fsum g k s) < v_X7_sideLength (d + 5 + k) (nI s) m then 0 else 1) → K y11 m
      rw [hsl]
      rintro y11 rfl
      refine kk _ ?_
      have ef : (aFo g k s = true) ↔ fsum g k s = sdL g k s := by
        unfold aFo
        rw [Bool.or_eq_true, Bool.and_eq_true, decide_eq_true_iff, decide_eq_true_iff, decide_eq_true_iff]
        exact ⟨fun q => by rcases q with q | q; exact absurd q hn; exact q, fun q => Or.inr q⟩
      by_cases z : fsum g k s = sdL g k s
      · rw [if_neg (inlt (by omega) (by omega))]; exact Or.inl ⟨rfl, ef.mpr z⟩
      · rw [if_pos (ilt (by omega) (by omega))]; exact Or.inr ⟨rfl, fun q => z (ef.mp q)⟩
    · show wb_X3_isAllFolds_l24 _ _ _ _ _ _ _ _ _ _
      unfold wb_X3_isAllFolds_l24
      rw [h4, if_neg (inle h2 (by omega)), panelAt_in (by omega), hangs_c hr hd h2 (by omega) hs, (hd.2.2.2.2 i h2).2.2.1 (by omega) 3 (by omega)]
      rintro y5 h5 y6 rfl
      have e5 : y5 = nI (chS g k s i) := by
        rw [h5, ← chS_e hr h2 (by omega)]
        by_cases z : 0 < i ∧ pf g i 0 = nI k ∧ pf g i 1 = nI s
        · rw [if_pos z, if_pos z, if_neg (by decide)]
        · rw [if_neg z, if_neg z, if_pos rfl]
      rw [e5]
      exact k2
theorem com_b {a b c d : Int32} {w : Int} (ha : inR a (-50000) 50000) (hb : inR b (-50000) 50000) (hc : inR c (-50000) 50000) (hd : inR d (-50000) 50000) (hw : b.toInt - a.toInt ≤ w) : (v_X11_common a b c d).toInt ≤ w := by
  obtain ⟨a1, a2⟩ := ha
  obtain ⟨b1, b2⟩ := hb
  obtain ⟨c1, c2⟩ := hc
  obtain ⟨d1, d2⟩ := hd
  unfold v_X11_common
  have l := mn_t b d
  have h := mx_t a c
  rw [fb_subI (by split at l <;> split at h <;> omega) (by split at l <;> split at h <;> omega)]
  split at l <;> split at h <;> omega
theorem lo_b {g : Vc} (hr : rngD g) {k : Nat} (hk : k < pn g) (e : Nat) : inR (lo2 g e k) (-6000) 6000 ∧ inR (hi2 g e k) (-7000) 7000 := by
  obtain ⟨⟨b1, b2⟩, ⟨b3, b4⟩, ⟨b5, b6⟩, b7, b8⟩ := rect_b hr hk
  have e1 : ((rect g k).1 + (rect g k).2.2.1).toInt = (rect g k).1.toInt + (rect g k).2.2.1.toInt := add_t (by omega) (by omega) (by omega) (by omega)
  have e2 : ((rect g k).2.1 + (rect g k).2.2.2).toInt = (rect g k).2.1.toInt + (rect g k).2.2.2.toInt := add_t (by omega) (by omega) (by omega) (by omega)
  unfold lo2 hi2 inR
  constructor
  · split <;> omega
  · split <;> omega
theorem sW_b {g : Vc} (hl : Ll g) {k s : Nat} : (sW g k s).toInt ≤ 20 := by
  obtain ⟨l1, l2⟩ : inR (g 126) 0 20 := hl.1 1 (by omega)
  unfold sW
  have := mn_t (aReach g k (nI s)) (g 126)
  split at this <;> omega
theorem stl_b {g : Vc} (hr : rngD g) (hl : Ll g) {k s : Nat} (hk : k < pn g) (h0 : 0 < (sW g k s).toInt) : inR (stl g k s) (-8000) 8000 := by
  obtain ⟨⟨a1, a2⟩, ⟨a3, a4⟩⟩ := lo_b hr hk (1 - s % 2)
  have sb := sW_b (k := k) (s := s) hl
  unfold stl inR
  by_cases z : s = 0 ∨ s = 3
  · rw [if_pos z, sub_t (by omega) (by omega) (by omega) (by omega)]; omega
  · rw [if_neg z]; omega
theorem ins_b {g : Vc} (hr : rngD g) (hl : Ll g) {k s o : Nat} (hk : k < pn g) (ho : o < pn g) (h0 : 0 < (sW g k s).toInt) : (ins g k s o).toInt ≤ 90000 := by
  have h1 := stl_b hr hl hk h0
  have sb := sW_b (k := k) (s := s) hl
  obtain ⟨c1, c2⟩ := lo_b hr ho (1 - s % 2)
  obtain ⟨s1, s2⟩ := h1
  have e : (stl g k s + sW g k s).toInt = (stl g k s).toInt + (sW g k s).toInt := add_t (by omega) (by omega) (by omega) (by omega)
  have := com_b (w := 20) (a := stl g k s) (b := stl g k s + sW g k s) ⟨by omega, by omega⟩ ⟨by omega, by omega⟩ (inR_up c1 (by omega) (by omega)) (inR_up c2 (by omega) (by omega)) (by omega)
  unfold ins
  omega
theorem bey_b {g : Vc} (hD : Dd g) (hl : Ll g) {k s : Nat} (hk : k < pn g) (h0 : 0 < (sW g k s).toInt) : (bey g k s).toInt ≤ 90000 := by
  obtain ⟨⟨b1, b2⟩, ⟨b3, b4⟩, ⟨b5, b6⟩, b7, b8⟩ := rect_b hD.r hk
  obtain ⟨⟨g1, g2, g3, g4⟩, -⟩ := hD.2 k hk
  obtain ⟨w1, w2⟩ := hD.r.1
  obtain ⟨w3, w4⟩ := hD.r.2.1
  have sb := sW_b (k := k) (s := s) hl
  have e1 : ((rect g k).1 + (rect g k).2.2.1).toInt = (rect g k).1.toInt + (rect g k).2.2.1.toInt := add_t (by omega) (by omega) (by omega) (by omega)
  have e2 : ((rect g k).2.1 + (rect g k).2.2.2).toInt = (rect g k).2.1.toInt + (rect g k).2.2.2.toInt := add_t (by omega) (by omega) (by omega) (by omega)
  have e3 : ((rect g k).1 + (rect g k).2.2.1 + sW g k s).toInt = _ := add_t (by omega) (by omega) (by omega) (by omega)
  have e4 : ((rect g k).2.1 + (rect g k).2.2.2 + sW g k s).toInt = _ := add_t (by omega) (by omega) (by omega) (by omega)
  unfold bey
  split
  · rw [sub_t (by omega) (by omega) (by omega) (by omega)]; omega
  · split
    · rw [sub_t (by omega) (by omega) (by omega) (by omega)]; omega
    · split
      · rw [sub_t (by omega) (by omega) (by omega) (by omega)]; omega
      · rw [sub_t (by omega) (by omega) (by omega) (by omega)]; omega
theorem bl_b {g : Vc} (hl : Ll g) {k s : Nat} (h : ¬ aReach g k (nI s) = -9) : (g 126 - aReach g k (nI s)).toInt ≤ 90000 := by
  obtain ⟨l1, l2⟩ : inR (g 126) 0 20 := hl.1 1 (by omega)
  have hr : 0 ≤ (aReach g k (nI s)).toInt := by
    unfold aReach at h ⊢
    by_cases z : aShow g k = 0
    · rw [if_pos z] at h; exact absurd rfl h
    · rw [if_neg z] at h ⊢
      by_cases z2 : aFar g k (nI s) < 0
      · rw [if_pos z2] at h; exact absurd rfl h
      · rw [if_neg z2]
        rw [fa_lt] at z2
        have e0 : (0 : Int32).toInt = 0 := rfl
        omega
  have hm := fb_rng (aReach g k (nI s))
  rw [fb_subI (by omega) (by omega)]
  omega
theorem INo_len (g : Vc) (k s o : Nat) : (INo g k s o).length ≤ 1 := by
  unfold INo
  split
  · exact Nat.zero_le _
  · split
    · exact Nat.zero_le _
    · split
      · exact Nat.zero_le _
      · exact em_len _ _ _ _ _ _
theorem cintr_ok {d : Nat} {g : Vc} {m0 m : Mm} {l : List Fnd} {k s : Nat} {K : Mm → Prop} (hD : Dd g) (hl : Ll g) (hd2 : d < 240) (hk : k < pn g) (hs : s < 4) (h0 : 0 < (sW g k s).toInt) (h : CR d g m0 m l) (hn : l.length + 10 ≤ 1000) (kk : ∀ m2, CR d g m0 m2 (l ++ flL (INo g k s) 0 (pn g)) → K m2) : wp_X4_collectIntrusions d (nI k) (nI s) (sW g k s) m K := by
  have hr := hD.r
  have hp1 := hD.ple
  have h4 : ∀ s, Cst d g s → s.1 d 4 = nI (pn g) := fun s q => by rw [q.1.2.2.1]; exact hD.g2
  obtain ⟨r1, r2, r3, r4⟩ := (h.1.1.2.2.2.2 k hk).R
  unfold wp_X4_collectIntrusions
  rw [panelAt_in (by omega), and_1, r3, r4, d_pf h.1.1 hk (by omega) (by omega), d_pf h.1.1 hk (by omega) (by omega), c_right hr h.1.1 hk, c_upper hr h.1.1 hk]
  intro y2 h2 y4 h4' y5 h5 y7 h7 y9 h9 y12 h12 y14 h14
  have n10 : ¬ (1 : Int32) = 0 := by decide
  have hy2 : y2 = if s % 2 = 0 then 1 else 0 := by
    rw [h2]
    by_cases z : s % 2 = 0
    · rw [if_pos z, z, if_pos (show nI 0 = (0 : Int32) from rfl)]
    · rw [if_neg z, if_neg (show ¬ nI (s % 2) = (0 : Int32) from ine (i := 0) z (by omega) (by omega))]
  have e4 : y4 = nI (s % 2) := by
    rw [h4', hy2]
    by_cases z : s % 2 = 0
    · rw [if_pos z, if_neg n10, z]; rfl
    · rw [if_neg z, if_pos rfl, show s % 2 = 1 by omega]; rfl
  have e5 : y5 = nI (1 - s % 2) := by
    rw [h5, e4]
    exact nI_sub (a := 1) (by omega)
  have e7 : y7 = inkL g (s % 2) k := by
    rw [h7, hy2]
    unfold inkL
    by_cases z : s % 2 = 0
    · rw [if_pos z, if_neg n10, if_pos z]
    · rw [if_neg z, if_pos rfl, if_neg z]
  have e9 : y9 = inkH g (s % 2) k := by
    rw [h9, hy2]
    unfold inkH
    by_cases z : s % 2 = 0
    · rw [if_pos z, if_neg n10, if_pos z]
    · rw [if_neg z, if_pos rfl, if_neg z]
  have el : ∀ (mm : Mm) o, Cst d g mm → o < pn g → ∀ e, e < 2 → v_X7_lowOn (d + 5 + o) (nI e) mm = lo2 g e o ∧ v_X7_highOn (d + 5 + o) (nI e) mm = hi2 g e o := fun mm o hc ho e he => by
    obtain ⟨r1, r2, r3, r4⟩ := (hc.1.2.2.2.2 o ho).R
    unfold v_X7_lowOn v_X7_highOn lo2 hi2
    rw [r1, r2, r3, r4]
    have : e = 0 ∨ e = 1 := by omega
    rcases this with z | z <;> subst z
    · rw [if_pos (show nI 0 = (0 : Int32) from rfl), if_pos (show nI 0 = (0 : Int32) from rfl), if_pos rfl, if_pos rfl]; exact ⟨rfl, rfl⟩
    · rw [if_neg (show ¬ nI 1 = (0 : Int32) by decide), if_neg (show ¬ nI 1 = (0 : Int32) by decide), if_neg (by decide), if_neg (by decide)]; exact ⟨rfl, rfl⟩
  have e14 : y14 = stl g k s := by
    rw [h14, h12, e5, (el m k h.1 hk (1 - s % 2) (by omega)).1, (el m k h.1 hk (1 - s % 2) (by omega)).2]
    unfold stl
    by_cases z0 : s = 0
    · rw [if_pos (show nI s = (0 : Int32) by rw [z0]; rfl), if_neg n10, if_pos (Or.inl z0)]
    · rw [if_neg (show ¬ nI s = (0 : Int32) from ine (i := 0) z0 (by omega) (by omega))]
      by_cases z3 : s = 3
      · rw [if_pos (show nI s = (3 : Int32) by rw [z3]; rfl), if_neg n10, if_pos (Or.inr z3)]
      · rw [if_neg (show ¬ nI s = (3 : Int32) from ine (i := 3) z3 (by omega) (by omega)), if_pos rfl, if_neg (by omega)]
  rw [e4, e5, e7, e9, e14]
  refine app_loop (wp := fun n i s2 => wp_X4_collectIntrusions_l150 K d (nI k) (nI s) (sW g k s) (d + 5 + k) (nI (s % 2)) (nI (1 - s % 2)) (inkL g (s % 2) k) (inkH g (s % 2) k) (stl g k s) n i s2) (R := fun s l => CR d g m0 s l) (INo g k s) (a := 0) (N := pn g) (c := 1) (B := 1000) (by omega) (by omega) (fun i _ _ => INo_len _ _ _ _) (by omega) ?_ ?_ h
  · intro n i s2 h1 h2 h3
    show wb_X4_collectIntrusions_l150 _ _ _ _ _ _ _ _ _ _ _ _ _ _
    unfold wb_X4_collectIntrusions_l150
    rw [h4 s2 h3.1, if_pos (ile h1 (by omega))]
    exact kk s2 h3
  · intro n o s2 l2 _ ho h3 h6 k2
    show wb_X4_collectIntrusions_l150 _ _ _ _ _ _ _ _ _ _ _ _ _ _
    unfold wb_X4_collectIntrusions_l150
    rw [h4 s2 h3.1, if_neg (inle ho (by omega)), panelAt_in (by omega), hangs_c hr h3.1.1 ho (by omega) hs, near_c hr h3.1.1 hk, (el s2 k h3.1 hk (s % 2) (by omega)).1, (el s2 o h3.1 ho (s % 2) (by omega)).1, (el s2 o h3.1 ho (s % 2) (by omega)).2, (el s2 o h3.1 ho (1 - s % 2) (by omega)).1, (el s2 o h3.1 ho (1 - s % 2) (by omega)).2]
    intro y19 h19 y20 h20
    have g20 : y20 = bes g k s o := h20
    have hP := h3.1.1.2.2.2.2 k hk
    have e9' : (-9 : Int32).toInt = -9 := rfl
    have F19 : flag y19 (joinB g k s o = true) := by
      unfold joinB
      rw [h19]
      by_cases z1 : 0 < o ∧ pf g o 0 = nI k ∧ pf g o 1 = nI s
      · rw [if_pos z1, if_neg (by decide)]
        exact Or.inl ⟨rfl, by rw [decide_eq_true z1.1, decide_eq_true z1.2.1, decide_eq_true z1.2.2]; rfl⟩
      · rw [if_neg z1, if_pos rfl]
        have n1 : (decide (0 < o) && decide (pf g o 0 = nI k) && decide (pf g o 1 = nI s)) = false := by
          cases hh : (decide (0 < o) && decide (pf g o 0 = nI k) && decide (pf g o 1 = nI s)) with
          | false => rfl
          | true =>
            rw [Bool.and_eq_true, Bool.and_eq_true, decide_eq_true_iff, decide_eq_true_iff, decide_eq_true_iff] at hh
            exact absurd ⟨hh.1.1, hh.1.2, hh.2⟩ z1
        rw [n1, Bool.false_or]
        by_cases zk : 0 < k
        · rw [hP.2.2.1 zk 0 (by omega), if_pos zk, decide_eq_true zk, Bool.true_and]
          by_cases z2 : pf g k 0 = nI o
          · rw [if_pos z2, decide_eq_true z2, Bool.true_and]
            by_cases z3 : nearN g k = s
            · rw [z3, if_pos rfl]; exact Or.inl ⟨rfl, decide_eq_true rfl⟩
            · rw [if_neg (show ¬ nI (nearN g k) = nI s from ine z3 (by have := nearN_lt g k; omega) (by omega))]
              exact Or.inr ⟨rfl, fun q => z3 (of_decide_eq_true q)⟩
          · rw [if_neg z2, decide_eq_false z2, Bool.false_and]
            exact Or.inr ⟨rfl, by decide⟩
        · rw [(hP.2.1 (by omega)).1, if_neg (fun q => by have := congrArg Int32.toInt q; rw [nI_toInt (by omega)] at this; omega), decide_eq_false zk]
          exact Or.inr ⟨rfl, by simp⟩
    have kn : INo g k s o = [] → wp_X4_collectIntrusions_l150 K d (nI k) (nI s) (sW g k s) (d + 5 + k) (nI (s % 2)) (nI (1 - s % 2)) (inkL g (s % 2) k) (inkH g (s % 2) k) (stl g k s) n (nI o + 1) s2 := fun z => k2 s2 (by rw [z, List.append_nil]; exact h3)
    unfold INo at kn k2
    rw [if_nI (by omega) (by omega)]
    by_cases z0 : o = k
    · rw [if_pos z0]; exact kn (by rw [if_pos z0])
    rw [if_neg z0]
    rw [if_neg z0] at kn k2
    rcases F19 with ⟨u1, u2⟩ | ⟨u1, u2⟩
    · rw [if_neg (by rw [u1]; decide)]
      exact kn (by rw [if_pos u2])
    · rw [if_pos u1]
      rw [if_neg u2] at kn k2
      rw [g20]
      by_cases z1 : bes g k s o ≤ 0
      · rw [if_pos z1]; exact kn (by rw [if_pos z1])
      · rw [if_neg z1]
        rw [if_neg z1] at k2
        intro y24 h24
        have g24 : y24 = ins g k s o := h24
        rw [g24]
        exact cadd3 (kd := 5) (sc := s + 1) (oc := o + 1) hp1 hd2 hl h3 (by omega) (by omega) (by omega) (by omega) (by omega) rfl (cdI_s s) (cdI_s o) (ins_b hr hl hk ho h0) (fun m4 c4 => k2 m4 c4)
