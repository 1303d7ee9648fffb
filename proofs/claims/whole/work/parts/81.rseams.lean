/-! the reference's search for seams -/
def sFd (g : Vc) (s : Qd) : Int32 := if pf g s.2.2.1 0 = nI s.1 then (if pf g s.2.2.1 1 = nI s.2.1 then (if (s.2.1 + 2) % 4 = s.2.2.2 then 1 else 0) else 0) else 0
def rSm (m : Mm) (g : Vc) (an : Nat → Int32) (l : List Qd) : Prop := m.1 426 25 = nI l.length ∧ ∀ i s, l[i]? = some s → m.1 446 (9 * i) = nI s.1 ∧ m.1 446 (9 * i + 1) = nI s.2.1 ∧ m.1 446 (9 * i + 2) = nI s.2.2.1 ∧ m.1 446 (9 * i + 3) = nI s.2.2.2 ∧
  m.1 446 (9 * i + 4) = nI (zA g an s.1 s.2.1) ∧ m.1 446 (9 * i + 5) = sL g an s ∧ m.1 446 (9 * i + 6) = sH g an s ∧ m.1 446 (9 * i + 7) = sG g an s ∧ m.1 446 (9 * i + 8) = sFd g s
def frQ (m m2 : Mm) : Prop := ∀ b j, b ≠ 446 → ¬ (b = 426 ∧ j = 25) → m2.1 b j = m.1 b j
theorem frQ.c {m m2 : Mm} (f : frQ m m2) {b : Nat} (h : b ≠ 446) (h2 : b ≠ 426) : m2.1 b = m.1 b := funext fun j => f b j h (fun q => h2 q.1)
theorem stR_Q {m m2 : Mm} {g : Vc} (h : stR m g) (f : frQ m m2) : stR m2 g := fun k hk => by rw [f.c (by omega) (by omega)]; exact h k hk
theorem flatR_Q {m m2 : Mm} {g : Vc} {n : Nat} (h : flatR m g n) (f : frQ m m2) : flatR m2 g n := fun k hk => by
  rw [f.c (b := 432) (by omega) (by omega), f.c (b := 433) (by omega) (by omega), f.c (b := 434) (by omega) (by omega), f.c (b := 435) (by omega) (by omega)]; exact h k hk
theorem fR_Q {m m2 : Mm} {g : Vc} {an : Nat → Int32} {n : Nat} (h : fR m g an n) (f : frQ m m2) : fR m2 g an n := fun k hk => by
  have h2 := h k hk
  unfold pR exR at h2 ⊢
  rw [f.c (b := 439) (by omega) (by omega), f.c (b := 440) (by omega) (by omega), f.c (b := 441) (by omega) (by omega), f.c (b := 442) (by omega) (by omega), f.c (b := 443) (by omega) (by omega), f.c (b := 444) (by omega) (by omega), f.c (b := 445) (by omega) (by omega)]
  exact h2
theorem RefR_Q {m m2 : Mm} {S : AS} (h : RefR m S) (f : frQ m m2) : RefR m2 S :=
  RefR_congr h (f 426 4 (by omega) (by omega)) (f 426 12 (by omega) (by omega)) (f 426 13 (by omega) (by omega)) (fun b hb => f.c (by unfold rcell at hb; omega) (by unfold rcell at hb; omega))
theorem r_ck {m : Mm} {g : Vc} {an : Nat → Int32} (hF : fR m g an (pn g)) (hf : flatR m g (pn g)) {k n c : Nat} (hk : k < pn g) (hk10 : k < 10) (hn : n < 4) (hc : c < 3) : v_X12_cornerOf (nI k) (nI n) (nI c) m = ck g an k n c := by
  obtain ⟨q1, q2, q3, q4⟩ := (hF k hk).1 c hc
  obtain ⟨f1, f2, f3, f4⟩ := hf k hk
  have e3 : (3 : Int32) * nI k + nI c = nI (3 * k + c) := by rw [show (3 : Int32) = nI 3 from rfl, nI_mul, nI_add]
  unfold v_X12_cornerOf ck pcor
  rw [e3, clamp_nI (show 3 * k + c < 2 ^ 31 by omega), clamp_nI (show k < 2 ^ 31 by omega), q1, q2, q3, f3, f4]
  rcases side4 hn with w | w | w | w <;> subst w <;> rfl
theorem r_sck {k c : Nat} {n : Int32} (hk10 : k < 10) (hc : c < 3) : s_X12_cornerOf (nI k) n (nI c) :=
  ⟨in30 hk10 hc, ⟨fun _ => vp_in_nI (by omega) (by omega), fun _ _ => vp_in_nI (by omega) (by omega)⟩, fun _ => vp_in_nI (by omega) (by omega)⟩
theorem r_fc {s : Nat} (hs : s < 4) : v_X12_firstCorner (nI s) = nI (sb0 s) := by rcases side4 hs with w | w | w | w <;> subst w <;> decide
theorem r_lc {s : Nat} (hs : s < 4) : v_X12_lastCorner (nI s) = nI (sb1 s) := by rcases side4 hs with w | w | w | w <;> subst w <;> decide
theorem r_from {m : Mm} {g : Vc} {an : Nat → Int32} (hF : fR m g an (pn g)) (hf : flatR m g (pn g)) {k s c : Nat} (hk : k < pn g) (hk10 : k < 10) (hs : s < 4) (hc : c < 3) : v_X12_sideFrom (nI k) (nI s) (nI c) m = mn32 (ck g an k (sb0 s) c) (ck g an k (sb1 s) c) := by
  unfold v_X12_sideFrom
  rw [r_fc hs, r_lc hs, r_ck hF hf hk hk10 (sb0_lt s) hc, r_ck hF hf hk hk10 (sb1_lt s) hc, mn_least]
theorem r_to {m : Mm} {g : Vc} {an : Nat → Int32} (hF : fR m g an (pn g)) (hf : flatR m g (pn g)) {k s c : Nat} (hk : k < pn g) (hk10 : k < 10) (hs : s < 4) (hc : c < 3) : v_X12_sideTo (nI k) (nI s) (nI c) m = mx32 (ck g an k (sb0 s) c) (ck g an k (sb1 s) c) := by
  unfold v_X12_sideTo
  rw [r_fc hs, r_lc hs, r_ck hF hf hk hk10 (sb0_lt s) hc, r_ck hF hf hk hk10 (sb1_lt s) hc, mx_most]
theorem r_sfrom {k c : Nat} {s : Int32} (hk10 : k < 10) (hc : c < 3) : s_X12_sideFrom (nI k) s (nI c) := ⟨r_sck hk10 hc, r_sck hk10 hc⟩
theorem r_sto {k c : Nat} {s : Int32} (hk10 : k < 10) (hc : c < 3) : s_X12_sideTo (nI k) s (nI c) := ⟨r_sck hk10 hc, r_sck hk10 hc⟩
theorem rsax_ok {m : Mm} {g : Vc} {an : Nat → Int32} {K : Int32 → Mm → Prop} (hr : rngD g) (hF : fR m g an (pn g)) {k s : Nat} (hk : k < pn g) (hs : s < 4) (kk : K (nI (zA g an k s)) m) : wp_X12_sideAxis (nI k) (nI s) m K := by
  have hp1 := hr.par.1
  have b1 := zA_lt (an := an) hr hk s
  unfold wp_X12_sideAxis
  rintro y1 rfl
  refine acc_loop (wp := fun n i y => wp_X12_sideAxis_l10 K (nI s) ((3 : Int32) * nI k) n y i m) (a := 0) (N := 3) (fun a y => if zA g an k s = a then nI a else y) (by omega) (by omega) (fun n i h1 h2 => ?_) (fun n i y h1 h2 k2 => ?_)
  · show wb_X12_sideAxis_l10 _ _ _ _ _ _ _
    unfold wb_X12_sideAxis_l10
    rw [if_pos (show (3 : Int32) ≤ nI i from ile (a := 3) h1 (by omega))]
    have : ifo (fun a (y : Int32) => if zA g an k s = a then nI a else y) 0 0 (3 - 0) = nI (zA g an k s) := by
      rcases tri b1 with z | z | z <;> rw [z] <;> rfl
    rw [this]; exact kk
  · show wb_X12_sideAxis_l10 _ _ _ _ _ _ _
    unfold wb_X12_sideAxis_l10
    have q := (hF k hk).1 i h2
    rw [if_neg (show ¬ (3 : Int32) ≤ nI i from inle (a := 3) h2 (by omega))]
    refine ⟨in30 (by omega) h2, ?_⟩
    have e3 : ((3 : Int32) * nI k + nI i).toNatClampNeg = 3 * k + i := by rw [show (3 : Int32) = nI 3 from rfl, nI_mul, nI_add, clamp_nI (by omega)]
    rw [e3, q.2.1, q.2.2.1, show rm32 (nI s) 2 = nI (s % 2) from rm32_nI (d := 2) (by omega) (by omega) (by omega)]
    rintro y7 h7 y9 h9
    have e : y9 = if zA g an k s = i then nI i else y := by
      rw [h9, h7]
      unfold zA sax
      by_cases z : s % 2 = 0
      · rw [if_pos (show nI (s % 2) = (0 : Int32) by rw [z]; rfl), if_pos z]
        by_cases w : (poseF g an k).1 / 2 = i
        · rw [if_pos w, if_neg (pt_ne.mpr w)]
        · rw [if_neg w, if_pos (Decidable.byContradiction fun u => w (pt_ne.mp u))]
      · rw [if_neg (show ¬ nI (s % 2) = (0 : Int32) from ine (i := 0) z (by omega) (by omega)), if_neg z]
        by_cases w : (poseF g an k).2.1 / 2 = i
        · rw [if_pos w, if_neg (pt_ne.mpr w)]
        · rw [if_neg w, if_pos (Decidable.byContradiction fun u => w (pt_ne.mp u))]
    rw [e]
    exact k2
theorem mn_id (a : Int32) : mn32 a a = a := by unfold mn32; rw [if_neg (by rw [fa_lt]; omega)]
theorem mx3 {a b : Int32} (ha : 0 ≤ a.toInt) (hb : 0 ≤ b.toInt) : mx32 (mx32 0 a) b = mx32 a b ∧ mx32 (mx32 0 b) a = mx32 a b := by
  have e0 : (0 : Int32).toInt = 0 := rfl
  constructor
  · rw [fa_eq, mx_t, mx_t, mx_t]; split <;> split <;> (try split) <;> omega
  · rw [fa_eq, mx_t, mx_t, mx_t]; split <;> split <;> (try split) <;> omega
theorem sub_b {g : Vc} {an : Nat → Int32} (hr : rngD g) {p q : Nat} (hp : p < pn g) (hq : q < pn g) (n1 n2 c1 c2 : Nat) : 0 ≤ (ab32 (ck g an p n1 c1 - ck g an q n2 c2)).toInt := by
  obtain ⟨a1, a2⟩ := ck_b (an := an) hr hp n1 c1
  obtain ⟨a3, a4⟩ := ck_b (an := an) hr hq n2 c2
  have e : (ck g an p n1 c1 - ck g an q n2 c2).toInt = _ := fb_subI (by omega) (by omega)
  rw [ab_t (by omega)]
  split <;> omega
def gpS (g : Vc) (an : Nat → Int32) (p o q t ax : Nat) : Nat → Int32 → Int32 := fun a y => if a = ax then y else v_X12_most y (v_X12_amount (ck g an p (sb0 o) a - ck g an q (sb0 t) a))
theorem gap_eq {g : Vc} {an : Nat → Int32} (hr : rngD g) {p o q t : Nat} (hp : p < pn g) (hq : q < pn g) (h : zA g an p o = zA g an q t) : ifo (gpS g an p o q t (zA g an p o)) 0 0 3 = sG g an (p, o, q, t) := by
  have b1 := zA_lt (an := an) hr hp o
  unfold sG
  rw [← h]
  have n0 := sub_b (an := an) hr hp hq (sb0 o) (sb0 t) 0 0
  have n1 := sub_b (an := an) hr hp hq (sb0 o) (sb0 t) 1 1
  have n2 := sub_b (an := an) hr hp hq (sb0 o) (sb0 t) 2 2
  have e : ∀ ax, ifo (gpS g an p o q t ax) 0 0 3 = gpS g an p o q t ax 2 (gpS g an p o q t ax 1 (gpS g an p o q t ax 0 0)) := fun _ => rfl
  rw [e]
  unfold gpS
  rcases tri b1 with z | z | z <;> rw [z] <;> simp only [← mx_most, ← ab_amount] <;> simp
  · exact (mx3 n1 n2).1
  · exact (mx3 n2 n0).2
  · exact (mx3 n0 n1).1
theorem sL_b {g : Vc} {an : Nat → Int32} (hr : rngD g) {k : Nat} (hk : k < pn g) (s : Nat) : inR (zL g an k s) (-9000) 9000 ∧ inR (zH g an k s) (-9000) 9000 ∧ (zL g an k s).toInt ≤ (zH g an k s).toInt := by
  obtain ⟨a1, a2⟩ := ck_b (an := an) hr hk (sb0 s) (zA g an k s)
  obtain ⟨a3, a4⟩ := ck_b (an := an) hr hk (sb1 s) (zA g an k s)
  unfold zL zH inR
  rw [mn_t, mx_t]
  split <;> omega
theorem sLH_b {g : Vc} {an : Nat → Int32} (hr : rngD g) {s : Qd} (hp : s.1 < pn g) (hq : s.2.2.1 < pn g) : inR (sL g an s) (-9000) 9000 ∧ inR (sH g an s) (-9000) 9000 := by
  obtain ⟨⟨a1, a2⟩, ⟨a3, a4⟩, -⟩ := sL_b (an := an) hr hp s.2.1
  obtain ⟨⟨b1, b2⟩, ⟨b3, b4⟩, -⟩ := sL_b (an := an) hr hq s.2.2.2
  unfold sL sH inR
  rw [mn_t, mx_t]
  split <;> split <;> omega
theorem meet_ok {m : Mm} {g : Vc} {an : Nat → Int32} {tol : Int32} {p o q t : Nat} {l : List Qd} {K : Mm → Prop} (hr : rngD g) (hp : p < q) (ho : o < 4) (hq : q < pn g) (ht : t < 4) (hs : stR m g) (hf : flatR m g (pn g)) (hF : fR m g an (pn g)) (hS : rSm m g an l) (hl : l.length < 720)
    (kk : ∀ m2, rSm m2 g an (sAdd g an tol (p, o, q, t) l) → frQ m m2 → K m2) : wp_X12_meet (nI p) (nI o) (nI q) (nI t) tol m K := by
  have hp1 := hr.par.1
  have hpp : p < pn g := by omega
  have b1 := zA_lt (an := an) hr hpp o
  have b2 := zA_lt (an := an) hr hq t
  unfold sAdd at kk
  unfold wp_X12_meet
  refine rsax_ok hr hF hpp ho ?_
  refine rsax_ok hr hF hq ht ?_
  show (if _ then _ else _)
  rw [if_nI (by omega) (by omega)]
  by_cases c1 : zA g an p o = zA g an q t
  · rw [if_pos c1]
    rw [if_pos c1] at kk
    refine acc_loop (wp := fun n i y => wp_X12_meet_l27 _ K (nI p) (nI o) (nI q) (nI t) tol (nI (zA g an p o)) n y i m) (a := 0) (N := 3) (gpS g an p o q t (zA g an p o)) (by omega) (by omega) (fun n i h1 h2 => ?_) (fun n i y h1 h2 k2 => ?_)
    · show wb_X12_meet_l27 _ _ _ _ _ _ _ _ _ _ _ _
      unfold wb_X12_meet_l27
      rw [if_pos (show (3 : Int32) ≤ nI i from ile (a := 3) h1 (by omega)), show 3 - 0 = 3 from rfl, gap_eq hr hpp hq c1]
      refine ⟨r_sfrom (by omega) b1, r_sfrom (by omega) b1, ?_⟩
      have e1 : v_X12_most (v_X12_sideFrom (nI p) (nI o) (nI (zA g an p o)) m) (v_X12_sideFrom (nI q) (nI t) (nI (zA g an p o)) m) = sL g an (p, o, q, t) := by
        rw [r_from hF hf hpp (by omega) ho b1, r_from hF hf hq (by omega) ht b1, ← mx_most]
        unfold sL zL
        rw [← c1]
      have e2 : v_X12_least (v_X12_sideTo (nI p) (nI o) (nI (zA g an p o)) m) (v_X12_sideTo (nI q) (nI t) (nI (zA g an p o)) m) = sH g an (p, o, q, t) := by
        rw [r_to hF hf hpp (by omega) ho b1, r_to hF hf hq (by omega) ht b1, ← mn_least]
        unfold sH zH
        rw [← c1]
      rw [e1, e2]
      rintro y19 rfl
      refine ⟨r_sto (by omega) b1, r_sto (by omega) b1, ?_⟩
      rintro y22 rfl
      by_cases c2 : tol < sG g an (p, o, q, t)
      · rw [if_pos c2]
        rw [if_pos c2] at kk
        exact kk m hS (fun _ _ _ _ => rfl)
      rw [if_neg c2]
      rw [if_neg c2] at kk
      obtain ⟨⟨d1, d2⟩, ⟨d3, d4⟩⟩ := sLH_b (an := an) hr (s := (p, o, q, t)) hpp hq
      have e3 : (1 ≤ sH g an (p, o, q, t) - sL g an (p, o, q, t)) ↔ ¬ sH g an (p, o, q, t) ≤ sL g an (p, o, q, t) := by
        rw [fa_le, fa_le, fb_subI (by omega) (by omega), show (1 : Int32).toInt = 1 from rfl]; omega
      by_cases c3 : sH g an (p, o, q, t) ≤ sL g an (p, o, q, t)
      · rw [if_neg (fun z => e3.mp z c3)]
        rw [if_pos c3] at kk
        exact kk m hS (fun _ _ _ _ => rfl)
      rw [if_pos (e3.mpr c3)]
      rw [if_neg c3] at kk
      obtain ⟨i1, i2⟩ := hS
      rw [i1, show (9 : Int32) = nI 9 from rfl, nI_mul]
      rintro y25 rfl
      have ei : ∀ k : Nat, k < 9 → nI (9 * l.length) + nI k = nI (9 * l.length + k) := fun k hk => nI_add _ _
      have ec : ∀ k : Nat, k < 9 → (nI (9 * l.length + k)).toNatClampNeg = 9 * l.length + k := fun k hk => clamp_nI (by omega)
      have ev : ∀ k : Nat, k < 9 → vp_in (nI (9 * l.length + k)) 6480 := fun k hk => vp_in_nI (by omega) (by omega)
      rw [clamp_nI (show 9 * l.length < 2 ^ 31 by omega), show (1 : Int32) = nI 1 from rfl, show (2 : Int32) = nI 2 from rfl, show (3 : Int32) = nI 3 from rfl, show (4 : Int32) = nI 4 from rfl, show (5 : Int32) = nI 5 from rfl, show (6 : Int32) = nI 6 from rfl, show (7 : Int32) = nI 7 from rfl, show (8 : Int32) = nI 8 from rfl, ei 1 (by omega), ei 2 (by omega), ei 3 (by omega), ei 4 (by omega), ei 5 (by omega), ei 6 (by omega), ei 7 (by omega), ei 8 (by omega), ec 1 (by omega), ec 2 (by omega), ec 3 (by omega), ec 4 (by omega), ec 5 (by omega), ec 6 (by omega), ec 7 (by omega), ec 8 (by omega)]
      refine ⟨ev 0 (by omega), fun m27 h27 => ⟨ev 1 (by omega), fun m29 h29 => ⟨ev 2 (by omega), fun m31 h31 => ⟨ev 3 (by omega), fun m33 h33 => ⟨ev 4 (by omega), fun m35 h35 => ⟨ev 5 (by omega), fun m37 h37 => ⟨ev 6 (by omega), fun m39 h39 => ⟨ev 7 (by omega), fun m41 h41 => ?_⟩⟩⟩⟩⟩⟩⟩⟩
      have f41 : ∀ b, b ≠ 446 → m41.1 b = m.1 b := fun b hb => by
        funext j
        rw [h41, h39, h37, h35, h33, h31, h29, h27]
        simp only [wI_ne _ _ _ _ hb]
      have s41 : stR m41 g := fun k hk => by rw [f41 427 (by omega)]; exact hs k hk
      rw [of0 s41 (by omega), show nI 1 = (1 : Int32) from rfl, of1 s41 (by omega)]
      refine ⟨fun _ => ⟨sof0 (by omega), fun _ => sof1 (by omega)⟩, ?_⟩
      rw [if_neg (show ¬ nI q ≤ (0 : Int32) from inle (i := 0) (by omega) (by omega))]
      intro y49 h49
      have g49 : y49 = sFd g (p, o, q, t) := by
        rw [h49, nI_add, show rm32 (nI (o + 2)) (nI 4) = nI ((o + 2) % 4) from rm32_nI (by omega) (by omega) (by omega), if_nI (show (o + 2) % 4 < 2 ^ 31 by omega) (by omega)]
        rfl
      refine ⟨ev 8 (by omega), fun m51 h51 m52 h52 => ?_⟩
      have e446 : ∀ j, m52.1 446 j = if j = 9 * l.length + 8 then sFd g (p, o, q, t) else if j = 9 * l.length + 7 then sG g an (p, o, q, t) else if j = 9 * l.length + 6 then sH g an (p, o, q, t) else if j = 9 * l.length + 5 then sL g an (p, o, q, t) else if j = 9 * l.length + 4 then nI (zA g an p o) else if j = 9 * l.length + 3 then nI t else if j = 9 * l.length + 2 then nI q else if j = 9 * l.length + 1 then nI o else if j = 9 * l.length then nI p else m.1 446 j := fun j => by
        rw [h52, wI_ne _ _ _ _ (by omega), h51, wI_get, if_pos rfl, h41, wI_get, if_pos rfl, h39, wI_get, if_pos rfl, h37, wI_get, if_pos rfl, h35, wI_get, if_pos rfl, h33, wI_get, if_pos rfl, h31, wI_get, if_pos rfl, h29, wI_get, if_pos rfl, h27, wI_get, if_pos rfl, g49]
      refine kk m52 ⟨?_, fun i s hi => ?_⟩ (fun b j hb1 hb2 => ?_)
      · rw [h52, wI_same, h51, wI_ne _ _ _ _ (by omega), f41 426 (by omega), i1, List.length_append]; exact nI_1 _
      · rcases snoc_get hi with ⟨z1, z2⟩ | ⟨z1, z2⟩
        · have n : ∀ a, a < 9 → m52.1 446 (9 * i + a) = m.1 446 (9 * i + a) := fun a ha => by
            rw [e446]
            simp only [if_neg (show ¬ 9 * i + a = 9 * l.length + 8 by omega), if_neg (show ¬ 9 * i + a = 9 * l.length + 7 by omega), if_neg (show ¬ 9 * i + a = 9 * l.length + 6 by omega), if_neg (show ¬ 9 * i + a = 9 * l.length + 5 by omega), if_neg (show ¬ 9 * i + a = 9 * l.length + 4 by omega), if_neg (show ¬ 9 * i + a = 9 * l.length + 3 by omega), if_neg (show ¬ 9 * i + a = 9 * l.length + 2 by omega), if_neg (show ¬ 9 * i + a = 9 * l.length + 1 by omega), if_neg (show ¬ 9 * i + a = 9 * l.length by omega)]
          rw [show m52.1 446 (9 * i) = m.1 446 (9 * i) from n 0 (by omega), n 1 (by omega), n 2 (by omega), n 3 (by omega), n 4 (by omega), n 5 (by omega), n 6 (by omega), n 7 (by omega), n 8 (by omega)]
          exact i2 i s z2
        · subst z1
          subst z2
          simp only [e446]
          simp
      · rw [h52]
        by_cases w : b = 426
        · subst w
          rw [wI_nj _ _ _ _ (by omega), h51, wI_ne _ _ _ _ (by omega), f41 426 (by omega)]
        · rw [wI_ne _ _ _ _ w, h51, wI_ne _ _ _ _ hb1, f41 b hb1]
    · show wb_X12_meet_l27 _ _ _ _ _ _ _ _ _ _ _ _
      unfold wb_X12_meet_l27
      rw [if_neg (show ¬ (3 : Int32) ≤ nI i from inle (a := 3) h2 (by omega))]
      refine ⟨fun _ => ⟨r_sfrom (by omega) h2, r_sfrom (by omega) h2⟩, ?_⟩
      rw [if_nI (by omega) (by omega)]
      intro y11 h11
      have e : y11 = gpS g an p o q t (zA g an p o) i y := by
        rw [h11]
        unfold gpS
        by_cases w : i = zA g an p o
        · rw [if_pos w, if_pos w]
        · rw [if_neg w, if_neg w, r_from hF hf hpp (by omega) ho h2, r_from hF hf hq (by omega) ht h2, ck_off ho w, ck_off ht (by rw [← c1]; exact w), mn_id, mn_id]
      rw [e]
      exact k2
  · rw [if_neg c1]
    rw [if_neg c1] at kk
    exact kk m hS (fun _ _ _ _ => rfl)
theorem sAdd_len (g : Vc) (an : Nat → Int32) (tol : Int32) (s : Qd) (l : List Qd) : (sAdd g an tol s l).length ≤ l.length + 1 := by
  unfold sAdd
  split
  · split
    · omega
    · split
      · omega
      · rw [List.length_append]; exact Nat.le_refl _
  · omega
theorem rfind_ok {m : Mm} {g : Vc} {tol : Int32} {K : Mm → Prop} (hr : rngD g) (h : stR m g) (kk : ∀ m2 m3, frF m m2 → frQ m2 m3 → stR m3 g → flatR m3 g (pn g) → fR m3 g (angM g (-1)) (pn g) → rSm m3 g (angM g (-1)) (seamL g (angM g (-1)) tol) → (seamL g (angM g (-1)) tol).length ≤ 720 → K m3) : wp_X12_findSeams tol m K := by
  have hp := hr.par
  have hp1 := hp.1
  unfold wp_X12_findSeams
  refine rfold_ok hr h (fun m1 hF hf f => ?_)
  intro m2 h2
  have st1 : stR m1 g := fun k hk => by rw [f 427 (by omega)]; exact h k hk
  have f2 : frQ m1 m2 := fun b j hb1 hb2 => by
    rw [h2]
    by_cases w : b = 426
    · subst w
      rw [wI_nj _ _ _ _ (by omega)]
    · rw [wI_ne _ _ _ _ w]
  have s2 : rSm m2 g (angM g (-1)) [] := ⟨by rw [h2, wI_same]; rfl, fun i s hi => by cases hi⟩
  refine rel_loop (wp := fun n i s => wp_X12_findSeams_l12 K tol n i s) (R := fun p s l => rSm s g (angM g (-1)) l ∧ frQ m1 s ∧ l.length + 16 * tri1 (pn g - p) ≤ 720) (a := 0) (N := pn g) (fun p l => oL g (angM g (-1)) tol p l) (by omega) (by omega) ?_ ?_ ⟨s2, f2, by have := tri1_le hp1; show 0 + 16 * tri1 (pn g) ≤ 720; omega⟩
  · rintro n i s h3 h4 ⟨i1, i2, i3⟩
    have e4 : i = pn g := by omega
    subst e4
    show wb_X12_findSeams_l12 _ _ _ _ _
    unfold wb_X12_findSeams_l12
    rw [many_ok (stR_Q st1 i2) hp.2.1, if_pos (ile (Nat.le_refl _) (by omega))]
    exact kk m1 s f i2 (stR_Q st1 i2) (flatR_Q hf i2) (fR_Q hF i2) i1 (by have : (seamL g (angM g (-1)) tol).length + _ ≤ 720 := i3; omega)
  · rintro n p s l - hpp ⟨i1, i2, i3⟩ k2
    show wb_X12_findSeams_l12 _ _ _ _ _
    unfold wb_X12_findSeams_l12
    rw [many_ok (stR_Q st1 i2) hp.2.1, if_neg (inle hpp (by omega))]
    have et : tri1 (pn g - p) = tri1 (pn g - p - 1) + (pn g - p - 1) := by
      rw [show pn g - p = (pn g - p - 1) + 1 by omega]; rfl
    refine rel_loop (wp := fun n2 i s => wp_X12_findSeams_l22 (fun a b => wp_X12_findSeams_l12 K tol n a b) K tol (nI p) n2 i s) (R := fun o s l => rSm s g (angM g (-1)) l ∧ frQ m1 s ∧ l.length + 4 * ((4 - o) * (pn g - p - 1)) + 16 * tri1 (pn g - p - 1) ≤ 720) (a := 0) (N := 4) (fun o l => qL g (angM g (-1)) tol p o l) (by omega) (by omega) ?_ ?_ ⟨i1, i2, by rw [et] at i3; omega⟩
    · rintro n2 i s h3 h4 ⟨j1, j2, j3⟩
      have e4 : i = 4 := by omega
      subst e4
      show wb_X12_findSeams_l22 _ _ _ _ _ _ _
      unfold wb_X12_findSeams_l22
      rw [if_pos (show (4 : Int32) ≤ nI 4 from ile (a := 4) (by omega) (by omega))]
      refine k2 s ⟨j1, j2, ?_⟩
      rw [Nat.sub_self, Nat.zero_mul] at j3
      rw [show pn g - (p + 1) = pn g - p - 1 by omega]
      exact j3
    · rintro n2 o s l2 - ho ⟨j1, j2, j3⟩ k3
      show wb_X12_findSeams_l22 _ _ _ _ _ _ _
      unfold wb_X12_findSeams_l22
      rw [if_neg (show ¬ (4 : Int32) ≤ nI o from inle (a := 4) ho (by omega)), nI_1 p]
      rintro y5 rfl
      obtain ⟨x, hx⟩ : ∃ x, x = (3 - o) * (pn g - p - 1) := ⟨_, rfl⟩
      have ex : (4 - o) * (pn g - p - 1) = x + (pn g - p - 1) := by rw [hx, show 4 - o = (3 - o) + 1 by omega, Nat.succ_mul]
      refine rel_loop (wp := fun n3 i s => wp_X12_findSeams_l32 (fun a b => wp_X12_findSeams_l22 (fun a b => wp_X12_findSeams_l12 K tol n a b) K tol (nI p) n2 a b) K tol (nI p) (nI o) n3 i s) (R := fun q s l => rSm s g (angM g (-1)) l ∧ frQ m1 s ∧ l.length + 4 * (pn g - q) + 4 * x + 16 * tri1 (pn g - p - 1) ≤ 720) (a := p + 1) (N := pn g) (fun q l => jL g (angM g (-1)) tol p o q l) (by omega) (by omega) ?_ ?_ ⟨j1, j2, by rw [ex] at j3; omega⟩
      · rintro n3 i s h3 h4 ⟨u1, u2, u3⟩
        show wb_X12_findSeams_l32 _ _ _ _ _ _ _ _
        unfold wb_X12_findSeams_l32
        rw [many_ok (stR_Q st1 u2) hp.2.1, if_pos (ile h3 (by omega))]
        refine k3 s ⟨u1, u2, ?_⟩
        rw [show 4 - (o + 1) = 3 - o by omega, ← hx]
        have u4 : (qL g (angM g (-1)) tol p o l2).length + 4 * (pn g - i) + 4 * x + 16 * tri1 (pn g - p - 1) ≤ 720 := u3
        omega
      · rintro n3 q s l3 hq1 hq ⟨u1, u2, u3⟩ k4
        show wb_X12_findSeams_l32 _ _ _ _ _ _ _ _
        unfold wb_X12_findSeams_l32
        rw [many_ok (stR_Q st1 u2) hp.2.1, if_neg (inle hq (by omega))]
        refine rel_loop (wp := fun n4 i s => wp_X12_findSeams_l44 (fun a b => wp_X12_findSeams_l32 (fun a b => wp_X12_findSeams_l22 (fun a b => wp_X12_findSeams_l12 K tol n a b) K tol (nI p) n2 a b) K tol (nI p) (nI o) n3 a b) K tol (nI p) (nI o) (nI q) n4 i s) (R := fun t s l => rSm s g (angM g (-1)) l ∧ frQ m1 s ∧ l.length + (4 - t) + 4 * (pn g - q - 1) + 4 * x + 16 * tri1 (pn g - p - 1) ≤ 720) (a := 0) (N := 4) (fun t l => sAdd g (angM g (-1)) tol (p, o, q, t) l) (by omega) (by omega) ?_ ?_ ⟨u1, u2, by omega⟩
        · rintro n4 i s h3 h4 ⟨v1, v2, v3⟩
          have e4 : i = 4 := by omega
          subst e4
          show wb_X12_findSeams_l44 _ _ _ _ _ _ _ _ _
          unfold wb_X12_findSeams_l44
          rw [if_pos (show (4 : Int32) ≤ nI 4 from ile (a := 4) (by omega) (by omega))]
          refine k4 s ⟨v1, v2, ?_⟩
          have v4 : (jL g (angM g (-1)) tol p o q l3).length + (4 - 4) + 4 * (pn g - q - 1) + 4 * x + 16 * tri1 (pn g - p - 1) ≤ 720 := v3
          omega
        · rintro n4 t s l4 - ht ⟨v1, v2, v3⟩ k5
          show wb_X12_findSeams_l44 _ _ _ _ _ _ _ _ _
          unfold wb_X12_findSeams_l44
          rw [if_neg (show ¬ (4 : Int32) ≤ nI t from inle (a := 4) ht (by omega))]
          refine meet_ok hr (by omega) ho hq ht (stR_Q st1 v2) (flatR_Q hf v2) (fR_Q hF v2) v1 (by omega) (fun m3 w1 w2 => ?_)
          have wl := sAdd_len g (angM g (-1)) tol (p, o, q, t) l4
          exact k5 m3 ⟨w1, fun b j hb1 hb2 => by rw [w2 b j hb1 hb2, v2 b j hb1 hb2], by omega⟩
