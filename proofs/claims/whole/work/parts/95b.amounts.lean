/-! what is found: lists, amounts and their bounds -/
def flL (X : Nat → List Fnd) (a : Nat) : Nat → List Fnd
  | 0 => []
  | n + 1 => flL X a n ++ X (a + n)
theorem ifo_flL (X : Nat → List Fnd) (l0 : List Fnd) (a : Nat) : ∀ n, ifo (fun i l => l ++ X i) l0 a n = l0 ++ flL X a n := by
  intro n
  induction n with
  | zero => exact (List.append_nil l0).symm
  | succ n ih =>
    show ifo (fun i l => l ++ X i) l0 a n ++ X (a + n) = _
    rw [ih, List.append_assoc]
    rfl
theorem flL_len {X : Nat → List Fnd} {a c : Nat} : ∀ {n}, (∀ i, a ≤ i → i < a + n → (X i).length ≤ c) → (flL X a n).length ≤ c * n := by
  intro n
  induction n with
  | zero => exact fun _ => Nat.zero_le _
  | succ n ih =>
    intro h
    have h1 := ih (fun i h1 h2 => h i h1 (by omega))
    have h2 := h (a + n) (by omega) (by omega)
    show (flL X a n ++ X (a + n)).length ≤ _
    rw [List.length_append, Nat.mul_succ]
    omega
theorem flL_mem {X : Nat → List Fnd} {P : Fnd → Prop} {a : Nat} : ∀ {n}, (∀ i, a ≤ i → i < a + n → ∀ x ∈ X i, P x) → ∀ x ∈ flL X a n, P x := by
  intro n
  induction n with
  | zero => intro _ x hx; cases hx
  | succ n ih =>
    intro h x hx
    rw [show flL X a (n + 1) = flL X a n ++ X (a + n) from rfl, List.mem_append] at hx
    rcases hx with z | z
    · exact ih (fun i h1 h2 => h i h1 (by omega)) x z
    · exact h (a + n) (by omega) (by omega) x z
theorem app_loop {σ : Type} {wp : Nat → Int32 → σ → Prop} {R : σ → List Fnd → Prop} (X : Nat → List Fnd) {s0 : σ} {l0 : List Fnd} {a N c B : Nat} (ha : a < 90000) (hN : N < 90000) (hlen : ∀ i, a ≤ i → i < N → (X i).length ≤ c) (hB : l0.length + c * (N - a) ≤ B)
    (hx : ∀ n i s, N ≤ i → i ≤ N ∨ i = a → R s (l0 ++ flL X a (N - a)) → wp (n + 1) (nI i) s)
    (hs : ∀ n i s l, a ≤ i → i < N → R s l → l.length + c ≤ B → (∀ s2, R s2 (l ++ X i) → wp n (nI i + 1) s2) → wp (n + 1) (nI i) s) (h0 : R s0 l0) : wp FU (nI a) s0 := by
  refine rel_loop (R := fun i s l => R s l ∧ l.length + c * (N - i) ≤ B) (fun i l => l ++ X i) ha hN ?_ ?_ ⟨h0, hB⟩
  · rintro n i s h1 h2 ⟨h3, -⟩
    rw [ifo_flL] at h3
    exact hx n i s h1 h2 h3
  · rintro n i s l h1 h2 ⟨h3, h4⟩ k
    have e : c * (N - i) = c * (N - (i + 1)) + c := by rw [show N - i = (N - (i + 1)) + 1 by omega, Nat.mul_succ]
    refine hs n i s l h1 h2 h3 (by omega) (fun s2 h5 => k s2 ⟨h5, ?_⟩)
    rw [List.length_append]
    have := hlen i h1 h2
    omega
abbrev fA (g : Vc) : Nat → Int32 := angM g (-1)
def nearN (g : Vc) (k : Nat) : Nat := ((pf g k 1).toNatClampNeg + 2) % 4
def ink (g : Vc) (k : Nat) : Int32 := if nearN g k = 0 then mn32 (rect g k).2.2.2 (pf g k 10 + th g k) else if nearN g k = 1 then (rect g k).2.2.1 - mx32 0 (pf g k 9) else if nearN g k = 2 then (rect g k).2.2.2 - mx32 0 (pf g k 10) else mn32 (rect g k).2.2.1 (pf g k 9 + tw g k)
def chS (g : Vc) (k s o : Nat) : Nat := if pf g o 0 = nI k ∧ pf g o 1 = nI s then (pf g o 3).toNatClampNeg else 0
def fsum (g : Vc) (k s : Nat) : Nat := fb_sm (fun i => chS g k s (1 + i)) (pn g - 1)
def sdL (g : Vc) (k s : Nat) : Nat := (if s % 2 = 0 then (rect g k).2.2.1 else (rect g k).2.2.2).toNatClampNeg
def aFo (g : Vc) (k s : Nat) : Bool := (decide (0 < k) && decide (nearN g k = s)) || decide (fsum g k s = sdL g k s)
def sW (g : Vc) (k s : Nat) : Int32 := mn32 (aReach g k (nI s)) (g 126)
def bey (g : Vc) (k s : Nat) : Int32 := if s = 0 then sW g k s - (rect g k).2.1 else if s = 1 then (rect g k).1 + (rect g k).2.2.1 + sW g k s - g 0 else if s = 2 then (rect g k).2.1 + (rect g k).2.2.2 + sW g k s - g 1 else sW g k s - (rect g k).1
def lo2 (g : Vc) (e k : Nat) : Int32 := if e = 0 then (rect g k).1 else (rect g k).2.1
def hi2 (g : Vc) (e k : Nat) : Int32 := if e = 0 then (rect g k).1 + (rect g k).2.2.1 else (rect g k).2.1 + (rect g k).2.2.2
def inkL (g : Vc) (e k : Nat) : Int32 := if e = 0 then mx32 0 (pf g k 9) else mx32 0 (pf g k 10)
def inkH (g : Vc) (e k : Nat) : Int32 := if e = 0 then mn32 (rect g k).2.2.1 (pf g k 9 + tw g k) else mn32 (rect g k).2.2.2 (pf g k 10 + th g k)
def bes (g : Vc) (k s o : Nat) : Int32 := v_X11_common (lo2 g (s % 2) k + inkL g (s % 2) k) (lo2 g (s % 2) k + inkH g (s % 2) k) (lo2 g (s % 2) o) (hi2 g (s % 2) o)
def stl (g : Vc) (k s : Nat) : Int32 := if s = 0 ∨ s = 3 then lo2 g (1 - s % 2) k - sW g k s else hi2 g (1 - s % 2) k
def ins (g : Vc) (k s o : Nat) : Int32 := v_X11_common (stl g k s) (stl g k s + sW g k s) (lo2 g (1 - s % 2) o) (hi2 g (1 - s % 2) o)
def joinB (g : Vc) (k s o : Nat) : Bool := (decide (0 < o) && decide (pf g o 0 = nI k) && decide (pf g o 1 = nI s)) || (decide (0 < k) && decide (pf g k 0 = nI o) && decide (nearN g k = s))
def INo (g : Vc) (k s o : Nat) : List Fnd := if o = k then [] else if joinB g k s o then [] else if bes g k s o ≤ 0 then [] else em g 5 k (s + 1) (o + 1) (ins g k s o)
def BL (g : Vc) (k s : Nat) : List Fnd := if aReach g k (nI s) = -9 then [] else if pf g k 6 = -9 then (if aFo g k s then [] else em g 4 k (s + 1) 0 (g 126 - aReach g k (nI s))) else []
def BY (g : Vc) (k s : Nat) : List Fnd := if sW g k s ≤ 0 then [] else em g 5 k (s + 1) 0 (bey g k s)
def INs (g : Vc) (k s : Nat) : List Fnd := if sW g k s ≤ 0 then [] else flL (INo g k s) 0 (pn g)
def SDS (g : Vc) (k s : Nat) : List Fnd := BL g k s ++ (BY g k s ++ INs g k s)
noncomputable def OPn (g : Vc) (k s : Nat) : List Fnd := em g 0 k (s + 1) 0 (nI (xOpn g (fA g) (g 125) k s))
def GLU (g : Vc) (k : Nat) : List Fnd := em g 3 k 0 ((pf g k 6).toNatClampNeg + 1) (g 128 - xCovT g (fA g) k (g 125))
def INK (g : Vc) (k : Nat) : List Fnd := if aShow g k = 0 then [] else em g 6 k 0 0 (ink g k - g 127)
noncomputable def FLP (g : Vc) (k : Nat) : List Fnd := if pf g k 6 = -9 then flL (OPn g k) 0 4 else GLU g k ++ INK g k
noncomputable def CK (g : Vc) (k : Nat) : List Fnd := FLP g k ++ (if aShow g k = 0 then [] else flL (SDS g k) 0 4)
def DBp (g : Vc) (p q : Nat) : List Fnd := if pf g p 6 = nI q then [] else if pf g q 6 = nI p then [] else em g 2 p 0 (q + 1) (xDbl g (fA g) p q (g 125))
def PRp (g : Vc) (p q : Nat) : List Fnd := em g 1 p 0 (q + 1) (xCrs g (fA g) p q (g 125)) ++ DBp g p q
def PRS (g : Vc) (p : Nat) : List Fnd := flL (PRp g p) (p + 1) (pn g - (p + 1))
def BR1 (g : Vc) (s : Qd) : List Fnd := if xMis g (fA g) s ≤ g 125 then [] else em g 7 s.1 (s.2.1 + 1) (s.2.2.1 + 1) (xMis g (fA g) s)
def BRs (g : Vc) (i : Nat) : List Fnd := match (seamL g (fA g) (g 125))[i]? with | none => [] | some s => BR1 g s
/-! bounds -/
theorem inR_sub {x y : Int32} {a b : Int} (h : inR x (-a) a) (hy : inR y (-b) b) (ha : a ≤ 1000000) (hb : b ≤ 1000000) : inR (x - y) (-(a + b)) (a + b) := by
  obtain ⟨h1, h2⟩ := h
  obtain ⟨h3, h4⟩ := hy
  have e : (x - y).toInt = x.toInt - y.toInt := fb_subI (by omega) (by omega)
  exact ⟨by omega, by omega⟩
theorem ext_pure {sp w h a b : Int32} (hs : inR sp (-10000) 10000) (hw : inR w 1 300) (hh : inR h 1 300) (ha : a = 1 ∨ a = -1 ∨ a = 0) (hb : b = 1 ∨ b = -1 ∨ b = 0) (hab : a = 0 ∨ b = 0) : inR (sp + w * a + h * b) (sp.toInt - 300) (sp.toInt + 300) := by
  obtain ⟨s1, s2⟩ := hs
  obtain ⟨w1, w2⟩ := hw
  obtain ⟨h1, h2⟩ := hh
  rcases hab with z | z <;> subst z
  · rw [Int32.mul_zero, Int32.add_zero]
    rcases hb with z | z | z <;> subst z
    · rw [Int32.mul_one]
      have e : (sp + h).toInt = sp.toInt + h.toInt := fb_addI (by omega) (by omega)
      exact ⟨by omega, by omega⟩
    · have e1 : sp + h * -1 = sp - h := by grind
      rw [e1]
      have e : (sp - h).toInt = sp.toInt - h.toInt := fb_subI (by omega) (by omega)
      exact ⟨by omega, by omega⟩
    · rw [Int32.mul_zero, Int32.add_zero]
      exact ⟨by omega, by omega⟩
  · rw [Int32.mul_zero, Int32.add_zero]
    rcases ha with z | z | z <;> subst z
    · rw [Int32.mul_one]
      have e : (sp + w).toInt = sp.toInt + w.toInt := fb_addI (by omega) (by omega)
      exact ⟨by omega, by omega⟩
    · have e1 : sp + w * -1 = sp - w := by grind
      rw [e1]
      have e : (sp - w).toInt = sp.toInt - w.toInt := fb_subI (by omega) (by omega)
      exact ⟨by omega, by omega⟩
    · rw [Int32.mul_zero, Int32.add_zero]
      exact ⟨by omega, by omega⟩
theorem ext_b {g : Vc} {an : Nat → Int32} (hr : rngD g) {k : Nat} (hk : k < pn g) (c : Nat) : inR (plo g an k c) (-10000) 10000 ∧ inR (phi g an k c) (-10000) 10000 ∧ (phi g an k c).toInt - (plo g an k c).toInt ≤ 300 := by
  have hp1 := hr.par.1
  obtain ⟨-, -, b5, b7⟩ := rect_b hr hk
  have i0 := spot_b (an := an) hr k hk c
  have o := pose_ok (an := an) hr.par k hk
  have hab : pt (poseF g an k).1 c = 0 ∨ pt (poseF g an k).2.1 c = 0 := by
    by_cases z : (poseF g an k).1 / 2 = c
    · right
      unfold pt
      rw [if_neg (fun q => o.2.2.2.1 (by rw [z, q]))]
    · left
      unfold pt
      rw [if_neg z]
  have e := ext_pure (inR_up i0 (by omega) (by omega)) b5 b7 (pt_3 _ c) (pt_3 _ c) hab
  have he : inR (pend g an k c) _ _ := e
  obtain ⟨i1, i2⟩ := i0
  obtain ⟨e1, e2⟩ := he
  have l0 : plo g an k c = mn32 ((poseF g an k).2.2.2 c) (pend g an k c) := (mn_least _ _).symm
  have h0 : phi g an k c = mx32 ((poseF g an k).2.2.2 c) (pend g an k c) := (mx_most _ _).symm
  have l := mn_t ((poseF g an k).2.2.2 c) (pend g an k c)
  have h := mx_t ((poseF g an k).2.2.2 c) (pend g an k c)
  rw [← l0] at l
  rw [← h0] at h
  unfold inR
  split at l <;> split at h <;> omega
theorem xSh_b {g : Vc} {an : Nat → Int32} (hr : rngD g) {a b : Nat} (ha : a < pn g) (hb : b < pn g) (c : Nat) : (xSh g an a b c).toInt ≤ 300 := by
  obtain ⟨⟨a1, a2⟩, ⟨a3, a4⟩, a5⟩ := ext_b (an := an) hr ha c
  obtain ⟨⟨b1, b2⟩, ⟨b3, b4⟩, b5⟩ := ext_b (an := an) hr hb c
  unfold xSh v_X12_common
  rw [← mn_least, ← mx_most]
  have l := mn_t (phi g an a c) (phi g an b c)
  have h := mx_t (plo g an a c) (plo g an b c)
  rw [fb_subI (by split at l <;> split at h <;> omega) (by split at l <;> split at h <;> omega)]
  split at l <;> split at h <;> omega
theorem crs_b {g : Vc} {an : Nat → Int32} (hr : rngD g) {a b : Nat} (ha : a < pn g) (hb : b < pn g) (t : Int32) : (xCrs g an a b t).toInt ≤ 90000 := by
  have e0 : (0 : Int32).toInt = 0 := rfl
  unfold xCrs
  split
  · omega
  · split
    · omega
    · split
      · omega
      · rw [← mx_most]
        have h := mx_t 0 (xSh g an a b (3 - nax g an a - nax g an b))
        have := xSh_b (an := an) hr ha hb (3 - nax g an a - nax g an b)
        split at h <;> omega
theorem dbl_b {g : Vc} {an : Nat → Int32} (hr : rngD g) {a b : Nat} (ha : a < pn g) (hb : b < pn g) (t : Int32) : 0 ≤ (xDbl g an a b t).toInt ∧ (xDbl g an a b t).toInt ≤ 90000 := by
  have e0 : (0 : Int32).toInt = 0 := rfl
  have h1 := xSh_b (an := an) hr ha hb ((nax g an a + 1) % 3)
  have h2 := xSh_b (an := an) hr ha hb ((nax g an a + 2) % 3)
  unfold xDbl
  split
  · split
    · split
      · omega
      · split
        · omega
        · next z1 z2 =>
          rw [fa_le] at z1 z2
          have m0 : 0 ≤ (xSh g an a b ((nax g an a + 1) % 3)).toInt * (xSh g an a b ((nax g an a + 2) % 3)).toInt := Int.mul_nonneg (by omega) (by omega)
          have m1 : (xSh g an a b ((nax g an a + 1) % 3)).toInt * (xSh g an a b ((nax g an a + 2) % 3)).toInt ≤ 300 * 300 := Int.mul_le_mul h1 h2 (by omega) (by omega)
          rw [fb_mulI (by omega) (by omega)]
          omega
    · omega
  · omega
theorem div_nn {x y : Int32} (hx : 0 ≤ x.toInt) (hy : 0 < y.toInt) : 0 ≤ (x / y).toInt := by
  have hr := fb_rng x
  have h1 : 0 ≤ x.toInt.tdiv y.toInt := Int.tdiv_nonneg hx (by omega)
  have h2 : x.toInt.tdiv y.toInt ≤ x.toInt := by
    rw [Int.tdiv_eq_ediv_of_nonneg hx]
    exact Int.ediv_le_self _ hx
  rw [Int32.toInt_div, fb_bmod (by omega) (by omega)]
  exact h1
theorem cov_nn {g : Vc} {an : Nat → Int32} (hr : rngD g) {a b : Nat} (ha : a < pn g) (hb : b < pn g) (t : Int32) : 0 ≤ (xCov g an a b t).toInt := by
  have e0 : (0 : Int32).toInt = 0 := rfl
  have e1 : (100 : Int32).toInt = 100 := rfl
  obtain ⟨d1, d2⟩ := dbl_b (an := an) hr ha hb t
  unfold xCov
  split
  · refine div_nn ?_ (area_pos hr ha)
    rw [fb_mulI (by rw [e1]; omega) (by rw [e1]; omega), e1]
    omega
  · omega
theorem aU_b {g : Vc} (hr : rngD g) {k : Nat} (hk : k < pn g) {x y : Int32} (hx : inR x (-20000) 20000) (hy : inR y (-20000) 20000) : inR (aU g k x y) (-21000) 21000 ∧ inR (aV g k x y) (-21000) 21000 := by
  obtain ⟨t, ht, et⟩ := turn_i hr hk
  have h9 := (hr.2.2.2.2.2.1 k hk).2.2.2.1
  have h10 := (hr.2.2.2.2.2.1 k hk).2.2.2.2
  have e0 : (0 : Int32).toInt = 0 := rfl
  have hw : inR (imw g k) (-200) 200 := by
    unfold imw
    by_cases z : pf g k 7 = -9
    · rw [if_pos z]; exact inR_0 (by omega)
    · rw [if_neg z]
      obtain ⟨i, hi, e, -⟩ := img_i hr hk z
      rw [e, clamp_nI (by omega)]
      exact inR_up (hr.2.2.2.1 i hi).1 (by omega) (by omega)
  have hh : inR (imh g k) (-200) 200 := by
    unfold imh
    by_cases z : pf g k 7 = -9
    · rw [if_pos z]; exact inR_0 (by omega)
    · rw [if_neg z]
      obtain ⟨i, hi, e, -⟩ := img_i hr hk z
      rw [e, clamp_nI (by omega)]
      exact inR_up (hr.2.2.2.1 i hi).2.1 (by omega) (by omega)
  have hX := inR_sub hx h9 (by omega) (by omega)
  have hY := inR_sub hy h10 (by omega) (by omega)
  have wX := inR_sub hw hX (by omega) (by omega)
  have wY := inR_sub hw hY (by omega) (by omega)
  have wwX := inR_sub hw wX (by omega) (by omega)
  have wwY := inR_sub hw wY (by omega) (by omega)
  have vX := inR_sub hh hX (by omega) (by omega)
  have vY := inR_sub hh hY (by omega) (by omega)
  unfold aU aV
  rw [et]
  rcases eight ht with z | z | z | z | z | z | z | z <;> subst z <;> simp only [oU0, oU1, oU2, oU3, oU4, oU5, oU6, oU7, oV0, oV1, oV2, oV3, oV4, oV5, oV6, oV7] <;> constructor <;> first | exact inR_up hX (by omega) (by omega) | exact inR_up hY (by omega) (by omega) | exact inR_up wX (by omega) (by omega) | exact inR_up wY (by omega) (by omega) | exact inR_up wwX (by omega) (by omega) | exact inR_up wwY (by omega) (by omega) | exact inR_up vX (by omega) (by omega) | exact inR_up vY (by omega) (by omega)
theorem q_b {g : Vc} {an : Nat → Int32} (hr : rngD g) {k s : Nat} (hk : k < pn g) {c : Int32} (hc : inR c (-9000) 9000) : inR (qX g an k s c) (-19000) 19000 ∧ inR (qY g an k s c) (-19000) 19000 := by
  obtain ⟨-, -, b5, b7⟩ := rect_b hr hk
  have hb := inR_sub hc (ck_b (an := an) hr hk (sb0 s) (zA g an k s)) (by omega) (by omega)
  have ha : inR (ab32 (c - ck g an k (sb0 s) (zA g an k s))) (-19000) 19000 := by
    obtain ⟨u1, u2⟩ := hb
    unfold inR
    rw [ab_t (by omega)]
    split <;> omega
  unfold qX qY
  constructor
  · split
    · exact inR_0 (by omega)
    · split
      · exact inR_up b5 (by omega) (by omega)
      · exact ha
  · split
    · exact inR_0 (by omega)
    · split
      · exact inR_up b7 (by omega) (by omega)
      · exact ha
theorem mis_b {g : Vc} {an : Nat → Int32} {tol : Int32} {s : Qd} (hr : rngD g) (h : sWf g an tol s) : (xMis g an s).toInt ≤ 90000 := by
  have e9 : (-9 : Int32).toInt = -9 := rfl
  have e1 : (100 : Int32).toInt = 100 := rfl
  have e0 : (0 : Int32).toInt = 0 := rfl
  have wp : s.1 < pn g := by have := h.1; have := h.2.1; omega
  obtain ⟨hL, hH⟩ := sLH_b (an := an) hr wp h.2.1
  have c : ∀ i, i = 0 ∨ i = 1 ∨ i = 3 ∨ i = 4 → inR (cU g an s i) (-21000) 21000 ∧ inR (cV g an s i) (-21000) 21000 := fun i hi => by
    unfold cU cV
    rcases hi with z | z | z | z <;> subst z <;> simp only [PX, PY] <;> simp
    · exact aU_b hr wp (inR_up (q_b hr wp hL).1 (by omega) (by omega)) (inR_up (q_b hr wp hL).2 (by omega) (by omega))
    · exact aU_b hr wp (inR_up (q_b hr wp hH).1 (by omega) (by omega)) (inR_up (q_b hr wp hH).2 (by omega) (by omega))
    · exact aU_b hr h.2.1 (inR_up (q_b hr h.2.1 hL).1 (by omega) (by omega)) (inR_up (q_b hr h.2.1 hL).2 (by omega) (by omega))
    · exact aU_b hr h.2.1 (inR_up (q_b hr h.2.1 hH).1 (by omega) (by omega)) (inR_up (q_b hr h.2.1 hH).2 (by omega) (by omega))
  have ad : ∀ x y : Int32, inR x (-21000) 21000 → inR y (-21000) 21000 → (ab32 (x - y)).toInt ≤ 42000 := fun x y hx hy => by
    obtain ⟨u1, u2⟩ := inR_sub hx hy (by omega) (by omega)
    rw [ab_t (by omega)]
    split <;> omega
  have stp : ∀ i y, (i = 0 ∨ i = 1) → y.toInt ≤ 42000 → (misG g an s i y).toInt ≤ 42000 := fun i y hi hy => by
    have a1 := ad _ _ (c i (by omega)).1 (c (i + 3) (by omega)).1
    have a2 := ad _ _ (c i (by omega)).2 (c (i + 3) (by omega)).2
    unfold misG
    have m1 := mx_t y (ab32 (cU g an s i - cU g an s (i + 3)))
    have m2 := mx_t (mx32 y (ab32 (cU g an s i - cU g an s (i + 3)))) (ab32 (cV g an s i - cV g an s (i + 3)))
    split at m1 <;> split at m2 <;> omega
  have hw : (ifo (misG g an s) 0 0 2).toInt ≤ 42000 := stp 1 _ (Or.inr rfl) (stp 0 0 (Or.inl rfl) (by omega))
  unfold xMis
  split
  · omega
  · split
    · omega
    · split
      · split
        · omega
        · have := mx_t 100 (ifo (misG g an s) 0 0 2)
          split at this <;> omega
      · omega
