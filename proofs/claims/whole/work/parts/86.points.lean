/-! points of a seam on its two panels; mismatch -/
def oX (s : Nat) : Int32 := v_X12_outward (nI s) 0
def oY (s : Nat) : Int32 := v_X12_outward (nI s) 1
theorem szv2 {s : Nat} (hs : s < 4) : szv 2 s = oX s := by rcases side4 hs with z | z | z | z <;> subst z <;> rfl
theorem szv3 {s : Nat} (hs : s < 4) : szv 3 s = oY s := by rcases side4 hs with z | z | z | z <;> subst z <;> rfl
def qX (g : Vc) (an : Nat → Int32) (k s : Nat) (c : Int32) : Int32 := if s = 3 then 0 else if s = 1 then (rect g k).2.2.1 else ab32 (c - ck g an k (sb0 s) (zA g an k s))
def qY (g : Vc) (an : Nat → Int32) (k s : Nat) (c : Int32) : Int32 := if s = 0 then 0 else if s = 2 then (rect g k).2.2.2 else ab32 (c - ck g an k (sb0 s) (zA g an k s))
theorem c_pX {m : Mm} {g : Vc} {an : Nat → Int32} (h : cFd m g an) {k s : Nat} (hk : k < pn g) (hs : s < 4) (c : Int32) : v_X8_pointX (283 + 10 * k) (nI s) c m = qX g an k s c := by
  unfold v_X8_pointX qX
  rw [(side_c h hk hs).2.1.symm, (h.2 k hk).1.2.2.2.1]
  rcases side4 hs with z | z | z | z <;> subst z <;> rfl
theorem c_pY {m : Mm} {g : Vc} {an : Nat → Int32} (h : cFd m g an) {k s : Nat} (hk : k < pn g) (hs : s < 4) (c : Int32) : v_X8_pointY (283 + 10 * k) (nI s) c m = qY g an k s c := by
  unfold v_X8_pointY qY
  rw [(side_c h hk hs).2.1.symm, (h.2 k hk).1.2.2.2.2.1]
  rcases side4 hs with z | z | z | z <;> subst z <;> rfl
theorem c_spY {a s : Nat} (hs : s < 4) (c : Int32) : s_X8_pointY a (nI s) c := fun _ _ _ => vp_in_nI (by omega) (by omega)
/-- the direction of a side, its length -/
def dS (g : Vc) (an : Nat → Int32) (k s : Nat) : Nat := if s % 2 = 0 then (poseF g an k).1 else (poseF g an k).2.1
def lenS (g : Vc) (k s : Nat) : Int32 := if s % 2 = 0 then (rect g k).2.2.1 else (rect g k).2.2.2
theorem ck_b0 {g : Vc} {an : Nat → Int32} (hr : rngD g) {k s : Nat} (hk : k < pn g) (hs : s < 4) : ck g an k (sb0 s) (zA g an k s) = (poseF g an k).2.2.2 (zA g an k s) ∧ ck g an k (sb1 s) (zA g an k s) = (poseF g an k).2.2.2 (zA g an k s) + lenS g k s * pt (dS g an k s) (zA g an k s) := by
  have h := (pose_ok (an := an) hr.par k hk).2.2.2.1
  have e0 : ∀ d c (x : Int32), d / 2 ≠ c → x * pt d c = 0 := fun d c x q => by unfold pt; rw [if_neg q]; exact Int32.mul_zero
  unfold ck pcor zA sax lenS dS
  rcases side4 hs with z | z | z | z <;> subst z <;> simp only [sb0, sb1] <;> simp
  · rw [e0 _ _ _ h]
  · rw [e0 _ _ _ (fun q => h q.symm)]
theorem dir_1 (g : Vc) (an : Nat → Int32) (k s : Nat) : pt (dS g an k s) (zA g an k s) = 1 ∨ pt (dS g an k s) (zA g an k s) = -1 := by
  have : zA g an k s = dS g an k s / 2 := rfl
  rw [this, pt_self]
  by_cases z : dS g an k s % 2 = 0
  · rw [if_pos z]; exact Or.inl rfl
  · rw [if_neg z]; exact Or.inr rfl
theorem along_pure {c sp ln d : Int32} (hd : d = 1 ∨ d = -1) (hl : inR ln 0 300) (hs : inR sp (-10000) 10000) (h1 : (mn32 sp (sp + ln * d)).toInt ≤ c.toInt) (h2 : c.toInt ≤ (mx32 sp (sp + ln * d)).toInt) : (c - sp) * d = ab32 (c - sp) := by
  obtain ⟨l1, l2⟩ := hl
  obtain ⟨s1, s2⟩ := hs
  rw [mn_t] at h1
  rw [mx_t] at h2
  rcases hd with z | z <;> subst z
  · rw [Int32.mul_one] at h1 h2 ⊢
    have ea : (sp + ln).toInt = sp.toInt + ln.toInt := fb_addI (by omega) (by omega)
    rw [ea] at h1 h2
    have hx : sp.toInt ≤ c.toInt ∧ c.toInt ≤ sp.toInt + 300 := by split at h1 <;> split at h2 <;> omega
    have ed : (c - sp).toInt = c.toInt - sp.toInt := fb_subI (by omega) (by omega)
    rw [fa_eq, ab_t (by omega), if_pos (by omega)]
  · have e1 : ln * -1 = -ln := by grind
    have e2 : (c - sp) * -1 = sp - c := by grind
    have e3 : sp + -ln = sp - ln := by grind
    rw [e1, e3] at h1 h2
    rw [e2]
    have ea : (sp - ln).toInt = sp.toInt - ln.toInt := fb_subI (by omega) (by omega)
    rw [ea] at h1 h2
    have hx : c.toInt ≤ sp.toInt ∧ sp.toInt - 300 ≤ c.toInt := by split at h1 <;> split at h2 <;> omega
    have ed : (c - sp).toInt = c.toInt - sp.toInt := fb_subI (by omega) (by omega)
    have ed2 : (sp - c).toInt = sp.toInt - c.toInt := fb_subI (by omega) (by omega)
    rw [fa_eq, ab_t (by omega)]
    split <;> omega
theorem along_ab {g : Vc} {an : Nat → Int32} (hr : rngD g) {k s : Nat} (hk : k < pn g) (hs : s < 4) {c : Int32} (h1 : (zL g an k s).toInt ≤ c.toInt) (h2 : c.toInt ≤ (zH g an k s).toInt) : (c - (poseF g an k).2.2.2 (zA g an k s)) * pt (dS g an k s) (zA g an k s) = ab32 (c - ck g an k (sb0 s) (zA g an k s)) := by
  obtain ⟨e1, e2⟩ := ck_b0 (an := an) hr hk hs
  obtain ⟨-, -, ⟨b5, b6⟩, b7, b8⟩ := rect_b hr hk
  have hb := spot_b (an := an) hr k hk (zA g an k s)
  have hp1 := hr.par.1
  have hl : inR (lenS g k s) 0 300 := by unfold lenS inR; split <;> omega
  unfold zL at h1
  unfold zH at h2
  rw [e1, e2] at h1 h2
  rw [e1]
  exact along_pure (dir_1 g an k s) hl (inR_up hb (by omega) (by omega)) h1 h2
theorem r_along {m : Mm} {g : Vc} {an : Nat → Int32} (hr : rngD g) (hF : fR m g an (pn g)) (hf : flatR m g (pn g)) {k s : Nat} (hk : k < pn g) (hs : s < 4) {c : Int32} (h1 : (zL g an k s).toInt ≤ c.toInt) (h2 : c.toInt ≤ (zH g an k s).toInt) :
    v_X12_along (nI k) (nI s) (nI (zA g an k s)) c 0 m = qX g an k s c ∧ v_X12_along (nI k) (nI s) (nI (zA g an k s)) c 1 m = qY g an k s c ∧ ∀ z, s_X12_along (nI k) (nI s) (nI (zA g an k s)) c z := by
  have hp1 := hr.par.1
  have b1 := zA_lt (an := an) hr hk s
  obtain ⟨q1, q2, q3, q4⟩ := (hF k hk).1 _ b1
  obtain ⟨f1, f2, f3, f4⟩ := hf k hk
  have e3 : (3 : Int32) * nI k + nI (zA g an k s) = nI (3 * k + zA g an k s) := by rw [show (3 : Int32) = nI 3 from rfl, nI_mul, nI_add]
  have ea := along_ab hr hk hs h1 h2
  refine ⟨?_, ?_, fun z => ⟨in30 (by omega) b1, fun _ _ => vp_in_nI (by omega) (by omega), fun _ _ => vp_in_nI (by omega) (by omega)⟩⟩
  · unfold v_X12_along qX
    rw [e3, clamp_nI (show 3 * k + zA g an k s < 2 ^ 31 by omega), clamp_nI (show k < 2 ^ 31 by omega), q1, q2, q3, f3, f4, ← ea]
    unfold dS
    rcases side4 hs with w | w | w | w <;> subst w <;> rfl
  · unfold v_X12_along qY
    rw [e3, clamp_nI (show 3 * k + zA g an k s < 2 ^ 31 by omega), clamp_nI (show k < 2 ^ 31 by omega), q1, q2, q3, f3, f4, ← ea]
    unfold dS
    rcases side4 hs with w | w | w | w <;> subst w <;> rfl
/-- the six points -/
def PX (g : Vc) (an : Nat → Int32) (s : Qd) (i : Nat) : Int32 := if i = 0 then qX g an s.1 s.2.1 (sL g an s) else if i = 1 then qX g an s.1 s.2.1 (sH g an s) else if i = 2 then qX g an s.1 s.2.1 (sL g an s) + oX s.2.1
  else if i = 3 then qX g an s.2.2.1 s.2.2.2 (sL g an s) else if i = 4 then qX g an s.2.2.1 s.2.2.2 (sH g an s) else qX g an s.2.2.1 s.2.2.2 (sL g an s) - oX s.2.2.2
def PY (g : Vc) (an : Nat → Int32) (s : Qd) (i : Nat) : Int32 := if i = 0 then qY g an s.1 s.2.1 (sL g an s) else if i = 1 then qY g an s.1 s.2.1 (sH g an s) else if i = 2 then qY g an s.1 s.2.1 (sL g an s) + oY s.2.1
  else if i = 3 then qY g an s.2.2.1 s.2.2.2 (sL g an s) else if i = 4 then qY g an s.2.2.1 s.2.2.2 (sH g an s) else qY g an s.2.2.1 s.2.2.2 (sL g an s) - oY s.2.2.2
theorem seam_in {g : Vc} {an : Nat → Int32} {tol : Int32} {s : Qd} (h : sWf g an tol s) : ((zL g an s.1 s.2.1).toInt ≤ (sL g an s).toInt ∧ (sL g an s).toInt ≤ (zH g an s.1 s.2.1).toInt) ∧ ((zL g an s.1 s.2.1).toInt ≤ (sH g an s).toInt ∧ (sH g an s).toInt ≤ (zH g an s.1 s.2.1).toInt) ∧
    ((zL g an s.2.2.1 s.2.2.2).toInt ≤ (sL g an s).toInt ∧ (sL g an s).toInt ≤ (zH g an s.2.2.1 s.2.2.2).toInt) ∧ ((zL g an s.2.2.1 s.2.2.2).toInt ≤ (sH g an s).toInt ∧ (sH g an s).toInt ≤ (zH g an s.2.2.1 s.2.2.2).toInt) := by
  have h7 := h.2.2.2.2.2.2
  rw [fa_le] at h7
  have hL : (sL g an s).toInt = _ := mx_t _ _
  have hH : (sH g an s).toInt = _ := mn_t _ _
  split at hL <;> split at hH <;> omega
/-- what the class reads of seam i -/
theorem seam_c {m : Mm} {g : Vc} {an : Nat → Int32} {tol : Int32} {i : Nat} {s : Qd} (hp : pn g ≤ 10) (hS : cSm m g an tol (seamL g an tol)) (hl : (seamL g an tol).length ≤ 360) (hi : (seamL g an tol)[i]? = some s) :
    v_X10_has (nI i) m = 1 ∧ v_X10_panelP (nI i) m = nI s.1 ∧ v_X10_panelQ (nI i) m = nI s.2.2.1 ∧ v_X10_sideOfP (nI i) m = nI s.2.1 ∧ v_X10_sideOfQ (nI i) m = nI s.2.2.2 ∧ v_X10_lowOf (nI i) m = sL g an s ∧ v_X10_highOf (nI i) m = sH g an s ∧ vp_in (nI i) 360 := by
  obtain ⟨h1, -⟩ := List.getElem?_eq_some_iff.mp hi
  obtain ⟨w1, w2, w3, w4, -⟩ := seam_at hi
  obtain ⟨r1, r2, r3, r4, r5⟩ := hS.2.2 i s hi
  have hh : v_X10_has (nI i) m = 1 := by
    unfold v_X10_has
    rw [if_neg (nI_pos (by omega)), hS.1, if_neg (inle h1 (by omega)), if_neg (show ¬ (360 : Int32) ≤ nI i from inle (a := 360) (by omega) (by omega))]
  have n1 : ¬ (1 : Int32) = 0 := by decide
  unfold v_X10_panelP v_X10_panelQ v_X10_sideOfP v_X10_sideOfQ v_X10_lowOf v_X10_highOf
  rw [hh, if_neg n1, if_neg n1, if_neg n1, if_neg n1, if_neg n1, if_neg n1, clamp_nI (by omega), r1, r2, r3, r4]
  refine ⟨rfl, ?_, ?_, ?_, ?_, rfl, rfl, vp_in_nI (by omega) (by omega)⟩
  · rw [show (2 : Int32) = nI 2 from rfl, shr_k (by omega) (by omega)]; congr 1; omega
  · rw [show (2 : Int32) = nI 2 from rfl, shr_k (by omega) (by omega)]; congr 1; omega
  · rw [show nI (4 * s.1 + s.2.1) &&& 3 = nI ((4 * s.1 + s.2.1) % 2 ^ 2) from fa_mask _ 2]; congr 1; omega
  · rw [show nI (4 * s.2.2.1 + s.2.2.2) &&& 3 = nI ((4 * s.2.2.1 + s.2.2.2) % 2 ^ 2) from fa_mask _ 2]; congr 1; omega
theorem tp_ok {i : Nat} {x y : Int32} {m : Mm} {K : Mm → Prop} {z : Int32} (hz : z = nI i) (hi : i < 6) (kk : K (wI (wI m 391 i x) 392 i y)) : wp_X0_takePoint z x y m K := by
  subst hz
  unfold wp_X0_takePoint
  rw [if_neg (nI_pos (by omega)), if_neg (show ¬ (6 : Int32) ≤ nI i from inle (a := 6) hi (by omega)), clamp_nI (by omega)]
  rintro m3 rfl m4 rfl
  exact kk
def frT (m m2 : Mm) : Prop := ∀ b, b ≠ 391 → b ≠ 392 → b ≠ 393 → b ≠ 394 → m2.1 b = m.1 b
theorem frT_t {m m2 m3 : Mm} (f : frT m m2) (f2 : frT m2 m3) : frT m m3 := fun b h1 h2 h3 h4 => by rw [f2 b h1 h2 h3 h4, f b h1 h2 h3 h4]
theorem cFd_T {m m2 : Mm} {g : Vc} {an : Nat → Int32} (hp : pn g ≤ 10) (h : cFd m g an) (f : frT m m2) : cFd m2 g an := by
  refine ⟨by rw [f 269 (by omega) (by omega) (by omega) (by omega)]; exact h.1, fun k hk => ?_⟩
  have h3 := h.2 k hk
  unfold cF1 cP cL cS at h3 ⊢
  have e : ∀ b, b < 10 → m2.1 (283 + 10 * k + b) = m.1 (283 + 10 * k + b) := fun b hb => f _ (by omega) (by omega) (by omega) (by omega)
  have e0 : m2.1 (283 + 10 * k) = m.1 (283 + 10 * k) := f _ (by omega) (by omega) (by omega) (by omega)
  rw [e0, e 1 (by omega), e 2 (by omega), e 3 (by omega), e 4 (by omega), e 5 (by omega), e 6 (by omega), e 7 (by omega), e 8 (by omega), e 9 (by omega)]
  exact h3
