/-! facing; two panels: doubled, crossing -/
def nax (g : Vc) (an : Nat → Int32) (k : Nat) : Nat := (poseF g an k).2.2.1 / 2
theorem nax_lt {g : Vc} {an : Nat → Int32} (hp : par g) {k : Nat} (hk : k < pn g) : nax g an k < 3 := by
  have := (pose_ok (an := an) hp k hk).2.2.1
  unfold nax
  omega
theorem c_low {m : Mm} {g : Vc} {an : Nat → Int32} {k c : Nat} (h : cF1 m g an k) (hc : c < 3) : v_X8_lowOn (283 + 10 * k) (nI c) m = plo g an k c := by
  unfold v_X8_lowOn
  rw [if_neg (nI_pos (by omega)), if_neg (show ¬ (3 : Int32) ≤ nI c from inle (a := 3) hc (by omega)), clamp_nI (by omega), (h.2.1 c hc).1, mn_least, pcor_2]
  rfl
theorem c_high {m : Mm} {g : Vc} {an : Nat → Int32} {k c : Nat} (h : cF1 m g an k) (hc : c < 3) : v_X8_highOn (283 + 10 * k) (nI c) m = phi g an k c := by
  unfold v_X8_highOn
  rw [if_neg (nI_pos (by omega)), if_neg (show ¬ (3 : Int32) ≤ nI c from inle (a := 3) hc (by omega)), clamp_nI (by omega), (h.2.1 c hc).2, mx_most, pcor_2]
  rfl
theorem c_ax {m : Mm} {g : Vc} {an : Nat → Int32} {k : Nat} (hp : par g) (hk : k < pn g) (h : cF1 m g an k) : m.1 (283 + 10 * k) 0 >>> ((1 : Int32) &&& 31) = nI (nax g an k) := by
  rw [h.1.1, axis_sh (pose_ok hp k hk).2.2.1]; rfl
def xSh (g : Vc) (an : Nat → Int32) (a b c : Nat) : Int32 := v_X12_common (plo g an a c) (phi g an a c) (plo g an b c) (phi g an b c)
theorem c_common {m : Mm} {g : Vc} {an : Nat → Int32} {a b c : Nat} (ha : cF1 m g an a) (hb : cF1 m g an b) (hc : c < 3) : v_X8_commonOn (283 + 10 * a) (nI c) (283 + 10 * b) m = xSh g an a b c := by
  unfold v_X8_commonOn xSh v_X12_common
  rw [c_low ha hc, c_low hb hc, c_high ha hc, c_high hb hc, mn_least, mx_most]
/-- the plane of a lies inside b -/
def xCut (g : Vc) (an : Nat → Int32) (a b : Nat) (t : Int32) : Int32 := if plo g an a (nax g an a) ≤ plo g an b (nax g an a) + t then 0 else if phi g an b (nax g an a) - t ≤ plo g an a (nax g an a) then 0 else 1
def xCrs (g : Vc) (an : Nat → Int32) (a b : Nat) (t : Int32) : Int32 := if nax g an a = nax g an b then 0 else if xCut g an a b t = 0 then 0 else if xCut g an b a t = 0 then 0 else v_X12_most 0 (xSh g an a b (3 - nax g an a - nax g an b))
def xDbl (g : Vc) (an : Nat → Int32) (a b : Nat) (t : Int32) : Int32 := if nax g an a = nax g an b then (if v_X12_amount (plo g an a (nax g an a) - plo g an b (nax g an a)) ≤ t then (if xSh g an a b ((nax g an a + 1) % 3) ≤ 0 then 0 else if xSh g an a b ((nax g an a + 2) % 3) ≤ 0 then 0 else xSh g an a b ((nax g an a + 1) % 3) * xSh g an a b ((nax g an a + 2) % 3)) else 0) else 0
theorem c_cut {m : Mm} {g : Vc} {an : Nat → Int32} {a b : Nat} {t : Int32} (hp : par g) (hb : b < pn g) (fa : cF1 m g an a) (fb : cF1 m g an b) : v_X8_isCutBy (283 + 10 * a) (283 + 10 * b) t m = xCut g an b a t := by
  unfold v_X8_isCutBy xCut
  rw [c_ax hp hb fb, c_low fb (nax_lt hp hb), c_low fa (nax_lt hp hb), c_high fa (nax_lt hp hb)]
theorem ab_amount (x : Int32) : ab32 x = v_X12_amount x := by
  unfold ab32 v_X12_amount
  by_cases h : 0 ≤ x
  · rw [if_pos h, if_pos h]
  · rw [if_neg h, if_neg h, Int32.zero_sub]
theorem if_nI {α : Type} {a b : Nat} (ha : a < 2 ^ 31) (hb : b < 2 ^ 31) (x y : α) : (if nI a = nI b then x else y) = if a = b then x else y := by
  by_cases h : a = b
  · rw [if_pos h, if_pos (by rw [h])]
  · rw [if_neg h, if_neg (ine h ha hb)]
theorem ax_1 {a : Nat} (ha : a < 3) : rm32 (nI a + 1) 3 = nI ((a + 1) % 3) := by rw [nI_1]; exact rm32_nI (d := 3) (by omega) (by omega) (by omega)
theorem ax_2 {a : Nat} (ha : a < 3) : rm32 (nI a + 2) 3 = nI ((a + 2) % 3) := by rw [show (2 : Int32) = nI 2 from rfl, nI_add]; exact rm32_nI (d := 3) (by omega) (by omega) (by omega)
theorem ax_3 {a b : Nat} (ha : a < 3) (hb : b < 3) (h : ¬ a = b) : (3 : Int32) - nI a - nI b = nI (3 - a - b) := by rw [show (3 : Int32) = nI 3 from rfl, nI_sub (by omega), nI_sub (by omega)]
theorem c_crossing {m : Mm} {g : Vc} {an : Nat → Int32} {a b : Nat} {t : Int32} (hp : par g) (ha : a < pn g) (hb : b < pn g) (h : cFd m g an) : v_X5_crossing (nI a) (nI b) t m = xCrs g an a b t := by
  have hp1 := hp.1
  have fa := h.2 a ha
  have fb := h.2 b hb
  have na := nax_lt (an := an) hp ha
  have nb := nax_lt (an := an) hp hb
  unfold v_X5_crossing xCrs
  rw [poseAt_in (by omega), poseAt_in (by omega), c_ax hp ha fa, c_ax hp hb fb, c_cut hp hb fa fb, c_cut hp ha fb fa, if_nI (by omega) (by omega)]
  by_cases e : nax g an a = nax g an b
  · rw [if_pos e, if_pos e]
  · rw [if_neg e, if_neg e, ax_3 na nb e, c_common fa fb (by omega), mx_most]
    by_cases e1 : xCut g an b a t = 0
    · rw [if_pos e1, if_pos e1]
      by_cases e2 : xCut g an a b t = 0
      · rw [if_pos e2]
      · rw [if_neg e2]
    · rw [if_neg e1, if_neg e1]
theorem c_doubled {m : Mm} {g : Vc} {an : Nat → Int32} {a b : Nat} {t : Int32} (hp : par g) (ha : a < pn g) (hb : b < pn g) (h : cFd m g an) : v_X5_doubled (nI a) (nI b) t m = xDbl g an a b t := by
  have hp1 := hp.1
  have fa := h.2 a ha
  have fb := h.2 b hb
  have na := nax_lt (an := an) hp ha
  have nb := nax_lt (an := an) hp hb
  unfold v_X5_doubled xDbl
  rw [poseAt_in (by omega), poseAt_in (by omega), c_ax hp ha fa, c_ax hp hb fb, if_nI (by omega) (by omega), c_low fa na, c_low fb na, ab_amount, ax_1 na, ax_2 na, c_common fa fb (by omega), c_common fa fb (by omega)]
/-! the reference's -/
theorem r_445 {m : Mm} {g : Vc} {an : Nat → Int32} (h : fR m g an (pn g)) {k : Nat} (hk : k < pn g) : m.1 445 k = nI (nax g an k) := (h k hk).2.2
theorem r_443 {m : Mm} {g : Vc} {an : Nat → Int32} (h : fR m g an (pn g)) {k c : Nat} (hk : k < pn g) (hk10 : k < 10) (hc : c < 3) : m.1 443 ((3 : Int32) * nI k + nI c).toNatClampNeg = plo g an k c := by
  rw [show (3 : Int32) = nI 3 from rfl, nI_mul, nI_add, clamp_nI (by omega)]; exact ((h k hk).2.1 c hc).1
theorem r_444 {m : Mm} {g : Vc} {an : Nat → Int32} (h : fR m g an (pn g)) {k c : Nat} (hk : k < pn g) (hk10 : k < 10) (hc : c < 3) : m.1 444 ((3 : Int32) * nI k + nI c).toNatClampNeg = phi g an k c := by
  rw [show (3 : Int32) = nI 3 from rfl, nI_mul, nI_add, clamp_nI (by omega)]; exact ((h k hk).2.1 c hc).2
theorem in30 {k c : Nat} (hk : k < 10) (hc : c < 3) : vp_in ((3 : Int32) * nI k + nI c) 30 := by
  rw [show (3 : Int32) = nI 3 from rfl, nI_mul, nI_add]; exact vp_in_nI (by omega) (by omega)
theorem r_shared {m : Mm} {g : Vc} {an : Nat → Int32} (h : fR m g an (pn g)) (hp : par g) {a b c : Nat} (ha : a < pn g) (hb : b < pn g) (hc : c < 3) : v_X12_shared (nI a) (nI b) (nI c) m = xSh g an a b c ∧ s_X12_shared (nI a) (nI b) (nI c) := by
  have hp1 := hp.1
  unfold v_X12_shared s_X12_shared xSh
  rw [r_443 h ha (by omega) hc, r_443 h hb (by omega) hc, r_444 h ha (by omega) hc, r_444 h hb (by omega) hc]
  exact ⟨rfl, in30 (by omega) hc, in30 (by omega) hc⟩
theorem r_cuts {m : Mm} {g : Vc} {an : Nat → Int32} (h : fR m g an (pn g)) (hp : par g) {a b : Nat} {t : Int32} (ha : a < pn g) (hb : b < pn g) : v_X12_cuts (nI a) (nI b) t m = xCut g an a b t ∧ s_X12_cuts (nI a) (nI b) t m := by
  have hp1 := hp.1
  have na := nax_lt (an := an) hp ha
  unfold v_X12_cuts s_X12_cuts xCut
  rw [clamp_nI (show a < 2 ^ 31 by omega), r_445 h ha, r_443 h ha (by omega) na, r_443 h hb (by omega) na, r_444 h hb (by omega) na]
  exact ⟨rfl, vp_in_nI (by omega) (by omega), in30 (by omega) na, in30 (by omega) na⟩
theorem r_crossing {m : Mm} {g : Vc} {an : Nat → Int32} (h : fR m g an (pn g)) (hp : par g) {a b : Nat} {t : Int32} (ha : a < pn g) (hb : b < pn g) : v_X12_crossing (nI a) (nI b) t m = xCrs g an a b t ∧ s_X12_crossing (nI a) (nI b) t m := by
  have hp1 := hp.1
  have na := nax_lt (an := an) hp ha
  have nb := nax_lt (an := an) hp hb
  obtain ⟨u1, u2⟩ := r_cuts (t := t) h hp ha hb
  obtain ⟨w1, w2⟩ := r_cuts (t := t) h hp hb ha
  unfold v_X12_crossing s_X12_crossing xCrs
  rw [u1, w1, clamp_nI (show a < 2 ^ 31 by omega), clamp_nI (show b < 2 ^ 31 by omega), r_445 h ha, r_445 h hb, if_nI (by omega) (by omega)]
  by_cases e : nax g an a = nax g an b
  · rw [if_pos e, if_pos e, e]
    exact ⟨rfl, vp_in_nI (by omega) (by omega), vp_in_nI (by omega) (by omega), fun z => absurd rfl z⟩
  · obtain ⟨v1, v2⟩ := r_shared h hp ha hb (show 3 - nax g an a - nax g an b < 3 by omega)
    rw [if_neg e, if_neg e, ax_3 na nb e, v1]
    exact ⟨rfl, vp_in_nI (by omega) (by omega), vp_in_nI (by omega) (by omega), fun _ => ⟨u2, fun _ => ⟨w2, fun _ => v2⟩⟩⟩
theorem r_doubled {m : Mm} {g : Vc} {an : Nat → Int32} (h : fR m g an (pn g)) (hp : par g) {a b : Nat} {t : Int32} (ha : a < pn g) (hb : b < pn g) : v_X12_doubled (nI a) (nI b) t m = xDbl g an a b t ∧ s_X12_doubled (nI a) (nI b) t m := by
  have hp1 := hp.1
  have na := nax_lt (an := an) hp ha
  have nb := nax_lt (an := an) hp hb
  obtain ⟨v1, v2⟩ := r_shared h hp ha hb (show (nax g an a + 1) % 3 < 3 by omega)
  obtain ⟨w1, w2⟩ := r_shared h hp ha hb (show (nax g an a + 2) % 3 < 3 by omega)
  unfold v_X12_doubled s_X12_doubled xDbl
  rw [clamp_nI (show a < 2 ^ 31 by omega), clamp_nI (show b < 2 ^ 31 by omega), r_445 h ha, r_445 h hb, if_nI (by omega) (by omega), r_443 h ha (by omega) na, r_443 h hb (by omega) na, ax_1 na, ax_2 na, v1, w1]
  exact ⟨rfl, vp_in_nI (by omega) (by omega), vp_in_nI (by omega) (by omega), fun _ => ⟨in30 (by omega) na, in30 (by omega) na, fun _ => ⟨v2, w2⟩⟩⟩
