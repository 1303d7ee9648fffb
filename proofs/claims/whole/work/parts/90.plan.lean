/-! how an image goes on over a seam -/
def fK (s : Qd) (b : Bool) : Nat := if b then s.2.2.1 else s.1
def fS (s : Qd) (b : Bool) : Nat := if b then s.2.2.2 else s.2.1
def tK (s : Qd) (b : Bool) : Nat := if b then s.1 else s.2.2.1
def tS (s : Qd) (b : Bool) : Nat := if b then s.2.1 else s.2.2.2
def aB (b : Bool) : Nat := if b then 3 else 0
def oB (b : Bool) : Nat := if b then 0 else 3
def xpx (g : Vc) (an : Nat → Int32) (s : Qd) (b : Bool) (t : Nat) : Int32 := PX g an s (oB b) - v_X0_turnedA (nI t) (imw g (fK s b)) (imh g (fK s b)) (cU g an s (aB b)) (cV g an s (aB b))
def xpy (g : Vc) (an : Nat → Int32) (s : Qd) (b : Bool) (t : Nat) : Int32 := PY g an s (oB b) - v_X0_turnedB (nI t) (imw g (fK s b)) (imh g (fK s b)) (cU g an s (aB b)) (cV g an s (aB b))
def agi (g : Vc) (an : Nat → Int32) (s : Qd) (b : Bool) (t i : Nat) : Prop := lA t (cU g an s (aB b + i) - cU g an s (aB b)) (cV g an s (aB b + i) - cV g an s (aB b)) = PX g an s (oB b + i) - PX g an s (oB b) ∧ lB t (cU g an s (aB b + i) - cU g an s (aB b)) (cV g an s (aB b + i) - cV g an s (aB b)) = PY g an s (oB b + i) - PY g an s (oB b)
def xAg (g : Vc) (an : Nat → Int32) (s : Qd) (b : Bool) (t : Nat) : Prop := agi g an s b t 1 ∧ agi g an s b t 2
def xPl (g : Vc) (an : Nat → Int32) (s : Qd) (b : Bool) (t : Nat) : Prop := ¬ aReach g (fK s b) (nI (fS s b)) = -9 ∧ t < 8 ∧ xAg g an s b t ∧ inR (xpx g an s b t) (-300) 300 ∧ inR (xpy g an s b t) (-300) 300
theorem cU_f (g : Vc) (an : Nat → Int32) (s : Qd) (b : Bool) (i : Nat) (hi : i < 3) : cU g an s (aB b + i) = aU g (fK s b) (PX g an s (aB b + i)) (PY g an s (aB b + i)) ∧ cV g an s (aB b + i) = aV g (fK s b) (PX g an s (aB b + i)) (PY g an s (aB b + i)) := by
  unfold cU cV aB fK
  cases b
  · simp only [Bool.false_eq_true, if_false, Nat.zero_add, if_pos hi]; exact ⟨trivial, trivial⟩
  · simp only [if_true, if_neg (show ¬ 3 + i < 3 by omega)]; exact ⟨trivial, trivial⟩
theorem cU_d {g : Vc} {an : Nat → Int32} {s : Qd} {b : Bool} {i t0 : Nat} (hi : i < 3) (ht : t0 < 8) (et : pf g (fK s b) 8 = nI t0) : cU g an s (aB b + i) - cU g an s (aB b) = lU t0 (PX g an s (aB b + i) - PX g an s (aB b)) (PY g an s (aB b + i) - PY g an s (aB b)) ∧ cV g an s (aB b + i) - cV g an s (aB b) = lV t0 (PX g an s (aB b + i) - PX g an s (aB b)) (PY g an s (aB b + i) - PY g an s (aB b)) := by
  have h1 := cU_f g an s b i hi
  have h0 := cU_f g an s b 0 (by omega)
  rw [Nat.add_zero] at h0
  rw [h1.1, h1.2, h0.1, h0.2]
  unfold aU aV
  rw [et]
  exact ⟨(oU_diff ht _ _ _ _ _ _ _).1, (oU_diff ht _ _ _ _ _ _ _).2⟩
theorem PX0 (g : Vc) (an : Nat → Int32) (s : Qd) (b : Bool) : PX g an s (aB b) = qX g an (fK s b) (fS s b) (sL g an s) ∧ PY g an s (aB b) = qY g an (fK s b) (fS s b) (sL g an s) ∧ PX g an s (aB b + 1) = qX g an (fK s b) (fS s b) (sH g an s) ∧ PY g an s (aB b + 1) = qY g an (fK s b) (fS s b) (sH g an s) ∧
    PX g an s (oB b) = qX g an (tK s b) (tS s b) (sL g an s) ∧ PY g an s (oB b) = qY g an (tK s b) (tS s b) (sL g an s) ∧ PX g an s (oB b + 1) = qX g an (tK s b) (tS s b) (sH g an s) ∧ PY g an s (oB b + 1) = qY g an (tK s b) (tS s b) (sH g an s) := by
  unfold PX PY aB oB fK fS tK tS
  cases b <;> simp
theorem PX2 (g : Vc) (an : Nat → Int32) (s : Qd) (b : Bool) : PX g an s (aB b + 2) - PX g an s (aB b) = (if b then -oX (fS s b) else oX (fS s b)) ∧ PY g an s (aB b + 2) - PY g an s (aB b) = (if b then -oY (fS s b) else oY (fS s b)) ∧
    PX g an s (oB b + 2) - PX g an s (oB b) = (if b then oX (tS s b) else -oX (tS s b)) ∧ PY g an s (oB b + 2) - PY g an s (oB b) = (if b then oY (tS s b) else -oY (tS s b)) := by
  unfold PX PY aB oB fS tS
  cases b <;> simp <;> refine ⟨?_, ?_, ?_, ?_⟩ <;> grind
theorem seam_fin {g : Vc} {an : Nat → Int32} {tol : Int32} {s : Qd} {b : Bool} (h : sWf g an tol s) : fK s b < pn g ∧ fS s b < 4 ∧ tK s b < pn g ∧ tS s b < 4 ∧ fK s b ≠ tK s b ∧ ((zL g an (fK s b) (fS s b)).toInt ≤ (sL g an s).toInt ∧ (sL g an s).toInt ≤ (zH g an (fK s b) (fS s b)).toInt) ∧ ((zL g an (fK s b) (fS s b)).toInt ≤ (sH g an s).toInt ∧ (sH g an s).toInt ≤ (zH g an (fK s b) (fS s b)).toInt) ∧
    ((zL g an (tK s b) (tS s b)).toInt ≤ (sL g an s).toInt ∧ (sL g an s).toInt ≤ (zH g an (tK s b) (tS s b)).toInt) ∧ ((zL g an (tK s b) (tS s b)).toInt ≤ (sH g an s).toInt ∧ (sH g an s).toInt ≤ (zH g an (tK s b) (tS s b)).toInt) ∧ zA g an (fK s b) (fS s b) = zA g an s.1 s.2.1 ∧ zA g an (tK s b) (tS s b) = zA g an s.1 s.2.1 := by
  obtain ⟨i1, i2, i3, i4⟩ := seam_in h
  obtain ⟨w1, w2, w3, w4, w5, w6, w7⟩ := h
  cases b
  · exact ⟨by show s.1 < pn g; omega, w3, w2, w4, by show s.1 ≠ s.2.2.1; omega, i1, i2, i3, i4, rfl, w5.symm⟩
  · exact ⟨w2, w4, by show s.1 < pn g; omega, w3, by show s.2.2.1 ≠ s.1; omega, i3, i4, i1, i2, w5.symm, rfl⟩
theorem ab_diff {c1 c2 sp d : Int32} (hd : d = 1 ∨ d = -1) (h1 : inR c1 (-9000) 9000) (h2 : inR c2 (-9000) 9000) (h : c1.toInt ≠ c2.toInt) : inR ((c2 - sp) * d - (c1 - sp) * d) (-20000) 20000 ∧ ((c2 - sp) * d - (c1 - sp) * d).toInt ≠ 0 := by
  obtain ⟨a1, a2⟩ := h1
  obtain ⟨a3, a4⟩ := h2
  rcases hd with z | z <;> subst z
  · have e : (c2 - sp) * 1 - (c1 - sp) * 1 = c2 - c1 := by grind
    have e2 : (c2 - c1).toInt = c2.toInt - c1.toInt := fb_subI (by omega) (by omega)
    rw [e]
    exact ⟨⟨by omega, by omega⟩, by omega⟩
  · have e : (c2 - sp) * -1 - (c1 - sp) * -1 = c1 - c2 := by grind
    have e2 : (c1 - c2).toInt = c1.toInt - c2.toInt := fb_subI (by omega) (by omega)
    rw [e]
    exact ⟨⟨by omega, by omega⟩, by omega⟩
theorem src_dir {g : Vc} {an : Nat → Int32} {tol : Int32} {s : Qd} {b : Bool} (hr : rngD g) (h : sWf g an tol s) : ∃ E e c, e < 2 ∧ c < 2 ∧ inR E (-20000) 20000 ∧ E.toInt ≠ 0 ∧ PX g an s (aB b + 1) - PX g an s (aB b) = E * u1X e ∧ PY g an s (aB b + 1) - PY g an s (aB b) = E * u1Y e ∧ PX g an s (aB b + 2) - PX g an s (aB b) = u2X e c ∧ PY g an s (aB b + 2) - PY g an s (aB b) = u2Y e c := by
  obtain ⟨k1, k2, k3, k4, k5, ⟨i1, i2⟩, ⟨i3, i4⟩, -⟩ := seam_fin (b := b) h
  obtain ⟨lb, hb⟩ := sLH_b (an := an) hr (s := s) (by have := h.1; have := h.2.1; omega) h.2.1
  have h7 := h.2.2.2.2.2.2
  rw [fa_le] at h7
  obtain ⟨p1, p2, p3, p4, -⟩ := PX0 g an s b
  obtain ⟨q1, q2, -⟩ := PX2 g an s b
  have eL := along_ab (an := an) hr k1 k2 i1 i2
  have eH := along_ab (an := an) hr k1 k2 i3 i4
  obtain ⟨d1, d2⟩ := ab_diff (sp := (poseF g an (fK s b)).2.2.2 (zA g an (fK s b) (fS s b))) (dir_1 g an (fK s b) (fS s b)) lb hb (by omega)
  rw [eL, eH] at d1 d2
  refine ⟨_, fS s b % 2, if (fS s b = 0 ∨ fS s b = 3) then (if b then 0 else 1) else (if b then 1 else 0), by omega, by split <;> split <;> omega, d1, d2, ?_⟩
  rw [q1, q2, p1, p2, p3, p4]
  unfold qX qY u1X u1Y u2X u2Y
  generalize ab32 (sH g an s - ck g an (fK s b) (sb0 (fS s b)) (zA g an (fK s b) (fS s b))) = A
  generalize ab32 (sL g an s - ck g an (fK s b) (sb0 (fS s b)) (zA g an (fK s b) (fS s b))) = B
  have x0 : oX 0 = 0 := rfl
  have x1 : oX 1 = 1 := rfl
  have x2 : oX 2 = 0 := rfl
  have x3 : oX 3 = -1 := rfl
  have y0 : oY 0 = -1 := rfl
  have y1 : oY 1 = 0 := rfl
  have y2 : oY 2 = 1 := rfl
  have y3 : oY 3 = 0 := rfl
  have nn : -(-1 : Int32) = 1 := by decide
  have n0 : -(0 : Int32) = 0 := by decide
  rcases side4 k2 with z | z | z | z <;> rw [z] <;> cases b <;> simp [x0, x1, x2, x3, y0, y1, y2, y3, nn, n0]
theorem xAg_one {g : Vc} {an : Nat → Int32} {tol : Int32} {s : Qd} {b : Bool} {t t2 : Nat} (hr : rngD g) (h : sWf g an tol s) (ht : t < 8) (ht2 : t2 < 8) (h1 : xAg g an s b t) (h2 : xAg g an s b t2) : t = t2 := by
  obtain ⟨k1, -⟩ := seam_fin (b := b) h
  obtain ⟨t0, h0, et⟩ := turn_i hr k1
  obtain ⟨E, e, c, he, hc, hE, hE0, e1, e2, e3, e4⟩ := src_dir (b := b) hr h
  obtain ⟨⟨a1, a2⟩, a3, a4⟩ := h1
  obtain ⟨⟨b1, b2⟩, b3, b4⟩ := h2
  have c1 := cU_d (an := an) (s := s) (b := b) (i := 1) (by omega) h0 et
  have c2 := cU_d (an := an) (s := s) (b := b) (i := 2) (by omega) h0 et
  rw [c1.1, c1.2, e1, e2] at a1 a2 b1 b2
  rw [c2.1, c2.2, e3, e4] at a3 a4 b3 b4
  exact turn_one h0 ht ht2 he hc hE hE0 (a1.trans b1.symm) (a2.trans b2.symm) (a3.trans b3.symm) (a4.trans b4.symm)
/-- the two ways in which a point is held against an orientation -/
theorem agi_c {g : Vc} {an : Nat → Int32} {s : Qd} {b : Bool} {t i : Nat} (ht : t < 8) : agi g an s b t i ↔ (v_X0_originalU (nI t) (imw g (fK s b)) (PX g an s (oB b + i) - xpx g an s b t) (PY g an s (oB b + i) - xpy g an s b t) = cU g an s (aB b + i) ∧ v_X0_originalV (nI t) (imh g (fK s b)) (PX g an s (oB b + i) - xpx g an s b t) (PY g an s (oB b + i) - xpy g an s b t) = cV g an s (aB b + i)) := by
  rw [turn_inv ht]
  unfold agi xpx xpy
  rw [← tA_diff ht (imw g (fK s b)) (imh g (fK s b)), ← tB_diff ht (imw g (fK s b)) (imh g (fK s b))]
  generalize v_X0_turnedA (nI t) (imw g (fK s b)) (imh g (fK s b)) (cU g an s (aB b + i)) (cV g an s (aB b + i)) = A1
  generalize v_X0_turnedA (nI t) (imw g (fK s b)) (imh g (fK s b)) (cU g an s (aB b)) (cV g an s (aB b)) = A0
  generalize v_X0_turnedB (nI t) (imw g (fK s b)) (imh g (fK s b)) (cU g an s (aB b + i)) (cV g an s (aB b + i)) = B1
  generalize v_X0_turnedB (nI t) (imw g (fK s b)) (imh g (fK s b)) (cU g an s (aB b)) (cV g an s (aB b)) = B0
  constructor <;> rintro ⟨h1, h2⟩ <;> constructor <;> grind
theorem r_ot {t : Nat} (ht : t < 8) (w h u v : Int32) : v_X12_onTurned (nI t) w h u v 0 = v_X0_turnedA (nI t) w h u v ∧ v_X12_onTurned (nI t) w h u v 1 = v_X0_turnedB (nI t) w h u v := by
  match t, ht with
  | 0, _ => exact ⟨rfl, rfl⟩
  | 1, _ => exact ⟨rfl, rfl⟩
  | 2, _ => exact ⟨rfl, rfl⟩
  | 3, _ => exact ⟨rfl, rfl⟩
  | 4, _ => exact ⟨rfl, rfl⟩
  | 5, _ => exact ⟨rfl, rfl⟩
  | 6, _ => exact ⟨rfl, rfl⟩
  | 7, _ => exact ⟨rfl, rfl⟩
theorem agi_r1 {g : Vc} {an : Nat → Int32} {s : Qd} {b : Bool} {t i : Nat} (ht : t < 8) : agi g an s b t i ↔ (PX g an s (oB b + i) - xpx g an s b t = v_X0_turnedA (nI t) (imw g (fK s b)) (imh g (fK s b)) (cU g an s (aB b + i)) (cV g an s (aB b + i)) ∧ PY g an s (oB b + i) - xpy g an s b t = v_X0_turnedB (nI t) (imw g (fK s b)) (imh g (fK s b)) (cU g an s (aB b + i)) (cV g an s (aB b + i))) := by
  rw [agi_c ht, turn_inv ht]
/-- the reference moves out of the source, into the target -/
theorem agi_r2 {g : Vc} {an : Nat → Int32} {s : Qd} {b : Bool} {t : Nat} {su sv : Int32} (ht : t < 8) (hu : cU g an s (aB b + 2) - cU g an s (aB b) = if b then -su else su) (hv : cV g an s (aB b + 2) - cV g an s (aB b) = if b then -sv else sv) :
    agi g an s b t 2 ↔ (PX g an s (oB b) - oX (tS s b) - xpx g an s b t = v_X0_turnedA (nI t) (imw g (fK s b)) (imh g (fK s b)) (cU g an s (aB b) + su) (cV g an s (aB b) + sv) ∧ PY g an s (oB b) - oY (tS s b) - xpy g an s b t = v_X0_turnedB (nI t) (imw g (fK s b)) (imh g (fK s b)) (cU g an s (aB b) + su) (cV g an s (aB b) + sv)) := by
  obtain ⟨-, -, q3, q4⟩ := PX2 g an s b
  unfold agi
  rw [hu, hv, q3, q4]
  unfold xpx xpy
  have dA := tA_diff ht (imw g (fK s b)) (imh g (fK s b)) (cU g an s (aB b)) (cV g an s (aB b)) (cU g an s (aB b) + su) (cV g an s (aB b) + sv)
  have dB := tB_diff ht (imw g (fK s b)) (imh g (fK s b)) (cU g an s (aB b)) (cV g an s (aB b)) (cU g an s (aB b) + su) (cV g an s (aB b) + sv)
  have e1 : cU g an s (aB b) + su - cU g an s (aB b) = su := by grind
  have e2 : cV g an s (aB b) + sv - cV g an s (aB b) = sv := by grind
  rw [e1, e2] at dA dB
  have n1 := (lA_neg ht su sv).1
  have n2 := (lA_neg ht su sv).2
  revert dA dB n1 n2
  generalize v_X0_turnedA (nI t) (imw g (fK s b)) (imh g (fK s b)) (cU g an s (aB b) + su) (cV g an s (aB b) + sv) = A1
  generalize v_X0_turnedA (nI t) (imw g (fK s b)) (imh g (fK s b)) (cU g an s (aB b)) (cV g an s (aB b)) = A0
  generalize v_X0_turnedB (nI t) (imw g (fK s b)) (imh g (fK s b)) (cU g an s (aB b) + su) (cV g an s (aB b) + sv) = B1
  generalize v_X0_turnedB (nI t) (imw g (fK s b)) (imh g (fK s b)) (cU g an s (aB b)) (cV g an s (aB b)) = B0
  intro dA dB n1 n2
  cases b
  · simp only [Bool.false_eq_true, if_false]
    rw [← dA, ← dB]
    constructor <;> rintro ⟨h1, h2⟩ <;> constructor <;> grind
  · simp only [if_true]
    rw [n1, n2, ← dA, ← dB]
    constructor <;> rintro ⟨h1, h2⟩ <;> constructor <;> grind
