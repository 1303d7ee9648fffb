/-! the eight orientations -/
theorem eight {t : Nat} (h : t < 8) : t = 0 ∨ t = 1 ∨ t = 2 ∨ t = 3 ∨ t = 4 ∨ t = 5 ∨ t = 6 ∨ t = 7 := by omega
theorem tA0 (w h u v : Int32) : v_X0_turnedA (nI 0) w h u v = u := rfl
theorem tA1 (w h u v : Int32) : v_X0_turnedA (nI 1) w h u v = h - v := rfl
theorem tA2 (w h u v : Int32) : v_X0_turnedA (nI 2) w h u v = w - u := rfl
theorem tA3 (w h u v : Int32) : v_X0_turnedA (nI 3) w h u v = v := rfl
theorem tA4 (w h u v : Int32) : v_X0_turnedA (nI 4) w h u v = w - u := rfl
theorem tA5 (w h u v : Int32) : v_X0_turnedA (nI 5) w h u v = h - v := rfl
theorem tA6 (w h u v : Int32) : v_X0_turnedA (nI 6) w h u v = w - (w - u) := rfl
theorem tA7 (w h u v : Int32) : v_X0_turnedA (nI 7) w h u v = v := rfl
theorem tB0 (w h u v : Int32) : v_X0_turnedB (nI 0) w h u v = v := rfl
theorem tB1 (w h u v : Int32) : v_X0_turnedB (nI 1) w h u v = u := rfl
theorem tB2 (w h u v : Int32) : v_X0_turnedB (nI 2) w h u v = h - v := rfl
theorem tB3 (w h u v : Int32) : v_X0_turnedB (nI 3) w h u v = w - u := rfl
theorem tB4 (w h u v : Int32) : v_X0_turnedB (nI 4) w h u v = v := rfl
theorem tB5 (w h u v : Int32) : v_X0_turnedB (nI 5) w h u v = w - u := rfl
theorem tB6 (w h u v : Int32) : v_X0_turnedB (nI 6) w h u v = h - v := rfl
theorem tB7 (w h u v : Int32) : v_X0_turnedB (nI 7) w h u v = w - (w - u) := rfl
theorem oU0 (w a b : Int32) : v_X0_originalU (nI 0) w a b = a := rfl
theorem oU1 (w a b : Int32) : v_X0_originalU (nI 1) w a b = b := rfl
theorem oU2 (w a b : Int32) : v_X0_originalU (nI 2) w a b = w - a := rfl
theorem oU3 (w a b : Int32) : v_X0_originalU (nI 3) w a b = w - b := rfl
theorem oU4 (w a b : Int32) : v_X0_originalU (nI 4) w a b = w - a := rfl
theorem oU5 (w a b : Int32) : v_X0_originalU (nI 5) w a b = w - b := rfl
theorem oU6 (w a b : Int32) : v_X0_originalU (nI 6) w a b = w - (w - a) := rfl
theorem oU7 (w a b : Int32) : v_X0_originalU (nI 7) w a b = w - (w - b) := rfl
theorem oV0 (h a b : Int32) : v_X0_originalV (nI 0) h a b = b := rfl
theorem oV1 (h a b : Int32) : v_X0_originalV (nI 1) h a b = h - a := rfl
theorem oV2 (h a b : Int32) : v_X0_originalV (nI 2) h a b = h - b := rfl
theorem oV3 (h a b : Int32) : v_X0_originalV (nI 3) h a b = a := rfl
theorem oV4 (h a b : Int32) : v_X0_originalV (nI 4) h a b = b := rfl
theorem oV5 (h a b : Int32) : v_X0_originalV (nI 5) h a b = h - a := rfl
theorem oV6 (h a b : Int32) : v_X0_originalV (nI 6) h a b = h - b := rfl
theorem oV7 (h a b : Int32) : v_X0_originalV (nI 7) h a b = a := rfl
/-- the linear parts -/
def lA (t : Nat) (u v : Int32) : Int32 := v_X0_turnedA (nI t) 0 0 u v
def lB (t : Nat) (u v : Int32) : Int32 := v_X0_turnedB (nI t) 0 0 u v
def lU (t : Nat) (a b : Int32) : Int32 := v_X0_originalU (nI t) 0 a b
def lV (t : Nat) (a b : Int32) : Int32 := v_X0_originalV (nI t) 0 a b
theorem tA_diff {t : Nat} (ht : t < 8) (w h u v u1 v1 : Int32) : v_X0_turnedA (nI t) w h u1 v1 - v_X0_turnedA (nI t) w h u v = lA t (u1 - u) (v1 - v) := by
  unfold lA
  rcases eight ht with z | z | z | z | z | z | z | z <;> subst z <;> simp only [tA0, tA1, tA2, tA3, tA4, tA5, tA6, tA7] <;> grind
theorem tB_diff {t : Nat} (ht : t < 8) (w h u v u1 v1 : Int32) : v_X0_turnedB (nI t) w h u1 v1 - v_X0_turnedB (nI t) w h u v = lB t (u1 - u) (v1 - v) := by
  unfold lB
  rcases eight ht with z | z | z | z | z | z | z | z <;> subst z <;> simp only [tB0, tB1, tB2, tB3, tB4, tB5, tB6, tB7] <;> grind
theorem turn_inv {t : Nat} (ht : t < 8) (w h a b u v : Int32) : (v_X0_originalU (nI t) w a b = u ∧ v_X0_originalV (nI t) h a b = v) ↔ (a = v_X0_turnedA (nI t) w h u v ∧ b = v_X0_turnedB (nI t) w h u v) := by
  rcases eight ht with z | z | z | z | z | z | z | z <;> subst z <;> simp only [tA0, tA1, tA2, tA3, tA4, tA5, tA6, tA7, tB0, tB1, tB2, tB3, tB4, tB5, tB6, tB7, oU0, oU1, oU2, oU3, oU4, oU5, oU6, oU7, oV0, oV1, oV2, oV3, oV4, oV5, oV6, oV7] <;> constructor <;> rintro ⟨h1, h2⟩ <;> constructor <;> grind
theorem lA_mul {t : Nat} (ht : t < 8) (e u v : Int32) : lA t (e * u) (e * v) = e * lA t u v ∧ lB t (e * u) (e * v) = e * lB t u v := by
  unfold lA lB
  rcases eight ht with z | z | z | z | z | z | z | z <;> subst z <;> simp only [tA0, tA1, tA2, tA3, tA4, tA5, tA6, tA7, tB0, tB1, tB2, tB3, tB4, tB5, tB6, tB7] <;> constructor <;> grind
theorem lU_mul {t : Nat} (ht : t < 8) (e u v : Int32) : lU t (e * u) (e * v) = e * lU t u v ∧ lV t (e * u) (e * v) = e * lV t u v := by
  unfold lU lV
  rcases eight ht with z | z | z | z | z | z | z | z <;> subst z <;> simp only [oU0, oU1, oU2, oU3, oU4, oU5, oU6, oU7, oV0, oV1, oV2, oV3, oV4, oV5, oV6, oV7] <;> constructor <;> grind
theorem lA_neg {t : Nat} (ht : t < 8) (u v : Int32) : lA t (-u) (-v) = -lA t u v ∧ lB t (-u) (-v) = -lB t u v := by
  unfold lA lB
  rcases eight ht with z | z | z | z | z | z | z | z <;> subst z <;> simp only [tA0, tA1, tA2, tA3, tA4, tA5, tA6, tA7, tB0, tB1, tB2, tB3, tB4, tB5, tB6, tB7] <;> constructor <;> grind
theorem oU_diff {t : Nat} (ht : t < 8) (w x y x1 y1 px py : Int32) : v_X0_originalU (nI t) w (x1 - px) (y1 - py) - v_X0_originalU (nI t) w (x - px) (y - py) = lU t (x1 - x) (y1 - y) ∧ v_X0_originalV (nI t) w (x1 - px) (y1 - py) - v_X0_originalV (nI t) w (x - px) (y - py) = lV t (x1 - x) (y1 - y) := by
  unfold lU lV
  rcases eight ht with z | z | z | z | z | z | z | z <;> subst z <;> simp only [oU0, oU1, oU2, oU3, oU4, oU5, oU6, oU7, oV0, oV1, oV2, oV3, oV4, oV5, oV6, oV7] <;> constructor <;> grind
/-- unit steps: along the side, and out of it -/
def u1X (e : Nat) : Int32 := if e = 0 then 1 else 0
def u1Y (e : Nat) : Int32 := if e = 0 then 0 else 1
def u2X (e c : Nat) : Int32 := if e = 0 then 0 else if c = 0 then 1 else -1
def u2Y (e c : Nat) : Int32 := if e = 0 then (if c = 0 then 1 else -1) else 0
theorem unit_fin : ∀ t0, t0 < 8 → ∀ t, t < 8 → ∀ e, e < 2 → (lA t (lU t0 (u1X e) (u1Y e)) (lV t0 (u1X e) (u1Y e)) = 0 ∨ lA t (lU t0 (u1X e) (u1Y e)) (lV t0 (u1X e) (u1Y e)) = 1 ∨ lA t (lU t0 (u1X e) (u1Y e)) (lV t0 (u1X e) (u1Y e)) = -1) ∧ (lB t (lU t0 (u1X e) (u1Y e)) (lV t0 (u1X e) (u1Y e)) = 0 ∨ lB t (lU t0 (u1X e) (u1Y e)) (lV t0 (u1X e) (u1Y e)) = 1 ∨ lB t (lU t0 (u1X e) (u1Y e)) (lV t0 (u1X e) (u1Y e)) = -1) := by decide +kernel
def finB (t0 t t2 e c : Nat) : Bool := !(decide (lA t (lU t0 (u1X e) (u1Y e)) (lV t0 (u1X e) (u1Y e)) = lA t2 (lU t0 (u1X e) (u1Y e)) (lV t0 (u1X e) (u1Y e))) && decide (lB t (lU t0 (u1X e) (u1Y e)) (lV t0 (u1X e) (u1Y e)) = lB t2 (lU t0 (u1X e) (u1Y e)) (lV t0 (u1X e) (u1Y e))) &&
    decide (lA t (lU t0 (u2X e c) (u2Y e c)) (lV t0 (u2X e c) (u2Y e c)) = lA t2 (lU t0 (u2X e c) (u2Y e c)) (lV t0 (u2X e c) (u2Y e c))) && decide (lB t (lU t0 (u2X e c) (u2Y e c)) (lV t0 (u2X e c) (u2Y e c)) = lB t2 (lU t0 (u2X e c) (u2Y e c)) (lV t0 (u2X e c) (u2Y e c)))) || decide (t = t2)
theorem fin_all : ∀ n, n < 2048 → finB (n % 8) (n / 8 % 8) (n / 64 % 8) (n / 512 % 2) (n / 1024) = true := by decide +kernel
theorem turn_fin (t0 : Nat) (h0 : t0 < 8) (t : Nat) (ht : t < 8) (t2 : Nat) (ht2 : t2 < 8) (e : Nat) (he : e < 2) (c : Nat) (hc : c < 2) (h1 : lA t (lU t0 (u1X e) (u1Y e)) (lV t0 (u1X e) (u1Y e)) = lA t2 (lU t0 (u1X e) (u1Y e)) (lV t0 (u1X e) (u1Y e))) (h2 : lB t (lU t0 (u1X e) (u1Y e)) (lV t0 (u1X e) (u1Y e)) = lB t2 (lU t0 (u1X e) (u1Y e)) (lV t0 (u1X e) (u1Y e)))
    (h3 : lA t (lU t0 (u2X e c) (u2Y e c)) (lV t0 (u2X e c) (u2Y e c)) = lA t2 (lU t0 (u2X e c) (u2Y e c)) (lV t0 (u2X e c) (u2Y e c))) (h4 : lB t (lU t0 (u2X e c) (u2Y e c)) (lV t0 (u2X e c) (u2Y e c)) = lB t2 (lU t0 (u2X e c) (u2Y e c)) (lV t0 (u2X e c) (u2Y e c))) : t = t2 := by
  have h := fin_all (t0 + 8 * t + 64 * t2 + 512 * e + 1024 * c) (by omega)
  rw [show (t0 + 8 * t + 64 * t2 + 512 * e + 1024 * c) % 8 = t0 by omega, show (t0 + 8 * t + 64 * t2 + 512 * e + 1024 * c) / 8 % 8 = t by omega, show (t0 + 8 * t + 64 * t2 + 512 * e + 1024 * c) / 64 % 8 = t2 by omega, show (t0 + 8 * t + 64 * t2 + 512 * e + 1024 * c) / 512 % 2 = e by omega, show (t0 + 8 * t + 64 * t2 + 512 * e + 1024 * c) / 1024 = c by omega] at h
  unfold finB at h
  rw [decide_eq_true h1, decide_eq_true h2, decide_eq_true h3, decide_eq_true h4] at h
  simpa using h
theorem mul_can {e x y : Int32} (he : inR e (-20000) 20000) (h0 : e.toInt ≠ 0) (hx : x = 0 ∨ x = 1 ∨ x = -1) (hy : y = 0 ∨ y = 1 ∨ y = -1) (h : e * x = e * y) : x = y := by
  obtain ⟨e1, e2⟩ := he
  have b : ∀ z : Int32, z = 0 ∨ z = 1 ∨ z = -1 → -1 ≤ z.toInt ∧ z.toInt ≤ 1 := fun z hz => by
    rcases hz with w | w | w <;> subst w <;> decide
  have m : ∀ z : Int32, z = 0 ∨ z = 1 ∨ z = -1 → (e * z).toInt = e.toInt * z.toInt := fun z hz => by
    have c1 : (0 : Int32).toInt = 0 := rfl
    have c2 : (1 : Int32).toInt = 1 := rfl
    have c3 : (-1 : Int32).toInt = -1 := rfl
    rcases hz with w | w | w <;> subst w
    · exact fb_mulI (by rw [c1]; omega) (by rw [c1]; omega)
    · exact fb_mulI (by rw [c2]; omega) (by rw [c2]; omega)
    · exact fb_mulI (by rw [c3]; omega) (by rw [c3]; omega)
  have h2 : e.toInt * x.toInt = e.toInt * y.toInt := by rw [← m x hx, ← m y hy, h]
  rw [fa_eq]
  exact Int.eq_of_mul_eq_mul_left h0 h2
theorem turn_one {t0 t t2 e c : Nat} {E : Int32} (h0 : t0 < 8) (ht : t < 8) (ht2 : t2 < 8) (he : e < 2) (hc : c < 2) (hE : inR E (-20000) 20000) (hE0 : E.toInt ≠ 0)
    (h1 : lA t (lU t0 (E * u1X e) (E * u1Y e)) (lV t0 (E * u1X e) (E * u1Y e)) = lA t2 (lU t0 (E * u1X e) (E * u1Y e)) (lV t0 (E * u1X e) (E * u1Y e))) (h2 : lB t (lU t0 (E * u1X e) (E * u1Y e)) (lV t0 (E * u1X e) (E * u1Y e)) = lB t2 (lU t0 (E * u1X e) (E * u1Y e)) (lV t0 (E * u1X e) (E * u1Y e)))
    (h3 : lA t (lU t0 (u2X e c) (u2Y e c)) (lV t0 (u2X e c) (u2Y e c)) = lA t2 (lU t0 (u2X e c) (u2Y e c)) (lV t0 (u2X e c) (u2Y e c))) (h4 : lB t (lU t0 (u2X e c) (u2Y e c)) (lV t0 (u2X e c) (u2Y e c)) = lB t2 (lU t0 (u2X e c) (u2Y e c)) (lV t0 (u2X e c) (u2Y e c))) : t = t2 := by
  rw [(lU_mul h0 E _ _).1, (lU_mul h0 E _ _).2, (lA_mul ht E _ _).1, (lA_mul ht2 E _ _).1] at h1
  rw [(lU_mul h0 E _ _).1, (lU_mul h0 E _ _).2, (lA_mul ht E _ _).2, (lA_mul ht2 E _ _).2] at h2
  have f1 := unit_fin t0 h0 t ht e he
  have f2 := unit_fin t0 h0 t2 ht2 e he
  exact turn_fin t0 h0 t ht t2 ht2 e he c hc (mul_can hE hE0 f1.1 f2.1 h1) (mul_can hE hE0 f1.2 f2.2 h2) h3 h4
