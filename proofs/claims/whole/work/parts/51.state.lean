/-! the abstract state: a design with limits and weights is the row of numbers that the reference keeps (137 of them) -/
abbrev Vc : Type := Nat → Int32
abbrev R4 : Type := Int32 × Int32 × Int32 × Int32
def pf (g : Vc) (k j : Nat) : Int32 := g (11 + 11 * k + j)
def pn (g : Vc) : Nat := (g 2).toNatClampNeg
/-- the rectangle of a panel that hangs on one with the rectangle r: x, y, width, height -/
def hung (g : Vc) (k : Nat) (r : R4) : R4 :=
  (if pf g k 1 = 0 ∨ pf g k 1 = 2 then r.1 + pf g k 2 else if pf g k 1 = 1 then r.1 + r.2.2.1 else r.1 - pf g k 4,
   if pf g k 1 = 0 ∨ pf g k 1 = 2 then (if pf g k 1 = 2 then r.2.1 + r.2.2.2 else r.2.1 - pf g k 4) else r.2.1 + pf g k 2,
   if pf g k 1 = 0 ∨ pf g k 1 = 2 then pf g k 3 else pf g k 4,
   if pf g k 1 = 0 ∨ pf g k 1 = 2 then pf g k 4 else pf g k 3)
def rect (g : Vc) (k : Nat) : R4 :=
  if k = 0 then (g 121, g 122, g 123, g 124) else if h : (pf g k 0).toNatClampNeg < k then hung g k (rect g (pf g k 0).toNatClampNeg) else (0, 0, 0, 0)
termination_by k
decreasing_by exact h
/-- a panel of the class, at a cell -/
def panR (f : Nat → Nat → Int32) (p : Nat) (g : Vc) (k : Nat) : Prop :=
  (∀ j, 5 ≤ j → j < 11 → f p j = pf g k j) ∧ (k = 0 → f p 0 = -9 ∧ f p 1 = -9) ∧ (0 < k → ∀ j, j < 5 → f p j = pf g k j) ∧
  f p 11 = (rect g k).1 ∧ f p 12 = (rect g k).2.1 ∧ f p 13 = (rect g k).2.2.1 ∧ f p 14 = (rect g k).2.2.2
/-- a Design of the class, at the cells from d on -/
def desR (f : Nat → Nat → Int32) (d : Nat) (g : Vc) : Prop :=
  f d 2 = g 0 ∧ f d 3 = g 1 ∧ f d 4 = g 2 ∧ (∀ i, i < 4 → f (d + 1) i = g (3 + 2 * i) ∧ f (d + 2) i = g (4 + 2 * i)) ∧ ∀ k, k < pn g → panR f (d + 5 + k) g k
abbrev AS : Type := Vc × List Vc × (Nat → Option Vc) × List Int32 × Int32
abbrev sg (S : AS) : Vc := S.1
abbrev sh (S : AS) : List Vc := S.2.1
abbrev ss (S : AS) : Nat → Option Vc := S.2.2.1
abbrev sx (S : AS) : List Int32 := S.2.2.2.1
abbrev sf (S : AS) : Int32 := S.2.2.2.2
def RefR (m : Mm) (S : AS) : Prop :=
  (∀ k, k < 137 → m.1 427 k = sg S k) ∧
  (m.1 426 4 = nI (sh S).length ∧ ∀ j v, (sh S)[j]? = some v → ∀ k, k < 137 → m.1 429 (137 * j + k) = v k) ∧
  (∀ q, q < 2 → match ss S q with | none => m.1 431 q = 0 | some v => m.1 431 q = 1 ∧ ∀ k, k < 125 → m.1 430 (125 * q + k) = v k) ∧
  (m.1 426 12 = nI (sx S).length ∧ ∀ i x, (sx S)[i]? = some x → m.1 436 i = x) ∧ m.1 426 13 = sf S
def limR (f : Nat → Nat → Int32) (a b : Nat) (g : Vc) : Prop := (∀ i, i < 4 → f a i = g (125 + i)) ∧ ∀ i, i < 8 → f b i = g (129 + i)
def ClsR (m : Mm) (S : AS) : Prop :=
  desR m.1 1 (sg S) ∧ limR m.1 265 266 (sg S) ∧
  (m.1 33 0 = nI (sh S).length ∧ ∃ o, o < 12 ∧ m.1 33 1 = nI o ∧ ∀ j v, (sh S)[j]? = some v → desR m.1 (61 + 15 * ((o + j) % 12)) v ∧ limR m.1 (36 + (o + j) % 12) (49 + (o + j) % 12) v) ∧
  (∀ q, q < 2 → match ss S q with | none => m.1 32 q = 0 | some v => m.1 32 q = 1 ∧ desR m.1 (396 + 15 * q) v) ∧
  (m.1 0 14 = nI (sx S).length ∧ ∀ i x, (sx S)[i]? = some x → m.1 241 i = x) ∧ m.1 0 15 = sf S
/-! what a design always is -/
def inR (x : Int32) (a b : Int) : Prop := a ≤ x.toInt ∧ x.toInt ≤ b
def ovl (r s : R4) : Prop := r.1.toInt < s.1.toInt + s.2.2.1.toInt ∧ s.1.toInt < r.1.toInt + r.2.2.1.toInt ∧ r.2.1.toInt < s.2.1.toInt + s.2.2.2.toInt ∧ s.2.1.toInt < r.2.1.toInt + r.2.2.2.toInt
/-- the length of a side of a rectangle -/
def sdl (r : R4) (s : Int32) : Int32 := if s = 0 ∨ s = 2 then r.2.2.1 else r.2.2.2
/-- numbers within their ranges -/
def rngD (g : Vc) : Prop :=
  inR (g 0) 20 300 ∧ inR (g 1) 20 300 ∧ (∃ n, n ≤ 10 ∧ g 2 = nI n) ∧ (∀ i, i < 4 → inR (g (3 + 2 * i)) 0 200 ∧ inR (g (4 + 2 * i)) 0 200 ∧ (g (3 + 2 * i) = 0 ↔ g (4 + 2 * i) = 0)) ∧
  (0 < pn g → inR (g 121) 0 300 ∧ inR (g 122) 0 300 ∧ inR (g 123) 1 300 ∧ inR (g 124) 1 300 ∧ (∀ j, j < 6 → pf g 0 j = 0) ∧ pf g 0 6 = -9) ∧
  (∀ k, k < pn g → (pf g k 6 = -9 ∨ ∃ t, t < pn g ∧ t ≠ k ∧ pf g k 6 = nI t) ∧ (pf g k 7 = -9 ∨ ∃ i, i < 4 ∧ pf g k 7 = nI i ∧ ¬ g (3 + 2 * i) = 0) ∧ inR (pf g k 8) 0 7 ∧ inR (pf g k 9) (-300) 300 ∧ inR (pf g k 10) (-300) 300) ∧
  ∀ k, 0 < k → k < pn g → (∃ p, p < k ∧ pf g k 0 = nI p) ∧ (∃ s, s < 4 ∧ pf g k 1 = nI s) ∧ inR (pf g k 2) 0 300 ∧ inR (pf g k 3) 1 300 ∧ inR (pf g k 4) 1 300 ∧ inR (pf g k 5) (-1) 2
/-- valid: within the sheet, on the parent's side, apart -/
def gok (g : Vc) : Prop := ∀ k, k < pn g → (0 ≤ (rect g k).1.toInt ∧ 0 ≤ (rect g k).2.1.toInt ∧ (rect g k).1.toInt + (rect g k).2.2.1.toInt ≤ (g 0).toInt ∧ (rect g k).2.1.toInt + (rect g k).2.2.2.toInt ≤ (g 1).toInt) ∧
  (0 < k → (pf g k 2).toInt + (pf g k 3).toInt ≤ (sdl (rect g (pf g k 0).toNatClampNeg) (pf g k 1)).toInt) ∧ ∀ o, o < k → ¬ ovl (rect g o) (rect g k)
def Dd (g : Vc) : Prop := rngD g ∧ gok g
def Ll (g : Vc) : Prop := (∀ i, i < 3 → inR (g (125 + i)) 0 20) ∧ inR (g 128) 0 100 ∧ ∀ i, i < 8 → inR (g (129 + i)) 0 9
def Inv (S : AS) : Prop := Dd (sg S) ∧ Ll (sg S) ∧ (sh S).length ≤ 12 ∧ (∀ v ∈ sh S, Dd v ∧ Ll v) ∧ (∀ q v, ss S q = some v → Dd v) ∧ (sx S).length ≤ 160 ∧ (∀ x ∈ sx S, inR x 0 127) ∧ inR (sf S) 0 3
def Sim (m : Mm) (S : AS) : Prop := RefR m S ∧ ClsR m S ∧ Inv S
theorem desR_congr {f f2 : Nat → Nat → Int32} {d : Nat} {g : Vc} (hn : pn g ≤ 10) (h : desR f d g) (hf : ∀ b, d ≤ b → b < d + 15 → f2 b = f b) : desR f2 d g := by
  obtain ⟨h1, h2, h3, h4, h5⟩ := h
  refine ⟨by rw [hf d (by omega) (by omega)]; exact h1, by rw [hf d (by omega) (by omega)]; exact h2, by rw [hf d (by omega) (by omega)]; exact h3, fun i hi => ?_, fun k hk => ?_⟩
  · rw [hf (d + 1) (by omega) (by omega), hf (d + 2) (by omega) (by omega)]
    exact h4 i hi
  · have := h5 k hk
    unfold panR at this ⊢
    rw [hf (d + 5 + k) (by omega) (by omega)]
    exact this
theorem pn_of {g : Vc} {n : Nat} (h : g 2 = nI n) (hn : n ≤ 10) : pn g = n := by
  unfold pn
  rw [h, clamp_nI (by omega)]
theorem Dd.ple {g : Vc} (h : Dd g) : pn g ≤ 10 := by
  obtain ⟨n, hn, e⟩ := h.1.2.2.1
  rw [pn_of e hn]
  exact hn
theorem Dd.g2 {g : Vc} (h : Dd g) : g 2 = nI (pn g) := by
  obtain ⟨n, hn, e⟩ := h.1.2.2.1
  rw [pn_of e hn]
  exact e
theorem rect_eq (g : Vc) (k : Nat) : rect g k = if k = 0 then (g 121, g 122, g 123, g 124) else if h : (pf g k 0).toNatClampNeg < k then hung g k (rect g (pf g k 0).toNatClampNeg) else (0, 0, 0, 0) := by rw [rect]
theorem rect_0 (g : Vc) : rect g 0 = (g 121, g 122, g 123, g 124) := by rw [rect_eq, if_pos rfl]
theorem rect_s {g : Vc} {k p : Nat} (h0 : 0 < k) (hp : pf g k 0 = nI p) (h : p < k) (hk : k ≤ 10) : rect g k = hung g k (rect g p) := by
  have e : (pf g k 0).toNatClampNeg = p := by rw [hp, clamp_nI (by omega)]
  rw [rect_eq, if_neg (by omega), dif_pos (by rw [e]; exact h), e]
/-! two rows that agree where it matters -/
theorem rect_congr {g g2 : Vc} (h : ∀ k, k < 125 → 2 < k → g2 k = g k) : ∀ k, k < 10 → rect g2 k = rect g k := by
  intro k
  induction k using Nat.strongRecOn with
  | _ k ih =>
    intro hk
    have hp : ∀ j, j < 11 → pf g2 k j = pf g k j := fun j hj => h _ (by omega) (by omega)
    rw [rect_eq g2 k, rect_eq g k]
    by_cases h0 : k = 0
    · rw [if_pos h0, if_pos h0, h 121 (by omega) (by omega), h 122 (by omega) (by omega), h 123 (by omega) (by omega), h 124 (by omega) (by omega)]
    · rw [if_neg h0, if_neg h0]
      have e0 := hp 0 (by omega)
      by_cases h1 : (pf g k 0).toNatClampNeg < k
      · rw [dif_pos (by rw [e0]; exact h1), dif_pos h1, e0, ih _ h1 (by omega)]
        unfold hung
        rw [hp 1 (by omega), hp 2 (by omega), hp 3 (by omega), hp 4 (by omega)]
      · rw [dif_neg (by rw [e0]; exact h1), dif_neg h1]
theorem desR_row {f : Nat → Nat → Int32} {d : Nat} {g g2 : Vc} (hn : pn g ≤ 10) (h : desR f d g) (hg : ∀ k, k < 125 → g2 k = g k) : desR f d g2 := by
  obtain ⟨h1, h2, h3, h4, h5⟩ := h
  have e2 : pn g2 = pn g := by unfold pn; rw [hg 2 (by omega)]
  refine ⟨by rw [hg 0 (by omega)]; exact h1, by rw [hg 1 (by omega)]; exact h2, by rw [hg 2 (by omega)]; exact h3, fun i hi => ?_, fun k hk => ?_⟩
  · rw [hg (3 + 2 * i) (by omega), hg (4 + 2 * i) (by omega)]
    exact h4 i hi
  · rw [e2] at hk
    obtain ⟨a1, a2, a3, a4⟩ := h5 k hk
    have hr := rect_congr (g := g) (g2 := g2) (fun k hk _ => hg k hk) k (by omega)
    refine ⟨fun j hj hj2 => ?_, a2, fun h0 j hj => ?_, ?_⟩
    · rw [a1 j hj hj2]; exact (hg _ (by omega)).symm
    · rw [a3 h0 j hj]; exact (hg _ (by omega)).symm
    · rw [hr]; exact a4
