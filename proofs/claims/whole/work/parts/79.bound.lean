/-! how far a folded panel can lie -/
theorem pt_3 (d c : Nat) : pt d c = 1 ∨ pt d c = -1 ∨ pt d c = 0 := by
  unfold pt
  by_cases e : d / 2 = c
  · rw [if_pos e]
    by_cases z : d % 2 = 0
    · rw [if_pos z]; exact Or.inl rfl
    · rw [if_neg z]; exact Or.inr (Or.inl rfl)
  · rw [if_neg e]; exact Or.inr (Or.inr rfl)
theorem mul_ptT {x : Int32} (h : inR x (-100000) 100000) (d c : Nat) : (x * pt d c).toInt = x.toInt * (pt d c).toInt := by
  obtain ⟨h1, h2⟩ := h
  have e1 : (1 : Int32).toInt = 1 := rfl
  have e2 : (-1 : Int32).toInt = -1 := rfl
  have e3 : (0 : Int32).toInt = 0 := rfl
  rcases pt_3 d c with z | z | z <;> rw [z]
  · exact fb_mulI (by rw [e1]; omega) (by rw [e1]; omega)
  · exact fb_mulI (by rw [e2]; omega) (by rw [e2]; omega)
  · exact fb_mulI (by rw [e3]; omega) (by rw [e3]; omega)
theorem mul_pt {x : Int32} {b : Int} (h0 : 0 ≤ b) (hb : b ≤ 100000) (h : inR x (-b) b) (d c : Nat) : inR (x * pt d c) (-b) b := by
  obtain ⟨h1, h2⟩ := h
  have e1 : (1 : Int32).toInt = 1 := rfl
  have e2 : (-1 : Int32).toInt = -1 := rfl
  have e3 : (0 : Int32).toInt = 0 := rfl
  have e := mul_ptT (x := x) ⟨by omega, by omega⟩ d c
  rcases pt_3 d c with z | z | z <;> rw [z] at e ⊢ <;> (try rw [e1] at e) <;> (try rw [e2] at e) <;> (try rw [e3] at e) <;> exact ⟨by omega, by omega⟩
theorem inR_up {x : Int32} {a b a2 b2 : Int} (h : inR x a b) (h1 : a2 ≤ a) (h2 : b ≤ b2) : inR x a2 b2 := ⟨Int.le_trans h1 h.1, Int.le_trans h.2 h2⟩
theorem inR_add {x y : Int32} {a b : Int} (h : inR x (-a) a) (hy : inR y (-b) b) (ha : a ≤ 1000000) (hb : b ≤ 1000000) : inR (x + y) (-(a + b)) (a + b) := by
  obtain ⟨h1, h2⟩ := h
  obtain ⟨h3, h4⟩ := hy
  have e : (x + y).toInt = x.toInt + y.toInt := fb_addI (by omega) (by omega)
  exact ⟨by omega, by omega⟩
theorem inR_0 {b : Int} (h : 0 ≤ b) : inR 0 (-b) b := ⟨by have e3 : (0 : Int32).toInt = 0 := rfl; omega, by have e3 : (0 : Int32).toInt = 0 := rfl; omega⟩
theorem spot_b {g : Vc} {an : Nat → Int32} (hr : rngD g) : ∀ k, k < pn g → ∀ c, inR ((poseF g an k).2.2.2 c) (-(900 * k + 300)) (900 * k + 300) := by
  have hp := hr.par
  have hp1 := hp.1
  have e3 : (0 : Int32).toInt = 0 := rfl
  intro k
  induction k using Nat.strongRecOn with
  | ind k ih =>
    intro hk c
    by_cases h0 : k = 0
    · subst h0
      obtain ⟨⟨q1, q2⟩, ⟨q3, q4⟩, -⟩ := hr.2.2.2.2.1 hk
      rw [poseF_0]
      show inR (if c = 0 then g 121 else if c = 1 then g 122 else 0) _ _
      split
      · exact ⟨by omega, by omega⟩
      · split
        · exact ⟨by omega, by omega⟩
        · exact ⟨by omega, by omega⟩
    · obtain ⟨⟨p, hpk, ep⟩, ⟨s, hs, es⟩, b2, b3, b4, -⟩ := hr.2.2.2.2.2.2 k (by omega) hk
      obtain ⟨-, -, ⟨b5, b6⟩, b7, b8⟩ := rect_b hr (show p < pn g by omega)
      have i0 := ih p hpk (by omega) c
      rw [poseF_s (by omega) (by omega) hpk ep hs es]
      show inR ((poseF g an p).2.2.2 c + (if s = 1 then (rect g p).2.2.1 * pt (poseF g an p).1 c else if s = 2 then (rect g p).2.2.2 * pt (poseF g an p).2.1 c else 0) + pf g k 2 * (if s = 0 ∨ s = 2 then pt (poseF g an p).1 c else pt (poseF g an p).2.1 c) + (if s = 0 ∨ s = 3 then pf g k 4 * pt (intC (poseF g an p) s (an k)) c else 0)) _ _
      have t1 : inR (if s = 1 then (rect g p).2.2.1 * pt (poseF g an p).1 c else if s = 2 then (rect g p).2.2.2 * pt (poseF g an p).2.1 c else 0) (-300) 300 := by
        split
        · exact mul_pt (by omega) (by omega) ⟨by omega, b6⟩ _ _
        · split
          · exact mul_pt (by omega) (by omega) ⟨by omega, b8⟩ _ _
          · exact inR_0 (by omega)
      have t2 : inR (pf g k 2 * (if s = 0 ∨ s = 2 then pt (poseF g an p).1 c else pt (poseF g an p).2.1 c)) (-300) 300 := by
        obtain ⟨z1, z2⟩ := b2
        split
        · exact mul_pt (by omega) (by omega) ⟨by omega, z2⟩ _ _
        · exact mul_pt (by omega) (by omega) ⟨by omega, z2⟩ _ _
      have t3 : inR (if s = 0 ∨ s = 3 then pf g k 4 * pt (intC (poseF g an p) s (an k)) c else 0) (-300) 300 := by
        obtain ⟨z1, z2⟩ := b4
        split
        · exact mul_pt (by omega) (by omega) ⟨by omega, z2⟩ _ _
        · exact inR_0 (by omega)
      exact inR_up (inR_add (inR_add (inR_add i0 t1 (by omega) (by omega)) t2 (by omega) (by omega)) t3 (by omega) (by omega)) (by omega) (by omega)
/-- corner n of panel k on axis c -/
def ck (g : Vc) (an : Nat → Int32) (k n c : Nat) : Int32 := pcor (poseF g an k) (rect g k).2.2.1 (rect g k).2.2.2 n c
theorem ck_b {g : Vc} {an : Nat → Int32} (hr : rngD g) {k : Nat} (hk : k < pn g) (n c : Nat) : inR (ck g an k n c) (-9000) 9000 := by
  have hp1 := hr.par.1
  obtain ⟨-, -, ⟨b5, b6⟩, b7, b8⟩ := rect_b hr hk
  have i0 := spot_b (an := an) hr k hk c
  have t1 : inR (if n = 1 ∨ n = 2 then (rect g k).2.2.1 * pt (poseF g an k).1 c else 0) (-300) 300 := by
    split
    · exact mul_pt (by omega) (by omega) ⟨by omega, b6⟩ _ _
    · exact inR_0 (by omega)
  have t2 : inR (if n = 2 ∨ n = 3 then (rect g k).2.2.2 * pt (poseF g an k).2.1 c else 0) (-300) 300 := by
    split
    · exact mul_pt (by omega) (by omega) ⟨by omega, b8⟩ _ _
    · exact inR_0 (by omega)
  exact inR_up (inR_add (inR_add i0 t1 (by omega) (by omega)) t2 (by omega) (by omega)) (by omega) (by omega)
/-- the axis of a side, its ends there, its place on another axis -/
def zA (g : Vc) (an : Nat → Int32) (k s : Nat) : Nat := sax (poseF g an k) s
def zL (g : Vc) (an : Nat → Int32) (k s : Nat) : Int32 := mn32 (ck g an k (sb0 s) (zA g an k s)) (ck g an k (sb1 s) (zA g an k s))
def zH (g : Vc) (an : Nat → Int32) (k s : Nat) : Int32 := mx32 (ck g an k (sb0 s) (zA g an k s)) (ck g an k (sb1 s) (zA g an k s))
theorem zA_lt {g : Vc} {an : Nat → Int32} (hr : rngD g) {k : Nat} (hk : k < pn g) (s : Nat) : zA g an k s < 3 := sax_lt (pose_ok hr.par k hk) s
theorem mn_t (a b : Int32) : (mn32 a b).toInt = if a.toInt ≤ b.toInt then a.toInt else b.toInt := by
  unfold mn32
  by_cases h : b < a
  · rw [if_pos h]; rw [fa_lt] at h; rw [if_neg (by omega)]
  · rw [if_neg h]; rw [fa_lt] at h; rw [if_pos (by omega)]
theorem mx_t (a b : Int32) : (mx32 a b).toInt = if a.toInt ≤ b.toInt then b.toInt else a.toInt := by
  unfold mx32
  by_cases h : a < b
  · rw [if_pos h]; rw [fa_lt] at h; rw [if_pos (by omega)]
  · rw [if_neg h]; rw [fa_lt] at h
    by_cases h2 : a.toInt ≤ b.toInt
    · rw [if_pos h2]; omega
    · rw [if_neg h2]
theorem ab_t {a : Int32} (h : -2147483648 < a.toInt) : (ab32 a).toInt = if 0 ≤ a.toInt then a.toInt else -a.toInt := by
  unfold ab32
  have e3 : (0 : Int32).toInt = 0 := rfl
  by_cases h2 : 0 ≤ a
  · rw [if_pos h2]; rw [fa_le] at h2; rw [if_pos (by omega)]
  · rw [if_neg h2]; rw [fa_le] at h2; rw [if_neg (by omega), fb_subI (by omega) (by omega)]; omega
theorem ck_off {g : Vc} {an : Nat → Int32} {k s c : Nat} (hs : s < 4) (h : c ≠ zA g an k s) : ck g an k (sb1 s) c = ck g an k (sb0 s) c := by
  unfold zA sax at h
  unfold ck pcor
  have e0 : ∀ d (x : Int32), d / 2 ≠ c → x * pt d c = 0 := fun d x q => by unfold pt; rw [if_neg q]; exact Int32.mul_zero
  rcases side4 hs with z | z | z | z <;> subst z <;> (simp only [sb0, sb1] at h ⊢) <;> simp at h ⊢
  · rw [e0 _ _ (fun q => h q.symm)]
  · rw [e0 (poseF g an k).2.1 _ (fun q => h q.symm)]
  · rw [e0 (poseF g an k).1 _ (fun q => h q.symm)]
  · rw [e0 (poseF g an k).2.1 _ (fun q => h q.symm)]
