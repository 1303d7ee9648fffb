/-! load: what a text says -/
abbrev dgt (x : Int32) : Prop := 48 ≤ x.toInt ∧ x.toInt ≤ 57
abbrev isN (x : Int32) : Prop := dgt x ∨ x = 45
def nof (x : Int32) : Nat := if x = 115 then 2 else if x = 102 then 2 else if x = 105 then 3 else if x = 98 then 4 else if x = 97 then 5 else if x = 112 then 6 else 0
def dr (tx : Nat → Int32) : Nat → Nat → Nat
  | 0, p => p
  | n + 1, p => if dgt (tx p) then dr tx n (p + 1) else p
theorem dr_ok {tx : Nat → Int32} {L : Nat} (hx : ∀ i, L ≤ i → ¬ dgt (tx i)) : ∀ n p, L < n + p → p ≤ dr tx n p ∧ (∀ i, p ≤ i → i < dr tx n p → dgt (tx i)) ∧ ¬ dgt (tx (dr tx n p)) ∧ (p ≤ L → dr tx n p ≤ L) := by
  intro n
  induction n with
  | zero =>
    intro p h
    have e : dr tx 0 p = p := rfl
    rw [e]
    exact ⟨Nat.le_refl _, fun i a b => by omega, hx p (by omega), fun h => h⟩
  | succ n ih =>
    intro p h
    by_cases c : dgt (tx p)
    · have e : dr tx (n + 1) p = dr tx n (p + 1) := if_pos c
      have hp : p < L := Decidable.byContradiction fun z => hx p (by omega) c
      obtain ⟨a1, a2, a3, a4⟩ := ih (p + 1) (by omega)
      rw [e]
      refine ⟨by omega, fun i b1 b2 => ?_, a3, fun _ => a4 (by omega)⟩
      by_cases z : i = p
      · rw [z]; exact c
      · exact a2 i (by omega) b2
    · have e : dr tx (n + 1) p = p := if_neg c
      rw [e]
      exact ⟨Nat.le_refl _, fun i a b => by omega, c, fun h => h⟩
/-- where a number's digits begin, and where they end; its value -/
def nF (tx : Nat → Int32) (p : Nat) : Nat := if tx p = 45 then p + 1 else p
def nE (tx : Nat → Int32) (p : Nat) : Nat := dr tx 200 (nF tx p)
def vF (tx : Nat → Int32) (f n : Nat) : Int32 := ifo (fun k v => 10 * v + tx k - 48) 0 f n
def nV (tx : Nat → Int32) (p : Nat) : Int32 := if tx p = 45 then -(vF tx (nF tx p) (nE tx p - nF tx p)) else vF tx (nF tx p) (nE tx p - nF tx p)
abbrev nOK (tx : Nat → Int32) (p : Nat) : Prop := 1 ≤ nE tx p - nF tx p ∧ nE tx p - nF tx p ≤ 3
abbrev aN (x : Int32) : Int32 := if x = 3 then -1 else x
noncomputable def co (c : Int32) (nu : Nat → Int32) (g : Vc) : Option Vc := by
  classical exact if c = 98 then (if rBase (nu 0) (nu 1) (nu 2) (nu 3) ∧ gok (gBase g (nu 0) (nu 1) (nu 2) (nu 3)) then some (gBase g (nu 0) (nu 1) (nu 2) (nu 3)) else none)
    else if c = 102 then (if (0 ≤ (nu 1).toInt ∧ (nu 1).toInt < pn g) ∧ rFlap (pn g) (nu 0) (nu 1) then some (gF g (nu 0).toNatClampNeg 6 (nu 1)) else none)
    else if c = 105 then (if rImg (nu 0) (nu 1) (nu 2) then some (gImg g (nu 0).toNatClampNeg (nu 1) (nu 2)) else none)
    else if c = 112 then (if (0 ≤ (nu 5).toInt ∧ (nu 5).toInt ≤ 3) ∧ rPan (pn g) (nu 0) (nu 1) (nu 2) (nu 3) (nu 4) (aN (nu 5)) ∧ pn g < 10 ∧ gok (gPan g (pn g) (nu 0) (nu 1) (nu 2) (nu 3) (nu 4) (aN (nu 5))) then some (gPan g (pn g) (nu 0) (nu 1) (nu 2) (nu 3) (nu 4) (aN (nu 5))) else none)
    else if c = 115 then (if rSheet (nu 0) (nu 1) ∧ gok (gSheet g (nu 0) (nu 1)) then some (gSheet g (nu 0) (nu 1)) else none)
    else (if rPrn (pn g) (nu 0) (nu 1) (nu 2) (nu 3) (nu 4) ∧ ¬ g (3 + 2 * (nu 1).toNatClampNeg) = 0 then some (gPrn g (nu 0).toNatClampNeg (nu 1) (nu 2) (nu 3) (nu 4)) else none)
abbrev PRs : Type := Int32 × Nat × Nat × Vc
noncomputable def ps (tx : Nat → Int32) (L : Nat) : Nat → Nat → Int32 → Nat → (Nat → Int32) → Vc → Nat → PRs
  | 0, p, _, _, _, g, it => (0, p, it, g)
  | n + 1, p, c, k, nu, g, it =>
    if L ≤ p then (if c = 0 then (0, p, it, g) else (2, p, it, g))
    else if tx p = 32 then ps tx L n (p + 1) c k nu g it
    else if isN (tx p) then (if nOK tx p then (if c = 0 ∨ nof c ≤ k then (2, p, it, g) else ps tx L n (nE tx p) c (k + 1) (fun j => if j = k then nV tx p else nu j) g it) else (1, p, it, g))
    else if tx p = 59 then (if c = 0 ∨ k < nof c then (2, p, it, g) else (match co c nu g with | none => (3, p, it, g) | some g2 => ps tx L n (p + 1) 0 0 nu g2 (it + 1)))
    else if nof (tx p) = 0 then (1, p, it, g)
    else if c = 0 then ps tx L n (p + 1) (tx p) 0 (fun _ => 0) g it else (2, p, it, g)
/-- what is left to read ends so -/
def PS (tx : Nat → Int32) (L : Nat) (R : PRs) (p : Nat) (c : Int32) (k : Nat) (nu : Nat → Int32) (g : Vc) (it : Nat) : Prop := ∃ n, L < n + p ∧ p ≤ L ∧ R = ps tx L n p c k nu g it
theorem PS_1 {tx : Nat → Int32} {L : Nat} {R : PRs} {p : Nat} {c : Int32} {k : Nat} {nu : Nat → Int32} {g : Vc} {it : Nat} (h : PS tx L R p c k nu g it) : ∃ n, L < n + 1 + p ∧ R = (if L ≤ p then (if c = 0 then (0, p, it, g) else (2, p, it, g))
    else if tx p = 32 then ps tx L n (p + 1) c k nu g it
    else if isN (tx p) then (if nOK tx p then (if c = 0 ∨ nof c ≤ k then (2, p, it, g) else ps tx L n (nE tx p) c (k + 1) (fun j => if j = k then nV tx p else nu j) g it) else (1, p, it, g))
    else if tx p = 59 then (if c = 0 ∨ k < nof c then (2, p, it, g) else (match co c nu g with | none => (3, p, it, g) | some g2 => ps tx L n (p + 1) 0 0 nu g2 (it + 1)))
    else if nof (tx p) = 0 then (1, p, it, g)
    else if c = 0 then ps tx L n (p + 1) (tx p) 0 (fun _ => 0) g it else (2, p, it, g)) := by
  obtain ⟨n, h1, h2, h3⟩ := h
  obtain ⟨n', rfl⟩ : ∃ n', n = n' + 1 := ⟨n - 1, by omega⟩
  exact ⟨n', h1, h3⟩
theorem PS_end {tx : Nat → Int32} {L : Nat} {R : PRs} {c : Int32} {k : Nat} {nu : Nat → Int32} {g : Vc} {it : Nat} (h : PS tx L R L c k nu g it) : R = if c = 0 then (0, L, it, g) else (2, L, it, g) := by
  obtain ⟨n, h1, h2⟩ := PS_1 h
  rw [if_pos (Nat.le_refl _)] at h2; exact h2
theorem PS_sp {tx : Nat → Int32} {L : Nat} {R : PRs} {p : Nat} {c : Int32} {k : Nat} {nu : Nat → Int32} {g : Vc} {it : Nat} (h : PS tx L R p c k nu g it) (hp : p < L) (e : tx p = 32) : PS tx L R (p + 1) c k nu g it := by
  obtain ⟨n, h1, h2⟩ := PS_1 h
  rw [if_neg (by omega), if_pos e] at h2
  exact ⟨n, by omega, by omega, h2⟩
theorem n32 {x : Int32} (h : isN x) : ¬ x = 32 := fun e => by
  subst e
  have a1 : (32 : Int32).toInt = 32 := rfl
  rcases h with h | h
  · omega
  · exact absurd h (by decide)
theorem n59 {x : Int32} (h : isN x) : ¬ x = 59 := fun e => by
  subst e
  have a1 : (59 : Int32).toInt = 59 := rfl
  rcases h with h | h
  · omega
  · exact absurd h (by decide)
theorem PS_bad {tx : Nat → Int32} {L : Nat} {R : PRs} {p : Nat} {c : Int32} {k : Nat} {nu : Nat → Int32} {g : Vc} {it : Nat} (h : PS tx L R p c k nu g it) (hp : p < L) (e : isN (tx p)) (hn : ¬ nOK tx p) : R = (1, p, it, g) := by
  obtain ⟨n, h1, h2⟩ := PS_1 h
  rw [if_neg (by omega), if_neg (n32 e), if_pos e, if_neg hn] at h2; exact h2
theorem PS_many {tx : Nat → Int32} {L : Nat} {R : PRs} {p : Nat} {c : Int32} {k : Nat} {nu : Nat → Int32} {g : Vc} {it : Nat} (h : PS tx L R p c k nu g it) (hp : p < L) (e : isN (tx p)) (hn : nOK tx p) (hc : c = 0 ∨ nof c ≤ k) : R = (2, p, it, g) := by
  obtain ⟨n, h1, h2⟩ := PS_1 h
  rw [if_neg (by omega), if_neg (n32 e), if_pos e, if_pos hn, if_pos hc] at h2; exact h2
theorem nE_ok {tx : Nat → Int32} {L p : Nat} (hL : L ≤ 160) (hx : ∀ i, L ≤ i → tx i = -9) (hp : p < L) : nF tx p ≤ nE tx p ∧ (∀ i, nF tx p ≤ i → i < nE tx p → dgt (tx i)) ∧ ¬ dgt (tx (nE tx p)) ∧ nE tx p ≤ L ∧ p ≤ nF tx p ∧ nF tx p ≤ L := by
  have hF : p ≤ nF tx p ∧ nF tx p ≤ p + 1 := by unfold nF; split <;> omega
  obtain ⟨a1, a2, a3, a4⟩ := dr_ok (tx := tx) (L := L) (fun i hi => by rw [hx i hi]; decide) 200 (nF tx p) (by omega)
  exact ⟨a1, a2, a3, a4 (by omega), hF.1, by omega⟩
theorem PS_num {tx : Nat → Int32} {L : Nat} {R : PRs} {p : Nat} {c : Int32} {k : Nat} {nu : Nat → Int32} {g : Vc} {it : Nat} (hL : L ≤ 160) (hx : ∀ i, L ≤ i → tx i = -9) (h : PS tx L R p c k nu g it) (hp : p < L) (e : isN (tx p)) (hn : nOK tx p) (hc : ¬ (c = 0 ∨ nof c ≤ k)) : PS tx L R (nE tx p) c (k + 1) (fun j => if j = k then nV tx p else nu j) g it := by
  obtain ⟨n, h1, h2⟩ := PS_1 h
  obtain ⟨a1, a2, a3, a4, a5, a6⟩ := nE_ok hL hx hp
  rw [if_neg (by omega), if_neg (n32 e), if_pos e, if_pos hn, if_neg hc] at h2
  exact ⟨n, by omega, a4, h2⟩
theorem PS_few {tx : Nat → Int32} {L : Nat} {R : PRs} {p : Nat} {c : Int32} {k : Nat} {nu : Nat → Int32} {g : Vc} {it : Nat} (h : PS tx L R p c k nu g it) (hp : p < L) (e : tx p = 59) (hc : c = 0 ∨ k < nof c) : R = (2, p, it, g) := by
  obtain ⟨n, h1, h2⟩ := PS_1 h
  rw [if_neg (by omega), if_neg (show ¬ tx p = 32 by rw [e]; decide), if_neg (show ¬ isN (tx p) by rw [e]; decide), if_pos e, if_pos hc] at h2; exact h2
theorem PS_no {tx : Nat → Int32} {L : Nat} {R : PRs} {p : Nat} {c : Int32} {k : Nat} {nu : Nat → Int32} {g : Vc} {it : Nat} (h : PS tx L R p c k nu g it) (hp : p < L) (e : tx p = 59) (hc : ¬ (c = 0 ∨ k < nof c)) (ho : co c nu g = none) : R = (3, p, it, g) := by
  obtain ⟨n, h1, h2⟩ := PS_1 h
  rw [if_neg (by omega), if_neg (show ¬ tx p = 32 by rw [e]; decide), if_neg (show ¬ isN (tx p) by rw [e]; decide), if_pos e, if_neg hc, ho] at h2; exact h2
theorem PS_do {tx : Nat → Int32} {L : Nat} {R : PRs} {p : Nat} {c : Int32} {k : Nat} {nu : Nat → Int32} {g g2 : Vc} {it : Nat} (h : PS tx L R p c k nu g it) (hp : p < L) (e : tx p = 59) (hc : ¬ (c = 0 ∨ k < nof c)) (ho : co c nu g = some g2) : PS tx L R (p + 1) 0 0 nu g2 (it + 1) := by
  obtain ⟨n, h1, h2⟩ := PS_1 h
  rw [if_neg (by omega), if_neg (show ¬ tx p = 32 by rw [e]; decide), if_neg (show ¬ isN (tx p) by rw [e]; decide), if_pos e, if_neg hc, ho] at h2
  exact ⟨n, by omega, by omega, h2⟩
theorem PS_odd {tx : Nat → Int32} {L : Nat} {R : PRs} {p : Nat} {c : Int32} {k : Nat} {nu : Nat → Int32} {g : Vc} {it : Nat} (h : PS tx L R p c k nu g it) (hp : p < L) (e1 : ¬ tx p = 32) (e2 : ¬ isN (tx p)) (e3 : ¬ tx p = 59) (e4 : nof (tx p) = 0) : R = (1, p, it, g) := by
  obtain ⟨n, h1, h2⟩ := PS_1 h
  rw [if_neg (by omega), if_neg e1, if_neg e2, if_neg e3, if_pos e4] at h2; exact h2
theorem nof_x {x : Int32} (h : ¬ nof x = 0) : ¬ x = 32 ∧ ¬ isN x ∧ ¬ x = 59 := by
  refine ⟨fun e => ?_, fun e => ?_, fun e => ?_⟩
  · subst e; exact h (by decide)
  · rcases e with e | e
    · apply h
      unfold nof
      have q : ∀ y : Int32, 57 < y.toInt → ¬ x = y := fun y hy z => by subst z; omega
      rw [if_neg (q 115 (by decide)), if_neg (q 102 (by decide)), if_neg (q 105 (by decide)), if_neg (q 98 (by decide)), if_neg (q 97 (by decide)), if_neg (q 112 (by decide))]
    · subst e; exact h (by decide)
  · subst e; exact h (by decide)
theorem PS_two {tx : Nat → Int32} {L : Nat} {R : PRs} {p : Nat} {c : Int32} {k : Nat} {nu : Nat → Int32} {g : Vc} {it : Nat} (h : PS tx L R p c k nu g it) (hp : p < L) (e4 : ¬ nof (tx p) = 0) (hc : ¬ c = 0) : R = (2, p, it, g) := by
  obtain ⟨n, h1, h2⟩ := PS_1 h
  obtain ⟨e1, e2, e3⟩ := nof_x e4
  rw [if_neg (by omega), if_neg e1, if_neg e2, if_neg e3, if_neg e4, if_neg hc] at h2; exact h2
theorem PS_let {tx : Nat → Int32} {L : Nat} {R : PRs} {p : Nat} {c : Int32} {k : Nat} {nu : Nat → Int32} {g : Vc} {it : Nat} (h : PS tx L R p c k nu g it) (hp : p < L) (e4 : ¬ nof (tx p) = 0) (hc : c = 0) : PS tx L R (p + 1) (tx p) 0 (fun _ => 0) g it := by
  obtain ⟨n, h1, h2⟩ := PS_1 h
  obtain ⟨e1, e2, e3⟩ := nof_x e4
  rw [if_neg (by omega), if_neg e1, if_neg e2, if_neg e3, if_neg e4, if_pos hc] at h2
  exact ⟨n, by omega, by omega, h2⟩
