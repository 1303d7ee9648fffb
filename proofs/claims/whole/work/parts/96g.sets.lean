/-! foldStep: sets of folds as numbers -/
def sb (t s : Nat) : Prop := ∀ q, t.testBit q = true → s.testBit q = true
theorem fa_xor (a b : Nat) : nI a ^^^ nI b = nI (a ^^^ b) := by
  apply Int32.toBitVec_inj.1
  show BitVec.ofNat 32 a ^^^ BitVec.ofNat 32 b = BitVec.ofNat 32 (a ^^^ b)
  apply BitVec.eq_of_getLsbD_eq
  intro i hi
  simp [hi]
theorem fa_not (a : Nat) : nI a ^^^ (-1 : Int32) = nI (a ^^^ (2 ^ 32 - 1)) := by
  rw [show (-1 : Int32) = nI (2 ^ 32 - 1) from by decide]; exact fa_xor _ _
theorem tb_or (s p q : Nat) : (s ||| 2 ^ p).testBit q = (s.testBit q || decide (p = q)) := by
  rw [Nat.testBit_or, Nat.testBit_two_pow]
theorem tb_not (a b q : Nat) : (a &&& (b ^^^ (2 ^ 32 - 1))).testBit q = (a.testBit q && (b.testBit q ^^ decide (q < 32))) := by
  rw [Nat.testBit_and, Nat.testBit_xor, Nat.testBit_two_pow_sub_one]
theorem tb_lt {s : Nat} (hs : s < 1024) {q : Nat} (h : s.testBit q = true) : q < 10 := by
  refine Decidable.byContradiction fun z => ?_
  have h1 : s < 2 ^ q := Nat.lt_of_lt_of_le (show s < 2 ^ 10 from hs) (Nat.pow_le_pow_right (by omega) (by omega))
  rw [Nat.testBit_lt_two_pow h1] at h
  cases h
theorem lt_of_tb {s : Nat} (h : ∀ q, s.testBit q = true → q < 10) : s < 1024 := by
  refine Nat.lt_pow_two_of_testBit (n := 10) s (fun i hi => ?_)
  cases z : s.testBit i with
  | false => rfl
  | true => have := h i z; omega
theorem or_lt {s p : Nat} (hs : s < 1024) (hp : p < 10) : s ||| 2 ^ p < 1024 := Nat.or_lt_two_pow (n := 10) hs (Nat.pow_lt_pow_right (by omega) hp)
theorem or_sb {s A p : Nat} (h : sb s A) (hp : A.testBit p = true) : sb (s ||| 2 ^ p) A := fun q hq => by
  rw [tb_or] at hq
  by_cases z : p = q
  · subst z; exact hp
  · rw [decide_eq_false z, Bool.or_false] at hq; exact h q hq
theorem sb_or (s p : Nat) : sb s (s ||| 2 ^ p) := fun q hq => by rw [tb_or, hq]; rfl
theorem sb_trans {a b c : Nat} (h : sb a b) (h2 : sb b c) : sb a c := fun q hq => h2 q (h q hq)
theorem sb_or_of {s t p : Nat} (h : sb (s ||| 2 ^ p) t) : sb s t := sb_trans (sb_or s p) h
theorem sb_le {s A : Nat} (h : sb s A) : s ≤ A := by
  have e : s &&& A = s := by
    apply Nat.eq_of_testBit_eq
    intro i
    rw [Nat.testBit_and]
    cases z : s.testBit i with
    | false => rfl
    | true => rw [h i z]; rfl
  rw [← e]; exact Nat.and_le_right
theorem or_ne {s p : Nat} (h : s.testBit p = false) : s ||| 2 ^ p ≠ s := fun z => by
  have := tb_or s p p
  rw [z, h, decide_eq_true rfl] at this
  cases this
theorem or_eq {s p : Nat} (h : s.testBit p = true) : s ||| 2 ^ p = s := by
  apply Nat.eq_of_testBit_eq
  intro i
  rw [tb_or]
  by_cases z : p = i
  · subst z; rw [h]; rfl
  · rw [decide_eq_false z, Bool.or_false]
theorem lt_or {s p : Nat} (h : s.testBit p = false) : s < s ||| 2 ^ p := by
  have h1 := sb_le (sb_or s p)
  have h2 := or_ne h
  omega
theorem not_sb_or {s t p : Nat} (h : s.testBit p = false) (ht : sb t s) : t ≠ s ||| 2 ^ p := fun z => by
  subst z
  have := ht p (by rw [tb_or, decide_eq_true rfl, Bool.or_true])
  rw [h] at this; cases this
/-- left: in A and not in s -/
theorem left_k {A s p : Nat} (hp : p < 10) : (nI A &&& (nI s ^^^ (-1 : Int32))) &&& ((1 : Int32) <<< (nI p &&& 31)) = 0 ↔ ¬ (A.testBit p = true ∧ s.testBit p = false) := by
  rw [fa_not, fa_and, shl_k (by omega), fa_bit (by omega), tb_not, decide_eq_true (show p < 32 by omega)]
  cases A.testBit p <;> cases s.testBit p <;> simp
theorem pop_k {M p : Nat} (hM : M < 1024) (hp : p < 10) (h : M.testBit p = false) : nI (M ||| 2 ^ p) &&& (((1 : Int32) <<< (nI p &&& 31)) ^^^ (-1 : Int32)) = nI M := by
  rw [shl_k (by omega), fa_not, fa_and]
  congr 1
  apply Nat.eq_of_testBit_eq
  intro i
  rw [tb_not, tb_or, Nat.testBit_two_pow]
  by_cases z : p = i
  · subst z; rw [h, decide_eq_true rfl, decide_eq_true (show p < 32 by omega)]; rfl
  · rw [decide_eq_false z, Bool.or_false]
    cases w : M.testBit i with
    | false => rfl
    | true => have := tb_lt hM w; rw [decide_eq_true (show i < 32 by omega)]; rfl
theorem sub_k {A s : Nat} (hs : s < 1024) : nI s &&& (nI A ^^^ (-1 : Int32)) = 0 ↔ sb s A := by
  have hle : s &&& (A ^^^ (2 ^ 32 - 1)) ≤ s := Nat.and_le_left
  rw [fa_not, fa_and, show (nI (s &&& (A ^^^ (2 ^ 32 - 1))) = 0) ↔ s &&& (A ^^^ (2 ^ 32 - 1)) = 0 from nI_eq (b := 0) (by omega) (by omega)]
  constructor
  · intro h q hq
    have h1 := tb_not s A q
    rw [h, hq, decide_eq_true (show q < 32 by have := tb_lt hs hq; omega), Nat.zero_testBit] at h1
    revert h1
    cases A.testBit q <;> simp
  · intro h
    apply Nat.eq_of_testBit_eq
    intro i
    rw [tb_not, Nat.zero_testBit]
    cases w : s.testBit i with
    | false => rfl
    | true => rw [h i w, decide_eq_true (show i < 32 by have := tb_lt hs w; omega)]; rfl
theorem bit_k {A p : Nat} (hA : A < 1024) (hp : p < 10) : (nI A >>> (nI p &&& 31)) &&& (1 : Int32) = 1 ↔ A.testBit p = true := by
  have h2 : A / 2 ^ p % 2 < 2 := Nat.mod_lt _ (by omega)
  rw [shr_k (by omega) (by omega), and_1, show (nI (A / 2 ^ p % 2) = 1) ↔ A / 2 ^ p % 2 = 1 from nI_eq (b := 1) (by omega) (by omega), Nat.testBit_eq_decide_div_mod_eq]
  exact ⟨decide_eq_true, of_decide_eq_true⟩
theorem push_k {s p : Nat} (hp : p < 10) : nI s ||| ((1 : Int32) <<< (nI p &&& 31)) = nI (s ||| 2 ^ p) := by rw [shl_k (by omega), fa_or]
/-- leads on to the full set, each step without crossings -/
def Ln (G : Nat → Prop) (A : Nat) : Nat → Nat → Prop
  | 0, s => s = A
  | n + 1, s => s = A ∨ ∃ p, A.testBit p = true ∧ s.testBit p = false ∧ G (s ||| 2 ^ p) ∧ Ln G A n (s ||| 2 ^ p)
def Ld (G : Nat → Prop) (A s : Nat) : Prop := ∃ n, Ln G A n s
def okN (G : Nat → Prop) (A s p : Nat) : Prop := A.testBit p = true ∧ s.testBit p = false ∧ G (s ||| 2 ^ p) ∧ Ld G A (s ||| 2 ^ p)
def isNx (G : Nat → Prop) (A s p : Nat) : Prop := okN G A s p ∧ ∀ q, q < p → ¬ okN G A s q
theorem Ld_iff {G : Nat → Prop} {A s : Nat} : Ld G A s ↔ s = A ∨ ∃ p, okN G A s p := by
  constructor
  · rintro ⟨n, h⟩
    cases n with
    | zero => exact Or.inl h
    | succ n =>
      rcases h with h | ⟨p, h1, h2, h3, h4⟩
      · exact Or.inl h
      · exact Or.inr ⟨p, h1, h2, h3, n, h4⟩
  · rintro (h | ⟨p, h1, h2, h3, n, h4⟩)
    · exact ⟨0, h⟩
    · exact ⟨n + 1, Or.inr ⟨p, h1, h2, h3, h4⟩⟩
theorem Ld_sb {G : Nat → Prop} {A s : Nat} (h : Ld G A s) : sb s A := by
  obtain ⟨n, h⟩ := h
  induction n generalizing s with
  | zero => have h' : s = A := h; subst h'; exact fun q hq => hq
  | succ n ih =>
    rcases h with h | ⟨p, h1, h2, h3, h4⟩
    · subst h; exact fun q hq => hq
    · exact sb_or_of (ih h4)
theorem isNx_u {G : Nat → Prop} {A s p q : Nat} (h : isNx G A s p) (h2 : isNx G A s q) : p = q := by
  have a : ¬ p < q := fun z => h2.2 p z h.1
  have b : ¬ q < p := fun z => h.2 q z h2.1
  omega
theorem ex_least {P : Nat → Prop} : ∀ n, P n → ∃ p, P p ∧ ∀ q, q < p → ¬ P q := by
  intro n
  induction n using Nat.strongRecOn with
  | _ n ih =>
    intro h
    by_cases z : ∃ q, q < n ∧ P q
    · obtain ⟨q, h1, h2⟩ := z; exact ih q h1 h2
    · exact ⟨n, h, fun q h1 h2 => z ⟨q, h1, h2⟩⟩
/-- the next fold of the order -/
noncomputable def nx (G : Nat → Prop) (A s : Nat) : Nat := by
  classical exact if h : ∃ p, isNx G A s p then Classical.choose h else 0
theorem nx_u {G : Nat → Prop} {A s p : Nat} (h : isNx G A s p) : nx G A s = p := by
  have e : ∃ p, isNx G A s p := ⟨p, h⟩
  unfold nx
  rw [dif_pos e]
  exact isNx_u (Classical.choose_spec e) h
theorem nx_ok {G : Nat → Prop} {A s : Nat} (h : Ld G A s) (hn : s ≠ A) : isNx G A s (nx G A s) := by
  rcases Ld_iff.mp h with z | ⟨p, z⟩
  · exact absurd z hn
  · obtain ⟨q, hq⟩ := ex_least (P := okN G A s) p z
    rw [nx_u hq]; exact hq
noncomputable def pth (G : Nat → Prop) (A : Nat) : Nat → Nat
  | 0 => 0
  | i + 1 => pth G A i ||| 2 ^ nx G A (pth G A i)
/-- the number of members -/
def bc (s : Nat) : Nat → Nat
  | 0 => 0
  | n + 1 => bc s n + (if s.testBit n = true then 1 else 0)
theorem bc_le (s n : Nat) : bc s n ≤ n := by
  induction n with
  | zero => exact Nat.le_refl _
  | succ n ih => show bc s n + (if s.testBit n = true then 1 else 0) ≤ n + 1; split <;> omega
theorem bc_or {s p : Nat} (h : s.testBit p = false) (n : Nat) : bc (s ||| 2 ^ p) n = bc s n + (if p < n then 1 else 0) := by
  induction n with
  | zero => rfl
  | succ n ih =>
    show bc (s ||| 2 ^ p) n + (if (s ||| 2 ^ p).testBit n = true then 1 else 0) = bc s n + (if s.testBit n = true then 1 else 0) + (if p < n + 1 then 1 else 0)
    rw [ih, tb_or]
    by_cases z : p = n
    · subst z
      rw [h, decide_eq_true rfl, if_neg (by omega), if_pos (show p < p + 1 by omega)]; rfl
    · rw [decide_eq_false z, Bool.or_false]
      by_cases w : p < n
      · rw [if_pos w, if_pos (show p < n + 1 by omega)]; omega
      · rw [if_neg w, if_neg (show ¬ p < n + 1 by omega)]; omega
theorem bc_0 (n : Nat) : bc 0 n = 0 := by
  induction n with
  | zero => rfl
  | succ n ih => show bc 0 n + (if (0 : Nat).testBit n = true then 1 else 0) = 0; rw [ih, Nat.zero_testBit]; rfl
/-- along the order -/
theorem pth_ok {G : Nat → Prop} {A : Nat} (hA : A < 1024) (h : Ld G A 0) : ∀ i, i ≤ bc A 10 → Ld G A (pth G A i) ∧ bc (pth G A i) 10 = i ∧ (i < bc A 10 → isNx G A (pth G A i) (nx G A (pth G A i))) := by
  intro i
  induction i with
  | zero =>
    intro _
    refine ⟨h, bc_0 10, fun hi => nx_ok h ?_⟩
    intro z
    have z' : 0 = A := z
    rw [← z', bc_0] at hi; omega
  | succ i ih =>
    intro hi
    obtain ⟨a, b, c⟩ := ih (by omega)
    have hx := c (by omega)
    have hL : Ld G A (pth G A (i + 1)) := hx.1.2.2.2
    have hb : bc (pth G A (i + 1)) 10 = i + 1 := by
      show bc (pth G A i ||| 2 ^ nx G A (pth G A i)) 10 = i + 1
      rw [bc_or hx.1.2.1, b, if_pos (tb_lt hA hx.1.1)]
    refine ⟨hL, hb, fun h2 => nx_ok hL ?_⟩
    intro z
    rw [z] at hb; omega
