/-! counting whole numbers; the class's cover -/
noncomputable def cnP (P : Int → Prop) (x : Int) : Nat → Nat
  | 0 => 0
  | n + 1 => cnP P x n + @ite Nat (P (x + n)) (Classical.propDecidable _) 1 0
theorem cnP_s1 {P : Int → Prop} {x : Int} {n : Nat} (h : P (x + n)) : cnP P x (n + 1) = cnP P x n + 1 := by
  show cnP P x n + _ = _
  rw [if_pos h]
theorem cnP_s0 {P : Int → Prop} {x : Int} {n : Nat} (h : ¬ P (x + n)) : cnP P x (n + 1) = cnP P x n := by
  show cnP P x n + _ = _
  rw [if_neg h]
  omega
theorem cnP_split (P : Int → Prop) (x : Int) (a : Nat) : ∀ b, cnP P x (a + b) = cnP P x a + cnP P (x + a) b := by
  intro b
  induction b with
  | zero => rfl
  | succ b ih =>
    by_cases h : P (x + (a + b : Nat))
    · rw [show a + (b + 1) = (a + b) + 1 from rfl, cnP_s1 h, cnP_s1 (P := P) (x := x + a) (n := b) (by rw [show x + (a : Int) + (b : Int) = x + ((a + b : Nat) : Int) by omega]; exact h), ih]; omega
    · rw [show a + (b + 1) = (a + b) + 1 from rfl, cnP_s0 h, cnP_s0 (P := P) (x := x + a) (n := b) (by rw [show x + (a : Int) + (b : Int) = x + ((a + b : Nat) : Int) by omega]; exact h), ih]
theorem cnP_congr {P Q : Int → Prop} {x : Int} : ∀ {n : Nat}, (∀ c, x ≤ c → c < x + n → (P c ↔ Q c)) → cnP P x n = cnP Q x n := by
  intro n
  induction n with
  | zero => exact fun _ => rfl
  | succ n ih =>
    intro h
    have i := ih (fun c h1 h2 => h c h1 (by omega))
    have e := h (x + n) (by omega) (by omega)
    by_cases q : P (x + n)
    · rw [cnP_s1 q, cnP_s1 (e.mp q), i]
    · rw [cnP_s0 q, cnP_s0 (fun z => q (e.mpr z)), i]
theorem cnP_all {P : Int → Prop} {x : Int} : ∀ {n : Nat}, (∀ c, x ≤ c → c < x + n → P c) → cnP P x n = n := by
  intro n
  induction n with
  | zero => exact fun _ => rfl
  | succ n ih => exact fun h => by rw [cnP_s1 (h (x + n) (by omega) (by omega)), ih (fun c h1 h2 => h c h1 (by omega))]
theorem cnP_none {P : Int → Prop} {x : Int} : ∀ {n : Nat}, (∀ c, x ≤ c → c < x + n → ¬ P c) → cnP P x n = 0 := by
  intro n
  induction n with
  | zero => exact fun _ => rfl
  | succ n ih => exact fun h => by rw [cnP_s0 (h (x + n) (by omega) (by omega)), ih (fun c h1 h2 => h c h1 (by omega))]
theorem cnP_le (P : Int → Prop) (x : Int) : ∀ n, cnP P x n ≤ n := by
  intro n
  induction n with
  | zero => exact Nat.le_refl _
  | succ n ih =>
    by_cases q : P (x + n)
    · rw [cnP_s1 q]; omega
    · rw [cnP_s0 q]; omega
/-- how many whole numbers of [a, b) have P -/
noncomputable def un (P : Int → Prop) (a b : Int) : Nat := cnP P a (b - a).toNat
theorem un_cut (P : Int → Prop) {a c b : Int} (h1 : a ≤ c) (h2 : c ≤ b) : un P a b = un P a c + un P c b := by
  unfold un
  rw [show (b - a).toNat = (c - a).toNat + (b - c).toNat by omega, cnP_split, show a + ((c - a).toNat : Int) = c by omega]
theorem un_congr {P Q : Int → Prop} {a b : Int} (h : ∀ c, a ≤ c → c < b → (P c ↔ Q c)) : un P a b = un Q a b := cnP_congr (fun c h1 h2 => h c h1 (by omega))
theorem un_all {P : Int → Prop} {a b : Int} (h : ∀ c, a ≤ c → c < b → P c) : un P a b = (b - a).toNat := cnP_all (fun c h1 h2 => h c h1 (by omega))
theorem un_none {P : Int → Prop} {a b : Int} (h : ∀ c, a ≤ c → c < b → ¬ P c) : un P a b = 0 := cnP_none (fun c h1 h2 => h c h1 (by omega))
theorem un_le (P : Int → Prop) (a b : Int) : un P a b ≤ (b - a).toNat := cnP_le _ _ _
theorem un_nil (P : Int → Prop) {a b : Int} (h : b ≤ a) : un P a b = 0 := by unfold un; rw [show (b - a).toNat = 0 by omega]; rfl
/-- the extents of a cover from index i on hold c -/
def cv (m : Mm) (a0 i n : Nat) (c : Int) : Prop := ∃ j, i ≤ j ∧ j < n ∧ (m.1 (a0 + 1) j).toInt ≤ c ∧ c < (m.1 (a0 + 2) j).toInt
def cvS (m : Mm) (a0 n : Nat) : Prop := m.1 a0 0 = nI n ∧ (∀ i j, i < j → j < n → (m.1 (a0 + 1) i).toInt ≤ (m.1 (a0 + 1) j).toInt) ∧ ∀ i, i < n → inR (m.1 (a0 + 1) i) (-20000) 20000 ∧ inR (m.1 (a0 + 2) i) (-20000) 20000 ∧ (m.1 (a0 + 1) i).toInt ≤ (m.1 (a0 + 2) i).toInt
theorem cadd_ok {m : Mm} {a0 n : Nat} {lo hi : Int32} {K : Mm → Prop} (hS : cvS m a0 n) (hn : n < 40) (hlo : inR lo (-20000) 20000) (hhi : inR hi (-20000) 20000) (hle : lo.toInt ≤ hi.toInt)
    (kk : ∀ m2, cvS m2 a0 (n + 1) → (∀ c, cv m2 a0 0 (n + 1) c ↔ cv m a0 0 n c ∨ (lo.toInt ≤ c ∧ c < hi.toInt)) → (∀ b, b < a0 ∨ a0 + 3 ≤ b → m2.1 b = m.1 b) → K m2) : wp_X2_add a0 lo hi m K := by
  obtain ⟨s1, s2, s3⟩ := hS
  unfold wp_X2_add
  rw [s1, if_pos (show nI n < (40 : Int32) from ilt (i := 40) hn (by omega))]
  rintro y2 rfl
  have hex : ∀ a (s : Mm), a ≤ n → (∀ j, j < a → s.1 (a0 + 1) j = m.1 (a0 + 1) j ∧ s.1 (a0 + 2) j = m.1 (a0 + 2) j) → (∀ j, a < j → j ≤ n → s.1 (a0 + 1) j = m.1 (a0 + 1) (j - 1) ∧ s.1 (a0 + 2) j = m.1 (a0 + 2) (j - 1)) →
      (∀ b, b ≠ a0 + 1 → b ≠ a0 + 2 → s.1 b = m.1 b) → (∀ j, a ≤ j → j < n → lo.toInt < (m.1 (a0 + 1) j).toInt) → (0 < a → (m.1 (a0 + 1) (a - 1)).toInt ≤ lo.toInt) →
      vp_in (nI a) 40 ∧ ∀ m12 : Mm, m12 = wI s (a0 + 1) ((nI a).toNatClampNeg) lo → (∀ m13 : Mm, m13 = wI m12 (a0 + 2) ((nI a).toNatClampNeg) hi → (∀ m14 : Mm, m14 = wI m13 a0 0 ((m13.1 a0 0) + (1 : Int32)) → (K m14))) := by
    intro a s ha j1 j2 j3 j4 j5
    refine ⟨vp_in_nI (by omega) (by omega), ?_⟩
    rw [clamp_nI (by omega)]
    intro m12 h12 m13 h13 m14 h14
    have e1 : ∀ j, m14.1 (a0 + 1) j = if j = a then lo else s.1 (a0 + 1) j := fun j => by
      rw [h14, wI_ne _ _ _ _ (by omega), h13, wI_ne _ _ _ _ (by omega), h12, wI_get, if_pos rfl]
    have e2 : ∀ j, m14.1 (a0 + 2) j = if j = a then hi else s.1 (a0 + 2) j := fun j => by
      rw [h14, wI_ne _ _ _ _ (by omega), h13, wI_get, if_pos rfl, h12, wI_ne _ _ _ _ (by omega)]
    have eo : ∀ b, b < a0 ∨ a0 + 3 ≤ b → m14.1 b = m.1 b := fun b hb => by
      funext j
      rw [h14, wI_ne _ _ _ _ (by omega), h13, wI_ne _ _ _ _ (by omega), h12, wI_ne _ _ _ _ (by omega), j3 b (by omega) (by omega)]
    have e0 : m14.1 a0 0 = nI (n + 1) := by
      rw [h14, wI_same, h13, wI_ne _ _ _ _ (by omega), h12, wI_ne _ _ _ _ (by omega), j3 a0 (by omega) (by omega), s1]; exact nI_1 n
    have g : ∀ j, j ≤ n → (j < a ∧ m14.1 (a0 + 1) j = m.1 (a0 + 1) j ∧ m14.1 (a0 + 2) j = m.1 (a0 + 2) j) ∨ (j = a ∧ m14.1 (a0 + 1) j = lo ∧ m14.1 (a0 + 2) j = hi) ∨ (a < j ∧ m14.1 (a0 + 1) j = m.1 (a0 + 1) (j - 1) ∧ m14.1 (a0 + 2) j = m.1 (a0 + 2) (j - 1)) := fun j hj => by
      rw [e1, e2]
      by_cases q : j = a
      · rw [if_pos q, if_pos q]; exact Or.inr (Or.inl ⟨q, rfl, rfl⟩)
      · rw [if_neg q, if_neg q]
        by_cases q2 : j < a
        · exact Or.inl ⟨q2, j1 j q2⟩
        · exact Or.inr (Or.inr ⟨by omega, j2 j (by omega) hj⟩)
    refine kk m14 ⟨e0, fun i j hij hj => ?_, fun i hi2 => ?_⟩ (fun c => ?_) eo
    · rcases g i (by omega) with ⟨u, u1, -⟩ | ⟨u, u1, -⟩ | ⟨u, u1, -⟩ <;> rcases g j (by omega) with ⟨v, v1, -⟩ | ⟨v, v1, -⟩ | ⟨v, v1, -⟩ <;> rw [u1, v1]
      · exact s2 i j hij (by omega)
      · have h5 := j5 (by omega)
        by_cases q : i = a - 1
        · rw [q]; exact h5
        · have := s2 i (a - 1) (by omega) (by omega); omega
      · by_cases q : i = j - 1
        · omega
        · exact s2 i (j - 1) (by omega) (by omega)
      · omega
      · omega
      · have := j4 (j - 1) (by omega) (by omega); omega
      · omega
      · omega
      · exact s2 (i - 1) (j - 1) (by omega) (by omega)
    · rcases g i (by omega) with ⟨u, u1, u2⟩ | ⟨u, u1, u2⟩ | ⟨u, u1, u2⟩ <;> rw [u1, u2]
      · exact s3 i (by omega)
      · exact ⟨hlo, hhi, hle⟩
      · exact s3 (i - 1) (by omega)
    · constructor
      · rintro ⟨j, -, hj, c1, c2⟩
        rcases g j (by omega) with ⟨u, u1, u2⟩ | ⟨u, u1, u2⟩ | ⟨u, u1, u2⟩ <;> rw [u1] at c1 <;> rw [u2] at c2
        · exact Or.inl ⟨j, by omega, by omega, c1, c2⟩
        · exact Or.inr ⟨c1, c2⟩
        · exact Or.inl ⟨j - 1, by omega, by omega, c1, c2⟩
      · rintro (⟨j, -, hj, c1, c2⟩ | ⟨c1, c2⟩)
        · by_cases q : j < a
          · rcases g j (by omega) with ⟨u, u1, u2⟩ | ⟨u, u1, u2⟩ | ⟨u, u1, u2⟩
            · exact ⟨j, by omega, by omega, by rw [u1]; exact c1, by rw [u2]; exact c2⟩
            · omega
            · omega
          · rcases g (j + 1) (by omega) with ⟨u, u1, u2⟩ | ⟨u, u1, u2⟩ | ⟨u, u1, u2⟩
            · omega
            · omega
            · exact ⟨j + 1, by omega, by omega, by rw [u1]; exact c1, by rw [u2]; exact c2⟩
        · rcases g a ha with ⟨u, u1, u2⟩ | ⟨u, u1, u2⟩ | ⟨u, u1, u2⟩
          · omega
          · exact ⟨a, by omega, by omega, by rw [u1]; exact c1, by rw [u2]; exact c2⟩
          · omega
  refine loop_i (W := fun k i s => wp_X2_add_l15 _ K a0 lo hi k (nI (n - i)) s) (I := fun i s => (∀ j, j < n - i → s.1 (a0 + 1) j = m.1 (a0 + 1) j ∧ s.1 (a0 + 2) j = m.1 (a0 + 2) j) ∧ (∀ j, n - i < j → j ≤ n → s.1 (a0 + 1) j = m.1 (a0 + 1) (j - 1) ∧ s.1 (a0 + 2) j = m.1 (a0 + 2) (j - 1)) ∧
      (∀ b, b ≠ a0 + 1 → b ≠ a0 + 2 → s.1 b = m.1 b) ∧ ∀ j, n - i ≤ j → j < n → lo.toInt < (m.1 (a0 + 1) j).toInt) n ?_ ?_ FU 0 m (by omega) (FU_gt (by omega)) ⟨fun _ _ => ⟨rfl, rfl⟩, fun j h1 h2 => by omega, fun _ _ _ => rfl, fun j h1 h2 => by omega⟩
  · rintro k s ⟨j1, j2, j3, j4⟩
    show wb_X2_add_l15 _ _ _ _ _ _ _ _
    unfold wb_X2_add_l15
    rw [Nat.sub_self] at j1 j2 j4 ⊢
    rw [if_pos (show nI 0 ≤ (0 : Int32) from ile (i := 0) (by omega) (by omega))]
    exact hex 0 s (by omega) j1 j2 j3 j4 (fun z => by omega)
  · rintro k i s hi2 ⟨j1, j2, j3, j4⟩ k2
    show wb_X2_add_l15 _ _ _ _ _ _ _ _
    unfold wb_X2_add_l15
    rw [if_neg (show ¬ nI (n - i) ≤ (0 : Int32) from inle (i := 0) (by omega) (by omega)), show nI (n - i) - (1 : Int32) = nI (n - i - 1) from nI_sub (b := 1) (by omega), clamp_nI (show n - i - 1 < 2 ^ 31 by omega), (j1 (n - i - 1) (by omega)).1]
    refine ⟨vp_in_nI (by omega) (by omega), ?_⟩
    by_cases q : m.1 (a0 + 1) (n - i - 1) ≤ lo
    · rw [if_pos q]
      exact hex (n - i) s (by omega) j1 j2 j3 j4 (fun _ => by rw [fa_le] at q; exact q)
    · rw [if_neg q]
      rw [fa_le] at q
      refine ⟨vp_in_nI (by omega) (by omega), ?_⟩
      rw [clamp_nI (show n - i < 2 ^ 31 by omega)]
      intro m7 h7 m8 h8
      have e7 : m7.1 (a0 + 2) (n - i - 1) = m.1 (a0 + 2) (n - i - 1) := by rw [h7, wI_ne _ _ _ _ (by omega), (j1 (n - i - 1) (by omega)).2]
      rw [e7] at h8
      have en : nI (n - i) + (-1 : Int32) = nI (n - (i + 1)) := by
        have := nI_sub (a := n - i) (b := 1) (by omega)
        rw [show n - (i + 1) = n - i - 1 by omega, ← this, Int32.sub_eq_add_neg]; rfl
      rw [en]
      have e1 : ∀ j, m8.1 (a0 + 1) j = if j = n - i then m.1 (a0 + 1) (n - i - 1) else s.1 (a0 + 1) j := fun j => by
        rw [h8, wI_ne _ _ _ _ (by omega), h7, wI_get, if_pos rfl]
      have e2 : ∀ j, m8.1 (a0 + 2) j = if j = n - i then m.1 (a0 + 2) (n - i - 1) else s.1 (a0 + 2) j := fun j => by
        rw [h8, wI_get, if_pos rfl, h7, wI_ne _ _ _ _ (by omega)]
      refine k2 m8 ⟨fun j hj => ?_, fun j hj hj2 => ?_, fun b hb1 hb2 => ?_, fun j hj hj2 => ?_⟩
      · rw [e1, e2, if_neg (by omega), if_neg (by omega)]; exact j1 j (by omega)
      · rw [e1, e2]
        by_cases w : j = n - i
        · rw [if_pos w, if_pos w, w]; exact ⟨rfl, rfl⟩
        · rw [if_neg w, if_neg w]; exact j2 j (by omega) hj2
      · funext j
        rw [h8, wI_ne _ _ _ _ hb2, h7, wI_ne _ _ _ _ hb1, j3 b hb1 hb2]
      · by_cases w : j = n - i - 1
        · rw [w]; omega
        · exact j4 j (by omega) hj2
theorem sweep {m : Mm} {a0 i n : Nat} {r hi : Int} (hi2 : i < n) (hs : ∀ j, i < j → j < n → (m.1 (a0 + 1) i).toInt ≤ (m.1 (a0 + 1) j).toInt) (hle : (m.1 (a0 + 1) i).toInt ≤ (m.1 (a0 + 2) i).toInt) (hr : r < hi) :
    (un (fun c => ¬ cv m a0 i n c) r hi : Int) = (if 0 ≤ (if (m.1 (a0 + 1) i).toInt ≤ hi then (m.1 (a0 + 1) i).toInt else hi) - r then (if (m.1 (a0 + 1) i).toInt ≤ hi then (m.1 (a0 + 1) i).toInt else hi) - r else 0) + un (fun c => ¬ cv m a0 (i + 1) n c) (if r ≤ (m.1 (a0 + 2) i).toInt then (m.1 (a0 + 2) i).toInt else r) hi := by
  obtain ⟨lo, hlo⟩ : ∃ x, x = (m.1 (a0 + 1) i).toInt := ⟨_, rfl⟩
  obtain ⟨h2, hh2⟩ : ∃ x, x = (m.1 (a0 + 2) i).toInt := ⟨_, rfl⟩
  rw [← hlo] at hs hle
  rw [← hlo, ← hh2]
  rw [← hh2] at hle
  obtain ⟨A, hA⟩ : ∃ A : Int, A = (if r ≤ (if lo ≤ hi then lo else hi) then (if lo ≤ hi then lo else hi) else r) := ⟨_, rfl⟩
  obtain ⟨M, hM⟩ : ∃ M : Int, M = (if r ≤ h2 then h2 else r) := ⟨_, rfl⟩
  obtain ⟨B, hB⟩ : ∃ B : Int, B = (if M ≤ hi then M else hi) := ⟨_, rfl⟩
  rw [← hM]
  have b1 : r ≤ A := by rw [hA]; split <;> omega
  have b2 : A ≤ B := by rw [hA, hB, hM]; split <;> split <;> split <;> (try split) <;> omega
  have b3 : B ≤ hi := by rw [hB]; split <;> omega
  rw [un_cut _ b1 (Int.le_trans b2 b3), un_cut _ b2 b3]
  have p1 : un (fun c => ¬ cv m a0 i n c) r A = (A - r).toNat := un_all (fun c c1 c2 => by
    rintro ⟨j, q1, q2, q3, q4⟩
    have : c < lo := by rw [hA] at c2; split at c2 <;> (try split at c2) <;> omega
    by_cases w : i = j
    · subst w; omega
    · have := hs j (by omega) q2; omega)
  have p2 : un (fun c => ¬ cv m a0 i n c) A B = 0 := un_none (fun c c1 c2 z => by
    refine z ⟨i, by omega, hi2, ?_, ?_⟩
    · rw [← hlo]
      rw [hA] at c1
      rw [hB, hM] at c2
      split at c1 <;> (try split at c1) <;> split at c2 <;> (try split at c2) <;> omega
    · rw [← hh2]
      rw [hA] at c1
      rw [hB, hM] at c2
      split at c1 <;> (try split at c1) <;> split at c2 <;> (try split at c2) <;> omega)
  have p3 : un (fun c => ¬ cv m a0 i n c) B hi = un (fun c => ¬ cv m a0 (i + 1) n c) M hi := by
    by_cases w : M ≤ hi
    · rw [if_pos w] at hB
      rw [hB]
      refine un_congr (fun c c1 c2 => ?_)
      have hc : h2 ≤ c := by rw [hM] at c1; split at c1 <;> omega
      constructor
      · rintro z ⟨j, q1, q2, q3, q4⟩
        exact z ⟨j, by omega, q2, q3, q4⟩
      · rintro z ⟨j, q1, q2, q3, q4⟩
        by_cases w2 : i = j
        · subst w2; omega
        · exact z ⟨j, by omega, q2, q3, q4⟩
    · rw [if_neg w] at hB
      rw [un_nil _ (by omega), un_nil _ (by omega)]
  rw [p1, p2, p3]
  have : ((A - r).toNat : Int) = (if 0 ≤ (if lo ≤ hi then lo else hi) - r then (if lo ≤ hi then lo else hi) - r else 0) := by
    rw [hA]
    split <;> split <;> (try split) <;> omega
  omega
theorem uncov_ok {m : Mm} {a0 n : Nat} {lo hi : Int32} {K : Int32 → Mm → Prop} (hS : cvS m a0 n) (hn : n ≤ 40) (hlo : inR lo (-20000) 20000) (hhi : inR hi (-20000) 20000) (kk : K (nI (un (fun c => ¬ cv m a0 0 n c) lo.toInt hi.toInt)) m) : wp_X2_uncovered a0 lo hi m K := by
  obtain ⟨s1, s2, s3⟩ := hS
  obtain ⟨l1, l2⟩ := hlo
  obtain ⟨h1, h2⟩ := hhi
  have e0 : (0 : Int32).toInt = 0 := rfl
  have tot := un_le (fun c => ¬ cv m a0 0 n c) lo.toInt hi.toInt
  have fin : ∀ (r o : Int32), lo.toInt ≤ r.toInt → r.toInt ≤ 20000 → 0 ≤ o.toInt → o.toInt + (if 0 ≤ hi.toInt - r.toInt then hi.toInt - r.toInt else 0) = un (fun c => ¬ cv m a0 0 n c) lo.toInt hi.toInt → K (o + mx32 0 (hi - r)) m := by
    intro r o q1 q2 q3 q4
    have e : o + mx32 0 (hi - r) = nI (un (fun c => ¬ cv m a0 0 n c) lo.toInt hi.toInt) := by
      have e1 : (hi - r).toInt = hi.toInt - r.toInt := fb_subI (by omega) (by omega)
      have e2 : (mx32 0 (hi - r)).toInt = (if 0 ≤ hi.toInt - r.toInt then hi.toInt - r.toInt else 0) := by rw [mx_t, e0, e1]
      rw [fa_eq, nI_toInt (by omega), fb_addI (by rw [e2]; split <;> omega) (by rw [e2, q4]; omega), e2, q4]
    rw [e]; exact kk
  unfold wp_X2_uncovered
  refine loop_i (W := fun k i (s : Int32 × Int32) => wp_X2_uncovered_l8 _ K a0 hi k s.1 s.2 (nI i) m) (I := fun i s => lo.toInt ≤ s.1.toInt ∧ s.1.toInt ≤ 20000 ∧ 0 ≤ s.2.toInt ∧ s.2.toInt + un (fun c => ¬ cv m a0 i n c) s.1.toInt hi.toInt = un (fun c => ¬ cv m a0 0 n c) lo.toInt hi.toInt) n ?_ ?_ FU 0 (lo, 0) (by omega) (FU_gt (by omega)) ⟨Int.le_refl _, l2, Int.le_refl _, by show (0 : Int32).toInt + (un (fun c => ¬ cv m a0 0 n c) lo.toInt hi.toInt : Int) = _; rw [e0]; omega⟩
  · rintro k ⟨r, o⟩ ⟨i1, i2, i3, i4⟩
    show wb_X2_uncovered_l8 _ _ _ _ _ _ _ _ _
    unfold wb_X2_uncovered_l8
    rw [s1, if_pos (ile (Nat.le_refl _) (by omega))]
    refine fin r o i1 i2 i3 ?_
    have i4' : o.toInt + un (fun c => ¬ cv m a0 n n c) r.toInt hi.toInt = un (fun c => ¬ cv m a0 0 n c) lo.toInt hi.toInt := i4
    rw [un_all (P := fun c => ¬ cv m a0 n n c) (by rintro c - - ⟨j, q1, q2, -⟩; omega)] at i4'
    split <;> omega
  · rintro k i ⟨r, o⟩ hi2 ⟨i1, i2, i3, i4⟩ k2
    show wb_X2_uncovered_l8 _ _ _ _ _ _ _ _ _
    unfold wb_X2_uncovered_l8
    rw [s1, if_neg (inle hi2 (by omega))]
    have i1' : lo.toInt ≤ r.toInt := i1
    have i2' : r.toInt ≤ 20000 := i2
    have i3' : 0 ≤ o.toInt := i3
    have i4' : o.toInt + un (fun c => ¬ cv m a0 i n c) r.toInt hi.toInt = un (fun c => ¬ cv m a0 0 n c) lo.toInt hi.toInt := i4
    by_cases q : hi ≤ r
    · show (if hi ≤ r then _ else _)
      rw [if_pos q]
      rw [fa_le] at q
      refine fin r o i1 i2 i3 ?_
      rw [un_nil _ q] at i4'
      split <;> omega
    · show (if hi ≤ r then _ else _)
      rw [if_neg q]
      rw [fa_le] at q
      refine ⟨vp_in_nI (by omega) (by omega), ?_⟩
      rw [clamp_nI (by omega)]
      intro y4 h4' y5 h5'
      rw [nI_1]
      have h4 : y4 = o + mx32 0 (mn32 (m.1 (a0 + 1) i) hi - r) := h4'
      have h5 : y5 = mx32 r (m.1 (a0 + 2) i) := h5'
      clear h4' h5'
      obtain ⟨⟨t1, t2⟩, ⟨t3, t4⟩, t5⟩ := s3 i hi2
      have sw := sweep (m := m) (a0 := a0) (i := i) (n := n) (r := r.toInt) (hi := hi.toInt) hi2 (fun j q1 q2 => s2 i j q1 q2) t5 (by omega)
      have u1 : (mn32 (m.1 (a0 + 1) i) hi).toInt = (if (m.1 (a0 + 1) i).toInt ≤ hi.toInt then (m.1 (a0 + 1) i).toInt else hi.toInt) := mn_t _ _
      have u2 : (mn32 (m.1 (a0 + 1) i) hi - r).toInt = (mn32 (m.1 (a0 + 1) i) hi).toInt - r.toInt := fb_subI (by rw [u1]; split <;> omega) (by rw [u1]; split <;> omega)
      have u3 : (mx32 0 (mn32 (m.1 (a0 + 1) i) hi - r)).toInt = (if 0 ≤ (if (m.1 (a0 + 1) i).toInt ≤ hi.toInt then (m.1 (a0 + 1) i).toInt else hi.toInt) - r.toInt then (if (m.1 (a0 + 1) i).toInt ≤ hi.toInt then (m.1 (a0 + 1) i).toInt else hi.toInt) - r.toInt else 0) := by rw [mx_t, e0, u2, u1]
      have u4 : y5.toInt = (if r.toInt ≤ (m.1 (a0 + 2) i).toInt then (m.1 (a0 + 2) i).toInt else r.toInt) := by rw [h5, mx_t]
      rw [← u4, ← u3] at sw
      have u0 : 0 ≤ (mx32 0 (mn32 (m.1 (a0 + 1) i) hi - r)).toInt := by rw [u3]; split <;> omega
      have u5 : y4.toInt = o.toInt + (mx32 0 (mn32 (m.1 (a0 + 1) i) hi - r)).toInt := by rw [h4]; exact fb_addI (by omega) (by omega)
      refine k2 (y5, y4) ⟨?_, ?_, ?_, ?_⟩
      · show lo.toInt ≤ y5.toInt; rw [u4]; split <;> omega
      · show y5.toInt ≤ 20000; rw [u4]; split <;> omega
      · show 0 ≤ y4.toInt; omega
      · show y4.toInt + un (fun c => ¬ cv m a0 (i + 1) n c) y5.toInt hi.toInt = _; omega
