/-! finding -/
theorem cp_range (f : Nat → Int64) (p : Int64 → Bool) : ∀ n, ((List.range n).map f).countP p = fb_ct (fun j => p (f j)) n := by
  intro n
  induction n with
  | zero => rfl
  | succ n ih =>
    rw [List.range_succ, List.map_append, List.countP_append, ih, fb_ct_succ]
    congr 1
    simp [List.countP_cons]
theorem cVL_perm {f h : Nat → Int64} {n : Nat} (e : ∀ v, cVL f n v = cVL h n v) (p : Int64 → Bool) : fb_ct (fun j => p (f j)) n = fb_ct (fun j => p (h j)) n := by
  have hp : ((List.range n).map f).Perm ((List.range n).map h) := by
    rw [List.perm_iff_count]
    intro v
    have a : ∀ q : Nat → Int64, ((List.range n).map q).count v = cVL q n v := fun q => by
      show ((List.range n).map q).countP (· == v) = _
      rw [cp_range]
      unfold cVL
      exact fb_ct_cong (fun k _ => by rw [Bool.eq_iff_iff]; simp)
    rw [a, a, e]
  rw [← cp_range, ← cp_range]
  exact hp.countP_eq p
theorem list_ct {L : List Int64} {f : Nat → Int64} (h : ∀ i x, L[i]? = some x → f i = x) (v : Int64) : cVL f L.length v = L.count v := by
  have : ∀ i, i ≤ L.length → fb_ct (fun j => decide (f j = v)) i = (L.take i).count v := by
    intro i
    induction i with
    | zero => intro _; simp; rfl
    | succ i ih =>
      intro hi
      have ei : L[i]? = some L[i] := List.getElem?_eq_getElem (by omega)
      rw [fb_ct_succ, ih (by omega), List.take_add_one, ei, List.count_append, h i _ ei]
      congr 1
      simp [List.count_cons]
  have := this L.length (Nat.le_refl _)
  rw [List.take_length] at this
  exact this
theorem srt_at {sk : Nat → Int64} {n t : Nat} {V : Int64} (hs : ∀ a b, a < b → b < n → (sk a).toInt ≤ (sk b).toInt) (ht : t < n) (h1 : fb_ct (fun j => decide ((sk j).toInt < V.toInt)) n ≤ t) (h2 : t < fb_ct (fun j => decide ((sk j).toInt ≤ V.toInt)) n) : sk t = V := by
  rw [fa_eq64]
  rcases Int.lt_trichotomy (sk t).toInt V.toInt with z | z | z
  · exfalso
    have a : fb_ct (fun j => decide ((sk j).toInt < V.toInt)) (t + 1) = t + 1 := fb_ct_all.mpr (fun k hk => decide_eq_true (by
      by_cases w : k = t
      · rw [w]; exact z
      · have := hs k t (by omega) ht; omega))
    have b := fb_ct_mono (fun j => decide ((sk j).toInt < V.toInt)) (show t + 1 ≤ n by omega)
    omega
  · exact z
  · exfalso
    have a := fb_ct_split (fun j => decide ((sk j).toInt ≤ V.toInt)) t (n - t)
    rw [show t + (n - t) = n by omega] at a
    have b : fb_ct (fun k => decide ((sk (t + k)).toInt ≤ V.toInt)) (n - t) = 0 := fb_ct_zero.mpr (fun k hk => decide_eq_false (by
      by_cases w : k = 0
      · rw [w, Nat.add_zero]; omega
      · have := hs t (t + k) (by omega) (by omega); omega))
    have c := fb_ct_le (fun j => decide ((sk j).toInt ≤ V.toInt)) t
    omega
/-- the place of a in the order of keys -/
def ahB (kf : Nat → Nat) (a b : Nat) : Bool := decide (kf b < kf a) || (decide (b < a) && !decide (kf a < kf b))
def ahd (kf : Nat → Nat) (n a : Nat) : Nat := fb_ct (ahB kf a) n
theorem ahB_t {kf : Nat → Nat} {a b : Nat} : ahB kf a b = true ↔ kf b < kf a ∨ (b < a ∧ ¬ kf a < kf b) := by
  unfold ahB
  simp
theorem ct_plus {p q : Nat → Bool} {n i : Nat} (hi : i < n) (hp : p i = false) (hq : q i = true) (h : ∀ k, k < n → p k = true → q k = true) : fb_ct p n + 1 ≤ fb_ct q n := by
  have u := fb_ct_upd p true hi
  rw [if_neg (show ¬ p i = true by rw [hp]; decide), if_pos rfl] at u
  have s := fb_ct_sub (p := fun k => if k = i then true else p k) (q := q) (n := n) (fun k hk z => by
    by_cases w : k = i
    · rw [w]; exact hq
    · rw [if_neg w] at z; exact h k hk z)
  omega
theorem ahd_rng {kf : Nat → Nat} {n a : Nat} (ha : a < n) : fb_ct (fun b => decide (kf b < kf a)) n ≤ ahd kf n a ∧ ahd kf n a + 1 ≤ fb_ct (fun b => decide (kf b ≤ kf a)) n := by
  constructor
  · exact fb_ct_sub (fun k _ z => ahB_t.mpr (Or.inl (of_decide_eq_true z)))
  · refine ct_plus ha ?_ (decide_eq_true (Nat.le_refl _)) (fun k _ z => decide_eq_true ?_)
    · cases h : ahB kf a a with
      | false => rfl
      | true => have := ahB_t.mp h; omega
    · have := ahB_t.mp z; omega
theorem ahd_ne {kf : Nat → Nat} {n i j : Nat} (hij : i < j) (hj : j < n) : ahd kf n i ≠ ahd kf n j := by
  by_cases z : kf i ≤ kf j
  · have : ahd kf n i + 1 ≤ ahd kf n j := ct_plus (i := i) (by omega) (by cases h : ahB kf i i with | false => rfl | true => have := ahB_t.mp h; omega) (ahB_t.mpr (by omega)) (fun k _ w => ahB_t.mpr (by have := ahB_t.mp w; omega))
    omega
  · have : ahd kf n j + 1 ≤ ahd kf n i := ct_plus (i := j) hj (by cases h : ahB kf j j with | false => rfl | true => have := ahB_t.mp h; omega) (ahB_t.mpr (by omega)) (fun k _ w => ahB_t.mpr (by have := ahB_t.mp w; omega))
    omega
theorem ahd_ex {kf : Nat → Nat} {n t : Nat} (ht : t < n) : ∃ a, a < n ∧ ahd kf n a = t :=
  fb_onto (fun i hi => by have := (ahd_rng (kf := kf) hi).2; have := fb_ct_le (fun b => decide (kf b ≤ kf i)) n; omega) (fun i j hij hj => ahd_ne hij hj) ht
theorem ahd_lt {kf : Nat → Nat} {n a : Nat} (ha : a < n) : ahd kf n a < n := by
  have := (ahd_rng (kf := kf) ha).2
  have := fb_ct_le (fun b => decide (kf b ≤ kf a)) n
  omega
/-- field w of a finding, as a number -/
def fcN (x : Fnd) (w : Nat) : Nat := if w = 0 then x.1 else if w = 1 then x.2.1 else if w = 2 then x.2.2.1 else x.2.2.2.1
def fcI (x : Fnd) (w : Nat) : Int32 := if w < 2 then nI (fcN x w) else cdI (fcN x w)
theorem cdI_t {c : Nat} (h : c < 1000) : (cdI c).toInt = if c = 0 then -9 else (c : Int) - 1 := by
  unfold cdI
  by_cases z : c = 0
  · rw [if_pos z, if_pos z]; rfl
  · rw [if_neg z, if_neg z, nI_toInt (by omega)]; omega
theorem fcI_o {g : Vc} {x y : Fnd} (hx : fdOk g x) (hy : fdOk g y) {w : Nat} (hw : w < 4) : (fcI x w = fcI y w ↔ fcN x w = fcN y w) ∧ (fcI y w ≤ fcI x w ↔ fcN y w ≤ fcN x w) := by
  obtain ⟨a1, a2, a3, a4, -⟩ := hx
  obtain ⟨b1, b2, b3, b4, -⟩ := hy
  have bx : fcN x w < 1000 := by unfold fcN; split; omega; split; omega; split; omega; omega
  have by' : fcN y w < 1000 := by unfold fcN; split; omega; split; omega; split; omega; omega
  unfold fcI
  by_cases z : w < 2
  · rw [if_pos z, if_pos z]
    exact ⟨nI_eq (by omega) (by omega), lit_le (by omega) (by omega)⟩
  · rw [if_neg z, if_neg z, fa_eq, fa_le, cdI_t bx, cdI_t by']
    constructor
    · split <;> split <;> omega
    · split <;> split <;> omega
theorem key_lt {g : Vc} {x y : Fnd} (hx : fdOk g x) (hy : fdOk g y) : keyN g x < keyN g y ↔ cst g y < cst g x ∨ (cst g x = cst g y ∧ lowN x < lowN y) := by
  have cx := cst_b hx
  have cy := cst_b hy
  have lx := (key_b hx).1
  have ly := (key_b hy).1
  have e1 : keyN g x = 16384 * (1048576 - cst g x) + lowN x := rfl
  have e2 : keyN g y = 16384 * (1048576 - cst g y) + lowN y := rfl
  omega
theorem rahead_ok {g : Vc} {m : Mm} {l : List Fnd} {a b : Nat} {x y : Fnd} {K : Int32 → Mm → Prop} (h : rFn m g l) (hle : l.length ≤ 1600) (ha : l[a]? = some x) (hb : l[b]? = some y) (hx : fdOk g x) (hy : fdOk g y) (kk : ∀ r, flag r (keyN g x < keyN g y) → K r m) : wp_X12_isAhead (nI a) (nI b) m K := by
  obtain ⟨la, -⟩ := List.getElem?_eq_some_iff.mp ha
  obtain ⟨lb, -⟩ := List.getElem?_eq_some_iff.mp hb
  obtain ⟨p0, p1, p2, p3, p4, p5⟩ := h.2 a x ha
  obtain ⟨q0, q1, q2, q3, q4, q5⟩ := h.2 b y hb
  have cx := cst_b hx
  have cy := cst_b hy
  have kl := key_lt hx hy
  have ev : ∀ i c : Nat, i < 1600 → c < 6 → vp_in (nI (6 * i + c)) 9600 := fun i c hi hc => vp_in_nI (by omega) (by omega)
  unfold wp_X12_isAhead
  rw [show (6 : Int32) * nI a = nI (6 * a) from nI_mul 6 a, show (6 : Int32) * nI b = nI (6 * b) from nI_mul 6 b]
  rintro y1 rfl y2 rfl
  rw [show nI (6 * a) + (5 : Int32) = nI (6 * a + 5) from nI_add _ 5, show nI (6 * b) + (5 : Int32) = nI (6 * b + 5) from nI_add _ 5, clamp_nI (by omega), clamp_nI (by omega), p5, q5]
  refine ⟨ev a 5 (by omega) (by omega), ev b 5 (by omega) (by omega), ?_⟩
  rw [if_nI (by omega) (by omega)]
  by_cases z : cst g x = cst g y
  · rw [if_pos z]
    have ga : ∀ w, w < 4 → m.1 447 (6 * a + w) = fcI x w := fun w hw => by
      rcases side4 hw with q | q | q | q <;> subst q
      · exact p0
      · exact p1
      · exact p2
      · exact p3
    have gb : ∀ w, w < 4 → m.1 447 (6 * b + w) = fcI y w := fun w hw => by
      rcases side4 hw with q | q | q | q <;> subst q
      · exact q0
      · exact q1
      · exact q2
      · exact q3
    have lo : ∀ w, w < 4 → (∀ w', w' < w → fcN x w' = fcN y w') → ¬ fcN x w = fcN y w → (lowN x < lowN y ↔ fcN x w < fcN y w) := fun w hw he hn => by
      obtain ⟨a1, a2, a3, a4, -⟩ := hx
      obtain ⟨b1, b2, b3, b4, -⟩ := hy
      have e1 : lowN x = 2048 * x.1 + 128 * x.2.1 + 16 * x.2.2.1 + x.2.2.2.1 := rfl
      have e2 : lowN y = 2048 * y.1 + 128 * y.2.1 + 16 * y.2.2.1 + y.2.2.2.1 := rfl
      rcases side4 hw with q | q | q | q <;> subst q
      · have n0 : ¬ x.1 = y.1 := hn
        show _ ↔ x.1 < y.1
        omega
      · have n0 : ¬ x.2.1 = y.2.1 := hn
        have h0 : x.1 = y.1 := he 0 (by omega)
        show _ ↔ x.2.1 < y.2.1
        omega
      · have n0 : ¬ x.2.2.1 = y.2.2.1 := hn
        have h0 : x.1 = y.1 := he 0 (by omega)
        have h1 : x.2.1 = y.2.1 := he 1 (by omega)
        show _ ↔ x.2.2.1 < y.2.2.1
        omega
      · have n0 : ¬ x.2.2.2.1 = y.2.2.2.1 := hn
        have h0 : x.1 = y.1 := he 0 (by omega)
        have h1 : x.2.1 = y.2.1 := he 1 (by omega)
        have h2 : x.2.2.1 = y.2.2.1 := he 2 (by omega)
        show _ ↔ x.2.2.2.1 < y.2.2.2.1
        omega
    refine loop_i (W := fun n w (_ : Unit) => wp_X12_isAhead_l60 _ K (nI (6 * a)) (nI (6 * b)) n (nI w) m) (I := fun w _ => ∀ w', w' < w → fcN x w' = fcN y w') 4 ?_ ?_ FU 0 () (by omega) (FU_gt (by omega)) (fun w' h' => by omega)
    · rintro n - i1
      show wb_X12_isAhead_l60 _ _ _ _ _ _ _
      unfold wb_X12_isAhead_l60
      rw [if_pos (show (4 : Int32) ≤ nI 4 from ile (a := 4) (by omega) (by omega))]
      refine kk 0 (Or.inr ⟨rfl, fun q => ?_⟩)
      have h0 : x.1 = y.1 := i1 0 (by omega)
      have h1 : x.2.1 = y.2.1 := i1 1 (by omega)
      have h2 : x.2.2.1 = y.2.2.1 := i1 2 (by omega)
      have h3 : x.2.2.2.1 = y.2.2.2.1 := i1 3 (by omega)
      have e1 : lowN x = 2048 * x.1 + 128 * x.2.1 + 16 * x.2.2.1 + x.2.2.2.1 := rfl
      have e2 : lowN y = 2048 * y.1 + 128 * y.2.1 + 16 * y.2.2.1 + y.2.2.2.1 := rfl
      have := kl.mp q
      omega
    · rintro n w - hw i1 k2
      show wb_X12_isAhead_l60 _ _ _ _ _ _ _
      unfold wb_X12_isAhead_l60
      obtain ⟨o1, o2⟩ := fcI_o hx hy hw
      rw [if_neg (show ¬ (4 : Int32) ≤ nI w from inle (a := 4) hw (by omega)), nI_add, nI_add, clamp_nI (by omega), clamp_nI (by omega), ga w hw, gb w hw, nI_1]
      refine ⟨ev a w (by omega) (by omega), ev b w (by omega) (by omega), ?_⟩
      by_cases z1 : fcI x w = fcI y w
      · rw [if_pos z1]
        refine k2 () (fun w' h' => ?_)
        by_cases z2 : w' = w
        · rw [z2]; exact o1.mp z1
        · exact i1 w' (by omega)
      · rw [if_neg z1]
        have hn : ¬ fcN x w = fcN y w := fun q => z1 (o1.mpr q)
        have lw := lo w hw i1 hn
        show _ ∧ _
        rw [nI_add, nI_add, clamp_nI (by omega), clamp_nI (by omega), ga w hw, gb w hw]
        refine ⟨ev a w (by omega) (by omega), ev b w (by omega) (by omega), ?_⟩
        rintro y15 rfl
        refine kk _ ?_
        by_cases z2 : fcI y w ≤ fcI x w
        · rw [if_pos z2]
          have := o2.mp z2
          exact Or.inr ⟨rfl, fun q => by have := kl.mp q; omega⟩
        · rw [if_neg z2]
          have : ¬ fcN y w ≤ fcN x w := fun q => z2 (o2.mpr q)
          exact Or.inl ⟨rfl, kl.mpr (by omega)⟩
  · rw [if_neg z]
    rintro y18 rfl
    refine kk _ ?_
    by_cases z2 : cst g x ≤ cst g y
    · rw [if_pos (ile z2 (by omega))]; exact Or.inr ⟨rfl, fun q => by have := kl.mp q; omega⟩
    · rw [if_neg (inle (by omega) (by omega))]; exact Or.inl ⟨rfl, kl.mpr (by omega)⟩
def kfR (g : Vc) (l : List Fnd) (a : Nat) : Nat := match l[a]? with | none => 0 | some x => keyN g x
theorem kfR_e {g : Vc} {l : List Fnd} {a : Nat} {x : Fnd} (h : l[a]? = some x) : kfR g l a = keyN g x := by unfold kfR; rw [h]
theorem rplaced_ok {g : Vc} {m : Mm} {t : Nat} {K : Int32 → Mm → Prop} (hD : Dd g) (hl : Ll g) (hs : stR m g) (ht : t < 2 ^ 31) (k0 : (RLs g).length ≤ t → ∀ m2, frH m m2 → K (-9) m2) (k1 : ∀ a, a < (RLs g).length → ahd (kfR g (RLs g)) (RLs g).length a = t → ∀ m2, rFn m2 g (RLs g) → (RLs g).length ≤ 1600 → frH m m2 → K (nI a) m2) : wp_X12_placed (nI t) m K := by
  unfold wp_X12_placed
  refine rall_ok hD hl hs (fun m2 c hle fr => ?_)
  have ok : ∀ i x, (RLs g)[i]? = some x → fdOk g x := fun i x hx => CL_ok hD hl x ((CL_perm hl).symm.mem_iff.mp (List.mem_of_getElem? hx))
  refine loop_i (W := fun n i (_ : Unit) => wp_X12_placed_l6 K (nI t) n (nI i) m2) (I := fun i _ => ∀ a, a < i → ¬ ahd (kfR g (RLs g)) (RLs g).length a = t) (RLs g).length ?_ ?_ FU 0 () (by omega) (FU_gt (by omega)) (fun a h => by omega)
  · rintro n - i1
    show wb_X12_placed_l6 _ _ _ _ _
    unfold wb_X12_placed_l6
    rw [c.1, if_pos (ile (Nat.le_refl _) (by omega))]
    refine k0 (Decidable.byContradiction fun q => ?_) m2 fr
    obtain ⟨a, h1, h2⟩ := ahd_ex (kf := kfR g (RLs g)) (show t < (RLs g).length by omega)
    exact i1 a h1 h2
  · rintro n a - ha i1 k2
    show wb_X12_placed_l6 _ _ _ _ _
    unfold wb_X12_placed_l6
    rw [c.1, if_neg (inle ha (by omega))]
    obtain ⟨x, ex⟩ : ∃ x, (RLs g)[a]? = some x := ⟨_, List.getElem?_eq_getElem ha⟩
    refine loop_i (W := fun n2 b (y : Int32) => wp_X12_placed_l19 _ K (nI t) (nI a) n2 y (nI b) m2) (I := fun b y => y = nI (fb_ct (ahB (kfR g (RLs g)) a) b)) (RLs g).length ?_ ?_ FU 0 0 (by omega) (FU_gt (by omega)) rfl
    · rintro n2 y rfl
      show wb_X12_placed_l19 _ _ _ _ _ _ _ _
      unfold wb_X12_placed_l19
      rw [c.1, if_pos (ile (Nat.le_refl _) (by omega))]
      have al := ahd_lt (kf := kfR g (RLs g)) ha
      have ea : fb_ct (ahB (kfR g (RLs g)) a) (RLs g).length = ahd (kfR g (RLs g)) (RLs g).length a := rfl
      rw [ea]
      show (if _ then _ else _)
      rw [if_nI (by omega) (by omega), nI_1]
      by_cases z : ahd (kfR g (RLs g)) (RLs g).length a = t
      · rw [if_pos z]; exact k1 a ha z m2 c hle fr
      · rw [if_neg z]
        refine k2 () (fun a' h' => ?_)
        by_cases w : a' = a
        · rw [w]; exact z
        · exact i1 a' (by omega)
    · rintro n2 b y hb rfl k3
      show wb_X12_placed_l19 _ _ _ _ _ _ _ _
      unfold wb_X12_placed_l19
      obtain ⟨y, ey⟩ : ∃ y, (RLs g)[b]? = some y := ⟨_, List.getElem?_eq_getElem hb⟩
      rw [c.1, if_neg (inle hb (by omega))]
      refine rahead_ok c hle ey ex (ok b y ey) (ok a x ex) (fun r hr => ?_)
      have e1 : (keyN g y < keyN g x) ↔ kfR g (RLs g) b < kfR g (RLs g) a := by rw [kfR_e ex, kfR_e ey]
      have e2 : (keyN g x < keyN g y) ↔ kfR g (RLs g) a < kfR g (RLs g) b := by rw [kfR_e ex, kfR_e ey]
      have yes : ahB (kfR g (RLs g)) a b = true → nI (fb_ct (ahB (kfR g (RLs g)) a) b) + 1 = nI (fb_ct (ahB (kfR g (RLs g)) a) (b + 1)) := fun q => by rw [fb_ct_succ, if_pos q, nI_1]
      have no : ¬ ahB (kfR g (RLs g)) a b = true → nI (fb_ct (ahB (kfR g (RLs g)) a) b) + 0 = nI (fb_ct (ahB (kfR g (RLs g)) a) (b + 1)) := fun q => by rw [fb_ct_succ, if_neg q, Int32.add_zero, Nat.add_zero]
      show (if _ then _ else _)
      rcases hr with ⟨u1, u2⟩ | ⟨u1, u2⟩
      · rw [if_neg (by rw [u1]; decide)]
        unfold wp_X12_placed_j55 wp_X12_placed_j60
        rintro y7 rfl
        rw [nI_1 b]
        exact k3 _ (yes (ahB_t.mpr (Or.inl (e1.mp u2))))
      · rw [if_pos u1]
        by_cases z : a ≤ b
        · rw [if_pos (ile z (by omega))]
          unfold wp_X12_placed_j59 wp_X12_placed_j60
          rintro y7 rfl
          rw [nI_1 b]
          exact k3 _ (no (fun q => by rcases ahB_t.mp q with q | q; exact u2 (e1.mpr q); omega))
        · rw [if_neg (inle (by omega) (by omega))]
          refine rahead_ok c hle ex ey (ok a x ex) (ok b y ey) (fun r2 hr2 => ?_)
          rintro y12 h12 y13 rfl
          rw [nI_1 b]
          refine k3 _ ?_
          rcases hr2 with ⟨v1, v2⟩ | ⟨v1, v2⟩
          · rw [if_neg (by rw [v1]; decide)] at h12
            rw [h12]
            exact no (fun q => by rcases ahB_t.mp q with q | q; exact u2 (e1.mpr q); exact q.2 (e2.mp v2))
          · rw [if_pos v1] at h12
            rw [h12]
            exact yes (ahB_t.mpr (Or.inr ⟨by omega, fun q => v2 (e2.mpr q)⟩))
def fVal (g : Vc) (x : Fnd) (n : Nat) : Int32 := if n = 0 then nI x.1 else if n = 1 then nI x.2.1 else if n = 2 then cdI x.2.2.1 else if n = 3 then cdI x.2.2.2.1 else if n = 4 then nI x.2.2.2.2 else nI (cst g x)
theorem op_finding {m : Mm} {S : AS} {x y : Int32} {P : Int32 → Int32 → Mm → Prop} (h : Sim m S) (kk : ∀ r m2 S2, Sim m2 S2 → P r r m2) : wp_X11_finding x y m (fun r m1 => wp_X12_finding x y m1 (fun r2 m2 => P r r2 m2)) := by
  have hI := h.2.2
  have hC := h.2.1
  have hD := hI.1
  have hl := hI.2.1
  have a0 : (0 : Int32).toInt = 0 := rfl
  have a5 : (5 : Int32).toInt = 5 := rfl
  have hpl := (CL_perm hl).length_eq
  by_cases c1 : (0 ≤ x.toInt ∧ x.toInt < (CL (sg S)).length) ∧ (0 ≤ y.toInt ∧ y.toInt ≤ 5)
  · obtain ⟨cx, cy⟩ := c1
    obtain ⟨t, et, et2, -⟩ := asN cx.1
    obtain ⟨n, en, en2, -⟩ := asN cy.1
    have ht : t < (RLs (sg S)).length := by omega
    obtain ⟨a, ha, hat⟩ := ahd_ex (kf := kfR (sg S) (RLs (sg S))) ht
    obtain ⟨z, ez⟩ : ∃ z, (RLs (sg S))[a]? = some z := ⟨_, List.getElem?_eq_getElem ha⟩
    have zok : fdOk (sg S) z := CL_ok hD hl z ((CL_perm hl).symm.mem_iff.mp (List.mem_of_getElem? ez))
    have h6 : n = 0 ∨ n = 1 ∨ n = 2 ∨ n = 3 ∨ n = 4 ∨ n = 5 := by omega
    refine combine (c := wp_X11_finding x y m) (d := wp_X12_finding x y) (r := fVal (sg S) z n) (S2 := S) h (fun K k1 => ?_) (fun m1 K hR k1 => ?_) hI kk
    · unfold wp_X11_finding
      refine collect_ok hD hl (by omega) hC.1 hC.2.1 (fun m2 c hle f => ?_)
      have C2 := ClsR_Z hI hC f
      show (if _ then _ else _)
      rw [if_neg (by rw [fa_lt]; omega), c.1, if_neg (by rw [fa_le, nI_toInt (by omega)]; omega), if_neg (by rw [fa_lt]; omega), if_pos (by rw [fa_le]; omega)]
      refine sort_ok (n := (CL (sg S)).length) hle c.1 (fun m3 e3 cv st => ?_)
      have hk : m3.2 395 t = lN (keyN (sg S) z) := by
        have cv2 : ∀ v, cVL (m3.2 395) (CL (sg S)).length v = cVL (fun b => lN (kfR (sg S) (RLs (sg S)) b)) (CL (sg S)).length v := fun v => by
          rw [cv v]
          have l1 := list_ct (L := (CL (sg S)).map (fun x => lN (keyN (sg S) x))) (f := m2.2 395) (fun i w hw => by
            rw [List.getElem?_map] at hw
            cases hh : (CL (sg S))[i]? with
            | none => rw [hh] at hw; cases hw
            | some u => rw [hh] at hw; cases hw; exact c.2.2 i u hh) v
          have l2 := list_ct (L := (RLs (sg S)).map (fun x => lN (keyN (sg S) x))) (f := fun b => lN (kfR (sg S) (RLs (sg S)) b)) (fun i w hw => by
            rw [List.getElem?_map] at hw
            cases hh : (RLs (sg S))[i]? with
            | none => rw [hh] at hw; cases hw
            | some u => rw [hh] at hw; cases hw; show lN (kfR _ _ i) = _; rw [kfR_e hh]) v
          rw [List.length_map] at l1 l2
          rw [l1, hpl, l2]
          exact ((CL_perm hl).map _).count_eq v
        have kb : ∀ b, b < (RLs (sg S)).length → kfR (sg S) (RLs (sg S)) b < 2 ^ 40 := fun b hb => by
          obtain ⟨u, eu⟩ : ∃ u, (RLs (sg S))[b]? = some u := ⟨_, List.getElem?_eq_getElem hb⟩
          rw [kfR_e eu]
          exact (key_b (CL_ok hD hl u ((CL_perm hl).symm.mem_iff.mp (List.mem_of_getElem? eu)))).2
        have zk := kfR_e (g := sg S) ez
        have tI : ∀ b, b < (RLs (sg S)).length → (lN (kfR (sg S) (RLs (sg S)) b)).toInt = kfR (sg S) (RLs (sg S)) b := fun b hb => lg_ofNat_toInt (by have := kb b hb; omega)
        rw [← zk]
        obtain ⟨r1, r2⟩ := ahd_rng (kf := kfR (sg S) (RLs (sg S))) ha
        rw [hat] at r1 r2
        refine srt_at (n := (CL (sg S)).length) st (by omega) ?_ ?_
        · rw [cVL_perm cv2 (fun w => decide (w.toInt < (lN (kfR (sg S) (RLs (sg S)) a)).toInt)), hpl, fb_ct_cong (q := fun b => decide (kfR (sg S) (RLs (sg S)) b < kfR (sg S) (RLs (sg S)) a)) (fun b hb => by
            show decide ((lN (kfR (sg S) (RLs (sg S)) b)).toInt < _) = _
            rw [tI b hb, tI a ha, Bool.eq_iff_iff, decide_eq_true_iff, decide_eq_true_iff]; omega)]
          exact r1
        · rw [cVL_perm cv2 (fun w => decide (w.toInt ≤ (lN (kfR (sg S) (RLs (sg S)) a)).toInt)), hpl, fb_ct_cong (q := fun b => decide (kfR (sg S) (RLs (sg S)) b ≤ kfR (sg S) (RLs (sg S)) a)) (fun b hb => by
            show decide ((lN (kfR (sg S) (RLs (sg S)) b)).toInt ≤ _) = _
            rw [tI b hb, tI a ha, Bool.eq_iff_iff, decide_eq_true_iff, decide_eq_true_iff]; omega)]
          omega
      have e : v_X4_value x y m3 = fVal (sg S) z n := by
        obtain ⟨d1, d2, d3, d4, d5⟩ := dec_k zok
        have cb := cst_b zok
        obtain ⟨z1, z2, z3, z4, z5, z6, z7, z8⟩ := zok
        have ew : v_X4_weight (nI z.1) m3 = nI (wg (sg S) z.1) := by
          unfold v_X4_weight
          rw [if_neg (nI_pos (by omega)), if_neg (show ¬ (8 : Int32) ≤ nI z.1 from inle (a := 8) z1 (by omega)), clamp_nI (by omega), e3, C2.2.1.2 z.1 z1, (wg_e hl z1).1]
        have ediv : nI (cst (sg S) z) / nI (wg (sg S) z.1) = nI z.2.2.2.2 := by
          rw [pk_div (by omega) z7 (by omega)]
          congr 1
          exact Nat.mul_div_cancel_left _ z7
        unfold v_X4_value
        rw [if_neg (by rw [fa_lt]; omega), e3, c.1, if_neg (by rw [fa_le, nI_toInt (by omega)]; omega), et, if_pos (show nI t < (1000 : Int32) from ilt (i := 1000) (by omega) (by omega)), clamp_nI (by omega), hk, d1, d2, d3, d4, d5, ew, if_neg (show ¬ nI (wg (sg S) z.1) ≤ (0 : Int32) from inle (i := 0) z7 (by omega)), ediv, en]
        unfold fVal
        have nn : ∀ a b : Nat, a < 8 → b < 8 → a ≠ b → ¬ nI a = (nI b : Int32) := dn7
        rcases h6 with q | q | q | q | q | q <;> subst q
        · rw [if_pos (show nI 0 = (0 : Int32) from rfl), if_pos rfl]
        · rw [if_neg (show ¬ nI 1 = (0 : Int32) from nn 1 0 (by omega) (by omega) (by omega)), if_pos (show nI 1 = (1 : Int32) from rfl), if_neg (by omega), if_pos rfl]
        · rw [if_neg (show ¬ nI 2 = (0 : Int32) from nn 2 0 (by omega) (by omega) (by omega)), if_neg (show ¬ nI 2 = (1 : Int32) from nn 2 1 (by omega) (by omega) (by omega)), if_pos (show nI 2 = (2 : Int32) from rfl), if_neg (by omega), if_neg (by omega), if_pos rfl]
        · rw [if_neg (show ¬ nI 3 = (0 : Int32) from nn 3 0 (by omega) (by omega) (by omega)), if_neg (show ¬ nI 3 = (1 : Int32) from nn 3 1 (by omega) (by omega) (by omega)), if_neg (show ¬ nI 3 = (2 : Int32) from nn 3 2 (by omega) (by omega) (by omega)), if_pos (show nI 3 = (3 : Int32) from rfl), if_neg (by omega), if_neg (by omega), if_neg (by omega), if_pos rfl]
        · rw [if_neg (show ¬ nI 4 = (0 : Int32) from nn 4 0 (by omega) (by omega) (by omega)), if_neg (show ¬ nI 4 = (1 : Int32) from nn 4 1 (by omega) (by omega) (by omega)), if_neg (show ¬ nI 4 = (2 : Int32) from nn 4 2 (by omega) (by omega) (by omega)), if_neg (show ¬ nI 4 = (3 : Int32) from nn 4 3 (by omega) (by omega) (by omega)), if_pos (show nI 4 = (4 : Int32) from rfl), if_neg (by omega), if_neg (by omega), if_neg (by omega), if_neg (by omega), if_pos rfl]
        · rw [if_neg (show ¬ nI 5 = (0 : Int32) from nn 5 0 (by omega) (by omega) (by omega)), if_neg (show ¬ nI 5 = (1 : Int32) from nn 5 1 (by omega) (by omega) (by omega)), if_neg (show ¬ nI 5 = (2 : Int32) from nn 5 2 (by omega) (by omega) (by omega)), if_neg (show ¬ nI 5 = (3 : Int32) from nn 5 3 (by omega) (by omega) (by omega)), if_neg (show ¬ nI 5 = (4 : Int32) from nn 5 4 (by omega) (by omega) (by omega)), if_neg (by omega), if_neg (by omega), if_neg (by omega), if_neg (by omega), if_neg (by omega)]
      rw [e]
      exact k1 _ (ClsR_congr hI C2 (fun b _ => by rw [e3])) (fun b hb => by rw [e3, up_Z f b hb])
    · unfold wp_X12_finding
      rw [if_neg (by rw [fa_lt]; omega), if_neg (in_ne (by omega) (by omega)), et]
      refine rplaced_ok hD hl hR.st (by have := fb_rng x; omega) (fun q => by omega) (fun a' ha' hat' m2 c hle f => ?_)
      have ea : a' = a := by
        rcases Nat.lt_trichotomy a' a with w | w | w
        · exact absurd (hat'.trans hat.symm) (ahd_ne w ha)
        · exact w
        · exact absurd (hat.trans hat'.symm) (ahd_ne w ha')
      subst ea
      obtain ⟨r0, r1, r2, r3, r4, r5⟩ := c.2 a' z ez
      have e9 : (-9 : Int32).toInt = -9 := rfl
      have n9 : ¬ nI a' = (-9 : Int32) := fun q => by have := congrArg Int32.toInt q; rw [nI_toInt (by omega)] at this; omega
      show wp_X12_finding_j23 _ _ _ _
      unfold wp_X12_finding_j23
      rw [en, show (6 : Int32) * nI a' = nI (6 * a') from nI_mul 6 a', nI_add, clamp_nI (by omega)]
      refine ⟨fun _ => vp_in_nI (by omega) (by omega), ?_⟩
      rw [if_neg n9]
      rintro y5 rfl
      have ev : m2.1 447 (6 * a' + n) = fVal (sg S) z n := by
        unfold fVal
        rcases h6 with q | q | q | q | q | q <;> subst q
        · rw [if_pos rfl]; exact r0
        · rw [if_neg (by omega), if_pos rfl]; exact r1
        · rw [if_neg (by omega), if_neg (by omega), if_pos rfl]; exact r2
        · rw [if_neg (by omega), if_neg (by omega), if_neg (by omega), if_pos rfl]; exact r3
        · rw [if_neg (by omega), if_neg (by omega), if_neg (by omega), if_neg (by omega), if_pos rfl]; exact r4
        · rw [if_neg (by omega), if_neg (by omega), if_neg (by omega), if_neg (by omega), if_neg (by omega)]; exact r5
      rw [ev]
      exact k1 _ (RefR_H hR f) (low_H f)
  · refine combine (c := wp_X11_finding x y m) (d := wp_X12_finding x y) (r := -1) (S2 := S) h (fun K k1 => ?_) (fun m1 K hR k1 => ?_) hI kk
    · unfold wp_X11_finding
      refine collect_ok hD hl (by omega) hC.1 hC.2.1 (fun m2 c hle f => ?_)
      have k2 := k1 _ (ClsR_Z hI hC f) (up_Z f)
      show (if _ then _ else _)
      rw [c.1]
      by_cases q1 : x < 0
      · rw [if_pos q1]; exact k2
      rw [if_neg q1]
      by_cases q2 : nI (CL (sg S)).length ≤ x
      · rw [if_pos q2]; exact k2
      rw [if_neg q2]
      by_cases q3 : y < 0
      · rw [if_pos q3]; exact k2
      rw [if_neg q3]
      rw [fa_lt] at q1 q3
      rw [fa_le, nI_toInt (by omega)] at q2
      rw [if_neg (by rw [fa_le]; omega)]
      exact k2
    · have k2 := k1 _ hR (fun _ _ => rfl)
      unfold wp_X12_finding
      have kj : wp_X12_finding_j13 K y m1 := by
        unfold wp_X12_finding_j13 wp_X12_finding_j23
        refine ⟨fun q => absurd rfl q, ?_⟩
        rintro y5 rfl
        rw [if_pos rfl]
        exact k2
      by_cases q1 : x < 0
      · rw [if_pos q1]; exact kj
      rw [if_neg q1]
      by_cases q2 : 0 ≤ y.toInt ∧ y.toInt ≤ 5
      · rw [if_neg (in_ne (by omega) (by omega))]
        rw [fa_lt] at q1
        obtain ⟨t, et, et2, -⟩ := asN (x := x) (by omega)
        have hb := fb_rng x
        rw [et]
        have hlen : (RLs (sg S)).length ≤ t := by omega
        refine rplaced_ok hD hl hR.st (by omega) (fun _ m2 f => ?_) (fun a' ha' hat' => by have := ahd_lt (kf := kfR (sg S) (RLs (sg S))) ha'; omega)
        show wp_X12_finding_j23 _ _ _ _
        unfold wp_X12_finding_j23
        refine ⟨fun q => absurd rfl q, ?_⟩
        rintro y5 rfl
        rw [if_pos rfl]
        exact k1 _ (RefR_H hR f) (low_H f)
      · rw [if_pos (in_0 (by omega))]; exact kj
