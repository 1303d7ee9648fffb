/-! reading a row through the reference; loops that only sum -/
def stR (m : Mm) (g : Vc) : Prop := ∀ k, k < 137 → m.1 427 k = g k
theorem s_of {k : Nat} {y : Int32} {j : Nat} (hy : y = nI j) (hk : k < 10) (hj : j < 11) : s_X12_of (nI k) y := by
  subst hy
  unfold s_X12_of
  rw [show (11 : Int32) = nI 11 from rfl, nI_mul, nI_add, nI_add]
  exact vp_in_nI (by omega) (by omega)
theorem v_of {m : Mm} {g : Vc} (h : stR m g) {k : Nat} {y : Int32} {j : Nat} (hy : y = nI j) (hk : k < 10) (hj : j < 11) : v_X12_of (nI k) y m = pf g k j := by
  subst hy
  unfold v_X12_of
  rw [show (11 : Int32) = nI 11 from rfl, nI_mul, nI_add, nI_add, clamp_nI (by omega)]
  exact h _ (by omega)
theorem put_ok {k : Nat} {y : Int32} {j : Nat} {x : Int32} {m : Mm} {K : Mm → Prop} (hy : y = nI j) (hk : k < 10) (hj : j < 11) (h : K (wI m 427 (11 + 11 * k + j) x)) : wp_X12_put (nI k) y x m K := by
  subst hy
  unfold wp_X12_put
  rw [show (11 : Int32) = nI 11 from rfl, nI_mul, nI_add, nI_add, clamp_nI (by omega)]
  refine ⟨vp_in_nI (by omega) (by omega), ?_⟩
  rintro m2 rfl
  exact h
theorem of0 {m : Mm} {g : Vc} (h : stR m g) {k : Nat} (hk : k < 10) : v_X12_of (nI k) (0 : Int32) m = pf g k 0 := v_of h (j := 0) rfl hk (by omega)
theorem sof0 {k : Nat} (hk : k < 10) : s_X12_of (nI k) (0 : Int32) := s_of (j := 0) rfl hk (by omega)
theorem of1 {m : Mm} {g : Vc} (h : stR m g) {k : Nat} (hk : k < 10) : v_X12_of (nI k) (1 : Int32) m = pf g k 1 := v_of h (j := 1) rfl hk (by omega)
theorem sof1 {k : Nat} (hk : k < 10) : s_X12_of (nI k) (1 : Int32) := s_of (j := 1) rfl hk (by omega)
theorem of2 {m : Mm} {g : Vc} (h : stR m g) {k : Nat} (hk : k < 10) : v_X12_of (nI k) (2 : Int32) m = pf g k 2 := v_of h (j := 2) rfl hk (by omega)
theorem sof2 {k : Nat} (hk : k < 10) : s_X12_of (nI k) (2 : Int32) := s_of (j := 2) rfl hk (by omega)
theorem of3 {m : Mm} {g : Vc} (h : stR m g) {k : Nat} (hk : k < 10) : v_X12_of (nI k) (3 : Int32) m = pf g k 3 := v_of h (j := 3) rfl hk (by omega)
theorem sof3 {k : Nat} (hk : k < 10) : s_X12_of (nI k) (3 : Int32) := s_of (j := 3) rfl hk (by omega)
theorem of4 {m : Mm} {g : Vc} (h : stR m g) {k : Nat} (hk : k < 10) : v_X12_of (nI k) (4 : Int32) m = pf g k 4 := v_of h (j := 4) rfl hk (by omega)
theorem sof4 {k : Nat} (hk : k < 10) : s_X12_of (nI k) (4 : Int32) := s_of (j := 4) rfl hk (by omega)
theorem of5 {m : Mm} {g : Vc} (h : stR m g) {k : Nat} (hk : k < 10) : v_X12_of (nI k) (5 : Int32) m = pf g k 5 := v_of h (j := 5) rfl hk (by omega)
theorem sof5 {k : Nat} (hk : k < 10) : s_X12_of (nI k) (5 : Int32) := s_of (j := 5) rfl hk (by omega)
theorem of6 {m : Mm} {g : Vc} (h : stR m g) {k : Nat} (hk : k < 10) : v_X12_of (nI k) (6 : Int32) m = pf g k 6 := v_of h (j := 6) rfl hk (by omega)
theorem sof6 {k : Nat} (hk : k < 10) : s_X12_of (nI k) (6 : Int32) := s_of (j := 6) rfl hk (by omega)
theorem of7 {m : Mm} {g : Vc} (h : stR m g) {k : Nat} (hk : k < 10) : v_X12_of (nI k) (7 : Int32) m = pf g k 7 := v_of h (j := 7) rfl hk (by omega)
theorem sof7 {k : Nat} (hk : k < 10) : s_X12_of (nI k) (7 : Int32) := s_of (j := 7) rfl hk (by omega)
theorem of8 {m : Mm} {g : Vc} (h : stR m g) {k : Nat} (hk : k < 10) : v_X12_of (nI k) (8 : Int32) m = pf g k 8 := v_of h (j := 8) rfl hk (by omega)
theorem sof8 {k : Nat} (hk : k < 10) : s_X12_of (nI k) (8 : Int32) := s_of (j := 8) rfl hk (by omega)
theorem of9 {m : Mm} {g : Vc} (h : stR m g) {k : Nat} (hk : k < 10) : v_X12_of (nI k) (9 : Int32) m = pf g k 9 := v_of h (j := 9) rfl hk (by omega)
theorem sof9 {k : Nat} (hk : k < 10) : s_X12_of (nI k) (9 : Int32) := s_of (j := 9) rfl hk (by omega)
theorem of10 {m : Mm} {g : Vc} (h : stR m g) {k : Nat} (hk : k < 10) : v_X12_of (nI k) (10 : Int32) m = pf g k 10 := v_of h (j := 10) rfl hk (by omega)
theorem sof10 {k : Nat} (hk : k < 10) : s_X12_of (nI k) (10 : Int32) := s_of (j := 10) rfl hk (by omega)
theorem RefR.st {m : Mm} {S : AS} (h : RefR m S) : stR m (sg S) := h.1
theorem many_ok {m : Mm} {g : Vc} (h : stR m g) (hD : g 2 = nI (pn g)) : v_X12_many m = nI (pn g) := by unfold v_X12_many; rw [h 2 (by omega)]; exact hD
/-- a loop that changes no memory: its state is s, from index a up to N -/
def ifo {σ : Type} (step : Nat → σ → σ) (s0 : σ) (a : Nat) : Nat → σ
  | 0 => s0
  | n + 1 => step (a + n) (ifo step s0 a n)
theorem acc_loop {σ : Type} {wp : Nat → Int32 → σ → Prop} (step : Nat → σ → σ) {s0 : σ} {a N : Nat} (ha : a < 90000) (hN : N < 90000) (hx : ∀ n i, N ≤ i → i < 90000 → wp (n + 1) (nI i) (ifo step s0 a (N - a)))
    (hs : ∀ n i s, a ≤ i → i < N → wp n (nI i + 1) (step i s) → wp (n + 1) (nI i) s) : wp FU (nI a) s0 := by
  by_cases h : N ≤ a
  · have := hx 99999 a h ha
    rw [show N - a = 0 by omega] at this
    exact this
  · refine loop_i (W := fun n i s => wp n (nI (a + i)) s) (I := fun i s => s = ifo step s0 a i) (N - a) ?_ ?_ FU 0 s0 (by omega) (FU_gt (by omega)) rfl
    · intro n s e
      have := hx n (a + (N - a)) (by omega) (by omega)
      rw [← e] at this
      exact this
    · intro n i s hi e kk
      refine hs n (a + i) s (by omega) (by omega) ?_
      rw [nI_1]
      exact kk _ (by rw [e]; rfl)
theorem ifo_congr {σ : Type} {f f2 : Nat → σ → σ} {s0 : σ} {a : Nat} : ∀ n, (∀ i s, a ≤ i → i < a + n → f i s = f2 i s) → ifo f s0 a n = ifo f2 s0 a n := by
  intro n
  induction n with
  | zero => exact fun _ => rfl
  | succ n ih =>
    intro h
    show f (a + n) (ifo f s0 a n) = f2 (a + n) (ifo f2 s0 a n)
    rw [ih (fun i s h1 h2 => h i s h1 (by omega)), h _ _ (by omega) (by omega)]
/-- the same, from its first index -/
theorem ifo_head {σ : Type} (f : Nat → σ → σ) (s0 : σ) (a : Nat) : ∀ n, ifo f s0 a (n + 1) = ifo f (f a s0) (a + 1) n := by
  intro n
  induction n with
  | zero => rfl
  | succ n ih =>
    show f (a + (n + 1)) (ifo f s0 a (n + 1)) = f (a + 1 + n) (ifo f (f a s0) (a + 1) n)
    rw [ih, show a + (n + 1) = a + 1 + n by omega]
def b01 (p : Prop) [Decidable p] : Int32 := if p then 0 else 1
theorem panelAt_1 {i : Nat} (h : i < 10) : v_X3_panelAt 1 (nI i) = 6 + i := by rw [panelAt_in h]
theorem c_pc {m : Mm} {S : AS} (hC : ClsR m S) (hI : Inv S) : m.1 1 4 = nI (pn (sg S)) := by rw [hC.1.2.2.1]; exact hI.1.g2
theorem c_pf {m : Mm} {S : AS} (hC : ClsR m S) {k j : Nat} (hk : k < pn (sg S)) (h1 : 5 ≤ j) (h2 : j < 11) : m.1 (6 + k) j = pf (sg S) k j := by
  have := (hC.1.2.2.2.2 k hk).1 j h1 h2
  rw [show 1 + 5 + k = 6 + k by omega] at this
  exact this
def cntS (g : Vc) (c : Nat → Prop) [DecidablePred c] : Nat → Int32 → Int32 := fun i a => a + (if c i then 0 else 1)
theorem op_count {m : Mm} {S : AS} {x : Int32} {P : Int32 → Int32 → Mm → Prop} (h : Sim m S) (kk : ∀ r m2 S2, Sim m2 S2 → P r r m2) : wp_X11_count x m (fun r m1 => wp_X12_count x m1 (fun r2 m2 => P r r2 m2)) := by
  have hI := h.2.2
  have hC := h.2.1
  have hp := hI.1.ple
  have hpc := c_pc hC hI
  by_cases x0 : x = 0
  · refine combine (c := wp_X11_count x m) (d := wp_X12_count x) (r := nI (pn (sg S))) (S2 := S) h (fun K k1 => ?_) (fun m1 K hR k1 => ?_) hI kk
    · unfold wp_X11_count
      rw [if_pos x0, hpc]; exact k1 _ hC (fun _ _ => rfl)
    · unfold wp_X12_count
      rw [if_pos x0, many_ok hR.st hI.1.g2]; exact k1 _ hR (fun _ _ => rfl)
  by_cases x1 : x = 1
  · refine combine (c := wp_X11_count x m) (d := wp_X12_count x) (r := nI (sh S).length) (S2 := S) h (fun K k1 => ?_) (fun m1 K hR k1 => ?_) hI kk
    · unfold wp_X11_count
      rw [if_neg x0, if_pos x1, hC.2.2.1.1]; exact k1 _ hC (fun _ _ => rfl)
    · unfold wp_X12_count
      rw [if_neg x0, if_pos x1, hR.2.1.1]; exact k1 _ hR (fun _ _ => rfl)
  by_cases x2 : x = 2
  · have e : ∀ q, q < 2 → ∀ m1, RefR m1 S → (if m1.1 431 q = 0 then (0 : Int32) else 1) = (if m.1 32 q = 0 then (0 : Int32) else 1) := fun q hq m1 hR => by
      have a := hC.2.2.2.1 q hq
      have b := hR.2.2.1 q hq
      cases hs : ss S q with
      | none => rw [hs] at a b; rw [if_pos a, if_pos b]
      | some v => rw [hs] at a b; rw [a.1, b.1]
    refine combine (c := wp_X11_count x m) (d := wp_X12_count x) (r := (if m.1 32 0 = 0 then (0 : Int32) else 1) + (if m.1 32 1 = 0 then (0 : Int32) else 1)) (S2 := S) h (fun K k1 => ?_) (fun m1 K hR k1 => ?_) hI kk
    · unfold wp_X11_count
      rw [if_neg x0, if_neg x1, if_pos x2]
      rintro y5 rfl y7 rfl
      exact k1 _ hC (fun _ _ => rfl)
    · unfold wp_X12_count
      rw [if_neg x0, if_neg x1, if_pos x2]
      rintro y5 rfl y7 rfl
      rw [e 0 (by omega) m1 hR, e 1 (by omega) m1 hR]
      exact k1 _ hR (fun _ _ => rfl)
  by_cases x3 : x = 3
  · refine combine (c := wp_X11_count x m) (d := wp_X12_count x) (r := nI (sx S).length) (S2 := S) h (fun K k1 => ?_) (fun m1 K hR k1 => ?_) hI kk
    · unfold wp_X11_count
      rw [if_neg x0, if_neg x1, if_neg x2, if_pos x3, hC.2.2.2.2.1.1]; exact k1 _ hC (fun _ _ => rfl)
    · unfold wp_X12_count
      rw [if_neg x0, if_neg x1, if_neg x2, if_pos x3, hR.2.2.2.1.1]; exact k1 _ hR (fun _ _ => rfl)
  by_cases x4 : x = 4
  · refine combine (c := wp_X11_count x m) (d := wp_X12_count x) (r := ifo (fun i a => a + (if pf (sg S) i 5 = 0 then (0 : Int32) else 1)) 0 1 (pn (sg S) - 1)) (S2 := S) h (fun K k1 => ?_) (fun m1 K hR k1 => ?_) hI kk
    · unfold wp_X11_count
      rw [if_neg x0, if_neg x1, if_neg x2, if_neg x3, if_pos x4]
      unfold wp_X3_foldedPanels
      refine acc_loop (wp := fun n i s => wp_X3_foldedPanels_l4 _ 1 n s i m) (a := 1) (N := pn (sg S)) (fun i a => a + (if pf (sg S) i 5 = 0 then (0 : Int32) else 1)) (by omega) (by omega) (fun n i h1 h2 => ?_) (fun n i s h1 h2 kk => ?_)
      · show wb_X3_foldedPanels_l4 _ _ _ _ _ _
        unfold wb_X3_foldedPanels_l4
        rw [hpc, if_pos (ile h1 (by omega))]
        exact k1 _ hC (fun _ _ => rfl)
      · show wb_X3_foldedPanels_l4 _ _ _ _ _ _
        unfold wb_X3_foldedPanels_l4
        rw [hpc, if_neg (inle h2 (by omega)), panelAt_1 (by omega), c_pf hC h2 (by omega) (by omega)]
        rintro y3 rfl y4 rfl
        exact kk
    · unfold wp_X12_count
      rw [if_neg x0, if_neg x1, if_neg x2, if_neg x3, if_pos x4]
      unfold wp_X12_turnedPanels
      refine acc_loop (wp := fun n i s => wp_X12_turnedPanels_l4 _ n s i m1) (a := 1) (N := pn (sg S)) (fun i a => a + (if pf (sg S) i 5 = 0 then (0 : Int32) else 1)) (by omega) (by omega) (fun n i h1 h2 => ?_) (fun n i s h1 h2 kk => ?_)
      · show wb_X12_turnedPanels_l4 _ _ _ _ _
        unfold wb_X12_turnedPanels_l4
        rw [many_ok hR.st hI.1.g2, if_pos (ile h1 (by omega))]
        exact k1 _ hR (fun _ _ => rfl)
      · show wb_X12_turnedPanels_l4 _ _ _ _ _
        unfold wb_X12_turnedPanels_l4
        rw [many_ok hR.st hI.1.g2, if_neg (inle h2 (by omega)), of5 hR.st (by omega)]
        refine ⟨sof5 (by omega), ?_⟩
        rintro y3 rfl y4 rfl
        exact kk
  by_cases x5 : x = 5
  · refine combine (c := wp_X11_count x m) (d := wp_X12_count x) (r := ifo (fun i a => a + (if pf (sg S) i 6 = -9 then (0 : Int32) else 1)) 0 1 (pn (sg S) - 1)) (S2 := S) h (fun K k1 => ?_) (fun m1 K hR k1 => ?_) hI kk
    · unfold wp_X11_count
      rw [if_neg x0, if_neg x1, if_neg x2, if_neg x3, if_neg x4, if_pos x5]
      unfold wp_X3_flaps
      refine acc_loop (wp := fun n i s => wp_X3_flaps_l4 _ 1 n s i m) (a := 1) (N := pn (sg S)) (fun i a => a + (if pf (sg S) i 6 = -9 then (0 : Int32) else 1)) (by omega) (by omega) (fun n i h1 h2 => ?_) (fun n i s h1 h2 kk => ?_)
      · show wb_X3_flaps_l4 _ _ _ _ _ _
        unfold wb_X3_flaps_l4
        rw [hpc, if_pos (ile h1 (by omega))]
        exact k1 _ hC (fun _ _ => rfl)
      · show wb_X3_flaps_l4 _ _ _ _ _ _
        unfold wb_X3_flaps_l4 v_X7_isFlap
        rw [hpc, if_neg (inle h2 (by omega)), panelAt_1 (by omega), c_pf hC h2 (by omega) (by omega)]
        rintro y3 rfl y4 rfl
        have e : (if (if pf (sg S) i 6 = -9 then (0 : Int32) else 1) = 0 then (0 : Int32) else 1) = if pf (sg S) i 6 = -9 then (0 : Int32) else 1 := by
          by_cases q : pf (sg S) i 6 = -9
          · rw [if_pos q, if_pos rfl]
          · rw [if_neg q]; rfl
        rw [e]
        exact kk
    · unfold wp_X12_count
      rw [if_neg x0, if_neg x1, if_neg x2, if_neg x3, if_neg x4, if_pos x5]
      unfold wp_X12_flaps
      refine acc_loop (wp := fun n i s => wp_X12_flaps_l4 _ n s i m1) (a := 0) (N := pn (sg S)) (fun i a => a + (if pf (sg S) i 6 = -9 then (0 : Int32) else 1)) (by omega) (by omega) (fun n i h1 h2 => ?_) (fun n i s h1 h2 kk => ?_)
      · show wb_X12_flaps_l4 _ _ _ _ _
        unfold wb_X12_flaps_l4
        rw [many_ok hR.st hI.1.g2, if_pos (ile h1 (by omega))]
        have e : ifo (fun i a => a + (if pf (sg S) i 6 = -9 then (0 : Int32) else 1)) 0 0 (pn (sg S) - 0) = ifo (fun i a => a + (if pf (sg S) i 6 = -9 then (0 : Int32) else 1)) 0 1 (pn (sg S) - 1) := by
          by_cases q : pn (sg S) = 0
          · rw [q]; rfl
          · rw [show pn (sg S) - 0 = pn (sg S) - 1 + 1 by omega, ifo_head]
            rw [(hI.1.1.2.2.2.2.1 (by omega)).2.2.2.2.2]
            rfl
        rw [e]
        exact k1 _ hR (fun _ _ => rfl)
      · show wb_X12_flaps_l4 _ _ _ _ _
        unfold wb_X12_flaps_l4 v_X12_isFlap
        rw [many_ok hR.st hI.1.g2, if_neg (inle h2 (by omega)), of6 hR.st (by omega)]
        refine ⟨sof6 (by omega), ?_⟩
        rintro y3 rfl y4 rfl
        have e : (if (if pf (sg S) i 6 = -9 then (0 : Int32) else 1) = 0 then (0 : Int32) else 1) = if pf (sg S) i 6 = -9 then (0 : Int32) else 1 := by
          by_cases q : pf (sg S) i 6 = -9
          · rw [if_pos q, if_pos rfl]
          · rw [if_neg q]; rfl
        rw [e]
        exact kk
  by_cases x6 : x = 6
  · refine combine (c := wp_X11_count x m) (d := wp_X12_count x) (r := ifo (fun i a => a + (if sg S (3 + 2 * i) ≤ 0 then (0 : Int32) else 1)) 0 0 (4 - 0)) (S2 := S) h (fun K k1 => ?_) (fun m1 K hR k1 => ?_) hI kk
    · unfold wp_X11_count
      rw [if_neg x0, if_neg x1, if_neg x2, if_neg x3, if_neg x4, if_neg x5, if_pos x6]
      unfold wp_X3_definedImages
      refine acc_loop (wp := fun n i s => wp_X3_definedImages_l4 _ 1 n s i m) (a := 0) (N := 4) (fun i a => a + (if sg S (3 + 2 * i) ≤ 0 then (0 : Int32) else 1)) (by omega) (by omega) (fun n i h1 h2 => ?_) (fun n i s h1 h2 kk => ?_)
      · show wb_X3_definedImages_l4 _ _ _ _ _ _
        unfold wb_X3_definedImages_l4
        rw [if_pos (show (4 : Int32) ≤ nI i from ile (a := 4) h1 (by omega))]
        exact k1 _ hC (fun _ _ => rfl)
      · show wb_X3_definedImages_l4 _ _ _ _ _ _
        unfold wb_X3_definedImages_l4 v_X3_hasImage
        rw [if_neg (show ¬ (4 : Int32) ≤ nI i from inle (a := 4) h2 (by omega)), if_neg (nI_pos (by omega)), if_neg (show ¬ (4 : Int32) ≤ nI i from inle (a := 4) h2 (by omega)), clamp_nI (by omega), (hC.1.2.2.2.1 i h2).1]
        rintro y3 rfl y4 rfl
        have e : (if (if sg S (3 + 2 * i) ≤ 0 then (0 : Int32) else 1) = 0 then (0 : Int32) else 1) = if sg S (3 + 2 * i) ≤ 0 then (0 : Int32) else 1 := by
          by_cases q : sg S (3 + 2 * i) ≤ 0
          · rw [if_pos q, if_pos rfl]
          · rw [if_neg q]; rfl
        rw [e]
        exact kk
    · unfold wp_X12_count
      rw [if_neg x0, if_neg x1, if_neg x2, if_neg x3, if_neg x4, if_neg x5, if_pos x6]
      unfold wp_X12_definedImages
      refine acc_loop (wp := fun n i s => wp_X12_definedImages_l4 _ n s i m1) (a := 0) (N := 4) (fun i a => a + (if sg S (3 + 2 * i) ≤ 0 then (0 : Int32) else 1)) (by omega) (by omega) (fun n i h1 h2 => ?_) (fun n i s h1 h2 kk => ?_)
      · show wb_X12_definedImages_l4 _ _ _ _ _
        unfold wb_X12_definedImages_l4
        rw [if_pos (show (4 : Int32) ≤ nI i from ile (a := 4) h1 (by omega))]
        exact k1 _ hR (fun _ _ => rfl)
      · show wb_X12_definedImages_l4 _ _ _ _ _
        unfold wb_X12_definedImages_l4
        rw [if_neg (show ¬ (4 : Int32) ≤ nI i from inle (a := 4) h2 (by omega)), show (3 : Int32) = nI 3 from rfl, show (2 : Int32) = nI 2 from rfl, nI_mul, nI_add, clamp_nI (by omega), hR.st _ (by omega)]
        refine ⟨vp_in_nI (by omega) (by omega), ?_⟩
        rintro y3 rfl y4 rfl
        exact kk
  · refine combine (c := wp_X11_count x m) (d := wp_X12_count x) (r := -1) (S2 := S) h (fun K k1 => ?_) (fun m1 K hR k1 => ?_) hI kk
    · unfold wp_X11_count
      rw [if_neg x0, if_neg x1, if_neg x2, if_neg x3, if_neg x4, if_neg x5, if_neg x6]; exact k1 _ hC (fun _ _ => rfl)
    · unfold wp_X12_count
      rw [if_neg x0, if_neg x1, if_neg x2, if_neg x3, if_neg x4, if_neg x5, if_neg x6]; exact k1 _ hR (fun _ _ => rfl)
