/-! continueImage, spreadImage -/
theorem RB_G {m0 m m2 : Mm} {S : AS} {g : Vc} (h : RB m0 m S g) (f : frG m m2) : RB m0 m2 S g := by
  obtain ⟨h1, h2, h3, h4, h5⟩ := h
  refine ⟨fun k hk => by rw [f 427 k (by omega)]; exact h1 k hk, ⟨fun k hk => by rw [f 428 k (by omega)]; exact h2.1 k hk, (funext fun j => f 438 j (by omega)).trans h2.2.1, by rw [f 426 14 (by omega)]; exact h2.2.2⟩, by rw [f 426 2 (by omega)]; exact h3, ?_, fun b hb => by rw [low_G f b hb, h5 b hb]⟩
  exact Rr_congr h4 (f 426 4 (by omega)) (f 426 12 (by omega)) (f 426 13 (by omega)) (fun b hb => funext fun j => f b j (by unfold rcell at hb; omega))
theorem RB_row {m0 m m2 : Mm} {S : AS} {g g2 : Vc} (h : RB m0 m S g) (hs : stR m2 g2) (f : ∀ b, b ≠ 427 → m2.1 b = m.1 b) : RB m0 m2 S g2 := by
  obtain ⟨h1, h2, h3, h4, h5⟩ := h
  refine ⟨hs, ⟨fun k hk => by rw [f 428 (by omega)]; exact h2.1 k hk, (f 438 (by omega)).trans h2.2.1, by rw [f 426 (by omega)]; exact h2.2.2⟩, by rw [f 426 (by omega)]; exact h3, ?_, fun b hb => by rw [f b (by omega), h5 b hb]⟩
  exact Rr_congr h4 (by rw [f 426 (by omega)]) (by rw [f 426 (by omega)]) (by rw [f 426 (by omega)]) (fun b hb => f b (by unfold rcell at hb; omega))
def nw (g : Vc) (an : Nat → Int32) (s : Qd) (b : Bool) (t : Nat) : Vc := gPrn g (tK s b) (pf g (fK s b) 7) (nI t) (xpx g an s b t) (xpy g an s b t)
theorem nw_Dd {g : Vc} {an : Nat → Int32} {tol : Int32} {s : Qd} {b : Bool} {t : Nat} (hD : Dd g) (wf : sWf g an tol s) (h : xPl g an s b t) : Dd (nw g an s b t) := by
  obtain ⟨f1, f2, f3, f4, f5, -⟩ := seam_fin (b := b) wf
  have ht := h.2.1
  exact Dd_prn hD f3 (Or.inr (img_i hD.r f1 (reach_img h.1))) ⟨by rw [nI_toInt (by omega)]; omega, by rw [nI_toInt (by omega)]; omega⟩ h.2.2.2.1 h.2.2.2.2
theorem frW_V {m m2 m3 : Mm} {S : AS} (hI : Inv S) (hC : ClsR m S) (f : frW m m2) (v : frV m2 m3) : ClsR m3 S ∧ ∀ b, 426 ≤ b → m3.1 b = m.1 b :=
  ⟨ClsR_congr hI hC (fun b hb => by rw [v b (by unfold ccell at hb; omega) (by unfold ccell at hb; omega) (by unfold ccell at hb; omega) (by unfold ccell at hb; omega) (by unfold ccell at hb; omega), f b (by unfold ccell at hb; omega) (by unfold ccell at hb; omega) (by unfold ccell at hb; omega)]), fun b hb => by rw [v b (by omega) (by omega) (by omega) (by omega) (by omega), f b (by omega) (by omega) (by omega)]⟩
theorem op_continueImage {m : Mm} {S : AS} {x y : Int32} {P : Int32 → Int32 → Mm → Prop} (h : Sim m S) (kk : ∀ r m2 S2, Sim m2 S2 → P r r m2) : wp_X11_continueImage x y m (fun r m1 => wp_X12_continueImage x y m1 (fun r2 m2 => P r r2 m2)) := by
  have hI := h.2.2
  have hC := h.2.1
  have hD := hI.1
  have hr := hD.r
  have hp := hD.ple
  by_cases cx : 0 ≤ x.toInt ∧ x.toInt < (seamL (sg S) (angM (sg S) (-1)) (sg S 125)).length
  · obtain ⟨i, ei, ei2, -⟩ := asN cx.1
    have hi : i < (seamL (sg S) (angM (sg S) (-1)) (sg S 125)).length := by omega
    obtain ⟨s, es⟩ : ∃ s, (seamL (sg S) (angM (sg S) (-1)) (sg S 125))[i]? = some s := ⟨_, List.getElem?_eq_getElem hi⟩
    have wf := seam_at es
    obtain ⟨b, hb⟩ : ∃ b : Bool, y = 0 ↔ b = false := by
      by_cases w : y = 0
      · exact ⟨false, fun _ => rfl, fun _ => w⟩
      · exact ⟨true, fun z => absurd z w, fun z => by cases z⟩
    obtain ⟨f1, f2, f3, f4, f5, -⟩ := seam_fin (b := b) wf
    by_cases c1 : ∃ t, xPl (sg S) (angM (sg S) (-1)) s b t
    · obtain ⟨t, ht⟩ := c1
      refine combine (c := wp_X11_continueImage x y m) (d := wp_X12_continueImage x y) (r := nI t) (S2 := (nw (sg S) (angM (sg S) (-1)) s b t, pushH (sh S) (sg S), S.2.2)) h (fun K k1 => ?_) (fun m1 K hR k1 => ?_) ?_ kk
      · unfold wp_X11_continueImage
        refine cseams_ok hI hC (fun m2 f hF hS hl => ?_)
        have hC2 := ClsR_W hI hC f
        show (if _ then _ else _)
        rw [if_neg (fun z => (shas_0 hS hl).mp z cx), ei]
        refine plan_ok hr (by omega) hC2.1 hF hS hl es hb (fun m3 z _ => absurd ht (z t)) (fun t' m3 h0 a0 a1 a2 a3 a4 v3 => ?_)
        have et : t' = t := xAg_one hr wf h0.2.1 ht.2.1 h0.2.2.1 ht.2.2.1
        subst et
        obtain ⟨C3, u3⟩ := frW_V hI hC f v3
        show (if _ then _ else _)
        rw [if_neg (by decide)]
        refine remember_ok C3 hI (fun m6 C6 k6 => ?_)
        unfold wp_X0_carryOut
        rw [k6.1 267 (by omega), a0, a1, a2, a3, a4]
        refine print_ok (g := sg S) C6.1 hp f3 (fun m7 d7 f7 => ?_)
        show K (m7.1 267 0) m7
        rw [f7 267 (by omega), k6.1 267 (by omega), a0]
        have := ClsR_chg hI C6 k6 d7 f7 (fun i hi => gPrn_hi (by omega) (by omega))
        exact k1 _ this.1 (fun b hb => by rw [this.2 b hb, u3 b hb])
      · unfold wp_X12_continueImage
        refine RB_begins hR (fun m2 hB => ?_)
        rw [lim0_r (RB_st hB)]
        refine ⟨lim0_s, rfind_ok hr (RB_st hB) (fun m3 m4 f q s1 s2 s3 hS hl => ?_)⟩
        have hB4 := RB_G hB (frG_FQ f q)
        show (if _ then _ else _)
        rw [if_neg (fun z => (rhas_0 hS hl).mp z cx), ei]
        refine rcont_ok hr s1 s2 s3 hS hl es hb (fun z => absurd ht (z t)) (fun t' m5 h0 st5 f5 => ?_)
        have et : t' = t := xAg_one hr wf h0.2.1 ht.2.1 h0.2.2.1 ht.2.2.1
        subst et
        have h8 := h0.2.1
        have e9 : (-9 : Int32).toInt = -9 := rfl
        show (if _ then _ else _)
        rw [if_neg (show ¬ nI t' = (-9 : Int32) from fun z => by have := congrArg Int32.toInt z; rw [nI_toInt (by omega)] at this; omega)]
        exact RB_ends hI (RB_row hB4 st5 f5) (fun m6 r6 l6 => k1 _ r6 l6)
      · exact Inv_push hI (nw_Dd hD wf ht) (Ll_eq hI.2.1 (fun i hi => gPrn_hi (by omega) (by omega)))
    · refine combine (c := wp_X11_continueImage x y m) (d := wp_X12_continueImage x y) (r := -2) (S2 := S) h (fun K k1 => ?_) (fun m1 K hR k1 => ?_) hI kk
      · unfold wp_X11_continueImage
        refine cseams_ok hI hC (fun m2 f hF hS hl => ?_)
        have hC2 := ClsR_W hI hC f
        show (if _ then _ else _)
        rw [if_neg (fun z => (shas_0 hS hl).mp z cx), ei]
        refine plan_ok hr (by omega) hC2.1 hF hS hl es hb (fun m3 z v3 => ?_) (fun t' m3 h0 => absurd ⟨t', h0⟩ c1)
        obtain ⟨C3, u3⟩ := frW_V hI hC f v3
        show (if _ then _ else _)
        rw [if_pos rfl]
        exact k1 _ C3 u3
      · unfold wp_X12_continueImage
        refine RB_begins hR (fun m2 hB => ?_)
        rw [lim0_r (RB_st hB)]
        refine ⟨lim0_s, rfind_ok hr (RB_st hB) (fun m3 m4 f q s1 s2 s3 hS hl => ?_)⟩
        have hB4 := RB_G hB (frG_FQ f q)
        show (if _ then _ else _)
        rw [if_neg (fun z => (rhas_0 hS hl).mp z cx), ei]
        refine rcont_ok hr s1 s2 s3 hS hl es hb (fun z => ?_) (fun t' m5 h0 => absurd ⟨t', h0⟩ c1)
        show (if _ then _ else _)
        rw [if_pos rfl]
        exact k1 _ (RB_stop hB4) hB4.2.2.2.2
  · refine combine (c := wp_X11_continueImage x y m) (d := wp_X12_continueImage x y) (r := -1) (S2 := S) h (fun K k1 => ?_) (fun m1 K hR k1 => ?_) hI kk
    · unfold wp_X11_continueImage
      refine cseams_ok hI hC (fun m2 f hF hS hl => ?_)
      show (if _ then _ else _)
      rw [if_pos ((shas_0 hS hl).mpr cx)]
      exact k1 _ (ClsR_W hI hC f) (up_W f)
    · unfold wp_X12_continueImage
      refine RB_begins hR (fun m2 hB => ?_)
      rw [lim0_r (RB_st hB)]
      refine ⟨lim0_s, rfind_ok hr (RB_st hB) (fun m3 m4 f q s1 s2 s3 hS hl => ?_)⟩
      have hB4 := RB_G hB (frG_FQ f q)
      show (if _ then _ else _)
      rw [if_pos ((rhas_0 hS hl).mpr cx)]
      exact k1 _ (RB_stop hB4) hB4.2.2.2.2
/-! images do not move panels -/
def sameG (g g2 : Vc) : Prop := (∀ k, rect g2 k = rect g k) ∧ (∀ an k, poseF g2 an k = poseF g an k) ∧ pn g2 = pn g ∧ (∀ k j, j < 7 → pf g2 k j = pf g k j) ∧ ∀ i, i < 11 ∨ 121 ≤ i → g2 i = g i
theorem sameG_prn {g : Vc} {k : Nat} {im t px py : Int32} (hk : k < 10) : sameG g (gPrn g k im t px py) := by
  have h7 : ∀ i j, j < 7 → pf (gPrn g k im t px py) i j = pf g i j := fun i j hj => by
    unfold pf
    rw [gPrn_get, if_neg (by omega), if_neg (by omega), if_neg (by omega), if_neg (by omega)]
  have hr : ∀ i, rect (gPrn g k im t px py) i = rect g i := fun i => rect_congr2 (n := i + 1) (fun a h1 h2 => gPrn_hi hk (by omega)) (fun a _ j hj => h7 a j (by omega)) i (by omega)
  refine ⟨hr, fun an i => ?_, gPrn_pn hk, h7, fun i hi => gPrn_hi hk hi⟩
  induction i using Nat.strongRecOn with
  | ind i ih =>
    rw [poseF_eq, poseF_eq g]
    by_cases h0 : i = 0
    · rw [if_pos h0, if_pos h0, gPrn_hi hk (by omega), gPrn_hi hk (by omega)]
    · rw [if_neg h0, if_neg h0]
      have e0 := h7 i 0 (by omega)
      by_cases h1 : (pf g i 0).toNatClampNeg < i
      · rw [dif_pos (by rw [e0]; exact h1), dif_pos h1, e0, ih _ h1, hr, h7 i 1 (by omega), h7 i 2 (by omega), h7 i 4 (by omega)]
      · rw [dif_neg (by rw [e0]; exact h1), dif_neg h1]
theorem ck_E {g g2 : Vc} (h : sameG g g2) : ck g2 = ck g := by funext an k n c; unfold ck; rw [h.1, h.2.1]
theorem zA_E {g g2 : Vc} (h : sameG g g2) : zA g2 = zA g := by funext an k s; unfold zA; rw [h.2.1]
theorem zL_E {g g2 : Vc} (h : sameG g g2) : zL g2 = zL g := by funext an k s; unfold zL; rw [ck_E h, zA_E h]
theorem zH_E {g g2 : Vc} (h : sameG g g2) : zH g2 = zH g := by funext an k s; unfold zH; rw [ck_E h, zA_E h]
theorem sL_E {g g2 : Vc} (h : sameG g g2) : sL g2 = sL g := by funext an s; unfold sL; rw [zL_E h]
theorem sH_E {g g2 : Vc} (h : sameG g g2) : sH g2 = sH g := by funext an s; unfold sH; rw [zH_E h]
theorem sG_E {g g2 : Vc} (h : sameG g g2) : sG g2 = sG g := by funext an s; unfold sG; rw [ck_E h, zA_E h]
theorem sFd_E {g g2 : Vc} (h : sameG g g2) : sFd g2 = sFd g := by funext s; unfold sFd; rw [h.2.2.2.1 _ 0 (by omega), h.2.2.2.1 _ 1 (by omega)]
theorem sAdd_E {g g2 : Vc} (h : sameG g g2) : sAdd g2 = sAdd g := by funext an tol s l; unfold sAdd; rw [zA_E h, sG_E h, sH_E h, sL_E h]
theorem seamL_E {g g2 : Vc} (h : sameG g g2) : seamL g2 = seamL g := by
  have e1 : jL g2 = jL g := by funext an tol p o q l; unfold jL; rw [sAdd_E h]
  have e2 : qL g2 = qL g := by funext an tol p o l; unfold qL; rw [e1, h.2.2.1]
  have e3 : oL g2 = oL g := by funext an tol p l; unfold oL; rw [e2]
  funext an tol
  unfold seamL
  rw [e3, h.2.2.1]
theorem angM_E {g g2 : Vc} (h : sameG g g2) : angM g2 = angM g := by funext made k; unfold angM; rw [h.2.2.2.1 _ 5 (by omega)]
theorem cFd_E {g g2 : Vc} (h : sameG g g2) {m : Mm} {an : Nat → Int32} (hF : cFd m g an) : cFd m g2 an := by
  refine ⟨by rw [h.2.2.1]; exact hF.1, fun k hk => ?_⟩
  have h2 := hF.2 k (by rw [← h.2.2.1]; exact hk)
  unfold cF1 at h2 ⊢
  rw [h.1, h.2.1]
  exact h2
theorem cSm_E {g g2 : Vc} (h : sameG g g2) {m : Mm} {an : Nat → Int32} {tol : Int32} {l : List Qd} (hS : cSm m g an tol l) : cSm m g2 an tol l := by
  unfold cSm at hS ⊢
  rw [sL_E h, sH_E h, sG_E h]
  exact hS
theorem fR_E {g g2 : Vc} (h : sameG g g2) {m : Mm} {an : Nat → Int32} (hF : fR m g an (pn g)) : fR m g2 an (pn g2) := by
  rw [h.2.2.1]
  intro k hk
  have h2 := hF k hk
  unfold exR plo phi pend at h2 ⊢
  simp only [h.1, h.2.1]
  exact h2
theorem flatR_E {g g2 : Vc} (h : sameG g g2) {m : Mm} (hf : flatR m g (pn g)) : flatR m g2 (pn g2) := by
  rw [h.2.2.1]
  intro k hk
  rw [h.1]
  exact hf k hk
theorem rSm_E {g g2 : Vc} (h : sameG g g2) {m : Mm} {an : Nat → Int32} {l : List Qd} (hS : rSm m g an l) : rSm m g2 an l := by
  unfold rSm at hS ⊢
  rw [sL_E h, sH_E h, sG_E h, zA_E h, sFd_E h]
  exact hS
/-! spreading -/
def cnd (g : Vc) (an : Nat → Int32) (w : Int32) (s : Qd) (b : Bool) (t : Nat) : Prop := pf g (fK s b) 7 = w ∧ pf g (tK s b) 7 = -9 ∧ pf g (tK s b) 6 = -9 ∧ xPl g an s b t
def bO (j : Nat) : Bool := decide (j % 2 = 1)
def noC (g : Vc) (an : Nat → Int32) (tol w : Int32) (n : Nat) : Prop := ∀ j, j < n → ∀ s, (seamL g an tol)[j / 2]? = some s → ∀ t, ¬ cnd g an w s (bO j) t
def One (g : Vc) (an : Nat → Int32) (tol w : Int32) (g1 : Vc) : Prop := ∃ j s t, j < 2 * (seamL g an tol).length ∧ (seamL g an tol)[j / 2]? = some s ∧ cnd g an w s (bO j) t ∧ noC g an tol w j ∧ g1 = nw g an s (bO j) t
theorem One_det {g : Vc} {an : Nat → Int32} {tol w : Int32} {g1 g2 : Vc} (hr : rngD g) (h1 : One g an tol w g1) (h2 : One g an tol w g2) : g1 = g2 := by
  obtain ⟨j, s, t, a1, a2, a3, a4, a5⟩ := h1
  obtain ⟨j', s', t', b1, b2, b3, b4, b5⟩ := h2
  have e : j = j' := by
    rcases Nat.lt_trichotomy j j' with z | z | z
    · exact absurd a3 (b4 j z s a2 t)
    · exact z
    · exact absurd b3 (a4 j' z s' b2 t')
  subst e
  rw [a2] at b2
  cases b2
  have et : t = t' := xAg_one hr (seam_at a2) a3.2.2.2.2.1 b3.2.2.2.2.1 a3.2.2.2.2.2.1 b3.2.2.2.2.2.1
  rw [a5, b5, et]
theorem One_or {g : Vc} {an : Nat → Int32} {tol w : Int32} : (∃ g1, One g an tol w g1) ∨ noC g an tol w (2 * (seamL g an tol).length) := by
  by_cases h : ∃ j, j < 2 * (seamL g an tol).length ∧ ∃ s, (seamL g an tol)[j / 2]? = some s ∧ ∃ t, cnd g an w s (bO j) t
  · have hd : DecidablePred (fun j => ∃ s, (seamL g an tol)[j / 2]? = some s ∧ ∃ t, cnd g an w s (bO j) t) := fun _ => Classical.propDecidable _
    obtain ⟨j, h1, ⟨s, h2, t, h3⟩, h4⟩ := fb_first h
    exact Or.inl ⟨_, j, s, t, h1, h2, h3, fun j' hj' s' hs' t' ht' => h4 j' hj' ⟨s', hs', t', ht'⟩, rfl⟩
  · exact Or.inr (fun j hj s hs t ht => h ⟨j, hj, s, hs, t, ht⟩)
def SpR (an : Nat → Int32) (tol w : Int32) : Nat → Vc → Nat → Vc → Prop
  | 0, g, n, g2 => n = 0 ∧ g2 = g
  | f + 1, g, n, g2 => (∃ g1 n1, One g an tol w g1 ∧ SpR an tol w f g1 n1 g2 ∧ n = n1 + 1) ∨ (noC g an tol w (2 * (seamL g an tol).length) ∧ n = 0 ∧ g2 = g)
theorem SpR_ex (an : Nat → Int32) (tol w : Int32) : ∀ f g, ∃ n g2, SpR an tol w f g n g2 := by
  intro f
  induction f with
  | zero => exact fun g => ⟨0, g, rfl, rfl⟩
  | succ f ih =>
    intro g
    rcases One_or (g := g) (an := an) (tol := tol) (w := w) with ⟨g1, h⟩ | h
    · obtain ⟨n, g2, h2⟩ := ih g1
      exact ⟨n + 1, g2, Or.inl ⟨g1, n, h, h2, rfl⟩⟩
    · exact ⟨0, g, Or.inr ⟨h, rfl, rfl⟩⟩
theorem One_in {g : Vc} {an : Nat → Int32} {tol w : Int32} {g1 : Vc} (hD : Dd g) (h : One g an tol w g1) : Dd g1 ∧ sameG g g1 ∧ ∀ k, ¬ pf g k 7 = -9 → pf g1 k 7 = pf g k 7 := by
  obtain ⟨j, s, t, a1, a2, a3, a4, a5⟩ := h
  have wf := seam_at a2
  have hp := hD.ple
  obtain ⟨f1, f2, f3, f4, f5, -⟩ := seam_fin (b := bO j) wf
  rw [a5]
  refine ⟨nw_Dd hD wf a3.2.2.2, sameG_prn (by omega), fun k hk => ?_⟩
  have hne : k ≠ tK s (bO j) := fun z => hk (by rw [z]; exact a3.2.1)
  unfold nw pf
  rw [gPrn_get, if_neg (by omega), if_neg (by omega), if_neg (by omega), if_neg (by omega)]
theorem SpR_in {an : Nat → Int32} {tol w : Int32} : ∀ f {g n g2}, Dd g → SpR an tol w f g n g2 → Dd g2 ∧ sameG g g2 ∧ n ≤ f := by
  intro f
  induction f with
  | zero =>
    intro g n g2 hD h
    rw [h.1, h.2]
    exact ⟨hD, ⟨fun _ => rfl, fun _ _ => rfl, rfl, fun _ _ _ => rfl, fun _ _ => rfl⟩, Nat.le_refl _⟩
  | succ f ih =>
    intro g n g2 hD h
    rcases h with ⟨g1, n1, h1, h2, h3⟩ | ⟨-, h2, h3⟩
    · obtain ⟨d1, s1, -⟩ := One_in hD h1
      obtain ⟨d2, s2, l2⟩ := ih d1 h2
      exact ⟨d2, ⟨fun k => by rw [s2.1, s1.1], fun a k => by rw [s2.2.1, s1.2.1], by rw [s2.2.2.1, s1.2.2.1], fun k j hj => by rw [s2.2.2.2.1 k j hj, s1.2.2.2.1 k j hj], fun i hi => by rw [s2.2.2.2.2 i hi, s1.2.2.2.2 i hi]⟩, by omega⟩
    · rw [h2, h3]
      exact ⟨hD, ⟨fun _ => rfl, fun _ _ => rfl, rfl, fun _ _ _ => rfl, fun _ _ => rfl⟩, Nat.zero_le _⟩
