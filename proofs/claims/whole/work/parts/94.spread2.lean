/-! spreadImage -/
def frX (m m2 : Mm) : Prop := ∀ b, b = 0 ∨ 16 ≤ b → b ≠ 267 → b ≠ 391 → b ≠ 392 → b ≠ 393 → b ≠ 394 → m2.1 b = m.1 b
theorem frX_t {m m2 m3 : Mm} (f : frX m m2) (f2 : frX m2 m3) : frX m m3 := fun b h0 h1 h2 h3 h4 h5 => by rw [f2 b h0 h1 h2 h3 h4 h5, f b h0 h1 h2 h3 h4 h5]
theorem frX_V {m m2 : Mm} (f : frV m m2) : frX m m2 := fun b _ h1 h2 h3 h4 h5 => f b h1 h2 h3 h4 h5
theorem cFd_X {m m2 : Mm} {g : Vc} {an : Nat → Int32} (hp : pn g ≤ 10) (h : cFd m g an) (f : frX m m2) : cFd m2 g an := by
  refine ⟨by rw [f 269 (by omega) (by omega) (by omega) (by omega) (by omega) (by omega)]; exact h.1, fun k hk => ?_⟩
  have h3 := h.2 k hk
  unfold cF1 cP cL cS at h3 ⊢
  have e : ∀ b, b < 10 → m2.1 (283 + 10 * k + b) = m.1 (283 + 10 * k + b) := fun b hb => f _ (by omega) (by omega) (by omega) (by omega) (by omega) (by omega)
  have e0 : m2.1 (283 + 10 * k) = m.1 (283 + 10 * k) := f _ (by omega) (by omega) (by omega) (by omega) (by omega) (by omega)
  rw [e0, e 1 (by omega), e 2 (by omega), e 3 (by omega), e 4 (by omega), e 5 (by omega), e 6 (by omega), e 7 (by omega), e 8 (by omega), e 9 (by omega)]
  exact h3
theorem cSm_X {m m2 : Mm} {g : Vc} {an : Nat → Int32} {tol : Int32} {l : List Qd} (h : cSm m g an tol l) (f : frX m m2) : cSm m2 g an tol l := by
  have e : ∀ b, b = 268 ∨ (383 ≤ b ∧ b < 388) → m2.1 b = m.1 b := fun b hb => f b (by omega) (by omega) (by omega) (by omega) (by omega) (by omega)
  unfold cSm at h ⊢
  rw [e 268 (by omega), e 383 (by omega), e 384 (by omega), e 385 (by omega), e 386 (by omega), e 387 (by omega)]
  exact h
theorem noC_s {g : Vc} {an : Nat → Int32} {tol w : Int32} {j : Nat} {s : Qd} (hs : (seamL g an tol)[j / 2]? = some s) (h : noC g an tol w j) (h2 : ∀ t, ¬ cnd g an w s (bO j) t) : noC g an tol w (j + 1) := fun j' hj' s' hs' t' => by
  by_cases z : j' = j
  · subst z
    rw [hs] at hs'
    cases hs'
    exact h2 t'
  · exact h j' (by omega) s' hs' t'
theorem conce_ok {m : Mm} {g : Vc} {an : Nat → Int32} {tol w : Int32} {K : Int32 → Mm → Prop} (hD : Dd g) (hd : desR m.1 1 g) (hF : cFd m g an) (hS : cSm m g an tol (seamL g an tol)) (hl : (seamL g an tol).length ≤ 360)
    (k0 : ∀ m2, noC g an tol w (2 * (seamL g an tol).length) → desR m2.1 1 g → frX m m2 → K 0 m2) (k1 : ∀ g1 m2, One g an tol w g1 → desR m2.1 1 g1 → frX m m2 → K 1 m2) : wp_X0_spreadOnce 1 w m K := by
  have hr := hD.r
  have hp1 := hD.ple
  unfold wp_X0_spreadOnce
  refine loop_i (W := fun n j s2 => wp_X0_spreadOnce_l2 _ K 1 w n (nI j) s2) (I := fun j s2 => frV m s2 ∧ noC g an tol w j) (2 * (seamL g an tol).length) ?_ ?_ FU 0 m (by omega) (FU_gt (by omega)) ⟨fun _ _ _ _ _ _ => rfl, fun j h => by omega⟩
  · rintro n s2 ⟨i1, i2⟩
    show wb_X0_spreadOnce_l2 _ _ _ _ _ _ _
    unfold wb_X0_spreadOnce_l2
    have hS2 := cSm_X hS (frX_V i1)
    rw [hS2.1, show (2 : Int32) = nI 2 from rfl, nI_mul, if_pos (ile (Nat.le_refl _) (by omega))]
    exact k0 s2 i2 (desR_congr hp1 hd (fun b b1 b2 => i1 b (by omega) (by omega) (by omega) (by omega) (by omega))) (frX_V i1)
  · rintro n j s2 hj ⟨i1, i2⟩ k2
    show wb_X0_spreadOnce_l2 _ _ _ _ _ _ _
    unfold wb_X0_spreadOnce_l2
    have hS2 := cSm_X hS (frX_V i1)
    have hF2 := cFd_X hp1 hF (frX_V i1)
    have hd2 : desR s2.1 1 g := desR_congr hp1 hd (fun b b1 b2 => i1 b (by omega) (by omega) (by omega) (by omega) (by omega))
    have hj2 : j / 2 < (seamL g an tol).length := by omega
    obtain ⟨s, es⟩ : ∃ s, (seamL g an tol)[j / 2]? = some s := ⟨_, List.getElem?_eq_getElem hj2⟩
    have wf := seam_at es
    obtain ⟨c1, c2, c3, c4, c5, c6, c7, c8⟩ := seam_c hp1 hS2 hl es
    obtain ⟨f1, f2, f3, f4, f5, -⟩ := seam_fin (b := bO j) wf
    rw [hS2.1, show (2 : Int32) * nI (seamL g an tol).length = nI (2 * (seamL g an tol).length) from nI_mul 2 _, if_neg (inle hj (by omega)), show nI j / (2 : Int32) = nI (j / 2) from pk_div (d := 2) (by omega) (by omega) (by omega), show rm32 (nI j) (2 : Int32) = nI (j % 2) from rm32_nI (d := 2) (by omega) (by omega) (by omega), nI_1]
    rintro y2 rfl y4 h4
    have hb : y4 = 0 ↔ bO j = false := by
      rw [h4]
      unfold bO
      by_cases z : j % 2 = 1
      · rw [z, if_pos (show nI 1 = (1 : Int32) from rfl), decide_eq_true rfl]; decide
      · rw [if_neg (show ¬ nI (j % 2) = (1 : Int32) from ine (i := 1) z (by omega) (by omega)), decide_eq_false z]; decide
    rw [c2, c3]
    have ei : ∀ {α : Type} (u v : α), (if y4 = 0 then u else v) = if bO j then v else u := fun u v => by
      cases hbo : bO j
      · rw [if_pos (hb.mpr hbo)]; rfl
      · rw [if_neg (fun z => by rw [hb.mp z] at hbo; cases hbo)]; rfl
    have e5 : (if bO j then nI s.2.2.1 else nI s.1) = nI (fK s (bO j)) := by unfold fK; cases bO j <;> rfl
    have e16 : (if bO j then nI s.1 else nI s.2.2.1) = nI (tK s (bO j)) := by unfold tK; cases bO j <;> rfl
    rw [ei, ei, e5, e16]
    refine ⟨⟨fun _ _ => c8, fun _ _ => c8⟩, ?_⟩
    rintro y9 rfl
    refine ⟨⟨fun _ _ => c8, fun _ _ => c8⟩, ?_⟩
    rintro y14 rfl
    intro y17 h17
    have hfree : flag y17 (pf g (tK s (bO j)) 7 = -9 ∧ pf g (tK s (bO j)) 6 = -9) := by
      have e7 : s2.1 (v_X3_panelAt 1 (nI (tK s (bO j)))) 7 = pf g (tK s (bO j)) 7 := by rw [panelAt_in (by omega), d_pf hd2 f3 (by omega) (by omega)]
      rw [h17, e7]
      by_cases z1 : pf g (tK s (bO j)) 7 = -9
      · rw [if_pos z1]
        by_cases z2 : pf g (tK s (bO j)) 6 = -9
        · rw [if_pos ((isFlap_c hd2 f3 hp1).mpr z2)]; exact Or.inl ⟨rfl, z1, z2⟩
        · rw [if_neg (fun z => z2 ((isFlap_c hd2 f3 hp1).mp z))]; exact Or.inr ⟨rfl, fun z => z2 z.2⟩
      · rw [if_neg z1]; exact Or.inr ⟨rfl, fun z => z1 z.1⟩
    have knext : (∀ t, ¬ cnd g an w s (bO j) t) → ∀ s3, frV m s3 → wp_X0_spreadOnce_l2 _ K 1 w n (nI (j + 1)) s3 := fun z s3 v3 => k2 s3 ⟨v3, noC_s es i2 z⟩
    rcases hfree with ⟨z1, z2⟩ | ⟨z1, z2⟩
    · rw [if_neg (by rw [z1]; decide), panelAt_in (by omega), d_pf hd2 f1 (by omega) (by omega)]
      by_cases z3 : pf g (fK s (bO j)) 7 = w
      · rw [if_pos z3]
        refine plan_ok hr (by omega) hd2 hF2 hS2 hl es hb (fun m3 z v3 => ?_) (fun t m3 h0 a0 a1 a2 a3 a4 v3 => ?_)
        · show (if _ then _ else _)
          rw [if_pos rfl]
          exact knext (fun t q => z t q.2.2.2) m3 (fun b b1 b2 b3 b4 b5 => by rw [v3 b b1 b2 b3 b4 b5, i1 b b1 b2 b3 b4 b5])
        · show (if _ then _ else _)
          rw [if_neg (by decide)]
          show wp_X0_carryOut 1 m3 _
          unfold wp_X0_carryOut
          rw [a0, a1, a2, a3, a4]
          have d3 : desR m3.1 1 g := desR_congr hp1 hd2 (fun b b1 b2 => v3 b (by omega) (by omega) (by omega) (by omega) (by omega))
          refine print_ok (g := g) d3 hp1 f3 (fun m7 d7 f7 => ?_)
          exact k1 _ m7 ⟨j, s, t, hj, es, ⟨z3, z2.1, z2.2, h0⟩, i2, rfl⟩ d7 (fun b b0 b1 b2 b3 b4 b5 => by rw [f7 b (by omega), v3 b b1 b2 b3 b4 b5, i1 b b1 b2 b3 b4 b5])
      · rw [if_neg z3]
        exact knext (fun t q => z3 q.1) s2 i1
    · rw [if_pos z1]
      exact knext (fun t q => z2 ⟨q.2.1, q.2.2.1⟩) s2 i1
theorem cspread_ok {an : Nat → Int32} {tol w : Int32} {g0 : Vc} {n0 : Nat} {g2 : Vc} {m : Mm} {K : Int32 → Mm → Prop} (hD : Dd g0) (hd : desR m.1 1 g0) (hF : cFd m g0 an) (hS : cSm m g0 an tol (seamL g0 an tol)) (hl : (seamL g0 an tol).length ≤ 360) (hR : SpR an tol w 10 g0 n0 g2)
    (kk : ∀ m2, desR m2.1 1 g2 → frX m m2 → K (nI n0) m2) : wp_X0_spread 1 w m K := by
  unfold wp_X0_spread
  refine loop_i (W := fun n i s2 => wp_X0_spread_l5 _ K 1 w n (nI i) (nI i) s2) (I := fun i s2 => ∃ g n1, Dd g ∧ desR s2.1 1 g ∧ cFd s2 g an ∧ cSm s2 g an tol (seamL g an tol) ∧ (seamL g an tol).length ≤ 360 ∧ SpR an tol w (10 - i) g n1 g2 ∧ n0 = i + n1 ∧ frX m s2) 10 ?_ ?_ FU 0 m (by omega) (FU_gt (by omega)) ⟨g0, n0, hD, hd, hF, hS, hl, hR, by omega, fun _ _ _ _ _ _ _ => rfl⟩
  · rintro n s2 ⟨g, n1, u1, u2, u3, u4, u5, u6, u7, u8⟩
    show wb_X0_spread_l5 _ _ _ _ _ _ _ _
    unfold wb_X0_spread_l5
    rw [if_pos (show (10 : Int32) ≤ nI 10 from ile (a := 10) (by omega) (by omega))]
    have h6 : n1 = 0 ∧ g2 = g := u6
    have e : n0 = 10 := by omega
    rw [← e]
    exact kk s2 (by rw [h6.2]; exact u2) u8
  · rintro n i s2 hi ⟨g, n1, u1, u2, u3, u4, u5, u6, u7, u8⟩ k2
    show wb_X0_spread_l5 _ _ _ _ _ _ _ _
    unfold wb_X0_spread_l5
    rw [if_neg (show ¬ (10 : Int32) ≤ nI i from inle (a := 10) hi (by omega)), nI_1]
    rw [show 10 - i = (10 - (i + 1)) + 1 by omega] at u6
    refine conce_ok u1 u2 u3 u4 u5 (fun m2 z d2 f2 => ?_) (fun g1 m2 z d2 f2 => ?_)
    · show (if _ then _ else _)
      rw [if_pos rfl]
      rcases u6 with ⟨g1, n2, ⟨j, s, t, a1, a2, a3, a4, a5⟩, -⟩ | ⟨-, h2, h3⟩
      · exact absurd a3 (z j a1 s a2 t)
      · show K (nI i) m2
        rw [show i = n0 by omega]
        exact kk m2 (by rw [h3]; exact d2) (frX_t u8 f2)
    · show (if _ then _ else _)
      rw [if_neg (by decide)]
      rcases u6 with ⟨g1', n2, h1, h2, h3⟩ | ⟨h1, -⟩
      · have e := One_det u1.r h1 z
        subst e
        obtain ⟨q1, q2, -⟩ := One_in u1 h1
        have el : seamL g1' an tol = seamL g an tol := by rw [seamL_E q2]
        exact k2 m2 ⟨g1', n2, q1, d2, cFd_E q2 (cFd_X u1.ple u3 f2), by rw [el]; exact cSm_E q2 (cSm_X u4 f2), by rw [el]; exact u5, h2, by omega, frX_t u8 f2⟩
      · obtain ⟨j, s, t, a1, a2, a3, a4, a5⟩ := z
        exact absurd a3 (h1 j a1 s a2 t)
theorem ronce_ok {m : Mm} {g : Vc} {an : Nat → Int32} {tol w : Int32} {K : Int32 → Mm → Prop} (hD : Dd g) (hs : stR m g) (hf : flatR m g (pn g)) (hF : fR m g an (pn g)) (hS : rSm m g an (seamL g an tol)) (hl : (seamL g an tol).length ≤ 720)
    (k0 : noC g an tol w (2 * (seamL g an tol).length) → K 0 m) (k1 : ∀ g1 m2, One g an tol w g1 → stR m2 g1 → (∀ b, b ≠ 427 → m2.1 b = m.1 b) → K 1 m2) : wp_X12_spreads w m K := by
  have hr := hD.r
  have hp1 := hD.ple
  unfold wp_X12_spreads
  refine loop_i (W := fun n i (_ : Unit) => wp_X12_spreads_l2 K w n (nI i) m) (I := fun i _ => noC g an tol w (2 * i)) (seamL g an tol).length ?_ ?_ FU 0 () (by omega) (FU_gt (by omega)) (fun j h => by omega)
  · rintro n - i1
    show wb_X12_spreads_l2 _ _ _ _ _
    unfold wb_X12_spreads_l2
    rw [hS.1, if_pos (ile (Nat.le_refl _) (by omega))]
    exact k0 i1
  · rintro n i - hi i1 k2
    show wb_X12_spreads_l2 _ _ _ _ _
    unfold wb_X12_spreads_l2
    rw [hS.1, if_neg (inle hi (by omega))]
    obtain ⟨s, es⟩ : ∃ s, (seamL g an tol)[i]? = some s := ⟨_, List.getElem?_eq_getElem hi⟩
    have wf := seam_at es
    obtain ⟨r0, r1, r2, r3, r4, r5, r6, r7, r8⟩ := hS.2 i s es
    refine loop_i (W := fun n2 v (_ : Unit) => wp_X12_spreads_l12 (fun a b => wp_X12_spreads_l2 K w n a b) K w (nI i) n2 (nI v) m) (I := fun v _ => noC g an tol w (2 * i + v)) 2 ?_ ?_ FU 0 () (by omega) (FU_gt (by omega)) i1
    · rintro n2 - j1
      show wb_X12_spreads_l12 _ _ _ _ _ _ _
      unfold wb_X12_spreads_l12
      rw [if_pos (show (2 : Int32) ≤ nI 2 from ile (a := 2) (by omega) (by omega)), nI_1]
      exact k2 () j1
    · rintro n2 v - hv j1 k3
      show wb_X12_spreads_l12 _ _ _ _ _ _ _
      unfold wb_X12_spreads_l12
      have hji : (2 * i + v) / 2 = i := by omega
      have es2 : (seamL g an tol)[(2 * i + v) / 2]? = some s := by rw [hji]; exact es
      obtain ⟨f1, f2, f3, f4, f5, -⟩ := seam_fin (b := bO (2 * i + v)) wf
      have bv : bO (2 * i + v) = decide (v = 1) := by
        unfold bO
        have : (2 * i + v) % 2 = v := by omega
        rw [this]
      have e4 : ((9 : Int32) * nI i + (2 : Int32) * nI v) = nI (9 * i + 2 * v) := by rw [show (9 : Int32) = nI 9 from rfl, show (2 : Int32) = nI 2 from rfl, nI_mul, nI_mul, nI_add]
      have e6 : ((9 : Int32) * nI i + (2 : Int32)) - (2 : Int32) * nI v = nI (9 * i + 2 - 2 * v) := by rw [show (9 : Int32) = nI 9 from rfl, show (2 : Int32) = nI 2 from rfl, nI_mul, nI_mul, nI_add, nI_sub (by omega)]
      have g4 : m.1 446 (9 * i + 2 * v) = nI (fK s (bO (2 * i + v))) := by
        rw [bv]
        unfold fK
        have : v = 0 ∨ v = 1 := by omega
        rcases this with z | z <;> subst z
        · exact r0
        · exact r2
      have g6 : m.1 446 (9 * i + 2 - 2 * v) = nI (tK s (bO (2 * i + v))) := by
        rw [bv]
        unfold tK
        have : v = 0 ∨ v = 1 := by omega
        rcases this with z | z <;> subst z
        · exact r2
        · exact r0
      rw [if_neg (show ¬ (2 : Int32) ≤ nI v from inle (a := 2) hv (by omega)), e4, e6, clamp_nI (by omega), clamp_nI (by omega), g4, g6, nI_1]
      refine ⟨vp_in_nI (by omega) (by omega), ?_⟩
      rintro y4 rfl
      refine ⟨vp_in_nI (by omega) (by omega), ?_⟩
      rintro y6 rfl
      refine ⟨sof7 (by omega), ?_⟩
      rw [of7 hs (by omega), of7 hs (by omega)]
      have knext : (∀ t, ¬ cnd g an w s (bO (2 * i + v)) t) → wp_X12_spreads_l12 (fun a b => wp_X12_spreads_l2 K w n a b) K w (nI i) n2 (nI (v + 1)) m := fun z => k3 () (noC_s es2 j1 z)
      by_cases z1 : pf g (fK s (bO (2 * i + v))) 7 = w
      · rw [if_pos z1]
        refine ⟨sof7 (by omega), ?_⟩
        by_cases z2 : pf g (tK s (bO (2 * i + v))) 7 = -9
        · rw [if_pos z2]
          refine ⟨sof6 (by omega), ?_⟩
          by_cases z3 : pf g (tK s (bO (2 * i + v))) 6 = -9
          · rw [if_pos ((isFlap_r hs (by omega)).mpr z3)]
            intro y14 h14
            have hb : y14 = 0 ↔ bO (2 * i + v) = false := by
              rw [h14, bv]
              by_cases z : v = 1
              · rw [z, if_pos (show nI 1 = (1 : Int32) from rfl), decide_eq_true rfl]; decide
              · rw [if_neg (show ¬ nI v = (1 : Int32) from ine (i := 1) z (by omega) (by omega)), decide_eq_false z]; decide
            refine rcont_ok hr hs hf hF hS hl es hb (fun z => ?_) (fun t m5 h0 st5 q5 => ?_)
            · show (if _ then _ else _)
              rw [if_pos rfl]
              exact knext (fun t q => z t q.2.2.2)
            · have h8 := h0.2.1
              have e9 : (-9 : Int32).toInt = -9 := rfl
              show (if _ then _ else _)
              rw [if_neg (show ¬ nI t = (-9 : Int32) from fun z => by have := congrArg Int32.toInt z; rw [nI_toInt (by omega)] at this; omega)]
              exact k1 _ m5 ⟨2 * i + v, s, t, by omega, es2, ⟨z1, z2, z3, h0⟩, j1, rfl⟩ st5 q5
          · rw [if_neg (fun z => z3 ((isFlap_r hs (by omega)).mp z))]
            exact knext (fun t q => z3 q.2.2.1)
        · rw [if_neg z2]
          exact knext (fun t q => z2 q.2.1)
      · rw [if_neg z1]
        exact knext (fun t q => z1 q.1)
theorem op_spreadImage {m : Mm} {S : AS} {x : Int32} {P : Int32 → Int32 → Mm → Prop} (h : Sim m S) (kk : ∀ r m2 S2, Sim m2 S2 → P r r m2) : wp_X11_spreadImage x m (fun r m1 => wp_X12_spreadImage x m1 (fun r2 m2 => P r r2 m2)) := by
  have hI := h.2.2
  have hC := h.2.1
  have hD := hI.1
  have hr := hD.r
  have hp := hD.ple
  have h4 := c_pc hC hI
  by_cases cx : 0 ≤ x.toInt ∧ x.toInt < pn (sg S)
  · obtain ⟨k, ek, ek2, -⟩ := asN cx.1
    have hk : k < pn (sg S) := by omega
    by_cases c7 : pf (sg S) k 7 = -9
    · refine combine (c := wp_X11_spreadImage x m) (d := wp_X12_spreadImage x) (r := -2) (S2 := S) h (fun K k1 => ?_) (fun m1 K hR k1 => ?_) hI kk
      · unfold wp_X11_spreadImage v_X3_bareFault
        rw [if_neg (fun q => (has_0 h4 hp).mp q cx), ek, panelAt_in (by omega), d_pf hC.1 hk (by omega) (by omega), if_pos c7]
        rintro y1 rfl
        rw [if_neg (by decide)]
        exact k1 _ hC (fun _ _ => rfl)
      · unfold wp_X12_spreadImage
        refine RB_begins hR (fun m2 hB => ?_)
        rw [if_neg (fun q => (isPanel_0 (RB_st hB) hD.g2 hp).mp q cx), ek, of7 (RB_st hB) (by omega), if_pos c7]
        exact ⟨sof7 (by omega), k1 _ (RB_stop hB) hB.2.2.2.2⟩
    · obtain ⟨n0, g2, hsp⟩ := SpR_ex (angM (sg S) (-1)) (sg S 125) (pf (sg S) k 7) 10 (sg S)
      obtain ⟨D2, G2, l2⟩ := SpR_in 10 hD hsp
      refine combine (c := wp_X11_spreadImage x m) (d := wp_X12_spreadImage x) (r := nI n0) (S2 := (g2, pushH (sh S) (sg S), S.2.2)) h (fun K k1 => ?_) (fun m1 K hR k1 => ?_) ?_ kk
      · unfold wp_X11_spreadImage v_X3_bareFault
        rw [if_neg (fun q => (has_0 h4 hp).mp q cx), ek, panelAt_in (by omega), d_pf hC.1 hk (by omega) (by omega), if_neg c7]
        rintro y1 rfl
        rw [if_pos rfl]
        refine cseams_ok hI hC (fun m2 f hF hS hl => ?_)
        have hC2 := ClsR_W hI hC f
        refine remember_ok hC2 hI (fun m6 C6 k6 => ?_)
        have o6 : frO m2 (fun b => if b < 33 ∨ 241 ≤ b then m6.1 b else m2.1 b, m6.2) := fun b hb => by
          show (if b < 33 ∨ 241 ≤ b then m6.1 b else m2.1 b) = m2.1 b
          by_cases w : b < 33 ∨ 241 ≤ b
          · rw [if_pos w, k6.1 b w]
          · rw [if_neg w]
        have F6 : cFd m6 (sg S) (angM (sg S) (-1)) := by
          refine ⟨by rw [k6.1 269 (by omega)]; exact hF.1, fun k hk => ?_⟩
          have h3 := hF.2 k hk
          unfold cF1 cP cL cS at h3 ⊢
          have e : ∀ b, b < 10 → m6.1 (283 + 10 * k + b) = m2.1 (283 + 10 * k + b) := fun b hb => k6.1 _ (by omega)
          have e0 : m6.1 (283 + 10 * k) = m2.1 (283 + 10 * k) := k6.1 _ (by omega)
          rw [e0, e 1 (by omega), e 2 (by omega), e 3 (by omega), e 4 (by omega), e 5 (by omega), e 6 (by omega), e 7 (by omega), e 8 (by omega), e 9 (by omega)]
          exact h3
        have S6 : cSm m6 (sg S) (angM (sg S) (-1)) (sg S 125) (seamL (sg S) (angM (sg S) (-1)) (sg S 125)) := by
          unfold cSm at hS ⊢
          rw [k6.1 268 (by omega), k6.1 383 (by omega), k6.1 384 (by omega), k6.1 385 (by omega), k6.1 386 (by omega), k6.1 387 (by omega)]
          exact hS
        rw [d_pf C6.1 hk (by omega) (by omega)]
        refine cspread_ok hD C6.1 F6 S6 hl hsp (fun m7 d7 f7 => ?_)
        have e7 : ∀ b, b = 0 ∨ 16 ≤ b → b ≠ 267 → b < 391 ∨ 395 ≤ b → m7.1 b = m6.1 b := fun b b0 b1 b2 => f7 b b0 b1 (by omega) (by omega) (by omega) (by omega)
        refine k1 _ (ClsR_des (S := (sg S, pushH (sh S) (sg S), S.2.2)) (hist_ok hI) hI.2.2.2.2.1 C6 d7 (limR_eq (limR_congr C6.2.1 (e7 265 (by omega) (by omega) (by omega)) (e7 266 (by omega) (by omega) (by omega))) (fun i hi => G2.2.2.2.2 i (by omega))) (fun b hb b0 _ _ => e7 b (by omega) (by unfold ccell at hb; omega) (by unfold ccell at hb; omega))) (fun b hb => ?_)
        rw [e7 b (by omega) (by omega) (by omega), k6.1 b (by omega), up_W f b hb]
      · unfold wp_X12_spreadImage
        refine RB_begins hR (fun m2 hB => ?_)
        rw [if_neg (fun q => (isPanel_0 (RB_st hB) hD.g2 hp).mp q cx), ek, of7 (RB_st hB) (by omega), if_neg c7, lim0_r (RB_st hB)]
        refine ⟨sof7 (by omega), lim0_s, rfind_ok hr (RB_st hB) (fun m3 m4 f q s1 s2 s3 hS hl => ?_)⟩
        have hB4 := RB_G hB (frG_FQ f q)
        refine loop_i (W := fun n i s5 => wp_X12_spreadImage_l40 _ K (nI k) n (nI i) s5) (I := fun i s5 => ∃ g n1, Dd g ∧ stR s5 g ∧ flatR s5 g (pn g) ∧ fR s5 g (angM (sg S) (-1)) (pn g) ∧ rSm s5 g (angM (sg S) (-1)) (seamL g (angM (sg S) (-1)) (sg S 125)) ∧ (seamL g (angM (sg S) (-1)) (sg S 125)).length ≤ 720 ∧ SpR (angM (sg S) (-1)) (sg S 125) (pf (sg S) k 7) (10 - i) g n1 g2 ∧ n0 = i + n1 ∧ pf g k 7 = pf (sg S) k 7 ∧ RB m1 s5 S g) 10 ?_ ?_ FU 0 m4 (by omega) (FU_gt (by omega)) ⟨sg S, n0, hD, s1, s2, s3, hS, hl, hsp, by omega, rfl, hB4⟩
        · rintro n s5 ⟨g, n1, u1, u2, u3, u4, u5, u5b, u6, u7, u8, u9⟩
          show wb_X12_spreadImage_l40 _ _ _ _ _ _
          unfold wb_X12_spreadImage_l40
          rw [if_pos (show (10 : Int32) ≤ nI 10 from ile (a := 10) (by omega) (by omega))]
          have h6 : n1 = 0 ∧ g2 = g := u6
          have e : n0 = 10 := by omega
          rw [← e]
          refine RB_ends hI (g := g2) (by rw [h6.2]; exact u9) (fun m6 r6 l6 => k1 _ r6 l6)
        · rintro n i s5 hi ⟨g, n1, u1, u2, u3, u4, u5, u5b, u6, u7, u8, u9⟩ k2
          show wb_X12_spreadImage_l40 _ _ _ _ _ _
          unfold wb_X12_spreadImage_l40
          have hpg : pn g ≤ 10 := u1.ple
          rw [if_neg (show ¬ (10 : Int32) ≤ nI i from inle (a := 10) hi (by omega)), of7 u2 (by omega), u8, nI_1]
          rw [show 10 - i = (10 - (i + 1)) + 1 by omega] at u6
          refine ⟨sof7 (by omega), ronce_ok u1 u2 u3 u4 u5 u5b (fun z => ?_) (fun g1 m6 z d6 f6 => ?_)⟩
          · show (if _ then _ else _)
            rw [if_pos rfl]
            rcases u6 with ⟨g1, n2, ⟨j, s, t, a1, a2, a3, a4, a5⟩, -⟩ | ⟨-, h2, h3⟩
            · exact absurd a3 (z j a1 s a2 t)
            · rw [show i = n0 by omega]
              exact RB_ends hI (g := g2) (by rw [h3]; exact u9) (fun m6 r6 l6 => k1 _ r6 l6)
          · show (if _ then _ else _)
            rw [if_neg (by decide)]
            rcases u6 with ⟨g1', n2, h1, h2, h3⟩ | ⟨h1, -⟩
            · have e := One_det u1.r h1 z
              subst e
              obtain ⟨q1, q2, q3⟩ := One_in u1 h1
              have el : seamL g1' (angM (sg S) (-1)) (sg S 125) = seamL g (angM (sg S) (-1)) (sg S 125) := by rw [seamL_E q2]
              have fq : frQ s5 (fun b => if b = 427 then s5.1 b else m6.1 b, m6.2) := fun b j hb1 hb2 => by
                show (if b = 427 then s5.1 b else m6.1 b) j = s5.1 b j
                by_cases w : b = 427
                · rw [if_pos w]
                · rw [if_neg w, f6 b w]
              have F6 : fR m6 g (angM (sg S) (-1)) (pn g) := fun k hk => by
                have h2 := u4 k hk
                unfold pR exR at h2 ⊢
                rw [f6 439 (by omega), f6 440 (by omega), f6 441 (by omega), f6 442 (by omega), f6 443 (by omega), f6 444 (by omega), f6 445 (by omega)]
                exact h2
              have T6 : flatR m6 g (pn g) := fun k hk => by rw [f6 432 (by omega), f6 433 (by omega), f6 434 (by omega), f6 435 (by omega)]; exact u3 k hk
              have R6 : rSm m6 g (angM (sg S) (-1)) (seamL g (angM (sg S) (-1)) (sg S 125)) := by
                unfold rSm at u5 ⊢
                rw [f6 426 (by omega), f6 446 (by omega)]
                exact u5
              exact k2 m6 ⟨g1', n2, q1, d6, flatR_E q2 T6, fR_E q2 F6, by rw [el]; exact rSm_E q2 R6, by rw [el]; exact u5b, h2, by omega, by rw [q3 k (by rw [u8]; exact c7), u8], RB_row u9 d6 f6⟩
            · obtain ⟨j, s, t, a1, a2, a3, a4, a5⟩ := z
              exact absurd a3 (h1 j a1 s a2 t)
      · exact Inv_push hI D2 (Ll_eq hI.2.1 (fun i hi => G2.2.2.2.2 i (by omega)))
  · refine combine (c := wp_X11_spreadImage x m) (d := wp_X12_spreadImage x) (r := -1) (S2 := S) h (fun K k1 => ?_) (fun m1 K hR k1 => ?_) hI kk
    · unfold wp_X11_spreadImage v_X3_bareFault
      rw [if_pos ((has_0 h4 hp).mpr cx)]
      rintro y1 rfl
      rw [if_neg (by decide)]
      exact k1 _ hC (fun _ _ => rfl)
    · unfold wp_X12_spreadImage
      refine RB_begins hR (fun m2 hB => ?_)
      rw [if_pos ((isPanel_0 (RB_st hB) hD.g2 hp).mpr cx)]
      exact k1 _ (RB_stop hB) hB.2.2.2.2
