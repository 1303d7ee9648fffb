/-! facing, crossings -/
theorem shr_k {v k : Nat} (hv : v < 2 ^ 31) (hk : k ≤ 10) : nI v >>> (nI k &&& 31) = nI (v / 2 ^ k) := by
  refine pk_shrN hv _ k ?_
  match k, hk with
  | 0, _ => decide
  | 1, _ => decide
  | 2, _ => decide
  | 3, _ => decide
  | 4, _ => decide
  | 5, _ => decide
  | 6, _ => decide
  | 7, _ => decide
  | 8, _ => decide
  | 9, _ => decide
  | 10, _ => decide
theorem shl_k {k : Nat} (hk : k ≤ 10) : (1 : Int32) <<< (nI k &&& 31) = nI (2 ^ k) := by
  match k, hk with
  | 0, _ => decide
  | 1, _ => decide
  | 2, _ => decide
  | 3, _ => decide
  | 4, _ => decide
  | 5, _ => decide
  | 6, _ => decide
  | 7, _ => decide
  | 8, _ => decide
  | 9, _ => decide
  | 10, _ => decide
theorem and_1 (n : Nat) : nI n &&& (1 : Int32) = nI (n % 2) := fa_mask n 1
theorem bit_N {v : Nat} (hv : v < 2 ^ 31) : bitOK (nI v) := fun k hk => by
  rw [shl_k (by omega), shr_k hv (by omega), and_1, fa_bit (by omega), Nat.testBit_eq_decide_div_mod_eq]
  have h2 : v / 2 ^ k % 2 < 2 := Nat.mod_lt _ (by omega)
  rw [show (nI (v / 2 ^ k % 2) = 1) ↔ v / 2 ^ k % 2 = 1 from nI_eq (b := 1) (by omega) (by omega)]
  exact ⟨fun z => of_decide_eq_false z, fun z => decide_eq_false z⟩
theorem op_facing {m : Mm} {S : AS} {x : Int32} {P : Int32 → Int32 → Mm → Prop} (h : Sim m S) (kk : ∀ r m2 S2, Sim m2 S2 → P r r m2) : wp_X11_facing x m (fun r m1 => wp_X12_facing x m1 (fun r2 m2 => P r r2 m2)) := by
  have hI := h.2.2
  have hC := h.2.1
  have hD := hI.1
  have hp := hD.ple
  have h4 := c_pc hC hI
  by_cases cx : 0 ≤ x.toInt ∧ x.toInt < pn (sg S)
  · obtain ⟨k, ek, ek2, -⟩ := asN cx.1
    have hk : k < pn (sg S) := by omega
    have ok := pose_ok (an := angM (sg S) (-1)) hD.r.par k hk
    refine combine (c := wp_X11_facing x m) (d := wp_X12_facing x) (r := nI (poseF (sg S) (angM (sg S) (-1)) k).2.2.1) (S2 := S) h (fun K k1 => ?_) (fun m1 K hR k1 => ?_) hI kk
    · unfold wp_X11_facing
      rw [if_neg (fun q => (has_0 h4 hp).mp q cx)]
      refine cfold_ok hD.r hC.1 (by omega) bit_all (fun m2 hF f => ?_)
      rw [ek, poseAt_in (by omega), (hF.2 k hk).1.1]
      exact k1 _ (ClsR_C hI hC f) (fun b hb => f b (by omega) (by omega))
    · unfold wp_X12_facing
      rw [if_neg (fun q => (isPanel_0 hR.st hD.g2 hp).mp q cx)]
      refine rfold_ok hD.r hR.st (fun m2 hF hf f => ?_)
      have na := nax_lt (an := angM (sg S) (-1)) hD.r.par hk
      obtain ⟨q1, q2, q3, q4⟩ := (hF k hk).1 (nax (sg S) (angM (sg S) (-1)) k) na
      have e3 : (3 : Int32) * nI k + nI (nax (sg S) (angM (sg S) (-1)) k) = nI (3 * k + nax (sg S) (angM (sg S) (-1)) k) := by rw [show (3 : Int32) = nI 3 from rfl, nI_mul, nI_add]
      rw [ek, clamp_nI (show k < 2 ^ 31 by omega), r_445 hF hk, e3, clamp_nI (by omega), q4]
      refine ⟨vp_in_nI (by omega) (by omega), vp_in_nI (by omega) (by omega), ?_⟩
      rintro y6 rfl
      have e : (2 : Int32) * nI (nax (sg S) (angM (sg S) (-1)) k) + (if 0 ≤ pt (poseF (sg S) (angM (sg S) (-1)) k).2.2.1 (nax (sg S) (angM (sg S) (-1)) k) then (0 : Int32) else 1) = nI (poseF (sg S) (angM (sg S) (-1)) k).2.2.1 := by
        unfold nax
        have h6 := ok.2.2.1
        generalize (poseF (sg S) (angM (sg S) (-1)) k).2.2.1 = d at h6
        rcases six h6 with z | z | z | z | z | z <;> subst z <;> decide
      rw [e]
      exact k1 _ (RefR_F hR f) (fun b hb => f b (by omega))
  · refine combine (c := wp_X11_facing x m) (d := wp_X12_facing x) (r := -1) (S2 := S) h (fun K k1 => ?_) (fun m1 K hR k1 => ?_) hI kk
    · unfold wp_X11_facing
      rw [if_pos ((has_0 h4 hp).mpr cx)]; exact k1 _ hC (fun _ _ => rfl)
    · unfold wp_X12_facing
      rw [if_pos ((isPanel_0 hR.st hD.g2 hp).mpr cx)]; exact k1 _ hR (fun _ _ => rfl)
/-- the number of pairs that cross -/
def xRow (g : Vc) (an : Nat → Int32) (t : Int32) (p : Nat) (s : Int32) : Int32 := ifo (fun q a => a + (if xCrs g an p q t ≤ 0 then 0 else 1)) s (p + 1) (pn g - (p + 1))
def xPairs (g : Vc) (an : Nat → Int32) (t : Int32) : Int32 := ifo (fun p a => xRow g an t p a) 0 0 (pn g - 0)
theorem cpairs_ok {m : Mm} {g : Vc} {an : Nat → Int32} {t : Int32} {K : Int32 → Mm → Prop} (hp : par g) (h : cFd m g an) (kk : K (xPairs g an t) m) : wp_X5_crossingPairs t m K := by
  have hp1 := hp.1
  unfold wp_X5_crossingPairs
  refine acc_loop (wp := fun n i s => wp_X5_crossingPairs_l4 K t n s i m) (a := 0) (N := pn g) (fun p a => xRow g an t p a) (by omega) (by omega) (fun n i h1 h2 => ?_) (fun n i s h1 h2 k1 => ?_)
  · show wb_X5_crossingPairs_l4 _ _ _ _ _ _
    unfold wb_X5_crossingPairs_l4
    rw [h.1, if_pos (ile h1 (by omega))]
    exact kk
  · show wb_X5_crossingPairs_l4 _ _ _ _ _ _
    unfold wb_X5_crossingPairs_l4
    rw [h.1, if_neg (inle h2 (by omega)), nI_1]
    rintro y2 rfl
    refine acc_loop (wp := fun n2 j s => wp_X5_crossingPairs_l17 (fun a b c => wp_X5_crossingPairs_l4 K t n a b c) K t (nI i) n2 s j m) (a := i + 1) (N := pn g) (fun q a => a + (if xCrs g an i q t ≤ 0 then 0 else 1)) (by omega) (by omega) (fun n2 j h3 h4 => ?_) (fun n2 j s2 h3 h4 k2 => ?_)
    · show wb_X5_crossingPairs_l17 _ _ _ _ _ _ _ _
      unfold wb_X5_crossingPairs_l17
      rw [h.1, if_pos (ile h3 (by omega))]
      exact k1
    · show wb_X5_crossingPairs_l17 _ _ _ _ _ _ _ _
      unfold wb_X5_crossingPairs_l17
      rw [h.1, if_neg (inle h4 (by omega)), c_crossing hp h2 h4 h]
      rintro y5 rfl y6 rfl
      exact k2
theorem rpairs_ok {m : Mm} {g : Vc} {made : Int32} {K : Int32 → Mm → Prop} (hr : rngD g) (h : stR m g) (kk : ∀ m2, frF m m2 → K (xPairs g (angM g made) (g 125)) m2) : wp_X12_crossingsBy made m K := by
  have hp := hr.par
  have hp1 := hp.1
  unfold wp_X12_crossingsBy
  refine rfold_ok hr h (fun m2 hF hf f => ?_)
  have h2 : stR m2 g := fun k hk => by rw [f 427 (by omega)]; exact h k hk
  have hl : v_X12_limitOf 0 m2 = g 125 := h2 125 (by omega)
  have hs : s_X12_limitOf 0 := vp_in_nI (n := 125) (by omega) (by omega)
  have k3 := kk m2 f
  refine acc_loop (wp := fun n i s => wp_X12_crossingsBy_l9 K n s i m2) (a := 0) (N := pn g) (fun p a => xRow g (angM g made) (g 125) p a) (by omega) (by omega) (fun n i h1 h2' => ?_) (fun n i s h1 h2' k1 => ?_)
  · show wb_X12_crossingsBy_l9 _ _ _ _ _
    unfold wb_X12_crossingsBy_l9
    rw [many_ok h2 hp.2.1, if_pos (ile h1 (by omega))]
    exact k3
  · show wb_X12_crossingsBy_l9 _ _ _ _ _
    unfold wb_X12_crossingsBy_l9
    rw [many_ok h2 hp.2.1, if_neg (inle h2' (by omega)), nI_1]
    rintro y2 rfl
    refine acc_loop (wp := fun n2 j s => wp_X12_crossingsBy_l22 (fun a b c => wp_X12_crossingsBy_l9 K n a b c) K (nI i) n2 s j m2) (a := i + 1) (N := pn g) (fun q a => a + (if xCrs g (angM g made) i q (g 125) ≤ 0 then 0 else 1)) (by omega) (by omega) (fun n2 j h3 h4 => ?_) (fun n2 j s2 h3 h4 k2 => ?_)
    · show wb_X12_crossingsBy_l22 _ _ _ _ _ _ _
      unfold wb_X12_crossingsBy_l22
      rw [many_ok h2 hp.2.1, if_pos (ile h3 (by omega))]
      exact k1
    · show wb_X12_crossingsBy_l22 _ _ _ _ _ _ _
      unfold wb_X12_crossingsBy_l22
      obtain ⟨v1, v2⟩ := r_crossing (t := g 125) hF hp h2' h4
      rw [many_ok h2 hp.2.1, if_neg (inle h4 (by omega)), hl, v1]
      refine ⟨hs, v2, ?_⟩
      rintro y5 rfl y6 rfl
      exact k2
