/-! corner, facing -/
theorem mn_least (a b : Int32) : mn32 a b = v_X12_least a b := by
  unfold mn32 v_X12_least
  by_cases h : b < a
  · rw [if_pos h, if_pos (by rw [fa_lt] at h; rw [fa_le]; omega)]
  · rw [if_neg h]
    by_cases h2 : b ≤ a
    · rw [if_pos h2]; rw [fa_lt] at h; rw [fa_le] at h2; rw [fa_eq]; omega
    · rw [if_neg h2]
theorem mx_most (a b : Int32) : mx32 a b = v_X12_most a b := by
  unfold mx32 v_X12_most
  by_cases h : a < b
  · rw [if_pos h, if_pos (by rw [fa_lt] at h; rw [fa_le]; omega)]
  · rw [if_neg h]
    by_cases h2 : a ≤ b
    · rw [if_pos h2]; rw [fa_lt] at h; rw [fa_le] at h2; rw [fa_eq]; omega
    · rw [if_neg h2]
theorem pcor_2 (g : Vc) (an : Nat → Int32) (k c : Nat) : pcor (poseF g an k) (rect g k).2.2.1 (rect g k).2.2.2 2 c = pend g an k c := rfl
theorem bit_all : bitOK (-1) := fun k hk => by
  match k, hk with
  | 0, _ => decide
  | 1, _ => decide
  | 2, _ => decide
  | 3, _ => decide
  | 4, _ => decide
  | 5, _ => decide
  | 6, _ => decide
  | 7, _ => decide
  | 8, _ => decide
  | 9, _ => decide
theorem RefR_F {m m2 : Mm} {S : AS} (h : RefR m S) (f : frF m m2) : RefR m2 S :=
  RefR_congr h (by rw [f 426 (by omega)]) (by rw [f 426 (by omega)]) (by rw [f 426 (by omega)]) (fun b hb => f b (by unfold rcell at hb; omega))
theorem ClsR_C {m m2 : Mm} {S : AS} (hI : Inv S) (h : ClsR m S) (f : frC m m2) : ClsR m2 S := ClsR_congr hI h (fun b hb => f b (by unfold ccell at hb; omega) (by unfold ccell at hb; omega))
theorem op_corner {m : Mm} {S : AS} {x y z : Int32} {P : Int32 → Int32 → Mm → Prop} (h : Sim m S) (kk : ∀ r m2 S2, Sim m2 S2 → P r r m2) : wp_X11_corner x y z m (fun r m1 => wp_X12_corner x y z m1 (fun r2 m2 => P r r2 m2)) := by
  have hI := h.2.2
  have hC := h.2.1
  have hD := hI.1
  have hp := hD.ple
  have h4 := c_pc hC hI
  have a0 : (0 : Int32).toInt = 0 := rfl
  have a2 : (2 : Int32).toInt = 2 := rfl
  have a3 : (3 : Int32).toInt = 3 := rfl
  by_cases c1 : (0 ≤ x.toInt ∧ x.toInt < pn (sg S)) ∧ (0 ≤ y.toInt ∧ y.toInt ≤ 3) ∧ (0 ≤ z.toInt ∧ z.toInt ≤ 2)
  · obtain ⟨cx, cy, cz⟩ := c1
    obtain ⟨k, ek, ek2, -⟩ := asN cx.1
    obtain ⟨n, en, en2, -⟩ := asN cy.1
    obtain ⟨c, ec, ec2, -⟩ := asN cz.1
    have hk : k < pn (sg S) := by omega
    refine combine (c := wp_X11_corner x y z m) (d := wp_X12_corner x y z) (r := pcor (poseF (sg S) (angM (sg S) (-1)) k) (rect (sg S) k).2.2.1 (rect (sg S) k).2.2.2 n c) (S2 := S) h (fun K k1 => ?_) (fun m1 K hR k1 => ?_) hI kk
    · unfold wp_X11_corner
      rw [if_neg (fun q => (has_0 h4 hp).mp q cx), if_neg (by rw [fa_lt]; omega), if_neg (by rw [fa_lt]; omega), if_neg (by rw [fa_lt]; omega), if_pos (by rw [fa_le]; omega)]
      refine cfold_ok hD.r hC.1 (by omega) bit_all (fun m2 hF f => ?_)
      rw [ek, en, ec, poseAt_in (by omega), cornerAt_ok (hF.2 k hk).1 (pose_ok hD.r.par k hk) (by omega) (by omega)]
      exact k1 _ (ClsR_C hI hC f) (fun b hb => f b (by omega) (by omega))
    · unfold wp_X12_corner
      rw [if_neg (fun q => (isPanel_0 hR.st hD.g2 hp).mp q cx), if_neg (in_ne (by omega) (by omega)), if_neg (in_ne (by omega) (by omega))]
      refine rfold_ok hD.r hR.st (fun m2 hF hf f => ?_)
      obtain ⟨q1, q2, q3, q4⟩ := (hF k hk).1 c (by omega)
      obtain ⟨f1, f2, f3, f4⟩ := hf k hk
      have e3 : (3 : Int32) * nI k + nI c = nI (3 * k + c) := by rw [show (3 : Int32) = nI 3 from rfl, nI_mul, nI_add]
      have e : v_X12_cornerOf (nI k) (nI n) (nI c) m2 = pcor (poseF (sg S) (angM (sg S) (-1)) k) (rect (sg S) k).2.2.1 (rect (sg S) k).2.2.2 n c := by
        unfold v_X12_cornerOf pcor
        rw [e3, clamp_nI (show 3 * k + c < 2 ^ 31 by omega), clamp_nI (show k < 2 ^ 31 by omega), q1, q2, q3, f3, f4]
        rcases side4 (show n < 4 by omega) with w | w | w | w <;> subst w <;> rfl
      rw [ek, en, ec, e]
      refine ⟨?_, k1 _ (RefR_F hR f) (fun b hb => f b (by omega))⟩
      unfold s_X12_cornerOf
      rw [e3]
      exact ⟨vp_in_nI (by omega) (by omega), ⟨fun _ => vp_in_nI (by omega) (by omega), fun _ _ => vp_in_nI (by omega) (by omega)⟩, fun _ => vp_in_nI (by omega) (by omega)⟩
  · refine combine (c := wp_X11_corner x y z m) (d := wp_X12_corner x y z) (r := -1) (S2 := S) h (fun K k1 => ?_) (fun m1 K hR k1 => ?_) hI kk
    · have k2 := k1 _ hC (fun _ _ => rfl)
      unfold wp_X11_corner
      by_cases q1 : 0 ≤ x.toInt ∧ x.toInt < pn (sg S)
      · rw [if_neg (fun q => (has_0 h4 hp).mp q q1)]
        by_cases q2 : y < 0
        · rw [if_pos q2]; exact k2
        rw [if_neg q2]
        by_cases q3 : 3 < y
        · rw [if_pos q3]; exact k2
        rw [if_neg q3]
        by_cases q4 : z < 0
        · rw [if_pos q4]; exact k2
        rw [if_neg q4]
        rw [fa_lt] at q2 q3 q4
        rw [if_neg (by rw [fa_le]; omega)]; exact k2
      · rw [if_pos ((has_0 h4 hp).mpr q1)]; exact k2
    · have k2 := k1 _ hR (fun _ _ => rfl)
      unfold wp_X12_corner
      by_cases q1 : 0 ≤ x.toInt ∧ x.toInt < pn (sg S)
      · rw [if_neg (fun q => (isPanel_0 hR.st hD.g2 hp).mp q q1)]
        by_cases q2 : 0 ≤ y.toInt ∧ y.toInt ≤ 3
        · rw [if_neg (in_ne (by omega) (by omega)), if_pos (in_0 (by omega))]; exact k2
        · rw [if_pos (in_0 (by omega))]; exact k2
      · rw [if_pos ((isPanel_0 hR.st hD.g2 hp).mpr q1)]; exact k2
