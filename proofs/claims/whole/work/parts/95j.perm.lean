/-! class and reference find the same, in another order; counts and sums -/
theorem cnt_flL (x : Fnd) (X : Nat → List Fnd) (a : Nat) : ∀ n, (flL X a n).count x = fb_sm (fun i => (X (a + i)).count x) n := by
  intro n
  induction n with
  | zero => rfl
  | succ n ih =>
    show (flL X a n ++ X (a + n)).count x = _
    rw [List.count_append, ih, fb_sm_succ]
theorem reach_0 {g : Vc} {k s : Nat} (h : aShow g k = 0) : aReach g k (nI s) = -9 := by unfold aReach; rw [if_pos h]
theorem sW_0 {g : Vc} (hl : Ll g) {k s : Nat} (h : aShow g k = 0) : sW g k s ≤ 0 := by
  obtain ⟨l1, l2⟩ : inR (g 126) 0 20 := hl.1 1 (by omega)
  have e9 : (-9 : Int32).toInt = -9 := rfl
  have e0 : (0 : Int32).toInt = 0 := rfl
  unfold sW
  rw [reach_0 h, fa_le]
  have := mn_t (-9) (g 126)
  split at this <;> omega
theorem SDS_0 {g : Vc} (hl : Ll g) {k s : Nat} (h : aShow g k = 0) : BL g k s = [] ∧ BY g k s = [] ∧ INs g k s = [] := by
  refine ⟨?_, ?_, ?_⟩
  · unfold BL; rw [if_pos (reach_0 h)]
  · unfold BY; rw [if_pos (sW_0 hl h)]
  · unfold INs; rw [if_pos (sW_0 hl h)]
theorem RK_cnt {g : Vc} (hl : Ll g) (x : Fnd) (k : Nat) : (RK g k).count x = (CK g k).count x + (PRS g k).count x := by
  have eS : (if aShow g k = 0 then [] else flL (SDS g k) 0 4).count x = fb_sm (fun i => (BL g k i).count x) 4 + (fb_sm (fun i => (BY g k i).count x) 4 + fb_sm (fun i => (INs g k i).count x) 4) := by
    by_cases z : aShow g k = 0
    · rw [if_pos z]
      have e1 : fb_sm (fun i => (BL g k i).count x) 4 = 0 := by rw [fb_sm_cong (g := fun _ => 0) (fun i _ => by rw [(SDS_0 hl z).1]; rfl), fb_sm_const]
      have e2 : fb_sm (fun i => (BY g k i).count x) 4 = 0 := by rw [fb_sm_cong (g := fun _ => 0) (fun i _ => by rw [(SDS_0 hl z).2.1]; rfl), fb_sm_const]
      have e3 : fb_sm (fun i => (INs g k i).count x) 4 = 0 := by rw [fb_sm_cong (g := fun _ => 0) (fun i _ => by rw [(SDS_0 hl z).2.2]; rfl), fb_sm_const]
      rw [e1, e2, e3]; rfl
    · rw [if_neg z, cnt_flL, ← fb_sm_add, ← fb_sm_add]
      refine fb_sm_cong (fun i _ => ?_)
      unfold SDS
      rw [List.count_append, List.count_append, Nat.zero_add]
  unfold RK CK
  rw [List.count_append, List.count_append, List.count_append, List.count_append, eS, cnt_flL]
  unfold FLP
  by_cases z : pf g k 6 = -9
  · rw [if_pos z, if_pos z, if_pos z, cnt_flL]
    have e : fb_sm (fun i => (RSD g k (0 + i)).count x) 4 = fb_sm (fun i => (OPn g k (0 + i)).count x) 4 + (fb_sm (fun i => (BL g k i).count x) 4 + (fb_sm (fun i => (BY g k i).count x) 4 + fb_sm (fun i => (INs g k i).count x) 4)) := by
      rw [← fb_sm_add, ← fb_sm_add, ← fb_sm_add]
      refine fb_sm_cong (fun i _ => ?_)
      unfold RSD
      rw [if_pos z, List.count_append, List.count_append, List.count_append, Nat.zero_add]
      omega
    rw [e]
    show _ + 0 + 0 + _ = _
    omega
  · rw [if_neg z, if_neg z, if_neg z, List.count_append]
    have eb : fb_sm (fun i => (BL g k i).count x) 4 = 0 := by
      rw [fb_sm_cong (g := fun _ => 0) (fun i _ => ?_), fb_sm_const]
      unfold BL
      split
      · rfl
      · rfl
    have e : fb_sm (fun i => (RSD g k (0 + i)).count x) 4 = fb_sm (fun i => (BY g k i).count x) 4 + fb_sm (fun i => (INs g k i).count x) 4 := by
      rw [← fb_sm_add]
      refine fb_sm_cong (fun i _ => ?_)
      unfold RSD
      rw [if_neg z, List.count_append, List.count_append, Nat.zero_add]
      show 0 + _ = _
      omega
    rw [e, eb]
    omega
theorem CL_perm {g : Vc} (hl : Ll g) : (CL g).Perm (RLs g) := by
  rw [List.perm_iff_count]
  intro x
  unfold CL RLs
  rw [List.count_append, List.count_append, List.count_append, cnt_flL, cnt_flL, cnt_flL x (RK g), ← fb_sm_add]
  congr 1
  exact fb_sm_cong (fun i _ => by rw [RK_cnt hl x (0 + i)]; omega)
theorem CL_ok {g : Vc} (hD : Dd g) (hl : Ll g) : ∀ x ∈ CL g, fdOk g x := by
  have hr := hD.r
  have hp1 := hD.ple
  unfold CL
  intro x hx
  rw [List.mem_append, List.mem_append] at hx
  rcases hx with (hx | hx) | hx
  · refine flL_mem (fun p _ hp => ?_) x hx
    unfold PRS
    refine flL_mem (fun q hq hq2 => ?_)
    intro y hy
    unfold PRp at hy
    rw [List.mem_append] at hy
    rcases hy with hy | hy
    · exact em_mem hl (by omega) (by omega) (by omega) (by omega) (crs_b hr (by omega) (by omega) _) y hy
    · unfold DBp at hy
      split at hy
      · cases hy
      · split at hy
        · cases hy
        · exact em_mem hl (by omega) (by omega) (by omega) (by omega) (dbl_b hr (by omega) (by omega) _).2 y hy
  · refine flL_mem (fun k _ hk => ?_) x hx
    rw [Nat.zero_add] at hk
    intro y hy
    unfold CK at hy
    rw [List.mem_append] at hy
    rcases hy with hy | hy
    · unfold FLP at hy
      split at hy
      · refine flL_mem (P := fdOk g) (fun s _ hs => ?_) y hy
        have ub := xOpn_le (an := fA g) (tol := g 125) (d := s) hr hk
        exact em_mem hl (by omega) (by omega) (by omega) (by omega) (by rw [nI_toInt (by omega)]; omega)
      · next z =>
        rw [List.mem_append] at hy
        rcases hy with hy | hy
        · obtain ⟨t1, t2⟩ := tgt_e hr hk z
          exact em_mem hl (by omega) (by omega) (by omega) (by omega) (glu_b hr hl hk z) y hy
        · unfold INK at hy
          split at hy
          · cases hy
          · exact em_mem hl (by omega) (by omega) (by omega) (by omega) (ink_b hr hl hk) y hy
    · split at hy
      · cases hy
      · refine flL_mem (P := fdOk g) (fun s _ hs => ?_) y hy
        intro w hw
        unfold SDS at hw
        rw [List.mem_append, List.mem_append] at hw
        rcases hw with hw | hw | hw
        · unfold BL at hw
          split at hw
          · cases hw
          · next z1 =>
            split at hw
            · split at hw
              · cases hw
              · exact em_mem hl (by omega) (by omega) (by omega) (by omega) (bl_b hl z1) w hw
            · cases hw
        · unfold BY at hw
          split at hw
          · cases hw
          · next z1 => exact em_mem hl (by omega) (by omega) (by omega) (by omega) (bey_b hD hl hk (Decidable.byContradiction fun q => z1 (sW_pos.mpr q))) w hw
        · unfold INs at hw
          split at hw
          · cases hw
          · next z1 =>
            refine flL_mem (P := fdOk g) (fun o _ ho => ?_) w hw
            intro v hv
            unfold INo at hv
            split at hv
            · cases hv
            · split at hv
              · cases hv
              · split at hv
                · cases hv
                · exact em_mem hl (by omega) (by omega) (by omega) (by omega) (ins_b hr hl hk (by omega) (Decidable.byContradiction fun q => z1 (sW_pos.mpr q))) v hv
  · refine flL_mem (P := fdOk g) (fun i _ hi => ?_) x hx
    intro y hy
    unfold BRs at hy
    split at hy
    · cases hy
    · next s es =>
      unfold BR1 at hy
      split at hy
      · cases hy
      · obtain ⟨w1, w2, w3, w4, -⟩ := seam_at es
        exact em_mem hl (by omega) (by omega) (by omega) (by omega) (mis_b hr (seam_at es)) y hy
theorem cst_b {g : Vc} {x : Fnd} (h : fdOk g x) : cst g x ≤ 810000 := by
  obtain ⟨-, -, -, -, -, h6, -, h8⟩ := h
  have : wg g x.1 * x.2.2.2.2 ≤ 9 * 90000 := Nat.mul_le_mul h8 h6
  exact this
theorem shr_L {n k : Nat} (s : Int64) (hs : (s.toBitVec.smod 64).toNat = k) (hn : n < 2 ^ 60) : lN n >>> s = lN (n / 2 ^ k) := by
  have h1 : (lN n).toInt = n := lg_ofNat_toInt (by omega)
  have h2 : (lN (n / 2 ^ k)).toInt = ((n / 2 ^ k : Nat) : Int) := lg_ofNat_toInt (by have := Nat.div_le_self n (2 ^ k); omega)
  rw [fa_eq64, Jvm.Kit.i64_shr _ _ hs, h1, h2]
  exact (Int.natCast_ediv n (2 ^ k)).symm
theorem key_b {g : Vc} {x : Fnd} (h : fdOk g x) : lowN x < 16384 ∧ keyN g x < 2 ^ 40 := by
  obtain ⟨h1, h2, h3, h4, -⟩ := h
  have e : lowN x = 2048 * x.1 + 128 * x.2.1 + 16 * x.2.2.1 + x.2.2.2.1 := rfl
  have e2 : keyN g x = 16384 * (1048576 - cst g x) + lowN x := rfl
  exact ⟨by omega, by omega⟩
theorem dec_k {g : Vc} {x : Fnd} (h : fdOk g x) : v_X4_kindOf (lN (keyN g x)) = nI x.1 ∧ v_X4_panelOf (lN (keyN g x)) = nI x.2.1 ∧ v_X4_sideOf (lN (keyN g x)) = cdI x.2.2.1 ∧ v_X4_otherOf (lN (keyN g x)) = cdI x.2.2.2.1 ∧ v_X4_costOf (lN (keyN g x)) = nI (cst g x) := by
  obtain ⟨k1, k2⟩ := key_b h
  have cb := cst_b h
  obtain ⟨h1, h2, h3, h4, -⟩ := h
  have e : lowN x = 2048 * x.1 + 128 * x.2.1 + 16 * x.2.2.1 + x.2.2.2.1 := rfl
  have e2 : keyN g x = 16384 * (1048576 - cst g x) + lowN x := rfl
  have kb : keyN g x < 2 ^ 60 := by omega
  have dc : ∀ c, c < 12 → (if nI c = (0 : Int32) then (-9 : Int32) else nI c - 1) = cdI c := fun c hc => by
    unfold cdI
    by_cases z : c = 0
    · rw [if_pos z, z, if_pos (show nI 0 = (0 : Int32) from rfl)]
    · rw [if_neg z, if_neg (show ¬ nI c = (0 : Int32) from ine (i := 0) z (by omega) (by omega))]
      exact nI_sub (b := 1) (by omega)
  refine ⟨?_, ?_, ?_, ?_, ?_⟩
  · unfold v_X4_kindOf
    rw [shr_L (k := 11) _ (by decide) kb, lN_i, show nI (keyN g x / 2 ^ 11) &&& 7 = nI (keyN g x / 2 ^ 11 % 2 ^ 3) from fa_mask _ 3]
    congr 1
    omega
  · unfold v_X4_panelOf
    rw [shr_L (k := 7) _ (by decide) kb, lN_i, show nI (keyN g x / 2 ^ 7) &&& 15 = nI (keyN g x / 2 ^ 7 % 2 ^ 4) from fa_mask _ 4]
    congr 1
    omega
  · unfold v_X4_sideOf
    rw [shr_L (k := 4) _ (by decide) kb, lN_i, show nI (keyN g x / 2 ^ 4) &&& 7 = nI (keyN g x / 2 ^ 4 % 2 ^ 3) from fa_mask _ 3, show keyN g x / 2 ^ 4 % 2 ^ 3 = x.2.2.1 by omega]
    exact dc _ (by omega)
  · unfold v_X4_otherOf
    rw [lN_i, show nI (keyN g x) &&& 15 = nI (keyN g x % 2 ^ 4) from fa_mask _ 4, show keyN g x % 2 ^ 4 = x.2.2.2.1 by omega]
    exact dc _ (by omega)
  · unfold v_X4_costOf
    rw [shr_L (k := 14) _ (by decide) kb, show keyN g x / 2 ^ 14 = 1048576 - cst g x by omega, show (1048576 : Int64) = lN 1048576 from rfl, lN_sub (by omega), lN_i]
    congr 1
    omega
theorem RefR_H {m m2 : Mm} {S : AS} (h : RefR m S) (f : frH m m2) : RefR m2 S :=
  RefR_congr h (f 426 4 (by omega)) (f 426 12 (by omega)) (f 426 13 (by omega)) (fun b hb => funext fun j => f b j (by unfold rcell at hb; omega))
theorem low_H {m m2 : Mm} (f : frH m m2) : ∀ b, b < 426 → m2.1 b = m.1 b := fun b hb => funext fun j => f b j (Or.inl hb)
theorem ClsR_Z {m m2 : Mm} {S : AS} (hI : Inv S) (h : ClsR m S) (f : frZ m m2) : ClsR m2 S := ClsR_congr hI h (fun b hb => f b (by unfold ccell at hb; omega))
theorem up_Z {m m2 : Mm} (f : frZ m m2) : ∀ b, 426 ≤ b → m2.1 b = m.1 b := fun b hb => f b (by omega)
theorem op_findingCount {m : Mm} {S : AS} {P : Int32 → Int32 → Mm → Prop} (h : Sim m S) (kk : ∀ r m2 S2, Sim m2 S2 → P r r m2) : wp_X11_findingCount m (fun r m1 => wp_X12_findingCount m1 (fun r2 m2 => P r r2 m2)) := by
  have hI := h.2.2
  have hC := h.2.1
  refine combine (c := wp_X11_findingCount m) (d := wp_X12_findingCount) (r := nI (CL (sg S)).length) (S2 := S) h (fun K k1 => ?_) (fun m1 K hR k1 => ?_) hI kk
  · unfold wp_X11_findingCount
    refine collect_ok hI.1 hI.2.1 (by omega) hC.1 hC.2.1 (fun m2 c _ f => ?_)
    rw [c.1]
    exact k1 _ (ClsR_Z hI hC f) (up_Z f)
  · unfold wp_X12_findingCount
    refine rall_ok hI.1 hI.2.1 hR.st (fun m2 c _ f => ?_)
    rw [c.1, ← (CL_perm hI.2.1).length_eq]
    exact k1 _ (RefR_H hR f) (low_H f)
def sumP (g : Vc) (f : Fnd → Bool) (l : List Fnd) : Nat := (l.map (fun x => if f x then cst g x else 0)).sum
theorem sumP_take (g : Vc) (f : Fnd → Bool) (l : List Fnd) {i : Nat} {x : Fnd} (h : l[i]? = some x) : sumP g f (l.take (i + 1)) = sumP g f (l.take i) + (if f x then cst g x else 0) := by
  unfold sumP
  rw [List.take_add_one, h, List.map_append, List.sum_append]
  simp
theorem rcosts_ok {g : Vc} {m : Mm} {x : Int32} {f : Fnd → Bool} {K : Int64 → Mm → Prop} (hD : Dd g) (hl : Ll g) (hs : stR m g) (hf : ∀ y, fdOk g y → (f y = true ↔ (x = -9 ∨ nI y.2.1 = x ∨ cdI y.2.2.2.1 = x))) (kk : ∀ m2, frH m m2 → K (lN (sumP g f (RLs g))) m2) : wp_X12_costs x m K := by
  unfold wp_X12_costs
  refine rall_ok hD hl hs (fun m2 c hle fr => ?_)
  refine loop_i (W := fun n i (y : Int64) => wp_X12_costs_l9 _ K x n y (nI (6 * i)) m2) (I := fun i y => y = lN (sumP g f ((RLs g).take i))) (RLs g).length ?_ ?_ FU 0 0 (by omega) (FU_gt (by omega)) rfl
  · rintro n y rfl
    show wb_X12_costs_l9 _ _ _ _ _ _ _
    unfold wb_X12_costs_l9
    rw [c.1, show (6 : Int32) * nI (RLs g).length = nI (6 * (RLs g).length) from nI_mul 6 _, if_pos (ile (Nat.le_refl _) (by omega)), List.take_length]
    exact kk m2 fr
  · rintro n i y hi rfl k2
    show wb_X12_costs_l9 _ _ _ _ _ _ _
    unfold wb_X12_costs_l9
    obtain ⟨z, ez⟩ : ∃ z, (RLs g)[i]? = some z := ⟨_, List.getElem?_eq_getElem hi⟩
    have zok := CL_ok hD hl z ((CL_perm hl).symm.mem_iff.mp (List.mem_of_getElem? ez))
    obtain ⟨r0, r1, r2, r3, r4, r5⟩ := c.2 i z ez
    have ev : ∀ a : Nat, a < 6 → vp_in (nI (6 * i + a)) 9600 := fun a ha => vp_in_nI (by omega) (by omega)
    have cb := cst_b zok
    rw [c.1, show (6 : Int32) * nI (RLs g).length = nI (6 * (RLs g).length) from nI_mul 6 _, if_neg (inle (by omega) (by omega)), show nI (6 * i) + (5 : Int32) = nI (6 * i + 5) from nI_add _ 5, show nI (6 * i) + (1 : Int32) = nI (6 * i + 1) from nI_add _ 1, show nI (6 * i) + (3 : Int32) = nI (6 * i + 3) from nI_add _ 3, show nI (6 * i) + (6 : Int32) = nI (6 * (i + 1)) from nI_add _ 6, clamp_nI (by omega), clamp_nI (by omega), clamp_nI (by omega), r5, r1, r3, wide_nI (by omega)]
    refine ⟨⟨fun _ => ev 5 (by omega), fun _ => ⟨ev 1 (by omega), fun _ => ev 5 (by omega), fun _ => ⟨ev 3 (by omega), fun _ => ev 5 (by omega)⟩⟩⟩, ?_⟩
    rintro y12 h12 y13 rfl
    refine k2 _ ?_
    rw [sumP_take g f _ ez, ← lN_add]
    congr 1
    rw [h12]
    have hfz := hf z zok
    by_cases q1 : x = -9
    · rw [if_pos q1, if_pos (hfz.mpr (Or.inl q1))]
    · rw [if_neg q1]
      by_cases q2 : nI z.2.1 = x
      · rw [if_pos q2, if_pos (hfz.mpr (Or.inr (Or.inl q2)))]
      · rw [if_neg q2]
        by_cases q3 : cdI z.2.2.2.1 = x
        · rw [if_pos q3, if_pos (hfz.mpr (Or.inr (Or.inr q3)))]
        · rw [if_neg q3, if_neg (fun q => by rcases hfz.mp q with w | w | w; exact q1 w; exact q2 w; exact q3 w)]
          rfl
theorem sumP_perm {g : Vc} (hl : Ll g) (f : Fnd → Bool) : sumP g f (RLs g) = sumP g f (CL g) := ((CL_perm hl).symm.map _).sum_nat
theorem sumP_all (g : Vc) (l : List Fnd) : sumP g (fun _ => true) l = sumC g l := by unfold sumP sumC; simp
theorem op_totalCost {m : Mm} {S : AS} {P : Int64 → Int64 → Mm → Prop} (h : Sim m S) (kk : ∀ r m2 S2, Sim m2 S2 → P r r m2) : wp_X11_totalCost m (fun r m1 => wp_X12_totalCost m1 (fun r2 m2 => P r r2 m2)) := by
  have hI := h.2.2
  have hC := h.2.1
  refine combineL (c := wp_X11_totalCost m) (d := wp_X12_totalCost) (r := lN (sumC (sg S) (CL (sg S)))) (S2 := S) h (fun K k1 => ?_) (fun m1 K hR k1 => ?_) hI kk
  · unfold wp_X11_totalCost
    refine collect_ok hI.1 hI.2.1 (by omega) hC.1 hC.2.1 (fun m2 c _ f => ?_)
    rw [c.2.1]
    exact k1 _ (ClsR_Z hI hC f) (up_Z f)
  · unfold wp_X12_totalCost
    refine rcosts_ok (f := fun _ => true) hI.1 hI.2.1 hR.st (fun y _ => ⟨fun _ => Or.inl rfl, fun _ => rfl⟩) (fun m2 f => ?_)
    rw [sumP_perm hI.2.1, sumP_all]
    exact k1 _ (RefR_H hR f) (low_H f)
theorem op_panelCost {m : Mm} {S : AS} {x : Int32} {P : Int64 → Int64 → Mm → Prop} (h : Sim m S) (kk : ∀ r m2 S2, Sim m2 S2 → P r r m2) : wp_X11_panelCost x m (fun r m1 => wp_X12_panelCost x m1 (fun r2 m2 => P r r2 m2)) := by
  have hI := h.2.2
  have hC := h.2.1
  have hD := hI.1
  have hp := hD.ple
  have h4 := c_pc hC hI
  by_cases cx : 0 ≤ x.toInt ∧ x.toInt < pn (sg S)
  · obtain ⟨k, ek, ek2, -⟩ := asN cx.1
    have e9 : (-9 : Int32).toInt = -9 := rfl
    have x9 : ¬ x = -9 := fun q => by rw [q] at cx; omega
    refine combineL (c := wp_X11_panelCost x m) (d := wp_X12_panelCost x) (r := lN (sumP (sg S) (fun y => decide (nI y.2.1 = x) || decide (cdI y.2.2.2.1 = x)) (CL (sg S)))) (S2 := S) h (fun K k1 => ?_) (fun m1 K hR k1 => ?_) hI kk
    · unfold wp_X11_panelCost
      rw [if_neg (fun q => (has_0 h4 hp).mp q cx)]
      refine collect_ok hI.1 hI.2.1 (by omega) hC.1 hC.2.1 (fun m2 c hle f => ?_)
      unfold wp_X4_sumAbout
      refine loop_i (W := fun n i (y : Int64) => wp_X4_sumAbout_l5 _ K x n y (nI i) m2) (I := fun i y => y = lN (sumP (sg S) (fun y => decide (nI y.2.1 = x) || decide (cdI y.2.2.2.1 = x)) ((CL (sg S)).take i))) (CL (sg S)).length ?_ ?_ FU 0 0 (by omega) (FU_gt (by omega)) rfl
      · rintro n y rfl
        show wb_X4_sumAbout_l5 _ _ _ _ _ _ _
        unfold wb_X4_sumAbout_l5
        rw [c.1, if_pos (ile (Nat.le_refl _) (by omega)), List.take_length]
        exact k1 _ (ClsR_Z hI hC f) (up_Z f)
      · rintro n i y hi rfl k2
        show wb_X4_sumAbout_l5 _ _ _ _ _ _ _
        unfold wb_X4_sumAbout_l5
        obtain ⟨z, ez⟩ : ∃ z, (CL (sg S))[i]? = some z := ⟨_, List.getElem?_eq_getElem hi⟩
        have zok := CL_ok hD hI.2.1 z (List.mem_of_getElem? ez)
        have cb := cst_b zok
        obtain ⟨d1, d2, d3, d4, d5⟩ := dec_k zok
        rw [c.1, if_neg (inle hi (by omega)), if_neg (show ¬ (1000 : Int32) ≤ nI i from inle (a := 1000) (by omega) (by omega)), clamp_nI (by omega), c.2.2 i z ez, d2, d4, d5, nI_1, wide_nI (by omega)]
        refine ⟨vp_in_nI (by omega) (by omega), ?_⟩
        rintro y6 h6
        refine k2 y6 ?_
        rw [sumP_take _ _ _ ez, h6]
        by_cases q2 : nI z.2.1 = x
        · rw [if_pos q2, decide_eq_true q2, Bool.true_or, if_pos rfl, lN_add]
        · rw [if_neg q2, decide_eq_false q2, Bool.false_or]
          by_cases q3 : cdI z.2.2.2.1 = x
          · rw [if_pos q3, decide_eq_true q3, if_pos rfl, lN_add]
          · rw [if_neg q3, decide_eq_false q3, if_neg (by decide), Nat.add_zero]
    · unfold wp_X12_panelCost
      rw [if_neg (fun q => (isPanel_0 hR.st hD.g2 hp).mp q cx)]
      refine rcosts_ok (f := fun y => decide (nI y.2.1 = x) || decide (cdI y.2.2.2.1 = x)) hI.1 hI.2.1 hR.st (fun y _ => ?_) (fun m2 f => ?_)
      · rw [Bool.or_eq_true, decide_eq_true_iff, decide_eq_true_iff]
        exact ⟨fun q => Or.inr q, fun q => by rcases q with q | q; exact absurd q x9; exact q⟩
      · rw [sumP_perm hI.2.1]
        exact k1 _ (RefR_H hR f) (low_H f)
  · refine combineL (c := wp_X11_panelCost x m) (d := wp_X12_panelCost x) (r := -1) (S2 := S) h (fun K k1 => ?_) (fun m1 K hR k1 => ?_) hI kk
    · unfold wp_X11_panelCost
      rw [if_pos ((has_0 h4 hp).mpr cx)]; exact k1 _ hC (fun _ _ => rfl)
    · unfold wp_X12_panelCost
      rw [if_pos ((isPanel_0 hR.st hD.g2 hp).mpr cx)]; exact k1 _ hR (fun _ _ => rfl)
