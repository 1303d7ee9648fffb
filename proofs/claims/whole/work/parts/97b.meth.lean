theorem bv_X11_isAngle (x0 : Int32) : bo (v_X11_isAngle x0) := (bo_ite bo_0 (bo_ite bo_0 bo_1))
set_option maxRecDepth 100000 in
theorem c_X11_isAngle {G : GT} {ad : Nat → Nat} (x0 : Int32) (m : Mm) : Cn G yX11_isAngle cX11_isAngle 1 (some .boolean) (rmN 0 0) [.int x0] (0, 0) (fl ad m) (fun v w => v = some (.int (v_X11_isAngle x0)) ∧ w = fl ad m) := by
  refine Cn.of pn_RX11 (Nat.le_of_ble_eq_true rfl) (fun X hG hX hR => ?_)
  subst hG
  have hX : Cx X cX11_isAngle 1 RX11 (rmN 0 0) := hX
  show J X (0, 0) 0 [(0, .int x0)] [] (fl ad m)
  refine J_iload_n hX dX11_isAngle_0 rfl 0 rfl ?_
  refine J_iconst (v := (-1 : Int32)) hX dX11_isAngle_1 (by decide) ?_
  have hj3 : ∀ y4 : Int32, y4 = (if x0 < (-1 : Int32) then (0 : Int32) else (if (2 : Int32) < x0 then (0 : Int32) else (1 : Int32))) → J X (0, 0) 15 [] [.int y4] (fl ad m) := by
    intro y4 e_y4
    subst e_y4
    exact J_zret hX hR dX11_isAngle_15 (bo_ite bo_0 (bo_ite bo_0 bo_1)) (And.intro (congrArg (fun z => some (Value.int z)) (show (if x0 < (-1 : Int32) then (0 : Int32) else (if (2 : Int32) < x0 then (0 : Int32) else (1 : Int32))) = v_X11_isAngle x0 from rfl)) rfl)
  refine J_icmp_lt (tgt := 14) hX dX11_isAngle_2 (by decide) (fun c1 => ?_) (fun c1 => ?_)
  · refine J_iconst (v := (0 : Int32)) hX dX11_isAngle_14 (by decide) ?_
    exact J_sub [] rfl (hj3 _ (if_pos c1).symm)
  · refine J_iload_n hX dX11_isAngle_5 rfl 0 rfl ?_
    refine J_iconst (v := (2 : Int32)) hX dX11_isAngle_6 (by decide) ?_
    refine J_icmp_gt (tgt := 14) hX dX11_isAngle_7 (by decide) (fun c2 => ?_) (fun c2 => ?_)
    · refine J_iconst (v := (0 : Int32)) hX dX11_isAngle_14 (by decide) ?_
      exact J_sub [] rfl (hj3 _ ((if_neg c1).trans (if_pos c2)).symm)
    · refine J_iconst (v := (1 : Int32)) hX dX11_isAngle_10 (by decide) ?_
      refine J_goto (tgt := 15) hX dX11_isAngle_11 (by decide) ?_
      exact J_sub [] rfl (hj3 _ ((if_neg c1).trans (if_neg c2)).symm)
set_option maxRecDepth 100000 in
theorem c_X7_makePlain {G : GT} {ad : Nat → Nat} (a0 : Nat) (h0 : kap a0 = 7) (m : Mm) (K : Mm → Prop) (h : wp_X7_makePlain a0 m K) : Cn G yX7_makePlain cX7_makePlain 1 none (rmN 0 0) [.ref (ad a0)] (0, 0) (fl ad m) (kV ad K) := by
  unfold wp_X7_makePlain at h
  refine Cn.of pn_RX7 (Nat.le_of_ble_eq_true rfl) (fun X hG hX hR => ?_)
  subst hG
  have hX : Cx X cX7_makePlain 1 RX7 (rmN 0 0) := hX
  show J X (0, 0) 0 [(0, .ref (ad a0))] [] (fl ad m)
  refine J_aload_n hX dX7_makePlain_0 rfl 0 rfl ?_
  refine J_bipush (v := (-9 : Int32)) hX dX7_makePlain_1 (by decide) ?_
  refine J_putI hX kf_RX7_18 dX7_makePlain_3 h0 (by decide) rfl ?_
  refine J_nmM (fun m1 e_m1 => ?_)
  replace h := h m1 e_m1
  refine J_aload_n hX dX7_makePlain_6 rfl 0 rfl ?_
  refine J_bipush (v := (-9 : Int32)) hX dX7_makePlain_7 (by decide) ?_
  refine J_putI hX kf_RX7_21 dX7_makePlain_9 h0 (by decide) rfl ?_
  refine J_nmM (fun m2 e_m2 => ?_)
  replace h := h m2 e_m2
  refine J_aload_n hX dX7_makePlain_12 rfl 0 rfl ?_
  refine J_iconst (v := (0 : Int32)) hX dX7_makePlain_13 (by decide) ?_
  refine J_putI hX kf_RX7_36 dX7_makePlain_14 h0 (by decide) rfl ?_
  refine J_nmM (fun m3 e_m3 => ?_)
  replace h := h m3 e_m3
  refine J_aload_n hX dX7_makePlain_17 rfl 0 rfl ?_
  refine J_iconst (v := (0 : Int32)) hX dX7_makePlain_18 (by decide) ?_
  refine J_putI hX kf_RX7_39 dX7_makePlain_19 h0 (by decide) rfl ?_
  refine J_nmM (fun m4 e_m4 => ?_)
  replace h := h m4 e_m4
  refine J_aload_n hX dX7_makePlain_22 rfl 0 rfl ?_
  refine J_iconst (v := (0 : Int32)) hX dX7_makePlain_23 (by decide) ?_
  refine J_putI hX kf_RX7_42 dX7_makePlain_24 h0 (by decide) rfl ?_
  refine J_nmM (fun m5 e_m5 => ?_)
  replace h := h m5 e_m5
  exact J_vret hX hR dX7_makePlain_27 ⟨_, rfl, rfl, h⟩
set_option maxRecDepth 100000 in
theorem c_X3_layOut {G : GT} {ad : Nat → Nat} (a0 : Nat) (h0 : kap a0 = 7) (a1 : Nat) (h1 : kap a1 = 7) (m : Mm) (K : Mm → Prop) (h : wp_X3_layOut a0 a1 m K) : Cn G yX3_layOut cX3_layOut 3 none (rmN 0 0) [.ref (ad a0), .ref (ad a1)] (0, 0) (fl ad m) (kV ad K) := by
  unfold wp_X3_layOut at h
  refine Cn.of pn_RX3 (Nat.le_of_ble_eq_true rfl) (fun X hG hX hR => ?_)
  subst hG
  have hX : Cx X cX3_layOut 3 RX3 (rmN 0 0) := hX
  show J X (0, 0) 0 [(0, .ref (ad a0)), (1, .ref (ad a1))] [] (fl ad m)
  refine J_aload_n hX dX3_layOut_0 rfl 0 rfl ?_
  refine J_getI hX kf_RX3_72 dX3_layOut_1 h0 (by decide) rfl ?_
  refine J_iconst (v := (1 : Int32)) hX dX3_layOut_4 (by decide) ?_
  refine J_iand hX dX3_layOut_5 ?_
  have hj21 : ∀ y2 : Int32, y2 = (if ((m.1 a0 1) &&& (1 : Int32)) = (0 : Int32) then (1 : Int32) else (0 : Int32)) → J X (0, 0) 14 [(0, .ref (ad a0)), (1, .ref (ad a1))] [.int y2] (fl ad m) := by
    intro y2 e_y2
    replace h := h y2 e_y2
    refine J_istore_n (lv2 := [(2, .int y2), (0, .ref (ad a0)), (1, .ref (ad a1))]) hX dX3_layOut_14 rfl (Nat.le_of_ble_eq_true rfl) rfl ?_
    refine J_aload_n hX dX3_layOut_15 rfl 1 rfl ?_
    refine J_iload_n hX dX3_layOut_16 rfl 0 rfl ?_
    have hj20 : ∀ y4 : Int32, y4 = (if y2 = (0 : Int32) then (m.1 a0 4) else (m.1 a0 3)) → J X (0, 0) 31 [(0, .ref (ad a0)), (1, .ref (ad a1)), (2, .int y2)] [.int y4, .ref (ad a0)] (fl ad m) := by
      intro y4 e_y4
      replace h := h y4 e_y4
      refine J_putI hX kf_RX3_50 dX3_layOut_31 h0 (by decide) rfl ?_
      refine J_nmM (fun m5 e_m5 => ?_)
      replace h := h m5 e_m5
      refine J_aload_n hX dX3_layOut_34 rfl 0 rfl ?_
      refine J_iload_n hX dX3_layOut_35 rfl 2 rfl ?_
      have hj19 : ∀ y7 : Int32, y7 = (if y2 = (0 : Int32) then (m5.1 a0 3) else (m5.1 a0 4)) → J X (0, 0) 50 [(0, .ref (ad a0)), (1, .ref (ad a1)), (2, .int y2)] [.int y7, .ref (ad a0)] (fl ad m5) := by
        intro y7 e_y7
        replace h := h y7 e_y7
        refine J_putI hX kf_RX3_56 dX3_layOut_50 h0 (by decide) rfl ?_
        refine J_nmM (fun m8 e_m8 => ?_)
        replace h := h m8 e_m8
        refine J_aload_n hX dX3_layOut_53 rfl 0 rfl ?_
        refine J_aload_n hX dX3_layOut_54 rfl 1 rfl ?_
        refine J_getI hX kf_RX3_47 dX3_layOut_55 h1 (by decide) rfl ?_
        refine J_iload_n hX dX3_layOut_58 rfl 2 rfl ?_
        have hj18 : ∀ y11 : Int32, y11 = (if y2 = (0 : Int32) then (if (m8.1 a0 1) = (1 : Int32) then (m8.1 a1 13) else (-(m8.1 a0 4))) else (m8.1 a0 2)) → J X (0, 0) 89 [(0, .ref (ad a0)), (1, .ref (ad a1)), (2, .int y2)] [.int y11, .int (m8.1 a1 11), .ref (ad a0)] (fl ad m8) := by
          intro y11 e_y11
          replace h := h y11 e_y11
          refine J_iadd hX dX3_layOut_89 ?_
          refine J_putI hX kf_RX3_47 dX3_layOut_90 h0 (by decide) rfl ?_
          refine J_nmM (fun m12 e_m12 => ?_)
          replace h := h m12 e_m12
          refine J_aload_n hX dX3_layOut_93 rfl 0 rfl ?_
          refine J_aload_n hX dX3_layOut_94 rfl 1 rfl ?_
          refine J_getI hX kf_RX3_53 dX3_layOut_95 h1 (by decide) rfl ?_
          refine J_iload_n hX dX3_layOut_98 rfl 2 rfl ?_
          have hj17 : ∀ y15 : Int32, y15 = (if y2 = (0 : Int32) then (m12.1 a0 2) else (if (m12.1 a0 1) = (2 : Int32) then (m12.1 a1 14) else (-(m12.1 a0 4)))) → J X (0, 0) 129 [] [.int y15, .int (m12.1 a1 12), .ref (ad a0)] (fl ad m12) := by
            intro y15 e_y15
            replace h := h y15 e_y15
            refine J_iadd hX dX3_layOut_129 ?_
            refine J_putI hX kf_RX3_53 dX3_layOut_130 h0 (by decide) rfl ?_
            refine J_nmM (fun m16 e_m16 => ?_)
            replace h := h m16 e_m16
            exact J_vret hX hR dX3_layOut_133 ⟨_, rfl, rfl, h⟩
          refine J_if_ne (tgt := 109) hX dX3_layOut_99 (by decide) (fun c13 => ?_) (fun c13 => ?_)
          · refine J_aload_n hX dX3_layOut_109 rfl 0 rfl ?_
            refine J_getI hX kf_RX3_72 dX3_layOut_110 h0 (by decide) rfl ?_
            refine J_iconst (v := (2 : Int32)) hX dX3_layOut_113 (by decide) ?_
            refine J_icmp_ne (tgt := 124) hX dX3_layOut_114 (by decide) (fun c14 => ?_) (fun c14 => ?_)
            · refine J_aload_n hX dX3_layOut_124 rfl 0 rfl ?_
              refine J_getI hX kf_RX3_97 dX3_layOut_125 h0 (by decide) rfl ?_
              refine J_ineg hX dX3_layOut_128 ?_
              exact J_sub [] rfl (hj17 _ ((if_neg c13).trans (if_neg c14)).symm)
            · refine J_aload_n hX dX3_layOut_117 rfl 1 rfl ?_
              refine J_getI hX kf_RX3_56 dX3_layOut_118 h1 (by decide) rfl ?_
              refine J_goto (tgt := 129) hX dX3_layOut_121 (by decide) ?_
              exact J_sub [] rfl (hj17 _ ((if_neg c13).trans (if_pos c14)).symm)
          · refine J_aload_n hX dX3_layOut_102 rfl 0 rfl ?_
            refine J_getI hX kf_RX3_91 dX3_layOut_103 h0 (by decide) rfl ?_
            refine J_goto (tgt := 129) hX dX3_layOut_106 (by decide) ?_
            exact J_sub [] rfl (hj17 _ (if_pos c13).symm)
        refine J_if_eq (tgt := 69) hX dX3_layOut_59 (by decide) (fun c9 => ?_) (fun c9 => ?_)
        · refine J_aload_n hX dX3_layOut_69 rfl 0 rfl ?_
          refine J_getI hX kf_RX3_72 dX3_layOut_70 h0 (by decide) rfl ?_
          refine J_iconst (v := (1 : Int32)) hX dX3_layOut_73 (by decide) ?_
          refine J_icmp_ne (tgt := 84) hX dX3_layOut_74 (by decide) (fun c10 => ?_) (fun c10 => ?_)
          · refine J_aload_n hX dX3_layOut_84 rfl 0 rfl ?_
            refine J_getI hX kf_RX3_97 dX3_layOut_85 h0 (by decide) rfl ?_
            refine J_ineg hX dX3_layOut_88 ?_
            exact J_sub [0, 1, 2] rfl (hj18 _ ((if_pos c9).trans (if_neg c10)).symm)
          · refine J_aload_n hX dX3_layOut_77 rfl 1 rfl ?_
            refine J_getI hX kf_RX3_50 dX3_layOut_78 h1 (by decide) rfl ?_
            refine J_goto (tgt := 89) hX dX3_layOut_81 (by decide) ?_
            exact J_sub [0, 1, 2] rfl (hj18 _ ((if_pos c9).trans (if_pos c10)).symm)
        · refine J_aload_n hX dX3_layOut_62 rfl 0 rfl ?_
          refine J_getI hX kf_RX3_91 dX3_layOut_63 h0 (by decide) rfl ?_
          refine J_goto (tgt := 89) hX dX3_layOut_66 (by decide) ?_
          exact J_sub [0, 1, 2] rfl (hj18 _ (if_neg c9).symm)
      refine J_if_eq (tgt := 46) hX dX3_layOut_36 (by decide) (fun c6 => ?_) (fun c6 => ?_)
      · refine J_aload_n hX dX3_layOut_46 rfl 0 rfl ?_
        refine J_getI hX kf_RX3_94 dX3_layOut_47 h0 (by decide) rfl ?_
        exact J_sub [0, 1, 2] rfl (hj19 _ (if_pos c6).symm)
      · refine J_aload_n hX dX3_layOut_39 rfl 0 rfl ?_
        refine J_getI hX kf_RX3_97 dX3_layOut_40 h0 (by decide) rfl ?_
        refine J_goto (tgt := 50) hX dX3_layOut_43 (by decide) ?_
        exact J_sub [0, 1, 2] rfl (hj19 _ (if_neg c6).symm)
    refine J_if_eq (tgt := 27) hX dX3_layOut_17 (by decide) (fun c3 => ?_) (fun c3 => ?_)
    · refine J_aload_n hX dX3_layOut_27 rfl 1 rfl ?_
      refine J_getI hX kf_RX3_97 dX3_layOut_28 h0 (by decide) rfl ?_
      exact J_sub [1, 2, 0] rfl (hj20 _ (if_pos c3).symm)
    · refine J_aload_n hX dX3_layOut_20 rfl 1 rfl ?_
      refine J_getI hX kf_RX3_94 dX3_layOut_21 h0 (by decide) rfl ?_
      refine J_goto (tgt := 31) hX dX3_layOut_24 (by decide) ?_
      exact J_sub [1, 2, 0] rfl (hj20 _ (if_neg c3).symm)
  refine J_if_ne (tgt := 13) hX dX3_layOut_6 (by decide) (fun c1 => ?_) (fun c1 => ?_)
  · refine J_iconst (v := (0 : Int32)) hX dX3_layOut_13 (by decide) ?_
    exact J_sub [0, 1] rfl (hj21 _ (if_neg c1).symm)
  · refine J_iconst (v := (1 : Int32)) hX dX3_layOut_9 (by decide) ?_
    refine J_goto (tgt := 14) hX dX3_layOut_10 (by decide) ?_
    exact J_sub [0, 1] rfl (hj21 _ (if_pos c1).symm)
set_option maxRecDepth 100000 in
theorem c_X3_draft {G : GT} {ad : Nat → Nat} (a0 : Nat) (h0 : kap a0 = 3) (x1 : Int32) (x2 : Int32) (x3 : Int32) (x4 : Int32) (x5 : Int32) (x6 : Int32) (m : Mm) (K : Mm → Prop) (h : wp_X3_draft a0 x1 x2 x3 x4 x5 x6 m K) : Cn G yX3_draft cX3_draft 8 none (rmN 1 22) [.ref (ad a0), .int x1, .int x2, .int x3, .int x4, .int x5, .int x6] (0, 0) (fl ad m) (kV ad K) := by
  unfold wp_X3_draft at h
  refine Cn.of pn_RX3 (Nat.le_of_ble_eq_true rfl) (fun X hG hX hR => ?_)
  subst hG
  have hX : Cx X cX3_draft 8 RX3 (rmN 1 22) := hX
  show J X (0, 0) 0 [(0, .ref (ad a0)), (1, .int x1), (2, .int x2), (3, .int x3), (4, .int x4), (5, .int x5), (6, .int x6)] [] (fl ad m)
  refine J_aload_n hX dX3_draft_0 rfl 0 rfl ?_
  refine J_aload_n hX dX3_draft_1 rfl 0 rfl ?_
  refine J_getI hX kf_RX3_25 dX3_draft_2 h0 (by decide) rfl ?_
  refine J_callV hX km_X3_panelAt kl_RX3_39 dX3_draft_5 h0 (by decide) [.int (m.1 a0 4)] ⟨Nat.le_of_ble_eq_true rfl, Nat.le_of_ble_eq_true rfl⟩ rfl rfl (Nat.le_of_ble_eq_true rfl) (c_X3_panelAt a0 h0 (m.1 a0 4) m) (fun v w2 hk => ?_)
  obtain ⟨rfl, rfl⟩ := hk
  show J X (0, 0) 8 [(0, .ref (ad a0)), (1, .int x1), (2, .int x2), (3, .int x3), (4, .int x4), (5, .int x5), (6, .int x6)] [.ref (ad (v_X3_panelAt a0 (m.1 a0 4)))] (fl ad m)
  refine J_astore (lv2 := [(7, .ref (ad (v_X3_panelAt a0 (m.1 a0 4)))), (0, .ref (ad a0)), (1, .int x1), (2, .int x2), (3, .int x3), (4, .int x4), (5, .int x5), (6, .int x6)]) hX dX3_draft_8 (Nat.le_of_ble_eq_true rfl) rfl ?_
  refine J_aload hX dX3_draft_10 0 rfl ?_
  refine J_callV hX km_X7_makePlain kl_RX3_66 dX3_draft_12 (kv_X3_panelAt h0) (by decide) [] ⟨Nat.le_of_ble_eq_true rfl, Nat.le_of_ble_eq_true rfl⟩ rfl rfl (Nat.le_of_ble_eq_true rfl) (c_X7_makePlain (v_X3_panelAt a0 (m.1 a0 4)) (kv_X3_panelAt h0) m _ h) (fun v w2 hk => ?_)
  obtain ⟨m1, rfl, rfl, h⟩ := hk
  show J X (0, 0) 15 [(7, .ref (ad (v_X3_panelAt a0 (m.1 a0 4)))), (0, .ref (ad a0)), (1, .int x1), (2, .int x2), (3, .int x3), (4, .int x4), (5, .int x5), (6, .int x6)] [] (fl ad m1)
  refine J_aload hX dX3_draft_15 0 rfl ?_
  refine J_iload_n hX dX3_draft_17 rfl 2 rfl ?_
  refine J_putI hX kf_RX3_69 dX3_draft_18 (kv_X3_panelAt h0) (by decide) rfl ?_
  refine J_nmM (fun m2 e_m2 => ?_)
  replace h := h m2 e_m2
  refine J_aload hX dX3_draft_21 0 rfl ?_
  refine J_iload_n hX dX3_draft_23 rfl 3 rfl ?_
  refine J_putI hX kf_RX3_72 dX3_draft_24 (kv_X3_panelAt h0) (by decide) rfl ?_
  refine J_nmM (fun m3 e_m3 => ?_)
  replace h := h m3 e_m3
  refine J_aload hX dX3_draft_27 0 rfl ?_
  refine J_iload_n hX dX3_draft_29 rfl 4 rfl ?_
  refine J_putI hX kf_RX3_91 dX3_draft_30 (kv_X3_panelAt h0) (by decide) rfl ?_
  refine J_nmM (fun m4 e_m4 => ?_)
  replace h := h m4 e_m4
  refine J_aload hX dX3_draft_33 0 rfl ?_
  refine J_iload hX dX3_draft_35 5 rfl ?_
  refine J_putI hX kf_RX3_94 dX3_draft_37 (kv_X3_panelAt h0) (by decide) rfl ?_
  refine J_nmM (fun m5 e_m5 => ?_)
  replace h := h m5 e_m5
  refine J_aload hX dX3_draft_40 0 rfl ?_
  refine J_iload hX dX3_draft_42 6 rfl ?_
  refine J_putI hX kf_RX3_97 dX3_draft_44 (kv_X3_panelAt h0) (by decide) rfl ?_
  refine J_nmM (fun m6 e_m6 => ?_)
  replace h := h m6 e_m6
  refine J_aload hX dX3_draft_47 0 rfl ?_
  refine J_iload hX dX3_draft_49 7 rfl ?_
  refine J_putI hX kf_RX3_75 dX3_draft_51 (kv_X3_panelAt h0) (by decide) rfl ?_
  refine J_nmM (fun m7 e_m7 => ?_)
  replace h := h m7 e_m7
  refine J_aload hX dX3_draft_54 0 rfl ?_
  refine J_aload_n hX dX3_draft_56 rfl 1 rfl ?_
  refine J_iload_n hX dX3_draft_57 rfl 2 rfl ?_
  refine J_callV hX km_X3_panelAt kl_RX3_39 dX3_draft_58 h0 (by decide) [.int x1] ⟨Nat.le_of_ble_eq_true rfl, Nat.le_of_ble_eq_true rfl⟩ rfl rfl (Nat.le_of_ble_eq_true rfl) (c_X3_panelAt a0 h0 x1 m7) (fun v w2 hk => ?_)
  obtain ⟨rfl, rfl⟩ := hk
  show J X (0, 0) 61 [(7, .ref (ad (v_X3_panelAt a0 (m.1 a0 4)))), (0, .ref (ad a0)), (1, .int x1), (2, .int x2), (3, .int x3), (4, .int x4), (5, .int x5), (6, .int x6)] [.ref (ad (v_X3_panelAt a0 x1)), .ref (ad (v_X3_panelAt a0 (m.1 a0 4)))] (fl ad m7)
  refine J_callS hX km_X3_layOut kl_RX3_100 dX3_draft_61 [.ref (ad (v_X3_panelAt a0 (m.1 a0 4))), .ref (ad (v_X3_panelAt a0 x1))] ⟨Nat.le_of_ble_eq_true rfl, Nat.le_of_ble_eq_true rfl⟩ rfl rfl (Nat.le_of_ble_eq_true rfl) (c_X3_layOut (v_X3_panelAt a0 (m.1 a0 4)) (kv_X3_panelAt h0) (v_X3_panelAt a0 x1) (kv_X3_panelAt h0) m7 _ h) (fun v w2 hk => ?_)
  obtain ⟨m8, rfl, rfl, h⟩ := hk
  show J X (0, 0) 64 [(7, .ref (ad (v_X3_panelAt a0 (m.1 a0 4)))), (0, .ref (ad a0)), (1, .int x1), (2, .int x2), (3, .int x3), (4, .int x4), (5, .int x5), (6, .int x6)] [] (fl ad m8)
  exact J_vret hX hR dX3_draft_64 ⟨_, rfl, rfl, h⟩
set_option maxRecDepth 100000 in
theorem c_X7_sideLength {G : GT} {ad : Nat → Nat} (a0 : Nat) (h0 : kap a0 = 7) (x1 : Int32) (m : Mm) : Cn G yX7_sideLength cX7_sideLength 2 (some .int) (rmN 0 0) [.ref (ad a0), .int x1] (0, 0) (fl ad m) (fun v w => v = some (.int (v_X7_sideLength a0 x1 m)) ∧ w = fl ad m) := by
  refine Cn.of pn_RX7 (Nat.le_of_ble_eq_true rfl) (fun X hG hX hR => ?_)
  subst hG
  have hX : Cx X cX7_sideLength 2 RX7 (rmN 0 0) := hX
  show J X (0, 0) 0 [(0, .ref (ad a0)), (1, .int x1)] [] (fl ad m)
  refine J_iload_n hX dX7_sideLength_0 rfl 1 rfl ?_
  refine J_iconst (v := (1 : Int32)) hX dX7_sideLength_1 (by decide) ?_
  refine J_iand hX dX7_sideLength_2 ?_
  have hj2 : ∀ y3 : Int32, y3 = (if (x1 &&& (1 : Int32)) = (0 : Int32) then (m.1 a0 13) else (m.1 a0 14)) → J X (0, 0) 17 [] [.int y3] (fl ad m) := by
    intro y3 e_y3
    subst e_y3
    exact J_iret hX hR dX7_sideLength_17 (And.intro (congrArg (fun z => some (Value.int z)) (show (if (x1 &&& (1 : Int32)) = (0 : Int32) then (m.1 a0 13) else (m.1 a0 14)) = v_X7_sideLength a0 x1 m from rfl)) rfl)
  refine J_if_ne (tgt := 13) hX dX7_sideLength_3 (by decide) (fun c1 => ?_) (fun c1 => ?_)
  · refine J_aload_n hX dX7_sideLength_13 rfl 0 rfl ?_
    refine J_getI hX kf_RX7_54 dX7_sideLength_14 h0 (by decide) rfl ?_
    exact J_sub [] rfl (hj2 _ (if_neg c1).symm)
  · refine J_aload_n hX dX7_sideLength_6 rfl 0 rfl ?_
    refine J_getI hX kf_RX7_51 dX7_sideLength_7 h0 (by decide) rfl ?_
    refine J_goto (tgt := 17) hX dX7_sideLength_10 (by decide) ?_
    exact J_sub [] rfl (hj2 _ (if_pos c1).symm)
theorem bv_X7_overlaps (a0 : Nat) (a1 : Nat) (m : Mm) : bo (v_X7_overlaps a0 a1 m) := (bo_ite bo_0 (bo_ite bo_0 (bo_ite bo_0 (bo_ite bo_0 bo_1))))
set_option maxRecDepth 100000 in
theorem c_X7_overlaps {G : GT} {ad : Nat → Nat} (a0 : Nat) (h0 : kap a0 = 7) (a1 : Nat) (h1 : kap a1 = 7) (m : Mm) : Cn G yX7_overlaps cX7_overlaps 2 (some .boolean) (rmN 0 0) [.ref (ad a0), .ref (ad a1)] (0, 0) (fl ad m) (fun v w => v = some (.int (v_X7_overlaps a0 a1 m)) ∧ w = fl ad m) := by
  refine Cn.of pn_RX7 (Nat.le_of_ble_eq_true rfl) (fun X hG hX hR => ?_)
  subst hG
  have hX : Cx X cX7_overlaps 2 RX7 (rmN 0 0) := hX
  show J X (0, 0) 0 [(0, .ref (ad a0)), (1, .ref (ad a1))] [] (fl ad m)
  refine J_aload_n hX dX7_overlaps_0 rfl 0 rfl ?_
  refine J_getI hX kf_RX7_45 dX7_overlaps_1 h0 (by decide) rfl ?_
  refine J_aload_n hX dX7_overlaps_4 rfl 1 rfl ?_
  refine J_getI hX kf_RX7_45 dX7_overlaps_5 h1 (by decide) rfl ?_
  refine J_aload_n hX dX7_overlaps_8 rfl 1 rfl ?_
  refine J_getI hX kf_RX7_51 dX7_overlaps_9 h1 (by decide) rfl ?_
  refine J_iadd hX dX7_overlaps_12 ?_
  have hj5 : ∀ y6 : Int32, y6 = (if ((m.1 a1 11) + (m.1 a1 13)) ≤ (m.1 a0 11) then (0 : Int32) else (if ((m.1 a0 11) + (m.1 a0 13)) ≤ (m.1 a1 11) then (0 : Int32) else (if ((m.1 a1 12) + (m.1 a1 14)) ≤ (m.1 a0 12) then (0 : Int32) else (if ((m.1 a0 12) + (m.1 a0 14)) ≤ (m.1 a1 12) then (0 : Int32) else (1 : Int32))))) → J X (0, 0) 69 [] [.int y6] (fl ad m) := by
    intro y6 e_y6
    subst e_y6
    exact J_zret hX hR dX7_overlaps_69 (bo_ite bo_0 (bo_ite bo_0 (bo_ite bo_0 (bo_ite bo_0 bo_1)))) (And.intro (congrArg (fun z => some (Value.int z)) (show (if ((m.1 a1 11) + (m.1 a1 13)) ≤ (m.1 a0 11) then (0 : Int32) else (if ((m.1 a0 11) + (m.1 a0 13)) ≤ (m.1 a1 11) then (0 : Int32) else (if ((m.1 a1 12) + (m.1 a1 14)) ≤ (m.1 a0 12) then (0 : Int32) else (if ((m.1 a0 12) + (m.1 a0 14)) ≤ (m.1 a1 12) then (0 : Int32) else (1 : Int32))))) = v_X7_overlaps a0 a1 m from rfl)) rfl)
  refine J_icmp_ge (tgt := 68) hX dX7_overlaps_13 (by decide) (fun c1 => ?_) (fun c1 => ?_)
  · refine J_iconst (v := (0 : Int32)) hX dX7_overlaps_68 (by decide) ?_
    exact J_sub [] rfl (hj5 _ (if_pos c1).symm)
  · refine J_aload_n hX dX7_overlaps_16 rfl 1 rfl ?_
    refine J_getI hX kf_RX7_45 dX7_overlaps_17 h1 (by decide) rfl ?_
    refine J_aload_n hX dX7_overlaps_20 rfl 0 rfl ?_
    refine J_getI hX kf_RX7_45 dX7_overlaps_21 h0 (by decide) rfl ?_
    refine J_aload_n hX dX7_overlaps_24 rfl 0 rfl ?_
    refine J_getI hX kf_RX7_51 dX7_overlaps_25 h0 (by decide) rfl ?_
    refine J_iadd hX dX7_overlaps_28 ?_
    refine J_icmp_ge (tgt := 68) hX dX7_overlaps_29 (by decide) (fun c2 => ?_) (fun c2 => ?_)
    · refine J_iconst (v := (0 : Int32)) hX dX7_overlaps_68 (by decide) ?_
      exact J_sub [] rfl (hj5 _ ((if_neg c1).trans (if_pos c2)).symm)
    · refine J_aload_n hX dX7_overlaps_32 rfl 0 rfl ?_
      refine J_getI hX kf_RX7_48 dX7_overlaps_33 h0 (by decide) rfl ?_
      refine J_aload_n hX dX7_overlaps_36 rfl 1 rfl ?_
      refine J_getI hX kf_RX7_48 dX7_overlaps_37 h1 (by decide) rfl ?_
      refine J_aload_n hX dX7_overlaps_40 rfl 1 rfl ?_
      refine J_getI hX kf_RX7_54 dX7_overlaps_41 h1 (by decide) rfl ?_
      refine J_iadd hX dX7_overlaps_44 ?_
      refine J_icmp_ge (tgt := 68) hX dX7_overlaps_45 (by decide) (fun c3 => ?_) (fun c3 => ?_)
      · refine J_iconst (v := (0 : Int32)) hX dX7_overlaps_68 (by decide) ?_
        exact J_sub [] rfl (hj5 _ ((if_neg c1).trans ((if_neg c2).trans (if_pos c3))).symm)
      · refine J_aload_n hX dX7_overlaps_48 rfl 1 rfl ?_
        refine J_getI hX kf_RX7_48 dX7_overlaps_49 h1 (by decide) rfl ?_
        refine J_aload_n hX dX7_overlaps_52 rfl 0 rfl ?_
        refine J_getI hX kf_RX7_48 dX7_overlaps_53 h0 (by decide) rfl ?_
        refine J_aload_n hX dX7_overlaps_56 rfl 0 rfl ?_
        refine J_getI hX kf_RX7_54 dX7_overlaps_57 h0 (by decide) rfl ?_
        refine J_iadd hX dX7_overlaps_60 ?_
        refine J_icmp_ge (tgt := 68) hX dX7_overlaps_61 (by decide) (fun c4 => ?_) (fun c4 => ?_)
        · refine J_iconst (v := (0 : Int32)) hX dX7_overlaps_68 (by decide) ?_
          exact J_sub [] rfl (hj5 _ ((if_neg c1).trans ((if_neg c2).trans ((if_neg c3).trans (if_pos c4)))).symm)
        · refine J_iconst (v := (1 : Int32)) hX dX7_overlaps_64 (by decide) ?_
          refine J_goto (tgt := 69) hX dX7_overlaps_65 (by decide) ?_
          exact J_sub [] rfl (hj5 _ ((if_neg c1).trans ((if_neg c2).trans ((if_neg c3).trans (if_neg c4)))).symm)
set_option maxRecDepth 100000 in
theorem tb_X3_fits_l89 {X : XT} {ad : Nat → Nat} {K : Int32 → Mm → Prop} (hX : Cx X cX3_fits 4 RX3 (rmN 1 21)) (hR : Rx X (some .boolean) (kI ad K) (0, 0)) {rec : Int32 → Mm → Prop} (a0 : Nat) (h0 : kap a0 = 3) (x1 : Int32) (a2 : Nat) (h2 : kap a2 = 7) (hrec : ∀ (x3 : Int32) (m : Mm), rec x3 m → J X (0, 0) 89 [(0, .ref (ad a0)), (1, .int x1), (2, .ref (ad a2)), (3, .int x3)] [] (fl ad m)) (x3 : Int32) (m : Mm) (h : wb_X3_fits_l89 rec K a0 x1 a2 x3 m) : J X (0, 0) 89 [(0, .ref (ad a0)), (1, .int x1), (2, .ref (ad a2)), (3, .int x3)] [] (fl ad m) := by
  unfold wb_X3_fits_l89 at h
  refine J_iload_n hX dX3_fits_89 rfl 3 rfl ?_
  refine J_iload_n hX dX3_fits_90 rfl 1 rfl ?_
  refine J_icmp_ge (tgt := 114) hX dX3_fits_91 (by decide) (fun c6 => ?_) (fun c6 => ?_)
  · replace h := Eq.mp (if_pos c6) h
    refine J_iconst (v := (1 : Int32)) hX dX3_fits_114 (by decide) ?_
    exact J_zret hX hR dX3_fits_115 bo_1 ⟨_, _, rfl, rfl, h⟩
  · replace h := Eq.mp (if_neg c6) h
    refine J_aload_n hX dX3_fits_94 rfl 2 rfl ?_
    refine J_aload_n hX dX3_fits_95 rfl 0 rfl ?_
    refine J_iload_n hX dX3_fits_96 rfl 3 rfl ?_
    refine J_callV hX km_X3_panelAt kl_RX3_39 dX3_fits_97 h0 (by decide) [.int x3] ⟨Nat.le_of_ble_eq_true rfl, Nat.le_of_ble_eq_true rfl⟩ rfl rfl (Nat.le_of_ble_eq_true rfl) (c_X3_panelAt a0 h0 x3 m) (fun v w2 hk => ?_)
    obtain ⟨rfl, rfl⟩ := hk
    show J X (0, 0) 100 [(0, .ref (ad a0)), (1, .int x1), (2, .ref (ad a2)), (3, .int x3)] [.ref (ad (v_X3_panelAt a0 x3)), .ref (ad a2)] (fl ad m)
    refine J_callV hX km_X7_overlaps kl_RX3_108 dX3_fits_100 h2 (by decide) [.ref (ad (v_X3_panelAt a0 x3))] ⟨Nat.le_of_ble_eq_true rfl, Nat.le_of_ble_eq_true rfl⟩ rfl rfl (Nat.le_of_ble_eq_true rfl) (c_X7_overlaps a2 h2 (v_X3_panelAt a0 x3) (kv_X3_panelAt h0) m) (fun v w2 hk => ?_)
    obtain ⟨rfl, rfl⟩ := hk
    show J X (0, 0) 103 [(0, .ref (ad a0)), (1, .int x1), (2, .ref (ad a2)), (3, .int x3)] [.int (v_X7_overlaps a2 (v_X3_panelAt a0 x3) m)] (fl ad m)
    refine J_if_eq (tgt := 108) hX dX3_fits_103 (by decide) (fun c7 => ?_) (fun c7 => ?_)
    · replace h := Eq.mp (if_pos c7) h
      refine J_iinc (x := (x3 + (1 : Int32))) (lv2 := [(3, .int (x3 + (1 : Int32))), (0, .ref (ad a0)), (1, .int x1), (2, .ref (ad a2))]) hX dX3_fits_108 3 rfl rfl (Nat.le_of_ble_eq_true rfl) rfl ?_
      refine J_goto (tgt := 89) hX dX3_fits_111 (by decide) ?_
      exact J_sub [1, 2, 3, 0] rfl (hrec (x3 + (1 : Int32)) m h)
    · replace h := Eq.mp (if_neg c7) h
      refine J_iconst (v := (0 : Int32)) hX dX3_fits_106 (by decide) ?_
      exact J_zret hX hR dX3_fits_107 bo_0 ⟨_, _, rfl, rfl, h⟩
set_option maxRecDepth 100000 in
theorem t_X3_fits_l89 {X : XT} {ad : Nat → Nat} {K : Int32 → Mm → Prop} (hX : Cx X cX3_fits 4 RX3 (rmN 1 21)) (hR : Rx X (some .boolean) (kI ad K) (0, 0)) (a0 : Nat) (h0 : kap a0 = 3) (x1 : Int32) (a2 : Nat) (h2 : kap a2 = 7) : ∀ (n : Nat) (x3 : Int32) (m : Mm), wp_X3_fits_l89 K a0 x1 a2 n x3 m → J X (0, 0) 89 [(0, .ref (ad a0)), (1, .int x1), (2, .ref (ad a2)), (3, .int x3)] [] (fl ad m) := by
  intro n
  induction n with
  | zero => intro x3 m h; exact h.elim
  | succ n ih => intro x3 m h; exact tb_X3_fits_l89 hX hR a0 h0 x1 a2 h2 ih x3 m h
set_option maxRecDepth 100000 in
theorem t_X3_fits_j87 {X : XT} {ad : Nat → Nat} {K : Int32 → Mm → Prop} (hX : Cx X cX3_fits 4 RX3 (rmN 1 21)) (hR : Rx X (some .boolean) (kI ad K) (0, 0)) (a0 : Nat) (h0 : kap a0 = 3) (x1 : Int32) (a2 : Nat) (h2 : kap a2 = 7) (m : Mm) (h : wp_X3_fits_j87 K a0 x1 a2 m) : J X (0, 0) 87 [(0, .ref (ad a0)), (1, .int x1), (2, .ref (ad a2))] [] (fl ad m) := by
  unfold wp_X3_fits_j87 at h
  refine J_iconst (v := (0 : Int32)) hX dX3_fits_87 (by decide) ?_
  refine J_istore_n (lv2 := [(3, .int (0 : Int32)), (0, .ref (ad a0)), (1, .int x1), (2, .ref (ad a2))]) hX dX3_fits_88 rfl (Nat.le_of_ble_eq_true rfl) rfl ?_
  refine J_sub [1, 2, 3, 0] rfl (t_X3_fits_l89 hX hR a0 h0 x1 a2 h2 FU (0 : Int32) m h)
set_option maxRecDepth 100000 in
theorem c_X3_fits {G : GT} {ad : Nat → Nat} (a0 : Nat) (h0 : kap a0 = 3) (x1 : Int32) (m : Mm) (K : Int32 → Mm → Prop) (h : wp_X3_fits a0 x1 m K) : Cn G yX3_fits cX3_fits 4 (some .boolean) (rmN 1 21) [.ref (ad a0), .int x1] (0, 0) (fl ad m) (kI ad K) := by
  unfold wp_X3_fits at h
  refine Cn.of pn_RX3 (Nat.le_of_ble_eq_true rfl) (fun X hG hX hR => ?_)
  subst hG
  have hX : Cx X cX3_fits 4 RX3 (rmN 1 21) := hX
  show J X (0, 0) 0 [(0, .ref (ad a0)), (1, .int x1)] [] (fl ad m)
  refine J_aload_n hX dX3_fits_0 rfl 0 rfl ?_
  refine J_iload_n hX dX3_fits_1 rfl 1 rfl ?_
  refine J_callV hX km_X3_panelAt kl_RX3_39 dX3_fits_2 h0 (by decide) [.int x1] ⟨Nat.le_of_ble_eq_true rfl, Nat.le_of_ble_eq_true rfl⟩ rfl rfl (Nat.le_of_ble_eq_true rfl) (c_X3_panelAt a0 h0 x1 m) (fun v w2 hk => ?_)
  obtain ⟨rfl, rfl⟩ := hk
  show J X (0, 0) 5 [(0, .ref (ad a0)), (1, .int x1)] [.ref (ad (v_X3_panelAt a0 x1))] (fl ad m)
  refine J_astore_n (lv2 := [(2, .ref (ad (v_X3_panelAt a0 x1))), (0, .ref (ad a0)), (1, .int x1)]) hX dX3_fits_5 rfl (Nat.le_of_ble_eq_true rfl) rfl ?_
  refine J_aload_n hX dX3_fits_6 rfl 0 rfl ?_
  refine J_getI hX kf_RX3_47 dX3_fits_7 (kv_X3_panelAt h0) (by decide) rfl ?_
  refine J_if_lt (tgt := 52) hX dX3_fits_10 (by decide) (fun c1 => ?_) (fun c1 => ?_)
  · replace h := Eq.mp (if_pos c1) h
    refine J_iconst (v := (0 : Int32)) hX dX3_fits_52 (by decide) ?_
    exact J_zret hX hR dX3_fits_53 bo_0 ⟨_, _, rfl, rfl, h⟩
  · replace h := Eq.mp (if_neg c1) h
    refine J_aload_n hX dX3_fits_13 rfl 0 rfl ?_
    refine J_getI hX kf_RX3_53 dX3_fits_14 (kv_X3_panelAt h0) (by decide) rfl ?_
    refine J_if_lt (tgt := 52) hX dX3_fits_17 (by decide) (fun c2 => ?_) (fun c2 => ?_)
    · replace h := Eq.mp (if_pos c2) h
      refine J_iconst (v := (0 : Int32)) hX dX3_fits_52 (by decide) ?_
      exact J_zret hX hR dX3_fits_53 bo_0 ⟨_, _, rfl, rfl, h⟩
    · replace h := Eq.mp (if_neg c2) h
      refine J_aload_n hX dX3_fits_20 rfl 0 rfl ?_
      refine J_getI hX kf_RX3_47 dX3_fits_21 (kv_X3_panelAt h0) (by decide) rfl ?_
      refine J_aload_n hX dX3_fits_24 rfl 0 rfl ?_
      refine J_getI hX kf_RX3_50 dX3_fits_25 (kv_X3_panelAt h0) (by decide) rfl ?_
      refine J_iadd hX dX3_fits_28 ?_
      refine J_aload_n hX dX3_fits_29 rfl 1 rfl ?_
      refine J_getI hX kf_RX3_18 dX3_fits_30 h0 (by decide) rfl ?_
      refine J_icmp_gt (tgt := 52) hX dX3_fits_33 (by decide) (fun c3 => ?_) (fun c3 => ?_)
      · replace h := Eq.mp (if_pos c3) h
        refine J_iconst (v := (0 : Int32)) hX dX3_fits_52 (by decide) ?_
        exact J_zret hX hR dX3_fits_53 bo_0 ⟨_, _, rfl, rfl, h⟩
      · replace h := Eq.mp (if_neg c3) h
        refine J_aload_n hX dX3_fits_36 rfl 0 rfl ?_
        refine J_getI hX kf_RX3_53 dX3_fits_37 (kv_X3_panelAt h0) (by decide) rfl ?_
        refine J_aload_n hX dX3_fits_40 rfl 0 rfl ?_
        refine J_getI hX kf_RX3_56 dX3_fits_41 (kv_X3_panelAt h0) (by decide) rfl ?_
        refine J_iadd hX dX3_fits_44 ?_
        refine J_aload_n hX dX3_fits_45 rfl 1 rfl ?_
        refine J_getI hX kf_RX3_22 dX3_fits_46 h0 (by decide) rfl ?_
        refine J_icmp_le (tgt := 54) hX dX3_fits_49 (by decide) (fun c4 => ?_) (fun c4 => ?_)
        · replace h := Eq.mp (if_pos c4) h
          refine J_iload_n hX dX3_fits_54 rfl 2 rfl ?_
          refine J_if_le (tgt := 87) hX dX3_fits_55 (by decide) (fun c5 => ?_) (fun c5 => ?_)
          · replace h := Eq.mp (if_pos c5) h
            exact J_sub [1, 2, 0] rfl (t_X3_fits_j87 hX hR a0 h0 x1 (v_X3_panelAt a0 x1) (kv_X3_panelAt h0) m h)
          · replace h := Eq.mp (if_neg c5) h
            refine J_aload_n hX dX3_fits_58 rfl 0 rfl ?_
            refine J_getI hX kf_RX3_91 dX3_fits_59 (kv_X3_panelAt h0) (by decide) rfl ?_
            refine J_aload_n hX dX3_fits_62 rfl 0 rfl ?_
            refine J_getI hX kf_RX3_94 dX3_fits_63 (kv_X3_panelAt h0) (by decide) rfl ?_
            refine J_iadd hX dX3_fits_66 ?_
            refine J_aload_n hX dX3_fits_67 rfl 1 rfl ?_
            refine J_aload_n hX dX3_fits_68 rfl 0 rfl ?_
            refine J_getI hX kf_RX3_69 dX3_fits_69 (kv_X3_panelAt h0) (by decide) rfl ?_
            refine J_callV hX km_X3_panelAt kl_RX3_39 dX3_fits_72 h0 (by decide) [.int (m.1 (v_X3_panelAt a0 x1) 0)] ⟨Nat.le_of_ble_eq_true rfl, Nat.le_of_ble_eq_true rfl⟩ rfl rfl (Nat.le_of_ble_eq_true rfl) (c_X3_panelAt a0 h0 (m.1 (v_X3_panelAt a0 x1) 0) m) (fun v w2 hk => ?_)
            obtain ⟨rfl, rfl⟩ := hk
            show J X (0, 0) 75 [(2, .ref (ad (v_X3_panelAt a0 x1))), (0, .ref (ad a0)), (1, .int x1)] [.ref (ad (v_X3_panelAt a0 (m.1 (v_X3_panelAt a0 x1) 0))), .int ((m.1 (v_X3_panelAt a0 x1) 2) + (m.1 (v_X3_panelAt a0 x1) 3))] (fl ad m)
            refine J_aload_n hX dX3_fits_75 rfl 0 rfl ?_
            refine J_getI hX kf_RX3_72 dX3_fits_76 (kv_X3_panelAt h0) (by decide) rfl ?_
            refine J_callV hX km_X7_sideLength kl_RX3_104 dX3_fits_79 (kv_X3_panelAt h0) (by decide) [.int (m.1 (v_X3_panelAt a0 x1) 1)] ⟨Nat.le_of_ble_eq_true rfl, Nat.le_of_ble_eq_true rfl⟩ rfl rfl (Nat.le_of_ble_eq_true rfl) (c_X7_sideLength (v_X3_panelAt a0 (m.1 (v_X3_panelAt a0 x1) 0)) (kv_X3_panelAt h0) (m.1 (v_X3_panelAt a0 x1) 1) m) (fun v w2 hk => ?_)
            obtain ⟨rfl, rfl⟩ := hk
            show J X (0, 0) 82 [(2, .ref (ad (v_X3_panelAt a0 x1))), (0, .ref (ad a0)), (1, .int x1)] [.int (v_X7_sideLength (v_X3_panelAt a0 (m.1 (v_X3_panelAt a0 x1) 0)) (m.1 (v_X3_panelAt a0 x1) 1) m), .int ((m.1 (v_X3_panelAt a0 x1) 2) + (m.1 (v_X3_panelAt a0 x1) 3))] (fl ad m)
            refine J_icmp_le (tgt := 87) hX dX3_fits_82 (by decide) (fun c8 => ?_) (fun c8 => ?_)
            · replace h := Eq.mp (if_pos c8) h
              exact J_sub [1, 2, 0] rfl (t_X3_fits_j87 hX hR a0 h0 x1 (v_X3_panelAt a0 x1) (kv_X3_panelAt h0) m h)
            · replace h := Eq.mp (if_neg c8) h
              refine J_iconst (v := (0 : Int32)) hX dX3_fits_85 (by decide) ?_
              exact J_zret hX hR dX3_fits_86 bo_0 ⟨_, _, rfl, rfl, h⟩
        · replace h := Eq.mp (if_neg c4) h
          refine J_iconst (v := (0 : Int32)) hX dX3_fits_52 (by decide) ?_
          exact J_zret hX hR dX3_fits_53 bo_0 ⟨_, _, rfl, rfl, h⟩
set_option maxRecDepth 100000 in
theorem c_X3_hangFault {G : GT} {ad : Nat → Nat} (a0 : Nat) (h0 : kap a0 = 3) (x1 : Int32) (x2 : Int32) (x3 : Int32) (x4 : Int32) (x5 : Int32) (x6 : Int32) (m : Mm) (K : Int32 → Mm → Prop) (h : wp_X3_hangFault a0 x1 x2 x3 x4 x5 x6 m K) : Cn G yX3_hangFault cX3_hangFault 7 (some .int) (rmN 2 49) [.ref (ad a0), .int x1, .int x2, .int x3, .int x4, .int x5, .int x6] (0, 0) (fl ad m) (kI ad K) := by
  unfold wp_X3_hangFault at h
  refine Cn.of pn_RX3 (Nat.le_of_ble_eq_true rfl) (fun X hG hX hR => ?_)
  subst hG
  have hX : Cx X cX3_hangFault 7 RX3 (rmN 2 49) := hX
  show J X (0, 0) 0 [(0, .ref (ad a0)), (1, .int x1), (2, .int x2), (3, .int x3), (4, .int x4), (5, .int x5), (6, .int x6)] [] (fl ad m)
  refine J_aload_n hX dX3_hangFault_0 rfl 0 rfl ?_
  refine J_iload_n hX dX3_hangFault_1 rfl 1 rfl ?_
  refine J_callV hX km_X3_has kl_RX3_78 dX3_hangFault_2 h0 (by decide) [.int x1] ⟨Nat.le_of_ble_eq_true rfl, Nat.le_of_ble_eq_true rfl⟩ rfl rfl (Nat.le_of_ble_eq_true rfl) (c_X3_has a0 h0 x1 m) (fun v w2 hk => ?_)
  obtain ⟨rfl, rfl⟩ := hk
  show J X (0, 0) 5 [(0, .ref (ad a0)), (1, .int x1), (2, .int x2), (3, .int x3), (4, .int x4), (5, .int x5), (6, .int x6)] [.int (v_X3_has a0 x1 m)] (fl ad m)
  refine J_if_eq (tgt := 48) hX dX3_hangFault_5 (by decide) (fun c1 => ?_) (fun c1 => ?_)
  · replace h := Eq.mp (if_pos c1) h
    refine J_iconst (v := (-1 : Int32)) hX dX3_hangFault_48 (by decide) ?_
    exact J_iret hX hR dX3_hangFault_49 ⟨_, _, rfl, rfl, h⟩
  · replace h := Eq.mp (if_neg c1) h
    refine J_iload_n hX dX3_hangFault_8 rfl 2 rfl ?_
    refine J_if_lt (tgt := 48) hX dX3_hangFault_9 (by decide) (fun c2 => ?_) (fun c2 => ?_)
    · replace h := Eq.mp (if_pos c2) h
      refine J_iconst (v := (-1 : Int32)) hX dX3_hangFault_48 (by decide) ?_
      exact J_iret hX hR dX3_hangFault_49 ⟨_, _, rfl, rfl, h⟩
    · replace h := Eq.mp (if_neg c2) h
      refine J_iload_n hX dX3_hangFault_12 rfl 2 rfl ?_
      refine J_iconst (v := (3 : Int32)) hX dX3_hangFault_13 (by decide) ?_
      refine J_icmp_gt (tgt := 48) hX dX3_hangFault_14 (by decide) (fun c3 => ?_) (fun c3 => ?_)
      · replace h := Eq.mp (if_pos c3) h
        refine J_iconst (v := (-1 : Int32)) hX dX3_hangFault_48 (by decide) ?_
        exact J_iret hX hR dX3_hangFault_49 ⟨_, _, rfl, rfl, h⟩
      · replace h := Eq.mp (if_neg c3) h
        refine J_iload_n hX dX3_hangFault_17 rfl 3 rfl ?_
        refine J_callSN hX km_X11_isOffset kl_RX3_59 dX3_hangFault_18 [.int x3] ⟨Nat.le_of_ble_eq_true rfl, Nat.le_of_ble_eq_true rfl⟩ rfl rfl (Nat.le_of_ble_eq_true rfl) (c_X11_isOffset x3 m) (fun v w2 hk => ?_)
        obtain ⟨rfl, rfl⟩ := hk
        show J X (0, 0) 21 [(0, .ref (ad a0)), (1, .int x1), (2, .int x2), (3, .int x3), (4, .int x4), (5, .int x5), (6, .int x6)] [.int (v_X11_isOffset x3)] (fl ad m)
        refine J_if_eq (tgt := 48) hX dX3_hangFault_21 (by decide) (fun c4 => ?_) (fun c4 => ?_)
        · replace h := Eq.mp (if_pos c4) h
          refine J_iconst (v := (-1 : Int32)) hX dX3_hangFault_48 (by decide) ?_
          exact J_iret hX hR dX3_hangFault_49 ⟨_, _, rfl, rfl, h⟩
        · replace h := Eq.mp (if_neg c4) h
          refine J_iload hX dX3_hangFault_24 4 rfl ?_
          refine J_callSN hX km_X11_isLength kl_RX3_63 dX3_hangFault_26 [.int x4] ⟨Nat.le_of_ble_eq_true rfl, Nat.le_of_ble_eq_true rfl⟩ rfl rfl (Nat.le_of_ble_eq_true rfl) (c_X11_isLength x4 m) (fun v w2 hk => ?_)
          obtain ⟨rfl, rfl⟩ := hk
          show J X (0, 0) 29 [(0, .ref (ad a0)), (1, .int x1), (2, .int x2), (3, .int x3), (4, .int x4), (5, .int x5), (6, .int x6)] [.int (v_X11_isLength x4)] (fl ad m)
          refine J_if_eq (tgt := 48) hX dX3_hangFault_29 (by decide) (fun c5 => ?_) (fun c5 => ?_)
          · replace h := Eq.mp (if_pos c5) h
            refine J_iconst (v := (-1 : Int32)) hX dX3_hangFault_48 (by decide) ?_
            exact J_iret hX hR dX3_hangFault_49 ⟨_, _, rfl, rfl, h⟩
          · replace h := Eq.mp (if_neg c5) h
            refine J_iload hX dX3_hangFault_32 5 rfl ?_
            refine J_callSN hX km_X11_isLength kl_RX3_63 dX3_hangFault_34 [.int x5] ⟨Nat.le_of_ble_eq_true rfl, Nat.le_of_ble_eq_true rfl⟩ rfl rfl (Nat.le_of_ble_eq_true rfl) (c_X11_isLength x5 m) (fun v w2 hk => ?_)
            obtain ⟨rfl, rfl⟩ := hk
            show J X (0, 0) 37 [(0, .ref (ad a0)), (1, .int x1), (2, .int x2), (3, .int x3), (4, .int x4), (5, .int x5), (6, .int x6)] [.int (v_X11_isLength x5)] (fl ad m)
            refine J_if_eq (tgt := 48) hX dX3_hangFault_37 (by decide) (fun c6 => ?_) (fun c6 => ?_)
            · replace h := Eq.mp (if_pos c6) h
              refine J_iconst (v := (-1 : Int32)) hX dX3_hangFault_48 (by decide) ?_
              exact J_iret hX hR dX3_hangFault_49 ⟨_, _, rfl, rfl, h⟩
            · replace h := Eq.mp (if_neg c6) h
              refine J_iload hX dX3_hangFault_40 6 rfl ?_
              refine J_callSN hX km_X11_isAngle kl_RX3_81 dX3_hangFault_42 [.int x6] ⟨Nat.le_of_ble_eq_true rfl, Nat.le_of_ble_eq_true rfl⟩ rfl rfl (Nat.le_of_ble_eq_true rfl) (c_X11_isAngle x6 m) (fun v w2 hk => ?_)
              obtain ⟨rfl, rfl⟩ := hk
              show J X (0, 0) 45 [(0, .ref (ad a0)), (1, .int x1), (2, .int x2), (3, .int x3), (4, .int x4), (5, .int x5), (6, .int x6)] [.int (v_X11_isAngle x6)] (fl ad m)
              refine J_if_ne (tgt := 50) hX dX3_hangFault_45 (by decide) (fun c7 => ?_) (fun c7 => ?_)
              · replace h := Eq.mp (if_neg c7) h
                refine J_aload_n hX dX3_hangFault_50 rfl 0 rfl ?_
                refine J_getI hX kf_RX3_25 dX3_hangFault_51 h0 (by decide) rfl ?_
                refine J_bipush (v := (10 : Int32)) hX dX3_hangFault_54 (by decide) ?_
                refine J_icmp_lt (tgt := 62) hX dX3_hangFault_56 (by decide) (fun c8 => ?_) (fun c8 => ?_)
                · replace h := Eq.mp (if_pos c8) h
                  refine J_aload_n hX dX3_hangFault_62 rfl 0 rfl ?_
                  refine J_iload_n hX dX3_hangFault_63 rfl 1 rfl ?_
                  refine J_iload_n hX dX3_hangFault_64 rfl 2 rfl ?_
                  refine J_iload_n hX dX3_hangFault_65 rfl 3 rfl ?_
                  refine J_iload hX dX3_hangFault_66 4 rfl ?_
                  refine J_iload hX dX3_hangFault_68 5 rfl ?_
                  refine J_iload hX dX3_hangFault_70 6 rfl ?_
                  refine J_callV hX km_X3_draft kl_RX3_84 dX3_hangFault_72 h0 (by decide) [.int x1, .int x2, .int x3, .int x4, .int x5, .int x6] ⟨Nat.le_of_ble_eq_true rfl, Nat.le_of_ble_eq_true rfl⟩ rfl rfl (Nat.le_of_ble_eq_true rfl) (c_X3_draft a0 h0 x1 x2 x3 x4 x5 x6 m _ h) (fun v w2 hk => ?_)
                  obtain ⟨m9, rfl, rfl, h⟩ := hk
                  show J X (0, 0) 75 [(0, .ref (ad a0)), (1, .int x1), (2, .int x2), (3, .int x3), (4, .int x4), (5, .int x5), (6, .int x6)] [] (fl ad m9)
                  refine J_aload_n hX dX3_hangFault_75 rfl 0 rfl ?_
                  refine J_aload_n hX dX3_hangFault_76 rfl 0 rfl ?_
                  refine J_getI hX kf_RX3_25 dX3_hangFault_77 h0 (by decide) rfl ?_
                  refine J_callV hX km_X3_fits kl_RX3_88 dX3_hangFault_80 h0 (by decide) [.int (m9.1 a0 4)] ⟨Nat.le_of_ble_eq_true rfl, Nat.le_of_ble_eq_true rfl⟩ rfl rfl (Nat.le_of_ble_eq_true rfl) (c_X3_fits a0 h0 (m9.1 a0 4) m9 _ h) (fun v w2 hk => ?_)
                  obtain ⟨y11, m10, rfl, rfl, h⟩ := hk
                  show J X (0, 0) 83 [(0, .ref (ad a0)), (1, .int x1), (2, .int x2), (3, .int x3), (4, .int x4), (5, .int x5), (6, .int x6)] [.int y11] (fl ad m10)
                  have hj14 : ∀ y13 : Int32, y13 = (if y11 = (0 : Int32) then (-4 : Int32) else (0 : Int32)) → J X (0, 0) 92 [] [.int y13] (fl ad m10) := by
                    intro y13 e_y13
                    replace h := h y13 e_y13
                    exact J_iret hX hR dX3_hangFault_92 ⟨_, _, rfl, rfl, h⟩
                  refine J_if_eq (tgt := 90) hX dX3_hangFault_83 (by decide) (fun c12 => ?_) (fun c12 => ?_)
                  · refine J_bipush (v := (-4 : Int32)) hX dX3_hangFault_90 (by decide) ?_
                    exact J_sub [] rfl (hj14 _ (if_pos c12).symm)
                  · refine J_iconst (v := (0 : Int32)) hX dX3_hangFault_86 (by decide) ?_
                    refine J_goto (tgt := 92) hX dX3_hangFault_87 (by decide) ?_
                    exact J_sub [] rfl (hj14 _ (if_neg c12).symm)
                · replace h := Eq.mp (if_neg c8) h
                  refine J_bipush (v := (-3 : Int32)) hX dX3_hangFault_59 (by decide) ?_
                  exact J_iret hX hR dX3_hangFault_61 ⟨_, _, rfl, rfl, h⟩
              · replace h := Eq.mp (if_pos c7) h
                refine J_iconst (v := (-1 : Int32)) hX dX3_hangFault_48 (by decide) ?_
                exact J_iret hX hR dX3_hangFault_49 ⟨_, _, rfl, rfl, h⟩
set_option maxRecDepth 100000 in
theorem c_X7_become {G : GT} {ad : Nat → Nat} (a0 : Nat) (h0 : kap a0 = 7) (a1 : Nat) (h1 : kap a1 = 7) (m : Mm) (K : Mm → Prop) (h : wp_X7_become a0 a1 m K) : Cn G yX7_become cX7_become 2 none (rmN 0 0) [.ref (ad a0), .ref (ad a1)] (0, 0) (fl ad m) (kV ad K) := by
  unfold wp_X7_become at h
  refine Cn.of pn_RX7 (Nat.le_of_ble_eq_true rfl) (fun X hG hX hR => ?_)
  subst hG
  have hX : Cx X cX7_become 2 RX7 (rmN 0 0) := hX
  show J X (0, 0) 0 [(0, .ref (ad a0)), (1, .ref (ad a1))] [] (fl ad m)
  refine J_aload_n hX dX7_become_0 rfl 0 rfl ?_
  refine J_aload_n hX dX7_become_1 rfl 1 rfl ?_
  refine J_getI hX kf_RX7_9 dX7_become_2 h1 (by decide) rfl ?_
  refine J_putI hX kf_RX7_9 dX7_become_5 h0 (by decide) rfl ?_
  refine J_nmM (fun m1 e_m1 => ?_)
  replace h := h m1 e_m1
  refine J_aload_n hX dX7_become_8 rfl 0 rfl ?_
  refine J_aload_n hX dX7_become_9 rfl 1 rfl ?_
  refine J_getI hX kf_RX7_15 dX7_become_10 h1 (by decide) rfl ?_
  refine J_putI hX kf_RX7_15 dX7_become_13 h0 (by decide) rfl ?_
  refine J_nmM (fun m2 e_m2 => ?_)
  replace h := h m2 e_m2
  refine J_aload_n hX dX7_become_16 rfl 0 rfl ?_
  refine J_aload_n hX dX7_become_17 rfl 1 rfl ?_
  refine J_getI hX kf_RX7_24 dX7_become_18 h1 (by decide) rfl ?_
  refine J_putI hX kf_RX7_24 dX7_become_21 h0 (by decide) rfl ?_
  refine J_nmM (fun m3 e_m3 => ?_)
  replace h := h m3 e_m3
  refine J_aload_n hX dX7_become_24 rfl 0 rfl ?_
  refine J_aload_n hX dX7_become_25 rfl 1 rfl ?_
  refine J_getI hX kf_RX7_27 dX7_become_26 h1 (by decide) rfl ?_
  refine J_putI hX kf_RX7_27 dX7_become_29 h0 (by decide) rfl ?_
  refine J_nmM (fun m4 e_m4 => ?_)
  replace h := h m4 e_m4
  refine J_aload_n hX dX7_become_32 rfl 0 rfl ?_
  refine J_aload_n hX dX7_become_33 rfl 1 rfl ?_
  refine J_getI hX kf_RX7_30 dX7_become_34 h1 (by decide) rfl ?_
  refine J_putI hX kf_RX7_30 dX7_become_37 h0 (by decide) rfl ?_
  refine J_nmM (fun m5 e_m5 => ?_)
  replace h := h m5 e_m5
  refine J_aload_n hX dX7_become_40 rfl 0 rfl ?_
  refine J_aload_n hX dX7_become_41 rfl 1 rfl ?_
  refine J_getI hX kf_RX7_33 dX7_become_42 h1 (by decide) rfl ?_
  refine J_putI hX kf_RX7_33 dX7_become_45 h0 (by decide) rfl ?_
  refine J_nmM (fun m6 e_m6 => ?_)
  replace h := h m6 e_m6
  refine J_aload_n hX dX7_become_48 rfl 0 rfl ?_
  refine J_aload_n hX dX7_become_49 rfl 1 rfl ?_
  refine J_getI hX kf_RX7_18 dX7_become_50 h1 (by decide) rfl ?_
  refine J_putI hX kf_RX7_18 dX7_become_53 h0 (by decide) rfl ?_
  refine J_nmM (fun m7 e_m7 => ?_)
  replace h := h m7 e_m7
  refine J_aload_n hX dX7_become_56 rfl 0 rfl ?_
  refine J_aload_n hX dX7_become_57 rfl 1 rfl ?_
  refine J_getI hX kf_RX7_21 dX7_become_58 h1 (by decide) rfl ?_
  refine J_putI hX kf_RX7_21 dX7_become_61 h0 (by decide) rfl ?_
  refine J_nmM (fun m8 e_m8 => ?_)
  replace h := h m8 e_m8
  refine J_aload_n hX dX7_become_64 rfl 0 rfl ?_
  refine J_aload_n hX dX7_become_65 rfl 1 rfl ?_
  refine J_getI hX kf_RX7_36 dX7_become_66 h1 (by decide) rfl ?_
  refine J_putI hX kf_RX7_36 dX7_become_69 h0 (by decide) rfl ?_
  refine J_nmM (fun m9 e_m9 => ?_)
  replace h := h m9 e_m9
  refine J_aload_n hX dX7_become_72 rfl 0 rfl ?_
  refine J_aload_n hX dX7_become_73 rfl 1 rfl ?_
  refine J_getI hX kf_RX7_39 dX7_become_74 h1 (by decide) rfl ?_
  refine J_putI hX kf_RX7_39 dX7_become_77 h0 (by decide) rfl ?_
  refine J_nmM (fun m10 e_m10 => ?_)
  replace h := h m10 e_m10
  refine J_aload_n hX dX7_become_80 rfl 0 rfl ?_
  refine J_aload_n hX dX7_become_81 rfl 1 rfl ?_
  refine J_getI hX kf_RX7_42 dX7_become_82 h1 (by decide) rfl ?_
  refine J_putI hX kf_RX7_42 dX7_become_85 h0 (by decide) rfl ?_
  refine J_nmM (fun m11 e_m11 => ?_)
  replace h := h m11 e_m11
  refine J_aload_n hX dX7_become_88 rfl 0 rfl ?_
  refine J_aload_n hX dX7_become_89 rfl 1 rfl ?_
  refine J_getI hX kf_RX7_45 dX7_become_90 h1 (by decide) rfl ?_
  refine J_putI hX kf_RX7_45 dX7_become_93 h0 (by decide) rfl ?_
  refine J_nmM (fun m12 e_m12 => ?_)
  replace h := h m12 e_m12
  refine J_aload_n hX dX7_become_96 rfl 0 rfl ?_
  refine J_aload_n hX dX7_become_97 rfl 1 rfl ?_
  refine J_getI hX kf_RX7_48 dX7_become_98 h1 (by decide) rfl ?_
  refine J_putI hX kf_RX7_48 dX7_become_101 h0 (by decide) rfl ?_
  refine J_nmM (fun m13 e_m13 => ?_)
  replace h := h m13 e_m13
  refine J_aload_n hX dX7_become_104 rfl 0 rfl ?_
  refine J_aload_n hX dX7_become_105 rfl 1 rfl ?_
  refine J_getI hX kf_RX7_51 dX7_become_106 h1 (by decide) rfl ?_
  refine J_putI hX kf_RX7_51 dX7_become_109 h0 (by decide) rfl ?_
  refine J_nmM (fun m14 e_m14 => ?_)
  replace h := h m14 e_m14
  refine J_aload_n hX dX7_become_112 rfl 0 rfl ?_
  refine J_aload_n hX dX7_become_113 rfl 1 rfl ?_
  refine J_getI hX kf_RX7_54 dX7_become_114 h1 (by decide) rfl ?_
  refine J_putI hX kf_RX7_54 dX7_become_117 h0 (by decide) rfl ?_
  refine J_nmM (fun m15 e_m15 => ?_)
  replace h := h m15 e_m15
  exact J_vret hX hR dX7_become_120 ⟨_, rfl, rfl, h⟩
set_option maxRecDepth 100000 in
theorem tb_X3_become_l26 {X : XT} {ad : Nat → Nat} {K : Mm → Prop} (hX : Cx X cX3_become 3 RX3 (rmN 1 21)) (hR : Rx X none (kV ad K) (0, 0)) {rec : Int32 → Mm → Prop} {k53 : Mm → Prop} (a0 : Nat) (h0 : kap a0 = 3) (a1 : Nat) (h1 : kap a1 = 3) (hrec : ∀ (x2 : Int32) (m : Mm), rec x2 m → J X (0, 0) 26 [(0, .ref (ad a0)), (1, .ref (ad a1)), (2, .int x2)] [] (fl ad m)) (hk53 : ∀ (m : Mm), k53 m → J X (0, 0) 53 [(0, .ref (ad a0)), (1, .ref (ad a1))] [] (fl ad m)) (x2 : Int32) (m : Mm) (h : wb_X3_become_l26 rec k53 K a0 a1 x2 m) : J X (0, 0) 26 [(0, .ref (ad a0)), (1, .ref (ad a1)), (2, .int x2)] [] (fl ad m) := by
  unfold wb_X3_become_l26 at h
  refine J_iload_n hX dX3_become_26 rfl 2 rfl ?_
  refine J_aload_n hX dX3_become_27 rfl 0 rfl ?_
  refine J_getI hX kf_RX3_25 dX3_become_28 h0 (by decide) rfl ?_
  refine J_icmp_ge (tgt := 53) hX dX3_become_31 (by decide) (fun c4 => ?_) (fun c4 => ?_)
  · replace h := Eq.mp (if_pos c4) h
    exact J_sub [0, 1] rfl (hk53 m h)
  · replace h := Eq.mp (if_neg c4) h
    refine J_aload_n hX dX3_become_34 rfl 0 rfl ?_
    refine J_iload_n hX dX3_become_35 rfl 2 rfl ?_
    refine J_callV hX km_X3_panelAt kl_RX3_39 dX3_become_36 h0 (by decide) [.int x2] ⟨Nat.le_of_ble_eq_true rfl, Nat.le_of_ble_eq_true rfl⟩ rfl rfl (Nat.le_of_ble_eq_true rfl) (c_X3_panelAt a0 h0 x2 m) (fun v w2 hk => ?_)
    obtain ⟨rfl, rfl⟩ := hk
    show J X (0, 0) 39 [(0, .ref (ad a0)), (1, .ref (ad a1)), (2, .int x2)] [.ref (ad (v_X3_panelAt a0 x2))] (fl ad m)
    refine J_aload_n hX dX3_become_39 rfl 1 rfl ?_
    refine J_iload_n hX dX3_become_40 rfl 2 rfl ?_
    refine J_callV hX km_X3_panelAt kl_RX3_39 dX3_become_41 h1 (by decide) [.int x2] ⟨Nat.le_of_ble_eq_true rfl, Nat.le_of_ble_eq_true rfl⟩ rfl rfl (Nat.le_of_ble_eq_true rfl) (c_X3_panelAt a1 h1 x2 m) (fun v w2 hk => ?_)
    obtain ⟨rfl, rfl⟩ := hk
    show J X (0, 0) 44 [(0, .ref (ad a0)), (1, .ref (ad a1)), (2, .int x2)] [.ref (ad (v_X3_panelAt a1 x2)), .ref (ad (v_X3_panelAt a0 x2))] (fl ad m)
    refine J_callV hX km_X7_become kl_RX3_43 dX3_become_44 (kv_X3_panelAt h0) (by decide) [.ref (ad (v_X3_panelAt a1 x2))] ⟨Nat.le_of_ble_eq_true rfl, Nat.le_of_ble_eq_true rfl⟩ rfl rfl (Nat.le_of_ble_eq_true rfl) (c_X7_become (v_X3_panelAt a0 x2) (kv_X3_panelAt h0) (v_X3_panelAt a1 x2) (kv_X3_panelAt h1) m _ h) (fun v w2 hk => ?_)
    obtain ⟨m5, rfl, rfl, h⟩ := hk
    show J X (0, 0) 47 [(0, .ref (ad a0)), (1, .ref (ad a1)), (2, .int x2)] [] (fl ad m5)
    refine J_iinc (x := (x2 + (1 : Int32))) (lv2 := [(2, .int (x2 + (1 : Int32))), (0, .ref (ad a0)), (1, .ref (ad a1))]) hX dX3_become_47 2 rfl rfl (Nat.le_of_ble_eq_true rfl) rfl ?_
    refine J_goto (tgt := 26) hX dX3_become_50 (by decide) ?_
    exact J_sub [1, 2, 0] rfl (hrec (x2 + (1 : Int32)) m5 h)
set_option maxRecDepth 100000 in
theorem t_X3_become_l26 {X : XT} {ad : Nat → Nat} {K : Mm → Prop} (hX : Cx X cX3_become 3 RX3 (rmN 1 21)) (hR : Rx X none (kV ad K) (0, 0)) {k53 : Mm → Prop} (a0 : Nat) (h0 : kap a0 = 3) (a1 : Nat) (h1 : kap a1 = 3) (hk53 : ∀ (m : Mm), k53 m → J X (0, 0) 53 [(0, .ref (ad a0)), (1, .ref (ad a1))] [] (fl ad m)) : ∀ (n : Nat) (x2 : Int32) (m : Mm), wp_X3_become_l26 k53 K a0 a1 n x2 m → J X (0, 0) 26 [(0, .ref (ad a0)), (1, .ref (ad a1)), (2, .int x2)] [] (fl ad m) := by
  intro n
  induction n with
  | zero => intro x2 m h; exact h.elim
  | succ n ih => intro x2 m h; exact tb_X3_become_l26 hX hR a0 h0 a1 h1 ih hk53 x2 m h
set_option maxRecDepth 100000 in
theorem tb_X3_become_l55 {X : XT} {ad : Nat → Nat} {K : Mm → Prop} (hX : Cx X cX3_become 3 RX3 (rmN 1 21)) (hR : Rx X none (kV ad K) (0, 0)) {rec : Int32 → Mm → Prop} (a0 : Nat) (h0 : kap a0 = 3) (a1 : Nat) (h1 : kap a1 = 3) (hrec : ∀ (x2 : Int32) (m : Mm), rec x2 m → J X (0, 0) 55 [(0, .ref (ad a0)), (1, .ref (ad a1)), (2, .int x2)] [] (fl ad m)) (x2 : Int32) (m : Mm) (h : wb_X3_become_l55 rec K a0 a1 x2 m) : J X (0, 0) 55 [(0, .ref (ad a0)), (1, .ref (ad a1)), (2, .int x2)] [] (fl ad m) := by
  unfold wb_X3_become_l55 at h
  refine J_iload_n hX dX3_become_55 rfl 2 rfl ?_
  refine J_iconst (v := (4 : Int32)) hX dX3_become_56 (by decide) ?_
  refine J_icmp_ge (tgt := 90) hX dX3_become_57 (by decide) (fun c7 => ?_) (fun c7 => ?_)
  · replace h := Eq.mp (if_pos c7) h
    exact J_vret hX hR dX3_become_90 ⟨_, rfl, rfl, h⟩
  · replace h := Eq.mp (if_neg c7) h
    refine J_aload_n hX dX3_become_60 rfl 0 rfl ?_
    refine J_getR hX kf_RX3_9 dX3_become_61 h0 (by decide) rfl (ro_3_0 h0) ?_
    refine J_iload_n hX dX3_become_64 rfl 2 rfl ?_
    refine J_aload_n hX dX3_become_65 rfl 1 rfl ?_
    refine J_getR hX kf_RX3_9 dX3_become_66 h1 (by decide) rfl (ro_3_0 h1) ?_
    refine J_iload_n hX dX3_become_69 rfl 2 rfl ?_
    obtain ⟨b8, h⟩ := h
    refine J_iald (j := x2.toNatClampNeg) hX dX3_become_70 (ko_3_0 h1) (lo_3_0 h1) b8 rfl ?_
    refine J_iast (j := x2.toNatClampNeg) hX dX3_become_71 (ko_3_0 h0) (lo_3_0 h0) b8 rfl ?_
    refine J_nmM (fun m9 e_m9 => ?_)
    replace h := h m9 e_m9
    refine J_aload_n hX dX3_become_72 rfl 0 rfl ?_
    refine J_getR hX kf_RX3_15 dX3_become_73 h0 (by decide) rfl (ro_3_1 h0) ?_
    refine J_iload_n hX dX3_become_76 rfl 2 rfl ?_
    refine J_aload_n hX dX3_become_77 rfl 1 rfl ?_
    refine J_getR hX kf_RX3_15 dX3_become_78 h1 (by decide) rfl (ro_3_1 h1) ?_
    refine J_iload_n hX dX3_become_81 rfl 2 rfl ?_
    refine J_iald (j := x2.toNatClampNeg) hX dX3_become_82 (ko_3_1 h1) (lo_3_1 h1) b8 rfl ?_
    refine J_iast (j := x2.toNatClampNeg) hX dX3_become_83 (ko_3_1 h0) (lo_3_1 h0) b8 rfl ?_
    refine J_nmM (fun m10 e_m10 => ?_)
    replace h := h m10 e_m10
    refine J_iinc (x := (x2 + (1 : Int32))) (lv2 := [(2, .int (x2 + (1 : Int32))), (0, .ref (ad a0)), (1, .ref (ad a1))]) hX dX3_become_84 2 rfl rfl (Nat.le_of_ble_eq_true rfl) rfl ?_
    refine J_goto (tgt := 55) hX dX3_become_87 (by decide) ?_
    exact J_sub [1, 2, 0] rfl (hrec (x2 + (1 : Int32)) m10 h)
set_option maxRecDepth 100000 in
theorem t_X3_become_l55 {X : XT} {ad : Nat → Nat} {K : Mm → Prop} (hX : Cx X cX3_become 3 RX3 (rmN 1 21)) (hR : Rx X none (kV ad K) (0, 0)) (a0 : Nat) (h0 : kap a0 = 3) (a1 : Nat) (h1 : kap a1 = 3) : ∀ (n : Nat) (x2 : Int32) (m : Mm), wp_X3_become_l55 K a0 a1 n x2 m → J X (0, 0) 55 [(0, .ref (ad a0)), (1, .ref (ad a1)), (2, .int x2)] [] (fl ad m) := by
  intro n
  induction n with
  | zero => intro x2 m h; exact h.elim
  | succ n ih => intro x2 m h; exact tb_X3_become_l55 hX hR a0 h0 a1 h1 ih x2 m h
set_option maxRecDepth 100000 in
theorem c_X3_become {G : GT} {ad : Nat → Nat} (a0 : Nat) (h0 : kap a0 = 3) (a1 : Nat) (h1 : kap a1 = 3) (m : Mm) (K : Mm → Prop) (h : wp_X3_become a0 a1 m K) : Cn G yX3_become cX3_become 3 none (rmN 1 21) [.ref (ad a0), .ref (ad a1)] (0, 0) (fl ad m) (kV ad K) := by
  unfold wp_X3_become at h
  refine Cn.of pn_RX3 (Nat.le_of_ble_eq_true rfl) (fun X hG hX hR => ?_)
  subst hG
  have hX : Cx X cX3_become 3 RX3 (rmN 1 21) := hX
  show J X (0, 0) 0 [(0, .ref (ad a0)), (1, .ref (ad a1))] [] (fl ad m)
  refine J_aload_n hX dX3_become_0 rfl 0 rfl ?_
  refine J_aload_n hX dX3_become_1 rfl 1 rfl ?_
  refine J_getI hX kf_RX3_18 dX3_become_2 h1 (by decide) rfl ?_
  refine J_putI hX kf_RX3_18 dX3_become_5 h0 (by decide) rfl ?_
  refine J_nmM (fun m1 e_m1 => ?_)
  replace h := h m1 e_m1
  refine J_aload_n hX dX3_become_8 rfl 0 rfl ?_
  refine J_aload_n hX dX3_become_9 rfl 1 rfl ?_
  refine J_getI hX kf_RX3_22 dX3_become_10 h1 (by decide) rfl ?_
  refine J_putI hX kf_RX3_22 dX3_become_13 h0 (by decide) rfl ?_
  refine J_nmM (fun m2 e_m2 => ?_)
  replace h := h m2 e_m2
  refine J_aload_n hX dX3_become_16 rfl 0 rfl ?_
  refine J_aload_n hX dX3_become_17 rfl 1 rfl ?_
  refine J_getI hX kf_RX3_25 dX3_become_18 h1 (by decide) rfl ?_
  refine J_putI hX kf_RX3_25 dX3_become_21 h0 (by decide) rfl ?_
  refine J_nmM (fun m3 e_m3 => ?_)
  replace h := h m3 e_m3
  refine J_iconst (v := (0 : Int32)) hX dX3_become_24 (by decide) ?_
  refine J_istore_n (lv2 := [(2, .int (0 : Int32)), (0, .ref (ad a0)), (1, .ref (ad a1))]) hX dX3_become_25 rfl (Nat.le_of_ble_eq_true rfl) rfl ?_
  refine J_sub [1, 2, 0] rfl (t_X3_become_l26 hX hR a0 h0 a1 h1 (fun m6 h => ?_) FU (0 : Int32) m3 h)
  refine J_iconst (v := (0 : Int32)) hX dX3_become_53 (by decide) ?_
  refine J_istore_n (lv2 := [(2, .int (0 : Int32)), (0, .ref (ad a0)), (1, .ref (ad a1))]) hX dX3_become_54 rfl (Nat.le_of_ble_eq_true rfl) rfl ?_
  refine J_sub [1, 2, 0] rfl (t_X3_become_l55 hX hR a0 h0 a1 h1 FU (0 : Int32) m6 h)
set_option maxRecDepth 100000 in
theorem tb_X6_copy_l2 {X : XT} {ad : Nat → Nat} {K : Mm → Prop} (hX : Cx X cX6_copy 3 RX6 (rmN 0 0)) (hR : Rx X none (kV ad K) (0, 0)) {rec : Int32 → Mm → Prop} (a0 : Nat) (h0 : kap a0 = 20) (a1 : Nat) (h1 : kap a1 = 20) (hrec : ∀ (x2 : Int32) (m : Mm), rec x2 m → J X (0, 0) 2 [(0, .ref (ad a0)), (1, .ref (ad a1)), (2, .int x2)] [] (fl ad m)) (x2 : Int32) (m : Mm) (h : wb_X6_copy_l2 rec K a0 a1 x2 m) : J X (0, 0) 2 [(0, .ref (ad a0)), (1, .ref (ad a1)), (2, .int x2)] [] (fl ad m) := by
  unfold wb_X6_copy_l2 at h
  refine J_iload_n hX dX6_copy_2 rfl 2 rfl ?_
  refine J_aload_n hX dX6_copy_3 rfl 0 rfl ?_
  refine J_alen (v := (Int32.ofNat (len a0))) hX dX6_copy_4 h0 (by decide) rfl rfl ?_
  refine J_icmp_ge (tgt := 26) hX dX6_copy_5 (by decide) (fun c1 => ?_) (fun c1 => ?_)
  · replace h := Eq.mp (if_pos c1) h
    exact J_vret hX hR dX6_copy_26 ⟨_, rfl, rfl, h⟩
  · replace h := Eq.mp (if_neg c1) h
    refine J_iload_n hX dX6_copy_8 rfl 2 rfl ?_
    refine J_aload_n hX dX6_copy_9 rfl 1 rfl ?_
    refine J_alen (v := (Int32.ofNat (len a1))) hX dX6_copy_10 h1 (by decide) rfl rfl ?_
    refine J_icmp_ge (tgt := 26) hX dX6_copy_11 (by decide) (fun c2 => ?_) (fun c2 => ?_)
    · replace h := Eq.mp (if_pos c2) h
      exact J_vret hX hR dX6_copy_26 ⟨_, rfl, rfl, h⟩
    · replace h := Eq.mp (if_neg c2) h
      refine J_aload_n hX dX6_copy_14 rfl 1 rfl ?_
      refine J_iload_n hX dX6_copy_15 rfl 2 rfl ?_
      refine J_aload_n hX dX6_copy_16 rfl 0 rfl ?_
      refine J_iload_n hX dX6_copy_17 rfl 2 rfl ?_
      obtain ⟨b3, h⟩ := h
      refine J_iald (j := x2.toNatClampNeg) hX dX6_copy_18 h0 rfl b3 rfl ?_
      obtain ⟨b4, h⟩ := h
      refine J_iast (j := x2.toNatClampNeg) hX dX6_copy_19 h1 rfl b4 rfl ?_
      refine J_nmM (fun m5 e_m5 => ?_)
      replace h := h m5 e_m5
      refine J_iinc (x := (x2 + (1 : Int32))) (lv2 := [(2, .int (x2 + (1 : Int32))), (0, .ref (ad a0)), (1, .ref (ad a1))]) hX dX6_copy_20 2 rfl rfl (Nat.le_of_ble_eq_true rfl) rfl ?_
      refine J_goto (tgt := 2) hX dX6_copy_23 (by decide) ?_
      exact J_sub [1, 2, 0] rfl (hrec (x2 + (1 : Int32)) m5 h)
set_option maxRecDepth 100000 in
theorem t_X6_copy_l2 {X : XT} {ad : Nat → Nat} {K : Mm → Prop} (hX : Cx X cX6_copy 3 RX6 (rmN 0 0)) (hR : Rx X none (kV ad K) (0, 0)) (a0 : Nat) (h0 : kap a0 = 20) (a1 : Nat) (h1 : kap a1 = 20) : ∀ (n : Nat) (x2 : Int32) (m : Mm), wp_X6_copy_l2 K a0 a1 n x2 m → J X (0, 0) 2 [(0, .ref (ad a0)), (1, .ref (ad a1)), (2, .int x2)] [] (fl ad m) := by
  intro n
  induction n with
  | zero => intro x2 m h; exact h.elim
  | succ n ih => intro x2 m h; exact tb_X6_copy_l2 hX hR a0 h0 a1 h1 ih x2 m h
set_option maxRecDepth 100000 in
theorem c_X6_copy {G : GT} {ad : Nat → Nat} (a0 : Nat) (h0 : kap a0 = 20) (a1 : Nat) (h1 : kap a1 = 20) (m : Mm) (K : Mm → Prop) (h : wp_X6_copy a0 a1 m K) : Cn G yX6_copy cX6_copy 3 none (rmN 0 0) [.ref (ad a0), .ref (ad a1)] (0, 0) (fl ad m) (kV ad K) := by
  unfold wp_X6_copy at h
  refine Cn.of pn_RX6 (Nat.le_of_ble_eq_true rfl) (fun X hG hX hR => ?_)
  subst hG
  have hX : Cx X cX6_copy 3 RX6 (rmN 0 0) := hX
  show J X (0, 0) 0 [(0, .ref (ad a0)), (1, .ref (ad a1))] [] (fl ad m)
  refine J_iconst (v := (0 : Int32)) hX dX6_copy_0 (by decide) ?_
  refine J_istore_n (lv2 := [(2, .int (0 : Int32)), (0, .ref (ad a0)), (1, .ref (ad a1))]) hX dX6_copy_1 rfl (Nat.le_of_ble_eq_true rfl) rfl ?_
  refine J_sub [1, 2, 0] rfl (t_X6_copy_l2 hX hR a0 h0 a1 h1 FU (0 : Int32) m h)
set_option maxRecDepth 100000 in
theorem t_X6_remember_j28 {X : XT} {ad : Nat → Nat} {K : Mm → Prop} (hX : Cx X cX6_remember 5 RX6 (rmN 2 43)) (hR : Rx X none (kV ad K) (0, 0)) (a1 : Nat) (h1 : kap a1 = 3) (m : Mm) (h : wp_X6_remember_j28 K a1 m) : J X (0, 0) 28 [(0, .ref (ad 33)), (1, .ref (ad a1)), (2, .ref (ad 265)), (3, .ref (ad 266))] [] (fl ad m) := by
  unfold wp_X6_remember_j28 at h
  refine J_aload_n hX dX6_remember_28 rfl 0 rfl ?_
  refine J_getI hX kf_RX6_15 dX6_remember_29 ka_33 (by decide) rfl ?_
  refine J_aload_n hX dX6_remember_32 rfl 0 rfl ?_
  refine J_getI hX kf_RX6_9 dX6_remember_33 ka_33 (by decide) rfl ?_
  refine J_iadd hX dX6_remember_36 ?_
  refine J_bipush (v := (12 : Int32)) hX dX6_remember_37 (by decide) ?_
  refine J_irem hX dX6_remember_39 (by decide) ?_
  refine J_nmI (fun y2 e_y2 => ?_)
  replace h := h y2 e_y2
  refine J_istore (lv2 := [(4, .int y2), (0, .ref (ad 33)), (1, .ref (ad a1)), (2, .ref (ad 265)), (3, .ref (ad 266))]) hX dX6_remember_40 (Nat.le_of_ble_eq_true rfl) rfl ?_
  refine J_aload_n hX dX6_remember_42 rfl 1 rfl ?_
  refine J_getR hX kf_RX6_20 dX6_remember_43 ka_33 (by decide) rfl rh_33_2 ?_
  refine J_iload hX dX6_remember_46 0 rfl ?_
  obtain ⟨b3, h⟩ := h
  refine J_aald hX dX6_remember_48 (u := 1) (by decide) ka_34 le_34 b3 (re_34 (vp_lt b3)) ?_
  refine J_aload_n hX dX6_remember_49 rfl 2 rfl ?_
  refine J_callV hX km_X3_become kl_RX6_33 dX6_remember_50 (ke_34 (vp_lt b3)) (by decide) [.ref (ad a1)] ⟨Nat.le_of_ble_eq_true rfl, Nat.le_of_ble_eq_true rfl⟩ rfl rfl (Nat.le_of_ble_eq_true rfl) (c_X3_become (61 + 15 * y2.toNatClampNeg) (ke_34 (vp_lt b3)) a1 h1 m _ h) (fun v w2 hk => ?_)
  obtain ⟨m4, rfl, rfl, h⟩ := hk
  show J X (0, 0) 53 [(4, .int y2), (0, .ref (ad 33)), (1, .ref (ad a1)), (2, .ref (ad 265)), (3, .ref (ad 266))] [] (fl ad m4)
  refine J_aload_n hX dX6_remember_53 rfl 3 rfl ?_
  refine J_aload_n hX dX6_remember_54 rfl 1 rfl ?_
  refine J_getR hX kf_RX6_26 dX6_remember_55 ka_33 (by decide) rfl rh_33_3 ?_
  refine J_iload hX dX6_remember_58 0 rfl ?_
  refine J_aaldA hX dX6_remember_60 ka_35 le_35 b3 (re_35 (vp_lt b3)) ?_
  refine J_callS hX km_X6_copy kl_RX6_37 dX6_remember_61 [.ref (ad 265), .ref (ad (36 + y2.toNatClampNeg))] ⟨Nat.le_of_ble_eq_true rfl, Nat.le_of_ble_eq_true rfl⟩ rfl rfl (Nat.le_of_ble_eq_true rfl) (c_X6_copy 265 ka_265 (36 + y2.toNatClampNeg) (ke_35 (vp_lt b3)) m4 _ h) (fun v w2 hk => ?_)
  obtain ⟨m5, rfl, rfl, h⟩ := hk
  show J X (0, 0) 64 [(4, .int y2), (0, .ref (ad 33)), (1, .ref (ad a1)), (2, .ref (ad 265)), (3, .ref (ad 266))] [] (fl ad m5)
  refine J_aload_n hX dX6_remember_64 rfl 4 rfl ?_
  refine J_aload_n hX dX6_remember_65 rfl 1 rfl ?_
  refine J_getR hX kf_RX6_29 dX6_remember_66 ka_33 (by decide) rfl rh_33_4 ?_
  refine J_iload hX dX6_remember_69 0 rfl ?_
  refine J_aaldA hX dX6_remember_71 ka_48 le_48 b3 (re_48 (vp_lt b3)) ?_
  refine J_callS hX km_X6_copy kl_RX6_37 dX6_remember_72 [.ref (ad 266), .ref (ad (49 + y2.toNatClampNeg))] ⟨Nat.le_of_ble_eq_true rfl, Nat.le_of_ble_eq_true rfl⟩ rfl rfl (Nat.le_of_ble_eq_true rfl) (c_X6_copy 266 ka_266 (49 + y2.toNatClampNeg) (ke_48 (vp_lt b3)) m5 _ h) (fun v w2 hk => ?_)
  obtain ⟨m6, rfl, rfl, h⟩ := hk
  show J X (0, 0) 75 [(4, .int y2), (0, .ref (ad 33)), (1, .ref (ad a1)), (2, .ref (ad 265)), (3, .ref (ad 266))] [] (fl ad m6)
  refine J_aload_n hX dX6_remember_75 rfl 1 rfl ?_
  refine J_dup hX dX6_remember_76 rfl ?_
  refine J_getI hX kf_RX6_9 dX6_remember_77 ka_33 (by decide) rfl ?_
  refine J_iconst (v := (1 : Int32)) hX dX6_remember_80 (by decide) ?_
  refine J_iadd hX dX6_remember_81 ?_
  refine J_putI hX kf_RX6_9 dX6_remember_82 ka_33 (by decide) rfl ?_
  refine J_nmM (fun m7 e_m7 => ?_)
  replace h := h m7 e_m7
  exact J_vret hX hR dX6_remember_85 ⟨_, rfl, rfl, h⟩
set_option maxRecDepth 100000 in
theorem c_X6_remember {G : GT} {ad : Nat → Nat} (a1 : Nat) (h1 : kap a1 = 3) (m : Mm) (K : Mm → Prop) (h : wp_X6_remember a1 m K) : Cn G yX6_remember cX6_remember 5 none (rmN 2 43) [.ref (ad 33), .ref (ad a1), .ref (ad 265), .ref (ad 266)] (0, 0) (fl ad m) (kV ad K) := by
  unfold wp_X6_remember at h
  refine Cn.of pn_RX6 (Nat.le_of_ble_eq_true rfl) (fun X hG hX hR => ?_)
  subst hG
  have hX : Cx X cX6_remember 5 RX6 (rmN 2 43) := hX
  show J X (0, 0) 0 [(0, .ref (ad 33)), (1, .ref (ad a1)), (2, .ref (ad 265)), (3, .ref (ad 266))] [] (fl ad m)
  refine J_aload_n hX dX6_remember_0 rfl 0 rfl ?_
  refine J_getI hX kf_RX6_9 dX6_remember_1 ka_33 (by decide) rfl ?_
  refine J_bipush (v := (12 : Int32)) hX dX6_remember_4 (by decide) ?_
  refine J_icmp_lt (tgt := 28) hX dX6_remember_6 (by decide) (fun c1 => ?_) (fun c1 => ?_)
  · replace h := Eq.mp (if_pos c1) h
    exact J_sub [0, 1, 2, 3] rfl (t_X6_remember_j28 hX hR a1 h1 m h)
  · replace h := Eq.mp (if_neg c1) h
    refine J_aload_n hX dX6_remember_9 rfl 0 rfl ?_
    refine J_aload_n hX dX6_remember_10 rfl 0 rfl ?_
    refine J_getI hX kf_RX6_15 dX6_remember_11 ka_33 (by decide) rfl ?_
    refine J_iconst (v := (1 : Int32)) hX dX6_remember_14 (by decide) ?_
    refine J_iadd hX dX6_remember_15 ?_
    refine J_bipush (v := (12 : Int32)) hX dX6_remember_16 (by decide) ?_
    refine J_irem hX dX6_remember_18 (by decide) ?_
    refine J_putI hX kf_RX6_15 dX6_remember_19 ka_33 (by decide) rfl ?_
    refine J_nmM (fun m8 e_m8 => ?_)
    replace h := h m8 e_m8
    refine J_aload_n hX dX6_remember_22 rfl 0 rfl ?_
    refine J_bipush (v := (11 : Int32)) hX dX6_remember_23 (by decide) ?_
    refine J_putI hX kf_RX6_9 dX6_remember_25 ka_33 (by decide) rfl ?_
    refine J_nmM (fun m9 e_m9 => ?_)
    replace h := h m9 e_m9
    exact J_sub [0, 1, 2, 3] rfl (t_X6_remember_j28 hX hR a1 h1 m9 h)
set_option maxRecDepth 100000 in
theorem c_X3_hang {G : GT} {ad : Nat → Nat} (a0 : Nat) (h0 : kap a0 = 3) (x1 : Int32) (x2 : Int32) (x3 : Int32) (x4 : Int32) (x5 : Int32) (x6 : Int32) (m : Mm) (K : Int32 → Mm → Prop) (h : wp_X3_hang a0 x1 x2 x3 x4 x5 x6 m K) : Cn G yX3_hang cX3_hang 7 (some .int) (rmN 2 49) [.ref (ad a0), .int x1, .int x2, .int x3, .int x4, .int x5, .int x6] (0, 0) (fl ad m) (kI ad K) := by
  unfold wp_X3_hang at h
  refine Cn.of pn_RX3 (Nat.le_of_ble_eq_true rfl) (fun X hG hX hR => ?_)
  subst hG
  have hX : Cx X cX3_hang 7 RX3 (rmN 2 49) := hX
  show J X (0, 0) 0 [(0, .ref (ad a0)), (1, .int x1), (2, .int x2), (3, .int x3), (4, .int x4), (5, .int x5), (6, .int x6)] [] (fl ad m)
  refine J_aload_n hX dX3_hang_0 rfl 0 rfl ?_
  refine J_iload_n hX dX3_hang_1 rfl 1 rfl ?_
  refine J_iload_n hX dX3_hang_2 rfl 2 rfl ?_
  refine J_iload_n hX dX3_hang_3 rfl 3 rfl ?_
  refine J_iload hX dX3_hang_4 4 rfl ?_
  refine J_iload hX dX3_hang_6 5 rfl ?_
  refine J_iload hX dX3_hang_8 6 rfl ?_
  refine J_callV hX km_X3_draft kl_RX3_84 dX3_hang_10 h0 (by decide) [.int x1, .int x2, .int x3, .int x4, .int x5, .int x6] ⟨Nat.le_of_ble_eq_true rfl, Nat.le_of_ble_eq_true rfl⟩ rfl rfl (Nat.le_of_ble_eq_true rfl) (c_X3_draft a0 h0 x1 x2 x3 x4 x5 x6 m _ h) (fun v w2 hk => ?_)
  obtain ⟨m1, rfl, rfl, h⟩ := hk
  show J X (0, 0) 13 [(0, .ref (ad a0)), (1, .int x1), (2, .int x2), (3, .int x3), (4, .int x4), (5, .int x5), (6, .int x6)] [] (fl ad m1)
  refine J_aload_n hX dX3_hang_13 rfl 0 rfl ?_
  refine J_dup hX dX3_hang_14 rfl ?_
  refine J_getI hX kf_RX3_25 dX3_hang_15 h0 (by decide) rfl ?_
  refine J_iconst (v := (1 : Int32)) hX dX3_hang_18 (by decide) ?_
  refine J_iadd hX dX3_hang_19 ?_
  refine J_putI hX kf_RX3_25 dX3_hang_20 h0 (by decide) rfl ?_
  refine J_nmM (fun m2 e_m2 => ?_)
  replace h := h m2 e_m2
  refine J_aload_n hX dX3_hang_23 rfl 0 rfl ?_
  refine J_getI hX kf_RX3_25 dX3_hang_24 h0 (by decide) rfl ?_
  refine J_iconst (v := (1 : Int32)) hX dX3_hang_27 (by decide) ?_
  refine J_isub hX dX3_hang_28 ?_
  exact J_iret hX hR dX3_hang_29 ⟨_, _, rfl, rfl, h⟩
set_option maxRecDepth 100000 in
theorem c_X11_addPanel {G : GT} {ad : Nat → Nat} (x1 : Int32) (x2 : Int32) (x3 : Int32) (x4 : Int32) (x5 : Int32) (x6 : Int32) (m : Mm) (K : Int32 → Mm → Prop) (h : wp_X11_addPanel x1 x2 x3 x4 x5 x6 m K) : Cn G yX11_addPanel cX11_addPanel 8 (some .int) (rmN 3 75) [.ref (ad 0), .int x1, .int x2, .int x3, .int x4, .int x5, .int x6] (0, 0) (fl ad m) (kI ad K) := by
  unfold wp_X11_addPanel at h
  refine Cn.of pn_RX11 (Nat.le_of_ble_eq_true rfl) (fun X hG hX hR => ?_)
  subst hG
  have hX : Cx X cX11_addPanel 8 RX11 (rmN 3 75) := hX
  show J X (0, 0) 0 [(0, .ref (ad 0)), (1, .int x1), (2, .int x2), (3, .int x3), (4, .int x4), (5, .int x5), (6, .int x6)] [] (fl ad m)
  refine J_aload_n hX dX11_addPanel_0 rfl 0 rfl ?_
  refine J_getR hX kf_RX11_10 dX11_addPanel_1 ka_0 (by decide) rfl rh_0_0 ?_
  refine J_iload_n hX dX11_addPanel_4 rfl 1 rfl ?_
  refine J_iload_n hX dX11_addPanel_5 rfl 2 rfl ?_
  refine J_iload_n hX dX11_addPanel_6 rfl 3 rfl ?_
  refine J_iload hX dX11_addPanel_7 4 rfl ?_
  refine J_iload hX dX11_addPanel_9 5 rfl ?_
  refine J_iload hX dX11_addPanel_11 6 rfl ?_
  refine J_callV hX km_X3_hangFault kl_RX11_124 dX11_addPanel_13 ka_1 (by decide) [.int x1, .int x2, .int x3, .int x4, .int x5, .int x6] ⟨Nat.le_of_ble_eq_true rfl, Nat.le_of_ble_eq_true rfl⟩ rfl rfl (Nat.le_of_ble_eq_true rfl) (c_X3_hangFault 1 ka_1 x1 x2 x3 x4 x5 x6 m _ h) (fun v w2 hk => ?_)
  obtain ⟨y2, m1, rfl, rfl, h⟩ := hk
  show J X (0, 0) 16 [(0, .ref (ad 0)), (1, .int x1), (2, .int x2), (3, .int x3), (4, .int x4), (5, .int x5), (6, .int x6)] [.int y2] (fl ad m1)
  refine J_istore (lv2 := [(7, .int y2), (0, .ref (ad 0)), (1, .int x1), (2, .int x2), (3, .int x3), (4, .int x4), (5, .int x5), (6, .int x6)]) hX dX11_addPanel_16 (Nat.le_of_ble_eq_true rfl) rfl ?_
  refine J_iload hX dX11_addPanel_18 0 rfl ?_
  refine J_if_eq (tgt := 26) hX dX11_addPanel_20 (by decide) (fun c3 => ?_) (fun c3 => ?_)
  · replace h := Eq.mp (if_pos c3) h
    refine J_aload_n hX dX11_addPanel_26 rfl 1 rfl ?_
    refine J_getR hX kf_RX11_30 dX11_addPanel_27 ka_0 (by decide) rfl rh_0_4 ?_
    refine J_aload_n hX dX11_addPanel_30 rfl 1 rfl ?_
    refine J_getR hX kf_RX11_10 dX11_addPanel_31 ka_0 (by decide) rfl rh_0_0 ?_
    refine J_aload_n hX dX11_addPanel_34 rfl 1 rfl ?_
    refine J_getR hX kf_RX11_77 dX11_addPanel_35 ka_0 (by decide) rfl rh_0_12 ?_
    refine J_aload_n hX dX11_addPanel_38 rfl 1 rfl ?_
    refine J_getR hX kf_RX11_81 dX11_addPanel_39 ka_0 (by decide) rfl rh_0_13 ?_
    refine J_callV hX km_X6_remember kl_RX11_110 dX11_addPanel_42 ka_33 (by decide) [.ref (ad 1), .ref (ad 265), .ref (ad 266)] ⟨Nat.le_of_ble_eq_true rfl, Nat.le_of_ble_eq_true rfl⟩ rfl rfl (Nat.le_of_ble_eq_true rfl) (c_X6_remember 1 ka_1 m1 _ h) (fun v w2 hk => ?_)
    obtain ⟨m4, rfl, rfl, h⟩ := hk
    show J X (0, 0) 45 [(7, .int y2), (0, .ref (ad 0)), (1, .int x1), (2, .int x2), (3, .int x3), (4, .int x4), (5, .int x5), (6, .int x6)] [] (fl ad m4)
    refine J_aload_n hX dX11_addPanel_45 rfl 1 rfl ?_
    refine J_getR hX kf_RX11_10 dX11_addPanel_46 ka_0 (by decide) rfl rh_0_0 ?_
    refine J_iload_n hX dX11_addPanel_49 rfl 2 rfl ?_
    refine J_iload_n hX dX11_addPanel_50 rfl 3 rfl ?_
    refine J_iload_n hX dX11_addPanel_51 rfl 4 rfl ?_
    refine J_iload hX dX11_addPanel_52 5 rfl ?_
    refine J_iload hX dX11_addPanel_54 6 rfl ?_
    refine J_iload hX dX11_addPanel_56 7 rfl ?_
    refine J_callV hX km_X3_hang kl_RX11_128 dX11_addPanel_58 ka_1 (by decide) [.int x1, .int x2, .int x3, .int x4, .int x5, .int x6] ⟨Nat.le_of_ble_eq_true rfl, Nat.le_of_ble_eq_true rfl⟩ rfl rfl (Nat.le_of_ble_eq_true rfl) (c_X3_hang 1 ka_1 x1 x2 x3 x4 x5 x6 m4 _ h) (fun v w2 hk => ?_)
    obtain ⟨y6, m5, rfl, rfl, h⟩ := hk
    show J X (0, 0) 61 [(7, .int y2), (0, .ref (ad 0)), (1, .int x1), (2, .int x2), (3, .int x3), (4, .int x4), (5, .int x5), (6, .int x6)] [.int y6] (fl ad m5)
    exact J_iret hX hR dX11_addPanel_61 ⟨_, _, rfl, rfl, h⟩
  · replace h := Eq.mp (if_neg c3) h
    refine J_iload hX dX11_addPanel_23 0 rfl ?_
    exact J_iret hX hR dX11_addPanel_25 ⟨_, _, rfl, rfl, h⟩
theorem bv_X3_hangs (a0 : Nat) (x1 : Int32) (m : Mm) : bo (v_X3_hangs a0 x1 m) := (bo_ite bo_0 (bo_ite bo_0 bo_1))
set_option maxRecDepth 100000 in
theorem c_X3_hangs {G : GT} {ad : Nat → Nat} (a0 : Nat) (h0 : kap a0 = 3) (x1 : Int32) (m : Mm) : Cn G yX3_hangs cX3_hangs 2 (some .boolean) (rmN 0 0) [.ref (ad a0), .int x1] (0, 0) (fl ad m) (fun v w => v = some (.int (v_X3_hangs a0 x1 m)) ∧ w = fl ad m) := by
  refine Cn.of pn_RX3 (Nat.le_of_ble_eq_true rfl) (fun X hG hX hR => ?_)
  subst hG
  have hX : Cx X cX3_hangs 2 RX3 (rmN 0 0) := hX
  show J X (0, 0) 0 [(0, .ref (ad a0)), (1, .int x1)] [] (fl ad m)
  refine J_iload_n hX dX3_hangs_0 rfl 1 rfl ?_
  refine J_iconst (v := (1 : Int32)) hX dX3_hangs_1 (by decide) ?_
  have hj3 : ∀ y4 : Int32, y4 = (if x1 < (1 : Int32) then (0 : Int32) else (if (m.1 a0 4) ≤ x1 then (0 : Int32) else (1 : Int32))) → J X (0, 0) 18 [] [.int y4] (fl ad m) := by
    intro y4 e_y4
    subst e_y4
    exact J_zret hX hR dX3_hangs_18 (bo_ite bo_0 (bo_ite bo_0 bo_1)) (And.intro (congrArg (fun z => some (Value.int z)) (show (if x1 < (1 : Int32) then (0 : Int32) else (if (m.1 a0 4) ≤ x1 then (0 : Int32) else (1 : Int32))) = v_X3_hangs a0 x1 m from rfl)) rfl)
  refine J_icmp_lt (tgt := 17) hX dX3_hangs_2 (by decide) (fun c1 => ?_) (fun c1 => ?_)
  · refine J_iconst (v := (0 : Int32)) hX dX3_hangs_17 (by decide) ?_
    exact J_sub [] rfl (hj3 _ (if_pos c1).symm)
  · refine J_iload_n hX dX3_hangs_5 rfl 1 rfl ?_
    refine J_aload_n hX dX3_hangs_6 rfl 0 rfl ?_
    refine J_getI hX kf_RX3_25 dX3_hangs_7 h0 (by decide) rfl ?_
    refine J_icmp_ge (tgt := 17) hX dX3_hangs_10 (by decide) (fun c2 => ?_) (fun c2 => ?_)
    · refine J_iconst (v := (0 : Int32)) hX dX3_hangs_17 (by decide) ?_
      exact J_sub [] rfl (hj3 _ ((if_neg c1).trans (if_pos c2)).symm)
    · refine J_iconst (v := (1 : Int32)) hX dX3_hangs_13 (by decide) ?_
      refine J_goto (tgt := 18) hX dX3_hangs_14 (by decide) ?_
      exact J_sub [] rfl (hj3 _ ((if_neg c1).trans (if_neg c2)).symm)
set_option maxRecDepth 100000 in
theorem c_X8_layFlat {G : GT} {ad : Nat → Nat} (a0 : Nat) (h0 : kap a0 = 8) (a1 : Nat) (h1 : kap a1 = 7) (m : Mm) (K : Mm → Prop) (h : wp_X8_layFlat a0 a1 m K) : Cn G yX8_layFlat cX8_layFlat 2 none (rmN 0 0) [.ref (ad a0), .ref (ad a1)] (0, 0) (fl ad m) (kV ad K) := by
  unfold wp_X8_layFlat at h
  refine Cn.of pn_RX8 (Nat.le_of_ble_eq_true rfl) (fun X hG hX hR => ?_)
  subst hG
  have hX : Cx X cX8_layFlat 2 RX8 (rmN 0 0) := hX
  show J X (0, 0) 0 [(0, .ref (ad a0)), (1, .ref (ad a1))] [] (fl ad m)
  refine J_aload_n hX dX8_layFlat_0 rfl 0 rfl ?_
  refine J_iconst (v := (0 : Int32)) hX dX8_layFlat_1 (by decide) ?_
  refine J_putI hX kf_RX8_37 dX8_layFlat_2 h0 (by decide) rfl ?_
  refine J_nmM (fun m1 e_m1 => ?_)
  replace h := h m1 e_m1
  refine J_aload_n hX dX8_layFlat_5 rfl 0 rfl ?_
  refine J_iconst (v := (2 : Int32)) hX dX8_layFlat_6 (by decide) ?_
  refine J_putI hX kf_RX8_41 dX8_layFlat_7 h0 (by decide) rfl ?_
  refine J_nmM (fun m2 e_m2 => ?_)
  replace h := h m2 e_m2
  refine J_aload_n hX dX8_layFlat_10 rfl 0 rfl ?_
  refine J_iconst (v := (4 : Int32)) hX dX8_layFlat_11 (by decide) ?_
  refine J_putI hX kf_RX8_44 dX8_layFlat_12 h0 (by decide) rfl ?_
  refine J_nmM (fun m3 e_m3 => ?_)
  replace h := h m3 e_m3
  refine J_aload_n hX dX8_layFlat_15 rfl 0 rfl ?_
  refine J_aload_n hX dX8_layFlat_16 rfl 1 rfl ?_
  refine J_getI hX kf_RX8_47 dX8_layFlat_17 h1 (by decide) rfl ?_
  refine J_putI hX kf_RX8_52 dX8_layFlat_20 h0 (by decide) rfl ?_
  refine J_nmM (fun m4 e_m4 => ?_)
  replace h := h m4 e_m4
  refine J_aload_n hX dX8_layFlat_23 rfl 0 rfl ?_
  refine J_aload_n hX dX8_layFlat_24 rfl 1 rfl ?_
  refine J_getI hX kf_RX8_53 dX8_layFlat_25 h1 (by decide) rfl ?_
  refine J_putI hX kf_RX8_56 dX8_layFlat_28 h0 (by decide) rfl ?_
  refine J_nmM (fun m5 e_m5 => ?_)
  replace h := h m5 e_m5
  refine J_aload_n hX dX8_layFlat_31 rfl 0 rfl ?_
  refine J_getR hX kf_RX8_31 dX8_layFlat_32 h0 (by decide) rfl (ro_8_12 h0) ?_
  refine J_iconst (v := (0 : Int32)) hX dX8_layFlat_35 (by decide) ?_
  refine J_aload_n hX dX8_layFlat_36 rfl 1 rfl ?_
  refine J_getI hX kf_RX8_57 dX8_layFlat_37 h1 (by decide) rfl ?_
  refine J_iast (j := 0) hX dX8_layFlat_40 (ko_8_12 h0) (lo_8_12 h0) (vp_lit (by decide)) (by decide) ?_
  refine J_nmM (fun m6 e_m6 => ?_)
  replace h := h m6 e_m6
  refine J_aload_n hX dX8_layFlat_41 rfl 0 rfl ?_
  refine J_getR hX kf_RX8_31 dX8_layFlat_42 h0 (by decide) rfl (ro_8_12 h0) ?_
  refine J_iconst (v := (1 : Int32)) hX dX8_layFlat_45 (by decide) ?_
  refine J_aload_n hX dX8_layFlat_46 rfl 1 rfl ?_
  refine J_getI hX kf_RX8_60 dX8_layFlat_47 h1 (by decide) rfl ?_
  refine J_iast (j := 1) hX dX8_layFlat_50 (ko_8_12 h0) (lo_8_12 h0) (vp_lit (by decide)) (by decide) ?_
  refine J_nmM (fun m7 e_m7 => ?_)
  replace h := h m7 e_m7
  refine J_aload_n hX dX8_layFlat_51 rfl 0 rfl ?_
  refine J_getR hX kf_RX8_31 dX8_layFlat_52 h0 (by decide) rfl (ro_8_12 h0) ?_
  refine J_iconst (v := (2 : Int32)) hX dX8_layFlat_55 (by decide) ?_
  refine J_iconst (v := (0 : Int32)) hX dX8_layFlat_56 (by decide) ?_
  refine J_iast (j := 2) hX dX8_layFlat_57 (ko_8_12 h0) (lo_8_12 h0) (vp_lit (by decide)) (by decide) ?_
  refine J_nmM (fun m8 e_m8 => ?_)
  replace h := h m8 e_m8
  exact J_vret hX hR dX8_layFlat_58 ⟨_, rfl, rfl, h⟩
set_option maxRecDepth 100000 in
theorem c_X8_part {G : GT} {ad : Nat → Nat} (x0 : Int32) (x1 : Int32) (m : Mm) : Cn G yX8_part cX8_part 2 (some .int) (rmN 0 0) [.int x0, .int x1] (0, 0) (fl ad m) (fun v w => v = some (.int (v_X8_part x0 x1)) ∧ w = fl ad m) := by
  refine Cn.of pn_RX8 (Nat.le_of_ble_eq_true rfl) (fun X hG hX hR => ?_)
  subst hG
  have hX : Cx X cX8_part 2 RX8 (rmN 0 0) := hX
  show J X (0, 0) 0 [(0, .int x0), (1, .int x1)] [] (fl ad m)
  refine J_iload_n hX dX8_part_0 rfl 0 rfl ?_
  refine J_iconst (v := (1 : Int32)) hX dX8_part_1 (by decide) ?_
  refine J_ishr hX dX8_part_2 ?_
  refine J_iload_n hX dX8_part_3 rfl 1 rfl ?_
  have hj3 : ∀ y4 : Int32, y4 = (if (x0 >>> ((1 : Int32) &&& 31)) = x1 then (if (x0 &&& (1 : Int32)) = (0 : Int32) then (1 : Int32) else (-1 : Int32)) else (0 : Int32)) → J X (0, 0) 22 [] [.int y4] (fl ad m) := by
    intro y4 e_y4
    subst e_y4
    exact J_iret hX hR dX8_part_22 (And.intro (congrArg (fun z => some (Value.int z)) (show (if (x0 >>> ((1 : Int32) &&& 31)) = x1 then (if (x0 &&& (1 : Int32)) = (0 : Int32) then (1 : Int32) else (-1 : Int32)) else (0 : Int32)) = v_X8_part x0 x1 from rfl)) rfl)
  refine J_icmp_eq (tgt := 11) hX dX8_part_4 (by decide) (fun c1 => ?_) (fun c1 => ?_)
  · refine J_iload_n hX dX8_part_11 rfl 0 rfl ?_
    refine J_iconst (v := (1 : Int32)) hX dX8_part_12 (by decide) ?_
    refine J_iand hX dX8_part_13 ?_
    refine J_if_ne (tgt := 21) hX dX8_part_14 (by decide) (fun c2 => ?_) (fun c2 => ?_)
    · refine J_iconst (v := (-1 : Int32)) hX dX8_part_21 (by decide) ?_
      exact J_sub [] rfl (hj3 _ ((if_pos c1).trans (if_neg c2)).symm)
    · refine J_iconst (v := (1 : Int32)) hX dX8_part_17 (by decide) ?_
      refine J_goto (tgt := 22) hX dX8_part_18 (by decide) ?_
      exact J_sub [] rfl (hj3 _ ((if_pos c1).trans (if_pos c2)).symm)
  · refine J_iconst (v := (0 : Int32)) hX dX8_part_7 (by decide) ?_
    refine J_goto (tgt := 22) hX dX8_part_8 (by decide) ?_
    exact J_sub [] rfl (hj3 _ (if_neg c1).symm)
set_option maxRecDepth 100000 in
theorem c_X8_cornerAt {G : GT} {ad : Nat → Nat} (a0 : Nat) (h0 : kap a0 = 8) (x1 : Int32) (x2 : Int32) (m : Mm) : Cn G yX8_cornerAt cX8_cornerAt 5 (some .int) (rmN 1 21) [.ref (ad a0), .int x1, .int x2] (0, 0) (fl ad m) (fun v w => v = some (.int (v_X8_cornerAt a0 x1 x2 m)) ∧ w = fl ad m) := by
  refine Cn.of pn_RX8 (Nat.le_of_ble_eq_true rfl) (fun X hG hX hR => ?_)
  subst hG
  have hX : Cx X cX8_cornerAt 5 RX8 (rmN 1 21) := hX
  show J X (0, 0) 0 [(0, .ref (ad a0)), (1, .int x1), (2, .int x2)] [] (fl ad m)
  refine J_iload_n hX dX8_cornerAt_0 rfl 2 rfl ?_
  refine J_if_lt (tgt := 9) hX dX8_cornerAt_1 (by decide) (fun c1 => ?_) (fun c1 => ?_)
  · refine J_iconst (v := (0 : Int32)) hX dX8_cornerAt_9 (by decide) ?_
    exact J_iret hX hR dX8_cornerAt_10 (And.intro (congrArg (fun z => some (Value.int z)) (show (0 : Int32) = v_X8_cornerAt a0 x1 x2 m from (if_pos c1).symm)) rfl)
  · refine J_iload_n hX dX8_cornerAt_4 rfl 2 rfl ?_
    refine J_iconst (v := (2 : Int32)) hX dX8_cornerAt_5 (by decide) ?_
    refine J_icmp_le (tgt := 11) hX dX8_cornerAt_6 (by decide) (fun c2 => ?_) (fun c2 => ?_)
    · refine J_iload_n hX dX8_cornerAt_11 rfl 1 rfl ?_
      refine J_iconst (v := (1 : Int32)) hX dX8_cornerAt_12 (by decide) ?_
      have hj7 : ∀ y8 : Int32, y8 = (if x1 = (1 : Int32) then ((m.1 a0 10) * (v_X8_part (m.1 a0 8) x2)) else (if x1 = (2 : Int32) then ((m.1 a0 10) * (v_X8_part (m.1 a0 8) x2)) else (0 : Int32))) → J X (0, 0) 38 [(0, .ref (ad a0)), (1, .int x1), (2, .int x2)] [.int y8] (fl ad m) := by
        intro y8 e_y8
        subst e_y8
        refine J_istore_n (lv2 := [(3, .int (if x1 = (1 : Int32) then ((m.1 a0 10) * (v_X8_part (m.1 a0 8) x2)) else (if x1 = (2 : Int32) then ((m.1 a0 10) * (v_X8_part (m.1 a0 8) x2)) else (0 : Int32)))), (0, .ref (ad a0)), (1, .int x1), (2, .int x2)]) hX dX8_cornerAt_38 rfl (Nat.le_of_ble_eq_true rfl) rfl ?_
        refine J_iload_n hX dX8_cornerAt_39 rfl 2 rfl ?_
        refine J_iconst (v := (2 : Int32)) hX dX8_cornerAt_40 (by decide) ?_
        have hj9 : ∀ y10 : Int32, y10 = (if x1 = (2 : Int32) then ((m.1 a0 11) * (v_X8_part (m.1 a0 9) x2)) else (if x1 = (3 : Int32) then ((m.1 a0 11) * (v_X8_part (m.1 a0 9) x2)) else (0 : Int32))) → J X (0, 0) 66 [(0, .ref (ad a0)), (2, .int x2), (3, .int (if x1 = (1 : Int32) then ((m.1 a0 10) * (v_X8_part (m.1 a0 8) x2)) else (if x1 = (2 : Int32) then ((m.1 a0 10) * (v_X8_part (m.1 a0 8) x2)) else (0 : Int32))))] [.int y10] (fl ad m) := by
          intro y10 e_y10
          subst e_y10
          refine J_istore (lv2 := [(4, .int (if x1 = (2 : Int32) then ((m.1 a0 11) * (v_X8_part (m.1 a0 9) x2)) else (if x1 = (3 : Int32) then ((m.1 a0 11) * (v_X8_part (m.1 a0 9) x2)) else (0 : Int32)))), (0, .ref (ad a0)), (2, .int x2), (3, .int (if x1 = (1 : Int32) then ((m.1 a0 10) * (v_X8_part (m.1 a0 8) x2)) else (if x1 = (2 : Int32) then ((m.1 a0 10) * (v_X8_part (m.1 a0 8) x2)) else (0 : Int32))))]) hX dX8_cornerAt_66 (Nat.le_of_ble_eq_true rfl) rfl ?_
          refine J_aload_n hX dX8_cornerAt_68 rfl 1 rfl ?_
          refine J_getR hX kf_RX8_31 dX8_cornerAt_69 h0 (by decide) rfl (ro_8_12 h0) ?_
          refine J_iload_n hX dX8_cornerAt_72 rfl 2 rfl ?_
          refine J_iald (j := x2.toNatClampNeg) hX dX8_cornerAt_73 (ko_8_12 h0) (lo_8_12 h0) (vp_b (lo_2 c1) (up_4 c2 (by decide))) rfl ?_
          refine J_iload_n hX dX8_cornerAt_74 rfl 3 rfl ?_
          refine J_iadd hX dX8_cornerAt_75 ?_
          refine J_iload hX dX8_cornerAt_76 0 rfl ?_
          refine J_iadd hX dX8_cornerAt_78 ?_
          exact J_iret hX hR dX8_cornerAt_79 (And.intro (congrArg (fun z => some (Value.int z)) (show (((m.1 (a0 + 8) x2.toNatClampNeg) + (if x1 = (1 : Int32) then ((m.1 a0 10) * (v_X8_part (m.1 a0 8) x2)) else (if x1 = (2 : Int32) then ((m.1 a0 10) * (v_X8_part (m.1 a0 8) x2)) else (0 : Int32)))) + (if x1 = (2 : Int32) then ((m.1 a0 11) * (v_X8_part (m.1 a0 9) x2)) else (if x1 = (3 : Int32) then ((m.1 a0 11) * (v_X8_part (m.1 a0 9) x2)) else (0 : Int32)))) = v_X8_cornerAt a0 x1 x2 m from ((if_neg c1).trans (if_pos c2)).symm)) rfl)
        refine J_icmp_eq (tgt := 49) hX dX8_cornerAt_41 (by decide) (fun c5 => ?_) (fun c5 => ?_)
        · refine J_aload_n hX dX8_cornerAt_49 rfl 1 rfl ?_
          refine J_getI hX kf_RX8_56 dX8_cornerAt_50 h0 (by decide) rfl ?_
          refine J_aload_n hX dX8_cornerAt_53 rfl 1 rfl ?_
          refine J_getI hX kf_RX8_41 dX8_cornerAt_54 h0 (by decide) rfl ?_
          refine J_iload_n hX dX8_cornerAt_57 rfl 3 rfl ?_
          refine J_callS hX km_X8_part kl_RX8_77 dX8_cornerAt_58 [.int (m.1 a0 9), .int x2] ⟨Nat.le_of_ble_eq_true rfl, Nat.le_of_ble_eq_true rfl⟩ rfl rfl (Nat.le_of_ble_eq_true rfl) (c_X8_part (m.1 a0 9) x2 m) (fun v w2 hk => ?_)
          obtain ⟨rfl, rfl⟩ := hk
          show J X (0, 0) 61 [(3, .int (if x1 = (1 : Int32) then ((m.1 a0 10) * (v_X8_part (m.1 a0 8) x2)) else (if x1 = (2 : Int32) then ((m.1 a0 10) * (v_X8_part (m.1 a0 8) x2)) else (0 : Int32)))), (0, .ref (ad a0)), (1, .int x1), (2, .int x2)] [.int (v_X8_part (m.1 a0 9) x2), .int (m.1 a0 11)] (fl ad m)
          refine J_imul hX dX8_cornerAt_61 ?_
          refine J_goto (tgt := 66) hX dX8_cornerAt_62 (by decide) ?_
          exact J_sub [1, 3, 0] rfl (hj9 _ (if_pos c5).symm)
        · refine J_iload_n hX dX8_cornerAt_44 rfl 2 rfl ?_
          refine J_iconst (v := (3 : Int32)) hX dX8_cornerAt_45 (by decide) ?_
          refine J_icmp_ne (tgt := 65) hX dX8_cornerAt_46 (by decide) (fun c6 => ?_) (fun c6 => ?_)
          · refine J_iconst (v := (0 : Int32)) hX dX8_cornerAt_65 (by decide) ?_
            exact J_sub [1, 3, 0] rfl (hj9 _ ((if_neg c5).trans (if_neg c6)).symm)
          · refine J_aload_n hX dX8_cornerAt_49 rfl 1 rfl ?_
            refine J_getI hX kf_RX8_56 dX8_cornerAt_50 h0 (by decide) rfl ?_
            refine J_aload_n hX dX8_cornerAt_53 rfl 1 rfl ?_
            refine J_getI hX kf_RX8_41 dX8_cornerAt_54 h0 (by decide) rfl ?_
            refine J_iload_n hX dX8_cornerAt_57 rfl 3 rfl ?_
            refine J_callS hX km_X8_part kl_RX8_77 dX8_cornerAt_58 [.int (m.1 a0 9), .int x2] ⟨Nat.le_of_ble_eq_true rfl, Nat.le_of_ble_eq_true rfl⟩ rfl rfl (Nat.le_of_ble_eq_true rfl) (c_X8_part (m.1 a0 9) x2 m) (fun v w2 hk => ?_)
            obtain ⟨rfl, rfl⟩ := hk
            show J X (0, 0) 61 [(3, .int (if x1 = (1 : Int32) then ((m.1 a0 10) * (v_X8_part (m.1 a0 8) x2)) else (if x1 = (2 : Int32) then ((m.1 a0 10) * (v_X8_part (m.1 a0 8) x2)) else (0 : Int32)))), (0, .ref (ad a0)), (1, .int x1), (2, .int x2)] [.int (v_X8_part (m.1 a0 9) x2), .int (m.1 a0 11)] (fl ad m)
            refine J_imul hX dX8_cornerAt_61 ?_
            refine J_goto (tgt := 66) hX dX8_cornerAt_62 (by decide) ?_
            exact J_sub [1, 3, 0] rfl (hj9 _ ((if_neg c5).trans (if_pos c6)).symm)
      refine J_icmp_eq (tgt := 21) hX dX8_cornerAt_13 (by decide) (fun c3 => ?_) (fun c3 => ?_)
      · refine J_aload_n hX dX8_cornerAt_21 rfl 0 rfl ?_
        refine J_getI hX kf_RX8_52 dX8_cornerAt_22 h0 (by decide) rfl ?_
        refine J_aload_n hX dX8_cornerAt_25 rfl 0 rfl ?_
        refine J_getI hX kf_RX8_37 dX8_cornerAt_26 h0 (by decide) rfl ?_
        refine J_iload_n hX dX8_cornerAt_29 rfl 2 rfl ?_
        refine J_callS hX km_X8_part kl_RX8_77 dX8_cornerAt_30 [.int (m.1 a0 8), .int x2] ⟨Nat.le_of_ble_eq_true rfl, Nat.le_of_ble_eq_true rfl⟩ rfl rfl (Nat.le_of_ble_eq_true rfl) (c_X8_part (m.1 a0 8) x2 m) (fun v w2 hk => ?_)
        obtain ⟨rfl, rfl⟩ := hk
        show J X (0, 0) 33 [(0, .ref (ad a0)), (1, .int x1), (2, .int x2)] [.int (v_X8_part (m.1 a0 8) x2), .int (m.1 a0 10)] (fl ad m)
        refine J_imul hX dX8_cornerAt_33 ?_
        refine J_goto (tgt := 38) hX dX8_cornerAt_34 (by decide) ?_
        exact J_sub [0, 1, 2] rfl (hj7 _ (if_pos c3).symm)
      · refine J_iload_n hX dX8_cornerAt_16 rfl 1 rfl ?_
        refine J_iconst (v := (2 : Int32)) hX dX8_cornerAt_17 (by decide) ?_
        refine J_icmp_ne (tgt := 37) hX dX8_cornerAt_18 (by decide) (fun c4 => ?_) (fun c4 => ?_)
        · refine J_iconst (v := (0 : Int32)) hX dX8_cornerAt_37 (by decide) ?_
          exact J_sub [0, 1, 2] rfl (hj7 _ ((if_neg c3).trans (if_neg c4)).symm)
        · refine J_aload_n hX dX8_cornerAt_21 rfl 0 rfl ?_
          refine J_getI hX kf_RX8_52 dX8_cornerAt_22 h0 (by decide) rfl ?_
          refine J_aload_n hX dX8_cornerAt_25 rfl 0 rfl ?_
          refine J_getI hX kf_RX8_37 dX8_cornerAt_26 h0 (by decide) rfl ?_
          refine J_iload_n hX dX8_cornerAt_29 rfl 2 rfl ?_
          refine J_callS hX km_X8_part kl_RX8_77 dX8_cornerAt_30 [.int (m.1 a0 8), .int x2] ⟨Nat.le_of_ble_eq_true rfl, Nat.le_of_ble_eq_true rfl⟩ rfl rfl (Nat.le_of_ble_eq_true rfl) (c_X8_part (m.1 a0 8) x2 m) (fun v w2 hk => ?_)
          obtain ⟨rfl, rfl⟩ := hk
          show J X (0, 0) 33 [(0, .ref (ad a0)), (1, .int x1), (2, .int x2)] [.int (v_X8_part (m.1 a0 8) x2), .int (m.1 a0 10)] (fl ad m)
          refine J_imul hX dX8_cornerAt_33 ?_
          refine J_goto (tgt := 38) hX dX8_cornerAt_34 (by decide) ?_
          exact J_sub [0, 1, 2] rfl (hj7 _ ((if_neg c3).trans (if_pos c4)).symm)
    · refine J_iconst (v := (0 : Int32)) hX dX8_cornerAt_9 (by decide) ?_
      exact J_iret hX hR dX8_cornerAt_10 (And.intro (congrArg (fun z => some (Value.int z)) (show (0 : Int32) = v_X8_cornerAt a0 x1 x2 m from ((if_neg c1).trans (if_neg c2)).symm)) rfl)
set_option maxRecDepth 100000 in
theorem tb_X8_measure_l2 {X : XT} {ad : Nat → Nat} {K : Mm → Prop} (hX : Cx X cX8_measure 5 RX8 (rmN 2 45)) (hR : Rx X none (kV ad K) (0, 0)) {rec : Int32 → Mm → Prop} {k49 : Mm → Prop} (a0 : Nat) (h0 : kap a0 = 8) (hrec : ∀ (x1 : Int32) (m : Mm), rec x1 m → J X (0, 0) 2 [(0, .ref (ad a0)), (1, .int x1)] [] (fl ad m)) (hk49 : ∀ (m : Mm), k49 m → J X (0, 0) 49 [(0, .ref (ad a0))] [] (fl ad m)) (x1 : Int32) (m : Mm) (h : wb_X8_measure_l2 rec k49 K a0 x1 m) : J X (0, 0) 2 [(0, .ref (ad a0)), (1, .int x1)] [] (fl ad m) := by
  unfold wb_X8_measure_l2 at h
  refine J_iload_n hX dX8_measure_2 rfl 1 rfl ?_
  refine J_iconst (v := (3 : Int32)) hX dX8_measure_3 (by decide) ?_
  refine J_icmp_ge (tgt := 49) hX dX8_measure_4 (by decide) (fun c1 => ?_) (fun c1 => ?_)
  · replace h := Eq.mp (if_pos c1) h
    exact J_sub [0] rfl (hk49 m h)
  · replace h := Eq.mp (if_neg c1) h
    refine J_aload_n hX dX8_measure_7 rfl 0 rfl ?_
    refine J_getR hX kf_RX8_31 dX8_measure_8 h0 (by decide) rfl (ro_8_12 h0) ?_
    refine J_iload_n hX dX8_measure_11 rfl 1 rfl ?_
    obtain ⟨b2, h⟩ := h
    refine J_iald (j := x1.toNatClampNeg) hX dX8_measure_12 (ko_8_12 h0) (lo_8_12 h0) b2 rfl ?_
    refine J_nmI (fun y3 e_y3 => ?_)
    replace h := h y3 e_y3
    refine J_istore_n (lv2 := [(2, .int y3), (0, .ref (ad a0)), (1, .int x1)]) hX dX8_measure_13 rfl (Nat.le_of_ble_eq_true rfl) rfl ?_
    refine J_aload_n hX dX8_measure_14 rfl 1 rfl ?_
    refine J_iconst (v := (2 : Int32)) hX dX8_measure_15 (by decide) ?_
    refine J_iload_n hX dX8_measure_16 rfl 2 rfl ?_
    refine J_callV hX km_X8_cornerAt kl_RX8_70 dX8_measure_17 h0 (by decide) [.int (2 : Int32), .int x1] ⟨Nat.le_of_ble_eq_true rfl, Nat.le_of_ble_eq_true rfl⟩ rfl rfl (Nat.le_of_ble_eq_true rfl) (c_X8_cornerAt a0 h0 (2 : Int32) x1 m) (fun v w2 hk => ?_)
    obtain ⟨rfl, rfl⟩ := hk
    show J X (0, 0) 20 [(2, .int y3), (0, .ref (ad a0)), (1, .int x1)] [.int (v_X8_cornerAt a0 (2 : Int32) x1 m)] (fl ad m)
    refine J_nmI (fun y4 e_y4 => ?_)
    replace h := h y4 e_y4
    refine J_istore_n (lv2 := [(3, .int y4), (2, .int y3), (0, .ref (ad a0)), (1, .int x1)]) hX dX8_measure_20 rfl (Nat.le_of_ble_eq_true rfl) rfl ?_
    refine J_aload_n hX dX8_measure_21 rfl 2 rfl ?_
    refine J_getR hX kf_RX8_7 dX8_measure_22 h0 (by decide) rfl (ro_8_1 h0) ?_
    refine J_iload_n hX dX8_measure_25 rfl 3 rfl ?_
    refine J_iload_n hX dX8_measure_26 rfl 1 rfl ?_
    refine J_iload_n hX dX8_measure_27 rfl 0 rfl ?_
    refine J_mmin hX kl_RX8_83 dX8_measure_28 (Nat.le_of_ble_eq_true rfl) (Nat.le_of_ble_eq_true rfl) ⟨Nat.le_of_ble_eq_true rfl, Nat.le_of_ble_eq_true rfl⟩ ?_
    refine J_iast (j := x1.toNatClampNeg) hX dX8_measure_31 (ko_8_1 h0) (lo_8_1 h0) b2 rfl ?_
    refine J_nmM (fun m5 e_m5 => ?_)
    replace h := h m5 e_m5
    refine J_aload_n hX dX8_measure_32 rfl 2 rfl ?_
    refine J_getR hX kf_RX8_13 dX8_measure_33 h0 (by decide) rfl (ro_8_2 h0) ?_
    refine J_iload_n hX dX8_measure_36 rfl 3 rfl ?_
    refine J_iload_n hX dX8_measure_37 rfl 1 rfl ?_
    refine J_iload_n hX dX8_measure_38 rfl 0 rfl ?_
    refine J_mmax hX kl_RX8_88 dX8_measure_39 (Nat.le_of_ble_eq_true rfl) (Nat.le_of_ble_eq_true rfl) ⟨Nat.le_of_ble_eq_true rfl, Nat.le_of_ble_eq_true rfl⟩ ?_
    refine J_iast (j := x1.toNatClampNeg) hX dX8_measure_42 (ko_8_2 h0) (lo_8_2 h0) b2 rfl ?_
    refine J_nmM (fun m6 e_m6 => ?_)
    replace h := h m6 e_m6
    refine J_iinc (x := (x1 + (1 : Int32))) (lv2 := [(1, .int (x1 + (1 : Int32))), (3, .int y4), (2, .int y3), (0, .ref (ad a0))]) hX dX8_measure_43 3 rfl rfl (Nat.le_of_ble_eq_true rfl) rfl ?_
    refine J_goto (tgt := 2) hX dX8_measure_46 (by decide) ?_
    exact J_sub [3, 0] rfl (hrec (x1 + (1 : Int32)) m6 h)
set_option maxRecDepth 100000 in
theorem t_X8_measure_l2 {X : XT} {ad : Nat → Nat} {K : Mm → Prop} (hX : Cx X cX8_measure 5 RX8 (rmN 2 45)) (hR : Rx X none (kV ad K) (0, 0)) {k49 : Mm → Prop} (a0 : Nat) (h0 : kap a0 = 8) (hk49 : ∀ (m : Mm), k49 m → J X (0, 0) 49 [(0, .ref (ad a0))] [] (fl ad m)) : ∀ (n : Nat) (x1 : Int32) (m : Mm), wp_X8_measure_l2 k49 K a0 n x1 m → J X (0, 0) 2 [(0, .ref (ad a0)), (1, .int x1)] [] (fl ad m) := by
  intro n
  induction n with
  | zero => intro x1 m h; exact h.elim
  | succ n ih => intro x1 m h; exact tb_X8_measure_l2 hX hR a0 h0 ih hk49 x1 m h
set_option maxRecDepth 100000 in
theorem tb_X8_measure_l51 {X : XT} {ad : Nat → Nat} {K : Mm → Prop} (hX : Cx X cX8_measure 5 RX8 (rmN 2 45)) (hR : Rx X none (kV ad K) (0, 0)) {rec : Int32 → Mm → Prop} (a0 : Nat) (h0 : kap a0 = 8) (hrec : ∀ (x1 : Int32) (m : Mm), rec x1 m → J X (0, 0) 51 [(0, .ref (ad a0)), (1, .int x1)] [] (fl ad m)) (x1 : Int32) (m : Mm) (h : wb_X8_measure_l51 rec K a0 x1 m) : J X (0, 0) 51 [(0, .ref (ad a0)), (1, .int x1)] [] (fl ad m) := by
  unfold wb_X8_measure_l51 at h
  refine J_iload_n hX dX8_measure_51 rfl 1 rfl ?_
  refine J_iconst (v := (4 : Int32)) hX dX8_measure_52 (by decide) ?_
  refine J_icmp_ge (tgt := 183) hX dX8_measure_53 (by decide) (fun c8 => ?_) (fun c8 => ?_)
  · replace h := Eq.mp (if_pos c8) h
    exact J_vret hX hR dX8_measure_183 ⟨_, rfl, rfl, h⟩
  · replace h := Eq.mp (if_neg c8) h
    refine J_iload_n hX dX8_measure_56 rfl 1 rfl ?_
    refine J_iconst (v := (1 : Int32)) hX dX8_measure_57 (by decide) ?_
    refine J_iand hX dX8_measure_58 ?_
    have hj21 : ∀ y10 : Int32, y10 = (if (x1 &&& (1 : Int32)) = (0 : Int32) then (m.1 a0 8) else (m.1 a0 9)) → J X (0, 0) 73 [(0, .ref (ad a0)), (1, .int x1)] [.int y10] (fl ad m) := by
      intro y10 e_y10
      replace h := h y10 e_y10
      refine J_iconst (v := (1 : Int32)) hX dX8_measure_73 (by decide) ?_
      refine J_ishr hX dX8_measure_74 ?_
      refine J_nmI (fun y11 e_y11 => ?_)
      replace h := h y11 e_y11
      refine J_istore_n (lv2 := [(2, .int y11), (0, .ref (ad a0)), (1, .int x1)]) hX dX8_measure_75 rfl (Nat.le_of_ble_eq_true rfl) rfl ?_
      refine J_aload_n hX dX8_measure_76 rfl 1 rfl ?_
      refine J_gets (k := 0) hX dX8_measure_77 (by decide) ks_RX8_91 ?_
      refine J_iload_n hX dX8_measure_80 rfl 2 rfl ?_
      obtain ⟨b12, h⟩ := h
      refine J_sald hX dX8_measure_81 (by decide) b12 ?_
      refine J_iload_n hX dX8_measure_82 rfl 0 rfl ?_
      refine J_callV hX km_X8_cornerAt kl_RX8_70 dX8_measure_83 h0 (by decide) [.int (szv 0 x1.toNatClampNeg), .int y11] ⟨Nat.le_of_ble_eq_true rfl, Nat.le_of_ble_eq_true rfl⟩ rfl rfl (Nat.le_of_ble_eq_true rfl) (c_X8_cornerAt a0 h0 (szv 0 x1.toNatClampNeg) y11 m) (fun v w2 hk => ?_)
      obtain ⟨rfl, rfl⟩ := hk
      show J X (0, 0) 86 [(2, .int y11), (0, .ref (ad a0)), (1, .int x1)] [.int (v_X8_cornerAt a0 (szv 0 x1.toNatClampNeg) y11 m)] (fl ad m)
      refine J_nmI (fun y13 e_y13 => ?_)
      replace h := h y13 e_y13
      refine J_istore_n (lv2 := [(3, .int y13), (2, .int y11), (0, .ref (ad a0)), (1, .int x1)]) hX dX8_measure_86 rfl (Nat.le_of_ble_eq_true rfl) rfl ?_
      refine J_aload_n hX dX8_measure_87 rfl 2 rfl ?_
      refine J_gets (k := 1) hX dX8_measure_88 (by decide) ks_RX8_94 ?_
      refine J_iload_n hX dX8_measure_91 rfl 3 rfl ?_
      refine J_sald hX dX8_measure_92 (by decide) b12 ?_
      refine J_iload_n hX dX8_measure_93 rfl 1 rfl ?_
      refine J_callV hX km_X8_cornerAt kl_RX8_70 dX8_measure_94 h0 (by decide) [.int (szv 1 x1.toNatClampNeg), .int y11] ⟨Nat.le_of_ble_eq_true rfl, Nat.le_of_ble_eq_true rfl⟩ rfl rfl (Nat.le_of_ble_eq_true rfl) (c_X8_cornerAt a0 h0 (szv 1 x1.toNatClampNeg) y11 m) (fun v w2 hk => ?_)
      obtain ⟨rfl, rfl⟩ := hk
      show J X (0, 0) 97 [(3, .int y13), (2, .int y11), (0, .ref (ad a0)), (1, .int x1)] [.int (v_X8_cornerAt a0 (szv 1 x1.toNatClampNeg) y11 m)] (fl ad m)
      refine J_nmI (fun y14 e_y14 => ?_)
      replace h := h y14 e_y14
      refine J_istore (lv2 := [(4, .int y14), (3, .int y13), (2, .int y11), (0, .ref (ad a0)), (1, .int x1)]) hX dX8_measure_97 (Nat.le_of_ble_eq_true rfl) rfl ?_
      refine J_aload_n hX dX8_measure_99 rfl 3 rfl ?_
      refine J_getR hX kf_RX8_16 dX8_measure_100 h0 (by decide) rfl (ro_8_3 h0) ?_
      refine J_iload_n hX dX8_measure_103 rfl 4 rfl ?_
      refine J_iload_n hX dX8_measure_104 rfl 2 rfl ?_
      refine J_iast (j := x1.toNatClampNeg) hX dX8_measure_105 (ko_8_3 h0) (lo_8_3 h0) b12 rfl ?_
      refine J_nmM (fun m15 e_m15 => ?_)
      replace h := h m15 e_m15
      refine J_aload_n hX dX8_measure_106 rfl 3 rfl ?_
      refine J_getR hX kf_RX8_34 dX8_measure_107 h0 (by decide) rfl (ro_8_13 h0) ?_
      refine J_iload_n hX dX8_measure_110 rfl 4 rfl ?_
      refine J_iload_n hX dX8_measure_111 rfl 1 rfl ?_
      refine J_iast (j := x1.toNatClampNeg) hX dX8_measure_112 (ko_8_13 h0) (lo_8_13 h0) b12 rfl ?_
      refine J_nmM (fun m16 e_m16 => ?_)
      replace h := h m16 e_m16
      refine J_aload_n hX dX8_measure_113 rfl 3 rfl ?_
      refine J_getR hX kf_RX8_19 dX8_measure_114 h0 (by decide) rfl (ro_8_4 h0) ?_
      refine J_iload_n hX dX8_measure_117 rfl 4 rfl ?_
      refine J_iload_n hX dX8_measure_118 rfl 1 rfl ?_
      refine J_iload hX dX8_measure_119 0 rfl ?_
      refine J_mmin hX kl_RX8_83 dX8_measure_121 (Nat.le_of_ble_eq_true rfl) (Nat.le_of_ble_eq_true rfl) ⟨Nat.le_of_ble_eq_true rfl, Nat.le_of_ble_eq_true rfl⟩ ?_
      refine J_iast (j := x1.toNatClampNeg) hX dX8_measure_124 (ko_8_4 h0) (lo_8_4 h0) b12 rfl ?_
      refine J_nmM (fun m17 e_m17 => ?_)
      replace h := h m17 e_m17
      refine J_aload_n hX dX8_measure_125 rfl 3 rfl ?_
      refine J_getR hX kf_RX8_22 dX8_measure_126 h0 (by decide) rfl (ro_8_5 h0) ?_
      refine J_iload_n hX dX8_measure_129 rfl 4 rfl ?_
      refine J_iload_n hX dX8_measure_130 rfl 1 rfl ?_
      refine J_iload hX dX8_measure_131 0 rfl ?_
      refine J_mmax hX kl_RX8_88 dX8_measure_133 (Nat.le_of_ble_eq_true rfl) (Nat.le_of_ble_eq_true rfl) ⟨Nat.le_of_ble_eq_true rfl, Nat.le_of_ble_eq_true rfl⟩ ?_
      refine J_iast (j := x1.toNatClampNeg) hX dX8_measure_136 (ko_8_5 h0) (lo_8_5 h0) b12 rfl ?_
      refine J_nmM (fun m18 e_m18 => ?_)
      replace h := h m18 e_m18
      refine J_aload_n hX dX8_measure_137 rfl 3 rfl ?_
      refine J_getR hX kf_RX8_25 dX8_measure_138 h0 (by decide) rfl (ro_8_6 h0) ?_
      refine J_iload_n hX dX8_measure_141 rfl 4 rfl ?_
      refine J_aload_n hX dX8_measure_142 rfl 3 rfl ?_
      refine J_gets (k := 0) hX dX8_measure_143 (by decide) ks_RX8_91 ?_
      refine J_iload_n hX dX8_measure_146 rfl 4 rfl ?_
      refine J_sald hX dX8_measure_147 (by decide) b12 ?_
      refine J_iload_n hX dX8_measure_148 rfl 2 rfl ?_
      refine J_iconst (v := (1 : Int32)) hX dX8_measure_149 (by decide) ?_
      refine J_iadd hX dX8_measure_150 ?_
      refine J_iconst (v := (3 : Int32)) hX dX8_measure_151 (by decide) ?_
      refine J_irem hX dX8_measure_152 (by decide) ?_
      refine J_callV hX km_X8_cornerAt kl_RX8_70 dX8_measure_153 h0 (by decide) [.int (szv 0 x1.toNatClampNeg), .int (rm32 (y11 + (1 : Int32)) (3 : Int32))] ⟨Nat.le_of_ble_eq_true rfl, Nat.le_of_ble_eq_true rfl⟩ rfl rfl (Nat.le_of_ble_eq_true rfl) (c_X8_cornerAt a0 h0 (szv 0 x1.toNatClampNeg) (rm32 (y11 + (1 : Int32)) (3 : Int32)) m18) (fun v w2 hk => ?_)
      obtain ⟨rfl, rfl⟩ := hk
      show J X (0, 0) 156 [(4, .int y14), (3, .int y13), (2, .int y11), (0, .ref (ad a0)), (1, .int x1)] [.int (v_X8_cornerAt a0 (szv 0 x1.toNatClampNeg) (rm32 (y11 + (1 : Int32)) (3 : Int32)) m18), .int x1, .ref (ad (a0 + 6))] (fl ad m18)
      refine J_iast (j := x1.toNatClampNeg) hX dX8_measure_156 (ko_8_6 h0) (lo_8_6 h0) b12 rfl ?_
      refine J_nmM (fun m19 e_m19 => ?_)
      replace h := h m19 e_m19
      refine J_aload_n hX dX8_measure_157 rfl 3 rfl ?_
      refine J_getR hX kf_RX8_28 dX8_measure_158 h0 (by decide) rfl (ro_8_7 h0) ?_
      refine J_iload_n hX dX8_measure_161 rfl 4 rfl ?_
      refine J_aload_n hX dX8_measure_162 rfl 3 rfl ?_
      refine J_gets (k := 0) hX dX8_measure_163 (by decide) ks_RX8_91 ?_
      refine J_iload_n hX dX8_measure_166 rfl 4 rfl ?_
      refine J_sald hX dX8_measure_167 (by decide) b12 ?_
      refine J_iload_n hX dX8_measure_168 rfl 2 rfl ?_
      refine J_iconst (v := (2 : Int32)) hX dX8_measure_169 (by decide) ?_
      refine J_iadd hX dX8_measure_170 ?_
      refine J_iconst (v := (3 : Int32)) hX dX8_measure_171 (by decide) ?_
      refine J_irem hX dX8_measure_172 (by decide) ?_
      refine J_callV hX km_X8_cornerAt kl_RX8_70 dX8_measure_173 h0 (by decide) [.int (szv 0 x1.toNatClampNeg), .int (rm32 (y11 + (2 : Int32)) (3 : Int32))] ⟨Nat.le_of_ble_eq_true rfl, Nat.le_of_ble_eq_true rfl⟩ rfl rfl (Nat.le_of_ble_eq_true rfl) (c_X8_cornerAt a0 h0 (szv 0 x1.toNatClampNeg) (rm32 (y11 + (2 : Int32)) (3 : Int32)) m19) (fun v w2 hk => ?_)
      obtain ⟨rfl, rfl⟩ := hk
      show J X (0, 0) 176 [(4, .int y14), (3, .int y13), (2, .int y11), (0, .ref (ad a0)), (1, .int x1)] [.int (v_X8_cornerAt a0 (szv 0 x1.toNatClampNeg) (rm32 (y11 + (2 : Int32)) (3 : Int32)) m19), .int x1, .ref (ad (a0 + 7))] (fl ad m19)
      refine J_iast (j := x1.toNatClampNeg) hX dX8_measure_176 (ko_8_7 h0) (lo_8_7 h0) b12 rfl ?_
      refine J_nmM (fun m20 e_m20 => ?_)
      replace h := h m20 e_m20
      refine J_iinc (x := (x1 + (1 : Int32))) (lv2 := [(1, .int (x1 + (1 : Int32))), (4, .int y14), (3, .int y13), (2, .int y11), (0, .ref (ad a0))]) hX dX8_measure_177 4 rfl rfl (Nat.le_of_ble_eq_true rfl) rfl ?_
      refine J_goto (tgt := 51) hX dX8_measure_180 (by decide) ?_
      exact J_sub [4, 0] rfl (hrec (x1 + (1 : Int32)) m20 h)
    refine J_if_ne (tgt := 69) hX dX8_measure_59 (by decide) (fun c9 => ?_) (fun c9 => ?_)
    · refine J_aload_n hX dX8_measure_69 rfl 0 rfl ?_
      refine J_getI hX kf_RX8_41 dX8_measure_70 h0 (by decide) rfl ?_
      exact J_sub [0, 1] rfl (hj21 _ (if_neg c9).symm)
    · refine J_aload_n hX dX8_measure_62 rfl 0 rfl ?_
      refine J_getI hX kf_RX8_37 dX8_measure_63 h0 (by decide) rfl ?_
      refine J_goto (tgt := 73) hX dX8_measure_66 (by decide) ?_
      exact J_sub [0, 1] rfl (hj21 _ (if_pos c9).symm)
set_option maxRecDepth 100000 in
theorem t_X8_measure_l51 {X : XT} {ad : Nat → Nat} {K : Mm → Prop} (hX : Cx X cX8_measure 5 RX8 (rmN 2 45)) (hR : Rx X none (kV ad K) (0, 0)) (a0 : Nat) (h0 : kap a0 = 8) : ∀ (n : Nat) (x1 : Int32) (m : Mm), wp_X8_measure_l51 K a0 n x1 m → J X (0, 0) 51 [(0, .ref (ad a0)), (1, .int x1)] [] (fl ad m) := by
  intro n
  induction n with
  | zero => intro x1 m h; exact h.elim
  | succ n ih => intro x1 m h; exact tb_X8_measure_l51 hX hR a0 h0 ih x1 m h
set_option maxRecDepth 100000 in
theorem c_X8_measure {G : GT} {ad : Nat → Nat} (a0 : Nat) (h0 : kap a0 = 8) (m : Mm) (K : Mm → Prop) (h : wp_X8_measure a0 m K) : Cn G yX8_measure cX8_measure 5 none (rmN 2 45) [.ref (ad a0)] (0, 0) (fl ad m) (kV ad K) := by
  unfold wp_X8_measure at h
  refine Cn.of pn_RX8 (Nat.le_of_ble_eq_true rfl) (fun X hG hX hR => ?_)
  subst hG
  have hX : Cx X cX8_measure 5 RX8 (rmN 2 45) := hX
  show J X (0, 0) 0 [(0, .ref (ad a0))] [] (fl ad m)
  refine J_iconst (v := (0 : Int32)) hX dX8_measure_0 (by decide) ?_
  refine J_istore_n (lv2 := [(1, .int (0 : Int32)), (0, .ref (ad a0))]) hX dX8_measure_1 rfl (Nat.le_of_ble_eq_true rfl) rfl ?_
  refine J_sub [1, 0] rfl (t_X8_measure_l2 hX hR a0 h0 (fun m7 h => ?_) FU (0 : Int32) m h)
  refine J_iconst (v := (0 : Int32)) hX dX8_measure_49 (by decide) ?_
  refine J_istore_n (lv2 := [(1, .int (0 : Int32)), (0, .ref (ad a0))]) hX dX8_measure_50 rfl (Nat.le_of_ble_eq_true rfl) rfl ?_
  refine J_sub [1, 0] rfl (t_X8_measure_l51 hX hR a0 h0 FU (0 : Int32) m7 h)
set_option maxRecDepth 100000 in
theorem c_X8_outward {G : GT} {ad : Nat → Nat} (a0 : Nat) (h0 : kap a0 = 8) (x1 : Int32) (m : Mm) : Cn G yX8_outward cX8_outward 2 (some .int) (rmN 0 0) [.ref (ad a0), .int x1] (0, 0) (fl ad m) (fun v w => v = some (.int (v_X8_outward a0 x1 m)) ∧ w = fl ad m) := by
  refine Cn.of pn_RX8 (Nat.le_of_ble_eq_true rfl) (fun X hG hX hR => ?_)
  subst hG
  have hX : Cx X cX8_outward 2 RX8 (rmN 0 0) := hX
  show J X (0, 0) 0 [(0, .ref (ad a0)), (1, .int x1)] [] (fl ad m)
  refine J_iload_n hX dX8_outward_0 rfl 1 rfl ?_
  have hj4 : ∀ y5 : Int32, y5 = (if x1 = (0 : Int32) then ((m.1 a0 9) ^^^ (1 : Int32)) else (if x1 = (1 : Int32) then (m.1 a0 8) else (if x1 = (2 : Int32) then (m.1 a0 9) else ((m.1 a0 8) ^^^ (1 : Int32))))) → J X (0, 0) 43 [] [.int y5] (fl ad m) := by
    intro y5 e_y5
    subst e_y5
    exact J_iret hX hR dX8_outward_43 (And.intro (congrArg (fun z => some (Value.int z)) (show (if x1 = (0 : Int32) then ((m.1 a0 9) ^^^ (1 : Int32)) else (if x1 = (1 : Int32) then (m.1 a0 8) else (if x1 = (2 : Int32) then (m.1 a0 9) else ((m.1 a0 8) ^^^ (1 : Int32))))) = v_X8_outward a0 x1 m from rfl)) rfl)
  refine J_if_ne (tgt := 13) hX dX8_outward_1 (by decide) (fun c1 => ?_) (fun c1 => ?_)
  · refine J_iload_n hX dX8_outward_13 rfl 1 rfl ?_
    refine J_iconst (v := (1 : Int32)) hX dX8_outward_14 (by decide) ?_
    refine J_icmp_ne (tgt := 25) hX dX8_outward_15 (by decide) (fun c2 => ?_) (fun c2 => ?_)
    · refine J_iload_n hX dX8_outward_25 rfl 1 rfl ?_
      refine J_iconst (v := (2 : Int32)) hX dX8_outward_26 (by decide) ?_
      refine J_icmp_ne (tgt := 37) hX dX8_outward_27 (by decide) (fun c3 => ?_) (fun c3 => ?_)
      · refine J_aload_n hX dX8_outward_37 rfl 0 rfl ?_
        refine J_getI hX kf_RX8_37 dX8_outward_38 h0 (by decide) rfl ?_
        refine J_iconst (v := (1 : Int32)) hX dX8_outward_41 (by decide) ?_
        refine J_ixor hX dX8_outward_42 ?_
        exact J_sub [] rfl (hj4 _ ((if_neg c1).trans ((if_neg c2).trans (if_neg c3))).symm)
      · refine J_aload_n hX dX8_outward_30 rfl 0 rfl ?_
        refine J_getI hX kf_RX8_41 dX8_outward_31 h0 (by decide) rfl ?_
        refine J_goto (tgt := 43) hX dX8_outward_34 (by decide) ?_
        exact J_sub [] rfl (hj4 _ ((if_neg c1).trans ((if_neg c2).trans (if_pos c3))).symm)
    · refine J_aload_n hX dX8_outward_18 rfl 0 rfl ?_
      refine J_getI hX kf_RX8_37 dX8_outward_19 h0 (by decide) rfl ?_
      refine J_goto (tgt := 43) hX dX8_outward_22 (by decide) ?_
      exact J_sub [] rfl (hj4 _ ((if_neg c1).trans (if_pos c2)).symm)
  · refine J_aload_n hX dX8_outward_4 rfl 0 rfl ?_
    refine J_getI hX kf_RX8_41 dX8_outward_5 h0 (by decide) rfl ?_
    refine J_iconst (v := (1 : Int32)) hX dX8_outward_8 (by decide) ?_
    refine J_ixor hX dX8_outward_9 ?_
    refine J_goto (tgt := 43) hX dX8_outward_10 (by decide) ?_
    exact J_sub [] rfl (hj4 _ (if_pos c1).symm)
set_option maxRecDepth 100000 in
theorem t_X8_hangOn_j275 {X : XT} {ad : Nat → Nat} {K : Mm → Prop} (hX : Cx X cX8_hangOn 10 RX8 (rmN 2 45)) (hR : Rx X none (kV ad K) (0, 0)) {k216 : Int32 → Mm → Prop} (a0 : Nat) (h0 : kap a0 = 8) (a1 : Nat) (h1 : kap a1 = 8) (a2 : Nat) (h2 : kap a2 = 7) (x4 : Int32) (x6 : Int32) (x7 : Int32) (x8 : Int32) (x9 : Int32) (hk216 : ∀ (z9 : Int32) (m : Mm), k216 z9 m → J X (0, 0) 216 [(0, .ref (ad a0)), (1, .ref (ad a1)), (2, .ref (ad a2)), (4, .int x4), (6, .int x6), (7, .int x7), (8, .int x8), (9, .int z9)] [] (fl ad m)) (m : Mm) (h : wp_X8_hangOn_j275 k216 K a0 a1 a2 x4 x6 x7 x8 x9 m) : J X (0, 0) 275 [(0, .ref (ad a0)), (1, .ref (ad a1)), (2, .ref (ad a2)), (4, .int x4), (6, .int x6), (7, .int x7), (8, .int x8), (9, .int x9)] [] (fl ad m) := by
  unfold wp_X8_hangOn_j275 at h
  refine J_aload_n hX dX8_hangOn_275 rfl 0 rfl ?_
  refine J_getR hX kf_RX8_31 dX8_hangOn_276 h0 (by decide) rfl (ro_8_12 h0) ?_
  refine J_iload hX dX8_hangOn_279 7 rfl ?_
  refine J_dup2_11 hX dX8_hangOn_281 rfl rfl ?_
  obtain ⟨b33, h⟩ := h
  refine J_iald (j := x9.toNatClampNeg) hX dX8_hangOn_282 (ko_8_12 h0) (lo_8_12 h0) b33 rfl ?_
  refine J_aload_n hX dX8_hangOn_283 rfl 2 rfl ?_
  refine J_getI hX kf_RX8_80 dX8_hangOn_284 h2 (by decide) rfl ?_
  refine J_iload hX dX8_hangOn_287 4 rfl ?_
  refine J_iload hX dX8_hangOn_289 7 rfl ?_
  refine J_callS hX km_X8_part kl_RX8_77 dX8_hangOn_291 [.int x6, .int x9] ⟨Nat.le_of_ble_eq_true rfl, Nat.le_of_ble_eq_true rfl⟩ rfl rfl (Nat.le_of_ble_eq_true rfl) (c_X8_part x6 x9 m) (fun v w2 hk => ?_)
  obtain ⟨rfl, rfl⟩ := hk
  show J X (0, 0) 294 [(0, .ref (ad a0)), (1, .ref (ad a1)), (2, .ref (ad a2)), (4, .int x4), (6, .int x6), (7, .int x7), (8, .int x8), (9, .int x9)] [.int (v_X8_part x6 x9), .int (m.1 a2 4), .int (m.1 (a0 + 8) x9.toNatClampNeg), .int x9, .ref (ad (a0 + 8))] (fl ad m)
  refine J_imul hX dX8_hangOn_294 ?_
  refine J_iadd hX dX8_hangOn_295 ?_
  refine J_iast (j := x9.toNatClampNeg) hX dX8_hangOn_296 (ko_8_12 h0) (lo_8_12 h0) b33 rfl ?_
  refine J_nmM (fun m34 e_m34 => ?_)
  replace h := h m34 e_m34
  refine J_iinc (x := (x9 + (1 : Int32))) (lv2 := [(9, .int (x9 + (1 : Int32))), (0, .ref (ad a0)), (1, .ref (ad a1)), (2, .ref (ad a2)), (4, .int x4), (6, .int x6), (7, .int x7), (8, .int x8)]) hX dX8_hangOn_297 7 rfl rfl (Nat.le_of_ble_eq_true rfl) rfl ?_
  refine J_goto (tgt := 216) hX dX8_hangOn_300 (by decide) ?_
  exact J_sub [1, 2, 3, 4, 5, 6, 7, 0] rfl (hk216 (x9 + (1 : Int32)) m34 h)
set_option maxRecDepth 100000 in
theorem tb_X8_hangOn_l216 {X : XT} {ad : Nat → Nat} {K : Mm → Prop} (hX : Cx X cX8_hangOn 10 RX8 (rmN 2 45)) (hR : Rx X none (kV ad K) (0, 0)) {rec : Int32 → Mm → Prop} (a0 : Nat) (h0 : kap a0 = 8) (a1 : Nat) (h1 : kap a1 = 8) (a2 : Nat) (h2 : kap a2 = 7) (x4 : Int32) (x6 : Int32) (x7 : Int32) (x8 : Int32) (hrec : ∀ (x9 : Int32) (m : Mm), rec x9 m → J X (0, 0) 216 [(0, .ref (ad a0)), (1, .ref (ad a1)), (2, .ref (ad a2)), (4, .int x4), (6, .int x6), (7, .int x7), (8, .int x8), (9, .int x9)] [] (fl ad m)) (x9 : Int32) (m : Mm) (h : wb_X8_hangOn_l216 rec K a0 a1 a2 x4 x6 x7 x8 x9 m) : J X (0, 0) 216 [(0, .ref (ad a0)), (1, .ref (ad a1)), (2, .ref (ad a2)), (4, .int x4), (6, .int x6), (7, .int x7), (8, .int x8), (9, .int x9)] [] (fl ad m) := by
  unfold wb_X8_hangOn_l216 at h
  refine J_iload hX dX8_hangOn_216 7 rfl ?_
  refine J_iconst (v := (3 : Int32)) hX dX8_hangOn_218 (by decide) ?_
  refine J_icmp_ge (tgt := 303) hX dX8_hangOn_219 (by decide) (fun c27 => ?_) (fun c27 => ?_)
  · replace h := Eq.mp (if_pos c27) h
    exact J_vret hX hR dX8_hangOn_303 ⟨_, rfl, rfl, h⟩
  · replace h := Eq.mp (if_neg c27) h
    refine J_aload_n hX dX8_hangOn_222 rfl 0 rfl ?_
    refine J_getR hX kf_RX8_31 dX8_hangOn_223 h0 (by decide) rfl (ro_8_12 h0) ?_
    refine J_iload hX dX8_hangOn_226 7 rfl ?_
    refine J_aload_n hX dX8_hangOn_228 rfl 1 rfl ?_
    refine J_iload hX dX8_hangOn_229 6 rfl ?_
    refine J_iload hX dX8_hangOn_231 7 rfl ?_
    refine J_callV hX km_X8_cornerAt kl_RX8_70 dX8_hangOn_233 h1 (by decide) [.int x8, .int x9] ⟨Nat.le_of_ble_eq_true rfl, Nat.le_of_ble_eq_true rfl⟩ rfl rfl (Nat.le_of_ble_eq_true rfl) (c_X8_cornerAt a1 h1 x8 x9 m) (fun v w2 hk => ?_)
    obtain ⟨rfl, rfl⟩ := hk
    show J X (0, 0) 236 [(0, .ref (ad a0)), (1, .ref (ad a1)), (2, .ref (ad a2)), (4, .int x4), (6, .int x6), (7, .int x7), (8, .int x8), (9, .int x9)] [.int (v_X8_cornerAt a1 x8 x9 m), .int x9, .ref (ad (a0 + 8))] (fl ad m)
    refine J_aload_n hX dX8_hangOn_236 rfl 2 rfl ?_
    refine J_getI hX kf_RX8_74 dX8_hangOn_237 h2 (by decide) rfl ?_
    refine J_iload hX dX8_hangOn_240 5 rfl ?_
    have hj36 : ∀ y29 : Int32, y29 = (if x7 = (0 : Int32) then (m.1 a1 9) else (m.1 a1 8)) → J X (0, 0) 256 [(0, .ref (ad a0)), (1, .ref (ad a1)), (2, .ref (ad a2)), (4, .int x4), (6, .int x6), (7, .int x7), (8, .int x8), (9, .int x9)] [.int y29, .int (m.1 a2 2), .int (v_X8_cornerAt a1 x8 x9 m), .int x9, .ref (ad (a0 + 8))] (fl ad m) := by
      intro y29 e_y29
      replace h := h y29 e_y29
      refine J_iload hX dX8_hangOn_256 7 rfl ?_
      refine J_callS hX km_X8_part kl_RX8_77 dX8_hangOn_258 [.int y29, .int x9] ⟨Nat.le_of_ble_eq_true rfl, Nat.le_of_ble_eq_true rfl⟩ rfl rfl (Nat.le_of_ble_eq_true rfl) (c_X8_part y29 x9 m) (fun v w2 hk => ?_)
      obtain ⟨rfl, rfl⟩ := hk
      show J X (0, 0) 261 [(0, .ref (ad a0)), (1, .ref (ad a1)), (2, .ref (ad a2)), (4, .int x4), (6, .int x6), (7, .int x7), (8, .int x8), (9, .int x9)] [.int (v_X8_part y29 x9), .int (m.1 a2 2), .int (v_X8_cornerAt a1 x8 x9 m), .int x9, .ref (ad (a0 + 8))] (fl ad m)
      refine J_imul hX dX8_hangOn_261 ?_
      refine J_iadd hX dX8_hangOn_262 ?_
      obtain ⟨b30, h⟩ := h
      refine J_iast (j := x9.toNatClampNeg) hX dX8_hangOn_263 (ko_8_12 h0) (lo_8_12 h0) b30 rfl ?_
      refine J_nmM (fun m31 e_m31 => ?_)
      replace h := h m31 e_m31
      refine J_iload hX dX8_hangOn_264 3 rfl ?_
      refine J_if_eq (tgt := 275) hX dX8_hangOn_266 (by decide) (fun c32 => ?_) (fun c32 => ?_)
      · replace h := Eq.mp (if_pos c32) h
        exact J_sub [0, 1, 2, 3, 4, 5, 6, 7] rfl (t_X8_hangOn_j275 hX hR a0 h0 a1 h1 a2 h2 x4 x6 x7 x8 x9 hrec m31 h)
      · replace h := Eq.mp (if_neg c32) h
        refine J_iload hX dX8_hangOn_269 3 rfl ?_
        refine J_iconst (v := (3 : Int32)) hX dX8_hangOn_271 (by decide) ?_
        refine J_icmp_ne (tgt := 297) hX dX8_hangOn_272 (by decide) (fun c35 => ?_) (fun c35 => ?_)
        · replace h := Eq.mp (if_neg c35) h
          refine J_iinc (x := (x9 + (1 : Int32))) (lv2 := [(9, .int (x9 + (1 : Int32))), (0, .ref (ad a0)), (1, .ref (ad a1)), (2, .ref (ad a2)), (4, .int x4), (6, .int x6), (7, .int x7), (8, .int x8)]) hX dX8_hangOn_297 7 rfl rfl (Nat.le_of_ble_eq_true rfl) rfl ?_
          refine J_goto (tgt := 216) hX dX8_hangOn_300 (by decide) ?_
          exact J_sub [1, 2, 3, 4, 5, 6, 7, 0] rfl (hrec (x9 + (1 : Int32)) m31 h)
        · replace h := Eq.mp (if_pos c35) h
          exact J_sub [0, 1, 2, 3, 4, 5, 6, 7] rfl (t_X8_hangOn_j275 hX hR a0 h0 a1 h1 a2 h2 x4 x6 x7 x8 x9 hrec m31 h)
    refine J_if_eq (tgt := 252) hX dX8_hangOn_242 (by decide) (fun c28 => ?_) (fun c28 => ?_)
    · refine J_aload_n hX dX8_hangOn_252 rfl 1 rfl ?_
      refine J_getI hX kf_RX8_41 dX8_hangOn_253 h1 (by decide) rfl ?_
      exact J_sub [0, 1, 2, 3, 4, 5, 6, 7] rfl (hj36 _ (if_pos c28).symm)
    · refine J_aload_n hX dX8_hangOn_245 rfl 1 rfl ?_
      refine J_getI hX kf_RX8_37 dX8_hangOn_246 h1 (by decide) rfl ?_
      refine J_goto (tgt := 256) hX dX8_hangOn_249 (by decide) ?_
      exact J_sub [0, 1, 2, 3, 4, 5, 6, 7] rfl (hj36 _ (if_neg c28).symm)
set_option maxRecDepth 100000 in
theorem t_X8_hangOn_l216 {X : XT} {ad : Nat → Nat} {K : Mm → Prop} (hX : Cx X cX8_hangOn 10 RX8 (rmN 2 45)) (hR : Rx X none (kV ad K) (0, 0)) (a0 : Nat) (h0 : kap a0 = 8) (a1 : Nat) (h1 : kap a1 = 8) (a2 : Nat) (h2 : kap a2 = 7) (x4 : Int32) (x6 : Int32) (x7 : Int32) (x8 : Int32) : ∀ (n : Nat) (x9 : Int32) (m : Mm), wp_X8_hangOn_l216 K a0 a1 a2 x4 x6 x7 x8 n x9 m → J X (0, 0) 216 [(0, .ref (ad a0)), (1, .ref (ad a1)), (2, .ref (ad a2)), (4, .int x4), (6, .int x6), (7, .int x7), (8, .int x8), (9, .int x9)] [] (fl ad m) := by
  intro n
  induction n with
  | zero => intro x9 m h; exact h.elim
  | succ n ih => intro x9 m h; exact tb_X8_hangOn_l216 hX hR a0 h0 a1 h1 a2 h2 x4 x6 x7 x8 ih x9 m h
set_option maxRecDepth 100000 in
theorem c_X8_hangOn {G : GT} {ad : Nat → Nat} (a0 : Nat) (h0 : kap a0 = 8) (a1 : Nat) (h1 : kap a1 = 8) (a2 : Nat) (h2 : kap a2 = 7) (x3 : Int32) (m : Mm) (K : Mm → Prop) (h : wp_X8_hangOn a0 a1 a2 x3 m K) : Cn G yX8_hangOn cX8_hangOn 10 none (rmN 2 45) [.ref (ad a0), .ref (ad a1), .ref (ad a2), .int x3] (0, 0) (fl ad m) (kV ad K) := by
  unfold wp_X8_hangOn at h
  refine Cn.of pn_RX8 (Nat.le_of_ble_eq_true rfl) (fun X hG hX hR => ?_)
  subst hG
  have hX : Cx X cX8_hangOn 10 RX8 (rmN 2 45) := hX
  show J X (0, 0) 0 [(0, .ref (ad a0)), (1, .ref (ad a1)), (2, .ref (ad a2)), (3, .int x3)] [] (fl ad m)
  refine J_aload_n hX dX8_hangOn_0 rfl 2 rfl ?_
  refine J_getI hX kf_RX8_63 dX8_hangOn_1 h2 (by decide) rfl ?_
  refine J_nmI (fun y1 e_y1 => ?_)
  replace h := h y1 e_y1
  refine J_istore (lv2 := [(4, .int y1), (0, .ref (ad a0)), (1, .ref (ad a1)), (2, .ref (ad a2)), (3, .int x3)]) hX dX8_hangOn_4 (Nat.le_of_ble_eq_true rfl) rfl ?_
  refine J_aload_n hX dX8_hangOn_6 rfl 2 rfl ?_
  refine J_iload hX dX8_hangOn_7 0 rfl ?_
  refine J_callV hX km_X8_outward kl_RX8_66 dX8_hangOn_9 h1 (by decide) [.int y1] ⟨Nat.le_of_ble_eq_true rfl, Nat.le_of_ble_eq_true rfl⟩ rfl rfl (Nat.le_of_ble_eq_true rfl) (c_X8_outward a1 h1 y1 m) (fun v w2 hk => ?_)
  obtain ⟨rfl, rfl⟩ := hk
  show J X (0, 0) 12 [(4, .int y1), (0, .ref (ad a0)), (1, .ref (ad a1)), (2, .ref (ad a2)), (3, .int x3)] [.int (v_X8_outward a1 y1 m)] (fl ad m)
  refine J_nmI (fun y2 e_y2 => ?_)
  replace h := h y2 e_y2
  refine J_istore (lv2 := [(5, .int y2), (4, .int y1), (0, .ref (ad a0)), (1, .ref (ad a1)), (2, .ref (ad a2)), (3, .int x3)]) hX dX8_hangOn_12 (Nat.le_of_ble_eq_true rfl) rfl ?_
  refine J_iload_n hX dX8_hangOn_14 rfl 5 rfl ?_
  have hj42 : ∀ y6 : Int32, y6 = (if x3 = (0 : Int32) then y2 else (if x3 = (1 : Int32) then ((m.1 a1 0) ^^^ (1 : Int32)) else (if x3 = (2 : Int32) then (y2 ^^^ (1 : Int32)) else (m.1 a1 0)))) → J X (0, 0) 53 [(0, .ref (ad a0)), (1, .ref (ad a1)), (2, .ref (ad a2)), (3, .int x3), (4, .int y1), (5, .int y2)] [.int y6] (fl ad m) := by
    intro y6 e_y6
    replace h := h y6 e_y6
    refine J_istore (lv2 := [(6, .int y6), (0, .ref (ad a0)), (1, .ref (ad a1)), (2, .ref (ad a2)), (3, .int x3), (4, .int y1), (5, .int y2)]) hX dX8_hangOn_53 (Nat.le_of_ble_eq_true rfl) rfl ?_
    refine J_aload_n hX dX8_hangOn_55 rfl 1 rfl ?_
    refine J_iload_n hX dX8_hangOn_56 rfl 4 rfl ?_
    have hj41 : ∀ y10 : Int32, y10 = (if x3 = (0 : Int32) then (m.1 a1 0) else (if x3 = (1 : Int32) then y2 else (if x3 = (2 : Int32) then ((m.1 a1 0) ^^^ (1 : Int32)) else (y2 ^^^ (1 : Int32))))) → J X (0, 0) 95 [(0, .ref (ad a0)), (1, .ref (ad a1)), (2, .ref (ad a2)), (4, .int y1), (6, .int y6)] [.int y10, .ref (ad a0)] (fl ad m) := by
      intro y10 e_y10
      replace h := h y10 e_y10
      refine J_putI hX kf_RX8_44 dX8_hangOn_95 h0 (by decide) rfl ?_
      refine J_nmM (fun m11 e_m11 => ?_)
      replace h := h m11 e_m11
      refine J_iload hX dX8_hangOn_98 3 rfl ?_
      refine J_iconst (v := (1 : Int32)) hX dX8_hangOn_100 (by decide) ?_
      refine J_iand hX dX8_hangOn_101 ?_
      have hj40 : ∀ y13 : Int32, y13 = (if (y1 &&& (1 : Int32)) = (0 : Int32) then (1 : Int32) else (0 : Int32)) → J X (0, 0) 110 [(0, .ref (ad a0)), (1, .ref (ad a1)), (2, .ref (ad a2)), (4, .int y1), (6, .int y6)] [.int y13] (fl ad m11) := by
        intro y13 e_y13
        replace h := h y13 e_y13
        refine J_istore (lv2 := [(7, .int y13), (0, .ref (ad a0)), (1, .ref (ad a1)), (2, .ref (ad a2)), (4, .int y1), (6, .int y6)]) hX dX8_hangOn_110 (Nat.le_of_ble_eq_true rfl) rfl ?_
        refine J_aload_n hX dX8_hangOn_112 rfl 1 rfl ?_
        refine J_iload hX dX8_hangOn_113 0 rfl ?_
        have hj39 : ∀ y16 : Int32, y16 = (if y13 = (0 : Int32) then (if y1 = (1 : Int32) then y6 else (y6 ^^^ (1 : Int32))) else (m11.1 a1 8)) → J X (0, 0) 140 [(0, .ref (ad a0)), (1, .ref (ad a1)), (2, .ref (ad a2)), (4, .int y1), (6, .int y6), (7, .int y13)] [.int y16, .ref (ad a0)] (fl ad m11) := by
          intro y16 e_y16
          replace h := h y16 e_y16
          refine J_putI hX kf_RX8_37 dX8_hangOn_140 h0 (by decide) rfl ?_
          refine J_nmM (fun m17 e_m17 => ?_)
          replace h := h m17 e_m17
          refine J_aload_n hX dX8_hangOn_143 rfl 0 rfl ?_
          refine J_iload hX dX8_hangOn_144 5 rfl ?_
          have hj38 : ∀ y20 : Int32, y20 = (if y13 = (0 : Int32) then (m17.1 a1 9) else (if y1 = (2 : Int32) then y6 else (y6 ^^^ (1 : Int32)))) → J X (0, 0) 171 [(0, .ref (ad a0)), (1, .ref (ad a1)), (2, .ref (ad a2)), (4, .int y1), (6, .int y6), (7, .int y13)] [.int y20, .ref (ad a0)] (fl ad m17) := by
            intro y20 e_y20
            replace h := h y20 e_y20
            refine J_putI hX kf_RX8_41 dX8_hangOn_171 h0 (by decide) rfl ?_
            refine J_nmM (fun m21 e_m21 => ?_)
            replace h := h m21 e_m21
            refine J_aload_n hX dX8_hangOn_174 rfl 0 rfl ?_
            refine J_aload_n hX dX8_hangOn_175 rfl 2 rfl ?_
            refine J_getI hX kf_RX8_47 dX8_hangOn_176 h2 (by decide) rfl ?_
            refine J_putI hX kf_RX8_52 dX8_hangOn_179 h0 (by decide) rfl ?_
            refine J_nmM (fun m22 e_m22 => ?_)
            replace h := h m22 e_m22
            refine J_aload_n hX dX8_hangOn_182 rfl 0 rfl ?_
            refine J_aload_n hX dX8_hangOn_183 rfl 2 rfl ?_
            refine J_getI hX kf_RX8_53 dX8_hangOn_184 h2 (by decide) rfl ?_
            refine J_putI hX kf_RX8_56 dX8_hangOn_187 h0 (by decide) rfl ?_
            refine J_nmM (fun m23 e_m23 => ?_)
            replace h := h m23 e_m23
            refine J_iload hX dX8_hangOn_190 3 rfl ?_
            refine J_iconst (v := (1 : Int32)) hX dX8_hangOn_192 (by decide) ?_
            have hj37 : ∀ y26 : Int32, y26 = (if y1 = (1 : Int32) then (1 : Int32) else (if y1 = (2 : Int32) then (3 : Int32) else (0 : Int32))) → J X (0, 0) 211 [(0, .ref (ad a0)), (1, .ref (ad a1)), (2, .ref (ad a2)), (4, .int y1), (6, .int y6), (7, .int y13)] [.int y26] (fl ad m23) := by
              intro y26 e_y26
              replace h := h y26 e_y26
              refine J_istore (lv2 := [(8, .int y26), (0, .ref (ad a0)), (1, .ref (ad a1)), (2, .ref (ad a2)), (4, .int y1), (6, .int y6), (7, .int y13)]) hX dX8_hangOn_211 (Nat.le_of_ble_eq_true rfl) rfl ?_
              refine J_iconst (v := (0 : Int32)) hX dX8_hangOn_213 (by decide) ?_
              refine J_istore (lv2 := [(9, .int (0 : Int32)), (8, .int y26), (0, .ref (ad a0)), (1, .ref (ad a1)), (2, .ref (ad a2)), (4, .int y1), (6, .int y6), (7, .int y13)]) hX dX8_hangOn_214 (Nat.le_of_ble_eq_true rfl) rfl ?_
              refine J_sub [2, 3, 4, 5, 6, 7, 1, 0] rfl (t_X8_hangOn_l216 hX hR a0 h0 a1 h1 a2 h2 y1 y6 y13 y26 FU (0 : Int32) m23 h)
            refine J_icmp_ne (tgt := 200) hX dX8_hangOn_193 (by decide) (fun c24 => ?_) (fun c24 => ?_)
            · refine J_iload hX dX8_hangOn_200 3 rfl ?_
              refine J_iconst (v := (2 : Int32)) hX dX8_hangOn_202 (by decide) ?_
              refine J_icmp_ne (tgt := 210) hX dX8_hangOn_203 (by decide) (fun c25 => ?_) (fun c25 => ?_)
              · refine J_iconst (v := (0 : Int32)) hX dX8_hangOn_210 (by decide) ?_
                exact J_sub [0, 1, 2, 3, 4, 5] rfl (hj37 _ ((if_neg c24).trans (if_neg c25)).symm)
              · refine J_iconst (v := (3 : Int32)) hX dX8_hangOn_206 (by decide) ?_
                refine J_goto (tgt := 211) hX dX8_hangOn_207 (by decide) ?_
                exact J_sub [0, 1, 2, 3, 4, 5] rfl (hj37 _ ((if_neg c24).trans (if_pos c25)).symm)
            · refine J_iconst (v := (1 : Int32)) hX dX8_hangOn_196 (by decide) ?_
              refine J_goto (tgt := 211) hX dX8_hangOn_197 (by decide) ?_
              exact J_sub [0, 1, 2, 3, 4, 5] rfl (hj37 _ (if_pos c24).symm)
          refine J_if_ne (tgt := 156) hX dX8_hangOn_146 (by decide) (fun c18 => ?_) (fun c18 => ?_)
          · refine J_iload hX dX8_hangOn_156 3 rfl ?_
            refine J_iconst (v := (2 : Int32)) hX dX8_hangOn_158 (by decide) ?_
            refine J_icmp_ne (tgt := 167) hX dX8_hangOn_159 (by decide) (fun c19 => ?_) (fun c19 => ?_)
            · refine J_iload hX dX8_hangOn_167 4 rfl ?_
              refine J_iconst (v := (1 : Int32)) hX dX8_hangOn_169 (by decide) ?_
              refine J_ixor hX dX8_hangOn_170 ?_
              exact J_sub [0, 1, 2, 3, 4, 5] rfl (hj38 _ ((if_neg c18).trans (if_neg c19)).symm)
            · refine J_iload hX dX8_hangOn_162 4 rfl ?_
              refine J_goto (tgt := 171) hX dX8_hangOn_164 (by decide) ?_
              exact J_sub [0, 1, 2, 3, 4, 5] rfl (hj38 _ ((if_neg c18).trans (if_pos c19)).symm)
          · refine J_aload_n hX dX8_hangOn_149 rfl 1 rfl ?_
            refine J_getI hX kf_RX8_41 dX8_hangOn_150 h1 (by decide) rfl ?_
            refine J_goto (tgt := 171) hX dX8_hangOn_153 (by decide) ?_
            exact J_sub [0, 1, 2, 3, 4, 5] rfl (hj38 _ (if_pos c18).symm)
        refine J_if_eq (tgt := 125) hX dX8_hangOn_115 (by decide) (fun c14 => ?_) (fun c14 => ?_)
        · refine J_iload hX dX8_hangOn_125 4 rfl ?_
          refine J_iconst (v := (1 : Int32)) hX dX8_hangOn_127 (by decide) ?_
          refine J_icmp_ne (tgt := 136) hX dX8_hangOn_128 (by decide) (fun c15 => ?_) (fun c15 => ?_)
          · refine J_iload hX dX8_hangOn_136 5 rfl ?_
            refine J_iconst (v := (1 : Int32)) hX dX8_hangOn_138 (by decide) ?_
            refine J_ixor hX dX8_hangOn_139 ?_
            exact J_sub [1, 2, 3, 4, 5, 0] rfl (hj39 _ ((if_pos c14).trans (if_neg c15)).symm)
          · refine J_iload hX dX8_hangOn_131 5 rfl ?_
            refine J_goto (tgt := 140) hX dX8_hangOn_133 (by decide) ?_
            exact J_sub [1, 2, 3, 4, 5, 0] rfl (hj39 _ ((if_pos c14).trans (if_pos c15)).symm)
        · refine J_aload_n hX dX8_hangOn_118 rfl 2 rfl ?_
          refine J_getI hX kf_RX8_37 dX8_hangOn_119 h1 (by decide) rfl ?_
          refine J_goto (tgt := 140) hX dX8_hangOn_122 (by decide) ?_
          exact J_sub [1, 2, 3, 4, 5, 0] rfl (hj39 _ (if_neg c14).symm)
      refine J_if_ne (tgt := 109) hX dX8_hangOn_102 (by decide) (fun c12 => ?_) (fun c12 => ?_)
      · refine J_iconst (v := (0 : Int32)) hX dX8_hangOn_109 (by decide) ?_
        exact J_sub [0, 1, 2, 3, 4] rfl (hj40 _ (if_neg c12).symm)
      · refine J_iconst (v := (1 : Int32)) hX dX8_hangOn_105 (by decide) ?_
        refine J_goto (tgt := 110) hX dX8_hangOn_106 (by decide) ?_
        exact J_sub [0, 1, 2, 3, 4] rfl (hj40 _ (if_pos c12).symm)
    refine J_if_ne (tgt := 67) hX dX8_hangOn_57 (by decide) (fun c7 => ?_) (fun c7 => ?_)
    · refine J_iload_n hX dX8_hangOn_67 rfl 4 rfl ?_
      refine J_iconst (v := (1 : Int32)) hX dX8_hangOn_68 (by decide) ?_
      refine J_icmp_ne (tgt := 77) hX dX8_hangOn_69 (by decide) (fun c8 => ?_) (fun c8 => ?_)
      · refine J_iload_n hX dX8_hangOn_77 rfl 4 rfl ?_
        refine J_iconst (v := (2 : Int32)) hX dX8_hangOn_78 (by decide) ?_
        refine J_icmp_ne (tgt := 91) hX dX8_hangOn_79 (by decide) (fun c9 => ?_) (fun c9 => ?_)
        · refine J_iload hX dX8_hangOn_91 6 rfl ?_
          refine J_iconst (v := (1 : Int32)) hX dX8_hangOn_93 (by decide) ?_
          refine J_ixor hX dX8_hangOn_94 ?_
          exact J_sub [1, 2, 3, 5, 0] rfl (hj41 _ ((if_neg c7).trans ((if_neg c8).trans (if_neg c9))).symm)
        · refine J_aload_n hX dX8_hangOn_82 rfl 2 rfl ?_
          refine J_getI hX kf_RX8_44 dX8_hangOn_83 h1 (by decide) rfl ?_
          refine J_iconst (v := (1 : Int32)) hX dX8_hangOn_86 (by decide) ?_
          refine J_ixor hX dX8_hangOn_87 ?_
          refine J_goto (tgt := 95) hX dX8_hangOn_88 (by decide) ?_
          exact J_sub [1, 2, 3, 5, 0] rfl (hj41 _ ((if_neg c7).trans ((if_neg c8).trans (if_pos c9))).symm)
      · refine J_iload hX dX8_hangOn_72 6 rfl ?_
        refine J_goto (tgt := 95) hX dX8_hangOn_74 (by decide) ?_
        exact J_sub [1, 2, 3, 5, 0] rfl (hj41 _ ((if_neg c7).trans (if_pos c8)).symm)
    · refine J_aload_n hX dX8_hangOn_60 rfl 2 rfl ?_
      refine J_getI hX kf_RX8_44 dX8_hangOn_61 h1 (by decide) rfl ?_
      refine J_goto (tgt := 95) hX dX8_hangOn_64 (by decide) ?_
      exact J_sub [1, 2, 3, 5, 0] rfl (hj41 _ (if_pos c7).symm)
  refine J_if_ne (tgt := 23) hX dX8_hangOn_15 (by decide) (fun c3 => ?_) (fun c3 => ?_)
  · refine J_iload_n hX dX8_hangOn_23 rfl 5 rfl ?_
    refine J_iconst (v := (1 : Int32)) hX dX8_hangOn_24 (by decide) ?_
    refine J_icmp_ne (tgt := 37) hX dX8_hangOn_25 (by decide) (fun c4 => ?_) (fun c4 => ?_)
    · refine J_iload_n hX dX8_hangOn_37 rfl 5 rfl ?_
      refine J_iconst (v := (2 : Int32)) hX dX8_hangOn_38 (by decide) ?_
      refine J_icmp_ne (tgt := 49) hX dX8_hangOn_39 (by decide) (fun c5 => ?_) (fun c5 => ?_)
      · refine J_aload_n hX dX8_hangOn_49 rfl 3 rfl ?_
        refine J_getI hX kf_RX8_44 dX8_hangOn_50 h1 (by decide) rfl ?_
        exact J_sub [2, 3, 4, 5, 1, 0] rfl (hj42 _ ((if_neg c3).trans ((if_neg c4).trans (if_neg c5))).symm)
      · refine J_iload hX dX8_hangOn_42 0 rfl ?_
        refine J_iconst (v := (1 : Int32)) hX dX8_hangOn_44 (by decide) ?_
        refine J_ixor hX dX8_hangOn_45 ?_
        refine J_goto (tgt := 53) hX dX8_hangOn_46 (by decide) ?_
        exact J_sub [2, 3, 4, 5, 1, 0] rfl (hj42 _ ((if_neg c3).trans ((if_neg c4).trans (if_pos c5))).symm)
    · refine J_aload_n hX dX8_hangOn_28 rfl 3 rfl ?_
      refine J_getI hX kf_RX8_44 dX8_hangOn_29 h1 (by decide) rfl ?_
      refine J_iconst (v := (1 : Int32)) hX dX8_hangOn_32 (by decide) ?_
      refine J_ixor hX dX8_hangOn_33 ?_
      refine J_goto (tgt := 53) hX dX8_hangOn_34 (by decide) ?_
      exact J_sub [2, 3, 4, 5, 1, 0] rfl (hj42 _ ((if_neg c3).trans (if_pos c4)).symm)
  · refine J_iload hX dX8_hangOn_18 0 rfl ?_
    refine J_goto (tgt := 53) hX dX8_hangOn_20 (by decide) ?_
    exact J_sub [2, 3, 4, 5, 1, 0] rfl (hj42 _ (if_pos c3).symm)
set_option maxRecDepth 100000 in
theorem tb_X5_fold_l38 {X : XT} {ad : Nat → Nat} {K : Mm → Prop} (hX : Cx X cX5_fold 6 RX5 (rmN 3 74)) (hR : Rx X none (kV ad K) (0, 0)) {rec : Int32 → Mm → Prop} (a1 : Nat) (h1 : kap a1 = 3) (x2 : Int32) (hrec : ∀ (x3 : Int32) (m : Mm), rec x3 m → J X (0, 0) 38 [(0, .ref (ad 269)), (1, .ref (ad a1)), (2, .int x2), (3, .int x3)] [] (fl ad m)) (x3 : Int32) (m : Mm) (h : wb_X5_fold_l38 rec K a1 x2 x3 m) : J X (0, 0) 38 [(0, .ref (ad 269)), (1, .ref (ad a1)), (2, .int x2), (3, .int x3)] [] (fl ad m) := by
  unfold wb_X5_fold_l38 at h
  refine J_iload_n hX dX5_fold_38 rfl 3 rfl ?_
  refine J_aload_n hX dX5_fold_39 rfl 0 rfl ?_
  refine J_getI hX kf_RX5_9 dX5_fold_40 ka_269 (by decide) rfl ?_
  refine J_icmp_ge (tgt := 107) hX dX5_fold_43 (by decide) (fun c3 => ?_) (fun c3 => ?_)
  · replace h := Eq.mp (if_pos c3) h
    exact J_vret hX hR dX5_fold_107 ⟨_, rfl, rfl, h⟩
  · replace h := Eq.mp (if_neg c3) h
    refine J_aload_n hX dX5_fold_46 rfl 1 rfl ?_
    refine J_iload_n hX dX5_fold_47 rfl 3 rfl ?_
    refine J_callV hX km_X3_panelAt kl_RX5_43 dX5_fold_48 h1 (by decide) [.int x3] ⟨Nat.le_of_ble_eq_true rfl, Nat.le_of_ble_eq_true rfl⟩ rfl rfl (Nat.le_of_ble_eq_true rfl) (c_X3_panelAt a1 h1 x3 m) (fun v w2 hk => ?_)
    obtain ⟨rfl, rfl⟩ := hk
    show J X (0, 0) 51 [(0, .ref (ad 269)), (1, .ref (ad a1)), (2, .int x2), (3, .int x3)] [.ref (ad (v_X3_panelAt a1 x3))] (fl ad m)
    refine J_astore (lv2 := [(4, .ref (ad (v_X3_panelAt a1 x3))), (0, .ref (ad 269)), (1, .ref (ad a1)), (2, .int x2), (3, .int x3)]) hX dX5_fold_51 (Nat.le_of_ble_eq_true rfl) rfl ?_
    refine J_iload_n hX dX5_fold_53 rfl 3 rfl ?_
    refine J_iconst (v := (1 : Int32)) hX dX5_fold_54 (by decide) ?_
    refine J_iload_n hX dX5_fold_55 rfl 4 rfl ?_
    refine J_ishl hX dX5_fold_56 ?_
    refine J_iand hX dX5_fold_57 ?_
    have hj8 : ∀ y5 : Int32, y5 = (if (x2 &&& ((1 : Int32) <<< (x3 &&& 31))) = (0 : Int32) then (0 : Int32) else (m.1 (v_X3_panelAt a1 x3) 5)) → J X (0, 0) 70 [(0, .ref (ad 269)), (1, .ref (ad a1)), (2, .int x2), (3, .int x3), (4, .ref (ad (v_X3_panelAt a1 x3)))] [.int y5] (fl ad m) := by
      intro y5 e_y5
      replace h := h y5 e_y5
      refine J_istore (lv2 := [(5, .int y5), (0, .ref (ad 269)), (1, .ref (ad a1)), (2, .int x2), (3, .int x3), (4, .ref (ad (v_X3_panelAt a1 x3)))]) hX dX5_fold_70 (Nat.le_of_ble_eq_true rfl) rfl ?_
      refine J_aload_n hX dX5_fold_72 rfl 1 rfl ?_
      refine J_iload_n hX dX5_fold_73 rfl 4 rfl ?_
      refine J_callV hX km_X5_poseAt kl_RX5_39 dX5_fold_74 ka_269 (by decide) [.int x3] ⟨Nat.le_of_ble_eq_true rfl, Nat.le_of_ble_eq_true rfl⟩ rfl rfl (Nat.le_of_ble_eq_true rfl) (c_X5_poseAt x3 m) (fun v w2 hk => ?_)
      obtain ⟨rfl, rfl⟩ := hk
      show J X (0, 0) 77 [(5, .int y5), (0, .ref (ad 269)), (1, .ref (ad a1)), (2, .int x2), (3, .int x3), (4, .ref (ad (v_X3_panelAt a1 x3)))] [.ref (ad (v_X5_poseAt x3))] (fl ad m)
      refine J_aload_n hX dX5_fold_77 rfl 1 rfl ?_
      refine J_aload hX dX5_fold_78 5 rfl ?_
      refine J_getI hX kf_RX5_59 dX5_fold_80 (kv_X3_panelAt h1) (by decide) rfl ?_
      refine J_callV hX km_X5_poseAt kl_RX5_39 dX5_fold_83 ka_269 (by decide) [.int (m.1 (v_X3_panelAt a1 x3) 0)] ⟨Nat.le_of_ble_eq_true rfl, Nat.le_of_ble_eq_true rfl⟩ rfl rfl (Nat.le_of_ble_eq_true rfl) (c_X5_poseAt (m.1 (v_X3_panelAt a1 x3) 0) m) (fun v w2 hk => ?_)
      obtain ⟨rfl, rfl⟩ := hk
      show J X (0, 0) 86 [(5, .int y5), (0, .ref (ad 269)), (1, .ref (ad a1)), (2, .int x2), (3, .int x3), (4, .ref (ad (v_X3_panelAt a1 x3)))] [.ref (ad (v_X5_poseAt (m.1 (v_X3_panelAt a1 x3) 0))), .ref (ad (v_X5_poseAt x3))] (fl ad m)
      refine J_aload hX dX5_fold_86 5 rfl ?_
      refine J_iload hX dX5_fold_88 0 rfl ?_
      refine J_callV hX km_X8_hangOn kl_RX5_62 dX5_fold_90 kv_X5_poseAt (by decide) [.ref (ad (v_X5_poseAt (m.1 (v_X3_panelAt a1 x3) 0))), .ref (ad (v_X3_panelAt a1 x3)), .int y5] ⟨Nat.le_of_ble_eq_true rfl, Nat.le_of_ble_eq_true rfl⟩ rfl rfl (Nat.le_of_ble_eq_true rfl) (c_X8_hangOn (v_X5_poseAt x3) kv_X5_poseAt (v_X5_poseAt (m.1 (v_X3_panelAt a1 x3) 0)) kv_X5_poseAt (v_X3_panelAt a1 x3) (kv_X3_panelAt h1) y5 m _ h) (fun v w2 hk => ?_)
      obtain ⟨m6, rfl, rfl, h⟩ := hk
      show J X (0, 0) 93 [(5, .int y5), (0, .ref (ad 269)), (1, .ref (ad a1)), (2, .int x2), (3, .int x3), (4, .ref (ad (v_X3_panelAt a1 x3)))] [] (fl ad m6)
      refine J_aload_n hX dX5_fold_93 rfl 1 rfl ?_
      refine J_iload_n hX dX5_fold_94 rfl 4 rfl ?_
      refine J_callV hX km_X5_poseAt kl_RX5_39 dX5_fold_95 ka_269 (by decide) [.int x3] ⟨Nat.le_of_ble_eq_true rfl, Nat.le_of_ble_eq_true rfl⟩ rfl rfl (Nat.le_of_ble_eq_true rfl) (c_X5_poseAt x3 m6) (fun v w2 hk => ?_)
      obtain ⟨rfl, rfl⟩ := hk
      show J X (0, 0) 98 [(5, .int y5), (0, .ref (ad 269)), (1, .ref (ad a1)), (2, .int x2), (3, .int x3), (4, .ref (ad (v_X3_panelAt a1 x3)))] [.ref (ad (v_X5_poseAt x3))] (fl ad m6)
      refine J_callV hX km_X8_measure kl_RX5_51 dX5_fold_98 kv_X5_poseAt (by decide) [] ⟨Nat.le_of_ble_eq_true rfl, Nat.le_of_ble_eq_true rfl⟩ rfl rfl (Nat.le_of_ble_eq_true rfl) (c_X8_measure (v_X5_poseAt x3) kv_X5_poseAt m6 _ h) (fun v w2 hk => ?_)
      obtain ⟨m7, rfl, rfl, h⟩ := hk
      show J X (0, 0) 101 [(5, .int y5), (0, .ref (ad 269)), (1, .ref (ad a1)), (2, .int x2), (3, .int x3), (4, .ref (ad (v_X3_panelAt a1 x3)))] [] (fl ad m7)
      refine J_iinc (x := (x3 + (1 : Int32))) (lv2 := [(3, .int (x3 + (1 : Int32))), (5, .int y5), (0, .ref (ad 269)), (1, .ref (ad a1)), (2, .int x2), (4, .ref (ad (v_X3_panelAt a1 x3)))]) hX dX5_fold_101 4 rfl rfl (Nat.le_of_ble_eq_true rfl) rfl ?_
      refine J_goto (tgt := 38) hX dX5_fold_104 (by decide) ?_
      exact J_sub [2, 3, 4, 0] rfl (hrec (x3 + (1 : Int32)) m7 h)
    refine J_if_eq (tgt := 69) hX dX5_fold_58 (by decide) (fun c4 => ?_) (fun c4 => ?_)
    · refine J_iconst (v := (0 : Int32)) hX dX5_fold_69 (by decide) ?_
      exact J_sub [1, 2, 3, 4, 0] rfl (hj8 _ (if_pos c4).symm)
    · refine J_aload hX dX5_fold_61 0 rfl ?_
      refine J_getI hX kf_RX5_54 dX5_fold_63 (kv_X3_panelAt h1) (by decide) rfl ?_
      refine J_goto (tgt := 70) hX dX5_fold_66 (by decide) ?_
      exact J_sub [1, 2, 3, 4, 0] rfl (hj8 _ (if_neg c4).symm)
set_option maxRecDepth 100000 in
theorem t_X5_fold_l38 {X : XT} {ad : Nat → Nat} {K : Mm → Prop} (hX : Cx X cX5_fold 6 RX5 (rmN 3 74)) (hR : Rx X none (kV ad K) (0, 0)) (a1 : Nat) (h1 : kap a1 = 3) (x2 : Int32) : ∀ (n : Nat) (x3 : Int32) (m : Mm), wp_X5_fold_l38 K a1 x2 n x3 m → J X (0, 0) 38 [(0, .ref (ad 269)), (1, .ref (ad a1)), (2, .int x2), (3, .int x3)] [] (fl ad m) := by
  intro n
  induction n with
  | zero => intro x3 m h; exact h.elim
  | succ n ih => intro x3 m h; exact tb_X5_fold_l38 hX hR a1 h1 x2 ih x3 m h
set_option maxRecDepth 100000 in
theorem t_X5_fold_j36 {X : XT} {ad : Nat → Nat} {K : Mm → Prop} (hX : Cx X cX5_fold 6 RX5 (rmN 3 74)) (hR : Rx X none (kV ad K) (0, 0)) (a1 : Nat) (h1 : kap a1 = 3) (x2 : Int32) (m : Mm) (h : wp_X5_fold_j36 K a1 x2 m) : J X (0, 0) 36 [(0, .ref (ad 269)), (1, .ref (ad a1)), (2, .int x2)] [] (fl ad m) := by
  unfold wp_X5_fold_j36 at h
  refine J_iconst (v := (1 : Int32)) hX dX5_fold_36 (by decide) ?_
  refine J_istore_n (lv2 := [(3, .int (1 : Int32)), (0, .ref (ad 269)), (1, .ref (ad a1)), (2, .int x2)]) hX dX5_fold_37 rfl (Nat.le_of_ble_eq_true rfl) rfl ?_
  refine J_sub [1, 2, 3, 0] rfl (t_X5_fold_l38 hX hR a1 h1 x2 FU (1 : Int32) m h)
set_option maxRecDepth 100000 in
theorem c_X5_fold {G : GT} {ad : Nat → Nat} (a1 : Nat) (h1 : kap a1 = 3) (x2 : Int32) (m : Mm) (K : Mm → Prop) (h : wp_X5_fold a1 x2 m K) : Cn G yX5_fold cX5_fold 6 none (rmN 3 74) [.ref (ad 269), .ref (ad a1), .int x2] (0, 0) (fl ad m) (kV ad K) := by
  unfold wp_X5_fold at h
  refine Cn.of pn_RX5 (Nat.le_of_ble_eq_true rfl) (fun X hG hX hR => ?_)
  subst hG
  have hX : Cx X cX5_fold 6 RX5 (rmN 3 74) := hX
  show J X (0, 0) 0 [(0, .ref (ad 269)), (1, .ref (ad a1)), (2, .int x2)] [] (fl ad m)
  refine J_aload_n hX dX5_fold_0 rfl 0 rfl ?_
  refine J_aload_n hX dX5_fold_1 rfl 1 rfl ?_
  refine J_getI hX kf_RX5_34 dX5_fold_2 h1 (by decide) rfl ?_
  refine J_putI hX kf_RX5_9 dX5_fold_5 ka_269 (by decide) rfl ?_
  refine J_nmM (fun m1 e_m1 => ?_)
  replace h := h m1 e_m1
  refine J_aload_n hX dX5_fold_8 rfl 0 rfl ?_
  refine J_getI hX kf_RX5_9 dX5_fold_9 ka_269 (by decide) rfl ?_
  refine J_if_le (tgt := 36) hX dX5_fold_12 (by decide) (fun c2 => ?_) (fun c2 => ?_)
  · replace h := Eq.mp (if_pos c2) h
    exact J_sub [0, 1, 2] rfl (t_X5_fold_j36 hX hR a1 h1 x2 m1 h)
  · replace h := Eq.mp (if_neg c2) h
    refine J_aload_n hX dX5_fold_15 rfl 0 rfl ?_
    refine J_iconst (v := (0 : Int32)) hX dX5_fold_16 (by decide) ?_
    refine J_callV hX km_X5_poseAt kl_RX5_39 dX5_fold_17 ka_269 (by decide) [.int (0 : Int32)] ⟨Nat.le_of_ble_eq_true rfl, Nat.le_of_ble_eq_true rfl⟩ rfl rfl (Nat.le_of_ble_eq_true rfl) (c_X5_poseAt (0 : Int32) m1) (fun v w2 hk => ?_)
    obtain ⟨rfl, rfl⟩ := hk
    show J X (0, 0) 20 [(0, .ref (ad 269)), (1, .ref (ad a1)), (2, .int x2)] [.ref (ad (v_X5_poseAt (0 : Int32)))] (fl ad m1)
    refine J_aload_n hX dX5_fold_20 rfl 1 rfl ?_
    refine J_iconst (v := (0 : Int32)) hX dX5_fold_21 (by decide) ?_
    refine J_callV hX km_X3_panelAt kl_RX5_43 dX5_fold_22 h1 (by decide) [.int (0 : Int32)] ⟨Nat.le_of_ble_eq_true rfl, Nat.le_of_ble_eq_true rfl⟩ rfl rfl (Nat.le_of_ble_eq_true rfl) (c_X3_panelAt a1 h1 (0 : Int32) m1) (fun v w2 hk => ?_)
    obtain ⟨rfl, rfl⟩ := hk
    show J X (0, 0) 25 [(0, .ref (ad 269)), (1, .ref (ad a1)), (2, .int x2)] [.ref (ad (v_X3_panelAt a1 (0 : Int32))), .ref (ad (v_X5_poseAt (0 : Int32)))] (fl ad m1)
    refine J_callV hX km_X8_layFlat kl_RX5_47 dX5_fold_25 kv_X5_poseAt (by decide) [.ref (ad (v_X3_panelAt a1 (0 : Int32)))] ⟨Nat.le_of_ble_eq_true rfl, Nat.le_of_ble_eq_true rfl⟩ rfl rfl (Nat.le_of_ble_eq_true rfl) (c_X8_layFlat (v_X5_poseAt (0 : Int32)) kv_X5_poseAt (v_X3_panelAt a1 (0 : Int32)) (kv_X3_panelAt h1) m1 _ h) (fun v w2 hk => ?_)
    obtain ⟨m9, rfl, rfl, h⟩ := hk
    show J X (0, 0) 28 [(0, .ref (ad 269)), (1, .ref (ad a1)), (2, .int x2)] [] (fl ad m9)
    refine J_aload_n hX dX5_fold_28 rfl 0 rfl ?_
    refine J_iconst (v := (0 : Int32)) hX dX5_fold_29 (by decide) ?_
    refine J_callV hX km_X5_poseAt kl_RX5_39 dX5_fold_30 ka_269 (by decide) [.int (0 : Int32)] ⟨Nat.le_of_ble_eq_true rfl, Nat.le_of_ble_eq_true rfl⟩ rfl rfl (Nat.le_of_ble_eq_true rfl) (c_X5_poseAt (0 : Int32) m9) (fun v w2 hk => ?_)
    obtain ⟨rfl, rfl⟩ := hk
    show J X (0, 0) 33 [(0, .ref (ad 269)), (1, .ref (ad a1)), (2, .int x2)] [.ref (ad (v_X5_poseAt (0 : Int32)))] (fl ad m9)
    refine J_callV hX km_X8_measure kl_RX5_51 dX5_fold_33 kv_X5_poseAt (by decide) [] ⟨Nat.le_of_ble_eq_true rfl, Nat.le_of_ble_eq_true rfl⟩ rfl rfl (Nat.le_of_ble_eq_true rfl) (c_X8_measure (v_X5_poseAt (0 : Int32)) kv_X5_poseAt m9 _ h) (fun v w2 hk => ?_)
    obtain ⟨m10, rfl, rfl, h⟩ := hk
    show J X (0, 0) 36 [(0, .ref (ad 269)), (1, .ref (ad a1)), (2, .int x2)] [] (fl ad m10)
    exact J_sub [0, 1, 2] rfl (t_X5_fold_j36 hX hR a1 h1 x2 m10 h)
set_option maxRecDepth 100000 in
theorem c_X4_limit {G : GT} {ad : Nat → Nat} (x1 : Int32) (m : Mm) : Cn G yX4_limit cX4_limit 2 (some .int) (rmN 0 0) [.ref (ad 264), .int x1] (0, 0) (fl ad m) (fun v w => v = some (.int (v_X4_limit x1 m)) ∧ w = fl ad m) := by
  refine Cn.of pn_RX4 (Nat.le_of_ble_eq_true rfl) (fun X hG hX hR => ?_)
  subst hG
  have hX : Cx X cX4_limit 2 RX4 (rmN 0 0) := hX
  show J X (0, 0) 0 [(0, .ref (ad 264)), (1, .int x1)] [] (fl ad m)
  refine J_iload_n hX dX4_limit_0 rfl 1 rfl ?_
  have hj3 : ∀ y4 : Int32, y4 = (if x1 < (0 : Int32) then (0 : Int32) else (if (4 : Int32) ≤ x1 then (0 : Int32) else (m.1 265 x1.toNatClampNeg))) → J X (0, 0) 23 [] [.int y4] (fl ad m) := by
    intro y4 e_y4
    subst e_y4
    exact J_iret hX hR dX4_limit_23 (And.intro (congrArg (fun z => some (Value.int z)) (show (if x1 < (0 : Int32) then (0 : Int32) else (if (4 : Int32) ≤ x1 then (0 : Int32) else (m.1 265 x1.toNatClampNeg))) = v_X4_limit x1 m from rfl)) rfl)
  refine J_if_lt (tgt := 22) hX dX4_limit_1 (by decide) (fun c1 => ?_) (fun c1 => ?_)
  · refine J_iconst (v := (0 : Int32)) hX dX4_limit_22 (by decide) ?_
    exact J_sub [] rfl (hj3 _ (if_pos c1).symm)
  · refine J_iload_n hX dX4_limit_4 rfl 1 rfl ?_
    refine J_aload_n hX dX4_limit_5 rfl 0 rfl ?_
    refine J_getR hX kf_RX4_19 dX4_limit_6 ka_264 (by decide) rfl rh_264_2 ?_
    refine J_alen (v := (4 : Int32)) hX dX4_limit_9 ka_265 (by decide) le_265 rfl ?_
    refine J_icmp_ge (tgt := 22) hX dX4_limit_10 (by decide) (fun c2 => ?_) (fun c2 => ?_)
    · refine J_iconst (v := (0 : Int32)) hX dX4_limit_22 (by decide) ?_
      exact J_sub [] rfl (hj3 _ ((if_neg c1).trans (if_pos c2)).symm)
    · refine J_aload_n hX dX4_limit_13 rfl 0 rfl ?_
      refine J_getR hX kf_RX4_19 dX4_limit_14 ka_264 (by decide) rfl rh_264_2 ?_
      refine J_iload_n hX dX4_limit_17 rfl 1 rfl ?_
      refine J_iald (j := x1.toNatClampNeg) hX dX4_limit_18 ka_265 le_265 (vp_b (lo_2 c1) (up_2 c2 (by decide))) rfl ?_
      refine J_goto (tgt := 23) hX dX4_limit_19 (by decide) ?_
      exact J_sub [] rfl (hj3 _ ((if_neg c1).trans (if_neg c2)).symm)
set_option maxRecDepth 100000 in
theorem c_X8_lowOn {G : GT} {ad : Nat → Nat} (a0 : Nat) (h0 : kap a0 = 8) (x1 : Int32) (m : Mm) : Cn G yX8_lowOn cX8_lowOn 2 (some .int) (rmN 0 0) [.ref (ad a0), .int x1] (0, 0) (fl ad m) (fun v w => v = some (.int (v_X8_lowOn a0 x1 m)) ∧ w = fl ad m) := by
  refine Cn.of pn_RX8 (Nat.le_of_ble_eq_true rfl) (fun X hG hX hR => ?_)
  subst hG
  have hX : Cx X cX8_lowOn 2 RX8 (rmN 0 0) := hX
  show J X (0, 0) 0 [(0, .ref (ad a0)), (1, .int x1)] [] (fl ad m)
  refine J_iload_n hX dX8_lowOn_0 rfl 1 rfl ?_
  have hj3 : ∀ y4 : Int32, y4 = (if x1 < (0 : Int32) then (0 : Int32) else (if (3 : Int32) ≤ x1 then (0 : Int32) else (m.1 (a0 + 1) x1.toNatClampNeg))) → J X (0, 0) 19 [] [.int y4] (fl ad m) := by
    intro y4 e_y4
    subst e_y4
    exact J_iret hX hR dX8_lowOn_19 (And.intro (congrArg (fun z => some (Value.int z)) (show (if x1 < (0 : Int32) then (0 : Int32) else (if (3 : Int32) ≤ x1 then (0 : Int32) else (m.1 (a0 + 1) x1.toNatClampNeg))) = v_X8_lowOn a0 x1 m from rfl)) rfl)
  refine J_if_lt (tgt := 18) hX dX8_lowOn_1 (by decide) (fun c1 => ?_) (fun c1 => ?_)
  · refine J_iconst (v := (0 : Int32)) hX dX8_lowOn_18 (by decide) ?_
    exact J_sub [] rfl (hj3 _ (if_pos c1).symm)
  · refine J_iload_n hX dX8_lowOn_4 rfl 1 rfl ?_
    refine J_iconst (v := (3 : Int32)) hX dX8_lowOn_5 (by decide) ?_
    refine J_icmp_ge (tgt := 18) hX dX8_lowOn_6 (by decide) (fun c2 => ?_) (fun c2 => ?_)
    · refine J_iconst (v := (0 : Int32)) hX dX8_lowOn_18 (by decide) ?_
      exact J_sub [] rfl (hj3 _ ((if_neg c1).trans (if_pos c2)).symm)
    · refine J_aload_n hX dX8_lowOn_9 rfl 0 rfl ?_
      refine J_getR hX kf_RX8_7 dX8_lowOn_10 h0 (by decide) rfl (ro_8_1 h0) ?_
      refine J_iload_n hX dX8_lowOn_13 rfl 1 rfl ?_
      refine J_iald (j := x1.toNatClampNeg) hX dX8_lowOn_14 (ko_8_1 h0) (lo_8_1 h0) (vp_b (lo_2 c1) (up_2 c2 (by decide))) rfl ?_
      refine J_goto (tgt := 19) hX dX8_lowOn_15 (by decide) ?_
      exact J_sub [] rfl (hj3 _ ((if_neg c1).trans (if_neg c2)).symm)
set_option maxRecDepth 100000 in
theorem c_X8_highOn {G : GT} {ad : Nat → Nat} (a0 : Nat) (h0 : kap a0 = 8) (x1 : Int32) (m : Mm) : Cn G yX8_highOn cX8_highOn 2 (some .int) (rmN 0 0) [.ref (ad a0), .int x1] (0, 0) (fl ad m) (fun v w => v = some (.int (v_X8_highOn a0 x1 m)) ∧ w = fl ad m) := by
  refine Cn.of pn_RX8 (Nat.le_of_ble_eq_true rfl) (fun X hG hX hR => ?_)
  subst hG
  have hX : Cx X cX8_highOn 2 RX8 (rmN 0 0) := hX
  show J X (0, 0) 0 [(0, .ref (ad a0)), (1, .int x1)] [] (fl ad m)
  refine J_iload_n hX dX8_highOn_0 rfl 1 rfl ?_
  have hj3 : ∀ y4 : Int32, y4 = (if x1 < (0 : Int32) then (0 : Int32) else (if (3 : Int32) ≤ x1 then (0 : Int32) else (m.1 (a0 + 2) x1.toNatClampNeg))) → J X (0, 0) 19 [] [.int y4] (fl ad m) := by
    intro y4 e_y4
    subst e_y4
    exact J_iret hX hR dX8_highOn_19 (And.intro (congrArg (fun z => some (Value.int z)) (show (if x1 < (0 : Int32) then (0 : Int32) else (if (3 : Int32) ≤ x1 then (0 : Int32) else (m.1 (a0 + 2) x1.toNatClampNeg))) = v_X8_highOn a0 x1 m from rfl)) rfl)
  refine J_if_lt (tgt := 18) hX dX8_highOn_1 (by decide) (fun c1 => ?_) (fun c1 => ?_)
  · refine J_iconst (v := (0 : Int32)) hX dX8_highOn_18 (by decide) ?_
    exact J_sub [] rfl (hj3 _ (if_pos c1).symm)
  · refine J_iload_n hX dX8_highOn_4 rfl 1 rfl ?_
    refine J_iconst (v := (3 : Int32)) hX dX8_highOn_5 (by decide) ?_
    refine J_icmp_ge (tgt := 18) hX dX8_highOn_6 (by decide) (fun c2 => ?_) (fun c2 => ?_)
    · refine J_iconst (v := (0 : Int32)) hX dX8_highOn_18 (by decide) ?_
      exact J_sub [] rfl (hj3 _ ((if_neg c1).trans (if_pos c2)).symm)
    · refine J_aload_n hX dX8_highOn_9 rfl 0 rfl ?_
      refine J_getR hX kf_RX8_13 dX8_highOn_10 h0 (by decide) rfl (ro_8_2 h0) ?_
      refine J_iload_n hX dX8_highOn_13 rfl 1 rfl ?_
      refine J_iald (j := x1.toNatClampNeg) hX dX8_highOn_14 (ko_8_2 h0) (lo_8_2 h0) (vp_b (lo_2 c1) (up_2 c2 (by decide))) rfl ?_
      refine J_goto (tgt := 19) hX dX8_highOn_15 (by decide) ?_
      exact J_sub [] rfl (hj3 _ ((if_neg c1).trans (if_neg c2)).symm)
theorem bv_X8_isCutBy (a0 : Nat) (a1 : Nat) (x2 : Int32) (m : Mm) : bo (v_X8_isCutBy a0 a1 x2 m) := (bo_ite bo_0 (bo_ite bo_0 bo_1))
set_option maxRecDepth 100000 in
theorem c_X8_isCutBy {G : GT} {ad : Nat → Nat} (a0 : Nat) (h0 : kap a0 = 8) (a1 : Nat) (h1 : kap a1 = 8) (x2 : Int32) (m : Mm) : Cn G yX8_isCutBy cX8_isCutBy 5 (some .boolean) (rmN 1 21) [.ref (ad a0), .ref (ad a1), .int x2] (0, 0) (fl ad m) (fun v w => v = some (.int (v_X8_isCutBy a0 a1 x2 m)) ∧ w = fl ad m) := by
  refine Cn.of pn_RX8 (Nat.le_of_ble_eq_true rfl) (fun X hG hX hR => ?_)
  subst hG
  have hX : Cx X cX8_isCutBy 5 RX8 (rmN 1 21) := hX
  show J X (0, 0) 0 [(0, .ref (ad a0)), (1, .ref (ad a1)), (2, .int x2)] [] (fl ad m)
  refine J_aload_n hX dX8_isCutBy_0 rfl 1 rfl ?_
  refine J_getI hX kf_RX8_44 dX8_isCutBy_1 h1 (by decide) rfl ?_
  refine J_iconst (v := (1 : Int32)) hX dX8_isCutBy_4 (by decide) ?_
  refine J_ishr hX dX8_isCutBy_5 ?_
  refine J_istore_n (lv2 := [(3, .int ((m.1 a1 0) >>> ((1 : Int32) &&& 31))), (0, .ref (ad a0)), (1, .ref (ad a1)), (2, .int x2)]) hX dX8_isCutBy_6 rfl (Nat.le_of_ble_eq_true rfl) rfl ?_
  refine J_aload_n hX dX8_isCutBy_7 rfl 2 rfl ?_
  refine J_iload_n hX dX8_isCutBy_8 rfl 0 rfl ?_
  refine J_callV hX km_X8_lowOn kl_RX8_103 dX8_isCutBy_9 h1 (by decide) [.int ((m.1 a1 0) >>> ((1 : Int32) &&& 31))] ⟨Nat.le_of_ble_eq_true rfl, Nat.le_of_ble_eq_true rfl⟩ rfl rfl (Nat.le_of_ble_eq_true rfl) (c_X8_lowOn a1 h1 ((m.1 a1 0) >>> ((1 : Int32) &&& 31)) m) (fun v w2 hk => ?_)
  obtain ⟨rfl, rfl⟩ := hk
  show J X (0, 0) 12 [(3, .int ((m.1 a1 0) >>> ((1 : Int32) &&& 31))), (0, .ref (ad a0)), (1, .ref (ad a1)), (2, .int x2)] [.int (v_X8_lowOn a1 ((m.1 a1 0) >>> ((1 : Int32) &&& 31)) m)] (fl ad m)
  refine J_istore (lv2 := [(4, .int (v_X8_lowOn a1 ((m.1 a1 0) >>> ((1 : Int32) &&& 31)) m)), (3, .int ((m.1 a1 0) >>> ((1 : Int32) &&& 31))), (0, .ref (ad a0)), (1, .ref (ad a1)), (2, .int x2)]) hX dX8_isCutBy_12 (Nat.le_of_ble_eq_true rfl) rfl ?_
  refine J_iload hX dX8_isCutBy_14 0 rfl ?_
  refine J_aload_n hX dX8_isCutBy_16 rfl 2 rfl ?_
  refine J_iload_n hX dX8_isCutBy_17 rfl 1 rfl ?_
  refine J_callV hX km_X8_lowOn kl_RX8_103 dX8_isCutBy_18 h0 (by decide) [.int ((m.1 a1 0) >>> ((1 : Int32) &&& 31))] ⟨Nat.le_of_ble_eq_true rfl, Nat.le_of_ble_eq_true rfl⟩ rfl rfl (Nat.le_of_ble_eq_true rfl) (c_X8_lowOn a0 h0 ((m.1 a1 0) >>> ((1 : Int32) &&& 31)) m) (fun v w2 hk => ?_)
  obtain ⟨rfl, rfl⟩ := hk
  show J X (0, 0) 21 [(4, .int (v_X8_lowOn a1 ((m.1 a1 0) >>> ((1 : Int32) &&& 31)) m)), (3, .int ((m.1 a1 0) >>> ((1 : Int32) &&& 31))), (0, .ref (ad a0)), (1, .ref (ad a1)), (2, .int x2)] [.int (v_X8_lowOn a0 ((m.1 a1 0) >>> ((1 : Int32) &&& 31)) m), .int (v_X8_lowOn a1 ((m.1 a1 0) >>> ((1 : Int32) &&& 31)) m)] (fl ad m)
  refine J_iload_n hX dX8_isCutBy_21 rfl 4 rfl ?_
  refine J_iadd hX dX8_isCutBy_22 ?_
  have hj3 : ∀ y4 : Int32, y4 = (if (v_X8_lowOn a1 ((m.1 a1 0) >>> ((1 : Int32) &&& 31)) m) ≤ ((v_X8_lowOn a0 ((m.1 a1 0) >>> ((1 : Int32) &&& 31)) m) + x2) then (0 : Int32) else (if ((v_X8_highOn a0 ((m.1 a1 0) >>> ((1 : Int32) &&& 31)) m) - x2) ≤ (v_X8_lowOn a1 ((m.1 a1 0) >>> ((1 : Int32) &&& 31)) m) then (0 : Int32) else (1 : Int32))) → J X (0, 0) 43 [] [.int y4] (fl ad m) := by
    intro y4 e_y4
    subst e_y4
    exact J_zret hX hR dX8_isCutBy_43 (bo_ite bo_0 (bo_ite bo_0 bo_1)) (And.intro (congrArg (fun z => some (Value.int z)) (show (if (v_X8_lowOn a1 ((m.1 a1 0) >>> ((1 : Int32) &&& 31)) m) ≤ ((v_X8_lowOn a0 ((m.1 a1 0) >>> ((1 : Int32) &&& 31)) m) + x2) then (0 : Int32) else (if ((v_X8_highOn a0 ((m.1 a1 0) >>> ((1 : Int32) &&& 31)) m) - x2) ≤ (v_X8_lowOn a1 ((m.1 a1 0) >>> ((1 : Int32) &&& 31)) m) then (0 : Int32) else (1 : Int32))) = v_X8_isCutBy a0 a1 x2 m from rfl)) rfl)
  refine J_icmp_le (tgt := 42) hX dX8_isCutBy_23 (by decide) (fun c1 => ?_) (fun c1 => ?_)
  · refine J_iconst (v := (0 : Int32)) hX dX8_isCutBy_42 (by decide) ?_
    exact J_sub [] rfl (hj3 _ (if_pos c1).symm)
  · refine J_iload hX dX8_isCutBy_26 0 rfl ?_
    refine J_aload_n hX dX8_isCutBy_28 rfl 2 rfl ?_
    refine J_iload_n hX dX8_isCutBy_29 rfl 1 rfl ?_
    refine J_callV hX km_X8_highOn kl_RX8_100 dX8_isCutBy_30 h0 (by decide) [.int ((m.1 a1 0) >>> ((1 : Int32) &&& 31))] ⟨Nat.le_of_ble_eq_true rfl, Nat.le_of_ble_eq_true rfl⟩ rfl rfl (Nat.le_of_ble_eq_true rfl) (c_X8_highOn a0 h0 ((m.1 a1 0) >>> ((1 : Int32) &&& 31)) m) (fun v w2 hk => ?_)
    obtain ⟨rfl, rfl⟩ := hk
    show J X (0, 0) 33 [(4, .int (v_X8_lowOn a1 ((m.1 a1 0) >>> ((1 : Int32) &&& 31)) m)), (3, .int ((m.1 a1 0) >>> ((1 : Int32) &&& 31))), (0, .ref (ad a0)), (1, .ref (ad a1)), (2, .int x2)] [.int (v_X8_highOn a0 ((m.1 a1 0) >>> ((1 : Int32) &&& 31)) m), .int (v_X8_lowOn a1 ((m.1 a1 0) >>> ((1 : Int32) &&& 31)) m)] (fl ad m)
    refine J_iload_n hX dX8_isCutBy_33 rfl 4 rfl ?_
    refine J_isub hX dX8_isCutBy_34 ?_
    refine J_icmp_ge (tgt := 42) hX dX8_isCutBy_35 (by decide) (fun c2 => ?_) (fun c2 => ?_)
    · refine J_iconst (v := (0 : Int32)) hX dX8_isCutBy_42 (by decide) ?_
      exact J_sub [] rfl (hj3 _ ((if_neg c1).trans (if_pos c2)).symm)
    · refine J_iconst (v := (1 : Int32)) hX dX8_isCutBy_38 (by decide) ?_
      refine J_goto (tgt := 43) hX dX8_isCutBy_39 (by decide) ?_
      exact J_sub [] rfl (hj3 _ ((if_neg c1).trans (if_neg c2)).symm)
set_option maxRecDepth 100000 in
theorem c_X8_commonOn {G : GT} {ad : Nat → Nat} (a0 : Nat) (h0 : kap a0 = 8) (x1 : Int32) (a2 : Nat) (h2 : kap a2 = 8) (m : Mm) : Cn G yX8_commonOn cX8_commonOn 3 (some .int) (rmN 1 21) [.ref (ad a0), .int x1, .ref (ad a2)] (0, 0) (fl ad m) (fun v w => v = some (.int (v_X8_commonOn a0 x1 a2 m)) ∧ w = fl ad m) := by
  refine Cn.of pn_RX8 (Nat.le_of_ble_eq_true rfl) (fun X hG hX hR => ?_)
  subst hG
  have hX : Cx X cX8_commonOn 3 RX8 (rmN 1 21) := hX
  show J X (0, 0) 0 [(0, .ref (ad a0)), (1, .int x1), (2, .ref (ad a2))] [] (fl ad m)
  refine J_aload_n hX dX8_commonOn_0 rfl 0 rfl ?_
  refine J_iload_n hX dX8_commonOn_1 rfl 1 rfl ?_
  refine J_callV hX km_X8_highOn kl_RX8_100 dX8_commonOn_2 h0 (by decide) [.int x1] ⟨Nat.le_of_ble_eq_true rfl, Nat.le_of_ble_eq_true rfl⟩ rfl rfl (Nat.le_of_ble_eq_true rfl) (c_X8_highOn a0 h0 x1 m) (fun v w2 hk => ?_)
  obtain ⟨rfl, rfl⟩ := hk
  show J X (0, 0) 5 [(0, .ref (ad a0)), (1, .int x1), (2, .ref (ad a2))] [.int (v_X8_highOn a0 x1 m)] (fl ad m)
  refine J_aload_n hX dX8_commonOn_5 rfl 2 rfl ?_
  refine J_iload_n hX dX8_commonOn_6 rfl 1 rfl ?_
  refine J_callV hX km_X8_highOn kl_RX8_100 dX8_commonOn_7 h2 (by decide) [.int x1] ⟨Nat.le_of_ble_eq_true rfl, Nat.le_of_ble_eq_true rfl⟩ rfl rfl (Nat.le_of_ble_eq_true rfl) (c_X8_highOn a2 h2 x1 m) (fun v w2 hk => ?_)
  obtain ⟨rfl, rfl⟩ := hk
  show J X (0, 0) 10 [(0, .ref (ad a0)), (1, .int x1), (2, .ref (ad a2))] [.int (v_X8_highOn a2 x1 m), .int (v_X8_highOn a0 x1 m)] (fl ad m)
  refine J_mmin hX kl_RX8_83 dX8_commonOn_10 (Nat.le_of_ble_eq_true rfl) (Nat.le_of_ble_eq_true rfl) ⟨Nat.le_of_ble_eq_true rfl, Nat.le_of_ble_eq_true rfl⟩ ?_
  refine J_aload_n hX dX8_commonOn_13 rfl 0 rfl ?_
  refine J_iload_n hX dX8_commonOn_14 rfl 1 rfl ?_
  refine J_callV hX km_X8_lowOn kl_RX8_103 dX8_commonOn_15 h0 (by decide) [.int x1] ⟨Nat.le_of_ble_eq_true rfl, Nat.le_of_ble_eq_true rfl⟩ rfl rfl (Nat.le_of_ble_eq_true rfl) (c_X8_lowOn a0 h0 x1 m) (fun v w2 hk => ?_)
  obtain ⟨rfl, rfl⟩ := hk
  show J X (0, 0) 18 [(0, .ref (ad a0)), (1, .int x1), (2, .ref (ad a2))] [.int (v_X8_lowOn a0 x1 m), .int (mn32 (v_X8_highOn a0 x1 m) (v_X8_highOn a2 x1 m))] (fl ad m)
  refine J_aload_n hX dX8_commonOn_18 rfl 2 rfl ?_
  refine J_iload_n hX dX8_commonOn_19 rfl 1 rfl ?_
  refine J_callV hX km_X8_lowOn kl_RX8_103 dX8_commonOn_20 h2 (by decide) [.int x1] ⟨Nat.le_of_ble_eq_true rfl, Nat.le_of_ble_eq_true rfl⟩ rfl rfl (Nat.le_of_ble_eq_true rfl) (c_X8_lowOn a2 h2 x1 m) (fun v w2 hk => ?_)
  obtain ⟨rfl, rfl⟩ := hk
  show J X (0, 0) 23 [(0, .ref (ad a0)), (1, .int x1), (2, .ref (ad a2))] [.int (v_X8_lowOn a2 x1 m), .int (v_X8_lowOn a0 x1 m), .int (mn32 (v_X8_highOn a0 x1 m) (v_X8_highOn a2 x1 m))] (fl ad m)
  refine J_mmax hX kl_RX8_88 dX8_commonOn_23 (Nat.le_of_ble_eq_true rfl) (Nat.le_of_ble_eq_true rfl) ⟨Nat.le_of_ble_eq_true rfl, Nat.le_of_ble_eq_true rfl⟩ ?_
  refine J_isub hX dX8_commonOn_26 ?_
  exact J_iret hX hR dX8_commonOn_27 (And.intro (congrArg (fun z => some (Value.int z)) (show ((mn32 (v_X8_highOn a0 x1 m) (v_X8_highOn a2 x1 m)) - (mx32 (v_X8_lowOn a0 x1 m) (v_X8_lowOn a2 x1 m))) = v_X8_commonOn a0 x1 a2 m from rfl)) rfl)
set_option maxRecDepth 100000 in
theorem c_X5_crossing {G : GT} {ad : Nat → Nat} (x1 : Int32) (x2 : Int32) (x3 : Int32) (m : Mm) : Cn G yX5_crossing cX5_crossing 8 (some .int) (rmN 2 45) [.ref (ad 269), .int x1, .int x2, .int x3] (0, 0) (fl ad m) (fun v w => v = some (.int (v_X5_crossing x1 x2 x3 m)) ∧ w = fl ad m) := by
  refine Cn.of pn_RX5 (Nat.le_of_ble_eq_true rfl) (fun X hG hX hR => ?_)
  subst hG
  have hX : Cx X cX5_crossing 8 RX5 (rmN 2 45) := hX
  show J X (0, 0) 0 [(0, .ref (ad 269)), (1, .int x1), (2, .int x2), (3, .int x3)] [] (fl ad m)
  refine J_aload_n hX dX5_crossing_0 rfl 0 rfl ?_
  refine J_iload_n hX dX5_crossing_1 rfl 1 rfl ?_
  refine J_callV hX km_X5_poseAt kl_RX5_39 dX5_crossing_2 ka_269 (by decide) [.int x1] ⟨Nat.le_of_ble_eq_true rfl, Nat.le_of_ble_eq_true rfl⟩ rfl rfl (Nat.le_of_ble_eq_true rfl) (c_X5_poseAt x1 m) (fun v w2 hk => ?_)
  obtain ⟨rfl, rfl⟩ := hk
  show J X (0, 0) 5 [(0, .ref (ad 269)), (1, .int x1), (2, .int x2), (3, .int x3)] [.ref (ad (v_X5_poseAt x1))] (fl ad m)
  refine J_astore (lv2 := [(4, .ref (ad (v_X5_poseAt x1))), (0, .ref (ad 269)), (1, .int x1), (2, .int x2), (3, .int x3)]) hX dX5_crossing_5 (Nat.le_of_ble_eq_true rfl) rfl ?_
  refine J_aload_n hX dX5_crossing_7 rfl 1 rfl ?_
  refine J_iload_n hX dX5_crossing_8 rfl 3 rfl ?_
  refine J_callV hX km_X5_poseAt kl_RX5_39 dX5_crossing_9 ka_269 (by decide) [.int x2] ⟨Nat.le_of_ble_eq_true rfl, Nat.le_of_ble_eq_true rfl⟩ rfl rfl (Nat.le_of_ble_eq_true rfl) (c_X5_poseAt x2 m) (fun v w2 hk => ?_)
  obtain ⟨rfl, rfl⟩ := hk
  show J X (0, 0) 12 [(4, .ref (ad (v_X5_poseAt x1))), (0, .ref (ad 269)), (1, .int x1), (2, .int x2), (3, .int x3)] [.ref (ad (v_X5_poseAt x2))] (fl ad m)
  refine J_astore (lv2 := [(5, .ref (ad (v_X5_poseAt x2))), (4, .ref (ad (v_X5_poseAt x1))), (0, .ref (ad 269)), (1, .int x1), (2, .int x2), (3, .int x3)]) hX dX5_crossing_12 (Nat.le_of_ble_eq_true rfl) rfl ?_
  refine J_aload hX dX5_crossing_14 1 rfl ?_
  refine J_getI hX kf_RX5_66 dX5_crossing_16 kv_X5_poseAt (by decide) rfl ?_
  refine J_iconst (v := (1 : Int32)) hX dX5_crossing_19 (by decide) ?_
  refine J_ishr hX dX5_crossing_20 ?_
  refine J_istore (lv2 := [(6, .int ((m.1 (v_X5_poseAt x1) 0) >>> ((1 : Int32) &&& 31))), (5, .ref (ad (v_X5_poseAt x2))), (4, .ref (ad (v_X5_poseAt x1))), (0, .ref (ad 269)), (1, .int x1), (2, .int x2), (3, .int x3)]) hX dX5_crossing_21 (Nat.le_of_ble_eq_true rfl) rfl ?_
  refine J_aload hX dX5_crossing_23 1 rfl ?_
  refine J_getI hX kf_RX5_66 dX5_crossing_25 kv_X5_poseAt (by decide) rfl ?_
  refine J_iconst (v := (1 : Int32)) hX dX5_crossing_28 (by decide) ?_
  refine J_ishr hX dX5_crossing_29 ?_
  refine J_istore (lv2 := [(7, .int ((m.1 (v_X5_poseAt x2) 0) >>> ((1 : Int32) &&& 31))), (6, .int ((m.1 (v_X5_poseAt x1) 0) >>> ((1 : Int32) &&& 31))), (5, .ref (ad (v_X5_poseAt x2))), (4, .ref (ad (v_X5_poseAt x1))), (0, .ref (ad 269)), (1, .int x1), (2, .int x2), (3, .int x3)]) hX dX5_crossing_30 (Nat.le_of_ble_eq_true rfl) rfl ?_
  refine J_iload hX dX5_crossing_32 1 rfl ?_
  refine J_iload hX dX5_crossing_34 0 rfl ?_
  refine J_icmp_eq (tgt := 61) hX dX5_crossing_36 (by decide) (fun c1 => ?_) (fun c1 => ?_)
  · refine J_iconst (v := (0 : Int32)) hX dX5_crossing_61 (by decide) ?_
    exact J_iret hX hR dX5_crossing_62 (And.intro (congrArg (fun z => some (Value.int z)) (show (0 : Int32) = v_X5_crossing x1 x2 x3 m from (if_pos c1).symm)) rfl)
  · refine J_aload hX dX5_crossing_39 3 rfl ?_
    refine J_aload hX dX5_crossing_41 2 rfl ?_
    refine J_iload_n hX dX5_crossing_43 rfl 7 rfl ?_
    refine J_callV hX km_X8_isCutBy kl_RX5_69 dX5_crossing_44 kv_X5_poseAt (by decide) [.ref (ad (v_X5_poseAt x2)), .int x3] ⟨Nat.le_of_ble_eq_true rfl, Nat.le_of_ble_eq_true rfl⟩ rfl rfl (Nat.le_of_ble_eq_true rfl) (c_X8_isCutBy (v_X5_poseAt x1) kv_X5_poseAt (v_X5_poseAt x2) kv_X5_poseAt x3 m) (fun v w2 hk => ?_)
    obtain ⟨rfl, rfl⟩ := hk
    show J X (0, 0) 47 [(7, .int ((m.1 (v_X5_poseAt x2) 0) >>> ((1 : Int32) &&& 31))), (6, .int ((m.1 (v_X5_poseAt x1) 0) >>> ((1 : Int32) &&& 31))), (5, .ref (ad (v_X5_poseAt x2))), (4, .ref (ad (v_X5_poseAt x1))), (0, .ref (ad 269)), (1, .int x1), (2, .int x2), (3, .int x3)] [.int (v_X8_isCutBy (v_X5_poseAt x1) (v_X5_poseAt x2) x3 m)] (fl ad m)
    refine J_if_eq (tgt := 61) hX dX5_crossing_47 (by decide) (fun c2 => ?_) (fun c2 => ?_)
    · refine J_iconst (v := (0 : Int32)) hX dX5_crossing_61 (by decide) ?_
      exact J_iret hX hR dX5_crossing_62 (And.intro (congrArg (fun z => some (Value.int z)) (show (0 : Int32) = v_X5_crossing x1 x2 x3 m from ((if_neg c1).trans (if_pos c2)).symm)) rfl)
    · refine J_aload hX dX5_crossing_50 2 rfl ?_
      refine J_aload hX dX5_crossing_52 3 rfl ?_
      refine J_iload_n hX dX5_crossing_54 rfl 7 rfl ?_
      refine J_callV hX km_X8_isCutBy kl_RX5_69 dX5_crossing_55 kv_X5_poseAt (by decide) [.ref (ad (v_X5_poseAt x1)), .int x3] ⟨Nat.le_of_ble_eq_true rfl, Nat.le_of_ble_eq_true rfl⟩ rfl rfl (Nat.le_of_ble_eq_true rfl) (c_X8_isCutBy (v_X5_poseAt x2) kv_X5_poseAt (v_X5_poseAt x1) kv_X5_poseAt x3 m) (fun v w2 hk => ?_)
      obtain ⟨rfl, rfl⟩ := hk
      show J X (0, 0) 58 [(7, .int ((m.1 (v_X5_poseAt x2) 0) >>> ((1 : Int32) &&& 31))), (6, .int ((m.1 (v_X5_poseAt x1) 0) >>> ((1 : Int32) &&& 31))), (5, .ref (ad (v_X5_poseAt x2))), (4, .ref (ad (v_X5_poseAt x1))), (0, .ref (ad 269)), (1, .int x1), (2, .int x2), (3, .int x3)] [.int (v_X8_isCutBy (v_X5_poseAt x2) (v_X5_poseAt x1) x3 m)] (fl ad m)
      refine J_if_ne (tgt := 63) hX dX5_crossing_58 (by decide) (fun c3 => ?_) (fun c3 => ?_)
      · refine J_iconst (v := (0 : Int32)) hX dX5_crossing_63 (by decide) ?_
        refine J_aload hX dX5_crossing_64 3 rfl ?_
        refine J_iconst (v := (3 : Int32)) hX dX5_crossing_66 (by decide) ?_
        refine J_iload hX dX5_crossing_67 1 rfl ?_
        refine J_isub hX dX5_crossing_69 ?_
        refine J_iload hX dX5_crossing_70 0 rfl ?_
        refine J_isub hX dX5_crossing_72 ?_
        refine J_aload hX dX5_crossing_73 2 rfl ?_
        refine J_callV hX km_X8_commonOn kl_RX5_73 dX5_crossing_75 kv_X5_poseAt (by decide) [.int (((3 : Int32) - ((m.1 (v_X5_poseAt x1) 0) >>> ((1 : Int32) &&& 31))) - ((m.1 (v_X5_poseAt x2) 0) >>> ((1 : Int32) &&& 31))), .ref (ad (v_X5_poseAt x2))] ⟨Nat.le_of_ble_eq_true rfl, Nat.le_of_ble_eq_true rfl⟩ rfl rfl (Nat.le_of_ble_eq_true rfl) (c_X8_commonOn (v_X5_poseAt x1) kv_X5_poseAt (((3 : Int32) - ((m.1 (v_X5_poseAt x1) 0) >>> ((1 : Int32) &&& 31))) - ((m.1 (v_X5_poseAt x2) 0) >>> ((1 : Int32) &&& 31))) (v_X5_poseAt x2) kv_X5_poseAt m) (fun v w2 hk => ?_)
        obtain ⟨rfl, rfl⟩ := hk
        show J X (0, 0) 78 [(7, .int ((m.1 (v_X5_poseAt x2) 0) >>> ((1 : Int32) &&& 31))), (6, .int ((m.1 (v_X5_poseAt x1) 0) >>> ((1 : Int32) &&& 31))), (5, .ref (ad (v_X5_poseAt x2))), (4, .ref (ad (v_X5_poseAt x1))), (0, .ref (ad 269)), (1, .int x1), (2, .int x2), (3, .int x3)] [.int (v_X8_commonOn (v_X5_poseAt x1) (((3 : Int32) - ((m.1 (v_X5_poseAt x1) 0) >>> ((1 : Int32) &&& 31))) - ((m.1 (v_X5_poseAt x2) 0) >>> ((1 : Int32) &&& 31))) (v_X5_poseAt x2) m), .int (0 : Int32)] (fl ad m)
        refine J_mmax hX kl_RX5_77 dX5_crossing_78 (Nat.le_of_ble_eq_true rfl) (Nat.le_of_ble_eq_true rfl) ⟨Nat.le_of_ble_eq_true rfl, Nat.le_of_ble_eq_true rfl⟩ ?_
        exact J_iret hX hR dX5_crossing_81 (And.intro (congrArg (fun z => some (Value.int z)) (show (mx32 (0 : Int32) (v_X8_commonOn (v_X5_poseAt x1) (((3 : Int32) - ((m.1 (v_X5_poseAt x1) 0) >>> ((1 : Int32) &&& 31))) - ((m.1 (v_X5_poseAt x2) 0) >>> ((1 : Int32) &&& 31))) (v_X5_poseAt x2) m)) = v_X5_crossing x1 x2 x3 m from ((if_neg c1).trans ((if_neg c2).trans (if_neg c3))).symm)) rfl)
      · refine J_iconst (v := (0 : Int32)) hX dX5_crossing_61 (by decide) ?_
        exact J_iret hX hR dX5_crossing_62 (And.intro (congrArg (fun z => some (Value.int z)) (show (0 : Int32) = v_X5_crossing x1 x2 x3 m from ((if_neg c1).trans ((if_neg c2).trans (if_pos c3))).symm)) rfl)
set_option maxRecDepth 100000 in
theorem c_X4_weight {G : GT} {ad : Nat → Nat} (x1 : Int32) (m : Mm) : Cn G yX4_weight cX4_weight 2 (some .int) (rmN 0 0) [.ref (ad 264), .int x1] (0, 0) (fl ad m) (fun v w => v = some (.int (v_X4_weight x1 m)) ∧ w = fl ad m) := by
  refine Cn.of pn_RX4 (Nat.le_of_ble_eq_true rfl) (fun X hG hX hR => ?_)
  subst hG
  have hX : Cx X cX4_weight 2 RX4 (rmN 0 0) := hX
  show J X (0, 0) 0 [(0, .ref (ad 264)), (1, .int x1)] [] (fl ad m)
  refine J_iload_n hX dX4_weight_0 rfl 1 rfl ?_
  have hj3 : ∀ y4 : Int32, y4 = (if x1 < (0 : Int32) then (0 : Int32) else (if (8 : Int32) ≤ x1 then (0 : Int32) else (m.1 266 x1.toNatClampNeg))) → J X (0, 0) 23 [] [.int y4] (fl ad m) := by
    intro y4 e_y4
    subst e_y4
    exact J_iret hX hR dX4_weight_23 (And.intro (congrArg (fun z => some (Value.int z)) (show (if x1 < (0 : Int32) then (0 : Int32) else (if (8 : Int32) ≤ x1 then (0 : Int32) else (m.1 266 x1.toNatClampNeg))) = v_X4_weight x1 m from rfl)) rfl)
  refine J_if_lt (tgt := 22) hX dX4_weight_1 (by decide) (fun c1 => ?_) (fun c1 => ?_)
  · refine J_iconst (v := (0 : Int32)) hX dX4_weight_22 (by decide) ?_
    exact J_sub [] rfl (hj3 _ (if_pos c1).symm)
  · refine J_iload_n hX dX4_weight_4 rfl 1 rfl ?_
    refine J_aload_n hX dX4_weight_5 rfl 0 rfl ?_
    refine J_getR hX kf_RX4_23 dX4_weight_6 ka_264 (by decide) rfl rh_264_3 ?_
    refine J_alen (v := (8 : Int32)) hX dX4_weight_9 ka_266 (by decide) le_266 rfl ?_
    refine J_icmp_ge (tgt := 22) hX dX4_weight_10 (by decide) (fun c2 => ?_) (fun c2 => ?_)
    · refine J_iconst (v := (0 : Int32)) hX dX4_weight_22 (by decide) ?_
      exact J_sub [] rfl (hj3 _ ((if_neg c1).trans (if_pos c2)).symm)
    · refine J_aload_n hX dX4_weight_13 rfl 0 rfl ?_
      refine J_getR hX kf_RX4_23 dX4_weight_14 ka_264 (by decide) rfl rh_264_3 ?_
      refine J_iload_n hX dX4_weight_17 rfl 1 rfl ?_
      refine J_iald (j := x1.toNatClampNeg) hX dX4_weight_18 ka_266 le_266 (vp_b (lo_2 c1) (up_2 c2 (by decide))) rfl ?_
      refine J_goto (tgt := 23) hX dX4_weight_19 (by decide) ?_
      exact J_sub [] rfl (hj3 _ ((if_neg c1).trans (if_neg c2)).symm)
set_option maxRecDepth 100000 in
theorem c_X4_add {G : GT} {ad : Nat → Nat} (x1 : Int32) (x2 : Int32) (x3 : Int32) (x4 : Int32) (x5 : Int32) (m : Mm) (K : Mm → Prop) (h : wp_X4_add x1 x2 x3 x4 x5 m K) : Cn G yX4_add cX4_add 11 none (rmN 1 21) [.ref (ad 264), .int x1, .int x2, .int x3, .int x4, .int x5] (0, 0) (fl ad m) (kV ad K) := by
  unfold wp_X4_add at h
  refine Cn.of pn_RX4 (Nat.le_of_ble_eq_true rfl) (fun X hG hX hR => ?_)
  subst hG
  have hX : Cx X cX4_add 11 RX4 (rmN 1 21) := hX
  show J X (0, 0) 0 [(0, .ref (ad 264)), (1, .int x1), (2, .int x2), (3, .int x3), (4, .int x4), (5, .int x5)] [] (fl ad m)
  refine J_aload_n hX dX4_add_0 rfl 0 rfl ?_
  refine J_iload_n hX dX4_add_1 rfl 1 rfl ?_
  refine J_callV hX km_X4_weight kl_RX4_98 dX4_add_2 ka_264 (by decide) [.int x1] ⟨Nat.le_of_ble_eq_true rfl, Nat.le_of_ble_eq_true rfl⟩ rfl rfl (Nat.le_of_ble_eq_true rfl) (c_X4_weight x1 m) (fun v w2 hk => ?_)
  obtain ⟨rfl, rfl⟩ := hk
  show J X (0, 0) 5 [(0, .ref (ad 264)), (1, .int x1), (2, .int x2), (3, .int x3), (4, .int x4), (5, .int x5)] [.int (v_X4_weight x1 m)] (fl ad m)
  refine J_nmI (fun y1 e_y1 => ?_)
  replace h := h y1 e_y1
  refine J_istore (lv2 := [(6, .int y1), (0, .ref (ad 264)), (1, .int x1), (2, .int x2), (3, .int x3), (4, .int x4), (5, .int x5)]) hX dX4_add_5 (Nat.le_of_ble_eq_true rfl) rfl ?_
  refine J_iload hX dX4_add_7 6 rfl ?_
  refine J_if_le (tgt := 27) hX dX4_add_9 (by decide) (fun c2 => ?_) (fun c2 => ?_)
  · replace h := Eq.mp (if_pos c2) h
    exact J_vret hX hR dX4_add_27 ⟨_, rfl, rfl, h⟩
  · replace h := Eq.mp (if_neg c2) h
    refine J_iload hX dX4_add_12 0 rfl ?_
    refine J_if_le (tgt := 27) hX dX4_add_14 (by decide) (fun c3 => ?_) (fun c3 => ?_)
    · replace h := Eq.mp (if_pos c3) h
      exact J_vret hX hR dX4_add_27 ⟨_, rfl, rfl, h⟩
    · replace h := Eq.mp (if_neg c3) h
      refine J_aload_n hX dX4_add_17 rfl 1 rfl ?_
      refine J_getI hX kf_RX4_9 dX4_add_18 ka_264 (by decide) rfl ?_
      refine J_sipush (v := (1000 : Int32)) hX dX4_add_21 (by decide) ?_
      refine J_icmp_lt (tgt := 28) hX dX4_add_24 (by decide) (fun c4 => ?_) (fun c4 => ?_)
      · replace h := Eq.mp (if_pos c4) h
        refine J_iload hX dX4_add_28 0 rfl ?_
        refine J_i2l hX dX4_add_30 ?_
        refine J_iload hX dX4_add_31 6 rfl ?_
        refine J_i2l hX dX4_add_33 ?_
        refine J_lmul hX dX4_add_34 ?_
        refine J_nmL (fun y5 e_y5 => ?_)
        replace h := h y5 e_y5
        refine J_lstore (lv2 := [(7, .long y5), (6, .int y1), (0, .ref (ad 264)), (1, .int x1), (2, .int x2), (3, .int x3), (4, .int x4), (5, .int x5)]) hX dX4_add_35 (Nat.le_of_ble_eq_true rfl) rfl ?_
        refine J_iload_n hX dX4_add_37 rfl 5 rfl ?_
        refine J_bipush (v := (-9 : Int32)) hX dX4_add_38 (by decide) ?_
        have hj15 : ∀ y7 : Int32, y7 = (if x3 = (-9 : Int32) then (0 : Int32) else (x3 + (1 : Int32))) → J X (0, 0) 50 [(0, .ref (ad 264)), (1, .int x1), (2, .int x2), (4, .int x4), (7, .long y5)] [.int y7] (fl ad m) := by
          intro y7 e_y7
          replace h := h y7 e_y7
          refine J_istore (lv2 := [(9, .int y7), (0, .ref (ad 264)), (1, .int x1), (2, .int x2), (4, .int x4), (7, .long y5)]) hX dX4_add_50 (Nat.le_of_ble_eq_true rfl) rfl ?_
          refine J_iload hX dX4_add_52 4 rfl ?_
          refine J_bipush (v := (-9 : Int32)) hX dX4_add_54 (by decide) ?_
          have hj14 : ∀ y9 : Int32, y9 = (if x4 = (-9 : Int32) then (0 : Int32) else (x4 + (1 : Int32))) → J X (0, 0) 67 [(0, .ref (ad 264)), (1, .int x1), (2, .int x2), (7, .long y5), (9, .int y7)] [.int y9] (fl ad m) := by
            intro y9 e_y9
            replace h := h y9 e_y9
            refine J_istore (lv2 := [(10, .int y9), (0, .ref (ad 264)), (1, .int x1), (2, .int x2), (7, .long y5), (9, .int y7)]) hX dX4_add_67 (Nat.le_of_ble_eq_true rfl) rfl ?_
            refine J_aload_n hX dX4_add_69 rfl 1 rfl ?_
            refine J_getR hX kf_RX4_45 dX4_add_70 ka_264 (by decide) rfl rh_264_7 ?_
            refine J_aload_n hX dX4_add_73 rfl 1 rfl ?_
            refine J_getI hX kf_RX4_9 dX4_add_74 ka_264 (by decide) rfl ?_
            refine J_ldc2 hX kc_RX4_101 dX4_add_77 ?_
            refine J_lload hX dX4_add_80 4 rfl ?_
            refine J_lsub hX dX4_add_82 ?_
            refine J_bipush (v := (14 : Int32)) hX dX4_add_83 (by decide) ?_
            refine J_lshl hX dX4_add_85 ?_
            refine J_iload_n hX dX4_add_86 rfl 2 rfl ?_
            refine J_bipush (v := (11 : Int32)) hX dX4_add_87 (by decide) ?_
            refine J_ishl hX dX4_add_89 ?_
            refine J_iload_n hX dX4_add_90 rfl 3 rfl ?_
            refine J_bipush (v := (7 : Int32)) hX dX4_add_91 (by decide) ?_
            refine J_ishl hX dX4_add_93 ?_
            refine J_ior hX dX4_add_94 ?_
            refine J_iload hX dX4_add_95 5 rfl ?_
            refine J_iconst (v := (4 : Int32)) hX dX4_add_97 (by decide) ?_
            refine J_ishl hX dX4_add_98 ?_
            refine J_ior hX dX4_add_99 ?_
            refine J_iload hX dX4_add_100 0 rfl ?_
            refine J_ior hX dX4_add_102 ?_
            refine J_i2l hX dX4_add_103 ?_
            refine J_lor hX dX4_add_104 ?_
            obtain ⟨b10, h⟩ := h
            refine J_last (j := (m.1 264 0).toNatClampNeg) hX dX4_add_105 ka_395 le_395 b10 rfl ?_
            refine J_nmM (fun m11 e_m11 => ?_)
            replace h := h m11 e_m11
            refine J_aload_n hX dX4_add_106 rfl 1 rfl ?_
            refine J_dup hX dX4_add_107 rfl ?_
            refine J_getI hX kf_RX4_9 dX4_add_108 ka_264 (by decide) rfl ?_
            refine J_iconst (v := (1 : Int32)) hX dX4_add_111 (by decide) ?_
            refine J_iadd hX dX4_add_112 ?_
            refine J_putI hX kf_RX4_9 dX4_add_113 ka_264 (by decide) rfl ?_
            refine J_nmM (fun m12 e_m12 => ?_)
            replace h := h m12 e_m12
            refine J_aload_n hX dX4_add_116 rfl 1 rfl ?_
            refine J_dup hX dX4_add_117 rfl ?_
            refine J_getL hX kf_RX4_15 dX4_add_118 ka_264 (by decide) rfl ?_
            refine J_lload hX dX4_add_121 4 rfl ?_
            refine J_ladd hX dX4_add_123 ?_
            refine J_putL hX kf_RX4_15 dX4_add_124 ka_264 (by decide) rfl ?_
            refine J_nmM (fun m13 e_m13 => ?_)
            replace h := h m13 e_m13
            exact J_vret hX hR dX4_add_127 ⟨_, rfl, rfl, h⟩
          refine J_icmp_ne (tgt := 63) hX dX4_add_56 (by decide) (fun c8 => ?_) (fun c8 => ?_)
          · refine J_iload hX dX4_add_63 4 rfl ?_
            refine J_iconst (v := (1 : Int32)) hX dX4_add_65 (by decide) ?_
            refine J_iadd hX dX4_add_66 ?_
            exact J_sub [1, 2, 3, 5, 0] rfl (hj14 _ (if_neg c8).symm)
          · refine J_iconst (v := (0 : Int32)) hX dX4_add_59 (by decide) ?_
            refine J_goto (tgt := 67) hX dX4_add_60 (by decide) ?_
            exact J_sub [1, 2, 3, 5, 0] rfl (hj14 _ (if_pos c8).symm)
        refine J_icmp_ne (tgt := 47) hX dX4_add_40 (by decide) (fun c6 => ?_) (fun c6 => ?_)
        · refine J_iload_n hX dX4_add_47 rfl 5 rfl ?_
          refine J_iconst (v := (1 : Int32)) hX dX4_add_48 (by decide) ?_
          refine J_iadd hX dX4_add_49 ?_
          exact J_sub [2, 3, 4, 6, 0] rfl (hj15 _ (if_neg c6).symm)
        · refine J_iconst (v := (0 : Int32)) hX dX4_add_43 (by decide) ?_
          refine J_goto (tgt := 50) hX dX4_add_44 (by decide) ?_
          exact J_sub [2, 3, 4, 6, 0] rfl (hj15 _ (if_pos c6).symm)
      · replace h := Eq.mp (if_neg c4) h
        exact J_vret hX hR dX4_add_27 ⟨_, rfl, rfl, h⟩
set_option maxRecDepth 100000 in
theorem c_X5_doubled {G : GT} {ad : Nat → Nat} (x1 : Int32) (x2 : Int32) (x3 : Int32) (m : Mm) : Cn G yX5_doubled cX5_doubled 9 (some .int) (rmN 2 43) [.ref (ad 269), .int x1, .int x2, .int x3] (0, 0) (fl ad m) (fun v w => v = some (.int (v_X5_doubled x1 x2 x3 m)) ∧ w = fl ad m) := by
  refine Cn.of pn_RX5 (Nat.le_of_ble_eq_true rfl) (fun X hG hX hR => ?_)
  subst hG
  have hX : Cx X cX5_doubled 9 RX5 (rmN 2 43) := hX
  show J X (0, 0) 0 [(0, .ref (ad 269)), (1, .int x1), (2, .int x2), (3, .int x3)] [] (fl ad m)
  refine J_aload_n hX dX5_doubled_0 rfl 0 rfl ?_
  refine J_iload_n hX dX5_doubled_1 rfl 1 rfl ?_
  refine J_callV hX km_X5_poseAt kl_RX5_39 dX5_doubled_2 ka_269 (by decide) [.int x1] ⟨Nat.le_of_ble_eq_true rfl, Nat.le_of_ble_eq_true rfl⟩ rfl rfl (Nat.le_of_ble_eq_true rfl) (c_X5_poseAt x1 m) (fun v w2 hk => ?_)
  obtain ⟨rfl, rfl⟩ := hk
  show J X (0, 0) 5 [(0, .ref (ad 269)), (1, .int x1), (2, .int x2), (3, .int x3)] [.ref (ad (v_X5_poseAt x1))] (fl ad m)
  refine J_astore (lv2 := [(4, .ref (ad (v_X5_poseAt x1))), (0, .ref (ad 269)), (1, .int x1), (2, .int x2), (3, .int x3)]) hX dX5_doubled_5 (Nat.le_of_ble_eq_true rfl) rfl ?_
  refine J_aload_n hX dX5_doubled_7 rfl 1 rfl ?_
  refine J_iload_n hX dX5_doubled_8 rfl 3 rfl ?_
  refine J_callV hX km_X5_poseAt kl_RX5_39 dX5_doubled_9 ka_269 (by decide) [.int x2] ⟨Nat.le_of_ble_eq_true rfl, Nat.le_of_ble_eq_true rfl⟩ rfl rfl (Nat.le_of_ble_eq_true rfl) (c_X5_poseAt x2 m) (fun v w2 hk => ?_)
  obtain ⟨rfl, rfl⟩ := hk
  show J X (0, 0) 12 [(4, .ref (ad (v_X5_poseAt x1))), (0, .ref (ad 269)), (1, .int x1), (2, .int x2), (3, .int x3)] [.ref (ad (v_X5_poseAt x2))] (fl ad m)
  refine J_astore (lv2 := [(5, .ref (ad (v_X5_poseAt x2))), (4, .ref (ad (v_X5_poseAt x1))), (0, .ref (ad 269)), (1, .int x1), (2, .int x2), (3, .int x3)]) hX dX5_doubled_12 (Nat.le_of_ble_eq_true rfl) rfl ?_
  refine J_aload hX dX5_doubled_14 1 rfl ?_
  refine J_getI hX kf_RX5_66 dX5_doubled_16 kv_X5_poseAt (by decide) rfl ?_
  refine J_iconst (v := (1 : Int32)) hX dX5_doubled_19 (by decide) ?_
  refine J_ishr hX dX5_doubled_20 ?_
  refine J_istore (lv2 := [(6, .int ((m.1 (v_X5_poseAt x1) 0) >>> ((1 : Int32) &&& 31))), (5, .ref (ad (v_X5_poseAt x2))), (4, .ref (ad (v_X5_poseAt x1))), (0, .ref (ad 269)), (1, .int x1), (2, .int x2), (3, .int x3)]) hX dX5_doubled_21 (Nat.le_of_ble_eq_true rfl) rfl ?_
  refine J_iload hX dX5_doubled_23 0 rfl ?_
  refine J_aload hX dX5_doubled_25 1 rfl ?_
  refine J_getI hX kf_RX5_66 dX5_doubled_27 kv_X5_poseAt (by decide) rfl ?_
  refine J_iconst (v := (1 : Int32)) hX dX5_doubled_30 (by decide) ?_
  refine J_ishr hX dX5_doubled_31 ?_
  refine J_icmp_ne (tgt := 57) hX dX5_doubled_32 (by decide) (fun c1 => ?_) (fun c1 => ?_)
  · refine J_iconst (v := (0 : Int32)) hX dX5_doubled_57 (by decide) ?_
    exact J_iret hX hR dX5_doubled_58 (And.intro (congrArg (fun z => some (Value.int z)) (show (0 : Int32) = v_X5_doubled x1 x2 x3 m from (if_neg c1).symm)) rfl)
  · refine J_aload hX dX5_doubled_35 2 rfl ?_
    refine J_iload hX dX5_doubled_37 0 rfl ?_
    refine J_callV hX km_X8_lowOn kl_RX5_87 dX5_doubled_39 kv_X5_poseAt (by decide) [.int ((m.1 (v_X5_poseAt x1) 0) >>> ((1 : Int32) &&& 31))] ⟨Nat.le_of_ble_eq_true rfl, Nat.le_of_ble_eq_true rfl⟩ rfl rfl (Nat.le_of_ble_eq_true rfl) (c_X8_lowOn (v_X5_poseAt x1) kv_X5_poseAt ((m.1 (v_X5_poseAt x1) 0) >>> ((1 : Int32) &&& 31)) m) (fun v w2 hk => ?_)
    obtain ⟨rfl, rfl⟩ := hk
    show J X (0, 0) 42 [(6, .int ((m.1 (v_X5_poseAt x1) 0) >>> ((1 : Int32) &&& 31))), (5, .ref (ad (v_X5_poseAt x2))), (4, .ref (ad (v_X5_poseAt x1))), (0, .ref (ad 269)), (1, .int x1), (2, .int x2), (3, .int x3)] [.int (v_X8_lowOn (v_X5_poseAt x1) ((m.1 (v_X5_poseAt x1) 0) >>> ((1 : Int32) &&& 31)) m)] (fl ad m)
    refine J_aload hX dX5_doubled_42 1 rfl ?_
    refine J_iload hX dX5_doubled_44 0 rfl ?_
    refine J_callV hX km_X8_lowOn kl_RX5_87 dX5_doubled_46 kv_X5_poseAt (by decide) [.int ((m.1 (v_X5_poseAt x1) 0) >>> ((1 : Int32) &&& 31))] ⟨Nat.le_of_ble_eq_true rfl, Nat.le_of_ble_eq_true rfl⟩ rfl rfl (Nat.le_of_ble_eq_true rfl) (c_X8_lowOn (v_X5_poseAt x2) kv_X5_poseAt ((m.1 (v_X5_poseAt x1) 0) >>> ((1 : Int32) &&& 31)) m) (fun v w2 hk => ?_)
    obtain ⟨rfl, rfl⟩ := hk
    show J X (0, 0) 49 [(6, .int ((m.1 (v_X5_poseAt x1) 0) >>> ((1 : Int32) &&& 31))), (5, .ref (ad (v_X5_poseAt x2))), (4, .ref (ad (v_X5_poseAt x1))), (0, .ref (ad 269)), (1, .int x1), (2, .int x2), (3, .int x3)] [.int (v_X8_lowOn (v_X5_poseAt x2) ((m.1 (v_X5_poseAt x1) 0) >>> ((1 : Int32) &&& 31)) m), .int (v_X8_lowOn (v_X5_poseAt x1) ((m.1 (v_X5_poseAt x1) 0) >>> ((1 : Int32) &&& 31)) m)] (fl ad m)
    refine J_isub hX dX5_doubled_49 ?_
    refine J_mabs hX kl_RX5_91 dX5_doubled_50 (Nat.le_of_ble_eq_true rfl) (Nat.le_of_ble_eq_true rfl) ⟨Nat.le_of_ble_eq_true rfl, Nat.le_of_ble_eq_true rfl⟩ ?_
    refine J_iload_n hX dX5_doubled_53 rfl 6 rfl ?_
    refine J_icmp_le (tgt := 59) hX dX5_doubled_54 (by decide) (fun c2 => ?_) (fun c2 => ?_)
    · refine J_aload hX dX5_doubled_59 2 rfl ?_
      refine J_iload hX dX5_doubled_61 0 rfl ?_
      refine J_iconst (v := (1 : Int32)) hX dX5_doubled_63 (by decide) ?_
      refine J_iadd hX dX5_doubled_64 ?_
      refine J_iconst (v := (3 : Int32)) hX dX5_doubled_65 (by decide) ?_
      refine J_irem hX dX5_doubled_66 (by decide) ?_
      refine J_aload hX dX5_doubled_67 1 rfl ?_
      refine J_callV hX km_X8_commonOn kl_RX5_73 dX5_doubled_69 kv_X5_poseAt (by decide) [.int (rm32 (((m.1 (v_X5_poseAt x1) 0) >>> ((1 : Int32) &&& 31)) + (1 : Int32)) (3 : Int32)), .ref (ad (v_X5_poseAt x2))] ⟨Nat.le_of_ble_eq_true rfl, Nat.le_of_ble_eq_true rfl⟩ rfl rfl (Nat.le_of_ble_eq_true rfl) (c_X8_commonOn (v_X5_poseAt x1) kv_X5_poseAt (rm32 (((m.1 (v_X5_poseAt x1) 0) >>> ((1 : Int32) &&& 31)) + (1 : Int32)) (3 : Int32)) (v_X5_poseAt x2) kv_X5_poseAt m) (fun v w2 hk => ?_)
      obtain ⟨rfl, rfl⟩ := hk
      show J X (0, 0) 72 [(6, .int ((m.1 (v_X5_poseAt x1) 0) >>> ((1 : Int32) &&& 31))), (5, .ref (ad (v_X5_poseAt x2))), (4, .ref (ad (v_X5_poseAt x1))), (0, .ref (ad 269)), (1, .int x1), (2, .int x2), (3, .int x3)] [.int (v_X8_commonOn (v_X5_poseAt x1) (rm32 (((m.1 (v_X5_poseAt x1) 0) >>> ((1 : Int32) &&& 31)) + (1 : Int32)) (3 : Int32)) (v_X5_poseAt x2) m)] (fl ad m)
      refine J_istore (lv2 := [(7, .int (v_X8_commonOn (v_X5_poseAt x1) (rm32 (((m.1 (v_X5_poseAt x1) 0) >>> ((1 : Int32) &&& 31)) + (1 : Int32)) (3 : Int32)) (v_X5_poseAt x2) m)), (6, .int ((m.1 (v_X5_poseAt x1) 0) >>> ((1 : Int32) &&& 31))), (5, .ref (ad (v_X5_poseAt x2))), (4, .ref (ad (v_X5_poseAt x1))), (0, .ref (ad 269)), (1, .int x1), (2, .int x2), (3, .int x3)]) hX dX5_doubled_72 (Nat.le_of_ble_eq_true rfl) rfl ?_
      refine J_aload hX dX5_doubled_74 3 rfl ?_
      refine J_iload hX dX5_doubled_76 1 rfl ?_
      refine J_iconst (v := (2 : Int32)) hX dX5_doubled_78 (by decide) ?_
      refine J_iadd hX dX5_doubled_79 ?_
      refine J_iconst (v := (3 : Int32)) hX dX5_doubled_80 (by decide) ?_
      refine J_irem hX dX5_doubled_81 (by decide) ?_
      refine J_aload hX dX5_doubled_82 2 rfl ?_
      refine J_callV hX km_X8_commonOn kl_RX5_73 dX5_doubled_84 kv_X5_poseAt (by decide) [.int (rm32 (((m.1 (v_X5_poseAt x1) 0) >>> ((1 : Int32) &&& 31)) + (2 : Int32)) (3 : Int32)), .ref (ad (v_X5_poseAt x2))] ⟨Nat.le_of_ble_eq_true rfl, Nat.le_of_ble_eq_true rfl⟩ rfl rfl (Nat.le_of_ble_eq_true rfl) (c_X8_commonOn (v_X5_poseAt x1) kv_X5_poseAt (rm32 (((m.1 (v_X5_poseAt x1) 0) >>> ((1 : Int32) &&& 31)) + (2 : Int32)) (3 : Int32)) (v_X5_poseAt x2) kv_X5_poseAt m) (fun v w2 hk => ?_)
      obtain ⟨rfl, rfl⟩ := hk
      show J X (0, 0) 87 [(7, .int (v_X8_commonOn (v_X5_poseAt x1) (rm32 (((m.1 (v_X5_poseAt x1) 0) >>> ((1 : Int32) &&& 31)) + (1 : Int32)) (3 : Int32)) (v_X5_poseAt x2) m)), (6, .int ((m.1 (v_X5_poseAt x1) 0) >>> ((1 : Int32) &&& 31))), (5, .ref (ad (v_X5_poseAt x2))), (4, .ref (ad (v_X5_poseAt x1))), (0, .ref (ad 269)), (1, .int x1), (2, .int x2), (3, .int x3)] [.int (v_X8_commonOn (v_X5_poseAt x1) (rm32 (((m.1 (v_X5_poseAt x1) 0) >>> ((1 : Int32) &&& 31)) + (2 : Int32)) (3 : Int32)) (v_X5_poseAt x2) m)] (fl ad m)
      refine J_istore (lv2 := [(8, .int (v_X8_commonOn (v_X5_poseAt x1) (rm32 (((m.1 (v_X5_poseAt x1) 0) >>> ((1 : Int32) &&& 31)) + (2 : Int32)) (3 : Int32)) (v_X5_poseAt x2) m)), (7, .int (v_X8_commonOn (v_X5_poseAt x1) (rm32 (((m.1 (v_X5_poseAt x1) 0) >>> ((1 : Int32) &&& 31)) + (1 : Int32)) (3 : Int32)) (v_X5_poseAt x2) m)), (6, .int ((m.1 (v_X5_poseAt x1) 0) >>> ((1 : Int32) &&& 31))), (5, .ref (ad (v_X5_poseAt x2))), (4, .ref (ad (v_X5_poseAt x1))), (0, .ref (ad 269)), (1, .int x1), (2, .int x2), (3, .int x3)]) hX dX5_doubled_87 (Nat.le_of_ble_eq_true rfl) rfl ?_
      refine J_iload hX dX5_doubled_89 1 rfl ?_
      have hj5 : ∀ y6 : Int32, y6 = (if (v_X8_commonOn (v_X5_poseAt x1) (rm32 (((m.1 (v_X5_poseAt x1) 0) >>> ((1 : Int32) &&& 31)) + (1 : Int32)) (3 : Int32)) (v_X5_poseAt x2) m) ≤ (0 : Int32) then (0 : Int32) else (if (v_X8_commonOn (v_X5_poseAt x1) (rm32 (((m.1 (v_X5_poseAt x1) 0) >>> ((1 : Int32) &&& 31)) + (2 : Int32)) (3 : Int32)) (v_X5_poseAt x2) m) ≤ (0 : Int32) then (0 : Int32) else ((v_X8_commonOn (v_X5_poseAt x1) (rm32 (((m.1 (v_X5_poseAt x1) 0) >>> ((1 : Int32) &&& 31)) + (1 : Int32)) (3 : Int32)) (v_X5_poseAt x2) m) * (v_X8_commonOn (v_X5_poseAt x1) (rm32 (((m.1 (v_X5_poseAt x1) 0) >>> ((1 : Int32) &&& 31)) + (2 : Int32)) (3 : Int32)) (v_X5_poseAt x2) m)))) → J X (0, 0) 108 [] [.int y6] (fl ad m) := by
        intro y6 e_y6
        subst e_y6
        exact J_iret hX hR dX5_doubled_108 (And.intro (congrArg (fun z => some (Value.int z)) (show (if (v_X8_commonOn (v_X5_poseAt x1) (rm32 (((m.1 (v_X5_poseAt x1) 0) >>> ((1 : Int32) &&& 31)) + (1 : Int32)) (3 : Int32)) (v_X5_poseAt x2) m) ≤ (0 : Int32) then (0 : Int32) else (if (v_X8_commonOn (v_X5_poseAt x1) (rm32 (((m.1 (v_X5_poseAt x1) 0) >>> ((1 : Int32) &&& 31)) + (2 : Int32)) (3 : Int32)) (v_X5_poseAt x2) m) ≤ (0 : Int32) then (0 : Int32) else ((v_X8_commonOn (v_X5_poseAt x1) (rm32 (((m.1 (v_X5_poseAt x1) 0) >>> ((1 : Int32) &&& 31)) + (1 : Int32)) (3 : Int32)) (v_X5_poseAt x2) m) * (v_X8_commonOn (v_X5_poseAt x1) (rm32 (((m.1 (v_X5_poseAt x1) 0) >>> ((1 : Int32) &&& 31)) + (2 : Int32)) (3 : Int32)) (v_X5_poseAt x2) m)))) = v_X5_doubled x1 x2 x3 m from ((if_pos c1).trans (if_pos c2)).symm)) rfl)
      refine J_if_le (tgt := 107) hX dX5_doubled_91 (by decide) (fun c3 => ?_) (fun c3 => ?_)
      · refine J_iconst (v := (0 : Int32)) hX dX5_doubled_107 (by decide) ?_
        exact J_sub [] rfl (hj5 _ (if_pos c3).symm)
      · refine J_iload hX dX5_doubled_94 0 rfl ?_
        refine J_if_le (tgt := 107) hX dX5_doubled_96 (by decide) (fun c4 => ?_) (fun c4 => ?_)
        · refine J_iconst (v := (0 : Int32)) hX dX5_doubled_107 (by decide) ?_
          exact J_sub [] rfl (hj5 _ ((if_neg c3).trans (if_pos c4)).symm)
        · refine J_iload hX dX5_doubled_99 1 rfl ?_
          refine J_iload hX dX5_doubled_101 0 rfl ?_
          refine J_imul hX dX5_doubled_103 ?_
          refine J_goto (tgt := 108) hX dX5_doubled_104 (by decide) ?_
          exact J_sub [] rfl (hj5 _ ((if_neg c3).trans (if_neg c4)).symm)
    · refine J_iconst (v := (0 : Int32)) hX dX5_doubled_57 (by decide) ?_
      exact J_iret hX hR dX5_doubled_58 (And.intro (congrArg (fun z => some (Value.int z)) (show (0 : Int32) = v_X5_doubled x1 x2 x3 m from ((if_pos c1).trans (if_neg c2)).symm)) rfl)
set_option maxRecDepth 100000 in
theorem tb_X4_collectPairs_l14 {X : XT} {ad : Nat → Nat} {K : Mm → Prop} (hX : Cx X cX4_collectPairs 5 RX4 (rmN 3 72)) (hR : Rx X none (kV ad K) (0, 0)) {rec : Int32 → Mm → Prop} {k2 : Int32 → Mm → Prop} (a1 : Nat) (h1 : kap a1 = 3) (x2 : Int32) (hrec : ∀ (x3 : Int32) (m : Mm), rec x3 m → J X (0, 0) 14 [(0, .ref (ad 264)), (1, .ref (ad a1)), (2, .int x2), (3, .int x3)] [] (fl ad m)) (hk2 : ∀ (z2 : Int32) (m : Mm), k2 z2 m → J X (0, 0) 2 [(0, .ref (ad 264)), (1, .ref (ad a1)), (2, .int z2)] [] (fl ad m)) (x3 : Int32) (m : Mm) (h : wb_X4_collectPairs_l14 rec k2 K a1 x2 x3 m) : J X (0, 0) 14 [(0, .ref (ad 264)), (1, .ref (ad a1)), (2, .int x2), (3, .int x3)] [] (fl ad m) := by
  unfold wb_X4_collectPairs_l14 at h
  refine J_iload_n hX dX4_collectPairs_14 rfl 3 rfl ?_
  refine J_aload_n hX dX4_collectPairs_15 rfl 1 rfl ?_
  refine J_getI hX kf_RX4_67 dX4_collectPairs_16 h1 (by decide) rfl ?_
  refine J_icmp_ge (tgt := 110) hX dX4_collectPairs_19 (by decide) (fun c3 => ?_) (fun c3 => ?_)
  · replace h := Eq.mp (if_pos c3) h
    refine J_iinc (x := (x2 + (1 : Int32))) (lv2 := [(2, .int (x2 + (1 : Int32))), (0, .ref (ad 264)), (1, .ref (ad a1)), (3, .int x3)]) hX dX4_collectPairs_110 2 rfl rfl (Nat.le_of_ble_eq_true rfl) rfl ?_
    refine J_goto (tgt := 2) hX dX4_collectPairs_113 (by decide) ?_
    exact J_sub [1, 2, 0] rfl (hk2 (x2 + (1 : Int32)) m h)
  · replace h := Eq.mp (if_neg c3) h
    refine J_aload_n hX dX4_collectPairs_22 rfl 0 rfl ?_
    refine J_iconst (v := (1 : Int32)) hX dX4_collectPairs_23 (by decide) ?_
    refine J_iload_n hX dX4_collectPairs_24 rfl 2 rfl ?_
    refine J_bipush (v := (-9 : Int32)) hX dX4_collectPairs_25 (by decide) ?_
    refine J_iload_n hX dX4_collectPairs_27 rfl 3 rfl ?_
    refine J_aload_n hX dX4_collectPairs_28 rfl 0 rfl ?_
    refine J_getR hX kf_RX4_44 dX4_collectPairs_29 ka_264 (by decide) rfl rh_264_6 ?_
    refine J_iload_n hX dX4_collectPairs_32 rfl 2 rfl ?_
    refine J_iload_n hX dX4_collectPairs_33 rfl 3 rfl ?_
    refine J_aload_n hX dX4_collectPairs_34 rfl 0 rfl ?_
    refine J_iconst (v := (0 : Int32)) hX dX4_collectPairs_35 (by decide) ?_
    refine J_callV hX km_X4_limit kl_RX4_55 dX4_collectPairs_36 ka_264 (by decide) [.int (0 : Int32)] ⟨Nat.le_of_ble_eq_true rfl, Nat.le_of_ble_eq_true rfl⟩ rfl rfl (Nat.le_of_ble_eq_true rfl) (c_X4_limit (0 : Int32) m) (fun v w2 hk => ?_)
    obtain ⟨rfl, rfl⟩ := hk
    show J X (0, 0) 39 [(0, .ref (ad 264)), (1, .ref (ad a1)), (2, .int x2), (3, .int x3)] [.int (v_X4_limit (0 : Int32) m), .int x3, .int x2, .ref (ad 269), .int x3, .int (-9 : Int32), .int x2, .int (1 : Int32), .ref (ad 264)] (fl ad m)
    refine J_callV hX km_X5_crossing kl_RX4_111 dX4_collectPairs_39 ka_269 (by decide) [.int x2, .int x3, .int (v_X4_limit (0 : Int32) m)] ⟨Nat.le_of_ble_eq_true rfl, Nat.le_of_ble_eq_true rfl⟩ rfl rfl (Nat.le_of_ble_eq_true rfl) (c_X5_crossing x2 x3 (v_X4_limit (0 : Int32) m) m) (fun v w2 hk => ?_)
    obtain ⟨rfl, rfl⟩ := hk
    show J X (0, 0) 42 [(0, .ref (ad 264)), (1, .ref (ad a1)), (2, .int x2), (3, .int x3)] [.int (v_X5_crossing x2 x3 (v_X4_limit (0 : Int32) m) m), .int x3, .int (-9 : Int32), .int x2, .int (1 : Int32), .ref (ad 264)] (fl ad m)
    refine J_callV hX km_X4_add kl_RX4_107 dX4_collectPairs_42 ka_264 (by decide) [.int (1 : Int32), .int x2, .int (-9 : Int32), .int x3, .int (v_X5_crossing x2 x3 (v_X4_limit (0 : Int32) m) m)] ⟨Nat.le_of_ble_eq_true rfl, Nat.le_of_ble_eq_true rfl⟩ rfl rfl (Nat.le_of_ble_eq_true rfl) (c_X4_add (1 : Int32) x2 (-9 : Int32) x3 (v_X5_crossing x2 x3 (v_X4_limit (0 : Int32) m) m) m _ h) (fun v w2 hk => ?_)
    obtain ⟨m4, rfl, rfl, h⟩ := hk
    show J X (0, 0) 45 [(0, .ref (ad 264)), (1, .ref (ad a1)), (2, .int x2), (3, .int x3)] [] (fl ad m4)
    refine J_aload_n hX dX4_collectPairs_45 rfl 1 rfl ?_
    refine J_iload_n hX dX4_collectPairs_46 rfl 2 rfl ?_
    refine J_callV hX km_X3_panelAt kl_RX4_72 dX4_collectPairs_47 h1 (by decide) [.int x2] ⟨Nat.le_of_ble_eq_true rfl, Nat.le_of_ble_eq_true rfl⟩ rfl rfl (Nat.le_of_ble_eq_true rfl) (c_X3_panelAt a1 h1 x2 m4) (fun v w2 hk => ?_)
    obtain ⟨rfl, rfl⟩ := hk
    show J X (0, 0) 50 [(0, .ref (ad 264)), (1, .ref (ad a1)), (2, .int x2), (3, .int x3)] [.ref (ad (v_X3_panelAt a1 x2))] (fl ad m4)
    refine J_getI hX kf_RX4_115 dX4_collectPairs_50 (kv_X3_panelAt h1) (by decide) rfl ?_
    refine J_iload_n hX dX4_collectPairs_53 rfl 3 rfl ?_
    have hj10 : ∀ y7 : Int32, y7 = (if (m4.1 (v_X3_panelAt a1 x2) 6) = x3 then (1 : Int32) else (if (m4.1 (v_X3_panelAt a1 x3) 6) = x2 then (1 : Int32) else (0 : Int32))) → J X (0, 0) 74 [(0, .ref (ad 264)), (1, .ref (ad a1)), (2, .int x2), (3, .int x3)] [.int y7] (fl ad m4) := by
      intro y7 e_y7
      replace h := h y7 e_y7
      refine J_istore (lv2 := [(4, .int y7), (0, .ref (ad 264)), (1, .ref (ad a1)), (2, .int x2), (3, .int x3)]) hX dX4_collectPairs_74 (Nat.le_of_ble_eq_true rfl) rfl ?_
      refine J_iload hX dX4_collectPairs_76 0 rfl ?_
      refine J_if_ne (tgt := 104) hX dX4_collectPairs_78 (by decide) (fun c8 => ?_) (fun c8 => ?_)
      · replace h := Eq.mp (if_neg c8) h
        refine J_iinc (x := (x3 + (1 : Int32))) (lv2 := [(3, .int (x3 + (1 : Int32))), (4, .int y7), (0, .ref (ad 264)), (1, .ref (ad a1)), (2, .int x2)]) hX dX4_collectPairs_104 4 rfl rfl (Nat.le_of_ble_eq_true rfl) rfl ?_
        refine J_goto (tgt := 14) hX dX4_collectPairs_107 (by decide) ?_
        exact J_sub [2, 3, 4, 0] rfl (hrec (x3 + (1 : Int32)) m4 h)
      · replace h := Eq.mp (if_pos c8) h
        refine J_aload_n hX dX4_collectPairs_81 rfl 1 rfl ?_
        refine J_iconst (v := (2 : Int32)) hX dX4_collectPairs_82 (by decide) ?_
        refine J_iload_n hX dX4_collectPairs_83 rfl 3 rfl ?_
        refine J_bipush (v := (-9 : Int32)) hX dX4_collectPairs_84 (by decide) ?_
        refine J_iload_n hX dX4_collectPairs_86 rfl 4 rfl ?_
        refine J_aload_n hX dX4_collectPairs_87 rfl 1 rfl ?_
        refine J_getR hX kf_RX4_44 dX4_collectPairs_88 ka_264 (by decide) rfl rh_264_6 ?_
        refine J_iload_n hX dX4_collectPairs_91 rfl 3 rfl ?_
        refine J_iload_n hX dX4_collectPairs_92 rfl 4 rfl ?_
        refine J_aload_n hX dX4_collectPairs_93 rfl 1 rfl ?_
        refine J_iconst (v := (0 : Int32)) hX dX4_collectPairs_94 (by decide) ?_
        refine J_callV hX km_X4_limit kl_RX4_55 dX4_collectPairs_95 ka_264 (by decide) [.int (0 : Int32)] ⟨Nat.le_of_ble_eq_true rfl, Nat.le_of_ble_eq_true rfl⟩ rfl rfl (Nat.le_of_ble_eq_true rfl) (c_X4_limit (0 : Int32) m4) (fun v w2 hk => ?_)
        obtain ⟨rfl, rfl⟩ := hk
        show J X (0, 0) 98 [(4, .int y7), (0, .ref (ad 264)), (1, .ref (ad a1)), (2, .int x2), (3, .int x3)] [.int (v_X4_limit (0 : Int32) m4), .int x3, .int x2, .ref (ad 269), .int x3, .int (-9 : Int32), .int x2, .int (2 : Int32), .ref (ad 264)] (fl ad m4)
        refine J_callV hX km_X5_doubled kl_RX4_118 dX4_collectPairs_98 ka_269 (by decide) [.int x2, .int x3, .int (v_X4_limit (0 : Int32) m4)] ⟨Nat.le_of_ble_eq_true rfl, Nat.le_of_ble_eq_true rfl⟩ rfl rfl (Nat.le_of_ble_eq_true rfl) (c_X5_doubled x2 x3 (v_X4_limit (0 : Int32) m4) m4) (fun v w2 hk => ?_)
        obtain ⟨rfl, rfl⟩ := hk
        show J X (0, 0) 101 [(4, .int y7), (0, .ref (ad 264)), (1, .ref (ad a1)), (2, .int x2), (3, .int x3)] [.int (v_X5_doubled x2 x3 (v_X4_limit (0 : Int32) m4) m4), .int x3, .int (-9 : Int32), .int x2, .int (2 : Int32), .ref (ad 264)] (fl ad m4)
        refine J_callV hX km_X4_add kl_RX4_107 dX4_collectPairs_101 ka_264 (by decide) [.int (2 : Int32), .int x2, .int (-9 : Int32), .int x3, .int (v_X5_doubled x2 x3 (v_X4_limit (0 : Int32) m4) m4)] ⟨Nat.le_of_ble_eq_true rfl, Nat.le_of_ble_eq_true rfl⟩ rfl rfl (Nat.le_of_ble_eq_true rfl) (c_X4_add (2 : Int32) x2 (-9 : Int32) x3 (v_X5_doubled x2 x3 (v_X4_limit (0 : Int32) m4) m4) m4 _ h) (fun v w2 hk => ?_)
        obtain ⟨m9, rfl, rfl, h⟩ := hk
        show J X (0, 0) 104 [(4, .int y7), (0, .ref (ad 264)), (1, .ref (ad a1)), (2, .int x2), (3, .int x3)] [] (fl ad m9)
        refine J_iinc (x := (x3 + (1 : Int32))) (lv2 := [(3, .int (x3 + (1 : Int32))), (4, .int y7), (0, .ref (ad 264)), (1, .ref (ad a1)), (2, .int x2)]) hX dX4_collectPairs_104 4 rfl rfl (Nat.le_of_ble_eq_true rfl) rfl ?_
        refine J_goto (tgt := 14) hX dX4_collectPairs_107 (by decide) ?_
        exact J_sub [2, 3, 4, 0] rfl (hrec (x3 + (1 : Int32)) m9 h)
    refine J_icmp_eq (tgt := 69) hX dX4_collectPairs_54 (by decide) (fun c5 => ?_) (fun c5 => ?_)
    · refine J_iconst (v := (1 : Int32)) hX dX4_collectPairs_69 (by decide) ?_
      refine J_goto (tgt := 74) hX dX4_collectPairs_70 (by decide) ?_
      exact J_sub [0, 1, 2, 3] rfl (hj10 _ (if_pos c5).symm)
    · refine J_aload_n hX dX4_collectPairs_57 rfl 1 rfl ?_
      refine J_iload_n hX dX4_collectPairs_58 rfl 3 rfl ?_
      refine J_callV hX km_X3_panelAt kl_RX4_72 dX4_collectPairs_59 h1 (by decide) [.int x3] ⟨Nat.le_of_ble_eq_true rfl, Nat.le_of_ble_eq_true rfl⟩ rfl rfl (Nat.le_of_ble_eq_true rfl) (c_X3_panelAt a1 h1 x3 m4) (fun v w2 hk => ?_)
      obtain ⟨rfl, rfl⟩ := hk
      show J X (0, 0) 62 [(0, .ref (ad 264)), (1, .ref (ad a1)), (2, .int x2), (3, .int x3)] [.ref (ad (v_X3_panelAt a1 x3))] (fl ad m4)
      refine J_getI hX kf_RX4_115 dX4_collectPairs_62 (kv_X3_panelAt h1) (by decide) rfl ?_
      refine J_iload_n hX dX4_collectPairs_65 rfl 2 rfl ?_
      refine J_icmp_ne (tgt := 73) hX dX4_collectPairs_66 (by decide) (fun c6 => ?_) (fun c6 => ?_)
      · refine J_iconst (v := (0 : Int32)) hX dX4_collectPairs_73 (by decide) ?_
        exact J_sub [0, 1, 2, 3] rfl (hj10 _ ((if_neg c5).trans (if_neg c6)).symm)
      · refine J_iconst (v := (1 : Int32)) hX dX4_collectPairs_69 (by decide) ?_
        refine J_goto (tgt := 74) hX dX4_collectPairs_70 (by decide) ?_
        exact J_sub [0, 1, 2, 3] rfl (hj10 _ ((if_neg c5).trans (if_pos c6)).symm)
set_option maxRecDepth 100000 in
theorem t_X4_collectPairs_l14 {X : XT} {ad : Nat → Nat} {K : Mm → Prop} (hX : Cx X cX4_collectPairs 5 RX4 (rmN 3 72)) (hR : Rx X none (kV ad K) (0, 0)) {k2 : Int32 → Mm → Prop} (a1 : Nat) (h1 : kap a1 = 3) (x2 : Int32) (hk2 : ∀ (z2 : Int32) (m : Mm), k2 z2 m → J X (0, 0) 2 [(0, .ref (ad 264)), (1, .ref (ad a1)), (2, .int z2)] [] (fl ad m)) : ∀ (n : Nat) (x3 : Int32) (m : Mm), wp_X4_collectPairs_l14 k2 K a1 x2 n x3 m → J X (0, 0) 14 [(0, .ref (ad 264)), (1, .ref (ad a1)), (2, .int x2), (3, .int x3)] [] (fl ad m) := by
  intro n
  induction n with
  | zero => intro x3 m h; exact h.elim
  | succ n ih => intro x3 m h; exact tb_X4_collectPairs_l14 hX hR a1 h1 x2 ih hk2 x3 m h
set_option maxRecDepth 100000 in
theorem tb_X4_collectPairs_l2 {X : XT} {ad : Nat → Nat} {K : Mm → Prop} (hX : Cx X cX4_collectPairs 5 RX4 (rmN 3 72)) (hR : Rx X none (kV ad K) (0, 0)) {rec : Int32 → Mm → Prop} (a1 : Nat) (h1 : kap a1 = 3) (hrec : ∀ (x2 : Int32) (m : Mm), rec x2 m → J X (0, 0) 2 [(0, .ref (ad 264)), (1, .ref (ad a1)), (2, .int x2)] [] (fl ad m)) (x2 : Int32) (m : Mm) (h : wb_X4_collectPairs_l2 rec K a1 x2 m) : J X (0, 0) 2 [(0, .ref (ad 264)), (1, .ref (ad a1)), (2, .int x2)] [] (fl ad m) := by
  unfold wb_X4_collectPairs_l2 at h
  refine J_iload_n hX dX4_collectPairs_2 rfl 2 rfl ?_
  refine J_aload_n hX dX4_collectPairs_3 rfl 1 rfl ?_
  refine J_getI hX kf_RX4_67 dX4_collectPairs_4 h1 (by decide) rfl ?_
  refine J_icmp_ge (tgt := 116) hX dX4_collectPairs_7 (by decide) (fun c1 => ?_) (fun c1 => ?_)
  · replace h := Eq.mp (if_pos c1) h
    exact J_vret hX hR dX4_collectPairs_116 ⟨_, rfl, rfl, h⟩
  · replace h := Eq.mp (if_neg c1) h
    refine J_iload_n hX dX4_collectPairs_10 rfl 2 rfl ?_
    refine J_iconst (v := (1 : Int32)) hX dX4_collectPairs_11 (by decide) ?_
    refine J_iadd hX dX4_collectPairs_12 ?_
    refine J_nmI (fun y2 e_y2 => ?_)
    replace h := h y2 e_y2
    refine J_istore_n (lv2 := [(3, .int y2), (0, .ref (ad 264)), (1, .ref (ad a1)), (2, .int x2)]) hX dX4_collectPairs_13 rfl (Nat.le_of_ble_eq_true rfl) rfl ?_
    refine J_sub [1, 2, 3, 0] rfl (t_X4_collectPairs_l14 hX hR a1 h1 x2 hrec FU y2 m h)
set_option maxRecDepth 100000 in
theorem t_X4_collectPairs_l2 {X : XT} {ad : Nat → Nat} {K : Mm → Prop} (hX : Cx X cX4_collectPairs 5 RX4 (rmN 3 72)) (hR : Rx X none (kV ad K) (0, 0)) (a1 : Nat) (h1 : kap a1 = 3) : ∀ (n : Nat) (x2 : Int32) (m : Mm), wp_X4_collectPairs_l2 K a1 n x2 m → J X (0, 0) 2 [(0, .ref (ad 264)), (1, .ref (ad a1)), (2, .int x2)] [] (fl ad m) := by
  intro n
  induction n with
  | zero => intro x2 m h; exact h.elim
  | succ n ih => intro x2 m h; exact tb_X4_collectPairs_l2 hX hR a1 h1 ih x2 m h
set_option maxRecDepth 100000 in
theorem c_X4_collectPairs {G : GT} {ad : Nat → Nat} (a1 : Nat) (h1 : kap a1 = 3) (m : Mm) (K : Mm → Prop) (h : wp_X4_collectPairs a1 m K) : Cn G yX4_collectPairs cX4_collectPairs 5 none (rmN 3 72) [.ref (ad 264), .ref (ad a1)] (0, 0) (fl ad m) (kV ad K) := by
  unfold wp_X4_collectPairs at h
  refine Cn.of pn_RX4 (Nat.le_of_ble_eq_true rfl) (fun X hG hX hR => ?_)
  subst hG
  have hX : Cx X cX4_collectPairs 5 RX4 (rmN 3 72) := hX
  show J X (0, 0) 0 [(0, .ref (ad 264)), (1, .ref (ad a1))] [] (fl ad m)
  refine J_iconst (v := (0 : Int32)) hX dX4_collectPairs_0 (by decide) ?_
  refine J_istore_n (lv2 := [(2, .int (0 : Int32)), (0, .ref (ad 264)), (1, .ref (ad a1))]) hX dX4_collectPairs_1 rfl (Nat.le_of_ble_eq_true rfl) rfl ?_
  refine J_sub [1, 2, 0] rfl (t_X4_collectPairs_l2 hX hR a1 h1 FU (0 : Int32) m h)
set_option maxRecDepth 100000 in
theorem c_X5_covered {G : GT} {ad : Nat → Nat} (a1 : Nat) (h1 : kap a1 = 3) (x2 : Int32) (x3 : Int32) (m : Mm) : Cn G yX5_covered cX5_covered 6 (some .int) (rmN 3 71) [.ref (ad 269), .ref (ad a1), .int x2, .int x3] (0, 0) (fl ad m) (fun v w => v = some (.int (v_X5_covered a1 x2 x3 m)) ∧ w = fl ad m) := by
  refine Cn.of pn_RX5 (Nat.le_of_ble_eq_true rfl) (fun X hG hX hR => ?_)
  subst hG
  have hX : Cx X cX5_covered 6 RX5 (rmN 3 71) := hX
  show J X (0, 0) 0 [(0, .ref (ad 269)), (1, .ref (ad a1)), (2, .int x2), (3, .int x3)] [] (fl ad m)
  refine J_aload_n hX dX5_covered_0 rfl 1 rfl ?_
  refine J_iload_n hX dX5_covered_1 rfl 2 rfl ?_
  refine J_callV hX km_X3_panelAt kl_RX5_43 dX5_covered_2 h1 (by decide) [.int x2] ⟨Nat.le_of_ble_eq_true rfl, Nat.le_of_ble_eq_true rfl⟩ rfl rfl (Nat.le_of_ble_eq_true rfl) (c_X3_panelAt a1 h1 x2 m) (fun v w2 hk => ?_)
  obtain ⟨rfl, rfl⟩ := hk
  show J X (0, 0) 5 [(0, .ref (ad 269)), (1, .ref (ad a1)), (2, .int x2), (3, .int x3)] [.ref (ad (v_X3_panelAt a1 x2))] (fl ad m)
  refine J_astore (lv2 := [(4, .ref (ad (v_X3_panelAt a1 x2))), (0, .ref (ad 269)), (1, .ref (ad a1)), (2, .int x2), (3, .int x3)]) hX dX5_covered_5 (Nat.le_of_ble_eq_true rfl) rfl ?_
  refine J_aload hX dX5_covered_7 0 rfl ?_
  refine J_getI hX kf_RX5_94 dX5_covered_9 (kv_X3_panelAt h1) (by decide) rfl ?_
  refine J_aload hX dX5_covered_12 0 rfl ?_
  refine J_getI hX kf_RX5_97 dX5_covered_14 (kv_X3_panelAt h1) (by decide) rfl ?_
  refine J_imul hX dX5_covered_17 ?_
  refine J_istore (lv2 := [(5, .int ((m.1 (v_X3_panelAt a1 x2) 13) * (m.1 (v_X3_panelAt a1 x2) 14))), (4, .ref (ad (v_X3_panelAt a1 x2))), (0, .ref (ad 269)), (1, .ref (ad a1)), (2, .int x2), (3, .int x3)]) hX dX5_covered_18 (Nat.le_of_ble_eq_true rfl) rfl ?_
  refine J_iload hX dX5_covered_20 0 rfl ?_
  refine J_if_le (tgt := 48) hX dX5_covered_22 (by decide) (fun c1 => ?_) (fun c1 => ?_)
  · refine J_iconst (v := (0 : Int32)) hX dX5_covered_48 (by decide) ?_
    exact J_iret hX hR dX5_covered_49 (And.intro (congrArg (fun z => some (Value.int z)) (show (0 : Int32) = v_X5_covered a1 x2 x3 m from (if_pos c1).symm)) rfl)
  · refine J_aload_n hX dX5_covered_25 rfl 2 rfl ?_
    refine J_iload_n hX dX5_covered_26 rfl 4 rfl ?_
    refine J_callV hX km_X5_poseAt kl_RX5_39 dX5_covered_27 ka_269 (by decide) [.int x2] ⟨Nat.le_of_ble_eq_true rfl, Nat.le_of_ble_eq_true rfl⟩ rfl rfl (Nat.le_of_ble_eq_true rfl) (c_X5_poseAt x2 m) (fun v w2 hk => ?_)
    obtain ⟨rfl, rfl⟩ := hk
    show J X (0, 0) 30 [(5, .int ((m.1 (v_X3_panelAt a1 x2) 13) * (m.1 (v_X3_panelAt a1 x2) 14))), (4, .ref (ad (v_X3_panelAt a1 x2))), (0, .ref (ad 269)), (1, .ref (ad a1)), (2, .int x2), (3, .int x3)] [.ref (ad (v_X5_poseAt x2))] (fl ad m)
    refine J_getI hX kf_RX5_66 dX5_covered_30 kv_X5_poseAt (by decide) rfl ?_
    refine J_aload_n hX dX5_covered_33 rfl 2 rfl ?_
    refine J_aload hX dX5_covered_34 1 rfl ?_
    refine J_getI hX kf_RX5_100 dX5_covered_36 (kv_X3_panelAt h1) (by decide) rfl ?_
    refine J_callV hX km_X5_poseAt kl_RX5_39 dX5_covered_39 ka_269 (by decide) [.int (m.1 (v_X3_panelAt a1 x2) 6)] ⟨Nat.le_of_ble_eq_true rfl, Nat.le_of_ble_eq_true rfl⟩ rfl rfl (Nat.le_of_ble_eq_true rfl) (c_X5_poseAt (m.1 (v_X3_panelAt a1 x2) 6) m) (fun v w2 hk => ?_)
    obtain ⟨rfl, rfl⟩ := hk
    show J X (0, 0) 42 [(5, .int ((m.1 (v_X3_panelAt a1 x2) 13) * (m.1 (v_X3_panelAt a1 x2) 14))), (4, .ref (ad (v_X3_panelAt a1 x2))), (0, .ref (ad 269)), (1, .ref (ad a1)), (2, .int x2), (3, .int x3)] [.ref (ad (v_X5_poseAt (m.1 (v_X3_panelAt a1 x2) 6))), .int (m.1 (v_X5_poseAt x2) 0)] (fl ad m)
    refine J_getI hX kf_RX5_66 dX5_covered_42 kv_X5_poseAt (by decide) rfl ?_
    refine J_icmp_eq (tgt := 50) hX dX5_covered_45 (by decide) (fun c2 => ?_) (fun c2 => ?_)
    · refine J_bipush (v := (100 : Int32)) hX dX5_covered_50 (by decide) ?_
      refine J_aload_n hX dX5_covered_52 rfl 2 rfl ?_
      refine J_iload_n hX dX5_covered_53 rfl 4 rfl ?_
      refine J_aload hX dX5_covered_54 1 rfl ?_
      refine J_getI hX kf_RX5_100 dX5_covered_56 (kv_X3_panelAt h1) (by decide) rfl ?_
      refine J_iload_n hX dX5_covered_59 rfl 5 rfl ?_
      refine J_callV hX km_X5_doubled kl_RX5_103 dX5_covered_60 ka_269 (by decide) [.int x2, .int (m.1 (v_X3_panelAt a1 x2) 6), .int x3] ⟨Nat.le_of_ble_eq_true rfl, Nat.le_of_ble_eq_true rfl⟩ rfl rfl (Nat.le_of_ble_eq_true rfl) (c_X5_doubled x2 (m.1 (v_X3_panelAt a1 x2) 6) x3 m) (fun v w2 hk => ?_)
      obtain ⟨rfl, rfl⟩ := hk
      show J X (0, 0) 63 [(5, .int ((m.1 (v_X3_panelAt a1 x2) 13) * (m.1 (v_X3_panelAt a1 x2) 14))), (4, .ref (ad (v_X3_panelAt a1 x2))), (0, .ref (ad 269)), (1, .ref (ad a1)), (2, .int x2), (3, .int x3)] [.int (v_X5_doubled x2 (m.1 (v_X3_panelAt a1 x2) 6) x3 m), .int (100 : Int32)] (fl ad m)
      refine J_imul hX dX5_covered_63 ?_
      refine J_iload hX dX5_covered_64 0 rfl ?_
      refine J_idiv hX dX5_covered_66 (nz_1 c1) ?_
      exact J_iret hX hR dX5_covered_67 (And.intro (congrArg (fun z => some (Value.int z)) (show (((100 : Int32) * (v_X5_doubled x2 (m.1 (v_X3_panelAt a1 x2) 6) x3 m)) / ((m.1 (v_X3_panelAt a1 x2) 13) * (m.1 (v_X3_panelAt a1 x2) 14))) = v_X5_covered a1 x2 x3 m from ((if_neg c1).trans (if_pos c2)).symm)) rfl)
    · refine J_iconst (v := (0 : Int32)) hX dX5_covered_48 (by decide) ?_
      exact J_iret hX hR dX5_covered_49 (And.intro (congrArg (fun z => some (Value.int z)) (show (0 : Int32) = v_X5_covered a1 x2 x3 m from ((if_neg c1).trans (if_neg c2)).symm)) rfl)
set_option maxRecDepth 100000 in
theorem c_X4_inkDistance {G : GT} {ad : Nat → Nat} (a0 : Nat) (h0 : kap a0 = 3) (a1 : Nat) (h1 : kap a1 = 7) (m : Mm) : Cn G yX4_inkDistance cX4_inkDistance 2 (some .int) (rmN 2 43) [.ref (ad a0), .ref (ad a1)] (0, 0) (fl ad m) (fun v w => v = some (.int (v_X4_inkDistance a0 a1 m)) ∧ w = fl ad m) := by
  refine Cn.of pn_RX4 (Nat.le_of_ble_eq_true rfl) (fun X hG hX hR => ?_)
  subst hG
  have hX : Cx X cX4_inkDistance 2 RX4 (rmN 2 43) := hX
  show J X (0, 0) 0 [(0, .ref (ad a0)), (1, .ref (ad a1))] [] (fl ad m)
  refine J_aload_n hX dX4_inkDistance_0 rfl 1 rfl ?_
  refine J_callV hX km_X7_nearSide kl_RX4_129 dX4_inkDistance_1 h1 (by decide) [] ⟨Nat.le_of_ble_eq_true rfl, Nat.le_of_ble_eq_true rfl⟩ rfl rfl (Nat.le_of_ble_eq_true rfl) (c_X7_nearSide a1 h1 m) (fun v w2 hk => ?_)
  obtain ⟨rfl, rfl⟩ := hk
  show J X (0, 0) 4 [(0, .ref (ad a0)), (1, .ref (ad a1))] [.int (v_X7_nearSide a1 m)] (fl ad m)
  by_cases c1 : (v_X7_nearSide a1 m) = (0 : Int32)
  · refine J_tabIn (v := (0 : Int32)) (tgt := 32) hX dX4_inkDistance_4 c1 (by decide) (by decide) rfl (by decide) ?_
    refine J_aload_n hX dX4_inkDistance_32 rfl 1 rfl ?_
    refine J_getI hX kf_RX4_133 dX4_inkDistance_33 h1 (by decide) rfl ?_
    refine J_aload_n hX dX4_inkDistance_36 rfl 0 rfl ?_
    refine J_aload_n hX dX4_inkDistance_37 rfl 1 rfl ?_
    refine J_callS hX km_X0_upperEnd kl_RX4_136 dX4_inkDistance_38 [.ref (ad a0), .ref (ad a1)] ⟨Nat.le_of_ble_eq_true rfl, Nat.le_of_ble_eq_true rfl⟩ rfl rfl (Nat.le_of_ble_eq_true rfl) (c_X0_upperEnd a0 h0 a1 h1 m) (fun v w2 hk => ?_)
    obtain ⟨rfl, rfl⟩ := hk
    show J X (0, 0) 41 [(0, .ref (ad a0)), (1, .ref (ad a1))] [.int (v_X0_upperEnd a0 a1 m), .int (m.1 a1 14)] (fl ad m)
    refine J_mmin hX kl_RX4_139 dX4_inkDistance_41 (Nat.le_of_ble_eq_true rfl) (Nat.le_of_ble_eq_true rfl) ⟨Nat.le_of_ble_eq_true rfl, Nat.le_of_ble_eq_true rfl⟩ ?_
    exact J_iret hX hR dX4_inkDistance_44 (And.intro (congrArg (fun z => some (Value.int z)) (show (mn32 (m.1 a1 14) (v_X0_upperEnd a0 a1 m)) = v_X4_inkDistance a0 a1 m from (if_pos c1).symm)) rfl)
  · by_cases c2 : (v_X7_nearSide a1 m) = (1 : Int32)
    · refine J_tabIn (v := (1 : Int32)) (tgt := 45) hX dX4_inkDistance_4 c2 (by decide) (by decide) rfl (by decide) ?_
      refine J_aload_n hX dX4_inkDistance_45 rfl 1 rfl ?_
      refine J_getI hX kf_RX4_144 dX4_inkDistance_46 h1 (by decide) rfl ?_
      refine J_iconst (v := (0 : Int32)) hX dX4_inkDistance_49 (by decide) ?_
      refine J_aload_n hX dX4_inkDistance_50 rfl 1 rfl ?_
      refine J_getI hX kf_RX4_147 dX4_inkDistance_51 h1 (by decide) rfl ?_
      refine J_mmax hX kl_RX4_150 dX4_inkDistance_54 (Nat.le_of_ble_eq_true rfl) (Nat.le_of_ble_eq_true rfl) ⟨Nat.le_of_ble_eq_true rfl, Nat.le_of_ble_eq_true rfl⟩ ?_
      refine J_isub hX dX4_inkDistance_57 ?_
      exact J_iret hX hR dX4_inkDistance_58 (And.intro (congrArg (fun z => some (Value.int z)) (show ((m.1 a1 13) - (mx32 (0 : Int32) (m.1 a1 9))) = v_X4_inkDistance a0 a1 m from ((if_neg c1).trans (if_pos c2)).symm)) rfl)
    · by_cases c3 : (v_X7_nearSide a1 m) = (2 : Int32)
      · refine J_tabIn (v := (2 : Int32)) (tgt := 59) hX dX4_inkDistance_4 c3 (by decide) (by decide) rfl (by decide) ?_
        refine J_aload_n hX dX4_inkDistance_59 rfl 1 rfl ?_
        refine J_getI hX kf_RX4_133 dX4_inkDistance_60 h1 (by decide) rfl ?_
        refine J_iconst (v := (0 : Int32)) hX dX4_inkDistance_63 (by decide) ?_
        refine J_aload_n hX dX4_inkDistance_64 rfl 1 rfl ?_
        refine J_getI hX kf_RX4_153 dX4_inkDistance_65 h1 (by decide) rfl ?_
        refine J_mmax hX kl_RX4_150 dX4_inkDistance_68 (Nat.le_of_ble_eq_true rfl) (Nat.le_of_ble_eq_true rfl) ⟨Nat.le_of_ble_eq_true rfl, Nat.le_of_ble_eq_true rfl⟩ ?_
        refine J_isub hX dX4_inkDistance_71 ?_
        exact J_iret hX hR dX4_inkDistance_72 (And.intro (congrArg (fun z => some (Value.int z)) (show ((m.1 a1 14) - (mx32 (0 : Int32) (m.1 a1 10))) = v_X4_inkDistance a0 a1 m from ((if_neg c1).trans ((if_neg c2).trans (if_pos c3))).symm)) rfl)
      · refine J_tabOut (tgt := 73) hX dX4_inkDistance_4 (by have t0 := tne c1 (k := 0) (by decide); have t1 := tne c2 (k := 1) (by decide); have t2 := tne c3 (k := 2) (by decide); omega) (by decide) ?_
        refine J_aload_n hX dX4_inkDistance_73 rfl 1 rfl ?_
        refine J_getI hX kf_RX4_144 dX4_inkDistance_74 h1 (by decide) rfl ?_
        refine J_aload_n hX dX4_inkDistance_77 rfl 0 rfl ?_
        refine J_aload_n hX dX4_inkDistance_78 rfl 1 rfl ?_
        refine J_callS hX km_X0_rightEnd kl_RX4_156 dX4_inkDistance_79 [.ref (ad a0), .ref (ad a1)] ⟨Nat.le_of_ble_eq_true rfl, Nat.le_of_ble_eq_true rfl⟩ rfl rfl (Nat.le_of_ble_eq_true rfl) (c_X0_rightEnd a0 h0 a1 h1 m) (fun v w2 hk => ?_)
        obtain ⟨rfl, rfl⟩ := hk
        show J X (0, 0) 82 [(0, .ref (ad a0)), (1, .ref (ad a1))] [.int (v_X0_rightEnd a0 a1 m), .int (m.1 a1 13)] (fl ad m)
        refine J_mmin hX kl_RX4_139 dX4_inkDistance_82 (Nat.le_of_ble_eq_true rfl) (Nat.le_of_ble_eq_true rfl) ⟨Nat.le_of_ble_eq_true rfl, Nat.le_of_ble_eq_true rfl⟩ ?_
        exact J_iret hX hR dX4_inkDistance_85 (And.intro (congrArg (fun z => some (Value.int z)) (show (mn32 (m.1 a1 13) (v_X0_rightEnd a0 a1 m)) = v_X4_inkDistance a0 a1 m from ((if_neg c1).trans ((if_neg c2).trans (if_neg c3))).symm)) rfl)
set_option maxRecDepth 100000 in
theorem c_X4_collectFlap {G : GT} {ad : Nat → Nat} (a1 : Nat) (h1 : kap a1 = 3) (x2 : Int32) (m : Mm) (K : Mm → Prop) (h : wp_X4_collectFlap a1 x2 m K) : Cn G yX4_collectFlap cX4_collectFlap 5 none (rmN 4 96) [.ref (ad 264), .ref (ad a1), .int x2] (0, 0) (fl ad m) (kV ad K) := by
  unfold wp_X4_collectFlap at h
  refine Cn.of pn_RX4 (Nat.le_of_ble_eq_true rfl) (fun X hG hX hR => ?_)
  subst hG
  have hX : Cx X cX4_collectFlap 5 RX4 (rmN 4 96) := hX
  show J X (0, 0) 0 [(0, .ref (ad 264)), (1, .ref (ad a1)), (2, .int x2)] [] (fl ad m)
  refine J_aload_n hX dX4_collectFlap_0 rfl 1 rfl ?_
  refine J_iload_n hX dX4_collectFlap_1 rfl 2 rfl ?_
  refine J_callV hX km_X3_panelAt kl_RX4_72 dX4_collectFlap_2 h1 (by decide) [.int x2] ⟨Nat.le_of_ble_eq_true rfl, Nat.le_of_ble_eq_true rfl⟩ rfl rfl (Nat.le_of_ble_eq_true rfl) (c_X3_panelAt a1 h1 x2 m) (fun v w2 hk => ?_)
  obtain ⟨rfl, rfl⟩ := hk
  show J X (0, 0) 5 [(0, .ref (ad 264)), (1, .ref (ad a1)), (2, .int x2)] [.ref (ad (v_X3_panelAt a1 x2))] (fl ad m)
  refine J_astore_n (lv2 := [(3, .ref (ad (v_X3_panelAt a1 x2))), (0, .ref (ad 264)), (1, .ref (ad a1)), (2, .int x2)]) hX dX4_collectFlap_5 rfl (Nat.le_of_ble_eq_true rfl) rfl ?_
  refine J_aload_n hX dX4_collectFlap_6 rfl 1 rfl ?_
  refine J_getR hX kf_RX4_44 dX4_collectFlap_7 ka_264 (by decide) rfl rh_264_6 ?_
  refine J_aload_n hX dX4_collectFlap_10 rfl 2 rfl ?_
  refine J_iload_n hX dX4_collectFlap_11 rfl 3 rfl ?_
  refine J_aload_n hX dX4_collectFlap_12 rfl 1 rfl ?_
  refine J_iconst (v := (0 : Int32)) hX dX4_collectFlap_13 (by decide) ?_
  refine J_callV hX km_X4_limit kl_RX4_55 dX4_collectFlap_14 ka_264 (by decide) [.int (0 : Int32)] ⟨Nat.le_of_ble_eq_true rfl, Nat.le_of_ble_eq_true rfl⟩ rfl rfl (Nat.le_of_ble_eq_true rfl) (c_X4_limit (0 : Int32) m) (fun v w2 hk => ?_)
  obtain ⟨rfl, rfl⟩ := hk
  show J X (0, 0) 17 [(3, .ref (ad (v_X3_panelAt a1 x2))), (0, .ref (ad 264)), (1, .ref (ad a1)), (2, .int x2)] [.int (v_X4_limit (0 : Int32) m), .int x2, .ref (ad a1), .ref (ad 269)] (fl ad m)
  refine J_callV hX km_X5_covered kl_RX4_121 dX4_collectFlap_17 ka_269 (by decide) [.ref (ad a1), .int x2, .int (v_X4_limit (0 : Int32) m)] ⟨Nat.le_of_ble_eq_true rfl, Nat.le_of_ble_eq_true rfl⟩ rfl rfl (Nat.le_of_ble_eq_true rfl) (c_X5_covered a1 h1 x2 (v_X4_limit (0 : Int32) m) m) (fun v w2 hk => ?_)
  obtain ⟨rfl, rfl⟩ := hk
  show J X (0, 0) 20 [(3, .ref (ad (v_X3_panelAt a1 x2))), (0, .ref (ad 264)), (1, .ref (ad a1)), (2, .int x2)] [.int (v_X5_covered a1 x2 (v_X4_limit (0 : Int32) m) m)] (fl ad m)
  refine J_nmI (fun y1 e_y1 => ?_)
  replace h := h y1 e_y1
  refine J_istore (lv2 := [(4, .int y1), (3, .ref (ad (v_X3_panelAt a1 x2))), (0, .ref (ad 264)), (1, .ref (ad a1)), (2, .int x2)]) hX dX4_collectFlap_20 (Nat.le_of_ble_eq_true rfl) rfl ?_
  refine J_aload_n hX dX4_collectFlap_22 rfl 2 rfl ?_
  refine J_iconst (v := (3 : Int32)) hX dX4_collectFlap_23 (by decide) ?_
  refine J_iload_n hX dX4_collectFlap_24 rfl 4 rfl ?_
  refine J_bipush (v := (-9 : Int32)) hX dX4_collectFlap_25 (by decide) ?_
  refine J_aload_n hX dX4_collectFlap_27 rfl 1 rfl ?_
  refine J_getI hX kf_RX4_115 dX4_collectFlap_28 (kv_X3_panelAt h1) (by decide) rfl ?_
  refine J_aload_n hX dX4_collectFlap_31 rfl 2 rfl ?_
  refine J_iconst (v := (3 : Int32)) hX dX4_collectFlap_32 (by decide) ?_
  refine J_callV hX km_X4_limit kl_RX4_55 dX4_collectFlap_33 ka_264 (by decide) [.int (3 : Int32)] ⟨Nat.le_of_ble_eq_true rfl, Nat.le_of_ble_eq_true rfl⟩ rfl rfl (Nat.le_of_ble_eq_true rfl) (c_X4_limit (3 : Int32) m) (fun v w2 hk => ?_)
  obtain ⟨rfl, rfl⟩ := hk
  show J X (0, 0) 36 [(4, .int y1), (3, .ref (ad (v_X3_panelAt a1 x2))), (0, .ref (ad 264)), (1, .ref (ad a1)), (2, .int x2)] [.int (v_X4_limit (3 : Int32) m), .int (m.1 (v_X3_panelAt a1 x2) 6), .int (-9 : Int32), .int x2, .int (3 : Int32), .ref (ad 264)] (fl ad m)
  refine J_iload hX dX4_collectFlap_36 0 rfl ?_
  refine J_isub hX dX4_collectFlap_38 ?_
  refine J_callV hX km_X4_add kl_RX4_107 dX4_collectFlap_39 ka_264 (by decide) [.int (3 : Int32), .int x2, .int (-9 : Int32), .int (m.1 (v_X3_panelAt a1 x2) 6), .int ((v_X4_limit (3 : Int32) m) - y1)] ⟨Nat.le_of_ble_eq_true rfl, Nat.le_of_ble_eq_true rfl⟩ rfl rfl (Nat.le_of_ble_eq_true rfl) (c_X4_add (3 : Int32) x2 (-9 : Int32) (m.1 (v_X3_panelAt a1 x2) 6) ((v_X4_limit (3 : Int32) m) - y1) m _ h) (fun v w2 hk => ?_)
  obtain ⟨m2, rfl, rfl, h⟩ := hk
  show J X (0, 0) 42 [(4, .int y1), (3, .ref (ad (v_X3_panelAt a1 x2))), (0, .ref (ad 264)), (1, .ref (ad a1)), (2, .int x2)] [] (fl ad m2)
  refine J_aload_n hX dX4_collectFlap_42 rfl 3 rfl ?_
  refine J_aload_n hX dX4_collectFlap_43 rfl 1 rfl ?_
  refine J_callS hX km_X0_shows kl_RX4_88 dX4_collectFlap_44 [.ref (ad a1), .ref (ad (v_X3_panelAt a1 x2))] ⟨Nat.le_of_ble_eq_true rfl, Nat.le_of_ble_eq_true rfl⟩ rfl rfl (Nat.le_of_ble_eq_true rfl) (c_X0_shows a1 h1 (v_X3_panelAt a1 x2) (kv_X3_panelAt h1) m2) (fun v w2 hk => ?_)
  obtain ⟨rfl, rfl⟩ := hk
  show J X (0, 0) 47 [(4, .int y1), (3, .ref (ad (v_X3_panelAt a1 x2))), (0, .ref (ad 264)), (1, .ref (ad a1)), (2, .int x2)] [.int (v_X0_shows a1 (v_X3_panelAt a1 x2) m2)] (fl ad m2)
  refine J_if_eq (tgt := 72) hX dX4_collectFlap_47 (by decide) (fun c3 => ?_) (fun c3 => ?_)
  · replace h := Eq.mp (if_pos c3) h
    exact J_vret hX hR dX4_collectFlap_72 ⟨_, rfl, rfl, h⟩
  · replace h := Eq.mp (if_neg c3) h
    refine J_aload_n hX dX4_collectFlap_50 rfl 2 rfl ?_
    refine J_bipush (v := (6 : Int32)) hX dX4_collectFlap_51 (by decide) ?_
    refine J_iload_n hX dX4_collectFlap_53 rfl 4 rfl ?_
    refine J_bipush (v := (-9 : Int32)) hX dX4_collectFlap_54 (by decide) ?_
    refine J_bipush (v := (-9 : Int32)) hX dX4_collectFlap_56 (by decide) ?_
    refine J_aload_n hX dX4_collectFlap_58 rfl 3 rfl ?_
    refine J_aload_n hX dX4_collectFlap_59 rfl 1 rfl ?_
    refine J_callS hX km_X4_inkDistance kl_RX4_125 dX4_collectFlap_60 [.ref (ad a1), .ref (ad (v_X3_panelAt a1 x2))] ⟨Nat.le_of_ble_eq_true rfl, Nat.le_of_ble_eq_true rfl⟩ rfl rfl (Nat.le_of_ble_eq_true rfl) (c_X4_inkDistance a1 h1 (v_X3_panelAt a1 x2) (kv_X3_panelAt h1) m2) (fun v w2 hk => ?_)
    obtain ⟨rfl, rfl⟩ := hk
    show J X (0, 0) 63 [(4, .int y1), (3, .ref (ad (v_X3_panelAt a1 x2))), (0, .ref (ad 264)), (1, .ref (ad a1)), (2, .int x2)] [.int (v_X4_inkDistance a1 (v_X3_panelAt a1 x2) m2), .int (-9 : Int32), .int (-9 : Int32), .int x2, .int (6 : Int32), .ref (ad 264)] (fl ad m2)
    refine J_aload_n hX dX4_collectFlap_63 rfl 2 rfl ?_
    refine J_iconst (v := (2 : Int32)) hX dX4_collectFlap_64 (by decide) ?_
    refine J_callV hX km_X4_limit kl_RX4_55 dX4_collectFlap_65 ka_264 (by decide) [.int (2 : Int32)] ⟨Nat.le_of_ble_eq_true rfl, Nat.le_of_ble_eq_true rfl⟩ rfl rfl (Nat.le_of_ble_eq_true rfl) (c_X4_limit (2 : Int32) m2) (fun v w2 hk => ?_)
    obtain ⟨rfl, rfl⟩ := hk
    show J X (0, 0) 68 [(4, .int y1), (3, .ref (ad (v_X3_panelAt a1 x2))), (0, .ref (ad 264)), (1, .ref (ad a1)), (2, .int x2)] [.int (v_X4_limit (2 : Int32) m2), .int (v_X4_inkDistance a1 (v_X3_panelAt a1 x2) m2), .int (-9 : Int32), .int (-9 : Int32), .int x2, .int (6 : Int32), .ref (ad 264)] (fl ad m2)
    refine J_isub hX dX4_collectFlap_68 ?_
    refine J_callV hX km_X4_add kl_RX4_107 dX4_collectFlap_69 ka_264 (by decide) [.int (6 : Int32), .int x2, .int (-9 : Int32), .int (-9 : Int32), .int ((v_X4_inkDistance a1 (v_X3_panelAt a1 x2) m2) - (v_X4_limit (2 : Int32) m2))] ⟨Nat.le_of_ble_eq_true rfl, Nat.le_of_ble_eq_true rfl⟩ rfl rfl (Nat.le_of_ble_eq_true rfl) (c_X4_add (6 : Int32) x2 (-9 : Int32) (-9 : Int32) ((v_X4_inkDistance a1 (v_X3_panelAt a1 x2) m2) - (v_X4_limit (2 : Int32) m2)) m2 _ h) (fun v w2 hk => ?_)
    obtain ⟨m4, rfl, rfl, h⟩ := hk
    show J X (0, 0) 72 [(4, .int y1), (3, .ref (ad (v_X3_panelAt a1 x2))), (0, .ref (ad 264)), (1, .ref (ad a1)), (2, .int x2)] [] (fl ad m4)
    exact J_vret hX hR dX4_collectFlap_72 ⟨_, rfl, rfl, h⟩
set_option maxRecDepth 100000 in
theorem tb_X4_collectOpen_l11 {X : XT} {ad : Nat → Nat} {K : Mm → Prop} (hX : Cx X cX4_collectOpen 3 RX4 (rmN 3 70)) (hR : Rx X none (kV ad K) (0, 0)) {rec : Int32 → Mm → Prop} (x1 : Int32) (hrec : ∀ (x2 : Int32) (m : Mm), rec x2 m → J X (0, 0) 11 [(0, .ref (ad 264)), (1, .int x1), (2, .int x2)] [] (fl ad m)) (x2 : Int32) (m : Mm) (h : wb_X4_collectOpen_l11 rec K x1 x2 m) : J X (0, 0) 11 [(0, .ref (ad 264)), (1, .int x1), (2, .int x2)] [] (fl ad m) := by
  unfold wb_X4_collectOpen_l11 at h
  refine J_iload_n hX dX4_collectOpen_11 rfl 2 rfl ?_
  refine J_iconst (v := (4 : Int32)) hX dX4_collectOpen_12 (by decide) ?_
  refine J_icmp_ge (tgt := 40) hX dX4_collectOpen_13 (by decide) (fun c2 => ?_) (fun c2 => ?_)
  · replace h := Eq.mp (if_pos c2) h
    exact J_vret hX hR dX4_collectOpen_40 ⟨_, rfl, rfl, h⟩
  · replace h := Eq.mp (if_neg c2) h
    refine J_aload_n hX dX4_collectOpen_16 rfl 0 rfl ?_
    refine J_iconst (v := (0 : Int32)) hX dX4_collectOpen_17 (by decide) ?_
    refine J_iload_n hX dX4_collectOpen_18 rfl 1 rfl ?_
    refine J_iload_n hX dX4_collectOpen_19 rfl 2 rfl ?_
    refine J_bipush (v := (-9 : Int32)) hX dX4_collectOpen_20 (by decide) ?_
    refine J_aload_n hX dX4_collectOpen_22 rfl 0 rfl ?_
    refine J_getR hX kf_RX4_37 dX4_collectOpen_23 ka_264 (by decide) rfl rh_264_5 ?_
    refine J_iload_n hX dX4_collectOpen_26 rfl 1 rfl ?_
    refine J_iload_n hX dX4_collectOpen_27 rfl 2 rfl ?_
    refine J_callV hX km_X10_open kl_RX4_103 dX4_collectOpen_28 ka_268 (by decide) [.int x1, .int x2] ⟨Nat.le_of_ble_eq_true rfl, Nat.le_of_ble_eq_true rfl⟩ rfl rfl (Nat.le_of_ble_eq_true rfl) (c_X10_open x1 x2 m _ h) (fun v w2 hk => ?_)
    obtain ⟨y4, m3, rfl, rfl, h⟩ := hk
    show J X (0, 0) 31 [(0, .ref (ad 264)), (1, .int x1), (2, .int x2)] [.int y4, .int (-9 : Int32), .int x2, .int x1, .int (0 : Int32), .ref (ad 264)] (fl ad m3)
    refine J_callV hX km_X4_add kl_RX4_107 dX4_collectOpen_31 ka_264 (by decide) [.int (0 : Int32), .int x1, .int x2, .int (-9 : Int32), .int y4] ⟨Nat.le_of_ble_eq_true rfl, Nat.le_of_ble_eq_true rfl⟩ rfl rfl (Nat.le_of_ble_eq_true rfl) (c_X4_add (0 : Int32) x1 x2 (-9 : Int32) y4 m3 _ h) (fun v w2 hk => ?_)
    obtain ⟨m5, rfl, rfl, h⟩ := hk
    show J X (0, 0) 34 [(0, .ref (ad 264)), (1, .int x1), (2, .int x2)] [] (fl ad m5)
    refine J_iinc (x := (x2 + (1 : Int32))) (lv2 := [(2, .int (x2 + (1 : Int32))), (0, .ref (ad 264)), (1, .int x1)]) hX dX4_collectOpen_34 2 rfl rfl (Nat.le_of_ble_eq_true rfl) rfl ?_
    refine J_goto (tgt := 11) hX dX4_collectOpen_37 (by decide) ?_
    exact J_sub [1, 2, 0] rfl (hrec (x2 + (1 : Int32)) m5 h)
set_option maxRecDepth 100000 in
theorem t_X4_collectOpen_l11 {X : XT} {ad : Nat → Nat} {K : Mm → Prop} (hX : Cx X cX4_collectOpen 3 RX4 (rmN 3 70)) (hR : Rx X none (kV ad K) (0, 0)) (x1 : Int32) : ∀ (n : Nat) (x2 : Int32) (m : Mm), wp_X4_collectOpen_l11 K x1 n x2 m → J X (0, 0) 11 [(0, .ref (ad 264)), (1, .int x1), (2, .int x2)] [] (fl ad m) := by
  intro n
  induction n with
  | zero => intro x2 m h; exact h.elim
  | succ n ih => intro x2 m h; exact tb_X4_collectOpen_l11 hX hR x1 ih x2 m h
set_option maxRecDepth 100000 in
theorem c_X4_collectOpen {G : GT} {ad : Nat → Nat} (x1 : Int32) (m : Mm) (K : Mm → Prop) (h : wp_X4_collectOpen x1 m K) : Cn G yX4_collectOpen cX4_collectOpen 3 none (rmN 3 70) [.ref (ad 264), .int x1] (0, 0) (fl ad m) (kV ad K) := by
  unfold wp_X4_collectOpen at h
  refine Cn.of pn_RX4 (Nat.le_of_ble_eq_true rfl) (fun X hG hX hR => ?_)
  subst hG
  have hX : Cx X cX4_collectOpen 3 RX4 (rmN 3 70) := hX
  show J X (0, 0) 0 [(0, .ref (ad 264)), (1, .int x1)] [] (fl ad m)
  refine J_aload_n hX dX4_collectOpen_0 rfl 0 rfl ?_
  refine J_iconst (v := (0 : Int32)) hX dX4_collectOpen_1 (by decide) ?_
  refine J_callV hX km_X4_weight kl_RX4_98 dX4_collectOpen_2 ka_264 (by decide) [.int (0 : Int32)] ⟨Nat.le_of_ble_eq_true rfl, Nat.le_of_ble_eq_true rfl⟩ rfl rfl (Nat.le_of_ble_eq_true rfl) (c_X4_weight (0 : Int32) m) (fun v w2 hk => ?_)
  obtain ⟨rfl, rfl⟩ := hk
  show J X (0, 0) 5 [(0, .ref (ad 264)), (1, .int x1)] [.int (v_X4_weight (0 : Int32) m)] (fl ad m)
  refine J_if_ne (tgt := 9) hX dX4_collectOpen_5 (by decide) (fun c1 => ?_) (fun c1 => ?_)
  · replace h := Eq.mp (if_neg c1) h
    refine J_iconst (v := (0 : Int32)) hX dX4_collectOpen_9 (by decide) ?_
    refine J_istore_n (lv2 := [(2, .int (0 : Int32)), (0, .ref (ad 264)), (1, .int x1)]) hX dX4_collectOpen_10 rfl (Nat.le_of_ble_eq_true rfl) rfl ?_
    refine J_sub [1, 2, 0] rfl (t_X4_collectOpen_l11 hX hR x1 FU (0 : Int32) m h)
  · replace h := Eq.mp (if_pos c1) h
    exact J_vret hX hR dX4_collectOpen_8 ⟨_, rfl, rfl, h⟩
set_option maxRecDepth 100000 in
theorem tb_X3_isAllFolds_l24 {X : XT} {ad : Nat → Nat} {K : Int32 → Mm → Prop} (hX : Cx X cX3_isAllFolds 6 RX3 (rmN 1 22)) (hR : Rx X (some .boolean) (kI ad K) (0, 0)) {rec : Int32 → Int32 → Mm → Prop} {k71 : Int32 → Mm → Prop} (a0 : Nat) (h0 : kap a0 = 3) (x1 : Int32) (x2 : Int32) (a3 : Nat) (h3 : kap a3 = 7) (hrec : ∀ (x4 : Int32) (x5 : Int32) (m : Mm), rec x4 x5 m → J X (0, 0) 24 [(0, .ref (ad a0)), (1, .int x1), (2, .int x2), (3, .ref (ad a3)), (4, .int x4), (5, .int x5)] [] (fl ad m)) (hk71 : ∀ (z4 : Int32) (m : Mm), k71 z4 m → J X (0, 0) 71 [(2, .int x2), (3, .ref (ad a3)), (4, .int z4)] [] (fl ad m)) (x4 : Int32) (x5 : Int32) (m : Mm) (h : wb_X3_isAllFolds_l24 rec k71 K a0 x1 x2 a3 x4 x5 m) : J X (0, 0) 24 [(0, .ref (ad a0)), (1, .int x1), (2, .int x2), (3, .ref (ad a3)), (4, .int x4), (5, .int x5)] [] (fl ad m) := by
  unfold wb_X3_isAllFolds_l24 at h
  refine J_iload hX dX3_isAllFolds_24 5 rfl ?_
  refine J_aload_n hX dX3_isAllFolds_26 rfl 0 rfl ?_
  refine J_getI hX kf_RX3_25 dX3_isAllFolds_27 h0 (by decide) rfl ?_
  refine J_icmp_ge (tgt := 71) hX dX3_isAllFolds_30 (by decide) (fun c3 => ?_) (fun c3 => ?_)
  · replace h := Eq.mp (if_pos c3) h
    exact J_sub [2, 3, 4] rfl (hk71 x4 m h)
  · replace h := Eq.mp (if_neg c3) h
    refine J_iload hX dX3_isAllFolds_33 4 rfl ?_
    refine J_aload_n hX dX3_isAllFolds_35 rfl 0 rfl ?_
    refine J_iload hX dX3_isAllFolds_36 5 rfl ?_
    refine J_callV hX km_X3_panelAt kl_RX3_39 dX3_isAllFolds_38 h0 (by decide) [.int x5] ⟨Nat.le_of_ble_eq_true rfl, Nat.le_of_ble_eq_true rfl⟩ rfl rfl (Nat.le_of_ble_eq_true rfl) (c_X3_panelAt a0 h0 x5 m) (fun v w2 hk => ?_)
    obtain ⟨rfl, rfl⟩ := hk
    show J X (0, 0) 41 [(0, .ref (ad a0)), (1, .int x1), (2, .int x2), (3, .ref (ad a3)), (4, .int x4), (5, .int x5)] [.ref (ad (v_X3_panelAt a0 x5)), .int x4] (fl ad m)
    refine J_iload_n hX dX3_isAllFolds_41 rfl 1 rfl ?_
    refine J_iload_n hX dX3_isAllFolds_42 rfl 2 rfl ?_
    refine J_callV hX km_X7_hangsOn kl_RX3_154 dX3_isAllFolds_43 (kv_X3_panelAt h0) (by decide) [.int x1, .int x2] ⟨Nat.le_of_ble_eq_true rfl, Nat.le_of_ble_eq_true rfl⟩ rfl rfl (Nat.le_of_ble_eq_true rfl) (c_X7_hangsOn (v_X3_panelAt a0 x5) (kv_X3_panelAt h0) x1 x2 m) (fun v w2 hk => ?_)
    obtain ⟨rfl, rfl⟩ := hk
    show J X (0, 0) 46 [(0, .ref (ad a0)), (1, .int x1), (2, .int x2), (3, .ref (ad a3)), (4, .int x4), (5, .int x5)] [.int (v_X7_hangsOn (v_X3_panelAt a0 x5) x1 x2 m), .int x4] (fl ad m)
    have hj7 : ∀ y5 : Int32, y5 = (if (v_X7_hangsOn (v_X3_panelAt a0 x5) x1 x2 m) = (0 : Int32) then (0 : Int32) else (m.1 (v_X3_panelAt a0 x5) 3)) → J X (0, 0) 62 [(0, .ref (ad a0)), (1, .int x1), (2, .int x2), (3, .ref (ad a3)), (5, .int x5)] [.int y5, .int x4] (fl ad m) := by
      intro y5 e_y5
      replace h := h y5 e_y5
      refine J_iadd hX dX3_isAllFolds_62 ?_
      refine J_nmI (fun y6 e_y6 => ?_)
      replace h := h y6 e_y6
      refine J_istore (lv2 := [(4, .int y6), (0, .ref (ad a0)), (1, .int x1), (2, .int x2), (3, .ref (ad a3)), (5, .int x5)]) hX dX3_isAllFolds_63 (Nat.le_of_ble_eq_true rfl) rfl ?_
      refine J_iinc (x := (x5 + (1 : Int32))) (lv2 := [(5, .int (x5 + (1 : Int32))), (4, .int y6), (0, .ref (ad a0)), (1, .int x1), (2, .int x2), (3, .ref (ad a3))]) hX dX3_isAllFolds_65 5 rfl rfl (Nat.le_of_ble_eq_true rfl) rfl ?_
      refine J_goto (tgt := 24) hX dX3_isAllFolds_68 (by decide) ?_
      exact J_sub [2, 3, 4, 5, 1, 0] rfl (hrec y6 (x5 + (1 : Int32)) m h)
    refine J_if_eq (tgt := 61) hX dX3_isAllFolds_46 (by decide) (fun c4 => ?_) (fun c4 => ?_)
    · refine J_iconst (v := (0 : Int32)) hX dX3_isAllFolds_61 (by decide) ?_
      exact J_sub [0, 1, 2, 3, 5] rfl (hj7 _ (if_pos c4).symm)
    · refine J_aload_n hX dX3_isAllFolds_49 rfl 0 rfl ?_
      refine J_iload hX dX3_isAllFolds_50 5 rfl ?_
      refine J_callV hX km_X3_panelAt kl_RX3_39 dX3_isAllFolds_52 h0 (by decide) [.int x5] ⟨Nat.le_of_ble_eq_true rfl, Nat.le_of_ble_eq_true rfl⟩ rfl rfl (Nat.le_of_ble_eq_true rfl) (c_X3_panelAt a0 h0 x5 m) (fun v w2 hk => ?_)
      obtain ⟨rfl, rfl⟩ := hk
      show J X (0, 0) 55 [(0, .ref (ad a0)), (1, .int x1), (2, .int x2), (3, .ref (ad a3)), (4, .int x4), (5, .int x5)] [.ref (ad (v_X3_panelAt a0 x5)), .int x4] (fl ad m)
      refine J_getI hX kf_RX3_94 dX3_isAllFolds_55 (kv_X3_panelAt h0) (by decide) rfl ?_
      refine J_goto (tgt := 62) hX dX3_isAllFolds_58 (by decide) ?_
      exact J_sub [0, 1, 2, 3, 5] rfl (hj7 _ (if_neg c4).symm)
set_option maxRecDepth 100000 in
theorem t_X3_isAllFolds_l24 {X : XT} {ad : Nat → Nat} {K : Int32 → Mm → Prop} (hX : Cx X cX3_isAllFolds 6 RX3 (rmN 1 22)) (hR : Rx X (some .boolean) (kI ad K) (0, 0)) {k71 : Int32 → Mm → Prop} (a0 : Nat) (h0 : kap a0 = 3) (x1 : Int32) (x2 : Int32) (a3 : Nat) (h3 : kap a3 = 7) (hk71 : ∀ (z4 : Int32) (m : Mm), k71 z4 m → J X (0, 0) 71 [(2, .int x2), (3, .ref (ad a3)), (4, .int z4)] [] (fl ad m)) : ∀ (n : Nat) (x4 : Int32) (x5 : Int32) (m : Mm), wp_X3_isAllFolds_l24 k71 K a0 x1 x2 a3 n x4 x5 m → J X (0, 0) 24 [(0, .ref (ad a0)), (1, .int x1), (2, .int x2), (3, .ref (ad a3)), (4, .int x4), (5, .int x5)] [] (fl ad m) := by
  intro n
  induction n with
  | zero => intro x4 x5 m h; exact h.elim
  | succ n ih => intro x4 x5 m h; exact tb_X3_isAllFolds_l24 hX hR a0 h0 x1 x2 a3 h3 ih hk71 x4 x5 m h
set_option maxRecDepth 100000 in
theorem c_X3_isAllFolds {G : GT} {ad : Nat → Nat} (a0 : Nat) (h0 : kap a0 = 3) (x1 : Int32) (x2 : Int32) (m : Mm) (K : Int32 → Mm → Prop) (h : wp_X3_isAllFolds a0 x1 x2 m K) : Cn G yX3_isAllFolds cX3_isAllFolds 6 (some .boolean) (rmN 1 22) [.ref (ad a0), .int x1, .int x2] (0, 0) (fl ad m) (kI ad K) := by
  unfold wp_X3_isAllFolds at h
  refine Cn.of pn_RX3 (Nat.le_of_ble_eq_true rfl) (fun X hG hX hR => ?_)
  subst hG
  have hX : Cx X cX3_isAllFolds 6 RX3 (rmN 1 22) := hX
  show J X (0, 0) 0 [(0, .ref (ad a0)), (1, .int x1), (2, .int x2)] [] (fl ad m)
  refine J_aload_n hX dX3_isAllFolds_0 rfl 0 rfl ?_
  refine J_iload_n hX dX3_isAllFolds_1 rfl 1 rfl ?_
  refine J_callV hX km_X3_panelAt kl_RX3_39 dX3_isAllFolds_2 h0 (by decide) [.int x1] ⟨Nat.le_of_ble_eq_true rfl, Nat.le_of_ble_eq_true rfl⟩ rfl rfl (Nat.le_of_ble_eq_true rfl) (c_X3_panelAt a0 h0 x1 m) (fun v w2 hk => ?_)
  obtain ⟨rfl, rfl⟩ := hk
  show J X (0, 0) 5 [(0, .ref (ad a0)), (1, .int x1), (2, .int x2)] [.ref (ad (v_X3_panelAt a0 x1))] (fl ad m)
  refine J_astore_n (lv2 := [(3, .ref (ad (v_X3_panelAt a0 x1))), (0, .ref (ad a0)), (1, .int x1), (2, .int x2)]) hX dX3_isAllFolds_5 rfl (Nat.le_of_ble_eq_true rfl) rfl ?_
  refine J_aload_n hX dX3_isAllFolds_6 rfl 0 rfl ?_
  refine J_callV hX km_X7_nearSide kl_RX3_150 dX3_isAllFolds_7 (kv_X3_panelAt h0) (by decide) [] ⟨Nat.le_of_ble_eq_true rfl, Nat.le_of_ble_eq_true rfl⟩ rfl rfl (Nat.le_of_ble_eq_true rfl) (c_X7_nearSide (v_X3_panelAt a0 x1) (kv_X3_panelAt h0) m) (fun v w2 hk => ?_)
  obtain ⟨rfl, rfl⟩ := hk
  show J X (0, 0) 10 [(3, .ref (ad (v_X3_panelAt a0 x1))), (0, .ref (ad a0)), (1, .int x1), (2, .int x2)] [.int (v_X7_nearSide (v_X3_panelAt a0 x1) m)] (fl ad m)
  refine J_iload_n hX dX3_isAllFolds_10 rfl 3 rfl ?_
  refine J_icmp_ne (tgt := 16) hX dX3_isAllFolds_11 (by decide) (fun c1 => ?_) (fun c1 => ?_)
  · replace h := Eq.mp (if_neg c1) h
    refine J_iconst (v := (0 : Int32)) hX dX3_isAllFolds_16 (by decide) ?_
    refine J_istore (lv2 := [(4, .int (0 : Int32)), (3, .ref (ad (v_X3_panelAt a0 x1))), (0, .ref (ad a0)), (1, .int x1), (2, .int x2)]) hX dX3_isAllFolds_17 (Nat.le_of_ble_eq_true rfl) rfl ?_
    refine J_iload_n hX dX3_isAllFolds_19 rfl 3 rfl ?_
    refine J_iconst (v := (1 : Int32)) hX dX3_isAllFolds_20 (by decide) ?_
    refine J_iadd hX dX3_isAllFolds_21 ?_
    refine J_nmI (fun y2 e_y2 => ?_)
    replace h := h y2 e_y2
    refine J_istore (lv2 := [(5, .int y2), (4, .int (0 : Int32)), (3, .ref (ad (v_X3_panelAt a0 x1))), (0, .ref (ad a0)), (1, .int x1), (2, .int x2)]) hX dX3_isAllFolds_22 (Nat.le_of_ble_eq_true rfl) rfl ?_
    refine J_sub [3, 4, 5, 2, 1, 0] rfl (t_X3_isAllFolds_l24 hX hR a0 h0 x1 x2 (v_X3_panelAt a0 x1) (kv_X3_panelAt h0) (fun y8 m9 h => ?_) FU (0 : Int32) y2 m h)
    refine J_iload hX dX3_isAllFolds_71 2 rfl ?_
    refine J_aload_n hX dX3_isAllFolds_73 rfl 1 rfl ?_
    refine J_iload_n hX dX3_isAllFolds_74 rfl 0 rfl ?_
    refine J_callV hX km_X7_sideLength kl_RX3_104 dX3_isAllFolds_75 (kv_X3_panelAt h0) (by decide) [.int x2] ⟨Nat.le_of_ble_eq_true rfl, Nat.le_of_ble_eq_true rfl⟩ rfl rfl (Nat.le_of_ble_eq_true rfl) (c_X7_sideLength (v_X3_panelAt a0 x1) (kv_X3_panelAt h0) x2 m9) (fun v w2 hk => ?_)
    obtain ⟨rfl, rfl⟩ := hk
    show J X (0, 0) 78 [(2, .int x2), (3, .ref (ad (v_X3_panelAt a0 x1))), (4, .int y8)] [.int (v_X7_sideLength (v_X3_panelAt a0 x1) x2 m9), .int y8] (fl ad m9)
    have hj12 : ∀ y11 : Int32, y11 = (if y8 < (v_X7_sideLength (v_X3_panelAt a0 x1) x2 m9) then (0 : Int32) else (1 : Int32)) → J X (0, 0) 86 [] [.int y11] (fl ad m9) := by
      intro y11 e_y11
      replace h := h y11 e_y11
      exact J_zret hX hR dX3_isAllFolds_86 (by rw [e_y11]; exact (bo_ite bo_0 bo_1)) ⟨_, _, rfl, rfl, h⟩
    refine J_icmp_lt (tgt := 85) hX dX3_isAllFolds_78 (by decide) (fun c10 => ?_) (fun c10 => ?_)
    · refine J_iconst (v := (0 : Int32)) hX dX3_isAllFolds_85 (by decide) ?_
      exact J_sub [] rfl (hj12 _ (if_pos c10).symm)
    · refine J_iconst (v := (1 : Int32)) hX dX3_isAllFolds_81 (by decide) ?_
      refine J_goto (tgt := 86) hX dX3_isAllFolds_82 (by decide) ?_
      exact J_sub [] rfl (hj12 _ (if_neg c10).symm)
  · replace h := Eq.mp (if_pos c1) h
    refine J_iconst (v := (1 : Int32)) hX dX3_isAllFolds_14 (by decide) ?_
    exact J_zret hX hR dX3_isAllFolds_15 bo_1 ⟨_, _, rfl, rfl, h⟩
set_option maxRecDepth 100000 in
theorem c_X4_beyondSheet {G : GT} {ad : Nat → Nat} (a0 : Nat) (h0 : kap a0 = 3) (a1 : Nat) (h1 : kap a1 = 7) (x2 : Int32) (x3 : Int32) (m : Mm) : Cn G yX4_beyondSheet cX4_beyondSheet 4 (some .int) (rmN 0 0) [.ref (ad a0), .ref (ad a1), .int x2, .int x3] (0, 0) (fl ad m) (fun v w => v = some (.int (v_X4_beyondSheet a0 a1 x2 x3 m)) ∧ w = fl ad m) := by
  refine Cn.of pn_RX4 (Nat.le_of_ble_eq_true rfl) (fun X hG hX hR => ?_)
  subst hG
  have hX : Cx X cX4_beyondSheet 4 RX4 (rmN 0 0) := hX
  show J X (0, 0) 0 [(0, .ref (ad a0)), (1, .ref (ad a1)), (2, .int x2), (3, .int x3)] [] (fl ad m)
  refine J_iload_n hX dX4_beyondSheet_0 rfl 2 rfl ?_
  by_cases c1 : x2 = (0 : Int32)
  · refine J_tabIn (v := (0 : Int32)) (tgt := 28) hX dX4_beyondSheet_1 c1 (by decide) (by decide) rfl (by decide) ?_
    refine J_iload_n hX dX4_beyondSheet_28 rfl 3 rfl ?_
    refine J_aload_n hX dX4_beyondSheet_29 rfl 1 rfl ?_
    refine J_getI hX kf_RX4_175 dX4_beyondSheet_30 h1 (by decide) rfl ?_
    refine J_isub hX dX4_beyondSheet_33 ?_
    exact J_iret hX hR dX4_beyondSheet_34 (And.intro (congrArg (fun z => some (Value.int z)) (show (x3 - (m.1 a1 12)) = v_X4_beyondSheet a0 a1 x2 x3 m from (if_pos c1).symm)) rfl)
  · by_cases c2 : x2 = (1 : Int32)
    · refine J_tabIn (v := (1 : Int32)) (tgt := 35) hX dX4_beyondSheet_1 c2 (by decide) (by decide) rfl (by decide) ?_
      refine J_aload_n hX dX4_beyondSheet_35 rfl 1 rfl ?_
      refine J_getI hX kf_RX4_178 dX4_beyondSheet_36 h1 (by decide) rfl ?_
      refine J_aload_n hX dX4_beyondSheet_39 rfl 1 rfl ?_
      refine J_getI hX kf_RX4_144 dX4_beyondSheet_40 h1 (by decide) rfl ?_
      refine J_iadd hX dX4_beyondSheet_43 ?_
      refine J_iload_n hX dX4_beyondSheet_44 rfl 3 rfl ?_
      refine J_iadd hX dX4_beyondSheet_45 ?_
      refine J_aload_n hX dX4_beyondSheet_46 rfl 0 rfl ?_
      refine J_getI hX kf_RX4_181 dX4_beyondSheet_47 h0 (by decide) rfl ?_
      refine J_isub hX dX4_beyondSheet_50 ?_
      exact J_iret hX hR dX4_beyondSheet_51 (And.intro (congrArg (fun z => some (Value.int z)) (show ((((m.1 a1 11) + (m.1 a1 13)) + x3) - (m.1 a0 2)) = v_X4_beyondSheet a0 a1 x2 x3 m from ((if_neg c1).trans (if_pos c2)).symm)) rfl)
    · by_cases c3 : x2 = (2 : Int32)
      · refine J_tabIn (v := (2 : Int32)) (tgt := 52) hX dX4_beyondSheet_1 c3 (by decide) (by decide) rfl (by decide) ?_
        refine J_aload_n hX dX4_beyondSheet_52 rfl 1 rfl ?_
        refine J_getI hX kf_RX4_175 dX4_beyondSheet_53 h1 (by decide) rfl ?_
        refine J_aload_n hX dX4_beyondSheet_56 rfl 1 rfl ?_
        refine J_getI hX kf_RX4_133 dX4_beyondSheet_57 h1 (by decide) rfl ?_
        refine J_iadd hX dX4_beyondSheet_60 ?_
        refine J_iload_n hX dX4_beyondSheet_61 rfl 3 rfl ?_
        refine J_iadd hX dX4_beyondSheet_62 ?_
        refine J_aload_n hX dX4_beyondSheet_63 rfl 0 rfl ?_
        refine J_getI hX kf_RX4_184 dX4_beyondSheet_64 h0 (by decide) rfl ?_
        refine J_isub hX dX4_beyondSheet_67 ?_
        exact J_iret hX hR dX4_beyondSheet_68 (And.intro (congrArg (fun z => some (Value.int z)) (show ((((m.1 a1 12) + (m.1 a1 14)) + x3) - (m.1 a0 3)) = v_X4_beyondSheet a0 a1 x2 x3 m from ((if_neg c1).trans ((if_neg c2).trans (if_pos c3))).symm)) rfl)
      · refine J_tabOut (tgt := 69) hX dX4_beyondSheet_1 (by have t0 := tne c1 (k := 0) (by decide); have t1 := tne c2 (k := 1) (by decide); have t2 := tne c3 (k := 2) (by decide); omega) (by decide) ?_
        refine J_iload_n hX dX4_beyondSheet_69 rfl 3 rfl ?_
        refine J_aload_n hX dX4_beyondSheet_70 rfl 1 rfl ?_
        refine J_getI hX kf_RX4_178 dX4_beyondSheet_71 h1 (by decide) rfl ?_
        refine J_isub hX dX4_beyondSheet_74 ?_
        exact J_iret hX hR dX4_beyondSheet_75 (And.intro (congrArg (fun z => some (Value.int z)) (show (x3 - (m.1 a1 11)) = v_X4_beyondSheet a0 a1 x2 x3 m from ((if_neg c1).trans ((if_neg c2).trans (if_neg c3))).symm)) rfl)
set_option maxRecDepth 100000 in
theorem c_X7_lowOn {G : GT} {ad : Nat → Nat} (a0 : Nat) (h0 : kap a0 = 7) (x1 : Int32) (m : Mm) : Cn G yX7_lowOn cX7_lowOn 2 (some .int) (rmN 0 0) [.ref (ad a0), .int x1] (0, 0) (fl ad m) (fun v w => v = some (.int (v_X7_lowOn a0 x1 m)) ∧ w = fl ad m) := by
  refine Cn.of pn_RX7 (Nat.le_of_ble_eq_true rfl) (fun X hG hX hR => ?_)
  subst hG
  have hX : Cx X cX7_lowOn 2 RX7 (rmN 0 0) := hX
  show J X (0, 0) 0 [(0, .ref (ad a0)), (1, .int x1)] [] (fl ad m)
  refine J_iload_n hX dX7_lowOn_0 rfl 1 rfl ?_
  have hj2 : ∀ y3 : Int32, y3 = (if x1 = (0 : Int32) then (m.1 a0 11) else (m.1 a0 12)) → J X (0, 0) 15 [] [.int y3] (fl ad m) := by
    intro y3 e_y3
    subst e_y3
    exact J_iret hX hR dX7_lowOn_15 (And.intro (congrArg (fun z => some (Value.int z)) (show (if x1 = (0 : Int32) then (m.1 a0 11) else (m.1 a0 12)) = v_X7_lowOn a0 x1 m from rfl)) rfl)
  refine J_if_ne (tgt := 11) hX dX7_lowOn_1 (by decide) (fun c1 => ?_) (fun c1 => ?_)
  · refine J_aload_n hX dX7_lowOn_11 rfl 0 rfl ?_
    refine J_getI hX kf_RX7_48 dX7_lowOn_12 h0 (by decide) rfl ?_
    exact J_sub [] rfl (hj2 _ (if_neg c1).symm)
  · refine J_aload_n hX dX7_lowOn_4 rfl 0 rfl ?_
    refine J_getI hX kf_RX7_45 dX7_lowOn_5 h0 (by decide) rfl ?_
    refine J_goto (tgt := 15) hX dX7_lowOn_8 (by decide) ?_
    exact J_sub [] rfl (hj2 _ (if_pos c1).symm)
set_option maxRecDepth 100000 in
theorem c_X7_highOn {G : GT} {ad : Nat → Nat} (a0 : Nat) (h0 : kap a0 = 7) (x1 : Int32) (m : Mm) : Cn G yX7_highOn cX7_highOn 2 (some .int) (rmN 0 0) [.ref (ad a0), .int x1] (0, 0) (fl ad m) (fun v w => v = some (.int (v_X7_highOn a0 x1 m)) ∧ w = fl ad m) := by
  refine Cn.of pn_RX7 (Nat.le_of_ble_eq_true rfl) (fun X hG hX hR => ?_)
  subst hG
  have hX : Cx X cX7_highOn 2 RX7 (rmN 0 0) := hX
  show J X (0, 0) 0 [(0, .ref (ad a0)), (1, .int x1)] [] (fl ad m)
  refine J_iload_n hX dX7_highOn_0 rfl 1 rfl ?_
  have hj2 : ∀ y3 : Int32, y3 = (if x1 = (0 : Int32) then ((m.1 a0 11) + (m.1 a0 13)) else ((m.1 a0 12) + (m.1 a0 14))) → J X (0, 0) 25 [] [.int y3] (fl ad m) := by
    intro y3 e_y3
    subst e_y3
    exact J_iret hX hR dX7_highOn_25 (And.intro (congrArg (fun z => some (Value.int z)) (show (if x1 = (0 : Int32) then ((m.1 a0 11) + (m.1 a0 13)) else ((m.1 a0 12) + (m.1 a0 14))) = v_X7_highOn a0 x1 m from rfl)) rfl)
  refine J_if_ne (tgt := 16) hX dX7_highOn_1 (by decide) (fun c1 => ?_) (fun c1 => ?_)
  · refine J_aload_n hX dX7_highOn_16 rfl 0 rfl ?_
    refine J_getI hX kf_RX7_48 dX7_highOn_17 h0 (by decide) rfl ?_
    refine J_aload_n hX dX7_highOn_20 rfl 0 rfl ?_
    refine J_getI hX kf_RX7_54 dX7_highOn_21 h0 (by decide) rfl ?_
    refine J_iadd hX dX7_highOn_24 ?_
    exact J_sub [] rfl (hj2 _ (if_neg c1).symm)
  · refine J_aload_n hX dX7_highOn_4 rfl 0 rfl ?_
    refine J_getI hX kf_RX7_45 dX7_highOn_5 h0 (by decide) rfl ?_
    refine J_aload_n hX dX7_highOn_8 rfl 0 rfl ?_
    refine J_getI hX kf_RX7_51 dX7_highOn_9 h0 (by decide) rfl ?_
    refine J_iadd hX dX7_highOn_12 ?_
    refine J_goto (tgt := 25) hX dX7_highOn_13 (by decide) ?_
    exact J_sub [] rfl (hj2 _ (if_pos c1).symm)
set_option maxRecDepth 100000 in
theorem c_X11_common {G : GT} {ad : Nat → Nat} (x0 : Int32) (x1 : Int32) (x2 : Int32) (x3 : Int32) (m : Mm) : Cn G yX11_common cX11_common 4 (some .int) (rmN 1 21) [.int x0, .int x1, .int x2, .int x3] (0, 0) (fl ad m) (fun v w => v = some (.int (v_X11_common x0 x1 x2 x3)) ∧ w = fl ad m) := by
  refine Cn.of pn_RX11 (Nat.le_of_ble_eq_true rfl) (fun X hG hX hR => ?_)
  subst hG
  have hX : Cx X cX11_common 4 RX11 (rmN 1 21) := hX
  show J X (0, 0) 0 [(0, .int x0), (1, .int x1), (2, .int x2), (3, .int x3)] [] (fl ad m)
  refine J_iload_n hX dX11_common_0 rfl 1 rfl ?_
  refine J_iload_n hX dX11_common_1 rfl 3 rfl ?_
  refine J_mmin hX kl_RX11_377 dX11_common_2 (Nat.le_of_ble_eq_true rfl) (Nat.le_of_ble_eq_true rfl) ⟨Nat.le_of_ble_eq_true rfl, Nat.le_of_ble_eq_true rfl⟩ ?_
  refine J_iload_n hX dX11_common_5 rfl 0 rfl ?_
  refine J_iload_n hX dX11_common_6 rfl 2 rfl ?_
  refine J_mmax hX kl_RX11_380 dX11_common_7 (Nat.le_of_ble_eq_true rfl) (Nat.le_of_ble_eq_true rfl) ⟨Nat.le_of_ble_eq_true rfl, Nat.le_of_ble_eq_true rfl⟩ ?_
  refine J_isub hX dX11_common_10 ?_
  exact J_iret hX hR dX11_common_11 (And.intro (congrArg (fun z => some (Value.int z)) (show ((mn32 x1 x3) - (mx32 x0 x2)) = v_X11_common x0 x1 x2 x3 from rfl)) rfl)
set_option maxRecDepth 100000 in
theorem tb_X4_collectIntrusions_l150 {X : XT} {ad : Nat → Nat} {K : Mm → Prop} (hX : Cx X cX4_collectIntrusions 18 RX4 (rmN 2 51)) (hR : Rx X none (kV ad K) (0, 0)) {rec : Int32 → Mm → Prop} (a1 : Nat) (h1 : kap a1 = 3) (x2 : Int32) (x3 : Int32) (x4 : Int32) (a5 : Nat) (h5 : kap a5 = 7) (x7 : Int32) (x8 : Int32) (x9 : Int32) (x10 : Int32) (x12 : Int32) (hrec : ∀ (x13 : Int32) (m : Mm), rec x13 m → J X (0, 0) 150 [(0, .ref (ad 264)), (1, .ref (ad a1)), (2, .int x2), (3, .int x3), (4, .int x4), (5, .ref (ad a5)), (7, .int x7), (8, .int x8), (9, .int x9), (10, .int x10), (12, .int x12), (13, .int x13)] [] (fl ad m)) (x13 : Int32) (m : Mm) (h : wb_X4_collectIntrusions_l150 rec K a1 x2 x3 x4 a5 x7 x8 x9 x10 x12 x13 m) : J X (0, 0) 150 [(0, .ref (ad 264)), (1, .ref (ad a1)), (2, .int x2), (3, .int x3), (4, .int x4), (5, .ref (ad a5)), (7, .int x7), (8, .int x8), (9, .int x9), (10, .int x10), (12, .int x12), (13, .int x13)] [] (fl ad m) := by
  unfold wb_X4_collectIntrusions_l150 at h
  refine J_iload hX dX4_collectIntrusions_150 11 rfl ?_
  refine J_aload_n hX dX4_collectIntrusions_152 rfl 1 rfl ?_
  refine J_getI hX kf_RX4_67 dX4_collectIntrusions_153 h1 (by decide) rfl ?_
  refine J_icmp_ge (tgt := 301) hX dX4_collectIntrusions_156 (by decide) (fun c15 => ?_) (fun c15 => ?_)
  · replace h := Eq.mp (if_pos c15) h
    exact J_vret hX hR dX4_collectIntrusions_301 ⟨_, rfl, rfl, h⟩
  · replace h := Eq.mp (if_neg c15) h
    refine J_aload_n hX dX4_collectIntrusions_159 rfl 1 rfl ?_
    refine J_iload hX dX4_collectIntrusions_160 11 rfl ?_
    refine J_callV hX km_X3_panelAt kl_RX4_72 dX4_collectIntrusions_162 h1 (by decide) [.int x13] ⟨Nat.le_of_ble_eq_true rfl, Nat.le_of_ble_eq_true rfl⟩ rfl rfl (Nat.le_of_ble_eq_true rfl) (c_X3_panelAt a1 h1 x13 m) (fun v w2 hk => ?_)
    obtain ⟨rfl, rfl⟩ := hk
    show J X (0, 0) 165 [(0, .ref (ad 264)), (1, .ref (ad a1)), (2, .int x2), (3, .int x3), (4, .int x4), (5, .ref (ad a5)), (7, .int x7), (8, .int x8), (9, .int x9), (10, .int x10), (12, .int x12), (13, .int x13)] [.ref (ad (v_X3_panelAt a1 x13))] (fl ad m)
    refine J_astore (lv2 := [(14, .ref (ad (v_X3_panelAt a1 x13))), (0, .ref (ad 264)), (1, .ref (ad a1)), (2, .int x2), (3, .int x3), (4, .int x4), (5, .ref (ad a5)), (7, .int x7), (8, .int x8), (9, .int x9), (10, .int x10), (12, .int x12), (13, .int x13)]) hX dX4_collectIntrusions_165 (Nat.le_of_ble_eq_true rfl) rfl ?_
    refine J_aload hX dX4_collectIntrusions_167 0 rfl ?_
    refine J_iload_n hX dX4_collectIntrusions_169 rfl 3 rfl ?_
    refine J_iload_n hX dX4_collectIntrusions_170 rfl 4 rfl ?_
    refine J_callV hX km_X7_hangsOn kl_RX4_193 dX4_collectIntrusions_171 (kv_X3_panelAt h1) (by decide) [.int x2, .int x3] ⟨Nat.le_of_ble_eq_true rfl, Nat.le_of_ble_eq_true rfl⟩ rfl rfl (Nat.le_of_ble_eq_true rfl) (c_X7_hangsOn (v_X3_panelAt a1 x13) (kv_X3_panelAt h1) x2 x3 m) (fun v w2 hk => ?_)
    obtain ⟨rfl, rfl⟩ := hk
    show J X (0, 0) 174 [(14, .ref (ad (v_X3_panelAt a1 x13))), (0, .ref (ad 264)), (1, .ref (ad a1)), (2, .int x2), (3, .int x3), (4, .int x4), (5, .ref (ad a5)), (7, .int x7), (8, .int x8), (9, .int x9), (10, .int x10), (12, .int x12), (13, .int x13)] [.int (v_X7_hangsOn (v_X3_panelAt a1 x13) x2 x3 m)] (fl ad m)
    have hj26 : ∀ y19 : Int32, y19 = (if (v_X7_hangsOn (v_X3_panelAt a1 x13) x2 x3 m) = (0 : Int32) then (if (m.1 a5 0) = x13 then (if (v_X7_nearSide a5 m) = x3 then (1 : Int32) else (0 : Int32)) else (0 : Int32)) else (1 : Int32)) → J X (0, 0) 201 [(0, .ref (ad 264)), (1, .ref (ad a1)), (2, .int x2), (3, .int x3), (4, .int x4), (5, .ref (ad a5)), (7, .int x7), (8, .int x8), (9, .int x9), (10, .int x10), (12, .int x12), (13, .int x13), (14, .ref (ad (v_X3_panelAt a1 x13)))] [.int y19] (fl ad m) := by
      intro y19 e_y19
      replace h := h y19 e_y19
      refine J_istore (lv2 := [(15, .int y19), (0, .ref (ad 264)), (1, .ref (ad a1)), (2, .int x2), (3, .int x3), (4, .int x4), (5, .ref (ad a5)), (7, .int x7), (8, .int x8), (9, .int x9), (10, .int x10), (12, .int x12), (13, .int x13), (14, .ref (ad (v_X3_panelAt a1 x13)))]) hX dX4_collectIntrusions_201 (Nat.le_of_ble_eq_true rfl) rfl ?_
      refine J_aload hX dX4_collectIntrusions_203 6 rfl ?_
      refine J_iload hX dX4_collectIntrusions_205 7 rfl ?_
      refine J_callV hX km_X7_lowOn kl_RX4_187 dX4_collectIntrusions_207 h5 (by decide) [.int x7] ⟨Nat.le_of_ble_eq_true rfl, Nat.le_of_ble_eq_true rfl⟩ rfl rfl (Nat.le_of_ble_eq_true rfl) (c_X7_lowOn a5 h5 x7 m) (fun v w2 hk => ?_)
      obtain ⟨rfl, rfl⟩ := hk
      show J X (0, 0) 210 [(15, .int y19), (0, .ref (ad 264)), (1, .ref (ad a1)), (2, .int x2), (3, .int x3), (4, .int x4), (5, .ref (ad a5)), (7, .int x7), (8, .int x8), (9, .int x9), (10, .int x10), (12, .int x12), (13, .int x13), (14, .ref (ad (v_X3_panelAt a1 x13)))] [.int (v_X7_lowOn a5 x7 m)] (fl ad m)
      refine J_iload hX dX4_collectIntrusions_210 9 rfl ?_
      refine J_iadd hX dX4_collectIntrusions_212 ?_
      refine J_aload hX dX4_collectIntrusions_213 6 rfl ?_
      refine J_iload hX dX4_collectIntrusions_215 7 rfl ?_
      refine J_callV hX km_X7_lowOn kl_RX4_187 dX4_collectIntrusions_217 h5 (by decide) [.int x7] ⟨Nat.le_of_ble_eq_true rfl, Nat.le_of_ble_eq_true rfl⟩ rfl rfl (Nat.le_of_ble_eq_true rfl) (c_X7_lowOn a5 h5 x7 m) (fun v w2 hk => ?_)
      obtain ⟨rfl, rfl⟩ := hk
      show J X (0, 0) 220 [(15, .int y19), (0, .ref (ad 264)), (1, .ref (ad a1)), (2, .int x2), (3, .int x3), (4, .int x4), (5, .ref (ad a5)), (7, .int x7), (8, .int x8), (9, .int x9), (10, .int x10), (12, .int x12), (13, .int x13), (14, .ref (ad (v_X3_panelAt a1 x13)))] [.int (v_X7_lowOn a5 x7 m), .int ((v_X7_lowOn a5 x7 m) + x9)] (fl ad m)
      refine J_iload hX dX4_collectIntrusions_220 10 rfl ?_
      refine J_iadd hX dX4_collectIntrusions_222 ?_
      refine J_aload hX dX4_collectIntrusions_223 13 rfl ?_
      refine J_iload hX dX4_collectIntrusions_225 7 rfl ?_
      refine J_callV hX km_X7_lowOn kl_RX4_187 dX4_collectIntrusions_227 (kv_X3_panelAt h1) (by decide) [.int x7] ⟨Nat.le_of_ble_eq_true rfl, Nat.le_of_ble_eq_true rfl⟩ rfl rfl (Nat.le_of_ble_eq_true rfl) (c_X7_lowOn (v_X3_panelAt a1 x13) (kv_X3_panelAt h1) x7 m) (fun v w2 hk => ?_)
      obtain ⟨rfl, rfl⟩ := hk
      show J X (0, 0) 230 [(15, .int y19), (0, .ref (ad 264)), (1, .ref (ad a1)), (2, .int x2), (3, .int x3), (4, .int x4), (5, .ref (ad a5)), (7, .int x7), (8, .int x8), (9, .int x9), (10, .int x10), (12, .int x12), (13, .int x13), (14, .ref (ad (v_X3_panelAt a1 x13)))] [.int (v_X7_lowOn (v_X3_panelAt a1 x13) x7 m), .int ((v_X7_lowOn a5 x7 m) + x10), .int ((v_X7_lowOn a5 x7 m) + x9)] (fl ad m)
      refine J_aload hX dX4_collectIntrusions_230 13 rfl ?_
      refine J_iload hX dX4_collectIntrusions_232 7 rfl ?_
      refine J_callV hX km_X7_highOn kl_RX4_190 dX4_collectIntrusions_234 (kv_X3_panelAt h1) (by decide) [.int x7] ⟨Nat.le_of_ble_eq_true rfl, Nat.le_of_ble_eq_true rfl⟩ rfl rfl (Nat.le_of_ble_eq_true rfl) (c_X7_highOn (v_X3_panelAt a1 x13) (kv_X3_panelAt h1) x7 m) (fun v w2 hk => ?_)
      obtain ⟨rfl, rfl⟩ := hk
      show J X (0, 0) 237 [(15, .int y19), (0, .ref (ad 264)), (1, .ref (ad a1)), (2, .int x2), (3, .int x3), (4, .int x4), (5, .ref (ad a5)), (7, .int x7), (8, .int x8), (9, .int x9), (10, .int x10), (12, .int x12), (13, .int x13), (14, .ref (ad (v_X3_panelAt a1 x13)))] [.int (v_X7_highOn (v_X3_panelAt a1 x13) x7 m), .int (v_X7_lowOn (v_X3_panelAt a1 x13) x7 m), .int ((v_X7_lowOn a5 x7 m) + x10), .int ((v_X7_lowOn a5 x7 m) + x9)] (fl ad m)
      refine J_callSN hX km_X11_common kl_RX4_199 dX4_collectIntrusions_237 [.int ((v_X7_lowOn a5 x7 m) + x9), .int ((v_X7_lowOn a5 x7 m) + x10), .int (v_X7_lowOn (v_X3_panelAt a1 x13) x7 m), .int (v_X7_highOn (v_X3_panelAt a1 x13) x7 m)] ⟨Nat.le_of_ble_eq_true rfl, Nat.le_of_ble_eq_true rfl⟩ rfl rfl (Nat.le_of_ble_eq_true rfl) (c_X11_common ((v_X7_lowOn a5 x7 m) + x9) ((v_X7_lowOn a5 x7 m) + x10) (v_X7_lowOn (v_X3_panelAt a1 x13) x7 m) (v_X7_highOn (v_X3_panelAt a1 x13) x7 m) m) (fun v w2 hk => ?_)
      obtain ⟨rfl, rfl⟩ := hk
      show J X (0, 0) 240 [(15, .int y19), (0, .ref (ad 264)), (1, .ref (ad a1)), (2, .int x2), (3, .int x3), (4, .int x4), (5, .ref (ad a5)), (7, .int x7), (8, .int x8), (9, .int x9), (10, .int x10), (12, .int x12), (13, .int x13), (14, .ref (ad (v_X3_panelAt a1 x13)))] [.int (v_X11_common ((v_X7_lowOn a5 x7 m) + x9) ((v_X7_lowOn a5 x7 m) + x10) (v_X7_lowOn (v_X3_panelAt a1 x13) x7 m) (v_X7_highOn (v_X3_panelAt a1 x13) x7 m))] (fl ad m)
      refine J_nmI (fun y20 e_y20 => ?_)
      replace h := h y20 e_y20
      refine J_istore (lv2 := [(16, .int y20), (15, .int y19), (0, .ref (ad 264)), (1, .ref (ad a1)), (2, .int x2), (3, .int x3), (4, .int x4), (5, .ref (ad a5)), (7, .int x7), (8, .int x8), (9, .int x9), (10, .int x10), (12, .int x12), (13, .int x13), (14, .ref (ad (v_X3_panelAt a1 x13)))]) hX dX4_collectIntrusions_240 (Nat.le_of_ble_eq_true rfl) rfl ?_
      refine J_iload hX dX4_collectIntrusions_242 13 rfl ?_
      refine J_iload_n hX dX4_collectIntrusions_244 rfl 4 rfl ?_
      refine J_icmp_eq (tgt := 295) hX dX4_collectIntrusions_245 (by decide) (fun c21 => ?_) (fun c21 => ?_)
      · replace h := Eq.mp (if_pos c21) h
        refine J_iinc (x := (x13 + (1 : Int32))) (lv2 := [(13, .int (x13 + (1 : Int32))), (16, .int y20), (15, .int y19), (0, .ref (ad 264)), (1, .ref (ad a1)), (2, .int x2), (3, .int x3), (4, .int x4), (5, .ref (ad a5)), (7, .int x7), (8, .int x8), (9, .int x9), (10, .int x10), (12, .int x12), (14, .ref (ad (v_X3_panelAt a1 x13)))]) hX dX4_collectIntrusions_295 13 rfl rfl (Nat.le_of_ble_eq_true rfl) rfl ?_
        refine J_goto (tgt := 150) hX dX4_collectIntrusions_298 (by decide) ?_
        exact J_sub [3, 4, 5, 6, 7, 8, 9, 10, 11, 12, 13, 0] rfl (hrec (x13 + (1 : Int32)) m h)
      · replace h := Eq.mp (if_neg c21) h
        refine J_iload hX dX4_collectIntrusions_248 1 rfl ?_
        refine J_if_ne (tgt := 295) hX dX4_collectIntrusions_250 (by decide) (fun c22 => ?_) (fun c22 => ?_)
        · replace h := Eq.mp (if_neg c22) h
          refine J_iinc (x := (x13 + (1 : Int32))) (lv2 := [(13, .int (x13 + (1 : Int32))), (16, .int y20), (15, .int y19), (0, .ref (ad 264)), (1, .ref (ad a1)), (2, .int x2), (3, .int x3), (4, .int x4), (5, .ref (ad a5)), (7, .int x7), (8, .int x8), (9, .int x9), (10, .int x10), (12, .int x12), (14, .ref (ad (v_X3_panelAt a1 x13)))]) hX dX4_collectIntrusions_295 13 rfl rfl (Nat.le_of_ble_eq_true rfl) rfl ?_
          refine J_goto (tgt := 150) hX dX4_collectIntrusions_298 (by decide) ?_
          exact J_sub [3, 4, 5, 6, 7, 8, 9, 10, 11, 12, 13, 0] rfl (hrec (x13 + (1 : Int32)) m h)
        · replace h := Eq.mp (if_pos c22) h
          refine J_iload hX dX4_collectIntrusions_253 0 rfl ?_
          refine J_if_le (tgt := 295) hX dX4_collectIntrusions_255 (by decide) (fun c23 => ?_) (fun c23 => ?_)
          · replace h := Eq.mp (if_pos c23) h
            refine J_iinc (x := (x13 + (1 : Int32))) (lv2 := [(13, .int (x13 + (1 : Int32))), (16, .int y20), (15, .int y19), (0, .ref (ad 264)), (1, .ref (ad a1)), (2, .int x2), (3, .int x3), (4, .int x4), (5, .ref (ad a5)), (7, .int x7), (8, .int x8), (9, .int x9), (10, .int x10), (12, .int x12), (14, .ref (ad (v_X3_panelAt a1 x13)))]) hX dX4_collectIntrusions_295 13 rfl rfl (Nat.le_of_ble_eq_true rfl) rfl ?_
            refine J_goto (tgt := 150) hX dX4_collectIntrusions_298 (by decide) ?_
            exact J_sub [3, 4, 5, 6, 7, 8, 9, 10, 11, 12, 13, 0] rfl (hrec (x13 + (1 : Int32)) m h)
          · replace h := Eq.mp (if_neg c23) h
            refine J_iload hX dX4_collectIntrusions_258 12 rfl ?_
            refine J_iload hX dX4_collectIntrusions_260 12 rfl ?_
            refine J_iload hX dX4_collectIntrusions_262 6 rfl ?_
            refine J_iadd hX dX4_collectIntrusions_264 ?_
            refine J_aload hX dX4_collectIntrusions_265 14 rfl ?_
            refine J_iload hX dX4_collectIntrusions_267 9 rfl ?_
            refine J_callV hX km_X7_lowOn kl_RX4_187 dX4_collectIntrusions_269 (kv_X3_panelAt h1) (by decide) [.int x8] ⟨Nat.le_of_ble_eq_true rfl, Nat.le_of_ble_eq_true rfl⟩ rfl rfl (Nat.le_of_ble_eq_true rfl) (c_X7_lowOn (v_X3_panelAt a1 x13) (kv_X3_panelAt h1) x8 m) (fun v w2 hk => ?_)
            obtain ⟨rfl, rfl⟩ := hk
            show J X (0, 0) 272 [(16, .int y20), (15, .int y19), (0, .ref (ad 264)), (1, .ref (ad a1)), (2, .int x2), (3, .int x3), (4, .int x4), (5, .ref (ad a5)), (7, .int x7), (8, .int x8), (9, .int x9), (10, .int x10), (12, .int x12), (13, .int x13), (14, .ref (ad (v_X3_panelAt a1 x13)))] [.int (v_X7_lowOn (v_X3_panelAt a1 x13) x8 m), .int (x12 + x4), .int x12] (fl ad m)
            refine J_aload hX dX4_collectIntrusions_272 14 rfl ?_
            refine J_iload hX dX4_collectIntrusions_274 9 rfl ?_
            refine J_callV hX km_X7_highOn kl_RX4_190 dX4_collectIntrusions_276 (kv_X3_panelAt h1) (by decide) [.int x8] ⟨Nat.le_of_ble_eq_true rfl, Nat.le_of_ble_eq_true rfl⟩ rfl rfl (Nat.le_of_ble_eq_true rfl) (c_X7_highOn (v_X3_panelAt a1 x13) (kv_X3_panelAt h1) x8 m) (fun v w2 hk => ?_)
            obtain ⟨rfl, rfl⟩ := hk
            show J X (0, 0) 279 [(16, .int y20), (15, .int y19), (0, .ref (ad 264)), (1, .ref (ad a1)), (2, .int x2), (3, .int x3), (4, .int x4), (5, .ref (ad a5)), (7, .int x7), (8, .int x8), (9, .int x9), (10, .int x10), (12, .int x12), (13, .int x13), (14, .ref (ad (v_X3_panelAt a1 x13)))] [.int (v_X7_highOn (v_X3_panelAt a1 x13) x8 m), .int (v_X7_lowOn (v_X3_panelAt a1 x13) x8 m), .int (x12 + x4), .int x12] (fl ad m)
            refine J_callSN hX km_X11_common kl_RX4_199 dX4_collectIntrusions_279 [.int x12, .int (x12 + x4), .int (v_X7_lowOn (v_X3_panelAt a1 x13) x8 m), .int (v_X7_highOn (v_X3_panelAt a1 x13) x8 m)] ⟨Nat.le_of_ble_eq_true rfl, Nat.le_of_ble_eq_true rfl⟩ rfl rfl (Nat.le_of_ble_eq_true rfl) (c_X11_common x12 (x12 + x4) (v_X7_lowOn (v_X3_panelAt a1 x13) x8 m) (v_X7_highOn (v_X3_panelAt a1 x13) x8 m) m) (fun v w2 hk => ?_)
            obtain ⟨rfl, rfl⟩ := hk
            show J X (0, 0) 282 [(16, .int y20), (15, .int y19), (0, .ref (ad 264)), (1, .ref (ad a1)), (2, .int x2), (3, .int x3), (4, .int x4), (5, .ref (ad a5)), (7, .int x7), (8, .int x8), (9, .int x9), (10, .int x10), (12, .int x12), (13, .int x13), (14, .ref (ad (v_X3_panelAt a1 x13)))] [.int (v_X11_common x12 (x12 + x4) (v_X7_lowOn (v_X3_panelAt a1 x13) x8 m) (v_X7_highOn (v_X3_panelAt a1 x13) x8 m))] (fl ad m)
            refine J_nmI (fun y24 e_y24 => ?_)
            replace h := h y24 e_y24
            refine J_istore (lv2 := [(17, .int y24), (16, .int y20), (15, .int y19), (0, .ref (ad 264)), (1, .ref (ad a1)), (2, .int x2), (3, .int x3), (4, .int x4), (5, .ref (ad a5)), (7, .int x7), (8, .int x8), (9, .int x9), (10, .int x10), (12, .int x12), (13, .int x13), (14, .ref (ad (v_X3_panelAt a1 x13)))]) hX dX4_collectIntrusions_282 (Nat.le_of_ble_eq_true rfl) rfl ?_
            refine J_aload_n hX dX4_collectIntrusions_284 rfl 3 rfl ?_
            refine J_iconst (v := (5 : Int32)) hX dX4_collectIntrusions_285 (by decide) ?_
            refine J_iload_n hX dX4_collectIntrusions_286 rfl 5 rfl ?_
            refine J_iload_n hX dX4_collectIntrusions_287 rfl 6 rfl ?_
            refine J_iload hX dX4_collectIntrusions_288 14 rfl ?_
            refine J_iload hX dX4_collectIntrusions_290 0 rfl ?_
            refine J_callV hX km_X4_add kl_RX4_107 dX4_collectIntrusions_292 ka_264 (by decide) [.int (5 : Int32), .int x2, .int x3, .int x13, .int y24] ⟨Nat.le_of_ble_eq_true rfl, Nat.le_of_ble_eq_true rfl⟩ rfl rfl (Nat.le_of_ble_eq_true rfl) (c_X4_add (5 : Int32) x2 x3 x13 y24 m _ h) (fun v w2 hk => ?_)
            obtain ⟨m25, rfl, rfl, h⟩ := hk
            show J X (0, 0) 295 [(17, .int y24), (16, .int y20), (15, .int y19), (0, .ref (ad 264)), (1, .ref (ad a1)), (2, .int x2), (3, .int x3), (4, .int x4), (5, .ref (ad a5)), (7, .int x7), (8, .int x8), (9, .int x9), (10, .int x10), (12, .int x12), (13, .int x13), (14, .ref (ad (v_X3_panelAt a1 x13)))] [] (fl ad m25)
            refine J_iinc (x := (x13 + (1 : Int32))) (lv2 := [(13, .int (x13 + (1 : Int32))), (17, .int y24), (16, .int y20), (15, .int y19), (0, .ref (ad 264)), (1, .ref (ad a1)), (2, .int x2), (3, .int x3), (4, .int x4), (5, .ref (ad a5)), (7, .int x7), (8, .int x8), (9, .int x9), (10, .int x10), (12, .int x12), (14, .ref (ad (v_X3_panelAt a1 x13)))]) hX dX4_collectIntrusions_295 14 rfl rfl (Nat.le_of_ble_eq_true rfl) rfl ?_
            refine J_goto (tgt := 150) hX dX4_collectIntrusions_298 (by decide) ?_
            exact J_sub [4, 5, 6, 7, 8, 9, 10, 11, 12, 13, 14, 0] rfl (hrec (x13 + (1 : Int32)) m25 h)
    refine J_if_ne (tgt := 196) hX dX4_collectIntrusions_174 (by decide) (fun c16 => ?_) (fun c16 => ?_)
    · refine J_iconst (v := (1 : Int32)) hX dX4_collectIntrusions_196 (by decide) ?_
      refine J_goto (tgt := 201) hX dX4_collectIntrusions_197 (by decide) ?_
      exact J_sub [1, 2, 3, 4, 5, 6, 7, 8, 9, 10, 11, 12, 0] rfl (hj26 _ (if_neg c16).symm)
    · refine J_aload hX dX4_collectIntrusions_177 6 rfl ?_
      refine J_getI hX kf_RX4_196 dX4_collectIntrusions_179 h5 (by decide) rfl ?_
      refine J_iload hX dX4_collectIntrusions_182 12 rfl ?_
      refine J_icmp_ne (tgt := 200) hX dX4_collectIntrusions_184 (by decide) (fun c17 => ?_) (fun c17 => ?_)
      · refine J_iconst (v := (0 : Int32)) hX dX4_collectIntrusions_200 (by decide) ?_
        exact J_sub [1, 2, 3, 4, 5, 6, 7, 8, 9, 10, 11, 12, 0] rfl (hj26 _ ((if_pos c16).trans (if_neg c17)).symm)
      · refine J_aload hX dX4_collectIntrusions_187 6 rfl ?_
        refine J_callV hX km_X7_nearSide kl_RX4_129 dX4_collectIntrusions_189 h5 (by decide) [] ⟨Nat.le_of_ble_eq_true rfl, Nat.le_of_ble_eq_true rfl⟩ rfl rfl (Nat.le_of_ble_eq_true rfl) (c_X7_nearSide a5 h5 m) (fun v w2 hk => ?_)
        obtain ⟨rfl, rfl⟩ := hk
        show J X (0, 0) 192 [(14, .ref (ad (v_X3_panelAt a1 x13))), (0, .ref (ad 264)), (1, .ref (ad a1)), (2, .int x2), (3, .int x3), (4, .int x4), (5, .ref (ad a5)), (7, .int x7), (8, .int x8), (9, .int x9), (10, .int x10), (12, .int x12), (13, .int x13)] [.int (v_X7_nearSide a5 m)] (fl ad m)
        refine J_iload_n hX dX4_collectIntrusions_192 rfl 4 rfl ?_
        refine J_icmp_ne (tgt := 200) hX dX4_collectIntrusions_193 (by decide) (fun c18 => ?_) (fun c18 => ?_)
        · refine J_iconst (v := (0 : Int32)) hX dX4_collectIntrusions_200 (by decide) ?_
          exact J_sub [1, 2, 3, 4, 5, 6, 7, 8, 9, 10, 11, 12, 0] rfl (hj26 _ ((if_pos c16).trans ((if_pos c17).trans (if_neg c18))).symm)
        · refine J_iconst (v := (1 : Int32)) hX dX4_collectIntrusions_196 (by decide) ?_
          refine J_goto (tgt := 201) hX dX4_collectIntrusions_197 (by decide) ?_
          exact J_sub [1, 2, 3, 4, 5, 6, 7, 8, 9, 10, 11, 12, 0] rfl (hj26 _ ((if_pos c16).trans ((if_pos c17).trans (if_pos c18))).symm)
set_option maxRecDepth 100000 in
theorem t_X4_collectIntrusions_l150 {X : XT} {ad : Nat → Nat} {K : Mm → Prop} (hX : Cx X cX4_collectIntrusions 18 RX4 (rmN 2 51)) (hR : Rx X none (kV ad K) (0, 0)) (a1 : Nat) (h1 : kap a1 = 3) (x2 : Int32) (x3 : Int32) (x4 : Int32) (a5 : Nat) (h5 : kap a5 = 7) (x7 : Int32) (x8 : Int32) (x9 : Int32) (x10 : Int32) (x12 : Int32) : ∀ (n : Nat) (x13 : Int32) (m : Mm), wp_X4_collectIntrusions_l150 K a1 x2 x3 x4 a5 x7 x8 x9 x10 x12 n x13 m → J X (0, 0) 150 [(0, .ref (ad 264)), (1, .ref (ad a1)), (2, .int x2), (3, .int x3), (4, .int x4), (5, .ref (ad a5)), (7, .int x7), (8, .int x8), (9, .int x9), (10, .int x10), (12, .int x12), (13, .int x13)] [] (fl ad m) := by
  intro n
  induction n with
  | zero => intro x13 m h; exact h.elim
  | succ n ih => intro x13 m h; exact tb_X4_collectIntrusions_l150 hX hR a1 h1 x2 x3 x4 a5 h5 x7 x8 x9 x10 x12 ih x13 m h
set_option maxRecDepth 100000 in
theorem c_X4_collectIntrusions {G : GT} {ad : Nat → Nat} (a1 : Nat) (h1 : kap a1 = 3) (x2 : Int32) (x3 : Int32) (x4 : Int32) (m : Mm) (K : Mm → Prop) (h : wp_X4_collectIntrusions a1 x2 x3 x4 m K) : Cn G yX4_collectIntrusions cX4_collectIntrusions 18 none (rmN 2 51) [.ref (ad 264), .ref (ad a1), .int x2, .int x3, .int x4] (0, 0) (fl ad m) (kV ad K) := by
  unfold wp_X4_collectIntrusions at h
  refine Cn.of pn_RX4 (Nat.le_of_ble_eq_true rfl) (fun X hG hX hR => ?_)
  subst hG
  have hX : Cx X cX4_collectIntrusions 18 RX4 (rmN 2 51) := hX
  show J X (0, 0) 0 [(0, .ref (ad 264)), (1, .ref (ad a1)), (2, .int x2), (3, .int x3), (4, .int x4)] [] (fl ad m)
  refine J_aload_n hX dX4_collectIntrusions_0 rfl 1 rfl ?_
  refine J_iload_n hX dX4_collectIntrusions_1 rfl 2 rfl ?_
  refine J_callV hX km_X3_panelAt kl_RX4_72 dX4_collectIntrusions_2 h1 (by decide) [.int x2] ⟨Nat.le_of_ble_eq_true rfl, Nat.le_of_ble_eq_true rfl⟩ rfl rfl (Nat.le_of_ble_eq_true rfl) (c_X3_panelAt a1 h1 x2 m) (fun v w2 hk => ?_)
  obtain ⟨rfl, rfl⟩ := hk
  show J X (0, 0) 5 [(0, .ref (ad 264)), (1, .ref (ad a1)), (2, .int x2), (3, .int x3), (4, .int x4)] [.ref (ad (v_X3_panelAt a1 x2))] (fl ad m)
  refine J_astore (lv2 := [(5, .ref (ad (v_X3_panelAt a1 x2))), (0, .ref (ad 264)), (1, .ref (ad a1)), (2, .int x2), (3, .int x3), (4, .int x4)]) hX dX4_collectIntrusions_5 (Nat.le_of_ble_eq_true rfl) rfl ?_
  refine J_iload_n hX dX4_collectIntrusions_7 rfl 4 rfl ?_
  refine J_iconst (v := (1 : Int32)) hX dX4_collectIntrusions_8 (by decide) ?_
  refine J_iand hX dX4_collectIntrusions_9 ?_
  have hj32 : ∀ y2 : Int32, y2 = (if (x3 &&& (1 : Int32)) = (0 : Int32) then (1 : Int32) else (0 : Int32)) → J X (0, 0) 18 [(0, .ref (ad 264)), (1, .ref (ad a1)), (2, .int x2), (3, .int x3), (4, .int x4), (5, .ref (ad (v_X3_panelAt a1 x2)))] [.int y2] (fl ad m) := by
    intro y2 e_y2
    replace h := h y2 e_y2
    refine J_istore (lv2 := [(6, .int y2), (0, .ref (ad 264)), (1, .ref (ad a1)), (2, .int x2), (3, .int x3), (4, .int x4), (5, .ref (ad (v_X3_panelAt a1 x2)))]) hX dX4_collectIntrusions_18 (Nat.le_of_ble_eq_true rfl) rfl ?_
    refine J_iload hX dX4_collectIntrusions_20 0 rfl ?_
    have hj31 : ∀ y4 : Int32, y4 = (if y2 = (0 : Int32) then (1 : Int32) else (0 : Int32)) → J X (0, 0) 30 [(0, .ref (ad 264)), (1, .ref (ad a1)), (2, .int x2), (3, .int x3), (4, .int x4), (5, .ref (ad (v_X3_panelAt a1 x2))), (6, .int y2)] [.int y4] (fl ad m) := by
      intro y4 e_y4
      replace h := h y4 e_y4
      refine J_istore (lv2 := [(7, .int y4), (0, .ref (ad 264)), (1, .ref (ad a1)), (2, .int x2), (3, .int x3), (4, .int x4), (5, .ref (ad (v_X3_panelAt a1 x2))), (6, .int y2)]) hX dX4_collectIntrusions_30 (Nat.le_of_ble_eq_true rfl) rfl ?_
      refine J_iconst (v := (1 : Int32)) hX dX4_collectIntrusions_32 (by decide) ?_
      refine J_iload hX dX4_collectIntrusions_33 0 rfl ?_
      refine J_isub hX dX4_collectIntrusions_35 ?_
      refine J_nmI (fun y5 e_y5 => ?_)
      replace h := h y5 e_y5
      refine J_istore (lv2 := [(8, .int y5), (7, .int y4), (0, .ref (ad 264)), (1, .ref (ad a1)), (2, .int x2), (3, .int x3), (4, .int x4), (5, .ref (ad (v_X3_panelAt a1 x2))), (6, .int y2)]) hX dX4_collectIntrusions_36 (Nat.le_of_ble_eq_true rfl) rfl ?_
      refine J_iload hX dX4_collectIntrusions_38 8 rfl ?_
      have hj30 : ∀ y7 : Int32, y7 = (if y2 = (0 : Int32) then (mx32 (0 : Int32) (m.1 (v_X3_panelAt a1 x2) 10)) else (mx32 (0 : Int32) (m.1 (v_X3_panelAt a1 x2) 9))) → J X (0, 0) 64 [(0, .ref (ad 264)), (1, .ref (ad a1)), (2, .int x2), (3, .int x3), (4, .int x4), (5, .ref (ad (v_X3_panelAt a1 x2))), (6, .int y2), (7, .int y4), (8, .int y5)] [.int y7] (fl ad m) := by
        intro y7 e_y7
        replace h := h y7 e_y7
        refine J_istore (lv2 := [(9, .int y7), (0, .ref (ad 264)), (1, .ref (ad a1)), (2, .int x2), (3, .int x3), (4, .int x4), (5, .ref (ad (v_X3_panelAt a1 x2))), (6, .int y2), (7, .int y4), (8, .int y5)]) hX dX4_collectIntrusions_64 (Nat.le_of_ble_eq_true rfl) rfl ?_
        refine J_iload hX dX4_collectIntrusions_66 7 rfl ?_
        have hj29 : ∀ y9 : Int32, y9 = (if y2 = (0 : Int32) then (mn32 (m.1 (v_X3_panelAt a1 x2) 14) (v_X0_upperEnd a1 (v_X3_panelAt a1 x2) m)) else (mn32 (m.1 (v_X3_panelAt a1 x2) 13) (v_X0_rightEnd a1 (v_X3_panelAt a1 x2) m))) → J X (0, 0) 102 [(0, .ref (ad 264)), (1, .ref (ad a1)), (2, .int x2), (3, .int x3), (4, .int x4), (5, .ref (ad (v_X3_panelAt a1 x2))), (7, .int y4), (8, .int y5), (9, .int y7)] [.int y9] (fl ad m) := by
          intro y9 e_y9
          replace h := h y9 e_y9
          refine J_istore (lv2 := [(10, .int y9), (0, .ref (ad 264)), (1, .ref (ad a1)), (2, .int x2), (3, .int x3), (4, .int x4), (5, .ref (ad (v_X3_panelAt a1 x2))), (7, .int y4), (8, .int y5), (9, .int y7)]) hX dX4_collectIntrusions_102 (Nat.le_of_ble_eq_true rfl) rfl ?_
          refine J_iload_n hX dX4_collectIntrusions_104 rfl 4 rfl ?_
          have hj28 : ∀ y12 : Int32, y12 = (if x3 = (0 : Int32) then (1 : Int32) else (if x3 = (3 : Int32) then (1 : Int32) else (0 : Int32))) → J X (0, 0) 118 [(0, .ref (ad 264)), (1, .ref (ad a1)), (2, .int x2), (3, .int x3), (4, .int x4), (5, .ref (ad (v_X3_panelAt a1 x2))), (7, .int y4), (8, .int y5), (9, .int y7), (10, .int y9)] [.int y12] (fl ad m) := by
            intro y12 e_y12
            replace h := h y12 e_y12
            refine J_istore (lv2 := [(11, .int y12), (0, .ref (ad 264)), (1, .ref (ad a1)), (2, .int x2), (3, .int x3), (4, .int x4), (5, .ref (ad (v_X3_panelAt a1 x2))), (7, .int y4), (8, .int y5), (9, .int y7), (10, .int y9)]) hX dX4_collectIntrusions_118 (Nat.le_of_ble_eq_true rfl) rfl ?_
            refine J_iload hX dX4_collectIntrusions_120 0 rfl ?_
            have hj27 : ∀ y14 : Int32, y14 = (if y12 = (0 : Int32) then (v_X7_highOn (v_X3_panelAt a1 x2) y5 m) else ((v_X7_lowOn (v_X3_panelAt a1 x2) y5 m) - x4)) → J X (0, 0) 145 [(0, .ref (ad 264)), (1, .ref (ad a1)), (2, .int x2), (3, .int x3), (4, .int x4), (5, .ref (ad (v_X3_panelAt a1 x2))), (7, .int y4), (8, .int y5), (9, .int y7), (10, .int y9)] [.int y14] (fl ad m) := by
              intro y14 e_y14
              replace h := h y14 e_y14
              refine J_istore (lv2 := [(12, .int y14), (0, .ref (ad 264)), (1, .ref (ad a1)), (2, .int x2), (3, .int x3), (4, .int x4), (5, .ref (ad (v_X3_panelAt a1 x2))), (7, .int y4), (8, .int y5), (9, .int y7), (10, .int y9)]) hX dX4_collectIntrusions_145 (Nat.le_of_ble_eq_true rfl) rfl ?_
              refine J_iconst (v := (0 : Int32)) hX dX4_collectIntrusions_147 (by decide) ?_
              refine J_istore (lv2 := [(13, .int (0 : Int32)), (12, .int y14), (0, .ref (ad 264)), (1, .ref (ad a1)), (2, .int x2), (3, .int x3), (4, .int x4), (5, .ref (ad (v_X3_panelAt a1 x2))), (7, .int y4), (8, .int y5), (9, .int y7), (10, .int y9)]) hX dX4_collectIntrusions_148 (Nat.le_of_ble_eq_true rfl) rfl ?_
              refine J_sub [2, 3, 4, 5, 6, 7, 8, 9, 10, 11, 1, 0] rfl (t_X4_collectIntrusions_l150 hX hR a1 h1 x2 x3 x4 (v_X3_panelAt a1 x2) (kv_X3_panelAt h1) y4 y5 y7 y9 y14 FU (0 : Int32) m h)
            refine J_if_eq (tgt := 138) hX dX4_collectIntrusions_122 (by decide) (fun c13 => ?_) (fun c13 => ?_)
            · refine J_aload hX dX4_collectIntrusions_138 6 rfl ?_
              refine J_iload hX dX4_collectIntrusions_140 8 rfl ?_
              refine J_callV hX km_X7_highOn kl_RX4_190 dX4_collectIntrusions_142 (kv_X3_panelAt h1) (by decide) [.int y5] ⟨Nat.le_of_ble_eq_true rfl, Nat.le_of_ble_eq_true rfl⟩ rfl rfl (Nat.le_of_ble_eq_true rfl) (c_X7_highOn (v_X3_panelAt a1 x2) (kv_X3_panelAt h1) y5 m) (fun v w2 hk => ?_)
              obtain ⟨rfl, rfl⟩ := hk
              show J X (0, 0) 145 [(11, .int y12), (0, .ref (ad 264)), (1, .ref (ad a1)), (2, .int x2), (3, .int x3), (4, .int x4), (5, .ref (ad (v_X3_panelAt a1 x2))), (7, .int y4), (8, .int y5), (9, .int y7), (10, .int y9)] [.int (v_X7_highOn (v_X3_panelAt a1 x2) y5 m)] (fl ad m)
              exact J_sub [1, 2, 3, 4, 5, 6, 7, 8, 9, 10] rfl (hj27 _ (if_pos c13).symm)
            · refine J_aload hX dX4_collectIntrusions_125 6 rfl ?_
              refine J_iload hX dX4_collectIntrusions_127 8 rfl ?_
              refine J_callV hX km_X7_lowOn kl_RX4_187 dX4_collectIntrusions_129 (kv_X3_panelAt h1) (by decide) [.int y5] ⟨Nat.le_of_ble_eq_true rfl, Nat.le_of_ble_eq_true rfl⟩ rfl rfl (Nat.le_of_ble_eq_true rfl) (c_X7_lowOn (v_X3_panelAt a1 x2) (kv_X3_panelAt h1) y5 m) (fun v w2 hk => ?_)
              obtain ⟨rfl, rfl⟩ := hk
              show J X (0, 0) 132 [(11, .int y12), (0, .ref (ad 264)), (1, .ref (ad a1)), (2, .int x2), (3, .int x3), (4, .int x4), (5, .ref (ad (v_X3_panelAt a1 x2))), (7, .int y4), (8, .int y5), (9, .int y7), (10, .int y9)] [.int (v_X7_lowOn (v_X3_panelAt a1 x2) y5 m)] (fl ad m)
              refine J_iload hX dX4_collectIntrusions_132 5 rfl ?_
              refine J_isub hX dX4_collectIntrusions_134 ?_
              refine J_goto (tgt := 145) hX dX4_collectIntrusions_135 (by decide) ?_
              exact J_sub [1, 2, 3, 4, 5, 6, 7, 8, 9, 10] rfl (hj27 _ (if_neg c13).symm)
          refine J_if_eq (tgt := 113) hX dX4_collectIntrusions_105 (by decide) (fun c10 => ?_) (fun c10 => ?_)
          · refine J_iconst (v := (1 : Int32)) hX dX4_collectIntrusions_113 (by decide) ?_
            refine J_goto (tgt := 118) hX dX4_collectIntrusions_114 (by decide) ?_
            exact J_sub [1, 2, 3, 4, 5, 6, 7, 8, 9, 0] rfl (hj28 _ (if_pos c10).symm)
          · refine J_iload_n hX dX4_collectIntrusions_108 rfl 4 rfl ?_
            refine J_iconst (v := (3 : Int32)) hX dX4_collectIntrusions_109 (by decide) ?_
            refine J_icmp_ne (tgt := 117) hX dX4_collectIntrusions_110 (by decide) (fun c11 => ?_) (fun c11 => ?_)
            · refine J_iconst (v := (0 : Int32)) hX dX4_collectIntrusions_117 (by decide) ?_
              exact J_sub [1, 2, 3, 4, 5, 6, 7, 8, 9, 0] rfl (hj28 _ ((if_neg c10).trans (if_neg c11)).symm)
            · refine J_iconst (v := (1 : Int32)) hX dX4_collectIntrusions_113 (by decide) ?_
              refine J_goto (tgt := 118) hX dX4_collectIntrusions_114 (by decide) ?_
              exact J_sub [1, 2, 3, 4, 5, 6, 7, 8, 9, 0] rfl (hj28 _ ((if_neg c10).trans (if_pos c11)).symm)
        refine J_if_eq (tgt := 88) hX dX4_collectIntrusions_68 (by decide) (fun c8 => ?_) (fun c8 => ?_)
        · refine J_aload hX dX4_collectIntrusions_88 6 rfl ?_
          refine J_getI hX kf_RX4_133 dX4_collectIntrusions_90 (kv_X3_panelAt h1) (by decide) rfl ?_
          refine J_aload_n hX dX4_collectIntrusions_93 rfl 2 rfl ?_
          refine J_aload hX dX4_collectIntrusions_94 6 rfl ?_
          refine J_callS hX km_X0_upperEnd kl_RX4_136 dX4_collectIntrusions_96 [.ref (ad a1), .ref (ad (v_X3_panelAt a1 x2))] ⟨Nat.le_of_ble_eq_true rfl, Nat.le_of_ble_eq_true rfl⟩ rfl rfl (Nat.le_of_ble_eq_true rfl) (c_X0_upperEnd a1 h1 (v_X3_panelAt a1 x2) (kv_X3_panelAt h1) m) (fun v w2 hk => ?_)
          obtain ⟨rfl, rfl⟩ := hk
          show J X (0, 0) 99 [(9, .int y7), (0, .ref (ad 264)), (1, .ref (ad a1)), (2, .int x2), (3, .int x3), (4, .int x4), (5, .ref (ad (v_X3_panelAt a1 x2))), (6, .int y2), (7, .int y4), (8, .int y5)] [.int (v_X0_upperEnd a1 (v_X3_panelAt a1 x2) m), .int (m.1 (v_X3_panelAt a1 x2) 14)] (fl ad m)
          refine J_mmin hX kl_RX4_139 dX4_collectIntrusions_99 (Nat.le_of_ble_eq_true rfl) (Nat.le_of_ble_eq_true rfl) ⟨Nat.le_of_ble_eq_true rfl, Nat.le_of_ble_eq_true rfl⟩ ?_
          exact J_sub [1, 2, 3, 4, 5, 6, 8, 9, 0] rfl (hj29 _ (if_pos c8).symm)
        · refine J_aload hX dX4_collectIntrusions_71 6 rfl ?_
          refine J_getI hX kf_RX4_144 dX4_collectIntrusions_73 (kv_X3_panelAt h1) (by decide) rfl ?_
          refine J_aload_n hX dX4_collectIntrusions_76 rfl 2 rfl ?_
          refine J_aload hX dX4_collectIntrusions_77 6 rfl ?_
          refine J_callS hX km_X0_rightEnd kl_RX4_156 dX4_collectIntrusions_79 [.ref (ad a1), .ref (ad (v_X3_panelAt a1 x2))] ⟨Nat.le_of_ble_eq_true rfl, Nat.le_of_ble_eq_true rfl⟩ rfl rfl (Nat.le_of_ble_eq_true rfl) (c_X0_rightEnd a1 h1 (v_X3_panelAt a1 x2) (kv_X3_panelAt h1) m) (fun v w2 hk => ?_)
          obtain ⟨rfl, rfl⟩ := hk
          show J X (0, 0) 82 [(9, .int y7), (0, .ref (ad 264)), (1, .ref (ad a1)), (2, .int x2), (3, .int x3), (4, .int x4), (5, .ref (ad (v_X3_panelAt a1 x2))), (6, .int y2), (7, .int y4), (8, .int y5)] [.int (v_X0_rightEnd a1 (v_X3_panelAt a1 x2) m), .int (m.1 (v_X3_panelAt a1 x2) 13)] (fl ad m)
          refine J_mmin hX kl_RX4_139 dX4_collectIntrusions_82 (Nat.le_of_ble_eq_true rfl) (Nat.le_of_ble_eq_true rfl) ⟨Nat.le_of_ble_eq_true rfl, Nat.le_of_ble_eq_true rfl⟩ ?_
          refine J_goto (tgt := 102) hX dX4_collectIntrusions_85 (by decide) ?_
          exact J_sub [1, 2, 3, 4, 5, 6, 8, 9, 0] rfl (hj29 _ (if_neg c8).symm)
      refine J_if_eq (tgt := 55) hX dX4_collectIntrusions_40 (by decide) (fun c6 => ?_) (fun c6 => ?_)
      · refine J_iconst (v := (0 : Int32)) hX dX4_collectIntrusions_55 (by decide) ?_
        refine J_aload hX dX4_collectIntrusions_56 7 rfl ?_
        refine J_getI hX kf_RX4_153 dX4_collectIntrusions_58 (kv_X3_panelAt h1) (by decide) rfl ?_
        refine J_mmax hX kl_RX4_150 dX4_collectIntrusions_61 (Nat.le_of_ble_eq_true rfl) (Nat.le_of_ble_eq_true rfl) ⟨Nat.le_of_ble_eq_true rfl, Nat.le_of_ble_eq_true rfl⟩ ?_
        exact J_sub [2, 3, 4, 5, 6, 7, 8, 1, 0] rfl (hj30 _ (if_pos c6).symm)
      · refine J_iconst (v := (0 : Int32)) hX dX4_collectIntrusions_43 (by decide) ?_
        refine J_aload hX dX4_collectIntrusions_44 7 rfl ?_
        refine J_getI hX kf_RX4_147 dX4_collectIntrusions_46 (kv_X3_panelAt h1) (by decide) rfl ?_
        refine J_mmax hX kl_RX4_150 dX4_collectIntrusions_49 (Nat.le_of_ble_eq_true rfl) (Nat.le_of_ble_eq_true rfl) ⟨Nat.le_of_ble_eq_true rfl, Nat.le_of_ble_eq_true rfl⟩ ?_
        refine J_goto (tgt := 64) hX dX4_collectIntrusions_52 (by decide) ?_
        exact J_sub [2, 3, 4, 5, 6, 7, 8, 1, 0] rfl (hj30 _ (if_neg c6).symm)
    refine J_if_eq (tgt := 29) hX dX4_collectIntrusions_22 (by decide) (fun c3 => ?_) (fun c3 => ?_)
    · refine J_iconst (v := (1 : Int32)) hX dX4_collectIntrusions_29 (by decide) ?_
      exact J_sub [1, 2, 3, 4, 5, 6, 0] rfl (hj31 _ (if_pos c3).symm)
    · refine J_iconst (v := (0 : Int32)) hX dX4_collectIntrusions_25 (by decide) ?_
      refine J_goto (tgt := 30) hX dX4_collectIntrusions_26 (by decide) ?_
      exact J_sub [1, 2, 3, 4, 5, 6, 0] rfl (hj31 _ (if_neg c3).symm)
  refine J_if_ne (tgt := 17) hX dX4_collectIntrusions_10 (by decide) (fun c1 => ?_) (fun c1 => ?_)
  · refine J_iconst (v := (0 : Int32)) hX dX4_collectIntrusions_17 (by decide) ?_
    exact J_sub [1, 2, 3, 4, 5, 0] rfl (hj32 _ (if_neg c1).symm)
  · refine J_iconst (v := (1 : Int32)) hX dX4_collectIntrusions_13 (by decide) ?_
    refine J_goto (tgt := 18) hX dX4_collectIntrusions_14 (by decide) ?_
    exact J_sub [1, 2, 3, 4, 5, 0] rfl (hj32 _ (if_pos c1).symm)
