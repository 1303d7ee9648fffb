set_option maxRecDepth 100000 in
theorem c_X3_turnFold {G : GT} {ad : Nat → Nat} (a0 : Nat) (h0 : kap a0 = 3) (x1 : Int32) (x2 : Int32) (m : Mm) (K : Int32 → Mm → Prop) (h : wp_X3_turnFold a0 x1 x2 m K) : Cn G yX3_turnFold cX3_turnFold 5 (some .int) (rmN 1 21) [.ref (ad a0), .int x1, .int x2] (0, 0) (fl ad m) (kI ad K) := by
  unfold wp_X3_turnFold at h
  refine Cn.of pn_RX3 (Nat.le_of_ble_eq_true rfl) (fun X hG hX hR => ?_)
  subst hG
  have hX : Cx X cX3_turnFold 5 RX3 (rmN 1 21) := hX
  show J X (0, 0) 0 [(0, .ref (ad a0)), (1, .int x1), (2, .int x2)] [] (fl ad m)
  refine J_aload_n hX dX3_turnFold_0 rfl 0 rfl ?_
  refine J_iload_n hX dX3_turnFold_1 rfl 1 rfl ?_
  refine J_callV hX km_X3_panelAt kl_RX3_39 dX3_turnFold_2 h0 (by decide) [.int x1] ⟨Nat.le_of_ble_eq_true rfl, Nat.le_of_ble_eq_true rfl⟩ rfl rfl (Nat.le_of_ble_eq_true rfl) (c_X3_panelAt a0 h0 x1 m) (fun v w2 hk => ?_)
  obtain ⟨rfl, rfl⟩ := hk
  show J X (0, 0) 5 [(0, .ref (ad a0)), (1, .int x1), (2, .int x2)] [.ref (ad (v_X3_panelAt a0 x1))] (fl ad m)
  refine J_astore_n (lv2 := [(3, .ref (ad (v_X3_panelAt a0 x1))), (0, .ref (ad a0)), (1, .int x1), (2, .int x2)]) hX dX3_turnFold_5 rfl (Nat.le_of_ble_eq_true rfl) rfl ?_
  refine J_aload_n hX dX3_turnFold_6 rfl 0 rfl ?_
  refine J_getI hX kf_RX3_75 dX3_turnFold_7 (kv_X3_panelAt h0) (by decide) rfl ?_
  refine J_nmI (fun y1 e_y1 => ?_)
  replace h := h y1 e_y1
  refine J_istore (lv2 := [(4, .int y1), (3, .ref (ad (v_X3_panelAt a0 x1))), (0, .ref (ad a0)), (1, .int x1), (2, .int x2)]) hX dX3_turnFold_10 (Nat.le_of_ble_eq_true rfl) rfl ?_
  refine J_aload_n hX dX3_turnFold_12 rfl 1 rfl ?_
  refine J_iload_n hX dX3_turnFold_13 rfl 4 rfl ?_
  refine J_putI hX kf_RX3_75 dX3_turnFold_14 (kv_X3_panelAt h0) (by decide) rfl ?_
  refine J_nmM (fun m2 e_m2 => ?_)
  replace h := h m2 e_m2
  refine J_iload hX dX3_turnFold_17 0 rfl ?_
  exact J_iret hX hR dX3_turnFold_19 ⟨_, _, rfl, rfl, h⟩
set_option maxRecDepth 100000 in
theorem c_X11_setAngle {G : GT} {ad : Nat → Nat} (x1 : Int32) (x2 : Int32) (m : Mm) (K : Int32 → Mm → Prop) (h : wp_X11_setAngle x1 x2 m K) : Cn G yX11_setAngle cX11_setAngle 3 (some .int) (rmN 3 67) [.ref (ad 0), .int x1, .int x2] (0, 0) (fl ad m) (kI ad K) := by
  unfold wp_X11_setAngle at h
  refine Cn.of pn_RX11 (Nat.le_of_ble_eq_true rfl) (fun X hG hX hR => ?_)
  subst hG
  have hX : Cx X cX11_setAngle 3 RX11 (rmN 3 67) := hX
  show J X (0, 0) 0 [(0, .ref (ad 0)), (1, .int x1), (2, .int x2)] [] (fl ad m)
  refine J_aload_n hX dX11_setAngle_0 rfl 0 rfl ?_
  refine J_getR hX kf_RX11_10 dX11_setAngle_1 ka_0 (by decide) rfl rh_0_0 ?_
  refine J_iload_n hX dX11_setAngle_4 rfl 1 rfl ?_
  refine J_callV hX km_X3_hangs kl_RX11_138 dX11_setAngle_5 ka_1 (by decide) [.int x1] ⟨Nat.le_of_ble_eq_true rfl, Nat.le_of_ble_eq_true rfl⟩ rfl rfl (Nat.le_of_ble_eq_true rfl) (c_X3_hangs 1 ka_1 x1 m) (fun v w2 hk => ?_)
  obtain ⟨rfl, rfl⟩ := hk
  show J X (0, 0) 8 [(0, .ref (ad 0)), (1, .int x1), (2, .int x2)] [.int (v_X3_hangs 1 x1 m)] (fl ad m)
  refine J_if_eq (tgt := 18) hX dX11_setAngle_8 (by decide) (fun c1 => ?_) (fun c1 => ?_)
  · replace h := Eq.mp (if_pos c1) h
    refine J_iconst (v := (-1 : Int32)) hX dX11_setAngle_18 (by decide) ?_
    exact J_iret hX hR dX11_setAngle_19 ⟨_, _, rfl, rfl, h⟩
  · replace h := Eq.mp (if_neg c1) h
    refine J_iload_n hX dX11_setAngle_11 rfl 2 rfl ?_
    refine J_callS hX km_X11_isAngle kl_RX11_142 dX11_setAngle_12 [.int x2] ⟨Nat.le_of_ble_eq_true rfl, Nat.le_of_ble_eq_true rfl⟩ rfl rfl (Nat.le_of_ble_eq_true rfl) (c_X11_isAngle x2 m) (fun v w2 hk => ?_)
    obtain ⟨rfl, rfl⟩ := hk
    show J X (0, 0) 15 [(0, .ref (ad 0)), (1, .int x1), (2, .int x2)] [.int (v_X11_isAngle x2)] (fl ad m)
    refine J_if_ne (tgt := 20) hX dX11_setAngle_15 (by decide) (fun c2 => ?_) (fun c2 => ?_)
    · replace h := Eq.mp (if_neg c2) h
      refine J_aload_n hX dX11_setAngle_20 rfl 0 rfl ?_
      refine J_getR hX kf_RX11_30 dX11_setAngle_21 ka_0 (by decide) rfl rh_0_4 ?_
      refine J_aload_n hX dX11_setAngle_24 rfl 0 rfl ?_
      refine J_getR hX kf_RX11_10 dX11_setAngle_25 ka_0 (by decide) rfl rh_0_0 ?_
      refine J_aload_n hX dX11_setAngle_28 rfl 0 rfl ?_
      refine J_getR hX kf_RX11_77 dX11_setAngle_29 ka_0 (by decide) rfl rh_0_12 ?_
      refine J_aload_n hX dX11_setAngle_32 rfl 0 rfl ?_
      refine J_getR hX kf_RX11_81 dX11_setAngle_33 ka_0 (by decide) rfl rh_0_13 ?_
      refine J_callV hX km_X6_remember kl_RX11_110 dX11_setAngle_36 ka_33 (by decide) [.ref (ad 1), .ref (ad 265), .ref (ad 266)] ⟨Nat.le_of_ble_eq_true rfl, Nat.le_of_ble_eq_true rfl⟩ rfl rfl (Nat.le_of_ble_eq_true rfl) (c_X6_remember 1 ka_1 m _ h) (fun v w2 hk => ?_)
      obtain ⟨m3, rfl, rfl, h⟩ := hk
      show J X (0, 0) 39 [(0, .ref (ad 0)), (1, .int x1), (2, .int x2)] [] (fl ad m3)
      refine J_aload_n hX dX11_setAngle_39 rfl 0 rfl ?_
      refine J_getR hX kf_RX11_10 dX11_setAngle_40 ka_0 (by decide) rfl rh_0_0 ?_
      refine J_iload_n hX dX11_setAngle_43 rfl 1 rfl ?_
      refine J_iload_n hX dX11_setAngle_44 rfl 2 rfl ?_
      refine J_callV hX km_X3_turnFold kl_RX11_145 dX11_setAngle_45 ka_1 (by decide) [.int x1, .int x2] ⟨Nat.le_of_ble_eq_true rfl, Nat.le_of_ble_eq_true rfl⟩ rfl rfl (Nat.le_of_ble_eq_true rfl) (c_X3_turnFold 1 ka_1 x1 x2 m3 _ h) (fun v w2 hk => ?_)
      obtain ⟨y5, m4, rfl, rfl, h⟩ := hk
      show J X (0, 0) 48 [(0, .ref (ad 0)), (1, .int x1), (2, .int x2)] [.int y5] (fl ad m4)
      exact J_iret hX hR dX11_setAngle_48 ⟨_, _, rfl, rfl, h⟩
    · replace h := Eq.mp (if_pos c2) h
      refine J_iconst (v := (-1 : Int32)) hX dX11_setAngle_18 (by decide) ?_
      exact J_iret hX hR dX11_setAngle_19 ⟨_, _, rfl, rfl, h⟩
set_option maxRecDepth 100000 in
theorem c_X11_setBase {G : GT} {ad : Nat → Nat} (x1 : Int32) (x2 : Int32) (x3 : Int32) (x4 : Int32) (m : Mm) (K : Int32 → Mm → Prop) (h : wp_X11_setBase x1 x2 x3 x4 m K) : Cn G yX11_setBase cX11_setBase 6 (some .int) (rmN 3 67) [.ref (ad 0), .int x1, .int x2, .int x3, .int x4] (0, 0) (fl ad m) (kI ad K) := by
  unfold wp_X11_setBase at h
  refine Cn.of pn_RX11 (Nat.le_of_ble_eq_true rfl) (fun X hG hX hR => ?_)
  subst hG
  have hX : Cx X cX11_setBase 6 RX11 (rmN 3 67) := hX
  show J X (0, 0) 0 [(0, .ref (ad 0)), (1, .int x1), (2, .int x2), (3, .int x3), (4, .int x4)] [] (fl ad m)
  refine J_aload_n hX dX11_setBase_0 rfl 0 rfl ?_
  refine J_getR hX kf_RX11_10 dX11_setBase_1 ka_0 (by decide) rfl rh_0_0 ?_
  refine J_iload_n hX dX11_setBase_4 rfl 1 rfl ?_
  refine J_iload_n hX dX11_setBase_5 rfl 2 rfl ?_
  refine J_iload_n hX dX11_setBase_6 rfl 3 rfl ?_
  refine J_iload hX dX11_setBase_7 4 rfl ?_
  refine J_callV hX km_X3_baseFault kl_RX11_117 dX11_setBase_9 ka_1 (by decide) [.int x1, .int x2, .int x3, .int x4] ⟨Nat.le_of_ble_eq_true rfl, Nat.le_of_ble_eq_true rfl⟩ rfl rfl (Nat.le_of_ble_eq_true rfl) (c_X3_baseFault 1 ka_1 x1 x2 x3 x4 m) (fun v w2 hk => ?_)
  obtain ⟨rfl, rfl⟩ := hk
  show J X (0, 0) 12 [(0, .ref (ad 0)), (1, .int x1), (2, .int x2), (3, .int x3), (4, .int x4)] [.int (v_X3_baseFault 1 x1 x2 x3 x4 m)] (fl ad m)
  refine J_nmI (fun y1 e_y1 => ?_)
  replace h := h y1 e_y1
  refine J_istore (lv2 := [(5, .int y1), (0, .ref (ad 0)), (1, .int x1), (2, .int x2), (3, .int x3), (4, .int x4)]) hX dX11_setBase_12 (Nat.le_of_ble_eq_true rfl) rfl ?_
  refine J_iload hX dX11_setBase_14 0 rfl ?_
  refine J_if_eq (tgt := 22) hX dX11_setBase_16 (by decide) (fun c2 => ?_) (fun c2 => ?_)
  · replace h := Eq.mp (if_pos c2) h
    refine J_aload_n hX dX11_setBase_22 rfl 1 rfl ?_
    refine J_getR hX kf_RX11_30 dX11_setBase_23 ka_0 (by decide) rfl rh_0_4 ?_
    refine J_aload_n hX dX11_setBase_26 rfl 1 rfl ?_
    refine J_getR hX kf_RX11_10 dX11_setBase_27 ka_0 (by decide) rfl rh_0_0 ?_
    refine J_aload_n hX dX11_setBase_30 rfl 1 rfl ?_
    refine J_getR hX kf_RX11_77 dX11_setBase_31 ka_0 (by decide) rfl rh_0_12 ?_
    refine J_aload_n hX dX11_setBase_34 rfl 1 rfl ?_
    refine J_getR hX kf_RX11_81 dX11_setBase_35 ka_0 (by decide) rfl rh_0_13 ?_
    refine J_callV hX km_X6_remember kl_RX11_110 dX11_setBase_38 ka_33 (by decide) [.ref (ad 1), .ref (ad 265), .ref (ad 266)] ⟨Nat.le_of_ble_eq_true rfl, Nat.le_of_ble_eq_true rfl⟩ rfl rfl (Nat.le_of_ble_eq_true rfl) (c_X6_remember 1 ka_1 m _ h) (fun v w2 hk => ?_)
    obtain ⟨m3, rfl, rfl, h⟩ := hk
    show J X (0, 0) 41 [(5, .int y1), (0, .ref (ad 0)), (1, .int x1), (2, .int x2), (3, .int x3), (4, .int x4)] [] (fl ad m3)
    refine J_aload_n hX dX11_setBase_41 rfl 1 rfl ?_
    refine J_getR hX kf_RX11_10 dX11_setBase_42 ka_0 (by decide) rfl rh_0_0 ?_
    refine J_iload_n hX dX11_setBase_45 rfl 2 rfl ?_
    refine J_iload_n hX dX11_setBase_46 rfl 3 rfl ?_
    refine J_iload_n hX dX11_setBase_47 rfl 4 rfl ?_
    refine J_iload hX dX11_setBase_48 5 rfl ?_
    refine J_callV hX km_X3_startBase kl_RX11_121 dX11_setBase_50 ka_1 (by decide) [.int x1, .int x2, .int x3, .int x4] ⟨Nat.le_of_ble_eq_true rfl, Nat.le_of_ble_eq_true rfl⟩ rfl rfl (Nat.le_of_ble_eq_true rfl) (c_X3_startBase 1 ka_1 x1 x2 x3 x4 m3 _ h) (fun v w2 hk => ?_)
    obtain ⟨y5, m4, rfl, rfl, h⟩ := hk
    show J X (0, 0) 53 [(5, .int y1), (0, .ref (ad 0)), (1, .int x1), (2, .int x2), (3, .int x3), (4, .int x4)] [.int y5] (fl ad m4)
    exact J_iret hX hR dX11_setBase_53 ⟨_, _, rfl, rfl, h⟩
  · replace h := Eq.mp (if_neg c2) h
    refine J_iload hX dX11_setBase_19 0 rfl ?_
    exact J_iret hX hR dX11_setBase_21 ⟨_, _, rfl, rfl, h⟩
set_option maxRecDepth 100000 in
theorem c_X11_setFlap {G : GT} {ad : Nat → Nat} (x1 : Int32) (x2 : Int32) (m : Mm) (K : Int32 → Mm → Prop) (h : wp_X11_setFlap x1 x2 m K) : Cn G yX11_setFlap cX11_setFlap 4 (some .int) (rmN 3 67) [.ref (ad 0), .int x1, .int x2] (0, 0) (fl ad m) (kI ad K) := by
  unfold wp_X11_setFlap at h
  refine Cn.of pn_RX11 (Nat.le_of_ble_eq_true rfl) (fun X hG hX hR => ?_)
  subst hG
  have hX : Cx X cX11_setFlap 4 RX11 (rmN 3 67) := hX
  show J X (0, 0) 0 [(0, .ref (ad 0)), (1, .int x1), (2, .int x2)] [] (fl ad m)
  refine J_aload_n hX dX11_setFlap_0 rfl 0 rfl ?_
  refine J_getR hX kf_RX11_10 dX11_setFlap_1 ka_0 (by decide) rfl rh_0_0 ?_
  refine J_iload_n hX dX11_setFlap_4 rfl 1 rfl ?_
  refine J_iload_n hX dX11_setFlap_5 rfl 2 rfl ?_
  refine J_callV hX km_X3_flapFault kl_RX11_155 dX11_setFlap_6 ka_1 (by decide) [.int x1, .int x2] ⟨Nat.le_of_ble_eq_true rfl, Nat.le_of_ble_eq_true rfl⟩ rfl rfl (Nat.le_of_ble_eq_true rfl) (c_X3_flapFault 1 ka_1 x1 x2 m) (fun v w2 hk => ?_)
  obtain ⟨rfl, rfl⟩ := hk
  show J X (0, 0) 9 [(0, .ref (ad 0)), (1, .int x1), (2, .int x2)] [.int (v_X3_flapFault 1 x1 x2 m)] (fl ad m)
  refine J_nmI (fun y1 e_y1 => ?_)
  replace h := h y1 e_y1
  refine J_istore_n (lv2 := [(3, .int y1), (0, .ref (ad 0)), (1, .int x1), (2, .int x2)]) hX dX11_setFlap_9 rfl (Nat.le_of_ble_eq_true rfl) rfl ?_
  refine J_iload_n hX dX11_setFlap_10 rfl 0 rfl ?_
  refine J_if_eq (tgt := 16) hX dX11_setFlap_11 (by decide) (fun c2 => ?_) (fun c2 => ?_)
  · replace h := Eq.mp (if_pos c2) h
    refine J_aload_n hX dX11_setFlap_16 rfl 1 rfl ?_
    refine J_getR hX kf_RX11_30 dX11_setFlap_17 ka_0 (by decide) rfl rh_0_4 ?_
    refine J_aload_n hX dX11_setFlap_20 rfl 1 rfl ?_
    refine J_getR hX kf_RX11_10 dX11_setFlap_21 ka_0 (by decide) rfl rh_0_0 ?_
    refine J_aload_n hX dX11_setFlap_24 rfl 1 rfl ?_
    refine J_getR hX kf_RX11_77 dX11_setFlap_25 ka_0 (by decide) rfl rh_0_12 ?_
    refine J_aload_n hX dX11_setFlap_28 rfl 1 rfl ?_
    refine J_getR hX kf_RX11_81 dX11_setFlap_29 ka_0 (by decide) rfl rh_0_13 ?_
    refine J_callV hX km_X6_remember kl_RX11_110 dX11_setFlap_32 ka_33 (by decide) [.ref (ad 1), .ref (ad 265), .ref (ad 266)] ⟨Nat.le_of_ble_eq_true rfl, Nat.le_of_ble_eq_true rfl⟩ rfl rfl (Nat.le_of_ble_eq_true rfl) (c_X6_remember 1 ka_1 m _ h) (fun v w2 hk => ?_)
    obtain ⟨m3, rfl, rfl, h⟩ := hk
    show J X (0, 0) 35 [(3, .int y1), (0, .ref (ad 0)), (1, .int x1), (2, .int x2)] [] (fl ad m3)
    refine J_aload_n hX dX11_setFlap_35 rfl 1 rfl ?_
    refine J_getR hX kf_RX11_10 dX11_setFlap_36 ka_0 (by decide) rfl rh_0_0 ?_
    refine J_iload_n hX dX11_setFlap_39 rfl 2 rfl ?_
    refine J_iload_n hX dX11_setFlap_40 rfl 3 rfl ?_
    refine J_callV hX km_X3_changeTarget kl_RX11_158 dX11_setFlap_41 ka_1 (by decide) [.int x1, .int x2] ⟨Nat.le_of_ble_eq_true rfl, Nat.le_of_ble_eq_true rfl⟩ rfl rfl (Nat.le_of_ble_eq_true rfl) (c_X3_changeTarget 1 ka_1 x1 x2 m3 _ h) (fun v w2 hk => ?_)
    obtain ⟨y5, m4, rfl, rfl, h⟩ := hk
    show J X (0, 0) 44 [(3, .int y1), (0, .ref (ad 0)), (1, .int x1), (2, .int x2)] [.int y5] (fl ad m4)
    exact J_iret hX hR dX11_setFlap_44 ⟨_, _, rfl, rfl, h⟩
  · replace h := Eq.mp (if_neg c2) h
    refine J_iload_n hX dX11_setFlap_14 rfl 0 rfl ?_
    exact J_iret hX hR dX11_setFlap_15 ⟨_, _, rfl, rfl, h⟩
set_option maxRecDepth 100000 in
theorem c_X11_setLimit {G : GT} {ad : Nat → Nat} (x1 : Int32) (x2 : Int32) (m : Mm) (K : Int32 → Mm → Prop) (h : wp_X11_setLimit x1 x2 m K) : Cn G yX11_setLimit cX11_setLimit 4 (some .int) (rmN 3 67) [.ref (ad 0), .int x1, .int x2] (0, 0) (fl ad m) (kI ad K) := by
  unfold wp_X11_setLimit at h
  refine Cn.of pn_RX11 (Nat.le_of_ble_eq_true rfl) (fun X hG hX hR => ?_)
  subst hG
  have hX : Cx X cX11_setLimit 4 RX11 (rmN 3 67) := hX
  show J X (0, 0) 0 [(0, .ref (ad 0)), (1, .int x1), (2, .int x2)] [] (fl ad m)
  refine J_iload_n hX dX11_setLimit_0 rfl 1 rfl ?_
  refine J_if_lt (tgt := 13) hX dX11_setLimit_1 (by decide) (fun c1 => ?_) (fun c1 => ?_)
  · replace h := Eq.mp (if_pos c1) h
    refine J_iconst (v := (-1 : Int32)) hX dX11_setLimit_13 (by decide) ?_
    exact J_iret hX hR dX11_setLimit_14 ⟨_, _, rfl, rfl, h⟩
  · replace h := Eq.mp (if_neg c1) h
    refine J_iload_n hX dX11_setLimit_4 rfl 1 rfl ?_
    refine J_iconst (v := (4 : Int32)) hX dX11_setLimit_5 (by decide) ?_
    refine J_icmp_ge (tgt := 13) hX dX11_setLimit_6 (by decide) (fun c2 => ?_) (fun c2 => ?_)
    · replace h := Eq.mp (if_pos c2) h
      refine J_iconst (v := (-1 : Int32)) hX dX11_setLimit_13 (by decide) ?_
      exact J_iret hX hR dX11_setLimit_14 ⟨_, _, rfl, rfl, h⟩
    · replace h := Eq.mp (if_neg c2) h
      refine J_iload_n hX dX11_setLimit_9 rfl 2 rfl ?_
      refine J_if_ge (tgt := 15) hX dX11_setLimit_10 (by decide) (fun c3 => ?_) (fun c3 => ?_)
      · replace h := Eq.mp (if_pos c3) h
        refine J_iload_n hX dX11_setLimit_15 rfl 2 rfl ?_
        refine J_iload_n hX dX11_setLimit_16 rfl 1 rfl ?_
        refine J_iconst (v := (3 : Int32)) hX dX11_setLimit_17 (by decide) ?_
        have hj10 : ∀ y5 : Int32, y5 = (if x1 = (3 : Int32) then (100 : Int32) else (20 : Int32)) → J X (0, 0) 28 [(0, .ref (ad 0)), (1, .int x1), (2, .int x2)] [.int y5, .int x2] (fl ad m) := by
          intro y5 e_y5
          replace h := h y5 e_y5
          refine J_icmp_le (tgt := 33) hX dX11_setLimit_28 (by decide) (fun c6 => ?_) (fun c6 => ?_)
          · replace h := Eq.mp (if_pos c6) h
            refine J_aload_n hX dX11_setLimit_33 rfl 0 rfl ?_
            refine J_getR hX kf_RX11_30 dX11_setLimit_34 ka_0 (by decide) rfl rh_0_4 ?_
            refine J_aload_n hX dX11_setLimit_37 rfl 0 rfl ?_
            refine J_getR hX kf_RX11_10 dX11_setLimit_38 ka_0 (by decide) rfl rh_0_0 ?_
            refine J_aload_n hX dX11_setLimit_41 rfl 0 rfl ?_
            refine J_getR hX kf_RX11_77 dX11_setLimit_42 ka_0 (by decide) rfl rh_0_12 ?_
            refine J_aload_n hX dX11_setLimit_45 rfl 0 rfl ?_
            refine J_getR hX kf_RX11_81 dX11_setLimit_46 ka_0 (by decide) rfl rh_0_13 ?_
            refine J_callV hX km_X6_remember kl_RX11_110 dX11_setLimit_49 ka_33 (by decide) [.ref (ad 1), .ref (ad 265), .ref (ad 266)] ⟨Nat.le_of_ble_eq_true rfl, Nat.le_of_ble_eq_true rfl⟩ rfl rfl (Nat.le_of_ble_eq_true rfl) (c_X6_remember 1 ka_1 m _ h) (fun v w2 hk => ?_)
            obtain ⟨m7, rfl, rfl, h⟩ := hk
            show J X (0, 0) 52 [(0, .ref (ad 0)), (1, .int x1), (2, .int x2)] [] (fl ad m7)
            refine J_aload_n hX dX11_setLimit_52 rfl 0 rfl ?_
            refine J_getR hX kf_RX11_77 dX11_setLimit_53 ka_0 (by decide) rfl rh_0_12 ?_
            refine J_iload_n hX dX11_setLimit_56 rfl 1 rfl ?_
            refine J_iald (j := x1.toNatClampNeg) hX dX11_setLimit_57 ka_265 le_265 (vp_b (lo_2 c1) (up_2 c2 (by decide))) rfl ?_
            refine J_nmI (fun y8 e_y8 => ?_)
            replace h := h y8 e_y8
            refine J_istore_n (lv2 := [(3, .int y8), (0, .ref (ad 0)), (1, .int x1), (2, .int x2)]) hX dX11_setLimit_58 rfl (Nat.le_of_ble_eq_true rfl) rfl ?_
            refine J_aload_n hX dX11_setLimit_59 rfl 1 rfl ?_
            refine J_getR hX kf_RX11_77 dX11_setLimit_60 ka_0 (by decide) rfl rh_0_12 ?_
            refine J_iload_n hX dX11_setLimit_63 rfl 2 rfl ?_
            refine J_iload_n hX dX11_setLimit_64 rfl 3 rfl ?_
            refine J_iast (j := x1.toNatClampNeg) hX dX11_setLimit_65 ka_265 le_265 (vp_b (lo_2 c1) (up_2 c2 (by decide))) rfl ?_
            refine J_nmM (fun m9 e_m9 => ?_)
            replace h := h m9 e_m9
            refine J_iload_n hX dX11_setLimit_66 rfl 0 rfl ?_
            exact J_iret hX hR dX11_setLimit_67 ⟨_, _, rfl, rfl, h⟩
          · replace h := Eq.mp (if_neg c6) h
            refine J_iconst (v := (-1 : Int32)) hX dX11_setLimit_31 (by decide) ?_
            exact J_iret hX hR dX11_setLimit_32 ⟨_, _, rfl, rfl, h⟩
        refine J_icmp_ne (tgt := 26) hX dX11_setLimit_18 (by decide) (fun c4 => ?_) (fun c4 => ?_)
        · refine J_bipush (v := (20 : Int32)) hX dX11_setLimit_26 (by decide) ?_
          exact J_sub [0, 1, 2] rfl (hj10 _ (if_neg c4).symm)
        · refine J_bipush (v := (100 : Int32)) hX dX11_setLimit_21 (by decide) ?_
          refine J_goto (tgt := 28) hX dX11_setLimit_23 (by decide) ?_
          exact J_sub [0, 1, 2] rfl (hj10 _ (if_pos c4).symm)
      · replace h := Eq.mp (if_neg c3) h
        refine J_iconst (v := (-1 : Int32)) hX dX11_setLimit_13 (by decide) ?_
        exact J_iret hX hR dX11_setLimit_14 ⟨_, _, rfl, rfl, h⟩
set_option maxRecDepth 100000 in
theorem c_X11_setSheet {G : GT} {ad : Nat → Nat} (x1 : Int32) (x2 : Int32) (m : Mm) (K : Int32 → Mm → Prop) (h : wp_X11_setSheet x1 x2 m K) : Cn G yX11_setSheet cX11_setSheet 4 (some .int) (rmN 3 67) [.ref (ad 0), .int x1, .int x2] (0, 0) (fl ad m) (kI ad K) := by
  unfold wp_X11_setSheet at h
  refine Cn.of pn_RX11 (Nat.le_of_ble_eq_true rfl) (fun X hG hX hR => ?_)
  subst hG
  have hX : Cx X cX11_setSheet 4 RX11 (rmN 3 67) := hX
  show J X (0, 0) 0 [(0, .ref (ad 0)), (1, .int x1), (2, .int x2)] [] (fl ad m)
  refine J_aload_n hX dX11_setSheet_0 rfl 0 rfl ?_
  refine J_getR hX kf_RX11_10 dX11_setSheet_1 ka_0 (by decide) rfl rh_0_0 ?_
  refine J_iload_n hX dX11_setSheet_4 rfl 1 rfl ?_
  refine J_iload_n hX dX11_setSheet_5 rfl 2 rfl ?_
  refine J_callV hX km_X3_sheetFault kl_RX11_106 dX11_setSheet_6 ka_1 (by decide) [.int x1, .int x2] ⟨Nat.le_of_ble_eq_true rfl, Nat.le_of_ble_eq_true rfl⟩ rfl rfl (Nat.le_of_ble_eq_true rfl) (c_X3_sheetFault 1 ka_1 x1 x2 m _ h) (fun v w2 hk => ?_)
  obtain ⟨y2, m1, rfl, rfl, h⟩ := hk
  show J X (0, 0) 9 [(0, .ref (ad 0)), (1, .int x1), (2, .int x2)] [.int y2] (fl ad m1)
  refine J_istore_n (lv2 := [(3, .int y2), (0, .ref (ad 0)), (1, .int x1), (2, .int x2)]) hX dX11_setSheet_9 rfl (Nat.le_of_ble_eq_true rfl) rfl ?_
  refine J_iload_n hX dX11_setSheet_10 rfl 0 rfl ?_
  refine J_if_eq (tgt := 16) hX dX11_setSheet_11 (by decide) (fun c3 => ?_) (fun c3 => ?_)
  · replace h := Eq.mp (if_pos c3) h
    refine J_aload_n hX dX11_setSheet_16 rfl 1 rfl ?_
    refine J_getR hX kf_RX11_30 dX11_setSheet_17 ka_0 (by decide) rfl rh_0_4 ?_
    refine J_aload_n hX dX11_setSheet_20 rfl 1 rfl ?_
    refine J_getR hX kf_RX11_10 dX11_setSheet_21 ka_0 (by decide) rfl rh_0_0 ?_
    refine J_aload_n hX dX11_setSheet_24 rfl 1 rfl ?_
    refine J_getR hX kf_RX11_77 dX11_setSheet_25 ka_0 (by decide) rfl rh_0_12 ?_
    refine J_aload_n hX dX11_setSheet_28 rfl 1 rfl ?_
    refine J_getR hX kf_RX11_81 dX11_setSheet_29 ka_0 (by decide) rfl rh_0_13 ?_
    refine J_callV hX km_X6_remember kl_RX11_110 dX11_setSheet_32 ka_33 (by decide) [.ref (ad 1), .ref (ad 265), .ref (ad 266)] ⟨Nat.le_of_ble_eq_true rfl, Nat.le_of_ble_eq_true rfl⟩ rfl rfl (Nat.le_of_ble_eq_true rfl) (c_X6_remember 1 ka_1 m1 _ h) (fun v w2 hk => ?_)
    obtain ⟨m4, rfl, rfl, h⟩ := hk
    show J X (0, 0) 35 [(3, .int y2), (0, .ref (ad 0)), (1, .int x1), (2, .int x2)] [] (fl ad m4)
    refine J_aload_n hX dX11_setSheet_35 rfl 1 rfl ?_
    refine J_getR hX kf_RX11_10 dX11_setSheet_36 ka_0 (by decide) rfl rh_0_0 ?_
    refine J_iload_n hX dX11_setSheet_39 rfl 2 rfl ?_
    refine J_iload_n hX dX11_setSheet_40 rfl 3 rfl ?_
    refine J_callV hX km_X3_changeSheet kl_RX11_114 dX11_setSheet_41 ka_1 (by decide) [.int x1, .int x2] ⟨Nat.le_of_ble_eq_true rfl, Nat.le_of_ble_eq_true rfl⟩ rfl rfl (Nat.le_of_ble_eq_true rfl) (c_X3_changeSheet 1 ka_1 x1 x2 m4 _ h) (fun v w2 hk => ?_)
    obtain ⟨y6, m5, rfl, rfl, h⟩ := hk
    show J X (0, 0) 44 [(3, .int y2), (0, .ref (ad 0)), (1, .int x1), (2, .int x2)] [.int y6] (fl ad m5)
    exact J_iret hX hR dX11_setSheet_44 ⟨_, _, rfl, rfl, h⟩
  · replace h := Eq.mp (if_neg c3) h
    refine J_iload_n hX dX11_setSheet_14 rfl 0 rfl ?_
    exact J_iret hX hR dX11_setSheet_15 ⟨_, _, rfl, rfl, h⟩
set_option maxRecDepth 100000 in
theorem t_X3_changeSize_j72 {X : XT} {ad : Nat → Nat} {K : Int32 → Mm → Prop} (hX : Cx X cX3_changeSize 6 RX3 (rmN 2 44)) (hR : Rx X (some .int) (kI ad K) (0, 0)) (a0 : Nat) (h0 : kap a0 = 3) (x5 : Int32) (m : Mm) (h : wp_X3_changeSize_j72 K a0 x5 m) : J X (0, 0) 72 [(0, .ref (ad a0)), (5, .int x5)] [] (fl ad m) := by
  unfold wp_X3_changeSize_j72 at h
  refine J_aload_n hX dX3_changeSize_72 rfl 0 rfl ?_
  refine J_callV hX km_X3_layOutAll kl_RX3_126 dX3_changeSize_73 h0 (by decide) [] ⟨Nat.le_of_ble_eq_true rfl, Nat.le_of_ble_eq_true rfl⟩ rfl rfl (Nat.le_of_ble_eq_true rfl) (c_X3_layOutAll a0 h0 m _ h) (fun v w2 hk => ?_)
  obtain ⟨m7, rfl, rfl, h⟩ := hk
  show J X (0, 0) 76 [(0, .ref (ad a0)), (5, .int x5)] [] (fl ad m7)
  refine J_iload hX dX3_changeSize_76 1 rfl ?_
  exact J_iret hX hR dX3_changeSize_78 ⟨_, _, rfl, rfl, h⟩
set_option maxRecDepth 100000 in
theorem c_X3_changeSize {G : GT} {ad : Nat → Nat} (a0 : Nat) (h0 : kap a0 = 3) (x1 : Int32) (x2 : Int32) (x3 : Int32) (m : Mm) (K : Int32 → Mm → Prop) (h : wp_X3_changeSize a0 x1 x2 x3 m K) : Cn G yX3_changeSize cX3_changeSize 6 (some .int) (rmN 2 44) [.ref (ad a0), .int x1, .int x2, .int x3] (0, 0) (fl ad m) (kI ad K) := by
  unfold wp_X3_changeSize at h
  refine Cn.of pn_RX3 (Nat.le_of_ble_eq_true rfl) (fun X hG hX hR => ?_)
  subst hG
  have hX : Cx X cX3_changeSize 6 RX3 (rmN 2 44) := hX
  show J X (0, 0) 0 [(0, .ref (ad a0)), (1, .int x1), (2, .int x2), (3, .int x3)] [] (fl ad m)
  refine J_aload_n hX dX3_changeSize_0 rfl 0 rfl ?_
  refine J_iload_n hX dX3_changeSize_1 rfl 1 rfl ?_
  refine J_callV hX km_X3_panelAt kl_RX3_39 dX3_changeSize_2 h0 (by decide) [.int x1] ⟨Nat.le_of_ble_eq_true rfl, Nat.le_of_ble_eq_true rfl⟩ rfl rfl (Nat.le_of_ble_eq_true rfl) (c_X3_panelAt a0 h0 x1 m) (fun v w2 hk => ?_)
  obtain ⟨rfl, rfl⟩ := hk
  show J X (0, 0) 5 [(0, .ref (ad a0)), (1, .int x1), (2, .int x2), (3, .int x3)] [.ref (ad (v_X3_panelAt a0 x1))] (fl ad m)
  refine J_astore (lv2 := [(4, .ref (ad (v_X3_panelAt a0 x1))), (0, .ref (ad a0)), (1, .int x1), (2, .int x2), (3, .int x3)]) hX dX3_changeSize_5 (Nat.le_of_ble_eq_true rfl) rfl ?_
  refine J_iload_n hX dX3_changeSize_7 rfl 3 rfl ?_
  have hj10 : ∀ y3 : Int32, y3 = (if x2 = (0 : Int32) then (m.1 (v_X3_panelAt a0 x1) 2) else (if x2 = (1 : Int32) then (m.1 (v_X3_panelAt a0 x1) 3) else (m.1 (v_X3_panelAt a0 x1) 4))) → J X (0, 0) 37 [(0, .ref (ad a0)), (2, .int x2), (3, .int x3), (4, .ref (ad (v_X3_panelAt a0 x1)))] [.int y3] (fl ad m) := by
    intro y3 e_y3
    replace h := h y3 e_y3
    refine J_istore (lv2 := [(5, .int y3), (0, .ref (ad a0)), (2, .int x2), (3, .int x3), (4, .ref (ad (v_X3_panelAt a0 x1)))]) hX dX3_changeSize_37 (Nat.le_of_ble_eq_true rfl) rfl ?_
    refine J_iload_n hX dX3_changeSize_39 rfl 2 rfl ?_
    refine J_if_ne (tgt := 52) hX dX3_changeSize_40 (by decide) (fun c4 => ?_) (fun c4 => ?_)
    · replace h := Eq.mp (if_neg c4) h
      refine J_iload_n hX dX3_changeSize_52 rfl 2 rfl ?_
      refine J_iconst (v := (1 : Int32)) hX dX3_changeSize_53 (by decide) ?_
      refine J_icmp_ne (tgt := 66) hX dX3_changeSize_54 (by decide) (fun c5 => ?_) (fun c5 => ?_)
      · replace h := Eq.mp (if_neg c5) h
        refine J_aload hX dX3_changeSize_66 4 rfl ?_
        refine J_iload_n hX dX3_changeSize_68 rfl 3 rfl ?_
        refine J_putI hX kf_RX3_97 dX3_changeSize_69 (kv_X3_panelAt h0) (by decide) rfl ?_
        refine J_nmM (fun m6 e_m6 => ?_)
        replace h := h m6 e_m6
        exact J_sub [1, 0] rfl (t_X3_changeSize_j72 hX hR a0 h0 y3 m6 h)
      · replace h := Eq.mp (if_pos c5) h
        refine J_aload hX dX3_changeSize_57 4 rfl ?_
        refine J_iload_n hX dX3_changeSize_59 rfl 3 rfl ?_
        refine J_putI hX kf_RX3_94 dX3_changeSize_60 (kv_X3_panelAt h0) (by decide) rfl ?_
        refine J_nmM (fun m8 e_m8 => ?_)
        replace h := h m8 e_m8
        refine J_goto (tgt := 72) hX dX3_changeSize_63 (by decide) ?_
        exact J_sub [1, 0] rfl (t_X3_changeSize_j72 hX hR a0 h0 y3 m8 h)
    · replace h := Eq.mp (if_pos c4) h
      refine J_aload hX dX3_changeSize_43 4 rfl ?_
      refine J_iload_n hX dX3_changeSize_45 rfl 3 rfl ?_
      refine J_putI hX kf_RX3_91 dX3_changeSize_46 (kv_X3_panelAt h0) (by decide) rfl ?_
      refine J_nmM (fun m9 e_m9 => ?_)
      replace h := h m9 e_m9
      refine J_goto (tgt := 72) hX dX3_changeSize_49 (by decide) ?_
      exact J_sub [1, 0] rfl (t_X3_changeSize_j72 hX hR a0 h0 y3 m9 h)
  refine J_if_ne (tgt := 19) hX dX3_changeSize_8 (by decide) (fun c1 => ?_) (fun c1 => ?_)
  · refine J_iload_n hX dX3_changeSize_19 rfl 3 rfl ?_
    refine J_iconst (v := (1 : Int32)) hX dX3_changeSize_20 (by decide) ?_
    refine J_icmp_ne (tgt := 32) hX dX3_changeSize_21 (by decide) (fun c2 => ?_) (fun c2 => ?_)
    · refine J_aload hX dX3_changeSize_32 0 rfl ?_
      refine J_getI hX kf_RX3_97 dX3_changeSize_34 (kv_X3_panelAt h0) (by decide) rfl ?_
      exact J_sub [1, 3, 4, 0] rfl (hj10 _ ((if_neg c1).trans (if_neg c2)).symm)
    · refine J_aload hX dX3_changeSize_24 0 rfl ?_
      refine J_getI hX kf_RX3_94 dX3_changeSize_26 (kv_X3_panelAt h0) (by decide) rfl ?_
      refine J_goto (tgt := 37) hX dX3_changeSize_29 (by decide) ?_
      exact J_sub [1, 3, 4, 0] rfl (hj10 _ ((if_neg c1).trans (if_pos c2)).symm)
  · refine J_aload hX dX3_changeSize_11 0 rfl ?_
    refine J_getI hX kf_RX3_91 dX3_changeSize_13 (kv_X3_panelAt h0) (by decide) rfl ?_
    refine J_goto (tgt := 37) hX dX3_changeSize_16 (by decide) ?_
    exact J_sub [1, 3, 4, 0] rfl (hj10 _ (if_pos c1).symm)
set_option maxRecDepth 100000 in
theorem t_X3_sizeFault_j42 {X : XT} {ad : Nat → Nat} {K : Int32 → Mm → Prop} (hX : Cx X cX3_sizeFault 6 RX3 (rmN 3 69)) (hR : Rx X (some .int) (kI ad K) (0, 0)) (a0 : Nat) (h0 : kap a0 = 3) (x1 : Int32) (x2 : Int32) (x3 : Int32) (m : Mm) (h : wp_X3_sizeFault_j42 K a0 x1 x2 x3 m) : J X (0, 0) 42 [(0, .ref (ad a0)), (1, .int x1), (2, .int x2), (3, .int x3)] [] (fl ad m) := by
  unfold wp_X3_sizeFault_j42 at h
  refine J_aload_n hX dX3_sizeFault_42 rfl 0 rfl ?_
  refine J_iload_n hX dX3_sizeFault_43 rfl 1 rfl ?_
  refine J_iload_n hX dX3_sizeFault_44 rfl 2 rfl ?_
  refine J_iload_n hX dX3_sizeFault_45 rfl 3 rfl ?_
  refine J_callV hX km_X3_changeSize kl_RX3_118 dX3_sizeFault_46 h0 (by decide) [.int x1, .int x2, .int x3] ⟨Nat.le_of_ble_eq_true rfl, Nat.le_of_ble_eq_true rfl⟩ rfl rfl (Nat.le_of_ble_eq_true rfl) (c_X3_changeSize a0 h0 x1 x2 x3 m _ h) (fun v w2 hk => ?_)
  obtain ⟨y7, m6, rfl, rfl, h⟩ := hk
  show J X (0, 0) 49 [(0, .ref (ad a0)), (1, .int x1), (2, .int x2), (3, .int x3)] [.int y7] (fl ad m6)
  refine J_istore (lv2 := [(4, .int y7), (0, .ref (ad a0)), (1, .int x1), (2, .int x2), (3, .int x3)]) hX dX3_sizeFault_49 (Nat.le_of_ble_eq_true rfl) rfl ?_
  refine J_aload_n hX dX3_sizeFault_51 rfl 1 rfl ?_
  refine J_callV hX km_X3_isValid kl_RX3_122 dX3_sizeFault_52 h0 (by decide) [] ⟨Nat.le_of_ble_eq_true rfl, Nat.le_of_ble_eq_true rfl⟩ rfl rfl (Nat.le_of_ble_eq_true rfl) (c_X3_isValid a0 h0 m6 _ h) (fun v w2 hk => ?_)
  obtain ⟨y9, m8, rfl, rfl, h⟩ := hk
  show J X (0, 0) 55 [(4, .int y7), (0, .ref (ad a0)), (1, .int x1), (2, .int x2), (3, .int x3)] [.int y9] (fl ad m8)
  refine J_istore (lv2 := [(5, .int y9), (4, .int y7), (0, .ref (ad a0)), (1, .int x1), (2, .int x2), (3, .int x3)]) hX dX3_sizeFault_55 (Nat.le_of_ble_eq_true rfl) rfl ?_
  refine J_aload_n hX dX3_sizeFault_57 rfl 2 rfl ?_
  refine J_iload_n hX dX3_sizeFault_58 rfl 3 rfl ?_
  refine J_iload_n hX dX3_sizeFault_59 rfl 4 rfl ?_
  refine J_iload hX dX3_sizeFault_60 1 rfl ?_
  refine J_callV hX km_X3_changeSize kl_RX3_118 dX3_sizeFault_62 h0 (by decide) [.int x1, .int x2, .int y7] ⟨Nat.le_of_ble_eq_true rfl, Nat.le_of_ble_eq_true rfl⟩ rfl rfl (Nat.le_of_ble_eq_true rfl) (c_X3_changeSize a0 h0 x1 x2 y7 m8 _ h) (fun v w2 hk => ?_)
  obtain ⟨y11, m10, rfl, rfl, h⟩ := hk
  show J X (0, 0) 65 [(5, .int y9), (4, .int y7), (0, .ref (ad a0)), (1, .int x1), (2, .int x2), (3, .int x3)] [.int y11] (fl ad m10)
  refine J_pop hX dX3_sizeFault_65 rfl ?_
  refine J_iload hX dX3_sizeFault_66 0 rfl ?_
  have hj14 : ∀ y13 : Int32, y13 = (if y9 = (0 : Int32) then (-4 : Int32) else (0 : Int32)) → J X (0, 0) 77 [] [.int y13] (fl ad m10) := by
    intro y13 e_y13
    replace h := h y13 e_y13
    exact J_iret hX hR dX3_sizeFault_77 ⟨_, _, rfl, rfl, h⟩
  refine J_if_eq (tgt := 75) hX dX3_sizeFault_68 (by decide) (fun c12 => ?_) (fun c12 => ?_)
  · refine J_bipush (v := (-4 : Int32)) hX dX3_sizeFault_75 (by decide) ?_
    exact J_sub [] rfl (hj14 _ (if_pos c12).symm)
  · refine J_iconst (v := (0 : Int32)) hX dX3_sizeFault_71 (by decide) ?_
    refine J_goto (tgt := 77) hX dX3_sizeFault_72 (by decide) ?_
    exact J_sub [] rfl (hj14 _ (if_neg c12).symm)
set_option maxRecDepth 100000 in
theorem c_X3_sizeFault {G : GT} {ad : Nat → Nat} (a0 : Nat) (h0 : kap a0 = 3) (x1 : Int32) (x2 : Int32) (x3 : Int32) (m : Mm) (K : Int32 → Mm → Prop) (h : wp_X3_sizeFault a0 x1 x2 x3 m K) : Cn G yX3_sizeFault cX3_sizeFault 6 (some .int) (rmN 3 69) [.ref (ad a0), .int x1, .int x2, .int x3] (0, 0) (fl ad m) (kI ad K) := by
  unfold wp_X3_sizeFault at h
  refine Cn.of pn_RX3 (Nat.le_of_ble_eq_true rfl) (fun X hG hX hR => ?_)
  subst hG
  have hX : Cx X cX3_sizeFault 6 RX3 (rmN 3 69) := hX
  show J X (0, 0) 0 [(0, .ref (ad a0)), (1, .int x1), (2, .int x2), (3, .int x3)] [] (fl ad m)
  refine J_aload_n hX dX3_sizeFault_0 rfl 0 rfl ?_
  refine J_iload_n hX dX3_sizeFault_1 rfl 1 rfl ?_
  refine J_callV hX km_X3_hangs kl_RX3_115 dX3_sizeFault_2 h0 (by decide) [.int x1] ⟨Nat.le_of_ble_eq_true rfl, Nat.le_of_ble_eq_true rfl⟩ rfl rfl (Nat.le_of_ble_eq_true rfl) (c_X3_hangs a0 h0 x1 m) (fun v w2 hk => ?_)
  obtain ⟨rfl, rfl⟩ := hk
  show J X (0, 0) 5 [(0, .ref (ad a0)), (1, .int x1), (2, .int x2), (3, .int x3)] [.int (v_X3_hangs a0 x1 m)] (fl ad m)
  refine J_if_eq (tgt := 17) hX dX3_sizeFault_5 (by decide) (fun c1 => ?_) (fun c1 => ?_)
  · replace h := Eq.mp (if_pos c1) h
    refine J_iconst (v := (-1 : Int32)) hX dX3_sizeFault_17 (by decide) ?_
    exact J_iret hX hR dX3_sizeFault_18 ⟨_, _, rfl, rfl, h⟩
  · replace h := Eq.mp (if_neg c1) h
    refine J_iload_n hX dX3_sizeFault_8 rfl 2 rfl ?_
    refine J_if_lt (tgt := 17) hX dX3_sizeFault_9 (by decide) (fun c2 => ?_) (fun c2 => ?_)
    · replace h := Eq.mp (if_pos c2) h
      refine J_iconst (v := (-1 : Int32)) hX dX3_sizeFault_17 (by decide) ?_
      exact J_iret hX hR dX3_sizeFault_18 ⟨_, _, rfl, rfl, h⟩
    · replace h := Eq.mp (if_neg c2) h
      refine J_iload_n hX dX3_sizeFault_12 rfl 2 rfl ?_
      refine J_iconst (v := (2 : Int32)) hX dX3_sizeFault_13 (by decide) ?_
      refine J_icmp_le (tgt := 19) hX dX3_sizeFault_14 (by decide) (fun c3 => ?_) (fun c3 => ?_)
      · replace h := Eq.mp (if_pos c3) h
        refine J_iload_n hX dX3_sizeFault_19 rfl 2 rfl ?_
        refine J_if_ne (tgt := 33) hX dX3_sizeFault_20 (by decide) (fun c4 => ?_) (fun c4 => ?_)
        · replace h := Eq.mp (if_neg c4) h
          refine J_iload_n hX dX3_sizeFault_33 rfl 3 rfl ?_
          refine J_callSN hX km_X11_isLength kl_RX3_63 dX3_sizeFault_34 [.int x3] ⟨Nat.le_of_ble_eq_true rfl, Nat.le_of_ble_eq_true rfl⟩ rfl rfl (Nat.le_of_ble_eq_true rfl) (c_X11_isLength x3 m) (fun v w2 hk => ?_)
          obtain ⟨rfl, rfl⟩ := hk
          show J X (0, 0) 37 [(0, .ref (ad a0)), (1, .int x1), (2, .int x2), (3, .int x3)] [.int (v_X11_isLength x3)] (fl ad m)
          refine J_if_ne (tgt := 42) hX dX3_sizeFault_37 (by decide) (fun c5 => ?_) (fun c5 => ?_)
          · replace h := Eq.mp (if_neg c5) h
            exact J_sub [0, 1, 2, 3] rfl (t_X3_sizeFault_j42 hX hR a0 h0 x1 x2 x3 m h)
          · replace h := Eq.mp (if_pos c5) h
            refine J_iconst (v := (-1 : Int32)) hX dX3_sizeFault_40 (by decide) ?_
            exact J_iret hX hR dX3_sizeFault_41 ⟨_, _, rfl, rfl, h⟩
        · replace h := Eq.mp (if_pos c4) h
          refine J_iload_n hX dX3_sizeFault_23 rfl 3 rfl ?_
          refine J_callSN hX km_X11_isOffset kl_RX3_59 dX3_sizeFault_24 [.int x3] ⟨Nat.le_of_ble_eq_true rfl, Nat.le_of_ble_eq_true rfl⟩ rfl rfl (Nat.le_of_ble_eq_true rfl) (c_X11_isOffset x3 m) (fun v w2 hk => ?_)
          obtain ⟨rfl, rfl⟩ := hk
          show J X (0, 0) 27 [(0, .ref (ad a0)), (1, .int x1), (2, .int x2), (3, .int x3)] [.int (v_X11_isOffset x3)] (fl ad m)
          refine J_if_eq (tgt := 40) hX dX3_sizeFault_27 (by decide) (fun c15 => ?_) (fun c15 => ?_)
          · replace h := Eq.mp (if_pos c15) h
            refine J_iconst (v := (-1 : Int32)) hX dX3_sizeFault_40 (by decide) ?_
            exact J_iret hX hR dX3_sizeFault_41 ⟨_, _, rfl, rfl, h⟩
          · replace h := Eq.mp (if_neg c15) h
            refine J_goto (tgt := 42) hX dX3_sizeFault_30 (by decide) ?_
            exact J_sub [0, 1, 2, 3] rfl (t_X3_sizeFault_j42 hX hR a0 h0 x1 x2 x3 m h)
      · replace h := Eq.mp (if_neg c3) h
        refine J_iconst (v := (-1 : Int32)) hX dX3_sizeFault_17 (by decide) ?_
        exact J_iret hX hR dX3_sizeFault_18 ⟨_, _, rfl, rfl, h⟩
set_option maxRecDepth 100000 in
theorem c_X11_setSize {G : GT} {ad : Nat → Nat} (x1 : Int32) (x2 : Int32) (x3 : Int32) (m : Mm) (K : Int32 → Mm → Prop) (h : wp_X11_setSize x1 x2 x3 m K) : Cn G yX11_setSize cX11_setSize 5 (some .int) (rmN 4 94) [.ref (ad 0), .int x1, .int x2, .int x3] (0, 0) (fl ad m) (kI ad K) := by
  unfold wp_X11_setSize at h
  refine Cn.of pn_RX11 (Nat.le_of_ble_eq_true rfl) (fun X hG hX hR => ?_)
  subst hG
  have hX : Cx X cX11_setSize 5 RX11 (rmN 4 94) := hX
  show J X (0, 0) 0 [(0, .ref (ad 0)), (1, .int x1), (2, .int x2), (3, .int x3)] [] (fl ad m)
  refine J_aload_n hX dX11_setSize_0 rfl 0 rfl ?_
  refine J_getR hX kf_RX11_10 dX11_setSize_1 ka_0 (by decide) rfl rh_0_0 ?_
  refine J_iload_n hX dX11_setSize_4 rfl 1 rfl ?_
  refine J_iload_n hX dX11_setSize_5 rfl 2 rfl ?_
  refine J_iload_n hX dX11_setSize_6 rfl 3 rfl ?_
  refine J_callV hX km_X3_sizeFault kl_RX11_148 dX11_setSize_7 ka_1 (by decide) [.int x1, .int x2, .int x3] ⟨Nat.le_of_ble_eq_true rfl, Nat.le_of_ble_eq_true rfl⟩ rfl rfl (Nat.le_of_ble_eq_true rfl) (c_X3_sizeFault 1 ka_1 x1 x2 x3 m _ h) (fun v w2 hk => ?_)
  obtain ⟨y2, m1, rfl, rfl, h⟩ := hk
  show J X (0, 0) 10 [(0, .ref (ad 0)), (1, .int x1), (2, .int x2), (3, .int x3)] [.int y2] (fl ad m1)
  refine J_istore (lv2 := [(4, .int y2), (0, .ref (ad 0)), (1, .int x1), (2, .int x2), (3, .int x3)]) hX dX11_setSize_10 (Nat.le_of_ble_eq_true rfl) rfl ?_
  refine J_iload hX dX11_setSize_12 0 rfl ?_
  refine J_if_eq (tgt := 20) hX dX11_setSize_14 (by decide) (fun c3 => ?_) (fun c3 => ?_)
  · replace h := Eq.mp (if_pos c3) h
    refine J_aload_n hX dX11_setSize_20 rfl 1 rfl ?_
    refine J_getR hX kf_RX11_30 dX11_setSize_21 ka_0 (by decide) rfl rh_0_4 ?_
    refine J_aload_n hX dX11_setSize_24 rfl 1 rfl ?_
    refine J_getR hX kf_RX11_10 dX11_setSize_25 ka_0 (by decide) rfl rh_0_0 ?_
    refine J_aload_n hX dX11_setSize_28 rfl 1 rfl ?_
    refine J_getR hX kf_RX11_77 dX11_setSize_29 ka_0 (by decide) rfl rh_0_12 ?_
    refine J_aload_n hX dX11_setSize_32 rfl 1 rfl ?_
    refine J_getR hX kf_RX11_81 dX11_setSize_33 ka_0 (by decide) rfl rh_0_13 ?_
    refine J_callV hX km_X6_remember kl_RX11_110 dX11_setSize_36 ka_33 (by decide) [.ref (ad 1), .ref (ad 265), .ref (ad 266)] ⟨Nat.le_of_ble_eq_true rfl, Nat.le_of_ble_eq_true rfl⟩ rfl rfl (Nat.le_of_ble_eq_true rfl) (c_X6_remember 1 ka_1 m1 _ h) (fun v w2 hk => ?_)
    obtain ⟨m4, rfl, rfl, h⟩ := hk
    show J X (0, 0) 39 [(4, .int y2), (0, .ref (ad 0)), (1, .int x1), (2, .int x2), (3, .int x3)] [] (fl ad m4)
    refine J_aload_n hX dX11_setSize_39 rfl 1 rfl ?_
    refine J_getR hX kf_RX11_10 dX11_setSize_40 ka_0 (by decide) rfl rh_0_0 ?_
    refine J_iload_n hX dX11_setSize_43 rfl 2 rfl ?_
    refine J_iload_n hX dX11_setSize_44 rfl 3 rfl ?_
    refine J_iload_n hX dX11_setSize_45 rfl 4 rfl ?_
    refine J_callV hX km_X3_changeSize kl_RX11_152 dX11_setSize_46 ka_1 (by decide) [.int x1, .int x2, .int x3] ⟨Nat.le_of_ble_eq_true rfl, Nat.le_of_ble_eq_true rfl⟩ rfl rfl (Nat.le_of_ble_eq_true rfl) (c_X3_changeSize 1 ka_1 x1 x2 x3 m4 _ h) (fun v w2 hk => ?_)
    obtain ⟨y6, m5, rfl, rfl, h⟩ := hk
    show J X (0, 0) 49 [(4, .int y2), (0, .ref (ad 0)), (1, .int x1), (2, .int x2), (3, .int x3)] [.int y6] (fl ad m5)
    exact J_iret hX hR dX11_setSize_49 ⟨_, _, rfl, rfl, h⟩
  · replace h := Eq.mp (if_neg c3) h
    refine J_iload hX dX11_setSize_17 0 rfl ?_
    exact J_iret hX hR dX11_setSize_19 ⟨_, _, rfl, rfl, h⟩
set_option maxRecDepth 100000 in
theorem c_X11_setWeight {G : GT} {ad : Nat → Nat} (x1 : Int32) (x2 : Int32) (m : Mm) (K : Int32 → Mm → Prop) (h : wp_X11_setWeight x1 x2 m K) : Cn G yX11_setWeight cX11_setWeight 4 (some .int) (rmN 3 67) [.ref (ad 0), .int x1, .int x2] (0, 0) (fl ad m) (kI ad K) := by
  unfold wp_X11_setWeight at h
  refine Cn.of pn_RX11 (Nat.le_of_ble_eq_true rfl) (fun X hG hX hR => ?_)
  subst hG
  have hX : Cx X cX11_setWeight 4 RX11 (rmN 3 67) := hX
  show J X (0, 0) 0 [(0, .ref (ad 0)), (1, .int x1), (2, .int x2)] [] (fl ad m)
  refine J_iload_n hX dX11_setWeight_0 rfl 1 rfl ?_
  refine J_if_lt (tgt := 20) hX dX11_setWeight_1 (by decide) (fun c1 => ?_) (fun c1 => ?_)
  · replace h := Eq.mp (if_pos c1) h
    refine J_iconst (v := (-1 : Int32)) hX dX11_setWeight_20 (by decide) ?_
    exact J_iret hX hR dX11_setWeight_21 ⟨_, _, rfl, rfl, h⟩
  · replace h := Eq.mp (if_neg c1) h
    refine J_iload_n hX dX11_setWeight_4 rfl 1 rfl ?_
    refine J_bipush (v := (8 : Int32)) hX dX11_setWeight_5 (by decide) ?_
    refine J_icmp_ge (tgt := 20) hX dX11_setWeight_7 (by decide) (fun c2 => ?_) (fun c2 => ?_)
    · replace h := Eq.mp (if_pos c2) h
      refine J_iconst (v := (-1 : Int32)) hX dX11_setWeight_20 (by decide) ?_
      exact J_iret hX hR dX11_setWeight_21 ⟨_, _, rfl, rfl, h⟩
    · replace h := Eq.mp (if_neg c2) h
      refine J_iload_n hX dX11_setWeight_10 rfl 2 rfl ?_
      refine J_if_lt (tgt := 20) hX dX11_setWeight_11 (by decide) (fun c3 => ?_) (fun c3 => ?_)
      · replace h := Eq.mp (if_pos c3) h
        refine J_iconst (v := (-1 : Int32)) hX dX11_setWeight_20 (by decide) ?_
        exact J_iret hX hR dX11_setWeight_21 ⟨_, _, rfl, rfl, h⟩
      · replace h := Eq.mp (if_neg c3) h
        refine J_iload_n hX dX11_setWeight_14 rfl 2 rfl ?_
        refine J_bipush (v := (9 : Int32)) hX dX11_setWeight_15 (by decide) ?_
        refine J_icmp_le (tgt := 22) hX dX11_setWeight_17 (by decide) (fun c4 => ?_) (fun c4 => ?_)
        · replace h := Eq.mp (if_pos c4) h
          refine J_aload_n hX dX11_setWeight_22 rfl 0 rfl ?_
          refine J_getR hX kf_RX11_30 dX11_setWeight_23 ka_0 (by decide) rfl rh_0_4 ?_
          refine J_aload_n hX dX11_setWeight_26 rfl 0 rfl ?_
          refine J_getR hX kf_RX11_10 dX11_setWeight_27 ka_0 (by decide) rfl rh_0_0 ?_
          refine J_aload_n hX dX11_setWeight_30 rfl 0 rfl ?_
          refine J_getR hX kf_RX11_77 dX11_setWeight_31 ka_0 (by decide) rfl rh_0_12 ?_
          refine J_aload_n hX dX11_setWeight_34 rfl 0 rfl ?_
          refine J_getR hX kf_RX11_81 dX11_setWeight_35 ka_0 (by decide) rfl rh_0_13 ?_
          refine J_callV hX km_X6_remember kl_RX11_110 dX11_setWeight_38 ka_33 (by decide) [.ref (ad 1), .ref (ad 265), .ref (ad 266)] ⟨Nat.le_of_ble_eq_true rfl, Nat.le_of_ble_eq_true rfl⟩ rfl rfl (Nat.le_of_ble_eq_true rfl) (c_X6_remember 1 ka_1 m _ h) (fun v w2 hk => ?_)
          obtain ⟨m5, rfl, rfl, h⟩ := hk
          show J X (0, 0) 41 [(0, .ref (ad 0)), (1, .int x1), (2, .int x2)] [] (fl ad m5)
          refine J_aload_n hX dX11_setWeight_41 rfl 0 rfl ?_
          refine J_getR hX kf_RX11_81 dX11_setWeight_42 ka_0 (by decide) rfl rh_0_13 ?_
          refine J_iload_n hX dX11_setWeight_45 rfl 1 rfl ?_
          refine J_iald (j := x1.toNatClampNeg) hX dX11_setWeight_46 ka_266 le_266 (vp_b (lo_2 c1) (up_2 c2 (by decide))) rfl ?_
          refine J_nmI (fun y6 e_y6 => ?_)
          replace h := h y6 e_y6
          refine J_istore_n (lv2 := [(3, .int y6), (0, .ref (ad 0)), (1, .int x1), (2, .int x2)]) hX dX11_setWeight_47 rfl (Nat.le_of_ble_eq_true rfl) rfl ?_
          refine J_aload_n hX dX11_setWeight_48 rfl 1 rfl ?_
          refine J_getR hX kf_RX11_81 dX11_setWeight_49 ka_0 (by decide) rfl rh_0_13 ?_
          refine J_iload_n hX dX11_setWeight_52 rfl 2 rfl ?_
          refine J_iload_n hX dX11_setWeight_53 rfl 3 rfl ?_
          refine J_iast (j := x1.toNatClampNeg) hX dX11_setWeight_54 ka_266 le_266 (vp_b (lo_2 c1) (up_2 c2 (by decide))) rfl ?_
          refine J_nmM (fun m7 e_m7 => ?_)
          replace h := h m7 e_m7
          refine J_iload_n hX dX11_setWeight_55 rfl 0 rfl ?_
          exact J_iret hX hR dX11_setWeight_56 ⟨_, _, rfl, rfl, h⟩
        · replace h := Eq.mp (if_neg c4) h
          refine J_iconst (v := (-1 : Int32)) hX dX11_setWeight_20 (by decide) ?_
          exact J_iret hX hR dX11_setWeight_21 ⟨_, _, rfl, rfl, h⟩
set_option maxRecDepth 100000 in
theorem c_X11_spreadImage {G : GT} {ad : Nat → Nat} (x1 : Int32) (m : Mm) (K : Int32 → Mm → Prop) (h : wp_X11_spreadImage x1 m K) : Cn G yX11_spreadImage cX11_spreadImage 3 (some .int) (rmN 6 151) [.ref (ad 0), .int x1] (0, 0) (fl ad m) (kI ad K) := by
  unfold wp_X11_spreadImage at h
  refine Cn.of pn_RX11 (Nat.le_of_ble_eq_true rfl) (fun X hG hX hR => ?_)
  subst hG
  have hX : Cx X cX11_spreadImage 3 RX11 (rmN 6 151) := hX
  show J X (0, 0) 0 [(0, .ref (ad 0)), (1, .int x1)] [] (fl ad m)
  refine J_aload_n hX dX11_spreadImage_0 rfl 0 rfl ?_
  refine J_getR hX kf_RX11_10 dX11_spreadImage_1 ka_0 (by decide) rfl rh_0_0 ?_
  refine J_iload_n hX dX11_spreadImage_4 rfl 1 rfl ?_
  refine J_callV hX km_X3_bareFault kl_RX11_174 dX11_spreadImage_5 ka_1 (by decide) [.int x1] ⟨Nat.le_of_ble_eq_true rfl, Nat.le_of_ble_eq_true rfl⟩ rfl rfl (Nat.le_of_ble_eq_true rfl) (c_X3_bareFault 1 ka_1 x1 m) (fun v w2 hk => ?_)
  obtain ⟨rfl, rfl⟩ := hk
  show J X (0, 0) 8 [(0, .ref (ad 0)), (1, .int x1)] [.int (v_X3_bareFault 1 x1 m)] (fl ad m)
  refine J_nmI (fun y1 e_y1 => ?_)
  replace h := h y1 e_y1
  refine J_istore_n (lv2 := [(2, .int y1), (0, .ref (ad 0)), (1, .int x1)]) hX dX11_spreadImage_8 rfl (Nat.le_of_ble_eq_true rfl) rfl ?_
  refine J_iload_n hX dX11_spreadImage_9 rfl 0 rfl ?_
  refine J_if_eq (tgt := 15) hX dX11_spreadImage_10 (by decide) (fun c2 => ?_) (fun c2 => ?_)
  · replace h := Eq.mp (if_pos c2) h
    refine J_aload_n hX dX11_spreadImage_15 rfl 1 rfl ?_
    refine J_callV hX km_X11_findSeams kl_RX11_181 dX11_spreadImage_16 ka_0 (by decide) [] ⟨Nat.le_of_ble_eq_true rfl, Nat.le_of_ble_eq_true rfl⟩ rfl rfl (Nat.le_of_ble_eq_true rfl) (c_X11_findSeams m _ h) (fun v w2 hk => ?_)
    obtain ⟨m3, rfl, rfl, h⟩ := hk
    show J X (0, 0) 19 [(2, .int y1), (0, .ref (ad 0)), (1, .int x1)] [] (fl ad m3)
    refine J_aload_n hX dX11_spreadImage_19 rfl 1 rfl ?_
    refine J_getR hX kf_RX11_30 dX11_spreadImage_20 ka_0 (by decide) rfl rh_0_4 ?_
    refine J_aload_n hX dX11_spreadImage_23 rfl 1 rfl ?_
    refine J_getR hX kf_RX11_10 dX11_spreadImage_24 ka_0 (by decide) rfl rh_0_0 ?_
    refine J_aload_n hX dX11_spreadImage_27 rfl 1 rfl ?_
    refine J_getR hX kf_RX11_77 dX11_spreadImage_28 ka_0 (by decide) rfl rh_0_12 ?_
    refine J_aload_n hX dX11_spreadImage_31 rfl 1 rfl ?_
    refine J_getR hX kf_RX11_81 dX11_spreadImage_32 ka_0 (by decide) rfl rh_0_13 ?_
    refine J_callV hX km_X6_remember kl_RX11_110 dX11_spreadImage_35 ka_33 (by decide) [.ref (ad 1), .ref (ad 265), .ref (ad 266)] ⟨Nat.le_of_ble_eq_true rfl, Nat.le_of_ble_eq_true rfl⟩ rfl rfl (Nat.le_of_ble_eq_true rfl) (c_X6_remember 1 ka_1 m3 _ h) (fun v w2 hk => ?_)
    obtain ⟨m4, rfl, rfl, h⟩ := hk
    show J X (0, 0) 38 [(2, .int y1), (0, .ref (ad 0)), (1, .int x1)] [] (fl ad m4)
    refine J_aload_n hX dX11_spreadImage_38 rfl 1 rfl ?_
    refine J_getR hX kf_RX11_63 dX11_spreadImage_39 ka_0 (by decide) rfl rh_0_9 ?_
    refine J_aload_n hX dX11_spreadImage_42 rfl 1 rfl ?_
    refine J_getR hX kf_RX11_10 dX11_spreadImage_43 ka_0 (by decide) rfl rh_0_0 ?_
    refine J_aload_n hX dX11_spreadImage_46 rfl 1 rfl ?_
    refine J_getR hX kf_RX11_10 dX11_spreadImage_47 ka_0 (by decide) rfl rh_0_0 ?_
    refine J_iload_n hX dX11_spreadImage_50 rfl 2 rfl ?_
    refine J_callV hX km_X3_panelAt kl_RX11_201 dX11_spreadImage_51 ka_1 (by decide) [.int x1] ⟨Nat.le_of_ble_eq_true rfl, Nat.le_of_ble_eq_true rfl⟩ rfl rfl (Nat.le_of_ble_eq_true rfl) (c_X3_panelAt 1 ka_1 x1 m4) (fun v w2 hk => ?_)
    obtain ⟨rfl, rfl⟩ := hk
    show J X (0, 0) 54 [(2, .int y1), (0, .ref (ad 0)), (1, .int x1)] [.ref (ad (v_X3_panelAt 1 x1)), .ref (ad 1), .ref (ad 267)] (fl ad m4)
    refine J_getI hX kf_RX11_205 dX11_spreadImage_54 (kv_X3_panelAt ka_1) (by decide) rfl ?_
    refine J_callV hX km_X0_spread kl_RX11_210 dX11_spreadImage_57 ka_267 (by decide) [.ref (ad 1), .int (m4.1 (v_X3_panelAt 1 x1) 7)] ⟨Nat.le_of_ble_eq_true rfl, Nat.le_of_ble_eq_true rfl⟩ rfl rfl (Nat.le_of_ble_eq_true rfl) (c_X0_spread 1 ka_1 (m4.1 (v_X3_panelAt 1 x1) 7) m4 _ h) (fun v w2 hk => ?_)
    obtain ⟨y6, m5, rfl, rfl, h⟩ := hk
    show J X (0, 0) 60 [(2, .int y1), (0, .ref (ad 0)), (1, .int x1)] [.int y6] (fl ad m5)
    exact J_iret hX hR dX11_spreadImage_60 ⟨_, _, rfl, rfl, h⟩
  · replace h := Eq.mp (if_neg c2) h
    refine J_iload_n hX dX11_spreadImage_13 rfl 0 rfl ?_
    exact J_iret hX hR dX11_spreadImage_14 ⟨_, _, rfl, rfl, h⟩
set_option maxRecDepth 100000 in
theorem c_X11_totalCost {G : GT} {ad : Nat → Nat} (m : Mm) (K : Int64 → Mm → Prop) (h : wp_X11_totalCost m K) : Cn G yX11_totalCost cX11_totalCost 1 (some .long) (rmN 6 144) [.ref (ad 0)] (0, 0) (fl ad m) (kL ad K) := by
  unfold wp_X11_totalCost at h
  refine Cn.of pn_RX11 (Nat.le_of_ble_eq_true rfl) (fun X hG hX hR => ?_)
  subst hG
  have hX : Cx X cX11_totalCost 1 RX11 (rmN 6 144) := hX
  show J X (0, 0) 0 [(0, .ref (ad 0))] [] (fl ad m)
  refine J_aload_n hX dX11_totalCost_0 rfl 0 rfl ?_
  refine J_getR hX kf_RX11_55 dX11_totalCost_1 ka_0 (by decide) rfl rh_0_8 ?_
  refine J_aload_n hX dX11_totalCost_4 rfl 0 rfl ?_
  refine J_getR hX kf_RX11_10 dX11_totalCost_5 ka_0 (by decide) rfl rh_0_0 ?_
  refine J_callV hX km_X4_collect kl_RX11_328 dX11_totalCost_8 ka_264 (by decide) [.ref (ad 1)] ⟨Nat.le_of_ble_eq_true rfl, Nat.le_of_ble_eq_true rfl⟩ rfl rfl (Nat.le_of_ble_eq_true rfl) (c_X4_collect 1 ka_1 m _ h) (fun v w2 hk => ?_)
  obtain ⟨m1, rfl, rfl, h⟩ := hk
  show J X (0, 0) 11 [(0, .ref (ad 0))] [] (fl ad m1)
  refine J_aload_n hX dX11_totalCost_11 rfl 0 rfl ?_
  refine J_getR hX kf_RX11_55 dX11_totalCost_12 ka_0 (by decide) rfl rh_0_8 ?_
  refine J_getL hX kf_RX11_337 dX11_totalCost_15 ka_264 (by decide) rfl ?_
  exact J_lret hX hR dX11_totalCost_18 ⟨_, _, rfl, rfl, h⟩
set_option maxRecDepth 100000 in
theorem c_X11_type {G : GT} {ad : Nat → Nat} (x1 : Int32) (m : Mm) (K : Int32 → Mm → Prop) (h : wp_X11_type x1 m K) : Cn G yX11_type cX11_type 2 (some .int) (rmN 0 0) [.ref (ad 0), .int x1] (0, 0) (fl ad m) (kI ad K) := by
  unfold wp_X11_type at h
  refine Cn.of pn_RX11 (Nat.le_of_ble_eq_true rfl) (fun X hG hX hR => ?_)
  subst hG
  have hX : Cx X cX11_type 2 RX11 (rmN 0 0) := hX
  show J X (0, 0) 0 [(0, .ref (ad 0)), (1, .int x1)] [] (fl ad m)
  refine J_iload_n hX dX11_type_0 rfl 1 rfl ?_
  refine J_if_lt (tgt := 10) hX dX11_type_1 (by decide) (fun c1 => ?_) (fun c1 => ?_)
  · replace h := Eq.mp (if_pos c1) h
    refine J_iconst (v := (-1 : Int32)) hX dX11_type_10 (by decide) ?_
    exact J_iret hX hR dX11_type_11 ⟨_, _, rfl, rfl, h⟩
  · replace h := Eq.mp (if_neg c1) h
    refine J_iload_n hX dX11_type_4 rfl 1 rfl ?_
    refine J_bipush (v := (127 : Int32)) hX dX11_type_5 (by decide) ?_
    refine J_icmp_le (tgt := 12) hX dX11_type_7 (by decide) (fun c2 => ?_) (fun c2 => ?_)
    · replace h := Eq.mp (if_pos c2) h
      refine J_aload_n hX dX11_type_12 rfl 0 rfl ?_
      refine J_getI hX kf_RX11_82 dX11_type_13 ka_0 (by decide) rfl ?_
      refine J_if_lt (tgt := 31) hX dX11_type_16 (by decide) (fun c3 => ?_) (fun c3 => ?_)
      · replace h := Eq.mp (if_pos c3) h
        refine J_bipush (v := (-3 : Int32)) hX dX11_type_31 (by decide) ?_
        exact J_iret hX hR dX11_type_33 ⟨_, _, rfl, rfl, h⟩
      · replace h := Eq.mp (if_neg c3) h
        refine J_aload_n hX dX11_type_19 rfl 0 rfl ?_
        refine J_getI hX kf_RX11_82 dX11_type_20 ka_0 (by decide) rfl ?_
        refine J_aload_n hX dX11_type_23 rfl 0 rfl ?_
        refine J_getR hX kf_RX11_34 dX11_type_24 ka_0 (by decide) rfl rh_0_5 ?_
        refine J_alen (v := (160 : Int32)) hX dX11_type_27 ka_241 (by decide) le_241 rfl ?_
        refine J_icmp_lt (tgt := 34) hX dX11_type_28 (by decide) (fun c4 => ?_) (fun c4 => ?_)
        · replace h := Eq.mp (if_pos c4) h
          refine J_aload_n hX dX11_type_34 rfl 0 rfl ?_
          refine J_getR hX kf_RX11_34 dX11_type_35 ka_0 (by decide) rfl rh_0_5 ?_
          refine J_aload_n hX dX11_type_38 rfl 0 rfl ?_
          refine J_getI hX kf_RX11_82 dX11_type_39 ka_0 (by decide) rfl ?_
          refine J_iload_n hX dX11_type_42 rfl 1 rfl ?_
          refine J_iast (j := (m.1 0 14).toNatClampNeg) hX dX11_type_43 ka_241 le_241 (vp_b (lo_2 c3) (up_1 c4 (by decide))) rfl ?_
          refine J_nmM (fun m5 e_m5 => ?_)
          replace h := h m5 e_m5
          refine J_aload_n hX dX11_type_44 rfl 0 rfl ?_
          refine J_dup hX dX11_type_45 rfl ?_
          refine J_getI hX kf_RX11_82 dX11_type_46 ka_0 (by decide) rfl ?_
          refine J_iconst (v := (1 : Int32)) hX dX11_type_49 (by decide) ?_
          refine J_iadd hX dX11_type_50 ?_
          refine J_putI hX kf_RX11_82 dX11_type_51 ka_0 (by decide) rfl ?_
          refine J_nmM (fun m6 e_m6 => ?_)
          replace h := h m6 e_m6
          refine J_aload_n hX dX11_type_54 rfl 0 rfl ?_
          refine J_getI hX kf_RX11_82 dX11_type_55 ka_0 (by decide) rfl ?_
          exact J_iret hX hR dX11_type_58 ⟨_, _, rfl, rfl, h⟩
        · replace h := Eq.mp (if_neg c4) h
          refine J_bipush (v := (-3 : Int32)) hX dX11_type_31 (by decide) ?_
          exact J_iret hX hR dX11_type_33 ⟨_, _, rfl, rfl, h⟩
    · replace h := Eq.mp (if_neg c2) h
      refine J_iconst (v := (-1 : Int32)) hX dX11_type_10 (by decide) ?_
      exact J_iret hX hR dX11_type_11 ⟨_, _, rfl, rfl, h⟩
set_option maxRecDepth 100000 in
theorem c_X6_recall {G : GT} {ad : Nat → Nat} (a1 : Nat) (h1 : kap a1 = 3) (m : Mm) (K : Mm → Prop) (h : wp_X6_recall a1 m K) : Cn G yX6_recall cX6_recall 5 none (rmN 2 43) [.ref (ad 33), .ref (ad a1), .ref (ad 265), .ref (ad 266)] (0, 0) (fl ad m) (kV ad K) := by
  unfold wp_X6_recall at h
  refine Cn.of pn_RX6 (Nat.le_of_ble_eq_true rfl) (fun X hG hX hR => ?_)
  subst hG
  have hX : Cx X cX6_recall 5 RX6 (rmN 2 43) := hX
  show J X (0, 0) 0 [(0, .ref (ad 33)), (1, .ref (ad a1)), (2, .ref (ad 265)), (3, .ref (ad 266))] [] (fl ad m)
  refine J_aload_n hX dX6_recall_0 rfl 0 rfl ?_
  refine J_getI hX kf_RX6_9 dX6_recall_1 ka_33 (by decide) rfl ?_
  refine J_if_gt (tgt := 8) hX dX6_recall_4 (by decide) (fun c1 => ?_) (fun c1 => ?_)
  · replace h := Eq.mp (if_pos c1) h
    refine J_aload_n hX dX6_recall_8 rfl 0 rfl ?_
    refine J_dup hX dX6_recall_9 rfl ?_
    refine J_getI hX kf_RX6_9 dX6_recall_10 ka_33 (by decide) rfl ?_
    refine J_iconst (v := (1 : Int32)) hX dX6_recall_13 (by decide) ?_
    refine J_isub hX dX6_recall_14 ?_
    refine J_putI hX kf_RX6_9 dX6_recall_15 ka_33 (by decide) rfl ?_
    refine J_nmM (fun m2 e_m2 => ?_)
    replace h := h m2 e_m2
    refine J_aload_n hX dX6_recall_18 rfl 0 rfl ?_
    refine J_getI hX kf_RX6_15 dX6_recall_19 ka_33 (by decide) rfl ?_
    refine J_aload_n hX dX6_recall_22 rfl 0 rfl ?_
    refine J_getI hX kf_RX6_9 dX6_recall_23 ka_33 (by decide) rfl ?_
    refine J_iadd hX dX6_recall_26 ?_
    refine J_bipush (v := (12 : Int32)) hX dX6_recall_27 (by decide) ?_
    refine J_irem hX dX6_recall_29 (by decide) ?_
    refine J_nmI (fun y3 e_y3 => ?_)
    replace h := h y3 e_y3
    refine J_istore (lv2 := [(4, .int y3), (0, .ref (ad 33)), (1, .ref (ad a1)), (2, .ref (ad 265)), (3, .ref (ad 266))]) hX dX6_recall_30 (Nat.le_of_ble_eq_true rfl) rfl ?_
    refine J_aload_n hX dX6_recall_32 rfl 2 rfl ?_
    refine J_aload_n hX dX6_recall_33 rfl 1 rfl ?_
    refine J_getR hX kf_RX6_20 dX6_recall_34 ka_33 (by decide) rfl rh_33_2 ?_
    refine J_iload hX dX6_recall_37 0 rfl ?_
    obtain ⟨b4, h⟩ := h
    refine J_aald hX dX6_recall_39 (u := 1) (by decide) ka_34 le_34 b4 (re_34 (vp_lt b4)) ?_
    refine J_callV hX km_X3_become kl_RX6_33 dX6_recall_40 h1 (by decide) [.ref (ad (61 + 15 * y3.toNatClampNeg))] ⟨Nat.le_of_ble_eq_true rfl, Nat.le_of_ble_eq_true rfl⟩ rfl rfl (Nat.le_of_ble_eq_true rfl) (c_X3_become a1 h1 (61 + 15 * y3.toNatClampNeg) (ke_34 (vp_lt b4)) m2 _ h) (fun v w2 hk => ?_)
    obtain ⟨m5, rfl, rfl, h⟩ := hk
    show J X (0, 0) 43 [(4, .int y3), (0, .ref (ad 33)), (1, .ref (ad a1)), (2, .ref (ad 265)), (3, .ref (ad 266))] [] (fl ad m5)
    refine J_aload_n hX dX6_recall_43 rfl 1 rfl ?_
    refine J_getR hX kf_RX6_26 dX6_recall_44 ka_33 (by decide) rfl rh_33_3 ?_
    refine J_iload hX dX6_recall_47 0 rfl ?_
    refine J_aaldA hX dX6_recall_49 ka_35 le_35 b4 (re_35 (vp_lt b4)) ?_
    refine J_aload_n hX dX6_recall_50 rfl 3 rfl ?_
    refine J_callS hX km_X6_copy kl_RX6_37 dX6_recall_51 [.ref (ad (36 + y3.toNatClampNeg)), .ref (ad 265)] ⟨Nat.le_of_ble_eq_true rfl, Nat.le_of_ble_eq_true rfl⟩ rfl rfl (Nat.le_of_ble_eq_true rfl) (c_X6_copy (36 + y3.toNatClampNeg) (ke_35 (vp_lt b4)) 265 ka_265 m5 _ h) (fun v w2 hk => ?_)
    obtain ⟨m6, rfl, rfl, h⟩ := hk
    show J X (0, 0) 54 [(4, .int y3), (0, .ref (ad 33)), (1, .ref (ad a1)), (2, .ref (ad 265)), (3, .ref (ad 266))] [] (fl ad m6)
    refine J_aload_n hX dX6_recall_54 rfl 1 rfl ?_
    refine J_getR hX kf_RX6_29 dX6_recall_55 ka_33 (by decide) rfl rh_33_4 ?_
    refine J_iload hX dX6_recall_58 0 rfl ?_
    refine J_aaldA hX dX6_recall_60 ka_48 le_48 b4 (re_48 (vp_lt b4)) ?_
    refine J_aload_n hX dX6_recall_61 rfl 4 rfl ?_
    refine J_callS hX km_X6_copy kl_RX6_37 dX6_recall_62 [.ref (ad (49 + y3.toNatClampNeg)), .ref (ad 266)] ⟨Nat.le_of_ble_eq_true rfl, Nat.le_of_ble_eq_true rfl⟩ rfl rfl (Nat.le_of_ble_eq_true rfl) (c_X6_copy (49 + y3.toNatClampNeg) (ke_48 (vp_lt b4)) 266 ka_266 m6 _ h) (fun v w2 hk => ?_)
    obtain ⟨m7, rfl, rfl, h⟩ := hk
    show J X (0, 0) 65 [(4, .int y3), (0, .ref (ad 33)), (1, .ref (ad a1)), (2, .ref (ad 265)), (3, .ref (ad 266))] [] (fl ad m7)
    exact J_vret hX hR dX6_recall_65 ⟨_, rfl, rfl, h⟩
  · replace h := Eq.mp (if_neg c1) h
    exact J_vret hX hR dX6_recall_7 ⟨_, rfl, rfl, h⟩
set_option maxRecDepth 100000 in
theorem c_X11_undo {G : GT} {ad : Nat → Nat} (m : Mm) (K : Int32 → Mm → Prop) (h : wp_X11_undo m K) : Cn G yX11_undo cX11_undo 1 (some .int) (rmN 3 67) [.ref (ad 0)] (0, 0) (fl ad m) (kI ad K) := by
  unfold wp_X11_undo at h
  refine Cn.of pn_RX11 (Nat.le_of_ble_eq_true rfl) (fun X hG hX hR => ?_)
  subst hG
  have hX : Cx X cX11_undo 1 RX11 (rmN 3 67) := hX
  show J X (0, 0) 0 [(0, .ref (ad 0))] [] (fl ad m)
  refine J_aload_n hX dX11_undo_0 rfl 0 rfl ?_
  refine J_getR hX kf_RX11_30 dX11_undo_1 ka_0 (by decide) rfl rh_0_4 ?_
  refine J_getI hX kf_RX11_214 dX11_undo_4 ka_33 (by decide) rfl ?_
  refine J_if_ne (tgt := 13) hX dX11_undo_7 (by decide) (fun c1 => ?_) (fun c1 => ?_)
  · replace h := Eq.mp (if_neg c1) h
    refine J_aload_n hX dX11_undo_13 rfl 0 rfl ?_
    refine J_getR hX kf_RX11_30 dX11_undo_14 ka_0 (by decide) rfl rh_0_4 ?_
    refine J_aload_n hX dX11_undo_17 rfl 0 rfl ?_
    refine J_getR hX kf_RX11_10 dX11_undo_18 ka_0 (by decide) rfl rh_0_0 ?_
    refine J_aload_n hX dX11_undo_21 rfl 0 rfl ?_
    refine J_getR hX kf_RX11_77 dX11_undo_22 ka_0 (by decide) rfl rh_0_12 ?_
    refine J_aload_n hX dX11_undo_25 rfl 0 rfl ?_
    refine J_getR hX kf_RX11_81 dX11_undo_26 ka_0 (by decide) rfl rh_0_13 ?_
    refine J_callV hX km_X6_recall kl_RX11_217 dX11_undo_29 ka_33 (by decide) [.ref (ad 1), .ref (ad 265), .ref (ad 266)] ⟨Nat.le_of_ble_eq_true rfl, Nat.le_of_ble_eq_true rfl⟩ rfl rfl (Nat.le_of_ble_eq_true rfl) (c_X6_recall 1 ka_1 m _ h) (fun v w2 hk => ?_)
    obtain ⟨m2, rfl, rfl, h⟩ := hk
    show J X (0, 0) 32 [(0, .ref (ad 0))] [] (fl ad m2)
    refine J_aload_n hX dX11_undo_32 rfl 0 rfl ?_
    refine J_getR hX kf_RX11_30 dX11_undo_33 ka_0 (by decide) rfl rh_0_4 ?_
    refine J_getI hX kf_RX11_214 dX11_undo_36 ka_33 (by decide) rfl ?_
    exact J_iret hX hR dX11_undo_39 ⟨_, _, rfl, rfl, h⟩
  · replace h := Eq.mp (if_pos c1) h
    refine J_bipush (v := (-2 : Int32)) hX dX11_undo_10 (by decide) ?_
    exact J_iret hX hR dX11_undo_12 ⟨_, _, rfl, rfl, h⟩
set_option maxRecDepth 100000 in
theorem tb_X5_enclosed_l5 {X : XT} {ad : Nat → Nat} {K : Int64 → Mm → Prop} (hX : Cx X cX5_enclosed 9 RX5 (rmN 1 21)) (hR : Rx X (some .long) (kL ad K) (0, 0)) {rec : Int64 → Int32 → Mm → Prop} {k94 : Int64 → Mm → Prop} (a1 : Nat) (h1 : kap a1 = 3) (hrec : ∀ (x2 : Int64) (x4 : Int32) (m : Mm), rec x2 x4 m → J X (0, 0) 5 [(0, .ref (ad 269)), (1, .ref (ad a1)), (2, .long x2), (4, .int x4)] [] (fl ad m)) (hk94 : ∀ (z2 : Int64) (m : Mm), k94 z2 m → J X (0, 0) 94 [(2, .long z2)] [] (fl ad m)) (x2 : Int64) (x4 : Int32) (m : Mm) (h : wb_X5_enclosed_l5 rec k94 K a1 x2 x4 m) : J X (0, 0) 5 [(0, .ref (ad 269)), (1, .ref (ad a1)), (2, .long x2), (4, .int x4)] [] (fl ad m) := by
  unfold wb_X5_enclosed_l5 at h
  refine J_iload hX dX5_enclosed_5 3 rfl ?_
  refine J_aload_n hX dX5_enclosed_7 rfl 0 rfl ?_
  refine J_getI hX kf_RX5_9 dX5_enclosed_8 ka_269 (by decide) rfl ?_
  refine J_icmp_ge (tgt := 94) hX dX5_enclosed_11 (by decide) (fun c1 => ?_) (fun c1 => ?_)
  · replace h := Eq.mp (if_pos c1) h
    exact J_sub [2] rfl (hk94 x2 m h)
  · replace h := Eq.mp (if_neg c1) h
    refine J_aload_n hX dX5_enclosed_14 rfl 1 rfl ?_
    refine J_iload hX dX5_enclosed_15 3 rfl ?_
    refine J_callV hX km_X3_panelAt kl_RX5_43 dX5_enclosed_17 h1 (by decide) [.int x4] ⟨Nat.le_of_ble_eq_true rfl, Nat.le_of_ble_eq_true rfl⟩ rfl rfl (Nat.le_of_ble_eq_true rfl) (c_X3_panelAt a1 h1 x4 m) (fun v w2 hk => ?_)
    obtain ⟨rfl, rfl⟩ := hk
    show J X (0, 0) 20 [(0, .ref (ad 269)), (1, .ref (ad a1)), (2, .long x2), (4, .int x4)] [.ref (ad (v_X3_panelAt a1 x4))] (fl ad m)
    refine J_astore (lv2 := [(5, .ref (ad (v_X3_panelAt a1 x4))), (0, .ref (ad 269)), (1, .ref (ad a1)), (2, .long x2), (4, .int x4)]) hX dX5_enclosed_20 (Nat.le_of_ble_eq_true rfl) rfl ?_
    refine J_aload_n hX dX5_enclosed_22 rfl 1 rfl ?_
    refine J_iload hX dX5_enclosed_23 4 rfl ?_
    refine J_callV hX km_X5_poseAt kl_RX5_39 dX5_enclosed_25 ka_269 (by decide) [.int x4] ⟨Nat.le_of_ble_eq_true rfl, Nat.le_of_ble_eq_true rfl⟩ rfl rfl (Nat.le_of_ble_eq_true rfl) (c_X5_poseAt x4 m) (fun v w2 hk => ?_)
    obtain ⟨rfl, rfl⟩ := hk
    show J X (0, 0) 28 [(5, .ref (ad (v_X3_panelAt a1 x4))), (0, .ref (ad 269)), (1, .ref (ad a1)), (2, .long x2), (4, .int x4)] [.ref (ad (v_X5_poseAt x4))] (fl ad m)
    refine J_astore (lv2 := [(6, .ref (ad (v_X5_poseAt x4))), (5, .ref (ad (v_X3_panelAt a1 x4))), (0, .ref (ad 269)), (1, .ref (ad a1)), (2, .long x2), (4, .int x4)]) hX dX5_enclosed_28 (Nat.le_of_ble_eq_true rfl) rfl ?_
    refine J_aload hX dX5_enclosed_30 1 rfl ?_
    refine J_getI hX kf_RX5_94 dX5_enclosed_32 (kv_X3_panelAt h1) (by decide) rfl ?_
    refine J_i2l hX dX5_enclosed_35 ?_
    refine J_aload hX dX5_enclosed_36 1 rfl ?_
    refine J_getI hX kf_RX5_97 dX5_enclosed_38 (kv_X3_panelAt h1) (by decide) rfl ?_
    refine J_i2l hX dX5_enclosed_41 ?_
    refine J_lmul hX dX5_enclosed_42 ?_
    refine J_aload hX dX5_enclosed_43 0 rfl ?_
    refine J_aload hX dX5_enclosed_45 0 rfl ?_
    refine J_getI hX kf_RX5_66 dX5_enclosed_47 kv_X5_poseAt (by decide) rfl ?_
    refine J_iconst (v := (1 : Int32)) hX dX5_enclosed_50 (by decide) ?_
    refine J_ishr hX dX5_enclosed_51 ?_
    refine J_callV hX km_X8_lowOn kl_RX5_87 dX5_enclosed_52 kv_X5_poseAt (by decide) [.int ((m.1 (v_X5_poseAt x4) 0) >>> ((1 : Int32) &&& 31))] ⟨Nat.le_of_ble_eq_true rfl, Nat.le_of_ble_eq_true rfl⟩ rfl rfl (Nat.le_of_ble_eq_true rfl) (c_X8_lowOn (v_X5_poseAt x4) kv_X5_poseAt ((m.1 (v_X5_poseAt x4) 0) >>> ((1 : Int32) &&& 31)) m) (fun v w2 hk => ?_)
    obtain ⟨rfl, rfl⟩ := hk
    show J X (0, 0) 55 [(6, .ref (ad (v_X5_poseAt x4))), (5, .ref (ad (v_X3_panelAt a1 x4))), (0, .ref (ad 269)), (1, .ref (ad a1)), (2, .long x2), (4, .int x4)] [.int (v_X8_lowOn (v_X5_poseAt x4) ((m.1 (v_X5_poseAt x4) 0) >>> ((1 : Int32) &&& 31)) m), .long ((m.1 (v_X3_panelAt a1 x4) 13).toInt64 * (m.1 (v_X3_panelAt a1 x4) 14).toInt64)] (fl ad m)
    refine J_i2l hX dX5_enclosed_55 ?_
    refine J_lmul hX dX5_enclosed_56 ?_
    refine J_nmL (fun y2 e_y2 => ?_)
    replace h := h y2 e_y2
    refine J_lstore (lv2 := [(7, .long y2), (6, .ref (ad (v_X5_poseAt x4))), (5, .ref (ad (v_X3_panelAt a1 x4))), (0, .ref (ad 269)), (1, .ref (ad a1)), (2, .long x2), (4, .int x4)]) hX dX5_enclosed_57 (Nat.le_of_ble_eq_true rfl) rfl ?_
    refine J_aload hX dX5_enclosed_59 2 rfl ?_
    refine J_callV hX km_X7_isFlap kl_RX5_106 dX5_enclosed_61 (kv_X3_panelAt h1) (by decide) [] ⟨Nat.le_of_ble_eq_true rfl, Nat.le_of_ble_eq_true rfl⟩ rfl rfl (Nat.le_of_ble_eq_true rfl) (c_X7_isFlap (v_X3_panelAt a1 x4) (kv_X3_panelAt h1) m) (fun v w2 hk => ?_)
    obtain ⟨rfl, rfl⟩ := hk
    show J X (0, 0) 64 [(7, .long y2), (6, .ref (ad (v_X5_poseAt x4))), (5, .ref (ad (v_X3_panelAt a1 x4))), (0, .ref (ad 269)), (1, .ref (ad a1)), (2, .long x2), (4, .int x4)] [.int (v_X7_isFlap (v_X3_panelAt a1 x4) m)] (fl ad m)
    have hj6 : ∀ y5 : Int64, y5 = (if (v_X7_isFlap (v_X3_panelAt a1 x4) m) = (0 : Int32) then (x2 + (if ((m.1 (v_X5_poseAt x4) 0) &&& (1 : Int32)) = (0 : Int32) then y2 else (-y2))) else x2) → J X (0, 0) 88 [(0, .ref (ad 269)), (1, .ref (ad a1)), (2, .long y5), (4, .int x4)] [] (fl ad m) := by
      intro y5 e_y5
      replace h := h y5 e_y5
      refine J_iinc (x := (x4 + (1 : Int32))) (lv2 := [(4, .int (x4 + (1 : Int32))), (0, .ref (ad 269)), (1, .ref (ad a1)), (2, .long y5)]) hX dX5_enclosed_88 3 rfl rfl (Nat.le_of_ble_eq_true rfl) rfl ?_
      refine J_goto (tgt := 5) hX dX5_enclosed_91 (by decide) ?_
      exact J_sub [1, 2, 3, 0] rfl (hrec y5 (x4 + (1 : Int32)) m h)
    refine J_if_ne (tgt := 88) hX dX5_enclosed_64 (by decide) (fun c3 => ?_) (fun c3 => ?_)
    · exact J_sub [3, 4, 5, 6] rfl (hj6 _ (if_neg c3).symm)
    · refine J_lload_n hX dX5_enclosed_67 rfl 5 rfl ?_
      refine J_aload hX dX5_enclosed_68 1 rfl ?_
      refine J_getI hX kf_RX5_66 dX5_enclosed_70 kv_X5_poseAt (by decide) rfl ?_
      refine J_iconst (v := (1 : Int32)) hX dX5_enclosed_73 (by decide) ?_
      refine J_iand hX dX5_enclosed_74 ?_
      have hj7 : ∀ y8 : Int64, y8 = (if ((m.1 (v_X5_poseAt x4) 0) &&& (1 : Int32)) = (0 : Int32) then y2 else (-y2)) → J X (0, 0) 86 [(0, .ref (ad 269)), (1, .ref (ad a1)), (4, .int x4)] [.long y8, .long x2] (fl ad m) := by
        intro y8 e_y8
        subst e_y8
        refine J_ladd hX dX5_enclosed_86 ?_
        refine J_lstore_n (lv2 := [(2, .long (x2 + (if ((m.1 (v_X5_poseAt x4) 0) &&& (1 : Int32)) = (0 : Int32) then y2 else (-y2)))), (0, .ref (ad 269)), (1, .ref (ad a1)), (4, .int x4)]) hX dX5_enclosed_87 rfl (Nat.le_of_ble_eq_true rfl) rfl ?_
        exact J_sub [1, 2, 0, 3] rfl (hj6 _ (if_pos c3).symm)
      refine J_if_ne (tgt := 83) hX dX5_enclosed_75 (by decide) (fun c4 => ?_) (fun c4 => ?_)
      · refine J_lload hX dX5_enclosed_83 0 rfl ?_
        refine J_lneg hX dX5_enclosed_85 ?_
        exact J_sub [3, 4, 6] rfl (hj7 _ (if_neg c4).symm)
      · refine J_lload hX dX5_enclosed_78 0 rfl ?_
        refine J_goto (tgt := 86) hX dX5_enclosed_80 (by decide) ?_
        exact J_sub [3, 4, 6] rfl (hj7 _ (if_pos c4).symm)
set_option maxRecDepth 100000 in
theorem t_X5_enclosed_l5 {X : XT} {ad : Nat → Nat} {K : Int64 → Mm → Prop} (hX : Cx X cX5_enclosed 9 RX5 (rmN 1 21)) (hR : Rx X (some .long) (kL ad K) (0, 0)) {k94 : Int64 → Mm → Prop} (a1 : Nat) (h1 : kap a1 = 3) (hk94 : ∀ (z2 : Int64) (m : Mm), k94 z2 m → J X (0, 0) 94 [(2, .long z2)] [] (fl ad m)) : ∀ (n : Nat) (x2 : Int64) (x4 : Int32) (m : Mm), wp_X5_enclosed_l5 k94 K a1 n x2 x4 m → J X (0, 0) 5 [(0, .ref (ad 269)), (1, .ref (ad a1)), (2, .long x2), (4, .int x4)] [] (fl ad m) := by
  intro n
  induction n with
  | zero => intro x2 x4 m h; exact h.elim
  | succ n ih => intro x2 x4 m h; exact tb_X5_enclosed_l5 hX hR a1 h1 ih hk94 x2 x4 m h
set_option maxRecDepth 100000 in
theorem c_X5_enclosed {G : GT} {ad : Nat → Nat} (a1 : Nat) (h1 : kap a1 = 3) (m : Mm) (K : Int64 → Mm → Prop) (h : wp_X5_enclosed a1 m K) : Cn G yX5_enclosed cX5_enclosed 9 (some .long) (rmN 1 21) [.ref (ad 269), .ref (ad a1)] (0, 0) (fl ad m) (kL ad K) := by
  unfold wp_X5_enclosed at h
  refine Cn.of pn_RX5 (Nat.le_of_ble_eq_true rfl) (fun X hG hX hR => ?_)
  subst hG
  have hX : Cx X cX5_enclosed 9 RX5 (rmN 1 21) := hX
  show J X (0, 0) 0 [(0, .ref (ad 269)), (1, .ref (ad a1))] [] (fl ad m)
  refine J_lconst (v := (0 : Int64)) hX dX5_enclosed_0 (by decide) ?_
  refine J_lstore_n (lv2 := [(2, .long (0 : Int64)), (0, .ref (ad 269)), (1, .ref (ad a1))]) hX dX5_enclosed_1 rfl (Nat.le_of_ble_eq_true rfl) rfl ?_
  refine J_iconst (v := (0 : Int32)) hX dX5_enclosed_2 (by decide) ?_
  refine J_istore (lv2 := [(4, .int (0 : Int32)), (2, .long (0 : Int64)), (0, .ref (ad 269)), (1, .ref (ad a1))]) hX dX5_enclosed_3 (Nat.le_of_ble_eq_true rfl) rfl ?_
  refine J_sub [2, 3, 1, 0] rfl (t_X5_enclosed_l5 hX hR a1 h1 (fun y9 m10 h => ?_) FU (0 : Int64) (0 : Int32) m h)
  refine J_lload_n hX dX5_enclosed_94 rfl 0 rfl ?_
  refine J_mabsl hX kl_RX5_110 dX5_enclosed_95 (Nat.le_of_ble_eq_true rfl) (Nat.le_of_ble_eq_true rfl) ⟨Nat.le_of_ble_eq_true rfl, Nat.le_of_ble_eq_true rfl⟩ ?_
  refine J_ldc2 hX kc_RX5_113 dX5_enclosed_98 ?_
  refine J_ldiv hX dX5_enclosed_101 (by decide) ?_
  exact J_lret hX hR dX5_enclosed_102 ⟨_, _, rfl, rfl, h⟩
set_option maxRecDepth 100000 in
theorem c_X11_volume {G : GT} {ad : Nat → Nat} (m : Mm) (K : Int64 → Mm → Prop) (h : wp_X11_volume m K) : Cn G yX11_volume cX11_volume 1 (some .long) (rmN 5 119) [.ref (ad 0)] (0, 0) (fl ad m) (kL ad K) := by
  unfold wp_X11_volume at h
  refine Cn.of pn_RX11 (Nat.le_of_ble_eq_true rfl) (fun X hG hX hR => ?_)
  subst hG
  have hX : Cx X cX11_volume 1 RX11 (rmN 5 119) := hX
  show J X (0, 0) 0 [(0, .ref (ad 0))] [] (fl ad m)
  refine J_aload_n hX dX11_volume_0 rfl 0 rfl ?_
  refine J_callV hX km_X11_findSeams kl_RX11_181 dX11_volume_1 ka_0 (by decide) [] ⟨Nat.le_of_ble_eq_true rfl, Nat.le_of_ble_eq_true rfl⟩ rfl rfl (Nat.le_of_ble_eq_true rfl) (c_X11_findSeams m _ h) (fun v w2 hk => ?_)
  obtain ⟨m1, rfl, rfl, h⟩ := hk
  show J X (0, 0) 4 [(0, .ref (ad 0))] [] (fl ad m1)
  refine J_aload_n hX dX11_volume_4 rfl 0 rfl ?_
  refine J_getR hX kf_RX11_10 dX11_volume_5 ka_0 (by decide) rfl rh_0_0 ?_
  refine J_getI hX kf_RX11_220 dX11_volume_8 ka_1 (by decide) rfl ?_
  refine J_if_eq (tgt := 28) hX dX11_volume_11 (by decide) (fun c2 => ?_) (fun c2 => ?_)
  · replace h := Eq.mp (if_pos c2) h
    refine J_ldc2 hX kc_RX11_295 dX11_volume_28 ?_
    exact J_lret hX hR dX11_volume_31 ⟨_, _, rfl, rfl, h⟩
  · replace h := Eq.mp (if_neg c2) h
    refine J_aload_n hX dX11_volume_14 rfl 0 rfl ?_
    refine J_getR hX kf_RX11_55 dX11_volume_15 ka_0 (by decide) rfl rh_0_8 ?_
    refine J_aload_n hX dX11_volume_18 rfl 0 rfl ?_
    refine J_getR hX kf_RX11_10 dX11_volume_19 ka_0 (by decide) rfl rh_0_0 ?_
    refine J_callV hX km_X4_anyOpen kl_RX11_291 dX11_volume_22 ka_264 (by decide) [.ref (ad 1)] ⟨Nat.le_of_ble_eq_true rfl, Nat.le_of_ble_eq_true rfl⟩ rfl rfl (Nat.le_of_ble_eq_true rfl) (c_X4_anyOpen 1 ka_1 m1 _ h) (fun v w2 hk => ?_)
    obtain ⟨y4, m3, rfl, rfl, h⟩ := hk
    show J X (0, 0) 25 [(0, .ref (ad 0))] [.int y4] (fl ad m3)
    refine J_if_eq (tgt := 32) hX dX11_volume_25 (by decide) (fun c5 => ?_) (fun c5 => ?_)
    · replace h := Eq.mp (if_pos c5) h
      refine J_aload_n hX dX11_volume_32 rfl 0 rfl ?_
      refine J_getR hX kf_RX11_73 dX11_volume_33 ka_0 (by decide) rfl rh_0_11 ?_
      refine J_aload_n hX dX11_volume_36 rfl 0 rfl ?_
      refine J_getR hX kf_RX11_10 dX11_volume_37 ka_0 (by decide) rfl rh_0_0 ?_
      refine J_callV hX km_X5_enclosed kl_RX11_297 dX11_volume_40 ka_269 (by decide) [.ref (ad 1)] ⟨Nat.le_of_ble_eq_true rfl, Nat.le_of_ble_eq_true rfl⟩ rfl rfl (Nat.le_of_ble_eq_true rfl) (c_X5_enclosed 1 ka_1 m3 _ h) (fun v w2 hk => ?_)
      obtain ⟨y7, m6, rfl, rfl, h⟩ := hk
      show J X (0, 0) 43 [(0, .ref (ad 0))] [.long y7] (fl ad m6)
      exact J_lret hX hR dX11_volume_43 ⟨_, _, rfl, rfl, h⟩
    · replace h := Eq.mp (if_neg c5) h
      refine J_ldc2 hX kc_RX11_295 dX11_volume_28 ?_
      exact J_lret hX hR dX11_volume_31 ⟨_, _, rfl, rfl, h⟩
set_option maxRecDepth 100000 in
theorem tb_X12_begins_l7 {X : XT} {ad : Nat → Nat} {K : Mm → Prop} (hX : Cx X cX12_begins 2 RX12 (rmN 0 0)) (hR : Rx X none (kV ad K) (0, 0)) {rec : Int32 → Mm → Prop} (hrec : ∀ (x1 : Int32) (m : Mm), rec x1 m → J X (0, 0) 7 [(0, .ref (ad 426)), (1, .int x1)] [] (fl ad m)) (x1 : Int32) (m : Mm) (h : wb_X12_begins_l7 rec K x1 m) : J X (0, 0) 7 [(0, .ref (ad 426)), (1, .int x1)] [] (fl ad m) := by
  unfold wb_X12_begins_l7 at h
  refine J_iload_n hX dX12_begins_7 rfl 1 rfl ?_
  refine J_sipush (v := (137 : Int32)) hX dX12_begins_8 (by decide) ?_
  refine J_icmp_ge (tgt := 32) hX dX12_begins_11 (by decide) (fun c2 => ?_) (fun c2 => ?_)
  · replace h := Eq.mp (if_pos c2) h
    exact J_vret hX hR dX12_begins_32 ⟨_, rfl, rfl, h⟩
  · replace h := Eq.mp (if_neg c2) h
    refine J_aload_n hX dX12_begins_14 rfl 0 rfl ?_
    refine J_getR hX kf_RX12_13 dX12_begins_15 ka_426 (by decide) rfl rh_426_1 ?_
    refine J_iload_n hX dX12_begins_18 rfl 1 rfl ?_
    refine J_aload_n hX dX12_begins_19 rfl 0 rfl ?_
    refine J_getR hX kf_RX12_7 dX12_begins_20 ka_426 (by decide) rfl rh_426_0 ?_
    refine J_iload_n hX dX12_begins_23 rfl 1 rfl ?_
    obtain ⟨b3, h⟩ := h
    refine J_iald (j := x1.toNatClampNeg) hX dX12_begins_24 ka_427 le_427 b3 rfl ?_
    refine J_iast (j := x1.toNatClampNeg) hX dX12_begins_25 ka_428 le_428 b3 rfl ?_
    refine J_nmM (fun m4 e_m4 => ?_)
    replace h := h m4 e_m4
    refine J_iinc (x := (x1 + (1 : Int32))) (lv2 := [(1, .int (x1 + (1 : Int32))), (0, .ref (ad 426))]) hX dX12_begins_26 1 rfl rfl (Nat.le_of_ble_eq_true rfl) rfl ?_
    refine J_goto (tgt := 7) hX dX12_begins_29 (by decide) ?_
    exact J_sub [1, 0] rfl (hrec (x1 + (1 : Int32)) m4 h)
set_option maxRecDepth 100000 in
theorem t_X12_begins_l7 {X : XT} {ad : Nat → Nat} {K : Mm → Prop} (hX : Cx X cX12_begins 2 RX12 (rmN 0 0)) (hR : Rx X none (kV ad K) (0, 0))  : ∀ (n : Nat) (x1 : Int32) (m : Mm), wp_X12_begins_l7 K n x1 m → J X (0, 0) 7 [(0, .ref (ad 426)), (1, .int x1)] [] (fl ad m) := by
  intro n
  induction n with
  | zero => intro x1 m h; exact h.elim
  | succ n ih => intro x1 m h; exact tb_X12_begins_l7 hX hR ih x1 m h
set_option maxRecDepth 100000 in
theorem c_X12_begins {G : GT} {ad : Nat → Nat} (m : Mm) (K : Mm → Prop) (h : wp_X12_begins m K) : Cn G yX12_begins cX12_begins 2 none (rmN 0 0) [.ref (ad 426)] (0, 0) (fl ad m) (kV ad K) := by
  unfold wp_X12_begins at h
  refine Cn.of pn_RX12 (Nat.le_of_ble_eq_true rfl) (fun X hG hX hR => ?_)
  subst hG
  have hX : Cx X cX12_begins 2 RX12 (rmN 0 0) := hX
  show J X (0, 0) 0 [(0, .ref (ad 426))] [] (fl ad m)
  refine J_aload_n hX dX12_begins_0 rfl 0 rfl ?_
  refine J_iconst (v := (0 : Int32)) hX dX12_begins_1 (by decide) ?_
  refine J_putZ hX kf_RX12_95 dX12_begins_2 ka_426 (by decide) rfl bo_0 ?_
  refine J_nmM (fun m1 e_m1 => ?_)
  replace h := h m1 e_m1
  refine J_iconst (v := (0 : Int32)) hX dX12_begins_5 (by decide) ?_
  refine J_istore_n (lv2 := [(1, .int (0 : Int32)), (0, .ref (ad 426))]) hX dX12_begins_6 rfl (Nat.le_of_ble_eq_true rfl) rfl ?_
  refine J_sub [1, 0] rfl (t_X12_begins_l7 hX hR FU (0 : Int32) m1 h)
set_option maxRecDepth 100000 in
theorem c_X12_many {G : GT} {ad : Nat → Nat} (m : Mm) : Cn G yX12_many cX12_many 1 (some .int) (rmN 0 0) [.ref (ad 426)] (0, 0) (fl ad m) (fun v w => v = some (.int (v_X12_many m)) ∧ w = fl ad m) := by
  refine Cn.of pn_RX12 (Nat.le_of_ble_eq_true rfl) (fun X hG hX hR => ?_)
  subst hG
  have hX : Cx X cX12_many 1 RX12 (rmN 0 0) := hX
  show J X (0, 0) 0 [(0, .ref (ad 426))] [] (fl ad m)
  refine J_aload_n hX dX12_many_0 rfl 0 rfl ?_
  refine J_getR hX kf_RX12_7 dX12_many_1 ka_426 (by decide) rfl rh_426_0 ?_
  refine J_iconst (v := (2 : Int32)) hX dX12_many_4 (by decide) ?_
  refine J_iald (j := 2) hX dX12_many_5 ka_427 le_427 (vp_lit (by decide)) (by decide) ?_
  exact J_iret hX hR dX12_many_6 (And.intro (congrArg (fun z => some (Value.int z)) (show (m.1 427 2) = v_X12_many m from rfl)) rfl)
theorem bv_X12_in (x0 : Int32) (x1 : Int32) (x2 : Int32) : bo (v_X12_in x0 x1 x2) := (bo_ite bo_0 (bo_ite bo_0 bo_1))
set_option maxRecDepth 100000 in
theorem c_X12_in {G : GT} {ad : Nat → Nat} (x0 : Int32) (x1 : Int32) (x2 : Int32) (m : Mm) : Cn G yX12_in cX12_in 3 (some .boolean) (rmN 0 0) [.int x0, .int x1, .int x2] (0, 0) (fl ad m) (fun v w => v = some (.int (v_X12_in x0 x1 x2)) ∧ w = fl ad m) := by
  refine Cn.of pn_RX12 (Nat.le_of_ble_eq_true rfl) (fun X hG hX hR => ?_)
  subst hG
  have hX : Cx X cX12_in 3 RX12 (rmN 0 0) := hX
  show J X (0, 0) 0 [(0, .int x0), (1, .int x1), (2, .int x2)] [] (fl ad m)
  refine J_iload_n hX dX12_in_0 rfl 0 rfl ?_
  refine J_iload_n hX dX12_in_1 rfl 1 rfl ?_
  have hj3 : ∀ y4 : Int32, y4 = (if x0 < x1 then (0 : Int32) else (if x2 < x0 then (0 : Int32) else (1 : Int32))) → J X (0, 0) 15 [] [.int y4] (fl ad m) := by
    intro y4 e_y4
    subst e_y4
    exact J_zret hX hR dX12_in_15 (bo_ite bo_0 (bo_ite bo_0 bo_1)) (And.intro (congrArg (fun z => some (Value.int z)) (show (if x0 < x1 then (0 : Int32) else (if x2 < x0 then (0 : Int32) else (1 : Int32))) = v_X12_in x0 x1 x2 from rfl)) rfl)
  refine J_icmp_lt (tgt := 14) hX dX12_in_2 (by decide) (fun c1 => ?_) (fun c1 => ?_)
  · refine J_iconst (v := (0 : Int32)) hX dX12_in_14 (by decide) ?_
    exact J_sub [] rfl (hj3 _ (if_pos c1).symm)
  · refine J_iload_n hX dX12_in_5 rfl 0 rfl ?_
    refine J_iload_n hX dX12_in_6 rfl 2 rfl ?_
    refine J_icmp_gt (tgt := 14) hX dX12_in_7 (by decide) (fun c2 => ?_) (fun c2 => ?_)
    · refine J_iconst (v := (0 : Int32)) hX dX12_in_14 (by decide) ?_
      exact J_sub [] rfl (hj3 _ ((if_neg c1).trans (if_pos c2)).symm)
    · refine J_iconst (v := (1 : Int32)) hX dX12_in_10 (by decide) ?_
      refine J_goto (tgt := 15) hX dX12_in_11 (by decide) ?_
      exact J_sub [] rfl (hj3 _ ((if_neg c1).trans (if_neg c2)).symm)
theorem bv_X12_isPanel (x1 : Int32) (m : Mm) : bo (v_X12_isPanel x1 m) := (bv_X12_in x1 (0 : Int32) ((v_X12_many m) - (1 : Int32)))
set_option maxRecDepth 100000 in
theorem c_X12_isPanel {G : GT} {ad : Nat → Nat} (x1 : Int32) (m : Mm) : Cn G yX12_isPanel cX12_isPanel 2 (some .boolean) (rmN 1 22) [.ref (ad 426), .int x1] (0, 0) (fl ad m) (fun v w => v = some (.int (v_X12_isPanel x1 m)) ∧ w = fl ad m) := by
  refine Cn.of pn_RX12 (Nat.le_of_ble_eq_true rfl) (fun X hG hX hR => ?_)
  subst hG
  have hX : Cx X cX12_isPanel 2 RX12 (rmN 1 22) := hX
  show J X (0, 0) 0 [(0, .ref (ad 426)), (1, .int x1)] [] (fl ad m)
  refine J_iload_n hX dX12_isPanel_0 rfl 1 rfl ?_
  refine J_iconst (v := (0 : Int32)) hX dX12_isPanel_1 (by decide) ?_
  refine J_aload_n hX dX12_isPanel_2 rfl 0 rfl ?_
  refine J_callV hX km_X12_many kl_RX12_83 dX12_isPanel_3 ka_426 (by decide) [] ⟨Nat.le_of_ble_eq_true rfl, Nat.le_of_ble_eq_true rfl⟩ rfl rfl (Nat.le_of_ble_eq_true rfl) (c_X12_many m) (fun v w2 hk => ?_)
  obtain ⟨rfl, rfl⟩ := hk
  show J X (0, 0) 6 [(0, .ref (ad 426)), (1, .int x1)] [.int (v_X12_many m), .int (0 : Int32), .int x1] (fl ad m)
  refine J_iconst (v := (1 : Int32)) hX dX12_isPanel_6 (by decide) ?_
  refine J_isub hX dX12_isPanel_7 ?_
  refine J_callS hX km_X12_in kl_RX12_87 dX12_isPanel_8 [.int x1, .int (0 : Int32), .int ((v_X12_many m) - (1 : Int32))] ⟨Nat.le_of_ble_eq_true rfl, Nat.le_of_ble_eq_true rfl⟩ rfl rfl (Nat.le_of_ble_eq_true rfl) (c_X12_in x1 (0 : Int32) ((v_X12_many m) - (1 : Int32)) m) (fun v w2 hk => ?_)
  obtain ⟨rfl, rfl⟩ := hk
  show J X (0, 0) 11 [(0, .ref (ad 426)), (1, .int x1)] [.int (v_X12_in x1 (0 : Int32) ((v_X12_many m) - (1 : Int32)))] (fl ad m)
  exact J_zret hX hR dX12_isPanel_11 (bv_X12_in x1 (0 : Int32) ((v_X12_many m) - (1 : Int32))) (And.intro (congrArg (fun z => some (Value.int z)) (show (v_X12_in x1 (0 : Int32) ((v_X12_many m) - (1 : Int32))) = v_X12_isPanel x1 m from rfl)) rfl)
set_option maxRecDepth 100000 in
theorem tb_X12_refuse_l7 {X : XT} {ad : Nat → Nat} {K : Int32 → Mm → Prop} (hX : Cx X cX12_refuse 3 RX12 (rmN 0 0)) (hR : Rx X (some .int) (kI ad K) (0, 0)) {rec : Int32 → Mm → Prop} (x1 : Int32) (hrec : ∀ (x2 : Int32) (m : Mm), rec x2 m → J X (0, 0) 7 [(0, .ref (ad 426)), (1, .int x1), (2, .int x2)] [] (fl ad m)) (x2 : Int32) (m : Mm) (h : wb_X12_refuse_l7 rec K x1 x2 m) : J X (0, 0) 7 [(0, .ref (ad 426)), (1, .int x1), (2, .int x2)] [] (fl ad m) := by
  unfold wb_X12_refuse_l7 at h
  refine J_iload_n hX dX12_refuse_7 rfl 2 rfl ?_
  refine J_sipush (v := (137 : Int32)) hX dX12_refuse_8 (by decide) ?_
  refine J_icmp_ge (tgt := 32) hX dX12_refuse_11 (by decide) (fun c2 => ?_) (fun c2 => ?_)
  · replace h := Eq.mp (if_pos c2) h
    refine J_iload_n hX dX12_refuse_32 rfl 1 rfl ?_
    exact J_iret hX hR dX12_refuse_33 ⟨_, _, rfl, rfl, h⟩
  · replace h := Eq.mp (if_neg c2) h
    refine J_aload_n hX dX12_refuse_14 rfl 0 rfl ?_
    refine J_getR hX kf_RX12_7 dX12_refuse_15 ka_426 (by decide) rfl rh_426_0 ?_
    refine J_iload_n hX dX12_refuse_18 rfl 2 rfl ?_
    refine J_aload_n hX dX12_refuse_19 rfl 0 rfl ?_
    refine J_getR hX kf_RX12_13 dX12_refuse_20 ka_426 (by decide) rfl rh_426_1 ?_
    refine J_iload_n hX dX12_refuse_23 rfl 2 rfl ?_
    obtain ⟨b3, h⟩ := h
    refine J_iald (j := x2.toNatClampNeg) hX dX12_refuse_24 ka_428 le_428 b3 rfl ?_
    refine J_iast (j := x2.toNatClampNeg) hX dX12_refuse_25 ka_427 le_427 b3 rfl ?_
    refine J_nmM (fun m4 e_m4 => ?_)
    replace h := h m4 e_m4
    refine J_iinc (x := (x2 + (1 : Int32))) (lv2 := [(2, .int (x2 + (1 : Int32))), (0, .ref (ad 426)), (1, .int x1)]) hX dX12_refuse_26 2 rfl rfl (Nat.le_of_ble_eq_true rfl) rfl ?_
    refine J_goto (tgt := 7) hX dX12_refuse_29 (by decide) ?_
    exact J_sub [1, 2, 0] rfl (hrec (x2 + (1 : Int32)) m4 h)
set_option maxRecDepth 100000 in
theorem t_X12_refuse_l7 {X : XT} {ad : Nat → Nat} {K : Int32 → Mm → Prop} (hX : Cx X cX12_refuse 3 RX12 (rmN 0 0)) (hR : Rx X (some .int) (kI ad K) (0, 0)) (x1 : Int32) : ∀ (n : Nat) (x2 : Int32) (m : Mm), wp_X12_refuse_l7 K x1 n x2 m → J X (0, 0) 7 [(0, .ref (ad 426)), (1, .int x1), (2, .int x2)] [] (fl ad m) := by
  intro n
  induction n with
  | zero => intro x2 m h; exact h.elim
  | succ n ih => intro x2 m h; exact tb_X12_refuse_l7 hX hR x1 ih x2 m h
set_option maxRecDepth 100000 in
theorem c_X12_refuse {G : GT} {ad : Nat → Nat} (x1 : Int32) (m : Mm) (K : Int32 → Mm → Prop) (h : wp_X12_refuse x1 m K) : Cn G yX12_refuse cX12_refuse 3 (some .int) (rmN 0 0) [.ref (ad 426), .int x1] (0, 0) (fl ad m) (kI ad K) := by
  unfold wp_X12_refuse at h
  refine Cn.of pn_RX12 (Nat.le_of_ble_eq_true rfl) (fun X hG hX hR => ?_)
  subst hG
  have hX : Cx X cX12_refuse 3 RX12 (rmN 0 0) := hX
  show J X (0, 0) 0 [(0, .ref (ad 426)), (1, .int x1)] [] (fl ad m)
  refine J_aload_n hX dX12_refuse_0 rfl 0 rfl ?_
  refine J_iconst (v := (1 : Int32)) hX dX12_refuse_1 (by decide) ?_
  refine J_putZ hX kf_RX12_95 dX12_refuse_2 ka_426 (by decide) rfl bo_1 ?_
  refine J_nmM (fun m1 e_m1 => ?_)
  replace h := h m1 e_m1
  refine J_iconst (v := (0 : Int32)) hX dX12_refuse_5 (by decide) ?_
  refine J_istore_n (lv2 := [(2, .int (0 : Int32)), (0, .ref (ad 426)), (1, .int x1)]) hX dX12_refuse_6 rfl (Nat.le_of_ble_eq_true rfl) rfl ?_
  refine J_sub [1, 2, 0] rfl (t_X12_refuse_l7 hX hR x1 FU (0 : Int32) m1 h)
set_option maxRecDepth 100000 in
theorem c_X12_put {G : GT} {ad : Nat → Nat} (x1 : Int32) (x2 : Int32) (x3 : Int32) (m : Mm) (K : Mm → Prop) (h : wp_X12_put x1 x2 x3 m K) : Cn G yX12_put cX12_put 4 none (rmN 0 0) [.ref (ad 426), .int x1, .int x2, .int x3] (0, 0) (fl ad m) (kV ad K) := by
  unfold wp_X12_put at h
  refine Cn.of pn_RX12 (Nat.le_of_ble_eq_true rfl) (fun X hG hX hR => ?_)
  subst hG
  have hX : Cx X cX12_put 4 RX12 (rmN 0 0) := hX
  show J X (0, 0) 0 [(0, .ref (ad 426)), (1, .int x1), (2, .int x2), (3, .int x3)] [] (fl ad m)
  refine J_aload_n hX dX12_put_0 rfl 0 rfl ?_
  refine J_getR hX kf_RX12_7 dX12_put_1 ka_426 (by decide) rfl rh_426_0 ?_
  refine J_bipush (v := (11 : Int32)) hX dX12_put_4 (by decide) ?_
  refine J_bipush (v := (11 : Int32)) hX dX12_put_6 (by decide) ?_
  refine J_iload_n hX dX12_put_8 rfl 1 rfl ?_
  refine J_imul hX dX12_put_9 ?_
  refine J_iadd hX dX12_put_10 ?_
  refine J_iload_n hX dX12_put_11 rfl 2 rfl ?_
  refine J_iadd hX dX12_put_12 ?_
  refine J_iload_n hX dX12_put_13 rfl 3 rfl ?_
  obtain ⟨b1, h⟩ := h
  refine J_iast (j := (((11 : Int32) + ((11 : Int32) * x1)) + x2).toNatClampNeg) hX dX12_put_14 ka_427 le_427 b1 rfl ?_
  refine J_nmM (fun m2 e_m2 => ?_)
  replace h := h m2 e_m2
  exact J_vret hX hR dX12_put_15 ⟨_, rfl, rfl, h⟩
set_option maxRecDepth 100000 in
theorem tb_X12_newPanel_l2 {X : XT} {ad : Nat → Nat} {K : Mm → Prop} (hX : Cx X cX12_newPanel 3 RX12 (rmN 1 23)) (hR : Rx X none (kV ad K) (0, 0)) {rec : Int32 → Mm → Prop} {k21 : Mm → Prop} (x1 : Int32) (hrec : ∀ (x2 : Int32) (m : Mm), rec x2 m → J X (0, 0) 2 [(0, .ref (ad 426)), (1, .int x1), (2, .int x2)] [] (fl ad m)) (hk21 : ∀ (m : Mm), k21 m → J X (0, 0) 21 [(0, .ref (ad 426)), (1, .int x1)] [] (fl ad m)) (x2 : Int32) (m : Mm) (h : wb_X12_newPanel_l2 rec k21 K x1 x2 m) : J X (0, 0) 2 [(0, .ref (ad 426)), (1, .int x1), (2, .int x2)] [] (fl ad m) := by
  unfold wb_X12_newPanel_l2 at h
  refine J_iload_n hX dX12_newPanel_2 rfl 2 rfl ?_
  refine J_bipush (v := (11 : Int32)) hX dX12_newPanel_3 (by decide) ?_
  refine J_icmp_ge (tgt := 21) hX dX12_newPanel_5 (by decide) (fun c1 => ?_) (fun c1 => ?_)
  · replace h := Eq.mp (if_pos c1) h
    exact J_sub [0, 1] rfl (hk21 m h)
  · replace h := Eq.mp (if_neg c1) h
    refine J_aload_n hX dX12_newPanel_8 rfl 0 rfl ?_
    refine J_iload_n hX dX12_newPanel_9 rfl 1 rfl ?_
    refine J_iload_n hX dX12_newPanel_10 rfl 2 rfl ?_
    refine J_iconst (v := (0 : Int32)) hX dX12_newPanel_11 (by decide) ?_
    refine J_callV hX km_X12_put kl_RX12_137 dX12_newPanel_12 ka_426 (by decide) [.int x1, .int x2, .int (0 : Int32)] ⟨Nat.le_of_ble_eq_true rfl, Nat.le_of_ble_eq_true rfl⟩ rfl rfl (Nat.le_of_ble_eq_true rfl) (c_X12_put x1 x2 (0 : Int32) m _ h) (fun v w2 hk => ?_)
    obtain ⟨m2, rfl, rfl, h⟩ := hk
    show J X (0, 0) 15 [(0, .ref (ad 426)), (1, .int x1), (2, .int x2)] [] (fl ad m2)
    refine J_iinc (x := (x2 + (1 : Int32))) (lv2 := [(2, .int (x2 + (1 : Int32))), (0, .ref (ad 426)), (1, .int x1)]) hX dX12_newPanel_15 2 rfl rfl (Nat.le_of_ble_eq_true rfl) rfl ?_
    refine J_goto (tgt := 2) hX dX12_newPanel_18 (by decide) ?_
    exact J_sub [1, 2, 0] rfl (hrec (x2 + (1 : Int32)) m2 h)
set_option maxRecDepth 100000 in
theorem t_X12_newPanel_l2 {X : XT} {ad : Nat → Nat} {K : Mm → Prop} (hX : Cx X cX12_newPanel 3 RX12 (rmN 1 23)) (hR : Rx X none (kV ad K) (0, 0)) {k21 : Mm → Prop} (x1 : Int32) (hk21 : ∀ (m : Mm), k21 m → J X (0, 0) 21 [(0, .ref (ad 426)), (1, .int x1)] [] (fl ad m)) : ∀ (n : Nat) (x2 : Int32) (m : Mm), wp_X12_newPanel_l2 k21 K x1 n x2 m → J X (0, 0) 2 [(0, .ref (ad 426)), (1, .int x1), (2, .int x2)] [] (fl ad m) := by
  intro n
  induction n with
  | zero => intro x2 m h; exact h.elim
  | succ n ih => intro x2 m h; exact tb_X12_newPanel_l2 hX hR x1 ih hk21 x2 m h
set_option maxRecDepth 100000 in
theorem c_X12_newPanel {G : GT} {ad : Nat → Nat} (x1 : Int32) (m : Mm) (K : Mm → Prop) (h : wp_X12_newPanel x1 m K) : Cn G yX12_newPanel cX12_newPanel 3 none (rmN 1 23) [.ref (ad 426), .int x1] (0, 0) (fl ad m) (kV ad K) := by
  unfold wp_X12_newPanel at h
  refine Cn.of pn_RX12 (Nat.le_of_ble_eq_true rfl) (fun X hG hX hR => ?_)
  subst hG
  have hX : Cx X cX12_newPanel 3 RX12 (rmN 1 23) := hX
  show J X (0, 0) 0 [(0, .ref (ad 426)), (1, .int x1)] [] (fl ad m)
  refine J_iconst (v := (0 : Int32)) hX dX12_newPanel_0 (by decide) ?_
  refine J_istore_n (lv2 := [(2, .int (0 : Int32)), (0, .ref (ad 426)), (1, .int x1)]) hX dX12_newPanel_1 rfl (Nat.le_of_ble_eq_true rfl) rfl ?_
  refine J_sub [1, 2, 0] rfl (t_X12_newPanel_l2 hX hR x1 (fun m3 h => ?_) FU (0 : Int32) m h)
  refine J_aload_n hX dX12_newPanel_21 rfl 0 rfl ?_
  refine J_iload_n hX dX12_newPanel_22 rfl 1 rfl ?_
  refine J_bipush (v := (6 : Int32)) hX dX12_newPanel_23 (by decide) ?_
  refine J_bipush (v := (-9 : Int32)) hX dX12_newPanel_25 (by decide) ?_
  refine J_callV hX km_X12_put kl_RX12_137 dX12_newPanel_27 ka_426 (by decide) [.int x1, .int (6 : Int32), .int (-9 : Int32)] ⟨Nat.le_of_ble_eq_true rfl, Nat.le_of_ble_eq_true rfl⟩ rfl rfl (Nat.le_of_ble_eq_true rfl) (c_X12_put x1 (6 : Int32) (-9 : Int32) m3 _ h) (fun v w2 hk => ?_)
  obtain ⟨m4, rfl, rfl, h⟩ := hk
  show J X (0, 0) 30 [(0, .ref (ad 426)), (1, .int x1)] [] (fl ad m4)
  refine J_aload_n hX dX12_newPanel_30 rfl 0 rfl ?_
  refine J_iload_n hX dX12_newPanel_31 rfl 1 rfl ?_
  refine J_bipush (v := (7 : Int32)) hX dX12_newPanel_32 (by decide) ?_
  refine J_bipush (v := (-9 : Int32)) hX dX12_newPanel_34 (by decide) ?_
  refine J_callV hX km_X12_put kl_RX12_137 dX12_newPanel_36 ka_426 (by decide) [.int x1, .int (7 : Int32), .int (-9 : Int32)] ⟨Nat.le_of_ble_eq_true rfl, Nat.le_of_ble_eq_true rfl⟩ rfl rfl (Nat.le_of_ble_eq_true rfl) (c_X12_put x1 (7 : Int32) (-9 : Int32) m4 _ h) (fun v w2 hk => ?_)
  obtain ⟨m5, rfl, rfl, h⟩ := hk
  show J X (0, 0) 39 [(0, .ref (ad 426)), (1, .int x1)] [] (fl ad m5)
  exact J_vret hX hR dX12_newPanel_39 ⟨_, rfl, rfl, h⟩
set_option maxRecDepth 100000 in
theorem c_X12_of {G : GT} {ad : Nat → Nat} (x1 : Int32) (x2 : Int32) (m : Mm) (h : s_X12_of x1 x2) : Cn G yX12_of cX12_of 3 (some .int) (rmN 0 0) [.ref (ad 426), .int x1, .int x2] (0, 0) (fl ad m) (fun v w => v = some (.int (v_X12_of x1 x2 m)) ∧ w = fl ad m) := by
  unfold s_X12_of at h
  refine Cn.of pn_RX12 (Nat.le_of_ble_eq_true rfl) (fun X hG hX hR => ?_)
  subst hG
  have hX : Cx X cX12_of 3 RX12 (rmN 0 0) := hX
  show J X (0, 0) 0 [(0, .ref (ad 426)), (1, .int x1), (2, .int x2)] [] (fl ad m)
  have b1 := h
  refine J_aload_n hX dX12_of_0 rfl 0 rfl ?_
  refine J_getR hX kf_RX12_7 dX12_of_1 ka_426 (by decide) rfl rh_426_0 ?_
  refine J_bipush (v := (11 : Int32)) hX dX12_of_4 (by decide) ?_
  refine J_bipush (v := (11 : Int32)) hX dX12_of_6 (by decide) ?_
  refine J_iload_n hX dX12_of_8 rfl 1 rfl ?_
  refine J_imul hX dX12_of_9 ?_
  refine J_iadd hX dX12_of_10 ?_
  refine J_iload_n hX dX12_of_11 rfl 2 rfl ?_
  refine J_iadd hX dX12_of_12 ?_
  refine J_iald (j := (((11 : Int32) + ((11 : Int32) * x1)) + x2).toNatClampNeg) hX dX12_of_13 ka_427 le_427 b1 rfl ?_
  exact J_iret hX hR dX12_of_14 (And.intro (congrArg (fun z => some (Value.int z)) (show (m.1 427 (((11 : Int32) + ((11 : Int32) * x1)) + x2).toNatClampNeg) = v_X12_of x1 x2 m from rfl)) rfl)
set_option maxRecDepth 100000 in
theorem tb_X12_layFlat_l2 {X : XT} {ad : Nat → Nat} {K : Mm → Prop} (hX : Cx X cX12_layFlat 6 RX12 (rmN 1 22)) (hR : Rx X none (kV ad K) (0, 0)) {rec : Int32 → Mm → Prop} (hrec : ∀ (x1 : Int32) (m : Mm), rec x1 m → J X (0, 0) 2 [(0, .ref (ad 426)), (1, .int x1)] [] (fl ad m)) (x1 : Int32) (m : Mm) (h : wb_X12_layFlat_l2 rec K x1 m) : J X (0, 0) 2 [(0, .ref (ad 426)), (1, .int x1)] [] (fl ad m) := by
  unfold wb_X12_layFlat_l2 at h
  refine J_iload_n hX dX12_layFlat_2 rfl 1 rfl ?_
  refine J_aload_n hX dX12_layFlat_3 rfl 0 rfl ?_
  refine J_callV hX km_X12_many kl_RX12_83 dX12_layFlat_4 ka_426 (by decide) [] ⟨Nat.le_of_ble_eq_true rfl, Nat.le_of_ble_eq_true rfl⟩ rfl rfl (Nat.le_of_ble_eq_true rfl) (c_X12_many m) (fun v w2 hk => ?_)
  obtain ⟨rfl, rfl⟩ := hk
  show J X (0, 0) 7 [(0, .ref (ad 426)), (1, .int x1)] [.int (v_X12_many m), .int x1] (fl ad m)
  refine J_icmp_ge (tgt := 268) hX dX12_layFlat_7 (by decide) (fun c1 => ?_) (fun c1 => ?_)
  · replace h := Eq.mp (if_pos c1) h
    exact J_vret hX hR dX12_layFlat_268 ⟨_, rfl, rfl, h⟩
  · replace h := Eq.mp (if_neg c1) h
    refine J_iload_n hX dX12_layFlat_10 rfl 1 rfl ?_
    refine J_if_ne (tgt := 69) hX dX12_layFlat_11 (by decide) (fun c2 => ?_) (fun c2 => ?_)
    · replace h := Eq.mp (if_neg c2) h
      refine J_aload_n hX dX12_layFlat_69 rfl 0 rfl ?_
      refine J_iload_n hX dX12_layFlat_70 rfl 1 rfl ?_
      refine J_iconst (v := (0 : Int32)) hX dX12_layFlat_71 (by decide) ?_
      obtain ⟨b3, h⟩ := h
      refine J_callV hX km_X12_of kl_RX12_91 dX12_layFlat_72 ka_426 (by decide) [.int x1, .int (0 : Int32)] ⟨Nat.le_of_ble_eq_true rfl, Nat.le_of_ble_eq_true rfl⟩ rfl rfl (Nat.le_of_ble_eq_true rfl) (c_X12_of x1 (0 : Int32) m b3) (fun v w2 hk => ?_)
      obtain ⟨rfl, rfl⟩ := hk
      show J X (0, 0) 75 [(0, .ref (ad 426)), (1, .int x1)] [.int (v_X12_of x1 (0 : Int32) m)] (fl ad m)
      refine J_nmI (fun y4 e_y4 => ?_)
      replace h := h y4 e_y4
      refine J_istore_n (lv2 := [(2, .int y4), (0, .ref (ad 426)), (1, .int x1)]) hX dX12_layFlat_75 rfl (Nat.le_of_ble_eq_true rfl) rfl ?_
      refine J_aload_n hX dX12_layFlat_76 rfl 1 rfl ?_
      refine J_iload_n hX dX12_layFlat_77 rfl 2 rfl ?_
      refine J_iconst (v := (1 : Int32)) hX dX12_layFlat_78 (by decide) ?_
      obtain ⟨b5, h⟩ := h
      refine J_callV hX km_X12_of kl_RX12_91 dX12_layFlat_79 ka_426 (by decide) [.int x1, .int (1 : Int32)] ⟨Nat.le_of_ble_eq_true rfl, Nat.le_of_ble_eq_true rfl⟩ rfl rfl (Nat.le_of_ble_eq_true rfl) (c_X12_of x1 (1 : Int32) m b5) (fun v w2 hk => ?_)
      obtain ⟨rfl, rfl⟩ := hk
      show J X (0, 0) 82 [(2, .int y4), (0, .ref (ad 426)), (1, .int x1)] [.int (v_X12_of x1 (1 : Int32) m)] (fl ad m)
      refine J_nmI (fun y6 e_y6 => ?_)
      replace h := h y6 e_y6
      refine J_istore_n (lv2 := [(3, .int y6), (2, .int y4), (0, .ref (ad 426)), (1, .int x1)]) hX dX12_layFlat_82 rfl (Nat.le_of_ble_eq_true rfl) rfl ?_
      refine J_aload_n hX dX12_layFlat_83 rfl 2 rfl ?_
      refine J_iload_n hX dX12_layFlat_84 rfl 3 rfl ?_
      refine J_iconst (v := (4 : Int32)) hX dX12_layFlat_85 (by decide) ?_
      obtain ⟨b7, h⟩ := h
      refine J_callV hX km_X12_of kl_RX12_91 dX12_layFlat_86 ka_426 (by decide) [.int x1, .int (4 : Int32)] ⟨Nat.le_of_ble_eq_true rfl, Nat.le_of_ble_eq_true rfl⟩ rfl rfl (Nat.le_of_ble_eq_true rfl) (c_X12_of x1 (4 : Int32) m b7) (fun v w2 hk => ?_)
      obtain ⟨rfl, rfl⟩ := hk
      show J X (0, 0) 89 [(3, .int y6), (2, .int y4), (0, .ref (ad 426)), (1, .int x1)] [.int (v_X12_of x1 (4 : Int32) m)] (fl ad m)
      refine J_nmI (fun y8 e_y8 => ?_)
      replace h := h y8 e_y8
      refine J_istore (lv2 := [(4, .int y8), (3, .int y6), (2, .int y4), (0, .ref (ad 426)), (1, .int x1)]) hX dX12_layFlat_89 (Nat.le_of_ble_eq_true rfl) rfl ?_
      refine J_iload_n hX dX12_layFlat_91 rfl 1 rfl ?_
      refine J_iconst (v := (2 : Int32)) hX dX12_layFlat_92 (by decide) ?_
      refine J_irem hX dX12_layFlat_93 (by decide) ?_
      have hj58 : ∀ y10 : Int32, y10 = (if (rm32 y6 (2 : Int32)) = (0 : Int32) then (1 : Int32) else (0 : Int32)) → J X (0, 0) 102 [(0, .ref (ad 426)), (1, .int x1), (2, .int y4), (3, .int y6), (4, .int y8)] [.int y10] (fl ad m) := by
        intro y10 e_y10
        replace h := h y10 e_y10
        refine J_istore (lv2 := [(5, .int y10), (0, .ref (ad 426)), (1, .int x1), (2, .int y4), (3, .int y6), (4, .int y8)]) hX dX12_layFlat_102 (Nat.le_of_ble_eq_true rfl) rfl ?_
        refine J_aload_n hX dX12_layFlat_104 rfl 1 rfl ?_
        refine J_getR hX kf_RX12_32 dX12_layFlat_105 ka_426 (by decide) rfl rh_426_9 ?_
        refine J_iload_n hX dX12_layFlat_108 rfl 2 rfl ?_
        refine J_iload hX dX12_layFlat_109 0 rfl ?_
        obtain ⟨g13, h⟩ := h
        have hj55 : ∀ y14 : Int32, y14 = (if y10 = (0 : Int32) then y8 else (v_X12_of x1 (3 : Int32) m)) → J X (0, 0) 125 [(0, .ref (ad 426)), (1, .int x1), (2, .int y4), (3, .int y6), (4, .int y8), (5, .int y10)] [.int y14, .int x1, .ref (ad 434)] (fl ad m) := by
          intro y14 e_y14
          replace h := h y14 e_y14
          obtain ⟨b15, h⟩ := h
          refine J_iast (j := x1.toNatClampNeg) hX dX12_layFlat_125 ka_434 le_434 b15 rfl ?_
          refine J_nmM (fun m16 e_m16 => ?_)
          replace h := h m16 e_m16
          refine J_aload_n hX dX12_layFlat_126 rfl 0 rfl ?_
          refine J_getR hX kf_RX12_35 dX12_layFlat_127 ka_426 (by decide) rfl rh_426_10 ?_
          refine J_iload_n hX dX12_layFlat_130 rfl 1 rfl ?_
          refine J_iload hX dX12_layFlat_131 5 rfl ?_
          obtain ⟨g19, h⟩ := h
          have hj52 : ∀ y20 : Int32, y20 = (if y10 = (0 : Int32) then (v_X12_of x1 (3 : Int32) m16) else y8) → J X (0, 0) 147 [(0, .ref (ad 426)), (1, .int x1), (2, .int y4), (3, .int y6), (4, .int y8), (5, .int y10)] [.int y20, .int x1, .ref (ad 435)] (fl ad m16) := by
            intro y20 e_y20
            replace h := h y20 e_y20
            refine J_iast (j := x1.toNatClampNeg) hX dX12_layFlat_147 ka_435 le_435 b15 rfl ?_
            refine J_nmM (fun m21 e_m21 => ?_)
            replace h := h m21 e_m21
            refine J_aload_n hX dX12_layFlat_148 rfl 0 rfl ?_
            refine J_getR hX kf_RX12_26 dX12_layFlat_149 ka_426 (by decide) rfl rh_426_7 ?_
            refine J_iload_n hX dX12_layFlat_152 rfl 1 rfl ?_
            refine J_iload hX dX12_layFlat_153 5 rfl ?_
            obtain ⟨g28, h⟩ := h
            have hj46 : ∀ y29 : Int32, y29 = (if y10 = (0 : Int32) then (if y6 = (1 : Int32) then ((m21.1 432 y4.toNatClampNeg) + (m21.1 434 y4.toNatClampNeg)) else ((m21.1 432 y4.toNatClampNeg) - y8)) else ((m21.1 432 y4.toNatClampNeg) + (v_X12_of x1 (2 : Int32) m21))) → J X (0, 0) 204 [(0, .ref (ad 426)), (1, .int x1), (2, .int y4), (3, .int y6), (4, .int y8), (5, .int y10)] [.int y29, .int x1, .ref (ad 432)] (fl ad m21) := by
              intro y29 e_y29
              replace h := h y29 e_y29
              refine J_iast (j := x1.toNatClampNeg) hX dX12_layFlat_204 ka_432 le_432 b15 rfl ?_
              refine J_nmM (fun m30 e_m30 => ?_)
              replace h := h m30 e_m30
              refine J_aload_n hX dX12_layFlat_205 rfl 0 rfl ?_
              refine J_getR hX kf_RX12_29 dX12_layFlat_206 ka_426 (by decide) rfl rh_426_8 ?_
              refine J_iload_n hX dX12_layFlat_209 rfl 1 rfl ?_
              refine J_iload hX dX12_layFlat_210 5 rfl ?_
              obtain ⟨g37, h⟩ := h
              have hj40 : ∀ y38 : Int32, y38 = (if y10 = (0 : Int32) then ((m30.1 433 y4.toNatClampNeg) + (v_X12_of x1 (2 : Int32) m30)) else (if y6 = (2 : Int32) then ((m30.1 433 y4.toNatClampNeg) + (m30.1 435 y4.toNatClampNeg)) else ((m30.1 433 y4.toNatClampNeg) - y8))) → J X (0, 0) 261 [(0, .ref (ad 426)), (1, .int x1)] [.int y38, .int x1, .ref (ad 433)] (fl ad m30) := by
                intro y38 e_y38
                replace h := h y38 e_y38
                refine J_iast (j := x1.toNatClampNeg) hX dX12_layFlat_261 ka_433 le_433 b15 rfl ?_
                refine J_nmM (fun m39 e_m39 => ?_)
                replace h := h m39 e_m39
                refine J_iinc (x := (x1 + (1 : Int32))) (lv2 := [(1, .int (x1 + (1 : Int32))), (0, .ref (ad 426))]) hX dX12_layFlat_262 1 rfl rfl (Nat.le_of_ble_eq_true rfl) rfl ?_
                refine J_goto (tgt := 2) hX dX12_layFlat_265 (by decide) ?_
                exact J_sub [1, 0] rfl (hrec (x1 + (1 : Int32)) m39 h)
              obtain ⟨g41, g42⟩ := g37
              refine J_if_ne (tgt := 231) hX dX12_layFlat_212 (by decide) (fun c31 => ?_) (fun c31 => ?_)
              · have g43 := g41 c31
                have g44 := g43
                refine J_iload_n hX dX12_layFlat_231 rfl 3 rfl ?_
                refine J_iconst (v := (2 : Int32)) hX dX12_layFlat_232 (by decide) ?_
                refine J_icmp_ne (tgt := 252) hX dX12_layFlat_233 (by decide) (fun c32 => ?_) (fun c32 => ?_)
                · have b33 := g44
                  refine J_aload_n hX dX12_layFlat_252 rfl 0 rfl ?_
                  refine J_getR hX kf_RX12_29 dX12_layFlat_253 ka_426 (by decide) rfl rh_426_8 ?_
                  refine J_iload_n hX dX12_layFlat_256 rfl 2 rfl ?_
                  refine J_iald (j := y4.toNatClampNeg) hX dX12_layFlat_257 ka_433 le_433 b33 rfl ?_
                  refine J_iload hX dX12_layFlat_258 4 rfl ?_
                  refine J_isub hX dX12_layFlat_260 ?_
                  exact J_sub [0, 1] rfl (hj40 _ ((if_neg c31).trans (if_neg c32)).symm)
                · have b34 := g44
                  refine J_aload_n hX dX12_layFlat_236 rfl 0 rfl ?_
                  refine J_getR hX kf_RX12_29 dX12_layFlat_237 ka_426 (by decide) rfl rh_426_8 ?_
                  refine J_iload_n hX dX12_layFlat_240 rfl 2 rfl ?_
                  refine J_iald (j := y4.toNatClampNeg) hX dX12_layFlat_241 ka_433 le_433 b34 rfl ?_
                  refine J_aload_n hX dX12_layFlat_242 rfl 0 rfl ?_
                  refine J_getR hX kf_RX12_35 dX12_layFlat_243 ka_426 (by decide) rfl rh_426_10 ?_
                  refine J_iload_n hX dX12_layFlat_246 rfl 2 rfl ?_
                  refine J_iald (j := y4.toNatClampNeg) hX dX12_layFlat_247 ka_435 le_435 b34 rfl ?_
                  refine J_iadd hX dX12_layFlat_248 ?_
                  refine J_goto (tgt := 261) hX dX12_layFlat_249 (by decide) ?_
                  exact J_sub [0, 1] rfl (hj40 _ ((if_neg c31).trans (if_pos c32)).symm)
              · have g45 := g42 c31
                obtain ⟨b35, b36⟩ := g45
                refine J_aload_n hX dX12_layFlat_215 rfl 0 rfl ?_
                refine J_getR hX kf_RX12_29 dX12_layFlat_216 ka_426 (by decide) rfl rh_426_8 ?_
                refine J_iload_n hX dX12_layFlat_219 rfl 2 rfl ?_
                refine J_iald (j := y4.toNatClampNeg) hX dX12_layFlat_220 ka_433 le_433 b35 rfl ?_
                refine J_aload_n hX dX12_layFlat_221 rfl 0 rfl ?_
                refine J_iload_n hX dX12_layFlat_222 rfl 1 rfl ?_
                refine J_iconst (v := (2 : Int32)) hX dX12_layFlat_223 (by decide) ?_
                refine J_callV hX km_X12_of kl_RX12_91 dX12_layFlat_224 ka_426 (by decide) [.int x1, .int (2 : Int32)] ⟨Nat.le_of_ble_eq_true rfl, Nat.le_of_ble_eq_true rfl⟩ rfl rfl (Nat.le_of_ble_eq_true rfl) (c_X12_of x1 (2 : Int32) m30 b36) (fun v w2 hk => ?_)
                obtain ⟨rfl, rfl⟩ := hk
                show J X (0, 0) 227 [(0, .ref (ad 426)), (1, .int x1), (2, .int y4), (3, .int y6), (4, .int y8), (5, .int y10)] [.int (v_X12_of x1 (2 : Int32) m30), .int (m30.1 433 y4.toNatClampNeg), .int x1, .ref (ad 433)] (fl ad m30)
                refine J_iadd hX dX12_layFlat_227 ?_
                refine J_goto (tgt := 261) hX dX12_layFlat_228 (by decide) ?_
                exact J_sub [0, 1] rfl (hj40 _ (if_pos c31).symm)
            obtain ⟨g47, g48⟩ := g28
            refine J_if_eq (tgt := 174) hX dX12_layFlat_155 (by decide) (fun c22 => ?_) (fun c22 => ?_)
            · have g49 := g47 c22
              have g50 := g49
              refine J_iload_n hX dX12_layFlat_174 rfl 3 rfl ?_
              refine J_iconst (v := (1 : Int32)) hX dX12_layFlat_175 (by decide) ?_
              refine J_icmp_ne (tgt := 195) hX dX12_layFlat_176 (by decide) (fun c23 => ?_) (fun c23 => ?_)
              · have b24 := g50
                refine J_aload_n hX dX12_layFlat_195 rfl 0 rfl ?_
                refine J_getR hX kf_RX12_26 dX12_layFlat_196 ka_426 (by decide) rfl rh_426_7 ?_
                refine J_iload_n hX dX12_layFlat_199 rfl 2 rfl ?_
                refine J_iald (j := y4.toNatClampNeg) hX dX12_layFlat_200 ka_432 le_432 b24 rfl ?_
                refine J_iload hX dX12_layFlat_201 4 rfl ?_
                refine J_isub hX dX12_layFlat_203 ?_
                exact J_sub [0, 1, 2, 3, 4, 5] rfl (hj46 _ ((if_pos c22).trans (if_neg c23)).symm)
              · have b25 := g50
                refine J_aload_n hX dX12_layFlat_179 rfl 0 rfl ?_
                refine J_getR hX kf_RX12_26 dX12_layFlat_180 ka_426 (by decide) rfl rh_426_7 ?_
                refine J_iload_n hX dX12_layFlat_183 rfl 2 rfl ?_
                refine J_iald (j := y4.toNatClampNeg) hX dX12_layFlat_184 ka_432 le_432 b25 rfl ?_
                refine J_aload_n hX dX12_layFlat_185 rfl 0 rfl ?_
                refine J_getR hX kf_RX12_32 dX12_layFlat_186 ka_426 (by decide) rfl rh_426_9 ?_
                refine J_iload_n hX dX12_layFlat_189 rfl 2 rfl ?_
                refine J_iald (j := y4.toNatClampNeg) hX dX12_layFlat_190 ka_434 le_434 b25 rfl ?_
                refine J_iadd hX dX12_layFlat_191 ?_
                refine J_goto (tgt := 204) hX dX12_layFlat_192 (by decide) ?_
                exact J_sub [0, 1, 2, 3, 4, 5] rfl (hj46 _ ((if_pos c22).trans (if_pos c23)).symm)
            · have g51 := g48 c22
              obtain ⟨b26, b27⟩ := g51
              refine J_aload_n hX dX12_layFlat_158 rfl 0 rfl ?_
              refine J_getR hX kf_RX12_26 dX12_layFlat_159 ka_426 (by decide) rfl rh_426_7 ?_
              refine J_iload_n hX dX12_layFlat_162 rfl 2 rfl ?_
              refine J_iald (j := y4.toNatClampNeg) hX dX12_layFlat_163 ka_432 le_432 b26 rfl ?_
              refine J_aload_n hX dX12_layFlat_164 rfl 0 rfl ?_
              refine J_iload_n hX dX12_layFlat_165 rfl 1 rfl ?_
              refine J_iconst (v := (2 : Int32)) hX dX12_layFlat_166 (by decide) ?_
              refine J_callV hX km_X12_of kl_RX12_91 dX12_layFlat_167 ka_426 (by decide) [.int x1, .int (2 : Int32)] ⟨Nat.le_of_ble_eq_true rfl, Nat.le_of_ble_eq_true rfl⟩ rfl rfl (Nat.le_of_ble_eq_true rfl) (c_X12_of x1 (2 : Int32) m21 b27) (fun v w2 hk => ?_)
              obtain ⟨rfl, rfl⟩ := hk
              show J X (0, 0) 170 [(0, .ref (ad 426)), (1, .int x1), (2, .int y4), (3, .int y6), (4, .int y8), (5, .int y10)] [.int (v_X12_of x1 (2 : Int32) m21), .int (m21.1 432 y4.toNatClampNeg), .int x1, .ref (ad 432)] (fl ad m21)
              refine J_iadd hX dX12_layFlat_170 ?_
              refine J_goto (tgt := 204) hX dX12_layFlat_171 (by decide) ?_
              exact J_sub [0, 1, 2, 3, 4, 5] rfl (hj46 _ (if_neg c22).symm)
          have g53 := g19
          refine J_if_eq (tgt := 141) hX dX12_layFlat_133 (by decide) (fun c17 => ?_) (fun c17 => ?_)
          · have g54 := g53 c17
            have b18 := g54
            refine J_aload_n hX dX12_layFlat_141 rfl 0 rfl ?_
            refine J_iload_n hX dX12_layFlat_142 rfl 1 rfl ?_
            refine J_iconst (v := (3 : Int32)) hX dX12_layFlat_143 (by decide) ?_
            refine J_callV hX km_X12_of kl_RX12_91 dX12_layFlat_144 ka_426 (by decide) [.int x1, .int (3 : Int32)] ⟨Nat.le_of_ble_eq_true rfl, Nat.le_of_ble_eq_true rfl⟩ rfl rfl (Nat.le_of_ble_eq_true rfl) (c_X12_of x1 (3 : Int32) m16 b18) (fun v w2 hk => ?_)
            obtain ⟨rfl, rfl⟩ := hk
            show J X (0, 0) 147 [(0, .ref (ad 426)), (1, .int x1), (2, .int y4), (3, .int y6), (4, .int y8), (5, .int y10)] [.int (v_X12_of x1 (3 : Int32) m16), .int x1, .ref (ad 435)] (fl ad m16)
            exact J_sub [0, 1, 2, 3, 4, 5] rfl (hj52 _ (if_pos c17).symm)
          · refine J_iload hX dX12_layFlat_136 4 rfl ?_
            refine J_goto (tgt := 147) hX dX12_layFlat_138 (by decide) ?_
            exact J_sub [0, 1, 2, 3, 4, 5] rfl (hj52 _ (if_neg c17).symm)
        have g56 := g13
        refine J_if_eq (tgt := 123) hX dX12_layFlat_111 (by decide) (fun c11 => ?_) (fun c11 => ?_)
        · refine J_iload hX dX12_layFlat_123 5 rfl ?_
          exact J_sub [1, 2, 3, 4, 5, 0] rfl (hj55 _ (if_pos c11).symm)
        · have g57 := g56 c11
          have b12 := g57
          refine J_aload_n hX dX12_layFlat_114 rfl 1 rfl ?_
          refine J_iload_n hX dX12_layFlat_115 rfl 2 rfl ?_
          refine J_iconst (v := (3 : Int32)) hX dX12_layFlat_116 (by decide) ?_
          refine J_callV hX km_X12_of kl_RX12_91 dX12_layFlat_117 ka_426 (by decide) [.int x1, .int (3 : Int32)] ⟨Nat.le_of_ble_eq_true rfl, Nat.le_of_ble_eq_true rfl⟩ rfl rfl (Nat.le_of_ble_eq_true rfl) (c_X12_of x1 (3 : Int32) m b12) (fun v w2 hk => ?_)
          obtain ⟨rfl, rfl⟩ := hk
          show J X (0, 0) 120 [(5, .int y10), (0, .ref (ad 426)), (1, .int x1), (2, .int y4), (3, .int y6), (4, .int y8)] [.int (v_X12_of x1 (3 : Int32) m), .int x1, .ref (ad 434)] (fl ad m)
          refine J_goto (tgt := 125) hX dX12_layFlat_120 (by decide) ?_
          exact J_sub [1, 2, 3, 4, 5, 0] rfl (hj55 _ (if_neg c11).symm)
      refine J_if_ne (tgt := 101) hX dX12_layFlat_94 (by decide) (fun c9 => ?_) (fun c9 => ?_)
      · refine J_iconst (v := (0 : Int32)) hX dX12_layFlat_101 (by decide) ?_
        exact J_sub [3, 4, 2, 1, 0] rfl (hj58 _ (if_neg c9).symm)
      · refine J_iconst (v := (1 : Int32)) hX dX12_layFlat_97 (by decide) ?_
        refine J_goto (tgt := 102) hX dX12_layFlat_98 (by decide) ?_
        exact J_sub [3, 4, 2, 1, 0] rfl (hj58 _ (if_pos c9).symm)
    · replace h := Eq.mp (if_pos c2) h
      refine J_aload_n hX dX12_layFlat_14 rfl 0 rfl ?_
      refine J_getR hX kf_RX12_26 dX12_layFlat_15 ka_426 (by decide) rfl rh_426_7 ?_
      refine J_iconst (v := (0 : Int32)) hX dX12_layFlat_18 (by decide) ?_
      refine J_aload_n hX dX12_layFlat_19 rfl 0 rfl ?_
      refine J_getR hX kf_RX12_7 dX12_layFlat_20 ka_426 (by decide) rfl rh_426_0 ?_
      refine J_bipush (v := (121 : Int32)) hX dX12_layFlat_23 (by decide) ?_
      refine J_iald (j := 121) hX dX12_layFlat_25 ka_427 le_427 (vp_lit (by decide)) (by decide) ?_
      refine J_iast (j := 0) hX dX12_layFlat_26 ka_432 le_432 (vp_lit (by decide)) (by decide) ?_
      refine J_nmM (fun m59 e_m59 => ?_)
      replace h := h m59 e_m59
      refine J_aload_n hX dX12_layFlat_27 rfl 0 rfl ?_
      refine J_getR hX kf_RX12_29 dX12_layFlat_28 ka_426 (by decide) rfl rh_426_8 ?_
      refine J_iconst (v := (0 : Int32)) hX dX12_layFlat_31 (by decide) ?_
      refine J_aload_n hX dX12_layFlat_32 rfl 0 rfl ?_
      refine J_getR hX kf_RX12_7 dX12_layFlat_33 ka_426 (by decide) rfl rh_426_0 ?_
      refine J_bipush (v := (122 : Int32)) hX dX12_layFlat_36 (by decide) ?_
      refine J_iald (j := 122) hX dX12_layFlat_38 ka_427 le_427 (vp_lit (by decide)) (by decide) ?_
      refine J_iast (j := 0) hX dX12_layFlat_39 ka_433 le_433 (vp_lit (by decide)) (by decide) ?_
      refine J_nmM (fun m60 e_m60 => ?_)
      replace h := h m60 e_m60
      refine J_aload_n hX dX12_layFlat_40 rfl 0 rfl ?_
      refine J_getR hX kf_RX12_32 dX12_layFlat_41 ka_426 (by decide) rfl rh_426_9 ?_
      refine J_iconst (v := (0 : Int32)) hX dX12_layFlat_44 (by decide) ?_
      refine J_aload_n hX dX12_layFlat_45 rfl 0 rfl ?_
      refine J_getR hX kf_RX12_7 dX12_layFlat_46 ka_426 (by decide) rfl rh_426_0 ?_
      refine J_bipush (v := (123 : Int32)) hX dX12_layFlat_49 (by decide) ?_
      refine J_iald (j := 123) hX dX12_layFlat_51 ka_427 le_427 (vp_lit (by decide)) (by decide) ?_
      refine J_iast (j := 0) hX dX12_layFlat_52 ka_434 le_434 (vp_lit (by decide)) (by decide) ?_
      refine J_nmM (fun m61 e_m61 => ?_)
      replace h := h m61 e_m61
      refine J_aload_n hX dX12_layFlat_53 rfl 0 rfl ?_
      refine J_getR hX kf_RX12_35 dX12_layFlat_54 ka_426 (by decide) rfl rh_426_10 ?_
      refine J_iconst (v := (0 : Int32)) hX dX12_layFlat_57 (by decide) ?_
      refine J_aload_n hX dX12_layFlat_58 rfl 0 rfl ?_
      refine J_getR hX kf_RX12_7 dX12_layFlat_59 ka_426 (by decide) rfl rh_426_0 ?_
      refine J_bipush (v := (124 : Int32)) hX dX12_layFlat_62 (by decide) ?_
      refine J_iald (j := 124) hX dX12_layFlat_64 ka_427 le_427 (vp_lit (by decide)) (by decide) ?_
      refine J_iast (j := 0) hX dX12_layFlat_65 ka_435 le_435 (vp_lit (by decide)) (by decide) ?_
      refine J_nmM (fun m62 e_m62 => ?_)
      replace h := h m62 e_m62
      refine J_goto (tgt := 262) hX dX12_layFlat_66 (by decide) ?_
      refine J_iinc (x := (x1 + (1 : Int32))) (lv2 := [(1, .int (x1 + (1 : Int32))), (0, .ref (ad 426))]) hX dX12_layFlat_262 1 rfl rfl (Nat.le_of_ble_eq_true rfl) rfl ?_
      refine J_goto (tgt := 2) hX dX12_layFlat_265 (by decide) ?_
      exact J_sub [1, 0] rfl (hrec (x1 + (1 : Int32)) m62 h)
set_option maxRecDepth 100000 in
theorem t_X12_layFlat_l2 {X : XT} {ad : Nat → Nat} {K : Mm → Prop} (hX : Cx X cX12_layFlat 6 RX12 (rmN 1 22)) (hR : Rx X none (kV ad K) (0, 0))  : ∀ (n : Nat) (x1 : Int32) (m : Mm), wp_X12_layFlat_l2 K n x1 m → J X (0, 0) 2 [(0, .ref (ad 426)), (1, .int x1)] [] (fl ad m) := by
  intro n
  induction n with
  | zero => intro x1 m h; exact h.elim
  | succ n ih => intro x1 m h; exact tb_X12_layFlat_l2 hX hR ih x1 m h
set_option maxRecDepth 100000 in
theorem c_X12_layFlat {G : GT} {ad : Nat → Nat} (m : Mm) (K : Mm → Prop) (h : wp_X12_layFlat m K) : Cn G yX12_layFlat cX12_layFlat 6 none (rmN 1 22) [.ref (ad 426)] (0, 0) (fl ad m) (kV ad K) := by
  unfold wp_X12_layFlat at h
  refine Cn.of pn_RX12 (Nat.le_of_ble_eq_true rfl) (fun X hG hX hR => ?_)
  subst hG
  have hX : Cx X cX12_layFlat 6 RX12 (rmN 1 22) := hX
  show J X (0, 0) 0 [(0, .ref (ad 426))] [] (fl ad m)
  refine J_iconst (v := (0 : Int32)) hX dX12_layFlat_0 (by decide) ?_
  refine J_istore_n (lv2 := [(1, .int (0 : Int32)), (0, .ref (ad 426))]) hX dX12_layFlat_1 rfl (Nat.le_of_ble_eq_true rfl) rfl ?_
  refine J_sub [1, 0] rfl (t_X12_layFlat_l2 hX hR FU (0 : Int32) m h)
set_option maxRecDepth 100000 in
theorem c_X12_sideLength {G : GT} {ad : Nat → Nat} (x1 : Int32) (x2 : Int32) (m : Mm) (h : s_X12_sideLength x1 x2) : Cn G yX12_sideLength cX12_sideLength 3 (some .int) (rmN 0 0) [.ref (ad 426), .int x1, .int x2] (0, 0) (fl ad m) (fun v w => v = some (.int (v_X12_sideLength x1 x2 m)) ∧ w = fl ad m) := by
  unfold s_X12_sideLength at h
  refine Cn.of pn_RX12 (Nat.le_of_ble_eq_true rfl) (fun X hG hX hR => ?_)
  subst hG
  have hX : Cx X cX12_sideLength 3 RX12 (rmN 0 0) := hX
  show J X (0, 0) 0 [(0, .ref (ad 426)), (1, .int x1), (2, .int x2)] [] (fl ad m)
  have g4 := h
  refine J_iload_n hX dX12_sideLength_0 rfl 2 rfl ?_
  refine J_iconst (v := (2 : Int32)) hX dX12_sideLength_1 (by decide) ?_
  refine J_irem hX dX12_sideLength_2 (by decide) ?_
  have hj5 : ∀ y6 : Int32, y6 = (if (rm32 x2 (2 : Int32)) = (0 : Int32) then (m.1 434 x1.toNatClampNeg) else (m.1 435 x1.toNatClampNeg)) → J X (0, 0) 21 [] [.int y6] (fl ad m) := by
    intro y6 e_y6
    subst e_y6
    exact J_iret hX hR dX12_sideLength_21 (And.intro (congrArg (fun z => some (Value.int z)) (show (if (rm32 x2 (2 : Int32)) = (0 : Int32) then (m.1 434 x1.toNatClampNeg) else (m.1 435 x1.toNatClampNeg)) = v_X12_sideLength x1 x2 m from rfl)) rfl)
  have g7 := g4
  refine J_if_ne (tgt := 15) hX dX12_sideLength_3 (by decide) (fun c1 => ?_) (fun c1 => ?_)
  · have b2 := g7
    refine J_aload_n hX dX12_sideLength_15 rfl 0 rfl ?_
    refine J_getR hX kf_RX12_35 dX12_sideLength_16 ka_426 (by decide) rfl rh_426_10 ?_
    refine J_iload_n hX dX12_sideLength_19 rfl 1 rfl ?_
    refine J_iald (j := x1.toNatClampNeg) hX dX12_sideLength_20 ka_435 le_435 b2 rfl ?_
    exact J_sub [] rfl (hj5 _ (if_neg c1).symm)
  · have b3 := g7
    refine J_aload_n hX dX12_sideLength_6 rfl 0 rfl ?_
    refine J_getR hX kf_RX12_32 dX12_sideLength_7 ka_426 (by decide) rfl rh_426_9 ?_
    refine J_iload_n hX dX12_sideLength_10 rfl 1 rfl ?_
    refine J_iald (j := x1.toNatClampNeg) hX dX12_sideLength_11 ka_434 le_434 b3 rfl ?_
    refine J_goto (tgt := 21) hX dX12_sideLength_12 (by decide) ?_
    exact J_sub [] rfl (hj5 _ (if_pos c1).symm)
set_option maxRecDepth 100000 in
theorem c_X12_least {G : GT} {ad : Nat → Nat} (x0 : Int32) (x1 : Int32) (m : Mm) : Cn G yX12_least cX12_least 2 (some .int) (rmN 0 0) [.int x0, .int x1] (0, 0) (fl ad m) (fun v w => v = some (.int (v_X12_least x0 x1)) ∧ w = fl ad m) := by
  refine Cn.of pn_RX12 (Nat.le_of_ble_eq_true rfl) (fun X hG hX hR => ?_)
  subst hG
  have hX : Cx X cX12_least 2 RX12 (rmN 0 0) := hX
  show J X (0, 0) 0 [(0, .int x0), (1, .int x1)] [] (fl ad m)
  refine J_iload_n hX dX12_least_0 rfl 0 rfl ?_
  refine J_iload_n hX dX12_least_1 rfl 1 rfl ?_
  have hj2 : ∀ y3 : Int32, y3 = (if x1 ≤ x0 then x1 else x0) → J X (0, 0) 10 [] [.int y3] (fl ad m) := by
    intro y3 e_y3
    subst e_y3
    exact J_iret hX hR dX12_least_10 (And.intro (congrArg (fun z => some (Value.int z)) (show (if x1 ≤ x0 then x1 else x0) = v_X12_least x0 x1 from rfl)) rfl)
  refine J_icmp_ge (tgt := 9) hX dX12_least_2 (by decide) (fun c1 => ?_) (fun c1 => ?_)
  · refine J_iload_n hX dX12_least_9 rfl 1 rfl ?_
    exact J_sub [] rfl (hj2 _ (if_pos c1).symm)
  · refine J_iload_n hX dX12_least_5 rfl 0 rfl ?_
    refine J_goto (tgt := 10) hX dX12_least_6 (by decide) ?_
    exact J_sub [] rfl (hj2 _ (if_neg c1).symm)
set_option maxRecDepth 100000 in
theorem c_X12_most {G : GT} {ad : Nat → Nat} (x0 : Int32) (x1 : Int32) (m : Mm) : Cn G yX12_most cX12_most 2 (some .int) (rmN 0 0) [.int x0, .int x1] (0, 0) (fl ad m) (fun v w => v = some (.int (v_X12_most x0 x1)) ∧ w = fl ad m) := by
  refine Cn.of pn_RX12 (Nat.le_of_ble_eq_true rfl) (fun X hG hX hR => ?_)
  subst hG
  have hX : Cx X cX12_most 2 RX12 (rmN 0 0) := hX
  show J X (0, 0) 0 [(0, .int x0), (1, .int x1)] [] (fl ad m)
  refine J_iload_n hX dX12_most_0 rfl 0 rfl ?_
  refine J_iload_n hX dX12_most_1 rfl 1 rfl ?_
  have hj2 : ∀ y3 : Int32, y3 = (if x0 ≤ x1 then x1 else x0) → J X (0, 0) 10 [] [.int y3] (fl ad m) := by
    intro y3 e_y3
    subst e_y3
    exact J_iret hX hR dX12_most_10 (And.intro (congrArg (fun z => some (Value.int z)) (show (if x0 ≤ x1 then x1 else x0) = v_X12_most x0 x1 from rfl)) rfl)
  refine J_icmp_le (tgt := 9) hX dX12_most_2 (by decide) (fun c1 => ?_) (fun c1 => ?_)
  · refine J_iload_n hX dX12_most_9 rfl 1 rfl ?_
    exact J_sub [] rfl (hj2 _ (if_pos c1).symm)
  · refine J_iload_n hX dX12_most_5 rfl 0 rfl ?_
    refine J_goto (tgt := 10) hX dX12_most_6 (by decide) ?_
    exact J_sub [] rfl (hj2 _ (if_neg c1).symm)
set_option maxRecDepth 100000 in
theorem c_X12_common {G : GT} {ad : Nat → Nat} (x0 : Int32) (x1 : Int32) (x2 : Int32) (x3 : Int32) (m : Mm) : Cn G yX12_common cX12_common 4 (some .int) (rmN 1 21) [.int x0, .int x1, .int x2, .int x3] (0, 0) (fl ad m) (fun v w => v = some (.int (v_X12_common x0 x1 x2 x3)) ∧ w = fl ad m) := by
  refine Cn.of pn_RX12 (Nat.le_of_ble_eq_true rfl) (fun X hG hX hR => ?_)
  subst hG
  have hX : Cx X cX12_common 4 RX12 (rmN 1 21) := hX
  show J X (0, 0) 0 [(0, .int x0), (1, .int x1), (2, .int x2), (3, .int x3)] [] (fl ad m)
  refine J_iload_n hX dX12_common_0 rfl 1 rfl ?_
  refine J_iload_n hX dX12_common_1 rfl 3 rfl ?_
  refine J_callS hX km_X12_least kl_RX12_110 dX12_common_2 [.int x1, .int x3] ⟨Nat.le_of_ble_eq_true rfl, Nat.le_of_ble_eq_true rfl⟩ rfl rfl (Nat.le_of_ble_eq_true rfl) (c_X12_least x1 x3 m) (fun v w2 hk => ?_)
  obtain ⟨rfl, rfl⟩ := hk
  show J X (0, 0) 5 [(0, .int x0), (1, .int x1), (2, .int x2), (3, .int x3)] [.int (v_X12_least x1 x3)] (fl ad m)
  refine J_iload_n hX dX12_common_5 rfl 0 rfl ?_
  refine J_iload_n hX dX12_common_6 rfl 2 rfl ?_
  refine J_callS hX km_X12_most kl_RX12_113 dX12_common_7 [.int x0, .int x2] ⟨Nat.le_of_ble_eq_true rfl, Nat.le_of_ble_eq_true rfl⟩ rfl rfl (Nat.le_of_ble_eq_true rfl) (c_X12_most x0 x2 m) (fun v w2 hk => ?_)
  obtain ⟨rfl, rfl⟩ := hk
  show J X (0, 0) 10 [(0, .int x0), (1, .int x1), (2, .int x2), (3, .int x3)] [.int (v_X12_most x0 x2), .int (v_X12_least x1 x3)] (fl ad m)
  refine J_isub hX dX12_common_10 ?_
  exact J_iret hX hR dX12_common_11 (And.intro (congrArg (fun z => some (Value.int z)) (show ((v_X12_least x1 x3) - (v_X12_most x0 x2)) = v_X12_common x0 x1 x2 x3 from rfl)) rfl)
theorem bv_X12_overlap (x1 : Int32) (x2 : Int32) (m : Mm) : bo (v_X12_overlap x1 x2 m) := (bo_ite bo_0 (bo_ite bo_0 bo_1))
set_option maxRecDepth 100000 in
theorem c_X12_overlap {G : GT} {ad : Nat → Nat} (x1 : Int32) (x2 : Int32) (m : Mm) (h : s_X12_overlap x1 x2) : Cn G yX12_overlap cX12_overlap 3 (some .boolean) (rmN 2 44) [.ref (ad 426), .int x1, .int x2] (0, 0) (fl ad m) (fun v w => v = some (.int (v_X12_overlap x1 x2 m)) ∧ w = fl ad m) := by
  unfold s_X12_overlap at h
  refine Cn.of pn_RX12 (Nat.le_of_ble_eq_true rfl) (fun X hG hX hR => ?_)
  subst hG
  have hX : Cx X cX12_overlap 3 RX12 (rmN 2 44) := hX
  show J X (0, 0) 0 [(0, .ref (ad 426)), (1, .int x1), (2, .int x2)] [] (fl ad m)
  obtain ⟨b1, b2⟩ := h
  refine J_aload_n hX dX12_overlap_0 rfl 0 rfl ?_
  refine J_getR hX kf_RX12_26 dX12_overlap_1 ka_426 (by decide) rfl rh_426_7 ?_
  refine J_iload_n hX dX12_overlap_4 rfl 1 rfl ?_
  refine J_iald (j := x1.toNatClampNeg) hX dX12_overlap_5 ka_432 le_432 b1 rfl ?_
  refine J_aload_n hX dX12_overlap_6 rfl 0 rfl ?_
  refine J_getR hX kf_RX12_26 dX12_overlap_7 ka_426 (by decide) rfl rh_426_7 ?_
  refine J_iload_n hX dX12_overlap_10 rfl 1 rfl ?_
  refine J_iald (j := x1.toNatClampNeg) hX dX12_overlap_11 ka_432 le_432 b1 rfl ?_
  refine J_aload_n hX dX12_overlap_12 rfl 0 rfl ?_
  refine J_getR hX kf_RX12_32 dX12_overlap_13 ka_426 (by decide) rfl rh_426_9 ?_
  refine J_iload_n hX dX12_overlap_16 rfl 1 rfl ?_
  refine J_iald (j := x1.toNatClampNeg) hX dX12_overlap_17 ka_434 le_434 b1 rfl ?_
  refine J_iadd hX dX12_overlap_18 ?_
  refine J_aload_n hX dX12_overlap_19 rfl 0 rfl ?_
  refine J_getR hX kf_RX12_26 dX12_overlap_20 ka_426 (by decide) rfl rh_426_7 ?_
  refine J_iload_n hX dX12_overlap_23 rfl 2 rfl ?_
  refine J_iald (j := x2.toNatClampNeg) hX dX12_overlap_24 ka_432 le_432 b2 rfl ?_
  refine J_aload_n hX dX12_overlap_25 rfl 0 rfl ?_
  refine J_getR hX kf_RX12_26 dX12_overlap_26 ka_426 (by decide) rfl rh_426_7 ?_
  refine J_iload_n hX dX12_overlap_29 rfl 2 rfl ?_
  refine J_iald (j := x2.toNatClampNeg) hX dX12_overlap_30 ka_432 le_432 b2 rfl ?_
  refine J_aload_n hX dX12_overlap_31 rfl 0 rfl ?_
  refine J_getR hX kf_RX12_32 dX12_overlap_32 ka_426 (by decide) rfl rh_426_9 ?_
  refine J_iload_n hX dX12_overlap_35 rfl 2 rfl ?_
  refine J_iald (j := x2.toNatClampNeg) hX dX12_overlap_36 ka_434 le_434 b2 rfl ?_
  refine J_iadd hX dX12_overlap_37 ?_
  refine J_callS hX km_X12_common kl_RX12_116 dX12_overlap_38 [.int (m.1 432 x1.toNatClampNeg), .int ((m.1 432 x1.toNatClampNeg) + (m.1 434 x1.toNatClampNeg)), .int (m.1 432 x2.toNatClampNeg), .int ((m.1 432 x2.toNatClampNeg) + (m.1 434 x2.toNatClampNeg))] ⟨Nat.le_of_ble_eq_true rfl, Nat.le_of_ble_eq_true rfl⟩ rfl rfl (Nat.le_of_ble_eq_true rfl) (c_X12_common (m.1 432 x1.toNatClampNeg) ((m.1 432 x1.toNatClampNeg) + (m.1 434 x1.toNatClampNeg)) (m.1 432 x2.toNatClampNeg) ((m.1 432 x2.toNatClampNeg) + (m.1 434 x2.toNatClampNeg)) m) (fun v w2 hk => ?_)
  obtain ⟨rfl, rfl⟩ := hk
  show J X (0, 0) 41 [(0, .ref (ad 426)), (1, .int x1), (2, .int x2)] [.int (v_X12_common (m.1 432 x1.toNatClampNeg) ((m.1 432 x1.toNatClampNeg) + (m.1 434 x1.toNatClampNeg)) (m.1 432 x2.toNatClampNeg) ((m.1 432 x2.toNatClampNeg) + (m.1 434 x2.toNatClampNeg)))] (fl ad m)
  have hj5 : ∀ y6 : Int32, y6 = (if (v_X12_common (m.1 432 x1.toNatClampNeg) ((m.1 432 x1.toNatClampNeg) + (m.1 434 x1.toNatClampNeg)) (m.1 432 x2.toNatClampNeg) ((m.1 432 x2.toNatClampNeg) + (m.1 434 x2.toNatClampNeg))) ≤ (0 : Int32) then (0 : Int32) else (if (v_X12_common (m.1 433 x1.toNatClampNeg) ((m.1 433 x1.toNatClampNeg) + (m.1 435 x1.toNatClampNeg)) (m.1 433 x2.toNatClampNeg) ((m.1 433 x2.toNatClampNeg) + (m.1 435 x2.toNatClampNeg))) ≤ (0 : Int32) then (0 : Int32) else (1 : Int32))) → J X (0, 0) 93 [] [.int y6] (fl ad m) := by
    intro y6 e_y6
    subst e_y6
    exact J_zret hX hR dX12_overlap_93 (bo_ite bo_0 (bo_ite bo_0 bo_1)) (And.intro (congrArg (fun z => some (Value.int z)) (show (if (v_X12_common (m.1 432 x1.toNatClampNeg) ((m.1 432 x1.toNatClampNeg) + (m.1 434 x1.toNatClampNeg)) (m.1 432 x2.toNatClampNeg) ((m.1 432 x2.toNatClampNeg) + (m.1 434 x2.toNatClampNeg))) ≤ (0 : Int32) then (0 : Int32) else (if (v_X12_common (m.1 433 x1.toNatClampNeg) ((m.1 433 x1.toNatClampNeg) + (m.1 435 x1.toNatClampNeg)) (m.1 433 x2.toNatClampNeg) ((m.1 433 x2.toNatClampNeg) + (m.1 435 x2.toNatClampNeg))) ≤ (0 : Int32) then (0 : Int32) else (1 : Int32))) = v_X12_overlap x1 x2 m from rfl)) rfl)
  refine J_if_le (tgt := 92) hX dX12_overlap_41 (by decide) (fun c3 => ?_) (fun c3 => ?_)
  · refine J_iconst (v := (0 : Int32)) hX dX12_overlap_92 (by decide) ?_
    exact J_sub [] rfl (hj5 _ (if_pos c3).symm)
  · refine J_aload_n hX dX12_overlap_44 rfl 0 rfl ?_
    refine J_getR hX kf_RX12_29 dX12_overlap_45 ka_426 (by decide) rfl rh_426_8 ?_
    refine J_iload_n hX dX12_overlap_48 rfl 1 rfl ?_
    refine J_iald (j := x1.toNatClampNeg) hX dX12_overlap_49 ka_433 le_433 b1 rfl ?_
    refine J_aload_n hX dX12_overlap_50 rfl 0 rfl ?_
    refine J_getR hX kf_RX12_29 dX12_overlap_51 ka_426 (by decide) rfl rh_426_8 ?_
    refine J_iload_n hX dX12_overlap_54 rfl 1 rfl ?_
    refine J_iald (j := x1.toNatClampNeg) hX dX12_overlap_55 ka_433 le_433 b1 rfl ?_
    refine J_aload_n hX dX12_overlap_56 rfl 0 rfl ?_
    refine J_getR hX kf_RX12_35 dX12_overlap_57 ka_426 (by decide) rfl rh_426_10 ?_
    refine J_iload_n hX dX12_overlap_60 rfl 1 rfl ?_
    refine J_iald (j := x1.toNatClampNeg) hX dX12_overlap_61 ka_435 le_435 b1 rfl ?_
    refine J_iadd hX dX12_overlap_62 ?_
    refine J_aload_n hX dX12_overlap_63 rfl 0 rfl ?_
    refine J_getR hX kf_RX12_29 dX12_overlap_64 ka_426 (by decide) rfl rh_426_8 ?_
    refine J_iload_n hX dX12_overlap_67 rfl 2 rfl ?_
    refine J_iald (j := x2.toNatClampNeg) hX dX12_overlap_68 ka_433 le_433 b2 rfl ?_
    refine J_aload_n hX dX12_overlap_69 rfl 0 rfl ?_
    refine J_getR hX kf_RX12_29 dX12_overlap_70 ka_426 (by decide) rfl rh_426_8 ?_
    refine J_iload_n hX dX12_overlap_73 rfl 2 rfl ?_
    refine J_iald (j := x2.toNatClampNeg) hX dX12_overlap_74 ka_433 le_433 b2 rfl ?_
    refine J_aload_n hX dX12_overlap_75 rfl 0 rfl ?_
    refine J_getR hX kf_RX12_35 dX12_overlap_76 ka_426 (by decide) rfl rh_426_10 ?_
    refine J_iload_n hX dX12_overlap_79 rfl 2 rfl ?_
    refine J_iald (j := x2.toNatClampNeg) hX dX12_overlap_80 ka_435 le_435 b2 rfl ?_
    refine J_iadd hX dX12_overlap_81 ?_
    refine J_callS hX km_X12_common kl_RX12_116 dX12_overlap_82 [.int (m.1 433 x1.toNatClampNeg), .int ((m.1 433 x1.toNatClampNeg) + (m.1 435 x1.toNatClampNeg)), .int (m.1 433 x2.toNatClampNeg), .int ((m.1 433 x2.toNatClampNeg) + (m.1 435 x2.toNatClampNeg))] ⟨Nat.le_of_ble_eq_true rfl, Nat.le_of_ble_eq_true rfl⟩ rfl rfl (Nat.le_of_ble_eq_true rfl) (c_X12_common (m.1 433 x1.toNatClampNeg) ((m.1 433 x1.toNatClampNeg) + (m.1 435 x1.toNatClampNeg)) (m.1 433 x2.toNatClampNeg) ((m.1 433 x2.toNatClampNeg) + (m.1 435 x2.toNatClampNeg)) m) (fun v w2 hk => ?_)
    obtain ⟨rfl, rfl⟩ := hk
    show J X (0, 0) 85 [(0, .ref (ad 426)), (1, .int x1), (2, .int x2)] [.int (v_X12_common (m.1 433 x1.toNatClampNeg) ((m.1 433 x1.toNatClampNeg) + (m.1 435 x1.toNatClampNeg)) (m.1 433 x2.toNatClampNeg) ((m.1 433 x2.toNatClampNeg) + (m.1 435 x2.toNatClampNeg)))] (fl ad m)
    refine J_if_le (tgt := 92) hX dX12_overlap_85 (by decide) (fun c4 => ?_) (fun c4 => ?_)
    · refine J_iconst (v := (0 : Int32)) hX dX12_overlap_92 (by decide) ?_
      exact J_sub [] rfl (hj5 _ ((if_neg c3).trans (if_pos c4)).symm)
    · refine J_iconst (v := (1 : Int32)) hX dX12_overlap_88 (by decide) ?_
      refine J_goto (tgt := 93) hX dX12_overlap_89 (by decide) ?_
      exact J_sub [] rfl (hj5 _ ((if_neg c3).trans (if_neg c4)).symm)
set_option maxRecDepth 100000 in
theorem tb_X12_isValid_l136 {X : XT} {ad : Nat → Nat} {K : Int32 → Mm → Prop} (hX : Cx X cX12_isValid 4 RX12 (rmN 3 66)) (hR : Rx X (some .boolean) (kI ad K) (0, 0)) {rec : Int32 → Int32 → Mm → Prop} {k8 : Int32 → Int32 → Mm → Prop} (x2 : Int32) (hrec : ∀ (x1 : Int32) (x3 : Int32) (m : Mm), rec x1 x3 m → J X (0, 0) 136 [(0, .ref (ad 426)), (1, .int x1), (2, .int x2), (3, .int x3)] [] (fl ad m)) (hk8 : ∀ (z1 : Int32) (z2 : Int32) (m : Mm), k8 z1 z2 m → J X (0, 0) 8 [(0, .ref (ad 426)), (1, .int z1), (2, .int z2)] [] (fl ad m)) (x1 : Int32) (x3 : Int32) (m : Mm) (h : wb_X12_isValid_l136 rec k8 K x2 x1 x3 m) : J X (0, 0) 136 [(0, .ref (ad 426)), (1, .int x1), (2, .int x2), (3, .int x3)] [] (fl ad m) := by
  unfold wb_X12_isValid_l136 at h
  refine J_iload_n hX dX12_isValid_136 rfl 3 rfl ?_
  refine J_iload_n hX dX12_isValid_137 rfl 2 rfl ?_
  refine J_icmp_ge (tgt := 166) hX dX12_isValid_138 (by decide) (fun c22 => ?_) (fun c22 => ?_)
  · replace h := Eq.mp (if_pos c22) h
    refine J_iinc (x := (x2 + (1 : Int32))) (lv2 := [(2, .int (x2 + (1 : Int32))), (0, .ref (ad 426)), (1, .int x1), (3, .int x3)]) hX dX12_isValid_166 2 rfl rfl (Nat.le_of_ble_eq_true rfl) rfl ?_
    refine J_goto (tgt := 8) hX dX12_isValid_169 (by decide) ?_
    exact J_sub [1, 2, 0] rfl (hk8 x1 (x2 + (1 : Int32)) m h)
  · replace h := Eq.mp (if_neg c22) h
    refine J_iload_n hX dX12_isValid_141 rfl 1 rfl ?_
    obtain ⟨g26, h⟩ := h
    have hj28 : ∀ y27 : Int32, y27 = (if x1 = (0 : Int32) then (0 : Int32) else (if (v_X12_overlap x3 x2 m) = (0 : Int32) then (1 : Int32) else (0 : Int32))) → J X (0, 0) 159 [(0, .ref (ad 426)), (2, .int x2), (3, .int x3)] [.int y27] (fl ad m) := by
      intro y27 e_y27
      replace h := h y27 e_y27
      refine J_istore_n (lv2 := [(1, .int y27), (0, .ref (ad 426)), (2, .int x2), (3, .int x3)]) hX dX12_isValid_159 rfl (Nat.le_of_ble_eq_true rfl) rfl ?_
      refine J_iinc (x := (x3 + (1 : Int32))) (lv2 := [(3, .int (x3 + (1 : Int32))), (1, .int y27), (0, .ref (ad 426)), (2, .int x2)]) hX dX12_isValid_160 3 rfl rfl (Nat.le_of_ble_eq_true rfl) rfl ?_
      refine J_goto (tgt := 136) hX dX12_isValid_163 (by decide) ?_
      exact J_sub [2, 1, 3, 0] rfl (hrec y27 (x3 + (1 : Int32)) m h)
    have g29 := g26
    refine J_if_eq (tgt := 158) hX dX12_isValid_142 (by decide) (fun c23 => ?_) (fun c23 => ?_)
    · refine J_iconst (v := (0 : Int32)) hX dX12_isValid_158 (by decide) ?_
      exact J_sub [0, 2, 3] rfl (hj28 _ (if_pos c23).symm)
    · have g30 := g29 c23
      have b24 := g30
      refine J_aload_n hX dX12_isValid_145 rfl 0 rfl ?_
      refine J_iload_n hX dX12_isValid_146 rfl 3 rfl ?_
      refine J_iload_n hX dX12_isValid_147 rfl 2 rfl ?_
      refine J_callV hX km_X12_overlap kl_RX12_126 dX12_isValid_148 ka_426 (by decide) [.int x3, .int x2] ⟨Nat.le_of_ble_eq_true rfl, Nat.le_of_ble_eq_true rfl⟩ rfl rfl (Nat.le_of_ble_eq_true rfl) (c_X12_overlap x3 x2 m b24) (fun v w2 hk => ?_)
      obtain ⟨rfl, rfl⟩ := hk
      show J X (0, 0) 151 [(0, .ref (ad 426)), (1, .int x1), (2, .int x2), (3, .int x3)] [.int (v_X12_overlap x3 x2 m)] (fl ad m)
      refine J_if_ne (tgt := 158) hX dX12_isValid_151 (by decide) (fun c25 => ?_) (fun c25 => ?_)
      · refine J_iconst (v := (0 : Int32)) hX dX12_isValid_158 (by decide) ?_
        exact J_sub [0, 2, 3] rfl (hj28 _ ((if_neg c23).trans (if_neg c25)).symm)
      · refine J_iconst (v := (1 : Int32)) hX dX12_isValid_154 (by decide) ?_
        refine J_goto (tgt := 159) hX dX12_isValid_155 (by decide) ?_
        exact J_sub [0, 2, 3] rfl (hj28 _ ((if_neg c23).trans (if_pos c25)).symm)
set_option maxRecDepth 100000 in
theorem t_X12_isValid_l136 {X : XT} {ad : Nat → Nat} {K : Int32 → Mm → Prop} (hX : Cx X cX12_isValid 4 RX12 (rmN 3 66)) (hR : Rx X (some .boolean) (kI ad K) (0, 0)) {k8 : Int32 → Int32 → Mm → Prop} (x2 : Int32) (hk8 : ∀ (z1 : Int32) (z2 : Int32) (m : Mm), k8 z1 z2 m → J X (0, 0) 8 [(0, .ref (ad 426)), (1, .int z1), (2, .int z2)] [] (fl ad m)) : ∀ (n : Nat) (x1 : Int32) (x3 : Int32) (m : Mm), wp_X12_isValid_l136 k8 K x2 n x1 x3 m → J X (0, 0) 136 [(0, .ref (ad 426)), (1, .int x1), (2, .int x2), (3, .int x3)] [] (fl ad m) := by
  intro n
  induction n with
  | zero => intro x1 x3 m h; exact h.elim
  | succ n ih => intro x1 x3 m h; exact tb_X12_isValid_l136 hX hR x2 ih hk8 x1 x3 m h
set_option maxRecDepth 100000 in
theorem tb_X12_isValid_l8 {X : XT} {ad : Nat → Nat} {K : Int32 → Mm → Prop} (hX : Cx X cX12_isValid 4 RX12 (rmN 3 66)) (hR : Rx X (some .boolean) (kI ad K) (0, 0)) {rec : Int32 → Int32 → Mm → Prop} (hrec : ∀ (x1 : Int32) (x2 : Int32) (m : Mm), rec x1 x2 m → J X (0, 0) 8 [(0, .ref (ad 426)), (1, .int x1), (2, .int x2)] [] (fl ad m)) (x1 : Int32) (x2 : Int32) (m : Mm) (h : wb_X12_isValid_l8 rec K x1 x2 m) : J X (0, 0) 8 [(0, .ref (ad 426)), (1, .int x1), (2, .int x2)] [] (fl ad m) := by
  unfold wb_X12_isValid_l8 at h
  refine J_iload_n hX dX12_isValid_8 rfl 2 rfl ?_
  refine J_aload_n hX dX12_isValid_9 rfl 0 rfl ?_
  refine J_callV hX km_X12_many kl_RX12_83 dX12_isValid_10 ka_426 (by decide) [] ⟨Nat.le_of_ble_eq_true rfl, Nat.le_of_ble_eq_true rfl⟩ rfl rfl (Nat.le_of_ble_eq_true rfl) (c_X12_many m) (fun v w2 hk => ?_)
  obtain ⟨rfl, rfl⟩ := hk
  show J X (0, 0) 13 [(0, .ref (ad 426)), (1, .int x1), (2, .int x2)] [.int (v_X12_many m), .int x2] (fl ad m)
  refine J_icmp_ge (tgt := 172) hX dX12_isValid_13 (by decide) (fun c2 => ?_) (fun c2 => ?_)
  · replace h := Eq.mp (if_pos c2) h
    refine J_iload_n hX dX12_isValid_172 rfl 1 rfl ?_
    obtain ⟨b3, h⟩ := h
    exact J_zret hX hR dX12_isValid_173 b3 ⟨_, _, rfl, rfl, h⟩
  · replace h := Eq.mp (if_neg c2) h
    refine J_iload_n hX dX12_isValid_16 rfl 1 rfl ?_
    obtain ⟨g10, h⟩ := h
    have hj36 : ∀ y11 : Int32, y11 = (if x1 = (0 : Int32) then (0 : Int32) else (if (m.1 432 x2.toNatClampNeg) < (0 : Int32) then (0 : Int32) else (if (m.1 433 x2.toNatClampNeg) < (0 : Int32) then (0 : Int32) else (if (m.1 427 0) < ((m.1 432 x2.toNatClampNeg) + (m.1 434 x2.toNatClampNeg)) then (0 : Int32) else (if (m.1 427 1) < ((m.1 433 x2.toNatClampNeg) + (m.1 435 x2.toNatClampNeg)) then (0 : Int32) else (1 : Int32)))))) → J X (0, 0) 87 [(0, .ref (ad 426)), (2, .int x2)] [.int y11] (fl ad m) := by
      intro y11 e_y11
      replace h := h y11 e_y11
      refine J_istore_n (lv2 := [(1, .int y11), (0, .ref (ad 426)), (2, .int x2)]) hX dX12_isValid_87 rfl (Nat.le_of_ble_eq_true rfl) rfl ?_
      refine J_iload_n hX dX12_isValid_88 rfl 0 rfl ?_
      obtain ⟨g20, h⟩ := h
      have hj31 : ∀ y21 : Int32, y21 = (if y11 = (0 : Int32) then (0 : Int32) else (if x2 = (0 : Int32) then (1 : Int32) else (if (v_X12_sideLength (v_X12_of x2 (0 : Int32) m) (v_X12_of x2 (1 : Int32) m) m) < ((v_X12_of x2 (2 : Int32) m) + (v_X12_of x2 (3 : Int32) m)) then (0 : Int32) else (1 : Int32)))) → J X (0, 0) 133 [(0, .ref (ad 426)), (2, .int x2)] [.int y21] (fl ad m) := by
        intro y21 e_y21
        replace h := h y21 e_y21
        refine J_istore_n (lv2 := [(1, .int y21), (0, .ref (ad 426)), (2, .int x2)]) hX dX12_isValid_133 rfl (Nat.le_of_ble_eq_true rfl) rfl ?_
        refine J_iconst (v := (0 : Int32)) hX dX12_isValid_134 (by decide) ?_
        refine J_istore_n (lv2 := [(3, .int (0 : Int32)), (1, .int y21), (0, .ref (ad 426)), (2, .int x2)]) hX dX12_isValid_135 rfl (Nat.le_of_ble_eq_true rfl) rfl ?_
        refine J_sub [2, 1, 3, 0] rfl (t_X12_isValid_l136 hX hR x2 hrec FU y21 (0 : Int32) m h)
      have g32 := g20
      refine J_if_eq (tgt := 132) hX dX12_isValid_89 (by decide) (fun c12 => ?_) (fun c12 => ?_)
      · refine J_iconst (v := (0 : Int32)) hX dX12_isValid_132 (by decide) ?_
        exact J_sub [1, 2] rfl (hj31 _ (if_pos c12).symm)
      · have g33 := g32 c12
        have g34 := g33
        refine J_iload_n hX dX12_isValid_92 rfl 2 rfl ?_
        refine J_if_eq (tgt := 128) hX dX12_isValid_93 (by decide) (fun c13 => ?_) (fun c13 => ?_)
        · refine J_iconst (v := (1 : Int32)) hX dX12_isValid_128 (by decide) ?_
          refine J_goto (tgt := 133) hX dX12_isValid_129 (by decide) ?_
          exact J_sub [1, 2] rfl (hj31 _ ((if_neg c12).trans (if_pos c13)).symm)
        · have g35 := g34 c13
          obtain ⟨b14, b15, b16, b17, b18⟩ := g35
          refine J_aload_n hX dX12_isValid_96 rfl 1 rfl ?_
          refine J_iload_n hX dX12_isValid_97 rfl 2 rfl ?_
          refine J_iconst (v := (2 : Int32)) hX dX12_isValid_98 (by decide) ?_
          refine J_callV hX km_X12_of kl_RX12_91 dX12_isValid_99 ka_426 (by decide) [.int x2, .int (2 : Int32)] ⟨Nat.le_of_ble_eq_true rfl, Nat.le_of_ble_eq_true rfl⟩ rfl rfl (Nat.le_of_ble_eq_true rfl) (c_X12_of x2 (2 : Int32) m b14) (fun v w2 hk => ?_)
          obtain ⟨rfl, rfl⟩ := hk
          show J X (0, 0) 102 [(1, .int y11), (0, .ref (ad 426)), (2, .int x2)] [.int (v_X12_of x2 (2 : Int32) m)] (fl ad m)
          refine J_aload_n hX dX12_isValid_102 rfl 1 rfl ?_
          refine J_iload_n hX dX12_isValid_103 rfl 2 rfl ?_
          refine J_iconst (v := (3 : Int32)) hX dX12_isValid_104 (by decide) ?_
          refine J_callV hX km_X12_of kl_RX12_91 dX12_isValid_105 ka_426 (by decide) [.int x2, .int (3 : Int32)] ⟨Nat.le_of_ble_eq_true rfl, Nat.le_of_ble_eq_true rfl⟩ rfl rfl (Nat.le_of_ble_eq_true rfl) (c_X12_of x2 (3 : Int32) m b15) (fun v w2 hk => ?_)
          obtain ⟨rfl, rfl⟩ := hk
          show J X (0, 0) 108 [(1, .int y11), (0, .ref (ad 426)), (2, .int x2)] [.int (v_X12_of x2 (3 : Int32) m), .int (v_X12_of x2 (2 : Int32) m)] (fl ad m)
          refine J_iadd hX dX12_isValid_108 ?_
          refine J_aload_n hX dX12_isValid_109 rfl 1 rfl ?_
          refine J_aload_n hX dX12_isValid_110 rfl 1 rfl ?_
          refine J_iload_n hX dX12_isValid_111 rfl 2 rfl ?_
          refine J_iconst (v := (0 : Int32)) hX dX12_isValid_112 (by decide) ?_
          refine J_callV hX km_X12_of kl_RX12_91 dX12_isValid_113 ka_426 (by decide) [.int x2, .int (0 : Int32)] ⟨Nat.le_of_ble_eq_true rfl, Nat.le_of_ble_eq_true rfl⟩ rfl rfl (Nat.le_of_ble_eq_true rfl) (c_X12_of x2 (0 : Int32) m b16) (fun v w2 hk => ?_)
          obtain ⟨rfl, rfl⟩ := hk
          show J X (0, 0) 116 [(1, .int y11), (0, .ref (ad 426)), (2, .int x2)] [.int (v_X12_of x2 (0 : Int32) m), .ref (ad 426), .int ((v_X12_of x2 (2 : Int32) m) + (v_X12_of x2 (3 : Int32) m))] (fl ad m)
          refine J_aload_n hX dX12_isValid_116 rfl 1 rfl ?_
          refine J_iload_n hX dX12_isValid_117 rfl 2 rfl ?_
          refine J_iconst (v := (1 : Int32)) hX dX12_isValid_118 (by decide) ?_
          refine J_callV hX km_X12_of kl_RX12_91 dX12_isValid_119 ka_426 (by decide) [.int x2, .int (1 : Int32)] ⟨Nat.le_of_ble_eq_true rfl, Nat.le_of_ble_eq_true rfl⟩ rfl rfl (Nat.le_of_ble_eq_true rfl) (c_X12_of x2 (1 : Int32) m b17) (fun v w2 hk => ?_)
          obtain ⟨rfl, rfl⟩ := hk
          show J X (0, 0) 122 [(1, .int y11), (0, .ref (ad 426)), (2, .int x2)] [.int (v_X12_of x2 (1 : Int32) m), .int (v_X12_of x2 (0 : Int32) m), .ref (ad 426), .int ((v_X12_of x2 (2 : Int32) m) + (v_X12_of x2 (3 : Int32) m))] (fl ad m)
          refine J_callV hX km_X12_sideLength kl_RX12_123 dX12_isValid_122 ka_426 (by decide) [.int (v_X12_of x2 (0 : Int32) m), .int (v_X12_of x2 (1 : Int32) m)] ⟨Nat.le_of_ble_eq_true rfl, Nat.le_of_ble_eq_true rfl⟩ rfl rfl (Nat.le_of_ble_eq_true rfl) (c_X12_sideLength (v_X12_of x2 (0 : Int32) m) (v_X12_of x2 (1 : Int32) m) m b18) (fun v w2 hk => ?_)
          obtain ⟨rfl, rfl⟩ := hk
          show J X (0, 0) 125 [(1, .int y11), (0, .ref (ad 426)), (2, .int x2)] [.int (v_X12_sideLength (v_X12_of x2 (0 : Int32) m) (v_X12_of x2 (1 : Int32) m) m), .int ((v_X12_of x2 (2 : Int32) m) + (v_X12_of x2 (3 : Int32) m))] (fl ad m)
          refine J_icmp_gt (tgt := 132) hX dX12_isValid_125 (by decide) (fun c19 => ?_) (fun c19 => ?_)
          · refine J_iconst (v := (0 : Int32)) hX dX12_isValid_132 (by decide) ?_
            exact J_sub [1, 2] rfl (hj31 _ ((if_neg c12).trans ((if_neg c13).trans (if_pos c19))).symm)
          · refine J_iconst (v := (1 : Int32)) hX dX12_isValid_128 (by decide) ?_
            refine J_goto (tgt := 133) hX dX12_isValid_129 (by decide) ?_
            exact J_sub [1, 2] rfl (hj31 _ ((if_neg c12).trans ((if_neg c13).trans (if_neg c19))).symm)
    have g37 := g10
    refine J_if_eq (tgt := 86) hX dX12_isValid_17 (by decide) (fun c4 => ?_) (fun c4 => ?_)
    · refine J_iconst (v := (0 : Int32)) hX dX12_isValid_86 (by decide) ?_
      exact J_sub [0, 2] rfl (hj36 _ (if_pos c4).symm)
    · have g38 := g37 c4
      have b5 := g38
      refine J_aload_n hX dX12_isValid_20 rfl 0 rfl ?_
      refine J_getR hX kf_RX12_26 dX12_isValid_21 ka_426 (by decide) rfl rh_426_7 ?_
      refine J_iload_n hX dX12_isValid_24 rfl 2 rfl ?_
      refine J_iald (j := x2.toNatClampNeg) hX dX12_isValid_25 ka_432 le_432 b5 rfl ?_
      refine J_if_lt (tgt := 86) hX dX12_isValid_26 (by decide) (fun c6 => ?_) (fun c6 => ?_)
      · refine J_iconst (v := (0 : Int32)) hX dX12_isValid_86 (by decide) ?_
        exact J_sub [0, 2] rfl (hj36 _ ((if_neg c4).trans (if_pos c6)).symm)
      · refine J_aload_n hX dX12_isValid_29 rfl 0 rfl ?_
        refine J_getR hX kf_RX12_29 dX12_isValid_30 ka_426 (by decide) rfl rh_426_8 ?_
        refine J_iload_n hX dX12_isValid_33 rfl 2 rfl ?_
        refine J_iald (j := x2.toNatClampNeg) hX dX12_isValid_34 ka_433 le_433 b5 rfl ?_
        refine J_if_lt (tgt := 86) hX dX12_isValid_35 (by decide) (fun c7 => ?_) (fun c7 => ?_)
        · refine J_iconst (v := (0 : Int32)) hX dX12_isValid_86 (by decide) ?_
          exact J_sub [0, 2] rfl (hj36 _ ((if_neg c4).trans ((if_neg c6).trans (if_pos c7))).symm)
        · refine J_aload_n hX dX12_isValid_38 rfl 0 rfl ?_
          refine J_getR hX kf_RX12_26 dX12_isValid_39 ka_426 (by decide) rfl rh_426_7 ?_
          refine J_iload_n hX dX12_isValid_42 rfl 2 rfl ?_
          refine J_iald (j := x2.toNatClampNeg) hX dX12_isValid_43 ka_432 le_432 b5 rfl ?_
          refine J_aload_n hX dX12_isValid_44 rfl 0 rfl ?_
          refine J_getR hX kf_RX12_32 dX12_isValid_45 ka_426 (by decide) rfl rh_426_9 ?_
          refine J_iload_n hX dX12_isValid_48 rfl 2 rfl ?_
          refine J_iald (j := x2.toNatClampNeg) hX dX12_isValid_49 ka_434 le_434 b5 rfl ?_
          refine J_iadd hX dX12_isValid_50 ?_
          refine J_aload_n hX dX12_isValid_51 rfl 0 rfl ?_
          refine J_getR hX kf_RX12_7 dX12_isValid_52 ka_426 (by decide) rfl rh_426_0 ?_
          refine J_iconst (v := (0 : Int32)) hX dX12_isValid_55 (by decide) ?_
          refine J_iald (j := 0) hX dX12_isValid_56 ka_427 le_427 (vp_lit (by decide)) (by decide) ?_
          refine J_icmp_gt (tgt := 86) hX dX12_isValid_57 (by decide) (fun c8 => ?_) (fun c8 => ?_)
          · refine J_iconst (v := (0 : Int32)) hX dX12_isValid_86 (by decide) ?_
            exact J_sub [0, 2] rfl (hj36 _ ((if_neg c4).trans ((if_neg c6).trans ((if_neg c7).trans (if_pos c8)))).symm)
          · refine J_aload_n hX dX12_isValid_60 rfl 0 rfl ?_
            refine J_getR hX kf_RX12_29 dX12_isValid_61 ka_426 (by decide) rfl rh_426_8 ?_
            refine J_iload_n hX dX12_isValid_64 rfl 2 rfl ?_
            refine J_iald (j := x2.toNatClampNeg) hX dX12_isValid_65 ka_433 le_433 b5 rfl ?_
            refine J_aload_n hX dX12_isValid_66 rfl 0 rfl ?_
            refine J_getR hX kf_RX12_35 dX12_isValid_67 ka_426 (by decide) rfl rh_426_10 ?_
            refine J_iload_n hX dX12_isValid_70 rfl 2 rfl ?_
            refine J_iald (j := x2.toNatClampNeg) hX dX12_isValid_71 ka_435 le_435 b5 rfl ?_
            refine J_iadd hX dX12_isValid_72 ?_
            refine J_aload_n hX dX12_isValid_73 rfl 0 rfl ?_
            refine J_getR hX kf_RX12_7 dX12_isValid_74 ka_426 (by decide) rfl rh_426_0 ?_
            refine J_iconst (v := (1 : Int32)) hX dX12_isValid_77 (by decide) ?_
            refine J_iald (j := 1) hX dX12_isValid_78 ka_427 le_427 (vp_lit (by decide)) (by decide) ?_
            refine J_icmp_gt (tgt := 86) hX dX12_isValid_79 (by decide) (fun c9 => ?_) (fun c9 => ?_)
            · refine J_iconst (v := (0 : Int32)) hX dX12_isValid_86 (by decide) ?_
              exact J_sub [0, 2] rfl (hj36 _ ((if_neg c4).trans ((if_neg c6).trans ((if_neg c7).trans ((if_neg c8).trans (if_pos c9))))).symm)
            · refine J_iconst (v := (1 : Int32)) hX dX12_isValid_82 (by decide) ?_
              refine J_goto (tgt := 87) hX dX12_isValid_83 (by decide) ?_
              exact J_sub [0, 2] rfl (hj36 _ ((if_neg c4).trans ((if_neg c6).trans ((if_neg c7).trans ((if_neg c8).trans (if_neg c9))))).symm)
set_option maxRecDepth 100000 in
theorem t_X12_isValid_l8 {X : XT} {ad : Nat → Nat} {K : Int32 → Mm → Prop} (hX : Cx X cX12_isValid 4 RX12 (rmN 3 66)) (hR : Rx X (some .boolean) (kI ad K) (0, 0))  : ∀ (n : Nat) (x1 : Int32) (x2 : Int32) (m : Mm), wp_X12_isValid_l8 K n x1 x2 m → J X (0, 0) 8 [(0, .ref (ad 426)), (1, .int x1), (2, .int x2)] [] (fl ad m) := by
  intro n
  induction n with
  | zero => intro x1 x2 m h; exact h.elim
  | succ n ih => intro x1 x2 m h; exact tb_X12_isValid_l8 hX hR ih x1 x2 m h
set_option maxRecDepth 100000 in
theorem c_X12_isValid {G : GT} {ad : Nat → Nat} (m : Mm) (K : Int32 → Mm → Prop) (h : wp_X12_isValid m K) : Cn G yX12_isValid cX12_isValid 4 (some .boolean) (rmN 3 66) [.ref (ad 426)] (0, 0) (fl ad m) (kI ad K) := by
  unfold wp_X12_isValid at h
  refine Cn.of pn_RX12 (Nat.le_of_ble_eq_true rfl) (fun X hG hX hR => ?_)
  subst hG
  have hX : Cx X cX12_isValid 4 RX12 (rmN 3 66) := hX
  show J X (0, 0) 0 [(0, .ref (ad 426))] [] (fl ad m)
  refine J_aload_n hX dX12_isValid_0 rfl 0 rfl ?_
  refine J_callV hX km_X12_layFlat kl_RX12_120 dX12_isValid_1 ka_426 (by decide) [] ⟨Nat.le_of_ble_eq_true rfl, Nat.le_of_ble_eq_true rfl⟩ rfl rfl (Nat.le_of_ble_eq_true rfl) (c_X12_layFlat m _ h) (fun v w2 hk => ?_)
  obtain ⟨m1, rfl, rfl, h⟩ := hk
  show J X (0, 0) 4 [(0, .ref (ad 426))] [] (fl ad m1)
  refine J_iconst (v := (1 : Int32)) hX dX12_isValid_4 (by decide) ?_
  refine J_istore_n (lv2 := [(1, .int (1 : Int32)), (0, .ref (ad 426))]) hX dX12_isValid_5 rfl (Nat.le_of_ble_eq_true rfl) rfl ?_
  refine J_iconst (v := (0 : Int32)) hX dX12_isValid_6 (by decide) ?_
  refine J_istore_n (lv2 := [(2, .int (0 : Int32)), (1, .int (1 : Int32)), (0, .ref (ad 426))]) hX dX12_isValid_7 rfl (Nat.le_of_ble_eq_true rfl) rfl ?_
  refine J_sub [2, 1, 0] rfl (t_X12_isValid_l8 hX hR FU (1 : Int32) (0 : Int32) m1 h)
set_option maxRecDepth 100000 in
theorem t_X12_doPanel_j62 {X : XT} {ad : Nat → Nat} {K : Int32 → Mm → Prop} (hX : Cx X cX12_doPanel 8 RX12 (rmN 4 89)) (hR : Rx X (some .int) (kI ad K) (0, 0)) (m : Mm) (h : wp_X12_doPanel_j62 K m) : J X (0, 0) 62 [(0, .ref (ad 426))] [] (fl ad m) := by
  unfold wp_X12_doPanel_j62 at h
  refine J_aload_n hX dX12_doPanel_62 rfl 0 rfl ?_
  refine J_iconst (v := (-1 : Int32)) hX dX12_doPanel_63 (by decide) ?_
  refine J_callV hX km_X12_refuse kl_RX12_130 dX12_doPanel_64 ka_426 (by decide) [.int (-1 : Int32)] ⟨Nat.le_of_ble_eq_true rfl, Nat.le_of_ble_eq_true rfl⟩ rfl rfl (Nat.le_of_ble_eq_true rfl) (c_X12_refuse (-1 : Int32) m _ h) (fun v w2 hk => ?_)
  obtain ⟨y3, m2, rfl, rfl, h⟩ := hk
  show J X (0, 0) 67 [(0, .ref (ad 426))] [.int y3] (fl ad m2)
  exact J_iret hX hR dX12_doPanel_67 ⟨_, _, rfl, rfl, h⟩
set_option maxRecDepth 100000 in
theorem c_X12_doPanel {G : GT} {ad : Nat → Nat} (x1 : Int32) (x2 : Int32) (x3 : Int32) (x4 : Int32) (x5 : Int32) (x6 : Int32) (m : Mm) (K : Int32 → Mm → Prop) (h : wp_X12_doPanel x1 x2 x3 x4 x5 x6 m K) : Cn G yX12_doPanel cX12_doPanel 8 (some .int) (rmN 4 89) [.ref (ad 426), .int x1, .int x2, .int x3, .int x4, .int x5, .int x6] (0, 0) (fl ad m) (kI ad K) := by
  unfold wp_X12_doPanel at h
  refine Cn.of pn_RX12 (Nat.le_of_ble_eq_true rfl) (fun X hG hX hR => ?_)
  subst hG
  have hX : Cx X cX12_doPanel 8 RX12 (rmN 4 89) := hX
  show J X (0, 0) 0 [(0, .ref (ad 426)), (1, .int x1), (2, .int x2), (3, .int x3), (4, .int x4), (5, .int x5), (6, .int x6)] [] (fl ad m)
  refine J_aload_n hX dX12_doPanel_0 rfl 0 rfl ?_
  refine J_iload_n hX dX12_doPanel_1 rfl 1 rfl ?_
  refine J_callV hX km_X12_isPanel kl_RX12_145 dX12_doPanel_2 ka_426 (by decide) [.int x1] ⟨Nat.le_of_ble_eq_true rfl, Nat.le_of_ble_eq_true rfl⟩ rfl rfl (Nat.le_of_ble_eq_true rfl) (c_X12_isPanel x1 m) (fun v w2 hk => ?_)
  obtain ⟨rfl, rfl⟩ := hk
  show J X (0, 0) 5 [(0, .ref (ad 426)), (1, .int x1), (2, .int x2), (3, .int x3), (4, .int x4), (5, .int x5), (6, .int x6)] [.int (v_X12_isPanel x1 m)] (fl ad m)
  refine J_if_eq (tgt := 62) hX dX12_doPanel_5 (by decide) (fun c1 => ?_) (fun c1 => ?_)
  · replace h := Eq.mp (if_pos c1) h
    exact J_sub [0] rfl (t_X12_doPanel_j62 hX hR m h)
  · replace h := Eq.mp (if_neg c1) h
    refine J_iload_n hX dX12_doPanel_8 rfl 2 rfl ?_
    refine J_iconst (v := (0 : Int32)) hX dX12_doPanel_9 (by decide) ?_
    refine J_iconst (v := (3 : Int32)) hX dX12_doPanel_10 (by decide) ?_
    refine J_callS hX km_X12_in kl_RX12_87 dX12_doPanel_11 [.int x2, .int (0 : Int32), .int (3 : Int32)] ⟨Nat.le_of_ble_eq_true rfl, Nat.le_of_ble_eq_true rfl⟩ rfl rfl (Nat.le_of_ble_eq_true rfl) (c_X12_in x2 (0 : Int32) (3 : Int32) m) (fun v w2 hk => ?_)
    obtain ⟨rfl, rfl⟩ := hk
    show J X (0, 0) 14 [(0, .ref (ad 426)), (1, .int x1), (2, .int x2), (3, .int x3), (4, .int x4), (5, .int x5), (6, .int x6)] [.int (v_X12_in x2 (0 : Int32) (3 : Int32))] (fl ad m)
    refine J_if_eq (tgt := 62) hX dX12_doPanel_14 (by decide) (fun c4 => ?_) (fun c4 => ?_)
    · replace h := Eq.mp (if_pos c4) h
      exact J_sub [0] rfl (t_X12_doPanel_j62 hX hR m h)
    · replace h := Eq.mp (if_neg c4) h
      refine J_iload_n hX dX12_doPanel_17 rfl 3 rfl ?_
      refine J_iconst (v := (0 : Int32)) hX dX12_doPanel_18 (by decide) ?_
      refine J_sipush (v := (300 : Int32)) hX dX12_doPanel_19 (by decide) ?_
      refine J_callS hX km_X12_in kl_RX12_87 dX12_doPanel_22 [.int x3, .int (0 : Int32), .int (300 : Int32)] ⟨Nat.le_of_ble_eq_true rfl, Nat.le_of_ble_eq_true rfl⟩ rfl rfl (Nat.le_of_ble_eq_true rfl) (c_X12_in x3 (0 : Int32) (300 : Int32) m) (fun v w2 hk => ?_)
      obtain ⟨rfl, rfl⟩ := hk
      show J X (0, 0) 25 [(0, .ref (ad 426)), (1, .int x1), (2, .int x2), (3, .int x3), (4, .int x4), (5, .int x5), (6, .int x6)] [.int (v_X12_in x3 (0 : Int32) (300 : Int32))] (fl ad m)
      refine J_if_eq (tgt := 62) hX dX12_doPanel_25 (by decide) (fun c5 => ?_) (fun c5 => ?_)
      · replace h := Eq.mp (if_pos c5) h
        exact J_sub [0] rfl (t_X12_doPanel_j62 hX hR m h)
      · replace h := Eq.mp (if_neg c5) h
        refine J_iload hX dX12_doPanel_28 4 rfl ?_
        refine J_iconst (v := (1 : Int32)) hX dX12_doPanel_30 (by decide) ?_
        refine J_sipush (v := (300 : Int32)) hX dX12_doPanel_31 (by decide) ?_
        refine J_callS hX km_X12_in kl_RX12_87 dX12_doPanel_34 [.int x4, .int (1 : Int32), .int (300 : Int32)] ⟨Nat.le_of_ble_eq_true rfl, Nat.le_of_ble_eq_true rfl⟩ rfl rfl (Nat.le_of_ble_eq_true rfl) (c_X12_in x4 (1 : Int32) (300 : Int32) m) (fun v w2 hk => ?_)
        obtain ⟨rfl, rfl⟩ := hk
        show J X (0, 0) 37 [(0, .ref (ad 426)), (1, .int x1), (2, .int x2), (3, .int x3), (4, .int x4), (5, .int x5), (6, .int x6)] [.int (v_X12_in x4 (1 : Int32) (300 : Int32))] (fl ad m)
        refine J_if_eq (tgt := 62) hX dX12_doPanel_37 (by decide) (fun c6 => ?_) (fun c6 => ?_)
        · replace h := Eq.mp (if_pos c6) h
          exact J_sub [0] rfl (t_X12_doPanel_j62 hX hR m h)
        · replace h := Eq.mp (if_neg c6) h
          refine J_iload hX dX12_doPanel_40 5 rfl ?_
          refine J_iconst (v := (1 : Int32)) hX dX12_doPanel_42 (by decide) ?_
          refine J_sipush (v := (300 : Int32)) hX dX12_doPanel_43 (by decide) ?_
          refine J_callS hX km_X12_in kl_RX12_87 dX12_doPanel_46 [.int x5, .int (1 : Int32), .int (300 : Int32)] ⟨Nat.le_of_ble_eq_true rfl, Nat.le_of_ble_eq_true rfl⟩ rfl rfl (Nat.le_of_ble_eq_true rfl) (c_X12_in x5 (1 : Int32) (300 : Int32) m) (fun v w2 hk => ?_)
          obtain ⟨rfl, rfl⟩ := hk
          show J X (0, 0) 49 [(0, .ref (ad 426)), (1, .int x1), (2, .int x2), (3, .int x3), (4, .int x4), (5, .int x5), (6, .int x6)] [.int (v_X12_in x5 (1 : Int32) (300 : Int32))] (fl ad m)
          refine J_if_eq (tgt := 62) hX dX12_doPanel_49 (by decide) (fun c7 => ?_) (fun c7 => ?_)
          · replace h := Eq.mp (if_pos c7) h
            exact J_sub [0] rfl (t_X12_doPanel_j62 hX hR m h)
          · replace h := Eq.mp (if_neg c7) h
            refine J_iload hX dX12_doPanel_52 6 rfl ?_
            refine J_iconst (v := (-1 : Int32)) hX dX12_doPanel_54 (by decide) ?_
            refine J_iconst (v := (2 : Int32)) hX dX12_doPanel_55 (by decide) ?_
            refine J_callS hX km_X12_in kl_RX12_87 dX12_doPanel_56 [.int x6, .int (-1 : Int32), .int (2 : Int32)] ⟨Nat.le_of_ble_eq_true rfl, Nat.le_of_ble_eq_true rfl⟩ rfl rfl (Nat.le_of_ble_eq_true rfl) (c_X12_in x6 (-1 : Int32) (2 : Int32) m) (fun v w2 hk => ?_)
            obtain ⟨rfl, rfl⟩ := hk
            show J X (0, 0) 59 [(0, .ref (ad 426)), (1, .int x1), (2, .int x2), (3, .int x3), (4, .int x4), (5, .int x5), (6, .int x6)] [.int (v_X12_in x6 (-1 : Int32) (2 : Int32))] (fl ad m)
            refine J_if_ne (tgt := 68) hX dX12_doPanel_59 (by decide) (fun c8 => ?_) (fun c8 => ?_)
            · replace h := Eq.mp (if_neg c8) h
              refine J_aload_n hX dX12_doPanel_68 rfl 0 rfl ?_
              refine J_callV hX km_X12_many kl_RX12_83 dX12_doPanel_69 ka_426 (by decide) [] ⟨Nat.le_of_ble_eq_true rfl, Nat.le_of_ble_eq_true rfl⟩ rfl rfl (Nat.le_of_ble_eq_true rfl) (c_X12_many m) (fun v w2 hk => ?_)
              obtain ⟨rfl, rfl⟩ := hk
              show J X (0, 0) 72 [(0, .ref (ad 426)), (1, .int x1), (2, .int x2), (3, .int x3), (4, .int x4), (5, .int x5), (6, .int x6)] [.int (v_X12_many m)] (fl ad m)
              refine J_nmI (fun y9 e_y9 => ?_)
              replace h := h y9 e_y9
              refine J_istore (lv2 := [(7, .int y9), (0, .ref (ad 426)), (1, .int x1), (2, .int x2), (3, .int x3), (4, .int x4), (5, .int x5), (6, .int x6)]) hX dX12_doPanel_72 (Nat.le_of_ble_eq_true rfl) rfl ?_
              refine J_iload hX dX12_doPanel_74 0 rfl ?_
              refine J_bipush (v := (10 : Int32)) hX dX12_doPanel_76 (by decide) ?_
              refine J_icmp_ne (tgt := 88) hX dX12_doPanel_78 (by decide) (fun c10 => ?_) (fun c10 => ?_)
              · replace h := Eq.mp (if_neg c10) h
                refine J_aload_n hX dX12_doPanel_88 rfl 1 rfl ?_
                refine J_getR hX kf_RX12_7 dX12_doPanel_89 ka_426 (by decide) rfl rh_426_0 ?_
                refine J_iconst (v := (2 : Int32)) hX dX12_doPanel_92 (by decide) ?_
                refine J_dup2_11 hX dX12_doPanel_93 rfl rfl ?_
                refine J_iald (j := 2) hX dX12_doPanel_94 ka_427 le_427 (vp_lit (by decide)) (by decide) ?_
                refine J_iconst (v := (1 : Int32)) hX dX12_doPanel_95 (by decide) ?_
                refine J_iadd hX dX12_doPanel_96 ?_
                refine J_iast (j := 2) hX dX12_doPanel_97 ka_427 le_427 (vp_lit (by decide)) (by decide) ?_
                refine J_nmM (fun m11 e_m11 => ?_)
                replace h := h m11 e_m11
                refine J_aload_n hX dX12_doPanel_98 rfl 1 rfl ?_
                refine J_iload hX dX12_doPanel_99 0 rfl ?_
                refine J_callV hX km_X12_newPanel kl_RX12_141 dX12_doPanel_101 ka_426 (by decide) [.int y9] ⟨Nat.le_of_ble_eq_true rfl, Nat.le_of_ble_eq_true rfl⟩ rfl rfl (Nat.le_of_ble_eq_true rfl) (c_X12_newPanel y9 m11 _ h) (fun v w2 hk => ?_)
                obtain ⟨m12, rfl, rfl, h⟩ := hk
                show J X (0, 0) 104 [(7, .int y9), (0, .ref (ad 426)), (1, .int x1), (2, .int x2), (3, .int x3), (4, .int x4), (5, .int x5), (6, .int x6)] [] (fl ad m12)
                refine J_aload_n hX dX12_doPanel_104 rfl 1 rfl ?_
                refine J_iload hX dX12_doPanel_105 0 rfl ?_
                refine J_iconst (v := (0 : Int32)) hX dX12_doPanel_107 (by decide) ?_
                refine J_iload_n hX dX12_doPanel_108 rfl 2 rfl ?_
                refine J_callV hX km_X12_put kl_RX12_137 dX12_doPanel_109 ka_426 (by decide) [.int y9, .int (0 : Int32), .int x1] ⟨Nat.le_of_ble_eq_true rfl, Nat.le_of_ble_eq_true rfl⟩ rfl rfl (Nat.le_of_ble_eq_true rfl) (c_X12_put y9 (0 : Int32) x1 m12 _ h) (fun v w2 hk => ?_)
                obtain ⟨m13, rfl, rfl, h⟩ := hk
                show J X (0, 0) 112 [(7, .int y9), (0, .ref (ad 426)), (1, .int x1), (2, .int x2), (3, .int x3), (4, .int x4), (5, .int x5), (6, .int x6)] [] (fl ad m13)
                refine J_aload_n hX dX12_doPanel_112 rfl 1 rfl ?_
                refine J_iload hX dX12_doPanel_113 0 rfl ?_
                refine J_iconst (v := (1 : Int32)) hX dX12_doPanel_115 (by decide) ?_
                refine J_iload_n hX dX12_doPanel_116 rfl 3 rfl ?_
                refine J_callV hX km_X12_put kl_RX12_137 dX12_doPanel_117 ka_426 (by decide) [.int y9, .int (1 : Int32), .int x2] ⟨Nat.le_of_ble_eq_true rfl, Nat.le_of_ble_eq_true rfl⟩ rfl rfl (Nat.le_of_ble_eq_true rfl) (c_X12_put y9 (1 : Int32) x2 m13 _ h) (fun v w2 hk => ?_)
                obtain ⟨m14, rfl, rfl, h⟩ := hk
                show J X (0, 0) 120 [(7, .int y9), (0, .ref (ad 426)), (1, .int x1), (2, .int x2), (3, .int x3), (4, .int x4), (5, .int x5), (6, .int x6)] [] (fl ad m14)
                refine J_aload_n hX dX12_doPanel_120 rfl 1 rfl ?_
                refine J_iload hX dX12_doPanel_121 0 rfl ?_
                refine J_iconst (v := (2 : Int32)) hX dX12_doPanel_123 (by decide) ?_
                refine J_iload_n hX dX12_doPanel_124 rfl 4 rfl ?_
                refine J_callV hX km_X12_put kl_RX12_137 dX12_doPanel_125 ka_426 (by decide) [.int y9, .int (2 : Int32), .int x3] ⟨Nat.le_of_ble_eq_true rfl, Nat.le_of_ble_eq_true rfl⟩ rfl rfl (Nat.le_of_ble_eq_true rfl) (c_X12_put y9 (2 : Int32) x3 m14 _ h) (fun v w2 hk => ?_)
                obtain ⟨m15, rfl, rfl, h⟩ := hk
                show J X (0, 0) 128 [(7, .int y9), (0, .ref (ad 426)), (1, .int x1), (2, .int x2), (3, .int x3), (4, .int x4), (5, .int x5), (6, .int x6)] [] (fl ad m15)
                refine J_aload_n hX dX12_doPanel_128 rfl 1 rfl ?_
                refine J_iload hX dX12_doPanel_129 0 rfl ?_
                refine J_iconst (v := (3 : Int32)) hX dX12_doPanel_131 (by decide) ?_
                refine J_iload hX dX12_doPanel_132 5 rfl ?_
                refine J_callV hX km_X12_put kl_RX12_137 dX12_doPanel_134 ka_426 (by decide) [.int y9, .int (3 : Int32), .int x4] ⟨Nat.le_of_ble_eq_true rfl, Nat.le_of_ble_eq_true rfl⟩ rfl rfl (Nat.le_of_ble_eq_true rfl) (c_X12_put y9 (3 : Int32) x4 m15 _ h) (fun v w2 hk => ?_)
                obtain ⟨m16, rfl, rfl, h⟩ := hk
                show J X (0, 0) 137 [(7, .int y9), (0, .ref (ad 426)), (1, .int x1), (2, .int x2), (3, .int x3), (4, .int x4), (5, .int x5), (6, .int x6)] [] (fl ad m16)
                refine J_aload_n hX dX12_doPanel_137 rfl 1 rfl ?_
                refine J_iload hX dX12_doPanel_138 0 rfl ?_
                refine J_iconst (v := (4 : Int32)) hX dX12_doPanel_140 (by decide) ?_
                refine J_iload hX dX12_doPanel_141 6 rfl ?_
                refine J_callV hX km_X12_put kl_RX12_137 dX12_doPanel_143 ka_426 (by decide) [.int y9, .int (4 : Int32), .int x5] ⟨Nat.le_of_ble_eq_true rfl, Nat.le_of_ble_eq_true rfl⟩ rfl rfl (Nat.le_of_ble_eq_true rfl) (c_X12_put y9 (4 : Int32) x5 m16 _ h) (fun v w2 hk => ?_)
                obtain ⟨m17, rfl, rfl, h⟩ := hk
                show J X (0, 0) 146 [(7, .int y9), (0, .ref (ad 426)), (1, .int x1), (2, .int x2), (3, .int x3), (4, .int x4), (5, .int x5), (6, .int x6)] [] (fl ad m17)
                refine J_aload_n hX dX12_doPanel_146 rfl 1 rfl ?_
                refine J_iload hX dX12_doPanel_147 0 rfl ?_
                refine J_iconst (v := (5 : Int32)) hX dX12_doPanel_149 (by decide) ?_
                refine J_iload hX dX12_doPanel_150 7 rfl ?_
                refine J_callV hX km_X12_put kl_RX12_137 dX12_doPanel_152 ka_426 (by decide) [.int y9, .int (5 : Int32), .int x6] ⟨Nat.le_of_ble_eq_true rfl, Nat.le_of_ble_eq_true rfl⟩ rfl rfl (Nat.le_of_ble_eq_true rfl) (c_X12_put y9 (5 : Int32) x6 m17 _ h) (fun v w2 hk => ?_)
                obtain ⟨m18, rfl, rfl, h⟩ := hk
                show J X (0, 0) 155 [(7, .int y9), (0, .ref (ad 426)), (1, .int x1), (2, .int x2), (3, .int x3), (4, .int x4), (5, .int x5), (6, .int x6)] [] (fl ad m18)
                refine J_aload_n hX dX12_doPanel_155 rfl 1 rfl ?_
                refine J_callV hX km_X12_isValid kl_RX12_133 dX12_doPanel_156 ka_426 (by decide) [] ⟨Nat.le_of_ble_eq_true rfl, Nat.le_of_ble_eq_true rfl⟩ rfl rfl (Nat.le_of_ble_eq_true rfl) (c_X12_isValid m18 _ h) (fun v w2 hk => ?_)
                obtain ⟨y20, m19, rfl, rfl, h⟩ := hk
                show J X (0, 0) 159 [(7, .int y9), (0, .ref (ad 426)), (1, .int x1), (2, .int x2), (3, .int x3), (4, .int x4), (5, .int x5), (6, .int x6)] [.int y20] (fl ad m19)
                refine J_if_eq (tgt := 167) hX dX12_doPanel_159 (by decide) (fun c21 => ?_) (fun c21 => ?_)
                · replace h := Eq.mp (if_pos c21) h
                  refine J_aload_n hX dX12_doPanel_167 rfl 1 rfl ?_
                  refine J_bipush (v := (-4 : Int32)) hX dX12_doPanel_168 (by decide) ?_
                  refine J_callV hX km_X12_refuse kl_RX12_130 dX12_doPanel_170 ka_426 (by decide) [.int (-4 : Int32)] ⟨Nat.le_of_ble_eq_true rfl, Nat.le_of_ble_eq_true rfl⟩ rfl rfl (Nat.le_of_ble_eq_true rfl) (c_X12_refuse (-4 : Int32) m19 _ h) (fun v w2 hk => ?_)
                  obtain ⟨y23, m22, rfl, rfl, h⟩ := hk
                  show J X (0, 0) 173 [(7, .int y9), (0, .ref (ad 426)), (1, .int x1), (2, .int x2), (3, .int x3), (4, .int x4), (5, .int x5), (6, .int x6)] [.int y23] (fl ad m22)
                  exact J_iret hX hR dX12_doPanel_173 ⟨_, _, rfl, rfl, h⟩
                · replace h := Eq.mp (if_neg c21) h
                  refine J_iload hX dX12_doPanel_162 0 rfl ?_
                  refine J_goto (tgt := 173) hX dX12_doPanel_164 (by decide) ?_
                  exact J_iret hX hR dX12_doPanel_173 ⟨_, _, rfl, rfl, h⟩
              · replace h := Eq.mp (if_pos c10) h
                refine J_aload_n hX dX12_doPanel_81 rfl 1 rfl ?_
                refine J_bipush (v := (-3 : Int32)) hX dX12_doPanel_82 (by decide) ?_
                refine J_callV hX km_X12_refuse kl_RX12_130 dX12_doPanel_84 ka_426 (by decide) [.int (-3 : Int32)] ⟨Nat.le_of_ble_eq_true rfl, Nat.le_of_ble_eq_true rfl⟩ rfl rfl (Nat.le_of_ble_eq_true rfl) (c_X12_refuse (-3 : Int32) m _ h) (fun v w2 hk => ?_)
                obtain ⟨y25, m24, rfl, rfl, h⟩ := hk
                show J X (0, 0) 87 [(7, .int y9), (0, .ref (ad 426)), (1, .int x1), (2, .int x2), (3, .int x3), (4, .int x4), (5, .int x5), (6, .int x6)] [.int y25] (fl ad m24)
                exact J_iret hX hR dX12_doPanel_87 ⟨_, _, rfl, rfl, h⟩
            · replace h := Eq.mp (if_pos c8) h
              exact J_sub [0] rfl (t_X12_doPanel_j62 hX hR m h)
set_option maxRecDepth 100000 in
theorem tb_X12_ends_l61 {X : XT} {ad : Nat → Nat} {K : Int32 → Mm → Prop} (hX : Cx X cX12_ends 3 RX12 (rmN 0 0)) (hR : Rx X (some .int) (kI ad K) (0, 0)) {rec : Int32 → Mm → Prop} {k95 : Mm → Prop} (x1 : Int32) (hrec : ∀ (x2 : Int32) (m : Mm), rec x2 m → J X (0, 0) 61 [(0, .ref (ad 426)), (1, .int x1), (2, .int x2)] [] (fl ad m)) (hk95 : ∀ (m : Mm), k95 m → J X (0, 0) 95 [(0, .ref (ad 426)), (1, .int x1)] [] (fl ad m)) (x2 : Int32) (m : Mm) (h : wb_X12_ends_l61 rec k95 K x1 x2 m) : J X (0, 0) 61 [(0, .ref (ad 426)), (1, .int x1), (2, .int x2)] [] (fl ad m) := by
  unfold wb_X12_ends_l61 at h
  refine J_iload_n hX dX12_ends_61 rfl 2 rfl ?_
  refine J_sipush (v := (137 : Int32)) hX dX12_ends_62 (by decide) ?_
  refine J_icmp_ge (tgt := 95) hX dX12_ends_65 (by decide) (fun c3 => ?_) (fun c3 => ?_)
  · replace h := Eq.mp (if_pos c3) h
    exact J_sub [0, 1] rfl (hk95 m h)
  · replace h := Eq.mp (if_neg c3) h
    refine J_aload_n hX dX12_ends_68 rfl 0 rfl ?_
    refine J_getR hX kf_RX12_16 dX12_ends_69 ka_426 (by decide) rfl rh_426_3 ?_
    refine J_sipush (v := (137 : Int32)) hX dX12_ends_72 (by decide) ?_
    refine J_aload_n hX dX12_ends_75 rfl 0 rfl ?_
    refine J_getI hX kf_RX12_99 dX12_ends_76 ka_426 (by decide) rfl ?_
    refine J_imul hX dX12_ends_79 ?_
    refine J_iload_n hX dX12_ends_80 rfl 2 rfl ?_
    refine J_iadd hX dX12_ends_81 ?_
    refine J_aload_n hX dX12_ends_82 rfl 0 rfl ?_
    refine J_getR hX kf_RX12_13 dX12_ends_83 ka_426 (by decide) rfl rh_426_1 ?_
    refine J_iload_n hX dX12_ends_86 rfl 2 rfl ?_
    obtain ⟨b4, h⟩ := h
    refine J_iald (j := x2.toNatClampNeg) hX dX12_ends_87 ka_428 le_428 b4 rfl ?_
    obtain ⟨b5, h⟩ := h
    refine J_iast (j := (((137 : Int32) * (m.1 426 4)) + x2).toNatClampNeg) hX dX12_ends_88 ka_429 le_429 b5 rfl ?_
    refine J_nmM (fun m6 e_m6 => ?_)
    replace h := h m6 e_m6
    refine J_iinc (x := (x2 + (1 : Int32))) (lv2 := [(2, .int (x2 + (1 : Int32))), (0, .ref (ad 426)), (1, .int x1)]) hX dX12_ends_89 2 rfl rfl (Nat.le_of_ble_eq_true rfl) rfl ?_
    refine J_goto (tgt := 61) hX dX12_ends_92 (by decide) ?_
    exact J_sub [1, 2, 0] rfl (hrec (x2 + (1 : Int32)) m6 h)
set_option maxRecDepth 100000 in
theorem t_X12_ends_l61 {X : XT} {ad : Nat → Nat} {K : Int32 → Mm → Prop} (hX : Cx X cX12_ends 3 RX12 (rmN 0 0)) (hR : Rx X (some .int) (kI ad K) (0, 0)) {k95 : Mm → Prop} (x1 : Int32) (hk95 : ∀ (m : Mm), k95 m → J X (0, 0) 95 [(0, .ref (ad 426)), (1, .int x1)] [] (fl ad m)) : ∀ (n : Nat) (x2 : Int32) (m : Mm), wp_X12_ends_l61 k95 K x1 n x2 m → J X (0, 0) 61 [(0, .ref (ad 426)), (1, .int x1), (2, .int x2)] [] (fl ad m) := by
  intro n
  induction n with
  | zero => intro x2 m h; exact h.elim
  | succ n ih => intro x2 m h; exact tb_X12_ends_l61 hX hR x1 ih hk95 x2 m h
set_option maxRecDepth 100000 in
theorem t_X12_ends_j59 {X : XT} {ad : Nat → Nat} {K : Int32 → Mm → Prop} (hX : Cx X cX12_ends 3 RX12 (rmN 0 0)) (hR : Rx X (some .int) (kI ad K) (0, 0)) (x1 : Int32) (m : Mm) (h : wp_X12_ends_j59 K x1 m) : J X (0, 0) 59 [(0, .ref (ad 426)), (1, .int x1)] [] (fl ad m) := by
  unfold wp_X12_ends_j59 at h
  refine J_iconst (v := (0 : Int32)) hX dX12_ends_59 (by decide) ?_
  refine J_istore_n (lv2 := [(2, .int (0 : Int32)), (0, .ref (ad 426)), (1, .int x1)]) hX dX12_ends_60 rfl (Nat.le_of_ble_eq_true rfl) rfl ?_
  refine J_sub [1, 2, 0] rfl (t_X12_ends_l61 hX hR x1 (fun m7 h => ?_) FU (0 : Int32) m h)
  refine J_aload_n hX dX12_ends_95 rfl 0 rfl ?_
  refine J_dup hX dX12_ends_96 rfl ?_
  refine J_getI hX kf_RX12_99 dX12_ends_97 ka_426 (by decide) rfl ?_
  refine J_iconst (v := (1 : Int32)) hX dX12_ends_100 (by decide) ?_
  refine J_iadd hX dX12_ends_101 ?_
  refine J_putI hX kf_RX12_99 dX12_ends_102 ka_426 (by decide) rfl ?_
  refine J_nmM (fun m8 e_m8 => ?_)
  replace h := h m8 e_m8
  refine J_iload_n hX dX12_ends_105 rfl 1 rfl ?_
  exact J_iret hX hR dX12_ends_106 ⟨_, _, rfl, rfl, h⟩
set_option maxRecDepth 100000 in
theorem tb_X12_ends_l20 {X : XT} {ad : Nat → Nat} {K : Int32 → Mm → Prop} (hX : Cx X cX12_ends 3 RX12 (rmN 0 0)) (hR : Rx X (some .int) (kI ad K) (0, 0)) {rec : Int32 → Mm → Prop} {k49 : Mm → Prop} (x1 : Int32) (hrec : ∀ (x2 : Int32) (m : Mm), rec x2 m → J X (0, 0) 20 [(0, .ref (ad 426)), (1, .int x1), (2, .int x2)] [] (fl ad m)) (hk49 : ∀ (m : Mm), k49 m → J X (0, 0) 49 [(0, .ref (ad 426)), (1, .int x1)] [] (fl ad m)) (x2 : Int32) (m : Mm) (h : wb_X12_ends_l20 rec k49 K x1 x2 m) : J X (0, 0) 20 [(0, .ref (ad 426)), (1, .int x1), (2, .int x2)] [] (fl ad m) := by
  unfold wb_X12_ends_l20 at h
  refine J_iload_n hX dX12_ends_20 rfl 2 rfl ?_
  refine J_sipush (v := (1507 : Int32)) hX dX12_ends_21 (by decide) ?_
  refine J_icmp_ge (tgt := 49) hX dX12_ends_24 (by decide) (fun c9 => ?_) (fun c9 => ?_)
  · replace h := Eq.mp (if_pos c9) h
    exact J_sub [0, 1] rfl (hk49 m h)
  · replace h := Eq.mp (if_neg c9) h
    refine J_aload_n hX dX12_ends_27 rfl 0 rfl ?_
    refine J_getR hX kf_RX12_16 dX12_ends_28 ka_426 (by decide) rfl rh_426_3 ?_
    refine J_iload_n hX dX12_ends_31 rfl 2 rfl ?_
    refine J_aload_n hX dX12_ends_32 rfl 0 rfl ?_
    refine J_getR hX kf_RX12_16 dX12_ends_33 ka_426 (by decide) rfl rh_426_3 ?_
    refine J_iload_n hX dX12_ends_36 rfl 2 rfl ?_
    refine J_sipush (v := (137 : Int32)) hX dX12_ends_37 (by decide) ?_
    refine J_iadd hX dX12_ends_40 ?_
    obtain ⟨b10, h⟩ := h
    refine J_iald (j := (x2 + (137 : Int32)).toNatClampNeg) hX dX12_ends_41 ka_429 le_429 b10 rfl ?_
    obtain ⟨b11, h⟩ := h
    refine J_iast (j := x2.toNatClampNeg) hX dX12_ends_42 ka_429 le_429 b11 rfl ?_
    refine J_nmM (fun m12 e_m12 => ?_)
    replace h := h m12 e_m12
    refine J_iinc (x := (x2 + (1 : Int32))) (lv2 := [(2, .int (x2 + (1 : Int32))), (0, .ref (ad 426)), (1, .int x1)]) hX dX12_ends_43 2 rfl rfl (Nat.le_of_ble_eq_true rfl) rfl ?_
    refine J_goto (tgt := 20) hX dX12_ends_46 (by decide) ?_
    exact J_sub [1, 2, 0] rfl (hrec (x2 + (1 : Int32)) m12 h)
set_option maxRecDepth 100000 in
theorem t_X12_ends_l20 {X : XT} {ad : Nat → Nat} {K : Int32 → Mm → Prop} (hX : Cx X cX12_ends 3 RX12 (rmN 0 0)) (hR : Rx X (some .int) (kI ad K) (0, 0)) {k49 : Mm → Prop} (x1 : Int32) (hk49 : ∀ (m : Mm), k49 m → J X (0, 0) 49 [(0, .ref (ad 426)), (1, .int x1)] [] (fl ad m)) : ∀ (n : Nat) (x2 : Int32) (m : Mm), wp_X12_ends_l20 k49 K x1 n x2 m → J X (0, 0) 20 [(0, .ref (ad 426)), (1, .int x1), (2, .int x2)] [] (fl ad m) := by
  intro n
  induction n with
  | zero => intro x2 m h; exact h.elim
  | succ n ih => intro x2 m h; exact tb_X12_ends_l20 hX hR x1 ih hk49 x2 m h
set_option maxRecDepth 100000 in
theorem c_X12_ends {G : GT} {ad : Nat → Nat} (x1 : Int32) (m : Mm) (K : Int32 → Mm → Prop) (h : wp_X12_ends x1 m K) : Cn G yX12_ends cX12_ends 3 (some .int) (rmN 0 0) [.ref (ad 426), .int x1] (0, 0) (fl ad m) (kI ad K) := by
  unfold wp_X12_ends at h
  refine Cn.of pn_RX12 (Nat.le_of_ble_eq_true rfl) (fun X hG hX hR => ?_)
  subst hG
  have hX : Cx X cX12_ends 3 RX12 (rmN 0 0) := hX
  show J X (0, 0) 0 [(0, .ref (ad 426)), (1, .int x1)] [] (fl ad m)
  refine J_aload_n hX dX12_ends_0 rfl 0 rfl ?_
  refine J_getI hX kf_RX12_95 dX12_ends_1 ka_426 (by decide) rfl ?_
  refine J_if_eq (tgt := 9) hX dX12_ends_4 (by decide) (fun c1 => ?_) (fun c1 => ?_)
  · replace h := Eq.mp (if_pos c1) h
    refine J_aload_n hX dX12_ends_9 rfl 0 rfl ?_
    refine J_getI hX kf_RX12_99 dX12_ends_10 ka_426 (by decide) rfl ?_
    refine J_bipush (v := (12 : Int32)) hX dX12_ends_13 (by decide) ?_
    refine J_icmp_ne (tgt := 59) hX dX12_ends_15 (by decide) (fun c2 => ?_) (fun c2 => ?_)
    · replace h := Eq.mp (if_neg c2) h
      exact J_sub [0, 1] rfl (t_X12_ends_j59 hX hR x1 m h)
    · replace h := Eq.mp (if_pos c2) h
      refine J_iconst (v := (0 : Int32)) hX dX12_ends_18 (by decide) ?_
      refine J_istore_n (lv2 := [(2, .int (0 : Int32)), (0, .ref (ad 426)), (1, .int x1)]) hX dX12_ends_19 rfl (Nat.le_of_ble_eq_true rfl) rfl ?_
      refine J_sub [1, 2, 0] rfl (t_X12_ends_l20 hX hR x1 (fun m13 h => ?_) FU (0 : Int32) m h)
      refine J_aload_n hX dX12_ends_49 rfl 0 rfl ?_
      refine J_dup hX dX12_ends_50 rfl ?_
      refine J_getI hX kf_RX12_99 dX12_ends_51 ka_426 (by decide) rfl ?_
      refine J_iconst (v := (1 : Int32)) hX dX12_ends_54 (by decide) ?_
      refine J_isub hX dX12_ends_55 ?_
      refine J_putI hX kf_RX12_99 dX12_ends_56 ka_426 (by decide) rfl ?_
      refine J_nmM (fun m14 e_m14 => ?_)
      replace h := h m14 e_m14
      exact J_sub [0, 1] rfl (t_X12_ends_j59 hX hR x1 m14 h)
  · replace h := Eq.mp (if_neg c1) h
    refine J_iload_n hX dX12_ends_7 rfl 1 rfl ?_
    exact J_iret hX hR dX12_ends_8 ⟨_, _, rfl, rfl, h⟩
set_option maxRecDepth 100000 in
theorem c_X12_addPanel {G : GT} {ad : Nat → Nat} (x1 : Int32) (x2 : Int32) (x3 : Int32) (x4 : Int32) (x5 : Int32) (x6 : Int32) (m : Mm) (K : Int32 → Mm → Prop) (h : wp_X12_addPanel x1 x2 x3 x4 x5 x6 m K) : Cn G yX12_addPanel cX12_addPanel 7 (some .int) (rmN 5 116) [.ref (ad 426), .int x1, .int x2, .int x3, .int x4, .int x5, .int x6] (0, 0) (fl ad m) (kI ad K) := by
  unfold wp_X12_addPanel at h
  refine Cn.of pn_RX12 (Nat.le_of_ble_eq_true rfl) (fun X hG hX hR => ?_)
  subst hG
  have hX : Cx X cX12_addPanel 7 RX12 (rmN 5 116) := hX
  show J X (0, 0) 0 [(0, .ref (ad 426)), (1, .int x1), (2, .int x2), (3, .int x3), (4, .int x4), (5, .int x5), (6, .int x6)] [] (fl ad m)
  refine J_aload_n hX dX12_addPanel_0 rfl 0 rfl ?_
  refine J_callV hX km_X12_begins kl_RX12_103 dX12_addPanel_1 ka_426 (by decide) [] ⟨Nat.le_of_ble_eq_true rfl, Nat.le_of_ble_eq_true rfl⟩ rfl rfl (Nat.le_of_ble_eq_true rfl) (c_X12_begins m _ h) (fun v w2 hk => ?_)
  obtain ⟨m1, rfl, rfl, h⟩ := hk
  show J X (0, 0) 4 [(0, .ref (ad 426)), (1, .int x1), (2, .int x2), (3, .int x3), (4, .int x4), (5, .int x5), (6, .int x6)] [] (fl ad m1)
  refine J_aload_n hX dX12_addPanel_4 rfl 0 rfl ?_
  refine J_aload_n hX dX12_addPanel_5 rfl 0 rfl ?_
  refine J_iload_n hX dX12_addPanel_6 rfl 1 rfl ?_
  refine J_iload_n hX dX12_addPanel_7 rfl 2 rfl ?_
  refine J_iload_n hX dX12_addPanel_8 rfl 3 rfl ?_
  refine J_iload hX dX12_addPanel_9 4 rfl ?_
  refine J_iload hX dX12_addPanel_11 5 rfl ?_
  refine J_iload hX dX12_addPanel_13 6 rfl ?_
  refine J_callV hX km_X12_doPanel kl_RX12_158 dX12_addPanel_15 ka_426 (by decide) [.int x1, .int x2, .int x3, .int x4, .int x5, .int x6] ⟨Nat.le_of_ble_eq_true rfl, Nat.le_of_ble_eq_true rfl⟩ rfl rfl (Nat.le_of_ble_eq_true rfl) (c_X12_doPanel x1 x2 x3 x4 x5 x6 m1 _ h) (fun v w2 hk => ?_)
  obtain ⟨y3, m2, rfl, rfl, h⟩ := hk
  show J X (0, 0) 18 [(0, .ref (ad 426)), (1, .int x1), (2, .int x2), (3, .int x3), (4, .int x4), (5, .int x5), (6, .int x6)] [.int y3, .ref (ad 426)] (fl ad m2)
  refine J_callV hX km_X12_ends kl_RX12_106 dX12_addPanel_18 ka_426 (by decide) [.int y3] ⟨Nat.le_of_ble_eq_true rfl, Nat.le_of_ble_eq_true rfl⟩ rfl rfl (Nat.le_of_ble_eq_true rfl) (c_X12_ends y3 m2 _ h) (fun v w2 hk => ?_)
  obtain ⟨y5, m4, rfl, rfl, h⟩ := hk
  show J X (0, 0) 21 [(0, .ref (ad 426)), (1, .int x1), (2, .int x2), (3, .int x3), (4, .int x4), (5, .int x5), (6, .int x6)] [.int y5] (fl ad m4)
  exact J_iret hX hR dX12_addPanel_21 ⟨_, _, rfl, rfl, h⟩
set_option maxRecDepth 100000 in
theorem c_X12_along {G : GT} {ad : Nat → Nat} (x1 : Int32) (x2 : Int32) (x3 : Int32) (x4 : Int32) (x5 : Int32) (m : Mm) (h : s_X12_along x1 x2 x3 x4 x5) : Cn G yX12_along cX12_along 10 (some .int) (rmN 0 0) [.ref (ad 426), .int x1, .int x2, .int x3, .int x4, .int x5] (0, 0) (fl ad m) (fun v w => v = some (.int (v_X12_along x1 x2 x3 x4 x5 m)) ∧ w = fl ad m) := by
  unfold s_X12_along at h
  refine Cn.of pn_RX12 (Nat.le_of_ble_eq_true rfl) (fun X hG hX hR => ?_)
  subst hG
  have hX : Cx X cX12_along 10 RX12 (rmN 0 0) := hX
  show J X (0, 0) 0 [(0, .ref (ad 426)), (1, .int x1), (2, .int x2), (3, .int x3), (4, .int x4), (5, .int x5)] [] (fl ad m)
  obtain ⟨b1, g10⟩ := h
  refine J_iconst (v := (3 : Int32)) hX dX12_along_0 (by decide) ?_
  refine J_iload_n hX dX12_along_1 rfl 1 rfl ?_
  refine J_imul hX dX12_along_2 ?_
  refine J_iload_n hX dX12_along_3 rfl 3 rfl ?_
  refine J_iadd hX dX12_along_4 ?_
  refine J_istore (lv2 := [(6, .int (((3 : Int32) * x1) + x3)), (0, .ref (ad 426)), (1, .int x1), (2, .int x2), (3, .int x3), (4, .int x4), (5, .int x5)]) hX dX12_along_5 (Nat.le_of_ble_eq_true rfl) rfl ?_
  refine J_iload hX dX12_along_7 5 rfl ?_
  refine J_aload_n hX dX12_along_9 rfl 1 rfl ?_
  refine J_getR hX kf_RX12_47 dX12_along_10 ka_426 (by decide) rfl rh_426_17 ?_
  refine J_iload hX dX12_along_13 0 rfl ?_
  refine J_iald (j := (((3 : Int32) * x1) + x3).toNatClampNeg) hX dX12_along_15 ka_439 le_439 b1 rfl ?_
  refine J_isub hX dX12_along_16 ?_
  refine J_iload_n hX dX12_along_17 rfl 3 rfl ?_
  refine J_iconst (v := (2 : Int32)) hX dX12_along_18 (by decide) ?_
  refine J_irem hX dX12_along_19 (by decide) ?_
  have hj11 : ∀ y12 : Int32, y12 = (if (rm32 x2 (2 : Int32)) = (0 : Int32) then (m.1 440 (((3 : Int32) * x1) + x3).toNatClampNeg) else (m.1 441 (((3 : Int32) * x1) + x3).toNatClampNeg)) → J X (0, 0) 40 [(0, .ref (ad 426)), (1, .int x1), (2, .int x2), (5, .int x5)] [.int y12, .int (x4 - (m.1 439 (((3 : Int32) * x1) + x3).toNatClampNeg))] (fl ad m) := by
    intro y12 e_y12
    subst e_y12
    obtain ⟨g13, g14⟩ := g10
    refine J_imul hX dX12_along_40 ?_
    refine J_istore (lv2 := [(7, .int ((x4 - (m.1 439 (((3 : Int32) * x1) + x3).toNatClampNeg)) * (if (rm32 x2 (2 : Int32)) = (0 : Int32) then (m.1 440 (((3 : Int32) * x1) + x3).toNatClampNeg) else (m.1 441 (((3 : Int32) * x1) + x3).toNatClampNeg)))), (0, .ref (ad 426)), (1, .int x1), (2, .int x2), (5, .int x5)]) hX dX12_along_41 (Nat.le_of_ble_eq_true rfl) rfl ?_
    refine J_iload_n hX dX12_along_43 rfl 3 rfl ?_
    refine J_iconst (v := (2 : Int32)) hX dX12_along_44 (by decide) ?_
    refine J_irem hX dX12_along_45 (by decide) ?_
    have hj15 : ∀ y16 : Int32, y16 = (if (rm32 x2 (2 : Int32)) = (0 : Int32) then ((x4 - (m.1 439 (((3 : Int32) * x1) + x3).toNatClampNeg)) * (if (rm32 x2 (2 : Int32)) = (0 : Int32) then (m.1 440 (((3 : Int32) * x1) + x3).toNatClampNeg) else (m.1 441 (((3 : Int32) * x1) + x3).toNatClampNeg))) else (if x2 = (1 : Int32) then (m.1 434 x1.toNatClampNeg) else (0 : Int32))) → J X (0, 0) 69 [(0, .ref (ad 426)), (1, .int x1), (2, .int x2), (5, .int x5), (7, .int ((x4 - (m.1 439 (((3 : Int32) * x1) + x3).toNatClampNeg)) * (if (rm32 x2 (2 : Int32)) = (0 : Int32) then (m.1 440 (((3 : Int32) * x1) + x3).toNatClampNeg) else (m.1 441 (((3 : Int32) * x1) + x3).toNatClampNeg))))] [.int y16] (fl ad m) := by
      intro y16 e_y16
      subst e_y16
      have g17 := g14
      refine J_istore (lv2 := [(8, .int (if (rm32 x2 (2 : Int32)) = (0 : Int32) then ((x4 - (m.1 439 (((3 : Int32) * x1) + x3).toNatClampNeg)) * (if (rm32 x2 (2 : Int32)) = (0 : Int32) then (m.1 440 (((3 : Int32) * x1) + x3).toNatClampNeg) else (m.1 441 (((3 : Int32) * x1) + x3).toNatClampNeg))) else (if x2 = (1 : Int32) then (m.1 434 x1.toNatClampNeg) else (0 : Int32)))), (0, .ref (ad 426)), (1, .int x1), (2, .int x2), (5, .int x5), (7, .int ((x4 - (m.1 439 (((3 : Int32) * x1) + x3).toNatClampNeg)) * (if (rm32 x2 (2 : Int32)) = (0 : Int32) then (m.1 440 (((3 : Int32) * x1) + x3).toNatClampNeg) else (m.1 441 (((3 : Int32) * x1) + x3).toNatClampNeg))))]) hX dX12_along_69 (Nat.le_of_ble_eq_true rfl) rfl ?_
      refine J_iload_n hX dX12_along_71 rfl 3 rfl ?_
      refine J_iconst (v := (2 : Int32)) hX dX12_along_72 (by decide) ?_
      refine J_irem hX dX12_along_73 (by decide) ?_
      refine J_iconst (v := (1 : Int32)) hX dX12_along_74 (by decide) ?_
      have hj18 : ∀ y19 : Int32, y19 = (if (rm32 x2 (2 : Int32)) = (1 : Int32) then ((x4 - (m.1 439 (((3 : Int32) * x1) + x3).toNatClampNeg)) * (if (rm32 x2 (2 : Int32)) = (0 : Int32) then (m.1 440 (((3 : Int32) * x1) + x3).toNatClampNeg) else (m.1 441 (((3 : Int32) * x1) + x3).toNatClampNeg))) else (if x2 = (2 : Int32) then (m.1 435 x1.toNatClampNeg) else (0 : Int32))) → J X (0, 0) 98 [(5, .int x5), (8, .int (if (rm32 x2 (2 : Int32)) = (0 : Int32) then ((x4 - (m.1 439 (((3 : Int32) * x1) + x3).toNatClampNeg)) * (if (rm32 x2 (2 : Int32)) = (0 : Int32) then (m.1 440 (((3 : Int32) * x1) + x3).toNatClampNeg) else (m.1 441 (((3 : Int32) * x1) + x3).toNatClampNeg))) else (if x2 = (1 : Int32) then (m.1 434 x1.toNatClampNeg) else (0 : Int32))))] [.int y19] (fl ad m) := by
        intro y19 e_y19
        subst e_y19
        refine J_istore (lv2 := [(9, .int (if (rm32 x2 (2 : Int32)) = (1 : Int32) then ((x4 - (m.1 439 (((3 : Int32) * x1) + x3).toNatClampNeg)) * (if (rm32 x2 (2 : Int32)) = (0 : Int32) then (m.1 440 (((3 : Int32) * x1) + x3).toNatClampNeg) else (m.1 441 (((3 : Int32) * x1) + x3).toNatClampNeg))) else (if x2 = (2 : Int32) then (m.1 435 x1.toNatClampNeg) else (0 : Int32)))), (5, .int x5), (8, .int (if (rm32 x2 (2 : Int32)) = (0 : Int32) then ((x4 - (m.1 439 (((3 : Int32) * x1) + x3).toNatClampNeg)) * (if (rm32 x2 (2 : Int32)) = (0 : Int32) then (m.1 440 (((3 : Int32) * x1) + x3).toNatClampNeg) else (m.1 441 (((3 : Int32) * x1) + x3).toNatClampNeg))) else (if x2 = (1 : Int32) then (m.1 434 x1.toNatClampNeg) else (0 : Int32))))]) hX dX12_along_98 (Nat.le_of_ble_eq_true rfl) rfl ?_
        refine J_iload hX dX12_along_100 1 rfl ?_
        have hj20 : ∀ y21 : Int32, y21 = (if x5 = (0 : Int32) then (if (rm32 x2 (2 : Int32)) = (0 : Int32) then ((x4 - (m.1 439 (((3 : Int32) * x1) + x3).toNatClampNeg)) * (if (rm32 x2 (2 : Int32)) = (0 : Int32) then (m.1 440 (((3 : Int32) * x1) + x3).toNatClampNeg) else (m.1 441 (((3 : Int32) * x1) + x3).toNatClampNeg))) else (if x2 = (1 : Int32) then (m.1 434 x1.toNatClampNeg) else (0 : Int32))) else (if (rm32 x2 (2 : Int32)) = (1 : Int32) then ((x4 - (m.1 439 (((3 : Int32) * x1) + x3).toNatClampNeg)) * (if (rm32 x2 (2 : Int32)) = (0 : Int32) then (m.1 440 (((3 : Int32) * x1) + x3).toNatClampNeg) else (m.1 441 (((3 : Int32) * x1) + x3).toNatClampNeg))) else (if x2 = (2 : Int32) then (m.1 435 x1.toNatClampNeg) else (0 : Int32)))) → J X (0, 0) 112 [] [.int y21] (fl ad m) := by
          intro y21 e_y21
          subst e_y21
          exact J_iret hX hR dX12_along_112 (And.intro (congrArg (fun z => some (Value.int z)) (show (if x5 = (0 : Int32) then (if (rm32 x2 (2 : Int32)) = (0 : Int32) then ((x4 - (m.1 439 (((3 : Int32) * x1) + x3).toNatClampNeg)) * (if (rm32 x2 (2 : Int32)) = (0 : Int32) then (m.1 440 (((3 : Int32) * x1) + x3).toNatClampNeg) else (m.1 441 (((3 : Int32) * x1) + x3).toNatClampNeg))) else (if x2 = (1 : Int32) then (m.1 434 x1.toNatClampNeg) else (0 : Int32))) else (if (rm32 x2 (2 : Int32)) = (1 : Int32) then ((x4 - (m.1 439 (((3 : Int32) * x1) + x3).toNatClampNeg)) * (if (rm32 x2 (2 : Int32)) = (0 : Int32) then (m.1 440 (((3 : Int32) * x1) + x3).toNatClampNeg) else (m.1 441 (((3 : Int32) * x1) + x3).toNatClampNeg))) else (if x2 = (2 : Int32) then (m.1 435 x1.toNatClampNeg) else (0 : Int32)))) = v_X12_along x1 x2 x3 x4 x5 m from rfl)) rfl)
        refine J_if_eq (tgt := 110) hX dX12_along_102 (by decide) (fun c9 => ?_) (fun c9 => ?_)
        · refine J_iload hX dX12_along_110 2 rfl ?_
          exact J_sub [] rfl (hj20 _ (if_pos c9).symm)
        · refine J_iload hX dX12_along_105 0 rfl ?_
          refine J_goto (tgt := 112) hX dX12_along_107 (by decide) ?_
          exact J_sub [] rfl (hj20 _ (if_neg c9).symm)
      have g22 := g17
      refine J_icmp_ne (tgt := 83) hX dX12_along_75 (by decide) (fun c6 => ?_) (fun c6 => ?_)
      · have g23 := g22 c6
        have g24 := g23
        refine J_iload_n hX dX12_along_83 rfl 3 rfl ?_
        refine J_iconst (v := (2 : Int32)) hX dX12_along_84 (by decide) ?_
        refine J_icmp_ne (tgt := 97) hX dX12_along_85 (by decide) (fun c7 => ?_) (fun c7 => ?_)
        · refine J_iconst (v := (0 : Int32)) hX dX12_along_97 (by decide) ?_
          exact J_sub [4, 0] rfl (hj18 _ ((if_neg c6).trans (if_neg c7)).symm)
        · have g25 := g24 c7
          have b8 := g25
          refine J_aload_n hX dX12_along_88 rfl 1 rfl ?_
          refine J_getR hX kf_RX12_35 dX12_along_89 ka_426 (by decide) rfl rh_426_10 ?_
          refine J_iload_n hX dX12_along_92 rfl 2 rfl ?_
          refine J_iald (j := x1.toNatClampNeg) hX dX12_along_93 ka_435 le_435 b8 rfl ?_
          refine J_goto (tgt := 98) hX dX12_along_94 (by decide) ?_
          exact J_sub [4, 0] rfl (hj18 _ ((if_neg c6).trans (if_pos c7)).symm)
      · refine J_iload hX dX12_along_78 5 rfl ?_
        refine J_goto (tgt := 98) hX dX12_along_80 (by decide) ?_
        exact J_sub [4, 0] rfl (hj18 _ (if_pos c6).symm)
    have g26 := g13
    refine J_if_ne (tgt := 54) hX dX12_along_46 (by decide) (fun c3 => ?_) (fun c3 => ?_)
    · have g27 := g26 c3
      have g28 := g27
      refine J_iload_n hX dX12_along_54 rfl 3 rfl ?_
      refine J_iconst (v := (1 : Int32)) hX dX12_along_55 (by decide) ?_
      refine J_icmp_ne (tgt := 68) hX dX12_along_56 (by decide) (fun c4 => ?_) (fun c4 => ?_)
      · refine J_iconst (v := (0 : Int32)) hX dX12_along_68 (by decide) ?_
        exact J_sub [1, 2, 3, 4, 0] rfl (hj15 _ ((if_neg c3).trans (if_neg c4)).symm)
      · have g29 := g28 c4
        have b5 := g29
        refine J_aload_n hX dX12_along_59 rfl 1 rfl ?_
        refine J_getR hX kf_RX12_32 dX12_along_60 ka_426 (by decide) rfl rh_426_9 ?_
        refine J_iload_n hX dX12_along_63 rfl 2 rfl ?_
        refine J_iald (j := x1.toNatClampNeg) hX dX12_along_64 ka_434 le_434 b5 rfl ?_
        refine J_goto (tgt := 69) hX dX12_along_65 (by decide) ?_
        exact J_sub [1, 2, 3, 4, 0] rfl (hj15 _ ((if_neg c3).trans (if_pos c4)).symm)
    · refine J_iload hX dX12_along_49 0 rfl ?_
      refine J_goto (tgt := 69) hX dX12_along_51 (by decide) ?_
      exact J_sub [1, 2, 3, 4, 0] rfl (hj15 _ (if_pos c3).symm)
  refine J_if_ne (tgt := 33) hX dX12_along_20 (by decide) (fun c2 => ?_) (fun c2 => ?_)
  · refine J_aload_n hX dX12_along_33 rfl 1 rfl ?_
    refine J_getR hX kf_RX12_53 dX12_along_34 ka_426 (by decide) rfl rh_426_19 ?_
    refine J_iload hX dX12_along_37 0 rfl ?_
    refine J_iald (j := (((3 : Int32) * x1) + x3).toNatClampNeg) hX dX12_along_39 ka_441 le_441 b1 rfl ?_
    exact J_sub [1, 2, 3, 6] rfl (hj11 _ (if_neg c2).symm)
  · refine J_aload_n hX dX12_along_23 rfl 1 rfl ?_
    refine J_getR hX kf_RX12_50 dX12_along_24 ka_426 (by decide) rfl rh_426_18 ?_
    refine J_iload hX dX12_along_27 0 rfl ?_
    refine J_iald (j := (((3 : Int32) * x1) + x3).toNatClampNeg) hX dX12_along_29 ka_440 le_440 b1 rfl ?_
    refine J_goto (tgt := 40) hX dX12_along_30 (by decide) ?_
    exact J_sub [1, 2, 3, 6] rfl (hj11 _ (if_pos c2).symm)
set_option maxRecDepth 100000 in
theorem c_X12_amount {G : GT} {ad : Nat → Nat} (x0 : Int32) (m : Mm) : Cn G yX12_amount cX12_amount 1 (some .int) (rmN 0 0) [.int x0] (0, 0) (fl ad m) (fun v w => v = some (.int (v_X12_amount x0)) ∧ w = fl ad m) := by
  refine Cn.of pn_RX12 (Nat.le_of_ble_eq_true rfl) (fun X hG hX hR => ?_)
  subst hG
  have hX : Cx X cX12_amount 1 RX12 (rmN 0 0) := hX
  show J X (0, 0) 0 [(0, .int x0)] [] (fl ad m)
  refine J_iload_n hX dX12_amount_0 rfl 0 rfl ?_
  have hj2 : ∀ y3 : Int32, y3 = (if (0 : Int32) ≤ x0 then x0 else (-x0)) → J X (0, 0) 10 [] [.int y3] (fl ad m) := by
    intro y3 e_y3
    subst e_y3
    exact J_iret hX hR dX12_amount_10 (And.intro (congrArg (fun z => some (Value.int z)) (show (if (0 : Int32) ≤ x0 then x0 else (-x0)) = v_X12_amount x0 from rfl)) rfl)
  refine J_if_ge (tgt := 9) hX dX12_amount_1 (by decide) (fun c1 => ?_) (fun c1 => ?_)
  · refine J_iload_n hX dX12_amount_9 rfl 0 rfl ?_
    exact J_sub [] rfl (hj2 _ (if_pos c1).symm)
  · refine J_iload_n hX dX12_amount_4 rfl 0 rfl ?_
    refine J_ineg hX dX12_amount_5 ?_
    refine J_goto (tgt := 10) hX dX12_amount_6 (by decide) ?_
    exact J_sub [] rfl (hj2 _ (if_neg c1).symm)
set_option maxRecDepth 100000 in
theorem c_X12_apart {G : GT} {ad : Nat → Nat} (x0 : Int32) (x1 : Int32) (x2 : Int32) (x3 : Int32) (m : Mm) : Cn G yX12_apart cX12_apart 4 (some .int) (rmN 0 0) [.int x0, .int x1, .int x2, .int x3] (0, 0) (fl ad m) (fun v w => v = some (.int (v_X12_apart x0 x1 x2 x3)) ∧ w = fl ad m) := by
  refine Cn.of pn_RX12 (Nat.le_of_ble_eq_true rfl) (fun X hG hX hR => ?_)
  subst hG
  have hX : Cx X cX12_apart 4 RX12 (rmN 0 0) := hX
  show J X (0, 0) 0 [(0, .int x0), (1, .int x1), (2, .int x2), (3, .int x3)] [] (fl ad m)
  refine J_iload_n hX dX12_apart_0 rfl 0 rfl ?_
  refine J_iload_n hX dX12_apart_1 rfl 2 rfl ?_
  have hj2 : ∀ y3 : Int32, y3 = (if x2 < x0 then (x0 - x3) else (x2 - x1)) → J X (0, 0) 14 [] [.int y3] (fl ad m) := by
    intro y3 e_y3
    subst e_y3
    exact J_iret hX hR dX12_apart_14 (And.intro (congrArg (fun z => some (Value.int z)) (show (if x2 < x0 then (x0 - x3) else (x2 - x1)) = v_X12_apart x0 x1 x2 x3 from rfl)) rfl)
  refine J_icmp_gt (tgt := 11) hX dX12_apart_2 (by decide) (fun c1 => ?_) (fun c1 => ?_)
  · refine J_iload_n hX dX12_apart_11 rfl 0 rfl ?_
    refine J_iload_n hX dX12_apart_12 rfl 3 rfl ?_
    refine J_isub hX dX12_apart_13 ?_
    exact J_sub [] rfl (hj2 _ (if_pos c1).symm)
  · refine J_iload_n hX dX12_apart_5 rfl 2 rfl ?_
    refine J_iload_n hX dX12_apart_6 rfl 1 rfl ?_
    refine J_isub hX dX12_apart_7 ?_
    refine J_goto (tgt := 14) hX dX12_apart_8 (by decide) ?_
    exact J_sub [] rfl (hj2 _ (if_neg c1).symm)
set_option maxRecDepth 100000 in
theorem c_X12_imageSize {G : GT} {ad : Nat → Nat} (x1 : Int32) (x2 : Int32) (m : Mm) (h : s_X12_imageSize x1 x2 m) : Cn G yX12_imageSize cX12_imageSize 3 (some .int) (rmN 1 22) [.ref (ad 426), .int x1, .int x2] (0, 0) (fl ad m) (fun v w => v = some (.int (v_X12_imageSize x1 x2 m)) ∧ w = fl ad m) := by
  unfold s_X12_imageSize at h
  refine Cn.of pn_RX12 (Nat.le_of_ble_eq_true rfl) (fun X hG hX hR => ?_)
  subst hG
  have hX : Cx X cX12_imageSize 3 RX12 (rmN 1 22) := hX
  show J X (0, 0) 0 [(0, .ref (ad 426)), (1, .int x1), (2, .int x2)] [] (fl ad m)
  obtain ⟨b1, g4⟩ := h
  refine J_aload_n hX dX12_imageSize_0 rfl 0 rfl ?_
  refine J_getR hX kf_RX12_7 dX12_imageSize_1 ka_426 (by decide) rfl rh_426_0 ?_
  refine J_iconst (v := (3 : Int32)) hX dX12_imageSize_4 (by decide) ?_
  refine J_iconst (v := (2 : Int32)) hX dX12_imageSize_5 (by decide) ?_
  refine J_aload_n hX dX12_imageSize_6 rfl 0 rfl ?_
  refine J_iload_n hX dX12_imageSize_7 rfl 1 rfl ?_
  refine J_bipush (v := (7 : Int32)) hX dX12_imageSize_8 (by decide) ?_
  refine J_callV hX km_X12_of kl_RX12_91 dX12_imageSize_10 ka_426 (by decide) [.int x1, .int (7 : Int32)] ⟨Nat.le_of_ble_eq_true rfl, Nat.le_of_ble_eq_true rfl⟩ rfl rfl (Nat.le_of_ble_eq_true rfl) (c_X12_of x1 (7 : Int32) m b1) (fun v w2 hk => ?_)
  obtain ⟨rfl, rfl⟩ := hk
  show J X (0, 0) 13 [(0, .ref (ad 426)), (1, .int x1), (2, .int x2)] [.int (v_X12_of x1 (7 : Int32) m), .int (2 : Int32), .int (3 : Int32), .ref (ad 427)] (fl ad m)
  refine J_imul hX dX12_imageSize_13 ?_
  refine J_iadd hX dX12_imageSize_14 ?_
  refine J_iload_n hX dX12_imageSize_15 rfl 2 rfl ?_
  have hj5 : ∀ y6 : Int32, y6 = (if x2 = (0 : Int32) then (0 : Int32) else (1 : Int32)) → J X (0, 0) 24 [] [.int y6, .int ((3 : Int32) + ((2 : Int32) * (v_X12_of x1 (7 : Int32) m))), .ref (ad 427)] (fl ad m) := by
    intro y6 e_y6
    subst e_y6
    have b3 := g4
    refine J_iadd hX dX12_imageSize_24 ?_
    refine J_iald (j := (((3 : Int32) + ((2 : Int32) * (v_X12_of x1 (7 : Int32) m))) + (if x2 = (0 : Int32) then (0 : Int32) else (1 : Int32))).toNatClampNeg) hX dX12_imageSize_25 ka_427 le_427 b3 rfl ?_
    exact J_iret hX hR dX12_imageSize_26 (And.intro (congrArg (fun z => some (Value.int z)) (show (m.1 427 (((3 : Int32) + ((2 : Int32) * (v_X12_of x1 (7 : Int32) m))) + (if x2 = (0 : Int32) then (0 : Int32) else (1 : Int32))).toNatClampNeg) = v_X12_imageSize x1 x2 m from rfl)) rfl)
  refine J_if_eq (tgt := 23) hX dX12_imageSize_16 (by decide) (fun c2 => ?_) (fun c2 => ?_)
  · refine J_iconst (v := (0 : Int32)) hX dX12_imageSize_23 (by decide) ?_
    exact J_sub [] rfl (hj5 _ (if_pos c2).symm)
  · refine J_iconst (v := (1 : Int32)) hX dX12_imageSize_19 (by decide) ?_
    refine J_goto (tgt := 24) hX dX12_imageSize_20 (by decide) ?_
    exact J_sub [] rfl (hj5 _ (if_neg c2).symm)
set_option maxRecDepth 100000 in
theorem c_X12_inImage {G : GT} {ad : Nat → Nat} (x0 : Int32) (x1 : Int32) (x2 : Int32) (x3 : Int32) (x4 : Int32) (x5 : Int32) (m : Mm) : Cn G yX12_inImage cX12_inImage 9 (some .int) (rmN 0 0) [.int x0, .int x1, .int x2, .int x3, .int x4, .int x5] (0, 0) (fl ad m) (fun v w => v = some (.int (v_X12_inImage x0 x1 x2 x3 x4 x5)) ∧ w = fl ad m) := by
  refine Cn.of pn_RX12 (Nat.le_of_ble_eq_true rfl) (fun X hG hX hR => ?_)
  subst hG
  have hX : Cx X cX12_inImage 9 RX12 (rmN 0 0) := hX
  show J X (0, 0) 0 [(0, .int x0), (1, .int x1), (2, .int x2), (3, .int x3), (4, .int x4), (5, .int x5)] [] (fl ad m)
  refine J_iload_n hX dX12_inImage_0 rfl 0 rfl ?_
  refine J_iconst (v := (4 : Int32)) hX dX12_inImage_1 (by decide) ?_
  refine J_irem hX dX12_inImage_2 (by decide) ?_
  refine J_istore (lv2 := [(6, .int (rm32 x0 (4 : Int32))), (0, .int x0), (1, .int x1), (2, .int x2), (3, .int x3), (4, .int x4), (5, .int x5)]) hX dX12_inImage_3 (Nat.le_of_ble_eq_true rfl) rfl ?_
  refine J_iload hX dX12_inImage_5 0 rfl ?_
  have hj9 : ∀ y10 : Int32, y10 = (if (rm32 x0 (4 : Int32)) = (0 : Int32) then x3 else (if (rm32 x0 (4 : Int32)) = (1 : Int32) then x4 else (if (rm32 x0 (4 : Int32)) = (2 : Int32) then (x1 - x3) else (x1 - x4)))) → J X (0, 0) 41 [(0, .int x0), (1, .int x1), (2, .int x2), (3, .int x3), (4, .int x4), (5, .int x5), (6, .int (rm32 x0 (4 : Int32)))] [.int y10] (fl ad m) := by
    intro y10 e_y10
    subst e_y10
    refine J_istore (lv2 := [(7, .int (if (rm32 x0 (4 : Int32)) = (0 : Int32) then x3 else (if (rm32 x0 (4 : Int32)) = (1 : Int32) then x4 else (if (rm32 x0 (4 : Int32)) = (2 : Int32) then (x1 - x3) else (x1 - x4))))), (0, .int x0), (1, .int x1), (2, .int x2), (3, .int x3), (4, .int x4), (5, .int x5), (6, .int (rm32 x0 (4 : Int32)))]) hX dX12_inImage_41 (Nat.le_of_ble_eq_true rfl) rfl ?_
    refine J_iload hX dX12_inImage_43 7 rfl ?_
    have hj11 : ∀ y12 : Int32, y12 = (if (rm32 x0 (4 : Int32)) = (0 : Int32) then x4 else (if (rm32 x0 (4 : Int32)) = (1 : Int32) then (x2 - x3) else (if (rm32 x0 (4 : Int32)) = (2 : Int32) then (x2 - x4) else x3))) → J X (0, 0) 79 [(0, .int x0), (1, .int x1), (5, .int x5), (7, .int (if (rm32 x0 (4 : Int32)) = (0 : Int32) then x3 else (if (rm32 x0 (4 : Int32)) = (1 : Int32) then x4 else (if (rm32 x0 (4 : Int32)) = (2 : Int32) then (x1 - x3) else (x1 - x4)))))] [.int y12] (fl ad m) := by
      intro y12 e_y12
      subst e_y12
      refine J_istore (lv2 := [(8, .int (if (rm32 x0 (4 : Int32)) = (0 : Int32) then x4 else (if (rm32 x0 (4 : Int32)) = (1 : Int32) then (x2 - x3) else (if (rm32 x0 (4 : Int32)) = (2 : Int32) then (x2 - x4) else x3)))), (0, .int x0), (1, .int x1), (5, .int x5), (7, .int (if (rm32 x0 (4 : Int32)) = (0 : Int32) then x3 else (if (rm32 x0 (4 : Int32)) = (1 : Int32) then x4 else (if (rm32 x0 (4 : Int32)) = (2 : Int32) then (x1 - x3) else (x1 - x4)))))]) hX dX12_inImage_79 (Nat.le_of_ble_eq_true rfl) rfl ?_
      refine J_iload hX dX12_inImage_81 3 rfl ?_
      have hj13 : ∀ y14 : Int32, y14 = (if x5 = (0 : Int32) then (if x0 ≤ (3 : Int32) then (if (rm32 x0 (4 : Int32)) = (0 : Int32) then x3 else (if (rm32 x0 (4 : Int32)) = (1 : Int32) then x4 else (if (rm32 x0 (4 : Int32)) = (2 : Int32) then (x1 - x3) else (x1 - x4)))) else (x1 - (if (rm32 x0 (4 : Int32)) = (0 : Int32) then x3 else (if (rm32 x0 (4 : Int32)) = (1 : Int32) then x4 else (if (rm32 x0 (4 : Int32)) = (2 : Int32) then (x1 - x3) else (x1 - x4)))))) else (if (rm32 x0 (4 : Int32)) = (0 : Int32) then x4 else (if (rm32 x0 (4 : Int32)) = (1 : Int32) then (x2 - x3) else (if (rm32 x0 (4 : Int32)) = (2 : Int32) then (x2 - x4) else x3)))) → J X (0, 0) 105 [] [.int y14] (fl ad m) := by
        intro y14 e_y14
        subst e_y14
        exact J_iret hX hR dX12_inImage_105 (And.intro (congrArg (fun z => some (Value.int z)) (show (if x5 = (0 : Int32) then (if x0 ≤ (3 : Int32) then (if (rm32 x0 (4 : Int32)) = (0 : Int32) then x3 else (if (rm32 x0 (4 : Int32)) = (1 : Int32) then x4 else (if (rm32 x0 (4 : Int32)) = (2 : Int32) then (x1 - x3) else (x1 - x4)))) else (x1 - (if (rm32 x0 (4 : Int32)) = (0 : Int32) then x3 else (if (rm32 x0 (4 : Int32)) = (1 : Int32) then x4 else (if (rm32 x0 (4 : Int32)) = (2 : Int32) then (x1 - x3) else (x1 - x4)))))) else (if (rm32 x0 (4 : Int32)) = (0 : Int32) then x4 else (if (rm32 x0 (4 : Int32)) = (1 : Int32) then (x2 - x3) else (if (rm32 x0 (4 : Int32)) = (2 : Int32) then (x2 - x4) else x3)))) = v_X12_inImage x0 x1 x2 x3 x4 x5 from rfl)) rfl)
      refine J_if_eq (tgt := 91) hX dX12_inImage_83 (by decide) (fun c7 => ?_) (fun c7 => ?_)
      · refine J_iload_n hX dX12_inImage_91 rfl 1 rfl ?_
        refine J_iconst (v := (3 : Int32)) hX dX12_inImage_92 (by decide) ?_
        refine J_icmp_le (tgt := 103) hX dX12_inImage_93 (by decide) (fun c8 => ?_) (fun c8 => ?_)
        · refine J_iload hX dX12_inImage_103 4 rfl ?_
          exact J_sub [] rfl (hj13 _ ((if_pos c7).trans (if_pos c8)).symm)
        · refine J_iload_n hX dX12_inImage_96 rfl 2 rfl ?_
          refine J_iload hX dX12_inImage_97 4 rfl ?_
          refine J_isub hX dX12_inImage_99 ?_
          refine J_goto (tgt := 105) hX dX12_inImage_100 (by decide) ?_
          exact J_sub [] rfl (hj13 _ ((if_pos c7).trans (if_neg c8)).symm)
      · refine J_iload hX dX12_inImage_86 0 rfl ?_
        refine J_goto (tgt := 105) hX dX12_inImage_88 (by decide) ?_
        exact J_sub [] rfl (hj13 _ (if_neg c7).symm)
    refine J_if_ne (tgt := 53) hX dX12_inImage_45 (by decide) (fun c4 => ?_) (fun c4 => ?_)
    · refine J_iload hX dX12_inImage_53 7 rfl ?_
      refine J_iconst (v := (1 : Int32)) hX dX12_inImage_55 (by decide) ?_
      refine J_icmp_ne (tgt := 65) hX dX12_inImage_56 (by decide) (fun c5 => ?_) (fun c5 => ?_)
      · refine J_iload hX dX12_inImage_65 7 rfl ?_
        refine J_iconst (v := (2 : Int32)) hX dX12_inImage_67 (by decide) ?_
        refine J_icmp_ne (tgt := 78) hX dX12_inImage_68 (by decide) (fun c6 => ?_) (fun c6 => ?_)
        · refine J_iload_n hX dX12_inImage_78 rfl 4 rfl ?_
          exact J_sub [1, 2, 6, 0] rfl (hj11 _ ((if_neg c4).trans ((if_neg c5).trans (if_neg c6))).symm)
        · refine J_iload_n hX dX12_inImage_71 rfl 3 rfl ?_
          refine J_iload hX dX12_inImage_72 5 rfl ?_
          refine J_isub hX dX12_inImage_74 ?_
          refine J_goto (tgt := 79) hX dX12_inImage_75 (by decide) ?_
          exact J_sub [1, 2, 6, 0] rfl (hj11 _ ((if_neg c4).trans ((if_neg c5).trans (if_pos c6))).symm)
      · refine J_iload_n hX dX12_inImage_59 rfl 3 rfl ?_
        refine J_iload_n hX dX12_inImage_60 rfl 4 rfl ?_
        refine J_isub hX dX12_inImage_61 ?_
        refine J_goto (tgt := 79) hX dX12_inImage_62 (by decide) ?_
        exact J_sub [1, 2, 6, 0] rfl (hj11 _ ((if_neg c4).trans (if_pos c5)).symm)
    · refine J_iload hX dX12_inImage_48 5 rfl ?_
      refine J_goto (tgt := 79) hX dX12_inImage_50 (by decide) ?_
      exact J_sub [1, 2, 6, 0] rfl (hj11 _ (if_pos c4).symm)
  refine J_if_ne (tgt := 14) hX dX12_inImage_7 (by decide) (fun c1 => ?_) (fun c1 => ?_)
  · refine J_iload hX dX12_inImage_14 0 rfl ?_
    refine J_iconst (v := (1 : Int32)) hX dX12_inImage_16 (by decide) ?_
    refine J_icmp_ne (tgt := 25) hX dX12_inImage_17 (by decide) (fun c2 => ?_) (fun c2 => ?_)
    · refine J_iload hX dX12_inImage_25 0 rfl ?_
      refine J_iconst (v := (2 : Int32)) hX dX12_inImage_27 (by decide) ?_
      refine J_icmp_ne (tgt := 37) hX dX12_inImage_28 (by decide) (fun c3 => ?_) (fun c3 => ?_)
      · refine J_iload_n hX dX12_inImage_37 rfl 2 rfl ?_
        refine J_iload hX dX12_inImage_38 5 rfl ?_
        refine J_isub hX dX12_inImage_40 ?_
        exact J_sub [1, 2, 3, 4, 5, 6, 0] rfl (hj9 _ ((if_neg c1).trans ((if_neg c2).trans (if_neg c3))).symm)
      · refine J_iload_n hX dX12_inImage_31 rfl 2 rfl ?_
        refine J_iload_n hX dX12_inImage_32 rfl 4 rfl ?_
        refine J_isub hX dX12_inImage_33 ?_
        refine J_goto (tgt := 41) hX dX12_inImage_34 (by decide) ?_
        exact J_sub [1, 2, 3, 4, 5, 6, 0] rfl (hj9 _ ((if_neg c1).trans ((if_neg c2).trans (if_pos c3))).symm)
    · refine J_iload hX dX12_inImage_20 5 rfl ?_
      refine J_goto (tgt := 41) hX dX12_inImage_22 (by decide) ?_
      exact J_sub [1, 2, 3, 4, 5, 6, 0] rfl (hj9 _ ((if_neg c1).trans (if_pos c2)).symm)
  · refine J_iload_n hX dX12_inImage_10 rfl 4 rfl ?_
    refine J_goto (tgt := 41) hX dX12_inImage_11 (by decide) ?_
    exact J_sub [1, 2, 3, 4, 5, 6, 0] rfl (hj9 _ (if_pos c1).symm)
set_option maxRecDepth 100000 in
theorem c_X12_imageOn {G : GT} {ad : Nat → Nat} (x1 : Int32) (x2 : Int32) (x3 : Int32) (x4 : Int32) (m : Mm) (h : s_X12_imageOn x1 x2 x3 x4 m) : Cn G yX12_imageOn cX12_imageOn 5 (some .int) (rmN 2 44) [.ref (ad 426), .int x1, .int x2, .int x3, .int x4] (0, 0) (fl ad m) (fun v w => v = some (.int (v_X12_imageOn x1 x2 x3 x4 m)) ∧ w = fl ad m) := by
  unfold s_X12_imageOn at h
  refine Cn.of pn_RX12 (Nat.le_of_ble_eq_true rfl) (fun X hG hX hR => ?_)
  subst hG
  have hX : Cx X cX12_imageOn 5 RX12 (rmN 2 44) := hX
  show J X (0, 0) 0 [(0, .ref (ad 426)), (1, .int x1), (2, .int x2), (3, .int x3), (4, .int x4)] [] (fl ad m)
  obtain ⟨b1, b2, b3, b4, b5⟩ := h
  refine J_aload_n hX dX12_imageOn_0 rfl 0 rfl ?_
  refine J_iload_n hX dX12_imageOn_1 rfl 1 rfl ?_
  refine J_bipush (v := (8 : Int32)) hX dX12_imageOn_2 (by decide) ?_
  refine J_callV hX km_X12_of kl_RX12_91 dX12_imageOn_4 ka_426 (by decide) [.int x1, .int (8 : Int32)] ⟨Nat.le_of_ble_eq_true rfl, Nat.le_of_ble_eq_true rfl⟩ rfl rfl (Nat.le_of_ble_eq_true rfl) (c_X12_of x1 (8 : Int32) m b1) (fun v w2 hk => ?_)
  obtain ⟨rfl, rfl⟩ := hk
  show J X (0, 0) 7 [(0, .ref (ad 426)), (1, .int x1), (2, .int x2), (3, .int x3), (4, .int x4)] [.int (v_X12_of x1 (8 : Int32) m)] (fl ad m)
  refine J_aload_n hX dX12_imageOn_7 rfl 0 rfl ?_
  refine J_iload_n hX dX12_imageOn_8 rfl 1 rfl ?_
  refine J_iconst (v := (0 : Int32)) hX dX12_imageOn_9 (by decide) ?_
  refine J_callV hX km_X12_imageSize kl_RX12_256 dX12_imageOn_10 ka_426 (by decide) [.int x1, .int (0 : Int32)] ⟨Nat.le_of_ble_eq_true rfl, Nat.le_of_ble_eq_true rfl⟩ rfl rfl (Nat.le_of_ble_eq_true rfl) (c_X12_imageSize x1 (0 : Int32) m b2) (fun v w2 hk => ?_)
  obtain ⟨rfl, rfl⟩ := hk
  show J X (0, 0) 13 [(0, .ref (ad 426)), (1, .int x1), (2, .int x2), (3, .int x3), (4, .int x4)] [.int (v_X12_imageSize x1 (0 : Int32) m), .int (v_X12_of x1 (8 : Int32) m)] (fl ad m)
  refine J_aload_n hX dX12_imageOn_13 rfl 0 rfl ?_
  refine J_iload_n hX dX12_imageOn_14 rfl 1 rfl ?_
  refine J_iconst (v := (1 : Int32)) hX dX12_imageOn_15 (by decide) ?_
  refine J_callV hX km_X12_imageSize kl_RX12_256 dX12_imageOn_16 ka_426 (by decide) [.int x1, .int (1 : Int32)] ⟨Nat.le_of_ble_eq_true rfl, Nat.le_of_ble_eq_true rfl⟩ rfl rfl (Nat.le_of_ble_eq_true rfl) (c_X12_imageSize x1 (1 : Int32) m b3) (fun v w2 hk => ?_)
  obtain ⟨rfl, rfl⟩ := hk
  show J X (0, 0) 19 [(0, .ref (ad 426)), (1, .int x1), (2, .int x2), (3, .int x3), (4, .int x4)] [.int (v_X12_imageSize x1 (1 : Int32) m), .int (v_X12_imageSize x1 (0 : Int32) m), .int (v_X12_of x1 (8 : Int32) m)] (fl ad m)
  refine J_iload_n hX dX12_imageOn_19 rfl 2 rfl ?_
  refine J_aload_n hX dX12_imageOn_20 rfl 0 rfl ?_
  refine J_iload_n hX dX12_imageOn_21 rfl 1 rfl ?_
  refine J_bipush (v := (9 : Int32)) hX dX12_imageOn_22 (by decide) ?_
  refine J_callV hX km_X12_of kl_RX12_91 dX12_imageOn_24 ka_426 (by decide) [.int x1, .int (9 : Int32)] ⟨Nat.le_of_ble_eq_true rfl, Nat.le_of_ble_eq_true rfl⟩ rfl rfl (Nat.le_of_ble_eq_true rfl) (c_X12_of x1 (9 : Int32) m b4) (fun v w2 hk => ?_)
  obtain ⟨rfl, rfl⟩ := hk
  show J X (0, 0) 27 [(0, .ref (ad 426)), (1, .int x1), (2, .int x2), (3, .int x3), (4, .int x4)] [.int (v_X12_of x1 (9 : Int32) m), .int x2, .int (v_X12_imageSize x1 (1 : Int32) m), .int (v_X12_imageSize x1 (0 : Int32) m), .int (v_X12_of x1 (8 : Int32) m)] (fl ad m)
  refine J_isub hX dX12_imageOn_27 ?_
  refine J_iload_n hX dX12_imageOn_28 rfl 3 rfl ?_
  refine J_aload_n hX dX12_imageOn_29 rfl 0 rfl ?_
  refine J_iload_n hX dX12_imageOn_30 rfl 1 rfl ?_
  refine J_bipush (v := (10 : Int32)) hX dX12_imageOn_31 (by decide) ?_
  refine J_callV hX km_X12_of kl_RX12_91 dX12_imageOn_33 ka_426 (by decide) [.int x1, .int (10 : Int32)] ⟨Nat.le_of_ble_eq_true rfl, Nat.le_of_ble_eq_true rfl⟩ rfl rfl (Nat.le_of_ble_eq_true rfl) (c_X12_of x1 (10 : Int32) m b5) (fun v w2 hk => ?_)
  obtain ⟨rfl, rfl⟩ := hk
  show J X (0, 0) 36 [(0, .ref (ad 426)), (1, .int x1), (2, .int x2), (3, .int x3), (4, .int x4)] [.int (v_X12_of x1 (10 : Int32) m), .int x3, .int (x2 - (v_X12_of x1 (9 : Int32) m)), .int (v_X12_imageSize x1 (1 : Int32) m), .int (v_X12_imageSize x1 (0 : Int32) m), .int (v_X12_of x1 (8 : Int32) m)] (fl ad m)
  refine J_isub hX dX12_imageOn_36 ?_
  refine J_iload hX dX12_imageOn_37 4 rfl ?_
  refine J_callS hX km_X12_inImage kl_RX12_266 dX12_imageOn_39 [.int (v_X12_of x1 (8 : Int32) m), .int (v_X12_imageSize x1 (0 : Int32) m), .int (v_X12_imageSize x1 (1 : Int32) m), .int (x2 - (v_X12_of x1 (9 : Int32) m)), .int (x3 - (v_X12_of x1 (10 : Int32) m)), .int x4] ⟨Nat.le_of_ble_eq_true rfl, Nat.le_of_ble_eq_true rfl⟩ rfl rfl (Nat.le_of_ble_eq_true rfl) (c_X12_inImage (v_X12_of x1 (8 : Int32) m) (v_X12_imageSize x1 (0 : Int32) m) (v_X12_imageSize x1 (1 : Int32) m) (x2 - (v_X12_of x1 (9 : Int32) m)) (x3 - (v_X12_of x1 (10 : Int32) m)) x4 m) (fun v w2 hk => ?_)
  obtain ⟨rfl, rfl⟩ := hk
  show J X (0, 0) 42 [(0, .ref (ad 426)), (1, .int x1), (2, .int x2), (3, .int x3), (4, .int x4)] [.int (v_X12_inImage (v_X12_of x1 (8 : Int32) m) (v_X12_imageSize x1 (0 : Int32) m) (v_X12_imageSize x1 (1 : Int32) m) (x2 - (v_X12_of x1 (9 : Int32) m)) (x3 - (v_X12_of x1 (10 : Int32) m)) x4)] (fl ad m)
  exact J_iret hX hR dX12_imageOn_42 (And.intro (congrArg (fun z => some (Value.int z)) (show (v_X12_inImage (v_X12_of x1 (8 : Int32) m) (v_X12_imageSize x1 (0 : Int32) m) (v_X12_imageSize x1 (1 : Int32) m) (x2 - (v_X12_of x1 (9 : Int32) m)) (x3 - (v_X12_of x1 (10 : Int32) m)) x4) = v_X12_imageOn x1 x2 x3 x4 m from rfl)) rfl)
set_option maxRecDepth 100000 in
theorem c_X12_atEnd {G : GT} {ad : Nat → Nat} (x1 : Int32) (x2 : Int32) (x3 : Int32) (x4 : Int32) (x5 : Int32) (m : Mm) (h : s_X12_atEnd x1 x2 x3 x4 x5 m) : Cn G yX12_atEnd cX12_atEnd 6 (some .int) (rmN 3 68) [.ref (ad 426), .int x1, .int x2, .int x3, .int x4, .int x5] (0, 0) (fl ad m) (fun v w => v = some (.int (v_X12_atEnd x1 x2 x3 x4 x5 m)) ∧ w = fl ad m) := by
  unfold s_X12_atEnd at h
  refine Cn.of pn_RX12 (Nat.le_of_ble_eq_true rfl) (fun X hG hX hR => ?_)
  subst hG
  have hX : Cx X cX12_atEnd 6 RX12 (rmN 3 68) := hX
  show J X (0, 0) 0 [(0, .ref (ad 426)), (1, .int x1), (2, .int x2), (3, .int x3), (4, .int x4), (5, .int x5)] [] (fl ad m)
  obtain ⟨b1, b2, b3⟩ := h
  refine J_aload_n hX dX12_atEnd_0 rfl 0 rfl ?_
  refine J_iload_n hX dX12_atEnd_1 rfl 1 rfl ?_
  refine J_aload_n hX dX12_atEnd_2 rfl 0 rfl ?_
  refine J_iload_n hX dX12_atEnd_3 rfl 1 rfl ?_
  refine J_iload_n hX dX12_atEnd_4 rfl 2 rfl ?_
  refine J_iload_n hX dX12_atEnd_5 rfl 3 rfl ?_
  refine J_iload hX dX12_atEnd_6 4 rfl ?_
  refine J_iconst (v := (0 : Int32)) hX dX12_atEnd_8 (by decide) ?_
  refine J_callV hX km_X12_along kl_RX12_277 dX12_atEnd_9 ka_426 (by decide) [.int x1, .int x2, .int x3, .int x4, .int (0 : Int32)] ⟨Nat.le_of_ble_eq_true rfl, Nat.le_of_ble_eq_true rfl⟩ rfl rfl (Nat.le_of_ble_eq_true rfl) (c_X12_along x1 x2 x3 x4 (0 : Int32) m b1) (fun v w2 hk => ?_)
  obtain ⟨rfl, rfl⟩ := hk
  show J X (0, 0) 12 [(0, .ref (ad 426)), (1, .int x1), (2, .int x2), (3, .int x3), (4, .int x4), (5, .int x5)] [.int (v_X12_along x1 x2 x3 x4 (0 : Int32) m), .int x1, .ref (ad 426)] (fl ad m)
  refine J_aload_n hX dX12_atEnd_12 rfl 0 rfl ?_
  refine J_iload_n hX dX12_atEnd_13 rfl 1 rfl ?_
  refine J_iload_n hX dX12_atEnd_14 rfl 2 rfl ?_
  refine J_iload_n hX dX12_atEnd_15 rfl 3 rfl ?_
  refine J_iload hX dX12_atEnd_16 4 rfl ?_
  refine J_iconst (v := (1 : Int32)) hX dX12_atEnd_18 (by decide) ?_
  refine J_callV hX km_X12_along kl_RX12_277 dX12_atEnd_19 ka_426 (by decide) [.int x1, .int x2, .int x3, .int x4, .int (1 : Int32)] ⟨Nat.le_of_ble_eq_true rfl, Nat.le_of_ble_eq_true rfl⟩ rfl rfl (Nat.le_of_ble_eq_true rfl) (c_X12_along x1 x2 x3 x4 (1 : Int32) m b2) (fun v w2 hk => ?_)
  obtain ⟨rfl, rfl⟩ := hk
  show J X (0, 0) 22 [(0, .ref (ad 426)), (1, .int x1), (2, .int x2), (3, .int x3), (4, .int x4), (5, .int x5)] [.int (v_X12_along x1 x2 x3 x4 (1 : Int32) m), .int (v_X12_along x1 x2 x3 x4 (0 : Int32) m), .int x1, .ref (ad 426)] (fl ad m)
  refine J_iload hX dX12_atEnd_22 5 rfl ?_
  refine J_callV hX km_X12_imageOn kl_RX12_273 dX12_atEnd_24 ka_426 (by decide) [.int x1, .int (v_X12_along x1 x2 x3 x4 (0 : Int32) m), .int (v_X12_along x1 x2 x3 x4 (1 : Int32) m), .int x5] ⟨Nat.le_of_ble_eq_true rfl, Nat.le_of_ble_eq_true rfl⟩ rfl rfl (Nat.le_of_ble_eq_true rfl) (c_X12_imageOn x1 (v_X12_along x1 x2 x3 x4 (0 : Int32) m) (v_X12_along x1 x2 x3 x4 (1 : Int32) m) x5 m b3) (fun v w2 hk => ?_)
  obtain ⟨rfl, rfl⟩ := hk
  show J X (0, 0) 27 [(0, .ref (ad 426)), (1, .int x1), (2, .int x2), (3, .int x3), (4, .int x4), (5, .int x5)] [.int (v_X12_imageOn x1 (v_X12_along x1 x2 x3 x4 (0 : Int32) m) (v_X12_along x1 x2 x3 x4 (1 : Int32) m) x5 m)] (fl ad m)
  exact J_iret hX hR dX12_atEnd_27 (And.intro (congrArg (fun z => some (Value.int z)) (show (v_X12_imageOn x1 (v_X12_along x1 x2 x3 x4 (0 : Int32) m) (v_X12_along x1 x2 x3 x4 (1 : Int32) m) x5 m) = v_X12_atEnd x1 x2 x3 x4 x5 m from rfl)) rfl)
theorem bv_X12_isHung (x1 : Int32) (m : Mm) : bo (v_X12_isHung x1 m) := (bv_X12_in x1 (1 : Int32) ((v_X12_many m) - (1 : Int32)))
set_option maxRecDepth 100000 in
theorem c_X12_isHung {G : GT} {ad : Nat → Nat} (x1 : Int32) (m : Mm) : Cn G yX12_isHung cX12_isHung 2 (some .boolean) (rmN 1 22) [.ref (ad 426), .int x1] (0, 0) (fl ad m) (fun v w => v = some (.int (v_X12_isHung x1 m)) ∧ w = fl ad m) := by
  refine Cn.of pn_RX12 (Nat.le_of_ble_eq_true rfl) (fun X hG hX hR => ?_)
  subst hG
  have hX : Cx X cX12_isHung 2 RX12 (rmN 1 22) := hX
  show J X (0, 0) 0 [(0, .ref (ad 426)), (1, .int x1)] [] (fl ad m)
  refine J_iload_n hX dX12_isHung_0 rfl 1 rfl ?_
  refine J_iconst (v := (1 : Int32)) hX dX12_isHung_1 (by decide) ?_
  refine J_aload_n hX dX12_isHung_2 rfl 0 rfl ?_
  refine J_callV hX km_X12_many kl_RX12_83 dX12_isHung_3 ka_426 (by decide) [] ⟨Nat.le_of_ble_eq_true rfl, Nat.le_of_ble_eq_true rfl⟩ rfl rfl (Nat.le_of_ble_eq_true rfl) (c_X12_many m) (fun v w2 hk => ?_)
  obtain ⟨rfl, rfl⟩ := hk
  show J X (0, 0) 6 [(0, .ref (ad 426)), (1, .int x1)] [.int (v_X12_many m), .int (1 : Int32), .int x1] (fl ad m)
  refine J_iconst (v := (1 : Int32)) hX dX12_isHung_6 (by decide) ?_
  refine J_isub hX dX12_isHung_7 ?_
  refine J_callS hX km_X12_in kl_RX12_87 dX12_isHung_8 [.int x1, .int (1 : Int32), .int ((v_X12_many m) - (1 : Int32))] ⟨Nat.le_of_ble_eq_true rfl, Nat.le_of_ble_eq_true rfl⟩ rfl rfl (Nat.le_of_ble_eq_true rfl) (c_X12_in x1 (1 : Int32) ((v_X12_many m) - (1 : Int32)) m) (fun v w2 hk => ?_)
  obtain ⟨rfl, rfl⟩ := hk
  show J X (0, 0) 11 [(0, .ref (ad 426)), (1, .int x1)] [.int (v_X12_in x1 (1 : Int32) ((v_X12_many m) - (1 : Int32)))] (fl ad m)
  exact J_zret hX hR dX12_isHung_11 (bv_X12_in x1 (1 : Int32) ((v_X12_many m) - (1 : Int32))) (And.intro (congrArg (fun z => some (Value.int z)) (show (v_X12_in x1 (1 : Int32) ((v_X12_many m) - (1 : Int32))) = v_X12_isHung x1 m from rfl)) rfl)
set_option maxRecDepth 100000 in
theorem c_X12_limitOf {G : GT} {ad : Nat → Nat} (x1 : Int32) (m : Mm) (h : s_X12_limitOf x1) : Cn G yX12_limitOf cX12_limitOf 2 (some .int) (rmN 0 0) [.ref (ad 426), .int x1] (0, 0) (fl ad m) (fun v w => v = some (.int (v_X12_limitOf x1 m)) ∧ w = fl ad m) := by
  unfold s_X12_limitOf at h
  refine Cn.of pn_RX12 (Nat.le_of_ble_eq_true rfl) (fun X hG hX hR => ?_)
  subst hG
  have hX : Cx X cX12_limitOf 2 RX12 (rmN 0 0) := hX
  show J X (0, 0) 0 [(0, .ref (ad 426)), (1, .int x1)] [] (fl ad m)
  have b1 := h
  refine J_aload_n hX dX12_limitOf_0 rfl 0 rfl ?_
  refine J_getR hX kf_RX12_7 dX12_limitOf_1 ka_426 (by decide) rfl rh_426_0 ?_
  refine J_bipush (v := (125 : Int32)) hX dX12_limitOf_4 (by decide) ?_
  refine J_iload_n hX dX12_limitOf_6 rfl 1 rfl ?_
  refine J_iadd hX dX12_limitOf_7 ?_
  refine J_iald (j := ((125 : Int32) + x1).toNatClampNeg) hX dX12_limitOf_8 ka_427 le_427 b1 rfl ?_
  exact J_iret hX hR dX12_limitOf_9 (And.intro (congrArg (fun z => some (Value.int z)) (show (m.1 427 ((125 : Int32) + x1).toNatClampNeg) = v_X12_limitOf x1 m from rfl)) rfl)
set_option maxRecDepth 100000 in
theorem tb_X12_layBase_l2 {X : XT} {ad : Nat → Nat} {K : Mm → Prop} (hX : Cx X cX12_layBase 2 RX12 (rmN 0 0)) (hR : Rx X none (kV ad K) (0, 0)) {rec : Int32 → Mm → Prop} (hrec : ∀ (x1 : Int32) (m : Mm), rec x1 m → J X (0, 0) 2 [(0, .ref (ad 426)), (1, .int x1)] [] (fl ad m)) (x1 : Int32) (m : Mm) (h : wb_X12_layBase_l2 rec K x1 m) : J X (0, 0) 2 [(0, .ref (ad 426)), (1, .int x1)] [] (fl ad m) := by
  unfold wb_X12_layBase_l2 at h
  refine J_iload_n hX dX12_layBase_2 rfl 1 rfl ?_
  refine J_iconst (v := (3 : Int32)) hX dX12_layBase_3 (by decide) ?_
  refine J_icmp_ge (tgt := 94) hX dX12_layBase_4 (by decide) (fun c1 => ?_) (fun c1 => ?_)
  · replace h := Eq.mp (if_pos c1) h
    exact J_vret hX hR dX12_layBase_94 ⟨_, rfl, rfl, h⟩
  · replace h := Eq.mp (if_neg c1) h
    refine J_aload_n hX dX12_layBase_7 rfl 0 rfl ?_
    refine J_getR hX kf_RX12_47 dX12_layBase_8 ka_426 (by decide) rfl rh_426_17 ?_
    refine J_iload_n hX dX12_layBase_11 rfl 1 rfl ?_
    refine J_iload_n hX dX12_layBase_12 rfl 1 rfl ?_
    have hj19 : ∀ y4 : Int32, y4 = (if x1 = (0 : Int32) then (m.1 432 0) else (if x1 = (1 : Int32) then (m.1 433 0) else (0 : Int32))) → J X (0, 0) 40 [(0, .ref (ad 426)), (1, .int x1)] [.int y4, .int x1, .ref (ad 439)] (fl ad m) := by
      intro y4 e_y4
      replace h := h y4 e_y4
      obtain ⟨b5, h⟩ := h
      refine J_iast (j := x1.toNatClampNeg) hX dX12_layBase_40 ka_439 le_439 b5 rfl ?_
      refine J_nmM (fun m6 e_m6 => ?_)
      replace h := h m6 e_m6
      refine J_aload_n hX dX12_layBase_41 rfl 0 rfl ?_
      refine J_getR hX kf_RX12_50 dX12_layBase_42 ka_426 (by decide) rfl rh_426_18 ?_
      refine J_iload_n hX dX12_layBase_45 rfl 1 rfl ?_
      refine J_iload_n hX dX12_layBase_46 rfl 1 rfl ?_
      have hj18 : ∀ y8 : Int32, y8 = (if x1 = (0 : Int32) then (1 : Int32) else (0 : Int32)) → J X (0, 0) 55 [(0, .ref (ad 426)), (1, .int x1)] [.int y8, .int x1, .ref (ad 440)] (fl ad m6) := by
        intro y8 e_y8
        replace h := h y8 e_y8
        refine J_iast (j := x1.toNatClampNeg) hX dX12_layBase_55 ka_440 le_440 b5 rfl ?_
        refine J_nmM (fun m9 e_m9 => ?_)
        replace h := h m9 e_m9
        refine J_aload_n hX dX12_layBase_56 rfl 0 rfl ?_
        refine J_getR hX kf_RX12_53 dX12_layBase_57 ka_426 (by decide) rfl rh_426_19 ?_
        refine J_iload_n hX dX12_layBase_60 rfl 1 rfl ?_
        refine J_iload_n hX dX12_layBase_61 rfl 1 rfl ?_
        refine J_iconst (v := (1 : Int32)) hX dX12_layBase_62 (by decide) ?_
        have hj17 : ∀ y11 : Int32, y11 = (if x1 = (1 : Int32) then (1 : Int32) else (0 : Int32)) → J X (0, 0) 71 [(0, .ref (ad 426)), (1, .int x1)] [.int y11, .int x1, .ref (ad 441)] (fl ad m9) := by
          intro y11 e_y11
          replace h := h y11 e_y11
          refine J_iast (j := x1.toNatClampNeg) hX dX12_layBase_71 ka_441 le_441 b5 rfl ?_
          refine J_nmM (fun m12 e_m12 => ?_)
          replace h := h m12 e_m12
          refine J_aload_n hX dX12_layBase_72 rfl 0 rfl ?_
          refine J_getR hX kf_RX12_56 dX12_layBase_73 ka_426 (by decide) rfl rh_426_20 ?_
          refine J_iload_n hX dX12_layBase_76 rfl 1 rfl ?_
          refine J_iload_n hX dX12_layBase_77 rfl 1 rfl ?_
          refine J_iconst (v := (2 : Int32)) hX dX12_layBase_78 (by decide) ?_
          have hj16 : ∀ y14 : Int32, y14 = (if x1 = (2 : Int32) then (1 : Int32) else (0 : Int32)) → J X (0, 0) 87 [(0, .ref (ad 426)), (1, .int x1)] [.int y14, .int x1, .ref (ad 442)] (fl ad m12) := by
            intro y14 e_y14
            replace h := h y14 e_y14
            refine J_iast (j := x1.toNatClampNeg) hX dX12_layBase_87 ka_442 le_442 b5 rfl ?_
            refine J_nmM (fun m15 e_m15 => ?_)
            replace h := h m15 e_m15
            refine J_iinc (x := (x1 + (1 : Int32))) (lv2 := [(1, .int (x1 + (1 : Int32))), (0, .ref (ad 426))]) hX dX12_layBase_88 1 rfl rfl (Nat.le_of_ble_eq_true rfl) rfl ?_
            refine J_goto (tgt := 2) hX dX12_layBase_91 (by decide) ?_
            exact J_sub [1, 0] rfl (hrec (x1 + (1 : Int32)) m15 h)
          refine J_icmp_ne (tgt := 86) hX dX12_layBase_79 (by decide) (fun c13 => ?_) (fun c13 => ?_)
          · refine J_iconst (v := (0 : Int32)) hX dX12_layBase_86 (by decide) ?_
            exact J_sub [0, 1] rfl (hj16 _ (if_neg c13).symm)
          · refine J_iconst (v := (1 : Int32)) hX dX12_layBase_82 (by decide) ?_
            refine J_goto (tgt := 87) hX dX12_layBase_83 (by decide) ?_
            exact J_sub [0, 1] rfl (hj16 _ (if_pos c13).symm)
        refine J_icmp_ne (tgt := 70) hX dX12_layBase_63 (by decide) (fun c10 => ?_) (fun c10 => ?_)
        · refine J_iconst (v := (0 : Int32)) hX dX12_layBase_70 (by decide) ?_
          exact J_sub [0, 1] rfl (hj17 _ (if_neg c10).symm)
        · refine J_iconst (v := (1 : Int32)) hX dX12_layBase_66 (by decide) ?_
          refine J_goto (tgt := 71) hX dX12_layBase_67 (by decide) ?_
          exact J_sub [0, 1] rfl (hj17 _ (if_pos c10).symm)
      refine J_if_ne (tgt := 54) hX dX12_layBase_47 (by decide) (fun c7 => ?_) (fun c7 => ?_)
      · refine J_iconst (v := (0 : Int32)) hX dX12_layBase_54 (by decide) ?_
        exact J_sub [0, 1] rfl (hj18 _ (if_neg c7).symm)
      · refine J_iconst (v := (1 : Int32)) hX dX12_layBase_50 (by decide) ?_
        refine J_goto (tgt := 55) hX dX12_layBase_51 (by decide) ?_
        exact J_sub [0, 1] rfl (hj18 _ (if_pos c7).symm)
    refine J_if_ne (tgt := 25) hX dX12_layBase_13 (by decide) (fun c2 => ?_) (fun c2 => ?_)
    · refine J_iload_n hX dX12_layBase_25 rfl 1 rfl ?_
      refine J_iconst (v := (1 : Int32)) hX dX12_layBase_26 (by decide) ?_
      refine J_icmp_ne (tgt := 39) hX dX12_layBase_27 (by decide) (fun c3 => ?_) (fun c3 => ?_)
      · refine J_iconst (v := (0 : Int32)) hX dX12_layBase_39 (by decide) ?_
        exact J_sub [0, 1] rfl (hj19 _ ((if_neg c2).trans (if_neg c3)).symm)
      · refine J_aload_n hX dX12_layBase_30 rfl 0 rfl ?_
        refine J_getR hX kf_RX12_29 dX12_layBase_31 ka_426 (by decide) rfl rh_426_8 ?_
        refine J_iconst (v := (0 : Int32)) hX dX12_layBase_34 (by decide) ?_
        refine J_iald (j := 0) hX dX12_layBase_35 ka_433 le_433 (vp_lit (by decide)) (by decide) ?_
        refine J_goto (tgt := 40) hX dX12_layBase_36 (by decide) ?_
        exact J_sub [0, 1] rfl (hj19 _ ((if_neg c2).trans (if_pos c3)).symm)
    · refine J_aload_n hX dX12_layBase_16 rfl 0 rfl ?_
      refine J_getR hX kf_RX12_26 dX12_layBase_17 ka_426 (by decide) rfl rh_426_7 ?_
      refine J_iconst (v := (0 : Int32)) hX dX12_layBase_20 (by decide) ?_
      refine J_iald (j := 0) hX dX12_layBase_21 ka_432 le_432 (vp_lit (by decide)) (by decide) ?_
      refine J_goto (tgt := 40) hX dX12_layBase_22 (by decide) ?_
      exact J_sub [0, 1] rfl (hj19 _ (if_pos c2).symm)
set_option maxRecDepth 100000 in
theorem t_X12_layBase_l2 {X : XT} {ad : Nat → Nat} {K : Mm → Prop} (hX : Cx X cX12_layBase 2 RX12 (rmN 0 0)) (hR : Rx X none (kV ad K) (0, 0))  : ∀ (n : Nat) (x1 : Int32) (m : Mm), wp_X12_layBase_l2 K n x1 m → J X (0, 0) 2 [(0, .ref (ad 426)), (1, .int x1)] [] (fl ad m) := by
  intro n
  induction n with
  | zero => intro x1 m h; exact h.elim
  | succ n ih => intro x1 m h; exact tb_X12_layBase_l2 hX hR ih x1 m h
set_option maxRecDepth 100000 in
theorem c_X12_layBase {G : GT} {ad : Nat → Nat} (m : Mm) (K : Mm → Prop) (h : wp_X12_layBase m K) : Cn G yX12_layBase cX12_layBase 2 none (rmN 0 0) [.ref (ad 426)] (0, 0) (fl ad m) (kV ad K) := by
  unfold wp_X12_layBase at h
  refine Cn.of pn_RX12 (Nat.le_of_ble_eq_true rfl) (fun X hG hX hR => ?_)
  subst hG
  have hX : Cx X cX12_layBase 2 RX12 (rmN 0 0) := hX
  show J X (0, 0) 0 [(0, .ref (ad 426))] [] (fl ad m)
  refine J_iconst (v := (0 : Int32)) hX dX12_layBase_0 (by decide) ?_
  refine J_istore_n (lv2 := [(1, .int (0 : Int32)), (0, .ref (ad 426))]) hX dX12_layBase_1 rfl (Nat.le_of_ble_eq_true rfl) rfl ?_
  refine J_sub [1, 0] rfl (t_X12_layBase_l2 hX hR FU (0 : Int32) m h)
set_option maxRecDepth 100000 in
theorem tb_X12_layHung_l32 {X : XT} {ad : Nat → Nat} {K : Mm → Prop} (hX : Cx X cX12_layHung 13 RX12 (rmN 1 22)) (hR : Rx X none (kV ad K) (0, 0)) {rec : Int32 → Mm → Prop} (x1 : Int32) (x2 : Int32) (x3 : Int32) (x4 : Int32) (x5 : Int32) (hrec : ∀ (x6 : Int32) (m : Mm), rec x6 m → J X (0, 0) 32 [(0, .ref (ad 426)), (1, .int x1), (2, .int x2), (3, .int x3), (4, .int x4), (5, .int x5), (6, .int x6)] [] (fl ad m)) (x6 : Int32) (m : Mm) (h : wb_X12_layHung_l32 rec K x1 x2 x3 x4 x5 x6 m) : J X (0, 0) 32 [(0, .ref (ad 426)), (1, .int x1), (2, .int x2), (3, .int x3), (4, .int x4), (5, .int x5), (6, .int x6)] [] (fl ad m) := by
  unfold wb_X12_layHung_l32 at h
  refine J_iload hX dX12_layHung_32 6 rfl ?_
  refine J_iconst (v := (3 : Int32)) hX dX12_layHung_34 (by decide) ?_
  refine J_icmp_ge (tgt := 384) hX dX12_layHung_35 (by decide) (fun c7 => ?_) (fun c7 => ?_)
  · replace h := Eq.mp (if_pos c7) h
    exact J_vret hX hR dX12_layHung_384 ⟨_, rfl, rfl, h⟩
  · replace h := Eq.mp (if_neg c7) h
    refine J_aload_n hX dX12_layHung_38 rfl 0 rfl ?_
    refine J_getR hX kf_RX12_50 dX12_layHung_39 ka_426 (by decide) rfl rh_426_18 ?_
    refine J_iconst (v := (3 : Int32)) hX dX12_layHung_42 (by decide) ?_
    refine J_iload_n hX dX12_layHung_43 rfl 3 rfl ?_
    refine J_imul hX dX12_layHung_44 ?_
    refine J_iload hX dX12_layHung_45 6 rfl ?_
    refine J_iadd hX dX12_layHung_47 ?_
    obtain ⟨b8, h⟩ := h
    refine J_iald (j := (((3 : Int32) * x3) + x6).toNatClampNeg) hX dX12_layHung_48 ka_440 le_440 b8 rfl ?_
    refine J_nmI (fun y9 e_y9 => ?_)
    replace h := h y9 e_y9
    refine J_istore (lv2 := [(7, .int y9), (0, .ref (ad 426)), (1, .int x1), (2, .int x2), (3, .int x3), (4, .int x4), (5, .int x5), (6, .int x6)]) hX dX12_layHung_49 (Nat.le_of_ble_eq_true rfl) rfl ?_
    refine J_aload_n hX dX12_layHung_51 rfl 1 rfl ?_
    refine J_getR hX kf_RX12_53 dX12_layHung_52 ka_426 (by decide) rfl rh_426_19 ?_
    refine J_iconst (v := (3 : Int32)) hX dX12_layHung_55 (by decide) ?_
    refine J_iload_n hX dX12_layHung_56 rfl 4 rfl ?_
    refine J_imul hX dX12_layHung_57 ?_
    refine J_iload hX dX12_layHung_58 7 rfl ?_
    refine J_iadd hX dX12_layHung_60 ?_
    refine J_iald (j := (((3 : Int32) * x3) + x6).toNatClampNeg) hX dX12_layHung_61 ka_441 le_441 b8 rfl ?_
    refine J_nmI (fun y10 e_y10 => ?_)
    replace h := h y10 e_y10
    refine J_istore (lv2 := [(8, .int y10), (7, .int y9), (0, .ref (ad 426)), (1, .int x1), (2, .int x2), (3, .int x3), (4, .int x4), (5, .int x5), (6, .int x6)]) hX dX12_layHung_62 (Nat.le_of_ble_eq_true rfl) rfl ?_
    refine J_aload_n hX dX12_layHung_64 rfl 2 rfl ?_
    refine J_getR hX kf_RX12_56 dX12_layHung_65 ka_426 (by decide) rfl rh_426_20 ?_
    refine J_iconst (v := (3 : Int32)) hX dX12_layHung_68 (by decide) ?_
    refine J_iload_n hX dX12_layHung_69 rfl 5 rfl ?_
    refine J_imul hX dX12_layHung_70 ?_
    refine J_iload hX dX12_layHung_71 8 rfl ?_
    refine J_iadd hX dX12_layHung_73 ?_
    refine J_iald (j := (((3 : Int32) * x3) + x6).toNatClampNeg) hX dX12_layHung_74 ka_442 le_442 b8 rfl ?_
    refine J_nmI (fun y11 e_y11 => ?_)
    replace h := h y11 e_y11
    refine J_istore (lv2 := [(9, .int y11), (8, .int y10), (7, .int y9), (0, .ref (ad 426)), (1, .int x1), (2, .int x2), (3, .int x3), (4, .int x4), (5, .int x5), (6, .int x6)]) hX dX12_layHung_75 (Nat.le_of_ble_eq_true rfl) rfl ?_
    refine J_iload hX dX12_layHung_77 7 rfl ?_
    have hj71 : ∀ y15 : Int32, y15 = (if x4 = (0 : Int32) then (-y10) else (if x4 = (1 : Int32) then y9 else (if x4 = (2 : Int32) then y10 else (-y9)))) → J X (0, 0) 113 [(0, .ref (ad 426)), (1, .int x1), (2, .int x2), (3, .int x3), (4, .int x4), (5, .int x5), (6, .int x6), (7, .int y9), (8, .int y10), (9, .int y11)] [.int y15] (fl ad m) := by
      intro y15 e_y15
      replace h := h y15 e_y15
      refine J_istore (lv2 := [(10, .int y15), (0, .ref (ad 426)), (1, .int x1), (2, .int x2), (3, .int x3), (4, .int x4), (5, .int x5), (6, .int x6), (7, .int y9), (8, .int y10), (9, .int y11)]) hX dX12_layHung_113 (Nat.le_of_ble_eq_true rfl) rfl ?_
      refine J_iload_n hX dX12_layHung_115 rfl 3 rfl ?_
      have hj70 : ∀ y19 : Int32, y19 = (if x2 = (0 : Int32) then y15 else (if x2 = (1 : Int32) then (-y11) else (if x2 = (2 : Int32) then (-y15) else y11))) → J X (0, 0) 148 [(0, .ref (ad 426)), (1, .int x1), (2, .int x2), (3, .int x3), (4, .int x4), (5, .int x5), (6, .int x6), (7, .int y9), (8, .int y10), (9, .int y11), (10, .int y15)] [.int y19] (fl ad m) := by
        intro y19 e_y19
        replace h := h y19 e_y19
        refine J_istore (lv2 := [(11, .int y19), (0, .ref (ad 426)), (1, .int x1), (2, .int x2), (3, .int x3), (4, .int x4), (5, .int x5), (6, .int x6), (7, .int y9), (8, .int y10), (9, .int y11), (10, .int y15)]) hX dX12_layHung_148 (Nat.le_of_ble_eq_true rfl) rfl ?_
        refine J_aload_n hX dX12_layHung_150 rfl 1 rfl ?_
        refine J_getR hX kf_RX12_56 dX12_layHung_151 ka_426 (by decide) rfl rh_426_20 ?_
        refine J_iconst (v := (3 : Int32)) hX dX12_layHung_154 (by decide) ?_
        refine J_iload_n hX dX12_layHung_155 rfl 2 rfl ?_
        refine J_imul hX dX12_layHung_156 ?_
        refine J_iload hX dX12_layHung_157 7 rfl ?_
        refine J_iadd hX dX12_layHung_159 ?_
        refine J_iload_n hX dX12_layHung_160 rfl 3 rfl ?_
        have hj69 : ∀ y23 : Int32, y23 = (if x2 = (0 : Int32) then y11 else (if x2 = (1 : Int32) then y15 else (if x2 = (2 : Int32) then (-y11) else (-y15)))) → J X (0, 0) 193 [(0, .ref (ad 426)), (1, .int x1), (2, .int x2), (3, .int x3), (4, .int x4), (5, .int x5), (6, .int x6), (7, .int y9), (8, .int y10), (11, .int y19)] [.int y23, .int (((3 : Int32) * x1) + x6), .ref (ad 442)] (fl ad m) := by
          intro y23 e_y23
          replace h := h y23 e_y23
          obtain ⟨b24, h⟩ := h
          refine J_iast (j := (((3 : Int32) * x1) + x6).toNatClampNeg) hX dX12_layHung_193 ka_442 le_442 b24 rfl ?_
          refine J_nmM (fun m25 e_m25 => ?_)
          replace h := h m25 e_m25
          refine J_aload_n hX dX12_layHung_194 rfl 0 rfl ?_
          refine J_getR hX kf_RX12_50 dX12_layHung_195 ka_426 (by decide) rfl rh_426_18 ?_
          refine J_iconst (v := (3 : Int32)) hX dX12_layHung_198 (by decide) ?_
          refine J_iload_n hX dX12_layHung_199 rfl 1 rfl ?_
          refine J_imul hX dX12_layHung_200 ?_
          refine J_iload hX dX12_layHung_201 6 rfl ?_
          refine J_iadd hX dX12_layHung_203 ?_
          refine J_iload hX dX12_layHung_204 5 rfl ?_
          have hj68 : ∀ y28 : Int32, y28 = (if x5 = (0 : Int32) then (if x4 = (1 : Int32) then y19 else (-y19)) else y9) → J X (0, 0) 228 [(0, .ref (ad 426)), (1, .int x1), (2, .int x2), (3, .int x3), (4, .int x4), (5, .int x5), (6, .int x6), (7, .int y9), (8, .int y10), (11, .int y19)] [.int y28, .int (((3 : Int32) * x1) + x6), .ref (ad 440)] (fl ad m25) := by
            intro y28 e_y28
            replace h := h y28 e_y28
            refine J_iast (j := (((3 : Int32) * x1) + x6).toNatClampNeg) hX dX12_layHung_228 ka_440 le_440 b24 rfl ?_
            refine J_nmM (fun m29 e_m29 => ?_)
            replace h := h m29 e_m29
            refine J_aload_n hX dX12_layHung_229 rfl 0 rfl ?_
            refine J_getR hX kf_RX12_53 dX12_layHung_230 ka_426 (by decide) rfl rh_426_19 ?_
            refine J_iconst (v := (3 : Int32)) hX dX12_layHung_233 (by decide) ?_
            refine J_iload_n hX dX12_layHung_234 rfl 1 rfl ?_
            refine J_imul hX dX12_layHung_235 ?_
            refine J_iload hX dX12_layHung_236 6 rfl ?_
            refine J_iadd hX dX12_layHung_238 ?_
            refine J_iload hX dX12_layHung_239 5 rfl ?_
            have hj67 : ∀ y32 : Int32, y32 = (if x5 = (0 : Int32) then y10 else (if x4 = (2 : Int32) then y19 else (-y19))) → J X (0, 0) 263 [(0, .ref (ad 426)), (1, .int x1), (2, .int x2), (3, .int x3), (4, .int x4), (5, .int x5), (6, .int x6), (7, .int y9), (8, .int y10), (11, .int y19)] [.int y32, .int (((3 : Int32) * x1) + x6), .ref (ad 441)] (fl ad m29) := by
              intro y32 e_y32
              replace h := h y32 e_y32
              refine J_iast (j := (((3 : Int32) * x1) + x6).toNatClampNeg) hX dX12_layHung_263 ka_441 le_441 b24 rfl ?_
              refine J_nmM (fun m33 e_m33 => ?_)
              replace h := h m33 e_m33
              refine J_aload_n hX dX12_layHung_264 rfl 0 rfl ?_
              refine J_getR hX kf_RX12_47 dX12_layHung_265 ka_426 (by decide) rfl rh_426_17 ?_
              refine J_iconst (v := (3 : Int32)) hX dX12_layHung_268 (by decide) ?_
              refine J_iload_n hX dX12_layHung_269 rfl 3 rfl ?_
              refine J_imul hX dX12_layHung_270 ?_
              refine J_iload hX dX12_layHung_271 6 rfl ?_
              refine J_iadd hX dX12_layHung_273 ?_
              refine J_iald (j := (((3 : Int32) * x3) + x6).toNatClampNeg) hX dX12_layHung_274 ka_439 le_439 b8 rfl ?_
              refine J_aload_n hX dX12_layHung_275 rfl 0 rfl ?_
              refine J_iload_n hX dX12_layHung_276 rfl 1 rfl ?_
              refine J_iconst (v := (2 : Int32)) hX dX12_layHung_277 (by decide) ?_
              obtain ⟨b34, h⟩ := h
              refine J_callV hX km_X12_of kl_RX12_91 dX12_layHung_278 ka_426 (by decide) [.int x1, .int (2 : Int32)] ⟨Nat.le_of_ble_eq_true rfl, Nat.le_of_ble_eq_true rfl⟩ rfl rfl (Nat.le_of_ble_eq_true rfl) (c_X12_of x1 (2 : Int32) m33 b34) (fun v w2 hk => ?_)
              obtain ⟨rfl, rfl⟩ := hk
              show J X (0, 0) 281 [(0, .ref (ad 426)), (1, .int x1), (2, .int x2), (3, .int x3), (4, .int x4), (5, .int x5), (6, .int x6), (7, .int y9), (8, .int y10), (11, .int y19)] [.int (v_X12_of x1 (2 : Int32) m33), .int (m33.1 439 (((3 : Int32) * x3) + x6).toNatClampNeg)] (fl ad m33)
              refine J_iload hX dX12_layHung_281 5 rfl ?_
              have hj66 : ∀ y36 : Int32, y36 = (if x5 = (0 : Int32) then y10 else y9) → J X (0, 0) 293 [(0, .ref (ad 426)), (1, .int x1), (2, .int x2), (3, .int x3), (4, .int x4), (5, .int x5), (6, .int x6), (7, .int y9), (8, .int y10), (11, .int y19)] [.int y36, .int (v_X12_of x1 (2 : Int32) m33), .int (m33.1 439 (((3 : Int32) * x3) + x6).toNatClampNeg)] (fl ad m33) := by
                intro y36 e_y36
                replace h := h y36 e_y36
                refine J_imul hX dX12_layHung_293 ?_
                refine J_iadd hX dX12_layHung_294 ?_
                refine J_nmI (fun y37 e_y37 => ?_)
                replace h := h y37 e_y37
                refine J_istore (lv2 := [(12, .int y37), (0, .ref (ad 426)), (1, .int x1), (2, .int x2), (3, .int x3), (4, .int x4), (5, .int x5), (6, .int x6), (7, .int y9), (8, .int y10), (11, .int y19)]) hX dX12_layHung_295 (Nat.le_of_ble_eq_true rfl) rfl ?_
                refine J_iload hX dX12_layHung_297 0 rfl ?_
                refine J_iload hX dX12_layHung_299 5 rfl ?_
                refine J_iconst (v := (1 : Int32)) hX dX12_layHung_301 (by decide) ?_
                obtain ⟨g42, h⟩ := h
                have hj59 : ∀ y43 : Int32, y43 = (if x4 = (1 : Int32) then ((m33.1 434 x3.toNatClampNeg) * y9) else (if x4 = (2 : Int32) then ((m33.1 435 x3.toNatClampNeg) * y10) else (0 : Int32))) → J X (0, 0) 336 [(0, .ref (ad 426)), (1, .int x1), (2, .int x2), (3, .int x3), (4, .int x4), (5, .int x5), (6, .int x6), (11, .int y19)] [.int y43, .int y37] (fl ad m33) := by
                  intro y43 e_y43
                  replace h := h y43 e_y43
                  refine J_iadd hX dX12_layHung_336 ?_
                  refine J_nmI (fun y44 e_y44 => ?_)
                  replace h := h y44 e_y44
                  refine J_istore (lv2 := [(12, .int y44), (0, .ref (ad 426)), (1, .int x1), (2, .int x2), (3, .int x3), (4, .int x4), (5, .int x5), (6, .int x6), (11, .int y19)]) hX dX12_layHung_337 (Nat.le_of_ble_eq_true rfl) rfl ?_
                  refine J_aload_n hX dX12_layHung_339 rfl 1 rfl ?_
                  refine J_getR hX kf_RX12_47 dX12_layHung_340 ka_426 (by decide) rfl rh_426_17 ?_
                  refine J_iconst (v := (3 : Int32)) hX dX12_layHung_343 (by decide) ?_
                  refine J_iload_n hX dX12_layHung_344 rfl 2 rfl ?_
                  refine J_imul hX dX12_layHung_345 ?_
                  refine J_iload hX dX12_layHung_346 7 rfl ?_
                  refine J_iadd hX dX12_layHung_348 ?_
                  refine J_iload hX dX12_layHung_349 5 rfl ?_
                  obtain ⟨g49, h⟩ := h
                  have hj52 : ∀ y50 : Int32, y50 = (if x4 = (0 : Int32) then (y44 + ((v_X12_of x1 (4 : Int32) m33) * y19)) else (if x4 = (3 : Int32) then (y44 + ((v_X12_of x1 (4 : Int32) m33) * y19)) else y44)) → J X (0, 0) 377 [(0, .ref (ad 426)), (1, .int x1), (2, .int x2), (3, .int x3), (4, .int x4), (5, .int x5), (6, .int x6)] [.int y50, .int (((3 : Int32) * x1) + x6), .ref (ad 439)] (fl ad m33) := by
                    intro y50 e_y50
                    replace h := h y50 e_y50
                    refine J_iast (j := (((3 : Int32) * x1) + x6).toNatClampNeg) hX dX12_layHung_377 ka_439 le_439 b24 rfl ?_
                    refine J_nmM (fun m51 e_m51 => ?_)
                    replace h := h m51 e_m51
                    refine J_iinc (x := (x6 + (1 : Int32))) (lv2 := [(6, .int (x6 + (1 : Int32))), (0, .ref (ad 426)), (1, .int x1), (2, .int x2), (3, .int x3), (4, .int x4), (5, .int x5)]) hX dX12_layHung_378 6 rfl rfl (Nat.le_of_ble_eq_true rfl) rfl ?_
                    refine J_goto (tgt := 32) hX dX12_layHung_381 (by decide) ?_
                    exact J_sub [1, 2, 3, 4, 5, 6, 0] rfl (hrec (x6 + (1 : Int32)) m51 h)
                  obtain ⟨g53, g54⟩ := g49
                  refine J_if_eq (tgt := 360) hX dX12_layHung_351 (by decide) (fun c45 => ?_) (fun c45 => ?_)
                  · have g55 := g53 c45
                    have b46 := g55
                    refine J_iload hX dX12_layHung_360 0 rfl ?_
                    refine J_aload_n hX dX12_layHung_362 rfl 1 rfl ?_
                    refine J_iload_n hX dX12_layHung_363 rfl 2 rfl ?_
                    refine J_iconst (v := (4 : Int32)) hX dX12_layHung_364 (by decide) ?_
                    refine J_callV hX km_X12_of kl_RX12_91 dX12_layHung_365 ka_426 (by decide) [.int x1, .int (4 : Int32)] ⟨Nat.le_of_ble_eq_true rfl, Nat.le_of_ble_eq_true rfl⟩ rfl rfl (Nat.le_of_ble_eq_true rfl) (c_X12_of x1 (4 : Int32) m33 b46) (fun v w2 hk => ?_)
                    obtain ⟨rfl, rfl⟩ := hk
                    show J X (0, 0) 368 [(12, .int y44), (0, .ref (ad 426)), (1, .int x1), (2, .int x2), (3, .int x3), (4, .int x4), (5, .int x5), (6, .int x6), (11, .int y19)] [.int (v_X12_of x1 (4 : Int32) m33), .int y44, .int (((3 : Int32) * x1) + x6), .ref (ad 439)] (fl ad m33)
                    refine J_iload hX dX12_layHung_368 8 rfl ?_
                    refine J_imul hX dX12_layHung_370 ?_
                    refine J_iadd hX dX12_layHung_371 ?_
                    refine J_goto (tgt := 377) hX dX12_layHung_372 (by decide) ?_
                    exact J_sub [1, 2, 3, 4, 5, 6, 7] rfl (hj52 _ (if_pos c45).symm)
                  · have g56 := g54 c45
                    have g57 := g56
                    refine J_iload hX dX12_layHung_354 5 rfl ?_
                    refine J_iconst (v := (3 : Int32)) hX dX12_layHung_356 (by decide) ?_
                    refine J_icmp_ne (tgt := 375) hX dX12_layHung_357 (by decide) (fun c47 => ?_) (fun c47 => ?_)
                    · refine J_iload hX dX12_layHung_375 0 rfl ?_
                      exact J_sub [1, 2, 3, 4, 5, 6, 7] rfl (hj52 _ ((if_neg c45).trans (if_neg c47)).symm)
                    · have g58 := g57 c47
                      have b48 := g58
                      refine J_iload hX dX12_layHung_360 0 rfl ?_
                      refine J_aload_n hX dX12_layHung_362 rfl 1 rfl ?_
                      refine J_iload_n hX dX12_layHung_363 rfl 2 rfl ?_
                      refine J_iconst (v := (4 : Int32)) hX dX12_layHung_364 (by decide) ?_
                      refine J_callV hX km_X12_of kl_RX12_91 dX12_layHung_365 ka_426 (by decide) [.int x1, .int (4 : Int32)] ⟨Nat.le_of_ble_eq_true rfl, Nat.le_of_ble_eq_true rfl⟩ rfl rfl (Nat.le_of_ble_eq_true rfl) (c_X12_of x1 (4 : Int32) m33 b48) (fun v w2 hk => ?_)
                      obtain ⟨rfl, rfl⟩ := hk
                      show J X (0, 0) 368 [(12, .int y44), (0, .ref (ad 426)), (1, .int x1), (2, .int x2), (3, .int x3), (4, .int x4), (5, .int x5), (6, .int x6), (11, .int y19)] [.int (v_X12_of x1 (4 : Int32) m33), .int y44, .int (((3 : Int32) * x1) + x6), .ref (ad 439)] (fl ad m33)
                      refine J_iload hX dX12_layHung_368 8 rfl ?_
                      refine J_imul hX dX12_layHung_370 ?_
                      refine J_iadd hX dX12_layHung_371 ?_
                      refine J_goto (tgt := 377) hX dX12_layHung_372 (by decide) ?_
                      exact J_sub [1, 2, 3, 4, 5, 6, 7] rfl (hj52 _ ((if_neg c45).trans (if_pos c47)).symm)
                obtain ⟨g60, g61⟩ := g42
                refine J_icmp_ne (tgt := 317) hX dX12_layHung_302 (by decide) (fun c38 => ?_) (fun c38 => ?_)
                · have g62 := g60 c38
                  have g63 := g62
                  refine J_iload hX dX12_layHung_317 5 rfl ?_
                  refine J_iconst (v := (2 : Int32)) hX dX12_layHung_319 (by decide) ?_
                  refine J_icmp_ne (tgt := 335) hX dX12_layHung_320 (by decide) (fun c39 => ?_) (fun c39 => ?_)
                  · refine J_iconst (v := (0 : Int32)) hX dX12_layHung_335 (by decide) ?_
                    exact J_sub [1, 2, 3, 4, 5, 6, 7, 10] rfl (hj59 _ ((if_neg c38).trans (if_neg c39)).symm)
                  · have g64 := g63 c39
                    have b40 := g64
                    refine J_aload_n hX dX12_layHung_323 rfl 1 rfl ?_
                    refine J_getR hX kf_RX12_35 dX12_layHung_324 ka_426 (by decide) rfl rh_426_10 ?_
                    refine J_iload_n hX dX12_layHung_327 rfl 4 rfl ?_
                    refine J_iald (j := x3.toNatClampNeg) hX dX12_layHung_328 ka_435 le_435 b40 rfl ?_
                    refine J_iload hX dX12_layHung_329 9 rfl ?_
                    refine J_imul hX dX12_layHung_331 ?_
                    refine J_goto (tgt := 336) hX dX12_layHung_332 (by decide) ?_
                    exact J_sub [1, 2, 3, 4, 5, 6, 7, 10] rfl (hj59 _ ((if_neg c38).trans (if_pos c39)).symm)
                · have g65 := g61 c38
                  have b41 := g65
                  refine J_aload_n hX dX12_layHung_305 rfl 1 rfl ?_
                  refine J_getR hX kf_RX12_32 dX12_layHung_306 ka_426 (by decide) rfl rh_426_9 ?_
                  refine J_iload_n hX dX12_layHung_309 rfl 4 rfl ?_
                  refine J_iald (j := x3.toNatClampNeg) hX dX12_layHung_310 ka_434 le_434 b41 rfl ?_
                  refine J_iload hX dX12_layHung_311 8 rfl ?_
                  refine J_imul hX dX12_layHung_313 ?_
                  refine J_goto (tgt := 336) hX dX12_layHung_314 (by decide) ?_
                  exact J_sub [1, 2, 3, 4, 5, 6, 7, 10] rfl (hj59 _ (if_pos c38).symm)
              refine J_if_eq (tgt := 291) hX dX12_layHung_283 (by decide) (fun c35 => ?_) (fun c35 => ?_)
              · refine J_iload hX dX12_layHung_291 8 rfl ?_
                exact J_sub [0, 1, 2, 3, 4, 5, 6, 7, 8, 9] rfl (hj66 _ (if_pos c35).symm)
              · refine J_iload hX dX12_layHung_286 7 rfl ?_
                refine J_goto (tgt := 293) hX dX12_layHung_288 (by decide) ?_
                exact J_sub [0, 1, 2, 3, 4, 5, 6, 7, 8, 9] rfl (hj66 _ (if_neg c35).symm)
            refine J_if_ne (tgt := 249) hX dX12_layHung_241 (by decide) (fun c30 => ?_) (fun c30 => ?_)
            · refine J_iload hX dX12_layHung_249 4 rfl ?_
              refine J_iconst (v := (2 : Int32)) hX dX12_layHung_251 (by decide) ?_
              refine J_icmp_ne (tgt := 260) hX dX12_layHung_252 (by decide) (fun c31 => ?_) (fun c31 => ?_)
              · refine J_iload hX dX12_layHung_260 9 rfl ?_
                refine J_ineg hX dX12_layHung_262 ?_
                exact J_sub [0, 1, 2, 3, 4, 5, 6, 7, 8, 9] rfl (hj67 _ ((if_neg c30).trans (if_neg c31)).symm)
              · refine J_iload hX dX12_layHung_255 9 rfl ?_
                refine J_goto (tgt := 263) hX dX12_layHung_257 (by decide) ?_
                exact J_sub [0, 1, 2, 3, 4, 5, 6, 7, 8, 9] rfl (hj67 _ ((if_neg c30).trans (if_pos c31)).symm)
            · refine J_iload hX dX12_layHung_244 8 rfl ?_
              refine J_goto (tgt := 263) hX dX12_layHung_246 (by decide) ?_
              exact J_sub [0, 1, 2, 3, 4, 5, 6, 7, 8, 9] rfl (hj67 _ (if_pos c30).symm)
          refine J_if_eq (tgt := 214) hX dX12_layHung_206 (by decide) (fun c26 => ?_) (fun c26 => ?_)
          · refine J_iload hX dX12_layHung_214 4 rfl ?_
            refine J_iconst (v := (1 : Int32)) hX dX12_layHung_216 (by decide) ?_
            refine J_icmp_ne (tgt := 225) hX dX12_layHung_217 (by decide) (fun c27 => ?_) (fun c27 => ?_)
            · refine J_iload hX dX12_layHung_225 9 rfl ?_
              refine J_ineg hX dX12_layHung_227 ?_
              exact J_sub [0, 1, 2, 3, 4, 5, 6, 7, 8, 9] rfl (hj68 _ ((if_pos c26).trans (if_neg c27)).symm)
            · refine J_iload hX dX12_layHung_220 9 rfl ?_
              refine J_goto (tgt := 228) hX dX12_layHung_222 (by decide) ?_
              exact J_sub [0, 1, 2, 3, 4, 5, 6, 7, 8, 9] rfl (hj68 _ ((if_pos c26).trans (if_pos c27)).symm)
          · refine J_iload hX dX12_layHung_209 7 rfl ?_
            refine J_goto (tgt := 228) hX dX12_layHung_211 (by decide) ?_
            exact J_sub [0, 1, 2, 3, 4, 5, 6, 7, 8, 9] rfl (hj68 _ (if_neg c26).symm)
        refine J_if_ne (tgt := 169) hX dX12_layHung_161 (by decide) (fun c20 => ?_) (fun c20 => ?_)
        · refine J_iload_n hX dX12_layHung_169 rfl 3 rfl ?_
          refine J_iconst (v := (1 : Int32)) hX dX12_layHung_170 (by decide) ?_
          refine J_icmp_ne (tgt := 179) hX dX12_layHung_171 (by decide) (fun c21 => ?_) (fun c21 => ?_)
          · refine J_iload_n hX dX12_layHung_179 rfl 3 rfl ?_
            refine J_iconst (v := (2 : Int32)) hX dX12_layHung_180 (by decide) ?_
            refine J_icmp_ne (tgt := 190) hX dX12_layHung_181 (by decide) (fun c22 => ?_) (fun c22 => ?_)
            · refine J_iload hX dX12_layHung_190 11 rfl ?_
              refine J_ineg hX dX12_layHung_192 ?_
              exact J_sub [1, 2, 3, 4, 5, 6, 7, 8, 9, 0] rfl (hj69 _ ((if_neg c20).trans ((if_neg c21).trans (if_neg c22))).symm)
            · refine J_iload hX dX12_layHung_184 10 rfl ?_
              refine J_ineg hX dX12_layHung_186 ?_
              refine J_goto (tgt := 193) hX dX12_layHung_187 (by decide) ?_
              exact J_sub [1, 2, 3, 4, 5, 6, 7, 8, 9, 0] rfl (hj69 _ ((if_neg c20).trans ((if_neg c21).trans (if_pos c22))).symm)
          · refine J_iload hX dX12_layHung_174 11 rfl ?_
            refine J_goto (tgt := 193) hX dX12_layHung_176 (by decide) ?_
            exact J_sub [1, 2, 3, 4, 5, 6, 7, 8, 9, 0] rfl (hj69 _ ((if_neg c20).trans (if_pos c21)).symm)
        · refine J_iload hX dX12_layHung_164 10 rfl ?_
          refine J_goto (tgt := 193) hX dX12_layHung_166 (by decide) ?_
          exact J_sub [1, 2, 3, 4, 5, 6, 7, 8, 9, 0] rfl (hj69 _ (if_pos c20).symm)
      refine J_if_ne (tgt := 124) hX dX12_layHung_116 (by decide) (fun c16 => ?_) (fun c16 => ?_)
      · refine J_iload_n hX dX12_layHung_124 rfl 3 rfl ?_
        refine J_iconst (v := (1 : Int32)) hX dX12_layHung_125 (by decide) ?_
        refine J_icmp_ne (tgt := 135) hX dX12_layHung_126 (by decide) (fun c17 => ?_) (fun c17 => ?_)
        · refine J_iload_n hX dX12_layHung_135 rfl 3 rfl ?_
          refine J_iconst (v := (2 : Int32)) hX dX12_layHung_136 (by decide) ?_
          refine J_icmp_ne (tgt := 146) hX dX12_layHung_137 (by decide) (fun c18 => ?_) (fun c18 => ?_)
          · refine J_iload hX dX12_layHung_146 10 rfl ?_
            exact J_sub [1, 2, 3, 4, 5, 6, 7, 8, 9, 10, 0] rfl (hj70 _ ((if_neg c16).trans ((if_neg c17).trans (if_neg c18))).symm)
          · refine J_iload hX dX12_layHung_140 0 rfl ?_
            refine J_ineg hX dX12_layHung_142 ?_
            refine J_goto (tgt := 148) hX dX12_layHung_143 (by decide) ?_
            exact J_sub [1, 2, 3, 4, 5, 6, 7, 8, 9, 10, 0] rfl (hj70 _ ((if_neg c16).trans ((if_neg c17).trans (if_pos c18))).symm)
        · refine J_iload hX dX12_layHung_129 10 rfl ?_
          refine J_ineg hX dX12_layHung_131 ?_
          refine J_goto (tgt := 148) hX dX12_layHung_132 (by decide) ?_
          exact J_sub [1, 2, 3, 4, 5, 6, 7, 8, 9, 10, 0] rfl (hj70 _ ((if_neg c16).trans (if_pos c17)).symm)
      · refine J_iload hX dX12_layHung_119 0 rfl ?_
        refine J_goto (tgt := 148) hX dX12_layHung_121 (by decide) ?_
        exact J_sub [1, 2, 3, 4, 5, 6, 7, 8, 9, 10, 0] rfl (hj70 _ (if_pos c16).symm)
    refine J_if_ne (tgt := 88) hX dX12_layHung_79 (by decide) (fun c12 => ?_) (fun c12 => ?_)
    · refine J_iload hX dX12_layHung_88 7 rfl ?_
      refine J_iconst (v := (1 : Int32)) hX dX12_layHung_90 (by decide) ?_
      refine J_icmp_ne (tgt := 99) hX dX12_layHung_91 (by decide) (fun c13 => ?_) (fun c13 => ?_)
      · refine J_iload hX dX12_layHung_99 7 rfl ?_
        refine J_iconst (v := (2 : Int32)) hX dX12_layHung_101 (by decide) ?_
        refine J_icmp_ne (tgt := 110) hX dX12_layHung_102 (by decide) (fun c14 => ?_) (fun c14 => ?_)
        · refine J_iload hX dX12_layHung_110 2 rfl ?_
          refine J_ineg hX dX12_layHung_112 ?_
          exact J_sub [3, 4, 5, 6, 7, 8, 9, 2, 1, 0] rfl (hj71 _ ((if_neg c12).trans ((if_neg c13).trans (if_neg c14))).symm)
        · refine J_iload hX dX12_layHung_105 1 rfl ?_
          refine J_goto (tgt := 113) hX dX12_layHung_107 (by decide) ?_
          exact J_sub [3, 4, 5, 6, 7, 8, 9, 2, 1, 0] rfl (hj71 _ ((if_neg c12).trans ((if_neg c13).trans (if_pos c14))).symm)
      · refine J_iload hX dX12_layHung_94 2 rfl ?_
        refine J_goto (tgt := 113) hX dX12_layHung_96 (by decide) ?_
        exact J_sub [3, 4, 5, 6, 7, 8, 9, 2, 1, 0] rfl (hj71 _ ((if_neg c12).trans (if_pos c13)).symm)
    · refine J_iload hX dX12_layHung_82 1 rfl ?_
      refine J_ineg hX dX12_layHung_84 ?_
      refine J_goto (tgt := 113) hX dX12_layHung_85 (by decide) ?_
      exact J_sub [3, 4, 5, 6, 7, 8, 9, 2, 1, 0] rfl (hj71 _ (if_pos c12).symm)
set_option maxRecDepth 100000 in
theorem t_X12_layHung_l32 {X : XT} {ad : Nat → Nat} {K : Mm → Prop} (hX : Cx X cX12_layHung 13 RX12 (rmN 1 22)) (hR : Rx X none (kV ad K) (0, 0)) (x1 : Int32) (x2 : Int32) (x3 : Int32) (x4 : Int32) (x5 : Int32) : ∀ (n : Nat) (x6 : Int32) (m : Mm), wp_X12_layHung_l32 K x1 x2 x3 x4 x5 n x6 m → J X (0, 0) 32 [(0, .ref (ad 426)), (1, .int x1), (2, .int x2), (3, .int x3), (4, .int x4), (5, .int x5), (6, .int x6)] [] (fl ad m) := by
  intro n
  induction n with
  | zero => intro x6 m h; exact h.elim
  | succ n ih => intro x6 m h; exact tb_X12_layHung_l32 hX hR x1 x2 x3 x4 x5 ih x6 m h
set_option maxRecDepth 100000 in
theorem c_X12_layHung {G : GT} {ad : Nat → Nat} (x1 : Int32) (x2 : Int32) (m : Mm) (K : Mm → Prop) (h : wp_X12_layHung x1 x2 m K) : Cn G yX12_layHung cX12_layHung 13 none (rmN 1 22) [.ref (ad 426), .int x1, .int x2] (0, 0) (fl ad m) (kV ad K) := by
  unfold wp_X12_layHung at h
  refine Cn.of pn_RX12 (Nat.le_of_ble_eq_true rfl) (fun X hG hX hR => ?_)
  subst hG
  have hX : Cx X cX12_layHung 13 RX12 (rmN 1 22) := hX
  show J X (0, 0) 0 [(0, .ref (ad 426)), (1, .int x1), (2, .int x2)] [] (fl ad m)
  refine J_aload_n hX dX12_layHung_0 rfl 0 rfl ?_
  refine J_iload_n hX dX12_layHung_1 rfl 1 rfl ?_
  refine J_iconst (v := (0 : Int32)) hX dX12_layHung_2 (by decide) ?_
  obtain ⟨b1, h⟩ := h
  refine J_callV hX km_X12_of kl_RX12_91 dX12_layHung_3 ka_426 (by decide) [.int x1, .int (0 : Int32)] ⟨Nat.le_of_ble_eq_true rfl, Nat.le_of_ble_eq_true rfl⟩ rfl rfl (Nat.le_of_ble_eq_true rfl) (c_X12_of x1 (0 : Int32) m b1) (fun v w2 hk => ?_)
  obtain ⟨rfl, rfl⟩ := hk
  show J X (0, 0) 6 [(0, .ref (ad 426)), (1, .int x1), (2, .int x2)] [.int (v_X12_of x1 (0 : Int32) m)] (fl ad m)
  refine J_nmI (fun y2 e_y2 => ?_)
  replace h := h y2 e_y2
  refine J_istore_n (lv2 := [(3, .int y2), (0, .ref (ad 426)), (1, .int x1), (2, .int x2)]) hX dX12_layHung_6 rfl (Nat.le_of_ble_eq_true rfl) rfl ?_
  refine J_aload_n hX dX12_layHung_7 rfl 1 rfl ?_
  refine J_iload_n hX dX12_layHung_8 rfl 2 rfl ?_
  refine J_iconst (v := (1 : Int32)) hX dX12_layHung_9 (by decide) ?_
  obtain ⟨b3, h⟩ := h
  refine J_callV hX km_X12_of kl_RX12_91 dX12_layHung_10 ka_426 (by decide) [.int x1, .int (1 : Int32)] ⟨Nat.le_of_ble_eq_true rfl, Nat.le_of_ble_eq_true rfl⟩ rfl rfl (Nat.le_of_ble_eq_true rfl) (c_X12_of x1 (1 : Int32) m b3) (fun v w2 hk => ?_)
  obtain ⟨rfl, rfl⟩ := hk
  show J X (0, 0) 13 [(3, .int y2), (0, .ref (ad 426)), (1, .int x1), (2, .int x2)] [.int (v_X12_of x1 (1 : Int32) m)] (fl ad m)
  refine J_nmI (fun y4 e_y4 => ?_)
  replace h := h y4 e_y4
  refine J_istore (lv2 := [(4, .int y4), (3, .int y2), (0, .ref (ad 426)), (1, .int x1), (2, .int x2)]) hX dX12_layHung_13 (Nat.le_of_ble_eq_true rfl) rfl ?_
  refine J_iload hX dX12_layHung_15 0 rfl ?_
  refine J_iconst (v := (2 : Int32)) hX dX12_layHung_17 (by decide) ?_
  refine J_irem hX dX12_layHung_18 (by decide) ?_
  have hj72 : ∀ y6 : Int32, y6 = (if (rm32 y4 (2 : Int32)) = (0 : Int32) then (1 : Int32) else (0 : Int32)) → J X (0, 0) 27 [(0, .ref (ad 426)), (1, .int x1), (2, .int x2), (3, .int y2), (4, .int y4)] [.int y6] (fl ad m) := by
    intro y6 e_y6
    replace h := h y6 e_y6
    refine J_istore (lv2 := [(5, .int y6), (0, .ref (ad 426)), (1, .int x1), (2, .int x2), (3, .int y2), (4, .int y4)]) hX dX12_layHung_27 (Nat.le_of_ble_eq_true rfl) rfl ?_
    refine J_iconst (v := (0 : Int32)) hX dX12_layHung_29 (by decide) ?_
    refine J_istore (lv2 := [(6, .int (0 : Int32)), (5, .int y6), (0, .ref (ad 426)), (1, .int x1), (2, .int x2), (3, .int y2), (4, .int y4)]) hX dX12_layHung_30 (Nat.le_of_ble_eq_true rfl) rfl ?_
    refine J_sub [2, 3, 4, 5, 6, 1, 0] rfl (t_X12_layHung_l32 hX hR x1 x2 y2 y4 y6 FU (0 : Int32) m h)
  refine J_if_ne (tgt := 26) hX dX12_layHung_19 (by decide) (fun c5 => ?_) (fun c5 => ?_)
  · refine J_iconst (v := (0 : Int32)) hX dX12_layHung_26 (by decide) ?_
    exact J_sub [2, 3, 4, 1, 0] rfl (hj72 _ (if_neg c5).symm)
  · refine J_iconst (v := (1 : Int32)) hX dX12_layHung_22 (by decide) ?_
    refine J_goto (tgt := 27) hX dX12_layHung_23 (by decide) ?_
    exact J_sub [2, 3, 4, 1, 0] rfl (hj72 _ (if_pos c5).symm)
set_option maxRecDepth 100000 in
theorem tb_X12_fold_l51 {X : XT} {ad : Nat → Nat} {K : Mm → Prop} (hX : Cx X cX12_fold 5 RX12 (rmN 2 54)) (hR : Rx X none (kV ad K) (0, 0)) {rec : Int32 → Mm → Prop} {k6 : Int32 → Mm → Prop} (x1 : Int32) (x2 : Int32) (hrec : ∀ (x3 : Int32) (m : Mm), rec x3 m → J X (0, 0) 51 [(0, .ref (ad 426)), (1, .int x1), (2, .int x2), (3, .int x3)] [] (fl ad m)) (hk6 : ∀ (z2 : Int32) (m : Mm), k6 z2 m → J X (0, 0) 6 [(0, .ref (ad 426)), (1, .int x1), (2, .int z2)] [] (fl ad m)) (x3 : Int32) (m : Mm) (h : wb_X12_fold_l51 rec k6 K x1 x2 x3 m) : J X (0, 0) 51 [(0, .ref (ad 426)), (1, .int x1), (2, .int x2), (3, .int x3)] [] (fl ad m) := by
  unfold wb_X12_fold_l51 at h
  refine J_iload_n hX dX12_fold_51 rfl 3 rfl ?_
  refine J_iconst (v := (3 : Int32)) hX dX12_fold_52 (by decide) ?_
  refine J_icmp_ge (tgt := 189) hX dX12_fold_53 (by decide) (fun c9 => ?_) (fun c9 => ?_)
  · replace h := Eq.mp (if_pos c9) h
    refine J_iinc (x := (x2 + (1 : Int32))) (lv2 := [(2, .int (x2 + (1 : Int32))), (0, .ref (ad 426)), (1, .int x1), (3, .int x3)]) hX dX12_fold_189 2 rfl rfl (Nat.le_of_ble_eq_true rfl) rfl ?_
    refine J_goto (tgt := 6) hX dX12_fold_192 (by decide) ?_
    exact J_sub [1, 2, 0] rfl (hk6 (x2 + (1 : Int32)) m h)
  · replace h := Eq.mp (if_neg c9) h
    refine J_aload_n hX dX12_fold_56 rfl 0 rfl ?_
    refine J_getR hX kf_RX12_47 dX12_fold_57 ka_426 (by decide) rfl rh_426_17 ?_
    refine J_iconst (v := (3 : Int32)) hX dX12_fold_60 (by decide) ?_
    refine J_iload_n hX dX12_fold_61 rfl 2 rfl ?_
    refine J_imul hX dX12_fold_62 ?_
    refine J_iload_n hX dX12_fold_63 rfl 3 rfl ?_
    refine J_iadd hX dX12_fold_64 ?_
    obtain ⟨b10, h⟩ := h
    refine J_iald (j := (((3 : Int32) * x2) + x3).toNatClampNeg) hX dX12_fold_65 ka_439 le_439 b10 rfl ?_
    refine J_aload_n hX dX12_fold_66 rfl 0 rfl ?_
    refine J_getR hX kf_RX12_32 dX12_fold_67 ka_426 (by decide) rfl rh_426_9 ?_
    refine J_iload_n hX dX12_fold_70 rfl 2 rfl ?_
    obtain ⟨b11, h⟩ := h
    refine J_iald (j := x2.toNatClampNeg) hX dX12_fold_71 ka_434 le_434 b11 rfl ?_
    refine J_aload_n hX dX12_fold_72 rfl 0 rfl ?_
    refine J_getR hX kf_RX12_50 dX12_fold_73 ka_426 (by decide) rfl rh_426_18 ?_
    refine J_iconst (v := (3 : Int32)) hX dX12_fold_76 (by decide) ?_
    refine J_iload_n hX dX12_fold_77 rfl 2 rfl ?_
    refine J_imul hX dX12_fold_78 ?_
    refine J_iload_n hX dX12_fold_79 rfl 3 rfl ?_
    refine J_iadd hX dX12_fold_80 ?_
    refine J_iald (j := (((3 : Int32) * x2) + x3).toNatClampNeg) hX dX12_fold_81 ka_440 le_440 b10 rfl ?_
    refine J_imul hX dX12_fold_82 ?_
    refine J_iadd hX dX12_fold_83 ?_
    refine J_aload_n hX dX12_fold_84 rfl 0 rfl ?_
    refine J_getR hX kf_RX12_35 dX12_fold_85 ka_426 (by decide) rfl rh_426_10 ?_
    refine J_iload_n hX dX12_fold_88 rfl 2 rfl ?_
    refine J_iald (j := x2.toNatClampNeg) hX dX12_fold_89 ka_435 le_435 b11 rfl ?_
    refine J_aload_n hX dX12_fold_90 rfl 0 rfl ?_
    refine J_getR hX kf_RX12_53 dX12_fold_91 ka_426 (by decide) rfl rh_426_19 ?_
    refine J_iconst (v := (3 : Int32)) hX dX12_fold_94 (by decide) ?_
    refine J_iload_n hX dX12_fold_95 rfl 2 rfl ?_
    refine J_imul hX dX12_fold_96 ?_
    refine J_iload_n hX dX12_fold_97 rfl 3 rfl ?_
    refine J_iadd hX dX12_fold_98 ?_
    refine J_iald (j := (((3 : Int32) * x2) + x3).toNatClampNeg) hX dX12_fold_99 ka_441 le_441 b10 rfl ?_
    refine J_imul hX dX12_fold_100 ?_
    refine J_iadd hX dX12_fold_101 ?_
    refine J_nmI (fun y12 e_y12 => ?_)
    replace h := h y12 e_y12
    refine J_istore (lv2 := [(4, .int y12), (0, .ref (ad 426)), (1, .int x1), (2, .int x2), (3, .int x3)]) hX dX12_fold_102 (Nat.le_of_ble_eq_true rfl) rfl ?_
    refine J_aload_n hX dX12_fold_104 rfl 1 rfl ?_
    refine J_getR hX kf_RX12_59 dX12_fold_105 ka_426 (by decide) rfl rh_426_21 ?_
    refine J_iconst (v := (3 : Int32)) hX dX12_fold_108 (by decide) ?_
    refine J_iload_n hX dX12_fold_109 rfl 3 rfl ?_
    refine J_imul hX dX12_fold_110 ?_
    refine J_iload_n hX dX12_fold_111 rfl 4 rfl ?_
    refine J_iadd hX dX12_fold_112 ?_
    refine J_aload_n hX dX12_fold_113 rfl 1 rfl ?_
    refine J_getR hX kf_RX12_47 dX12_fold_114 ka_426 (by decide) rfl rh_426_17 ?_
    refine J_iconst (v := (3 : Int32)) hX dX12_fold_117 (by decide) ?_
    refine J_iload_n hX dX12_fold_118 rfl 3 rfl ?_
    refine J_imul hX dX12_fold_119 ?_
    refine J_iload_n hX dX12_fold_120 rfl 4 rfl ?_
    refine J_iadd hX dX12_fold_121 ?_
    refine J_iald (j := (((3 : Int32) * x2) + x3).toNatClampNeg) hX dX12_fold_122 ka_439 le_439 b10 rfl ?_
    refine J_iload hX dX12_fold_123 0 rfl ?_
    refine J_callS hX km_X12_least kl_RX12_110 dX12_fold_125 [.int (m.1 439 (((3 : Int32) * x2) + x3).toNatClampNeg), .int y12] ⟨Nat.le_of_ble_eq_true rfl, Nat.le_of_ble_eq_true rfl⟩ rfl rfl (Nat.le_of_ble_eq_true rfl) (c_X12_least (m.1 439 (((3 : Int32) * x2) + x3).toNatClampNeg) y12 m) (fun v w2 hk => ?_)
    obtain ⟨rfl, rfl⟩ := hk
    show J X (0, 0) 128 [(4, .int y12), (0, .ref (ad 426)), (1, .int x1), (2, .int x2), (3, .int x3)] [.int (v_X12_least (m.1 439 (((3 : Int32) * x2) + x3).toNatClampNeg) y12), .int (((3 : Int32) * x2) + x3), .ref (ad 443)] (fl ad m)
    refine J_iast (j := (((3 : Int32) * x2) + x3).toNatClampNeg) hX dX12_fold_128 ka_443 le_443 b10 rfl ?_
    refine J_nmM (fun m13 e_m13 => ?_)
    replace h := h m13 e_m13
    refine J_aload_n hX dX12_fold_129 rfl 1 rfl ?_
    refine J_getR hX kf_RX12_62 dX12_fold_130 ka_426 (by decide) rfl rh_426_22 ?_
    refine J_iconst (v := (3 : Int32)) hX dX12_fold_133 (by decide) ?_
    refine J_iload_n hX dX12_fold_134 rfl 3 rfl ?_
    refine J_imul hX dX12_fold_135 ?_
    refine J_iload_n hX dX12_fold_136 rfl 4 rfl ?_
    refine J_iadd hX dX12_fold_137 ?_
    refine J_aload_n hX dX12_fold_138 rfl 1 rfl ?_
    refine J_getR hX kf_RX12_47 dX12_fold_139 ka_426 (by decide) rfl rh_426_17 ?_
    refine J_iconst (v := (3 : Int32)) hX dX12_fold_142 (by decide) ?_
    refine J_iload_n hX dX12_fold_143 rfl 3 rfl ?_
    refine J_imul hX dX12_fold_144 ?_
    refine J_iload_n hX dX12_fold_145 rfl 4 rfl ?_
    refine J_iadd hX dX12_fold_146 ?_
    refine J_iald (j := (((3 : Int32) * x2) + x3).toNatClampNeg) hX dX12_fold_147 ka_439 le_439 b10 rfl ?_
    refine J_iload hX dX12_fold_148 0 rfl ?_
    refine J_callS hX km_X12_most kl_RX12_113 dX12_fold_150 [.int (m13.1 439 (((3 : Int32) * x2) + x3).toNatClampNeg), .int y12] ⟨Nat.le_of_ble_eq_true rfl, Nat.le_of_ble_eq_true rfl⟩ rfl rfl (Nat.le_of_ble_eq_true rfl) (c_X12_most (m13.1 439 (((3 : Int32) * x2) + x3).toNatClampNeg) y12 m13) (fun v w2 hk => ?_)
    obtain ⟨rfl, rfl⟩ := hk
    show J X (0, 0) 153 [(4, .int y12), (0, .ref (ad 426)), (1, .int x1), (2, .int x2), (3, .int x3)] [.int (v_X12_most (m13.1 439 (((3 : Int32) * x2) + x3).toNatClampNeg) y12), .int (((3 : Int32) * x2) + x3), .ref (ad 444)] (fl ad m13)
    refine J_iast (j := (((3 : Int32) * x2) + x3).toNatClampNeg) hX dX12_fold_153 ka_444 le_444 b10 rfl ?_
    refine J_nmM (fun m14 e_m14 => ?_)
    replace h := h m14 e_m14
    refine J_aload_n hX dX12_fold_154 rfl 1 rfl ?_
    refine J_getR hX kf_RX12_65 dX12_fold_155 ka_426 (by decide) rfl rh_426_23 ?_
    refine J_iload_n hX dX12_fold_158 rfl 3 rfl ?_
    refine J_aload_n hX dX12_fold_159 rfl 1 rfl ?_
    refine J_getR hX kf_RX12_56 dX12_fold_160 ka_426 (by decide) rfl rh_426_20 ?_
    refine J_iconst (v := (3 : Int32)) hX dX12_fold_163 (by decide) ?_
    refine J_iload_n hX dX12_fold_164 rfl 3 rfl ?_
    refine J_imul hX dX12_fold_165 ?_
    refine J_iload_n hX dX12_fold_166 rfl 4 rfl ?_
    refine J_iadd hX dX12_fold_167 ?_
    refine J_iald (j := (((3 : Int32) * x2) + x3).toNatClampNeg) hX dX12_fold_168 ka_442 le_442 b10 rfl ?_
    have hj18 : ∀ y16 : Int32, y16 = (if (m14.1 442 (((3 : Int32) * x2) + x3).toNatClampNeg) = (0 : Int32) then (m14.1 445 x2.toNatClampNeg) else x3) → J X (0, 0) 182 [(0, .ref (ad 426)), (1, .int x1), (2, .int x2), (3, .int x3)] [.int y16, .int x2, .ref (ad 445)] (fl ad m14) := by
      intro y16 e_y16
      replace h := h y16 e_y16
      refine J_iast (j := x2.toNatClampNeg) hX dX12_fold_182 ka_445 le_445 b11 rfl ?_
      refine J_nmM (fun m17 e_m17 => ?_)
      replace h := h m17 e_m17
      refine J_iinc (x := (x3 + (1 : Int32))) (lv2 := [(3, .int (x3 + (1 : Int32))), (0, .ref (ad 426)), (1, .int x1), (2, .int x2)]) hX dX12_fold_183 3 rfl rfl (Nat.le_of_ble_eq_true rfl) rfl ?_
      refine J_goto (tgt := 51) hX dX12_fold_186 (by decide) ?_
      exact J_sub [1, 2, 3, 0] rfl (hrec (x3 + (1 : Int32)) m17 h)
    refine J_if_eq (tgt := 176) hX dX12_fold_169 (by decide) (fun c15 => ?_) (fun c15 => ?_)
    · refine J_aload_n hX dX12_fold_176 rfl 1 rfl ?_
      refine J_getR hX kf_RX12_65 dX12_fold_177 ka_426 (by decide) rfl rh_426_23 ?_
      refine J_iload_n hX dX12_fold_180 rfl 3 rfl ?_
      refine J_iald (j := x2.toNatClampNeg) hX dX12_fold_181 ka_445 le_445 b11 rfl ?_
      exact J_sub [1, 2, 3, 4] rfl (hj18 _ (if_pos c15).symm)
    · refine J_iload_n hX dX12_fold_172 rfl 4 rfl ?_
      refine J_goto (tgt := 182) hX dX12_fold_173 (by decide) ?_
      exact J_sub [1, 2, 3, 4] rfl (hj18 _ (if_neg c15).symm)
set_option maxRecDepth 100000 in
theorem t_X12_fold_l51 {X : XT} {ad : Nat → Nat} {K : Mm → Prop} (hX : Cx X cX12_fold 5 RX12 (rmN 2 54)) (hR : Rx X none (kV ad K) (0, 0)) {k6 : Int32 → Mm → Prop} (x1 : Int32) (x2 : Int32) (hk6 : ∀ (z2 : Int32) (m : Mm), k6 z2 m → J X (0, 0) 6 [(0, .ref (ad 426)), (1, .int x1), (2, .int z2)] [] (fl ad m)) : ∀ (n : Nat) (x3 : Int32) (m : Mm), wp_X12_fold_l51 k6 K x1 x2 n x3 m → J X (0, 0) 51 [(0, .ref (ad 426)), (1, .int x1), (2, .int x2), (3, .int x3)] [] (fl ad m) := by
  intro n
  induction n with
  | zero => intro x3 m h; exact h.elim
  | succ n ih => intro x3 m h; exact tb_X12_fold_l51 hX hR x1 x2 ih hk6 x3 m h
set_option maxRecDepth 100000 in
theorem t_X12_fold_j49 {X : XT} {ad : Nat → Nat} {K : Mm → Prop} (hX : Cx X cX12_fold 5 RX12 (rmN 2 54)) (hR : Rx X none (kV ad K) (0, 0)) {k6 : Int32 → Mm → Prop} (x1 : Int32) (x2 : Int32) (hk6 : ∀ (z2 : Int32) (m : Mm), k6 z2 m → J X (0, 0) 6 [(0, .ref (ad 426)), (1, .int x1), (2, .int z2)] [] (fl ad m)) (m : Mm) (h : wp_X12_fold_j49 k6 K x1 x2 m) : J X (0, 0) 49 [(0, .ref (ad 426)), (1, .int x1), (2, .int x2)] [] (fl ad m) := by
  unfold wp_X12_fold_j49 at h
  refine J_iconst (v := (0 : Int32)) hX dX12_fold_49 (by decide) ?_
  refine J_istore_n (lv2 := [(3, .int (0 : Int32)), (0, .ref (ad 426)), (1, .int x1), (2, .int x2)]) hX dX12_fold_50 rfl (Nat.le_of_ble_eq_true rfl) rfl ?_
  refine J_sub [1, 2, 3, 0] rfl (t_X12_fold_l51 hX hR x1 x2 hk6 FU (0 : Int32) m h)
set_option maxRecDepth 100000 in
theorem tb_X12_fold_l6 {X : XT} {ad : Nat → Nat} {K : Mm → Prop} (hX : Cx X cX12_fold 5 RX12 (rmN 2 54)) (hR : Rx X none (kV ad K) (0, 0)) {rec : Int32 → Mm → Prop} (x1 : Int32) (hrec : ∀ (x2 : Int32) (m : Mm), rec x2 m → J X (0, 0) 6 [(0, .ref (ad 426)), (1, .int x1), (2, .int x2)] [] (fl ad m)) (x2 : Int32) (m : Mm) (h : wb_X12_fold_l6 rec K x1 x2 m) : J X (0, 0) 6 [(0, .ref (ad 426)), (1, .int x1), (2, .int x2)] [] (fl ad m) := by
  unfold wb_X12_fold_l6 at h
  refine J_iload_n hX dX12_fold_6 rfl 2 rfl ?_
  refine J_aload_n hX dX12_fold_7 rfl 0 rfl ?_
  refine J_callV hX km_X12_many kl_RX12_83 dX12_fold_8 ka_426 (by decide) [] ⟨Nat.le_of_ble_eq_true rfl, Nat.le_of_ble_eq_true rfl⟩ rfl rfl (Nat.le_of_ble_eq_true rfl) (c_X12_many m) (fun v w2 hk => ?_)
  obtain ⟨rfl, rfl⟩ := hk
  show J X (0, 0) 11 [(0, .ref (ad 426)), (1, .int x1), (2, .int x2)] [.int (v_X12_many m), .int x2] (fl ad m)
  refine J_icmp_ge (tgt := 195) hX dX12_fold_11 (by decide) (fun c2 => ?_) (fun c2 => ?_)
  · replace h := Eq.mp (if_pos c2) h
    exact J_vret hX hR dX12_fold_195 ⟨_, rfl, rfl, h⟩
  · replace h := Eq.mp (if_neg c2) h
    refine J_iload_n hX dX12_fold_14 rfl 2 rfl ?_
    refine J_if_ne (tgt := 25) hX dX12_fold_15 (by decide) (fun c3 => ?_) (fun c3 => ?_)
    · replace h := Eq.mp (if_neg c3) h
      refine J_aload_n hX dX12_fold_25 rfl 0 rfl ?_
      refine J_iload_n hX dX12_fold_26 rfl 2 rfl ?_
      refine J_iload_n hX dX12_fold_27 rfl 1 rfl ?_
      refine J_iload_n hX dX12_fold_28 rfl 2 rfl ?_
      refine J_ishr hX dX12_fold_29 ?_
      refine J_iconst (v := (1 : Int32)) hX dX12_fold_30 (by decide) ?_
      refine J_iand hX dX12_fold_31 ?_
      refine J_iconst (v := (1 : Int32)) hX dX12_fold_32 (by decide) ?_
      obtain ⟨g6, h⟩ := h
      have hj19 : ∀ y7 : Int32, y7 = (if ((x1 >>> (x2 &&& 31)) &&& (1 : Int32)) = (1 : Int32) then (v_X12_of x2 (5 : Int32) m) else (0 : Int32)) → J X (0, 0) 46 [(0, .ref (ad 426)), (1, .int x1), (2, .int x2)] [.int y7, .int x2, .ref (ad 426)] (fl ad m) := by
        intro y7 e_y7
        replace h := h y7 e_y7
        refine J_callV hX km_X12_layHung kl_RX12_212 dX12_fold_46 ka_426 (by decide) [.int x2, .int y7] ⟨Nat.le_of_ble_eq_true rfl, Nat.le_of_ble_eq_true rfl⟩ rfl rfl (Nat.le_of_ble_eq_true rfl) (c_X12_layHung x2 y7 m _ h) (fun v w2 hk => ?_)
        obtain ⟨m8, rfl, rfl, h⟩ := hk
        show J X (0, 0) 49 [(0, .ref (ad 426)), (1, .int x1), (2, .int x2)] [] (fl ad m8)
        exact J_sub [0, 1, 2] rfl (t_X12_fold_j49 hX hR x1 x2 hrec m8 h)
      have g20 := g6
      refine J_icmp_ne (tgt := 45) hX dX12_fold_33 (by decide) (fun c4 => ?_) (fun c4 => ?_)
      · refine J_iconst (v := (0 : Int32)) hX dX12_fold_45 (by decide) ?_
        exact J_sub [0, 1, 2] rfl (hj19 _ (if_neg c4).symm)
      · have g21 := g20 c4
        have b5 := g21
        refine J_aload_n hX dX12_fold_36 rfl 0 rfl ?_
        refine J_iload_n hX dX12_fold_37 rfl 2 rfl ?_
        refine J_iconst (v := (5 : Int32)) hX dX12_fold_38 (by decide) ?_
        refine J_callV hX km_X12_of kl_RX12_91 dX12_fold_39 ka_426 (by decide) [.int x2, .int (5 : Int32)] ⟨Nat.le_of_ble_eq_true rfl, Nat.le_of_ble_eq_true rfl⟩ rfl rfl (Nat.le_of_ble_eq_true rfl) (c_X12_of x2 (5 : Int32) m b5) (fun v w2 hk => ?_)
        obtain ⟨rfl, rfl⟩ := hk
        show J X (0, 0) 42 [(0, .ref (ad 426)), (1, .int x1), (2, .int x2)] [.int (v_X12_of x2 (5 : Int32) m), .int x2, .ref (ad 426)] (fl ad m)
        refine J_goto (tgt := 46) hX dX12_fold_42 (by decide) ?_
        exact J_sub [0, 1, 2] rfl (hj19 _ (if_pos c4).symm)
    · replace h := Eq.mp (if_pos c3) h
      refine J_aload_n hX dX12_fold_18 rfl 0 rfl ?_
      refine J_callV hX km_X12_layBase kl_RX12_209 dX12_fold_19 ka_426 (by decide) [] ⟨Nat.le_of_ble_eq_true rfl, Nat.le_of_ble_eq_true rfl⟩ rfl rfl (Nat.le_of_ble_eq_true rfl) (c_X12_layBase m _ h) (fun v w2 hk => ?_)
      obtain ⟨m22, rfl, rfl, h⟩ := hk
      show J X (0, 0) 22 [(0, .ref (ad 426)), (1, .int x1), (2, .int x2)] [] (fl ad m22)
      refine J_goto (tgt := 49) hX dX12_fold_22 (by decide) ?_
      exact J_sub [0, 1, 2] rfl (t_X12_fold_j49 hX hR x1 x2 hrec m22 h)
set_option maxRecDepth 100000 in
theorem t_X12_fold_l6 {X : XT} {ad : Nat → Nat} {K : Mm → Prop} (hX : Cx X cX12_fold 5 RX12 (rmN 2 54)) (hR : Rx X none (kV ad K) (0, 0)) (x1 : Int32) : ∀ (n : Nat) (x2 : Int32) (m : Mm), wp_X12_fold_l6 K x1 n x2 m → J X (0, 0) 6 [(0, .ref (ad 426)), (1, .int x1), (2, .int x2)] [] (fl ad m) := by
  intro n
  induction n with
  | zero => intro x2 m h; exact h.elim
  | succ n ih => intro x2 m h; exact tb_X12_fold_l6 hX hR x1 ih x2 m h
set_option maxRecDepth 100000 in
theorem c_X12_fold {G : GT} {ad : Nat → Nat} (x1 : Int32) (m : Mm) (K : Mm → Prop) (h : wp_X12_fold x1 m K) : Cn G yX12_fold cX12_fold 5 none (rmN 2 54) [.ref (ad 426), .int x1] (0, 0) (fl ad m) (kV ad K) := by
  unfold wp_X12_fold at h
  refine Cn.of pn_RX12 (Nat.le_of_ble_eq_true rfl) (fun X hG hX hR => ?_)
  subst hG
  have hX : Cx X cX12_fold 5 RX12 (rmN 2 54) := hX
  show J X (0, 0) 0 [(0, .ref (ad 426)), (1, .int x1)] [] (fl ad m)
  refine J_aload_n hX dX12_fold_0 rfl 0 rfl ?_
  refine J_callV hX km_X12_layFlat kl_RX12_120 dX12_fold_1 ka_426 (by decide) [] ⟨Nat.le_of_ble_eq_true rfl, Nat.le_of_ble_eq_true rfl⟩ rfl rfl (Nat.le_of_ble_eq_true rfl) (c_X12_layFlat m _ h) (fun v w2 hk => ?_)
  obtain ⟨m1, rfl, rfl, h⟩ := hk
  show J X (0, 0) 4 [(0, .ref (ad 426)), (1, .int x1)] [] (fl ad m1)
  refine J_iconst (v := (0 : Int32)) hX dX12_fold_4 (by decide) ?_
  refine J_istore_n (lv2 := [(2, .int (0 : Int32)), (0, .ref (ad 426)), (1, .int x1)]) hX dX12_fold_5 rfl (Nat.le_of_ble_eq_true rfl) rfl ?_
  refine J_sub [1, 2, 0] rfl (t_X12_fold_l6 hX hR x1 FU (0 : Int32) m1 h)
