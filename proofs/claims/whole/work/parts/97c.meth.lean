set_option maxRecDepth 100000 in
theorem t_X4_collectPrint_j66 {X : XT} {ad : Nat → Nat} {K : Mm → Prop} (hX : Cx X cX4_collectPrint 7 RX4 (rmN 3 88)) (hR : Rx X none (kV ad K) (0, 0)) {k9 : Int32 → Mm → Prop} (a1 : Nat) (h1 : kap a1 = 3) (x2 : Int32) (a3 : Nat) (h3 : kap a3 = 7) (x4 : Int32) (x5 : Int32) (hk9 : ∀ (z4 : Int32) (m : Mm), k9 z4 m → J X (0, 0) 9 [(0, .ref (ad 264)), (1, .ref (ad a1)), (2, .int x2), (3, .ref (ad a3)), (4, .int z4)] [] (fl ad m)) (m : Mm) (h : wp_X4_collectPrint_j66 k9 K a1 x2 a3 x4 x5 m) : J X (0, 0) 66 [(0, .ref (ad 264)), (1, .ref (ad a1)), (2, .int x2), (3, .ref (ad a3)), (4, .int x4), (5, .int x5)] [] (fl ad m) := by
  unfold wp_X4_collectPrint_j66 at h
  refine J_iload hX dX4_collectPrint_66 5 rfl ?_
  refine J_aload_n hX dX4_collectPrint_68 rfl 0 rfl ?_
  refine J_iconst (v := (1 : Int32)) hX dX4_collectPrint_69 (by decide) ?_
  refine J_callV hX km_X4_limit kl_RX4_55 dX4_collectPrint_70 ka_264 (by decide) [.int (1 : Int32)] ⟨Nat.le_of_ble_eq_true rfl, Nat.le_of_ble_eq_true rfl⟩ rfl rfl (Nat.le_of_ble_eq_true rfl) (c_X4_limit (1 : Int32) m) (fun v w2 hk => ?_)
  obtain ⟨rfl, rfl⟩ := hk
  show J X (0, 0) 73 [(0, .ref (ad 264)), (1, .ref (ad a1)), (2, .int x2), (3, .ref (ad a3)), (4, .int x4), (5, .int x5)] [.int (v_X4_limit (1 : Int32) m), .int x5] (fl ad m)
  refine J_mmin hX kl_RX4_139 dX4_collectPrint_73 (Nat.le_of_ble_eq_true rfl) (Nat.le_of_ble_eq_true rfl) ⟨Nat.le_of_ble_eq_true rfl, Nat.le_of_ble_eq_true rfl⟩ ?_
  refine J_nmI (fun y4 e_y4 => ?_)
  replace h := h y4 e_y4
  refine J_istore (lv2 := [(6, .int y4), (0, .ref (ad 264)), (1, .ref (ad a1)), (2, .int x2), (3, .ref (ad a3)), (4, .int x4), (5, .int x5)]) hX dX4_collectPrint_76 (Nat.le_of_ble_eq_true rfl) rfl ?_
  refine J_iload hX dX4_collectPrint_78 0 rfl ?_
  refine J_if_le (tgt := 112) hX dX4_collectPrint_80 (by decide) (fun c5 => ?_) (fun c5 => ?_)
  · replace h := Eq.mp (if_pos c5) h
    refine J_iinc (x := (x4 + (1 : Int32))) (lv2 := [(4, .int (x4 + (1 : Int32))), (6, .int y4), (0, .ref (ad 264)), (1, .ref (ad a1)), (2, .int x2), (3, .ref (ad a3)), (5, .int x5)]) hX dX4_collectPrint_112 5 rfl rfl (Nat.le_of_ble_eq_true rfl) rfl ?_
    refine J_goto (tgt := 9) hX dX4_collectPrint_115 (by decide) ?_
    exact J_sub [2, 3, 4, 5, 0] rfl (hk9 (x4 + (1 : Int32)) m h)
  · replace h := Eq.mp (if_neg c5) h
    refine J_aload_n hX dX4_collectPrint_83 rfl 1 rfl ?_
    refine J_iconst (v := (5 : Int32)) hX dX4_collectPrint_84 (by decide) ?_
    refine J_iload_n hX dX4_collectPrint_85 rfl 3 rfl ?_
    refine J_iload hX dX4_collectPrint_86 5 rfl ?_
    refine J_bipush (v := (-9 : Int32)) hX dX4_collectPrint_88 (by decide) ?_
    refine J_aload_n hX dX4_collectPrint_90 rfl 2 rfl ?_
    refine J_aload_n hX dX4_collectPrint_91 rfl 4 rfl ?_
    refine J_iload hX dX4_collectPrint_92 5 rfl ?_
    refine J_iload hX dX4_collectPrint_94 0 rfl ?_
    refine J_callS hX km_X4_beyondSheet kl_RX4_167 dX4_collectPrint_96 [.ref (ad a1), .ref (ad a3), .int x4, .int y4] ⟨Nat.le_of_ble_eq_true rfl, Nat.le_of_ble_eq_true rfl⟩ rfl rfl (Nat.le_of_ble_eq_true rfl) (c_X4_beyondSheet a1 h1 a3 h3 x4 y4 m) (fun v w2 hk => ?_)
    obtain ⟨rfl, rfl⟩ := hk
    show J X (0, 0) 99 [(6, .int y4), (0, .ref (ad 264)), (1, .ref (ad a1)), (2, .int x2), (3, .ref (ad a3)), (4, .int x4), (5, .int x5)] [.int (v_X4_beyondSheet a1 a3 x4 y4 m), .int (-9 : Int32), .int x4, .int x2, .int (5 : Int32), .ref (ad 264)] (fl ad m)
    refine J_callV hX km_X4_add kl_RX4_107 dX4_collectPrint_99 ka_264 (by decide) [.int (5 : Int32), .int x2, .int x4, .int (-9 : Int32), .int (v_X4_beyondSheet a1 a3 x4 y4 m)] ⟨Nat.le_of_ble_eq_true rfl, Nat.le_of_ble_eq_true rfl⟩ rfl rfl (Nat.le_of_ble_eq_true rfl) (c_X4_add (5 : Int32) x2 x4 (-9 : Int32) (v_X4_beyondSheet a1 a3 x4 y4 m) m _ h) (fun v w2 hk => ?_)
    obtain ⟨m6, rfl, rfl, h⟩ := hk
    show J X (0, 0) 102 [(6, .int y4), (0, .ref (ad 264)), (1, .ref (ad a1)), (2, .int x2), (3, .ref (ad a3)), (4, .int x4), (5, .int x5)] [] (fl ad m6)
    refine J_aload_n hX dX4_collectPrint_102 rfl 1 rfl ?_
    refine J_aload_n hX dX4_collectPrint_103 rfl 2 rfl ?_
    refine J_iload_n hX dX4_collectPrint_104 rfl 3 rfl ?_
    refine J_iload hX dX4_collectPrint_105 5 rfl ?_
    refine J_iload hX dX4_collectPrint_107 0 rfl ?_
    refine J_callV hX km_X4_collectIntrusions kl_RX4_171 dX4_collectPrint_109 ka_264 (by decide) [.ref (ad a1), .int x2, .int x4, .int y4] ⟨Nat.le_of_ble_eq_true rfl, Nat.le_of_ble_eq_true rfl⟩ rfl rfl (Nat.le_of_ble_eq_true rfl) (c_X4_collectIntrusions a1 h1 x2 x4 y4 m6 _ h) (fun v w2 hk => ?_)
    obtain ⟨m7, rfl, rfl, h⟩ := hk
    show J X (0, 0) 112 [(6, .int y4), (0, .ref (ad 264)), (1, .ref (ad a1)), (2, .int x2), (3, .ref (ad a3)), (4, .int x4), (5, .int x5)] [] (fl ad m7)
    refine J_iinc (x := (x4 + (1 : Int32))) (lv2 := [(4, .int (x4 + (1 : Int32))), (6, .int y4), (0, .ref (ad 264)), (1, .ref (ad a1)), (2, .int x2), (3, .ref (ad a3)), (5, .int x5)]) hX dX4_collectPrint_112 5 rfl rfl (Nat.le_of_ble_eq_true rfl) rfl ?_
    refine J_goto (tgt := 9) hX dX4_collectPrint_115 (by decide) ?_
    exact J_sub [2, 3, 4, 5, 0] rfl (hk9 (x4 + (1 : Int32)) m7 h)
set_option maxRecDepth 100000 in
theorem tb_X4_collectPrint_l9 {X : XT} {ad : Nat → Nat} {K : Mm → Prop} (hX : Cx X cX4_collectPrint 7 RX4 (rmN 3 88)) (hR : Rx X none (kV ad K) (0, 0)) {rec : Int32 → Mm → Prop} (a1 : Nat) (h1 : kap a1 = 3) (x2 : Int32) (a3 : Nat) (h3 : kap a3 = 7) (hrec : ∀ (x4 : Int32) (m : Mm), rec x4 m → J X (0, 0) 9 [(0, .ref (ad 264)), (1, .ref (ad a1)), (2, .int x2), (3, .ref (ad a3)), (4, .int x4)] [] (fl ad m)) (x4 : Int32) (m : Mm) (h : wb_X4_collectPrint_l9 rec K a1 x2 a3 x4 m) : J X (0, 0) 9 [(0, .ref (ad 264)), (1, .ref (ad a1)), (2, .int x2), (3, .ref (ad a3)), (4, .int x4)] [] (fl ad m) := by
  unfold wb_X4_collectPrint_l9 at h
  refine J_iload hX dX4_collectPrint_9 4 rfl ?_
  refine J_iconst (v := (4 : Int32)) hX dX4_collectPrint_11 (by decide) ?_
  refine J_icmp_ge (tgt := 118) hX dX4_collectPrint_12 (by decide) (fun c1 => ?_) (fun c1 => ?_)
  · replace h := Eq.mp (if_pos c1) h
    exact J_vret hX hR dX4_collectPrint_118 ⟨_, rfl, rfl, h⟩
  · replace h := Eq.mp (if_neg c1) h
    refine J_aload_n hX dX4_collectPrint_15 rfl 1 rfl ?_
    refine J_aload_n hX dX4_collectPrint_16 rfl 3 rfl ?_
    refine J_iload hX dX4_collectPrint_17 4 rfl ?_
    refine J_callS hX km_X0_reachAt kl_RX4_159 dX4_collectPrint_19 [.ref (ad a1), .ref (ad a3), .int x4] ⟨Nat.le_of_ble_eq_true rfl, Nat.le_of_ble_eq_true rfl⟩ rfl rfl (Nat.le_of_ble_eq_true rfl) (c_X0_reachAt a1 h1 a3 h3 x4 m) (fun v w2 hk => ?_)
    obtain ⟨rfl, rfl⟩ := hk
    show J X (0, 0) 22 [(0, .ref (ad 264)), (1, .ref (ad a1)), (2, .int x2), (3, .ref (ad a3)), (4, .int x4)] [.int (v_X0_reachAt a1 a3 x4 m)] (fl ad m)
    refine J_nmI (fun y2 e_y2 => ?_)
    replace h := h y2 e_y2
    refine J_istore (lv2 := [(5, .int y2), (0, .ref (ad 264)), (1, .ref (ad a1)), (2, .int x2), (3, .ref (ad a3)), (4, .int x4)]) hX dX4_collectPrint_22 (Nat.le_of_ble_eq_true rfl) rfl ?_
    refine J_iload hX dX4_collectPrint_24 0 rfl ?_
    refine J_bipush (v := (-9 : Int32)) hX dX4_collectPrint_26 (by decide) ?_
    refine J_icmp_eq (tgt := 66) hX dX4_collectPrint_28 (by decide) (fun c3 => ?_) (fun c3 => ?_)
    · replace h := Eq.mp (if_pos c3) h
      exact J_sub [1, 2, 3, 4, 5, 0] rfl (t_X4_collectPrint_j66 hX hR a1 h1 x2 a3 h3 x4 y2 hrec m h)
    · replace h := Eq.mp (if_neg c3) h
      refine J_aload_n hX dX4_collectPrint_31 rfl 4 rfl ?_
      refine J_callV hX km_X7_isFlap kl_RX4_76 dX4_collectPrint_32 h3 (by decide) [] ⟨Nat.le_of_ble_eq_true rfl, Nat.le_of_ble_eq_true rfl⟩ rfl rfl (Nat.le_of_ble_eq_true rfl) (c_X7_isFlap a3 h3 m) (fun v w2 hk => ?_)
      obtain ⟨rfl, rfl⟩ := hk
      show J X (0, 0) 35 [(5, .int y2), (0, .ref (ad 264)), (1, .ref (ad a1)), (2, .int x2), (3, .ref (ad a3)), (4, .int x4)] [.int (v_X7_isFlap a3 m)] (fl ad m)
      refine J_if_ne (tgt := 66) hX dX4_collectPrint_35 (by decide) (fun c8 => ?_) (fun c8 => ?_)
      · replace h := Eq.mp (if_neg c8) h
        exact J_sub [1, 2, 3, 4, 5, 0] rfl (t_X4_collectPrint_j66 hX hR a1 h1 x2 a3 h3 x4 y2 hrec m h)
      · replace h := Eq.mp (if_pos c8) h
        refine J_aload_n hX dX4_collectPrint_38 rfl 2 rfl ?_
        refine J_iload_n hX dX4_collectPrint_39 rfl 3 rfl ?_
        refine J_iload hX dX4_collectPrint_40 5 rfl ?_
        refine J_callV hX km_X3_isAllFolds kl_RX4_163 dX4_collectPrint_42 h1 (by decide) [.int x2, .int x4] ⟨Nat.le_of_ble_eq_true rfl, Nat.le_of_ble_eq_true rfl⟩ rfl rfl (Nat.le_of_ble_eq_true rfl) (c_X3_isAllFolds a1 h1 x2 x4 m _ h) (fun v w2 hk => ?_)
        obtain ⟨y10, m9, rfl, rfl, h⟩ := hk
        show J X (0, 0) 45 [(5, .int y2), (0, .ref (ad 264)), (1, .ref (ad a1)), (2, .int x2), (3, .ref (ad a3)), (4, .int x4)] [.int y10] (fl ad m9)
        refine J_if_ne (tgt := 66) hX dX4_collectPrint_45 (by decide) (fun c11 => ?_) (fun c11 => ?_)
        · replace h := Eq.mp (if_neg c11) h
          exact J_sub [1, 2, 3, 4, 5, 0] rfl (t_X4_collectPrint_j66 hX hR a1 h1 x2 a3 h3 x4 y2 hrec m9 h)
        · replace h := Eq.mp (if_pos c11) h
          refine J_aload_n hX dX4_collectPrint_48 rfl 1 rfl ?_
          refine J_iconst (v := (4 : Int32)) hX dX4_collectPrint_49 (by decide) ?_
          refine J_iload_n hX dX4_collectPrint_50 rfl 3 rfl ?_
          refine J_iload hX dX4_collectPrint_51 5 rfl ?_
          refine J_bipush (v := (-9 : Int32)) hX dX4_collectPrint_53 (by decide) ?_
          refine J_aload_n hX dX4_collectPrint_55 rfl 1 rfl ?_
          refine J_iconst (v := (1 : Int32)) hX dX4_collectPrint_56 (by decide) ?_
          refine J_callV hX km_X4_limit kl_RX4_55 dX4_collectPrint_57 ka_264 (by decide) [.int (1 : Int32)] ⟨Nat.le_of_ble_eq_true rfl, Nat.le_of_ble_eq_true rfl⟩ rfl rfl (Nat.le_of_ble_eq_true rfl) (c_X4_limit (1 : Int32) m9) (fun v w2 hk => ?_)
          obtain ⟨rfl, rfl⟩ := hk
          show J X (0, 0) 60 [(5, .int y2), (0, .ref (ad 264)), (1, .ref (ad a1)), (2, .int x2), (3, .ref (ad a3)), (4, .int x4)] [.int (v_X4_limit (1 : Int32) m9), .int (-9 : Int32), .int x4, .int x2, .int (4 : Int32), .ref (ad 264)] (fl ad m9)
          refine J_iload hX dX4_collectPrint_60 0 rfl ?_
          refine J_isub hX dX4_collectPrint_62 ?_
          refine J_callV hX km_X4_add kl_RX4_107 dX4_collectPrint_63 ka_264 (by decide) [.int (4 : Int32), .int x2, .int x4, .int (-9 : Int32), .int ((v_X4_limit (1 : Int32) m9) - y2)] ⟨Nat.le_of_ble_eq_true rfl, Nat.le_of_ble_eq_true rfl⟩ rfl rfl (Nat.le_of_ble_eq_true rfl) (c_X4_add (4 : Int32) x2 x4 (-9 : Int32) ((v_X4_limit (1 : Int32) m9) - y2) m9 _ h) (fun v w2 hk => ?_)
          obtain ⟨m12, rfl, rfl, h⟩ := hk
          show J X (0, 0) 66 [(5, .int y2), (0, .ref (ad 264)), (1, .ref (ad a1)), (2, .int x2), (3, .ref (ad a3)), (4, .int x4)] [] (fl ad m12)
          exact J_sub [1, 2, 3, 4, 5, 0] rfl (t_X4_collectPrint_j66 hX hR a1 h1 x2 a3 h3 x4 y2 hrec m12 h)
set_option maxRecDepth 100000 in
theorem t_X4_collectPrint_l9 {X : XT} {ad : Nat → Nat} {K : Mm → Prop} (hX : Cx X cX4_collectPrint 7 RX4 (rmN 3 88)) (hR : Rx X none (kV ad K) (0, 0)) (a1 : Nat) (h1 : kap a1 = 3) (x2 : Int32) (a3 : Nat) (h3 : kap a3 = 7) : ∀ (n : Nat) (x4 : Int32) (m : Mm), wp_X4_collectPrint_l9 K a1 x2 a3 n x4 m → J X (0, 0) 9 [(0, .ref (ad 264)), (1, .ref (ad a1)), (2, .int x2), (3, .ref (ad a3)), (4, .int x4)] [] (fl ad m) := by
  intro n
  induction n with
  | zero => intro x4 m h; exact h.elim
  | succ n ih => intro x4 m h; exact tb_X4_collectPrint_l9 hX hR a1 h1 x2 a3 h3 ih x4 m h
set_option maxRecDepth 100000 in
theorem c_X4_collectPrint {G : GT} {ad : Nat → Nat} (a1 : Nat) (h1 : kap a1 = 3) (x2 : Int32) (m : Mm) (K : Mm → Prop) (h : wp_X4_collectPrint a1 x2 m K) : Cn G yX4_collectPrint cX4_collectPrint 7 none (rmN 3 88) [.ref (ad 264), .ref (ad a1), .int x2] (0, 0) (fl ad m) (kV ad K) := by
  unfold wp_X4_collectPrint at h
  refine Cn.of pn_RX4 (Nat.le_of_ble_eq_true rfl) (fun X hG hX hR => ?_)
  subst hG
  have hX : Cx X cX4_collectPrint 7 RX4 (rmN 3 88) := hX
  show J X (0, 0) 0 [(0, .ref (ad 264)), (1, .ref (ad a1)), (2, .int x2)] [] (fl ad m)
  refine J_aload_n hX dX4_collectPrint_0 rfl 1 rfl ?_
  refine J_iload_n hX dX4_collectPrint_1 rfl 2 rfl ?_
  refine J_callV hX km_X3_panelAt kl_RX4_72 dX4_collectPrint_2 h1 (by decide) [.int x2] ⟨Nat.le_of_ble_eq_true rfl, Nat.le_of_ble_eq_true rfl⟩ rfl rfl (Nat.le_of_ble_eq_true rfl) (c_X3_panelAt a1 h1 x2 m) (fun v w2 hk => ?_)
  obtain ⟨rfl, rfl⟩ := hk
  show J X (0, 0) 5 [(0, .ref (ad 264)), (1, .ref (ad a1)), (2, .int x2)] [.ref (ad (v_X3_panelAt a1 x2))] (fl ad m)
  refine J_astore_n (lv2 := [(3, .ref (ad (v_X3_panelAt a1 x2))), (0, .ref (ad 264)), (1, .ref (ad a1)), (2, .int x2)]) hX dX4_collectPrint_5 rfl (Nat.le_of_ble_eq_true rfl) rfl ?_
  refine J_iconst (v := (0 : Int32)) hX dX4_collectPrint_6 (by decide) ?_
  refine J_istore (lv2 := [(4, .int (0 : Int32)), (3, .ref (ad (v_X3_panelAt a1 x2))), (0, .ref (ad 264)), (1, .ref (ad a1)), (2, .int x2)]) hX dX4_collectPrint_7 (Nat.le_of_ble_eq_true rfl) rfl ?_
  refine J_sub [2, 3, 4, 1, 0] rfl (t_X4_collectPrint_l9 hX hR a1 h1 x2 (v_X3_panelAt a1 x2) (kv_X3_panelAt h1) FU (0 : Int32) m h)
set_option maxRecDepth 100000 in
theorem tb_X4_collectBreaks_l12 {X : XT} {ad : Nat → Nat} {K : Mm → Prop} (hX : Cx X cX4_collectBreaks 4 RX4 (rmN 4 98)) (hR : Rx X none (kV ad K) (0, 0)) {rec : Int32 → Mm → Prop} (a1 : Nat) (h1 : kap a1 = 3) (hrec : ∀ (x2 : Int32) (m : Mm), rec x2 m → J X (0, 0) 12 [(0, .ref (ad 264)), (1, .ref (ad a1)), (2, .int x2)] [] (fl ad m)) (x2 : Int32) (m : Mm) (h : wb_X4_collectBreaks_l12 rec K a1 x2 m) : J X (0, 0) 12 [(0, .ref (ad 264)), (1, .ref (ad a1)), (2, .int x2)] [] (fl ad m) := by
  unfold wb_X4_collectBreaks_l12 at h
  refine J_iload_n hX dX4_collectBreaks_12 rfl 2 rfl ?_
  refine J_aload_n hX dX4_collectBreaks_13 rfl 0 rfl ?_
  refine J_getR hX kf_RX4_37 dX4_collectBreaks_14 ka_264 (by decide) rfl rh_264_5 ?_
  refine J_getI hX kf_RX4_203 dX4_collectBreaks_17 ka_268 (by decide) rfl ?_
  refine J_icmp_ge (tgt := 79) hX dX4_collectBreaks_20 (by decide) (fun c2 => ?_) (fun c2 => ?_)
  · replace h := Eq.mp (if_pos c2) h
    exact J_vret hX hR dX4_collectBreaks_79 ⟨_, rfl, rfl, h⟩
  · replace h := Eq.mp (if_neg c2) h
    refine J_aload_n hX dX4_collectBreaks_23 rfl 0 rfl ?_
    refine J_getR hX kf_RX4_29 dX4_collectBreaks_24 ka_264 (by decide) rfl rh_264_4 ?_
    refine J_aload_n hX dX4_collectBreaks_27 rfl 1 rfl ?_
    refine J_iload_n hX dX4_collectBreaks_28 rfl 2 rfl ?_
    refine J_callV hX km_X0_mismatch kl_RX4_204 dX4_collectBreaks_29 ka_267 (by decide) [.ref (ad a1), .int x2] ⟨Nat.le_of_ble_eq_true rfl, Nat.le_of_ble_eq_true rfl⟩ rfl rfl (Nat.le_of_ble_eq_true rfl) (c_X0_mismatch a1 h1 x2 m _ h) (fun v w2 hk => ?_)
    obtain ⟨y4, m3, rfl, rfl, h⟩ := hk
    show J X (0, 0) 32 [(0, .ref (ad 264)), (1, .ref (ad a1)), (2, .int x2)] [.int y4] (fl ad m3)
    refine J_istore_n (lv2 := [(3, .int y4), (0, .ref (ad 264)), (1, .ref (ad a1)), (2, .int x2)]) hX dX4_collectBreaks_32 rfl (Nat.le_of_ble_eq_true rfl) rfl ?_
    refine J_iload_n hX dX4_collectBreaks_33 rfl 0 rfl ?_
    refine J_aload_n hX dX4_collectBreaks_34 rfl 1 rfl ?_
    refine J_iconst (v := (0 : Int32)) hX dX4_collectBreaks_35 (by decide) ?_
    refine J_callV hX km_X4_limit kl_RX4_55 dX4_collectBreaks_36 ka_264 (by decide) [.int (0 : Int32)] ⟨Nat.le_of_ble_eq_true rfl, Nat.le_of_ble_eq_true rfl⟩ rfl rfl (Nat.le_of_ble_eq_true rfl) (c_X4_limit (0 : Int32) m3) (fun v w2 hk => ?_)
    obtain ⟨rfl, rfl⟩ := hk
    show J X (0, 0) 39 [(3, .int y4), (0, .ref (ad 264)), (1, .ref (ad a1)), (2, .int x2)] [.int (v_X4_limit (0 : Int32) m3), .int y4] (fl ad m3)
    refine J_icmp_le (tgt := 73) hX dX4_collectBreaks_39 (by decide) (fun c5 => ?_) (fun c5 => ?_)
    · replace h := Eq.mp (if_pos c5) h
      refine J_iinc (x := (x2 + (1 : Int32))) (lv2 := [(2, .int (x2 + (1 : Int32))), (3, .int y4), (0, .ref (ad 264)), (1, .ref (ad a1))]) hX dX4_collectBreaks_73 3 rfl rfl (Nat.le_of_ble_eq_true rfl) rfl ?_
      refine J_goto (tgt := 12) hX dX4_collectBreaks_76 (by decide) ?_
      exact J_sub [2, 3, 0] rfl (hrec (x2 + (1 : Int32)) m3 h)
    · replace h := Eq.mp (if_neg c5) h
      refine J_aload_n hX dX4_collectBreaks_42 rfl 1 rfl ?_
      refine J_bipush (v := (7 : Int32)) hX dX4_collectBreaks_43 (by decide) ?_
      refine J_aload_n hX dX4_collectBreaks_45 rfl 1 rfl ?_
      refine J_getR hX kf_RX4_37 dX4_collectBreaks_46 ka_264 (by decide) rfl rh_264_5 ?_
      refine J_iload_n hX dX4_collectBreaks_49 rfl 3 rfl ?_
      obtain ⟨b6, h⟩ := h
      refine J_callV hX km_X10_panelP kl_RX4_208 dX4_collectBreaks_50 ka_268 (by decide) [.int x2] ⟨Nat.le_of_ble_eq_true rfl, Nat.le_of_ble_eq_true rfl⟩ rfl rfl (Nat.le_of_ble_eq_true rfl) (c_X10_panelP x2 m3 b6) (fun v w2 hk => ?_)
      obtain ⟨rfl, rfl⟩ := hk
      show J X (0, 0) 53 [(3, .int y4), (0, .ref (ad 264)), (1, .ref (ad a1)), (2, .int x2)] [.int (v_X10_panelP x2 m3), .int (7 : Int32), .ref (ad 264)] (fl ad m3)
      refine J_aload_n hX dX4_collectBreaks_53 rfl 1 rfl ?_
      refine J_getR hX kf_RX4_37 dX4_collectBreaks_54 ka_264 (by decide) rfl rh_264_5 ?_
      refine J_iload_n hX dX4_collectBreaks_57 rfl 3 rfl ?_
      obtain ⟨b7, h⟩ := h
      refine J_callV hX km_X10_sideOfP kl_RX4_211 dX4_collectBreaks_58 ka_268 (by decide) [.int x2] ⟨Nat.le_of_ble_eq_true rfl, Nat.le_of_ble_eq_true rfl⟩ rfl rfl (Nat.le_of_ble_eq_true rfl) (c_X10_sideOfP x2 m3 b7) (fun v w2 hk => ?_)
      obtain ⟨rfl, rfl⟩ := hk
      show J X (0, 0) 61 [(3, .int y4), (0, .ref (ad 264)), (1, .ref (ad a1)), (2, .int x2)] [.int (v_X10_sideOfP x2 m3), .int (v_X10_panelP x2 m3), .int (7 : Int32), .ref (ad 264)] (fl ad m3)
      refine J_aload_n hX dX4_collectBreaks_61 rfl 1 rfl ?_
      refine J_getR hX kf_RX4_37 dX4_collectBreaks_62 ka_264 (by decide) rfl rh_264_5 ?_
      refine J_iload_n hX dX4_collectBreaks_65 rfl 3 rfl ?_
      obtain ⟨b8, h⟩ := h
      refine J_callV hX km_X10_panelQ kl_RX4_214 dX4_collectBreaks_66 ka_268 (by decide) [.int x2] ⟨Nat.le_of_ble_eq_true rfl, Nat.le_of_ble_eq_true rfl⟩ rfl rfl (Nat.le_of_ble_eq_true rfl) (c_X10_panelQ x2 m3 b8) (fun v w2 hk => ?_)
      obtain ⟨rfl, rfl⟩ := hk
      show J X (0, 0) 69 [(3, .int y4), (0, .ref (ad 264)), (1, .ref (ad a1)), (2, .int x2)] [.int (v_X10_panelQ x2 m3), .int (v_X10_sideOfP x2 m3), .int (v_X10_panelP x2 m3), .int (7 : Int32), .ref (ad 264)] (fl ad m3)
      refine J_iload_n hX dX4_collectBreaks_69 rfl 0 rfl ?_
      refine J_callV hX km_X4_add kl_RX4_107 dX4_collectBreaks_70 ka_264 (by decide) [.int (7 : Int32), .int (v_X10_panelP x2 m3), .int (v_X10_sideOfP x2 m3), .int (v_X10_panelQ x2 m3), .int y4] ⟨Nat.le_of_ble_eq_true rfl, Nat.le_of_ble_eq_true rfl⟩ rfl rfl (Nat.le_of_ble_eq_true rfl) (c_X4_add (7 : Int32) (v_X10_panelP x2 m3) (v_X10_sideOfP x2 m3) (v_X10_panelQ x2 m3) y4 m3 _ h) (fun v w2 hk => ?_)
      obtain ⟨m9, rfl, rfl, h⟩ := hk
      show J X (0, 0) 73 [(3, .int y4), (0, .ref (ad 264)), (1, .ref (ad a1)), (2, .int x2)] [] (fl ad m9)
      refine J_iinc (x := (x2 + (1 : Int32))) (lv2 := [(2, .int (x2 + (1 : Int32))), (3, .int y4), (0, .ref (ad 264)), (1, .ref (ad a1))]) hX dX4_collectBreaks_73 3 rfl rfl (Nat.le_of_ble_eq_true rfl) rfl ?_
      refine J_goto (tgt := 12) hX dX4_collectBreaks_76 (by decide) ?_
      exact J_sub [2, 3, 0] rfl (hrec (x2 + (1 : Int32)) m9 h)
set_option maxRecDepth 100000 in
theorem t_X4_collectBreaks_l12 {X : XT} {ad : Nat → Nat} {K : Mm → Prop} (hX : Cx X cX4_collectBreaks 4 RX4 (rmN 4 98)) (hR : Rx X none (kV ad K) (0, 0)) (a1 : Nat) (h1 : kap a1 = 3) : ∀ (n : Nat) (x2 : Int32) (m : Mm), wp_X4_collectBreaks_l12 K a1 n x2 m → J X (0, 0) 12 [(0, .ref (ad 264)), (1, .ref (ad a1)), (2, .int x2)] [] (fl ad m) := by
  intro n
  induction n with
  | zero => intro x2 m h; exact h.elim
  | succ n ih => intro x2 m h; exact tb_X4_collectBreaks_l12 hX hR a1 h1 ih x2 m h
set_option maxRecDepth 100000 in
theorem c_X4_collectBreaks {G : GT} {ad : Nat → Nat} (a1 : Nat) (h1 : kap a1 = 3) (m : Mm) (K : Mm → Prop) (h : wp_X4_collectBreaks a1 m K) : Cn G yX4_collectBreaks cX4_collectBreaks 4 none (rmN 4 98) [.ref (ad 264), .ref (ad a1)] (0, 0) (fl ad m) (kV ad K) := by
  unfold wp_X4_collectBreaks at h
  refine Cn.of pn_RX4 (Nat.le_of_ble_eq_true rfl) (fun X hG hX hR => ?_)
  subst hG
  have hX : Cx X cX4_collectBreaks 4 RX4 (rmN 4 98) := hX
  show J X (0, 0) 0 [(0, .ref (ad 264)), (1, .ref (ad a1))] [] (fl ad m)
  refine J_aload_n hX dX4_collectBreaks_0 rfl 0 rfl ?_
  refine J_bipush (v := (7 : Int32)) hX dX4_collectBreaks_1 (by decide) ?_
  refine J_callV hX km_X4_weight kl_RX4_98 dX4_collectBreaks_3 ka_264 (by decide) [.int (7 : Int32)] ⟨Nat.le_of_ble_eq_true rfl, Nat.le_of_ble_eq_true rfl⟩ rfl rfl (Nat.le_of_ble_eq_true rfl) (c_X4_weight (7 : Int32) m) (fun v w2 hk => ?_)
  obtain ⟨rfl, rfl⟩ := hk
  show J X (0, 0) 6 [(0, .ref (ad 264)), (1, .ref (ad a1))] [.int (v_X4_weight (7 : Int32) m)] (fl ad m)
  refine J_if_ne (tgt := 10) hX dX4_collectBreaks_6 (by decide) (fun c1 => ?_) (fun c1 => ?_)
  · replace h := Eq.mp (if_neg c1) h
    refine J_iconst (v := (0 : Int32)) hX dX4_collectBreaks_10 (by decide) ?_
    refine J_istore_n (lv2 := [(2, .int (0 : Int32)), (0, .ref (ad 264)), (1, .ref (ad a1))]) hX dX4_collectBreaks_11 rfl (Nat.le_of_ble_eq_true rfl) rfl ?_
    refine J_sub [1, 2, 0] rfl (t_X4_collectBreaks_l12 hX hR a1 h1 FU (0 : Int32) m h)
  · replace h := Eq.mp (if_pos c1) h
    exact J_vret hX hR dX4_collectBreaks_9 ⟨_, rfl, rfl, h⟩
set_option maxRecDepth 100000 in
theorem t_X4_collect_j73 {X : XT} {ad : Nat → Nat} {K : Mm → Prop} (hX : Cx X cX4_collect 4 RX4 (rmN 5 121)) (hR : Rx X none (kV ad K) (0, 0)) {k38 : Int32 → Mm → Prop} (a1 : Nat) (h1 : kap a1 = 3) (x2 : Int32) (a3 : Nat) (h3 : kap a3 = 7) (hk38 : ∀ (z2 : Int32) (m : Mm), k38 z2 m → J X (0, 0) 38 [(0, .ref (ad 264)), (1, .ref (ad a1)), (2, .int z2)] [] (fl ad m)) (m : Mm) (h : wp_X4_collect_j73 k38 K a1 x2 a3 m) : J X (0, 0) 73 [(0, .ref (ad 264)), (1, .ref (ad a1)), (2, .int x2), (3, .ref (ad a3))] [] (fl ad m) := by
  unfold wp_X4_collect_j73 at h
  refine J_aload_n hX dX4_collect_73 rfl 1 rfl ?_
  refine J_aload_n hX dX4_collect_74 rfl 3 rfl ?_
  refine J_callS hX km_X0_shows kl_RX4_88 dX4_collect_75 [.ref (ad a1), .ref (ad a3)] ⟨Nat.le_of_ble_eq_true rfl, Nat.le_of_ble_eq_true rfl⟩ rfl rfl (Nat.le_of_ble_eq_true rfl) (c_X0_shows a1 h1 a3 h3 m) (fun v w2 hk => ?_)
  obtain ⟨rfl, rfl⟩ := hk
  show J X (0, 0) 78 [(0, .ref (ad 264)), (1, .ref (ad a1)), (2, .int x2), (3, .ref (ad a3))] [.int (v_X0_shows a1 a3 m)] (fl ad m)
  refine J_if_eq (tgt := 87) hX dX4_collect_78 (by decide) (fun c9 => ?_) (fun c9 => ?_)
  · replace h := Eq.mp (if_pos c9) h
    refine J_iinc (x := (x2 + (1 : Int32))) (lv2 := [(2, .int (x2 + (1 : Int32))), (0, .ref (ad 264)), (1, .ref (ad a1)), (3, .ref (ad a3))]) hX dX4_collect_87 2 rfl rfl (Nat.le_of_ble_eq_true rfl) rfl ?_
    refine J_goto (tgt := 38) hX dX4_collect_90 (by decide) ?_
    exact J_sub [1, 2, 0] rfl (hk38 (x2 + (1 : Int32)) m h)
  · replace h := Eq.mp (if_neg c9) h
    refine J_aload_n hX dX4_collect_81 rfl 0 rfl ?_
    refine J_aload_n hX dX4_collect_82 rfl 1 rfl ?_
    refine J_iload_n hX dX4_collect_83 rfl 2 rfl ?_
    refine J_callV hX km_X4_collectPrint kl_RX4_92 dX4_collect_84 ka_264 (by decide) [.ref (ad a1), .int x2] ⟨Nat.le_of_ble_eq_true rfl, Nat.le_of_ble_eq_true rfl⟩ rfl rfl (Nat.le_of_ble_eq_true rfl) (c_X4_collectPrint a1 h1 x2 m _ h) (fun v w2 hk => ?_)
    obtain ⟨m10, rfl, rfl, h⟩ := hk
    show J X (0, 0) 87 [(0, .ref (ad 264)), (1, .ref (ad a1)), (2, .int x2), (3, .ref (ad a3))] [] (fl ad m10)
    refine J_iinc (x := (x2 + (1 : Int32))) (lv2 := [(2, .int (x2 + (1 : Int32))), (0, .ref (ad 264)), (1, .ref (ad a1)), (3, .ref (ad a3))]) hX dX4_collect_87 2 rfl rfl (Nat.le_of_ble_eq_true rfl) rfl ?_
    refine J_goto (tgt := 38) hX dX4_collect_90 (by decide) ?_
    exact J_sub [1, 2, 0] rfl (hk38 (x2 + (1 : Int32)) m10 h)
set_option maxRecDepth 100000 in
theorem tb_X4_collect_l38 {X : XT} {ad : Nat → Nat} {K : Mm → Prop} (hX : Cx X cX4_collect 4 RX4 (rmN 5 121)) (hR : Rx X none (kV ad K) (0, 0)) {rec : Int32 → Mm → Prop} {k93 : Mm → Prop} (a1 : Nat) (h1 : kap a1 = 3) (hrec : ∀ (x2 : Int32) (m : Mm), rec x2 m → J X (0, 0) 38 [(0, .ref (ad 264)), (1, .ref (ad a1)), (2, .int x2)] [] (fl ad m)) (hk93 : ∀ (m : Mm), k93 m → J X (0, 0) 93 [(0, .ref (ad 264)), (1, .ref (ad a1))] [] (fl ad m)) (x2 : Int32) (m : Mm) (h : wb_X4_collect_l38 rec k93 K a1 x2 m) : J X (0, 0) 38 [(0, .ref (ad 264)), (1, .ref (ad a1)), (2, .int x2)] [] (fl ad m) := by
  unfold wb_X4_collect_l38 at h
  refine J_iload_n hX dX4_collect_38 rfl 2 rfl ?_
  refine J_aload_n hX dX4_collect_39 rfl 1 rfl ?_
  refine J_getI hX kf_RX4_67 dX4_collect_40 h1 (by decide) rfl ?_
  refine J_icmp_ge (tgt := 93) hX dX4_collect_43 (by decide) (fun c6 => ?_) (fun c6 => ?_)
  · replace h := Eq.mp (if_pos c6) h
    exact J_sub [0, 1] rfl (hk93 m h)
  · replace h := Eq.mp (if_neg c6) h
    refine J_aload_n hX dX4_collect_46 rfl 1 rfl ?_
    refine J_iload_n hX dX4_collect_47 rfl 2 rfl ?_
    refine J_callV hX km_X3_panelAt kl_RX4_72 dX4_collect_48 h1 (by decide) [.int x2] ⟨Nat.le_of_ble_eq_true rfl, Nat.le_of_ble_eq_true rfl⟩ rfl rfl (Nat.le_of_ble_eq_true rfl) (c_X3_panelAt a1 h1 x2 m) (fun v w2 hk => ?_)
    obtain ⟨rfl, rfl⟩ := hk
    show J X (0, 0) 51 [(0, .ref (ad 264)), (1, .ref (ad a1)), (2, .int x2)] [.ref (ad (v_X3_panelAt a1 x2))] (fl ad m)
    refine J_astore_n (lv2 := [(3, .ref (ad (v_X3_panelAt a1 x2))), (0, .ref (ad 264)), (1, .ref (ad a1)), (2, .int x2)]) hX dX4_collect_51 rfl (Nat.le_of_ble_eq_true rfl) rfl ?_
    refine J_aload_n hX dX4_collect_52 rfl 0 rfl ?_
    refine J_callV hX km_X7_isFlap kl_RX4_76 dX4_collect_53 (kv_X3_panelAt h1) (by decide) [] ⟨Nat.le_of_ble_eq_true rfl, Nat.le_of_ble_eq_true rfl⟩ rfl rfl (Nat.le_of_ble_eq_true rfl) (c_X7_isFlap (v_X3_panelAt a1 x2) (kv_X3_panelAt h1) m) (fun v w2 hk => ?_)
    obtain ⟨rfl, rfl⟩ := hk
    show J X (0, 0) 56 [(3, .ref (ad (v_X3_panelAt a1 x2))), (0, .ref (ad 264)), (1, .ref (ad a1)), (2, .int x2)] [.int (v_X7_isFlap (v_X3_panelAt a1 x2) m)] (fl ad m)
    refine J_if_eq (tgt := 68) hX dX4_collect_56 (by decide) (fun c7 => ?_) (fun c7 => ?_)
    · replace h := Eq.mp (if_pos c7) h
      refine J_aload_n hX dX4_collect_68 rfl 1 rfl ?_
      refine J_iload_n hX dX4_collect_69 rfl 3 rfl ?_
      refine J_callV hX km_X4_collectOpen kl_RX4_85 dX4_collect_70 ka_264 (by decide) [.int x2] ⟨Nat.le_of_ble_eq_true rfl, Nat.le_of_ble_eq_true rfl⟩ rfl rfl (Nat.le_of_ble_eq_true rfl) (c_X4_collectOpen x2 m _ h) (fun v w2 hk => ?_)
      obtain ⟨m8, rfl, rfl, h⟩ := hk
      show J X (0, 0) 73 [(3, .ref (ad (v_X3_panelAt a1 x2))), (0, .ref (ad 264)), (1, .ref (ad a1)), (2, .int x2)] [] (fl ad m8)
      exact J_sub [1, 2, 3, 0] rfl (t_X4_collect_j73 hX hR a1 h1 x2 (v_X3_panelAt a1 x2) (kv_X3_panelAt h1) hrec m8 h)
    · replace h := Eq.mp (if_neg c7) h
      refine J_aload_n hX dX4_collect_59 rfl 1 rfl ?_
      refine J_aload_n hX dX4_collect_60 rfl 2 rfl ?_
      refine J_iload_n hX dX4_collect_61 rfl 3 rfl ?_
      refine J_callV hX km_X4_collectFlap kl_RX4_82 dX4_collect_62 ka_264 (by decide) [.ref (ad a1), .int x2] ⟨Nat.le_of_ble_eq_true rfl, Nat.le_of_ble_eq_true rfl⟩ rfl rfl (Nat.le_of_ble_eq_true rfl) (c_X4_collectFlap a1 h1 x2 m _ h) (fun v w2 hk => ?_)
      obtain ⟨m11, rfl, rfl, h⟩ := hk
      show J X (0, 0) 65 [(3, .ref (ad (v_X3_panelAt a1 x2))), (0, .ref (ad 264)), (1, .ref (ad a1)), (2, .int x2)] [] (fl ad m11)
      refine J_goto (tgt := 73) hX dX4_collect_65 (by decide) ?_
      exact J_sub [1, 2, 3, 0] rfl (t_X4_collect_j73 hX hR a1 h1 x2 (v_X3_panelAt a1 x2) (kv_X3_panelAt h1) hrec m11 h)
set_option maxRecDepth 100000 in
theorem t_X4_collect_l38 {X : XT} {ad : Nat → Nat} {K : Mm → Prop} (hX : Cx X cX4_collect 4 RX4 (rmN 5 121)) (hR : Rx X none (kV ad K) (0, 0)) {k93 : Mm → Prop} (a1 : Nat) (h1 : kap a1 = 3) (hk93 : ∀ (m : Mm), k93 m → J X (0, 0) 93 [(0, .ref (ad 264)), (1, .ref (ad a1))] [] (fl ad m)) : ∀ (n : Nat) (x2 : Int32) (m : Mm), wp_X4_collect_l38 k93 K a1 n x2 m → J X (0, 0) 38 [(0, .ref (ad 264)), (1, .ref (ad a1)), (2, .int x2)] [] (fl ad m) := by
  intro n
  induction n with
  | zero => intro x2 m h; exact h.elim
  | succ n ih => intro x2 m h; exact tb_X4_collect_l38 hX hR a1 h1 ih hk93 x2 m h
set_option maxRecDepth 100000 in
theorem c_X4_collect {G : GT} {ad : Nat → Nat} (a1 : Nat) (h1 : kap a1 = 3) (m : Mm) (K : Mm → Prop) (h : wp_X4_collect a1 m K) : Cn G yX4_collect cX4_collect 4 none (rmN 5 121) [.ref (ad 264), .ref (ad a1)] (0, 0) (fl ad m) (kV ad K) := by
  unfold wp_X4_collect at h
  refine Cn.of pn_RX4 (Nat.le_of_ble_eq_true rfl) (fun X hG hX hR => ?_)
  subst hG
  have hX : Cx X cX4_collect 4 RX4 (rmN 5 121) := hX
  show J X (0, 0) 0 [(0, .ref (ad 264)), (1, .ref (ad a1))] [] (fl ad m)
  refine J_aload_n hX dX4_collect_0 rfl 0 rfl ?_
  refine J_iconst (v := (0 : Int32)) hX dX4_collect_1 (by decide) ?_
  refine J_putI hX kf_RX4_9 dX4_collect_2 ka_264 (by decide) rfl ?_
  refine J_nmM (fun m1 e_m1 => ?_)
  replace h := h m1 e_m1
  refine J_aload_n hX dX4_collect_5 rfl 0 rfl ?_
  refine J_lconst (v := (0 : Int64)) hX dX4_collect_6 (by decide) ?_
  refine J_putL hX kf_RX4_15 dX4_collect_7 ka_264 (by decide) rfl ?_
  refine J_nmM (fun m2 e_m2 => ?_)
  replace h := h m2 e_m2
  refine J_aload_n hX dX4_collect_10 rfl 0 rfl ?_
  refine J_getR hX kf_RX4_44 dX4_collect_11 ka_264 (by decide) rfl rh_264_6 ?_
  refine J_aload_n hX dX4_collect_14 rfl 1 rfl ?_
  refine J_iconst (v := (-1 : Int32)) hX dX4_collect_15 (by decide) ?_
  refine J_callV hX km_X5_fold kl_RX4_49 dX4_collect_16 ka_269 (by decide) [.ref (ad a1), .int (-1 : Int32)] ⟨Nat.le_of_ble_eq_true rfl, Nat.le_of_ble_eq_true rfl⟩ rfl rfl (Nat.le_of_ble_eq_true rfl) (c_X5_fold a1 h1 (-1 : Int32) m2 _ h) (fun v w2 hk => ?_)
  obtain ⟨m3, rfl, rfl, h⟩ := hk
  show J X (0, 0) 19 [(0, .ref (ad 264)), (1, .ref (ad a1))] [] (fl ad m3)
  refine J_aload_n hX dX4_collect_19 rfl 0 rfl ?_
  refine J_getR hX kf_RX4_37 dX4_collect_20 ka_264 (by decide) rfl rh_264_5 ?_
  refine J_aload_n hX dX4_collect_23 rfl 0 rfl ?_
  refine J_iconst (v := (0 : Int32)) hX dX4_collect_24 (by decide) ?_
  refine J_callV hX km_X4_limit kl_RX4_55 dX4_collect_25 ka_264 (by decide) [.int (0 : Int32)] ⟨Nat.le_of_ble_eq_true rfl, Nat.le_of_ble_eq_true rfl⟩ rfl rfl (Nat.le_of_ble_eq_true rfl) (c_X4_limit (0 : Int32) m3) (fun v w2 hk => ?_)
  obtain ⟨rfl, rfl⟩ := hk
  show J X (0, 0) 28 [(0, .ref (ad 264)), (1, .ref (ad a1))] [.int (v_X4_limit (0 : Int32) m3), .ref (ad 268)] (fl ad m3)
  refine J_callV hX km_X10_find kl_RX4_59 dX4_collect_28 ka_268 (by decide) [.int (v_X4_limit (0 : Int32) m3)] ⟨Nat.le_of_ble_eq_true rfl, Nat.le_of_ble_eq_true rfl⟩ rfl rfl (Nat.le_of_ble_eq_true rfl) (c_X10_find (v_X4_limit (0 : Int32) m3) m3 _ h) (fun v w2 hk => ?_)
  obtain ⟨m4, rfl, rfl, h⟩ := hk
  show J X (0, 0) 31 [(0, .ref (ad 264)), (1, .ref (ad a1))] [] (fl ad m4)
  refine J_aload_n hX dX4_collect_31 rfl 0 rfl ?_
  refine J_aload_n hX dX4_collect_32 rfl 1 rfl ?_
  refine J_callV hX km_X4_collectPairs kl_RX4_63 dX4_collect_33 ka_264 (by decide) [.ref (ad a1)] ⟨Nat.le_of_ble_eq_true rfl, Nat.le_of_ble_eq_true rfl⟩ rfl rfl (Nat.le_of_ble_eq_true rfl) (c_X4_collectPairs a1 h1 m4 _ h) (fun v w2 hk => ?_)
  obtain ⟨m5, rfl, rfl, h⟩ := hk
  show J X (0, 0) 36 [(0, .ref (ad 264)), (1, .ref (ad a1))] [] (fl ad m5)
  refine J_iconst (v := (0 : Int32)) hX dX4_collect_36 (by decide) ?_
  refine J_istore_n (lv2 := [(2, .int (0 : Int32)), (0, .ref (ad 264)), (1, .ref (ad a1))]) hX dX4_collect_37 rfl (Nat.le_of_ble_eq_true rfl) rfl ?_
  refine J_sub [1, 2, 0] rfl (t_X4_collect_l38 hX hR a1 h1 (fun m12 h => ?_) FU (0 : Int32) m5 h)
  refine J_aload_n hX dX4_collect_93 rfl 0 rfl ?_
  refine J_aload_n hX dX4_collect_94 rfl 1 rfl ?_
  refine J_callV hX km_X4_collectBreaks kl_RX4_95 dX4_collect_95 ka_264 (by decide) [.ref (ad a1)] ⟨Nat.le_of_ble_eq_true rfl, Nat.le_of_ble_eq_true rfl⟩ rfl rfl (Nat.le_of_ble_eq_true rfl) (c_X4_collectBreaks a1 h1 m12 _ h) (fun v w2 hk => ?_)
  obtain ⟨m13, rfl, rfl, h⟩ := hk
  show J X (0, 0) 98 [(0, .ref (ad 264)), (1, .ref (ad a1))] [] (fl ad m13)
  exact J_vret hX hR dX4_collect_98 ⟨_, rfl, rfl, h⟩
set_option maxRecDepth 100000 in
theorem tb_X11_bestAngle_l58 {X : XT} {ad : Nat → Nat} {K : Int32 → Mm → Prop} (hX : Cx X cX11_bestAngle 6 RX11 (rmN 6 144)) (hR : Rx X (some .int) (kI ad K) (0, 0)) {rec : Int32 → Int64 → Int32 → Mm → Prop} (x1 : Int32) (hrec : ∀ (x2 : Int32) (x3 : Int64) (x5 : Int32) (m : Mm), rec x2 x3 x5 m → J X (0, 0) 58 [(0, .ref (ad 0)), (1, .int x1), (2, .int x2), (3, .long x3), (5, .int x5)] [] (fl ad m)) (x2 : Int32) (x3 : Int64) (x5 : Int32) (m : Mm) (h : wb_X11_bestAngle_l58 rec K x1 x2 x3 x5 m) : J X (0, 0) 58 [(0, .ref (ad 0)), (1, .int x1), (2, .int x2), (3, .long x3), (5, .int x5)] [] (fl ad m) := by
  unfold wb_X11_bestAngle_l58 at h
  refine J_iload hX dX11_bestAngle_58 4 rfl ?_
  refine J_iconst (v := (2 : Int32)) hX dX11_bestAngle_60 (by decide) ?_
  refine J_icmp_gt (tgt := 117) hX dX11_bestAngle_61 (by decide) (fun c6 => ?_) (fun c6 => ?_)
  · replace h := Eq.mp (if_pos c6) h
    refine J_iload_n hX dX11_bestAngle_117 rfl 2 rfl ?_
    exact J_iret hX hR dX11_bestAngle_118 ⟨_, _, rfl, rfl, h⟩
  · replace h := Eq.mp (if_neg c6) h
    refine J_aload_n hX dX11_bestAngle_64 rfl 0 rfl ?_
    refine J_getR hX kf_RX11_16 dX11_bestAngle_65 ka_0 (by decide) rfl rh_0_1 ?_
    refine J_iload_n hX dX11_bestAngle_68 rfl 1 rfl ?_
    refine J_callV hX km_X3_panelAt kl_RX11_201 dX11_bestAngle_69 ka_16 (by decide) [.int x1] ⟨Nat.le_of_ble_eq_true rfl, Nat.le_of_ble_eq_true rfl⟩ rfl rfl (Nat.le_of_ble_eq_true rfl) (c_X3_panelAt 16 ka_16 x1 m) (fun v w2 hk => ?_)
    obtain ⟨rfl, rfl⟩ := hk
    show J X (0, 0) 72 [(0, .ref (ad 0)), (1, .int x1), (2, .int x2), (3, .long x3), (5, .int x5)] [.ref (ad (v_X3_panelAt 16 x1))] (fl ad m)
    refine J_iload hX dX11_bestAngle_72 4 rfl ?_
    refine J_putI hX kf_RX11_361 dX11_bestAngle_74 (kv_X3_panelAt ka_16) (by decide) rfl ?_
    refine J_nmM (fun m7 e_m7 => ?_)
    replace h := h m7 e_m7
    refine J_aload_n hX dX11_bestAngle_77 rfl 0 rfl ?_
    refine J_getR hX kf_RX11_55 dX11_bestAngle_78 ka_0 (by decide) rfl rh_0_8 ?_
    refine J_aload_n hX dX11_bestAngle_81 rfl 0 rfl ?_
    refine J_getR hX kf_RX11_16 dX11_bestAngle_82 ka_0 (by decide) rfl rh_0_1 ?_
    refine J_callV hX km_X4_collect kl_RX11_328 dX11_bestAngle_85 ka_264 (by decide) [.ref (ad 16)] ⟨Nat.le_of_ble_eq_true rfl, Nat.le_of_ble_eq_true rfl⟩ rfl rfl (Nat.le_of_ble_eq_true rfl) (c_X4_collect 16 ka_16 m7 _ h) (fun v w2 hk => ?_)
    obtain ⟨m8, rfl, rfl, h⟩ := hk
    show J X (0, 0) 88 [(0, .ref (ad 0)), (1, .int x1), (2, .int x2), (3, .long x3), (5, .int x5)] [] (fl ad m8)
    refine J_aload_n hX dX11_bestAngle_88 rfl 0 rfl ?_
    refine J_getR hX kf_RX11_55 dX11_bestAngle_89 ka_0 (by decide) rfl rh_0_8 ?_
    refine J_getL hX kf_RX11_337 dX11_bestAngle_92 ka_264 (by decide) rfl ?_
    refine J_lload_n hX dX11_bestAngle_95 rfl 3 rfl ?_
    refine J_lcmp hX dX11_bestAngle_96 ?_
    have hj12 : ∀ y10 : Int32, y10 = (if (0 : Int32) ≤ (lg_cmp (m8.2 264 1) x3) then x2 else x5) → ∀ y11 : Int64, y11 = (if (0 : Int32) ≤ (lg_cmp (m8.2 264 1) x3) then x3 else (m8.2 264 1)) → J X (0, 0) 111 [(0, .ref (ad 0)), (1, .int x1), (2, .int y10), (3, .long y11), (5, .int x5)] [] (fl ad m8) := by
      intro y10 e_y10
      replace h := h y10 e_y10
      intro y11 e_y11
      replace h := h y11 e_y11
      refine J_iinc (x := (x5 + (1 : Int32))) (lv2 := [(5, .int (x5 + (1 : Int32))), (0, .ref (ad 0)), (1, .int x1), (2, .int y10), (3, .long y11)]) hX dX11_bestAngle_111 4 rfl rfl (Nat.le_of_ble_eq_true rfl) rfl ?_
      refine J_goto (tgt := 58) hX dX11_bestAngle_114 (by decide) ?_
      exact J_sub [1, 2, 3, 4, 0] rfl (hrec y10 y11 (x5 + (1 : Int32)) m8 h)
    refine J_if_ge (tgt := 111) hX dX11_bestAngle_97 (by decide) (fun c9 => ?_) (fun c9 => ?_)
    · exact J_sub [0, 1, 2, 3, 4] rfl (hj12 _ (if_pos c9).symm _ (if_pos c9).symm)
    · refine J_iload hX dX11_bestAngle_100 4 rfl ?_
      refine J_istore_n (lv2 := [(2, .int x5), (0, .ref (ad 0)), (1, .int x1), (3, .long x3), (5, .int x5)]) hX dX11_bestAngle_102 rfl (Nat.le_of_ble_eq_true rfl) rfl ?_
      refine J_aload_n hX dX11_bestAngle_103 rfl 1 rfl ?_
      refine J_getR hX kf_RX11_55 dX11_bestAngle_104 ka_0 (by decide) rfl rh_0_8 ?_
      refine J_getL hX kf_RX11_337 dX11_bestAngle_107 ka_264 (by decide) rfl ?_
      refine J_lstore_n (lv2 := [(3, .long (m8.2 264 1)), (2, .int x5), (0, .ref (ad 0)), (1, .int x1), (5, .int x5)]) hX dX11_bestAngle_110 rfl (Nat.le_of_ble_eq_true rfl) rfl ?_
      exact J_sub [2, 3, 1, 0, 4] rfl (hj12 _ (if_neg c9).symm _ (if_neg c9).symm)
set_option maxRecDepth 100000 in
theorem t_X11_bestAngle_l58 {X : XT} {ad : Nat → Nat} {K : Int32 → Mm → Prop} (hX : Cx X cX11_bestAngle 6 RX11 (rmN 6 144)) (hR : Rx X (some .int) (kI ad K) (0, 0)) (x1 : Int32) : ∀ (n : Nat) (x2 : Int32) (x3 : Int64) (x5 : Int32) (m : Mm), wp_X11_bestAngle_l58 K x1 n x2 x3 x5 m → J X (0, 0) 58 [(0, .ref (ad 0)), (1, .int x1), (2, .int x2), (3, .long x3), (5, .int x5)] [] (fl ad m) := by
  intro n
  induction n with
  | zero => intro x2 x3 x5 m h; exact h.elim
  | succ n ih => intro x2 x3 x5 m h; exact tb_X11_bestAngle_l58 hX hR x1 ih x2 x3 x5 m h
set_option maxRecDepth 100000 in
theorem c_X11_bestAngle {G : GT} {ad : Nat → Nat} (x1 : Int32) (m : Mm) (K : Int32 → Mm → Prop) (h : wp_X11_bestAngle x1 m K) : Cn G yX11_bestAngle cX11_bestAngle 6 (some .int) (rmN 6 144) [.ref (ad 0), .int x1] (0, 0) (fl ad m) (kI ad K) := by
  unfold wp_X11_bestAngle at h
  refine Cn.of pn_RX11 (Nat.le_of_ble_eq_true rfl) (fun X hG hX hR => ?_)
  subst hG
  have hX : Cx X cX11_bestAngle 6 RX11 (rmN 6 144) := hX
  show J X (0, 0) 0 [(0, .ref (ad 0)), (1, .int x1)] [] (fl ad m)
  refine J_aload_n hX dX11_bestAngle_0 rfl 0 rfl ?_
  refine J_getR hX kf_RX11_10 dX11_bestAngle_1 ka_0 (by decide) rfl rh_0_0 ?_
  refine J_iload_n hX dX11_bestAngle_4 rfl 1 rfl ?_
  refine J_callV hX km_X3_hangs kl_RX11_138 dX11_bestAngle_5 ka_1 (by decide) [.int x1] ⟨Nat.le_of_ble_eq_true rfl, Nat.le_of_ble_eq_true rfl⟩ rfl rfl (Nat.le_of_ble_eq_true rfl) (c_X3_hangs 1 ka_1 x1 m) (fun v w2 hk => ?_)
  obtain ⟨rfl, rfl⟩ := hk
  show J X (0, 0) 8 [(0, .ref (ad 0)), (1, .int x1)] [.int (v_X3_hangs 1 x1 m)] (fl ad m)
  refine J_if_ne (tgt := 13) hX dX11_bestAngle_8 (by decide) (fun c1 => ?_) (fun c1 => ?_)
  · replace h := Eq.mp (if_neg c1) h
    refine J_aload_n hX dX11_bestAngle_13 rfl 0 rfl ?_
    refine J_getR hX kf_RX11_16 dX11_bestAngle_14 ka_0 (by decide) rfl rh_0_1 ?_
    refine J_aload_n hX dX11_bestAngle_17 rfl 0 rfl ?_
    refine J_getR hX kf_RX11_10 dX11_bestAngle_18 ka_0 (by decide) rfl rh_0_0 ?_
    refine J_callV hX km_X3_become kl_RX11_99 dX11_bestAngle_21 ka_16 (by decide) [.ref (ad 1)] ⟨Nat.le_of_ble_eq_true rfl, Nat.le_of_ble_eq_true rfl⟩ rfl rfl (Nat.le_of_ble_eq_true rfl) (c_X3_become 16 ka_16 1 ka_1 m _ h) (fun v w2 hk => ?_)
    obtain ⟨m2, rfl, rfl, h⟩ := hk
    show J X (0, 0) 24 [(0, .ref (ad 0)), (1, .int x1)] [] (fl ad m2)
    refine J_aload_n hX dX11_bestAngle_24 rfl 0 rfl ?_
    refine J_getR hX kf_RX11_55 dX11_bestAngle_25 ka_0 (by decide) rfl rh_0_8 ?_
    refine J_aload_n hX dX11_bestAngle_28 rfl 0 rfl ?_
    refine J_getR hX kf_RX11_16 dX11_bestAngle_29 ka_0 (by decide) rfl rh_0_1 ?_
    refine J_callV hX km_X4_collect kl_RX11_328 dX11_bestAngle_32 ka_264 (by decide) [.ref (ad 16)] ⟨Nat.le_of_ble_eq_true rfl, Nat.le_of_ble_eq_true rfl⟩ rfl rfl (Nat.le_of_ble_eq_true rfl) (c_X4_collect 16 ka_16 m2 _ h) (fun v w2 hk => ?_)
    obtain ⟨m3, rfl, rfl, h⟩ := hk
    show J X (0, 0) 35 [(0, .ref (ad 0)), (1, .int x1)] [] (fl ad m3)
    refine J_aload_n hX dX11_bestAngle_35 rfl 0 rfl ?_
    refine J_getR hX kf_RX11_16 dX11_bestAngle_36 ka_0 (by decide) rfl rh_0_1 ?_
    refine J_iload_n hX dX11_bestAngle_39 rfl 1 rfl ?_
    refine J_callV hX km_X3_panelAt kl_RX11_201 dX11_bestAngle_40 ka_16 (by decide) [.int x1] ⟨Nat.le_of_ble_eq_true rfl, Nat.le_of_ble_eq_true rfl⟩ rfl rfl (Nat.le_of_ble_eq_true rfl) (c_X3_panelAt 16 ka_16 x1 m3) (fun v w2 hk => ?_)
    obtain ⟨rfl, rfl⟩ := hk
    show J X (0, 0) 43 [(0, .ref (ad 0)), (1, .int x1)] [.ref (ad (v_X3_panelAt 16 x1))] (fl ad m3)
    refine J_getI hX kf_RX11_361 dX11_bestAngle_43 (kv_X3_panelAt ka_16) (by decide) rfl ?_
    refine J_nmI (fun y4 e_y4 => ?_)
    replace h := h y4 e_y4
    refine J_istore_n (lv2 := [(2, .int y4), (0, .ref (ad 0)), (1, .int x1)]) hX dX11_bestAngle_46 rfl (Nat.le_of_ble_eq_true rfl) rfl ?_
    refine J_aload_n hX dX11_bestAngle_47 rfl 1 rfl ?_
    refine J_getR hX kf_RX11_55 dX11_bestAngle_48 ka_0 (by decide) rfl rh_0_8 ?_
    refine J_getL hX kf_RX11_337 dX11_bestAngle_51 ka_264 (by decide) rfl ?_
    refine J_nmL (fun y5 e_y5 => ?_)
    replace h := h y5 e_y5
    refine J_lstore_n (lv2 := [(3, .long y5), (2, .int y4), (0, .ref (ad 0)), (1, .int x1)]) hX dX11_bestAngle_54 rfl (Nat.le_of_ble_eq_true rfl) rfl ?_
    refine J_iconst (v := (-1 : Int32)) hX dX11_bestAngle_55 (by decide) ?_
    refine J_istore (lv2 := [(5, .int (-1 : Int32)), (3, .long y5), (2, .int y4), (0, .ref (ad 0)), (1, .int x1)]) hX dX11_bestAngle_56 (Nat.le_of_ble_eq_true rfl) rfl ?_
    refine J_sub [3, 4, 2, 1, 0] rfl (t_X11_bestAngle_l58 hX hR x1 FU y4 y5 (-1 : Int32) m3 h)
  · replace h := Eq.mp (if_pos c1) h
    refine J_iconst (v := (-1 : Int32)) hX dX11_bestAngle_11 (by decide) ?_
    exact J_iret hX hR dX11_bestAngle_12 ⟨_, _, rfl, rfl, h⟩
set_option maxRecDepth 100000 in
theorem tb_X3_layOutAll_l2 {X : XT} {ad : Nat → Nat} {K : Mm → Prop} (hX : Cx X cX3_layOutAll 3 RX3 (rmN 1 22)) (hR : Rx X none (kV ad K) (0, 0)) {rec : Int32 → Mm → Prop} (a0 : Nat) (h0 : kap a0 = 3) (hrec : ∀ (x1 : Int32) (m : Mm), rec x1 m → J X (0, 0) 2 [(0, .ref (ad a0)), (1, .int x1)] [] (fl ad m)) (x1 : Int32) (m : Mm) (h : wb_X3_layOutAll_l2 rec K a0 x1 m) : J X (0, 0) 2 [(0, .ref (ad a0)), (1, .int x1)] [] (fl ad m) := by
  unfold wb_X3_layOutAll_l2 at h
  refine J_iload_n hX dX3_layOutAll_2 rfl 1 rfl ?_
  refine J_aload_n hX dX3_layOutAll_3 rfl 0 rfl ?_
  refine J_getI hX kf_RX3_25 dX3_layOutAll_4 h0 (by decide) rfl ?_
  refine J_icmp_ge (tgt := 34) hX dX3_layOutAll_7 (by decide) (fun c1 => ?_) (fun c1 => ?_)
  · replace h := Eq.mp (if_pos c1) h
    exact J_vret hX hR dX3_layOutAll_34 ⟨_, rfl, rfl, h⟩
  · replace h := Eq.mp (if_neg c1) h
    refine J_aload_n hX dX3_layOutAll_10 rfl 0 rfl ?_
    refine J_iload_n hX dX3_layOutAll_11 rfl 1 rfl ?_
    refine J_callV hX km_X3_panelAt kl_RX3_39 dX3_layOutAll_12 h0 (by decide) [.int x1] ⟨Nat.le_of_ble_eq_true rfl, Nat.le_of_ble_eq_true rfl⟩ rfl rfl (Nat.le_of_ble_eq_true rfl) (c_X3_panelAt a0 h0 x1 m) (fun v w2 hk => ?_)
    obtain ⟨rfl, rfl⟩ := hk
    show J X (0, 0) 15 [(0, .ref (ad a0)), (1, .int x1)] [.ref (ad (v_X3_panelAt a0 x1))] (fl ad m)
    refine J_astore_n (lv2 := [(2, .ref (ad (v_X3_panelAt a0 x1))), (0, .ref (ad a0)), (1, .int x1)]) hX dX3_layOutAll_15 rfl (Nat.le_of_ble_eq_true rfl) rfl ?_
    refine J_aload_n hX dX3_layOutAll_16 rfl 0 rfl ?_
    refine J_aload_n hX dX3_layOutAll_17 rfl 1 rfl ?_
    refine J_aload_n hX dX3_layOutAll_18 rfl 0 rfl ?_
    refine J_getI hX kf_RX3_69 dX3_layOutAll_19 (kv_X3_panelAt h0) (by decide) rfl ?_
    refine J_callV hX km_X3_panelAt kl_RX3_39 dX3_layOutAll_22 h0 (by decide) [.int (m.1 (v_X3_panelAt a0 x1) 0)] ⟨Nat.le_of_ble_eq_true rfl, Nat.le_of_ble_eq_true rfl⟩ rfl rfl (Nat.le_of_ble_eq_true rfl) (c_X3_panelAt a0 h0 (m.1 (v_X3_panelAt a0 x1) 0) m) (fun v w2 hk => ?_)
    obtain ⟨rfl, rfl⟩ := hk
    show J X (0, 0) 25 [(2, .ref (ad (v_X3_panelAt a0 x1))), (0, .ref (ad a0)), (1, .int x1)] [.ref (ad (v_X3_panelAt a0 (m.1 (v_X3_panelAt a0 x1) 0))), .ref (ad (v_X3_panelAt a0 x1))] (fl ad m)
    refine J_callS hX km_X3_layOut kl_RX3_100 dX3_layOutAll_25 [.ref (ad (v_X3_panelAt a0 x1)), .ref (ad (v_X3_panelAt a0 (m.1 (v_X3_panelAt a0 x1) 0)))] ⟨Nat.le_of_ble_eq_true rfl, Nat.le_of_ble_eq_true rfl⟩ rfl rfl (Nat.le_of_ble_eq_true rfl) (c_X3_layOut (v_X3_panelAt a0 x1) (kv_X3_panelAt h0) (v_X3_panelAt a0 (m.1 (v_X3_panelAt a0 x1) 0)) (kv_X3_panelAt h0) m _ h) (fun v w2 hk => ?_)
    obtain ⟨m2, rfl, rfl, h⟩ := hk
    show J X (0, 0) 28 [(2, .ref (ad (v_X3_panelAt a0 x1))), (0, .ref (ad a0)), (1, .int x1)] [] (fl ad m2)
    refine J_iinc (x := (x1 + (1 : Int32))) (lv2 := [(1, .int (x1 + (1 : Int32))), (2, .ref (ad (v_X3_panelAt a0 x1))), (0, .ref (ad a0))]) hX dX3_layOutAll_28 2 rfl rfl (Nat.le_of_ble_eq_true rfl) rfl ?_
    refine J_goto (tgt := 2) hX dX3_layOutAll_31 (by decide) ?_
    exact J_sub [2, 0] rfl (hrec (x1 + (1 : Int32)) m2 h)
set_option maxRecDepth 100000 in
theorem t_X3_layOutAll_l2 {X : XT} {ad : Nat → Nat} {K : Mm → Prop} (hX : Cx X cX3_layOutAll 3 RX3 (rmN 1 22)) (hR : Rx X none (kV ad K) (0, 0)) (a0 : Nat) (h0 : kap a0 = 3) : ∀ (n : Nat) (x1 : Int32) (m : Mm), wp_X3_layOutAll_l2 K a0 n x1 m → J X (0, 0) 2 [(0, .ref (ad a0)), (1, .int x1)] [] (fl ad m) := by
  intro n
  induction n with
  | zero => intro x1 m h; exact h.elim
  | succ n ih => intro x1 m h; exact tb_X3_layOutAll_l2 hX hR a0 h0 ih x1 m h
set_option maxRecDepth 100000 in
theorem c_X3_layOutAll {G : GT} {ad : Nat → Nat} (a0 : Nat) (h0 : kap a0 = 3) (m : Mm) (K : Mm → Prop) (h : wp_X3_layOutAll a0 m K) : Cn G yX3_layOutAll cX3_layOutAll 3 none (rmN 1 22) [.ref (ad a0)] (0, 0) (fl ad m) (kV ad K) := by
  unfold wp_X3_layOutAll at h
  refine Cn.of pn_RX3 (Nat.le_of_ble_eq_true rfl) (fun X hG hX hR => ?_)
  subst hG
  have hX : Cx X cX3_layOutAll 3 RX3 (rmN 1 22) := hX
  show J X (0, 0) 0 [(0, .ref (ad a0))] [] (fl ad m)
  refine J_iconst (v := (1 : Int32)) hX dX3_layOutAll_0 (by decide) ?_
  refine J_istore_n (lv2 := [(1, .int (1 : Int32)), (0, .ref (ad a0))]) hX dX3_layOutAll_1 rfl (Nat.le_of_ble_eq_true rfl) rfl ?_
  refine J_sub [1, 0] rfl (t_X3_layOutAll_l2 hX hR a0 h0 FU (1 : Int32) m h)
set_option maxRecDepth 100000 in
theorem tb_X3_isValid_l2 {X : XT} {ad : Nat → Nat} {K : Int32 → Mm → Prop} (hX : Cx X cX3_isValid 2 RX3 (rmN 2 44)) (hR : Rx X (some .boolean) (kI ad K) (0, 0)) {rec : Int32 → Mm → Prop} (a0 : Nat) (h0 : kap a0 = 3) (hrec : ∀ (x1 : Int32) (m : Mm), rec x1 m → J X (0, 0) 2 [(0, .ref (ad a0)), (1, .int x1)] [] (fl ad m)) (x1 : Int32) (m : Mm) (h : wb_X3_isValid_l2 rec K a0 x1 m) : J X (0, 0) 2 [(0, .ref (ad a0)), (1, .int x1)] [] (fl ad m) := by
  unfold wb_X3_isValid_l2 at h
  refine J_iload_n hX dX3_isValid_2 rfl 1 rfl ?_
  refine J_aload_n hX dX3_isValid_3 rfl 0 rfl ?_
  refine J_getI hX kf_RX3_25 dX3_isValid_4 h0 (by decide) rfl ?_
  refine J_icmp_ge (tgt := 26) hX dX3_isValid_7 (by decide) (fun c1 => ?_) (fun c1 => ?_)
  · replace h := Eq.mp (if_pos c1) h
    refine J_iconst (v := (1 : Int32)) hX dX3_isValid_26 (by decide) ?_
    exact J_zret hX hR dX3_isValid_27 bo_1 ⟨_, _, rfl, rfl, h⟩
  · replace h := Eq.mp (if_neg c1) h
    refine J_aload_n hX dX3_isValid_10 rfl 0 rfl ?_
    refine J_iload_n hX dX3_isValid_11 rfl 1 rfl ?_
    refine J_callV hX km_X3_fits kl_RX3_88 dX3_isValid_12 h0 (by decide) [.int x1] ⟨Nat.le_of_ble_eq_true rfl, Nat.le_of_ble_eq_true rfl⟩ rfl rfl (Nat.le_of_ble_eq_true rfl) (c_X3_fits a0 h0 x1 m _ h) (fun v w2 hk => ?_)
    obtain ⟨y3, m2, rfl, rfl, h⟩ := hk
    show J X (0, 0) 15 [(0, .ref (ad a0)), (1, .int x1)] [.int y3] (fl ad m2)
    refine J_if_ne (tgt := 20) hX dX3_isValid_15 (by decide) (fun c4 => ?_) (fun c4 => ?_)
    · replace h := Eq.mp (if_neg c4) h
      refine J_iinc (x := (x1 + (1 : Int32))) (lv2 := [(1, .int (x1 + (1 : Int32))), (0, .ref (ad a0))]) hX dX3_isValid_20 1 rfl rfl (Nat.le_of_ble_eq_true rfl) rfl ?_
      refine J_goto (tgt := 2) hX dX3_isValid_23 (by decide) ?_
      exact J_sub [1, 0] rfl (hrec (x1 + (1 : Int32)) m2 h)
    · replace h := Eq.mp (if_pos c4) h
      refine J_iconst (v := (0 : Int32)) hX dX3_isValid_18 (by decide) ?_
      exact J_zret hX hR dX3_isValid_19 bo_0 ⟨_, _, rfl, rfl, h⟩
set_option maxRecDepth 100000 in
theorem t_X3_isValid_l2 {X : XT} {ad : Nat → Nat} {K : Int32 → Mm → Prop} (hX : Cx X cX3_isValid 2 RX3 (rmN 2 44)) (hR : Rx X (some .boolean) (kI ad K) (0, 0)) (a0 : Nat) (h0 : kap a0 = 3) : ∀ (n : Nat) (x1 : Int32) (m : Mm), wp_X3_isValid_l2 K a0 n x1 m → J X (0, 0) 2 [(0, .ref (ad a0)), (1, .int x1)] [] (fl ad m) := by
  intro n
  induction n with
  | zero => intro x1 m h; exact h.elim
  | succ n ih => intro x1 m h; exact tb_X3_isValid_l2 hX hR a0 h0 ih x1 m h
set_option maxRecDepth 100000 in
theorem c_X3_isValid {G : GT} {ad : Nat → Nat} (a0 : Nat) (h0 : kap a0 = 3) (m : Mm) (K : Int32 → Mm → Prop) (h : wp_X3_isValid a0 m K) : Cn G yX3_isValid cX3_isValid 2 (some .boolean) (rmN 2 44) [.ref (ad a0)] (0, 0) (fl ad m) (kI ad K) := by
  unfold wp_X3_isValid at h
  refine Cn.of pn_RX3 (Nat.le_of_ble_eq_true rfl) (fun X hG hX hR => ?_)
  subst hG
  have hX : Cx X cX3_isValid 2 RX3 (rmN 2 44) := hX
  show J X (0, 0) 0 [(0, .ref (ad a0))] [] (fl ad m)
  refine J_iconst (v := (0 : Int32)) hX dX3_isValid_0 (by decide) ?_
  refine J_istore_n (lv2 := [(1, .int (0 : Int32)), (0, .ref (ad a0))]) hX dX3_isValid_1 rfl (Nat.le_of_ble_eq_true rfl) rfl ?_
  refine J_sub [1, 0] rfl (t_X3_isValid_l2 hX hR a0 h0 FU (0 : Int32) m h)
set_option maxRecDepth 100000 in
theorem tb_X11_bestDepth_l45 {X : XT} {ad : Nat → Nat} {K : Int32 → Mm → Prop} (hX : Cx X cX11_bestDepth 8 RX11 (rmN 6 144)) (hR : Rx X (some .int) (kI ad K) (0, 0)) {rec : Int32 → Int64 → Int32 → Mm → Prop} (x1 : Int32) (x2 : Int32) (hrec : ∀ (x3 : Int32) (x4 : Int64) (x6 : Int32) (m : Mm), rec x3 x4 x6 m → J X (0, 0) 45 [(0, .ref (ad 0)), (1, .int x1), (2, .int x2), (3, .int x3), (4, .long x4), (6, .int x6)] [] (fl ad m)) (x3 : Int32) (x4 : Int64) (x6 : Int32) (m : Mm) (h : wb_X11_bestDepth_l45 rec K x1 x2 x3 x4 x6 m) : J X (0, 0) 45 [(0, .ref (ad 0)), (1, .int x1), (2, .int x2), (3, .int x3), (4, .long x4), (6, .int x6)] [] (fl ad m) := by
  unfold wb_X11_bestDepth_l45 at h
  refine J_iload hX dX11_bestDepth_45 5 rfl ?_
  refine J_bipush (v := (100 : Int32)) hX dX11_bestDepth_47 (by decide) ?_
  refine J_icmp_gt (tgt := 171) hX dX11_bestDepth_49 (by decide) (fun c4 => ?_) (fun c4 => ?_)
  · replace h := Eq.mp (if_pos c4) h
    refine J_iload_n hX dX11_bestDepth_171 rfl 3 rfl ?_
    exact J_iret hX hR dX11_bestDepth_172 ⟨_, _, rfl, rfl, h⟩
  · replace h := Eq.mp (if_neg c4) h
    refine J_aload_n hX dX11_bestDepth_52 rfl 0 rfl ?_
    refine J_getR hX kf_RX11_16 dX11_bestDepth_53 ka_0 (by decide) rfl rh_0_1 ?_
    refine J_iload_n hX dX11_bestDepth_56 rfl 1 rfl ?_
    refine J_callV hX km_X3_panelAt kl_RX11_201 dX11_bestDepth_57 ka_16 (by decide) [.int x1] ⟨Nat.le_of_ble_eq_true rfl, Nat.le_of_ble_eq_true rfl⟩ rfl rfl (Nat.le_of_ble_eq_true rfl) (c_X3_panelAt 16 ka_16 x1 m) (fun v w2 hk => ?_)
    obtain ⟨rfl, rfl⟩ := hk
    show J X (0, 0) 60 [(0, .ref (ad 0)), (1, .int x1), (2, .int x2), (3, .int x3), (4, .long x4), (6, .int x6)] [.ref (ad (v_X3_panelAt 16 x1))] (fl ad m)
    refine J_iload hX dX11_bestDepth_60 5 rfl ?_
    refine J_putI hX kf_RX11_347 dX11_bestDepth_62 (kv_X3_panelAt ka_16) (by decide) rfl ?_
    refine J_nmM (fun m5 e_m5 => ?_)
    replace h := h m5 e_m5
    refine J_aload_n hX dX11_bestDepth_65 rfl 0 rfl ?_
    refine J_getR hX kf_RX11_16 dX11_bestDepth_66 ka_0 (by decide) rfl rh_0_1 ?_
    refine J_callV hX km_X3_layOutAll kl_RX11_350 dX11_bestDepth_69 ka_16 (by decide) [] ⟨Nat.le_of_ble_eq_true rfl, Nat.le_of_ble_eq_true rfl⟩ rfl rfl (Nat.le_of_ble_eq_true rfl) (c_X3_layOutAll 16 ka_16 m5 _ h) (fun v w2 hk => ?_)
    obtain ⟨m6, rfl, rfl, h⟩ := hk
    show J X (0, 0) 72 [(0, .ref (ad 0)), (1, .int x1), (2, .int x2), (3, .int x3), (4, .long x4), (6, .int x6)] [] (fl ad m6)
    refine J_aload_n hX dX11_bestDepth_72 rfl 0 rfl ?_
    refine J_getR hX kf_RX11_16 dX11_bestDepth_73 ka_0 (by decide) rfl rh_0_1 ?_
    refine J_callV hX km_X3_isValid kl_RX11_353 dX11_bestDepth_76 ka_16 (by decide) [] ⟨Nat.le_of_ble_eq_true rfl, Nat.le_of_ble_eq_true rfl⟩ rfl rfl (Nat.le_of_ble_eq_true rfl) (c_X3_isValid 16 ka_16 m6 _ h) (fun v w2 hk => ?_)
    obtain ⟨y8, m7, rfl, rfl, h⟩ := hk
    show J X (0, 0) 79 [(0, .ref (ad 0)), (1, .int x1), (2, .int x2), (3, .int x3), (4, .long x4), (6, .int x6)] [.int y8] (fl ad m7)
    refine J_if_eq (tgt := 165) hX dX11_bestDepth_79 (by decide) (fun c9 => ?_) (fun c9 => ?_)
    · replace h := Eq.mp (if_pos c9) h
      refine J_iinc (x := (x6 + (1 : Int32))) (lv2 := [(6, .int (x6 + (1 : Int32))), (0, .ref (ad 0)), (1, .int x1), (2, .int x2), (3, .int x3), (4, .long x4)]) hX dX11_bestDepth_165 5 rfl rfl (Nat.le_of_ble_eq_true rfl) rfl ?_
      refine J_goto (tgt := 45) hX dX11_bestDepth_168 (by decide) ?_
      exact J_sub [1, 2, 3, 4, 5, 0] rfl (hrec x3 x4 (x6 + (1 : Int32)) m7 h)
    · replace h := Eq.mp (if_neg c9) h
      refine J_aload_n hX dX11_bestDepth_82 rfl 0 rfl ?_
      refine J_getR hX kf_RX11_55 dX11_bestDepth_83 ka_0 (by decide) rfl rh_0_8 ?_
      refine J_aload_n hX dX11_bestDepth_86 rfl 0 rfl ?_
      refine J_getR hX kf_RX11_16 dX11_bestDepth_87 ka_0 (by decide) rfl rh_0_1 ?_
      refine J_callV hX km_X4_collect kl_RX11_328 dX11_bestDepth_90 ka_264 (by decide) [.ref (ad 16)] ⟨Nat.le_of_ble_eq_true rfl, Nat.le_of_ble_eq_true rfl⟩ rfl rfl (Nat.le_of_ble_eq_true rfl) (c_X4_collect 16 ka_16 m7 _ h) (fun v w2 hk => ?_)
      obtain ⟨m10, rfl, rfl, h⟩ := hk
      show J X (0, 0) 93 [(0, .ref (ad 0)), (1, .int x1), (2, .int x2), (3, .int x3), (4, .long x4), (6, .int x6)] [] (fl ad m10)
      refine J_iload hX dX11_bestDepth_93 5 rfl ?_
      refine J_iload_n hX dX11_bestDepth_95 rfl 2 rfl ?_
      refine J_isub hX dX11_bestDepth_96 ?_
      refine J_mabs hX kl_RX11_356 dX11_bestDepth_97 (Nat.le_of_ble_eq_true rfl) (Nat.le_of_ble_eq_true rfl) ⟨Nat.le_of_ble_eq_true rfl, Nat.le_of_ble_eq_true rfl⟩ ?_
      refine J_iload_n hX dX11_bestDepth_100 rfl 3 rfl ?_
      refine J_iload_n hX dX11_bestDepth_101 rfl 2 rfl ?_
      refine J_isub hX dX11_bestDepth_102 ?_
      refine J_mabs hX kl_RX11_356 dX11_bestDepth_103 (Nat.le_of_ble_eq_true rfl) (Nat.le_of_ble_eq_true rfl) ⟨Nat.le_of_ble_eq_true rfl, Nat.le_of_ble_eq_true rfl⟩ ?_
      have hj20 : ∀ y12 : Int32, y12 = (if (ab32 (x3 - x2)) ≤ (ab32 (x6 - x2)) then (0 : Int32) else (1 : Int32)) → J X (0, 0) 114 [(0, .ref (ad 0)), (1, .int x1), (2, .int x2), (3, .int x3), (4, .long x4), (6, .int x6)] [.int y12] (fl ad m10) := by
        intro y12 e_y12
        replace h := h y12 e_y12
        refine J_istore (lv2 := [(7, .int y12), (0, .ref (ad 0)), (1, .int x1), (2, .int x2), (3, .int x3), (4, .long x4), (6, .int x6)]) hX dX11_bestDepth_114 (Nat.le_of_ble_eq_true rfl) rfl ?_
        refine J_iload_n hX dX11_bestDepth_116 rfl 4 rfl ?_
        refine J_bipush (v := (-9 : Int32)) hX dX11_bestDepth_117 (by decide) ?_
        have hj19 : ∀ y17 : Int32, y17 = (if x3 = (-9 : Int32) then x6 else (if (lg_cmp (m10.2 264 1) x4) < (0 : Int32) then x6 else (if (lg_cmp (m10.2 264 1) x4) = (0 : Int32) then (if y12 = (0 : Int32) then x3 else x6) else x3))) → ∀ y18 : Int64, y18 = (if x3 = (-9 : Int32) then (m10.2 264 1) else (if (lg_cmp (m10.2 264 1) x4) < (0 : Int32) then (m10.2 264 1) else (if (lg_cmp (m10.2 264 1) x4) = (0 : Int32) then (if y12 = (0 : Int32) then x4 else (m10.2 264 1)) else x4))) → J X (0, 0) 165 [(0, .ref (ad 0)), (1, .int x1), (2, .int x2), (3, .int y17), (4, .long y18), (6, .int x6)] [] (fl ad m10) := by
          intro y17 e_y17
          replace h := h y17 e_y17
          intro y18 e_y18
          replace h := h y18 e_y18
          refine J_iinc (x := (x6 + (1 : Int32))) (lv2 := [(6, .int (x6 + (1 : Int32))), (0, .ref (ad 0)), (1, .int x1), (2, .int x2), (3, .int y17), (4, .long y18)]) hX dX11_bestDepth_165 5 rfl rfl (Nat.le_of_ble_eq_true rfl) rfl ?_
          refine J_goto (tgt := 45) hX dX11_bestDepth_168 (by decide) ?_
          exact J_sub [1, 2, 3, 4, 5, 0] rfl (hrec y17 y18 (x6 + (1 : Int32)) m10 h)
        refine J_icmp_eq (tgt := 153) hX dX11_bestDepth_119 (by decide) (fun c13 => ?_) (fun c13 => ?_)
        · refine J_iload hX dX11_bestDepth_153 6 rfl ?_
          refine J_istore_n (lv2 := [(3, .int x6), (7, .int y12), (0, .ref (ad 0)), (1, .int x1), (2, .int x2), (4, .long x4), (6, .int x6)]) hX dX11_bestDepth_155 rfl (Nat.le_of_ble_eq_true rfl) rfl ?_
          refine J_aload_n hX dX11_bestDepth_156 rfl 2 rfl ?_
          refine J_getR hX kf_RX11_55 dX11_bestDepth_157 ka_0 (by decide) rfl rh_0_8 ?_
          refine J_getL hX kf_RX11_337 dX11_bestDepth_160 ka_264 (by decide) rfl ?_
          refine J_lstore (lv2 := [(4, .long (m10.2 264 1)), (3, .int x6), (7, .int y12), (0, .ref (ad 0)), (1, .int x1), (2, .int x2), (6, .int x6)]) hX dX11_bestDepth_163 (Nat.le_of_ble_eq_true rfl) rfl ?_
          exact J_sub [3, 4, 5, 1, 0, 6] rfl (hj19 _ (if_pos c13).symm _ (if_pos c13).symm)
        · refine J_aload_n hX dX11_bestDepth_122 rfl 1 rfl ?_
          refine J_getR hX kf_RX11_55 dX11_bestDepth_123 ka_0 (by decide) rfl rh_0_8 ?_
          refine J_getL hX kf_RX11_337 dX11_bestDepth_126 ka_264 (by decide) rfl ?_
          refine J_lload hX dX11_bestDepth_129 5 rfl ?_
          refine J_lcmp hX dX11_bestDepth_131 ?_
          refine J_if_lt (tgt := 153) hX dX11_bestDepth_132 (by decide) (fun c14 => ?_) (fun c14 => ?_)
          · refine J_iload hX dX11_bestDepth_153 6 rfl ?_
            refine J_istore_n (lv2 := [(3, .int x6), (7, .int y12), (0, .ref (ad 0)), (1, .int x1), (2, .int x2), (4, .long x4), (6, .int x6)]) hX dX11_bestDepth_155 rfl (Nat.le_of_ble_eq_true rfl) rfl ?_
            refine J_aload_n hX dX11_bestDepth_156 rfl 2 rfl ?_
            refine J_getR hX kf_RX11_55 dX11_bestDepth_157 ka_0 (by decide) rfl rh_0_8 ?_
            refine J_getL hX kf_RX11_337 dX11_bestDepth_160 ka_264 (by decide) rfl ?_
            refine J_lstore (lv2 := [(4, .long (m10.2 264 1)), (3, .int x6), (7, .int y12), (0, .ref (ad 0)), (1, .int x1), (2, .int x2), (6, .int x6)]) hX dX11_bestDepth_163 (Nat.le_of_ble_eq_true rfl) rfl ?_
            exact J_sub [3, 4, 5, 1, 0, 6] rfl (hj19 _ ((if_neg c13).trans (if_pos c14)).symm _ ((if_neg c13).trans (if_pos c14)).symm)
          · refine J_aload_n hX dX11_bestDepth_135 rfl 1 rfl ?_
            refine J_getR hX kf_RX11_55 dX11_bestDepth_136 ka_0 (by decide) rfl rh_0_8 ?_
            refine J_getL hX kf_RX11_337 dX11_bestDepth_139 ka_264 (by decide) rfl ?_
            refine J_lload hX dX11_bestDepth_142 5 rfl ?_
            refine J_lcmp hX dX11_bestDepth_144 ?_
            refine J_if_ne (tgt := 165) hX dX11_bestDepth_145 (by decide) (fun c15 => ?_) (fun c15 => ?_)
            · exact J_sub [1, 2, 3, 4, 5, 6] rfl (hj19 _ ((if_neg c13).trans ((if_neg c14).trans (if_neg c15))).symm _ ((if_neg c13).trans ((if_neg c14).trans (if_neg c15))).symm)
            · refine J_iload hX dX11_bestDepth_148 0 rfl ?_
              refine J_if_eq (tgt := 165) hX dX11_bestDepth_150 (by decide) (fun c16 => ?_) (fun c16 => ?_)
              · exact J_sub [1, 2, 3, 4, 5, 6] rfl (hj19 _ ((if_neg c13).trans ((if_neg c14).trans ((if_pos c15).trans (if_pos c16)))).symm _ ((if_neg c13).trans ((if_neg c14).trans ((if_pos c15).trans (if_pos c16)))).symm)
              · refine J_iload hX dX11_bestDepth_153 6 rfl ?_
                refine J_istore_n (lv2 := [(3, .int x6), (7, .int y12), (0, .ref (ad 0)), (1, .int x1), (2, .int x2), (4, .long x4), (6, .int x6)]) hX dX11_bestDepth_155 rfl (Nat.le_of_ble_eq_true rfl) rfl ?_
                refine J_aload_n hX dX11_bestDepth_156 rfl 2 rfl ?_
                refine J_getR hX kf_RX11_55 dX11_bestDepth_157 ka_0 (by decide) rfl rh_0_8 ?_
                refine J_getL hX kf_RX11_337 dX11_bestDepth_160 ka_264 (by decide) rfl ?_
                refine J_lstore (lv2 := [(4, .long (m10.2 264 1)), (3, .int x6), (7, .int y12), (0, .ref (ad 0)), (1, .int x1), (2, .int x2), (6, .int x6)]) hX dX11_bestDepth_163 (Nat.le_of_ble_eq_true rfl) rfl ?_
                exact J_sub [3, 4, 5, 1, 0, 6] rfl (hj19 _ ((if_neg c13).trans ((if_neg c14).trans ((if_pos c15).trans (if_neg c16)))).symm _ ((if_neg c13).trans ((if_neg c14).trans ((if_pos c15).trans (if_neg c16)))).symm)
      refine J_icmp_ge (tgt := 113) hX dX11_bestDepth_106 (by decide) (fun c11 => ?_) (fun c11 => ?_)
      · refine J_iconst (v := (0 : Int32)) hX dX11_bestDepth_113 (by decide) ?_
        exact J_sub [0, 1, 2, 3, 4, 5] rfl (hj20 _ (if_pos c11).symm)
      · refine J_iconst (v := (1 : Int32)) hX dX11_bestDepth_109 (by decide) ?_
        refine J_goto (tgt := 114) hX dX11_bestDepth_110 (by decide) ?_
        exact J_sub [0, 1, 2, 3, 4, 5] rfl (hj20 _ (if_neg c11).symm)
set_option maxRecDepth 100000 in
theorem t_X11_bestDepth_l45 {X : XT} {ad : Nat → Nat} {K : Int32 → Mm → Prop} (hX : Cx X cX11_bestDepth 8 RX11 (rmN 6 144)) (hR : Rx X (some .int) (kI ad K) (0, 0)) (x1 : Int32) (x2 : Int32) : ∀ (n : Nat) (x3 : Int32) (x4 : Int64) (x6 : Int32) (m : Mm), wp_X11_bestDepth_l45 K x1 x2 n x3 x4 x6 m → J X (0, 0) 45 [(0, .ref (ad 0)), (1, .int x1), (2, .int x2), (3, .int x3), (4, .long x4), (6, .int x6)] [] (fl ad m) := by
  intro n
  induction n with
  | zero => intro x3 x4 x6 m h; exact h.elim
  | succ n ih => intro x3 x4 x6 m h; exact tb_X11_bestDepth_l45 hX hR x1 x2 ih x3 x4 x6 m h
set_option maxRecDepth 100000 in
theorem c_X11_bestDepth {G : GT} {ad : Nat → Nat} (x1 : Int32) (m : Mm) (K : Int32 → Mm → Prop) (h : wp_X11_bestDepth x1 m K) : Cn G yX11_bestDepth cX11_bestDepth 8 (some .int) (rmN 6 144) [.ref (ad 0), .int x1] (0, 0) (fl ad m) (kI ad K) := by
  unfold wp_X11_bestDepth at h
  refine Cn.of pn_RX11 (Nat.le_of_ble_eq_true rfl) (fun X hG hX hR => ?_)
  subst hG
  have hX : Cx X cX11_bestDepth 8 RX11 (rmN 6 144) := hX
  show J X (0, 0) 0 [(0, .ref (ad 0)), (1, .int x1)] [] (fl ad m)
  refine J_aload_n hX dX11_bestDepth_0 rfl 0 rfl ?_
  refine J_getR hX kf_RX11_10 dX11_bestDepth_1 ka_0 (by decide) rfl rh_0_0 ?_
  refine J_iload_n hX dX11_bestDepth_4 rfl 1 rfl ?_
  refine J_callV hX km_X3_hangs kl_RX11_138 dX11_bestDepth_5 ka_1 (by decide) [.int x1] ⟨Nat.le_of_ble_eq_true rfl, Nat.le_of_ble_eq_true rfl⟩ rfl rfl (Nat.le_of_ble_eq_true rfl) (c_X3_hangs 1 ka_1 x1 m) (fun v w2 hk => ?_)
  obtain ⟨rfl, rfl⟩ := hk
  show J X (0, 0) 8 [(0, .ref (ad 0)), (1, .int x1)] [.int (v_X3_hangs 1 x1 m)] (fl ad m)
  refine J_if_ne (tgt := 13) hX dX11_bestDepth_8 (by decide) (fun c1 => ?_) (fun c1 => ?_)
  · replace h := Eq.mp (if_neg c1) h
    refine J_aload_n hX dX11_bestDepth_13 rfl 0 rfl ?_
    refine J_getR hX kf_RX11_16 dX11_bestDepth_14 ka_0 (by decide) rfl rh_0_1 ?_
    refine J_aload_n hX dX11_bestDepth_17 rfl 0 rfl ?_
    refine J_getR hX kf_RX11_10 dX11_bestDepth_18 ka_0 (by decide) rfl rh_0_0 ?_
    refine J_callV hX km_X3_become kl_RX11_99 dX11_bestDepth_21 ka_16 (by decide) [.ref (ad 1)] ⟨Nat.le_of_ble_eq_true rfl, Nat.le_of_ble_eq_true rfl⟩ rfl rfl (Nat.le_of_ble_eq_true rfl) (c_X3_become 16 ka_16 1 ka_1 m _ h) (fun v w2 hk => ?_)
    obtain ⟨m2, rfl, rfl, h⟩ := hk
    show J X (0, 0) 24 [(0, .ref (ad 0)), (1, .int x1)] [] (fl ad m2)
    refine J_aload_n hX dX11_bestDepth_24 rfl 0 rfl ?_
    refine J_getR hX kf_RX11_10 dX11_bestDepth_25 ka_0 (by decide) rfl rh_0_0 ?_
    refine J_iload_n hX dX11_bestDepth_28 rfl 1 rfl ?_
    refine J_callV hX km_X3_panelAt kl_RX11_201 dX11_bestDepth_29 ka_1 (by decide) [.int x1] ⟨Nat.le_of_ble_eq_true rfl, Nat.le_of_ble_eq_true rfl⟩ rfl rfl (Nat.le_of_ble_eq_true rfl) (c_X3_panelAt 1 ka_1 x1 m2) (fun v w2 hk => ?_)
    obtain ⟨rfl, rfl⟩ := hk
    show J X (0, 0) 32 [(0, .ref (ad 0)), (1, .int x1)] [.ref (ad (v_X3_panelAt 1 x1))] (fl ad m2)
    refine J_getI hX kf_RX11_347 dX11_bestDepth_32 (kv_X3_panelAt ka_1) (by decide) rfl ?_
    refine J_nmI (fun y3 e_y3 => ?_)
    replace h := h y3 e_y3
    refine J_istore_n (lv2 := [(2, .int y3), (0, .ref (ad 0)), (1, .int x1)]) hX dX11_bestDepth_35 rfl (Nat.le_of_ble_eq_true rfl) rfl ?_
    refine J_bipush (v := (-9 : Int32)) hX dX11_bestDepth_36 (by decide) ?_
    refine J_istore_n (lv2 := [(3, .int (-9 : Int32)), (2, .int y3), (0, .ref (ad 0)), (1, .int x1)]) hX dX11_bestDepth_38 rfl (Nat.le_of_ble_eq_true rfl) rfl ?_
    refine J_lconst (v := (0 : Int64)) hX dX11_bestDepth_39 (by decide) ?_
    refine J_lstore (lv2 := [(4, .long (0 : Int64)), (3, .int (-9 : Int32)), (2, .int y3), (0, .ref (ad 0)), (1, .int x1)]) hX dX11_bestDepth_40 (Nat.le_of_ble_eq_true rfl) rfl ?_
    refine J_iconst (v := (1 : Int32)) hX dX11_bestDepth_42 (by decide) ?_
    refine J_istore (lv2 := [(6, .int (1 : Int32)), (4, .long (0 : Int64)), (3, .int (-9 : Int32)), (2, .int y3), (0, .ref (ad 0)), (1, .int x1)]) hX dX11_bestDepth_43 (Nat.le_of_ble_eq_true rfl) rfl ?_
    refine J_sub [4, 5, 3, 2, 1, 0] rfl (t_X11_bestDepth_l45 hX hR x1 y3 FU (-9 : Int32) (0 : Int64) (1 : Int32) m2 h)
  · replace h := Eq.mp (if_pos c1) h
    refine J_iconst (v := (-1 : Int32)) hX dX11_bestDepth_11 (by decide) ?_
    exact J_iret hX hR dX11_bestDepth_12 ⟨_, _, rfl, rfl, h⟩
set_option maxRecDepth 100000 in
theorem c_X3_bareFault {G : GT} {ad : Nat → Nat} (a0 : Nat) (h0 : kap a0 = 3) (x1 : Int32) (m : Mm) : Cn G yX3_bareFault cX3_bareFault 2 (some .int) (rmN 1 21) [.ref (ad a0), .int x1] (0, 0) (fl ad m) (fun v w => v = some (.int (v_X3_bareFault a0 x1 m)) ∧ w = fl ad m) := by
  refine Cn.of pn_RX3 (Nat.le_of_ble_eq_true rfl) (fun X hG hX hR => ?_)
  subst hG
  have hX : Cx X cX3_bareFault 2 RX3 (rmN 1 21) := hX
  show J X (0, 0) 0 [(0, .ref (ad a0)), (1, .int x1)] [] (fl ad m)
  refine J_aload_n hX dX3_bareFault_0 rfl 0 rfl ?_
  refine J_iload_n hX dX3_bareFault_1 rfl 1 rfl ?_
  refine J_callV hX km_X3_has kl_RX3_78 dX3_bareFault_2 h0 (by decide) [.int x1] ⟨Nat.le_of_ble_eq_true rfl, Nat.le_of_ble_eq_true rfl⟩ rfl rfl (Nat.le_of_ble_eq_true rfl) (c_X3_has a0 h0 x1 m) (fun v w2 hk => ?_)
  obtain ⟨rfl, rfl⟩ := hk
  show J X (0, 0) 5 [(0, .ref (ad a0)), (1, .int x1)] [.int (v_X3_has a0 x1 m)] (fl ad m)
  refine J_if_ne (tgt := 10) hX dX3_bareFault_5 (by decide) (fun c1 => ?_) (fun c1 => ?_)
  · refine J_aload_n hX dX3_bareFault_10 rfl 0 rfl ?_
    refine J_iload_n hX dX3_bareFault_11 rfl 1 rfl ?_
    refine J_callV hX km_X3_panelAt kl_RX3_39 dX3_bareFault_12 h0 (by decide) [.int x1] ⟨Nat.le_of_ble_eq_true rfl, Nat.le_of_ble_eq_true rfl⟩ rfl rfl (Nat.le_of_ble_eq_true rfl) (c_X3_panelAt a0 h0 x1 m) (fun v w2 hk => ?_)
    obtain ⟨rfl, rfl⟩ := hk
    show J X (0, 0) 15 [(0, .ref (ad a0)), (1, .int x1)] [.ref (ad (v_X3_panelAt a0 x1))] (fl ad m)
    refine J_getI hX kf_RX3_135 dX3_bareFault_15 (kv_X3_panelAt h0) (by decide) rfl ?_
    refine J_bipush (v := (-9 : Int32)) hX dX3_bareFault_18 (by decide) ?_
    have hj3 : ∀ y4 : Int32, y4 = (if (m.1 (v_X3_panelAt a0 x1) 7) = (-9 : Int32) then (-2 : Int32) else (0 : Int32)) → J X (0, 0) 29 [] [.int y4] (fl ad m) := by
      intro y4 e_y4
      subst e_y4
      exact J_iret hX hR dX3_bareFault_29 (And.intro (congrArg (fun z => some (Value.int z)) (show (if (m.1 (v_X3_panelAt a0 x1) 7) = (-9 : Int32) then (-2 : Int32) else (0 : Int32)) = v_X3_bareFault a0 x1 m from (if_neg c1).symm)) rfl)
    refine J_icmp_ne (tgt := 28) hX dX3_bareFault_20 (by decide) (fun c2 => ?_) (fun c2 => ?_)
    · refine J_iconst (v := (0 : Int32)) hX dX3_bareFault_28 (by decide) ?_
      exact J_sub [] rfl (hj3 _ (if_neg c2).symm)
    · refine J_bipush (v := (-2 : Int32)) hX dX3_bareFault_23 (by decide) ?_
      refine J_goto (tgt := 29) hX dX3_bareFault_25 (by decide) ?_
      exact J_sub [] rfl (hj3 _ (if_pos c2).symm)
  · refine J_iconst (v := (-1 : Int32)) hX dX3_bareFault_8 (by decide) ?_
    exact J_iret hX hR dX3_bareFault_9 (And.intro (congrArg (fun z => some (Value.int z)) (show (-1 : Int32) = v_X3_bareFault a0 x1 m from (if_pos c1).symm)) rfl)
set_option maxRecDepth 100000 in
theorem c_X3_wipe {G : GT} {ad : Nat → Nat} (a0 : Nat) (h0 : kap a0 = 3) (x1 : Int32) (m : Mm) (K : Int32 → Mm → Prop) (h : wp_X3_wipe a0 x1 m K) : Cn G yX3_wipe cX3_wipe 4 (some .int) (rmN 1 21) [.ref (ad a0), .int x1] (0, 0) (fl ad m) (kI ad K) := by
  unfold wp_X3_wipe at h
  refine Cn.of pn_RX3 (Nat.le_of_ble_eq_true rfl) (fun X hG hX hR => ?_)
  subst hG
  have hX : Cx X cX3_wipe 4 RX3 (rmN 1 21) := hX
  show J X (0, 0) 0 [(0, .ref (ad a0)), (1, .int x1)] [] (fl ad m)
  refine J_aload_n hX dX3_wipe_0 rfl 0 rfl ?_
  refine J_iload_n hX dX3_wipe_1 rfl 1 rfl ?_
  refine J_callV hX km_X3_panelAt kl_RX3_39 dX3_wipe_2 h0 (by decide) [.int x1] ⟨Nat.le_of_ble_eq_true rfl, Nat.le_of_ble_eq_true rfl⟩ rfl rfl (Nat.le_of_ble_eq_true rfl) (c_X3_panelAt a0 h0 x1 m) (fun v w2 hk => ?_)
  obtain ⟨rfl, rfl⟩ := hk
  show J X (0, 0) 5 [(0, .ref (ad a0)), (1, .int x1)] [.ref (ad (v_X3_panelAt a0 x1))] (fl ad m)
  refine J_astore_n (lv2 := [(2, .ref (ad (v_X3_panelAt a0 x1))), (0, .ref (ad a0)), (1, .int x1)]) hX dX3_wipe_5 rfl (Nat.le_of_ble_eq_true rfl) rfl ?_
  refine J_aload_n hX dX3_wipe_6 rfl 0 rfl ?_
  refine J_getI hX kf_RX3_135 dX3_wipe_7 (kv_X3_panelAt h0) (by decide) rfl ?_
  refine J_nmI (fun y1 e_y1 => ?_)
  replace h := h y1 e_y1
  refine J_istore_n (lv2 := [(3, .int y1), (2, .ref (ad (v_X3_panelAt a0 x1))), (0, .ref (ad a0)), (1, .int x1)]) hX dX3_wipe_10 rfl (Nat.le_of_ble_eq_true rfl) rfl ?_
  refine J_aload_n hX dX3_wipe_11 rfl 1 rfl ?_
  refine J_bipush (v := (-9 : Int32)) hX dX3_wipe_12 (by decide) ?_
  refine J_putI hX kf_RX3_135 dX3_wipe_14 (kv_X3_panelAt h0) (by decide) rfl ?_
  refine J_nmM (fun m2 e_m2 => ?_)
  replace h := h m2 e_m2
  refine J_iload_n hX dX3_wipe_17 rfl 0 rfl ?_
  exact J_iret hX hR dX3_wipe_18 ⟨_, _, rfl, rfl, h⟩
set_option maxRecDepth 100000 in
theorem c_X11_clearImage {G : GT} {ad : Nat → Nat} (x1 : Int32) (m : Mm) (K : Int32 → Mm → Prop) (h : wp_X11_clearImage x1 m K) : Cn G yX11_clearImage cX11_clearImage 3 (some .int) (rmN 3 67) [.ref (ad 0), .int x1] (0, 0) (fl ad m) (kI ad K) := by
  unfold wp_X11_clearImage at h
  refine Cn.of pn_RX11 (Nat.le_of_ble_eq_true rfl) (fun X hG hX hR => ?_)
  subst hG
  have hX : Cx X cX11_clearImage 3 RX11 (rmN 3 67) := hX
  show J X (0, 0) 0 [(0, .ref (ad 0)), (1, .int x1)] [] (fl ad m)
  refine J_aload_n hX dX11_clearImage_0 rfl 0 rfl ?_
  refine J_getR hX kf_RX11_10 dX11_clearImage_1 ka_0 (by decide) rfl rh_0_0 ?_
  refine J_iload_n hX dX11_clearImage_4 rfl 1 rfl ?_
  refine J_callV hX km_X3_bareFault kl_RX11_174 dX11_clearImage_5 ka_1 (by decide) [.int x1] ⟨Nat.le_of_ble_eq_true rfl, Nat.le_of_ble_eq_true rfl⟩ rfl rfl (Nat.le_of_ble_eq_true rfl) (c_X3_bareFault 1 ka_1 x1 m) (fun v w2 hk => ?_)
  obtain ⟨rfl, rfl⟩ := hk
  show J X (0, 0) 8 [(0, .ref (ad 0)), (1, .int x1)] [.int (v_X3_bareFault 1 x1 m)] (fl ad m)
  refine J_nmI (fun y1 e_y1 => ?_)
  replace h := h y1 e_y1
  refine J_istore_n (lv2 := [(2, .int y1), (0, .ref (ad 0)), (1, .int x1)]) hX dX11_clearImage_8 rfl (Nat.le_of_ble_eq_true rfl) rfl ?_
  refine J_iload_n hX dX11_clearImage_9 rfl 0 rfl ?_
  refine J_if_eq (tgt := 15) hX dX11_clearImage_10 (by decide) (fun c2 => ?_) (fun c2 => ?_)
  · replace h := Eq.mp (if_pos c2) h
    refine J_aload_n hX dX11_clearImage_15 rfl 1 rfl ?_
    refine J_getR hX kf_RX11_30 dX11_clearImage_16 ka_0 (by decide) rfl rh_0_4 ?_
    refine J_aload_n hX dX11_clearImage_19 rfl 1 rfl ?_
    refine J_getR hX kf_RX11_10 dX11_clearImage_20 ka_0 (by decide) rfl rh_0_0 ?_
    refine J_aload_n hX dX11_clearImage_23 rfl 1 rfl ?_
    refine J_getR hX kf_RX11_77 dX11_clearImage_24 ka_0 (by decide) rfl rh_0_12 ?_
    refine J_aload_n hX dX11_clearImage_27 rfl 1 rfl ?_
    refine J_getR hX kf_RX11_81 dX11_clearImage_28 ka_0 (by decide) rfl rh_0_13 ?_
    refine J_callV hX km_X6_remember kl_RX11_110 dX11_clearImage_31 ka_33 (by decide) [.ref (ad 1), .ref (ad 265), .ref (ad 266)] ⟨Nat.le_of_ble_eq_true rfl, Nat.le_of_ble_eq_true rfl⟩ rfl rfl (Nat.le_of_ble_eq_true rfl) (c_X6_remember 1 ka_1 m _ h) (fun v w2 hk => ?_)
    obtain ⟨m3, rfl, rfl, h⟩ := hk
    show J X (0, 0) 34 [(2, .int y1), (0, .ref (ad 0)), (1, .int x1)] [] (fl ad m3)
    refine J_aload_n hX dX11_clearImage_34 rfl 1 rfl ?_
    refine J_getR hX kf_RX11_10 dX11_clearImage_35 ka_0 (by decide) rfl rh_0_0 ?_
    refine J_iload_n hX dX11_clearImage_38 rfl 2 rfl ?_
    refine J_callV hX km_X3_wipe kl_RX11_178 dX11_clearImage_39 ka_1 (by decide) [.int x1] ⟨Nat.le_of_ble_eq_true rfl, Nat.le_of_ble_eq_true rfl⟩ rfl rfl (Nat.le_of_ble_eq_true rfl) (c_X3_wipe 1 ka_1 x1 m3 _ h) (fun v w2 hk => ?_)
    obtain ⟨y5, m4, rfl, rfl, h⟩ := hk
    show J X (0, 0) 42 [(2, .int y1), (0, .ref (ad 0)), (1, .int x1)] [.int y5] (fl ad m4)
    exact J_iret hX hR dX11_clearImage_42 ⟨_, _, rfl, rfl, h⟩
  · replace h := Eq.mp (if_neg c2) h
    refine J_iload_n hX dX11_clearImage_13 rfl 0 rfl ?_
    exact J_iret hX hR dX11_clearImage_14 ⟨_, _, rfl, rfl, h⟩
set_option maxRecDepth 100000 in
theorem c_X11_clearText {G : GT} {ad : Nat → Nat} (m : Mm) (K : Int32 → Mm → Prop) (h : wp_X11_clearText m K) : Cn G yX11_clearText cX11_clearText 2 (some .int) (rmN 0 0) [.ref (ad 0)] (0, 0) (fl ad m) (kI ad K) := by
  unfold wp_X11_clearText at h
  refine Cn.of pn_RX11 (Nat.le_of_ble_eq_true rfl) (fun X hG hX hR => ?_)
  subst hG
  have hX : Cx X cX11_clearText 2 RX11 (rmN 0 0) := hX
  show J X (0, 0) 0 [(0, .ref (ad 0))] [] (fl ad m)
  refine J_aload_n hX dX11_clearText_0 rfl 0 rfl ?_
  refine J_getI hX kf_RX11_82 dX11_clearText_1 ka_0 (by decide) rfl ?_
  refine J_nmI (fun y1 e_y1 => ?_)
  replace h := h y1 e_y1
  refine J_istore_n (lv2 := [(1, .int y1), (0, .ref (ad 0))]) hX dX11_clearText_4 rfl (Nat.le_of_ble_eq_true rfl) rfl ?_
  refine J_aload_n hX dX11_clearText_5 rfl 1 rfl ?_
  refine J_iconst (v := (0 : Int32)) hX dX11_clearText_6 (by decide) ?_
  refine J_putI hX kf_RX11_82 dX11_clearText_7 ka_0 (by decide) rfl ?_
  refine J_nmM (fun m2 e_m2 => ?_)
  replace h := h m2 e_m2
  refine J_iload_n hX dX11_clearText_10 rfl 0 rfl ?_
  exact J_iret hX hR dX11_clearText_11 ⟨_, _, rfl, rfl, h⟩
set_option maxRecDepth 100000 in
theorem c_X11_findSeams {G : GT} {ad : Nat → Nat} (m : Mm) (K : Mm → Prop) (h : wp_X11_findSeams m K) : Cn G yX11_findSeams cX11_findSeams 1 none (rmN 4 99) [.ref (ad 0)] (0, 0) (fl ad m) (kV ad K) := by
  unfold wp_X11_findSeams at h
  refine Cn.of pn_RX11 (Nat.le_of_ble_eq_true rfl) (fun X hG hX hR => ?_)
  subst hG
  have hX : Cx X cX11_findSeams 1 RX11 (rmN 4 99) := hX
  show J X (0, 0) 0 [(0, .ref (ad 0))] [] (fl ad m)
  refine J_aload_n hX dX11_findSeams_0 rfl 0 rfl ?_
  refine J_getR hX kf_RX11_73 dX11_findSeams_1 ka_0 (by decide) rfl rh_0_11 ?_
  refine J_aload_n hX dX11_findSeams_4 rfl 0 rfl ?_
  refine J_getR hX kf_RX11_10 dX11_findSeams_5 ka_0 (by decide) rfl rh_0_0 ?_
  refine J_iconst (v := (-1 : Int32)) hX dX11_findSeams_8 (by decide) ?_
  refine J_callV hX km_X5_fold kl_RX11_254 dX11_findSeams_9 ka_269 (by decide) [.ref (ad 1), .int (-1 : Int32)] ⟨Nat.le_of_ble_eq_true rfl, Nat.le_of_ble_eq_true rfl⟩ rfl rfl (Nat.le_of_ble_eq_true rfl) (c_X5_fold 1 ka_1 (-1 : Int32) m _ h) (fun v w2 hk => ?_)
  obtain ⟨m1, rfl, rfl, h⟩ := hk
  show J X (0, 0) 12 [(0, .ref (ad 0))] [] (fl ad m1)
  refine J_aload_n hX dX11_findSeams_12 rfl 0 rfl ?_
  refine J_getR hX kf_RX11_68 dX11_findSeams_13 ka_0 (by decide) rfl rh_0_10 ?_
  refine J_aload_n hX dX11_findSeams_16 rfl 0 rfl ?_
  refine J_getR hX kf_RX11_77 dX11_findSeams_17 ka_0 (by decide) rfl rh_0_12 ?_
  refine J_iconst (v := (0 : Int32)) hX dX11_findSeams_20 (by decide) ?_
  refine J_iald (j := 0) hX dX11_findSeams_21 ka_265 le_265 (vp_lit (by decide)) (by decide) ?_
  refine J_callV hX km_X10_find kl_RX11_373 dX11_findSeams_22 ka_268 (by decide) [.int (m1.1 265 0)] ⟨Nat.le_of_ble_eq_true rfl, Nat.le_of_ble_eq_true rfl⟩ rfl rfl (Nat.le_of_ble_eq_true rfl) (c_X10_find (m1.1 265 0) m1 _ h) (fun v w2 hk => ?_)
  obtain ⟨m2, rfl, rfl, h⟩ := hk
  show J X (0, 0) 25 [(0, .ref (ad 0))] [] (fl ad m2)
  exact J_vret hX hR dX11_findSeams_25 ⟨_, rfl, rfl, h⟩
set_option maxRecDepth 100000 in
theorem c_X11_continueImage {G : GT} {ad : Nat → Nat} (x1 : Int32) (x2 : Int32) (m : Mm) (K : Int32 → Mm → Prop) (h : wp_X11_continueImage x1 x2 m K) : Cn G yX11_continueImage cX11_continueImage 3 (some .int) (rmN 5 119) [.ref (ad 0), .int x1, .int x2] (0, 0) (fl ad m) (kI ad K) := by
  unfold wp_X11_continueImage at h
  refine Cn.of pn_RX11 (Nat.le_of_ble_eq_true rfl) (fun X hG hX hR => ?_)
  subst hG
  have hX : Cx X cX11_continueImage 3 RX11 (rmN 5 119) := hX
  show J X (0, 0) 0 [(0, .ref (ad 0)), (1, .int x1), (2, .int x2)] [] (fl ad m)
  refine J_aload_n hX dX11_continueImage_0 rfl 0 rfl ?_
  refine J_callV hX km_X11_findSeams kl_RX11_181 dX11_continueImage_1 ka_0 (by decide) [] ⟨Nat.le_of_ble_eq_true rfl, Nat.le_of_ble_eq_true rfl⟩ rfl rfl (Nat.le_of_ble_eq_true rfl) (c_X11_findSeams m _ h) (fun v w2 hk => ?_)
  obtain ⟨m1, rfl, rfl, h⟩ := hk
  show J X (0, 0) 4 [(0, .ref (ad 0)), (1, .int x1), (2, .int x2)] [] (fl ad m1)
  refine J_aload_n hX dX11_continueImage_4 rfl 0 rfl ?_
  refine J_getR hX kf_RX11_68 dX11_continueImage_5 ka_0 (by decide) rfl rh_0_10 ?_
  refine J_iload_n hX dX11_continueImage_8 rfl 1 rfl ?_
  refine J_callV hX km_X10_has kl_RX11_184 dX11_continueImage_9 ka_268 (by decide) [.int x1] ⟨Nat.le_of_ble_eq_true rfl, Nat.le_of_ble_eq_true rfl⟩ rfl rfl (Nat.le_of_ble_eq_true rfl) (c_X10_has x1 m1) (fun v w2 hk => ?_)
  obtain ⟨rfl, rfl⟩ := hk
  show J X (0, 0) 12 [(0, .ref (ad 0)), (1, .int x1), (2, .int x2)] [.int (v_X10_has x1 m1)] (fl ad m1)
  refine J_if_ne (tgt := 17) hX dX11_continueImage_12 (by decide) (fun c2 => ?_) (fun c2 => ?_)
  · replace h := Eq.mp (if_neg c2) h
    refine J_aload_n hX dX11_continueImage_17 rfl 0 rfl ?_
    refine J_getR hX kf_RX11_63 dX11_continueImage_18 ka_0 (by decide) rfl rh_0_9 ?_
    refine J_aload_n hX dX11_continueImage_21 rfl 0 rfl ?_
    refine J_getR hX kf_RX11_10 dX11_continueImage_22 ka_0 (by decide) rfl rh_0_0 ?_
    refine J_iload_n hX dX11_continueImage_25 rfl 1 rfl ?_
    refine J_iload_n hX dX11_continueImage_26 rfl 2 rfl ?_
    refine J_callV hX km_X0_plan kl_RX11_189 dX11_continueImage_27 ka_267 (by decide) [.ref (ad 1), .int x1, .int x2] ⟨Nat.le_of_ble_eq_true rfl, Nat.le_of_ble_eq_true rfl⟩ rfl rfl (Nat.le_of_ble_eq_true rfl) (c_X0_plan 1 ka_1 x1 x2 m1 _ h) (fun v w2 hk => ?_)
    obtain ⟨y4, m3, rfl, rfl, h⟩ := hk
    show J X (0, 0) 30 [(0, .ref (ad 0)), (1, .int x1), (2, .int x2)] [.int y4] (fl ad m3)
    refine J_if_ne (tgt := 36) hX dX11_continueImage_30 (by decide) (fun c5 => ?_) (fun c5 => ?_)
    · replace h := Eq.mp (if_neg c5) h
      refine J_aload_n hX dX11_continueImage_36 rfl 0 rfl ?_
      refine J_getR hX kf_RX11_30 dX11_continueImage_37 ka_0 (by decide) rfl rh_0_4 ?_
      refine J_aload_n hX dX11_continueImage_40 rfl 0 rfl ?_
      refine J_getR hX kf_RX11_10 dX11_continueImage_41 ka_0 (by decide) rfl rh_0_0 ?_
      refine J_aload_n hX dX11_continueImage_44 rfl 0 rfl ?_
      refine J_getR hX kf_RX11_77 dX11_continueImage_45 ka_0 (by decide) rfl rh_0_12 ?_
      refine J_aload_n hX dX11_continueImage_48 rfl 0 rfl ?_
      refine J_getR hX kf_RX11_81 dX11_continueImage_49 ka_0 (by decide) rfl rh_0_13 ?_
      refine J_callV hX km_X6_remember kl_RX11_110 dX11_continueImage_52 ka_33 (by decide) [.ref (ad 1), .ref (ad 265), .ref (ad 266)] ⟨Nat.le_of_ble_eq_true rfl, Nat.le_of_ble_eq_true rfl⟩ rfl rfl (Nat.le_of_ble_eq_true rfl) (c_X6_remember 1 ka_1 m3 _ h) (fun v w2 hk => ?_)
      obtain ⟨m6, rfl, rfl, h⟩ := hk
      show J X (0, 0) 55 [(0, .ref (ad 0)), (1, .int x1), (2, .int x2)] [] (fl ad m6)
      refine J_aload_n hX dX11_continueImage_55 rfl 0 rfl ?_
      refine J_getR hX kf_RX11_63 dX11_continueImage_56 ka_0 (by decide) rfl rh_0_9 ?_
      refine J_aload_n hX dX11_continueImage_59 rfl 0 rfl ?_
      refine J_getR hX kf_RX11_10 dX11_continueImage_60 ka_0 (by decide) rfl rh_0_0 ?_
      refine J_callV hX km_X0_carryOut kl_RX11_195 dX11_continueImage_63 ka_267 (by decide) [.ref (ad 1)] ⟨Nat.le_of_ble_eq_true rfl, Nat.le_of_ble_eq_true rfl⟩ rfl rfl (Nat.le_of_ble_eq_true rfl) (c_X0_carryOut 1 ka_1 m6 _ h) (fun v w2 hk => ?_)
      obtain ⟨m7, rfl, rfl, h⟩ := hk
      show J X (0, 0) 66 [(0, .ref (ad 0)), (1, .int x1), (2, .int x2)] [] (fl ad m7)
      refine J_aload_n hX dX11_continueImage_66 rfl 0 rfl ?_
      refine J_getR hX kf_RX11_63 dX11_continueImage_67 ka_0 (by decide) rfl rh_0_9 ?_
      refine J_getI hX kf_RX11_198 dX11_continueImage_70 ka_267 (by decide) rfl ?_
      exact J_iret hX hR dX11_continueImage_73 ⟨_, _, rfl, rfl, h⟩
    · replace h := Eq.mp (if_pos c5) h
      refine J_bipush (v := (-2 : Int32)) hX dX11_continueImage_33 (by decide) ?_
      exact J_iret hX hR dX11_continueImage_35 ⟨_, _, rfl, rfl, h⟩
  · replace h := Eq.mp (if_pos c2) h
    refine J_iconst (v := (-1 : Int32)) hX dX11_continueImage_15 (by decide) ?_
    exact J_iret hX hR dX11_continueImage_16 ⟨_, _, rfl, rfl, h⟩
set_option maxRecDepth 100000 in
theorem c_X11_corner {G : GT} {ad : Nat → Nat} (x1 : Int32) (x2 : Int32) (x3 : Int32) (m : Mm) (K : Int32 → Mm → Prop) (h : wp_X11_corner x1 x2 x3 m K) : Cn G yX11_corner cX11_corner 4 (some .int) (rmN 4 99) [.ref (ad 0), .int x1, .int x2, .int x3] (0, 0) (fl ad m) (kI ad K) := by
  unfold wp_X11_corner at h
  refine Cn.of pn_RX11 (Nat.le_of_ble_eq_true rfl) (fun X hG hX hR => ?_)
  subst hG
  have hX : Cx X cX11_corner 4 RX11 (rmN 4 99) := hX
  show J X (0, 0) 0 [(0, .ref (ad 0)), (1, .int x1), (2, .int x2), (3, .int x3)] [] (fl ad m)
  refine J_aload_n hX dX11_corner_0 rfl 0 rfl ?_
  refine J_getR hX kf_RX11_10 dX11_corner_1 ka_0 (by decide) rfl rh_0_0 ?_
  refine J_iload_n hX dX11_corner_4 rfl 1 rfl ?_
  refine J_callV hX km_X3_has kl_RX11_223 dX11_corner_5 ka_1 (by decide) [.int x1] ⟨Nat.le_of_ble_eq_true rfl, Nat.le_of_ble_eq_true rfl⟩ rfl rfl (Nat.le_of_ble_eq_true rfl) (c_X3_has 1 ka_1 x1 m) (fun v w2 hk => ?_)
  obtain ⟨rfl, rfl⟩ := hk
  show J X (0, 0) 8 [(0, .ref (ad 0)), (1, .int x1), (2, .int x2), (3, .int x3)] [.int (v_X3_has 1 x1 m)] (fl ad m)
  refine J_if_eq (tgt := 29) hX dX11_corner_8 (by decide) (fun c1 => ?_) (fun c1 => ?_)
  · replace h := Eq.mp (if_pos c1) h
    refine J_iconst (v := (-1 : Int32)) hX dX11_corner_29 (by decide) ?_
    exact J_iret hX hR dX11_corner_30 ⟨_, _, rfl, rfl, h⟩
  · replace h := Eq.mp (if_neg c1) h
    refine J_iload_n hX dX11_corner_11 rfl 2 rfl ?_
    refine J_if_lt (tgt := 29) hX dX11_corner_12 (by decide) (fun c2 => ?_) (fun c2 => ?_)
    · replace h := Eq.mp (if_pos c2) h
      refine J_iconst (v := (-1 : Int32)) hX dX11_corner_29 (by decide) ?_
      exact J_iret hX hR dX11_corner_30 ⟨_, _, rfl, rfl, h⟩
    · replace h := Eq.mp (if_neg c2) h
      refine J_iload_n hX dX11_corner_15 rfl 2 rfl ?_
      refine J_iconst (v := (3 : Int32)) hX dX11_corner_16 (by decide) ?_
      refine J_icmp_gt (tgt := 29) hX dX11_corner_17 (by decide) (fun c3 => ?_) (fun c3 => ?_)
      · replace h := Eq.mp (if_pos c3) h
        refine J_iconst (v := (-1 : Int32)) hX dX11_corner_29 (by decide) ?_
        exact J_iret hX hR dX11_corner_30 ⟨_, _, rfl, rfl, h⟩
      · replace h := Eq.mp (if_neg c3) h
        refine J_iload_n hX dX11_corner_20 rfl 3 rfl ?_
        refine J_if_lt (tgt := 29) hX dX11_corner_21 (by decide) (fun c4 => ?_) (fun c4 => ?_)
        · replace h := Eq.mp (if_pos c4) h
          refine J_iconst (v := (-1 : Int32)) hX dX11_corner_29 (by decide) ?_
          exact J_iret hX hR dX11_corner_30 ⟨_, _, rfl, rfl, h⟩
        · replace h := Eq.mp (if_neg c4) h
          refine J_iload_n hX dX11_corner_24 rfl 3 rfl ?_
          refine J_iconst (v := (2 : Int32)) hX dX11_corner_25 (by decide) ?_
          refine J_icmp_le (tgt := 31) hX dX11_corner_26 (by decide) (fun c5 => ?_) (fun c5 => ?_)
          · replace h := Eq.mp (if_pos c5) h
            refine J_aload_n hX dX11_corner_31 rfl 0 rfl ?_
            refine J_getR hX kf_RX11_73 dX11_corner_32 ka_0 (by decide) rfl rh_0_11 ?_
            refine J_aload_n hX dX11_corner_35 rfl 0 rfl ?_
            refine J_getR hX kf_RX11_10 dX11_corner_36 ka_0 (by decide) rfl rh_0_0 ?_
            refine J_iconst (v := (-1 : Int32)) hX dX11_corner_39 (by decide) ?_
            refine J_callV hX km_X5_fold kl_RX11_254 dX11_corner_40 ka_269 (by decide) [.ref (ad 1), .int (-1 : Int32)] ⟨Nat.le_of_ble_eq_true rfl, Nat.le_of_ble_eq_true rfl⟩ rfl rfl (Nat.le_of_ble_eq_true rfl) (c_X5_fold 1 ka_1 (-1 : Int32) m _ h) (fun v w2 hk => ?_)
            obtain ⟨m6, rfl, rfl, h⟩ := hk
            show J X (0, 0) 43 [(0, .ref (ad 0)), (1, .int x1), (2, .int x2), (3, .int x3)] [] (fl ad m6)
            refine J_aload_n hX dX11_corner_43 rfl 0 rfl ?_
            refine J_getR hX kf_RX11_73 dX11_corner_44 ka_0 (by decide) rfl rh_0_11 ?_
            refine J_iload_n hX dX11_corner_47 rfl 1 rfl ?_
            refine J_callV hX km_X5_poseAt kl_RX11_260 dX11_corner_48 ka_269 (by decide) [.int x1] ⟨Nat.le_of_ble_eq_true rfl, Nat.le_of_ble_eq_true rfl⟩ rfl rfl (Nat.le_of_ble_eq_true rfl) (c_X5_poseAt x1 m6) (fun v w2 hk => ?_)
            obtain ⟨rfl, rfl⟩ := hk
            show J X (0, 0) 51 [(0, .ref (ad 0)), (1, .int x1), (2, .int x2), (3, .int x3)] [.ref (ad (v_X5_poseAt x1))] (fl ad m6)
            refine J_iload_n hX dX11_corner_51 rfl 2 rfl ?_
            refine J_iload_n hX dX11_corner_52 rfl 3 rfl ?_
            refine J_callV hX km_X8_cornerAt kl_RX11_264 dX11_corner_53 kv_X5_poseAt (by decide) [.int x2, .int x3] ⟨Nat.le_of_ble_eq_true rfl, Nat.le_of_ble_eq_true rfl⟩ rfl rfl (Nat.le_of_ble_eq_true rfl) (c_X8_cornerAt (v_X5_poseAt x1) kv_X5_poseAt x2 x3 m6) (fun v w2 hk => ?_)
            obtain ⟨rfl, rfl⟩ := hk
            show J X (0, 0) 56 [(0, .ref (ad 0)), (1, .int x1), (2, .int x2), (3, .int x3)] [.int (v_X8_cornerAt (v_X5_poseAt x1) x2 x3 m6)] (fl ad m6)
            exact J_iret hX hR dX11_corner_56 ⟨_, _, rfl, rfl, h⟩
          · replace h := Eq.mp (if_neg c5) h
            refine J_iconst (v := (-1 : Int32)) hX dX11_corner_29 (by decide) ?_
            exact J_iret hX hR dX11_corner_30 ⟨_, _, rfl, rfl, h⟩
set_option maxRecDepth 100000 in
theorem tb_X3_foldedPanels_l4 {X : XT} {ad : Nat → Nat} {K : Int32 → Mm → Prop} (hX : Cx X cX3_foldedPanels 3 RX3 (rmN 1 21)) (hR : Rx X (some .int) (kI ad K) (0, 0)) {rec : Int32 → Int32 → Mm → Prop} (a0 : Nat) (h0 : kap a0 = 3) (hrec : ∀ (x1 : Int32) (x2 : Int32) (m : Mm), rec x1 x2 m → J X (0, 0) 4 [(0, .ref (ad a0)), (1, .int x1), (2, .int x2)] [] (fl ad m)) (x1 : Int32) (x2 : Int32) (m : Mm) (h : wb_X3_foldedPanels_l4 rec K a0 x1 x2 m) : J X (0, 0) 4 [(0, .ref (ad a0)), (1, .int x1), (2, .int x2)] [] (fl ad m) := by
  unfold wb_X3_foldedPanels_l4 at h
  refine J_iload_n hX dX3_foldedPanels_4 rfl 2 rfl ?_
  refine J_aload_n hX dX3_foldedPanels_5 rfl 0 rfl ?_
  refine J_getI hX kf_RX3_25 dX3_foldedPanels_6 h0 (by decide) rfl ?_
  refine J_icmp_ge (tgt := 37) hX dX3_foldedPanels_9 (by decide) (fun c1 => ?_) (fun c1 => ?_)
  · replace h := Eq.mp (if_pos c1) h
    refine J_iload_n hX dX3_foldedPanels_37 rfl 1 rfl ?_
    exact J_iret hX hR dX3_foldedPanels_38 ⟨_, _, rfl, rfl, h⟩
  · replace h := Eq.mp (if_neg c1) h
    refine J_iload_n hX dX3_foldedPanels_12 rfl 1 rfl ?_
    refine J_aload_n hX dX3_foldedPanels_13 rfl 0 rfl ?_
    refine J_iload_n hX dX3_foldedPanels_14 rfl 2 rfl ?_
    refine J_callV hX km_X3_panelAt kl_RX3_39 dX3_foldedPanels_15 h0 (by decide) [.int x2] ⟨Nat.le_of_ble_eq_true rfl, Nat.le_of_ble_eq_true rfl⟩ rfl rfl (Nat.le_of_ble_eq_true rfl) (c_X3_panelAt a0 h0 x2 m) (fun v w2 hk => ?_)
    obtain ⟨rfl, rfl⟩ := hk
    show J X (0, 0) 18 [(0, .ref (ad a0)), (1, .int x1), (2, .int x2)] [.ref (ad (v_X3_panelAt a0 x2)), .int x1] (fl ad m)
    refine J_getI hX kf_RX3_75 dX3_foldedPanels_18 (kv_X3_panelAt h0) (by decide) rfl ?_
    have hj5 : ∀ y3 : Int32, y3 = (if (m.1 (v_X3_panelAt a0 x2) 5) = (0 : Int32) then (0 : Int32) else (1 : Int32)) → J X (0, 0) 29 [(0, .ref (ad a0)), (2, .int x2)] [.int y3, .int x1] (fl ad m) := by
      intro y3 e_y3
      replace h := h y3 e_y3
      refine J_iadd hX dX3_foldedPanels_29 ?_
      refine J_nmI (fun y4 e_y4 => ?_)
      replace h := h y4 e_y4
      refine J_istore_n (lv2 := [(1, .int y4), (0, .ref (ad a0)), (2, .int x2)]) hX dX3_foldedPanels_30 rfl (Nat.le_of_ble_eq_true rfl) rfl ?_
      refine J_iinc (x := (x2 + (1 : Int32))) (lv2 := [(2, .int (x2 + (1 : Int32))), (1, .int y4), (0, .ref (ad a0))]) hX dX3_foldedPanels_31 2 rfl rfl (Nat.le_of_ble_eq_true rfl) rfl ?_
      refine J_goto (tgt := 4) hX dX3_foldedPanels_34 (by decide) ?_
      exact J_sub [2, 1, 0] rfl (hrec y4 (x2 + (1 : Int32)) m h)
    refine J_if_eq (tgt := 28) hX dX3_foldedPanels_21 (by decide) (fun c2 => ?_) (fun c2 => ?_)
    · refine J_iconst (v := (0 : Int32)) hX dX3_foldedPanels_28 (by decide) ?_
      exact J_sub [0, 2] rfl (hj5 _ (if_pos c2).symm)
    · refine J_iconst (v := (1 : Int32)) hX dX3_foldedPanels_24 (by decide) ?_
      refine J_goto (tgt := 29) hX dX3_foldedPanels_25 (by decide) ?_
      exact J_sub [0, 2] rfl (hj5 _ (if_neg c2).symm)
set_option maxRecDepth 100000 in
theorem t_X3_foldedPanels_l4 {X : XT} {ad : Nat → Nat} {K : Int32 → Mm → Prop} (hX : Cx X cX3_foldedPanels 3 RX3 (rmN 1 21)) (hR : Rx X (some .int) (kI ad K) (0, 0)) (a0 : Nat) (h0 : kap a0 = 3) : ∀ (n : Nat) (x1 : Int32) (x2 : Int32) (m : Mm), wp_X3_foldedPanels_l4 K a0 n x1 x2 m → J X (0, 0) 4 [(0, .ref (ad a0)), (1, .int x1), (2, .int x2)] [] (fl ad m) := by
  intro n
  induction n with
  | zero => intro x1 x2 m h; exact h.elim
  | succ n ih => intro x1 x2 m h; exact tb_X3_foldedPanels_l4 hX hR a0 h0 ih x1 x2 m h
set_option maxRecDepth 100000 in
theorem c_X3_foldedPanels {G : GT} {ad : Nat → Nat} (a0 : Nat) (h0 : kap a0 = 3) (m : Mm) (K : Int32 → Mm → Prop) (h : wp_X3_foldedPanels a0 m K) : Cn G yX3_foldedPanels cX3_foldedPanels 3 (some .int) (rmN 1 21) [.ref (ad a0)] (0, 0) (fl ad m) (kI ad K) := by
  unfold wp_X3_foldedPanels at h
  refine Cn.of pn_RX3 (Nat.le_of_ble_eq_true rfl) (fun X hG hX hR => ?_)
  subst hG
  have hX : Cx X cX3_foldedPanels 3 RX3 (rmN 1 21) := hX
  show J X (0, 0) 0 [(0, .ref (ad a0))] [] (fl ad m)
  refine J_iconst (v := (0 : Int32)) hX dX3_foldedPanels_0 (by decide) ?_
  refine J_istore_n (lv2 := [(1, .int (0 : Int32)), (0, .ref (ad a0))]) hX dX3_foldedPanels_1 rfl (Nat.le_of_ble_eq_true rfl) rfl ?_
  refine J_iconst (v := (1 : Int32)) hX dX3_foldedPanels_2 (by decide) ?_
  refine J_istore_n (lv2 := [(2, .int (1 : Int32)), (1, .int (0 : Int32)), (0, .ref (ad a0))]) hX dX3_foldedPanels_3 rfl (Nat.le_of_ble_eq_true rfl) rfl ?_
  refine J_sub [2, 1, 0] rfl (t_X3_foldedPanels_l4 hX hR a0 h0 FU (0 : Int32) (1 : Int32) m h)
set_option maxRecDepth 100000 in
theorem tb_X3_flaps_l4 {X : XT} {ad : Nat → Nat} {K : Int32 → Mm → Prop} (hX : Cx X cX3_flaps 3 RX3 (rmN 1 21)) (hR : Rx X (some .int) (kI ad K) (0, 0)) {rec : Int32 → Int32 → Mm → Prop} (a0 : Nat) (h0 : kap a0 = 3) (hrec : ∀ (x1 : Int32) (x2 : Int32) (m : Mm), rec x1 x2 m → J X (0, 0) 4 [(0, .ref (ad a0)), (1, .int x1), (2, .int x2)] [] (fl ad m)) (x1 : Int32) (x2 : Int32) (m : Mm) (h : wb_X3_flaps_l4 rec K a0 x1 x2 m) : J X (0, 0) 4 [(0, .ref (ad a0)), (1, .int x1), (2, .int x2)] [] (fl ad m) := by
  unfold wb_X3_flaps_l4 at h
  refine J_iload_n hX dX3_flaps_4 rfl 2 rfl ?_
  refine J_aload_n hX dX3_flaps_5 rfl 0 rfl ?_
  refine J_getI hX kf_RX3_25 dX3_flaps_6 h0 (by decide) rfl ?_
  refine J_icmp_ge (tgt := 37) hX dX3_flaps_9 (by decide) (fun c1 => ?_) (fun c1 => ?_)
  · replace h := Eq.mp (if_pos c1) h
    refine J_iload_n hX dX3_flaps_37 rfl 1 rfl ?_
    exact J_iret hX hR dX3_flaps_38 ⟨_, _, rfl, rfl, h⟩
  · replace h := Eq.mp (if_neg c1) h
    refine J_iload_n hX dX3_flaps_12 rfl 1 rfl ?_
    refine J_aload_n hX dX3_flaps_13 rfl 0 rfl ?_
    refine J_iload_n hX dX3_flaps_14 rfl 2 rfl ?_
    refine J_callV hX km_X3_panelAt kl_RX3_39 dX3_flaps_15 h0 (by decide) [.int x2] ⟨Nat.le_of_ble_eq_true rfl, Nat.le_of_ble_eq_true rfl⟩ rfl rfl (Nat.le_of_ble_eq_true rfl) (c_X3_panelAt a0 h0 x2 m) (fun v w2 hk => ?_)
    obtain ⟨rfl, rfl⟩ := hk
    show J X (0, 0) 18 [(0, .ref (ad a0)), (1, .int x1), (2, .int x2)] [.ref (ad (v_X3_panelAt a0 x2)), .int x1] (fl ad m)
    refine J_callV hX km_X7_isFlap kl_RX3_147 dX3_flaps_18 (kv_X3_panelAt h0) (by decide) [] ⟨Nat.le_of_ble_eq_true rfl, Nat.le_of_ble_eq_true rfl⟩ rfl rfl (Nat.le_of_ble_eq_true rfl) (c_X7_isFlap (v_X3_panelAt a0 x2) (kv_X3_panelAt h0) m) (fun v w2 hk => ?_)
    obtain ⟨rfl, rfl⟩ := hk
    show J X (0, 0) 21 [(0, .ref (ad a0)), (1, .int x1), (2, .int x2)] [.int (v_X7_isFlap (v_X3_panelAt a0 x2) m), .int x1] (fl ad m)
    have hj5 : ∀ y3 : Int32, y3 = (if (v_X7_isFlap (v_X3_panelAt a0 x2) m) = (0 : Int32) then (0 : Int32) else (1 : Int32)) → J X (0, 0) 29 [(0, .ref (ad a0)), (2, .int x2)] [.int y3, .int x1] (fl ad m) := by
      intro y3 e_y3
      replace h := h y3 e_y3
      refine J_iadd hX dX3_flaps_29 ?_
      refine J_nmI (fun y4 e_y4 => ?_)
      replace h := h y4 e_y4
      refine J_istore_n (lv2 := [(1, .int y4), (0, .ref (ad a0)), (2, .int x2)]) hX dX3_flaps_30 rfl (Nat.le_of_ble_eq_true rfl) rfl ?_
      refine J_iinc (x := (x2 + (1 : Int32))) (lv2 := [(2, .int (x2 + (1 : Int32))), (1, .int y4), (0, .ref (ad a0))]) hX dX3_flaps_31 2 rfl rfl (Nat.le_of_ble_eq_true rfl) rfl ?_
      refine J_goto (tgt := 4) hX dX3_flaps_34 (by decide) ?_
      exact J_sub [2, 1, 0] rfl (hrec y4 (x2 + (1 : Int32)) m h)
    refine J_if_eq (tgt := 28) hX dX3_flaps_21 (by decide) (fun c2 => ?_) (fun c2 => ?_)
    · refine J_iconst (v := (0 : Int32)) hX dX3_flaps_28 (by decide) ?_
      exact J_sub [0, 2] rfl (hj5 _ (if_pos c2).symm)
    · refine J_iconst (v := (1 : Int32)) hX dX3_flaps_24 (by decide) ?_
      refine J_goto (tgt := 29) hX dX3_flaps_25 (by decide) ?_
      exact J_sub [0, 2] rfl (hj5 _ (if_neg c2).symm)
set_option maxRecDepth 100000 in
theorem t_X3_flaps_l4 {X : XT} {ad : Nat → Nat} {K : Int32 → Mm → Prop} (hX : Cx X cX3_flaps 3 RX3 (rmN 1 21)) (hR : Rx X (some .int) (kI ad K) (0, 0)) (a0 : Nat) (h0 : kap a0 = 3) : ∀ (n : Nat) (x1 : Int32) (x2 : Int32) (m : Mm), wp_X3_flaps_l4 K a0 n x1 x2 m → J X (0, 0) 4 [(0, .ref (ad a0)), (1, .int x1), (2, .int x2)] [] (fl ad m) := by
  intro n
  induction n with
  | zero => intro x1 x2 m h; exact h.elim
  | succ n ih => intro x1 x2 m h; exact tb_X3_flaps_l4 hX hR a0 h0 ih x1 x2 m h
set_option maxRecDepth 100000 in
theorem c_X3_flaps {G : GT} {ad : Nat → Nat} (a0 : Nat) (h0 : kap a0 = 3) (m : Mm) (K : Int32 → Mm → Prop) (h : wp_X3_flaps a0 m K) : Cn G yX3_flaps cX3_flaps 3 (some .int) (rmN 1 21) [.ref (ad a0)] (0, 0) (fl ad m) (kI ad K) := by
  unfold wp_X3_flaps at h
  refine Cn.of pn_RX3 (Nat.le_of_ble_eq_true rfl) (fun X hG hX hR => ?_)
  subst hG
  have hX : Cx X cX3_flaps 3 RX3 (rmN 1 21) := hX
  show J X (0, 0) 0 [(0, .ref (ad a0))] [] (fl ad m)
  refine J_iconst (v := (0 : Int32)) hX dX3_flaps_0 (by decide) ?_
  refine J_istore_n (lv2 := [(1, .int (0 : Int32)), (0, .ref (ad a0))]) hX dX3_flaps_1 rfl (Nat.le_of_ble_eq_true rfl) rfl ?_
  refine J_iconst (v := (1 : Int32)) hX dX3_flaps_2 (by decide) ?_
  refine J_istore_n (lv2 := [(2, .int (1 : Int32)), (1, .int (0 : Int32)), (0, .ref (ad a0))]) hX dX3_flaps_3 rfl (Nat.le_of_ble_eq_true rfl) rfl ?_
  refine J_sub [2, 1, 0] rfl (t_X3_flaps_l4 hX hR a0 h0 FU (0 : Int32) (1 : Int32) m h)
theorem bv_X3_hasImage (a0 : Nat) (x1 : Int32) (m : Mm) : bo (v_X3_hasImage a0 x1 m) := (bo_ite bo_0 (bo_ite bo_0 (bo_ite bo_0 bo_1)))
set_option maxRecDepth 100000 in
theorem c_X3_hasImage {G : GT} {ad : Nat → Nat} (a0 : Nat) (h0 : kap a0 = 3) (x1 : Int32) (m : Mm) : Cn G yX3_hasImage cX3_hasImage 2 (some .boolean) (rmN 0 0) [.ref (ad a0), .int x1] (0, 0) (fl ad m) (fun v w => v = some (.int (v_X3_hasImage a0 x1 m)) ∧ w = fl ad m) := by
  refine Cn.of pn_RX3 (Nat.le_of_ble_eq_true rfl) (fun X hG hX hR => ?_)
  subst hG
  have hX : Cx X cX3_hasImage 2 RX3 (rmN 0 0) := hX
  show J X (0, 0) 0 [(0, .ref (ad a0)), (1, .int x1)] [] (fl ad m)
  refine J_iload_n hX dX3_hasImage_0 rfl 1 rfl ?_
  have hj4 : ∀ y5 : Int32, y5 = (if x1 < (0 : Int32) then (0 : Int32) else (if (4 : Int32) ≤ x1 then (0 : Int32) else (if (m.1 (a0 + 1) x1.toNatClampNeg) ≤ (0 : Int32) then (0 : Int32) else (1 : Int32)))) → J X (0, 0) 23 [] [.int y5] (fl ad m) := by
    intro y5 e_y5
    subst e_y5
    exact J_zret hX hR dX3_hasImage_23 (bo_ite bo_0 (bo_ite bo_0 (bo_ite bo_0 bo_1))) (And.intro (congrArg (fun z => some (Value.int z)) (show (if x1 < (0 : Int32) then (0 : Int32) else (if (4 : Int32) ≤ x1 then (0 : Int32) else (if (m.1 (a0 + 1) x1.toNatClampNeg) ≤ (0 : Int32) then (0 : Int32) else (1 : Int32)))) = v_X3_hasImage a0 x1 m from rfl)) rfl)
  refine J_if_lt (tgt := 22) hX dX3_hasImage_1 (by decide) (fun c1 => ?_) (fun c1 => ?_)
  · refine J_iconst (v := (0 : Int32)) hX dX3_hasImage_22 (by decide) ?_
    exact J_sub [] rfl (hj4 _ (if_pos c1).symm)
  · refine J_iload_n hX dX3_hasImage_4 rfl 1 rfl ?_
    refine J_iconst (v := (4 : Int32)) hX dX3_hasImage_5 (by decide) ?_
    refine J_icmp_ge (tgt := 22) hX dX3_hasImage_6 (by decide) (fun c2 => ?_) (fun c2 => ?_)
    · refine J_iconst (v := (0 : Int32)) hX dX3_hasImage_22 (by decide) ?_
      exact J_sub [] rfl (hj4 _ ((if_neg c1).trans (if_pos c2)).symm)
    · refine J_aload_n hX dX3_hasImage_9 rfl 0 rfl ?_
      refine J_getR hX kf_RX3_9 dX3_hasImage_10 h0 (by decide) rfl (ro_3_0 h0) ?_
      refine J_iload_n hX dX3_hasImage_13 rfl 1 rfl ?_
      refine J_iald (j := x1.toNatClampNeg) hX dX3_hasImage_14 (ko_3_0 h0) (lo_3_0 h0) (vp_b (lo_2 c1) (up_2 c2 (by decide))) rfl ?_
      refine J_if_le (tgt := 22) hX dX3_hasImage_15 (by decide) (fun c3 => ?_) (fun c3 => ?_)
      · refine J_iconst (v := (0 : Int32)) hX dX3_hasImage_22 (by decide) ?_
        exact J_sub [] rfl (hj4 _ ((if_neg c1).trans ((if_neg c2).trans (if_pos c3))).symm)
      · refine J_iconst (v := (1 : Int32)) hX dX3_hasImage_18 (by decide) ?_
        refine J_goto (tgt := 23) hX dX3_hasImage_19 (by decide) ?_
        exact J_sub [] rfl (hj4 _ ((if_neg c1).trans ((if_neg c2).trans (if_neg c3))).symm)
set_option maxRecDepth 100000 in
theorem tb_X3_definedImages_l4 {X : XT} {ad : Nat → Nat} {K : Int32 → Mm → Prop} (hX : Cx X cX3_definedImages 3 RX3 (rmN 1 21)) (hR : Rx X (some .int) (kI ad K) (0, 0)) {rec : Int32 → Int32 → Mm → Prop} (a0 : Nat) (h0 : kap a0 = 3) (hrec : ∀ (x1 : Int32) (x2 : Int32) (m : Mm), rec x1 x2 m → J X (0, 0) 4 [(0, .ref (ad a0)), (1, .int x1), (2, .int x2)] [] (fl ad m)) (x1 : Int32) (x2 : Int32) (m : Mm) (h : wb_X3_definedImages_l4 rec K a0 x1 x2 m) : J X (0, 0) 4 [(0, .ref (ad a0)), (1, .int x1), (2, .int x2)] [] (fl ad m) := by
  unfold wb_X3_definedImages_l4 at h
  refine J_iload_n hX dX3_definedImages_4 rfl 2 rfl ?_
  refine J_iconst (v := (4 : Int32)) hX dX3_definedImages_5 (by decide) ?_
  refine J_icmp_ge (tgt := 31) hX dX3_definedImages_6 (by decide) (fun c1 => ?_) (fun c1 => ?_)
  · replace h := Eq.mp (if_pos c1) h
    refine J_iload_n hX dX3_definedImages_31 rfl 1 rfl ?_
    exact J_iret hX hR dX3_definedImages_32 ⟨_, _, rfl, rfl, h⟩
  · replace h := Eq.mp (if_neg c1) h
    refine J_iload_n hX dX3_definedImages_9 rfl 1 rfl ?_
    refine J_aload_n hX dX3_definedImages_10 rfl 0 rfl ?_
    refine J_iload_n hX dX3_definedImages_11 rfl 2 rfl ?_
    refine J_callV hX km_X3_hasImage kl_RX3_129 dX3_definedImages_12 h0 (by decide) [.int x2] ⟨Nat.le_of_ble_eq_true rfl, Nat.le_of_ble_eq_true rfl⟩ rfl rfl (Nat.le_of_ble_eq_true rfl) (c_X3_hasImage a0 h0 x2 m) (fun v w2 hk => ?_)
    obtain ⟨rfl, rfl⟩ := hk
    show J X (0, 0) 15 [(0, .ref (ad a0)), (1, .int x1), (2, .int x2)] [.int (v_X3_hasImage a0 x2 m), .int x1] (fl ad m)
    have hj5 : ∀ y3 : Int32, y3 = (if (v_X3_hasImage a0 x2 m) = (0 : Int32) then (0 : Int32) else (1 : Int32)) → J X (0, 0) 23 [(0, .ref (ad a0)), (2, .int x2)] [.int y3, .int x1] (fl ad m) := by
      intro y3 e_y3
      replace h := h y3 e_y3
      refine J_iadd hX dX3_definedImages_23 ?_
      refine J_nmI (fun y4 e_y4 => ?_)
      replace h := h y4 e_y4
      refine J_istore_n (lv2 := [(1, .int y4), (0, .ref (ad a0)), (2, .int x2)]) hX dX3_definedImages_24 rfl (Nat.le_of_ble_eq_true rfl) rfl ?_
      refine J_iinc (x := (x2 + (1 : Int32))) (lv2 := [(2, .int (x2 + (1 : Int32))), (1, .int y4), (0, .ref (ad a0))]) hX dX3_definedImages_25 2 rfl rfl (Nat.le_of_ble_eq_true rfl) rfl ?_
      refine J_goto (tgt := 4) hX dX3_definedImages_28 (by decide) ?_
      exact J_sub [2, 1, 0] rfl (hrec y4 (x2 + (1 : Int32)) m h)
    refine J_if_eq (tgt := 22) hX dX3_definedImages_15 (by decide) (fun c2 => ?_) (fun c2 => ?_)
    · refine J_iconst (v := (0 : Int32)) hX dX3_definedImages_22 (by decide) ?_
      exact J_sub [0, 2] rfl (hj5 _ (if_pos c2).symm)
    · refine J_iconst (v := (1 : Int32)) hX dX3_definedImages_18 (by decide) ?_
      refine J_goto (tgt := 23) hX dX3_definedImages_19 (by decide) ?_
      exact J_sub [0, 2] rfl (hj5 _ (if_neg c2).symm)
set_option maxRecDepth 100000 in
theorem t_X3_definedImages_l4 {X : XT} {ad : Nat → Nat} {K : Int32 → Mm → Prop} (hX : Cx X cX3_definedImages 3 RX3 (rmN 1 21)) (hR : Rx X (some .int) (kI ad K) (0, 0)) (a0 : Nat) (h0 : kap a0 = 3) : ∀ (n : Nat) (x1 : Int32) (x2 : Int32) (m : Mm), wp_X3_definedImages_l4 K a0 n x1 x2 m → J X (0, 0) 4 [(0, .ref (ad a0)), (1, .int x1), (2, .int x2)] [] (fl ad m) := by
  intro n
  induction n with
  | zero => intro x1 x2 m h; exact h.elim
  | succ n ih => intro x1 x2 m h; exact tb_X3_definedImages_l4 hX hR a0 h0 ih x1 x2 m h
set_option maxRecDepth 100000 in
theorem c_X3_definedImages {G : GT} {ad : Nat → Nat} (a0 : Nat) (h0 : kap a0 = 3) (m : Mm) (K : Int32 → Mm → Prop) (h : wp_X3_definedImages a0 m K) : Cn G yX3_definedImages cX3_definedImages 3 (some .int) (rmN 1 21) [.ref (ad a0)] (0, 0) (fl ad m) (kI ad K) := by
  unfold wp_X3_definedImages at h
  refine Cn.of pn_RX3 (Nat.le_of_ble_eq_true rfl) (fun X hG hX hR => ?_)
  subst hG
  have hX : Cx X cX3_definedImages 3 RX3 (rmN 1 21) := hX
  show J X (0, 0) 0 [(0, .ref (ad a0))] [] (fl ad m)
  refine J_iconst (v := (0 : Int32)) hX dX3_definedImages_0 (by decide) ?_
  refine J_istore_n (lv2 := [(1, .int (0 : Int32)), (0, .ref (ad a0))]) hX dX3_definedImages_1 rfl (Nat.le_of_ble_eq_true rfl) rfl ?_
  refine J_iconst (v := (0 : Int32)) hX dX3_definedImages_2 (by decide) ?_
  refine J_istore_n (lv2 := [(2, .int (0 : Int32)), (1, .int (0 : Int32)), (0, .ref (ad a0))]) hX dX3_definedImages_3 rfl (Nat.le_of_ble_eq_true rfl) rfl ?_
  refine J_sub [2, 1, 0] rfl (t_X3_definedImages_l4 hX hR a0 h0 FU (0 : Int32) (0 : Int32) m h)
set_option maxRecDepth 100000 in
theorem c_X11_count {G : GT} {ad : Nat → Nat} (x1 : Int32) (m : Mm) (K : Int32 → Mm → Prop) (h : wp_X11_count x1 m K) : Cn G yX11_count cX11_count 2 (some .int) (rmN 2 43) [.ref (ad 0), .int x1] (0, 0) (fl ad m) (kI ad K) := by
  unfold wp_X11_count at h
  refine Cn.of pn_RX11 (Nat.le_of_ble_eq_true rfl) (fun X hG hX hR => ?_)
  subst hG
  have hX : Cx X cX11_count 2 RX11 (rmN 2 43) := hX
  show J X (0, 0) 0 [(0, .ref (ad 0)), (1, .int x1)] [] (fl ad m)
  refine J_iload_n hX dX11_count_0 rfl 1 rfl ?_
  by_cases c1 : x1 = (0 : Int32)
  · replace h := Eq.mp (if_pos c1) h
    refine J_tabIn (v := (0 : Int32)) (tgt := 44) hX dX11_count_1 c1 (by decide) (by decide) rfl (by decide) ?_
    refine J_aload_n hX dX11_count_44 rfl 0 rfl ?_
    refine J_getR hX kf_RX11_10 dX11_count_45 ka_0 (by decide) rfl rh_0_0 ?_
    refine J_getI hX kf_RX11_220 dX11_count_48 ka_1 (by decide) rfl ?_
    exact J_iret hX hR dX11_count_51 ⟨_, _, rfl, rfl, h⟩
  · replace h := Eq.mp (if_neg c1) h
    by_cases c2 : x1 = (1 : Int32)
    · replace h := Eq.mp (if_pos c2) h
      refine J_tabIn (v := (1 : Int32)) (tgt := 52) hX dX11_count_1 c2 (by decide) (by decide) rfl (by decide) ?_
      refine J_aload_n hX dX11_count_52 rfl 0 rfl ?_
      refine J_getR hX kf_RX11_30 dX11_count_53 ka_0 (by decide) rfl rh_0_4 ?_
      refine J_getI hX kf_RX11_214 dX11_count_56 ka_33 (by decide) rfl ?_
      exact J_iret hX hR dX11_count_59 ⟨_, _, rfl, rfl, h⟩
    · replace h := Eq.mp (if_neg c2) h
      by_cases c3 : x1 = (2 : Int32)
      · replace h := Eq.mp (if_pos c3) h
        refine J_tabIn (v := (2 : Int32)) (tgt := 60) hX dX11_count_1 c3 (by decide) (by decide) rfl (by decide) ?_
        refine J_aload_n hX dX11_count_60 rfl 0 rfl ?_
        refine J_getR hX kf_RX11_23 dX11_count_61 ka_0 (by decide) rfl rh_0_3 ?_
        refine J_iconst (v := (0 : Int32)) hX dX11_count_64 (by decide) ?_
        refine J_zald (j := 0) hX dX11_count_65 ka_32 le_32 (vp_lit (by decide)) (by decide) ?_
        have hj9 : ∀ y5 : Int32, y5 = (if (m.1 32 0) = (0 : Int32) then (0 : Int32) else (1 : Int32)) → J X (0, 0) 74 [(0, .ref (ad 0))] [.int y5] (fl ad m) := by
          intro y5 e_y5
          replace h := h y5 e_y5
          refine J_aload_n hX dX11_count_74 rfl 0 rfl ?_
          refine J_getR hX kf_RX11_23 dX11_count_75 ka_0 (by decide) rfl rh_0_3 ?_
          refine J_iconst (v := (1 : Int32)) hX dX11_count_78 (by decide) ?_
          refine J_zald (j := 1) hX dX11_count_79 ka_32 le_32 (vp_lit (by decide)) (by decide) ?_
          have hj8 : ∀ y7 : Int32, y7 = (if (m.1 32 1) = (0 : Int32) then (0 : Int32) else (1 : Int32)) → J X (0, 0) 88 [] [.int y7, .int y5] (fl ad m) := by
            intro y7 e_y7
            replace h := h y7 e_y7
            refine J_iadd hX dX11_count_88 ?_
            exact J_iret hX hR dX11_count_89 ⟨_, _, rfl, rfl, h⟩
          refine J_if_eq (tgt := 87) hX dX11_count_80 (by decide) (fun c6 => ?_) (fun c6 => ?_)
          · refine J_iconst (v := (0 : Int32)) hX dX11_count_87 (by decide) ?_
            exact J_sub [] rfl (hj8 _ (if_pos c6).symm)
          · refine J_iconst (v := (1 : Int32)) hX dX11_count_83 (by decide) ?_
            refine J_goto (tgt := 88) hX dX11_count_84 (by decide) ?_
            exact J_sub [] rfl (hj8 _ (if_neg c6).symm)
        refine J_if_eq (tgt := 73) hX dX11_count_66 (by decide) (fun c4 => ?_) (fun c4 => ?_)
        · refine J_iconst (v := (0 : Int32)) hX dX11_count_73 (by decide) ?_
          exact J_sub [0] rfl (hj9 _ (if_pos c4).symm)
        · refine J_iconst (v := (1 : Int32)) hX dX11_count_69 (by decide) ?_
          refine J_goto (tgt := 74) hX dX11_count_70 (by decide) ?_
          exact J_sub [0] rfl (hj9 _ (if_neg c4).symm)
      · replace h := Eq.mp (if_neg c3) h
        by_cases c10 : x1 = (3 : Int32)
        · replace h := Eq.mp (if_pos c10) h
          refine J_tabIn (v := (3 : Int32)) (tgt := 90) hX dX11_count_1 c10 (by decide) (by decide) rfl (by decide) ?_
          refine J_aload_n hX dX11_count_90 rfl 0 rfl ?_
          refine J_getI hX kf_RX11_82 dX11_count_91 ka_0 (by decide) rfl ?_
          exact J_iret hX hR dX11_count_94 ⟨_, _, rfl, rfl, h⟩
        · replace h := Eq.mp (if_neg c10) h
          by_cases c11 : x1 = (4 : Int32)
          · replace h := Eq.mp (if_pos c11) h
            refine J_tabIn (v := (4 : Int32)) (tgt := 95) hX dX11_count_1 c11 (by decide) (by decide) rfl (by decide) ?_
            refine J_aload_n hX dX11_count_95 rfl 0 rfl ?_
            refine J_getR hX kf_RX11_10 dX11_count_96 ka_0 (by decide) rfl rh_0_0 ?_
            refine J_callV hX km_X3_foldedPanels kl_RX11_364 dX11_count_99 ka_1 (by decide) [] ⟨Nat.le_of_ble_eq_true rfl, Nat.le_of_ble_eq_true rfl⟩ rfl rfl (Nat.le_of_ble_eq_true rfl) (c_X3_foldedPanels 1 ka_1 m _ h) (fun v w2 hk => ?_)
            obtain ⟨y13, m12, rfl, rfl, h⟩ := hk
            show J X (0, 0) 102 [(0, .ref (ad 0)), (1, .int x1)] [.int y13] (fl ad m12)
            exact J_iret hX hR dX11_count_102 ⟨_, _, rfl, rfl, h⟩
          · replace h := Eq.mp (if_neg c11) h
            by_cases c14 : x1 = (5 : Int32)
            · replace h := Eq.mp (if_pos c14) h
              refine J_tabIn (v := (5 : Int32)) (tgt := 103) hX dX11_count_1 c14 (by decide) (by decide) rfl (by decide) ?_
              refine J_aload_n hX dX11_count_103 rfl 0 rfl ?_
              refine J_getR hX kf_RX11_10 dX11_count_104 ka_0 (by decide) rfl rh_0_0 ?_
              refine J_callV hX km_X3_flaps kl_RX11_367 dX11_count_107 ka_1 (by decide) [] ⟨Nat.le_of_ble_eq_true rfl, Nat.le_of_ble_eq_true rfl⟩ rfl rfl (Nat.le_of_ble_eq_true rfl) (c_X3_flaps 1 ka_1 m _ h) (fun v w2 hk => ?_)
              obtain ⟨y16, m15, rfl, rfl, h⟩ := hk
              show J X (0, 0) 110 [(0, .ref (ad 0)), (1, .int x1)] [.int y16] (fl ad m15)
              exact J_iret hX hR dX11_count_110 ⟨_, _, rfl, rfl, h⟩
            · replace h := Eq.mp (if_neg c14) h
              by_cases c17 : x1 = (6 : Int32)
              · replace h := Eq.mp (if_pos c17) h
                refine J_tabIn (v := (6 : Int32)) (tgt := 111) hX dX11_count_1 c17 (by decide) (by decide) rfl (by decide) ?_
                refine J_aload_n hX dX11_count_111 rfl 0 rfl ?_
                refine J_getR hX kf_RX11_10 dX11_count_112 ka_0 (by decide) rfl rh_0_0 ?_
                refine J_callV hX km_X3_definedImages kl_RX11_370 dX11_count_115 ka_1 (by decide) [] ⟨Nat.le_of_ble_eq_true rfl, Nat.le_of_ble_eq_true rfl⟩ rfl rfl (Nat.le_of_ble_eq_true rfl) (c_X3_definedImages 1 ka_1 m _ h) (fun v w2 hk => ?_)
                obtain ⟨y19, m18, rfl, rfl, h⟩ := hk
                show J X (0, 0) 118 [(0, .ref (ad 0)), (1, .int x1)] [.int y19] (fl ad m18)
                exact J_iret hX hR dX11_count_118 ⟨_, _, rfl, rfl, h⟩
              · replace h := Eq.mp (if_neg c17) h
                refine J_tabOut (tgt := 119) hX dX11_count_1 (by have t0 := tne c1 (k := 0) (by decide); have t1 := tne c2 (k := 1) (by decide); have t2 := tne c3 (k := 2) (by decide); have t3 := tne c10 (k := 3) (by decide); have t4 := tne c11 (k := 4) (by decide); have t5 := tne c14 (k := 5) (by decide); have t6 := tne c17 (k := 6) (by decide); omega) (by decide) ?_
                refine J_iconst (v := (-1 : Int32)) hX dX11_count_119 (by decide) ?_
                exact J_iret hX hR dX11_count_120 ⟨_, _, rfl, rfl, h⟩
set_option maxRecDepth 100000 in
theorem c_X11_coverage {G : GT} {ad : Nat → Nat} (x1 : Int32) (m : Mm) (K : Int32 → Mm → Prop) (h : wp_X11_coverage x1 m K) : Cn G yX11_coverage cX11_coverage 2 (some .int) (rmN 4 99) [.ref (ad 0), .int x1] (0, 0) (fl ad m) (kI ad K) := by
  unfold wp_X11_coverage at h
  refine Cn.of pn_RX11 (Nat.le_of_ble_eq_true rfl) (fun X hG hX hR => ?_)
  subst hG
  have hX : Cx X cX11_coverage 2 RX11 (rmN 4 99) := hX
  show J X (0, 0) 0 [(0, .ref (ad 0)), (1, .int x1)] [] (fl ad m)
  refine J_aload_n hX dX11_coverage_0 rfl 0 rfl ?_
  refine J_getR hX kf_RX11_10 dX11_coverage_1 ka_0 (by decide) rfl rh_0_0 ?_
  refine J_iload_n hX dX11_coverage_4 rfl 1 rfl ?_
  refine J_callV hX km_X3_has kl_RX11_223 dX11_coverage_5 ka_1 (by decide) [.int x1] ⟨Nat.le_of_ble_eq_true rfl, Nat.le_of_ble_eq_true rfl⟩ rfl rfl (Nat.le_of_ble_eq_true rfl) (c_X3_has 1 ka_1 x1 m) (fun v w2 hk => ?_)
  obtain ⟨rfl, rfl⟩ := hk
  show J X (0, 0) 8 [(0, .ref (ad 0)), (1, .int x1)] [.int (v_X3_has 1 x1 m)] (fl ad m)
  refine J_if_ne (tgt := 13) hX dX11_coverage_8 (by decide) (fun c1 => ?_) (fun c1 => ?_)
  · replace h := Eq.mp (if_neg c1) h
    refine J_aload_n hX dX11_coverage_13 rfl 0 rfl ?_
    refine J_getR hX kf_RX11_10 dX11_coverage_14 ka_0 (by decide) rfl rh_0_0 ?_
    refine J_iload_n hX dX11_coverage_17 rfl 1 rfl ?_
    refine J_callV hX km_X3_panelAt kl_RX11_201 dX11_coverage_18 ka_1 (by decide) [.int x1] ⟨Nat.le_of_ble_eq_true rfl, Nat.le_of_ble_eq_true rfl⟩ rfl rfl (Nat.le_of_ble_eq_true rfl) (c_X3_panelAt 1 ka_1 x1 m) (fun v w2 hk => ?_)
    obtain ⟨rfl, rfl⟩ := hk
    show J X (0, 0) 21 [(0, .ref (ad 0)), (1, .int x1)] [.ref (ad (v_X3_panelAt 1 x1))] (fl ad m)
    refine J_callV hX km_X7_isFlap kl_RX11_284 dX11_coverage_21 (kv_X3_panelAt ka_1) (by decide) [] ⟨Nat.le_of_ble_eq_true rfl, Nat.le_of_ble_eq_true rfl⟩ rfl rfl (Nat.le_of_ble_eq_true rfl) (c_X7_isFlap (v_X3_panelAt 1 x1) (kv_X3_panelAt ka_1) m) (fun v w2 hk => ?_)
    obtain ⟨rfl, rfl⟩ := hk
    show J X (0, 0) 24 [(0, .ref (ad 0)), (1, .int x1)] [.int (v_X7_isFlap (v_X3_panelAt 1 x1) m)] (fl ad m)
    refine J_if_ne (tgt := 30) hX dX11_coverage_24 (by decide) (fun c2 => ?_) (fun c2 => ?_)
    · replace h := Eq.mp (if_neg c2) h
      refine J_aload_n hX dX11_coverage_30 rfl 0 rfl ?_
      refine J_getR hX kf_RX11_73 dX11_coverage_31 ka_0 (by decide) rfl rh_0_11 ?_
      refine J_aload_n hX dX11_coverage_34 rfl 0 rfl ?_
      refine J_getR hX kf_RX11_10 dX11_coverage_35 ka_0 (by decide) rfl rh_0_0 ?_
      refine J_iconst (v := (-1 : Int32)) hX dX11_coverage_38 (by decide) ?_
      refine J_callV hX km_X5_fold kl_RX11_254 dX11_coverage_39 ka_269 (by decide) [.ref (ad 1), .int (-1 : Int32)] ⟨Nat.le_of_ble_eq_true rfl, Nat.le_of_ble_eq_true rfl⟩ rfl rfl (Nat.le_of_ble_eq_true rfl) (c_X5_fold 1 ka_1 (-1 : Int32) m _ h) (fun v w2 hk => ?_)
      obtain ⟨m3, rfl, rfl, h⟩ := hk
      show J X (0, 0) 42 [(0, .ref (ad 0)), (1, .int x1)] [] (fl ad m3)
      refine J_aload_n hX dX11_coverage_42 rfl 0 rfl ?_
      refine J_getR hX kf_RX11_73 dX11_coverage_43 ka_0 (by decide) rfl rh_0_11 ?_
      refine J_aload_n hX dX11_coverage_46 rfl 0 rfl ?_
      refine J_getR hX kf_RX11_10 dX11_coverage_47 ka_0 (by decide) rfl rh_0_0 ?_
      refine J_iload_n hX dX11_coverage_50 rfl 1 rfl ?_
      refine J_aload_n hX dX11_coverage_51 rfl 0 rfl ?_
      refine J_getR hX kf_RX11_77 dX11_coverage_52 ka_0 (by decide) rfl rh_0_12 ?_
      refine J_iconst (v := (0 : Int32)) hX dX11_coverage_55 (by decide) ?_
      refine J_iald (j := 0) hX dX11_coverage_56 ka_265 le_265 (vp_lit (by decide)) (by decide) ?_
      refine J_callV hX km_X5_covered kl_RX11_288 dX11_coverage_57 ka_269 (by decide) [.ref (ad 1), .int x1, .int (m3.1 265 0)] ⟨Nat.le_of_ble_eq_true rfl, Nat.le_of_ble_eq_true rfl⟩ rfl rfl (Nat.le_of_ble_eq_true rfl) (c_X5_covered 1 ka_1 x1 (m3.1 265 0) m3) (fun v w2 hk => ?_)
      obtain ⟨rfl, rfl⟩ := hk
      show J X (0, 0) 60 [(0, .ref (ad 0)), (1, .int x1)] [.int (v_X5_covered 1 x1 (m3.1 265 0) m3)] (fl ad m3)
      exact J_iret hX hR dX11_coverage_60 ⟨_, _, rfl, rfl, h⟩
    · replace h := Eq.mp (if_pos c2) h
      refine J_bipush (v := (-9 : Int32)) hX dX11_coverage_27 (by decide) ?_
      exact J_iret hX hR dX11_coverage_29 ⟨_, _, rfl, rfl, h⟩
  · replace h := Eq.mp (if_pos c1) h
    refine J_iconst (v := (-1 : Int32)) hX dX11_coverage_11 (by decide) ?_
    exact J_iret hX hR dX11_coverage_12 ⟨_, _, rfl, rfl, h⟩
set_option maxRecDepth 100000 in
theorem tb_X1_creases_l4 {X : XT} {ad : Nat → Nat} {K : Int32 → Mm → Prop} (hX : Cx X cX1_creases 4 RX1 (rmN 1 21)) (hR : Rx X (some .int) (kI ad K) (0, 0)) {rec : Int32 → Int32 → Mm → Prop} (a1 : Nat) (h1 : kap a1 = 3) (hrec : ∀ (x2 : Int32) (x3 : Int32) (m : Mm), rec x2 x3 m → J X (0, 0) 4 [(1, .ref (ad a1)), (2, .int x2), (3, .int x3)] [] (fl ad m)) (x2 : Int32) (x3 : Int32) (m : Mm) (h : wb_X1_creases_l4 rec K a1 x2 x3 m) : J X (0, 0) 4 [(1, .ref (ad a1)), (2, .int x2), (3, .int x3)] [] (fl ad m) := by
  unfold wb_X1_creases_l4 at h
  refine J_iload_n hX dX1_creases_4 rfl 2 rfl ?_
  refine J_aload_n hX dX1_creases_5 rfl 0 rfl ?_
  refine J_getI hX kf_RX1_20 dX1_creases_6 h1 (by decide) rfl ?_
  refine J_icmp_ge (tgt := 44) hX dX1_creases_9 (by decide) (fun c1 => ?_) (fun c1 => ?_)
  · replace h := Eq.mp (if_pos c1) h
    refine J_iload_n hX dX1_creases_44 rfl 1 rfl ?_
    exact J_iret hX hR dX1_creases_45 ⟨_, _, rfl, rfl, h⟩
  · replace h := Eq.mp (if_neg c1) h
    refine J_iload_n hX dX1_creases_12 rfl 1 rfl ?_
    refine J_aload_n hX dX1_creases_13 rfl 0 rfl ?_
    refine J_iload_n hX dX1_creases_14 rfl 2 rfl ?_
    refine J_callV hX km_X3_panelAt kl_RX1_26 dX1_creases_15 h1 (by decide) [.int x3] ⟨Nat.le_of_ble_eq_true rfl, Nat.le_of_ble_eq_true rfl⟩ rfl rfl (Nat.le_of_ble_eq_true rfl) (c_X3_panelAt a1 h1 x3 m) (fun v w2 hk => ?_)
    obtain ⟨rfl, rfl⟩ := hk
    show J X (0, 0) 18 [(1, .ref (ad a1)), (2, .int x2), (3, .int x3)] [.ref (ad (v_X3_panelAt a1 x3)), .int x2] (fl ad m)
    refine J_getI hX kf_RX1_30 dX1_creases_18 (kv_X3_panelAt h1) (by decide) rfl ?_
    have hj5 : ∀ y3 : Int32, y3 = (if (m.1 (v_X3_panelAt a1 x3) 5) = (0 : Int32) then (0 : Int32) else (m.1 (v_X3_panelAt a1 x3) 3)) → J X (0, 0) 36 [(1, .ref (ad a1)), (3, .int x3)] [.int y3, .int x2] (fl ad m) := by
      intro y3 e_y3
      replace h := h y3 e_y3
      refine J_iadd hX dX1_creases_36 ?_
      refine J_nmI (fun y4 e_y4 => ?_)
      replace h := h y4 e_y4
      refine J_istore_n (lv2 := [(2, .int y4), (1, .ref (ad a1)), (3, .int x3)]) hX dX1_creases_37 rfl (Nat.le_of_ble_eq_true rfl) rfl ?_
      refine J_iinc (x := (x3 + (1 : Int32))) (lv2 := [(3, .int (x3 + (1 : Int32))), (2, .int y4), (1, .ref (ad a1))]) hX dX1_creases_38 2 rfl rfl (Nat.le_of_ble_eq_true rfl) rfl ?_
      refine J_goto (tgt := 4) hX dX1_creases_41 (by decide) ?_
      exact J_sub [2, 1, 0] rfl (hrec y4 (x3 + (1 : Int32)) m h)
    refine J_if_eq (tgt := 35) hX dX1_creases_21 (by decide) (fun c2 => ?_) (fun c2 => ?_)
    · refine J_iconst (v := (0 : Int32)) hX dX1_creases_35 (by decide) ?_
      exact J_sub [0, 2] rfl (hj5 _ (if_pos c2).symm)
    · refine J_aload_n hX dX1_creases_24 rfl 0 rfl ?_
      refine J_iload_n hX dX1_creases_25 rfl 2 rfl ?_
      refine J_callV hX km_X3_panelAt kl_RX1_26 dX1_creases_26 h1 (by decide) [.int x3] ⟨Nat.le_of_ble_eq_true rfl, Nat.le_of_ble_eq_true rfl⟩ rfl rfl (Nat.le_of_ble_eq_true rfl) (c_X3_panelAt a1 h1 x3 m) (fun v w2 hk => ?_)
      obtain ⟨rfl, rfl⟩ := hk
      show J X (0, 0) 29 [(1, .ref (ad a1)), (2, .int x2), (3, .int x3)] [.ref (ad (v_X3_panelAt a1 x3)), .int x2] (fl ad m)
      refine J_getI hX kf_RX1_35 dX1_creases_29 (kv_X3_panelAt h1) (by decide) rfl ?_
      refine J_goto (tgt := 36) hX dX1_creases_32 (by decide) ?_
      exact J_sub [0, 2] rfl (hj5 _ (if_neg c2).symm)
set_option maxRecDepth 100000 in
theorem t_X1_creases_l4 {X : XT} {ad : Nat → Nat} {K : Int32 → Mm → Prop} (hX : Cx X cX1_creases 4 RX1 (rmN 1 21)) (hR : Rx X (some .int) (kI ad K) (0, 0)) (a1 : Nat) (h1 : kap a1 = 3) : ∀ (n : Nat) (x2 : Int32) (x3 : Int32) (m : Mm), wp_X1_creases_l4 K a1 n x2 x3 m → J X (0, 0) 4 [(1, .ref (ad a1)), (2, .int x2), (3, .int x3)] [] (fl ad m) := by
  intro n
  induction n with
  | zero => intro x2 x3 m h; exact h.elim
  | succ n ih => intro x2 x3 m h; exact tb_X1_creases_l4 hX hR a1 h1 ih x2 x3 m h
set_option maxRecDepth 100000 in
theorem c_X1_creases {G : GT} {ad : Nat → Nat} (a1 : Nat) (h1 : kap a1 = 3) (m : Mm) (K : Int32 → Mm → Prop) (h : wp_X1_creases a1 m K) : Cn G yX1_creases cX1_creases 4 (some .int) (rmN 1 21) [.ref (ad 259), .ref (ad a1)] (0, 0) (fl ad m) (kI ad K) := by
  unfold wp_X1_creases at h
  refine Cn.of pn_RX1 (Nat.le_of_ble_eq_true rfl) (fun X hG hX hR => ?_)
  subst hG
  have hX : Cx X cX1_creases 4 RX1 (rmN 1 21) := hX
  show J X (0, 0) 0 [(0, .ref (ad 259)), (1, .ref (ad a1))] [] (fl ad m)
  refine J_iconst (v := (0 : Int32)) hX dX1_creases_0 (by decide) ?_
  refine J_istore_n (lv2 := [(2, .int (0 : Int32)), (0, .ref (ad 259)), (1, .ref (ad a1))]) hX dX1_creases_1 rfl (Nat.le_of_ble_eq_true rfl) rfl ?_
  refine J_iconst (v := (1 : Int32)) hX dX1_creases_2 (by decide) ?_
  refine J_istore_n (lv2 := [(3, .int (1 : Int32)), (2, .int (0 : Int32)), (0, .ref (ad 259)), (1, .ref (ad a1))]) hX dX1_creases_3 rfl (Nat.le_of_ble_eq_true rfl) rfl ?_
  refine J_sub [3, 1, 0] rfl (t_X1_creases_l4 hX hR a1 h1 FU (0 : Int32) (1 : Int32) m h)
set_option maxRecDepth 100000 in
theorem c_X11_creaseLength {G : GT} {ad : Nat → Nat} (m : Mm) (K : Int32 → Mm → Prop) (h : wp_X11_creaseLength m K) : Cn G yX11_creaseLength cX11_creaseLength 1 (some .int) (rmN 2 44) [.ref (ad 0)] (0, 0) (fl ad m) (kI ad K) := by
  unfold wp_X11_creaseLength at h
  refine Cn.of pn_RX11 (Nat.le_of_ble_eq_true rfl) (fun X hG hX hR => ?_)
  subst hG
  have hX : Cx X cX11_creaseLength 1 RX11 (rmN 2 44) := hX
  show J X (0, 0) 0 [(0, .ref (ad 0))] [] (fl ad m)
  refine J_aload_n hX dX11_creaseLength_0 rfl 0 rfl ?_
  refine J_getR hX kf_RX11_48 dX11_creaseLength_1 ka_0 (by decide) rfl rh_0_7 ?_
  refine J_aload_n hX dX11_creaseLength_4 rfl 0 rfl ?_
  refine J_getR hX kf_RX11_10 dX11_creaseLength_5 ka_0 (by decide) rfl rh_0_0 ?_
  refine J_callV hX km_X1_creases kl_RX11_240 dX11_creaseLength_8 ka_259 (by decide) [.ref (ad 1)] ⟨Nat.le_of_ble_eq_true rfl, Nat.le_of_ble_eq_true rfl⟩ rfl rfl (Nat.le_of_ble_eq_true rfl) (c_X1_creases 1 ka_1 m _ h) (fun v w2 hk => ?_)
  obtain ⟨y2, m1, rfl, rfl, h⟩ := hk
  show J X (0, 0) 11 [(0, .ref (ad 0))] [.int y2] (fl ad m1)
  exact J_iret hX hR dX11_creaseLength_11 ⟨_, _, rfl, rfl, h⟩
set_option maxRecDepth 100000 in
theorem tb_X5_crossingPairs_l17 {X : XT} {ad : Nat → Nat} {K : Int32 → Mm → Prop} (hX : Cx X cX5_crossingPairs 5 RX5 (rmN 3 72)) (hR : Rx X (some .int) (kI ad K) (0, 0)) {rec : Int32 → Int32 → Mm → Prop} {k4 : Int32 → Int32 → Mm → Prop} (x1 : Int32) (x3 : Int32) (hrec : ∀ (x2 : Int32) (x4 : Int32) (m : Mm), rec x2 x4 m → J X (0, 0) 17 [(0, .ref (ad 269)), (1, .int x1), (2, .int x2), (3, .int x3), (4, .int x4)] [] (fl ad m)) (hk4 : ∀ (z2 : Int32) (z3 : Int32) (m : Mm), k4 z2 z3 m → J X (0, 0) 4 [(0, .ref (ad 269)), (1, .int x1), (2, .int z2), (3, .int z3)] [] (fl ad m)) (x2 : Int32) (x4 : Int32) (m : Mm) (h : wb_X5_crossingPairs_l17 rec k4 K x1 x3 x2 x4 m) : J X (0, 0) 17 [(0, .ref (ad 269)), (1, .int x1), (2, .int x2), (3, .int x3), (4, .int x4)] [] (fl ad m) := by
  unfold wb_X5_crossingPairs_l17 at h
  refine J_iload hX dX5_crossingPairs_17 4 rfl ?_
  refine J_aload_n hX dX5_crossingPairs_19 rfl 0 rfl ?_
  refine J_getI hX kf_RX5_9 dX5_crossingPairs_20 ka_269 (by decide) rfl ?_
  refine J_icmp_ge (tgt := 51) hX dX5_crossingPairs_23 (by decide) (fun c3 => ?_) (fun c3 => ?_)
  · replace h := Eq.mp (if_pos c3) h
    refine J_iinc (x := (x3 + (1 : Int32))) (lv2 := [(3, .int (x3 + (1 : Int32))), (0, .ref (ad 269)), (1, .int x1), (2, .int x2), (4, .int x4)]) hX dX5_crossingPairs_51 3 rfl rfl (Nat.le_of_ble_eq_true rfl) rfl ?_
    refine J_goto (tgt := 4) hX dX5_crossingPairs_54 (by decide) ?_
    exact J_sub [1, 2, 3, 0] rfl (hk4 x2 (x3 + (1 : Int32)) m h)
  · replace h := Eq.mp (if_neg c3) h
    refine J_iload_n hX dX5_crossingPairs_26 rfl 2 rfl ?_
    refine J_aload_n hX dX5_crossingPairs_27 rfl 0 rfl ?_
    refine J_iload_n hX dX5_crossingPairs_28 rfl 3 rfl ?_
    refine J_iload hX dX5_crossingPairs_29 4 rfl ?_
    refine J_iload_n hX dX5_crossingPairs_31 rfl 1 rfl ?_
    refine J_callV hX km_X5_crossing kl_RX5_83 dX5_crossingPairs_32 ka_269 (by decide) [.int x3, .int x4, .int x1] ⟨Nat.le_of_ble_eq_true rfl, Nat.le_of_ble_eq_true rfl⟩ rfl rfl (Nat.le_of_ble_eq_true rfl) (c_X5_crossing x3 x4 x1 m) (fun v w2 hk => ?_)
    obtain ⟨rfl, rfl⟩ := hk
    show J X (0, 0) 35 [(0, .ref (ad 269)), (1, .int x1), (2, .int x2), (3, .int x3), (4, .int x4)] [.int (v_X5_crossing x3 x4 x1 m), .int x2] (fl ad m)
    have hj7 : ∀ y5 : Int32, y5 = (if (v_X5_crossing x3 x4 x1 m) ≤ (0 : Int32) then (0 : Int32) else (1 : Int32)) → J X (0, 0) 43 [(0, .ref (ad 269)), (1, .int x1), (3, .int x3), (4, .int x4)] [.int y5, .int x2] (fl ad m) := by
      intro y5 e_y5
      replace h := h y5 e_y5
      refine J_iadd hX dX5_crossingPairs_43 ?_
      refine J_nmI (fun y6 e_y6 => ?_)
      replace h := h y6 e_y6
      refine J_istore_n (lv2 := [(2, .int y6), (0, .ref (ad 269)), (1, .int x1), (3, .int x3), (4, .int x4)]) hX dX5_crossingPairs_44 rfl (Nat.le_of_ble_eq_true rfl) rfl ?_
      refine J_iinc (x := (x4 + (1 : Int32))) (lv2 := [(4, .int (x4 + (1 : Int32))), (2, .int y6), (0, .ref (ad 269)), (1, .int x1), (3, .int x3)]) hX dX5_crossingPairs_45 4 rfl rfl (Nat.le_of_ble_eq_true rfl) rfl ?_
      refine J_goto (tgt := 17) hX dX5_crossingPairs_48 (by decide) ?_
      exact J_sub [2, 3, 1, 4, 0] rfl (hrec y6 (x4 + (1 : Int32)) m h)
    refine J_if_le (tgt := 42) hX dX5_crossingPairs_35 (by decide) (fun c4 => ?_) (fun c4 => ?_)
    · refine J_iconst (v := (0 : Int32)) hX dX5_crossingPairs_42 (by decide) ?_
      exact J_sub [0, 1, 3, 4] rfl (hj7 _ (if_pos c4).symm)
    · refine J_iconst (v := (1 : Int32)) hX dX5_crossingPairs_38 (by decide) ?_
      refine J_goto (tgt := 43) hX dX5_crossingPairs_39 (by decide) ?_
      exact J_sub [0, 1, 3, 4] rfl (hj7 _ (if_neg c4).symm)
set_option maxRecDepth 100000 in
theorem t_X5_crossingPairs_l17 {X : XT} {ad : Nat → Nat} {K : Int32 → Mm → Prop} (hX : Cx X cX5_crossingPairs 5 RX5 (rmN 3 72)) (hR : Rx X (some .int) (kI ad K) (0, 0)) {k4 : Int32 → Int32 → Mm → Prop} (x1 : Int32) (x3 : Int32) (hk4 : ∀ (z2 : Int32) (z3 : Int32) (m : Mm), k4 z2 z3 m → J X (0, 0) 4 [(0, .ref (ad 269)), (1, .int x1), (2, .int z2), (3, .int z3)] [] (fl ad m)) : ∀ (n : Nat) (x2 : Int32) (x4 : Int32) (m : Mm), wp_X5_crossingPairs_l17 k4 K x1 x3 n x2 x4 m → J X (0, 0) 17 [(0, .ref (ad 269)), (1, .int x1), (2, .int x2), (3, .int x3), (4, .int x4)] [] (fl ad m) := by
  intro n
  induction n with
  | zero => intro x2 x4 m h; exact h.elim
  | succ n ih => intro x2 x4 m h; exact tb_X5_crossingPairs_l17 hX hR x1 x3 ih hk4 x2 x4 m h
set_option maxRecDepth 100000 in
theorem tb_X5_crossingPairs_l4 {X : XT} {ad : Nat → Nat} {K : Int32 → Mm → Prop} (hX : Cx X cX5_crossingPairs 5 RX5 (rmN 3 72)) (hR : Rx X (some .int) (kI ad K) (0, 0)) {rec : Int32 → Int32 → Mm → Prop} (x1 : Int32) (hrec : ∀ (x2 : Int32) (x3 : Int32) (m : Mm), rec x2 x3 m → J X (0, 0) 4 [(0, .ref (ad 269)), (1, .int x1), (2, .int x2), (3, .int x3)] [] (fl ad m)) (x2 : Int32) (x3 : Int32) (m : Mm) (h : wb_X5_crossingPairs_l4 rec K x1 x2 x3 m) : J X (0, 0) 4 [(0, .ref (ad 269)), (1, .int x1), (2, .int x2), (3, .int x3)] [] (fl ad m) := by
  unfold wb_X5_crossingPairs_l4 at h
  refine J_iload_n hX dX5_crossingPairs_4 rfl 3 rfl ?_
  refine J_aload_n hX dX5_crossingPairs_5 rfl 0 rfl ?_
  refine J_getI hX kf_RX5_9 dX5_crossingPairs_6 ka_269 (by decide) rfl ?_
  refine J_icmp_ge (tgt := 57) hX dX5_crossingPairs_9 (by decide) (fun c1 => ?_) (fun c1 => ?_)
  · replace h := Eq.mp (if_pos c1) h
    refine J_iload_n hX dX5_crossingPairs_57 rfl 2 rfl ?_
    exact J_iret hX hR dX5_crossingPairs_58 ⟨_, _, rfl, rfl, h⟩
  · replace h := Eq.mp (if_neg c1) h
    refine J_iload_n hX dX5_crossingPairs_12 rfl 3 rfl ?_
    refine J_iconst (v := (1 : Int32)) hX dX5_crossingPairs_13 (by decide) ?_
    refine J_iadd hX dX5_crossingPairs_14 ?_
    refine J_nmI (fun y2 e_y2 => ?_)
    replace h := h y2 e_y2
    refine J_istore (lv2 := [(4, .int y2), (0, .ref (ad 269)), (1, .int x1), (2, .int x2), (3, .int x3)]) hX dX5_crossingPairs_15 (Nat.le_of_ble_eq_true rfl) rfl ?_
    refine J_sub [1, 2, 3, 4, 0] rfl (t_X5_crossingPairs_l17 hX hR x1 x3 hrec FU x2 y2 m h)
set_option maxRecDepth 100000 in
theorem t_X5_crossingPairs_l4 {X : XT} {ad : Nat → Nat} {K : Int32 → Mm → Prop} (hX : Cx X cX5_crossingPairs 5 RX5 (rmN 3 72)) (hR : Rx X (some .int) (kI ad K) (0, 0)) (x1 : Int32) : ∀ (n : Nat) (x2 : Int32) (x3 : Int32) (m : Mm), wp_X5_crossingPairs_l4 K x1 n x2 x3 m → J X (0, 0) 4 [(0, .ref (ad 269)), (1, .int x1), (2, .int x2), (3, .int x3)] [] (fl ad m) := by
  intro n
  induction n with
  | zero => intro x2 x3 m h; exact h.elim
  | succ n ih => intro x2 x3 m h; exact tb_X5_crossingPairs_l4 hX hR x1 ih x2 x3 m h
set_option maxRecDepth 100000 in
theorem c_X5_crossingPairs {G : GT} {ad : Nat → Nat} (x1 : Int32) (m : Mm) (K : Int32 → Mm → Prop) (h : wp_X5_crossingPairs x1 m K) : Cn G yX5_crossingPairs cX5_crossingPairs 5 (some .int) (rmN 3 72) [.ref (ad 269), .int x1] (0, 0) (fl ad m) (kI ad K) := by
  unfold wp_X5_crossingPairs at h
  refine Cn.of pn_RX5 (Nat.le_of_ble_eq_true rfl) (fun X hG hX hR => ?_)
  subst hG
  have hX : Cx X cX5_crossingPairs 5 RX5 (rmN 3 72) := hX
  show J X (0, 0) 0 [(0, .ref (ad 269)), (1, .int x1)] [] (fl ad m)
  refine J_iconst (v := (0 : Int32)) hX dX5_crossingPairs_0 (by decide) ?_
  refine J_istore_n (lv2 := [(2, .int (0 : Int32)), (0, .ref (ad 269)), (1, .int x1)]) hX dX5_crossingPairs_1 rfl (Nat.le_of_ble_eq_true rfl) rfl ?_
  refine J_iconst (v := (0 : Int32)) hX dX5_crossingPairs_2 (by decide) ?_
  refine J_istore_n (lv2 := [(3, .int (0 : Int32)), (2, .int (0 : Int32)), (0, .ref (ad 269)), (1, .int x1)]) hX dX5_crossingPairs_3 rfl (Nat.le_of_ble_eq_true rfl) rfl ?_
  refine J_sub [2, 3, 1, 0] rfl (t_X5_crossingPairs_l4 hX hR x1 FU (0 : Int32) (0 : Int32) m h)
set_option maxRecDepth 100000 in
theorem c_X11_crossings {G : GT} {ad : Nat → Nat} (x1 : Int32) (m : Mm) (K : Int32 → Mm → Prop) (h : wp_X11_crossings x1 m K) : Cn G yX11_crossings cX11_crossings 2 (some .int) (rmN 4 99) [.ref (ad 0), .int x1] (0, 0) (fl ad m) (kI ad K) := by
  unfold wp_X11_crossings at h
  refine Cn.of pn_RX11 (Nat.le_of_ble_eq_true rfl) (fun X hG hX hR => ?_)
  subst hG
  have hX : Cx X cX11_crossings 2 RX11 (rmN 4 99) := hX
  show J X (0, 0) 0 [(0, .ref (ad 0)), (1, .int x1)] [] (fl ad m)
  refine J_iload_n hX dX11_crossings_0 rfl 1 rfl ?_
  refine J_if_lt (tgt := 23) hX dX11_crossings_1 (by decide) (fun c1 => ?_) (fun c1 => ?_)
  · replace h := Eq.mp (if_pos c1) h
    refine J_iconst (v := (-1 : Int32)) hX dX11_crossings_23 (by decide) ?_
    exact J_iret hX hR dX11_crossings_24 ⟨_, _, rfl, rfl, h⟩
  · replace h := Eq.mp (if_neg c1) h
    refine J_iload_n hX dX11_crossings_4 rfl 1 rfl ?_
    refine J_iconst (v := (1 : Int32)) hX dX11_crossings_5 (by decide) ?_
    refine J_iand hX dX11_crossings_6 ?_
    refine J_if_ne (tgt := 23) hX dX11_crossings_7 (by decide) (fun c2 => ?_) (fun c2 => ?_)
    · replace h := Eq.mp (if_neg c2) h
      refine J_iconst (v := (-1 : Int32)) hX dX11_crossings_23 (by decide) ?_
      exact J_iret hX hR dX11_crossings_24 ⟨_, _, rfl, rfl, h⟩
    · replace h := Eq.mp (if_pos c2) h
      refine J_iload_n hX dX11_crossings_10 rfl 1 rfl ?_
      refine J_iconst (v := (1 : Int32)) hX dX11_crossings_11 (by decide) ?_
      refine J_aload_n hX dX11_crossings_12 rfl 0 rfl ?_
      refine J_getR hX kf_RX11_10 dX11_crossings_13 ka_0 (by decide) rfl rh_0_0 ?_
      refine J_getI hX kf_RX11_220 dX11_crossings_16 ka_1 (by decide) rfl ?_
      refine J_ishl hX dX11_crossings_19 ?_
      refine J_icmp_lt (tgt := 25) hX dX11_crossings_20 (by decide) (fun c3 => ?_) (fun c3 => ?_)
      · replace h := Eq.mp (if_pos c3) h
        refine J_aload_n hX dX11_crossings_25 rfl 0 rfl ?_
        refine J_getR hX kf_RX11_73 dX11_crossings_26 ka_0 (by decide) rfl rh_0_11 ?_
        refine J_aload_n hX dX11_crossings_29 rfl 0 rfl ?_
        refine J_getR hX kf_RX11_10 dX11_crossings_30 ka_0 (by decide) rfl rh_0_0 ?_
        refine J_iload_n hX dX11_crossings_33 rfl 1 rfl ?_
        refine J_callV hX km_X5_fold kl_RX11_254 dX11_crossings_34 ka_269 (by decide) [.ref (ad 1), .int x1] ⟨Nat.le_of_ble_eq_true rfl, Nat.le_of_ble_eq_true rfl⟩ rfl rfl (Nat.le_of_ble_eq_true rfl) (c_X5_fold 1 ka_1 x1 m _ h) (fun v w2 hk => ?_)
        obtain ⟨m4, rfl, rfl, h⟩ := hk
        show J X (0, 0) 37 [(0, .ref (ad 0)), (1, .int x1)] [] (fl ad m4)
        refine J_aload_n hX dX11_crossings_37 rfl 0 rfl ?_
        refine J_getR hX kf_RX11_73 dX11_crossings_38 ka_0 (by decide) rfl rh_0_11 ?_
        refine J_aload_n hX dX11_crossings_41 rfl 0 rfl ?_
        refine J_getR hX kf_RX11_77 dX11_crossings_42 ka_0 (by decide) rfl rh_0_12 ?_
        refine J_iconst (v := (0 : Int32)) hX dX11_crossings_45 (by decide) ?_
        refine J_iald (j := 0) hX dX11_crossings_46 ka_265 le_265 (vp_lit (by decide)) (by decide) ?_
        refine J_callV hX km_X5_crossingPairs kl_RX11_305 dX11_crossings_47 ka_269 (by decide) [.int (m4.1 265 0)] ⟨Nat.le_of_ble_eq_true rfl, Nat.le_of_ble_eq_true rfl⟩ rfl rfl (Nat.le_of_ble_eq_true rfl) (c_X5_crossingPairs (m4.1 265 0) m4 _ h) (fun v w2 hk => ?_)
        obtain ⟨y6, m5, rfl, rfl, h⟩ := hk
        show J X (0, 0) 50 [(0, .ref (ad 0)), (1, .int x1)] [.int y6] (fl ad m5)
        exact J_iret hX hR dX11_crossings_50 ⟨_, _, rfl, rfl, h⟩
      · replace h := Eq.mp (if_neg c3) h
        refine J_iconst (v := (-1 : Int32)) hX dX11_crossings_23 (by decide) ?_
        exact J_iret hX hR dX11_crossings_24 ⟨_, _, rfl, rfl, h⟩
set_option maxRecDepth 100000 in
theorem c_X1_lineOf {G : GT} {ad : Nat → Nat} (a0 : Nat) (h0 : kap a0 = 7) (x1 : Int32) (m : Mm) : Cn G yX1_lineOf cX1_lineOf 3 (some .int) (rmN 1 21) [.ref (ad a0), .int x1] (0, 0) (fl ad m) (fun v w => v = some (.int (v_X1_lineOf a0 x1 m)) ∧ w = fl ad m) := by
  refine Cn.of pn_RX1 (Nat.le_of_ble_eq_true rfl) (fun X hG hX hR => ?_)
  subst hG
  have hX : Cx X cX1_lineOf 3 RX1 (rmN 1 21) := hX
  show J X (0, 0) 0 [(0, .ref (ad a0)), (1, .int x1)] [] (fl ad m)
  refine J_iconst (v := (1 : Int32)) hX dX1_lineOf_0 (by decide) ?_
  refine J_iload_n hX dX1_lineOf_1 rfl 1 rfl ?_
  refine J_iconst (v := (1 : Int32)) hX dX1_lineOf_2 (by decide) ?_
  refine J_iand hX dX1_lineOf_3 ?_
  refine J_isub hX dX1_lineOf_4 ?_
  refine J_istore_n (lv2 := [(2, .int ((1 : Int32) - (x1 &&& (1 : Int32)))), (0, .ref (ad a0)), (1, .int x1)]) hX dX1_lineOf_5 rfl (Nat.le_of_ble_eq_true rfl) rfl ?_
  refine J_iload_n hX dX1_lineOf_6 rfl 2 rfl ?_
  have hj3 : ∀ y4 : Int32, y4 = (if x1 = (0 : Int32) then (v_X7_lowOn a0 ((1 : Int32) - (x1 &&& (1 : Int32))) m) else (if x1 = (3 : Int32) then (v_X7_lowOn a0 ((1 : Int32) - (x1 &&& (1 : Int32))) m) else (v_X7_highOn a0 ((1 : Int32) - (x1 &&& (1 : Int32))) m))) → J X (0, 0) 28 [] [.int y4] (fl ad m) := by
    intro y4 e_y4
    subst e_y4
    exact J_iret hX hR dX1_lineOf_28 (And.intro (congrArg (fun z => some (Value.int z)) (show (if x1 = (0 : Int32) then (v_X7_lowOn a0 ((1 : Int32) - (x1 &&& (1 : Int32))) m) else (if x1 = (3 : Int32) then (v_X7_lowOn a0 ((1 : Int32) - (x1 &&& (1 : Int32))) m) else (v_X7_highOn a0 ((1 : Int32) - (x1 &&& (1 : Int32))) m))) = v_X1_lineOf a0 x1 m from rfl)) rfl)
  refine J_if_eq (tgt := 15) hX dX1_lineOf_7 (by decide) (fun c1 => ?_) (fun c1 => ?_)
  · refine J_aload_n hX dX1_lineOf_15 rfl 1 rfl ?_
    refine J_iload_n hX dX1_lineOf_16 rfl 0 rfl ?_
    refine J_callV hX km_X7_lowOn kl_RX1_49 dX1_lineOf_17 h0 (by decide) [.int ((1 : Int32) - (x1 &&& (1 : Int32)))] ⟨Nat.le_of_ble_eq_true rfl, Nat.le_of_ble_eq_true rfl⟩ rfl rfl (Nat.le_of_ble_eq_true rfl) (c_X7_lowOn a0 h0 ((1 : Int32) - (x1 &&& (1 : Int32))) m) (fun v w2 hk => ?_)
    obtain ⟨rfl, rfl⟩ := hk
    show J X (0, 0) 20 [(2, .int ((1 : Int32) - (x1 &&& (1 : Int32)))), (0, .ref (ad a0)), (1, .int x1)] [.int (v_X7_lowOn a0 ((1 : Int32) - (x1 &&& (1 : Int32))) m)] (fl ad m)
    refine J_goto (tgt := 28) hX dX1_lineOf_20 (by decide) ?_
    exact J_sub [] rfl (hj3 _ (if_pos c1).symm)
  · refine J_iload_n hX dX1_lineOf_10 rfl 2 rfl ?_
    refine J_iconst (v := (3 : Int32)) hX dX1_lineOf_11 (by decide) ?_
    refine J_icmp_ne (tgt := 23) hX dX1_lineOf_12 (by decide) (fun c2 => ?_) (fun c2 => ?_)
    · refine J_aload_n hX dX1_lineOf_23 rfl 1 rfl ?_
      refine J_iload_n hX dX1_lineOf_24 rfl 0 rfl ?_
      refine J_callV hX km_X7_highOn kl_RX1_53 dX1_lineOf_25 h0 (by decide) [.int ((1 : Int32) - (x1 &&& (1 : Int32)))] ⟨Nat.le_of_ble_eq_true rfl, Nat.le_of_ble_eq_true rfl⟩ rfl rfl (Nat.le_of_ble_eq_true rfl) (c_X7_highOn a0 h0 ((1 : Int32) - (x1 &&& (1 : Int32))) m) (fun v w2 hk => ?_)
      obtain ⟨rfl, rfl⟩ := hk
      show J X (0, 0) 28 [(2, .int ((1 : Int32) - (x1 &&& (1 : Int32)))), (0, .ref (ad a0)), (1, .int x1)] [.int (v_X7_highOn a0 ((1 : Int32) - (x1 &&& (1 : Int32))) m)] (fl ad m)
      exact J_sub [] rfl (hj3 _ ((if_neg c1).trans (if_neg c2)).symm)
    · refine J_aload_n hX dX1_lineOf_15 rfl 1 rfl ?_
      refine J_iload_n hX dX1_lineOf_16 rfl 0 rfl ?_
      refine J_callV hX km_X7_lowOn kl_RX1_49 dX1_lineOf_17 h0 (by decide) [.int ((1 : Int32) - (x1 &&& (1 : Int32)))] ⟨Nat.le_of_ble_eq_true rfl, Nat.le_of_ble_eq_true rfl⟩ rfl rfl (Nat.le_of_ble_eq_true rfl) (c_X7_lowOn a0 h0 ((1 : Int32) - (x1 &&& (1 : Int32))) m) (fun v w2 hk => ?_)
      obtain ⟨rfl, rfl⟩ := hk
      show J X (0, 0) 20 [(2, .int ((1 : Int32) - (x1 &&& (1 : Int32)))), (0, .ref (ad a0)), (1, .int x1)] [.int (v_X7_lowOn a0 ((1 : Int32) - (x1 &&& (1 : Int32))) m)] (fl ad m)
      refine J_goto (tgt := 28) hX dX1_lineOf_20 (by decide) ?_
      exact J_sub [] rfl (hj3 _ ((if_neg c1).trans (if_pos c2)).symm)
set_option maxRecDepth 100000 in
theorem t_X1_newLine_j68 {X : XT} {ad : Nat → Nat} {K : Int32 → Mm → Prop} (hX : Cx X cX1_newLine 9 RX1 (rmN 2 46)) (hR : Rx X (some .int) (kI ad K) (0, 0)) {k30 : Int32 → Mm → Prop} (a1 : Nat) (h1 : kap a1 = 3) (x2 : Int32) (x3 : Int32) (a4 : Nat) (h4 : kap a4 = 7) (x5 : Int32) (x6 : Int32) (x7 : Int32) (a8 : Nat) (h8 : kap a8 = 7) (hk30 : ∀ (z7 : Int32) (m : Mm), k30 z7 m → J X (0, 0) 30 [(0, .ref (ad 259)), (1, .ref (ad a1)), (2, .int x2), (3, .int x3), (4, .ref (ad a4)), (5, .int x5), (6, .int x6), (7, .int z7)] [] (fl ad m)) (m : Mm) (h : wp_X1_newLine_j68 k30 K a1 x2 x3 a4 x5 x6 x7 a8 m) : J X (0, 0) 68 [(0, .ref (ad 259)), (1, .ref (ad a1)), (2, .int x2), (3, .int x3), (4, .ref (ad a4)), (5, .int x5), (6, .int x6), (7, .int x7), (8, .ref (ad a8))] [] (fl ad m) := by
  unfold wp_X1_newLine_j68 at h
  refine J_aload_n hX dX1_newLine_68 rfl 0 rfl ?_
  refine J_getR hX kf_RX1_10 dX1_newLine_69 ka_259 (by decide) rfl rh_259_0 ?_
  refine J_aload hX dX1_newLine_72 8 rfl ?_
  refine J_iload hX dX1_newLine_74 5 rfl ?_
  refine J_callV hX km_X7_lowOn kl_RX1_49 dX1_newLine_76 h8 (by decide) [.int x5] ⟨Nat.le_of_ble_eq_true rfl, Nat.le_of_ble_eq_true rfl⟩ rfl rfl (Nat.le_of_ble_eq_true rfl) (c_X7_lowOn a8 h8 x5 m) (fun v w2 hk => ?_)
  obtain ⟨rfl, rfl⟩ := hk
  show J X (0, 0) 79 [(0, .ref (ad 259)), (1, .ref (ad a1)), (2, .int x2), (3, .int x3), (4, .ref (ad a4)), (5, .int x5), (6, .int x6), (7, .int x7), (8, .ref (ad a8))] [.int (v_X7_lowOn a8 x5 m), .ref (ad 260)] (fl ad m)
  refine J_aload hX dX1_newLine_79 8 rfl ?_
  refine J_iload hX dX1_newLine_81 5 rfl ?_
  refine J_callV hX km_X7_highOn kl_RX1_53 dX1_newLine_83 h8 (by decide) [.int x5] ⟨Nat.le_of_ble_eq_true rfl, Nat.le_of_ble_eq_true rfl⟩ rfl rfl (Nat.le_of_ble_eq_true rfl) (c_X7_highOn a8 h8 x5 m) (fun v w2 hk => ?_)
  obtain ⟨rfl, rfl⟩ := hk
  show J X (0, 0) 86 [(0, .ref (ad 259)), (1, .ref (ad a1)), (2, .int x2), (3, .int x3), (4, .ref (ad a4)), (5, .int x5), (6, .int x6), (7, .int x7), (8, .ref (ad a8))] [.int (v_X7_highOn a8 x5 m), .int (v_X7_lowOn a8 x5 m), .ref (ad 260)] (fl ad m)
  refine J_callV hX km_X2_add kl_RX1_56 dX1_newLine_86 ka_260 (by decide) [.int (v_X7_lowOn a8 x5 m), .int (v_X7_highOn a8 x5 m)] ⟨Nat.le_of_ble_eq_true rfl, Nat.le_of_ble_eq_true rfl⟩ rfl rfl (Nat.le_of_ble_eq_true rfl) (c_X2_add 260 ka_260 (v_X7_lowOn a8 x5 m) (v_X7_highOn a8 x5 m) m _ h) (fun v w2 hk => ?_)
  obtain ⟨m6, rfl, rfl, h⟩ := hk
  show J X (0, 0) 89 [(0, .ref (ad 259)), (1, .ref (ad a1)), (2, .int x2), (3, .int x3), (4, .ref (ad a4)), (5, .int x5), (6, .int x6), (7, .int x7), (8, .ref (ad a8))] [] (fl ad m6)
  refine J_iinc (x := (x7 + (1 : Int32))) (lv2 := [(7, .int (x7 + (1 : Int32))), (0, .ref (ad 259)), (1, .ref (ad a1)), (2, .int x2), (3, .int x3), (4, .ref (ad a4)), (5, .int x5), (6, .int x6), (8, .ref (ad a8))]) hX dX1_newLine_89 7 rfl rfl (Nat.le_of_ble_eq_true rfl) rfl ?_
  refine J_goto (tgt := 30) hX dX1_newLine_92 (by decide) ?_
  exact J_sub [1, 2, 3, 4, 5, 6, 7, 0] rfl (hk30 (x7 + (1 : Int32)) m6 h)
set_option maxRecDepth 100000 in
theorem tb_X1_newLine_l30 {X : XT} {ad : Nat → Nat} {K : Int32 → Mm → Prop} (hX : Cx X cX1_newLine 9 RX1 (rmN 2 46)) (hR : Rx X (some .int) (kI ad K) (0, 0)) {rec : Int32 → Mm → Prop} {k95 : Mm → Prop} (a1 : Nat) (h1 : kap a1 = 3) (x2 : Int32) (x3 : Int32) (a4 : Nat) (h4 : kap a4 = 7) (x5 : Int32) (x6 : Int32) (hrec : ∀ (x7 : Int32) (m : Mm), rec x7 m → J X (0, 0) 30 [(0, .ref (ad 259)), (1, .ref (ad a1)), (2, .int x2), (3, .int x3), (4, .ref (ad a4)), (5, .int x5), (6, .int x6), (7, .int x7)] [] (fl ad m)) (hk95 : ∀ (m : Mm), k95 m → J X (0, 0) 95 [(0, .ref (ad 259)), (4, .ref (ad a4)), (5, .int x5)] [] (fl ad m)) (x7 : Int32) (m : Mm) (h : wb_X1_newLine_l30 rec k95 K a1 x2 x3 a4 x5 x6 x7 m) : J X (0, 0) 30 [(0, .ref (ad 259)), (1, .ref (ad a1)), (2, .int x2), (3, .int x3), (4, .ref (ad a4)), (5, .int x5), (6, .int x6), (7, .int x7)] [] (fl ad m) := by
  unfold wb_X1_newLine_l30 at h
  refine J_iload hX dX1_newLine_30 7 rfl ?_
  refine J_iload_n hX dX1_newLine_32 rfl 2 rfl ?_
  refine J_icmp_ge (tgt := 95) hX dX1_newLine_33 (by decide) (fun c4 => ?_) (fun c4 => ?_)
  · replace h := Eq.mp (if_pos c4) h
    exact J_sub [0, 4, 5] rfl (hk95 m h)
  · replace h := Eq.mp (if_neg c4) h
    refine J_aload_n hX dX1_newLine_36 rfl 1 rfl ?_
    refine J_iload hX dX1_newLine_37 7 rfl ?_
    refine J_callV hX km_X3_panelAt kl_RX1_26 dX1_newLine_39 h1 (by decide) [.int x7] ⟨Nat.le_of_ble_eq_true rfl, Nat.le_of_ble_eq_true rfl⟩ rfl rfl (Nat.le_of_ble_eq_true rfl) (c_X3_panelAt a1 h1 x7 m) (fun v w2 hk => ?_)
    obtain ⟨rfl, rfl⟩ := hk
    show J X (0, 0) 42 [(0, .ref (ad 259)), (1, .ref (ad a1)), (2, .int x2), (3, .int x3), (4, .ref (ad a4)), (5, .int x5), (6, .int x6), (7, .int x7)] [.ref (ad (v_X3_panelAt a1 x7))] (fl ad m)
    refine J_astore (lv2 := [(8, .ref (ad (v_X3_panelAt a1 x7))), (0, .ref (ad 259)), (1, .ref (ad a1)), (2, .int x2), (3, .int x3), (4, .ref (ad a4)), (5, .int x5), (6, .int x6), (7, .int x7)]) hX dX1_newLine_42 (Nat.le_of_ble_eq_true rfl) rfl ?_
    refine J_aload hX dX1_newLine_44 0 rfl ?_
    refine J_iload_n hX dX1_newLine_46 rfl 4 rfl ?_
    refine J_callS hX km_X1_lineOf kl_RX1_42 dX1_newLine_47 [.ref (ad (v_X3_panelAt a1 x7)), .int x3] ⟨Nat.le_of_ble_eq_true rfl, Nat.le_of_ble_eq_true rfl⟩ rfl rfl (Nat.le_of_ble_eq_true rfl) (c_X1_lineOf (v_X3_panelAt a1 x7) (kv_X3_panelAt h1) x3 m) (fun v w2 hk => ?_)
    obtain ⟨rfl, rfl⟩ := hk
    show J X (0, 0) 50 [(8, .ref (ad (v_X3_panelAt a1 x7))), (0, .ref (ad 259)), (1, .ref (ad a1)), (2, .int x2), (3, .int x3), (4, .ref (ad a4)), (5, .int x5), (6, .int x6), (7, .int x7)] [.int (v_X1_lineOf (v_X3_panelAt a1 x7) x3 m)] (fl ad m)
    refine J_iload hX dX1_newLine_50 7 rfl ?_
    refine J_icmp_eq (tgt := 68) hX dX1_newLine_52 (by decide) (fun c5 => ?_) (fun c5 => ?_)
    · replace h := Eq.mp (if_pos c5) h
      exact J_sub [1, 2, 3, 4, 5, 6, 7, 8, 0] rfl (t_X1_newLine_j68 hX hR a1 h1 x2 x3 a4 h4 x5 x6 x7 (v_X3_panelAt a1 x7) (kv_X3_panelAt h1) hrec m h)
    · replace h := Eq.mp (if_neg c5) h
      refine J_aload hX dX1_newLine_55 0 rfl ?_
      refine J_iload_n hX dX1_newLine_57 rfl 4 rfl ?_
      refine J_iconst (v := (2 : Int32)) hX dX1_newLine_58 (by decide) ?_
      refine J_ixor hX dX1_newLine_59 ?_
      refine J_callS hX km_X1_lineOf kl_RX1_42 dX1_newLine_60 [.ref (ad (v_X3_panelAt a1 x7)), .int (x3 ^^^ (2 : Int32))] ⟨Nat.le_of_ble_eq_true rfl, Nat.le_of_ble_eq_true rfl⟩ rfl rfl (Nat.le_of_ble_eq_true rfl) (c_X1_lineOf (v_X3_panelAt a1 x7) (kv_X3_panelAt h1) (x3 ^^^ (2 : Int32)) m) (fun v w2 hk => ?_)
      obtain ⟨rfl, rfl⟩ := hk
      show J X (0, 0) 63 [(8, .ref (ad (v_X3_panelAt a1 x7))), (0, .ref (ad 259)), (1, .ref (ad a1)), (2, .int x2), (3, .int x3), (4, .ref (ad a4)), (5, .int x5), (6, .int x6), (7, .int x7)] [.int (v_X1_lineOf (v_X3_panelAt a1 x7) (x3 ^^^ (2 : Int32)) m)] (fl ad m)
      refine J_iload hX dX1_newLine_63 7 rfl ?_
      refine J_icmp_ne (tgt := 89) hX dX1_newLine_65 (by decide) (fun c7 => ?_) (fun c7 => ?_)
      · replace h := Eq.mp (if_neg c7) h
        refine J_iinc (x := (x7 + (1 : Int32))) (lv2 := [(7, .int (x7 + (1 : Int32))), (8, .ref (ad (v_X3_panelAt a1 x7))), (0, .ref (ad 259)), (1, .ref (ad a1)), (2, .int x2), (3, .int x3), (4, .ref (ad a4)), (5, .int x5), (6, .int x6)]) hX dX1_newLine_89 8 rfl rfl (Nat.le_of_ble_eq_true rfl) rfl ?_
        refine J_goto (tgt := 30) hX dX1_newLine_92 (by decide) ?_
        exact J_sub [2, 3, 4, 5, 6, 7, 8, 0] rfl (hrec (x7 + (1 : Int32)) m h)
      · replace h := Eq.mp (if_pos c7) h
        exact J_sub [1, 2, 3, 4, 5, 6, 7, 8, 0] rfl (t_X1_newLine_j68 hX hR a1 h1 x2 x3 a4 h4 x5 x6 x7 (v_X3_panelAt a1 x7) (kv_X3_panelAt h1) hrec m h)
set_option maxRecDepth 100000 in
theorem t_X1_newLine_l30 {X : XT} {ad : Nat → Nat} {K : Int32 → Mm → Prop} (hX : Cx X cX1_newLine 9 RX1 (rmN 2 46)) (hR : Rx X (some .int) (kI ad K) (0, 0)) {k95 : Mm → Prop} (a1 : Nat) (h1 : kap a1 = 3) (x2 : Int32) (x3 : Int32) (a4 : Nat) (h4 : kap a4 = 7) (x5 : Int32) (x6 : Int32) (hk95 : ∀ (m : Mm), k95 m → J X (0, 0) 95 [(0, .ref (ad 259)), (4, .ref (ad a4)), (5, .int x5)] [] (fl ad m)) : ∀ (n : Nat) (x7 : Int32) (m : Mm), wp_X1_newLine_l30 k95 K a1 x2 x3 a4 x5 x6 n x7 m → J X (0, 0) 30 [(0, .ref (ad 259)), (1, .ref (ad a1)), (2, .int x2), (3, .int x3), (4, .ref (ad a4)), (5, .int x5), (6, .int x6), (7, .int x7)] [] (fl ad m) := by
  intro n
  induction n with
  | zero => intro x7 m h; exact h.elim
  | succ n ih => intro x7 m h; exact tb_X1_newLine_l30 hX hR a1 h1 x2 x3 a4 h4 x5 x6 ih hk95 x7 m h
set_option maxRecDepth 100000 in
theorem c_X1_newLine {G : GT} {ad : Nat → Nat} (a1 : Nat) (h1 : kap a1 = 3) (x2 : Int32) (x3 : Int32) (m : Mm) (K : Int32 → Mm → Prop) (h : wp_X1_newLine a1 x2 x3 m K) : Cn G yX1_newLine cX1_newLine 9 (some .int) (rmN 2 46) [.ref (ad 259), .ref (ad a1), .int x2, .int x3] (0, 0) (fl ad m) (kI ad K) := by
  unfold wp_X1_newLine at h
  refine Cn.of pn_RX1 (Nat.le_of_ble_eq_true rfl) (fun X hG hX hR => ?_)
  subst hG
  have hX : Cx X cX1_newLine 9 RX1 (rmN 2 46) := hX
  show J X (0, 0) 0 [(0, .ref (ad 259)), (1, .ref (ad a1)), (2, .int x2), (3, .int x3)] [] (fl ad m)
  refine J_aload_n hX dX1_newLine_0 rfl 1 rfl ?_
  refine J_iload_n hX dX1_newLine_1 rfl 2 rfl ?_
  refine J_callV hX km_X3_panelAt kl_RX1_26 dX1_newLine_2 h1 (by decide) [.int x2] ⟨Nat.le_of_ble_eq_true rfl, Nat.le_of_ble_eq_true rfl⟩ rfl rfl (Nat.le_of_ble_eq_true rfl) (c_X3_panelAt a1 h1 x2 m) (fun v w2 hk => ?_)
  obtain ⟨rfl, rfl⟩ := hk
  show J X (0, 0) 5 [(0, .ref (ad 259)), (1, .ref (ad a1)), (2, .int x2), (3, .int x3)] [.ref (ad (v_X3_panelAt a1 x2))] (fl ad m)
  refine J_astore (lv2 := [(4, .ref (ad (v_X3_panelAt a1 x2))), (0, .ref (ad 259)), (1, .ref (ad a1)), (2, .int x2), (3, .int x3)]) hX dX1_newLine_5 (Nat.le_of_ble_eq_true rfl) rfl ?_
  refine J_iload_n hX dX1_newLine_7 rfl 4 rfl ?_
  refine J_iconst (v := (1 : Int32)) hX dX1_newLine_8 (by decide) ?_
  refine J_iand hX dX1_newLine_9 ?_
  refine J_nmI (fun y1 e_y1 => ?_)
  replace h := h y1 e_y1
  refine J_istore (lv2 := [(5, .int y1), (4, .ref (ad (v_X3_panelAt a1 x2))), (0, .ref (ad 259)), (1, .ref (ad a1)), (2, .int x2), (3, .int x3)]) hX dX1_newLine_10 (Nat.le_of_ble_eq_true rfl) rfl ?_
  refine J_aload hX dX1_newLine_12 1 rfl ?_
  refine J_iload_n hX dX1_newLine_14 rfl 5 rfl ?_
  refine J_callS hX km_X1_lineOf kl_RX1_42 dX1_newLine_15 [.ref (ad (v_X3_panelAt a1 x2)), .int x3] ⟨Nat.le_of_ble_eq_true rfl, Nat.le_of_ble_eq_true rfl⟩ rfl rfl (Nat.le_of_ble_eq_true rfl) (c_X1_lineOf (v_X3_panelAt a1 x2) (kv_X3_panelAt h1) x3 m) (fun v w2 hk => ?_)
  obtain ⟨rfl, rfl⟩ := hk
  show J X (0, 0) 18 [(5, .int y1), (4, .ref (ad (v_X3_panelAt a1 x2))), (0, .ref (ad 259)), (1, .ref (ad a1)), (2, .int x2), (3, .int x3)] [.int (v_X1_lineOf (v_X3_panelAt a1 x2) x3 m)] (fl ad m)
  refine J_nmI (fun y2 e_y2 => ?_)
  replace h := h y2 e_y2
  refine J_istore (lv2 := [(6, .int y2), (5, .int y1), (4, .ref (ad (v_X3_panelAt a1 x2))), (0, .ref (ad 259)), (1, .ref (ad a1)), (2, .int x2), (3, .int x3)]) hX dX1_newLine_18 (Nat.le_of_ble_eq_true rfl) rfl ?_
  refine J_aload_n hX dX1_newLine_20 rfl 3 rfl ?_
  refine J_getR hX kf_RX1_10 dX1_newLine_21 ka_259 (by decide) rfl rh_259_0 ?_
  refine J_callV hX km_X2_empty kl_RX1_46 dX1_newLine_24 ka_260 (by decide) [] ⟨Nat.le_of_ble_eq_true rfl, Nat.le_of_ble_eq_true rfl⟩ rfl rfl (Nat.le_of_ble_eq_true rfl) (c_X2_empty 260 ka_260 m _ h) (fun v w2 hk => ?_)
  obtain ⟨m3, rfl, rfl, h⟩ := hk
  show J X (0, 0) 27 [(6, .int y2), (5, .int y1), (4, .ref (ad (v_X3_panelAt a1 x2))), (0, .ref (ad 259)), (1, .ref (ad a1)), (2, .int x2), (3, .int x3)] [] (fl ad m3)
  refine J_iconst (v := (0 : Int32)) hX dX1_newLine_27 (by decide) ?_
  refine J_istore (lv2 := [(7, .int (0 : Int32)), (6, .int y2), (5, .int y1), (4, .ref (ad (v_X3_panelAt a1 x2))), (0, .ref (ad 259)), (1, .ref (ad a1)), (2, .int x2), (3, .int x3)]) hX dX1_newLine_28 (Nat.le_of_ble_eq_true rfl) rfl ?_
  refine J_sub [4, 5, 6, 7, 3, 2, 1, 0] rfl (t_X1_newLine_l30 hX hR a1 h1 x2 x3 (v_X3_panelAt a1 x2) (kv_X3_panelAt h1) y1 y2 (fun m8 h => ?_) FU (0 : Int32) m3 h)
  refine J_aload_n hX dX1_newLine_95 rfl 0 rfl ?_
  refine J_getR hX kf_RX1_10 dX1_newLine_96 ka_259 (by decide) rfl rh_259_0 ?_
  refine J_aload hX dX1_newLine_99 1 rfl ?_
  refine J_iload hX dX1_newLine_101 2 rfl ?_
  refine J_callV hX km_X7_lowOn kl_RX1_49 dX1_newLine_103 (kv_X3_panelAt h1) (by decide) [.int y1] ⟨Nat.le_of_ble_eq_true rfl, Nat.le_of_ble_eq_true rfl⟩ rfl rfl (Nat.le_of_ble_eq_true rfl) (c_X7_lowOn (v_X3_panelAt a1 x2) (kv_X3_panelAt h1) y1 m8) (fun v w2 hk => ?_)
  obtain ⟨rfl, rfl⟩ := hk
  show J X (0, 0) 106 [(0, .ref (ad 259)), (4, .ref (ad (v_X3_panelAt a1 x2))), (5, .int y1)] [.int (v_X7_lowOn (v_X3_panelAt a1 x2) y1 m8), .ref (ad 260)] (fl ad m8)
  refine J_aload hX dX1_newLine_106 1 rfl ?_
  refine J_iload hX dX1_newLine_108 2 rfl ?_
  refine J_callV hX km_X7_highOn kl_RX1_53 dX1_newLine_110 (kv_X3_panelAt h1) (by decide) [.int y1] ⟨Nat.le_of_ble_eq_true rfl, Nat.le_of_ble_eq_true rfl⟩ rfl rfl (Nat.le_of_ble_eq_true rfl) (c_X7_highOn (v_X3_panelAt a1 x2) (kv_X3_panelAt h1) y1 m8) (fun v w2 hk => ?_)
  obtain ⟨rfl, rfl⟩ := hk
  show J X (0, 0) 113 [(0, .ref (ad 259)), (4, .ref (ad (v_X3_panelAt a1 x2))), (5, .int y1)] [.int (v_X7_highOn (v_X3_panelAt a1 x2) y1 m8), .int (v_X7_lowOn (v_X3_panelAt a1 x2) y1 m8), .ref (ad 260)] (fl ad m8)
  refine J_callV hX km_X2_uncovered kl_RX1_60 dX1_newLine_113 ka_260 (by decide) [.int (v_X7_lowOn (v_X3_panelAt a1 x2) y1 m8), .int (v_X7_highOn (v_X3_panelAt a1 x2) y1 m8)] ⟨Nat.le_of_ble_eq_true rfl, Nat.le_of_ble_eq_true rfl⟩ rfl rfl (Nat.le_of_ble_eq_true rfl) (c_X2_uncovered 260 ka_260 (v_X7_lowOn (v_X3_panelAt a1 x2) y1 m8) (v_X7_highOn (v_X3_panelAt a1 x2) y1 m8) m8 _ h) (fun v w2 hk => ?_)
  obtain ⟨y10, m9, rfl, rfl, h⟩ := hk
  show J X (0, 0) 116 [(0, .ref (ad 259)), (4, .ref (ad (v_X3_panelAt a1 x2))), (5, .int y1)] [.int y10] (fl ad m9)
  exact J_iret hX hR dX1_newLine_116 ⟨_, _, rfl, rfl, h⟩
set_option maxRecDepth 100000 in
theorem tb_X1_cuts_l15 {X : XT} {ad : Nat → Nat} {K : Int32 → Mm → Prop} (hX : Cx X cX1_cuts 5 RX1 (rmN 3 74)) (hR : Rx X (some .int) (kI ad K) (0, 0)) {rec : Int32 → Int32 → Mm → Prop} {k38 : Int32 → Mm → Prop} (a1 : Nat) (h1 : kap a1 = 3) (x3 : Int32) (hrec : ∀ (x2 : Int32) (x4 : Int32) (m : Mm), rec x2 x4 m → J X (0, 0) 15 [(0, .ref (ad 259)), (1, .ref (ad a1)), (2, .int x2), (3, .int x3), (4, .int x4)] [] (fl ad m)) (hk38 : ∀ (z2 : Int32) (m : Mm), k38 z2 m → J X (0, 0) 38 [(0, .ref (ad 259)), (1, .ref (ad a1)), (2, .int z2), (3, .int x3)] [] (fl ad m)) (x2 : Int32) (x4 : Int32) (m : Mm) (h : wb_X1_cuts_l15 rec k38 K a1 x3 x2 x4 m) : J X (0, 0) 15 [(0, .ref (ad 259)), (1, .ref (ad a1)), (2, .int x2), (3, .int x3), (4, .int x4)] [] (fl ad m) := by
  unfold wb_X1_cuts_l15 at h
  refine J_iload hX dX1_cuts_15 4 rfl ?_
  refine J_iconst (v := (4 : Int32)) hX dX1_cuts_17 (by decide) ?_
  refine J_icmp_ge (tgt := 38) hX dX1_cuts_18 (by decide) (fun c2 => ?_) (fun c2 => ?_)
  · replace h := Eq.mp (if_pos c2) h
    exact J_sub [0, 1, 2, 3] rfl (hk38 x2 m h)
  · replace h := Eq.mp (if_neg c2) h
    refine J_iload_n hX dX1_cuts_21 rfl 2 rfl ?_
    refine J_aload_n hX dX1_cuts_22 rfl 0 rfl ?_
    refine J_aload_n hX dX1_cuts_23 rfl 1 rfl ?_
    refine J_iload_n hX dX1_cuts_24 rfl 3 rfl ?_
    refine J_iload hX dX1_cuts_25 4 rfl ?_
    refine J_callV hX km_X1_newLine kl_RX1_38 dX1_cuts_27 ka_259 (by decide) [.ref (ad a1), .int x3, .int x4] ⟨Nat.le_of_ble_eq_true rfl, Nat.le_of_ble_eq_true rfl⟩ rfl rfl (Nat.le_of_ble_eq_true rfl) (c_X1_newLine a1 h1 x3 x4 m _ h) (fun v w2 hk => ?_)
    obtain ⟨y4, m3, rfl, rfl, h⟩ := hk
    show J X (0, 0) 30 [(0, .ref (ad 259)), (1, .ref (ad a1)), (2, .int x2), (3, .int x3), (4, .int x4)] [.int y4, .int x2] (fl ad m3)
    refine J_iadd hX dX1_cuts_30 ?_
    refine J_nmI (fun y5 e_y5 => ?_)
    replace h := h y5 e_y5
    refine J_istore_n (lv2 := [(2, .int y5), (0, .ref (ad 259)), (1, .ref (ad a1)), (3, .int x3), (4, .int x4)]) hX dX1_cuts_31 rfl (Nat.le_of_ble_eq_true rfl) rfl ?_
    refine J_iinc (x := (x4 + (1 : Int32))) (lv2 := [(4, .int (x4 + (1 : Int32))), (2, .int y5), (0, .ref (ad 259)), (1, .ref (ad a1)), (3, .int x3)]) hX dX1_cuts_32 4 rfl rfl (Nat.le_of_ble_eq_true rfl) rfl ?_
    refine J_goto (tgt := 15) hX dX1_cuts_35 (by decide) ?_
    exact J_sub [2, 3, 1, 4, 0] rfl (hrec y5 (x4 + (1 : Int32)) m3 h)
set_option maxRecDepth 100000 in
theorem t_X1_cuts_l15 {X : XT} {ad : Nat → Nat} {K : Int32 → Mm → Prop} (hX : Cx X cX1_cuts 5 RX1 (rmN 3 74)) (hR : Rx X (some .int) (kI ad K) (0, 0)) {k38 : Int32 → Mm → Prop} (a1 : Nat) (h1 : kap a1 = 3) (x3 : Int32) (hk38 : ∀ (z2 : Int32) (m : Mm), k38 z2 m → J X (0, 0) 38 [(0, .ref (ad 259)), (1, .ref (ad a1)), (2, .int z2), (3, .int x3)] [] (fl ad m)) : ∀ (n : Nat) (x2 : Int32) (x4 : Int32) (m : Mm), wp_X1_cuts_l15 k38 K a1 x3 n x2 x4 m → J X (0, 0) 15 [(0, .ref (ad 259)), (1, .ref (ad a1)), (2, .int x2), (3, .int x3), (4, .int x4)] [] (fl ad m) := by
  intro n
  induction n with
  | zero => intro x2 x4 m h; exact h.elim
  | succ n ih => intro x2 x4 m h; exact tb_X1_cuts_l15 hX hR a1 h1 x3 ih hk38 x2 x4 m h
set_option maxRecDepth 100000 in
theorem tb_X1_cuts_l4 {X : XT} {ad : Nat → Nat} {K : Int32 → Mm → Prop} (hX : Cx X cX1_cuts 5 RX1 (rmN 3 74)) (hR : Rx X (some .int) (kI ad K) (0, 0)) {rec : Int32 → Int32 → Mm → Prop} (a1 : Nat) (h1 : kap a1 = 3) (hrec : ∀ (x2 : Int32) (x3 : Int32) (m : Mm), rec x2 x3 m → J X (0, 0) 4 [(0, .ref (ad 259)), (1, .ref (ad a1)), (2, .int x2), (3, .int x3)] [] (fl ad m)) (x2 : Int32) (x3 : Int32) (m : Mm) (h : wb_X1_cuts_l4 rec K a1 x2 x3 m) : J X (0, 0) 4 [(0, .ref (ad 259)), (1, .ref (ad a1)), (2, .int x2), (3, .int x3)] [] (fl ad m) := by
  unfold wb_X1_cuts_l4 at h
  refine J_iload_n hX dX1_cuts_4 rfl 3 rfl ?_
  refine J_aload_n hX dX1_cuts_5 rfl 1 rfl ?_
  refine J_getI hX kf_RX1_20 dX1_cuts_6 h1 (by decide) rfl ?_
  refine J_icmp_ge (tgt := 63) hX dX1_cuts_9 (by decide) (fun c1 => ?_) (fun c1 => ?_)
  · replace h := Eq.mp (if_pos c1) h
    refine J_iload_n hX dX1_cuts_63 rfl 2 rfl ?_
    exact J_iret hX hR dX1_cuts_64 ⟨_, _, rfl, rfl, h⟩
  · replace h := Eq.mp (if_neg c1) h
    refine J_iconst (v := (0 : Int32)) hX dX1_cuts_12 (by decide) ?_
    refine J_istore (lv2 := [(4, .int (0 : Int32)), (0, .ref (ad 259)), (1, .ref (ad a1)), (2, .int x2), (3, .int x3)]) hX dX1_cuts_13 (Nat.le_of_ble_eq_true rfl) rfl ?_
    refine J_sub [1, 2, 3, 4, 0] rfl (t_X1_cuts_l15 hX hR a1 h1 x3 (fun y6 m7 h => ?_) FU x2 (0 : Int32) m h)
    refine J_iload_n hX dX1_cuts_38 rfl 2 rfl ?_
    refine J_iload_n hX dX1_cuts_39 rfl 3 rfl ?_
    have hj11 : ∀ y9 : Int32, y9 = (if x3 ≤ (0 : Int32) then (0 : Int32) else (m7.1 (v_X3_panelAt a1 x3) 3)) → J X (0, 0) 55 [(0, .ref (ad 259)), (1, .ref (ad a1)), (3, .int x3)] [.int y9, .int y6] (fl ad m7) := by
      intro y9 e_y9
      replace h := h y9 e_y9
      refine J_isub hX dX1_cuts_55 ?_
      refine J_nmI (fun y10 e_y10 => ?_)
      replace h := h y10 e_y10
      refine J_istore_n (lv2 := [(2, .int y10), (0, .ref (ad 259)), (1, .ref (ad a1)), (3, .int x3)]) hX dX1_cuts_56 rfl (Nat.le_of_ble_eq_true rfl) rfl ?_
      refine J_iinc (x := (x3 + (1 : Int32))) (lv2 := [(3, .int (x3 + (1 : Int32))), (2, .int y10), (0, .ref (ad 259)), (1, .ref (ad a1))]) hX dX1_cuts_57 3 rfl rfl (Nat.le_of_ble_eq_true rfl) rfl ?_
      refine J_goto (tgt := 4) hX dX1_cuts_60 (by decide) ?_
      exact J_sub [2, 3, 1, 0] rfl (hrec y10 (x3 + (1 : Int32)) m7 h)
    refine J_if_le (tgt := 54) hX dX1_cuts_40 (by decide) (fun c8 => ?_) (fun c8 => ?_)
    · refine J_iconst (v := (0 : Int32)) hX dX1_cuts_54 (by decide) ?_
      exact J_sub [0, 1, 3] rfl (hj11 _ (if_pos c8).symm)
    · refine J_aload_n hX dX1_cuts_43 rfl 1 rfl ?_
      refine J_iload_n hX dX1_cuts_44 rfl 3 rfl ?_
      refine J_callV hX km_X3_panelAt kl_RX1_26 dX1_cuts_45 h1 (by decide) [.int x3] ⟨Nat.le_of_ble_eq_true rfl, Nat.le_of_ble_eq_true rfl⟩ rfl rfl (Nat.le_of_ble_eq_true rfl) (c_X3_panelAt a1 h1 x3 m7) (fun v w2 hk => ?_)
      obtain ⟨rfl, rfl⟩ := hk
      show J X (0, 0) 48 [(0, .ref (ad 259)), (1, .ref (ad a1)), (2, .int y6), (3, .int x3)] [.ref (ad (v_X3_panelAt a1 x3)), .int y6] (fl ad m7)
      refine J_getI hX kf_RX1_35 dX1_cuts_48 (kv_X3_panelAt h1) (by decide) rfl ?_
      refine J_goto (tgt := 55) hX dX1_cuts_51 (by decide) ?_
      exact J_sub [0, 1, 3] rfl (hj11 _ (if_neg c8).symm)
set_option maxRecDepth 100000 in
theorem t_X1_cuts_l4 {X : XT} {ad : Nat → Nat} {K : Int32 → Mm → Prop} (hX : Cx X cX1_cuts 5 RX1 (rmN 3 74)) (hR : Rx X (some .int) (kI ad K) (0, 0)) (a1 : Nat) (h1 : kap a1 = 3) : ∀ (n : Nat) (x2 : Int32) (x3 : Int32) (m : Mm), wp_X1_cuts_l4 K a1 n x2 x3 m → J X (0, 0) 4 [(0, .ref (ad 259)), (1, .ref (ad a1)), (2, .int x2), (3, .int x3)] [] (fl ad m) := by
  intro n
  induction n with
  | zero => intro x2 x3 m h; exact h.elim
  | succ n ih => intro x2 x3 m h; exact tb_X1_cuts_l4 hX hR a1 h1 ih x2 x3 m h
set_option maxRecDepth 100000 in
theorem c_X1_cuts {G : GT} {ad : Nat → Nat} (a1 : Nat) (h1 : kap a1 = 3) (m : Mm) (K : Int32 → Mm → Prop) (h : wp_X1_cuts a1 m K) : Cn G yX1_cuts cX1_cuts 5 (some .int) (rmN 3 74) [.ref (ad 259), .ref (ad a1)] (0, 0) (fl ad m) (kI ad K) := by
  unfold wp_X1_cuts at h
  refine Cn.of pn_RX1 (Nat.le_of_ble_eq_true rfl) (fun X hG hX hR => ?_)
  subst hG
  have hX : Cx X cX1_cuts 5 RX1 (rmN 3 74) := hX
  show J X (0, 0) 0 [(0, .ref (ad 259)), (1, .ref (ad a1))] [] (fl ad m)
  refine J_iconst (v := (0 : Int32)) hX dX1_cuts_0 (by decide) ?_
  refine J_istore_n (lv2 := [(2, .int (0 : Int32)), (0, .ref (ad 259)), (1, .ref (ad a1))]) hX dX1_cuts_1 rfl (Nat.le_of_ble_eq_true rfl) rfl ?_
  refine J_iconst (v := (0 : Int32)) hX dX1_cuts_2 (by decide) ?_
  refine J_istore_n (lv2 := [(3, .int (0 : Int32)), (2, .int (0 : Int32)), (0, .ref (ad 259)), (1, .ref (ad a1))]) hX dX1_cuts_3 rfl (Nat.le_of_ble_eq_true rfl) rfl ?_
  refine J_sub [2, 3, 1, 0] rfl (t_X1_cuts_l4 hX hR a1 h1 FU (0 : Int32) (0 : Int32) m h)
set_option maxRecDepth 100000 in
theorem c_X11_cutLength {G : GT} {ad : Nat → Nat} (m : Mm) (K : Int32 → Mm → Prop) (h : wp_X11_cutLength m K) : Cn G yX11_cutLength cX11_cutLength 1 (some .int) (rmN 4 98) [.ref (ad 0)] (0, 0) (fl ad m) (kI ad K) := by
  unfold wp_X11_cutLength at h
  refine Cn.of pn_RX11 (Nat.le_of_ble_eq_true rfl) (fun X hG hX hR => ?_)
  subst hG
  have hX : Cx X cX11_cutLength 1 RX11 (rmN 4 98) := hX
  show J X (0, 0) 0 [(0, .ref (ad 0))] [] (fl ad m)
  refine J_aload_n hX dX11_cutLength_0 rfl 0 rfl ?_
  refine J_getR hX kf_RX11_48 dX11_cutLength_1 ka_0 (by decide) rfl rh_0_7 ?_
  refine J_aload_n hX dX11_cutLength_4 rfl 0 rfl ?_
  refine J_getR hX kf_RX11_10 dX11_cutLength_5 ka_0 (by decide) rfl rh_0_0 ?_
  refine J_callV hX km_X1_cuts kl_RX11_236 dX11_cutLength_8 ka_259 (by decide) [.ref (ad 1)] ⟨Nat.le_of_ble_eq_true rfl, Nat.le_of_ble_eq_true rfl⟩ rfl rfl (Nat.le_of_ble_eq_true rfl) (c_X1_cuts 1 ka_1 m _ h) (fun v w2 hk => ?_)
  obtain ⟨y2, m1, rfl, rfl, h⟩ := hk
  show J X (0, 0) 11 [(0, .ref (ad 0))] [.int y2] (fl ad m1)
  exact J_iret hX hR dX11_cutLength_11 ⟨_, _, rfl, rfl, h⟩
set_option maxRecDepth 100000 in
theorem c_X3_imageFault {G : GT} {ad : Nat → Nat} (a0 : Nat) (h0 : kap a0 = 3) (x1 : Int32) (x2 : Int32) (x3 : Int32) (m : Mm) : Cn G yX3_imageFault cX3_imageFault 4 (some .int) (rmN 0 0) [.ref (ad a0), .int x1, .int x2, .int x3] (0, 0) (fl ad m) (fun v w => v = some (.int (v_X3_imageFault a0 x1 x2 x3)) ∧ w = fl ad m) := by
  refine Cn.of pn_RX3 (Nat.le_of_ble_eq_true rfl) (fun X hG hX hR => ?_)
  subst hG
  have hX : Cx X cX3_imageFault 4 RX3 (rmN 0 0) := hX
  show J X (0, 0) 0 [(0, .ref (ad a0)), (1, .int x1), (2, .int x2), (3, .int x3)] [] (fl ad m)
  refine J_iload_n hX dX3_imageFault_0 rfl 1 rfl ?_
  refine J_if_lt (tgt := 9) hX dX3_imageFault_1 (by decide) (fun c1 => ?_) (fun c1 => ?_)
  · refine J_iconst (v := (-1 : Int32)) hX dX3_imageFault_9 (by decide) ?_
    exact J_iret hX hR dX3_imageFault_10 (And.intro (congrArg (fun z => some (Value.int z)) (show (-1 : Int32) = v_X3_imageFault a0 x1 x2 x3 from (if_pos c1).symm)) rfl)
  · refine J_iload_n hX dX3_imageFault_4 rfl 1 rfl ?_
    refine J_iconst (v := (4 : Int32)) hX dX3_imageFault_5 (by decide) ?_
    refine J_icmp_lt (tgt := 11) hX dX3_imageFault_6 (by decide) (fun c2 => ?_) (fun c2 => ?_)
    · refine J_iload_n hX dX3_imageFault_11 rfl 2 rfl ?_
      refine J_iconst (v := (1 : Int32)) hX dX3_imageFault_12 (by decide) ?_
      have hj7 : ∀ y8 : Int32, y8 = (if x2 < (1 : Int32) then (-1 : Int32) else (if (200 : Int32) < x2 then (-1 : Int32) else (if x3 < (1 : Int32) then (-1 : Int32) else (if x3 ≤ (200 : Int32) then (0 : Int32) else (-1 : Int32))))) → J X (0, 0) 40 [] [.int y8] (fl ad m) := by
        intro y8 e_y8
        subst e_y8
        exact J_iret hX hR dX3_imageFault_40 (And.intro (congrArg (fun z => some (Value.int z)) (show (if x2 < (1 : Int32) then (-1 : Int32) else (if (200 : Int32) < x2 then (-1 : Int32) else (if x3 < (1 : Int32) then (-1 : Int32) else (if x3 ≤ (200 : Int32) then (0 : Int32) else (-1 : Int32))))) = v_X3_imageFault a0 x1 x2 x3 from ((if_neg c1).trans (if_pos c2)).symm)) rfl)
      refine J_icmp_lt (tgt := 35) hX dX3_imageFault_13 (by decide) (fun c3 => ?_) (fun c3 => ?_)
      · refine J_iconst (v := (-1 : Int32)) hX dX3_imageFault_35 (by decide) ?_
        refine J_goto (tgt := 40) hX dX3_imageFault_36 (by decide) ?_
        exact J_sub [] rfl (hj7 _ (if_pos c3).symm)
      · refine J_iload_n hX dX3_imageFault_16 rfl 2 rfl ?_
        refine J_sipush (v := (200 : Int32)) hX dX3_imageFault_17 (by decide) ?_
        refine J_icmp_gt (tgt := 35) hX dX3_imageFault_20 (by decide) (fun c4 => ?_) (fun c4 => ?_)
        · refine J_iconst (v := (-1 : Int32)) hX dX3_imageFault_35 (by decide) ?_
          refine J_goto (tgt := 40) hX dX3_imageFault_36 (by decide) ?_
          exact J_sub [] rfl (hj7 _ ((if_neg c3).trans (if_pos c4)).symm)
        · refine J_iload_n hX dX3_imageFault_23 rfl 3 rfl ?_
          refine J_iconst (v := (1 : Int32)) hX dX3_imageFault_24 (by decide) ?_
          refine J_icmp_lt (tgt := 35) hX dX3_imageFault_25 (by decide) (fun c5 => ?_) (fun c5 => ?_)
          · refine J_iconst (v := (-1 : Int32)) hX dX3_imageFault_35 (by decide) ?_
            refine J_goto (tgt := 40) hX dX3_imageFault_36 (by decide) ?_
            exact J_sub [] rfl (hj7 _ ((if_neg c3).trans ((if_neg c4).trans (if_pos c5))).symm)
          · refine J_iload_n hX dX3_imageFault_28 rfl 3 rfl ?_
            refine J_sipush (v := (200 : Int32)) hX dX3_imageFault_29 (by decide) ?_
            refine J_icmp_le (tgt := 39) hX dX3_imageFault_32 (by decide) (fun c6 => ?_) (fun c6 => ?_)
            · refine J_iconst (v := (0 : Int32)) hX dX3_imageFault_39 (by decide) ?_
              exact J_sub [] rfl (hj7 _ ((if_neg c3).trans ((if_neg c4).trans ((if_neg c5).trans (if_pos c6)))).symm)
            · refine J_iconst (v := (-1 : Int32)) hX dX3_imageFault_35 (by decide) ?_
              refine J_goto (tgt := 40) hX dX3_imageFault_36 (by decide) ?_
              exact J_sub [] rfl (hj7 _ ((if_neg c3).trans ((if_neg c4).trans ((if_neg c5).trans (if_neg c6)))).symm)
    · refine J_iconst (v := (-1 : Int32)) hX dX3_imageFault_9 (by decide) ?_
      exact J_iret hX hR dX3_imageFault_10 (And.intro (congrArg (fun z => some (Value.int z)) (show (-1 : Int32) = v_X3_imageFault a0 x1 x2 x3 from ((if_neg c1).trans (if_neg c2)).symm)) rfl)
set_option maxRecDepth 100000 in
theorem c_X3_changeImage {G : GT} {ad : Nat → Nat} (a0 : Nat) (h0 : kap a0 = 3) (x1 : Int32) (x2 : Int32) (x3 : Int32) (m : Mm) (K : Int32 → Mm → Prop) (h : wp_X3_changeImage a0 x1 x2 x3 m K) : Cn G yX3_changeImage cX3_changeImage 5 (some .int) (rmN 1 21) [.ref (ad a0), .int x1, .int x2, .int x3] (0, 0) (fl ad m) (kI ad K) := by
  unfold wp_X3_changeImage at h
  refine Cn.of pn_RX3 (Nat.le_of_ble_eq_true rfl) (fun X hG hX hR => ?_)
  subst hG
  have hX : Cx X cX3_changeImage 5 RX3 (rmN 1 21) := hX
  show J X (0, 0) 0 [(0, .ref (ad a0)), (1, .int x1), (2, .int x2), (3, .int x3)] [] (fl ad m)
  refine J_aload_n hX dX3_changeImage_0 rfl 0 rfl ?_
  refine J_iload_n hX dX3_changeImage_1 rfl 1 rfl ?_
  refine J_callV hX km_X3_hasImage kl_RX3_129 dX3_changeImage_2 h0 (by decide) [.int x1] ⟨Nat.le_of_ble_eq_true rfl, Nat.le_of_ble_eq_true rfl⟩ rfl rfl (Nat.le_of_ble_eq_true rfl) (c_X3_hasImage a0 h0 x1 m) (fun v w2 hk => ?_)
  obtain ⟨rfl, rfl⟩ := hk
  show J X (0, 0) 5 [(0, .ref (ad a0)), (1, .int x1), (2, .int x2), (3, .int x3)] [.int (v_X3_hasImage a0 x1 m)] (fl ad m)
  have hj7 : ∀ y2 : Int32, y2 = (if (v_X3_hasImage a0 x1 m) = (0 : Int32) then (0 : Int32) else (1 : Int32)) → J X (0, 0) 13 [(0, .ref (ad a0)), (1, .int x1), (2, .int x2), (3, .int x3)] [.int y2] (fl ad m) := by
    intro y2 e_y2
    replace h := h y2 e_y2
    refine J_istore (lv2 := [(4, .int y2), (0, .ref (ad a0)), (1, .int x1), (2, .int x2), (3, .int x3)]) hX dX3_changeImage_13 (Nat.le_of_ble_eq_true rfl) rfl ?_
    refine J_iload_n hX dX3_changeImage_15 rfl 2 rfl ?_
    refine J_if_lt (tgt := 38) hX dX3_changeImage_16 (by decide) (fun c3 => ?_) (fun c3 => ?_)
    · replace h := Eq.mp (if_pos c3) h
      refine J_iload hX dX3_changeImage_38 0 rfl ?_
      exact J_iret hX hR dX3_changeImage_40 ⟨_, _, rfl, rfl, h⟩
    · replace h := Eq.mp (if_neg c3) h
      refine J_iload_n hX dX3_changeImage_19 rfl 2 rfl ?_
      refine J_iconst (v := (4 : Int32)) hX dX3_changeImage_20 (by decide) ?_
      refine J_icmp_ge (tgt := 38) hX dX3_changeImage_21 (by decide) (fun c4 => ?_) (fun c4 => ?_)
      · replace h := Eq.mp (if_pos c4) h
        refine J_iload hX dX3_changeImage_38 0 rfl ?_
        exact J_iret hX hR dX3_changeImage_40 ⟨_, _, rfl, rfl, h⟩
      · replace h := Eq.mp (if_neg c4) h
        refine J_aload_n hX dX3_changeImage_24 rfl 1 rfl ?_
        refine J_getR hX kf_RX3_9 dX3_changeImage_25 h0 (by decide) rfl (ro_3_0 h0) ?_
        refine J_iload_n hX dX3_changeImage_28 rfl 2 rfl ?_
        refine J_iload_n hX dX3_changeImage_29 rfl 3 rfl ?_
        refine J_iast (j := x1.toNatClampNeg) hX dX3_changeImage_30 (ko_3_0 h0) (lo_3_0 h0) (vp_b (lo_2 c3) (up_2 c4 (by decide))) rfl ?_
        refine J_nmM (fun m5 e_m5 => ?_)
        replace h := h m5 e_m5
        refine J_aload_n hX dX3_changeImage_31 rfl 1 rfl ?_
        refine J_getR hX kf_RX3_15 dX3_changeImage_32 h0 (by decide) rfl (ro_3_1 h0) ?_
        refine J_iload_n hX dX3_changeImage_35 rfl 2 rfl ?_
        refine J_iload_n hX dX3_changeImage_36 rfl 4 rfl ?_
        refine J_iast (j := x1.toNatClampNeg) hX dX3_changeImage_37 (ko_3_1 h0) (lo_3_1 h0) (vp_b (lo_2 c3) (up_2 c4 (by decide))) rfl ?_
        refine J_nmM (fun m6 e_m6 => ?_)
        replace h := h m6 e_m6
        refine J_iload hX dX3_changeImage_38 0 rfl ?_
        exact J_iret hX hR dX3_changeImage_40 ⟨_, _, rfl, rfl, h⟩
  refine J_if_eq (tgt := 12) hX dX3_changeImage_5 (by decide) (fun c1 => ?_) (fun c1 => ?_)
  · refine J_iconst (v := (0 : Int32)) hX dX3_changeImage_12 (by decide) ?_
    exact J_sub [0, 1, 2, 3] rfl (hj7 _ (if_pos c1).symm)
  · refine J_iconst (v := (1 : Int32)) hX dX3_changeImage_8 (by decide) ?_
    refine J_goto (tgt := 13) hX dX3_changeImage_9 (by decide) ?_
    exact J_sub [0, 1, 2, 3] rfl (hj7 _ (if_neg c1).symm)
set_option maxRecDepth 100000 in
theorem c_X11_defineImage {G : GT} {ad : Nat → Nat} (x1 : Int32) (x2 : Int32) (x3 : Int32) (m : Mm) (K : Int32 → Mm → Prop) (h : wp_X11_defineImage x1 x2 x3 m K) : Cn G yX11_defineImage cX11_defineImage 5 (some .int) (rmN 3 67) [.ref (ad 0), .int x1, .int x2, .int x3] (0, 0) (fl ad m) (kI ad K) := by
  unfold wp_X11_defineImage at h
  refine Cn.of pn_RX11 (Nat.le_of_ble_eq_true rfl) (fun X hG hX hR => ?_)
  subst hG
  have hX : Cx X cX11_defineImage 5 RX11 (rmN 3 67) := hX
  show J X (0, 0) 0 [(0, .ref (ad 0)), (1, .int x1), (2, .int x2), (3, .int x3)] [] (fl ad m)
  refine J_aload_n hX dX11_defineImage_0 rfl 0 rfl ?_
  refine J_getR hX kf_RX11_10 dX11_defineImage_1 ka_0 (by decide) rfl rh_0_0 ?_
  refine J_iload_n hX dX11_defineImage_4 rfl 1 rfl ?_
  refine J_iload_n hX dX11_defineImage_5 rfl 2 rfl ?_
  refine J_iload_n hX dX11_defineImage_6 rfl 3 rfl ?_
  refine J_callV hX km_X3_imageFault kl_RX11_161 dX11_defineImage_7 ka_1 (by decide) [.int x1, .int x2, .int x3] ⟨Nat.le_of_ble_eq_true rfl, Nat.le_of_ble_eq_true rfl⟩ rfl rfl (Nat.le_of_ble_eq_true rfl) (c_X3_imageFault 1 ka_1 x1 x2 x3 m) (fun v w2 hk => ?_)
  obtain ⟨rfl, rfl⟩ := hk
  show J X (0, 0) 10 [(0, .ref (ad 0)), (1, .int x1), (2, .int x2), (3, .int x3)] [.int (v_X3_imageFault 1 x1 x2 x3)] (fl ad m)
  refine J_nmI (fun y1 e_y1 => ?_)
  replace h := h y1 e_y1
  refine J_istore (lv2 := [(4, .int y1), (0, .ref (ad 0)), (1, .int x1), (2, .int x2), (3, .int x3)]) hX dX11_defineImage_10 (Nat.le_of_ble_eq_true rfl) rfl ?_
  refine J_iload hX dX11_defineImage_12 0 rfl ?_
  refine J_if_eq (tgt := 20) hX dX11_defineImage_14 (by decide) (fun c2 => ?_) (fun c2 => ?_)
  · replace h := Eq.mp (if_pos c2) h
    refine J_aload_n hX dX11_defineImage_20 rfl 1 rfl ?_
    refine J_getR hX kf_RX11_30 dX11_defineImage_21 ka_0 (by decide) rfl rh_0_4 ?_
    refine J_aload_n hX dX11_defineImage_24 rfl 1 rfl ?_
    refine J_getR hX kf_RX11_10 dX11_defineImage_25 ka_0 (by decide) rfl rh_0_0 ?_
    refine J_aload_n hX dX11_defineImage_28 rfl 1 rfl ?_
    refine J_getR hX kf_RX11_77 dX11_defineImage_29 ka_0 (by decide) rfl rh_0_12 ?_
    refine J_aload_n hX dX11_defineImage_32 rfl 1 rfl ?_
    refine J_getR hX kf_RX11_81 dX11_defineImage_33 ka_0 (by decide) rfl rh_0_13 ?_
    refine J_callV hX km_X6_remember kl_RX11_110 dX11_defineImage_36 ka_33 (by decide) [.ref (ad 1), .ref (ad 265), .ref (ad 266)] ⟨Nat.le_of_ble_eq_true rfl, Nat.le_of_ble_eq_true rfl⟩ rfl rfl (Nat.le_of_ble_eq_true rfl) (c_X6_remember 1 ka_1 m _ h) (fun v w2 hk => ?_)
    obtain ⟨m3, rfl, rfl, h⟩ := hk
    show J X (0, 0) 39 [(4, .int y1), (0, .ref (ad 0)), (1, .int x1), (2, .int x2), (3, .int x3)] [] (fl ad m3)
    refine J_aload_n hX dX11_defineImage_39 rfl 1 rfl ?_
    refine J_getR hX kf_RX11_10 dX11_defineImage_40 ka_0 (by decide) rfl rh_0_0 ?_
    refine J_iload_n hX dX11_defineImage_43 rfl 2 rfl ?_
    refine J_iload_n hX dX11_defineImage_44 rfl 3 rfl ?_
    refine J_iload_n hX dX11_defineImage_45 rfl 4 rfl ?_
    refine J_callV hX km_X3_changeImage kl_RX11_164 dX11_defineImage_46 ka_1 (by decide) [.int x1, .int x2, .int x3] ⟨Nat.le_of_ble_eq_true rfl, Nat.le_of_ble_eq_true rfl⟩ rfl rfl (Nat.le_of_ble_eq_true rfl) (c_X3_changeImage 1 ka_1 x1 x2 x3 m3 _ h) (fun v w2 hk => ?_)
    obtain ⟨y5, m4, rfl, rfl, h⟩ := hk
    show J X (0, 0) 49 [(4, .int y1), (0, .ref (ad 0)), (1, .int x1), (2, .int x2), (3, .int x3)] [.int y5] (fl ad m4)
    exact J_iret hX hR dX11_defineImage_49 ⟨_, _, rfl, rfl, h⟩
  · replace h := Eq.mp (if_neg c2) h
    refine J_iload hX dX11_defineImage_17 0 rfl ?_
    exact J_iret hX hR dX11_defineImage_19 ⟨_, _, rfl, rfl, h⟩
set_option maxRecDepth 100000 in
theorem c_X11_facing {G : GT} {ad : Nat → Nat} (x1 : Int32) (m : Mm) (K : Int32 → Mm → Prop) (h : wp_X11_facing x1 m K) : Cn G yX11_facing cX11_facing 2 (some .int) (rmN 4 99) [.ref (ad 0), .int x1] (0, 0) (fl ad m) (kI ad K) := by
  unfold wp_X11_facing at h
  refine Cn.of pn_RX11 (Nat.le_of_ble_eq_true rfl) (fun X hG hX hR => ?_)
  subst hG
  have hX : Cx X cX11_facing 2 RX11 (rmN 4 99) := hX
  show J X (0, 0) 0 [(0, .ref (ad 0)), (1, .int x1)] [] (fl ad m)
  refine J_aload_n hX dX11_facing_0 rfl 0 rfl ?_
  refine J_getR hX kf_RX11_10 dX11_facing_1 ka_0 (by decide) rfl rh_0_0 ?_
  refine J_iload_n hX dX11_facing_4 rfl 1 rfl ?_
  refine J_callV hX km_X3_has kl_RX11_223 dX11_facing_5 ka_1 (by decide) [.int x1] ⟨Nat.le_of_ble_eq_true rfl, Nat.le_of_ble_eq_true rfl⟩ rfl rfl (Nat.le_of_ble_eq_true rfl) (c_X3_has 1 ka_1 x1 m) (fun v w2 hk => ?_)
  obtain ⟨rfl, rfl⟩ := hk
  show J X (0, 0) 8 [(0, .ref (ad 0)), (1, .int x1)] [.int (v_X3_has 1 x1 m)] (fl ad m)
  refine J_if_ne (tgt := 13) hX dX11_facing_8 (by decide) (fun c1 => ?_) (fun c1 => ?_)
  · replace h := Eq.mp (if_neg c1) h
    refine J_aload_n hX dX11_facing_13 rfl 0 rfl ?_
    refine J_getR hX kf_RX11_73 dX11_facing_14 ka_0 (by decide) rfl rh_0_11 ?_
    refine J_aload_n hX dX11_facing_17 rfl 0 rfl ?_
    refine J_getR hX kf_RX11_10 dX11_facing_18 ka_0 (by decide) rfl rh_0_0 ?_
    refine J_iconst (v := (-1 : Int32)) hX dX11_facing_21 (by decide) ?_
    refine J_callV hX km_X5_fold kl_RX11_254 dX11_facing_22 ka_269 (by decide) [.ref (ad 1), .int (-1 : Int32)] ⟨Nat.le_of_ble_eq_true rfl, Nat.le_of_ble_eq_true rfl⟩ rfl rfl (Nat.le_of_ble_eq_true rfl) (c_X5_fold 1 ka_1 (-1 : Int32) m _ h) (fun v w2 hk => ?_)
    obtain ⟨m2, rfl, rfl, h⟩ := hk
    show J X (0, 0) 25 [(0, .ref (ad 0)), (1, .int x1)] [] (fl ad m2)
    refine J_aload_n hX dX11_facing_25 rfl 0 rfl ?_
    refine J_getR hX kf_RX11_73 dX11_facing_26 ka_0 (by decide) rfl rh_0_11 ?_
    refine J_iload_n hX dX11_facing_29 rfl 1 rfl ?_
    refine J_callV hX km_X5_poseAt kl_RX11_260 dX11_facing_30 ka_269 (by decide) [.int x1] ⟨Nat.le_of_ble_eq_true rfl, Nat.le_of_ble_eq_true rfl⟩ rfl rfl (Nat.le_of_ble_eq_true rfl) (c_X5_poseAt x1 m2) (fun v w2 hk => ?_)
    obtain ⟨rfl, rfl⟩ := hk
    show J X (0, 0) 33 [(0, .ref (ad 0)), (1, .int x1)] [.ref (ad (v_X5_poseAt x1))] (fl ad m2)
    refine J_getI hX kf_RX11_269 dX11_facing_33 kv_X5_poseAt (by decide) rfl ?_
    exact J_iret hX hR dX11_facing_36 ⟨_, _, rfl, rfl, h⟩
  · replace h := Eq.mp (if_pos c1) h
    refine J_iconst (v := (-1 : Int32)) hX dX11_facing_11 (by decide) ?_
    exact J_iret hX hR dX11_facing_12 ⟨_, _, rfl, rfl, h⟩
set_option maxRecDepth 100000 in
theorem c_X11_faultKind {G : GT} {ad : Nat → Nat} (m : Mm) : Cn G yX11_faultKind cX11_faultKind 1 (some .int) (rmN 0 0) [.ref (ad 0)] (0, 0) (fl ad m) (fun v w => v = some (.int (v_X11_faultKind m)) ∧ w = fl ad m) := by
  refine Cn.of pn_RX11 (Nat.le_of_ble_eq_true rfl) (fun X hG hX hR => ?_)
  subst hG
  have hX : Cx X cX11_faultKind 1 RX11 (rmN 0 0) := hX
  show J X (0, 0) 0 [(0, .ref (ad 0))] [] (fl ad m)
  refine J_aload_n hX dX11_faultKind_0 rfl 0 rfl ?_
  refine J_getI hX kf_RX11_86 dX11_faultKind_1 ka_0 (by decide) rfl ?_
  exact J_iret hX hR dX11_faultKind_4 (And.intro (congrArg (fun z => some (Value.int z)) (show (m.1 0 15) = v_X11_faultKind m from rfl)) rfl)
set_option maxRecDepth 100000 in
theorem tb_X4_sort_l38 {X : XT} {ad : Nat → Nat} {K : Mm → Prop} (hX : Cx X cX4_sort 6 RX4 (rmN 0 0)) (hR : Rx X none (kV ad K) (0, 0)) {rec : Int32 → Mm → Prop} {k83 : Int32 → Mm → Prop} (x1 : Int32) (x2 : Int32) (x3 : Int64) (hrec : ∀ (x5 : Int32) (m : Mm), rec x5 m → J X (0, 0) 38 [(0, .ref (ad 264)), (1, .int x1), (2, .int x2), (3, .long x3), (5, .int x5)] [] (fl ad m)) (hk83 : ∀ (z5 : Int32) (m : Mm), k83 z5 m → J X (0, 0) 83 [(0, .ref (ad 264)), (1, .int x1), (2, .int x2), (3, .long x3), (5, .int z5)] [] (fl ad m)) (x5 : Int32) (m : Mm) (h : wb_X4_sort_l38 rec k83 K x1 x2 x3 x5 m) : J X (0, 0) 38 [(0, .ref (ad 264)), (1, .int x1), (2, .int x2), (3, .long x3), (5, .int x5)] [] (fl ad m) := by
  unfold wb_X4_sort_l38 at h
  refine J_iload hX dX4_sort_38 4 rfl ?_
  refine J_iload_n hX dX4_sort_40 rfl 1 rfl ?_
  refine J_icmp_lt (tgt := 83) hX dX4_sort_41 (by decide) (fun c7 => ?_) (fun c7 => ?_)
  · replace h := Eq.mp (if_pos c7) h
    exact J_sub [0, 1, 2, 3, 4] rfl (hk83 x5 m h)
  · replace h := Eq.mp (if_neg c7) h
    refine J_aload_n hX dX4_sort_44 rfl 0 rfl ?_
    refine J_getR hX kf_RX4_45 dX4_sort_45 ka_264 (by decide) rfl rh_264_7 ?_
    refine J_iload hX dX4_sort_48 4 rfl ?_
    refine J_iload_n hX dX4_sort_50 rfl 1 rfl ?_
    refine J_isub hX dX4_sort_51 ?_
    obtain ⟨b8, h⟩ := h
    refine J_lald (j := (x5 - x1).toNatClampNeg) hX dX4_sort_52 ka_395 le_395 b8 rfl ?_
    refine J_lload_n hX dX4_sort_53 rfl 3 rfl ?_
    refine J_lcmp hX dX4_sort_54 ?_
    refine J_if_le (tgt := 83) hX dX4_sort_55 (by decide) (fun c9 => ?_) (fun c9 => ?_)
    · replace h := Eq.mp (if_pos c9) h
      exact J_sub [0, 1, 2, 3, 4] rfl (hk83 x5 m h)
    · replace h := Eq.mp (if_neg c9) h
      refine J_aload_n hX dX4_sort_58 rfl 0 rfl ?_
      refine J_getR hX kf_RX4_45 dX4_sort_59 ka_264 (by decide) rfl rh_264_7 ?_
      refine J_iload hX dX4_sort_62 4 rfl ?_
      refine J_aload_n hX dX4_sort_64 rfl 0 rfl ?_
      refine J_getR hX kf_RX4_45 dX4_sort_65 ka_264 (by decide) rfl rh_264_7 ?_
      refine J_iload hX dX4_sort_68 4 rfl ?_
      refine J_iload_n hX dX4_sort_70 rfl 1 rfl ?_
      refine J_isub hX dX4_sort_71 ?_
      refine J_lald (j := (x5 - x1).toNatClampNeg) hX dX4_sort_72 ka_395 le_395 b8 rfl ?_
      obtain ⟨b10, h⟩ := h
      refine J_last (j := x5.toNatClampNeg) hX dX4_sort_73 ka_395 le_395 b10 rfl ?_
      refine J_nmM (fun m11 e_m11 => ?_)
      replace h := h m11 e_m11
      refine J_iload hX dX4_sort_74 4 rfl ?_
      refine J_iload_n hX dX4_sort_76 rfl 1 rfl ?_
      refine J_isub hX dX4_sort_77 ?_
      refine J_nmI (fun y12 e_y12 => ?_)
      replace h := h y12 e_y12
      refine J_istore (lv2 := [(5, .int y12), (0, .ref (ad 264)), (1, .int x1), (2, .int x2), (3, .long x3)]) hX dX4_sort_78 (Nat.le_of_ble_eq_true rfl) rfl ?_
      refine J_goto (tgt := 38) hX dX4_sort_80 (by decide) ?_
      exact J_sub [1, 2, 3, 4, 0] rfl (hrec y12 m11 h)
set_option maxRecDepth 100000 in
theorem t_X4_sort_l38 {X : XT} {ad : Nat → Nat} {K : Mm → Prop} (hX : Cx X cX4_sort 6 RX4 (rmN 0 0)) (hR : Rx X none (kV ad K) (0, 0)) {k83 : Int32 → Mm → Prop} (x1 : Int32) (x2 : Int32) (x3 : Int64) (hk83 : ∀ (z5 : Int32) (m : Mm), k83 z5 m → J X (0, 0) 83 [(0, .ref (ad 264)), (1, .int x1), (2, .int x2), (3, .long x3), (5, .int z5)] [] (fl ad m)) : ∀ (n : Nat) (x5 : Int32) (m : Mm), wp_X4_sort_l38 k83 K x1 x2 x3 n x5 m → J X (0, 0) 38 [(0, .ref (ad 264)), (1, .int x1), (2, .int x2), (3, .long x3), (5, .int x5)] [] (fl ad m) := by
  intro n
  induction n with
  | zero => intro x5 m h; exact h.elim
  | succ n ih => intro x5 m h; exact tb_X4_sort_l38 hX hR x1 x2 x3 ih hk83 x5 m h
set_option maxRecDepth 100000 in
theorem tb_X4_sort_l13 {X : XT} {ad : Nat → Nat} {K : Mm → Prop} (hX : Cx X cX4_sort 6 RX4 (rmN 0 0)) (hR : Rx X none (kV ad K) (0, 0)) {rec : Int32 → Mm → Prop} {k97 : Mm → Prop} (x1 : Int32) (hrec : ∀ (x2 : Int32) (m : Mm), rec x2 m → J X (0, 0) 13 [(0, .ref (ad 264)), (1, .int x1), (2, .int x2)] [] (fl ad m)) (hk97 : ∀ (m : Mm), k97 m → J X (0, 0) 97 [(0, .ref (ad 264)), (1, .int x1)] [] (fl ad m)) (x2 : Int32) (m : Mm) (h : wb_X4_sort_l13 rec k97 K x1 x2 m) : J X (0, 0) 13 [(0, .ref (ad 264)), (1, .int x1), (2, .int x2)] [] (fl ad m) := by
  unfold wb_X4_sort_l13 at h
  refine J_iload_n hX dX4_sort_13 rfl 2 rfl ?_
  refine J_aload_n hX dX4_sort_14 rfl 0 rfl ?_
  refine J_getI hX kf_RX4_9 dX4_sort_15 ka_264 (by decide) rfl ?_
  refine J_icmp_ge (tgt := 97) hX dX4_sort_18 (by decide) (fun c3 => ?_) (fun c3 => ?_)
  · replace h := Eq.mp (if_pos c3) h
    exact J_sub [0, 1] rfl (hk97 m h)
  · replace h := Eq.mp (if_neg c3) h
    refine J_iload_n hX dX4_sort_21 rfl 2 rfl ?_
    refine J_sipush (v := (1000 : Int32)) hX dX4_sort_22 (by decide) ?_
    refine J_icmp_ge (tgt := 97) hX dX4_sort_25 (by decide) (fun c4 => ?_) (fun c4 => ?_)
    · replace h := Eq.mp (if_pos c4) h
      exact J_sub [0, 1] rfl (hk97 m h)
    · replace h := Eq.mp (if_neg c4) h
      refine J_aload_n hX dX4_sort_28 rfl 0 rfl ?_
      refine J_getR hX kf_RX4_45 dX4_sort_29 ka_264 (by decide) rfl rh_264_7 ?_
      refine J_iload_n hX dX4_sort_32 rfl 2 rfl ?_
      obtain ⟨b5, h⟩ := h
      refine J_lald (j := x2.toNatClampNeg) hX dX4_sort_33 ka_395 le_395 b5 rfl ?_
      refine J_nmL (fun y6 e_y6 => ?_)
      replace h := h y6 e_y6
      refine J_lstore_n (lv2 := [(3, .long y6), (0, .ref (ad 264)), (1, .int x1), (2, .int x2)]) hX dX4_sort_34 rfl (Nat.le_of_ble_eq_true rfl) rfl ?_
      refine J_iload_n hX dX4_sort_35 rfl 3 rfl ?_
      refine J_istore (lv2 := [(5, .int x2), (3, .long y6), (0, .ref (ad 264)), (1, .int x1), (2, .int x2)]) hX dX4_sort_36 (Nat.le_of_ble_eq_true rfl) rfl ?_
      refine J_sub [2, 3, 4, 1, 0] rfl (t_X4_sort_l38 hX hR x1 x2 y6 (fun y13 m14 h => ?_) FU x2 m h)
      refine J_aload_n hX dX4_sort_83 rfl 0 rfl ?_
      refine J_getR hX kf_RX4_45 dX4_sort_84 ka_264 (by decide) rfl rh_264_7 ?_
      refine J_iload hX dX4_sort_87 4 rfl ?_
      refine J_lload_n hX dX4_sort_89 rfl 3 rfl ?_
      obtain ⟨b15, h⟩ := h
      refine J_last (j := y13.toNatClampNeg) hX dX4_sort_90 ka_395 le_395 b15 rfl ?_
      refine J_nmM (fun m16 e_m16 => ?_)
      replace h := h m16 e_m16
      refine J_iinc (x := (x2 + (1 : Int32))) (lv2 := [(2, .int (x2 + (1 : Int32))), (0, .ref (ad 264)), (1, .int x1), (3, .long y6), (5, .int y13)]) hX dX4_sort_91 2 rfl rfl (Nat.le_of_ble_eq_true rfl) rfl ?_
      refine J_goto (tgt := 13) hX dX4_sort_94 (by decide) ?_
      exact J_sub [1, 2, 0] rfl (hrec (x2 + (1 : Int32)) m16 h)
set_option maxRecDepth 100000 in
theorem t_X4_sort_l13 {X : XT} {ad : Nat → Nat} {K : Mm → Prop} (hX : Cx X cX4_sort 6 RX4 (rmN 0 0)) (hR : Rx X none (kV ad K) (0, 0)) {k97 : Mm → Prop} (x1 : Int32) (hk97 : ∀ (m : Mm), k97 m → J X (0, 0) 97 [(0, .ref (ad 264)), (1, .int x1)] [] (fl ad m)) : ∀ (n : Nat) (x2 : Int32) (m : Mm), wp_X4_sort_l13 k97 K x1 n x2 m → J X (0, 0) 13 [(0, .ref (ad 264)), (1, .int x1), (2, .int x2)] [] (fl ad m) := by
  intro n
  induction n with
  | zero => intro x2 m h; exact h.elim
  | succ n ih => intro x2 m h; exact tb_X4_sort_l13 hX hR x1 ih hk97 x2 m h
set_option maxRecDepth 100000 in
theorem tb_X4_sort_l7 {X : XT} {ad : Nat → Nat} {K : Mm → Prop} (hX : Cx X cX4_sort 6 RX4 (rmN 0 0)) (hR : Rx X none (kV ad K) (0, 0)) {rec : Int32 → Mm → Prop} (hrec : ∀ (x1 : Int32) (m : Mm), rec x1 m → J X (0, 0) 7 [(0, .ref (ad 264)), (1, .int x1)] [] (fl ad m)) (x1 : Int32) (m : Mm) (h : wb_X4_sort_l7 rec K x1 m) : J X (0, 0) 7 [(0, .ref (ad 264)), (1, .int x1)] [] (fl ad m) := by
  unfold wb_X4_sort_l7 at h
  refine J_iload_n hX dX4_sort_7 rfl 1 rfl ?_
  refine J_if_le (tgt := 104) hX dX4_sort_8 (by decide) (fun c2 => ?_) (fun c2 => ?_)
  · replace h := Eq.mp (if_pos c2) h
    exact J_vret hX hR dX4_sort_104 ⟨_, rfl, rfl, h⟩
  · replace h := Eq.mp (if_neg c2) h
    refine J_iload_n hX dX4_sort_11 rfl 1 rfl ?_
    refine J_istore_n (lv2 := [(2, .int x1), (0, .ref (ad 264)), (1, .int x1)]) hX dX4_sort_12 rfl (Nat.le_of_ble_eq_true rfl) rfl ?_
    refine J_sub [1, 2, 0] rfl (t_X4_sort_l13 hX hR x1 (fun m17 h => ?_) FU x1 m h)
    refine J_iload_n hX dX4_sort_97 rfl 1 rfl ?_
    refine J_iconst (v := (2 : Int32)) hX dX4_sort_98 (by decide) ?_
    refine J_idiv hX dX4_sort_99 (by decide) ?_
    refine J_nmI (fun y18 e_y18 => ?_)
    replace h := h y18 e_y18
    refine J_istore_n (lv2 := [(1, .int y18), (0, .ref (ad 264))]) hX dX4_sort_100 rfl (Nat.le_of_ble_eq_true rfl) rfl ?_
    refine J_goto (tgt := 7) hX dX4_sort_101 (by decide) ?_
    exact J_sub [1, 0] rfl (hrec y18 m17 h)
set_option maxRecDepth 100000 in
theorem t_X4_sort_l7 {X : XT} {ad : Nat → Nat} {K : Mm → Prop} (hX : Cx X cX4_sort 6 RX4 (rmN 0 0)) (hR : Rx X none (kV ad K) (0, 0))  : ∀ (n : Nat) (x1 : Int32) (m : Mm), wp_X4_sort_l7 K n x1 m → J X (0, 0) 7 [(0, .ref (ad 264)), (1, .int x1)] [] (fl ad m) := by
  intro n
  induction n with
  | zero => intro x1 m h; exact h.elim
  | succ n ih => intro x1 m h; exact tb_X4_sort_l7 hX hR ih x1 m h
set_option maxRecDepth 100000 in
theorem c_X4_sort {G : GT} {ad : Nat → Nat} (m : Mm) (K : Mm → Prop) (h : wp_X4_sort m K) : Cn G yX4_sort cX4_sort 6 none (rmN 0 0) [.ref (ad 264)] (0, 0) (fl ad m) (kV ad K) := by
  unfold wp_X4_sort at h
  refine Cn.of pn_RX4 (Nat.le_of_ble_eq_true rfl) (fun X hG hX hR => ?_)
  subst hG
  have hX : Cx X cX4_sort 6 RX4 (rmN 0 0) := hX
  show J X (0, 0) 0 [(0, .ref (ad 264))] [] (fl ad m)
  refine J_aload_n hX dX4_sort_0 rfl 0 rfl ?_
  refine J_getI hX kf_RX4_9 dX4_sort_1 ka_264 (by decide) rfl ?_
  refine J_iconst (v := (2 : Int32)) hX dX4_sort_4 (by decide) ?_
  refine J_idiv hX dX4_sort_5 (by decide) ?_
  refine J_nmI (fun y1 e_y1 => ?_)
  replace h := h y1 e_y1
  refine J_istore_n (lv2 := [(1, .int y1), (0, .ref (ad 264))]) hX dX4_sort_6 rfl (Nat.le_of_ble_eq_true rfl) rfl ?_
  refine J_sub [1, 0] rfl (t_X4_sort_l7 hX hR FU y1 m h)
set_option maxRecDepth 100000 in
theorem c_X4_kindOf {G : GT} {ad : Nat → Nat} (x0 : Int64) (m : Mm) : Cn G yX4_kindOf cX4_kindOf 2 (some .int) (rmN 0 0) [.long x0] (0, 0) (fl ad m) (fun v w => v = some (.int (v_X4_kindOf x0)) ∧ w = fl ad m) := by
  refine Cn.of pn_RX4 (Nat.le_of_ble_eq_true rfl) (fun X hG hX hR => ?_)
  subst hG
  have hX : Cx X cX4_kindOf 2 RX4 (rmN 0 0) := hX
  show J X (0, 0) 0 [(0, .long x0)] [] (fl ad m)
  refine J_lload_n hX dX4_kindOf_0 rfl 0 rfl ?_
  refine J_bipush (v := (11 : Int32)) hX dX4_kindOf_1 (by decide) ?_
  refine J_lshr hX dX4_kindOf_3 ?_
  refine J_l2i hX dX4_kindOf_4 ?_
  refine J_bipush (v := (7 : Int32)) hX dX4_kindOf_5 (by decide) ?_
  refine J_iand hX dX4_kindOf_7 ?_
  exact J_iret hX hR dX4_kindOf_8 (And.intro (congrArg (fun z => some (Value.int z)) (show ((x0 >>> ((11 : Int32).toInt64 &&& 63)).toInt32 &&& (7 : Int32)) = v_X4_kindOf x0 from rfl)) rfl)
set_option maxRecDepth 100000 in
theorem c_X4_panelOf {G : GT} {ad : Nat → Nat} (x0 : Int64) (m : Mm) : Cn G yX4_panelOf cX4_panelOf 2 (some .int) (rmN 0 0) [.long x0] (0, 0) (fl ad m) (fun v w => v = some (.int (v_X4_panelOf x0)) ∧ w = fl ad m) := by
  refine Cn.of pn_RX4 (Nat.le_of_ble_eq_true rfl) (fun X hG hX hR => ?_)
  subst hG
  have hX : Cx X cX4_panelOf 2 RX4 (rmN 0 0) := hX
  show J X (0, 0) 0 [(0, .long x0)] [] (fl ad m)
  refine J_lload_n hX dX4_panelOf_0 rfl 0 rfl ?_
  refine J_bipush (v := (7 : Int32)) hX dX4_panelOf_1 (by decide) ?_
  refine J_lshr hX dX4_panelOf_3 ?_
  refine J_l2i hX dX4_panelOf_4 ?_
  refine J_bipush (v := (15 : Int32)) hX dX4_panelOf_5 (by decide) ?_
  refine J_iand hX dX4_panelOf_7 ?_
  exact J_iret hX hR dX4_panelOf_8 (And.intro (congrArg (fun z => some (Value.int z)) (show ((x0 >>> ((7 : Int32).toInt64 &&& 63)).toInt32 &&& (15 : Int32)) = v_X4_panelOf x0 from rfl)) rfl)
set_option maxRecDepth 100000 in
theorem c_X4_sideOf {G : GT} {ad : Nat → Nat} (x0 : Int64) (m : Mm) : Cn G yX4_sideOf cX4_sideOf 3 (some .int) (rmN 0 0) [.long x0] (0, 0) (fl ad m) (fun v w => v = some (.int (v_X4_sideOf x0)) ∧ w = fl ad m) := by
  refine Cn.of pn_RX4 (Nat.le_of_ble_eq_true rfl) (fun X hG hX hR => ?_)
  subst hG
  have hX : Cx X cX4_sideOf 3 RX4 (rmN 0 0) := hX
  show J X (0, 0) 0 [(0, .long x0)] [] (fl ad m)
  refine J_lload_n hX dX4_sideOf_0 rfl 0 rfl ?_
  refine J_iconst (v := (4 : Int32)) hX dX4_sideOf_1 (by decide) ?_
  refine J_lshr hX dX4_sideOf_2 ?_
  refine J_l2i hX dX4_sideOf_3 ?_
  refine J_bipush (v := (7 : Int32)) hX dX4_sideOf_4 (by decide) ?_
  refine J_iand hX dX4_sideOf_6 ?_
  refine J_istore_n (lv2 := [(2, .int ((x0 >>> ((4 : Int32).toInt64 &&& 63)).toInt32 &&& (7 : Int32))), (0, .long x0)]) hX dX4_sideOf_7 rfl (Nat.le_of_ble_eq_true rfl) rfl ?_
  refine J_iload_n hX dX4_sideOf_8 rfl 0 rfl ?_
  have hj2 : ∀ y3 : Int32, y3 = (if ((x0 >>> ((4 : Int32).toInt64 &&& 63)).toInt32 &&& (7 : Int32)) = (0 : Int32) then (-9 : Int32) else (((x0 >>> ((4 : Int32).toInt64 &&& 63)).toInt32 &&& (7 : Int32)) - (1 : Int32))) → J X (0, 0) 20 [] [.int y3] (fl ad m) := by
    intro y3 e_y3
    subst e_y3
    exact J_iret hX hR dX4_sideOf_20 (And.intro (congrArg (fun z => some (Value.int z)) (show (if ((x0 >>> ((4 : Int32).toInt64 &&& 63)).toInt32 &&& (7 : Int32)) = (0 : Int32) then (-9 : Int32) else (((x0 >>> ((4 : Int32).toInt64 &&& 63)).toInt32 &&& (7 : Int32)) - (1 : Int32))) = v_X4_sideOf x0 from rfl)) rfl)
  refine J_if_ne (tgt := 17) hX dX4_sideOf_9 (by decide) (fun c1 => ?_) (fun c1 => ?_)
  · refine J_iload_n hX dX4_sideOf_17 rfl 0 rfl ?_
    refine J_iconst (v := (1 : Int32)) hX dX4_sideOf_18 (by decide) ?_
    refine J_isub hX dX4_sideOf_19 ?_
    exact J_sub [] rfl (hj2 _ (if_neg c1).symm)
  · refine J_bipush (v := (-9 : Int32)) hX dX4_sideOf_12 (by decide) ?_
    refine J_goto (tgt := 20) hX dX4_sideOf_14 (by decide) ?_
    exact J_sub [] rfl (hj2 _ (if_pos c1).symm)
set_option maxRecDepth 100000 in
theorem c_X4_otherOf {G : GT} {ad : Nat → Nat} (x0 : Int64) (m : Mm) : Cn G yX4_otherOf cX4_otherOf 3 (some .int) (rmN 0 0) [.long x0] (0, 0) (fl ad m) (fun v w => v = some (.int (v_X4_otherOf x0)) ∧ w = fl ad m) := by
  refine Cn.of pn_RX4 (Nat.le_of_ble_eq_true rfl) (fun X hG hX hR => ?_)
  subst hG
  have hX : Cx X cX4_otherOf 3 RX4 (rmN 0 0) := hX
  show J X (0, 0) 0 [(0, .long x0)] [] (fl ad m)
  refine J_lload_n hX dX4_otherOf_0 rfl 0 rfl ?_
  refine J_l2i hX dX4_otherOf_1 ?_
  refine J_bipush (v := (15 : Int32)) hX dX4_otherOf_2 (by decide) ?_
  refine J_iand hX dX4_otherOf_4 ?_
  refine J_istore_n (lv2 := [(2, .int (x0.toInt32 &&& (15 : Int32))), (0, .long x0)]) hX dX4_otherOf_5 rfl (Nat.le_of_ble_eq_true rfl) rfl ?_
  refine J_iload_n hX dX4_otherOf_6 rfl 0 rfl ?_
  have hj2 : ∀ y3 : Int32, y3 = (if (x0.toInt32 &&& (15 : Int32)) = (0 : Int32) then (-9 : Int32) else ((x0.toInt32 &&& (15 : Int32)) - (1 : Int32))) → J X (0, 0) 18 [] [.int y3] (fl ad m) := by
    intro y3 e_y3
    subst e_y3
    exact J_iret hX hR dX4_otherOf_18 (And.intro (congrArg (fun z => some (Value.int z)) (show (if (x0.toInt32 &&& (15 : Int32)) = (0 : Int32) then (-9 : Int32) else ((x0.toInt32 &&& (15 : Int32)) - (1 : Int32))) = v_X4_otherOf x0 from rfl)) rfl)
  refine J_if_ne (tgt := 15) hX dX4_otherOf_7 (by decide) (fun c1 => ?_) (fun c1 => ?_)
  · refine J_iload_n hX dX4_otherOf_15 rfl 0 rfl ?_
    refine J_iconst (v := (1 : Int32)) hX dX4_otherOf_16 (by decide) ?_
    refine J_isub hX dX4_otherOf_17 ?_
    exact J_sub [] rfl (hj2 _ (if_neg c1).symm)
  · refine J_bipush (v := (-9 : Int32)) hX dX4_otherOf_10 (by decide) ?_
    refine J_goto (tgt := 18) hX dX4_otherOf_12 (by decide) ?_
    exact J_sub [] rfl (hj2 _ (if_pos c1).symm)
set_option maxRecDepth 100000 in
theorem c_X4_costOf {G : GT} {ad : Nat → Nat} (x0 : Int64) (m : Mm) : Cn G yX4_costOf cX4_costOf 2 (some .int) (rmN 0 0) [.long x0] (0, 0) (fl ad m) (fun v w => v = some (.int (v_X4_costOf x0)) ∧ w = fl ad m) := by
  refine Cn.of pn_RX4 (Nat.le_of_ble_eq_true rfl) (fun X hG hX hR => ?_)
  subst hG
  have hX : Cx X cX4_costOf 2 RX4 (rmN 0 0) := hX
  show J X (0, 0) 0 [(0, .long x0)] [] (fl ad m)
  refine J_ldc2 hX kc_RX4_101 dX4_costOf_0 ?_
  refine J_lload_n hX dX4_costOf_3 rfl 0 rfl ?_
  refine J_bipush (v := (14 : Int32)) hX dX4_costOf_4 (by decide) ?_
  refine J_lshr hX dX4_costOf_6 ?_
  refine J_lsub hX dX4_costOf_7 ?_
  refine J_l2i hX dX4_costOf_8 ?_
  exact J_iret hX hR dX4_costOf_9 (And.intro (congrArg (fun z => some (Value.int z)) (show ((1048576 : Int64) - (x0 >>> ((14 : Int32).toInt64 &&& 63))).toInt32 = v_X4_costOf x0 from rfl)) rfl)
set_option maxRecDepth 100000 in
theorem c_X4_value {G : GT} {ad : Nat → Nat} (x1 : Int32) (x2 : Int32) (m : Mm) : Cn G yX4_value cX4_value 6 (some .int) (rmN 1 22) [.ref (ad 264), .int x1, .int x2] (0, 0) (fl ad m) (fun v w => v = some (.int (v_X4_value x1 x2 m)) ∧ w = fl ad m) := by
  refine Cn.of pn_RX4 (Nat.le_of_ble_eq_true rfl) (fun X hG hX hR => ?_)
  subst hG
  have hX : Cx X cX4_value 6 RX4 (rmN 1 22) := hX
  show J X (0, 0) 0 [(0, .ref (ad 264)), (1, .int x1), (2, .int x2)] [] (fl ad m)
  refine J_iload_n hX dX4_value_0 rfl 1 rfl ?_
  refine J_if_lt (tgt := 19) hX dX4_value_1 (by decide) (fun c1 => ?_) (fun c1 => ?_)
  · refine J_iconst (v := (-1 : Int32)) hX dX4_value_19 (by decide) ?_
    exact J_iret hX hR dX4_value_20 (And.intro (congrArg (fun z => some (Value.int z)) (show (-1 : Int32) = v_X4_value x1 x2 m from (if_pos c1).symm)) rfl)
  · refine J_iload_n hX dX4_value_4 rfl 1 rfl ?_
    refine J_aload_n hX dX4_value_5 rfl 0 rfl ?_
    refine J_getI hX kf_RX4_9 dX4_value_6 ka_264 (by decide) rfl ?_
    refine J_icmp_ge (tgt := 19) hX dX4_value_9 (by decide) (fun c2 => ?_) (fun c2 => ?_)
    · refine J_iconst (v := (-1 : Int32)) hX dX4_value_19 (by decide) ?_
      exact J_iret hX hR dX4_value_20 (And.intro (congrArg (fun z => some (Value.int z)) (show (-1 : Int32) = v_X4_value x1 x2 m from ((if_neg c1).trans (if_pos c2)).symm)) rfl)
    · refine J_iload_n hX dX4_value_12 rfl 1 rfl ?_
      refine J_sipush (v := (1000 : Int32)) hX dX4_value_13 (by decide) ?_
      refine J_icmp_lt (tgt := 21) hX dX4_value_16 (by decide) (fun c3 => ?_) (fun c3 => ?_)
      · refine J_aload_n hX dX4_value_21 rfl 0 rfl ?_
        refine J_getR hX kf_RX4_45 dX4_value_22 ka_264 (by decide) rfl rh_264_7 ?_
        refine J_iload_n hX dX4_value_25 rfl 1 rfl ?_
        refine J_lald (j := x1.toNatClampNeg) hX dX4_value_26 ka_395 le_395 (vp_b (lo_2 c1) (up_1 c3 (by decide))) rfl ?_
        refine J_lstore_n (lv2 := [(3, .long (m.2 395 x1.toNatClampNeg)), (0, .ref (ad 264)), (1, .int x1), (2, .int x2)]) hX dX4_value_27 rfl (Nat.le_of_ble_eq_true rfl) rfl ?_
        refine J_aload_n hX dX4_value_28 rfl 1 rfl ?_
        refine J_lload_n hX dX4_value_29 rfl 0 rfl ?_
        refine J_callS hX km_X4_kindOf kl_RX4_221 dX4_value_30 [.long (m.2 395 x1.toNatClampNeg)] ⟨Nat.le_of_ble_eq_true rfl, Nat.le_of_ble_eq_true rfl⟩ rfl rfl (Nat.le_of_ble_eq_true rfl) (c_X4_kindOf (m.2 395 x1.toNatClampNeg) m) (fun v w2 hk => ?_)
        obtain ⟨rfl, rfl⟩ := hk
        show J X (0, 0) 33 [(3, .long (m.2 395 x1.toNatClampNeg)), (0, .ref (ad 264)), (1, .int x1), (2, .int x2)] [.int (v_X4_kindOf (m.2 395 x1.toNatClampNeg)), .ref (ad 264)] (fl ad m)
        refine J_callV hX km_X4_weight kl_RX4_98 dX4_value_33 ka_264 (by decide) [.int (v_X4_kindOf (m.2 395 x1.toNatClampNeg))] ⟨Nat.le_of_ble_eq_true rfl, Nat.le_of_ble_eq_true rfl⟩ rfl rfl (Nat.le_of_ble_eq_true rfl) (c_X4_weight (v_X4_kindOf (m.2 395 x1.toNatClampNeg)) m) (fun v w2 hk => ?_)
        obtain ⟨rfl, rfl⟩ := hk
        show J X (0, 0) 36 [(3, .long (m.2 395 x1.toNatClampNeg)), (0, .ref (ad 264)), (1, .int x1), (2, .int x2)] [.int (v_X4_weight (v_X4_kindOf (m.2 395 x1.toNatClampNeg)) m)] (fl ad m)
        refine J_istore (lv2 := [(5, .int (v_X4_weight (v_X4_kindOf (m.2 395 x1.toNatClampNeg)) m)), (3, .long (m.2 395 x1.toNatClampNeg)), (0, .ref (ad 264)), (1, .int x1), (2, .int x2)]) hX dX4_value_36 (Nat.le_of_ble_eq_true rfl) rfl ?_
        refine J_iload_n hX dX4_value_38 rfl 4 rfl ?_
        by_cases c4 : x2 = (0 : Int32)
        · refine J_tabIn (v := (0 : Int32)) (tgt := 72) hX dX4_value_39 c4 (by decide) (by decide) rfl (by decide) ?_
          refine J_lload_n hX dX4_value_72 rfl 1 rfl ?_
          refine J_callS hX km_X4_kindOf kl_RX4_221 dX4_value_73 [.long (m.2 395 x1.toNatClampNeg)] ⟨Nat.le_of_ble_eq_true rfl, Nat.le_of_ble_eq_true rfl⟩ rfl rfl (Nat.le_of_ble_eq_true rfl) (c_X4_kindOf (m.2 395 x1.toNatClampNeg) m) (fun v w2 hk => ?_)
          obtain ⟨rfl, rfl⟩ := hk
          show J X (0, 0) 76 [(5, .int (v_X4_weight (v_X4_kindOf (m.2 395 x1.toNatClampNeg)) m)), (3, .long (m.2 395 x1.toNatClampNeg)), (0, .ref (ad 264)), (1, .int x1), (2, .int x2)] [.int (v_X4_kindOf (m.2 395 x1.toNatClampNeg))] (fl ad m)
          exact J_iret hX hR dX4_value_76 (And.intro (congrArg (fun z => some (Value.int z)) (show (v_X4_kindOf (m.2 395 x1.toNatClampNeg)) = v_X4_value x1 x2 m from ((if_neg c1).trans ((if_neg c2).trans ((if_pos c3).trans (if_pos c4)))).symm)) rfl)
        · by_cases c5 : x2 = (1 : Int32)
          · refine J_tabIn (v := (1 : Int32)) (tgt := 77) hX dX4_value_39 c5 (by decide) (by decide) rfl (by decide) ?_
            refine J_lload_n hX dX4_value_77 rfl 1 rfl ?_
            refine J_callS hX km_X4_panelOf kl_RX4_225 dX4_value_78 [.long (m.2 395 x1.toNatClampNeg)] ⟨Nat.le_of_ble_eq_true rfl, Nat.le_of_ble_eq_true rfl⟩ rfl rfl (Nat.le_of_ble_eq_true rfl) (c_X4_panelOf (m.2 395 x1.toNatClampNeg) m) (fun v w2 hk => ?_)
            obtain ⟨rfl, rfl⟩ := hk
            show J X (0, 0) 81 [(5, .int (v_X4_weight (v_X4_kindOf (m.2 395 x1.toNatClampNeg)) m)), (3, .long (m.2 395 x1.toNatClampNeg)), (0, .ref (ad 264)), (1, .int x1), (2, .int x2)] [.int (v_X4_panelOf (m.2 395 x1.toNatClampNeg))] (fl ad m)
            exact J_iret hX hR dX4_value_81 (And.intro (congrArg (fun z => some (Value.int z)) (show (v_X4_panelOf (m.2 395 x1.toNatClampNeg)) = v_X4_value x1 x2 m from ((if_neg c1).trans ((if_neg c2).trans ((if_pos c3).trans ((if_neg c4).trans (if_pos c5))))).symm)) rfl)
          · by_cases c6 : x2 = (2 : Int32)
            · refine J_tabIn (v := (2 : Int32)) (tgt := 82) hX dX4_value_39 c6 (by decide) (by decide) rfl (by decide) ?_
              refine J_lload_n hX dX4_value_82 rfl 1 rfl ?_
              refine J_callS hX km_X4_sideOf kl_RX4_228 dX4_value_83 [.long (m.2 395 x1.toNatClampNeg)] ⟨Nat.le_of_ble_eq_true rfl, Nat.le_of_ble_eq_true rfl⟩ rfl rfl (Nat.le_of_ble_eq_true rfl) (c_X4_sideOf (m.2 395 x1.toNatClampNeg) m) (fun v w2 hk => ?_)
              obtain ⟨rfl, rfl⟩ := hk
              show J X (0, 0) 86 [(5, .int (v_X4_weight (v_X4_kindOf (m.2 395 x1.toNatClampNeg)) m)), (3, .long (m.2 395 x1.toNatClampNeg)), (0, .ref (ad 264)), (1, .int x1), (2, .int x2)] [.int (v_X4_sideOf (m.2 395 x1.toNatClampNeg))] (fl ad m)
              exact J_iret hX hR dX4_value_86 (And.intro (congrArg (fun z => some (Value.int z)) (show (v_X4_sideOf (m.2 395 x1.toNatClampNeg)) = v_X4_value x1 x2 m from ((if_neg c1).trans ((if_neg c2).trans ((if_pos c3).trans ((if_neg c4).trans ((if_neg c5).trans (if_pos c6)))))).symm)) rfl)
            · by_cases c7 : x2 = (3 : Int32)
              · refine J_tabIn (v := (3 : Int32)) (tgt := 87) hX dX4_value_39 c7 (by decide) (by decide) rfl (by decide) ?_
                refine J_lload_n hX dX4_value_87 rfl 1 rfl ?_
                refine J_callS hX km_X4_otherOf kl_RX4_231 dX4_value_88 [.long (m.2 395 x1.toNatClampNeg)] ⟨Nat.le_of_ble_eq_true rfl, Nat.le_of_ble_eq_true rfl⟩ rfl rfl (Nat.le_of_ble_eq_true rfl) (c_X4_otherOf (m.2 395 x1.toNatClampNeg) m) (fun v w2 hk => ?_)
                obtain ⟨rfl, rfl⟩ := hk
                show J X (0, 0) 91 [(5, .int (v_X4_weight (v_X4_kindOf (m.2 395 x1.toNatClampNeg)) m)), (3, .long (m.2 395 x1.toNatClampNeg)), (0, .ref (ad 264)), (1, .int x1), (2, .int x2)] [.int (v_X4_otherOf (m.2 395 x1.toNatClampNeg))] (fl ad m)
                exact J_iret hX hR dX4_value_91 (And.intro (congrArg (fun z => some (Value.int z)) (show (v_X4_otherOf (m.2 395 x1.toNatClampNeg)) = v_X4_value x1 x2 m from ((if_neg c1).trans ((if_neg c2).trans ((if_pos c3).trans ((if_neg c4).trans ((if_neg c5).trans ((if_neg c6).trans (if_pos c7))))))).symm)) rfl)
              · by_cases c8 : x2 = (4 : Int32)
                · refine J_tabIn (v := (4 : Int32)) (tgt := 92) hX dX4_value_39 c8 (by decide) (by decide) rfl (by decide) ?_
                  refine J_iload hX dX4_value_92 0 rfl ?_
                  have hj10 : ∀ y11 : Int32, y11 = (if (v_X4_weight (v_X4_kindOf (m.2 395 x1.toNatClampNeg)) m) ≤ (0 : Int32) then (0 : Int32) else ((v_X4_costOf (m.2 395 x1.toNatClampNeg)) / (v_X4_weight (v_X4_kindOf (m.2 395 x1.toNatClampNeg)) m))) → J X (0, 0) 108 [] [.int y11] (fl ad m) := by
                    intro y11 e_y11
                    subst e_y11
                    exact J_iret hX hR dX4_value_108 (And.intro (congrArg (fun z => some (Value.int z)) (show (if (v_X4_weight (v_X4_kindOf (m.2 395 x1.toNatClampNeg)) m) ≤ (0 : Int32) then (0 : Int32) else ((v_X4_costOf (m.2 395 x1.toNatClampNeg)) / (v_X4_weight (v_X4_kindOf (m.2 395 x1.toNatClampNeg)) m))) = v_X4_value x1 x2 m from ((if_neg c1).trans ((if_neg c2).trans ((if_pos c3).trans ((if_neg c4).trans ((if_neg c5).trans ((if_neg c6).trans ((if_neg c7).trans (if_pos c8)))))))).symm)) rfl)
                  refine J_if_le (tgt := 107) hX dX4_value_94 (by decide) (fun c9 => ?_) (fun c9 => ?_)
                  · refine J_iconst (v := (0 : Int32)) hX dX4_value_107 (by decide) ?_
                    exact J_sub [] rfl (hj10 _ (if_pos c9).symm)
                  · refine J_lload_n hX dX4_value_97 rfl 1 rfl ?_
                    refine J_callS hX km_X4_costOf kl_RX4_234 dX4_value_98 [.long (m.2 395 x1.toNatClampNeg)] ⟨Nat.le_of_ble_eq_true rfl, Nat.le_of_ble_eq_true rfl⟩ rfl rfl (Nat.le_of_ble_eq_true rfl) (c_X4_costOf (m.2 395 x1.toNatClampNeg) m) (fun v w2 hk => ?_)
                    obtain ⟨rfl, rfl⟩ := hk
                    show J X (0, 0) 101 [(5, .int (v_X4_weight (v_X4_kindOf (m.2 395 x1.toNatClampNeg)) m)), (3, .long (m.2 395 x1.toNatClampNeg)), (0, .ref (ad 264)), (1, .int x1), (2, .int x2)] [.int (v_X4_costOf (m.2 395 x1.toNatClampNeg))] (fl ad m)
                    refine J_iload hX dX4_value_101 0 rfl ?_
                    refine J_idiv hX dX4_value_103 (nz_1 c9) ?_
                    refine J_goto (tgt := 108) hX dX4_value_104 (by decide) ?_
                    exact J_sub [] rfl (hj10 _ (if_neg c9).symm)
                · refine J_tabOut (tgt := 109) hX dX4_value_39 (by have t0 := tne c4 (k := 0) (by decide); have t1 := tne c5 (k := 1) (by decide); have t2 := tne c6 (k := 2) (by decide); have t3 := tne c7 (k := 3) (by decide); have t4 := tne c8 (k := 4) (by decide); omega) (by decide) ?_
                  refine J_lload_n hX dX4_value_109 rfl 1 rfl ?_
                  refine J_callS hX km_X4_costOf kl_RX4_234 dX4_value_110 [.long (m.2 395 x1.toNatClampNeg)] ⟨Nat.le_of_ble_eq_true rfl, Nat.le_of_ble_eq_true rfl⟩ rfl rfl (Nat.le_of_ble_eq_true rfl) (c_X4_costOf (m.2 395 x1.toNatClampNeg) m) (fun v w2 hk => ?_)
                  obtain ⟨rfl, rfl⟩ := hk
                  show J X (0, 0) 113 [(5, .int (v_X4_weight (v_X4_kindOf (m.2 395 x1.toNatClampNeg)) m)), (3, .long (m.2 395 x1.toNatClampNeg)), (0, .ref (ad 264)), (1, .int x1), (2, .int x2)] [.int (v_X4_costOf (m.2 395 x1.toNatClampNeg))] (fl ad m)
                  exact J_iret hX hR dX4_value_113 (And.intro (congrArg (fun z => some (Value.int z)) (show (v_X4_costOf (m.2 395 x1.toNatClampNeg)) = v_X4_value x1 x2 m from ((if_neg c1).trans ((if_neg c2).trans ((if_pos c3).trans ((if_neg c4).trans ((if_neg c5).trans ((if_neg c6).trans ((if_neg c7).trans (if_neg c8)))))))).symm)) rfl)
      · refine J_iconst (v := (-1 : Int32)) hX dX4_value_19 (by decide) ?_
        exact J_iret hX hR dX4_value_20 (And.intro (congrArg (fun z => some (Value.int z)) (show (-1 : Int32) = v_X4_value x1 x2 m from ((if_neg c1).trans ((if_neg c2).trans (if_neg c3))).symm)) rfl)
set_option maxRecDepth 100000 in
theorem c_X11_finding {G : GT} {ad : Nat → Nat} (x1 : Int32) (x2 : Int32) (m : Mm) (K : Int32 → Mm → Prop) (h : wp_X11_finding x1 x2 m K) : Cn G yX11_finding cX11_finding 3 (some .int) (rmN 6 144) [.ref (ad 0), .int x1, .int x2] (0, 0) (fl ad m) (kI ad K) := by
  unfold wp_X11_finding at h
  refine Cn.of pn_RX11 (Nat.le_of_ble_eq_true rfl) (fun X hG hX hR => ?_)
  subst hG
  have hX : Cx X cX11_finding 3 RX11 (rmN 6 144) := hX
  show J X (0, 0) 0 [(0, .ref (ad 0)), (1, .int x1), (2, .int x2)] [] (fl ad m)
  refine J_aload_n hX dX11_finding_0 rfl 0 rfl ?_
  refine J_getR hX kf_RX11_55 dX11_finding_1 ka_0 (by decide) rfl rh_0_8 ?_
  refine J_aload_n hX dX11_finding_4 rfl 0 rfl ?_
  refine J_getR hX kf_RX11_10 dX11_finding_5 ka_0 (by decide) rfl rh_0_0 ?_
  refine J_callV hX km_X4_collect kl_RX11_328 dX11_finding_8 ka_264 (by decide) [.ref (ad 1)] ⟨Nat.le_of_ble_eq_true rfl, Nat.le_of_ble_eq_true rfl⟩ rfl rfl (Nat.le_of_ble_eq_true rfl) (c_X4_collect 1 ka_1 m _ h) (fun v w2 hk => ?_)
  obtain ⟨m1, rfl, rfl, h⟩ := hk
  show J X (0, 0) 11 [(0, .ref (ad 0)), (1, .int x1), (2, .int x2)] [] (fl ad m1)
  refine J_iload_n hX dX11_finding_11 rfl 1 rfl ?_
  refine J_if_lt (tgt := 35) hX dX11_finding_12 (by decide) (fun c2 => ?_) (fun c2 => ?_)
  · replace h := Eq.mp (if_pos c2) h
    refine J_iconst (v := (-1 : Int32)) hX dX11_finding_35 (by decide) ?_
    exact J_iret hX hR dX11_finding_36 ⟨_, _, rfl, rfl, h⟩
  · replace h := Eq.mp (if_neg c2) h
    refine J_iload_n hX dX11_finding_15 rfl 1 rfl ?_
    refine J_aload_n hX dX11_finding_16 rfl 0 rfl ?_
    refine J_getR hX kf_RX11_55 dX11_finding_17 ka_0 (by decide) rfl rh_0_8 ?_
    refine J_getI hX kf_RX11_331 dX11_finding_20 ka_264 (by decide) rfl ?_
    refine J_icmp_ge (tgt := 35) hX dX11_finding_23 (by decide) (fun c3 => ?_) (fun c3 => ?_)
    · replace h := Eq.mp (if_pos c3) h
      refine J_iconst (v := (-1 : Int32)) hX dX11_finding_35 (by decide) ?_
      exact J_iret hX hR dX11_finding_36 ⟨_, _, rfl, rfl, h⟩
    · replace h := Eq.mp (if_neg c3) h
      refine J_iload_n hX dX11_finding_26 rfl 2 rfl ?_
      refine J_if_lt (tgt := 35) hX dX11_finding_27 (by decide) (fun c4 => ?_) (fun c4 => ?_)
      · replace h := Eq.mp (if_pos c4) h
        refine J_iconst (v := (-1 : Int32)) hX dX11_finding_35 (by decide) ?_
        exact J_iret hX hR dX11_finding_36 ⟨_, _, rfl, rfl, h⟩
      · replace h := Eq.mp (if_neg c4) h
        refine J_iload_n hX dX11_finding_30 rfl 2 rfl ?_
        refine J_iconst (v := (5 : Int32)) hX dX11_finding_31 (by decide) ?_
        refine J_icmp_le (tgt := 37) hX dX11_finding_32 (by decide) (fun c5 => ?_) (fun c5 => ?_)
        · replace h := Eq.mp (if_pos c5) h
          refine J_aload_n hX dX11_finding_37 rfl 0 rfl ?_
          refine J_getR hX kf_RX11_55 dX11_finding_38 ka_0 (by decide) rfl rh_0_8 ?_
          refine J_callV hX km_X4_sort kl_RX11_332 dX11_finding_41 ka_264 (by decide) [] ⟨Nat.le_of_ble_eq_true rfl, Nat.le_of_ble_eq_true rfl⟩ rfl rfl (Nat.le_of_ble_eq_true rfl) (c_X4_sort m1 _ h) (fun v w2 hk => ?_)
          obtain ⟨m6, rfl, rfl, h⟩ := hk
          show J X (0, 0) 44 [(0, .ref (ad 0)), (1, .int x1), (2, .int x2)] [] (fl ad m6)
          refine J_aload_n hX dX11_finding_44 rfl 0 rfl ?_
          refine J_getR hX kf_RX11_55 dX11_finding_45 ka_0 (by decide) rfl rh_0_8 ?_
          refine J_iload_n hX dX11_finding_48 rfl 1 rfl ?_
          refine J_iload_n hX dX11_finding_49 rfl 2 rfl ?_
          refine J_callV hX km_X4_value kl_RX11_335 dX11_finding_50 ka_264 (by decide) [.int x1, .int x2] ⟨Nat.le_of_ble_eq_true rfl, Nat.le_of_ble_eq_true rfl⟩ rfl rfl (Nat.le_of_ble_eq_true rfl) (c_X4_value x1 x2 m6) (fun v w2 hk => ?_)
          obtain ⟨rfl, rfl⟩ := hk
          show J X (0, 0) 53 [(0, .ref (ad 0)), (1, .int x1), (2, .int x2)] [.int (v_X4_value x1 x2 m6)] (fl ad m6)
          exact J_iret hX hR dX11_finding_53 ⟨_, _, rfl, rfl, h⟩
        · replace h := Eq.mp (if_neg c5) h
          refine J_iconst (v := (-1 : Int32)) hX dX11_finding_35 (by decide) ?_
          exact J_iret hX hR dX11_finding_36 ⟨_, _, rfl, rfl, h⟩
set_option maxRecDepth 100000 in
theorem c_X11_findingCount {G : GT} {ad : Nat → Nat} (m : Mm) (K : Int32 → Mm → Prop) (h : wp_X11_findingCount m K) : Cn G yX11_findingCount cX11_findingCount 1 (some .int) (rmN 6 144) [.ref (ad 0)] (0, 0) (fl ad m) (kI ad K) := by
  unfold wp_X11_findingCount at h
  refine Cn.of pn_RX11 (Nat.le_of_ble_eq_true rfl) (fun X hG hX hR => ?_)
  subst hG
  have hX : Cx X cX11_findingCount 1 RX11 (rmN 6 144) := hX
  show J X (0, 0) 0 [(0, .ref (ad 0))] [] (fl ad m)
  refine J_aload_n hX dX11_findingCount_0 rfl 0 rfl ?_
  refine J_getR hX kf_RX11_55 dX11_findingCount_1 ka_0 (by decide) rfl rh_0_8 ?_
  refine J_aload_n hX dX11_findingCount_4 rfl 0 rfl ?_
  refine J_getR hX kf_RX11_10 dX11_findingCount_5 ka_0 (by decide) rfl rh_0_0 ?_
  refine J_callV hX km_X4_collect kl_RX11_328 dX11_findingCount_8 ka_264 (by decide) [.ref (ad 1)] ⟨Nat.le_of_ble_eq_true rfl, Nat.le_of_ble_eq_true rfl⟩ rfl rfl (Nat.le_of_ble_eq_true rfl) (c_X4_collect 1 ka_1 m _ h) (fun v w2 hk => ?_)
  obtain ⟨m1, rfl, rfl, h⟩ := hk
  show J X (0, 0) 11 [(0, .ref (ad 0))] [] (fl ad m1)
  refine J_aload_n hX dX11_findingCount_11 rfl 0 rfl ?_
  refine J_getR hX kf_RX11_55 dX11_findingCount_12 ka_0 (by decide) rfl rh_0_8 ?_
  refine J_getI hX kf_RX11_331 dX11_findingCount_15 ka_264 (by decide) rfl ?_
  exact J_iret hX hR dX11_findingCount_18 ⟨_, _, rfl, rfl, h⟩
set_option maxRecDepth 100000 in
theorem c_X11_flat {G : GT} {ad : Nat → Nat} (x1 : Int32) (x2 : Int32) (m : Mm) : Cn G yX11_flat cX11_flat 4 (some .int) (rmN 1 21) [.ref (ad 0), .int x1, .int x2] (0, 0) (fl ad m) (fun v w => v = some (.int (v_X11_flat x1 x2 m)) ∧ w = fl ad m) := by
  refine Cn.of pn_RX11 (Nat.le_of_ble_eq_true rfl) (fun X hG hX hR => ?_)
  subst hG
  have hX : Cx X cX11_flat 4 RX11 (rmN 1 21) := hX
  show J X (0, 0) 0 [(0, .ref (ad 0)), (1, .int x1), (2, .int x2)] [] (fl ad m)
  refine J_aload_n hX dX11_flat_0 rfl 0 rfl ?_
  refine J_getR hX kf_RX11_10 dX11_flat_1 ka_0 (by decide) rfl rh_0_0 ?_
  refine J_iload_n hX dX11_flat_4 rfl 1 rfl ?_
  refine J_callV hX km_X3_has kl_RX11_223 dX11_flat_5 ka_1 (by decide) [.int x1] ⟨Nat.le_of_ble_eq_true rfl, Nat.le_of_ble_eq_true rfl⟩ rfl rfl (Nat.le_of_ble_eq_true rfl) (c_X3_has 1 ka_1 x1 m) (fun v w2 hk => ?_)
  obtain ⟨rfl, rfl⟩ := hk
  show J X (0, 0) 8 [(0, .ref (ad 0)), (1, .int x1), (2, .int x2)] [.int (v_X3_has 1 x1 m)] (fl ad m)
  refine J_if_ne (tgt := 13) hX dX11_flat_8 (by decide) (fun c1 => ?_) (fun c1 => ?_)
  · refine J_aload_n hX dX11_flat_13 rfl 0 rfl ?_
    refine J_getR hX kf_RX11_10 dX11_flat_14 ka_0 (by decide) rfl rh_0_0 ?_
    refine J_iload_n hX dX11_flat_17 rfl 1 rfl ?_
    refine J_callV hX km_X3_panelAt kl_RX11_201 dX11_flat_18 ka_1 (by decide) [.int x1] ⟨Nat.le_of_ble_eq_true rfl, Nat.le_of_ble_eq_true rfl⟩ rfl rfl (Nat.le_of_ble_eq_true rfl) (c_X3_panelAt 1 ka_1 x1 m) (fun v w2 hk => ?_)
    obtain ⟨rfl, rfl⟩ := hk
    show J X (0, 0) 21 [(0, .ref (ad 0)), (1, .int x1), (2, .int x2)] [.ref (ad (v_X3_panelAt 1 x1))] (fl ad m)
    refine J_astore_n (lv2 := [(3, .ref (ad (v_X3_panelAt 1 x1))), (0, .ref (ad 0)), (1, .int x1), (2, .int x2)]) hX dX11_flat_21 rfl (Nat.le_of_ble_eq_true rfl) rfl ?_
    refine J_iload_n hX dX11_flat_22 rfl 3 rfl ?_
    by_cases c2 : x2 = (0 : Int32)
    · refine J_tabIn (v := (0 : Int32)) (tgt := 52) hX dX11_flat_23 c2 (by decide) (by decide) rfl (by decide) ?_
      refine J_aload_n hX dX11_flat_52 rfl 0 rfl ?_
      refine J_getI hX kf_RX11_224 dX11_flat_53 (kv_X3_panelAt ka_1) (by decide) rfl ?_
      exact J_iret hX hR dX11_flat_56 (And.intro (congrArg (fun z => some (Value.int z)) (show (m.1 (v_X3_panelAt 1 x1) 11) = v_X11_flat x1 x2 m from ((if_neg c1).trans (if_pos c2)).symm)) rfl)
    · by_cases c3 : x2 = (1 : Int32)
      · refine J_tabIn (v := (1 : Int32)) (tgt := 57) hX dX11_flat_23 c3 (by decide) (by decide) rfl (by decide) ?_
        refine J_aload_n hX dX11_flat_57 rfl 0 rfl ?_
        refine J_getI hX kf_RX11_227 dX11_flat_58 (kv_X3_panelAt ka_1) (by decide) rfl ?_
        exact J_iret hX hR dX11_flat_61 (And.intro (congrArg (fun z => some (Value.int z)) (show (m.1 (v_X3_panelAt 1 x1) 12) = v_X11_flat x1 x2 m from ((if_neg c1).trans ((if_neg c2).trans (if_pos c3))).symm)) rfl)
      · by_cases c4 : x2 = (2 : Int32)
        · refine J_tabIn (v := (2 : Int32)) (tgt := 62) hX dX11_flat_23 c4 (by decide) (by decide) rfl (by decide) ?_
          refine J_aload_n hX dX11_flat_62 rfl 0 rfl ?_
          refine J_getI hX kf_RX11_230 dX11_flat_63 (kv_X3_panelAt ka_1) (by decide) rfl ?_
          exact J_iret hX hR dX11_flat_66 (And.intro (congrArg (fun z => some (Value.int z)) (show (m.1 (v_X3_panelAt 1 x1) 13) = v_X11_flat x1 x2 m from ((if_neg c1).trans ((if_neg c2).trans ((if_neg c3).trans (if_pos c4)))).symm)) rfl)
        · by_cases c5 : x2 = (3 : Int32)
          · refine J_tabIn (v := (3 : Int32)) (tgt := 67) hX dX11_flat_23 c5 (by decide) (by decide) rfl (by decide) ?_
            refine J_aload_n hX dX11_flat_67 rfl 0 rfl ?_
            refine J_getI hX kf_RX11_233 dX11_flat_68 (kv_X3_panelAt ka_1) (by decide) rfl ?_
            exact J_iret hX hR dX11_flat_71 (And.intro (congrArg (fun z => some (Value.int z)) (show (m.1 (v_X3_panelAt 1 x1) 14) = v_X11_flat x1 x2 m from ((if_neg c1).trans ((if_neg c2).trans ((if_neg c3).trans ((if_neg c4).trans (if_pos c5))))).symm)) rfl)
          · refine J_tabOut (tgt := 72) hX dX11_flat_23 (by have t0 := tne c2 (k := 0) (by decide); have t1 := tne c3 (k := 1) (by decide); have t2 := tne c4 (k := 2) (by decide); have t3 := tne c5 (k := 3) (by decide); omega) (by decide) ?_
            refine J_iconst (v := (-1 : Int32)) hX dX11_flat_72 (by decide) ?_
            exact J_iret hX hR dX11_flat_73 (And.intro (congrArg (fun z => some (Value.int z)) (show (-1 : Int32) = v_X11_flat x1 x2 m from ((if_neg c1).trans ((if_neg c2).trans ((if_neg c3).trans ((if_neg c4).trans (if_neg c5))))).symm)) rfl)
  · refine J_iconst (v := (-1 : Int32)) hX dX11_flat_11 (by decide) ?_
    exact J_iret hX hR dX11_flat_12 (And.intro (congrArg (fun z => some (Value.int z)) (show (-1 : Int32) = v_X11_flat x1 x2 m from (if_pos c1).symm)) rfl)
set_option maxRecDepth 100000 in
theorem tb_X5_nextFold_l3 {X : XT} {ad : Nat → Nat} {K : Int32 → Mm → Prop} (hX : Cx X cX5_nextFold 7 RX5 (rmN 4 99)) (hR : Rx X (some .int) (kI ad K) (0, 0)) {rec : Int32 → Mm → Prop} (a1 : Nat) (h1 : kap a1 = 3) (x2 : Int32) (x3 : Int32) (x4 : Int32) (hrec : ∀ (x5 : Int32) (m : Mm), rec x5 m → J X (0, 0) 3 [(0, .ref (ad 269)), (1, .ref (ad a1)), (2, .int x2), (3, .int x3), (4, .int x4), (5, .int x5)] [] (fl ad m)) (x5 : Int32) (m : Mm) (h : wb_X5_nextFold_l3 rec K a1 x2 x3 x4 x5 m) : J X (0, 0) 3 [(0, .ref (ad 269)), (1, .ref (ad a1)), (2, .int x2), (3, .int x3), (4, .int x4), (5, .int x5)] [] (fl ad m) := by
  unfold wb_X5_nextFold_l3 at h
  refine J_iload hX dX5_nextFold_3 5 rfl ?_
  refine J_bipush (v := (10 : Int32)) hX dX5_nextFold_5 (by decide) ?_
  refine J_icmp_ge (tgt := 80) hX dX5_nextFold_7 (by decide) (fun c1 => ?_) (fun c1 => ?_)
  · replace h := Eq.mp (if_pos c1) h
    refine J_bipush (v := (-9 : Int32)) hX dX5_nextFold_80 (by decide) ?_
    exact J_iret hX hR dX5_nextFold_82 ⟨_, _, rfl, rfl, h⟩
  · replace h := Eq.mp (if_neg c1) h
    refine J_iload_n hX dX5_nextFold_10 rfl 2 rfl ?_
    refine J_iconst (v := (1 : Int32)) hX dX5_nextFold_11 (by decide) ?_
    refine J_iload hX dX5_nextFold_12 5 rfl ?_
    refine J_ishl hX dX5_nextFold_14 ?_
    refine J_ior hX dX5_nextFold_15 ?_
    refine J_nmI (fun y2 e_y2 => ?_)
    replace h := h y2 e_y2
    refine J_istore (lv2 := [(6, .int y2), (0, .ref (ad 269)), (1, .ref (ad a1)), (2, .int x2), (3, .int x3), (4, .int x4), (5, .int x5)]) hX dX5_nextFold_16 (Nat.le_of_ble_eq_true rfl) rfl ?_
    refine J_iload_n hX dX5_nextFold_18 rfl 4 rfl ?_
    refine J_iconst (v := (1 : Int32)) hX dX5_nextFold_19 (by decide) ?_
    refine J_iload hX dX5_nextFold_20 6 rfl ?_
    refine J_ishl hX dX5_nextFold_22 ?_
    refine J_iand hX dX5_nextFold_23 ?_
    refine J_if_eq (tgt := 74) hX dX5_nextFold_24 (by decide) (fun c3 => ?_) (fun c3 => ?_)
    · replace h := Eq.mp (if_pos c3) h
      refine J_iinc (x := (x5 + (1 : Int32))) (lv2 := [(5, .int (x5 + (1 : Int32))), (6, .int y2), (0, .ref (ad 269)), (1, .ref (ad a1)), (2, .int x2), (3, .int x3), (4, .int x4)]) hX dX5_nextFold_74 6 rfl rfl (Nat.le_of_ble_eq_true rfl) rfl ?_
      refine J_goto (tgt := 3) hX dX5_nextFold_77 (by decide) ?_
      exact J_sub [2, 3, 4, 5, 6, 0] rfl (hrec (x5 + (1 : Int32)) m h)
    · replace h := Eq.mp (if_neg c3) h
      refine J_iload hX dX5_nextFold_27 0 rfl ?_
      refine J_aload_n hX dX5_nextFold_29 rfl 1 rfl ?_
      refine J_getR hX kf_RX5_30 dX5_nextFold_30 ka_269 (by decide) rfl rh_269_4 ?_
      refine J_alen (v := (1024 : Int32)) hX dX5_nextFold_33 ka_282 (by decide) le_282 rfl ?_
      refine J_icmp_ge (tgt := 74) hX dX5_nextFold_34 (by decide) (fun c4 => ?_) (fun c4 => ?_)
      · replace h := Eq.mp (if_pos c4) h
        refine J_iinc (x := (x5 + (1 : Int32))) (lv2 := [(5, .int (x5 + (1 : Int32))), (6, .int y2), (0, .ref (ad 269)), (1, .ref (ad a1)), (2, .int x2), (3, .int x3), (4, .int x4)]) hX dX5_nextFold_74 6 rfl rfl (Nat.le_of_ble_eq_true rfl) rfl ?_
        refine J_goto (tgt := 3) hX dX5_nextFold_77 (by decide) ?_
        exact J_sub [2, 3, 4, 5, 6, 0] rfl (hrec (x5 + (1 : Int32)) m h)
      · replace h := Eq.mp (if_neg c4) h
        refine J_aload_n hX dX5_nextFold_37 rfl 1 rfl ?_
        refine J_getR hX kf_RX5_30 dX5_nextFold_38 ka_269 (by decide) rfl rh_269_4 ?_
        refine J_iload hX dX5_nextFold_41 0 rfl ?_
        obtain ⟨b5, h⟩ := h
        refine J_zald (j := y2.toNatClampNeg) hX dX5_nextFold_43 ka_282 le_282 b5 rfl ?_
        refine J_if_ne (tgt := 74) hX dX5_nextFold_44 (by decide) (fun c6 => ?_) (fun c6 => ?_)
        · replace h := Eq.mp (if_neg c6) h
          refine J_iinc (x := (x5 + (1 : Int32))) (lv2 := [(5, .int (x5 + (1 : Int32))), (6, .int y2), (0, .ref (ad 269)), (1, .ref (ad a1)), (2, .int x2), (3, .int x3), (4, .int x4)]) hX dX5_nextFold_74 6 rfl rfl (Nat.le_of_ble_eq_true rfl) rfl ?_
          refine J_goto (tgt := 3) hX dX5_nextFold_77 (by decide) ?_
          exact J_sub [2, 3, 4, 5, 6, 0] rfl (hrec (x5 + (1 : Int32)) m h)
        · replace h := Eq.mp (if_pos c6) h
          refine J_aload_n hX dX5_nextFold_47 rfl 1 rfl ?_
          refine J_aload_n hX dX5_nextFold_48 rfl 2 rfl ?_
          refine J_iload hX dX5_nextFold_49 0 rfl ?_
          refine J_callV hX km_X5_fold kl_RX5_119 dX5_nextFold_51 ka_269 (by decide) [.ref (ad a1), .int y2] ⟨Nat.le_of_ble_eq_true rfl, Nat.le_of_ble_eq_true rfl⟩ rfl rfl (Nat.le_of_ble_eq_true rfl) (c_X5_fold a1 h1 y2 m _ h) (fun v w2 hk => ?_)
          obtain ⟨m7, rfl, rfl, h⟩ := hk
          show J X (0, 0) 54 [(6, .int y2), (0, .ref (ad 269)), (1, .ref (ad a1)), (2, .int x2), (3, .int x3), (4, .int x4), (5, .int x5)] [] (fl ad m7)
          refine J_aload_n hX dX5_nextFold_54 rfl 1 rfl ?_
          refine J_iload hX dX5_nextFold_55 5 rfl ?_
          refine J_callV hX km_X5_crossingPairs kl_RX5_123 dX5_nextFold_57 ka_269 (by decide) [.int x4] ⟨Nat.le_of_ble_eq_true rfl, Nat.le_of_ble_eq_true rfl⟩ rfl rfl (Nat.le_of_ble_eq_true rfl) (c_X5_crossingPairs x4 m7 _ h) (fun v w2 hk => ?_)
          obtain ⟨y9, m8, rfl, rfl, h⟩ := hk
          show J X (0, 0) 60 [(6, .int y2), (0, .ref (ad 269)), (1, .ref (ad a1)), (2, .int x2), (3, .int x3), (4, .int x4), (5, .int x5)] [.int y9] (fl ad m8)
          refine J_if_ne (tgt := 66) hX dX5_nextFold_60 (by decide) (fun c10 => ?_) (fun c10 => ?_)
          · replace h := Eq.mp (if_neg c10) h
            refine J_aload_n hX dX5_nextFold_66 rfl 1 rfl ?_
            refine J_getR hX kf_RX5_30 dX5_nextFold_67 ka_269 (by decide) rfl rh_269_4 ?_
            refine J_iload hX dX5_nextFold_70 0 rfl ?_
            refine J_iconst (v := (1 : Int32)) hX dX5_nextFold_72 (by decide) ?_
            refine J_zast (j := y2.toNatClampNeg) hX dX5_nextFold_73 ka_282 le_282 b5 bo_1 rfl ?_
            refine J_nmM (fun m11 e_m11 => ?_)
            replace h := h m11 e_m11
            refine J_iinc (x := (x5 + (1 : Int32))) (lv2 := [(5, .int (x5 + (1 : Int32))), (6, .int y2), (0, .ref (ad 269)), (1, .ref (ad a1)), (2, .int x2), (3, .int x3), (4, .int x4)]) hX dX5_nextFold_74 6 rfl rfl (Nat.le_of_ble_eq_true rfl) rfl ?_
            refine J_goto (tgt := 3) hX dX5_nextFold_77 (by decide) ?_
            exact J_sub [2, 3, 4, 5, 6, 0] rfl (hrec (x5 + (1 : Int32)) m11 h)
          · replace h := Eq.mp (if_pos c10) h
            refine J_iload hX dX5_nextFold_63 6 rfl ?_
            exact J_iret hX hR dX5_nextFold_65 ⟨_, _, rfl, rfl, h⟩
set_option maxRecDepth 100000 in
theorem t_X5_nextFold_l3 {X : XT} {ad : Nat → Nat} {K : Int32 → Mm → Prop} (hX : Cx X cX5_nextFold 7 RX5 (rmN 4 99)) (hR : Rx X (some .int) (kI ad K) (0, 0)) (a1 : Nat) (h1 : kap a1 = 3) (x2 : Int32) (x3 : Int32) (x4 : Int32) : ∀ (n : Nat) (x5 : Int32) (m : Mm), wp_X5_nextFold_l3 K a1 x2 x3 x4 n x5 m → J X (0, 0) 3 [(0, .ref (ad 269)), (1, .ref (ad a1)), (2, .int x2), (3, .int x3), (4, .int x4), (5, .int x5)] [] (fl ad m) := by
  intro n
  induction n with
  | zero => intro x5 m h; exact h.elim
  | succ n ih => intro x5 m h; exact tb_X5_nextFold_l3 hX hR a1 h1 x2 x3 x4 ih x5 m h
set_option maxRecDepth 100000 in
theorem c_X5_nextFold {G : GT} {ad : Nat → Nat} (a1 : Nat) (h1 : kap a1 = 3) (x2 : Int32) (x3 : Int32) (x4 : Int32) (m : Mm) (K : Int32 → Mm → Prop) (h : wp_X5_nextFold a1 x2 x3 x4 m K) : Cn G yX5_nextFold cX5_nextFold 7 (some .int) (rmN 4 99) [.ref (ad 269), .ref (ad a1), .int x2, .int x3, .int x4] (0, 0) (fl ad m) (kI ad K) := by
  unfold wp_X5_nextFold at h
  refine Cn.of pn_RX5 (Nat.le_of_ble_eq_true rfl) (fun X hG hX hR => ?_)
  subst hG
  have hX : Cx X cX5_nextFold 7 RX5 (rmN 4 99) := hX
  show J X (0, 0) 0 [(0, .ref (ad 269)), (1, .ref (ad a1)), (2, .int x2), (3, .int x3), (4, .int x4)] [] (fl ad m)
  refine J_iconst (v := (1 : Int32)) hX dX5_nextFold_0 (by decide) ?_
  refine J_istore (lv2 := [(5, .int (1 : Int32)), (0, .ref (ad 269)), (1, .ref (ad a1)), (2, .int x2), (3, .int x3), (4, .int x4)]) hX dX5_nextFold_1 (Nat.le_of_ble_eq_true rfl) rfl ?_
  refine J_sub [1, 2, 3, 4, 5, 0] rfl (t_X5_nextFold_l3 hX hR a1 h1 x2 x3 x4 FU (1 : Int32) m h)
set_option maxRecDepth 100000 in
theorem tb_X5_findOrder_l5 {X : XT} {ad : Nat → Nat} {K : Int32 → Mm → Prop} (hX : Cx X cX5_findOrder 8 RX5 (rmN 5 125)) (hR : Rx X (some .int) (kI ad K) (0, 0)) {rec : Int32 → Int32 → Mm → Prop} {k43 : Int32 → Mm → Prop} (a1 : Nat) (h1 : kap a1 = 3) (x2 : Int32) (hrec : ∀ (x3 : Int32) (x4 : Int32) (m : Mm), rec x3 x4 m → J X (0, 0) 5 [(0, .ref (ad 269)), (1, .ref (ad a1)), (2, .int x2), (3, .int x3), (4, .int x4)] [] (fl ad m)) (hk43 : ∀ (z3 : Int32) (m : Mm), k43 z3 m → J X (0, 0) 43 [(0, .ref (ad 269)), (1, .ref (ad a1)), (2, .int x2), (3, .int z3)] [] (fl ad m)) (x3 : Int32) (x4 : Int32) (m : Mm) (h : wb_X5_findOrder_l5 rec k43 K a1 x2 x3 x4 m) : J X (0, 0) 5 [(0, .ref (ad 269)), (1, .ref (ad a1)), (2, .int x2), (3, .int x3), (4, .int x4)] [] (fl ad m) := by
  unfold wb_X5_findOrder_l5 at h
  refine J_iload hX dX5_findOrder_5 4 rfl ?_
  refine J_aload_n hX dX5_findOrder_7 rfl 1 rfl ?_
  refine J_getI hX kf_RX5_34 dX5_findOrder_8 h1 (by decide) rfl ?_
  refine J_icmp_ge (tgt := 43) hX dX5_findOrder_11 (by decide) (fun c1 => ?_) (fun c1 => ?_)
  · replace h := Eq.mp (if_pos c1) h
    exact J_sub [0, 1, 2, 3] rfl (hk43 x3 m h)
  · replace h := Eq.mp (if_neg c1) h
    refine J_iload_n hX dX5_findOrder_14 rfl 3 rfl ?_
    refine J_aload_n hX dX5_findOrder_15 rfl 1 rfl ?_
    refine J_iload hX dX5_findOrder_16 4 rfl ?_
    refine J_callV hX km_X3_panelAt kl_RX5_43 dX5_findOrder_18 h1 (by decide) [.int x4] ⟨Nat.le_of_ble_eq_true rfl, Nat.le_of_ble_eq_true rfl⟩ rfl rfl (Nat.le_of_ble_eq_true rfl) (c_X3_panelAt a1 h1 x4 m) (fun v w2 hk => ?_)
    obtain ⟨rfl, rfl⟩ := hk
    show J X (0, 0) 21 [(0, .ref (ad 269)), (1, .ref (ad a1)), (2, .int x2), (3, .int x3), (4, .int x4)] [.ref (ad (v_X3_panelAt a1 x4)), .int x3] (fl ad m)
    refine J_getI hX kf_RX5_54 dX5_findOrder_21 (kv_X3_panelAt h1) (by decide) rfl ?_
    have hj5 : ∀ y3 : Int32, y3 = (if (m.1 (v_X3_panelAt a1 x4) 5) = (0 : Int32) then (0 : Int32) else ((1 : Int32) <<< (x4 &&& 31))) → J X (0, 0) 35 [(0, .ref (ad 269)), (1, .ref (ad a1)), (2, .int x2), (4, .int x4)] [.int y3, .int x3] (fl ad m) := by
      intro y3 e_y3
      replace h := h y3 e_y3
      refine J_ior hX dX5_findOrder_35 ?_
      refine J_nmI (fun y4 e_y4 => ?_)
      replace h := h y4 e_y4
      refine J_istore_n (lv2 := [(3, .int y4), (0, .ref (ad 269)), (1, .ref (ad a1)), (2, .int x2), (4, .int x4)]) hX dX5_findOrder_36 rfl (Nat.le_of_ble_eq_true rfl) rfl ?_
      refine J_iinc (x := (x4 + (1 : Int32))) (lv2 := [(4, .int (x4 + (1 : Int32))), (3, .int y4), (0, .ref (ad 269)), (1, .ref (ad a1)), (2, .int x2)]) hX dX5_findOrder_37 4 rfl rfl (Nat.le_of_ble_eq_true rfl) rfl ?_
      refine J_goto (tgt := 5) hX dX5_findOrder_40 (by decide) ?_
      exact J_sub [2, 3, 4, 1, 0] rfl (hrec y4 (x4 + (1 : Int32)) m h)
    refine J_if_eq (tgt := 34) hX dX5_findOrder_24 (by decide) (fun c2 => ?_) (fun c2 => ?_)
    · refine J_iconst (v := (0 : Int32)) hX dX5_findOrder_34 (by decide) ?_
      exact J_sub [0, 1, 2, 4] rfl (hj5 _ (if_pos c2).symm)
    · refine J_iconst (v := (1 : Int32)) hX dX5_findOrder_27 (by decide) ?_
      refine J_iload hX dX5_findOrder_28 4 rfl ?_
      refine J_ishl hX dX5_findOrder_30 ?_
      refine J_goto (tgt := 35) hX dX5_findOrder_31 (by decide) ?_
      exact J_sub [0, 1, 2, 4] rfl (hj5 _ (if_neg c2).symm)
set_option maxRecDepth 100000 in
theorem t_X5_findOrder_l5 {X : XT} {ad : Nat → Nat} {K : Int32 → Mm → Prop} (hX : Cx X cX5_findOrder 8 RX5 (rmN 5 125)) (hR : Rx X (some .int) (kI ad K) (0, 0)) {k43 : Int32 → Mm → Prop} (a1 : Nat) (h1 : kap a1 = 3) (x2 : Int32) (hk43 : ∀ (z3 : Int32) (m : Mm), k43 z3 m → J X (0, 0) 43 [(0, .ref (ad 269)), (1, .ref (ad a1)), (2, .int x2), (3, .int z3)] [] (fl ad m)) : ∀ (n : Nat) (x3 : Int32) (x4 : Int32) (m : Mm), wp_X5_findOrder_l5 k43 K a1 x2 n x3 x4 m → J X (0, 0) 5 [(0, .ref (ad 269)), (1, .ref (ad a1)), (2, .int x2), (3, .int x3), (4, .int x4)] [] (fl ad m) := by
  intro n
  induction n with
  | zero => intro x3 x4 m h; exact h.elim
  | succ n ih => intro x3 x4 m h; exact tb_X5_findOrder_l5 hX hR a1 h1 x2 ih hk43 x3 x4 m h
set_option maxRecDepth 100000 in
theorem tb_X5_findOrder_l46 {X : XT} {ad : Nat → Nat} {K : Int32 → Mm → Prop} (hX : Cx X cX5_findOrder 8 RX5 (rmN 5 125)) (hR : Rx X (some .int) (kI ad K) (0, 0)) {rec : Int32 → Mm → Prop} {k76 : Mm → Prop} (a1 : Nat) (h1 : kap a1 = 3) (x2 : Int32) (x3 : Int32) (hrec : ∀ (x4 : Int32) (m : Mm), rec x4 m → J X (0, 0) 46 [(0, .ref (ad 269)), (1, .ref (ad a1)), (2, .int x2), (3, .int x3), (4, .int x4)] [] (fl ad m)) (hk76 : ∀ (m : Mm), k76 m → J X (0, 0) 76 [(0, .ref (ad 269)), (1, .ref (ad a1)), (2, .int x2), (3, .int x3)] [] (fl ad m)) (x4 : Int32) (m : Mm) (h : wb_X5_findOrder_l46 rec k76 K a1 x2 x3 x4 m) : J X (0, 0) 46 [(0, .ref (ad 269)), (1, .ref (ad a1)), (2, .int x2), (3, .int x3), (4, .int x4)] [] (fl ad m) := by
  unfold wb_X5_findOrder_l46 at h
  refine J_iload hX dX5_findOrder_46 4 rfl ?_
  refine J_iload_n hX dX5_findOrder_48 rfl 3 rfl ?_
  refine J_icmp_gt (tgt := 76) hX dX5_findOrder_49 (by decide) (fun c8 => ?_) (fun c8 => ?_)
  · replace h := Eq.mp (if_pos c8) h
    exact J_sub [0, 1, 2, 3] rfl (hk76 m h)
  · replace h := Eq.mp (if_neg c8) h
    refine J_iload hX dX5_findOrder_52 4 rfl ?_
    refine J_aload_n hX dX5_findOrder_54 rfl 0 rfl ?_
    refine J_getR hX kf_RX5_30 dX5_findOrder_55 ka_269 (by decide) rfl rh_269_4 ?_
    refine J_alen (v := (1024 : Int32)) hX dX5_findOrder_58 ka_282 (by decide) le_282 rfl ?_
    refine J_icmp_ge (tgt := 76) hX dX5_findOrder_59 (by decide) (fun c9 => ?_) (fun c9 => ?_)
    · replace h := Eq.mp (if_pos c9) h
      exact J_sub [0, 1, 2, 3] rfl (hk76 m h)
    · replace h := Eq.mp (if_neg c9) h
      refine J_aload_n hX dX5_findOrder_62 rfl 0 rfl ?_
      refine J_getR hX kf_RX5_30 dX5_findOrder_63 ka_269 (by decide) rfl rh_269_4 ?_
      refine J_iload hX dX5_findOrder_66 4 rfl ?_
      refine J_iconst (v := (0 : Int32)) hX dX5_findOrder_68 (by decide) ?_
      obtain ⟨b10, h⟩ := h
      refine J_zast (j := x4.toNatClampNeg) hX dX5_findOrder_69 ka_282 le_282 b10 bo_0 rfl ?_
      refine J_nmM (fun m11 e_m11 => ?_)
      replace h := h m11 e_m11
      refine J_iinc (x := (x4 + (1 : Int32))) (lv2 := [(4, .int (x4 + (1 : Int32))), (0, .ref (ad 269)), (1, .ref (ad a1)), (2, .int x2), (3, .int x3)]) hX dX5_findOrder_70 4 rfl rfl (Nat.le_of_ble_eq_true rfl) rfl ?_
      refine J_goto (tgt := 46) hX dX5_findOrder_73 (by decide) ?_
      exact J_sub [1, 2, 3, 4, 0] rfl (hrec (x4 + (1 : Int32)) m11 h)
set_option maxRecDepth 100000 in
theorem t_X5_findOrder_l46 {X : XT} {ad : Nat → Nat} {K : Int32 → Mm → Prop} (hX : Cx X cX5_findOrder 8 RX5 (rmN 5 125)) (hR : Rx X (some .int) (kI ad K) (0, 0)) {k76 : Mm → Prop} (a1 : Nat) (h1 : kap a1 = 3) (x2 : Int32) (x3 : Int32) (hk76 : ∀ (m : Mm), k76 m → J X (0, 0) 76 [(0, .ref (ad 269)), (1, .ref (ad a1)), (2, .int x2), (3, .int x3)] [] (fl ad m)) : ∀ (n : Nat) (x4 : Int32) (m : Mm), wp_X5_findOrder_l46 k76 K a1 x2 x3 n x4 m → J X (0, 0) 46 [(0, .ref (ad 269)), (1, .ref (ad a1)), (2, .int x2), (3, .int x3), (4, .int x4)] [] (fl ad m) := by
  intro n
  induction n with
  | zero => intro x4 m h; exact h.elim
  | succ n ih => intro x4 m h; exact tb_X5_findOrder_l46 hX hR a1 h1 x2 x3 ih hk76 x4 m h
set_option maxRecDepth 100000 in
theorem t_X5_findOrder_j160 {X : XT} {ad : Nat → Nat} {K : Int32 → Mm → Prop} (hX : Cx X cX5_findOrder 8 RX5 (rmN 5 125)) (hR : Rx X (some .int) (kI ad K) (0, 0)) {k85 : Int32 → Int32 → Int32 → Mm → Prop} (a1 : Nat) (h1 : kap a1 = 3) (x2 : Int32) (x3 : Int32) (x4 : Int32) (x5 : Int32) (x6 : Int32) (hk85 : ∀ (z4 : Int32) (z5 : Int32) (z6 : Int32) (m : Mm), k85 z4 z5 z6 m → J X (0, 0) 85 [(0, .ref (ad 269)), (1, .ref (ad a1)), (2, .int x2), (3, .int x3), (4, .int z4), (5, .int z5), (6, .int z6)] [] (fl ad m)) (m : Mm) (h : wp_X5_findOrder_j160 k85 K a1 x2 x3 x4 x5 x6 m) : J X (0, 0) 160 [(0, .ref (ad 269)), (1, .ref (ad a1)), (2, .int x2), (3, .int x3), (4, .int x4), (5, .int x5), (6, .int x6)] [] (fl ad m) := by
  unfold wp_X5_findOrder_j160 at h
  refine J_iload hX dX5_findOrder_160 5 rfl ?_
  refine J_if_le (tgt := 205) hX dX5_findOrder_162 (by decide) (fun c18 => ?_) (fun c18 => ?_)
  · replace h := Eq.mp (if_pos c18) h
    refine J_iconst (v := (0 : Int32)) hX dX5_findOrder_205 (by decide) ?_
    exact J_iret hX hR dX5_findOrder_206 ⟨_, _, rfl, rfl, h⟩
  · replace h := Eq.mp (if_neg c18) h
    refine J_iload hX dX5_findOrder_165 4 rfl ?_
    refine J_aload_n hX dX5_findOrder_167 rfl 0 rfl ?_
    refine J_getR hX kf_RX5_30 dX5_findOrder_168 ka_269 (by decide) rfl rh_269_4 ?_
    refine J_alen (v := (1024 : Int32)) hX dX5_findOrder_171 ka_282 (by decide) le_282 rfl ?_
    refine J_icmp_ge (tgt := 205) hX dX5_findOrder_172 (by decide) (fun c19 => ?_) (fun c19 => ?_)
    · replace h := Eq.mp (if_pos c19) h
      refine J_iconst (v := (0 : Int32)) hX dX5_findOrder_205 (by decide) ?_
      exact J_iret hX hR dX5_findOrder_206 ⟨_, _, rfl, rfl, h⟩
    · replace h := Eq.mp (if_neg c19) h
      refine J_aload_n hX dX5_findOrder_175 rfl 0 rfl ?_
      refine J_getR hX kf_RX5_30 dX5_findOrder_176 ka_269 (by decide) rfl rh_269_4 ?_
      refine J_iload hX dX5_findOrder_179 4 rfl ?_
      refine J_iconst (v := (1 : Int32)) hX dX5_findOrder_181 (by decide) ?_
      obtain ⟨b20, h⟩ := h
      refine J_zast (j := x4.toNatClampNeg) hX dX5_findOrder_182 ka_282 le_282 b20 bo_1 rfl ?_
      refine J_nmM (fun m21 e_m21 => ?_)
      replace h := h m21 e_m21
      refine J_iinc (x := (x5 + (-1 : Int32))) (lv2 := [(5, .int (x5 + (-1 : Int32))), (0, .ref (ad 269)), (1, .ref (ad a1)), (2, .int x2), (3, .int x3), (4, .int x4), (6, .int x6)]) hX dX5_findOrder_183 5 rfl rfl (Nat.le_of_ble_eq_true rfl) rfl ?_
      refine J_iload hX dX5_findOrder_186 5 rfl ?_
      refine J_iconst (v := (1 : Int32)) hX dX5_findOrder_188 (by decide) ?_
      refine J_aload_n hX dX5_findOrder_189 rfl 1 rfl ?_
      refine J_getR hX kf_RX5_26 dX5_findOrder_190 ka_269 (by decide) rfl rh_269_3 ?_
      refine J_iload hX dX5_findOrder_193 0 rfl ?_
      obtain ⟨b22, h⟩ := h
      refine J_iald (j := (x5 + (-1 : Int32)).toNatClampNeg) hX dX5_findOrder_195 ka_281 le_281 b22 rfl ?_
      refine J_ishl hX dX5_findOrder_196 ?_
      refine J_iconst (v := (-1 : Int32)) hX dX5_findOrder_197 (by decide) ?_
      refine J_ixor hX dX5_findOrder_198 ?_
      refine J_iand hX dX5_findOrder_199 ?_
      refine J_nmI (fun y23 e_y23 => ?_)
      replace h := h y23 e_y23
      refine J_istore (lv2 := [(4, .int y23), (5, .int (x5 + (-1 : Int32))), (0, .ref (ad 269)), (1, .ref (ad a1)), (2, .int x2), (3, .int x3), (6, .int x6)]) hX dX5_findOrder_200 (Nat.le_of_ble_eq_true rfl) rfl ?_
      refine J_goto (tgt := 207) hX dX5_findOrder_202 (by decide) ?_
      refine J_iinc (x := (x6 + (1 : Int32))) (lv2 := [(6, .int (x6 + (1 : Int32))), (4, .int y23), (5, .int (x5 + (-1 : Int32))), (0, .ref (ad 269)), (1, .ref (ad a1)), (2, .int x2), (3, .int x3)]) hX dX5_findOrder_207 6 rfl rfl (Nat.le_of_ble_eq_true rfl) rfl ?_
      refine J_goto (tgt := 85) hX dX5_findOrder_210 (by decide) ?_
      exact J_sub [3, 4, 5, 6, 1, 2, 0] rfl (hk85 y23 (x5 + (-1 : Int32)) (x6 + (1 : Int32)) m21 h)
set_option maxRecDepth 100000 in
theorem tb_X5_findOrder_l85 {X : XT} {ad : Nat → Nat} {K : Int32 → Mm → Prop} (hX : Cx X cX5_findOrder 8 RX5 (rmN 5 125)) (hR : Rx X (some .int) (kI ad K) (0, 0)) {rec : Int32 → Int32 → Int32 → Mm → Prop} {k213 : Int32 → Int32 → Mm → Prop} (a1 : Nat) (h1 : kap a1 = 3) (x2 : Int32) (x3 : Int32) (hrec : ∀ (x4 : Int32) (x5 : Int32) (x6 : Int32) (m : Mm), rec x4 x5 x6 m → J X (0, 0) 85 [(0, .ref (ad 269)), (1, .ref (ad a1)), (2, .int x2), (3, .int x3), (4, .int x4), (5, .int x5), (6, .int x6)] [] (fl ad m)) (hk213 : ∀ (z4 : Int32) (z5 : Int32) (m : Mm), k213 z4 z5 m → J X (0, 0) 213 [(3, .int x3), (4, .int z4), (5, .int z5)] [] (fl ad m)) (x4 : Int32) (x5 : Int32) (x6 : Int32) (m : Mm) (h : wb_X5_findOrder_l85 rec k213 K a1 x2 x3 x4 x5 x6 m) : J X (0, 0) 85 [(0, .ref (ad 269)), (1, .ref (ad a1)), (2, .int x2), (3, .int x3), (4, .int x4), (5, .int x5), (6, .int x6)] [] (fl ad m) := by
  unfold wb_X5_findOrder_l85 at h
  refine J_iload hX dX5_findOrder_85 6 rfl ?_
  refine J_iconst (v := (4 : Int32)) hX dX5_findOrder_87 (by decide) ?_
  refine J_aload_n hX dX5_findOrder_88 rfl 0 rfl ?_
  refine J_getR hX kf_RX5_30 dX5_findOrder_89 ka_269 (by decide) rfl rh_269_4 ?_
  refine J_alen (v := (1024 : Int32)) hX dX5_findOrder_92 ka_282 (by decide) le_282 rfl ?_
  refine J_imul hX dX5_findOrder_93 ?_
  refine J_icmp_ge (tgt := 213) hX dX5_findOrder_94 (by decide) (fun c13 => ?_) (fun c13 => ?_)
  · replace h := Eq.mp (if_pos c13) h
    exact J_sub [3, 4, 5] rfl (hk213 x4 x5 m h)
  · replace h := Eq.mp (if_neg c13) h
    refine J_iload hX dX5_findOrder_97 4 rfl ?_
    refine J_iload_n hX dX5_findOrder_99 rfl 3 rfl ?_
    refine J_icmp_eq (tgt := 213) hX dX5_findOrder_100 (by decide) (fun c14 => ?_) (fun c14 => ?_)
    · replace h := Eq.mp (if_pos c14) h
      exact J_sub [3, 4, 5] rfl (hk213 x4 x5 m h)
    · replace h := Eq.mp (if_neg c14) h
      refine J_aload_n hX dX5_findOrder_103 rfl 0 rfl ?_
      refine J_aload_n hX dX5_findOrder_104 rfl 1 rfl ?_
      refine J_iload hX dX5_findOrder_105 4 rfl ?_
      refine J_iload_n hX dX5_findOrder_107 rfl 3 rfl ?_
      refine J_iload hX dX5_findOrder_108 4 rfl ?_
      refine J_iconst (v := (-1 : Int32)) hX dX5_findOrder_110 (by decide) ?_
      refine J_ixor hX dX5_findOrder_111 ?_
      refine J_iand hX dX5_findOrder_112 ?_
      refine J_iload_n hX dX5_findOrder_113 rfl 2 rfl ?_
      refine J_callV hX km_X5_nextFold kl_RX5_115 dX5_findOrder_114 ka_269 (by decide) [.ref (ad a1), .int x4, .int (x3 &&& (x4 ^^^ (-1 : Int32))), .int x2] ⟨Nat.le_of_ble_eq_true rfl, Nat.le_of_ble_eq_true rfl⟩ rfl rfl (Nat.le_of_ble_eq_true rfl) (c_X5_nextFold a1 h1 x4 (x3 &&& (x4 ^^^ (-1 : Int32))) x2 m _ h) (fun v w2 hk => ?_)
      obtain ⟨y16, m15, rfl, rfl, h⟩ := hk
      show J X (0, 0) 117 [(0, .ref (ad 269)), (1, .ref (ad a1)), (2, .int x2), (3, .int x3), (4, .int x4), (5, .int x5), (6, .int x6)] [.int y16] (fl ad m15)
      refine J_istore (lv2 := [(7, .int y16), (0, .ref (ad 269)), (1, .ref (ad a1)), (2, .int x2), (3, .int x3), (4, .int x4), (5, .int x5), (6, .int x6)]) hX dX5_findOrder_117 (Nat.le_of_ble_eq_true rfl) rfl ?_
      refine J_iload hX dX5_findOrder_119 0 rfl ?_
      refine J_bipush (v := (-9 : Int32)) hX dX5_findOrder_121 (by decide) ?_
      refine J_icmp_eq (tgt := 160) hX dX5_findOrder_123 (by decide) (fun c17 => ?_) (fun c17 => ?_)
      · replace h := Eq.mp (if_pos c17) h
        exact J_sub [1, 2, 3, 4, 5, 6, 7] rfl (t_X5_findOrder_j160 hX hR a1 h1 x2 x3 x4 x5 x6 hrec m15 h)
      · replace h := Eq.mp (if_neg c17) h
        refine J_iload hX dX5_findOrder_126 6 rfl ?_
        refine J_aload_n hX dX5_findOrder_128 rfl 1 rfl ?_
        refine J_getR hX kf_RX5_26 dX5_findOrder_129 ka_269 (by decide) rfl rh_269_3 ?_
        refine J_alen (v := (10 : Int32)) hX dX5_findOrder_132 ka_281 (by decide) le_281 rfl ?_
        refine J_icmp_ge (tgt := 160) hX dX5_findOrder_133 (by decide) (fun c24 => ?_) (fun c24 => ?_)
        · replace h := Eq.mp (if_pos c24) h
          exact J_sub [1, 2, 3, 4, 5, 6, 7] rfl (t_X5_findOrder_j160 hX hR a1 h1 x2 x3 x4 x5 x6 hrec m15 h)
        · replace h := Eq.mp (if_neg c24) h
          refine J_aload_n hX dX5_findOrder_136 rfl 1 rfl ?_
          refine J_getR hX kf_RX5_26 dX5_findOrder_137 ka_269 (by decide) rfl rh_269_3 ?_
          refine J_iload hX dX5_findOrder_140 6 rfl ?_
          refine J_iload hX dX5_findOrder_142 0 rfl ?_
          obtain ⟨b25, h⟩ := h
          refine J_iast (j := x5.toNatClampNeg) hX dX5_findOrder_144 ka_281 le_281 b25 rfl ?_
          refine J_nmM (fun m26 e_m26 => ?_)
          replace h := h m26 e_m26
          refine J_iinc (x := (x5 + (1 : Int32))) (lv2 := [(5, .int (x5 + (1 : Int32))), (7, .int y16), (0, .ref (ad 269)), (1, .ref (ad a1)), (2, .int x2), (3, .int x3), (4, .int x4), (6, .int x6)]) hX dX5_findOrder_145 6 rfl rfl (Nat.le_of_ble_eq_true rfl) rfl ?_
          refine J_iload hX dX5_findOrder_148 6 rfl ?_
          refine J_iconst (v := (1 : Int32)) hX dX5_findOrder_150 (by decide) ?_
          refine J_iload hX dX5_findOrder_151 1 rfl ?_
          refine J_ishl hX dX5_findOrder_153 ?_
          refine J_ior hX dX5_findOrder_154 ?_
          refine J_nmI (fun y27 e_y27 => ?_)
          replace h := h y27 e_y27
          refine J_istore (lv2 := [(4, .int y27), (5, .int (x5 + (1 : Int32))), (7, .int y16), (0, .ref (ad 269)), (1, .ref (ad a1)), (2, .int x2), (3, .int x3), (6, .int x6)]) hX dX5_findOrder_155 (Nat.le_of_ble_eq_true rfl) rfl ?_
          refine J_goto (tgt := 207) hX dX5_findOrder_157 (by decide) ?_
          refine J_iinc (x := (x6 + (1 : Int32))) (lv2 := [(6, .int (x6 + (1 : Int32))), (4, .int y27), (5, .int (x5 + (1 : Int32))), (7, .int y16), (0, .ref (ad 269)), (1, .ref (ad a1)), (2, .int x2), (3, .int x3)]) hX dX5_findOrder_207 7 rfl rfl (Nat.le_of_ble_eq_true rfl) rfl ?_
          refine J_goto (tgt := 85) hX dX5_findOrder_210 (by decide) ?_
          exact J_sub [4, 5, 6, 7, 1, 2, 0] rfl (hrec y27 (x5 + (1 : Int32)) (x6 + (1 : Int32)) m26 h)
set_option maxRecDepth 100000 in
theorem t_X5_findOrder_l85 {X : XT} {ad : Nat → Nat} {K : Int32 → Mm → Prop} (hX : Cx X cX5_findOrder 8 RX5 (rmN 5 125)) (hR : Rx X (some .int) (kI ad K) (0, 0)) {k213 : Int32 → Int32 → Mm → Prop} (a1 : Nat) (h1 : kap a1 = 3) (x2 : Int32) (x3 : Int32) (hk213 : ∀ (z4 : Int32) (z5 : Int32) (m : Mm), k213 z4 z5 m → J X (0, 0) 213 [(3, .int x3), (4, .int z4), (5, .int z5)] [] (fl ad m)) : ∀ (n : Nat) (x4 : Int32) (x5 : Int32) (x6 : Int32) (m : Mm), wp_X5_findOrder_l85 k213 K a1 x2 x3 n x4 x5 x6 m → J X (0, 0) 85 [(0, .ref (ad 269)), (1, .ref (ad a1)), (2, .int x2), (3, .int x3), (4, .int x4), (5, .int x5), (6, .int x6)] [] (fl ad m) := by
  intro n
  induction n with
  | zero => intro x4 x5 x6 m h; exact h.elim
  | succ n ih => intro x4 x5 x6 m h; exact tb_X5_findOrder_l85 hX hR a1 h1 x2 x3 ih hk213 x4 x5 x6 m h
set_option maxRecDepth 100000 in
theorem c_X5_findOrder {G : GT} {ad : Nat → Nat} (a1 : Nat) (h1 : kap a1 = 3) (x2 : Int32) (m : Mm) (K : Int32 → Mm → Prop) (h : wp_X5_findOrder a1 x2 m K) : Cn G yX5_findOrder cX5_findOrder 8 (some .int) (rmN 5 125) [.ref (ad 269), .ref (ad a1), .int x2] (0, 0) (fl ad m) (kI ad K) := by
  unfold wp_X5_findOrder at h
  refine Cn.of pn_RX5 (Nat.le_of_ble_eq_true rfl) (fun X hG hX hR => ?_)
  subst hG
  have hX : Cx X cX5_findOrder 8 RX5 (rmN 5 125) := hX
  show J X (0, 0) 0 [(0, .ref (ad 269)), (1, .ref (ad a1)), (2, .int x2)] [] (fl ad m)
  refine J_iconst (v := (0 : Int32)) hX dX5_findOrder_0 (by decide) ?_
  refine J_istore_n (lv2 := [(3, .int (0 : Int32)), (0, .ref (ad 269)), (1, .ref (ad a1)), (2, .int x2)]) hX dX5_findOrder_1 rfl (Nat.le_of_ble_eq_true rfl) rfl ?_
  refine J_iconst (v := (1 : Int32)) hX dX5_findOrder_2 (by decide) ?_
  refine J_istore (lv2 := [(4, .int (1 : Int32)), (3, .int (0 : Int32)), (0, .ref (ad 269)), (1, .ref (ad a1)), (2, .int x2)]) hX dX5_findOrder_3 (Nat.le_of_ble_eq_true rfl) rfl ?_
  refine J_sub [2, 3, 4, 1, 0] rfl (t_X5_findOrder_l5 hX hR a1 h1 x2 (fun y6 m7 h => ?_) FU (0 : Int32) (1 : Int32) m h)
  refine J_iconst (v := (0 : Int32)) hX dX5_findOrder_43 (by decide) ?_
  refine J_istore (lv2 := [(4, .int (0 : Int32)), (0, .ref (ad 269)), (1, .ref (ad a1)), (2, .int x2), (3, .int y6)]) hX dX5_findOrder_44 (Nat.le_of_ble_eq_true rfl) rfl ?_
  refine J_sub [1, 2, 3, 4, 0] rfl (t_X5_findOrder_l46 hX hR a1 h1 x2 y6 (fun m12 h => ?_) FU (0 : Int32) m7 h)
  refine J_iconst (v := (0 : Int32)) hX dX5_findOrder_76 (by decide) ?_
  refine J_istore (lv2 := [(4, .int (0 : Int32)), (0, .ref (ad 269)), (1, .ref (ad a1)), (2, .int x2), (3, .int y6)]) hX dX5_findOrder_77 (Nat.le_of_ble_eq_true rfl) rfl ?_
  refine J_iconst (v := (0 : Int32)) hX dX5_findOrder_79 (by decide) ?_
  refine J_istore (lv2 := [(5, .int (0 : Int32)), (4, .int (0 : Int32)), (0, .ref (ad 269)), (1, .ref (ad a1)), (2, .int x2), (3, .int y6)]) hX dX5_findOrder_80 (Nat.le_of_ble_eq_true rfl) rfl ?_
  refine J_iconst (v := (0 : Int32)) hX dX5_findOrder_82 (by decide) ?_
  refine J_istore (lv2 := [(6, .int (0 : Int32)), (5, .int (0 : Int32)), (4, .int (0 : Int32)), (0, .ref (ad 269)), (1, .ref (ad a1)), (2, .int x2), (3, .int y6)]) hX dX5_findOrder_83 (Nat.le_of_ble_eq_true rfl) rfl ?_
  refine J_sub [3, 4, 5, 6, 2, 1, 0] rfl (t_X5_findOrder_l85 hX hR a1 h1 x2 y6 (fun y28 y29 m30 h => ?_) FU (0 : Int32) (0 : Int32) (0 : Int32) m12 h)
  refine J_iload hX dX5_findOrder_213 1 rfl ?_
  refine J_iload_n hX dX5_findOrder_215 rfl 0 rfl ?_
  have hj33 : ∀ y32 : Int32, y32 = (if y28 = y6 then y29 else (0 : Int32)) → J X (0, 0) 225 [] [.int y32] (fl ad m30) := by
    intro y32 e_y32
    replace h := h y32 e_y32
    exact J_iret hX hR dX5_findOrder_225 ⟨_, _, rfl, rfl, h⟩
  refine J_icmp_ne (tgt := 224) hX dX5_findOrder_216 (by decide) (fun c31 => ?_) (fun c31 => ?_)
  · refine J_iconst (v := (0 : Int32)) hX dX5_findOrder_224 (by decide) ?_
    exact J_sub [] rfl (hj33 _ (if_neg c31).symm)
  · refine J_iload hX dX5_findOrder_219 2 rfl ?_
    refine J_goto (tgt := 225) hX dX5_findOrder_221 (by decide) ?_
    exact J_sub [] rfl (hj33 _ (if_pos c31).symm)
set_option maxRecDepth 100000 in
theorem c_X5_orderAt {G : GT} {ad : Nat → Nat} (x1 : Int32) (m : Mm) : Cn G yX5_orderAt cX5_orderAt 2 (some .int) (rmN 0 0) [.ref (ad 269), .int x1] (0, 0) (fl ad m) (fun v w => v = some (.int (v_X5_orderAt x1 m)) ∧ w = fl ad m) := by
  refine Cn.of pn_RX5 (Nat.le_of_ble_eq_true rfl) (fun X hG hX hR => ?_)
  subst hG
  have hX : Cx X cX5_orderAt 2 RX5 (rmN 0 0) := hX
  show J X (0, 0) 0 [(0, .ref (ad 269)), (1, .int x1)] [] (fl ad m)
  refine J_iload_n hX dX5_orderAt_0 rfl 1 rfl ?_
  have hj3 : ∀ y4 : Int32, y4 = (if x1 < (0 : Int32) then (-9 : Int32) else (if (10 : Int32) ≤ x1 then (-9 : Int32) else (m.1 281 x1.toNatClampNeg))) → J X (0, 0) 21 [] [.int y4] (fl ad m) := by
    intro y4 e_y4
    subst e_y4
    exact J_iret hX hR dX5_orderAt_21 (And.intro (congrArg (fun z => some (Value.int z)) (show (if x1 < (0 : Int32) then (-9 : Int32) else (if (10 : Int32) ≤ x1 then (-9 : Int32) else (m.1 281 x1.toNatClampNeg))) = v_X5_orderAt x1 m from rfl)) rfl)
  refine J_if_lt (tgt := 19) hX dX5_orderAt_1 (by decide) (fun c1 => ?_) (fun c1 => ?_)
  · refine J_bipush (v := (-9 : Int32)) hX dX5_orderAt_19 (by decide) ?_
    exact J_sub [] rfl (hj3 _ (if_pos c1).symm)
  · refine J_iload_n hX dX5_orderAt_4 rfl 1 rfl ?_
    refine J_bipush (v := (10 : Int32)) hX dX5_orderAt_5 (by decide) ?_
    refine J_icmp_ge (tgt := 19) hX dX5_orderAt_7 (by decide) (fun c2 => ?_) (fun c2 => ?_)
    · refine J_bipush (v := (-9 : Int32)) hX dX5_orderAt_19 (by decide) ?_
      exact J_sub [] rfl (hj3 _ ((if_neg c1).trans (if_pos c2)).symm)
    · refine J_aload_n hX dX5_orderAt_10 rfl 0 rfl ?_
      refine J_getR hX kf_RX5_26 dX5_orderAt_11 ka_269 (by decide) rfl rh_269_3 ?_
      refine J_iload_n hX dX5_orderAt_14 rfl 1 rfl ?_
      refine J_iald (j := x1.toNatClampNeg) hX dX5_orderAt_15 ka_281 le_281 (vp_b (lo_2 c1) (up_2 c2 (by decide))) rfl ?_
      refine J_goto (tgt := 21) hX dX5_orderAt_16 (by decide) ?_
      exact J_sub [] rfl (hj3 _ ((if_neg c1).trans (if_neg c2)).symm)
set_option maxRecDepth 100000 in
theorem c_X11_foldStep {G : GT} {ad : Nat → Nat} (x1 : Int32) (m : Mm) (K : Int32 → Mm → Prop) (h : wp_X11_foldStep x1 m K) : Cn G yX11_foldStep cX11_foldStep 3 (some .int) (rmN 6 152) [.ref (ad 0), .int x1] (0, 0) (fl ad m) (kI ad K) := by
  unfold wp_X11_foldStep at h
  refine Cn.of pn_RX11 (Nat.le_of_ble_eq_true rfl) (fun X hG hX hR => ?_)
  subst hG
  have hX : Cx X cX11_foldStep 3 RX11 (rmN 6 152) := hX
  show J X (0, 0) 0 [(0, .ref (ad 0)), (1, .int x1)] [] (fl ad m)
  refine J_iload_n hX dX11_foldStep_0 rfl 1 rfl ?_
  refine J_if_ge (tgt := 6) hX dX11_foldStep_1 (by decide) (fun c1 => ?_) (fun c1 => ?_)
  · replace h := Eq.mp (if_pos c1) h
    refine J_aload_n hX dX11_foldStep_6 rfl 0 rfl ?_
    refine J_getR hX kf_RX11_73 dX11_foldStep_7 ka_0 (by decide) rfl rh_0_11 ?_
    refine J_aload_n hX dX11_foldStep_10 rfl 0 rfl ?_
    refine J_getR hX kf_RX11_10 dX11_foldStep_11 ka_0 (by decide) rfl rh_0_0 ?_
    refine J_aload_n hX dX11_foldStep_14 rfl 0 rfl ?_
    refine J_getR hX kf_RX11_77 dX11_foldStep_15 ka_0 (by decide) rfl rh_0_12 ?_
    refine J_iconst (v := (0 : Int32)) hX dX11_foldStep_18 (by decide) ?_
    refine J_iald (j := 0) hX dX11_foldStep_19 ka_265 le_265 (vp_lit (by decide)) (by decide) ?_
    refine J_callV hX km_X5_findOrder kl_RX11_308 dX11_foldStep_20 ka_269 (by decide) [.ref (ad 1), .int (m.1 265 0)] ⟨Nat.le_of_ble_eq_true rfl, Nat.le_of_ble_eq_true rfl⟩ rfl rfl (Nat.le_of_ble_eq_true rfl) (c_X5_findOrder 1 ka_1 (m.1 265 0) m _ h) (fun v w2 hk => ?_)
    obtain ⟨y3, m2, rfl, rfl, h⟩ := hk
    show J X (0, 0) 23 [(0, .ref (ad 0)), (1, .int x1)] [.int y3] (fl ad m2)
    refine J_istore_n (lv2 := [(2, .int y3), (0, .ref (ad 0)), (1, .int x1)]) hX dX11_foldStep_23 rfl (Nat.le_of_ble_eq_true rfl) rfl ?_
    refine J_iload_n hX dX11_foldStep_24 rfl 2 rfl ?_
    refine J_iload_n hX dX11_foldStep_25 rfl 0 rfl ?_
    have hj6 : ∀ y5 : Int32, y5 = (if y3 ≤ x1 then (-9 : Int32) else (v_X5_orderAt x1 m2)) → J X (0, 0) 42 [] [.int y5] (fl ad m2) := by
      intro y5 e_y5
      replace h := h y5 e_y5
      exact J_iret hX hR dX11_foldStep_42 ⟨_, _, rfl, rfl, h⟩
    refine J_icmp_ge (tgt := 40) hX dX11_foldStep_26 (by decide) (fun c4 => ?_) (fun c4 => ?_)
    · refine J_bipush (v := (-9 : Int32)) hX dX11_foldStep_40 (by decide) ?_
      exact J_sub [] rfl (hj6 _ (if_pos c4).symm)
    · refine J_aload_n hX dX11_foldStep_29 rfl 1 rfl ?_
      refine J_getR hX kf_RX11_73 dX11_foldStep_30 ka_0 (by decide) rfl rh_0_11 ?_
      refine J_iload_n hX dX11_foldStep_33 rfl 2 rfl ?_
      refine J_callV hX km_X5_orderAt kl_RX11_311 dX11_foldStep_34 ka_269 (by decide) [.int x1] ⟨Nat.le_of_ble_eq_true rfl, Nat.le_of_ble_eq_true rfl⟩ rfl rfl (Nat.le_of_ble_eq_true rfl) (c_X5_orderAt x1 m2) (fun v w2 hk => ?_)
      obtain ⟨rfl, rfl⟩ := hk
      show J X (0, 0) 37 [(2, .int y3), (0, .ref (ad 0)), (1, .int x1)] [.int (v_X5_orderAt x1 m2)] (fl ad m2)
      refine J_goto (tgt := 42) hX dX11_foldStep_37 (by decide) ?_
      exact J_sub [] rfl (hj6 _ (if_neg c4).symm)
  · replace h := Eq.mp (if_neg c1) h
    refine J_iconst (v := (-1 : Int32)) hX dX11_foldStep_4 (by decide) ?_
    exact J_iret hX hR dX11_foldStep_5 ⟨_, _, rfl, rfl, h⟩
set_option maxRecDepth 100000 in
theorem c_X11_imageAt {G : GT} {ad : Nat → Nat} (x1 : Int32) (x2 : Int32) (x3 : Int32) (x4 : Int32) (m : Mm) : Cn G yX11_imageAt cX11_imageAt 6 (some .int) (rmN 2 48) [.ref (ad 0), .int x1, .int x2, .int x3, .int x4] (0, 0) (fl ad m) (fun v w => v = some (.int (v_X11_imageAt x1 x2 x3 x4 m)) ∧ w = fl ad m) := by
  refine Cn.of pn_RX11 (Nat.le_of_ble_eq_true rfl) (fun X hG hX hR => ?_)
  subst hG
  have hX : Cx X cX11_imageAt 6 RX11 (rmN 2 48) := hX
  show J X (0, 0) 0 [(0, .ref (ad 0)), (1, .int x1), (2, .int x2), (3, .int x3), (4, .int x4)] [] (fl ad m)
  refine J_aload_n hX dX11_imageAt_0 rfl 0 rfl ?_
  refine J_getR hX kf_RX11_10 dX11_imageAt_1 ka_0 (by decide) rfl rh_0_0 ?_
  refine J_iload_n hX dX11_imageAt_4 rfl 1 rfl ?_
  refine J_callV hX km_X3_has kl_RX11_223 dX11_imageAt_5 ka_1 (by decide) [.int x1] ⟨Nat.le_of_ble_eq_true rfl, Nat.le_of_ble_eq_true rfl⟩ rfl rfl (Nat.le_of_ble_eq_true rfl) (c_X3_has 1 ka_1 x1 m) (fun v w2 hk => ?_)
  obtain ⟨rfl, rfl⟩ := hk
  show J X (0, 0) 8 [(0, .ref (ad 0)), (1, .int x1), (2, .int x2), (3, .int x3), (4, .int x4)] [.int (v_X3_has 1 x1 m)] (fl ad m)
  refine J_if_eq (tgt := 36) hX dX11_imageAt_8 (by decide) (fun c1 => ?_) (fun c1 => ?_)
  · refine J_iconst (v := (-1 : Int32)) hX dX11_imageAt_36 (by decide) ?_
    exact J_iret hX hR dX11_imageAt_37 (And.intro (congrArg (fun z => some (Value.int z)) (show (-1 : Int32) = v_X11_imageAt x1 x2 x3 x4 m from (if_pos c1).symm)) rfl)
  · refine J_iload_n hX dX11_imageAt_11 rfl 2 rfl ?_
    refine J_callS hX km_X11_isPosition kl_RX11_314 dX11_imageAt_12 [.int x2] ⟨Nat.le_of_ble_eq_true rfl, Nat.le_of_ble_eq_true rfl⟩ rfl rfl (Nat.le_of_ble_eq_true rfl) (c_X11_isPosition x2 m) (fun v w2 hk => ?_)
    obtain ⟨rfl, rfl⟩ := hk
    show J X (0, 0) 15 [(0, .ref (ad 0)), (1, .int x1), (2, .int x2), (3, .int x3), (4, .int x4)] [.int (v_X11_isPosition x2)] (fl ad m)
    refine J_if_eq (tgt := 36) hX dX11_imageAt_15 (by decide) (fun c2 => ?_) (fun c2 => ?_)
    · refine J_iconst (v := (-1 : Int32)) hX dX11_imageAt_36 (by decide) ?_
      exact J_iret hX hR dX11_imageAt_37 (And.intro (congrArg (fun z => some (Value.int z)) (show (-1 : Int32) = v_X11_imageAt x1 x2 x3 x4 m from ((if_neg c1).trans (if_pos c2)).symm)) rfl)
    · refine J_iload_n hX dX11_imageAt_18 rfl 3 rfl ?_
      refine J_callS hX km_X11_isPosition kl_RX11_314 dX11_imageAt_19 [.int x3] ⟨Nat.le_of_ble_eq_true rfl, Nat.le_of_ble_eq_true rfl⟩ rfl rfl (Nat.le_of_ble_eq_true rfl) (c_X11_isPosition x3 m) (fun v w2 hk => ?_)
      obtain ⟨rfl, rfl⟩ := hk
      show J X (0, 0) 22 [(0, .ref (ad 0)), (1, .int x1), (2, .int x2), (3, .int x3), (4, .int x4)] [.int (v_X11_isPosition x3)] (fl ad m)
      refine J_if_eq (tgt := 36) hX dX11_imageAt_22 (by decide) (fun c3 => ?_) (fun c3 => ?_)
      · refine J_iconst (v := (-1 : Int32)) hX dX11_imageAt_36 (by decide) ?_
        exact J_iret hX hR dX11_imageAt_37 (And.intro (congrArg (fun z => some (Value.int z)) (show (-1 : Int32) = v_X11_imageAt x1 x2 x3 x4 m from ((if_neg c1).trans ((if_neg c2).trans (if_pos c3))).symm)) rfl)
      · refine J_iload hX dX11_imageAt_25 4 rfl ?_
        refine J_if_lt (tgt := 36) hX dX11_imageAt_27 (by decide) (fun c4 => ?_) (fun c4 => ?_)
        · refine J_iconst (v := (-1 : Int32)) hX dX11_imageAt_36 (by decide) ?_
          exact J_iret hX hR dX11_imageAt_37 (And.intro (congrArg (fun z => some (Value.int z)) (show (-1 : Int32) = v_X11_imageAt x1 x2 x3 x4 m from ((if_neg c1).trans ((if_neg c2).trans ((if_neg c3).trans (if_pos c4)))).symm)) rfl)
        · refine J_iload hX dX11_imageAt_30 4 rfl ?_
          refine J_iconst (v := (1 : Int32)) hX dX11_imageAt_32 (by decide) ?_
          refine J_icmp_le (tgt := 38) hX dX11_imageAt_33 (by decide) (fun c5 => ?_) (fun c5 => ?_)
          · refine J_aload_n hX dX11_imageAt_38 rfl 0 rfl ?_
            refine J_getR hX kf_RX11_10 dX11_imageAt_39 ka_0 (by decide) rfl rh_0_0 ?_
            refine J_iload_n hX dX11_imageAt_42 rfl 1 rfl ?_
            refine J_callV hX km_X3_panelAt kl_RX11_201 dX11_imageAt_43 ka_1 (by decide) [.int x1] ⟨Nat.le_of_ble_eq_true rfl, Nat.le_of_ble_eq_true rfl⟩ rfl rfl (Nat.le_of_ble_eq_true rfl) (c_X3_panelAt 1 ka_1 x1 m) (fun v w2 hk => ?_)
            obtain ⟨rfl, rfl⟩ := hk
            show J X (0, 0) 46 [(0, .ref (ad 0)), (1, .int x1), (2, .int x2), (3, .int x3), (4, .int x4)] [.ref (ad (v_X3_panelAt 1 x1))] (fl ad m)
            refine J_astore (lv2 := [(5, .ref (ad (v_X3_panelAt 1 x1))), (0, .ref (ad 0)), (1, .int x1), (2, .int x2), (3, .int x3), (4, .int x4)]) hX dX11_imageAt_46 (Nat.le_of_ble_eq_true rfl) rfl ?_
            refine J_aload hX dX11_imageAt_48 0 rfl ?_
            refine J_getI hX kf_RX11_205 dX11_imageAt_50 (kv_X3_panelAt ka_1) (by decide) rfl ?_
            refine J_bipush (v := (-9 : Int32)) hX dX11_imageAt_53 (by decide) ?_
            refine J_icmp_ne (tgt := 61) hX dX11_imageAt_55 (by decide) (fun c6 => ?_) (fun c6 => ?_)
            · refine J_iload hX dX11_imageAt_61 5 rfl ?_
              have hj8 : ∀ y9 : Int32, y9 = (if x4 = (0 : Int32) then (v_X0_imageU 1 (v_X3_panelAt 1 x1) x2 x3 m) else (v_X0_imageV 1 (v_X3_panelAt 1 x1) x2 x3 m)) → J X (0, 0) 91 [] [.int y9] (fl ad m) := by
                intro y9 e_y9
                subst e_y9
                exact J_iret hX hR dX11_imageAt_91 (And.intro (congrArg (fun z => some (Value.int z)) (show (if x4 = (0 : Int32) then (v_X0_imageU 1 (v_X3_panelAt 1 x1) x2 x3 m) else (v_X0_imageV 1 (v_X3_panelAt 1 x1) x2 x3 m)) = v_X11_imageAt x1 x2 x3 x4 m from ((if_neg c1).trans ((if_neg c2).trans ((if_neg c3).trans ((if_neg c4).trans ((if_pos c5).trans (if_neg c6)))))).symm)) rfl)
              refine J_if_ne (tgt := 80) hX dX11_imageAt_63 (by decide) (fun c7 => ?_) (fun c7 => ?_)
              · refine J_aload_n hX dX11_imageAt_80 rfl 1 rfl ?_
                refine J_getR hX kf_RX11_10 dX11_imageAt_81 ka_0 (by decide) rfl rh_0_0 ?_
                refine J_aload hX dX11_imageAt_84 0 rfl ?_
                refine J_iload_n hX dX11_imageAt_86 rfl 3 rfl ?_
                refine J_iload_n hX dX11_imageAt_87 rfl 4 rfl ?_
                refine J_callS hX km_X0_imageV kl_RX11_321 dX11_imageAt_88 [.ref (ad 1), .ref (ad (v_X3_panelAt 1 x1)), .int x2, .int x3] ⟨Nat.le_of_ble_eq_true rfl, Nat.le_of_ble_eq_true rfl⟩ rfl rfl (Nat.le_of_ble_eq_true rfl) (c_X0_imageV 1 ka_1 (v_X3_panelAt 1 x1) (kv_X3_panelAt ka_1) x2 x3 m) (fun v w2 hk => ?_)
                obtain ⟨rfl, rfl⟩ := hk
                show J X (0, 0) 91 [(5, .ref (ad (v_X3_panelAt 1 x1))), (0, .ref (ad 0)), (1, .int x1), (2, .int x2), (3, .int x3), (4, .int x4)] [.int (v_X0_imageV 1 (v_X3_panelAt 1 x1) x2 x3 m)] (fl ad m)
                exact J_sub [] rfl (hj8 _ (if_neg c7).symm)
              · refine J_aload_n hX dX11_imageAt_66 rfl 1 rfl ?_
                refine J_getR hX kf_RX11_10 dX11_imageAt_67 ka_0 (by decide) rfl rh_0_0 ?_
                refine J_aload hX dX11_imageAt_70 0 rfl ?_
                refine J_iload_n hX dX11_imageAt_72 rfl 3 rfl ?_
                refine J_iload_n hX dX11_imageAt_73 rfl 4 rfl ?_
                refine J_callS hX km_X0_imageU kl_RX11_317 dX11_imageAt_74 [.ref (ad 1), .ref (ad (v_X3_panelAt 1 x1)), .int x2, .int x3] ⟨Nat.le_of_ble_eq_true rfl, Nat.le_of_ble_eq_true rfl⟩ rfl rfl (Nat.le_of_ble_eq_true rfl) (c_X0_imageU 1 ka_1 (v_X3_panelAt 1 x1) (kv_X3_panelAt ka_1) x2 x3 m) (fun v w2 hk => ?_)
                obtain ⟨rfl, rfl⟩ := hk
                show J X (0, 0) 77 [(5, .ref (ad (v_X3_panelAt 1 x1))), (0, .ref (ad 0)), (1, .int x1), (2, .int x2), (3, .int x3), (4, .int x4)] [.int (v_X0_imageU 1 (v_X3_panelAt 1 x1) x2 x3 m)] (fl ad m)
                refine J_goto (tgt := 91) hX dX11_imageAt_77 (by decide) ?_
                exact J_sub [] rfl (hj8 _ (if_pos c7).symm)
            · refine J_bipush (v := (-9 : Int32)) hX dX11_imageAt_58 (by decide) ?_
              exact J_iret hX hR dX11_imageAt_60 (And.intro (congrArg (fun z => some (Value.int z)) (show (-9 : Int32) = v_X11_imageAt x1 x2 x3 x4 m from ((if_neg c1).trans ((if_neg c2).trans ((if_neg c3).trans ((if_neg c4).trans ((if_pos c5).trans (if_pos c6)))))).symm)) rfl)
          · refine J_iconst (v := (-1 : Int32)) hX dX11_imageAt_36 (by decide) ?_
            exact J_iret hX hR dX11_imageAt_37 (And.intro (congrArg (fun z => some (Value.int z)) (show (-1 : Int32) = v_X11_imageAt x1 x2 x3 x4 m from ((if_neg c1).trans ((if_neg c2).trans ((if_neg c3).trans ((if_neg c4).trans (if_neg c5))))).symm)) rfl)
set_option maxRecDepth 100000 in
theorem tb_X4_anyOpen_l12 {X : XT} {ad : Nat → Nat} {K : Int32 → Mm → Prop} (hX : Cx X cX4_anyOpen 4 RX4 (rmN 3 70)) (hR : Rx X (some .boolean) (kI ad K) (0, 0)) {rec : Int32 → Mm → Prop} {k2 : Int32 → Mm → Prop} (a1 : Nat) (h1 : kap a1 = 3) (x2 : Int32) (hrec : ∀ (x3 : Int32) (m : Mm), rec x3 m → J X (0, 0) 12 [(0, .ref (ad 264)), (1, .ref (ad a1)), (2, .int x2), (3, .int x3)] [] (fl ad m)) (hk2 : ∀ (z2 : Int32) (m : Mm), k2 z2 m → J X (0, 0) 2 [(0, .ref (ad 264)), (1, .ref (ad a1)), (2, .int z2)] [] (fl ad m)) (x3 : Int32) (m : Mm) (h : wb_X4_anyOpen_l12 rec k2 K a1 x2 x3 m) : J X (0, 0) 12 [(0, .ref (ad 264)), (1, .ref (ad a1)), (2, .int x2), (3, .int x3)] [] (fl ad m) := by
  unfold wb_X4_anyOpen_l12 at h
  refine J_iload_n hX dX4_anyOpen_12 rfl 3 rfl ?_
  refine J_iconst (v := (4 : Int32)) hX dX4_anyOpen_13 (by decide) ?_
  refine J_icmp_ge (tgt := 48) hX dX4_anyOpen_14 (by decide) (fun c2 => ?_) (fun c2 => ?_)
  · replace h := Eq.mp (if_pos c2) h
    refine J_iinc (x := (x2 + (1 : Int32))) (lv2 := [(2, .int (x2 + (1 : Int32))), (0, .ref (ad 264)), (1, .ref (ad a1)), (3, .int x3)]) hX dX4_anyOpen_48 2 rfl rfl (Nat.le_of_ble_eq_true rfl) rfl ?_
    refine J_goto (tgt := 2) hX dX4_anyOpen_51 (by decide) ?_
    exact J_sub [1, 2, 0] rfl (hk2 (x2 + (1 : Int32)) m h)
  · replace h := Eq.mp (if_neg c2) h
    refine J_aload_n hX dX4_anyOpen_17 rfl 1 rfl ?_
    refine J_iload_n hX dX4_anyOpen_18 rfl 2 rfl ?_
    refine J_callV hX km_X3_panelAt kl_RX4_72 dX4_anyOpen_19 h1 (by decide) [.int x2] ⟨Nat.le_of_ble_eq_true rfl, Nat.le_of_ble_eq_true rfl⟩ rfl rfl (Nat.le_of_ble_eq_true rfl) (c_X3_panelAt a1 h1 x2 m) (fun v w2 hk => ?_)
    obtain ⟨rfl, rfl⟩ := hk
    show J X (0, 0) 22 [(0, .ref (ad 264)), (1, .ref (ad a1)), (2, .int x2), (3, .int x3)] [.ref (ad (v_X3_panelAt a1 x2))] (fl ad m)
    refine J_callV hX km_X7_isFlap kl_RX4_76 dX4_anyOpen_22 (kv_X3_panelAt h1) (by decide) [] ⟨Nat.le_of_ble_eq_true rfl, Nat.le_of_ble_eq_true rfl⟩ rfl rfl (Nat.le_of_ble_eq_true rfl) (c_X7_isFlap (v_X3_panelAt a1 x2) (kv_X3_panelAt h1) m) (fun v w2 hk => ?_)
    obtain ⟨rfl, rfl⟩ := hk
    show J X (0, 0) 25 [(0, .ref (ad 264)), (1, .ref (ad a1)), (2, .int x2), (3, .int x3)] [.int (v_X7_isFlap (v_X3_panelAt a1 x2) m)] (fl ad m)
    refine J_if_ne (tgt := 42) hX dX4_anyOpen_25 (by decide) (fun c3 => ?_) (fun c3 => ?_)
    · replace h := Eq.mp (if_neg c3) h
      refine J_iinc (x := (x3 + (1 : Int32))) (lv2 := [(3, .int (x3 + (1 : Int32))), (0, .ref (ad 264)), (1, .ref (ad a1)), (2, .int x2)]) hX dX4_anyOpen_42 3 rfl rfl (Nat.le_of_ble_eq_true rfl) rfl ?_
      refine J_goto (tgt := 12) hX dX4_anyOpen_45 (by decide) ?_
      exact J_sub [1, 2, 3, 0] rfl (hrec (x3 + (1 : Int32)) m h)
    · replace h := Eq.mp (if_pos c3) h
      refine J_aload_n hX dX4_anyOpen_28 rfl 0 rfl ?_
      refine J_getR hX kf_RX4_37 dX4_anyOpen_29 ka_264 (by decide) rfl rh_264_5 ?_
      refine J_iload_n hX dX4_anyOpen_32 rfl 2 rfl ?_
      refine J_iload_n hX dX4_anyOpen_33 rfl 3 rfl ?_
      refine J_callV hX km_X10_open kl_RX4_103 dX4_anyOpen_34 ka_268 (by decide) [.int x2, .int x3] ⟨Nat.le_of_ble_eq_true rfl, Nat.le_of_ble_eq_true rfl⟩ rfl rfl (Nat.le_of_ble_eq_true rfl) (c_X10_open x2 x3 m _ h) (fun v w2 hk => ?_)
      obtain ⟨y5, m4, rfl, rfl, h⟩ := hk
      show J X (0, 0) 37 [(0, .ref (ad 264)), (1, .ref (ad a1)), (2, .int x2), (3, .int x3)] [.int y5] (fl ad m4)
      refine J_if_le (tgt := 42) hX dX4_anyOpen_37 (by decide) (fun c6 => ?_) (fun c6 => ?_)
      · replace h := Eq.mp (if_pos c6) h
        refine J_iinc (x := (x3 + (1 : Int32))) (lv2 := [(3, .int (x3 + (1 : Int32))), (0, .ref (ad 264)), (1, .ref (ad a1)), (2, .int x2)]) hX dX4_anyOpen_42 3 rfl rfl (Nat.le_of_ble_eq_true rfl) rfl ?_
        refine J_goto (tgt := 12) hX dX4_anyOpen_45 (by decide) ?_
        exact J_sub [1, 2, 3, 0] rfl (hrec (x3 + (1 : Int32)) m4 h)
      · replace h := Eq.mp (if_neg c6) h
        refine J_iconst (v := (1 : Int32)) hX dX4_anyOpen_40 (by decide) ?_
        exact J_zret hX hR dX4_anyOpen_41 bo_1 ⟨_, _, rfl, rfl, h⟩
set_option maxRecDepth 100000 in
theorem t_X4_anyOpen_l12 {X : XT} {ad : Nat → Nat} {K : Int32 → Mm → Prop} (hX : Cx X cX4_anyOpen 4 RX4 (rmN 3 70)) (hR : Rx X (some .boolean) (kI ad K) (0, 0)) {k2 : Int32 → Mm → Prop} (a1 : Nat) (h1 : kap a1 = 3) (x2 : Int32) (hk2 : ∀ (z2 : Int32) (m : Mm), k2 z2 m → J X (0, 0) 2 [(0, .ref (ad 264)), (1, .ref (ad a1)), (2, .int z2)] [] (fl ad m)) : ∀ (n : Nat) (x3 : Int32) (m : Mm), wp_X4_anyOpen_l12 k2 K a1 x2 n x3 m → J X (0, 0) 12 [(0, .ref (ad 264)), (1, .ref (ad a1)), (2, .int x2), (3, .int x3)] [] (fl ad m) := by
  intro n
  induction n with
  | zero => intro x3 m h; exact h.elim
  | succ n ih => intro x3 m h; exact tb_X4_anyOpen_l12 hX hR a1 h1 x2 ih hk2 x3 m h
set_option maxRecDepth 100000 in
theorem tb_X4_anyOpen_l2 {X : XT} {ad : Nat → Nat} {K : Int32 → Mm → Prop} (hX : Cx X cX4_anyOpen 4 RX4 (rmN 3 70)) (hR : Rx X (some .boolean) (kI ad K) (0, 0)) {rec : Int32 → Mm → Prop} (a1 : Nat) (h1 : kap a1 = 3) (hrec : ∀ (x2 : Int32) (m : Mm), rec x2 m → J X (0, 0) 2 [(0, .ref (ad 264)), (1, .ref (ad a1)), (2, .int x2)] [] (fl ad m)) (x2 : Int32) (m : Mm) (h : wb_X4_anyOpen_l2 rec K a1 x2 m) : J X (0, 0) 2 [(0, .ref (ad 264)), (1, .ref (ad a1)), (2, .int x2)] [] (fl ad m) := by
  unfold wb_X4_anyOpen_l2 at h
  refine J_iload_n hX dX4_anyOpen_2 rfl 2 rfl ?_
  refine J_aload_n hX dX4_anyOpen_3 rfl 1 rfl ?_
  refine J_getI hX kf_RX4_67 dX4_anyOpen_4 h1 (by decide) rfl ?_
  refine J_icmp_ge (tgt := 54) hX dX4_anyOpen_7 (by decide) (fun c1 => ?_) (fun c1 => ?_)
  · replace h := Eq.mp (if_pos c1) h
    refine J_iconst (v := (0 : Int32)) hX dX4_anyOpen_54 (by decide) ?_
    exact J_zret hX hR dX4_anyOpen_55 bo_0 ⟨_, _, rfl, rfl, h⟩
  · replace h := Eq.mp (if_neg c1) h
    refine J_iconst (v := (0 : Int32)) hX dX4_anyOpen_10 (by decide) ?_
    refine J_istore_n (lv2 := [(3, .int (0 : Int32)), (0, .ref (ad 264)), (1, .ref (ad a1)), (2, .int x2)]) hX dX4_anyOpen_11 rfl (Nat.le_of_ble_eq_true rfl) rfl ?_
    refine J_sub [1, 2, 3, 0] rfl (t_X4_anyOpen_l12 hX hR a1 h1 x2 hrec FU (0 : Int32) m h)
set_option maxRecDepth 100000 in
theorem t_X4_anyOpen_l2 {X : XT} {ad : Nat → Nat} {K : Int32 → Mm → Prop} (hX : Cx X cX4_anyOpen 4 RX4 (rmN 3 70)) (hR : Rx X (some .boolean) (kI ad K) (0, 0)) (a1 : Nat) (h1 : kap a1 = 3) : ∀ (n : Nat) (x2 : Int32) (m : Mm), wp_X4_anyOpen_l2 K a1 n x2 m → J X (0, 0) 2 [(0, .ref (ad 264)), (1, .ref (ad a1)), (2, .int x2)] [] (fl ad m) := by
  intro n
  induction n with
  | zero => intro x2 m h; exact h.elim
  | succ n ih => intro x2 m h; exact tb_X4_anyOpen_l2 hX hR a1 h1 ih x2 m h
set_option maxRecDepth 100000 in
theorem c_X4_anyOpen {G : GT} {ad : Nat → Nat} (a1 : Nat) (h1 : kap a1 = 3) (m : Mm) (K : Int32 → Mm → Prop) (h : wp_X4_anyOpen a1 m K) : Cn G yX4_anyOpen cX4_anyOpen 4 (some .boolean) (rmN 3 70) [.ref (ad 264), .ref (ad a1)] (0, 0) (fl ad m) (kI ad K) := by
  unfold wp_X4_anyOpen at h
  refine Cn.of pn_RX4 (Nat.le_of_ble_eq_true rfl) (fun X hG hX hR => ?_)
  subst hG
  have hX : Cx X cX4_anyOpen 4 RX4 (rmN 3 70) := hX
  show J X (0, 0) 0 [(0, .ref (ad 264)), (1, .ref (ad a1))] [] (fl ad m)
  refine J_iconst (v := (0 : Int32)) hX dX4_anyOpen_0 (by decide) ?_
  refine J_istore_n (lv2 := [(2, .int (0 : Int32)), (0, .ref (ad 264)), (1, .ref (ad a1))]) hX dX4_anyOpen_1 rfl (Nat.le_of_ble_eq_true rfl) rfl ?_
  refine J_sub [1, 2, 0] rfl (t_X4_anyOpen_l2 hX hR a1 h1 FU (0 : Int32) m h)
