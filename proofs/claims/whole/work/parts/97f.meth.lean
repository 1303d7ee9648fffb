set_option maxRecDepth 100000 in
theorem tb_X12_sideAxis_l10 {X : XT} {ad : Nat → Nat} {K : Int32 → Mm → Prop} (hX : Cx X cX12_sideAxis 6 RX12 (rmN 0 0)) (hR : Rx X (some .int) (kI ad K) (0, 0)) {rec : Int32 → Int32 → Mm → Prop} (x2 : Int32) (x3 : Int32) (hrec : ∀ (x4 : Int32) (x5 : Int32) (m : Mm), rec x4 x5 m → J X (0, 0) 10 [(0, .ref (ad 426)), (2, .int x2), (3, .int x3), (4, .int x4), (5, .int x5)] [] (fl ad m)) (x4 : Int32) (x5 : Int32) (m : Mm) (h : wb_X12_sideAxis_l10 rec K x2 x3 x4 x5 m) : J X (0, 0) 10 [(0, .ref (ad 426)), (2, .int x2), (3, .int x3), (4, .int x4), (5, .int x5)] [] (fl ad m) := by
  unfold wb_X12_sideAxis_l10 at h
  refine J_iload hX dX12_sideAxis_10 4 rfl ?_
  refine J_iconst (v := (3 : Int32)) hX dX12_sideAxis_12 (by decide) ?_
  refine J_icmp_ge (tgt := 61) hX dX12_sideAxis_13 (by decide) (fun c2 => ?_) (fun c2 => ?_)
  · replace h := Eq.mp (if_pos c2) h
    refine J_iload hX dX12_sideAxis_61 3 rfl ?_
    exact J_iret hX hR dX12_sideAxis_63 ⟨_, _, rfl, rfl, h⟩
  · replace h := Eq.mp (if_neg c2) h
    refine J_iload_n hX dX12_sideAxis_16 rfl 1 rfl ?_
    refine J_iconst (v := (2 : Int32)) hX dX12_sideAxis_17 (by decide) ?_
    refine J_irem hX dX12_sideAxis_18 (by decide) ?_
    obtain ⟨g6, h⟩ := h
    have hj11 : ∀ y7 : Int32, y7 = (if (rm32 x2 (2 : Int32)) = (0 : Int32) then (m.1 440 (x3 + x5).toNatClampNeg) else (m.1 441 (x3 + x5).toNatClampNeg)) → J X (0, 0) 43 [(0, .ref (ad 426)), (2, .int x2), (3, .int x3), (4, .int x4), (5, .int x5)] [.int y7] (fl ad m) := by
      intro y7 e_y7
      replace h := h y7 e_y7
      have hj10 : ∀ y9 : Int32, y9 = (if y7 = (0 : Int32) then x4 else x5) → J X (0, 0) 53 [(0, .ref (ad 426)), (2, .int x2), (3, .int x3), (5, .int x5)] [.int y9] (fl ad m) := by
        intro y9 e_y9
        replace h := h y9 e_y9
        refine J_istore (lv2 := [(4, .int y9), (0, .ref (ad 426)), (2, .int x2), (3, .int x3), (5, .int x5)]) hX dX12_sideAxis_53 (Nat.le_of_ble_eq_true rfl) rfl ?_
        refine J_iinc (x := (x5 + (1 : Int32))) (lv2 := [(5, .int (x5 + (1 : Int32))), (4, .int y9), (0, .ref (ad 426)), (2, .int x2), (3, .int x3)]) hX dX12_sideAxis_55 4 rfl rfl (Nat.le_of_ble_eq_true rfl) rfl ?_
        refine J_goto (tgt := 10) hX dX12_sideAxis_58 (by decide) ?_
        exact J_sub [2, 3, 4, 1, 0] rfl (hrec y9 (x5 + (1 : Int32)) m h)
      refine J_if_eq (tgt := 51) hX dX12_sideAxis_43 (by decide) (fun c8 => ?_) (fun c8 => ?_)
      · refine J_iload hX dX12_sideAxis_51 3 rfl ?_
        exact J_sub [0, 1, 2, 4] rfl (hj10 _ (if_pos c8).symm)
      · refine J_iload hX dX12_sideAxis_46 4 rfl ?_
        refine J_goto (tgt := 53) hX dX12_sideAxis_48 (by decide) ?_
        exact J_sub [0, 1, 2, 4] rfl (hj10 _ (if_neg c8).symm)
    have g12 := g6
    refine J_if_ne (tgt := 34) hX dX12_sideAxis_19 (by decide) (fun c3 => ?_) (fun c3 => ?_)
    · have b4 := g12
      refine J_aload_n hX dX12_sideAxis_34 rfl 0 rfl ?_
      refine J_getR hX kf_RX12_53 dX12_sideAxis_35 ka_426 (by decide) rfl rh_426_19 ?_
      refine J_iload_n hX dX12_sideAxis_38 rfl 2 rfl ?_
      refine J_iload hX dX12_sideAxis_39 4 rfl ?_
      refine J_iadd hX dX12_sideAxis_41 ?_
      refine J_iald (j := (x3 + x5).toNatClampNeg) hX dX12_sideAxis_42 ka_441 le_441 b4 rfl ?_
      exact J_sub [0, 1, 2, 3, 4] rfl (hj11 _ (if_neg c3).symm)
    · have b5 := g12
      refine J_aload_n hX dX12_sideAxis_22 rfl 0 rfl ?_
      refine J_getR hX kf_RX12_50 dX12_sideAxis_23 ka_426 (by decide) rfl rh_426_18 ?_
      refine J_iload_n hX dX12_sideAxis_26 rfl 2 rfl ?_
      refine J_iload hX dX12_sideAxis_27 4 rfl ?_
      refine J_iadd hX dX12_sideAxis_29 ?_
      refine J_iald (j := (x3 + x5).toNatClampNeg) hX dX12_sideAxis_30 ka_440 le_440 b5 rfl ?_
      refine J_goto (tgt := 43) hX dX12_sideAxis_31 (by decide) ?_
      exact J_sub [0, 1, 2, 3, 4] rfl (hj11 _ (if_pos c3).symm)
set_option maxRecDepth 100000 in
theorem t_X12_sideAxis_l10 {X : XT} {ad : Nat → Nat} {K : Int32 → Mm → Prop} (hX : Cx X cX12_sideAxis 6 RX12 (rmN 0 0)) (hR : Rx X (some .int) (kI ad K) (0, 0)) (x2 : Int32) (x3 : Int32) : ∀ (n : Nat) (x4 : Int32) (x5 : Int32) (m : Mm), wp_X12_sideAxis_l10 K x2 x3 n x4 x5 m → J X (0, 0) 10 [(0, .ref (ad 426)), (2, .int x2), (3, .int x3), (4, .int x4), (5, .int x5)] [] (fl ad m) := by
  intro n
  induction n with
  | zero => intro x4 x5 m h; exact h.elim
  | succ n ih => intro x4 x5 m h; exact tb_X12_sideAxis_l10 hX hR x2 x3 ih x4 x5 m h
set_option maxRecDepth 100000 in
theorem c_X12_sideAxis {G : GT} {ad : Nat → Nat} (x1 : Int32) (x2 : Int32) (m : Mm) (K : Int32 → Mm → Prop) (h : wp_X12_sideAxis x1 x2 m K) : Cn G yX12_sideAxis cX12_sideAxis 6 (some .int) (rmN 0 0) [.ref (ad 426), .int x1, .int x2] (0, 0) (fl ad m) (kI ad K) := by
  unfold wp_X12_sideAxis at h
  refine Cn.of pn_RX12 (Nat.le_of_ble_eq_true rfl) (fun X hG hX hR => ?_)
  subst hG
  have hX : Cx X cX12_sideAxis 6 RX12 (rmN 0 0) := hX
  show J X (0, 0) 0 [(0, .ref (ad 426)), (1, .int x1), (2, .int x2)] [] (fl ad m)
  refine J_iconst (v := (3 : Int32)) hX dX12_sideAxis_0 (by decide) ?_
  refine J_iload_n hX dX12_sideAxis_1 rfl 1 rfl ?_
  refine J_imul hX dX12_sideAxis_2 ?_
  refine J_nmI (fun y1 e_y1 => ?_)
  replace h := h y1 e_y1
  refine J_istore_n (lv2 := [(3, .int y1), (0, .ref (ad 426)), (1, .int x1), (2, .int x2)]) hX dX12_sideAxis_3 rfl (Nat.le_of_ble_eq_true rfl) rfl ?_
  refine J_iconst (v := (0 : Int32)) hX dX12_sideAxis_4 (by decide) ?_
  refine J_istore (lv2 := [(4, .int (0 : Int32)), (3, .int y1), (0, .ref (ad 426)), (1, .int x1), (2, .int x2)]) hX dX12_sideAxis_5 (Nat.le_of_ble_eq_true rfl) rfl ?_
  refine J_iconst (v := (0 : Int32)) hX dX12_sideAxis_7 (by decide) ?_
  refine J_istore (lv2 := [(5, .int (0 : Int32)), (4, .int (0 : Int32)), (3, .int y1), (0, .ref (ad 426)), (1, .int x1), (2, .int x2)]) hX dX12_sideAxis_8 (Nat.le_of_ble_eq_true rfl) rfl ?_
  refine J_sub [3, 5, 2, 1, 0] rfl (t_X12_sideAxis_l10 hX hR x2 y1 FU (0 : Int32) (0 : Int32) m h)
set_option maxRecDepth 100000 in
theorem c_X12_firstCorner {G : GT} {ad : Nat → Nat} (x0 : Int32) (m : Mm) : Cn G yX12_firstCorner cX12_firstCorner 1 (some .int) (rmN 0 0) [.int x0] (0, 0) (fl ad m) (fun v w => v = some (.int (v_X12_firstCorner x0)) ∧ w = fl ad m) := by
  refine Cn.of pn_RX12 (Nat.le_of_ble_eq_true rfl) (fun X hG hX hR => ?_)
  subst hG
  have hX : Cx X cX12_firstCorner 1 RX12 (rmN 0 0) := hX
  show J X (0, 0) 0 [(0, .int x0)] [] (fl ad m)
  refine J_iload_n hX dX12_firstCorner_0 rfl 0 rfl ?_
  refine J_iconst (v := (1 : Int32)) hX dX12_firstCorner_1 (by decide) ?_
  have hj3 : ∀ y4 : Int32, y4 = (if x0 = (1 : Int32) then (1 : Int32) else (if x0 = (2 : Int32) then (3 : Int32) else (0 : Int32))) → J X (0, 0) 19 [] [.int y4] (fl ad m) := by
    intro y4 e_y4
    subst e_y4
    exact J_iret hX hR dX12_firstCorner_19 (And.intro (congrArg (fun z => some (Value.int z)) (show (if x0 = (1 : Int32) then (1 : Int32) else (if x0 = (2 : Int32) then (3 : Int32) else (0 : Int32))) = v_X12_firstCorner x0 from rfl)) rfl)
  refine J_icmp_ne (tgt := 9) hX dX12_firstCorner_2 (by decide) (fun c1 => ?_) (fun c1 => ?_)
  · refine J_iload_n hX dX12_firstCorner_9 rfl 0 rfl ?_
    refine J_iconst (v := (2 : Int32)) hX dX12_firstCorner_10 (by decide) ?_
    refine J_icmp_ne (tgt := 18) hX dX12_firstCorner_11 (by decide) (fun c2 => ?_) (fun c2 => ?_)
    · refine J_iconst (v := (0 : Int32)) hX dX12_firstCorner_18 (by decide) ?_
      exact J_sub [] rfl (hj3 _ ((if_neg c1).trans (if_neg c2)).symm)
    · refine J_iconst (v := (3 : Int32)) hX dX12_firstCorner_14 (by decide) ?_
      refine J_goto (tgt := 19) hX dX12_firstCorner_15 (by decide) ?_
      exact J_sub [] rfl (hj3 _ ((if_neg c1).trans (if_pos c2)).symm)
  · refine J_iconst (v := (1 : Int32)) hX dX12_firstCorner_5 (by decide) ?_
    refine J_goto (tgt := 19) hX dX12_firstCorner_6 (by decide) ?_
    exact J_sub [] rfl (hj3 _ (if_pos c1).symm)
set_option maxRecDepth 100000 in
theorem c_X12_cornerOf {G : GT} {ad : Nat → Nat} (x1 : Int32) (x2 : Int32) (x3 : Int32) (m : Mm) (h : s_X12_cornerOf x1 x2 x3) : Cn G yX12_cornerOf cX12_cornerOf 5 (some .int) (rmN 0 0) [.ref (ad 426), .int x1, .int x2, .int x3] (0, 0) (fl ad m) (fun v w => v = some (.int (v_X12_cornerOf x1 x2 x3 m)) ∧ w = fl ad m) := by
  unfold s_X12_cornerOf at h
  refine Cn.of pn_RX12 (Nat.le_of_ble_eq_true rfl) (fun X hG hX hR => ?_)
  subst hG
  have hX : Cx X cX12_cornerOf 5 RX12 (rmN 0 0) := hX
  show J X (0, 0) 0 [(0, .ref (ad 426)), (1, .int x1), (2, .int x2), (3, .int x3)] [] (fl ad m)
  obtain ⟨b1, g8, g9⟩ := h
  refine J_iconst (v := (3 : Int32)) hX dX12_cornerOf_0 (by decide) ?_
  refine J_iload_n hX dX12_cornerOf_1 rfl 1 rfl ?_
  refine J_imul hX dX12_cornerOf_2 ?_
  refine J_iload_n hX dX12_cornerOf_3 rfl 3 rfl ?_
  refine J_iadd hX dX12_cornerOf_4 ?_
  refine J_istore (lv2 := [(4, .int (((3 : Int32) * x1) + x3)), (0, .ref (ad 426)), (1, .int x1), (2, .int x2), (3, .int x3)]) hX dX12_cornerOf_5 (Nat.le_of_ble_eq_true rfl) rfl ?_
  refine J_aload_n hX dX12_cornerOf_7 rfl 1 rfl ?_
  refine J_getR hX kf_RX12_47 dX12_cornerOf_8 ka_426 (by decide) rfl rh_426_17 ?_
  refine J_iload hX dX12_cornerOf_11 0 rfl ?_
  refine J_iald (j := (((3 : Int32) * x1) + x3).toNatClampNeg) hX dX12_cornerOf_13 ka_439 le_439 b1 rfl ?_
  refine J_iload_n hX dX12_cornerOf_14 rfl 3 rfl ?_
  refine J_iconst (v := (1 : Int32)) hX dX12_cornerOf_15 (by decide) ?_
  have hj10 : ∀ y11 : Int32, y11 = (if x2 = (1 : Int32) then ((m.1 434 x1.toNatClampNeg) * (m.1 440 (((3 : Int32) * x1) + x3).toNatClampNeg)) else (if x2 = (2 : Int32) then ((m.1 434 x1.toNatClampNeg) * (m.1 440 (((3 : Int32) * x1) + x3).toNatClampNeg)) else (0 : Int32))) → J X (0, 0) 42 [(0, .ref (ad 426)), (1, .int x1), (2, .int x2), (4, .int (((3 : Int32) * x1) + x3))] [.int y11, .int (m.1 439 (((3 : Int32) * x1) + x3).toNatClampNeg)] (fl ad m) := by
    intro y11 e_y11
    subst e_y11
    have g12 := g9
    refine J_iadd hX dX12_cornerOf_42 ?_
    refine J_iload_n hX dX12_cornerOf_43 rfl 2 rfl ?_
    refine J_iconst (v := (1 : Int32)) hX dX12_cornerOf_44 (by decide) ?_
    have hj13 : ∀ y14 : Int32, y14 = (if x2 ≤ (1 : Int32) then (0 : Int32) else ((m.1 435 x1.toNatClampNeg) * (m.1 441 (((3 : Int32) * x1) + x3).toNatClampNeg))) → J X (0, 0) 66 [] [.int y14, .int ((m.1 439 (((3 : Int32) * x1) + x3).toNatClampNeg) + (if x2 = (1 : Int32) then ((m.1 434 x1.toNatClampNeg) * (m.1 440 (((3 : Int32) * x1) + x3).toNatClampNeg)) else (if x2 = (2 : Int32) then ((m.1 434 x1.toNatClampNeg) * (m.1 440 (((3 : Int32) * x1) + x3).toNatClampNeg)) else (0 : Int32))))] (fl ad m) := by
      intro y14 e_y14
      subst e_y14
      refine J_iadd hX dX12_cornerOf_66 ?_
      exact J_iret hX hR dX12_cornerOf_67 (And.intro (congrArg (fun z => some (Value.int z)) (show (((m.1 439 (((3 : Int32) * x1) + x3).toNatClampNeg) + (if x2 = (1 : Int32) then ((m.1 434 x1.toNatClampNeg) * (m.1 440 (((3 : Int32) * x1) + x3).toNatClampNeg)) else (if x2 = (2 : Int32) then ((m.1 434 x1.toNatClampNeg) * (m.1 440 (((3 : Int32) * x1) + x3).toNatClampNeg)) else (0 : Int32)))) + (if x2 ≤ (1 : Int32) then (0 : Int32) else ((m.1 435 x1.toNatClampNeg) * (m.1 441 (((3 : Int32) * x1) + x3).toNatClampNeg)))) = v_X12_cornerOf x1 x2 x3 m from rfl)) rfl)
    have g15 := g12
    refine J_icmp_le (tgt := 65) hX dX12_cornerOf_45 (by decide) (fun c6 => ?_) (fun c6 => ?_)
    · refine J_iconst (v := (0 : Int32)) hX dX12_cornerOf_65 (by decide) ?_
      exact J_sub [] rfl (hj13 _ (if_pos c6).symm)
    · have g16 := g15 c6
      have b7 := g16
      refine J_aload_n hX dX12_cornerOf_48 rfl 0 rfl ?_
      refine J_getR hX kf_RX12_35 dX12_cornerOf_49 ka_426 (by decide) rfl rh_426_10 ?_
      refine J_iload_n hX dX12_cornerOf_52 rfl 1 rfl ?_
      refine J_iald (j := x1.toNatClampNeg) hX dX12_cornerOf_53 ka_435 le_435 b7 rfl ?_
      refine J_aload_n hX dX12_cornerOf_54 rfl 0 rfl ?_
      refine J_getR hX kf_RX12_53 dX12_cornerOf_55 ka_426 (by decide) rfl rh_426_19 ?_
      refine J_iload hX dX12_cornerOf_58 3 rfl ?_
      refine J_iald (j := (((3 : Int32) * x1) + x3).toNatClampNeg) hX dX12_cornerOf_60 ka_441 le_441 b1 rfl ?_
      refine J_imul hX dX12_cornerOf_61 ?_
      refine J_goto (tgt := 66) hX dX12_cornerOf_62 (by decide) ?_
      exact J_sub [] rfl (hj13 _ (if_neg c6).symm)
  obtain ⟨g17, g18⟩ := g8
  refine J_icmp_eq (tgt := 24) hX dX12_cornerOf_16 (by decide) (fun c2 => ?_) (fun c2 => ?_)
  · have g19 := g17 c2
    have b3 := g19
    refine J_aload_n hX dX12_cornerOf_24 rfl 1 rfl ?_
    refine J_getR hX kf_RX12_32 dX12_cornerOf_25 ka_426 (by decide) rfl rh_426_9 ?_
    refine J_iload_n hX dX12_cornerOf_28 rfl 2 rfl ?_
    refine J_iald (j := x1.toNatClampNeg) hX dX12_cornerOf_29 ka_434 le_434 b3 rfl ?_
    refine J_aload_n hX dX12_cornerOf_30 rfl 1 rfl ?_
    refine J_getR hX kf_RX12_50 dX12_cornerOf_31 ka_426 (by decide) rfl rh_426_18 ?_
    refine J_iload hX dX12_cornerOf_34 0 rfl ?_
    refine J_iald (j := (((3 : Int32) * x1) + x3).toNatClampNeg) hX dX12_cornerOf_36 ka_440 le_440 b1 rfl ?_
    refine J_imul hX dX12_cornerOf_37 ?_
    refine J_goto (tgt := 42) hX dX12_cornerOf_38 (by decide) ?_
    exact J_sub [1, 2, 3, 0] rfl (hj10 _ (if_pos c2).symm)
  · have g20 := g18 c2
    have g21 := g20
    refine J_iload_n hX dX12_cornerOf_19 rfl 3 rfl ?_
    refine J_iconst (v := (2 : Int32)) hX dX12_cornerOf_20 (by decide) ?_
    refine J_icmp_ne (tgt := 41) hX dX12_cornerOf_21 (by decide) (fun c4 => ?_) (fun c4 => ?_)
    · refine J_iconst (v := (0 : Int32)) hX dX12_cornerOf_41 (by decide) ?_
      exact J_sub [1, 2, 3, 0] rfl (hj10 _ ((if_neg c2).trans (if_neg c4)).symm)
    · have g22 := g21 c4
      have b5 := g22
      refine J_aload_n hX dX12_cornerOf_24 rfl 1 rfl ?_
      refine J_getR hX kf_RX12_32 dX12_cornerOf_25 ka_426 (by decide) rfl rh_426_9 ?_
      refine J_iload_n hX dX12_cornerOf_28 rfl 2 rfl ?_
      refine J_iald (j := x1.toNatClampNeg) hX dX12_cornerOf_29 ka_434 le_434 b5 rfl ?_
      refine J_aload_n hX dX12_cornerOf_30 rfl 1 rfl ?_
      refine J_getR hX kf_RX12_50 dX12_cornerOf_31 ka_426 (by decide) rfl rh_426_18 ?_
      refine J_iload hX dX12_cornerOf_34 0 rfl ?_
      refine J_iald (j := (((3 : Int32) * x1) + x3).toNatClampNeg) hX dX12_cornerOf_36 ka_440 le_440 b1 rfl ?_
      refine J_imul hX dX12_cornerOf_37 ?_
      refine J_goto (tgt := 42) hX dX12_cornerOf_38 (by decide) ?_
      exact J_sub [1, 2, 3, 0] rfl (hj10 _ ((if_neg c2).trans (if_pos c4)).symm)
set_option maxRecDepth 100000 in
theorem c_X12_lastCorner {G : GT} {ad : Nat → Nat} (x0 : Int32) (m : Mm) : Cn G yX12_lastCorner cX12_lastCorner 1 (some .int) (rmN 0 0) [.int x0] (0, 0) (fl ad m) (fun v w => v = some (.int (v_X12_lastCorner x0)) ∧ w = fl ad m) := by
  refine Cn.of pn_RX12 (Nat.le_of_ble_eq_true rfl) (fun X hG hX hR => ?_)
  subst hG
  have hX : Cx X cX12_lastCorner 1 RX12 (rmN 0 0) := hX
  show J X (0, 0) 0 [(0, .int x0)] [] (fl ad m)
  refine J_iload_n hX dX12_lastCorner_0 rfl 0 rfl ?_
  have hj3 : ∀ y4 : Int32, y4 = (if x0 = (0 : Int32) then (1 : Int32) else (if x0 = (3 : Int32) then (3 : Int32) else (2 : Int32))) → J X (0, 0) 18 [] [.int y4] (fl ad m) := by
    intro y4 e_y4
    subst e_y4
    exact J_iret hX hR dX12_lastCorner_18 (And.intro (congrArg (fun z => some (Value.int z)) (show (if x0 = (0 : Int32) then (1 : Int32) else (if x0 = (3 : Int32) then (3 : Int32) else (2 : Int32))) = v_X12_lastCorner x0 from rfl)) rfl)
  refine J_if_ne (tgt := 8) hX dX12_lastCorner_1 (by decide) (fun c1 => ?_) (fun c1 => ?_)
  · refine J_iload_n hX dX12_lastCorner_8 rfl 0 rfl ?_
    refine J_iconst (v := (3 : Int32)) hX dX12_lastCorner_9 (by decide) ?_
    refine J_icmp_ne (tgt := 17) hX dX12_lastCorner_10 (by decide) (fun c2 => ?_) (fun c2 => ?_)
    · refine J_iconst (v := (2 : Int32)) hX dX12_lastCorner_17 (by decide) ?_
      exact J_sub [] rfl (hj3 _ ((if_neg c1).trans (if_neg c2)).symm)
    · refine J_iconst (v := (3 : Int32)) hX dX12_lastCorner_13 (by decide) ?_
      refine J_goto (tgt := 18) hX dX12_lastCorner_14 (by decide) ?_
      exact J_sub [] rfl (hj3 _ ((if_neg c1).trans (if_pos c2)).symm)
  · refine J_iconst (v := (1 : Int32)) hX dX12_lastCorner_4 (by decide) ?_
    refine J_goto (tgt := 18) hX dX12_lastCorner_5 (by decide) ?_
    exact J_sub [] rfl (hj3 _ (if_pos c1).symm)
set_option maxRecDepth 100000 in
theorem c_X12_sideFrom {G : GT} {ad : Nat → Nat} (x1 : Int32) (x2 : Int32) (x3 : Int32) (m : Mm) (h : s_X12_sideFrom x1 x2 x3) : Cn G yX12_sideFrom cX12_sideFrom 4 (some .int) (rmN 1 24) [.ref (ad 426), .int x1, .int x2, .int x3] (0, 0) (fl ad m) (fun v w => v = some (.int (v_X12_sideFrom x1 x2 x3 m)) ∧ w = fl ad m) := by
  unfold s_X12_sideFrom at h
  refine Cn.of pn_RX12 (Nat.le_of_ble_eq_true rfl) (fun X hG hX hR => ?_)
  subst hG
  have hX : Cx X cX12_sideFrom 4 RX12 (rmN 1 24) := hX
  show J X (0, 0) 0 [(0, .ref (ad 426)), (1, .int x1), (2, .int x2), (3, .int x3)] [] (fl ad m)
  obtain ⟨b1, b2⟩ := h
  refine J_aload_n hX dX12_sideFrom_0 rfl 0 rfl ?_
  refine J_iload_n hX dX12_sideFrom_1 rfl 1 rfl ?_
  refine J_iload_n hX dX12_sideFrom_2 rfl 2 rfl ?_
  refine J_callS hX km_X12_firstCorner kl_RX12_225 dX12_sideFrom_3 [.int x2] ⟨Nat.le_of_ble_eq_true rfl, Nat.le_of_ble_eq_true rfl⟩ rfl rfl (Nat.le_of_ble_eq_true rfl) (c_X12_firstCorner x2 m) (fun v w2 hk => ?_)
  obtain ⟨rfl, rfl⟩ := hk
  show J X (0, 0) 6 [(0, .ref (ad 426)), (1, .int x1), (2, .int x2), (3, .int x3)] [.int (v_X12_firstCorner x2), .int x1, .ref (ad 426)] (fl ad m)
  refine J_iload_n hX dX12_sideFrom_6 rfl 3 rfl ?_
  refine J_callV hX km_X12_cornerOf kl_RX12_228 dX12_sideFrom_7 ka_426 (by decide) [.int x1, .int (v_X12_firstCorner x2), .int x3] ⟨Nat.le_of_ble_eq_true rfl, Nat.le_of_ble_eq_true rfl⟩ rfl rfl (Nat.le_of_ble_eq_true rfl) (c_X12_cornerOf x1 (v_X12_firstCorner x2) x3 m b1) (fun v w2 hk => ?_)
  obtain ⟨rfl, rfl⟩ := hk
  show J X (0, 0) 10 [(0, .ref (ad 426)), (1, .int x1), (2, .int x2), (3, .int x3)] [.int (v_X12_cornerOf x1 (v_X12_firstCorner x2) x3 m)] (fl ad m)
  refine J_aload_n hX dX12_sideFrom_10 rfl 0 rfl ?_
  refine J_iload_n hX dX12_sideFrom_11 rfl 1 rfl ?_
  refine J_iload_n hX dX12_sideFrom_12 rfl 2 rfl ?_
  refine J_callS hX km_X12_lastCorner kl_RX12_231 dX12_sideFrom_13 [.int x2] ⟨Nat.le_of_ble_eq_true rfl, Nat.le_of_ble_eq_true rfl⟩ rfl rfl (Nat.le_of_ble_eq_true rfl) (c_X12_lastCorner x2 m) (fun v w2 hk => ?_)
  obtain ⟨rfl, rfl⟩ := hk
  show J X (0, 0) 16 [(0, .ref (ad 426)), (1, .int x1), (2, .int x2), (3, .int x3)] [.int (v_X12_lastCorner x2), .int x1, .ref (ad 426), .int (v_X12_cornerOf x1 (v_X12_firstCorner x2) x3 m)] (fl ad m)
  refine J_iload_n hX dX12_sideFrom_16 rfl 3 rfl ?_
  refine J_callV hX km_X12_cornerOf kl_RX12_228 dX12_sideFrom_17 ka_426 (by decide) [.int x1, .int (v_X12_lastCorner x2), .int x3] ⟨Nat.le_of_ble_eq_true rfl, Nat.le_of_ble_eq_true rfl⟩ rfl rfl (Nat.le_of_ble_eq_true rfl) (c_X12_cornerOf x1 (v_X12_lastCorner x2) x3 m b2) (fun v w2 hk => ?_)
  obtain ⟨rfl, rfl⟩ := hk
  show J X (0, 0) 20 [(0, .ref (ad 426)), (1, .int x1), (2, .int x2), (3, .int x3)] [.int (v_X12_cornerOf x1 (v_X12_lastCorner x2) x3 m), .int (v_X12_cornerOf x1 (v_X12_firstCorner x2) x3 m)] (fl ad m)
  refine J_callS hX km_X12_least kl_RX12_110 dX12_sideFrom_20 [.int (v_X12_cornerOf x1 (v_X12_firstCorner x2) x3 m), .int (v_X12_cornerOf x1 (v_X12_lastCorner x2) x3 m)] ⟨Nat.le_of_ble_eq_true rfl, Nat.le_of_ble_eq_true rfl⟩ rfl rfl (Nat.le_of_ble_eq_true rfl) (c_X12_least (v_X12_cornerOf x1 (v_X12_firstCorner x2) x3 m) (v_X12_cornerOf x1 (v_X12_lastCorner x2) x3 m) m) (fun v w2 hk => ?_)
  obtain ⟨rfl, rfl⟩ := hk
  show J X (0, 0) 23 [(0, .ref (ad 426)), (1, .int x1), (2, .int x2), (3, .int x3)] [.int (v_X12_least (v_X12_cornerOf x1 (v_X12_firstCorner x2) x3 m) (v_X12_cornerOf x1 (v_X12_lastCorner x2) x3 m))] (fl ad m)
  exact J_iret hX hR dX12_sideFrom_23 (And.intro (congrArg (fun z => some (Value.int z)) (show (v_X12_least (v_X12_cornerOf x1 (v_X12_firstCorner x2) x3 m) (v_X12_cornerOf x1 (v_X12_lastCorner x2) x3 m)) = v_X12_sideFrom x1 x2 x3 m from rfl)) rfl)
set_option maxRecDepth 100000 in
theorem c_X12_sideTo {G : GT} {ad : Nat → Nat} (x1 : Int32) (x2 : Int32) (x3 : Int32) (m : Mm) (h : s_X12_sideTo x1 x2 x3) : Cn G yX12_sideTo cX12_sideTo 4 (some .int) (rmN 1 24) [.ref (ad 426), .int x1, .int x2, .int x3] (0, 0) (fl ad m) (fun v w => v = some (.int (v_X12_sideTo x1 x2 x3 m)) ∧ w = fl ad m) := by
  unfold s_X12_sideTo at h
  refine Cn.of pn_RX12 (Nat.le_of_ble_eq_true rfl) (fun X hG hX hR => ?_)
  subst hG
  have hX : Cx X cX12_sideTo 4 RX12 (rmN 1 24) := hX
  show J X (0, 0) 0 [(0, .ref (ad 426)), (1, .int x1), (2, .int x2), (3, .int x3)] [] (fl ad m)
  obtain ⟨b1, b2⟩ := h
  refine J_aload_n hX dX12_sideTo_0 rfl 0 rfl ?_
  refine J_iload_n hX dX12_sideTo_1 rfl 1 rfl ?_
  refine J_iload_n hX dX12_sideTo_2 rfl 2 rfl ?_
  refine J_callS hX km_X12_firstCorner kl_RX12_225 dX12_sideTo_3 [.int x2] ⟨Nat.le_of_ble_eq_true rfl, Nat.le_of_ble_eq_true rfl⟩ rfl rfl (Nat.le_of_ble_eq_true rfl) (c_X12_firstCorner x2 m) (fun v w2 hk => ?_)
  obtain ⟨rfl, rfl⟩ := hk
  show J X (0, 0) 6 [(0, .ref (ad 426)), (1, .int x1), (2, .int x2), (3, .int x3)] [.int (v_X12_firstCorner x2), .int x1, .ref (ad 426)] (fl ad m)
  refine J_iload_n hX dX12_sideTo_6 rfl 3 rfl ?_
  refine J_callV hX km_X12_cornerOf kl_RX12_228 dX12_sideTo_7 ka_426 (by decide) [.int x1, .int (v_X12_firstCorner x2), .int x3] ⟨Nat.le_of_ble_eq_true rfl, Nat.le_of_ble_eq_true rfl⟩ rfl rfl (Nat.le_of_ble_eq_true rfl) (c_X12_cornerOf x1 (v_X12_firstCorner x2) x3 m b1) (fun v w2 hk => ?_)
  obtain ⟨rfl, rfl⟩ := hk
  show J X (0, 0) 10 [(0, .ref (ad 426)), (1, .int x1), (2, .int x2), (3, .int x3)] [.int (v_X12_cornerOf x1 (v_X12_firstCorner x2) x3 m)] (fl ad m)
  refine J_aload_n hX dX12_sideTo_10 rfl 0 rfl ?_
  refine J_iload_n hX dX12_sideTo_11 rfl 1 rfl ?_
  refine J_iload_n hX dX12_sideTo_12 rfl 2 rfl ?_
  refine J_callS hX km_X12_lastCorner kl_RX12_231 dX12_sideTo_13 [.int x2] ⟨Nat.le_of_ble_eq_true rfl, Nat.le_of_ble_eq_true rfl⟩ rfl rfl (Nat.le_of_ble_eq_true rfl) (c_X12_lastCorner x2 m) (fun v w2 hk => ?_)
  obtain ⟨rfl, rfl⟩ := hk
  show J X (0, 0) 16 [(0, .ref (ad 426)), (1, .int x1), (2, .int x2), (3, .int x3)] [.int (v_X12_lastCorner x2), .int x1, .ref (ad 426), .int (v_X12_cornerOf x1 (v_X12_firstCorner x2) x3 m)] (fl ad m)
  refine J_iload_n hX dX12_sideTo_16 rfl 3 rfl ?_
  refine J_callV hX km_X12_cornerOf kl_RX12_228 dX12_sideTo_17 ka_426 (by decide) [.int x1, .int (v_X12_lastCorner x2), .int x3] ⟨Nat.le_of_ble_eq_true rfl, Nat.le_of_ble_eq_true rfl⟩ rfl rfl (Nat.le_of_ble_eq_true rfl) (c_X12_cornerOf x1 (v_X12_lastCorner x2) x3 m b2) (fun v w2 hk => ?_)
  obtain ⟨rfl, rfl⟩ := hk
  show J X (0, 0) 20 [(0, .ref (ad 426)), (1, .int x1), (2, .int x2), (3, .int x3)] [.int (v_X12_cornerOf x1 (v_X12_lastCorner x2) x3 m), .int (v_X12_cornerOf x1 (v_X12_firstCorner x2) x3 m)] (fl ad m)
  refine J_callS hX km_X12_most kl_RX12_113 dX12_sideTo_20 [.int (v_X12_cornerOf x1 (v_X12_firstCorner x2) x3 m), .int (v_X12_cornerOf x1 (v_X12_lastCorner x2) x3 m)] ⟨Nat.le_of_ble_eq_true rfl, Nat.le_of_ble_eq_true rfl⟩ rfl rfl (Nat.le_of_ble_eq_true rfl) (c_X12_most (v_X12_cornerOf x1 (v_X12_firstCorner x2) x3 m) (v_X12_cornerOf x1 (v_X12_lastCorner x2) x3 m) m) (fun v w2 hk => ?_)
  obtain ⟨rfl, rfl⟩ := hk
  show J X (0, 0) 23 [(0, .ref (ad 426)), (1, .int x1), (2, .int x2), (3, .int x3)] [.int (v_X12_most (v_X12_cornerOf x1 (v_X12_firstCorner x2) x3 m) (v_X12_cornerOf x1 (v_X12_lastCorner x2) x3 m))] (fl ad m)
  exact J_iret hX hR dX12_sideTo_23 (And.intro (congrArg (fun z => some (Value.int z)) (show (v_X12_most (v_X12_cornerOf x1 (v_X12_firstCorner x2) x3 m) (v_X12_cornerOf x1 (v_X12_lastCorner x2) x3 m)) = v_X12_sideTo x1 x2 x3 m from rfl)) rfl)
set_option maxRecDepth 100000 in
theorem tb_X12_meet_l27 {X : XT} {ad : Nat → Nat} {K : Mm → Prop} (hX : Cx X cX12_meet 11 RX12 (rmN 2 47)) (hR : Rx X none (kV ad K) (0, 0)) {rec : Int32 → Int32 → Mm → Prop} {k79 : Int32 → Mm → Prop} (x1 : Int32) (x2 : Int32) (x3 : Int32) (x4 : Int32) (x5 : Int32) (x6 : Int32) (hrec : ∀ (x7 : Int32) (x8 : Int32) (m : Mm), rec x7 x8 m → J X (0, 0) 27 [(0, .ref (ad 426)), (1, .int x1), (2, .int x2), (3, .int x3), (4, .int x4), (5, .int x5), (6, .int x6), (7, .int x7), (8, .int x8)] [] (fl ad m)) (hk79 : ∀ (z7 : Int32) (m : Mm), k79 z7 m → J X (0, 0) 79 [(0, .ref (ad 426)), (1, .int x1), (2, .int x2), (3, .int x3), (4, .int x4), (5, .int x5), (6, .int x6), (7, .int z7)] [] (fl ad m)) (x7 : Int32) (x8 : Int32) (m : Mm) (h : wb_X12_meet_l27 rec k79 K x1 x2 x3 x4 x5 x6 x7 x8 m) : J X (0, 0) 27 [(0, .ref (ad 426)), (1, .int x1), (2, .int x2), (3, .int x3), (4, .int x4), (5, .int x5), (6, .int x6), (7, .int x7), (8, .int x8)] [] (fl ad m) := by
  unfold wb_X12_meet_l27 at h
  refine J_iload hX dX12_meet_27 8 rfl ?_
  refine J_iconst (v := (3 : Int32)) hX dX12_meet_29 (by decide) ?_
  refine J_icmp_ge (tgt := 79) hX dX12_meet_30 (by decide) (fun c6 => ?_) (fun c6 => ?_)
  · replace h := Eq.mp (if_pos c6) h
    exact J_sub [0, 1, 2, 3, 4, 5, 6, 7] rfl (hk79 x7 m h)
  · replace h := Eq.mp (if_neg c6) h
    refine J_iload hX dX12_meet_33 8 rfl ?_
    refine J_iload hX dX12_meet_35 6 rfl ?_
    obtain ⟨g10, h⟩ := h
    have hj12 : ∀ y11 : Int32, y11 = (if x8 = x6 then x7 else (v_X12_most x7 (v_X12_amount ((v_X12_sideFrom x1 x2 x8 m) - (v_X12_sideFrom x3 x4 x8 m))))) → J X (0, 0) 71 [(0, .ref (ad 426)), (1, .int x1), (2, .int x2), (3, .int x3), (4, .int x4), (5, .int x5), (6, .int x6), (8, .int x8)] [.int y11] (fl ad m) := by
      intro y11 e_y11
      replace h := h y11 e_y11
      refine J_istore (lv2 := [(7, .int y11), (0, .ref (ad 426)), (1, .int x1), (2, .int x2), (3, .int x3), (4, .int x4), (5, .int x5), (6, .int x6), (8, .int x8)]) hX dX12_meet_71 (Nat.le_of_ble_eq_true rfl) rfl ?_
      refine J_iinc (x := (x8 + (1 : Int32))) (lv2 := [(8, .int (x8 + (1 : Int32))), (7, .int y11), (0, .ref (ad 426)), (1, .int x1), (2, .int x2), (3, .int x3), (4, .int x4), (5, .int x5), (6, .int x6)]) hX dX12_meet_73 8 rfl rfl (Nat.le_of_ble_eq_true rfl) rfl ?_
      refine J_goto (tgt := 27) hX dX12_meet_76 (by decide) ?_
      exact J_sub [2, 3, 4, 5, 6, 7, 8, 1, 0] rfl (hrec y11 (x8 + (1 : Int32)) m h)
    have g13 := g10
    refine J_icmp_ne (tgt := 45) hX dX12_meet_37 (by decide) (fun c7 => ?_) (fun c7 => ?_)
    · have g14 := g13 c7
      obtain ⟨b8, b9⟩ := g14
      refine J_iload hX dX12_meet_45 7 rfl ?_
      refine J_aload_n hX dX12_meet_47 rfl 0 rfl ?_
      refine J_iload_n hX dX12_meet_48 rfl 1 rfl ?_
      refine J_iload_n hX dX12_meet_49 rfl 2 rfl ?_
      refine J_iload hX dX12_meet_50 8 rfl ?_
      refine J_callV hX km_X12_sideFrom kl_RX12_237 dX12_meet_52 ka_426 (by decide) [.int x1, .int x2, .int x8] ⟨Nat.le_of_ble_eq_true rfl, Nat.le_of_ble_eq_true rfl⟩ rfl rfl (Nat.le_of_ble_eq_true rfl) (c_X12_sideFrom x1 x2 x8 m b8) (fun v w2 hk => ?_)
      obtain ⟨rfl, rfl⟩ := hk
      show J X (0, 0) 55 [(0, .ref (ad 426)), (1, .int x1), (2, .int x2), (3, .int x3), (4, .int x4), (5, .int x5), (6, .int x6), (7, .int x7), (8, .int x8)] [.int (v_X12_sideFrom x1 x2 x8 m), .int x7] (fl ad m)
      refine J_aload_n hX dX12_meet_55 rfl 0 rfl ?_
      refine J_iload_n hX dX12_meet_56 rfl 3 rfl ?_
      refine J_iload hX dX12_meet_57 4 rfl ?_
      refine J_iload hX dX12_meet_59 8 rfl ?_
      refine J_callV hX km_X12_sideFrom kl_RX12_237 dX12_meet_61 ka_426 (by decide) [.int x3, .int x4, .int x8] ⟨Nat.le_of_ble_eq_true rfl, Nat.le_of_ble_eq_true rfl⟩ rfl rfl (Nat.le_of_ble_eq_true rfl) (c_X12_sideFrom x3 x4 x8 m b9) (fun v w2 hk => ?_)
      obtain ⟨rfl, rfl⟩ := hk
      show J X (0, 0) 64 [(0, .ref (ad 426)), (1, .int x1), (2, .int x2), (3, .int x3), (4, .int x4), (5, .int x5), (6, .int x6), (7, .int x7), (8, .int x8)] [.int (v_X12_sideFrom x3 x4 x8 m), .int (v_X12_sideFrom x1 x2 x8 m), .int x7] (fl ad m)
      refine J_isub hX dX12_meet_64 ?_
      refine J_callS hX km_X12_amount kl_RX12_222 dX12_meet_65 [.int ((v_X12_sideFrom x1 x2 x8 m) - (v_X12_sideFrom x3 x4 x8 m))] ⟨Nat.le_of_ble_eq_true rfl, Nat.le_of_ble_eq_true rfl⟩ rfl rfl (Nat.le_of_ble_eq_true rfl) (c_X12_amount ((v_X12_sideFrom x1 x2 x8 m) - (v_X12_sideFrom x3 x4 x8 m)) m) (fun v w2 hk => ?_)
      obtain ⟨rfl, rfl⟩ := hk
      show J X (0, 0) 68 [(0, .ref (ad 426)), (1, .int x1), (2, .int x2), (3, .int x3), (4, .int x4), (5, .int x5), (6, .int x6), (7, .int x7), (8, .int x8)] [.int (v_X12_amount ((v_X12_sideFrom x1 x2 x8 m) - (v_X12_sideFrom x3 x4 x8 m))), .int x7] (fl ad m)
      refine J_callS hX km_X12_most kl_RX12_113 dX12_meet_68 [.int x7, .int (v_X12_amount ((v_X12_sideFrom x1 x2 x8 m) - (v_X12_sideFrom x3 x4 x8 m)))] ⟨Nat.le_of_ble_eq_true rfl, Nat.le_of_ble_eq_true rfl⟩ rfl rfl (Nat.le_of_ble_eq_true rfl) (c_X12_most x7 (v_X12_amount ((v_X12_sideFrom x1 x2 x8 m) - (v_X12_sideFrom x3 x4 x8 m))) m) (fun v w2 hk => ?_)
      obtain ⟨rfl, rfl⟩ := hk
      show J X (0, 0) 71 [(0, .ref (ad 426)), (1, .int x1), (2, .int x2), (3, .int x3), (4, .int x4), (5, .int x5), (6, .int x6), (7, .int x7), (8, .int x8)] [.int (v_X12_most x7 (v_X12_amount ((v_X12_sideFrom x1 x2 x8 m) - (v_X12_sideFrom x3 x4 x8 m))))] (fl ad m)
      exact J_sub [0, 1, 2, 3, 4, 5, 6, 8] rfl (hj12 _ (if_neg c7).symm)
    · refine J_iload hX dX12_meet_40 7 rfl ?_
      refine J_goto (tgt := 71) hX dX12_meet_42 (by decide) ?_
      exact J_sub [0, 1, 2, 3, 4, 5, 6, 8] rfl (hj12 _ (if_pos c7).symm)
set_option maxRecDepth 100000 in
theorem t_X12_meet_l27 {X : XT} {ad : Nat → Nat} {K : Mm → Prop} (hX : Cx X cX12_meet 11 RX12 (rmN 2 47)) (hR : Rx X none (kV ad K) (0, 0)) {k79 : Int32 → Mm → Prop} (x1 : Int32) (x2 : Int32) (x3 : Int32) (x4 : Int32) (x5 : Int32) (x6 : Int32) (hk79 : ∀ (z7 : Int32) (m : Mm), k79 z7 m → J X (0, 0) 79 [(0, .ref (ad 426)), (1, .int x1), (2, .int x2), (3, .int x3), (4, .int x4), (5, .int x5), (6, .int x6), (7, .int z7)] [] (fl ad m)) : ∀ (n : Nat) (x7 : Int32) (x8 : Int32) (m : Mm), wp_X12_meet_l27 k79 K x1 x2 x3 x4 x5 x6 n x7 x8 m → J X (0, 0) 27 [(0, .ref (ad 426)), (1, .int x1), (2, .int x2), (3, .int x3), (4, .int x4), (5, .int x5), (6, .int x6), (7, .int x7), (8, .int x8)] [] (fl ad m) := by
  intro n
  induction n with
  | zero => intro x7 x8 m h; exact h.elim
  | succ n ih => intro x7 x8 m h; exact tb_X12_meet_l27 hX hR x1 x2 x3 x4 x5 x6 ih hk79 x7 x8 m h
set_option maxRecDepth 100000 in
theorem c_X12_meet {G : GT} {ad : Nat → Nat} (x1 : Int32) (x2 : Int32) (x3 : Int32) (x4 : Int32) (x5 : Int32) (m : Mm) (K : Mm → Prop) (h : wp_X12_meet x1 x2 x3 x4 x5 m K) : Cn G yX12_meet cX12_meet 11 none (rmN 2 47) [.ref (ad 426), .int x1, .int x2, .int x3, .int x4, .int x5] (0, 0) (fl ad m) (kV ad K) := by
  unfold wp_X12_meet at h
  refine Cn.of pn_RX12 (Nat.le_of_ble_eq_true rfl) (fun X hG hX hR => ?_)
  subst hG
  have hX : Cx X cX12_meet 11 RX12 (rmN 2 47) := hX
  show J X (0, 0) 0 [(0, .ref (ad 426)), (1, .int x1), (2, .int x2), (3, .int x3), (4, .int x4), (5, .int x5)] [] (fl ad m)
  refine J_aload_n hX dX12_meet_0 rfl 0 rfl ?_
  refine J_iload_n hX dX12_meet_1 rfl 1 rfl ?_
  refine J_iload_n hX dX12_meet_2 rfl 2 rfl ?_
  refine J_callV hX km_X12_sideAxis kl_RX12_234 dX12_meet_3 ka_426 (by decide) [.int x1, .int x2] ⟨Nat.le_of_ble_eq_true rfl, Nat.le_of_ble_eq_true rfl⟩ rfl rfl (Nat.le_of_ble_eq_true rfl) (c_X12_sideAxis x1 x2 m _ h) (fun v w2 hk => ?_)
  obtain ⟨y2, m1, rfl, rfl, h⟩ := hk
  show J X (0, 0) 6 [(0, .ref (ad 426)), (1, .int x1), (2, .int x2), (3, .int x3), (4, .int x4), (5, .int x5)] [.int y2] (fl ad m1)
  refine J_istore (lv2 := [(6, .int y2), (0, .ref (ad 426)), (1, .int x1), (2, .int x2), (3, .int x3), (4, .int x4), (5, .int x5)]) hX dX12_meet_6 (Nat.le_of_ble_eq_true rfl) rfl ?_
  refine J_iload hX dX12_meet_8 0 rfl ?_
  refine J_aload_n hX dX12_meet_10 rfl 1 rfl ?_
  refine J_iload_n hX dX12_meet_11 rfl 4 rfl ?_
  refine J_iload hX dX12_meet_12 5 rfl ?_
  refine J_callV hX km_X12_sideAxis kl_RX12_234 dX12_meet_14 ka_426 (by decide) [.int x3, .int x4] ⟨Nat.le_of_ble_eq_true rfl, Nat.le_of_ble_eq_true rfl⟩ rfl rfl (Nat.le_of_ble_eq_true rfl) (c_X12_sideAxis x3 x4 m1 _ h) (fun v w2 hk => ?_)
  obtain ⟨y4, m3, rfl, rfl, h⟩ := hk
  show J X (0, 0) 17 [(6, .int y2), (0, .ref (ad 426)), (1, .int x1), (2, .int x2), (3, .int x3), (4, .int x4), (5, .int x5)] [.int y4, .int y2] (fl ad m3)
  refine J_icmp_eq (tgt := 21) hX dX12_meet_17 (by decide) (fun c5 => ?_) (fun c5 => ?_)
  · replace h := Eq.mp (if_pos c5) h
    refine J_iconst (v := (0 : Int32)) hX dX12_meet_21 (by decide) ?_
    refine J_istore (lv2 := [(7, .int (0 : Int32)), (6, .int y2), (0, .ref (ad 426)), (1, .int x1), (2, .int x2), (3, .int x3), (4, .int x4), (5, .int x5)]) hX dX12_meet_22 (Nat.le_of_ble_eq_true rfl) rfl ?_
    refine J_iconst (v := (0 : Int32)) hX dX12_meet_24 (by decide) ?_
    refine J_istore (lv2 := [(8, .int (0 : Int32)), (7, .int (0 : Int32)), (6, .int y2), (0, .ref (ad 426)), (1, .int x1), (2, .int x2), (3, .int x3), (4, .int x4), (5, .int x5)]) hX dX12_meet_25 (Nat.le_of_ble_eq_true rfl) rfl ?_
    refine J_sub [3, 4, 5, 6, 7, 8, 2, 1, 0] rfl (t_X12_meet_l27 hX hR x1 x2 x3 x4 x5 y2 (fun y15 m16 h => ?_) FU (0 : Int32) (0 : Int32) m3 h)
    refine J_aload_n hX dX12_meet_79 rfl 0 rfl ?_
    refine J_iload_n hX dX12_meet_80 rfl 1 rfl ?_
    refine J_iload_n hX dX12_meet_81 rfl 2 rfl ?_
    refine J_iload hX dX12_meet_82 6 rfl ?_
    obtain ⟨b17, h⟩ := h
    refine J_callV hX km_X12_sideFrom kl_RX12_237 dX12_meet_84 ka_426 (by decide) [.int x1, .int x2, .int y2] ⟨Nat.le_of_ble_eq_true rfl, Nat.le_of_ble_eq_true rfl⟩ rfl rfl (Nat.le_of_ble_eq_true rfl) (c_X12_sideFrom x1 x2 y2 m16 b17) (fun v w2 hk => ?_)
    obtain ⟨rfl, rfl⟩ := hk
    show J X (0, 0) 87 [(0, .ref (ad 426)), (1, .int x1), (2, .int x2), (3, .int x3), (4, .int x4), (5, .int x5), (6, .int y2), (7, .int y15)] [.int (v_X12_sideFrom x1 x2 y2 m16)] (fl ad m16)
    refine J_aload_n hX dX12_meet_87 rfl 0 rfl ?_
    refine J_iload_n hX dX12_meet_88 rfl 3 rfl ?_
    refine J_iload hX dX12_meet_89 4 rfl ?_
    refine J_iload hX dX12_meet_91 6 rfl ?_
    obtain ⟨b18, h⟩ := h
    refine J_callV hX km_X12_sideFrom kl_RX12_237 dX12_meet_93 ka_426 (by decide) [.int x3, .int x4, .int y2] ⟨Nat.le_of_ble_eq_true rfl, Nat.le_of_ble_eq_true rfl⟩ rfl rfl (Nat.le_of_ble_eq_true rfl) (c_X12_sideFrom x3 x4 y2 m16 b18) (fun v w2 hk => ?_)
    obtain ⟨rfl, rfl⟩ := hk
    show J X (0, 0) 96 [(0, .ref (ad 426)), (1, .int x1), (2, .int x2), (3, .int x3), (4, .int x4), (5, .int x5), (6, .int y2), (7, .int y15)] [.int (v_X12_sideFrom x3 x4 y2 m16), .int (v_X12_sideFrom x1 x2 y2 m16)] (fl ad m16)
    refine J_callS hX km_X12_most kl_RX12_113 dX12_meet_96 [.int (v_X12_sideFrom x1 x2 y2 m16), .int (v_X12_sideFrom x3 x4 y2 m16)] ⟨Nat.le_of_ble_eq_true rfl, Nat.le_of_ble_eq_true rfl⟩ rfl rfl (Nat.le_of_ble_eq_true rfl) (c_X12_most (v_X12_sideFrom x1 x2 y2 m16) (v_X12_sideFrom x3 x4 y2 m16) m16) (fun v w2 hk => ?_)
    obtain ⟨rfl, rfl⟩ := hk
    show J X (0, 0) 99 [(0, .ref (ad 426)), (1, .int x1), (2, .int x2), (3, .int x3), (4, .int x4), (5, .int x5), (6, .int y2), (7, .int y15)] [.int (v_X12_most (v_X12_sideFrom x1 x2 y2 m16) (v_X12_sideFrom x3 x4 y2 m16))] (fl ad m16)
    refine J_nmI (fun y19 e_y19 => ?_)
    replace h := h y19 e_y19
    refine J_istore (lv2 := [(8, .int y19), (0, .ref (ad 426)), (1, .int x1), (2, .int x2), (3, .int x3), (4, .int x4), (5, .int x5), (6, .int y2), (7, .int y15)]) hX dX12_meet_99 (Nat.le_of_ble_eq_true rfl) rfl ?_
    refine J_aload_n hX dX12_meet_101 rfl 1 rfl ?_
    refine J_iload_n hX dX12_meet_102 rfl 2 rfl ?_
    refine J_iload_n hX dX12_meet_103 rfl 3 rfl ?_
    refine J_iload hX dX12_meet_104 7 rfl ?_
    obtain ⟨b20, h⟩ := h
    refine J_callV hX km_X12_sideTo kl_RX12_240 dX12_meet_106 ka_426 (by decide) [.int x1, .int x2, .int y2] ⟨Nat.le_of_ble_eq_true rfl, Nat.le_of_ble_eq_true rfl⟩ rfl rfl (Nat.le_of_ble_eq_true rfl) (c_X12_sideTo x1 x2 y2 m16 b20) (fun v w2 hk => ?_)
    obtain ⟨rfl, rfl⟩ := hk
    show J X (0, 0) 109 [(8, .int y19), (0, .ref (ad 426)), (1, .int x1), (2, .int x2), (3, .int x3), (4, .int x4), (5, .int x5), (6, .int y2), (7, .int y15)] [.int (v_X12_sideTo x1 x2 y2 m16)] (fl ad m16)
    refine J_aload_n hX dX12_meet_109 rfl 1 rfl ?_
    refine J_iload_n hX dX12_meet_110 rfl 4 rfl ?_
    refine J_iload hX dX12_meet_111 5 rfl ?_
    refine J_iload hX dX12_meet_113 7 rfl ?_
    obtain ⟨b21, h⟩ := h
    refine J_callV hX km_X12_sideTo kl_RX12_240 dX12_meet_115 ka_426 (by decide) [.int x3, .int x4, .int y2] ⟨Nat.le_of_ble_eq_true rfl, Nat.le_of_ble_eq_true rfl⟩ rfl rfl (Nat.le_of_ble_eq_true rfl) (c_X12_sideTo x3 x4 y2 m16 b21) (fun v w2 hk => ?_)
    obtain ⟨rfl, rfl⟩ := hk
    show J X (0, 0) 118 [(8, .int y19), (0, .ref (ad 426)), (1, .int x1), (2, .int x2), (3, .int x3), (4, .int x4), (5, .int x5), (6, .int y2), (7, .int y15)] [.int (v_X12_sideTo x3 x4 y2 m16), .int (v_X12_sideTo x1 x2 y2 m16)] (fl ad m16)
    refine J_callS hX km_X12_least kl_RX12_110 dX12_meet_118 [.int (v_X12_sideTo x1 x2 y2 m16), .int (v_X12_sideTo x3 x4 y2 m16)] ⟨Nat.le_of_ble_eq_true rfl, Nat.le_of_ble_eq_true rfl⟩ rfl rfl (Nat.le_of_ble_eq_true rfl) (c_X12_least (v_X12_sideTo x1 x2 y2 m16) (v_X12_sideTo x3 x4 y2 m16) m16) (fun v w2 hk => ?_)
    obtain ⟨rfl, rfl⟩ := hk
    show J X (0, 0) 121 [(8, .int y19), (0, .ref (ad 426)), (1, .int x1), (2, .int x2), (3, .int x3), (4, .int x4), (5, .int x5), (6, .int y2), (7, .int y15)] [.int (v_X12_least (v_X12_sideTo x1 x2 y2 m16) (v_X12_sideTo x3 x4 y2 m16))] (fl ad m16)
    refine J_nmI (fun y22 e_y22 => ?_)
    replace h := h y22 e_y22
    refine J_istore (lv2 := [(9, .int y22), (8, .int y19), (0, .ref (ad 426)), (1, .int x1), (2, .int x2), (3, .int x3), (4, .int x4), (5, .int x5), (6, .int y2), (7, .int y15)]) hX dX12_meet_121 (Nat.le_of_ble_eq_true rfl) rfl ?_
    refine J_iload hX dX12_meet_123 9 rfl ?_
    refine J_iload hX dX12_meet_125 7 rfl ?_
    refine J_icmp_gt (tgt := 139) hX dX12_meet_127 (by decide) (fun c23 => ?_) (fun c23 => ?_)
    · replace h := Eq.mp (if_pos c23) h
      exact J_vret hX hR dX12_meet_139 ⟨_, rfl, rfl, h⟩
    · replace h := Eq.mp (if_neg c23) h
      refine J_iload hX dX12_meet_130 0 rfl ?_
      refine J_iload hX dX12_meet_132 1 rfl ?_
      refine J_isub hX dX12_meet_134 ?_
      refine J_iconst (v := (1 : Int32)) hX dX12_meet_135 (by decide) ?_
      refine J_icmp_ge (tgt := 140) hX dX12_meet_136 (by decide) (fun c24 => ?_) (fun c24 => ?_)
      · replace h := Eq.mp (if_pos c24) h
        refine J_bipush (v := (9 : Int32)) hX dX12_meet_140 (by decide) ?_
        refine J_aload_n hX dX12_meet_142 rfl 2 rfl ?_
        refine J_getI hX kf_RX12_243 dX12_meet_143 ka_426 (by decide) rfl ?_
        refine J_imul hX dX12_meet_146 ?_
        refine J_nmI (fun y25 e_y25 => ?_)
        replace h := h y25 e_y25
        refine J_istore (lv2 := [(10, .int y25), (9, .int y22), (8, .int y19), (0, .ref (ad 426)), (1, .int x1), (2, .int x2), (3, .int x3), (4, .int x4), (5, .int x5), (6, .int y2), (7, .int y15)]) hX dX12_meet_147 (Nat.le_of_ble_eq_true rfl) rfl ?_
        refine J_aload_n hX dX12_meet_149 rfl 3 rfl ?_
        refine J_getR hX kf_RX12_68 dX12_meet_150 ka_426 (by decide) rfl rh_426_24 ?_
        refine J_iload hX dX12_meet_153 0 rfl ?_
        refine J_iload_n hX dX12_meet_155 rfl 4 rfl ?_
        obtain ⟨b26, h⟩ := h
        refine J_iast (j := y25.toNatClampNeg) hX dX12_meet_156 ka_446 le_446 b26 rfl ?_
        refine J_nmM (fun m27 e_m27 => ?_)
        replace h := h m27 e_m27
        refine J_aload_n hX dX12_meet_157 rfl 3 rfl ?_
        refine J_getR hX kf_RX12_68 dX12_meet_158 ka_426 (by decide) rfl rh_426_24 ?_
        refine J_iload hX dX12_meet_161 0 rfl ?_
        refine J_iconst (v := (1 : Int32)) hX dX12_meet_163 (by decide) ?_
        refine J_iadd hX dX12_meet_164 ?_
        refine J_iload_n hX dX12_meet_165 rfl 5 rfl ?_
        obtain ⟨b28, h⟩ := h
        refine J_iast (j := (y25 + (1 : Int32)).toNatClampNeg) hX dX12_meet_166 ka_446 le_446 b28 rfl ?_
        refine J_nmM (fun m29 e_m29 => ?_)
        replace h := h m29 e_m29
        refine J_aload_n hX dX12_meet_167 rfl 3 rfl ?_
        refine J_getR hX kf_RX12_68 dX12_meet_168 ka_426 (by decide) rfl rh_426_24 ?_
        refine J_iload hX dX12_meet_171 0 rfl ?_
        refine J_iconst (v := (2 : Int32)) hX dX12_meet_173 (by decide) ?_
        refine J_iadd hX dX12_meet_174 ?_
        refine J_iload_n hX dX12_meet_175 rfl 6 rfl ?_
        obtain ⟨b30, h⟩ := h
        refine J_iast (j := (y25 + (2 : Int32)).toNatClampNeg) hX dX12_meet_176 ka_446 le_446 b30 rfl ?_
        refine J_nmM (fun m31 e_m31 => ?_)
        replace h := h m31 e_m31
        refine J_aload_n hX dX12_meet_177 rfl 3 rfl ?_
        refine J_getR hX kf_RX12_68 dX12_meet_178 ka_426 (by decide) rfl rh_426_24 ?_
        refine J_iload hX dX12_meet_181 0 rfl ?_
        refine J_iconst (v := (3 : Int32)) hX dX12_meet_183 (by decide) ?_
        refine J_iadd hX dX12_meet_184 ?_
        refine J_iload hX dX12_meet_185 7 rfl ?_
        obtain ⟨b32, h⟩ := h
        refine J_iast (j := (y25 + (3 : Int32)).toNatClampNeg) hX dX12_meet_187 ka_446 le_446 b32 rfl ?_
        refine J_nmM (fun m33 e_m33 => ?_)
        replace h := h m33 e_m33
        refine J_aload_n hX dX12_meet_188 rfl 3 rfl ?_
        refine J_getR hX kf_RX12_68 dX12_meet_189 ka_426 (by decide) rfl rh_426_24 ?_
        refine J_iload hX dX12_meet_192 0 rfl ?_
        refine J_iconst (v := (4 : Int32)) hX dX12_meet_194 (by decide) ?_
        refine J_iadd hX dX12_meet_195 ?_
        refine J_iload hX dX12_meet_196 9 rfl ?_
        obtain ⟨b34, h⟩ := h
        refine J_iast (j := (y25 + (4 : Int32)).toNatClampNeg) hX dX12_meet_198 ka_446 le_446 b34 rfl ?_
        refine J_nmM (fun m35 e_m35 => ?_)
        replace h := h m35 e_m35
        refine J_aload_n hX dX12_meet_199 rfl 3 rfl ?_
        refine J_getR hX kf_RX12_68 dX12_meet_200 ka_426 (by decide) rfl rh_426_24 ?_
        refine J_iload hX dX12_meet_203 0 rfl ?_
        refine J_iconst (v := (5 : Int32)) hX dX12_meet_205 (by decide) ?_
        refine J_iadd hX dX12_meet_206 ?_
        refine J_iload hX dX12_meet_207 2 rfl ?_
        obtain ⟨b36, h⟩ := h
        refine J_iast (j := (y25 + (5 : Int32)).toNatClampNeg) hX dX12_meet_209 ka_446 le_446 b36 rfl ?_
        refine J_nmM (fun m37 e_m37 => ?_)
        replace h := h m37 e_m37
        refine J_aload_n hX dX12_meet_210 rfl 3 rfl ?_
        refine J_getR hX kf_RX12_68 dX12_meet_211 ka_426 (by decide) rfl rh_426_24 ?_
        refine J_iload hX dX12_meet_214 0 rfl ?_
        refine J_bipush (v := (6 : Int32)) hX dX12_meet_216 (by decide) ?_
        refine J_iadd hX dX12_meet_218 ?_
        refine J_iload hX dX12_meet_219 1 rfl ?_
        obtain ⟨b38, h⟩ := h
        refine J_iast (j := (y25 + (6 : Int32)).toNatClampNeg) hX dX12_meet_221 ka_446 le_446 b38 rfl ?_
        refine J_nmM (fun m39 e_m39 => ?_)
        replace h := h m39 e_m39
        refine J_aload_n hX dX12_meet_222 rfl 3 rfl ?_
        refine J_getR hX kf_RX12_68 dX12_meet_223 ka_426 (by decide) rfl rh_426_24 ?_
        refine J_iload hX dX12_meet_226 0 rfl ?_
        refine J_bipush (v := (7 : Int32)) hX dX12_meet_228 (by decide) ?_
        refine J_iadd hX dX12_meet_230 ?_
        refine J_iload hX dX12_meet_231 10 rfl ?_
        obtain ⟨b40, h⟩ := h
        refine J_iast (j := (y25 + (7 : Int32)).toNatClampNeg) hX dX12_meet_233 ka_446 le_446 b40 rfl ?_
        refine J_nmM (fun m41 e_m41 => ?_)
        replace h := h m41 e_m41
        refine J_aload_n hX dX12_meet_234 rfl 3 rfl ?_
        refine J_getR hX kf_RX12_68 dX12_meet_235 ka_426 (by decide) rfl rh_426_24 ?_
        refine J_iload hX dX12_meet_238 0 rfl ?_
        refine J_bipush (v := (8 : Int32)) hX dX12_meet_240 (by decide) ?_
        refine J_iadd hX dX12_meet_242 ?_
        refine J_iload_n hX dX12_meet_243 rfl 6 rfl ?_
        obtain ⟨g48, h⟩ := h
        have hj53 : ∀ y49 : Int32, y49 = (if x3 ≤ (0 : Int32) then (0 : Int32) else (if (v_X12_of x3 (0 : Int32) m41) = x1 then (if (v_X12_of x3 (1 : Int32) m41) = x2 then (if (rm32 (x2 + (2 : Int32)) (4 : Int32)) = x4 then (1 : Int32) else (0 : Int32)) else (0 : Int32)) else (0 : Int32))) → J X (0, 0) 282 [(0, .ref (ad 426))] [.int y49, .int (y25 + (8 : Int32)), .ref (ad 446)] (fl ad m41) := by
          intro y49 e_y49
          replace h := h y49 e_y49
          obtain ⟨b50, h⟩ := h
          refine J_iast (j := (y25 + (8 : Int32)).toNatClampNeg) hX dX12_meet_282 ka_446 le_446 b50 rfl ?_
          refine J_nmM (fun m51 e_m51 => ?_)
          replace h := h m51 e_m51
          refine J_aload_n hX dX12_meet_283 rfl 0 rfl ?_
          refine J_dup hX dX12_meet_284 rfl ?_
          refine J_getI hX kf_RX12_243 dX12_meet_285 ka_426 (by decide) rfl ?_
          refine J_iconst (v := (1 : Int32)) hX dX12_meet_288 (by decide) ?_
          refine J_iadd hX dX12_meet_289 ?_
          refine J_putI hX kf_RX12_243 dX12_meet_290 ka_426 (by decide) rfl ?_
          refine J_nmM (fun m52 e_m52 => ?_)
          replace h := h m52 e_m52
          exact J_vret hX hR dX12_meet_293 ⟨_, rfl, rfl, h⟩
        have g54 := g48
        refine J_if_le (tgt := 281) hX dX12_meet_244 (by decide) (fun c42 => ?_) (fun c42 => ?_)
        · refine J_iconst (v := (0 : Int32)) hX dX12_meet_281 (by decide) ?_
          exact J_sub [3] rfl (hj53 _ (if_pos c42).symm)
        · have g55 := g54 c42
          obtain ⟨b43, g56⟩ := g55
          refine J_aload_n hX dX12_meet_247 rfl 3 rfl ?_
          refine J_iload_n hX dX12_meet_248 rfl 6 rfl ?_
          refine J_iconst (v := (0 : Int32)) hX dX12_meet_249 (by decide) ?_
          refine J_callV hX km_X12_of kl_RX12_91 dX12_meet_250 ka_426 (by decide) [.int x3, .int (0 : Int32)] ⟨Nat.le_of_ble_eq_true rfl, Nat.le_of_ble_eq_true rfl⟩ rfl rfl (Nat.le_of_ble_eq_true rfl) (c_X12_of x3 (0 : Int32) m41 b43) (fun v w2 hk => ?_)
          obtain ⟨rfl, rfl⟩ := hk
          show J X (0, 0) 253 [(10, .int y25), (9, .int y22), (8, .int y19), (0, .ref (ad 426)), (1, .int x1), (2, .int x2), (3, .int x3), (4, .int x4), (5, .int x5), (6, .int y2), (7, .int y15)] [.int (v_X12_of x3 (0 : Int32) m41), .int (y25 + (8 : Int32)), .ref (ad 446)] (fl ad m41)
          refine J_iload_n hX dX12_meet_253 rfl 4 rfl ?_
          refine J_icmp_ne (tgt := 281) hX dX12_meet_254 (by decide) (fun c44 => ?_) (fun c44 => ?_)
          · refine J_iconst (v := (0 : Int32)) hX dX12_meet_281 (by decide) ?_
            exact J_sub [3] rfl (hj53 _ ((if_neg c42).trans (if_neg c44)).symm)
          · have g57 := g56 c44
            have b45 := g57
            refine J_aload_n hX dX12_meet_257 rfl 3 rfl ?_
            refine J_iload_n hX dX12_meet_258 rfl 6 rfl ?_
            refine J_iconst (v := (1 : Int32)) hX dX12_meet_259 (by decide) ?_
            refine J_callV hX km_X12_of kl_RX12_91 dX12_meet_260 ka_426 (by decide) [.int x3, .int (1 : Int32)] ⟨Nat.le_of_ble_eq_true rfl, Nat.le_of_ble_eq_true rfl⟩ rfl rfl (Nat.le_of_ble_eq_true rfl) (c_X12_of x3 (1 : Int32) m41 b45) (fun v w2 hk => ?_)
            obtain ⟨rfl, rfl⟩ := hk
            show J X (0, 0) 263 [(10, .int y25), (9, .int y22), (8, .int y19), (0, .ref (ad 426)), (1, .int x1), (2, .int x2), (3, .int x3), (4, .int x4), (5, .int x5), (6, .int y2), (7, .int y15)] [.int (v_X12_of x3 (1 : Int32) m41), .int (y25 + (8 : Int32)), .ref (ad 446)] (fl ad m41)
            refine J_iload_n hX dX12_meet_263 rfl 5 rfl ?_
            refine J_icmp_ne (tgt := 281) hX dX12_meet_264 (by decide) (fun c46 => ?_) (fun c46 => ?_)
            · refine J_iconst (v := (0 : Int32)) hX dX12_meet_281 (by decide) ?_
              exact J_sub [3] rfl (hj53 _ ((if_neg c42).trans ((if_pos c44).trans (if_neg c46))).symm)
            · refine J_iload_n hX dX12_meet_267 rfl 5 rfl ?_
              refine J_iconst (v := (2 : Int32)) hX dX12_meet_268 (by decide) ?_
              refine J_iadd hX dX12_meet_269 ?_
              refine J_iconst (v := (4 : Int32)) hX dX12_meet_270 (by decide) ?_
              refine J_irem hX dX12_meet_271 (by decide) ?_
              refine J_iload hX dX12_meet_272 7 rfl ?_
              refine J_icmp_ne (tgt := 281) hX dX12_meet_274 (by decide) (fun c47 => ?_) (fun c47 => ?_)
              · refine J_iconst (v := (0 : Int32)) hX dX12_meet_281 (by decide) ?_
                exact J_sub [3] rfl (hj53 _ ((if_neg c42).trans ((if_pos c44).trans ((if_pos c46).trans (if_neg c47)))).symm)
              · refine J_iconst (v := (1 : Int32)) hX dX12_meet_277 (by decide) ?_
                refine J_goto (tgt := 282) hX dX12_meet_278 (by decide) ?_
                exact J_sub [3] rfl (hj53 _ ((if_neg c42).trans ((if_pos c44).trans ((if_pos c46).trans (if_pos c47)))).symm)
      · replace h := Eq.mp (if_neg c24) h
        exact J_vret hX hR dX12_meet_139 ⟨_, rfl, rfl, h⟩
  · replace h := Eq.mp (if_neg c5) h
    exact J_vret hX hR dX12_meet_20 ⟨_, rfl, rfl, h⟩
set_option maxRecDepth 100000 in
theorem tb_X12_findSeams_l44 {X : XT} {ad : Nat → Nat} {K : Mm → Prop} (hX : Cx X cX12_findSeams 6 RX12 (rmN 3 78)) (hR : Rx X none (kV ad K) (0, 0)) {rec : Int32 → Mm → Prop} {k32 : Int32 → Mm → Prop} (x1 : Int32) (x2 : Int32) (x3 : Int32) (x4 : Int32) (hrec : ∀ (x5 : Int32) (m : Mm), rec x5 m → J X (0, 0) 44 [(0, .ref (ad 426)), (1, .int x1), (2, .int x2), (3, .int x3), (4, .int x4), (5, .int x5)] [] (fl ad m)) (hk32 : ∀ (z4 : Int32) (m : Mm), k32 z4 m → J X (0, 0) 32 [(0, .ref (ad 426)), (1, .int x1), (2, .int x2), (3, .int x3), (4, .int z4)] [] (fl ad m)) (x5 : Int32) (m : Mm) (h : wb_X12_findSeams_l44 rec k32 K x1 x2 x3 x4 x5 m) : J X (0, 0) 44 [(0, .ref (ad 426)), (1, .int x1), (2, .int x2), (3, .int x3), (4, .int x4), (5, .int x5)] [] (fl ad m) := by
  unfold wb_X12_findSeams_l44 at h
  refine J_iload hX dX12_findSeams_44 5 rfl ?_
  refine J_iconst (v := (4 : Int32)) hX dX12_findSeams_46 (by decide) ?_
  refine J_icmp_ge (tgt := 67) hX dX12_findSeams_47 (by decide) (fun c7 => ?_) (fun c7 => ?_)
  · replace h := Eq.mp (if_pos c7) h
    refine J_iinc (x := (x4 + (1 : Int32))) (lv2 := [(4, .int (x4 + (1 : Int32))), (0, .ref (ad 426)), (1, .int x1), (2, .int x2), (3, .int x3), (5, .int x5)]) hX dX12_findSeams_67 4 rfl rfl (Nat.le_of_ble_eq_true rfl) rfl ?_
    refine J_goto (tgt := 32) hX dX12_findSeams_70 (by decide) ?_
    exact J_sub [1, 2, 3, 4, 0] rfl (hk32 (x4 + (1 : Int32)) m h)
  · replace h := Eq.mp (if_neg c7) h
    refine J_aload_n hX dX12_findSeams_50 rfl 0 rfl ?_
    refine J_iload_n hX dX12_findSeams_51 rfl 2 rfl ?_
    refine J_iload_n hX dX12_findSeams_52 rfl 3 rfl ?_
    refine J_iload hX dX12_findSeams_53 4 rfl ?_
    refine J_iload hX dX12_findSeams_55 5 rfl ?_
    refine J_iload_n hX dX12_findSeams_57 rfl 1 rfl ?_
    refine J_callV hX km_X12_meet kl_RX12_249 dX12_findSeams_58 ka_426 (by decide) [.int x2, .int x3, .int x4, .int x5, .int x1] ⟨Nat.le_of_ble_eq_true rfl, Nat.le_of_ble_eq_true rfl⟩ rfl rfl (Nat.le_of_ble_eq_true rfl) (c_X12_meet x2 x3 x4 x5 x1 m _ h) (fun v w2 hk => ?_)
    obtain ⟨m8, rfl, rfl, h⟩ := hk
    show J X (0, 0) 61 [(0, .ref (ad 426)), (1, .int x1), (2, .int x2), (3, .int x3), (4, .int x4), (5, .int x5)] [] (fl ad m8)
    refine J_iinc (x := (x5 + (1 : Int32))) (lv2 := [(5, .int (x5 + (1 : Int32))), (0, .ref (ad 426)), (1, .int x1), (2, .int x2), (3, .int x3), (4, .int x4)]) hX dX12_findSeams_61 5 rfl rfl (Nat.le_of_ble_eq_true rfl) rfl ?_
    refine J_goto (tgt := 44) hX dX12_findSeams_64 (by decide) ?_
    exact J_sub [1, 2, 3, 4, 5, 0] rfl (hrec (x5 + (1 : Int32)) m8 h)
set_option maxRecDepth 100000 in
theorem t_X12_findSeams_l44 {X : XT} {ad : Nat → Nat} {K : Mm → Prop} (hX : Cx X cX12_findSeams 6 RX12 (rmN 3 78)) (hR : Rx X none (kV ad K) (0, 0)) {k32 : Int32 → Mm → Prop} (x1 : Int32) (x2 : Int32) (x3 : Int32) (x4 : Int32) (hk32 : ∀ (z4 : Int32) (m : Mm), k32 z4 m → J X (0, 0) 32 [(0, .ref (ad 426)), (1, .int x1), (2, .int x2), (3, .int x3), (4, .int z4)] [] (fl ad m)) : ∀ (n : Nat) (x5 : Int32) (m : Mm), wp_X12_findSeams_l44 k32 K x1 x2 x3 x4 n x5 m → J X (0, 0) 44 [(0, .ref (ad 426)), (1, .int x1), (2, .int x2), (3, .int x3), (4, .int x4), (5, .int x5)] [] (fl ad m) := by
  intro n
  induction n with
  | zero => intro x5 m h; exact h.elim
  | succ n ih => intro x5 m h; exact tb_X12_findSeams_l44 hX hR x1 x2 x3 x4 ih hk32 x5 m h
set_option maxRecDepth 100000 in
theorem tb_X12_findSeams_l32 {X : XT} {ad : Nat → Nat} {K : Mm → Prop} (hX : Cx X cX12_findSeams 6 RX12 (rmN 3 78)) (hR : Rx X none (kV ad K) (0, 0)) {rec : Int32 → Mm → Prop} {k22 : Int32 → Mm → Prop} (x1 : Int32) (x2 : Int32) (x3 : Int32) (hrec : ∀ (x4 : Int32) (m : Mm), rec x4 m → J X (0, 0) 32 [(0, .ref (ad 426)), (1, .int x1), (2, .int x2), (3, .int x3), (4, .int x4)] [] (fl ad m)) (hk22 : ∀ (z3 : Int32) (m : Mm), k22 z3 m → J X (0, 0) 22 [(0, .ref (ad 426)), (1, .int x1), (2, .int x2), (3, .int z3)] [] (fl ad m)) (x4 : Int32) (m : Mm) (h : wb_X12_findSeams_l32 rec k22 K x1 x2 x3 x4 m) : J X (0, 0) 32 [(0, .ref (ad 426)), (1, .int x1), (2, .int x2), (3, .int x3), (4, .int x4)] [] (fl ad m) := by
  unfold wb_X12_findSeams_l32 at h
  refine J_iload hX dX12_findSeams_32 4 rfl ?_
  refine J_aload_n hX dX12_findSeams_34 rfl 0 rfl ?_
  refine J_callV hX km_X12_many kl_RX12_83 dX12_findSeams_35 ka_426 (by decide) [] ⟨Nat.le_of_ble_eq_true rfl, Nat.le_of_ble_eq_true rfl⟩ rfl rfl (Nat.le_of_ble_eq_true rfl) (c_X12_many m) (fun v w2 hk => ?_)
  obtain ⟨rfl, rfl⟩ := hk
  show J X (0, 0) 38 [(0, .ref (ad 426)), (1, .int x1), (2, .int x2), (3, .int x3), (4, .int x4)] [.int (v_X12_many m), .int x4] (fl ad m)
  refine J_icmp_ge (tgt := 73) hX dX12_findSeams_38 (by decide) (fun c6 => ?_) (fun c6 => ?_)
  · replace h := Eq.mp (if_pos c6) h
    refine J_iinc (x := (x3 + (1 : Int32))) (lv2 := [(3, .int (x3 + (1 : Int32))), (0, .ref (ad 426)), (1, .int x1), (2, .int x2), (4, .int x4)]) hX dX12_findSeams_73 3 rfl rfl (Nat.le_of_ble_eq_true rfl) rfl ?_
    refine J_goto (tgt := 22) hX dX12_findSeams_76 (by decide) ?_
    exact J_sub [1, 2, 3, 0] rfl (hk22 (x3 + (1 : Int32)) m h)
  · replace h := Eq.mp (if_neg c6) h
    refine J_iconst (v := (0 : Int32)) hX dX12_findSeams_41 (by decide) ?_
    refine J_istore (lv2 := [(5, .int (0 : Int32)), (0, .ref (ad 426)), (1, .int x1), (2, .int x2), (3, .int x3), (4, .int x4)]) hX dX12_findSeams_42 (Nat.le_of_ble_eq_true rfl) rfl ?_
    refine J_sub [1, 2, 3, 4, 5, 0] rfl (t_X12_findSeams_l44 hX hR x1 x2 x3 x4 hrec FU (0 : Int32) m h)
set_option maxRecDepth 100000 in
theorem t_X12_findSeams_l32 {X : XT} {ad : Nat → Nat} {K : Mm → Prop} (hX : Cx X cX12_findSeams 6 RX12 (rmN 3 78)) (hR : Rx X none (kV ad K) (0, 0)) {k22 : Int32 → Mm → Prop} (x1 : Int32) (x2 : Int32) (x3 : Int32) (hk22 : ∀ (z3 : Int32) (m : Mm), k22 z3 m → J X (0, 0) 22 [(0, .ref (ad 426)), (1, .int x1), (2, .int x2), (3, .int z3)] [] (fl ad m)) : ∀ (n : Nat) (x4 : Int32) (m : Mm), wp_X12_findSeams_l32 k22 K x1 x2 x3 n x4 m → J X (0, 0) 32 [(0, .ref (ad 426)), (1, .int x1), (2, .int x2), (3, .int x3), (4, .int x4)] [] (fl ad m) := by
  intro n
  induction n with
  | zero => intro x4 m h; exact h.elim
  | succ n ih => intro x4 m h; exact tb_X12_findSeams_l32 hX hR x1 x2 x3 ih hk22 x4 m h
set_option maxRecDepth 100000 in
theorem tb_X12_findSeams_l22 {X : XT} {ad : Nat → Nat} {K : Mm → Prop} (hX : Cx X cX12_findSeams 6 RX12 (rmN 3 78)) (hR : Rx X none (kV ad K) (0, 0)) {rec : Int32 → Mm → Prop} {k12 : Int32 → Mm → Prop} (x1 : Int32) (x2 : Int32) (hrec : ∀ (x3 : Int32) (m : Mm), rec x3 m → J X (0, 0) 22 [(0, .ref (ad 426)), (1, .int x1), (2, .int x2), (3, .int x3)] [] (fl ad m)) (hk12 : ∀ (z2 : Int32) (m : Mm), k12 z2 m → J X (0, 0) 12 [(0, .ref (ad 426)), (1, .int x1), (2, .int z2)] [] (fl ad m)) (x3 : Int32) (m : Mm) (h : wb_X12_findSeams_l22 rec k12 K x1 x2 x3 m) : J X (0, 0) 22 [(0, .ref (ad 426)), (1, .int x1), (2, .int x2), (3, .int x3)] [] (fl ad m) := by
  unfold wb_X12_findSeams_l22 at h
  refine J_iload_n hX dX12_findSeams_22 rfl 3 rfl ?_
  refine J_iconst (v := (4 : Int32)) hX dX12_findSeams_23 (by decide) ?_
  refine J_icmp_ge (tgt := 79) hX dX12_findSeams_24 (by decide) (fun c4 => ?_) (fun c4 => ?_)
  · replace h := Eq.mp (if_pos c4) h
    refine J_iinc (x := (x2 + (1 : Int32))) (lv2 := [(2, .int (x2 + (1 : Int32))), (0, .ref (ad 426)), (1, .int x1), (3, .int x3)]) hX dX12_findSeams_79 2 rfl rfl (Nat.le_of_ble_eq_true rfl) rfl ?_
    refine J_goto (tgt := 12) hX dX12_findSeams_82 (by decide) ?_
    exact J_sub [1, 2, 0] rfl (hk12 (x2 + (1 : Int32)) m h)
  · replace h := Eq.mp (if_neg c4) h
    refine J_iload_n hX dX12_findSeams_27 rfl 2 rfl ?_
    refine J_iconst (v := (1 : Int32)) hX dX12_findSeams_28 (by decide) ?_
    refine J_iadd hX dX12_findSeams_29 ?_
    refine J_nmI (fun y5 e_y5 => ?_)
    replace h := h y5 e_y5
    refine J_istore (lv2 := [(4, .int y5), (0, .ref (ad 426)), (1, .int x1), (2, .int x2), (3, .int x3)]) hX dX12_findSeams_30 (Nat.le_of_ble_eq_true rfl) rfl ?_
    refine J_sub [1, 2, 3, 4, 0] rfl (t_X12_findSeams_l32 hX hR x1 x2 x3 hrec FU y5 m h)
set_option maxRecDepth 100000 in
theorem t_X12_findSeams_l22 {X : XT} {ad : Nat → Nat} {K : Mm → Prop} (hX : Cx X cX12_findSeams 6 RX12 (rmN 3 78)) (hR : Rx X none (kV ad K) (0, 0)) {k12 : Int32 → Mm → Prop} (x1 : Int32) (x2 : Int32) (hk12 : ∀ (z2 : Int32) (m : Mm), k12 z2 m → J X (0, 0) 12 [(0, .ref (ad 426)), (1, .int x1), (2, .int z2)] [] (fl ad m)) : ∀ (n : Nat) (x3 : Int32) (m : Mm), wp_X12_findSeams_l22 k12 K x1 x2 n x3 m → J X (0, 0) 22 [(0, .ref (ad 426)), (1, .int x1), (2, .int x2), (3, .int x3)] [] (fl ad m) := by
  intro n
  induction n with
  | zero => intro x3 m h; exact h.elim
  | succ n ih => intro x3 m h; exact tb_X12_findSeams_l22 hX hR x1 x2 ih hk12 x3 m h
set_option maxRecDepth 100000 in
theorem tb_X12_findSeams_l12 {X : XT} {ad : Nat → Nat} {K : Mm → Prop} (hX : Cx X cX12_findSeams 6 RX12 (rmN 3 78)) (hR : Rx X none (kV ad K) (0, 0)) {rec : Int32 → Mm → Prop} (x1 : Int32) (hrec : ∀ (x2 : Int32) (m : Mm), rec x2 m → J X (0, 0) 12 [(0, .ref (ad 426)), (1, .int x1), (2, .int x2)] [] (fl ad m)) (x2 : Int32) (m : Mm) (h : wb_X12_findSeams_l12 rec K x1 x2 m) : J X (0, 0) 12 [(0, .ref (ad 426)), (1, .int x1), (2, .int x2)] [] (fl ad m) := by
  unfold wb_X12_findSeams_l12 at h
  refine J_iload_n hX dX12_findSeams_12 rfl 2 rfl ?_
  refine J_aload_n hX dX12_findSeams_13 rfl 0 rfl ?_
  refine J_callV hX km_X12_many kl_RX12_83 dX12_findSeams_14 ka_426 (by decide) [] ⟨Nat.le_of_ble_eq_true rfl, Nat.le_of_ble_eq_true rfl⟩ rfl rfl (Nat.le_of_ble_eq_true rfl) (c_X12_many m) (fun v w2 hk => ?_)
  obtain ⟨rfl, rfl⟩ := hk
  show J X (0, 0) 17 [(0, .ref (ad 426)), (1, .int x1), (2, .int x2)] [.int (v_X12_many m), .int x2] (fl ad m)
  refine J_icmp_ge (tgt := 85) hX dX12_findSeams_17 (by decide) (fun c3 => ?_) (fun c3 => ?_)
  · replace h := Eq.mp (if_pos c3) h
    exact J_vret hX hR dX12_findSeams_85 ⟨_, rfl, rfl, h⟩
  · replace h := Eq.mp (if_neg c3) h
    refine J_iconst (v := (0 : Int32)) hX dX12_findSeams_20 (by decide) ?_
    refine J_istore_n (lv2 := [(3, .int (0 : Int32)), (0, .ref (ad 426)), (1, .int x1), (2, .int x2)]) hX dX12_findSeams_21 rfl (Nat.le_of_ble_eq_true rfl) rfl ?_
    refine J_sub [1, 2, 3, 0] rfl (t_X12_findSeams_l22 hX hR x1 x2 hrec FU (0 : Int32) m h)
set_option maxRecDepth 100000 in
theorem t_X12_findSeams_l12 {X : XT} {ad : Nat → Nat} {K : Mm → Prop} (hX : Cx X cX12_findSeams 6 RX12 (rmN 3 78)) (hR : Rx X none (kV ad K) (0, 0)) (x1 : Int32) : ∀ (n : Nat) (x2 : Int32) (m : Mm), wp_X12_findSeams_l12 K x1 n x2 m → J X (0, 0) 12 [(0, .ref (ad 426)), (1, .int x1), (2, .int x2)] [] (fl ad m) := by
  intro n
  induction n with
  | zero => intro x2 m h; exact h.elim
  | succ n ih => intro x2 m h; exact tb_X12_findSeams_l12 hX hR x1 ih x2 m h
set_option maxRecDepth 100000 in
theorem c_X12_findSeams {G : GT} {ad : Nat → Nat} (x1 : Int32) (m : Mm) (K : Mm → Prop) (h : wp_X12_findSeams x1 m K) : Cn G yX12_findSeams cX12_findSeams 6 none (rmN 3 78) [.ref (ad 426), .int x1] (0, 0) (fl ad m) (kV ad K) := by
  unfold wp_X12_findSeams at h
  refine Cn.of pn_RX12 (Nat.le_of_ble_eq_true rfl) (fun X hG hX hR => ?_)
  subst hG
  have hX : Cx X cX12_findSeams 6 RX12 (rmN 3 78) := hX
  show J X (0, 0) 0 [(0, .ref (ad 426)), (1, .int x1)] [] (fl ad m)
  refine J_aload_n hX dX12_findSeams_0 rfl 0 rfl ?_
  refine J_iconst (v := (-1 : Int32)) hX dX12_findSeams_1 (by decide) ?_
  refine J_callV hX km_X12_fold kl_RX12_246 dX12_findSeams_2 ka_426 (by decide) [.int (-1 : Int32)] ⟨Nat.le_of_ble_eq_true rfl, Nat.le_of_ble_eq_true rfl⟩ rfl rfl (Nat.le_of_ble_eq_true rfl) (c_X12_fold (-1 : Int32) m _ h) (fun v w2 hk => ?_)
  obtain ⟨m1, rfl, rfl, h⟩ := hk
  show J X (0, 0) 5 [(0, .ref (ad 426)), (1, .int x1)] [] (fl ad m1)
  refine J_aload_n hX dX12_findSeams_5 rfl 0 rfl ?_
  refine J_iconst (v := (0 : Int32)) hX dX12_findSeams_6 (by decide) ?_
  refine J_putI hX kf_RX12_243 dX12_findSeams_7 ka_426 (by decide) rfl ?_
  refine J_nmM (fun m2 e_m2 => ?_)
  replace h := h m2 e_m2
  refine J_iconst (v := (0 : Int32)) hX dX12_findSeams_10 (by decide) ?_
  refine J_istore_n (lv2 := [(2, .int (0 : Int32)), (0, .ref (ad 426)), (1, .int x1)]) hX dX12_findSeams_11 rfl (Nat.le_of_ble_eq_true rfl) rfl ?_
  refine J_sub [1, 2, 0] rfl (t_X12_findSeams_l12 hX hR x1 FU (0 : Int32) m2 h)
set_option maxRecDepth 100000 in
theorem c_X12_turnedSize {G : GT} {ad : Nat → Nat} (x1 : Int32) (x2 : Int32) (m : Mm) (h : s_X12_turnedSize x1 x2 m) : Cn G yX12_turnedSize cX12_turnedSize 3 (some .int) (rmN 2 44) [.ref (ad 426), .int x1, .int x2] (0, 0) (fl ad m) (fun v w => v = some (.int (v_X12_turnedSize x1 x2 m)) ∧ w = fl ad m) := by
  unfold s_X12_turnedSize at h
  refine Cn.of pn_RX12 (Nat.le_of_ble_eq_true rfl) (fun X hG hX hR => ?_)
  subst hG
  have hX : Cx X cX12_turnedSize 3 RX12 (rmN 2 44) := hX
  show J X (0, 0) 0 [(0, .ref (ad 426)), (1, .int x1), (2, .int x2)] [] (fl ad m)
  obtain ⟨b1, g5⟩ := h
  refine J_aload_n hX dX12_turnedSize_0 rfl 0 rfl ?_
  refine J_iload_n hX dX12_turnedSize_1 rfl 1 rfl ?_
  refine J_iload_n hX dX12_turnedSize_2 rfl 2 rfl ?_
  refine J_aload_n hX dX12_turnedSize_3 rfl 0 rfl ?_
  refine J_iload_n hX dX12_turnedSize_4 rfl 1 rfl ?_
  refine J_bipush (v := (8 : Int32)) hX dX12_turnedSize_5 (by decide) ?_
  refine J_callV hX km_X12_of kl_RX12_91 dX12_turnedSize_7 ka_426 (by decide) [.int x1, .int (8 : Int32)] ⟨Nat.le_of_ble_eq_true rfl, Nat.le_of_ble_eq_true rfl⟩ rfl rfl (Nat.le_of_ble_eq_true rfl) (c_X12_of x1 (8 : Int32) m b1) (fun v w2 hk => ?_)
  obtain ⟨rfl, rfl⟩ := hk
  show J X (0, 0) 10 [(0, .ref (ad 426)), (1, .int x1), (2, .int x2)] [.int (v_X12_of x1 (8 : Int32) m), .int x2, .int x1, .ref (ad 426)] (fl ad m)
  refine J_iconst (v := (2 : Int32)) hX dX12_turnedSize_10 (by decide) ?_
  refine J_irem hX dX12_turnedSize_11 (by decide) ?_
  refine J_iconst (v := (1 : Int32)) hX dX12_turnedSize_12 (by decide) ?_
  have hj6 : ∀ y7 : Int32, y7 = (if (rm32 (v_X12_of x1 (8 : Int32) m) (2 : Int32)) = (1 : Int32) then (1 : Int32) else (0 : Int32)) → J X (0, 0) 21 [] [.int y7, .int x2, .int x1, .ref (ad 426)] (fl ad m) := by
    intro y7 e_y7
    subst e_y7
    have g8 := g5
    have hj9 : ∀ y10 : Int32, y10 = (if x2 = (if (rm32 (v_X12_of x1 (8 : Int32) m) (2 : Int32)) = (1 : Int32) then (1 : Int32) else (0 : Int32)) then (0 : Int32) else (1 : Int32)) → J X (0, 0) 29 [] [.int y10, .int x1, .ref (ad 426)] (fl ad m) := by
      intro y10 e_y10
      subst e_y10
      have b4 := g8
      refine J_callV hX km_X12_imageSize kl_RX12_256 dX12_turnedSize_29 ka_426 (by decide) [.int x1, .int (if x2 = (if (rm32 (v_X12_of x1 (8 : Int32) m) (2 : Int32)) = (1 : Int32) then (1 : Int32) else (0 : Int32)) then (0 : Int32) else (1 : Int32))] ⟨Nat.le_of_ble_eq_true rfl, Nat.le_of_ble_eq_true rfl⟩ rfl rfl (Nat.le_of_ble_eq_true rfl) (c_X12_imageSize x1 (if x2 = (if (rm32 (v_X12_of x1 (8 : Int32) m) (2 : Int32)) = (1 : Int32) then (1 : Int32) else (0 : Int32)) then (0 : Int32) else (1 : Int32)) m b4) (fun v w2 hk => ?_)
      obtain ⟨rfl, rfl⟩ := hk
      show J X (0, 0) 32 [] [.int (v_X12_imageSize x1 (if x2 = (if (rm32 (v_X12_of x1 (8 : Int32) m) (2 : Int32)) = (1 : Int32) then (1 : Int32) else (0 : Int32)) then (0 : Int32) else (1 : Int32)) m)] (fl ad m)
      exact J_iret hX hR dX12_turnedSize_32 (And.intro (congrArg (fun z => some (Value.int z)) (show (v_X12_imageSize x1 (if x2 = (if (rm32 (v_X12_of x1 (8 : Int32) m) (2 : Int32)) = (1 : Int32) then (1 : Int32) else (0 : Int32)) then (0 : Int32) else (1 : Int32)) m) = v_X12_turnedSize x1 x2 m from rfl)) rfl)
    refine J_icmp_eq (tgt := 28) hX dX12_turnedSize_21 (by decide) (fun c3 => ?_) (fun c3 => ?_)
    · refine J_iconst (v := (0 : Int32)) hX dX12_turnedSize_28 (by decide) ?_
      exact J_sub [] rfl (hj9 _ (if_pos c3).symm)
    · refine J_iconst (v := (1 : Int32)) hX dX12_turnedSize_24 (by decide) ?_
      refine J_goto (tgt := 29) hX dX12_turnedSize_25 (by decide) ?_
      exact J_sub [] rfl (hj9 _ (if_neg c3).symm)
  refine J_icmp_ne (tgt := 20) hX dX12_turnedSize_13 (by decide) (fun c2 => ?_) (fun c2 => ?_)
  · refine J_iconst (v := (0 : Int32)) hX dX12_turnedSize_20 (by decide) ?_
    exact J_sub [] rfl (hj6 _ (if_neg c2).symm)
  · refine J_iconst (v := (1 : Int32)) hX dX12_turnedSize_16 (by decide) ?_
    refine J_goto (tgt := 21) hX dX12_turnedSize_17 (by decide) ?_
    exact J_sub [] rfl (hj6 _ (if_pos c2).symm)
theorem bv_X12_shows (x1 : Int32) (m : Mm) : bo (v_X12_shows x1 m) := (bo_ite bo_0 (bo_ite bo_0 (bo_ite bo_0 bo_1)))
set_option maxRecDepth 100000 in
theorem c_X12_shows {G : GT} {ad : Nat → Nat} (x1 : Int32) (m : Mm) (h : s_X12_shows x1 m) : Cn G yX12_shows cX12_shows 2 (some .boolean) (rmN 3 66) [.ref (ad 426), .int x1] (0, 0) (fl ad m) (fun v w => v = some (.int (v_X12_shows x1 m)) ∧ w = fl ad m) := by
  unfold s_X12_shows at h
  refine Cn.of pn_RX12 (Nat.le_of_ble_eq_true rfl) (fun X hG hX hR => ?_)
  subst hG
  have hX : Cx X cX12_shows 2 RX12 (rmN 3 66) := hX
  show J X (0, 0) 0 [(0, .ref (ad 426)), (1, .int x1)] [] (fl ad m)
  obtain ⟨b1, g10⟩ := h
  refine J_aload_n hX dX12_shows_0 rfl 0 rfl ?_
  refine J_iload_n hX dX12_shows_1 rfl 1 rfl ?_
  refine J_bipush (v := (7 : Int32)) hX dX12_shows_2 (by decide) ?_
  refine J_callV hX km_X12_of kl_RX12_91 dX12_shows_4 ka_426 (by decide) [.int x1, .int (7 : Int32)] ⟨Nat.le_of_ble_eq_true rfl, Nat.le_of_ble_eq_true rfl⟩ rfl rfl (Nat.le_of_ble_eq_true rfl) (c_X12_of x1 (7 : Int32) m b1) (fun v w2 hk => ?_)
  obtain ⟨rfl, rfl⟩ := hk
  show J X (0, 0) 7 [(0, .ref (ad 426)), (1, .int x1)] [.int (v_X12_of x1 (7 : Int32) m)] (fl ad m)
  refine J_bipush (v := (-9 : Int32)) hX dX12_shows_7 (by decide) ?_
  have hj11 : ∀ y12 : Int32, y12 = (if (v_X12_of x1 (7 : Int32) m) = (-9 : Int32) then (0 : Int32) else (if (v_X12_common (0 : Int32) (m.1 434 x1.toNatClampNeg) (v_X12_of x1 (9 : Int32) m) ((v_X12_of x1 (9 : Int32) m) + (v_X12_turnedSize x1 (0 : Int32) m))) ≤ (0 : Int32) then (0 : Int32) else (if (v_X12_common (0 : Int32) (m.1 435 x1.toNatClampNeg) (v_X12_of x1 (10 : Int32) m) ((v_X12_of x1 (10 : Int32) m) + (v_X12_turnedSize x1 (1 : Int32) m))) ≤ (0 : Int32) then (0 : Int32) else (1 : Int32)))) → J X (0, 0) 85 [] [.int y12] (fl ad m) := by
    intro y12 e_y12
    subst e_y12
    exact J_zret hX hR dX12_shows_85 (bo_ite bo_0 (bo_ite bo_0 (bo_ite bo_0 bo_1))) (And.intro (congrArg (fun z => some (Value.int z)) (show (if (v_X12_of x1 (7 : Int32) m) = (-9 : Int32) then (0 : Int32) else (if (v_X12_common (0 : Int32) (m.1 434 x1.toNatClampNeg) (v_X12_of x1 (9 : Int32) m) ((v_X12_of x1 (9 : Int32) m) + (v_X12_turnedSize x1 (0 : Int32) m))) ≤ (0 : Int32) then (0 : Int32) else (if (v_X12_common (0 : Int32) (m.1 435 x1.toNatClampNeg) (v_X12_of x1 (10 : Int32) m) ((v_X12_of x1 (10 : Int32) m) + (v_X12_turnedSize x1 (1 : Int32) m))) ≤ (0 : Int32) then (0 : Int32) else (1 : Int32)))) = v_X12_shows x1 m from rfl)) rfl)
  have g13 := g10
  refine J_icmp_eq (tgt := 84) hX dX12_shows_9 (by decide) (fun c2 => ?_) (fun c2 => ?_)
  · refine J_iconst (v := (0 : Int32)) hX dX12_shows_84 (by decide) ?_
    exact J_sub [] rfl (hj11 _ (if_pos c2).symm)
  · have g14 := g13 c2
    obtain ⟨b3, b4, b5, g15⟩ := g14
    refine J_iconst (v := (0 : Int32)) hX dX12_shows_12 (by decide) ?_
    refine J_aload_n hX dX12_shows_13 rfl 0 rfl ?_
    refine J_getR hX kf_RX12_32 dX12_shows_14 ka_426 (by decide) rfl rh_426_9 ?_
    refine J_iload_n hX dX12_shows_17 rfl 1 rfl ?_
    refine J_iald (j := x1.toNatClampNeg) hX dX12_shows_18 ka_434 le_434 b3 rfl ?_
    refine J_aload_n hX dX12_shows_19 rfl 0 rfl ?_
    refine J_iload_n hX dX12_shows_20 rfl 1 rfl ?_
    refine J_bipush (v := (9 : Int32)) hX dX12_shows_21 (by decide) ?_
    refine J_callV hX km_X12_of kl_RX12_91 dX12_shows_23 ka_426 (by decide) [.int x1, .int (9 : Int32)] ⟨Nat.le_of_ble_eq_true rfl, Nat.le_of_ble_eq_true rfl⟩ rfl rfl (Nat.le_of_ble_eq_true rfl) (c_X12_of x1 (9 : Int32) m b4) (fun v w2 hk => ?_)
    obtain ⟨rfl, rfl⟩ := hk
    show J X (0, 0) 26 [(0, .ref (ad 426)), (1, .int x1)] [.int (v_X12_of x1 (9 : Int32) m), .int (m.1 434 x1.toNatClampNeg), .int (0 : Int32)] (fl ad m)
    refine J_aload_n hX dX12_shows_26 rfl 0 rfl ?_
    refine J_iload_n hX dX12_shows_27 rfl 1 rfl ?_
    refine J_bipush (v := (9 : Int32)) hX dX12_shows_28 (by decide) ?_
    refine J_callV hX km_X12_of kl_RX12_91 dX12_shows_30 ka_426 (by decide) [.int x1, .int (9 : Int32)] ⟨Nat.le_of_ble_eq_true rfl, Nat.le_of_ble_eq_true rfl⟩ rfl rfl (Nat.le_of_ble_eq_true rfl) (c_X12_of x1 (9 : Int32) m b4) (fun v w2 hk => ?_)
    obtain ⟨rfl, rfl⟩ := hk
    show J X (0, 0) 33 [(0, .ref (ad 426)), (1, .int x1)] [.int (v_X12_of x1 (9 : Int32) m), .int (v_X12_of x1 (9 : Int32) m), .int (m.1 434 x1.toNatClampNeg), .int (0 : Int32)] (fl ad m)
    refine J_aload_n hX dX12_shows_33 rfl 0 rfl ?_
    refine J_iload_n hX dX12_shows_34 rfl 1 rfl ?_
    refine J_iconst (v := (0 : Int32)) hX dX12_shows_35 (by decide) ?_
    refine J_callV hX km_X12_turnedSize kl_RX12_260 dX12_shows_36 ka_426 (by decide) [.int x1, .int (0 : Int32)] ⟨Nat.le_of_ble_eq_true rfl, Nat.le_of_ble_eq_true rfl⟩ rfl rfl (Nat.le_of_ble_eq_true rfl) (c_X12_turnedSize x1 (0 : Int32) m b5) (fun v w2 hk => ?_)
    obtain ⟨rfl, rfl⟩ := hk
    show J X (0, 0) 39 [(0, .ref (ad 426)), (1, .int x1)] [.int (v_X12_turnedSize x1 (0 : Int32) m), .int (v_X12_of x1 (9 : Int32) m), .int (v_X12_of x1 (9 : Int32) m), .int (m.1 434 x1.toNatClampNeg), .int (0 : Int32)] (fl ad m)
    refine J_iadd hX dX12_shows_39 ?_
    refine J_callS hX km_X12_common kl_RX12_116 dX12_shows_40 [.int (0 : Int32), .int (m.1 434 x1.toNatClampNeg), .int (v_X12_of x1 (9 : Int32) m), .int ((v_X12_of x1 (9 : Int32) m) + (v_X12_turnedSize x1 (0 : Int32) m))] ⟨Nat.le_of_ble_eq_true rfl, Nat.le_of_ble_eq_true rfl⟩ rfl rfl (Nat.le_of_ble_eq_true rfl) (c_X12_common (0 : Int32) (m.1 434 x1.toNatClampNeg) (v_X12_of x1 (9 : Int32) m) ((v_X12_of x1 (9 : Int32) m) + (v_X12_turnedSize x1 (0 : Int32) m)) m) (fun v w2 hk => ?_)
    obtain ⟨rfl, rfl⟩ := hk
    show J X (0, 0) 43 [(0, .ref (ad 426)), (1, .int x1)] [.int (v_X12_common (0 : Int32) (m.1 434 x1.toNatClampNeg) (v_X12_of x1 (9 : Int32) m) ((v_X12_of x1 (9 : Int32) m) + (v_X12_turnedSize x1 (0 : Int32) m)))] (fl ad m)
    refine J_if_le (tgt := 84) hX dX12_shows_43 (by decide) (fun c6 => ?_) (fun c6 => ?_)
    · refine J_iconst (v := (0 : Int32)) hX dX12_shows_84 (by decide) ?_
      exact J_sub [] rfl (hj11 _ ((if_neg c2).trans (if_pos c6)).symm)
    · have g16 := g15 c6
      obtain ⟨b7, b8⟩ := g16
      refine J_iconst (v := (0 : Int32)) hX dX12_shows_46 (by decide) ?_
      refine J_aload_n hX dX12_shows_47 rfl 0 rfl ?_
      refine J_getR hX kf_RX12_35 dX12_shows_48 ka_426 (by decide) rfl rh_426_10 ?_
      refine J_iload_n hX dX12_shows_51 rfl 1 rfl ?_
      refine J_iald (j := x1.toNatClampNeg) hX dX12_shows_52 ka_435 le_435 b3 rfl ?_
      refine J_aload_n hX dX12_shows_53 rfl 0 rfl ?_
      refine J_iload_n hX dX12_shows_54 rfl 1 rfl ?_
      refine J_bipush (v := (10 : Int32)) hX dX12_shows_55 (by decide) ?_
      refine J_callV hX km_X12_of kl_RX12_91 dX12_shows_57 ka_426 (by decide) [.int x1, .int (10 : Int32)] ⟨Nat.le_of_ble_eq_true rfl, Nat.le_of_ble_eq_true rfl⟩ rfl rfl (Nat.le_of_ble_eq_true rfl) (c_X12_of x1 (10 : Int32) m b7) (fun v w2 hk => ?_)
      obtain ⟨rfl, rfl⟩ := hk
      show J X (0, 0) 60 [(0, .ref (ad 426)), (1, .int x1)] [.int (v_X12_of x1 (10 : Int32) m), .int (m.1 435 x1.toNatClampNeg), .int (0 : Int32)] (fl ad m)
      refine J_aload_n hX dX12_shows_60 rfl 0 rfl ?_
      refine J_iload_n hX dX12_shows_61 rfl 1 rfl ?_
      refine J_bipush (v := (10 : Int32)) hX dX12_shows_62 (by decide) ?_
      refine J_callV hX km_X12_of kl_RX12_91 dX12_shows_64 ka_426 (by decide) [.int x1, .int (10 : Int32)] ⟨Nat.le_of_ble_eq_true rfl, Nat.le_of_ble_eq_true rfl⟩ rfl rfl (Nat.le_of_ble_eq_true rfl) (c_X12_of x1 (10 : Int32) m b7) (fun v w2 hk => ?_)
      obtain ⟨rfl, rfl⟩ := hk
      show J X (0, 0) 67 [(0, .ref (ad 426)), (1, .int x1)] [.int (v_X12_of x1 (10 : Int32) m), .int (v_X12_of x1 (10 : Int32) m), .int (m.1 435 x1.toNatClampNeg), .int (0 : Int32)] (fl ad m)
      refine J_aload_n hX dX12_shows_67 rfl 0 rfl ?_
      refine J_iload_n hX dX12_shows_68 rfl 1 rfl ?_
      refine J_iconst (v := (1 : Int32)) hX dX12_shows_69 (by decide) ?_
      refine J_callV hX km_X12_turnedSize kl_RX12_260 dX12_shows_70 ka_426 (by decide) [.int x1, .int (1 : Int32)] ⟨Nat.le_of_ble_eq_true rfl, Nat.le_of_ble_eq_true rfl⟩ rfl rfl (Nat.le_of_ble_eq_true rfl) (c_X12_turnedSize x1 (1 : Int32) m b8) (fun v w2 hk => ?_)
      obtain ⟨rfl, rfl⟩ := hk
      show J X (0, 0) 73 [(0, .ref (ad 426)), (1, .int x1)] [.int (v_X12_turnedSize x1 (1 : Int32) m), .int (v_X12_of x1 (10 : Int32) m), .int (v_X12_of x1 (10 : Int32) m), .int (m.1 435 x1.toNatClampNeg), .int (0 : Int32)] (fl ad m)
      refine J_iadd hX dX12_shows_73 ?_
      refine J_callS hX km_X12_common kl_RX12_116 dX12_shows_74 [.int (0 : Int32), .int (m.1 435 x1.toNatClampNeg), .int (v_X12_of x1 (10 : Int32) m), .int ((v_X12_of x1 (10 : Int32) m) + (v_X12_turnedSize x1 (1 : Int32) m))] ⟨Nat.le_of_ble_eq_true rfl, Nat.le_of_ble_eq_true rfl⟩ rfl rfl (Nat.le_of_ble_eq_true rfl) (c_X12_common (0 : Int32) (m.1 435 x1.toNatClampNeg) (v_X12_of x1 (10 : Int32) m) ((v_X12_of x1 (10 : Int32) m) + (v_X12_turnedSize x1 (1 : Int32) m)) m) (fun v w2 hk => ?_)
      obtain ⟨rfl, rfl⟩ := hk
      show J X (0, 0) 77 [(0, .ref (ad 426)), (1, .int x1)] [.int (v_X12_common (0 : Int32) (m.1 435 x1.toNatClampNeg) (v_X12_of x1 (10 : Int32) m) ((v_X12_of x1 (10 : Int32) m) + (v_X12_turnedSize x1 (1 : Int32) m)))] (fl ad m)
      refine J_if_le (tgt := 84) hX dX12_shows_77 (by decide) (fun c9 => ?_) (fun c9 => ?_)
      · refine J_iconst (v := (0 : Int32)) hX dX12_shows_84 (by decide) ?_
        exact J_sub [] rfl (hj11 _ ((if_neg c2).trans ((if_neg c6).trans (if_pos c9))).symm)
      · refine J_iconst (v := (1 : Int32)) hX dX12_shows_80 (by decide) ?_
        refine J_goto (tgt := 85) hX dX12_shows_81 (by decide) ?_
        exact J_sub [] rfl (hj11 _ ((if_neg c2).trans ((if_neg c6).trans (if_neg c9))).symm)
set_option maxRecDepth 100000 in
theorem c_X12_reachOf {G : GT} {ad : Nat → Nat} (x1 : Int32) (x2 : Int32) (m : Mm) (h : s_X12_reachOf x1 x2 m) : Cn G yX12_reachOf cX12_reachOf 6 (some .int) (rmN 4 87) [.ref (ad 426), .int x1, .int x2] (0, 0) (fl ad m) (fun v w => v = some (.int (v_X12_reachOf x1 x2 m)) ∧ w = fl ad m) := by
  unfold s_X12_reachOf at h
  refine Cn.of pn_RX12 (Nat.le_of_ble_eq_true rfl) (fun X hG hX hR => ?_)
  subst hG
  have hX : Cx X cX12_reachOf 6 RX12 (rmN 4 87) := hX
  show J X (0, 0) 0 [(0, .ref (ad 426)), (1, .int x1), (2, .int x2)] [] (fl ad m)
  obtain ⟨b1, g13⟩ := h
  refine J_aload_n hX dX12_reachOf_0 rfl 0 rfl ?_
  refine J_iload_n hX dX12_reachOf_1 rfl 1 rfl ?_
  refine J_callV hX km_X12_shows kl_RX12_263 dX12_reachOf_2 ka_426 (by decide) [.int x1] ⟨Nat.le_of_ble_eq_true rfl, Nat.le_of_ble_eq_true rfl⟩ rfl rfl (Nat.le_of_ble_eq_true rfl) (c_X12_shows x1 m b1) (fun v w2 hk => ?_)
  obtain ⟨rfl, rfl⟩ := hk
  show J X (0, 0) 5 [(0, .ref (ad 426)), (1, .int x1), (2, .int x2)] [.int (v_X12_shows x1 m)] (fl ad m)
  refine J_if_ne (tgt := 11) hX dX12_reachOf_5 (by decide) (fun c2 => ?_) (fun c2 => ?_)
  · have g14 := g13 c2
    obtain ⟨b3, b4, g15⟩ := g14
    refine J_aload_n hX dX12_reachOf_11 rfl 0 rfl ?_
    refine J_iload_n hX dX12_reachOf_12 rfl 1 rfl ?_
    refine J_bipush (v := (9 : Int32)) hX dX12_reachOf_13 (by decide) ?_
    refine J_callV hX km_X12_of kl_RX12_91 dX12_reachOf_15 ka_426 (by decide) [.int x1, .int (9 : Int32)] ⟨Nat.le_of_ble_eq_true rfl, Nat.le_of_ble_eq_true rfl⟩ rfl rfl (Nat.le_of_ble_eq_true rfl) (c_X12_of x1 (9 : Int32) m b3) (fun v w2 hk => ?_)
    obtain ⟨rfl, rfl⟩ := hk
    show J X (0, 0) 18 [(0, .ref (ad 426)), (1, .int x1), (2, .int x2)] [.int (v_X12_of x1 (9 : Int32) m)] (fl ad m)
    refine J_istore_n (lv2 := [(3, .int (v_X12_of x1 (9 : Int32) m)), (0, .ref (ad 426)), (1, .int x1), (2, .int x2)]) hX dX12_reachOf_18 rfl (Nat.le_of_ble_eq_true rfl) rfl ?_
    refine J_aload_n hX dX12_reachOf_19 rfl 1 rfl ?_
    refine J_iload_n hX dX12_reachOf_20 rfl 2 rfl ?_
    refine J_bipush (v := (10 : Int32)) hX dX12_reachOf_21 (by decide) ?_
    refine J_callV hX km_X12_of kl_RX12_91 dX12_reachOf_23 ka_426 (by decide) [.int x1, .int (10 : Int32)] ⟨Nat.le_of_ble_eq_true rfl, Nat.le_of_ble_eq_true rfl⟩ rfl rfl (Nat.le_of_ble_eq_true rfl) (c_X12_of x1 (10 : Int32) m b4) (fun v w2 hk => ?_)
    obtain ⟨rfl, rfl⟩ := hk
    show J X (0, 0) 26 [(3, .int (v_X12_of x1 (9 : Int32) m)), (0, .ref (ad 426)), (1, .int x1), (2, .int x2)] [.int (v_X12_of x1 (10 : Int32) m)] (fl ad m)
    refine J_istore (lv2 := [(4, .int (v_X12_of x1 (10 : Int32) m)), (3, .int (v_X12_of x1 (9 : Int32) m)), (0, .ref (ad 426)), (1, .int x1), (2, .int x2)]) hX dX12_reachOf_26 (Nat.le_of_ble_eq_true rfl) rfl ?_
    refine J_iload_n hX dX12_reachOf_28 rfl 4 rfl ?_
    have hj16 : ∀ y17 : Int32, y17 = (if x2 = (0 : Int32) then (-(v_X12_of x1 (10 : Int32) m)) else (if x2 = (1 : Int32) then (((v_X12_of x1 (9 : Int32) m) + (v_X12_turnedSize x1 (0 : Int32) m)) - (m.1 434 x1.toNatClampNeg)) else (if x2 = (2 : Int32) then (((v_X12_of x1 (10 : Int32) m) + (v_X12_turnedSize x1 (1 : Int32) m)) - (m.1 435 x1.toNatClampNeg)) else (-(v_X12_of x1 (9 : Int32) m))))) → J X (0, 0) 87 [] [.int y17] (fl ad m) := by
      intro y17 e_y17
      subst e_y17
      refine J_istore (lv2 := [(5, .int (if x2 = (0 : Int32) then (-(v_X12_of x1 (10 : Int32) m)) else (if x2 = (1 : Int32) then (((v_X12_of x1 (9 : Int32) m) + (v_X12_turnedSize x1 (0 : Int32) m)) - (m.1 434 x1.toNatClampNeg)) else (if x2 = (2 : Int32) then (((v_X12_of x1 (10 : Int32) m) + (v_X12_turnedSize x1 (1 : Int32) m)) - (m.1 435 x1.toNatClampNeg)) else (-(v_X12_of x1 (9 : Int32) m))))))]) hX dX12_reachOf_87 (Nat.le_of_ble_eq_true rfl) rfl ?_
      refine J_iload hX dX12_reachOf_89 0 rfl ?_
      have hj18 : ∀ y19 : Int32, y19 = (if (if x2 = (0 : Int32) then (-(v_X12_of x1 (10 : Int32) m)) else (if x2 = (1 : Int32) then (((v_X12_of x1 (9 : Int32) m) + (v_X12_turnedSize x1 (0 : Int32) m)) - (m.1 434 x1.toNatClampNeg)) else (if x2 = (2 : Int32) then (((v_X12_of x1 (10 : Int32) m) + (v_X12_turnedSize x1 (1 : Int32) m)) - (m.1 435 x1.toNatClampNeg)) else (-(v_X12_of x1 (9 : Int32) m))))) < (0 : Int32) then (-9 : Int32) else (if x2 = (0 : Int32) then (-(v_X12_of x1 (10 : Int32) m)) else (if x2 = (1 : Int32) then (((v_X12_of x1 (9 : Int32) m) + (v_X12_turnedSize x1 (0 : Int32) m)) - (m.1 434 x1.toNatClampNeg)) else (if x2 = (2 : Int32) then (((v_X12_of x1 (10 : Int32) m) + (v_X12_turnedSize x1 (1 : Int32) m)) - (m.1 435 x1.toNatClampNeg)) else (-(v_X12_of x1 (9 : Int32) m)))))) → J X (0, 0) 101 [] [.int y19] (fl ad m) := by
        intro y19 e_y19
        subst e_y19
        exact J_iret hX hR dX12_reachOf_101 (And.intro (congrArg (fun z => some (Value.int z)) (show (if (if x2 = (0 : Int32) then (-(v_X12_of x1 (10 : Int32) m)) else (if x2 = (1 : Int32) then (((v_X12_of x1 (9 : Int32) m) + (v_X12_turnedSize x1 (0 : Int32) m)) - (m.1 434 x1.toNatClampNeg)) else (if x2 = (2 : Int32) then (((v_X12_of x1 (10 : Int32) m) + (v_X12_turnedSize x1 (1 : Int32) m)) - (m.1 435 x1.toNatClampNeg)) else (-(v_X12_of x1 (9 : Int32) m))))) < (0 : Int32) then (-9 : Int32) else (if x2 = (0 : Int32) then (-(v_X12_of x1 (10 : Int32) m)) else (if x2 = (1 : Int32) then (((v_X12_of x1 (9 : Int32) m) + (v_X12_turnedSize x1 (0 : Int32) m)) - (m.1 434 x1.toNatClampNeg)) else (if x2 = (2 : Int32) then (((v_X12_of x1 (10 : Int32) m) + (v_X12_turnedSize x1 (1 : Int32) m)) - (m.1 435 x1.toNatClampNeg)) else (-(v_X12_of x1 (9 : Int32) m)))))) = v_X12_reachOf x1 x2 m from (if_neg c2).symm)) rfl)
      refine J_if_lt (tgt := 99) hX dX12_reachOf_91 (by decide) (fun c12 => ?_) (fun c12 => ?_)
      · refine J_bipush (v := (-9 : Int32)) hX dX12_reachOf_99 (by decide) ?_
        exact J_sub [] rfl (hj18 _ (if_pos c12).symm)
      · refine J_iload hX dX12_reachOf_94 0 rfl ?_
        refine J_goto (tgt := 101) hX dX12_reachOf_96 (by decide) ?_
        exact J_sub [] rfl (hj18 _ (if_neg c12).symm)
    have g20 := g15
    refine J_if_ne (tgt := 38) hX dX12_reachOf_29 (by decide) (fun c5 => ?_) (fun c5 => ?_)
    · have g21 := g20 c5
      obtain ⟨g22, g23⟩ := g21
      refine J_iload_n hX dX12_reachOf_38 rfl 4 rfl ?_
      refine J_iconst (v := (1 : Int32)) hX dX12_reachOf_39 (by decide) ?_
      refine J_icmp_ne (tgt := 61) hX dX12_reachOf_40 (by decide) (fun c6 => ?_) (fun c6 => ?_)
      · have g24 := g22 c6
        have g25 := g24
        refine J_iload_n hX dX12_reachOf_61 rfl 4 rfl ?_
        refine J_iconst (v := (2 : Int32)) hX dX12_reachOf_62 (by decide) ?_
        refine J_icmp_ne (tgt := 85) hX dX12_reachOf_63 (by decide) (fun c7 => ?_) (fun c7 => ?_)
        · refine J_iload_n hX dX12_reachOf_85 rfl 1 rfl ?_
          refine J_ineg hX dX12_reachOf_86 ?_
          exact J_sub [] rfl (hj16 _ ((if_neg c5).trans ((if_neg c6).trans (if_neg c7))).symm)
        · have g26 := g25 c7
          obtain ⟨b8, b9⟩ := g26
          refine J_iload hX dX12_reachOf_66 0 rfl ?_
          refine J_aload_n hX dX12_reachOf_68 rfl 2 rfl ?_
          refine J_iload_n hX dX12_reachOf_69 rfl 3 rfl ?_
          refine J_iconst (v := (1 : Int32)) hX dX12_reachOf_70 (by decide) ?_
          refine J_callV hX km_X12_turnedSize kl_RX12_260 dX12_reachOf_71 ka_426 (by decide) [.int x1, .int (1 : Int32)] ⟨Nat.le_of_ble_eq_true rfl, Nat.le_of_ble_eq_true rfl⟩ rfl rfl (Nat.le_of_ble_eq_true rfl) (c_X12_turnedSize x1 (1 : Int32) m b8) (fun v w2 hk => ?_)
          obtain ⟨rfl, rfl⟩ := hk
          show J X (0, 0) 74 [(4, .int (v_X12_of x1 (10 : Int32) m)), (3, .int (v_X12_of x1 (9 : Int32) m)), (0, .ref (ad 426)), (1, .int x1), (2, .int x2)] [.int (v_X12_turnedSize x1 (1 : Int32) m), .int (v_X12_of x1 (10 : Int32) m)] (fl ad m)
          refine J_iadd hX dX12_reachOf_74 ?_
          refine J_aload_n hX dX12_reachOf_75 rfl 2 rfl ?_
          refine J_getR hX kf_RX12_35 dX12_reachOf_76 ka_426 (by decide) rfl rh_426_10 ?_
          refine J_iload_n hX dX12_reachOf_79 rfl 3 rfl ?_
          refine J_iald (j := x1.toNatClampNeg) hX dX12_reachOf_80 ka_435 le_435 b9 rfl ?_
          refine J_isub hX dX12_reachOf_81 ?_
          refine J_goto (tgt := 87) hX dX12_reachOf_82 (by decide) ?_
          exact J_sub [] rfl (hj16 _ ((if_neg c5).trans ((if_neg c6).trans (if_pos c7))).symm)
      · have g27 := g23 c6
        obtain ⟨b10, b11⟩ := g27
        refine J_iload_n hX dX12_reachOf_43 rfl 1 rfl ?_
        refine J_aload_n hX dX12_reachOf_44 rfl 2 rfl ?_
        refine J_iload_n hX dX12_reachOf_45 rfl 3 rfl ?_
        refine J_iconst (v := (0 : Int32)) hX dX12_reachOf_46 (by decide) ?_
        refine J_callV hX km_X12_turnedSize kl_RX12_260 dX12_reachOf_47 ka_426 (by decide) [.int x1, .int (0 : Int32)] ⟨Nat.le_of_ble_eq_true rfl, Nat.le_of_ble_eq_true rfl⟩ rfl rfl (Nat.le_of_ble_eq_true rfl) (c_X12_turnedSize x1 (0 : Int32) m b10) (fun v w2 hk => ?_)
        obtain ⟨rfl, rfl⟩ := hk
        show J X (0, 0) 50 [(4, .int (v_X12_of x1 (10 : Int32) m)), (3, .int (v_X12_of x1 (9 : Int32) m)), (0, .ref (ad 426)), (1, .int x1), (2, .int x2)] [.int (v_X12_turnedSize x1 (0 : Int32) m), .int (v_X12_of x1 (9 : Int32) m)] (fl ad m)
        refine J_iadd hX dX12_reachOf_50 ?_
        refine J_aload_n hX dX12_reachOf_51 rfl 2 rfl ?_
        refine J_getR hX kf_RX12_32 dX12_reachOf_52 ka_426 (by decide) rfl rh_426_9 ?_
        refine J_iload_n hX dX12_reachOf_55 rfl 3 rfl ?_
        refine J_iald (j := x1.toNatClampNeg) hX dX12_reachOf_56 ka_434 le_434 b11 rfl ?_
        refine J_isub hX dX12_reachOf_57 ?_
        refine J_goto (tgt := 87) hX dX12_reachOf_58 (by decide) ?_
        exact J_sub [] rfl (hj16 _ ((if_neg c5).trans (if_pos c6)).symm)
    · refine J_iload hX dX12_reachOf_32 0 rfl ?_
      refine J_ineg hX dX12_reachOf_34 ?_
      refine J_goto (tgt := 87) hX dX12_reachOf_35 (by decide) ?_
      exact J_sub [] rfl (hj16 _ (if_pos c5).symm)
  · refine J_bipush (v := (-9 : Int32)) hX dX12_reachOf_8 (by decide) ?_
    exact J_iret hX hR dX12_reachOf_10 (And.intro (congrArg (fun z => some (Value.int z)) (show (-9 : Int32) = v_X12_reachOf x1 x2 m from (if_pos c2).symm)) rfl)
theorem bv_X12_isFlap (x1 : Int32) (m : Mm) : bo (v_X12_isFlap x1 m) := (bo_ite bo_0 bo_1)
set_option maxRecDepth 100000 in
theorem c_X12_isFlap {G : GT} {ad : Nat → Nat} (x1 : Int32) (m : Mm) (h : s_X12_isFlap x1) : Cn G yX12_isFlap cX12_isFlap 2 (some .boolean) (rmN 1 22) [.ref (ad 426), .int x1] (0, 0) (fl ad m) (fun v w => v = some (.int (v_X12_isFlap x1 m)) ∧ w = fl ad m) := by
  unfold s_X12_isFlap at h
  refine Cn.of pn_RX12 (Nat.le_of_ble_eq_true rfl) (fun X hG hX hR => ?_)
  subst hG
  have hX : Cx X cX12_isFlap 2 RX12 (rmN 1 22) := hX
  show J X (0, 0) 0 [(0, .ref (ad 426)), (1, .int x1)] [] (fl ad m)
  have b1 := h
  refine J_aload_n hX dX12_isFlap_0 rfl 0 rfl ?_
  refine J_iload_n hX dX12_isFlap_1 rfl 1 rfl ?_
  refine J_bipush (v := (6 : Int32)) hX dX12_isFlap_2 (by decide) ?_
  refine J_callV hX km_X12_of kl_RX12_91 dX12_isFlap_4 ka_426 (by decide) [.int x1, .int (6 : Int32)] ⟨Nat.le_of_ble_eq_true rfl, Nat.le_of_ble_eq_true rfl⟩ rfl rfl (Nat.le_of_ble_eq_true rfl) (c_X12_of x1 (6 : Int32) m b1) (fun v w2 hk => ?_)
  obtain ⟨rfl, rfl⟩ := hk
  show J X (0, 0) 7 [(0, .ref (ad 426)), (1, .int x1)] [.int (v_X12_of x1 (6 : Int32) m)] (fl ad m)
  refine J_bipush (v := (-9 : Int32)) hX dX12_isFlap_7 (by decide) ?_
  have hj3 : ∀ y4 : Int32, y4 = (if (v_X12_of x1 (6 : Int32) m) = (-9 : Int32) then (0 : Int32) else (1 : Int32)) → J X (0, 0) 17 [] [.int y4] (fl ad m) := by
    intro y4 e_y4
    subst e_y4
    exact J_zret hX hR dX12_isFlap_17 (bo_ite bo_0 bo_1) (And.intro (congrArg (fun z => some (Value.int z)) (show (if (v_X12_of x1 (6 : Int32) m) = (-9 : Int32) then (0 : Int32) else (1 : Int32)) = v_X12_isFlap x1 m from rfl)) rfl)
  refine J_icmp_eq (tgt := 16) hX dX12_isFlap_9 (by decide) (fun c2 => ?_) (fun c2 => ?_)
  · refine J_iconst (v := (0 : Int32)) hX dX12_isFlap_16 (by decide) ?_
    exact J_sub [] rfl (hj3 _ (if_pos c2).symm)
  · refine J_iconst (v := (1 : Int32)) hX dX12_isFlap_12 (by decide) ?_
    refine J_goto (tgt := 17) hX dX12_isFlap_13 (by decide) ?_
    exact J_sub [] rfl (hj3 _ (if_neg c2).symm)
set_option maxRecDepth 100000 in
theorem tb_X12_openOf_l40 {X : XT} {ad : Nat → Nat} {K : Int32 → Mm → Prop} (hX : Cx X cX12_openOf 10 RX12 (rmN 2 47)) (hR : Rx X (some .int) (kI ad K) (0, 0)) {rec : Int32 → Int32 → Mm → Prop} {k165 : Int32 → Mm → Prop} (x1 : Int32) (x2 : Int32) (x3 : Int32) (x4 : Int32) (x5 : Int32) (x6 : Int32) (hrec : ∀ (x7 : Int32) (x8 : Int32) (m : Mm), rec x7 x8 m → J X (0, 0) 40 [(0, .ref (ad 426)), (1, .int x1), (2, .int x2), (3, .int x3), (4, .int x4), (5, .int x5), (6, .int x6), (7, .int x7), (8, .int x8)] [] (fl ad m)) (hk165 : ∀ (z7 : Int32) (m : Mm), k165 z7 m → J X (0, 0) 165 [(0, .ref (ad 426)), (1, .int x1), (2, .int x2), (3, .int x3), (4, .int x4), (5, .int x5), (6, .int x6), (7, .int z7)] [] (fl ad m)) (x7 : Int32) (x8 : Int32) (m : Mm) (h : wb_X12_openOf_l40 rec k165 K x1 x2 x3 x4 x5 x6 x7 x8 m) : J X (0, 0) 40 [(0, .ref (ad 426)), (1, .int x1), (2, .int x2), (3, .int x3), (4, .int x4), (5, .int x5), (6, .int x6), (7, .int x7), (8, .int x8)] [] (fl ad m) := by
  unfold wb_X12_openOf_l40 at h
  refine J_iload hX dX12_openOf_40 8 rfl ?_
  refine J_bipush (v := (9 : Int32)) hX dX12_openOf_42 (by decide) ?_
  refine J_aload_n hX dX12_openOf_44 rfl 0 rfl ?_
  refine J_getI hX kf_RX12_243 dX12_openOf_45 ka_426 (by decide) rfl ?_
  refine J_imul hX dX12_openOf_48 ?_
  refine J_icmp_ge (tgt := 165) hX dX12_openOf_49 (by decide) (fun c7 => ?_) (fun c7 => ?_)
  · replace h := Eq.mp (if_pos c7) h
    exact J_sub [0, 1, 2, 3, 4, 5, 6, 7] rfl (hk165 x7 m h)
  · replace h := Eq.mp (if_neg c7) h
    refine J_aload_n hX dX12_openOf_52 rfl 0 rfl ?_
    refine J_getR hX kf_RX12_68 dX12_openOf_53 ka_426 (by decide) rfl rh_426_24 ?_
    refine J_iload hX dX12_openOf_56 8 rfl ?_
    obtain ⟨b8, h⟩ := h
    refine J_iald (j := x8.toNatClampNeg) hX dX12_openOf_58 ka_446 le_446 b8 rfl ?_
    refine J_iload_n hX dX12_openOf_59 rfl 1 rfl ?_
    obtain ⟨g20, h⟩ := h
    have hj37 : ∀ y21 : Int32, y21 = (if (m.1 446 x8.toNatClampNeg) = x1 then (if (m.1 446 (x8 + (1 : Int32)).toNatClampNeg) = x2 then (1 : Int32) else (if (m.1 446 (x8 + (2 : Int32)).toNatClampNeg) = x1 then (if (m.1 446 (x8 + (3 : Int32)).toNatClampNeg) = x2 then (1 : Int32) else (0 : Int32)) else (0 : Int32))) else (if (m.1 446 (x8 + (2 : Int32)).toNatClampNeg) = x1 then (if (m.1 446 (x8 + (3 : Int32)).toNatClampNeg) = x2 then (1 : Int32) else (0 : Int32)) else (0 : Int32))) → J X (0, 0) 107 [(0, .ref (ad 426)), (1, .int x1), (2, .int x2), (3, .int x3), (4, .int x4), (5, .int x5), (6, .int x6), (7, .int x7), (8, .int x8)] [.int y21] (fl ad m) := by
      intro y21 e_y21
      replace h := h y21 e_y21
      refine J_istore (lv2 := [(9, .int y21), (0, .ref (ad 426)), (1, .int x1), (2, .int x2), (3, .int x3), (4, .int x4), (5, .int x5), (6, .int x6), (7, .int x7), (8, .int x8)]) hX dX12_openOf_107 (Nat.le_of_ble_eq_true rfl) rfl ?_
      refine J_iload hX dX12_openOf_109 8 rfl ?_
      obtain ⟨g28, h⟩ := h
      have hj30 : ∀ y29 : Int32, y29 = (if x7 = (0 : Int32) then (if y21 = (0 : Int32) then (0 : Int32) else (if x6 < ((m.1 446 (x8 + (5 : Int32)).toNatClampNeg) - x3) then (0 : Int32) else (if ((m.1 446 (x8 + (6 : Int32)).toNatClampNeg) + x3) ≤ x6 then (0 : Int32) else (1 : Int32)))) else (1 : Int32)) → J X (0, 0) 157 [(0, .ref (ad 426)), (1, .int x1), (2, .int x2), (3, .int x3), (4, .int x4), (5, .int x5), (6, .int x6), (8, .int x8)] [.int y29] (fl ad m) := by
        intro y29 e_y29
        replace h := h y29 e_y29
        refine J_istore (lv2 := [(7, .int y29), (0, .ref (ad 426)), (1, .int x1), (2, .int x2), (3, .int x3), (4, .int x4), (5, .int x5), (6, .int x6), (8, .int x8)]) hX dX12_openOf_157 (Nat.le_of_ble_eq_true rfl) rfl ?_
        refine J_iinc (x := (x8 + (9 : Int32))) (lv2 := [(8, .int (x8 + (9 : Int32))), (7, .int y29), (0, .ref (ad 426)), (1, .int x1), (2, .int x2), (3, .int x3), (4, .int x4), (5, .int x5), (6, .int x6)]) hX dX12_openOf_159 8 rfl rfl (Nat.le_of_ble_eq_true rfl) rfl ?_
        refine J_goto (tgt := 40) hX dX12_openOf_162 (by decide) ?_
        exact J_sub [2, 3, 4, 5, 6, 7, 8, 1, 0] rfl (hrec y29 (x8 + (9 : Int32)) m h)
      have g31 := g28
      refine J_if_ne (tgt := 152) hX dX12_openOf_111 (by decide) (fun c22 => ?_) (fun c22 => ?_)
      · refine J_iconst (v := (1 : Int32)) hX dX12_openOf_152 (by decide) ?_
        refine J_goto (tgt := 157) hX dX12_openOf_153 (by decide) ?_
        exact J_sub [1, 2, 3, 4, 5, 6, 7, 9] rfl (hj30 _ (if_neg c22).symm)
      · have g32 := g31 c22
        have g33 := g32
        refine J_iload hX dX12_openOf_114 0 rfl ?_
        refine J_if_eq (tgt := 156) hX dX12_openOf_116 (by decide) (fun c23 => ?_) (fun c23 => ?_)
        · refine J_iconst (v := (0 : Int32)) hX dX12_openOf_156 (by decide) ?_
          exact J_sub [1, 2, 3, 4, 5, 6, 7, 9] rfl (hj30 _ ((if_pos c22).trans (if_pos c23)).symm)
        · have g34 := g33 c23
          obtain ⟨b24, g35⟩ := g34
          refine J_iload hX dX12_openOf_119 7 rfl ?_
          refine J_aload_n hX dX12_openOf_121 rfl 1 rfl ?_
          refine J_getR hX kf_RX12_68 dX12_openOf_122 ka_426 (by decide) rfl rh_426_24 ?_
          refine J_iload hX dX12_openOf_125 9 rfl ?_
          refine J_iconst (v := (5 : Int32)) hX dX12_openOf_127 (by decide) ?_
          refine J_iadd hX dX12_openOf_128 ?_
          refine J_iald (j := (x8 + (5 : Int32)).toNatClampNeg) hX dX12_openOf_129 ka_446 le_446 b24 rfl ?_
          refine J_iload_n hX dX12_openOf_130 rfl 4 rfl ?_
          refine J_isub hX dX12_openOf_131 ?_
          refine J_icmp_lt (tgt := 156) hX dX12_openOf_132 (by decide) (fun c25 => ?_) (fun c25 => ?_)
          · refine J_iconst (v := (0 : Int32)) hX dX12_openOf_156 (by decide) ?_
            exact J_sub [1, 2, 3, 4, 5, 6, 7, 9] rfl (hj30 _ ((if_pos c22).trans ((if_neg c23).trans (if_pos c25))).symm)
          · have g36 := g35 c25
            have b26 := g36
            refine J_iload hX dX12_openOf_135 7 rfl ?_
            refine J_aload_n hX dX12_openOf_137 rfl 1 rfl ?_
            refine J_getR hX kf_RX12_68 dX12_openOf_138 ka_426 (by decide) rfl rh_426_24 ?_
            refine J_iload hX dX12_openOf_141 9 rfl ?_
            refine J_bipush (v := (6 : Int32)) hX dX12_openOf_143 (by decide) ?_
            refine J_iadd hX dX12_openOf_145 ?_
            refine J_iald (j := (x8 + (6 : Int32)).toNatClampNeg) hX dX12_openOf_146 ka_446 le_446 b26 rfl ?_
            refine J_iload_n hX dX12_openOf_147 rfl 4 rfl ?_
            refine J_iadd hX dX12_openOf_148 ?_
            refine J_icmp_ge (tgt := 156) hX dX12_openOf_149 (by decide) (fun c27 => ?_) (fun c27 => ?_)
            · refine J_iconst (v := (0 : Int32)) hX dX12_openOf_156 (by decide) ?_
              exact J_sub [1, 2, 3, 4, 5, 6, 7, 9] rfl (hj30 _ ((if_pos c22).trans ((if_neg c23).trans ((if_neg c25).trans (if_pos c27)))).symm)
            · refine J_iconst (v := (1 : Int32)) hX dX12_openOf_152 (by decide) ?_
              refine J_goto (tgt := 157) hX dX12_openOf_153 (by decide) ?_
              exact J_sub [1, 2, 3, 4, 5, 6, 7, 9] rfl (hj30 _ ((if_pos c22).trans ((if_neg c23).trans ((if_neg c25).trans (if_neg c27)))).symm)
    obtain ⟨g38, g39⟩ := g20
    refine J_icmp_ne (tgt := 76) hX dX12_openOf_60 (by decide) (fun c9 => ?_) (fun c9 => ?_)
    · have g40 := g38 c9
      obtain ⟨b10, g41⟩ := g40
      refine J_aload_n hX dX12_openOf_76 rfl 0 rfl ?_
      refine J_getR hX kf_RX12_68 dX12_openOf_77 ka_426 (by decide) rfl rh_426_24 ?_
      refine J_iload hX dX12_openOf_80 8 rfl ?_
      refine J_iconst (v := (2 : Int32)) hX dX12_openOf_82 (by decide) ?_
      refine J_iadd hX dX12_openOf_83 ?_
      refine J_iald (j := (x8 + (2 : Int32)).toNatClampNeg) hX dX12_openOf_84 ka_446 le_446 b10 rfl ?_
      refine J_iload_n hX dX12_openOf_85 rfl 1 rfl ?_
      refine J_icmp_ne (tgt := 106) hX dX12_openOf_86 (by decide) (fun c11 => ?_) (fun c11 => ?_)
      · refine J_iconst (v := (0 : Int32)) hX dX12_openOf_106 (by decide) ?_
        exact J_sub [0, 1, 2, 3, 4, 5, 6, 7, 8] rfl (hj37 _ ((if_neg c9).trans (if_neg c11)).symm)
      · have g42 := g41 c11
        have b12 := g42
        refine J_aload_n hX dX12_openOf_89 rfl 0 rfl ?_
        refine J_getR hX kf_RX12_68 dX12_openOf_90 ka_426 (by decide) rfl rh_426_24 ?_
        refine J_iload hX dX12_openOf_93 8 rfl ?_
        refine J_iconst (v := (3 : Int32)) hX dX12_openOf_95 (by decide) ?_
        refine J_iadd hX dX12_openOf_96 ?_
        refine J_iald (j := (x8 + (3 : Int32)).toNatClampNeg) hX dX12_openOf_97 ka_446 le_446 b12 rfl ?_
        refine J_iload_n hX dX12_openOf_98 rfl 2 rfl ?_
        refine J_icmp_ne (tgt := 106) hX dX12_openOf_99 (by decide) (fun c13 => ?_) (fun c13 => ?_)
        · refine J_iconst (v := (0 : Int32)) hX dX12_openOf_106 (by decide) ?_
          exact J_sub [0, 1, 2, 3, 4, 5, 6, 7, 8] rfl (hj37 _ ((if_neg c9).trans ((if_pos c11).trans (if_neg c13))).symm)
        · refine J_iconst (v := (1 : Int32)) hX dX12_openOf_102 (by decide) ?_
          refine J_goto (tgt := 107) hX dX12_openOf_103 (by decide) ?_
          exact J_sub [0, 1, 2, 3, 4, 5, 6, 7, 8] rfl (hj37 _ ((if_neg c9).trans ((if_pos c11).trans (if_pos c13))).symm)
    · have g43 := g39 c9
      obtain ⟨b14, g44⟩ := g43
      refine J_aload_n hX dX12_openOf_63 rfl 0 rfl ?_
      refine J_getR hX kf_RX12_68 dX12_openOf_64 ka_426 (by decide) rfl rh_426_24 ?_
      refine J_iload hX dX12_openOf_67 8 rfl ?_
      refine J_iconst (v := (1 : Int32)) hX dX12_openOf_69 (by decide) ?_
      refine J_iadd hX dX12_openOf_70 ?_
      refine J_iald (j := (x8 + (1 : Int32)).toNatClampNeg) hX dX12_openOf_71 ka_446 le_446 b14 rfl ?_
      refine J_iload_n hX dX12_openOf_72 rfl 2 rfl ?_
      refine J_icmp_eq (tgt := 102) hX dX12_openOf_73 (by decide) (fun c15 => ?_) (fun c15 => ?_)
      · refine J_iconst (v := (1 : Int32)) hX dX12_openOf_102 (by decide) ?_
        refine J_goto (tgt := 107) hX dX12_openOf_103 (by decide) ?_
        exact J_sub [0, 1, 2, 3, 4, 5, 6, 7, 8] rfl (hj37 _ ((if_pos c9).trans (if_pos c15)).symm)
      · have g45 := g44 c15
        obtain ⟨b16, g46⟩ := g45
        refine J_aload_n hX dX12_openOf_76 rfl 0 rfl ?_
        refine J_getR hX kf_RX12_68 dX12_openOf_77 ka_426 (by decide) rfl rh_426_24 ?_
        refine J_iload hX dX12_openOf_80 8 rfl ?_
        refine J_iconst (v := (2 : Int32)) hX dX12_openOf_82 (by decide) ?_
        refine J_iadd hX dX12_openOf_83 ?_
        refine J_iald (j := (x8 + (2 : Int32)).toNatClampNeg) hX dX12_openOf_84 ka_446 le_446 b16 rfl ?_
        refine J_iload_n hX dX12_openOf_85 rfl 1 rfl ?_
        refine J_icmp_ne (tgt := 106) hX dX12_openOf_86 (by decide) (fun c17 => ?_) (fun c17 => ?_)
        · refine J_iconst (v := (0 : Int32)) hX dX12_openOf_106 (by decide) ?_
          exact J_sub [0, 1, 2, 3, 4, 5, 6, 7, 8] rfl (hj37 _ ((if_pos c9).trans ((if_neg c15).trans (if_neg c17))).symm)
        · have g47 := g46 c17
          have b18 := g47
          refine J_aload_n hX dX12_openOf_89 rfl 0 rfl ?_
          refine J_getR hX kf_RX12_68 dX12_openOf_90 ka_426 (by decide) rfl rh_426_24 ?_
          refine J_iload hX dX12_openOf_93 8 rfl ?_
          refine J_iconst (v := (3 : Int32)) hX dX12_openOf_95 (by decide) ?_
          refine J_iadd hX dX12_openOf_96 ?_
          refine J_iald (j := (x8 + (3 : Int32)).toNatClampNeg) hX dX12_openOf_97 ka_446 le_446 b18 rfl ?_
          refine J_iload_n hX dX12_openOf_98 rfl 2 rfl ?_
          refine J_icmp_ne (tgt := 106) hX dX12_openOf_99 (by decide) (fun c19 => ?_) (fun c19 => ?_)
          · refine J_iconst (v := (0 : Int32)) hX dX12_openOf_106 (by decide) ?_
            exact J_sub [0, 1, 2, 3, 4, 5, 6, 7, 8] rfl (hj37 _ ((if_pos c9).trans ((if_neg c15).trans ((if_pos c17).trans (if_neg c19)))).symm)
          · refine J_iconst (v := (1 : Int32)) hX dX12_openOf_102 (by decide) ?_
            refine J_goto (tgt := 107) hX dX12_openOf_103 (by decide) ?_
            exact J_sub [0, 1, 2, 3, 4, 5, 6, 7, 8] rfl (hj37 _ ((if_pos c9).trans ((if_neg c15).trans ((if_pos c17).trans (if_pos c19)))).symm)
set_option maxRecDepth 100000 in
theorem t_X12_openOf_l40 {X : XT} {ad : Nat → Nat} {K : Int32 → Mm → Prop} (hX : Cx X cX12_openOf 10 RX12 (rmN 2 47)) (hR : Rx X (some .int) (kI ad K) (0, 0)) {k165 : Int32 → Mm → Prop} (x1 : Int32) (x2 : Int32) (x3 : Int32) (x4 : Int32) (x5 : Int32) (x6 : Int32) (hk165 : ∀ (z7 : Int32) (m : Mm), k165 z7 m → J X (0, 0) 165 [(0, .ref (ad 426)), (1, .int x1), (2, .int x2), (3, .int x3), (4, .int x4), (5, .int x5), (6, .int x6), (7, .int z7)] [] (fl ad m)) : ∀ (n : Nat) (x7 : Int32) (x8 : Int32) (m : Mm), wp_X12_openOf_l40 k165 K x1 x2 x3 x4 x5 x6 n x7 x8 m → J X (0, 0) 40 [(0, .ref (ad 426)), (1, .int x1), (2, .int x2), (3, .int x3), (4, .int x4), (5, .int x5), (6, .int x6), (7, .int x7), (8, .int x8)] [] (fl ad m) := by
  intro n
  induction n with
  | zero => intro x7 x8 m h; exact h.elim
  | succ n ih => intro x7 x8 m h; exact tb_X12_openOf_l40 hX hR x1 x2 x3 x4 x5 x6 ih hk165 x7 x8 m h
set_option maxRecDepth 100000 in
theorem tb_X12_openOf_l21 {X : XT} {ad : Nat → Nat} {K : Int32 → Mm → Prop} (hX : Cx X cX12_openOf 10 RX12 (rmN 2 47)) (hR : Rx X (some .int) (kI ad K) (0, 0)) {rec : Int32 → Int32 → Mm → Prop} (x1 : Int32) (x2 : Int32) (x3 : Int32) (x4 : Int32) (hrec : ∀ (x5 : Int32) (x6 : Int32) (m : Mm), rec x5 x6 m → J X (0, 0) 21 [(0, .ref (ad 426)), (1, .int x1), (2, .int x2), (3, .int x3), (4, .int x4), (5, .int x5), (6, .int x6)] [] (fl ad m)) (x5 : Int32) (x6 : Int32) (m : Mm) (h : wb_X12_openOf_l21 rec K x1 x2 x3 x4 x5 x6 m) : J X (0, 0) 21 [(0, .ref (ad 426)), (1, .int x1), (2, .int x2), (3, .int x3), (4, .int x4), (5, .int x5), (6, .int x6)] [] (fl ad m) := by
  unfold wb_X12_openOf_l21 at h
  refine J_iload hX dX12_openOf_21 6 rfl ?_
  refine J_aload_n hX dX12_openOf_23 rfl 0 rfl ?_
  refine J_iload_n hX dX12_openOf_24 rfl 1 rfl ?_
  refine J_iload_n hX dX12_openOf_25 rfl 2 rfl ?_
  refine J_iload hX dX12_openOf_26 4 rfl ?_
  obtain ⟨b5, h⟩ := h
  refine J_callV hX km_X12_sideTo kl_RX12_240 dX12_openOf_28 ka_426 (by decide) [.int x1, .int x2, .int x4] ⟨Nat.le_of_ble_eq_true rfl, Nat.le_of_ble_eq_true rfl⟩ rfl rfl (Nat.le_of_ble_eq_true rfl) (c_X12_sideTo x1 x2 x4 m b5) (fun v w2 hk => ?_)
  obtain ⟨rfl, rfl⟩ := hk
  show J X (0, 0) 31 [(0, .ref (ad 426)), (1, .int x1), (2, .int x2), (3, .int x3), (4, .int x4), (5, .int x5), (6, .int x6)] [.int (v_X12_sideTo x1 x2 x4 m), .int x6] (fl ad m)
  refine J_icmp_ge (tgt := 186) hX dX12_openOf_31 (by decide) (fun c6 => ?_) (fun c6 => ?_)
  · replace h := Eq.mp (if_pos c6) h
    refine J_iload hX dX12_openOf_186 5 rfl ?_
    exact J_iret hX hR dX12_openOf_188 ⟨_, _, rfl, rfl, h⟩
  · replace h := Eq.mp (if_neg c6) h
    refine J_iconst (v := (0 : Int32)) hX dX12_openOf_34 (by decide) ?_
    refine J_istore (lv2 := [(7, .int (0 : Int32)), (0, .ref (ad 426)), (1, .int x1), (2, .int x2), (3, .int x3), (4, .int x4), (5, .int x5), (6, .int x6)]) hX dX12_openOf_35 (Nat.le_of_ble_eq_true rfl) rfl ?_
    refine J_iconst (v := (0 : Int32)) hX dX12_openOf_37 (by decide) ?_
    refine J_istore (lv2 := [(8, .int (0 : Int32)), (7, .int (0 : Int32)), (0, .ref (ad 426)), (1, .int x1), (2, .int x2), (3, .int x3), (4, .int x4), (5, .int x5), (6, .int x6)]) hX dX12_openOf_38 (Nat.le_of_ble_eq_true rfl) rfl ?_
    refine J_sub [2, 3, 4, 5, 6, 7, 8, 1, 0] rfl (t_X12_openOf_l40 hX hR x1 x2 x3 x4 x5 x6 (fun y48 m49 h => ?_) FU (0 : Int32) (0 : Int32) m h)
    refine J_iload hX dX12_openOf_165 5 rfl ?_
    refine J_iload hX dX12_openOf_167 7 rfl ?_
    have hj53 : ∀ y51 : Int32, y51 = (if y48 = (0 : Int32) then (1 : Int32) else (0 : Int32)) → J X (0, 0) 177 [(0, .ref (ad 426)), (1, .int x1), (2, .int x2), (3, .int x3), (4, .int x4), (6, .int x6)] [.int y51, .int x5] (fl ad m49) := by
      intro y51 e_y51
      replace h := h y51 e_y51
      refine J_iadd hX dX12_openOf_177 ?_
      refine J_nmI (fun y52 e_y52 => ?_)
      replace h := h y52 e_y52
      refine J_istore (lv2 := [(5, .int y52), (0, .ref (ad 426)), (1, .int x1), (2, .int x2), (3, .int x3), (4, .int x4), (6, .int x6)]) hX dX12_openOf_178 (Nat.le_of_ble_eq_true rfl) rfl ?_
      refine J_iinc (x := (x6 + (1 : Int32))) (lv2 := [(6, .int (x6 + (1 : Int32))), (5, .int y52), (0, .ref (ad 426)), (1, .int x1), (2, .int x2), (3, .int x3), (4, .int x4)]) hX dX12_openOf_180 6 rfl rfl (Nat.le_of_ble_eq_true rfl) rfl ?_
      refine J_goto (tgt := 21) hX dX12_openOf_183 (by decide) ?_
      exact J_sub [2, 3, 4, 5, 6, 1, 0] rfl (hrec y52 (x6 + (1 : Int32)) m49 h)
    refine J_if_eq (tgt := 176) hX dX12_openOf_169 (by decide) (fun c50 => ?_) (fun c50 => ?_)
    · refine J_iconst (v := (1 : Int32)) hX dX12_openOf_176 (by decide) ?_
      exact J_sub [0, 1, 2, 3, 4, 6] rfl (hj53 _ (if_pos c50).symm)
    · refine J_iconst (v := (0 : Int32)) hX dX12_openOf_172 (by decide) ?_
      refine J_goto (tgt := 177) hX dX12_openOf_173 (by decide) ?_
      exact J_sub [0, 1, 2, 3, 4, 6] rfl (hj53 _ (if_neg c50).symm)
set_option maxRecDepth 100000 in
theorem t_X12_openOf_l21 {X : XT} {ad : Nat → Nat} {K : Int32 → Mm → Prop} (hX : Cx X cX12_openOf 10 RX12 (rmN 2 47)) (hR : Rx X (some .int) (kI ad K) (0, 0)) (x1 : Int32) (x2 : Int32) (x3 : Int32) (x4 : Int32) : ∀ (n : Nat) (x5 : Int32) (x6 : Int32) (m : Mm), wp_X12_openOf_l21 K x1 x2 x3 x4 n x5 x6 m → J X (0, 0) 21 [(0, .ref (ad 426)), (1, .int x1), (2, .int x2), (3, .int x3), (4, .int x4), (5, .int x5), (6, .int x6)] [] (fl ad m) := by
  intro n
  induction n with
  | zero => intro x5 x6 m h; exact h.elim
  | succ n ih => intro x5 x6 m h; exact tb_X12_openOf_l21 hX hR x1 x2 x3 x4 ih x5 x6 m h
set_option maxRecDepth 100000 in
theorem c_X12_openOf {G : GT} {ad : Nat → Nat} (x1 : Int32) (x2 : Int32) (x3 : Int32) (m : Mm) (K : Int32 → Mm → Prop) (h : wp_X12_openOf x1 x2 x3 m K) : Cn G yX12_openOf cX12_openOf 10 (some .int) (rmN 2 47) [.ref (ad 426), .int x1, .int x2, .int x3] (0, 0) (fl ad m) (kI ad K) := by
  unfold wp_X12_openOf at h
  refine Cn.of pn_RX12 (Nat.le_of_ble_eq_true rfl) (fun X hG hX hR => ?_)
  subst hG
  have hX : Cx X cX12_openOf 10 RX12 (rmN 2 47) := hX
  show J X (0, 0) 0 [(0, .ref (ad 426)), (1, .int x1), (2, .int x2), (3, .int x3)] [] (fl ad m)
  refine J_aload_n hX dX12_openOf_0 rfl 0 rfl ?_
  refine J_iload_n hX dX12_openOf_1 rfl 1 rfl ?_
  refine J_iload_n hX dX12_openOf_2 rfl 2 rfl ?_
  refine J_callV hX km_X12_sideAxis kl_RX12_234 dX12_openOf_3 ka_426 (by decide) [.int x1, .int x2] ⟨Nat.le_of_ble_eq_true rfl, Nat.le_of_ble_eq_true rfl⟩ rfl rfl (Nat.le_of_ble_eq_true rfl) (c_X12_sideAxis x1 x2 m _ h) (fun v w2 hk => ?_)
  obtain ⟨y2, m1, rfl, rfl, h⟩ := hk
  show J X (0, 0) 6 [(0, .ref (ad 426)), (1, .int x1), (2, .int x2), (3, .int x3)] [.int y2] (fl ad m1)
  refine J_istore (lv2 := [(4, .int y2), (0, .ref (ad 426)), (1, .int x1), (2, .int x2), (3, .int x3)]) hX dX12_openOf_6 (Nat.le_of_ble_eq_true rfl) rfl ?_
  refine J_iconst (v := (0 : Int32)) hX dX12_openOf_8 (by decide) ?_
  refine J_istore (lv2 := [(5, .int (0 : Int32)), (4, .int y2), (0, .ref (ad 426)), (1, .int x1), (2, .int x2), (3, .int x3)]) hX dX12_openOf_9 (Nat.le_of_ble_eq_true rfl) rfl ?_
  refine J_aload_n hX dX12_openOf_11 rfl 2 rfl ?_
  refine J_iload_n hX dX12_openOf_12 rfl 3 rfl ?_
  refine J_iload_n hX dX12_openOf_13 rfl 4 rfl ?_
  refine J_iload hX dX12_openOf_14 1 rfl ?_
  obtain ⟨b3, h⟩ := h
  refine J_callV hX km_X12_sideFrom kl_RX12_237 dX12_openOf_16 ka_426 (by decide) [.int x1, .int x2, .int y2] ⟨Nat.le_of_ble_eq_true rfl, Nat.le_of_ble_eq_true rfl⟩ rfl rfl (Nat.le_of_ble_eq_true rfl) (c_X12_sideFrom x1 x2 y2 m1 b3) (fun v w2 hk => ?_)
  obtain ⟨rfl, rfl⟩ := hk
  show J X (0, 0) 19 [(5, .int (0 : Int32)), (4, .int y2), (0, .ref (ad 426)), (1, .int x1), (2, .int x2), (3, .int x3)] [.int (v_X12_sideFrom x1 x2 y2 m1)] (fl ad m1)
  refine J_nmI (fun y4 e_y4 => ?_)
  replace h := h y4 e_y4
  refine J_istore (lv2 := [(6, .int y4), (5, .int (0 : Int32)), (4, .int y2), (0, .ref (ad 426)), (1, .int x1), (2, .int x2), (3, .int x3)]) hX dX12_openOf_19 (Nat.le_of_ble_eq_true rfl) rfl ?_
  refine J_sub [3, 4, 5, 6, 2, 1, 0] rfl (t_X12_openOf_l21 hX hR x1 x2 x3 y2 FU (0 : Int32) y4 m1 h)
set_option maxRecDepth 100000 in
theorem c_X12_finds {G : GT} {ad : Nat → Nat} (x1 : Int32) (x2 : Int32) (x3 : Int32) (x4 : Int32) (x5 : Int32) (m : Mm) (K : Mm → Prop) (h : wp_X12_finds x1 x2 x3 x4 x5 m K) : Cn G yX12_finds cX12_finds 8 none (rmN 0 0) [.ref (ad 426), .int x1, .int x2, .int x3, .int x4, .int x5] (0, 0) (fl ad m) (kV ad K) := by
  unfold wp_X12_finds at h
  refine Cn.of pn_RX12 (Nat.le_of_ble_eq_true rfl) (fun X hG hX hR => ?_)
  subst hG
  have hX : Cx X cX12_finds 8 RX12 (rmN 0 0) := hX
  show J X (0, 0) 0 [(0, .ref (ad 426)), (1, .int x1), (2, .int x2), (3, .int x3), (4, .int x4), (5, .int x5)] [] (fl ad m)
  refine J_aload_n hX dX12_finds_0 rfl 0 rfl ?_
  refine J_getR hX kf_RX12_7 dX12_finds_1 ka_426 (by decide) rfl rh_426_0 ?_
  refine J_sipush (v := (129 : Int32)) hX dX12_finds_4 (by decide) ?_
  refine J_iload_n hX dX12_finds_7 rfl 1 rfl ?_
  refine J_iadd hX dX12_finds_8 ?_
  obtain ⟨b1, h⟩ := h
  refine J_iald (j := ((129 : Int32) + x1).toNatClampNeg) hX dX12_finds_9 ka_427 le_427 b1 rfl ?_
  refine J_nmI (fun y2 e_y2 => ?_)
  replace h := h y2 e_y2
  refine J_istore (lv2 := [(6, .int y2), (0, .ref (ad 426)), (1, .int x1), (2, .int x2), (3, .int x3), (4, .int x4), (5, .int x5)]) hX dX12_finds_10 (Nat.le_of_ble_eq_true rfl) rfl ?_
  refine J_iload hX dX12_finds_12 0 rfl ?_
  refine J_if_eq (tgt := 22) hX dX12_finds_14 (by decide) (fun c3 => ?_) (fun c3 => ?_)
  · replace h := Eq.mp (if_pos c3) h
    exact J_vret hX hR dX12_finds_22 ⟨_, rfl, rfl, h⟩
  · replace h := Eq.mp (if_neg c3) h
    refine J_iload hX dX12_finds_17 6 rfl ?_
    refine J_if_gt (tgt := 23) hX dX12_finds_19 (by decide) (fun c4 => ?_) (fun c4 => ?_)
    · replace h := Eq.mp (if_pos c4) h
      refine J_bipush (v := (6 : Int32)) hX dX12_finds_23 (by decide) ?_
      refine J_aload_n hX dX12_finds_25 rfl 1 rfl ?_
      refine J_getI hX kf_RX12_308 dX12_finds_26 ka_426 (by decide) rfl ?_
      refine J_imul hX dX12_finds_29 ?_
      refine J_nmI (fun y5 e_y5 => ?_)
      replace h := h y5 e_y5
      refine J_istore (lv2 := [(7, .int y5), (6, .int y2), (0, .ref (ad 426)), (1, .int x1), (2, .int x2), (3, .int x3), (4, .int x4), (5, .int x5)]) hX dX12_finds_30 (Nat.le_of_ble_eq_true rfl) rfl ?_
      refine J_aload_n hX dX12_finds_32 rfl 2 rfl ?_
      refine J_getR hX kf_RX12_71 dX12_finds_33 ka_426 (by decide) rfl rh_426_26 ?_
      refine J_iload hX dX12_finds_36 0 rfl ?_
      refine J_iload_n hX dX12_finds_38 rfl 3 rfl ?_
      obtain ⟨b6, h⟩ := h
      refine J_iast (j := y5.toNatClampNeg) hX dX12_finds_39 ka_447 le_447 b6 rfl ?_
      refine J_nmM (fun m7 e_m7 => ?_)
      replace h := h m7 e_m7
      refine J_aload_n hX dX12_finds_40 rfl 2 rfl ?_
      refine J_getR hX kf_RX12_71 dX12_finds_41 ka_426 (by decide) rfl rh_426_26 ?_
      refine J_iload hX dX12_finds_44 0 rfl ?_
      refine J_iconst (v := (1 : Int32)) hX dX12_finds_46 (by decide) ?_
      refine J_iadd hX dX12_finds_47 ?_
      refine J_iload_n hX dX12_finds_48 rfl 4 rfl ?_
      obtain ⟨b8, h⟩ := h
      refine J_iast (j := (y5 + (1 : Int32)).toNatClampNeg) hX dX12_finds_49 ka_447 le_447 b8 rfl ?_
      refine J_nmM (fun m9 e_m9 => ?_)
      replace h := h m9 e_m9
      refine J_aload_n hX dX12_finds_50 rfl 2 rfl ?_
      refine J_getR hX kf_RX12_71 dX12_finds_51 ka_426 (by decide) rfl rh_426_26 ?_
      refine J_iload hX dX12_finds_54 0 rfl ?_
      refine J_iconst (v := (2 : Int32)) hX dX12_finds_56 (by decide) ?_
      refine J_iadd hX dX12_finds_57 ?_
      refine J_iload_n hX dX12_finds_58 rfl 5 rfl ?_
      obtain ⟨b10, h⟩ := h
      refine J_iast (j := (y5 + (2 : Int32)).toNatClampNeg) hX dX12_finds_59 ka_447 le_447 b10 rfl ?_
      refine J_nmM (fun m11 e_m11 => ?_)
      replace h := h m11 e_m11
      refine J_aload_n hX dX12_finds_60 rfl 2 rfl ?_
      refine J_getR hX kf_RX12_71 dX12_finds_61 ka_426 (by decide) rfl rh_426_26 ?_
      refine J_iload hX dX12_finds_64 0 rfl ?_
      refine J_iconst (v := (3 : Int32)) hX dX12_finds_66 (by decide) ?_
      refine J_iadd hX dX12_finds_67 ?_
      refine J_iload hX dX12_finds_68 6 rfl ?_
      obtain ⟨b12, h⟩ := h
      refine J_iast (j := (y5 + (3 : Int32)).toNatClampNeg) hX dX12_finds_70 ka_447 le_447 b12 rfl ?_
      refine J_nmM (fun m13 e_m13 => ?_)
      replace h := h m13 e_m13
      refine J_aload_n hX dX12_finds_71 rfl 2 rfl ?_
      refine J_getR hX kf_RX12_71 dX12_finds_72 ka_426 (by decide) rfl rh_426_26 ?_
      refine J_iload hX dX12_finds_75 0 rfl ?_
      refine J_iconst (v := (4 : Int32)) hX dX12_finds_77 (by decide) ?_
      refine J_iadd hX dX12_finds_78 ?_
      refine J_iload hX dX12_finds_79 7 rfl ?_
      obtain ⟨b14, h⟩ := h
      refine J_iast (j := (y5 + (4 : Int32)).toNatClampNeg) hX dX12_finds_81 ka_447 le_447 b14 rfl ?_
      refine J_nmM (fun m15 e_m15 => ?_)
      replace h := h m15 e_m15
      refine J_aload_n hX dX12_finds_82 rfl 2 rfl ?_
      refine J_getR hX kf_RX12_71 dX12_finds_83 ka_426 (by decide) rfl rh_426_26 ?_
      refine J_iload hX dX12_finds_86 0 rfl ?_
      refine J_iconst (v := (5 : Int32)) hX dX12_finds_88 (by decide) ?_
      refine J_iadd hX dX12_finds_89 ?_
      refine J_iload hX dX12_finds_90 1 rfl ?_
      refine J_iload hX dX12_finds_92 7 rfl ?_
      refine J_imul hX dX12_finds_94 ?_
      obtain ⟨b16, h⟩ := h
      refine J_iast (j := (y5 + (5 : Int32)).toNatClampNeg) hX dX12_finds_95 ka_447 le_447 b16 rfl ?_
      refine J_nmM (fun m17 e_m17 => ?_)
      replace h := h m17 e_m17
      refine J_aload_n hX dX12_finds_96 rfl 2 rfl ?_
      refine J_dup hX dX12_finds_97 rfl ?_
      refine J_getI hX kf_RX12_308 dX12_finds_98 ka_426 (by decide) rfl ?_
      refine J_iconst (v := (1 : Int32)) hX dX12_finds_101 (by decide) ?_
      refine J_iadd hX dX12_finds_102 ?_
      refine J_putI hX kf_RX12_308 dX12_finds_103 ka_426 (by decide) rfl ?_
      refine J_nmM (fun m18 e_m18 => ?_)
      replace h := h m18 e_m18
      exact J_vret hX hR dX12_finds_106 ⟨_, rfl, rfl, h⟩
    · replace h := Eq.mp (if_neg c4) h
      exact J_vret hX hR dX12_finds_22 ⟨_, rfl, rfl, h⟩
set_option maxRecDepth 100000 in
theorem tb_X12_isFolded_l5 {X : XT} {ad : Nat → Nat} {K : Int32 → Mm → Prop} (hX : Cx X cX12_isFolded 5 RX12 (rmN 1 22)) (hR : Rx X (some .boolean) (kI ad K) (0, 0)) {rec : Int32 → Int32 → Mm → Prop} {k56 : Int32 → Mm → Prop} (x1 : Int32) (x2 : Int32) (hrec : ∀ (x3 : Int32) (x4 : Int32) (m : Mm), rec x3 x4 m → J X (0, 0) 5 [(0, .ref (ad 426)), (1, .int x1), (2, .int x2), (3, .int x3), (4, .int x4)] [] (fl ad m)) (hk56 : ∀ (z3 : Int32) (m : Mm), k56 z3 m → J X (0, 0) 56 [(0, .ref (ad 426)), (1, .int x1), (2, .int x2), (3, .int z3)] [] (fl ad m)) (x3 : Int32) (x4 : Int32) (m : Mm) (h : wb_X12_isFolded_l5 rec k56 K x1 x2 x3 x4 m) : J X (0, 0) 5 [(0, .ref (ad 426)), (1, .int x1), (2, .int x2), (3, .int x3), (4, .int x4)] [] (fl ad m) := by
  unfold wb_X12_isFolded_l5 at h
  refine J_iload hX dX12_isFolded_5 4 rfl ?_
  refine J_aload_n hX dX12_isFolded_7 rfl 0 rfl ?_
  refine J_callV hX km_X12_many kl_RX12_83 dX12_isFolded_8 ka_426 (by decide) [] ⟨Nat.le_of_ble_eq_true rfl, Nat.le_of_ble_eq_true rfl⟩ rfl rfl (Nat.le_of_ble_eq_true rfl) (c_X12_many m) (fun v w2 hk => ?_)
  obtain ⟨rfl, rfl⟩ := hk
  show J X (0, 0) 11 [(0, .ref (ad 426)), (1, .int x1), (2, .int x2), (3, .int x3), (4, .int x4)] [.int (v_X12_many m), .int x4] (fl ad m)
  refine J_icmp_ge (tgt := 56) hX dX12_isFolded_11 (by decide) (fun c1 => ?_) (fun c1 => ?_)
  · replace h := Eq.mp (if_pos c1) h
    exact J_sub [0, 1, 2, 3] rfl (hk56 x3 m h)
  · replace h := Eq.mp (if_neg c1) h
    refine J_iload_n hX dX12_isFolded_14 rfl 3 rfl ?_
    refine J_aload_n hX dX12_isFolded_15 rfl 0 rfl ?_
    refine J_iload hX dX12_isFolded_16 4 rfl ?_
    refine J_iconst (v := (0 : Int32)) hX dX12_isFolded_18 (by decide) ?_
    obtain ⟨b2, h⟩ := h
    refine J_callV hX km_X12_of kl_RX12_91 dX12_isFolded_19 ka_426 (by decide) [.int x4, .int (0 : Int32)] ⟨Nat.le_of_ble_eq_true rfl, Nat.le_of_ble_eq_true rfl⟩ rfl rfl (Nat.le_of_ble_eq_true rfl) (c_X12_of x4 (0 : Int32) m b2) (fun v w2 hk => ?_)
    obtain ⟨rfl, rfl⟩ := hk
    show J X (0, 0) 22 [(0, .ref (ad 426)), (1, .int x1), (2, .int x2), (3, .int x3), (4, .int x4)] [.int (v_X12_of x4 (0 : Int32) m), .int x3] (fl ad m)
    refine J_iload_n hX dX12_isFolded_22 rfl 1 rfl ?_
    obtain ⟨g7, h⟩ := h
    have hj10 : ∀ y8 : Int32, y8 = (if (v_X12_of x4 (0 : Int32) m) = x1 then (if (v_X12_of x4 (1 : Int32) m) = x2 then (v_X12_of x4 (3 : Int32) m) else (0 : Int32)) else (0 : Int32)) → J X (0, 0) 48 [(0, .ref (ad 426)), (1, .int x1), (2, .int x2), (4, .int x4)] [.int y8, .int x3] (fl ad m) := by
      intro y8 e_y8
      replace h := h y8 e_y8
      refine J_iadd hX dX12_isFolded_48 ?_
      refine J_nmI (fun y9 e_y9 => ?_)
      replace h := h y9 e_y9
      refine J_istore_n (lv2 := [(3, .int y9), (0, .ref (ad 426)), (1, .int x1), (2, .int x2), (4, .int x4)]) hX dX12_isFolded_49 rfl (Nat.le_of_ble_eq_true rfl) rfl ?_
      refine J_iinc (x := (x4 + (1 : Int32))) (lv2 := [(4, .int (x4 + (1 : Int32))), (3, .int y9), (0, .ref (ad 426)), (1, .int x1), (2, .int x2)]) hX dX12_isFolded_50 4 rfl rfl (Nat.le_of_ble_eq_true rfl) rfl ?_
      refine J_goto (tgt := 5) hX dX12_isFolded_53 (by decide) ?_
      exact J_sub [2, 3, 4, 1, 0] rfl (hrec y9 (x4 + (1 : Int32)) m h)
    have g11 := g7
    refine J_icmp_ne (tgt := 47) hX dX12_isFolded_23 (by decide) (fun c3 => ?_) (fun c3 => ?_)
    · refine J_iconst (v := (0 : Int32)) hX dX12_isFolded_47 (by decide) ?_
      exact J_sub [0, 1, 2, 4] rfl (hj10 _ (if_neg c3).symm)
    · have g12 := g11 c3
      obtain ⟨b4, g13⟩ := g12
      refine J_aload_n hX dX12_isFolded_26 rfl 0 rfl ?_
      refine J_iload hX dX12_isFolded_27 4 rfl ?_
      refine J_iconst (v := (1 : Int32)) hX dX12_isFolded_29 (by decide) ?_
      refine J_callV hX km_X12_of kl_RX12_91 dX12_isFolded_30 ka_426 (by decide) [.int x4, .int (1 : Int32)] ⟨Nat.le_of_ble_eq_true rfl, Nat.le_of_ble_eq_true rfl⟩ rfl rfl (Nat.le_of_ble_eq_true rfl) (c_X12_of x4 (1 : Int32) m b4) (fun v w2 hk => ?_)
      obtain ⟨rfl, rfl⟩ := hk
      show J X (0, 0) 33 [(0, .ref (ad 426)), (1, .int x1), (2, .int x2), (3, .int x3), (4, .int x4)] [.int (v_X12_of x4 (1 : Int32) m), .int x3] (fl ad m)
      refine J_iload_n hX dX12_isFolded_33 rfl 2 rfl ?_
      refine J_icmp_ne (tgt := 47) hX dX12_isFolded_34 (by decide) (fun c5 => ?_) (fun c5 => ?_)
      · refine J_iconst (v := (0 : Int32)) hX dX12_isFolded_47 (by decide) ?_
        exact J_sub [0, 1, 2, 4] rfl (hj10 _ ((if_pos c3).trans (if_neg c5)).symm)
      · have g14 := g13 c5
        have b6 := g14
        refine J_aload_n hX dX12_isFolded_37 rfl 0 rfl ?_
        refine J_iload hX dX12_isFolded_38 4 rfl ?_
        refine J_iconst (v := (3 : Int32)) hX dX12_isFolded_40 (by decide) ?_
        refine J_callV hX km_X12_of kl_RX12_91 dX12_isFolded_41 ka_426 (by decide) [.int x4, .int (3 : Int32)] ⟨Nat.le_of_ble_eq_true rfl, Nat.le_of_ble_eq_true rfl⟩ rfl rfl (Nat.le_of_ble_eq_true rfl) (c_X12_of x4 (3 : Int32) m b6) (fun v w2 hk => ?_)
        obtain ⟨rfl, rfl⟩ := hk
        show J X (0, 0) 44 [(0, .ref (ad 426)), (1, .int x1), (2, .int x2), (3, .int x3), (4, .int x4)] [.int (v_X12_of x4 (3 : Int32) m), .int x3] (fl ad m)
        refine J_goto (tgt := 48) hX dX12_isFolded_44 (by decide) ?_
        exact J_sub [0, 1, 2, 4] rfl (hj10 _ ((if_pos c3).trans (if_pos c5)).symm)
set_option maxRecDepth 100000 in
theorem t_X12_isFolded_l5 {X : XT} {ad : Nat → Nat} {K : Int32 → Mm → Prop} (hX : Cx X cX12_isFolded 5 RX12 (rmN 1 22)) (hR : Rx X (some .boolean) (kI ad K) (0, 0)) {k56 : Int32 → Mm → Prop} (x1 : Int32) (x2 : Int32) (hk56 : ∀ (z3 : Int32) (m : Mm), k56 z3 m → J X (0, 0) 56 [(0, .ref (ad 426)), (1, .int x1), (2, .int x2), (3, .int z3)] [] (fl ad m)) : ∀ (n : Nat) (x3 : Int32) (x4 : Int32) (m : Mm), wp_X12_isFolded_l5 k56 K x1 x2 n x3 x4 m → J X (0, 0) 5 [(0, .ref (ad 426)), (1, .int x1), (2, .int x2), (3, .int x3), (4, .int x4)] [] (fl ad m) := by
  intro n
  induction n with
  | zero => intro x3 x4 m h; exact h.elim
  | succ n ih => intro x3 x4 m h; exact tb_X12_isFolded_l5 hX hR x1 x2 ih hk56 x3 x4 m h
set_option maxRecDepth 100000 in
theorem c_X12_isFolded {G : GT} {ad : Nat → Nat} (x1 : Int32) (x2 : Int32) (m : Mm) (K : Int32 → Mm → Prop) (h : wp_X12_isFolded x1 x2 m K) : Cn G yX12_isFolded cX12_isFolded 5 (some .boolean) (rmN 1 22) [.ref (ad 426), .int x1, .int x2] (0, 0) (fl ad m) (kI ad K) := by
  unfold wp_X12_isFolded at h
  refine Cn.of pn_RX12 (Nat.le_of_ble_eq_true rfl) (fun X hG hX hR => ?_)
  subst hG
  have hX : Cx X cX12_isFolded 5 RX12 (rmN 1 22) := hX
  show J X (0, 0) 0 [(0, .ref (ad 426)), (1, .int x1), (2, .int x2)] [] (fl ad m)
  refine J_iconst (v := (0 : Int32)) hX dX12_isFolded_0 (by decide) ?_
  refine J_istore_n (lv2 := [(3, .int (0 : Int32)), (0, .ref (ad 426)), (1, .int x1), (2, .int x2)]) hX dX12_isFolded_1 rfl (Nat.le_of_ble_eq_true rfl) rfl ?_
  refine J_iconst (v := (1 : Int32)) hX dX12_isFolded_2 (by decide) ?_
  refine J_istore (lv2 := [(4, .int (1 : Int32)), (3, .int (0 : Int32)), (0, .ref (ad 426)), (1, .int x1), (2, .int x2)]) hX dX12_isFolded_3 (Nat.le_of_ble_eq_true rfl) rfl ?_
  refine J_sub [2, 3, 4, 1, 0] rfl (t_X12_isFolded_l5 hX hR x1 x2 (fun y15 m16 h => ?_) FU (0 : Int32) (1 : Int32) m h)
  refine J_iload_n hX dX12_isFolded_56 rfl 1 rfl ?_
  obtain ⟨g24, h⟩ := h
  have hj26 : ∀ y25 : Int32, y25 = (if x1 ≤ (0 : Int32) then (if y15 = (v_X12_sideLength x1 x2 m16) then (1 : Int32) else (0 : Int32)) else (if (rm32 ((v_X12_of x1 (1 : Int32) m16) + (2 : Int32)) (4 : Int32)) = x2 then (1 : Int32) else (if y15 = (v_X12_sideLength x1 x2 m16) then (1 : Int32) else (0 : Int32)))) → J X (0, 0) 89 [] [.int y25] (fl ad m16) := by
    intro y25 e_y25
    replace h := h y25 e_y25
    exact J_zret hX hR dX12_isFolded_89 (by rw [e_y25]; exact (bo_ite (bo_ite bo_1 bo_0) (bo_ite bo_1 (bo_ite bo_1 bo_0)))) ⟨_, _, rfl, rfl, h⟩
  obtain ⟨g27, g28⟩ := g24
  refine J_if_le (tgt := 74) hX dX12_isFolded_57 (by decide) (fun c17 => ?_) (fun c17 => ?_)
  · have g29 := g27 c17
    have b18 := g29
    refine J_iload_n hX dX12_isFolded_74 rfl 3 rfl ?_
    refine J_aload_n hX dX12_isFolded_75 rfl 0 rfl ?_
    refine J_iload_n hX dX12_isFolded_76 rfl 1 rfl ?_
    refine J_iload_n hX dX12_isFolded_77 rfl 2 rfl ?_
    refine J_callV hX km_X12_sideLength kl_RX12_123 dX12_isFolded_78 ka_426 (by decide) [.int x1, .int x2] ⟨Nat.le_of_ble_eq_true rfl, Nat.le_of_ble_eq_true rfl⟩ rfl rfl (Nat.le_of_ble_eq_true rfl) (c_X12_sideLength x1 x2 m16 b18) (fun v w2 hk => ?_)
    obtain ⟨rfl, rfl⟩ := hk
    show J X (0, 0) 81 [(0, .ref (ad 426)), (1, .int x1), (2, .int x2), (3, .int y15)] [.int (v_X12_sideLength x1 x2 m16), .int y15] (fl ad m16)
    refine J_icmp_ne (tgt := 88) hX dX12_isFolded_81 (by decide) (fun c19 => ?_) (fun c19 => ?_)
    · refine J_iconst (v := (0 : Int32)) hX dX12_isFolded_88 (by decide) ?_
      exact J_sub [] rfl (hj26 _ ((if_pos c17).trans (if_neg c19)).symm)
    · refine J_iconst (v := (1 : Int32)) hX dX12_isFolded_84 (by decide) ?_
      refine J_goto (tgt := 89) hX dX12_isFolded_85 (by decide) ?_
      exact J_sub [] rfl (hj26 _ ((if_pos c17).trans (if_pos c19)).symm)
  · have g30 := g28 c17
    obtain ⟨b20, g31⟩ := g30
    refine J_aload_n hX dX12_isFolded_60 rfl 0 rfl ?_
    refine J_iload_n hX dX12_isFolded_61 rfl 1 rfl ?_
    refine J_iconst (v := (1 : Int32)) hX dX12_isFolded_62 (by decide) ?_
    refine J_callV hX km_X12_of kl_RX12_91 dX12_isFolded_63 ka_426 (by decide) [.int x1, .int (1 : Int32)] ⟨Nat.le_of_ble_eq_true rfl, Nat.le_of_ble_eq_true rfl⟩ rfl rfl (Nat.le_of_ble_eq_true rfl) (c_X12_of x1 (1 : Int32) m16 b20) (fun v w2 hk => ?_)
    obtain ⟨rfl, rfl⟩ := hk
    show J X (0, 0) 66 [(0, .ref (ad 426)), (1, .int x1), (2, .int x2), (3, .int y15)] [.int (v_X12_of x1 (1 : Int32) m16)] (fl ad m16)
    refine J_iconst (v := (2 : Int32)) hX dX12_isFolded_66 (by decide) ?_
    refine J_iadd hX dX12_isFolded_67 ?_
    refine J_iconst (v := (4 : Int32)) hX dX12_isFolded_68 (by decide) ?_
    refine J_irem hX dX12_isFolded_69 (by decide) ?_
    refine J_iload_n hX dX12_isFolded_70 rfl 2 rfl ?_
    refine J_icmp_eq (tgt := 84) hX dX12_isFolded_71 (by decide) (fun c21 => ?_) (fun c21 => ?_)
    · refine J_iconst (v := (1 : Int32)) hX dX12_isFolded_84 (by decide) ?_
      refine J_goto (tgt := 89) hX dX12_isFolded_85 (by decide) ?_
      exact J_sub [] rfl (hj26 _ ((if_neg c17).trans (if_pos c21)).symm)
    · have g32 := g31 c21
      have b22 := g32
      refine J_iload_n hX dX12_isFolded_74 rfl 3 rfl ?_
      refine J_aload_n hX dX12_isFolded_75 rfl 0 rfl ?_
      refine J_iload_n hX dX12_isFolded_76 rfl 1 rfl ?_
      refine J_iload_n hX dX12_isFolded_77 rfl 2 rfl ?_
      refine J_callV hX km_X12_sideLength kl_RX12_123 dX12_isFolded_78 ka_426 (by decide) [.int x1, .int x2] ⟨Nat.le_of_ble_eq_true rfl, Nat.le_of_ble_eq_true rfl⟩ rfl rfl (Nat.le_of_ble_eq_true rfl) (c_X12_sideLength x1 x2 m16 b22) (fun v w2 hk => ?_)
      obtain ⟨rfl, rfl⟩ := hk
      show J X (0, 0) 81 [(0, .ref (ad 426)), (1, .int x1), (2, .int x2), (3, .int y15)] [.int (v_X12_sideLength x1 x2 m16), .int y15] (fl ad m16)
      refine J_icmp_ne (tgt := 88) hX dX12_isFolded_81 (by decide) (fun c23 => ?_) (fun c23 => ?_)
      · refine J_iconst (v := (0 : Int32)) hX dX12_isFolded_88 (by decide) ?_
        exact J_sub [] rfl (hj26 _ ((if_neg c17).trans ((if_neg c21).trans (if_neg c23))).symm)
      · refine J_iconst (v := (1 : Int32)) hX dX12_isFolded_84 (by decide) ?_
        refine J_goto (tgt := 89) hX dX12_isFolded_85 (by decide) ?_
        exact J_sub [] rfl (hj26 _ ((if_neg c17).trans ((if_neg c21).trans (if_pos c23))).symm)
set_option maxRecDepth 100000 in
theorem c_X12_stripOf {G : GT} {ad : Nat → Nat} (x1 : Int32) (x2 : Int32) (m : Mm) (K : Int32 → Mm → Prop) (h : wp_X12_stripOf x1 x2 m K) : Cn G yX12_stripOf cX12_stripOf 8 (some .int) (rmN 5 112) [.ref (ad 426), .int x1, .int x2] (0, 0) (fl ad m) (kI ad K) := by
  unfold wp_X12_stripOf at h
  refine Cn.of pn_RX12 (Nat.le_of_ble_eq_true rfl) (fun X hG hX hR => ?_)
  subst hG
  have hX : Cx X cX12_stripOf 8 RX12 (rmN 5 112) := hX
  show J X (0, 0) 0 [(0, .ref (ad 426)), (1, .int x1), (2, .int x2)] [] (fl ad m)
  refine J_aload_n hX dX12_stripOf_0 rfl 0 rfl ?_
  refine J_iload_n hX dX12_stripOf_1 rfl 1 rfl ?_
  refine J_iload_n hX dX12_stripOf_2 rfl 2 rfl ?_
  obtain ⟨b1, h⟩ := h
  refine J_callV hX km_X12_reachOf kl_RX12_281 dX12_stripOf_3 ka_426 (by decide) [.int x1, .int x2] ⟨Nat.le_of_ble_eq_true rfl, Nat.le_of_ble_eq_true rfl⟩ rfl rfl (Nat.le_of_ble_eq_true rfl) (c_X12_reachOf x1 x2 m b1) (fun v w2 hk => ?_)
  obtain ⟨rfl, rfl⟩ := hk
  show J X (0, 0) 6 [(0, .ref (ad 426)), (1, .int x1), (2, .int x2)] [.int (v_X12_reachOf x1 x2 m)] (fl ad m)
  refine J_nmI (fun y2 e_y2 => ?_)
  replace h := h y2 e_y2
  refine J_istore_n (lv2 := [(3, .int y2), (0, .ref (ad 426)), (1, .int x1), (2, .int x2)]) hX dX12_stripOf_6 rfl (Nat.le_of_ble_eq_true rfl) rfl ?_
  refine J_iload_n hX dX12_stripOf_7 rfl 0 rfl ?_
  refine J_aload_n hX dX12_stripOf_8 rfl 1 rfl ?_
  refine J_iconst (v := (1 : Int32)) hX dX12_stripOf_9 (by decide) ?_
  obtain ⟨b3, h⟩ := h
  refine J_callV hX km_X12_limitOf kl_RX12_293 dX12_stripOf_10 ka_426 (by decide) [.int (1 : Int32)] ⟨Nat.le_of_ble_eq_true rfl, Nat.le_of_ble_eq_true rfl⟩ rfl rfl (Nat.le_of_ble_eq_true rfl) (c_X12_limitOf (1 : Int32) m b3) (fun v w2 hk => ?_)
  obtain ⟨rfl, rfl⟩ := hk
  show J X (0, 0) 13 [(3, .int y2), (0, .ref (ad 426)), (1, .int x1), (2, .int x2)] [.int (v_X12_limitOf (1 : Int32) m), .int y2] (fl ad m)
  refine J_callS hX km_X12_least kl_RX12_110 dX12_stripOf_13 [.int y2, .int (v_X12_limitOf (1 : Int32) m)] ⟨Nat.le_of_ble_eq_true rfl, Nat.le_of_ble_eq_true rfl⟩ rfl rfl (Nat.le_of_ble_eq_true rfl) (c_X12_least y2 (v_X12_limitOf (1 : Int32) m) m) (fun v w2 hk => ?_)
  obtain ⟨rfl, rfl⟩ := hk
  show J X (0, 0) 16 [(3, .int y2), (0, .ref (ad 426)), (1, .int x1), (2, .int x2)] [.int (v_X12_least y2 (v_X12_limitOf (1 : Int32) m))] (fl ad m)
  refine J_nmI (fun y4 e_y4 => ?_)
  replace h := h y4 e_y4
  refine J_istore (lv2 := [(4, .int y4), (3, .int y2), (0, .ref (ad 426)), (1, .int x1), (2, .int x2)]) hX dX12_stripOf_16 (Nat.le_of_ble_eq_true rfl) rfl ?_
  refine J_iload_n hX dX12_stripOf_18 rfl 1 rfl ?_
  refine J_if_le (tgt := 27) hX dX12_stripOf_19 (by decide) (fun c5 => ?_) (fun c5 => ?_)
  · replace h := Eq.mp (if_pos c5) h
    refine J_iconst (v := (0 : Int32)) hX dX12_stripOf_27 (by decide) ?_
    exact J_iret hX hR dX12_stripOf_28 ⟨_, _, rfl, rfl, h⟩
  · replace h := Eq.mp (if_neg c5) h
    refine J_iload hX dX12_stripOf_22 0 rfl ?_
    refine J_if_ne (tgt := 29) hX dX12_stripOf_24 (by decide) (fun c6 => ?_) (fun c6 => ?_)
    · replace h := Eq.mp (if_neg c6) h
      refine J_aload_n hX dX12_stripOf_29 rfl 2 rfl ?_
      refine J_iload_n hX dX12_stripOf_30 rfl 3 rfl ?_
      refine J_bipush (v := (9 : Int32)) hX dX12_stripOf_31 (by decide) ?_
      obtain ⟨b7, h⟩ := h
      refine J_callV hX km_X12_of kl_RX12_91 dX12_stripOf_33 ka_426 (by decide) [.int x1, .int (9 : Int32)] ⟨Nat.le_of_ble_eq_true rfl, Nat.le_of_ble_eq_true rfl⟩ rfl rfl (Nat.le_of_ble_eq_true rfl) (c_X12_of x1 (9 : Int32) m b7) (fun v w2 hk => ?_)
      obtain ⟨rfl, rfl⟩ := hk
      show J X (0, 0) 36 [(4, .int y4), (3, .int y2), (0, .ref (ad 426)), (1, .int x1), (2, .int x2)] [.int (v_X12_of x1 (9 : Int32) m)] (fl ad m)
      refine J_nmI (fun y8 e_y8 => ?_)
      replace h := h y8 e_y8
      refine J_istore (lv2 := [(5, .int y8), (4, .int y4), (3, .int y2), (0, .ref (ad 426)), (1, .int x1), (2, .int x2)]) hX dX12_stripOf_36 (Nat.le_of_ble_eq_true rfl) rfl ?_
      refine J_aload_n hX dX12_stripOf_38 rfl 3 rfl ?_
      refine J_iload_n hX dX12_stripOf_39 rfl 4 rfl ?_
      refine J_bipush (v := (10 : Int32)) hX dX12_stripOf_40 (by decide) ?_
      obtain ⟨b9, h⟩ := h
      refine J_callV hX km_X12_of kl_RX12_91 dX12_stripOf_42 ka_426 (by decide) [.int x1, .int (10 : Int32)] ⟨Nat.le_of_ble_eq_true rfl, Nat.le_of_ble_eq_true rfl⟩ rfl rfl (Nat.le_of_ble_eq_true rfl) (c_X12_of x1 (10 : Int32) m b9) (fun v w2 hk => ?_)
      obtain ⟨rfl, rfl⟩ := hk
      show J X (0, 0) 45 [(5, .int y8), (4, .int y4), (3, .int y2), (0, .ref (ad 426)), (1, .int x1), (2, .int x2)] [.int (v_X12_of x1 (10 : Int32) m)] (fl ad m)
      refine J_nmI (fun y10 e_y10 => ?_)
      replace h := h y10 e_y10
      refine J_istore (lv2 := [(6, .int y10), (5, .int y8), (4, .int y4), (3, .int y2), (0, .ref (ad 426)), (1, .int x1), (2, .int x2)]) hX dX12_stripOf_45 (Nat.le_of_ble_eq_true rfl) rfl ?_
      refine J_iload_n hX dX12_stripOf_47 rfl 6 rfl ?_
      refine J_iconst (v := (2 : Int32)) hX dX12_stripOf_48 (by decide) ?_
      refine J_irem hX dX12_stripOf_49 (by decide) ?_
      have hj53 : ∀ y12 : Int32, y12 = (if (rm32 x2 (2 : Int32)) = (0 : Int32) then (1 : Int32) else (0 : Int32)) → J X (0, 0) 58 [(0, .ref (ad 426)), (1, .int x1), (2, .int x2), (4, .int y4), (5, .int y8), (6, .int y10)] [.int y12] (fl ad m) := by
        intro y12 e_y12
        replace h := h y12 e_y12
        refine J_istore (lv2 := [(7, .int y12), (0, .ref (ad 426)), (1, .int x1), (2, .int x2), (4, .int y4), (5, .int y8), (6, .int y10)]) hX dX12_stripOf_58 (Nat.le_of_ble_eq_true rfl) rfl ?_
        refine J_aload_n hX dX12_stripOf_60 rfl 1 rfl ?_
        refine J_getR hX kf_RX12_74 dX12_stripOf_61 ka_426 (by decide) rfl rh_426_28 ?_
        refine J_iconst (v := (0 : Int32)) hX dX12_stripOf_64 (by decide) ?_
        refine J_iload hX dX12_stripOf_65 0 rfl ?_
        obtain ⟨g18, h⟩ := h
        have hj50 : ∀ y19 : Int32, y19 = (if y12 = (0 : Int32) then (if x2 = (1 : Int32) then ((m.1 432 x1.toNatClampNeg) + (m.1 434 x1.toNatClampNeg)) else ((m.1 432 x1.toNatClampNeg) - y4)) else ((m.1 432 x1.toNatClampNeg) + (v_X12_most (0 : Int32) y8))) → J X (0, 0) 116 [(0, .ref (ad 426)), (1, .int x1), (2, .int x2), (4, .int y4), (5, .int y8), (6, .int y10), (7, .int y12)] [.int y19, .int (0 : Int32), .ref (ad 448)] (fl ad m) := by
          intro y19 e_y19
          replace h := h y19 e_y19
          refine J_iast (j := 0) hX dX12_stripOf_116 ka_448 le_448 (vp_lit (by decide)) (by decide) ?_
          refine J_nmM (fun m20 e_m20 => ?_)
          replace h := h m20 e_m20
          refine J_aload_n hX dX12_stripOf_117 rfl 0 rfl ?_
          refine J_getR hX kf_RX12_74 dX12_stripOf_118 ka_426 (by decide) rfl rh_426_28 ?_
          refine J_iconst (v := (1 : Int32)) hX dX12_stripOf_121 (by decide) ?_
          refine J_iload hX dX12_stripOf_122 6 rfl ?_
          obtain ⟨g24, h⟩ := h
          have hj47 : ∀ y25 : Int32, y25 = (if y12 = (0 : Int32) then ((m20.1 448 0) + y4) else ((m20.1 432 x1.toNatClampNeg) + (v_X12_least (m20.1 434 x1.toNatClampNeg) (y8 + (v_X12_turnedSize x1 (0 : Int32) m20))))) → J X (0, 0) 164 [(0, .ref (ad 426)), (1, .int x1), (2, .int x2), (4, .int y4), (6, .int y10), (7, .int y12)] [.int y25, .int (1 : Int32), .ref (ad 448)] (fl ad m20) := by
            intro y25 e_y25
            replace h := h y25 e_y25
            refine J_iast (j := 1) hX dX12_stripOf_164 ka_448 le_448 (vp_lit (by decide)) (by decide) ?_
            refine J_nmM (fun m26 e_m26 => ?_)
            replace h := h m26 e_m26
            refine J_aload_n hX dX12_stripOf_165 rfl 0 rfl ?_
            refine J_getR hX kf_RX12_74 dX12_stripOf_166 ka_426 (by decide) rfl rh_426_28 ?_
            refine J_iconst (v := (2 : Int32)) hX dX12_stripOf_169 (by decide) ?_
            refine J_iload hX dX12_stripOf_170 5 rfl ?_
            obtain ⟨g32, h⟩ := h
            have hj44 : ∀ y33 : Int32, y33 = (if y12 = (0 : Int32) then ((m26.1 433 x1.toNatClampNeg) + (v_X12_most (0 : Int32) y10)) else (if x2 = (2 : Int32) then ((m26.1 433 x1.toNatClampNeg) + (m26.1 435 x1.toNatClampNeg)) else ((m26.1 433 x1.toNatClampNeg) - y4))) → J X (0, 0) 221 [(0, .ref (ad 426)), (1, .int x1), (4, .int y4), (6, .int y10), (7, .int y12)] [.int y33, .int (2 : Int32), .ref (ad 448)] (fl ad m26) := by
              intro y33 e_y33
              replace h := h y33 e_y33
              refine J_iast (j := 2) hX dX12_stripOf_221 ka_448 le_448 (vp_lit (by decide)) (by decide) ?_
              refine J_nmM (fun m34 e_m34 => ?_)
              replace h := h m34 e_m34
              refine J_aload_n hX dX12_stripOf_222 rfl 0 rfl ?_
              refine J_getR hX kf_RX12_74 dX12_stripOf_223 ka_426 (by decide) rfl rh_426_28 ?_
              refine J_iconst (v := (3 : Int32)) hX dX12_stripOf_226 (by decide) ?_
              refine J_iload hX dX12_stripOf_227 4 rfl ?_
              obtain ⟨g38, h⟩ := h
              have hj41 : ∀ y39 : Int32, y39 = (if y12 = (0 : Int32) then ((m34.1 433 x1.toNatClampNeg) + (v_X12_least (m34.1 435 x1.toNatClampNeg) (y10 + (v_X12_turnedSize x1 (1 : Int32) m34)))) else ((m34.1 448 2) + y4)) → J X (0, 0) 269 [(4, .int y4)] [.int y39, .int (3 : Int32), .ref (ad 448)] (fl ad m34) := by
                intro y39 e_y39
                replace h := h y39 e_y39
                refine J_iast (j := 3) hX dX12_stripOf_269 ka_448 le_448 (vp_lit (by decide)) (by decide) ?_
                refine J_nmM (fun m40 e_m40 => ?_)
                replace h := h m40 e_m40
                refine J_iload hX dX12_stripOf_270 0 rfl ?_
                exact J_iret hX hR dX12_stripOf_272 ⟨_, _, rfl, rfl, h⟩
              have g42 := g38
              refine J_if_ne (tgt := 260) hX dX12_stripOf_229 (by decide) (fun c35 => ?_) (fun c35 => ?_)
              · refine J_aload_n hX dX12_stripOf_260 rfl 0 rfl ?_
                refine J_getR hX kf_RX12_74 dX12_stripOf_261 ka_426 (by decide) rfl rh_426_28 ?_
                refine J_iconst (v := (2 : Int32)) hX dX12_stripOf_264 (by decide) ?_
                refine J_iald (j := 2) hX dX12_stripOf_265 ka_448 le_448 (vp_lit (by decide)) (by decide) ?_
                refine J_iload hX dX12_stripOf_266 2 rfl ?_
                refine J_iadd hX dX12_stripOf_268 ?_
                exact J_sub [2] rfl (hj41 _ (if_neg c35).symm)
              · have g43 := g42 c35
                obtain ⟨b36, b37⟩ := g43
                refine J_aload_n hX dX12_stripOf_232 rfl 0 rfl ?_
                refine J_getR hX kf_RX12_29 dX12_stripOf_233 ka_426 (by decide) rfl rh_426_8 ?_
                refine J_iload_n hX dX12_stripOf_236 rfl 1 rfl ?_
                refine J_iald (j := x1.toNatClampNeg) hX dX12_stripOf_237 ka_433 le_433 b36 rfl ?_
                refine J_aload_n hX dX12_stripOf_238 rfl 0 rfl ?_
                refine J_getR hX kf_RX12_35 dX12_stripOf_239 ka_426 (by decide) rfl rh_426_10 ?_
                refine J_iload_n hX dX12_stripOf_242 rfl 1 rfl ?_
                refine J_iald (j := x1.toNatClampNeg) hX dX12_stripOf_243 ka_435 le_435 b36 rfl ?_
                refine J_iload hX dX12_stripOf_244 3 rfl ?_
                refine J_aload_n hX dX12_stripOf_246 rfl 0 rfl ?_
                refine J_iload_n hX dX12_stripOf_247 rfl 1 rfl ?_
                refine J_iconst (v := (1 : Int32)) hX dX12_stripOf_248 (by decide) ?_
                refine J_callV hX km_X12_turnedSize kl_RX12_260 dX12_stripOf_249 ka_426 (by decide) [.int x1, .int (1 : Int32)] ⟨Nat.le_of_ble_eq_true rfl, Nat.le_of_ble_eq_true rfl⟩ rfl rfl (Nat.le_of_ble_eq_true rfl) (c_X12_turnedSize x1 (1 : Int32) m34 b37) (fun v w2 hk => ?_)
                obtain ⟨rfl, rfl⟩ := hk
                show J X (0, 0) 252 [(0, .ref (ad 426)), (1, .int x1), (4, .int y4), (6, .int y10), (7, .int y12)] [.int (v_X12_turnedSize x1 (1 : Int32) m34), .int y10, .int (m34.1 435 x1.toNatClampNeg), .int (m34.1 433 x1.toNatClampNeg), .int (3 : Int32), .ref (ad 448)] (fl ad m34)
                refine J_iadd hX dX12_stripOf_252 ?_
                refine J_callS hX km_X12_least kl_RX12_110 dX12_stripOf_253 [.int (m34.1 435 x1.toNatClampNeg), .int (y10 + (v_X12_turnedSize x1 (1 : Int32) m34))] ⟨Nat.le_of_ble_eq_true rfl, Nat.le_of_ble_eq_true rfl⟩ rfl rfl (Nat.le_of_ble_eq_true rfl) (c_X12_least (m34.1 435 x1.toNatClampNeg) (y10 + (v_X12_turnedSize x1 (1 : Int32) m34)) m34) (fun v w2 hk => ?_)
                obtain ⟨rfl, rfl⟩ := hk
                show J X (0, 0) 256 [(0, .ref (ad 426)), (1, .int x1), (4, .int y4), (6, .int y10), (7, .int y12)] [.int (v_X12_least (m34.1 435 x1.toNatClampNeg) (y10 + (v_X12_turnedSize x1 (1 : Int32) m34))), .int (m34.1 433 x1.toNatClampNeg), .int (3 : Int32), .ref (ad 448)] (fl ad m34)
                refine J_iadd hX dX12_stripOf_256 ?_
                refine J_goto (tgt := 269) hX dX12_stripOf_257 (by decide) ?_
                exact J_sub [2] rfl (hj41 _ (if_pos c35).symm)
            have g45 := g32
            refine J_if_ne (tgt := 191) hX dX12_stripOf_172 (by decide) (fun c27 => ?_) (fun c27 => ?_)
            · have g46 := g45
              refine J_iload_n hX dX12_stripOf_191 rfl 2 rfl ?_
              refine J_iconst (v := (2 : Int32)) hX dX12_stripOf_192 (by decide) ?_
              refine J_icmp_ne (tgt := 212) hX dX12_stripOf_193 (by decide) (fun c28 => ?_) (fun c28 => ?_)
              · have b29 := g46
                refine J_aload_n hX dX12_stripOf_212 rfl 0 rfl ?_
                refine J_getR hX kf_RX12_29 dX12_stripOf_213 ka_426 (by decide) rfl rh_426_8 ?_
                refine J_iload_n hX dX12_stripOf_216 rfl 1 rfl ?_
                refine J_iald (j := x1.toNatClampNeg) hX dX12_stripOf_217 ka_433 le_433 b29 rfl ?_
                refine J_iload hX dX12_stripOf_218 3 rfl ?_
                refine J_isub hX dX12_stripOf_220 ?_
                exact J_sub [0, 1, 3, 4, 5] rfl (hj44 _ ((if_neg c27).trans (if_neg c28)).symm)
              · have b30 := g46
                refine J_aload_n hX dX12_stripOf_196 rfl 0 rfl ?_
                refine J_getR hX kf_RX12_29 dX12_stripOf_197 ka_426 (by decide) rfl rh_426_8 ?_
                refine J_iload_n hX dX12_stripOf_200 rfl 1 rfl ?_
                refine J_iald (j := x1.toNatClampNeg) hX dX12_stripOf_201 ka_433 le_433 b30 rfl ?_
                refine J_aload_n hX dX12_stripOf_202 rfl 0 rfl ?_
                refine J_getR hX kf_RX12_35 dX12_stripOf_203 ka_426 (by decide) rfl rh_426_10 ?_
                refine J_iload_n hX dX12_stripOf_206 rfl 1 rfl ?_
                refine J_iald (j := x1.toNatClampNeg) hX dX12_stripOf_207 ka_435 le_435 b30 rfl ?_
                refine J_iadd hX dX12_stripOf_208 ?_
                refine J_goto (tgt := 221) hX dX12_stripOf_209 (by decide) ?_
                exact J_sub [0, 1, 3, 4, 5] rfl (hj44 _ ((if_neg c27).trans (if_pos c28)).symm)
            · have b31 := g45
              refine J_aload_n hX dX12_stripOf_175 rfl 0 rfl ?_
              refine J_getR hX kf_RX12_29 dX12_stripOf_176 ka_426 (by decide) rfl rh_426_8 ?_
              refine J_iload_n hX dX12_stripOf_179 rfl 1 rfl ?_
              refine J_iald (j := x1.toNatClampNeg) hX dX12_stripOf_180 ka_433 le_433 b31 rfl ?_
              refine J_iconst (v := (0 : Int32)) hX dX12_stripOf_181 (by decide) ?_
              refine J_iload hX dX12_stripOf_182 4 rfl ?_
              refine J_callS hX km_X12_most kl_RX12_113 dX12_stripOf_184 [.int (0 : Int32), .int y10] ⟨Nat.le_of_ble_eq_true rfl, Nat.le_of_ble_eq_true rfl⟩ rfl rfl (Nat.le_of_ble_eq_true rfl) (c_X12_most (0 : Int32) y10 m26) (fun v w2 hk => ?_)
              obtain ⟨rfl, rfl⟩ := hk
              show J X (0, 0) 187 [(0, .ref (ad 426)), (1, .int x1), (2, .int x2), (4, .int y4), (6, .int y10), (7, .int y12)] [.int (v_X12_most (0 : Int32) y10), .int (m26.1 433 x1.toNatClampNeg), .int (2 : Int32), .ref (ad 448)] (fl ad m26)
              refine J_iadd hX dX12_stripOf_187 ?_
              refine J_goto (tgt := 221) hX dX12_stripOf_188 (by decide) ?_
              exact J_sub [0, 1, 3, 4, 5] rfl (hj44 _ (if_pos c27).symm)
          have g48 := g24
          refine J_if_eq (tgt := 155) hX dX12_stripOf_124 (by decide) (fun c21 => ?_) (fun c21 => ?_)
          · refine J_aload_n hX dX12_stripOf_155 rfl 0 rfl ?_
            refine J_getR hX kf_RX12_74 dX12_stripOf_156 ka_426 (by decide) rfl rh_426_28 ?_
            refine J_iconst (v := (0 : Int32)) hX dX12_stripOf_159 (by decide) ?_
            refine J_iald (j := 0) hX dX12_stripOf_160 ka_448 le_448 (vp_lit (by decide)) (by decide) ?_
            refine J_iload hX dX12_stripOf_161 3 rfl ?_
            refine J_iadd hX dX12_stripOf_163 ?_
            exact J_sub [0, 1, 2, 3, 5, 6] rfl (hj47 _ (if_pos c21).symm)
          · have g49 := g48 c21
            obtain ⟨b22, b23⟩ := g49
            refine J_aload_n hX dX12_stripOf_127 rfl 0 rfl ?_
            refine J_getR hX kf_RX12_26 dX12_stripOf_128 ka_426 (by decide) rfl rh_426_7 ?_
            refine J_iload_n hX dX12_stripOf_131 rfl 1 rfl ?_
            refine J_iald (j := x1.toNatClampNeg) hX dX12_stripOf_132 ka_432 le_432 b22 rfl ?_
            refine J_aload_n hX dX12_stripOf_133 rfl 0 rfl ?_
            refine J_getR hX kf_RX12_32 dX12_stripOf_134 ka_426 (by decide) rfl rh_426_9 ?_
            refine J_iload_n hX dX12_stripOf_137 rfl 1 rfl ?_
            refine J_iald (j := x1.toNatClampNeg) hX dX12_stripOf_138 ka_434 le_434 b22 rfl ?_
            refine J_iload hX dX12_stripOf_139 4 rfl ?_
            refine J_aload_n hX dX12_stripOf_141 rfl 0 rfl ?_
            refine J_iload_n hX dX12_stripOf_142 rfl 1 rfl ?_
            refine J_iconst (v := (0 : Int32)) hX dX12_stripOf_143 (by decide) ?_
            refine J_callV hX km_X12_turnedSize kl_RX12_260 dX12_stripOf_144 ka_426 (by decide) [.int x1, .int (0 : Int32)] ⟨Nat.le_of_ble_eq_true rfl, Nat.le_of_ble_eq_true rfl⟩ rfl rfl (Nat.le_of_ble_eq_true rfl) (c_X12_turnedSize x1 (0 : Int32) m20 b23) (fun v w2 hk => ?_)
            obtain ⟨rfl, rfl⟩ := hk
            show J X (0, 0) 147 [(0, .ref (ad 426)), (1, .int x1), (2, .int x2), (4, .int y4), (5, .int y8), (6, .int y10), (7, .int y12)] [.int (v_X12_turnedSize x1 (0 : Int32) m20), .int y8, .int (m20.1 434 x1.toNatClampNeg), .int (m20.1 432 x1.toNatClampNeg), .int (1 : Int32), .ref (ad 448)] (fl ad m20)
            refine J_iadd hX dX12_stripOf_147 ?_
            refine J_callS hX km_X12_least kl_RX12_110 dX12_stripOf_148 [.int (m20.1 434 x1.toNatClampNeg), .int (y8 + (v_X12_turnedSize x1 (0 : Int32) m20))] ⟨Nat.le_of_ble_eq_true rfl, Nat.le_of_ble_eq_true rfl⟩ rfl rfl (Nat.le_of_ble_eq_true rfl) (c_X12_least (m20.1 434 x1.toNatClampNeg) (y8 + (v_X12_turnedSize x1 (0 : Int32) m20)) m20) (fun v w2 hk => ?_)
            obtain ⟨rfl, rfl⟩ := hk
            show J X (0, 0) 151 [(0, .ref (ad 426)), (1, .int x1), (2, .int x2), (4, .int y4), (5, .int y8), (6, .int y10), (7, .int y12)] [.int (v_X12_least (m20.1 434 x1.toNatClampNeg) (y8 + (v_X12_turnedSize x1 (0 : Int32) m20))), .int (m20.1 432 x1.toNatClampNeg), .int (1 : Int32), .ref (ad 448)] (fl ad m20)
            refine J_iadd hX dX12_stripOf_151 ?_
            refine J_goto (tgt := 164) hX dX12_stripOf_152 (by decide) ?_
            exact J_sub [0, 1, 2, 3, 5, 6] rfl (hj47 _ (if_neg c21).symm)
        have g51 := g18
        refine J_if_eq (tgt := 86) hX dX12_stripOf_67 (by decide) (fun c13 => ?_) (fun c13 => ?_)
        · have g52 := g51
          refine J_iload_n hX dX12_stripOf_86 rfl 3 rfl ?_
          refine J_iconst (v := (1 : Int32)) hX dX12_stripOf_87 (by decide) ?_
          refine J_icmp_ne (tgt := 107) hX dX12_stripOf_88 (by decide) (fun c14 => ?_) (fun c14 => ?_)
          · have b15 := g52
            refine J_aload_n hX dX12_stripOf_107 rfl 1 rfl ?_
            refine J_getR hX kf_RX12_26 dX12_stripOf_108 ka_426 (by decide) rfl rh_426_7 ?_
            refine J_iload_n hX dX12_stripOf_111 rfl 2 rfl ?_
            refine J_iald (j := x1.toNatClampNeg) hX dX12_stripOf_112 ka_432 le_432 b15 rfl ?_
            refine J_iload hX dX12_stripOf_113 4 rfl ?_
            refine J_isub hX dX12_stripOf_115 ?_
            exact J_sub [1, 2, 3, 4, 5, 6, 0] rfl (hj50 _ ((if_pos c13).trans (if_neg c14)).symm)
          · have b16 := g52
            refine J_aload_n hX dX12_stripOf_91 rfl 1 rfl ?_
            refine J_getR hX kf_RX12_26 dX12_stripOf_92 ka_426 (by decide) rfl rh_426_7 ?_
            refine J_iload_n hX dX12_stripOf_95 rfl 2 rfl ?_
            refine J_iald (j := x1.toNatClampNeg) hX dX12_stripOf_96 ka_432 le_432 b16 rfl ?_
            refine J_aload_n hX dX12_stripOf_97 rfl 1 rfl ?_
            refine J_getR hX kf_RX12_32 dX12_stripOf_98 ka_426 (by decide) rfl rh_426_9 ?_
            refine J_iload_n hX dX12_stripOf_101 rfl 2 rfl ?_
            refine J_iald (j := x1.toNatClampNeg) hX dX12_stripOf_102 ka_434 le_434 b16 rfl ?_
            refine J_iadd hX dX12_stripOf_103 ?_
            refine J_goto (tgt := 116) hX dX12_stripOf_104 (by decide) ?_
            exact J_sub [1, 2, 3, 4, 5, 6, 0] rfl (hj50 _ ((if_pos c13).trans (if_pos c14)).symm)
        · have b17 := g51
          refine J_aload_n hX dX12_stripOf_70 rfl 1 rfl ?_
          refine J_getR hX kf_RX12_26 dX12_stripOf_71 ka_426 (by decide) rfl rh_426_7 ?_
          refine J_iload_n hX dX12_stripOf_74 rfl 2 rfl ?_
          refine J_iald (j := x1.toNatClampNeg) hX dX12_stripOf_75 ka_432 le_432 b17 rfl ?_
          refine J_iconst (v := (0 : Int32)) hX dX12_stripOf_76 (by decide) ?_
          refine J_iload hX dX12_stripOf_77 5 rfl ?_
          refine J_callS hX km_X12_most kl_RX12_113 dX12_stripOf_79 [.int (0 : Int32), .int y8] ⟨Nat.le_of_ble_eq_true rfl, Nat.le_of_ble_eq_true rfl⟩ rfl rfl (Nat.le_of_ble_eq_true rfl) (c_X12_most (0 : Int32) y8 m) (fun v w2 hk => ?_)
          obtain ⟨rfl, rfl⟩ := hk
          show J X (0, 0) 82 [(7, .int y12), (0, .ref (ad 426)), (1, .int x1), (2, .int x2), (4, .int y4), (5, .int y8), (6, .int y10)] [.int (v_X12_most (0 : Int32) y8), .int (m.1 432 x1.toNatClampNeg), .int (0 : Int32), .ref (ad 448)] (fl ad m)
          refine J_iadd hX dX12_stripOf_82 ?_
          refine J_goto (tgt := 116) hX dX12_stripOf_83 (by decide) ?_
          exact J_sub [1, 2, 3, 4, 5, 6, 0] rfl (hj50 _ (if_neg c13).symm)
      refine J_if_ne (tgt := 57) hX dX12_stripOf_50 (by decide) (fun c11 => ?_) (fun c11 => ?_)
      · refine J_iconst (v := (0 : Int32)) hX dX12_stripOf_57 (by decide) ?_
        exact J_sub [4, 5, 6, 2, 1, 0] rfl (hj53 _ (if_neg c11).symm)
      · refine J_iconst (v := (1 : Int32)) hX dX12_stripOf_53 (by decide) ?_
        refine J_goto (tgt := 58) hX dX12_stripOf_54 (by decide) ?_
        exact J_sub [4, 5, 6, 2, 1, 0] rfl (hj53 _ (if_pos c11).symm)
    · replace h := Eq.mp (if_pos c6) h
      refine J_iconst (v := (0 : Int32)) hX dX12_stripOf_27 (by decide) ?_
      exact J_iret hX hR dX12_stripOf_28 ⟨_, _, rfl, rfl, h⟩
set_option maxRecDepth 100000 in
theorem tb_X12_findIntrusions_l12 {X : XT} {ad : Nat → Nat} {K : Mm → Prop} (hX : Cx X cX12_findIntrusions 8 RX12 (rmN 6 139)) (hR : Rx X none (kV ad K) (0, 0)) {rec : Int32 → Mm → Prop} {k210 : Mm → Prop} (x1 : Int32) (x2 : Int32) (hrec : ∀ (x3 : Int32) (m : Mm), rec x3 m → J X (0, 0) 12 [(0, .ref (ad 426)), (1, .int x1), (2, .int x2), (3, .int x3)] [] (fl ad m)) (hk210 : ∀ (m : Mm), k210 m → J X (0, 0) 210 [(0, .ref (ad 426)), (1, .int x1), (2, .int x2)] [] (fl ad m)) (x3 : Int32) (m : Mm) (h : wb_X12_findIntrusions_l12 rec k210 K x1 x2 x3 m) : J X (0, 0) 12 [(0, .ref (ad 426)), (1, .int x1), (2, .int x2), (3, .int x3)] [] (fl ad m) := by
  unfold wb_X12_findIntrusions_l12 at h
  refine J_iload_n hX dX12_findIntrusions_12 rfl 3 rfl ?_
  refine J_aload_n hX dX12_findIntrusions_13 rfl 0 rfl ?_
  refine J_callV hX km_X12_many kl_RX12_83 dX12_findIntrusions_14 ka_426 (by decide) [] ⟨Nat.le_of_ble_eq_true rfl, Nat.le_of_ble_eq_true rfl⟩ rfl rfl (Nat.le_of_ble_eq_true rfl) (c_X12_many m) (fun v w2 hk => ?_)
  obtain ⟨rfl, rfl⟩ := hk
  show J X (0, 0) 17 [(0, .ref (ad 426)), (1, .int x1), (2, .int x2), (3, .int x3)] [.int (v_X12_many m), .int x3] (fl ad m)
  refine J_icmp_ge (tgt := 210) hX dX12_findIntrusions_17 (by decide) (fun c4 => ?_) (fun c4 => ?_)
  · replace h := Eq.mp (if_pos c4) h
    exact J_sub [0, 1, 2] rfl (hk210 m h)
  · replace h := Eq.mp (if_neg c4) h
    refine J_iload_n hX dX12_findIntrusions_20 rfl 3 rfl ?_
    obtain ⟨g10, h⟩ := h
    have hj36 : ∀ y11 : Int32, y11 = (if x3 ≤ (0 : Int32) then (0 : Int32) else (if (v_X12_of x3 (0 : Int32) m) = x1 then (if (v_X12_of x3 (1 : Int32) m) = x2 then (1 : Int32) else (0 : Int32)) else (0 : Int32))) → J X (0, 0) 49 [(0, .ref (ad 426)), (1, .int x1), (2, .int x2), (3, .int x3)] [.int y11] (fl ad m) := by
      intro y11 e_y11
      replace h := h y11 e_y11
      refine J_istore (lv2 := [(4, .int y11), (0, .ref (ad 426)), (1, .int x1), (2, .int x2), (3, .int x3)]) hX dX12_findIntrusions_49 (Nat.le_of_ble_eq_true rfl) rfl ?_
      refine J_iload_n hX dX12_findIntrusions_51 rfl 2 rfl ?_
      obtain ⟨g17, h⟩ := h
      have hj31 : ∀ y18 : Int32, y18 = (if x1 ≤ (0 : Int32) then (0 : Int32) else (if (v_X12_of x1 (0 : Int32) m) = x3 then (if (rm32 ((v_X12_of x1 (1 : Int32) m) + (2 : Int32)) (4 : Int32)) = x2 then (1 : Int32) else (0 : Int32)) else (0 : Int32))) → J X (0, 0) 84 [(0, .ref (ad 426)), (1, .int x1), (2, .int x2), (3, .int x3), (4, .int y11)] [.int y18] (fl ad m) := by
        intro y18 e_y18
        replace h := h y18 e_y18
        refine J_istore (lv2 := [(5, .int y18), (0, .ref (ad 426)), (1, .int x1), (2, .int x2), (3, .int x3), (4, .int y11)]) hX dX12_findIntrusions_84 (Nat.le_of_ble_eq_true rfl) rfl ?_
        refine J_aload_n hX dX12_findIntrusions_86 rfl 1 rfl ?_
        refine J_getR hX kf_RX12_74 dX12_findIntrusions_87 ka_426 (by decide) rfl rh_426_28 ?_
        refine J_iconst (v := (0 : Int32)) hX dX12_findIntrusions_90 (by decide) ?_
        refine J_iald (j := 0) hX dX12_findIntrusions_91 ka_448 le_448 (vp_lit (by decide)) (by decide) ?_
        refine J_aload_n hX dX12_findIntrusions_92 rfl 1 rfl ?_
        refine J_getR hX kf_RX12_74 dX12_findIntrusions_93 ka_426 (by decide) rfl rh_426_28 ?_
        refine J_iconst (v := (1 : Int32)) hX dX12_findIntrusions_96 (by decide) ?_
        refine J_iald (j := 1) hX dX12_findIntrusions_97 ka_448 le_448 (vp_lit (by decide)) (by decide) ?_
        refine J_aload_n hX dX12_findIntrusions_98 rfl 1 rfl ?_
        refine J_getR hX kf_RX12_26 dX12_findIntrusions_99 ka_426 (by decide) rfl rh_426_7 ?_
        refine J_iload_n hX dX12_findIntrusions_102 rfl 4 rfl ?_
        obtain ⟨b19, h⟩ := h
        refine J_iald (j := x3.toNatClampNeg) hX dX12_findIntrusions_103 ka_432 le_432 b19 rfl ?_
        refine J_aload_n hX dX12_findIntrusions_104 rfl 1 rfl ?_
        refine J_getR hX kf_RX12_26 dX12_findIntrusions_105 ka_426 (by decide) rfl rh_426_7 ?_
        refine J_iload_n hX dX12_findIntrusions_108 rfl 4 rfl ?_
        refine J_iald (j := x3.toNatClampNeg) hX dX12_findIntrusions_109 ka_432 le_432 b19 rfl ?_
        refine J_aload_n hX dX12_findIntrusions_110 rfl 1 rfl ?_
        refine J_getR hX kf_RX12_32 dX12_findIntrusions_111 ka_426 (by decide) rfl rh_426_9 ?_
        refine J_iload_n hX dX12_findIntrusions_114 rfl 4 rfl ?_
        refine J_iald (j := x3.toNatClampNeg) hX dX12_findIntrusions_115 ka_434 le_434 b19 rfl ?_
        refine J_iadd hX dX12_findIntrusions_116 ?_
        refine J_callS hX km_X12_common kl_RX12_116 dX12_findIntrusions_117 [.int (m.1 448 0), .int (m.1 448 1), .int (m.1 432 x3.toNatClampNeg), .int ((m.1 432 x3.toNatClampNeg) + (m.1 434 x3.toNatClampNeg))] ⟨Nat.le_of_ble_eq_true rfl, Nat.le_of_ble_eq_true rfl⟩ rfl rfl (Nat.le_of_ble_eq_true rfl) (c_X12_common (m.1 448 0) (m.1 448 1) (m.1 432 x3.toNatClampNeg) ((m.1 432 x3.toNatClampNeg) + (m.1 434 x3.toNatClampNeg)) m) (fun v w2 hk => ?_)
        obtain ⟨rfl, rfl⟩ := hk
        show J X (0, 0) 120 [(5, .int y18), (0, .ref (ad 426)), (1, .int x1), (2, .int x2), (3, .int x3), (4, .int y11)] [.int (v_X12_common (m.1 448 0) (m.1 448 1) (m.1 432 x3.toNatClampNeg) ((m.1 432 x3.toNatClampNeg) + (m.1 434 x3.toNatClampNeg)))] (fl ad m)
        refine J_nmI (fun y20 e_y20 => ?_)
        replace h := h y20 e_y20
        refine J_istore (lv2 := [(6, .int y20), (5, .int y18), (0, .ref (ad 426)), (1, .int x1), (2, .int x2), (3, .int x3), (4, .int y11)]) hX dX12_findIntrusions_120 (Nat.le_of_ble_eq_true rfl) rfl ?_
        refine J_aload_n hX dX12_findIntrusions_122 rfl 2 rfl ?_
        refine J_getR hX kf_RX12_74 dX12_findIntrusions_123 ka_426 (by decide) rfl rh_426_28 ?_
        refine J_iconst (v := (2 : Int32)) hX dX12_findIntrusions_126 (by decide) ?_
        refine J_iald (j := 2) hX dX12_findIntrusions_127 ka_448 le_448 (vp_lit (by decide)) (by decide) ?_
        refine J_aload_n hX dX12_findIntrusions_128 rfl 2 rfl ?_
        refine J_getR hX kf_RX12_74 dX12_findIntrusions_129 ka_426 (by decide) rfl rh_426_28 ?_
        refine J_iconst (v := (3 : Int32)) hX dX12_findIntrusions_132 (by decide) ?_
        refine J_iald (j := 3) hX dX12_findIntrusions_133 ka_448 le_448 (vp_lit (by decide)) (by decide) ?_
        refine J_aload_n hX dX12_findIntrusions_134 rfl 2 rfl ?_
        refine J_getR hX kf_RX12_29 dX12_findIntrusions_135 ka_426 (by decide) rfl rh_426_8 ?_
        refine J_iload_n hX dX12_findIntrusions_138 rfl 5 rfl ?_
        refine J_iald (j := x3.toNatClampNeg) hX dX12_findIntrusions_139 ka_433 le_433 b19 rfl ?_
        refine J_aload_n hX dX12_findIntrusions_140 rfl 2 rfl ?_
        refine J_getR hX kf_RX12_29 dX12_findIntrusions_141 ka_426 (by decide) rfl rh_426_8 ?_
        refine J_iload_n hX dX12_findIntrusions_144 rfl 5 rfl ?_
        refine J_iald (j := x3.toNatClampNeg) hX dX12_findIntrusions_145 ka_433 le_433 b19 rfl ?_
        refine J_aload_n hX dX12_findIntrusions_146 rfl 2 rfl ?_
        refine J_getR hX kf_RX12_35 dX12_findIntrusions_147 ka_426 (by decide) rfl rh_426_10 ?_
        refine J_iload_n hX dX12_findIntrusions_150 rfl 5 rfl ?_
        refine J_iald (j := x3.toNatClampNeg) hX dX12_findIntrusions_151 ka_435 le_435 b19 rfl ?_
        refine J_iadd hX dX12_findIntrusions_152 ?_
        refine J_callS hX km_X12_common kl_RX12_116 dX12_findIntrusions_153 [.int (m.1 448 2), .int (m.1 448 3), .int (m.1 433 x3.toNatClampNeg), .int ((m.1 433 x3.toNatClampNeg) + (m.1 435 x3.toNatClampNeg))] ⟨Nat.le_of_ble_eq_true rfl, Nat.le_of_ble_eq_true rfl⟩ rfl rfl (Nat.le_of_ble_eq_true rfl) (c_X12_common (m.1 448 2) (m.1 448 3) (m.1 433 x3.toNatClampNeg) ((m.1 433 x3.toNatClampNeg) + (m.1 435 x3.toNatClampNeg)) m) (fun v w2 hk => ?_)
        obtain ⟨rfl, rfl⟩ := hk
        show J X (0, 0) 156 [(6, .int y20), (5, .int y18), (0, .ref (ad 426)), (1, .int x1), (2, .int x2), (3, .int x3), (4, .int y11)] [.int (v_X12_common (m.1 448 2) (m.1 448 3) (m.1 433 x3.toNatClampNeg) ((m.1 433 x3.toNatClampNeg) + (m.1 435 x3.toNatClampNeg)))] (fl ad m)
        refine J_nmI (fun y21 e_y21 => ?_)
        replace h := h y21 e_y21
        refine J_istore (lv2 := [(7, .int y21), (6, .int y20), (5, .int y18), (0, .ref (ad 426)), (1, .int x1), (2, .int x2), (3, .int x3), (4, .int y11)]) hX dX12_findIntrusions_156 (Nat.le_of_ble_eq_true rfl) rfl ?_
        refine J_iload_n hX dX12_findIntrusions_158 rfl 6 rfl ?_
        refine J_iload_n hX dX12_findIntrusions_159 rfl 4 rfl ?_
        refine J_icmp_eq (tgt := 204) hX dX12_findIntrusions_160 (by decide) (fun c22 => ?_) (fun c22 => ?_)
        · replace h := Eq.mp (if_pos c22) h
          refine J_iinc (x := (x3 + (1 : Int32))) (lv2 := [(3, .int (x3 + (1 : Int32))), (7, .int y21), (6, .int y20), (5, .int y18), (0, .ref (ad 426)), (1, .int x1), (2, .int x2), (4, .int y11)]) hX dX12_findIntrusions_204 6 rfl rfl (Nat.le_of_ble_eq_true rfl) rfl ?_
          refine J_goto (tgt := 12) hX dX12_findIntrusions_207 (by decide) ?_
          exact J_sub [4, 5, 6, 0] rfl (hrec (x3 + (1 : Int32)) m h)
        · replace h := Eq.mp (if_neg c22) h
          refine J_iload hX dX12_findIntrusions_163 7 rfl ?_
          refine J_if_ne (tgt := 204) hX dX12_findIntrusions_165 (by decide) (fun c23 => ?_) (fun c23 => ?_)
          · replace h := Eq.mp (if_neg c23) h
            refine J_iinc (x := (x3 + (1 : Int32))) (lv2 := [(3, .int (x3 + (1 : Int32))), (7, .int y21), (6, .int y20), (5, .int y18), (0, .ref (ad 426)), (1, .int x1), (2, .int x2), (4, .int y11)]) hX dX12_findIntrusions_204 6 rfl rfl (Nat.le_of_ble_eq_true rfl) rfl ?_
            refine J_goto (tgt := 12) hX dX12_findIntrusions_207 (by decide) ?_
            exact J_sub [4, 5, 6, 0] rfl (hrec (x3 + (1 : Int32)) m h)
          · replace h := Eq.mp (if_pos c23) h
            refine J_iload hX dX12_findIntrusions_168 2 rfl ?_
            refine J_if_ne (tgt := 204) hX dX12_findIntrusions_170 (by decide) (fun c24 => ?_) (fun c24 => ?_)
            · replace h := Eq.mp (if_neg c24) h
              refine J_iinc (x := (x3 + (1 : Int32))) (lv2 := [(3, .int (x3 + (1 : Int32))), (7, .int y21), (6, .int y20), (5, .int y18), (0, .ref (ad 426)), (1, .int x1), (2, .int x2), (4, .int y11)]) hX dX12_findIntrusions_204 6 rfl rfl (Nat.le_of_ble_eq_true rfl) rfl ?_
              refine J_goto (tgt := 12) hX dX12_findIntrusions_207 (by decide) ?_
              exact J_sub [4, 5, 6, 0] rfl (hrec (x3 + (1 : Int32)) m h)
            · replace h := Eq.mp (if_pos c24) h
              refine J_iload hX dX12_findIntrusions_173 1 rfl ?_
              refine J_if_le (tgt := 204) hX dX12_findIntrusions_175 (by decide) (fun c25 => ?_) (fun c25 => ?_)
              · replace h := Eq.mp (if_pos c25) h
                refine J_iinc (x := (x3 + (1 : Int32))) (lv2 := [(3, .int (x3 + (1 : Int32))), (7, .int y21), (6, .int y20), (5, .int y18), (0, .ref (ad 426)), (1, .int x1), (2, .int x2), (4, .int y11)]) hX dX12_findIntrusions_204 6 rfl rfl (Nat.le_of_ble_eq_true rfl) rfl ?_
                refine J_goto (tgt := 12) hX dX12_findIntrusions_207 (by decide) ?_
                exact J_sub [4, 5, 6, 0] rfl (hrec (x3 + (1 : Int32)) m h)
              · replace h := Eq.mp (if_neg c25) h
                refine J_iload hX dX12_findIntrusions_178 0 rfl ?_
                refine J_if_le (tgt := 204) hX dX12_findIntrusions_180 (by decide) (fun c26 => ?_) (fun c26 => ?_)
                · replace h := Eq.mp (if_pos c26) h
                  refine J_iinc (x := (x3 + (1 : Int32))) (lv2 := [(3, .int (x3 + (1 : Int32))), (7, .int y21), (6, .int y20), (5, .int y18), (0, .ref (ad 426)), (1, .int x1), (2, .int x2), (4, .int y11)]) hX dX12_findIntrusions_204 6 rfl rfl (Nat.le_of_ble_eq_true rfl) rfl ?_
                  refine J_goto (tgt := 12) hX dX12_findIntrusions_207 (by decide) ?_
                  exact J_sub [4, 5, 6, 0] rfl (hrec (x3 + (1 : Int32)) m h)
                · replace h := Eq.mp (if_neg c26) h
                  refine J_aload_n hX dX12_findIntrusions_183 rfl 3 rfl ?_
                  refine J_iconst (v := (5 : Int32)) hX dX12_findIntrusions_184 (by decide) ?_
                  refine J_iload_n hX dX12_findIntrusions_185 rfl 4 rfl ?_
                  refine J_iload_n hX dX12_findIntrusions_186 rfl 5 rfl ?_
                  refine J_iload_n hX dX12_findIntrusions_187 rfl 6 rfl ?_
                  refine J_iload_n hX dX12_findIntrusions_188 rfl 5 rfl ?_
                  refine J_iconst (v := (2 : Int32)) hX dX12_findIntrusions_189 (by decide) ?_
                  refine J_irem hX dX12_findIntrusions_190 (by decide) ?_
                  have hj30 : ∀ y28 : Int32, y28 = (if (rm32 x2 (2 : Int32)) = (0 : Int32) then y21 else y20) → J X (0, 0) 201 [(0, .ref (ad 426)), (1, .int x1), (2, .int x2), (3, .int x3)] [.int y28, .int x3, .int x2, .int x1, .int (5 : Int32), .ref (ad 426)] (fl ad m) := by
                    intro y28 e_y28
                    replace h := h y28 e_y28
                    refine J_callV hX km_X12_finds kl_RX12_314 dX12_findIntrusions_201 ka_426 (by decide) [.int (5 : Int32), .int x1, .int x2, .int x3, .int y28] ⟨Nat.le_of_ble_eq_true rfl, Nat.le_of_ble_eq_true rfl⟩ rfl rfl (Nat.le_of_ble_eq_true rfl) (c_X12_finds (5 : Int32) x1 x2 x3 y28 m _ h) (fun v w2 hk => ?_)
                    obtain ⟨m29, rfl, rfl, h⟩ := hk
                    show J X (0, 0) 204 [(0, .ref (ad 426)), (1, .int x1), (2, .int x2), (3, .int x3)] [] (fl ad m29)
                    refine J_iinc (x := (x3 + (1 : Int32))) (lv2 := [(3, .int (x3 + (1 : Int32))), (0, .ref (ad 426)), (1, .int x1), (2, .int x2)]) hX dX12_findIntrusions_204 3 rfl rfl (Nat.le_of_ble_eq_true rfl) rfl ?_
                    refine J_goto (tgt := 12) hX dX12_findIntrusions_207 (by decide) ?_
                    exact J_sub [1, 2, 3, 0] rfl (hrec (x3 + (1 : Int32)) m29 h)
                  refine J_if_ne (tgt := 199) hX dX12_findIntrusions_191 (by decide) (fun c27 => ?_) (fun c27 => ?_)
                  · refine J_iload hX dX12_findIntrusions_199 1 rfl ?_
                    exact J_sub [3, 4, 5, 6] rfl (hj30 _ (if_neg c27).symm)
                  · refine J_iload hX dX12_findIntrusions_194 0 rfl ?_
                    refine J_goto (tgt := 201) hX dX12_findIntrusions_196 (by decide) ?_
                    exact J_sub [3, 4, 5, 6] rfl (hj30 _ (if_pos c27).symm)
      have g32 := g17
      refine J_if_le (tgt := 83) hX dX12_findIntrusions_52 (by decide) (fun c12 => ?_) (fun c12 => ?_)
      · refine J_iconst (v := (0 : Int32)) hX dX12_findIntrusions_83 (by decide) ?_
        exact J_sub [1, 2, 3, 4, 0] rfl (hj31 _ (if_pos c12).symm)
      · have g33 := g32 c12
        obtain ⟨b13, g34⟩ := g33
        refine J_aload_n hX dX12_findIntrusions_55 rfl 1 rfl ?_
        refine J_iload_n hX dX12_findIntrusions_56 rfl 2 rfl ?_
        refine J_iconst (v := (0 : Int32)) hX dX12_findIntrusions_57 (by decide) ?_
        refine J_callV hX km_X12_of kl_RX12_91 dX12_findIntrusions_58 ka_426 (by decide) [.int x1, .int (0 : Int32)] ⟨Nat.le_of_ble_eq_true rfl, Nat.le_of_ble_eq_true rfl⟩ rfl rfl (Nat.le_of_ble_eq_true rfl) (c_X12_of x1 (0 : Int32) m b13) (fun v w2 hk => ?_)
        obtain ⟨rfl, rfl⟩ := hk
        show J X (0, 0) 61 [(4, .int y11), (0, .ref (ad 426)), (1, .int x1), (2, .int x2), (3, .int x3)] [.int (v_X12_of x1 (0 : Int32) m)] (fl ad m)
        refine J_iload_n hX dX12_findIntrusions_61 rfl 4 rfl ?_
        refine J_icmp_ne (tgt := 83) hX dX12_findIntrusions_62 (by decide) (fun c14 => ?_) (fun c14 => ?_)
        · refine J_iconst (v := (0 : Int32)) hX dX12_findIntrusions_83 (by decide) ?_
          exact J_sub [1, 2, 3, 4, 0] rfl (hj31 _ ((if_neg c12).trans (if_neg c14)).symm)
        · have g35 := g34 c14
          have b15 := g35
          refine J_aload_n hX dX12_findIntrusions_65 rfl 1 rfl ?_
          refine J_iload_n hX dX12_findIntrusions_66 rfl 2 rfl ?_
          refine J_iconst (v := (1 : Int32)) hX dX12_findIntrusions_67 (by decide) ?_
          refine J_callV hX km_X12_of kl_RX12_91 dX12_findIntrusions_68 ka_426 (by decide) [.int x1, .int (1 : Int32)] ⟨Nat.le_of_ble_eq_true rfl, Nat.le_of_ble_eq_true rfl⟩ rfl rfl (Nat.le_of_ble_eq_true rfl) (c_X12_of x1 (1 : Int32) m b15) (fun v w2 hk => ?_)
          obtain ⟨rfl, rfl⟩ := hk
          show J X (0, 0) 71 [(4, .int y11), (0, .ref (ad 426)), (1, .int x1), (2, .int x2), (3, .int x3)] [.int (v_X12_of x1 (1 : Int32) m)] (fl ad m)
          refine J_iconst (v := (2 : Int32)) hX dX12_findIntrusions_71 (by decide) ?_
          refine J_iadd hX dX12_findIntrusions_72 ?_
          refine J_iconst (v := (4 : Int32)) hX dX12_findIntrusions_73 (by decide) ?_
          refine J_irem hX dX12_findIntrusions_74 (by decide) ?_
          refine J_iload_n hX dX12_findIntrusions_75 rfl 3 rfl ?_
          refine J_icmp_ne (tgt := 83) hX dX12_findIntrusions_76 (by decide) (fun c16 => ?_) (fun c16 => ?_)
          · refine J_iconst (v := (0 : Int32)) hX dX12_findIntrusions_83 (by decide) ?_
            exact J_sub [1, 2, 3, 4, 0] rfl (hj31 _ ((if_neg c12).trans ((if_pos c14).trans (if_neg c16))).symm)
          · refine J_iconst (v := (1 : Int32)) hX dX12_findIntrusions_79 (by decide) ?_
            refine J_goto (tgt := 84) hX dX12_findIntrusions_80 (by decide) ?_
            exact J_sub [1, 2, 3, 4, 0] rfl (hj31 _ ((if_neg c12).trans ((if_pos c14).trans (if_pos c16))).symm)
    have g37 := g10
    refine J_if_le (tgt := 48) hX dX12_findIntrusions_21 (by decide) (fun c5 => ?_) (fun c5 => ?_)
    · refine J_iconst (v := (0 : Int32)) hX dX12_findIntrusions_48 (by decide) ?_
      exact J_sub [0, 1, 2, 3] rfl (hj36 _ (if_pos c5).symm)
    · have g38 := g37 c5
      obtain ⟨b6, g39⟩ := g38
      refine J_aload_n hX dX12_findIntrusions_24 rfl 0 rfl ?_
      refine J_iload_n hX dX12_findIntrusions_25 rfl 3 rfl ?_
      refine J_iconst (v := (0 : Int32)) hX dX12_findIntrusions_26 (by decide) ?_
      refine J_callV hX km_X12_of kl_RX12_91 dX12_findIntrusions_27 ka_426 (by decide) [.int x3, .int (0 : Int32)] ⟨Nat.le_of_ble_eq_true rfl, Nat.le_of_ble_eq_true rfl⟩ rfl rfl (Nat.le_of_ble_eq_true rfl) (c_X12_of x3 (0 : Int32) m b6) (fun v w2 hk => ?_)
      obtain ⟨rfl, rfl⟩ := hk
      show J X (0, 0) 30 [(0, .ref (ad 426)), (1, .int x1), (2, .int x2), (3, .int x3)] [.int (v_X12_of x3 (0 : Int32) m)] (fl ad m)
      refine J_iload_n hX dX12_findIntrusions_30 rfl 1 rfl ?_
      refine J_icmp_ne (tgt := 48) hX dX12_findIntrusions_31 (by decide) (fun c7 => ?_) (fun c7 => ?_)
      · refine J_iconst (v := (0 : Int32)) hX dX12_findIntrusions_48 (by decide) ?_
        exact J_sub [0, 1, 2, 3] rfl (hj36 _ ((if_neg c5).trans (if_neg c7)).symm)
      · have g40 := g39 c7
        have b8 := g40
        refine J_aload_n hX dX12_findIntrusions_34 rfl 0 rfl ?_
        refine J_iload_n hX dX12_findIntrusions_35 rfl 3 rfl ?_
        refine J_iconst (v := (1 : Int32)) hX dX12_findIntrusions_36 (by decide) ?_
        refine J_callV hX km_X12_of kl_RX12_91 dX12_findIntrusions_37 ka_426 (by decide) [.int x3, .int (1 : Int32)] ⟨Nat.le_of_ble_eq_true rfl, Nat.le_of_ble_eq_true rfl⟩ rfl rfl (Nat.le_of_ble_eq_true rfl) (c_X12_of x3 (1 : Int32) m b8) (fun v w2 hk => ?_)
        obtain ⟨rfl, rfl⟩ := hk
        show J X (0, 0) 40 [(0, .ref (ad 426)), (1, .int x1), (2, .int x2), (3, .int x3)] [.int (v_X12_of x3 (1 : Int32) m)] (fl ad m)
        refine J_iload_n hX dX12_findIntrusions_40 rfl 2 rfl ?_
        refine J_icmp_ne (tgt := 48) hX dX12_findIntrusions_41 (by decide) (fun c9 => ?_) (fun c9 => ?_)
        · refine J_iconst (v := (0 : Int32)) hX dX12_findIntrusions_48 (by decide) ?_
          exact J_sub [0, 1, 2, 3] rfl (hj36 _ ((if_neg c5).trans ((if_pos c7).trans (if_neg c9))).symm)
        · refine J_iconst (v := (1 : Int32)) hX dX12_findIntrusions_44 (by decide) ?_
          refine J_goto (tgt := 49) hX dX12_findIntrusions_45 (by decide) ?_
          exact J_sub [0, 1, 2, 3] rfl (hj36 _ ((if_neg c5).trans ((if_pos c7).trans (if_pos c9))).symm)
set_option maxRecDepth 100000 in
theorem t_X12_findIntrusions_l12 {X : XT} {ad : Nat → Nat} {K : Mm → Prop} (hX : Cx X cX12_findIntrusions 8 RX12 (rmN 6 139)) (hR : Rx X none (kV ad K) (0, 0)) {k210 : Mm → Prop} (x1 : Int32) (x2 : Int32) (hk210 : ∀ (m : Mm), k210 m → J X (0, 0) 210 [(0, .ref (ad 426)), (1, .int x1), (2, .int x2)] [] (fl ad m)) : ∀ (n : Nat) (x3 : Int32) (m : Mm), wp_X12_findIntrusions_l12 k210 K x1 x2 n x3 m → J X (0, 0) 12 [(0, .ref (ad 426)), (1, .int x1), (2, .int x2), (3, .int x3)] [] (fl ad m) := by
  intro n
  induction n with
  | zero => intro x3 m h; exact h.elim
  | succ n ih => intro x3 m h; exact tb_X12_findIntrusions_l12 hX hR x1 x2 ih hk210 x3 m h
set_option maxRecDepth 100000 in
theorem c_X12_findIntrusions {G : GT} {ad : Nat → Nat} (x1 : Int32) (x2 : Int32) (m : Mm) (K : Mm → Prop) (h : wp_X12_findIntrusions x1 x2 m K) : Cn G yX12_findIntrusions cX12_findIntrusions 8 none (rmN 6 139) [.ref (ad 426), .int x1, .int x2] (0, 0) (fl ad m) (kV ad K) := by
  unfold wp_X12_findIntrusions at h
  refine Cn.of pn_RX12 (Nat.le_of_ble_eq_true rfl) (fun X hG hX hR => ?_)
  subst hG
  have hX : Cx X cX12_findIntrusions 8 RX12 (rmN 6 139) := hX
  show J X (0, 0) 0 [(0, .ref (ad 426)), (1, .int x1), (2, .int x2)] [] (fl ad m)
  refine J_aload_n hX dX12_findIntrusions_0 rfl 0 rfl ?_
  refine J_iload_n hX dX12_findIntrusions_1 rfl 1 rfl ?_
  refine J_iload_n hX dX12_findIntrusions_2 rfl 2 rfl ?_
  refine J_callV hX km_X12_stripOf kl_RX12_311 dX12_findIntrusions_3 ka_426 (by decide) [.int x1, .int x2] ⟨Nat.le_of_ble_eq_true rfl, Nat.le_of_ble_eq_true rfl⟩ rfl rfl (Nat.le_of_ble_eq_true rfl) (c_X12_stripOf x1 x2 m _ h) (fun v w2 hk => ?_)
  obtain ⟨y2, m1, rfl, rfl, h⟩ := hk
  show J X (0, 0) 6 [(0, .ref (ad 426)), (1, .int x1), (2, .int x2)] [.int y2] (fl ad m1)
  refine J_if_ne (tgt := 10) hX dX12_findIntrusions_6 (by decide) (fun c3 => ?_) (fun c3 => ?_)
  · replace h := Eq.mp (if_neg c3) h
    refine J_iconst (v := (0 : Int32)) hX dX12_findIntrusions_10 (by decide) ?_
    refine J_istore_n (lv2 := [(3, .int (0 : Int32)), (0, .ref (ad 426)), (1, .int x1), (2, .int x2)]) hX dX12_findIntrusions_11 rfl (Nat.le_of_ble_eq_true rfl) rfl ?_
    refine J_sub [1, 2, 3, 0] rfl (t_X12_findIntrusions_l12 hX hR x1 x2 (fun m41 h => ?_) FU (0 : Int32) m1 h)
    refine J_iload_n hX dX12_findIntrusions_210 rfl 2 rfl ?_
    have hj47 : ∀ y45 : Int32, y45 = (if x2 = (0 : Int32) then (-(m41.1 448 2)) else (if x2 = (1 : Int32) then ((m41.1 448 1) - (m41.1 427 0)) else (if x2 = (2 : Int32) then ((m41.1 448 3) - (m41.1 427 1)) else (-(m41.1 448 0))))) → J X (0, 0) 273 [(0, .ref (ad 426)), (1, .int x1), (2, .int x2)] [.int y45] (fl ad m41) := by
      intro y45 e_y45
      replace h := h y45 e_y45
      refine J_istore_n (lv2 := [(3, .int y45), (0, .ref (ad 426)), (1, .int x1), (2, .int x2)]) hX dX12_findIntrusions_273 rfl (Nat.le_of_ble_eq_true rfl) rfl ?_
      refine J_aload_n hX dX12_findIntrusions_274 rfl 1 rfl ?_
      refine J_iconst (v := (5 : Int32)) hX dX12_findIntrusions_275 (by decide) ?_
      refine J_iload_n hX dX12_findIntrusions_276 rfl 2 rfl ?_
      refine J_iload_n hX dX12_findIntrusions_277 rfl 3 rfl ?_
      refine J_bipush (v := (-9 : Int32)) hX dX12_findIntrusions_278 (by decide) ?_
      refine J_iload_n hX dX12_findIntrusions_280 rfl 0 rfl ?_
      refine J_callV hX km_X12_finds kl_RX12_314 dX12_findIntrusions_281 ka_426 (by decide) [.int (5 : Int32), .int x1, .int x2, .int (-9 : Int32), .int y45] ⟨Nat.le_of_ble_eq_true rfl, Nat.le_of_ble_eq_true rfl⟩ rfl rfl (Nat.le_of_ble_eq_true rfl) (c_X12_finds (5 : Int32) x1 x2 (-9 : Int32) y45 m41 _ h) (fun v w2 hk => ?_)
      obtain ⟨m46, rfl, rfl, h⟩ := hk
      show J X (0, 0) 284 [(3, .int y45), (0, .ref (ad 426)), (1, .int x1), (2, .int x2)] [] (fl ad m46)
      exact J_vret hX hR dX12_findIntrusions_284 ⟨_, rfl, rfl, h⟩
    refine J_if_ne (tgt := 224) hX dX12_findIntrusions_211 (by decide) (fun c42 => ?_) (fun c42 => ?_)
    · refine J_iload_n hX dX12_findIntrusions_224 rfl 2 rfl ?_
      refine J_iconst (v := (1 : Int32)) hX dX12_findIntrusions_225 (by decide) ?_
      refine J_icmp_ne (tgt := 245) hX dX12_findIntrusions_226 (by decide) (fun c43 => ?_) (fun c43 => ?_)
      · refine J_iload_n hX dX12_findIntrusions_245 rfl 2 rfl ?_
        refine J_iconst (v := (2 : Int32)) hX dX12_findIntrusions_246 (by decide) ?_
        refine J_icmp_ne (tgt := 266) hX dX12_findIntrusions_247 (by decide) (fun c44 => ?_) (fun c44 => ?_)
        · refine J_aload_n hX dX12_findIntrusions_266 rfl 0 rfl ?_
          refine J_getR hX kf_RX12_74 dX12_findIntrusions_267 ka_426 (by decide) rfl rh_426_28 ?_
          refine J_iconst (v := (0 : Int32)) hX dX12_findIntrusions_270 (by decide) ?_
          refine J_iald (j := 0) hX dX12_findIntrusions_271 ka_448 le_448 (vp_lit (by decide)) (by decide) ?_
          refine J_ineg hX dX12_findIntrusions_272 ?_
          exact J_sub [0, 1, 2] rfl (hj47 _ ((if_neg c42).trans ((if_neg c43).trans (if_neg c44))).symm)
        · refine J_aload_n hX dX12_findIntrusions_250 rfl 0 rfl ?_
          refine J_getR hX kf_RX12_74 dX12_findIntrusions_251 ka_426 (by decide) rfl rh_426_28 ?_
          refine J_iconst (v := (3 : Int32)) hX dX12_findIntrusions_254 (by decide) ?_
          refine J_iald (j := 3) hX dX12_findIntrusions_255 ka_448 le_448 (vp_lit (by decide)) (by decide) ?_
          refine J_aload_n hX dX12_findIntrusions_256 rfl 0 rfl ?_
          refine J_getR hX kf_RX12_7 dX12_findIntrusions_257 ka_426 (by decide) rfl rh_426_0 ?_
          refine J_iconst (v := (1 : Int32)) hX dX12_findIntrusions_260 (by decide) ?_
          refine J_iald (j := 1) hX dX12_findIntrusions_261 ka_427 le_427 (vp_lit (by decide)) (by decide) ?_
          refine J_isub hX dX12_findIntrusions_262 ?_
          refine J_goto (tgt := 273) hX dX12_findIntrusions_263 (by decide) ?_
          exact J_sub [0, 1, 2] rfl (hj47 _ ((if_neg c42).trans ((if_neg c43).trans (if_pos c44))).symm)
      · refine J_aload_n hX dX12_findIntrusions_229 rfl 0 rfl ?_
        refine J_getR hX kf_RX12_74 dX12_findIntrusions_230 ka_426 (by decide) rfl rh_426_28 ?_
        refine J_iconst (v := (1 : Int32)) hX dX12_findIntrusions_233 (by decide) ?_
        refine J_iald (j := 1) hX dX12_findIntrusions_234 ka_448 le_448 (vp_lit (by decide)) (by decide) ?_
        refine J_aload_n hX dX12_findIntrusions_235 rfl 0 rfl ?_
        refine J_getR hX kf_RX12_7 dX12_findIntrusions_236 ka_426 (by decide) rfl rh_426_0 ?_
        refine J_iconst (v := (0 : Int32)) hX dX12_findIntrusions_239 (by decide) ?_
        refine J_iald (j := 0) hX dX12_findIntrusions_240 ka_427 le_427 (vp_lit (by decide)) (by decide) ?_
        refine J_isub hX dX12_findIntrusions_241 ?_
        refine J_goto (tgt := 273) hX dX12_findIntrusions_242 (by decide) ?_
        exact J_sub [0, 1, 2] rfl (hj47 _ ((if_neg c42).trans (if_pos c43)).symm)
    · refine J_aload_n hX dX12_findIntrusions_214 rfl 0 rfl ?_
      refine J_getR hX kf_RX12_74 dX12_findIntrusions_215 ka_426 (by decide) rfl rh_426_28 ?_
      refine J_iconst (v := (2 : Int32)) hX dX12_findIntrusions_218 (by decide) ?_
      refine J_iald (j := 2) hX dX12_findIntrusions_219 ka_448 le_448 (vp_lit (by decide)) (by decide) ?_
      refine J_ineg hX dX12_findIntrusions_220 ?_
      refine J_goto (tgt := 273) hX dX12_findIntrusions_221 (by decide) ?_
      exact J_sub [0, 1, 2] rfl (hj47 _ (if_pos c42).symm)
  · replace h := Eq.mp (if_pos c3) h
    exact J_vret hX hR dX12_findIntrusions_9 ⟨_, rfl, rfl, h⟩
set_option maxRecDepth 100000 in
theorem t_X12_findSides_j76 {X : XT} {ad : Nat → Nat} {K : Mm → Prop} (hX : Cx X cX12_findSides 5 RX12 (rmN 7 166)) (hR : Rx X none (kV ad K) (0, 0)) {k2 : Int32 → Mm → Prop} (x1 : Int32) (x2 : Int32) (x3 : Int32) (hk2 : ∀ (z3 : Int32) (m : Mm), k2 z3 m → J X (0, 0) 2 [(0, .ref (ad 426)), (1, .int x1), (2, .int x2), (3, .int z3)] [] (fl ad m)) (m : Mm) (h : wp_X12_findSides_j76 k2 K x1 x2 x3 m) : J X (0, 0) 76 [(0, .ref (ad 426)), (1, .int x1), (2, .int x2), (3, .int x3)] [] (fl ad m) := by
  unfold wp_X12_findSides_j76 at h
  refine J_aload_n hX dX12_findSides_76 rfl 0 rfl ?_
  refine J_iload_n hX dX12_findSides_77 rfl 1 rfl ?_
  refine J_iload_n hX dX12_findSides_78 rfl 3 rfl ?_
  refine J_callV hX km_X12_findIntrusions kl_RX12_323 dX12_findSides_79 ka_426 (by decide) [.int x1, .int x3] ⟨Nat.le_of_ble_eq_true rfl, Nat.le_of_ble_eq_true rfl⟩ rfl rfl (Nat.le_of_ble_eq_true rfl) (c_X12_findIntrusions x1 x3 m _ h) (fun v w2 hk => ?_)
  obtain ⟨m6, rfl, rfl, h⟩ := hk
  show J X (0, 0) 82 [(0, .ref (ad 426)), (1, .int x1), (2, .int x2), (3, .int x3)] [] (fl ad m6)
  refine J_iinc (x := (x3 + (1 : Int32))) (lv2 := [(3, .int (x3 + (1 : Int32))), (0, .ref (ad 426)), (1, .int x1), (2, .int x2)]) hX dX12_findSides_82 3 rfl rfl (Nat.le_of_ble_eq_true rfl) rfl ?_
  refine J_goto (tgt := 2) hX dX12_findSides_85 (by decide) ?_
  exact J_sub [1, 2, 3, 0] rfl (hk2 (x3 + (1 : Int32)) m6 h)
set_option maxRecDepth 100000 in
theorem t_X12_findSides_j73 {X : XT} {ad : Nat → Nat} {K : Mm → Prop} (hX : Cx X cX12_findSides 5 RX12 (rmN 7 166)) (hR : Rx X none (kV ad K) (0, 0)) {k2 : Int32 → Mm → Prop} (x1 : Int32) (x2 : Int32) (x3 : Int32) (s1 : Int32) (s2 : Int32) (s3 : Int32) (s4 : Int32) (s5 : Int32) (hk2 : ∀ (z3 : Int32) (m : Mm), k2 z3 m → J X (0, 0) 2 [(0, .ref (ad 426)), (1, .int x1), (2, .int x2), (3, .int z3)] [] (fl ad m)) (m : Mm) (h : wp_X12_findSides_j73 k2 K x1 x2 x3 s1 s2 s3 s4 s5 m) : J X (0, 0) 73 [(0, .ref (ad 426)), (1, .int x1), (2, .int x2), (3, .int x3)] [.int s5, .int s4, .int s3, .int s2, .int s1, .ref (ad 426)] (fl ad m) := by
  unfold wp_X12_findSides_j73 at h
  refine J_callV hX km_X12_finds kl_RX12_314 dX12_findSides_73 ka_426 (by decide) [.int s1, .int s2, .int s3, .int s4, .int s5] ⟨Nat.le_of_ble_eq_true rfl, Nat.le_of_ble_eq_true rfl⟩ rfl rfl (Nat.le_of_ble_eq_true rfl) (c_X12_finds s1 s2 s3 s4 s5 m _ h) (fun v w2 hk => ?_)
  obtain ⟨m11, rfl, rfl, h⟩ := hk
  show J X (0, 0) 76 [(0, .ref (ad 426)), (1, .int x1), (2, .int x2), (3, .int x3)] [] (fl ad m11)
  exact J_sub [0, 1, 2, 3] rfl (t_X12_findSides_j76 hX hR x1 x2 x3 hk2 m11 h)
set_option maxRecDepth 100000 in
theorem t_X12_findSides_j72 {X : XT} {ad : Nat → Nat} {K : Mm → Prop} (hX : Cx X cX12_findSides 5 RX12 (rmN 7 166)) (hR : Rx X none (kV ad K) (0, 0)) {k2 : Int32 → Mm → Prop} (x1 : Int32) (x2 : Int32) (x3 : Int32) (s1 : Int32) (s2 : Int32) (s3 : Int32) (s4 : Int32) (hk2 : ∀ (z3 : Int32) (m : Mm), k2 z3 m → J X (0, 0) 2 [(0, .ref (ad 426)), (1, .int x1), (2, .int x2), (3, .int z3)] [] (fl ad m)) (m : Mm) (h : wp_X12_findSides_j72 k2 K x1 x2 x3 s1 s2 s3 s4 m) : J X (0, 0) 72 [(0, .ref (ad 426)), (1, .int x1), (2, .int x2), (3, .int x3)] [.int s4, .int s3, .int s2, .int s1, .ref (ad 426)] (fl ad m) := by
  unfold wp_X12_findSides_j72 at h
  refine J_iconst (v := (0 : Int32)) hX dX12_findSides_72 (by decide) ?_
  exact J_sub [0, 1, 2, 3] rfl (t_X12_findSides_j73 hX hR x1 x2 x3 s1 s2 s3 s4 (0 : Int32) hk2 m h)
set_option maxRecDepth 100000 in
theorem tb_X12_findSides_l2 {X : XT} {ad : Nat → Nat} {K : Mm → Prop} (hX : Cx X cX12_findSides 5 RX12 (rmN 7 166)) (hR : Rx X none (kV ad K) (0, 0)) {rec : Int32 → Mm → Prop} (x1 : Int32) (x2 : Int32) (hrec : ∀ (x3 : Int32) (m : Mm), rec x3 m → J X (0, 0) 2 [(0, .ref (ad 426)), (1, .int x1), (2, .int x2), (3, .int x3)] [] (fl ad m)) (x3 : Int32) (m : Mm) (h : wb_X12_findSides_l2 rec K x1 x2 x3 m) : J X (0, 0) 2 [(0, .ref (ad 426)), (1, .int x1), (2, .int x2), (3, .int x3)] [] (fl ad m) := by
  unfold wb_X12_findSides_l2 at h
  refine J_iload_n hX dX12_findSides_2 rfl 3 rfl ?_
  refine J_iconst (v := (4 : Int32)) hX dX12_findSides_3 (by decide) ?_
  refine J_icmp_ge (tgt := 88) hX dX12_findSides_4 (by decide) (fun c1 => ?_) (fun c1 => ?_)
  · replace h := Eq.mp (if_pos c1) h
    exact J_vret hX hR dX12_findSides_88 ⟨_, rfl, rfl, h⟩
  · replace h := Eq.mp (if_neg c1) h
    refine J_aload_n hX dX12_findSides_7 rfl 0 rfl ?_
    refine J_iload_n hX dX12_findSides_8 rfl 1 rfl ?_
    refine J_iload_n hX dX12_findSides_9 rfl 3 rfl ?_
    obtain ⟨b2, h⟩ := h
    refine J_callV hX km_X12_reachOf kl_RX12_281 dX12_findSides_10 ka_426 (by decide) [.int x1, .int x3] ⟨Nat.le_of_ble_eq_true rfl, Nat.le_of_ble_eq_true rfl⟩ rfl rfl (Nat.le_of_ble_eq_true rfl) (c_X12_reachOf x1 x3 m b2) (fun v w2 hk => ?_)
    obtain ⟨rfl, rfl⟩ := hk
    show J X (0, 0) 13 [(0, .ref (ad 426)), (1, .int x1), (2, .int x2), (3, .int x3)] [.int (v_X12_reachOf x1 x3 m)] (fl ad m)
    refine J_nmI (fun y3 e_y3 => ?_)
    replace h := h y3 e_y3
    refine J_istore (lv2 := [(4, .int y3), (0, .ref (ad 426)), (1, .int x1), (2, .int x2), (3, .int x3)]) hX dX12_findSides_13 (Nat.le_of_ble_eq_true rfl) rfl ?_
    refine J_aload_n hX dX12_findSides_15 rfl 1 rfl ?_
    refine J_iload_n hX dX12_findSides_16 rfl 2 rfl ?_
    obtain ⟨b4, h⟩ := h
    refine J_callV hX km_X12_isFlap kl_RX12_302 dX12_findSides_17 ka_426 (by decide) [.int x1] ⟨Nat.le_of_ble_eq_true rfl, Nat.le_of_ble_eq_true rfl⟩ rfl rfl (Nat.le_of_ble_eq_true rfl) (c_X12_isFlap x1 m b4) (fun v w2 hk => ?_)
    obtain ⟨rfl, rfl⟩ := hk
    show J X (0, 0) 20 [(4, .int y3), (0, .ref (ad 426)), (1, .int x1), (2, .int x2), (3, .int x3)] [.int (v_X12_isFlap x1 m)] (fl ad m)
    refine J_if_ne (tgt := 76) hX dX12_findSides_20 (by decide) (fun c5 => ?_) (fun c5 => ?_)
    · replace h := Eq.mp (if_neg c5) h
      exact J_sub [1, 2, 3, 4] rfl (t_X12_findSides_j76 hX hR x1 x2 x3 hrec m h)
    · replace h := Eq.mp (if_pos c5) h
      refine J_aload_n hX dX12_findSides_23 rfl 1 rfl ?_
      refine J_iconst (v := (0 : Int32)) hX dX12_findSides_24 (by decide) ?_
      refine J_iload_n hX dX12_findSides_25 rfl 2 rfl ?_
      refine J_iload_n hX dX12_findSides_26 rfl 4 rfl ?_
      refine J_bipush (v := (-9 : Int32)) hX dX12_findSides_27 (by decide) ?_
      refine J_aload_n hX dX12_findSides_29 rfl 1 rfl ?_
      refine J_iload_n hX dX12_findSides_30 rfl 2 rfl ?_
      refine J_iload_n hX dX12_findSides_31 rfl 4 rfl ?_
      refine J_iload_n hX dX12_findSides_32 rfl 3 rfl ?_
      refine J_callV hX km_X12_openOf kl_RX12_317 dX12_findSides_33 ka_426 (by decide) [.int x1, .int x3, .int x2] ⟨Nat.le_of_ble_eq_true rfl, Nat.le_of_ble_eq_true rfl⟩ rfl rfl (Nat.le_of_ble_eq_true rfl) (c_X12_openOf x1 x3 x2 m _ h) (fun v w2 hk => ?_)
      obtain ⟨y8, m7, rfl, rfl, h⟩ := hk
      show J X (0, 0) 36 [(4, .int y3), (0, .ref (ad 426)), (1, .int x1), (2, .int x2), (3, .int x3)] [.int y8, .int (-9 : Int32), .int x3, .int x1, .int (0 : Int32), .ref (ad 426)] (fl ad m7)
      refine J_callV hX km_X12_finds kl_RX12_314 dX12_findSides_36 ka_426 (by decide) [.int (0 : Int32), .int x1, .int x3, .int (-9 : Int32), .int y8] ⟨Nat.le_of_ble_eq_true rfl, Nat.le_of_ble_eq_true rfl⟩ rfl rfl (Nat.le_of_ble_eq_true rfl) (c_X12_finds (0 : Int32) x1 x3 (-9 : Int32) y8 m7 _ h) (fun v w2 hk => ?_)
      obtain ⟨m9, rfl, rfl, h⟩ := hk
      show J X (0, 0) 39 [(4, .int y3), (0, .ref (ad 426)), (1, .int x1), (2, .int x2), (3, .int x3)] [] (fl ad m9)
      refine J_aload_n hX dX12_findSides_39 rfl 1 rfl ?_
      refine J_iconst (v := (4 : Int32)) hX dX12_findSides_40 (by decide) ?_
      refine J_iload_n hX dX12_findSides_41 rfl 2 rfl ?_
      refine J_iload_n hX dX12_findSides_42 rfl 4 rfl ?_
      refine J_bipush (v := (-9 : Int32)) hX dX12_findSides_43 (by decide) ?_
      refine J_iload hX dX12_findSides_45 0 rfl ?_
      refine J_bipush (v := (-9 : Int32)) hX dX12_findSides_47 (by decide) ?_
      refine J_icmp_eq (tgt := 72) hX dX12_findSides_49 (by decide) (fun c10 => ?_) (fun c10 => ?_)
      · replace h := Eq.mp (if_pos c10) h
        exact J_sub [1, 2, 3, 4] rfl (t_X12_findSides_j72 hX hR x1 x2 x3 (4 : Int32) x1 x3 (-9 : Int32) hrec m9 h)
      · replace h := Eq.mp (if_neg c10) h
        refine J_aload_n hX dX12_findSides_52 rfl 1 rfl ?_
        refine J_iload_n hX dX12_findSides_53 rfl 2 rfl ?_
        refine J_iload_n hX dX12_findSides_54 rfl 4 rfl ?_
        refine J_callV hX km_X12_isFolded kl_RX12_320 dX12_findSides_55 ka_426 (by decide) [.int x1, .int x3] ⟨Nat.le_of_ble_eq_true rfl, Nat.le_of_ble_eq_true rfl⟩ rfl rfl (Nat.le_of_ble_eq_true rfl) (c_X12_isFolded x1 x3 m9 _ h) (fun v w2 hk => ?_)
        obtain ⟨y13, m12, rfl, rfl, h⟩ := hk
        show J X (0, 0) 58 [(4, .int y3), (0, .ref (ad 426)), (1, .int x1), (2, .int x2), (3, .int x3)] [.int y13, .int (-9 : Int32), .int x3, .int x1, .int (4 : Int32), .ref (ad 426)] (fl ad m12)
        obtain ⟨g16, h⟩ := h
        have hj19 : ∀ y17 : Int32, y17 = (if y13 = (0 : Int32) then ((v_X12_limitOf (1 : Int32) m12) - y3) else (0 : Int32)) → J X (0, 0) 73 [(0, .ref (ad 426)), (1, .int x1), (2, .int x2), (3, .int x3)] [.int y17, .int (-9 : Int32), .int x3, .int x1, .int (4 : Int32), .ref (ad 426)] (fl ad m12) := by
          intro y17 e_y17
          replace h := h y17 e_y17
          refine J_callV hX km_X12_finds kl_RX12_314 dX12_findSides_73 ka_426 (by decide) [.int (4 : Int32), .int x1, .int x3, .int (-9 : Int32), .int y17] ⟨Nat.le_of_ble_eq_true rfl, Nat.le_of_ble_eq_true rfl⟩ rfl rfl (Nat.le_of_ble_eq_true rfl) (c_X12_finds (4 : Int32) x1 x3 (-9 : Int32) y17 m12 _ h) (fun v w2 hk => ?_)
          obtain ⟨m18, rfl, rfl, h⟩ := hk
          show J X (0, 0) 76 [(0, .ref (ad 426)), (1, .int x1), (2, .int x2), (3, .int x3)] [] (fl ad m18)
          exact J_sub [0, 1, 2, 3] rfl (t_X12_findSides_j76 hX hR x1 x2 x3 hrec m18 h)
        have g20 := g16
        refine J_if_ne (tgt := 72) hX dX12_findSides_58 (by decide) (fun c14 => ?_) (fun c14 => ?_)
        · refine J_iconst (v := (0 : Int32)) hX dX12_findSides_72 (by decide) ?_
          exact J_sub [1, 2, 3, 4] rfl (hj19 _ (if_neg c14).symm)
        · have g21 := g20 c14
          have b15 := g21
          refine J_aload_n hX dX12_findSides_61 rfl 1 rfl ?_
          refine J_iconst (v := (1 : Int32)) hX dX12_findSides_62 (by decide) ?_
          refine J_callV hX km_X12_limitOf kl_RX12_293 dX12_findSides_63 ka_426 (by decide) [.int (1 : Int32)] ⟨Nat.le_of_ble_eq_true rfl, Nat.le_of_ble_eq_true rfl⟩ rfl rfl (Nat.le_of_ble_eq_true rfl) (c_X12_limitOf (1 : Int32) m12 b15) (fun v w2 hk => ?_)
          obtain ⟨rfl, rfl⟩ := hk
          show J X (0, 0) 66 [(4, .int y3), (0, .ref (ad 426)), (1, .int x1), (2, .int x2), (3, .int x3)] [.int (v_X12_limitOf (1 : Int32) m12), .int (-9 : Int32), .int x3, .int x1, .int (4 : Int32), .ref (ad 426)] (fl ad m12)
          refine J_iload hX dX12_findSides_66 0 rfl ?_
          refine J_isub hX dX12_findSides_68 ?_
          refine J_goto (tgt := 73) hX dX12_findSides_69 (by decide) ?_
          exact J_sub [1, 2, 3, 4] rfl (hj19 _ (if_pos c14).symm)
set_option maxRecDepth 100000 in
theorem t_X12_findSides_l2 {X : XT} {ad : Nat → Nat} {K : Mm → Prop} (hX : Cx X cX12_findSides 5 RX12 (rmN 7 166)) (hR : Rx X none (kV ad K) (0, 0)) (x1 : Int32) (x2 : Int32) : ∀ (n : Nat) (x3 : Int32) (m : Mm), wp_X12_findSides_l2 K x1 x2 n x3 m → J X (0, 0) 2 [(0, .ref (ad 426)), (1, .int x1), (2, .int x2), (3, .int x3)] [] (fl ad m) := by
  intro n
  induction n with
  | zero => intro x3 m h; exact h.elim
  | succ n ih => intro x3 m h; exact tb_X12_findSides_l2 hX hR x1 x2 ih x3 m h
set_option maxRecDepth 100000 in
theorem c_X12_findSides {G : GT} {ad : Nat → Nat} (x1 : Int32) (x2 : Int32) (m : Mm) (K : Mm → Prop) (h : wp_X12_findSides x1 x2 m K) : Cn G yX12_findSides cX12_findSides 5 none (rmN 7 166) [.ref (ad 426), .int x1, .int x2] (0, 0) (fl ad m) (kV ad K) := by
  unfold wp_X12_findSides at h
  refine Cn.of pn_RX12 (Nat.le_of_ble_eq_true rfl) (fun X hG hX hR => ?_)
  subst hG
  have hX : Cx X cX12_findSides 5 RX12 (rmN 7 166) := hX
  show J X (0, 0) 0 [(0, .ref (ad 426)), (1, .int x1), (2, .int x2)] [] (fl ad m)
  refine J_iconst (v := (0 : Int32)) hX dX12_findSides_0 (by decide) ?_
  refine J_istore_n (lv2 := [(3, .int (0 : Int32)), (0, .ref (ad 426)), (1, .int x1), (2, .int x2)]) hX dX12_findSides_1 rfl (Nat.le_of_ble_eq_true rfl) rfl ?_
  refine J_sub [1, 2, 3, 0] rfl (t_X12_findSides_l2 hX hR x1 x2 FU (0 : Int32) m h)
set_option maxRecDepth 100000 in
theorem c_X12_findInk {G : GT} {ad : Nat → Nat} (x1 : Int32) (m : Mm) (K : Mm → Prop) (h : wp_X12_findInk x1 m K) : Cn G yX12_findInk cX12_findInk 6 none (rmN 4 87) [.ref (ad 426), .int x1] (0, 0) (fl ad m) (kV ad K) := by
  unfold wp_X12_findInk at h
  refine Cn.of pn_RX12 (Nat.le_of_ble_eq_true rfl) (fun X hG hX hR => ?_)
  subst hG
  have hX : Cx X cX12_findInk 6 RX12 (rmN 4 87) := hX
  show J X (0, 0) 0 [(0, .ref (ad 426)), (1, .int x1)] [] (fl ad m)
  refine J_aload_n hX dX12_findInk_0 rfl 0 rfl ?_
  refine J_iload_n hX dX12_findInk_1 rfl 1 rfl ?_
  obtain ⟨b1, h⟩ := h
  refine J_callV hX km_X12_isFlap kl_RX12_302 dX12_findInk_2 ka_426 (by decide) [.int x1] ⟨Nat.le_of_ble_eq_true rfl, Nat.le_of_ble_eq_true rfl⟩ rfl rfl (Nat.le_of_ble_eq_true rfl) (c_X12_isFlap x1 m b1) (fun v w2 hk => ?_)
  obtain ⟨rfl, rfl⟩ := hk
  show J X (0, 0) 5 [(0, .ref (ad 426)), (1, .int x1)] [.int (v_X12_isFlap x1 m)] (fl ad m)
  refine J_if_eq (tgt := 16) hX dX12_findInk_5 (by decide) (fun c2 => ?_) (fun c2 => ?_)
  · replace h := Eq.mp (if_pos c2) h
    exact J_vret hX hR dX12_findInk_16 ⟨_, rfl, rfl, h⟩
  · replace h := Eq.mp (if_neg c2) h
    refine J_aload_n hX dX12_findInk_8 rfl 0 rfl ?_
    refine J_iload_n hX dX12_findInk_9 rfl 1 rfl ?_
    obtain ⟨b3, h⟩ := h
    refine J_callV hX km_X12_shows kl_RX12_263 dX12_findInk_10 ka_426 (by decide) [.int x1] ⟨Nat.le_of_ble_eq_true rfl, Nat.le_of_ble_eq_true rfl⟩ rfl rfl (Nat.le_of_ble_eq_true rfl) (c_X12_shows x1 m b3) (fun v w2 hk => ?_)
    obtain ⟨rfl, rfl⟩ := hk
    show J X (0, 0) 13 [(0, .ref (ad 426)), (1, .int x1)] [.int (v_X12_shows x1 m)] (fl ad m)
    refine J_if_ne (tgt := 17) hX dX12_findInk_13 (by decide) (fun c4 => ?_) (fun c4 => ?_)
    · replace h := Eq.mp (if_neg c4) h
      refine J_aload_n hX dX12_findInk_17 rfl 0 rfl ?_
      refine J_iload_n hX dX12_findInk_18 rfl 1 rfl ?_
      refine J_iconst (v := (1 : Int32)) hX dX12_findInk_19 (by decide) ?_
      obtain ⟨b5, h⟩ := h
      refine J_callV hX km_X12_of kl_RX12_91 dX12_findInk_20 ka_426 (by decide) [.int x1, .int (1 : Int32)] ⟨Nat.le_of_ble_eq_true rfl, Nat.le_of_ble_eq_true rfl⟩ rfl rfl (Nat.le_of_ble_eq_true rfl) (c_X12_of x1 (1 : Int32) m b5) (fun v w2 hk => ?_)
      obtain ⟨rfl, rfl⟩ := hk
      show J X (0, 0) 23 [(0, .ref (ad 426)), (1, .int x1)] [.int (v_X12_of x1 (1 : Int32) m)] (fl ad m)
      refine J_iconst (v := (2 : Int32)) hX dX12_findInk_23 (by decide) ?_
      refine J_iadd hX dX12_findInk_24 ?_
      refine J_iconst (v := (4 : Int32)) hX dX12_findInk_25 (by decide) ?_
      refine J_irem hX dX12_findInk_26 (by decide) ?_
      refine J_nmI (fun y6 e_y6 => ?_)
      replace h := h y6 e_y6
      refine J_istore_n (lv2 := [(2, .int y6), (0, .ref (ad 426)), (1, .int x1)]) hX dX12_findInk_27 rfl (Nat.le_of_ble_eq_true rfl) rfl ?_
      refine J_aload_n hX dX12_findInk_28 rfl 1 rfl ?_
      refine J_iload_n hX dX12_findInk_29 rfl 2 rfl ?_
      refine J_bipush (v := (9 : Int32)) hX dX12_findInk_30 (by decide) ?_
      obtain ⟨b7, h⟩ := h
      refine J_callV hX km_X12_of kl_RX12_91 dX12_findInk_32 ka_426 (by decide) [.int x1, .int (9 : Int32)] ⟨Nat.le_of_ble_eq_true rfl, Nat.le_of_ble_eq_true rfl⟩ rfl rfl (Nat.le_of_ble_eq_true rfl) (c_X12_of x1 (9 : Int32) m b7) (fun v w2 hk => ?_)
      obtain ⟨rfl, rfl⟩ := hk
      show J X (0, 0) 35 [(2, .int y6), (0, .ref (ad 426)), (1, .int x1)] [.int (v_X12_of x1 (9 : Int32) m)] (fl ad m)
      refine J_nmI (fun y8 e_y8 => ?_)
      replace h := h y8 e_y8
      refine J_istore_n (lv2 := [(3, .int y8), (2, .int y6), (0, .ref (ad 426)), (1, .int x1)]) hX dX12_findInk_35 rfl (Nat.le_of_ble_eq_true rfl) rfl ?_
      refine J_aload_n hX dX12_findInk_36 rfl 2 rfl ?_
      refine J_iload_n hX dX12_findInk_37 rfl 3 rfl ?_
      refine J_bipush (v := (10 : Int32)) hX dX12_findInk_38 (by decide) ?_
      obtain ⟨b9, h⟩ := h
      refine J_callV hX km_X12_of kl_RX12_91 dX12_findInk_40 ka_426 (by decide) [.int x1, .int (10 : Int32)] ⟨Nat.le_of_ble_eq_true rfl, Nat.le_of_ble_eq_true rfl⟩ rfl rfl (Nat.le_of_ble_eq_true rfl) (c_X12_of x1 (10 : Int32) m b9) (fun v w2 hk => ?_)
      obtain ⟨rfl, rfl⟩ := hk
      show J X (0, 0) 43 [(3, .int y8), (2, .int y6), (0, .ref (ad 426)), (1, .int x1)] [.int (v_X12_of x1 (10 : Int32) m)] (fl ad m)
      refine J_nmI (fun y10 e_y10 => ?_)
      replace h := h y10 e_y10
      refine J_istore (lv2 := [(4, .int y10), (3, .int y8), (2, .int y6), (0, .ref (ad 426)), (1, .int x1)]) hX dX12_findInk_43 (Nat.le_of_ble_eq_true rfl) rfl ?_
      refine J_iload_n hX dX12_findInk_45 rfl 2 rfl ?_
      obtain ⟨g20, h⟩ := h
      have hj24 : ∀ y21 : Int32, y21 = (if y6 = (0 : Int32) then (v_X12_least (m.1 435 x1.toNatClampNeg) (y10 + (v_X12_turnedSize x1 (1 : Int32) m))) else (if y6 = (2 : Int32) then ((m.1 435 x1.toNatClampNeg) - (v_X12_most (0 : Int32) y10)) else (if y6 = (3 : Int32) then (v_X12_least (m.1 434 x1.toNatClampNeg) (y8 + (v_X12_turnedSize x1 (0 : Int32) m))) else ((m.1 434 x1.toNatClampNeg) - (v_X12_most (0 : Int32) y8))))) → J X (0, 0) 128 [(0, .ref (ad 426)), (1, .int x1)] [.int y21] (fl ad m) := by
        intro y21 e_y21
        replace h := h y21 e_y21
        refine J_istore (lv2 := [(5, .int y21), (0, .ref (ad 426)), (1, .int x1)]) hX dX12_findInk_128 (Nat.le_of_ble_eq_true rfl) rfl ?_
        refine J_aload_n hX dX12_findInk_130 rfl 1 rfl ?_
        refine J_bipush (v := (6 : Int32)) hX dX12_findInk_131 (by decide) ?_
        refine J_iload_n hX dX12_findInk_133 rfl 2 rfl ?_
        refine J_bipush (v := (-9 : Int32)) hX dX12_findInk_134 (by decide) ?_
        refine J_bipush (v := (-9 : Int32)) hX dX12_findInk_136 (by decide) ?_
        refine J_iload hX dX12_findInk_138 0 rfl ?_
        refine J_aload_n hX dX12_findInk_140 rfl 1 rfl ?_
        refine J_iconst (v := (2 : Int32)) hX dX12_findInk_141 (by decide) ?_
        obtain ⟨b22, h⟩ := h
        refine J_callV hX km_X12_limitOf kl_RX12_293 dX12_findInk_142 ka_426 (by decide) [.int (2 : Int32)] ⟨Nat.le_of_ble_eq_true rfl, Nat.le_of_ble_eq_true rfl⟩ rfl rfl (Nat.le_of_ble_eq_true rfl) (c_X12_limitOf (2 : Int32) m b22) (fun v w2 hk => ?_)
        obtain ⟨rfl, rfl⟩ := hk
        show J X (0, 0) 145 [(5, .int y21), (0, .ref (ad 426)), (1, .int x1)] [.int (v_X12_limitOf (2 : Int32) m), .int y21, .int (-9 : Int32), .int (-9 : Int32), .int x1, .int (6 : Int32), .ref (ad 426)] (fl ad m)
        refine J_isub hX dX12_findInk_145 ?_
        refine J_callV hX km_X12_finds kl_RX12_314 dX12_findInk_146 ka_426 (by decide) [.int (6 : Int32), .int x1, .int (-9 : Int32), .int (-9 : Int32), .int (y21 - (v_X12_limitOf (2 : Int32) m))] ⟨Nat.le_of_ble_eq_true rfl, Nat.le_of_ble_eq_true rfl⟩ rfl rfl (Nat.le_of_ble_eq_true rfl) (c_X12_finds (6 : Int32) x1 (-9 : Int32) (-9 : Int32) (y21 - (v_X12_limitOf (2 : Int32) m)) m _ h) (fun v w2 hk => ?_)
        obtain ⟨m23, rfl, rfl, h⟩ := hk
        show J X (0, 0) 149 [(5, .int y21), (0, .ref (ad 426)), (1, .int x1)] [] (fl ad m23)
        exact J_vret hX hR dX12_findInk_149 ⟨_, rfl, rfl, h⟩
      obtain ⟨g25, g26⟩ := g20
      refine J_if_ne (tgt := 70) hX dX12_findInk_46 (by decide) (fun c11 => ?_) (fun c11 => ?_)
      · have g27 := g25 c11
        obtain ⟨g28, g29⟩ := g27
        refine J_iload_n hX dX12_findInk_70 rfl 2 rfl ?_
        refine J_iconst (v := (2 : Int32)) hX dX12_findInk_71 (by decide) ?_
        refine J_icmp_ne (tgt := 91) hX dX12_findInk_72 (by decide) (fun c12 => ?_) (fun c12 => ?_)
        · have g30 := g28 c12
          obtain ⟨g31, g32⟩ := g30
          refine J_iload_n hX dX12_findInk_91 rfl 2 rfl ?_
          refine J_iconst (v := (3 : Int32)) hX dX12_findInk_92 (by decide) ?_
          refine J_icmp_ne (tgt := 116) hX dX12_findInk_93 (by decide) (fun c13 => ?_) (fun c13 => ?_)
          · have g33 := g31 c13
            have b14 := g33
            refine J_aload_n hX dX12_findInk_116 rfl 3 rfl ?_
            refine J_getR hX kf_RX12_32 dX12_findInk_117 ka_426 (by decide) rfl rh_426_9 ?_
            refine J_iload_n hX dX12_findInk_120 rfl 4 rfl ?_
            refine J_iald (j := x1.toNatClampNeg) hX dX12_findInk_121 ka_434 le_434 b14 rfl ?_
            refine J_iconst (v := (0 : Int32)) hX dX12_findInk_122 (by decide) ?_
            refine J_iload_n hX dX12_findInk_123 rfl 1 rfl ?_
            refine J_callS hX km_X12_most kl_RX12_113 dX12_findInk_124 [.int (0 : Int32), .int y8] ⟨Nat.le_of_ble_eq_true rfl, Nat.le_of_ble_eq_true rfl⟩ rfl rfl (Nat.le_of_ble_eq_true rfl) (c_X12_most (0 : Int32) y8 m) (fun v w2 hk => ?_)
            obtain ⟨rfl, rfl⟩ := hk
            show J X (0, 0) 127 [(4, .int y10), (3, .int y8), (2, .int y6), (0, .ref (ad 426)), (1, .int x1)] [.int (v_X12_most (0 : Int32) y8), .int (m.1 434 x1.toNatClampNeg)] (fl ad m)
            refine J_isub hX dX12_findInk_127 ?_
            exact J_sub [3, 4] rfl (hj24 _ ((if_neg c11).trans ((if_neg c12).trans (if_neg c13))).symm)
          · have g34 := g32 c13
            obtain ⟨b15, b16⟩ := g34
            refine J_aload_n hX dX12_findInk_96 rfl 3 rfl ?_
            refine J_getR hX kf_RX12_32 dX12_findInk_97 ka_426 (by decide) rfl rh_426_9 ?_
            refine J_iload_n hX dX12_findInk_100 rfl 4 rfl ?_
            refine J_iald (j := x1.toNatClampNeg) hX dX12_findInk_101 ka_434 le_434 b15 rfl ?_
            refine J_iload_n hX dX12_findInk_102 rfl 1 rfl ?_
            refine J_aload_n hX dX12_findInk_103 rfl 3 rfl ?_
            refine J_iload_n hX dX12_findInk_104 rfl 4 rfl ?_
            refine J_iconst (v := (0 : Int32)) hX dX12_findInk_105 (by decide) ?_
            refine J_callV hX km_X12_turnedSize kl_RX12_260 dX12_findInk_106 ka_426 (by decide) [.int x1, .int (0 : Int32)] ⟨Nat.le_of_ble_eq_true rfl, Nat.le_of_ble_eq_true rfl⟩ rfl rfl (Nat.le_of_ble_eq_true rfl) (c_X12_turnedSize x1 (0 : Int32) m b16) (fun v w2 hk => ?_)
            obtain ⟨rfl, rfl⟩ := hk
            show J X (0, 0) 109 [(4, .int y10), (3, .int y8), (2, .int y6), (0, .ref (ad 426)), (1, .int x1)] [.int (v_X12_turnedSize x1 (0 : Int32) m), .int y8, .int (m.1 434 x1.toNatClampNeg)] (fl ad m)
            refine J_iadd hX dX12_findInk_109 ?_
            refine J_callS hX km_X12_least kl_RX12_110 dX12_findInk_110 [.int (m.1 434 x1.toNatClampNeg), .int (y8 + (v_X12_turnedSize x1 (0 : Int32) m))] ⟨Nat.le_of_ble_eq_true rfl, Nat.le_of_ble_eq_true rfl⟩ rfl rfl (Nat.le_of_ble_eq_true rfl) (c_X12_least (m.1 434 x1.toNatClampNeg) (y8 + (v_X12_turnedSize x1 (0 : Int32) m)) m) (fun v w2 hk => ?_)
            obtain ⟨rfl, rfl⟩ := hk
            show J X (0, 0) 113 [(4, .int y10), (3, .int y8), (2, .int y6), (0, .ref (ad 426)), (1, .int x1)] [.int (v_X12_least (m.1 434 x1.toNatClampNeg) (y8 + (v_X12_turnedSize x1 (0 : Int32) m)))] (fl ad m)
            refine J_goto (tgt := 128) hX dX12_findInk_113 (by decide) ?_
            exact J_sub [3, 4] rfl (hj24 _ ((if_neg c11).trans ((if_neg c12).trans (if_pos c13))).symm)
        · have g35 := g29 c12
          have b17 := g35
          refine J_aload_n hX dX12_findInk_75 rfl 3 rfl ?_
          refine J_getR hX kf_RX12_35 dX12_findInk_76 ka_426 (by decide) rfl rh_426_10 ?_
          refine J_iload_n hX dX12_findInk_79 rfl 4 rfl ?_
          refine J_iald (j := x1.toNatClampNeg) hX dX12_findInk_80 ka_435 le_435 b17 rfl ?_
          refine J_iconst (v := (0 : Int32)) hX dX12_findInk_81 (by decide) ?_
          refine J_iload hX dX12_findInk_82 0 rfl ?_
          refine J_callS hX km_X12_most kl_RX12_113 dX12_findInk_84 [.int (0 : Int32), .int y10] ⟨Nat.le_of_ble_eq_true rfl, Nat.le_of_ble_eq_true rfl⟩ rfl rfl (Nat.le_of_ble_eq_true rfl) (c_X12_most (0 : Int32) y10 m) (fun v w2 hk => ?_)
          obtain ⟨rfl, rfl⟩ := hk
          show J X (0, 0) 87 [(4, .int y10), (3, .int y8), (2, .int y6), (0, .ref (ad 426)), (1, .int x1)] [.int (v_X12_most (0 : Int32) y10), .int (m.1 435 x1.toNatClampNeg)] (fl ad m)
          refine J_isub hX dX12_findInk_87 ?_
          refine J_goto (tgt := 128) hX dX12_findInk_88 (by decide) ?_
          exact J_sub [3, 4] rfl (hj24 _ ((if_neg c11).trans (if_pos c12)).symm)
      · have g36 := g26 c11
        obtain ⟨b18, b19⟩ := g36
        refine J_aload_n hX dX12_findInk_49 rfl 3 rfl ?_
        refine J_getR hX kf_RX12_35 dX12_findInk_50 ka_426 (by decide) rfl rh_426_10 ?_
        refine J_iload_n hX dX12_findInk_53 rfl 4 rfl ?_
        refine J_iald (j := x1.toNatClampNeg) hX dX12_findInk_54 ka_435 le_435 b18 rfl ?_
        refine J_iload hX dX12_findInk_55 0 rfl ?_
        refine J_aload_n hX dX12_findInk_57 rfl 3 rfl ?_
        refine J_iload_n hX dX12_findInk_58 rfl 4 rfl ?_
        refine J_iconst (v := (1 : Int32)) hX dX12_findInk_59 (by decide) ?_
        refine J_callV hX km_X12_turnedSize kl_RX12_260 dX12_findInk_60 ka_426 (by decide) [.int x1, .int (1 : Int32)] ⟨Nat.le_of_ble_eq_true rfl, Nat.le_of_ble_eq_true rfl⟩ rfl rfl (Nat.le_of_ble_eq_true rfl) (c_X12_turnedSize x1 (1 : Int32) m b19) (fun v w2 hk => ?_)
        obtain ⟨rfl, rfl⟩ := hk
        show J X (0, 0) 63 [(4, .int y10), (3, .int y8), (2, .int y6), (0, .ref (ad 426)), (1, .int x1)] [.int (v_X12_turnedSize x1 (1 : Int32) m), .int y10, .int (m.1 435 x1.toNatClampNeg)] (fl ad m)
        refine J_iadd hX dX12_findInk_63 ?_
        refine J_callS hX km_X12_least kl_RX12_110 dX12_findInk_64 [.int (m.1 435 x1.toNatClampNeg), .int (y10 + (v_X12_turnedSize x1 (1 : Int32) m))] ⟨Nat.le_of_ble_eq_true rfl, Nat.le_of_ble_eq_true rfl⟩ rfl rfl (Nat.le_of_ble_eq_true rfl) (c_X12_least (m.1 435 x1.toNatClampNeg) (y10 + (v_X12_turnedSize x1 (1 : Int32) m)) m) (fun v w2 hk => ?_)
        obtain ⟨rfl, rfl⟩ := hk
        show J X (0, 0) 67 [(4, .int y10), (3, .int y8), (2, .int y6), (0, .ref (ad 426)), (1, .int x1)] [.int (v_X12_least (m.1 435 x1.toNatClampNeg) (y10 + (v_X12_turnedSize x1 (1 : Int32) m)))] (fl ad m)
        refine J_goto (tgt := 128) hX dX12_findInk_67 (by decide) ?_
        exact J_sub [3, 4] rfl (hj24 _ (if_pos c11).symm)
    · replace h := Eq.mp (if_pos c4) h
      exact J_vret hX hR dX12_findInk_16 ⟨_, rfl, rfl, h⟩
set_option maxRecDepth 100000 in
theorem c_X12_shared {G : GT} {ad : Nat → Nat} (x1 : Int32) (x2 : Int32) (x3 : Int32) (m : Mm) (h : s_X12_shared x1 x2 x3) : Cn G yX12_shared cX12_shared 4 (some .int) (rmN 2 44) [.ref (ad 426), .int x1, .int x2, .int x3] (0, 0) (fl ad m) (fun v w => v = some (.int (v_X12_shared x1 x2 x3 m)) ∧ w = fl ad m) := by
  unfold s_X12_shared at h
  refine Cn.of pn_RX12 (Nat.le_of_ble_eq_true rfl) (fun X hG hX hR => ?_)
  subst hG
  have hX : Cx X cX12_shared 4 RX12 (rmN 2 44) := hX
  show J X (0, 0) 0 [(0, .ref (ad 426)), (1, .int x1), (2, .int x2), (3, .int x3)] [] (fl ad m)
  obtain ⟨b1, b2⟩ := h
  refine J_aload_n hX dX12_shared_0 rfl 0 rfl ?_
  refine J_getR hX kf_RX12_59 dX12_shared_1 ka_426 (by decide) rfl rh_426_21 ?_
  refine J_iconst (v := (3 : Int32)) hX dX12_shared_4 (by decide) ?_
  refine J_iload_n hX dX12_shared_5 rfl 1 rfl ?_
  refine J_imul hX dX12_shared_6 ?_
  refine J_iload_n hX dX12_shared_7 rfl 3 rfl ?_
  refine J_iadd hX dX12_shared_8 ?_
  refine J_iald (j := (((3 : Int32) * x1) + x3).toNatClampNeg) hX dX12_shared_9 ka_443 le_443 b1 rfl ?_
  refine J_aload_n hX dX12_shared_10 rfl 0 rfl ?_
  refine J_getR hX kf_RX12_62 dX12_shared_11 ka_426 (by decide) rfl rh_426_22 ?_
  refine J_iconst (v := (3 : Int32)) hX dX12_shared_14 (by decide) ?_
  refine J_iload_n hX dX12_shared_15 rfl 1 rfl ?_
  refine J_imul hX dX12_shared_16 ?_
  refine J_iload_n hX dX12_shared_17 rfl 3 rfl ?_
  refine J_iadd hX dX12_shared_18 ?_
  refine J_iald (j := (((3 : Int32) * x1) + x3).toNatClampNeg) hX dX12_shared_19 ka_444 le_444 b1 rfl ?_
  refine J_aload_n hX dX12_shared_20 rfl 0 rfl ?_
  refine J_getR hX kf_RX12_59 dX12_shared_21 ka_426 (by decide) rfl rh_426_21 ?_
  refine J_iconst (v := (3 : Int32)) hX dX12_shared_24 (by decide) ?_
  refine J_iload_n hX dX12_shared_25 rfl 2 rfl ?_
  refine J_imul hX dX12_shared_26 ?_
  refine J_iload_n hX dX12_shared_27 rfl 3 rfl ?_
  refine J_iadd hX dX12_shared_28 ?_
  refine J_iald (j := (((3 : Int32) * x2) + x3).toNatClampNeg) hX dX12_shared_29 ka_443 le_443 b2 rfl ?_
  refine J_aload_n hX dX12_shared_30 rfl 0 rfl ?_
  refine J_getR hX kf_RX12_62 dX12_shared_31 ka_426 (by decide) rfl rh_426_22 ?_
  refine J_iconst (v := (3 : Int32)) hX dX12_shared_34 (by decide) ?_
  refine J_iload_n hX dX12_shared_35 rfl 2 rfl ?_
  refine J_imul hX dX12_shared_36 ?_
  refine J_iload_n hX dX12_shared_37 rfl 3 rfl ?_
  refine J_iadd hX dX12_shared_38 ?_
  refine J_iald (j := (((3 : Int32) * x2) + x3).toNatClampNeg) hX dX12_shared_39 ka_444 le_444 b2 rfl ?_
  refine J_callS hX km_X12_common kl_RX12_116 dX12_shared_40 [.int (m.1 443 (((3 : Int32) * x1) + x3).toNatClampNeg), .int (m.1 444 (((3 : Int32) * x1) + x3).toNatClampNeg), .int (m.1 443 (((3 : Int32) * x2) + x3).toNatClampNeg), .int (m.1 444 (((3 : Int32) * x2) + x3).toNatClampNeg)] ⟨Nat.le_of_ble_eq_true rfl, Nat.le_of_ble_eq_true rfl⟩ rfl rfl (Nat.le_of_ble_eq_true rfl) (c_X12_common (m.1 443 (((3 : Int32) * x1) + x3).toNatClampNeg) (m.1 444 (((3 : Int32) * x1) + x3).toNatClampNeg) (m.1 443 (((3 : Int32) * x2) + x3).toNatClampNeg) (m.1 444 (((3 : Int32) * x2) + x3).toNatClampNeg) m) (fun v w2 hk => ?_)
  obtain ⟨rfl, rfl⟩ := hk
  show J X (0, 0) 43 [(0, .ref (ad 426)), (1, .int x1), (2, .int x2), (3, .int x3)] [.int (v_X12_common (m.1 443 (((3 : Int32) * x1) + x3).toNatClampNeg) (m.1 444 (((3 : Int32) * x1) + x3).toNatClampNeg) (m.1 443 (((3 : Int32) * x2) + x3).toNatClampNeg) (m.1 444 (((3 : Int32) * x2) + x3).toNatClampNeg))] (fl ad m)
  exact J_iret hX hR dX12_shared_43 (And.intro (congrArg (fun z => some (Value.int z)) (show (v_X12_common (m.1 443 (((3 : Int32) * x1) + x3).toNatClampNeg) (m.1 444 (((3 : Int32) * x1) + x3).toNatClampNeg) (m.1 443 (((3 : Int32) * x2) + x3).toNatClampNeg) (m.1 444 (((3 : Int32) * x2) + x3).toNatClampNeg)) = v_X12_shared x1 x2 x3 m from rfl)) rfl)
set_option maxRecDepth 100000 in
theorem c_X12_doubled {G : GT} {ad : Nat → Nat} (x1 : Int32) (x2 : Int32) (x3 : Int32) (m : Mm) (h : s_X12_doubled x1 x2 x3 m) : Cn G yX12_doubled cX12_doubled 7 (some .int) (rmN 3 67) [.ref (ad 426), .int x1, .int x2, .int x3] (0, 0) (fl ad m) (fun v w => v = some (.int (v_X12_doubled x1 x2 x3 m)) ∧ w = fl ad m) := by
  unfold s_X12_doubled at h
  refine Cn.of pn_RX12 (Nat.le_of_ble_eq_true rfl) (fun X hG hX hR => ?_)
  subst hG
  have hX : Cx X cX12_doubled 7 RX12 (rmN 3 67) := hX
  show J X (0, 0) 0 [(0, .ref (ad 426)), (1, .int x1), (2, .int x2), (3, .int x3)] [] (fl ad m)
  obtain ⟨b1, b2, g11⟩ := h
  refine J_aload_n hX dX12_doubled_0 rfl 0 rfl ?_
  refine J_getR hX kf_RX12_65 dX12_doubled_1 ka_426 (by decide) rfl rh_426_23 ?_
  refine J_iload_n hX dX12_doubled_4 rfl 1 rfl ?_
  refine J_iald (j := x1.toNatClampNeg) hX dX12_doubled_5 ka_445 le_445 b1 rfl ?_
  refine J_istore (lv2 := [(4, .int (m.1 445 x1.toNatClampNeg)), (0, .ref (ad 426)), (1, .int x1), (2, .int x2), (3, .int x3)]) hX dX12_doubled_6 (Nat.le_of_ble_eq_true rfl) rfl ?_
  refine J_iload hX dX12_doubled_8 0 rfl ?_
  refine J_aload_n hX dX12_doubled_10 rfl 1 rfl ?_
  refine J_getR hX kf_RX12_65 dX12_doubled_11 ka_426 (by decide) rfl rh_426_23 ?_
  refine J_iload_n hX dX12_doubled_14 rfl 3 rfl ?_
  refine J_iald (j := x2.toNatClampNeg) hX dX12_doubled_15 ka_445 le_445 b2 rfl ?_
  refine J_icmp_ne (tgt := 49) hX dX12_doubled_16 (by decide) (fun c3 => ?_) (fun c3 => ?_)
  · refine J_iconst (v := (0 : Int32)) hX dX12_doubled_49 (by decide) ?_
    exact J_iret hX hR dX12_doubled_50 (And.intro (congrArg (fun z => some (Value.int z)) (show (0 : Int32) = v_X12_doubled x1 x2 x3 m from (if_neg c3).symm)) rfl)
  · have g12 := g11 c3
    obtain ⟨b4, b5, g13⟩ := g12
    refine J_aload_n hX dX12_doubled_19 rfl 1 rfl ?_
    refine J_getR hX kf_RX12_59 dX12_doubled_20 ka_426 (by decide) rfl rh_426_21 ?_
    refine J_iconst (v := (3 : Int32)) hX dX12_doubled_23 (by decide) ?_
    refine J_iload_n hX dX12_doubled_24 rfl 2 rfl ?_
    refine J_imul hX dX12_doubled_25 ?_
    refine J_iload hX dX12_doubled_26 0 rfl ?_
    refine J_iadd hX dX12_doubled_28 ?_
    refine J_iald (j := (((3 : Int32) * x1) + (m.1 445 x1.toNatClampNeg)).toNatClampNeg) hX dX12_doubled_29 ka_443 le_443 b4 rfl ?_
    refine J_aload_n hX dX12_doubled_30 rfl 1 rfl ?_
    refine J_getR hX kf_RX12_59 dX12_doubled_31 ka_426 (by decide) rfl rh_426_21 ?_
    refine J_iconst (v := (3 : Int32)) hX dX12_doubled_34 (by decide) ?_
    refine J_iload_n hX dX12_doubled_35 rfl 3 rfl ?_
    refine J_imul hX dX12_doubled_36 ?_
    refine J_iload hX dX12_doubled_37 0 rfl ?_
    refine J_iadd hX dX12_doubled_39 ?_
    refine J_iald (j := (((3 : Int32) * x2) + (m.1 445 x1.toNatClampNeg)).toNatClampNeg) hX dX12_doubled_40 ka_443 le_443 b5 rfl ?_
    refine J_isub hX dX12_doubled_41 ?_
    refine J_callS hX km_X12_amount kl_RX12_222 dX12_doubled_42 [.int ((m.1 443 (((3 : Int32) * x1) + (m.1 445 x1.toNatClampNeg)).toNatClampNeg) - (m.1 443 (((3 : Int32) * x2) + (m.1 445 x1.toNatClampNeg)).toNatClampNeg))] ⟨Nat.le_of_ble_eq_true rfl, Nat.le_of_ble_eq_true rfl⟩ rfl rfl (Nat.le_of_ble_eq_true rfl) (c_X12_amount ((m.1 443 (((3 : Int32) * x1) + (m.1 445 x1.toNatClampNeg)).toNatClampNeg) - (m.1 443 (((3 : Int32) * x2) + (m.1 445 x1.toNatClampNeg)).toNatClampNeg)) m) (fun v w2 hk => ?_)
    obtain ⟨rfl, rfl⟩ := hk
    show J X (0, 0) 45 [(4, .int (m.1 445 x1.toNatClampNeg)), (0, .ref (ad 426)), (1, .int x1), (2, .int x2), (3, .int x3)] [.int (v_X12_amount ((m.1 443 (((3 : Int32) * x1) + (m.1 445 x1.toNatClampNeg)).toNatClampNeg) - (m.1 443 (((3 : Int32) * x2) + (m.1 445 x1.toNatClampNeg)).toNatClampNeg)))] (fl ad m)
    refine J_iload_n hX dX12_doubled_45 rfl 4 rfl ?_
    refine J_icmp_le (tgt := 51) hX dX12_doubled_46 (by decide) (fun c6 => ?_) (fun c6 => ?_)
    · have g14 := g13 c6
      obtain ⟨b7, b8⟩ := g14
      refine J_aload_n hX dX12_doubled_51 rfl 1 rfl ?_
      refine J_iload_n hX dX12_doubled_52 rfl 2 rfl ?_
      refine J_iload_n hX dX12_doubled_53 rfl 3 rfl ?_
      refine J_iload hX dX12_doubled_54 0 rfl ?_
      refine J_iconst (v := (1 : Int32)) hX dX12_doubled_56 (by decide) ?_
      refine J_iadd hX dX12_doubled_57 ?_
      refine J_iconst (v := (3 : Int32)) hX dX12_doubled_58 (by decide) ?_
      refine J_irem hX dX12_doubled_59 (by decide) ?_
      refine J_callV hX km_X12_shared kl_RX12_219 dX12_doubled_60 ka_426 (by decide) [.int x1, .int x2, .int (rm32 ((m.1 445 x1.toNatClampNeg) + (1 : Int32)) (3 : Int32))] ⟨Nat.le_of_ble_eq_true rfl, Nat.le_of_ble_eq_true rfl⟩ rfl rfl (Nat.le_of_ble_eq_true rfl) (c_X12_shared x1 x2 (rm32 ((m.1 445 x1.toNatClampNeg) + (1 : Int32)) (3 : Int32)) m b7) (fun v w2 hk => ?_)
      obtain ⟨rfl, rfl⟩ := hk
      show J X (0, 0) 63 [(4, .int (m.1 445 x1.toNatClampNeg)), (0, .ref (ad 426)), (1, .int x1), (2, .int x2), (3, .int x3)] [.int (v_X12_shared x1 x2 (rm32 ((m.1 445 x1.toNatClampNeg) + (1 : Int32)) (3 : Int32)) m)] (fl ad m)
      refine J_istore (lv2 := [(5, .int (v_X12_shared x1 x2 (rm32 ((m.1 445 x1.toNatClampNeg) + (1 : Int32)) (3 : Int32)) m)), (4, .int (m.1 445 x1.toNatClampNeg)), (0, .ref (ad 426)), (1, .int x1), (2, .int x2), (3, .int x3)]) hX dX12_doubled_63 (Nat.le_of_ble_eq_true rfl) rfl ?_
      refine J_aload_n hX dX12_doubled_65 rfl 2 rfl ?_
      refine J_iload_n hX dX12_doubled_66 rfl 3 rfl ?_
      refine J_iload_n hX dX12_doubled_67 rfl 4 rfl ?_
      refine J_iload hX dX12_doubled_68 1 rfl ?_
      refine J_iconst (v := (2 : Int32)) hX dX12_doubled_70 (by decide) ?_
      refine J_iadd hX dX12_doubled_71 ?_
      refine J_iconst (v := (3 : Int32)) hX dX12_doubled_72 (by decide) ?_
      refine J_irem hX dX12_doubled_73 (by decide) ?_
      refine J_callV hX km_X12_shared kl_RX12_219 dX12_doubled_74 ka_426 (by decide) [.int x1, .int x2, .int (rm32 ((m.1 445 x1.toNatClampNeg) + (2 : Int32)) (3 : Int32))] ⟨Nat.le_of_ble_eq_true rfl, Nat.le_of_ble_eq_true rfl⟩ rfl rfl (Nat.le_of_ble_eq_true rfl) (c_X12_shared x1 x2 (rm32 ((m.1 445 x1.toNatClampNeg) + (2 : Int32)) (3 : Int32)) m b8) (fun v w2 hk => ?_)
      obtain ⟨rfl, rfl⟩ := hk
      show J X (0, 0) 77 [(5, .int (v_X12_shared x1 x2 (rm32 ((m.1 445 x1.toNatClampNeg) + (1 : Int32)) (3 : Int32)) m)), (4, .int (m.1 445 x1.toNatClampNeg)), (0, .ref (ad 426)), (1, .int x1), (2, .int x2), (3, .int x3)] [.int (v_X12_shared x1 x2 (rm32 ((m.1 445 x1.toNatClampNeg) + (2 : Int32)) (3 : Int32)) m)] (fl ad m)
      refine J_istore (lv2 := [(6, .int (v_X12_shared x1 x2 (rm32 ((m.1 445 x1.toNatClampNeg) + (2 : Int32)) (3 : Int32)) m)), (5, .int (v_X12_shared x1 x2 (rm32 ((m.1 445 x1.toNatClampNeg) + (1 : Int32)) (3 : Int32)) m)), (4, .int (m.1 445 x1.toNatClampNeg)), (0, .ref (ad 426)), (1, .int x1), (2, .int x2), (3, .int x3)]) hX dX12_doubled_77 (Nat.le_of_ble_eq_true rfl) rfl ?_
      refine J_iload hX dX12_doubled_79 1 rfl ?_
      have hj15 : ∀ y16 : Int32, y16 = (if (v_X12_shared x1 x2 (rm32 ((m.1 445 x1.toNatClampNeg) + (1 : Int32)) (3 : Int32)) m) ≤ (0 : Int32) then (0 : Int32) else (if (v_X12_shared x1 x2 (rm32 ((m.1 445 x1.toNatClampNeg) + (2 : Int32)) (3 : Int32)) m) ≤ (0 : Int32) then (0 : Int32) else ((v_X12_shared x1 x2 (rm32 ((m.1 445 x1.toNatClampNeg) + (1 : Int32)) (3 : Int32)) m) * (v_X12_shared x1 x2 (rm32 ((m.1 445 x1.toNatClampNeg) + (2 : Int32)) (3 : Int32)) m)))) → J X (0, 0) 98 [] [.int y16] (fl ad m) := by
        intro y16 e_y16
        subst e_y16
        exact J_iret hX hR dX12_doubled_98 (And.intro (congrArg (fun z => some (Value.int z)) (show (if (v_X12_shared x1 x2 (rm32 ((m.1 445 x1.toNatClampNeg) + (1 : Int32)) (3 : Int32)) m) ≤ (0 : Int32) then (0 : Int32) else (if (v_X12_shared x1 x2 (rm32 ((m.1 445 x1.toNatClampNeg) + (2 : Int32)) (3 : Int32)) m) ≤ (0 : Int32) then (0 : Int32) else ((v_X12_shared x1 x2 (rm32 ((m.1 445 x1.toNatClampNeg) + (1 : Int32)) (3 : Int32)) m) * (v_X12_shared x1 x2 (rm32 ((m.1 445 x1.toNatClampNeg) + (2 : Int32)) (3 : Int32)) m)))) = v_X12_doubled x1 x2 x3 m from ((if_pos c3).trans (if_pos c6)).symm)) rfl)
      refine J_if_le (tgt := 97) hX dX12_doubled_81 (by decide) (fun c9 => ?_) (fun c9 => ?_)
      · refine J_iconst (v := (0 : Int32)) hX dX12_doubled_97 (by decide) ?_
        exact J_sub [] rfl (hj15 _ (if_pos c9).symm)
      · refine J_iload hX dX12_doubled_84 0 rfl ?_
        refine J_if_le (tgt := 97) hX dX12_doubled_86 (by decide) (fun c10 => ?_) (fun c10 => ?_)
        · refine J_iconst (v := (0 : Int32)) hX dX12_doubled_97 (by decide) ?_
          exact J_sub [] rfl (hj15 _ ((if_neg c9).trans (if_pos c10)).symm)
        · refine J_iload hX dX12_doubled_89 1 rfl ?_
          refine J_iload hX dX12_doubled_91 0 rfl ?_
          refine J_imul hX dX12_doubled_93 ?_
          refine J_goto (tgt := 98) hX dX12_doubled_94 (by decide) ?_
          exact J_sub [] rfl (hj15 _ ((if_neg c9).trans (if_neg c10)).symm)
    · refine J_iconst (v := (0 : Int32)) hX dX12_doubled_49 (by decide) ?_
      exact J_iret hX hR dX12_doubled_50 (And.intro (congrArg (fun z => some (Value.int z)) (show (0 : Int32) = v_X12_doubled x1 x2 x3 m from ((if_pos c3).trans (if_neg c6)).symm)) rfl)
set_option maxRecDepth 100000 in
theorem tb_X12_covered_l14 {X : XT} {ad : Nat → Nat} {K : Int32 → Mm → Prop} (hX : Cx X cX12_covered 6 RX12 (rmN 4 93)) (hR : Rx X (some .int) (kI ad K) (0, 0)) {rec : Int32 → Int32 → Mm → Prop} {k63 : Int32 → Mm → Prop} (x1 : Int32) (x2 : Int32) (x3 : Int32) (hrec : ∀ (x4 : Int32) (x5 : Int32) (m : Mm), rec x4 x5 m → J X (0, 0) 14 [(0, .ref (ad 426)), (1, .int x1), (2, .int x2), (3, .int x3), (4, .int x4), (5, .int x5)] [] (fl ad m)) (hk63 : ∀ (z4 : Int32) (m : Mm), k63 z4 m → J X (0, 0) 63 [(0, .ref (ad 426)), (1, .int x1), (2, .int x2), (3, .int x3), (4, .int z4)] [] (fl ad m)) (x4 : Int32) (x5 : Int32) (m : Mm) (h : wb_X12_covered_l14 rec k63 K x1 x2 x3 x4 x5 m) : J X (0, 0) 14 [(0, .ref (ad 426)), (1, .int x1), (2, .int x2), (3, .int x3), (4, .int x4), (5, .int x5)] [] (fl ad m) := by
  unfold wb_X12_covered_l14 at h
  refine J_iload hX dX12_covered_14 5 rfl ?_
  refine J_iconst (v := (3 : Int32)) hX dX12_covered_16 (by decide) ?_
  refine J_icmp_ge (tgt := 63) hX dX12_covered_17 (by decide) (fun c3 => ?_) (fun c3 => ?_)
  · replace h := Eq.mp (if_pos c3) h
    exact J_sub [0, 1, 2, 3, 4] rfl (hk63 x4 m h)
  · replace h := Eq.mp (if_neg c3) h
    refine J_iload hX dX12_covered_20 4 rfl ?_
    obtain ⟨g8, h⟩ := h
    have hj10 : ∀ y9 : Int32, y9 = (if x4 = (0 : Int32) then (0 : Int32) else (if (m.1 442 (((3 : Int32) * x1) + x5).toNatClampNeg) = (m.1 442 (((3 : Int32) * x3) + x5).toNatClampNeg) then (1 : Int32) else (0 : Int32))) → J X (0, 0) 55 [(0, .ref (ad 426)), (1, .int x1), (2, .int x2), (3, .int x3), (5, .int x5)] [.int y9] (fl ad m) := by
      intro y9 e_y9
      replace h := h y9 e_y9
      refine J_istore (lv2 := [(4, .int y9), (0, .ref (ad 426)), (1, .int x1), (2, .int x2), (3, .int x3), (5, .int x5)]) hX dX12_covered_55 (Nat.le_of_ble_eq_true rfl) rfl ?_
      refine J_iinc (x := (x5 + (1 : Int32))) (lv2 := [(5, .int (x5 + (1 : Int32))), (4, .int y9), (0, .ref (ad 426)), (1, .int x1), (2, .int x2), (3, .int x3)]) hX dX12_covered_57 5 rfl rfl (Nat.le_of_ble_eq_true rfl) rfl ?_
      refine J_goto (tgt := 14) hX dX12_covered_60 (by decide) ?_
      exact J_sub [2, 3, 4, 5, 1, 0] rfl (hrec y9 (x5 + (1 : Int32)) m h)
    have g11 := g8
    refine J_if_eq (tgt := 54) hX dX12_covered_22 (by decide) (fun c4 => ?_) (fun c4 => ?_)
    · refine J_iconst (v := (0 : Int32)) hX dX12_covered_54 (by decide) ?_
      exact J_sub [0, 1, 2, 3, 5] rfl (hj10 _ (if_pos c4).symm)
    · have g12 := g11 c4
      obtain ⟨b5, b6⟩ := g12
      refine J_aload_n hX dX12_covered_25 rfl 0 rfl ?_
      refine J_getR hX kf_RX12_56 dX12_covered_26 ka_426 (by decide) rfl rh_426_20 ?_
      refine J_iconst (v := (3 : Int32)) hX dX12_covered_29 (by decide) ?_
      refine J_iload_n hX dX12_covered_30 rfl 1 rfl ?_
      refine J_imul hX dX12_covered_31 ?_
      refine J_iload hX dX12_covered_32 5 rfl ?_
      refine J_iadd hX dX12_covered_34 ?_
      refine J_iald (j := (((3 : Int32) * x1) + x5).toNatClampNeg) hX dX12_covered_35 ka_442 le_442 b5 rfl ?_
      refine J_aload_n hX dX12_covered_36 rfl 0 rfl ?_
      refine J_getR hX kf_RX12_56 dX12_covered_37 ka_426 (by decide) rfl rh_426_20 ?_
      refine J_iconst (v := (3 : Int32)) hX dX12_covered_40 (by decide) ?_
      refine J_iload_n hX dX12_covered_41 rfl 3 rfl ?_
      refine J_imul hX dX12_covered_42 ?_
      refine J_iload hX dX12_covered_43 5 rfl ?_
      refine J_iadd hX dX12_covered_45 ?_
      refine J_iald (j := (((3 : Int32) * x3) + x5).toNatClampNeg) hX dX12_covered_46 ka_442 le_442 b6 rfl ?_
      refine J_icmp_ne (tgt := 54) hX dX12_covered_47 (by decide) (fun c7 => ?_) (fun c7 => ?_)
      · refine J_iconst (v := (0 : Int32)) hX dX12_covered_54 (by decide) ?_
        exact J_sub [0, 1, 2, 3, 5] rfl (hj10 _ ((if_neg c4).trans (if_neg c7)).symm)
      · refine J_iconst (v := (1 : Int32)) hX dX12_covered_50 (by decide) ?_
        refine J_goto (tgt := 55) hX dX12_covered_51 (by decide) ?_
        exact J_sub [0, 1, 2, 3, 5] rfl (hj10 _ ((if_neg c4).trans (if_pos c7)).symm)
set_option maxRecDepth 100000 in
theorem t_X12_covered_l14 {X : XT} {ad : Nat → Nat} {K : Int32 → Mm → Prop} (hX : Cx X cX12_covered 6 RX12 (rmN 4 93)) (hR : Rx X (some .int) (kI ad K) (0, 0)) {k63 : Int32 → Mm → Prop} (x1 : Int32) (x2 : Int32) (x3 : Int32) (hk63 : ∀ (z4 : Int32) (m : Mm), k63 z4 m → J X (0, 0) 63 [(0, .ref (ad 426)), (1, .int x1), (2, .int x2), (3, .int x3), (4, .int z4)] [] (fl ad m)) : ∀ (n : Nat) (x4 : Int32) (x5 : Int32) (m : Mm), wp_X12_covered_l14 k63 K x1 x2 x3 n x4 x5 m → J X (0, 0) 14 [(0, .ref (ad 426)), (1, .int x1), (2, .int x2), (3, .int x3), (4, .int x4), (5, .int x5)] [] (fl ad m) := by
  intro n
  induction n with
  | zero => intro x4 x5 m h; exact h.elim
  | succ n ih => intro x4 x5 m h; exact tb_X12_covered_l14 hX hR x1 x2 x3 ih hk63 x4 x5 m h
set_option maxRecDepth 100000 in
theorem c_X12_covered {G : GT} {ad : Nat → Nat} (x1 : Int32) (x2 : Int32) (m : Mm) (K : Int32 → Mm → Prop) (h : wp_X12_covered x1 x2 m K) : Cn G yX12_covered cX12_covered 6 (some .int) (rmN 4 93) [.ref (ad 426), .int x1, .int x2] (0, 0) (fl ad m) (kI ad K) := by
  unfold wp_X12_covered at h
  refine Cn.of pn_RX12 (Nat.le_of_ble_eq_true rfl) (fun X hG hX hR => ?_)
  subst hG
  have hX : Cx X cX12_covered 6 RX12 (rmN 4 93) := hX
  show J X (0, 0) 0 [(0, .ref (ad 426)), (1, .int x1), (2, .int x2)] [] (fl ad m)
  refine J_aload_n hX dX12_covered_0 rfl 0 rfl ?_
  refine J_iload_n hX dX12_covered_1 rfl 1 rfl ?_
  refine J_bipush (v := (6 : Int32)) hX dX12_covered_2 (by decide) ?_
  obtain ⟨b1, h⟩ := h
  refine J_callV hX km_X12_of kl_RX12_91 dX12_covered_4 ka_426 (by decide) [.int x1, .int (6 : Int32)] ⟨Nat.le_of_ble_eq_true rfl, Nat.le_of_ble_eq_true rfl⟩ rfl rfl (Nat.le_of_ble_eq_true rfl) (c_X12_of x1 (6 : Int32) m b1) (fun v w2 hk => ?_)
  obtain ⟨rfl, rfl⟩ := hk
  show J X (0, 0) 7 [(0, .ref (ad 426)), (1, .int x1), (2, .int x2)] [.int (v_X12_of x1 (6 : Int32) m)] (fl ad m)
  refine J_nmI (fun y2 e_y2 => ?_)
  replace h := h y2 e_y2
  refine J_istore_n (lv2 := [(3, .int y2), (0, .ref (ad 426)), (1, .int x1), (2, .int x2)]) hX dX12_covered_7 rfl (Nat.le_of_ble_eq_true rfl) rfl ?_
  refine J_iconst (v := (1 : Int32)) hX dX12_covered_8 (by decide) ?_
  refine J_istore (lv2 := [(4, .int (1 : Int32)), (3, .int y2), (0, .ref (ad 426)), (1, .int x1), (2, .int x2)]) hX dX12_covered_9 (Nat.le_of_ble_eq_true rfl) rfl ?_
  refine J_iconst (v := (0 : Int32)) hX dX12_covered_11 (by decide) ?_
  refine J_istore (lv2 := [(5, .int (0 : Int32)), (4, .int (1 : Int32)), (3, .int y2), (0, .ref (ad 426)), (1, .int x1), (2, .int x2)]) hX dX12_covered_12 (Nat.le_of_ble_eq_true rfl) rfl ?_
  refine J_sub [3, 4, 5, 2, 1, 0] rfl (t_X12_covered_l14 hX hR x1 x2 y2 (fun y13 m14 h => ?_) FU (1 : Int32) (0 : Int32) m h)
  refine J_iload hX dX12_covered_63 4 rfl ?_
  obtain ⟨g19, h⟩ := h
  have hj21 : ∀ y20 : Int32, y20 = (if y13 = (0 : Int32) then (0 : Int32) else (((100 : Int32) * (v_X12_doubled x1 y2 x2 m14)) / ((m14.1 434 x1.toNatClampNeg) * (m14.1 435 x1.toNatClampNeg)))) → J X (0, 0) 96 [] [.int y20] (fl ad m14) := by
    intro y20 e_y20
    replace h := h y20 e_y20
    exact J_iret hX hR dX12_covered_96 ⟨_, _, rfl, rfl, h⟩
  have g22 := g19
  refine J_if_eq (tgt := 95) hX dX12_covered_65 (by decide) (fun c15 => ?_) (fun c15 => ?_)
  · refine J_iconst (v := (0 : Int32)) hX dX12_covered_95 (by decide) ?_
    exact J_sub [] rfl (hj21 _ (if_pos c15).symm)
  · have g23 := g22 c15
    obtain ⟨b16, b17, b18⟩ := g23
    refine J_bipush (v := (100 : Int32)) hX dX12_covered_68 (by decide) ?_
    refine J_aload_n hX dX12_covered_70 rfl 0 rfl ?_
    refine J_iload_n hX dX12_covered_71 rfl 1 rfl ?_
    refine J_iload_n hX dX12_covered_72 rfl 3 rfl ?_
    refine J_iload_n hX dX12_covered_73 rfl 2 rfl ?_
    refine J_callV hX km_X12_doubled kl_RX12_253 dX12_covered_74 ka_426 (by decide) [.int x1, .int y2, .int x2] ⟨Nat.le_of_ble_eq_true rfl, Nat.le_of_ble_eq_true rfl⟩ rfl rfl (Nat.le_of_ble_eq_true rfl) (c_X12_doubled x1 y2 x2 m14 b16) (fun v w2 hk => ?_)
    obtain ⟨rfl, rfl⟩ := hk
    show J X (0, 0) 77 [(0, .ref (ad 426)), (1, .int x1), (2, .int x2), (3, .int y2), (4, .int y13)] [.int (v_X12_doubled x1 y2 x2 m14), .int (100 : Int32)] (fl ad m14)
    refine J_imul hX dX12_covered_77 ?_
    refine J_aload_n hX dX12_covered_78 rfl 0 rfl ?_
    refine J_getR hX kf_RX12_32 dX12_covered_79 ka_426 (by decide) rfl rh_426_9 ?_
    refine J_iload_n hX dX12_covered_82 rfl 1 rfl ?_
    refine J_iald (j := x1.toNatClampNeg) hX dX12_covered_83 ka_434 le_434 b17 rfl ?_
    refine J_aload_n hX dX12_covered_84 rfl 0 rfl ?_
    refine J_getR hX kf_RX12_35 dX12_covered_85 ka_426 (by decide) rfl rh_426_10 ?_
    refine J_iload_n hX dX12_covered_88 rfl 1 rfl ?_
    refine J_iald (j := x1.toNatClampNeg) hX dX12_covered_89 ka_435 le_435 b17 rfl ?_
    refine J_imul hX dX12_covered_90 ?_
    refine J_idiv hX dX12_covered_91 b18 ?_
    refine J_goto (tgt := 96) hX dX12_covered_92 (by decide) ?_
    exact J_sub [] rfl (hj21 _ (if_neg c15).symm)
theorem bv_X12_cuts (x1 : Int32) (x2 : Int32) (x3 : Int32) (m : Mm) : bo (v_X12_cuts x1 x2 x3 m) := (bo_ite bo_0 (bo_ite bo_0 bo_1))
set_option maxRecDepth 100000 in
theorem c_X12_cuts {G : GT} {ad : Nat → Nat} (x1 : Int32) (x2 : Int32) (x3 : Int32) (m : Mm) (h : s_X12_cuts x1 x2 x3 m) : Cn G yX12_cuts cX12_cuts 6 (some .boolean) (rmN 0 0) [.ref (ad 426), .int x1, .int x2, .int x3] (0, 0) (fl ad m) (fun v w => v = some (.int (v_X12_cuts x1 x2 x3 m)) ∧ w = fl ad m) := by
  unfold s_X12_cuts at h
  refine Cn.of pn_RX12 (Nat.le_of_ble_eq_true rfl) (fun X hG hX hR => ?_)
  subst hG
  have hX : Cx X cX12_cuts 6 RX12 (rmN 0 0) := hX
  show J X (0, 0) 0 [(0, .ref (ad 426)), (1, .int x1), (2, .int x2), (3, .int x3)] [] (fl ad m)
  obtain ⟨b1, b2, b3⟩ := h
  refine J_aload_n hX dX12_cuts_0 rfl 0 rfl ?_
  refine J_getR hX kf_RX12_65 dX12_cuts_1 ka_426 (by decide) rfl rh_426_23 ?_
  refine J_iload_n hX dX12_cuts_4 rfl 1 rfl ?_
  refine J_iald (j := x1.toNatClampNeg) hX dX12_cuts_5 ka_445 le_445 b1 rfl ?_
  refine J_istore (lv2 := [(4, .int (m.1 445 x1.toNatClampNeg)), (0, .ref (ad 426)), (1, .int x1), (2, .int x2), (3, .int x3)]) hX dX12_cuts_6 (Nat.le_of_ble_eq_true rfl) rfl ?_
  refine J_aload_n hX dX12_cuts_8 rfl 1 rfl ?_
  refine J_getR hX kf_RX12_59 dX12_cuts_9 ka_426 (by decide) rfl rh_426_21 ?_
  refine J_iconst (v := (3 : Int32)) hX dX12_cuts_12 (by decide) ?_
  refine J_iload_n hX dX12_cuts_13 rfl 2 rfl ?_
  refine J_imul hX dX12_cuts_14 ?_
  refine J_iload hX dX12_cuts_15 0 rfl ?_
  refine J_iadd hX dX12_cuts_17 ?_
  refine J_iald (j := (((3 : Int32) * x1) + (m.1 445 x1.toNatClampNeg)).toNatClampNeg) hX dX12_cuts_18 ka_443 le_443 b2 rfl ?_
  refine J_istore (lv2 := [(5, .int (m.1 443 (((3 : Int32) * x1) + (m.1 445 x1.toNatClampNeg)).toNatClampNeg)), (4, .int (m.1 445 x1.toNatClampNeg)), (0, .ref (ad 426)), (1, .int x1), (2, .int x2), (3, .int x3)]) hX dX12_cuts_19 (Nat.le_of_ble_eq_true rfl) rfl ?_
  refine J_iload hX dX12_cuts_21 0 rfl ?_
  refine J_aload_n hX dX12_cuts_23 rfl 2 rfl ?_
  refine J_getR hX kf_RX12_59 dX12_cuts_24 ka_426 (by decide) rfl rh_426_21 ?_
  refine J_iconst (v := (3 : Int32)) hX dX12_cuts_27 (by decide) ?_
  refine J_iload_n hX dX12_cuts_28 rfl 4 rfl ?_
  refine J_imul hX dX12_cuts_29 ?_
  refine J_iload hX dX12_cuts_30 1 rfl ?_
  refine J_iadd hX dX12_cuts_32 ?_
  refine J_iald (j := (((3 : Int32) * x2) + (m.1 445 x1.toNatClampNeg)).toNatClampNeg) hX dX12_cuts_33 ka_443 le_443 b3 rfl ?_
  refine J_iload_n hX dX12_cuts_34 rfl 5 rfl ?_
  refine J_iadd hX dX12_cuts_35 ?_
  have hj6 : ∀ y7 : Int32, y7 = (if (m.1 443 (((3 : Int32) * x1) + (m.1 445 x1.toNatClampNeg)).toNatClampNeg) ≤ ((m.1 443 (((3 : Int32) * x2) + (m.1 445 x1.toNatClampNeg)).toNatClampNeg) + x3) then (0 : Int32) else (if ((m.1 444 (((3 : Int32) * x2) + (m.1 445 x1.toNatClampNeg)).toNatClampNeg) - x3) ≤ (m.1 443 (((3 : Int32) * x1) + (m.1 445 x1.toNatClampNeg)).toNatClampNeg) then (0 : Int32) else (1 : Int32))) → J X (0, 0) 62 [] [.int y7] (fl ad m) := by
    intro y7 e_y7
    subst e_y7
    exact J_zret hX hR dX12_cuts_62 (bo_ite bo_0 (bo_ite bo_0 bo_1)) (And.intro (congrArg (fun z => some (Value.int z)) (show (if (m.1 443 (((3 : Int32) * x1) + (m.1 445 x1.toNatClampNeg)).toNatClampNeg) ≤ ((m.1 443 (((3 : Int32) * x2) + (m.1 445 x1.toNatClampNeg)).toNatClampNeg) + x3) then (0 : Int32) else (if ((m.1 444 (((3 : Int32) * x2) + (m.1 445 x1.toNatClampNeg)).toNatClampNeg) - x3) ≤ (m.1 443 (((3 : Int32) * x1) + (m.1 445 x1.toNatClampNeg)).toNatClampNeg) then (0 : Int32) else (1 : Int32))) = v_X12_cuts x1 x2 x3 m from rfl)) rfl)
  refine J_icmp_le (tgt := 61) hX dX12_cuts_36 (by decide) (fun c4 => ?_) (fun c4 => ?_)
  · refine J_iconst (v := (0 : Int32)) hX dX12_cuts_61 (by decide) ?_
    exact J_sub [] rfl (hj6 _ (if_pos c4).symm)
  · refine J_iload hX dX12_cuts_39 0 rfl ?_
    refine J_aload_n hX dX12_cuts_41 rfl 2 rfl ?_
    refine J_getR hX kf_RX12_62 dX12_cuts_42 ka_426 (by decide) rfl rh_426_22 ?_
    refine J_iconst (v := (3 : Int32)) hX dX12_cuts_45 (by decide) ?_
    refine J_iload_n hX dX12_cuts_46 rfl 4 rfl ?_
    refine J_imul hX dX12_cuts_47 ?_
    refine J_iload hX dX12_cuts_48 1 rfl ?_
    refine J_iadd hX dX12_cuts_50 ?_
    refine J_iald (j := (((3 : Int32) * x2) + (m.1 445 x1.toNatClampNeg)).toNatClampNeg) hX dX12_cuts_51 ka_444 le_444 b3 rfl ?_
    refine J_iload_n hX dX12_cuts_52 rfl 5 rfl ?_
    refine J_isub hX dX12_cuts_53 ?_
    refine J_icmp_ge (tgt := 61) hX dX12_cuts_54 (by decide) (fun c5 => ?_) (fun c5 => ?_)
    · refine J_iconst (v := (0 : Int32)) hX dX12_cuts_61 (by decide) ?_
      exact J_sub [] rfl (hj6 _ ((if_neg c4).trans (if_pos c5)).symm)
    · refine J_iconst (v := (1 : Int32)) hX dX12_cuts_57 (by decide) ?_
      refine J_goto (tgt := 62) hX dX12_cuts_58 (by decide) ?_
      exact J_sub [] rfl (hj6 _ ((if_neg c4).trans (if_neg c5)).symm)
set_option maxRecDepth 100000 in
theorem c_X12_crossing {G : GT} {ad : Nat → Nat} (x1 : Int32) (x2 : Int32) (x3 : Int32) (m : Mm) (h : s_X12_crossing x1 x2 x3 m) : Cn G yX12_crossing cX12_crossing 4 (some .int) (rmN 3 67) [.ref (ad 426), .int x1, .int x2, .int x3] (0, 0) (fl ad m) (fun v w => v = some (.int (v_X12_crossing x1 x2 x3 m)) ∧ w = fl ad m) := by
  unfold s_X12_crossing at h
  refine Cn.of pn_RX12 (Nat.le_of_ble_eq_true rfl) (fun X hG hX hR => ?_)
  subst hG
  have hX : Cx X cX12_crossing 4 RX12 (rmN 3 67) := hX
  show J X (0, 0) 0 [(0, .ref (ad 426)), (1, .int x1), (2, .int x2), (3, .int x3)] [] (fl ad m)
  obtain ⟨b1, b2, g9⟩ := h
  refine J_aload_n hX dX12_crossing_0 rfl 0 rfl ?_
  refine J_getR hX kf_RX12_65 dX12_crossing_1 ka_426 (by decide) rfl rh_426_23 ?_
  refine J_iload_n hX dX12_crossing_4 rfl 1 rfl ?_
  refine J_iald (j := x1.toNatClampNeg) hX dX12_crossing_5 ka_445 le_445 b1 rfl ?_
  refine J_aload_n hX dX12_crossing_6 rfl 0 rfl ?_
  refine J_getR hX kf_RX12_65 dX12_crossing_7 ka_426 (by decide) rfl rh_426_23 ?_
  refine J_iload_n hX dX12_crossing_10 rfl 2 rfl ?_
  refine J_iald (j := x2.toNatClampNeg) hX dX12_crossing_11 ka_445 le_445 b2 rfl ?_
  refine J_icmp_eq (tgt := 35) hX dX12_crossing_12 (by decide) (fun c3 => ?_) (fun c3 => ?_)
  · refine J_iconst (v := (0 : Int32)) hX dX12_crossing_35 (by decide) ?_
    exact J_iret hX hR dX12_crossing_36 (And.intro (congrArg (fun z => some (Value.int z)) (show (0 : Int32) = v_X12_crossing x1 x2 x3 m from (if_pos c3).symm)) rfl)
  · have g10 := g9 c3
    obtain ⟨b4, g11⟩ := g10
    refine J_aload_n hX dX12_crossing_15 rfl 0 rfl ?_
    refine J_iload_n hX dX12_crossing_16 rfl 1 rfl ?_
    refine J_iload_n hX dX12_crossing_17 rfl 2 rfl ?_
    refine J_iload_n hX dX12_crossing_18 rfl 3 rfl ?_
    refine J_callV hX km_X12_cuts kl_RX12_216 dX12_crossing_19 ka_426 (by decide) [.int x1, .int x2, .int x3] ⟨Nat.le_of_ble_eq_true rfl, Nat.le_of_ble_eq_true rfl⟩ rfl rfl (Nat.le_of_ble_eq_true rfl) (c_X12_cuts x1 x2 x3 m b4) (fun v w2 hk => ?_)
    obtain ⟨rfl, rfl⟩ := hk
    show J X (0, 0) 22 [(0, .ref (ad 426)), (1, .int x1), (2, .int x2), (3, .int x3)] [.int (v_X12_cuts x1 x2 x3 m)] (fl ad m)
    refine J_if_eq (tgt := 35) hX dX12_crossing_22 (by decide) (fun c5 => ?_) (fun c5 => ?_)
    · refine J_iconst (v := (0 : Int32)) hX dX12_crossing_35 (by decide) ?_
      exact J_iret hX hR dX12_crossing_36 (And.intro (congrArg (fun z => some (Value.int z)) (show (0 : Int32) = v_X12_crossing x1 x2 x3 m from ((if_neg c3).trans (if_pos c5)).symm)) rfl)
    · have g12 := g11 c5
      obtain ⟨b6, g13⟩ := g12
      refine J_aload_n hX dX12_crossing_25 rfl 0 rfl ?_
      refine J_iload_n hX dX12_crossing_26 rfl 2 rfl ?_
      refine J_iload_n hX dX12_crossing_27 rfl 1 rfl ?_
      refine J_iload_n hX dX12_crossing_28 rfl 3 rfl ?_
      refine J_callV hX km_X12_cuts kl_RX12_216 dX12_crossing_29 ka_426 (by decide) [.int x2, .int x1, .int x3] ⟨Nat.le_of_ble_eq_true rfl, Nat.le_of_ble_eq_true rfl⟩ rfl rfl (Nat.le_of_ble_eq_true rfl) (c_X12_cuts x2 x1 x3 m b6) (fun v w2 hk => ?_)
      obtain ⟨rfl, rfl⟩ := hk
      show J X (0, 0) 32 [(0, .ref (ad 426)), (1, .int x1), (2, .int x2), (3, .int x3)] [.int (v_X12_cuts x2 x1 x3 m)] (fl ad m)
      refine J_if_ne (tgt := 37) hX dX12_crossing_32 (by decide) (fun c7 => ?_) (fun c7 => ?_)
      · have g14 := g13 c7
        have b8 := g14
        refine J_iconst (v := (0 : Int32)) hX dX12_crossing_37 (by decide) ?_
        refine J_aload_n hX dX12_crossing_38 rfl 0 rfl ?_
        refine J_iload_n hX dX12_crossing_39 rfl 1 rfl ?_
        refine J_iload_n hX dX12_crossing_40 rfl 2 rfl ?_
        refine J_iconst (v := (3 : Int32)) hX dX12_crossing_41 (by decide) ?_
        refine J_aload_n hX dX12_crossing_42 rfl 0 rfl ?_
        refine J_getR hX kf_RX12_65 dX12_crossing_43 ka_426 (by decide) rfl rh_426_23 ?_
        refine J_iload_n hX dX12_crossing_46 rfl 1 rfl ?_
        refine J_iald (j := x1.toNatClampNeg) hX dX12_crossing_47 ka_445 le_445 b1 rfl ?_
        refine J_isub hX dX12_crossing_48 ?_
        refine J_aload_n hX dX12_crossing_49 rfl 0 rfl ?_
        refine J_getR hX kf_RX12_65 dX12_crossing_50 ka_426 (by decide) rfl rh_426_23 ?_
        refine J_iload_n hX dX12_crossing_53 rfl 2 rfl ?_
        refine J_iald (j := x2.toNatClampNeg) hX dX12_crossing_54 ka_445 le_445 b2 rfl ?_
        refine J_isub hX dX12_crossing_55 ?_
        refine J_callV hX km_X12_shared kl_RX12_219 dX12_crossing_56 ka_426 (by decide) [.int x1, .int x2, .int (((3 : Int32) - (m.1 445 x1.toNatClampNeg)) - (m.1 445 x2.toNatClampNeg))] ⟨Nat.le_of_ble_eq_true rfl, Nat.le_of_ble_eq_true rfl⟩ rfl rfl (Nat.le_of_ble_eq_true rfl) (c_X12_shared x1 x2 (((3 : Int32) - (m.1 445 x1.toNatClampNeg)) - (m.1 445 x2.toNatClampNeg)) m b8) (fun v w2 hk => ?_)
        obtain ⟨rfl, rfl⟩ := hk
        show J X (0, 0) 59 [(0, .ref (ad 426)), (1, .int x1), (2, .int x2), (3, .int x3)] [.int (v_X12_shared x1 x2 (((3 : Int32) - (m.1 445 x1.toNatClampNeg)) - (m.1 445 x2.toNatClampNeg)) m), .int (0 : Int32)] (fl ad m)
        refine J_callS hX km_X12_most kl_RX12_113 dX12_crossing_59 [.int (0 : Int32), .int (v_X12_shared x1 x2 (((3 : Int32) - (m.1 445 x1.toNatClampNeg)) - (m.1 445 x2.toNatClampNeg)) m)] ⟨Nat.le_of_ble_eq_true rfl, Nat.le_of_ble_eq_true rfl⟩ rfl rfl (Nat.le_of_ble_eq_true rfl) (c_X12_most (0 : Int32) (v_X12_shared x1 x2 (((3 : Int32) - (m.1 445 x1.toNatClampNeg)) - (m.1 445 x2.toNatClampNeg)) m) m) (fun v w2 hk => ?_)
        obtain ⟨rfl, rfl⟩ := hk
        show J X (0, 0) 62 [(0, .ref (ad 426)), (1, .int x1), (2, .int x2), (3, .int x3)] [.int (v_X12_most (0 : Int32) (v_X12_shared x1 x2 (((3 : Int32) - (m.1 445 x1.toNatClampNeg)) - (m.1 445 x2.toNatClampNeg)) m))] (fl ad m)
        exact J_iret hX hR dX12_crossing_62 (And.intro (congrArg (fun z => some (Value.int z)) (show (v_X12_most (0 : Int32) (v_X12_shared x1 x2 (((3 : Int32) - (m.1 445 x1.toNatClampNeg)) - (m.1 445 x2.toNatClampNeg)) m)) = v_X12_crossing x1 x2 x3 m from ((if_neg c3).trans ((if_neg c5).trans (if_neg c7))).symm)) rfl)
      · refine J_iconst (v := (0 : Int32)) hX dX12_crossing_35 (by decide) ?_
        exact J_iret hX hR dX12_crossing_36 (And.intro (congrArg (fun z => some (Value.int z)) (show (0 : Int32) = v_X12_crossing x1 x2 x3 m from ((if_neg c3).trans ((if_neg c5).trans (if_pos c7))).symm)) rfl)
set_option maxRecDepth 100000 in
theorem c_X12_outward {G : GT} {ad : Nat → Nat} (x0 : Int32) (x1 : Int32) (m : Mm) : Cn G yX12_outward cX12_outward 2 (some .int) (rmN 0 0) [.int x0, .int x1] (0, 0) (fl ad m) (fun v w => v = some (.int (v_X12_outward x0 x1)) ∧ w = fl ad m) := by
  refine Cn.of pn_RX12 (Nat.le_of_ble_eq_true rfl) (fun X hG hX hR => ?_)
  subst hG
  have hX : Cx X cX12_outward 2 RX12 (rmN 0 0) := hX
  show J X (0, 0) 0 [(0, .int x0), (1, .int x1)] [] (fl ad m)
  refine J_iload_n hX dX12_outward_0 rfl 1 rfl ?_
  have hj6 : ∀ y7 : Int32, y7 = (if x1 = (0 : Int32) then (if x0 = (1 : Int32) then (1 : Int32) else (if x0 = (3 : Int32) then (-1 : Int32) else (0 : Int32))) else (if x0 = (0 : Int32) then (-1 : Int32) else (if x0 = (2 : Int32) then (1 : Int32) else (0 : Int32)))) → J X (0, 0) 44 [] [.int y7] (fl ad m) := by
    intro y7 e_y7
    subst e_y7
    exact J_iret hX hR dX12_outward_44 (And.intro (congrArg (fun z => some (Value.int z)) (show (if x1 = (0 : Int32) then (if x0 = (1 : Int32) then (1 : Int32) else (if x0 = (3 : Int32) then (-1 : Int32) else (0 : Int32))) else (if x0 = (0 : Int32) then (-1 : Int32) else (if x0 = (2 : Int32) then (1 : Int32) else (0 : Int32)))) = v_X12_outward x0 x1 from rfl)) rfl)
  refine J_if_eq (tgt := 25) hX dX12_outward_1 (by decide) (fun c1 => ?_) (fun c1 => ?_)
  · refine J_iload_n hX dX12_outward_25 rfl 0 rfl ?_
    refine J_iconst (v := (1 : Int32)) hX dX12_outward_26 (by decide) ?_
    refine J_icmp_ne (tgt := 34) hX dX12_outward_27 (by decide) (fun c2 => ?_) (fun c2 => ?_)
    · refine J_iload_n hX dX12_outward_34 rfl 0 rfl ?_
      refine J_iconst (v := (3 : Int32)) hX dX12_outward_35 (by decide) ?_
      refine J_icmp_ne (tgt := 43) hX dX12_outward_36 (by decide) (fun c3 => ?_) (fun c3 => ?_)
      · refine J_iconst (v := (0 : Int32)) hX dX12_outward_43 (by decide) ?_
        exact J_sub [] rfl (hj6 _ ((if_pos c1).trans ((if_neg c2).trans (if_neg c3))).symm)
      · refine J_iconst (v := (-1 : Int32)) hX dX12_outward_39 (by decide) ?_
        refine J_goto (tgt := 44) hX dX12_outward_40 (by decide) ?_
        exact J_sub [] rfl (hj6 _ ((if_pos c1).trans ((if_neg c2).trans (if_pos c3))).symm)
    · refine J_iconst (v := (1 : Int32)) hX dX12_outward_30 (by decide) ?_
      refine J_goto (tgt := 44) hX dX12_outward_31 (by decide) ?_
      exact J_sub [] rfl (hj6 _ ((if_pos c1).trans (if_pos c2)).symm)
  · refine J_iload_n hX dX12_outward_4 rfl 0 rfl ?_
    refine J_if_ne (tgt := 12) hX dX12_outward_5 (by decide) (fun c4 => ?_) (fun c4 => ?_)
    · refine J_iload_n hX dX12_outward_12 rfl 0 rfl ?_
      refine J_iconst (v := (2 : Int32)) hX dX12_outward_13 (by decide) ?_
      refine J_icmp_ne (tgt := 21) hX dX12_outward_14 (by decide) (fun c5 => ?_) (fun c5 => ?_)
      · refine J_iconst (v := (0 : Int32)) hX dX12_outward_21 (by decide) ?_
        refine J_goto (tgt := 44) hX dX12_outward_22 (by decide) ?_
        exact J_sub [] rfl (hj6 _ ((if_neg c1).trans ((if_neg c4).trans (if_neg c5))).symm)
      · refine J_iconst (v := (1 : Int32)) hX dX12_outward_17 (by decide) ?_
        refine J_goto (tgt := 44) hX dX12_outward_18 (by decide) ?_
        exact J_sub [] rfl (hj6 _ ((if_neg c1).trans ((if_neg c4).trans (if_pos c5))).symm)
    · refine J_iconst (v := (-1 : Int32)) hX dX12_outward_8 (by decide) ?_
      refine J_goto (tgt := 44) hX dX12_outward_9 (by decide) ?_
      exact J_sub [] rfl (hj6 _ ((if_neg c1).trans (if_pos c4)).symm)
set_option maxRecDepth 100000 in
theorem c_X12_step {G : GT} {ad : Nat → Nat} (x1 : Int32) (x2 : Int32) (x3 : Int32) (x4 : Int32) (m : Mm) (h : s_X12_step x1 x2 x3 x4 m) : Cn G yX12_step cX12_step 5 (some .int) (rmN 3 68) [.ref (ad 426), .int x1, .int x2, .int x3, .int x4] (0, 0) (fl ad m) (fun v w => v = some (.int (v_X12_step x1 x2 x3 x4 m)) ∧ w = fl ad m) := by
  unfold s_X12_step at h
  refine Cn.of pn_RX12 (Nat.le_of_ble_eq_true rfl) (fun X hG hX hR => ?_)
  subst hG
  have hX : Cx X cX12_step 5 RX12 (rmN 3 68) := hX
  show J X (0, 0) 0 [(0, .ref (ad 426)), (1, .int x1), (2, .int x2), (3, .int x3), (4, .int x4)] [] (fl ad m)
  obtain ⟨b1, b2⟩ := h
  refine J_aload_n hX dX12_step_0 rfl 0 rfl ?_
  refine J_iload_n hX dX12_step_1 rfl 1 rfl ?_
  refine J_iload_n hX dX12_step_2 rfl 3 rfl ?_
  refine J_iload_n hX dX12_step_3 rfl 2 rfl ?_
  refine J_iconst (v := (0 : Int32)) hX dX12_step_4 (by decide) ?_
  refine J_callS hX km_X12_outward kl_RX12_270 dX12_step_5 [.int x2, .int (0 : Int32)] ⟨Nat.le_of_ble_eq_true rfl, Nat.le_of_ble_eq_true rfl⟩ rfl rfl (Nat.le_of_ble_eq_true rfl) (c_X12_outward x2 (0 : Int32) m) (fun v w2 hk => ?_)
  obtain ⟨rfl, rfl⟩ := hk
  show J X (0, 0) 8 [(0, .ref (ad 426)), (1, .int x1), (2, .int x2), (3, .int x3), (4, .int x4)] [.int (v_X12_outward x2 (0 : Int32)), .int x3, .int x1, .ref (ad 426)] (fl ad m)
  refine J_imul hX dX12_step_8 ?_
  refine J_iload_n hX dX12_step_9 rfl 3 rfl ?_
  refine J_iload_n hX dX12_step_10 rfl 2 rfl ?_
  refine J_iconst (v := (1 : Int32)) hX dX12_step_11 (by decide) ?_
  refine J_callS hX km_X12_outward kl_RX12_270 dX12_step_12 [.int x2, .int (1 : Int32)] ⟨Nat.le_of_ble_eq_true rfl, Nat.le_of_ble_eq_true rfl⟩ rfl rfl (Nat.le_of_ble_eq_true rfl) (c_X12_outward x2 (1 : Int32) m) (fun v w2 hk => ?_)
  obtain ⟨rfl, rfl⟩ := hk
  show J X (0, 0) 15 [(0, .ref (ad 426)), (1, .int x1), (2, .int x2), (3, .int x3), (4, .int x4)] [.int (v_X12_outward x2 (1 : Int32)), .int x3, .int (x3 * (v_X12_outward x2 (0 : Int32))), .int x1, .ref (ad 426)] (fl ad m)
  refine J_imul hX dX12_step_15 ?_
  refine J_iload hX dX12_step_16 4 rfl ?_
  refine J_callV hX km_X12_imageOn kl_RX12_273 dX12_step_18 ka_426 (by decide) [.int x1, .int (x3 * (v_X12_outward x2 (0 : Int32))), .int (x3 * (v_X12_outward x2 (1 : Int32))), .int x4] ⟨Nat.le_of_ble_eq_true rfl, Nat.le_of_ble_eq_true rfl⟩ rfl rfl (Nat.le_of_ble_eq_true rfl) (c_X12_imageOn x1 (x3 * (v_X12_outward x2 (0 : Int32))) (x3 * (v_X12_outward x2 (1 : Int32))) x4 m b1) (fun v w2 hk => ?_)
  obtain ⟨rfl, rfl⟩ := hk
  show J X (0, 0) 21 [(0, .ref (ad 426)), (1, .int x1), (2, .int x2), (3, .int x3), (4, .int x4)] [.int (v_X12_imageOn x1 (x3 * (v_X12_outward x2 (0 : Int32))) (x3 * (v_X12_outward x2 (1 : Int32))) x4 m)] (fl ad m)
  refine J_aload_n hX dX12_step_21 rfl 0 rfl ?_
  refine J_iload_n hX dX12_step_22 rfl 1 rfl ?_
  refine J_iconst (v := (0 : Int32)) hX dX12_step_23 (by decide) ?_
  refine J_iconst (v := (0 : Int32)) hX dX12_step_24 (by decide) ?_
  refine J_iload hX dX12_step_25 4 rfl ?_
  refine J_callV hX km_X12_imageOn kl_RX12_273 dX12_step_27 ka_426 (by decide) [.int x1, .int (0 : Int32), .int (0 : Int32), .int x4] ⟨Nat.le_of_ble_eq_true rfl, Nat.le_of_ble_eq_true rfl⟩ rfl rfl (Nat.le_of_ble_eq_true rfl) (c_X12_imageOn x1 (0 : Int32) (0 : Int32) x4 m b2) (fun v w2 hk => ?_)
  obtain ⟨rfl, rfl⟩ := hk
  show J X (0, 0) 30 [(0, .ref (ad 426)), (1, .int x1), (2, .int x2), (3, .int x3), (4, .int x4)] [.int (v_X12_imageOn x1 (0 : Int32) (0 : Int32) x4 m), .int (v_X12_imageOn x1 (x3 * (v_X12_outward x2 (0 : Int32))) (x3 * (v_X12_outward x2 (1 : Int32))) x4 m)] (fl ad m)
  refine J_isub hX dX12_step_30 ?_
  exact J_iret hX hR dX12_step_31 (And.intro (congrArg (fun z => some (Value.int z)) (show ((v_X12_imageOn x1 (x3 * (v_X12_outward x2 (0 : Int32))) (x3 * (v_X12_outward x2 (1 : Int32))) x4 m) - (v_X12_imageOn x1 (0 : Int32) (0 : Int32) x4 m)) = v_X12_step x1 x2 x3 x4 m from rfl)) rfl)
set_option maxRecDepth 100000 in
theorem tb_X12_mismatch_l104 {X : XT} {ad : Nat → Nat} {K : Int32 → Mm → Prop} (hX : Cx X cX12_mismatch 10 RX12 (rmN 5 112)) (hR : Rx X (some .int) (kI ad K) (0, 0)) {rec : Int32 → Int32 → Mm → Prop} {k217 : Int32 → Mm → Prop} (x2 : Int32) (x3 : Int32) (x4 : Int32) (x5 : Int32) (x6 : Int32) (x7 : Int32) (hrec : ∀ (x8 : Int32) (x9 : Int32) (m : Mm), rec x8 x9 m → J X (0, 0) 104 [(0, .ref (ad 426)), (2, .int x2), (3, .int x3), (4, .int x4), (5, .int x5), (6, .int x6), (7, .int x7), (8, .int x8), (9, .int x9)] [] (fl ad m)) (hk217 : ∀ (z8 : Int32) (m : Mm), k217 z8 m → J X (0, 0) 217 [(0, .ref (ad 426)), (3, .int x3), (4, .int x4), (5, .int x5), (6, .int x6), (8, .int z8)] [] (fl ad m)) (x8 : Int32) (x9 : Int32) (m : Mm) (h : wb_X12_mismatch_l104 rec k217 K x2 x3 x4 x5 x6 x7 x8 x9 m) : J X (0, 0) 104 [(0, .ref (ad 426)), (2, .int x2), (3, .int x3), (4, .int x4), (5, .int x5), (6, .int x6), (7, .int x7), (8, .int x8), (9, .int x9)] [] (fl ad m) := by
  unfold wb_X12_mismatch_l104 at h
  refine J_iload hX dX12_mismatch_104 8 rfl ?_
  refine J_bipush (v := (7 : Int32)) hX dX12_mismatch_106 (by decide) ?_
  refine J_icmp_ge (tgt := 217) hX dX12_mismatch_108 (by decide) (fun c19 => ?_) (fun c19 => ?_)
  · replace h := Eq.mp (if_pos c19) h
    exact J_sub [0, 2, 3, 4, 5, 7] rfl (hk217 x8 m h)
  · replace h := Eq.mp (if_neg c19) h
    refine J_iload hX dX12_mismatch_111 7 rfl ?_
    refine J_aload_n hX dX12_mismatch_113 rfl 0 rfl ?_
    refine J_iload_n hX dX12_mismatch_114 rfl 2 rfl ?_
    refine J_iload hX dX12_mismatch_115 3 rfl ?_
    refine J_iload hX dX12_mismatch_117 6 rfl ?_
    refine J_aload_n hX dX12_mismatch_119 rfl 0 rfl ?_
    refine J_getR hX kf_RX12_68 dX12_mismatch_120 ka_426 (by decide) rfl rh_426_24 ?_
    refine J_iload_n hX dX12_mismatch_123 rfl 1 rfl ?_
    refine J_iload hX dX12_mismatch_124 8 rfl ?_
    refine J_iadd hX dX12_mismatch_126 ?_
    obtain ⟨b20, h⟩ := h
    refine J_iald (j := (x2 + x9).toNatClampNeg) hX dX12_mismatch_127 ka_446 le_446 b20 rfl ?_
    refine J_iconst (v := (0 : Int32)) hX dX12_mismatch_128 (by decide) ?_
    obtain ⟨b21, h⟩ := h
    refine J_callV hX km_X12_atEnd kl_RX12_284 dX12_mismatch_129 ka_426 (by decide) [.int x3, .int x4, .int x7, .int (m.1 446 (x2 + x9).toNatClampNeg), .int (0 : Int32)] ⟨Nat.le_of_ble_eq_true rfl, Nat.le_of_ble_eq_true rfl⟩ rfl rfl (Nat.le_of_ble_eq_true rfl) (c_X12_atEnd x3 x4 x7 (m.1 446 (x2 + x9).toNatClampNeg) (0 : Int32) m b21) (fun v w2 hk => ?_)
    obtain ⟨rfl, rfl⟩ := hk
    show J X (0, 0) 132 [(0, .ref (ad 426)), (2, .int x2), (3, .int x3), (4, .int x4), (5, .int x5), (6, .int x6), (7, .int x7), (8, .int x8), (9, .int x9)] [.int (v_X12_atEnd x3 x4 x7 (m.1 446 (x2 + x9).toNatClampNeg) (0 : Int32) m), .int x8] (fl ad m)
    refine J_aload_n hX dX12_mismatch_132 rfl 0 rfl ?_
    refine J_iload hX dX12_mismatch_133 4 rfl ?_
    refine J_iload hX dX12_mismatch_135 5 rfl ?_
    refine J_iload hX dX12_mismatch_137 6 rfl ?_
    refine J_aload_n hX dX12_mismatch_139 rfl 0 rfl ?_
    refine J_getR hX kf_RX12_68 dX12_mismatch_140 ka_426 (by decide) rfl rh_426_24 ?_
    refine J_iload_n hX dX12_mismatch_143 rfl 1 rfl ?_
    refine J_iload hX dX12_mismatch_144 8 rfl ?_
    refine J_iadd hX dX12_mismatch_146 ?_
    refine J_iald (j := (x2 + x9).toNatClampNeg) hX dX12_mismatch_147 ka_446 le_446 b20 rfl ?_
    refine J_iconst (v := (0 : Int32)) hX dX12_mismatch_148 (by decide) ?_
    obtain ⟨b22, h⟩ := h
    refine J_callV hX km_X12_atEnd kl_RX12_284 dX12_mismatch_149 ka_426 (by decide) [.int x5, .int x6, .int x7, .int (m.1 446 (x2 + x9).toNatClampNeg), .int (0 : Int32)] ⟨Nat.le_of_ble_eq_true rfl, Nat.le_of_ble_eq_true rfl⟩ rfl rfl (Nat.le_of_ble_eq_true rfl) (c_X12_atEnd x5 x6 x7 (m.1 446 (x2 + x9).toNatClampNeg) (0 : Int32) m b22) (fun v w2 hk => ?_)
    obtain ⟨rfl, rfl⟩ := hk
    show J X (0, 0) 152 [(0, .ref (ad 426)), (2, .int x2), (3, .int x3), (4, .int x4), (5, .int x5), (6, .int x6), (7, .int x7), (8, .int x8), (9, .int x9)] [.int (v_X12_atEnd x5 x6 x7 (m.1 446 (x2 + x9).toNatClampNeg) (0 : Int32) m), .int (v_X12_atEnd x3 x4 x7 (m.1 446 (x2 + x9).toNatClampNeg) (0 : Int32) m), .int x8] (fl ad m)
    refine J_isub hX dX12_mismatch_152 ?_
    refine J_callS hX km_X12_amount kl_RX12_222 dX12_mismatch_153 [.int ((v_X12_atEnd x3 x4 x7 (m.1 446 (x2 + x9).toNatClampNeg) (0 : Int32) m) - (v_X12_atEnd x5 x6 x7 (m.1 446 (x2 + x9).toNatClampNeg) (0 : Int32) m))] ⟨Nat.le_of_ble_eq_true rfl, Nat.le_of_ble_eq_true rfl⟩ rfl rfl (Nat.le_of_ble_eq_true rfl) (c_X12_amount ((v_X12_atEnd x3 x4 x7 (m.1 446 (x2 + x9).toNatClampNeg) (0 : Int32) m) - (v_X12_atEnd x5 x6 x7 (m.1 446 (x2 + x9).toNatClampNeg) (0 : Int32) m)) m) (fun v w2 hk => ?_)
    obtain ⟨rfl, rfl⟩ := hk
    show J X (0, 0) 156 [(0, .ref (ad 426)), (2, .int x2), (3, .int x3), (4, .int x4), (5, .int x5), (6, .int x6), (7, .int x7), (8, .int x8), (9, .int x9)] [.int (v_X12_amount ((v_X12_atEnd x3 x4 x7 (m.1 446 (x2 + x9).toNatClampNeg) (0 : Int32) m) - (v_X12_atEnd x5 x6 x7 (m.1 446 (x2 + x9).toNatClampNeg) (0 : Int32) m))), .int x8] (fl ad m)
    refine J_callS hX km_X12_most kl_RX12_113 dX12_mismatch_156 [.int x8, .int (v_X12_amount ((v_X12_atEnd x3 x4 x7 (m.1 446 (x2 + x9).toNatClampNeg) (0 : Int32) m) - (v_X12_atEnd x5 x6 x7 (m.1 446 (x2 + x9).toNatClampNeg) (0 : Int32) m)))] ⟨Nat.le_of_ble_eq_true rfl, Nat.le_of_ble_eq_true rfl⟩ rfl rfl (Nat.le_of_ble_eq_true rfl) (c_X12_most x8 (v_X12_amount ((v_X12_atEnd x3 x4 x7 (m.1 446 (x2 + x9).toNatClampNeg) (0 : Int32) m) - (v_X12_atEnd x5 x6 x7 (m.1 446 (x2 + x9).toNatClampNeg) (0 : Int32) m))) m) (fun v w2 hk => ?_)
    obtain ⟨rfl, rfl⟩ := hk
    show J X (0, 0) 159 [(0, .ref (ad 426)), (2, .int x2), (3, .int x3), (4, .int x4), (5, .int x5), (6, .int x6), (7, .int x7), (8, .int x8), (9, .int x9)] [.int (v_X12_most x8 (v_X12_amount ((v_X12_atEnd x3 x4 x7 (m.1 446 (x2 + x9).toNatClampNeg) (0 : Int32) m) - (v_X12_atEnd x5 x6 x7 (m.1 446 (x2 + x9).toNatClampNeg) (0 : Int32) m))))] (fl ad m)
    refine J_nmI (fun y23 e_y23 => ?_)
    replace h := h y23 e_y23
    refine J_istore (lv2 := [(8, .int y23), (0, .ref (ad 426)), (2, .int x2), (3, .int x3), (4, .int x4), (5, .int x5), (6, .int x6), (7, .int x7), (9, .int x9)]) hX dX12_mismatch_159 (Nat.le_of_ble_eq_true rfl) rfl ?_
    refine J_iload hX dX12_mismatch_161 0 rfl ?_
    refine J_aload_n hX dX12_mismatch_163 rfl 1 rfl ?_
    refine J_iload_n hX dX12_mismatch_164 rfl 3 rfl ?_
    refine J_iload hX dX12_mismatch_165 4 rfl ?_
    refine J_iload hX dX12_mismatch_167 7 rfl ?_
    refine J_aload_n hX dX12_mismatch_169 rfl 1 rfl ?_
    refine J_getR hX kf_RX12_68 dX12_mismatch_170 ka_426 (by decide) rfl rh_426_24 ?_
    refine J_iload_n hX dX12_mismatch_173 rfl 2 rfl ?_
    refine J_iload hX dX12_mismatch_174 8 rfl ?_
    refine J_iadd hX dX12_mismatch_176 ?_
    refine J_iald (j := (x2 + x9).toNatClampNeg) hX dX12_mismatch_177 ka_446 le_446 b20 rfl ?_
    refine J_iconst (v := (1 : Int32)) hX dX12_mismatch_178 (by decide) ?_
    obtain ⟨b24, h⟩ := h
    refine J_callV hX km_X12_atEnd kl_RX12_284 dX12_mismatch_179 ka_426 (by decide) [.int x3, .int x4, .int x7, .int (m.1 446 (x2 + x9).toNatClampNeg), .int (1 : Int32)] ⟨Nat.le_of_ble_eq_true rfl, Nat.le_of_ble_eq_true rfl⟩ rfl rfl (Nat.le_of_ble_eq_true rfl) (c_X12_atEnd x3 x4 x7 (m.1 446 (x2 + x9).toNatClampNeg) (1 : Int32) m b24) (fun v w2 hk => ?_)
    obtain ⟨rfl, rfl⟩ := hk
    show J X (0, 0) 182 [(8, .int y23), (0, .ref (ad 426)), (2, .int x2), (3, .int x3), (4, .int x4), (5, .int x5), (6, .int x6), (7, .int x7), (9, .int x9)] [.int (v_X12_atEnd x3 x4 x7 (m.1 446 (x2 + x9).toNatClampNeg) (1 : Int32) m), .int y23] (fl ad m)
    refine J_aload_n hX dX12_mismatch_182 rfl 1 rfl ?_
    refine J_iload hX dX12_mismatch_183 5 rfl ?_
    refine J_iload hX dX12_mismatch_185 6 rfl ?_
    refine J_iload hX dX12_mismatch_187 7 rfl ?_
    refine J_aload_n hX dX12_mismatch_189 rfl 1 rfl ?_
    refine J_getR hX kf_RX12_68 dX12_mismatch_190 ka_426 (by decide) rfl rh_426_24 ?_
    refine J_iload_n hX dX12_mismatch_193 rfl 2 rfl ?_
    refine J_iload hX dX12_mismatch_194 8 rfl ?_
    refine J_iadd hX dX12_mismatch_196 ?_
    refine J_iald (j := (x2 + x9).toNatClampNeg) hX dX12_mismatch_197 ka_446 le_446 b20 rfl ?_
    refine J_iconst (v := (1 : Int32)) hX dX12_mismatch_198 (by decide) ?_
    obtain ⟨b25, h⟩ := h
    refine J_callV hX km_X12_atEnd kl_RX12_284 dX12_mismatch_199 ka_426 (by decide) [.int x5, .int x6, .int x7, .int (m.1 446 (x2 + x9).toNatClampNeg), .int (1 : Int32)] ⟨Nat.le_of_ble_eq_true rfl, Nat.le_of_ble_eq_true rfl⟩ rfl rfl (Nat.le_of_ble_eq_true rfl) (c_X12_atEnd x5 x6 x7 (m.1 446 (x2 + x9).toNatClampNeg) (1 : Int32) m b25) (fun v w2 hk => ?_)
    obtain ⟨rfl, rfl⟩ := hk
    show J X (0, 0) 202 [(8, .int y23), (0, .ref (ad 426)), (2, .int x2), (3, .int x3), (4, .int x4), (5, .int x5), (6, .int x6), (7, .int x7), (9, .int x9)] [.int (v_X12_atEnd x5 x6 x7 (m.1 446 (x2 + x9).toNatClampNeg) (1 : Int32) m), .int (v_X12_atEnd x3 x4 x7 (m.1 446 (x2 + x9).toNatClampNeg) (1 : Int32) m), .int y23] (fl ad m)
    refine J_isub hX dX12_mismatch_202 ?_
    refine J_callS hX km_X12_amount kl_RX12_222 dX12_mismatch_203 [.int ((v_X12_atEnd x3 x4 x7 (m.1 446 (x2 + x9).toNatClampNeg) (1 : Int32) m) - (v_X12_atEnd x5 x6 x7 (m.1 446 (x2 + x9).toNatClampNeg) (1 : Int32) m))] ⟨Nat.le_of_ble_eq_true rfl, Nat.le_of_ble_eq_true rfl⟩ rfl rfl (Nat.le_of_ble_eq_true rfl) (c_X12_amount ((v_X12_atEnd x3 x4 x7 (m.1 446 (x2 + x9).toNatClampNeg) (1 : Int32) m) - (v_X12_atEnd x5 x6 x7 (m.1 446 (x2 + x9).toNatClampNeg) (1 : Int32) m)) m) (fun v w2 hk => ?_)
    obtain ⟨rfl, rfl⟩ := hk
    show J X (0, 0) 206 [(8, .int y23), (0, .ref (ad 426)), (2, .int x2), (3, .int x3), (4, .int x4), (5, .int x5), (6, .int x6), (7, .int x7), (9, .int x9)] [.int (v_X12_amount ((v_X12_atEnd x3 x4 x7 (m.1 446 (x2 + x9).toNatClampNeg) (1 : Int32) m) - (v_X12_atEnd x5 x6 x7 (m.1 446 (x2 + x9).toNatClampNeg) (1 : Int32) m))), .int y23] (fl ad m)
    refine J_callS hX km_X12_most kl_RX12_113 dX12_mismatch_206 [.int y23, .int (v_X12_amount ((v_X12_atEnd x3 x4 x7 (m.1 446 (x2 + x9).toNatClampNeg) (1 : Int32) m) - (v_X12_atEnd x5 x6 x7 (m.1 446 (x2 + x9).toNatClampNeg) (1 : Int32) m)))] ⟨Nat.le_of_ble_eq_true rfl, Nat.le_of_ble_eq_true rfl⟩ rfl rfl (Nat.le_of_ble_eq_true rfl) (c_X12_most y23 (v_X12_amount ((v_X12_atEnd x3 x4 x7 (m.1 446 (x2 + x9).toNatClampNeg) (1 : Int32) m) - (v_X12_atEnd x5 x6 x7 (m.1 446 (x2 + x9).toNatClampNeg) (1 : Int32) m))) m) (fun v w2 hk => ?_)
    obtain ⟨rfl, rfl⟩ := hk
    show J X (0, 0) 209 [(8, .int y23), (0, .ref (ad 426)), (2, .int x2), (3, .int x3), (4, .int x4), (5, .int x5), (6, .int x6), (7, .int x7), (9, .int x9)] [.int (v_X12_most y23 (v_X12_amount ((v_X12_atEnd x3 x4 x7 (m.1 446 (x2 + x9).toNatClampNeg) (1 : Int32) m) - (v_X12_atEnd x5 x6 x7 (m.1 446 (x2 + x9).toNatClampNeg) (1 : Int32) m))))] (fl ad m)
    refine J_nmI (fun y26 e_y26 => ?_)
    replace h := h y26 e_y26
    refine J_istore (lv2 := [(8, .int y26), (0, .ref (ad 426)), (2, .int x2), (3, .int x3), (4, .int x4), (5, .int x5), (6, .int x6), (7, .int x7), (9, .int x9)]) hX dX12_mismatch_209 (Nat.le_of_ble_eq_true rfl) rfl ?_
    refine J_iinc (x := (x9 + (1 : Int32))) (lv2 := [(9, .int (x9 + (1 : Int32))), (8, .int y26), (0, .ref (ad 426)), (2, .int x2), (3, .int x3), (4, .int x4), (5, .int x5), (6, .int x6), (7, .int x7)]) hX dX12_mismatch_211 8 rfl rfl (Nat.le_of_ble_eq_true rfl) rfl ?_
    refine J_goto (tgt := 104) hX dX12_mismatch_214 (by decide) ?_
    exact J_sub [2, 3, 4, 5, 6, 7, 8, 1, 0] rfl (hrec y26 (x9 + (1 : Int32)) m h)
set_option maxRecDepth 100000 in
theorem t_X12_mismatch_l104 {X : XT} {ad : Nat → Nat} {K : Int32 → Mm → Prop} (hX : Cx X cX12_mismatch 10 RX12 (rmN 5 112)) (hR : Rx X (some .int) (kI ad K) (0, 0)) {k217 : Int32 → Mm → Prop} (x2 : Int32) (x3 : Int32) (x4 : Int32) (x5 : Int32) (x6 : Int32) (x7 : Int32) (hk217 : ∀ (z8 : Int32) (m : Mm), k217 z8 m → J X (0, 0) 217 [(0, .ref (ad 426)), (3, .int x3), (4, .int x4), (5, .int x5), (6, .int x6), (8, .int z8)] [] (fl ad m)) : ∀ (n : Nat) (x8 : Int32) (x9 : Int32) (m : Mm), wp_X12_mismatch_l104 k217 K x2 x3 x4 x5 x6 x7 n x8 x9 m → J X (0, 0) 104 [(0, .ref (ad 426)), (2, .int x2), (3, .int x3), (4, .int x4), (5, .int x5), (6, .int x6), (7, .int x7), (8, .int x8), (9, .int x9)] [] (fl ad m) := by
  intro n
  induction n with
  | zero => intro x8 x9 m h; exact h.elim
  | succ n ih => intro x8 x9 m h; exact tb_X12_mismatch_l104 hX hR x2 x3 x4 x5 x6 x7 ih hk217 x8 x9 m h
set_option maxRecDepth 100000 in
theorem c_X12_mismatch {G : GT} {ad : Nat → Nat} (x1 : Int32) (m : Mm) (K : Int32 → Mm → Prop) (h : wp_X12_mismatch x1 m K) : Cn G yX12_mismatch cX12_mismatch 10 (some .int) (rmN 5 112) [.ref (ad 426), .int x1] (0, 0) (fl ad m) (kI ad K) := by
  unfold wp_X12_mismatch at h
  refine Cn.of pn_RX12 (Nat.le_of_ble_eq_true rfl) (fun X hG hX hR => ?_)
  subst hG
  have hX : Cx X cX12_mismatch 10 RX12 (rmN 5 112) := hX
  show J X (0, 0) 0 [(0, .ref (ad 426)), (1, .int x1)] [] (fl ad m)
  refine J_bipush (v := (9 : Int32)) hX dX12_mismatch_0 (by decide) ?_
  refine J_iload_n hX dX12_mismatch_2 rfl 1 rfl ?_
  refine J_imul hX dX12_mismatch_3 ?_
  refine J_nmI (fun y1 e_y1 => ?_)
  replace h := h y1 e_y1
  refine J_istore_n (lv2 := [(2, .int y1), (0, .ref (ad 426)), (1, .int x1)]) hX dX12_mismatch_4 rfl (Nat.le_of_ble_eq_true rfl) rfl ?_
  refine J_aload_n hX dX12_mismatch_5 rfl 1 rfl ?_
  refine J_getR hX kf_RX12_68 dX12_mismatch_6 ka_426 (by decide) rfl rh_426_24 ?_
  refine J_iload_n hX dX12_mismatch_9 rfl 0 rfl ?_
  obtain ⟨b2, h⟩ := h
  refine J_iald (j := y1.toNatClampNeg) hX dX12_mismatch_10 ka_446 le_446 b2 rfl ?_
  refine J_nmI (fun y3 e_y3 => ?_)
  replace h := h y3 e_y3
  refine J_istore_n (lv2 := [(3, .int y3), (2, .int y1), (0, .ref (ad 426)), (1, .int x1)]) hX dX12_mismatch_11 rfl (Nat.le_of_ble_eq_true rfl) rfl ?_
  refine J_aload_n hX dX12_mismatch_12 rfl 2 rfl ?_
  refine J_getR hX kf_RX12_68 dX12_mismatch_13 ka_426 (by decide) rfl rh_426_24 ?_
  refine J_iload_n hX dX12_mismatch_16 rfl 1 rfl ?_
  refine J_iconst (v := (1 : Int32)) hX dX12_mismatch_17 (by decide) ?_
  refine J_iadd hX dX12_mismatch_18 ?_
  obtain ⟨b4, h⟩ := h
  refine J_iald (j := (y1 + (1 : Int32)).toNatClampNeg) hX dX12_mismatch_19 ka_446 le_446 b4 rfl ?_
  refine J_nmI (fun y5 e_y5 => ?_)
  replace h := h y5 e_y5
  refine J_istore (lv2 := [(4, .int y5), (3, .int y3), (2, .int y1), (0, .ref (ad 426)), (1, .int x1)]) hX dX12_mismatch_20 (Nat.le_of_ble_eq_true rfl) rfl ?_
  refine J_aload_n hX dX12_mismatch_22 rfl 3 rfl ?_
  refine J_getR hX kf_RX12_68 dX12_mismatch_23 ka_426 (by decide) rfl rh_426_24 ?_
  refine J_iload_n hX dX12_mismatch_26 rfl 2 rfl ?_
  refine J_iconst (v := (2 : Int32)) hX dX12_mismatch_27 (by decide) ?_
  refine J_iadd hX dX12_mismatch_28 ?_
  obtain ⟨b6, h⟩ := h
  refine J_iald (j := (y1 + (2 : Int32)).toNatClampNeg) hX dX12_mismatch_29 ka_446 le_446 b6 rfl ?_
  refine J_nmI (fun y7 e_y7 => ?_)
  replace h := h y7 e_y7
  refine J_istore (lv2 := [(5, .int y7), (4, .int y5), (3, .int y3), (2, .int y1), (0, .ref (ad 426)), (1, .int x1)]) hX dX12_mismatch_30 (Nat.le_of_ble_eq_true rfl) rfl ?_
  refine J_aload_n hX dX12_mismatch_32 rfl 4 rfl ?_
  refine J_getR hX kf_RX12_68 dX12_mismatch_33 ka_426 (by decide) rfl rh_426_24 ?_
  refine J_iload_n hX dX12_mismatch_36 rfl 3 rfl ?_
  refine J_iconst (v := (3 : Int32)) hX dX12_mismatch_37 (by decide) ?_
  refine J_iadd hX dX12_mismatch_38 ?_
  obtain ⟨b8, h⟩ := h
  refine J_iald (j := (y1 + (3 : Int32)).toNatClampNeg) hX dX12_mismatch_39 ka_446 le_446 b8 rfl ?_
  refine J_nmI (fun y9 e_y9 => ?_)
  replace h := h y9 e_y9
  refine J_istore (lv2 := [(6, .int y9), (5, .int y7), (4, .int y5), (3, .int y3), (2, .int y1), (0, .ref (ad 426)), (1, .int x1)]) hX dX12_mismatch_40 (Nat.le_of_ble_eq_true rfl) rfl ?_
  refine J_aload_n hX dX12_mismatch_42 rfl 5 rfl ?_
  refine J_getR hX kf_RX12_68 dX12_mismatch_43 ka_426 (by decide) rfl rh_426_24 ?_
  refine J_iload_n hX dX12_mismatch_46 rfl 4 rfl ?_
  refine J_iconst (v := (4 : Int32)) hX dX12_mismatch_47 (by decide) ?_
  refine J_iadd hX dX12_mismatch_48 ?_
  obtain ⟨b10, h⟩ := h
  refine J_iald (j := (y1 + (4 : Int32)).toNatClampNeg) hX dX12_mismatch_49 ka_446 le_446 b10 rfl ?_
  refine J_nmI (fun y11 e_y11 => ?_)
  replace h := h y11 e_y11
  refine J_istore (lv2 := [(7, .int y11), (6, .int y9), (5, .int y7), (4, .int y5), (3, .int y3), (2, .int y1), (0, .ref (ad 426)), (1, .int x1)]) hX dX12_mismatch_50 (Nat.le_of_ble_eq_true rfl) rfl ?_
  refine J_aload_n hX dX12_mismatch_52 rfl 6 rfl ?_
  refine J_iload_n hX dX12_mismatch_53 rfl 4 rfl ?_
  refine J_iload hX dX12_mismatch_54 3 rfl ?_
  obtain ⟨b12, h⟩ := h
  refine J_callV hX km_X12_reachOf kl_RX12_281 dX12_mismatch_56 ka_426 (by decide) [.int y3, .int y5] ⟨Nat.le_of_ble_eq_true rfl, Nat.le_of_ble_eq_true rfl⟩ rfl rfl (Nat.le_of_ble_eq_true rfl) (c_X12_reachOf y3 y5 m b12) (fun v w2 hk => ?_)
  obtain ⟨rfl, rfl⟩ := hk
  show J X (0, 0) 59 [(7, .int y11), (6, .int y9), (5, .int y7), (4, .int y5), (3, .int y3), (2, .int y1), (0, .ref (ad 426)), (1, .int x1)] [.int (v_X12_reachOf y3 y5 m)] (fl ad m)
  refine J_bipush (v := (-9 : Int32)) hX dX12_mismatch_59 (by decide) ?_
  refine J_icmp_eq (tgt := 95) hX dX12_mismatch_61 (by decide) (fun c13 => ?_) (fun c13 => ?_)
  · replace h := Eq.mp (if_pos c13) h
    refine J_bipush (v := (-9 : Int32)) hX dX12_mismatch_95 (by decide) ?_
    exact J_iret hX hR dX12_mismatch_97 ⟨_, _, rfl, rfl, h⟩
  · replace h := Eq.mp (if_neg c13) h
    refine J_aload_n hX dX12_mismatch_64 rfl 6 rfl ?_
    refine J_iload hX dX12_mismatch_65 2 rfl ?_
    refine J_iload hX dX12_mismatch_67 1 rfl ?_
    obtain ⟨b14, h⟩ := h
    refine J_callV hX km_X12_reachOf kl_RX12_281 dX12_mismatch_69 ka_426 (by decide) [.int y7, .int y9] ⟨Nat.le_of_ble_eq_true rfl, Nat.le_of_ble_eq_true rfl⟩ rfl rfl (Nat.le_of_ble_eq_true rfl) (c_X12_reachOf y7 y9 m b14) (fun v w2 hk => ?_)
    obtain ⟨rfl, rfl⟩ := hk
    show J X (0, 0) 72 [(7, .int y11), (6, .int y9), (5, .int y7), (4, .int y5), (3, .int y3), (2, .int y1), (0, .ref (ad 426)), (1, .int x1)] [.int (v_X12_reachOf y7 y9 m)] (fl ad m)
    refine J_bipush (v := (-9 : Int32)) hX dX12_mismatch_72 (by decide) ?_
    refine J_icmp_eq (tgt := 95) hX dX12_mismatch_74 (by decide) (fun c15 => ?_) (fun c15 => ?_)
    · replace h := Eq.mp (if_pos c15) h
      refine J_bipush (v := (-9 : Int32)) hX dX12_mismatch_95 (by decide) ?_
      exact J_iret hX hR dX12_mismatch_97 ⟨_, _, rfl, rfl, h⟩
    · replace h := Eq.mp (if_neg c15) h
      refine J_aload_n hX dX12_mismatch_77 rfl 6 rfl ?_
      refine J_iload_n hX dX12_mismatch_78 rfl 4 rfl ?_
      refine J_bipush (v := (7 : Int32)) hX dX12_mismatch_79 (by decide) ?_
      obtain ⟨b16, h⟩ := h
      refine J_callV hX km_X12_of kl_RX12_91 dX12_mismatch_81 ka_426 (by decide) [.int y3, .int (7 : Int32)] ⟨Nat.le_of_ble_eq_true rfl, Nat.le_of_ble_eq_true rfl⟩ rfl rfl (Nat.le_of_ble_eq_true rfl) (c_X12_of y3 (7 : Int32) m b16) (fun v w2 hk => ?_)
      obtain ⟨rfl, rfl⟩ := hk
      show J X (0, 0) 84 [(7, .int y11), (6, .int y9), (5, .int y7), (4, .int y5), (3, .int y3), (2, .int y1), (0, .ref (ad 426)), (1, .int x1)] [.int (v_X12_of y3 (7 : Int32) m)] (fl ad m)
      refine J_aload_n hX dX12_mismatch_84 rfl 6 rfl ?_
      refine J_iload hX dX12_mismatch_85 2 rfl ?_
      refine J_bipush (v := (7 : Int32)) hX dX12_mismatch_87 (by decide) ?_
      obtain ⟨b17, h⟩ := h
      refine J_callV hX km_X12_of kl_RX12_91 dX12_mismatch_89 ka_426 (by decide) [.int y7, .int (7 : Int32)] ⟨Nat.le_of_ble_eq_true rfl, Nat.le_of_ble_eq_true rfl⟩ rfl rfl (Nat.le_of_ble_eq_true rfl) (c_X12_of y7 (7 : Int32) m b17) (fun v w2 hk => ?_)
      obtain ⟨rfl, rfl⟩ := hk
      show J X (0, 0) 92 [(7, .int y11), (6, .int y9), (5, .int y7), (4, .int y5), (3, .int y3), (2, .int y1), (0, .ref (ad 426)), (1, .int x1)] [.int (v_X12_of y7 (7 : Int32) m), .int (v_X12_of y3 (7 : Int32) m)] (fl ad m)
      refine J_icmp_eq (tgt := 98) hX dX12_mismatch_92 (by decide) (fun c18 => ?_) (fun c18 => ?_)
      · replace h := Eq.mp (if_pos c18) h
        refine J_iconst (v := (0 : Int32)) hX dX12_mismatch_98 (by decide) ?_
        refine J_istore (lv2 := [(8, .int (0 : Int32)), (7, .int y11), (6, .int y9), (5, .int y7), (4, .int y5), (3, .int y3), (2, .int y1), (0, .ref (ad 426)), (1, .int x1)]) hX dX12_mismatch_99 (Nat.le_of_ble_eq_true rfl) rfl ?_
        refine J_iconst (v := (5 : Int32)) hX dX12_mismatch_101 (by decide) ?_
        refine J_istore (lv2 := [(9, .int (5 : Int32)), (8, .int (0 : Int32)), (7, .int y11), (6, .int y9), (5, .int y7), (4, .int y5), (3, .int y3), (2, .int y1), (0, .ref (ad 426)), (1, .int x1)]) hX dX12_mismatch_102 (Nat.le_of_ble_eq_true rfl) rfl ?_
        refine J_sub [8, 7, 6, 5, 4, 3, 2, 1, 0] rfl (t_X12_mismatch_l104 hX hR y1 y3 y5 y7 y9 y11 (fun y27 m28 h => ?_) FU (0 : Int32) (5 : Int32) m h)
        refine J_aload_n hX dX12_mismatch_217 rfl 0 rfl ?_
        refine J_iload_n hX dX12_mismatch_218 rfl 1 rfl ?_
        refine J_iload hX dX12_mismatch_219 2 rfl ?_
        refine J_iconst (v := (1 : Int32)) hX dX12_mismatch_221 (by decide) ?_
        refine J_iconst (v := (0 : Int32)) hX dX12_mismatch_222 (by decide) ?_
        obtain ⟨b29, h⟩ := h
        refine J_callV hX km_X12_step kl_RX12_287 dX12_mismatch_223 ka_426 (by decide) [.int y3, .int y5, .int (1 : Int32), .int (0 : Int32)] ⟨Nat.le_of_ble_eq_true rfl, Nat.le_of_ble_eq_true rfl⟩ rfl rfl (Nat.le_of_ble_eq_true rfl) (c_X12_step y3 y5 (1 : Int32) (0 : Int32) m28 b29) (fun v w2 hk => ?_)
        obtain ⟨rfl, rfl⟩ := hk
        show J X (0, 0) 226 [(0, .ref (ad 426)), (3, .int y3), (4, .int y5), (5, .int y7), (6, .int y9), (8, .int y27)] [.int (v_X12_step y3 y5 (1 : Int32) (0 : Int32) m28)] (fl ad m28)
        refine J_aload_n hX dX12_mismatch_226 rfl 0 rfl ?_
        refine J_iload hX dX12_mismatch_227 3 rfl ?_
        refine J_iload hX dX12_mismatch_229 4 rfl ?_
        refine J_iconst (v := (-1 : Int32)) hX dX12_mismatch_231 (by decide) ?_
        refine J_iconst (v := (0 : Int32)) hX dX12_mismatch_232 (by decide) ?_
        obtain ⟨b30, h⟩ := h
        refine J_callV hX km_X12_step kl_RX12_287 dX12_mismatch_233 ka_426 (by decide) [.int y7, .int y9, .int (-1 : Int32), .int (0 : Int32)] ⟨Nat.le_of_ble_eq_true rfl, Nat.le_of_ble_eq_true rfl⟩ rfl rfl (Nat.le_of_ble_eq_true rfl) (c_X12_step y7 y9 (-1 : Int32) (0 : Int32) m28 b30) (fun v w2 hk => ?_)
        obtain ⟨rfl, rfl⟩ := hk
        show J X (0, 0) 236 [(0, .ref (ad 426)), (3, .int y3), (4, .int y5), (5, .int y7), (6, .int y9), (8, .int y27)] [.int (v_X12_step y7 y9 (-1 : Int32) (0 : Int32) m28), .int (v_X12_step y3 y5 (1 : Int32) (0 : Int32) m28)] (fl ad m28)
        obtain ⟨g35, h⟩ := h
        have hj40 : ∀ y36 : Int32, y36 = (if (v_X12_step y3 y5 (1 : Int32) (0 : Int32) m28) = (v_X12_step y7 y9 (-1 : Int32) (0 : Int32) m28) then (if (v_X12_step y3 y5 (1 : Int32) (1 : Int32) m28) = (v_X12_step y7 y9 (-1 : Int32) (1 : Int32) m28) then (1 : Int32) else (0 : Int32)) else (0 : Int32)) → J X (0, 0) 266 [(8, .int y27)] [.int y36] (fl ad m28) := by
          intro y36 e_y36
          replace h := h y36 e_y36
          refine J_istore (lv2 := [(9, .int y36), (8, .int y27)]) hX dX12_mismatch_266 (Nat.le_of_ble_eq_true rfl) rfl ?_
          refine J_iload hX dX12_mismatch_268 0 rfl ?_
          have hj39 : ∀ y38 : Int32, y38 = (if y36 = (0 : Int32) then (v_X12_most (100 : Int32) y27) else y27) → J X (0, 0) 285 [] [.int y38] (fl ad m28) := by
            intro y38 e_y38
            replace h := h y38 e_y38
            exact J_iret hX hR dX12_mismatch_285 ⟨_, _, rfl, rfl, h⟩
          refine J_if_eq (tgt := 278) hX dX12_mismatch_270 (by decide) (fun c37 => ?_) (fun c37 => ?_)
          · refine J_bipush (v := (100 : Int32)) hX dX12_mismatch_278 (by decide) ?_
            refine J_iload hX dX12_mismatch_280 1 rfl ?_
            refine J_callS hX km_X12_most kl_RX12_113 dX12_mismatch_282 [.int (100 : Int32), .int y27] ⟨Nat.le_of_ble_eq_true rfl, Nat.le_of_ble_eq_true rfl⟩ rfl rfl (Nat.le_of_ble_eq_true rfl) (c_X12_most (100 : Int32) y27 m28) (fun v w2 hk => ?_)
            obtain ⟨rfl, rfl⟩ := hk
            show J X (0, 0) 285 [(9, .int y36), (8, .int y27)] [.int (v_X12_most (100 : Int32) y27)] (fl ad m28)
            exact J_sub [] rfl (hj39 _ (if_pos c37).symm)
          · refine J_iload hX dX12_mismatch_273 1 rfl ?_
            refine J_goto (tgt := 285) hX dX12_mismatch_275 (by decide) ?_
            exact J_sub [] rfl (hj39 _ (if_neg c37).symm)
        have g41 := g35
        refine J_icmp_ne (tgt := 265) hX dX12_mismatch_236 (by decide) (fun c31 => ?_) (fun c31 => ?_)
        · refine J_iconst (v := (0 : Int32)) hX dX12_mismatch_265 (by decide) ?_
          exact J_sub [5] rfl (hj40 _ (if_neg c31).symm)
        · have g42 := g41 c31
          obtain ⟨b32, b33⟩ := g42
          refine J_aload_n hX dX12_mismatch_239 rfl 0 rfl ?_
          refine J_iload_n hX dX12_mismatch_240 rfl 1 rfl ?_
          refine J_iload hX dX12_mismatch_241 2 rfl ?_
          refine J_iconst (v := (1 : Int32)) hX dX12_mismatch_243 (by decide) ?_
          refine J_iconst (v := (1 : Int32)) hX dX12_mismatch_244 (by decide) ?_
          refine J_callV hX km_X12_step kl_RX12_287 dX12_mismatch_245 ka_426 (by decide) [.int y3, .int y5, .int (1 : Int32), .int (1 : Int32)] ⟨Nat.le_of_ble_eq_true rfl, Nat.le_of_ble_eq_true rfl⟩ rfl rfl (Nat.le_of_ble_eq_true rfl) (c_X12_step y3 y5 (1 : Int32) (1 : Int32) m28 b32) (fun v w2 hk => ?_)
          obtain ⟨rfl, rfl⟩ := hk
          show J X (0, 0) 248 [(0, .ref (ad 426)), (3, .int y3), (4, .int y5), (5, .int y7), (6, .int y9), (8, .int y27)] [.int (v_X12_step y3 y5 (1 : Int32) (1 : Int32) m28)] (fl ad m28)
          refine J_aload_n hX dX12_mismatch_248 rfl 0 rfl ?_
          refine J_iload hX dX12_mismatch_249 3 rfl ?_
          refine J_iload hX dX12_mismatch_251 4 rfl ?_
          refine J_iconst (v := (-1 : Int32)) hX dX12_mismatch_253 (by decide) ?_
          refine J_iconst (v := (1 : Int32)) hX dX12_mismatch_254 (by decide) ?_
          refine J_callV hX km_X12_step kl_RX12_287 dX12_mismatch_255 ka_426 (by decide) [.int y7, .int y9, .int (-1 : Int32), .int (1 : Int32)] ⟨Nat.le_of_ble_eq_true rfl, Nat.le_of_ble_eq_true rfl⟩ rfl rfl (Nat.le_of_ble_eq_true rfl) (c_X12_step y7 y9 (-1 : Int32) (1 : Int32) m28 b33) (fun v w2 hk => ?_)
          obtain ⟨rfl, rfl⟩ := hk
          show J X (0, 0) 258 [(0, .ref (ad 426)), (3, .int y3), (4, .int y5), (5, .int y7), (6, .int y9), (8, .int y27)] [.int (v_X12_step y7 y9 (-1 : Int32) (1 : Int32) m28), .int (v_X12_step y3 y5 (1 : Int32) (1 : Int32) m28)] (fl ad m28)
          refine J_icmp_ne (tgt := 265) hX dX12_mismatch_258 (by decide) (fun c34 => ?_) (fun c34 => ?_)
          · refine J_iconst (v := (0 : Int32)) hX dX12_mismatch_265 (by decide) ?_
            exact J_sub [5] rfl (hj40 _ ((if_pos c31).trans (if_neg c34)).symm)
          · refine J_iconst (v := (1 : Int32)) hX dX12_mismatch_261 (by decide) ?_
            refine J_goto (tgt := 266) hX dX12_mismatch_262 (by decide) ?_
            exact J_sub [5] rfl (hj40 _ ((if_pos c31).trans (if_pos c34)).symm)
      · replace h := Eq.mp (if_neg c18) h
        refine J_bipush (v := (-9 : Int32)) hX dX12_mismatch_95 (by decide) ?_
        exact J_iret hX hR dX12_mismatch_97 ⟨_, _, rfl, rfl, h⟩
