set_option maxRecDepth 100000 in
theorem c_X3_imageWidthOf {G : GT} {ad : Nat → Nat} (a0 : Nat) (h0 : kap a0 = 3) (x1 : Int32) (m : Mm) : Cn G yX3_imageWidthOf cX3_imageWidthOf 2 (some .int) (rmN 0 0) [.ref (ad a0), .int x1] (0, 0) (fl ad m) (fun v w => v = some (.int (v_X3_imageWidthOf a0 x1 m)) ∧ w = fl ad m) := by
  refine Cn.of pn_RX3 (Nat.le_of_ble_eq_true rfl) (fun X hG hX hR => ?_)
  subst hG
  have hX : Cx X cX3_imageWidthOf 2 RX3 (rmN 0 0) := hX
  show J X (0, 0) 0 [(0, .ref (ad a0)), (1, .int x1)] [] (fl ad m)
  refine J_iload_n hX dX3_imageWidthOf_0 rfl 1 rfl ?_
  have hj3 : ∀ y4 : Int32, y4 = (if x1 < (0 : Int32) then (0 : Int32) else (if (4 : Int32) ≤ x1 then (0 : Int32) else (m.1 (a0 + 1) x1.toNatClampNeg))) → J X (0, 0) 19 [] [.int y4] (fl ad m) := by
    intro y4 e_y4
    subst e_y4
    exact J_iret hX hR dX3_imageWidthOf_19 (And.intro (congrArg (fun z => some (Value.int z)) (show (if x1 < (0 : Int32) then (0 : Int32) else (if (4 : Int32) ≤ x1 then (0 : Int32) else (m.1 (a0 + 1) x1.toNatClampNeg))) = v_X3_imageWidthOf a0 x1 m from rfl)) rfl)
  refine J_if_lt (tgt := 18) hX dX3_imageWidthOf_1 (by decide) (fun c1 => ?_) (fun c1 => ?_)
  · refine J_iconst (v := (0 : Int32)) hX dX3_imageWidthOf_18 (by decide) ?_
    exact J_sub [] rfl (hj3 _ (if_pos c1).symm)
  · refine J_iload_n hX dX3_imageWidthOf_4 rfl 1 rfl ?_
    refine J_iconst (v := (4 : Int32)) hX dX3_imageWidthOf_5 (by decide) ?_
    refine J_icmp_ge (tgt := 18) hX dX3_imageWidthOf_6 (by decide) (fun c2 => ?_) (fun c2 => ?_)
    · refine J_iconst (v := (0 : Int32)) hX dX3_imageWidthOf_18 (by decide) ?_
      exact J_sub [] rfl (hj3 _ ((if_neg c1).trans (if_pos c2)).symm)
    · refine J_aload_n hX dX3_imageWidthOf_9 rfl 0 rfl ?_
      refine J_getR hX kf_RX3_9 dX3_imageWidthOf_10 h0 (by decide) rfl (ro_3_0 h0) ?_
      refine J_iload_n hX dX3_imageWidthOf_13 rfl 1 rfl ?_
      refine J_iald (j := x1.toNatClampNeg) hX dX3_imageWidthOf_14 (ko_3_0 h0) (lo_3_0 h0) (vp_b (lo_2 c1) (up_2 c2 (by decide))) rfl ?_
      refine J_goto (tgt := 19) hX dX3_imageWidthOf_15 (by decide) ?_
      exact J_sub [] rfl (hj3 _ ((if_neg c1).trans (if_neg c2)).symm)
set_option maxRecDepth 100000 in
theorem c_X3_imageHeightOf {G : GT} {ad : Nat → Nat} (a0 : Nat) (h0 : kap a0 = 3) (x1 : Int32) (m : Mm) : Cn G yX3_imageHeightOf cX3_imageHeightOf 2 (some .int) (rmN 0 0) [.ref (ad a0), .int x1] (0, 0) (fl ad m) (fun v w => v = some (.int (v_X3_imageHeightOf a0 x1 m)) ∧ w = fl ad m) := by
  refine Cn.of pn_RX3 (Nat.le_of_ble_eq_true rfl) (fun X hG hX hR => ?_)
  subst hG
  have hX : Cx X cX3_imageHeightOf 2 RX3 (rmN 0 0) := hX
  show J X (0, 0) 0 [(0, .ref (ad a0)), (1, .int x1)] [] (fl ad m)
  refine J_iload_n hX dX3_imageHeightOf_0 rfl 1 rfl ?_
  have hj3 : ∀ y4 : Int32, y4 = (if x1 < (0 : Int32) then (0 : Int32) else (if (4 : Int32) ≤ x1 then (0 : Int32) else (m.1 (a0 + 2) x1.toNatClampNeg))) → J X (0, 0) 19 [] [.int y4] (fl ad m) := by
    intro y4 e_y4
    subst e_y4
    exact J_iret hX hR dX3_imageHeightOf_19 (And.intro (congrArg (fun z => some (Value.int z)) (show (if x1 < (0 : Int32) then (0 : Int32) else (if (4 : Int32) ≤ x1 then (0 : Int32) else (m.1 (a0 + 2) x1.toNatClampNeg))) = v_X3_imageHeightOf a0 x1 m from rfl)) rfl)
  refine J_if_lt (tgt := 18) hX dX3_imageHeightOf_1 (by decide) (fun c1 => ?_) (fun c1 => ?_)
  · refine J_iconst (v := (0 : Int32)) hX dX3_imageHeightOf_18 (by decide) ?_
    exact J_sub [] rfl (hj3 _ (if_pos c1).symm)
  · refine J_iload_n hX dX3_imageHeightOf_4 rfl 1 rfl ?_
    refine J_iconst (v := (4 : Int32)) hX dX3_imageHeightOf_5 (by decide) ?_
    refine J_icmp_ge (tgt := 18) hX dX3_imageHeightOf_6 (by decide) (fun c2 => ?_) (fun c2 => ?_)
    · refine J_iconst (v := (0 : Int32)) hX dX3_imageHeightOf_18 (by decide) ?_
      exact J_sub [] rfl (hj3 _ ((if_neg c1).trans (if_pos c2)).symm)
    · refine J_aload_n hX dX3_imageHeightOf_9 rfl 0 rfl ?_
      refine J_getR hX kf_RX3_15 dX3_imageHeightOf_10 h0 (by decide) rfl (ro_3_1 h0) ?_
      refine J_iload_n hX dX3_imageHeightOf_13 rfl 1 rfl ?_
      refine J_iald (j := x1.toNatClampNeg) hX dX3_imageHeightOf_14 (ko_3_1 h0) (lo_3_1 h0) (vp_b (lo_2 c1) (up_2 c2 (by decide))) rfl ?_
      refine J_goto (tgt := 19) hX dX3_imageHeightOf_15 (by decide) ?_
      exact J_sub [] rfl (hj3 _ ((if_neg c1).trans (if_neg c2)).symm)
set_option maxRecDepth 100000 in
theorem c_X0_turnedA {G : GT} {ad : Nat → Nat} (x0 : Int32) (x1 : Int32) (x2 : Int32) (x3 : Int32) (x4 : Int32) (m : Mm) : Cn G yX0_turnedA cX0_turnedA 6 (some .int) (rmN 0 0) [.int x0, .int x1, .int x2, .int x3, .int x4] (0, 0) (fl ad m) (fun v w => v = some (.int (v_X0_turnedA x0 x1 x2 x3 x4)) ∧ w = fl ad m) := by
  refine Cn.of pn_RX0 (Nat.le_of_ble_eq_true rfl) (fun X hG hX hR => ?_)
  subst hG
  have hX : Cx X cX0_turnedA 6 RX0 (rmN 0 0) := hX
  show J X (0, 0) 0 [(0, .int x0), (1, .int x1), (2, .int x2), (3, .int x3), (4, .int x4)] [] (fl ad m)
  refine J_iload_n hX dX0_turnedA_0 rfl 0 rfl ?_
  refine J_iconst (v := (4 : Int32)) hX dX0_turnedA_1 (by decide) ?_
  have hj5 : ∀ y6 : Int32, y6 = (if x0 < (4 : Int32) then x3 else (x1 - x3)) → J X (0, 0) 12 [(0, .int x0), (1, .int x1), (2, .int x2), (4, .int x4)] [.int y6] (fl ad m) := by
    intro y6 e_y6
    subst e_y6
    refine J_istore (lv2 := [(5, .int (if x0 < (4 : Int32) then x3 else (x1 - x3))), (0, .int x0), (1, .int x1), (2, .int x2), (4, .int x4)]) hX dX0_turnedA_12 (Nat.le_of_ble_eq_true rfl) rfl ?_
    refine J_iload_n hX dX0_turnedA_14 rfl 1 rfl ?_
    refine J_iconst (v := (3 : Int32)) hX dX0_turnedA_15 (by decide) ?_
    refine J_iand hX dX0_turnedA_16 ?_
    by_cases c2 : (x0 &&& (3 : Int32)) = (0 : Int32)
    · refine J_tabIn (v := (0 : Int32)) (tgt := 44) hX dX0_turnedA_17 c2 (by decide) (by decide) rfl (by decide) ?_
      refine J_iload hX dX0_turnedA_44 0 rfl ?_
      exact J_iret hX hR dX0_turnedA_46 (And.intro (congrArg (fun z => some (Value.int z)) (show (if x0 < (4 : Int32) then x3 else (x1 - x3)) = v_X0_turnedA x0 x1 x2 x3 x4 from (if_pos c2).symm)) rfl)
    · by_cases c3 : (x0 &&& (3 : Int32)) = (1 : Int32)
      · refine J_tabIn (v := (1 : Int32)) (tgt := 47) hX dX0_turnedA_17 c3 (by decide) (by decide) rfl (by decide) ?_
        refine J_iload_n hX dX0_turnedA_47 rfl 3 rfl ?_
        refine J_iload hX dX0_turnedA_48 4 rfl ?_
        refine J_isub hX dX0_turnedA_50 ?_
        exact J_iret hX hR dX0_turnedA_51 (And.intro (congrArg (fun z => some (Value.int z)) (show (x2 - x4) = v_X0_turnedA x0 x1 x2 x3 x4 from ((if_neg c2).trans (if_pos c3)).symm)) rfl)
      · by_cases c4 : (x0 &&& (3 : Int32)) = (2 : Int32)
        · refine J_tabIn (v := (2 : Int32)) (tgt := 52) hX dX0_turnedA_17 c4 (by decide) (by decide) rfl (by decide) ?_
          refine J_iload_n hX dX0_turnedA_52 rfl 2 rfl ?_
          refine J_iload hX dX0_turnedA_53 0 rfl ?_
          refine J_isub hX dX0_turnedA_55 ?_
          exact J_iret hX hR dX0_turnedA_56 (And.intro (congrArg (fun z => some (Value.int z)) (show (x1 - (if x0 < (4 : Int32) then x3 else (x1 - x3))) = v_X0_turnedA x0 x1 x2 x3 x4 from ((if_neg c2).trans ((if_neg c3).trans (if_pos c4))).symm)) rfl)
        · refine J_tabOut (tgt := 57) hX dX0_turnedA_17 (by have t0 := tne c2 (k := 0) (by decide); have t1 := tne c3 (k := 1) (by decide); have t2 := tne c4 (k := 2) (by decide); omega) (by decide) ?_
          refine J_iload hX dX0_turnedA_57 4 rfl ?_
          exact J_iret hX hR dX0_turnedA_59 (And.intro (congrArg (fun z => some (Value.int z)) (show x4 = v_X0_turnedA x0 x1 x2 x3 x4 from ((if_neg c2).trans ((if_neg c3).trans (if_neg c4))).symm)) rfl)
  refine J_icmp_lt (tgt := 11) hX dX0_turnedA_2 (by decide) (fun c1 => ?_) (fun c1 => ?_)
  · refine J_iload_n hX dX0_turnedA_11 rfl 3 rfl ?_
    exact J_sub [0, 1, 2, 4] rfl (hj5 _ (if_pos c1).symm)
  · refine J_iload_n hX dX0_turnedA_5 rfl 1 rfl ?_
    refine J_iload_n hX dX0_turnedA_6 rfl 3 rfl ?_
    refine J_isub hX dX0_turnedA_7 ?_
    refine J_goto (tgt := 12) hX dX0_turnedA_8 (by decide) ?_
    exact J_sub [0, 1, 2, 4] rfl (hj5 _ (if_neg c1).symm)
set_option maxRecDepth 100000 in
theorem c_X0_turnedB {G : GT} {ad : Nat → Nat} (x0 : Int32) (x1 : Int32) (x2 : Int32) (x3 : Int32) (x4 : Int32) (m : Mm) : Cn G yX0_turnedB cX0_turnedB 6 (some .int) (rmN 0 0) [.int x0, .int x1, .int x2, .int x3, .int x4] (0, 0) (fl ad m) (fun v w => v = some (.int (v_X0_turnedB x0 x1 x2 x3 x4)) ∧ w = fl ad m) := by
  refine Cn.of pn_RX0 (Nat.le_of_ble_eq_true rfl) (fun X hG hX hR => ?_)
  subst hG
  have hX : Cx X cX0_turnedB 6 RX0 (rmN 0 0) := hX
  show J X (0, 0) 0 [(0, .int x0), (1, .int x1), (2, .int x2), (3, .int x3), (4, .int x4)] [] (fl ad m)
  refine J_iload_n hX dX0_turnedB_0 rfl 0 rfl ?_
  refine J_iconst (v := (4 : Int32)) hX dX0_turnedB_1 (by decide) ?_
  have hj5 : ∀ y6 : Int32, y6 = (if x0 < (4 : Int32) then x3 else (x1 - x3)) → J X (0, 0) 12 [(0, .int x0), (1, .int x1), (2, .int x2), (4, .int x4)] [.int y6] (fl ad m) := by
    intro y6 e_y6
    subst e_y6
    refine J_istore (lv2 := [(5, .int (if x0 < (4 : Int32) then x3 else (x1 - x3))), (0, .int x0), (1, .int x1), (2, .int x2), (4, .int x4)]) hX dX0_turnedB_12 (Nat.le_of_ble_eq_true rfl) rfl ?_
    refine J_iload_n hX dX0_turnedB_14 rfl 1 rfl ?_
    refine J_iconst (v := (3 : Int32)) hX dX0_turnedB_15 (by decide) ?_
    refine J_iand hX dX0_turnedB_16 ?_
    by_cases c2 : (x0 &&& (3 : Int32)) = (0 : Int32)
    · refine J_tabIn (v := (0 : Int32)) (tgt := 44) hX dX0_turnedB_17 c2 (by decide) (by decide) rfl (by decide) ?_
      refine J_iload hX dX0_turnedB_44 4 rfl ?_
      exact J_iret hX hR dX0_turnedB_46 (And.intro (congrArg (fun z => some (Value.int z)) (show x4 = v_X0_turnedB x0 x1 x2 x3 x4 from (if_pos c2).symm)) rfl)
    · by_cases c3 : (x0 &&& (3 : Int32)) = (1 : Int32)
      · refine J_tabIn (v := (1 : Int32)) (tgt := 47) hX dX0_turnedB_17 c3 (by decide) (by decide) rfl (by decide) ?_
        refine J_iload hX dX0_turnedB_47 0 rfl ?_
        exact J_iret hX hR dX0_turnedB_49 (And.intro (congrArg (fun z => some (Value.int z)) (show (if x0 < (4 : Int32) then x3 else (x1 - x3)) = v_X0_turnedB x0 x1 x2 x3 x4 from ((if_neg c2).trans (if_pos c3)).symm)) rfl)
      · by_cases c4 : (x0 &&& (3 : Int32)) = (2 : Int32)
        · refine J_tabIn (v := (2 : Int32)) (tgt := 50) hX dX0_turnedB_17 c4 (by decide) (by decide) rfl (by decide) ?_
          refine J_iload_n hX dX0_turnedB_50 rfl 3 rfl ?_
          refine J_iload hX dX0_turnedB_51 4 rfl ?_
          refine J_isub hX dX0_turnedB_53 ?_
          exact J_iret hX hR dX0_turnedB_54 (And.intro (congrArg (fun z => some (Value.int z)) (show (x2 - x4) = v_X0_turnedB x0 x1 x2 x3 x4 from ((if_neg c2).trans ((if_neg c3).trans (if_pos c4))).symm)) rfl)
        · refine J_tabOut (tgt := 55) hX dX0_turnedB_17 (by have t0 := tne c2 (k := 0) (by decide); have t1 := tne c3 (k := 1) (by decide); have t2 := tne c4 (k := 2) (by decide); omega) (by decide) ?_
          refine J_iload_n hX dX0_turnedB_55 rfl 2 rfl ?_
          refine J_iload hX dX0_turnedB_56 0 rfl ?_
          refine J_isub hX dX0_turnedB_58 ?_
          exact J_iret hX hR dX0_turnedB_59 (And.intro (congrArg (fun z => some (Value.int z)) (show (x1 - (if x0 < (4 : Int32) then x3 else (x1 - x3))) = v_X0_turnedB x0 x1 x2 x3 x4 from ((if_neg c2).trans ((if_neg c3).trans (if_neg c4))).symm)) rfl)
  refine J_icmp_lt (tgt := 11) hX dX0_turnedB_2 (by decide) (fun c1 => ?_) (fun c1 => ?_)
  · refine J_iload_n hX dX0_turnedB_11 rfl 3 rfl ?_
    exact J_sub [0, 1, 2, 4] rfl (hj5 _ (if_pos c1).symm)
  · refine J_iload_n hX dX0_turnedB_5 rfl 1 rfl ?_
    refine J_iload_n hX dX0_turnedB_6 rfl 3 rfl ?_
    refine J_isub hX dX0_turnedB_7 ?_
    refine J_goto (tgt := 12) hX dX0_turnedB_8 (by decide) ?_
    exact J_sub [0, 1, 2, 4] rfl (hj5 _ (if_neg c1).symm)
set_option maxRecDepth 100000 in
theorem c_X0_originalU {G : GT} {ad : Nat → Nat} (x0 : Int32) (x1 : Int32) (x2 : Int32) (x3 : Int32) (m : Mm) : Cn G yX0_originalU cX0_originalU 6 (some .int) (rmN 0 0) [.int x0, .int x1, .int x2, .int x3] (0, 0) (fl ad m) (fun v w => v = some (.int (v_X0_originalU x0 x1 x2 x3)) ∧ w = fl ad m) := by
  refine Cn.of pn_RX0 (Nat.le_of_ble_eq_true rfl) (fun X hG hX hR => ?_)
  subst hG
  have hX : Cx X cX0_originalU 6 RX0 (rmN 0 0) := hX
  show J X (0, 0) 0 [(0, .int x0), (1, .int x1), (2, .int x2), (3, .int x3)] [] (fl ad m)
  refine J_iload_n hX dX0_originalU_0 rfl 0 rfl ?_
  refine J_iconst (v := (3 : Int32)) hX dX0_originalU_1 (by decide) ?_
  refine J_iand hX dX0_originalU_2 ?_
  refine J_istore (lv2 := [(4, .int (x0 &&& (3 : Int32))), (0, .int x0), (1, .int x1), (2, .int x2), (3, .int x3)]) hX dX0_originalU_3 (Nat.le_of_ble_eq_true rfl) rfl ?_
  refine J_iload hX dX0_originalU_5 0 rfl ?_
  have hj5 : ∀ y6 : Int32, y6 = (if (x0 &&& (3 : Int32)) = (0 : Int32) then x2 else (if (x0 &&& (3 : Int32)) = (1 : Int32) then x3 else (if (x0 &&& (3 : Int32)) = (2 : Int32) then (x1 - x2) else (x1 - x3)))) → J X (0, 0) 39 [(0, .int x0), (1, .int x1)] [.int y6] (fl ad m) := by
    intro y6 e_y6
    subst e_y6
    refine J_istore (lv2 := [(5, .int (if (x0 &&& (3 : Int32)) = (0 : Int32) then x2 else (if (x0 &&& (3 : Int32)) = (1 : Int32) then x3 else (if (x0 &&& (3 : Int32)) = (2 : Int32) then (x1 - x2) else (x1 - x3))))), (0, .int x0), (1, .int x1)]) hX dX0_originalU_39 (Nat.le_of_ble_eq_true rfl) rfl ?_
    refine J_iload_n hX dX0_originalU_41 rfl 1 rfl ?_
    refine J_iconst (v := (4 : Int32)) hX dX0_originalU_42 (by decide) ?_
    have hj7 : ∀ y8 : Int32, y8 = (if x0 < (4 : Int32) then (if (x0 &&& (3 : Int32)) = (0 : Int32) then x2 else (if (x0 &&& (3 : Int32)) = (1 : Int32) then x3 else (if (x0 &&& (3 : Int32)) = (2 : Int32) then (x1 - x2) else (x1 - x3)))) else (x1 - (if (x0 &&& (3 : Int32)) = (0 : Int32) then x2 else (if (x0 &&& (3 : Int32)) = (1 : Int32) then x3 else (if (x0 &&& (3 : Int32)) = (2 : Int32) then (x1 - x2) else (x1 - x3)))))) → J X (0, 0) 55 [] [.int y8] (fl ad m) := by
      intro y8 e_y8
      subst e_y8
      exact J_iret hX hR dX0_originalU_55 (And.intro (congrArg (fun z => some (Value.int z)) (show (if x0 < (4 : Int32) then (if (x0 &&& (3 : Int32)) = (0 : Int32) then x2 else (if (x0 &&& (3 : Int32)) = (1 : Int32) then x3 else (if (x0 &&& (3 : Int32)) = (2 : Int32) then (x1 - x2) else (x1 - x3)))) else (x1 - (if (x0 &&& (3 : Int32)) = (0 : Int32) then x2 else (if (x0 &&& (3 : Int32)) = (1 : Int32) then x3 else (if (x0 &&& (3 : Int32)) = (2 : Int32) then (x1 - x2) else (x1 - x3)))))) = v_X0_originalU x0 x1 x2 x3 from rfl)) rfl)
    refine J_icmp_lt (tgt := 53) hX dX0_originalU_43 (by decide) (fun c4 => ?_) (fun c4 => ?_)
    · refine J_iload hX dX0_originalU_53 0 rfl ?_
      exact J_sub [] rfl (hj7 _ (if_pos c4).symm)
    · refine J_iload_n hX dX0_originalU_46 rfl 2 rfl ?_
      refine J_iload hX dX0_originalU_47 0 rfl ?_
      refine J_isub hX dX0_originalU_49 ?_
      refine J_goto (tgt := 55) hX dX0_originalU_50 (by decide) ?_
      exact J_sub [] rfl (hj7 _ (if_neg c4).symm)
  refine J_if_ne (tgt := 14) hX dX0_originalU_7 (by decide) (fun c1 => ?_) (fun c1 => ?_)
  · refine J_iload hX dX0_originalU_14 0 rfl ?_
    refine J_iconst (v := (1 : Int32)) hX dX0_originalU_16 (by decide) ?_
    refine J_icmp_ne (tgt := 24) hX dX0_originalU_17 (by decide) (fun c2 => ?_) (fun c2 => ?_)
    · refine J_iload hX dX0_originalU_24 0 rfl ?_
      refine J_iconst (v := (2 : Int32)) hX dX0_originalU_26 (by decide) ?_
      refine J_icmp_ne (tgt := 36) hX dX0_originalU_27 (by decide) (fun c3 => ?_) (fun c3 => ?_)
      · refine J_iload_n hX dX0_originalU_36 rfl 2 rfl ?_
        refine J_iload_n hX dX0_originalU_37 rfl 4 rfl ?_
        refine J_isub hX dX0_originalU_38 ?_
        exact J_sub [1, 2] rfl (hj5 _ ((if_neg c1).trans ((if_neg c2).trans (if_neg c3))).symm)
      · refine J_iload_n hX dX0_originalU_30 rfl 2 rfl ?_
        refine J_iload_n hX dX0_originalU_31 rfl 3 rfl ?_
        refine J_isub hX dX0_originalU_32 ?_
        refine J_goto (tgt := 39) hX dX0_originalU_33 (by decide) ?_
        exact J_sub [1, 2] rfl (hj5 _ ((if_neg c1).trans ((if_neg c2).trans (if_pos c3))).symm)
    · refine J_iload_n hX dX0_originalU_20 rfl 4 rfl ?_
      refine J_goto (tgt := 39) hX dX0_originalU_21 (by decide) ?_
      exact J_sub [1, 2] rfl (hj5 _ ((if_neg c1).trans (if_pos c2)).symm)
  · refine J_iload_n hX dX0_originalU_10 rfl 3 rfl ?_
    refine J_goto (tgt := 39) hX dX0_originalU_11 (by decide) ?_
    exact J_sub [1, 2] rfl (hj5 _ (if_pos c1).symm)
set_option maxRecDepth 100000 in
theorem c_X0_originalV {G : GT} {ad : Nat → Nat} (x0 : Int32) (x1 : Int32) (x2 : Int32) (x3 : Int32) (m : Mm) : Cn G yX0_originalV cX0_originalV 5 (some .int) (rmN 0 0) [.int x0, .int x1, .int x2, .int x3] (0, 0) (fl ad m) (fun v w => v = some (.int (v_X0_originalV x0 x1 x2 x3)) ∧ w = fl ad m) := by
  refine Cn.of pn_RX0 (Nat.le_of_ble_eq_true rfl) (fun X hG hX hR => ?_)
  subst hG
  have hX : Cx X cX0_originalV 5 RX0 (rmN 0 0) := hX
  show J X (0, 0) 0 [(0, .int x0), (1, .int x1), (2, .int x2), (3, .int x3)] [] (fl ad m)
  refine J_iload_n hX dX0_originalV_0 rfl 0 rfl ?_
  refine J_iconst (v := (3 : Int32)) hX dX0_originalV_1 (by decide) ?_
  refine J_iand hX dX0_originalV_2 ?_
  refine J_istore (lv2 := [(4, .int (x0 &&& (3 : Int32))), (0, .int x0), (1, .int x1), (2, .int x2), (3, .int x3)]) hX dX0_originalV_3 (Nat.le_of_ble_eq_true rfl) rfl ?_
  refine J_iload hX dX0_originalV_5 0 rfl ?_
  have hj4 : ∀ y5 : Int32, y5 = (if (x0 &&& (3 : Int32)) = (0 : Int32) then x3 else (if (x0 &&& (3 : Int32)) = (1 : Int32) then (x1 - x2) else (if (x0 &&& (3 : Int32)) = (2 : Int32) then (x1 - x3) else x2))) → J X (0, 0) 39 [] [.int y5] (fl ad m) := by
    intro y5 e_y5
    subst e_y5
    exact J_iret hX hR dX0_originalV_39 (And.intro (congrArg (fun z => some (Value.int z)) (show (if (x0 &&& (3 : Int32)) = (0 : Int32) then x3 else (if (x0 &&& (3 : Int32)) = (1 : Int32) then (x1 - x2) else (if (x0 &&& (3 : Int32)) = (2 : Int32) then (x1 - x3) else x2))) = v_X0_originalV x0 x1 x2 x3 from rfl)) rfl)
  refine J_if_ne (tgt := 14) hX dX0_originalV_7 (by decide) (fun c1 => ?_) (fun c1 => ?_)
  · refine J_iload hX dX0_originalV_14 0 rfl ?_
    refine J_iconst (v := (1 : Int32)) hX dX0_originalV_16 (by decide) ?_
    refine J_icmp_ne (tgt := 26) hX dX0_originalV_17 (by decide) (fun c2 => ?_) (fun c2 => ?_)
    · refine J_iload hX dX0_originalV_26 0 rfl ?_
      refine J_iconst (v := (2 : Int32)) hX dX0_originalV_28 (by decide) ?_
      refine J_icmp_ne (tgt := 38) hX dX0_originalV_29 (by decide) (fun c3 => ?_) (fun c3 => ?_)
      · refine J_iload_n hX dX0_originalV_38 rfl 3 rfl ?_
        exact J_sub [] rfl (hj4 _ ((if_neg c1).trans ((if_neg c2).trans (if_neg c3))).symm)
      · refine J_iload_n hX dX0_originalV_32 rfl 2 rfl ?_
        refine J_iload_n hX dX0_originalV_33 rfl 4 rfl ?_
        refine J_isub hX dX0_originalV_34 ?_
        refine J_goto (tgt := 39) hX dX0_originalV_35 (by decide) ?_
        exact J_sub [] rfl (hj4 _ ((if_neg c1).trans ((if_neg c2).trans (if_pos c3))).symm)
    · refine J_iload_n hX dX0_originalV_20 rfl 2 rfl ?_
      refine J_iload_n hX dX0_originalV_21 rfl 3 rfl ?_
      refine J_isub hX dX0_originalV_22 ?_
      refine J_goto (tgt := 39) hX dX0_originalV_23 (by decide) ?_
      exact J_sub [] rfl (hj4 _ ((if_neg c1).trans (if_pos c2)).symm)
  · refine J_iload_n hX dX0_originalV_10 rfl 4 rfl ?_
    refine J_goto (tgt := 39) hX dX0_originalV_11 (by decide) ?_
    exact J_sub [] rfl (hj4 _ (if_pos c1).symm)
set_option maxRecDepth 100000 in
theorem tb_X0_agrees_l108 {X : XT} {ad : Nat → Nat} {K : Int32 → Mm → Prop} (hX : Cx X cX0_agrees 11 RX0 (rmN 1 25)) (hR : Rx X (some .boolean) (kI ad K) (0, 0)) {rec : Int32 → Mm → Prop} (x2 : Int32) (x4 : Int32) (x5 : Int32) (x6 : Int32) (x7 : Int32) (hrec : ∀ (x8 : Int32) (m : Mm), rec x8 m → J X (0, 0) 108 [(0, .ref (ad 267)), (2, .int x2), (4, .int x4), (5, .int x5), (6, .int x6), (7, .int x7), (8, .int x8)] [] (fl ad m)) (x8 : Int32) (m : Mm) (h : wb_X0_agrees_l108 rec K x2 x4 x5 x6 x7 x8 m) : J X (0, 0) 108 [(0, .ref (ad 267)), (2, .int x2), (4, .int x4), (5, .int x5), (6, .int x6), (7, .int x7), (8, .int x8)] [] (fl ad m) := by
  unfold wb_X0_agrees_l108 at h
  refine J_iload hX dX0_agrees_108 6 rfl ?_
  refine J_iconst (v := (3 : Int32)) hX dX0_agrees_110 (by decide) ?_
  refine J_icmp_ge (tgt := 202) hX dX0_agrees_111 (by decide) (fun c10 => ?_) (fun c10 => ?_)
  · replace h := Eq.mp (if_pos c10) h
    refine J_iconst (v := (1 : Int32)) hX dX0_agrees_202 (by decide) ?_
    exact J_zret hX hR dX0_agrees_203 bo_1 ⟨_, _, rfl, rfl, h⟩
  · replace h := Eq.mp (if_neg c10) h
    refine J_aload_n hX dX0_agrees_114 rfl 0 rfl ?_
    refine J_getR hX kf_RX0_39 dX0_agrees_115 ka_267 (by decide) rfl rh_267_7 ?_
    refine J_iload hX dX0_agrees_118 3 rfl ?_
    refine J_iload hX dX0_agrees_120 6 rfl ?_
    refine J_iadd hX dX0_agrees_122 ?_
    obtain ⟨b11, h⟩ := h
    refine J_iald (j := (x5 + x8).toNatClampNeg) hX dX0_agrees_123 ka_391 le_391 b11 rfl ?_
    refine J_aload_n hX dX0_agrees_124 rfl 0 rfl ?_
    refine J_getI hX kf_RX0_15 dX0_agrees_125 ka_267 (by decide) rfl ?_
    refine J_isub hX dX0_agrees_128 ?_
    refine J_nmI (fun y12 e_y12 => ?_)
    replace h := h y12 e_y12
    refine J_istore (lv2 := [(9, .int y12), (0, .ref (ad 267)), (2, .int x2), (4, .int x4), (5, .int x5), (6, .int x6), (7, .int x7), (8, .int x8)]) hX dX0_agrees_129 (Nat.le_of_ble_eq_true rfl) rfl ?_
    refine J_aload_n hX dX0_agrees_131 rfl 1 rfl ?_
    refine J_getR hX kf_RX0_43 dX0_agrees_132 ka_267 (by decide) rfl rh_267_8 ?_
    refine J_iload hX dX0_agrees_135 4 rfl ?_
    refine J_iload hX dX0_agrees_137 7 rfl ?_
    refine J_iadd hX dX0_agrees_139 ?_
    refine J_iald (j := (x5 + x8).toNatClampNeg) hX dX0_agrees_140 ka_392 le_392 b11 rfl ?_
    refine J_aload_n hX dX0_agrees_141 rfl 1 rfl ?_
    refine J_getI hX kf_RX0_18 dX0_agrees_142 ka_267 (by decide) rfl ?_
    refine J_isub hX dX0_agrees_145 ?_
    refine J_nmI (fun y13 e_y13 => ?_)
    replace h := h y13 e_y13
    refine J_istore (lv2 := [(10, .int y13), (9, .int y12), (0, .ref (ad 267)), (2, .int x2), (4, .int x4), (5, .int x5), (6, .int x6), (7, .int x7), (8, .int x8)]) hX dX0_agrees_146 (Nat.le_of_ble_eq_true rfl) rfl ?_
    refine J_iload_n hX dX0_agrees_148 rfl 3 rfl ?_
    refine J_iload hX dX0_agrees_149 6 rfl ?_
    refine J_iload hX dX0_agrees_151 1 rfl ?_
    refine J_iload hX dX0_agrees_153 0 rfl ?_
    refine J_callS hX km_X0_originalU kl_RX0_64 dX0_agrees_155 [.int x2, .int x6, .int y12, .int y13] ⟨Nat.le_of_ble_eq_true rfl, Nat.le_of_ble_eq_true rfl⟩ rfl rfl (Nat.le_of_ble_eq_true rfl) (c_X0_originalU x2 x6 y12 y13 m) (fun v w2 hk => ?_)
    obtain ⟨rfl, rfl⟩ := hk
    show J X (0, 0) 158 [(10, .int y13), (9, .int y12), (0, .ref (ad 267)), (2, .int x2), (4, .int x4), (5, .int x5), (6, .int x6), (7, .int x7), (8, .int x8)] [.int (v_X0_originalU x2 x6 y12 y13)] (fl ad m)
    refine J_aload_n hX dX0_agrees_158 rfl 2 rfl ?_
    refine J_getR hX kf_RX0_46 dX0_agrees_159 ka_267 (by decide) rfl rh_267_9 ?_
    refine J_iload hX dX0_agrees_162 4 rfl ?_
    refine J_iload hX dX0_agrees_164 8 rfl ?_
    refine J_iadd hX dX0_agrees_166 ?_
    obtain ⟨b14, h⟩ := h
    refine J_iald (j := (x4 + x8).toNatClampNeg) hX dX0_agrees_167 ka_393 le_393 b14 rfl ?_
    refine J_icmp_ne (tgt := 194) hX dX0_agrees_168 (by decide) (fun c15 => ?_) (fun c15 => ?_)
    · replace h := Eq.mp (if_neg c15) h
      refine J_iconst (v := (0 : Int32)) hX dX0_agrees_194 (by decide) ?_
      exact J_zret hX hR dX0_agrees_195 bo_0 ⟨_, _, rfl, rfl, h⟩
    · replace h := Eq.mp (if_pos c15) h
      refine J_iload_n hX dX0_agrees_171 rfl 3 rfl ?_
      refine J_iload hX dX0_agrees_172 7 rfl ?_
      refine J_iload hX dX0_agrees_174 1 rfl ?_
      refine J_iload hX dX0_agrees_176 0 rfl ?_
      refine J_callS hX km_X0_originalV kl_RX0_71 dX0_agrees_178 [.int x2, .int x7, .int y12, .int y13] ⟨Nat.le_of_ble_eq_true rfl, Nat.le_of_ble_eq_true rfl⟩ rfl rfl (Nat.le_of_ble_eq_true rfl) (c_X0_originalV x2 x7 y12 y13 m) (fun v w2 hk => ?_)
      obtain ⟨rfl, rfl⟩ := hk
      show J X (0, 0) 181 [(10, .int y13), (9, .int y12), (0, .ref (ad 267)), (2, .int x2), (4, .int x4), (5, .int x5), (6, .int x6), (7, .int x7), (8, .int x8)] [.int (v_X0_originalV x2 x7 y12 y13)] (fl ad m)
      refine J_aload_n hX dX0_agrees_181 rfl 2 rfl ?_
      refine J_getR hX kf_RX0_49 dX0_agrees_182 ka_267 (by decide) rfl rh_267_10 ?_
      refine J_iload hX dX0_agrees_185 4 rfl ?_
      refine J_iload hX dX0_agrees_187 8 rfl ?_
      refine J_iadd hX dX0_agrees_189 ?_
      refine J_iald (j := (x4 + x8).toNatClampNeg) hX dX0_agrees_190 ka_394 le_394 b14 rfl ?_
      refine J_icmp_eq (tgt := 196) hX dX0_agrees_191 (by decide) (fun c16 => ?_) (fun c16 => ?_)
      · replace h := Eq.mp (if_pos c16) h
        refine J_iinc (x := (x8 + (1 : Int32))) (lv2 := [(8, .int (x8 + (1 : Int32))), (10, .int y13), (9, .int y12), (0, .ref (ad 267)), (2, .int x2), (4, .int x4), (5, .int x5), (6, .int x6), (7, .int x7)]) hX dX0_agrees_196 8 rfl rfl (Nat.le_of_ble_eq_true rfl) rfl ?_
        refine J_goto (tgt := 108) hX dX0_agrees_199 (by decide) ?_
        exact J_sub [3, 4, 5, 6, 7, 8, 0] rfl (hrec (x8 + (1 : Int32)) m h)
      · replace h := Eq.mp (if_neg c16) h
        refine J_iconst (v := (0 : Int32)) hX dX0_agrees_194 (by decide) ?_
        exact J_zret hX hR dX0_agrees_195 bo_0 ⟨_, _, rfl, rfl, h⟩
set_option maxRecDepth 100000 in
theorem t_X0_agrees_l108 {X : XT} {ad : Nat → Nat} {K : Int32 → Mm → Prop} (hX : Cx X cX0_agrees 11 RX0 (rmN 1 25)) (hR : Rx X (some .boolean) (kI ad K) (0, 0)) (x2 : Int32) (x4 : Int32) (x5 : Int32) (x6 : Int32) (x7 : Int32) : ∀ (n : Nat) (x8 : Int32) (m : Mm), wp_X0_agrees_l108 K x2 x4 x5 x6 x7 n x8 m → J X (0, 0) 108 [(0, .ref (ad 267)), (2, .int x2), (4, .int x4), (5, .int x5), (6, .int x6), (7, .int x7), (8, .int x8)] [] (fl ad m) := by
  intro n
  induction n with
  | zero => intro x8 m h; exact h.elim
  | succ n ih => intro x8 m h; exact tb_X0_agrees_l108 hX hR x2 x4 x5 x6 x7 ih x8 m h
set_option maxRecDepth 100000 in
theorem c_X0_agrees {G : GT} {ad : Nat → Nat} (a1 : Nat) (h1 : kap a1 = 3) (x2 : Int32) (x3 : Int32) (m : Mm) (K : Int32 → Mm → Prop) (h : wp_X0_agrees a1 x2 x3 m K) : Cn G yX0_agrees cX0_agrees 11 (some .boolean) (rmN 1 25) [.ref (ad 267), .ref (ad a1), .int x2, .int x3] (0, 0) (fl ad m) (kI ad K) := by
  unfold wp_X0_agrees at h
  refine Cn.of pn_RX0 (Nat.le_of_ble_eq_true rfl) (fun X hG hX hR => ?_)
  subst hG
  have hX : Cx X cX0_agrees 11 RX0 (rmN 1 25) := hX
  show J X (0, 0) 0 [(0, .ref (ad 267)), (1, .ref (ad a1)), (2, .int x2), (3, .int x3)] [] (fl ad m)
  refine J_iload_n hX dX0_agrees_0 rfl 3 rfl ?_
  have hj17 : ∀ y2 : Int32, y2 = (if x3 = (0 : Int32) then (0 : Int32) else (3 : Int32)) → J X (0, 0) 9 [(0, .ref (ad 267)), (1, .ref (ad a1)), (2, .int x2)] [.int y2] (fl ad m) := by
    intro y2 e_y2
    replace h := h y2 e_y2
    refine J_istore (lv2 := [(4, .int y2), (0, .ref (ad 267)), (1, .ref (ad a1)), (2, .int x2)]) hX dX0_agrees_9 (Nat.le_of_ble_eq_true rfl) rfl ?_
    refine J_iconst (v := (3 : Int32)) hX dX0_agrees_11 (by decide) ?_
    refine J_iload hX dX0_agrees_12 0 rfl ?_
    refine J_isub hX dX0_agrees_14 ?_
    refine J_nmI (fun y3 e_y3 => ?_)
    replace h := h y3 e_y3
    refine J_istore (lv2 := [(5, .int y3), (4, .int y2), (0, .ref (ad 267)), (1, .ref (ad a1)), (2, .int x2)]) hX dX0_agrees_15 (Nat.le_of_ble_eq_true rfl) rfl ?_
    refine J_aload_n hX dX0_agrees_17 rfl 3 rfl ?_
    refine J_aload_n hX dX0_agrees_18 rfl 2 rfl ?_
    refine J_getI hX kf_RX0_24 dX0_agrees_19 ka_267 (by decide) rfl ?_
    refine J_callV hX km_X3_imageWidthOf kl_RX0_56 dX0_agrees_22 h1 (by decide) [.int (m.1 267 4)] ⟨Nat.le_of_ble_eq_true rfl, Nat.le_of_ble_eq_true rfl⟩ rfl rfl (Nat.le_of_ble_eq_true rfl) (c_X3_imageWidthOf a1 h1 (m.1 267 4) m) (fun v w2 hk => ?_)
    obtain ⟨rfl, rfl⟩ := hk
    show J X (0, 0) 25 [(5, .int y3), (4, .int y2), (0, .ref (ad 267)), (1, .ref (ad a1)), (2, .int x2)] [.int (v_X3_imageWidthOf a1 (m.1 267 4) m)] (fl ad m)
    refine J_nmI (fun y4 e_y4 => ?_)
    replace h := h y4 e_y4
    refine J_istore (lv2 := [(6, .int y4), (5, .int y3), (4, .int y2), (0, .ref (ad 267)), (1, .ref (ad a1)), (2, .int x2)]) hX dX0_agrees_25 (Nat.le_of_ble_eq_true rfl) rfl ?_
    refine J_aload_n hX dX0_agrees_27 rfl 4 rfl ?_
    refine J_aload_n hX dX0_agrees_28 rfl 3 rfl ?_
    refine J_getI hX kf_RX0_24 dX0_agrees_29 ka_267 (by decide) rfl ?_
    refine J_callV hX km_X3_imageHeightOf kl_RX0_68 dX0_agrees_32 h1 (by decide) [.int (m.1 267 4)] ⟨Nat.le_of_ble_eq_true rfl, Nat.le_of_ble_eq_true rfl⟩ rfl rfl (Nat.le_of_ble_eq_true rfl) (c_X3_imageHeightOf a1 h1 (m.1 267 4) m) (fun v w2 hk => ?_)
    obtain ⟨rfl, rfl⟩ := hk
    show J X (0, 0) 35 [(6, .int y4), (5, .int y3), (4, .int y2), (0, .ref (ad 267)), (1, .ref (ad a1)), (2, .int x2)] [.int (v_X3_imageHeightOf a1 (m.1 267 4) m)] (fl ad m)
    refine J_nmI (fun y5 e_y5 => ?_)
    replace h := h y5 e_y5
    refine J_istore (lv2 := [(7, .int y5), (6, .int y4), (5, .int y3), (4, .int y2), (0, .ref (ad 267)), (1, .ref (ad a1)), (2, .int x2)]) hX dX0_agrees_35 (Nat.le_of_ble_eq_true rfl) rfl ?_
    refine J_aload_n hX dX0_agrees_37 rfl 4 rfl ?_
    refine J_aload_n hX dX0_agrees_38 rfl 4 rfl ?_
    refine J_getR hX kf_RX0_39 dX0_agrees_39 ka_267 (by decide) rfl rh_267_7 ?_
    refine J_iload hX dX0_agrees_42 2 rfl ?_
    obtain ⟨b6, h⟩ := h
    refine J_iald (j := y3.toNatClampNeg) hX dX0_agrees_44 ka_391 le_391 b6 rfl ?_
    refine J_iload_n hX dX0_agrees_45 rfl 6 rfl ?_
    refine J_iload hX dX0_agrees_46 1 rfl ?_
    refine J_iload hX dX0_agrees_48 0 rfl ?_
    refine J_aload_n hX dX0_agrees_50 rfl 4 rfl ?_
    refine J_getR hX kf_RX0_46 dX0_agrees_51 ka_267 (by decide) rfl rh_267_9 ?_
    refine J_iload hX dX0_agrees_54 3 rfl ?_
    obtain ⟨b7, h⟩ := h
    refine J_iald (j := y2.toNatClampNeg) hX dX0_agrees_56 ka_393 le_393 b7 rfl ?_
    refine J_aload_n hX dX0_agrees_57 rfl 4 rfl ?_
    refine J_getR hX kf_RX0_49 dX0_agrees_58 ka_267 (by decide) rfl rh_267_10 ?_
    refine J_iload hX dX0_agrees_61 3 rfl ?_
    refine J_iald (j := y2.toNatClampNeg) hX dX0_agrees_63 ka_394 le_394 b7 rfl ?_
    refine J_callS hX km_X0_turnedA kl_RX0_171 dX0_agrees_64 [.int x2, .int y4, .int y5, .int (m.1 393 y2.toNatClampNeg), .int (m.1 394 y2.toNatClampNeg)] ⟨Nat.le_of_ble_eq_true rfl, Nat.le_of_ble_eq_true rfl⟩ rfl rfl (Nat.le_of_ble_eq_true rfl) (c_X0_turnedA x2 y4 y5 (m.1 393 y2.toNatClampNeg) (m.1 394 y2.toNatClampNeg) m) (fun v w2 hk => ?_)
    obtain ⟨rfl, rfl⟩ := hk
    show J X (0, 0) 67 [(7, .int y5), (6, .int y4), (5, .int y3), (4, .int y2), (0, .ref (ad 267)), (1, .ref (ad a1)), (2, .int x2)] [.int (v_X0_turnedA x2 y4 y5 (m.1 393 y2.toNatClampNeg) (m.1 394 y2.toNatClampNeg)), .int (m.1 391 y3.toNatClampNeg), .ref (ad 267)] (fl ad m)
    refine J_isub hX dX0_agrees_67 ?_
    refine J_putI hX kf_RX0_15 dX0_agrees_68 ka_267 (by decide) rfl ?_
    refine J_nmM (fun m8 e_m8 => ?_)
    replace h := h m8 e_m8
    refine J_aload_n hX dX0_agrees_71 rfl 4 rfl ?_
    refine J_aload_n hX dX0_agrees_72 rfl 4 rfl ?_
    refine J_getR hX kf_RX0_43 dX0_agrees_73 ka_267 (by decide) rfl rh_267_8 ?_
    refine J_iload hX dX0_agrees_76 2 rfl ?_
    refine J_iald (j := y3.toNatClampNeg) hX dX0_agrees_78 ka_392 le_392 b6 rfl ?_
    refine J_iload_n hX dX0_agrees_79 rfl 6 rfl ?_
    refine J_iload hX dX0_agrees_80 1 rfl ?_
    refine J_iload hX dX0_agrees_82 0 rfl ?_
    refine J_aload_n hX dX0_agrees_84 rfl 4 rfl ?_
    refine J_getR hX kf_RX0_46 dX0_agrees_85 ka_267 (by decide) rfl rh_267_9 ?_
    refine J_iload hX dX0_agrees_88 3 rfl ?_
    refine J_iald (j := y2.toNatClampNeg) hX dX0_agrees_90 ka_393 le_393 b7 rfl ?_
    refine J_aload_n hX dX0_agrees_91 rfl 4 rfl ?_
    refine J_getR hX kf_RX0_49 dX0_agrees_92 ka_267 (by decide) rfl rh_267_10 ?_
    refine J_iload hX dX0_agrees_95 3 rfl ?_
    refine J_iald (j := y2.toNatClampNeg) hX dX0_agrees_97 ka_394 le_394 b7 rfl ?_
    refine J_callS hX km_X0_turnedB kl_RX0_175 dX0_agrees_98 [.int x2, .int y4, .int y5, .int (m8.1 393 y2.toNatClampNeg), .int (m8.1 394 y2.toNatClampNeg)] ⟨Nat.le_of_ble_eq_true rfl, Nat.le_of_ble_eq_true rfl⟩ rfl rfl (Nat.le_of_ble_eq_true rfl) (c_X0_turnedB x2 y4 y5 (m8.1 393 y2.toNatClampNeg) (m8.1 394 y2.toNatClampNeg) m8) (fun v w2 hk => ?_)
    obtain ⟨rfl, rfl⟩ := hk
    show J X (0, 0) 101 [(7, .int y5), (6, .int y4), (5, .int y3), (4, .int y2), (0, .ref (ad 267)), (1, .ref (ad a1)), (2, .int x2)] [.int (v_X0_turnedB x2 y4 y5 (m8.1 393 y2.toNatClampNeg) (m8.1 394 y2.toNatClampNeg)), .int (m8.1 392 y3.toNatClampNeg), .ref (ad 267)] (fl ad m8)
    refine J_isub hX dX0_agrees_101 ?_
    refine J_putI hX kf_RX0_18 dX0_agrees_102 ka_267 (by decide) rfl ?_
    refine J_nmM (fun m9 e_m9 => ?_)
    replace h := h m9 e_m9
    refine J_iconst (v := (1 : Int32)) hX dX0_agrees_105 (by decide) ?_
    refine J_istore (lv2 := [(8, .int (1 : Int32)), (7, .int y5), (6, .int y4), (5, .int y3), (4, .int y2), (0, .ref (ad 267)), (1, .ref (ad a1)), (2, .int x2)]) hX dX0_agrees_106 (Nat.le_of_ble_eq_true rfl) rfl ?_
    refine J_sub [5, 7, 4, 3, 2, 1, 0] rfl (t_X0_agrees_l108 hX hR x2 y2 y3 y4 y5 FU (1 : Int32) m9 h)
  refine J_if_eq (tgt := 8) hX dX0_agrees_1 (by decide) (fun c1 => ?_) (fun c1 => ?_)
  · refine J_iconst (v := (0 : Int32)) hX dX0_agrees_8 (by decide) ?_
    exact J_sub [0, 1, 2] rfl (hj17 _ (if_pos c1).symm)
  · refine J_iconst (v := (3 : Int32)) hX dX0_agrees_4 (by decide) ?_
    refine J_goto (tgt := 9) hX dX0_agrees_5 (by decide) ?_
    exact J_sub [0, 1, 2] rfl (hj17 _ (if_neg c1).symm)
theorem kv_X3_panelAt {a0 : Nat} {x1 : Int32} (h0 : kap a0 = 3) : kap (v_X3_panelAt a0 x1) = 7 := (kap_ite (fun c1 => (ko_3_6 h0)) (fun c1 => (kap_ite (fun c2 => (ko_3_6 h0)) (fun c2 => (ke_23 (ko_3_5 h0) (vp_lt (vp_b (lo_2 c1) (up_2 c2 (by decide)))))))))
set_option maxRecDepth 100000 in
theorem c_X3_panelAt {G : GT} {ad : Nat → Nat} (a0 : Nat) (h0 : kap a0 = 3) (x1 : Int32) (m : Mm) : Cn G yX3_panelAt cX3_panelAt 2 (some (.object "DieLineChecker$Panel")) (rmN 0 0) [.ref (ad a0), .int x1] (0, 0) (fl ad m) (fun v w => v = some (.ref (ad (v_X3_panelAt a0 x1))) ∧ w = fl ad m) := by
  refine Cn.of pn_RX3 (Nat.le_of_ble_eq_true rfl) (fun X hG hX hR => ?_)
  subst hG
  have hX : Cx X cX3_panelAt 2 RX3 (rmN 0 0) := hX
  show J X (0, 0) 0 [(0, .ref (ad a0)), (1, .int x1)] [] (fl ad m)
  refine J_iload_n hX dX3_panelAt_0 rfl 1 rfl ?_
  have hj3 : ∀ y4 : Nat, y4 = (if x1 < (0 : Int32) then (a0 + 4) else (if (10 : Int32) ≤ x1 then (a0 + 4) else ((a0 + 3) + 2 + x1.toNatClampNeg))) → J X (0, 0) 23 [] [.ref (ad y4)] (fl ad m) := by
    intro y4 e_y4
    subst e_y4
    exact J_aret hX hR dX3_panelAt_23 (And.intro (congrArg (fun z => some (Value.ref (ad z))) (show (if x1 < (0 : Int32) then (a0 + 4) else (if (10 : Int32) ≤ x1 then (a0 + 4) else ((a0 + 3) + 2 + x1.toNatClampNeg))) = v_X3_panelAt a0 x1 from rfl)) rfl)
  refine J_if_lt (tgt := 19) hX dX3_panelAt_1 (by decide) (fun c1 => ?_) (fun c1 => ?_)
  · refine J_aload_n hX dX3_panelAt_19 rfl 0 rfl ?_
    refine J_getR hX kf_RX3_35 dX3_panelAt_20 h0 (by decide) rfl (ro_3_6 h0) ?_
    exact J_sub [] rfl (hj3 _ (if_pos c1).symm)
  · refine J_iload_n hX dX3_panelAt_4 rfl 1 rfl ?_
    refine J_bipush (v := (10 : Int32)) hX dX3_panelAt_5 (by decide) ?_
    refine J_icmp_ge (tgt := 19) hX dX3_panelAt_7 (by decide) (fun c2 => ?_) (fun c2 => ?_)
    · refine J_aload_n hX dX3_panelAt_19 rfl 0 rfl ?_
      refine J_getR hX kf_RX3_35 dX3_panelAt_20 h0 (by decide) rfl (ro_3_6 h0) ?_
      exact J_sub [] rfl (hj3 _ ((if_neg c1).trans (if_pos c2)).symm)
    · refine J_aload_n hX dX3_panelAt_10 rfl 0 rfl ?_
      refine J_getR hX kf_RX3_30 dX3_panelAt_11 h0 (by decide) rfl (ro_3_5 h0) ?_
      refine J_iload_n hX dX3_panelAt_14 rfl 1 rfl ?_
      refine J_aald hX dX3_panelAt_15 (u := 0) (by decide) (ko_3_5 h0) (lo_3_5 h0) (vp_b (lo_2 c1) (up_2 c2 (by decide))) (re_23 (ko_3_5 h0) (vp_lt (vp_b (lo_2 c1) (up_2 c2 (by decide))))) ?_
      refine J_goto (tgt := 23) hX dX3_panelAt_16 (by decide) ?_
      exact J_sub [] rfl (hj3 _ ((if_neg c1).trans (if_neg c2)).symm)
set_option maxRecDepth 100000 in
theorem c_X3_print {G : GT} {ad : Nat → Nat} (a0 : Nat) (h0 : kap a0 = 3) (x1 : Int32) (x2 : Int32) (x3 : Int32) (x4 : Int32) (x5 : Int32) (m : Mm) (K : Int32 → Mm → Prop) (h : wp_X3_print a0 x1 x2 x3 x4 x5 m K) : Cn G yX3_print cX3_print 8 (some .int) (rmN 1 21) [.ref (ad a0), .int x1, .int x2, .int x3, .int x4, .int x5] (0, 0) (fl ad m) (kI ad K) := by
  unfold wp_X3_print at h
  refine Cn.of pn_RX3 (Nat.le_of_ble_eq_true rfl) (fun X hG hX hR => ?_)
  subst hG
  have hX : Cx X cX3_print 8 RX3 (rmN 1 21) := hX
  show J X (0, 0) 0 [(0, .ref (ad a0)), (1, .int x1), (2, .int x2), (3, .int x3), (4, .int x4), (5, .int x5)] [] (fl ad m)
  refine J_aload_n hX dX3_print_0 rfl 0 rfl ?_
  refine J_iload_n hX dX3_print_1 rfl 1 rfl ?_
  refine J_callV hX km_X3_panelAt kl_RX3_39 dX3_print_2 h0 (by decide) [.int x1] ⟨Nat.le_of_ble_eq_true rfl, Nat.le_of_ble_eq_true rfl⟩ rfl rfl (Nat.le_of_ble_eq_true rfl) (c_X3_panelAt a0 h0 x1 m) (fun v w2 hk => ?_)
  obtain ⟨rfl, rfl⟩ := hk
  show J X (0, 0) 5 [(0, .ref (ad a0)), (1, .int x1), (2, .int x2), (3, .int x3), (4, .int x4), (5, .int x5)] [.ref (ad (v_X3_panelAt a0 x1))] (fl ad m)
  refine J_astore (lv2 := [(6, .ref (ad (v_X3_panelAt a0 x1))), (0, .ref (ad a0)), (1, .int x1), (2, .int x2), (3, .int x3), (4, .int x4), (5, .int x5)]) hX dX3_print_5 (Nat.le_of_ble_eq_true rfl) rfl ?_
  refine J_aload hX dX3_print_7 0 rfl ?_
  refine J_getI hX kf_RX3_135 dX3_print_9 (kv_X3_panelAt h0) (by decide) rfl ?_
  refine J_nmI (fun y1 e_y1 => ?_)
  replace h := h y1 e_y1
  refine J_istore (lv2 := [(7, .int y1), (6, .ref (ad (v_X3_panelAt a0 x1))), (0, .ref (ad a0)), (1, .int x1), (2, .int x2), (3, .int x3), (4, .int x4), (5, .int x5)]) hX dX3_print_12 (Nat.le_of_ble_eq_true rfl) rfl ?_
  refine J_aload hX dX3_print_14 1 rfl ?_
  refine J_iload_n hX dX3_print_16 rfl 4 rfl ?_
  refine J_putI hX kf_RX3_135 dX3_print_17 (kv_X3_panelAt h0) (by decide) rfl ?_
  refine J_nmM (fun m2 e_m2 => ?_)
  replace h := h m2 e_m2
  refine J_aload hX dX3_print_20 1 rfl ?_
  refine J_iload_n hX dX3_print_22 rfl 5 rfl ?_
  refine J_putI hX kf_RX3_138 dX3_print_23 (kv_X3_panelAt h0) (by decide) rfl ?_
  refine J_nmM (fun m3 e_m3 => ?_)
  replace h := h m3 e_m3
  refine J_aload hX dX3_print_26 1 rfl ?_
  refine J_iload hX dX3_print_28 6 rfl ?_
  refine J_putI hX kf_RX3_141 dX3_print_30 (kv_X3_panelAt h0) (by decide) rfl ?_
  refine J_nmM (fun m4 e_m4 => ?_)
  replace h := h m4 e_m4
  refine J_aload hX dX3_print_33 1 rfl ?_
  refine J_iload hX dX3_print_35 7 rfl ?_
  refine J_putI hX kf_RX3_144 dX3_print_37 (kv_X3_panelAt h0) (by decide) rfl ?_
  refine J_nmM (fun m5 e_m5 => ?_)
  replace h := h m5 e_m5
  refine J_iload hX dX3_print_40 0 rfl ?_
  exact J_iret hX hR dX3_print_42 ⟨_, _, rfl, rfl, h⟩
set_option maxRecDepth 100000 in
theorem c_X0_carryOut {G : GT} {ad : Nat → Nat} (a1 : Nat) (h1 : kap a1 = 3) (m : Mm) (K : Mm → Prop) (h : wp_X0_carryOut a1 m K) : Cn G yX0_carryOut cX0_carryOut 2 none (rmN 2 48) [.ref (ad 267), .ref (ad a1)] (0, 0) (fl ad m) (kV ad K) := by
  unfold wp_X0_carryOut at h
  refine Cn.of pn_RX0 (Nat.le_of_ble_eq_true rfl) (fun X hG hX hR => ?_)
  subst hG
  have hX : Cx X cX0_carryOut 2 RX0 (rmN 2 48) := hX
  show J X (0, 0) 0 [(0, .ref (ad 267)), (1, .ref (ad a1))] [] (fl ad m)
  refine J_aload_n hX dX0_carryOut_0 rfl 1 rfl ?_
  refine J_aload_n hX dX0_carryOut_1 rfl 0 rfl ?_
  refine J_getI hX kf_RX0_21 dX0_carryOut_2 ka_267 (by decide) rfl ?_
  refine J_aload_n hX dX0_carryOut_5 rfl 0 rfl ?_
  refine J_getI hX kf_RX0_24 dX0_carryOut_6 ka_267 (by decide) rfl ?_
  refine J_aload_n hX dX0_carryOut_9 rfl 0 rfl ?_
  refine J_getI hX kf_RX0_9 dX0_carryOut_10 ka_267 (by decide) rfl ?_
  refine J_aload_n hX dX0_carryOut_13 rfl 0 rfl ?_
  refine J_getI hX kf_RX0_15 dX0_carryOut_14 ka_267 (by decide) rfl ?_
  refine J_aload_n hX dX0_carryOut_17 rfl 0 rfl ?_
  refine J_getI hX kf_RX0_18 dX0_carryOut_18 ka_267 (by decide) rfl ?_
  refine J_callV hX km_X3_print kl_RX0_178 dX0_carryOut_21 h1 (by decide) [.int (m.1 267 3), .int (m.1 267 4), .int (m.1 267 0), .int (m.1 267 1), .int (m.1 267 2)] ⟨Nat.le_of_ble_eq_true rfl, Nat.le_of_ble_eq_true rfl⟩ rfl rfl (Nat.le_of_ble_eq_true rfl) (c_X3_print a1 h1 (m.1 267 3) (m.1 267 4) (m.1 267 0) (m.1 267 1) (m.1 267 2) m _ h) (fun v w2 hk => ?_)
  obtain ⟨y2, m1, rfl, rfl, h⟩ := hk
  show J X (0, 0) 24 [(0, .ref (ad 267)), (1, .ref (ad a1))] [.int y2] (fl ad m1)
  refine J_pop hX dX0_carryOut_24 rfl ?_
  exact J_vret hX hR dX0_carryOut_25 ⟨_, rfl, rfl, h⟩
set_option maxRecDepth 100000 in
theorem c_X0_imageU {G : GT} {ad : Nat → Nat} (a0 : Nat) (h0 : kap a0 = 3) (a1 : Nat) (h1 : kap a1 = 7) (x2 : Int32) (x3 : Int32) (m : Mm) : Cn G yX0_imageU cX0_imageU 4 (some .int) (rmN 1 25) [.ref (ad a0), .ref (ad a1), .int x2, .int x3] (0, 0) (fl ad m) (fun v w => v = some (.int (v_X0_imageU a0 a1 x2 x3 m)) ∧ w = fl ad m) := by
  refine Cn.of pn_RX0 (Nat.le_of_ble_eq_true rfl) (fun X hG hX hR => ?_)
  subst hG
  have hX : Cx X cX0_imageU 4 RX0 (rmN 1 25) := hX
  show J X (0, 0) 0 [(0, .ref (ad a0)), (1, .ref (ad a1)), (2, .int x2), (3, .int x3)] [] (fl ad m)
  refine J_aload_n hX dX0_imageU_0 rfl 1 rfl ?_
  refine J_getI hX kf_RX0_52 dX0_imageU_1 h1 (by decide) rfl ?_
  refine J_aload_n hX dX0_imageU_4 rfl 0 rfl ?_
  refine J_aload_n hX dX0_imageU_5 rfl 1 rfl ?_
  refine J_getI hX kf_RX0_55 dX0_imageU_6 h1 (by decide) rfl ?_
  refine J_callV hX km_X3_imageWidthOf kl_RX0_56 dX0_imageU_9 h0 (by decide) [.int (m.1 a1 7)] ⟨Nat.le_of_ble_eq_true rfl, Nat.le_of_ble_eq_true rfl⟩ rfl rfl (Nat.le_of_ble_eq_true rfl) (c_X3_imageWidthOf a0 h0 (m.1 a1 7) m) (fun v w2 hk => ?_)
  obtain ⟨rfl, rfl⟩ := hk
  show J X (0, 0) 12 [(0, .ref (ad a0)), (1, .ref (ad a1)), (2, .int x2), (3, .int x3)] [.int (v_X3_imageWidthOf a0 (m.1 a1 7) m), .int (m.1 a1 8)] (fl ad m)
  refine J_iload_n hX dX0_imageU_12 rfl 2 rfl ?_
  refine J_aload_n hX dX0_imageU_13 rfl 1 rfl ?_
  refine J_getI hX kf_RX0_62 dX0_imageU_14 h1 (by decide) rfl ?_
  refine J_isub hX dX0_imageU_17 ?_
  refine J_iload_n hX dX0_imageU_18 rfl 3 rfl ?_
  refine J_aload_n hX dX0_imageU_19 rfl 1 rfl ?_
  refine J_getI hX kf_RX0_63 dX0_imageU_20 h1 (by decide) rfl ?_
  refine J_isub hX dX0_imageU_23 ?_
  refine J_callS hX km_X0_originalU kl_RX0_64 dX0_imageU_24 [.int (m.1 a1 8), .int (v_X3_imageWidthOf a0 (m.1 a1 7) m), .int (x2 - (m.1 a1 9)), .int (x3 - (m.1 a1 10))] ⟨Nat.le_of_ble_eq_true rfl, Nat.le_of_ble_eq_true rfl⟩ rfl rfl (Nat.le_of_ble_eq_true rfl) (c_X0_originalU (m.1 a1 8) (v_X3_imageWidthOf a0 (m.1 a1 7) m) (x2 - (m.1 a1 9)) (x3 - (m.1 a1 10)) m) (fun v w2 hk => ?_)
  obtain ⟨rfl, rfl⟩ := hk
  show J X (0, 0) 27 [(0, .ref (ad a0)), (1, .ref (ad a1)), (2, .int x2), (3, .int x3)] [.int (v_X0_originalU (m.1 a1 8) (v_X3_imageWidthOf a0 (m.1 a1 7) m) (x2 - (m.1 a1 9)) (x3 - (m.1 a1 10)))] (fl ad m)
  exact J_iret hX hR dX0_imageU_27 (And.intro (congrArg (fun z => some (Value.int z)) (show (v_X0_originalU (m.1 a1 8) (v_X3_imageWidthOf a0 (m.1 a1 7) m) (x2 - (m.1 a1 9)) (x3 - (m.1 a1 10))) = v_X0_imageU a0 a1 x2 x3 m from rfl)) rfl)
set_option maxRecDepth 100000 in
theorem c_X0_imageV {G : GT} {ad : Nat → Nat} (a0 : Nat) (h0 : kap a0 = 3) (a1 : Nat) (h1 : kap a1 = 7) (x2 : Int32) (x3 : Int32) (m : Mm) : Cn G yX0_imageV cX0_imageV 4 (some .int) (rmN 1 24) [.ref (ad a0), .ref (ad a1), .int x2, .int x3] (0, 0) (fl ad m) (fun v w => v = some (.int (v_X0_imageV a0 a1 x2 x3 m)) ∧ w = fl ad m) := by
  refine Cn.of pn_RX0 (Nat.le_of_ble_eq_true rfl) (fun X hG hX hR => ?_)
  subst hG
  have hX : Cx X cX0_imageV 4 RX0 (rmN 1 24) := hX
  show J X (0, 0) 0 [(0, .ref (ad a0)), (1, .ref (ad a1)), (2, .int x2), (3, .int x3)] [] (fl ad m)
  refine J_aload_n hX dX0_imageV_0 rfl 1 rfl ?_
  refine J_getI hX kf_RX0_52 dX0_imageV_1 h1 (by decide) rfl ?_
  refine J_aload_n hX dX0_imageV_4 rfl 0 rfl ?_
  refine J_aload_n hX dX0_imageV_5 rfl 1 rfl ?_
  refine J_getI hX kf_RX0_55 dX0_imageV_6 h1 (by decide) rfl ?_
  refine J_callV hX km_X3_imageHeightOf kl_RX0_68 dX0_imageV_9 h0 (by decide) [.int (m.1 a1 7)] ⟨Nat.le_of_ble_eq_true rfl, Nat.le_of_ble_eq_true rfl⟩ rfl rfl (Nat.le_of_ble_eq_true rfl) (c_X3_imageHeightOf a0 h0 (m.1 a1 7) m) (fun v w2 hk => ?_)
  obtain ⟨rfl, rfl⟩ := hk
  show J X (0, 0) 12 [(0, .ref (ad a0)), (1, .ref (ad a1)), (2, .int x2), (3, .int x3)] [.int (v_X3_imageHeightOf a0 (m.1 a1 7) m), .int (m.1 a1 8)] (fl ad m)
  refine J_iload_n hX dX0_imageV_12 rfl 2 rfl ?_
  refine J_aload_n hX dX0_imageV_13 rfl 1 rfl ?_
  refine J_getI hX kf_RX0_62 dX0_imageV_14 h1 (by decide) rfl ?_
  refine J_isub hX dX0_imageV_17 ?_
  refine J_iload_n hX dX0_imageV_18 rfl 3 rfl ?_
  refine J_aload_n hX dX0_imageV_19 rfl 1 rfl ?_
  refine J_getI hX kf_RX0_63 dX0_imageV_20 h1 (by decide) rfl ?_
  refine J_isub hX dX0_imageV_23 ?_
  refine J_callS hX km_X0_originalV kl_RX0_71 dX0_imageV_24 [.int (m.1 a1 8), .int (v_X3_imageHeightOf a0 (m.1 a1 7) m), .int (x2 - (m.1 a1 9)), .int (x3 - (m.1 a1 10))] ⟨Nat.le_of_ble_eq_true rfl, Nat.le_of_ble_eq_true rfl⟩ rfl rfl (Nat.le_of_ble_eq_true rfl) (c_X0_originalV (m.1 a1 8) (v_X3_imageHeightOf a0 (m.1 a1 7) m) (x2 - (m.1 a1 9)) (x3 - (m.1 a1 10)) m) (fun v w2 hk => ?_)
  obtain ⟨rfl, rfl⟩ := hk
  show J X (0, 0) 27 [(0, .ref (ad a0)), (1, .ref (ad a1)), (2, .int x2), (3, .int x3)] [.int (v_X0_originalV (m.1 a1 8) (v_X3_imageHeightOf a0 (m.1 a1 7) m) (x2 - (m.1 a1 9)) (x3 - (m.1 a1 10)))] (fl ad m)
  exact J_iret hX hR dX0_imageV_27 (And.intro (congrArg (fun z => some (Value.int z)) (show (v_X0_originalV (m.1 a1 8) (v_X3_imageHeightOf a0 (m.1 a1 7) m) (x2 - (m.1 a1 9)) (x3 - (m.1 a1 10))) = v_X0_imageV a0 a1 x2 x3 m from rfl)) rfl)
theorem bv_X0_isSeen (a0 : Nat) (x1 : Int32) (x2 : Int32) (m : Mm) : bo (v_X0_isSeen a0 x1 x2 m) := (bo_ite bo_0 (bo_ite bo_0 (bo_ite bo_0 (bo_ite bo_0 (bo_ite bo_0 bo_1)))))
set_option maxRecDepth 100000 in
theorem c_X0_isSeen {G : GT} {ad : Nat → Nat} (a0 : Nat) (h0 : kap a0 = 7) (x1 : Int32) (x2 : Int32) (m : Mm) : Cn G yX0_isSeen cX0_isSeen 3 (some .boolean) (rmN 0 0) [.ref (ad a0), .int x1, .int x2] (0, 0) (fl ad m) (fun v w => v = some (.int (v_X0_isSeen a0 x1 x2 m)) ∧ w = fl ad m) := by
  refine Cn.of pn_RX0 (Nat.le_of_ble_eq_true rfl) (fun X hG hX hR => ?_)
  subst hG
  have hX : Cx X cX0_isSeen 3 RX0 (rmN 0 0) := hX
  show J X (0, 0) 0 [(0, .ref (ad a0)), (1, .int x1), (2, .int x2)] [] (fl ad m)
  refine J_aload_n hX dX0_isSeen_0 rfl 0 rfl ?_
  refine J_getI hX kf_RX0_55 dX0_isSeen_1 h0 (by decide) rfl ?_
  refine J_bipush (v := (-9 : Int32)) hX dX0_isSeen_4 (by decide) ?_
  have hj6 : ∀ y7 : Int32, y7 = (if (m.1 a0 7) = (-9 : Int32) then (0 : Int32) else (if (m.1 a0 13) ≤ (m.1 a0 9) then (0 : Int32) else (if (m.1 a0 14) ≤ (m.1 a0 10) then (0 : Int32) else (if x1 ≤ (0 : Int32) then (0 : Int32) else (if x2 ≤ (0 : Int32) then (0 : Int32) else (1 : Int32)))))) → J X (0, 0) 44 [] [.int y7] (fl ad m) := by
    intro y7 e_y7
    subst e_y7
    exact J_zret hX hR dX0_isSeen_44 (bo_ite bo_0 (bo_ite bo_0 (bo_ite bo_0 (bo_ite bo_0 (bo_ite bo_0 bo_1))))) (And.intro (congrArg (fun z => some (Value.int z)) (show (if (m.1 a0 7) = (-9 : Int32) then (0 : Int32) else (if (m.1 a0 13) ≤ (m.1 a0 9) then (0 : Int32) else (if (m.1 a0 14) ≤ (m.1 a0 10) then (0 : Int32) else (if x1 ≤ (0 : Int32) then (0 : Int32) else (if x2 ≤ (0 : Int32) then (0 : Int32) else (1 : Int32)))))) = v_X0_isSeen a0 x1 x2 m from rfl)) rfl)
  refine J_icmp_eq (tgt := 43) hX dX0_isSeen_6 (by decide) (fun c1 => ?_) (fun c1 => ?_)
  · refine J_iconst (v := (0 : Int32)) hX dX0_isSeen_43 (by decide) ?_
    exact J_sub [] rfl (hj6 _ (if_pos c1).symm)
  · refine J_aload_n hX dX0_isSeen_9 rfl 0 rfl ?_
    refine J_getI hX kf_RX0_62 dX0_isSeen_10 h0 (by decide) rfl ?_
    refine J_aload_n hX dX0_isSeen_13 rfl 0 rfl ?_
    refine J_getI hX kf_RX0_85 dX0_isSeen_14 h0 (by decide) rfl ?_
    refine J_icmp_ge (tgt := 43) hX dX0_isSeen_17 (by decide) (fun c2 => ?_) (fun c2 => ?_)
    · refine J_iconst (v := (0 : Int32)) hX dX0_isSeen_43 (by decide) ?_
      exact J_sub [] rfl (hj6 _ ((if_neg c1).trans (if_pos c2)).symm)
    · refine J_aload_n hX dX0_isSeen_20 rfl 0 rfl ?_
      refine J_getI hX kf_RX0_63 dX0_isSeen_21 h0 (by decide) rfl ?_
      refine J_aload_n hX dX0_isSeen_24 rfl 0 rfl ?_
      refine J_getI hX kf_RX0_88 dX0_isSeen_25 h0 (by decide) rfl ?_
      refine J_icmp_ge (tgt := 43) hX dX0_isSeen_28 (by decide) (fun c3 => ?_) (fun c3 => ?_)
      · refine J_iconst (v := (0 : Int32)) hX dX0_isSeen_43 (by decide) ?_
        exact J_sub [] rfl (hj6 _ ((if_neg c1).trans ((if_neg c2).trans (if_pos c3))).symm)
      · refine J_iload_n hX dX0_isSeen_31 rfl 1 rfl ?_
        refine J_if_le (tgt := 43) hX dX0_isSeen_32 (by decide) (fun c4 => ?_) (fun c4 => ?_)
        · refine J_iconst (v := (0 : Int32)) hX dX0_isSeen_43 (by decide) ?_
          exact J_sub [] rfl (hj6 _ ((if_neg c1).trans ((if_neg c2).trans ((if_neg c3).trans (if_pos c4)))).symm)
        · refine J_iload_n hX dX0_isSeen_35 rfl 2 rfl ?_
          refine J_if_le (tgt := 43) hX dX0_isSeen_36 (by decide) (fun c5 => ?_) (fun c5 => ?_)
          · refine J_iconst (v := (0 : Int32)) hX dX0_isSeen_43 (by decide) ?_
            exact J_sub [] rfl (hj6 _ ((if_neg c1).trans ((if_neg c2).trans ((if_neg c3).trans ((if_neg c4).trans (if_pos c5))))).symm)
          · refine J_iconst (v := (1 : Int32)) hX dX0_isSeen_39 (by decide) ?_
            refine J_goto (tgt := 44) hX dX0_isSeen_40 (by decide) ?_
            exact J_sub [] rfl (hj6 _ ((if_neg c1).trans ((if_neg c2).trans ((if_neg c3).trans ((if_neg c4).trans (if_neg c5))))).symm)
theorem bv_X10_has (x1 : Int32) (m : Mm) : bo (v_X10_has x1 m) := (bo_ite bo_0 (bo_ite bo_0 (bo_ite bo_0 bo_1)))
set_option maxRecDepth 100000 in
theorem c_X10_has {G : GT} {ad : Nat → Nat} (x1 : Int32) (m : Mm) : Cn G yX10_has cX10_has 2 (some .boolean) (rmN 0 0) [.ref (ad 268), .int x1] (0, 0) (fl ad m) (fun v w => v = some (.int (v_X10_has x1 m)) ∧ w = fl ad m) := by
  refine Cn.of pn_RX10 (Nat.le_of_ble_eq_true rfl) (fun X hG hX hR => ?_)
  subst hG
  have hX : Cx X cX10_has 2 RX10 (rmN 0 0) := hX
  show J X (0, 0) 0 [(0, .ref (ad 268)), (1, .int x1)] [] (fl ad m)
  refine J_iload_n hX dX10_has_0 rfl 1 rfl ?_
  have hj4 : ∀ y5 : Int32, y5 = (if x1 < (0 : Int32) then (0 : Int32) else (if (m.1 268 0) ≤ x1 then (0 : Int32) else (if (360 : Int32) ≤ x1 then (0 : Int32) else (1 : Int32)))) → J X (0, 0) 24 [] [.int y5] (fl ad m) := by
    intro y5 e_y5
    subst e_y5
    exact J_zret hX hR dX10_has_24 (bo_ite bo_0 (bo_ite bo_0 (bo_ite bo_0 bo_1))) (And.intro (congrArg (fun z => some (Value.int z)) (show (if x1 < (0 : Int32) then (0 : Int32) else (if (m.1 268 0) ≤ x1 then (0 : Int32) else (if (360 : Int32) ≤ x1 then (0 : Int32) else (1 : Int32)))) = v_X10_has x1 m from rfl)) rfl)
  refine J_if_lt (tgt := 23) hX dX10_has_1 (by decide) (fun c1 => ?_) (fun c1 => ?_)
  · refine J_iconst (v := (0 : Int32)) hX dX10_has_23 (by decide) ?_
    exact J_sub [] rfl (hj4 _ (if_pos c1).symm)
  · refine J_iload_n hX dX10_has_4 rfl 1 rfl ?_
    refine J_aload_n hX dX10_has_5 rfl 0 rfl ?_
    refine J_getI hX kf_RX10_9 dX10_has_6 ka_268 (by decide) rfl ?_
    refine J_icmp_ge (tgt := 23) hX dX10_has_9 (by decide) (fun c2 => ?_) (fun c2 => ?_)
    · refine J_iconst (v := (0 : Int32)) hX dX10_has_23 (by decide) ?_
      exact J_sub [] rfl (hj4 _ ((if_neg c1).trans (if_pos c2)).symm)
    · refine J_iload_n hX dX10_has_12 rfl 1 rfl ?_
      refine J_sipush (v := (360 : Int32)) hX dX10_has_13 (by decide) ?_
      refine J_icmp_ge (tgt := 23) hX dX10_has_16 (by decide) (fun c3 => ?_) (fun c3 => ?_)
      · refine J_iconst (v := (0 : Int32)) hX dX10_has_23 (by decide) ?_
        exact J_sub [] rfl (hj4 _ ((if_neg c1).trans ((if_neg c2).trans (if_pos c3))).symm)
      · refine J_iconst (v := (1 : Int32)) hX dX10_has_19 (by decide) ?_
        refine J_goto (tgt := 24) hX dX10_has_20 (by decide) ?_
        exact J_sub [] rfl (hj4 _ ((if_neg c1).trans ((if_neg c2).trans (if_neg c3))).symm)
set_option maxRecDepth 100000 in
theorem c_X10_panelP {G : GT} {ad : Nat → Nat} (x1 : Int32) (m : Mm) (h : s_X10_panelP x1 m) : Cn G yX10_panelP cX10_panelP 2 (some .int) (rmN 1 21) [.ref (ad 268), .int x1] (0, 0) (fl ad m) (fun v w => v = some (.int (v_X10_panelP x1 m)) ∧ w = fl ad m) := by
  unfold s_X10_panelP at h
  refine Cn.of pn_RX10 (Nat.le_of_ble_eq_true rfl) (fun X hG hX hR => ?_)
  subst hG
  have hX : Cx X cX10_panelP 2 RX10 (rmN 1 21) := hX
  show J X (0, 0) 0 [(0, .ref (ad 268)), (1, .int x1)] [] (fl ad m)
  have g3 := h
  refine J_aload_n hX dX10_panelP_0 rfl 0 rfl ?_
  refine J_iload_n hX dX10_panelP_1 rfl 1 rfl ?_
  refine J_callV hX km_X10_has kl_RX10_89 dX10_panelP_2 ka_268 (by decide) [.int x1] ⟨Nat.le_of_ble_eq_true rfl, Nat.le_of_ble_eq_true rfl⟩ rfl rfl (Nat.le_of_ble_eq_true rfl) (c_X10_has x1 m) (fun v w2 hk => ?_)
  obtain ⟨rfl, rfl⟩ := hk
  show J X (0, 0) 5 [(0, .ref (ad 268)), (1, .int x1)] [.int (v_X10_has x1 m)] (fl ad m)
  have hj4 : ∀ y5 : Int32, y5 = (if (v_X10_has x1 m) = (0 : Int32) then (-9 : Int32) else ((m.1 383 x1.toNatClampNeg) >>> ((2 : Int32) &&& 31))) → J X (0, 0) 21 [] [.int y5] (fl ad m) := by
    intro y5 e_y5
    subst e_y5
    exact J_iret hX hR dX10_panelP_21 (And.intro (congrArg (fun z => some (Value.int z)) (show (if (v_X10_has x1 m) = (0 : Int32) then (-9 : Int32) else ((m.1 383 x1.toNatClampNeg) >>> ((2 : Int32) &&& 31))) = v_X10_panelP x1 m from rfl)) rfl)
  have g6 := g3
  refine J_if_eq (tgt := 19) hX dX10_panelP_5 (by decide) (fun c1 => ?_) (fun c1 => ?_)
  · refine J_bipush (v := (-9 : Int32)) hX dX10_panelP_19 (by decide) ?_
    exact J_sub [] rfl (hj4 _ (if_pos c1).symm)
  · have g7 := g6 c1
    have b2 := g7
    refine J_aload_n hX dX10_panelP_8 rfl 0 rfl ?_
    refine J_getR hX kf_RX10_25 dX10_panelP_9 ka_268 (by decide) rfl rh_268_3 ?_
    refine J_iload_n hX dX10_panelP_12 rfl 1 rfl ?_
    refine J_iald (j := x1.toNatClampNeg) hX dX10_panelP_13 ka_383 le_383 b2 rfl ?_
    refine J_iconst (v := (2 : Int32)) hX dX10_panelP_14 (by decide) ?_
    refine J_ishr hX dX10_panelP_15 ?_
    refine J_goto (tgt := 21) hX dX10_panelP_16 (by decide) ?_
    exact J_sub [] rfl (hj4 _ (if_neg c1).symm)
set_option maxRecDepth 100000 in
theorem c_X10_panelQ {G : GT} {ad : Nat → Nat} (x1 : Int32) (m : Mm) (h : s_X10_panelQ x1 m) : Cn G yX10_panelQ cX10_panelQ 2 (some .int) (rmN 1 21) [.ref (ad 268), .int x1] (0, 0) (fl ad m) (fun v w => v = some (.int (v_X10_panelQ x1 m)) ∧ w = fl ad m) := by
  unfold s_X10_panelQ at h
  refine Cn.of pn_RX10 (Nat.le_of_ble_eq_true rfl) (fun X hG hX hR => ?_)
  subst hG
  have hX : Cx X cX10_panelQ 2 RX10 (rmN 1 21) := hX
  show J X (0, 0) 0 [(0, .ref (ad 268)), (1, .int x1)] [] (fl ad m)
  have g3 := h
  refine J_aload_n hX dX10_panelQ_0 rfl 0 rfl ?_
  refine J_iload_n hX dX10_panelQ_1 rfl 1 rfl ?_
  refine J_callV hX km_X10_has kl_RX10_89 dX10_panelQ_2 ka_268 (by decide) [.int x1] ⟨Nat.le_of_ble_eq_true rfl, Nat.le_of_ble_eq_true rfl⟩ rfl rfl (Nat.le_of_ble_eq_true rfl) (c_X10_has x1 m) (fun v w2 hk => ?_)
  obtain ⟨rfl, rfl⟩ := hk
  show J X (0, 0) 5 [(0, .ref (ad 268)), (1, .int x1)] [.int (v_X10_has x1 m)] (fl ad m)
  have hj4 : ∀ y5 : Int32, y5 = (if (v_X10_has x1 m) = (0 : Int32) then (-9 : Int32) else ((m.1 384 x1.toNatClampNeg) >>> ((2 : Int32) &&& 31))) → J X (0, 0) 21 [] [.int y5] (fl ad m) := by
    intro y5 e_y5
    subst e_y5
    exact J_iret hX hR dX10_panelQ_21 (And.intro (congrArg (fun z => some (Value.int z)) (show (if (v_X10_has x1 m) = (0 : Int32) then (-9 : Int32) else ((m.1 384 x1.toNatClampNeg) >>> ((2 : Int32) &&& 31))) = v_X10_panelQ x1 m from rfl)) rfl)
  have g6 := g3
  refine J_if_eq (tgt := 19) hX dX10_panelQ_5 (by decide) (fun c1 => ?_) (fun c1 => ?_)
  · refine J_bipush (v := (-9 : Int32)) hX dX10_panelQ_19 (by decide) ?_
    exact J_sub [] rfl (hj4 _ (if_pos c1).symm)
  · have g7 := g6 c1
    have b2 := g7
    refine J_aload_n hX dX10_panelQ_8 rfl 0 rfl ?_
    refine J_getR hX kf_RX10_29 dX10_panelQ_9 ka_268 (by decide) rfl rh_268_4 ?_
    refine J_iload_n hX dX10_panelQ_12 rfl 1 rfl ?_
    refine J_iald (j := x1.toNatClampNeg) hX dX10_panelQ_13 ka_384 le_384 b2 rfl ?_
    refine J_iconst (v := (2 : Int32)) hX dX10_panelQ_14 (by decide) ?_
    refine J_ishr hX dX10_panelQ_15 ?_
    refine J_goto (tgt := 21) hX dX10_panelQ_16 (by decide) ?_
    exact J_sub [] rfl (hj4 _ (if_neg c1).symm)
set_option maxRecDepth 100000 in
theorem c_X10_sideOfP {G : GT} {ad : Nat → Nat} (x1 : Int32) (m : Mm) (h : s_X10_sideOfP x1 m) : Cn G yX10_sideOfP cX10_sideOfP 2 (some .int) (rmN 1 21) [.ref (ad 268), .int x1] (0, 0) (fl ad m) (fun v w => v = some (.int (v_X10_sideOfP x1 m)) ∧ w = fl ad m) := by
  unfold s_X10_sideOfP at h
  refine Cn.of pn_RX10 (Nat.le_of_ble_eq_true rfl) (fun X hG hX hR => ?_)
  subst hG
  have hX : Cx X cX10_sideOfP 2 RX10 (rmN 1 21) := hX
  show J X (0, 0) 0 [(0, .ref (ad 268)), (1, .int x1)] [] (fl ad m)
  have g3 := h
  refine J_aload_n hX dX10_sideOfP_0 rfl 0 rfl ?_
  refine J_iload_n hX dX10_sideOfP_1 rfl 1 rfl ?_
  refine J_callV hX km_X10_has kl_RX10_89 dX10_sideOfP_2 ka_268 (by decide) [.int x1] ⟨Nat.le_of_ble_eq_true rfl, Nat.le_of_ble_eq_true rfl⟩ rfl rfl (Nat.le_of_ble_eq_true rfl) (c_X10_has x1 m) (fun v w2 hk => ?_)
  obtain ⟨rfl, rfl⟩ := hk
  show J X (0, 0) 5 [(0, .ref (ad 268)), (1, .int x1)] [.int (v_X10_has x1 m)] (fl ad m)
  have hj4 : ∀ y5 : Int32, y5 = (if (v_X10_has x1 m) = (0 : Int32) then (0 : Int32) else ((m.1 383 x1.toNatClampNeg) &&& (3 : Int32))) → J X (0, 0) 20 [] [.int y5] (fl ad m) := by
    intro y5 e_y5
    subst e_y5
    exact J_iret hX hR dX10_sideOfP_20 (And.intro (congrArg (fun z => some (Value.int z)) (show (if (v_X10_has x1 m) = (0 : Int32) then (0 : Int32) else ((m.1 383 x1.toNatClampNeg) &&& (3 : Int32))) = v_X10_sideOfP x1 m from rfl)) rfl)
  have g6 := g3
  refine J_if_eq (tgt := 19) hX dX10_sideOfP_5 (by decide) (fun c1 => ?_) (fun c1 => ?_)
  · refine J_iconst (v := (0 : Int32)) hX dX10_sideOfP_19 (by decide) ?_
    exact J_sub [] rfl (hj4 _ (if_pos c1).symm)
  · have g7 := g6 c1
    have b2 := g7
    refine J_aload_n hX dX10_sideOfP_8 rfl 0 rfl ?_
    refine J_getR hX kf_RX10_25 dX10_sideOfP_9 ka_268 (by decide) rfl rh_268_3 ?_
    refine J_iload_n hX dX10_sideOfP_12 rfl 1 rfl ?_
    refine J_iald (j := x1.toNatClampNeg) hX dX10_sideOfP_13 ka_383 le_383 b2 rfl ?_
    refine J_iconst (v := (3 : Int32)) hX dX10_sideOfP_14 (by decide) ?_
    refine J_iand hX dX10_sideOfP_15 ?_
    refine J_goto (tgt := 20) hX dX10_sideOfP_16 (by decide) ?_
    exact J_sub [] rfl (hj4 _ (if_neg c1).symm)
set_option maxRecDepth 100000 in
theorem c_X0_rightEnd {G : GT} {ad : Nat → Nat} (a0 : Nat) (h0 : kap a0 = 3) (a1 : Nat) (h1 : kap a1 = 7) (m : Mm) : Cn G yX0_rightEnd cX0_rightEnd 3 (some .int) (rmN 1 21) [.ref (ad a0), .ref (ad a1)] (0, 0) (fl ad m) (fun v w => v = some (.int (v_X0_rightEnd a0 a1 m)) ∧ w = fl ad m) := by
  refine Cn.of pn_RX0 (Nat.le_of_ble_eq_true rfl) (fun X hG hX hR => ?_)
  subst hG
  have hX : Cx X cX0_rightEnd 3 RX0 (rmN 1 21) := hX
  show J X (0, 0) 0 [(0, .ref (ad a0)), (1, .ref (ad a1))] [] (fl ad m)
  refine J_aload_n hX dX0_rightEnd_0 rfl 1 rfl ?_
  refine J_getI hX kf_RX0_52 dX0_rightEnd_1 h1 (by decide) rfl ?_
  refine J_iconst (v := (1 : Int32)) hX dX0_rightEnd_4 (by decide) ?_
  refine J_iand hX dX0_rightEnd_5 ?_
  have hj3 : ∀ y4 : Int32, y4 = (if ((m.1 a1 8) &&& (1 : Int32)) = (0 : Int32) then (1 : Int32) else (0 : Int32)) → J X (0, 0) 14 [(0, .ref (ad a0)), (1, .ref (ad a1))] [.int y4] (fl ad m) := by
    intro y4 e_y4
    subst e_y4
    refine J_istore_n (lv2 := [(2, .int (if ((m.1 a1 8) &&& (1 : Int32)) = (0 : Int32) then (1 : Int32) else (0 : Int32))), (0, .ref (ad a0)), (1, .ref (ad a1))]) hX dX0_rightEnd_14 rfl (Nat.le_of_ble_eq_true rfl) rfl ?_
    refine J_aload_n hX dX0_rightEnd_15 rfl 2 rfl ?_
    refine J_getI hX kf_RX0_62 dX0_rightEnd_16 h1 (by decide) rfl ?_
    refine J_iload_n hX dX0_rightEnd_19 rfl 0 rfl ?_
    have hj5 : ∀ y6 : Int32, y6 = (if (if ((m.1 a1 8) &&& (1 : Int32)) = (0 : Int32) then (1 : Int32) else (0 : Int32)) = (0 : Int32) then (v_X3_imageHeightOf a0 (m.1 a1 7) m) else (v_X3_imageWidthOf a0 (m.1 a1 7) m)) → J X (0, 0) 42 [] [.int y6, .int (m.1 a1 9)] (fl ad m) := by
      intro y6 e_y6
      subst e_y6
      refine J_iadd hX dX0_rightEnd_42 ?_
      exact J_iret hX hR dX0_rightEnd_43 (And.intro (congrArg (fun z => some (Value.int z)) (show ((m.1 a1 9) + (if (if ((m.1 a1 8) &&& (1 : Int32)) = (0 : Int32) then (1 : Int32) else (0 : Int32)) = (0 : Int32) then (v_X3_imageHeightOf a0 (m.1 a1 7) m) else (v_X3_imageWidthOf a0 (m.1 a1 7) m))) = v_X0_rightEnd a0 a1 m from rfl)) rfl)
    refine J_if_eq (tgt := 34) hX dX0_rightEnd_20 (by decide) (fun c2 => ?_) (fun c2 => ?_)
    · refine J_aload_n hX dX0_rightEnd_34 rfl 1 rfl ?_
      refine J_aload_n hX dX0_rightEnd_35 rfl 2 rfl ?_
      refine J_getI hX kf_RX0_55 dX0_rightEnd_36 h1 (by decide) rfl ?_
      refine J_callV hX km_X3_imageHeightOf kl_RX0_68 dX0_rightEnd_39 h0 (by decide) [.int (m.1 a1 7)] ⟨Nat.le_of_ble_eq_true rfl, Nat.le_of_ble_eq_true rfl⟩ rfl rfl (Nat.le_of_ble_eq_true rfl) (c_X3_imageHeightOf a0 h0 (m.1 a1 7) m) (fun v w2 hk => ?_)
      obtain ⟨rfl, rfl⟩ := hk
      show J X (0, 0) 42 [(2, .int (if ((m.1 a1 8) &&& (1 : Int32)) = (0 : Int32) then (1 : Int32) else (0 : Int32))), (0, .ref (ad a0)), (1, .ref (ad a1))] [.int (v_X3_imageHeightOf a0 (m.1 a1 7) m), .int (m.1 a1 9)] (fl ad m)
      exact J_sub [] rfl (hj5 _ (if_pos c2).symm)
    · refine J_aload_n hX dX0_rightEnd_23 rfl 1 rfl ?_
      refine J_aload_n hX dX0_rightEnd_24 rfl 2 rfl ?_
      refine J_getI hX kf_RX0_55 dX0_rightEnd_25 h1 (by decide) rfl ?_
      refine J_callV hX km_X3_imageWidthOf kl_RX0_56 dX0_rightEnd_28 h0 (by decide) [.int (m.1 a1 7)] ⟨Nat.le_of_ble_eq_true rfl, Nat.le_of_ble_eq_true rfl⟩ rfl rfl (Nat.le_of_ble_eq_true rfl) (c_X3_imageWidthOf a0 h0 (m.1 a1 7) m) (fun v w2 hk => ?_)
      obtain ⟨rfl, rfl⟩ := hk
      show J X (0, 0) 31 [(2, .int (if ((m.1 a1 8) &&& (1 : Int32)) = (0 : Int32) then (1 : Int32) else (0 : Int32))), (0, .ref (ad a0)), (1, .ref (ad a1))] [.int (v_X3_imageWidthOf a0 (m.1 a1 7) m), .int (m.1 a1 9)] (fl ad m)
      refine J_goto (tgt := 42) hX dX0_rightEnd_31 (by decide) ?_
      exact J_sub [] rfl (hj5 _ (if_neg c2).symm)
  refine J_if_ne (tgt := 13) hX dX0_rightEnd_6 (by decide) (fun c1 => ?_) (fun c1 => ?_)
  · refine J_iconst (v := (0 : Int32)) hX dX0_rightEnd_13 (by decide) ?_
    exact J_sub [0, 1] rfl (hj3 _ (if_neg c1).symm)
  · refine J_iconst (v := (1 : Int32)) hX dX0_rightEnd_9 (by decide) ?_
    refine J_goto (tgt := 14) hX dX0_rightEnd_10 (by decide) ?_
    exact J_sub [0, 1] rfl (hj3 _ (if_pos c1).symm)
set_option maxRecDepth 100000 in
theorem c_X0_upperEnd {G : GT} {ad : Nat → Nat} (a0 : Nat) (h0 : kap a0 = 3) (a1 : Nat) (h1 : kap a1 = 7) (m : Mm) : Cn G yX0_upperEnd cX0_upperEnd 3 (some .int) (rmN 1 21) [.ref (ad a0), .ref (ad a1)] (0, 0) (fl ad m) (fun v w => v = some (.int (v_X0_upperEnd a0 a1 m)) ∧ w = fl ad m) := by
  refine Cn.of pn_RX0 (Nat.le_of_ble_eq_true rfl) (fun X hG hX hR => ?_)
  subst hG
  have hX : Cx X cX0_upperEnd 3 RX0 (rmN 1 21) := hX
  show J X (0, 0) 0 [(0, .ref (ad a0)), (1, .ref (ad a1))] [] (fl ad m)
  refine J_aload_n hX dX0_upperEnd_0 rfl 1 rfl ?_
  refine J_getI hX kf_RX0_52 dX0_upperEnd_1 h1 (by decide) rfl ?_
  refine J_iconst (v := (1 : Int32)) hX dX0_upperEnd_4 (by decide) ?_
  refine J_iand hX dX0_upperEnd_5 ?_
  have hj3 : ∀ y4 : Int32, y4 = (if ((m.1 a1 8) &&& (1 : Int32)) = (0 : Int32) then (1 : Int32) else (0 : Int32)) → J X (0, 0) 14 [(0, .ref (ad a0)), (1, .ref (ad a1))] [.int y4] (fl ad m) := by
    intro y4 e_y4
    subst e_y4
    refine J_istore_n (lv2 := [(2, .int (if ((m.1 a1 8) &&& (1 : Int32)) = (0 : Int32) then (1 : Int32) else (0 : Int32))), (0, .ref (ad a0)), (1, .ref (ad a1))]) hX dX0_upperEnd_14 rfl (Nat.le_of_ble_eq_true rfl) rfl ?_
    refine J_aload_n hX dX0_upperEnd_15 rfl 2 rfl ?_
    refine J_getI hX kf_RX0_63 dX0_upperEnd_16 h1 (by decide) rfl ?_
    refine J_iload_n hX dX0_upperEnd_19 rfl 0 rfl ?_
    have hj5 : ∀ y6 : Int32, y6 = (if (if ((m.1 a1 8) &&& (1 : Int32)) = (0 : Int32) then (1 : Int32) else (0 : Int32)) = (0 : Int32) then (v_X3_imageWidthOf a0 (m.1 a1 7) m) else (v_X3_imageHeightOf a0 (m.1 a1 7) m)) → J X (0, 0) 42 [] [.int y6, .int (m.1 a1 10)] (fl ad m) := by
      intro y6 e_y6
      subst e_y6
      refine J_iadd hX dX0_upperEnd_42 ?_
      exact J_iret hX hR dX0_upperEnd_43 (And.intro (congrArg (fun z => some (Value.int z)) (show ((m.1 a1 10) + (if (if ((m.1 a1 8) &&& (1 : Int32)) = (0 : Int32) then (1 : Int32) else (0 : Int32)) = (0 : Int32) then (v_X3_imageWidthOf a0 (m.1 a1 7) m) else (v_X3_imageHeightOf a0 (m.1 a1 7) m))) = v_X0_upperEnd a0 a1 m from rfl)) rfl)
    refine J_if_eq (tgt := 34) hX dX0_upperEnd_20 (by decide) (fun c2 => ?_) (fun c2 => ?_)
    · refine J_aload_n hX dX0_upperEnd_34 rfl 1 rfl ?_
      refine J_aload_n hX dX0_upperEnd_35 rfl 2 rfl ?_
      refine J_getI hX kf_RX0_55 dX0_upperEnd_36 h1 (by decide) rfl ?_
      refine J_callV hX km_X3_imageWidthOf kl_RX0_56 dX0_upperEnd_39 h0 (by decide) [.int (m.1 a1 7)] ⟨Nat.le_of_ble_eq_true rfl, Nat.le_of_ble_eq_true rfl⟩ rfl rfl (Nat.le_of_ble_eq_true rfl) (c_X3_imageWidthOf a0 h0 (m.1 a1 7) m) (fun v w2 hk => ?_)
      obtain ⟨rfl, rfl⟩ := hk
      show J X (0, 0) 42 [(2, .int (if ((m.1 a1 8) &&& (1 : Int32)) = (0 : Int32) then (1 : Int32) else (0 : Int32))), (0, .ref (ad a0)), (1, .ref (ad a1))] [.int (v_X3_imageWidthOf a0 (m.1 a1 7) m), .int (m.1 a1 10)] (fl ad m)
      exact J_sub [] rfl (hj5 _ (if_pos c2).symm)
    · refine J_aload_n hX dX0_upperEnd_23 rfl 1 rfl ?_
      refine J_aload_n hX dX0_upperEnd_24 rfl 2 rfl ?_
      refine J_getI hX kf_RX0_55 dX0_upperEnd_25 h1 (by decide) rfl ?_
      refine J_callV hX km_X3_imageHeightOf kl_RX0_68 dX0_upperEnd_28 h0 (by decide) [.int (m.1 a1 7)] ⟨Nat.le_of_ble_eq_true rfl, Nat.le_of_ble_eq_true rfl⟩ rfl rfl (Nat.le_of_ble_eq_true rfl) (c_X3_imageHeightOf a0 h0 (m.1 a1 7) m) (fun v w2 hk => ?_)
      obtain ⟨rfl, rfl⟩ := hk
      show J X (0, 0) 31 [(2, .int (if ((m.1 a1 8) &&& (1 : Int32)) = (0 : Int32) then (1 : Int32) else (0 : Int32))), (0, .ref (ad a0)), (1, .ref (ad a1))] [.int (v_X3_imageHeightOf a0 (m.1 a1 7) m), .int (m.1 a1 10)] (fl ad m)
      refine J_goto (tgt := 42) hX dX0_upperEnd_31 (by decide) ?_
      exact J_sub [] rfl (hj5 _ (if_neg c2).symm)
  refine J_if_ne (tgt := 13) hX dX0_upperEnd_6 (by decide) (fun c1 => ?_) (fun c1 => ?_)
  · refine J_iconst (v := (0 : Int32)) hX dX0_upperEnd_13 (by decide) ?_
    exact J_sub [0, 1] rfl (hj3 _ (if_neg c1).symm)
  · refine J_iconst (v := (1 : Int32)) hX dX0_upperEnd_9 (by decide) ?_
    refine J_goto (tgt := 14) hX dX0_upperEnd_10 (by decide) ?_
    exact J_sub [0, 1] rfl (hj3 _ (if_pos c1).symm)
set_option maxRecDepth 100000 in
theorem c_X0_reachAt {G : GT} {ad : Nat → Nat} (a0 : Nat) (h0 : kap a0 = 3) (a1 : Nat) (h1 : kap a1 = 7) (x2 : Int32) (m : Mm) : Cn G yX0_reachAt cX0_reachAt 6 (some .int) (rmN 2 43) [.ref (ad a0), .ref (ad a1), .int x2] (0, 0) (fl ad m) (fun v w => v = some (.int (v_X0_reachAt a0 a1 x2 m)) ∧ w = fl ad m) := by
  refine Cn.of pn_RX0 (Nat.le_of_ble_eq_true rfl) (fun X hG hX hR => ?_)
  subst hG
  have hX : Cx X cX0_reachAt 6 RX0 (rmN 2 43) := hX
  show J X (0, 0) 0 [(0, .ref (ad a0)), (1, .ref (ad a1)), (2, .int x2)] [] (fl ad m)
  refine J_aload_n hX dX0_reachAt_0 rfl 0 rfl ?_
  refine J_aload_n hX dX0_reachAt_1 rfl 1 rfl ?_
  refine J_callS hX km_X0_rightEnd kl_RX0_74 dX0_reachAt_2 [.ref (ad a0), .ref (ad a1)] ⟨Nat.le_of_ble_eq_true rfl, Nat.le_of_ble_eq_true rfl⟩ rfl rfl (Nat.le_of_ble_eq_true rfl) (c_X0_rightEnd a0 h0 a1 h1 m) (fun v w2 hk => ?_)
  obtain ⟨rfl, rfl⟩ := hk
  show J X (0, 0) 5 [(0, .ref (ad a0)), (1, .ref (ad a1)), (2, .int x2)] [.int (v_X0_rightEnd a0 a1 m)] (fl ad m)
  refine J_istore_n (lv2 := [(3, .int (v_X0_rightEnd a0 a1 m)), (0, .ref (ad a0)), (1, .ref (ad a1)), (2, .int x2)]) hX dX0_reachAt_5 rfl (Nat.le_of_ble_eq_true rfl) rfl ?_
  refine J_aload_n hX dX0_reachAt_6 rfl 1 rfl ?_
  refine J_aload_n hX dX0_reachAt_7 rfl 2 rfl ?_
  refine J_callS hX km_X0_upperEnd kl_RX0_78 dX0_reachAt_8 [.ref (ad a0), .ref (ad a1)] ⟨Nat.le_of_ble_eq_true rfl, Nat.le_of_ble_eq_true rfl⟩ rfl rfl (Nat.le_of_ble_eq_true rfl) (c_X0_upperEnd a0 h0 a1 h1 m) (fun v w2 hk => ?_)
  obtain ⟨rfl, rfl⟩ := hk
  show J X (0, 0) 11 [(3, .int (v_X0_rightEnd a0 a1 m)), (0, .ref (ad a0)), (1, .ref (ad a1)), (2, .int x2)] [.int (v_X0_upperEnd a0 a1 m)] (fl ad m)
  refine J_istore (lv2 := [(4, .int (v_X0_upperEnd a0 a1 m)), (3, .int (v_X0_rightEnd a0 a1 m)), (0, .ref (ad a0)), (1, .ref (ad a1)), (2, .int x2)]) hX dX0_reachAt_11 (Nat.le_of_ble_eq_true rfl) rfl ?_
  refine J_aload_n hX dX0_reachAt_13 rfl 3 rfl ?_
  refine J_iload_n hX dX0_reachAt_14 rfl 1 rfl ?_
  refine J_iload hX dX0_reachAt_15 0 rfl ?_
  refine J_callS hX km_X0_isSeen kl_RX0_81 dX0_reachAt_17 [.ref (ad a1), .int (v_X0_rightEnd a0 a1 m), .int (v_X0_upperEnd a0 a1 m)] ⟨Nat.le_of_ble_eq_true rfl, Nat.le_of_ble_eq_true rfl⟩ rfl rfl (Nat.le_of_ble_eq_true rfl) (c_X0_isSeen a1 h1 (v_X0_rightEnd a0 a1 m) (v_X0_upperEnd a0 a1 m) m) (fun v w2 hk => ?_)
  obtain ⟨rfl, rfl⟩ := hk
  show J X (0, 0) 20 [(4, .int (v_X0_upperEnd a0 a1 m)), (3, .int (v_X0_rightEnd a0 a1 m)), (0, .ref (ad a0)), (1, .ref (ad a1)), (2, .int x2)] [.int (v_X0_isSeen a1 (v_X0_rightEnd a0 a1 m) (v_X0_upperEnd a0 a1 m) m)] (fl ad m)
  refine J_if_ne (tgt := 26) hX dX0_reachAt_20 (by decide) (fun c1 => ?_) (fun c1 => ?_)
  · refine J_iload_n hX dX0_reachAt_26 rfl 4 rfl ?_
    have hj6 : ∀ y7 : Int32, y7 = (if x2 = (0 : Int32) then (-(m.1 a1 10)) else (if x2 = (1 : Int32) then ((v_X0_rightEnd a0 a1 m) - (m.1 a1 13)) else (if x2 = (2 : Int32) then ((v_X0_upperEnd a0 a1 m) - (m.1 a1 14)) else (-(m.1 a1 9))))) → J X (0, 0) 72 [] [.int y7] (fl ad m) := by
      intro y7 e_y7
      subst e_y7
      refine J_istore (lv2 := [(5, .int (if x2 = (0 : Int32) then (-(m.1 a1 10)) else (if x2 = (1 : Int32) then ((v_X0_rightEnd a0 a1 m) - (m.1 a1 13)) else (if x2 = (2 : Int32) then ((v_X0_upperEnd a0 a1 m) - (m.1 a1 14)) else (-(m.1 a1 9))))))]) hX dX0_reachAt_72 (Nat.le_of_ble_eq_true rfl) rfl ?_
      refine J_iload hX dX0_reachAt_74 0 rfl ?_
      have hj8 : ∀ y9 : Int32, y9 = (if (if x2 = (0 : Int32) then (-(m.1 a1 10)) else (if x2 = (1 : Int32) then ((v_X0_rightEnd a0 a1 m) - (m.1 a1 13)) else (if x2 = (2 : Int32) then ((v_X0_upperEnd a0 a1 m) - (m.1 a1 14)) else (-(m.1 a1 9))))) < (0 : Int32) then (-9 : Int32) else (if x2 = (0 : Int32) then (-(m.1 a1 10)) else (if x2 = (1 : Int32) then ((v_X0_rightEnd a0 a1 m) - (m.1 a1 13)) else (if x2 = (2 : Int32) then ((v_X0_upperEnd a0 a1 m) - (m.1 a1 14)) else (-(m.1 a1 9)))))) → J X (0, 0) 86 [] [.int y9] (fl ad m) := by
        intro y9 e_y9
        subst e_y9
        exact J_iret hX hR dX0_reachAt_86 (And.intro (congrArg (fun z => some (Value.int z)) (show (if (if x2 = (0 : Int32) then (-(m.1 a1 10)) else (if x2 = (1 : Int32) then ((v_X0_rightEnd a0 a1 m) - (m.1 a1 13)) else (if x2 = (2 : Int32) then ((v_X0_upperEnd a0 a1 m) - (m.1 a1 14)) else (-(m.1 a1 9))))) < (0 : Int32) then (-9 : Int32) else (if x2 = (0 : Int32) then (-(m.1 a1 10)) else (if x2 = (1 : Int32) then ((v_X0_rightEnd a0 a1 m) - (m.1 a1 13)) else (if x2 = (2 : Int32) then ((v_X0_upperEnd a0 a1 m) - (m.1 a1 14)) else (-(m.1 a1 9)))))) = v_X0_reachAt a0 a1 x2 m from (if_neg c1).symm)) rfl)
      refine J_if_lt (tgt := 84) hX dX0_reachAt_76 (by decide) (fun c5 => ?_) (fun c5 => ?_)
      · refine J_bipush (v := (-9 : Int32)) hX dX0_reachAt_84 (by decide) ?_
        exact J_sub [] rfl (hj8 _ (if_pos c5).symm)
      · refine J_iload hX dX0_reachAt_79 0 rfl ?_
        refine J_goto (tgt := 86) hX dX0_reachAt_81 (by decide) ?_
        exact J_sub [] rfl (hj8 _ (if_neg c5).symm)
    refine J_if_ne (tgt := 38) hX dX0_reachAt_27 (by decide) (fun c2 => ?_) (fun c2 => ?_)
    · refine J_iload_n hX dX0_reachAt_38 rfl 4 rfl ?_
      refine J_iconst (v := (1 : Int32)) hX dX0_reachAt_39 (by decide) ?_
      refine J_icmp_ne (tgt := 52) hX dX0_reachAt_40 (by decide) (fun c3 => ?_) (fun c3 => ?_)
      · refine J_iload_n hX dX0_reachAt_52 rfl 4 rfl ?_
        refine J_iconst (v := (2 : Int32)) hX dX0_reachAt_53 (by decide) ?_
        refine J_icmp_ne (tgt := 67) hX dX0_reachAt_54 (by decide) (fun c4 => ?_) (fun c4 => ?_)
        · refine J_aload_n hX dX0_reachAt_67 rfl 3 rfl ?_
          refine J_getI hX kf_RX0_62 dX0_reachAt_68 h1 (by decide) rfl ?_
          refine J_ineg hX dX0_reachAt_71 ?_
          exact J_sub [] rfl (hj6 _ ((if_neg c2).trans ((if_neg c3).trans (if_neg c4))).symm)
        · refine J_iload hX dX0_reachAt_57 0 rfl ?_
          refine J_aload_n hX dX0_reachAt_59 rfl 3 rfl ?_
          refine J_getI hX kf_RX0_88 dX0_reachAt_60 h1 (by decide) rfl ?_
          refine J_isub hX dX0_reachAt_63 ?_
          refine J_goto (tgt := 72) hX dX0_reachAt_64 (by decide) ?_
          exact J_sub [] rfl (hj6 _ ((if_neg c2).trans ((if_neg c3).trans (if_pos c4))).symm)
      · refine J_iload_n hX dX0_reachAt_43 rfl 1 rfl ?_
        refine J_aload_n hX dX0_reachAt_44 rfl 3 rfl ?_
        refine J_getI hX kf_RX0_85 dX0_reachAt_45 h1 (by decide) rfl ?_
        refine J_isub hX dX0_reachAt_48 ?_
        refine J_goto (tgt := 72) hX dX0_reachAt_49 (by decide) ?_
        exact J_sub [] rfl (hj6 _ ((if_neg c2).trans (if_pos c3)).symm)
    · refine J_aload_n hX dX0_reachAt_30 rfl 3 rfl ?_
      refine J_getI hX kf_RX0_63 dX0_reachAt_31 h1 (by decide) rfl ?_
      refine J_ineg hX dX0_reachAt_34 ?_
      refine J_goto (tgt := 72) hX dX0_reachAt_35 (by decide) ?_
      exact J_sub [] rfl (hj6 _ (if_pos c2).symm)
  · refine J_bipush (v := (-9 : Int32)) hX dX0_reachAt_23 (by decide) ?_
    exact J_iret hX hR dX0_reachAt_25 (And.intro (congrArg (fun z => some (Value.int z)) (show (-9 : Int32) = v_X0_reachAt a0 a1 x2 m from (if_pos c1).symm)) rfl)
set_option maxRecDepth 100000 in
theorem c_X10_sideOfQ {G : GT} {ad : Nat → Nat} (x1 : Int32) (m : Mm) (h : s_X10_sideOfQ x1 m) : Cn G yX10_sideOfQ cX10_sideOfQ 2 (some .int) (rmN 1 21) [.ref (ad 268), .int x1] (0, 0) (fl ad m) (fun v w => v = some (.int (v_X10_sideOfQ x1 m)) ∧ w = fl ad m) := by
  unfold s_X10_sideOfQ at h
  refine Cn.of pn_RX10 (Nat.le_of_ble_eq_true rfl) (fun X hG hX hR => ?_)
  subst hG
  have hX : Cx X cX10_sideOfQ 2 RX10 (rmN 1 21) := hX
  show J X (0, 0) 0 [(0, .ref (ad 268)), (1, .int x1)] [] (fl ad m)
  have g3 := h
  refine J_aload_n hX dX10_sideOfQ_0 rfl 0 rfl ?_
  refine J_iload_n hX dX10_sideOfQ_1 rfl 1 rfl ?_
  refine J_callV hX km_X10_has kl_RX10_89 dX10_sideOfQ_2 ka_268 (by decide) [.int x1] ⟨Nat.le_of_ble_eq_true rfl, Nat.le_of_ble_eq_true rfl⟩ rfl rfl (Nat.le_of_ble_eq_true rfl) (c_X10_has x1 m) (fun v w2 hk => ?_)
  obtain ⟨rfl, rfl⟩ := hk
  show J X (0, 0) 5 [(0, .ref (ad 268)), (1, .int x1)] [.int (v_X10_has x1 m)] (fl ad m)
  have hj4 : ∀ y5 : Int32, y5 = (if (v_X10_has x1 m) = (0 : Int32) then (0 : Int32) else ((m.1 384 x1.toNatClampNeg) &&& (3 : Int32))) → J X (0, 0) 20 [] [.int y5] (fl ad m) := by
    intro y5 e_y5
    subst e_y5
    exact J_iret hX hR dX10_sideOfQ_20 (And.intro (congrArg (fun z => some (Value.int z)) (show (if (v_X10_has x1 m) = (0 : Int32) then (0 : Int32) else ((m.1 384 x1.toNatClampNeg) &&& (3 : Int32))) = v_X10_sideOfQ x1 m from rfl)) rfl)
  have g6 := g3
  refine J_if_eq (tgt := 19) hX dX10_sideOfQ_5 (by decide) (fun c1 => ?_) (fun c1 => ?_)
  · refine J_iconst (v := (0 : Int32)) hX dX10_sideOfQ_19 (by decide) ?_
    exact J_sub [] rfl (hj4 _ (if_pos c1).symm)
  · have g7 := g6 c1
    have b2 := g7
    refine J_aload_n hX dX10_sideOfQ_8 rfl 0 rfl ?_
    refine J_getR hX kf_RX10_29 dX10_sideOfQ_9 ka_268 (by decide) rfl rh_268_4 ?_
    refine J_iload_n hX dX10_sideOfQ_12 rfl 1 rfl ?_
    refine J_iald (j := x1.toNatClampNeg) hX dX10_sideOfQ_13 ka_384 le_384 b2 rfl ?_
    refine J_iconst (v := (3 : Int32)) hX dX10_sideOfQ_14 (by decide) ?_
    refine J_iand hX dX10_sideOfQ_15 ?_
    refine J_goto (tgt := 20) hX dX10_sideOfQ_16 (by decide) ?_
    exact J_sub [] rfl (hj4 _ (if_neg c1).symm)
theorem kv_X5_poseAt {x1 : Int32}  : kap (v_X5_poseAt x1) = 8 := (kap_ite (fun c1 => ka_271) (fun c1 => (kap_ite (fun c2 => ka_271) (fun c2 => (ke_25 (vp_lt (vp_b (lo_2 c1) (up_2 c2 (by decide)))))))))
set_option maxRecDepth 100000 in
theorem c_X5_poseAt {G : GT} {ad : Nat → Nat} (x1 : Int32) (m : Mm) : Cn G yX5_poseAt cX5_poseAt 2 (some (.object "DieLineChecker$Pose")) (rmN 0 0) [.ref (ad 269), .int x1] (0, 0) (fl ad m) (fun v w => v = some (.ref (ad (v_X5_poseAt x1))) ∧ w = fl ad m) := by
  refine Cn.of pn_RX5 (Nat.le_of_ble_eq_true rfl) (fun X hG hX hR => ?_)
  subst hG
  have hX : Cx X cX5_poseAt 2 RX5 (rmN 0 0) := hX
  show J X (0, 0) 0 [(0, .ref (ad 269)), (1, .int x1)] [] (fl ad m)
  refine J_iload_n hX dX5_poseAt_0 rfl 1 rfl ?_
  have hj3 : ∀ y4 : Nat, y4 = (if x1 < (0 : Int32) then 271 else (if (10 : Int32) ≤ x1 then 271 else (283 + 10 * x1.toNatClampNeg))) → J X (0, 0) 23 [] [.ref (ad y4)] (fl ad m) := by
    intro y4 e_y4
    subst e_y4
    exact J_aret hX hR dX5_poseAt_23 (And.intro (congrArg (fun z => some (Value.ref (ad z))) (show (if x1 < (0 : Int32) then 271 else (if (10 : Int32) ≤ x1 then 271 else (283 + 10 * x1.toNatClampNeg))) = v_X5_poseAt x1 from rfl)) rfl)
  refine J_if_lt (tgt := 19) hX dX5_poseAt_1 (by decide) (fun c1 => ?_) (fun c1 => ?_)
  · refine J_aload_n hX dX5_poseAt_19 rfl 0 rfl ?_
    refine J_getR hX kf_RX5_22 dX5_poseAt_20 ka_269 (by decide) rfl rh_269_2 ?_
    exact J_sub [] rfl (hj3 _ (if_pos c1).symm)
  · refine J_iload_n hX dX5_poseAt_4 rfl 1 rfl ?_
    refine J_bipush (v := (10 : Int32)) hX dX5_poseAt_5 (by decide) ?_
    refine J_icmp_ge (tgt := 19) hX dX5_poseAt_7 (by decide) (fun c2 => ?_) (fun c2 => ?_)
    · refine J_aload_n hX dX5_poseAt_19 rfl 0 rfl ?_
      refine J_getR hX kf_RX5_22 dX5_poseAt_20 ka_269 (by decide) rfl rh_269_2 ?_
      exact J_sub [] rfl (hj3 _ ((if_neg c1).trans (if_pos c2)).symm)
    · refine J_aload_n hX dX5_poseAt_10 rfl 0 rfl ?_
      refine J_getR hX kf_RX5_17 dX5_poseAt_11 ka_269 (by decide) rfl rh_269_1 ?_
      refine J_iload_n hX dX5_poseAt_14 rfl 1 rfl ?_
      refine J_aald hX dX5_poseAt_15 (u := 2) (by decide) ka_270 le_270 (vp_b (lo_2 c1) (up_2 c2 (by decide))) (re_25 (vp_lt (vp_b (lo_2 c1) (up_2 c2 (by decide))))) ?_
      refine J_goto (tgt := 23) hX dX5_poseAt_16 (by decide) ?_
      exact J_sub [] rfl (hj3 _ ((if_neg c1).trans (if_neg c2)).symm)
set_option maxRecDepth 100000 in
theorem c_X10_lowOf {G : GT} {ad : Nat → Nat} (x1 : Int32) (m : Mm) (h : s_X10_lowOf x1 m) : Cn G yX10_lowOf cX10_lowOf 2 (some .int) (rmN 1 21) [.ref (ad 268), .int x1] (0, 0) (fl ad m) (fun v w => v = some (.int (v_X10_lowOf x1 m)) ∧ w = fl ad m) := by
  unfold s_X10_lowOf at h
  refine Cn.of pn_RX10 (Nat.le_of_ble_eq_true rfl) (fun X hG hX hR => ?_)
  subst hG
  have hX : Cx X cX10_lowOf 2 RX10 (rmN 1 21) := hX
  show J X (0, 0) 0 [(0, .ref (ad 268)), (1, .int x1)] [] (fl ad m)
  have g3 := h
  refine J_aload_n hX dX10_lowOf_0 rfl 0 rfl ?_
  refine J_iload_n hX dX10_lowOf_1 rfl 1 rfl ?_
  refine J_callV hX km_X10_has kl_RX10_89 dX10_lowOf_2 ka_268 (by decide) [.int x1] ⟨Nat.le_of_ble_eq_true rfl, Nat.le_of_ble_eq_true rfl⟩ rfl rfl (Nat.le_of_ble_eq_true rfl) (c_X10_has x1 m) (fun v w2 hk => ?_)
  obtain ⟨rfl, rfl⟩ := hk
  show J X (0, 0) 5 [(0, .ref (ad 268)), (1, .int x1)] [.int (v_X10_has x1 m)] (fl ad m)
  have hj4 : ∀ y5 : Int32, y5 = (if (v_X10_has x1 m) = (0 : Int32) then (0 : Int32) else (m.1 385 x1.toNatClampNeg)) → J X (0, 0) 18 [] [.int y5] (fl ad m) := by
    intro y5 e_y5
    subst e_y5
    exact J_iret hX hR dX10_lowOf_18 (And.intro (congrArg (fun z => some (Value.int z)) (show (if (v_X10_has x1 m) = (0 : Int32) then (0 : Int32) else (m.1 385 x1.toNatClampNeg)) = v_X10_lowOf x1 m from rfl)) rfl)
  have g6 := g3
  refine J_if_eq (tgt := 17) hX dX10_lowOf_5 (by decide) (fun c1 => ?_) (fun c1 => ?_)
  · refine J_iconst (v := (0 : Int32)) hX dX10_lowOf_17 (by decide) ?_
    exact J_sub [] rfl (hj4 _ (if_pos c1).symm)
  · have g7 := g6 c1
    have b2 := g7
    refine J_aload_n hX dX10_lowOf_8 rfl 0 rfl ?_
    refine J_getR hX kf_RX10_32 dX10_lowOf_9 ka_268 (by decide) rfl rh_268_5 ?_
    refine J_iload_n hX dX10_lowOf_12 rfl 1 rfl ?_
    refine J_iald (j := x1.toNatClampNeg) hX dX10_lowOf_13 ka_385 le_385 b2 rfl ?_
    refine J_goto (tgt := 18) hX dX10_lowOf_14 (by decide) ?_
    exact J_sub [] rfl (hj4 _ (if_neg c1).symm)
set_option maxRecDepth 100000 in
theorem c_X10_highOf {G : GT} {ad : Nat → Nat} (x1 : Int32) (m : Mm) (h : s_X10_highOf x1 m) : Cn G yX10_highOf cX10_highOf 2 (some .int) (rmN 1 21) [.ref (ad 268), .int x1] (0, 0) (fl ad m) (fun v w => v = some (.int (v_X10_highOf x1 m)) ∧ w = fl ad m) := by
  unfold s_X10_highOf at h
  refine Cn.of pn_RX10 (Nat.le_of_ble_eq_true rfl) (fun X hG hX hR => ?_)
  subst hG
  have hX : Cx X cX10_highOf 2 RX10 (rmN 1 21) := hX
  show J X (0, 0) 0 [(0, .ref (ad 268)), (1, .int x1)] [] (fl ad m)
  have g3 := h
  refine J_aload_n hX dX10_highOf_0 rfl 0 rfl ?_
  refine J_iload_n hX dX10_highOf_1 rfl 1 rfl ?_
  refine J_callV hX km_X10_has kl_RX10_89 dX10_highOf_2 ka_268 (by decide) [.int x1] ⟨Nat.le_of_ble_eq_true rfl, Nat.le_of_ble_eq_true rfl⟩ rfl rfl (Nat.le_of_ble_eq_true rfl) (c_X10_has x1 m) (fun v w2 hk => ?_)
  obtain ⟨rfl, rfl⟩ := hk
  show J X (0, 0) 5 [(0, .ref (ad 268)), (1, .int x1)] [.int (v_X10_has x1 m)] (fl ad m)
  have hj4 : ∀ y5 : Int32, y5 = (if (v_X10_has x1 m) = (0 : Int32) then (0 : Int32) else (m.1 386 x1.toNatClampNeg)) → J X (0, 0) 18 [] [.int y5] (fl ad m) := by
    intro y5 e_y5
    subst e_y5
    exact J_iret hX hR dX10_highOf_18 (And.intro (congrArg (fun z => some (Value.int z)) (show (if (v_X10_has x1 m) = (0 : Int32) then (0 : Int32) else (m.1 386 x1.toNatClampNeg)) = v_X10_highOf x1 m from rfl)) rfl)
  have g6 := g3
  refine J_if_eq (tgt := 17) hX dX10_highOf_5 (by decide) (fun c1 => ?_) (fun c1 => ?_)
  · refine J_iconst (v := (0 : Int32)) hX dX10_highOf_17 (by decide) ?_
    exact J_sub [] rfl (hj4 _ (if_pos c1).symm)
  · have g7 := g6 c1
    have b2 := g7
    refine J_aload_n hX dX10_highOf_8 rfl 0 rfl ?_
    refine J_getR hX kf_RX10_35 dX10_highOf_9 ka_268 (by decide) rfl rh_268_6 ?_
    refine J_iload_n hX dX10_highOf_12 rfl 1 rfl ?_
    refine J_iald (j := x1.toNatClampNeg) hX dX10_highOf_13 ka_386 le_386 b2 rfl ?_
    refine J_goto (tgt := 18) hX dX10_highOf_14 (by decide) ?_
    exact J_sub [] rfl (hj4 _ (if_neg c1).symm)
set_option maxRecDepth 100000 in
theorem c_X8_pointX {G : GT} {ad : Nat → Nat} (a0 : Nat) (h0 : kap a0 = 8) (x1 : Int32) (x2 : Int32) (m : Mm) : Cn G yX8_pointX cX8_pointX 3 (some .int) (rmN 1 20) [.ref (ad a0), .int x1, .int x2] (0, 0) (fl ad m) (fun v w => v = some (.int (v_X8_pointX a0 x1 x2 m)) ∧ w = fl ad m) := by
  refine Cn.of pn_RX8 (Nat.le_of_ble_eq_true rfl) (fun X hG hX hR => ?_)
  subst hG
  have hX : Cx X cX8_pointX 3 RX8 (rmN 1 20) := hX
  show J X (0, 0) 0 [(0, .ref (ad a0)), (1, .int x1), (2, .int x2)] [] (fl ad m)
  refine J_iload_n hX dX8_pointX_0 rfl 1 rfl ?_
  refine J_if_lt (tgt := 14) hX dX8_pointX_1 (by decide) (fun c1 => ?_) (fun c1 => ?_)
  · refine J_iconst (v := (0 : Int32)) hX dX8_pointX_14 (by decide) ?_
    exact J_iret hX hR dX8_pointX_15 (And.intro (congrArg (fun z => some (Value.int z)) (show (0 : Int32) = v_X8_pointX a0 x1 x2 m from (if_pos c1).symm)) rfl)
  · refine J_iload_n hX dX8_pointX_4 rfl 1 rfl ?_
    refine J_iconst (v := (3 : Int32)) hX dX8_pointX_5 (by decide) ?_
    refine J_icmp_gt (tgt := 14) hX dX8_pointX_6 (by decide) (fun c2 => ?_) (fun c2 => ?_)
    · refine J_iconst (v := (0 : Int32)) hX dX8_pointX_14 (by decide) ?_
      exact J_iret hX hR dX8_pointX_15 (And.intro (congrArg (fun z => some (Value.int z)) (show (0 : Int32) = v_X8_pointX a0 x1 x2 m from ((if_neg c1).trans (if_pos c2)).symm)) rfl)
    · refine J_iload_n hX dX8_pointX_9 rfl 1 rfl ?_
      refine J_iconst (v := (3 : Int32)) hX dX8_pointX_10 (by decide) ?_
      refine J_icmp_ne (tgt := 16) hX dX8_pointX_11 (by decide) (fun c3 => ?_) (fun c3 => ?_)
      · refine J_iload_n hX dX8_pointX_16 rfl 1 rfl ?_
        refine J_iconst (v := (1 : Int32)) hX dX8_pointX_17 (by decide) ?_
        have hj5 : ∀ y6 : Int32, y6 = (if x1 = (1 : Int32) then (m.1 a0 10) else (ab32 (x2 - (m.1 (a0 + 9) x1.toNatClampNeg)))) → J X (0, 0) 39 [] [.int y6] (fl ad m) := by
          intro y6 e_y6
          subst e_y6
          exact J_iret hX hR dX8_pointX_39 (And.intro (congrArg (fun z => some (Value.int z)) (show (if x1 = (1 : Int32) then (m.1 a0 10) else (ab32 (x2 - (m.1 (a0 + 9) x1.toNatClampNeg)))) = v_X8_pointX a0 x1 x2 m from ((if_neg c1).trans ((if_neg c2).trans (if_neg c3))).symm)) rfl)
        refine J_icmp_ne (tgt := 28) hX dX8_pointX_18 (by decide) (fun c4 => ?_) (fun c4 => ?_)
        · refine J_iload_n hX dX8_pointX_28 rfl 2 rfl ?_
          refine J_aload_n hX dX8_pointX_29 rfl 0 rfl ?_
          refine J_getR hX kf_RX8_34 dX8_pointX_30 h0 (by decide) rfl (ro_8_13 h0) ?_
          refine J_iload_n hX dX8_pointX_33 rfl 1 rfl ?_
          refine J_iald (j := x1.toNatClampNeg) hX dX8_pointX_34 (ko_8_13 h0) (lo_8_13 h0) (vp_b (lo_2 c1) (up_3 c2 (by decide))) rfl ?_
          refine J_isub hX dX8_pointX_35 ?_
          refine J_mabs hX kl_RX8_97 dX8_pointX_36 (Nat.le_of_ble_eq_true rfl) (Nat.le_of_ble_eq_true rfl) ⟨Nat.le_of_ble_eq_true rfl, Nat.le_of_ble_eq_true rfl⟩ ?_
          exact J_sub [] rfl (hj5 _ (if_neg c4).symm)
        · refine J_aload_n hX dX8_pointX_21 rfl 0 rfl ?_
          refine J_getI hX kf_RX8_52 dX8_pointX_22 h0 (by decide) rfl ?_
          refine J_goto (tgt := 39) hX dX8_pointX_25 (by decide) ?_
          exact J_sub [] rfl (hj5 _ (if_pos c4).symm)
      · refine J_iconst (v := (0 : Int32)) hX dX8_pointX_14 (by decide) ?_
        exact J_iret hX hR dX8_pointX_15 (And.intro (congrArg (fun z => some (Value.int z)) (show (0 : Int32) = v_X8_pointX a0 x1 x2 m from ((if_neg c1).trans ((if_neg c2).trans (if_pos c3))).symm)) rfl)
set_option maxRecDepth 100000 in
theorem c_X8_pointY {G : GT} {ad : Nat → Nat} (a0 : Nat) (h0 : kap a0 = 8) (x1 : Int32) (x2 : Int32) (m : Mm) (h : s_X8_pointY a0 x1 x2) : Cn G yX8_pointY cX8_pointY 3 (some .int) (rmN 1 20) [.ref (ad a0), .int x1, .int x2] (0, 0) (fl ad m) (fun v w => v = some (.int (v_X8_pointY a0 x1 x2 m)) ∧ w = fl ad m) := by
  unfold s_X8_pointY at h
  refine Cn.of pn_RX8 (Nat.le_of_ble_eq_true rfl) (fun X hG hX hR => ?_)
  subst hG
  have hX : Cx X cX8_pointY 3 RX8 (rmN 1 20) := hX
  show J X (0, 0) 0 [(0, .ref (ad a0)), (1, .int x1), (2, .int x2)] [] (fl ad m)
  have g5 := h
  refine J_iload_n hX dX8_pointY_0 rfl 1 rfl ?_
  refine J_if_le (tgt := 9) hX dX8_pointY_1 (by decide) (fun c1 => ?_) (fun c1 => ?_)
  · refine J_iconst (v := (0 : Int32)) hX dX8_pointY_9 (by decide) ?_
    exact J_iret hX hR dX8_pointY_10 (And.intro (congrArg (fun z => some (Value.int z)) (show (0 : Int32) = v_X8_pointY a0 x1 x2 m from (if_pos c1).symm)) rfl)
  · have g6 := g5 c1
    have g7 := g6
    refine J_iload_n hX dX8_pointY_4 rfl 1 rfl ?_
    refine J_iconst (v := (3 : Int32)) hX dX8_pointY_5 (by decide) ?_
    refine J_icmp_le (tgt := 11) hX dX8_pointY_6 (by decide) (fun c2 => ?_) (fun c2 => ?_)
    · have g8 := g7 c2
      have g9 := g8
      refine J_iload_n hX dX8_pointY_11 rfl 1 rfl ?_
      refine J_iconst (v := (2 : Int32)) hX dX8_pointY_12 (by decide) ?_
      have hj10 : ∀ y11 : Int32, y11 = (if x1 = (2 : Int32) then (m.1 a0 11) else (ab32 (x2 - (m.1 (a0 + 9) x1.toNatClampNeg)))) → J X (0, 0) 34 [] [.int y11] (fl ad m) := by
        intro y11 e_y11
        subst e_y11
        exact J_iret hX hR dX8_pointY_34 (And.intro (congrArg (fun z => some (Value.int z)) (show (if x1 = (2 : Int32) then (m.1 a0 11) else (ab32 (x2 - (m.1 (a0 + 9) x1.toNatClampNeg)))) = v_X8_pointY a0 x1 x2 m from ((if_neg c1).trans (if_pos c2)).symm)) rfl)
      have g12 := g9
      refine J_icmp_ne (tgt := 23) hX dX8_pointY_13 (by decide) (fun c3 => ?_) (fun c3 => ?_)
      · have g13 := g12 c3
        have b4 := g13
        refine J_iload_n hX dX8_pointY_23 rfl 2 rfl ?_
        refine J_aload_n hX dX8_pointY_24 rfl 0 rfl ?_
        refine J_getR hX kf_RX8_34 dX8_pointY_25 h0 (by decide) rfl (ro_8_13 h0) ?_
        refine J_iload_n hX dX8_pointY_28 rfl 1 rfl ?_
        refine J_iald (j := x1.toNatClampNeg) hX dX8_pointY_29 (ko_8_13 h0) (lo_8_13 h0) b4 rfl ?_
        refine J_isub hX dX8_pointY_30 ?_
        refine J_mabs hX kl_RX8_97 dX8_pointY_31 (Nat.le_of_ble_eq_true rfl) (Nat.le_of_ble_eq_true rfl) ⟨Nat.le_of_ble_eq_true rfl, Nat.le_of_ble_eq_true rfl⟩ ?_
        exact J_sub [] rfl (hj10 _ (if_neg c3).symm)
      · refine J_aload_n hX dX8_pointY_16 rfl 0 rfl ?_
        refine J_getI hX kf_RX8_56 dX8_pointY_17 h0 (by decide) rfl ?_
        refine J_goto (tgt := 34) hX dX8_pointY_20 (by decide) ?_
        exact J_sub [] rfl (hj10 _ (if_pos c3).symm)
    · refine J_iconst (v := (0 : Int32)) hX dX8_pointY_9 (by decide) ?_
      exact J_iret hX hR dX8_pointY_10 (And.intro (congrArg (fun z => some (Value.int z)) (show (0 : Int32) = v_X8_pointY a0 x1 x2 m from ((if_neg c1).trans (if_neg c2)).symm)) rfl)
set_option maxRecDepth 100000 in
theorem c_X0_takePoint {G : GT} {ad : Nat → Nat} (x1 : Int32) (x2 : Int32) (x3 : Int32) (m : Mm) (K : Mm → Prop) (h : wp_X0_takePoint x1 x2 x3 m K) : Cn G yX0_takePoint cX0_takePoint 4 none (rmN 0 0) [.ref (ad 267), .int x1, .int x2, .int x3] (0, 0) (fl ad m) (kV ad K) := by
  unfold wp_X0_takePoint at h
  refine Cn.of pn_RX0 (Nat.le_of_ble_eq_true rfl) (fun X hG hX hR => ?_)
  subst hG
  have hX : Cx X cX0_takePoint 4 RX0 (rmN 0 0) := hX
  show J X (0, 0) 0 [(0, .ref (ad 267)), (1, .int x1), (2, .int x2), (3, .int x3)] [] (fl ad m)
  refine J_iload_n hX dX0_takePoint_0 rfl 1 rfl ?_
  refine J_if_lt (tgt := 27) hX dX0_takePoint_1 (by decide) (fun c1 => ?_) (fun c1 => ?_)
  · replace h := Eq.mp (if_pos c1) h
    exact J_vret hX hR dX0_takePoint_27 ⟨_, rfl, rfl, h⟩
  · replace h := Eq.mp (if_neg c1) h
    refine J_iload_n hX dX0_takePoint_4 rfl 1 rfl ?_
    refine J_aload_n hX dX0_takePoint_5 rfl 0 rfl ?_
    refine J_getR hX kf_RX0_39 dX0_takePoint_6 ka_267 (by decide) rfl rh_267_7 ?_
    refine J_alen (v := (6 : Int32)) hX dX0_takePoint_9 ka_391 (by decide) le_391 rfl ?_
    refine J_icmp_ge (tgt := 27) hX dX0_takePoint_10 (by decide) (fun c2 => ?_) (fun c2 => ?_)
    · replace h := Eq.mp (if_pos c2) h
      exact J_vret hX hR dX0_takePoint_27 ⟨_, rfl, rfl, h⟩
    · replace h := Eq.mp (if_neg c2) h
      refine J_aload_n hX dX0_takePoint_13 rfl 0 rfl ?_
      refine J_getR hX kf_RX0_39 dX0_takePoint_14 ka_267 (by decide) rfl rh_267_7 ?_
      refine J_iload_n hX dX0_takePoint_17 rfl 1 rfl ?_
      refine J_iload_n hX dX0_takePoint_18 rfl 2 rfl ?_
      refine J_iast (j := x1.toNatClampNeg) hX dX0_takePoint_19 ka_391 le_391 (vp_b (lo_2 c1) (up_2 c2 (by decide))) rfl ?_
      refine J_nmM (fun m3 e_m3 => ?_)
      replace h := h m3 e_m3
      refine J_aload_n hX dX0_takePoint_20 rfl 0 rfl ?_
      refine J_getR hX kf_RX0_43 dX0_takePoint_21 ka_267 (by decide) rfl rh_267_8 ?_
      refine J_iload_n hX dX0_takePoint_24 rfl 1 rfl ?_
      refine J_iload_n hX dX0_takePoint_25 rfl 3 rfl ?_
      refine J_iast (j := x1.toNatClampNeg) hX dX0_takePoint_26 ka_392 le_392 (vp_b (lo_2 c1) (up_2 c2 (by decide))) rfl ?_
      refine J_nmM (fun m4 e_m4 => ?_)
      replace h := h m4 e_m4
      exact J_vret hX hR dX0_takePoint_27 ⟨_, rfl, rfl, h⟩
set_option maxRecDepth 100000 in
theorem c_X0_takePoints {G : GT} {ad : Nat → Nat} (x1 : Int32) (m : Mm) (K : Mm → Prop) (h : wp_X0_takePoints x1 m K) : Cn G yX0_takePoints cX0_takePoints 8 none (rmN 2 42) [.ref (ad 267), .int x1] (0, 0) (fl ad m) (kV ad K) := by
  unfold wp_X0_takePoints at h
  refine Cn.of pn_RX0 (Nat.le_of_ble_eq_true rfl) (fun X hG hX hR => ?_)
  subst hG
  have hX : Cx X cX0_takePoints 8 RX0 (rmN 2 42) := hX
  show J X (0, 0) 0 [(0, .ref (ad 267)), (1, .int x1)] [] (fl ad m)
  refine J_aload_n hX dX0_takePoints_0 rfl 0 rfl ?_
  refine J_getR hX kf_RX0_38 dX0_takePoints_1 ka_267 (by decide) rfl rh_267_6 ?_
  refine J_aload_n hX dX0_takePoints_4 rfl 0 rfl ?_
  refine J_getR hX kf_RX0_30 dX0_takePoints_5 ka_267 (by decide) rfl rh_267_5 ?_
  refine J_iload_n hX dX0_takePoints_8 rfl 1 rfl ?_
  obtain ⟨b1, h⟩ := h
  refine J_callV hX km_X10_panelP kl_RX0_91 dX0_takePoints_9 ka_268 (by decide) [.int x1] ⟨Nat.le_of_ble_eq_true rfl, Nat.le_of_ble_eq_true rfl⟩ rfl rfl (Nat.le_of_ble_eq_true rfl) (c_X10_panelP x1 m b1) (fun v w2 hk => ?_)
  obtain ⟨rfl, rfl⟩ := hk
  show J X (0, 0) 12 [(0, .ref (ad 267)), (1, .int x1)] [.int (v_X10_panelP x1 m), .ref (ad 269)] (fl ad m)
  refine J_callV hX km_X5_poseAt kl_RX0_94 dX0_takePoints_12 ka_269 (by decide) [.int (v_X10_panelP x1 m)] ⟨Nat.le_of_ble_eq_true rfl, Nat.le_of_ble_eq_true rfl⟩ rfl rfl (Nat.le_of_ble_eq_true rfl) (c_X5_poseAt (v_X10_panelP x1 m) m) (fun v w2 hk => ?_)
  obtain ⟨rfl, rfl⟩ := hk
  show J X (0, 0) 15 [(0, .ref (ad 267)), (1, .int x1)] [.ref (ad (v_X5_poseAt (v_X10_panelP x1 m)))] (fl ad m)
  refine J_astore_n (lv2 := [(2, .ref (ad (v_X5_poseAt (v_X10_panelP x1 m)))), (0, .ref (ad 267)), (1, .int x1)]) hX dX0_takePoints_15 rfl (Nat.le_of_ble_eq_true rfl) rfl ?_
  refine J_aload_n hX dX0_takePoints_16 rfl 1 rfl ?_
  refine J_getR hX kf_RX0_38 dX0_takePoints_17 ka_267 (by decide) rfl rh_267_6 ?_
  refine J_aload_n hX dX0_takePoints_20 rfl 1 rfl ?_
  refine J_getR hX kf_RX0_30 dX0_takePoints_21 ka_267 (by decide) rfl rh_267_5 ?_
  refine J_iload_n hX dX0_takePoints_24 rfl 2 rfl ?_
  obtain ⟨b2, h⟩ := h
  refine J_callV hX km_X10_panelQ kl_RX0_100 dX0_takePoints_25 ka_268 (by decide) [.int x1] ⟨Nat.le_of_ble_eq_true rfl, Nat.le_of_ble_eq_true rfl⟩ rfl rfl (Nat.le_of_ble_eq_true rfl) (c_X10_panelQ x1 m b2) (fun v w2 hk => ?_)
  obtain ⟨rfl, rfl⟩ := hk
  show J X (0, 0) 28 [(2, .ref (ad (v_X5_poseAt (v_X10_panelP x1 m)))), (0, .ref (ad 267)), (1, .int x1)] [.int (v_X10_panelQ x1 m), .ref (ad 269)] (fl ad m)
  refine J_callV hX km_X5_poseAt kl_RX0_94 dX0_takePoints_28 ka_269 (by decide) [.int (v_X10_panelQ x1 m)] ⟨Nat.le_of_ble_eq_true rfl, Nat.le_of_ble_eq_true rfl⟩ rfl rfl (Nat.le_of_ble_eq_true rfl) (c_X5_poseAt (v_X10_panelQ x1 m) m) (fun v w2 hk => ?_)
  obtain ⟨rfl, rfl⟩ := hk
  show J X (0, 0) 31 [(2, .ref (ad (v_X5_poseAt (v_X10_panelP x1 m)))), (0, .ref (ad 267)), (1, .int x1)] [.ref (ad (v_X5_poseAt (v_X10_panelQ x1 m)))] (fl ad m)
  refine J_astore_n (lv2 := [(3, .ref (ad (v_X5_poseAt (v_X10_panelQ x1 m)))), (2, .ref (ad (v_X5_poseAt (v_X10_panelP x1 m)))), (0, .ref (ad 267)), (1, .int x1)]) hX dX0_takePoints_31 rfl (Nat.le_of_ble_eq_true rfl) rfl ?_
  refine J_aload_n hX dX0_takePoints_32 rfl 2 rfl ?_
  refine J_getR hX kf_RX0_30 dX0_takePoints_33 ka_267 (by decide) rfl rh_267_5 ?_
  refine J_iload_n hX dX0_takePoints_36 rfl 3 rfl ?_
  obtain ⟨b3, h⟩ := h
  refine J_callV hX km_X10_sideOfP kl_RX0_103 dX0_takePoints_37 ka_268 (by decide) [.int x1] ⟨Nat.le_of_ble_eq_true rfl, Nat.le_of_ble_eq_true rfl⟩ rfl rfl (Nat.le_of_ble_eq_true rfl) (c_X10_sideOfP x1 m b3) (fun v w2 hk => ?_)
  obtain ⟨rfl, rfl⟩ := hk
  show J X (0, 0) 40 [(3, .ref (ad (v_X5_poseAt (v_X10_panelQ x1 m)))), (2, .ref (ad (v_X5_poseAt (v_X10_panelP x1 m)))), (0, .ref (ad 267)), (1, .int x1)] [.int (v_X10_sideOfP x1 m)] (fl ad m)
  refine J_iconst (v := (3 : Int32)) hX dX0_takePoints_40 (by decide) ?_
  refine J_iand hX dX0_takePoints_41 ?_
  refine J_nmI (fun y4 e_y4 => ?_)
  replace h := h y4 e_y4
  refine J_istore (lv2 := [(4, .int y4), (3, .ref (ad (v_X5_poseAt (v_X10_panelQ x1 m)))), (2, .ref (ad (v_X5_poseAt (v_X10_panelP x1 m)))), (0, .ref (ad 267)), (1, .int x1)]) hX dX0_takePoints_42 (Nat.le_of_ble_eq_true rfl) rfl ?_
  refine J_aload_n hX dX0_takePoints_44 rfl 3 rfl ?_
  refine J_getR hX kf_RX0_30 dX0_takePoints_45 ka_267 (by decide) rfl rh_267_5 ?_
  refine J_iload_n hX dX0_takePoints_48 rfl 4 rfl ?_
  obtain ⟨b5, h⟩ := h
  refine J_callV hX km_X10_sideOfQ kl_RX0_106 dX0_takePoints_49 ka_268 (by decide) [.int x1] ⟨Nat.le_of_ble_eq_true rfl, Nat.le_of_ble_eq_true rfl⟩ rfl rfl (Nat.le_of_ble_eq_true rfl) (c_X10_sideOfQ x1 m b5) (fun v w2 hk => ?_)
  obtain ⟨rfl, rfl⟩ := hk
  show J X (0, 0) 52 [(4, .int y4), (3, .ref (ad (v_X5_poseAt (v_X10_panelQ x1 m)))), (2, .ref (ad (v_X5_poseAt (v_X10_panelP x1 m)))), (0, .ref (ad 267)), (1, .int x1)] [.int (v_X10_sideOfQ x1 m)] (fl ad m)
  refine J_iconst (v := (3 : Int32)) hX dX0_takePoints_52 (by decide) ?_
  refine J_iand hX dX0_takePoints_53 ?_
  refine J_nmI (fun y6 e_y6 => ?_)
  replace h := h y6 e_y6
  refine J_istore (lv2 := [(5, .int y6), (4, .int y4), (3, .ref (ad (v_X5_poseAt (v_X10_panelQ x1 m)))), (2, .ref (ad (v_X5_poseAt (v_X10_panelP x1 m)))), (0, .ref (ad 267)), (1, .int x1)]) hX dX0_takePoints_54 (Nat.le_of_ble_eq_true rfl) rfl ?_
  refine J_aload_n hX dX0_takePoints_56 rfl 4 rfl ?_
  refine J_getR hX kf_RX0_30 dX0_takePoints_57 ka_267 (by decide) rfl rh_267_5 ?_
  refine J_iload_n hX dX0_takePoints_60 rfl 5 rfl ?_
  obtain ⟨b7, h⟩ := h
  refine J_callV hX km_X10_lowOf kl_RX0_109 dX0_takePoints_61 ka_268 (by decide) [.int x1] ⟨Nat.le_of_ble_eq_true rfl, Nat.le_of_ble_eq_true rfl⟩ rfl rfl (Nat.le_of_ble_eq_true rfl) (c_X10_lowOf x1 m b7) (fun v w2 hk => ?_)
  obtain ⟨rfl, rfl⟩ := hk
  show J X (0, 0) 64 [(5, .int y6), (4, .int y4), (3, .ref (ad (v_X5_poseAt (v_X10_panelQ x1 m)))), (2, .ref (ad (v_X5_poseAt (v_X10_panelP x1 m)))), (0, .ref (ad 267)), (1, .int x1)] [.int (v_X10_lowOf x1 m)] (fl ad m)
  refine J_nmI (fun y8 e_y8 => ?_)
  replace h := h y8 e_y8
  refine J_istore (lv2 := [(6, .int y8), (5, .int y6), (4, .int y4), (3, .ref (ad (v_X5_poseAt (v_X10_panelQ x1 m)))), (2, .ref (ad (v_X5_poseAt (v_X10_panelP x1 m)))), (0, .ref (ad 267)), (1, .int x1)]) hX dX0_takePoints_64 (Nat.le_of_ble_eq_true rfl) rfl ?_
  refine J_aload_n hX dX0_takePoints_66 rfl 5 rfl ?_
  refine J_getR hX kf_RX0_30 dX0_takePoints_67 ka_267 (by decide) rfl rh_267_5 ?_
  refine J_iload_n hX dX0_takePoints_70 rfl 6 rfl ?_
  obtain ⟨b9, h⟩ := h
  refine J_callV hX km_X10_highOf kl_RX0_112 dX0_takePoints_71 ka_268 (by decide) [.int x1] ⟨Nat.le_of_ble_eq_true rfl, Nat.le_of_ble_eq_true rfl⟩ rfl rfl (Nat.le_of_ble_eq_true rfl) (c_X10_highOf x1 m b9) (fun v w2 hk => ?_)
  obtain ⟨rfl, rfl⟩ := hk
  show J X (0, 0) 74 [(6, .int y8), (5, .int y6), (4, .int y4), (3, .ref (ad (v_X5_poseAt (v_X10_panelQ x1 m)))), (2, .ref (ad (v_X5_poseAt (v_X10_panelP x1 m)))), (0, .ref (ad 267)), (1, .int x1)] [.int (v_X10_highOf x1 m)] (fl ad m)
  refine J_nmI (fun y10 e_y10 => ?_)
  replace h := h y10 e_y10
  refine J_istore (lv2 := [(7, .int y10), (6, .int y8), (5, .int y6), (4, .int y4), (3, .ref (ad (v_X5_poseAt (v_X10_panelQ x1 m)))), (2, .ref (ad (v_X5_poseAt (v_X10_panelP x1 m)))), (0, .ref (ad 267)), (1, .int x1)]) hX dX0_takePoints_74 (Nat.le_of_ble_eq_true rfl) rfl ?_
  refine J_aload_n hX dX0_takePoints_76 rfl 6 rfl ?_
  refine J_iconst (v := (0 : Int32)) hX dX0_takePoints_77 (by decide) ?_
  refine J_aload_n hX dX0_takePoints_78 rfl 5 rfl ?_
  refine J_iload hX dX0_takePoints_79 3 rfl ?_
  refine J_iload hX dX0_takePoints_81 1 rfl ?_
  refine J_callV hX km_X8_pointX kl_RX0_115 dX0_takePoints_83 kv_X5_poseAt (by decide) [.int y4, .int y8] ⟨Nat.le_of_ble_eq_true rfl, Nat.le_of_ble_eq_true rfl⟩ rfl rfl (Nat.le_of_ble_eq_true rfl) (c_X8_pointX (v_X5_poseAt (v_X10_panelP x1 m)) kv_X5_poseAt y4 y8 m) (fun v w2 hk => ?_)
  obtain ⟨rfl, rfl⟩ := hk
  show J X (0, 0) 86 [(7, .int y10), (6, .int y8), (5, .int y6), (4, .int y4), (3, .ref (ad (v_X5_poseAt (v_X10_panelQ x1 m)))), (2, .ref (ad (v_X5_poseAt (v_X10_panelP x1 m)))), (0, .ref (ad 267)), (1, .int x1)] [.int (v_X8_pointX (v_X5_poseAt (v_X10_panelP x1 m)) y4 y8 m), .int (0 : Int32), .ref (ad 267)] (fl ad m)
  refine J_aload_n hX dX0_takePoints_86 rfl 5 rfl ?_
  refine J_iload hX dX0_takePoints_87 3 rfl ?_
  refine J_iload hX dX0_takePoints_89 1 rfl ?_
  obtain ⟨b11, h⟩ := h
  refine J_callV hX km_X8_pointY kl_RX0_120 dX0_takePoints_91 kv_X5_poseAt (by decide) [.int y4, .int y8] ⟨Nat.le_of_ble_eq_true rfl, Nat.le_of_ble_eq_true rfl⟩ rfl rfl (Nat.le_of_ble_eq_true rfl) (c_X8_pointY (v_X5_poseAt (v_X10_panelP x1 m)) kv_X5_poseAt y4 y8 m b11) (fun v w2 hk => ?_)
  obtain ⟨rfl, rfl⟩ := hk
  show J X (0, 0) 94 [(7, .int y10), (6, .int y8), (5, .int y6), (4, .int y4), (3, .ref (ad (v_X5_poseAt (v_X10_panelQ x1 m)))), (2, .ref (ad (v_X5_poseAt (v_X10_panelP x1 m)))), (0, .ref (ad 267)), (1, .int x1)] [.int (v_X8_pointY (v_X5_poseAt (v_X10_panelP x1 m)) y4 y8 m), .int (v_X8_pointX (v_X5_poseAt (v_X10_panelP x1 m)) y4 y8 m), .int (0 : Int32), .ref (ad 267)] (fl ad m)
  refine J_callV hX km_X0_takePoint kl_RX0_122 dX0_takePoints_94 ka_267 (by decide) [.int (0 : Int32), .int (v_X8_pointX (v_X5_poseAt (v_X10_panelP x1 m)) y4 y8 m), .int (v_X8_pointY (v_X5_poseAt (v_X10_panelP x1 m)) y4 y8 m)] ⟨Nat.le_of_ble_eq_true rfl, Nat.le_of_ble_eq_true rfl⟩ rfl rfl (Nat.le_of_ble_eq_true rfl) (c_X0_takePoint (0 : Int32) (v_X8_pointX (v_X5_poseAt (v_X10_panelP x1 m)) y4 y8 m) (v_X8_pointY (v_X5_poseAt (v_X10_panelP x1 m)) y4 y8 m) m _ h) (fun v w2 hk => ?_)
  obtain ⟨m12, rfl, rfl, h⟩ := hk
  show J X (0, 0) 97 [(7, .int y10), (6, .int y8), (5, .int y6), (4, .int y4), (3, .ref (ad (v_X5_poseAt (v_X10_panelQ x1 m)))), (2, .ref (ad (v_X5_poseAt (v_X10_panelP x1 m)))), (0, .ref (ad 267)), (1, .int x1)] [] (fl ad m12)
  refine J_aload_n hX dX0_takePoints_97 rfl 6 rfl ?_
  refine J_iconst (v := (1 : Int32)) hX dX0_takePoints_98 (by decide) ?_
  refine J_aload_n hX dX0_takePoints_99 rfl 5 rfl ?_
  refine J_iload hX dX0_takePoints_100 3 rfl ?_
  refine J_iload hX dX0_takePoints_102 0 rfl ?_
  refine J_callV hX km_X8_pointX kl_RX0_115 dX0_takePoints_104 kv_X5_poseAt (by decide) [.int y4, .int y10] ⟨Nat.le_of_ble_eq_true rfl, Nat.le_of_ble_eq_true rfl⟩ rfl rfl (Nat.le_of_ble_eq_true rfl) (c_X8_pointX (v_X5_poseAt (v_X10_panelP x1 m)) kv_X5_poseAt y4 y10 m12) (fun v w2 hk => ?_)
  obtain ⟨rfl, rfl⟩ := hk
  show J X (0, 0) 107 [(7, .int y10), (6, .int y8), (5, .int y6), (4, .int y4), (3, .ref (ad (v_X5_poseAt (v_X10_panelQ x1 m)))), (2, .ref (ad (v_X5_poseAt (v_X10_panelP x1 m)))), (0, .ref (ad 267)), (1, .int x1)] [.int (v_X8_pointX (v_X5_poseAt (v_X10_panelP x1 m)) y4 y10 m12), .int (1 : Int32), .ref (ad 267)] (fl ad m12)
  refine J_aload_n hX dX0_takePoints_107 rfl 5 rfl ?_
  refine J_iload hX dX0_takePoints_108 3 rfl ?_
  refine J_iload hX dX0_takePoints_110 0 rfl ?_
  obtain ⟨b13, h⟩ := h
  refine J_callV hX km_X8_pointY kl_RX0_120 dX0_takePoints_112 kv_X5_poseAt (by decide) [.int y4, .int y10] ⟨Nat.le_of_ble_eq_true rfl, Nat.le_of_ble_eq_true rfl⟩ rfl rfl (Nat.le_of_ble_eq_true rfl) (c_X8_pointY (v_X5_poseAt (v_X10_panelP x1 m)) kv_X5_poseAt y4 y10 m12 b13) (fun v w2 hk => ?_)
  obtain ⟨rfl, rfl⟩ := hk
  show J X (0, 0) 115 [(7, .int y10), (6, .int y8), (5, .int y6), (4, .int y4), (3, .ref (ad (v_X5_poseAt (v_X10_panelQ x1 m)))), (2, .ref (ad (v_X5_poseAt (v_X10_panelP x1 m)))), (0, .ref (ad 267)), (1, .int x1)] [.int (v_X8_pointY (v_X5_poseAt (v_X10_panelP x1 m)) y4 y10 m12), .int (v_X8_pointX (v_X5_poseAt (v_X10_panelP x1 m)) y4 y10 m12), .int (1 : Int32), .ref (ad 267)] (fl ad m12)
  refine J_callV hX km_X0_takePoint kl_RX0_122 dX0_takePoints_115 ka_267 (by decide) [.int (1 : Int32), .int (v_X8_pointX (v_X5_poseAt (v_X10_panelP x1 m)) y4 y10 m12), .int (v_X8_pointY (v_X5_poseAt (v_X10_panelP x1 m)) y4 y10 m12)] ⟨Nat.le_of_ble_eq_true rfl, Nat.le_of_ble_eq_true rfl⟩ rfl rfl (Nat.le_of_ble_eq_true rfl) (c_X0_takePoint (1 : Int32) (v_X8_pointX (v_X5_poseAt (v_X10_panelP x1 m)) y4 y10 m12) (v_X8_pointY (v_X5_poseAt (v_X10_panelP x1 m)) y4 y10 m12) m12 _ h) (fun v w2 hk => ?_)
  obtain ⟨m14, rfl, rfl, h⟩ := hk
  show J X (0, 0) 118 [(7, .int y10), (6, .int y8), (5, .int y6), (4, .int y4), (3, .ref (ad (v_X5_poseAt (v_X10_panelQ x1 m)))), (2, .ref (ad (v_X5_poseAt (v_X10_panelP x1 m)))), (0, .ref (ad 267)), (1, .int x1)] [] (fl ad m14)
  refine J_aload_n hX dX0_takePoints_118 rfl 6 rfl ?_
  refine J_iconst (v := (2 : Int32)) hX dX0_takePoints_119 (by decide) ?_
  refine J_aload_n hX dX0_takePoints_120 rfl 6 rfl ?_
  refine J_getR hX kf_RX0_39 dX0_takePoints_121 ka_267 (by decide) rfl rh_267_7 ?_
  refine J_iconst (v := (0 : Int32)) hX dX0_takePoints_124 (by decide) ?_
  refine J_iald (j := 0) hX dX0_takePoints_125 ka_391 le_391 (vp_lit (by decide)) (by decide) ?_
  refine J_getsN (k := 2) hX dX0_takePoints_126 (by decide) ks_RX0_126 ?_
  refine J_iload hX dX0_takePoints_129 3 rfl ?_
  obtain ⟨b15, h⟩ := h
  refine J_sald hX dX0_takePoints_131 (by decide) b15 ?_
  refine J_iadd hX dX0_takePoints_132 ?_
  refine J_aload_n hX dX0_takePoints_133 rfl 6 rfl ?_
  refine J_getR hX kf_RX0_43 dX0_takePoints_134 ka_267 (by decide) rfl rh_267_8 ?_
  refine J_iconst (v := (0 : Int32)) hX dX0_takePoints_137 (by decide) ?_
  refine J_iald (j := 0) hX dX0_takePoints_138 ka_392 le_392 (vp_lit (by decide)) (by decide) ?_
  refine J_getsN (k := 3) hX dX0_takePoints_139 (by decide) ks_RX0_129 ?_
  refine J_iload hX dX0_takePoints_142 3 rfl ?_
  refine J_sald hX dX0_takePoints_144 (by decide) b15 ?_
  refine J_iadd hX dX0_takePoints_145 ?_
  refine J_callV hX km_X0_takePoint kl_RX0_122 dX0_takePoints_146 ka_267 (by decide) [.int (2 : Int32), .int ((m14.1 391 0) + (szv 2 y4.toNatClampNeg)), .int ((m14.1 392 0) + (szv 3 y4.toNatClampNeg))] ⟨Nat.le_of_ble_eq_true rfl, Nat.le_of_ble_eq_true rfl⟩ rfl rfl (Nat.le_of_ble_eq_true rfl) (c_X0_takePoint (2 : Int32) ((m14.1 391 0) + (szv 2 y4.toNatClampNeg)) ((m14.1 392 0) + (szv 3 y4.toNatClampNeg)) m14 _ h) (fun v w2 hk => ?_)
  obtain ⟨m16, rfl, rfl, h⟩ := hk
  show J X (0, 0) 149 [(7, .int y10), (6, .int y8), (5, .int y6), (4, .int y4), (3, .ref (ad (v_X5_poseAt (v_X10_panelQ x1 m)))), (2, .ref (ad (v_X5_poseAt (v_X10_panelP x1 m)))), (0, .ref (ad 267)), (1, .int x1)] [] (fl ad m16)
  refine J_aload_n hX dX0_takePoints_149 rfl 6 rfl ?_
  refine J_iconst (v := (3 : Int32)) hX dX0_takePoints_150 (by decide) ?_
  refine J_aload_n hX dX0_takePoints_151 rfl 4 rfl ?_
  refine J_iload hX dX0_takePoints_152 2 rfl ?_
  refine J_iload hX dX0_takePoints_154 1 rfl ?_
  refine J_callV hX km_X8_pointX kl_RX0_115 dX0_takePoints_156 kv_X5_poseAt (by decide) [.int y6, .int y8] ⟨Nat.le_of_ble_eq_true rfl, Nat.le_of_ble_eq_true rfl⟩ rfl rfl (Nat.le_of_ble_eq_true rfl) (c_X8_pointX (v_X5_poseAt (v_X10_panelQ x1 m)) kv_X5_poseAt y6 y8 m16) (fun v w2 hk => ?_)
  obtain ⟨rfl, rfl⟩ := hk
  show J X (0, 0) 159 [(7, .int y10), (6, .int y8), (5, .int y6), (4, .int y4), (3, .ref (ad (v_X5_poseAt (v_X10_panelQ x1 m)))), (2, .ref (ad (v_X5_poseAt (v_X10_panelP x1 m)))), (0, .ref (ad 267)), (1, .int x1)] [.int (v_X8_pointX (v_X5_poseAt (v_X10_panelQ x1 m)) y6 y8 m16), .int (3 : Int32), .ref (ad 267)] (fl ad m16)
  refine J_aload_n hX dX0_takePoints_159 rfl 4 rfl ?_
  refine J_iload hX dX0_takePoints_160 2 rfl ?_
  refine J_iload hX dX0_takePoints_162 1 rfl ?_
  obtain ⟨b17, h⟩ := h
  refine J_callV hX km_X8_pointY kl_RX0_120 dX0_takePoints_164 kv_X5_poseAt (by decide) [.int y6, .int y8] ⟨Nat.le_of_ble_eq_true rfl, Nat.le_of_ble_eq_true rfl⟩ rfl rfl (Nat.le_of_ble_eq_true rfl) (c_X8_pointY (v_X5_poseAt (v_X10_panelQ x1 m)) kv_X5_poseAt y6 y8 m16 b17) (fun v w2 hk => ?_)
  obtain ⟨rfl, rfl⟩ := hk
  show J X (0, 0) 167 [(7, .int y10), (6, .int y8), (5, .int y6), (4, .int y4), (3, .ref (ad (v_X5_poseAt (v_X10_panelQ x1 m)))), (2, .ref (ad (v_X5_poseAt (v_X10_panelP x1 m)))), (0, .ref (ad 267)), (1, .int x1)] [.int (v_X8_pointY (v_X5_poseAt (v_X10_panelQ x1 m)) y6 y8 m16), .int (v_X8_pointX (v_X5_poseAt (v_X10_panelQ x1 m)) y6 y8 m16), .int (3 : Int32), .ref (ad 267)] (fl ad m16)
  refine J_callV hX km_X0_takePoint kl_RX0_122 dX0_takePoints_167 ka_267 (by decide) [.int (3 : Int32), .int (v_X8_pointX (v_X5_poseAt (v_X10_panelQ x1 m)) y6 y8 m16), .int (v_X8_pointY (v_X5_poseAt (v_X10_panelQ x1 m)) y6 y8 m16)] ⟨Nat.le_of_ble_eq_true rfl, Nat.le_of_ble_eq_true rfl⟩ rfl rfl (Nat.le_of_ble_eq_true rfl) (c_X0_takePoint (3 : Int32) (v_X8_pointX (v_X5_poseAt (v_X10_panelQ x1 m)) y6 y8 m16) (v_X8_pointY (v_X5_poseAt (v_X10_panelQ x1 m)) y6 y8 m16) m16 _ h) (fun v w2 hk => ?_)
  obtain ⟨m18, rfl, rfl, h⟩ := hk
  show J X (0, 0) 170 [(7, .int y10), (6, .int y8), (5, .int y6), (4, .int y4), (3, .ref (ad (v_X5_poseAt (v_X10_panelQ x1 m)))), (2, .ref (ad (v_X5_poseAt (v_X10_panelP x1 m)))), (0, .ref (ad 267)), (1, .int x1)] [] (fl ad m18)
  refine J_aload_n hX dX0_takePoints_170 rfl 6 rfl ?_
  refine J_iconst (v := (4 : Int32)) hX dX0_takePoints_171 (by decide) ?_
  refine J_aload_n hX dX0_takePoints_172 rfl 4 rfl ?_
  refine J_iload hX dX0_takePoints_173 2 rfl ?_
  refine J_iload hX dX0_takePoints_175 0 rfl ?_
  refine J_callV hX km_X8_pointX kl_RX0_115 dX0_takePoints_177 kv_X5_poseAt (by decide) [.int y6, .int y10] ⟨Nat.le_of_ble_eq_true rfl, Nat.le_of_ble_eq_true rfl⟩ rfl rfl (Nat.le_of_ble_eq_true rfl) (c_X8_pointX (v_X5_poseAt (v_X10_panelQ x1 m)) kv_X5_poseAt y6 y10 m18) (fun v w2 hk => ?_)
  obtain ⟨rfl, rfl⟩ := hk
  show J X (0, 0) 180 [(7, .int y10), (6, .int y8), (5, .int y6), (4, .int y4), (3, .ref (ad (v_X5_poseAt (v_X10_panelQ x1 m)))), (2, .ref (ad (v_X5_poseAt (v_X10_panelP x1 m)))), (0, .ref (ad 267)), (1, .int x1)] [.int (v_X8_pointX (v_X5_poseAt (v_X10_panelQ x1 m)) y6 y10 m18), .int (4 : Int32), .ref (ad 267)] (fl ad m18)
  refine J_aload_n hX dX0_takePoints_180 rfl 4 rfl ?_
  refine J_iload hX dX0_takePoints_181 2 rfl ?_
  refine J_iload hX dX0_takePoints_183 0 rfl ?_
  obtain ⟨b19, h⟩ := h
  refine J_callV hX km_X8_pointY kl_RX0_120 dX0_takePoints_185 kv_X5_poseAt (by decide) [.int y6, .int y10] ⟨Nat.le_of_ble_eq_true rfl, Nat.le_of_ble_eq_true rfl⟩ rfl rfl (Nat.le_of_ble_eq_true rfl) (c_X8_pointY (v_X5_poseAt (v_X10_panelQ x1 m)) kv_X5_poseAt y6 y10 m18 b19) (fun v w2 hk => ?_)
  obtain ⟨rfl, rfl⟩ := hk
  show J X (0, 0) 188 [(7, .int y10), (6, .int y8), (5, .int y6), (4, .int y4), (3, .ref (ad (v_X5_poseAt (v_X10_panelQ x1 m)))), (2, .ref (ad (v_X5_poseAt (v_X10_panelP x1 m)))), (0, .ref (ad 267)), (1, .int x1)] [.int (v_X8_pointY (v_X5_poseAt (v_X10_panelQ x1 m)) y6 y10 m18), .int (v_X8_pointX (v_X5_poseAt (v_X10_panelQ x1 m)) y6 y10 m18), .int (4 : Int32), .ref (ad 267)] (fl ad m18)
  refine J_callV hX km_X0_takePoint kl_RX0_122 dX0_takePoints_188 ka_267 (by decide) [.int (4 : Int32), .int (v_X8_pointX (v_X5_poseAt (v_X10_panelQ x1 m)) y6 y10 m18), .int (v_X8_pointY (v_X5_poseAt (v_X10_panelQ x1 m)) y6 y10 m18)] ⟨Nat.le_of_ble_eq_true rfl, Nat.le_of_ble_eq_true rfl⟩ rfl rfl (Nat.le_of_ble_eq_true rfl) (c_X0_takePoint (4 : Int32) (v_X8_pointX (v_X5_poseAt (v_X10_panelQ x1 m)) y6 y10 m18) (v_X8_pointY (v_X5_poseAt (v_X10_panelQ x1 m)) y6 y10 m18) m18 _ h) (fun v w2 hk => ?_)
  obtain ⟨m20, rfl, rfl, h⟩ := hk
  show J X (0, 0) 191 [(7, .int y10), (6, .int y8), (5, .int y6), (4, .int y4), (3, .ref (ad (v_X5_poseAt (v_X10_panelQ x1 m)))), (2, .ref (ad (v_X5_poseAt (v_X10_panelP x1 m)))), (0, .ref (ad 267)), (1, .int x1)] [] (fl ad m20)
  refine J_aload_n hX dX0_takePoints_191 rfl 6 rfl ?_
  refine J_iconst (v := (5 : Int32)) hX dX0_takePoints_192 (by decide) ?_
  refine J_aload_n hX dX0_takePoints_193 rfl 6 rfl ?_
  refine J_getR hX kf_RX0_39 dX0_takePoints_194 ka_267 (by decide) rfl rh_267_7 ?_
  refine J_iconst (v := (3 : Int32)) hX dX0_takePoints_197 (by decide) ?_
  refine J_iald (j := 3) hX dX0_takePoints_198 ka_391 le_391 (vp_lit (by decide)) (by decide) ?_
  refine J_getsN (k := 2) hX dX0_takePoints_199 (by decide) ks_RX0_126 ?_
  refine J_iload hX dX0_takePoints_202 2 rfl ?_
  obtain ⟨b21, h⟩ := h
  refine J_sald hX dX0_takePoints_204 (by decide) b21 ?_
  refine J_isub hX dX0_takePoints_205 ?_
  refine J_aload_n hX dX0_takePoints_206 rfl 6 rfl ?_
  refine J_getR hX kf_RX0_43 dX0_takePoints_207 ka_267 (by decide) rfl rh_267_8 ?_
  refine J_iconst (v := (3 : Int32)) hX dX0_takePoints_210 (by decide) ?_
  refine J_iald (j := 3) hX dX0_takePoints_211 ka_392 le_392 (vp_lit (by decide)) (by decide) ?_
  refine J_getsN (k := 3) hX dX0_takePoints_212 (by decide) ks_RX0_129 ?_
  refine J_iload hX dX0_takePoints_215 2 rfl ?_
  refine J_sald hX dX0_takePoints_217 (by decide) b21 ?_
  refine J_isub hX dX0_takePoints_218 ?_
  refine J_callV hX km_X0_takePoint kl_RX0_122 dX0_takePoints_219 ka_267 (by decide) [.int (5 : Int32), .int ((m20.1 391 3) - (szv 2 y6.toNatClampNeg)), .int ((m20.1 392 3) - (szv 3 y6.toNatClampNeg))] ⟨Nat.le_of_ble_eq_true rfl, Nat.le_of_ble_eq_true rfl⟩ rfl rfl (Nat.le_of_ble_eq_true rfl) (c_X0_takePoint (5 : Int32) ((m20.1 391 3) - (szv 2 y6.toNatClampNeg)) ((m20.1 392 3) - (szv 3 y6.toNatClampNeg)) m20 _ h) (fun v w2 hk => ?_)
  obtain ⟨m22, rfl, rfl, h⟩ := hk
  show J X (0, 0) 222 [(7, .int y10), (6, .int y8), (5, .int y6), (4, .int y4), (3, .ref (ad (v_X5_poseAt (v_X10_panelQ x1 m)))), (2, .ref (ad (v_X5_poseAt (v_X10_panelP x1 m)))), (0, .ref (ad 267)), (1, .int x1)] [] (fl ad m22)
  exact J_vret hX hR dX0_takePoints_222 ⟨_, rfl, rfl, h⟩
set_option maxRecDepth 100000 in
theorem tb_X0_takeCoordinates_l7 {X : XT} {ad : Nat → Nat} {K : Mm → Prop} (hX : Cx X cX0_takeCoordinates 5 RX0 (rmN 2 48)) (hR : Rx X none (kV ad K) (0, 0)) {rec : Int32 → Mm → Prop} (a1 : Nat) (h1 : kap a1 = 3) (a2 : Nat) (h2 : kap a2 = 7) (x3 : Int32) (hrec : ∀ (x4 : Int32) (m : Mm), rec x4 m → J X (0, 0) 7 [(0, .ref (ad 267)), (1, .ref (ad a1)), (2, .ref (ad a2)), (3, .int x3), (4, .int x4)] [] (fl ad m)) (x4 : Int32) (m : Mm) (h : wb_X0_takeCoordinates_l7 rec K a1 a2 x3 x4 m) : J X (0, 0) 7 [(0, .ref (ad 267)), (1, .ref (ad a1)), (2, .ref (ad a2)), (3, .int x3), (4, .int x4)] [] (fl ad m) := by
  unfold wb_X0_takeCoordinates_l7 at h
  refine J_iload hX dX0_takeCoordinates_7 4 rfl ?_
  refine J_iload_n hX dX0_takeCoordinates_9 rfl 3 rfl ?_
  refine J_iconst (v := (3 : Int32)) hX dX0_takeCoordinates_10 (by decide) ?_
  refine J_iadd hX dX0_takeCoordinates_11 ?_
  refine J_icmp_ge (tgt := 83) hX dX0_takeCoordinates_12 (by decide) (fun c2 => ?_) (fun c2 => ?_)
  · replace h := Eq.mp (if_pos c2) h
    exact J_vret hX hR dX0_takeCoordinates_83 ⟨_, rfl, rfl, h⟩
  · replace h := Eq.mp (if_neg c2) h
    refine J_iload hX dX0_takeCoordinates_15 4 rfl ?_
    refine J_aload_n hX dX0_takeCoordinates_17 rfl 0 rfl ?_
    refine J_getR hX kf_RX0_46 dX0_takeCoordinates_18 ka_267 (by decide) rfl rh_267_9 ?_
    refine J_alen (v := (6 : Int32)) hX dX0_takeCoordinates_21 ka_393 (by decide) le_393 rfl ?_
    refine J_icmp_ge (tgt := 83) hX dX0_takeCoordinates_22 (by decide) (fun c3 => ?_) (fun c3 => ?_)
    · replace h := Eq.mp (if_pos c3) h
      exact J_vret hX hR dX0_takeCoordinates_83 ⟨_, rfl, rfl, h⟩
    · replace h := Eq.mp (if_neg c3) h
      refine J_aload_n hX dX0_takeCoordinates_25 rfl 0 rfl ?_
      refine J_getR hX kf_RX0_46 dX0_takeCoordinates_26 ka_267 (by decide) rfl rh_267_9 ?_
      refine J_iload hX dX0_takeCoordinates_29 4 rfl ?_
      refine J_aload_n hX dX0_takeCoordinates_31 rfl 1 rfl ?_
      refine J_aload_n hX dX0_takeCoordinates_32 rfl 2 rfl ?_
      refine J_aload_n hX dX0_takeCoordinates_33 rfl 0 rfl ?_
      refine J_getR hX kf_RX0_39 dX0_takeCoordinates_34 ka_267 (by decide) rfl rh_267_7 ?_
      refine J_iload hX dX0_takeCoordinates_37 4 rfl ?_
      obtain ⟨b4, h⟩ := h
      refine J_iald (j := x4.toNatClampNeg) hX dX0_takeCoordinates_39 ka_391 le_391 b4 rfl ?_
      refine J_aload_n hX dX0_takeCoordinates_40 rfl 0 rfl ?_
      refine J_getR hX kf_RX0_43 dX0_takeCoordinates_41 ka_267 (by decide) rfl rh_267_8 ?_
      refine J_iload hX dX0_takeCoordinates_44 4 rfl ?_
      refine J_iald (j := x4.toNatClampNeg) hX dX0_takeCoordinates_46 ka_392 le_392 b4 rfl ?_
      refine J_callS hX km_X0_imageU kl_RX0_137 dX0_takeCoordinates_47 [.ref (ad a1), .ref (ad a2), .int (m.1 391 x4.toNatClampNeg), .int (m.1 392 x4.toNatClampNeg)] ⟨Nat.le_of_ble_eq_true rfl, Nat.le_of_ble_eq_true rfl⟩ rfl rfl (Nat.le_of_ble_eq_true rfl) (c_X0_imageU a1 h1 a2 h2 (m.1 391 x4.toNatClampNeg) (m.1 392 x4.toNatClampNeg) m) (fun v w2 hk => ?_)
      obtain ⟨rfl, rfl⟩ := hk
      show J X (0, 0) 50 [(0, .ref (ad 267)), (1, .ref (ad a1)), (2, .ref (ad a2)), (3, .int x3), (4, .int x4)] [.int (v_X0_imageU a1 a2 (m.1 391 x4.toNatClampNeg) (m.1 392 x4.toNatClampNeg) m), .int x4, .ref (ad 393)] (fl ad m)
      refine J_iast (j := x4.toNatClampNeg) hX dX0_takeCoordinates_50 ka_393 le_393 b4 rfl ?_
      refine J_nmM (fun m5 e_m5 => ?_)
      replace h := h m5 e_m5
      refine J_aload_n hX dX0_takeCoordinates_51 rfl 0 rfl ?_
      refine J_getR hX kf_RX0_49 dX0_takeCoordinates_52 ka_267 (by decide) rfl rh_267_10 ?_
      refine J_iload hX dX0_takeCoordinates_55 4 rfl ?_
      refine J_aload_n hX dX0_takeCoordinates_57 rfl 1 rfl ?_
      refine J_aload_n hX dX0_takeCoordinates_58 rfl 2 rfl ?_
      refine J_aload_n hX dX0_takeCoordinates_59 rfl 0 rfl ?_
      refine J_getR hX kf_RX0_39 dX0_takeCoordinates_60 ka_267 (by decide) rfl rh_267_7 ?_
      refine J_iload hX dX0_takeCoordinates_63 4 rfl ?_
      refine J_iald (j := x4.toNatClampNeg) hX dX0_takeCoordinates_65 ka_391 le_391 b4 rfl ?_
      refine J_aload_n hX dX0_takeCoordinates_66 rfl 0 rfl ?_
      refine J_getR hX kf_RX0_43 dX0_takeCoordinates_67 ka_267 (by decide) rfl rh_267_8 ?_
      refine J_iload hX dX0_takeCoordinates_70 4 rfl ?_
      refine J_iald (j := x4.toNatClampNeg) hX dX0_takeCoordinates_72 ka_392 le_392 b4 rfl ?_
      refine J_callS hX km_X0_imageV kl_RX0_141 dX0_takeCoordinates_73 [.ref (ad a1), .ref (ad a2), .int (m5.1 391 x4.toNatClampNeg), .int (m5.1 392 x4.toNatClampNeg)] ⟨Nat.le_of_ble_eq_true rfl, Nat.le_of_ble_eq_true rfl⟩ rfl rfl (Nat.le_of_ble_eq_true rfl) (c_X0_imageV a1 h1 a2 h2 (m5.1 391 x4.toNatClampNeg) (m5.1 392 x4.toNatClampNeg) m5) (fun v w2 hk => ?_)
      obtain ⟨rfl, rfl⟩ := hk
      show J X (0, 0) 76 [(0, .ref (ad 267)), (1, .ref (ad a1)), (2, .ref (ad a2)), (3, .int x3), (4, .int x4)] [.int (v_X0_imageV a1 a2 (m5.1 391 x4.toNatClampNeg) (m5.1 392 x4.toNatClampNeg) m5), .int x4, .ref (ad 394)] (fl ad m5)
      refine J_iast (j := x4.toNatClampNeg) hX dX0_takeCoordinates_76 ka_394 le_394 b4 rfl ?_
      refine J_nmM (fun m6 e_m6 => ?_)
      replace h := h m6 e_m6
      refine J_iinc (x := (x4 + (1 : Int32))) (lv2 := [(4, .int (x4 + (1 : Int32))), (0, .ref (ad 267)), (1, .ref (ad a1)), (2, .ref (ad a2)), (3, .int x3)]) hX dX0_takeCoordinates_77 4 rfl rfl (Nat.le_of_ble_eq_true rfl) rfl ?_
      refine J_goto (tgt := 7) hX dX0_takeCoordinates_80 (by decide) ?_
      exact J_sub [1, 2, 3, 4, 0] rfl (hrec (x4 + (1 : Int32)) m6 h)
set_option maxRecDepth 100000 in
theorem t_X0_takeCoordinates_l7 {X : XT} {ad : Nat → Nat} {K : Mm → Prop} (hX : Cx X cX0_takeCoordinates 5 RX0 (rmN 2 48)) (hR : Rx X none (kV ad K) (0, 0)) (a1 : Nat) (h1 : kap a1 = 3) (a2 : Nat) (h2 : kap a2 = 7) (x3 : Int32) : ∀ (n : Nat) (x4 : Int32) (m : Mm), wp_X0_takeCoordinates_l7 K a1 a2 x3 n x4 m → J X (0, 0) 7 [(0, .ref (ad 267)), (1, .ref (ad a1)), (2, .ref (ad a2)), (3, .int x3), (4, .int x4)] [] (fl ad m) := by
  intro n
  induction n with
  | zero => intro x4 m h; exact h.elim
  | succ n ih => intro x4 m h; exact tb_X0_takeCoordinates_l7 hX hR a1 h1 a2 h2 x3 ih x4 m h
set_option maxRecDepth 100000 in
theorem c_X0_takeCoordinates {G : GT} {ad : Nat → Nat} (a1 : Nat) (h1 : kap a1 = 3) (a2 : Nat) (h2 : kap a2 = 7) (x3 : Int32) (m : Mm) (K : Mm → Prop) (h : wp_X0_takeCoordinates a1 a2 x3 m K) : Cn G yX0_takeCoordinates cX0_takeCoordinates 5 none (rmN 2 48) [.ref (ad 267), .ref (ad a1), .ref (ad a2), .int x3] (0, 0) (fl ad m) (kV ad K) := by
  unfold wp_X0_takeCoordinates at h
  refine Cn.of pn_RX0 (Nat.le_of_ble_eq_true rfl) (fun X hG hX hR => ?_)
  subst hG
  have hX : Cx X cX0_takeCoordinates 5 RX0 (rmN 2 48) := hX
  show J X (0, 0) 0 [(0, .ref (ad 267)), (1, .ref (ad a1)), (2, .ref (ad a2)), (3, .int x3)] [] (fl ad m)
  refine J_iconst (v := (0 : Int32)) hX dX0_takeCoordinates_0 (by decide) ?_
  refine J_iload_n hX dX0_takeCoordinates_1 rfl 3 rfl ?_
  refine J_mmax hX kl_RX0_132 dX0_takeCoordinates_2 (Nat.le_of_ble_eq_true rfl) (Nat.le_of_ble_eq_true rfl) ⟨Nat.le_of_ble_eq_true rfl, Nat.le_of_ble_eq_true rfl⟩ ?_
  refine J_nmI (fun y1 e_y1 => ?_)
  replace h := h y1 e_y1
  refine J_istore (lv2 := [(4, .int y1), (0, .ref (ad 267)), (1, .ref (ad a1)), (2, .ref (ad a2)), (3, .int x3)]) hX dX0_takeCoordinates_5 (Nat.le_of_ble_eq_true rfl) rfl ?_
  refine J_sub [1, 2, 3, 4, 0] rfl (t_X0_takeCoordinates_l7 hX hR a1 h1 a2 h2 x3 FU y1 m h)
set_option maxRecDepth 100000 in
theorem tb_X0_mismatch_l117 {X : XT} {ad : Nat → Nat} {K : Int32 → Mm → Prop} (hX : Cx X cX0_mismatch 7 RX0 (rmN 3 72)) (hR : Rx X (some .int) (kI ad K) (0, 0)) {rec : Int32 → Int32 → Mm → Prop} {k183 : Int32 → Mm → Prop} (hrec : ∀ (x5 : Int32) (x6 : Int32) (m : Mm), rec x5 x6 m → J X (0, 0) 117 [(0, .ref (ad 267)), (5, .int x5), (6, .int x6)] [] (fl ad m)) (hk183 : ∀ (z5 : Int32) (m : Mm), k183 z5 m → J X (0, 0) 183 [(0, .ref (ad 267)), (5, .int z5)] [] (fl ad m)) (x5 : Int32) (x6 : Int32) (m : Mm) (h : wb_X0_mismatch_l117 rec k183 K x5 x6 m) : J X (0, 0) 117 [(0, .ref (ad 267)), (5, .int x5), (6, .int x6)] [] (fl ad m) := by
  unfold wb_X0_mismatch_l117 at h
  refine J_iload hX dX0_mismatch_117 2 rfl ?_
  refine J_iconst (v := (2 : Int32)) hX dX0_mismatch_119 (by decide) ?_
  refine J_icmp_ge (tgt := 183) hX dX0_mismatch_120 (by decide) (fun c12 => ?_) (fun c12 => ?_)
  · replace h := Eq.mp (if_pos c12) h
    exact J_sub [0, 1] rfl (hk183 x5 m h)
  · replace h := Eq.mp (if_neg c12) h
    refine J_iload hX dX0_mismatch_123 1 rfl ?_
    refine J_aload_n hX dX0_mismatch_125 rfl 0 rfl ?_
    refine J_getR hX kf_RX0_46 dX0_mismatch_126 ka_267 (by decide) rfl rh_267_9 ?_
    refine J_iload hX dX0_mismatch_129 2 rfl ?_
    obtain ⟨b13, h⟩ := h
    refine J_iald (j := x6.toNatClampNeg) hX dX0_mismatch_131 ka_393 le_393 b13 rfl ?_
    refine J_aload_n hX dX0_mismatch_132 rfl 0 rfl ?_
    refine J_getR hX kf_RX0_46 dX0_mismatch_133 ka_267 (by decide) rfl rh_267_9 ?_
    refine J_iload hX dX0_mismatch_136 2 rfl ?_
    refine J_iconst (v := (3 : Int32)) hX dX0_mismatch_138 (by decide) ?_
    refine J_iadd hX dX0_mismatch_139 ?_
    obtain ⟨b14, h⟩ := h
    refine J_iald (j := (x6 + (3 : Int32)).toNatClampNeg) hX dX0_mismatch_140 ka_393 le_393 b14 rfl ?_
    refine J_isub hX dX0_mismatch_141 ?_
    refine J_mabs hX kl_RX0_160 dX0_mismatch_142 (Nat.le_of_ble_eq_true rfl) (Nat.le_of_ble_eq_true rfl) ⟨Nat.le_of_ble_eq_true rfl, Nat.le_of_ble_eq_true rfl⟩ ?_
    refine J_mmax hX kl_RX0_132 dX0_mismatch_145 (Nat.le_of_ble_eq_true rfl) (Nat.le_of_ble_eq_true rfl) ⟨Nat.le_of_ble_eq_true rfl, Nat.le_of_ble_eq_true rfl⟩ ?_
    refine J_nmI (fun y15 e_y15 => ?_)
    replace h := h y15 e_y15
    refine J_istore (lv2 := [(5, .int y15), (0, .ref (ad 267)), (6, .int x6)]) hX dX0_mismatch_148 (Nat.le_of_ble_eq_true rfl) rfl ?_
    refine J_iload hX dX0_mismatch_150 0 rfl ?_
    refine J_aload_n hX dX0_mismatch_152 rfl 1 rfl ?_
    refine J_getR hX kf_RX0_49 dX0_mismatch_153 ka_267 (by decide) rfl rh_267_10 ?_
    refine J_iload hX dX0_mismatch_156 2 rfl ?_
    refine J_iald (j := x6.toNatClampNeg) hX dX0_mismatch_158 ka_394 le_394 b13 rfl ?_
    refine J_aload_n hX dX0_mismatch_159 rfl 1 rfl ?_
    refine J_getR hX kf_RX0_49 dX0_mismatch_160 ka_267 (by decide) rfl rh_267_10 ?_
    refine J_iload hX dX0_mismatch_163 2 rfl ?_
    refine J_iconst (v := (3 : Int32)) hX dX0_mismatch_165 (by decide) ?_
    refine J_iadd hX dX0_mismatch_166 ?_
    refine J_iald (j := (x6 + (3 : Int32)).toNatClampNeg) hX dX0_mismatch_167 ka_394 le_394 b14 rfl ?_
    refine J_isub hX dX0_mismatch_168 ?_
    refine J_mabs hX kl_RX0_160 dX0_mismatch_169 (Nat.le_of_ble_eq_true rfl) (Nat.le_of_ble_eq_true rfl) ⟨Nat.le_of_ble_eq_true rfl, Nat.le_of_ble_eq_true rfl⟩ ?_
    refine J_mmax hX kl_RX0_132 dX0_mismatch_172 (Nat.le_of_ble_eq_true rfl) (Nat.le_of_ble_eq_true rfl) ⟨Nat.le_of_ble_eq_true rfl, Nat.le_of_ble_eq_true rfl⟩ ?_
    refine J_nmI (fun y16 e_y16 => ?_)
    replace h := h y16 e_y16
    refine J_istore (lv2 := [(5, .int y16), (0, .ref (ad 267)), (6, .int x6)]) hX dX0_mismatch_175 (Nat.le_of_ble_eq_true rfl) rfl ?_
    refine J_iinc (x := (x6 + (1 : Int32))) (lv2 := [(6, .int (x6 + (1 : Int32))), (5, .int y16), (0, .ref (ad 267))]) hX dX0_mismatch_177 2 rfl rfl (Nat.le_of_ble_eq_true rfl) rfl ?_
    refine J_goto (tgt := 117) hX dX0_mismatch_180 (by decide) ?_
    exact J_sub [2, 1, 0] rfl (hrec y16 (x6 + (1 : Int32)) m h)
set_option maxRecDepth 100000 in
theorem t_X0_mismatch_l117 {X : XT} {ad : Nat → Nat} {K : Int32 → Mm → Prop} (hX : Cx X cX0_mismatch 7 RX0 (rmN 3 72)) (hR : Rx X (some .int) (kI ad K) (0, 0)) {k183 : Int32 → Mm → Prop} (hk183 : ∀ (z5 : Int32) (m : Mm), k183 z5 m → J X (0, 0) 183 [(0, .ref (ad 267)), (5, .int z5)] [] (fl ad m)) : ∀ (n : Nat) (x5 : Int32) (x6 : Int32) (m : Mm), wp_X0_mismatch_l117 k183 K n x5 x6 m → J X (0, 0) 117 [(0, .ref (ad 267)), (5, .int x5), (6, .int x6)] [] (fl ad m) := by
  intro n
  induction n with
  | zero => intro x5 x6 m h; exact h.elim
  | succ n ih => intro x5 x6 m h; exact tb_X0_mismatch_l117 hX hR ih hk183 x5 x6 m h
set_option maxRecDepth 100000 in
theorem c_X0_mismatch {G : GT} {ad : Nat → Nat} (a1 : Nat) (h1 : kap a1 = 3) (x2 : Int32) (m : Mm) (K : Int32 → Mm → Prop) (h : wp_X0_mismatch a1 x2 m K) : Cn G yX0_mismatch cX0_mismatch 7 (some .int) (rmN 3 72) [.ref (ad 267), .ref (ad a1), .int x2] (0, 0) (fl ad m) (kI ad K) := by
  unfold wp_X0_mismatch at h
  refine Cn.of pn_RX0 (Nat.le_of_ble_eq_true rfl) (fun X hG hX hR => ?_)
  subst hG
  have hX : Cx X cX0_mismatch 7 RX0 (rmN 3 72) := hX
  show J X (0, 0) 0 [(0, .ref (ad 267)), (1, .ref (ad a1)), (2, .int x2)] [] (fl ad m)
  refine J_aload_n hX dX0_mismatch_0 rfl 1 rfl ?_
  refine J_aload_n hX dX0_mismatch_1 rfl 0 rfl ?_
  refine J_getR hX kf_RX0_30 dX0_mismatch_2 ka_267 (by decide) rfl rh_267_5 ?_
  refine J_iload_n hX dX0_mismatch_5 rfl 2 rfl ?_
  obtain ⟨b1, h⟩ := h
  refine J_callV hX km_X10_panelP kl_RX0_91 dX0_mismatch_6 ka_268 (by decide) [.int x2] ⟨Nat.le_of_ble_eq_true rfl, Nat.le_of_ble_eq_true rfl⟩ rfl rfl (Nat.le_of_ble_eq_true rfl) (c_X10_panelP x2 m b1) (fun v w2 hk => ?_)
  obtain ⟨rfl, rfl⟩ := hk
  show J X (0, 0) 9 [(0, .ref (ad 267)), (1, .ref (ad a1)), (2, .int x2)] [.int (v_X10_panelP x2 m), .ref (ad a1)] (fl ad m)
  refine J_callV hX km_X3_panelAt kl_RX0_144 dX0_mismatch_9 h1 (by decide) [.int (v_X10_panelP x2 m)] ⟨Nat.le_of_ble_eq_true rfl, Nat.le_of_ble_eq_true rfl⟩ rfl rfl (Nat.le_of_ble_eq_true rfl) (c_X3_panelAt a1 h1 (v_X10_panelP x2 m) m) (fun v w2 hk => ?_)
  obtain ⟨rfl, rfl⟩ := hk
  show J X (0, 0) 12 [(0, .ref (ad 267)), (1, .ref (ad a1)), (2, .int x2)] [.ref (ad (v_X3_panelAt a1 (v_X10_panelP x2 m)))] (fl ad m)
  refine J_astore_n (lv2 := [(3, .ref (ad (v_X3_panelAt a1 (v_X10_panelP x2 m)))), (0, .ref (ad 267)), (1, .ref (ad a1)), (2, .int x2)]) hX dX0_mismatch_12 rfl (Nat.le_of_ble_eq_true rfl) rfl ?_
  refine J_aload_n hX dX0_mismatch_13 rfl 2 rfl ?_
  refine J_aload_n hX dX0_mismatch_14 rfl 1 rfl ?_
  refine J_getR hX kf_RX0_30 dX0_mismatch_15 ka_267 (by decide) rfl rh_267_5 ?_
  refine J_iload_n hX dX0_mismatch_18 rfl 3 rfl ?_
  obtain ⟨b2, h⟩ := h
  refine J_callV hX km_X10_panelQ kl_RX0_100 dX0_mismatch_19 ka_268 (by decide) [.int x2] ⟨Nat.le_of_ble_eq_true rfl, Nat.le_of_ble_eq_true rfl⟩ rfl rfl (Nat.le_of_ble_eq_true rfl) (c_X10_panelQ x2 m b2) (fun v w2 hk => ?_)
  obtain ⟨rfl, rfl⟩ := hk
  show J X (0, 0) 22 [(3, .ref (ad (v_X3_panelAt a1 (v_X10_panelP x2 m)))), (0, .ref (ad 267)), (1, .ref (ad a1)), (2, .int x2)] [.int (v_X10_panelQ x2 m), .ref (ad a1)] (fl ad m)
  refine J_callV hX km_X3_panelAt kl_RX0_144 dX0_mismatch_22 h1 (by decide) [.int (v_X10_panelQ x2 m)] ⟨Nat.le_of_ble_eq_true rfl, Nat.le_of_ble_eq_true rfl⟩ rfl rfl (Nat.le_of_ble_eq_true rfl) (c_X3_panelAt a1 h1 (v_X10_panelQ x2 m) m) (fun v w2 hk => ?_)
  obtain ⟨rfl, rfl⟩ := hk
  show J X (0, 0) 25 [(3, .ref (ad (v_X3_panelAt a1 (v_X10_panelP x2 m)))), (0, .ref (ad 267)), (1, .ref (ad a1)), (2, .int x2)] [.ref (ad (v_X3_panelAt a1 (v_X10_panelQ x2 m)))] (fl ad m)
  refine J_astore (lv2 := [(4, .ref (ad (v_X3_panelAt a1 (v_X10_panelQ x2 m)))), (3, .ref (ad (v_X3_panelAt a1 (v_X10_panelP x2 m)))), (0, .ref (ad 267)), (1, .ref (ad a1)), (2, .int x2)]) hX dX0_mismatch_25 (Nat.le_of_ble_eq_true rfl) rfl ?_
  refine J_aload_n hX dX0_mismatch_27 rfl 1 rfl ?_
  refine J_getI hX kf_RX0_55 dX0_mismatch_28 (kv_X3_panelAt h1) (by decide) rfl ?_
  refine J_bipush (v := (-9 : Int32)) hX dX0_mismatch_31 (by decide) ?_
  refine J_icmp_eq (tgt := 48) hX dX0_mismatch_33 (by decide) (fun c3 => ?_) (fun c3 => ?_)
  · replace h := Eq.mp (if_pos c3) h
    refine J_bipush (v := (-9 : Int32)) hX dX0_mismatch_48 (by decide) ?_
    exact J_iret hX hR dX0_mismatch_50 ⟨_, _, rfl, rfl, h⟩
  · replace h := Eq.mp (if_neg c3) h
    refine J_aload_n hX dX0_mismatch_36 rfl 1 rfl ?_
    refine J_getI hX kf_RX0_55 dX0_mismatch_37 (kv_X3_panelAt h1) (by decide) rfl ?_
    refine J_aload hX dX0_mismatch_40 0 rfl ?_
    refine J_getI hX kf_RX0_55 dX0_mismatch_42 (kv_X3_panelAt h1) (by decide) rfl ?_
    refine J_icmp_eq (tgt := 51) hX dX0_mismatch_45 (by decide) (fun c4 => ?_) (fun c4 => ?_)
    · replace h := Eq.mp (if_pos c4) h
      refine J_aload_n hX dX0_mismatch_51 rfl 3 rfl ?_
      refine J_aload_n hX dX0_mismatch_52 rfl 1 rfl ?_
      refine J_aload_n hX dX0_mismatch_53 rfl 2 rfl ?_
      refine J_getR hX kf_RX0_30 dX0_mismatch_54 ka_267 (by decide) rfl rh_267_5 ?_
      refine J_iload_n hX dX0_mismatch_57 rfl 4 rfl ?_
      obtain ⟨b5, h⟩ := h
      refine J_callV hX km_X10_sideOfP kl_RX0_103 dX0_mismatch_58 ka_268 (by decide) [.int x2] ⟨Nat.le_of_ble_eq_true rfl, Nat.le_of_ble_eq_true rfl⟩ rfl rfl (Nat.le_of_ble_eq_true rfl) (c_X10_sideOfP x2 m b5) (fun v w2 hk => ?_)
      obtain ⟨rfl, rfl⟩ := hk
      show J X (0, 0) 61 [(4, .ref (ad (v_X3_panelAt a1 (v_X10_panelQ x2 m)))), (3, .ref (ad (v_X3_panelAt a1 (v_X10_panelP x2 m)))), (0, .ref (ad 267)), (1, .ref (ad a1)), (2, .int x2)] [.int (v_X10_sideOfP x2 m), .ref (ad (v_X3_panelAt a1 (v_X10_panelP x2 m))), .ref (ad a1)] (fl ad m)
      refine J_callS hX km_X0_reachAt kl_RX0_148 dX0_mismatch_61 [.ref (ad a1), .ref (ad (v_X3_panelAt a1 (v_X10_panelP x2 m))), .int (v_X10_sideOfP x2 m)] ⟨Nat.le_of_ble_eq_true rfl, Nat.le_of_ble_eq_true rfl⟩ rfl rfl (Nat.le_of_ble_eq_true rfl) (c_X0_reachAt a1 h1 (v_X3_panelAt a1 (v_X10_panelP x2 m)) (kv_X3_panelAt h1) (v_X10_sideOfP x2 m) m) (fun v w2 hk => ?_)
      obtain ⟨rfl, rfl⟩ := hk
      show J X (0, 0) 64 [(4, .ref (ad (v_X3_panelAt a1 (v_X10_panelQ x2 m)))), (3, .ref (ad (v_X3_panelAt a1 (v_X10_panelP x2 m)))), (0, .ref (ad 267)), (1, .ref (ad a1)), (2, .int x2)] [.int (v_X0_reachAt a1 (v_X3_panelAt a1 (v_X10_panelP x2 m)) (v_X10_sideOfP x2 m) m)] (fl ad m)
      refine J_bipush (v := (-9 : Int32)) hX dX0_mismatch_64 (by decide) ?_
      refine J_icmp_eq (tgt := 88) hX dX0_mismatch_66 (by decide) (fun c6 => ?_) (fun c6 => ?_)
      · replace h := Eq.mp (if_pos c6) h
        refine J_bipush (v := (-9 : Int32)) hX dX0_mismatch_88 (by decide) ?_
        exact J_iret hX hR dX0_mismatch_90 ⟨_, _, rfl, rfl, h⟩
      · replace h := Eq.mp (if_neg c6) h
        refine J_aload_n hX dX0_mismatch_69 rfl 3 rfl ?_
        refine J_aload hX dX0_mismatch_70 0 rfl ?_
        refine J_aload_n hX dX0_mismatch_72 rfl 2 rfl ?_
        refine J_getR hX kf_RX0_30 dX0_mismatch_73 ka_267 (by decide) rfl rh_267_5 ?_
        refine J_iload_n hX dX0_mismatch_76 rfl 4 rfl ?_
        obtain ⟨b7, h⟩ := h
        refine J_callV hX km_X10_sideOfQ kl_RX0_106 dX0_mismatch_77 ka_268 (by decide) [.int x2] ⟨Nat.le_of_ble_eq_true rfl, Nat.le_of_ble_eq_true rfl⟩ rfl rfl (Nat.le_of_ble_eq_true rfl) (c_X10_sideOfQ x2 m b7) (fun v w2 hk => ?_)
        obtain ⟨rfl, rfl⟩ := hk
        show J X (0, 0) 80 [(4, .ref (ad (v_X3_panelAt a1 (v_X10_panelQ x2 m)))), (3, .ref (ad (v_X3_panelAt a1 (v_X10_panelP x2 m)))), (0, .ref (ad 267)), (1, .ref (ad a1)), (2, .int x2)] [.int (v_X10_sideOfQ x2 m), .ref (ad (v_X3_panelAt a1 (v_X10_panelQ x2 m))), .ref (ad a1)] (fl ad m)
        refine J_callS hX km_X0_reachAt kl_RX0_148 dX0_mismatch_80 [.ref (ad a1), .ref (ad (v_X3_panelAt a1 (v_X10_panelQ x2 m))), .int (v_X10_sideOfQ x2 m)] ⟨Nat.le_of_ble_eq_true rfl, Nat.le_of_ble_eq_true rfl⟩ rfl rfl (Nat.le_of_ble_eq_true rfl) (c_X0_reachAt a1 h1 (v_X3_panelAt a1 (v_X10_panelQ x2 m)) (kv_X3_panelAt h1) (v_X10_sideOfQ x2 m) m) (fun v w2 hk => ?_)
        obtain ⟨rfl, rfl⟩ := hk
        show J X (0, 0) 83 [(4, .ref (ad (v_X3_panelAt a1 (v_X10_panelQ x2 m)))), (3, .ref (ad (v_X3_panelAt a1 (v_X10_panelP x2 m)))), (0, .ref (ad 267)), (1, .ref (ad a1)), (2, .int x2)] [.int (v_X0_reachAt a1 (v_X3_panelAt a1 (v_X10_panelQ x2 m)) (v_X10_sideOfQ x2 m) m)] (fl ad m)
        refine J_bipush (v := (-9 : Int32)) hX dX0_mismatch_83 (by decide) ?_
        refine J_icmp_ne (tgt := 91) hX dX0_mismatch_85 (by decide) (fun c8 => ?_) (fun c8 => ?_)
        · replace h := Eq.mp (if_neg c8) h
          refine J_aload_n hX dX0_mismatch_91 rfl 2 rfl ?_
          refine J_iload_n hX dX0_mismatch_92 rfl 4 rfl ?_
          refine J_callV hX km_X0_takePoints kl_RX0_152 dX0_mismatch_93 ka_267 (by decide) [.int x2] ⟨Nat.le_of_ble_eq_true rfl, Nat.le_of_ble_eq_true rfl⟩ rfl rfl (Nat.le_of_ble_eq_true rfl) (c_X0_takePoints x2 m _ h) (fun v w2 hk => ?_)
          obtain ⟨m9, rfl, rfl, h⟩ := hk
          show J X (0, 0) 96 [(4, .ref (ad (v_X3_panelAt a1 (v_X10_panelQ x2 m)))), (3, .ref (ad (v_X3_panelAt a1 (v_X10_panelP x2 m)))), (0, .ref (ad 267)), (1, .ref (ad a1)), (2, .int x2)] [] (fl ad m9)
          refine J_aload_n hX dX0_mismatch_96 rfl 2 rfl ?_
          refine J_aload_n hX dX0_mismatch_97 rfl 3 rfl ?_
          refine J_aload_n hX dX0_mismatch_98 rfl 1 rfl ?_
          refine J_iconst (v := (0 : Int32)) hX dX0_mismatch_99 (by decide) ?_
          refine J_callV hX km_X0_takeCoordinates kl_RX0_156 dX0_mismatch_100 ka_267 (by decide) [.ref (ad a1), .ref (ad (v_X3_panelAt a1 (v_X10_panelP x2 m))), .int (0 : Int32)] ⟨Nat.le_of_ble_eq_true rfl, Nat.le_of_ble_eq_true rfl⟩ rfl rfl (Nat.le_of_ble_eq_true rfl) (c_X0_takeCoordinates a1 h1 (v_X3_panelAt a1 (v_X10_panelP x2 m)) (kv_X3_panelAt h1) (0 : Int32) m9 _ h) (fun v w2 hk => ?_)
          obtain ⟨m10, rfl, rfl, h⟩ := hk
          show J X (0, 0) 103 [(4, .ref (ad (v_X3_panelAt a1 (v_X10_panelQ x2 m)))), (3, .ref (ad (v_X3_panelAt a1 (v_X10_panelP x2 m)))), (0, .ref (ad 267)), (1, .ref (ad a1)), (2, .int x2)] [] (fl ad m10)
          refine J_aload_n hX dX0_mismatch_103 rfl 2 rfl ?_
          refine J_aload_n hX dX0_mismatch_104 rfl 3 rfl ?_
          refine J_aload hX dX0_mismatch_105 0 rfl ?_
          refine J_iconst (v := (3 : Int32)) hX dX0_mismatch_107 (by decide) ?_
          refine J_callV hX km_X0_takeCoordinates kl_RX0_156 dX0_mismatch_108 ka_267 (by decide) [.ref (ad a1), .ref (ad (v_X3_panelAt a1 (v_X10_panelQ x2 m))), .int (3 : Int32)] ⟨Nat.le_of_ble_eq_true rfl, Nat.le_of_ble_eq_true rfl⟩ rfl rfl (Nat.le_of_ble_eq_true rfl) (c_X0_takeCoordinates a1 h1 (v_X3_panelAt a1 (v_X10_panelQ x2 m)) (kv_X3_panelAt h1) (3 : Int32) m10 _ h) (fun v w2 hk => ?_)
          obtain ⟨m11, rfl, rfl, h⟩ := hk
          show J X (0, 0) 111 [(4, .ref (ad (v_X3_panelAt a1 (v_X10_panelQ x2 m)))), (3, .ref (ad (v_X3_panelAt a1 (v_X10_panelP x2 m)))), (0, .ref (ad 267)), (1, .ref (ad a1)), (2, .int x2)] [] (fl ad m11)
          refine J_iconst (v := (0 : Int32)) hX dX0_mismatch_111 (by decide) ?_
          refine J_istore (lv2 := [(5, .int (0 : Int32)), (4, .ref (ad (v_X3_panelAt a1 (v_X10_panelQ x2 m)))), (3, .ref (ad (v_X3_panelAt a1 (v_X10_panelP x2 m)))), (0, .ref (ad 267)), (1, .ref (ad a1)), (2, .int x2)]) hX dX0_mismatch_112 (Nat.le_of_ble_eq_true rfl) rfl ?_
          refine J_iconst (v := (0 : Int32)) hX dX0_mismatch_114 (by decide) ?_
          refine J_istore (lv2 := [(6, .int (0 : Int32)), (5, .int (0 : Int32)), (4, .ref (ad (v_X3_panelAt a1 (v_X10_panelQ x2 m)))), (3, .ref (ad (v_X3_panelAt a1 (v_X10_panelP x2 m)))), (0, .ref (ad 267)), (1, .ref (ad a1)), (2, .int x2)]) hX dX0_mismatch_115 (Nat.le_of_ble_eq_true rfl) rfl ?_
          refine J_sub [4, 1, 0] rfl (t_X0_mismatch_l117 hX hR (fun y17 m18 h => ?_) FU (0 : Int32) (0 : Int32) m11 h)
          refine J_aload_n hX dX0_mismatch_183 rfl 0 rfl ?_
          refine J_getR hX kf_RX0_46 dX0_mismatch_184 ka_267 (by decide) rfl rh_267_9 ?_
          refine J_iconst (v := (2 : Int32)) hX dX0_mismatch_187 (by decide) ?_
          refine J_iald (j := 2) hX dX0_mismatch_188 ka_393 le_393 (vp_lit (by decide)) (by decide) ?_
          refine J_aload_n hX dX0_mismatch_189 rfl 0 rfl ?_
          refine J_getR hX kf_RX0_46 dX0_mismatch_190 ka_267 (by decide) rfl rh_267_9 ?_
          refine J_iconst (v := (0 : Int32)) hX dX0_mismatch_193 (by decide) ?_
          refine J_iald (j := 0) hX dX0_mismatch_194 ka_393 le_393 (vp_lit (by decide)) (by decide) ?_
          refine J_isub hX dX0_mismatch_195 ?_
          refine J_aload_n hX dX0_mismatch_196 rfl 0 rfl ?_
          refine J_getR hX kf_RX0_46 dX0_mismatch_197 ka_267 (by decide) rfl rh_267_9 ?_
          refine J_iconst (v := (5 : Int32)) hX dX0_mismatch_200 (by decide) ?_
          refine J_iald (j := 5) hX dX0_mismatch_201 ka_393 le_393 (vp_lit (by decide)) (by decide) ?_
          refine J_aload_n hX dX0_mismatch_202 rfl 0 rfl ?_
          refine J_getR hX kf_RX0_46 dX0_mismatch_203 ka_267 (by decide) rfl rh_267_9 ?_
          refine J_iconst (v := (3 : Int32)) hX dX0_mismatch_206 (by decide) ?_
          refine J_iald (j := 3) hX dX0_mismatch_207 ka_393 le_393 (vp_lit (by decide)) (by decide) ?_
          refine J_isub hX dX0_mismatch_208 ?_
          have hj25 : ∀ y21 : Int32, y21 = (if ((m18.1 393 2) - (m18.1 393 0)) = ((m18.1 393 5) - (m18.1 393 3)) then (if ((m18.1 394 2) - (m18.1 394 0)) = ((m18.1 394 5) - (m18.1 394 3)) then (1 : Int32) else (0 : Int32)) else (0 : Int32)) → J X (0, 0) 246 [(5, .int y17)] [.int y21] (fl ad m18) := by
            intro y21 e_y21
            replace h := h y21 e_y21
            refine J_istore (lv2 := [(6, .int y21), (5, .int y17)]) hX dX0_mismatch_246 (Nat.le_of_ble_eq_true rfl) rfl ?_
            refine J_iload hX dX0_mismatch_248 0 rfl ?_
            have hj24 : ∀ y23 : Int32, y23 = (if y21 = (0 : Int32) then (mx32 (100 : Int32) y17) else y17) → J X (0, 0) 265 [] [.int y23] (fl ad m18) := by
              intro y23 e_y23
              replace h := h y23 e_y23
              exact J_iret hX hR dX0_mismatch_265 ⟨_, _, rfl, rfl, h⟩
            refine J_if_eq (tgt := 258) hX dX0_mismatch_250 (by decide) (fun c22 => ?_) (fun c22 => ?_)
            · refine J_bipush (v := (100 : Int32)) hX dX0_mismatch_258 (by decide) ?_
              refine J_iload hX dX0_mismatch_260 1 rfl ?_
              refine J_mmax hX kl_RX0_132 dX0_mismatch_262 (Nat.le_of_ble_eq_true rfl) (Nat.le_of_ble_eq_true rfl) ⟨Nat.le_of_ble_eq_true rfl, Nat.le_of_ble_eq_true rfl⟩ ?_
              exact J_sub [] rfl (hj24 _ (if_pos c22).symm)
            · refine J_iload hX dX0_mismatch_253 1 rfl ?_
              refine J_goto (tgt := 265) hX dX0_mismatch_255 (by decide) ?_
              exact J_sub [] rfl (hj24 _ (if_neg c22).symm)
          refine J_icmp_ne (tgt := 245) hX dX0_mismatch_209 (by decide) (fun c19 => ?_) (fun c19 => ?_)
          · refine J_iconst (v := (0 : Int32)) hX dX0_mismatch_245 (by decide) ?_
            exact J_sub [1] rfl (hj25 _ (if_neg c19).symm)
          · refine J_aload_n hX dX0_mismatch_212 rfl 0 rfl ?_
            refine J_getR hX kf_RX0_49 dX0_mismatch_213 ka_267 (by decide) rfl rh_267_10 ?_
            refine J_iconst (v := (2 : Int32)) hX dX0_mismatch_216 (by decide) ?_
            refine J_iald (j := 2) hX dX0_mismatch_217 ka_394 le_394 (vp_lit (by decide)) (by decide) ?_
            refine J_aload_n hX dX0_mismatch_218 rfl 0 rfl ?_
            refine J_getR hX kf_RX0_49 dX0_mismatch_219 ka_267 (by decide) rfl rh_267_10 ?_
            refine J_iconst (v := (0 : Int32)) hX dX0_mismatch_222 (by decide) ?_
            refine J_iald (j := 0) hX dX0_mismatch_223 ka_394 le_394 (vp_lit (by decide)) (by decide) ?_
            refine J_isub hX dX0_mismatch_224 ?_
            refine J_aload_n hX dX0_mismatch_225 rfl 0 rfl ?_
            refine J_getR hX kf_RX0_49 dX0_mismatch_226 ka_267 (by decide) rfl rh_267_10 ?_
            refine J_iconst (v := (5 : Int32)) hX dX0_mismatch_229 (by decide) ?_
            refine J_iald (j := 5) hX dX0_mismatch_230 ka_394 le_394 (vp_lit (by decide)) (by decide) ?_
            refine J_aload_n hX dX0_mismatch_231 rfl 0 rfl ?_
            refine J_getR hX kf_RX0_49 dX0_mismatch_232 ka_267 (by decide) rfl rh_267_10 ?_
            refine J_iconst (v := (3 : Int32)) hX dX0_mismatch_235 (by decide) ?_
            refine J_iald (j := 3) hX dX0_mismatch_236 ka_394 le_394 (vp_lit (by decide)) (by decide) ?_
            refine J_isub hX dX0_mismatch_237 ?_
            refine J_icmp_ne (tgt := 245) hX dX0_mismatch_238 (by decide) (fun c20 => ?_) (fun c20 => ?_)
            · refine J_iconst (v := (0 : Int32)) hX dX0_mismatch_245 (by decide) ?_
              exact J_sub [1] rfl (hj25 _ ((if_pos c19).trans (if_neg c20)).symm)
            · refine J_iconst (v := (1 : Int32)) hX dX0_mismatch_241 (by decide) ?_
              refine J_goto (tgt := 246) hX dX0_mismatch_242 (by decide) ?_
              exact J_sub [1] rfl (hj25 _ ((if_pos c19).trans (if_pos c20)).symm)
        · replace h := Eq.mp (if_pos c8) h
          refine J_bipush (v := (-9 : Int32)) hX dX0_mismatch_88 (by decide) ?_
          exact J_iret hX hR dX0_mismatch_90 ⟨_, _, rfl, rfl, h⟩
    · replace h := Eq.mp (if_neg c4) h
      refine J_bipush (v := (-9 : Int32)) hX dX0_mismatch_48 (by decide) ?_
      exact J_iret hX hR dX0_mismatch_50 ⟨_, _, rfl, rfl, h⟩
theorem bv_X11_isPosition (x0 : Int32) : bo (v_X11_isPosition x0) := (bo_ite bo_0 (bo_ite bo_0 bo_1))
set_option maxRecDepth 100000 in
theorem c_X11_isPosition {G : GT} {ad : Nat → Nat} (x0 : Int32) (m : Mm) : Cn G yX11_isPosition cX11_isPosition 1 (some .boolean) (rmN 0 0) [.int x0] (0, 0) (fl ad m) (fun v w => v = some (.int (v_X11_isPosition x0)) ∧ w = fl ad m) := by
  refine Cn.of pn_RX11 (Nat.le_of_ble_eq_true rfl) (fun X hG hX hR => ?_)
  subst hG
  have hX : Cx X cX11_isPosition 1 RX11 (rmN 0 0) := hX
  show J X (0, 0) 0 [(0, .int x0)] [] (fl ad m)
  refine J_iload_n hX dX11_isPosition_0 rfl 0 rfl ?_
  refine J_sipush (v := (-300 : Int32)) hX dX11_isPosition_1 (by decide) ?_
  have hj3 : ∀ y4 : Int32, y4 = (if x0 < (-300 : Int32) then (0 : Int32) else (if (300 : Int32) < x0 then (0 : Int32) else (1 : Int32))) → J X (0, 0) 19 [] [.int y4] (fl ad m) := by
    intro y4 e_y4
    subst e_y4
    exact J_zret hX hR dX11_isPosition_19 (bo_ite bo_0 (bo_ite bo_0 bo_1)) (And.intro (congrArg (fun z => some (Value.int z)) (show (if x0 < (-300 : Int32) then (0 : Int32) else (if (300 : Int32) < x0 then (0 : Int32) else (1 : Int32))) = v_X11_isPosition x0 from rfl)) rfl)
  refine J_icmp_lt (tgt := 18) hX dX11_isPosition_4 (by decide) (fun c1 => ?_) (fun c1 => ?_)
  · refine J_iconst (v := (0 : Int32)) hX dX11_isPosition_18 (by decide) ?_
    exact J_sub [] rfl (hj3 _ (if_pos c1).symm)
  · refine J_iload_n hX dX11_isPosition_7 rfl 0 rfl ?_
    refine J_sipush (v := (300 : Int32)) hX dX11_isPosition_8 (by decide) ?_
    refine J_icmp_gt (tgt := 18) hX dX11_isPosition_11 (by decide) (fun c2 => ?_) (fun c2 => ?_)
    · refine J_iconst (v := (0 : Int32)) hX dX11_isPosition_18 (by decide) ?_
      exact J_sub [] rfl (hj3 _ ((if_neg c1).trans (if_pos c2)).symm)
    · refine J_iconst (v := (1 : Int32)) hX dX11_isPosition_14 (by decide) ?_
      refine J_goto (tgt := 19) hX dX11_isPosition_15 (by decide) ?_
      exact J_sub [] rfl (hj3 _ ((if_neg c1).trans (if_neg c2)).symm)
set_option maxRecDepth 100000 in
theorem tb_X0_plan_l133 {X : XT} {ad : Nat → Nat} {K : Int32 → Mm → Prop} (hX : Cx X cX0_plan 8 RX0 (rmN 3 72)) (hR : Rx X (some .boolean) (kI ad K) (0, 0)) {rec : Int32 → Mm → Prop} {k151 : Int32 → Mm → Prop} (a1 : Nat) (h1 : kap a1 = 3) (x3 : Int32) (hrec : ∀ (x7 : Int32) (m : Mm), rec x7 m → J X (0, 0) 133 [(0, .ref (ad 267)), (1, .ref (ad a1)), (3, .int x3), (7, .int x7)] [] (fl ad m)) (hk151 : ∀ (z7 : Int32) (m : Mm), k151 z7 m → J X (0, 0) 151 [(0, .ref (ad 267)), (7, .int z7)] [] (fl ad m)) (x7 : Int32) (m : Mm) (h : wb_X0_plan_l133 rec k151 K a1 x3 x7 m) : J X (0, 0) 133 [(0, .ref (ad 267)), (1, .ref (ad a1)), (3, .int x3), (7, .int x7)] [] (fl ad m) := by
  unfold wb_X0_plan_l133 at h
  refine J_iload hX dX0_plan_133 3 rfl ?_
  refine J_bipush (v := (8 : Int32)) hX dX0_plan_135 (by decide) ?_
  refine J_icmp_ge (tgt := 189) hX dX0_plan_137 (by decide) (fun c23 => ?_) (fun c23 => ?_)
  · replace h := Eq.mp (if_pos c23) h
    refine J_iconst (v := (0 : Int32)) hX dX0_plan_189 (by decide) ?_
    exact J_zret hX hR dX0_plan_190 bo_0 ⟨_, _, rfl, rfl, h⟩
  · replace h := Eq.mp (if_neg c23) h
    refine J_aload_n hX dX0_plan_140 rfl 0 rfl ?_
    refine J_aload_n hX dX0_plan_141 rfl 1 rfl ?_
    refine J_iload hX dX0_plan_142 3 rfl ?_
    refine J_iload_n hX dX0_plan_144 rfl 2 rfl ?_
    refine J_callV hX km_X0_agrees kl_RX0_163 dX0_plan_145 ka_267 (by decide) [.ref (ad a1), .int x7, .int x3] ⟨Nat.le_of_ble_eq_true rfl, Nat.le_of_ble_eq_true rfl⟩ rfl rfl (Nat.le_of_ble_eq_true rfl) (c_X0_agrees a1 h1 x7 x3 m _ h) (fun v w2 hk => ?_)
    obtain ⟨y25, m24, rfl, rfl, h⟩ := hk
    show J X (0, 0) 148 [(0, .ref (ad 267)), (1, .ref (ad a1)), (3, .int x3), (7, .int x7)] [.int y25] (fl ad m24)
    refine J_if_eq (tgt := 183) hX dX0_plan_148 (by decide) (fun c26 => ?_) (fun c26 => ?_)
    · replace h := Eq.mp (if_pos c26) h
      refine J_iinc (x := (x7 + (1 : Int32))) (lv2 := [(7, .int (x7 + (1 : Int32))), (0, .ref (ad 267)), (1, .ref (ad a1)), (3, .int x3)]) hX dX0_plan_183 3 rfl rfl (Nat.le_of_ble_eq_true rfl) rfl ?_
      refine J_goto (tgt := 133) hX dX0_plan_186 (by decide) ?_
      exact J_sub [1, 2, 3, 0] rfl (hrec (x7 + (1 : Int32)) m24 h)
    · replace h := Eq.mp (if_neg c26) h
      exact J_sub [0, 3] rfl (hk151 x7 m24 h)
set_option maxRecDepth 100000 in
theorem t_X0_plan_l133 {X : XT} {ad : Nat → Nat} {K : Int32 → Mm → Prop} (hX : Cx X cX0_plan 8 RX0 (rmN 3 72)) (hR : Rx X (some .boolean) (kI ad K) (0, 0)) {k151 : Int32 → Mm → Prop} (a1 : Nat) (h1 : kap a1 = 3) (x3 : Int32) (hk151 : ∀ (z7 : Int32) (m : Mm), k151 z7 m → J X (0, 0) 151 [(0, .ref (ad 267)), (7, .int z7)] [] (fl ad m)) : ∀ (n : Nat) (x7 : Int32) (m : Mm), wp_X0_plan_l133 k151 K a1 x3 n x7 m → J X (0, 0) 133 [(0, .ref (ad 267)), (1, .ref (ad a1)), (3, .int x3), (7, .int x7)] [] (fl ad m) := by
  intro n
  induction n with
  | zero => intro x7 m h; exact h.elim
  | succ n ih => intro x7 m h; exact tb_X0_plan_l133 hX hR a1 h1 x3 ih hk151 x7 m h
set_option maxRecDepth 100000 in
theorem c_X0_plan {G : GT} {ad : Nat → Nat} (a1 : Nat) (h1 : kap a1 = 3) (x2 : Int32) (x3 : Int32) (m : Mm) (K : Int32 → Mm → Prop) (h : wp_X0_plan a1 x2 x3 m K) : Cn G yX0_plan cX0_plan 8 (some .boolean) (rmN 3 72) [.ref (ad 267), .ref (ad a1), .int x2, .int x3] (0, 0) (fl ad m) (kI ad K) := by
  unfold wp_X0_plan at h
  refine Cn.of pn_RX0 (Nat.le_of_ble_eq_true rfl) (fun X hG hX hR => ?_)
  subst hG
  have hX : Cx X cX0_plan 8 RX0 (rmN 3 72) := hX
  show J X (0, 0) 0 [(0, .ref (ad 267)), (1, .ref (ad a1)), (2, .int x2), (3, .int x3)] [] (fl ad m)
  refine J_iload_n hX dX0_plan_0 rfl 3 rfl ?_
  obtain ⟨g4, h⟩ := h
  have hj45 : ∀ y5 : Int32, y5 = (if x3 = (0 : Int32) then (v_X10_panelP x2 m) else (v_X10_panelQ x2 m)) → J X (0, 0) 23 [(0, .ref (ad 267)), (1, .ref (ad a1)), (2, .int x2), (3, .int x3)] [.int y5] (fl ad m) := by
    intro y5 e_y5
    replace h := h y5 e_y5
    refine J_istore (lv2 := [(4, .int y5), (0, .ref (ad 267)), (1, .ref (ad a1)), (2, .int x2), (3, .int x3)]) hX dX0_plan_23 (Nat.le_of_ble_eq_true rfl) rfl ?_
    refine J_aload_n hX dX0_plan_25 rfl 2 rfl ?_
    refine J_iload hX dX0_plan_26 0 rfl ?_
    refine J_callV hX km_X3_panelAt kl_RX0_144 dX0_plan_28 h1 (by decide) [.int y5] ⟨Nat.le_of_ble_eq_true rfl, Nat.le_of_ble_eq_true rfl⟩ rfl rfl (Nat.le_of_ble_eq_true rfl) (c_X3_panelAt a1 h1 y5 m) (fun v w2 hk => ?_)
    obtain ⟨rfl, rfl⟩ := hk
    show J X (0, 0) 31 [(4, .int y5), (0, .ref (ad 267)), (1, .ref (ad a1)), (2, .int x2), (3, .int x3)] [.ref (ad (v_X3_panelAt a1 y5))] (fl ad m)
    refine J_astore (lv2 := [(5, .ref (ad (v_X3_panelAt a1 y5))), (4, .int y5), (0, .ref (ad 267)), (1, .ref (ad a1)), (2, .int x2), (3, .int x3)]) hX dX0_plan_31 (Nat.le_of_ble_eq_true rfl) rfl ?_
    refine J_iload_n hX dX0_plan_33 rfl 5 rfl ?_
    obtain ⟨g9, h⟩ := h
    have hj40 : ∀ y10 : Int32, y10 = (if x3 = (0 : Int32) then (v_X10_sideOfP x2 m) else (v_X10_sideOfQ x2 m)) → J X (0, 0) 56 [(0, .ref (ad 267)), (1, .ref (ad a1)), (2, .int x2), (3, .int x3), (5, .ref (ad (v_X3_panelAt a1 y5)))] [.int y10] (fl ad m) := by
      intro y10 e_y10
      replace h := h y10 e_y10
      refine J_istore (lv2 := [(6, .int y10), (0, .ref (ad 267)), (1, .ref (ad a1)), (2, .int x2), (3, .int x3), (5, .ref (ad (v_X3_panelAt a1 y5)))]) hX dX0_plan_56 (Nat.le_of_ble_eq_true rfl) rfl ?_
      refine J_aload_n hX dX0_plan_58 rfl 2 rfl ?_
      refine J_aload hX dX0_plan_59 5 rfl ?_
      refine J_iload hX dX0_plan_61 0 rfl ?_
      refine J_callS hX km_X0_reachAt kl_RX0_148 dX0_plan_63 [.ref (ad a1), .ref (ad (v_X3_panelAt a1 y5)), .int y10] ⟨Nat.le_of_ble_eq_true rfl, Nat.le_of_ble_eq_true rfl⟩ rfl rfl (Nat.le_of_ble_eq_true rfl) (c_X0_reachAt a1 h1 (v_X3_panelAt a1 y5) (kv_X3_panelAt h1) y10 m) (fun v w2 hk => ?_)
      obtain ⟨rfl, rfl⟩ := hk
      show J X (0, 0) 66 [(6, .int y10), (0, .ref (ad 267)), (1, .ref (ad a1)), (2, .int x2), (3, .int x3), (5, .ref (ad (v_X3_panelAt a1 y5)))] [.int (v_X0_reachAt a1 (v_X3_panelAt a1 y5) y10 m)] (fl ad m)
      refine J_bipush (v := (-9 : Int32)) hX dX0_plan_66 (by decide) ?_
      refine J_icmp_ne (tgt := 73) hX dX0_plan_68 (by decide) (fun c11 => ?_) (fun c11 => ?_)
      · replace h := Eq.mp (if_neg c11) h
        refine J_aload_n hX dX0_plan_73 rfl 1 rfl ?_
        refine J_iload_n hX dX0_plan_74 rfl 4 rfl ?_
        obtain ⟨g15, h⟩ := h
        have hj35 : ∀ y16 : Int32, y16 = (if x3 = (0 : Int32) then (v_X10_panelQ x2 m) else (v_X10_panelP x2 m)) → J X (0, 0) 97 [(0, .ref (ad 267)), (1, .ref (ad a1)), (2, .int x2), (3, .int x3), (5, .ref (ad (v_X3_panelAt a1 y5)))] [.int y16, .ref (ad 267)] (fl ad m) := by
          intro y16 e_y16
          replace h := h y16 e_y16
          refine J_putI hX kf_RX0_21 dX0_plan_97 ka_267 (by decide) rfl ?_
          refine J_nmM (fun m17 e_m17 => ?_)
          replace h := h m17 e_m17
          refine J_aload_n hX dX0_plan_100 rfl 0 rfl ?_
          refine J_aload hX dX0_plan_101 4 rfl ?_
          refine J_getI hX kf_RX0_55 dX0_plan_103 (kv_X3_panelAt h1) (by decide) rfl ?_
          refine J_putI hX kf_RX0_24 dX0_plan_106 ka_267 (by decide) rfl ?_
          refine J_nmM (fun m18 e_m18 => ?_)
          replace h := h m18 e_m18
          refine J_aload_n hX dX0_plan_109 rfl 0 rfl ?_
          refine J_iload_n hX dX0_plan_110 rfl 2 rfl ?_
          refine J_callV hX km_X0_takePoints kl_RX0_152 dX0_plan_111 ka_267 (by decide) [.int x2] ⟨Nat.le_of_ble_eq_true rfl, Nat.le_of_ble_eq_true rfl⟩ rfl rfl (Nat.le_of_ble_eq_true rfl) (c_X0_takePoints x2 m18 _ h) (fun v w2 hk => ?_)
          obtain ⟨m19, rfl, rfl, h⟩ := hk
          show J X (0, 0) 114 [(0, .ref (ad 267)), (1, .ref (ad a1)), (2, .int x2), (3, .int x3), (5, .ref (ad (v_X3_panelAt a1 y5)))] [] (fl ad m19)
          refine J_aload_n hX dX0_plan_114 rfl 0 rfl ?_
          refine J_aload_n hX dX0_plan_115 rfl 1 rfl ?_
          refine J_aload hX dX0_plan_116 4 rfl ?_
          refine J_iload_n hX dX0_plan_118 rfl 3 rfl ?_
          have hj34 : ∀ y21 : Int32, y21 = (if x3 = (0 : Int32) then (0 : Int32) else (3 : Int32)) → J X (0, 0) 127 [(0, .ref (ad 267)), (1, .ref (ad a1)), (3, .int x3)] [.int y21, .ref (ad (v_X3_panelAt a1 y5)), .ref (ad a1), .ref (ad 267)] (fl ad m19) := by
            intro y21 e_y21
            replace h := h y21 e_y21
            refine J_callV hX km_X0_takeCoordinates kl_RX0_156 dX0_plan_127 ka_267 (by decide) [.ref (ad a1), .ref (ad (v_X3_panelAt a1 y5)), .int y21] ⟨Nat.le_of_ble_eq_true rfl, Nat.le_of_ble_eq_true rfl⟩ rfl rfl (Nat.le_of_ble_eq_true rfl) (c_X0_takeCoordinates a1 h1 (v_X3_panelAt a1 y5) (kv_X3_panelAt h1) y21 m19 _ h) (fun v w2 hk => ?_)
            obtain ⟨m22, rfl, rfl, h⟩ := hk
            show J X (0, 0) 130 [(0, .ref (ad 267)), (1, .ref (ad a1)), (3, .int x3)] [] (fl ad m22)
            refine J_iconst (v := (0 : Int32)) hX dX0_plan_130 (by decide) ?_
            refine J_istore (lv2 := [(7, .int (0 : Int32)), (0, .ref (ad 267)), (1, .ref (ad a1)), (3, .int x3)]) hX dX0_plan_131 (Nat.le_of_ble_eq_true rfl) rfl ?_
            refine J_sub [1, 2, 3, 0] rfl (t_X0_plan_l133 hX hR a1 h1 x3 (fun y27 m28 h => ?_) FU (0 : Int32) m22 h)
            refine J_aload_n hX dX0_plan_151 rfl 0 rfl ?_
            refine J_iload hX dX0_plan_152 1 rfl ?_
            refine J_putI hX kf_RX0_9 dX0_plan_154 ka_267 (by decide) rfl ?_
            refine J_nmM (fun m29 e_m29 => ?_)
            replace h := h m29 e_m29
            refine J_aload_n hX dX0_plan_157 rfl 0 rfl ?_
            refine J_getI hX kf_RX0_15 dX0_plan_158 ka_267 (by decide) rfl ?_
            refine J_callSN hX km_X11_isPosition kl_RX0_167 dX0_plan_161 [.int (m29.1 267 1)] ⟨Nat.le_of_ble_eq_true rfl, Nat.le_of_ble_eq_true rfl⟩ rfl rfl (Nat.le_of_ble_eq_true rfl) (c_X11_isPosition (m29.1 267 1) m29) (fun v w2 hk => ?_)
            obtain ⟨rfl, rfl⟩ := hk
            show J X (0, 0) 164 [(0, .ref (ad 267)), (7, .int y27)] [.int (v_X11_isPosition (m29.1 267 1))] (fl ad m29)
            have hj33 : ∀ y32 : Int32, y32 = (if (v_X11_isPosition (m29.1 267 1)) = (0 : Int32) then (0 : Int32) else (if (v_X11_isPosition (m29.1 267 2)) = (0 : Int32) then (0 : Int32) else (1 : Int32))) → J X (0, 0) 182 [] [.int y32] (fl ad m29) := by
              intro y32 e_y32
              replace h := h y32 e_y32
              exact J_zret hX hR dX0_plan_182 (by rw [e_y32]; exact (bo_ite bo_0 (bo_ite bo_0 bo_1))) ⟨_, _, rfl, rfl, h⟩
            refine J_if_eq (tgt := 181) hX dX0_plan_164 (by decide) (fun c30 => ?_) (fun c30 => ?_)
            · refine J_iconst (v := (0 : Int32)) hX dX0_plan_181 (by decide) ?_
              exact J_sub [] rfl (hj33 _ (if_pos c30).symm)
            · refine J_aload_n hX dX0_plan_167 rfl 0 rfl ?_
              refine J_getI hX kf_RX0_18 dX0_plan_168 ka_267 (by decide) rfl ?_
              refine J_callSN hX km_X11_isPosition kl_RX0_167 dX0_plan_171 [.int (m29.1 267 2)] ⟨Nat.le_of_ble_eq_true rfl, Nat.le_of_ble_eq_true rfl⟩ rfl rfl (Nat.le_of_ble_eq_true rfl) (c_X11_isPosition (m29.1 267 2) m29) (fun v w2 hk => ?_)
              obtain ⟨rfl, rfl⟩ := hk
              show J X (0, 0) 174 [(0, .ref (ad 267)), (7, .int y27)] [.int (v_X11_isPosition (m29.1 267 2))] (fl ad m29)
              refine J_if_eq (tgt := 181) hX dX0_plan_174 (by decide) (fun c31 => ?_) (fun c31 => ?_)
              · refine J_iconst (v := (0 : Int32)) hX dX0_plan_181 (by decide) ?_
                exact J_sub [] rfl (hj33 _ ((if_neg c30).trans (if_pos c31)).symm)
              · refine J_iconst (v := (1 : Int32)) hX dX0_plan_177 (by decide) ?_
                refine J_goto (tgt := 182) hX dX0_plan_178 (by decide) ?_
                exact J_sub [] rfl (hj33 _ ((if_neg c30).trans (if_neg c31)).symm)
          refine J_if_eq (tgt := 126) hX dX0_plan_119 (by decide) (fun c20 => ?_) (fun c20 => ?_)
          · refine J_iconst (v := (0 : Int32)) hX dX0_plan_126 (by decide) ?_
            exact J_sub [0, 1, 3] rfl (hj34 _ (if_pos c20).symm)
          · refine J_iconst (v := (3 : Int32)) hX dX0_plan_122 (by decide) ?_
            refine J_goto (tgt := 127) hX dX0_plan_123 (by decide) ?_
            exact J_sub [0, 1, 3] rfl (hj34 _ (if_neg c20).symm)
        obtain ⟨g36, g37⟩ := g15
        refine J_if_eq (tgt := 89) hX dX0_plan_75 (by decide) (fun c12 => ?_) (fun c12 => ?_)
        · have g38 := g36 c12
          have b13 := g38
          refine J_aload_n hX dX0_plan_89 rfl 1 rfl ?_
          refine J_getR hX kf_RX0_30 dX0_plan_90 ka_267 (by decide) rfl rh_267_5 ?_
          refine J_iload_n hX dX0_plan_93 rfl 3 rfl ?_
          refine J_callV hX km_X10_panelQ kl_RX0_100 dX0_plan_94 ka_268 (by decide) [.int x2] ⟨Nat.le_of_ble_eq_true rfl, Nat.le_of_ble_eq_true rfl⟩ rfl rfl (Nat.le_of_ble_eq_true rfl) (c_X10_panelQ x2 m b13) (fun v w2 hk => ?_)
          obtain ⟨rfl, rfl⟩ := hk
          show J X (0, 0) 97 [(6, .int y10), (0, .ref (ad 267)), (1, .ref (ad a1)), (2, .int x2), (3, .int x3), (5, .ref (ad (v_X3_panelAt a1 y5)))] [.int (v_X10_panelQ x2 m), .ref (ad 267)] (fl ad m)
          exact J_sub [1, 2, 3, 4, 5] rfl (hj35 _ (if_pos c12).symm)
        · have g39 := g37 c12
          have b14 := g39
          refine J_aload_n hX dX0_plan_78 rfl 1 rfl ?_
          refine J_getR hX kf_RX0_30 dX0_plan_79 ka_267 (by decide) rfl rh_267_5 ?_
          refine J_iload_n hX dX0_plan_82 rfl 3 rfl ?_
          refine J_callV hX km_X10_panelP kl_RX0_91 dX0_plan_83 ka_268 (by decide) [.int x2] ⟨Nat.le_of_ble_eq_true rfl, Nat.le_of_ble_eq_true rfl⟩ rfl rfl (Nat.le_of_ble_eq_true rfl) (c_X10_panelP x2 m b14) (fun v w2 hk => ?_)
          obtain ⟨rfl, rfl⟩ := hk
          show J X (0, 0) 86 [(6, .int y10), (0, .ref (ad 267)), (1, .ref (ad a1)), (2, .int x2), (3, .int x3), (5, .ref (ad (v_X3_panelAt a1 y5)))] [.int (v_X10_panelP x2 m), .ref (ad 267)] (fl ad m)
          refine J_goto (tgt := 97) hX dX0_plan_86 (by decide) ?_
          exact J_sub [1, 2, 3, 4, 5] rfl (hj35 _ (if_neg c12).symm)
      · replace h := Eq.mp (if_pos c11) h
        refine J_iconst (v := (0 : Int32)) hX dX0_plan_71 (by decide) ?_
        exact J_zret hX hR dX0_plan_72 bo_0 ⟨_, _, rfl, rfl, h⟩
    obtain ⟨g41, g42⟩ := g9
    refine J_if_eq (tgt := 48) hX dX0_plan_34 (by decide) (fun c6 => ?_) (fun c6 => ?_)
    · have g43 := g41 c6
      have b7 := g43
      refine J_aload_n hX dX0_plan_48 rfl 2 rfl ?_
      refine J_getR hX kf_RX0_30 dX0_plan_49 ka_267 (by decide) rfl rh_267_5 ?_
      refine J_iload_n hX dX0_plan_52 rfl 4 rfl ?_
      refine J_callV hX km_X10_sideOfP kl_RX0_103 dX0_plan_53 ka_268 (by decide) [.int x2] ⟨Nat.le_of_ble_eq_true rfl, Nat.le_of_ble_eq_true rfl⟩ rfl rfl (Nat.le_of_ble_eq_true rfl) (c_X10_sideOfP x2 m b7) (fun v w2 hk => ?_)
      obtain ⟨rfl, rfl⟩ := hk
      show J X (0, 0) 56 [(5, .ref (ad (v_X3_panelAt a1 y5))), (4, .int y5), (0, .ref (ad 267)), (1, .ref (ad a1)), (2, .int x2), (3, .int x3)] [.int (v_X10_sideOfP x2 m)] (fl ad m)
      exact J_sub [2, 3, 4, 5, 0] rfl (hj40 _ (if_pos c6).symm)
    · have g44 := g42 c6
      have b8 := g44
      refine J_aload_n hX dX0_plan_37 rfl 2 rfl ?_
      refine J_getR hX kf_RX0_30 dX0_plan_38 ka_267 (by decide) rfl rh_267_5 ?_
      refine J_iload_n hX dX0_plan_41 rfl 4 rfl ?_
      refine J_callV hX km_X10_sideOfQ kl_RX0_106 dX0_plan_42 ka_268 (by decide) [.int x2] ⟨Nat.le_of_ble_eq_true rfl, Nat.le_of_ble_eq_true rfl⟩ rfl rfl (Nat.le_of_ble_eq_true rfl) (c_X10_sideOfQ x2 m b8) (fun v w2 hk => ?_)
      obtain ⟨rfl, rfl⟩ := hk
      show J X (0, 0) 45 [(5, .ref (ad (v_X3_panelAt a1 y5))), (4, .int y5), (0, .ref (ad 267)), (1, .ref (ad a1)), (2, .int x2), (3, .int x3)] [.int (v_X10_sideOfQ x2 m)] (fl ad m)
      refine J_goto (tgt := 56) hX dX0_plan_45 (by decide) ?_
      exact J_sub [2, 3, 4, 5, 0] rfl (hj40 _ (if_neg c6).symm)
  obtain ⟨g46, g47⟩ := g4
  refine J_if_eq (tgt := 15) hX dX0_plan_1 (by decide) (fun c1 => ?_) (fun c1 => ?_)
  · have g48 := g46 c1
    have b2 := g48
    refine J_aload_n hX dX0_plan_15 rfl 0 rfl ?_
    refine J_getR hX kf_RX0_30 dX0_plan_16 ka_267 (by decide) rfl rh_267_5 ?_
    refine J_iload_n hX dX0_plan_19 rfl 2 rfl ?_
    refine J_callV hX km_X10_panelP kl_RX0_91 dX0_plan_20 ka_268 (by decide) [.int x2] ⟨Nat.le_of_ble_eq_true rfl, Nat.le_of_ble_eq_true rfl⟩ rfl rfl (Nat.le_of_ble_eq_true rfl) (c_X10_panelP x2 m b2) (fun v w2 hk => ?_)
    obtain ⟨rfl, rfl⟩ := hk
    show J X (0, 0) 23 [(0, .ref (ad 267)), (1, .ref (ad a1)), (2, .int x2), (3, .int x3)] [.int (v_X10_panelP x2 m)] (fl ad m)
    exact J_sub [0, 1, 2, 3] rfl (hj45 _ (if_pos c1).symm)
  · have g49 := g47 c1
    have b3 := g49
    refine J_aload_n hX dX0_plan_4 rfl 0 rfl ?_
    refine J_getR hX kf_RX0_30 dX0_plan_5 ka_267 (by decide) rfl rh_267_5 ?_
    refine J_iload_n hX dX0_plan_8 rfl 2 rfl ?_
    refine J_callV hX km_X10_panelQ kl_RX0_100 dX0_plan_9 ka_268 (by decide) [.int x2] ⟨Nat.le_of_ble_eq_true rfl, Nat.le_of_ble_eq_true rfl⟩ rfl rfl (Nat.le_of_ble_eq_true rfl) (c_X10_panelQ x2 m b3) (fun v w2 hk => ?_)
    obtain ⟨rfl, rfl⟩ := hk
    show J X (0, 0) 12 [(0, .ref (ad 267)), (1, .ref (ad a1)), (2, .int x2), (3, .int x3)] [.int (v_X10_panelQ x2 m)] (fl ad m)
    refine J_goto (tgt := 23) hX dX0_plan_12 (by decide) ?_
    exact J_sub [0, 1, 2, 3] rfl (hj45 _ (if_neg c1).symm)
theorem bv_X0_shows (a0 : Nat) (a1 : Nat) (m : Mm) : bo (v_X0_shows a0 a1 m) := (bv_X0_isSeen a1 (v_X0_rightEnd a0 a1 m) (v_X0_upperEnd a0 a1 m) m)
set_option maxRecDepth 100000 in
theorem c_X0_shows {G : GT} {ad : Nat → Nat} (a0 : Nat) (h0 : kap a0 = 3) (a1 : Nat) (h1 : kap a1 = 7) (m : Mm) : Cn G yX0_shows cX0_shows 2 (some .boolean) (rmN 2 43) [.ref (ad a0), .ref (ad a1)] (0, 0) (fl ad m) (fun v w => v = some (.int (v_X0_shows a0 a1 m)) ∧ w = fl ad m) := by
  refine Cn.of pn_RX0 (Nat.le_of_ble_eq_true rfl) (fun X hG hX hR => ?_)
  subst hG
  have hX : Cx X cX0_shows 2 RX0 (rmN 2 43) := hX
  show J X (0, 0) 0 [(0, .ref (ad a0)), (1, .ref (ad a1))] [] (fl ad m)
  refine J_aload_n hX dX0_shows_0 rfl 1 rfl ?_
  refine J_aload_n hX dX0_shows_1 rfl 0 rfl ?_
  refine J_aload_n hX dX0_shows_2 rfl 1 rfl ?_
  refine J_callS hX km_X0_rightEnd kl_RX0_74 dX0_shows_3 [.ref (ad a0), .ref (ad a1)] ⟨Nat.le_of_ble_eq_true rfl, Nat.le_of_ble_eq_true rfl⟩ rfl rfl (Nat.le_of_ble_eq_true rfl) (c_X0_rightEnd a0 h0 a1 h1 m) (fun v w2 hk => ?_)
  obtain ⟨rfl, rfl⟩ := hk
  show J X (0, 0) 6 [(0, .ref (ad a0)), (1, .ref (ad a1))] [.int (v_X0_rightEnd a0 a1 m), .ref (ad a1)] (fl ad m)
  refine J_aload_n hX dX0_shows_6 rfl 0 rfl ?_
  refine J_aload_n hX dX0_shows_7 rfl 1 rfl ?_
  refine J_callS hX km_X0_upperEnd kl_RX0_78 dX0_shows_8 [.ref (ad a0), .ref (ad a1)] ⟨Nat.le_of_ble_eq_true rfl, Nat.le_of_ble_eq_true rfl⟩ rfl rfl (Nat.le_of_ble_eq_true rfl) (c_X0_upperEnd a0 h0 a1 h1 m) (fun v w2 hk => ?_)
  obtain ⟨rfl, rfl⟩ := hk
  show J X (0, 0) 11 [(0, .ref (ad a0)), (1, .ref (ad a1))] [.int (v_X0_upperEnd a0 a1 m), .int (v_X0_rightEnd a0 a1 m), .ref (ad a1)] (fl ad m)
  refine J_callS hX km_X0_isSeen kl_RX0_81 dX0_shows_11 [.ref (ad a1), .int (v_X0_rightEnd a0 a1 m), .int (v_X0_upperEnd a0 a1 m)] ⟨Nat.le_of_ble_eq_true rfl, Nat.le_of_ble_eq_true rfl⟩ rfl rfl (Nat.le_of_ble_eq_true rfl) (c_X0_isSeen a1 h1 (v_X0_rightEnd a0 a1 m) (v_X0_upperEnd a0 a1 m) m) (fun v w2 hk => ?_)
  obtain ⟨rfl, rfl⟩ := hk
  show J X (0, 0) 14 [(0, .ref (ad a0)), (1, .ref (ad a1))] [.int (v_X0_isSeen a1 (v_X0_rightEnd a0 a1 m) (v_X0_upperEnd a0 a1 m) m)] (fl ad m)
  exact J_zret hX hR dX0_shows_14 (bv_X0_isSeen a1 (v_X0_rightEnd a0 a1 m) (v_X0_upperEnd a0 a1 m) m) (And.intro (congrArg (fun z => some (Value.int z)) (show (v_X0_isSeen a1 (v_X0_rightEnd a0 a1 m) (v_X0_upperEnd a0 a1 m) m) = v_X0_shows a0 a1 m from rfl)) rfl)
theorem bv_X7_isFlap (a0 : Nat) (m : Mm) : bo (v_X7_isFlap a0 m) := (bo_ite bo_0 bo_1)
set_option maxRecDepth 100000 in
theorem c_X7_isFlap {G : GT} {ad : Nat → Nat} (a0 : Nat) (h0 : kap a0 = 7) (m : Mm) : Cn G yX7_isFlap cX7_isFlap 1 (some .boolean) (rmN 0 0) [.ref (ad a0)] (0, 0) (fl ad m) (fun v w => v = some (.int (v_X7_isFlap a0 m)) ∧ w = fl ad m) := by
  refine Cn.of pn_RX7 (Nat.le_of_ble_eq_true rfl) (fun X hG hX hR => ?_)
  subst hG
  have hX : Cx X cX7_isFlap 1 RX7 (rmN 0 0) := hX
  show J X (0, 0) 0 [(0, .ref (ad a0))] [] (fl ad m)
  refine J_aload_n hX dX7_isFlap_0 rfl 0 rfl ?_
  refine J_getI hX kf_RX7_18 dX7_isFlap_1 h0 (by decide) rfl ?_
  refine J_bipush (v := (-9 : Int32)) hX dX7_isFlap_4 (by decide) ?_
  have hj2 : ∀ y3 : Int32, y3 = (if (m.1 a0 6) = (-9 : Int32) then (0 : Int32) else (1 : Int32)) → J X (0, 0) 14 [] [.int y3] (fl ad m) := by
    intro y3 e_y3
    subst e_y3
    exact J_zret hX hR dX7_isFlap_14 (bo_ite bo_0 bo_1) (And.intro (congrArg (fun z => some (Value.int z)) (show (if (m.1 a0 6) = (-9 : Int32) then (0 : Int32) else (1 : Int32)) = v_X7_isFlap a0 m from rfl)) rfl)
  refine J_icmp_eq (tgt := 13) hX dX7_isFlap_6 (by decide) (fun c1 => ?_) (fun c1 => ?_)
  · refine J_iconst (v := (0 : Int32)) hX dX7_isFlap_13 (by decide) ?_
    exact J_sub [] rfl (hj2 _ (if_pos c1).symm)
  · refine J_iconst (v := (1 : Int32)) hX dX7_isFlap_9 (by decide) ?_
    refine J_goto (tgt := 14) hX dX7_isFlap_10 (by decide) ?_
    exact J_sub [] rfl (hj2 _ (if_neg c1).symm)
set_option maxRecDepth 100000 in
theorem tb_X0_spreadOnce_l2 {X : XT} {ad : Nat → Nat} {K : Int32 → Mm → Prop} (hX : Cx X cX0_spreadOnce 9 RX0 (rmN 4 99)) (hR : Rx X (some .boolean) (kI ad K) (0, 0)) {rec : Int32 → Mm → Prop} {k149 : Mm → Prop} (a1 : Nat) (h1 : kap a1 = 3) (x2 : Int32) (hrec : ∀ (x3 : Int32) (m : Mm), rec x3 m → J X (0, 0) 2 [(0, .ref (ad 267)), (1, .ref (ad a1)), (2, .int x2), (3, .int x3)] [] (fl ad m)) (hk149 : ∀ (m : Mm), k149 m → J X (0, 0) 149 [(0, .ref (ad 267)), (1, .ref (ad a1))] [] (fl ad m)) (x3 : Int32) (m : Mm) (h : wb_X0_spreadOnce_l2 rec k149 K a1 x2 x3 m) : J X (0, 0) 2 [(0, .ref (ad 267)), (1, .ref (ad a1)), (2, .int x2), (3, .int x3)] [] (fl ad m) := by
  unfold wb_X0_spreadOnce_l2 at h
  refine J_iload_n hX dX0_spreadOnce_2 rfl 3 rfl ?_
  refine J_iconst (v := (2 : Int32)) hX dX0_spreadOnce_3 (by decide) ?_
  refine J_aload_n hX dX0_spreadOnce_4 rfl 0 rfl ?_
  refine J_getR hX kf_RX0_30 dX0_spreadOnce_5 ka_267 (by decide) rfl rh_267_5 ?_
  refine J_getI hX kf_RX0_185 dX0_spreadOnce_8 ka_268 (by decide) rfl ?_
  refine J_imul hX dX0_spreadOnce_11 ?_
  refine J_icmp_ge (tgt := 162) hX dX0_spreadOnce_12 (by decide) (fun c1 => ?_) (fun c1 => ?_)
  · replace h := Eq.mp (if_pos c1) h
    refine J_iconst (v := (0 : Int32)) hX dX0_spreadOnce_162 (by decide) ?_
    exact J_zret hX hR dX0_spreadOnce_163 bo_0 ⟨_, _, rfl, rfl, h⟩
  · replace h := Eq.mp (if_neg c1) h
    refine J_iload_n hX dX0_spreadOnce_15 rfl 3 rfl ?_
    refine J_iconst (v := (2 : Int32)) hX dX0_spreadOnce_16 (by decide) ?_
    refine J_idiv hX dX0_spreadOnce_17 (by decide) ?_
    refine J_nmI (fun y2 e_y2 => ?_)
    replace h := h y2 e_y2
    refine J_istore (lv2 := [(4, .int y2), (0, .ref (ad 267)), (1, .ref (ad a1)), (2, .int x2), (3, .int x3)]) hX dX0_spreadOnce_18 (Nat.le_of_ble_eq_true rfl) rfl ?_
    refine J_iload_n hX dX0_spreadOnce_20 rfl 4 rfl ?_
    refine J_iconst (v := (2 : Int32)) hX dX0_spreadOnce_21 (by decide) ?_
    refine J_irem hX dX0_spreadOnce_22 (by decide) ?_
    refine J_iconst (v := (1 : Int32)) hX dX0_spreadOnce_23 (by decide) ?_
    have hj34 : ∀ y4 : Int32, y4 = (if (rm32 x3 (2 : Int32)) = (1 : Int32) then (1 : Int32) else (0 : Int32)) → J X (0, 0) 32 [(0, .ref (ad 267)), (1, .ref (ad a1)), (2, .int x2), (3, .int x3), (4, .int y2)] [.int y4] (fl ad m) := by
      intro y4 e_y4
      replace h := h y4 e_y4
      refine J_istore (lv2 := [(5, .int y4), (0, .ref (ad 267)), (1, .ref (ad a1)), (2, .int x2), (3, .int x3), (4, .int y2)]) hX dX0_spreadOnce_32 (Nat.le_of_ble_eq_true rfl) rfl ?_
      refine J_aload_n hX dX0_spreadOnce_34 rfl 2 rfl ?_
      refine J_iload hX dX0_spreadOnce_35 0 rfl ?_
      obtain ⟨g8, h⟩ := h
      have hj29 : ∀ y9 : Int32, y9 = (if y4 = (0 : Int32) then (v_X10_panelP y2 m) else (v_X10_panelQ y2 m)) → J X (0, 0) 61 [(0, .ref (ad 267)), (1, .ref (ad a1)), (2, .int x2), (3, .int x3), (4, .int y2), (5, .int y4)] [.int y9, .ref (ad a1)] (fl ad m) := by
        intro y9 e_y9
        replace h := h y9 e_y9
        refine J_callV hX km_X3_panelAt kl_RX0_144 dX0_spreadOnce_61 h1 (by decide) [.int y9] ⟨Nat.le_of_ble_eq_true rfl, Nat.le_of_ble_eq_true rfl⟩ rfl rfl (Nat.le_of_ble_eq_true rfl) (c_X3_panelAt a1 h1 y9 m) (fun v w2 hk => ?_)
        obtain ⟨rfl, rfl⟩ := hk
        show J X (0, 0) 64 [(0, .ref (ad 267)), (1, .ref (ad a1)), (2, .int x2), (3, .int x3), (4, .int y2), (5, .int y4)] [.ref (ad (v_X3_panelAt a1 y9))] (fl ad m)
        refine J_astore (lv2 := [(6, .ref (ad (v_X3_panelAt a1 y9))), (0, .ref (ad 267)), (1, .ref (ad a1)), (2, .int x2), (3, .int x3), (4, .int y2), (5, .int y4)]) hX dX0_spreadOnce_64 (Nat.le_of_ble_eq_true rfl) rfl ?_
        refine J_aload_n hX dX0_spreadOnce_66 rfl 2 rfl ?_
        refine J_iload hX dX0_spreadOnce_67 6 rfl ?_
        obtain ⟨g13, h⟩ := h
        have hj24 : ∀ y14 : Int32, y14 = (if y4 = (0 : Int32) then (v_X10_panelQ y2 m) else (v_X10_panelP y2 m)) → J X (0, 0) 93 [(0, .ref (ad 267)), (1, .ref (ad a1)), (2, .int x2), (3, .int x3), (4, .int y2), (5, .int y4), (6, .ref (ad (v_X3_panelAt a1 y9)))] [.int y14, .ref (ad a1)] (fl ad m) := by
          intro y14 e_y14
          replace h := h y14 e_y14
          refine J_callV hX km_X3_panelAt kl_RX0_144 dX0_spreadOnce_93 h1 (by decide) [.int y14] ⟨Nat.le_of_ble_eq_true rfl, Nat.le_of_ble_eq_true rfl⟩ rfl rfl (Nat.le_of_ble_eq_true rfl) (c_X3_panelAt a1 h1 y14 m) (fun v w2 hk => ?_)
          obtain ⟨rfl, rfl⟩ := hk
          show J X (0, 0) 96 [(0, .ref (ad 267)), (1, .ref (ad a1)), (2, .int x2), (3, .int x3), (4, .int y2), (5, .int y4), (6, .ref (ad (v_X3_panelAt a1 y9)))] [.ref (ad (v_X3_panelAt a1 y14))] (fl ad m)
          refine J_astore (lv2 := [(7, .ref (ad (v_X3_panelAt a1 y14))), (0, .ref (ad 267)), (1, .ref (ad a1)), (2, .int x2), (3, .int x3), (4, .int y2), (5, .int y4), (6, .ref (ad (v_X3_panelAt a1 y9)))]) hX dX0_spreadOnce_96 (Nat.le_of_ble_eq_true rfl) rfl ?_
          refine J_aload hX dX0_spreadOnce_98 0 rfl ?_
          refine J_getI hX kf_RX0_55 dX0_spreadOnce_100 (kv_X3_panelAt h1) (by decide) rfl ?_
          refine J_bipush (v := (-9 : Int32)) hX dX0_spreadOnce_103 (by decide) ?_
          have hj23 : ∀ y17 : Int32, y17 = (if (m.1 (v_X3_panelAt a1 y14) 7) = (-9 : Int32) then (if (v_X7_isFlap (v_X3_panelAt a1 y14) m) = (0 : Int32) then (1 : Int32) else (0 : Int32)) else (0 : Int32)) → J X (0, 0) 121 [(0, .ref (ad 267)), (1, .ref (ad a1)), (2, .int x2), (3, .int x3), (4, .int y2), (5, .int y4), (6, .ref (ad (v_X3_panelAt a1 y9)))] [.int y17] (fl ad m) := by
            intro y17 e_y17
            replace h := h y17 e_y17
            refine J_istore (lv2 := [(8, .int y17), (0, .ref (ad 267)), (1, .ref (ad a1)), (2, .int x2), (3, .int x3), (4, .int y2), (5, .int y4), (6, .ref (ad (v_X3_panelAt a1 y9)))]) hX dX0_spreadOnce_121 (Nat.le_of_ble_eq_true rfl) rfl ?_
            refine J_iload hX dX0_spreadOnce_123 0 rfl ?_
            refine J_if_eq (tgt := 156) hX dX0_spreadOnce_125 (by decide) (fun c18 => ?_) (fun c18 => ?_)
            · replace h := Eq.mp (if_pos c18) h
              refine J_iinc (x := (x3 + (1 : Int32))) (lv2 := [(3, .int (x3 + (1 : Int32))), (8, .int y17), (0, .ref (ad 267)), (1, .ref (ad a1)), (2, .int x2), (4, .int y2), (5, .int y4), (6, .ref (ad (v_X3_panelAt a1 y9)))]) hX dX0_spreadOnce_156 4 rfl rfl (Nat.le_of_ble_eq_true rfl) rfl ?_
              refine J_goto (tgt := 2) hX dX0_spreadOnce_159 (by decide) ?_
              exact J_sub [2, 3, 4, 0] rfl (hrec (x3 + (1 : Int32)) m h)
            · replace h := Eq.mp (if_neg c18) h
              refine J_aload hX dX0_spreadOnce_128 7 rfl ?_
              refine J_getI hX kf_RX0_55 dX0_spreadOnce_130 (kv_X3_panelAt h1) (by decide) rfl ?_
              refine J_iload_n hX dX0_spreadOnce_133 rfl 3 rfl ?_
              refine J_icmp_ne (tgt := 156) hX dX0_spreadOnce_134 (by decide) (fun c19 => ?_) (fun c19 => ?_)
              · replace h := Eq.mp (if_neg c19) h
                refine J_iinc (x := (x3 + (1 : Int32))) (lv2 := [(3, .int (x3 + (1 : Int32))), (8, .int y17), (0, .ref (ad 267)), (1, .ref (ad a1)), (2, .int x2), (4, .int y2), (5, .int y4), (6, .ref (ad (v_X3_panelAt a1 y9)))]) hX dX0_spreadOnce_156 4 rfl rfl (Nat.le_of_ble_eq_true rfl) rfl ?_
                refine J_goto (tgt := 2) hX dX0_spreadOnce_159 (by decide) ?_
                exact J_sub [2, 3, 4, 0] rfl (hrec (x3 + (1 : Int32)) m h)
              · replace h := Eq.mp (if_pos c19) h
                refine J_aload_n hX dX0_spreadOnce_137 rfl 1 rfl ?_
                refine J_aload_n hX dX0_spreadOnce_138 rfl 2 rfl ?_
                refine J_iload hX dX0_spreadOnce_139 5 rfl ?_
                refine J_iload hX dX0_spreadOnce_141 6 rfl ?_
                refine J_callV hX km_X0_plan kl_RX0_192 dX0_spreadOnce_143 ka_267 (by decide) [.ref (ad a1), .int y2, .int y4] ⟨Nat.le_of_ble_eq_true rfl, Nat.le_of_ble_eq_true rfl⟩ rfl rfl (Nat.le_of_ble_eq_true rfl) (c_X0_plan a1 h1 y2 y4 m _ h) (fun v w2 hk => ?_)
                obtain ⟨y21, m20, rfl, rfl, h⟩ := hk
                show J X (0, 0) 146 [(8, .int y17), (0, .ref (ad 267)), (1, .ref (ad a1)), (2, .int x2), (3, .int x3), (4, .int y2), (5, .int y4), (6, .ref (ad (v_X3_panelAt a1 y9)))] [.int y21] (fl ad m20)
                refine J_if_eq (tgt := 156) hX dX0_spreadOnce_146 (by decide) (fun c22 => ?_) (fun c22 => ?_)
                · replace h := Eq.mp (if_pos c22) h
                  refine J_iinc (x := (x3 + (1 : Int32))) (lv2 := [(3, .int (x3 + (1 : Int32))), (8, .int y17), (0, .ref (ad 267)), (1, .ref (ad a1)), (2, .int x2), (4, .int y2), (5, .int y4), (6, .ref (ad (v_X3_panelAt a1 y9)))]) hX dX0_spreadOnce_156 4 rfl rfl (Nat.le_of_ble_eq_true rfl) rfl ?_
                  refine J_goto (tgt := 2) hX dX0_spreadOnce_159 (by decide) ?_
                  exact J_sub [2, 3, 4, 0] rfl (hrec (x3 + (1 : Int32)) m20 h)
                · replace h := Eq.mp (if_neg c22) h
                  exact J_sub [1, 2] rfl (hk149 m20 h)
          refine J_icmp_ne (tgt := 120) hX dX0_spreadOnce_105 (by decide) (fun c15 => ?_) (fun c15 => ?_)
          · refine J_iconst (v := (0 : Int32)) hX dX0_spreadOnce_120 (by decide) ?_
            exact J_sub [1, 2, 3, 4, 5, 6, 7] rfl (hj23 _ (if_neg c15).symm)
          · refine J_aload hX dX0_spreadOnce_108 0 rfl ?_
            refine J_callV hX km_X7_isFlap kl_RX0_188 dX0_spreadOnce_110 (kv_X3_panelAt h1) (by decide) [] ⟨Nat.le_of_ble_eq_true rfl, Nat.le_of_ble_eq_true rfl⟩ rfl rfl (Nat.le_of_ble_eq_true rfl) (c_X7_isFlap (v_X3_panelAt a1 y14) (kv_X3_panelAt h1) m) (fun v w2 hk => ?_)
            obtain ⟨rfl, rfl⟩ := hk
            show J X (0, 0) 113 [(7, .ref (ad (v_X3_panelAt a1 y14))), (0, .ref (ad 267)), (1, .ref (ad a1)), (2, .int x2), (3, .int x3), (4, .int y2), (5, .int y4), (6, .ref (ad (v_X3_panelAt a1 y9)))] [.int (v_X7_isFlap (v_X3_panelAt a1 y14) m)] (fl ad m)
            refine J_if_ne (tgt := 120) hX dX0_spreadOnce_113 (by decide) (fun c16 => ?_) (fun c16 => ?_)
            · refine J_iconst (v := (0 : Int32)) hX dX0_spreadOnce_120 (by decide) ?_
              exact J_sub [1, 2, 3, 4, 5, 6, 7] rfl (hj23 _ ((if_pos c15).trans (if_neg c16)).symm)
            · refine J_iconst (v := (1 : Int32)) hX dX0_spreadOnce_116 (by decide) ?_
              refine J_goto (tgt := 121) hX dX0_spreadOnce_117 (by decide) ?_
              exact J_sub [1, 2, 3, 4, 5, 6, 7] rfl (hj23 _ ((if_pos c15).trans (if_pos c16)).symm)
        obtain ⟨g25, g26⟩ := g13
        refine J_if_eq (tgt := 84) hX dX0_spreadOnce_69 (by decide) (fun c10 => ?_) (fun c10 => ?_)
        · have g27 := g25 c10
          have b11 := g27
          refine J_aload_n hX dX0_spreadOnce_84 rfl 1 rfl ?_
          refine J_getR hX kf_RX0_30 dX0_spreadOnce_85 ka_267 (by decide) rfl rh_267_5 ?_
          refine J_iload hX dX0_spreadOnce_88 5 rfl ?_
          refine J_callV hX km_X10_panelQ kl_RX0_100 dX0_spreadOnce_90 ka_268 (by decide) [.int y2] ⟨Nat.le_of_ble_eq_true rfl, Nat.le_of_ble_eq_true rfl⟩ rfl rfl (Nat.le_of_ble_eq_true rfl) (c_X10_panelQ y2 m b11) (fun v w2 hk => ?_)
          obtain ⟨rfl, rfl⟩ := hk
          show J X (0, 0) 93 [(6, .ref (ad (v_X3_panelAt a1 y9))), (0, .ref (ad 267)), (1, .ref (ad a1)), (2, .int x2), (3, .int x3), (4, .int y2), (5, .int y4)] [.int (v_X10_panelQ y2 m), .ref (ad a1)] (fl ad m)
          exact J_sub [1, 2, 3, 4, 5, 6, 0] rfl (hj24 _ (if_pos c10).symm)
        · have g28 := g26 c10
          have b12 := g28
          refine J_aload_n hX dX0_spreadOnce_72 rfl 1 rfl ?_
          refine J_getR hX kf_RX0_30 dX0_spreadOnce_73 ka_267 (by decide) rfl rh_267_5 ?_
          refine J_iload hX dX0_spreadOnce_76 5 rfl ?_
          refine J_callV hX km_X10_panelP kl_RX0_91 dX0_spreadOnce_78 ka_268 (by decide) [.int y2] ⟨Nat.le_of_ble_eq_true rfl, Nat.le_of_ble_eq_true rfl⟩ rfl rfl (Nat.le_of_ble_eq_true rfl) (c_X10_panelP y2 m b12) (fun v w2 hk => ?_)
          obtain ⟨rfl, rfl⟩ := hk
          show J X (0, 0) 81 [(6, .ref (ad (v_X3_panelAt a1 y9))), (0, .ref (ad 267)), (1, .ref (ad a1)), (2, .int x2), (3, .int x3), (4, .int y2), (5, .int y4)] [.int (v_X10_panelP y2 m), .ref (ad a1)] (fl ad m)
          refine J_goto (tgt := 93) hX dX0_spreadOnce_81 (by decide) ?_
          exact J_sub [1, 2, 3, 4, 5, 6, 0] rfl (hj24 _ (if_neg c10).symm)
      obtain ⟨g30, g31⟩ := g8
      refine J_if_eq (tgt := 52) hX dX0_spreadOnce_37 (by decide) (fun c5 => ?_) (fun c5 => ?_)
      · have g32 := g30 c5
        have b6 := g32
        refine J_aload_n hX dX0_spreadOnce_52 rfl 1 rfl ?_
        refine J_getR hX kf_RX0_30 dX0_spreadOnce_53 ka_267 (by decide) rfl rh_267_5 ?_
        refine J_iload hX dX0_spreadOnce_56 5 rfl ?_
        refine J_callV hX km_X10_panelP kl_RX0_91 dX0_spreadOnce_58 ka_268 (by decide) [.int y2] ⟨Nat.le_of_ble_eq_true rfl, Nat.le_of_ble_eq_true rfl⟩ rfl rfl (Nat.le_of_ble_eq_true rfl) (c_X10_panelP y2 m b6) (fun v w2 hk => ?_)
        obtain ⟨rfl, rfl⟩ := hk
        show J X (0, 0) 61 [(5, .int y4), (0, .ref (ad 267)), (1, .ref (ad a1)), (2, .int x2), (3, .int x3), (4, .int y2)] [.int (v_X10_panelP y2 m), .ref (ad a1)] (fl ad m)
        exact J_sub [1, 2, 3, 4, 5, 0] rfl (hj29 _ (if_pos c5).symm)
      · have g33 := g31 c5
        have b7 := g33
        refine J_aload_n hX dX0_spreadOnce_40 rfl 1 rfl ?_
        refine J_getR hX kf_RX0_30 dX0_spreadOnce_41 ka_267 (by decide) rfl rh_267_5 ?_
        refine J_iload hX dX0_spreadOnce_44 5 rfl ?_
        refine J_callV hX km_X10_panelQ kl_RX0_100 dX0_spreadOnce_46 ka_268 (by decide) [.int y2] ⟨Nat.le_of_ble_eq_true rfl, Nat.le_of_ble_eq_true rfl⟩ rfl rfl (Nat.le_of_ble_eq_true rfl) (c_X10_panelQ y2 m b7) (fun v w2 hk => ?_)
        obtain ⟨rfl, rfl⟩ := hk
        show J X (0, 0) 49 [(5, .int y4), (0, .ref (ad 267)), (1, .ref (ad a1)), (2, .int x2), (3, .int x3), (4, .int y2)] [.int (v_X10_panelQ y2 m), .ref (ad a1)] (fl ad m)
        refine J_goto (tgt := 61) hX dX0_spreadOnce_49 (by decide) ?_
        exact J_sub [1, 2, 3, 4, 5, 0] rfl (hj29 _ (if_neg c5).symm)
    refine J_icmp_ne (tgt := 31) hX dX0_spreadOnce_24 (by decide) (fun c3 => ?_) (fun c3 => ?_)
    · refine J_iconst (v := (0 : Int32)) hX dX0_spreadOnce_31 (by decide) ?_
      exact J_sub [1, 2, 3, 4, 0] rfl (hj34 _ (if_neg c3).symm)
    · refine J_iconst (v := (1 : Int32)) hX dX0_spreadOnce_27 (by decide) ?_
      refine J_goto (tgt := 32) hX dX0_spreadOnce_28 (by decide) ?_
      exact J_sub [1, 2, 3, 4, 0] rfl (hj34 _ (if_pos c3).symm)
set_option maxRecDepth 100000 in
theorem t_X0_spreadOnce_l2 {X : XT} {ad : Nat → Nat} {K : Int32 → Mm → Prop} (hX : Cx X cX0_spreadOnce 9 RX0 (rmN 4 99)) (hR : Rx X (some .boolean) (kI ad K) (0, 0)) {k149 : Mm → Prop} (a1 : Nat) (h1 : kap a1 = 3) (x2 : Int32) (hk149 : ∀ (m : Mm), k149 m → J X (0, 0) 149 [(0, .ref (ad 267)), (1, .ref (ad a1))] [] (fl ad m)) : ∀ (n : Nat) (x3 : Int32) (m : Mm), wp_X0_spreadOnce_l2 k149 K a1 x2 n x3 m → J X (0, 0) 2 [(0, .ref (ad 267)), (1, .ref (ad a1)), (2, .int x2), (3, .int x3)] [] (fl ad m) := by
  intro n
  induction n with
  | zero => intro x3 m h; exact h.elim
  | succ n ih => intro x3 m h; exact tb_X0_spreadOnce_l2 hX hR a1 h1 x2 ih hk149 x3 m h
set_option maxRecDepth 100000 in
theorem c_X0_spreadOnce {G : GT} {ad : Nat → Nat} (a1 : Nat) (h1 : kap a1 = 3) (x2 : Int32) (m : Mm) (K : Int32 → Mm → Prop) (h : wp_X0_spreadOnce a1 x2 m K) : Cn G yX0_spreadOnce cX0_spreadOnce 9 (some .boolean) (rmN 4 99) [.ref (ad 267), .ref (ad a1), .int x2] (0, 0) (fl ad m) (kI ad K) := by
  unfold wp_X0_spreadOnce at h
  refine Cn.of pn_RX0 (Nat.le_of_ble_eq_true rfl) (fun X hG hX hR => ?_)
  subst hG
  have hX : Cx X cX0_spreadOnce 9 RX0 (rmN 4 99) := hX
  show J X (0, 0) 0 [(0, .ref (ad 267)), (1, .ref (ad a1)), (2, .int x2)] [] (fl ad m)
  refine J_iconst (v := (0 : Int32)) hX dX0_spreadOnce_0 (by decide) ?_
  refine J_istore_n (lv2 := [(3, .int (0 : Int32)), (0, .ref (ad 267)), (1, .ref (ad a1)), (2, .int x2)]) hX dX0_spreadOnce_1 rfl (Nat.le_of_ble_eq_true rfl) rfl ?_
  refine J_sub [1, 2, 3, 0] rfl (t_X0_spreadOnce_l2 hX hR a1 h1 x2 (fun m35 h => ?_) FU (0 : Int32) m h)
  refine J_aload_n hX dX0_spreadOnce_149 rfl 0 rfl ?_
  refine J_aload_n hX dX0_spreadOnce_150 rfl 1 rfl ?_
  refine J_callV hX km_X0_carryOut kl_RX0_195 dX0_spreadOnce_151 ka_267 (by decide) [.ref (ad a1)] ⟨Nat.le_of_ble_eq_true rfl, Nat.le_of_ble_eq_true rfl⟩ rfl rfl (Nat.le_of_ble_eq_true rfl) (c_X0_carryOut a1 h1 m35 _ h) (fun v w2 hk => ?_)
  obtain ⟨m36, rfl, rfl, h⟩ := hk
  show J X (0, 0) 154 [(0, .ref (ad 267)), (1, .ref (ad a1))] [] (fl ad m36)
  refine J_iconst (v := (1 : Int32)) hX dX0_spreadOnce_154 (by decide) ?_
  exact J_zret hX hR dX0_spreadOnce_155 bo_1 ⟨_, _, rfl, rfl, h⟩
set_option maxRecDepth 100000 in
theorem tb_X0_spread_l5 {X : XT} {ad : Nat → Nat} {K : Int32 → Mm → Prop} (hX : Cx X cX0_spread 5 RX0 (rmN 5 127)) (hR : Rx X (some .int) (kI ad K) (0, 0)) {rec : Int32 → Int32 → Mm → Prop} {k21 : Int32 → Mm → Prop} (a1 : Nat) (h1 : kap a1 = 3) (x2 : Int32) (hrec : ∀ (x3 : Int32) (x4 : Int32) (m : Mm), rec x3 x4 m → J X (0, 0) 5 [(0, .ref (ad 267)), (1, .ref (ad a1)), (2, .int x2), (3, .int x3), (4, .int x4)] [] (fl ad m)) (hk21 : ∀ (z3 : Int32) (m : Mm), k21 z3 m → J X (0, 0) 21 [(3, .int z3)] [] (fl ad m)) (x3 : Int32) (x4 : Int32) (m : Mm) (h : wb_X0_spread_l5 rec k21 K a1 x2 x3 x4 m) : J X (0, 0) 5 [(0, .ref (ad 267)), (1, .ref (ad a1)), (2, .int x2), (3, .int x3), (4, .int x4)] [] (fl ad m) := by
  unfold wb_X0_spread_l5 at h
  refine J_iload hX dX0_spread_5 4 rfl ?_
  refine J_bipush (v := (10 : Int32)) hX dX0_spread_7 (by decide) ?_
  refine J_icmp_ge (tgt := 33) hX dX0_spread_9 (by decide) (fun c1 => ?_) (fun c1 => ?_)
  · replace h := Eq.mp (if_pos c1) h
    refine J_iload_n hX dX0_spread_33 rfl 3 rfl ?_
    exact J_iret hX hR dX0_spread_34 ⟨_, _, rfl, rfl, h⟩
  · replace h := Eq.mp (if_neg c1) h
    refine J_aload_n hX dX0_spread_12 rfl 0 rfl ?_
    refine J_aload_n hX dX0_spread_13 rfl 1 rfl ?_
    refine J_iload_n hX dX0_spread_14 rfl 2 rfl ?_
    refine J_callV hX km_X0_spreadOnce kl_RX0_181 dX0_spread_15 ka_267 (by decide) [.ref (ad a1), .int x2] ⟨Nat.le_of_ble_eq_true rfl, Nat.le_of_ble_eq_true rfl⟩ rfl rfl (Nat.le_of_ble_eq_true rfl) (c_X0_spreadOnce a1 h1 x2 m _ h) (fun v w2 hk => ?_)
    obtain ⟨y3, m2, rfl, rfl, h⟩ := hk
    show J X (0, 0) 18 [(0, .ref (ad 267)), (1, .ref (ad a1)), (2, .int x2), (3, .int x3), (4, .int x4)] [.int y3] (fl ad m2)
    refine J_if_ne (tgt := 24) hX dX0_spread_18 (by decide) (fun c4 => ?_) (fun c4 => ?_)
    · replace h := Eq.mp (if_neg c4) h
      refine J_iinc (x := (x3 + (1 : Int32))) (lv2 := [(3, .int (x3 + (1 : Int32))), (0, .ref (ad 267)), (1, .ref (ad a1)), (2, .int x2), (4, .int x4)]) hX dX0_spread_24 3 rfl rfl (Nat.le_of_ble_eq_true rfl) rfl ?_
      refine J_iinc (x := (x4 + (1 : Int32))) (lv2 := [(4, .int (x4 + (1 : Int32))), (3, .int (x3 + (1 : Int32))), (0, .ref (ad 267)), (1, .ref (ad a1)), (2, .int x2)]) hX dX0_spread_27 4 rfl rfl (Nat.le_of_ble_eq_true rfl) rfl ?_
      refine J_goto (tgt := 5) hX dX0_spread_30 (by decide) ?_
      exact J_sub [2, 3, 4, 1, 0] rfl (hrec (x3 + (1 : Int32)) (x4 + (1 : Int32)) m2 h)
    · replace h := Eq.mp (if_pos c4) h
      exact J_sub [3] rfl (hk21 x3 m2 h)
set_option maxRecDepth 100000 in
theorem t_X0_spread_l5 {X : XT} {ad : Nat → Nat} {K : Int32 → Mm → Prop} (hX : Cx X cX0_spread 5 RX0 (rmN 5 127)) (hR : Rx X (some .int) (kI ad K) (0, 0)) {k21 : Int32 → Mm → Prop} (a1 : Nat) (h1 : kap a1 = 3) (x2 : Int32) (hk21 : ∀ (z3 : Int32) (m : Mm), k21 z3 m → J X (0, 0) 21 [(3, .int z3)] [] (fl ad m)) : ∀ (n : Nat) (x3 : Int32) (x4 : Int32) (m : Mm), wp_X0_spread_l5 k21 K a1 x2 n x3 x4 m → J X (0, 0) 5 [(0, .ref (ad 267)), (1, .ref (ad a1)), (2, .int x2), (3, .int x3), (4, .int x4)] [] (fl ad m) := by
  intro n
  induction n with
  | zero => intro x3 x4 m h; exact h.elim
  | succ n ih => intro x3 x4 m h; exact tb_X0_spread_l5 hX hR a1 h1 x2 ih hk21 x3 x4 m h
set_option maxRecDepth 100000 in
theorem c_X0_spread {G : GT} {ad : Nat → Nat} (a1 : Nat) (h1 : kap a1 = 3) (x2 : Int32) (m : Mm) (K : Int32 → Mm → Prop) (h : wp_X0_spread a1 x2 m K) : Cn G yX0_spread cX0_spread 5 (some .int) (rmN 5 127) [.ref (ad 267), .ref (ad a1), .int x2] (0, 0) (fl ad m) (kI ad K) := by
  unfold wp_X0_spread at h
  refine Cn.of pn_RX0 (Nat.le_of_ble_eq_true rfl) (fun X hG hX hR => ?_)
  subst hG
  have hX : Cx X cX0_spread 5 RX0 (rmN 5 127) := hX
  show J X (0, 0) 0 [(0, .ref (ad 267)), (1, .ref (ad a1)), (2, .int x2)] [] (fl ad m)
  refine J_iconst (v := (0 : Int32)) hX dX0_spread_0 (by decide) ?_
  refine J_istore_n (lv2 := [(3, .int (0 : Int32)), (0, .ref (ad 267)), (1, .ref (ad a1)), (2, .int x2)]) hX dX0_spread_1 rfl (Nat.le_of_ble_eq_true rfl) rfl ?_
  refine J_iconst (v := (0 : Int32)) hX dX0_spread_2 (by decide) ?_
  refine J_istore (lv2 := [(4, .int (0 : Int32)), (3, .int (0 : Int32)), (0, .ref (ad 267)), (1, .ref (ad a1)), (2, .int x2)]) hX dX0_spread_3 (Nat.le_of_ble_eq_true rfl) rfl ?_
  refine J_sub [2, 3, 4, 1, 0] rfl (t_X0_spread_l5 hX hR a1 h1 x2 (fun y5 m6 h => ?_) FU (0 : Int32) (0 : Int32) m h)
  refine J_goto (tgt := 33) hX dX0_spread_21 (by decide) ?_
  refine J_iload_n hX dX0_spread_33 rfl 0 rfl ?_
  exact J_iret hX hR dX0_spread_34 ⟨_, _, rfl, rfl, h⟩
set_option maxRecDepth 100000 in
theorem tb_X10_joinSide_l33 {X : XT} {ad : Nat → Nat} {K : Mm → Prop} (hX : Cx X cX10_joinSide 10 RX10 (rmN 1 21)) (hR : Rx X none (kV ad K) (0, 0)) {rec : Int32 → Mm → Prop} (x1 : Int32) (x2 : Int32) (x3 : Int32) (a4 : Nat) (h4 : kap a4 = 8) (a5 : Nat) (h5 : kap a5 = 8) (hrec : ∀ (x6 : Int32) (m : Mm), rec x6 m → J X (0, 0) 33 [(0, .ref (ad 268)), (1, .int x1), (2, .int x2), (3, .int x3), (4, .ref (ad a4)), (5, .ref (ad a5)), (6, .int x6)] [] (fl ad m)) (x6 : Int32) (m : Mm) (h : wb_X10_joinSide_l33 rec K x1 x2 x3 a4 a5 x6 m) : J X (0, 0) 33 [(0, .ref (ad 268)), (1, .int x1), (2, .int x2), (3, .int x3), (4, .ref (ad a4)), (5, .ref (ad a5)), (6, .int x6)] [] (fl ad m) := by
  unfold wb_X10_joinSide_l33 at h
  refine J_iload hX dX10_joinSide_33 6 rfl ?_
  refine J_iconst (v := (4 : Int32)) hX dX10_joinSide_35 (by decide) ?_
  refine J_icmp_ge (tgt := 244) hX dX10_joinSide_36 (by decide) (fun c3 => ?_) (fun c3 => ?_)
  · replace h := Eq.mp (if_pos c3) h
    exact J_vret hX hR dX10_joinSide_244 ⟨_, rfl, rfl, h⟩
  · replace h := Eq.mp (if_neg c3) h
    refine J_aload hX dX10_joinSide_39 4 rfl ?_
    refine J_getR hX kf_RX10_59 dX10_joinSide_41 h4 (by decide) rfl (ro_8_3 h4) ?_
    refine J_iload_n hX dX10_joinSide_44 rfl 2 rfl ?_
    obtain ⟨b4, h⟩ := h
    refine J_iald (j := x2.toNatClampNeg) hX dX10_joinSide_45 (ko_8_3 h4) (lo_8_3 h4) b4 rfl ?_
    refine J_aload hX dX10_joinSide_46 5 rfl ?_
    refine J_getR hX kf_RX10_59 dX10_joinSide_48 h5 (by decide) rfl (ro_8_3 h5) ?_
    refine J_iload hX dX10_joinSide_51 6 rfl ?_
    obtain ⟨b5, h⟩ := h
    refine J_iald (j := x6.toNatClampNeg) hX dX10_joinSide_53 (ko_8_3 h5) (lo_8_3 h5) b5 rfl ?_
    refine J_icmp_ne (tgt := 238) hX dX10_joinSide_54 (by decide) (fun c6 => ?_) (fun c6 => ?_)
    · replace h := Eq.mp (if_neg c6) h
      refine J_iinc (x := (x6 + (1 : Int32))) (lv2 := [(6, .int (x6 + (1 : Int32))), (0, .ref (ad 268)), (1, .int x1), (2, .int x2), (3, .int x3), (4, .ref (ad a4)), (5, .ref (ad a5))]) hX dX10_joinSide_238 6 rfl rfl (Nat.le_of_ble_eq_true rfl) rfl ?_
      refine J_goto (tgt := 33) hX dX10_joinSide_241 (by decide) ?_
      exact J_sub [1, 2, 3, 4, 5, 6, 0] rfl (hrec (x6 + (1 : Int32)) m h)
    · replace h := Eq.mp (if_pos c6) h
      refine J_aload hX dX10_joinSide_57 4 rfl ?_
      refine J_getR hX kf_RX10_64 dX10_joinSide_59 h4 (by decide) rfl (ro_8_6 h4) ?_
      refine J_iload_n hX dX10_joinSide_62 rfl 2 rfl ?_
      refine J_iald (j := x2.toNatClampNeg) hX dX10_joinSide_63 (ko_8_6 h4) (lo_8_6 h4) b4 rfl ?_
      refine J_aload hX dX10_joinSide_64 5 rfl ?_
      refine J_getR hX kf_RX10_64 dX10_joinSide_66 h5 (by decide) rfl (ro_8_6 h5) ?_
      refine J_iload hX dX10_joinSide_69 6 rfl ?_
      refine J_iald (j := x6.toNatClampNeg) hX dX10_joinSide_71 (ko_8_6 h5) (lo_8_6 h5) b5 rfl ?_
      refine J_isub hX dX10_joinSide_72 ?_
      refine J_mabs hX kl_RX10_67 dX10_joinSide_73 (Nat.le_of_ble_eq_true rfl) (Nat.le_of_ble_eq_true rfl) ⟨Nat.le_of_ble_eq_true rfl, Nat.le_of_ble_eq_true rfl⟩ ?_
      refine J_aload hX dX10_joinSide_76 4 rfl ?_
      refine J_getR hX kf_RX10_73 dX10_joinSide_78 h4 (by decide) rfl (ro_8_7 h4) ?_
      refine J_iload_n hX dX10_joinSide_81 rfl 2 rfl ?_
      refine J_iald (j := x2.toNatClampNeg) hX dX10_joinSide_82 (ko_8_7 h4) (lo_8_7 h4) b4 rfl ?_
      refine J_aload hX dX10_joinSide_83 5 rfl ?_
      refine J_getR hX kf_RX10_73 dX10_joinSide_85 h5 (by decide) rfl (ro_8_7 h5) ?_
      refine J_iload hX dX10_joinSide_88 6 rfl ?_
      refine J_iald (j := x6.toNatClampNeg) hX dX10_joinSide_90 (ko_8_7 h5) (lo_8_7 h5) b5 rfl ?_
      refine J_isub hX dX10_joinSide_91 ?_
      refine J_mabs hX kl_RX10_67 dX10_joinSide_92 (Nat.le_of_ble_eq_true rfl) (Nat.le_of_ble_eq_true rfl) ⟨Nat.le_of_ble_eq_true rfl, Nat.le_of_ble_eq_true rfl⟩ ?_
      refine J_mmax hX kl_RX10_76 dX10_joinSide_95 (Nat.le_of_ble_eq_true rfl) (Nat.le_of_ble_eq_true rfl) ⟨Nat.le_of_ble_eq_true rfl, Nat.le_of_ble_eq_true rfl⟩ ?_
      refine J_nmI (fun y7 e_y7 => ?_)
      replace h := h y7 e_y7
      refine J_istore (lv2 := [(7, .int y7), (0, .ref (ad 268)), (1, .int x1), (2, .int x2), (3, .int x3), (4, .ref (ad a4)), (5, .ref (ad a5)), (6, .int x6)]) hX dX10_joinSide_98 (Nat.le_of_ble_eq_true rfl) rfl ?_
      refine J_aload hX dX10_joinSide_100 5 rfl ?_
      refine J_getR hX kf_RX10_80 dX10_joinSide_102 h4 (by decide) rfl (ro_8_4 h4) ?_
      refine J_iload_n hX dX10_joinSide_105 rfl 3 rfl ?_
      refine J_iald (j := x2.toNatClampNeg) hX dX10_joinSide_106 (ko_8_4 h4) (lo_8_4 h4) b4 rfl ?_
      refine J_aload hX dX10_joinSide_107 6 rfl ?_
      refine J_getR hX kf_RX10_80 dX10_joinSide_109 h5 (by decide) rfl (ro_8_4 h5) ?_
      refine J_iload hX dX10_joinSide_112 7 rfl ?_
      refine J_iald (j := x6.toNatClampNeg) hX dX10_joinSide_114 (ko_8_4 h5) (lo_8_4 h5) b5 rfl ?_
      refine J_mmax hX kl_RX10_76 dX10_joinSide_115 (Nat.le_of_ble_eq_true rfl) (Nat.le_of_ble_eq_true rfl) ⟨Nat.le_of_ble_eq_true rfl, Nat.le_of_ble_eq_true rfl⟩ ?_
      refine J_nmI (fun y8 e_y8 => ?_)
      replace h := h y8 e_y8
      refine J_istore (lv2 := [(8, .int y8), (7, .int y7), (0, .ref (ad 268)), (1, .int x1), (2, .int x2), (3, .int x3), (4, .ref (ad a4)), (5, .ref (ad a5)), (6, .int x6)]) hX dX10_joinSide_118 (Nat.le_of_ble_eq_true rfl) rfl ?_
      refine J_aload hX dX10_joinSide_120 6 rfl ?_
      refine J_getR hX kf_RX10_83 dX10_joinSide_122 h4 (by decide) rfl (ro_8_5 h4) ?_
      refine J_iload_n hX dX10_joinSide_125 rfl 4 rfl ?_
      refine J_iald (j := x2.toNatClampNeg) hX dX10_joinSide_126 (ko_8_5 h4) (lo_8_5 h4) b4 rfl ?_
      refine J_aload hX dX10_joinSide_127 7 rfl ?_
      refine J_getR hX kf_RX10_83 dX10_joinSide_129 h5 (by decide) rfl (ro_8_5 h5) ?_
      refine J_iload hX dX10_joinSide_132 8 rfl ?_
      refine J_iald (j := x6.toNatClampNeg) hX dX10_joinSide_134 (ko_8_5 h5) (lo_8_5 h5) b5 rfl ?_
      refine J_mmin hX kl_RX10_86 dX10_joinSide_135 (Nat.le_of_ble_eq_true rfl) (Nat.le_of_ble_eq_true rfl) ⟨Nat.le_of_ble_eq_true rfl, Nat.le_of_ble_eq_true rfl⟩ ?_
      refine J_nmI (fun y9 e_y9 => ?_)
      replace h := h y9 e_y9
      refine J_istore (lv2 := [(9, .int y9), (8, .int y8), (7, .int y7), (0, .ref (ad 268)), (1, .int x1), (2, .int x2), (3, .int x3), (4, .ref (ad a4)), (5, .ref (ad a5)), (6, .int x6)]) hX dX10_joinSide_138 (Nat.le_of_ble_eq_true rfl) rfl ?_
      refine J_iload hX dX10_joinSide_140 2 rfl ?_
      refine J_aload_n hX dX10_joinSide_142 rfl 3 rfl ?_
      refine J_getI hX kf_RX10_22 dX10_joinSide_143 ka_268 (by decide) rfl ?_
      refine J_icmp_gt (tgt := 238) hX dX10_joinSide_146 (by decide) (fun c10 => ?_) (fun c10 => ?_)
      · replace h := Eq.mp (if_pos c10) h
        refine J_iinc (x := (x6 + (1 : Int32))) (lv2 := [(6, .int (x6 + (1 : Int32))), (9, .int y9), (8, .int y8), (7, .int y7), (0, .ref (ad 268)), (1, .int x1), (2, .int x2), (3, .int x3), (4, .ref (ad a4)), (5, .ref (ad a5))]) hX dX10_joinSide_238 9 rfl rfl (Nat.le_of_ble_eq_true rfl) rfl ?_
        refine J_goto (tgt := 33) hX dX10_joinSide_241 (by decide) ?_
        exact J_sub [4, 5, 6, 7, 8, 9, 0] rfl (hrec (x6 + (1 : Int32)) m h)
      · replace h := Eq.mp (if_neg c10) h
        refine J_iload hX dX10_joinSide_149 1 rfl ?_
        refine J_iload hX dX10_joinSide_151 0 rfl ?_
        refine J_icmp_ge (tgt := 238) hX dX10_joinSide_153 (by decide) (fun c11 => ?_) (fun c11 => ?_)
        · replace h := Eq.mp (if_pos c11) h
          refine J_iinc (x := (x6 + (1 : Int32))) (lv2 := [(6, .int (x6 + (1 : Int32))), (9, .int y9), (8, .int y8), (7, .int y7), (0, .ref (ad 268)), (1, .int x1), (2, .int x2), (3, .int x3), (4, .ref (ad a4)), (5, .ref (ad a5))]) hX dX10_joinSide_238 9 rfl rfl (Nat.le_of_ble_eq_true rfl) rfl ?_
          refine J_goto (tgt := 33) hX dX10_joinSide_241 (by decide) ?_
          exact J_sub [4, 5, 6, 7, 8, 9, 0] rfl (hrec (x6 + (1 : Int32)) m h)
        · replace h := Eq.mp (if_neg c11) h
          refine J_aload_n hX dX10_joinSide_156 rfl 3 rfl ?_
          refine J_getI hX kf_RX10_9 dX10_joinSide_157 ka_268 (by decide) rfl ?_
          refine J_sipush (v := (360 : Int32)) hX dX10_joinSide_160 (by decide) ?_
          refine J_icmp_ge (tgt := 238) hX dX10_joinSide_163 (by decide) (fun c12 => ?_) (fun c12 => ?_)
          · replace h := Eq.mp (if_pos c12) h
            refine J_iinc (x := (x6 + (1 : Int32))) (lv2 := [(6, .int (x6 + (1 : Int32))), (9, .int y9), (8, .int y8), (7, .int y7), (0, .ref (ad 268)), (1, .int x1), (2, .int x2), (3, .int x3), (4, .ref (ad a4)), (5, .ref (ad a5))]) hX dX10_joinSide_238 9 rfl rfl (Nat.le_of_ble_eq_true rfl) rfl ?_
            refine J_goto (tgt := 33) hX dX10_joinSide_241 (by decide) ?_
            exact J_sub [4, 5, 6, 7, 8, 9, 0] rfl (hrec (x6 + (1 : Int32)) m h)
          · replace h := Eq.mp (if_neg c12) h
            refine J_aload_n hX dX10_joinSide_166 rfl 3 rfl ?_
            refine J_getR hX kf_RX10_25 dX10_joinSide_167 ka_268 (by decide) rfl rh_268_3 ?_
            refine J_aload_n hX dX10_joinSide_170 rfl 3 rfl ?_
            refine J_getI hX kf_RX10_9 dX10_joinSide_171 ka_268 (by decide) rfl ?_
            refine J_iconst (v := (4 : Int32)) hX dX10_joinSide_174 (by decide) ?_
            refine J_iload_n hX dX10_joinSide_175 rfl 4 rfl ?_
            refine J_imul hX dX10_joinSide_176 ?_
            refine J_iload_n hX dX10_joinSide_177 rfl 5 rfl ?_
            refine J_iadd hX dX10_joinSide_178 ?_
            obtain ⟨b13, h⟩ := h
            refine J_iast (j := (m.1 268 0).toNatClampNeg) hX dX10_joinSide_179 ka_383 le_383 b13 rfl ?_
            refine J_nmM (fun m14 e_m14 => ?_)
            replace h := h m14 e_m14
            refine J_aload_n hX dX10_joinSide_180 rfl 3 rfl ?_
            refine J_getR hX kf_RX10_29 dX10_joinSide_181 ka_268 (by decide) rfl rh_268_4 ?_
            refine J_aload_n hX dX10_joinSide_184 rfl 3 rfl ?_
            refine J_getI hX kf_RX10_9 dX10_joinSide_185 ka_268 (by decide) rfl ?_
            refine J_iconst (v := (4 : Int32)) hX dX10_joinSide_188 (by decide) ?_
            refine J_iload_n hX dX10_joinSide_189 rfl 6 rfl ?_
            refine J_imul hX dX10_joinSide_190 ?_
            refine J_iload hX dX10_joinSide_191 9 rfl ?_
            refine J_iadd hX dX10_joinSide_193 ?_
            obtain ⟨b15, h⟩ := h
            refine J_iast (j := (m14.1 268 0).toNatClampNeg) hX dX10_joinSide_194 ka_384 le_384 b15 rfl ?_
            refine J_nmM (fun m16 e_m16 => ?_)
            replace h := h m16 e_m16
            refine J_aload_n hX dX10_joinSide_195 rfl 3 rfl ?_
            refine J_getR hX kf_RX10_32 dX10_joinSide_196 ka_268 (by decide) rfl rh_268_5 ?_
            refine J_aload_n hX dX10_joinSide_199 rfl 3 rfl ?_
            refine J_getI hX kf_RX10_9 dX10_joinSide_200 ka_268 (by decide) rfl ?_
            refine J_iload hX dX10_joinSide_203 1 rfl ?_
            obtain ⟨b17, h⟩ := h
            refine J_iast (j := (m16.1 268 0).toNatClampNeg) hX dX10_joinSide_205 ka_385 le_385 b17 rfl ?_
            refine J_nmM (fun m18 e_m18 => ?_)
            replace h := h m18 e_m18
            refine J_aload_n hX dX10_joinSide_206 rfl 3 rfl ?_
            refine J_getR hX kf_RX10_35 dX10_joinSide_207 ka_268 (by decide) rfl rh_268_6 ?_
            refine J_aload_n hX dX10_joinSide_210 rfl 3 rfl ?_
            refine J_getI hX kf_RX10_9 dX10_joinSide_211 ka_268 (by decide) rfl ?_
            refine J_iload hX dX10_joinSide_214 0 rfl ?_
            obtain ⟨b19, h⟩ := h
            refine J_iast (j := (m18.1 268 0).toNatClampNeg) hX dX10_joinSide_216 ka_386 le_386 b19 rfl ?_
            refine J_nmM (fun m20 e_m20 => ?_)
            replace h := h m20 e_m20
            refine J_aload_n hX dX10_joinSide_217 rfl 3 rfl ?_
            refine J_getR hX kf_RX10_38 dX10_joinSide_218 ka_268 (by decide) rfl rh_268_7 ?_
            refine J_aload_n hX dX10_joinSide_221 rfl 3 rfl ?_
            refine J_getI hX kf_RX10_9 dX10_joinSide_222 ka_268 (by decide) rfl ?_
            refine J_iload hX dX10_joinSide_225 2 rfl ?_
            obtain ⟨b21, h⟩ := h
            refine J_iast (j := (m20.1 268 0).toNatClampNeg) hX dX10_joinSide_227 ka_387 le_387 b21 rfl ?_
            refine J_nmM (fun m22 e_m22 => ?_)
            replace h := h m22 e_m22
            refine J_aload_n hX dX10_joinSide_228 rfl 3 rfl ?_
            refine J_dup hX dX10_joinSide_229 rfl ?_
            refine J_getI hX kf_RX10_9 dX10_joinSide_230 ka_268 (by decide) rfl ?_
            refine J_iconst (v := (1 : Int32)) hX dX10_joinSide_233 (by decide) ?_
            refine J_iadd hX dX10_joinSide_234 ?_
            refine J_putI hX kf_RX10_9 dX10_joinSide_235 ka_268 (by decide) rfl ?_
            refine J_nmM (fun m23 e_m23 => ?_)
            replace h := h m23 e_m23
            refine J_iinc (x := (x6 + (1 : Int32))) (lv2 := [(6, .int (x6 + (1 : Int32))), (9, .int y9), (8, .int y8), (7, .int y7), (0, .ref (ad 268)), (1, .int x1), (2, .int x2), (3, .int x3), (4, .ref (ad a4)), (5, .ref (ad a5))]) hX dX10_joinSide_238 9 rfl rfl (Nat.le_of_ble_eq_true rfl) rfl ?_
            refine J_goto (tgt := 33) hX dX10_joinSide_241 (by decide) ?_
            exact J_sub [4, 5, 6, 7, 8, 9, 0] rfl (hrec (x6 + (1 : Int32)) m23 h)
set_option maxRecDepth 100000 in
theorem t_X10_joinSide_l33 {X : XT} {ad : Nat → Nat} {K : Mm → Prop} (hX : Cx X cX10_joinSide 10 RX10 (rmN 1 21)) (hR : Rx X none (kV ad K) (0, 0)) (x1 : Int32) (x2 : Int32) (x3 : Int32) (a4 : Nat) (h4 : kap a4 = 8) (a5 : Nat) (h5 : kap a5 = 8) : ∀ (n : Nat) (x6 : Int32) (m : Mm), wp_X10_joinSide_l33 K x1 x2 x3 a4 a5 n x6 m → J X (0, 0) 33 [(0, .ref (ad 268)), (1, .int x1), (2, .int x2), (3, .int x3), (4, .ref (ad a4)), (5, .ref (ad a5)), (6, .int x6)] [] (fl ad m) := by
  intro n
  induction n with
  | zero => intro x6 m h; exact h.elim
  | succ n ih => intro x6 m h; exact tb_X10_joinSide_l33 hX hR x1 x2 x3 a4 h4 a5 h5 ih x6 m h
set_option maxRecDepth 100000 in
theorem c_X10_joinSide {G : GT} {ad : Nat → Nat} (x1 : Int32) (x2 : Int32) (x3 : Int32) (m : Mm) (K : Mm → Prop) (h : wp_X10_joinSide x1 x2 x3 m K) : Cn G yX10_joinSide cX10_joinSide 10 none (rmN 1 21) [.ref (ad 268), .int x1, .int x2, .int x3] (0, 0) (fl ad m) (kV ad K) := by
  unfold wp_X10_joinSide at h
  refine Cn.of pn_RX10 (Nat.le_of_ble_eq_true rfl) (fun X hG hX hR => ?_)
  subst hG
  have hX : Cx X cX10_joinSide 10 RX10 (rmN 1 21) := hX
  show J X (0, 0) 0 [(0, .ref (ad 268)), (1, .int x1), (2, .int x2), (3, .int x3)] [] (fl ad m)
  refine J_iload_n hX dX10_joinSide_0 rfl 2 rfl ?_
  refine J_if_lt (tgt := 9) hX dX10_joinSide_1 (by decide) (fun c1 => ?_) (fun c1 => ?_)
  · replace h := Eq.mp (if_pos c1) h
    exact J_vret hX hR dX10_joinSide_9 ⟨_, rfl, rfl, h⟩
  · replace h := Eq.mp (if_neg c1) h
    refine J_iload_n hX dX10_joinSide_4 rfl 2 rfl ?_
    refine J_iconst (v := (3 : Int32)) hX dX10_joinSide_5 (by decide) ?_
    refine J_icmp_le (tgt := 10) hX dX10_joinSide_6 (by decide) (fun c2 => ?_) (fun c2 => ?_)
    · replace h := Eq.mp (if_pos c2) h
      refine J_aload_n hX dX10_joinSide_10 rfl 0 rfl ?_
      refine J_getR hX kf_RX10_18 dX10_joinSide_11 ka_268 (by decide) rfl rh_268_1 ?_
      refine J_iload_n hX dX10_joinSide_14 rfl 1 rfl ?_
      refine J_callV hX km_X5_poseAt kl_RX10_55 dX10_joinSide_15 ka_269 (by decide) [.int x1] ⟨Nat.le_of_ble_eq_true rfl, Nat.le_of_ble_eq_true rfl⟩ rfl rfl (Nat.le_of_ble_eq_true rfl) (c_X5_poseAt x1 m) (fun v w2 hk => ?_)
      obtain ⟨rfl, rfl⟩ := hk
      show J X (0, 0) 18 [(0, .ref (ad 268)), (1, .int x1), (2, .int x2), (3, .int x3)] [.ref (ad (v_X5_poseAt x1))] (fl ad m)
      refine J_astore (lv2 := [(4, .ref (ad (v_X5_poseAt x1))), (0, .ref (ad 268)), (1, .int x1), (2, .int x2), (3, .int x3)]) hX dX10_joinSide_18 (Nat.le_of_ble_eq_true rfl) rfl ?_
      refine J_aload_n hX dX10_joinSide_20 rfl 1 rfl ?_
      refine J_getR hX kf_RX10_18 dX10_joinSide_21 ka_268 (by decide) rfl rh_268_1 ?_
      refine J_iload_n hX dX10_joinSide_24 rfl 4 rfl ?_
      refine J_callV hX km_X5_poseAt kl_RX10_55 dX10_joinSide_25 ka_269 (by decide) [.int x3] ⟨Nat.le_of_ble_eq_true rfl, Nat.le_of_ble_eq_true rfl⟩ rfl rfl (Nat.le_of_ble_eq_true rfl) (c_X5_poseAt x3 m) (fun v w2 hk => ?_)
      obtain ⟨rfl, rfl⟩ := hk
      show J X (0, 0) 28 [(4, .ref (ad (v_X5_poseAt x1))), (0, .ref (ad 268)), (1, .int x1), (2, .int x2), (3, .int x3)] [.ref (ad (v_X5_poseAt x3))] (fl ad m)
      refine J_astore (lv2 := [(5, .ref (ad (v_X5_poseAt x3))), (4, .ref (ad (v_X5_poseAt x1))), (0, .ref (ad 268)), (1, .int x1), (2, .int x2), (3, .int x3)]) hX dX10_joinSide_28 (Nat.le_of_ble_eq_true rfl) rfl ?_
      refine J_iconst (v := (0 : Int32)) hX dX10_joinSide_30 (by decide) ?_
      refine J_istore (lv2 := [(6, .int (0 : Int32)), (5, .ref (ad (v_X5_poseAt x3))), (4, .ref (ad (v_X5_poseAt x1))), (0, .ref (ad 268)), (1, .int x1), (2, .int x2), (3, .int x3)]) hX dX10_joinSide_31 (Nat.le_of_ble_eq_true rfl) rfl ?_
      refine J_sub [3, 4, 5, 6, 2, 1, 0] rfl (t_X10_joinSide_l33 hX hR x1 x2 x3 (v_X5_poseAt x1) kv_X5_poseAt (v_X5_poseAt x3) kv_X5_poseAt FU (0 : Int32) m h)
    · replace h := Eq.mp (if_neg c2) h
      exact J_vret hX hR dX10_joinSide_9 ⟨_, rfl, rfl, h⟩
set_option maxRecDepth 100000 in
theorem tb_X10_find_l35 {X : XT} {ad : Nat → Nat} {K : Mm → Prop} (hX : Cx X cX10_find 5 RX10 (rmN 2 50)) (hR : Rx X none (kV ad K) (0, 0)) {rec : Int32 → Mm → Prop} {k25 : Int32 → Mm → Prop} (x2 : Int32) (x3 : Int32) (hrec : ∀ (x4 : Int32) (m : Mm), rec x4 m → J X (0, 0) 35 [(0, .ref (ad 268)), (2, .int x2), (3, .int x3), (4, .int x4)] [] (fl ad m)) (hk25 : ∀ (z3 : Int32) (m : Mm), k25 z3 m → J X (0, 0) 25 [(0, .ref (ad 268)), (2, .int x2), (3, .int z3)] [] (fl ad m)) (x4 : Int32) (m : Mm) (h : wb_X10_find_l35 rec k25 K x2 x3 x4 m) : J X (0, 0) 35 [(0, .ref (ad 268)), (2, .int x2), (3, .int x3), (4, .int x4)] [] (fl ad m) := by
  unfold wb_X10_find_l35 at h
  refine J_iload hX dX10_find_35 3 rfl ?_
  refine J_aload_n hX dX10_find_37 rfl 0 rfl ?_
  refine J_getR hX kf_RX10_18 dX10_find_38 ka_268 (by decide) rfl rh_268_1 ?_
  refine J_getI hX kf_RX10_48 dX10_find_41 ka_269 (by decide) rfl ?_
  refine J_icmp_ge (tgt := 61) hX dX10_find_44 (by decide) (fun c6 => ?_) (fun c6 => ?_)
  · replace h := Eq.mp (if_pos c6) h
    refine J_iinc (x := (x3 + (1 : Int32))) (lv2 := [(3, .int (x3 + (1 : Int32))), (0, .ref (ad 268)), (2, .int x2), (4, .int x4)]) hX dX10_find_61 2 rfl rfl (Nat.le_of_ble_eq_true rfl) rfl ?_
    refine J_goto (tgt := 25) hX dX10_find_64 (by decide) ?_
    exact J_sub [1, 2, 0] rfl (hk25 (x3 + (1 : Int32)) m h)
  · replace h := Eq.mp (if_neg c6) h
    refine J_aload_n hX dX10_find_47 rfl 0 rfl ?_
    refine J_iload_n hX dX10_find_48 rfl 1 rfl ?_
    refine J_iload_n hX dX10_find_49 rfl 2 rfl ?_
    refine J_iload hX dX10_find_50 3 rfl ?_
    refine J_callV hX km_X10_joinSide kl_RX10_51 dX10_find_52 ka_268 (by decide) [.int x2, .int x3, .int x4] ⟨Nat.le_of_ble_eq_true rfl, Nat.le_of_ble_eq_true rfl⟩ rfl rfl (Nat.le_of_ble_eq_true rfl) (c_X10_joinSide x2 x3 x4 m _ h) (fun v w2 hk => ?_)
    obtain ⟨m7, rfl, rfl, h⟩ := hk
    show J X (0, 0) 55 [(0, .ref (ad 268)), (2, .int x2), (3, .int x3), (4, .int x4)] [] (fl ad m7)
    refine J_iinc (x := (x4 + (1 : Int32))) (lv2 := [(4, .int (x4 + (1 : Int32))), (0, .ref (ad 268)), (2, .int x2), (3, .int x3)]) hX dX10_find_55 3 rfl rfl (Nat.le_of_ble_eq_true rfl) rfl ?_
    refine J_goto (tgt := 35) hX dX10_find_58 (by decide) ?_
    exact J_sub [1, 2, 3, 0] rfl (hrec (x4 + (1 : Int32)) m7 h)
set_option maxRecDepth 100000 in
theorem t_X10_find_l35 {X : XT} {ad : Nat → Nat} {K : Mm → Prop} (hX : Cx X cX10_find 5 RX10 (rmN 2 50)) (hR : Rx X none (kV ad K) (0, 0)) {k25 : Int32 → Mm → Prop} (x2 : Int32) (x3 : Int32) (hk25 : ∀ (z3 : Int32) (m : Mm), k25 z3 m → J X (0, 0) 25 [(0, .ref (ad 268)), (2, .int x2), (3, .int z3)] [] (fl ad m)) : ∀ (n : Nat) (x4 : Int32) (m : Mm), wp_X10_find_l35 k25 K x2 x3 n x4 m → J X (0, 0) 35 [(0, .ref (ad 268)), (2, .int x2), (3, .int x3), (4, .int x4)] [] (fl ad m) := by
  intro n
  induction n with
  | zero => intro x4 m h; exact h.elim
  | succ n ih => intro x4 m h; exact tb_X10_find_l35 hX hR x2 x3 ih hk25 x4 m h
set_option maxRecDepth 100000 in
theorem tb_X10_find_l25 {X : XT} {ad : Nat → Nat} {K : Mm → Prop} (hX : Cx X cX10_find 5 RX10 (rmN 2 50)) (hR : Rx X none (kV ad K) (0, 0)) {rec : Int32 → Mm → Prop} {k12 : Int32 → Mm → Prop} (x2 : Int32) (hrec : ∀ (x3 : Int32) (m : Mm), rec x3 m → J X (0, 0) 25 [(0, .ref (ad 268)), (2, .int x2), (3, .int x3)] [] (fl ad m)) (hk12 : ∀ (z2 : Int32) (m : Mm), k12 z2 m → J X (0, 0) 12 [(0, .ref (ad 268)), (2, .int z2)] [] (fl ad m)) (x3 : Int32) (m : Mm) (h : wb_X10_find_l25 rec k12 K x2 x3 m) : J X (0, 0) 25 [(0, .ref (ad 268)), (2, .int x2), (3, .int x3)] [] (fl ad m) := by
  unfold wb_X10_find_l25 at h
  refine J_iload_n hX dX10_find_25 rfl 2 rfl ?_
  refine J_iconst (v := (4 : Int32)) hX dX10_find_26 (by decide) ?_
  refine J_icmp_ge (tgt := 67) hX dX10_find_27 (by decide) (fun c4 => ?_) (fun c4 => ?_)
  · replace h := Eq.mp (if_pos c4) h
    refine J_iinc (x := (x2 + (1 : Int32))) (lv2 := [(2, .int (x2 + (1 : Int32))), (0, .ref (ad 268)), (3, .int x3)]) hX dX10_find_67 1 rfl rfl (Nat.le_of_ble_eq_true rfl) rfl ?_
    refine J_goto (tgt := 12) hX dX10_find_70 (by decide) ?_
    exact J_sub [1, 0] rfl (hk12 (x2 + (1 : Int32)) m h)
  · replace h := Eq.mp (if_neg c4) h
    refine J_iload_n hX dX10_find_30 rfl 1 rfl ?_
    refine J_iconst (v := (1 : Int32)) hX dX10_find_31 (by decide) ?_
    refine J_iadd hX dX10_find_32 ?_
    refine J_nmI (fun y5 e_y5 => ?_)
    replace h := h y5 e_y5
    refine J_istore (lv2 := [(4, .int y5), (0, .ref (ad 268)), (2, .int x2), (3, .int x3)]) hX dX10_find_33 (Nat.le_of_ble_eq_true rfl) rfl ?_
    refine J_sub [1, 2, 3, 0] rfl (t_X10_find_l35 hX hR x2 x3 hrec FU y5 m h)
set_option maxRecDepth 100000 in
theorem t_X10_find_l25 {X : XT} {ad : Nat → Nat} {K : Mm → Prop} (hX : Cx X cX10_find 5 RX10 (rmN 2 50)) (hR : Rx X none (kV ad K) (0, 0)) {k12 : Int32 → Mm → Prop} (x2 : Int32) (hk12 : ∀ (z2 : Int32) (m : Mm), k12 z2 m → J X (0, 0) 12 [(0, .ref (ad 268)), (2, .int z2)] [] (fl ad m)) : ∀ (n : Nat) (x3 : Int32) (m : Mm), wp_X10_find_l25 k12 K x2 n x3 m → J X (0, 0) 25 [(0, .ref (ad 268)), (2, .int x2), (3, .int x3)] [] (fl ad m) := by
  intro n
  induction n with
  | zero => intro x3 m h; exact h.elim
  | succ n ih => intro x3 m h; exact tb_X10_find_l25 hX hR x2 ih hk12 x3 m h
set_option maxRecDepth 100000 in
theorem tb_X10_find_l12 {X : XT} {ad : Nat → Nat} {K : Mm → Prop} (hX : Cx X cX10_find 5 RX10 (rmN 2 50)) (hR : Rx X none (kV ad K) (0, 0)) {rec : Int32 → Mm → Prop} (hrec : ∀ (x2 : Int32) (m : Mm), rec x2 m → J X (0, 0) 12 [(0, .ref (ad 268)), (2, .int x2)] [] (fl ad m)) (x2 : Int32) (m : Mm) (h : wb_X10_find_l12 rec K x2 m) : J X (0, 0) 12 [(0, .ref (ad 268)), (2, .int x2)] [] (fl ad m) := by
  unfold wb_X10_find_l12 at h
  refine J_iload_n hX dX10_find_12 rfl 1 rfl ?_
  refine J_aload_n hX dX10_find_13 rfl 0 rfl ?_
  refine J_getR hX kf_RX10_18 dX10_find_14 ka_268 (by decide) rfl rh_268_1 ?_
  refine J_getI hX kf_RX10_48 dX10_find_17 ka_269 (by decide) rfl ?_
  refine J_icmp_ge (tgt := 73) hX dX10_find_20 (by decide) (fun c3 => ?_) (fun c3 => ?_)
  · replace h := Eq.mp (if_pos c3) h
    exact J_vret hX hR dX10_find_73 ⟨_, rfl, rfl, h⟩
  · replace h := Eq.mp (if_neg c3) h
    refine J_iconst (v := (0 : Int32)) hX dX10_find_23 (by decide) ?_
    refine J_istore_n (lv2 := [(3, .int (0 : Int32)), (0, .ref (ad 268)), (2, .int x2)]) hX dX10_find_24 rfl (Nat.le_of_ble_eq_true rfl) rfl ?_
    refine J_sub [1, 2, 0] rfl (t_X10_find_l25 hX hR x2 hrec FU (0 : Int32) m h)
set_option maxRecDepth 100000 in
theorem t_X10_find_l12 {X : XT} {ad : Nat → Nat} {K : Mm → Prop} (hX : Cx X cX10_find 5 RX10 (rmN 2 50)) (hR : Rx X none (kV ad K) (0, 0))  : ∀ (n : Nat) (x2 : Int32) (m : Mm), wp_X10_find_l12 K n x2 m → J X (0, 0) 12 [(0, .ref (ad 268)), (2, .int x2)] [] (fl ad m) := by
  intro n
  induction n with
  | zero => intro x2 m h; exact h.elim
  | succ n ih => intro x2 m h; exact tb_X10_find_l12 hX hR ih x2 m h
set_option maxRecDepth 100000 in
theorem c_X10_find {G : GT} {ad : Nat → Nat} (x1 : Int32) (m : Mm) (K : Mm → Prop) (h : wp_X10_find x1 m K) : Cn G yX10_find cX10_find 5 none (rmN 2 50) [.ref (ad 268), .int x1] (0, 0) (fl ad m) (kV ad K) := by
  unfold wp_X10_find at h
  refine Cn.of pn_RX10 (Nat.le_of_ble_eq_true rfl) (fun X hG hX hR => ?_)
  subst hG
  have hX : Cx X cX10_find 5 RX10 (rmN 2 50) := hX
  show J X (0, 0) 0 [(0, .ref (ad 268)), (1, .int x1)] [] (fl ad m)
  refine J_aload_n hX dX10_find_0 rfl 0 rfl ?_
  refine J_iconst (v := (0 : Int32)) hX dX10_find_1 (by decide) ?_
  refine J_putI hX kf_RX10_9 dX10_find_2 ka_268 (by decide) rfl ?_
  refine J_nmM (fun m1 e_m1 => ?_)
  replace h := h m1 e_m1
  refine J_aload_n hX dX10_find_5 rfl 0 rfl ?_
  refine J_iload_n hX dX10_find_6 rfl 1 rfl ?_
  refine J_putI hX kf_RX10_22 dX10_find_7 ka_268 (by decide) rfl ?_
  refine J_nmM (fun m2 e_m2 => ?_)
  replace h := h m2 e_m2
  refine J_iconst (v := (0 : Int32)) hX dX10_find_10 (by decide) ?_
  refine J_istore_n (lv2 := [(2, .int (0 : Int32)), (0, .ref (ad 268)), (1, .int x1)]) hX dX10_find_11 rfl (Nat.le_of_ble_eq_true rfl) rfl ?_
  refine J_sub [1, 0] rfl (t_X10_find_l12 hX hR FU (0 : Int32) m2 h)
theorem bv_X7_hangsOn (a0 : Nat) (x1 : Int32) (x2 : Int32) (m : Mm) : bo (v_X7_hangsOn a0 x1 x2 m) := (bo_ite (bo_ite bo_1 bo_0) bo_0)
set_option maxRecDepth 100000 in
theorem c_X7_hangsOn {G : GT} {ad : Nat → Nat} (a0 : Nat) (h0 : kap a0 = 7) (x1 : Int32) (x2 : Int32) (m : Mm) : Cn G yX7_hangsOn cX7_hangsOn 3 (some .boolean) (rmN 0 0) [.ref (ad a0), .int x1, .int x2] (0, 0) (fl ad m) (fun v w => v = some (.int (v_X7_hangsOn a0 x1 x2 m)) ∧ w = fl ad m) := by
  refine Cn.of pn_RX7 (Nat.le_of_ble_eq_true rfl) (fun X hG hX hR => ?_)
  subst hG
  have hX : Cx X cX7_hangsOn 3 RX7 (rmN 0 0) := hX
  show J X (0, 0) 0 [(0, .ref (ad a0)), (1, .int x1), (2, .int x2)] [] (fl ad m)
  refine J_aload_n hX dX7_hangsOn_0 rfl 0 rfl ?_
  refine J_getI hX kf_RX7_9 dX7_hangsOn_1 h0 (by decide) rfl ?_
  refine J_iload_n hX dX7_hangsOn_4 rfl 1 rfl ?_
  have hj3 : ∀ y4 : Int32, y4 = (if (m.1 a0 0) = x1 then (if (m.1 a0 1) = x2 then (1 : Int32) else (0 : Int32)) else (0 : Int32)) → J X (0, 0) 21 [] [.int y4] (fl ad m) := by
    intro y4 e_y4
    subst e_y4
    exact J_zret hX hR dX7_hangsOn_21 (bo_ite (bo_ite bo_1 bo_0) bo_0) (And.intro (congrArg (fun z => some (Value.int z)) (show (if (m.1 a0 0) = x1 then (if (m.1 a0 1) = x2 then (1 : Int32) else (0 : Int32)) else (0 : Int32)) = v_X7_hangsOn a0 x1 x2 m from rfl)) rfl)
  refine J_icmp_ne (tgt := 20) hX dX7_hangsOn_5 (by decide) (fun c1 => ?_) (fun c1 => ?_)
  · refine J_iconst (v := (0 : Int32)) hX dX7_hangsOn_20 (by decide) ?_
    exact J_sub [] rfl (hj3 _ (if_neg c1).symm)
  · refine J_aload_n hX dX7_hangsOn_8 rfl 0 rfl ?_
    refine J_getI hX kf_RX7_15 dX7_hangsOn_9 h0 (by decide) rfl ?_
    refine J_iload_n hX dX7_hangsOn_12 rfl 2 rfl ?_
    refine J_icmp_ne (tgt := 20) hX dX7_hangsOn_13 (by decide) (fun c2 => ?_) (fun c2 => ?_)
    · refine J_iconst (v := (0 : Int32)) hX dX7_hangsOn_20 (by decide) ?_
      exact J_sub [] rfl (hj3 _ ((if_pos c1).trans (if_neg c2)).symm)
    · refine J_iconst (v := (1 : Int32)) hX dX7_hangsOn_16 (by decide) ?_
      refine J_goto (tgt := 21) hX dX7_hangsOn_17 (by decide) ?_
      exact J_sub [] rfl (hj3 _ ((if_pos c1).trans (if_pos c2)).symm)
set_option maxRecDepth 100000 in
theorem c_X7_nearSide {G : GT} {ad : Nat → Nat} (a0 : Nat) (h0 : kap a0 = 7) (m : Mm) : Cn G yX7_nearSide cX7_nearSide 1 (some .int) (rmN 0 0) [.ref (ad a0)] (0, 0) (fl ad m) (fun v w => v = some (.int (v_X7_nearSide a0 m)) ∧ w = fl ad m) := by
  refine Cn.of pn_RX7 (Nat.le_of_ble_eq_true rfl) (fun X hG hX hR => ?_)
  subst hG
  have hX : Cx X cX7_nearSide 1 RX7 (rmN 0 0) := hX
  show J X (0, 0) 0 [(0, .ref (ad a0))] [] (fl ad m)
  refine J_aload_n hX dX7_nearSide_0 rfl 0 rfl ?_
  refine J_getI hX kf_RX7_9 dX7_nearSide_1 h0 (by decide) rfl ?_
  refine J_bipush (v := (-9 : Int32)) hX dX7_nearSide_4 (by decide) ?_
  have hj2 : ∀ y3 : Int32, y3 = (if (m.1 a0 0) = (-9 : Int32) then (-9 : Int32) else (((m.1 a0 1) + (2 : Int32)) &&& (3 : Int32))) → J X (0, 0) 22 [] [.int y3] (fl ad m) := by
    intro y3 e_y3
    subst e_y3
    exact J_iret hX hR dX7_nearSide_22 (And.intro (congrArg (fun z => some (Value.int z)) (show (if (m.1 a0 0) = (-9 : Int32) then (-9 : Int32) else (((m.1 a0 1) + (2 : Int32)) &&& (3 : Int32))) = v_X7_nearSide a0 m from rfl)) rfl)
  refine J_icmp_ne (tgt := 14) hX dX7_nearSide_6 (by decide) (fun c1 => ?_) (fun c1 => ?_)
  · refine J_aload_n hX dX7_nearSide_14 rfl 0 rfl ?_
    refine J_getI hX kf_RX7_15 dX7_nearSide_15 h0 (by decide) rfl ?_
    refine J_iconst (v := (2 : Int32)) hX dX7_nearSide_18 (by decide) ?_
    refine J_iadd hX dX7_nearSide_19 ?_
    refine J_iconst (v := (3 : Int32)) hX dX7_nearSide_20 (by decide) ?_
    refine J_iand hX dX7_nearSide_21 ?_
    exact J_sub [] rfl (hj2 _ (if_neg c1).symm)
  · refine J_bipush (v := (-9 : Int32)) hX dX7_nearSide_9 (by decide) ?_
    refine J_goto (tgt := 22) hX dX7_nearSide_11 (by decide) ?_
    exact J_sub [] rfl (hj2 _ (if_pos c1).symm)
theorem bv_X10_isFold (a1 : Nat) (x2 : Int32) (m : Mm) : bo (v_X10_isFold a1 x2 m) := (bo_ite bo_0 (bo_ite bo_1 bo_0))
set_option maxRecDepth 100000 in
theorem c_X10_isFold {G : GT} {ad : Nat → Nat} (a1 : Nat) (h1 : kap a1 = 3) (x2 : Int32) (m : Mm) (h : s_X10_isFold a1 x2 m) : Cn G yX10_isFold cX10_isFold 4 (some .boolean) (rmN 2 42) [.ref (ad 268), .ref (ad a1), .int x2] (0, 0) (fl ad m) (fun v w => v = some (.int (v_X10_isFold a1 x2 m)) ∧ w = fl ad m) := by
  unfold s_X10_isFold at h
  refine Cn.of pn_RX10 (Nat.le_of_ble_eq_true rfl) (fun X hG hX hR => ?_)
  subst hG
  have hX : Cx X cX10_isFold 4 RX10 (rmN 2 42) := hX
  show J X (0, 0) 0 [(0, .ref (ad 268)), (1, .ref (ad a1)), (2, .int x2)] [] (fl ad m)
  obtain ⟨b1, b2, b3, g7⟩ := h
  refine J_aload_n hX dX10_isFold_0 rfl 1 rfl ?_
  refine J_aload_n hX dX10_isFold_1 rfl 0 rfl ?_
  refine J_iload_n hX dX10_isFold_2 rfl 2 rfl ?_
  refine J_callV hX km_X10_panelQ kl_RX10_99 dX10_isFold_3 ka_268 (by decide) [.int x2] ⟨Nat.le_of_ble_eq_true rfl, Nat.le_of_ble_eq_true rfl⟩ rfl rfl (Nat.le_of_ble_eq_true rfl) (c_X10_panelQ x2 m b1) (fun v w2 hk => ?_)
  obtain ⟨rfl, rfl⟩ := hk
  show J X (0, 0) 6 [(0, .ref (ad 268)), (1, .ref (ad a1)), (2, .int x2)] [.int (v_X10_panelQ x2 m), .ref (ad a1)] (fl ad m)
  refine J_callV hX km_X3_panelAt kl_RX10_109 dX10_isFold_6 h1 (by decide) [.int (v_X10_panelQ x2 m)] ⟨Nat.le_of_ble_eq_true rfl, Nat.le_of_ble_eq_true rfl⟩ rfl rfl (Nat.le_of_ble_eq_true rfl) (c_X3_panelAt a1 h1 (v_X10_panelQ x2 m) m) (fun v w2 hk => ?_)
  obtain ⟨rfl, rfl⟩ := hk
  show J X (0, 0) 9 [(0, .ref (ad 268)), (1, .ref (ad a1)), (2, .int x2)] [.ref (ad (v_X3_panelAt a1 (v_X10_panelQ x2 m)))] (fl ad m)
  refine J_astore_n (lv2 := [(3, .ref (ad (v_X3_panelAt a1 (v_X10_panelQ x2 m)))), (0, .ref (ad 268)), (1, .ref (ad a1)), (2, .int x2)]) hX dX10_isFold_9 rfl (Nat.le_of_ble_eq_true rfl) rfl ?_
  refine J_aload_n hX dX10_isFold_10 rfl 0 rfl ?_
  refine J_aload_n hX dX10_isFold_11 rfl 1 rfl ?_
  refine J_iload_n hX dX10_isFold_12 rfl 3 rfl ?_
  refine J_callV hX km_X10_panelP kl_RX10_93 dX10_isFold_13 ka_268 (by decide) [.int x2] ⟨Nat.le_of_ble_eq_true rfl, Nat.le_of_ble_eq_true rfl⟩ rfl rfl (Nat.le_of_ble_eq_true rfl) (c_X10_panelP x2 m b2) (fun v w2 hk => ?_)
  obtain ⟨rfl, rfl⟩ := hk
  show J X (0, 0) 16 [(3, .ref (ad (v_X3_panelAt a1 (v_X10_panelQ x2 m)))), (0, .ref (ad 268)), (1, .ref (ad a1)), (2, .int x2)] [.int (v_X10_panelP x2 m), .ref (ad (v_X3_panelAt a1 (v_X10_panelQ x2 m)))] (fl ad m)
  refine J_aload_n hX dX10_isFold_16 rfl 1 rfl ?_
  refine J_iload_n hX dX10_isFold_17 rfl 3 rfl ?_
  refine J_callV hX km_X10_sideOfP kl_RX10_96 dX10_isFold_18 ka_268 (by decide) [.int x2] ⟨Nat.le_of_ble_eq_true rfl, Nat.le_of_ble_eq_true rfl⟩ rfl rfl (Nat.le_of_ble_eq_true rfl) (c_X10_sideOfP x2 m b3) (fun v w2 hk => ?_)
  obtain ⟨rfl, rfl⟩ := hk
  show J X (0, 0) 21 [(3, .ref (ad (v_X3_panelAt a1 (v_X10_panelQ x2 m)))), (0, .ref (ad 268)), (1, .ref (ad a1)), (2, .int x2)] [.int (v_X10_sideOfP x2 m), .int (v_X10_panelP x2 m), .ref (ad (v_X3_panelAt a1 (v_X10_panelQ x2 m)))] (fl ad m)
  refine J_callV hX km_X7_hangsOn kl_RX10_115 dX10_isFold_21 (kv_X3_panelAt h1) (by decide) [.int (v_X10_panelP x2 m), .int (v_X10_sideOfP x2 m)] ⟨Nat.le_of_ble_eq_true rfl, Nat.le_of_ble_eq_true rfl⟩ rfl rfl (Nat.le_of_ble_eq_true rfl) (c_X7_hangsOn (v_X3_panelAt a1 (v_X10_panelQ x2 m)) (kv_X3_panelAt h1) (v_X10_panelP x2 m) (v_X10_sideOfP x2 m) m) (fun v w2 hk => ?_)
  obtain ⟨rfl, rfl⟩ := hk
  show J X (0, 0) 24 [(3, .ref (ad (v_X3_panelAt a1 (v_X10_panelQ x2 m)))), (0, .ref (ad 268)), (1, .ref (ad a1)), (2, .int x2)] [.int (v_X7_hangsOn (v_X3_panelAt a1 (v_X10_panelQ x2 m)) (v_X10_panelP x2 m) (v_X10_sideOfP x2 m) m)] (fl ad m)
  have hj8 : ∀ y9 : Int32, y9 = (if (v_X7_hangsOn (v_X3_panelAt a1 (v_X10_panelQ x2 m)) (v_X10_panelP x2 m) (v_X10_sideOfP x2 m) m) = (0 : Int32) then (0 : Int32) else (if (v_X7_nearSide (v_X3_panelAt a1 (v_X10_panelQ x2 m)) m) = (v_X10_sideOfQ x2 m) then (1 : Int32) else (0 : Int32))) → J X (0, 0) 44 [] [.int y9] (fl ad m) := by
    intro y9 e_y9
    subst e_y9
    exact J_zret hX hR dX10_isFold_44 (bo_ite bo_0 (bo_ite bo_1 bo_0)) (And.intro (congrArg (fun z => some (Value.int z)) (show (if (v_X7_hangsOn (v_X3_panelAt a1 (v_X10_panelQ x2 m)) (v_X10_panelP x2 m) (v_X10_sideOfP x2 m) m) = (0 : Int32) then (0 : Int32) else (if (v_X7_nearSide (v_X3_panelAt a1 (v_X10_panelQ x2 m)) m) = (v_X10_sideOfQ x2 m) then (1 : Int32) else (0 : Int32))) = v_X10_isFold a1 x2 m from rfl)) rfl)
  have g10 := g7
  refine J_if_eq (tgt := 43) hX dX10_isFold_24 (by decide) (fun c4 => ?_) (fun c4 => ?_)
  · refine J_iconst (v := (0 : Int32)) hX dX10_isFold_43 (by decide) ?_
    exact J_sub [] rfl (hj8 _ (if_pos c4).symm)
  · have g11 := g10 c4
    have b5 := g11
    refine J_aload_n hX dX10_isFold_27 rfl 0 rfl ?_
    refine J_callV hX km_X7_nearSide kl_RX10_121 dX10_isFold_28 (kv_X3_panelAt h1) (by decide) [] ⟨Nat.le_of_ble_eq_true rfl, Nat.le_of_ble_eq_true rfl⟩ rfl rfl (Nat.le_of_ble_eq_true rfl) (c_X7_nearSide (v_X3_panelAt a1 (v_X10_panelQ x2 m)) (kv_X3_panelAt h1) m) (fun v w2 hk => ?_)
    obtain ⟨rfl, rfl⟩ := hk
    show J X (0, 0) 31 [(3, .ref (ad (v_X3_panelAt a1 (v_X10_panelQ x2 m)))), (0, .ref (ad 268)), (1, .ref (ad a1)), (2, .int x2)] [.int (v_X7_nearSide (v_X3_panelAt a1 (v_X10_panelQ x2 m)) m)] (fl ad m)
    refine J_aload_n hX dX10_isFold_31 rfl 1 rfl ?_
    refine J_iload_n hX dX10_isFold_32 rfl 3 rfl ?_
    refine J_callV hX km_X10_sideOfQ kl_RX10_102 dX10_isFold_33 ka_268 (by decide) [.int x2] ⟨Nat.le_of_ble_eq_true rfl, Nat.le_of_ble_eq_true rfl⟩ rfl rfl (Nat.le_of_ble_eq_true rfl) (c_X10_sideOfQ x2 m b5) (fun v w2 hk => ?_)
    obtain ⟨rfl, rfl⟩ := hk
    show J X (0, 0) 36 [(3, .ref (ad (v_X3_panelAt a1 (v_X10_panelQ x2 m)))), (0, .ref (ad 268)), (1, .ref (ad a1)), (2, .int x2)] [.int (v_X10_sideOfQ x2 m), .int (v_X7_nearSide (v_X3_panelAt a1 (v_X10_panelQ x2 m)) m)] (fl ad m)
    refine J_icmp_ne (tgt := 43) hX dX10_isFold_36 (by decide) (fun c6 => ?_) (fun c6 => ?_)
    · refine J_iconst (v := (0 : Int32)) hX dX10_isFold_43 (by decide) ?_
      exact J_sub [] rfl (hj8 _ ((if_neg c4).trans (if_neg c6)).symm)
    · refine J_iconst (v := (1 : Int32)) hX dX10_isFold_39 (by decide) ?_
      refine J_goto (tgt := 44) hX dX10_isFold_40 (by decide) ?_
      exact J_sub [] rfl (hj8 _ ((if_neg c4).trans (if_pos c6)).symm)
set_option maxRecDepth 100000 in
theorem c_X2_empty {G : GT} {ad : Nat → Nat} (a0 : Nat) (h0 : kap a0 = 2) (m : Mm) (K : Mm → Prop) (h : wp_X2_empty a0 m K) : Cn G yX2_empty cX2_empty 1 none (rmN 0 0) [.ref (ad a0)] (0, 0) (fl ad m) (kV ad K) := by
  unfold wp_X2_empty at h
  refine Cn.of pn_RX2 (Nat.le_of_ble_eq_true rfl) (fun X hG hX hR => ?_)
  subst hG
  have hX : Cx X cX2_empty 1 RX2 (rmN 0 0) := hX
  show J X (0, 0) 0 [(0, .ref (ad a0))] [] (fl ad m)
  refine J_aload_n hX dX2_empty_0 rfl 0 rfl ?_
  refine J_iconst (v := (0 : Int32)) hX dX2_empty_1 (by decide) ?_
  refine J_putI hX kf_RX2_9 dX2_empty_2 h0 (by decide) rfl ?_
  refine J_nmM (fun m1 e_m1 => ?_)
  replace h := h m1 e_m1
  exact J_vret hX hR dX2_empty_5 ⟨_, rfl, rfl, h⟩
set_option maxRecDepth 100000 in
theorem tb_X2_add_l15 {X : XT} {ad : Nat → Nat} {K : Mm → Prop} (hX : Cx X cX2_add 4 RX2 (rmN 0 0)) (hR : Rx X none (kV ad K) (0, 0)) {rec : Int32 → Mm → Prop} {k65 : Int32 → Mm → Prop} (a0 : Nat) (h0 : kap a0 = 2) (x1 : Int32) (x2 : Int32) (hrec : ∀ (x3 : Int32) (m : Mm), rec x3 m → J X (0, 0) 15 [(0, .ref (ad a0)), (1, .int x1), (2, .int x2), (3, .int x3)] [] (fl ad m)) (hk65 : ∀ (z3 : Int32) (m : Mm), k65 z3 m → J X (0, 0) 65 [(0, .ref (ad a0)), (1, .int x1), (2, .int x2), (3, .int z3)] [] (fl ad m)) (x3 : Int32) (m : Mm) (h : wb_X2_add_l15 rec k65 K a0 x1 x2 x3 m) : J X (0, 0) 15 [(0, .ref (ad a0)), (1, .int x1), (2, .int x2), (3, .int x3)] [] (fl ad m) := by
  unfold wb_X2_add_l15 at h
  refine J_iload_n hX dX2_add_15 rfl 3 rfl ?_
  refine J_if_le (tgt := 65) hX dX2_add_16 (by decide) (fun c3 => ?_) (fun c3 => ?_)
  · replace h := Eq.mp (if_pos c3) h
    exact J_sub [0, 1, 2, 3] rfl (hk65 x3 m h)
  · replace h := Eq.mp (if_neg c3) h
    refine J_aload_n hX dX2_add_19 rfl 0 rfl ?_
    refine J_getR hX kf_RX2_15 dX2_add_20 h0 (by decide) rfl (ro_2_1 h0) ?_
    refine J_iload_n hX dX2_add_23 rfl 3 rfl ?_
    refine J_iconst (v := (1 : Int32)) hX dX2_add_24 (by decide) ?_
    refine J_isub hX dX2_add_25 ?_
    obtain ⟨b4, h⟩ := h
    refine J_iald (j := (x3 - (1 : Int32)).toNatClampNeg) hX dX2_add_26 (ko_2_1 h0) (lo_2_1 h0) b4 rfl ?_
    refine J_iload_n hX dX2_add_27 rfl 1 rfl ?_
    refine J_icmp_le (tgt := 65) hX dX2_add_28 (by decide) (fun c5 => ?_) (fun c5 => ?_)
    · replace h := Eq.mp (if_pos c5) h
      exact J_sub [0, 1, 2, 3] rfl (hk65 x3 m h)
    · replace h := Eq.mp (if_neg c5) h
      refine J_aload_n hX dX2_add_31 rfl 0 rfl ?_
      refine J_getR hX kf_RX2_15 dX2_add_32 h0 (by decide) rfl (ro_2_1 h0) ?_
      refine J_iload_n hX dX2_add_35 rfl 3 rfl ?_
      refine J_aload_n hX dX2_add_36 rfl 0 rfl ?_
      refine J_getR hX kf_RX2_15 dX2_add_37 h0 (by decide) rfl (ro_2_1 h0) ?_
      refine J_iload_n hX dX2_add_40 rfl 3 rfl ?_
      refine J_iconst (v := (1 : Int32)) hX dX2_add_41 (by decide) ?_
      refine J_isub hX dX2_add_42 ?_
      refine J_iald (j := (x3 - (1 : Int32)).toNatClampNeg) hX dX2_add_43 (ko_2_1 h0) (lo_2_1 h0) b4 rfl ?_
      obtain ⟨b6, h⟩ := h
      refine J_iast (j := x3.toNatClampNeg) hX dX2_add_44 (ko_2_1 h0) (lo_2_1 h0) b6 rfl ?_
      refine J_nmM (fun m7 e_m7 => ?_)
      replace h := h m7 e_m7
      refine J_aload_n hX dX2_add_45 rfl 0 rfl ?_
      refine J_getR hX kf_RX2_19 dX2_add_46 h0 (by decide) rfl (ro_2_2 h0) ?_
      refine J_iload_n hX dX2_add_49 rfl 3 rfl ?_
      refine J_aload_n hX dX2_add_50 rfl 0 rfl ?_
      refine J_getR hX kf_RX2_19 dX2_add_51 h0 (by decide) rfl (ro_2_2 h0) ?_
      refine J_iload_n hX dX2_add_54 rfl 3 rfl ?_
      refine J_iconst (v := (1 : Int32)) hX dX2_add_55 (by decide) ?_
      refine J_isub hX dX2_add_56 ?_
      refine J_iald (j := (x3 - (1 : Int32)).toNatClampNeg) hX dX2_add_57 (ko_2_2 h0) (lo_2_2 h0) b4 rfl ?_
      refine J_iast (j := x3.toNatClampNeg) hX dX2_add_58 (ko_2_2 h0) (lo_2_2 h0) b6 rfl ?_
      refine J_nmM (fun m8 e_m8 => ?_)
      replace h := h m8 e_m8
      refine J_iinc (x := (x3 + (-1 : Int32))) (lv2 := [(3, .int (x3 + (-1 : Int32))), (0, .ref (ad a0)), (1, .int x1), (2, .int x2)]) hX dX2_add_59 3 rfl rfl (Nat.le_of_ble_eq_true rfl) rfl ?_
      refine J_goto (tgt := 15) hX dX2_add_62 (by decide) ?_
      exact J_sub [1, 2, 3, 0] rfl (hrec (x3 + (-1 : Int32)) m8 h)
set_option maxRecDepth 100000 in
theorem t_X2_add_l15 {X : XT} {ad : Nat → Nat} {K : Mm → Prop} (hX : Cx X cX2_add 4 RX2 (rmN 0 0)) (hR : Rx X none (kV ad K) (0, 0)) {k65 : Int32 → Mm → Prop} (a0 : Nat) (h0 : kap a0 = 2) (x1 : Int32) (x2 : Int32) (hk65 : ∀ (z3 : Int32) (m : Mm), k65 z3 m → J X (0, 0) 65 [(0, .ref (ad a0)), (1, .int x1), (2, .int x2), (3, .int z3)] [] (fl ad m)) : ∀ (n : Nat) (x3 : Int32) (m : Mm), wp_X2_add_l15 k65 K a0 x1 x2 n x3 m → J X (0, 0) 15 [(0, .ref (ad a0)), (1, .int x1), (2, .int x2), (3, .int x3)] [] (fl ad m) := by
  intro n
  induction n with
  | zero => intro x3 m h; exact h.elim
  | succ n ih => intro x3 m h; exact tb_X2_add_l15 hX hR a0 h0 x1 x2 ih hk65 x3 m h
set_option maxRecDepth 100000 in
theorem c_X2_add {G : GT} {ad : Nat → Nat} (a0 : Nat) (h0 : kap a0 = 2) (x1 : Int32) (x2 : Int32) (m : Mm) (K : Mm → Prop) (h : wp_X2_add a0 x1 x2 m K) : Cn G yX2_add cX2_add 4 none (rmN 0 0) [.ref (ad a0), .int x1, .int x2] (0, 0) (fl ad m) (kV ad K) := by
  unfold wp_X2_add at h
  refine Cn.of pn_RX2 (Nat.le_of_ble_eq_true rfl) (fun X hG hX hR => ?_)
  subst hG
  have hX : Cx X cX2_add 4 RX2 (rmN 0 0) := hX
  show J X (0, 0) 0 [(0, .ref (ad a0)), (1, .int x1), (2, .int x2)] [] (fl ad m)
  refine J_aload_n hX dX2_add_0 rfl 0 rfl ?_
  refine J_getI hX kf_RX2_9 dX2_add_1 h0 (by decide) rfl ?_
  refine J_bipush (v := (40 : Int32)) hX dX2_add_4 (by decide) ?_
  refine J_icmp_lt (tgt := 10) hX dX2_add_6 (by decide) (fun c1 => ?_) (fun c1 => ?_)
  · replace h := Eq.mp (if_pos c1) h
    refine J_aload_n hX dX2_add_10 rfl 0 rfl ?_
    refine J_getI hX kf_RX2_9 dX2_add_11 h0 (by decide) rfl ?_
    refine J_nmI (fun y2 e_y2 => ?_)
    replace h := h y2 e_y2
    refine J_istore_n (lv2 := [(3, .int y2), (0, .ref (ad a0)), (1, .int x1), (2, .int x2)]) hX dX2_add_14 rfl (Nat.le_of_ble_eq_true rfl) rfl ?_
    refine J_sub [1, 2, 3, 0] rfl (t_X2_add_l15 hX hR a0 h0 x1 x2 (fun y9 m10 h => ?_) FU y2 m h)
    refine J_aload_n hX dX2_add_65 rfl 0 rfl ?_
    refine J_getR hX kf_RX2_15 dX2_add_66 h0 (by decide) rfl (ro_2_1 h0) ?_
    refine J_iload_n hX dX2_add_69 rfl 3 rfl ?_
    refine J_iload_n hX dX2_add_70 rfl 1 rfl ?_
    obtain ⟨b11, h⟩ := h
    refine J_iast (j := y9.toNatClampNeg) hX dX2_add_71 (ko_2_1 h0) (lo_2_1 h0) b11 rfl ?_
    refine J_nmM (fun m12 e_m12 => ?_)
    replace h := h m12 e_m12
    refine J_aload_n hX dX2_add_72 rfl 0 rfl ?_
    refine J_getR hX kf_RX2_19 dX2_add_73 h0 (by decide) rfl (ro_2_2 h0) ?_
    refine J_iload_n hX dX2_add_76 rfl 3 rfl ?_
    refine J_iload_n hX dX2_add_77 rfl 2 rfl ?_
    refine J_iast (j := y9.toNatClampNeg) hX dX2_add_78 (ko_2_2 h0) (lo_2_2 h0) b11 rfl ?_
    refine J_nmM (fun m13 e_m13 => ?_)
    replace h := h m13 e_m13
    refine J_aload_n hX dX2_add_79 rfl 0 rfl ?_
    refine J_dup hX dX2_add_80 rfl ?_
    refine J_getI hX kf_RX2_9 dX2_add_81 h0 (by decide) rfl ?_
    refine J_iconst (v := (1 : Int32)) hX dX2_add_84 (by decide) ?_
    refine J_iadd hX dX2_add_85 ?_
    refine J_putI hX kf_RX2_9 dX2_add_86 h0 (by decide) rfl ?_
    refine J_nmM (fun m14 e_m14 => ?_)
    replace h := h m14 e_m14
    exact J_vret hX hR dX2_add_89 ⟨_, rfl, rfl, h⟩
  · replace h := Eq.mp (if_neg c1) h
    exact J_vret hX hR dX2_add_9 ⟨_, rfl, rfl, h⟩
set_option maxRecDepth 100000 in
theorem tb_X2_uncovered_l8 {X : XT} {ad : Nat → Nat} {K : Int32 → Mm → Prop} (hX : Cx X cX2_uncovered 6 RX2 (rmN 1 21)) (hR : Rx X (some .int) (kI ad K) (0, 0)) {rec : Int32 → Int32 → Int32 → Mm → Prop} {k62 : Int32 → Int32 → Mm → Prop} (a0 : Nat) (h0 : kap a0 = 2) (x2 : Int32) (hrec : ∀ (x3 : Int32) (x4 : Int32) (x5 : Int32) (m : Mm), rec x3 x4 x5 m → J X (0, 0) 8 [(0, .ref (ad a0)), (2, .int x2), (3, .int x3), (4, .int x4), (5, .int x5)] [] (fl ad m)) (hk62 : ∀ (z3 : Int32) (z4 : Int32) (m : Mm), k62 z3 z4 m → J X (0, 0) 62 [(2, .int x2), (3, .int z3), (4, .int z4)] [] (fl ad m)) (x3 : Int32) (x4 : Int32) (x5 : Int32) (m : Mm) (h : wb_X2_uncovered_l8 rec k62 K a0 x2 x3 x4 x5 m) : J X (0, 0) 8 [(0, .ref (ad a0)), (2, .int x2), (3, .int x3), (4, .int x4), (5, .int x5)] [] (fl ad m) := by
  unfold wb_X2_uncovered_l8 at h
  refine J_iload hX dX2_uncovered_8 4 rfl ?_
  refine J_aload_n hX dX2_uncovered_10 rfl 0 rfl ?_
  refine J_getI hX kf_RX2_9 dX2_uncovered_11 h0 (by decide) rfl ?_
  refine J_icmp_ge (tgt := 62) hX dX2_uncovered_14 (by decide) (fun c1 => ?_) (fun c1 => ?_)
  · replace h := Eq.mp (if_pos c1) h
    exact J_sub [1, 2, 3] rfl (hk62 x3 x4 m h)
  · replace h := Eq.mp (if_neg c1) h
    refine J_iload_n hX dX2_uncovered_17 rfl 2 rfl ?_
    refine J_iload_n hX dX2_uncovered_18 rfl 1 rfl ?_
    refine J_icmp_ge (tgt := 62) hX dX2_uncovered_19 (by decide) (fun c2 => ?_) (fun c2 => ?_)
    · replace h := Eq.mp (if_pos c2) h
      exact J_sub [1, 2, 3] rfl (hk62 x3 x4 m h)
    · replace h := Eq.mp (if_neg c2) h
      refine J_iload hX dX2_uncovered_22 3 rfl ?_
      refine J_iconst (v := (0 : Int32)) hX dX2_uncovered_24 (by decide) ?_
      refine J_aload_n hX dX2_uncovered_25 rfl 0 rfl ?_
      refine J_getR hX kf_RX2_15 dX2_uncovered_26 h0 (by decide) rfl (ro_2_1 h0) ?_
      refine J_iload hX dX2_uncovered_29 4 rfl ?_
      obtain ⟨b3, h⟩ := h
      refine J_iald (j := x5.toNatClampNeg) hX dX2_uncovered_31 (ko_2_1 h0) (lo_2_1 h0) b3 rfl ?_
      refine J_iload_n hX dX2_uncovered_32 rfl 1 rfl ?_
      refine J_mmin hX kl_RX2_22 dX2_uncovered_33 (Nat.le_of_ble_eq_true rfl) (Nat.le_of_ble_eq_true rfl) ⟨Nat.le_of_ble_eq_true rfl, Nat.le_of_ble_eq_true rfl⟩ ?_
      refine J_iload_n hX dX2_uncovered_36 rfl 2 rfl ?_
      refine J_isub hX dX2_uncovered_37 ?_
      refine J_mmax hX kl_RX2_28 dX2_uncovered_38 (Nat.le_of_ble_eq_true rfl) (Nat.le_of_ble_eq_true rfl) ⟨Nat.le_of_ble_eq_true rfl, Nat.le_of_ble_eq_true rfl⟩ ?_
      refine J_iadd hX dX2_uncovered_41 ?_
      refine J_nmI (fun y4 e_y4 => ?_)
      replace h := h y4 e_y4
      refine J_istore (lv2 := [(4, .int y4), (0, .ref (ad a0)), (2, .int x2), (3, .int x3), (5, .int x5)]) hX dX2_uncovered_42 (Nat.le_of_ble_eq_true rfl) rfl ?_
      refine J_iload_n hX dX2_uncovered_44 rfl 3 rfl ?_
      refine J_aload_n hX dX2_uncovered_45 rfl 1 rfl ?_
      refine J_getR hX kf_RX2_19 dX2_uncovered_46 h0 (by decide) rfl (ro_2_2 h0) ?_
      refine J_iload hX dX2_uncovered_49 4 rfl ?_
      refine J_iald (j := x5.toNatClampNeg) hX dX2_uncovered_51 (ko_2_2 h0) (lo_2_2 h0) b3 rfl ?_
      refine J_mmax hX kl_RX2_28 dX2_uncovered_52 (Nat.le_of_ble_eq_true rfl) (Nat.le_of_ble_eq_true rfl) ⟨Nat.le_of_ble_eq_true rfl, Nat.le_of_ble_eq_true rfl⟩ ?_
      refine J_nmI (fun y5 e_y5 => ?_)
      replace h := h y5 e_y5
      refine J_istore_n (lv2 := [(3, .int y5), (4, .int y4), (0, .ref (ad a0)), (2, .int x2), (5, .int x5)]) hX dX2_uncovered_55 rfl (Nat.le_of_ble_eq_true rfl) rfl ?_
      refine J_iinc (x := (x5 + (1 : Int32))) (lv2 := [(5, .int (x5 + (1 : Int32))), (3, .int y5), (4, .int y4), (0, .ref (ad a0)), (2, .int x2)]) hX dX2_uncovered_56 4 rfl rfl (Nat.le_of_ble_eq_true rfl) rfl ?_
      refine J_goto (tgt := 8) hX dX2_uncovered_59 (by decide) ?_
      exact J_sub [3, 4, 1, 2, 0] rfl (hrec y5 y4 (x5 + (1 : Int32)) m h)
set_option maxRecDepth 100000 in
theorem t_X2_uncovered_l8 {X : XT} {ad : Nat → Nat} {K : Int32 → Mm → Prop} (hX : Cx X cX2_uncovered 6 RX2 (rmN 1 21)) (hR : Rx X (some .int) (kI ad K) (0, 0)) {k62 : Int32 → Int32 → Mm → Prop} (a0 : Nat) (h0 : kap a0 = 2) (x2 : Int32) (hk62 : ∀ (z3 : Int32) (z4 : Int32) (m : Mm), k62 z3 z4 m → J X (0, 0) 62 [(2, .int x2), (3, .int z3), (4, .int z4)] [] (fl ad m)) : ∀ (n : Nat) (x3 : Int32) (x4 : Int32) (x5 : Int32) (m : Mm), wp_X2_uncovered_l8 k62 K a0 x2 n x3 x4 x5 m → J X (0, 0) 8 [(0, .ref (ad a0)), (2, .int x2), (3, .int x3), (4, .int x4), (5, .int x5)] [] (fl ad m) := by
  intro n
  induction n with
  | zero => intro x3 x4 x5 m h; exact h.elim
  | succ n ih => intro x3 x4 x5 m h; exact tb_X2_uncovered_l8 hX hR a0 h0 x2 ih hk62 x3 x4 x5 m h
set_option maxRecDepth 100000 in
theorem c_X2_uncovered {G : GT} {ad : Nat → Nat} (a0 : Nat) (h0 : kap a0 = 2) (x1 : Int32) (x2 : Int32) (m : Mm) (K : Int32 → Mm → Prop) (h : wp_X2_uncovered a0 x1 x2 m K) : Cn G yX2_uncovered cX2_uncovered 6 (some .int) (rmN 1 21) [.ref (ad a0), .int x1, .int x2] (0, 0) (fl ad m) (kI ad K) := by
  unfold wp_X2_uncovered at h
  refine Cn.of pn_RX2 (Nat.le_of_ble_eq_true rfl) (fun X hG hX hR => ?_)
  subst hG
  have hX : Cx X cX2_uncovered 6 RX2 (rmN 1 21) := hX
  show J X (0, 0) 0 [(0, .ref (ad a0)), (1, .int x1), (2, .int x2)] [] (fl ad m)
  refine J_iload_n hX dX2_uncovered_0 rfl 1 rfl ?_
  refine J_istore_n (lv2 := [(3, .int x1), (0, .ref (ad a0)), (1, .int x1), (2, .int x2)]) hX dX2_uncovered_1 rfl (Nat.le_of_ble_eq_true rfl) rfl ?_
  refine J_iconst (v := (0 : Int32)) hX dX2_uncovered_2 (by decide) ?_
  refine J_istore (lv2 := [(4, .int (0 : Int32)), (3, .int x1), (0, .ref (ad a0)), (1, .int x1), (2, .int x2)]) hX dX2_uncovered_3 (Nat.le_of_ble_eq_true rfl) rfl ?_
  refine J_iconst (v := (0 : Int32)) hX dX2_uncovered_5 (by decide) ?_
  refine J_istore (lv2 := [(5, .int (0 : Int32)), (4, .int (0 : Int32)), (3, .int x1), (0, .ref (ad a0)), (1, .int x1), (2, .int x2)]) hX dX2_uncovered_6 (Nat.le_of_ble_eq_true rfl) rfl ?_
  refine J_sub [3, 5, 2, 1, 0] rfl (t_X2_uncovered_l8 hX hR a0 h0 x2 (fun y6 y7 m8 h => ?_) FU x1 (0 : Int32) (0 : Int32) m h)
  refine J_iload hX dX2_uncovered_62 2 rfl ?_
  refine J_iconst (v := (0 : Int32)) hX dX2_uncovered_64 (by decide) ?_
  refine J_iload_n hX dX2_uncovered_65 rfl 0 rfl ?_
  refine J_iload_n hX dX2_uncovered_66 rfl 1 rfl ?_
  refine J_isub hX dX2_uncovered_67 ?_
  refine J_mmax hX kl_RX2_28 dX2_uncovered_68 (Nat.le_of_ble_eq_true rfl) (Nat.le_of_ble_eq_true rfl) ⟨Nat.le_of_ble_eq_true rfl, Nat.le_of_ble_eq_true rfl⟩ ?_
  refine J_iadd hX dX2_uncovered_71 ?_
  exact J_iret hX hR dX2_uncovered_72 ⟨_, _, rfl, rfl, h⟩
set_option maxRecDepth 100000 in
theorem t_X10_open_j66 {X : XT} {ad : Nat → Nat} {K : Int32 → Mm → Prop} (hX : Cx X cX10_open 5 RX10 (rmN 2 46)) (hR : Rx X (some .int) (kI ad K) (0, 0)) {k27 : Int32 → Mm → Prop} (x1 : Int32) (x2 : Int32) (x3 : Int32) (x4 : Int32) (hk27 : ∀ (z4 : Int32) (m : Mm), k27 z4 m → J X (0, 0) 27 [(0, .ref (ad 268)), (1, .int x1), (2, .int x2), (3, .int x3), (4, .int z4)] [] (fl ad m)) (m : Mm) (h : wp_X10_open_j66 k27 K x1 x2 x3 x4 m) : J X (0, 0) 66 [(0, .ref (ad 268)), (1, .int x1), (2, .int x2), (3, .int x3), (4, .int x4)] [] (fl ad m) := by
  unfold wp_X10_open_j66 at h
  refine J_aload_n hX dX10_open_66 rfl 0 rfl ?_
  refine J_getR hX kf_RX10_44 dX10_open_67 ka_268 (by decide) rfl rh_268_8 ?_
  refine J_aload_n hX dX10_open_70 rfl 0 rfl ?_
  refine J_getR hX kf_RX10_32 dX10_open_71 ka_268 (by decide) rfl rh_268_5 ?_
  refine J_iload hX dX10_open_74 4 rfl ?_
  obtain ⟨b9, h⟩ := h
  refine J_iald (j := x4.toNatClampNeg) hX dX10_open_76 ka_385 le_385 b9 rfl ?_
  refine J_aload_n hX dX10_open_77 rfl 0 rfl ?_
  refine J_getI hX kf_RX10_22 dX10_open_78 ka_268 (by decide) rfl ?_
  refine J_isub hX dX10_open_81 ?_
  refine J_aload_n hX dX10_open_82 rfl 0 rfl ?_
  refine J_getR hX kf_RX10_35 dX10_open_83 ka_268 (by decide) rfl rh_268_6 ?_
  refine J_iload hX dX10_open_86 4 rfl ?_
  refine J_iald (j := x4.toNatClampNeg) hX dX10_open_88 ka_386 le_386 b9 rfl ?_
  refine J_aload_n hX dX10_open_89 rfl 0 rfl ?_
  refine J_getI hX kf_RX10_22 dX10_open_90 ka_268 (by decide) rfl ?_
  refine J_iadd hX dX10_open_93 ?_
  refine J_callV hX km_X2_add kl_RX10_128 dX10_open_94 ka_388 (by decide) [.int ((m.1 385 x4.toNatClampNeg) - (m.1 268 2)), .int ((m.1 386 x4.toNatClampNeg) + (m.1 268 2))] ⟨Nat.le_of_ble_eq_true rfl, Nat.le_of_ble_eq_true rfl⟩ rfl rfl (Nat.le_of_ble_eq_true rfl) (c_X2_add 388 ka_388 ((m.1 385 x4.toNatClampNeg) - (m.1 268 2)) ((m.1 386 x4.toNatClampNeg) + (m.1 268 2)) m _ h) (fun v w2 hk => ?_)
  obtain ⟨m10, rfl, rfl, h⟩ := hk
  show J X (0, 0) 97 [(0, .ref (ad 268)), (1, .int x1), (2, .int x2), (3, .int x3), (4, .int x4)] [] (fl ad m10)
  refine J_iinc (x := (x4 + (1 : Int32))) (lv2 := [(4, .int (x4 + (1 : Int32))), (0, .ref (ad 268)), (1, .int x1), (2, .int x2), (3, .int x3)]) hX dX10_open_97 4 rfl rfl (Nat.le_of_ble_eq_true rfl) rfl ?_
  refine J_goto (tgt := 27) hX dX10_open_100 (by decide) ?_
  exact J_sub [1, 2, 3, 4, 0] rfl (hk27 (x4 + (1 : Int32)) m10 h)
set_option maxRecDepth 100000 in
theorem tb_X10_open_l27 {X : XT} {ad : Nat → Nat} {K : Int32 → Mm → Prop} (hX : Cx X cX10_open 5 RX10 (rmN 2 46)) (hR : Rx X (some .int) (kI ad K) (0, 0)) {rec : Int32 → Mm → Prop} {k103 : Mm → Prop} (x1 : Int32) (x2 : Int32) (x3 : Int32) (hrec : ∀ (x4 : Int32) (m : Mm), rec x4 m → J X (0, 0) 27 [(0, .ref (ad 268)), (1, .int x1), (2, .int x2), (3, .int x3), (4, .int x4)] [] (fl ad m)) (hk103 : ∀ (m : Mm), k103 m → J X (0, 0) 103 [(0, .ref (ad 268)), (1, .int x1), (2, .int x2)] [] (fl ad m)) (x4 : Int32) (m : Mm) (h : wb_X10_open_l27 rec k103 K x1 x2 x3 x4 m) : J X (0, 0) 27 [(0, .ref (ad 268)), (1, .int x1), (2, .int x2), (3, .int x3), (4, .int x4)] [] (fl ad m) := by
  unfold wb_X10_open_l27 at h
  refine J_iload hX dX10_open_27 4 rfl ?_
  refine J_aload_n hX dX10_open_29 rfl 0 rfl ?_
  refine J_getI hX kf_RX10_9 dX10_open_30 ka_268 (by decide) rfl ?_
  refine J_icmp_ge (tgt := 103) hX dX10_open_33 (by decide) (fun c5 => ?_) (fun c5 => ?_)
  · replace h := Eq.mp (if_pos c5) h
    exact J_sub [0, 1, 2] rfl (hk103 m h)
  · replace h := Eq.mp (if_neg c5) h
    refine J_iload hX dX10_open_36 4 rfl ?_
    refine J_sipush (v := (360 : Int32)) hX dX10_open_38 (by decide) ?_
    refine J_icmp_ge (tgt := 103) hX dX10_open_41 (by decide) (fun c6 => ?_) (fun c6 => ?_)
    · replace h := Eq.mp (if_pos c6) h
      exact J_sub [0, 1, 2] rfl (hk103 m h)
    · replace h := Eq.mp (if_neg c6) h
      refine J_aload_n hX dX10_open_44 rfl 0 rfl ?_
      refine J_getR hX kf_RX10_25 dX10_open_45 ka_268 (by decide) rfl rh_268_3 ?_
      refine J_iload hX dX10_open_48 4 rfl ?_
      obtain ⟨b7, h⟩ := h
      refine J_iald (j := x4.toNatClampNeg) hX dX10_open_50 ka_383 le_383 b7 rfl ?_
      refine J_iload_n hX dX10_open_51 rfl 3 rfl ?_
      refine J_icmp_eq (tgt := 66) hX dX10_open_52 (by decide) (fun c8 => ?_) (fun c8 => ?_)
      · replace h := Eq.mp (if_pos c8) h
        exact J_sub [0, 1, 2, 3, 4] rfl (t_X10_open_j66 hX hR x1 x2 x3 x4 hrec m h)
      · replace h := Eq.mp (if_neg c8) h
        refine J_aload_n hX dX10_open_55 rfl 0 rfl ?_
        refine J_getR hX kf_RX10_29 dX10_open_56 ka_268 (by decide) rfl rh_268_4 ?_
        refine J_iload hX dX10_open_59 4 rfl ?_
        refine J_iald (j := x4.toNatClampNeg) hX dX10_open_61 ka_384 le_384 b7 rfl ?_
        refine J_iload_n hX dX10_open_62 rfl 3 rfl ?_
        refine J_icmp_ne (tgt := 97) hX dX10_open_63 (by decide) (fun c11 => ?_) (fun c11 => ?_)
        · replace h := Eq.mp (if_neg c11) h
          refine J_iinc (x := (x4 + (1 : Int32))) (lv2 := [(4, .int (x4 + (1 : Int32))), (0, .ref (ad 268)), (1, .int x1), (2, .int x2), (3, .int x3)]) hX dX10_open_97 4 rfl rfl (Nat.le_of_ble_eq_true rfl) rfl ?_
          refine J_goto (tgt := 27) hX dX10_open_100 (by decide) ?_
          exact J_sub [1, 2, 3, 4, 0] rfl (hrec (x4 + (1 : Int32)) m h)
        · replace h := Eq.mp (if_pos c11) h
          exact J_sub [0, 1, 2, 3, 4] rfl (t_X10_open_j66 hX hR x1 x2 x3 x4 hrec m h)
set_option maxRecDepth 100000 in
theorem t_X10_open_l27 {X : XT} {ad : Nat → Nat} {K : Int32 → Mm → Prop} (hX : Cx X cX10_open 5 RX10 (rmN 2 46)) (hR : Rx X (some .int) (kI ad K) (0, 0)) {k103 : Mm → Prop} (x1 : Int32) (x2 : Int32) (x3 : Int32) (hk103 : ∀ (m : Mm), k103 m → J X (0, 0) 103 [(0, .ref (ad 268)), (1, .int x1), (2, .int x2)] [] (fl ad m)) : ∀ (n : Nat) (x4 : Int32) (m : Mm), wp_X10_open_l27 k103 K x1 x2 x3 n x4 m → J X (0, 0) 27 [(0, .ref (ad 268)), (1, .int x1), (2, .int x2), (3, .int x3), (4, .int x4)] [] (fl ad m) := by
  intro n
  induction n with
  | zero => intro x4 m h; exact h.elim
  | succ n ih => intro x4 m h; exact tb_X10_open_l27 hX hR x1 x2 x3 ih hk103 x4 m h
set_option maxRecDepth 100000 in
theorem c_X10_open {G : GT} {ad : Nat → Nat} (x1 : Int32) (x2 : Int32) (m : Mm) (K : Int32 → Mm → Prop) (h : wp_X10_open x1 x2 m K) : Cn G yX10_open cX10_open 5 (some .int) (rmN 2 46) [.ref (ad 268), .int x1, .int x2] (0, 0) (fl ad m) (kI ad K) := by
  unfold wp_X10_open at h
  refine Cn.of pn_RX10 (Nat.le_of_ble_eq_true rfl) (fun X hG hX hR => ?_)
  subst hG
  have hX : Cx X cX10_open 5 RX10 (rmN 2 46) := hX
  show J X (0, 0) 0 [(0, .ref (ad 268)), (1, .int x1), (2, .int x2)] [] (fl ad m)
  refine J_iload_n hX dX10_open_0 rfl 2 rfl ?_
  refine J_if_lt (tgt := 9) hX dX10_open_1 (by decide) (fun c1 => ?_) (fun c1 => ?_)
  · replace h := Eq.mp (if_pos c1) h
    refine J_iconst (v := (0 : Int32)) hX dX10_open_9 (by decide) ?_
    exact J_iret hX hR dX10_open_10 ⟨_, _, rfl, rfl, h⟩
  · replace h := Eq.mp (if_neg c1) h
    refine J_iload_n hX dX10_open_4 rfl 2 rfl ?_
    refine J_iconst (v := (3 : Int32)) hX dX10_open_5 (by decide) ?_
    refine J_icmp_le (tgt := 11) hX dX10_open_6 (by decide) (fun c2 => ?_) (fun c2 => ?_)
    · replace h := Eq.mp (if_pos c2) h
      refine J_iconst (v := (4 : Int32)) hX dX10_open_11 (by decide) ?_
      refine J_iload_n hX dX10_open_12 rfl 1 rfl ?_
      refine J_imul hX dX10_open_13 ?_
      refine J_iload_n hX dX10_open_14 rfl 2 rfl ?_
      refine J_iadd hX dX10_open_15 ?_
      refine J_nmI (fun y3 e_y3 => ?_)
      replace h := h y3 e_y3
      refine J_istore_n (lv2 := [(3, .int y3), (0, .ref (ad 268)), (1, .int x1), (2, .int x2)]) hX dX10_open_16 rfl (Nat.le_of_ble_eq_true rfl) rfl ?_
      refine J_aload_n hX dX10_open_17 rfl 1 rfl ?_
      refine J_getR hX kf_RX10_44 dX10_open_18 ka_268 (by decide) rfl rh_268_8 ?_
      refine J_callV hX km_X2_empty kl_RX10_125 dX10_open_21 ka_388 (by decide) [] ⟨Nat.le_of_ble_eq_true rfl, Nat.le_of_ble_eq_true rfl⟩ rfl rfl (Nat.le_of_ble_eq_true rfl) (c_X2_empty 388 ka_388 m _ h) (fun v w2 hk => ?_)
      obtain ⟨m4, rfl, rfl, h⟩ := hk
      show J X (0, 0) 24 [(3, .int y3), (0, .ref (ad 268)), (1, .int x1), (2, .int x2)] [] (fl ad m4)
      refine J_iconst (v := (0 : Int32)) hX dX10_open_24 (by decide) ?_
      refine J_istore (lv2 := [(4, .int (0 : Int32)), (3, .int y3), (0, .ref (ad 268)), (1, .int x1), (2, .int x2)]) hX dX10_open_25 (Nat.le_of_ble_eq_true rfl) rfl ?_
      refine J_sub [2, 3, 4, 1, 0] rfl (t_X10_open_l27 hX hR x1 x2 y3 (fun m12 h => ?_) FU (0 : Int32) m4 h)
      refine J_aload_n hX dX10_open_103 rfl 0 rfl ?_
      refine J_getR hX kf_RX10_18 dX10_open_104 ka_268 (by decide) rfl rh_268_1 ?_
      refine J_iload_n hX dX10_open_107 rfl 1 rfl ?_
      refine J_callV hX km_X5_poseAt kl_RX10_55 dX10_open_108 ka_269 (by decide) [.int x1] ⟨Nat.le_of_ble_eq_true rfl, Nat.le_of_ble_eq_true rfl⟩ rfl rfl (Nat.le_of_ble_eq_true rfl) (c_X5_poseAt x1 m12) (fun v w2 hk => ?_)
      obtain ⟨rfl, rfl⟩ := hk
      show J X (0, 0) 111 [(0, .ref (ad 268)), (1, .int x1), (2, .int x2)] [.ref (ad (v_X5_poseAt x1))] (fl ad m12)
      refine J_astore (lv2 := [(4, .ref (ad (v_X5_poseAt x1))), (0, .ref (ad 268)), (1, .int x1), (2, .int x2)]) hX dX10_open_111 (Nat.le_of_ble_eq_true rfl) rfl ?_
      refine J_aload_n hX dX10_open_113 rfl 1 rfl ?_
      refine J_getR hX kf_RX10_44 dX10_open_114 ka_268 (by decide) rfl rh_268_8 ?_
      refine J_aload hX dX10_open_117 0 rfl ?_
      refine J_getR hX kf_RX10_80 dX10_open_119 kv_X5_poseAt (by decide) rfl (ro_8_4 kv_X5_poseAt) ?_
      refine J_iload_n hX dX10_open_122 rfl 3 rfl ?_
      refine J_iald (j := x2.toNatClampNeg) hX dX10_open_123 (ko_8_4 kv_X5_poseAt) (lo_8_4 kv_X5_poseAt) (vp_b (lo_2 c1) (up_4 c2 (by decide))) rfl ?_
      refine J_aload hX dX10_open_124 0 rfl ?_
      refine J_getR hX kf_RX10_83 dX10_open_126 kv_X5_poseAt (by decide) rfl (ro_8_5 kv_X5_poseAt) ?_
      refine J_iload_n hX dX10_open_129 rfl 3 rfl ?_
      refine J_iald (j := x2.toNatClampNeg) hX dX10_open_130 (ko_8_5 kv_X5_poseAt) (lo_8_5 kv_X5_poseAt) (vp_b (lo_2 c1) (up_4 c2 (by decide))) rfl ?_
      refine J_callV hX km_X2_uncovered kl_RX10_132 dX10_open_131 ka_388 (by decide) [.int (m12.1 ((v_X5_poseAt x1) + 4) x2.toNatClampNeg), .int (m12.1 ((v_X5_poseAt x1) + 5) x2.toNatClampNeg)] ⟨Nat.le_of_ble_eq_true rfl, Nat.le_of_ble_eq_true rfl⟩ rfl rfl (Nat.le_of_ble_eq_true rfl) (c_X2_uncovered 388 ka_388 (m12.1 ((v_X5_poseAt x1) + 4) x2.toNatClampNeg) (m12.1 ((v_X5_poseAt x1) + 5) x2.toNatClampNeg) m12 _ h) (fun v w2 hk => ?_)
      obtain ⟨y14, m13, rfl, rfl, h⟩ := hk
      show J X (0, 0) 134 [(4, .ref (ad (v_X5_poseAt x1))), (0, .ref (ad 268)), (1, .int x1), (2, .int x2)] [.int y14] (fl ad m13)
      exact J_iret hX hR dX10_open_134 ⟨_, _, rfl, rfl, h⟩
    · replace h := Eq.mp (if_neg c2) h
      refine J_iconst (v := (0 : Int32)) hX dX10_open_9 (by decide) ?_
      exact J_iret hX hR dX10_open_10 ⟨_, _, rfl, rfl, h⟩
set_option maxRecDepth 100000 in
theorem c_X10_value {G : GT} {ad : Nat → Nat} (a1 : Nat) (h1 : kap a1 = 3) (x2 : Int32) (x3 : Int32) (m : Mm) (h : s_X10_value a1 x2 x3 m) : Cn G yX10_value cX10_value 4 (some .int) (rmN 3 65) [.ref (ad 268), .ref (ad a1), .int x2, .int x3] (0, 0) (fl ad m) (fun v w => v = some (.int (v_X10_value a1 x2 x3 m)) ∧ w = fl ad m) := by
  unfold s_X10_value at h
  refine Cn.of pn_RX10 (Nat.le_of_ble_eq_true rfl) (fun X hG hX hR => ?_)
  subst hG
  have hX : Cx X cX10_value 4 RX10 (rmN 3 65) := hX
  show J X (0, 0) 0 [(0, .ref (ad 268)), (1, .ref (ad a1)), (2, .int x2), (3, .int x3)] [] (fl ad m)
  have g16 := h
  refine J_aload_n hX dX10_value_0 rfl 0 rfl ?_
  refine J_iload_n hX dX10_value_1 rfl 2 rfl ?_
  refine J_callV hX km_X10_has kl_RX10_89 dX10_value_2 ka_268 (by decide) [.int x2] ⟨Nat.le_of_ble_eq_true rfl, Nat.le_of_ble_eq_true rfl⟩ rfl rfl (Nat.le_of_ble_eq_true rfl) (c_X10_has x2 m) (fun v w2 hk => ?_)
  obtain ⟨rfl, rfl⟩ := hk
  show J X (0, 0) 5 [(0, .ref (ad 268)), (1, .ref (ad a1)), (2, .int x2), (3, .int x3)] [.int (v_X10_has x2 m)] (fl ad m)
  refine J_if_ne (tgt := 10) hX dX10_value_5 (by decide) (fun c1 => ?_) (fun c1 => ?_)
  · have g17 := g16 c1
    obtain ⟨g18, g19⟩ := g17
    refine J_iload_n hX dX10_value_10 rfl 3 rfl ?_
    by_cases c2 : x3 = (0 : Int32)
    · refine J_tabIn (v := (0 : Int32)) (tgt := 48) hX dX10_value_11 c2 (by decide) (by decide) rfl (by decide) ?_
      have g20 := g18 c2
      have b3 := g20
      refine J_aload_n hX dX10_value_48 rfl 0 rfl ?_
      refine J_iload_n hX dX10_value_49 rfl 2 rfl ?_
      refine J_callV hX km_X10_panelP kl_RX10_93 dX10_value_50 ka_268 (by decide) [.int x2] ⟨Nat.le_of_ble_eq_true rfl, Nat.le_of_ble_eq_true rfl⟩ rfl rfl (Nat.le_of_ble_eq_true rfl) (c_X10_panelP x2 m b3) (fun v w2 hk => ?_)
      obtain ⟨rfl, rfl⟩ := hk
      show J X (0, 0) 53 [(0, .ref (ad 268)), (1, .ref (ad a1)), (2, .int x2), (3, .int x3)] [.int (v_X10_panelP x2 m)] (fl ad m)
      exact J_iret hX hR dX10_value_53 (And.intro (congrArg (fun z => some (Value.int z)) (show (v_X10_panelP x2 m) = v_X10_value a1 x2 x3 m from ((if_neg c1).trans (if_pos c2)).symm)) rfl)
    · have g21 := g19 c2
      obtain ⟨g22, g23⟩ := g21
      by_cases c4 : x3 = (1 : Int32)
      · refine J_tabIn (v := (1 : Int32)) (tgt := 54) hX dX10_value_11 c4 (by decide) (by decide) rfl (by decide) ?_
        have g24 := g22 c4
        have b5 := g24
        refine J_aload_n hX dX10_value_54 rfl 0 rfl ?_
        refine J_iload_n hX dX10_value_55 rfl 2 rfl ?_
        refine J_callV hX km_X10_sideOfP kl_RX10_96 dX10_value_56 ka_268 (by decide) [.int x2] ⟨Nat.le_of_ble_eq_true rfl, Nat.le_of_ble_eq_true rfl⟩ rfl rfl (Nat.le_of_ble_eq_true rfl) (c_X10_sideOfP x2 m b5) (fun v w2 hk => ?_)
        obtain ⟨rfl, rfl⟩ := hk
        show J X (0, 0) 59 [(0, .ref (ad 268)), (1, .ref (ad a1)), (2, .int x2), (3, .int x3)] [.int (v_X10_sideOfP x2 m)] (fl ad m)
        exact J_iret hX hR dX10_value_59 (And.intro (congrArg (fun z => some (Value.int z)) (show (v_X10_sideOfP x2 m) = v_X10_value a1 x2 x3 m from ((if_neg c1).trans ((if_neg c2).trans (if_pos c4))).symm)) rfl)
      · have g25 := g23 c4
        obtain ⟨g26, g27⟩ := g25
        by_cases c6 : x3 = (2 : Int32)
        · refine J_tabIn (v := (2 : Int32)) (tgt := 60) hX dX10_value_11 c6 (by decide) (by decide) rfl (by decide) ?_
          have g28 := g26 c6
          have b7 := g28
          refine J_aload_n hX dX10_value_60 rfl 0 rfl ?_
          refine J_iload_n hX dX10_value_61 rfl 2 rfl ?_
          refine J_callV hX km_X10_panelQ kl_RX10_99 dX10_value_62 ka_268 (by decide) [.int x2] ⟨Nat.le_of_ble_eq_true rfl, Nat.le_of_ble_eq_true rfl⟩ rfl rfl (Nat.le_of_ble_eq_true rfl) (c_X10_panelQ x2 m b7) (fun v w2 hk => ?_)
          obtain ⟨rfl, rfl⟩ := hk
          show J X (0, 0) 65 [(0, .ref (ad 268)), (1, .ref (ad a1)), (2, .int x2), (3, .int x3)] [.int (v_X10_panelQ x2 m)] (fl ad m)
          exact J_iret hX hR dX10_value_65 (And.intro (congrArg (fun z => some (Value.int z)) (show (v_X10_panelQ x2 m) = v_X10_value a1 x2 x3 m from ((if_neg c1).trans ((if_neg c2).trans ((if_neg c4).trans (if_pos c6)))).symm)) rfl)
        · have g29 := g27 c6
          obtain ⟨g30, g31⟩ := g29
          by_cases c8 : x3 = (3 : Int32)
          · refine J_tabIn (v := (3 : Int32)) (tgt := 66) hX dX10_value_11 c8 (by decide) (by decide) rfl (by decide) ?_
            have g32 := g30 c8
            have b9 := g32
            refine J_aload_n hX dX10_value_66 rfl 0 rfl ?_
            refine J_iload_n hX dX10_value_67 rfl 2 rfl ?_
            refine J_callV hX km_X10_sideOfQ kl_RX10_102 dX10_value_68 ka_268 (by decide) [.int x2] ⟨Nat.le_of_ble_eq_true rfl, Nat.le_of_ble_eq_true rfl⟩ rfl rfl (Nat.le_of_ble_eq_true rfl) (c_X10_sideOfQ x2 m b9) (fun v w2 hk => ?_)
            obtain ⟨rfl, rfl⟩ := hk
            show J X (0, 0) 71 [(0, .ref (ad 268)), (1, .ref (ad a1)), (2, .int x2), (3, .int x3)] [.int (v_X10_sideOfQ x2 m)] (fl ad m)
            exact J_iret hX hR dX10_value_71 (And.intro (congrArg (fun z => some (Value.int z)) (show (v_X10_sideOfQ x2 m) = v_X10_value a1 x2 x3 m from ((if_neg c1).trans ((if_neg c2).trans ((if_neg c4).trans ((if_neg c6).trans (if_pos c8))))).symm)) rfl)
          · have g33 := g31 c8
            obtain ⟨g34, g35⟩ := g33
            by_cases c10 : x3 = (4 : Int32)
            · refine J_tabIn (v := (4 : Int32)) (tgt := 72) hX dX10_value_11 c10 (by decide) (by decide) rfl (by decide) ?_
              have g36 := g34 c10
              have b11 := g36
              refine J_aload_n hX dX10_value_72 rfl 0 rfl ?_
              refine J_getR hX kf_RX10_35 dX10_value_73 ka_268 (by decide) rfl rh_268_6 ?_
              refine J_iload_n hX dX10_value_76 rfl 2 rfl ?_
              refine J_iald (j := x2.toNatClampNeg) hX dX10_value_77 ka_386 le_386 b11 rfl ?_
              refine J_aload_n hX dX10_value_78 rfl 0 rfl ?_
              refine J_getR hX kf_RX10_32 dX10_value_79 ka_268 (by decide) rfl rh_268_5 ?_
              refine J_iload_n hX dX10_value_82 rfl 2 rfl ?_
              refine J_iald (j := x2.toNatClampNeg) hX dX10_value_83 ka_385 le_385 b11 rfl ?_
              refine J_isub hX dX10_value_84 ?_
              exact J_iret hX hR dX10_value_85 (And.intro (congrArg (fun z => some (Value.int z)) (show ((m.1 386 x2.toNatClampNeg) - (m.1 385 x2.toNatClampNeg)) = v_X10_value a1 x2 x3 m from ((if_neg c1).trans ((if_neg c2).trans ((if_neg c4).trans ((if_neg c6).trans ((if_neg c8).trans (if_pos c10)))))).symm)) rfl)
            · have g37 := g35 c10
              obtain ⟨g38, g39⟩ := g37
              by_cases c12 : x3 = (5 : Int32)
              · refine J_tabIn (v := (5 : Int32)) (tgt := 86) hX dX10_value_11 c12 (by decide) (by decide) rfl (by decide) ?_
                have g40 := g38 c12
                have b13 := g40
                refine J_aload_n hX dX10_value_86 rfl 0 rfl ?_
                refine J_getR hX kf_RX10_38 dX10_value_87 ka_268 (by decide) rfl rh_268_7 ?_
                refine J_iload_n hX dX10_value_90 rfl 2 rfl ?_
                refine J_iald (j := x2.toNatClampNeg) hX dX10_value_91 ka_387 le_387 b13 rfl ?_
                exact J_iret hX hR dX10_value_92 (And.intro (congrArg (fun z => some (Value.int z)) (show (m.1 387 x2.toNatClampNeg) = v_X10_value a1 x2 x3 m from ((if_neg c1).trans ((if_neg c2).trans ((if_neg c4).trans ((if_neg c6).trans ((if_neg c8).trans ((if_neg c10).trans (if_pos c12))))))).symm)) rfl)
              · refine J_tabOut (tgt := 93) hX dX10_value_11 (by have t0 := tne c2 (k := 0) (by decide); have t1 := tne c4 (k := 1) (by decide); have t2 := tne c6 (k := 2) (by decide); have t3 := tne c8 (k := 3) (by decide); have t4 := tne c10 (k := 4) (by decide); have t5 := tne c12 (k := 5) (by decide); omega) (by decide) ?_
                have g41 := g39 c12
                have b14 := g41
                refine J_aload_n hX dX10_value_93 rfl 0 rfl ?_
                refine J_aload_n hX dX10_value_94 rfl 1 rfl ?_
                refine J_iload_n hX dX10_value_95 rfl 2 rfl ?_
                refine J_callV hX km_X10_isFold kl_RX10_105 dX10_value_96 ka_268 (by decide) [.ref (ad a1), .int x2] ⟨Nat.le_of_ble_eq_true rfl, Nat.le_of_ble_eq_true rfl⟩ rfl rfl (Nat.le_of_ble_eq_true rfl) (c_X10_isFold a1 h1 x2 m b14) (fun v w2 hk => ?_)
                obtain ⟨rfl, rfl⟩ := hk
                show J X (0, 0) 99 [(0, .ref (ad 268)), (1, .ref (ad a1)), (2, .int x2), (3, .int x3)] [.int (v_X10_isFold a1 x2 m)] (fl ad m)
                have hj42 : ∀ y43 : Int32, y43 = (if (v_X10_isFold a1 x2 m) = (0 : Int32) then (0 : Int32) else (1 : Int32)) → J X (0, 0) 107 [] [.int y43] (fl ad m) := by
                  intro y43 e_y43
                  subst e_y43
                  exact J_iret hX hR dX10_value_107 (And.intro (congrArg (fun z => some (Value.int z)) (show (if (v_X10_isFold a1 x2 m) = (0 : Int32) then (0 : Int32) else (1 : Int32)) = v_X10_value a1 x2 x3 m from ((if_neg c1).trans ((if_neg c2).trans ((if_neg c4).trans ((if_neg c6).trans ((if_neg c8).trans ((if_neg c10).trans (if_neg c12))))))).symm)) rfl)
                refine J_if_eq (tgt := 106) hX dX10_value_99 (by decide) (fun c15 => ?_) (fun c15 => ?_)
                · refine J_iconst (v := (0 : Int32)) hX dX10_value_106 (by decide) ?_
                  exact J_sub [] rfl (hj42 _ (if_pos c15).symm)
                · refine J_iconst (v := (1 : Int32)) hX dX10_value_102 (by decide) ?_
                  refine J_goto (tgt := 107) hX dX10_value_103 (by decide) ?_
                  exact J_sub [] rfl (hj42 _ (if_neg c15).symm)
  · refine J_iconst (v := (-1 : Int32)) hX dX10_value_8 (by decide) ?_
    exact J_iret hX hR dX10_value_9 (And.intro (congrArg (fun z => some (Value.int z)) (show (-1 : Int32) = v_X10_value a1 x2 x3 m from (if_pos c1).symm)) rfl)
theorem bv_X3_has (a0 : Nat) (x1 : Int32) (m : Mm) : bo (v_X3_has a0 x1 m) := (bo_ite bo_0 (bo_ite bo_0 bo_1))
set_option maxRecDepth 100000 in
theorem c_X3_has {G : GT} {ad : Nat → Nat} (a0 : Nat) (h0 : kap a0 = 3) (x1 : Int32) (m : Mm) : Cn G yX3_has cX3_has 2 (some .boolean) (rmN 0 0) [.ref (ad a0), .int x1] (0, 0) (fl ad m) (fun v w => v = some (.int (v_X3_has a0 x1 m)) ∧ w = fl ad m) := by
  refine Cn.of pn_RX3 (Nat.le_of_ble_eq_true rfl) (fun X hG hX hR => ?_)
  subst hG
  have hX : Cx X cX3_has 2 RX3 (rmN 0 0) := hX
  show J X (0, 0) 0 [(0, .ref (ad a0)), (1, .int x1)] [] (fl ad m)
  refine J_iload_n hX dX3_has_0 rfl 1 rfl ?_
  have hj3 : ∀ y4 : Int32, y4 = (if x1 < (0 : Int32) then (0 : Int32) else (if (m.1 a0 4) ≤ x1 then (0 : Int32) else (1 : Int32))) → J X (0, 0) 17 [] [.int y4] (fl ad m) := by
    intro y4 e_y4
    subst e_y4
    exact J_zret hX hR dX3_has_17 (bo_ite bo_0 (bo_ite bo_0 bo_1)) (And.intro (congrArg (fun z => some (Value.int z)) (show (if x1 < (0 : Int32) then (0 : Int32) else (if (m.1 a0 4) ≤ x1 then (0 : Int32) else (1 : Int32))) = v_X3_has a0 x1 m from rfl)) rfl)
  refine J_if_lt (tgt := 16) hX dX3_has_1 (by decide) (fun c1 => ?_) (fun c1 => ?_)
  · refine J_iconst (v := (0 : Int32)) hX dX3_has_16 (by decide) ?_
    exact J_sub [] rfl (hj3 _ (if_pos c1).symm)
  · refine J_iload_n hX dX3_has_4 rfl 1 rfl ?_
    refine J_aload_n hX dX3_has_5 rfl 0 rfl ?_
    refine J_getI hX kf_RX3_25 dX3_has_6 h0 (by decide) rfl ?_
    refine J_icmp_ge (tgt := 16) hX dX3_has_9 (by decide) (fun c2 => ?_) (fun c2 => ?_)
    · refine J_iconst (v := (0 : Int32)) hX dX3_has_16 (by decide) ?_
      exact J_sub [] rfl (hj3 _ ((if_neg c1).trans (if_pos c2)).symm)
    · refine J_iconst (v := (1 : Int32)) hX dX3_has_12 (by decide) ?_
      refine J_goto (tgt := 17) hX dX3_has_13 (by decide) ?_
      exact J_sub [] rfl (hj3 _ ((if_neg c1).trans (if_neg c2)).symm)
theorem bv_X11_isOffset (x0 : Int32) : bo (v_X11_isOffset x0) := (bo_ite bo_0 (bo_ite bo_0 bo_1))
set_option maxRecDepth 100000 in
theorem c_X11_isOffset {G : GT} {ad : Nat → Nat} (x0 : Int32) (m : Mm) : Cn G yX11_isOffset cX11_isOffset 1 (some .boolean) (rmN 0 0) [.int x0] (0, 0) (fl ad m) (fun v w => v = some (.int (v_X11_isOffset x0)) ∧ w = fl ad m) := by
  refine Cn.of pn_RX11 (Nat.le_of_ble_eq_true rfl) (fun X hG hX hR => ?_)
  subst hG
  have hX : Cx X cX11_isOffset 1 RX11 (rmN 0 0) := hX
  show J X (0, 0) 0 [(0, .int x0)] [] (fl ad m)
  refine J_iload_n hX dX11_isOffset_0 rfl 0 rfl ?_
  have hj3 : ∀ y4 : Int32, y4 = (if x0 < (0 : Int32) then (0 : Int32) else (if (300 : Int32) < x0 then (0 : Int32) else (1 : Int32))) → J X (0, 0) 16 [] [.int y4] (fl ad m) := by
    intro y4 e_y4
    subst e_y4
    exact J_zret hX hR dX11_isOffset_16 (bo_ite bo_0 (bo_ite bo_0 bo_1)) (And.intro (congrArg (fun z => some (Value.int z)) (show (if x0 < (0 : Int32) then (0 : Int32) else (if (300 : Int32) < x0 then (0 : Int32) else (1 : Int32))) = v_X11_isOffset x0 from rfl)) rfl)
  refine J_if_lt (tgt := 15) hX dX11_isOffset_1 (by decide) (fun c1 => ?_) (fun c1 => ?_)
  · refine J_iconst (v := (0 : Int32)) hX dX11_isOffset_15 (by decide) ?_
    exact J_sub [] rfl (hj3 _ (if_pos c1).symm)
  · refine J_iload_n hX dX11_isOffset_4 rfl 0 rfl ?_
    refine J_sipush (v := (300 : Int32)) hX dX11_isOffset_5 (by decide) ?_
    refine J_icmp_gt (tgt := 15) hX dX11_isOffset_8 (by decide) (fun c2 => ?_) (fun c2 => ?_)
    · refine J_iconst (v := (0 : Int32)) hX dX11_isOffset_15 (by decide) ?_
      exact J_sub [] rfl (hj3 _ ((if_neg c1).trans (if_pos c2)).symm)
    · refine J_iconst (v := (1 : Int32)) hX dX11_isOffset_11 (by decide) ?_
      refine J_goto (tgt := 16) hX dX11_isOffset_12 (by decide) ?_
      exact J_sub [] rfl (hj3 _ ((if_neg c1).trans (if_neg c2)).symm)
theorem bv_X11_isLength (x0 : Int32) : bo (v_X11_isLength x0) := (bo_ite bo_0 (bo_ite bo_0 bo_1))
set_option maxRecDepth 100000 in
theorem c_X11_isLength {G : GT} {ad : Nat → Nat} (x0 : Int32) (m : Mm) : Cn G yX11_isLength cX11_isLength 1 (some .boolean) (rmN 0 0) [.int x0] (0, 0) (fl ad m) (fun v w => v = some (.int (v_X11_isLength x0)) ∧ w = fl ad m) := by
  refine Cn.of pn_RX11 (Nat.le_of_ble_eq_true rfl) (fun X hG hX hR => ?_)
  subst hG
  have hX : Cx X cX11_isLength 1 RX11 (rmN 0 0) := hX
  show J X (0, 0) 0 [(0, .int x0)] [] (fl ad m)
  refine J_iload_n hX dX11_isLength_0 rfl 0 rfl ?_
  refine J_iconst (v := (1 : Int32)) hX dX11_isLength_1 (by decide) ?_
  have hj3 : ∀ y4 : Int32, y4 = (if x0 < (1 : Int32) then (0 : Int32) else (if (300 : Int32) < x0 then (0 : Int32) else (1 : Int32))) → J X (0, 0) 17 [] [.int y4] (fl ad m) := by
    intro y4 e_y4
    subst e_y4
    exact J_zret hX hR dX11_isLength_17 (bo_ite bo_0 (bo_ite bo_0 bo_1)) (And.intro (congrArg (fun z => some (Value.int z)) (show (if x0 < (1 : Int32) then (0 : Int32) else (if (300 : Int32) < x0 then (0 : Int32) else (1 : Int32))) = v_X11_isLength x0 from rfl)) rfl)
  refine J_icmp_lt (tgt := 16) hX dX11_isLength_2 (by decide) (fun c1 => ?_) (fun c1 => ?_)
  · refine J_iconst (v := (0 : Int32)) hX dX11_isLength_16 (by decide) ?_
    exact J_sub [] rfl (hj3 _ (if_pos c1).symm)
  · refine J_iload_n hX dX11_isLength_5 rfl 0 rfl ?_
    refine J_sipush (v := (300 : Int32)) hX dX11_isLength_6 (by decide) ?_
    refine J_icmp_gt (tgt := 16) hX dX11_isLength_9 (by decide) (fun c2 => ?_) (fun c2 => ?_)
    · refine J_iconst (v := (0 : Int32)) hX dX11_isLength_16 (by decide) ?_
      exact J_sub [] rfl (hj3 _ ((if_neg c1).trans (if_pos c2)).symm)
    · refine J_iconst (v := (1 : Int32)) hX dX11_isLength_12 (by decide) ?_
      refine J_goto (tgt := 17) hX dX11_isLength_13 (by decide) ?_
      exact J_sub [] rfl (hj3 _ ((if_neg c1).trans (if_neg c2)).symm)
