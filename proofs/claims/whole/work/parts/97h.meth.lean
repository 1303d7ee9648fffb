set_option maxRecDepth 100000 in
theorem tb_X12_isFold_l6 {X : XT} {ad : Nat → Nat} {K : Int32 → Mm → Prop} (hX : Cx X cX12_isFold 6 RX12 (rmN 2 47)) (hR : Rx X (some .boolean) (kI ad K) (0, 0)) {rec : Int32 → Int32 → Mm → Prop} (x1 : Int32) (x2 : Int32) (x3 : Int32) (hrec : ∀ (x4 : Int32) (x5 : Int32) (m : Mm), rec x4 x5 m → J X (0, 0) 6 [(0, .ref (ad 426)), (1, .int x1), (2, .int x2), (3, .int x3), (4, .int x4), (5, .int x5)] [] (fl ad m)) (x4 : Int32) (x5 : Int32) (m : Mm) (h : wb_X12_isFold_l6 rec K x1 x2 x3 x4 x5 m) : J X (0, 0) 6 [(0, .ref (ad 426)), (1, .int x1), (2, .int x2), (3, .int x3), (4, .int x4), (5, .int x5)] [] (fl ad m) := by
  unfold wb_X12_isFold_l6 at h
  refine J_iload hX dX12_isFold_6 5 rfl ?_
  refine J_aload_n hX dX12_isFold_8 rfl 0 rfl ?_
  refine J_callV hX km_X12_many kl_RX12_83 dX12_isFold_9 ka_426 (by decide) [] ⟨Nat.le_of_ble_eq_true rfl, Nat.le_of_ble_eq_true rfl⟩ rfl rfl (Nat.le_of_ble_eq_true rfl) (c_X12_many m) (fun v w2 hk => ?_)
  obtain ⟨rfl, rfl⟩ := hk
  show J X (0, 0) 12 [(0, .ref (ad 426)), (1, .int x1), (2, .int x2), (3, .int x3), (4, .int x4), (5, .int x5)] [.int (v_X12_many m), .int x5] (fl ad m)
  refine J_icmp_ge (tgt := 56) hX dX12_isFold_12 (by decide) (fun c1 => ?_) (fun c1 => ?_)
  · replace h := Eq.mp (if_pos c1) h
    refine J_iload hX dX12_isFold_56 4 rfl ?_
    obtain ⟨b2, h⟩ := h
    exact J_zret hX hR dX12_isFold_58 b2 ⟨_, _, rfl, rfl, h⟩
  · replace h := Eq.mp (if_neg c1) h
    refine J_iload hX dX12_isFold_15 4 rfl ?_
    obtain ⟨g7, h⟩ := h
    have hj9 : ∀ y8 : Int32, y8 = (if x4 = (0 : Int32) then (if (v_X12_isOn x5 (rm32 ((v_X12_of x5 (1 : Int32) m) + (2 : Int32)) (4 : Int32)) x1 x2 x3 m) = (0 : Int32) then (0 : Int32) else (1 : Int32)) else (1 : Int32)) → J X (0, 0) 48 [(0, .ref (ad 426)), (1, .int x1), (2, .int x2), (3, .int x3), (5, .int x5)] [.int y8] (fl ad m) := by
      intro y8 e_y8
      replace h := h y8 e_y8
      refine J_istore (lv2 := [(4, .int y8), (0, .ref (ad 426)), (1, .int x1), (2, .int x2), (3, .int x3), (5, .int x5)]) hX dX12_isFold_48 (Nat.le_of_ble_eq_true rfl) rfl ?_
      refine J_iinc (x := (x5 + (1 : Int32))) (lv2 := [(5, .int (x5 + (1 : Int32))), (4, .int y8), (0, .ref (ad 426)), (1, .int x1), (2, .int x2), (3, .int x3)]) hX dX12_isFold_50 5 rfl rfl (Nat.le_of_ble_eq_true rfl) rfl ?_
      refine J_goto (tgt := 6) hX dX12_isFold_53 (by decide) ?_
      exact J_sub [2, 3, 4, 5, 1, 0] rfl (hrec y8 (x5 + (1 : Int32)) m h)
    have g10 := g7
    refine J_if_ne (tgt := 43) hX dX12_isFold_17 (by decide) (fun c3 => ?_) (fun c3 => ?_)
    · refine J_iconst (v := (1 : Int32)) hX dX12_isFold_43 (by decide) ?_
      refine J_goto (tgt := 48) hX dX12_isFold_44 (by decide) ?_
      exact J_sub [0, 1, 2, 3, 5] rfl (hj9 _ (if_neg c3).symm)
    · have g11 := g10 c3
      obtain ⟨b4, b5⟩ := g11
      refine J_aload_n hX dX12_isFold_20 rfl 0 rfl ?_
      refine J_iload hX dX12_isFold_21 5 rfl ?_
      refine J_aload_n hX dX12_isFold_23 rfl 0 rfl ?_
      refine J_iload hX dX12_isFold_24 5 rfl ?_
      refine J_iconst (v := (1 : Int32)) hX dX12_isFold_26 (by decide) ?_
      refine J_callV hX km_X12_of kl_RX12_91 dX12_isFold_27 ka_426 (by decide) [.int x5, .int (1 : Int32)] ⟨Nat.le_of_ble_eq_true rfl, Nat.le_of_ble_eq_true rfl⟩ rfl rfl (Nat.le_of_ble_eq_true rfl) (c_X12_of x5 (1 : Int32) m b4) (fun v w2 hk => ?_)
      obtain ⟨rfl, rfl⟩ := hk
      show J X (0, 0) 30 [(0, .ref (ad 426)), (1, .int x1), (2, .int x2), (3, .int x3), (4, .int x4), (5, .int x5)] [.int (v_X12_of x5 (1 : Int32) m), .int x5, .ref (ad 426)] (fl ad m)
      refine J_iconst (v := (2 : Int32)) hX dX12_isFold_30 (by decide) ?_
      refine J_iadd hX dX12_isFold_31 ?_
      refine J_iconst (v := (4 : Int32)) hX dX12_isFold_32 (by decide) ?_
      refine J_irem hX dX12_isFold_33 (by decide) ?_
      refine J_iload_n hX dX12_isFold_34 rfl 1 rfl ?_
      refine J_iload_n hX dX12_isFold_35 rfl 2 rfl ?_
      refine J_iload_n hX dX12_isFold_36 rfl 3 rfl ?_
      refine J_callV hX km_X12_isOn kl_RX12_362 dX12_isFold_37 ka_426 (by decide) [.int x5, .int (rm32 ((v_X12_of x5 (1 : Int32) m) + (2 : Int32)) (4 : Int32)), .int x1, .int x2, .int x3] ⟨Nat.le_of_ble_eq_true rfl, Nat.le_of_ble_eq_true rfl⟩ rfl rfl (Nat.le_of_ble_eq_true rfl) (c_X12_isOn x5 (rm32 ((v_X12_of x5 (1 : Int32) m) + (2 : Int32)) (4 : Int32)) x1 x2 x3 m b5) (fun v w2 hk => ?_)
      obtain ⟨rfl, rfl⟩ := hk
      show J X (0, 0) 40 [(0, .ref (ad 426)), (1, .int x1), (2, .int x2), (3, .int x3), (4, .int x4), (5, .int x5)] [.int (v_X12_isOn x5 (rm32 ((v_X12_of x5 (1 : Int32) m) + (2 : Int32)) (4 : Int32)) x1 x2 x3 m)] (fl ad m)
      refine J_if_eq (tgt := 47) hX dX12_isFold_40 (by decide) (fun c6 => ?_) (fun c6 => ?_)
      · refine J_iconst (v := (0 : Int32)) hX dX12_isFold_47 (by decide) ?_
        exact J_sub [0, 1, 2, 3, 5] rfl (hj9 _ ((if_pos c3).trans (if_pos c6)).symm)
      · refine J_iconst (v := (1 : Int32)) hX dX12_isFold_43 (by decide) ?_
        refine J_goto (tgt := 48) hX dX12_isFold_44 (by decide) ?_
        exact J_sub [0, 1, 2, 3, 5] rfl (hj9 _ ((if_pos c3).trans (if_neg c6)).symm)
set_option maxRecDepth 100000 in
theorem t_X12_isFold_l6 {X : XT} {ad : Nat → Nat} {K : Int32 → Mm → Prop} (hX : Cx X cX12_isFold 6 RX12 (rmN 2 47)) (hR : Rx X (some .boolean) (kI ad K) (0, 0)) (x1 : Int32) (x2 : Int32) (x3 : Int32) : ∀ (n : Nat) (x4 : Int32) (x5 : Int32) (m : Mm), wp_X12_isFold_l6 K x1 x2 x3 n x4 x5 m → J X (0, 0) 6 [(0, .ref (ad 426)), (1, .int x1), (2, .int x2), (3, .int x3), (4, .int x4), (5, .int x5)] [] (fl ad m) := by
  intro n
  induction n with
  | zero => intro x4 x5 m h; exact h.elim
  | succ n ih => intro x4 x5 m h; exact tb_X12_isFold_l6 hX hR x1 x2 x3 ih x4 x5 m h
set_option maxRecDepth 100000 in
theorem c_X12_isFold {G : GT} {ad : Nat → Nat} (x1 : Int32) (x2 : Int32) (x3 : Int32) (m : Mm) (K : Int32 → Mm → Prop) (h : wp_X12_isFold x1 x2 x3 m K) : Cn G yX12_isFold cX12_isFold 6 (some .boolean) (rmN 2 47) [.ref (ad 426), .int x1, .int x2, .int x3] (0, 0) (fl ad m) (kI ad K) := by
  unfold wp_X12_isFold at h
  refine Cn.of pn_RX12 (Nat.le_of_ble_eq_true rfl) (fun X hG hX hR => ?_)
  subst hG
  have hX : Cx X cX12_isFold 6 RX12 (rmN 2 47) := hX
  show J X (0, 0) 0 [(0, .ref (ad 426)), (1, .int x1), (2, .int x2), (3, .int x3)] [] (fl ad m)
  refine J_iconst (v := (0 : Int32)) hX dX12_isFold_0 (by decide) ?_
  refine J_istore (lv2 := [(4, .int (0 : Int32)), (0, .ref (ad 426)), (1, .int x1), (2, .int x2), (3, .int x3)]) hX dX12_isFold_1 (Nat.le_of_ble_eq_true rfl) rfl ?_
  refine J_iconst (v := (1 : Int32)) hX dX12_isFold_3 (by decide) ?_
  refine J_istore (lv2 := [(5, .int (1 : Int32)), (4, .int (0 : Int32)), (0, .ref (ad 426)), (1, .int x1), (2, .int x2), (3, .int x3)]) hX dX12_isFold_4 (Nat.le_of_ble_eq_true rfl) rfl ?_
  refine J_sub [2, 3, 4, 5, 1, 0] rfl (t_X12_isFold_l6 hX hR x1 x2 x3 FU (0 : Int32) (1 : Int32) m h)
set_option maxRecDepth 100000 in
theorem tb_X12_isCounted_l15 {X : XT} {ad : Nat → Nat} {K : Int32 → Mm → Prop} (hX : Cx X cX12_isCounted 9 RX12 (rmN 2 47)) (hR : Rx X (some .boolean) (kI ad K) (0, 0)) {rec : Int32 → Int32 → Mm → Prop} {k6 : Int32 → Int32 → Mm → Prop} (x1 : Int32) (x2 : Int32) (x3 : Int32) (x4 : Int32) (x5 : Int32) (x7 : Int32) (hrec : ∀ (x6 : Int32) (x8 : Int32) (m : Mm), rec x6 x8 m → J X (0, 0) 15 [(0, .ref (ad 426)), (1, .int x1), (2, .int x2), (3, .int x3), (4, .int x4), (5, .int x5), (6, .int x6), (7, .int x7), (8, .int x8)] [] (fl ad m)) (hk6 : ∀ (z6 : Int32) (z7 : Int32) (m : Mm), k6 z6 z7 m → J X (0, 0) 6 [(0, .ref (ad 426)), (1, .int x1), (2, .int x2), (3, .int x3), (4, .int x4), (5, .int x5), (6, .int z6), (7, .int z7)] [] (fl ad m)) (x6 : Int32) (x8 : Int32) (m : Mm) (h : wb_X12_isCounted_l15 rec k6 K x1 x2 x3 x4 x5 x7 x6 x8 m) : J X (0, 0) 15 [(0, .ref (ad 426)), (1, .int x1), (2, .int x2), (3, .int x3), (4, .int x4), (5, .int x5), (6, .int x6), (7, .int x7), (8, .int x8)] [] (fl ad m) := by
  unfold wb_X12_isCounted_l15 at h
  refine J_iload hX dX12_isCounted_15 8 rfl ?_
  refine J_iload hX dX12_isCounted_17 7 rfl ?_
  refine J_iload_n hX dX12_isCounted_19 rfl 1 rfl ?_
  have hj14 : ∀ y4 : Int32, y4 = (if x1 ≤ x7 then x2 else (4 : Int32)) → J X (0, 0) 28 [(0, .ref (ad 426)), (1, .int x1), (2, .int x2), (3, .int x3), (4, .int x4), (5, .int x5), (6, .int x6), (7, .int x7), (8, .int x8)] [.int y4, .int x8] (fl ad m) := by
    intro y4 e_y4
    replace h := h y4 e_y4
    refine J_icmp_ge (tgt := 65) hX dX12_isCounted_28 (by decide) (fun c5 => ?_) (fun c5 => ?_)
    · replace h := Eq.mp (if_pos c5) h
      refine J_iinc (x := (x7 + (1 : Int32))) (lv2 := [(7, .int (x7 + (1 : Int32))), (0, .ref (ad 426)), (1, .int x1), (2, .int x2), (3, .int x3), (4, .int x4), (5, .int x5), (6, .int x6), (8, .int x8)]) hX dX12_isCounted_65 7 rfl rfl (Nat.le_of_ble_eq_true rfl) rfl ?_
      refine J_goto (tgt := 6) hX dX12_isCounted_68 (by decide) ?_
      exact J_sub [1, 2, 3, 4, 5, 6, 7, 0] rfl (hk6 x6 (x7 + (1 : Int32)) m h)
    · replace h := Eq.mp (if_neg c5) h
      refine J_iload hX dX12_isCounted_31 6 rfl ?_
      obtain ⟨g9, h⟩ := h
      have hj11 : ∀ y10 : Int32, y10 = (if x6 = (0 : Int32) then (if (v_X12_isOn x7 x8 x3 x4 x5 m) = (0 : Int32) then (0 : Int32) else (1 : Int32)) else (1 : Int32)) → J X (0, 0) 57 [(0, .ref (ad 426)), (1, .int x1), (2, .int x2), (3, .int x3), (4, .int x4), (5, .int x5), (7, .int x7), (8, .int x8)] [.int y10] (fl ad m) := by
        intro y10 e_y10
        replace h := h y10 e_y10
        refine J_istore (lv2 := [(6, .int y10), (0, .ref (ad 426)), (1, .int x1), (2, .int x2), (3, .int x3), (4, .int x4), (5, .int x5), (7, .int x7), (8, .int x8)]) hX dX12_isCounted_57 (Nat.le_of_ble_eq_true rfl) rfl ?_
        refine J_iinc (x := (x8 + (1 : Int32))) (lv2 := [(8, .int (x8 + (1 : Int32))), (6, .int y10), (0, .ref (ad 426)), (1, .int x1), (2, .int x2), (3, .int x3), (4, .int x4), (5, .int x5), (7, .int x7)]) hX dX12_isCounted_59 8 rfl rfl (Nat.le_of_ble_eq_true rfl) rfl ?_
        refine J_goto (tgt := 15) hX dX12_isCounted_62 (by decide) ?_
        exact J_sub [2, 3, 4, 5, 6, 7, 1, 8, 0] rfl (hrec y10 (x8 + (1 : Int32)) m h)
      have g12 := g9
      refine J_if_ne (tgt := 52) hX dX12_isCounted_33 (by decide) (fun c6 => ?_) (fun c6 => ?_)
      · refine J_iconst (v := (1 : Int32)) hX dX12_isCounted_52 (by decide) ?_
        refine J_goto (tgt := 57) hX dX12_isCounted_53 (by decide) ?_
        exact J_sub [0, 1, 2, 3, 4, 5, 7, 8] rfl (hj11 _ (if_neg c6).symm)
      · have g13 := g12 c6
        have b7 := g13
        refine J_aload_n hX dX12_isCounted_36 rfl 0 rfl ?_
        refine J_iload hX dX12_isCounted_37 7 rfl ?_
        refine J_iload hX dX12_isCounted_39 8 rfl ?_
        refine J_iload_n hX dX12_isCounted_41 rfl 3 rfl ?_
        refine J_iload hX dX12_isCounted_42 4 rfl ?_
        refine J_iload hX dX12_isCounted_44 5 rfl ?_
        refine J_callV hX km_X12_isOn kl_RX12_362 dX12_isCounted_46 ka_426 (by decide) [.int x7, .int x8, .int x3, .int x4, .int x5] ⟨Nat.le_of_ble_eq_true rfl, Nat.le_of_ble_eq_true rfl⟩ rfl rfl (Nat.le_of_ble_eq_true rfl) (c_X12_isOn x7 x8 x3 x4 x5 m b7) (fun v w2 hk => ?_)
        obtain ⟨rfl, rfl⟩ := hk
        show J X (0, 0) 49 [(0, .ref (ad 426)), (1, .int x1), (2, .int x2), (3, .int x3), (4, .int x4), (5, .int x5), (6, .int x6), (7, .int x7), (8, .int x8)] [.int (v_X12_isOn x7 x8 x3 x4 x5 m)] (fl ad m)
        refine J_if_eq (tgt := 56) hX dX12_isCounted_49 (by decide) (fun c8 => ?_) (fun c8 => ?_)
        · refine J_iconst (v := (0 : Int32)) hX dX12_isCounted_56 (by decide) ?_
          exact J_sub [0, 1, 2, 3, 4, 5, 7, 8] rfl (hj11 _ ((if_pos c6).trans (if_pos c8)).symm)
        · refine J_iconst (v := (1 : Int32)) hX dX12_isCounted_52 (by decide) ?_
          refine J_goto (tgt := 57) hX dX12_isCounted_53 (by decide) ?_
          exact J_sub [0, 1, 2, 3, 4, 5, 7, 8] rfl (hj11 _ ((if_pos c6).trans (if_neg c8)).symm)
  refine J_icmp_ge (tgt := 27) hX dX12_isCounted_20 (by decide) (fun c3 => ?_) (fun c3 => ?_)
  · refine J_iload_n hX dX12_isCounted_27 rfl 2 rfl ?_
    exact J_sub [0, 1, 2, 3, 4, 5, 6, 7, 8] rfl (hj14 _ (if_pos c3).symm)
  · refine J_iconst (v := (4 : Int32)) hX dX12_isCounted_23 (by decide) ?_
    refine J_goto (tgt := 28) hX dX12_isCounted_24 (by decide) ?_
    exact J_sub [0, 1, 2, 3, 4, 5, 6, 7, 8] rfl (hj14 _ (if_neg c3).symm)
set_option maxRecDepth 100000 in
theorem t_X12_isCounted_l15 {X : XT} {ad : Nat → Nat} {K : Int32 → Mm → Prop} (hX : Cx X cX12_isCounted 9 RX12 (rmN 2 47)) (hR : Rx X (some .boolean) (kI ad K) (0, 0)) {k6 : Int32 → Int32 → Mm → Prop} (x1 : Int32) (x2 : Int32) (x3 : Int32) (x4 : Int32) (x5 : Int32) (x7 : Int32) (hk6 : ∀ (z6 : Int32) (z7 : Int32) (m : Mm), k6 z6 z7 m → J X (0, 0) 6 [(0, .ref (ad 426)), (1, .int x1), (2, .int x2), (3, .int x3), (4, .int x4), (5, .int x5), (6, .int z6), (7, .int z7)] [] (fl ad m)) : ∀ (n : Nat) (x6 : Int32) (x8 : Int32) (m : Mm), wp_X12_isCounted_l15 k6 K x1 x2 x3 x4 x5 x7 n x6 x8 m → J X (0, 0) 15 [(0, .ref (ad 426)), (1, .int x1), (2, .int x2), (3, .int x3), (4, .int x4), (5, .int x5), (6, .int x6), (7, .int x7), (8, .int x8)] [] (fl ad m) := by
  intro n
  induction n with
  | zero => intro x6 x8 m h; exact h.elim
  | succ n ih => intro x6 x8 m h; exact tb_X12_isCounted_l15 hX hR x1 x2 x3 x4 x5 x7 ih hk6 x6 x8 m h
set_option maxRecDepth 100000 in
theorem tb_X12_isCounted_l6 {X : XT} {ad : Nat → Nat} {K : Int32 → Mm → Prop} (hX : Cx X cX12_isCounted 9 RX12 (rmN 2 47)) (hR : Rx X (some .boolean) (kI ad K) (0, 0)) {rec : Int32 → Int32 → Mm → Prop} (x1 : Int32) (x2 : Int32) (x3 : Int32) (x4 : Int32) (x5 : Int32) (hrec : ∀ (x6 : Int32) (x7 : Int32) (m : Mm), rec x6 x7 m → J X (0, 0) 6 [(0, .ref (ad 426)), (1, .int x1), (2, .int x2), (3, .int x3), (4, .int x4), (5, .int x5), (6, .int x6), (7, .int x7)] [] (fl ad m)) (x6 : Int32) (x7 : Int32) (m : Mm) (h : wb_X12_isCounted_l6 rec K x1 x2 x3 x4 x5 x6 x7 m) : J X (0, 0) 6 [(0, .ref (ad 426)), (1, .int x1), (2, .int x2), (3, .int x3), (4, .int x4), (5, .int x5), (6, .int x6), (7, .int x7)] [] (fl ad m) := by
  unfold wb_X12_isCounted_l6 at h
  refine J_iload hX dX12_isCounted_6 7 rfl ?_
  refine J_iload_n hX dX12_isCounted_8 rfl 1 rfl ?_
  refine J_icmp_gt (tgt := 71) hX dX12_isCounted_9 (by decide) (fun c1 => ?_) (fun c1 => ?_)
  · replace h := Eq.mp (if_pos c1) h
    refine J_iload hX dX12_isCounted_71 6 rfl ?_
    obtain ⟨b2, h⟩ := h
    exact J_zret hX hR dX12_isCounted_73 b2 ⟨_, _, rfl, rfl, h⟩
  · replace h := Eq.mp (if_neg c1) h
    refine J_iconst (v := (0 : Int32)) hX dX12_isCounted_12 (by decide) ?_
    refine J_istore (lv2 := [(8, .int (0 : Int32)), (0, .ref (ad 426)), (1, .int x1), (2, .int x2), (3, .int x3), (4, .int x4), (5, .int x5), (6, .int x6), (7, .int x7)]) hX dX12_isCounted_13 (Nat.le_of_ble_eq_true rfl) rfl ?_
    refine J_sub [1, 2, 3, 4, 5, 6, 7, 8, 0] rfl (t_X12_isCounted_l15 hX hR x1 x2 x3 x4 x5 x7 hrec FU x6 (0 : Int32) m h)
set_option maxRecDepth 100000 in
theorem t_X12_isCounted_l6 {X : XT} {ad : Nat → Nat} {K : Int32 → Mm → Prop} (hX : Cx X cX12_isCounted 9 RX12 (rmN 2 47)) (hR : Rx X (some .boolean) (kI ad K) (0, 0)) (x1 : Int32) (x2 : Int32) (x3 : Int32) (x4 : Int32) (x5 : Int32) : ∀ (n : Nat) (x6 : Int32) (x7 : Int32) (m : Mm), wp_X12_isCounted_l6 K x1 x2 x3 x4 x5 n x6 x7 m → J X (0, 0) 6 [(0, .ref (ad 426)), (1, .int x1), (2, .int x2), (3, .int x3), (4, .int x4), (5, .int x5), (6, .int x6), (7, .int x7)] [] (fl ad m) := by
  intro n
  induction n with
  | zero => intro x6 x7 m h; exact h.elim
  | succ n ih => intro x6 x7 m h; exact tb_X12_isCounted_l6 hX hR x1 x2 x3 x4 x5 ih x6 x7 m h
set_option maxRecDepth 100000 in
theorem c_X12_isCounted {G : GT} {ad : Nat → Nat} (x1 : Int32) (x2 : Int32) (x3 : Int32) (x4 : Int32) (x5 : Int32) (m : Mm) (K : Int32 → Mm → Prop) (h : wp_X12_isCounted x1 x2 x3 x4 x5 m K) : Cn G yX12_isCounted cX12_isCounted 9 (some .boolean) (rmN 2 47) [.ref (ad 426), .int x1, .int x2, .int x3, .int x4, .int x5] (0, 0) (fl ad m) (kI ad K) := by
  unfold wp_X12_isCounted at h
  refine Cn.of pn_RX12 (Nat.le_of_ble_eq_true rfl) (fun X hG hX hR => ?_)
  subst hG
  have hX : Cx X cX12_isCounted 9 RX12 (rmN 2 47) := hX
  show J X (0, 0) 0 [(0, .ref (ad 426)), (1, .int x1), (2, .int x2), (3, .int x3), (4, .int x4), (5, .int x5)] [] (fl ad m)
  refine J_iconst (v := (0 : Int32)) hX dX12_isCounted_0 (by decide) ?_
  refine J_istore (lv2 := [(6, .int (0 : Int32)), (0, .ref (ad 426)), (1, .int x1), (2, .int x2), (3, .int x3), (4, .int x4), (5, .int x5)]) hX dX12_isCounted_1 (Nat.le_of_ble_eq_true rfl) rfl ?_
  refine J_iconst (v := (0 : Int32)) hX dX12_isCounted_3 (by decide) ?_
  refine J_istore (lv2 := [(7, .int (0 : Int32)), (6, .int (0 : Int32)), (0, .ref (ad 426)), (1, .int x1), (2, .int x2), (3, .int x3), (4, .int x4), (5, .int x5)]) hX dX12_isCounted_4 (Nat.le_of_ble_eq_true rfl) rfl ?_
  refine J_sub [2, 3, 4, 5, 6, 7, 1, 0] rfl (t_X12_isCounted_l6 hX hR x1 x2 x3 x4 x5 FU (0 : Int32) (0 : Int32) m h)
set_option maxRecDepth 100000 in
theorem t_X12_cutLength_j124 {X : XT} {ad : Nat → Nat} {K : Int32 → Mm → Prop} (hX : Cx X cX12_cutLength 8 RX12 (rmN 3 75)) (hR : Rx X (some .int) (kI ad K) (0, 0)) {k39 : Int32 → Int32 → Mm → Prop} (x2 : Int32) (x3 : Int32) (x4 : Int32) (x5 : Int32) (s0 : Int32) (s1 : Int32) (hk39 : ∀ (z1 : Int32) (z5 : Int32) (m : Mm), k39 z1 z5 m → J X (0, 0) 39 [(0, .ref (ad 426)), (1, .int z1), (2, .int x2), (3, .int x3), (4, .int x4), (5, .int z5)] [] (fl ad m)) (m : Mm) (h : wp_X12_cutLength_j124 k39 K x2 x3 x4 x5 s0 s1 m) : J X (0, 0) 124 [(0, .ref (ad 426)), (2, .int x2), (3, .int x3), (4, .int x4), (5, .int x5)] [.int s1, .int s0] (fl ad m) := by
  unfold wp_X12_cutLength_j124 at h
  refine J_iadd hX dX12_cutLength_124 ?_
  refine J_nmI (fun y19 e_y19 => ?_)
  replace h := h y19 e_y19
  refine J_istore_n (lv2 := [(1, .int y19), (0, .ref (ad 426)), (2, .int x2), (3, .int x3), (4, .int x4), (5, .int x5)]) hX dX12_cutLength_125 rfl (Nat.le_of_ble_eq_true rfl) rfl ?_
  refine J_iinc (x := (x5 + (1 : Int32))) (lv2 := [(5, .int (x5 + (1 : Int32))), (1, .int y19), (0, .ref (ad 426)), (2, .int x2), (3, .int x3), (4, .int x4)]) hX dX12_cutLength_126 5 rfl rfl (Nat.le_of_ble_eq_true rfl) rfl ?_
  refine J_goto (tgt := 39) hX dX12_cutLength_129 (by decide) ?_
  exact J_sub [2, 1, 3, 4, 5, 0] rfl (hk39 y19 (x5 + (1 : Int32)) m h)
set_option maxRecDepth 100000 in
theorem t_X12_cutLength_j119 {X : XT} {ad : Nat → Nat} {K : Int32 → Mm → Prop} (hX : Cx X cX12_cutLength 8 RX12 (rmN 3 75)) (hR : Rx X (some .int) (kI ad K) (0, 0)) {k39 : Int32 → Int32 → Mm → Prop} (x2 : Int32) (x3 : Int32) (x4 : Int32) (x5 : Int32) (s0 : Int32) (hk39 : ∀ (z1 : Int32) (z5 : Int32) (m : Mm), k39 z1 z5 m → J X (0, 0) 39 [(0, .ref (ad 426)), (1, .int z1), (2, .int x2), (3, .int x3), (4, .int x4), (5, .int z5)] [] (fl ad m)) (m : Mm) (h : wp_X12_cutLength_j119 k39 K x2 x3 x4 x5 s0 m) : J X (0, 0) 119 [(0, .ref (ad 426)), (2, .int x2), (3, .int x3), (4, .int x4), (5, .int x5)] [.int s0] (fl ad m) := by
  unfold wp_X12_cutLength_j119 at h
  refine J_iconst (v := (0 : Int32)) hX dX12_cutLength_119 (by decide) ?_
  refine J_goto (tgt := 124) hX dX12_cutLength_120 (by decide) ?_
  exact J_sub [0, 1, 2, 3, 4] rfl (t_X12_cutLength_j124 hX hR x2 x3 x4 x5 s0 (0 : Int32) hk39 m h)
set_option maxRecDepth 100000 in
theorem tb_X12_cutLength_l39 {X : XT} {ad : Nat → Nat} {K : Int32 → Mm → Prop} (hX : Cx X cX12_cutLength 8 RX12 (rmN 3 75)) (hR : Rx X (some .int) (kI ad K) (0, 0)) {rec : Int32 → Int32 → Mm → Prop} {k18 : Int32 → Int32 → Mm → Prop} (x2 : Int32) (x3 : Int32) (x4 : Int32) (hrec : ∀ (x1 : Int32) (x5 : Int32) (m : Mm), rec x1 x5 m → J X (0, 0) 39 [(0, .ref (ad 426)), (1, .int x1), (2, .int x2), (3, .int x3), (4, .int x4), (5, .int x5)] [] (fl ad m)) (hk18 : ∀ (z1 : Int32) (z3 : Int32) (m : Mm), k18 z1 z3 m → J X (0, 0) 18 [(0, .ref (ad 426)), (1, .int z1), (2, .int x2), (3, .int z3)] [] (fl ad m)) (x1 : Int32) (x5 : Int32) (m : Mm) (h : wb_X12_cutLength_l39 rec k18 K x2 x3 x4 x1 x5 m) : J X (0, 0) 39 [(0, .ref (ad 426)), (1, .int x1), (2, .int x2), (3, .int x3), (4, .int x4), (5, .int x5)] [] (fl ad m) := by
  unfold wb_X12_cutLength_l39 at h
  refine J_iload hX dX12_cutLength_39 5 rfl ?_
  refine J_aload_n hX dX12_cutLength_41 rfl 0 rfl ?_
  refine J_iload_n hX dX12_cutLength_42 rfl 2 rfl ?_
  refine J_iload_n hX dX12_cutLength_43 rfl 3 rfl ?_
  obtain ⟨b6, h⟩ := h
  refine J_callV hX km_X12_sideLength kl_RX12_123 dX12_cutLength_44 ka_426 (by decide) [.int x2, .int x3] ⟨Nat.le_of_ble_eq_true rfl, Nat.le_of_ble_eq_true rfl⟩ rfl rfl (Nat.le_of_ble_eq_true rfl) (c_X12_sideLength x2 x3 m b6) (fun v w2 hk => ?_)
  obtain ⟨rfl, rfl⟩ := hk
  show J X (0, 0) 47 [(0, .ref (ad 426)), (1, .int x1), (2, .int x2), (3, .int x3), (4, .int x4), (5, .int x5)] [.int (v_X12_sideLength x2 x3 m), .int x5] (fl ad m)
  refine J_icmp_ge (tgt := 132) hX dX12_cutLength_47 (by decide) (fun c7 => ?_) (fun c7 => ?_)
  · replace h := Eq.mp (if_pos c7) h
    refine J_iinc (x := (x3 + (1 : Int32))) (lv2 := [(3, .int (x3 + (1 : Int32))), (0, .ref (ad 426)), (1, .int x1), (2, .int x2), (4, .int x4), (5, .int x5)]) hX dX12_cutLength_132 3 rfl rfl (Nat.le_of_ble_eq_true rfl) rfl ?_
    refine J_goto (tgt := 18) hX dX12_cutLength_135 (by decide) ?_
    exact J_sub [1, 2, 3, 0] rfl (hk18 x1 (x3 + (1 : Int32)) m h)
  · replace h := Eq.mp (if_neg c7) h
    refine J_aload_n hX dX12_cutLength_50 rfl 0 rfl ?_
    refine J_iload_n hX dX12_cutLength_51 rfl 2 rfl ?_
    refine J_iload_n hX dX12_cutLength_52 rfl 3 rfl ?_
    obtain ⟨b8, h⟩ := h
    refine J_callV hX km_X12_sideX kl_RX12_359 dX12_cutLength_53 ka_426 (by decide) [.int x2, .int x3] ⟨Nat.le_of_ble_eq_true rfl, Nat.le_of_ble_eq_true rfl⟩ rfl rfl (Nat.le_of_ble_eq_true rfl) (c_X12_sideX x2 x3 m b8) (fun v w2 hk => ?_)
    obtain ⟨rfl, rfl⟩ := hk
    show J X (0, 0) 56 [(0, .ref (ad 426)), (1, .int x1), (2, .int x2), (3, .int x3), (4, .int x4), (5, .int x5)] [.int (v_X12_sideX x2 x3 m)] (fl ad m)
    refine J_iload hX dX12_cutLength_56 4 rfl ?_
    have hj27 : ∀ y10 : Int32, y10 = (if x4 = (0 : Int32) then (0 : Int32) else x5) → J X (0, 0) 67 [(0, .ref (ad 426)), (1, .int x1), (2, .int x2), (3, .int x3), (4, .int x4), (5, .int x5)] [.int y10, .int (v_X12_sideX x2 x3 m)] (fl ad m) := by
      intro y10 e_y10
      replace h := h y10 e_y10
      refine J_iadd hX dX12_cutLength_67 ?_
      refine J_nmI (fun y11 e_y11 => ?_)
      replace h := h y11 e_y11
      refine J_istore (lv2 := [(6, .int y11), (0, .ref (ad 426)), (1, .int x1), (2, .int x2), (3, .int x3), (4, .int x4), (5, .int x5)]) hX dX12_cutLength_68 (Nat.le_of_ble_eq_true rfl) rfl ?_
      refine J_aload_n hX dX12_cutLength_70 rfl 1 rfl ?_
      refine J_iload_n hX dX12_cutLength_71 rfl 3 rfl ?_
      refine J_iload_n hX dX12_cutLength_72 rfl 4 rfl ?_
      obtain ⟨b12, h⟩ := h
      refine J_callV hX km_X12_sideY kl_RX12_356 dX12_cutLength_73 ka_426 (by decide) [.int x2, .int x3] ⟨Nat.le_of_ble_eq_true rfl, Nat.le_of_ble_eq_true rfl⟩ rfl rfl (Nat.le_of_ble_eq_true rfl) (c_X12_sideY x2 x3 m b12) (fun v w2 hk => ?_)
      obtain ⟨rfl, rfl⟩ := hk
      show J X (0, 0) 76 [(6, .int y11), (0, .ref (ad 426)), (1, .int x1), (2, .int x2), (3, .int x3), (4, .int x4), (5, .int x5)] [.int (v_X12_sideY x2 x3 m)] (fl ad m)
      refine J_iload hX dX12_cutLength_76 5 rfl ?_
      have hj26 : ∀ y14 : Int32, y14 = (if x4 = (0 : Int32) then x5 else (0 : Int32)) → J X (0, 0) 87 [(0, .ref (ad 426)), (1, .int x1), (2, .int x2), (3, .int x3), (4, .int x4), (5, .int x5), (6, .int y11)] [.int y14, .int (v_X12_sideY x2 x3 m)] (fl ad m) := by
        intro y14 e_y14
        replace h := h y14 e_y14
        refine J_iadd hX dX12_cutLength_87 ?_
        refine J_nmI (fun y15 e_y15 => ?_)
        replace h := h y15 e_y15
        refine J_istore (lv2 := [(7, .int y15), (0, .ref (ad 426)), (1, .int x1), (2, .int x2), (3, .int x3), (4, .int x4), (5, .int x5), (6, .int y11)]) hX dX12_cutLength_88 (Nat.le_of_ble_eq_true rfl) rfl ?_
        refine J_iload_n hX dX12_cutLength_90 rfl 2 rfl ?_
        refine J_aload_n hX dX12_cutLength_91 rfl 1 rfl ?_
        refine J_iload hX dX12_cutLength_92 5 rfl ?_
        refine J_iload hX dX12_cutLength_94 7 rfl ?_
        refine J_iload hX dX12_cutLength_96 0 rfl ?_
        refine J_callV hX km_X12_isFold kl_RX12_366 dX12_cutLength_98 ka_426 (by decide) [.int x4, .int y11, .int y15] ⟨Nat.le_of_ble_eq_true rfl, Nat.le_of_ble_eq_true rfl⟩ rfl rfl (Nat.le_of_ble_eq_true rfl) (c_X12_isFold x4 y11 y15 m _ h) (fun v w2 hk => ?_)
        obtain ⟨y17, m16, rfl, rfl, h⟩ := hk
        show J X (0, 0) 101 [(7, .int y15), (0, .ref (ad 426)), (1, .int x1), (2, .int x2), (3, .int x3), (4, .int x4), (5, .int x5), (6, .int y11)] [.int y17, .int x1] (fl ad m16)
        refine J_if_ne (tgt := 119) hX dX12_cutLength_101 (by decide) (fun c18 => ?_) (fun c18 => ?_)
        · replace h := Eq.mp (if_neg c18) h
          exact J_sub [1, 3, 4, 5, 6] rfl (t_X12_cutLength_j119 hX hR x2 x3 x4 x5 x1 hrec m16 h)
        · replace h := Eq.mp (if_pos c18) h
          refine J_aload_n hX dX12_cutLength_104 rfl 1 rfl ?_
          refine J_iload_n hX dX12_cutLength_105 rfl 3 rfl ?_
          refine J_iload_n hX dX12_cutLength_106 rfl 4 rfl ?_
          refine J_iload hX dX12_cutLength_107 5 rfl ?_
          refine J_iload hX dX12_cutLength_109 7 rfl ?_
          refine J_iload hX dX12_cutLength_111 0 rfl ?_
          refine J_callV hX km_X12_isCounted kl_RX12_370 dX12_cutLength_113 ka_426 (by decide) [.int x2, .int x3, .int x4, .int y11, .int y15] ⟨Nat.le_of_ble_eq_true rfl, Nat.le_of_ble_eq_true rfl⟩ rfl rfl (Nat.le_of_ble_eq_true rfl) (c_X12_isCounted x2 x3 x4 y11 y15 m16 _ h) (fun v w2 hk => ?_)
          obtain ⟨y21, m20, rfl, rfl, h⟩ := hk
          show J X (0, 0) 116 [(7, .int y15), (0, .ref (ad 426)), (1, .int x1), (2, .int x2), (3, .int x3), (4, .int x4), (5, .int x5), (6, .int y11)] [.int y21, .int x1] (fl ad m20)
          have hj25 : ∀ y23 : Int32, y23 = (if y21 = (0 : Int32) then (1 : Int32) else (0 : Int32)) → J X (0, 0) 124 [(0, .ref (ad 426)), (2, .int x2), (3, .int x3), (4, .int x4), (5, .int x5)] [.int y23, .int x1] (fl ad m20) := by
            intro y23 e_y23
            replace h := h y23 e_y23
            refine J_iadd hX dX12_cutLength_124 ?_
            refine J_nmI (fun y24 e_y24 => ?_)
            replace h := h y24 e_y24
            refine J_istore_n (lv2 := [(1, .int y24), (0, .ref (ad 426)), (2, .int x2), (3, .int x3), (4, .int x4), (5, .int x5)]) hX dX12_cutLength_125 rfl (Nat.le_of_ble_eq_true rfl) rfl ?_
            refine J_iinc (x := (x5 + (1 : Int32))) (lv2 := [(5, .int (x5 + (1 : Int32))), (1, .int y24), (0, .ref (ad 426)), (2, .int x2), (3, .int x3), (4, .int x4)]) hX dX12_cutLength_126 5 rfl rfl (Nat.le_of_ble_eq_true rfl) rfl ?_
            refine J_goto (tgt := 39) hX dX12_cutLength_129 (by decide) ?_
            exact J_sub [2, 1, 3, 4, 5, 0] rfl (hrec y24 (x5 + (1 : Int32)) m20 h)
          refine J_if_eq (tgt := 123) hX dX12_cutLength_116 (by decide) (fun c22 => ?_) (fun c22 => ?_)
          · refine J_iconst (v := (1 : Int32)) hX dX12_cutLength_123 (by decide) ?_
            exact J_sub [1, 3, 4, 5, 6] rfl (hj25 _ (if_pos c22).symm)
          · refine J_iconst (v := (0 : Int32)) hX dX12_cutLength_119 (by decide) ?_
            refine J_goto (tgt := 124) hX dX12_cutLength_120 (by decide) ?_
            exact J_sub [1, 3, 4, 5, 6] rfl (hj25 _ (if_neg c22).symm)
      refine J_if_eq (tgt := 85) hX dX12_cutLength_78 (by decide) (fun c13 => ?_) (fun c13 => ?_)
      · refine J_iload hX dX12_cutLength_85 6 rfl ?_
        exact J_sub [1, 2, 3, 4, 5, 6, 0] rfl (hj26 _ (if_pos c13).symm)
      · refine J_iconst (v := (0 : Int32)) hX dX12_cutLength_81 (by decide) ?_
        refine J_goto (tgt := 87) hX dX12_cutLength_82 (by decide) ?_
        exact J_sub [1, 2, 3, 4, 5, 6, 0] rfl (hj26 _ (if_neg c13).symm)
    refine J_if_eq (tgt := 66) hX dX12_cutLength_58 (by decide) (fun c9 => ?_) (fun c9 => ?_)
    · refine J_iconst (v := (0 : Int32)) hX dX12_cutLength_66 (by decide) ?_
      exact J_sub [0, 1, 2, 3, 4, 5] rfl (hj27 _ (if_pos c9).symm)
    · refine J_iload hX dX12_cutLength_61 5 rfl ?_
      refine J_goto (tgt := 67) hX dX12_cutLength_63 (by decide) ?_
      exact J_sub [0, 1, 2, 3, 4, 5] rfl (hj27 _ (if_neg c9).symm)
set_option maxRecDepth 100000 in
theorem t_X12_cutLength_l39 {X : XT} {ad : Nat → Nat} {K : Int32 → Mm → Prop} (hX : Cx X cX12_cutLength 8 RX12 (rmN 3 75)) (hR : Rx X (some .int) (kI ad K) (0, 0)) {k18 : Int32 → Int32 → Mm → Prop} (x2 : Int32) (x3 : Int32) (x4 : Int32) (hk18 : ∀ (z1 : Int32) (z3 : Int32) (m : Mm), k18 z1 z3 m → J X (0, 0) 18 [(0, .ref (ad 426)), (1, .int z1), (2, .int x2), (3, .int z3)] [] (fl ad m)) : ∀ (n : Nat) (x1 : Int32) (x5 : Int32) (m : Mm), wp_X12_cutLength_l39 k18 K x2 x3 x4 n x1 x5 m → J X (0, 0) 39 [(0, .ref (ad 426)), (1, .int x1), (2, .int x2), (3, .int x3), (4, .int x4), (5, .int x5)] [] (fl ad m) := by
  intro n
  induction n with
  | zero => intro x1 x5 m h; exact h.elim
  | succ n ih => intro x1 x5 m h; exact tb_X12_cutLength_l39 hX hR x2 x3 x4 ih hk18 x1 x5 m h
set_option maxRecDepth 100000 in
theorem tb_X12_cutLength_l18 {X : XT} {ad : Nat → Nat} {K : Int32 → Mm → Prop} (hX : Cx X cX12_cutLength 8 RX12 (rmN 3 75)) (hR : Rx X (some .int) (kI ad K) (0, 0)) {rec : Int32 → Int32 → Mm → Prop} {k8 : Int32 → Int32 → Mm → Prop} (x2 : Int32) (hrec : ∀ (x1 : Int32) (x3 : Int32) (m : Mm), rec x1 x3 m → J X (0, 0) 18 [(0, .ref (ad 426)), (1, .int x1), (2, .int x2), (3, .int x3)] [] (fl ad m)) (hk8 : ∀ (z1 : Int32) (z2 : Int32) (m : Mm), k8 z1 z2 m → J X (0, 0) 8 [(0, .ref (ad 426)), (1, .int z1), (2, .int z2)] [] (fl ad m)) (x1 : Int32) (x3 : Int32) (m : Mm) (h : wb_X12_cutLength_l18 rec k8 K x2 x1 x3 m) : J X (0, 0) 18 [(0, .ref (ad 426)), (1, .int x1), (2, .int x2), (3, .int x3)] [] (fl ad m) := by
  unfold wb_X12_cutLength_l18 at h
  refine J_iload_n hX dX12_cutLength_18 rfl 3 rfl ?_
  refine J_iconst (v := (4 : Int32)) hX dX12_cutLength_19 (by decide) ?_
  refine J_icmp_ge (tgt := 138) hX dX12_cutLength_20 (by decide) (fun c3 => ?_) (fun c3 => ?_)
  · replace h := Eq.mp (if_pos c3) h
    refine J_iinc (x := (x2 + (1 : Int32))) (lv2 := [(2, .int (x2 + (1 : Int32))), (0, .ref (ad 426)), (1, .int x1), (3, .int x3)]) hX dX12_cutLength_138 2 rfl rfl (Nat.le_of_ble_eq_true rfl) rfl ?_
    refine J_goto (tgt := 8) hX dX12_cutLength_141 (by decide) ?_
    exact J_sub [1, 2, 0] rfl (hk8 x1 (x2 + (1 : Int32)) m h)
  · replace h := Eq.mp (if_neg c3) h
    refine J_iload_n hX dX12_cutLength_23 rfl 3 rfl ?_
    refine J_iconst (v := (2 : Int32)) hX dX12_cutLength_24 (by decide) ?_
    refine J_irem hX dX12_cutLength_25 (by decide) ?_
    have hj28 : ∀ y5 : Int32, y5 = (if (rm32 x3 (2 : Int32)) = (0 : Int32) then (1 : Int32) else (0 : Int32)) → J X (0, 0) 34 [(0, .ref (ad 426)), (1, .int x1), (2, .int x2), (3, .int x3)] [.int y5] (fl ad m) := by
      intro y5 e_y5
      replace h := h y5 e_y5
      refine J_istore (lv2 := [(4, .int y5), (0, .ref (ad 426)), (1, .int x1), (2, .int x2), (3, .int x3)]) hX dX12_cutLength_34 (Nat.le_of_ble_eq_true rfl) rfl ?_
      refine J_iconst (v := (0 : Int32)) hX dX12_cutLength_36 (by decide) ?_
      refine J_istore (lv2 := [(5, .int (0 : Int32)), (4, .int y5), (0, .ref (ad 426)), (1, .int x1), (2, .int x2), (3, .int x3)]) hX dX12_cutLength_37 (Nat.le_of_ble_eq_true rfl) rfl ?_
      refine J_sub [2, 3, 4, 5, 1, 0] rfl (t_X12_cutLength_l39 hX hR x2 x3 y5 hrec FU x1 (0 : Int32) m h)
    refine J_if_ne (tgt := 33) hX dX12_cutLength_26 (by decide) (fun c4 => ?_) (fun c4 => ?_)
    · refine J_iconst (v := (0 : Int32)) hX dX12_cutLength_33 (by decide) ?_
      exact J_sub [0, 1, 2, 3] rfl (hj28 _ (if_neg c4).symm)
    · refine J_iconst (v := (1 : Int32)) hX dX12_cutLength_29 (by decide) ?_
      refine J_goto (tgt := 34) hX dX12_cutLength_30 (by decide) ?_
      exact J_sub [0, 1, 2, 3] rfl (hj28 _ (if_pos c4).symm)
set_option maxRecDepth 100000 in
theorem t_X12_cutLength_l18 {X : XT} {ad : Nat → Nat} {K : Int32 → Mm → Prop} (hX : Cx X cX12_cutLength 8 RX12 (rmN 3 75)) (hR : Rx X (some .int) (kI ad K) (0, 0)) {k8 : Int32 → Int32 → Mm → Prop} (x2 : Int32) (hk8 : ∀ (z1 : Int32) (z2 : Int32) (m : Mm), k8 z1 z2 m → J X (0, 0) 8 [(0, .ref (ad 426)), (1, .int z1), (2, .int z2)] [] (fl ad m)) : ∀ (n : Nat) (x1 : Int32) (x3 : Int32) (m : Mm), wp_X12_cutLength_l18 k8 K x2 n x1 x3 m → J X (0, 0) 18 [(0, .ref (ad 426)), (1, .int x1), (2, .int x2), (3, .int x3)] [] (fl ad m) := by
  intro n
  induction n with
  | zero => intro x1 x3 m h; exact h.elim
  | succ n ih => intro x1 x3 m h; exact tb_X12_cutLength_l18 hX hR x2 ih hk8 x1 x3 m h
set_option maxRecDepth 100000 in
theorem tb_X12_cutLength_l8 {X : XT} {ad : Nat → Nat} {K : Int32 → Mm → Prop} (hX : Cx X cX12_cutLength 8 RX12 (rmN 3 75)) (hR : Rx X (some .int) (kI ad K) (0, 0)) {rec : Int32 → Int32 → Mm → Prop} (hrec : ∀ (x1 : Int32) (x2 : Int32) (m : Mm), rec x1 x2 m → J X (0, 0) 8 [(0, .ref (ad 426)), (1, .int x1), (2, .int x2)] [] (fl ad m)) (x1 : Int32) (x2 : Int32) (m : Mm) (h : wb_X12_cutLength_l8 rec K x1 x2 m) : J X (0, 0) 8 [(0, .ref (ad 426)), (1, .int x1), (2, .int x2)] [] (fl ad m) := by
  unfold wb_X12_cutLength_l8 at h
  refine J_iload_n hX dX12_cutLength_8 rfl 2 rfl ?_
  refine J_aload_n hX dX12_cutLength_9 rfl 0 rfl ?_
  refine J_callV hX km_X12_many kl_RX12_83 dX12_cutLength_10 ka_426 (by decide) [] ⟨Nat.le_of_ble_eq_true rfl, Nat.le_of_ble_eq_true rfl⟩ rfl rfl (Nat.le_of_ble_eq_true rfl) (c_X12_many m) (fun v w2 hk => ?_)
  obtain ⟨rfl, rfl⟩ := hk
  show J X (0, 0) 13 [(0, .ref (ad 426)), (1, .int x1), (2, .int x2)] [.int (v_X12_many m), .int x2] (fl ad m)
  refine J_icmp_ge (tgt := 144) hX dX12_cutLength_13 (by decide) (fun c2 => ?_) (fun c2 => ?_)
  · replace h := Eq.mp (if_pos c2) h
    refine J_iload_n hX dX12_cutLength_144 rfl 1 rfl ?_
    exact J_iret hX hR dX12_cutLength_145 ⟨_, _, rfl, rfl, h⟩
  · replace h := Eq.mp (if_neg c2) h
    refine J_iconst (v := (0 : Int32)) hX dX12_cutLength_16 (by decide) ?_
    refine J_istore_n (lv2 := [(3, .int (0 : Int32)), (0, .ref (ad 426)), (1, .int x1), (2, .int x2)]) hX dX12_cutLength_17 rfl (Nat.le_of_ble_eq_true rfl) rfl ?_
    refine J_sub [1, 2, 3, 0] rfl (t_X12_cutLength_l18 hX hR x2 hrec FU x1 (0 : Int32) m h)
set_option maxRecDepth 100000 in
theorem t_X12_cutLength_l8 {X : XT} {ad : Nat → Nat} {K : Int32 → Mm → Prop} (hX : Cx X cX12_cutLength 8 RX12 (rmN 3 75)) (hR : Rx X (some .int) (kI ad K) (0, 0))  : ∀ (n : Nat) (x1 : Int32) (x2 : Int32) (m : Mm), wp_X12_cutLength_l8 K n x1 x2 m → J X (0, 0) 8 [(0, .ref (ad 426)), (1, .int x1), (2, .int x2)] [] (fl ad m) := by
  intro n
  induction n with
  | zero => intro x1 x2 m h; exact h.elim
  | succ n ih => intro x1 x2 m h; exact tb_X12_cutLength_l8 hX hR ih x1 x2 m h
set_option maxRecDepth 100000 in
theorem c_X12_cutLength {G : GT} {ad : Nat → Nat} (m : Mm) (K : Int32 → Mm → Prop) (h : wp_X12_cutLength m K) : Cn G yX12_cutLength cX12_cutLength 8 (some .int) (rmN 3 75) [.ref (ad 426)] (0, 0) (fl ad m) (kI ad K) := by
  unfold wp_X12_cutLength at h
  refine Cn.of pn_RX12 (Nat.le_of_ble_eq_true rfl) (fun X hG hX hR => ?_)
  subst hG
  have hX : Cx X cX12_cutLength 8 RX12 (rmN 3 75) := hX
  show J X (0, 0) 0 [(0, .ref (ad 426))] [] (fl ad m)
  refine J_aload_n hX dX12_cutLength_0 rfl 0 rfl ?_
  refine J_callV hX km_X12_layFlat kl_RX12_120 dX12_cutLength_1 ka_426 (by decide) [] ⟨Nat.le_of_ble_eq_true rfl, Nat.le_of_ble_eq_true rfl⟩ rfl rfl (Nat.le_of_ble_eq_true rfl) (c_X12_layFlat m _ h) (fun v w2 hk => ?_)
  obtain ⟨m1, rfl, rfl, h⟩ := hk
  show J X (0, 0) 4 [(0, .ref (ad 426))] [] (fl ad m1)
  refine J_iconst (v := (0 : Int32)) hX dX12_cutLength_4 (by decide) ?_
  refine J_istore_n (lv2 := [(1, .int (0 : Int32)), (0, .ref (ad 426))]) hX dX12_cutLength_5 rfl (Nat.le_of_ble_eq_true rfl) rfl ?_
  refine J_iconst (v := (0 : Int32)) hX dX12_cutLength_6 (by decide) ?_
  refine J_istore_n (lv2 := [(2, .int (0 : Int32)), (1, .int (0 : Int32)), (0, .ref (ad 426))]) hX dX12_cutLength_7 rfl (Nat.le_of_ble_eq_true rfl) rfl ?_
  refine J_sub [2, 1, 0] rfl (t_X12_cutLength_l8 hX hR FU (0 : Int32) (0 : Int32) m1 h)
set_option maxRecDepth 100000 in
theorem c_X12_defineImage {G : GT} {ad : Nat → Nat} (x1 : Int32) (x2 : Int32) (x3 : Int32) (m : Mm) (K : Int32 → Mm → Prop) (h : wp_X12_defineImage x1 x2 x3 m K) : Cn G yX12_defineImage cX12_defineImage 4 (some .int) (rmN 2 46) [.ref (ad 426), .int x1, .int x2, .int x3] (0, 0) (fl ad m) (kI ad K) := by
  unfold wp_X12_defineImage at h
  refine Cn.of pn_RX12 (Nat.le_of_ble_eq_true rfl) (fun X hG hX hR => ?_)
  subst hG
  have hX : Cx X cX12_defineImage 4 RX12 (rmN 2 46) := hX
  show J X (0, 0) 0 [(0, .ref (ad 426)), (1, .int x1), (2, .int x2), (3, .int x3)] [] (fl ad m)
  refine J_aload_n hX dX12_defineImage_0 rfl 0 rfl ?_
  refine J_callV hX km_X12_begins kl_RX12_103 dX12_defineImage_1 ka_426 (by decide) [] ⟨Nat.le_of_ble_eq_true rfl, Nat.le_of_ble_eq_true rfl⟩ rfl rfl (Nat.le_of_ble_eq_true rfl) (c_X12_begins m _ h) (fun v w2 hk => ?_)
  obtain ⟨m1, rfl, rfl, h⟩ := hk
  show J X (0, 0) 4 [(0, .ref (ad 426)), (1, .int x1), (2, .int x2), (3, .int x3)] [] (fl ad m1)
  refine J_aload_n hX dX12_defineImage_4 rfl 0 rfl ?_
  refine J_aload_n hX dX12_defineImage_5 rfl 0 rfl ?_
  refine J_iload_n hX dX12_defineImage_6 rfl 1 rfl ?_
  refine J_iload_n hX dX12_defineImage_7 rfl 2 rfl ?_
  refine J_iload_n hX dX12_defineImage_8 rfl 3 rfl ?_
  refine J_callV hX km_X12_doImage kl_RX12_165 dX12_defineImage_9 ka_426 (by decide) [.int x1, .int x2, .int x3] ⟨Nat.le_of_ble_eq_true rfl, Nat.le_of_ble_eq_true rfl⟩ rfl rfl (Nat.le_of_ble_eq_true rfl) (c_X12_doImage x1 x2 x3 m1 _ h) (fun v w2 hk => ?_)
  obtain ⟨y3, m2, rfl, rfl, h⟩ := hk
  show J X (0, 0) 12 [(0, .ref (ad 426)), (1, .int x1), (2, .int x2), (3, .int x3)] [.int y3, .ref (ad 426)] (fl ad m2)
  refine J_callV hX km_X12_ends kl_RX12_106 dX12_defineImage_12 ka_426 (by decide) [.int y3] ⟨Nat.le_of_ble_eq_true rfl, Nat.le_of_ble_eq_true rfl⟩ rfl rfl (Nat.le_of_ble_eq_true rfl) (c_X12_ends y3 m2 _ h) (fun v w2 hk => ?_)
  obtain ⟨y5, m4, rfl, rfl, h⟩ := hk
  show J X (0, 0) 15 [(0, .ref (ad 426)), (1, .int x1), (2, .int x2), (3, .int x3)] [.int y5] (fl ad m4)
  exact J_iret hX hR dX12_defineImage_15 ⟨_, _, rfl, rfl, h⟩
set_option maxRecDepth 100000 in
theorem c_X12_facing {G : GT} {ad : Nat → Nat} (x1 : Int32) (m : Mm) (K : Int32 → Mm → Prop) (h : wp_X12_facing x1 m K) : Cn G yX12_facing cX12_facing 2 (some .int) (rmN 3 78) [.ref (ad 426), .int x1] (0, 0) (fl ad m) (kI ad K) := by
  unfold wp_X12_facing at h
  refine Cn.of pn_RX12 (Nat.le_of_ble_eq_true rfl) (fun X hG hX hR => ?_)
  subst hG
  have hX : Cx X cX12_facing 2 RX12 (rmN 3 78) := hX
  show J X (0, 0) 0 [(0, .ref (ad 426)), (1, .int x1)] [] (fl ad m)
  refine J_aload_n hX dX12_facing_0 rfl 0 rfl ?_
  refine J_iload_n hX dX12_facing_1 rfl 1 rfl ?_
  refine J_callV hX km_X12_isPanel kl_RX12_145 dX12_facing_2 ka_426 (by decide) [.int x1] ⟨Nat.le_of_ble_eq_true rfl, Nat.le_of_ble_eq_true rfl⟩ rfl rfl (Nat.le_of_ble_eq_true rfl) (c_X12_isPanel x1 m) (fun v w2 hk => ?_)
  obtain ⟨rfl, rfl⟩ := hk
  show J X (0, 0) 5 [(0, .ref (ad 426)), (1, .int x1)] [.int (v_X12_isPanel x1 m)] (fl ad m)
  refine J_if_ne (tgt := 10) hX dX12_facing_5 (by decide) (fun c1 => ?_) (fun c1 => ?_)
  · replace h := Eq.mp (if_neg c1) h
    refine J_aload_n hX dX12_facing_10 rfl 0 rfl ?_
    refine J_iconst (v := (-1 : Int32)) hX dX12_facing_11 (by decide) ?_
    refine J_callV hX km_X12_fold kl_RX12_246 dX12_facing_12 ka_426 (by decide) [.int (-1 : Int32)] ⟨Nat.le_of_ble_eq_true rfl, Nat.le_of_ble_eq_true rfl⟩ rfl rfl (Nat.le_of_ble_eq_true rfl) (c_X12_fold (-1 : Int32) m _ h) (fun v w2 hk => ?_)
    obtain ⟨m2, rfl, rfl, h⟩ := hk
    show J X (0, 0) 15 [(0, .ref (ad 426)), (1, .int x1)] [] (fl ad m2)
    refine J_iconst (v := (2 : Int32)) hX dX12_facing_15 (by decide) ?_
    refine J_aload_n hX dX12_facing_16 rfl 0 rfl ?_
    refine J_getR hX kf_RX12_65 dX12_facing_17 ka_426 (by decide) rfl rh_426_23 ?_
    refine J_iload_n hX dX12_facing_20 rfl 1 rfl ?_
    obtain ⟨b3, h⟩ := h
    refine J_iald (j := x1.toNatClampNeg) hX dX12_facing_21 ka_445 le_445 b3 rfl ?_
    refine J_imul hX dX12_facing_22 ?_
    refine J_aload_n hX dX12_facing_23 rfl 0 rfl ?_
    refine J_getR hX kf_RX12_56 dX12_facing_24 ka_426 (by decide) rfl rh_426_20 ?_
    refine J_iconst (v := (3 : Int32)) hX dX12_facing_27 (by decide) ?_
    refine J_iload_n hX dX12_facing_28 rfl 1 rfl ?_
    refine J_imul hX dX12_facing_29 ?_
    refine J_aload_n hX dX12_facing_30 rfl 0 rfl ?_
    refine J_getR hX kf_RX12_65 dX12_facing_31 ka_426 (by decide) rfl rh_426_23 ?_
    refine J_iload_n hX dX12_facing_34 rfl 1 rfl ?_
    refine J_iald (j := x1.toNatClampNeg) hX dX12_facing_35 ka_445 le_445 b3 rfl ?_
    refine J_iadd hX dX12_facing_36 ?_
    obtain ⟨b4, h⟩ := h
    refine J_iald (j := (((3 : Int32) * x1) + (m2.1 445 x1.toNatClampNeg)).toNatClampNeg) hX dX12_facing_37 ka_442 le_442 b4 rfl ?_
    have hj7 : ∀ y6 : Int32, y6 = (if (0 : Int32) ≤ (m2.1 442 (((3 : Int32) * x1) + (m2.1 445 x1.toNatClampNeg)).toNatClampNeg) then (0 : Int32) else (1 : Int32)) → J X (0, 0) 46 [] [.int y6, .int ((2 : Int32) * (m2.1 445 x1.toNatClampNeg))] (fl ad m2) := by
      intro y6 e_y6
      replace h := h y6 e_y6
      refine J_iadd hX dX12_facing_46 ?_
      exact J_iret hX hR dX12_facing_47 ⟨_, _, rfl, rfl, h⟩
    refine J_if_ge (tgt := 45) hX dX12_facing_38 (by decide) (fun c5 => ?_) (fun c5 => ?_)
    · refine J_iconst (v := (0 : Int32)) hX dX12_facing_45 (by decide) ?_
      exact J_sub [] rfl (hj7 _ (if_pos c5).symm)
    · refine J_iconst (v := (1 : Int32)) hX dX12_facing_41 (by decide) ?_
      refine J_goto (tgt := 46) hX dX12_facing_42 (by decide) ?_
      exact J_sub [] rfl (hj7 _ (if_neg c5).symm)
  · replace h := Eq.mp (if_pos c1) h
    refine J_iconst (v := (-1 : Int32)) hX dX12_facing_8 (by decide) ?_
    exact J_iret hX hR dX12_facing_9 ⟨_, _, rfl, rfl, h⟩
set_option maxRecDepth 100000 in
theorem c_X12_faultKind {G : GT} {ad : Nat → Nat} (m : Mm) : Cn G yX12_faultKind cX12_faultKind 1 (some .int) (rmN 0 0) [.ref (ad 426)] (0, 0) (fl ad m) (fun v w => v = some (.int (v_X12_faultKind m)) ∧ w = fl ad m) := by
  refine Cn.of pn_RX12 (Nat.le_of_ble_eq_true rfl) (fun X hG hX hR => ?_)
  subst hG
  have hX : Cx X cX12_faultKind 1 RX12 (rmN 0 0) := hX
  show J X (0, 0) 0 [(0, .ref (ad 426))] [] (fl ad m)
  refine J_aload_n hX dX12_faultKind_0 rfl 0 rfl ?_
  refine J_getI hX kf_RX12_182 dX12_faultKind_1 ka_426 (by decide) rfl ?_
  exact J_iret hX hR dX12_faultKind_4 (And.intro (congrArg (fun z => some (Value.int z)) (show (m.1 426 13) = v_X12_faultKind m from rfl)) rfl)
set_option maxRecDepth 100000 in
theorem c_X12_faulty {G : GT} {ad : Nat → Nat} (x1 : Int32) (m : Mm) (K : Mm → Prop) (h : wp_X12_faulty x1 m K) : Cn G yX12_faulty cX12_faulty 2 none (rmN 0 0) [.ref (ad 426), .int x1] (0, 0) (fl ad m) (kV ad K) := by
  unfold wp_X12_faulty at h
  refine Cn.of pn_RX12 (Nat.le_of_ble_eq_true rfl) (fun X hG hX hR => ?_)
  subst hG
  have hX : Cx X cX12_faulty 2 RX12 (rmN 0 0) := hX
  show J X (0, 0) 0 [(0, .ref (ad 426)), (1, .int x1)] [] (fl ad m)
  refine J_aload_n hX dX12_faulty_0 rfl 0 rfl ?_
  refine J_getI hX kf_RX12_182 dX12_faulty_1 ka_426 (by decide) rfl ?_
  refine J_if_ne (tgt := 12) hX dX12_faulty_4 (by decide) (fun c1 => ?_) (fun c1 => ?_)
  · replace h := Eq.mp (if_neg c1) h
    exact J_vret hX hR dX12_faulty_12 ⟨_, rfl, rfl, h⟩
  · replace h := Eq.mp (if_pos c1) h
    refine J_aload_n hX dX12_faulty_7 rfl 0 rfl ?_
    refine J_iload_n hX dX12_faulty_8 rfl 1 rfl ?_
    refine J_putI hX kf_RX12_182 dX12_faulty_9 ka_426 (by decide) rfl ?_
    refine J_nmM (fun m2 e_m2 => ?_)
    replace h := h m2 e_m2
    exact J_vret hX hR dX12_faulty_12 ⟨_, rfl, rfl, h⟩
set_option maxRecDepth 100000 in
theorem tb_X12_isAhead_l60 {X : XT} {ad : Nat → Nat} {K : Int32 → Mm → Prop} (hX : Cx X cX12_isAhead 6 RX12 (rmN 0 0)) (hR : Rx X (some .boolean) (kI ad K) (0, 0)) {rec : Int32 → Mm → Prop} {k88 : Int32 → Mm → Prop} (x3 : Int32) (x4 : Int32) (hrec : ∀ (x5 : Int32) (m : Mm), rec x5 m → J X (0, 0) 60 [(0, .ref (ad 426)), (3, .int x3), (4, .int x4), (5, .int x5)] [] (fl ad m)) (hk88 : ∀ (z5 : Int32) (m : Mm), k88 z5 m → J X (0, 0) 88 [(0, .ref (ad 426)), (3, .int x3), (4, .int x4), (5, .int z5)] [] (fl ad m)) (x5 : Int32) (m : Mm) (h : wb_X12_isAhead_l60 rec k88 K x3 x4 x5 m) : J X (0, 0) 60 [(0, .ref (ad 426)), (3, .int x3), (4, .int x4), (5, .int x5)] [] (fl ad m) := by
  unfold wb_X12_isAhead_l60 at h
  refine J_iload hX dX12_isAhead_60 3 rfl ?_
  refine J_iconst (v := (4 : Int32)) hX dX12_isAhead_62 (by decide) ?_
  refine J_icmp_ge (tgt := 122) hX dX12_isAhead_63 (by decide) (fun c6 => ?_) (fun c6 => ?_)
  · replace h := Eq.mp (if_pos c6) h
    refine J_iconst (v := (0 : Int32)) hX dX12_isAhead_122 (by decide) ?_
    exact J_zret hX hR dX12_isAhead_123 bo_0 ⟨_, _, rfl, rfl, h⟩
  · replace h := Eq.mp (if_neg c6) h
    refine J_aload_n hX dX12_isAhead_66 rfl 0 rfl ?_
    refine J_getR hX kf_RX12_71 dX12_isAhead_67 ka_426 (by decide) rfl rh_426_26 ?_
    refine J_iload_n hX dX12_isAhead_70 rfl 1 rfl ?_
    refine J_iload hX dX12_isAhead_71 3 rfl ?_
    refine J_iadd hX dX12_isAhead_73 ?_
    obtain ⟨b7, h⟩ := h
    refine J_iald (j := (x3 + x5).toNatClampNeg) hX dX12_isAhead_74 ka_447 le_447 b7 rfl ?_
    refine J_aload_n hX dX12_isAhead_75 rfl 0 rfl ?_
    refine J_getR hX kf_RX12_71 dX12_isAhead_76 ka_426 (by decide) rfl rh_426_26 ?_
    refine J_iload hX dX12_isAhead_79 2 rfl ?_
    refine J_iload hX dX12_isAhead_81 3 rfl ?_
    refine J_iadd hX dX12_isAhead_83 ?_
    obtain ⟨b8, h⟩ := h
    refine J_iald (j := (x4 + x5).toNatClampNeg) hX dX12_isAhead_84 ka_447 le_447 b8 rfl ?_
    refine J_icmp_eq (tgt := 116) hX dX12_isAhead_85 (by decide) (fun c9 => ?_) (fun c9 => ?_)
    · replace h := Eq.mp (if_pos c9) h
      refine J_iinc (x := (x5 + (1 : Int32))) (lv2 := [(5, .int (x5 + (1 : Int32))), (0, .ref (ad 426)), (3, .int x3), (4, .int x4)]) hX dX12_isAhead_116 3 rfl rfl (Nat.le_of_ble_eq_true rfl) rfl ?_
      refine J_goto (tgt := 60) hX dX12_isAhead_119 (by decide) ?_
      exact J_sub [1, 2, 3, 0] rfl (hrec (x5 + (1 : Int32)) m h)
    · replace h := Eq.mp (if_neg c9) h
      exact J_sub [0, 1, 2, 3] rfl (hk88 x5 m h)
set_option maxRecDepth 100000 in
theorem t_X12_isAhead_l60 {X : XT} {ad : Nat → Nat} {K : Int32 → Mm → Prop} (hX : Cx X cX12_isAhead 6 RX12 (rmN 0 0)) (hR : Rx X (some .boolean) (kI ad K) (0, 0)) {k88 : Int32 → Mm → Prop} (x3 : Int32) (x4 : Int32) (hk88 : ∀ (z5 : Int32) (m : Mm), k88 z5 m → J X (0, 0) 88 [(0, .ref (ad 426)), (3, .int x3), (4, .int x4), (5, .int z5)] [] (fl ad m)) : ∀ (n : Nat) (x5 : Int32) (m : Mm), wp_X12_isAhead_l60 k88 K x3 x4 n x5 m → J X (0, 0) 60 [(0, .ref (ad 426)), (3, .int x3), (4, .int x4), (5, .int x5)] [] (fl ad m) := by
  intro n
  induction n with
  | zero => intro x5 m h; exact h.elim
  | succ n ih => intro x5 m h; exact tb_X12_isAhead_l60 hX hR x3 x4 ih hk88 x5 m h
set_option maxRecDepth 100000 in
theorem c_X12_isAhead {G : GT} {ad : Nat → Nat} (x1 : Int32) (x2 : Int32) (m : Mm) (K : Int32 → Mm → Prop) (h : wp_X12_isAhead x1 x2 m K) : Cn G yX12_isAhead cX12_isAhead 6 (some .boolean) (rmN 0 0) [.ref (ad 426), .int x1, .int x2] (0, 0) (fl ad m) (kI ad K) := by
  unfold wp_X12_isAhead at h
  refine Cn.of pn_RX12 (Nat.le_of_ble_eq_true rfl) (fun X hG hX hR => ?_)
  subst hG
  have hX : Cx X cX12_isAhead 6 RX12 (rmN 0 0) := hX
  show J X (0, 0) 0 [(0, .ref (ad 426)), (1, .int x1), (2, .int x2)] [] (fl ad m)
  refine J_bipush (v := (6 : Int32)) hX dX12_isAhead_0 (by decide) ?_
  refine J_iload_n hX dX12_isAhead_2 rfl 1 rfl ?_
  refine J_imul hX dX12_isAhead_3 ?_
  refine J_nmI (fun y1 e_y1 => ?_)
  replace h := h y1 e_y1
  refine J_istore_n (lv2 := [(3, .int y1), (0, .ref (ad 426)), (1, .int x1), (2, .int x2)]) hX dX12_isAhead_4 rfl (Nat.le_of_ble_eq_true rfl) rfl ?_
  refine J_bipush (v := (6 : Int32)) hX dX12_isAhead_5 (by decide) ?_
  refine J_iload_n hX dX12_isAhead_7 rfl 3 rfl ?_
  refine J_imul hX dX12_isAhead_8 ?_
  refine J_nmI (fun y2 e_y2 => ?_)
  replace h := h y2 e_y2
  refine J_istore (lv2 := [(4, .int y2), (3, .int y1), (0, .ref (ad 426)), (1, .int x1), (2, .int x2)]) hX dX12_isAhead_9 (Nat.le_of_ble_eq_true rfl) rfl ?_
  refine J_aload_n hX dX12_isAhead_11 rfl 2 rfl ?_
  refine J_getR hX kf_RX12_71 dX12_isAhead_12 ka_426 (by decide) rfl rh_426_26 ?_
  refine J_iload_n hX dX12_isAhead_15 rfl 1 rfl ?_
  refine J_iconst (v := (5 : Int32)) hX dX12_isAhead_16 (by decide) ?_
  refine J_iadd hX dX12_isAhead_17 ?_
  obtain ⟨b3, h⟩ := h
  refine J_iald (j := (y1 + (5 : Int32)).toNatClampNeg) hX dX12_isAhead_18 ka_447 le_447 b3 rfl ?_
  refine J_aload_n hX dX12_isAhead_19 rfl 2 rfl ?_
  refine J_getR hX kf_RX12_71 dX12_isAhead_20 ka_426 (by decide) rfl rh_426_26 ?_
  refine J_iload hX dX12_isAhead_23 0 rfl ?_
  refine J_iconst (v := (5 : Int32)) hX dX12_isAhead_25 (by decide) ?_
  refine J_iadd hX dX12_isAhead_26 ?_
  obtain ⟨b4, h⟩ := h
  refine J_iald (j := (y2 + (5 : Int32)).toNatClampNeg) hX dX12_isAhead_27 ka_447 le_447 b4 rfl ?_
  refine J_icmp_eq (tgt := 57) hX dX12_isAhead_28 (by decide) (fun c5 => ?_) (fun c5 => ?_)
  · replace h := Eq.mp (if_pos c5) h
    refine J_iconst (v := (0 : Int32)) hX dX12_isAhead_57 (by decide) ?_
    refine J_istore (lv2 := [(5, .int (0 : Int32)), (4, .int y2), (3, .int y1), (0, .ref (ad 426)), (1, .int x1), (2, .int x2)]) hX dX12_isAhead_58 (Nat.le_of_ble_eq_true rfl) rfl ?_
    refine J_sub [3, 2, 1, 0] rfl (t_X12_isAhead_l60 hX hR y1 y2 (fun y10 m11 h => ?_) FU (0 : Int32) m h)
    refine J_aload_n hX dX12_isAhead_88 rfl 0 rfl ?_
    refine J_getR hX kf_RX12_71 dX12_isAhead_89 ka_426 (by decide) rfl rh_426_26 ?_
    refine J_iload_n hX dX12_isAhead_92 rfl 1 rfl ?_
    refine J_iload hX dX12_isAhead_93 3 rfl ?_
    refine J_iadd hX dX12_isAhead_95 ?_
    obtain ⟨b12, h⟩ := h
    refine J_iald (j := (y1 + y10).toNatClampNeg) hX dX12_isAhead_96 ka_447 le_447 b12 rfl ?_
    refine J_aload_n hX dX12_isAhead_97 rfl 0 rfl ?_
    refine J_getR hX kf_RX12_71 dX12_isAhead_98 ka_426 (by decide) rfl rh_426_26 ?_
    refine J_iload hX dX12_isAhead_101 2 rfl ?_
    refine J_iload hX dX12_isAhead_103 3 rfl ?_
    refine J_iadd hX dX12_isAhead_105 ?_
    obtain ⟨b13, h⟩ := h
    refine J_iald (j := (y2 + y10).toNatClampNeg) hX dX12_isAhead_106 ka_447 le_447 b13 rfl ?_
    have hj16 : ∀ y15 : Int32, y15 = (if (m11.1 447 (y2 + y10).toNatClampNeg) ≤ (m11.1 447 (y1 + y10).toNatClampNeg) then (0 : Int32) else (1 : Int32)) → J X (0, 0) 115 [] [.int y15] (fl ad m11) := by
      intro y15 e_y15
      replace h := h y15 e_y15
      exact J_zret hX hR dX12_isAhead_115 (by rw [e_y15]; exact (bo_ite bo_0 bo_1)) ⟨_, _, rfl, rfl, h⟩
    refine J_icmp_ge (tgt := 114) hX dX12_isAhead_107 (by decide) (fun c14 => ?_) (fun c14 => ?_)
    · refine J_iconst (v := (0 : Int32)) hX dX12_isAhead_114 (by decide) ?_
      exact J_sub [] rfl (hj16 _ (if_pos c14).symm)
    · refine J_iconst (v := (1 : Int32)) hX dX12_isAhead_110 (by decide) ?_
      refine J_goto (tgt := 115) hX dX12_isAhead_111 (by decide) ?_
      exact J_sub [] rfl (hj16 _ (if_neg c14).symm)
  · replace h := Eq.mp (if_neg c5) h
    refine J_aload_n hX dX12_isAhead_31 rfl 2 rfl ?_
    refine J_getR hX kf_RX12_71 dX12_isAhead_32 ka_426 (by decide) rfl rh_426_26 ?_
    refine J_iload_n hX dX12_isAhead_35 rfl 1 rfl ?_
    refine J_iconst (v := (5 : Int32)) hX dX12_isAhead_36 (by decide) ?_
    refine J_iadd hX dX12_isAhead_37 ?_
    refine J_iald (j := (y1 + (5 : Int32)).toNatClampNeg) hX dX12_isAhead_38 ka_447 le_447 b3 rfl ?_
    refine J_aload_n hX dX12_isAhead_39 rfl 2 rfl ?_
    refine J_getR hX kf_RX12_71 dX12_isAhead_40 ka_426 (by decide) rfl rh_426_26 ?_
    refine J_iload hX dX12_isAhead_43 0 rfl ?_
    refine J_iconst (v := (5 : Int32)) hX dX12_isAhead_45 (by decide) ?_
    refine J_iadd hX dX12_isAhead_46 ?_
    refine J_iald (j := (y2 + (5 : Int32)).toNatClampNeg) hX dX12_isAhead_47 ka_447 le_447 b4 rfl ?_
    have hj19 : ∀ y18 : Int32, y18 = (if (m.1 447 (y1 + (5 : Int32)).toNatClampNeg) ≤ (m.1 447 (y2 + (5 : Int32)).toNatClampNeg) then (0 : Int32) else (1 : Int32)) → J X (0, 0) 56 [] [.int y18] (fl ad m) := by
      intro y18 e_y18
      replace h := h y18 e_y18
      exact J_zret hX hR dX12_isAhead_56 (by rw [e_y18]; exact (bo_ite bo_0 bo_1)) ⟨_, _, rfl, rfl, h⟩
    refine J_icmp_le (tgt := 55) hX dX12_isAhead_48 (by decide) (fun c17 => ?_) (fun c17 => ?_)
    · refine J_iconst (v := (0 : Int32)) hX dX12_isAhead_55 (by decide) ?_
      exact J_sub [] rfl (hj19 _ (if_pos c17).symm)
    · refine J_iconst (v := (1 : Int32)) hX dX12_isAhead_51 (by decide) ?_
      refine J_goto (tgt := 56) hX dX12_isAhead_52 (by decide) ?_
      exact J_sub [] rfl (hj19 _ (if_neg c17).symm)
set_option maxRecDepth 100000 in
theorem t_X12_placed_j60 {X : XT} {ad : Nat → Nat} {K : Int32 → Mm → Prop} (hX : Cx X cX12_placed 5 RX12 (rmN 9 213)) (hR : Rx X (some .int) (kI ad K) (0, 0)) {k19 : Int32 → Int32 → Mm → Prop} (x1 : Int32) (x2 : Int32) (x4 : Int32) (s0 : Int32) (s1 : Int32) (hk19 : ∀ (z3 : Int32) (z4 : Int32) (m : Mm), k19 z3 z4 m → J X (0, 0) 19 [(0, .ref (ad 426)), (1, .int x1), (2, .int x2), (3, .int z3), (4, .int z4)] [] (fl ad m)) (m : Mm) (h : wp_X12_placed_j60 k19 K x1 x2 x4 s0 s1 m) : J X (0, 0) 60 [(0, .ref (ad 426)), (1, .int x1), (2, .int x2), (4, .int x4)] [.int s1, .int s0] (fl ad m) := by
  unfold wp_X12_placed_j60 at h
  refine J_iadd hX dX12_placed_60 ?_
  refine J_nmI (fun y7 e_y7 => ?_)
  replace h := h y7 e_y7
  refine J_istore_n (lv2 := [(3, .int y7), (0, .ref (ad 426)), (1, .int x1), (2, .int x2), (4, .int x4)]) hX dX12_placed_61 rfl (Nat.le_of_ble_eq_true rfl) rfl ?_
  refine J_iinc (x := (x4 + (1 : Int32))) (lv2 := [(4, .int (x4 + (1 : Int32))), (3, .int y7), (0, .ref (ad 426)), (1, .int x1), (2, .int x2)]) hX dX12_placed_62 4 rfl rfl (Nat.le_of_ble_eq_true rfl) rfl ?_
  refine J_goto (tgt := 19) hX dX12_placed_65 (by decide) ?_
  exact J_sub [2, 3, 4, 1, 0] rfl (hk19 y7 (x4 + (1 : Int32)) m h)
set_option maxRecDepth 100000 in
theorem t_X12_placed_j55 {X : XT} {ad : Nat → Nat} {K : Int32 → Mm → Prop} (hX : Cx X cX12_placed 5 RX12 (rmN 9 213)) (hR : Rx X (some .int) (kI ad K) (0, 0)) {k19 : Int32 → Int32 → Mm → Prop} (x1 : Int32) (x2 : Int32) (x4 : Int32) (s0 : Int32) (hk19 : ∀ (z3 : Int32) (z4 : Int32) (m : Mm), k19 z3 z4 m → J X (0, 0) 19 [(0, .ref (ad 426)), (1, .int x1), (2, .int x2), (3, .int z3), (4, .int z4)] [] (fl ad m)) (m : Mm) (h : wp_X12_placed_j55 k19 K x1 x2 x4 s0 m) : J X (0, 0) 55 [(0, .ref (ad 426)), (1, .int x1), (2, .int x2), (4, .int x4)] [.int s0] (fl ad m) := by
  unfold wp_X12_placed_j55 at h
  refine J_iconst (v := (1 : Int32)) hX dX12_placed_55 (by decide) ?_
  refine J_goto (tgt := 60) hX dX12_placed_56 (by decide) ?_
  exact J_sub [0, 1, 2, 3] rfl (t_X12_placed_j60 hX hR x1 x2 x4 s0 (1 : Int32) hk19 m h)
set_option maxRecDepth 100000 in
theorem t_X12_placed_j59 {X : XT} {ad : Nat → Nat} {K : Int32 → Mm → Prop} (hX : Cx X cX12_placed 5 RX12 (rmN 9 213)) (hR : Rx X (some .int) (kI ad K) (0, 0)) {k19 : Int32 → Int32 → Mm → Prop} (x1 : Int32) (x2 : Int32) (x4 : Int32) (s0 : Int32) (hk19 : ∀ (z3 : Int32) (z4 : Int32) (m : Mm), k19 z3 z4 m → J X (0, 0) 19 [(0, .ref (ad 426)), (1, .int x1), (2, .int x2), (3, .int z3), (4, .int z4)] [] (fl ad m)) (m : Mm) (h : wp_X12_placed_j59 k19 K x1 x2 x4 s0 m) : J X (0, 0) 59 [(0, .ref (ad 426)), (1, .int x1), (2, .int x2), (4, .int x4)] [.int s0] (fl ad m) := by
  unfold wp_X12_placed_j59 at h
  refine J_iconst (v := (0 : Int32)) hX dX12_placed_59 (by decide) ?_
  exact J_sub [0, 1, 2, 3] rfl (t_X12_placed_j60 hX hR x1 x2 x4 s0 (0 : Int32) hk19 m h)
set_option maxRecDepth 100000 in
theorem tb_X12_placed_l19 {X : XT} {ad : Nat → Nat} {K : Int32 → Mm → Prop} (hX : Cx X cX12_placed 5 RX12 (rmN 9 213)) (hR : Rx X (some .int) (kI ad K) (0, 0)) {rec : Int32 → Int32 → Mm → Prop} {k68 : Int32 → Mm → Prop} (x1 : Int32) (x2 : Int32) (hrec : ∀ (x3 : Int32) (x4 : Int32) (m : Mm), rec x3 x4 m → J X (0, 0) 19 [(0, .ref (ad 426)), (1, .int x1), (2, .int x2), (3, .int x3), (4, .int x4)] [] (fl ad m)) (hk68 : ∀ (z3 : Int32) (m : Mm), k68 z3 m → J X (0, 0) 68 [(0, .ref (ad 426)), (1, .int x1), (2, .int x2), (3, .int z3)] [] (fl ad m)) (x3 : Int32) (x4 : Int32) (m : Mm) (h : wb_X12_placed_l19 rec k68 K x1 x2 x3 x4 m) : J X (0, 0) 19 [(0, .ref (ad 426)), (1, .int x1), (2, .int x2), (3, .int x3), (4, .int x4)] [] (fl ad m) := by
  unfold wb_X12_placed_l19 at h
  refine J_iload hX dX12_placed_19 4 rfl ?_
  refine J_aload_n hX dX12_placed_21 rfl 0 rfl ?_
  refine J_getI hX kf_RX12_308 dX12_placed_22 ka_426 (by decide) rfl ?_
  refine J_icmp_ge (tgt := 68) hX dX12_placed_25 (by decide) (fun c3 => ?_) (fun c3 => ?_)
  · replace h := Eq.mp (if_pos c3) h
    exact J_sub [0, 1, 2, 3] rfl (hk68 x3 m h)
  · replace h := Eq.mp (if_neg c3) h
    refine J_iload_n hX dX12_placed_28 rfl 3 rfl ?_
    refine J_aload_n hX dX12_placed_29 rfl 0 rfl ?_
    refine J_iload hX dX12_placed_30 4 rfl ?_
    refine J_iload_n hX dX12_placed_32 rfl 2 rfl ?_
    refine J_callV hX km_X12_isAhead kl_RX12_344 dX12_placed_33 ka_426 (by decide) [.int x4, .int x2] ⟨Nat.le_of_ble_eq_true rfl, Nat.le_of_ble_eq_true rfl⟩ rfl rfl (Nat.le_of_ble_eq_true rfl) (c_X12_isAhead x4 x2 m _ h) (fun v w2 hk => ?_)
    obtain ⟨y5, m4, rfl, rfl, h⟩ := hk
    show J X (0, 0) 36 [(0, .ref (ad 426)), (1, .int x1), (2, .int x2), (3, .int x3), (4, .int x4)] [.int y5, .int x3] (fl ad m4)
    refine J_if_ne (tgt := 55) hX dX12_placed_36 (by decide) (fun c6 => ?_) (fun c6 => ?_)
    · replace h := Eq.mp (if_neg c6) h
      exact J_sub [0, 1, 2, 4] rfl (t_X12_placed_j55 hX hR x1 x2 x4 x3 hrec m4 h)
    · replace h := Eq.mp (if_pos c6) h
      refine J_iload hX dX12_placed_39 4 rfl ?_
      refine J_iload_n hX dX12_placed_41 rfl 2 rfl ?_
      refine J_icmp_ge (tgt := 59) hX dX12_placed_42 (by decide) (fun c8 => ?_) (fun c8 => ?_)
      · replace h := Eq.mp (if_pos c8) h
        exact J_sub [0, 1, 2, 4] rfl (t_X12_placed_j59 hX hR x1 x2 x4 x3 hrec m4 h)
      · replace h := Eq.mp (if_neg c8) h
        refine J_aload_n hX dX12_placed_45 rfl 0 rfl ?_
        refine J_iload_n hX dX12_placed_46 rfl 2 rfl ?_
        refine J_iload hX dX12_placed_47 4 rfl ?_
        refine J_callV hX km_X12_isAhead kl_RX12_344 dX12_placed_49 ka_426 (by decide) [.int x2, .int x4] ⟨Nat.le_of_ble_eq_true rfl, Nat.le_of_ble_eq_true rfl⟩ rfl rfl (Nat.le_of_ble_eq_true rfl) (c_X12_isAhead x2 x4 m4 _ h) (fun v w2 hk => ?_)
        obtain ⟨y10, m9, rfl, rfl, h⟩ := hk
        show J X (0, 0) 52 [(0, .ref (ad 426)), (1, .int x1), (2, .int x2), (3, .int x3), (4, .int x4)] [.int y10, .int x3] (fl ad m9)
        have hj14 : ∀ y12 : Int32, y12 = (if y10 = (0 : Int32) then (1 : Int32) else (0 : Int32)) → J X (0, 0) 60 [(0, .ref (ad 426)), (1, .int x1), (2, .int x2), (4, .int x4)] [.int y12, .int x3] (fl ad m9) := by
          intro y12 e_y12
          replace h := h y12 e_y12
          refine J_iadd hX dX12_placed_60 ?_
          refine J_nmI (fun y13 e_y13 => ?_)
          replace h := h y13 e_y13
          refine J_istore_n (lv2 := [(3, .int y13), (0, .ref (ad 426)), (1, .int x1), (2, .int x2), (4, .int x4)]) hX dX12_placed_61 rfl (Nat.le_of_ble_eq_true rfl) rfl ?_
          refine J_iinc (x := (x4 + (1 : Int32))) (lv2 := [(4, .int (x4 + (1 : Int32))), (3, .int y13), (0, .ref (ad 426)), (1, .int x1), (2, .int x2)]) hX dX12_placed_62 4 rfl rfl (Nat.le_of_ble_eq_true rfl) rfl ?_
          refine J_goto (tgt := 19) hX dX12_placed_65 (by decide) ?_
          exact J_sub [2, 3, 4, 1, 0] rfl (hrec y13 (x4 + (1 : Int32)) m9 h)
        refine J_if_ne (tgt := 59) hX dX12_placed_52 (by decide) (fun c11 => ?_) (fun c11 => ?_)
        · refine J_iconst (v := (0 : Int32)) hX dX12_placed_59 (by decide) ?_
          exact J_sub [0, 1, 2, 4] rfl (hj14 _ (if_neg c11).symm)
        · refine J_iconst (v := (1 : Int32)) hX dX12_placed_55 (by decide) ?_
          refine J_goto (tgt := 60) hX dX12_placed_56 (by decide) ?_
          exact J_sub [0, 1, 2, 4] rfl (hj14 _ (if_pos c11).symm)
set_option maxRecDepth 100000 in
theorem t_X12_placed_l19 {X : XT} {ad : Nat → Nat} {K : Int32 → Mm → Prop} (hX : Cx X cX12_placed 5 RX12 (rmN 9 213)) (hR : Rx X (some .int) (kI ad K) (0, 0)) {k68 : Int32 → Mm → Prop} (x1 : Int32) (x2 : Int32) (hk68 : ∀ (z3 : Int32) (m : Mm), k68 z3 m → J X (0, 0) 68 [(0, .ref (ad 426)), (1, .int x1), (2, .int x2), (3, .int z3)] [] (fl ad m)) : ∀ (n : Nat) (x3 : Int32) (x4 : Int32) (m : Mm), wp_X12_placed_l19 k68 K x1 x2 n x3 x4 m → J X (0, 0) 19 [(0, .ref (ad 426)), (1, .int x1), (2, .int x2), (3, .int x3), (4, .int x4)] [] (fl ad m) := by
  intro n
  induction n with
  | zero => intro x3 x4 m h; exact h.elim
  | succ n ih => intro x3 x4 m h; exact tb_X12_placed_l19 hX hR x1 x2 ih hk68 x3 x4 m h
set_option maxRecDepth 100000 in
theorem tb_X12_placed_l6 {X : XT} {ad : Nat → Nat} {K : Int32 → Mm → Prop} (hX : Cx X cX12_placed 5 RX12 (rmN 9 213)) (hR : Rx X (some .int) (kI ad K) (0, 0)) {rec : Int32 → Mm → Prop} (x1 : Int32) (hrec : ∀ (x2 : Int32) (m : Mm), rec x2 m → J X (0, 0) 6 [(0, .ref (ad 426)), (1, .int x1), (2, .int x2)] [] (fl ad m)) (x2 : Int32) (m : Mm) (h : wb_X12_placed_l6 rec K x1 x2 m) : J X (0, 0) 6 [(0, .ref (ad 426)), (1, .int x1), (2, .int x2)] [] (fl ad m) := by
  unfold wb_X12_placed_l6 at h
  refine J_iload_n hX dX12_placed_6 rfl 2 rfl ?_
  refine J_aload_n hX dX12_placed_7 rfl 0 rfl ?_
  refine J_getI hX kf_RX12_308 dX12_placed_8 ka_426 (by decide) rfl ?_
  refine J_icmp_ge (tgt := 81) hX dX12_placed_11 (by decide) (fun c2 => ?_) (fun c2 => ?_)
  · replace h := Eq.mp (if_pos c2) h
    refine J_bipush (v := (-9 : Int32)) hX dX12_placed_81 (by decide) ?_
    exact J_iret hX hR dX12_placed_83 ⟨_, _, rfl, rfl, h⟩
  · replace h := Eq.mp (if_neg c2) h
    refine J_iconst (v := (0 : Int32)) hX dX12_placed_14 (by decide) ?_
    refine J_istore_n (lv2 := [(3, .int (0 : Int32)), (0, .ref (ad 426)), (1, .int x1), (2, .int x2)]) hX dX12_placed_15 rfl (Nat.le_of_ble_eq_true rfl) rfl ?_
    refine J_iconst (v := (0 : Int32)) hX dX12_placed_16 (by decide) ?_
    refine J_istore (lv2 := [(4, .int (0 : Int32)), (3, .int (0 : Int32)), (0, .ref (ad 426)), (1, .int x1), (2, .int x2)]) hX dX12_placed_17 (Nat.le_of_ble_eq_true rfl) rfl ?_
    refine J_sub [2, 3, 4, 1, 0] rfl (t_X12_placed_l19 hX hR x1 x2 (fun y15 m16 h => ?_) FU (0 : Int32) (0 : Int32) m h)
    refine J_iload_n hX dX12_placed_68 rfl 3 rfl ?_
    refine J_iload_n hX dX12_placed_69 rfl 1 rfl ?_
    refine J_icmp_ne (tgt := 75) hX dX12_placed_70 (by decide) (fun c17 => ?_) (fun c17 => ?_)
    · replace h := Eq.mp (if_neg c17) h
      refine J_iinc (x := (x2 + (1 : Int32))) (lv2 := [(2, .int (x2 + (1 : Int32))), (0, .ref (ad 426)), (1, .int x1), (3, .int y15)]) hX dX12_placed_75 2 rfl rfl (Nat.le_of_ble_eq_true rfl) rfl ?_
      refine J_goto (tgt := 6) hX dX12_placed_78 (by decide) ?_
      exact J_sub [1, 2, 0] rfl (hrec (x2 + (1 : Int32)) m16 h)
    · replace h := Eq.mp (if_pos c17) h
      refine J_iload_n hX dX12_placed_73 rfl 2 rfl ?_
      exact J_iret hX hR dX12_placed_74 ⟨_, _, rfl, rfl, h⟩
set_option maxRecDepth 100000 in
theorem t_X12_placed_l6 {X : XT} {ad : Nat → Nat} {K : Int32 → Mm → Prop} (hX : Cx X cX12_placed 5 RX12 (rmN 9 213)) (hR : Rx X (some .int) (kI ad K) (0, 0)) (x1 : Int32) : ∀ (n : Nat) (x2 : Int32) (m : Mm), wp_X12_placed_l6 K x1 n x2 m → J X (0, 0) 6 [(0, .ref (ad 426)), (1, .int x1), (2, .int x2)] [] (fl ad m) := by
  intro n
  induction n with
  | zero => intro x2 m h; exact h.elim
  | succ n ih => intro x2 m h; exact tb_X12_placed_l6 hX hR x1 ih x2 m h
set_option maxRecDepth 100000 in
theorem c_X12_placed {G : GT} {ad : Nat → Nat} (x1 : Int32) (m : Mm) (K : Int32 → Mm → Prop) (h : wp_X12_placed x1 m K) : Cn G yX12_placed cX12_placed 5 (some .int) (rmN 9 213) [.ref (ad 426), .int x1] (0, 0) (fl ad m) (kI ad K) := by
  unfold wp_X12_placed at h
  refine Cn.of pn_RX12 (Nat.le_of_ble_eq_true rfl) (fun X hG hX hR => ?_)
  subst hG
  have hX : Cx X cX12_placed 5 RX12 (rmN 9 213) := hX
  show J X (0, 0) 0 [(0, .ref (ad 426)), (1, .int x1)] [] (fl ad m)
  refine J_aload_n hX dX12_placed_0 rfl 0 rfl ?_
  refine J_callV hX km_X12_findAll kl_RX12_341 dX12_placed_1 ka_426 (by decide) [] ⟨Nat.le_of_ble_eq_true rfl, Nat.le_of_ble_eq_true rfl⟩ rfl rfl (Nat.le_of_ble_eq_true rfl) (c_X12_findAll m _ h) (fun v w2 hk => ?_)
  obtain ⟨m1, rfl, rfl, h⟩ := hk
  show J X (0, 0) 4 [(0, .ref (ad 426)), (1, .int x1)] [] (fl ad m1)
  refine J_iconst (v := (0 : Int32)) hX dX12_placed_4 (by decide) ?_
  refine J_istore_n (lv2 := [(2, .int (0 : Int32)), (0, .ref (ad 426)), (1, .int x1)]) hX dX12_placed_5 rfl (Nat.le_of_ble_eq_true rfl) rfl ?_
  refine J_sub [1, 2, 0] rfl (t_X12_placed_l6 hX hR x1 FU (0 : Int32) m1 h)
set_option maxRecDepth 100000 in
theorem t_X12_finding_j23 {X : XT} {ad : Nat → Nat} {K : Int32 → Mm → Prop} (hX : Cx X cX12_finding 4 RX12 (rmN 10 237)) (hR : Rx X (some .int) (kI ad K) (0, 0)) (x2 : Int32) (s0 : Int32) (m : Mm) (h : wp_X12_finding_j23 K x2 s0 m) : J X (0, 0) 23 [(0, .ref (ad 426)), (2, .int x2)] [.int s0] (fl ad m) := by
  unfold wp_X12_finding_j23 at h
  refine J_istore_n (lv2 := [(3, .int s0), (0, .ref (ad 426)), (2, .int x2)]) hX dX12_finding_23 rfl (Nat.le_of_ble_eq_true rfl) rfl ?_
  refine J_iload_n hX dX12_finding_24 rfl 0 rfl ?_
  refine J_bipush (v := (-9 : Int32)) hX dX12_finding_25 (by decide) ?_
  obtain ⟨g4, h⟩ := h
  have hj6 : ∀ y5 : Int32, y5 = (if s0 = (-9 : Int32) then (-1 : Int32) else (m.1 447 (((6 : Int32) * s0) + x2).toNatClampNeg)) → J X (0, 0) 45 [] [.int y5] (fl ad m) := by
    intro y5 e_y5
    replace h := h y5 e_y5
    exact J_iret hX hR dX12_finding_45 ⟨_, _, rfl, rfl, h⟩
  have g7 := g4
  refine J_icmp_ne (tgt := 34) hX dX12_finding_27 (by decide) (fun c2 => ?_) (fun c2 => ?_)
  · have g8 := g7 c2
    have b3 := g8
    refine J_aload_n hX dX12_finding_34 rfl 1 rfl ?_
    refine J_getR hX kf_RX12_71 dX12_finding_35 ka_426 (by decide) rfl rh_426_26 ?_
    refine J_bipush (v := (6 : Int32)) hX dX12_finding_38 (by decide) ?_
    refine J_iload_n hX dX12_finding_40 rfl 0 rfl ?_
    refine J_imul hX dX12_finding_41 ?_
    refine J_iload_n hX dX12_finding_42 rfl 2 rfl ?_
    refine J_iadd hX dX12_finding_43 ?_
    refine J_iald (j := (((6 : Int32) * s0) + x2).toNatClampNeg) hX dX12_finding_44 ka_447 le_447 b3 rfl ?_
    exact J_sub [] rfl (hj6 _ (if_neg c2).symm)
  · refine J_iconst (v := (-1 : Int32)) hX dX12_finding_30 (by decide) ?_
    refine J_goto (tgt := 45) hX dX12_finding_31 (by decide) ?_
    exact J_sub [] rfl (hj6 _ (if_pos c2).symm)
set_option maxRecDepth 100000 in
theorem t_X12_finding_j13 {X : XT} {ad : Nat → Nat} {K : Int32 → Mm → Prop} (hX : Cx X cX12_finding 4 RX12 (rmN 10 237)) (hR : Rx X (some .int) (kI ad K) (0, 0)) (x2 : Int32) (m : Mm) (h : wp_X12_finding_j13 K x2 m) : J X (0, 0) 13 [(0, .ref (ad 426)), (2, .int x2)] [] (fl ad m) := by
  unfold wp_X12_finding_j13 at h
  refine J_bipush (v := (-9 : Int32)) hX dX12_finding_13 (by decide) ?_
  refine J_goto (tgt := 23) hX dX12_finding_15 (by decide) ?_
  exact J_sub [0, 1] rfl (t_X12_finding_j23 hX hR x2 (-9 : Int32) m h)
set_option maxRecDepth 100000 in
theorem c_X12_finding {G : GT} {ad : Nat → Nat} (x1 : Int32) (x2 : Int32) (m : Mm) (K : Int32 → Mm → Prop) (h : wp_X12_finding x1 x2 m K) : Cn G yX12_finding cX12_finding 4 (some .int) (rmN 10 237) [.ref (ad 426), .int x1, .int x2] (0, 0) (fl ad m) (kI ad K) := by
  unfold wp_X12_finding at h
  refine Cn.of pn_RX12 (Nat.le_of_ble_eq_true rfl) (fun X hG hX hR => ?_)
  subst hG
  have hX : Cx X cX12_finding 4 RX12 (rmN 10 237) := hX
  show J X (0, 0) 0 [(0, .ref (ad 426)), (1, .int x1), (2, .int x2)] [] (fl ad m)
  refine J_iload_n hX dX12_finding_0 rfl 1 rfl ?_
  refine J_if_lt (tgt := 13) hX dX12_finding_1 (by decide) (fun c1 => ?_) (fun c1 => ?_)
  · replace h := Eq.mp (if_pos c1) h
    exact J_sub [0, 2] rfl (t_X12_finding_j13 hX hR x2 m h)
  · replace h := Eq.mp (if_neg c1) h
    refine J_iload_n hX dX12_finding_4 rfl 2 rfl ?_
    refine J_iconst (v := (0 : Int32)) hX dX12_finding_5 (by decide) ?_
    refine J_iconst (v := (5 : Int32)) hX dX12_finding_6 (by decide) ?_
    refine J_callS hX km_X12_in kl_RX12_87 dX12_finding_7 [.int x2, .int (0 : Int32), .int (5 : Int32)] ⟨Nat.le_of_ble_eq_true rfl, Nat.le_of_ble_eq_true rfl⟩ rfl rfl (Nat.le_of_ble_eq_true rfl) (c_X12_in x2 (0 : Int32) (5 : Int32) m) (fun v w2 hk => ?_)
    obtain ⟨rfl, rfl⟩ := hk
    show J X (0, 0) 10 [(0, .ref (ad 426)), (1, .int x1), (2, .int x2)] [.int (v_X12_in x2 (0 : Int32) (5 : Int32))] (fl ad m)
    refine J_if_ne (tgt := 18) hX dX12_finding_10 (by decide) (fun c9 => ?_) (fun c9 => ?_)
    · replace h := Eq.mp (if_neg c9) h
      refine J_aload_n hX dX12_finding_18 rfl 0 rfl ?_
      refine J_iload_n hX dX12_finding_19 rfl 1 rfl ?_
      refine J_callV hX km_X12_placed kl_RX12_347 dX12_finding_20 ka_426 (by decide) [.int x1] ⟨Nat.le_of_ble_eq_true rfl, Nat.le_of_ble_eq_true rfl⟩ rfl rfl (Nat.le_of_ble_eq_true rfl) (c_X12_placed x1 m _ h) (fun v w2 hk => ?_)
      obtain ⟨y11, m10, rfl, rfl, h⟩ := hk
      show J X (0, 0) 23 [(0, .ref (ad 426)), (1, .int x1), (2, .int x2)] [.int y11] (fl ad m10)
      exact J_sub [0, 2] rfl (t_X12_finding_j23 hX hR x2 y11 m10 h)
    · replace h := Eq.mp (if_pos c9) h
      exact J_sub [0, 2] rfl (t_X12_finding_j13 hX hR x2 m h)
set_option maxRecDepth 100000 in
theorem c_X12_findingCount {G : GT} {ad : Nat → Nat} (m : Mm) (K : Int32 → Mm → Prop) (h : wp_X12_findingCount m K) : Cn G yX12_findingCount cX12_findingCount 1 (some .int) (rmN 9 213) [.ref (ad 426)] (0, 0) (fl ad m) (kI ad K) := by
  unfold wp_X12_findingCount at h
  refine Cn.of pn_RX12 (Nat.le_of_ble_eq_true rfl) (fun X hG hX hR => ?_)
  subst hG
  have hX : Cx X cX12_findingCount 1 RX12 (rmN 9 213) := hX
  show J X (0, 0) 0 [(0, .ref (ad 426))] [] (fl ad m)
  refine J_aload_n hX dX12_findingCount_0 rfl 0 rfl ?_
  refine J_callV hX km_X12_findAll kl_RX12_341 dX12_findingCount_1 ka_426 (by decide) [] ⟨Nat.le_of_ble_eq_true rfl, Nat.le_of_ble_eq_true rfl⟩ rfl rfl (Nat.le_of_ble_eq_true rfl) (c_X12_findAll m _ h) (fun v w2 hk => ?_)
  obtain ⟨m1, rfl, rfl, h⟩ := hk
  show J X (0, 0) 4 [(0, .ref (ad 426))] [] (fl ad m1)
  refine J_aload_n hX dX12_findingCount_4 rfl 0 rfl ?_
  refine J_getI hX kf_RX12_308 dX12_findingCount_5 ka_426 (by decide) rfl ?_
  exact J_iret hX hR dX12_findingCount_8 ⟨_, _, rfl, rfl, h⟩
set_option maxRecDepth 100000 in
theorem c_X12_flat {G : GT} {ad : Nat → Nat} (x1 : Int32) (x2 : Int32) (m : Mm) (K : Int32 → Mm → Prop) (h : wp_X12_flat x1 x2 m K) : Cn G yX12_flat cX12_flat 3 (some .int) (rmN 2 47) [.ref (ad 426), .int x1, .int x2] (0, 0) (fl ad m) (kI ad K) := by
  unfold wp_X12_flat at h
  refine Cn.of pn_RX12 (Nat.le_of_ble_eq_true rfl) (fun X hG hX hR => ?_)
  subst hG
  have hX : Cx X cX12_flat 3 RX12 (rmN 2 47) := hX
  show J X (0, 0) 0 [(0, .ref (ad 426)), (1, .int x1), (2, .int x2)] [] (fl ad m)
  refine J_aload_n hX dX12_flat_0 rfl 0 rfl ?_
  refine J_iload_n hX dX12_flat_1 rfl 1 rfl ?_
  refine J_callV hX km_X12_isPanel kl_RX12_145 dX12_flat_2 ka_426 (by decide) [.int x1] ⟨Nat.le_of_ble_eq_true rfl, Nat.le_of_ble_eq_true rfl⟩ rfl rfl (Nat.le_of_ble_eq_true rfl) (c_X12_isPanel x1 m) (fun v w2 hk => ?_)
  obtain ⟨rfl, rfl⟩ := hk
  show J X (0, 0) 5 [(0, .ref (ad 426)), (1, .int x1), (2, .int x2)] [.int (v_X12_isPanel x1 m)] (fl ad m)
  refine J_if_eq (tgt := 17) hX dX12_flat_5 (by decide) (fun c1 => ?_) (fun c1 => ?_)
  · replace h := Eq.mp (if_pos c1) h
    refine J_iconst (v := (-1 : Int32)) hX dX12_flat_17 (by decide) ?_
    exact J_iret hX hR dX12_flat_18 ⟨_, _, rfl, rfl, h⟩
  · replace h := Eq.mp (if_neg c1) h
    refine J_iload_n hX dX12_flat_8 rfl 2 rfl ?_
    refine J_iconst (v := (0 : Int32)) hX dX12_flat_9 (by decide) ?_
    refine J_iconst (v := (3 : Int32)) hX dX12_flat_10 (by decide) ?_
    refine J_callS hX km_X12_in kl_RX12_87 dX12_flat_11 [.int x2, .int (0 : Int32), .int (3 : Int32)] ⟨Nat.le_of_ble_eq_true rfl, Nat.le_of_ble_eq_true rfl⟩ rfl rfl (Nat.le_of_ble_eq_true rfl) (c_X12_in x2 (0 : Int32) (3 : Int32) m) (fun v w2 hk => ?_)
    obtain ⟨rfl, rfl⟩ := hk
    show J X (0, 0) 14 [(0, .ref (ad 426)), (1, .int x1), (2, .int x2)] [.int (v_X12_in x2 (0 : Int32) (3 : Int32))] (fl ad m)
    refine J_if_ne (tgt := 19) hX dX12_flat_14 (by decide) (fun c2 => ?_) (fun c2 => ?_)
    · replace h := Eq.mp (if_neg c2) h
      refine J_aload_n hX dX12_flat_19 rfl 0 rfl ?_
      refine J_callV hX km_X12_layFlat kl_RX12_120 dX12_flat_20 ka_426 (by decide) [] ⟨Nat.le_of_ble_eq_true rfl, Nat.le_of_ble_eq_true rfl⟩ rfl rfl (Nat.le_of_ble_eq_true rfl) (c_X12_layFlat m _ h) (fun v w2 hk => ?_)
      obtain ⟨m3, rfl, rfl, h⟩ := hk
      show J X (0, 0) 23 [(0, .ref (ad 426)), (1, .int x1), (2, .int x2)] [] (fl ad m3)
      refine J_iload_n hX dX12_flat_23 rfl 2 rfl ?_
      obtain ⟨g11, h⟩ := h
      have hj13 : ∀ y12 : Int32, y12 = (if x2 = (0 : Int32) then (m3.1 432 x1.toNatClampNeg) else (if x2 = (1 : Int32) then (m3.1 433 x1.toNatClampNeg) else (if x2 = (2 : Int32) then (m3.1 434 x1.toNatClampNeg) else (m3.1 435 x1.toNatClampNeg)))) → J X (0, 0) 70 [] [.int y12] (fl ad m3) := by
        intro y12 e_y12
        replace h := h y12 e_y12
        exact J_iret hX hR dX12_flat_70 ⟨_, _, rfl, rfl, h⟩
      have g14 := g11
      refine J_if_ne (tgt := 36) hX dX12_flat_24 (by decide) (fun c4 => ?_) (fun c4 => ?_)
      · have g15 := g14
        refine J_iload_n hX dX12_flat_36 rfl 2 rfl ?_
        refine J_iconst (v := (1 : Int32)) hX dX12_flat_37 (by decide) ?_
        refine J_icmp_ne (tgt := 50) hX dX12_flat_38 (by decide) (fun c5 => ?_) (fun c5 => ?_)
        · have g16 := g15
          refine J_iload_n hX dX12_flat_50 rfl 2 rfl ?_
          refine J_iconst (v := (2 : Int32)) hX dX12_flat_51 (by decide) ?_
          refine J_icmp_ne (tgt := 64) hX dX12_flat_52 (by decide) (fun c6 => ?_) (fun c6 => ?_)
          · have b7 := g16
            refine J_aload_n hX dX12_flat_64 rfl 0 rfl ?_
            refine J_getR hX kf_RX12_35 dX12_flat_65 ka_426 (by decide) rfl rh_426_10 ?_
            refine J_iload_n hX dX12_flat_68 rfl 1 rfl ?_
            refine J_iald (j := x1.toNatClampNeg) hX dX12_flat_69 ka_435 le_435 b7 rfl ?_
            exact J_sub [] rfl (hj13 _ ((if_neg c4).trans ((if_neg c5).trans (if_neg c6))).symm)
          · have b8 := g16
            refine J_aload_n hX dX12_flat_55 rfl 0 rfl ?_
            refine J_getR hX kf_RX12_32 dX12_flat_56 ka_426 (by decide) rfl rh_426_9 ?_
            refine J_iload_n hX dX12_flat_59 rfl 1 rfl ?_
            refine J_iald (j := x1.toNatClampNeg) hX dX12_flat_60 ka_434 le_434 b8 rfl ?_
            refine J_goto (tgt := 70) hX dX12_flat_61 (by decide) ?_
            exact J_sub [] rfl (hj13 _ ((if_neg c4).trans ((if_neg c5).trans (if_pos c6))).symm)
        · have b9 := g15
          refine J_aload_n hX dX12_flat_41 rfl 0 rfl ?_
          refine J_getR hX kf_RX12_29 dX12_flat_42 ka_426 (by decide) rfl rh_426_8 ?_
          refine J_iload_n hX dX12_flat_45 rfl 1 rfl ?_
          refine J_iald (j := x1.toNatClampNeg) hX dX12_flat_46 ka_433 le_433 b9 rfl ?_
          refine J_goto (tgt := 70) hX dX12_flat_47 (by decide) ?_
          exact J_sub [] rfl (hj13 _ ((if_neg c4).trans (if_pos c5)).symm)
      · have b10 := g14
        refine J_aload_n hX dX12_flat_27 rfl 0 rfl ?_
        refine J_getR hX kf_RX12_26 dX12_flat_28 ka_426 (by decide) rfl rh_426_7 ?_
        refine J_iload_n hX dX12_flat_31 rfl 1 rfl ?_
        refine J_iald (j := x1.toNatClampNeg) hX dX12_flat_32 ka_432 le_432 b10 rfl ?_
        refine J_goto (tgt := 70) hX dX12_flat_33 (by decide) ?_
        exact J_sub [] rfl (hj13 _ (if_pos c4).symm)
    · replace h := Eq.mp (if_pos c2) h
      refine J_iconst (v := (-1 : Int32)) hX dX12_flat_17 (by decide) ?_
      exact J_iret hX hR dX12_flat_18 ⟨_, _, rfl, rfl, h⟩
set_option maxRecDepth 100000 in
theorem tb_X12_foldStep_l10 {X : XT} {ad : Nat → Nat} {K : Int32 → Mm → Prop} (hX : Cx X cX12_foldStep 9 RX12 (rmN 5 114)) (hR : Rx X (some .int) (kI ad K) (0, 0)) {rec : Int32 → Int32 → Mm → Prop} {k43 : Int32 → Mm → Prop} (x1 : Int32) (hrec : ∀ (x2 : Int32) (x3 : Int32) (m : Mm), rec x2 x3 m → J X (0, 0) 10 [(0, .ref (ad 426)), (1, .int x1), (2, .int x2), (3, .int x3)] [] (fl ad m)) (hk43 : ∀ (z2 : Int32) (m : Mm), k43 z2 m → J X (0, 0) 43 [(0, .ref (ad 426)), (1, .int x1), (2, .int z2)] [] (fl ad m)) (x2 : Int32) (x3 : Int32) (m : Mm) (h : wb_X12_foldStep_l10 rec k43 K x1 x2 x3 m) : J X (0, 0) 10 [(0, .ref (ad 426)), (1, .int x1), (2, .int x2), (3, .int x3)] [] (fl ad m) := by
  unfold wb_X12_foldStep_l10 at h
  refine J_iload_n hX dX12_foldStep_10 rfl 3 rfl ?_
  refine J_aload_n hX dX12_foldStep_11 rfl 0 rfl ?_
  refine J_callV hX km_X12_many kl_RX12_83 dX12_foldStep_12 ka_426 (by decide) [] ⟨Nat.le_of_ble_eq_true rfl, Nat.le_of_ble_eq_true rfl⟩ rfl rfl (Nat.le_of_ble_eq_true rfl) (c_X12_many m) (fun v w2 hk => ?_)
  obtain ⟨rfl, rfl⟩ := hk
  show J X (0, 0) 15 [(0, .ref (ad 426)), (1, .int x1), (2, .int x2), (3, .int x3)] [.int (v_X12_many m), .int x3] (fl ad m)
  refine J_icmp_ge (tgt := 43) hX dX12_foldStep_15 (by decide) (fun c2 => ?_) (fun c2 => ?_)
  · replace h := Eq.mp (if_pos c2) h
    exact J_sub [0, 1, 2] rfl (hk43 x2 m h)
  · replace h := Eq.mp (if_neg c2) h
    refine J_iload_n hX dX12_foldStep_18 rfl 2 rfl ?_
    refine J_aload_n hX dX12_foldStep_19 rfl 0 rfl ?_
    refine J_iload_n hX dX12_foldStep_20 rfl 3 rfl ?_
    refine J_iconst (v := (5 : Int32)) hX dX12_foldStep_21 (by decide) ?_
    obtain ⟨b3, h⟩ := h
    refine J_callV hX km_X12_of kl_RX12_91 dX12_foldStep_22 ka_426 (by decide) [.int x3, .int (5 : Int32)] ⟨Nat.le_of_ble_eq_true rfl, Nat.le_of_ble_eq_true rfl⟩ rfl rfl (Nat.le_of_ble_eq_true rfl) (c_X12_of x3 (5 : Int32) m b3) (fun v w2 hk => ?_)
    obtain ⟨rfl, rfl⟩ := hk
    show J X (0, 0) 25 [(0, .ref (ad 426)), (1, .int x1), (2, .int x2), (3, .int x3)] [.int (v_X12_of x3 (5 : Int32) m), .int x2] (fl ad m)
    have hj7 : ∀ y5 : Int32, y5 = (if (v_X12_of x3 (5 : Int32) m) = (0 : Int32) then (0 : Int32) else ((1 : Int32) <<< (x3 &&& 31))) → J X (0, 0) 35 [(0, .ref (ad 426)), (1, .int x1), (3, .int x3)] [.int y5, .int x2] (fl ad m) := by
      intro y5 e_y5
      replace h := h y5 e_y5
      refine J_ior hX dX12_foldStep_35 ?_
      refine J_nmI (fun y6 e_y6 => ?_)
      replace h := h y6 e_y6
      refine J_istore_n (lv2 := [(2, .int y6), (0, .ref (ad 426)), (1, .int x1), (3, .int x3)]) hX dX12_foldStep_36 rfl (Nat.le_of_ble_eq_true rfl) rfl ?_
      refine J_iinc (x := (x3 + (1 : Int32))) (lv2 := [(3, .int (x3 + (1 : Int32))), (2, .int y6), (0, .ref (ad 426)), (1, .int x1)]) hX dX12_foldStep_37 3 rfl rfl (Nat.le_of_ble_eq_true rfl) rfl ?_
      refine J_goto (tgt := 10) hX dX12_foldStep_40 (by decide) ?_
      exact J_sub [2, 3, 1, 0] rfl (hrec y6 (x3 + (1 : Int32)) m h)
    refine J_if_eq (tgt := 34) hX dX12_foldStep_25 (by decide) (fun c4 => ?_) (fun c4 => ?_)
    · refine J_iconst (v := (0 : Int32)) hX dX12_foldStep_34 (by decide) ?_
      exact J_sub [0, 1, 3] rfl (hj7 _ (if_pos c4).symm)
    · refine J_iconst (v := (1 : Int32)) hX dX12_foldStep_28 (by decide) ?_
      refine J_iload_n hX dX12_foldStep_29 rfl 3 rfl ?_
      refine J_ishl hX dX12_foldStep_30 ?_
      refine J_goto (tgt := 35) hX dX12_foldStep_31 (by decide) ?_
      exact J_sub [0, 1, 3] rfl (hj7 _ (if_neg c4).symm)
set_option maxRecDepth 100000 in
theorem t_X12_foldStep_l10 {X : XT} {ad : Nat → Nat} {K : Int32 → Mm → Prop} (hX : Cx X cX12_foldStep 9 RX12 (rmN 5 114)) (hR : Rx X (some .int) (kI ad K) (0, 0)) {k43 : Int32 → Mm → Prop} (x1 : Int32) (hk43 : ∀ (z2 : Int32) (m : Mm), k43 z2 m → J X (0, 0) 43 [(0, .ref (ad 426)), (1, .int x1), (2, .int z2)] [] (fl ad m)) : ∀ (n : Nat) (x2 : Int32) (x3 : Int32) (m : Mm), wp_X12_foldStep_l10 k43 K x1 n x2 x3 m → J X (0, 0) 10 [(0, .ref (ad 426)), (1, .int x1), (2, .int x2), (3, .int x3)] [] (fl ad m) := by
  intro n
  induction n with
  | zero => intro x2 x3 m h; exact h.elim
  | succ n ih => intro x2 x3 m h; exact tb_X12_foldStep_l10 hX hR x1 ih hk43 x2 x3 m h
set_option maxRecDepth 100000 in
theorem t_X12_foldStep_j158 {X : XT} {ad : Nat → Nat} {K : Int32 → Mm → Prop} (hX : Cx X cX12_foldStep 9 RX12 (rmN 5 114)) (hR : Rx X (some .int) (kI ad K) (0, 0)) {k79 : Int32 → Mm → Prop} (x1 : Int32) (x2 : Int32) (x3 : Int32) (x4 : Int32) (s1 : Int32) (s2 : Int32) (hk79 : ∀ (z4 : Int32) (m : Mm), k79 z4 m → J X (0, 0) 79 [(0, .ref (ad 426)), (1, .int x1), (2, .int x2), (3, .int x3), (4, .int z4)] [] (fl ad m)) (m : Mm) (h : wp_X12_foldStep_j158 k79 K x1 x2 x3 x4 s1 s2 m) : J X (0, 0) 158 [(0, .ref (ad 426)), (1, .int x1), (2, .int x2), (3, .int x3), (4, .int x4)] [.int s2, .int s1, .ref (ad 449)] (fl ad m) := by
  unfold wp_X12_foldStep_j158 at h
  obtain ⟨b23, h⟩ := h
  obtain ⟨b24, h⟩ := h
  refine J_zast (j := s1.toNatClampNeg) hX dX12_foldStep_158 ka_449 le_449 b23 b24 rfl ?_
  refine J_nmM (fun m25 e_m25 => ?_)
  replace h := h m25 e_m25
  refine J_iinc (x := (x4 + (1 : Int32))) (lv2 := [(4, .int (x4 + (1 : Int32))), (0, .ref (ad 426)), (1, .int x1), (2, .int x2), (3, .int x3)]) hX dX12_foldStep_159 4 rfl rfl (Nat.le_of_ble_eq_true rfl) rfl ?_
  refine J_goto (tgt := 79) hX dX12_foldStep_162 (by decide) ?_
  exact J_sub [1, 2, 3, 4, 0] rfl (hk79 (x4 + (1 : Int32)) m25 h)
set_option maxRecDepth 100000 in
theorem t_X12_foldStep_j153 {X : XT} {ad : Nat → Nat} {K : Int32 → Mm → Prop} (hX : Cx X cX12_foldStep 9 RX12 (rmN 5 114)) (hR : Rx X (some .int) (kI ad K) (0, 0)) {k79 : Int32 → Mm → Prop} (x1 : Int32) (x2 : Int32) (x3 : Int32) (x4 : Int32) (s1 : Int32) (hk79 : ∀ (z4 : Int32) (m : Mm), k79 z4 m → J X (0, 0) 79 [(0, .ref (ad 426)), (1, .int x1), (2, .int x2), (3, .int x3), (4, .int z4)] [] (fl ad m)) (m : Mm) (h : wp_X12_foldStep_j153 k79 K x1 x2 x3 x4 s1 m) : J X (0, 0) 153 [(0, .ref (ad 426)), (1, .int x1), (2, .int x2), (3, .int x3), (4, .int x4)] [.int s1, .ref (ad 449)] (fl ad m) := by
  unfold wp_X12_foldStep_j153 at h
  refine J_iconst (v := (1 : Int32)) hX dX12_foldStep_153 (by decide) ?_
  refine J_goto (tgt := 158) hX dX12_foldStep_154 (by decide) ?_
  exact J_sub [0, 1, 2, 3, 4] rfl (t_X12_foldStep_j158 hX hR x1 x2 x3 x4 s1 (1 : Int32) hk79 m h)
set_option maxRecDepth 100000 in
theorem t_X12_foldStep_j157 {X : XT} {ad : Nat → Nat} {K : Int32 → Mm → Prop} (hX : Cx X cX12_foldStep 9 RX12 (rmN 5 114)) (hR : Rx X (some .int) (kI ad K) (0, 0)) {k79 : Int32 → Mm → Prop} (x1 : Int32) (x2 : Int32) (x3 : Int32) (x4 : Int32) (s1 : Int32) (hk79 : ∀ (z4 : Int32) (m : Mm), k79 z4 m → J X (0, 0) 79 [(0, .ref (ad 426)), (1, .int x1), (2, .int x2), (3, .int x3), (4, .int z4)] [] (fl ad m)) (m : Mm) (h : wp_X12_foldStep_j157 k79 K x1 x2 x3 x4 s1 m) : J X (0, 0) 157 [(0, .ref (ad 426)), (1, .int x1), (2, .int x2), (3, .int x3), (4, .int x4)] [.int s1, .ref (ad 449)] (fl ad m) := by
  unfold wp_X12_foldStep_j157 at h
  refine J_iconst (v := (0 : Int32)) hX dX12_foldStep_157 (by decide) ?_
  exact J_sub [0, 1, 2, 3, 4] rfl (t_X12_foldStep_j158 hX hR x1 x2 x3 x4 s1 (0 : Int32) hk79 m h)
set_option maxRecDepth 100000 in
theorem tb_X12_foldStep_l79 {X : XT} {ad : Nat → Nat} {K : Int32 → Mm → Prop} (hX : Cx X cX12_foldStep 9 RX12 (rmN 5 114)) (hR : Rx X (some .int) (kI ad K) (0, 0)) {rec : Int32 → Mm → Prop} {k56 : Int32 → Mm → Prop} (x1 : Int32) (x2 : Int32) (x3 : Int32) (hrec : ∀ (x4 : Int32) (m : Mm), rec x4 m → J X (0, 0) 79 [(0, .ref (ad 426)), (1, .int x1), (2, .int x2), (3, .int x3), (4, .int x4)] [] (fl ad m)) (hk56 : ∀ (z3 : Int32) (m : Mm), k56 z3 m → J X (0, 0) 56 [(0, .ref (ad 426)), (1, .int x1), (2, .int x2), (3, .int z3)] [] (fl ad m)) (x4 : Int32) (m : Mm) (h : wb_X12_foldStep_l79 rec k56 K x1 x2 x3 x4 m) : J X (0, 0) 79 [(0, .ref (ad 426)), (1, .int x1), (2, .int x2), (3, .int x3), (4, .int x4)] [] (fl ad m) := by
  unfold wb_X12_foldStep_l79 at h
  refine J_iload hX dX12_foldStep_79 4 rfl ?_
  refine J_aload_n hX dX12_foldStep_81 rfl 0 rfl ?_
  refine J_callV hX km_X12_many kl_RX12_83 dX12_foldStep_82 ka_426 (by decide) [] ⟨Nat.le_of_ble_eq_true rfl, Nat.le_of_ble_eq_true rfl⟩ rfl rfl (Nat.le_of_ble_eq_true rfl) (c_X12_many m) (fun v w2 hk => ?_)
  obtain ⟨rfl, rfl⟩ := hk
  show J X (0, 0) 85 [(0, .ref (ad 426)), (1, .int x1), (2, .int x2), (3, .int x3), (4, .int x4)] [.int (v_X12_many m), .int x4] (fl ad m)
  refine J_icmp_ge (tgt := 165) hX dX12_foldStep_85 (by decide) (fun c18 => ?_) (fun c18 => ?_)
  · replace h := Eq.mp (if_pos c18) h
    refine J_iinc (x := (x3 + (-1 : Int32))) (lv2 := [(3, .int (x3 + (-1 : Int32))), (0, .ref (ad 426)), (1, .int x1), (2, .int x2), (4, .int x4)]) hX dX12_foldStep_165 3 rfl rfl (Nat.le_of_ble_eq_true rfl) rfl ?_
    refine J_goto (tgt := 56) hX dX12_foldStep_168 (by decide) ?_
    exact J_sub [1, 2, 3, 0] rfl (hk56 (x3 + (-1 : Int32)) m h)
  · replace h := Eq.mp (if_neg c18) h
    refine J_iload_n hX dX12_foldStep_88 rfl 3 rfl ?_
    refine J_iload_n hX dX12_foldStep_89 rfl 2 rfl ?_
    refine J_iconst (v := (-1 : Int32)) hX dX12_foldStep_90 (by decide) ?_
    refine J_ixor hX dX12_foldStep_91 ?_
    refine J_iand hX dX12_foldStep_92 ?_
    refine J_if_ne (tgt := 165) hX dX12_foldStep_93 (by decide) (fun c19 => ?_) (fun c19 => ?_)
    · replace h := Eq.mp (if_neg c19) h
      refine J_iinc (x := (x3 + (-1 : Int32))) (lv2 := [(3, .int (x3 + (-1 : Int32))), (0, .ref (ad 426)), (1, .int x1), (2, .int x2), (4, .int x4)]) hX dX12_foldStep_165 3 rfl rfl (Nat.le_of_ble_eq_true rfl) rfl ?_
      refine J_goto (tgt := 56) hX dX12_foldStep_168 (by decide) ?_
      exact J_sub [1, 2, 3, 0] rfl (hk56 (x3 + (-1 : Int32)) m h)
    · replace h := Eq.mp (if_pos c19) h
      refine J_iload_n hX dX12_foldStep_96 rfl 3 rfl ?_
      refine J_iconst (v := (1 : Int32)) hX dX12_foldStep_97 (by decide) ?_
      refine J_iload hX dX12_foldStep_98 4 rfl ?_
      refine J_ishl hX dX12_foldStep_100 ?_
      refine J_ior hX dX12_foldStep_101 ?_
      refine J_nmI (fun y20 e_y20 => ?_)
      replace h := h y20 e_y20
      refine J_istore (lv2 := [(5, .int y20), (0, .ref (ad 426)), (1, .int x1), (2, .int x2), (3, .int x3), (4, .int x4)]) hX dX12_foldStep_102 (Nat.le_of_ble_eq_true rfl) rfl ?_
      refine J_aload_n hX dX12_foldStep_104 rfl 1 rfl ?_
      refine J_getR hX kf_RX12_77 dX12_foldStep_105 ka_426 (by decide) rfl rh_426_29 ?_
      refine J_iload_n hX dX12_foldStep_108 rfl 4 rfl ?_
      refine J_aload_n hX dX12_foldStep_109 rfl 1 rfl ?_
      refine J_getR hX kf_RX12_77 dX12_foldStep_110 ka_426 (by decide) rfl rh_426_29 ?_
      refine J_iload_n hX dX12_foldStep_113 rfl 4 rfl ?_
      obtain ⟨b21, h⟩ := h
      refine J_zald (j := x3.toNatClampNeg) hX dX12_foldStep_114 ka_449 le_449 b21 rfl ?_
      refine J_if_ne (tgt := 153) hX dX12_foldStep_115 (by decide) (fun c22 => ?_) (fun c22 => ?_)
      · replace h := Eq.mp (if_neg c22) h
        exact J_sub [1, 2, 3, 4, 5] rfl (t_X12_foldStep_j153 hX hR x1 x2 x3 x4 x3 hrec m h)
      · replace h := Eq.mp (if_pos c22) h
        refine J_iload_n hX dX12_foldStep_118 rfl 3 rfl ?_
        refine J_iload hX dX12_foldStep_119 5 rfl ?_
        refine J_ishr hX dX12_foldStep_121 ?_
        refine J_iconst (v := (1 : Int32)) hX dX12_foldStep_122 (by decide) ?_
        refine J_iand hX dX12_foldStep_123 ?_
        refine J_iconst (v := (1 : Int32)) hX dX12_foldStep_124 (by decide) ?_
        refine J_icmp_ne (tgt := 157) hX dX12_foldStep_125 (by decide) (fun c26 => ?_) (fun c26 => ?_)
        · replace h := Eq.mp (if_neg c26) h
          exact J_sub [1, 2, 3, 4, 5] rfl (t_X12_foldStep_j157 hX hR x1 x2 x3 x4 x3 hrec m h)
        · replace h := Eq.mp (if_pos c26) h
          refine J_iload hX dX12_foldStep_128 0 rfl ?_
          refine J_iload_n hX dX12_foldStep_130 rfl 4 rfl ?_
          refine J_icmp_eq (tgt := 157) hX dX12_foldStep_131 (by decide) (fun c27 => ?_) (fun c27 => ?_)
          · replace h := Eq.mp (if_pos c27) h
            exact J_sub [1, 2, 3, 4, 5] rfl (t_X12_foldStep_j157 hX hR x1 x2 x3 x4 x3 hrec m h)
          · replace h := Eq.mp (if_neg c27) h
            refine J_aload_n hX dX12_foldStep_134 rfl 1 rfl ?_
            refine J_getR hX kf_RX12_77 dX12_foldStep_135 ka_426 (by decide) rfl rh_426_29 ?_
            refine J_iload hX dX12_foldStep_138 0 rfl ?_
            obtain ⟨b28, h⟩ := h
            refine J_zald (j := y20.toNatClampNeg) hX dX12_foldStep_140 ka_449 le_449 b28 rfl ?_
            refine J_if_eq (tgt := 157) hX dX12_foldStep_141 (by decide) (fun c29 => ?_) (fun c29 => ?_)
            · replace h := Eq.mp (if_pos c29) h
              exact J_sub [1, 2, 3, 4, 5] rfl (t_X12_foldStep_j157 hX hR x1 x2 x3 x4 x3 hrec m h)
            · replace h := Eq.mp (if_neg c29) h
              refine J_aload_n hX dX12_foldStep_144 rfl 1 rfl ?_
              refine J_iload hX dX12_foldStep_145 0 rfl ?_
              refine J_callV hX km_X12_crossingsBy kl_RX12_401 dX12_foldStep_147 ka_426 (by decide) [.int y20] ⟨Nat.le_of_ble_eq_true rfl, Nat.le_of_ble_eq_true rfl⟩ rfl rfl (Nat.le_of_ble_eq_true rfl) (c_X12_crossingsBy y20 m _ h) (fun v w2 hk => ?_)
              obtain ⟨y31, m30, rfl, rfl, h⟩ := hk
              show J X (0, 0) 150 [(5, .int y20), (0, .ref (ad 426)), (1, .int x1), (2, .int x2), (3, .int x3), (4, .int x4)] [.int y31, .int x3, .ref (ad 449)] (fl ad m30)
              have hj35 : ∀ y33 : Int32, y33 = (if y31 = (0 : Int32) then (1 : Int32) else (0 : Int32)) → J X (0, 0) 158 [(0, .ref (ad 426)), (1, .int x1), (2, .int x2), (3, .int x3), (4, .int x4)] [.int y33, .int x3, .ref (ad 449)] (fl ad m30) := by
                intro y33 e_y33
                replace h := h y33 e_y33
                refine J_zast (j := x3.toNatClampNeg) hX dX12_foldStep_158 ka_449 le_449 b21 (by rw [e_y33]; exact (bo_ite bo_1 bo_0)) rfl ?_
                refine J_nmM (fun m34 e_m34 => ?_)
                replace h := h m34 e_m34
                refine J_iinc (x := (x4 + (1 : Int32))) (lv2 := [(4, .int (x4 + (1 : Int32))), (0, .ref (ad 426)), (1, .int x1), (2, .int x2), (3, .int x3)]) hX dX12_foldStep_159 4 rfl rfl (Nat.le_of_ble_eq_true rfl) rfl ?_
                refine J_goto (tgt := 79) hX dX12_foldStep_162 (by decide) ?_
                exact J_sub [1, 2, 3, 4, 0] rfl (hrec (x4 + (1 : Int32)) m34 h)
              refine J_if_ne (tgt := 157) hX dX12_foldStep_150 (by decide) (fun c32 => ?_) (fun c32 => ?_)
              · refine J_iconst (v := (0 : Int32)) hX dX12_foldStep_157 (by decide) ?_
                exact J_sub [1, 2, 3, 4, 5] rfl (hj35 _ (if_neg c32).symm)
              · refine J_iconst (v := (1 : Int32)) hX dX12_foldStep_153 (by decide) ?_
                refine J_goto (tgt := 158) hX dX12_foldStep_154 (by decide) ?_
                exact J_sub [1, 2, 3, 4, 5] rfl (hj35 _ (if_pos c32).symm)
set_option maxRecDepth 100000 in
theorem t_X12_foldStep_l79 {X : XT} {ad : Nat → Nat} {K : Int32 → Mm → Prop} (hX : Cx X cX12_foldStep 9 RX12 (rmN 5 114)) (hR : Rx X (some .int) (kI ad K) (0, 0)) {k56 : Int32 → Mm → Prop} (x1 : Int32) (x2 : Int32) (x3 : Int32) (hk56 : ∀ (z3 : Int32) (m : Mm), k56 z3 m → J X (0, 0) 56 [(0, .ref (ad 426)), (1, .int x1), (2, .int x2), (3, .int z3)] [] (fl ad m)) : ∀ (n : Nat) (x4 : Int32) (m : Mm), wp_X12_foldStep_l79 k56 K x1 x2 x3 n x4 m → J X (0, 0) 79 [(0, .ref (ad 426)), (1, .int x1), (2, .int x2), (3, .int x3), (4, .int x4)] [] (fl ad m) := by
  intro n
  induction n with
  | zero => intro x4 m h; exact h.elim
  | succ n ih => intro x4 m h; exact tb_X12_foldStep_l79 hX hR x1 x2 x3 ih hk56 x4 m h
set_option maxRecDepth 100000 in
theorem tb_X12_foldStep_l56 {X : XT} {ad : Nat → Nat} {K : Int32 → Mm → Prop} (hX : Cx X cX12_foldStep 9 RX12 (rmN 5 114)) (hR : Rx X (some .int) (kI ad K) (0, 0)) {rec : Int32 → Mm → Prop} {k171 : Mm → Prop} (x1 : Int32) (x2 : Int32) (hrec : ∀ (x3 : Int32) (m : Mm), rec x3 m → J X (0, 0) 56 [(0, .ref (ad 426)), (1, .int x1), (2, .int x2), (3, .int x3)] [] (fl ad m)) (hk171 : ∀ (m : Mm), k171 m → J X (0, 0) 171 [(0, .ref (ad 426)), (1, .int x1), (2, .int x2)] [] (fl ad m)) (x3 : Int32) (m : Mm) (h : wb_X12_foldStep_l56 rec k171 K x1 x2 x3 m) : J X (0, 0) 56 [(0, .ref (ad 426)), (1, .int x1), (2, .int x2), (3, .int x3)] [] (fl ad m) := by
  unfold wb_X12_foldStep_l56 at h
  refine J_iload_n hX dX12_foldStep_56 rfl 3 rfl ?_
  refine J_if_lt (tgt := 171) hX dX12_foldStep_57 (by decide) (fun c13 => ?_) (fun c13 => ?_)
  · replace h := Eq.mp (if_pos c13) h
    exact J_sub [0, 1, 2] rfl (hk171 m h)
  · replace h := Eq.mp (if_neg c13) h
    refine J_aload_n hX dX12_foldStep_60 rfl 0 rfl ?_
    refine J_getR hX kf_RX12_77 dX12_foldStep_61 ka_426 (by decide) rfl rh_426_29 ?_
    refine J_iload_n hX dX12_foldStep_64 rfl 3 rfl ?_
    refine J_iload_n hX dX12_foldStep_65 rfl 3 rfl ?_
    refine J_iload_n hX dX12_foldStep_66 rfl 2 rfl ?_
    have hj36 : ∀ y15 : Int32, y15 = (if x3 = x2 then (1 : Int32) else (0 : Int32)) → J X (0, 0) 75 [(0, .ref (ad 426)), (1, .int x1), (2, .int x2), (3, .int x3)] [.int y15, .int x3, .ref (ad 449)] (fl ad m) := by
      intro y15 e_y15
      replace h := h y15 e_y15
      obtain ⟨b16, h⟩ := h
      refine J_zast (j := x3.toNatClampNeg) hX dX12_foldStep_75 ka_449 le_449 b16 (by rw [e_y15]; exact (bo_ite bo_1 bo_0)) rfl ?_
      refine J_nmM (fun m17 e_m17 => ?_)
      replace h := h m17 e_m17
      refine J_iconst (v := (1 : Int32)) hX dX12_foldStep_76 (by decide) ?_
      refine J_istore (lv2 := [(4, .int (1 : Int32)), (0, .ref (ad 426)), (1, .int x1), (2, .int x2), (3, .int x3)]) hX dX12_foldStep_77 (Nat.le_of_ble_eq_true rfl) rfl ?_
      refine J_sub [1, 2, 3, 4, 0] rfl (t_X12_foldStep_l79 hX hR x1 x2 x3 hrec FU (1 : Int32) m17 h)
    refine J_icmp_ne (tgt := 74) hX dX12_foldStep_67 (by decide) (fun c14 => ?_) (fun c14 => ?_)
    · refine J_iconst (v := (0 : Int32)) hX dX12_foldStep_74 (by decide) ?_
      exact J_sub [0, 1, 2, 3] rfl (hj36 _ (if_neg c14).symm)
    · refine J_iconst (v := (1 : Int32)) hX dX12_foldStep_70 (by decide) ?_
      refine J_goto (tgt := 75) hX dX12_foldStep_71 (by decide) ?_
      exact J_sub [0, 1, 2, 3] rfl (hj36 _ (if_pos c14).symm)
set_option maxRecDepth 100000 in
theorem t_X12_foldStep_l56 {X : XT} {ad : Nat → Nat} {K : Int32 → Mm → Prop} (hX : Cx X cX12_foldStep 9 RX12 (rmN 5 114)) (hR : Rx X (some .int) (kI ad K) (0, 0)) {k171 : Mm → Prop} (x1 : Int32) (x2 : Int32) (hk171 : ∀ (m : Mm), k171 m → J X (0, 0) 171 [(0, .ref (ad 426)), (1, .int x1), (2, .int x2)] [] (fl ad m)) : ∀ (n : Nat) (x3 : Int32) (m : Mm), wp_X12_foldStep_l56 k171 K x1 x2 n x3 m → J X (0, 0) 56 [(0, .ref (ad 426)), (1, .int x1), (2, .int x2), (3, .int x3)] [] (fl ad m) := by
  intro n
  induction n with
  | zero => intro x3 m h; exact h.elim
  | succ n ih => intro x3 m h; exact tb_X12_foldStep_l56 hX hR x1 x2 ih hk171 x3 m h
set_option maxRecDepth 100000 in
theorem t_X12_foldStep_j251 {X : XT} {ad : Nat → Nat} {K : Int32 → Mm → Prop} (hX : Cx X cX12_foldStep 9 RX12 (rmN 5 114)) (hR : Rx X (some .int) (kI ad K) (0, 0)) {k198 : Int32 → Int32 → Mm → Prop} (x1 : Int32) (x2 : Int32) (x3 : Int32) (x4 : Int32) (x5 : Int32) (x6 : Int32) (s0 : Int32) (hk198 : ∀ (z4 : Int32) (z6 : Int32) (m : Mm), k198 z4 z6 m → J X (0, 0) 198 [(0, .ref (ad 426)), (1, .int x1), (2, .int x2), (3, .int x3), (4, .int z4), (5, .int x5), (6, .int z6)] [] (fl ad m)) (m : Mm) (h : wp_X12_foldStep_j251 k198 K x1 x2 x3 x4 x5 x6 s0 m) : J X (0, 0) 251 [(0, .ref (ad 426)), (1, .int x1), (2, .int x2), (3, .int x3), (4, .int x4), (5, .int x5), (6, .int x6)] [.int s0] (fl ad m) := by
  unfold wp_X12_foldStep_j251 at h
  refine J_istore (lv2 := [(8, .int s0), (0, .ref (ad 426)), (1, .int x1), (2, .int x2), (3, .int x3), (4, .int x4), (5, .int x5), (6, .int x6)]) hX dX12_foldStep_251 (Nat.le_of_ble_eq_true rfl) rfl ?_
  refine J_aload_n hX dX12_foldStep_253 rfl 1 rfl ?_
  refine J_getR hX kf_RX12_77 dX12_foldStep_254 ka_426 (by decide) rfl rh_426_29 ?_
  refine J_iload_n hX dX12_foldStep_257 rfl 4 rfl ?_
  obtain ⟨b43, h⟩ := h
  refine J_zald (j := x3.toNatClampNeg) hX dX12_foldStep_258 ka_449 le_449 b43 rfl ?_
  have hj47 : ∀ y46 : Int32, y46 = (if (m.1 449 x3.toNatClampNeg) = (0 : Int32) then x4 else (if s0 = (0 : Int32) then x4 else x6)) → J X (0, 0) 274 [(0, .ref (ad 426)), (1, .int x1), (2, .int x2), (3, .int x3), (5, .int x5), (6, .int x6)] [.int y46] (fl ad m) := by
    intro y46 e_y46
    replace h := h y46 e_y46
    refine J_istore (lv2 := [(4, .int y46), (0, .ref (ad 426)), (1, .int x1), (2, .int x2), (3, .int x3), (5, .int x5), (6, .int x6)]) hX dX12_foldStep_274 (Nat.le_of_ble_eq_true rfl) rfl ?_
    refine J_iinc (x := (x6 + (-1 : Int32))) (lv2 := [(6, .int (x6 + (-1 : Int32))), (4, .int y46), (0, .ref (ad 426)), (1, .int x1), (2, .int x2), (3, .int x3), (5, .int x5)]) hX dX12_foldStep_276 6 rfl rfl (Nat.le_of_ble_eq_true rfl) rfl ?_
    refine J_goto (tgt := 198) hX dX12_foldStep_279 (by decide) ?_
    exact J_sub [2, 3, 4, 5, 1, 6, 0] rfl (hk198 y46 (x6 + (-1 : Int32)) m h)
  refine J_if_eq (tgt := 272) hX dX12_foldStep_259 (by decide) (fun c44 => ?_) (fun c44 => ?_)
  · refine J_iload hX dX12_foldStep_272 5 rfl ?_
    exact J_sub [1, 2, 3, 4, 6, 7] rfl (hj47 _ (if_pos c44).symm)
  · refine J_iload hX dX12_foldStep_262 0 rfl ?_
    refine J_if_eq (tgt := 272) hX dX12_foldStep_264 (by decide) (fun c45 => ?_) (fun c45 => ?_)
    · refine J_iload hX dX12_foldStep_272 5 rfl ?_
      exact J_sub [1, 2, 3, 4, 6, 7] rfl (hj47 _ ((if_neg c44).trans (if_pos c45)).symm)
    · refine J_iload hX dX12_foldStep_267 7 rfl ?_
      refine J_goto (tgt := 274) hX dX12_foldStep_269 (by decide) ?_
      exact J_sub [1, 2, 3, 4, 6, 7] rfl (hj47 _ ((if_neg c44).trans (if_neg c45)).symm)
set_option maxRecDepth 100000 in
theorem t_X12_foldStep_j250 {X : XT} {ad : Nat → Nat} {K : Int32 → Mm → Prop} (hX : Cx X cX12_foldStep 9 RX12 (rmN 5 114)) (hR : Rx X (some .int) (kI ad K) (0, 0)) {k198 : Int32 → Int32 → Mm → Prop} (x1 : Int32) (x2 : Int32) (x3 : Int32) (x4 : Int32) (x5 : Int32) (x6 : Int32) (hk198 : ∀ (z4 : Int32) (z6 : Int32) (m : Mm), k198 z4 z6 m → J X (0, 0) 198 [(0, .ref (ad 426)), (1, .int x1), (2, .int x2), (3, .int x3), (4, .int z4), (5, .int x5), (6, .int z6)] [] (fl ad m)) (m : Mm) (h : wp_X12_foldStep_j250 k198 K x1 x2 x3 x4 x5 x6 m) : J X (0, 0) 250 [(0, .ref (ad 426)), (1, .int x1), (2, .int x2), (3, .int x3), (4, .int x4), (5, .int x5), (6, .int x6)] [] (fl ad m) := by
  unfold wp_X12_foldStep_j250 at h
  refine J_iconst (v := (0 : Int32)) hX dX12_foldStep_250 (by decide) ?_
  exact J_sub [0, 1, 2, 3, 4, 5, 6] rfl (t_X12_foldStep_j251 hX hR x1 x2 x3 x4 x5 x6 (0 : Int32) hk198 m h)
set_option maxRecDepth 100000 in
theorem tb_X12_foldStep_l198 {X : XT} {ad : Nat → Nat} {K : Int32 → Mm → Prop} (hX : Cx X cX12_foldStep 9 RX12 (rmN 5 114)) (hR : Rx X (some .int) (kI ad K) (0, 0)) {rec : Int32 → Int32 → Mm → Prop} {k282 : Int32 → Mm → Prop} (x1 : Int32) (x2 : Int32) (x3 : Int32) (x5 : Int32) (hrec : ∀ (x4 : Int32) (x6 : Int32) (m : Mm), rec x4 x6 m → J X (0, 0) 198 [(0, .ref (ad 426)), (1, .int x1), (2, .int x2), (3, .int x3), (4, .int x4), (5, .int x5), (6, .int x6)] [] (fl ad m)) (hk282 : ∀ (z4 : Int32) (m : Mm), k282 z4 m → J X (0, 0) 282 [(0, .ref (ad 426)), (1, .int x1), (2, .int x2), (3, .int x3), (4, .int z4), (5, .int x5)] [] (fl ad m)) (x4 : Int32) (x6 : Int32) (m : Mm) (h : wb_X12_foldStep_l198 rec k282 K x1 x2 x3 x5 x4 x6 m) : J X (0, 0) 198 [(0, .ref (ad 426)), (1, .int x1), (2, .int x2), (3, .int x3), (4, .int x4), (5, .int x5), (6, .int x6)] [] (fl ad m) := by
  unfold wb_X12_foldStep_l198 at h
  refine J_iload hX dX12_foldStep_198 6 rfl ?_
  refine J_if_le (tgt := 282) hX dX12_foldStep_200 (by decide) (fun c40 => ?_) (fun c40 => ?_)
  · replace h := Eq.mp (if_pos c40) h
    exact J_sub [0, 1, 2, 3, 4, 5] rfl (hk282 x4 m h)
  · replace h := Eq.mp (if_neg c40) h
    refine J_iload_n hX dX12_foldStep_203 rfl 3 rfl ?_
    refine J_iconst (v := (1 : Int32)) hX dX12_foldStep_204 (by decide) ?_
    refine J_iload hX dX12_foldStep_205 6 rfl ?_
    refine J_ishl hX dX12_foldStep_207 ?_
    refine J_ior hX dX12_foldStep_208 ?_
    refine J_nmI (fun y41 e_y41 => ?_)
    replace h := h y41 e_y41
    refine J_istore (lv2 := [(7, .int y41), (0, .ref (ad 426)), (1, .int x1), (2, .int x2), (3, .int x3), (4, .int x4), (5, .int x5), (6, .int x6)]) hX dX12_foldStep_209 (Nat.le_of_ble_eq_true rfl) rfl ?_
    refine J_iload_n hX dX12_foldStep_211 rfl 3 rfl ?_
    refine J_iload hX dX12_foldStep_212 7 rfl ?_
    refine J_ishr hX dX12_foldStep_214 ?_
    refine J_iconst (v := (1 : Int32)) hX dX12_foldStep_215 (by decide) ?_
    refine J_iand hX dX12_foldStep_216 ?_
    refine J_iconst (v := (1 : Int32)) hX dX12_foldStep_217 (by decide) ?_
    refine J_icmp_ne (tgt := 250) hX dX12_foldStep_218 (by decide) (fun c42 => ?_) (fun c42 => ?_)
    · replace h := Eq.mp (if_neg c42) h
      exact J_sub [1, 2, 3, 4, 5, 6, 7] rfl (t_X12_foldStep_j250 hX hR x1 x2 x3 x4 x5 x6 hrec m h)
    · replace h := Eq.mp (if_pos c42) h
      refine J_iload hX dX12_foldStep_221 0 rfl ?_
      refine J_iload_n hX dX12_foldStep_223 rfl 4 rfl ?_
      refine J_icmp_eq (tgt := 250) hX dX12_foldStep_224 (by decide) (fun c48 => ?_) (fun c48 => ?_)
      · replace h := Eq.mp (if_pos c48) h
        exact J_sub [1, 2, 3, 4, 5, 6, 7] rfl (t_X12_foldStep_j250 hX hR x1 x2 x3 x4 x5 x6 hrec m h)
      · replace h := Eq.mp (if_neg c48) h
        refine J_aload_n hX dX12_foldStep_227 rfl 1 rfl ?_
        refine J_getR hX kf_RX12_77 dX12_foldStep_228 ka_426 (by decide) rfl rh_426_29 ?_
        refine J_iload hX dX12_foldStep_231 0 rfl ?_
        obtain ⟨b49, h⟩ := h
        refine J_zald (j := y41.toNatClampNeg) hX dX12_foldStep_233 ka_449 le_449 b49 rfl ?_
        refine J_if_eq (tgt := 250) hX dX12_foldStep_234 (by decide) (fun c50 => ?_) (fun c50 => ?_)
        · replace h := Eq.mp (if_pos c50) h
          exact J_sub [1, 2, 3, 4, 5, 6, 7] rfl (t_X12_foldStep_j250 hX hR x1 x2 x3 x4 x5 x6 hrec m h)
        · replace h := Eq.mp (if_neg c50) h
          refine J_aload_n hX dX12_foldStep_237 rfl 1 rfl ?_
          refine J_iload hX dX12_foldStep_238 0 rfl ?_
          refine J_callV hX km_X12_crossingsBy kl_RX12_401 dX12_foldStep_240 ka_426 (by decide) [.int y41] ⟨Nat.le_of_ble_eq_true rfl, Nat.le_of_ble_eq_true rfl⟩ rfl rfl (Nat.le_of_ble_eq_true rfl) (c_X12_crossingsBy y41 m _ h) (fun v w2 hk => ?_)
          obtain ⟨y52, m51, rfl, rfl, h⟩ := hk
          show J X (0, 0) 243 [(7, .int y41), (0, .ref (ad 426)), (1, .int x1), (2, .int x2), (3, .int x3), (4, .int x4), (5, .int x5), (6, .int x6)] [.int y52] (fl ad m51)
          have hj60 : ∀ y54 : Int32, y54 = (if y52 = (0 : Int32) then (1 : Int32) else (0 : Int32)) → J X (0, 0) 251 [(0, .ref (ad 426)), (1, .int x1), (2, .int x2), (3, .int x3), (4, .int x4), (5, .int x5), (6, .int x6)] [.int y54] (fl ad m51) := by
            intro y54 e_y54
            replace h := h y54 e_y54
            refine J_istore (lv2 := [(8, .int y54), (0, .ref (ad 426)), (1, .int x1), (2, .int x2), (3, .int x3), (4, .int x4), (5, .int x5), (6, .int x6)]) hX dX12_foldStep_251 (Nat.le_of_ble_eq_true rfl) rfl ?_
            refine J_aload_n hX dX12_foldStep_253 rfl 1 rfl ?_
            refine J_getR hX kf_RX12_77 dX12_foldStep_254 ka_426 (by decide) rfl rh_426_29 ?_
            refine J_iload_n hX dX12_foldStep_257 rfl 4 rfl ?_
            obtain ⟨b55, h⟩ := h
            refine J_zald (j := x3.toNatClampNeg) hX dX12_foldStep_258 ka_449 le_449 b55 rfl ?_
            have hj59 : ∀ y58 : Int32, y58 = (if (m51.1 449 x3.toNatClampNeg) = (0 : Int32) then x4 else (if y54 = (0 : Int32) then x4 else x6)) → J X (0, 0) 274 [(0, .ref (ad 426)), (1, .int x1), (2, .int x2), (3, .int x3), (5, .int x5), (6, .int x6)] [.int y58] (fl ad m51) := by
              intro y58 e_y58
              replace h := h y58 e_y58
              refine J_istore (lv2 := [(4, .int y58), (0, .ref (ad 426)), (1, .int x1), (2, .int x2), (3, .int x3), (5, .int x5), (6, .int x6)]) hX dX12_foldStep_274 (Nat.le_of_ble_eq_true rfl) rfl ?_
              refine J_iinc (x := (x6 + (-1 : Int32))) (lv2 := [(6, .int (x6 + (-1 : Int32))), (4, .int y58), (0, .ref (ad 426)), (1, .int x1), (2, .int x2), (3, .int x3), (5, .int x5)]) hX dX12_foldStep_276 6 rfl rfl (Nat.le_of_ble_eq_true rfl) rfl ?_
              refine J_goto (tgt := 198) hX dX12_foldStep_279 (by decide) ?_
              exact J_sub [2, 3, 4, 5, 1, 6, 0] rfl (hrec y58 (x6 + (-1 : Int32)) m51 h)
            refine J_if_eq (tgt := 272) hX dX12_foldStep_259 (by decide) (fun c56 => ?_) (fun c56 => ?_)
            · refine J_iload hX dX12_foldStep_272 5 rfl ?_
              exact J_sub [1, 2, 3, 4, 6, 7] rfl (hj59 _ (if_pos c56).symm)
            · refine J_iload hX dX12_foldStep_262 0 rfl ?_
              refine J_if_eq (tgt := 272) hX dX12_foldStep_264 (by decide) (fun c57 => ?_) (fun c57 => ?_)
              · refine J_iload hX dX12_foldStep_272 5 rfl ?_
                exact J_sub [1, 2, 3, 4, 6, 7] rfl (hj59 _ ((if_neg c56).trans (if_pos c57)).symm)
              · refine J_iload hX dX12_foldStep_267 7 rfl ?_
                refine J_goto (tgt := 274) hX dX12_foldStep_269 (by decide) ?_
                exact J_sub [1, 2, 3, 4, 6, 7] rfl (hj59 _ ((if_neg c56).trans (if_neg c57)).symm)
          refine J_if_ne (tgt := 250) hX dX12_foldStep_243 (by decide) (fun c53 => ?_) (fun c53 => ?_)
          · refine J_iconst (v := (0 : Int32)) hX dX12_foldStep_250 (by decide) ?_
            exact J_sub [1, 2, 3, 4, 5, 6, 7] rfl (hj60 _ (if_neg c53).symm)
          · refine J_iconst (v := (1 : Int32)) hX dX12_foldStep_246 (by decide) ?_
            refine J_goto (tgt := 251) hX dX12_foldStep_247 (by decide) ?_
            exact J_sub [1, 2, 3, 4, 5, 6, 7] rfl (hj60 _ (if_pos c53).symm)
set_option maxRecDepth 100000 in
theorem t_X12_foldStep_l198 {X : XT} {ad : Nat → Nat} {K : Int32 → Mm → Prop} (hX : Cx X cX12_foldStep 9 RX12 (rmN 5 114)) (hR : Rx X (some .int) (kI ad K) (0, 0)) {k282 : Int32 → Mm → Prop} (x1 : Int32) (x2 : Int32) (x3 : Int32) (x5 : Int32) (hk282 : ∀ (z4 : Int32) (m : Mm), k282 z4 m → J X (0, 0) 282 [(0, .ref (ad 426)), (1, .int x1), (2, .int x2), (3, .int x3), (4, .int z4), (5, .int x5)] [] (fl ad m)) : ∀ (n : Nat) (x4 : Int32) (x6 : Int32) (m : Mm), wp_X12_foldStep_l198 k282 K x1 x2 x3 x5 n x4 x6 m → J X (0, 0) 198 [(0, .ref (ad 426)), (1, .int x1), (2, .int x2), (3, .int x3), (4, .int x4), (5, .int x5), (6, .int x6)] [] (fl ad m) := by
  intro n
  induction n with
  | zero => intro x4 x6 m h; exact h.elim
  | succ n ih => intro x4 x6 m h; exact tb_X12_foldStep_l198 hX hR x1 x2 x3 x5 ih hk282 x4 x6 m h
set_option maxRecDepth 100000 in
theorem tb_X12_foldStep_l180 {X : XT} {ad : Nat → Nat} {K : Int32 → Mm → Prop} (hX : Cx X cX12_foldStep 9 RX12 (rmN 5 114)) (hR : Rx X (some .int) (kI ad K) (0, 0)) {rec : Int32 → Int32 → Int32 → Mm → Prop} (x1 : Int32) (x2 : Int32) (hrec : ∀ (x3 : Int32) (x4 : Int32) (x5 : Int32) (m : Mm), rec x3 x4 x5 m → J X (0, 0) 180 [(0, .ref (ad 426)), (1, .int x1), (2, .int x2), (3, .int x3), (4, .int x4), (5, .int x5)] [] (fl ad m)) (x3 : Int32) (x4 : Int32) (x5 : Int32) (m : Mm) (h : wb_X12_foldStep_l180 rec K x1 x2 x3 x4 x5 m) : J X (0, 0) 180 [(0, .ref (ad 426)), (1, .int x1), (2, .int x2), (3, .int x3), (4, .int x4), (5, .int x5)] [] (fl ad m) := by
  unfold wb_X12_foldStep_l180 at h
  refine J_iload hX dX12_foldStep_180 5 rfl ?_
  refine J_iload_n hX dX12_foldStep_182 rfl 1 rfl ?_
  refine J_icmp_gt (tgt := 305) hX dX12_foldStep_183 (by decide) (fun c38 => ?_) (fun c38 => ?_)
  · replace h := Eq.mp (if_pos c38) h
    refine J_iload hX dX12_foldStep_305 4 rfl ?_
    exact J_iret hX hR dX12_foldStep_307 ⟨_, _, rfl, rfl, h⟩
  · replace h := Eq.mp (if_neg c38) h
    refine J_bipush (v := (-9 : Int32)) hX dX12_foldStep_186 (by decide) ?_
    refine J_istore (lv2 := [(4, .int (-9 : Int32)), (0, .ref (ad 426)), (1, .int x1), (2, .int x2), (3, .int x3), (5, .int x5)]) hX dX12_foldStep_188 (Nat.le_of_ble_eq_true rfl) rfl ?_
    refine J_aload_n hX dX12_foldStep_190 rfl 1 rfl ?_
    refine J_callV hX km_X12_many kl_RX12_83 dX12_foldStep_191 ka_426 (by decide) [] ⟨Nat.le_of_ble_eq_true rfl, Nat.le_of_ble_eq_true rfl⟩ rfl rfl (Nat.le_of_ble_eq_true rfl) (c_X12_many m) (fun v w2 hk => ?_)
    obtain ⟨rfl, rfl⟩ := hk
    show J X (0, 0) 194 [(4, .int (-9 : Int32)), (0, .ref (ad 426)), (1, .int x1), (2, .int x2), (3, .int x3), (5, .int x5)] [.int (v_X12_many m)] (fl ad m)
    refine J_iconst (v := (1 : Int32)) hX dX12_foldStep_194 (by decide) ?_
    refine J_isub hX dX12_foldStep_195 ?_
    refine J_nmI (fun y39 e_y39 => ?_)
    replace h := h y39 e_y39
    refine J_istore (lv2 := [(6, .int y39), (4, .int (-9 : Int32)), (0, .ref (ad 426)), (1, .int x1), (2, .int x2), (3, .int x3), (5, .int x5)]) hX dX12_foldStep_196 (Nat.le_of_ble_eq_true rfl) rfl ?_
    refine J_sub [2, 3, 4, 5, 1, 6, 0] rfl (t_X12_foldStep_l198 hX hR x1 x2 x3 x5 (fun y61 m62 h => ?_) FU (-9 : Int32) y39 m h)
    refine J_iload hX dX12_foldStep_282 4 rfl ?_
    refine J_bipush (v := (-9 : Int32)) hX dX12_foldStep_284 (by decide) ?_
    refine J_icmp_ne (tgt := 292) hX dX12_foldStep_286 (by decide) (fun c63 => ?_) (fun c63 => ?_)
    · replace h := Eq.mp (if_neg c63) h
      refine J_iload_n hX dX12_foldStep_292 rfl 3 rfl ?_
      refine J_iconst (v := (1 : Int32)) hX dX12_foldStep_293 (by decide) ?_
      refine J_iload hX dX12_foldStep_294 4 rfl ?_
      refine J_ishl hX dX12_foldStep_296 ?_
      refine J_ior hX dX12_foldStep_297 ?_
      refine J_nmI (fun y64 e_y64 => ?_)
      replace h := h y64 e_y64
      refine J_istore_n (lv2 := [(3, .int y64), (0, .ref (ad 426)), (1, .int x1), (2, .int x2), (4, .int y61), (5, .int x5)]) hX dX12_foldStep_298 rfl (Nat.le_of_ble_eq_true rfl) rfl ?_
      refine J_iinc (x := (x5 + (1 : Int32))) (lv2 := [(5, .int (x5 + (1 : Int32))), (3, .int y64), (0, .ref (ad 426)), (1, .int x1), (2, .int x2), (4, .int y61)]) hX dX12_foldStep_299 5 rfl rfl (Nat.le_of_ble_eq_true rfl) rfl ?_
      refine J_goto (tgt := 180) hX dX12_foldStep_302 (by decide) ?_
      exact J_sub [2, 3, 4, 1, 5, 0] rfl (hrec y64 y61 (x5 + (1 : Int32)) m62 h)
    · replace h := Eq.mp (if_pos c63) h
      refine J_bipush (v := (-9 : Int32)) hX dX12_foldStep_289 (by decide) ?_
      exact J_iret hX hR dX12_foldStep_291 ⟨_, _, rfl, rfl, h⟩
set_option maxRecDepth 100000 in
theorem t_X12_foldStep_l180 {X : XT} {ad : Nat → Nat} {K : Int32 → Mm → Prop} (hX : Cx X cX12_foldStep 9 RX12 (rmN 5 114)) (hR : Rx X (some .int) (kI ad K) (0, 0)) (x1 : Int32) (x2 : Int32) : ∀ (n : Nat) (x3 : Int32) (x4 : Int32) (x5 : Int32) (m : Mm), wp_X12_foldStep_l180 K x1 x2 n x3 x4 x5 m → J X (0, 0) 180 [(0, .ref (ad 426)), (1, .int x1), (2, .int x2), (3, .int x3), (4, .int x4), (5, .int x5)] [] (fl ad m) := by
  intro n
  induction n with
  | zero => intro x3 x4 x5 m h; exact h.elim
  | succ n ih => intro x3 x4 x5 m h; exact tb_X12_foldStep_l180 hX hR x1 x2 ih x3 x4 x5 m h
set_option maxRecDepth 100000 in
theorem c_X12_foldStep {G : GT} {ad : Nat → Nat} (x1 : Int32) (m : Mm) (K : Int32 → Mm → Prop) (h : wp_X12_foldStep x1 m K) : Cn G yX12_foldStep cX12_foldStep 9 (some .int) (rmN 5 114) [.ref (ad 426), .int x1] (0, 0) (fl ad m) (kI ad K) := by
  unfold wp_X12_foldStep at h
  refine Cn.of pn_RX12 (Nat.le_of_ble_eq_true rfl) (fun X hG hX hR => ?_)
  subst hG
  have hX : Cx X cX12_foldStep 9 RX12 (rmN 5 114) := hX
  show J X (0, 0) 0 [(0, .ref (ad 426)), (1, .int x1)] [] (fl ad m)
  refine J_iload_n hX dX12_foldStep_0 rfl 1 rfl ?_
  refine J_if_ge (tgt := 6) hX dX12_foldStep_1 (by decide) (fun c1 => ?_) (fun c1 => ?_)
  · replace h := Eq.mp (if_pos c1) h
    refine J_iconst (v := (0 : Int32)) hX dX12_foldStep_6 (by decide) ?_
    refine J_istore_n (lv2 := [(2, .int (0 : Int32)), (0, .ref (ad 426)), (1, .int x1)]) hX dX12_foldStep_7 rfl (Nat.le_of_ble_eq_true rfl) rfl ?_
    refine J_iconst (v := (1 : Int32)) hX dX12_foldStep_8 (by decide) ?_
    refine J_istore_n (lv2 := [(3, .int (1 : Int32)), (2, .int (0 : Int32)), (0, .ref (ad 426)), (1, .int x1)]) hX dX12_foldStep_9 rfl (Nat.le_of_ble_eq_true rfl) rfl ?_
    refine J_sub [2, 3, 1, 0] rfl (t_X12_foldStep_l10 hX hR x1 (fun y8 m9 h => ?_) FU (0 : Int32) (1 : Int32) m h)
    refine J_iload_n hX dX12_foldStep_43 rfl 1 rfl ?_
    refine J_iload_n hX dX12_foldStep_44 rfl 2 rfl ?_
    refine J_callS hX km_X12_bits kl_RX12_404 dX12_foldStep_45 [.int y8] ⟨Nat.le_of_ble_eq_true rfl, Nat.le_of_ble_eq_true rfl⟩ rfl rfl (Nat.le_of_ble_eq_true rfl) (c_X12_bits y8 m9 _ h) (fun v w2 hk => ?_)
    obtain ⟨y11, m10, rfl, rfl, h⟩ := hk
    show J X (0, 0) 48 [(0, .ref (ad 426)), (1, .int x1), (2, .int y8)] [.int y11, .int x1] (fl ad m10)
    refine J_icmp_lt (tgt := 54) hX dX12_foldStep_48 (by decide) (fun c12 => ?_) (fun c12 => ?_)
    · replace h := Eq.mp (if_pos c12) h
      refine J_iload_n hX dX12_foldStep_54 rfl 2 rfl ?_
      refine J_istore_n (lv2 := [(3, .int y8), (0, .ref (ad 426)), (1, .int x1), (2, .int y8)]) hX dX12_foldStep_55 rfl (Nat.le_of_ble_eq_true rfl) rfl ?_
      refine J_sub [1, 2, 3, 0] rfl (t_X12_foldStep_l56 hX hR x1 y8 (fun m37 h => ?_) FU y8 m10 h)
      refine J_iconst (v := (0 : Int32)) hX dX12_foldStep_171 (by decide) ?_
      refine J_istore_n (lv2 := [(3, .int (0 : Int32)), (0, .ref (ad 426)), (1, .int x1), (2, .int y8)]) hX dX12_foldStep_172 rfl (Nat.le_of_ble_eq_true rfl) rfl ?_
      refine J_bipush (v := (-9 : Int32)) hX dX12_foldStep_173 (by decide) ?_
      refine J_istore (lv2 := [(4, .int (-9 : Int32)), (3, .int (0 : Int32)), (0, .ref (ad 426)), (1, .int x1), (2, .int y8)]) hX dX12_foldStep_175 (Nat.le_of_ble_eq_true rfl) rfl ?_
      refine J_iconst (v := (0 : Int32)) hX dX12_foldStep_177 (by decide) ?_
      refine J_istore (lv2 := [(5, .int (0 : Int32)), (4, .int (-9 : Int32)), (3, .int (0 : Int32)), (0, .ref (ad 426)), (1, .int x1), (2, .int y8)]) hX dX12_foldStep_178 (Nat.le_of_ble_eq_true rfl) rfl ?_
      refine J_sub [3, 4, 5, 2, 1, 0] rfl (t_X12_foldStep_l180 hX hR x1 y8 FU (0 : Int32) (-9 : Int32) (0 : Int32) m37 h)
    · replace h := Eq.mp (if_neg c12) h
      refine J_bipush (v := (-9 : Int32)) hX dX12_foldStep_51 (by decide) ?_
      exact J_iret hX hR dX12_foldStep_53 ⟨_, _, rfl, rfl, h⟩
  · replace h := Eq.mp (if_neg c1) h
    refine J_iconst (v := (-1 : Int32)) hX dX12_foldStep_4 (by decide) ?_
    exact J_iret hX hR dX12_foldStep_5 ⟨_, _, rfl, rfl, h⟩
set_option maxRecDepth 100000 in
theorem tb_X12_greatestOf_l4 {X : XT} {ad : Nat → Nat} {K : Int32 → Mm → Prop} (hX : Cx X cX12_greatestOf 4 RX12 (rmN 1 21)) (hR : Rx X (some .int) (kI ad K) (0, 0)) {rec : Int32 → Int32 → Mm → Prop} (x1 : Int32) (hrec : ∀ (x2 : Int32) (x3 : Int32) (m : Mm), rec x2 x3 m → J X (0, 0) 4 [(0, .ref (ad 426)), (1, .int x1), (2, .int x2), (3, .int x3)] [] (fl ad m)) (x2 : Int32) (x3 : Int32) (m : Mm) (h : wb_X12_greatestOf_l4 rec K x1 x2 x3 m) : J X (0, 0) 4 [(0, .ref (ad 426)), (1, .int x1), (2, .int x2), (3, .int x3)] [] (fl ad m) := by
  unfold wb_X12_greatestOf_l4 at h
  refine J_iload_n hX dX12_greatestOf_4 rfl 3 rfl ?_
  refine J_aload_n hX dX12_greatestOf_5 rfl 0 rfl ?_
  refine J_callV hX km_X12_many kl_RX12_83 dX12_greatestOf_6 ka_426 (by decide) [] ⟨Nat.le_of_ble_eq_true rfl, Nat.le_of_ble_eq_true rfl⟩ rfl rfl (Nat.le_of_ble_eq_true rfl) (c_X12_many m) (fun v w2 hk => ?_)
  obtain ⟨rfl, rfl⟩ := hk
  show J X (0, 0) 9 [(0, .ref (ad 426)), (1, .int x1), (2, .int x2), (3, .int x3)] [.int (v_X12_many m), .int x3] (fl ad m)
  refine J_icmp_ge (tgt := 56) hX dX12_greatestOf_9 (by decide) (fun c1 => ?_) (fun c1 => ?_)
  · replace h := Eq.mp (if_pos c1) h
    refine J_iload_n hX dX12_greatestOf_56 rfl 2 rfl ?_
    exact J_iret hX hR dX12_greatestOf_57 ⟨_, _, rfl, rfl, h⟩
  · replace h := Eq.mp (if_neg c1) h
    refine J_iload_n hX dX12_greatestOf_12 rfl 2 rfl ?_
    refine J_iload_n hX dX12_greatestOf_13 rfl 1 rfl ?_
    obtain ⟨g5, h⟩ := h
    have hj8 : ∀ y6 : Int32, y6 = (if x1 = (0 : Int32) then ((m.1 432 x3.toNatClampNeg) + (m.1 434 x3.toNatClampNeg)) else ((m.1 433 x3.toNatClampNeg) + (m.1 435 x3.toNatClampNeg))) → J X (0, 0) 46 [(0, .ref (ad 426)), (1, .int x1), (3, .int x3)] [.int y6, .int x2] (fl ad m) := by
      intro y6 e_y6
      replace h := h y6 e_y6
      refine J_callS hX km_X12_most kl_RX12_113 dX12_greatestOf_46 [.int x2, .int y6] ⟨Nat.le_of_ble_eq_true rfl, Nat.le_of_ble_eq_true rfl⟩ rfl rfl (Nat.le_of_ble_eq_true rfl) (c_X12_most x2 y6 m) (fun v w2 hk => ?_)
      obtain ⟨rfl, rfl⟩ := hk
      show J X (0, 0) 49 [(0, .ref (ad 426)), (1, .int x1), (3, .int x3)] [.int (v_X12_most x2 y6)] (fl ad m)
      refine J_nmI (fun y7 e_y7 => ?_)
      replace h := h y7 e_y7
      refine J_istore_n (lv2 := [(2, .int y7), (0, .ref (ad 426)), (1, .int x1), (3, .int x3)]) hX dX12_greatestOf_49 rfl (Nat.le_of_ble_eq_true rfl) rfl ?_
      refine J_iinc (x := (x3 + (1 : Int32))) (lv2 := [(3, .int (x3 + (1 : Int32))), (2, .int y7), (0, .ref (ad 426)), (1, .int x1)]) hX dX12_greatestOf_50 3 rfl rfl (Nat.le_of_ble_eq_true rfl) rfl ?_
      refine J_goto (tgt := 4) hX dX12_greatestOf_53 (by decide) ?_
      exact J_sub [2, 3, 1, 0] rfl (hrec y7 (x3 + (1 : Int32)) m h)
    have g9 := g5
    refine J_if_ne (tgt := 33) hX dX12_greatestOf_14 (by decide) (fun c2 => ?_) (fun c2 => ?_)
    · have b3 := g9
      refine J_aload_n hX dX12_greatestOf_33 rfl 0 rfl ?_
      refine J_getR hX kf_RX12_29 dX12_greatestOf_34 ka_426 (by decide) rfl rh_426_8 ?_
      refine J_iload_n hX dX12_greatestOf_37 rfl 3 rfl ?_
      refine J_iald (j := x3.toNatClampNeg) hX dX12_greatestOf_38 ka_433 le_433 b3 rfl ?_
      refine J_aload_n hX dX12_greatestOf_39 rfl 0 rfl ?_
      refine J_getR hX kf_RX12_35 dX12_greatestOf_40 ka_426 (by decide) rfl rh_426_10 ?_
      refine J_iload_n hX dX12_greatestOf_43 rfl 3 rfl ?_
      refine J_iald (j := x3.toNatClampNeg) hX dX12_greatestOf_44 ka_435 le_435 b3 rfl ?_
      refine J_iadd hX dX12_greatestOf_45 ?_
      exact J_sub [0, 1, 3] rfl (hj8 _ (if_neg c2).symm)
    · have b4 := g9
      refine J_aload_n hX dX12_greatestOf_17 rfl 0 rfl ?_
      refine J_getR hX kf_RX12_26 dX12_greatestOf_18 ka_426 (by decide) rfl rh_426_7 ?_
      refine J_iload_n hX dX12_greatestOf_21 rfl 3 rfl ?_
      refine J_iald (j := x3.toNatClampNeg) hX dX12_greatestOf_22 ka_432 le_432 b4 rfl ?_
      refine J_aload_n hX dX12_greatestOf_23 rfl 0 rfl ?_
      refine J_getR hX kf_RX12_32 dX12_greatestOf_24 ka_426 (by decide) rfl rh_426_9 ?_
      refine J_iload_n hX dX12_greatestOf_27 rfl 3 rfl ?_
      refine J_iald (j := x3.toNatClampNeg) hX dX12_greatestOf_28 ka_434 le_434 b4 rfl ?_
      refine J_iadd hX dX12_greatestOf_29 ?_
      refine J_goto (tgt := 46) hX dX12_greatestOf_30 (by decide) ?_
      exact J_sub [0, 1, 3] rfl (hj8 _ (if_pos c2).symm)
set_option maxRecDepth 100000 in
theorem t_X12_greatestOf_l4 {X : XT} {ad : Nat → Nat} {K : Int32 → Mm → Prop} (hX : Cx X cX12_greatestOf 4 RX12 (rmN 1 21)) (hR : Rx X (some .int) (kI ad K) (0, 0)) (x1 : Int32) : ∀ (n : Nat) (x2 : Int32) (x3 : Int32) (m : Mm), wp_X12_greatestOf_l4 K x1 n x2 x3 m → J X (0, 0) 4 [(0, .ref (ad 426)), (1, .int x1), (2, .int x2), (3, .int x3)] [] (fl ad m) := by
  intro n
  induction n with
  | zero => intro x2 x3 m h; exact h.elim
  | succ n ih => intro x2 x3 m h; exact tb_X12_greatestOf_l4 hX hR x1 ih x2 x3 m h
set_option maxRecDepth 100000 in
theorem c_X12_greatestOf {G : GT} {ad : Nat → Nat} (x1 : Int32) (m : Mm) (K : Int32 → Mm → Prop) (h : wp_X12_greatestOf x1 m K) : Cn G yX12_greatestOf cX12_greatestOf 4 (some .int) (rmN 1 21) [.ref (ad 426), .int x1] (0, 0) (fl ad m) (kI ad K) := by
  unfold wp_X12_greatestOf at h
  refine Cn.of pn_RX12 (Nat.le_of_ble_eq_true rfl) (fun X hG hX hR => ?_)
  subst hG
  have hX : Cx X cX12_greatestOf 4 RX12 (rmN 1 21) := hX
  show J X (0, 0) 0 [(0, .ref (ad 426)), (1, .int x1)] [] (fl ad m)
  refine J_iconst (v := (0 : Int32)) hX dX12_greatestOf_0 (by decide) ?_
  refine J_istore_n (lv2 := [(2, .int (0 : Int32)), (0, .ref (ad 426)), (1, .int x1)]) hX dX12_greatestOf_1 rfl (Nat.le_of_ble_eq_true rfl) rfl ?_
  refine J_iconst (v := (0 : Int32)) hX dX12_greatestOf_2 (by decide) ?_
  refine J_istore_n (lv2 := [(3, .int (0 : Int32)), (2, .int (0 : Int32)), (0, .ref (ad 426)), (1, .int x1)]) hX dX12_greatestOf_3 rfl (Nat.le_of_ble_eq_true rfl) rfl ?_
  refine J_sub [2, 3, 1, 0] rfl (t_X12_greatestOf_l4 hX hR x1 FU (0 : Int32) (0 : Int32) m h)
set_option maxRecDepth 100000 in
theorem c_X12_here {G : GT} {ad : Nat → Nat} (x1 : Int32) (m : Mm) (h : s_X12_here x1 m) : Cn G yX12_here cX12_here 2 (some .int) (rmN 0 0) [.ref (ad 426), .int x1] (0, 0) (fl ad m) (fun v w => v = some (.int (v_X12_here x1 m)) ∧ w = fl ad m) := by
  unfold s_X12_here at h
  refine Cn.of pn_RX12 (Nat.le_of_ble_eq_true rfl) (fun X hG hX hR => ?_)
  subst hG
  have hX : Cx X cX12_here 2 RX12 (rmN 0 0) := hX
  show J X (0, 0) 0 [(0, .ref (ad 426)), (1, .int x1)] [] (fl ad m)
  have g3 := h
  refine J_iload_n hX dX12_here_0 rfl 1 rfl ?_
  refine J_aload_n hX dX12_here_1 rfl 0 rfl ?_
  refine J_getI hX kf_RX12_173 dX12_here_2 ka_426 (by decide) rfl ?_
  have hj4 : ∀ y5 : Int32, y5 = (if (m.1 426 12) ≤ x1 then (-9 : Int32) else (m.1 436 x1.toNatClampNeg)) → J X (0, 0) 19 [] [.int y5] (fl ad m) := by
    intro y5 e_y5
    subst e_y5
    exact J_iret hX hR dX12_here_19 (And.intro (congrArg (fun z => some (Value.int z)) (show (if (m.1 426 12) ≤ x1 then (-9 : Int32) else (m.1 436 x1.toNatClampNeg)) = v_X12_here x1 m from rfl)) rfl)
  have g6 := g3
  refine J_icmp_ge (tgt := 17) hX dX12_here_5 (by decide) (fun c1 => ?_) (fun c1 => ?_)
  · refine J_bipush (v := (-9 : Int32)) hX dX12_here_17 (by decide) ?_
    exact J_sub [] rfl (hj4 _ (if_pos c1).symm)
  · have g7 := g6 c1
    have b2 := g7
    refine J_aload_n hX dX12_here_8 rfl 0 rfl ?_
    refine J_getR hX kf_RX12_38 dX12_here_9 ka_426 (by decide) rfl rh_426_11 ?_
    refine J_iload_n hX dX12_here_12 rfl 1 rfl ?_
    refine J_iald (j := x1.toNatClampNeg) hX dX12_here_13 ka_436 le_436 b2 rfl ?_
    refine J_goto (tgt := 19) hX dX12_here_14 (by decide) ?_
    exact J_sub [] rfl (hj4 _ (if_neg c1).symm)
set_option maxRecDepth 100000 in
theorem c_X12_imageAt {G : GT} {ad : Nat → Nat} (x1 : Int32) (x2 : Int32) (x3 : Int32) (x4 : Int32) (m : Mm) (h : s_X12_imageAt x1 x2 x3 x4 m) : Cn G yX12_imageAt cX12_imageAt 5 (some .int) (rmN 3 68) [.ref (ad 426), .int x1, .int x2, .int x3, .int x4] (0, 0) (fl ad m) (fun v w => v = some (.int (v_X12_imageAt x1 x2 x3 x4 m)) ∧ w = fl ad m) := by
  unfold s_X12_imageAt at h
  refine Cn.of pn_RX12 (Nat.le_of_ble_eq_true rfl) (fun X hG hX hR => ?_)
  subst hG
  have hX : Cx X cX12_imageAt 5 RX12 (rmN 3 68) := hX
  show J X (0, 0) 0 [(0, .ref (ad 426)), (1, .int x1), (2, .int x2), (3, .int x3), (4, .int x4)] [] (fl ad m)
  have g9 := h
  refine J_aload_n hX dX12_imageAt_0 rfl 0 rfl ?_
  refine J_iload_n hX dX12_imageAt_1 rfl 1 rfl ?_
  refine J_callV hX km_X12_isPanel kl_RX12_145 dX12_imageAt_2 ka_426 (by decide) [.int x1] ⟨Nat.le_of_ble_eq_true rfl, Nat.le_of_ble_eq_true rfl⟩ rfl rfl (Nat.le_of_ble_eq_true rfl) (c_X12_isPanel x1 m) (fun v w2 hk => ?_)
  obtain ⟨rfl, rfl⟩ := hk
  show J X (0, 0) 5 [(0, .ref (ad 426)), (1, .int x1), (2, .int x2), (3, .int x3), (4, .int x4)] [.int (v_X12_isPanel x1 m)] (fl ad m)
  refine J_if_eq (tgt := 44) hX dX12_imageAt_5 (by decide) (fun c1 => ?_) (fun c1 => ?_)
  · refine J_iconst (v := (-1 : Int32)) hX dX12_imageAt_44 (by decide) ?_
    exact J_iret hX hR dX12_imageAt_45 (And.intro (congrArg (fun z => some (Value.int z)) (show (-1 : Int32) = v_X12_imageAt x1 x2 x3 x4 m from (if_pos c1).symm)) rfl)
  · have g10 := g9 c1
    have g11 := g10
    refine J_iload_n hX dX12_imageAt_8 rfl 2 rfl ?_
    refine J_sipush (v := (-300 : Int32)) hX dX12_imageAt_9 (by decide) ?_
    refine J_sipush (v := (300 : Int32)) hX dX12_imageAt_12 (by decide) ?_
    refine J_callS hX km_X12_in kl_RX12_87 dX12_imageAt_15 [.int x2, .int (-300 : Int32), .int (300 : Int32)] ⟨Nat.le_of_ble_eq_true rfl, Nat.le_of_ble_eq_true rfl⟩ rfl rfl (Nat.le_of_ble_eq_true rfl) (c_X12_in x2 (-300 : Int32) (300 : Int32) m) (fun v w2 hk => ?_)
    obtain ⟨rfl, rfl⟩ := hk
    show J X (0, 0) 18 [(0, .ref (ad 426)), (1, .int x1), (2, .int x2), (3, .int x3), (4, .int x4)] [.int (v_X12_in x2 (-300 : Int32) (300 : Int32))] (fl ad m)
    refine J_if_eq (tgt := 44) hX dX12_imageAt_18 (by decide) (fun c2 => ?_) (fun c2 => ?_)
    · refine J_iconst (v := (-1 : Int32)) hX dX12_imageAt_44 (by decide) ?_
      exact J_iret hX hR dX12_imageAt_45 (And.intro (congrArg (fun z => some (Value.int z)) (show (-1 : Int32) = v_X12_imageAt x1 x2 x3 x4 m from ((if_neg c1).trans (if_pos c2)).symm)) rfl)
    · have g12 := g11 c2
      have g13 := g12
      refine J_iload_n hX dX12_imageAt_21 rfl 3 rfl ?_
      refine J_sipush (v := (-300 : Int32)) hX dX12_imageAt_22 (by decide) ?_
      refine J_sipush (v := (300 : Int32)) hX dX12_imageAt_25 (by decide) ?_
      refine J_callS hX km_X12_in kl_RX12_87 dX12_imageAt_28 [.int x3, .int (-300 : Int32), .int (300 : Int32)] ⟨Nat.le_of_ble_eq_true rfl, Nat.le_of_ble_eq_true rfl⟩ rfl rfl (Nat.le_of_ble_eq_true rfl) (c_X12_in x3 (-300 : Int32) (300 : Int32) m) (fun v w2 hk => ?_)
      obtain ⟨rfl, rfl⟩ := hk
      show J X (0, 0) 31 [(0, .ref (ad 426)), (1, .int x1), (2, .int x2), (3, .int x3), (4, .int x4)] [.int (v_X12_in x3 (-300 : Int32) (300 : Int32))] (fl ad m)
      refine J_if_eq (tgt := 44) hX dX12_imageAt_31 (by decide) (fun c3 => ?_) (fun c3 => ?_)
      · refine J_iconst (v := (-1 : Int32)) hX dX12_imageAt_44 (by decide) ?_
        exact J_iret hX hR dX12_imageAt_45 (And.intro (congrArg (fun z => some (Value.int z)) (show (-1 : Int32) = v_X12_imageAt x1 x2 x3 x4 m from ((if_neg c1).trans ((if_neg c2).trans (if_pos c3))).symm)) rfl)
      · have g14 := g13 c3
        have g15 := g14
        refine J_iload hX dX12_imageAt_34 4 rfl ?_
        refine J_iconst (v := (0 : Int32)) hX dX12_imageAt_36 (by decide) ?_
        refine J_iconst (v := (1 : Int32)) hX dX12_imageAt_37 (by decide) ?_
        refine J_callS hX km_X12_in kl_RX12_87 dX12_imageAt_38 [.int x4, .int (0 : Int32), .int (1 : Int32)] ⟨Nat.le_of_ble_eq_true rfl, Nat.le_of_ble_eq_true rfl⟩ rfl rfl (Nat.le_of_ble_eq_true rfl) (c_X12_in x4 (0 : Int32) (1 : Int32) m) (fun v w2 hk => ?_)
        obtain ⟨rfl, rfl⟩ := hk
        show J X (0, 0) 41 [(0, .ref (ad 426)), (1, .int x1), (2, .int x2), (3, .int x3), (4, .int x4)] [.int (v_X12_in x4 (0 : Int32) (1 : Int32))] (fl ad m)
        refine J_if_ne (tgt := 46) hX dX12_imageAt_41 (by decide) (fun c4 => ?_) (fun c4 => ?_)
        · have g16 := g15 c4
          obtain ⟨b5, g17⟩ := g16
          refine J_aload_n hX dX12_imageAt_46 rfl 0 rfl ?_
          refine J_iload_n hX dX12_imageAt_47 rfl 1 rfl ?_
          refine J_bipush (v := (7 : Int32)) hX dX12_imageAt_48 (by decide) ?_
          refine J_callV hX km_X12_of kl_RX12_91 dX12_imageAt_50 ka_426 (by decide) [.int x1, .int (7 : Int32)] ⟨Nat.le_of_ble_eq_true rfl, Nat.le_of_ble_eq_true rfl⟩ rfl rfl (Nat.le_of_ble_eq_true rfl) (c_X12_of x1 (7 : Int32) m b5) (fun v w2 hk => ?_)
          obtain ⟨rfl, rfl⟩ := hk
          show J X (0, 0) 53 [(0, .ref (ad 426)), (1, .int x1), (2, .int x2), (3, .int x3), (4, .int x4)] [.int (v_X12_of x1 (7 : Int32) m)] (fl ad m)
          refine J_bipush (v := (-9 : Int32)) hX dX12_imageAt_53 (by decide) ?_
          have hj18 : ∀ y19 : Int32, y19 = (if (v_X12_of x1 (7 : Int32) m) = (-9 : Int32) then (-9 : Int32) else (v_X12_imageOn x1 x2 x3 (if x4 = (1 : Int32) then (1 : Int32) else (0 : Int32)) m)) → J X (0, 0) 81 [] [.int y19] (fl ad m) := by
            intro y19 e_y19
            subst e_y19
            exact J_iret hX hR dX12_imageAt_81 (And.intro (congrArg (fun z => some (Value.int z)) (show (if (v_X12_of x1 (7 : Int32) m) = (-9 : Int32) then (-9 : Int32) else (v_X12_imageOn x1 x2 x3 (if x4 = (1 : Int32) then (1 : Int32) else (0 : Int32)) m)) = v_X12_imageAt x1 x2 x3 x4 m from ((if_neg c1).trans ((if_neg c2).trans ((if_neg c3).trans (if_neg c4)))).symm)) rfl)
          have g20 := g17
          refine J_icmp_ne (tgt := 63) hX dX12_imageAt_55 (by decide) (fun c6 => ?_) (fun c6 => ?_)
          · have g21 := g20 c6
            have g22 := g21
            refine J_aload_n hX dX12_imageAt_63 rfl 0 rfl ?_
            refine J_iload_n hX dX12_imageAt_64 rfl 1 rfl ?_
            refine J_iload_n hX dX12_imageAt_65 rfl 2 rfl ?_
            refine J_iload_n hX dX12_imageAt_66 rfl 3 rfl ?_
            refine J_iload hX dX12_imageAt_67 4 rfl ?_
            refine J_iconst (v := (1 : Int32)) hX dX12_imageAt_69 (by decide) ?_
            have hj23 : ∀ y24 : Int32, y24 = (if x4 = (1 : Int32) then (1 : Int32) else (0 : Int32)) → J X (0, 0) 78 [] [.int y24, .int x3, .int x2, .int x1, .ref (ad 426)] (fl ad m) := by
              intro y24 e_y24
              subst e_y24
              have b8 := g22
              refine J_callV hX km_X12_imageOn kl_RX12_273 dX12_imageAt_78 ka_426 (by decide) [.int x1, .int x2, .int x3, .int (if x4 = (1 : Int32) then (1 : Int32) else (0 : Int32))] ⟨Nat.le_of_ble_eq_true rfl, Nat.le_of_ble_eq_true rfl⟩ rfl rfl (Nat.le_of_ble_eq_true rfl) (c_X12_imageOn x1 x2 x3 (if x4 = (1 : Int32) then (1 : Int32) else (0 : Int32)) m b8) (fun v w2 hk => ?_)
              obtain ⟨rfl, rfl⟩ := hk
              show J X (0, 0) 81 [] [.int (v_X12_imageOn x1 x2 x3 (if x4 = (1 : Int32) then (1 : Int32) else (0 : Int32)) m)] (fl ad m)
              exact J_sub [] rfl (hj18 _ (if_neg c6).symm)
            refine J_icmp_ne (tgt := 77) hX dX12_imageAt_70 (by decide) (fun c7 => ?_) (fun c7 => ?_)
            · refine J_iconst (v := (0 : Int32)) hX dX12_imageAt_77 (by decide) ?_
              exact J_sub [] rfl (hj23 _ (if_neg c7).symm)
            · refine J_iconst (v := (1 : Int32)) hX dX12_imageAt_73 (by decide) ?_
              refine J_goto (tgt := 78) hX dX12_imageAt_74 (by decide) ?_
              exact J_sub [] rfl (hj23 _ (if_pos c7).symm)
          · refine J_bipush (v := (-9 : Int32)) hX dX12_imageAt_58 (by decide) ?_
            refine J_goto (tgt := 81) hX dX12_imageAt_60 (by decide) ?_
            exact J_sub [] rfl (hj18 _ (if_pos c6).symm)
        · refine J_iconst (v := (-1 : Int32)) hX dX12_imageAt_44 (by decide) ?_
          exact J_iret hX hR dX12_imageAt_45 (And.intro (congrArg (fun z => some (Value.int z)) (show (-1 : Int32) = v_X12_imageAt x1 x2 x3 x4 m from ((if_neg c1).trans ((if_neg c2).trans ((if_neg c3).trans (if_pos c4)))).symm)) rfl)
theorem bv_X12_isDigit (x1 : Int32) (m : Mm) : bo (v_X12_isDigit x1 m) := (bv_X12_in (v_X12_here x1 m) (48 : Int32) (57 : Int32))
set_option maxRecDepth 100000 in
theorem c_X12_isDigit {G : GT} {ad : Nat → Nat} (x1 : Int32) (m : Mm) (h : s_X12_isDigit x1 m) : Cn G yX12_isDigit cX12_isDigit 2 (some .boolean) (rmN 1 22) [.ref (ad 426), .int x1] (0, 0) (fl ad m) (fun v w => v = some (.int (v_X12_isDigit x1 m)) ∧ w = fl ad m) := by
  unfold s_X12_isDigit at h
  refine Cn.of pn_RX12 (Nat.le_of_ble_eq_true rfl) (fun X hG hX hR => ?_)
  subst hG
  have hX : Cx X cX12_isDigit 2 RX12 (rmN 1 22) := hX
  show J X (0, 0) 0 [(0, .ref (ad 426)), (1, .int x1)] [] (fl ad m)
  have b1 := h
  refine J_aload_n hX dX12_isDigit_0 rfl 0 rfl ?_
  refine J_iload_n hX dX12_isDigit_1 rfl 1 rfl ?_
  refine J_callV hX km_X12_here kl_RX12_176 dX12_isDigit_2 ka_426 (by decide) [.int x1] ⟨Nat.le_of_ble_eq_true rfl, Nat.le_of_ble_eq_true rfl⟩ rfl rfl (Nat.le_of_ble_eq_true rfl) (c_X12_here x1 m b1) (fun v w2 hk => ?_)
  obtain ⟨rfl, rfl⟩ := hk
  show J X (0, 0) 5 [(0, .ref (ad 426)), (1, .int x1)] [.int (v_X12_here x1 m)] (fl ad m)
  refine J_bipush (v := (48 : Int32)) hX dX12_isDigit_5 (by decide) ?_
  refine J_bipush (v := (57 : Int32)) hX dX12_isDigit_7 (by decide) ?_
  refine J_callS hX km_X12_in kl_RX12_87 dX12_isDigit_9 [.int (v_X12_here x1 m), .int (48 : Int32), .int (57 : Int32)] ⟨Nat.le_of_ble_eq_true rfl, Nat.le_of_ble_eq_true rfl⟩ rfl rfl (Nat.le_of_ble_eq_true rfl) (c_X12_in (v_X12_here x1 m) (48 : Int32) (57 : Int32) m) (fun v w2 hk => ?_)
  obtain ⟨rfl, rfl⟩ := hk
  show J X (0, 0) 12 [(0, .ref (ad 426)), (1, .int x1)] [.int (v_X12_in (v_X12_here x1 m) (48 : Int32) (57 : Int32))] (fl ad m)
  exact J_zret hX hR dX12_isDigit_12 (bv_X12_in (v_X12_here x1 m) (48 : Int32) (57 : Int32)) (And.intro (congrArg (fun z => some (Value.int z)) (show (v_X12_in (v_X12_here x1 m) (48 : Int32) (57 : Int32)) = v_X12_isDigit x1 m from rfl)) rfl)
set_option maxRecDepth 100000 in
theorem tb_X12_leastOf_l6 {X : XT} {ad : Nat → Nat} {K : Int32 → Mm → Prop} (hX : Cx X cX12_leastOf 4 RX12 (rmN 1 21)) (hR : Rx X (some .int) (kI ad K) (0, 0)) {rec : Int32 → Int32 → Mm → Prop} (x1 : Int32) (hrec : ∀ (x2 : Int32) (x3 : Int32) (m : Mm), rec x2 x3 m → J X (0, 0) 6 [(0, .ref (ad 426)), (1, .int x1), (2, .int x2), (3, .int x3)] [] (fl ad m)) (x2 : Int32) (x3 : Int32) (m : Mm) (h : wb_X12_leastOf_l6 rec K x1 x2 x3 m) : J X (0, 0) 6 [(0, .ref (ad 426)), (1, .int x1), (2, .int x2), (3, .int x3)] [] (fl ad m) := by
  unfold wb_X12_leastOf_l6 at h
  refine J_iload_n hX dX12_leastOf_6 rfl 3 rfl ?_
  refine J_aload_n hX dX12_leastOf_7 rfl 0 rfl ?_
  refine J_callV hX km_X12_many kl_RX12_83 dX12_leastOf_8 ka_426 (by decide) [] ⟨Nat.le_of_ble_eq_true rfl, Nat.le_of_ble_eq_true rfl⟩ rfl rfl (Nat.le_of_ble_eq_true rfl) (c_X12_many m) (fun v w2 hk => ?_)
  obtain ⟨rfl, rfl⟩ := hk
  show J X (0, 0) 11 [(0, .ref (ad 426)), (1, .int x1), (2, .int x2), (3, .int x3)] [.int (v_X12_many m), .int x3] (fl ad m)
  refine J_icmp_ge (tgt := 44) hX dX12_leastOf_11 (by decide) (fun c1 => ?_) (fun c1 => ?_)
  · replace h := Eq.mp (if_pos c1) h
    refine J_iload_n hX dX12_leastOf_44 rfl 2 rfl ?_
    exact J_iret hX hR dX12_leastOf_45 ⟨_, _, rfl, rfl, h⟩
  · replace h := Eq.mp (if_neg c1) h
    refine J_iload_n hX dX12_leastOf_14 rfl 2 rfl ?_
    refine J_iload_n hX dX12_leastOf_15 rfl 1 rfl ?_
    obtain ⟨g5, h⟩ := h
    have hj8 : ∀ y6 : Int32, y6 = (if x1 = (0 : Int32) then (m.1 432 x3.toNatClampNeg) else (m.1 433 x3.toNatClampNeg)) → J X (0, 0) 34 [(0, .ref (ad 426)), (1, .int x1), (3, .int x3)] [.int y6, .int x2] (fl ad m) := by
      intro y6 e_y6
      replace h := h y6 e_y6
      refine J_callS hX km_X12_least kl_RX12_110 dX12_leastOf_34 [.int x2, .int y6] ⟨Nat.le_of_ble_eq_true rfl, Nat.le_of_ble_eq_true rfl⟩ rfl rfl (Nat.le_of_ble_eq_true rfl) (c_X12_least x2 y6 m) (fun v w2 hk => ?_)
      obtain ⟨rfl, rfl⟩ := hk
      show J X (0, 0) 37 [(0, .ref (ad 426)), (1, .int x1), (3, .int x3)] [.int (v_X12_least x2 y6)] (fl ad m)
      refine J_nmI (fun y7 e_y7 => ?_)
      replace h := h y7 e_y7
      refine J_istore_n (lv2 := [(2, .int y7), (0, .ref (ad 426)), (1, .int x1), (3, .int x3)]) hX dX12_leastOf_37 rfl (Nat.le_of_ble_eq_true rfl) rfl ?_
      refine J_iinc (x := (x3 + (1 : Int32))) (lv2 := [(3, .int (x3 + (1 : Int32))), (2, .int y7), (0, .ref (ad 426)), (1, .int x1)]) hX dX12_leastOf_38 3 rfl rfl (Nat.le_of_ble_eq_true rfl) rfl ?_
      refine J_goto (tgt := 6) hX dX12_leastOf_41 (by decide) ?_
      exact J_sub [2, 3, 1, 0] rfl (hrec y7 (x3 + (1 : Int32)) m h)
    have g9 := g5
    refine J_if_ne (tgt := 28) hX dX12_leastOf_16 (by decide) (fun c2 => ?_) (fun c2 => ?_)
    · have b3 := g9
      refine J_aload_n hX dX12_leastOf_28 rfl 0 rfl ?_
      refine J_getR hX kf_RX12_29 dX12_leastOf_29 ka_426 (by decide) rfl rh_426_8 ?_
      refine J_iload_n hX dX12_leastOf_32 rfl 3 rfl ?_
      refine J_iald (j := x3.toNatClampNeg) hX dX12_leastOf_33 ka_433 le_433 b3 rfl ?_
      exact J_sub [0, 1, 3] rfl (hj8 _ (if_neg c2).symm)
    · have b4 := g9
      refine J_aload_n hX dX12_leastOf_19 rfl 0 rfl ?_
      refine J_getR hX kf_RX12_26 dX12_leastOf_20 ka_426 (by decide) rfl rh_426_7 ?_
      refine J_iload_n hX dX12_leastOf_23 rfl 3 rfl ?_
      refine J_iald (j := x3.toNatClampNeg) hX dX12_leastOf_24 ka_432 le_432 b4 rfl ?_
      refine J_goto (tgt := 34) hX dX12_leastOf_25 (by decide) ?_
      exact J_sub [0, 1, 3] rfl (hj8 _ (if_pos c2).symm)
set_option maxRecDepth 100000 in
theorem t_X12_leastOf_l6 {X : XT} {ad : Nat → Nat} {K : Int32 → Mm → Prop} (hX : Cx X cX12_leastOf 4 RX12 (rmN 1 21)) (hR : Rx X (some .int) (kI ad K) (0, 0)) (x1 : Int32) : ∀ (n : Nat) (x2 : Int32) (x3 : Int32) (m : Mm), wp_X12_leastOf_l6 K x1 n x2 x3 m → J X (0, 0) 6 [(0, .ref (ad 426)), (1, .int x1), (2, .int x2), (3, .int x3)] [] (fl ad m) := by
  intro n
  induction n with
  | zero => intro x2 x3 m h; exact h.elim
  | succ n ih => intro x2 x3 m h; exact tb_X12_leastOf_l6 hX hR x1 ih x2 x3 m h
set_option maxRecDepth 100000 in
theorem c_X12_leastOf {G : GT} {ad : Nat → Nat} (x1 : Int32) (m : Mm) (K : Int32 → Mm → Prop) (h : wp_X12_leastOf x1 m K) : Cn G yX12_leastOf cX12_leastOf 4 (some .int) (rmN 1 21) [.ref (ad 426), .int x1] (0, 0) (fl ad m) (kI ad K) := by
  unfold wp_X12_leastOf at h
  refine Cn.of pn_RX12 (Nat.le_of_ble_eq_true rfl) (fun X hG hX hR => ?_)
  subst hG
  have hX : Cx X cX12_leastOf 4 RX12 (rmN 1 21) := hX
  show J X (0, 0) 0 [(0, .ref (ad 426)), (1, .int x1)] [] (fl ad m)
  refine J_sipush (v := (300 : Int32)) hX dX12_leastOf_0 (by decide) ?_
  refine J_istore_n (lv2 := [(2, .int (300 : Int32)), (0, .ref (ad 426)), (1, .int x1)]) hX dX12_leastOf_3 rfl (Nat.le_of_ble_eq_true rfl) rfl ?_
  refine J_iconst (v := (0 : Int32)) hX dX12_leastOf_4 (by decide) ?_
  refine J_istore_n (lv2 := [(3, .int (0 : Int32)), (2, .int (300 : Int32)), (0, .ref (ad 426)), (1, .int x1)]) hX dX12_leastOf_5 rfl (Nat.le_of_ble_eq_true rfl) rfl ?_
  refine J_sub [2, 3, 1, 0] rfl (t_X12_leastOf_l6 hX hR x1 FU (300 : Int32) (0 : Int32) m h)
theorem bv_X12_isNear (x1 : Int32) (x2 : Int32) (x3 : Int32) (x4 : Int32) (x5 : Int32) (m : Mm) : bo (v_X12_isNear x1 x2 x3 x4 x5 m) := (bo_ite bo_0 (bo_ite bo_0 bo_1))
set_option maxRecDepth 100000 in
theorem c_X12_isNear {G : GT} {ad : Nat → Nat} (x1 : Int32) (x2 : Int32) (x3 : Int32) (x4 : Int32) (x5 : Int32) (m : Mm) (h : s_X12_isNear x1 x2 x3 x4 x5) : Cn G yX12_isNear cX12_isNear 6 (some .boolean) (rmN 1 23) [.ref (ad 426), .int x1, .int x2, .int x3, .int x4, .int x5] (0, 0) (fl ad m) (fun v w => v = some (.int (v_X12_isNear x1 x2 x3 x4 x5 m)) ∧ w = fl ad m) := by
  unfold s_X12_isNear at h
  refine Cn.of pn_RX12 (Nat.le_of_ble_eq_true rfl) (fun X hG hX hR => ?_)
  subst hG
  have hX : Cx X cX12_isNear 6 RX12 (rmN 1 23) := hX
  show J X (0, 0) 0 [(0, .ref (ad 426)), (1, .int x1), (2, .int x2), (3, .int x3), (4, .int x4), (5, .int x5)] [] (fl ad m)
  obtain ⟨b1, b2⟩ := h
  refine J_aload_n hX dX12_isNear_0 rfl 0 rfl ?_
  refine J_getR hX kf_RX12_26 dX12_isNear_1 ka_426 (by decide) rfl rh_426_7 ?_
  refine J_iload_n hX dX12_isNear_4 rfl 1 rfl ?_
  refine J_iald (j := x1.toNatClampNeg) hX dX12_isNear_5 ka_432 le_432 b1 rfl ?_
  refine J_aload_n hX dX12_isNear_6 rfl 0 rfl ?_
  refine J_getR hX kf_RX12_26 dX12_isNear_7 ka_426 (by decide) rfl rh_426_7 ?_
  refine J_iload_n hX dX12_isNear_10 rfl 1 rfl ?_
  refine J_iald (j := x1.toNatClampNeg) hX dX12_isNear_11 ka_432 le_432 b1 rfl ?_
  refine J_aload_n hX dX12_isNear_12 rfl 0 rfl ?_
  refine J_getR hX kf_RX12_32 dX12_isNear_13 ka_426 (by decide) rfl rh_426_9 ?_
  refine J_iload_n hX dX12_isNear_16 rfl 1 rfl ?_
  refine J_iald (j := x1.toNatClampNeg) hX dX12_isNear_17 ka_434 le_434 b1 rfl ?_
  refine J_iadd hX dX12_isNear_18 ?_
  refine J_iload_n hX dX12_isNear_19 rfl 3 rfl ?_
  refine J_iload_n hX dX12_isNear_20 rfl 3 rfl ?_
  refine J_aload_n hX dX12_isNear_21 rfl 0 rfl ?_
  refine J_getR hX kf_RX12_32 dX12_isNear_22 ka_426 (by decide) rfl rh_426_9 ?_
  refine J_iload_n hX dX12_isNear_25 rfl 2 rfl ?_
  refine J_iald (j := x2.toNatClampNeg) hX dX12_isNear_26 ka_434 le_434 b2 rfl ?_
  refine J_iadd hX dX12_isNear_27 ?_
  refine J_callS hX km_X12_apart kl_RX12_373 dX12_isNear_28 [.int (m.1 432 x1.toNatClampNeg), .int ((m.1 432 x1.toNatClampNeg) + (m.1 434 x1.toNatClampNeg)), .int x3, .int (x3 + (m.1 434 x2.toNatClampNeg))] ⟨Nat.le_of_ble_eq_true rfl, Nat.le_of_ble_eq_true rfl⟩ rfl rfl (Nat.le_of_ble_eq_true rfl) (c_X12_apart (m.1 432 x1.toNatClampNeg) ((m.1 432 x1.toNatClampNeg) + (m.1 434 x1.toNatClampNeg)) x3 (x3 + (m.1 434 x2.toNatClampNeg)) m) (fun v w2 hk => ?_)
  obtain ⟨rfl, rfl⟩ := hk
  show J X (0, 0) 31 [(0, .ref (ad 426)), (1, .int x1), (2, .int x2), (3, .int x3), (4, .int x4), (5, .int x5)] [.int (v_X12_apart (m.1 432 x1.toNatClampNeg) ((m.1 432 x1.toNatClampNeg) + (m.1 434 x1.toNatClampNeg)) x3 (x3 + (m.1 434 x2.toNatClampNeg)))] (fl ad m)
  refine J_iload hX dX12_isNear_31 5 rfl ?_
  have hj5 : ∀ y6 : Int32, y6 = (if x5 ≤ (v_X12_apart (m.1 432 x1.toNatClampNeg) ((m.1 432 x1.toNatClampNeg) + (m.1 434 x1.toNatClampNeg)) x3 (x3 + (m.1 434 x2.toNatClampNeg))) then (0 : Int32) else (if x5 ≤ (v_X12_apart (m.1 433 x1.toNatClampNeg) ((m.1 433 x1.toNatClampNeg) + (m.1 435 x1.toNatClampNeg)) x4 (x4 + (m.1 435 x2.toNatClampNeg))) then (0 : Int32) else (1 : Int32))) → J X (0, 0) 79 [] [.int y6] (fl ad m) := by
    intro y6 e_y6
    subst e_y6
    exact J_zret hX hR dX12_isNear_79 (bo_ite bo_0 (bo_ite bo_0 bo_1)) (And.intro (congrArg (fun z => some (Value.int z)) (show (if x5 ≤ (v_X12_apart (m.1 432 x1.toNatClampNeg) ((m.1 432 x1.toNatClampNeg) + (m.1 434 x1.toNatClampNeg)) x3 (x3 + (m.1 434 x2.toNatClampNeg))) then (0 : Int32) else (if x5 ≤ (v_X12_apart (m.1 433 x1.toNatClampNeg) ((m.1 433 x1.toNatClampNeg) + (m.1 435 x1.toNatClampNeg)) x4 (x4 + (m.1 435 x2.toNatClampNeg))) then (0 : Int32) else (1 : Int32))) = v_X12_isNear x1 x2 x3 x4 x5 m from rfl)) rfl)
  refine J_icmp_ge (tgt := 78) hX dX12_isNear_33 (by decide) (fun c3 => ?_) (fun c3 => ?_)
  · refine J_iconst (v := (0 : Int32)) hX dX12_isNear_78 (by decide) ?_
    exact J_sub [] rfl (hj5 _ (if_pos c3).symm)
  · refine J_aload_n hX dX12_isNear_36 rfl 0 rfl ?_
    refine J_getR hX kf_RX12_29 dX12_isNear_37 ka_426 (by decide) rfl rh_426_8 ?_
    refine J_iload_n hX dX12_isNear_40 rfl 1 rfl ?_
    refine J_iald (j := x1.toNatClampNeg) hX dX12_isNear_41 ka_433 le_433 b1 rfl ?_
    refine J_aload_n hX dX12_isNear_42 rfl 0 rfl ?_
    refine J_getR hX kf_RX12_29 dX12_isNear_43 ka_426 (by decide) rfl rh_426_8 ?_
    refine J_iload_n hX dX12_isNear_46 rfl 1 rfl ?_
    refine J_iald (j := x1.toNatClampNeg) hX dX12_isNear_47 ka_433 le_433 b1 rfl ?_
    refine J_aload_n hX dX12_isNear_48 rfl 0 rfl ?_
    refine J_getR hX kf_RX12_35 dX12_isNear_49 ka_426 (by decide) rfl rh_426_10 ?_
    refine J_iload_n hX dX12_isNear_52 rfl 1 rfl ?_
    refine J_iald (j := x1.toNatClampNeg) hX dX12_isNear_53 ka_435 le_435 b1 rfl ?_
    refine J_iadd hX dX12_isNear_54 ?_
    refine J_iload hX dX12_isNear_55 4 rfl ?_
    refine J_iload hX dX12_isNear_57 4 rfl ?_
    refine J_aload_n hX dX12_isNear_59 rfl 0 rfl ?_
    refine J_getR hX kf_RX12_35 dX12_isNear_60 ka_426 (by decide) rfl rh_426_10 ?_
    refine J_iload_n hX dX12_isNear_63 rfl 2 rfl ?_
    refine J_iald (j := x2.toNatClampNeg) hX dX12_isNear_64 ka_435 le_435 b2 rfl ?_
    refine J_iadd hX dX12_isNear_65 ?_
    refine J_callS hX km_X12_apart kl_RX12_373 dX12_isNear_66 [.int (m.1 433 x1.toNatClampNeg), .int ((m.1 433 x1.toNatClampNeg) + (m.1 435 x1.toNatClampNeg)), .int x4, .int (x4 + (m.1 435 x2.toNatClampNeg))] ⟨Nat.le_of_ble_eq_true rfl, Nat.le_of_ble_eq_true rfl⟩ rfl rfl (Nat.le_of_ble_eq_true rfl) (c_X12_apart (m.1 433 x1.toNatClampNeg) ((m.1 433 x1.toNatClampNeg) + (m.1 435 x1.toNatClampNeg)) x4 (x4 + (m.1 435 x2.toNatClampNeg)) m) (fun v w2 hk => ?_)
    obtain ⟨rfl, rfl⟩ := hk
    show J X (0, 0) 69 [(0, .ref (ad 426)), (1, .int x1), (2, .int x2), (3, .int x3), (4, .int x4), (5, .int x5)] [.int (v_X12_apart (m.1 433 x1.toNatClampNeg) ((m.1 433 x1.toNatClampNeg) + (m.1 435 x1.toNatClampNeg)) x4 (x4 + (m.1 435 x2.toNatClampNeg)))] (fl ad m)
    refine J_iload hX dX12_isNear_69 5 rfl ?_
    refine J_icmp_ge (tgt := 78) hX dX12_isNear_71 (by decide) (fun c4 => ?_) (fun c4 => ?_)
    · refine J_iconst (v := (0 : Int32)) hX dX12_isNear_78 (by decide) ?_
      exact J_sub [] rfl (hj5 _ ((if_neg c3).trans (if_pos c4)).symm)
    · refine J_iconst (v := (1 : Int32)) hX dX12_isNear_74 (by decide) ?_
      refine J_goto (tgt := 79) hX dX12_isNear_75 (by decide) ?_
      exact J_sub [] rfl (hj5 _ ((if_neg c3).trans (if_neg c4)).symm)
set_option maxRecDepth 100000 in
theorem t_X12_isFree_j111 {X : XT} {ad : Nat → Nat} {K : Int32 → Mm → Prop} (hX : Cx X cX12_isFree 10 RX12 (rmN 2 48)) (hR : Rx X (some .boolean) (kI ad K) (0, 0)) {k18 : Int32 → Int32 → Mm → Prop} (x1 : Int32) (x2 : Int32) (x3 : Int32) (x4 : Int32) (x5 : Int32) (x6 : Int32) (x7 : Int32) (x8 : Int32) (s0 : Int32) (hk18 : ∀ (z5 : Int32) (z7 : Int32) (m : Mm), k18 z5 z7 m → J X (0, 0) 18 [(0, .ref (ad 426)), (1, .int x1), (2, .int x2), (3, .int x3), (4, .int x4), (5, .int z5), (6, .int x6), (7, .int z7)] [] (fl ad m)) (m : Mm) (h : wp_X12_isFree_j111 k18 K x1 x2 x3 x4 x5 x6 x7 x8 s0 m) : J X (0, 0) 111 [(0, .ref (ad 426)), (1, .int x1), (2, .int x2), (3, .int x3), (4, .int x4), (5, .int x5), (6, .int x6), (7, .int x7), (8, .int x8)] [.int s0] (fl ad m) := by
  unfold wp_X12_isFree_j111 at h
  refine J_istore (lv2 := [(9, .int s0), (0, .ref (ad 426)), (1, .int x1), (2, .int x2), (3, .int x3), (4, .int x4), (5, .int x5), (6, .int x6), (7, .int x7), (8, .int x8)]) hX dX12_isFree_111 (Nat.le_of_ble_eq_true rfl) rfl ?_
  refine J_iload hX dX12_isFree_113 6 rfl ?_
  obtain ⟨g13, h⟩ := h
  have hj15 : ∀ y14 : Int32, y14 = (if x5 = (0 : Int32) then (0 : Int32) else (if (v_X12_isNear x6 x7 (if x1 = (0 : Int32) then (x8 + x4) else x8) (if x1 = (1 : Int32) then (s0 + x4) else s0) x2 m) = (0 : Int32) then (1 : Int32) else (0 : Int32))) → J X (0, 0) 164 [(0, .ref (ad 426)), (1, .int x1), (2, .int x2), (3, .int x3), (4, .int x4), (6, .int x6), (7, .int x7)] [.int y14] (fl ad m) := by
    intro y14 e_y14
    replace h := h y14 e_y14
    refine J_istore (lv2 := [(5, .int y14), (0, .ref (ad 426)), (1, .int x1), (2, .int x2), (3, .int x3), (4, .int x4), (6, .int x6), (7, .int x7)]) hX dX12_isFree_164 (Nat.le_of_ble_eq_true rfl) rfl ?_
    refine J_iinc (x := (x7 + (1 : Int32))) (lv2 := [(7, .int (x7 + (1 : Int32))), (5, .int y14), (0, .ref (ad 426)), (1, .int x1), (2, .int x2), (3, .int x3), (4, .int x4), (6, .int x6)]) hX dX12_isFree_166 7 rfl rfl (Nat.le_of_ble_eq_true rfl) rfl ?_
    refine J_goto (tgt := 18) hX dX12_isFree_169 (by decide) ?_
    exact J_sub [2, 3, 4, 5, 6, 1, 7, 0] rfl (hk18 y14 (x7 + (1 : Int32)) m h)
  have g16 := g13
  refine J_if_eq (tgt := 163) hX dX12_isFree_115 (by decide) (fun c8 => ?_) (fun c8 => ?_)
  · refine J_iconst (v := (0 : Int32)) hX dX12_isFree_163 (by decide) ?_
    exact J_sub [1, 2, 3, 4, 5, 7, 8] rfl (hj15 _ (if_pos c8).symm)
  · have g17 := g16 c8
    have g18 := g17
    refine J_aload_n hX dX12_isFree_118 rfl 1 rfl ?_
    refine J_iload hX dX12_isFree_119 7 rfl ?_
    refine J_iload hX dX12_isFree_121 8 rfl ?_
    refine J_iload_n hX dX12_isFree_123 rfl 2 rfl ?_
    have hj19 : ∀ y20 : Int32, y20 = (if x1 = (0 : Int32) then (x8 + x4) else x8) → J X (0, 0) 137 [(0, .ref (ad 426)), (1, .int x1), (2, .int x2), (3, .int x3), (4, .int x4), (6, .int x6), (7, .int x7), (9, .int s0)] [.int y20, .int x7, .int x6, .ref (ad 426)] (fl ad m) := by
      intro y20 e_y20
      subst e_y20
      have g21 := g18
      refine J_iload_n hX dX12_isFree_137 rfl 1 rfl ?_
      refine J_iconst (v := (1 : Int32)) hX dX12_isFree_138 (by decide) ?_
      have hj22 : ∀ y23 : Int32, y23 = (if x1 = (1 : Int32) then (s0 + x4) else s0) → J X (0, 0) 152 [(0, .ref (ad 426)), (1, .int x1), (2, .int x2), (3, .int x3), (4, .int x4), (6, .int x6), (7, .int x7)] [.int y23, .int (if x1 = (0 : Int32) then (x8 + x4) else x8), .int x7, .int x6, .ref (ad 426)] (fl ad m) := by
        intro y23 e_y23
        subst e_y23
        have b11 := g21
        refine J_iload_n hX dX12_isFree_152 rfl 2 rfl ?_
        refine J_callV hX km_X12_isNear kl_RX12_382 dX12_isFree_153 ka_426 (by decide) [.int x6, .int x7, .int (if x1 = (0 : Int32) then (x8 + x4) else x8), .int (if x1 = (1 : Int32) then (s0 + x4) else s0), .int x2] ⟨Nat.le_of_ble_eq_true rfl, Nat.le_of_ble_eq_true rfl⟩ rfl rfl (Nat.le_of_ble_eq_true rfl) (c_X12_isNear x6 x7 (if x1 = (0 : Int32) then (x8 + x4) else x8) (if x1 = (1 : Int32) then (s0 + x4) else s0) x2 m b11) (fun v w2 hk => ?_)
        obtain ⟨rfl, rfl⟩ := hk
        show J X (0, 0) 156 [(0, .ref (ad 426)), (1, .int x1), (2, .int x2), (3, .int x3), (4, .int x4), (6, .int x6), (7, .int x7)] [.int (v_X12_isNear x6 x7 (if x1 = (0 : Int32) then (x8 + x4) else x8) (if x1 = (1 : Int32) then (s0 + x4) else s0) x2 m)] (fl ad m)
        refine J_if_ne (tgt := 163) hX dX12_isFree_156 (by decide) (fun c12 => ?_) (fun c12 => ?_)
        · refine J_iconst (v := (0 : Int32)) hX dX12_isFree_163 (by decide) ?_
          exact J_sub [0, 1, 2, 3, 4, 5, 6] rfl (hj15 _ ((if_neg c8).trans (if_neg c12)).symm)
        · refine J_iconst (v := (1 : Int32)) hX dX12_isFree_159 (by decide) ?_
          refine J_goto (tgt := 164) hX dX12_isFree_160 (by decide) ?_
          exact J_sub [0, 1, 2, 3, 4, 5, 6] rfl (hj15 _ ((if_neg c8).trans (if_pos c12)).symm)
      refine J_icmp_ne (tgt := 150) hX dX12_isFree_139 (by decide) (fun c10 => ?_) (fun c10 => ?_)
      · refine J_iload hX dX12_isFree_150 7 rfl ?_
        exact J_sub [0, 1, 2, 3, 4, 5, 6] rfl (hj22 _ (if_neg c10).symm)
      · refine J_iload hX dX12_isFree_142 7 rfl ?_
        refine J_iload hX dX12_isFree_144 4 rfl ?_
        refine J_iadd hX dX12_isFree_146 ?_
        refine J_goto (tgt := 152) hX dX12_isFree_147 (by decide) ?_
        exact J_sub [0, 1, 2, 3, 4, 5, 6] rfl (hj22 _ (if_pos c10).symm)
    refine J_if_ne (tgt := 135) hX dX12_isFree_124 (by decide) (fun c9 => ?_) (fun c9 => ?_)
    · refine J_iload hX dX12_isFree_135 9 rfl ?_
      exact J_sub [1, 2, 3, 4, 5, 7, 8, 0] rfl (hj19 _ (if_neg c9).symm)
    · refine J_iload hX dX12_isFree_127 9 rfl ?_
      refine J_iload hX dX12_isFree_129 5 rfl ?_
      refine J_iadd hX dX12_isFree_131 ?_
      refine J_goto (tgt := 137) hX dX12_isFree_132 (by decide) ?_
      exact J_sub [1, 2, 3, 4, 5, 7, 8, 0] rfl (hj19 _ (if_pos c9).symm)
set_option maxRecDepth 100000 in
theorem t_X12_isFree_j68 {X : XT} {ad : Nat → Nat} {K : Int32 → Mm → Prop} (hX : Cx X cX12_isFree 10 RX12 (rmN 2 48)) (hR : Rx X (some .boolean) (kI ad K) (0, 0)) {k18 : Int32 → Int32 → Mm → Prop} (x1 : Int32) (x2 : Int32) (x3 : Int32) (x4 : Int32) (x5 : Int32) (x6 : Int32) (x7 : Int32) (s0 : Int32) (hk18 : ∀ (z5 : Int32) (z7 : Int32) (m : Mm), k18 z5 z7 m → J X (0, 0) 18 [(0, .ref (ad 426)), (1, .int x1), (2, .int x2), (3, .int x3), (4, .int x4), (5, .int z5), (6, .int x6), (7, .int z7)] [] (fl ad m)) (m : Mm) (h : wp_X12_isFree_j68 k18 K x1 x2 x3 x4 x5 x6 x7 s0 m) : J X (0, 0) 68 [(0, .ref (ad 426)), (1, .int x1), (2, .int x2), (3, .int x3), (4, .int x4), (5, .int x5), (6, .int x6), (7, .int x7)] [.int s0] (fl ad m) := by
  unfold wp_X12_isFree_j68 at h
  refine J_istore (lv2 := [(8, .int s0), (0, .ref (ad 426)), (1, .int x1), (2, .int x2), (3, .int x3), (4, .int x4), (5, .int x5), (6, .int x6), (7, .int x7)]) hX dX12_isFree_68 (Nat.le_of_ble_eq_true rfl) rfl ?_
  refine J_iload_n hX dX12_isFree_70 rfl 4 rfl ?_
  refine J_if_eq (tgt := 104) hX dX12_isFree_71 (by decide) (fun c6 => ?_) (fun c6 => ?_)
  · replace h := Eq.mp (if_pos c6) h
    refine J_aload_n hX dX12_isFree_104 rfl 1 rfl ?_
    refine J_getR hX kf_RX12_29 dX12_isFree_105 ka_426 (by decide) rfl rh_426_8 ?_
    refine J_iload hX dX12_isFree_108 8 rfl ?_
    obtain ⟨b7, h⟩ := h
    refine J_iald (j := x7.toNatClampNeg) hX dX12_isFree_110 ka_433 le_433 b7 rfl ?_
    exact J_sub [1, 2, 3, 4, 5, 6, 7, 8, 0] rfl (t_X12_isFree_j111 hX hR x1 x2 x3 x4 x5 x6 x7 s0 (m.1 433 x7.toNatClampNeg) hk18 m h)
  · replace h := Eq.mp (if_neg c6) h
    refine J_aload_n hX dX12_isFree_74 rfl 1 rfl ?_
    refine J_iconst (v := (1 : Int32)) hX dX12_isFree_75 (by decide) ?_
    refine J_callV hX km_X12_leastOf kl_RX12_376 dX12_isFree_76 ka_426 (by decide) [.int (1 : Int32)] ⟨Nat.le_of_ble_eq_true rfl, Nat.le_of_ble_eq_true rfl⟩ rfl rfl (Nat.le_of_ble_eq_true rfl) (c_X12_leastOf (1 : Int32) m _ h) (fun v w2 hk => ?_)
    obtain ⟨y25, m24, rfl, rfl, h⟩ := hk
    show J X (0, 0) 79 [(8, .int s0), (0, .ref (ad 426)), (1, .int x1), (2, .int x2), (3, .int x3), (4, .int x4), (5, .int x5), (6, .int x6), (7, .int x7)] [.int y25] (fl ad m24)
    refine J_aload_n hX dX12_isFree_79 rfl 1 rfl ?_
    refine J_iconst (v := (1 : Int32)) hX dX12_isFree_80 (by decide) ?_
    refine J_callV hX km_X12_greatestOf kl_RX12_379 dX12_isFree_81 ka_426 (by decide) [.int (1 : Int32)] ⟨Nat.le_of_ble_eq_true rfl, Nat.le_of_ble_eq_true rfl⟩ rfl rfl (Nat.le_of_ble_eq_true rfl) (c_X12_greatestOf (1 : Int32) m24 _ h) (fun v w2 hk => ?_)
    obtain ⟨y27, m26, rfl, rfl, h⟩ := hk
    show J X (0, 0) 84 [(8, .int s0), (0, .ref (ad 426)), (1, .int x1), (2, .int x2), (3, .int x3), (4, .int x4), (5, .int x5), (6, .int x6), (7, .int x7)] [.int y27, .int y25] (fl ad m26)
    refine J_iadd hX dX12_isFree_84 ?_
    refine J_aload_n hX dX12_isFree_85 rfl 1 rfl ?_
    refine J_getR hX kf_RX12_29 dX12_isFree_86 ka_426 (by decide) rfl rh_426_8 ?_
    refine J_iload hX dX12_isFree_89 8 rfl ?_
    obtain ⟨b28, h⟩ := h
    refine J_iald (j := x7.toNatClampNeg) hX dX12_isFree_91 ka_433 le_433 b28 rfl ?_
    refine J_isub hX dX12_isFree_92 ?_
    refine J_aload_n hX dX12_isFree_93 rfl 1 rfl ?_
    refine J_getR hX kf_RX12_35 dX12_isFree_94 ka_426 (by decide) rfl rh_426_10 ?_
    refine J_iload hX dX12_isFree_97 8 rfl ?_
    refine J_iald (j := x7.toNatClampNeg) hX dX12_isFree_99 ka_435 le_435 b28 rfl ?_
    refine J_isub hX dX12_isFree_100 ?_
    refine J_goto (tgt := 111) hX dX12_isFree_101 (by decide) ?_
    exact J_sub [1, 2, 3, 4, 5, 6, 7, 8, 0] rfl (t_X12_isFree_j111 hX hR x1 x2 x3 x4 x5 x6 x7 s0 (((y25 + y27) - (m26.1 433 x7.toNatClampNeg)) - (m26.1 435 x7.toNatClampNeg)) hk18 m26 h)
set_option maxRecDepth 100000 in
theorem tb_X12_isFree_l18 {X : XT} {ad : Nat → Nat} {K : Int32 → Mm → Prop} (hX : Cx X cX12_isFree 10 RX12 (rmN 2 48)) (hR : Rx X (some .boolean) (kI ad K) (0, 0)) {rec : Int32 → Int32 → Mm → Prop} {k6 : Int32 → Int32 → Mm → Prop} (x1 : Int32) (x2 : Int32) (x3 : Int32) (x4 : Int32) (x6 : Int32) (hrec : ∀ (x5 : Int32) (x7 : Int32) (m : Mm), rec x5 x7 m → J X (0, 0) 18 [(0, .ref (ad 426)), (1, .int x1), (2, .int x2), (3, .int x3), (4, .int x4), (5, .int x5), (6, .int x6), (7, .int x7)] [] (fl ad m)) (hk6 : ∀ (z5 : Int32) (z6 : Int32) (m : Mm), k6 z5 z6 m → J X (0, 0) 6 [(0, .ref (ad 426)), (1, .int x1), (2, .int x2), (3, .int x3), (4, .int x4), (5, .int z5), (6, .int z6)] [] (fl ad m)) (x5 : Int32) (x7 : Int32) (m : Mm) (h : wb_X12_isFree_l18 rec k6 K x1 x2 x3 x4 x6 x5 x7 m) : J X (0, 0) 18 [(0, .ref (ad 426)), (1, .int x1), (2, .int x2), (3, .int x3), (4, .int x4), (5, .int x5), (6, .int x6), (7, .int x7)] [] (fl ad m) := by
  unfold wb_X12_isFree_l18 at h
  refine J_iload hX dX12_isFree_18 7 rfl ?_
  refine J_aload_n hX dX12_isFree_20 rfl 0 rfl ?_
  refine J_callV hX km_X12_many kl_RX12_83 dX12_isFree_21 ka_426 (by decide) [] ⟨Nat.le_of_ble_eq_true rfl, Nat.le_of_ble_eq_true rfl⟩ rfl rfl (Nat.le_of_ble_eq_true rfl) (c_X12_many m) (fun v w2 hk => ?_)
  obtain ⟨rfl, rfl⟩ := hk
  show J X (0, 0) 24 [(0, .ref (ad 426)), (1, .int x1), (2, .int x2), (3, .int x3), (4, .int x4), (5, .int x5), (6, .int x6), (7, .int x7)] [.int (v_X12_many m), .int x7] (fl ad m)
  refine J_icmp_ge (tgt := 172) hX dX12_isFree_24 (by decide) (fun c3 => ?_) (fun c3 => ?_)
  · replace h := Eq.mp (if_pos c3) h
    refine J_iinc (x := (x6 + (1 : Int32))) (lv2 := [(6, .int (x6 + (1 : Int32))), (0, .ref (ad 426)), (1, .int x1), (2, .int x2), (3, .int x3), (4, .int x4), (5, .int x5), (7, .int x7)]) hX dX12_isFree_172 6 rfl rfl (Nat.le_of_ble_eq_true rfl) rfl ?_
    refine J_goto (tgt := 6) hX dX12_isFree_175 (by decide) ?_
    exact J_sub [1, 2, 3, 4, 5, 6, 0] rfl (hk6 x5 (x6 + (1 : Int32)) m h)
  · replace h := Eq.mp (if_neg c3) h
    refine J_iload_n hX dX12_isFree_27 rfl 3 rfl ?_
    refine J_if_eq (tgt := 61) hX dX12_isFree_28 (by decide) (fun c4 => ?_) (fun c4 => ?_)
    · replace h := Eq.mp (if_pos c4) h
      refine J_aload_n hX dX12_isFree_61 rfl 0 rfl ?_
      refine J_getR hX kf_RX12_26 dX12_isFree_62 ka_426 (by decide) rfl rh_426_7 ?_
      refine J_iload hX dX12_isFree_65 7 rfl ?_
      obtain ⟨b5, h⟩ := h
      refine J_iald (j := x7.toNatClampNeg) hX dX12_isFree_67 ka_432 le_432 b5 rfl ?_
      exact J_sub [0, 1, 2, 3, 4, 5, 6, 7] rfl (t_X12_isFree_j68 hX hR x1 x2 x3 x4 x5 x6 x7 (m.1 432 x7.toNatClampNeg) hrec m h)
    · replace h := Eq.mp (if_neg c4) h
      refine J_aload_n hX dX12_isFree_31 rfl 0 rfl ?_
      refine J_iconst (v := (0 : Int32)) hX dX12_isFree_32 (by decide) ?_
      refine J_callV hX km_X12_leastOf kl_RX12_376 dX12_isFree_33 ka_426 (by decide) [.int (0 : Int32)] ⟨Nat.le_of_ble_eq_true rfl, Nat.le_of_ble_eq_true rfl⟩ rfl rfl (Nat.le_of_ble_eq_true rfl) (c_X12_leastOf (0 : Int32) m _ h) (fun v w2 hk => ?_)
      obtain ⟨y30, m29, rfl, rfl, h⟩ := hk
      show J X (0, 0) 36 [(0, .ref (ad 426)), (1, .int x1), (2, .int x2), (3, .int x3), (4, .int x4), (5, .int x5), (6, .int x6), (7, .int x7)] [.int y30] (fl ad m29)
      refine J_aload_n hX dX12_isFree_36 rfl 0 rfl ?_
      refine J_iconst (v := (0 : Int32)) hX dX12_isFree_37 (by decide) ?_
      refine J_callV hX km_X12_greatestOf kl_RX12_379 dX12_isFree_38 ka_426 (by decide) [.int (0 : Int32)] ⟨Nat.le_of_ble_eq_true rfl, Nat.le_of_ble_eq_true rfl⟩ rfl rfl (Nat.le_of_ble_eq_true rfl) (c_X12_greatestOf (0 : Int32) m29 _ h) (fun v w2 hk => ?_)
      obtain ⟨y32, m31, rfl, rfl, h⟩ := hk
      show J X (0, 0) 41 [(0, .ref (ad 426)), (1, .int x1), (2, .int x2), (3, .int x3), (4, .int x4), (5, .int x5), (6, .int x6), (7, .int x7)] [.int y32, .int y30] (fl ad m31)
      refine J_iadd hX dX12_isFree_41 ?_
      refine J_aload_n hX dX12_isFree_42 rfl 0 rfl ?_
      refine J_getR hX kf_RX12_26 dX12_isFree_43 ka_426 (by decide) rfl rh_426_7 ?_
      refine J_iload hX dX12_isFree_46 7 rfl ?_
      obtain ⟨b33, h⟩ := h
      refine J_iald (j := x7.toNatClampNeg) hX dX12_isFree_48 ka_432 le_432 b33 rfl ?_
      refine J_isub hX dX12_isFree_49 ?_
      refine J_aload_n hX dX12_isFree_50 rfl 0 rfl ?_
      refine J_getR hX kf_RX12_32 dX12_isFree_51 ka_426 (by decide) rfl rh_426_9 ?_
      refine J_iload hX dX12_isFree_54 7 rfl ?_
      refine J_iald (j := x7.toNatClampNeg) hX dX12_isFree_56 ka_434 le_434 b33 rfl ?_
      refine J_isub hX dX12_isFree_57 ?_
      refine J_goto (tgt := 68) hX dX12_isFree_58 (by decide) ?_
      exact J_sub [0, 1, 2, 3, 4, 5, 6, 7] rfl (t_X12_isFree_j68 hX hR x1 x2 x3 x4 x5 x6 x7 (((y30 + y32) - (m31.1 432 x7.toNatClampNeg)) - (m31.1 434 x7.toNatClampNeg)) hrec m31 h)
set_option maxRecDepth 100000 in
theorem t_X12_isFree_l18 {X : XT} {ad : Nat → Nat} {K : Int32 → Mm → Prop} (hX : Cx X cX12_isFree 10 RX12 (rmN 2 48)) (hR : Rx X (some .boolean) (kI ad K) (0, 0)) {k6 : Int32 → Int32 → Mm → Prop} (x1 : Int32) (x2 : Int32) (x3 : Int32) (x4 : Int32) (x6 : Int32) (hk6 : ∀ (z5 : Int32) (z6 : Int32) (m : Mm), k6 z5 z6 m → J X (0, 0) 6 [(0, .ref (ad 426)), (1, .int x1), (2, .int x2), (3, .int x3), (4, .int x4), (5, .int z5), (6, .int z6)] [] (fl ad m)) : ∀ (n : Nat) (x5 : Int32) (x7 : Int32) (m : Mm), wp_X12_isFree_l18 k6 K x1 x2 x3 x4 x6 n x5 x7 m → J X (0, 0) 18 [(0, .ref (ad 426)), (1, .int x1), (2, .int x2), (3, .int x3), (4, .int x4), (5, .int x5), (6, .int x6), (7, .int x7)] [] (fl ad m) := by
  intro n
  induction n with
  | zero => intro x5 x7 m h; exact h.elim
  | succ n ih => intro x5 x7 m h; exact tb_X12_isFree_l18 hX hR x1 x2 x3 x4 x6 ih hk6 x5 x7 m h
set_option maxRecDepth 100000 in
theorem tb_X12_isFree_l6 {X : XT} {ad : Nat → Nat} {K : Int32 → Mm → Prop} (hX : Cx X cX12_isFree 10 RX12 (rmN 2 48)) (hR : Rx X (some .boolean) (kI ad K) (0, 0)) {rec : Int32 → Int32 → Mm → Prop} (x1 : Int32) (x2 : Int32) (x3 : Int32) (x4 : Int32) (hrec : ∀ (x5 : Int32) (x6 : Int32) (m : Mm), rec x5 x6 m → J X (0, 0) 6 [(0, .ref (ad 426)), (1, .int x1), (2, .int x2), (3, .int x3), (4, .int x4), (5, .int x5), (6, .int x6)] [] (fl ad m)) (x5 : Int32) (x6 : Int32) (m : Mm) (h : wb_X12_isFree_l6 rec K x1 x2 x3 x4 x5 x6 m) : J X (0, 0) 6 [(0, .ref (ad 426)), (1, .int x1), (2, .int x2), (3, .int x3), (4, .int x4), (5, .int x5), (6, .int x6)] [] (fl ad m) := by
  unfold wb_X12_isFree_l6 at h
  refine J_iload hX dX12_isFree_6 6 rfl ?_
  refine J_aload_n hX dX12_isFree_8 rfl 0 rfl ?_
  refine J_callV hX km_X12_many kl_RX12_83 dX12_isFree_9 ka_426 (by decide) [] ⟨Nat.le_of_ble_eq_true rfl, Nat.le_of_ble_eq_true rfl⟩ rfl rfl (Nat.le_of_ble_eq_true rfl) (c_X12_many m) (fun v w2 hk => ?_)
  obtain ⟨rfl, rfl⟩ := hk
  show J X (0, 0) 12 [(0, .ref (ad 426)), (1, .int x1), (2, .int x2), (3, .int x3), (4, .int x4), (5, .int x5), (6, .int x6)] [.int (v_X12_many m), .int x6] (fl ad m)
  refine J_icmp_ge (tgt := 178) hX dX12_isFree_12 (by decide) (fun c1 => ?_) (fun c1 => ?_)
  · replace h := Eq.mp (if_pos c1) h
    refine J_iload hX dX12_isFree_178 5 rfl ?_
    obtain ⟨b2, h⟩ := h
    exact J_zret hX hR dX12_isFree_180 b2 ⟨_, _, rfl, rfl, h⟩
  · replace h := Eq.mp (if_neg c1) h
    refine J_iconst (v := (0 : Int32)) hX dX12_isFree_15 (by decide) ?_
    refine J_istore (lv2 := [(7, .int (0 : Int32)), (0, .ref (ad 426)), (1, .int x1), (2, .int x2), (3, .int x3), (4, .int x4), (5, .int x5), (6, .int x6)]) hX dX12_isFree_16 (Nat.le_of_ble_eq_true rfl) rfl ?_
    refine J_sub [1, 2, 3, 4, 5, 6, 7, 0] rfl (t_X12_isFree_l18 hX hR x1 x2 x3 x4 x6 hrec FU x5 (0 : Int32) m h)
set_option maxRecDepth 100000 in
theorem t_X12_isFree_l6 {X : XT} {ad : Nat → Nat} {K : Int32 → Mm → Prop} (hX : Cx X cX12_isFree 10 RX12 (rmN 2 48)) (hR : Rx X (some .boolean) (kI ad K) (0, 0)) (x1 : Int32) (x2 : Int32) (x3 : Int32) (x4 : Int32) : ∀ (n : Nat) (x5 : Int32) (x6 : Int32) (m : Mm), wp_X12_isFree_l6 K x1 x2 x3 x4 n x5 x6 m → J X (0, 0) 6 [(0, .ref (ad 426)), (1, .int x1), (2, .int x2), (3, .int x3), (4, .int x4), (5, .int x5), (6, .int x6)] [] (fl ad m) := by
  intro n
  induction n with
  | zero => intro x5 x6 m h; exact h.elim
  | succ n ih => intro x5 x6 m h; exact tb_X12_isFree_l6 hX hR x1 x2 x3 x4 ih x5 x6 m h
set_option maxRecDepth 100000 in
theorem c_X12_isFree {G : GT} {ad : Nat → Nat} (x1 : Int32) (x2 : Int32) (x3 : Int32) (x4 : Int32) (m : Mm) (K : Int32 → Mm → Prop) (h : wp_X12_isFree x1 x2 x3 x4 m K) : Cn G yX12_isFree cX12_isFree 10 (some .boolean) (rmN 2 48) [.ref (ad 426), .int x1, .int x2, .int x3, .int x4] (0, 0) (fl ad m) (kI ad K) := by
  unfold wp_X12_isFree at h
  refine Cn.of pn_RX12 (Nat.le_of_ble_eq_true rfl) (fun X hG hX hR => ?_)
  subst hG
  have hX : Cx X cX12_isFree 10 RX12 (rmN 2 48) := hX
  show J X (0, 0) 0 [(0, .ref (ad 426)), (1, .int x1), (2, .int x2), (3, .int x3), (4, .int x4)] [] (fl ad m)
  refine J_iconst (v := (1 : Int32)) hX dX12_isFree_0 (by decide) ?_
  refine J_istore (lv2 := [(5, .int (1 : Int32)), (0, .ref (ad 426)), (1, .int x1), (2, .int x2), (3, .int x3), (4, .int x4)]) hX dX12_isFree_1 (Nat.le_of_ble_eq_true rfl) rfl ?_
  refine J_iconst (v := (0 : Int32)) hX dX12_isFree_3 (by decide) ?_
  refine J_istore (lv2 := [(6, .int (0 : Int32)), (5, .int (1 : Int32)), (0, .ref (ad 426)), (1, .int x1), (2, .int x2), (3, .int x3), (4, .int x4)]) hX dX12_isFree_4 (Nat.le_of_ble_eq_true rfl) rfl ?_
  refine J_sub [2, 3, 4, 5, 6, 1, 0] rfl (t_X12_isFree_l6 hX hR x1 x2 x3 x4 FU (1 : Int32) (0 : Int32) m h)
set_option maxRecDepth 100000 in
theorem t_X12_isShut_j54 {X : XT} {ad : Nat → Nat} {K : Int32 → Mm → Prop} (hX : Cx X cX12_isShut 5 RX12 (rmN 4 103)) (hR : Rx X (some .boolean) (kI ad K) (0, 0)) {k20 : Int32 → Int32 → Mm → Prop} (x1 : Int32) (x3 : Int32) (x4 : Int32) (s0 : Int32) (hk20 : ∀ (z2 : Int32) (z4 : Int32) (m : Mm), k20 z2 z4 m → J X (0, 0) 20 [(0, .ref (ad 426)), (1, .int x1), (2, .int z2), (3, .int x3), (4, .int z4)] [] (fl ad m)) (m : Mm) (h : wp_X12_isShut_j54 k20 K x1 x3 x4 s0 m) : J X (0, 0) 54 [(0, .ref (ad 426)), (1, .int x1), (3, .int x3), (4, .int x4)] [.int s0] (fl ad m) := by
  unfold wp_X12_isShut_j54 at h
  refine J_istore_n (lv2 := [(2, .int s0), (0, .ref (ad 426)), (1, .int x1), (3, .int x3), (4, .int x4)]) hX dX12_isShut_54 rfl (Nat.le_of_ble_eq_true rfl) rfl ?_
  refine J_iinc (x := (x4 + (1 : Int32))) (lv2 := [(4, .int (x4 + (1 : Int32))), (2, .int s0), (0, .ref (ad 426)), (1, .int x1), (3, .int x3)]) hX dX12_isShut_55 4 rfl rfl (Nat.le_of_ble_eq_true rfl) rfl ?_
  refine J_goto (tgt := 20) hX dX12_isShut_58 (by decide) ?_
  exact J_sub [2, 3, 1, 4, 0] rfl (hk20 s0 (x4 + (1 : Int32)) m h)
set_option maxRecDepth 100000 in
theorem t_X12_isShut_j53 {X : XT} {ad : Nat → Nat} {K : Int32 → Mm → Prop} (hX : Cx X cX12_isShut 5 RX12 (rmN 4 103)) (hR : Rx X (some .boolean) (kI ad K) (0, 0)) {k20 : Int32 → Int32 → Mm → Prop} (x1 : Int32) (x3 : Int32) (x4 : Int32) (hk20 : ∀ (z2 : Int32) (z4 : Int32) (m : Mm), k20 z2 z4 m → J X (0, 0) 20 [(0, .ref (ad 426)), (1, .int x1), (2, .int z2), (3, .int x3), (4, .int z4)] [] (fl ad m)) (m : Mm) (h : wp_X12_isShut_j53 k20 K x1 x3 x4 m) : J X (0, 0) 53 [(0, .ref (ad 426)), (1, .int x1), (3, .int x3), (4, .int x4)] [] (fl ad m) := by
  unfold wp_X12_isShut_j53 at h
  refine J_iconst (v := (0 : Int32)) hX dX12_isShut_53 (by decide) ?_
  exact J_sub [0, 1, 2, 3] rfl (t_X12_isShut_j54 hX hR x1 x3 x4 (0 : Int32) hk20 m h)
set_option maxRecDepth 100000 in
theorem tb_X12_isShut_l20 {X : XT} {ad : Nat → Nat} {K : Int32 → Mm → Prop} (hX : Cx X cX12_isShut 5 RX12 (rmN 4 103)) (hR : Rx X (some .boolean) (kI ad K) (0, 0)) {rec : Int32 → Int32 → Mm → Prop} {k9 : Int32 → Int32 → Mm → Prop} (x1 : Int32) (x3 : Int32) (hrec : ∀ (x2 : Int32) (x4 : Int32) (m : Mm), rec x2 x4 m → J X (0, 0) 20 [(0, .ref (ad 426)), (1, .int x1), (2, .int x2), (3, .int x3), (4, .int x4)] [] (fl ad m)) (hk9 : ∀ (z2 : Int32) (z3 : Int32) (m : Mm), k9 z2 z3 m → J X (0, 0) 9 [(0, .ref (ad 426)), (1, .int x1), (2, .int z2), (3, .int z3)] [] (fl ad m)) (x2 : Int32) (x4 : Int32) (m : Mm) (h : wb_X12_isShut_l20 rec k9 K x1 x3 x2 x4 m) : J X (0, 0) 20 [(0, .ref (ad 426)), (1, .int x1), (2, .int x2), (3, .int x3), (4, .int x4)] [] (fl ad m) := by
  unfold wb_X12_isShut_l20 at h
  refine J_iload hX dX12_isShut_20 4 rfl ?_
  refine J_iconst (v := (4 : Int32)) hX dX12_isShut_22 (by decide) ?_
  refine J_icmp_ge (tgt := 61) hX dX12_isShut_23 (by decide) (fun c4 => ?_) (fun c4 => ?_)
  · replace h := Eq.mp (if_pos c4) h
    refine J_iinc (x := (x3 + (1 : Int32))) (lv2 := [(3, .int (x3 + (1 : Int32))), (0, .ref (ad 426)), (1, .int x1), (2, .int x2), (4, .int x4)]) hX dX12_isShut_61 3 rfl rfl (Nat.le_of_ble_eq_true rfl) rfl ?_
    refine J_goto (tgt := 9) hX dX12_isShut_64 (by decide) ?_
    exact J_sub [1, 2, 3, 0] rfl (hk9 x2 (x3 + (1 : Int32)) m h)
  · replace h := Eq.mp (if_neg c4) h
    refine J_aload_n hX dX12_isShut_26 rfl 0 rfl ?_
    refine J_iload_n hX dX12_isShut_27 rfl 3 rfl ?_
    obtain ⟨b5, h⟩ := h
    refine J_callV hX km_X12_isFlap kl_RX12_302 dX12_isShut_28 ka_426 (by decide) [.int x3] ⟨Nat.le_of_ble_eq_true rfl, Nat.le_of_ble_eq_true rfl⟩ rfl rfl (Nat.le_of_ble_eq_true rfl) (c_X12_isFlap x3 m b5) (fun v w2 hk => ?_)
    obtain ⟨rfl, rfl⟩ := hk
    show J X (0, 0) 31 [(0, .ref (ad 426)), (1, .int x1), (2, .int x2), (3, .int x3), (4, .int x4)] [.int (v_X12_isFlap x3 m)] (fl ad m)
    refine J_if_ne (tgt := 61) hX dX12_isShut_31 (by decide) (fun c6 => ?_) (fun c6 => ?_)
    · replace h := Eq.mp (if_neg c6) h
      refine J_iinc (x := (x3 + (1 : Int32))) (lv2 := [(3, .int (x3 + (1 : Int32))), (0, .ref (ad 426)), (1, .int x1), (2, .int x2), (4, .int x4)]) hX dX12_isShut_61 3 rfl rfl (Nat.le_of_ble_eq_true rfl) rfl ?_
      refine J_goto (tgt := 9) hX dX12_isShut_64 (by decide) ?_
      exact J_sub [1, 2, 3, 0] rfl (hk9 x2 (x3 + (1 : Int32)) m h)
    · replace h := Eq.mp (if_pos c6) h
      refine J_iload_n hX dX12_isShut_34 rfl 2 rfl ?_
      refine J_if_eq (tgt := 53) hX dX12_isShut_35 (by decide) (fun c7 => ?_) (fun c7 => ?_)
      · replace h := Eq.mp (if_pos c7) h
        exact J_sub [0, 1, 3, 4] rfl (t_X12_isShut_j53 hX hR x1 x3 x4 hrec m h)
      · replace h := Eq.mp (if_neg c7) h
        refine J_aload_n hX dX12_isShut_38 rfl 0 rfl ?_
        refine J_iload_n hX dX12_isShut_39 rfl 3 rfl ?_
        refine J_iload hX dX12_isShut_40 4 rfl ?_
        refine J_iload_n hX dX12_isShut_42 rfl 1 rfl ?_
        refine J_callV hX km_X12_openOf kl_RX12_317 dX12_isShut_43 ka_426 (by decide) [.int x3, .int x4, .int x1] ⟨Nat.le_of_ble_eq_true rfl, Nat.le_of_ble_eq_true rfl⟩ rfl rfl (Nat.le_of_ble_eq_true rfl) (c_X12_openOf x3 x4 x1 m _ h) (fun v w2 hk => ?_)
        obtain ⟨y9, m8, rfl, rfl, h⟩ := hk
        show J X (0, 0) 46 [(0, .ref (ad 426)), (1, .int x1), (2, .int x2), (3, .int x3), (4, .int x4)] [.int y9] (fl ad m8)
        have hj12 : ∀ y11 : Int32, y11 = (if y9 = (0 : Int32) then (1 : Int32) else (0 : Int32)) → J X (0, 0) 54 [(0, .ref (ad 426)), (1, .int x1), (3, .int x3), (4, .int x4)] [.int y11] (fl ad m8) := by
          intro y11 e_y11
          replace h := h y11 e_y11
          refine J_istore_n (lv2 := [(2, .int y11), (0, .ref (ad 426)), (1, .int x1), (3, .int x3), (4, .int x4)]) hX dX12_isShut_54 rfl (Nat.le_of_ble_eq_true rfl) rfl ?_
          refine J_iinc (x := (x4 + (1 : Int32))) (lv2 := [(4, .int (x4 + (1 : Int32))), (2, .int y11), (0, .ref (ad 426)), (1, .int x1), (3, .int x3)]) hX dX12_isShut_55 4 rfl rfl (Nat.le_of_ble_eq_true rfl) rfl ?_
          refine J_goto (tgt := 20) hX dX12_isShut_58 (by decide) ?_
          exact J_sub [2, 3, 1, 4, 0] rfl (hrec y11 (x4 + (1 : Int32)) m8 h)
        refine J_if_ne (tgt := 53) hX dX12_isShut_46 (by decide) (fun c10 => ?_) (fun c10 => ?_)
        · refine J_iconst (v := (0 : Int32)) hX dX12_isShut_53 (by decide) ?_
          exact J_sub [0, 1, 3, 4] rfl (hj12 _ (if_neg c10).symm)
        · refine J_iconst (v := (1 : Int32)) hX dX12_isShut_49 (by decide) ?_
          refine J_goto (tgt := 54) hX dX12_isShut_50 (by decide) ?_
          exact J_sub [0, 1, 3, 4] rfl (hj12 _ (if_pos c10).symm)
set_option maxRecDepth 100000 in
theorem t_X12_isShut_l20 {X : XT} {ad : Nat → Nat} {K : Int32 → Mm → Prop} (hX : Cx X cX12_isShut 5 RX12 (rmN 4 103)) (hR : Rx X (some .boolean) (kI ad K) (0, 0)) {k9 : Int32 → Int32 → Mm → Prop} (x1 : Int32) (x3 : Int32) (hk9 : ∀ (z2 : Int32) (z3 : Int32) (m : Mm), k9 z2 z3 m → J X (0, 0) 9 [(0, .ref (ad 426)), (1, .int x1), (2, .int z2), (3, .int z3)] [] (fl ad m)) : ∀ (n : Nat) (x2 : Int32) (x4 : Int32) (m : Mm), wp_X12_isShut_l20 k9 K x1 x3 n x2 x4 m → J X (0, 0) 20 [(0, .ref (ad 426)), (1, .int x1), (2, .int x2), (3, .int x3), (4, .int x4)] [] (fl ad m) := by
  intro n
  induction n with
  | zero => intro x2 x4 m h; exact h.elim
  | succ n ih => intro x2 x4 m h; exact tb_X12_isShut_l20 hX hR x1 x3 ih hk9 x2 x4 m h
set_option maxRecDepth 100000 in
theorem tb_X12_isShut_l9 {X : XT} {ad : Nat → Nat} {K : Int32 → Mm → Prop} (hX : Cx X cX12_isShut 5 RX12 (rmN 4 103)) (hR : Rx X (some .boolean) (kI ad K) (0, 0)) {rec : Int32 → Int32 → Mm → Prop} (x1 : Int32) (hrec : ∀ (x2 : Int32) (x3 : Int32) (m : Mm), rec x2 x3 m → J X (0, 0) 9 [(0, .ref (ad 426)), (1, .int x1), (2, .int x2), (3, .int x3)] [] (fl ad m)) (x2 : Int32) (x3 : Int32) (m : Mm) (h : wb_X12_isShut_l9 rec K x1 x2 x3 m) : J X (0, 0) 9 [(0, .ref (ad 426)), (1, .int x1), (2, .int x2), (3, .int x3)] [] (fl ad m) := by
  unfold wb_X12_isShut_l9 at h
  refine J_iload_n hX dX12_isShut_9 rfl 3 rfl ?_
  refine J_aload_n hX dX12_isShut_10 rfl 0 rfl ?_
  refine J_callV hX km_X12_many kl_RX12_83 dX12_isShut_11 ka_426 (by decide) [] ⟨Nat.le_of_ble_eq_true rfl, Nat.le_of_ble_eq_true rfl⟩ rfl rfl (Nat.le_of_ble_eq_true rfl) (c_X12_many m) (fun v w2 hk => ?_)
  obtain ⟨rfl, rfl⟩ := hk
  show J X (0, 0) 14 [(0, .ref (ad 426)), (1, .int x1), (2, .int x2), (3, .int x3)] [.int (v_X12_many m), .int x3] (fl ad m)
  refine J_icmp_ge (tgt := 67) hX dX12_isShut_14 (by decide) (fun c2 => ?_) (fun c2 => ?_)
  · replace h := Eq.mp (if_pos c2) h
    refine J_iload_n hX dX12_isShut_67 rfl 2 rfl ?_
    obtain ⟨b3, h⟩ := h
    exact J_zret hX hR dX12_isShut_68 b3 ⟨_, _, rfl, rfl, h⟩
  · replace h := Eq.mp (if_neg c2) h
    refine J_iconst (v := (0 : Int32)) hX dX12_isShut_17 (by decide) ?_
    refine J_istore (lv2 := [(4, .int (0 : Int32)), (0, .ref (ad 426)), (1, .int x1), (2, .int x2), (3, .int x3)]) hX dX12_isShut_18 (Nat.le_of_ble_eq_true rfl) rfl ?_
    refine J_sub [1, 2, 3, 4, 0] rfl (t_X12_isShut_l20 hX hR x1 x3 hrec FU x2 (0 : Int32) m h)
set_option maxRecDepth 100000 in
theorem t_X12_isShut_l9 {X : XT} {ad : Nat → Nat} {K : Int32 → Mm → Prop} (hX : Cx X cX12_isShut 5 RX12 (rmN 4 103)) (hR : Rx X (some .boolean) (kI ad K) (0, 0)) (x1 : Int32) : ∀ (n : Nat) (x2 : Int32) (x3 : Int32) (m : Mm), wp_X12_isShut_l9 K x1 n x2 x3 m → J X (0, 0) 9 [(0, .ref (ad 426)), (1, .int x1), (2, .int x2), (3, .int x3)] [] (fl ad m) := by
  intro n
  induction n with
  | zero => intro x2 x3 m h; exact h.elim
  | succ n ih => intro x2 x3 m h; exact tb_X12_isShut_l9 hX hR x1 ih x2 x3 m h
set_option maxRecDepth 100000 in
theorem c_X12_isShut {G : GT} {ad : Nat → Nat} (x1 : Int32) (m : Mm) (K : Int32 → Mm → Prop) (h : wp_X12_isShut x1 m K) : Cn G yX12_isShut cX12_isShut 5 (some .boolean) (rmN 4 103) [.ref (ad 426), .int x1] (0, 0) (fl ad m) (kI ad K) := by
  unfold wp_X12_isShut at h
  refine Cn.of pn_RX12 (Nat.le_of_ble_eq_true rfl) (fun X hG hX hR => ?_)
  subst hG
  have hX : Cx X cX12_isShut 5 RX12 (rmN 4 103) := hX
  show J X (0, 0) 0 [(0, .ref (ad 426)), (1, .int x1)] [] (fl ad m)
  refine J_aload_n hX dX12_isShut_0 rfl 0 rfl ?_
  refine J_iload_n hX dX12_isShut_1 rfl 1 rfl ?_
  refine J_callV hX km_X12_findSeams kl_RX12_296 dX12_isShut_2 ka_426 (by decide) [.int x1] ⟨Nat.le_of_ble_eq_true rfl, Nat.le_of_ble_eq_true rfl⟩ rfl rfl (Nat.le_of_ble_eq_true rfl) (c_X12_findSeams x1 m _ h) (fun v w2 hk => ?_)
  obtain ⟨m1, rfl, rfl, h⟩ := hk
  show J X (0, 0) 5 [(0, .ref (ad 426)), (1, .int x1)] [] (fl ad m1)
  refine J_iconst (v := (1 : Int32)) hX dX12_isShut_5 (by decide) ?_
  refine J_istore_n (lv2 := [(2, .int (1 : Int32)), (0, .ref (ad 426)), (1, .int x1)]) hX dX12_isShut_6 rfl (Nat.le_of_ble_eq_true rfl) rfl ?_
  refine J_iconst (v := (0 : Int32)) hX dX12_isShut_7 (by decide) ?_
  refine J_istore_n (lv2 := [(3, .int (0 : Int32)), (2, .int (1 : Int32)), (0, .ref (ad 426)), (1, .int x1)]) hX dX12_isShut_8 rfl (Nat.le_of_ble_eq_true rfl) rfl ?_
  refine J_sub [2, 3, 1, 0] rfl (t_X12_isShut_l9 hX hR x1 FU (1 : Int32) (0 : Int32) m1 h)
set_option maxRecDepth 100000 in
theorem t_X12_leastTolerance_j55 {X : XT} {ad : Nat → Nat} {K : Int32 → Mm → Prop} (hX : Cx X cX12_leastTolerance 4 RX12 (rmN 5 127)) (hR : Rx X (some .int) (kI ad K) (0, 0)) {k16 : Int32 → Int32 → Mm → Prop} (x1 : Int32) (x3 : Int32) (s0 : Int32) (hk16 : ∀ (z2 : Int32) (z3 : Int32) (m : Mm), k16 z2 z3 m → J X (0, 0) 16 [(0, .ref (ad 426)), (1, .int x1), (2, .int z2), (3, .int z3)] [] (fl ad m)) (m : Mm) (h : wp_X12_leastTolerance_j55 k16 K x1 x3 s0 m) : J X (0, 0) 55 [(0, .ref (ad 426)), (1, .int x1), (3, .int x3)] [.int s0] (fl ad m) := by
  unfold wp_X12_leastTolerance_j55 at h
  refine J_istore_n (lv2 := [(2, .int s0), (0, .ref (ad 426)), (1, .int x1), (3, .int x3)]) hX dX12_leastTolerance_55 rfl (Nat.le_of_ble_eq_true rfl) rfl ?_
  refine J_iinc (x := (x3 + (1 : Int32))) (lv2 := [(3, .int (x3 + (1 : Int32))), (2, .int s0), (0, .ref (ad 426)), (1, .int x1)]) hX dX12_leastTolerance_56 3 rfl rfl (Nat.le_of_ble_eq_true rfl) rfl ?_
  refine J_goto (tgt := 16) hX dX12_leastTolerance_59 (by decide) ?_
  exact J_sub [2, 3, 1, 0] rfl (hk16 s0 (x3 + (1 : Int32)) m h)
set_option maxRecDepth 100000 in
theorem t_X12_leastTolerance_j54 {X : XT} {ad : Nat → Nat} {K : Int32 → Mm → Prop} (hX : Cx X cX12_leastTolerance 4 RX12 (rmN 5 127)) (hR : Rx X (some .int) (kI ad K) (0, 0)) {k16 : Int32 → Int32 → Mm → Prop} (x1 : Int32) (x3 : Int32) (hk16 : ∀ (z2 : Int32) (z3 : Int32) (m : Mm), k16 z2 z3 m → J X (0, 0) 16 [(0, .ref (ad 426)), (1, .int x1), (2, .int z2), (3, .int z3)] [] (fl ad m)) (m : Mm) (h : wp_X12_leastTolerance_j54 k16 K x1 x3 m) : J X (0, 0) 54 [(0, .ref (ad 426)), (1, .int x1), (3, .int x3)] [] (fl ad m) := by
  unfold wp_X12_leastTolerance_j54 at h
  refine J_iconst (v := (0 : Int32)) hX dX12_leastTolerance_54 (by decide) ?_
  exact J_sub [0, 1, 2] rfl (t_X12_leastTolerance_j55 hX hR x1 x3 (0 : Int32) hk16 m h)
set_option maxRecDepth 100000 in
theorem t_X12_leastTolerance_j50 {X : XT} {ad : Nat → Nat} {K : Int32 → Mm → Prop} (hX : Cx X cX12_leastTolerance 4 RX12 (rmN 5 127)) (hR : Rx X (some .int) (kI ad K) (0, 0)) {k16 : Int32 → Int32 → Mm → Prop} (x1 : Int32) (x3 : Int32) (hk16 : ∀ (z2 : Int32) (z3 : Int32) (m : Mm), k16 z2 z3 m → J X (0, 0) 16 [(0, .ref (ad 426)), (1, .int x1), (2, .int z2), (3, .int z3)] [] (fl ad m)) (m : Mm) (h : wp_X12_leastTolerance_j50 k16 K x1 x3 m) : J X (0, 0) 50 [(0, .ref (ad 426)), (1, .int x1), (3, .int x3)] [] (fl ad m) := by
  unfold wp_X12_leastTolerance_j50 at h
  refine J_iconst (v := (1 : Int32)) hX dX12_leastTolerance_50 (by decide) ?_
  refine J_goto (tgt := 55) hX dX12_leastTolerance_51 (by decide) ?_
  exact J_sub [0, 1, 2] rfl (t_X12_leastTolerance_j55 hX hR x1 x3 (1 : Int32) hk16 m h)
set_option maxRecDepth 100000 in
theorem tb_X12_leastTolerance_l16 {X : XT} {ad : Nat → Nat} {K : Int32 → Mm → Prop} (hX : Cx X cX12_leastTolerance 4 RX12 (rmN 5 127)) (hR : Rx X (some .int) (kI ad K) (0, 0)) {rec : Int32 → Int32 → Mm → Prop} {k62 : Int32 → Mm → Prop} (x1 : Int32) (hrec : ∀ (x2 : Int32) (x3 : Int32) (m : Mm), rec x2 x3 m → J X (0, 0) 16 [(0, .ref (ad 426)), (1, .int x1), (2, .int x2), (3, .int x3)] [] (fl ad m)) (hk62 : ∀ (z2 : Int32) (m : Mm), k62 z2 m → J X (0, 0) 62 [(0, .ref (ad 426)), (1, .int x1), (2, .int z2)] [] (fl ad m)) (x2 : Int32) (x3 : Int32) (m : Mm) (h : wb_X12_leastTolerance_l16 rec k62 K x1 x2 x3 m) : J X (0, 0) 16 [(0, .ref (ad 426)), (1, .int x1), (2, .int x2), (3, .int x3)] [] (fl ad m) := by
  unfold wb_X12_leastTolerance_l16 at h
  refine J_iload_n hX dX12_leastTolerance_16 rfl 3 rfl ?_
  refine J_aload_n hX dX12_leastTolerance_17 rfl 0 rfl ?_
  refine J_callV hX km_X12_many kl_RX12_83 dX12_leastTolerance_18 ka_426 (by decide) [] ⟨Nat.le_of_ble_eq_true rfl, Nat.le_of_ble_eq_true rfl⟩ rfl rfl (Nat.le_of_ble_eq_true rfl) (c_X12_many m) (fun v w2 hk => ?_)
  obtain ⟨rfl, rfl⟩ := hk
  show J X (0, 0) 21 [(0, .ref (ad 426)), (1, .int x1), (2, .int x2), (3, .int x3)] [.int (v_X12_many m), .int x3] (fl ad m)
  refine J_icmp_ge (tgt := 62) hX dX12_leastTolerance_21 (by decide) (fun c4 => ?_) (fun c4 => ?_)
  · replace h := Eq.mp (if_pos c4) h
    exact J_sub [0, 1, 2] rfl (hk62 x2 m h)
  · replace h := Eq.mp (if_neg c4) h
    refine J_iload_n hX dX12_leastTolerance_24 rfl 2 rfl ?_
    refine J_if_eq (tgt := 54) hX dX12_leastTolerance_25 (by decide) (fun c5 => ?_) (fun c5 => ?_)
    · replace h := Eq.mp (if_pos c5) h
      exact J_sub [0, 1, 3] rfl (t_X12_leastTolerance_j54 hX hR x1 x3 hrec m h)
    · replace h := Eq.mp (if_neg c5) h
      refine J_aload_n hX dX12_leastTolerance_28 rfl 0 rfl ?_
      refine J_iload_n hX dX12_leastTolerance_29 rfl 3 rfl ?_
      obtain ⟨b6, h⟩ := h
      refine J_callV hX km_X12_isFlap kl_RX12_302 dX12_leastTolerance_30 ka_426 (by decide) [.int x3] ⟨Nat.le_of_ble_eq_true rfl, Nat.le_of_ble_eq_true rfl⟩ rfl rfl (Nat.le_of_ble_eq_true rfl) (c_X12_isFlap x3 m b6) (fun v w2 hk => ?_)
      obtain ⟨rfl, rfl⟩ := hk
      show J X (0, 0) 33 [(0, .ref (ad 426)), (1, .int x1), (2, .int x2), (3, .int x3)] [.int (v_X12_isFlap x3 m)] (fl ad m)
      refine J_if_eq (tgt := 50) hX dX12_leastTolerance_33 (by decide) (fun c7 => ?_) (fun c7 => ?_)
      · replace h := Eq.mp (if_pos c7) h
        exact J_sub [0, 1, 3] rfl (t_X12_leastTolerance_j50 hX hR x1 x3 hrec m h)
      · replace h := Eq.mp (if_neg c7) h
        refine J_aload_n hX dX12_leastTolerance_36 rfl 0 rfl ?_
        refine J_iload_n hX dX12_leastTolerance_37 rfl 3 rfl ?_
        refine J_iload_n hX dX12_leastTolerance_38 rfl 1 rfl ?_
        refine J_callV hX km_X12_covered kl_RX12_332 dX12_leastTolerance_39 ka_426 (by decide) [.int x3, .int x1] ⟨Nat.le_of_ble_eq_true rfl, Nat.le_of_ble_eq_true rfl⟩ rfl rfl (Nat.le_of_ble_eq_true rfl) (c_X12_covered x3 x1 m _ h) (fun v w2 hk => ?_)
        obtain ⟨y9, m8, rfl, rfl, h⟩ := hk
        show J X (0, 0) 42 [(0, .ref (ad 426)), (1, .int x1), (2, .int x2), (3, .int x3)] [.int y9] (fl ad m8)
        refine J_aload_n hX dX12_leastTolerance_42 rfl 0 rfl ?_
        refine J_iconst (v := (3 : Int32)) hX dX12_leastTolerance_43 (by decide) ?_
        obtain ⟨b10, h⟩ := h
        refine J_callV hX km_X12_limitOf kl_RX12_293 dX12_leastTolerance_44 ka_426 (by decide) [.int (3 : Int32)] ⟨Nat.le_of_ble_eq_true rfl, Nat.le_of_ble_eq_true rfl⟩ rfl rfl (Nat.le_of_ble_eq_true rfl) (c_X12_limitOf (3 : Int32) m8 b10) (fun v w2 hk => ?_)
        obtain ⟨rfl, rfl⟩ := hk
        show J X (0, 0) 47 [(0, .ref (ad 426)), (1, .int x1), (2, .int x2), (3, .int x3)] [.int (v_X12_limitOf (3 : Int32) m8), .int y9] (fl ad m8)
        have hj13 : ∀ y12 : Int32, y12 = (if y9 < (v_X12_limitOf (3 : Int32) m8) then (0 : Int32) else (1 : Int32)) → J X (0, 0) 55 [(0, .ref (ad 426)), (1, .int x1), (3, .int x3)] [.int y12] (fl ad m8) := by
          intro y12 e_y12
          replace h := h y12 e_y12
          refine J_istore_n (lv2 := [(2, .int y12), (0, .ref (ad 426)), (1, .int x1), (3, .int x3)]) hX dX12_leastTolerance_55 rfl (Nat.le_of_ble_eq_true rfl) rfl ?_
          refine J_iinc (x := (x3 + (1 : Int32))) (lv2 := [(3, .int (x3 + (1 : Int32))), (2, .int y12), (0, .ref (ad 426)), (1, .int x1)]) hX dX12_leastTolerance_56 3 rfl rfl (Nat.le_of_ble_eq_true rfl) rfl ?_
          refine J_goto (tgt := 16) hX dX12_leastTolerance_59 (by decide) ?_
          exact J_sub [2, 3, 1, 0] rfl (hrec y12 (x3 + (1 : Int32)) m8 h)
        refine J_icmp_lt (tgt := 54) hX dX12_leastTolerance_47 (by decide) (fun c11 => ?_) (fun c11 => ?_)
        · refine J_iconst (v := (0 : Int32)) hX dX12_leastTolerance_54 (by decide) ?_
          exact J_sub [0, 1, 3] rfl (hj13 _ (if_pos c11).symm)
        · refine J_iconst (v := (1 : Int32)) hX dX12_leastTolerance_50 (by decide) ?_
          refine J_goto (tgt := 55) hX dX12_leastTolerance_51 (by decide) ?_
          exact J_sub [0, 1, 3] rfl (hj13 _ (if_neg c11).symm)
set_option maxRecDepth 100000 in
theorem t_X12_leastTolerance_l16 {X : XT} {ad : Nat → Nat} {K : Int32 → Mm → Prop} (hX : Cx X cX12_leastTolerance 4 RX12 (rmN 5 127)) (hR : Rx X (some .int) (kI ad K) (0, 0)) {k62 : Int32 → Mm → Prop} (x1 : Int32) (hk62 : ∀ (z2 : Int32) (m : Mm), k62 z2 m → J X (0, 0) 62 [(0, .ref (ad 426)), (1, .int x1), (2, .int z2)] [] (fl ad m)) : ∀ (n : Nat) (x2 : Int32) (x3 : Int32) (m : Mm), wp_X12_leastTolerance_l16 k62 K x1 n x2 x3 m → J X (0, 0) 16 [(0, .ref (ad 426)), (1, .int x1), (2, .int x2), (3, .int x3)] [] (fl ad m) := by
  intro n
  induction n with
  | zero => intro x2 x3 m h; exact h.elim
  | succ n ih => intro x2 x3 m h; exact tb_X12_leastTolerance_l16 hX hR x1 ih hk62 x2 x3 m h
set_option maxRecDepth 100000 in
theorem tb_X12_leastTolerance_l2 {X : XT} {ad : Nat → Nat} {K : Int32 → Mm → Prop} (hX : Cx X cX12_leastTolerance 4 RX12 (rmN 5 127)) (hR : Rx X (some .int) (kI ad K) (0, 0)) {rec : Int32 → Mm → Prop} (hrec : ∀ (x1 : Int32) (m : Mm), rec x1 m → J X (0, 0) 2 [(0, .ref (ad 426)), (1, .int x1)] [] (fl ad m)) (x1 : Int32) (m : Mm) (h : wb_X12_leastTolerance_l2 rec K x1 m) : J X (0, 0) 2 [(0, .ref (ad 426)), (1, .int x1)] [] (fl ad m) := by
  unfold wb_X12_leastTolerance_l2 at h
  refine J_iload_n hX dX12_leastTolerance_2 rfl 1 rfl ?_
  refine J_bipush (v := (20 : Int32)) hX dX12_leastTolerance_3 (by decide) ?_
  refine J_icmp_gt (tgt := 74) hX dX12_leastTolerance_5 (by decide) (fun c1 => ?_) (fun c1 => ?_)
  · replace h := Eq.mp (if_pos c1) h
    refine J_bipush (v := (-9 : Int32)) hX dX12_leastTolerance_74 (by decide) ?_
    exact J_iret hX hR dX12_leastTolerance_76 ⟨_, _, rfl, rfl, h⟩
  · replace h := Eq.mp (if_neg c1) h
    refine J_aload_n hX dX12_leastTolerance_8 rfl 0 rfl ?_
    refine J_iload_n hX dX12_leastTolerance_9 rfl 1 rfl ?_
    refine J_callV hX km_X12_isShut kl_RX12_394 dX12_leastTolerance_10 ka_426 (by decide) [.int x1] ⟨Nat.le_of_ble_eq_true rfl, Nat.le_of_ble_eq_true rfl⟩ rfl rfl (Nat.le_of_ble_eq_true rfl) (c_X12_isShut x1 m _ h) (fun v w2 hk => ?_)
    obtain ⟨y3, m2, rfl, rfl, h⟩ := hk
    show J X (0, 0) 13 [(0, .ref (ad 426)), (1, .int x1)] [.int y3] (fl ad m2)
    refine J_istore_n (lv2 := [(2, .int y3), (0, .ref (ad 426)), (1, .int x1)]) hX dX12_leastTolerance_13 rfl (Nat.le_of_ble_eq_true rfl) rfl ?_
    refine J_iconst (v := (0 : Int32)) hX dX12_leastTolerance_14 (by decide) ?_
    refine J_istore_n (lv2 := [(3, .int (0 : Int32)), (2, .int y3), (0, .ref (ad 426)), (1, .int x1)]) hX dX12_leastTolerance_15 rfl (Nat.le_of_ble_eq_true rfl) rfl ?_
    refine J_sub [2, 3, 1, 0] rfl (t_X12_leastTolerance_l16 hX hR x1 (fun y14 m15 h => ?_) FU y3 (0 : Int32) m2 h)
    refine J_iload_n hX dX12_leastTolerance_62 rfl 2 rfl ?_
    refine J_if_eq (tgt := 68) hX dX12_leastTolerance_63 (by decide) (fun c16 => ?_) (fun c16 => ?_)
    · replace h := Eq.mp (if_pos c16) h
      refine J_iinc (x := (x1 + (1 : Int32))) (lv2 := [(1, .int (x1 + (1 : Int32))), (0, .ref (ad 426)), (2, .int y14)]) hX dX12_leastTolerance_68 1 rfl rfl (Nat.le_of_ble_eq_true rfl) rfl ?_
      refine J_goto (tgt := 2) hX dX12_leastTolerance_71 (by decide) ?_
      exact J_sub [1, 0] rfl (hrec (x1 + (1 : Int32)) m15 h)
    · replace h := Eq.mp (if_neg c16) h
      refine J_iload_n hX dX12_leastTolerance_66 rfl 1 rfl ?_
      exact J_iret hX hR dX12_leastTolerance_67 ⟨_, _, rfl, rfl, h⟩
set_option maxRecDepth 100000 in
theorem t_X12_leastTolerance_l2 {X : XT} {ad : Nat → Nat} {K : Int32 → Mm → Prop} (hX : Cx X cX12_leastTolerance 4 RX12 (rmN 5 127)) (hR : Rx X (some .int) (kI ad K) (0, 0))  : ∀ (n : Nat) (x1 : Int32) (m : Mm), wp_X12_leastTolerance_l2 K n x1 m → J X (0, 0) 2 [(0, .ref (ad 426)), (1, .int x1)] [] (fl ad m) := by
  intro n
  induction n with
  | zero => intro x1 m h; exact h.elim
  | succ n ih => intro x1 m h; exact tb_X12_leastTolerance_l2 hX hR ih x1 m h
set_option maxRecDepth 100000 in
theorem c_X12_leastTolerance {G : GT} {ad : Nat → Nat} (m : Mm) (K : Int32 → Mm → Prop) (h : wp_X12_leastTolerance m K) : Cn G yX12_leastTolerance cX12_leastTolerance 4 (some .int) (rmN 5 127) [.ref (ad 426)] (0, 0) (fl ad m) (kI ad K) := by
  unfold wp_X12_leastTolerance at h
  refine Cn.of pn_RX12 (Nat.le_of_ble_eq_true rfl) (fun X hG hX hR => ?_)
  subst hG
  have hX : Cx X cX12_leastTolerance 4 RX12 (rmN 5 127) := hX
  show J X (0, 0) 0 [(0, .ref (ad 426))] [] (fl ad m)
  refine J_iconst (v := (0 : Int32)) hX dX12_leastTolerance_0 (by decide) ?_
  refine J_istore_n (lv2 := [(1, .int (0 : Int32)), (0, .ref (ad 426))]) hX dX12_leastTolerance_1 rfl (Nat.le_of_ble_eq_true rfl) rfl ?_
  refine J_sub [1, 0] rfl (t_X12_leastTolerance_l2 hX hR FU (0 : Int32) m h)
set_option maxRecDepth 100000 in
theorem tb_X12_skips_l0 {X : XT} {ad : Nat → Nat} {K : Mm → Prop} (hX : Cx X cX12_skips 1 RX12 (rmN 1 21)) (hR : Rx X none (kV ad K) (0, 0)) {rec : Mm → Prop} (hrec : ∀ (m : Mm), rec m → J X (0, 0) 0 [(0, .ref (ad 426))] [] (fl ad m)) (m : Mm) (h : wb_X12_skips_l0 rec K m) : J X (0, 0) 0 [(0, .ref (ad 426))] [] (fl ad m) := by
  unfold wb_X12_skips_l0 at h
  refine J_aload_n hX dX12_skips_0 rfl 0 rfl ?_
  refine J_aload_n hX dX12_skips_1 rfl 0 rfl ?_
  refine J_getI hX kf_RX12_185 dX12_skips_2 ka_426 (by decide) rfl ?_
  obtain ⟨b1, h⟩ := h
  refine J_callV hX km_X12_here kl_RX12_176 dX12_skips_5 ka_426 (by decide) [.int (m.1 426 14)] ⟨Nat.le_of_ble_eq_true rfl, Nat.le_of_ble_eq_true rfl⟩ rfl rfl (Nat.le_of_ble_eq_true rfl) (c_X12_here (m.1 426 14) m b1) (fun v w2 hk => ?_)
  obtain ⟨rfl, rfl⟩ := hk
  show J X (0, 0) 8 [(0, .ref (ad 426))] [.int (v_X12_here (m.1 426 14) m)] (fl ad m)
  refine J_bipush (v := (32 : Int32)) hX dX12_skips_8 (by decide) ?_
  refine J_icmp_ne (tgt := 26) hX dX12_skips_10 (by decide) (fun c2 => ?_) (fun c2 => ?_)
  · replace h := Eq.mp (if_neg c2) h
    exact J_vret hX hR dX12_skips_26 ⟨_, rfl, rfl, h⟩
  · replace h := Eq.mp (if_pos c2) h
    refine J_aload_n hX dX12_skips_13 rfl 0 rfl ?_
    refine J_dup hX dX12_skips_14 rfl ?_
    refine J_getI hX kf_RX12_185 dX12_skips_15 ka_426 (by decide) rfl ?_
    refine J_iconst (v := (1 : Int32)) hX dX12_skips_18 (by decide) ?_
    refine J_iadd hX dX12_skips_19 ?_
    refine J_putI hX kf_RX12_185 dX12_skips_20 ka_426 (by decide) rfl ?_
    refine J_nmM (fun m3 e_m3 => ?_)
    replace h := h m3 e_m3
    refine J_goto (tgt := 0) hX dX12_skips_23 (by decide) ?_
    exact J_sub [0] rfl (hrec m3 h)
set_option maxRecDepth 100000 in
theorem t_X12_skips_l0 {X : XT} {ad : Nat → Nat} {K : Mm → Prop} (hX : Cx X cX12_skips 1 RX12 (rmN 1 21)) (hR : Rx X none (kV ad K) (0, 0))  : ∀ (n : Nat) (m : Mm), wp_X12_skips_l0 K n m → J X (0, 0) 0 [(0, .ref (ad 426))] [] (fl ad m) := by
  intro n
  induction n with
  | zero => intro m h; exact h.elim
  | succ n ih => intro m h; exact tb_X12_skips_l0 hX hR ih m h
set_option maxRecDepth 100000 in
theorem c_X12_skips {G : GT} {ad : Nat → Nat} (m : Mm) (K : Mm → Prop) (h : wp_X12_skips m K) : Cn G yX12_skips cX12_skips 1 none (rmN 1 21) [.ref (ad 426)] (0, 0) (fl ad m) (kV ad K) := by
  unfold wp_X12_skips at h
  refine Cn.of pn_RX12 (Nat.le_of_ble_eq_true rfl) (fun X hG hX hR => ?_)
  subst hG
  have hX : Cx X cX12_skips 1 RX12 (rmN 1 21) := hX
  show J X (0, 0) 0 [(0, .ref (ad 426))] [] (fl ad m)
  refine J_sub [0] rfl (t_X12_skips_l0 hX hR FU m h)
set_option maxRecDepth 100000 in
theorem c_X12_numbersOf {G : GT} {ad : Nat → Nat} (x0 : Int32) (m : Mm) : Cn G yX12_numbersOf cX12_numbersOf 1 (some .int) (rmN 0 0) [.int x0] (0, 0) (fl ad m) (fun v w => v = some (.int (v_X12_numbersOf x0)) ∧ w = fl ad m) := by
  refine Cn.of pn_RX12 (Nat.le_of_ble_eq_true rfl) (fun X hG hX hR => ?_)
  subst hG
  have hX : Cx X cX12_numbersOf 1 RX12 (rmN 0 0) := hX
  show J X (0, 0) 0 [(0, .int x0)] [] (fl ad m)
  refine J_iload_n hX dX12_numbersOf_0 rfl 0 rfl ?_
  refine J_bipush (v := (115 : Int32)) hX dX12_numbersOf_1 (by decide) ?_
  have hj7 : ∀ y8 : Int32, y8 = (if x0 = (115 : Int32) then (2 : Int32) else (if x0 = (102 : Int32) then (2 : Int32) else (if x0 = (105 : Int32) then (3 : Int32) else (if x0 = (98 : Int32) then (4 : Int32) else (if x0 = (97 : Int32) then (5 : Int32) else (if x0 = (112 : Int32) then (6 : Int32) else (0 : Int32))))))) → J X (0, 0) 58 [] [.int y8] (fl ad m) := by
    intro y8 e_y8
    subst e_y8
    exact J_iret hX hR dX12_numbersOf_58 (And.intro (congrArg (fun z => some (Value.int z)) (show (if x0 = (115 : Int32) then (2 : Int32) else (if x0 = (102 : Int32) then (2 : Int32) else (if x0 = (105 : Int32) then (3 : Int32) else (if x0 = (98 : Int32) then (4 : Int32) else (if x0 = (97 : Int32) then (5 : Int32) else (if x0 = (112 : Int32) then (6 : Int32) else (0 : Int32))))))) = v_X12_numbersOf x0 from rfl)) rfl)
  refine J_icmp_eq (tgt := 12) hX dX12_numbersOf_3 (by decide) (fun c1 => ?_) (fun c1 => ?_)
  · refine J_iconst (v := (2 : Int32)) hX dX12_numbersOf_12 (by decide) ?_
    refine J_goto (tgt := 58) hX dX12_numbersOf_13 (by decide) ?_
    exact J_sub [] rfl (hj7 _ (if_pos c1).symm)
  · refine J_iload_n hX dX12_numbersOf_6 rfl 0 rfl ?_
    refine J_bipush (v := (102 : Int32)) hX dX12_numbersOf_7 (by decide) ?_
    refine J_icmp_ne (tgt := 16) hX dX12_numbersOf_9 (by decide) (fun c2 => ?_) (fun c2 => ?_)
    · refine J_iload_n hX dX12_numbersOf_16 rfl 0 rfl ?_
      refine J_bipush (v := (105 : Int32)) hX dX12_numbersOf_17 (by decide) ?_
      refine J_icmp_ne (tgt := 26) hX dX12_numbersOf_19 (by decide) (fun c3 => ?_) (fun c3 => ?_)
      · refine J_iload_n hX dX12_numbersOf_26 rfl 0 rfl ?_
        refine J_bipush (v := (98 : Int32)) hX dX12_numbersOf_27 (by decide) ?_
        refine J_icmp_ne (tgt := 36) hX dX12_numbersOf_29 (by decide) (fun c4 => ?_) (fun c4 => ?_)
        · refine J_iload_n hX dX12_numbersOf_36 rfl 0 rfl ?_
          refine J_bipush (v := (97 : Int32)) hX dX12_numbersOf_37 (by decide) ?_
          refine J_icmp_ne (tgt := 46) hX dX12_numbersOf_39 (by decide) (fun c5 => ?_) (fun c5 => ?_)
          · refine J_iload_n hX dX12_numbersOf_46 rfl 0 rfl ?_
            refine J_bipush (v := (112 : Int32)) hX dX12_numbersOf_47 (by decide) ?_
            refine J_icmp_ne (tgt := 57) hX dX12_numbersOf_49 (by decide) (fun c6 => ?_) (fun c6 => ?_)
            · refine J_iconst (v := (0 : Int32)) hX dX12_numbersOf_57 (by decide) ?_
              exact J_sub [] rfl (hj7 _ ((if_neg c1).trans ((if_neg c2).trans ((if_neg c3).trans ((if_neg c4).trans ((if_neg c5).trans (if_neg c6)))))).symm)
            · refine J_bipush (v := (6 : Int32)) hX dX12_numbersOf_52 (by decide) ?_
              refine J_goto (tgt := 58) hX dX12_numbersOf_54 (by decide) ?_
              exact J_sub [] rfl (hj7 _ ((if_neg c1).trans ((if_neg c2).trans ((if_neg c3).trans ((if_neg c4).trans ((if_neg c5).trans (if_pos c6)))))).symm)
          · refine J_iconst (v := (5 : Int32)) hX dX12_numbersOf_42 (by decide) ?_
            refine J_goto (tgt := 58) hX dX12_numbersOf_43 (by decide) ?_
            exact J_sub [] rfl (hj7 _ ((if_neg c1).trans ((if_neg c2).trans ((if_neg c3).trans ((if_neg c4).trans (if_pos c5))))).symm)
        · refine J_iconst (v := (4 : Int32)) hX dX12_numbersOf_32 (by decide) ?_
          refine J_goto (tgt := 58) hX dX12_numbersOf_33 (by decide) ?_
          exact J_sub [] rfl (hj7 _ ((if_neg c1).trans ((if_neg c2).trans ((if_neg c3).trans (if_pos c4)))).symm)
      · refine J_iconst (v := (3 : Int32)) hX dX12_numbersOf_22 (by decide) ?_
        refine J_goto (tgt := 58) hX dX12_numbersOf_23 (by decide) ?_
        exact J_sub [] rfl (hj7 _ ((if_neg c1).trans ((if_neg c2).trans (if_pos c3))).symm)
    · refine J_iconst (v := (2 : Int32)) hX dX12_numbersOf_12 (by decide) ?_
      refine J_goto (tgt := 58) hX dX12_numbersOf_13 (by decide) ?_
      exact J_sub [] rfl (hj7 _ ((if_neg c1).trans (if_pos c2)).symm)
set_option maxRecDepth 100000 in
theorem tb_X12_numberEnd_l20 {X : XT} {ad : Nat → Nat} {K : Int32 → Mm → Prop} (hX : Cx X cX12_numberEnd 4 RX12 (rmN 2 43)) (hR : Rx X (some .int) (kI ad K) (0, 0)) {rec : Int32 → Mm → Prop} {k34 : Int32 → Mm → Prop} (x1 : Int32) (x2 : Int32) (hrec : ∀ (x3 : Int32) (m : Mm), rec x3 m → J X (0, 0) 20 [(0, .ref (ad 426)), (1, .int x1), (2, .int x2), (3, .int x3)] [] (fl ad m)) (hk34 : ∀ (z3 : Int32) (m : Mm), k34 z3 m → J X (0, 0) 34 [(1, .int x1), (2, .int x2), (3, .int z3)] [] (fl ad m)) (x3 : Int32) (m : Mm) (h : wb_X12_numberEnd_l20 rec k34 K x1 x2 x3 m) : J X (0, 0) 20 [(0, .ref (ad 426)), (1, .int x1), (2, .int x2), (3, .int x3)] [] (fl ad m) := by
  unfold wb_X12_numberEnd_l20 at h
  refine J_aload_n hX dX12_numberEnd_20 rfl 0 rfl ?_
  refine J_iload_n hX dX12_numberEnd_21 rfl 3 rfl ?_
  obtain ⟨b4, h⟩ := h
  refine J_callV hX km_X12_isDigit kl_RX12_179 dX12_numberEnd_22 ka_426 (by decide) [.int x3] ⟨Nat.le_of_ble_eq_true rfl, Nat.le_of_ble_eq_true rfl⟩ rfl rfl (Nat.le_of_ble_eq_true rfl) (c_X12_isDigit x3 m b4) (fun v w2 hk => ?_)
  obtain ⟨rfl, rfl⟩ := hk
  show J X (0, 0) 25 [(0, .ref (ad 426)), (1, .int x1), (2, .int x2), (3, .int x3)] [.int (v_X12_isDigit x3 m)] (fl ad m)
  refine J_if_eq (tgt := 34) hX dX12_numberEnd_25 (by decide) (fun c5 => ?_) (fun c5 => ?_)
  · replace h := Eq.mp (if_pos c5) h
    exact J_sub [1, 2, 3] rfl (hk34 x3 m h)
  · replace h := Eq.mp (if_neg c5) h
    refine J_iinc (x := (x3 + (1 : Int32))) (lv2 := [(3, .int (x3 + (1 : Int32))), (0, .ref (ad 426)), (1, .int x1), (2, .int x2)]) hX dX12_numberEnd_28 3 rfl rfl (Nat.le_of_ble_eq_true rfl) rfl ?_
    refine J_goto (tgt := 20) hX dX12_numberEnd_31 (by decide) ?_
    exact J_sub [1, 2, 3, 0] rfl (hrec (x3 + (1 : Int32)) m h)
set_option maxRecDepth 100000 in
theorem t_X12_numberEnd_l20 {X : XT} {ad : Nat → Nat} {K : Int32 → Mm → Prop} (hX : Cx X cX12_numberEnd 4 RX12 (rmN 2 43)) (hR : Rx X (some .int) (kI ad K) (0, 0)) {k34 : Int32 → Mm → Prop} (x1 : Int32) (x2 : Int32) (hk34 : ∀ (z3 : Int32) (m : Mm), k34 z3 m → J X (0, 0) 34 [(1, .int x1), (2, .int x2), (3, .int z3)] [] (fl ad m)) : ∀ (n : Nat) (x3 : Int32) (m : Mm), wp_X12_numberEnd_l20 k34 K x1 x2 n x3 m → J X (0, 0) 20 [(0, .ref (ad 426)), (1, .int x1), (2, .int x2), (3, .int x3)] [] (fl ad m) := by
  intro n
  induction n with
  | zero => intro x3 m h; exact h.elim
  | succ n ih => intro x3 m h; exact tb_X12_numberEnd_l20 hX hR x1 x2 ih hk34 x3 m h
set_option maxRecDepth 100000 in
theorem c_X12_numberEnd {G : GT} {ad : Nat → Nat} (x1 : Int32) (m : Mm) (K : Int32 → Mm → Prop) (h : wp_X12_numberEnd x1 m K) : Cn G yX12_numberEnd cX12_numberEnd 4 (some .int) (rmN 2 43) [.ref (ad 426), .int x1] (0, 0) (fl ad m) (kI ad K) := by
  unfold wp_X12_numberEnd at h
  refine Cn.of pn_RX12 (Nat.le_of_ble_eq_true rfl) (fun X hG hX hR => ?_)
  subst hG
  have hX : Cx X cX12_numberEnd 4 RX12 (rmN 2 43) := hX
  show J X (0, 0) 0 [(0, .ref (ad 426)), (1, .int x1)] [] (fl ad m)
  refine J_aload_n hX dX12_numberEnd_0 rfl 0 rfl ?_
  refine J_iload_n hX dX12_numberEnd_1 rfl 1 rfl ?_
  obtain ⟨b1, h⟩ := h
  refine J_callV hX km_X12_here kl_RX12_176 dX12_numberEnd_2 ka_426 (by decide) [.int x1] ⟨Nat.le_of_ble_eq_true rfl, Nat.le_of_ble_eq_true rfl⟩ rfl rfl (Nat.le_of_ble_eq_true rfl) (c_X12_here x1 m b1) (fun v w2 hk => ?_)
  obtain ⟨rfl, rfl⟩ := hk
  show J X (0, 0) 5 [(0, .ref (ad 426)), (1, .int x1)] [.int (v_X12_here x1 m)] (fl ad m)
  refine J_bipush (v := (45 : Int32)) hX dX12_numberEnd_5 (by decide) ?_
  have hj11 : ∀ y3 : Int32, y3 = (if (v_X12_here x1 m) = (45 : Int32) then (x1 + (1 : Int32)) else x1) → J X (0, 0) 17 [(0, .ref (ad 426)), (1, .int x1)] [.int y3] (fl ad m) := by
    intro y3 e_y3
    replace h := h y3 e_y3
    refine J_istore_n (lv2 := [(2, .int y3), (0, .ref (ad 426)), (1, .int x1)]) hX dX12_numberEnd_17 rfl (Nat.le_of_ble_eq_true rfl) rfl ?_
    refine J_iload_n hX dX12_numberEnd_18 rfl 0 rfl ?_
    refine J_istore_n (lv2 := [(3, .int y3), (2, .int y3), (0, .ref (ad 426)), (1, .int x1)]) hX dX12_numberEnd_19 rfl (Nat.le_of_ble_eq_true rfl) rfl ?_
    refine J_sub [2, 3, 1, 0] rfl (t_X12_numberEnd_l20 hX hR x1 y3 (fun y6 m7 h => ?_) FU y3 m h)
    refine J_iload_n hX dX12_numberEnd_34 rfl 2 rfl ?_
    refine J_iload_n hX dX12_numberEnd_35 rfl 1 rfl ?_
    refine J_isub hX dX12_numberEnd_36 ?_
    refine J_iconst (v := (1 : Int32)) hX dX12_numberEnd_37 (by decide) ?_
    refine J_iconst (v := (3 : Int32)) hX dX12_numberEnd_38 (by decide) ?_
    refine J_callS hX km_X12_in kl_RX12_87 dX12_numberEnd_39 [.int (y6 - y3), .int (1 : Int32), .int (3 : Int32)] ⟨Nat.le_of_ble_eq_true rfl, Nat.le_of_ble_eq_true rfl⟩ rfl rfl (Nat.le_of_ble_eq_true rfl) (c_X12_in (y6 - y3) (1 : Int32) (3 : Int32) m7) (fun v w2 hk => ?_)
    obtain ⟨rfl, rfl⟩ := hk
    show J X (0, 0) 42 [(1, .int x1), (2, .int y3), (3, .int y6)] [.int (v_X12_in (y6 - y3) (1 : Int32) (3 : Int32))] (fl ad m7)
    have hj10 : ∀ y9 : Int32, y9 = (if (v_X12_in (y6 - y3) (1 : Int32) (3 : Int32)) = (0 : Int32) then x1 else y6) → J X (0, 0) 50 [] [.int y9] (fl ad m7) := by
      intro y9 e_y9
      replace h := h y9 e_y9
      exact J_iret hX hR dX12_numberEnd_50 ⟨_, _, rfl, rfl, h⟩
    refine J_if_eq (tgt := 49) hX dX12_numberEnd_42 (by decide) (fun c8 => ?_) (fun c8 => ?_)
    · refine J_iload_n hX dX12_numberEnd_49 rfl 0 rfl ?_
      exact J_sub [] rfl (hj10 _ (if_pos c8).symm)
    · refine J_iload_n hX dX12_numberEnd_45 rfl 2 rfl ?_
      refine J_goto (tgt := 50) hX dX12_numberEnd_46 (by decide) ?_
      exact J_sub [] rfl (hj10 _ (if_neg c8).symm)
  refine J_icmp_ne (tgt := 16) hX dX12_numberEnd_7 (by decide) (fun c2 => ?_) (fun c2 => ?_)
  · refine J_iload_n hX dX12_numberEnd_16 rfl 1 rfl ?_
    exact J_sub [0, 1] rfl (hj11 _ (if_neg c2).symm)
  · refine J_iload_n hX dX12_numberEnd_10 rfl 1 rfl ?_
    refine J_iconst (v := (1 : Int32)) hX dX12_numberEnd_11 (by decide) ?_
    refine J_iadd hX dX12_numberEnd_12 ?_
    refine J_goto (tgt := 17) hX dX12_numberEnd_13 (by decide) ?_
    exact J_sub [0, 1] rfl (hj11 _ (if_pos c2).symm)
set_option maxRecDepth 100000 in
theorem tb_X12_numberAt_l21 {X : XT} {ad : Nat → Nat} {K : Int32 → Mm → Prop} (hX : Cx X cX12_numberAt 5 RX12 (rmN 1 21)) (hR : Rx X (some .int) (kI ad K) (0, 0)) {rec : Int32 → Int32 → Mm → Prop} {k48 : Int32 → Mm → Prop} (x1 : Int32) (x2 : Int32) (hrec : ∀ (x3 : Int32) (x4 : Int32) (m : Mm), rec x3 x4 m → J X (0, 0) 21 [(0, .ref (ad 426)), (1, .int x1), (2, .int x2), (3, .int x3), (4, .int x4)] [] (fl ad m)) (hk48 : ∀ (z3 : Int32) (m : Mm), k48 z3 m → J X (0, 0) 48 [(0, .ref (ad 426)), (1, .int x1), (3, .int z3)] [] (fl ad m)) (x3 : Int32) (x4 : Int32) (m : Mm) (h : wb_X12_numberAt_l21 rec k48 K x1 x2 x3 x4 m) : J X (0, 0) 21 [(0, .ref (ad 426)), (1, .int x1), (2, .int x2), (3, .int x3), (4, .int x4)] [] (fl ad m) := by
  unfold wb_X12_numberAt_l21 at h
  refine J_iload hX dX12_numberAt_21 4 rfl ?_
  refine J_iload_n hX dX12_numberAt_23 rfl 2 rfl ?_
  refine J_icmp_ge (tgt := 48) hX dX12_numberAt_24 (by decide) (fun c4 => ?_) (fun c4 => ?_)
  · replace h := Eq.mp (if_pos c4) h
    exact J_sub [0, 1, 3] rfl (hk48 x3 m h)
  · replace h := Eq.mp (if_neg c4) h
    refine J_bipush (v := (10 : Int32)) hX dX12_numberAt_27 (by decide) ?_
    refine J_iload_n hX dX12_numberAt_29 rfl 3 rfl ?_
    refine J_imul hX dX12_numberAt_30 ?_
    refine J_aload_n hX dX12_numberAt_31 rfl 0 rfl ?_
    refine J_iload hX dX12_numberAt_32 4 rfl ?_
    obtain ⟨b5, h⟩ := h
    refine J_callV hX km_X12_here kl_RX12_176 dX12_numberAt_34 ka_426 (by decide) [.int x4] ⟨Nat.le_of_ble_eq_true rfl, Nat.le_of_ble_eq_true rfl⟩ rfl rfl (Nat.le_of_ble_eq_true rfl) (c_X12_here x4 m b5) (fun v w2 hk => ?_)
    obtain ⟨rfl, rfl⟩ := hk
    show J X (0, 0) 37 [(0, .ref (ad 426)), (1, .int x1), (2, .int x2), (3, .int x3), (4, .int x4)] [.int (v_X12_here x4 m), .int ((10 : Int32) * x3)] (fl ad m)
    refine J_iadd hX dX12_numberAt_37 ?_
    refine J_bipush (v := (48 : Int32)) hX dX12_numberAt_38 (by decide) ?_
    refine J_isub hX dX12_numberAt_40 ?_
    refine J_nmI (fun y6 e_y6 => ?_)
    replace h := h y6 e_y6
    refine J_istore_n (lv2 := [(3, .int y6), (0, .ref (ad 426)), (1, .int x1), (2, .int x2), (4, .int x4)]) hX dX12_numberAt_41 rfl (Nat.le_of_ble_eq_true rfl) rfl ?_
    refine J_iinc (x := (x4 + (1 : Int32))) (lv2 := [(4, .int (x4 + (1 : Int32))), (3, .int y6), (0, .ref (ad 426)), (1, .int x1), (2, .int x2)]) hX dX12_numberAt_42 4 rfl rfl (Nat.le_of_ble_eq_true rfl) rfl ?_
    refine J_goto (tgt := 21) hX dX12_numberAt_45 (by decide) ?_
    exact J_sub [2, 3, 4, 1, 0] rfl (hrec y6 (x4 + (1 : Int32)) m h)
set_option maxRecDepth 100000 in
theorem t_X12_numberAt_l21 {X : XT} {ad : Nat → Nat} {K : Int32 → Mm → Prop} (hX : Cx X cX12_numberAt 5 RX12 (rmN 1 21)) (hR : Rx X (some .int) (kI ad K) (0, 0)) {k48 : Int32 → Mm → Prop} (x1 : Int32) (x2 : Int32) (hk48 : ∀ (z3 : Int32) (m : Mm), k48 z3 m → J X (0, 0) 48 [(0, .ref (ad 426)), (1, .int x1), (3, .int z3)] [] (fl ad m)) : ∀ (n : Nat) (x3 : Int32) (x4 : Int32) (m : Mm), wp_X12_numberAt_l21 k48 K x1 x2 n x3 x4 m → J X (0, 0) 21 [(0, .ref (ad 426)), (1, .int x1), (2, .int x2), (3, .int x3), (4, .int x4)] [] (fl ad m) := by
  intro n
  induction n with
  | zero => intro x3 x4 m h; exact h.elim
  | succ n ih => intro x3 x4 m h; exact tb_X12_numberAt_l21 hX hR x1 x2 ih hk48 x3 x4 m h
set_option maxRecDepth 100000 in
theorem c_X12_numberAt {G : GT} {ad : Nat → Nat} (x1 : Int32) (x2 : Int32) (m : Mm) (K : Int32 → Mm → Prop) (h : wp_X12_numberAt x1 x2 m K) : Cn G yX12_numberAt cX12_numberAt 5 (some .int) (rmN 1 21) [.ref (ad 426), .int x1, .int x2] (0, 0) (fl ad m) (kI ad K) := by
  unfold wp_X12_numberAt at h
  refine Cn.of pn_RX12 (Nat.le_of_ble_eq_true rfl) (fun X hG hX hR => ?_)
  subst hG
  have hX : Cx X cX12_numberAt 5 RX12 (rmN 1 21) := hX
  show J X (0, 0) 0 [(0, .ref (ad 426)), (1, .int x1), (2, .int x2)] [] (fl ad m)
  refine J_iconst (v := (0 : Int32)) hX dX12_numberAt_0 (by decide) ?_
  refine J_istore_n (lv2 := [(3, .int (0 : Int32)), (0, .ref (ad 426)), (1, .int x1), (2, .int x2)]) hX dX12_numberAt_1 rfl (Nat.le_of_ble_eq_true rfl) rfl ?_
  refine J_aload_n hX dX12_numberAt_2 rfl 1 rfl ?_
  refine J_iload_n hX dX12_numberAt_3 rfl 2 rfl ?_
  obtain ⟨b1, h⟩ := h
  refine J_callV hX km_X12_here kl_RX12_176 dX12_numberAt_4 ka_426 (by decide) [.int x1] ⟨Nat.le_of_ble_eq_true rfl, Nat.le_of_ble_eq_true rfl⟩ rfl rfl (Nat.le_of_ble_eq_true rfl) (c_X12_here x1 m b1) (fun v w2 hk => ?_)
  obtain ⟨rfl, rfl⟩ := hk
  show J X (0, 0) 7 [(3, .int (0 : Int32)), (0, .ref (ad 426)), (1, .int x1), (2, .int x2)] [.int (v_X12_here x1 m)] (fl ad m)
  refine J_bipush (v := (45 : Int32)) hX dX12_numberAt_7 (by decide) ?_
  have hj13 : ∀ y3 : Int32, y3 = (if (v_X12_here x1 m) = (45 : Int32) then (x1 + (1 : Int32)) else x1) → J X (0, 0) 19 [(0, .ref (ad 426)), (1, .int x1), (2, .int x2), (3, .int (0 : Int32))] [.int y3] (fl ad m) := by
    intro y3 e_y3
    replace h := h y3 e_y3
    refine J_istore (lv2 := [(4, .int y3), (0, .ref (ad 426)), (1, .int x1), (2, .int x2), (3, .int (0 : Int32))]) hX dX12_numberAt_19 (Nat.le_of_ble_eq_true rfl) rfl ?_
    refine J_sub [1, 2, 3, 4, 0] rfl (t_X12_numberAt_l21 hX hR x1 x2 (fun y7 m8 h => ?_) FU (0 : Int32) y3 m h)
    refine J_aload_n hX dX12_numberAt_48 rfl 0 rfl ?_
    refine J_iload_n hX dX12_numberAt_49 rfl 1 rfl ?_
    obtain ⟨b9, h⟩ := h
    refine J_callV hX km_X12_here kl_RX12_176 dX12_numberAt_50 ka_426 (by decide) [.int x1] ⟨Nat.le_of_ble_eq_true rfl, Nat.le_of_ble_eq_true rfl⟩ rfl rfl (Nat.le_of_ble_eq_true rfl) (c_X12_here x1 m8 b9) (fun v w2 hk => ?_)
    obtain ⟨rfl, rfl⟩ := hk
    show J X (0, 0) 53 [(0, .ref (ad 426)), (1, .int x1), (3, .int y7)] [.int (v_X12_here x1 m8)] (fl ad m8)
    refine J_bipush (v := (45 : Int32)) hX dX12_numberAt_53 (by decide) ?_
    have hj12 : ∀ y11 : Int32, y11 = (if (v_X12_here x1 m8) = (45 : Int32) then (-y7) else y7) → J X (0, 0) 64 [] [.int y11] (fl ad m8) := by
      intro y11 e_y11
      replace h := h y11 e_y11
      exact J_iret hX hR dX12_numberAt_64 ⟨_, _, rfl, rfl, h⟩
    refine J_icmp_ne (tgt := 63) hX dX12_numberAt_55 (by decide) (fun c10 => ?_) (fun c10 => ?_)
    · refine J_iload_n hX dX12_numberAt_63 rfl 2 rfl ?_
      exact J_sub [] rfl (hj12 _ (if_neg c10).symm)
    · refine J_iload_n hX dX12_numberAt_58 rfl 2 rfl ?_
      refine J_ineg hX dX12_numberAt_59 ?_
      refine J_goto (tgt := 64) hX dX12_numberAt_60 (by decide) ?_
      exact J_sub [] rfl (hj12 _ (if_pos c10).symm)
  refine J_icmp_ne (tgt := 18) hX dX12_numberAt_9 (by decide) (fun c2 => ?_) (fun c2 => ?_)
  · refine J_iload_n hX dX12_numberAt_18 rfl 2 rfl ?_
    exact J_sub [1, 2, 3, 0] rfl (hj13 _ (if_neg c2).symm)
  · refine J_iload_n hX dX12_numberAt_12 rfl 2 rfl ?_
    refine J_iconst (v := (1 : Int32)) hX dX12_numberAt_13 (by decide) ?_
    refine J_iadd hX dX12_numberAt_14 ?_
    refine J_goto (tgt := 19) hX dX12_numberAt_15 (by decide) ?_
    exact J_sub [1, 2, 3, 0] rfl (hj13 _ (if_pos c2).symm)
set_option maxRecDepth 100000 in
theorem t_X12_readItem_j149 {X : XT} {ad : Nat → Nat} {K : Mm → Prop} (hX : Cx X cX12_readItem 7 RX12 (rmN 6 137)) (hR : Rx X none (kV ad K) (0, 0)) {k89 : Int32 → Mm → Prop} (x1 : Int32) (x2 : Int32) (x4 : Int32) (hk89 : ∀ (z4 : Int32) (m : Mm), k89 z4 m → J X (0, 0) 89 [(0, .ref (ad 426)), (1, .int x1), (2, .int x2), (4, .int z4)] [] (fl ad m)) (m : Mm) (h : wp_X12_readItem_j149 k89 K x1 x2 x4 m) : J X (0, 0) 149 [(0, .ref (ad 426)), (1, .int x1), (2, .int x2), (4, .int x4)] [] (fl ad m) := by
  unfold wp_X12_readItem_j149 at h
  refine J_aload_n hX dX12_readItem_149 rfl 0 rfl ?_
  refine J_aload_n hX dX12_readItem_150 rfl 0 rfl ?_
  refine J_getI hX kf_RX12_185 dX12_readItem_151 ka_426 (by decide) rfl ?_
  refine J_callV hX km_X12_numberEnd kl_RX12_191 dX12_readItem_154 ka_426 (by decide) [.int (m.1 426 14)] ⟨Nat.le_of_ble_eq_true rfl, Nat.le_of_ble_eq_true rfl⟩ rfl rfl (Nat.le_of_ble_eq_true rfl) (c_X12_numberEnd (m.1 426 14) m _ h) (fun v w2 hk => ?_)
  obtain ⟨y19, m18, rfl, rfl, h⟩ := hk
  show J X (0, 0) 157 [(0, .ref (ad 426)), (1, .int x1), (2, .int x2), (4, .int x4)] [.int y19] (fl ad m18)
  refine J_istore (lv2 := [(6, .int y19), (0, .ref (ad 426)), (1, .int x1), (2, .int x2), (4, .int x4)]) hX dX12_readItem_157 (Nat.le_of_ble_eq_true rfl) rfl ?_
  refine J_aload_n hX dX12_readItem_159 rfl 1 rfl ?_
  refine J_iload hX dX12_readItem_160 0 rfl ?_
  refine J_aload_n hX dX12_readItem_162 rfl 1 rfl ?_
  refine J_getI hX kf_RX12_185 dX12_readItem_163 ka_426 (by decide) rfl ?_
  have hj32 : ∀ y22 : Int32, y22 = (if y19 = (m18.1 426 14) then (1 : Int32) else (if x4 = x2 then (2 : Int32) else (0 : Int32))) → J X (0, 0) 184 [(0, .ref (ad 426)), (1, .int x1), (2, .int x2), (4, .int x4), (6, .int y19)] [.int y22, .ref (ad 426)] (fl ad m18) := by
    intro y22 e_y22
    replace h := h y22 e_y22
    refine J_callV hX km_X12_faulty kl_RX12_194 dX12_readItem_184 ka_426 (by decide) [.int y22] ⟨Nat.le_of_ble_eq_true rfl, Nat.le_of_ble_eq_true rfl⟩ rfl rfl (Nat.le_of_ble_eq_true rfl) (c_X12_faulty y22 m18 _ h) (fun v w2 hk => ?_)
    obtain ⟨m23, rfl, rfl, h⟩ := hk
    show J X (0, 0) 187 [(0, .ref (ad 426)), (1, .int x1), (2, .int x2), (4, .int x4), (6, .int y19)] [] (fl ad m23)
    refine J_aload_n hX dX12_readItem_187 rfl 0 rfl ?_
    refine J_getR hX kf_RX12_41 dX12_readItem_188 ka_426 (by decide) rfl rh_426_15 ?_
    refine J_iload hX dX12_readItem_191 3 rfl ?_
    refine J_aload_n hX dX12_readItem_193 rfl 0 rfl ?_
    refine J_aload_n hX dX12_readItem_194 rfl 0 rfl ?_
    refine J_getI hX kf_RX12_185 dX12_readItem_195 ka_426 (by decide) rfl ?_
    refine J_iload hX dX12_readItem_198 4 rfl ?_
    refine J_callV hX km_X12_numberAt kl_RX12_200 dX12_readItem_200 ka_426 (by decide) [.int (m23.1 426 14), .int y19] ⟨Nat.le_of_ble_eq_true rfl, Nat.le_of_ble_eq_true rfl⟩ rfl rfl (Nat.le_of_ble_eq_true rfl) (c_X12_numberAt (m23.1 426 14) y19 m23 _ h) (fun v w2 hk => ?_)
    obtain ⟨y25, m24, rfl, rfl, h⟩ := hk
    show J X (0, 0) 203 [(0, .ref (ad 426)), (1, .int x1), (2, .int x2), (4, .int x4), (6, .int y19)] [.int y25, .int x4, .ref (ad 437)] (fl ad m24)
    obtain ⟨b26, h⟩ := h
    refine J_iast (j := x4.toNatClampNeg) hX dX12_readItem_203 ka_437 le_437 b26 rfl ?_
    refine J_nmM (fun m27 e_m27 => ?_)
    replace h := h m27 e_m27
    refine J_aload_n hX dX12_readItem_204 rfl 0 rfl ?_
    refine J_aload_n hX dX12_readItem_205 rfl 0 rfl ?_
    refine J_getI hX kf_RX12_182 dX12_readItem_206 ka_426 (by decide) rfl ?_
    have hj31 : ∀ y29 : Int32, y29 = (if (m27.1 426 13) = (0 : Int32) then y19 else (m27.1 426 14)) → J X (0, 0) 221 [(0, .ref (ad 426)), (1, .int x1), (2, .int x2), (4, .int x4)] [.int y29, .ref (ad 426)] (fl ad m27) := by
      intro y29 e_y29
      replace h := h y29 e_y29
      refine J_putI hX kf_RX12_185 dX12_readItem_221 ka_426 (by decide) rfl ?_
      refine J_nmM (fun m30 e_m30 => ?_)
      replace h := h m30 e_m30
      refine J_goto (tgt := 269) hX dX12_readItem_224 (by decide) ?_
      refine J_iinc (x := (x4 + (1 : Int32))) (lv2 := [(4, .int (x4 + (1 : Int32))), (0, .ref (ad 426)), (1, .int x1), (2, .int x2)]) hX dX12_readItem_269 3 rfl rfl (Nat.le_of_ble_eq_true rfl) rfl ?_
      refine J_goto (tgt := 89) hX dX12_readItem_272 (by decide) ?_
      exact J_sub [1, 2, 3, 0] rfl (hk89 (x4 + (1 : Int32)) m30 h)
    refine J_if_ne (tgt := 217) hX dX12_readItem_209 (by decide) (fun c28 => ?_) (fun c28 => ?_)
    · refine J_aload_n hX dX12_readItem_217 rfl 0 rfl ?_
      refine J_getI hX kf_RX12_185 dX12_readItem_218 ka_426 (by decide) rfl ?_
      exact J_sub [0, 1, 2, 3] rfl (hj31 _ (if_neg c28).symm)
    · refine J_iload hX dX12_readItem_212 4 rfl ?_
      refine J_goto (tgt := 221) hX dX12_readItem_214 (by decide) ?_
      exact J_sub [0, 1, 2, 3] rfl (hj31 _ (if_pos c28).symm)
  refine J_icmp_ne (tgt := 173) hX dX12_readItem_166 (by decide) (fun c20 => ?_) (fun c20 => ?_)
  · refine J_iload hX dX12_readItem_173 4 rfl ?_
    refine J_iload_n hX dX12_readItem_175 rfl 3 rfl ?_
    refine J_icmp_ne (tgt := 183) hX dX12_readItem_176 (by decide) (fun c21 => ?_) (fun c21 => ?_)
    · refine J_iconst (v := (0 : Int32)) hX dX12_readItem_183 (by decide) ?_
      exact J_sub [1, 2, 3, 4, 0] rfl (hj32 _ ((if_neg c20).trans (if_neg c21)).symm)
    · refine J_iconst (v := (2 : Int32)) hX dX12_readItem_179 (by decide) ?_
      refine J_goto (tgt := 184) hX dX12_readItem_180 (by decide) ?_
      exact J_sub [1, 2, 3, 4, 0] rfl (hj32 _ ((if_neg c20).trans (if_pos c21)).symm)
  · refine J_iconst (v := (1 : Int32)) hX dX12_readItem_169 (by decide) ?_
    refine J_goto (tgt := 184) hX dX12_readItem_170 (by decide) ?_
    exact J_sub [1, 2, 3, 4, 0] rfl (hj32 _ (if_pos c20).symm)
set_option maxRecDepth 100000 in
theorem tb_X12_readItem_l89 {X : XT} {ad : Nat → Nat} {K : Mm → Prop} (hX : Cx X cX12_readItem 7 RX12 (rmN 6 137)) (hR : Rx X none (kV ad K) (0, 0)) {rec : Int32 → Mm → Prop} {k275 : Mm → Prop} (x1 : Int32) (x2 : Int32) (hrec : ∀ (x4 : Int32) (m : Mm), rec x4 m → J X (0, 0) 89 [(0, .ref (ad 426)), (1, .int x1), (2, .int x2), (4, .int x4)] [] (fl ad m)) (hk275 : ∀ (m : Mm), k275 m → J X (0, 0) 275 [(0, .ref (ad 426)), (1, .int x1)] [] (fl ad m)) (x4 : Int32) (m : Mm) (h : wb_X12_readItem_l89 rec k275 K x1 x2 x4 m) : J X (0, 0) 89 [(0, .ref (ad 426)), (1, .int x1), (2, .int x2), (4, .int x4)] [] (fl ad m) := by
  unfold wb_X12_readItem_l89 at h
  refine J_iload hX dX12_readItem_89 3 rfl ?_
  refine J_iload_n hX dX12_readItem_91 rfl 2 rfl ?_
  refine J_icmp_gt (tgt := 275) hX dX12_readItem_92 (by decide) (fun c10 => ?_) (fun c10 => ?_)
  · replace h := Eq.mp (if_pos c10) h
    exact J_sub [0, 1] rfl (hk275 m h)
  · replace h := Eq.mp (if_neg c10) h
    refine J_aload_n hX dX12_readItem_95 rfl 0 rfl ?_
    refine J_getI hX kf_RX12_182 dX12_readItem_96 ka_426 (by decide) rfl ?_
    refine J_if_ne (tgt := 275) hX dX12_readItem_99 (by decide) (fun c11 => ?_) (fun c11 => ?_)
    · replace h := Eq.mp (if_neg c11) h
      exact J_sub [0, 1] rfl (hk275 m h)
    · replace h := Eq.mp (if_pos c11) h
      refine J_aload_n hX dX12_readItem_102 rfl 0 rfl ?_
      refine J_callV hX km_X12_skips kl_RX12_197 dX12_readItem_103 ka_426 (by decide) [] ⟨Nat.le_of_ble_eq_true rfl, Nat.le_of_ble_eq_true rfl⟩ rfl rfl (Nat.le_of_ble_eq_true rfl) (c_X12_skips m _ h) (fun v w2 hk => ?_)
      obtain ⟨m12, rfl, rfl, h⟩ := hk
      show J X (0, 0) 106 [(0, .ref (ad 426)), (1, .int x1), (2, .int x2), (4, .int x4)] [] (fl ad m12)
      refine J_aload_n hX dX12_readItem_106 rfl 0 rfl ?_
      refine J_aload_n hX dX12_readItem_107 rfl 0 rfl ?_
      refine J_getI hX kf_RX12_185 dX12_readItem_108 ka_426 (by decide) rfl ?_
      obtain ⟨b13, h⟩ := h
      refine J_callV hX km_X12_here kl_RX12_176 dX12_readItem_111 ka_426 (by decide) [.int (m12.1 426 14)] ⟨Nat.le_of_ble_eq_true rfl, Nat.le_of_ble_eq_true rfl⟩ rfl rfl (Nat.le_of_ble_eq_true rfl) (c_X12_here (m12.1 426 14) m12 b13) (fun v w2 hk => ?_)
      obtain ⟨rfl, rfl⟩ := hk
      show J X (0, 0) 114 [(0, .ref (ad 426)), (1, .int x1), (2, .int x2), (4, .int x4)] [.int (v_X12_here (m12.1 426 14) m12)] (fl ad m12)
      refine J_nmI (fun y14 e_y14 => ?_)
      replace h := h y14 e_y14
      refine J_istore (lv2 := [(5, .int y14), (0, .ref (ad 426)), (1, .int x1), (2, .int x2), (4, .int x4)]) hX dX12_readItem_114 (Nat.le_of_ble_eq_true rfl) rfl ?_
      refine J_iload hX dX12_readItem_116 0 rfl ?_
      refine J_bipush (v := (-9 : Int32)) hX dX12_readItem_118 (by decide) ?_
      refine J_icmp_ne (tgt := 131) hX dX12_readItem_120 (by decide) (fun c15 => ?_) (fun c15 => ?_)
      · replace h := Eq.mp (if_neg c15) h
        refine J_aload_n hX dX12_readItem_131 rfl 1 rfl ?_
        refine J_aload_n hX dX12_readItem_132 rfl 1 rfl ?_
        refine J_getI hX kf_RX12_185 dX12_readItem_133 ka_426 (by decide) rfl ?_
        obtain ⟨b16, h⟩ := h
        refine J_callV hX km_X12_isDigit kl_RX12_179 dX12_readItem_136 ka_426 (by decide) [.int (m12.1 426 14)] ⟨Nat.le_of_ble_eq_true rfl, Nat.le_of_ble_eq_true rfl⟩ rfl rfl (Nat.le_of_ble_eq_true rfl) (c_X12_isDigit (m12.1 426 14) m12 b16) (fun v w2 hk => ?_)
        obtain ⟨rfl, rfl⟩ := hk
        show J X (0, 0) 139 [(5, .int y14), (0, .ref (ad 426)), (1, .int x1), (2, .int x2), (4, .int x4)] [.int (v_X12_isDigit (m12.1 426 14) m12)] (fl ad m12)
        refine J_if_ne (tgt := 149) hX dX12_readItem_139 (by decide) (fun c17 => ?_) (fun c17 => ?_)
        · replace h := Eq.mp (if_neg c17) h
          exact J_sub [1, 2, 3, 4] rfl (t_X12_readItem_j149 hX hR x1 x2 x4 hrec m12 h)
        · replace h := Eq.mp (if_pos c17) h
          refine J_iload hX dX12_readItem_142 0 rfl ?_
          refine J_bipush (v := (45 : Int32)) hX dX12_readItem_144 (by decide) ?_
          refine J_icmp_ne (tgt := 227) hX dX12_readItem_146 (by decide) (fun c33 => ?_) (fun c33 => ?_)
          · replace h := Eq.mp (if_neg c33) h
            refine J_iload hX dX12_readItem_227 0 rfl ?_
            refine J_bipush (v := (59 : Int32)) hX dX12_readItem_229 (by decide) ?_
            refine J_icmp_ne (tgt := 252) hX dX12_readItem_231 (by decide) (fun c34 => ?_) (fun c34 => ?_)
            · replace h := Eq.mp (if_neg c34) h
              refine J_aload_n hX dX12_readItem_252 rfl 1 rfl ?_
              refine J_iload hX dX12_readItem_253 0 rfl ?_
              refine J_callS hX km_X12_numbersOf kl_RX12_188 dX12_readItem_255 [.int y14] ⟨Nat.le_of_ble_eq_true rfl, Nat.le_of_ble_eq_true rfl⟩ rfl rfl (Nat.le_of_ble_eq_true rfl) (c_X12_numbersOf y14 m12) (fun v w2 hk => ?_)
              obtain ⟨rfl, rfl⟩ := hk
              show J X (0, 0) 258 [(5, .int y14), (0, .ref (ad 426)), (1, .int x1), (2, .int x2), (4, .int x4)] [.int (v_X12_numbersOf y14), .ref (ad 426)] (fl ad m12)
              have hj38 : ∀ y36 : Int32, y36 = (if (v_X12_numbersOf y14) ≤ (0 : Int32) then (1 : Int32) else (2 : Int32)) → J X (0, 0) 266 [(0, .ref (ad 426)), (1, .int x1), (2, .int x2), (4, .int x4)] [.int y36, .ref (ad 426)] (fl ad m12) := by
                intro y36 e_y36
                replace h := h y36 e_y36
                refine J_callV hX km_X12_faulty kl_RX12_194 dX12_readItem_266 ka_426 (by decide) [.int y36] ⟨Nat.le_of_ble_eq_true rfl, Nat.le_of_ble_eq_true rfl⟩ rfl rfl (Nat.le_of_ble_eq_true rfl) (c_X12_faulty y36 m12 _ h) (fun v w2 hk => ?_)
                obtain ⟨m37, rfl, rfl, h⟩ := hk
                show J X (0, 0) 269 [(0, .ref (ad 426)), (1, .int x1), (2, .int x2), (4, .int x4)] [] (fl ad m37)
                refine J_iinc (x := (x4 + (1 : Int32))) (lv2 := [(4, .int (x4 + (1 : Int32))), (0, .ref (ad 426)), (1, .int x1), (2, .int x2)]) hX dX12_readItem_269 3 rfl rfl (Nat.le_of_ble_eq_true rfl) rfl ?_
                refine J_goto (tgt := 89) hX dX12_readItem_272 (by decide) ?_
                exact J_sub [1, 2, 3, 0] rfl (hrec (x4 + (1 : Int32)) m37 h)
              refine J_if_le (tgt := 265) hX dX12_readItem_258 (by decide) (fun c35 => ?_) (fun c35 => ?_)
              · refine J_iconst (v := (1 : Int32)) hX dX12_readItem_265 (by decide) ?_
                exact J_sub [1, 2, 3, 4] rfl (hj38 _ (if_pos c35).symm)
              · refine J_iconst (v := (2 : Int32)) hX dX12_readItem_261 (by decide) ?_
                refine J_goto (tgt := 266) hX dX12_readItem_262 (by decide) ?_
                exact J_sub [1, 2, 3, 4] rfl (hj38 _ (if_neg c35).symm)
            · replace h := Eq.mp (if_pos c34) h
              refine J_aload_n hX dX12_readItem_234 rfl 1 rfl ?_
              refine J_iload hX dX12_readItem_235 4 rfl ?_
              refine J_iload_n hX dX12_readItem_237 rfl 3 rfl ?_
              have hj42 : ∀ y40 : Int32, y40 = (if x2 ≤ x4 then (0 : Int32) else (2 : Int32)) → J X (0, 0) 246 [(0, .ref (ad 426)), (1, .int x1), (2, .int x2), (4, .int x4)] [.int y40, .ref (ad 426)] (fl ad m12) := by
                intro y40 e_y40
                replace h := h y40 e_y40
                refine J_callV hX km_X12_faulty kl_RX12_194 dX12_readItem_246 ka_426 (by decide) [.int y40] ⟨Nat.le_of_ble_eq_true rfl, Nat.le_of_ble_eq_true rfl⟩ rfl rfl (Nat.le_of_ble_eq_true rfl) (c_X12_faulty y40 m12 _ h) (fun v w2 hk => ?_)
                obtain ⟨m41, rfl, rfl, h⟩ := hk
                show J X (0, 0) 249 [(0, .ref (ad 426)), (1, .int x1), (2, .int x2), (4, .int x4)] [] (fl ad m41)
                refine J_goto (tgt := 269) hX dX12_readItem_249 (by decide) ?_
                refine J_iinc (x := (x4 + (1 : Int32))) (lv2 := [(4, .int (x4 + (1 : Int32))), (0, .ref (ad 426)), (1, .int x1), (2, .int x2)]) hX dX12_readItem_269 3 rfl rfl (Nat.le_of_ble_eq_true rfl) rfl ?_
                refine J_goto (tgt := 89) hX dX12_readItem_272 (by decide) ?_
                exact J_sub [1, 2, 3, 0] rfl (hrec (x4 + (1 : Int32)) m41 h)
              refine J_icmp_ge (tgt := 245) hX dX12_readItem_238 (by decide) (fun c39 => ?_) (fun c39 => ?_)
              · refine J_iconst (v := (0 : Int32)) hX dX12_readItem_245 (by decide) ?_
                exact J_sub [1, 2, 3, 4] rfl (hj42 _ (if_pos c39).symm)
              · refine J_iconst (v := (2 : Int32)) hX dX12_readItem_241 (by decide) ?_
                refine J_goto (tgt := 246) hX dX12_readItem_242 (by decide) ?_
                exact J_sub [1, 2, 3, 4] rfl (hj42 _ (if_neg c39).symm)
          · replace h := Eq.mp (if_pos c33) h
            exact J_sub [1, 2, 3, 4] rfl (t_X12_readItem_j149 hX hR x1 x2 x4 hrec m12 h)
      · replace h := Eq.mp (if_pos c15) h
        refine J_aload_n hX dX12_readItem_123 rfl 1 rfl ?_
        refine J_iconst (v := (2 : Int32)) hX dX12_readItem_124 (by decide) ?_
        refine J_callV hX km_X12_faulty kl_RX12_194 dX12_readItem_125 ka_426 (by decide) [.int (2 : Int32)] ⟨Nat.le_of_ble_eq_true rfl, Nat.le_of_ble_eq_true rfl⟩ rfl rfl (Nat.le_of_ble_eq_true rfl) (c_X12_faulty (2 : Int32) m12 _ h) (fun v w2 hk => ?_)
        obtain ⟨m43, rfl, rfl, h⟩ := hk
        show J X (0, 0) 128 [(5, .int y14), (0, .ref (ad 426)), (1, .int x1), (2, .int x2), (4, .int x4)] [] (fl ad m43)
        refine J_goto (tgt := 269) hX dX12_readItem_128 (by decide) ?_
        refine J_iinc (x := (x4 + (1 : Int32))) (lv2 := [(4, .int (x4 + (1 : Int32))), (5, .int y14), (0, .ref (ad 426)), (1, .int x1), (2, .int x2)]) hX dX12_readItem_269 4 rfl rfl (Nat.le_of_ble_eq_true rfl) rfl ?_
        refine J_goto (tgt := 89) hX dX12_readItem_272 (by decide) ?_
        exact J_sub [2, 3, 4, 0] rfl (hrec (x4 + (1 : Int32)) m43 h)
set_option maxRecDepth 100000 in
theorem t_X12_readItem_l89 {X : XT} {ad : Nat → Nat} {K : Mm → Prop} (hX : Cx X cX12_readItem 7 RX12 (rmN 6 137)) (hR : Rx X none (kV ad K) (0, 0)) {k275 : Mm → Prop} (x1 : Int32) (x2 : Int32) (hk275 : ∀ (m : Mm), k275 m → J X (0, 0) 275 [(0, .ref (ad 426)), (1, .int x1)] [] (fl ad m)) : ∀ (n : Nat) (x4 : Int32) (m : Mm), wp_X12_readItem_l89 k275 K x1 x2 n x4 m → J X (0, 0) 89 [(0, .ref (ad 426)), (1, .int x1), (2, .int x2), (4, .int x4)] [] (fl ad m) := by
  intro n
  induction n with
  | zero => intro x4 m h; exact h.elim
  | succ n ih => intro x4 m h; exact tb_X12_readItem_l89 hX hR x1 x2 ih hk275 x4 m h
set_option maxRecDepth 100000 in
theorem t_X12_readItem_j61 {X : XT} {ad : Nat → Nat} {K : Mm → Prop} (hX : Cx X cX12_readItem 7 RX12 (rmN 6 137)) (hR : Rx X none (kV ad K) (0, 0)) (x1 : Int32) (m : Mm) (h : wp_X12_readItem_j61 K x1 m) : J X (0, 0) 61 [(1, .int x1)] [.ref (ad 426)] (fl ad m) := by
  unfold wp_X12_readItem_j61 at h
  refine J_iload_n hX dX12_readItem_61 rfl 0 rfl ?_
  refine J_bipush (v := (59 : Int32)) hX dX12_readItem_62 (by decide) ?_
  have hj60 : ∀ y58 : Int32, y58 = (if x1 = (59 : Int32) then (2 : Int32) else (1 : Int32)) → J X (0, 0) 72 [] [.int y58, .ref (ad 426)] (fl ad m) := by
    intro y58 e_y58
    replace h := h y58 e_y58
    refine J_callV hX km_X12_faulty kl_RX12_194 dX12_readItem_72 ka_426 (by decide) [.int y58] ⟨Nat.le_of_ble_eq_true rfl, Nat.le_of_ble_eq_true rfl⟩ rfl rfl (Nat.le_of_ble_eq_true rfl) (c_X12_faulty y58 m _ h) (fun v w2 hk => ?_)
    obtain ⟨m59, rfl, rfl, h⟩ := hk
    show J X (0, 0) 75 [] [] (fl ad m59)
    exact J_vret hX hR dX12_readItem_75 ⟨_, rfl, rfl, h⟩
  refine J_icmp_ne (tgt := 71) hX dX12_readItem_64 (by decide) (fun c57 => ?_) (fun c57 => ?_)
  · refine J_iconst (v := (1 : Int32)) hX dX12_readItem_71 (by decide) ?_
    exact J_sub [] rfl (hj60 _ (if_neg c57).symm)
  · refine J_iconst (v := (2 : Int32)) hX dX12_readItem_67 (by decide) ?_
    refine J_goto (tgt := 72) hX dX12_readItem_68 (by decide) ?_
    exact J_sub [] rfl (hj60 _ (if_pos c57).symm)
set_option maxRecDepth 100000 in
theorem c_X12_readItem {G : GT} {ad : Nat → Nat} (m : Mm) (K : Mm → Prop) (h : wp_X12_readItem m K) : Cn G yX12_readItem cX12_readItem 7 none (rmN 6 137) [.ref (ad 426)] (0, 0) (fl ad m) (kV ad K) := by
  unfold wp_X12_readItem at h
  refine Cn.of pn_RX12 (Nat.le_of_ble_eq_true rfl) (fun X hG hX hR => ?_)
  subst hG
  have hX : Cx X cX12_readItem 7 RX12 (rmN 6 137) := hX
  show J X (0, 0) 0 [(0, .ref (ad 426))] [] (fl ad m)
  refine J_aload_n hX dX12_readItem_0 rfl 0 rfl ?_
  refine J_aload_n hX dX12_readItem_1 rfl 0 rfl ?_
  refine J_getI hX kf_RX12_185 dX12_readItem_2 ka_426 (by decide) rfl ?_
  obtain ⟨b1, h⟩ := h
  refine J_callV hX km_X12_here kl_RX12_176 dX12_readItem_5 ka_426 (by decide) [.int (m.1 426 14)] ⟨Nat.le_of_ble_eq_true rfl, Nat.le_of_ble_eq_true rfl⟩ rfl rfl (Nat.le_of_ble_eq_true rfl) (c_X12_here (m.1 426 14) m b1) (fun v w2 hk => ?_)
  obtain ⟨rfl, rfl⟩ := hk
  show J X (0, 0) 8 [(0, .ref (ad 426))] [.int (v_X12_here (m.1 426 14) m)] (fl ad m)
  refine J_nmI (fun y2 e_y2 => ?_)
  replace h := h y2 e_y2
  refine J_istore_n (lv2 := [(1, .int y2), (0, .ref (ad 426))]) hX dX12_readItem_8 rfl (Nat.le_of_ble_eq_true rfl) rfl ?_
  refine J_iload_n hX dX12_readItem_9 rfl 0 rfl ?_
  refine J_callS hX km_X12_numbersOf kl_RX12_188 dX12_readItem_10 [.int y2] ⟨Nat.le_of_ble_eq_true rfl, Nat.le_of_ble_eq_true rfl⟩ rfl rfl (Nat.le_of_ble_eq_true rfl) (c_X12_numbersOf y2 m) (fun v w2 hk => ?_)
  obtain ⟨rfl, rfl⟩ := hk
  show J X (0, 0) 13 [(1, .int y2), (0, .ref (ad 426))] [.int (v_X12_numbersOf y2)] (fl ad m)
  refine J_nmI (fun y3 e_y3 => ?_)
  replace h := h y3 e_y3
  refine J_istore_n (lv2 := [(2, .int y3), (1, .int y2), (0, .ref (ad 426))]) hX dX12_readItem_13 rfl (Nat.le_of_ble_eq_true rfl) rfl ?_
  refine J_aload_n hX dX12_readItem_14 rfl 2 rfl ?_
  refine J_aload_n hX dX12_readItem_15 rfl 2 rfl ?_
  refine J_getI hX kf_RX12_185 dX12_readItem_16 ka_426 (by decide) rfl ?_
  obtain ⟨b4, h⟩ := h
  refine J_callV hX km_X12_isDigit kl_RX12_179 dX12_readItem_19 ka_426 (by decide) [.int (m.1 426 14)] ⟨Nat.le_of_ble_eq_true rfl, Nat.le_of_ble_eq_true rfl⟩ rfl rfl (Nat.le_of_ble_eq_true rfl) (c_X12_isDigit (m.1 426 14) m b4) (fun v w2 hk => ?_)
  obtain ⟨rfl, rfl⟩ := hk
  show J X (0, 0) 22 [(2, .int y3), (1, .int y2), (0, .ref (ad 426))] [.int (v_X12_isDigit (m.1 426 14) m)] (fl ad m)
  have hj68 : ∀ y7 : Int32, y7 = (if (v_X12_isDigit (m.1 426 14) m) = (0 : Int32) then (if y2 = (45 : Int32) then (1 : Int32) else (0 : Int32)) else (1 : Int32)) → J X (0, 0) 36 [(0, .ref (ad 426)), (1, .int y2), (2, .int y3)] [.int y7] (fl ad m) := by
    intro y7 e_y7
    replace h := h y7 e_y7
    refine J_istore_n (lv2 := [(3, .int y7), (0, .ref (ad 426)), (1, .int y2), (2, .int y3)]) hX dX12_readItem_36 rfl (Nat.le_of_ble_eq_true rfl) rfl ?_
    refine J_iload_n hX dX12_readItem_37 rfl 3 rfl ?_
    refine J_if_ne (tgt := 76) hX dX12_readItem_38 (by decide) (fun c8 => ?_) (fun c8 => ?_)
    · replace h := Eq.mp (if_neg c8) h
      refine J_aload_n hX dX12_readItem_76 rfl 1 rfl ?_
      refine J_dup hX dX12_readItem_77 rfl ?_
      refine J_getI hX kf_RX12_185 dX12_readItem_78 ka_426 (by decide) rfl ?_
      refine J_iconst (v := (1 : Int32)) hX dX12_readItem_81 (by decide) ?_
      refine J_iadd hX dX12_readItem_82 ?_
      refine J_putI hX kf_RX12_185 dX12_readItem_83 ka_426 (by decide) rfl ?_
      refine J_nmM (fun m9 e_m9 => ?_)
      replace h := h m9 e_m9
      refine J_iconst (v := (0 : Int32)) hX dX12_readItem_86 (by decide) ?_
      refine J_istore (lv2 := [(4, .int (0 : Int32)), (3, .int y7), (0, .ref (ad 426)), (1, .int y2), (2, .int y3)]) hX dX12_readItem_87 (Nat.le_of_ble_eq_true rfl) rfl ?_
      refine J_sub [2, 3, 4, 0] rfl (t_X12_readItem_l89 hX hR y2 y3 (fun m44 h => ?_) FU (0 : Int32) m9 h)
      refine J_aload_n hX dX12_readItem_275 rfl 0 rfl ?_
      refine J_getI hX kf_RX12_182 dX12_readItem_276 ka_426 (by decide) rfl ?_
      refine J_if_ne (tgt := 328) hX dX12_readItem_279 (by decide) (fun c45 => ?_) (fun c45 => ?_)
      · replace h := Eq.mp (if_neg c45) h
        exact J_vret hX hR dX12_readItem_328 ⟨_, rfl, rfl, h⟩
      · replace h := Eq.mp (if_pos c45) h
        refine J_aload_n hX dX12_readItem_282 rfl 0 rfl ?_
        refine J_callV hX km_X12_begins kl_RX12_103 dX12_readItem_283 ka_426 (by decide) [] ⟨Nat.le_of_ble_eq_true rfl, Nat.le_of_ble_eq_true rfl⟩ rfl rfl (Nat.le_of_ble_eq_true rfl) (c_X12_begins m44 _ h) (fun v w2 hk => ?_)
        obtain ⟨m46, rfl, rfl, h⟩ := hk
        show J X (0, 0) 286 [(0, .ref (ad 426)), (1, .int y2)] [] (fl ad m46)
        refine J_aload_n hX dX12_readItem_286 rfl 0 rfl ?_
        refine J_iload_n hX dX12_readItem_287 rfl 1 rfl ?_
        refine J_callV hX km_X12_carryOut kl_RX12_203 dX12_readItem_288 ka_426 (by decide) [.int y2] ⟨Nat.le_of_ble_eq_true rfl, Nat.le_of_ble_eq_true rfl⟩ rfl rfl (Nat.le_of_ble_eq_true rfl) (c_X12_carryOut y2 m46 _ h) (fun v w2 hk => ?_)
        obtain ⟨m47, rfl, rfl, h⟩ := hk
        show J X (0, 0) 291 [(0, .ref (ad 426)), (1, .int y2)] [] (fl ad m47)
        refine J_aload_n hX dX12_readItem_291 rfl 0 rfl ?_
        refine J_aload_n hX dX12_readItem_292 rfl 0 rfl ?_
        refine J_getI hX kf_RX12_95 dX12_readItem_293 ka_426 (by decide) rfl ?_
        have hj55 : ∀ y49 : Int32, y49 = (if (m47.1 426 2) = (0 : Int32) then (0 : Int32) else (3 : Int32)) → J X (0, 0) 304 [(0, .ref (ad 426))] [.int y49, .ref (ad 426)] (fl ad m47) := by
          intro y49 e_y49
          replace h := h y49 e_y49
          refine J_callV hX km_X12_faulty kl_RX12_194 dX12_readItem_304 ka_426 (by decide) [.int y49] ⟨Nat.le_of_ble_eq_true rfl, Nat.le_of_ble_eq_true rfl⟩ rfl rfl (Nat.le_of_ble_eq_true rfl) (c_X12_faulty y49 m47 _ h) (fun v w2 hk => ?_)
          obtain ⟨m50, rfl, rfl, h⟩ := hk
          show J X (0, 0) 307 [(0, .ref (ad 426))] [] (fl ad m50)
          refine J_aload_n hX dX12_readItem_307 rfl 0 rfl ?_
          refine J_dup hX dX12_readItem_308 rfl ?_
          refine J_getI hX kf_RX12_185 dX12_readItem_309 ka_426 (by decide) rfl ?_
          refine J_aload_n hX dX12_readItem_312 rfl 0 rfl ?_
          refine J_getI hX kf_RX12_182 dX12_readItem_313 ka_426 (by decide) rfl ?_
          have hj54 : ∀ y52 : Int32, y52 = (if (m50.1 426 13) = (0 : Int32) then (1 : Int32) else (0 : Int32)) → J X (0, 0) 324 [] [.int y52, .int (m50.1 426 14), .ref (ad 426)] (fl ad m50) := by
            intro y52 e_y52
            replace h := h y52 e_y52
            refine J_iadd hX dX12_readItem_324 ?_
            refine J_putI hX kf_RX12_185 dX12_readItem_325 ka_426 (by decide) rfl ?_
            refine J_nmM (fun m53 e_m53 => ?_)
            replace h := h m53 e_m53
            exact J_vret hX hR dX12_readItem_328 ⟨_, rfl, rfl, h⟩
          refine J_if_ne (tgt := 323) hX dX12_readItem_316 (by decide) (fun c51 => ?_) (fun c51 => ?_)
          · refine J_iconst (v := (0 : Int32)) hX dX12_readItem_323 (by decide) ?_
            exact J_sub [] rfl (hj54 _ (if_neg c51).symm)
          · refine J_iconst (v := (1 : Int32)) hX dX12_readItem_319 (by decide) ?_
            refine J_goto (tgt := 324) hX dX12_readItem_320 (by decide) ?_
            exact J_sub [] rfl (hj54 _ (if_pos c51).symm)
        refine J_if_eq (tgt := 303) hX dX12_readItem_296 (by decide) (fun c48 => ?_) (fun c48 => ?_)
        · refine J_iconst (v := (0 : Int32)) hX dX12_readItem_303 (by decide) ?_
          exact J_sub [0] rfl (hj55 _ (if_pos c48).symm)
        · refine J_iconst (v := (3 : Int32)) hX dX12_readItem_299 (by decide) ?_
          refine J_goto (tgt := 304) hX dX12_readItem_300 (by decide) ?_
          exact J_sub [0] rfl (hj55 _ (if_neg c48).symm)
    · replace h := Eq.mp (if_pos c8) h
      refine J_aload_n hX dX12_readItem_41 rfl 1 rfl ?_
      refine J_iload_n hX dX12_readItem_42 rfl 0 rfl ?_
      refine J_if_eq (tgt := 61) hX dX12_readItem_43 (by decide) (fun c56 => ?_) (fun c56 => ?_)
      · replace h := Eq.mp (if_pos c56) h
        exact J_sub [2] rfl (t_X12_readItem_j61 hX hR y2 m h)
      · replace h := Eq.mp (if_neg c56) h
        refine J_aload_n hX dX12_readItem_46 rfl 1 rfl ?_
        refine J_aload_n hX dX12_readItem_47 rfl 1 rfl ?_
        refine J_getI hX kf_RX12_185 dX12_readItem_48 ka_426 (by decide) rfl ?_
        refine J_callV hX km_X12_numberEnd kl_RX12_191 dX12_readItem_51 ka_426 (by decide) [.int (m.1 426 14)] ⟨Nat.le_of_ble_eq_true rfl, Nat.le_of_ble_eq_true rfl⟩ rfl rfl (Nat.le_of_ble_eq_true rfl) (c_X12_numberEnd (m.1 426 14) m _ h) (fun v w2 hk => ?_)
        obtain ⟨y62, m61, rfl, rfl, h⟩ := hk
        show J X (0, 0) 54 [(3, .int y7), (0, .ref (ad 426)), (1, .int y2), (2, .int y3)] [.int y62, .ref (ad 426)] (fl ad m61)
        refine J_aload_n hX dX12_readItem_54 rfl 1 rfl ?_
        refine J_getI hX kf_RX12_185 dX12_readItem_55 ka_426 (by decide) rfl ?_
        have hj67 : ∀ y65 : Int32, y65 = (if (m61.1 426 14) < y62 then (2 : Int32) else (if y2 = (59 : Int32) then (2 : Int32) else (1 : Int32))) → J X (0, 0) 72 [] [.int y65, .ref (ad 426)] (fl ad m61) := by
          intro y65 e_y65
          replace h := h y65 e_y65
          refine J_callV hX km_X12_faulty kl_RX12_194 dX12_readItem_72 ka_426 (by decide) [.int y65] ⟨Nat.le_of_ble_eq_true rfl, Nat.le_of_ble_eq_true rfl⟩ rfl rfl (Nat.le_of_ble_eq_true rfl) (c_X12_faulty y65 m61 _ h) (fun v w2 hk => ?_)
          obtain ⟨m66, rfl, rfl, h⟩ := hk
          show J X (0, 0) 75 [] [] (fl ad m66)
          exact J_vret hX hR dX12_readItem_75 ⟨_, rfl, rfl, h⟩
        refine J_icmp_gt (tgt := 67) hX dX12_readItem_58 (by decide) (fun c63 => ?_) (fun c63 => ?_)
        · refine J_iconst (v := (2 : Int32)) hX dX12_readItem_67 (by decide) ?_
          refine J_goto (tgt := 72) hX dX12_readItem_68 (by decide) ?_
          exact J_sub [] rfl (hj67 _ (if_pos c63).symm)
        · refine J_iload_n hX dX12_readItem_61 rfl 2 rfl ?_
          refine J_bipush (v := (59 : Int32)) hX dX12_readItem_62 (by decide) ?_
          refine J_icmp_ne (tgt := 71) hX dX12_readItem_64 (by decide) (fun c64 => ?_) (fun c64 => ?_)
          · refine J_iconst (v := (1 : Int32)) hX dX12_readItem_71 (by decide) ?_
            exact J_sub [] rfl (hj67 _ ((if_neg c63).trans (if_neg c64)).symm)
          · refine J_iconst (v := (2 : Int32)) hX dX12_readItem_67 (by decide) ?_
            refine J_goto (tgt := 72) hX dX12_readItem_68 (by decide) ?_
            exact J_sub [] rfl (hj67 _ ((if_neg c63).trans (if_pos c64)).symm)
  refine J_if_ne (tgt := 31) hX dX12_readItem_22 (by decide) (fun c5 => ?_) (fun c5 => ?_)
  · refine J_iconst (v := (1 : Int32)) hX dX12_readItem_31 (by decide) ?_
    refine J_goto (tgt := 36) hX dX12_readItem_32 (by decide) ?_
    exact J_sub [2, 1, 0] rfl (hj68 _ (if_neg c5).symm)
  · refine J_iload_n hX dX12_readItem_25 rfl 1 rfl ?_
    refine J_bipush (v := (45 : Int32)) hX dX12_readItem_26 (by decide) ?_
    refine J_icmp_ne (tgt := 35) hX dX12_readItem_28 (by decide) (fun c6 => ?_) (fun c6 => ?_)
    · refine J_iconst (v := (0 : Int32)) hX dX12_readItem_35 (by decide) ?_
      exact J_sub [2, 1, 0] rfl (hj68 _ ((if_pos c5).trans (if_neg c6)).symm)
    · refine J_iconst (v := (1 : Int32)) hX dX12_readItem_31 (by decide) ?_
      refine J_goto (tgt := 36) hX dX12_readItem_32 (by decide) ?_
      exact J_sub [2, 1, 0] rfl (hj68 _ ((if_pos c5).trans (if_pos c6)).symm)
set_option maxRecDepth 100000 in
theorem tb_X12_load_l2 {X : XT} {ad : Nat → Nat} {K : Int32 → Mm → Prop} (hX : Cx X cX12_load 3 RX12 (rmN 7 163)) (hR : Rx X (some .int) (kI ad K) (0, 0)) {rec : Int32 → Mm → Prop} {k27 : Mm → Prop} (hrec : ∀ (x1 : Int32) (m : Mm), rec x1 m → J X (0, 0) 2 [(0, .ref (ad 426)), (1, .int x1)] [] (fl ad m)) (hk27 : ∀ (m : Mm), k27 m → J X (0, 0) 27 [(0, .ref (ad 426))] [] (fl ad m)) (x1 : Int32) (m : Mm) (h : wb_X12_load_l2 rec k27 K x1 m) : J X (0, 0) 2 [(0, .ref (ad 426)), (1, .int x1)] [] (fl ad m) := by
  unfold wb_X12_load_l2 at h
  refine J_iload_n hX dX12_load_2 rfl 1 rfl ?_
  refine J_sipush (v := (137 : Int32)) hX dX12_load_3 (by decide) ?_
  refine J_icmp_ge (tgt := 27) hX dX12_load_6 (by decide) (fun c1 => ?_) (fun c1 => ?_)
  · replace h := Eq.mp (if_pos c1) h
    exact J_sub [0] rfl (hk27 m h)
  · replace h := Eq.mp (if_neg c1) h
    refine J_aload_n hX dX12_load_9 rfl 0 rfl ?_
    refine J_getR hX kf_RX12_44 dX12_load_10 ka_426 (by decide) rfl rh_426_16 ?_
    refine J_iload_n hX dX12_load_13 rfl 1 rfl ?_
    refine J_aload_n hX dX12_load_14 rfl 0 rfl ?_
    refine J_getR hX kf_RX12_7 dX12_load_15 ka_426 (by decide) rfl rh_426_0 ?_
    refine J_iload_n hX dX12_load_18 rfl 1 rfl ?_
    obtain ⟨b2, h⟩ := h
    refine J_iald (j := x1.toNatClampNeg) hX dX12_load_19 ka_427 le_427 b2 rfl ?_
    refine J_iast (j := x1.toNatClampNeg) hX dX12_load_20 ka_438 le_438 b2 rfl ?_
    refine J_nmM (fun m3 e_m3 => ?_)
    replace h := h m3 e_m3
    refine J_iinc (x := (x1 + (1 : Int32))) (lv2 := [(1, .int (x1 + (1 : Int32))), (0, .ref (ad 426))]) hX dX12_load_21 1 rfl rfl (Nat.le_of_ble_eq_true rfl) rfl ?_
    refine J_goto (tgt := 2) hX dX12_load_24 (by decide) ?_
    exact J_sub [1, 0] rfl (hrec (x1 + (1 : Int32)) m3 h)
set_option maxRecDepth 100000 in
theorem t_X12_load_l2 {X : XT} {ad : Nat → Nat} {K : Int32 → Mm → Prop} (hX : Cx X cX12_load 3 RX12 (rmN 7 163)) (hR : Rx X (some .int) (kI ad K) (0, 0)) {k27 : Mm → Prop} (hk27 : ∀ (m : Mm), k27 m → J X (0, 0) 27 [(0, .ref (ad 426))] [] (fl ad m)) : ∀ (n : Nat) (x1 : Int32) (m : Mm), wp_X12_load_l2 k27 K n x1 m → J X (0, 0) 2 [(0, .ref (ad 426)), (1, .int x1)] [] (fl ad m) := by
  intro n
  induction n with
  | zero => intro x1 m h; exact h.elim
  | succ n ih => intro x1 m h; exact tb_X12_load_l2 hX hR ih hk27 x1 m h
set_option maxRecDepth 100000 in
theorem tb_X12_load_l47 {X : XT} {ad : Nat → Nat} {K : Int32 → Mm → Prop} (hX : Cx X cX12_load 3 RX12 (rmN 7 163)) (hR : Rx X (some .int) (kI ad K) (0, 0)) {rec : Int32 → Mm → Prop} {k86 : Int32 → Mm → Prop} (hrec : ∀ (x1 : Int32) (m : Mm), rec x1 m → J X (0, 0) 47 [(0, .ref (ad 426)), (1, .int x1)] [] (fl ad m)) (hk86 : ∀ (z1 : Int32) (m : Mm), k86 z1 m → J X (0, 0) 86 [(0, .ref (ad 426)), (1, .int z1)] [] (fl ad m)) (x1 : Int32) (m : Mm) (h : wb_X12_load_l47 rec k86 K x1 m) : J X (0, 0) 47 [(0, .ref (ad 426)), (1, .int x1)] [] (fl ad m) := by
  unfold wb_X12_load_l47 at h
  refine J_aload_n hX dX12_load_47 rfl 0 rfl ?_
  refine J_getI hX kf_RX12_182 dX12_load_48 ka_426 (by decide) rfl ?_
  refine J_if_ne (tgt := 86) hX dX12_load_51 (by decide) (fun c9 => ?_) (fun c9 => ?_)
  · replace h := Eq.mp (if_neg c9) h
    exact J_sub [0, 1] rfl (hk86 x1 m h)
  · replace h := Eq.mp (if_pos c9) h
    refine J_aload_n hX dX12_load_54 rfl 0 rfl ?_
    refine J_getI hX kf_RX12_185 dX12_load_55 ka_426 (by decide) rfl ?_
    refine J_aload_n hX dX12_load_58 rfl 0 rfl ?_
    refine J_getI hX kf_RX12_173 dX12_load_59 ka_426 (by decide) rfl ?_
    refine J_icmp_ge (tgt := 86) hX dX12_load_62 (by decide) (fun c10 => ?_) (fun c10 => ?_)
    · replace h := Eq.mp (if_pos c10) h
      exact J_sub [0, 1] rfl (hk86 x1 m h)
    · replace h := Eq.mp (if_neg c10) h
      refine J_aload_n hX dX12_load_65 rfl 0 rfl ?_
      refine J_callV hX km_X12_readItem kl_RX12_206 dX12_load_66 ka_426 (by decide) [] ⟨Nat.le_of_ble_eq_true rfl, Nat.le_of_ble_eq_true rfl⟩ rfl rfl (Nat.le_of_ble_eq_true rfl) (c_X12_readItem m _ h) (fun v w2 hk => ?_)
      obtain ⟨m11, rfl, rfl, h⟩ := hk
      show J X (0, 0) 69 [(0, .ref (ad 426)), (1, .int x1)] [] (fl ad m11)
      refine J_iinc (x := (x1 + (1 : Int32))) (lv2 := [(1, .int (x1 + (1 : Int32))), (0, .ref (ad 426))]) hX dX12_load_69 1 rfl rfl (Nat.le_of_ble_eq_true rfl) rfl ?_
      refine J_aload_n hX dX12_load_72 rfl 1 rfl ?_
      refine J_getI hX kf_RX12_182 dX12_load_73 ka_426 (by decide) rfl ?_
      refine J_if_ne (tgt := 47) hX dX12_load_76 (by decide) (fun c12 => ?_) (fun c12 => ?_)
      · replace h := Eq.mp (if_neg c12) h
        exact J_sub [1, 0] rfl (hrec (x1 + (1 : Int32)) m11 h)
      · replace h := Eq.mp (if_pos c12) h
        refine J_aload_n hX dX12_load_79 rfl 1 rfl ?_
        refine J_callV hX km_X12_skips kl_RX12_197 dX12_load_80 ka_426 (by decide) [] ⟨Nat.le_of_ble_eq_true rfl, Nat.le_of_ble_eq_true rfl⟩ rfl rfl (Nat.le_of_ble_eq_true rfl) (c_X12_skips m11 _ h) (fun v w2 hk => ?_)
        obtain ⟨m13, rfl, rfl, h⟩ := hk
        show J X (0, 0) 83 [(1, .int (x1 + (1 : Int32))), (0, .ref (ad 426))] [] (fl ad m13)
        refine J_goto (tgt := 47) hX dX12_load_83 (by decide) ?_
        exact J_sub [1, 0] rfl (hrec (x1 + (1 : Int32)) m13 h)
set_option maxRecDepth 100000 in
theorem t_X12_load_l47 {X : XT} {ad : Nat → Nat} {K : Int32 → Mm → Prop} (hX : Cx X cX12_load 3 RX12 (rmN 7 163)) (hR : Rx X (some .int) (kI ad K) (0, 0)) {k86 : Int32 → Mm → Prop} (hk86 : ∀ (z1 : Int32) (m : Mm), k86 z1 m → J X (0, 0) 86 [(0, .ref (ad 426)), (1, .int z1)] [] (fl ad m)) : ∀ (n : Nat) (x1 : Int32) (m : Mm), wp_X12_load_l47 k86 K n x1 m → J X (0, 0) 47 [(0, .ref (ad 426)), (1, .int x1)] [] (fl ad m) := by
  intro n
  induction n with
  | zero => intro x1 m h; exact h.elim
  | succ n ih => intro x1 m h; exact tb_X12_load_l47 hX hR ih hk86 x1 m h
set_option maxRecDepth 100000 in
theorem tb_X12_load_l95 {X : XT} {ad : Nat → Nat} {K : Int32 → Mm → Prop} (hX : Cx X cX12_load 3 RX12 (rmN 7 163)) (hR : Rx X (some .int) (kI ad K) (0, 0)) {rec : Int32 → Mm → Prop} {k120 : Mm → Prop} (hrec : ∀ (x2 : Int32) (m : Mm), rec x2 m → J X (0, 0) 95 [(0, .ref (ad 426)), (2, .int x2)] [] (fl ad m)) (hk120 : ∀ (m : Mm), k120 m → J X (0, 0) 120 [(0, .ref (ad 426))] [] (fl ad m)) (x2 : Int32) (m : Mm) (h : wb_X12_load_l95 rec k120 K x2 m) : J X (0, 0) 95 [(0, .ref (ad 426)), (2, .int x2)] [] (fl ad m) := by
  unfold wb_X12_load_l95 at h
  refine J_iload_n hX dX12_load_95 rfl 1 rfl ?_
  refine J_sipush (v := (137 : Int32)) hX dX12_load_96 (by decide) ?_
  refine J_icmp_ge (tgt := 120) hX dX12_load_99 (by decide) (fun c18 => ?_) (fun c18 => ?_)
  · replace h := Eq.mp (if_pos c18) h
    exact J_sub [0] rfl (hk120 m h)
  · replace h := Eq.mp (if_neg c18) h
    refine J_aload_n hX dX12_load_102 rfl 0 rfl ?_
    refine J_getR hX kf_RX12_7 dX12_load_103 ka_426 (by decide) rfl rh_426_0 ?_
    refine J_iload_n hX dX12_load_106 rfl 1 rfl ?_
    refine J_aload_n hX dX12_load_107 rfl 0 rfl ?_
    refine J_getR hX kf_RX12_44 dX12_load_108 ka_426 (by decide) rfl rh_426_16 ?_
    refine J_iload_n hX dX12_load_111 rfl 1 rfl ?_
    obtain ⟨b19, h⟩ := h
    refine J_iald (j := x2.toNatClampNeg) hX dX12_load_112 ka_438 le_438 b19 rfl ?_
    refine J_iast (j := x2.toNatClampNeg) hX dX12_load_113 ka_427 le_427 b19 rfl ?_
    refine J_nmM (fun m20 e_m20 => ?_)
    replace h := h m20 e_m20
    refine J_iinc (x := (x2 + (1 : Int32))) (lv2 := [(2, .int (x2 + (1 : Int32))), (0, .ref (ad 426))]) hX dX12_load_114 1 rfl rfl (Nat.le_of_ble_eq_true rfl) rfl ?_
    refine J_goto (tgt := 95) hX dX12_load_117 (by decide) ?_
    exact J_sub [1, 0] rfl (hrec (x2 + (1 : Int32)) m20 h)
set_option maxRecDepth 100000 in
theorem t_X12_load_l95 {X : XT} {ad : Nat → Nat} {K : Int32 → Mm → Prop} (hX : Cx X cX12_load 3 RX12 (rmN 7 163)) (hR : Rx X (some .int) (kI ad K) (0, 0)) {k120 : Mm → Prop} (hk120 : ∀ (m : Mm), k120 m → J X (0, 0) 120 [(0, .ref (ad 426))] [] (fl ad m)) : ∀ (n : Nat) (x2 : Int32) (m : Mm), wp_X12_load_l95 k120 K n x2 m → J X (0, 0) 95 [(0, .ref (ad 426)), (2, .int x2)] [] (fl ad m) := by
  intro n
  induction n with
  | zero => intro x2 m h; exact h.elim
  | succ n ih => intro x2 m h; exact tb_X12_load_l95 hX hR ih hk120 x2 m h
set_option maxRecDepth 100000 in
theorem c_X12_load {G : GT} {ad : Nat → Nat} (m : Mm) (K : Int32 → Mm → Prop) (h : wp_X12_load m K) : Cn G yX12_load cX12_load 3 (some .int) (rmN 7 163) [.ref (ad 426)] (0, 0) (fl ad m) (kI ad K) := by
  unfold wp_X12_load at h
  refine Cn.of pn_RX12 (Nat.le_of_ble_eq_true rfl) (fun X hG hX hR => ?_)
  subst hG
  have hX : Cx X cX12_load 3 RX12 (rmN 7 163) := hX
  show J X (0, 0) 0 [(0, .ref (ad 426))] [] (fl ad m)
  refine J_iconst (v := (0 : Int32)) hX dX12_load_0 (by decide) ?_
  refine J_istore_n (lv2 := [(1, .int (0 : Int32)), (0, .ref (ad 426))]) hX dX12_load_1 rfl (Nat.le_of_ble_eq_true rfl) rfl ?_
  refine J_sub [1, 0] rfl (t_X12_load_l2 hX hR (fun m4 h => ?_) FU (0 : Int32) m h)
  refine J_aload_n hX dX12_load_27 rfl 0 rfl ?_
  refine J_callV hX km_X12_clearDesign kl_RX12_80 dX12_load_28 ka_426 (by decide) [] ⟨Nat.le_of_ble_eq_true rfl, Nat.le_of_ble_eq_true rfl⟩ rfl rfl (Nat.le_of_ble_eq_true rfl) (c_X12_clearDesign m4 _ h) (fun v w2 hk => ?_)
  obtain ⟨m5, rfl, rfl, h⟩ := hk
  show J X (0, 0) 31 [(0, .ref (ad 426))] [] (fl ad m5)
  refine J_aload_n hX dX12_load_31 rfl 0 rfl ?_
  refine J_iconst (v := (0 : Int32)) hX dX12_load_32 (by decide) ?_
  refine J_putI hX kf_RX12_182 dX12_load_33 ka_426 (by decide) rfl ?_
  refine J_nmM (fun m6 e_m6 => ?_)
  replace h := h m6 e_m6
  refine J_aload_n hX dX12_load_36 rfl 0 rfl ?_
  refine J_iconst (v := (0 : Int32)) hX dX12_load_37 (by decide) ?_
  refine J_putI hX kf_RX12_185 dX12_load_38 ka_426 (by decide) rfl ?_
  refine J_nmM (fun m7 e_m7 => ?_)
  replace h := h m7 e_m7
  refine J_iconst (v := (0 : Int32)) hX dX12_load_41 (by decide) ?_
  refine J_istore_n (lv2 := [(1, .int (0 : Int32)), (0, .ref (ad 426))]) hX dX12_load_42 rfl (Nat.le_of_ble_eq_true rfl) rfl ?_
  refine J_aload_n hX dX12_load_43 rfl 1 rfl ?_
  refine J_callV hX km_X12_skips kl_RX12_197 dX12_load_44 ka_426 (by decide) [] ⟨Nat.le_of_ble_eq_true rfl, Nat.le_of_ble_eq_true rfl⟩ rfl rfl (Nat.le_of_ble_eq_true rfl) (c_X12_skips m7 _ h) (fun v w2 hk => ?_)
  obtain ⟨m8, rfl, rfl, h⟩ := hk
  show J X (0, 0) 47 [(1, .int (0 : Int32)), (0, .ref (ad 426))] [] (fl ad m8)
  refine J_sub [1, 0] rfl (t_X12_load_l47 hX hR (fun y14 m15 h => ?_) FU (0 : Int32) m8 h)
  refine J_aload_n hX dX12_load_86 rfl 0 rfl ?_
  refine J_getI hX kf_RX12_182 dX12_load_87 ka_426 (by decide) rfl ?_
  refine J_if_le (tgt := 128) hX dX12_load_90 (by decide) (fun c16 => ?_) (fun c16 => ?_)
  · replace h := Eq.mp (if_pos c16) h
    refine J_aload_n hX dX12_load_128 rfl 0 rfl ?_
    refine J_iconst (v := (0 : Int32)) hX dX12_load_129 (by decide) ?_
    refine J_putI hX kf_RX12_99 dX12_load_130 ka_426 (by decide) rfl ?_
    refine J_nmM (fun m17 e_m17 => ?_)
    replace h := h m17 e_m17
    refine J_iload_n hX dX12_load_133 rfl 1 rfl ?_
    exact J_iret hX hR dX12_load_134 ⟨_, _, rfl, rfl, h⟩
  · replace h := Eq.mp (if_neg c16) h
    refine J_iconst (v := (0 : Int32)) hX dX12_load_93 (by decide) ?_
    refine J_istore_n (lv2 := [(2, .int (0 : Int32)), (0, .ref (ad 426)), (1, .int y14)]) hX dX12_load_94 rfl (Nat.le_of_ble_eq_true rfl) rfl ?_
    refine J_sub [1, 0] rfl (t_X12_load_l95 hX hR (fun m21 h => ?_) FU (0 : Int32) m15 h)
    refine J_bipush (v := (-10 : Int32)) hX dX12_load_120 (by decide) ?_
    refine J_aload_n hX dX12_load_122 rfl 0 rfl ?_
    refine J_getI hX kf_RX12_185 dX12_load_123 ka_426 (by decide) rfl ?_
    refine J_isub hX dX12_load_126 ?_
    exact J_iret hX hR dX12_load_127 ⟨_, _, rfl, rfl, h⟩
set_option maxRecDepth 100000 in
theorem c_X12_openLength {G : GT} {ad : Nat → Nat} (x1 : Int32) (x2 : Int32) (m : Mm) (K : Int32 → Mm → Prop) (h : wp_X12_openLength x1 x2 m K) : Cn G yX12_openLength cX12_openLength 3 (some .int) (rmN 4 103) [.ref (ad 426), .int x1, .int x2] (0, 0) (fl ad m) (kI ad K) := by
  unfold wp_X12_openLength at h
  refine Cn.of pn_RX12 (Nat.le_of_ble_eq_true rfl) (fun X hG hX hR => ?_)
  subst hG
  have hX : Cx X cX12_openLength 3 RX12 (rmN 4 103) := hX
  show J X (0, 0) 0 [(0, .ref (ad 426)), (1, .int x1), (2, .int x2)] [] (fl ad m)
  refine J_aload_n hX dX12_openLength_0 rfl 0 rfl ?_
  refine J_iload_n hX dX12_openLength_1 rfl 1 rfl ?_
  refine J_callV hX km_X12_isPanel kl_RX12_145 dX12_openLength_2 ka_426 (by decide) [.int x1] ⟨Nat.le_of_ble_eq_true rfl, Nat.le_of_ble_eq_true rfl⟩ rfl rfl (Nat.le_of_ble_eq_true rfl) (c_X12_isPanel x1 m) (fun v w2 hk => ?_)
  obtain ⟨rfl, rfl⟩ := hk
  show J X (0, 0) 5 [(0, .ref (ad 426)), (1, .int x1), (2, .int x2)] [.int (v_X12_isPanel x1 m)] (fl ad m)
  refine J_if_eq (tgt := 17) hX dX12_openLength_5 (by decide) (fun c1 => ?_) (fun c1 => ?_)
  · replace h := Eq.mp (if_pos c1) h
    refine J_iconst (v := (-1 : Int32)) hX dX12_openLength_17 (by decide) ?_
    exact J_iret hX hR dX12_openLength_18 ⟨_, _, rfl, rfl, h⟩
  · replace h := Eq.mp (if_neg c1) h
    refine J_iload_n hX dX12_openLength_8 rfl 2 rfl ?_
    refine J_iconst (v := (0 : Int32)) hX dX12_openLength_9 (by decide) ?_
    refine J_iconst (v := (3 : Int32)) hX dX12_openLength_10 (by decide) ?_
    refine J_callS hX km_X12_in kl_RX12_87 dX12_openLength_11 [.int x2, .int (0 : Int32), .int (3 : Int32)] ⟨Nat.le_of_ble_eq_true rfl, Nat.le_of_ble_eq_true rfl⟩ rfl rfl (Nat.le_of_ble_eq_true rfl) (c_X12_in x2 (0 : Int32) (3 : Int32) m) (fun v w2 hk => ?_)
    obtain ⟨rfl, rfl⟩ := hk
    show J X (0, 0) 14 [(0, .ref (ad 426)), (1, .int x1), (2, .int x2)] [.int (v_X12_in x2 (0 : Int32) (3 : Int32))] (fl ad m)
    refine J_if_ne (tgt := 19) hX dX12_openLength_14 (by decide) (fun c2 => ?_) (fun c2 => ?_)
    · replace h := Eq.mp (if_neg c2) h
      refine J_aload_n hX dX12_openLength_19 rfl 0 rfl ?_
      refine J_aload_n hX dX12_openLength_20 rfl 0 rfl ?_
      refine J_iconst (v := (0 : Int32)) hX dX12_openLength_21 (by decide) ?_
      obtain ⟨b3, h⟩ := h
      refine J_callV hX km_X12_limitOf kl_RX12_293 dX12_openLength_22 ka_426 (by decide) [.int (0 : Int32)] ⟨Nat.le_of_ble_eq_true rfl, Nat.le_of_ble_eq_true rfl⟩ rfl rfl (Nat.le_of_ble_eq_true rfl) (c_X12_limitOf (0 : Int32) m b3) (fun v w2 hk => ?_)
      obtain ⟨rfl, rfl⟩ := hk
      show J X (0, 0) 25 [(0, .ref (ad 426)), (1, .int x1), (2, .int x2)] [.int (v_X12_limitOf (0 : Int32) m), .ref (ad 426)] (fl ad m)
      refine J_callV hX km_X12_findSeams kl_RX12_296 dX12_openLength_25 ka_426 (by decide) [.int (v_X12_limitOf (0 : Int32) m)] ⟨Nat.le_of_ble_eq_true rfl, Nat.le_of_ble_eq_true rfl⟩ rfl rfl (Nat.le_of_ble_eq_true rfl) (c_X12_findSeams (v_X12_limitOf (0 : Int32) m) m _ h) (fun v w2 hk => ?_)
      obtain ⟨m4, rfl, rfl, h⟩ := hk
      show J X (0, 0) 28 [(0, .ref (ad 426)), (1, .int x1), (2, .int x2)] [] (fl ad m4)
      refine J_aload_n hX dX12_openLength_28 rfl 0 rfl ?_
      refine J_iload_n hX dX12_openLength_29 rfl 1 rfl ?_
      refine J_iload_n hX dX12_openLength_30 rfl 2 rfl ?_
      refine J_aload_n hX dX12_openLength_31 rfl 0 rfl ?_
      refine J_iconst (v := (0 : Int32)) hX dX12_openLength_32 (by decide) ?_
      refine J_callV hX km_X12_limitOf kl_RX12_293 dX12_openLength_33 ka_426 (by decide) [.int (0 : Int32)] ⟨Nat.le_of_ble_eq_true rfl, Nat.le_of_ble_eq_true rfl⟩ rfl rfl (Nat.le_of_ble_eq_true rfl) (c_X12_limitOf (0 : Int32) m4 b3) (fun v w2 hk => ?_)
      obtain ⟨rfl, rfl⟩ := hk
      show J X (0, 0) 36 [(0, .ref (ad 426)), (1, .int x1), (2, .int x2)] [.int (v_X12_limitOf (0 : Int32) m4), .int x2, .int x1, .ref (ad 426)] (fl ad m4)
      refine J_callV hX km_X12_openOf kl_RX12_317 dX12_openLength_36 ka_426 (by decide) [.int x1, .int x2, .int (v_X12_limitOf (0 : Int32) m4)] ⟨Nat.le_of_ble_eq_true rfl, Nat.le_of_ble_eq_true rfl⟩ rfl rfl (Nat.le_of_ble_eq_true rfl) (c_X12_openOf x1 x2 (v_X12_limitOf (0 : Int32) m4) m4 _ h) (fun v w2 hk => ?_)
      obtain ⟨y6, m5, rfl, rfl, h⟩ := hk
      show J X (0, 0) 39 [(0, .ref (ad 426)), (1, .int x1), (2, .int x2)] [.int y6] (fl ad m5)
      exact J_iret hX hR dX12_openLength_39 ⟨_, _, rfl, rfl, h⟩
    · replace h := Eq.mp (if_pos c2) h
      refine J_iconst (v := (-1 : Int32)) hX dX12_openLength_17 (by decide) ?_
      exact J_iret hX hR dX12_openLength_18 ⟨_, _, rfl, rfl, h⟩
set_option maxRecDepth 100000 in
theorem c_X12_panelCost {G : GT} {ad : Nat → Nat} (x1 : Int32) (m : Mm) (K : Int64 → Mm → Prop) (h : wp_X12_panelCost x1 m K) : Cn G yX12_panelCost cX12_panelCost 2 (some .long) (rmN 10 237) [.ref (ad 426), .int x1] (0, 0) (fl ad m) (kL ad K) := by
  unfold wp_X12_panelCost at h
  refine Cn.of pn_RX12 (Nat.le_of_ble_eq_true rfl) (fun X hG hX hR => ?_)
  subst hG
  have hX : Cx X cX12_panelCost 2 RX12 (rmN 10 237) := hX
  show J X (0, 0) 0 [(0, .ref (ad 426)), (1, .int x1)] [] (fl ad m)
  refine J_aload_n hX dX12_panelCost_0 rfl 0 rfl ?_
  refine J_iload_n hX dX12_panelCost_1 rfl 1 rfl ?_
  refine J_callV hX km_X12_isPanel kl_RX12_145 dX12_panelCost_2 ka_426 (by decide) [.int x1] ⟨Nat.le_of_ble_eq_true rfl, Nat.le_of_ble_eq_true rfl⟩ rfl rfl (Nat.le_of_ble_eq_true rfl) (c_X12_isPanel x1 m) (fun v w2 hk => ?_)
  obtain ⟨rfl, rfl⟩ := hk
  show J X (0, 0) 5 [(0, .ref (ad 426)), (1, .int x1)] [.int (v_X12_isPanel x1 m)] (fl ad m)
  refine J_if_eq (tgt := 16) hX dX12_panelCost_5 (by decide) (fun c1 => ?_) (fun c1 => ?_)
  · replace h := Eq.mp (if_pos c1) h
    refine J_ldc2 hX kc_RX12_354 dX12_panelCost_16 ?_
    exact J_lret hX hR dX12_panelCost_19 ⟨_, _, rfl, rfl, h⟩
  · replace h := Eq.mp (if_neg c1) h
    refine J_aload_n hX dX12_panelCost_8 rfl 0 rfl ?_
    refine J_iload_n hX dX12_panelCost_9 rfl 1 rfl ?_
    refine J_callV hX km_X12_costs kl_RX12_350 dX12_panelCost_10 ka_426 (by decide) [.int x1] ⟨Nat.le_of_ble_eq_true rfl, Nat.le_of_ble_eq_true rfl⟩ rfl rfl (Nat.le_of_ble_eq_true rfl) (c_X12_costs x1 m _ h) (fun v w2 hk => ?_)
    obtain ⟨y3, m2, rfl, rfl, h⟩ := hk
    show J X (0, 0) 13 [(0, .ref (ad 426)), (1, .int x1)] [.long y3] (fl ad m2)
    refine J_goto (tgt := 19) hX dX12_panelCost_13 (by decide) ?_
    exact J_lret hX hR dX12_panelCost_19 ⟨_, _, rfl, rfl, h⟩
set_option maxRecDepth 100000 in
theorem tb_X12_pitchOf_l25 {X : XT} {ad : Nat → Nat} {K : Int32 → Mm → Prop} (hX : Cx X cX12_pitchOf 7 RX12 (rmN 3 77)) (hR : Rx X (some .int) (kI ad K) (0, 0)) {rec : Int32 → Int32 → Mm → Prop} {k10 : Int32 → Int32 → Mm → Prop} (x1 : Int32) (x2 : Int32) (x3 : Int32) (x4 : Int32) (hrec : ∀ (x5 : Int32) (x6 : Int32) (m : Mm), rec x5 x6 m → J X (0, 0) 25 [(0, .ref (ad 426)), (1, .int x1), (2, .int x2), (3, .int x3), (4, .int x4), (5, .int x5), (6, .int x6)] [] (fl ad m)) (hk10 : ∀ (z4 : Int32) (z5 : Int32) (m : Mm), k10 z4 z5 m → J X (0, 0) 10 [(0, .ref (ad 426)), (1, .int x1), (2, .int x2), (3, .int x3), (4, .int z4), (5, .int z5)] [] (fl ad m)) (x5 : Int32) (x6 : Int32) (m : Mm) (h : wb_X12_pitchOf_l25 rec k10 K x1 x2 x3 x4 x5 x6 m) : J X (0, 0) 25 [(0, .ref (ad 426)), (1, .int x1), (2, .int x2), (3, .int x3), (4, .int x4), (5, .int x5), (6, .int x6)] [] (fl ad m) := by
  unfold wb_X12_pitchOf_l25 at h
  refine J_iload hX dX12_pitchOf_25 6 rfl ?_
  refine J_iload_n hX dX12_pitchOf_27 rfl 3 rfl ?_
  have hj11 : ∀ y5 : Int32, y5 = (if x3 = (0 : Int32) then (v_X12_most x4 (400 : Int32)) else x4) → J X (0, 0) 44 [(0, .ref (ad 426)), (1, .int x1), (2, .int x2), (3, .int x3), (4, .int x4), (5, .int x5), (6, .int x6)] [.int y5, .int x6] (fl ad m) := by
    intro y5 e_y5
    replace h := h y5 e_y5
    refine J_icmp_gt (tgt := 73) hX dX12_pitchOf_44 (by decide) (fun c6 => ?_) (fun c6 => ?_)
    · replace h := Eq.mp (if_pos c6) h
      refine J_goto (tgt := 10) hX dX12_pitchOf_73 (by decide) ?_
      exact J_sub [0, 1, 2, 3, 4, 5] rfl (hk10 x4 x5 m h)
    · replace h := Eq.mp (if_neg c6) h
      refine J_iload hX dX12_pitchOf_47 5 rfl ?_
      refine J_if_eq (tgt := 73) hX dX12_pitchOf_49 (by decide) (fun c7 => ?_) (fun c7 => ?_)
      · replace h := Eq.mp (if_pos c7) h
        refine J_goto (tgt := 10) hX dX12_pitchOf_73 (by decide) ?_
        exact J_sub [0, 1, 2, 3, 4, 5] rfl (hk10 x4 x5 m h)
      · replace h := Eq.mp (if_neg c7) h
        refine J_aload_n hX dX12_pitchOf_52 rfl 0 rfl ?_
        refine J_iload_n hX dX12_pitchOf_53 rfl 1 rfl ?_
        refine J_iload_n hX dX12_pitchOf_54 rfl 2 rfl ?_
        refine J_iload_n hX dX12_pitchOf_55 rfl 3 rfl ?_
        refine J_iload hX dX12_pitchOf_56 6 rfl ?_
        refine J_callV hX km_X12_isFree kl_RX12_386 dX12_pitchOf_58 ka_426 (by decide) [.int x1, .int x2, .int x3, .int x6] ⟨Nat.le_of_ble_eq_true rfl, Nat.le_of_ble_eq_true rfl⟩ rfl rfl (Nat.le_of_ble_eq_true rfl) (c_X12_isFree x1 x2 x3 x6 m _ h) (fun v w2 hk => ?_)
        obtain ⟨y9, m8, rfl, rfl, h⟩ := hk
        show J X (0, 0) 61 [(0, .ref (ad 426)), (1, .int x1), (2, .int x2), (3, .int x3), (4, .int x4), (5, .int x5), (6, .int x6)] [.int y9] (fl ad m8)
        refine J_istore (lv2 := [(5, .int y9), (0, .ref (ad 426)), (1, .int x1), (2, .int x2), (3, .int x3), (4, .int x4), (6, .int x6)]) hX dX12_pitchOf_61 (Nat.le_of_ble_eq_true rfl) rfl ?_
        refine J_iload hX dX12_pitchOf_63 6 rfl ?_
        refine J_iload hX dX12_pitchOf_65 5 rfl ?_
        refine J_iadd hX dX12_pitchOf_67 ?_
        refine J_nmI (fun y10 e_y10 => ?_)
        replace h := h y10 e_y10
        refine J_istore (lv2 := [(6, .int y10), (5, .int y9), (0, .ref (ad 426)), (1, .int x1), (2, .int x2), (3, .int x3), (4, .int x4)]) hX dX12_pitchOf_68 (Nat.le_of_ble_eq_true rfl) rfl ?_
        refine J_goto (tgt := 25) hX dX12_pitchOf_70 (by decide) ?_
        exact J_sub [2, 3, 4, 5, 6, 1, 0] rfl (hrec y9 y10 m8 h)
  refine J_if_eq (tgt := 36) hX dX12_pitchOf_28 (by decide) (fun c4 => ?_) (fun c4 => ?_)
  · refine J_iload hX dX12_pitchOf_36 4 rfl ?_
    refine J_sipush (v := (400 : Int32)) hX dX12_pitchOf_38 (by decide) ?_
    refine J_callS hX km_X12_most kl_RX12_113 dX12_pitchOf_41 [.int x4, .int (400 : Int32)] ⟨Nat.le_of_ble_eq_true rfl, Nat.le_of_ble_eq_true rfl⟩ rfl rfl (Nat.le_of_ble_eq_true rfl) (c_X12_most x4 (400 : Int32) m) (fun v w2 hk => ?_)
    obtain ⟨rfl, rfl⟩ := hk
    show J X (0, 0) 44 [(0, .ref (ad 426)), (1, .int x1), (2, .int x2), (3, .int x3), (4, .int x4), (5, .int x5), (6, .int x6)] [.int (v_X12_most x4 (400 : Int32)), .int x6] (fl ad m)
    exact J_sub [0, 1, 2, 3, 4, 5, 6] rfl (hj11 _ (if_pos c4).symm)
  · refine J_iload hX dX12_pitchOf_31 4 rfl ?_
    refine J_goto (tgt := 44) hX dX12_pitchOf_33 (by decide) ?_
    exact J_sub [0, 1, 2, 3, 4, 5, 6] rfl (hj11 _ (if_neg c4).symm)
set_option maxRecDepth 100000 in
theorem t_X12_pitchOf_l25 {X : XT} {ad : Nat → Nat} {K : Int32 → Mm → Prop} (hX : Cx X cX12_pitchOf 7 RX12 (rmN 3 77)) (hR : Rx X (some .int) (kI ad K) (0, 0)) {k10 : Int32 → Int32 → Mm → Prop} (x1 : Int32) (x2 : Int32) (x3 : Int32) (x4 : Int32) (hk10 : ∀ (z4 : Int32) (z5 : Int32) (m : Mm), k10 z4 z5 m → J X (0, 0) 10 [(0, .ref (ad 426)), (1, .int x1), (2, .int x2), (3, .int x3), (4, .int z4), (5, .int z5)] [] (fl ad m)) : ∀ (n : Nat) (x5 : Int32) (x6 : Int32) (m : Mm), wp_X12_pitchOf_l25 k10 K x1 x2 x3 x4 n x5 x6 m → J X (0, 0) 25 [(0, .ref (ad 426)), (1, .int x1), (2, .int x2), (3, .int x3), (4, .int x4), (5, .int x5), (6, .int x6)] [] (fl ad m) := by
  intro n
  induction n with
  | zero => intro x5 x6 m h; exact h.elim
  | succ n ih => intro x5 x6 m h; exact tb_X12_pitchOf_l25 hX hR x1 x2 x3 x4 ih hk10 x5 x6 m h
set_option maxRecDepth 100000 in
theorem tb_X12_pitchOf_l10 {X : XT} {ad : Nat → Nat} {K : Int32 → Mm → Prop} (hX : Cx X cX12_pitchOf 7 RX12 (rmN 3 77)) (hR : Rx X (some .int) (kI ad K) (0, 0)) {rec : Int32 → Int32 → Mm → Prop} (x1 : Int32) (x2 : Int32) (x3 : Int32) (hrec : ∀ (x4 : Int32) (x5 : Int32) (m : Mm), rec x4 x5 m → J X (0, 0) 10 [(0, .ref (ad 426)), (1, .int x1), (2, .int x2), (3, .int x3), (4, .int x4), (5, .int x5)] [] (fl ad m)) (x4 : Int32) (x5 : Int32) (m : Mm) (h : wb_X12_pitchOf_l10 rec K x1 x2 x3 x4 x5 m) : J X (0, 0) 10 [(0, .ref (ad 426)), (1, .int x1), (2, .int x2), (3, .int x3), (4, .int x4), (5, .int x5)] [] (fl ad m) := by
  unfold wb_X12_pitchOf_l10 at h
  refine J_iload hX dX12_pitchOf_10 5 rfl ?_
  refine J_if_ne (tgt := 76) hX dX12_pitchOf_12 (by decide) (fun c2 => ?_) (fun c2 => ?_)
  · replace h := Eq.mp (if_neg c2) h
    refine J_iload hX dX12_pitchOf_76 4 rfl ?_
    exact J_iret hX hR dX12_pitchOf_78 ⟨_, _, rfl, rfl, h⟩
  · replace h := Eq.mp (if_pos c2) h
    refine J_iinc (x := (x4 + (1 : Int32))) (lv2 := [(4, .int (x4 + (1 : Int32))), (0, .ref (ad 426)), (1, .int x1), (2, .int x2), (3, .int x3), (5, .int x5)]) hX dX12_pitchOf_15 4 rfl rfl (Nat.le_of_ble_eq_true rfl) rfl ?_
    refine J_iconst (v := (1 : Int32)) hX dX12_pitchOf_18 (by decide) ?_
    refine J_istore (lv2 := [(5, .int (1 : Int32)), (4, .int (x4 + (1 : Int32))), (0, .ref (ad 426)), (1, .int x1), (2, .int x2), (3, .int x3)]) hX dX12_pitchOf_19 (Nat.le_of_ble_eq_true rfl) rfl ?_
    refine J_iload hX dX12_pitchOf_21 1 rfl ?_
    refine J_nmI (fun y3 e_y3 => ?_)
    replace h := h y3 e_y3
    refine J_istore (lv2 := [(6, .int y3), (5, .int (1 : Int32)), (4, .int (x4 + (1 : Int32))), (0, .ref (ad 426)), (1, .int x1), (2, .int x2), (3, .int x3)]) hX dX12_pitchOf_23 (Nat.le_of_ble_eq_true rfl) rfl ?_
    refine J_sub [3, 4, 5, 6, 2, 1, 0] rfl (t_X12_pitchOf_l25 hX hR x1 x2 x3 (x4 + (1 : Int32)) hrec FU (1 : Int32) y3 m h)
set_option maxRecDepth 100000 in
theorem t_X12_pitchOf_l10 {X : XT} {ad : Nat → Nat} {K : Int32 → Mm → Prop} (hX : Cx X cX12_pitchOf 7 RX12 (rmN 3 77)) (hR : Rx X (some .int) (kI ad K) (0, 0)) (x1 : Int32) (x2 : Int32) (x3 : Int32) : ∀ (n : Nat) (x4 : Int32) (x5 : Int32) (m : Mm), wp_X12_pitchOf_l10 K x1 x2 x3 n x4 x5 m → J X (0, 0) 10 [(0, .ref (ad 426)), (1, .int x1), (2, .int x2), (3, .int x3), (4, .int x4), (5, .int x5)] [] (fl ad m) := by
  intro n
  induction n with
  | zero => intro x4 x5 m h; exact h.elim
  | succ n ih => intro x4 x5 m h; exact tb_X12_pitchOf_l10 hX hR x1 x2 x3 ih x4 x5 m h
set_option maxRecDepth 100000 in
theorem c_X12_pitchOf {G : GT} {ad : Nat → Nat} (x1 : Int32) (x2 : Int32) (x3 : Int32) (m : Mm) (K : Int32 → Mm → Prop) (h : wp_X12_pitchOf x1 x2 x3 m K) : Cn G yX12_pitchOf cX12_pitchOf 7 (some .int) (rmN 3 77) [.ref (ad 426), .int x1, .int x2, .int x3] (0, 0) (fl ad m) (kI ad K) := by
  unfold wp_X12_pitchOf at h
  refine Cn.of pn_RX12 (Nat.le_of_ble_eq_true rfl) (fun X hG hX hR => ?_)
  subst hG
  have hX : Cx X cX12_pitchOf 7 RX12 (rmN 3 77) := hX
  show J X (0, 0) 0 [(0, .ref (ad 426)), (1, .int x1), (2, .int x2), (3, .int x3)] [] (fl ad m)
  refine J_aload_n hX dX12_pitchOf_0 rfl 0 rfl ?_
  refine J_callV hX km_X12_layFlat kl_RX12_120 dX12_pitchOf_1 ka_426 (by decide) [] ⟨Nat.le_of_ble_eq_true rfl, Nat.le_of_ble_eq_true rfl⟩ rfl rfl (Nat.le_of_ble_eq_true rfl) (c_X12_layFlat m _ h) (fun v w2 hk => ?_)
  obtain ⟨m1, rfl, rfl, h⟩ := hk
  show J X (0, 0) 4 [(0, .ref (ad 426)), (1, .int x1), (2, .int x2), (3, .int x3)] [] (fl ad m1)
  refine J_iconst (v := (0 : Int32)) hX dX12_pitchOf_4 (by decide) ?_
  refine J_istore (lv2 := [(4, .int (0 : Int32)), (0, .ref (ad 426)), (1, .int x1), (2, .int x2), (3, .int x3)]) hX dX12_pitchOf_5 (Nat.le_of_ble_eq_true rfl) rfl ?_
  refine J_iconst (v := (0 : Int32)) hX dX12_pitchOf_7 (by decide) ?_
  refine J_istore (lv2 := [(5, .int (0 : Int32)), (4, .int (0 : Int32)), (0, .ref (ad 426)), (1, .int x1), (2, .int x2), (3, .int x3)]) hX dX12_pitchOf_8 (Nat.le_of_ble_eq_true rfl) rfl ?_
  refine J_sub [2, 3, 4, 5, 1, 0] rfl (t_X12_pitchOf_l10 hX hR x1 x2 x3 FU (0 : Int32) (0 : Int32) m1 h)
