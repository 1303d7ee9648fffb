set_option maxRecDepth 100000 in
theorem c_X12_pitch {G : GT} {ad : Nat → Nat} (x1 : Int32) (x2 : Int32) (x3 : Int32) (m : Mm) (K : Int32 → Mm → Prop) (h : wp_X12_pitch x1 x2 x3 m K) : Cn G yX12_pitch cX12_pitch 4 (some .int) (rmN 4 103) [.ref (ad 426), .int x1, .int x2, .int x3] (0, 0) (fl ad m) (kI ad K) := by
  unfold wp_X12_pitch at h
  refine Cn.of pn_RX12 (Nat.le_of_ble_eq_true rfl) (fun X hG hX hR => ?_)
  subst hG
  have hX : Cx X cX12_pitch 4 RX12 (rmN 4 103) := hX
  show J X (0, 0) 0 [(0, .ref (ad 426)), (1, .int x1), (2, .int x2), (3, .int x3)] [] (fl ad m)
  refine J_iload_n hX dX12_pitch_0 rfl 1 rfl ?_
  refine J_iconst (v := (0 : Int32)) hX dX12_pitch_1 (by decide) ?_
  refine J_iconst (v := (1 : Int32)) hX dX12_pitch_2 (by decide) ?_
  refine J_callS hX km_X12_in kl_RX12_87 dX12_pitch_3 [.int x1, .int (0 : Int32), .int (1 : Int32)] ⟨Nat.le_of_ble_eq_true rfl, Nat.le_of_ble_eq_true rfl⟩ rfl rfl (Nat.le_of_ble_eq_true rfl) (c_X12_in x1 (0 : Int32) (1 : Int32) m) (fun v w2 hk => ?_)
  obtain ⟨rfl, rfl⟩ := hk
  show J X (0, 0) 6 [(0, .ref (ad 426)), (1, .int x1), (2, .int x2), (3, .int x3)] [.int (v_X12_in x1 (0 : Int32) (1 : Int32))] (fl ad m)
  refine J_if_eq (tgt := 19) hX dX12_pitch_6 (by decide) (fun c1 => ?_) (fun c1 => ?_)
  · replace h := Eq.mp (if_pos c1) h
    refine J_iconst (v := (-1 : Int32)) hX dX12_pitch_19 (by decide) ?_
    exact J_iret hX hR dX12_pitch_20 ⟨_, _, rfl, rfl, h⟩
  · replace h := Eq.mp (if_neg c1) h
    refine J_iload_n hX dX12_pitch_9 rfl 2 rfl ?_
    refine J_iconst (v := (0 : Int32)) hX dX12_pitch_10 (by decide) ?_
    refine J_bipush (v := (50 : Int32)) hX dX12_pitch_11 (by decide) ?_
    refine J_callS hX km_X12_in kl_RX12_87 dX12_pitch_13 [.int x2, .int (0 : Int32), .int (50 : Int32)] ⟨Nat.le_of_ble_eq_true rfl, Nat.le_of_ble_eq_true rfl⟩ rfl rfl (Nat.le_of_ble_eq_true rfl) (c_X12_in x2 (0 : Int32) (50 : Int32) m) (fun v w2 hk => ?_)
    obtain ⟨rfl, rfl⟩ := hk
    show J X (0, 0) 16 [(0, .ref (ad 426)), (1, .int x1), (2, .int x2), (3, .int x3)] [.int (v_X12_in x2 (0 : Int32) (50 : Int32))] (fl ad m)
    refine J_if_ne (tgt := 21) hX dX12_pitch_16 (by decide) (fun c2 => ?_) (fun c2 => ?_)
    · replace h := Eq.mp (if_neg c2) h
      refine J_aload_n hX dX12_pitch_21 rfl 0 rfl ?_
      refine J_callV hX km_X12_many kl_RX12_83 dX12_pitch_22 ka_426 (by decide) [] ⟨Nat.le_of_ble_eq_true rfl, Nat.le_of_ble_eq_true rfl⟩ rfl rfl (Nat.le_of_ble_eq_true rfl) (c_X12_many m) (fun v w2 hk => ?_)
      obtain ⟨rfl, rfl⟩ := hk
      show J X (0, 0) 25 [(0, .ref (ad 426)), (1, .int x1), (2, .int x2), (3, .int x3)] [.int (v_X12_many m)] (fl ad m)
      refine J_if_ne (tgt := 33) hX dX12_pitch_25 (by decide) (fun c3 => ?_) (fun c3 => ?_)
      · replace h := Eq.mp (if_neg c3) h
        refine J_aload_n hX dX12_pitch_33 rfl 0 rfl ?_
        refine J_iload_n hX dX12_pitch_34 rfl 1 rfl ?_
        refine J_iload_n hX dX12_pitch_35 rfl 2 rfl ?_
        refine J_iload_n hX dX12_pitch_36 rfl 3 rfl ?_
        refine J_callV hX km_X12_pitchOf kl_RX12_390 dX12_pitch_37 ka_426 (by decide) [.int x1, .int x2, .int x3] ⟨Nat.le_of_ble_eq_true rfl, Nat.le_of_ble_eq_true rfl⟩ rfl rfl (Nat.le_of_ble_eq_true rfl) (c_X12_pitchOf x1 x2 x3 m _ h) (fun v w2 hk => ?_)
        obtain ⟨y5, m4, rfl, rfl, h⟩ := hk
        show J X (0, 0) 40 [(0, .ref (ad 426)), (1, .int x1), (2, .int x2), (3, .int x3)] [.int y5] (fl ad m4)
        exact J_iret hX hR dX12_pitch_40 ⟨_, _, rfl, rfl, h⟩
      · replace h := Eq.mp (if_pos c3) h
        refine J_bipush (v := (-2 : Int32)) hX dX12_pitch_28 (by decide) ?_
        refine J_goto (tgt := 40) hX dX12_pitch_30 (by decide) ?_
        exact J_iret hX hR dX12_pitch_40 ⟨_, _, rfl, rfl, h⟩
    · replace h := Eq.mp (if_pos c2) h
      refine J_iconst (v := (-1 : Int32)) hX dX12_pitch_19 (by decide) ?_
      exact J_iret hX hR dX12_pitch_20 ⟨_, _, rfl, rfl, h⟩
set_option maxRecDepth 100000 in
theorem c_X12_place {G : GT} {ad : Nat → Nat} (x1 : Int32) (x2 : Int32) (x3 : Int32) (x4 : Int32) (x5 : Int32) (m : Mm) (K : Int32 → Mm → Prop) (h : wp_X12_place x1 x2 x3 x4 x5 m K) : Cn G yX12_place cX12_place 6 (some .int) (rmN 3 69) [.ref (ad 426), .int x1, .int x2, .int x3, .int x4, .int x5] (0, 0) (fl ad m) (kI ad K) := by
  unfold wp_X12_place at h
  refine Cn.of pn_RX12 (Nat.le_of_ble_eq_true rfl) (fun X hG hX hR => ?_)
  subst hG
  have hX : Cx X cX12_place 6 RX12 (rmN 3 69) := hX
  show J X (0, 0) 0 [(0, .ref (ad 426)), (1, .int x1), (2, .int x2), (3, .int x3), (4, .int x4), (5, .int x5)] [] (fl ad m)
  refine J_aload_n hX dX12_place_0 rfl 0 rfl ?_
  refine J_callV hX km_X12_begins kl_RX12_103 dX12_place_1 ka_426 (by decide) [] ⟨Nat.le_of_ble_eq_true rfl, Nat.le_of_ble_eq_true rfl⟩ rfl rfl (Nat.le_of_ble_eq_true rfl) (c_X12_begins m _ h) (fun v w2 hk => ?_)
  obtain ⟨m1, rfl, rfl, h⟩ := hk
  show J X (0, 0) 4 [(0, .ref (ad 426)), (1, .int x1), (2, .int x2), (3, .int x3), (4, .int x4), (5, .int x5)] [] (fl ad m1)
  refine J_aload_n hX dX12_place_4 rfl 0 rfl ?_
  refine J_aload_n hX dX12_place_5 rfl 0 rfl ?_
  refine J_iload_n hX dX12_place_6 rfl 1 rfl ?_
  refine J_iload_n hX dX12_place_7 rfl 2 rfl ?_
  refine J_iload_n hX dX12_place_8 rfl 3 rfl ?_
  refine J_iload hX dX12_place_9 4 rfl ?_
  refine J_iload hX dX12_place_11 5 rfl ?_
  refine J_callV hX km_X12_doPlace kl_RX12_169 dX12_place_13 ka_426 (by decide) [.int x1, .int x2, .int x3, .int x4, .int x5] ⟨Nat.le_of_ble_eq_true rfl, Nat.le_of_ble_eq_true rfl⟩ rfl rfl (Nat.le_of_ble_eq_true rfl) (c_X12_doPlace x1 x2 x3 x4 x5 m1 _ h) (fun v w2 hk => ?_)
  obtain ⟨y3, m2, rfl, rfl, h⟩ := hk
  show J X (0, 0) 16 [(0, .ref (ad 426)), (1, .int x1), (2, .int x2), (3, .int x3), (4, .int x4), (5, .int x5)] [.int y3, .ref (ad 426)] (fl ad m2)
  refine J_callV hX km_X12_ends kl_RX12_106 dX12_place_16 ka_426 (by decide) [.int y3] ⟨Nat.le_of_ble_eq_true rfl, Nat.le_of_ble_eq_true rfl⟩ rfl rfl (Nat.le_of_ble_eq_true rfl) (c_X12_ends y3 m2 _ h) (fun v w2 hk => ?_)
  obtain ⟨y5, m4, rfl, rfl, h⟩ := hk
  show J X (0, 0) 19 [(0, .ref (ad 426)), (1, .int x1), (2, .int x2), (3, .int x3), (4, .int x4), (5, .int x5)] [.int y5] (fl ad m4)
  exact J_iret hX hR dX12_place_19 ⟨_, _, rfl, rfl, h⟩
set_option maxRecDepth 100000 in
theorem c_X12_reach {G : GT} {ad : Nat → Nat} (x1 : Int32) (x2 : Int32) (m : Mm) (K : Int32 → Mm → Prop) (h : wp_X12_reach x1 x2 m K) : Cn G yX12_reach cX12_reach 3 (some .int) (rmN 5 112) [.ref (ad 426), .int x1, .int x2] (0, 0) (fl ad m) (kI ad K) := by
  unfold wp_X12_reach at h
  refine Cn.of pn_RX12 (Nat.le_of_ble_eq_true rfl) (fun X hG hX hR => ?_)
  subst hG
  have hX : Cx X cX12_reach 3 RX12 (rmN 5 112) := hX
  show J X (0, 0) 0 [(0, .ref (ad 426)), (1, .int x1), (2, .int x2)] [] (fl ad m)
  refine J_aload_n hX dX12_reach_0 rfl 0 rfl ?_
  refine J_iload_n hX dX12_reach_1 rfl 1 rfl ?_
  refine J_callV hX km_X12_isPanel kl_RX12_145 dX12_reach_2 ka_426 (by decide) [.int x1] ⟨Nat.le_of_ble_eq_true rfl, Nat.le_of_ble_eq_true rfl⟩ rfl rfl (Nat.le_of_ble_eq_true rfl) (c_X12_isPanel x1 m) (fun v w2 hk => ?_)
  obtain ⟨rfl, rfl⟩ := hk
  show J X (0, 0) 5 [(0, .ref (ad 426)), (1, .int x1), (2, .int x2)] [.int (v_X12_isPanel x1 m)] (fl ad m)
  refine J_if_eq (tgt := 17) hX dX12_reach_5 (by decide) (fun c1 => ?_) (fun c1 => ?_)
  · replace h := Eq.mp (if_pos c1) h
    refine J_iconst (v := (-1 : Int32)) hX dX12_reach_17 (by decide) ?_
    exact J_iret hX hR dX12_reach_18 ⟨_, _, rfl, rfl, h⟩
  · replace h := Eq.mp (if_neg c1) h
    refine J_iload_n hX dX12_reach_8 rfl 2 rfl ?_
    refine J_iconst (v := (0 : Int32)) hX dX12_reach_9 (by decide) ?_
    refine J_iconst (v := (3 : Int32)) hX dX12_reach_10 (by decide) ?_
    refine J_callS hX km_X12_in kl_RX12_87 dX12_reach_11 [.int x2, .int (0 : Int32), .int (3 : Int32)] ⟨Nat.le_of_ble_eq_true rfl, Nat.le_of_ble_eq_true rfl⟩ rfl rfl (Nat.le_of_ble_eq_true rfl) (c_X12_in x2 (0 : Int32) (3 : Int32) m) (fun v w2 hk => ?_)
    obtain ⟨rfl, rfl⟩ := hk
    show J X (0, 0) 14 [(0, .ref (ad 426)), (1, .int x1), (2, .int x2)] [.int (v_X12_in x2 (0 : Int32) (3 : Int32))] (fl ad m)
    refine J_if_ne (tgt := 19) hX dX12_reach_14 (by decide) (fun c2 => ?_) (fun c2 => ?_)
    · replace h := Eq.mp (if_neg c2) h
      refine J_aload_n hX dX12_reach_19 rfl 0 rfl ?_
      refine J_callV hX km_X12_layFlat kl_RX12_120 dX12_reach_20 ka_426 (by decide) [] ⟨Nat.le_of_ble_eq_true rfl, Nat.le_of_ble_eq_true rfl⟩ rfl rfl (Nat.le_of_ble_eq_true rfl) (c_X12_layFlat m _ h) (fun v w2 hk => ?_)
      obtain ⟨m3, rfl, rfl, h⟩ := hk
      show J X (0, 0) 23 [(0, .ref (ad 426)), (1, .int x1), (2, .int x2)] [] (fl ad m3)
      refine J_aload_n hX dX12_reach_23 rfl 0 rfl ?_
      refine J_iload_n hX dX12_reach_24 rfl 1 rfl ?_
      refine J_iload_n hX dX12_reach_25 rfl 2 rfl ?_
      obtain ⟨b4, h⟩ := h
      refine J_callV hX km_X12_reachOf kl_RX12_281 dX12_reach_26 ka_426 (by decide) [.int x1, .int x2] ⟨Nat.le_of_ble_eq_true rfl, Nat.le_of_ble_eq_true rfl⟩ rfl rfl (Nat.le_of_ble_eq_true rfl) (c_X12_reachOf x1 x2 m3 b4) (fun v w2 hk => ?_)
      obtain ⟨rfl, rfl⟩ := hk
      show J X (0, 0) 29 [(0, .ref (ad 426)), (1, .int x1), (2, .int x2)] [.int (v_X12_reachOf x1 x2 m3)] (fl ad m3)
      exact J_iret hX hR dX12_reach_29 ⟨_, _, rfl, rfl, h⟩
    · replace h := Eq.mp (if_pos c2) h
      refine J_iconst (v := (-1 : Int32)) hX dX12_reach_17 (by decide) ?_
      exact J_iret hX hR dX12_reach_18 ⟨_, _, rfl, rfl, h⟩
set_option maxRecDepth 100000 in
theorem tb_X12_removeLast_l23 {X : XT} {ad : Nat → Nat} {K : Int32 → Mm → Prop} (hX : Cx X cX12_removeLast 4 RX12 (rmN 1 22)) (hR : Rx X (some .int) (kI ad K) (0, 0)) {rec : Int32 → Int32 → Mm → Prop} {k58 : Int32 → Mm → Prop} (x1 : Int32) (hrec : ∀ (x2 : Int32) (x3 : Int32) (m : Mm), rec x2 x3 m → J X (0, 0) 23 [(0, .ref (ad 426)), (1, .int x1), (2, .int x2), (3, .int x3)] [] (fl ad m)) (hk58 : ∀ (z2 : Int32) (m : Mm), k58 z2 m → J X (0, 0) 58 [(0, .ref (ad 426)), (2, .int z2)] [] (fl ad m)) (x2 : Int32) (x3 : Int32) (m : Mm) (h : wb_X12_removeLast_l23 rec k58 K x1 x2 x3 m) : J X (0, 0) 23 [(0, .ref (ad 426)), (1, .int x1), (2, .int x2), (3, .int x3)] [] (fl ad m) := by
  unfold wb_X12_removeLast_l23 at h
  refine J_iload_n hX dX12_removeLast_23 rfl 3 rfl ?_
  refine J_aload_n hX dX12_removeLast_24 rfl 0 rfl ?_
  refine J_callV hX km_X12_many kl_RX12_83 dX12_removeLast_25 ka_426 (by decide) [] ⟨Nat.le_of_ble_eq_true rfl, Nat.le_of_ble_eq_true rfl⟩ rfl rfl (Nat.le_of_ble_eq_true rfl) (c_X12_many m) (fun v w2 hk => ?_)
  obtain ⟨rfl, rfl⟩ := hk
  show J X (0, 0) 28 [(0, .ref (ad 426)), (1, .int x1), (2, .int x2), (3, .int x3)] [.int (v_X12_many m), .int x3] (fl ad m)
  refine J_icmp_ge (tgt := 58) hX dX12_removeLast_28 (by decide) (fun c5 => ?_) (fun c5 => ?_)
  · replace h := Eq.mp (if_pos c5) h
    exact J_sub [0, 2] rfl (hk58 x2 m h)
  · replace h := Eq.mp (if_neg c5) h
    refine J_iload_n hX dX12_removeLast_31 rfl 2 rfl ?_
    obtain ⟨g9, h⟩ := h
    have hj11 : ∀ y10 : Int32, y10 = (if x2 = (0 : Int32) then (if (v_X12_of x3 (6 : Int32) m) = x1 then (1 : Int32) else (0 : Int32)) else (1 : Int32)) → J X (0, 0) 51 [(0, .ref (ad 426)), (1, .int x1), (3, .int x3)] [.int y10] (fl ad m) := by
      intro y10 e_y10
      replace h := h y10 e_y10
      refine J_istore_n (lv2 := [(2, .int y10), (0, .ref (ad 426)), (1, .int x1), (3, .int x3)]) hX dX12_removeLast_51 rfl (Nat.le_of_ble_eq_true rfl) rfl ?_
      refine J_iinc (x := (x3 + (1 : Int32))) (lv2 := [(3, .int (x3 + (1 : Int32))), (2, .int y10), (0, .ref (ad 426)), (1, .int x1)]) hX dX12_removeLast_52 3 rfl rfl (Nat.le_of_ble_eq_true rfl) rfl ?_
      refine J_goto (tgt := 23) hX dX12_removeLast_55 (by decide) ?_
      exact J_sub [2, 3, 1, 0] rfl (hrec y10 (x3 + (1 : Int32)) m h)
    have g12 := g9
    refine J_if_ne (tgt := 46) hX dX12_removeLast_32 (by decide) (fun c6 => ?_) (fun c6 => ?_)
    · refine J_iconst (v := (1 : Int32)) hX dX12_removeLast_46 (by decide) ?_
      refine J_goto (tgt := 51) hX dX12_removeLast_47 (by decide) ?_
      exact J_sub [0, 1, 3] rfl (hj11 _ (if_neg c6).symm)
    · have g13 := g12 c6
      have b7 := g13
      refine J_aload_n hX dX12_removeLast_35 rfl 0 rfl ?_
      refine J_iload_n hX dX12_removeLast_36 rfl 3 rfl ?_
      refine J_bipush (v := (6 : Int32)) hX dX12_removeLast_37 (by decide) ?_
      refine J_callV hX km_X12_of kl_RX12_91 dX12_removeLast_39 ka_426 (by decide) [.int x3, .int (6 : Int32)] ⟨Nat.le_of_ble_eq_true rfl, Nat.le_of_ble_eq_true rfl⟩ rfl rfl (Nat.le_of_ble_eq_true rfl) (c_X12_of x3 (6 : Int32) m b7) (fun v w2 hk => ?_)
      obtain ⟨rfl, rfl⟩ := hk
      show J X (0, 0) 42 [(0, .ref (ad 426)), (1, .int x1), (2, .int x2), (3, .int x3)] [.int (v_X12_of x3 (6 : Int32) m)] (fl ad m)
      refine J_iload_n hX dX12_removeLast_42 rfl 1 rfl ?_
      refine J_icmp_ne (tgt := 50) hX dX12_removeLast_43 (by decide) (fun c8 => ?_) (fun c8 => ?_)
      · refine J_iconst (v := (0 : Int32)) hX dX12_removeLast_50 (by decide) ?_
        exact J_sub [0, 1, 3] rfl (hj11 _ ((if_pos c6).trans (if_neg c8)).symm)
      · refine J_iconst (v := (1 : Int32)) hX dX12_removeLast_46 (by decide) ?_
        refine J_goto (tgt := 51) hX dX12_removeLast_47 (by decide) ?_
        exact J_sub [0, 1, 3] rfl (hj11 _ ((if_pos c6).trans (if_pos c8)).symm)
set_option maxRecDepth 100000 in
theorem t_X12_removeLast_l23 {X : XT} {ad : Nat → Nat} {K : Int32 → Mm → Prop} (hX : Cx X cX12_removeLast 4 RX12 (rmN 1 22)) (hR : Rx X (some .int) (kI ad K) (0, 0)) {k58 : Int32 → Mm → Prop} (x1 : Int32) (hk58 : ∀ (z2 : Int32) (m : Mm), k58 z2 m → J X (0, 0) 58 [(0, .ref (ad 426)), (2, .int z2)] [] (fl ad m)) : ∀ (n : Nat) (x2 : Int32) (x3 : Int32) (m : Mm), wp_X12_removeLast_l23 k58 K x1 n x2 x3 m → J X (0, 0) 23 [(0, .ref (ad 426)), (1, .int x1), (2, .int x2), (3, .int x3)] [] (fl ad m) := by
  intro n
  induction n with
  | zero => intro x2 x3 m h; exact h.elim
  | succ n ih => intro x2 x3 m h; exact tb_X12_removeLast_l23 hX hR x1 ih hk58 x2 x3 m h
set_option maxRecDepth 100000 in
theorem c_X12_removeLast {G : GT} {ad : Nat → Nat} (m : Mm) (K : Int32 → Mm → Prop) (h : wp_X12_removeLast m K) : Cn G yX12_removeLast cX12_removeLast 4 (some .int) (rmN 1 22) [.ref (ad 426)] (0, 0) (fl ad m) (kI ad K) := by
  unfold wp_X12_removeLast at h
  refine Cn.of pn_RX12 (Nat.le_of_ble_eq_true rfl) (fun X hG hX hR => ?_)
  subst hG
  have hX : Cx X cX12_removeLast 4 RX12 (rmN 1 22) := hX
  show J X (0, 0) 0 [(0, .ref (ad 426))] [] (fl ad m)
  refine J_aload_n hX dX12_removeLast_0 rfl 0 rfl ?_
  refine J_callV hX km_X12_begins kl_RX12_103 dX12_removeLast_1 ka_426 (by decide) [] ⟨Nat.le_of_ble_eq_true rfl, Nat.le_of_ble_eq_true rfl⟩ rfl rfl (Nat.le_of_ble_eq_true rfl) (c_X12_begins m _ h) (fun v w2 hk => ?_)
  obtain ⟨m1, rfl, rfl, h⟩ := hk
  show J X (0, 0) 4 [(0, .ref (ad 426))] [] (fl ad m1)
  refine J_aload_n hX dX12_removeLast_4 rfl 0 rfl ?_
  refine J_callV hX km_X12_many kl_RX12_83 dX12_removeLast_5 ka_426 (by decide) [] ⟨Nat.le_of_ble_eq_true rfl, Nat.le_of_ble_eq_true rfl⟩ rfl rfl (Nat.le_of_ble_eq_true rfl) (c_X12_many m1) (fun v w2 hk => ?_)
  obtain ⟨rfl, rfl⟩ := hk
  show J X (0, 0) 8 [(0, .ref (ad 426))] [.int (v_X12_many m1)] (fl ad m1)
  refine J_iconst (v := (1 : Int32)) hX dX12_removeLast_8 (by decide) ?_
  refine J_isub hX dX12_removeLast_9 ?_
  refine J_nmI (fun y2 e_y2 => ?_)
  replace h := h y2 e_y2
  refine J_istore_n (lv2 := [(1, .int y2), (0, .ref (ad 426))]) hX dX12_removeLast_10 rfl (Nat.le_of_ble_eq_true rfl) rfl ?_
  refine J_iload_n hX dX12_removeLast_11 rfl 0 rfl ?_
  have hj20 : ∀ y4 : Int32, y4 = (if (0 : Int32) ≤ y2 then (0 : Int32) else (1 : Int32)) → J X (0, 0) 20 [(0, .ref (ad 426)), (1, .int y2)] [.int y4] (fl ad m1) := by
    intro y4 e_y4
    replace h := h y4 e_y4
    refine J_istore_n (lv2 := [(2, .int y4), (0, .ref (ad 426)), (1, .int y2)]) hX dX12_removeLast_20 rfl (Nat.le_of_ble_eq_true rfl) rfl ?_
    refine J_iconst (v := (0 : Int32)) hX dX12_removeLast_21 (by decide) ?_
    refine J_istore_n (lv2 := [(3, .int (0 : Int32)), (2, .int y4), (0, .ref (ad 426)), (1, .int y2)]) hX dX12_removeLast_22 rfl (Nat.le_of_ble_eq_true rfl) rfl ?_
    refine J_sub [2, 3, 1, 0] rfl (t_X12_removeLast_l23 hX hR y2 (fun y14 m15 h => ?_) FU y4 (0 : Int32) m1 h)
    refine J_iload_n hX dX12_removeLast_58 rfl 1 rfl ?_
    refine J_if_eq (tgt := 65) hX dX12_removeLast_59 (by decide) (fun c16 => ?_) (fun c16 => ?_)
    · replace h := Eq.mp (if_pos c16) h
      refine J_aload_n hX dX12_removeLast_65 rfl 0 rfl ?_
      refine J_getR hX kf_RX12_7 dX12_removeLast_66 ka_426 (by decide) rfl rh_426_0 ?_
      refine J_iconst (v := (2 : Int32)) hX dX12_removeLast_69 (by decide) ?_
      refine J_dup2_11 hX dX12_removeLast_70 rfl rfl ?_
      refine J_iald (j := 2) hX dX12_removeLast_71 ka_427 le_427 (vp_lit (by decide)) (by decide) ?_
      refine J_iconst (v := (1 : Int32)) hX dX12_removeLast_72 (by decide) ?_
      refine J_isub hX dX12_removeLast_73 ?_
      refine J_iast (j := 2) hX dX12_removeLast_74 ka_427 le_427 (vp_lit (by decide)) (by decide) ?_
      refine J_nmM (fun m17 e_m17 => ?_)
      replace h := h m17 e_m17
      refine J_aload_n hX dX12_removeLast_75 rfl 0 rfl ?_
      refine J_aload_n hX dX12_removeLast_76 rfl 0 rfl ?_
      refine J_callV hX km_X12_many kl_RX12_83 dX12_removeLast_77 ka_426 (by decide) [] ⟨Nat.le_of_ble_eq_true rfl, Nat.le_of_ble_eq_true rfl⟩ rfl rfl (Nat.le_of_ble_eq_true rfl) (c_X12_many m17) (fun v w2 hk => ?_)
      obtain ⟨rfl, rfl⟩ := hk
      show J X (0, 0) 80 [(0, .ref (ad 426)), (2, .int y14)] [.int (v_X12_many m17), .ref (ad 426)] (fl ad m17)
      refine J_callV hX km_X12_ends kl_RX12_106 dX12_removeLast_80 ka_426 (by decide) [.int (v_X12_many m17)] ⟨Nat.le_of_ble_eq_true rfl, Nat.le_of_ble_eq_true rfl⟩ rfl rfl (Nat.le_of_ble_eq_true rfl) (c_X12_ends (v_X12_many m17) m17 _ h) (fun v w2 hk => ?_)
      obtain ⟨y19, m18, rfl, rfl, h⟩ := hk
      show J X (0, 0) 83 [(0, .ref (ad 426)), (2, .int y14)] [.int y19] (fl ad m18)
      exact J_iret hX hR dX12_removeLast_83 ⟨_, _, rfl, rfl, h⟩
    · replace h := Eq.mp (if_neg c16) h
      refine J_bipush (v := (-2 : Int32)) hX dX12_removeLast_62 (by decide) ?_
      exact J_iret hX hR dX12_removeLast_64 ⟨_, _, rfl, rfl, h⟩
  refine J_if_ge (tgt := 19) hX dX12_removeLast_12 (by decide) (fun c3 => ?_) (fun c3 => ?_)
  · refine J_iconst (v := (0 : Int32)) hX dX12_removeLast_19 (by decide) ?_
    exact J_sub [1, 0] rfl (hj20 _ (if_pos c3).symm)
  · refine J_iconst (v := (1 : Int32)) hX dX12_removeLast_15 (by decide) ?_
    refine J_goto (tgt := 20) hX dX12_removeLast_16 (by decide) ?_
    exact J_sub [1, 0] rfl (hj20 _ (if_neg c3).symm)
set_option maxRecDepth 100000 in
theorem tb_X12_restore_l29 {X : XT} {ad : Nat → Nat} {K : Int32 → Mm → Prop} (hX : Cx X cX12_restore 3 RX12 (rmN 1 22)) (hR : Rx X (some .int) (kI ad K) (0, 0)) {rec : Int32 → Mm → Prop} {k58 : Mm → Prop} (x1 : Int32) (hrec : ∀ (x2 : Int32) (m : Mm), rec x2 m → J X (0, 0) 29 [(0, .ref (ad 426)), (1, .int x1), (2, .int x2)] [] (fl ad m)) (hk58 : ∀ (m : Mm), k58 m → J X (0, 0) 58 [(0, .ref (ad 426))] [] (fl ad m)) (x2 : Int32) (m : Mm) (h : wb_X12_restore_l29 rec k58 K x1 x2 m) : J X (0, 0) 29 [(0, .ref (ad 426)), (1, .int x1), (2, .int x2)] [] (fl ad m) := by
  unfold wb_X12_restore_l29 at h
  refine J_iload_n hX dX12_restore_29 rfl 2 rfl ?_
  refine J_bipush (v := (125 : Int32)) hX dX12_restore_30 (by decide) ?_
  refine J_icmp_ge (tgt := 58) hX dX12_restore_32 (by decide) (fun c5 => ?_) (fun c5 => ?_)
  · replace h := Eq.mp (if_pos c5) h
    exact J_sub [0] rfl (hk58 m h)
  · replace h := Eq.mp (if_neg c5) h
    refine J_aload_n hX dX12_restore_35 rfl 0 rfl ?_
    refine J_getR hX kf_RX12_7 dX12_restore_36 ka_426 (by decide) rfl rh_426_0 ?_
    refine J_iload_n hX dX12_restore_39 rfl 2 rfl ?_
    refine J_aload_n hX dX12_restore_40 rfl 0 rfl ?_
    refine J_getR hX kf_RX12_19 dX12_restore_41 ka_426 (by decide) rfl rh_426_5 ?_
    refine J_bipush (v := (125 : Int32)) hX dX12_restore_44 (by decide) ?_
    refine J_iload_n hX dX12_restore_46 rfl 1 rfl ?_
    refine J_imul hX dX12_restore_47 ?_
    refine J_iload_n hX dX12_restore_48 rfl 2 rfl ?_
    refine J_iadd hX dX12_restore_49 ?_
    obtain ⟨b6, h⟩ := h
    refine J_iald (j := (((125 : Int32) * x1) + x2).toNatClampNeg) hX dX12_restore_50 ka_430 le_430 b6 rfl ?_
    obtain ⟨b7, h⟩ := h
    refine J_iast (j := x2.toNatClampNeg) hX dX12_restore_51 ka_427 le_427 b7 rfl ?_
    refine J_nmM (fun m8 e_m8 => ?_)
    replace h := h m8 e_m8
    refine J_iinc (x := (x2 + (1 : Int32))) (lv2 := [(2, .int (x2 + (1 : Int32))), (0, .ref (ad 426)), (1, .int x1)]) hX dX12_restore_52 2 rfl rfl (Nat.le_of_ble_eq_true rfl) rfl ?_
    refine J_goto (tgt := 29) hX dX12_restore_55 (by decide) ?_
    exact J_sub [1, 2, 0] rfl (hrec (x2 + (1 : Int32)) m8 h)
set_option maxRecDepth 100000 in
theorem t_X12_restore_l29 {X : XT} {ad : Nat → Nat} {K : Int32 → Mm → Prop} (hX : Cx X cX12_restore 3 RX12 (rmN 1 22)) (hR : Rx X (some .int) (kI ad K) (0, 0)) {k58 : Mm → Prop} (x1 : Int32) (hk58 : ∀ (m : Mm), k58 m → J X (0, 0) 58 [(0, .ref (ad 426))] [] (fl ad m)) : ∀ (n : Nat) (x2 : Int32) (m : Mm), wp_X12_restore_l29 k58 K x1 n x2 m → J X (0, 0) 29 [(0, .ref (ad 426)), (1, .int x1), (2, .int x2)] [] (fl ad m) := by
  intro n
  induction n with
  | zero => intro x2 m h; exact h.elim
  | succ n ih => intro x2 m h; exact tb_X12_restore_l29 hX hR x1 ih hk58 x2 m h
set_option maxRecDepth 100000 in
theorem c_X12_restore {G : GT} {ad : Nat → Nat} (x1 : Int32) (m : Mm) (K : Int32 → Mm → Prop) (h : wp_X12_restore x1 m K) : Cn G yX12_restore cX12_restore 3 (some .int) (rmN 1 22) [.ref (ad 426), .int x1] (0, 0) (fl ad m) (kI ad K) := by
  unfold wp_X12_restore at h
  refine Cn.of pn_RX12 (Nat.le_of_ble_eq_true rfl) (fun X hG hX hR => ?_)
  subst hG
  have hX : Cx X cX12_restore 3 RX12 (rmN 1 22) := hX
  show J X (0, 0) 0 [(0, .ref (ad 426)), (1, .int x1)] [] (fl ad m)
  refine J_aload_n hX dX12_restore_0 rfl 0 rfl ?_
  refine J_callV hX km_X12_begins kl_RX12_103 dX12_restore_1 ka_426 (by decide) [] ⟨Nat.le_of_ble_eq_true rfl, Nat.le_of_ble_eq_true rfl⟩ rfl rfl (Nat.le_of_ble_eq_true rfl) (c_X12_begins m _ h) (fun v w2 hk => ?_)
  obtain ⟨m1, rfl, rfl, h⟩ := hk
  show J X (0, 0) 4 [(0, .ref (ad 426)), (1, .int x1)] [] (fl ad m1)
  refine J_iload_n hX dX12_restore_4 rfl 1 rfl ?_
  refine J_iconst (v := (0 : Int32)) hX dX12_restore_5 (by decide) ?_
  refine J_iconst (v := (1 : Int32)) hX dX12_restore_6 (by decide) ?_
  refine J_callS hX km_X12_in kl_RX12_87 dX12_restore_7 [.int x1, .int (0 : Int32), .int (1 : Int32)] ⟨Nat.le_of_ble_eq_true rfl, Nat.le_of_ble_eq_true rfl⟩ rfl rfl (Nat.le_of_ble_eq_true rfl) (c_X12_in x1 (0 : Int32) (1 : Int32) m1) (fun v w2 hk => ?_)
  obtain ⟨rfl, rfl⟩ := hk
  show J X (0, 0) 10 [(0, .ref (ad 426)), (1, .int x1)] [.int (v_X12_in x1 (0 : Int32) (1 : Int32))] (fl ad m1)
  refine J_if_ne (tgt := 15) hX dX12_restore_10 (by decide) (fun c2 => ?_) (fun c2 => ?_)
  · replace h := Eq.mp (if_neg c2) h
    refine J_aload_n hX dX12_restore_15 rfl 0 rfl ?_
    refine J_getR hX kf_RX12_22 dX12_restore_16 ka_426 (by decide) rfl rh_426_6 ?_
    refine J_iload_n hX dX12_restore_19 rfl 1 rfl ?_
    obtain ⟨b3, h⟩ := h
    refine J_zald (j := x1.toNatClampNeg) hX dX12_restore_20 ka_431 le_431 b3 rfl ?_
    refine J_if_ne (tgt := 27) hX dX12_restore_21 (by decide) (fun c4 => ?_) (fun c4 => ?_)
    · replace h := Eq.mp (if_neg c4) h
      refine J_iconst (v := (0 : Int32)) hX dX12_restore_27 (by decide) ?_
      refine J_istore_n (lv2 := [(2, .int (0 : Int32)), (0, .ref (ad 426)), (1, .int x1)]) hX dX12_restore_28 rfl (Nat.le_of_ble_eq_true rfl) rfl ?_
      refine J_sub [1, 2, 0] rfl (t_X12_restore_l29 hX hR x1 (fun m9 h => ?_) FU (0 : Int32) m1 h)
      refine J_aload_n hX dX12_restore_58 rfl 0 rfl ?_
      refine J_aload_n hX dX12_restore_59 rfl 0 rfl ?_
      refine J_callV hX km_X12_many kl_RX12_83 dX12_restore_60 ka_426 (by decide) [] ⟨Nat.le_of_ble_eq_true rfl, Nat.le_of_ble_eq_true rfl⟩ rfl rfl (Nat.le_of_ble_eq_true rfl) (c_X12_many m9) (fun v w2 hk => ?_)
      obtain ⟨rfl, rfl⟩ := hk
      show J X (0, 0) 63 [(0, .ref (ad 426))] [.int (v_X12_many m9), .ref (ad 426)] (fl ad m9)
      refine J_callV hX km_X12_ends kl_RX12_106 dX12_restore_63 ka_426 (by decide) [.int (v_X12_many m9)] ⟨Nat.le_of_ble_eq_true rfl, Nat.le_of_ble_eq_true rfl⟩ rfl rfl (Nat.le_of_ble_eq_true rfl) (c_X12_ends (v_X12_many m9) m9 _ h) (fun v w2 hk => ?_)
      obtain ⟨y11, m10, rfl, rfl, h⟩ := hk
      show J X (0, 0) 66 [(0, .ref (ad 426))] [.int y11] (fl ad m10)
      exact J_iret hX hR dX12_restore_66 ⟨_, _, rfl, rfl, h⟩
    · replace h := Eq.mp (if_pos c4) h
      refine J_bipush (v := (-2 : Int32)) hX dX12_restore_24 (by decide) ?_
      exact J_iret hX hR dX12_restore_26 ⟨_, _, rfl, rfl, h⟩
  · replace h := Eq.mp (if_pos c2) h
    refine J_iconst (v := (-1 : Int32)) hX dX12_restore_13 (by decide) ?_
    exact J_iret hX hR dX12_restore_14 ⟨_, _, rfl, rfl, h⟩
set_option maxRecDepth 100000 in
theorem c_X12_rowCount {G : GT} {ad : Nat → Nat} (x1 : Int32) (x2 : Int32) (m : Mm) (K : Int32 → Mm → Prop) (h : wp_X12_rowCount x1 x2 m K) : Cn G yX12_rowCount cX12_rowCount 4 (some .int) (rmN 4 103) [.ref (ad 426), .int x1, .int x2] (0, 0) (fl ad m) (kI ad K) := by
  unfold wp_X12_rowCount at h
  refine Cn.of pn_RX12 (Nat.le_of_ble_eq_true rfl) (fun X hG hX hR => ?_)
  subst hG
  have hX : Cx X cX12_rowCount 4 RX12 (rmN 4 103) := hX
  show J X (0, 0) 0 [(0, .ref (ad 426)), (1, .int x1), (2, .int x2)] [] (fl ad m)
  refine J_iload_n hX dX12_rowCount_0 rfl 1 rfl ?_
  refine J_iconst (v := (0 : Int32)) hX dX12_rowCount_1 (by decide) ?_
  refine J_iconst (v := (1 : Int32)) hX dX12_rowCount_2 (by decide) ?_
  refine J_callS hX km_X12_in kl_RX12_87 dX12_rowCount_3 [.int x1, .int (0 : Int32), .int (1 : Int32)] ⟨Nat.le_of_ble_eq_true rfl, Nat.le_of_ble_eq_true rfl⟩ rfl rfl (Nat.le_of_ble_eq_true rfl) (c_X12_in x1 (0 : Int32) (1 : Int32) m) (fun v w2 hk => ?_)
  obtain ⟨rfl, rfl⟩ := hk
  show J X (0, 0) 6 [(0, .ref (ad 426)), (1, .int x1), (2, .int x2)] [.int (v_X12_in x1 (0 : Int32) (1 : Int32))] (fl ad m)
  refine J_if_eq (tgt := 19) hX dX12_rowCount_6 (by decide) (fun c1 => ?_) (fun c1 => ?_)
  · replace h := Eq.mp (if_pos c1) h
    refine J_iconst (v := (-1 : Int32)) hX dX12_rowCount_19 (by decide) ?_
    exact J_iret hX hR dX12_rowCount_20 ⟨_, _, rfl, rfl, h⟩
  · replace h := Eq.mp (if_neg c1) h
    refine J_iload_n hX dX12_rowCount_9 rfl 2 rfl ?_
    refine J_iconst (v := (0 : Int32)) hX dX12_rowCount_10 (by decide) ?_
    refine J_bipush (v := (50 : Int32)) hX dX12_rowCount_11 (by decide) ?_
    refine J_callS hX km_X12_in kl_RX12_87 dX12_rowCount_13 [.int x2, .int (0 : Int32), .int (50 : Int32)] ⟨Nat.le_of_ble_eq_true rfl, Nat.le_of_ble_eq_true rfl⟩ rfl rfl (Nat.le_of_ble_eq_true rfl) (c_X12_in x2 (0 : Int32) (50 : Int32) m) (fun v w2 hk => ?_)
    obtain ⟨rfl, rfl⟩ := hk
    show J X (0, 0) 16 [(0, .ref (ad 426)), (1, .int x1), (2, .int x2)] [.int (v_X12_in x2 (0 : Int32) (50 : Int32))] (fl ad m)
    refine J_if_ne (tgt := 21) hX dX12_rowCount_16 (by decide) (fun c2 => ?_) (fun c2 => ?_)
    · replace h := Eq.mp (if_neg c2) h
      refine J_aload_n hX dX12_rowCount_21 rfl 0 rfl ?_
      refine J_callV hX km_X12_many kl_RX12_83 dX12_rowCount_22 ka_426 (by decide) [] ⟨Nat.le_of_ble_eq_true rfl, Nat.le_of_ble_eq_true rfl⟩ rfl rfl (Nat.le_of_ble_eq_true rfl) (c_X12_many m) (fun v w2 hk => ?_)
      obtain ⟨rfl, rfl⟩ := hk
      show J X (0, 0) 25 [(0, .ref (ad 426)), (1, .int x1), (2, .int x2)] [.int (v_X12_many m)] (fl ad m)
      refine J_if_ne (tgt := 31) hX dX12_rowCount_25 (by decide) (fun c3 => ?_) (fun c3 => ?_)
      · replace h := Eq.mp (if_neg c3) h
        refine J_aload_n hX dX12_rowCount_31 rfl 0 rfl ?_
        refine J_iload_n hX dX12_rowCount_32 rfl 1 rfl ?_
        refine J_iload_n hX dX12_rowCount_33 rfl 2 rfl ?_
        refine J_iconst (v := (0 : Int32)) hX dX12_rowCount_34 (by decide) ?_
        refine J_callV hX km_X12_pitchOf kl_RX12_390 dX12_rowCount_35 ka_426 (by decide) [.int x1, .int x2, .int (0 : Int32)] ⟨Nat.le_of_ble_eq_true rfl, Nat.le_of_ble_eq_true rfl⟩ rfl rfl (Nat.le_of_ble_eq_true rfl) (c_X12_pitchOf x1 x2 (0 : Int32) m _ h) (fun v w2 hk => ?_)
        obtain ⟨y5, m4, rfl, rfl, h⟩ := hk
        show J X (0, 0) 38 [(0, .ref (ad 426)), (1, .int x1), (2, .int x2)] [.int y5] (fl ad m4)
        refine J_istore_n (lv2 := [(3, .int y5), (0, .ref (ad 426)), (1, .int x1), (2, .int x2)]) hX dX12_rowCount_38 rfl (Nat.le_of_ble_eq_true rfl) rfl ?_
        refine J_iconst (v := (1 : Int32)) hX dX12_rowCount_39 (by decide) ?_
        refine J_iload_n hX dX12_rowCount_40 rfl 2 rfl ?_
        have hj13 : ∀ y7 : Int32, y7 = (if x1 = (0 : Int32) then (m4.1 427 0) else (m4.1 427 1)) → J X (0, 0) 59 [(0, .ref (ad 426)), (1, .int x1), (3, .int y5)] [.int y7, .int (1 : Int32)] (fl ad m4) := by
          intro y7 e_y7
          replace h := h y7 e_y7
          refine J_aload_n hX dX12_rowCount_59 rfl 0 rfl ?_
          refine J_iload_n hX dX12_rowCount_60 rfl 1 rfl ?_
          refine J_callV hX km_X12_greatestOf kl_RX12_379 dX12_rowCount_61 ka_426 (by decide) [.int x1] ⟨Nat.le_of_ble_eq_true rfl, Nat.le_of_ble_eq_true rfl⟩ rfl rfl (Nat.le_of_ble_eq_true rfl) (c_X12_greatestOf x1 m4 _ h) (fun v w2 hk => ?_)
          obtain ⟨y9, m8, rfl, rfl, h⟩ := hk
          show J X (0, 0) 64 [(0, .ref (ad 426)), (1, .int x1), (3, .int y5)] [.int y9, .int y7, .int (1 : Int32)] (fl ad m8)
          refine J_aload_n hX dX12_rowCount_64 rfl 0 rfl ?_
          refine J_iload_n hX dX12_rowCount_65 rfl 1 rfl ?_
          refine J_callV hX km_X12_leastOf kl_RX12_376 dX12_rowCount_66 ka_426 (by decide) [.int x1] ⟨Nat.le_of_ble_eq_true rfl, Nat.le_of_ble_eq_true rfl⟩ rfl rfl (Nat.le_of_ble_eq_true rfl) (c_X12_leastOf x1 m8 _ h) (fun v w2 hk => ?_)
          obtain ⟨y11, m10, rfl, rfl, h⟩ := hk
          show J X (0, 0) 69 [(0, .ref (ad 426)), (1, .int x1), (3, .int y5)] [.int y11, .int y9, .int y7, .int (1 : Int32)] (fl ad m10)
          refine J_isub hX dX12_rowCount_69 ?_
          refine J_isub hX dX12_rowCount_70 ?_
          refine J_iload_n hX dX12_rowCount_71 rfl 2 rfl ?_
          obtain ⟨b12, h⟩ := h
          refine J_idiv hX dX12_rowCount_72 b12 ?_
          refine J_iadd hX dX12_rowCount_73 ?_
          exact J_iret hX hR dX12_rowCount_74 ⟨_, _, rfl, rfl, h⟩
        refine J_if_ne (tgt := 53) hX dX12_rowCount_41 (by decide) (fun c6 => ?_) (fun c6 => ?_)
        · refine J_aload_n hX dX12_rowCount_53 rfl 1 rfl ?_
          refine J_getR hX kf_RX12_7 dX12_rowCount_54 ka_426 (by decide) rfl rh_426_0 ?_
          refine J_iconst (v := (1 : Int32)) hX dX12_rowCount_57 (by decide) ?_
          refine J_iald (j := 1) hX dX12_rowCount_58 ka_427 le_427 (vp_lit (by decide)) (by decide) ?_
          exact J_sub [1, 2, 0] rfl (hj13 _ (if_neg c6).symm)
        · refine J_aload_n hX dX12_rowCount_44 rfl 1 rfl ?_
          refine J_getR hX kf_RX12_7 dX12_rowCount_45 ka_426 (by decide) rfl rh_426_0 ?_
          refine J_iconst (v := (0 : Int32)) hX dX12_rowCount_48 (by decide) ?_
          refine J_iald (j := 0) hX dX12_rowCount_49 ka_427 le_427 (vp_lit (by decide)) (by decide) ?_
          refine J_goto (tgt := 59) hX dX12_rowCount_50 (by decide) ?_
          exact J_sub [1, 2, 0] rfl (hj13 _ (if_pos c6).symm)
      · replace h := Eq.mp (if_pos c3) h
        refine J_bipush (v := (-2 : Int32)) hX dX12_rowCount_28 (by decide) ?_
        exact J_iret hX hR dX12_rowCount_30 ⟨_, _, rfl, rfl, h⟩
    · replace h := Eq.mp (if_pos c2) h
      refine J_iconst (v := (-1 : Int32)) hX dX12_rowCount_19 (by decide) ?_
      exact J_iret hX hR dX12_rowCount_20 ⟨_, _, rfl, rfl, h⟩
set_option maxRecDepth 100000 in
theorem tb_X12_save_l20 {X : XT} {ad : Nat → Nat} {K : Int32 → Mm → Prop} (hX : Cx X cX12_save 3 RX12 (rmN 1 22)) (hR : Rx X (some .int) (kI ad K) (0, 0)) {rec : Int32 → Mm → Prop} {k49 : Mm → Prop} (x1 : Int32) (hrec : ∀ (x2 : Int32) (m : Mm), rec x2 m → J X (0, 0) 20 [(0, .ref (ad 426)), (1, .int x1), (2, .int x2)] [] (fl ad m)) (hk49 : ∀ (m : Mm), k49 m → J X (0, 0) 49 [(0, .ref (ad 426))] [] (fl ad m)) (x2 : Int32) (m : Mm) (h : wb_X12_save_l20 rec k49 K x1 x2 m) : J X (0, 0) 20 [(0, .ref (ad 426)), (1, .int x1), (2, .int x2)] [] (fl ad m) := by
  unfold wb_X12_save_l20 at h
  refine J_iload_n hX dX12_save_20 rfl 2 rfl ?_
  refine J_bipush (v := (125 : Int32)) hX dX12_save_21 (by decide) ?_
  refine J_icmp_ge (tgt := 49) hX dX12_save_23 (by decide) (fun c4 => ?_) (fun c4 => ?_)
  · replace h := Eq.mp (if_pos c4) h
    exact J_sub [0] rfl (hk49 m h)
  · replace h := Eq.mp (if_neg c4) h
    refine J_aload_n hX dX12_save_26 rfl 0 rfl ?_
    refine J_getR hX kf_RX12_19 dX12_save_27 ka_426 (by decide) rfl rh_426_5 ?_
    refine J_bipush (v := (125 : Int32)) hX dX12_save_30 (by decide) ?_
    refine J_iload_n hX dX12_save_32 rfl 1 rfl ?_
    refine J_imul hX dX12_save_33 ?_
    refine J_iload_n hX dX12_save_34 rfl 2 rfl ?_
    refine J_iadd hX dX12_save_35 ?_
    refine J_aload_n hX dX12_save_36 rfl 0 rfl ?_
    refine J_getR hX kf_RX12_7 dX12_save_37 ka_426 (by decide) rfl rh_426_0 ?_
    refine J_iload_n hX dX12_save_40 rfl 2 rfl ?_
    obtain ⟨b5, h⟩ := h
    refine J_iald (j := x2.toNatClampNeg) hX dX12_save_41 ka_427 le_427 b5 rfl ?_
    obtain ⟨b6, h⟩ := h
    refine J_iast (j := (((125 : Int32) * x1) + x2).toNatClampNeg) hX dX12_save_42 ka_430 le_430 b6 rfl ?_
    refine J_nmM (fun m7 e_m7 => ?_)
    replace h := h m7 e_m7
    refine J_iinc (x := (x2 + (1 : Int32))) (lv2 := [(2, .int (x2 + (1 : Int32))), (0, .ref (ad 426)), (1, .int x1)]) hX dX12_save_43 2 rfl rfl (Nat.le_of_ble_eq_true rfl) rfl ?_
    refine J_goto (tgt := 20) hX dX12_save_46 (by decide) ?_
    exact J_sub [1, 2, 0] rfl (hrec (x2 + (1 : Int32)) m7 h)
set_option maxRecDepth 100000 in
theorem t_X12_save_l20 {X : XT} {ad : Nat → Nat} {K : Int32 → Mm → Prop} (hX : Cx X cX12_save 3 RX12 (rmN 1 22)) (hR : Rx X (some .int) (kI ad K) (0, 0)) {k49 : Mm → Prop} (x1 : Int32) (hk49 : ∀ (m : Mm), k49 m → J X (0, 0) 49 [(0, .ref (ad 426))] [] (fl ad m)) : ∀ (n : Nat) (x2 : Int32) (m : Mm), wp_X12_save_l20 k49 K x1 n x2 m → J X (0, 0) 20 [(0, .ref (ad 426)), (1, .int x1), (2, .int x2)] [] (fl ad m) := by
  intro n
  induction n with
  | zero => intro x2 m h; exact h.elim
  | succ n ih => intro x2 m h; exact tb_X12_save_l20 hX hR x1 ih hk49 x2 m h
set_option maxRecDepth 100000 in
theorem c_X12_save {G : GT} {ad : Nat → Nat} (x1 : Int32) (m : Mm) (K : Int32 → Mm → Prop) (h : wp_X12_save x1 m K) : Cn G yX12_save cX12_save 3 (some .int) (rmN 1 22) [.ref (ad 426), .int x1] (0, 0) (fl ad m) (kI ad K) := by
  unfold wp_X12_save at h
  refine Cn.of pn_RX12 (Nat.le_of_ble_eq_true rfl) (fun X hG hX hR => ?_)
  subst hG
  have hX : Cx X cX12_save 3 RX12 (rmN 1 22) := hX
  show J X (0, 0) 0 [(0, .ref (ad 426)), (1, .int x1)] [] (fl ad m)
  refine J_iload_n hX dX12_save_0 rfl 1 rfl ?_
  refine J_iconst (v := (0 : Int32)) hX dX12_save_1 (by decide) ?_
  refine J_iconst (v := (1 : Int32)) hX dX12_save_2 (by decide) ?_
  refine J_callS hX km_X12_in kl_RX12_87 dX12_save_3 [.int x1, .int (0 : Int32), .int (1 : Int32)] ⟨Nat.le_of_ble_eq_true rfl, Nat.le_of_ble_eq_true rfl⟩ rfl rfl (Nat.le_of_ble_eq_true rfl) (c_X12_in x1 (0 : Int32) (1 : Int32) m) (fun v w2 hk => ?_)
  obtain ⟨rfl, rfl⟩ := hk
  show J X (0, 0) 6 [(0, .ref (ad 426)), (1, .int x1)] [.int (v_X12_in x1 (0 : Int32) (1 : Int32))] (fl ad m)
  refine J_if_ne (tgt := 11) hX dX12_save_6 (by decide) (fun c1 => ?_) (fun c1 => ?_)
  · replace h := Eq.mp (if_neg c1) h
    refine J_aload_n hX dX12_save_11 rfl 0 rfl ?_
    refine J_getR hX kf_RX12_22 dX12_save_12 ka_426 (by decide) rfl rh_426_6 ?_
    refine J_iload_n hX dX12_save_15 rfl 1 rfl ?_
    refine J_iconst (v := (1 : Int32)) hX dX12_save_16 (by decide) ?_
    obtain ⟨b2, h⟩ := h
    refine J_zast (j := x1.toNatClampNeg) hX dX12_save_17 ka_431 le_431 b2 bo_1 rfl ?_
    refine J_nmM (fun m3 e_m3 => ?_)
    replace h := h m3 e_m3
    refine J_iconst (v := (0 : Int32)) hX dX12_save_18 (by decide) ?_
    refine J_istore_n (lv2 := [(2, .int (0 : Int32)), (0, .ref (ad 426)), (1, .int x1)]) hX dX12_save_19 rfl (Nat.le_of_ble_eq_true rfl) rfl ?_
    refine J_sub [1, 2, 0] rfl (t_X12_save_l20 hX hR x1 (fun m8 h => ?_) FU (0 : Int32) m3 h)
    refine J_aload_n hX dX12_save_49 rfl 0 rfl ?_
    refine J_callV hX km_X12_many kl_RX12_83 dX12_save_50 ka_426 (by decide) [] ⟨Nat.le_of_ble_eq_true rfl, Nat.le_of_ble_eq_true rfl⟩ rfl rfl (Nat.le_of_ble_eq_true rfl) (c_X12_many m8) (fun v w2 hk => ?_)
    obtain ⟨rfl, rfl⟩ := hk
    show J X (0, 0) 53 [(0, .ref (ad 426))] [.int (v_X12_many m8)] (fl ad m8)
    exact J_iret hX hR dX12_save_53 ⟨_, _, rfl, rfl, h⟩
  · replace h := Eq.mp (if_pos c1) h
    refine J_iconst (v := (-1 : Int32)) hX dX12_save_9 (by decide) ?_
    exact J_iret hX hR dX12_save_10 ⟨_, _, rfl, rfl, h⟩
set_option maxRecDepth 100000 in
theorem c_X12_seam {G : GT} {ad : Nat → Nat} (x1 : Int32) (x2 : Int32) (m : Mm) (K : Int32 → Mm → Prop) (h : wp_X12_seam x1 x2 m K) : Cn G yX12_seam cX12_seam 4 (some .int) (rmN 6 141) [.ref (ad 426), .int x1, .int x2] (0, 0) (fl ad m) (kI ad K) := by
  unfold wp_X12_seam at h
  refine Cn.of pn_RX12 (Nat.le_of_ble_eq_true rfl) (fun X hG hX hR => ?_)
  subst hG
  have hX : Cx X cX12_seam 4 RX12 (rmN 6 141) := hX
  show J X (0, 0) 0 [(0, .ref (ad 426)), (1, .int x1), (2, .int x2)] [] (fl ad m)
  refine J_aload_n hX dX12_seam_0 rfl 0 rfl ?_
  refine J_aload_n hX dX12_seam_1 rfl 0 rfl ?_
  refine J_iconst (v := (0 : Int32)) hX dX12_seam_2 (by decide) ?_
  obtain ⟨b1, h⟩ := h
  refine J_callV hX km_X12_limitOf kl_RX12_293 dX12_seam_3 ka_426 (by decide) [.int (0 : Int32)] ⟨Nat.le_of_ble_eq_true rfl, Nat.le_of_ble_eq_true rfl⟩ rfl rfl (Nat.le_of_ble_eq_true rfl) (c_X12_limitOf (0 : Int32) m b1) (fun v w2 hk => ?_)
  obtain ⟨rfl, rfl⟩ := hk
  show J X (0, 0) 6 [(0, .ref (ad 426)), (1, .int x1), (2, .int x2)] [.int (v_X12_limitOf (0 : Int32) m), .ref (ad 426)] (fl ad m)
  refine J_callV hX km_X12_findSeams kl_RX12_296 dX12_seam_6 ka_426 (by decide) [.int (v_X12_limitOf (0 : Int32) m)] ⟨Nat.le_of_ble_eq_true rfl, Nat.le_of_ble_eq_true rfl⟩ rfl rfl (Nat.le_of_ble_eq_true rfl) (c_X12_findSeams (v_X12_limitOf (0 : Int32) m) m _ h) (fun v w2 hk => ?_)
  obtain ⟨m2, rfl, rfl, h⟩ := hk
  show J X (0, 0) 9 [(0, .ref (ad 426)), (1, .int x1), (2, .int x2)] [] (fl ad m2)
  refine J_iload_n hX dX12_seam_9 rfl 1 rfl ?_
  refine J_iconst (v := (0 : Int32)) hX dX12_seam_10 (by decide) ?_
  refine J_aload_n hX dX12_seam_11 rfl 0 rfl ?_
  refine J_getI hX kf_RX12_243 dX12_seam_12 ka_426 (by decide) rfl ?_
  refine J_iconst (v := (1 : Int32)) hX dX12_seam_15 (by decide) ?_
  refine J_isub hX dX12_seam_16 ?_
  refine J_callS hX km_X12_in kl_RX12_87 dX12_seam_17 [.int x1, .int (0 : Int32), .int ((m2.1 426 25) - (1 : Int32))] ⟨Nat.le_of_ble_eq_true rfl, Nat.le_of_ble_eq_true rfl⟩ rfl rfl (Nat.le_of_ble_eq_true rfl) (c_X12_in x1 (0 : Int32) ((m2.1 426 25) - (1 : Int32)) m2) (fun v w2 hk => ?_)
  obtain ⟨rfl, rfl⟩ := hk
  show J X (0, 0) 20 [(0, .ref (ad 426)), (1, .int x1), (2, .int x2)] [.int (v_X12_in x1 (0 : Int32) ((m2.1 426 25) - (1 : Int32)))] (fl ad m2)
  refine J_if_eq (tgt := 33) hX dX12_seam_20 (by decide) (fun c3 => ?_) (fun c3 => ?_)
  · replace h := Eq.mp (if_pos c3) h
    refine J_iconst (v := (-1 : Int32)) hX dX12_seam_33 (by decide) ?_
    exact J_iret hX hR dX12_seam_34 ⟨_, _, rfl, rfl, h⟩
  · replace h := Eq.mp (if_neg c3) h
    refine J_iload_n hX dX12_seam_23 rfl 2 rfl ?_
    refine J_iconst (v := (0 : Int32)) hX dX12_seam_24 (by decide) ?_
    refine J_bipush (v := (7 : Int32)) hX dX12_seam_25 (by decide) ?_
    refine J_callS hX km_X12_in kl_RX12_87 dX12_seam_27 [.int x2, .int (0 : Int32), .int (7 : Int32)] ⟨Nat.le_of_ble_eq_true rfl, Nat.le_of_ble_eq_true rfl⟩ rfl rfl (Nat.le_of_ble_eq_true rfl) (c_X12_in x2 (0 : Int32) (7 : Int32) m2) (fun v w2 hk => ?_)
    obtain ⟨rfl, rfl⟩ := hk
    show J X (0, 0) 30 [(0, .ref (ad 426)), (1, .int x1), (2, .int x2)] [.int (v_X12_in x2 (0 : Int32) (7 : Int32))] (fl ad m2)
    refine J_if_ne (tgt := 35) hX dX12_seam_30 (by decide) (fun c4 => ?_) (fun c4 => ?_)
    · replace h := Eq.mp (if_neg c4) h
      refine J_bipush (v := (9 : Int32)) hX dX12_seam_35 (by decide) ?_
      refine J_iload_n hX dX12_seam_37 rfl 1 rfl ?_
      refine J_imul hX dX12_seam_38 ?_
      refine J_nmI (fun y5 e_y5 => ?_)
      replace h := h y5 e_y5
      refine J_istore_n (lv2 := [(3, .int y5), (0, .ref (ad 426)), (1, .int x1), (2, .int x2)]) hX dX12_seam_39 rfl (Nat.le_of_ble_eq_true rfl) rfl ?_
      refine J_iload_n hX dX12_seam_40 rfl 3 rfl ?_
      by_cases c6 : x2 = (4 : Int32)
      · replace h := Eq.mp (if_pos c6) h
        refine J_tabIn (v := (4 : Int32)) (tgt := 72) hX dX12_seam_41 c6 (by decide) (by decide) rfl (by decide) ?_
        refine J_aload_n hX dX12_seam_72 rfl 1 rfl ?_
        refine J_getR hX kf_RX12_68 dX12_seam_73 ka_426 (by decide) rfl rh_426_24 ?_
        refine J_iload_n hX dX12_seam_76 rfl 0 rfl ?_
        refine J_bipush (v := (6 : Int32)) hX dX12_seam_77 (by decide) ?_
        refine J_iadd hX dX12_seam_79 ?_
        obtain ⟨b7, h⟩ := h
        refine J_iald (j := (y5 + (6 : Int32)).toNatClampNeg) hX dX12_seam_80 ka_446 le_446 b7 rfl ?_
        refine J_aload_n hX dX12_seam_81 rfl 1 rfl ?_
        refine J_getR hX kf_RX12_68 dX12_seam_82 ka_426 (by decide) rfl rh_426_24 ?_
        refine J_iload_n hX dX12_seam_85 rfl 0 rfl ?_
        refine J_iconst (v := (5 : Int32)) hX dX12_seam_86 (by decide) ?_
        refine J_iadd hX dX12_seam_87 ?_
        obtain ⟨b8, h⟩ := h
        refine J_iald (j := (y5 + (5 : Int32)).toNatClampNeg) hX dX12_seam_88 ka_446 le_446 b8 rfl ?_
        refine J_isub hX dX12_seam_89 ?_
        exact J_iret hX hR dX12_seam_90 ⟨_, _, rfl, rfl, h⟩
      · replace h := Eq.mp (if_neg c6) h
        by_cases c9 : x2 = (5 : Int32)
        · replace h := Eq.mp (if_pos c9) h
          refine J_tabIn (v := (5 : Int32)) (tgt := 91) hX dX12_seam_41 c9 (by decide) (by decide) rfl (by decide) ?_
          refine J_aload_n hX dX12_seam_91 rfl 1 rfl ?_
          refine J_getR hX kf_RX12_68 dX12_seam_92 ka_426 (by decide) rfl rh_426_24 ?_
          refine J_iload_n hX dX12_seam_95 rfl 0 rfl ?_
          refine J_iload_n hX dX12_seam_96 rfl 3 rfl ?_
          refine J_iadd hX dX12_seam_97 ?_
          refine J_iconst (v := (2 : Int32)) hX dX12_seam_98 (by decide) ?_
          refine J_iadd hX dX12_seam_99 ?_
          obtain ⟨b10, h⟩ := h
          refine J_iald (j := ((y5 + x2) + (2 : Int32)).toNatClampNeg) hX dX12_seam_100 ka_446 le_446 b10 rfl ?_
          exact J_iret hX hR dX12_seam_101 ⟨_, _, rfl, rfl, h⟩
        · replace h := Eq.mp (if_neg c9) h
          by_cases c11 : x2 = (6 : Int32)
          · replace h := Eq.mp (if_pos c11) h
            refine J_tabIn (v := (6 : Int32)) (tgt := 91) hX dX12_seam_41 c11 (by decide) (by decide) rfl (by decide) ?_
            refine J_aload_n hX dX12_seam_91 rfl 1 rfl ?_
            refine J_getR hX kf_RX12_68 dX12_seam_92 ka_426 (by decide) rfl rh_426_24 ?_
            refine J_iload_n hX dX12_seam_95 rfl 0 rfl ?_
            refine J_iload_n hX dX12_seam_96 rfl 3 rfl ?_
            refine J_iadd hX dX12_seam_97 ?_
            refine J_iconst (v := (2 : Int32)) hX dX12_seam_98 (by decide) ?_
            refine J_iadd hX dX12_seam_99 ?_
            obtain ⟨b12, h⟩ := h
            refine J_iald (j := ((y5 + x2) + (2 : Int32)).toNatClampNeg) hX dX12_seam_100 ka_446 le_446 b12 rfl ?_
            exact J_iret hX hR dX12_seam_101 ⟨_, _, rfl, rfl, h⟩
          · replace h := Eq.mp (if_neg c11) h
            by_cases c13 : x2 = (7 : Int32)
            · replace h := Eq.mp (if_pos c13) h
              refine J_tabIn (v := (7 : Int32)) (tgt := 102) hX dX12_seam_41 c13 (by decide) (by decide) rfl (by decide) ?_
              refine J_aload_n hX dX12_seam_102 rfl 1 rfl ?_
              refine J_iload_n hX dX12_seam_103 rfl 2 rfl ?_
              refine J_callV hX km_X12_mismatch kl_RX12_338 dX12_seam_104 ka_426 (by decide) [.int x1] ⟨Nat.le_of_ble_eq_true rfl, Nat.le_of_ble_eq_true rfl⟩ rfl rfl (Nat.le_of_ble_eq_true rfl) (c_X12_mismatch x1 m2 _ h) (fun v w2 hk => ?_)
              obtain ⟨y15, m14, rfl, rfl, h⟩ := hk
              show J X (0, 0) 107 [(3, .int y5), (0, .ref (ad 426)), (1, .int x1), (2, .int x2)] [.int y15] (fl ad m14)
              exact J_iret hX hR dX12_seam_107 ⟨_, _, rfl, rfl, h⟩
            · replace h := Eq.mp (if_neg c13) h
              refine J_tabOut (tgt := 108) hX dX12_seam_41 (by have t0 := tne c6 (k := 4) (by decide); have t1 := tne c9 (k := 5) (by decide); have t2 := tne c11 (k := 6) (by decide); have t3 := tne c13 (k := 7) (by decide); omega) (by decide) ?_
              refine J_aload_n hX dX12_seam_108 rfl 1 rfl ?_
              refine J_getR hX kf_RX12_68 dX12_seam_109 ka_426 (by decide) rfl rh_426_24 ?_
              refine J_iload_n hX dX12_seam_112 rfl 0 rfl ?_
              refine J_iload_n hX dX12_seam_113 rfl 3 rfl ?_
              refine J_iadd hX dX12_seam_114 ?_
              obtain ⟨b16, h⟩ := h
              refine J_iald (j := (y5 + x2).toNatClampNeg) hX dX12_seam_115 ka_446 le_446 b16 rfl ?_
              exact J_iret hX hR dX12_seam_116 ⟨_, _, rfl, rfl, h⟩
    · replace h := Eq.mp (if_pos c4) h
      refine J_iconst (v := (-1 : Int32)) hX dX12_seam_33 (by decide) ?_
      exact J_iret hX hR dX12_seam_34 ⟨_, _, rfl, rfl, h⟩
set_option maxRecDepth 100000 in
theorem c_X12_seamCount {G : GT} {ad : Nat → Nat} (m : Mm) (K : Int32 → Mm → Prop) (h : wp_X12_seamCount m K) : Cn G yX12_seamCount cX12_seamCount 1 (some .int) (rmN 4 103) [.ref (ad 426)] (0, 0) (fl ad m) (kI ad K) := by
  unfold wp_X12_seamCount at h
  refine Cn.of pn_RX12 (Nat.le_of_ble_eq_true rfl) (fun X hG hX hR => ?_)
  subst hG
  have hX : Cx X cX12_seamCount 1 RX12 (rmN 4 103) := hX
  show J X (0, 0) 0 [(0, .ref (ad 426))] [] (fl ad m)
  refine J_aload_n hX dX12_seamCount_0 rfl 0 rfl ?_
  refine J_aload_n hX dX12_seamCount_1 rfl 0 rfl ?_
  refine J_iconst (v := (0 : Int32)) hX dX12_seamCount_2 (by decide) ?_
  obtain ⟨b1, h⟩ := h
  refine J_callV hX km_X12_limitOf kl_RX12_293 dX12_seamCount_3 ka_426 (by decide) [.int (0 : Int32)] ⟨Nat.le_of_ble_eq_true rfl, Nat.le_of_ble_eq_true rfl⟩ rfl rfl (Nat.le_of_ble_eq_true rfl) (c_X12_limitOf (0 : Int32) m b1) (fun v w2 hk => ?_)
  obtain ⟨rfl, rfl⟩ := hk
  show J X (0, 0) 6 [(0, .ref (ad 426))] [.int (v_X12_limitOf (0 : Int32) m), .ref (ad 426)] (fl ad m)
  refine J_callV hX km_X12_findSeams kl_RX12_296 dX12_seamCount_6 ka_426 (by decide) [.int (v_X12_limitOf (0 : Int32) m)] ⟨Nat.le_of_ble_eq_true rfl, Nat.le_of_ble_eq_true rfl⟩ rfl rfl (Nat.le_of_ble_eq_true rfl) (c_X12_findSeams (v_X12_limitOf (0 : Int32) m) m _ h) (fun v w2 hk => ?_)
  obtain ⟨m2, rfl, rfl, h⟩ := hk
  show J X (0, 0) 9 [(0, .ref (ad 426))] [] (fl ad m2)
  refine J_aload_n hX dX12_seamCount_9 rfl 0 rfl ?_
  refine J_getI hX kf_RX12_243 dX12_seamCount_10 ka_426 (by decide) rfl ?_
  exact J_iret hX hR dX12_seamCount_13 ⟨_, _, rfl, rfl, h⟩
set_option maxRecDepth 100000 in
theorem c_X12_setAngle {G : GT} {ad : Nat → Nat} (x1 : Int32) (x2 : Int32) (m : Mm) (K : Int32 → Mm → Prop) (h : wp_X12_setAngle x1 x2 m K) : Cn G yX12_setAngle cX12_setAngle 4 (some .int) (rmN 2 43) [.ref (ad 426), .int x1, .int x2] (0, 0) (fl ad m) (kI ad K) := by
  unfold wp_X12_setAngle at h
  refine Cn.of pn_RX12 (Nat.le_of_ble_eq_true rfl) (fun X hG hX hR => ?_)
  subst hG
  have hX : Cx X cX12_setAngle 4 RX12 (rmN 2 43) := hX
  show J X (0, 0) 0 [(0, .ref (ad 426)), (1, .int x1), (2, .int x2)] [] (fl ad m)
  refine J_aload_n hX dX12_setAngle_0 rfl 0 rfl ?_
  refine J_callV hX km_X12_begins kl_RX12_103 dX12_setAngle_1 ka_426 (by decide) [] ⟨Nat.le_of_ble_eq_true rfl, Nat.le_of_ble_eq_true rfl⟩ rfl rfl (Nat.le_of_ble_eq_true rfl) (c_X12_begins m _ h) (fun v w2 hk => ?_)
  obtain ⟨m1, rfl, rfl, h⟩ := hk
  show J X (0, 0) 4 [(0, .ref (ad 426)), (1, .int x1), (2, .int x2)] [] (fl ad m1)
  refine J_aload_n hX dX12_setAngle_4 rfl 0 rfl ?_
  refine J_iload_n hX dX12_setAngle_5 rfl 1 rfl ?_
  refine J_callV hX km_X12_isHung kl_RX12_149 dX12_setAngle_6 ka_426 (by decide) [.int x1] ⟨Nat.le_of_ble_eq_true rfl, Nat.le_of_ble_eq_true rfl⟩ rfl rfl (Nat.le_of_ble_eq_true rfl) (c_X12_isHung x1 m1) (fun v w2 hk => ?_)
  obtain ⟨rfl, rfl⟩ := hk
  show J X (0, 0) 9 [(0, .ref (ad 426)), (1, .int x1), (2, .int x2)] [.int (v_X12_isHung x1 m1)] (fl ad m1)
  refine J_if_eq (tgt := 21) hX dX12_setAngle_9 (by decide) (fun c2 => ?_) (fun c2 => ?_)
  · replace h := Eq.mp (if_pos c2) h
    refine J_iconst (v := (-1 : Int32)) hX dX12_setAngle_21 (by decide) ?_
    exact J_iret hX hR dX12_setAngle_22 ⟨_, _, rfl, rfl, h⟩
  · replace h := Eq.mp (if_neg c2) h
    refine J_iload_n hX dX12_setAngle_12 rfl 2 rfl ?_
    refine J_iconst (v := (-1 : Int32)) hX dX12_setAngle_13 (by decide) ?_
    refine J_iconst (v := (2 : Int32)) hX dX12_setAngle_14 (by decide) ?_
    refine J_callS hX km_X12_in kl_RX12_87 dX12_setAngle_15 [.int x2, .int (-1 : Int32), .int (2 : Int32)] ⟨Nat.le_of_ble_eq_true rfl, Nat.le_of_ble_eq_true rfl⟩ rfl rfl (Nat.le_of_ble_eq_true rfl) (c_X12_in x2 (-1 : Int32) (2 : Int32) m1) (fun v w2 hk => ?_)
    obtain ⟨rfl, rfl⟩ := hk
    show J X (0, 0) 18 [(0, .ref (ad 426)), (1, .int x1), (2, .int x2)] [.int (v_X12_in x2 (-1 : Int32) (2 : Int32))] (fl ad m1)
    refine J_if_ne (tgt := 23) hX dX12_setAngle_18 (by decide) (fun c3 => ?_) (fun c3 => ?_)
    · replace h := Eq.mp (if_neg c3) h
      refine J_aload_n hX dX12_setAngle_23 rfl 0 rfl ?_
      refine J_iload_n hX dX12_setAngle_24 rfl 1 rfl ?_
      refine J_iconst (v := (5 : Int32)) hX dX12_setAngle_25 (by decide) ?_
      obtain ⟨b4, h⟩ := h
      refine J_callV hX km_X12_of kl_RX12_91 dX12_setAngle_26 ka_426 (by decide) [.int x1, .int (5 : Int32)] ⟨Nat.le_of_ble_eq_true rfl, Nat.le_of_ble_eq_true rfl⟩ rfl rfl (Nat.le_of_ble_eq_true rfl) (c_X12_of x1 (5 : Int32) m1 b4) (fun v w2 hk => ?_)
      obtain ⟨rfl, rfl⟩ := hk
      show J X (0, 0) 29 [(0, .ref (ad 426)), (1, .int x1), (2, .int x2)] [.int (v_X12_of x1 (5 : Int32) m1)] (fl ad m1)
      refine J_nmI (fun y5 e_y5 => ?_)
      replace h := h y5 e_y5
      refine J_istore_n (lv2 := [(3, .int y5), (0, .ref (ad 426)), (1, .int x1), (2, .int x2)]) hX dX12_setAngle_29 rfl (Nat.le_of_ble_eq_true rfl) rfl ?_
      refine J_aload_n hX dX12_setAngle_30 rfl 1 rfl ?_
      refine J_iload_n hX dX12_setAngle_31 rfl 2 rfl ?_
      refine J_iconst (v := (5 : Int32)) hX dX12_setAngle_32 (by decide) ?_
      refine J_iload_n hX dX12_setAngle_33 rfl 3 rfl ?_
      refine J_callV hX km_X12_put kl_RX12_137 dX12_setAngle_34 ka_426 (by decide) [.int x1, .int (5 : Int32), .int x2] ⟨Nat.le_of_ble_eq_true rfl, Nat.le_of_ble_eq_true rfl⟩ rfl rfl (Nat.le_of_ble_eq_true rfl) (c_X12_put x1 (5 : Int32) x2 m1 _ h) (fun v w2 hk => ?_)
      obtain ⟨m6, rfl, rfl, h⟩ := hk
      show J X (0, 0) 37 [(3, .int y5), (0, .ref (ad 426)), (1, .int x1), (2, .int x2)] [] (fl ad m6)
      refine J_aload_n hX dX12_setAngle_37 rfl 1 rfl ?_
      refine J_iload_n hX dX12_setAngle_38 rfl 0 rfl ?_
      refine J_callV hX km_X12_ends kl_RX12_106 dX12_setAngle_39 ka_426 (by decide) [.int y5] ⟨Nat.le_of_ble_eq_true rfl, Nat.le_of_ble_eq_true rfl⟩ rfl rfl (Nat.le_of_ble_eq_true rfl) (c_X12_ends y5 m6 _ h) (fun v w2 hk => ?_)
      obtain ⟨y8, m7, rfl, rfl, h⟩ := hk
      show J X (0, 0) 42 [(3, .int y5), (0, .ref (ad 426)), (1, .int x1), (2, .int x2)] [.int y8] (fl ad m7)
      exact J_iret hX hR dX12_setAngle_42 ⟨_, _, rfl, rfl, h⟩
    · replace h := Eq.mp (if_pos c3) h
      refine J_iconst (v := (-1 : Int32)) hX dX12_setAngle_21 (by decide) ?_
      exact J_iret hX hR dX12_setAngle_22 ⟨_, _, rfl, rfl, h⟩
set_option maxRecDepth 100000 in
theorem c_X12_setBase {G : GT} {ad : Nat → Nat} (x1 : Int32) (x2 : Int32) (x3 : Int32) (x4 : Int32) (m : Mm) (K : Int32 → Mm → Prop) (h : wp_X12_setBase x1 x2 x3 x4 m K) : Cn G yX12_setBase cX12_setBase 5 (some .int) (rmN 5 114) [.ref (ad 426), .int x1, .int x2, .int x3, .int x4] (0, 0) (fl ad m) (kI ad K) := by
  unfold wp_X12_setBase at h
  refine Cn.of pn_RX12 (Nat.le_of_ble_eq_true rfl) (fun X hG hX hR => ?_)
  subst hG
  have hX : Cx X cX12_setBase 5 RX12 (rmN 5 114) := hX
  show J X (0, 0) 0 [(0, .ref (ad 426)), (1, .int x1), (2, .int x2), (3, .int x3), (4, .int x4)] [] (fl ad m)
  refine J_aload_n hX dX12_setBase_0 rfl 0 rfl ?_
  refine J_callV hX km_X12_begins kl_RX12_103 dX12_setBase_1 ka_426 (by decide) [] ⟨Nat.le_of_ble_eq_true rfl, Nat.le_of_ble_eq_true rfl⟩ rfl rfl (Nat.le_of_ble_eq_true rfl) (c_X12_begins m _ h) (fun v w2 hk => ?_)
  obtain ⟨m1, rfl, rfl, h⟩ := hk
  show J X (0, 0) 4 [(0, .ref (ad 426)), (1, .int x1), (2, .int x2), (3, .int x3), (4, .int x4)] [] (fl ad m1)
  refine J_aload_n hX dX12_setBase_4 rfl 0 rfl ?_
  refine J_aload_n hX dX12_setBase_5 rfl 0 rfl ?_
  refine J_iload_n hX dX12_setBase_6 rfl 1 rfl ?_
  refine J_iload_n hX dX12_setBase_7 rfl 2 rfl ?_
  refine J_iload_n hX dX12_setBase_8 rfl 3 rfl ?_
  refine J_iload hX dX12_setBase_9 4 rfl ?_
  refine J_callV hX km_X12_doBase kl_RX12_155 dX12_setBase_11 ka_426 (by decide) [.int x1, .int x2, .int x3, .int x4] ⟨Nat.le_of_ble_eq_true rfl, Nat.le_of_ble_eq_true rfl⟩ rfl rfl (Nat.le_of_ble_eq_true rfl) (c_X12_doBase x1 x2 x3 x4 m1 _ h) (fun v w2 hk => ?_)
  obtain ⟨y3, m2, rfl, rfl, h⟩ := hk
  show J X (0, 0) 14 [(0, .ref (ad 426)), (1, .int x1), (2, .int x2), (3, .int x3), (4, .int x4)] [.int y3, .ref (ad 426)] (fl ad m2)
  refine J_callV hX km_X12_ends kl_RX12_106 dX12_setBase_14 ka_426 (by decide) [.int y3] ⟨Nat.le_of_ble_eq_true rfl, Nat.le_of_ble_eq_true rfl⟩ rfl rfl (Nat.le_of_ble_eq_true rfl) (c_X12_ends y3 m2 _ h) (fun v w2 hk => ?_)
  obtain ⟨y5, m4, rfl, rfl, h⟩ := hk
  show J X (0, 0) 17 [(0, .ref (ad 426)), (1, .int x1), (2, .int x2), (3, .int x3), (4, .int x4)] [.int y5] (fl ad m4)
  exact J_iret hX hR dX12_setBase_17 ⟨_, _, rfl, rfl, h⟩
set_option maxRecDepth 100000 in
theorem c_X12_setFlap {G : GT} {ad : Nat → Nat} (x1 : Int32) (x2 : Int32) (m : Mm) (K : Int32 → Mm → Prop) (h : wp_X12_setFlap x1 x2 m K) : Cn G yX12_setFlap cX12_setFlap 3 (some .int) (rmN 3 66) [.ref (ad 426), .int x1, .int x2] (0, 0) (fl ad m) (kI ad K) := by
  unfold wp_X12_setFlap at h
  refine Cn.of pn_RX12 (Nat.le_of_ble_eq_true rfl) (fun X hG hX hR => ?_)
  subst hG
  have hX : Cx X cX12_setFlap 3 RX12 (rmN 3 66) := hX
  show J X (0, 0) 0 [(0, .ref (ad 426)), (1, .int x1), (2, .int x2)] [] (fl ad m)
  refine J_aload_n hX dX12_setFlap_0 rfl 0 rfl ?_
  refine J_callV hX km_X12_begins kl_RX12_103 dX12_setFlap_1 ka_426 (by decide) [] ⟨Nat.le_of_ble_eq_true rfl, Nat.le_of_ble_eq_true rfl⟩ rfl rfl (Nat.le_of_ble_eq_true rfl) (c_X12_begins m _ h) (fun v w2 hk => ?_)
  obtain ⟨m1, rfl, rfl, h⟩ := hk
  show J X (0, 0) 4 [(0, .ref (ad 426)), (1, .int x1), (2, .int x2)] [] (fl ad m1)
  refine J_aload_n hX dX12_setFlap_4 rfl 0 rfl ?_
  refine J_aload_n hX dX12_setFlap_5 rfl 0 rfl ?_
  refine J_iload_n hX dX12_setFlap_6 rfl 1 rfl ?_
  refine J_iload_n hX dX12_setFlap_7 rfl 2 rfl ?_
  refine J_callV hX km_X12_doFlap kl_RX12_162 dX12_setFlap_8 ka_426 (by decide) [.int x1, .int x2] ⟨Nat.le_of_ble_eq_true rfl, Nat.le_of_ble_eq_true rfl⟩ rfl rfl (Nat.le_of_ble_eq_true rfl) (c_X12_doFlap x1 x2 m1 _ h) (fun v w2 hk => ?_)
  obtain ⟨y3, m2, rfl, rfl, h⟩ := hk
  show J X (0, 0) 11 [(0, .ref (ad 426)), (1, .int x1), (2, .int x2)] [.int y3, .ref (ad 426)] (fl ad m2)
  refine J_callV hX km_X12_ends kl_RX12_106 dX12_setFlap_11 ka_426 (by decide) [.int y3] ⟨Nat.le_of_ble_eq_true rfl, Nat.le_of_ble_eq_true rfl⟩ rfl rfl (Nat.le_of_ble_eq_true rfl) (c_X12_ends y3 m2 _ h) (fun v w2 hk => ?_)
  obtain ⟨y5, m4, rfl, rfl, h⟩ := hk
  show J X (0, 0) 14 [(0, .ref (ad 426)), (1, .int x1), (2, .int x2)] [.int y5] (fl ad m4)
  exact J_iret hX hR dX12_setFlap_14 ⟨_, _, rfl, rfl, h⟩
set_option maxRecDepth 100000 in
theorem c_X12_setLimit {G : GT} {ad : Nat → Nat} (x1 : Int32) (x2 : Int32) (m : Mm) (K : Int32 → Mm → Prop) (h : wp_X12_setLimit x1 x2 m K) : Cn G yX12_setLimit cX12_setLimit 4 (some .int) (rmN 1 22) [.ref (ad 426), .int x1, .int x2] (0, 0) (fl ad m) (kI ad K) := by
  unfold wp_X12_setLimit at h
  refine Cn.of pn_RX12 (Nat.le_of_ble_eq_true rfl) (fun X hG hX hR => ?_)
  subst hG
  have hX : Cx X cX12_setLimit 4 RX12 (rmN 1 22) := hX
  show J X (0, 0) 0 [(0, .ref (ad 426)), (1, .int x1), (2, .int x2)] [] (fl ad m)
  refine J_aload_n hX dX12_setLimit_0 rfl 0 rfl ?_
  refine J_callV hX km_X12_begins kl_RX12_103 dX12_setLimit_1 ka_426 (by decide) [] ⟨Nat.le_of_ble_eq_true rfl, Nat.le_of_ble_eq_true rfl⟩ rfl rfl (Nat.le_of_ble_eq_true rfl) (c_X12_begins m _ h) (fun v w2 hk => ?_)
  obtain ⟨m1, rfl, rfl, h⟩ := hk
  show J X (0, 0) 4 [(0, .ref (ad 426)), (1, .int x1), (2, .int x2)] [] (fl ad m1)
  refine J_iload_n hX dX12_setLimit_4 rfl 1 rfl ?_
  refine J_iconst (v := (0 : Int32)) hX dX12_setLimit_5 (by decide) ?_
  refine J_iconst (v := (3 : Int32)) hX dX12_setLimit_6 (by decide) ?_
  refine J_callS hX km_X12_in kl_RX12_87 dX12_setLimit_7 [.int x1, .int (0 : Int32), .int (3 : Int32)] ⟨Nat.le_of_ble_eq_true rfl, Nat.le_of_ble_eq_true rfl⟩ rfl rfl (Nat.le_of_ble_eq_true rfl) (c_X12_in x1 (0 : Int32) (3 : Int32) m1) (fun v w2 hk => ?_)
  obtain ⟨rfl, rfl⟩ := hk
  show J X (0, 0) 10 [(0, .ref (ad 426)), (1, .int x1), (2, .int x2)] [.int (v_X12_in x1 (0 : Int32) (3 : Int32))] (fl ad m1)
  refine J_if_eq (tgt := 33) hX dX12_setLimit_10 (by decide) (fun c2 => ?_) (fun c2 => ?_)
  · replace h := Eq.mp (if_pos c2) h
    refine J_iconst (v := (-1 : Int32)) hX dX12_setLimit_33 (by decide) ?_
    exact J_iret hX hR dX12_setLimit_34 ⟨_, _, rfl, rfl, h⟩
  · replace h := Eq.mp (if_neg c2) h
    refine J_iload_n hX dX12_setLimit_13 rfl 2 rfl ?_
    refine J_iconst (v := (0 : Int32)) hX dX12_setLimit_14 (by decide) ?_
    refine J_iload_n hX dX12_setLimit_15 rfl 1 rfl ?_
    refine J_iconst (v := (3 : Int32)) hX dX12_setLimit_16 (by decide) ?_
    have hj11 : ∀ y4 : Int32, y4 = (if x1 = (3 : Int32) then (100 : Int32) else (20 : Int32)) → J X (0, 0) 27 [(0, .ref (ad 426)), (1, .int x1), (2, .int x2)] [.int y4, .int (0 : Int32), .int x2] (fl ad m1) := by
      intro y4 e_y4
      replace h := h y4 e_y4
      refine J_callS hX km_X12_in kl_RX12_87 dX12_setLimit_27 [.int x2, .int (0 : Int32), .int y4] ⟨Nat.le_of_ble_eq_true rfl, Nat.le_of_ble_eq_true rfl⟩ rfl rfl (Nat.le_of_ble_eq_true rfl) (c_X12_in x2 (0 : Int32) y4 m1) (fun v w2 hk => ?_)
      obtain ⟨rfl, rfl⟩ := hk
      show J X (0, 0) 30 [(0, .ref (ad 426)), (1, .int x1), (2, .int x2)] [.int (v_X12_in x2 (0 : Int32) y4)] (fl ad m1)
      refine J_if_ne (tgt := 35) hX dX12_setLimit_30 (by decide) (fun c5 => ?_) (fun c5 => ?_)
      · replace h := Eq.mp (if_neg c5) h
        refine J_aload_n hX dX12_setLimit_35 rfl 0 rfl ?_
        refine J_getR hX kf_RX12_7 dX12_setLimit_36 ka_426 (by decide) rfl rh_426_0 ?_
        refine J_bipush (v := (125 : Int32)) hX dX12_setLimit_39 (by decide) ?_
        refine J_iload_n hX dX12_setLimit_41 rfl 1 rfl ?_
        refine J_iadd hX dX12_setLimit_42 ?_
        obtain ⟨b6, h⟩ := h
        refine J_iald (j := ((125 : Int32) + x1).toNatClampNeg) hX dX12_setLimit_43 ka_427 le_427 b6 rfl ?_
        refine J_nmI (fun y7 e_y7 => ?_)
        replace h := h y7 e_y7
        refine J_istore_n (lv2 := [(3, .int y7), (0, .ref (ad 426)), (1, .int x1), (2, .int x2)]) hX dX12_setLimit_44 rfl (Nat.le_of_ble_eq_true rfl) rfl ?_
        refine J_aload_n hX dX12_setLimit_45 rfl 1 rfl ?_
        refine J_getR hX kf_RX12_7 dX12_setLimit_46 ka_426 (by decide) rfl rh_426_0 ?_
        refine J_bipush (v := (125 : Int32)) hX dX12_setLimit_49 (by decide) ?_
        refine J_iload_n hX dX12_setLimit_51 rfl 2 rfl ?_
        refine J_iadd hX dX12_setLimit_52 ?_
        refine J_iload_n hX dX12_setLimit_53 rfl 3 rfl ?_
        refine J_iast (j := ((125 : Int32) + x1).toNatClampNeg) hX dX12_setLimit_54 ka_427 le_427 b6 rfl ?_
        refine J_nmM (fun m8 e_m8 => ?_)
        replace h := h m8 e_m8
        refine J_aload_n hX dX12_setLimit_55 rfl 1 rfl ?_
        refine J_iload_n hX dX12_setLimit_56 rfl 0 rfl ?_
        refine J_callV hX km_X12_ends kl_RX12_106 dX12_setLimit_57 ka_426 (by decide) [.int y7] ⟨Nat.le_of_ble_eq_true rfl, Nat.le_of_ble_eq_true rfl⟩ rfl rfl (Nat.le_of_ble_eq_true rfl) (c_X12_ends y7 m8 _ h) (fun v w2 hk => ?_)
        obtain ⟨y10, m9, rfl, rfl, h⟩ := hk
        show J X (0, 0) 60 [(3, .int y7), (0, .ref (ad 426)), (1, .int x1), (2, .int x2)] [.int y10] (fl ad m9)
        exact J_iret hX hR dX12_setLimit_60 ⟨_, _, rfl, rfl, h⟩
      · replace h := Eq.mp (if_pos c5) h
        refine J_iconst (v := (-1 : Int32)) hX dX12_setLimit_33 (by decide) ?_
        exact J_iret hX hR dX12_setLimit_34 ⟨_, _, rfl, rfl, h⟩
    refine J_icmp_ne (tgt := 25) hX dX12_setLimit_17 (by decide) (fun c3 => ?_) (fun c3 => ?_)
    · refine J_bipush (v := (20 : Int32)) hX dX12_setLimit_25 (by decide) ?_
      exact J_sub [0, 1, 2] rfl (hj11 _ (if_neg c3).symm)
    · refine J_bipush (v := (100 : Int32)) hX dX12_setLimit_20 (by decide) ?_
      refine J_goto (tgt := 27) hX dX12_setLimit_22 (by decide) ?_
      exact J_sub [0, 1, 2] rfl (hj11 _ (if_pos c3).symm)
set_option maxRecDepth 100000 in
theorem c_X12_setSheet {G : GT} {ad : Nat → Nat} (x1 : Int32) (x2 : Int32) (m : Mm) (K : Int32 → Mm → Prop) (h : wp_X12_setSheet x1 x2 m K) : Cn G yX12_setSheet cX12_setSheet 3 (some .int) (rmN 5 112) [.ref (ad 426), .int x1, .int x2] (0, 0) (fl ad m) (kI ad K) := by
  unfold wp_X12_setSheet at h
  refine Cn.of pn_RX12 (Nat.le_of_ble_eq_true rfl) (fun X hG hX hR => ?_)
  subst hG
  have hX : Cx X cX12_setSheet 3 RX12 (rmN 5 112) := hX
  show J X (0, 0) 0 [(0, .ref (ad 426)), (1, .int x1), (2, .int x2)] [] (fl ad m)
  refine J_aload_n hX dX12_setSheet_0 rfl 0 rfl ?_
  refine J_callV hX km_X12_begins kl_RX12_103 dX12_setSheet_1 ka_426 (by decide) [] ⟨Nat.le_of_ble_eq_true rfl, Nat.le_of_ble_eq_true rfl⟩ rfl rfl (Nat.le_of_ble_eq_true rfl) (c_X12_begins m _ h) (fun v w2 hk => ?_)
  obtain ⟨m1, rfl, rfl, h⟩ := hk
  show J X (0, 0) 4 [(0, .ref (ad 426)), (1, .int x1), (2, .int x2)] [] (fl ad m1)
  refine J_aload_n hX dX12_setSheet_4 rfl 0 rfl ?_
  refine J_aload_n hX dX12_setSheet_5 rfl 0 rfl ?_
  refine J_iload_n hX dX12_setSheet_6 rfl 1 rfl ?_
  refine J_iload_n hX dX12_setSheet_7 rfl 2 rfl ?_
  refine J_callV hX km_X12_doSheet kl_RX12_152 dX12_setSheet_8 ka_426 (by decide) [.int x1, .int x2] ⟨Nat.le_of_ble_eq_true rfl, Nat.le_of_ble_eq_true rfl⟩ rfl rfl (Nat.le_of_ble_eq_true rfl) (c_X12_doSheet x1 x2 m1 _ h) (fun v w2 hk => ?_)
  obtain ⟨y3, m2, rfl, rfl, h⟩ := hk
  show J X (0, 0) 11 [(0, .ref (ad 426)), (1, .int x1), (2, .int x2)] [.int y3, .ref (ad 426)] (fl ad m2)
  refine J_callV hX km_X12_ends kl_RX12_106 dX12_setSheet_11 ka_426 (by decide) [.int y3] ⟨Nat.le_of_ble_eq_true rfl, Nat.le_of_ble_eq_true rfl⟩ rfl rfl (Nat.le_of_ble_eq_true rfl) (c_X12_ends y3 m2 _ h) (fun v w2 hk => ?_)
  obtain ⟨y5, m4, rfl, rfl, h⟩ := hk
  show J X (0, 0) 14 [(0, .ref (ad 426)), (1, .int x1), (2, .int x2)] [.int y5] (fl ad m4)
  exact J_iret hX hR dX12_setSheet_14 ⟨_, _, rfl, rfl, h⟩
set_option maxRecDepth 100000 in
theorem t_X12_setSize_j80 {X : XT} {ad : Nat → Nat} {K : Int32 → Mm → Prop} (hX : Cx X cX12_setSize 5 RX12 (rmN 4 89)) (hR : Rx X (some .int) (kI ad K) (0, 0)) (s1 : Int32) (m : Mm) (h : wp_X12_setSize_j80 K s1 m) : J X (0, 0) 80 [] [.int s1, .ref (ad 426)] (fl ad m) := by
  unfold wp_X12_setSize_j80 at h
  refine J_callV hX km_X12_ends kl_RX12_106 dX12_setSize_80 ka_426 (by decide) [.int s1] ⟨Nat.le_of_ble_eq_true rfl, Nat.le_of_ble_eq_true rfl⟩ rfl rfl (Nat.le_of_ble_eq_true rfl) (c_X12_ends s1 m _ h) (fun v w2 hk => ?_)
  obtain ⟨y16, m15, rfl, rfl, h⟩ := hk
  show J X (0, 0) 83 [] [.int y16] (fl ad m15)
  exact J_iret hX hR dX12_setSize_83 ⟨_, _, rfl, rfl, h⟩
set_option maxRecDepth 100000 in
theorem c_X12_setSize {G : GT} {ad : Nat → Nat} (x1 : Int32) (x2 : Int32) (x3 : Int32) (m : Mm) (K : Int32 → Mm → Prop) (h : wp_X12_setSize x1 x2 x3 m K) : Cn G yX12_setSize cX12_setSize 5 (some .int) (rmN 4 89) [.ref (ad 426), .int x1, .int x2, .int x3] (0, 0) (fl ad m) (kI ad K) := by
  unfold wp_X12_setSize at h
  refine Cn.of pn_RX12 (Nat.le_of_ble_eq_true rfl) (fun X hG hX hR => ?_)
  subst hG
  have hX : Cx X cX12_setSize 5 RX12 (rmN 4 89) := hX
  show J X (0, 0) 0 [(0, .ref (ad 426)), (1, .int x1), (2, .int x2), (3, .int x3)] [] (fl ad m)
  refine J_aload_n hX dX12_setSize_0 rfl 0 rfl ?_
  refine J_callV hX km_X12_begins kl_RX12_103 dX12_setSize_1 ka_426 (by decide) [] ⟨Nat.le_of_ble_eq_true rfl, Nat.le_of_ble_eq_true rfl⟩ rfl rfl (Nat.le_of_ble_eq_true rfl) (c_X12_begins m _ h) (fun v w2 hk => ?_)
  obtain ⟨m1, rfl, rfl, h⟩ := hk
  show J X (0, 0) 4 [(0, .ref (ad 426)), (1, .int x1), (2, .int x2), (3, .int x3)] [] (fl ad m1)
  refine J_aload_n hX dX12_setSize_4 rfl 0 rfl ?_
  refine J_iload_n hX dX12_setSize_5 rfl 1 rfl ?_
  refine J_callV hX km_X12_isHung kl_RX12_149 dX12_setSize_6 ka_426 (by decide) [.int x1] ⟨Nat.le_of_ble_eq_true rfl, Nat.le_of_ble_eq_true rfl⟩ rfl rfl (Nat.le_of_ble_eq_true rfl) (c_X12_isHung x1 m1) (fun v w2 hk => ?_)
  obtain ⟨rfl, rfl⟩ := hk
  show J X (0, 0) 9 [(0, .ref (ad 426)), (1, .int x1), (2, .int x2), (3, .int x3)] [.int (v_X12_isHung x1 m1)] (fl ad m1)
  refine J_if_eq (tgt := 40) hX dX12_setSize_9 (by decide) (fun c2 => ?_) (fun c2 => ?_)
  · replace h := Eq.mp (if_pos c2) h
    refine J_iconst (v := (-1 : Int32)) hX dX12_setSize_40 (by decide) ?_
    exact J_iret hX hR dX12_setSize_41 ⟨_, _, rfl, rfl, h⟩
  · replace h := Eq.mp (if_neg c2) h
    refine J_iload_n hX dX12_setSize_12 rfl 2 rfl ?_
    refine J_iconst (v := (0 : Int32)) hX dX12_setSize_13 (by decide) ?_
    refine J_iconst (v := (2 : Int32)) hX dX12_setSize_14 (by decide) ?_
    refine J_callS hX km_X12_in kl_RX12_87 dX12_setSize_15 [.int x2, .int (0 : Int32), .int (2 : Int32)] ⟨Nat.le_of_ble_eq_true rfl, Nat.le_of_ble_eq_true rfl⟩ rfl rfl (Nat.le_of_ble_eq_true rfl) (c_X12_in x2 (0 : Int32) (2 : Int32) m1) (fun v w2 hk => ?_)
    obtain ⟨rfl, rfl⟩ := hk
    show J X (0, 0) 18 [(0, .ref (ad 426)), (1, .int x1), (2, .int x2), (3, .int x3)] [.int (v_X12_in x2 (0 : Int32) (2 : Int32))] (fl ad m1)
    refine J_if_eq (tgt := 40) hX dX12_setSize_18 (by decide) (fun c3 => ?_) (fun c3 => ?_)
    · replace h := Eq.mp (if_pos c3) h
      refine J_iconst (v := (-1 : Int32)) hX dX12_setSize_40 (by decide) ?_
      exact J_iret hX hR dX12_setSize_41 ⟨_, _, rfl, rfl, h⟩
    · replace h := Eq.mp (if_neg c3) h
      refine J_iload_n hX dX12_setSize_21 rfl 3 rfl ?_
      refine J_iload_n hX dX12_setSize_22 rfl 2 rfl ?_
      have hj17 : ∀ y5 : Int32, y5 = (if x2 = (0 : Int32) then (0 : Int32) else (1 : Int32)) → J X (0, 0) 31 [(0, .ref (ad 426)), (1, .int x1), (2, .int x2), (3, .int x3)] [.int y5, .int x3] (fl ad m1) := by
        intro y5 e_y5
        replace h := h y5 e_y5
        refine J_sipush (v := (300 : Int32)) hX dX12_setSize_31 (by decide) ?_
        refine J_callS hX km_X12_in kl_RX12_87 dX12_setSize_34 [.int x3, .int y5, .int (300 : Int32)] ⟨Nat.le_of_ble_eq_true rfl, Nat.le_of_ble_eq_true rfl⟩ rfl rfl (Nat.le_of_ble_eq_true rfl) (c_X12_in x3 y5 (300 : Int32) m1) (fun v w2 hk => ?_)
        obtain ⟨rfl, rfl⟩ := hk
        show J X (0, 0) 37 [(0, .ref (ad 426)), (1, .int x1), (2, .int x2), (3, .int x3)] [.int (v_X12_in x3 y5 (300 : Int32))] (fl ad m1)
        refine J_if_ne (tgt := 42) hX dX12_setSize_37 (by decide) (fun c6 => ?_) (fun c6 => ?_)
        · replace h := Eq.mp (if_neg c6) h
          refine J_aload_n hX dX12_setSize_42 rfl 0 rfl ?_
          refine J_iload_n hX dX12_setSize_43 rfl 1 rfl ?_
          refine J_iconst (v := (2 : Int32)) hX dX12_setSize_44 (by decide) ?_
          refine J_iload_n hX dX12_setSize_45 rfl 2 rfl ?_
          refine J_iadd hX dX12_setSize_46 ?_
          obtain ⟨b7, h⟩ := h
          refine J_callV hX km_X12_of kl_RX12_91 dX12_setSize_47 ka_426 (by decide) [.int x1, .int ((2 : Int32) + x2)] ⟨Nat.le_of_ble_eq_true rfl, Nat.le_of_ble_eq_true rfl⟩ rfl rfl (Nat.le_of_ble_eq_true rfl) (c_X12_of x1 ((2 : Int32) + x2) m1 b7) (fun v w2 hk => ?_)
          obtain ⟨rfl, rfl⟩ := hk
          show J X (0, 0) 50 [(0, .ref (ad 426)), (1, .int x1), (2, .int x2), (3, .int x3)] [.int (v_X12_of x1 ((2 : Int32) + x2) m1)] (fl ad m1)
          refine J_nmI (fun y8 e_y8 => ?_)
          replace h := h y8 e_y8
          refine J_istore (lv2 := [(4, .int y8), (0, .ref (ad 426)), (1, .int x1), (2, .int x2), (3, .int x3)]) hX dX12_setSize_50 (Nat.le_of_ble_eq_true rfl) rfl ?_
          refine J_aload_n hX dX12_setSize_52 rfl 1 rfl ?_
          refine J_iload_n hX dX12_setSize_53 rfl 2 rfl ?_
          refine J_iconst (v := (2 : Int32)) hX dX12_setSize_54 (by decide) ?_
          refine J_iload_n hX dX12_setSize_55 rfl 3 rfl ?_
          refine J_iadd hX dX12_setSize_56 ?_
          refine J_iload_n hX dX12_setSize_57 rfl 4 rfl ?_
          refine J_callV hX km_X12_put kl_RX12_137 dX12_setSize_58 ka_426 (by decide) [.int x1, .int ((2 : Int32) + x2), .int x3] ⟨Nat.le_of_ble_eq_true rfl, Nat.le_of_ble_eq_true rfl⟩ rfl rfl (Nat.le_of_ble_eq_true rfl) (c_X12_put x1 ((2 : Int32) + x2) x3 m1 _ h) (fun v w2 hk => ?_)
          obtain ⟨m9, rfl, rfl, h⟩ := hk
          show J X (0, 0) 61 [(4, .int y8), (0, .ref (ad 426)), (1, .int x1), (2, .int x2), (3, .int x3)] [] (fl ad m9)
          refine J_aload_n hX dX12_setSize_61 rfl 1 rfl ?_
          refine J_aload_n hX dX12_setSize_62 rfl 1 rfl ?_
          refine J_callV hX km_X12_isValid kl_RX12_133 dX12_setSize_63 ka_426 (by decide) [] ⟨Nat.le_of_ble_eq_true rfl, Nat.le_of_ble_eq_true rfl⟩ rfl rfl (Nat.le_of_ble_eq_true rfl) (c_X12_isValid m9 _ h) (fun v w2 hk => ?_)
          obtain ⟨y11, m10, rfl, rfl, h⟩ := hk
          show J X (0, 0) 66 [(4, .int y8), (0, .ref (ad 426)), (1, .int x1), (2, .int x2), (3, .int x3)] [.int y11, .ref (ad 426)] (fl ad m10)
          refine J_if_eq (tgt := 74) hX dX12_setSize_66 (by decide) (fun c12 => ?_) (fun c12 => ?_)
          · replace h := Eq.mp (if_pos c12) h
            refine J_aload_n hX dX12_setSize_74 rfl 1 rfl ?_
            refine J_bipush (v := (-4 : Int32)) hX dX12_setSize_75 (by decide) ?_
            refine J_callV hX km_X12_refuse kl_RX12_130 dX12_setSize_77 ka_426 (by decide) [.int (-4 : Int32)] ⟨Nat.le_of_ble_eq_true rfl, Nat.le_of_ble_eq_true rfl⟩ rfl rfl (Nat.le_of_ble_eq_true rfl) (c_X12_refuse (-4 : Int32) m10 _ h) (fun v w2 hk => ?_)
            obtain ⟨y14, m13, rfl, rfl, h⟩ := hk
            show J X (0, 0) 80 [(4, .int y8), (0, .ref (ad 426)), (1, .int x1), (2, .int x2), (3, .int x3)] [.int y14, .ref (ad 426)] (fl ad m13)
            exact J_sub [] rfl (t_X12_setSize_j80 hX hR y14 m13 h)
          · replace h := Eq.mp (if_neg c12) h
            refine J_iload hX dX12_setSize_69 0 rfl ?_
            refine J_goto (tgt := 80) hX dX12_setSize_71 (by decide) ?_
            exact J_sub [] rfl (t_X12_setSize_j80 hX hR y8 m10 h)
        · replace h := Eq.mp (if_pos c6) h
          refine J_iconst (v := (-1 : Int32)) hX dX12_setSize_40 (by decide) ?_
          exact J_iret hX hR dX12_setSize_41 ⟨_, _, rfl, rfl, h⟩
      refine J_if_ne (tgt := 30) hX dX12_setSize_23 (by decide) (fun c4 => ?_) (fun c4 => ?_)
      · refine J_iconst (v := (1 : Int32)) hX dX12_setSize_30 (by decide) ?_
        exact J_sub [0, 1, 2, 3] rfl (hj17 _ (if_neg c4).symm)
      · refine J_iconst (v := (0 : Int32)) hX dX12_setSize_26 (by decide) ?_
        refine J_goto (tgt := 31) hX dX12_setSize_27 (by decide) ?_
        exact J_sub [0, 1, 2, 3] rfl (hj17 _ (if_pos c4).symm)
set_option maxRecDepth 100000 in
theorem c_X12_setWeight {G : GT} {ad : Nat → Nat} (x1 : Int32) (x2 : Int32) (m : Mm) (K : Int32 → Mm → Prop) (h : wp_X12_setWeight x1 x2 m K) : Cn G yX12_setWeight cX12_setWeight 4 (some .int) (rmN 1 22) [.ref (ad 426), .int x1, .int x2] (0, 0) (fl ad m) (kI ad K) := by
  unfold wp_X12_setWeight at h
  refine Cn.of pn_RX12 (Nat.le_of_ble_eq_true rfl) (fun X hG hX hR => ?_)
  subst hG
  have hX : Cx X cX12_setWeight 4 RX12 (rmN 1 22) := hX
  show J X (0, 0) 0 [(0, .ref (ad 426)), (1, .int x1), (2, .int x2)] [] (fl ad m)
  refine J_aload_n hX dX12_setWeight_0 rfl 0 rfl ?_
  refine J_callV hX km_X12_begins kl_RX12_103 dX12_setWeight_1 ka_426 (by decide) [] ⟨Nat.le_of_ble_eq_true rfl, Nat.le_of_ble_eq_true rfl⟩ rfl rfl (Nat.le_of_ble_eq_true rfl) (c_X12_begins m _ h) (fun v w2 hk => ?_)
  obtain ⟨m1, rfl, rfl, h⟩ := hk
  show J X (0, 0) 4 [(0, .ref (ad 426)), (1, .int x1), (2, .int x2)] [] (fl ad m1)
  refine J_iload_n hX dX12_setWeight_4 rfl 1 rfl ?_
  refine J_iconst (v := (0 : Int32)) hX dX12_setWeight_5 (by decide) ?_
  refine J_bipush (v := (7 : Int32)) hX dX12_setWeight_6 (by decide) ?_
  refine J_callS hX km_X12_in kl_RX12_87 dX12_setWeight_8 [.int x1, .int (0 : Int32), .int (7 : Int32)] ⟨Nat.le_of_ble_eq_true rfl, Nat.le_of_ble_eq_true rfl⟩ rfl rfl (Nat.le_of_ble_eq_true rfl) (c_X12_in x1 (0 : Int32) (7 : Int32) m1) (fun v w2 hk => ?_)
  obtain ⟨rfl, rfl⟩ := hk
  show J X (0, 0) 11 [(0, .ref (ad 426)), (1, .int x1), (2, .int x2)] [.int (v_X12_in x1 (0 : Int32) (7 : Int32))] (fl ad m1)
  refine J_if_eq (tgt := 24) hX dX12_setWeight_11 (by decide) (fun c2 => ?_) (fun c2 => ?_)
  · replace h := Eq.mp (if_pos c2) h
    refine J_iconst (v := (-1 : Int32)) hX dX12_setWeight_24 (by decide) ?_
    exact J_iret hX hR dX12_setWeight_25 ⟨_, _, rfl, rfl, h⟩
  · replace h := Eq.mp (if_neg c2) h
    refine J_iload_n hX dX12_setWeight_14 rfl 2 rfl ?_
    refine J_iconst (v := (0 : Int32)) hX dX12_setWeight_15 (by decide) ?_
    refine J_bipush (v := (9 : Int32)) hX dX12_setWeight_16 (by decide) ?_
    refine J_callS hX km_X12_in kl_RX12_87 dX12_setWeight_18 [.int x2, .int (0 : Int32), .int (9 : Int32)] ⟨Nat.le_of_ble_eq_true rfl, Nat.le_of_ble_eq_true rfl⟩ rfl rfl (Nat.le_of_ble_eq_true rfl) (c_X12_in x2 (0 : Int32) (9 : Int32) m1) (fun v w2 hk => ?_)
    obtain ⟨rfl, rfl⟩ := hk
    show J X (0, 0) 21 [(0, .ref (ad 426)), (1, .int x1), (2, .int x2)] [.int (v_X12_in x2 (0 : Int32) (9 : Int32))] (fl ad m1)
    refine J_if_ne (tgt := 26) hX dX12_setWeight_21 (by decide) (fun c3 => ?_) (fun c3 => ?_)
    · replace h := Eq.mp (if_neg c3) h
      refine J_aload_n hX dX12_setWeight_26 rfl 0 rfl ?_
      refine J_getR hX kf_RX12_7 dX12_setWeight_27 ka_426 (by decide) rfl rh_426_0 ?_
      refine J_sipush (v := (129 : Int32)) hX dX12_setWeight_30 (by decide) ?_
      refine J_iload_n hX dX12_setWeight_33 rfl 1 rfl ?_
      refine J_iadd hX dX12_setWeight_34 ?_
      obtain ⟨b4, h⟩ := h
      refine J_iald (j := ((129 : Int32) + x1).toNatClampNeg) hX dX12_setWeight_35 ka_427 le_427 b4 rfl ?_
      refine J_nmI (fun y5 e_y5 => ?_)
      replace h := h y5 e_y5
      refine J_istore_n (lv2 := [(3, .int y5), (0, .ref (ad 426)), (1, .int x1), (2, .int x2)]) hX dX12_setWeight_36 rfl (Nat.le_of_ble_eq_true rfl) rfl ?_
      refine J_aload_n hX dX12_setWeight_37 rfl 1 rfl ?_
      refine J_getR hX kf_RX12_7 dX12_setWeight_38 ka_426 (by decide) rfl rh_426_0 ?_
      refine J_sipush (v := (129 : Int32)) hX dX12_setWeight_41 (by decide) ?_
      refine J_iload_n hX dX12_setWeight_44 rfl 2 rfl ?_
      refine J_iadd hX dX12_setWeight_45 ?_
      refine J_iload_n hX dX12_setWeight_46 rfl 3 rfl ?_
      refine J_iast (j := ((129 : Int32) + x1).toNatClampNeg) hX dX12_setWeight_47 ka_427 le_427 b4 rfl ?_
      refine J_nmM (fun m6 e_m6 => ?_)
      replace h := h m6 e_m6
      refine J_aload_n hX dX12_setWeight_48 rfl 1 rfl ?_
      refine J_iload_n hX dX12_setWeight_49 rfl 0 rfl ?_
      refine J_callV hX km_X12_ends kl_RX12_106 dX12_setWeight_50 ka_426 (by decide) [.int y5] ⟨Nat.le_of_ble_eq_true rfl, Nat.le_of_ble_eq_true rfl⟩ rfl rfl (Nat.le_of_ble_eq_true rfl) (c_X12_ends y5 m6 _ h) (fun v w2 hk => ?_)
      obtain ⟨y8, m7, rfl, rfl, h⟩ := hk
      show J X (0, 0) 53 [(3, .int y5), (0, .ref (ad 426)), (1, .int x1), (2, .int x2)] [.int y8] (fl ad m7)
      exact J_iret hX hR dX12_setWeight_53 ⟨_, _, rfl, rfl, h⟩
    · replace h := Eq.mp (if_pos c3) h
      refine J_iconst (v := (-1 : Int32)) hX dX12_setWeight_24 (by decide) ?_
      exact J_iret hX hR dX12_setWeight_25 ⟨_, _, rfl, rfl, h⟩
set_option maxRecDepth 100000 in
theorem tb_X12_spreads_l12 {X : XT} {ad : Nat → Nat} {K : Int32 → Mm → Prop} (hX : Cx X cX12_spreads 6 RX12 (rmN 6 157)) (hR : Rx X (some .boolean) (kI ad K) (0, 0)) {rec : Int32 → Mm → Prop} {k2 : Int32 → Mm → Prop} (x1 : Int32) (x2 : Int32) (hrec : ∀ (x3 : Int32) (m : Mm), rec x3 m → J X (0, 0) 12 [(0, .ref (ad 426)), (1, .int x1), (2, .int x2), (3, .int x3)] [] (fl ad m)) (hk2 : ∀ (z2 : Int32) (m : Mm), k2 z2 m → J X (0, 0) 2 [(0, .ref (ad 426)), (1, .int x1), (2, .int z2)] [] (fl ad m)) (x3 : Int32) (m : Mm) (h : wb_X12_spreads_l12 rec k2 K x1 x2 x3 m) : J X (0, 0) 12 [(0, .ref (ad 426)), (1, .int x1), (2, .int x2), (3, .int x3)] [] (fl ad m) := by
  unfold wb_X12_spreads_l12 at h
  refine J_iload_n hX dX12_spreads_12 rfl 3 rfl ?_
  refine J_iconst (v := (2 : Int32)) hX dX12_spreads_13 (by decide) ?_
  refine J_icmp_ge (tgt := 111) hX dX12_spreads_14 (by decide) (fun c2 => ?_) (fun c2 => ?_)
  · replace h := Eq.mp (if_pos c2) h
    refine J_iinc (x := (x2 + (1 : Int32))) (lv2 := [(2, .int (x2 + (1 : Int32))), (0, .ref (ad 426)), (1, .int x1), (3, .int x3)]) hX dX12_spreads_111 2 rfl rfl (Nat.le_of_ble_eq_true rfl) rfl ?_
    refine J_goto (tgt := 2) hX dX12_spreads_114 (by decide) ?_
    exact J_sub [1, 2, 0] rfl (hk2 (x2 + (1 : Int32)) m h)
  · replace h := Eq.mp (if_neg c2) h
    refine J_aload_n hX dX12_spreads_17 rfl 0 rfl ?_
    refine J_getR hX kf_RX12_68 dX12_spreads_18 ka_426 (by decide) rfl rh_426_24 ?_
    refine J_bipush (v := (9 : Int32)) hX dX12_spreads_21 (by decide) ?_
    refine J_iload_n hX dX12_spreads_23 rfl 2 rfl ?_
    refine J_imul hX dX12_spreads_24 ?_
    refine J_iconst (v := (2 : Int32)) hX dX12_spreads_25 (by decide) ?_
    refine J_iload_n hX dX12_spreads_26 rfl 3 rfl ?_
    refine J_imul hX dX12_spreads_27 ?_
    refine J_iadd hX dX12_spreads_28 ?_
    obtain ⟨b3, h⟩ := h
    refine J_iald (j := (((9 : Int32) * x2) + ((2 : Int32) * x3)).toNatClampNeg) hX dX12_spreads_29 ka_446 le_446 b3 rfl ?_
    refine J_nmI (fun y4 e_y4 => ?_)
    replace h := h y4 e_y4
    refine J_istore (lv2 := [(4, .int y4), (0, .ref (ad 426)), (1, .int x1), (2, .int x2), (3, .int x3)]) hX dX12_spreads_30 (Nat.le_of_ble_eq_true rfl) rfl ?_
    refine J_aload_n hX dX12_spreads_32 rfl 1 rfl ?_
    refine J_getR hX kf_RX12_68 dX12_spreads_33 ka_426 (by decide) rfl rh_426_24 ?_
    refine J_bipush (v := (9 : Int32)) hX dX12_spreads_36 (by decide) ?_
    refine J_iload_n hX dX12_spreads_38 rfl 3 rfl ?_
    refine J_imul hX dX12_spreads_39 ?_
    refine J_iconst (v := (2 : Int32)) hX dX12_spreads_40 (by decide) ?_
    refine J_iadd hX dX12_spreads_41 ?_
    refine J_iconst (v := (2 : Int32)) hX dX12_spreads_42 (by decide) ?_
    refine J_iload_n hX dX12_spreads_43 rfl 4 rfl ?_
    refine J_imul hX dX12_spreads_44 ?_
    refine J_isub hX dX12_spreads_45 ?_
    obtain ⟨b5, h⟩ := h
    refine J_iald (j := ((((9 : Int32) * x2) + (2 : Int32)) - ((2 : Int32) * x3)).toNatClampNeg) hX dX12_spreads_46 ka_446 le_446 b5 rfl ?_
    refine J_nmI (fun y6 e_y6 => ?_)
    replace h := h y6 e_y6
    refine J_istore (lv2 := [(5, .int y6), (4, .int y4), (0, .ref (ad 426)), (1, .int x1), (2, .int x2), (3, .int x3)]) hX dX12_spreads_47 (Nat.le_of_ble_eq_true rfl) rfl ?_
    refine J_aload_n hX dX12_spreads_49 rfl 2 rfl ?_
    refine J_iload hX dX12_spreads_50 1 rfl ?_
    refine J_bipush (v := (7 : Int32)) hX dX12_spreads_52 (by decide) ?_
    obtain ⟨b7, h⟩ := h
    refine J_callV hX km_X12_of kl_RX12_91 dX12_spreads_54 ka_426 (by decide) [.int y4, .int (7 : Int32)] ⟨Nat.le_of_ble_eq_true rfl, Nat.le_of_ble_eq_true rfl⟩ rfl rfl (Nat.le_of_ble_eq_true rfl) (c_X12_of y4 (7 : Int32) m b7) (fun v w2 hk => ?_)
    obtain ⟨rfl, rfl⟩ := hk
    show J X (0, 0) 57 [(5, .int y6), (4, .int y4), (0, .ref (ad 426)), (1, .int x1), (2, .int x2), (3, .int x3)] [.int (v_X12_of y4 (7 : Int32) m)] (fl ad m)
    refine J_iload_n hX dX12_spreads_57 rfl 3 rfl ?_
    refine J_icmp_ne (tgt := 105) hX dX12_spreads_58 (by decide) (fun c8 => ?_) (fun c8 => ?_)
    · replace h := Eq.mp (if_neg c8) h
      refine J_iinc (x := (x3 + (1 : Int32))) (lv2 := [(3, .int (x3 + (1 : Int32))), (5, .int y6), (4, .int y4), (0, .ref (ad 426)), (1, .int x1), (2, .int x2)]) hX dX12_spreads_105 5 rfl rfl (Nat.le_of_ble_eq_true rfl) rfl ?_
      refine J_goto (tgt := 12) hX dX12_spreads_108 (by decide) ?_
      exact J_sub [3, 4, 5, 0] rfl (hrec (x3 + (1 : Int32)) m h)
    · replace h := Eq.mp (if_pos c8) h
      refine J_aload_n hX dX12_spreads_61 rfl 2 rfl ?_
      refine J_iload hX dX12_spreads_62 0 rfl ?_
      refine J_bipush (v := (7 : Int32)) hX dX12_spreads_64 (by decide) ?_
      obtain ⟨b9, h⟩ := h
      refine J_callV hX km_X12_of kl_RX12_91 dX12_spreads_66 ka_426 (by decide) [.int y6, .int (7 : Int32)] ⟨Nat.le_of_ble_eq_true rfl, Nat.le_of_ble_eq_true rfl⟩ rfl rfl (Nat.le_of_ble_eq_true rfl) (c_X12_of y6 (7 : Int32) m b9) (fun v w2 hk => ?_)
      obtain ⟨rfl, rfl⟩ := hk
      show J X (0, 0) 69 [(5, .int y6), (4, .int y4), (0, .ref (ad 426)), (1, .int x1), (2, .int x2), (3, .int x3)] [.int (v_X12_of y6 (7 : Int32) m)] (fl ad m)
      refine J_bipush (v := (-9 : Int32)) hX dX12_spreads_69 (by decide) ?_
      refine J_icmp_ne (tgt := 105) hX dX12_spreads_71 (by decide) (fun c10 => ?_) (fun c10 => ?_)
      · replace h := Eq.mp (if_neg c10) h
        refine J_iinc (x := (x3 + (1 : Int32))) (lv2 := [(3, .int (x3 + (1 : Int32))), (5, .int y6), (4, .int y4), (0, .ref (ad 426)), (1, .int x1), (2, .int x2)]) hX dX12_spreads_105 5 rfl rfl (Nat.le_of_ble_eq_true rfl) rfl ?_
        refine J_goto (tgt := 12) hX dX12_spreads_108 (by decide) ?_
        exact J_sub [3, 4, 5, 0] rfl (hrec (x3 + (1 : Int32)) m h)
      · replace h := Eq.mp (if_pos c10) h
        refine J_aload_n hX dX12_spreads_74 rfl 2 rfl ?_
        refine J_iload hX dX12_spreads_75 0 rfl ?_
        obtain ⟨b11, h⟩ := h
        refine J_callV hX km_X12_isFlap kl_RX12_302 dX12_spreads_77 ka_426 (by decide) [.int y6] ⟨Nat.le_of_ble_eq_true rfl, Nat.le_of_ble_eq_true rfl⟩ rfl rfl (Nat.le_of_ble_eq_true rfl) (c_X12_isFlap y6 m b11) (fun v w2 hk => ?_)
        obtain ⟨rfl, rfl⟩ := hk
        show J X (0, 0) 80 [(5, .int y6), (4, .int y4), (0, .ref (ad 426)), (1, .int x1), (2, .int x2), (3, .int x3)] [.int (v_X12_isFlap y6 m)] (fl ad m)
        refine J_if_ne (tgt := 105) hX dX12_spreads_80 (by decide) (fun c12 => ?_) (fun c12 => ?_)
        · replace h := Eq.mp (if_neg c12) h
          refine J_iinc (x := (x3 + (1 : Int32))) (lv2 := [(3, .int (x3 + (1 : Int32))), (5, .int y6), (4, .int y4), (0, .ref (ad 426)), (1, .int x1), (2, .int x2)]) hX dX12_spreads_105 5 rfl rfl (Nat.le_of_ble_eq_true rfl) rfl ?_
          refine J_goto (tgt := 12) hX dX12_spreads_108 (by decide) ?_
          exact J_sub [3, 4, 5, 0] rfl (hrec (x3 + (1 : Int32)) m h)
        · replace h := Eq.mp (if_pos c12) h
          refine J_aload_n hX dX12_spreads_83 rfl 2 rfl ?_
          refine J_iload_n hX dX12_spreads_84 rfl 4 rfl ?_
          refine J_iload_n hX dX12_spreads_85 rfl 5 rfl ?_
          refine J_iconst (v := (1 : Int32)) hX dX12_spreads_86 (by decide) ?_
          have hj18 : ∀ y14 : Int32, y14 = (if x3 = (1 : Int32) then (1 : Int32) else (0 : Int32)) → J X (0, 0) 95 [(0, .ref (ad 426)), (1, .int x1), (2, .int x2), (3, .int x3)] [.int y14, .int x2, .ref (ad 426)] (fl ad m) := by
            intro y14 e_y14
            replace h := h y14 e_y14
            refine J_callV hX km_X12_continueOver kl_RX12_299 dX12_spreads_95 ka_426 (by decide) [.int x2, .int y14] ⟨Nat.le_of_ble_eq_true rfl, Nat.le_of_ble_eq_true rfl⟩ rfl rfl (Nat.le_of_ble_eq_true rfl) (c_X12_continueOver x2 y14 m _ h) (fun v w2 hk => ?_)
            obtain ⟨y16, m15, rfl, rfl, h⟩ := hk
            show J X (0, 0) 98 [(0, .ref (ad 426)), (1, .int x1), (2, .int x2), (3, .int x3)] [.int y16] (fl ad m15)
            refine J_bipush (v := (-9 : Int32)) hX dX12_spreads_98 (by decide) ?_
            refine J_icmp_eq (tgt := 105) hX dX12_spreads_100 (by decide) (fun c17 => ?_) (fun c17 => ?_)
            · replace h := Eq.mp (if_pos c17) h
              refine J_iinc (x := (x3 + (1 : Int32))) (lv2 := [(3, .int (x3 + (1 : Int32))), (0, .ref (ad 426)), (1, .int x1), (2, .int x2)]) hX dX12_spreads_105 3 rfl rfl (Nat.le_of_ble_eq_true rfl) rfl ?_
              refine J_goto (tgt := 12) hX dX12_spreads_108 (by decide) ?_
              exact J_sub [1, 2, 3, 0] rfl (hrec (x3 + (1 : Int32)) m15 h)
            · replace h := Eq.mp (if_neg c17) h
              refine J_iconst (v := (1 : Int32)) hX dX12_spreads_103 (by decide) ?_
              exact J_zret hX hR dX12_spreads_104 bo_1 ⟨_, _, rfl, rfl, h⟩
          refine J_icmp_ne (tgt := 94) hX dX12_spreads_87 (by decide) (fun c13 => ?_) (fun c13 => ?_)
          · refine J_iconst (v := (0 : Int32)) hX dX12_spreads_94 (by decide) ?_
            exact J_sub [2, 3, 4, 5] rfl (hj18 _ (if_neg c13).symm)
          · refine J_iconst (v := (1 : Int32)) hX dX12_spreads_90 (by decide) ?_
            refine J_goto (tgt := 95) hX dX12_spreads_91 (by decide) ?_
            exact J_sub [2, 3, 4, 5] rfl (hj18 _ (if_pos c13).symm)
set_option maxRecDepth 100000 in
theorem t_X12_spreads_l12 {X : XT} {ad : Nat → Nat} {K : Int32 → Mm → Prop} (hX : Cx X cX12_spreads 6 RX12 (rmN 6 157)) (hR : Rx X (some .boolean) (kI ad K) (0, 0)) {k2 : Int32 → Mm → Prop} (x1 : Int32) (x2 : Int32) (hk2 : ∀ (z2 : Int32) (m : Mm), k2 z2 m → J X (0, 0) 2 [(0, .ref (ad 426)), (1, .int x1), (2, .int z2)] [] (fl ad m)) : ∀ (n : Nat) (x3 : Int32) (m : Mm), wp_X12_spreads_l12 k2 K x1 x2 n x3 m → J X (0, 0) 12 [(0, .ref (ad 426)), (1, .int x1), (2, .int x2), (3, .int x3)] [] (fl ad m) := by
  intro n
  induction n with
  | zero => intro x3 m h; exact h.elim
  | succ n ih => intro x3 m h; exact tb_X12_spreads_l12 hX hR x1 x2 ih hk2 x3 m h
set_option maxRecDepth 100000 in
theorem tb_X12_spreads_l2 {X : XT} {ad : Nat → Nat} {K : Int32 → Mm → Prop} (hX : Cx X cX12_spreads 6 RX12 (rmN 6 157)) (hR : Rx X (some .boolean) (kI ad K) (0, 0)) {rec : Int32 → Mm → Prop} (x1 : Int32) (hrec : ∀ (x2 : Int32) (m : Mm), rec x2 m → J X (0, 0) 2 [(0, .ref (ad 426)), (1, .int x1), (2, .int x2)] [] (fl ad m)) (x2 : Int32) (m : Mm) (h : wb_X12_spreads_l2 rec K x1 x2 m) : J X (0, 0) 2 [(0, .ref (ad 426)), (1, .int x1), (2, .int x2)] [] (fl ad m) := by
  unfold wb_X12_spreads_l2 at h
  refine J_iload_n hX dX12_spreads_2 rfl 2 rfl ?_
  refine J_aload_n hX dX12_spreads_3 rfl 0 rfl ?_
  refine J_getI hX kf_RX12_243 dX12_spreads_4 ka_426 (by decide) rfl ?_
  refine J_icmp_ge (tgt := 117) hX dX12_spreads_7 (by decide) (fun c1 => ?_) (fun c1 => ?_)
  · replace h := Eq.mp (if_pos c1) h
    refine J_iconst (v := (0 : Int32)) hX dX12_spreads_117 (by decide) ?_
    exact J_zret hX hR dX12_spreads_118 bo_0 ⟨_, _, rfl, rfl, h⟩
  · replace h := Eq.mp (if_neg c1) h
    refine J_iconst (v := (0 : Int32)) hX dX12_spreads_10 (by decide) ?_
    refine J_istore_n (lv2 := [(3, .int (0 : Int32)), (0, .ref (ad 426)), (1, .int x1), (2, .int x2)]) hX dX12_spreads_11 rfl (Nat.le_of_ble_eq_true rfl) rfl ?_
    refine J_sub [1, 2, 3, 0] rfl (t_X12_spreads_l12 hX hR x1 x2 hrec FU (0 : Int32) m h)
set_option maxRecDepth 100000 in
theorem t_X12_spreads_l2 {X : XT} {ad : Nat → Nat} {K : Int32 → Mm → Prop} (hX : Cx X cX12_spreads 6 RX12 (rmN 6 157)) (hR : Rx X (some .boolean) (kI ad K) (0, 0)) (x1 : Int32) : ∀ (n : Nat) (x2 : Int32) (m : Mm), wp_X12_spreads_l2 K x1 n x2 m → J X (0, 0) 2 [(0, .ref (ad 426)), (1, .int x1), (2, .int x2)] [] (fl ad m) := by
  intro n
  induction n with
  | zero => intro x2 m h; exact h.elim
  | succ n ih => intro x2 m h; exact tb_X12_spreads_l2 hX hR x1 ih x2 m h
set_option maxRecDepth 100000 in
theorem c_X12_spreads {G : GT} {ad : Nat → Nat} (x1 : Int32) (m : Mm) (K : Int32 → Mm → Prop) (h : wp_X12_spreads x1 m K) : Cn G yX12_spreads cX12_spreads 6 (some .boolean) (rmN 6 157) [.ref (ad 426), .int x1] (0, 0) (fl ad m) (kI ad K) := by
  unfold wp_X12_spreads at h
  refine Cn.of pn_RX12 (Nat.le_of_ble_eq_true rfl) (fun X hG hX hR => ?_)
  subst hG
  have hX : Cx X cX12_spreads 6 RX12 (rmN 6 157) := hX
  show J X (0, 0) 0 [(0, .ref (ad 426)), (1, .int x1)] [] (fl ad m)
  refine J_iconst (v := (0 : Int32)) hX dX12_spreads_0 (by decide) ?_
  refine J_istore_n (lv2 := [(2, .int (0 : Int32)), (0, .ref (ad 426)), (1, .int x1)]) hX dX12_spreads_1 rfl (Nat.le_of_ble_eq_true rfl) rfl ?_
  refine J_sub [1, 2, 0] rfl (t_X12_spreads_l2 hX hR x1 FU (0 : Int32) m h)
set_option maxRecDepth 100000 in
theorem tb_X12_spreadImage_l40 {X : XT} {ad : Nat → Nat} {K : Int32 → Mm → Prop} (hX : Cx X cX12_spreadImage 3 RX12 (rmN 7 182)) (hR : Rx X (some .int) (kI ad K) (0, 0)) {rec : Int32 → Mm → Prop} {k66 : Int32 → Mm → Prop} (x1 : Int32) (hrec : ∀ (x2 : Int32) (m : Mm), rec x2 m → J X (0, 0) 40 [(0, .ref (ad 426)), (1, .int x1), (2, .int x2)] [] (fl ad m)) (hk66 : ∀ (z2 : Int32) (m : Mm), k66 z2 m → J X (0, 0) 66 [(0, .ref (ad 426)), (2, .int z2)] [] (fl ad m)) (x2 : Int32) (m : Mm) (h : wb_X12_spreadImage_l40 rec k66 K x1 x2 m) : J X (0, 0) 40 [(0, .ref (ad 426)), (1, .int x1), (2, .int x2)] [] (fl ad m) := by
  unfold wb_X12_spreadImage_l40 at h
  refine J_iload_n hX dX12_spreadImage_40 rfl 2 rfl ?_
  refine J_bipush (v := (10 : Int32)) hX dX12_spreadImage_41 (by decide) ?_
  refine J_icmp_ge (tgt := 66) hX dX12_spreadImage_43 (by decide) (fun c7 => ?_) (fun c7 => ?_)
  · replace h := Eq.mp (if_pos c7) h
    exact J_sub [0, 2] rfl (hk66 x2 m h)
  · replace h := Eq.mp (if_neg c7) h
    refine J_aload_n hX dX12_spreadImage_46 rfl 0 rfl ?_
    refine J_aload_n hX dX12_spreadImage_47 rfl 0 rfl ?_
    refine J_iload_n hX dX12_spreadImage_48 rfl 1 rfl ?_
    refine J_bipush (v := (7 : Int32)) hX dX12_spreadImage_49 (by decide) ?_
    obtain ⟨b8, h⟩ := h
    refine J_callV hX km_X12_of kl_RX12_91 dX12_spreadImage_51 ka_426 (by decide) [.int x1, .int (7 : Int32)] ⟨Nat.le_of_ble_eq_true rfl, Nat.le_of_ble_eq_true rfl⟩ rfl rfl (Nat.le_of_ble_eq_true rfl) (c_X12_of x1 (7 : Int32) m b8) (fun v w2 hk => ?_)
    obtain ⟨rfl, rfl⟩ := hk
    show J X (0, 0) 54 [(0, .ref (ad 426)), (1, .int x1), (2, .int x2)] [.int (v_X12_of x1 (7 : Int32) m), .ref (ad 426)] (fl ad m)
    refine J_callV hX km_X12_spreads kl_RX12_305 dX12_spreadImage_54 ka_426 (by decide) [.int (v_X12_of x1 (7 : Int32) m)] ⟨Nat.le_of_ble_eq_true rfl, Nat.le_of_ble_eq_true rfl⟩ rfl rfl (Nat.le_of_ble_eq_true rfl) (c_X12_spreads (v_X12_of x1 (7 : Int32) m) m _ h) (fun v w2 hk => ?_)
    obtain ⟨y10, m9, rfl, rfl, h⟩ := hk
    show J X (0, 0) 57 [(0, .ref (ad 426)), (1, .int x1), (2, .int x2)] [.int y10] (fl ad m9)
    refine J_if_eq (tgt := 66) hX dX12_spreadImage_57 (by decide) (fun c11 => ?_) (fun c11 => ?_)
    · replace h := Eq.mp (if_pos c11) h
      exact J_sub [0, 2] rfl (hk66 x2 m9 h)
    · replace h := Eq.mp (if_neg c11) h
      refine J_iinc (x := (x2 + (1 : Int32))) (lv2 := [(2, .int (x2 + (1 : Int32))), (0, .ref (ad 426)), (1, .int x1)]) hX dX12_spreadImage_60 2 rfl rfl (Nat.le_of_ble_eq_true rfl) rfl ?_
      refine J_goto (tgt := 40) hX dX12_spreadImage_63 (by decide) ?_
      exact J_sub [1, 2, 0] rfl (hrec (x2 + (1 : Int32)) m9 h)
set_option maxRecDepth 100000 in
theorem t_X12_spreadImage_l40 {X : XT} {ad : Nat → Nat} {K : Int32 → Mm → Prop} (hX : Cx X cX12_spreadImage 3 RX12 (rmN 7 182)) (hR : Rx X (some .int) (kI ad K) (0, 0)) {k66 : Int32 → Mm → Prop} (x1 : Int32) (hk66 : ∀ (z2 : Int32) (m : Mm), k66 z2 m → J X (0, 0) 66 [(0, .ref (ad 426)), (2, .int z2)] [] (fl ad m)) : ∀ (n : Nat) (x2 : Int32) (m : Mm), wp_X12_spreadImage_l40 k66 K x1 n x2 m → J X (0, 0) 40 [(0, .ref (ad 426)), (1, .int x1), (2, .int x2)] [] (fl ad m) := by
  intro n
  induction n with
  | zero => intro x2 m h; exact h.elim
  | succ n ih => intro x2 m h; exact tb_X12_spreadImage_l40 hX hR x1 ih hk66 x2 m h
set_option maxRecDepth 100000 in
theorem c_X12_spreadImage {G : GT} {ad : Nat → Nat} (x1 : Int32) (m : Mm) (K : Int32 → Mm → Prop) (h : wp_X12_spreadImage x1 m K) : Cn G yX12_spreadImage cX12_spreadImage 3 (some .int) (rmN 7 182) [.ref (ad 426), .int x1] (0, 0) (fl ad m) (kI ad K) := by
  unfold wp_X12_spreadImage at h
  refine Cn.of pn_RX12 (Nat.le_of_ble_eq_true rfl) (fun X hG hX hR => ?_)
  subst hG
  have hX : Cx X cX12_spreadImage 3 RX12 (rmN 7 182) := hX
  show J X (0, 0) 0 [(0, .ref (ad 426)), (1, .int x1)] [] (fl ad m)
  refine J_aload_n hX dX12_spreadImage_0 rfl 0 rfl ?_
  refine J_callV hX km_X12_begins kl_RX12_103 dX12_spreadImage_1 ka_426 (by decide) [] ⟨Nat.le_of_ble_eq_true rfl, Nat.le_of_ble_eq_true rfl⟩ rfl rfl (Nat.le_of_ble_eq_true rfl) (c_X12_begins m _ h) (fun v w2 hk => ?_)
  obtain ⟨m1, rfl, rfl, h⟩ := hk
  show J X (0, 0) 4 [(0, .ref (ad 426)), (1, .int x1)] [] (fl ad m1)
  refine J_aload_n hX dX12_spreadImage_4 rfl 0 rfl ?_
  refine J_iload_n hX dX12_spreadImage_5 rfl 1 rfl ?_
  refine J_callV hX km_X12_isPanel kl_RX12_145 dX12_spreadImage_6 ka_426 (by decide) [.int x1] ⟨Nat.le_of_ble_eq_true rfl, Nat.le_of_ble_eq_true rfl⟩ rfl rfl (Nat.le_of_ble_eq_true rfl) (c_X12_isPanel x1 m1) (fun v w2 hk => ?_)
  obtain ⟨rfl, rfl⟩ := hk
  show J X (0, 0) 9 [(0, .ref (ad 426)), (1, .int x1)] [.int (v_X12_isPanel x1 m1)] (fl ad m1)
  refine J_if_ne (tgt := 14) hX dX12_spreadImage_9 (by decide) (fun c2 => ?_) (fun c2 => ?_)
  · replace h := Eq.mp (if_neg c2) h
    refine J_aload_n hX dX12_spreadImage_14 rfl 0 rfl ?_
    refine J_iload_n hX dX12_spreadImage_15 rfl 1 rfl ?_
    refine J_bipush (v := (7 : Int32)) hX dX12_spreadImage_16 (by decide) ?_
    obtain ⟨b3, h⟩ := h
    refine J_callV hX km_X12_of kl_RX12_91 dX12_spreadImage_18 ka_426 (by decide) [.int x1, .int (7 : Int32)] ⟨Nat.le_of_ble_eq_true rfl, Nat.le_of_ble_eq_true rfl⟩ rfl rfl (Nat.le_of_ble_eq_true rfl) (c_X12_of x1 (7 : Int32) m1 b3) (fun v w2 hk => ?_)
    obtain ⟨rfl, rfl⟩ := hk
    show J X (0, 0) 21 [(0, .ref (ad 426)), (1, .int x1)] [.int (v_X12_of x1 (7 : Int32) m1)] (fl ad m1)
    refine J_bipush (v := (-9 : Int32)) hX dX12_spreadImage_21 (by decide) ?_
    refine J_icmp_ne (tgt := 29) hX dX12_spreadImage_23 (by decide) (fun c4 => ?_) (fun c4 => ?_)
    · replace h := Eq.mp (if_neg c4) h
      refine J_aload_n hX dX12_spreadImage_29 rfl 0 rfl ?_
      refine J_aload_n hX dX12_spreadImage_30 rfl 0 rfl ?_
      refine J_iconst (v := (0 : Int32)) hX dX12_spreadImage_31 (by decide) ?_
      obtain ⟨b5, h⟩ := h
      refine J_callV hX km_X12_limitOf kl_RX12_293 dX12_spreadImage_32 ka_426 (by decide) [.int (0 : Int32)] ⟨Nat.le_of_ble_eq_true rfl, Nat.le_of_ble_eq_true rfl⟩ rfl rfl (Nat.le_of_ble_eq_true rfl) (c_X12_limitOf (0 : Int32) m1 b5) (fun v w2 hk => ?_)
      obtain ⟨rfl, rfl⟩ := hk
      show J X (0, 0) 35 [(0, .ref (ad 426)), (1, .int x1)] [.int (v_X12_limitOf (0 : Int32) m1), .ref (ad 426)] (fl ad m1)
      refine J_callV hX km_X12_findSeams kl_RX12_296 dX12_spreadImage_35 ka_426 (by decide) [.int (v_X12_limitOf (0 : Int32) m1)] ⟨Nat.le_of_ble_eq_true rfl, Nat.le_of_ble_eq_true rfl⟩ rfl rfl (Nat.le_of_ble_eq_true rfl) (c_X12_findSeams (v_X12_limitOf (0 : Int32) m1) m1 _ h) (fun v w2 hk => ?_)
      obtain ⟨m6, rfl, rfl, h⟩ := hk
      show J X (0, 0) 38 [(0, .ref (ad 426)), (1, .int x1)] [] (fl ad m6)
      refine J_iconst (v := (0 : Int32)) hX dX12_spreadImage_38 (by decide) ?_
      refine J_istore_n (lv2 := [(2, .int (0 : Int32)), (0, .ref (ad 426)), (1, .int x1)]) hX dX12_spreadImage_39 rfl (Nat.le_of_ble_eq_true rfl) rfl ?_
      refine J_sub [1, 2, 0] rfl (t_X12_spreadImage_l40 hX hR x1 (fun y12 m13 h => ?_) FU (0 : Int32) m6 h)
      refine J_aload_n hX dX12_spreadImage_66 rfl 0 rfl ?_
      refine J_iload_n hX dX12_spreadImage_67 rfl 1 rfl ?_
      refine J_callV hX km_X12_ends kl_RX12_106 dX12_spreadImage_68 ka_426 (by decide) [.int y12] ⟨Nat.le_of_ble_eq_true rfl, Nat.le_of_ble_eq_true rfl⟩ rfl rfl (Nat.le_of_ble_eq_true rfl) (c_X12_ends y12 m13 _ h) (fun v w2 hk => ?_)
      obtain ⟨y15, m14, rfl, rfl, h⟩ := hk
      show J X (0, 0) 71 [(0, .ref (ad 426)), (2, .int y12)] [.int y15] (fl ad m14)
      exact J_iret hX hR dX12_spreadImage_71 ⟨_, _, rfl, rfl, h⟩
    · replace h := Eq.mp (if_pos c4) h
      refine J_bipush (v := (-2 : Int32)) hX dX12_spreadImage_26 (by decide) ?_
      exact J_iret hX hR dX12_spreadImage_28 ⟨_, _, rfl, rfl, h⟩
  · replace h := Eq.mp (if_pos c2) h
    refine J_iconst (v := (-1 : Int32)) hX dX12_spreadImage_12 (by decide) ?_
    exact J_iret hX hR dX12_spreadImage_13 ⟨_, _, rfl, rfl, h⟩
set_option maxRecDepth 100000 in
theorem c_X12_totalCost {G : GT} {ad : Nat → Nat} (m : Mm) (K : Int64 → Mm → Prop) (h : wp_X12_totalCost m K) : Cn G yX12_totalCost cX12_totalCost 1 (some .long) (rmN 10 237) [.ref (ad 426)] (0, 0) (fl ad m) (kL ad K) := by
  unfold wp_X12_totalCost at h
  refine Cn.of pn_RX12 (Nat.le_of_ble_eq_true rfl) (fun X hG hX hR => ?_)
  subst hG
  have hX : Cx X cX12_totalCost 1 RX12 (rmN 10 237) := hX
  show J X (0, 0) 0 [(0, .ref (ad 426))] [] (fl ad m)
  refine J_aload_n hX dX12_totalCost_0 rfl 0 rfl ?_
  refine J_bipush (v := (-9 : Int32)) hX dX12_totalCost_1 (by decide) ?_
  refine J_callV hX km_X12_costs kl_RX12_350 dX12_totalCost_3 ka_426 (by decide) [.int (-9 : Int32)] ⟨Nat.le_of_ble_eq_true rfl, Nat.le_of_ble_eq_true rfl⟩ rfl rfl (Nat.le_of_ble_eq_true rfl) (c_X12_costs (-9 : Int32) m _ h) (fun v w2 hk => ?_)
  obtain ⟨y2, m1, rfl, rfl, h⟩ := hk
  show J X (0, 0) 6 [(0, .ref (ad 426))] [.long y2] (fl ad m1)
  exact J_lret hX hR dX12_totalCost_6 ⟨_, _, rfl, rfl, h⟩
set_option maxRecDepth 100000 in
theorem c_X12_type {G : GT} {ad : Nat → Nat} (x1 : Int32) (m : Mm) (K : Int32 → Mm → Prop) (h : wp_X12_type x1 m K) : Cn G yX12_type cX12_type 2 (some .int) (rmN 1 22) [.ref (ad 426), .int x1] (0, 0) (fl ad m) (kI ad K) := by
  unfold wp_X12_type at h
  refine Cn.of pn_RX12 (Nat.le_of_ble_eq_true rfl) (fun X hG hX hR => ?_)
  subst hG
  have hX : Cx X cX12_type 2 RX12 (rmN 1 22) := hX
  show J X (0, 0) 0 [(0, .ref (ad 426)), (1, .int x1)] [] (fl ad m)
  refine J_iload_n hX dX12_type_0 rfl 1 rfl ?_
  refine J_iconst (v := (0 : Int32)) hX dX12_type_1 (by decide) ?_
  refine J_bipush (v := (127 : Int32)) hX dX12_type_2 (by decide) ?_
  refine J_callS hX km_X12_in kl_RX12_87 dX12_type_4 [.int x1, .int (0 : Int32), .int (127 : Int32)] ⟨Nat.le_of_ble_eq_true rfl, Nat.le_of_ble_eq_true rfl⟩ rfl rfl (Nat.le_of_ble_eq_true rfl) (c_X12_in x1 (0 : Int32) (127 : Int32) m) (fun v w2 hk => ?_)
  obtain ⟨rfl, rfl⟩ := hk
  show J X (0, 0) 7 [(0, .ref (ad 426)), (1, .int x1)] [.int (v_X12_in x1 (0 : Int32) (127 : Int32))] (fl ad m)
  refine J_if_ne (tgt := 12) hX dX12_type_7 (by decide) (fun c1 => ?_) (fun c1 => ?_)
  · replace h := Eq.mp (if_neg c1) h
    refine J_aload_n hX dX12_type_12 rfl 0 rfl ?_
    refine J_getI hX kf_RX12_173 dX12_type_13 ka_426 (by decide) rfl ?_
    refine J_sipush (v := (160 : Int32)) hX dX12_type_16 (by decide) ?_
    refine J_icmp_ne (tgt := 25) hX dX12_type_19 (by decide) (fun c2 => ?_) (fun c2 => ?_)
    · replace h := Eq.mp (if_neg c2) h
      refine J_aload_n hX dX12_type_25 rfl 0 rfl ?_
      refine J_getR hX kf_RX12_38 dX12_type_26 ka_426 (by decide) rfl rh_426_11 ?_
      refine J_aload_n hX dX12_type_29 rfl 0 rfl ?_
      refine J_getI hX kf_RX12_173 dX12_type_30 ka_426 (by decide) rfl ?_
      refine J_iload_n hX dX12_type_33 rfl 1 rfl ?_
      obtain ⟨b3, h⟩ := h
      refine J_iast (j := (m.1 426 12).toNatClampNeg) hX dX12_type_34 ka_436 le_436 b3 rfl ?_
      refine J_nmM (fun m4 e_m4 => ?_)
      replace h := h m4 e_m4
      refine J_aload_n hX dX12_type_35 rfl 0 rfl ?_
      refine J_dup hX dX12_type_36 rfl ?_
      refine J_getI hX kf_RX12_173 dX12_type_37 ka_426 (by decide) rfl ?_
      refine J_iconst (v := (1 : Int32)) hX dX12_type_40 (by decide) ?_
      refine J_iadd hX dX12_type_41 ?_
      refine J_putI hX kf_RX12_173 dX12_type_42 ka_426 (by decide) rfl ?_
      refine J_nmM (fun m5 e_m5 => ?_)
      replace h := h m5 e_m5
      refine J_aload_n hX dX12_type_45 rfl 0 rfl ?_
      refine J_getI hX kf_RX12_173 dX12_type_46 ka_426 (by decide) rfl ?_
      exact J_iret hX hR dX12_type_49 ⟨_, _, rfl, rfl, h⟩
    · replace h := Eq.mp (if_pos c2) h
      refine J_bipush (v := (-3 : Int32)) hX dX12_type_22 (by decide) ?_
      exact J_iret hX hR dX12_type_24 ⟨_, _, rfl, rfl, h⟩
  · replace h := Eq.mp (if_pos c1) h
    refine J_iconst (v := (-1 : Int32)) hX dX12_type_10 (by decide) ?_
    exact J_iret hX hR dX12_type_11 ⟨_, _, rfl, rfl, h⟩
set_option maxRecDepth 100000 in
theorem tb_X12_undo_l22 {X : XT} {ad : Nat → Nat} {K : Int32 → Mm → Prop} (hX : Cx X cX12_undo 2 RX12 (rmN 0 0)) (hR : Rx X (some .int) (kI ad K) (0, 0)) {rec : Int32 → Mm → Prop} {k56 : Mm → Prop} (hrec : ∀ (x1 : Int32) (m : Mm), rec x1 m → J X (0, 0) 22 [(0, .ref (ad 426)), (1, .int x1)] [] (fl ad m)) (hk56 : ∀ (m : Mm), k56 m → J X (0, 0) 56 [(0, .ref (ad 426))] [] (fl ad m)) (x1 : Int32) (m : Mm) (h : wb_X12_undo_l22 rec k56 K x1 m) : J X (0, 0) 22 [(0, .ref (ad 426)), (1, .int x1)] [] (fl ad m) := by
  unfold wb_X12_undo_l22 at h
  refine J_iload_n hX dX12_undo_22 rfl 1 rfl ?_
  refine J_sipush (v := (137 : Int32)) hX dX12_undo_23 (by decide) ?_
  refine J_icmp_ge (tgt := 56) hX dX12_undo_26 (by decide) (fun c3 => ?_) (fun c3 => ?_)
  · replace h := Eq.mp (if_pos c3) h
    exact J_sub [0] rfl (hk56 m h)
  · replace h := Eq.mp (if_neg c3) h
    refine J_aload_n hX dX12_undo_29 rfl 0 rfl ?_
    refine J_getR hX kf_RX12_7 dX12_undo_30 ka_426 (by decide) rfl rh_426_0 ?_
    refine J_iload_n hX dX12_undo_33 rfl 1 rfl ?_
    refine J_aload_n hX dX12_undo_34 rfl 0 rfl ?_
    refine J_getR hX kf_RX12_16 dX12_undo_35 ka_426 (by decide) rfl rh_426_3 ?_
    refine J_sipush (v := (137 : Int32)) hX dX12_undo_38 (by decide) ?_
    refine J_aload_n hX dX12_undo_41 rfl 0 rfl ?_
    refine J_getI hX kf_RX12_99 dX12_undo_42 ka_426 (by decide) rfl ?_
    refine J_imul hX dX12_undo_45 ?_
    refine J_iload_n hX dX12_undo_46 rfl 1 rfl ?_
    refine J_iadd hX dX12_undo_47 ?_
    obtain ⟨b4, h⟩ := h
    refine J_iald (j := (((137 : Int32) * (m.1 426 4)) + x1).toNatClampNeg) hX dX12_undo_48 ka_429 le_429 b4 rfl ?_
    obtain ⟨b5, h⟩ := h
    refine J_iast (j := x1.toNatClampNeg) hX dX12_undo_49 ka_427 le_427 b5 rfl ?_
    refine J_nmM (fun m6 e_m6 => ?_)
    replace h := h m6 e_m6
    refine J_iinc (x := (x1 + (1 : Int32))) (lv2 := [(1, .int (x1 + (1 : Int32))), (0, .ref (ad 426))]) hX dX12_undo_50 1 rfl rfl (Nat.le_of_ble_eq_true rfl) rfl ?_
    refine J_goto (tgt := 22) hX dX12_undo_53 (by decide) ?_
    exact J_sub [1, 0] rfl (hrec (x1 + (1 : Int32)) m6 h)
set_option maxRecDepth 100000 in
theorem t_X12_undo_l22 {X : XT} {ad : Nat → Nat} {K : Int32 → Mm → Prop} (hX : Cx X cX12_undo 2 RX12 (rmN 0 0)) (hR : Rx X (some .int) (kI ad K) (0, 0)) {k56 : Mm → Prop} (hk56 : ∀ (m : Mm), k56 m → J X (0, 0) 56 [(0, .ref (ad 426))] [] (fl ad m)) : ∀ (n : Nat) (x1 : Int32) (m : Mm), wp_X12_undo_l22 k56 K n x1 m → J X (0, 0) 22 [(0, .ref (ad 426)), (1, .int x1)] [] (fl ad m) := by
  intro n
  induction n with
  | zero => intro x1 m h; exact h.elim
  | succ n ih => intro x1 m h; exact tb_X12_undo_l22 hX hR ih hk56 x1 m h
set_option maxRecDepth 100000 in
theorem c_X12_undo {G : GT} {ad : Nat → Nat} (m : Mm) (K : Int32 → Mm → Prop) (h : wp_X12_undo m K) : Cn G yX12_undo cX12_undo 2 (some .int) (rmN 0 0) [.ref (ad 426)] (0, 0) (fl ad m) (kI ad K) := by
  unfold wp_X12_undo at h
  refine Cn.of pn_RX12 (Nat.le_of_ble_eq_true rfl) (fun X hG hX hR => ?_)
  subst hG
  have hX : Cx X cX12_undo 2 RX12 (rmN 0 0) := hX
  show J X (0, 0) 0 [(0, .ref (ad 426))] [] (fl ad m)
  refine J_aload_n hX dX12_undo_0 rfl 0 rfl ?_
  refine J_getI hX kf_RX12_99 dX12_undo_1 ka_426 (by decide) rfl ?_
  refine J_if_ne (tgt := 10) hX dX12_undo_4 (by decide) (fun c1 => ?_) (fun c1 => ?_)
  · replace h := Eq.mp (if_neg c1) h
    refine J_aload_n hX dX12_undo_10 rfl 0 rfl ?_
    refine J_dup hX dX12_undo_11 rfl ?_
    refine J_getI hX kf_RX12_99 dX12_undo_12 ka_426 (by decide) rfl ?_
    refine J_iconst (v := (1 : Int32)) hX dX12_undo_15 (by decide) ?_
    refine J_isub hX dX12_undo_16 ?_
    refine J_putI hX kf_RX12_99 dX12_undo_17 ka_426 (by decide) rfl ?_
    refine J_nmM (fun m2 e_m2 => ?_)
    replace h := h m2 e_m2
    refine J_iconst (v := (0 : Int32)) hX dX12_undo_20 (by decide) ?_
    refine J_istore_n (lv2 := [(1, .int (0 : Int32)), (0, .ref (ad 426))]) hX dX12_undo_21 rfl (Nat.le_of_ble_eq_true rfl) rfl ?_
    refine J_sub [1, 0] rfl (t_X12_undo_l22 hX hR (fun m7 h => ?_) FU (0 : Int32) m2 h)
    refine J_aload_n hX dX12_undo_56 rfl 0 rfl ?_
    refine J_getI hX kf_RX12_99 dX12_undo_57 ka_426 (by decide) rfl ?_
    exact J_iret hX hR dX12_undo_60 ⟨_, _, rfl, rfl, h⟩
  · replace h := Eq.mp (if_pos c1) h
    refine J_bipush (v := (-2 : Int32)) hX dX12_undo_7 (by decide) ?_
    exact J_iret hX hR dX12_undo_9 ⟨_, _, rfl, rfl, h⟩
set_option maxRecDepth 100000 in
theorem tb_X12_volume_l27 {X : XT} {ad : Nat → Nat} {K : Int64 → Mm → Prop} (hX : Cx X cX12_volume 5 RX12 (rmN 5 127)) (hR : Rx X (some .long) (kL ad K) (0, 0)) {rec : Int64 → Int32 → Mm → Prop} {k101 : Int64 → Mm → Prop} (hrec : ∀ (x1 : Int64) (x3 : Int32) (m : Mm), rec x1 x3 m → J X (0, 0) 27 [(0, .ref (ad 426)), (1, .long x1), (3, .int x3)] [] (fl ad m)) (hk101 : ∀ (z1 : Int64) (m : Mm), k101 z1 m → J X (0, 0) 101 [(1, .long z1)] [] (fl ad m)) (x1 : Int64) (x3 : Int32) (m : Mm) (h : wb_X12_volume_l27 rec k101 K x1 x3 m) : J X (0, 0) 27 [(0, .ref (ad 426)), (1, .long x1), (3, .int x3)] [] (fl ad m) := by
  unfold wb_X12_volume_l27 at h
  refine J_iload_n hX dX12_volume_27 rfl 2 rfl ?_
  refine J_aload_n hX dX12_volume_28 rfl 0 rfl ?_
  refine J_callV hX km_X12_many kl_RX12_83 dX12_volume_29 ka_426 (by decide) [] ⟨Nat.le_of_ble_eq_true rfl, Nat.le_of_ble_eq_true rfl⟩ rfl rfl (Nat.le_of_ble_eq_true rfl) (c_X12_many m) (fun v w2 hk => ?_)
  obtain ⟨rfl, rfl⟩ := hk
  show J X (0, 0) 32 [(0, .ref (ad 426)), (1, .long x1), (3, .int x3)] [.int (v_X12_many m), .int x3] (fl ad m)
  refine J_icmp_ge (tgt := 101) hX dX12_volume_32 (by decide) (fun c6 => ?_) (fun c6 => ?_)
  · replace h := Eq.mp (if_pos c6) h
    exact J_sub [1] rfl (hk101 x1 m h)
  · replace h := Eq.mp (if_neg c6) h
    refine J_iconst (v := (3 : Int32)) hX dX12_volume_35 (by decide) ?_
    refine J_iload_n hX dX12_volume_36 rfl 2 rfl ?_
    refine J_imul hX dX12_volume_37 ?_
    refine J_aload_n hX dX12_volume_38 rfl 0 rfl ?_
    refine J_getR hX kf_RX12_65 dX12_volume_39 ka_426 (by decide) rfl rh_426_23 ?_
    refine J_iload_n hX dX12_volume_42 rfl 2 rfl ?_
    obtain ⟨b7, h⟩ := h
    refine J_iald (j := x3.toNatClampNeg) hX dX12_volume_43 ka_445 le_445 b7 rfl ?_
    refine J_iadd hX dX12_volume_44 ?_
    refine J_nmI (fun y8 e_y8 => ?_)
    replace h := h y8 e_y8
    refine J_istore (lv2 := [(4, .int y8), (0, .ref (ad 426)), (1, .long x1), (3, .int x3)]) hX dX12_volume_45 (Nat.le_of_ble_eq_true rfl) rfl ?_
    refine J_lload_n hX dX12_volume_47 rfl 2 rfl ?_
    refine J_aload_n hX dX12_volume_48 rfl 1 rfl ?_
    refine J_iload_n hX dX12_volume_49 rfl 3 rfl ?_
    obtain ⟨b9, h⟩ := h
    refine J_callV hX km_X12_isFlap kl_RX12_302 dX12_volume_50 ka_426 (by decide) [.int x3] ⟨Nat.le_of_ble_eq_true rfl, Nat.le_of_ble_eq_true rfl⟩ rfl rfl (Nat.le_of_ble_eq_true rfl) (c_X12_isFlap x3 m b9) (fun v w2 hk => ?_)
    obtain ⟨rfl, rfl⟩ := hk
    show J X (0, 0) 53 [(4, .int y8), (0, .ref (ad 426)), (1, .long x1), (3, .int x3)] [.int (v_X12_isFlap x3 m), .long x1] (fl ad m)
    obtain ⟨g12, h⟩ := h
    have hj15 : ∀ y13 : Int64, y13 = (if (v_X12_isFlap x3 m) = (0 : Int32) then ((((m.1 434 x3.toNatClampNeg).toInt64 * (m.1 435 x3.toNatClampNeg).toInt64) * (m.1 443 y8.toNatClampNeg).toInt64) * (m.1 442 y8.toNatClampNeg).toInt64) else (0 : Int64)) → J X (0, 0) 93 [(0, .ref (ad 426)), (3, .int x3)] [.long y13, .long x1] (fl ad m) := by
      intro y13 e_y13
      replace h := h y13 e_y13
      refine J_ladd hX dX12_volume_93 ?_
      refine J_nmL (fun y14 e_y14 => ?_)
      replace h := h y14 e_y14
      refine J_lstore_n (lv2 := [(1, .long y14), (0, .ref (ad 426)), (3, .int x3)]) hX dX12_volume_94 rfl (Nat.le_of_ble_eq_true rfl) rfl ?_
      refine J_iinc (x := (x3 + (1 : Int32))) (lv2 := [(3, .int (x3 + (1 : Int32))), (1, .long y14), (0, .ref (ad 426))]) hX dX12_volume_95 2 rfl rfl (Nat.le_of_ble_eq_true rfl) rfl ?_
      refine J_goto (tgt := 27) hX dX12_volume_98 (by decide) ?_
      exact J_sub [2, 1, 0] rfl (hrec y14 (x3 + (1 : Int32)) m h)
    have g16 := g12
    refine J_if_eq (tgt := 60) hX dX12_volume_53 (by decide) (fun c10 => ?_) (fun c10 => ?_)
    · have g17 := g16 c10
      have b11 := g17
      refine J_aload_n hX dX12_volume_60 rfl 1 rfl ?_
      refine J_getR hX kf_RX12_32 dX12_volume_61 ka_426 (by decide) rfl rh_426_9 ?_
      refine J_iload_n hX dX12_volume_64 rfl 3 rfl ?_
      refine J_iald (j := x3.toNatClampNeg) hX dX12_volume_65 ka_434 le_434 b7 rfl ?_
      refine J_i2l hX dX12_volume_66 ?_
      refine J_aload_n hX dX12_volume_67 rfl 1 rfl ?_
      refine J_getR hX kf_RX12_35 dX12_volume_68 ka_426 (by decide) rfl rh_426_10 ?_
      refine J_iload_n hX dX12_volume_71 rfl 3 rfl ?_
      refine J_iald (j := x3.toNatClampNeg) hX dX12_volume_72 ka_435 le_435 b7 rfl ?_
      refine J_i2l hX dX12_volume_73 ?_
      refine J_lmul hX dX12_volume_74 ?_
      refine J_aload_n hX dX12_volume_75 rfl 1 rfl ?_
      refine J_getR hX kf_RX12_59 dX12_volume_76 ka_426 (by decide) rfl rh_426_21 ?_
      refine J_iload hX dX12_volume_79 0 rfl ?_
      refine J_iald (j := y8.toNatClampNeg) hX dX12_volume_81 ka_443 le_443 b11 rfl ?_
      refine J_i2l hX dX12_volume_82 ?_
      refine J_lmul hX dX12_volume_83 ?_
      refine J_aload_n hX dX12_volume_84 rfl 1 rfl ?_
      refine J_getR hX kf_RX12_56 dX12_volume_85 ka_426 (by decide) rfl rh_426_20 ?_
      refine J_iload hX dX12_volume_88 0 rfl ?_
      refine J_iald (j := y8.toNatClampNeg) hX dX12_volume_90 ka_442 le_442 b11 rfl ?_
      refine J_i2l hX dX12_volume_91 ?_
      refine J_lmul hX dX12_volume_92 ?_
      exact J_sub [1, 3] rfl (hj15 _ (if_pos c10).symm)
    · refine J_lconst (v := (0 : Int64)) hX dX12_volume_56 (by decide) ?_
      refine J_goto (tgt := 93) hX dX12_volume_57 (by decide) ?_
      exact J_sub [1, 3] rfl (hj15 _ (if_neg c10).symm)
set_option maxRecDepth 100000 in
theorem t_X12_volume_l27 {X : XT} {ad : Nat → Nat} {K : Int64 → Mm → Prop} (hX : Cx X cX12_volume 5 RX12 (rmN 5 127)) (hR : Rx X (some .long) (kL ad K) (0, 0)) {k101 : Int64 → Mm → Prop} (hk101 : ∀ (z1 : Int64) (m : Mm), k101 z1 m → J X (0, 0) 101 [(1, .long z1)] [] (fl ad m)) : ∀ (n : Nat) (x1 : Int64) (x3 : Int32) (m : Mm), wp_X12_volume_l27 k101 K n x1 x3 m → J X (0, 0) 27 [(0, .ref (ad 426)), (1, .long x1), (3, .int x3)] [] (fl ad m) := by
  intro n
  induction n with
  | zero => intro x1 x3 m h; exact h.elim
  | succ n ih => intro x1 x3 m h; exact tb_X12_volume_l27 hX hR ih hk101 x1 x3 m h
set_option maxRecDepth 100000 in
theorem c_X12_volume {G : GT} {ad : Nat → Nat} (m : Mm) (K : Int64 → Mm → Prop) (h : wp_X12_volume m K) : Cn G yX12_volume cX12_volume 5 (some .long) (rmN 5 127) [.ref (ad 426)] (0, 0) (fl ad m) (kL ad K) := by
  unfold wp_X12_volume at h
  refine Cn.of pn_RX12 (Nat.le_of_ble_eq_true rfl) (fun X hG hX hR => ?_)
  subst hG
  have hX : Cx X cX12_volume 5 RX12 (rmN 5 127) := hX
  show J X (0, 0) 0 [(0, .ref (ad 426))] [] (fl ad m)
  refine J_aload_n hX dX12_volume_0 rfl 0 rfl ?_
  refine J_callV hX km_X12_many kl_RX12_83 dX12_volume_1 ka_426 (by decide) [] ⟨Nat.le_of_ble_eq_true rfl, Nat.le_of_ble_eq_true rfl⟩ rfl rfl (Nat.le_of_ble_eq_true rfl) (c_X12_many m) (fun v w2 hk => ?_)
  obtain ⟨rfl, rfl⟩ := hk
  show J X (0, 0) 4 [(0, .ref (ad 426))] [.int (v_X12_many m)] (fl ad m)
  refine J_if_eq (tgt := 19) hX dX12_volume_4 (by decide) (fun c1 => ?_) (fun c1 => ?_)
  · replace h := Eq.mp (if_pos c1) h
    refine J_ldc2 hX kc_RX12_397 dX12_volume_19 ?_
    exact J_lret hX hR dX12_volume_22 ⟨_, _, rfl, rfl, h⟩
  · replace h := Eq.mp (if_neg c1) h
    refine J_aload_n hX dX12_volume_7 rfl 0 rfl ?_
    refine J_aload_n hX dX12_volume_8 rfl 0 rfl ?_
    refine J_iconst (v := (0 : Int32)) hX dX12_volume_9 (by decide) ?_
    obtain ⟨b2, h⟩ := h
    refine J_callV hX km_X12_limitOf kl_RX12_293 dX12_volume_10 ka_426 (by decide) [.int (0 : Int32)] ⟨Nat.le_of_ble_eq_true rfl, Nat.le_of_ble_eq_true rfl⟩ rfl rfl (Nat.le_of_ble_eq_true rfl) (c_X12_limitOf (0 : Int32) m b2) (fun v w2 hk => ?_)
    obtain ⟨rfl, rfl⟩ := hk
    show J X (0, 0) 13 [(0, .ref (ad 426))] [.int (v_X12_limitOf (0 : Int32) m), .ref (ad 426)] (fl ad m)
    refine J_callV hX km_X12_isShut kl_RX12_394 dX12_volume_13 ka_426 (by decide) [.int (v_X12_limitOf (0 : Int32) m)] ⟨Nat.le_of_ble_eq_true rfl, Nat.le_of_ble_eq_true rfl⟩ rfl rfl (Nat.le_of_ble_eq_true rfl) (c_X12_isShut (v_X12_limitOf (0 : Int32) m) m _ h) (fun v w2 hk => ?_)
    obtain ⟨y4, m3, rfl, rfl, h⟩ := hk
    show J X (0, 0) 16 [(0, .ref (ad 426))] [.int y4] (fl ad m3)
    refine J_if_ne (tgt := 23) hX dX12_volume_16 (by decide) (fun c5 => ?_) (fun c5 => ?_)
    · replace h := Eq.mp (if_neg c5) h
      refine J_lconst (v := (0 : Int64)) hX dX12_volume_23 (by decide) ?_
      refine J_lstore_n (lv2 := [(1, .long (0 : Int64)), (0, .ref (ad 426))]) hX dX12_volume_24 rfl (Nat.le_of_ble_eq_true rfl) rfl ?_
      refine J_iconst (v := (0 : Int32)) hX dX12_volume_25 (by decide) ?_
      refine J_istore_n (lv2 := [(3, .int (0 : Int32)), (1, .long (0 : Int64)), (0, .ref (ad 426))]) hX dX12_volume_26 rfl (Nat.le_of_ble_eq_true rfl) rfl ?_
      refine J_sub [2, 1, 0] rfl (t_X12_volume_l27 hX hR (fun y18 m19 h => ?_) FU (0 : Int64) (0 : Int32) m3 h)
      refine J_lload_n hX dX12_volume_101 rfl 0 rfl ?_
      refine J_lconst (v := (0 : Int64)) hX dX12_volume_102 (by decide) ?_
      refine J_lcmp hX dX12_volume_103 ?_
      have hj22 : ∀ y21 : Int64, y21 = (if (0 : Int32) ≤ (lg_cmp y18 (0 : Int64)) then y18 else (-y18)) → J X (0, 0) 113 [] [.long y21] (fl ad m19) := by
        intro y21 e_y21
        replace h := h y21 e_y21
        refine J_ldc2 hX kc_RX12_399 dX12_volume_113 ?_
        refine J_ldiv hX dX12_volume_116 (by decide) ?_
        exact J_lret hX hR dX12_volume_117 ⟨_, _, rfl, rfl, h⟩
      refine J_if_ge (tgt := 112) hX dX12_volume_104 (by decide) (fun c20 => ?_) (fun c20 => ?_)
      · refine J_lload_n hX dX12_volume_112 rfl 0 rfl ?_
        exact J_sub [] rfl (hj22 _ (if_pos c20).symm)
      · refine J_lload_n hX dX12_volume_107 rfl 0 rfl ?_
        refine J_lneg hX dX12_volume_108 ?_
        refine J_goto (tgt := 113) hX dX12_volume_109 (by decide) ?_
        exact J_sub [] rfl (hj22 _ (if_neg c20).symm)
    · replace h := Eq.mp (if_pos c5) h
      refine J_ldc2 hX kc_RX12_397 dX12_volume_19 ?_
      exact J_lret hX hR dX12_volume_22 ⟨_, _, rfl, rfl, h⟩
