set_option maxRecDepth 100000 in
theorem tb_X4_isClosed_l2 {X : XT} {ad : Nat → Nat} {K : Int32 → Mm → Prop} (hX : Cx X cX4_isClosed 4 RX4 (rmN 4 96)) (hR : Rx X (some .boolean) (kI ad K) (0, 0)) {rec : Int32 → Mm → Prop} {k47 : Mm → Prop} (a1 : Nat) (h1 : kap a1 = 3) (x2 : Int32) (hrec : ∀ (x3 : Int32) (m : Mm), rec x3 m → J X (0, 0) 2 [(0, .ref (ad 264)), (1, .ref (ad a1)), (2, .int x2), (3, .int x3)] [] (fl ad m)) (hk47 : ∀ (m : Mm), k47 m → J X (0, 0) 47 [(0, .ref (ad 264)), (1, .ref (ad a1)), (2, .int x2)] [] (fl ad m)) (x3 : Int32) (m : Mm) (h : wb_X4_isClosed_l2 rec k47 K a1 x2 x3 m) : J X (0, 0) 2 [(0, .ref (ad 264)), (1, .ref (ad a1)), (2, .int x2), (3, .int x3)] [] (fl ad m) := by
  unfold wb_X4_isClosed_l2 at h
  refine J_iload_n hX dX4_isClosed_2 rfl 3 rfl ?_
  refine J_aload_n hX dX4_isClosed_3 rfl 1 rfl ?_
  refine J_getI hX kf_RX4_67 dX4_isClosed_4 h1 (by decide) rfl ?_
  refine J_icmp_ge (tgt := 47) hX dX4_isClosed_7 (by decide) (fun c1 => ?_) (fun c1 => ?_)
  · replace h := Eq.mp (if_pos c1) h
    exact J_sub [0, 1, 2] rfl (hk47 m h)
  · replace h := Eq.mp (if_neg c1) h
    refine J_aload_n hX dX4_isClosed_10 rfl 1 rfl ?_
    refine J_iload_n hX dX4_isClosed_11 rfl 3 rfl ?_
    refine J_callV hX km_X3_panelAt kl_RX4_72 dX4_isClosed_12 h1 (by decide) [.int x3] ⟨Nat.le_of_ble_eq_true rfl, Nat.le_of_ble_eq_true rfl⟩ rfl rfl (Nat.le_of_ble_eq_true rfl) (c_X3_panelAt a1 h1 x3 m) (fun v w2 hk => ?_)
    obtain ⟨rfl, rfl⟩ := hk
    show J X (0, 0) 15 [(0, .ref (ad 264)), (1, .ref (ad a1)), (2, .int x2), (3, .int x3)] [.ref (ad (v_X3_panelAt a1 x3))] (fl ad m)
    refine J_callV hX km_X7_isFlap kl_RX4_76 dX4_isClosed_15 (kv_X3_panelAt h1) (by decide) [] ⟨Nat.le_of_ble_eq_true rfl, Nat.le_of_ble_eq_true rfl⟩ rfl rfl (Nat.le_of_ble_eq_true rfl) (c_X7_isFlap (v_X3_panelAt a1 x3) (kv_X3_panelAt h1) m) (fun v w2 hk => ?_)
    obtain ⟨rfl, rfl⟩ := hk
    show J X (0, 0) 18 [(0, .ref (ad 264)), (1, .ref (ad a1)), (2, .int x2), (3, .int x3)] [.int (v_X7_isFlap (v_X3_panelAt a1 x3) m)] (fl ad m)
    refine J_if_eq (tgt := 41) hX dX4_isClosed_18 (by decide) (fun c2 => ?_) (fun c2 => ?_)
    · replace h := Eq.mp (if_pos c2) h
      refine J_iinc (x := (x3 + (1 : Int32))) (lv2 := [(3, .int (x3 + (1 : Int32))), (0, .ref (ad 264)), (1, .ref (ad a1)), (2, .int x2)]) hX dX4_isClosed_41 3 rfl rfl (Nat.le_of_ble_eq_true rfl) rfl ?_
      refine J_goto (tgt := 2) hX dX4_isClosed_44 (by decide) ?_
      exact J_sub [1, 2, 3, 0] rfl (hrec (x3 + (1 : Int32)) m h)
    · replace h := Eq.mp (if_neg c2) h
      refine J_aload_n hX dX4_isClosed_21 rfl 0 rfl ?_
      refine J_getR hX kf_RX4_44 dX4_isClosed_22 ka_264 (by decide) rfl rh_264_6 ?_
      refine J_aload_n hX dX4_isClosed_25 rfl 1 rfl ?_
      refine J_iload_n hX dX4_isClosed_26 rfl 3 rfl ?_
      refine J_iload_n hX dX4_isClosed_27 rfl 2 rfl ?_
      refine J_callV hX km_X5_covered kl_RX4_121 dX4_isClosed_28 ka_269 (by decide) [.ref (ad a1), .int x3, .int x2] ⟨Nat.le_of_ble_eq_true rfl, Nat.le_of_ble_eq_true rfl⟩ rfl rfl (Nat.le_of_ble_eq_true rfl) (c_X5_covered a1 h1 x3 x2 m) (fun v w2 hk => ?_)
      obtain ⟨rfl, rfl⟩ := hk
      show J X (0, 0) 31 [(0, .ref (ad 264)), (1, .ref (ad a1)), (2, .int x2), (3, .int x3)] [.int (v_X5_covered a1 x3 x2 m)] (fl ad m)
      refine J_aload_n hX dX4_isClosed_31 rfl 0 rfl ?_
      refine J_iconst (v := (3 : Int32)) hX dX4_isClosed_32 (by decide) ?_
      refine J_callV hX km_X4_limit kl_RX4_55 dX4_isClosed_33 ka_264 (by decide) [.int (3 : Int32)] ⟨Nat.le_of_ble_eq_true rfl, Nat.le_of_ble_eq_true rfl⟩ rfl rfl (Nat.le_of_ble_eq_true rfl) (c_X4_limit (3 : Int32) m) (fun v w2 hk => ?_)
      obtain ⟨rfl, rfl⟩ := hk
      show J X (0, 0) 36 [(0, .ref (ad 264)), (1, .ref (ad a1)), (2, .int x2), (3, .int x3)] [.int (v_X4_limit (3 : Int32) m), .int (v_X5_covered a1 x3 x2 m)] (fl ad m)
      refine J_icmp_ge (tgt := 41) hX dX4_isClosed_36 (by decide) (fun c3 => ?_) (fun c3 => ?_)
      · replace h := Eq.mp (if_pos c3) h
        refine J_iinc (x := (x3 + (1 : Int32))) (lv2 := [(3, .int (x3 + (1 : Int32))), (0, .ref (ad 264)), (1, .ref (ad a1)), (2, .int x2)]) hX dX4_isClosed_41 3 rfl rfl (Nat.le_of_ble_eq_true rfl) rfl ?_
        refine J_goto (tgt := 2) hX dX4_isClosed_44 (by decide) ?_
        exact J_sub [1, 2, 3, 0] rfl (hrec (x3 + (1 : Int32)) m h)
      · replace h := Eq.mp (if_neg c3) h
        refine J_iconst (v := (0 : Int32)) hX dX4_isClosed_39 (by decide) ?_
        exact J_zret hX hR dX4_isClosed_40 bo_0 ⟨_, _, rfl, rfl, h⟩
set_option maxRecDepth 100000 in
theorem t_X4_isClosed_l2 {X : XT} {ad : Nat → Nat} {K : Int32 → Mm → Prop} (hX : Cx X cX4_isClosed 4 RX4 (rmN 4 96)) (hR : Rx X (some .boolean) (kI ad K) (0, 0)) {k47 : Mm → Prop} (a1 : Nat) (h1 : kap a1 = 3) (x2 : Int32) (hk47 : ∀ (m : Mm), k47 m → J X (0, 0) 47 [(0, .ref (ad 264)), (1, .ref (ad a1)), (2, .int x2)] [] (fl ad m)) : ∀ (n : Nat) (x3 : Int32) (m : Mm), wp_X4_isClosed_l2 k47 K a1 x2 n x3 m → J X (0, 0) 2 [(0, .ref (ad 264)), (1, .ref (ad a1)), (2, .int x2), (3, .int x3)] [] (fl ad m) := by
  intro n
  induction n with
  | zero => intro x3 m h; exact h.elim
  | succ n ih => intro x3 m h; exact tb_X4_isClosed_l2 hX hR a1 h1 x2 ih hk47 x3 m h
set_option maxRecDepth 100000 in
theorem c_X4_isClosed {G : GT} {ad : Nat → Nat} (a1 : Nat) (h1 : kap a1 = 3) (x2 : Int32) (m : Mm) (K : Int32 → Mm → Prop) (h : wp_X4_isClosed a1 x2 m K) : Cn G yX4_isClosed cX4_isClosed 4 (some .boolean) (rmN 4 96) [.ref (ad 264), .ref (ad a1), .int x2] (0, 0) (fl ad m) (kI ad K) := by
  unfold wp_X4_isClosed at h
  refine Cn.of pn_RX4 (Nat.le_of_ble_eq_true rfl) (fun X hG hX hR => ?_)
  subst hG
  have hX : Cx X cX4_isClosed 4 RX4 (rmN 4 96) := hX
  show J X (0, 0) 0 [(0, .ref (ad 264)), (1, .ref (ad a1)), (2, .int x2)] [] (fl ad m)
  refine J_iconst (v := (0 : Int32)) hX dX4_isClosed_0 (by decide) ?_
  refine J_istore_n (lv2 := [(3, .int (0 : Int32)), (0, .ref (ad 264)), (1, .ref (ad a1)), (2, .int x2)]) hX dX4_isClosed_1 rfl (Nat.le_of_ble_eq_true rfl) rfl ?_
  refine J_sub [1, 2, 3, 0] rfl (t_X4_isClosed_l2 hX hR a1 h1 x2 (fun m4 h => ?_) FU (0 : Int32) m h)
  refine J_aload_n hX dX4_isClosed_47 rfl 0 rfl ?_
  refine J_getR hX kf_RX4_37 dX4_isClosed_48 ka_264 (by decide) rfl rh_264_5 ?_
  refine J_iload_n hX dX4_isClosed_51 rfl 2 rfl ?_
  refine J_callV hX km_X10_find kl_RX4_59 dX4_isClosed_52 ka_268 (by decide) [.int x2] ⟨Nat.le_of_ble_eq_true rfl, Nat.le_of_ble_eq_true rfl⟩ rfl rfl (Nat.le_of_ble_eq_true rfl) (c_X10_find x2 m4 _ h) (fun v w2 hk => ?_)
  obtain ⟨m5, rfl, rfl, h⟩ := hk
  show J X (0, 0) 55 [(0, .ref (ad 264)), (1, .ref (ad a1)), (2, .int x2)] [] (fl ad m5)
  refine J_aload_n hX dX4_isClosed_55 rfl 0 rfl ?_
  refine J_aload_n hX dX4_isClosed_56 rfl 1 rfl ?_
  refine J_callV hX km_X4_anyOpen kl_RX4_217 dX4_isClosed_57 ka_264 (by decide) [.ref (ad a1)] ⟨Nat.le_of_ble_eq_true rfl, Nat.le_of_ble_eq_true rfl⟩ rfl rfl (Nat.le_of_ble_eq_true rfl) (c_X4_anyOpen a1 h1 m5 _ h) (fun v w2 hk => ?_)
  obtain ⟨y7, m6, rfl, rfl, h⟩ := hk
  show J X (0, 0) 60 [(0, .ref (ad 264)), (1, .ref (ad a1)), (2, .int x2)] [.int y7] (fl ad m6)
  have hj10 : ∀ y9 : Int32, y9 = (if y7 = (0 : Int32) then (1 : Int32) else (0 : Int32)) → J X (0, 0) 68 [] [.int y9] (fl ad m6) := by
    intro y9 e_y9
    replace h := h y9 e_y9
    exact J_zret hX hR dX4_isClosed_68 (by rw [e_y9]; exact (bo_ite bo_1 bo_0)) ⟨_, _, rfl, rfl, h⟩
  refine J_if_ne (tgt := 67) hX dX4_isClosed_60 (by decide) (fun c8 => ?_) (fun c8 => ?_)
  · refine J_iconst (v := (0 : Int32)) hX dX4_isClosed_67 (by decide) ?_
    exact J_sub [] rfl (hj10 _ (if_neg c8).symm)
  · refine J_iconst (v := (1 : Int32)) hX dX4_isClosed_63 (by decide) ?_
    refine J_goto (tgt := 68) hX dX4_isClosed_64 (by decide) ?_
    exact J_sub [] rfl (hj10 _ (if_pos c8).symm)
set_option maxRecDepth 100000 in
theorem tb_X11_leastTolerance_l14 {X : XT} {ad : Nat → Nat} {K : Int32 → Mm → Prop} (hX : Cx X cX11_leastTolerance 2 RX11 (rmN 5 119)) (hR : Rx X (some .int) (kI ad K) (0, 0)) {rec : Int32 → Mm → Prop} (hrec : ∀ (x1 : Int32) (m : Mm), rec x1 m → J X (0, 0) 14 [(0, .ref (ad 0)), (1, .int x1)] [] (fl ad m)) (x1 : Int32) (m : Mm) (h : wb_X11_leastTolerance_l14 rec K x1 m) : J X (0, 0) 14 [(0, .ref (ad 0)), (1, .int x1)] [] (fl ad m) := by
  unfold wb_X11_leastTolerance_l14 at h
  refine J_iload_n hX dX11_leastTolerance_14 rfl 1 rfl ?_
  refine J_bipush (v := (20 : Int32)) hX dX11_leastTolerance_15 (by decide) ?_
  refine J_icmp_gt (tgt := 43) hX dX11_leastTolerance_17 (by decide) (fun c2 => ?_) (fun c2 => ?_)
  · replace h := Eq.mp (if_pos c2) h
    refine J_bipush (v := (-9 : Int32)) hX dX11_leastTolerance_43 (by decide) ?_
    exact J_iret hX hR dX11_leastTolerance_45 ⟨_, _, rfl, rfl, h⟩
  · replace h := Eq.mp (if_neg c2) h
    refine J_aload_n hX dX11_leastTolerance_20 rfl 0 rfl ?_
    refine J_getR hX kf_RX11_55 dX11_leastTolerance_21 ka_0 (by decide) rfl rh_0_8 ?_
    refine J_aload_n hX dX11_leastTolerance_24 rfl 0 rfl ?_
    refine J_getR hX kf_RX11_10 dX11_leastTolerance_25 ka_0 (by decide) rfl rh_0_0 ?_
    refine J_iload_n hX dX11_leastTolerance_28 rfl 1 rfl ?_
    refine J_callV hX km_X4_isClosed kl_RX11_301 dX11_leastTolerance_29 ka_264 (by decide) [.ref (ad 1), .int x1] ⟨Nat.le_of_ble_eq_true rfl, Nat.le_of_ble_eq_true rfl⟩ rfl rfl (Nat.le_of_ble_eq_true rfl) (c_X4_isClosed 1 ka_1 x1 m _ h) (fun v w2 hk => ?_)
    obtain ⟨y4, m3, rfl, rfl, h⟩ := hk
    show J X (0, 0) 32 [(0, .ref (ad 0)), (1, .int x1)] [.int y4] (fl ad m3)
    refine J_if_eq (tgt := 37) hX dX11_leastTolerance_32 (by decide) (fun c5 => ?_) (fun c5 => ?_)
    · replace h := Eq.mp (if_pos c5) h
      refine J_iinc (x := (x1 + (1 : Int32))) (lv2 := [(1, .int (x1 + (1 : Int32))), (0, .ref (ad 0))]) hX dX11_leastTolerance_37 1 rfl rfl (Nat.le_of_ble_eq_true rfl) rfl ?_
      refine J_goto (tgt := 14) hX dX11_leastTolerance_40 (by decide) ?_
      exact J_sub [1, 0] rfl (hrec (x1 + (1 : Int32)) m3 h)
    · replace h := Eq.mp (if_neg c5) h
      refine J_iload_n hX dX11_leastTolerance_35 rfl 1 rfl ?_
      exact J_iret hX hR dX11_leastTolerance_36 ⟨_, _, rfl, rfl, h⟩
set_option maxRecDepth 100000 in
theorem t_X11_leastTolerance_l14 {X : XT} {ad : Nat → Nat} {K : Int32 → Mm → Prop} (hX : Cx X cX11_leastTolerance 2 RX11 (rmN 5 119)) (hR : Rx X (some .int) (kI ad K) (0, 0))  : ∀ (n : Nat) (x1 : Int32) (m : Mm), wp_X11_leastTolerance_l14 K n x1 m → J X (0, 0) 14 [(0, .ref (ad 0)), (1, .int x1)] [] (fl ad m) := by
  intro n
  induction n with
  | zero => intro x1 m h; exact h.elim
  | succ n ih => intro x1 m h; exact tb_X11_leastTolerance_l14 hX hR ih x1 m h
set_option maxRecDepth 100000 in
theorem c_X11_leastTolerance {G : GT} {ad : Nat → Nat} (m : Mm) (K : Int32 → Mm → Prop) (h : wp_X11_leastTolerance m K) : Cn G yX11_leastTolerance cX11_leastTolerance 2 (some .int) (rmN 5 119) [.ref (ad 0)] (0, 0) (fl ad m) (kI ad K) := by
  unfold wp_X11_leastTolerance at h
  refine Cn.of pn_RX11 (Nat.le_of_ble_eq_true rfl) (fun X hG hX hR => ?_)
  subst hG
  have hX : Cx X cX11_leastTolerance 2 RX11 (rmN 5 119) := hX
  show J X (0, 0) 0 [(0, .ref (ad 0))] [] (fl ad m)
  refine J_aload_n hX dX11_leastTolerance_0 rfl 0 rfl ?_
  refine J_getR hX kf_RX11_73 dX11_leastTolerance_1 ka_0 (by decide) rfl rh_0_11 ?_
  refine J_aload_n hX dX11_leastTolerance_4 rfl 0 rfl ?_
  refine J_getR hX kf_RX11_10 dX11_leastTolerance_5 ka_0 (by decide) rfl rh_0_0 ?_
  refine J_iconst (v := (-1 : Int32)) hX dX11_leastTolerance_8 (by decide) ?_
  refine J_callV hX km_X5_fold kl_RX11_254 dX11_leastTolerance_9 ka_269 (by decide) [.ref (ad 1), .int (-1 : Int32)] ⟨Nat.le_of_ble_eq_true rfl, Nat.le_of_ble_eq_true rfl⟩ rfl rfl (Nat.le_of_ble_eq_true rfl) (c_X5_fold 1 ka_1 (-1 : Int32) m _ h) (fun v w2 hk => ?_)
  obtain ⟨m1, rfl, rfl, h⟩ := hk
  show J X (0, 0) 12 [(0, .ref (ad 0))] [] (fl ad m1)
  refine J_iconst (v := (0 : Int32)) hX dX11_leastTolerance_12 (by decide) ?_
  refine J_istore_n (lv2 := [(1, .int (0 : Int32)), (0, .ref (ad 0))]) hX dX11_leastTolerance_13 rfl (Nat.le_of_ble_eq_true rfl) rfl ?_
  refine J_sub [1, 0] rfl (t_X11_leastTolerance_l14 hX hR FU (0 : Int32) m1 h)
set_option maxRecDepth 100000 in
theorem tb_X3_empty_l21 {X : XT} {ad : Nat → Nat} {K : Mm → Prop} (hX : Cx X cX3_empty 2 RX3 (rmN 0 0)) (hR : Rx X none (kV ad K) (0, 0)) {rec : Int32 → Mm → Prop} (a0 : Nat) (h0 : kap a0 = 3) (hrec : ∀ (x1 : Int32) (m : Mm), rec x1 m → J X (0, 0) 21 [(0, .ref (ad a0)), (1, .int x1)] [] (fl ad m)) (x1 : Int32) (m : Mm) (h : wb_X3_empty_l21 rec K a0 x1 m) : J X (0, 0) 21 [(0, .ref (ad a0)), (1, .int x1)] [] (fl ad m) := by
  unfold wb_X3_empty_l21 at h
  refine J_iload_n hX dX3_empty_21 rfl 1 rfl ?_
  refine J_iconst (v := (4 : Int32)) hX dX3_empty_22 (by decide) ?_
  refine J_icmp_ge (tgt := 46) hX dX3_empty_23 (by decide) (fun c4 => ?_) (fun c4 => ?_)
  · replace h := Eq.mp (if_pos c4) h
    exact J_vret hX hR dX3_empty_46 ⟨_, rfl, rfl, h⟩
  · replace h := Eq.mp (if_neg c4) h
    refine J_aload_n hX dX3_empty_26 rfl 0 rfl ?_
    refine J_getR hX kf_RX3_9 dX3_empty_27 h0 (by decide) rfl (ro_3_0 h0) ?_
    refine J_iload_n hX dX3_empty_30 rfl 1 rfl ?_
    refine J_iconst (v := (0 : Int32)) hX dX3_empty_31 (by decide) ?_
    obtain ⟨b5, h⟩ := h
    refine J_iast (j := x1.toNatClampNeg) hX dX3_empty_32 (ko_3_0 h0) (lo_3_0 h0) b5 rfl ?_
    refine J_nmM (fun m6 e_m6 => ?_)
    replace h := h m6 e_m6
    refine J_aload_n hX dX3_empty_33 rfl 0 rfl ?_
    refine J_getR hX kf_RX3_15 dX3_empty_34 h0 (by decide) rfl (ro_3_1 h0) ?_
    refine J_iload_n hX dX3_empty_37 rfl 1 rfl ?_
    refine J_iconst (v := (0 : Int32)) hX dX3_empty_38 (by decide) ?_
    refine J_iast (j := x1.toNatClampNeg) hX dX3_empty_39 (ko_3_1 h0) (lo_3_1 h0) b5 rfl ?_
    refine J_nmM (fun m7 e_m7 => ?_)
    replace h := h m7 e_m7
    refine J_iinc (x := (x1 + (1 : Int32))) (lv2 := [(1, .int (x1 + (1 : Int32))), (0, .ref (ad a0))]) hX dX3_empty_40 1 rfl rfl (Nat.le_of_ble_eq_true rfl) rfl ?_
    refine J_goto (tgt := 21) hX dX3_empty_43 (by decide) ?_
    exact J_sub [1, 0] rfl (hrec (x1 + (1 : Int32)) m7 h)
set_option maxRecDepth 100000 in
theorem t_X3_empty_l21 {X : XT} {ad : Nat → Nat} {K : Mm → Prop} (hX : Cx X cX3_empty 2 RX3 (rmN 0 0)) (hR : Rx X none (kV ad K) (0, 0)) (a0 : Nat) (h0 : kap a0 = 3) : ∀ (n : Nat) (x1 : Int32) (m : Mm), wp_X3_empty_l21 K a0 n x1 m → J X (0, 0) 21 [(0, .ref (ad a0)), (1, .int x1)] [] (fl ad m) := by
  intro n
  induction n with
  | zero => intro x1 m h; exact h.elim
  | succ n ih => intro x1 m h; exact tb_X3_empty_l21 hX hR a0 h0 ih x1 m h
set_option maxRecDepth 100000 in
theorem c_X3_empty {G : GT} {ad : Nat → Nat} (a0 : Nat) (h0 : kap a0 = 3) (m : Mm) (K : Mm → Prop) (h : wp_X3_empty a0 m K) : Cn G yX3_empty cX3_empty 2 none (rmN 0 0) [.ref (ad a0)] (0, 0) (fl ad m) (kV ad K) := by
  unfold wp_X3_empty at h
  refine Cn.of pn_RX3 (Nat.le_of_ble_eq_true rfl) (fun X hG hX hR => ?_)
  subst hG
  have hX : Cx X cX3_empty 2 RX3 (rmN 0 0) := hX
  show J X (0, 0) 0 [(0, .ref (ad a0))] [] (fl ad m)
  refine J_aload_n hX dX3_empty_0 rfl 0 rfl ?_
  refine J_sipush (v := (200 : Int32)) hX dX3_empty_1 (by decide) ?_
  refine J_putI hX kf_RX3_18 dX3_empty_4 h0 (by decide) rfl ?_
  refine J_nmM (fun m1 e_m1 => ?_)
  replace h := h m1 e_m1
  refine J_aload_n hX dX3_empty_7 rfl 0 rfl ?_
  refine J_sipush (v := (200 : Int32)) hX dX3_empty_8 (by decide) ?_
  refine J_putI hX kf_RX3_22 dX3_empty_11 h0 (by decide) rfl ?_
  refine J_nmM (fun m2 e_m2 => ?_)
  replace h := h m2 e_m2
  refine J_aload_n hX dX3_empty_14 rfl 0 rfl ?_
  refine J_iconst (v := (0 : Int32)) hX dX3_empty_15 (by decide) ?_
  refine J_putI hX kf_RX3_25 dX3_empty_16 h0 (by decide) rfl ?_
  refine J_nmM (fun m3 e_m3 => ?_)
  replace h := h m3 e_m3
  refine J_iconst (v := (0 : Int32)) hX dX3_empty_19 (by decide) ?_
  refine J_istore_n (lv2 := [(1, .int (0 : Int32)), (0, .ref (ad a0))]) hX dX3_empty_20 rfl (Nat.le_of_ble_eq_true rfl) rfl ?_
  refine J_sub [1, 0] rfl (t_X3_empty_l21 hX hR a0 h0 FU (0 : Int32) m3 h)
theorem bv_X9_isDigit (x0 : Int32) : bo (v_X9_isDigit x0) := (bo_ite bo_0 (bo_ite bo_0 bo_1))
set_option maxRecDepth 100000 in
theorem c_X9_isDigit {G : GT} {ad : Nat → Nat} (x0 : Int32) (m : Mm) : Cn G yX9_isDigit cX9_isDigit 1 (some .boolean) (rmN 0 0) [.int x0] (0, 0) (fl ad m) (fun v w => v = some (.int (v_X9_isDigit x0)) ∧ w = fl ad m) := by
  refine Cn.of pn_RX9 (Nat.le_of_ble_eq_true rfl) (fun X hG hX hR => ?_)
  subst hG
  have hX : Cx X cX9_isDigit 1 RX9 (rmN 0 0) := hX
  show J X (0, 0) 0 [(0, .int x0)] [] (fl ad m)
  refine J_iload_n hX dX9_isDigit_0 rfl 0 rfl ?_
  refine J_bipush (v := (48 : Int32)) hX dX9_isDigit_1 (by decide) ?_
  have hj3 : ∀ y4 : Int32, y4 = (if x0 < (48 : Int32) then (0 : Int32) else (if (57 : Int32) < x0 then (0 : Int32) else (1 : Int32))) → J X (0, 0) 17 [] [.int y4] (fl ad m) := by
    intro y4 e_y4
    subst e_y4
    exact J_zret hX hR dX9_isDigit_17 (bo_ite bo_0 (bo_ite bo_0 bo_1)) (And.intro (congrArg (fun z => some (Value.int z)) (show (if x0 < (48 : Int32) then (0 : Int32) else (if (57 : Int32) < x0 then (0 : Int32) else (1 : Int32))) = v_X9_isDigit x0 from rfl)) rfl)
  refine J_icmp_lt (tgt := 16) hX dX9_isDigit_3 (by decide) (fun c1 => ?_) (fun c1 => ?_)
  · refine J_iconst (v := (0 : Int32)) hX dX9_isDigit_16 (by decide) ?_
    exact J_sub [] rfl (hj3 _ (if_pos c1).symm)
  · refine J_iload_n hX dX9_isDigit_6 rfl 0 rfl ?_
    refine J_bipush (v := (57 : Int32)) hX dX9_isDigit_7 (by decide) ?_
    refine J_icmp_gt (tgt := 16) hX dX9_isDigit_9 (by decide) (fun c2 => ?_) (fun c2 => ?_)
    · refine J_iconst (v := (0 : Int32)) hX dX9_isDigit_16 (by decide) ?_
      exact J_sub [] rfl (hj3 _ ((if_neg c1).trans (if_pos c2)).symm)
    · refine J_iconst (v := (1 : Int32)) hX dX9_isDigit_12 (by decide) ?_
      refine J_goto (tgt := 17) hX dX9_isDigit_13 (by decide) ?_
      exact J_sub [] rfl (hj3 _ ((if_neg c1).trans (if_neg c2)).symm)
set_option maxRecDepth 100000 in
theorem c_X9_fail {G : GT} {ad : Nat → Nat} (x1 : Int32) (x2 : Int32) (m : Mm) (K : Mm → Prop) (h : wp_X9_fail x1 x2 m K) : Cn G yX9_fail cX9_fail 3 none (rmN 0 0) [.ref (ad 242), .int x1, .int x2] (0, 0) (fl ad m) (kV ad K) := by
  unfold wp_X9_fail at h
  refine Cn.of pn_RX9 (Nat.le_of_ble_eq_true rfl) (fun X hG hX hR => ?_)
  subst hG
  have hX : Cx X cX9_fail 3 RX9 (rmN 0 0) := hX
  show J X (0, 0) 0 [(0, .ref (ad 242)), (1, .int x1), (2, .int x2)] [] (fl ad m)
  refine J_aload_n hX dX9_fail_0 rfl 0 rfl ?_
  refine J_iload_n hX dX9_fail_1 rfl 1 rfl ?_
  refine J_putI hX kf_RX9_18 dX9_fail_2 ka_242 (by decide) rfl ?_
  refine J_nmM (fun m1 e_m1 => ?_)
  replace h := h m1 e_m1
  refine J_aload_n hX dX9_fail_5 rfl 0 rfl ?_
  refine J_iload_n hX dX9_fail_6 rfl 2 rfl ?_
  refine J_putI hX kf_RX9_22 dX9_fail_7 ka_242 (by decide) rfl ?_
  refine J_nmM (fun m2 e_m2 => ?_)
  replace h := h m2 e_m2
  exact J_vret hX hR dX9_fail_10 ⟨_, rfl, rfl, h⟩
set_option maxRecDepth 100000 in
theorem c_X9_numbersOf {G : GT} {ad : Nat → Nat} (x0 : Int32) (m : Mm) : Cn G yX9_numbersOf cX9_numbersOf 1 (some .int) (rmN 0 0) [.int x0] (0, 0) (fl ad m) (fun v w => v = some (.int (v_X9_numbersOf x0)) ∧ w = fl ad m) := by
  refine Cn.of pn_RX9 (Nat.le_of_ble_eq_true rfl) (fun X hG hX hR => ?_)
  subst hG
  have hX : Cx X cX9_numbersOf 1 RX9 (rmN 0 0) := hX
  show J X (0, 0) 0 [(0, .int x0)] [] (fl ad m)
  refine J_iload_n hX dX9_numbersOf_0 rfl 0 rfl ?_
  by_cases c1 : x0 = (97 : Int32)
  · refine J_tabIn (v := (97 : Int32)) (tgt := 101) hX dX9_numbersOf_1 c1 (by decide) (by decide) rfl (by decide) ?_
    refine J_iconst (v := (5 : Int32)) hX dX9_numbersOf_101 (by decide) ?_
    exact J_iret hX hR dX9_numbersOf_102 (And.intro (congrArg (fun z => some (Value.int z)) (show (5 : Int32) = v_X9_numbersOf x0 from (if_pos c1).symm)) rfl)
  · by_cases c2 : x0 = (98 : Int32)
    · refine J_tabIn (v := (98 : Int32)) (tgt := 94) hX dX9_numbersOf_1 c2 (by decide) (by decide) rfl (by decide) ?_
      refine J_iconst (v := (4 : Int32)) hX dX9_numbersOf_94 (by decide) ?_
      exact J_iret hX hR dX9_numbersOf_95 (And.intro (congrArg (fun z => some (Value.int z)) (show (4 : Int32) = v_X9_numbersOf x0 from ((if_neg c1).trans (if_pos c2)).symm)) rfl)
    · by_cases c3 : x0 = (99 : Int32)
      · refine J_tabIn (v := (99 : Int32)) (tgt := 103) hX dX9_numbersOf_1 c3 (by decide) (by decide) rfl (by decide) ?_
        refine J_iconst (v := (0 : Int32)) hX dX9_numbersOf_103 (by decide) ?_
        exact J_iret hX hR dX9_numbersOf_104 (And.intro (congrArg (fun z => some (Value.int z)) (show (0 : Int32) = v_X9_numbersOf x0 from ((if_neg c1).trans ((if_neg c2).trans (if_pos c3))).symm)) rfl)
      · by_cases c4 : x0 = (100 : Int32)
        · refine J_tabIn (v := (100 : Int32)) (tgt := 103) hX dX9_numbersOf_1 c4 (by decide) (by decide) rfl (by decide) ?_
          refine J_iconst (v := (0 : Int32)) hX dX9_numbersOf_103 (by decide) ?_
          exact J_iret hX hR dX9_numbersOf_104 (And.intro (congrArg (fun z => some (Value.int z)) (show (0 : Int32) = v_X9_numbersOf x0 from ((if_neg c1).trans ((if_neg c2).trans ((if_neg c3).trans (if_pos c4)))).symm)) rfl)
        · by_cases c5 : x0 = (101 : Int32)
          · refine J_tabIn (v := (101 : Int32)) (tgt := 103) hX dX9_numbersOf_1 c5 (by decide) (by decide) rfl (by decide) ?_
            refine J_iconst (v := (0 : Int32)) hX dX9_numbersOf_103 (by decide) ?_
            exact J_iret hX hR dX9_numbersOf_104 (And.intro (congrArg (fun z => some (Value.int z)) (show (0 : Int32) = v_X9_numbersOf x0 from ((if_neg c1).trans ((if_neg c2).trans ((if_neg c3).trans ((if_neg c4).trans (if_pos c5))))).symm)) rfl)
          · by_cases c6 : x0 = (102 : Int32)
            · refine J_tabIn (v := (102 : Int32)) (tgt := 92) hX dX9_numbersOf_1 c6 (by decide) (by decide) rfl (by decide) ?_
              refine J_iconst (v := (2 : Int32)) hX dX9_numbersOf_92 (by decide) ?_
              exact J_iret hX hR dX9_numbersOf_93 (And.intro (congrArg (fun z => some (Value.int z)) (show (2 : Int32) = v_X9_numbersOf x0 from ((if_neg c1).trans ((if_neg c2).trans ((if_neg c3).trans ((if_neg c4).trans ((if_neg c5).trans (if_pos c6)))))).symm)) rfl)
            · by_cases c7 : x0 = (103 : Int32)
              · refine J_tabIn (v := (103 : Int32)) (tgt := 103) hX dX9_numbersOf_1 c7 (by decide) (by decide) rfl (by decide) ?_
                refine J_iconst (v := (0 : Int32)) hX dX9_numbersOf_103 (by decide) ?_
                exact J_iret hX hR dX9_numbersOf_104 (And.intro (congrArg (fun z => some (Value.int z)) (show (0 : Int32) = v_X9_numbersOf x0 from ((if_neg c1).trans ((if_neg c2).trans ((if_neg c3).trans ((if_neg c4).trans ((if_neg c5).trans ((if_neg c6).trans (if_pos c7))))))).symm)) rfl)
              · by_cases c8 : x0 = (104 : Int32)
                · refine J_tabIn (v := (104 : Int32)) (tgt := 103) hX dX9_numbersOf_1 c8 (by decide) (by decide) rfl (by decide) ?_
                  refine J_iconst (v := (0 : Int32)) hX dX9_numbersOf_103 (by decide) ?_
                  exact J_iret hX hR dX9_numbersOf_104 (And.intro (congrArg (fun z => some (Value.int z)) (show (0 : Int32) = v_X9_numbersOf x0 from ((if_neg c1).trans ((if_neg c2).trans ((if_neg c3).trans ((if_neg c4).trans ((if_neg c5).trans ((if_neg c6).trans ((if_neg c7).trans (if_pos c8)))))))).symm)) rfl)
                · by_cases c9 : x0 = (105 : Int32)
                  · refine J_tabIn (v := (105 : Int32)) (tgt := 99) hX dX9_numbersOf_1 c9 (by decide) (by decide) rfl (by decide) ?_
                    refine J_iconst (v := (3 : Int32)) hX dX9_numbersOf_99 (by decide) ?_
                    exact J_iret hX hR dX9_numbersOf_100 (And.intro (congrArg (fun z => some (Value.int z)) (show (3 : Int32) = v_X9_numbersOf x0 from ((if_neg c1).trans ((if_neg c2).trans ((if_neg c3).trans ((if_neg c4).trans ((if_neg c5).trans ((if_neg c6).trans ((if_neg c7).trans ((if_neg c8).trans (if_pos c9))))))))).symm)) rfl)
                  · by_cases c10 : x0 = (106 : Int32)
                    · refine J_tabIn (v := (106 : Int32)) (tgt := 103) hX dX9_numbersOf_1 c10 (by decide) (by decide) rfl (by decide) ?_
                      refine J_iconst (v := (0 : Int32)) hX dX9_numbersOf_103 (by decide) ?_
                      exact J_iret hX hR dX9_numbersOf_104 (And.intro (congrArg (fun z => some (Value.int z)) (show (0 : Int32) = v_X9_numbersOf x0 from ((if_neg c1).trans ((if_neg c2).trans ((if_neg c3).trans ((if_neg c4).trans ((if_neg c5).trans ((if_neg c6).trans ((if_neg c7).trans ((if_neg c8).trans ((if_neg c9).trans (if_pos c10)))))))))).symm)) rfl)
                    · by_cases c11 : x0 = (107 : Int32)
                      · refine J_tabIn (v := (107 : Int32)) (tgt := 103) hX dX9_numbersOf_1 c11 (by decide) (by decide) rfl (by decide) ?_
                        refine J_iconst (v := (0 : Int32)) hX dX9_numbersOf_103 (by decide) ?_
                        exact J_iret hX hR dX9_numbersOf_104 (And.intro (congrArg (fun z => some (Value.int z)) (show (0 : Int32) = v_X9_numbersOf x0 from ((if_neg c1).trans ((if_neg c2).trans ((if_neg c3).trans ((if_neg c4).trans ((if_neg c5).trans ((if_neg c6).trans ((if_neg c7).trans ((if_neg c8).trans ((if_neg c9).trans ((if_neg c10).trans (if_pos c11))))))))))).symm)) rfl)
                      · by_cases c12 : x0 = (108 : Int32)
                        · refine J_tabIn (v := (108 : Int32)) (tgt := 103) hX dX9_numbersOf_1 c12 (by decide) (by decide) rfl (by decide) ?_
                          refine J_iconst (v := (0 : Int32)) hX dX9_numbersOf_103 (by decide) ?_
                          exact J_iret hX hR dX9_numbersOf_104 (And.intro (congrArg (fun z => some (Value.int z)) (show (0 : Int32) = v_X9_numbersOf x0 from ((if_neg c1).trans ((if_neg c2).trans ((if_neg c3).trans ((if_neg c4).trans ((if_neg c5).trans ((if_neg c6).trans ((if_neg c7).trans ((if_neg c8).trans ((if_neg c9).trans ((if_neg c10).trans ((if_neg c11).trans (if_pos c12)))))))))))).symm)) rfl)
                        · by_cases c13 : x0 = (109 : Int32)
                          · refine J_tabIn (v := (109 : Int32)) (tgt := 103) hX dX9_numbersOf_1 c13 (by decide) (by decide) rfl (by decide) ?_
                            refine J_iconst (v := (0 : Int32)) hX dX9_numbersOf_103 (by decide) ?_
                            exact J_iret hX hR dX9_numbersOf_104 (And.intro (congrArg (fun z => some (Value.int z)) (show (0 : Int32) = v_X9_numbersOf x0 from ((if_neg c1).trans ((if_neg c2).trans ((if_neg c3).trans ((if_neg c4).trans ((if_neg c5).trans ((if_neg c6).trans ((if_neg c7).trans ((if_neg c8).trans ((if_neg c9).trans ((if_neg c10).trans ((if_neg c11).trans ((if_neg c12).trans (if_pos c13))))))))))))).symm)) rfl)
                          · by_cases c14 : x0 = (110 : Int32)
                            · refine J_tabIn (v := (110 : Int32)) (tgt := 103) hX dX9_numbersOf_1 c14 (by decide) (by decide) rfl (by decide) ?_
                              refine J_iconst (v := (0 : Int32)) hX dX9_numbersOf_103 (by decide) ?_
                              exact J_iret hX hR dX9_numbersOf_104 (And.intro (congrArg (fun z => some (Value.int z)) (show (0 : Int32) = v_X9_numbersOf x0 from ((if_neg c1).trans ((if_neg c2).trans ((if_neg c3).trans ((if_neg c4).trans ((if_neg c5).trans ((if_neg c6).trans ((if_neg c7).trans ((if_neg c8).trans ((if_neg c9).trans ((if_neg c10).trans ((if_neg c11).trans ((if_neg c12).trans ((if_neg c13).trans (if_pos c14)))))))))))))).symm)) rfl)
                            · by_cases c15 : x0 = (111 : Int32)
                              · refine J_tabIn (v := (111 : Int32)) (tgt := 103) hX dX9_numbersOf_1 c15 (by decide) (by decide) rfl (by decide) ?_
                                refine J_iconst (v := (0 : Int32)) hX dX9_numbersOf_103 (by decide) ?_
                                exact J_iret hX hR dX9_numbersOf_104 (And.intro (congrArg (fun z => some (Value.int z)) (show (0 : Int32) = v_X9_numbersOf x0 from ((if_neg c1).trans ((if_neg c2).trans ((if_neg c3).trans ((if_neg c4).trans ((if_neg c5).trans ((if_neg c6).trans ((if_neg c7).trans ((if_neg c8).trans ((if_neg c9).trans ((if_neg c10).trans ((if_neg c11).trans ((if_neg c12).trans ((if_neg c13).trans ((if_neg c14).trans (if_pos c15))))))))))))))).symm)) rfl)
                              · by_cases c16 : x0 = (112 : Int32)
                                · refine J_tabIn (v := (112 : Int32)) (tgt := 96) hX dX9_numbersOf_1 c16 (by decide) (by decide) rfl (by decide) ?_
                                  refine J_bipush (v := (6 : Int32)) hX dX9_numbersOf_96 (by decide) ?_
                                  exact J_iret hX hR dX9_numbersOf_98 (And.intro (congrArg (fun z => some (Value.int z)) (show (6 : Int32) = v_X9_numbersOf x0 from ((if_neg c1).trans ((if_neg c2).trans ((if_neg c3).trans ((if_neg c4).trans ((if_neg c5).trans ((if_neg c6).trans ((if_neg c7).trans ((if_neg c8).trans ((if_neg c9).trans ((if_neg c10).trans ((if_neg c11).trans ((if_neg c12).trans ((if_neg c13).trans ((if_neg c14).trans ((if_neg c15).trans (if_pos c16)))))))))))))))).symm)) rfl)
                                · by_cases c17 : x0 = (113 : Int32)
                                  · refine J_tabIn (v := (113 : Int32)) (tgt := 103) hX dX9_numbersOf_1 c17 (by decide) (by decide) rfl (by decide) ?_
                                    refine J_iconst (v := (0 : Int32)) hX dX9_numbersOf_103 (by decide) ?_
                                    exact J_iret hX hR dX9_numbersOf_104 (And.intro (congrArg (fun z => some (Value.int z)) (show (0 : Int32) = v_X9_numbersOf x0 from ((if_neg c1).trans ((if_neg c2).trans ((if_neg c3).trans ((if_neg c4).trans ((if_neg c5).trans ((if_neg c6).trans ((if_neg c7).trans ((if_neg c8).trans ((if_neg c9).trans ((if_neg c10).trans ((if_neg c11).trans ((if_neg c12).trans ((if_neg c13).trans ((if_neg c14).trans ((if_neg c15).trans ((if_neg c16).trans (if_pos c17))))))))))))))))).symm)) rfl)
                                  · by_cases c18 : x0 = (114 : Int32)
                                    · refine J_tabIn (v := (114 : Int32)) (tgt := 103) hX dX9_numbersOf_1 c18 (by decide) (by decide) rfl (by decide) ?_
                                      refine J_iconst (v := (0 : Int32)) hX dX9_numbersOf_103 (by decide) ?_
                                      exact J_iret hX hR dX9_numbersOf_104 (And.intro (congrArg (fun z => some (Value.int z)) (show (0 : Int32) = v_X9_numbersOf x0 from ((if_neg c1).trans ((if_neg c2).trans ((if_neg c3).trans ((if_neg c4).trans ((if_neg c5).trans ((if_neg c6).trans ((if_neg c7).trans ((if_neg c8).trans ((if_neg c9).trans ((if_neg c10).trans ((if_neg c11).trans ((if_neg c12).trans ((if_neg c13).trans ((if_neg c14).trans ((if_neg c15).trans ((if_neg c16).trans ((if_neg c17).trans (if_pos c18)))))))))))))))))).symm)) rfl)
                                    · by_cases c19 : x0 = (115 : Int32)
                                      · refine J_tabIn (v := (115 : Int32)) (tgt := 92) hX dX9_numbersOf_1 c19 (by decide) (by decide) rfl (by decide) ?_
                                        refine J_iconst (v := (2 : Int32)) hX dX9_numbersOf_92 (by decide) ?_
                                        exact J_iret hX hR dX9_numbersOf_93 (And.intro (congrArg (fun z => some (Value.int z)) (show (2 : Int32) = v_X9_numbersOf x0 from ((if_neg c1).trans ((if_neg c2).trans ((if_neg c3).trans ((if_neg c4).trans ((if_neg c5).trans ((if_neg c6).trans ((if_neg c7).trans ((if_neg c8).trans ((if_neg c9).trans ((if_neg c10).trans ((if_neg c11).trans ((if_neg c12).trans ((if_neg c13).trans ((if_neg c14).trans ((if_neg c15).trans ((if_neg c16).trans ((if_neg c17).trans ((if_neg c18).trans (if_pos c19))))))))))))))))))).symm)) rfl)
                                      · refine J_tabOut (tgt := 103) hX dX9_numbersOf_1 (by have t0 := tne c1 (k := 97) (by decide); have t1 := tne c2 (k := 98) (by decide); have t2 := tne c3 (k := 99) (by decide); have t3 := tne c4 (k := 100) (by decide); have t4 := tne c5 (k := 101) (by decide); have t5 := tne c6 (k := 102) (by decide); have t6 := tne c7 (k := 103) (by decide); have t7 := tne c8 (k := 104) (by decide); have t8 := tne c9 (k := 105) (by decide); have t9 := tne c10 (k := 106) (by decide); have t10 := tne c11 (k := 107) (by decide); have t11 := tne c12 (k := 108) (by decide); have t12 := tne c13 (k := 109) (by decide); have t13 := tne c14 (k := 110) (by decide); have t14 := tne c15 (k := 111) (by decide); have t15 := tne c16 (k := 112) (by decide); have t16 := tne c17 (k := 113) (by decide); have t17 := tne c18 (k := 114) (by decide); have t18 := tne c19 (k := 115) (by decide); omega) (by decide) ?_
                                        refine J_iconst (v := (0 : Int32)) hX dX9_numbersOf_103 (by decide) ?_
                                        exact J_iret hX hR dX9_numbersOf_104 (And.intro (congrArg (fun z => some (Value.int z)) (show (0 : Int32) = v_X9_numbersOf x0 from ((if_neg c1).trans ((if_neg c2).trans ((if_neg c3).trans ((if_neg c4).trans ((if_neg c5).trans ((if_neg c6).trans ((if_neg c7).trans ((if_neg c8).trans ((if_neg c9).trans ((if_neg c10).trans ((if_neg c11).trans ((if_neg c12).trans ((if_neg c13).trans ((if_neg c14).trans ((if_neg c15).trans ((if_neg c16).trans ((if_neg c17).trans ((if_neg c18).trans (if_neg c19))))))))))))))))))).symm)) rfl)
set_option maxRecDepth 100000 in
theorem tb_X9_takeNumber_l46 {X : XT} {ad : Nat → Nat} {K : Mm → Prop} (hX : Cx X cX9_takeNumber 8 RX9 (rmN 1 22)) (hR : Rx X none (kV ad K) (0, 0)) {rec : Int32 → Int32 → Int32 → Mm → Prop} {k104 : Int32 → Int32 → Mm → Prop} (x2 : Int32) (x3 : Int32) (x4 : Int32) (hrec : ∀ (x5 : Int32) (x6 : Int32) (x7 : Int32) (m : Mm), rec x5 x6 x7 m → J X (0, 0) 46 [(0, .ref (ad 242)), (1, .ref (ad 241)), (2, .int x2), (3, .int x3), (4, .int x4), (5, .int x5), (6, .int x6), (7, .int x7)] [] (fl ad m)) (hk104 : ∀ (z5 : Int32) (z6 : Int32) (m : Mm), k104 z5 z6 m → J X (0, 0) 104 [(0, .ref (ad 242)), (3, .int x3), (4, .int x4), (5, .int z5), (6, .int z6)] [] (fl ad m)) (x5 : Int32) (x6 : Int32) (x7 : Int32) (m : Mm) (h : wb_X9_takeNumber_l46 rec k104 K x2 x3 x4 x5 x6 x7 m) : J X (0, 0) 46 [(0, .ref (ad 242)), (1, .ref (ad 241)), (2, .int x2), (3, .int x3), (4, .int x4), (5, .int x5), (6, .int x6), (7, .int x7)] [] (fl ad m) := by
  unfold wb_X9_takeNumber_l46 at h
  refine J_iload hX dX9_takeNumber_46 7 rfl ?_
  refine J_iload_n hX dX9_takeNumber_48 rfl 2 rfl ?_
  refine J_icmp_ge (tgt := 104) hX dX9_takeNumber_49 (by decide) (fun c7 => ?_) (fun c7 => ?_)
  · replace h := Eq.mp (if_pos c7) h
    exact J_sub [0, 3, 4, 5, 6] rfl (hk104 x5 x6 m h)
  · replace h := Eq.mp (if_neg c7) h
    refine J_iload hX dX9_takeNumber_52 7 rfl ?_
    refine J_aload_n hX dX9_takeNumber_54 rfl 1 rfl ?_
    refine J_alen (v := (160 : Int32)) hX dX9_takeNumber_55 ka_241 (by decide) le_241 rfl ?_
    refine J_icmp_ge (tgt := 104) hX dX9_takeNumber_56 (by decide) (fun c8 => ?_) (fun c8 => ?_)
    · replace h := Eq.mp (if_pos c8) h
      exact J_sub [0, 3, 4, 5, 6] rfl (hk104 x5 x6 m h)
    · replace h := Eq.mp (if_neg c8) h
      refine J_aload_n hX dX9_takeNumber_59 rfl 1 rfl ?_
      refine J_iload hX dX9_takeNumber_60 7 rfl ?_
      obtain ⟨b9, h⟩ := h
      refine J_iald (j := x7.toNatClampNeg) hX dX9_takeNumber_62 ka_241 le_241 b9 rfl ?_
      refine J_callS hX km_X9_isDigit kl_RX9_57 dX9_takeNumber_63 [.int (m.1 241 x7.toNatClampNeg)] ⟨Nat.le_of_ble_eq_true rfl, Nat.le_of_ble_eq_true rfl⟩ rfl rfl (Nat.le_of_ble_eq_true rfl) (c_X9_isDigit (m.1 241 x7.toNatClampNeg) m) (fun v w2 hk => ?_)
      obtain ⟨rfl, rfl⟩ := hk
      show J X (0, 0) 66 [(0, .ref (ad 242)), (1, .ref (ad 241)), (2, .int x2), (3, .int x3), (4, .int x4), (5, .int x5), (6, .int x6), (7, .int x7)] [.int (v_X9_isDigit (m.1 241 x7.toNatClampNeg))] (fl ad m)
      refine J_if_eq (tgt := 104) hX dX9_takeNumber_66 (by decide) (fun c10 => ?_) (fun c10 => ?_)
      · replace h := Eq.mp (if_pos c10) h
        exact J_sub [0, 3, 4, 5, 6] rfl (hk104 x5 x6 m h)
      · replace h := Eq.mp (if_neg c10) h
        refine J_iinc (x := (x5 + (1 : Int32))) (lv2 := [(5, .int (x5 + (1 : Int32))), (0, .ref (ad 242)), (1, .ref (ad 241)), (2, .int x2), (3, .int x3), (4, .int x4), (6, .int x6), (7, .int x7)]) hX dX9_takeNumber_69 5 rfl rfl (Nat.le_of_ble_eq_true rfl) rfl ?_
        refine J_iload hX dX9_takeNumber_72 0 rfl ?_
        refine J_iconst (v := (3 : Int32)) hX dX9_takeNumber_74 (by decide) ?_
        have hj13 : ∀ y12 : Int32, y12 = (if (x5 + (1 : Int32)) ≤ (3 : Int32) then ((((10 : Int32) * x6) + (m.1 241 x7.toNatClampNeg)) - (48 : Int32)) else x6) → J X (0, 0) 96 [(0, .ref (ad 242)), (1, .ref (ad 241)), (2, .int x2), (3, .int x3), (4, .int x4), (5, .int (x5 + (1 : Int32))), (7, .int x7)] [.int y12] (fl ad m) := by
          intro y12 e_y12
          replace h := h y12 e_y12
          refine J_istore (lv2 := [(6, .int y12), (0, .ref (ad 242)), (1, .ref (ad 241)), (2, .int x2), (3, .int x3), (4, .int x4), (5, .int (x5 + (1 : Int32))), (7, .int x7)]) hX dX9_takeNumber_96 (Nat.le_of_ble_eq_true rfl) rfl ?_
          refine J_iinc (x := (x7 + (1 : Int32))) (lv2 := [(7, .int (x7 + (1 : Int32))), (6, .int y12), (0, .ref (ad 242)), (1, .ref (ad 241)), (2, .int x2), (3, .int x3), (4, .int x4), (5, .int (x5 + (1 : Int32)))]) hX dX9_takeNumber_98 7 rfl rfl (Nat.le_of_ble_eq_true rfl) rfl ?_
          refine J_goto (tgt := 46) hX dX9_takeNumber_101 (by decide) ?_
          exact J_sub [2, 3, 4, 5, 6, 7, 1, 0] rfl (hrec (x5 + (1 : Int32)) y12 (x7 + (1 : Int32)) m h)
        refine J_icmp_le (tgt := 83) hX dX9_takeNumber_75 (by decide) (fun c11 => ?_) (fun c11 => ?_)
        · refine J_bipush (v := (10 : Int32)) hX dX9_takeNumber_83 (by decide) ?_
          refine J_iload hX dX9_takeNumber_85 6 rfl ?_
          refine J_imul hX dX9_takeNumber_87 ?_
          refine J_aload_n hX dX9_takeNumber_88 rfl 2 rfl ?_
          refine J_iload hX dX9_takeNumber_89 7 rfl ?_
          refine J_iald (j := x7.toNatClampNeg) hX dX9_takeNumber_91 ka_241 le_241 b9 rfl ?_
          refine J_iadd hX dX9_takeNumber_92 ?_
          refine J_bipush (v := (48 : Int32)) hX dX9_takeNumber_93 (by decide) ?_
          refine J_isub hX dX9_takeNumber_95 ?_
          exact J_sub [1, 2, 3, 4, 5, 0, 7] rfl (hj13 _ (if_pos c11).symm)
        · refine J_iload hX dX9_takeNumber_78 6 rfl ?_
          refine J_goto (tgt := 96) hX dX9_takeNumber_80 (by decide) ?_
          exact J_sub [1, 2, 3, 4, 5, 0, 7] rfl (hj13 _ (if_neg c11).symm)
set_option maxRecDepth 100000 in
theorem t_X9_takeNumber_l46 {X : XT} {ad : Nat → Nat} {K : Mm → Prop} (hX : Cx X cX9_takeNumber 8 RX9 (rmN 1 22)) (hR : Rx X none (kV ad K) (0, 0)) {k104 : Int32 → Int32 → Mm → Prop} (x2 : Int32) (x3 : Int32) (x4 : Int32) (hk104 : ∀ (z5 : Int32) (z6 : Int32) (m : Mm), k104 z5 z6 m → J X (0, 0) 104 [(0, .ref (ad 242)), (3, .int x3), (4, .int x4), (5, .int z5), (6, .int z6)] [] (fl ad m)) : ∀ (n : Nat) (x5 : Int32) (x6 : Int32) (x7 : Int32) (m : Mm), wp_X9_takeNumber_l46 k104 K x2 x3 x4 n x5 x6 x7 m → J X (0, 0) 46 [(0, .ref (ad 242)), (1, .ref (ad 241)), (2, .int x2), (3, .int x3), (4, .int x4), (5, .int x5), (6, .int x6), (7, .int x7)] [] (fl ad m) := by
  intro n
  induction n with
  | zero => intro x5 x6 x7 m h; exact h.elim
  | succ n ih => intro x5 x6 x7 m h; exact tb_X9_takeNumber_l46 hX hR x2 x3 x4 ih hk104 x5 x6 x7 m h
set_option maxRecDepth 100000 in
theorem t_X9_takeNumber_j115 {X : XT} {ad : Nat → Nat} {K : Mm → Prop} (hX : Cx X cX9_takeNumber 8 RX9 (rmN 1 22)) (hR : Rx X none (kV ad K) (0, 0)) (x3 : Int32) (m : Mm) (h : wp_X9_takeNumber_j115 K x3 m) : J X (0, 0) 115 [(0, .ref (ad 242)), (3, .int x3)] [] (fl ad m) := by
  unfold wp_X9_takeNumber_j115 at h
  refine J_aload_n hX dX9_takeNumber_115 rfl 0 rfl ?_
  refine J_iconst (v := (1 : Int32)) hX dX9_takeNumber_116 (by decide) ?_
  refine J_iload_n hX dX9_takeNumber_117 rfl 1 rfl ?_
  refine J_callV hX km_X9_fail kl_RX9_53 dX9_takeNumber_118 ka_242 (by decide) [.int (1 : Int32), .int x3] ⟨Nat.le_of_ble_eq_true rfl, Nat.le_of_ble_eq_true rfl⟩ rfl rfl (Nat.le_of_ble_eq_true rfl) (c_X9_fail (1 : Int32) x3 m _ h) (fun v w2 hk => ?_)
  obtain ⟨m18, rfl, rfl, h⟩ := hk
  show J X (0, 0) 121 [(0, .ref (ad 242)), (3, .int x3)] [] (fl ad m18)
  refine J_goto (tgt := 198) hX dX9_takeNumber_121 (by decide) ?_
  exact J_vret hX hR dX9_takeNumber_198 ⟨_, rfl, rfl, h⟩
set_option maxRecDepth 100000 in
theorem t_X9_takeNumber_j157 {X : XT} {ad : Nat → Nat} {K : Mm → Prop} (hX : Cx X cX9_takeNumber 8 RX9 (rmN 1 22)) (hR : Rx X none (kV ad K) (0, 0)) (x3 : Int32) (m : Mm) (h : wp_X9_takeNumber_j157 K x3 m) : J X (0, 0) 157 [(0, .ref (ad 242)), (3, .int x3)] [] (fl ad m) := by
  unfold wp_X9_takeNumber_j157 at h
  refine J_aload_n hX dX9_takeNumber_157 rfl 0 rfl ?_
  refine J_iconst (v := (2 : Int32)) hX dX9_takeNumber_158 (by decide) ?_
  refine J_iload_n hX dX9_takeNumber_159 rfl 1 rfl ?_
  refine J_callV hX km_X9_fail kl_RX9_53 dX9_takeNumber_160 ka_242 (by decide) [.int (2 : Int32), .int x3] ⟨Nat.le_of_ble_eq_true rfl, Nat.le_of_ble_eq_true rfl⟩ rfl rfl (Nat.le_of_ble_eq_true rfl) (c_X9_fail (2 : Int32) x3 m _ h) (fun v w2 hk => ?_)
  obtain ⟨m21, rfl, rfl, h⟩ := hk
  show J X (0, 0) 163 [(0, .ref (ad 242)), (3, .int x3)] [] (fl ad m21)
  refine J_goto (tgt := 198) hX dX9_takeNumber_163 (by decide) ?_
  exact J_vret hX hR dX9_takeNumber_198 ⟨_, rfl, rfl, h⟩
set_option maxRecDepth 100000 in
theorem c_X9_takeNumber {G : GT} {ad : Nat → Nat} (x2 : Int32) (x3 : Int32) (m : Mm) (K : Mm → Prop) (h : wp_X9_takeNumber x2 x3 m K) : Cn G yX9_takeNumber cX9_takeNumber 8 none (rmN 1 22) [.ref (ad 242), .ref (ad 241), .int x2, .int x3] (0, 0) (fl ad m) (kV ad K) := by
  unfold wp_X9_takeNumber at h
  refine Cn.of pn_RX9 (Nat.le_of_ble_eq_true rfl) (fun X hG hX hR => ?_)
  subst hG
  have hX : Cx X cX9_takeNumber 8 RX9 (rmN 1 22) := hX
  show J X (0, 0) 0 [(0, .ref (ad 242)), (1, .ref (ad 241)), (2, .int x2), (3, .int x3)] [] (fl ad m)
  refine J_iload_n hX dX9_takeNumber_0 rfl 3 rfl ?_
  refine J_if_lt (tgt := 10) hX dX9_takeNumber_1 (by decide) (fun c1 => ?_) (fun c1 => ?_)
  · replace h := Eq.mp (if_pos c1) h
    exact J_vret hX hR dX9_takeNumber_10 ⟨_, rfl, rfl, h⟩
  · replace h := Eq.mp (if_neg c1) h
    refine J_iload_n hX dX9_takeNumber_4 rfl 3 rfl ?_
    refine J_aload_n hX dX9_takeNumber_5 rfl 1 rfl ?_
    refine J_alen (v := (160 : Int32)) hX dX9_takeNumber_6 ka_241 (by decide) le_241 rfl ?_
    refine J_icmp_lt (tgt := 11) hX dX9_takeNumber_7 (by decide) (fun c2 => ?_) (fun c2 => ?_)
    · replace h := Eq.mp (if_pos c2) h
      refine J_aload_n hX dX9_takeNumber_11 rfl 1 rfl ?_
      refine J_iload_n hX dX9_takeNumber_12 rfl 3 rfl ?_
      refine J_iald (j := x3.toNatClampNeg) hX dX9_takeNumber_13 ka_241 le_241 (vp_b (lo_2 c1) (up_1 c2 (by decide))) rfl ?_
      refine J_bipush (v := (45 : Int32)) hX dX9_takeNumber_14 (by decide) ?_
      have hj31 : ∀ y4 : Int32, y4 = (if (m.1 241 x3.toNatClampNeg) = (45 : Int32) then (1 : Int32) else (0 : Int32)) → J X (0, 0) 24 [(0, .ref (ad 242)), (1, .ref (ad 241)), (2, .int x2), (3, .int x3)] [.int y4] (fl ad m) := by
        intro y4 e_y4
        replace h := h y4 e_y4
        refine J_istore (lv2 := [(4, .int y4), (0, .ref (ad 242)), (1, .ref (ad 241)), (2, .int x2), (3, .int x3)]) hX dX9_takeNumber_24 (Nat.le_of_ble_eq_true rfl) rfl ?_
        refine J_iconst (v := (0 : Int32)) hX dX9_takeNumber_26 (by decide) ?_
        refine J_istore (lv2 := [(5, .int (0 : Int32)), (4, .int y4), (0, .ref (ad 242)), (1, .ref (ad 241)), (2, .int x2), (3, .int x3)]) hX dX9_takeNumber_27 (Nat.le_of_ble_eq_true rfl) rfl ?_
        refine J_iconst (v := (0 : Int32)) hX dX9_takeNumber_29 (by decide) ?_
        refine J_istore (lv2 := [(6, .int (0 : Int32)), (5, .int (0 : Int32)), (4, .int y4), (0, .ref (ad 242)), (1, .ref (ad 241)), (2, .int x2), (3, .int x3)]) hX dX9_takeNumber_30 (Nat.le_of_ble_eq_true rfl) rfl ?_
        refine J_iload hX dX9_takeNumber_32 2 rfl ?_
        have hj30 : ∀ y6 : Int32, y6 = (if y4 = (0 : Int32) then x3 else (x3 + (1 : Int32))) → J X (0, 0) 44 [(0, .ref (ad 242)), (1, .ref (ad 241)), (2, .int x2), (3, .int x3), (4, .int y4), (5, .int (0 : Int32)), (6, .int (0 : Int32))] [.int y6] (fl ad m) := by
          intro y6 e_y6
          replace h := h y6 e_y6
          refine J_istore (lv2 := [(7, .int y6), (0, .ref (ad 242)), (1, .ref (ad 241)), (2, .int x2), (3, .int x3), (4, .int y4), (5, .int (0 : Int32)), (6, .int (0 : Int32))]) hX dX9_takeNumber_44 (Nat.le_of_ble_eq_true rfl) rfl ?_
          refine J_sub [1, 2, 3, 4, 5, 6, 7, 0] rfl (t_X9_takeNumber_l46 hX hR x2 x3 y4 (fun y14 y15 m16 h => ?_) FU (0 : Int32) (0 : Int32) y6 m h)
          refine J_iload hX dX9_takeNumber_104 3 rfl ?_
          refine J_if_eq (tgt := 115) hX dX9_takeNumber_106 (by decide) (fun c17 => ?_) (fun c17 => ?_)
          · replace h := Eq.mp (if_pos c17) h
            exact J_sub [0, 1] rfl (t_X9_takeNumber_j115 hX hR x3 m16 h)
          · replace h := Eq.mp (if_neg c17) h
            refine J_iload hX dX9_takeNumber_109 3 rfl ?_
            refine J_iconst (v := (3 : Int32)) hX dX9_takeNumber_111 (by decide) ?_
            refine J_icmp_le (tgt := 124) hX dX9_takeNumber_112 (by decide) (fun c19 => ?_) (fun c19 => ?_)
            · replace h := Eq.mp (if_pos c19) h
              refine J_aload_n hX dX9_takeNumber_124 rfl 0 rfl ?_
              refine J_getI hX kf_RX9_28 dX9_takeNumber_125 ka_242 (by decide) rfl ?_
              refine J_if_eq (tgt := 157) hX dX9_takeNumber_128 (by decide) (fun c20 => ?_) (fun c20 => ?_)
              · replace h := Eq.mp (if_pos c20) h
                exact J_sub [0, 1] rfl (t_X9_takeNumber_j157 hX hR x3 m16 h)
              · replace h := Eq.mp (if_neg c20) h
                refine J_aload_n hX dX9_takeNumber_131 rfl 0 rfl ?_
                refine J_getI hX kf_RX9_31 dX9_takeNumber_132 ka_242 (by decide) rfl ?_
                refine J_aload_n hX dX9_takeNumber_135 rfl 0 rfl ?_
                refine J_getI hX kf_RX9_28 dX9_takeNumber_136 ka_242 (by decide) rfl ?_
                refine J_callS hX km_X9_numbersOf kl_RX9_68 dX9_takeNumber_139 [.int (m16.1 242 4)] ⟨Nat.le_of_ble_eq_true rfl, Nat.le_of_ble_eq_true rfl⟩ rfl rfl (Nat.le_of_ble_eq_true rfl) (c_X9_numbersOf (m16.1 242 4) m16) (fun v w2 hk => ?_)
                obtain ⟨rfl, rfl⟩ := hk
                show J X (0, 0) 142 [(0, .ref (ad 242)), (3, .int x3), (4, .int y4), (5, .int y14), (6, .int y15)] [.int (v_X9_numbersOf (m16.1 242 4)), .int (m16.1 242 5)] (fl ad m16)
                refine J_icmp_ge (tgt := 157) hX dX9_takeNumber_142 (by decide) (fun c22 => ?_) (fun c22 => ?_)
                · replace h := Eq.mp (if_pos c22) h
                  exact J_sub [0, 1] rfl (t_X9_takeNumber_j157 hX hR x3 m16 h)
                · replace h := Eq.mp (if_neg c22) h
                  refine J_aload_n hX dX9_takeNumber_145 rfl 0 rfl ?_
                  refine J_getI hX kf_RX9_31 dX9_takeNumber_146 ka_242 (by decide) rfl ?_
                  refine J_aload_n hX dX9_takeNumber_149 rfl 0 rfl ?_
                  refine J_getR hX kf_RX9_38 dX9_takeNumber_150 ka_242 (by decide) rfl rh_242_7 ?_
                  refine J_alen (v := (6 : Int32)) hX dX9_takeNumber_153 ka_258 (by decide) le_258 rfl ?_
                  refine J_icmp_lt (tgt := 166) hX dX9_takeNumber_154 (by decide) (fun c23 => ?_) (fun c23 => ?_)
                  · replace h := Eq.mp (if_pos c23) h
                    refine J_aload_n hX dX9_takeNumber_166 rfl 0 rfl ?_
                    refine J_getR hX kf_RX9_38 dX9_takeNumber_167 ka_242 (by decide) rfl rh_242_7 ?_
                    refine J_aload_n hX dX9_takeNumber_170 rfl 0 rfl ?_
                    refine J_getI hX kf_RX9_31 dX9_takeNumber_171 ka_242 (by decide) rfl ?_
                    refine J_iload hX dX9_takeNumber_174 2 rfl ?_
                    have hj29 : ∀ y25 : Int32, y25 = (if y4 = (0 : Int32) then y15 else (-y15)) → J X (0, 0) 187 [(0, .ref (ad 242))] [.int y25, .int (m16.1 242 5), .ref (ad 258)] (fl ad m16) := by
                      intro y25 e_y25
                      replace h := h y25 e_y25
                      obtain ⟨b26, h⟩ := h
                      refine J_iast (j := (m16.1 242 5).toNatClampNeg) hX dX9_takeNumber_187 ka_258 le_258 b26 rfl ?_
                      refine J_nmM (fun m27 e_m27 => ?_)
                      replace h := h m27 e_m27
                      refine J_aload_n hX dX9_takeNumber_188 rfl 0 rfl ?_
                      refine J_dup hX dX9_takeNumber_189 rfl ?_
                      refine J_getI hX kf_RX9_31 dX9_takeNumber_190 ka_242 (by decide) rfl ?_
                      refine J_iconst (v := (1 : Int32)) hX dX9_takeNumber_193 (by decide) ?_
                      refine J_iadd hX dX9_takeNumber_194 ?_
                      refine J_putI hX kf_RX9_31 dX9_takeNumber_195 ka_242 (by decide) rfl ?_
                      refine J_nmM (fun m28 e_m28 => ?_)
                      replace h := h m28 e_m28
                      exact J_vret hX hR dX9_takeNumber_198 ⟨_, rfl, rfl, h⟩
                    refine J_if_eq (tgt := 185) hX dX9_takeNumber_176 (by decide) (fun c24 => ?_) (fun c24 => ?_)
                    · refine J_iload hX dX9_takeNumber_185 4 rfl ?_
                      exact J_sub [0] rfl (hj29 _ (if_pos c24).symm)
                    · refine J_iload hX dX9_takeNumber_179 4 rfl ?_
                      refine J_ineg hX dX9_takeNumber_181 ?_
                      refine J_goto (tgt := 187) hX dX9_takeNumber_182 (by decide) ?_
                      exact J_sub [0] rfl (hj29 _ (if_neg c24).symm)
                  · replace h := Eq.mp (if_neg c23) h
                    exact J_sub [0, 1] rfl (t_X9_takeNumber_j157 hX hR x3 m16 h)
            · replace h := Eq.mp (if_neg c19) h
              exact J_sub [0, 1] rfl (t_X9_takeNumber_j115 hX hR x3 m16 h)
        refine J_if_eq (tgt := 43) hX dX9_takeNumber_34 (by decide) (fun c5 => ?_) (fun c5 => ?_)
        · refine J_iload_n hX dX9_takeNumber_43 rfl 6 rfl ?_
          exact J_sub [3, 4, 5, 6, 2, 1, 0] rfl (hj30 _ (if_pos c5).symm)
        · refine J_iload_n hX dX9_takeNumber_37 rfl 6 rfl ?_
          refine J_iconst (v := (1 : Int32)) hX dX9_takeNumber_38 (by decide) ?_
          refine J_iadd hX dX9_takeNumber_39 ?_
          refine J_goto (tgt := 44) hX dX9_takeNumber_40 (by decide) ?_
          exact J_sub [3, 4, 5, 6, 2, 1, 0] rfl (hj30 _ (if_neg c5).symm)
      refine J_icmp_ne (tgt := 23) hX dX9_takeNumber_16 (by decide) (fun c3 => ?_) (fun c3 => ?_)
      · refine J_iconst (v := (0 : Int32)) hX dX9_takeNumber_23 (by decide) ?_
        exact J_sub [0, 1, 2, 3] rfl (hj31 _ (if_neg c3).symm)
      · refine J_iconst (v := (1 : Int32)) hX dX9_takeNumber_19 (by decide) ?_
        refine J_goto (tgt := 24) hX dX9_takeNumber_20 (by decide) ?_
        exact J_sub [0, 1, 2, 3] rfl (hj31 _ (if_pos c3).symm)
    · replace h := Eq.mp (if_neg c2) h
      exact J_vret hX hR dX9_takeNumber_10 ⟨_, rfl, rfl, h⟩
set_option maxRecDepth 100000 in
theorem c_X9_endItem {G : GT} {ad : Nat → Nat} (x1 : Int32) (m : Mm) (K : Mm → Prop) (h : wp_X9_endItem x1 m K) : Cn G yX9_endItem cX9_endItem 2 none (rmN 1 22) [.ref (ad 242), .int x1] (0, 0) (fl ad m) (kV ad K) := by
  unfold wp_X9_endItem at h
  refine Cn.of pn_RX9 (Nat.le_of_ble_eq_true rfl) (fun X hG hX hR => ?_)
  subst hG
  have hX : Cx X cX9_endItem 2 RX9 (rmN 1 22) := hX
  show J X (0, 0) 0 [(0, .ref (ad 242)), (1, .int x1)] [] (fl ad m)
  refine J_aload_n hX dX9_endItem_0 rfl 0 rfl ?_
  refine J_aload_n hX dX9_endItem_1 rfl 0 rfl ?_
  refine J_getI hX kf_RX9_28 dX9_endItem_2 ka_242 (by decide) rfl ?_
  have hj7 : ∀ y3 : Int32, y3 = (if (m.1 242 4) = (0 : Int32) then (0 : Int32) else (if (m.1 242 5) < (v_X9_numbersOf (m.1 242 4)) then (0 : Int32) else (1 : Int32))) → J X (0, 0) 27 [(0, .ref (ad 242)), (1, .int x1)] [.int y3, .ref (ad 242)] (fl ad m) := by
    intro y3 e_y3
    replace h := h y3 e_y3
    refine J_putZ hX kf_RX9_34 dX9_endItem_27 ka_242 (by decide) rfl (by rw [e_y3]; exact (bo_ite bo_0 (bo_ite bo_0 bo_1))) ?_
    refine J_nmM (fun m4 e_m4 => ?_)
    replace h := h m4 e_m4
    refine J_aload_n hX dX9_endItem_30 rfl 0 rfl ?_
    refine J_getI hX kf_RX9_34 dX9_endItem_31 ka_242 (by decide) rfl ?_
    refine J_if_ne (tgt := 43) hX dX9_endItem_34 (by decide) (fun c5 => ?_) (fun c5 => ?_)
    · replace h := Eq.mp (if_neg c5) h
      exact J_vret hX hR dX9_endItem_43 ⟨_, rfl, rfl, h⟩
    · replace h := Eq.mp (if_pos c5) h
      refine J_aload_n hX dX9_endItem_37 rfl 0 rfl ?_
      refine J_iconst (v := (2 : Int32)) hX dX9_endItem_38 (by decide) ?_
      refine J_iload_n hX dX9_endItem_39 rfl 1 rfl ?_
      refine J_callV hX km_X9_fail kl_RX9_53 dX9_endItem_40 ka_242 (by decide) [.int (2 : Int32), .int x1] ⟨Nat.le_of_ble_eq_true rfl, Nat.le_of_ble_eq_true rfl⟩ rfl rfl (Nat.le_of_ble_eq_true rfl) (c_X9_fail (2 : Int32) x1 m4 _ h) (fun v w2 hk => ?_)
      obtain ⟨m6, rfl, rfl, h⟩ := hk
      show J X (0, 0) 43 [(0, .ref (ad 242)), (1, .int x1)] [] (fl ad m6)
      exact J_vret hX hR dX9_endItem_43 ⟨_, rfl, rfl, h⟩
  refine J_if_eq (tgt := 26) hX dX9_endItem_5 (by decide) (fun c1 => ?_) (fun c1 => ?_)
  · refine J_iconst (v := (0 : Int32)) hX dX9_endItem_26 (by decide) ?_
    exact J_sub [0, 1] rfl (hj7 _ (if_pos c1).symm)
  · refine J_aload_n hX dX9_endItem_8 rfl 0 rfl ?_
    refine J_getI hX kf_RX9_31 dX9_endItem_9 ka_242 (by decide) rfl ?_
    refine J_aload_n hX dX9_endItem_12 rfl 0 rfl ?_
    refine J_getI hX kf_RX9_28 dX9_endItem_13 ka_242 (by decide) rfl ?_
    refine J_callS hX km_X9_numbersOf kl_RX9_68 dX9_endItem_16 [.int (m.1 242 4)] ⟨Nat.le_of_ble_eq_true rfl, Nat.le_of_ble_eq_true rfl⟩ rfl rfl (Nat.le_of_ble_eq_true rfl) (c_X9_numbersOf (m.1 242 4) m) (fun v w2 hk => ?_)
    obtain ⟨rfl, rfl⟩ := hk
    show J X (0, 0) 19 [(0, .ref (ad 242)), (1, .int x1)] [.int (v_X9_numbersOf (m.1 242 4)), .int (m.1 242 5), .ref (ad 242)] (fl ad m)
    refine J_icmp_lt (tgt := 26) hX dX9_endItem_19 (by decide) (fun c2 => ?_) (fun c2 => ?_)
    · refine J_iconst (v := (0 : Int32)) hX dX9_endItem_26 (by decide) ?_
      exact J_sub [0, 1] rfl (hj7 _ ((if_neg c1).trans (if_pos c2)).symm)
    · refine J_iconst (v := (1 : Int32)) hX dX9_endItem_22 (by decide) ?_
      refine J_goto (tgt := 27) hX dX9_endItem_23 (by decide) ?_
      exact J_sub [0, 1] rfl (hj7 _ ((if_neg c1).trans (if_neg c2)).symm)
set_option maxRecDepth 100000 in
theorem c_X9_beginItem {G : GT} {ad : Nat → Nat} (x1 : Int32) (x2 : Int32) (m : Mm) (K : Mm → Prop) (h : wp_X9_beginItem x1 x2 m K) : Cn G yX9_beginItem cX9_beginItem 3 none (rmN 1 22) [.ref (ad 242), .int x1, .int x2] (0, 0) (fl ad m) (kV ad K) := by
  unfold wp_X9_beginItem at h
  refine Cn.of pn_RX9 (Nat.le_of_ble_eq_true rfl) (fun X hG hX hR => ?_)
  subst hG
  have hX : Cx X cX9_beginItem 3 RX9 (rmN 1 22) := hX
  show J X (0, 0) 0 [(0, .ref (ad 242)), (1, .int x1), (2, .int x2)] [] (fl ad m)
  refine J_aload_n hX dX9_beginItem_0 rfl 0 rfl ?_
  refine J_getI hX kf_RX9_28 dX9_beginItem_1 ka_242 (by decide) rfl ?_
  refine J_if_eq (tgt := 14) hX dX9_beginItem_4 (by decide) (fun c1 => ?_) (fun c1 => ?_)
  · replace h := Eq.mp (if_pos c1) h
    refine J_aload_n hX dX9_beginItem_14 rfl 0 rfl ?_
    refine J_iload_n hX dX9_beginItem_15 rfl 1 rfl ?_
    refine J_putI hX kf_RX9_28 dX9_beginItem_16 ka_242 (by decide) rfl ?_
    refine J_nmM (fun m2 e_m2 => ?_)
    replace h := h m2 e_m2
    refine J_aload_n hX dX9_beginItem_19 rfl 0 rfl ?_
    refine J_iconst (v := (0 : Int32)) hX dX9_beginItem_20 (by decide) ?_
    refine J_putI hX kf_RX9_31 dX9_beginItem_21 ka_242 (by decide) rfl ?_
    refine J_nmM (fun m3 e_m3 => ?_)
    replace h := h m3 e_m3
    exact J_vret hX hR dX9_beginItem_24 ⟨_, rfl, rfl, h⟩
  · replace h := Eq.mp (if_neg c1) h
    refine J_aload_n hX dX9_beginItem_7 rfl 0 rfl ?_
    refine J_iconst (v := (2 : Int32)) hX dX9_beginItem_8 (by decide) ?_
    refine J_iload_n hX dX9_beginItem_9 rfl 2 rfl ?_
    refine J_callV hX km_X9_fail kl_RX9_53 dX9_beginItem_10 ka_242 (by decide) [.int (2 : Int32), .int x2] ⟨Nat.le_of_ble_eq_true rfl, Nat.le_of_ble_eq_true rfl⟩ rfl rfl (Nat.le_of_ble_eq_true rfl) (c_X9_fail (2 : Int32) x2 m _ h) (fun v w2 hk => ?_)
    obtain ⟨m4, rfl, rfl, h⟩ := hk
    show J X (0, 0) 13 [(0, .ref (ad 242)), (1, .int x1), (2, .int x2)] [] (fl ad m4)
    exact J_vret hX hR dX9_beginItem_13 ⟨_, rfl, rfl, h⟩
set_option maxRecDepth 100000 in
theorem t_X9_takeByte_j82 {X : XT} {ad : Nat → Nat} {K : Mm → Prop} (hX : Cx X cX9_takeByte 6 RX9 (rmN 2 49)) (hR : Rx X none (kV ad K) (0, 0)) (m : Mm) (h : wp_X9_takeByte_j82 K m) : J X (0, 0) 82 [] [] (fl ad m) := by
  unfold wp_X9_takeByte_j82 at h
  refine J_goto (tgt := 131) hX dX9_takeByte_82 (by decide) ?_
  exact J_vret hX hR dX9_takeByte_131 ⟨_, rfl, rfl, h⟩
set_option maxRecDepth 100000 in
theorem t_X9_takeByte_j75 {X : XT} {ad : Nat → Nat} {K : Mm → Prop} (hX : Cx X cX9_takeByte 6 RX9 (rmN 2 49)) (hR : Rx X none (kV ad K) (0, 0)) (x2 : Int32) (x3 : Int32) (m : Mm) (h : wp_X9_takeByte_j75 K x2 x3 m) : J X (0, 0) 75 [(0, .ref (ad 242)), (1, .ref (ad 241)), (2, .int x2), (3, .int x3)] [] (fl ad m) := by
  unfold wp_X9_takeByte_j75 at h
  refine J_aload_n hX dX9_takeByte_75 rfl 0 rfl ?_
  refine J_aload_n hX dX9_takeByte_76 rfl 1 rfl ?_
  refine J_iload_n hX dX9_takeByte_77 rfl 2 rfl ?_
  refine J_iload_n hX dX9_takeByte_78 rfl 3 rfl ?_
  refine J_callV hX km_X9_takeNumber kl_RX9_61 dX9_takeByte_79 ka_242 (by decide) [.ref (ad 241), .int x2, .int x3] ⟨Nat.le_of_ble_eq_true rfl, Nat.le_of_ble_eq_true rfl⟩ rfl rfl (Nat.le_of_ble_eq_true rfl) (c_X9_takeNumber x2 x3 m _ h) (fun v w2 hk => ?_)
  obtain ⟨m12, rfl, rfl, h⟩ := hk
  show J X (0, 0) 82 [(0, .ref (ad 242)), (1, .ref (ad 241)), (2, .int x2), (3, .int x3)] [] (fl ad m12)
  exact J_sub [] rfl (t_X9_takeByte_j82 hX hR m12 h)
set_option maxRecDepth 100000 in
theorem t_X9_takeByte_j31 {X : XT} {ad : Nat → Nat} {K : Mm → Prop} (hX : Cx X cX9_takeByte 6 RX9 (rmN 2 49)) (hR : Rx X none (kV ad K) (0, 0)) (x2 : Int32) (x3 : Int32) (x4 : Int32) (m : Mm) (h : wp_X9_takeByte_j31 K x2 x3 x4 m) : J X (0, 0) 31 [(0, .ref (ad 242)), (1, .ref (ad 241)), (2, .int x2), (3, .int x3), (4, .int x4)] [] (fl ad m) := by
  unfold wp_X9_takeByte_j31 at h
  refine J_iload_n hX dX9_takeByte_31 rfl 3 rfl ?_
  obtain ⟨g9, h⟩ := h
  have hj14 : ∀ y10 : Int32, y10 = (if x3 ≤ (0 : Int32) then (0 : Int32) else (if (v_X9_isDigit (m.1 241 (x3 - (1 : Int32)).toNatClampNeg)) = (0 : Int32) then (if (m.1 241 (x3 - (1 : Int32)).toNatClampNeg) = (45 : Int32) then (1 : Int32) else (0 : Int32)) else (1 : Int32))) → J X (0, 0) 61 [(0, .ref (ad 242)), (1, .ref (ad 241)), (2, .int x2), (3, .int x3), (4, .int x4)] [.int y10] (fl ad m) := by
    intro y10 e_y10
    replace h := h y10 e_y10
    refine J_istore (lv2 := [(5, .int y10), (0, .ref (ad 242)), (1, .ref (ad 241)), (2, .int x2), (3, .int x3), (4, .int x4)]) hX dX9_takeByte_61 (Nat.le_of_ble_eq_true rfl) rfl ?_
    refine J_iload hX dX9_takeByte_63 5 rfl ?_
    refine J_bipush (v := (45 : Int32)) hX dX9_takeByte_65 (by decide) ?_
    refine J_icmp_eq (tgt := 75) hX dX9_takeByte_67 (by decide) (fun c11 => ?_) (fun c11 => ?_)
    · replace h := Eq.mp (if_pos c11) h
      exact J_sub [1, 2, 3, 4] rfl (t_X9_takeByte_j75 hX hR x2 x3 m h)
    · replace h := Eq.mp (if_neg c11) h
      refine J_iload hX dX9_takeByte_70 0 rfl ?_
      refine J_if_ne (tgt := 82) hX dX9_takeByte_72 (by decide) (fun c13 => ?_) (fun c13 => ?_)
      · replace h := Eq.mp (if_neg c13) h
        exact J_sub [] rfl (t_X9_takeByte_j82 hX hR m h)
      · replace h := Eq.mp (if_pos c13) h
        exact J_sub [1, 2, 3, 4] rfl (t_X9_takeByte_j75 hX hR x2 x3 m h)
  have g15 := g9
  refine J_if_le (tgt := 60) hX dX9_takeByte_32 (by decide) (fun c5 => ?_) (fun c5 => ?_)
  · refine J_iconst (v := (0 : Int32)) hX dX9_takeByte_60 (by decide) ?_
    exact J_sub [0, 1, 2, 3, 4] rfl (hj14 _ (if_pos c5).symm)
  · have g16 := g15 c5
    have b6 := g16
    refine J_aload_n hX dX9_takeByte_35 rfl 1 rfl ?_
    refine J_iload_n hX dX9_takeByte_36 rfl 3 rfl ?_
    refine J_iconst (v := (1 : Int32)) hX dX9_takeByte_37 (by decide) ?_
    refine J_isub hX dX9_takeByte_38 ?_
    refine J_iald (j := (x3 - (1 : Int32)).toNatClampNeg) hX dX9_takeByte_39 ka_241 le_241 b6 rfl ?_
    refine J_callS hX km_X9_isDigit kl_RX9_57 dX9_takeByte_40 [.int (m.1 241 (x3 - (1 : Int32)).toNatClampNeg)] ⟨Nat.le_of_ble_eq_true rfl, Nat.le_of_ble_eq_true rfl⟩ rfl rfl (Nat.le_of_ble_eq_true rfl) (c_X9_isDigit (m.1 241 (x3 - (1 : Int32)).toNatClampNeg) m) (fun v w2 hk => ?_)
    obtain ⟨rfl, rfl⟩ := hk
    show J X (0, 0) 43 [(0, .ref (ad 242)), (1, .ref (ad 241)), (2, .int x2), (3, .int x3), (4, .int x4)] [.int (v_X9_isDigit (m.1 241 (x3 - (1 : Int32)).toNatClampNeg))] (fl ad m)
    refine J_if_ne (tgt := 56) hX dX9_takeByte_43 (by decide) (fun c7 => ?_) (fun c7 => ?_)
    · refine J_iconst (v := (1 : Int32)) hX dX9_takeByte_56 (by decide) ?_
      refine J_goto (tgt := 61) hX dX9_takeByte_57 (by decide) ?_
      exact J_sub [0, 1, 2, 3, 4] rfl (hj14 _ ((if_neg c5).trans (if_neg c7)).symm)
    · refine J_aload_n hX dX9_takeByte_46 rfl 1 rfl ?_
      refine J_iload_n hX dX9_takeByte_47 rfl 3 rfl ?_
      refine J_iconst (v := (1 : Int32)) hX dX9_takeByte_48 (by decide) ?_
      refine J_isub hX dX9_takeByte_49 ?_
      refine J_iald (j := (x3 - (1 : Int32)).toNatClampNeg) hX dX9_takeByte_50 ka_241 le_241 b6 rfl ?_
      refine J_bipush (v := (45 : Int32)) hX dX9_takeByte_51 (by decide) ?_
      refine J_icmp_ne (tgt := 60) hX dX9_takeByte_53 (by decide) (fun c8 => ?_) (fun c8 => ?_)
      · refine J_iconst (v := (0 : Int32)) hX dX9_takeByte_60 (by decide) ?_
        exact J_sub [0, 1, 2, 3, 4] rfl (hj14 _ ((if_neg c5).trans ((if_pos c7).trans (if_neg c8))).symm)
      · refine J_iconst (v := (1 : Int32)) hX dX9_takeByte_56 (by decide) ?_
        refine J_goto (tgt := 61) hX dX9_takeByte_57 (by decide) ?_
        exact J_sub [0, 1, 2, 3, 4] rfl (hj14 _ ((if_neg c5).trans ((if_pos c7).trans (if_pos c8))).symm)
set_option maxRecDepth 100000 in
theorem c_X9_takeByte {G : GT} {ad : Nat → Nat} (x2 : Int32) (x3 : Int32) (m : Mm) (K : Mm → Prop) (h : wp_X9_takeByte x2 x3 m K) : Cn G yX9_takeByte cX9_takeByte 6 none (rmN 2 49) [.ref (ad 242), .ref (ad 241), .int x2, .int x3] (0, 0) (fl ad m) (kV ad K) := by
  unfold wp_X9_takeByte at h
  refine Cn.of pn_RX9 (Nat.le_of_ble_eq_true rfl) (fun X hG hX hR => ?_)
  subst hG
  have hX : Cx X cX9_takeByte 6 RX9 (rmN 2 49) := hX
  show J X (0, 0) 0 [(0, .ref (ad 242)), (1, .ref (ad 241)), (2, .int x2), (3, .int x3)] [] (fl ad m)
  refine J_iload_n hX dX9_takeByte_0 rfl 3 rfl ?_
  refine J_if_lt (tgt := 10) hX dX9_takeByte_1 (by decide) (fun c1 => ?_) (fun c1 => ?_)
  · replace h := Eq.mp (if_pos c1) h
    exact J_vret hX hR dX9_takeByte_10 ⟨_, rfl, rfl, h⟩
  · replace h := Eq.mp (if_neg c1) h
    refine J_iload_n hX dX9_takeByte_4 rfl 3 rfl ?_
    refine J_aload_n hX dX9_takeByte_5 rfl 1 rfl ?_
    refine J_alen (v := (160 : Int32)) hX dX9_takeByte_6 ka_241 (by decide) le_241 rfl ?_
    refine J_icmp_lt (tgt := 11) hX dX9_takeByte_7 (by decide) (fun c2 => ?_) (fun c2 => ?_)
    · replace h := Eq.mp (if_pos c2) h
      refine J_aload_n hX dX9_takeByte_11 rfl 1 rfl ?_
      refine J_iload_n hX dX9_takeByte_12 rfl 3 rfl ?_
      refine J_iald (j := x3.toNatClampNeg) hX dX9_takeByte_13 ka_241 le_241 (vp_b (lo_2 c1) (up_1 c2 (by decide))) rfl ?_
      refine J_nmI (fun y3 e_y3 => ?_)
      replace h := h y3 e_y3
      refine J_istore (lv2 := [(4, .int y3), (0, .ref (ad 242)), (1, .ref (ad 241)), (2, .int x2), (3, .int x3)]) hX dX9_takeByte_14 (Nat.le_of_ble_eq_true rfl) rfl ?_
      refine J_iload hX dX9_takeByte_16 0 rfl ?_
      refine J_callS hX km_X9_isDigit kl_RX9_57 dX9_takeByte_18 [.int y3] ⟨Nat.le_of_ble_eq_true rfl, Nat.le_of_ble_eq_true rfl⟩ rfl rfl (Nat.le_of_ble_eq_true rfl) (c_X9_isDigit y3 m) (fun v w2 hk => ?_)
      obtain ⟨rfl, rfl⟩ := hk
      show J X (0, 0) 21 [(4, .int y3), (0, .ref (ad 242)), (1, .ref (ad 241)), (2, .int x2), (3, .int x3)] [.int (v_X9_isDigit y3)] (fl ad m)
      refine J_if_ne (tgt := 31) hX dX9_takeByte_21 (by decide) (fun c4 => ?_) (fun c4 => ?_)
      · replace h := Eq.mp (if_neg c4) h
        exact J_sub [1, 2, 3, 4, 0] rfl (t_X9_takeByte_j31 hX hR x2 x3 y3 m h)
      · replace h := Eq.mp (if_pos c4) h
        refine J_iload hX dX9_takeByte_24 0 rfl ?_
        refine J_bipush (v := (45 : Int32)) hX dX9_takeByte_26 (by decide) ?_
        refine J_icmp_ne (tgt := 85) hX dX9_takeByte_28 (by decide) (fun c17 => ?_) (fun c17 => ?_)
        · replace h := Eq.mp (if_neg c17) h
          refine J_iload hX dX9_takeByte_85 0 rfl ?_
          refine J_bipush (v := (59 : Int32)) hX dX9_takeByte_87 (by decide) ?_
          refine J_icmp_ne (tgt := 100) hX dX9_takeByte_89 (by decide) (fun c18 => ?_) (fun c18 => ?_)
          · replace h := Eq.mp (if_neg c18) h
            refine J_iload hX dX9_takeByte_100 0 rfl ?_
            refine J_callS hX km_X9_numbersOf kl_RX9_68 dX9_takeByte_102 [.int y3] ⟨Nat.le_of_ble_eq_true rfl, Nat.le_of_ble_eq_true rfl⟩ rfl rfl (Nat.le_of_ble_eq_true rfl) (c_X9_numbersOf y3 m) (fun v w2 hk => ?_)
            obtain ⟨rfl, rfl⟩ := hk
            show J X (0, 0) 105 [(4, .int y3), (0, .ref (ad 242)), (1, .ref (ad 241)), (2, .int x2), (3, .int x3)] [.int (v_X9_numbersOf y3)] (fl ad m)
            refine J_if_le (tgt := 118) hX dX9_takeByte_105 (by decide) (fun c19 => ?_) (fun c19 => ?_)
            · replace h := Eq.mp (if_pos c19) h
              refine J_iload hX dX9_takeByte_118 0 rfl ?_
              refine J_bipush (v := (32 : Int32)) hX dX9_takeByte_120 (by decide) ?_
              refine J_icmp_eq (tgt := 131) hX dX9_takeByte_122 (by decide) (fun c20 => ?_) (fun c20 => ?_)
              · replace h := Eq.mp (if_pos c20) h
                exact J_vret hX hR dX9_takeByte_131 ⟨_, rfl, rfl, h⟩
              · replace h := Eq.mp (if_neg c20) h
                refine J_aload_n hX dX9_takeByte_125 rfl 1 rfl ?_
                refine J_iconst (v := (1 : Int32)) hX dX9_takeByte_126 (by decide) ?_
                refine J_iload_n hX dX9_takeByte_127 rfl 4 rfl ?_
                refine J_callV hX km_X9_fail kl_RX9_53 dX9_takeByte_128 ka_242 (by decide) [.int (1 : Int32), .int x3] ⟨Nat.le_of_ble_eq_true rfl, Nat.le_of_ble_eq_true rfl⟩ rfl rfl (Nat.le_of_ble_eq_true rfl) (c_X9_fail (1 : Int32) x3 m _ h) (fun v w2 hk => ?_)
                obtain ⟨m21, rfl, rfl, h⟩ := hk
                show J X (0, 0) 131 [(4, .int y3), (0, .ref (ad 242)), (1, .ref (ad 241)), (2, .int x2), (3, .int x3)] [] (fl ad m21)
                exact J_vret hX hR dX9_takeByte_131 ⟨_, rfl, rfl, h⟩
            · replace h := Eq.mp (if_neg c19) h
              refine J_aload_n hX dX9_takeByte_108 rfl 1 rfl ?_
              refine J_iload hX dX9_takeByte_109 0 rfl ?_
              refine J_iload_n hX dX9_takeByte_111 rfl 4 rfl ?_
              refine J_callV hX km_X9_beginItem kl_RX9_72 dX9_takeByte_112 ka_242 (by decide) [.int y3, .int x3] ⟨Nat.le_of_ble_eq_true rfl, Nat.le_of_ble_eq_true rfl⟩ rfl rfl (Nat.le_of_ble_eq_true rfl) (c_X9_beginItem y3 x3 m _ h) (fun v w2 hk => ?_)
              obtain ⟨m22, rfl, rfl, h⟩ := hk
              show J X (0, 0) 115 [(4, .int y3), (0, .ref (ad 242)), (1, .ref (ad 241)), (2, .int x2), (3, .int x3)] [] (fl ad m22)
              refine J_goto (tgt := 131) hX dX9_takeByte_115 (by decide) ?_
              exact J_vret hX hR dX9_takeByte_131 ⟨_, rfl, rfl, h⟩
          · replace h := Eq.mp (if_pos c18) h
            refine J_aload_n hX dX9_takeByte_92 rfl 1 rfl ?_
            refine J_iload_n hX dX9_takeByte_93 rfl 4 rfl ?_
            refine J_callV hX km_X9_endItem kl_RX9_64 dX9_takeByte_94 ka_242 (by decide) [.int x3] ⟨Nat.le_of_ble_eq_true rfl, Nat.le_of_ble_eq_true rfl⟩ rfl rfl (Nat.le_of_ble_eq_true rfl) (c_X9_endItem x3 m _ h) (fun v w2 hk => ?_)
            obtain ⟨m23, rfl, rfl, h⟩ := hk
            show J X (0, 0) 97 [(4, .int y3), (0, .ref (ad 242)), (1, .ref (ad 241)), (2, .int x2), (3, .int x3)] [] (fl ad m23)
            refine J_goto (tgt := 131) hX dX9_takeByte_97 (by decide) ?_
            exact J_vret hX hR dX9_takeByte_131 ⟨_, rfl, rfl, h⟩
        · replace h := Eq.mp (if_pos c17) h
          exact J_sub [1, 2, 3, 4, 0] rfl (t_X9_takeByte_j31 hX hR x2 x3 y3 m h)
    · replace h := Eq.mp (if_neg c2) h
      exact J_vret hX hR dX9_takeByte_10 ⟨_, rfl, rfl, h⟩
set_option maxRecDepth 100000 in
theorem tb_X3_sheetFault_l30 {X : XT} {ad : Nat → Nat} {K : Int32 → Mm → Prop} (hX : Cx X cX3_sheetFault 5 RX3 (rmN 1 21)) (hR : Rx X (some .int) (kI ad K) (0, 0)) {rec : Int32 → Mm → Prop} (a0 : Nat) (h0 : kap a0 = 3) (x1 : Int32) (x2 : Int32) (hrec : ∀ (x3 : Int32) (m : Mm), rec x3 m → J X (0, 0) 30 [(0, .ref (ad a0)), (1, .int x1), (2, .int x2), (3, .int x3)] [] (fl ad m)) (x3 : Int32) (m : Mm) (h : wb_X3_sheetFault_l30 rec K a0 x1 x2 x3 m) : J X (0, 0) 30 [(0, .ref (ad a0)), (1, .int x1), (2, .int x2), (3, .int x3)] [] (fl ad m) := by
  unfold wb_X3_sheetFault_l30 at h
  refine J_iload_n hX dX3_sheetFault_30 rfl 3 rfl ?_
  refine J_aload_n hX dX3_sheetFault_31 rfl 0 rfl ?_
  refine J_getI hX kf_RX3_25 dX3_sheetFault_32 h0 (by decide) rfl ?_
  refine J_icmp_ge (tgt := 84) hX dX3_sheetFault_35 (by decide) (fun c5 => ?_) (fun c5 => ?_)
  · replace h := Eq.mp (if_pos c5) h
    refine J_iconst (v := (0 : Int32)) hX dX3_sheetFault_84 (by decide) ?_
    exact J_iret hX hR dX3_sheetFault_85 ⟨_, _, rfl, rfl, h⟩
  · replace h := Eq.mp (if_neg c5) h
    refine J_aload_n hX dX3_sheetFault_38 rfl 0 rfl ?_
    refine J_iload_n hX dX3_sheetFault_39 rfl 3 rfl ?_
    refine J_callV hX km_X3_panelAt kl_RX3_39 dX3_sheetFault_40 h0 (by decide) [.int x3] ⟨Nat.le_of_ble_eq_true rfl, Nat.le_of_ble_eq_true rfl⟩ rfl rfl (Nat.le_of_ble_eq_true rfl) (c_X3_panelAt a0 h0 x3 m) (fun v w2 hk => ?_)
    obtain ⟨rfl, rfl⟩ := hk
    show J X (0, 0) 43 [(0, .ref (ad a0)), (1, .int x1), (2, .int x2), (3, .int x3)] [.ref (ad (v_X3_panelAt a0 x3))] (fl ad m)
    refine J_astore (lv2 := [(4, .ref (ad (v_X3_panelAt a0 x3))), (0, .ref (ad a0)), (1, .int x1), (2, .int x2), (3, .int x3)]) hX dX3_sheetFault_43 (Nat.le_of_ble_eq_true rfl) rfl ?_
    refine J_aload hX dX3_sheetFault_45 0 rfl ?_
    refine J_getI hX kf_RX3_47 dX3_sheetFault_47 (kv_X3_panelAt h0) (by decide) rfl ?_
    refine J_aload hX dX3_sheetFault_50 0 rfl ?_
    refine J_getI hX kf_RX3_50 dX3_sheetFault_52 (kv_X3_panelAt h0) (by decide) rfl ?_
    refine J_iadd hX dX3_sheetFault_55 ?_
    refine J_iload_n hX dX3_sheetFault_56 rfl 2 rfl ?_
    refine J_icmp_gt (tgt := 75) hX dX3_sheetFault_57 (by decide) (fun c6 => ?_) (fun c6 => ?_)
    · replace h := Eq.mp (if_pos c6) h
      refine J_bipush (v := (-4 : Int32)) hX dX3_sheetFault_75 (by decide) ?_
      exact J_iret hX hR dX3_sheetFault_77 ⟨_, _, rfl, rfl, h⟩
    · replace h := Eq.mp (if_neg c6) h
      refine J_aload hX dX3_sheetFault_60 0 rfl ?_
      refine J_getI hX kf_RX3_53 dX3_sheetFault_62 (kv_X3_panelAt h0) (by decide) rfl ?_
      refine J_aload hX dX3_sheetFault_65 0 rfl ?_
      refine J_getI hX kf_RX3_56 dX3_sheetFault_67 (kv_X3_panelAt h0) (by decide) rfl ?_
      refine J_iadd hX dX3_sheetFault_70 ?_
      refine J_iload_n hX dX3_sheetFault_71 rfl 3 rfl ?_
      refine J_icmp_le (tgt := 78) hX dX3_sheetFault_72 (by decide) (fun c7 => ?_) (fun c7 => ?_)
      · replace h := Eq.mp (if_pos c7) h
        refine J_iinc (x := (x3 + (1 : Int32))) (lv2 := [(3, .int (x3 + (1 : Int32))), (4, .ref (ad (v_X3_panelAt a0 x3))), (0, .ref (ad a0)), (1, .int x1), (2, .int x2)]) hX dX3_sheetFault_78 4 rfl rfl (Nat.le_of_ble_eq_true rfl) rfl ?_
        refine J_goto (tgt := 30) hX dX3_sheetFault_81 (by decide) ?_
        exact J_sub [2, 3, 4, 0] rfl (hrec (x3 + (1 : Int32)) m h)
      · replace h := Eq.mp (if_neg c7) h
        refine J_bipush (v := (-4 : Int32)) hX dX3_sheetFault_75 (by decide) ?_
        exact J_iret hX hR dX3_sheetFault_77 ⟨_, _, rfl, rfl, h⟩
set_option maxRecDepth 100000 in
theorem t_X3_sheetFault_l30 {X : XT} {ad : Nat → Nat} {K : Int32 → Mm → Prop} (hX : Cx X cX3_sheetFault 5 RX3 (rmN 1 21)) (hR : Rx X (some .int) (kI ad K) (0, 0)) (a0 : Nat) (h0 : kap a0 = 3) (x1 : Int32) (x2 : Int32) : ∀ (n : Nat) (x3 : Int32) (m : Mm), wp_X3_sheetFault_l30 K a0 x1 x2 n x3 m → J X (0, 0) 30 [(0, .ref (ad a0)), (1, .int x1), (2, .int x2), (3, .int x3)] [] (fl ad m) := by
  intro n
  induction n with
  | zero => intro x3 m h; exact h.elim
  | succ n ih => intro x3 m h; exact tb_X3_sheetFault_l30 hX hR a0 h0 x1 x2 ih x3 m h
set_option maxRecDepth 100000 in
theorem c_X3_sheetFault {G : GT} {ad : Nat → Nat} (a0 : Nat) (h0 : kap a0 = 3) (x1 : Int32) (x2 : Int32) (m : Mm) (K : Int32 → Mm → Prop) (h : wp_X3_sheetFault a0 x1 x2 m K) : Cn G yX3_sheetFault cX3_sheetFault 5 (some .int) (rmN 1 21) [.ref (ad a0), .int x1, .int x2] (0, 0) (fl ad m) (kI ad K) := by
  unfold wp_X3_sheetFault at h
  refine Cn.of pn_RX3 (Nat.le_of_ble_eq_true rfl) (fun X hG hX hR => ?_)
  subst hG
  have hX : Cx X cX3_sheetFault 5 RX3 (rmN 1 21) := hX
  show J X (0, 0) 0 [(0, .ref (ad a0)), (1, .int x1), (2, .int x2)] [] (fl ad m)
  refine J_iload_n hX dX3_sheetFault_0 rfl 1 rfl ?_
  refine J_bipush (v := (20 : Int32)) hX dX3_sheetFault_1 (by decide) ?_
  refine J_icmp_lt (tgt := 26) hX dX3_sheetFault_3 (by decide) (fun c1 => ?_) (fun c1 => ?_)
  · replace h := Eq.mp (if_pos c1) h
    refine J_iconst (v := (-1 : Int32)) hX dX3_sheetFault_26 (by decide) ?_
    exact J_iret hX hR dX3_sheetFault_27 ⟨_, _, rfl, rfl, h⟩
  · replace h := Eq.mp (if_neg c1) h
    refine J_iload_n hX dX3_sheetFault_6 rfl 1 rfl ?_
    refine J_sipush (v := (300 : Int32)) hX dX3_sheetFault_7 (by decide) ?_
    refine J_icmp_gt (tgt := 26) hX dX3_sheetFault_10 (by decide) (fun c2 => ?_) (fun c2 => ?_)
    · replace h := Eq.mp (if_pos c2) h
      refine J_iconst (v := (-1 : Int32)) hX dX3_sheetFault_26 (by decide) ?_
      exact J_iret hX hR dX3_sheetFault_27 ⟨_, _, rfl, rfl, h⟩
    · replace h := Eq.mp (if_neg c2) h
      refine J_iload_n hX dX3_sheetFault_13 rfl 2 rfl ?_
      refine J_bipush (v := (20 : Int32)) hX dX3_sheetFault_14 (by decide) ?_
      refine J_icmp_lt (tgt := 26) hX dX3_sheetFault_16 (by decide) (fun c3 => ?_) (fun c3 => ?_)
      · replace h := Eq.mp (if_pos c3) h
        refine J_iconst (v := (-1 : Int32)) hX dX3_sheetFault_26 (by decide) ?_
        exact J_iret hX hR dX3_sheetFault_27 ⟨_, _, rfl, rfl, h⟩
      · replace h := Eq.mp (if_neg c3) h
        refine J_iload_n hX dX3_sheetFault_19 rfl 2 rfl ?_
        refine J_sipush (v := (300 : Int32)) hX dX3_sheetFault_20 (by decide) ?_
        refine J_icmp_le (tgt := 28) hX dX3_sheetFault_23 (by decide) (fun c4 => ?_) (fun c4 => ?_)
        · replace h := Eq.mp (if_pos c4) h
          refine J_iconst (v := (0 : Int32)) hX dX3_sheetFault_28 (by decide) ?_
          refine J_istore_n (lv2 := [(3, .int (0 : Int32)), (0, .ref (ad a0)), (1, .int x1), (2, .int x2)]) hX dX3_sheetFault_29 rfl (Nat.le_of_ble_eq_true rfl) rfl ?_
          refine J_sub [1, 2, 3, 0] rfl (t_X3_sheetFault_l30 hX hR a0 h0 x1 x2 FU (0 : Int32) m h)
        · replace h := Eq.mp (if_neg c4) h
          refine J_iconst (v := (-1 : Int32)) hX dX3_sheetFault_26 (by decide) ?_
          exact J_iret hX hR dX3_sheetFault_27 ⟨_, _, rfl, rfl, h⟩
set_option maxRecDepth 100000 in
theorem c_X3_changeSheet {G : GT} {ad : Nat → Nat} (a0 : Nat) (h0 : kap a0 = 3) (x1 : Int32) (x2 : Int32) (m : Mm) (K : Int32 → Mm → Prop) (h : wp_X3_changeSheet a0 x1 x2 m K) : Cn G yX3_changeSheet cX3_changeSheet 4 (some .int) (rmN 0 0) [.ref (ad a0), .int x1, .int x2] (0, 0) (fl ad m) (kI ad K) := by
  unfold wp_X3_changeSheet at h
  refine Cn.of pn_RX3 (Nat.le_of_ble_eq_true rfl) (fun X hG hX hR => ?_)
  subst hG
  have hX : Cx X cX3_changeSheet 4 RX3 (rmN 0 0) := hX
  show J X (0, 0) 0 [(0, .ref (ad a0)), (1, .int x1), (2, .int x2)] [] (fl ad m)
  refine J_aload_n hX dX3_changeSheet_0 rfl 0 rfl ?_
  refine J_getI hX kf_RX3_18 dX3_changeSheet_1 h0 (by decide) rfl ?_
  refine J_nmI (fun y1 e_y1 => ?_)
  replace h := h y1 e_y1
  refine J_istore_n (lv2 := [(3, .int y1), (0, .ref (ad a0)), (1, .int x1), (2, .int x2)]) hX dX3_changeSheet_4 rfl (Nat.le_of_ble_eq_true rfl) rfl ?_
  refine J_aload_n hX dX3_changeSheet_5 rfl 1 rfl ?_
  refine J_iload_n hX dX3_changeSheet_6 rfl 2 rfl ?_
  refine J_putI hX kf_RX3_18 dX3_changeSheet_7 h0 (by decide) rfl ?_
  refine J_nmM (fun m2 e_m2 => ?_)
  replace h := h m2 e_m2
  refine J_aload_n hX dX3_changeSheet_10 rfl 1 rfl ?_
  refine J_iload_n hX dX3_changeSheet_11 rfl 3 rfl ?_
  refine J_putI hX kf_RX3_22 dX3_changeSheet_12 h0 (by decide) rfl ?_
  refine J_nmM (fun m3 e_m3 => ?_)
  replace h := h m3 e_m3
  refine J_iload_n hX dX3_changeSheet_15 rfl 0 rfl ?_
  exact J_iret hX hR dX3_changeSheet_16 ⟨_, _, rfl, rfl, h⟩
set_option maxRecDepth 100000 in
theorem c_X3_baseFault {G : GT} {ad : Nat → Nat} (a0 : Nat) (h0 : kap a0 = 3) (x1 : Int32) (x2 : Int32) (x3 : Int32) (x4 : Int32) (m : Mm) : Cn G yX3_baseFault cX3_baseFault 5 (some .int) (rmN 1 20) [.ref (ad a0), .int x1, .int x2, .int x3, .int x4] (0, 0) (fl ad m) (fun v w => v = some (.int (v_X3_baseFault a0 x1 x2 x3 x4 m)) ∧ w = fl ad m) := by
  refine Cn.of pn_RX3 (Nat.le_of_ble_eq_true rfl) (fun X hG hX hR => ?_)
  subst hG
  have hX : Cx X cX3_baseFault 5 RX3 (rmN 1 20) := hX
  show J X (0, 0) 0 [(0, .ref (ad a0)), (1, .int x1), (2, .int x2), (3, .int x3), (4, .int x4)] [] (fl ad m)
  refine J_iload_n hX dX3_baseFault_0 rfl 1 rfl ?_
  refine J_callSN hX km_X11_isOffset kl_RX3_59 dX3_baseFault_1 [.int x1] ⟨Nat.le_of_ble_eq_true rfl, Nat.le_of_ble_eq_true rfl⟩ rfl rfl (Nat.le_of_ble_eq_true rfl) (c_X11_isOffset x1 m) (fun v w2 hk => ?_)
  obtain ⟨rfl, rfl⟩ := hk
  show J X (0, 0) 4 [(0, .ref (ad a0)), (1, .int x1), (2, .int x2), (3, .int x3), (4, .int x4)] [.int (v_X11_isOffset x1)] (fl ad m)
  refine J_if_eq (tgt := 29) hX dX3_baseFault_4 (by decide) (fun c1 => ?_) (fun c1 => ?_)
  · refine J_iconst (v := (-1 : Int32)) hX dX3_baseFault_29 (by decide) ?_
    exact J_iret hX hR dX3_baseFault_30 (And.intro (congrArg (fun z => some (Value.int z)) (show (-1 : Int32) = v_X3_baseFault a0 x1 x2 x3 x4 m from (if_pos c1).symm)) rfl)
  · refine J_iload_n hX dX3_baseFault_7 rfl 2 rfl ?_
    refine J_callSN hX km_X11_isOffset kl_RX3_59 dX3_baseFault_8 [.int x2] ⟨Nat.le_of_ble_eq_true rfl, Nat.le_of_ble_eq_true rfl⟩ rfl rfl (Nat.le_of_ble_eq_true rfl) (c_X11_isOffset x2 m) (fun v w2 hk => ?_)
    obtain ⟨rfl, rfl⟩ := hk
    show J X (0, 0) 11 [(0, .ref (ad a0)), (1, .int x1), (2, .int x2), (3, .int x3), (4, .int x4)] [.int (v_X11_isOffset x2)] (fl ad m)
    refine J_if_eq (tgt := 29) hX dX3_baseFault_11 (by decide) (fun c2 => ?_) (fun c2 => ?_)
    · refine J_iconst (v := (-1 : Int32)) hX dX3_baseFault_29 (by decide) ?_
      exact J_iret hX hR dX3_baseFault_30 (And.intro (congrArg (fun z => some (Value.int z)) (show (-1 : Int32) = v_X3_baseFault a0 x1 x2 x3 x4 m from ((if_neg c1).trans (if_pos c2)).symm)) rfl)
    · refine J_iload_n hX dX3_baseFault_14 rfl 3 rfl ?_
      refine J_callSN hX km_X11_isLength kl_RX3_63 dX3_baseFault_15 [.int x3] ⟨Nat.le_of_ble_eq_true rfl, Nat.le_of_ble_eq_true rfl⟩ rfl rfl (Nat.le_of_ble_eq_true rfl) (c_X11_isLength x3 m) (fun v w2 hk => ?_)
      obtain ⟨rfl, rfl⟩ := hk
      show J X (0, 0) 18 [(0, .ref (ad a0)), (1, .int x1), (2, .int x2), (3, .int x3), (4, .int x4)] [.int (v_X11_isLength x3)] (fl ad m)
      refine J_if_eq (tgt := 29) hX dX3_baseFault_18 (by decide) (fun c3 => ?_) (fun c3 => ?_)
      · refine J_iconst (v := (-1 : Int32)) hX dX3_baseFault_29 (by decide) ?_
        exact J_iret hX hR dX3_baseFault_30 (And.intro (congrArg (fun z => some (Value.int z)) (show (-1 : Int32) = v_X3_baseFault a0 x1 x2 x3 x4 m from ((if_neg c1).trans ((if_neg c2).trans (if_pos c3))).symm)) rfl)
      · refine J_iload hX dX3_baseFault_21 4 rfl ?_
        refine J_callSN hX km_X11_isLength kl_RX3_63 dX3_baseFault_23 [.int x4] ⟨Nat.le_of_ble_eq_true rfl, Nat.le_of_ble_eq_true rfl⟩ rfl rfl (Nat.le_of_ble_eq_true rfl) (c_X11_isLength x4 m) (fun v w2 hk => ?_)
        obtain ⟨rfl, rfl⟩ := hk
        show J X (0, 0) 26 [(0, .ref (ad a0)), (1, .int x1), (2, .int x2), (3, .int x3), (4, .int x4)] [.int (v_X11_isLength x4)] (fl ad m)
        refine J_if_ne (tgt := 31) hX dX3_baseFault_26 (by decide) (fun c4 => ?_) (fun c4 => ?_)
        · refine J_iload_n hX dX3_baseFault_31 rfl 1 rfl ?_
          refine J_iload_n hX dX3_baseFault_32 rfl 3 rfl ?_
          refine J_iadd hX dX3_baseFault_33 ?_
          refine J_aload_n hX dX3_baseFault_34 rfl 0 rfl ?_
          refine J_getI hX kf_RX3_18 dX3_baseFault_35 h0 (by decide) rfl ?_
          have hj7 : ∀ y8 : Int32, y8 = (if (m.1 a0 2) < (x1 + x3) then (-4 : Int32) else (if (x2 + x4) ≤ (m.1 a0 3) then (0 : Int32) else (-4 : Int32))) → J X (0, 0) 58 [] [.int y8] (fl ad m) := by
            intro y8 e_y8
            subst e_y8
            exact J_iret hX hR dX3_baseFault_58 (And.intro (congrArg (fun z => some (Value.int z)) (show (if (m.1 a0 2) < (x1 + x3) then (-4 : Int32) else (if (x2 + x4) ≤ (m.1 a0 3) then (0 : Int32) else (-4 : Int32))) = v_X3_baseFault a0 x1 x2 x3 x4 m from ((if_neg c1).trans ((if_neg c2).trans ((if_neg c3).trans (if_neg c4)))).symm)) rfl)
          refine J_icmp_gt (tgt := 52) hX dX3_baseFault_38 (by decide) (fun c5 => ?_) (fun c5 => ?_)
          · refine J_bipush (v := (-4 : Int32)) hX dX3_baseFault_52 (by decide) ?_
            refine J_goto (tgt := 58) hX dX3_baseFault_54 (by decide) ?_
            exact J_sub [] rfl (hj7 _ (if_pos c5).symm)
          · refine J_iload_n hX dX3_baseFault_41 rfl 2 rfl ?_
            refine J_iload hX dX3_baseFault_42 4 rfl ?_
            refine J_iadd hX dX3_baseFault_44 ?_
            refine J_aload_n hX dX3_baseFault_45 rfl 0 rfl ?_
            refine J_getI hX kf_RX3_22 dX3_baseFault_46 h0 (by decide) rfl ?_
            refine J_icmp_le (tgt := 57) hX dX3_baseFault_49 (by decide) (fun c6 => ?_) (fun c6 => ?_)
            · refine J_iconst (v := (0 : Int32)) hX dX3_baseFault_57 (by decide) ?_
              exact J_sub [] rfl (hj7 _ ((if_neg c5).trans (if_pos c6)).symm)
            · refine J_bipush (v := (-4 : Int32)) hX dX3_baseFault_52 (by decide) ?_
              refine J_goto (tgt := 58) hX dX3_baseFault_54 (by decide) ?_
              exact J_sub [] rfl (hj7 _ ((if_neg c5).trans (if_neg c6)).symm)
        · refine J_iconst (v := (-1 : Int32)) hX dX3_baseFault_29 (by decide) ?_
          exact J_iret hX hR dX3_baseFault_30 (And.intro (congrArg (fun z => some (Value.int z)) (show (-1 : Int32) = v_X3_baseFault a0 x1 x2 x3 x4 m from ((if_neg c1).trans ((if_neg c2).trans ((if_neg c3).trans (if_pos c4)))).symm)) rfl)
set_option maxRecDepth 100000 in
theorem c_X3_startBase {G : GT} {ad : Nat → Nat} (a0 : Nat) (h0 : kap a0 = 3) (x1 : Int32) (x2 : Int32) (x3 : Int32) (x4 : Int32) (m : Mm) (K : Int32 → Mm → Prop) (h : wp_X3_startBase a0 x1 x2 x3 x4 m K) : Cn G yX3_startBase cX3_startBase 7 (some .int) (rmN 1 21) [.ref (ad a0), .int x1, .int x2, .int x3, .int x4] (0, 0) (fl ad m) (kI ad K) := by
  unfold wp_X3_startBase at h
  refine Cn.of pn_RX3 (Nat.le_of_ble_eq_true rfl) (fun X hG hX hR => ?_)
  subst hG
  have hX : Cx X cX3_startBase 7 RX3 (rmN 1 21) := hX
  show J X (0, 0) 0 [(0, .ref (ad a0)), (1, .int x1), (2, .int x2), (3, .int x3), (4, .int x4)] [] (fl ad m)
  refine J_aload_n hX dX3_startBase_0 rfl 0 rfl ?_
  refine J_getI hX kf_RX3_25 dX3_startBase_1 h0 (by decide) rfl ?_
  refine J_nmI (fun y1 e_y1 => ?_)
  replace h := h y1 e_y1
  refine J_istore (lv2 := [(5, .int y1), (0, .ref (ad a0)), (1, .int x1), (2, .int x2), (3, .int x3), (4, .int x4)]) hX dX3_startBase_4 (Nat.le_of_ble_eq_true rfl) rfl ?_
  refine J_aload_n hX dX3_startBase_6 rfl 1 rfl ?_
  refine J_iconst (v := (0 : Int32)) hX dX3_startBase_7 (by decide) ?_
  refine J_callV hX km_X3_panelAt kl_RX3_39 dX3_startBase_8 h0 (by decide) [.int (0 : Int32)] ⟨Nat.le_of_ble_eq_true rfl, Nat.le_of_ble_eq_true rfl⟩ rfl rfl (Nat.le_of_ble_eq_true rfl) (c_X3_panelAt a0 h0 (0 : Int32) m) (fun v w2 hk => ?_)
  obtain ⟨rfl, rfl⟩ := hk
  show J X (0, 0) 11 [(5, .int y1), (0, .ref (ad a0)), (1, .int x1), (2, .int x2), (3, .int x3), (4, .int x4)] [.ref (ad (v_X3_panelAt a0 (0 : Int32)))] (fl ad m)
  refine J_astore (lv2 := [(6, .ref (ad (v_X3_panelAt a0 (0 : Int32)))), (5, .int y1), (0, .ref (ad a0)), (1, .int x1), (2, .int x2), (3, .int x3), (4, .int x4)]) hX dX3_startBase_11 (Nat.le_of_ble_eq_true rfl) rfl ?_
  refine J_aload hX dX3_startBase_13 0 rfl ?_
  refine J_callV hX km_X7_makePlain kl_RX3_66 dX3_startBase_15 (kv_X3_panelAt h0) (by decide) [] ⟨Nat.le_of_ble_eq_true rfl, Nat.le_of_ble_eq_true rfl⟩ rfl rfl (Nat.le_of_ble_eq_true rfl) (c_X7_makePlain (v_X3_panelAt a0 (0 : Int32)) (kv_X3_panelAt h0) m _ h) (fun v w2 hk => ?_)
  obtain ⟨m2, rfl, rfl, h⟩ := hk
  show J X (0, 0) 18 [(6, .ref (ad (v_X3_panelAt a0 (0 : Int32)))), (5, .int y1), (0, .ref (ad a0)), (1, .int x1), (2, .int x2), (3, .int x3), (4, .int x4)] [] (fl ad m2)
  refine J_aload hX dX3_startBase_18 0 rfl ?_
  refine J_bipush (v := (-9 : Int32)) hX dX3_startBase_20 (by decide) ?_
  refine J_putI hX kf_RX3_69 dX3_startBase_22 (kv_X3_panelAt h0) (by decide) rfl ?_
  refine J_nmM (fun m3 e_m3 => ?_)
  replace h := h m3 e_m3
  refine J_aload hX dX3_startBase_25 0 rfl ?_
  refine J_bipush (v := (-9 : Int32)) hX dX3_startBase_27 (by decide) ?_
  refine J_putI hX kf_RX3_72 dX3_startBase_29 (kv_X3_panelAt h0) (by decide) rfl ?_
  refine J_nmM (fun m4 e_m4 => ?_)
  replace h := h m4 e_m4
  refine J_aload hX dX3_startBase_32 0 rfl ?_
  refine J_iconst (v := (0 : Int32)) hX dX3_startBase_34 (by decide) ?_
  refine J_putI hX kf_RX3_75 dX3_startBase_35 (kv_X3_panelAt h0) (by decide) rfl ?_
  refine J_nmM (fun m5 e_m5 => ?_)
  replace h := h m5 e_m5
  refine J_aload hX dX3_startBase_38 0 rfl ?_
  refine J_iload_n hX dX3_startBase_40 rfl 3 rfl ?_
  refine J_putI hX kf_RX3_47 dX3_startBase_41 (kv_X3_panelAt h0) (by decide) rfl ?_
  refine J_nmM (fun m6 e_m6 => ?_)
  replace h := h m6 e_m6
  refine J_aload hX dX3_startBase_44 0 rfl ?_
  refine J_iload_n hX dX3_startBase_46 rfl 4 rfl ?_
  refine J_putI hX kf_RX3_53 dX3_startBase_47 (kv_X3_panelAt h0) (by decide) rfl ?_
  refine J_nmM (fun m7 e_m7 => ?_)
  replace h := h m7 e_m7
  refine J_aload hX dX3_startBase_50 0 rfl ?_
  refine J_iload_n hX dX3_startBase_52 rfl 5 rfl ?_
  refine J_putI hX kf_RX3_50 dX3_startBase_53 (kv_X3_panelAt h0) (by decide) rfl ?_
  refine J_nmM (fun m8 e_m8 => ?_)
  replace h := h m8 e_m8
  refine J_aload hX dX3_startBase_56 0 rfl ?_
  refine J_iload hX dX3_startBase_58 6 rfl ?_
  refine J_putI hX kf_RX3_56 dX3_startBase_60 (kv_X3_panelAt h0) (by decide) rfl ?_
  refine J_nmM (fun m9 e_m9 => ?_)
  replace h := h m9 e_m9
  refine J_aload_n hX dX3_startBase_63 rfl 2 rfl ?_
  refine J_iconst (v := (1 : Int32)) hX dX3_startBase_64 (by decide) ?_
  refine J_putI hX kf_RX3_25 dX3_startBase_65 h0 (by decide) rfl ?_
  refine J_nmM (fun m10 e_m10 => ?_)
  replace h := h m10 e_m10
  refine J_iload hX dX3_startBase_68 1 rfl ?_
  exact J_iret hX hR dX3_startBase_70 ⟨_, _, rfl, rfl, h⟩
set_option maxRecDepth 100000 in
theorem c_X9_hangPanel {G : GT} {ad : Nat → Nat} (m : Mm) (K : Int32 → Mm → Prop) (h : wp_X9_hangPanel m K) : Cn G yX9_hangPanel cX9_hangPanel 3 (some .boolean) (rmN 3 75) [.ref (ad 242)] (0, 0) (fl ad m) (kI ad K) := by
  unfold wp_X9_hangPanel at h
  refine Cn.of pn_RX9 (Nat.le_of_ble_eq_true rfl) (fun X hG hX hR => ?_)
  subst hG
  have hX : Cx X cX9_hangPanel 3 RX9 (rmN 3 75) := hX
  show J X (0, 0) 0 [(0, .ref (ad 242))] [] (fl ad m)
  refine J_aload_n hX dX9_hangPanel_0 rfl 0 rfl ?_
  refine J_getR hX kf_RX9_38 dX9_hangPanel_1 ka_242 (by decide) rfl rh_242_7 ?_
  refine J_astore_n (lv2 := [(1, .ref (ad 258)), (0, .ref (ad 242))]) hX dX9_hangPanel_4 rfl (Nat.le_of_ble_eq_true rfl) rfl ?_
  refine J_aload_n hX dX9_hangPanel_5 rfl 0 rfl ?_
  refine J_iconst (v := (5 : Int32)) hX dX9_hangPanel_6 (by decide) ?_
  refine J_iald (j := 5) hX dX9_hangPanel_7 ka_258 le_258 (vp_lit (by decide)) (by decide) ?_
  refine J_if_lt (tgt := 18) hX dX9_hangPanel_8 (by decide) (fun c1 => ?_) (fun c1 => ?_)
  · replace h := Eq.mp (if_pos c1) h
    refine J_iconst (v := (0 : Int32)) hX dX9_hangPanel_18 (by decide) ?_
    exact J_zret hX hR dX9_hangPanel_19 bo_0 ⟨_, _, rfl, rfl, h⟩
  · replace h := Eq.mp (if_neg c1) h
    refine J_aload_n hX dX9_hangPanel_11 rfl 0 rfl ?_
    refine J_iconst (v := (5 : Int32)) hX dX9_hangPanel_12 (by decide) ?_
    refine J_iald (j := 5) hX dX9_hangPanel_13 ka_258 le_258 (vp_lit (by decide)) (by decide) ?_
    refine J_iconst (v := (3 : Int32)) hX dX9_hangPanel_14 (by decide) ?_
    refine J_icmp_le (tgt := 20) hX dX9_hangPanel_15 (by decide) (fun c2 => ?_) (fun c2 => ?_)
    · replace h := Eq.mp (if_pos c2) h
      refine J_aload_n hX dX9_hangPanel_20 rfl 0 rfl ?_
      refine J_iconst (v := (5 : Int32)) hX dX9_hangPanel_21 (by decide) ?_
      refine J_iald (j := 5) hX dX9_hangPanel_22 ka_258 le_258 (vp_lit (by decide)) (by decide) ?_
      refine J_iconst (v := (3 : Int32)) hX dX9_hangPanel_23 (by decide) ?_
      have hj10 : ∀ y4 : Int32, y4 = (if (m.1 258 5) = (3 : Int32) then (-1 : Int32) else (m.1 258 5)) → J X (0, 0) 34 [(0, .ref (ad 242)), (1, .ref (ad 258))] [.int y4] (fl ad m) := by
        intro y4 e_y4
        replace h := h y4 e_y4
        refine J_istore_n (lv2 := [(2, .int y4), (0, .ref (ad 242)), (1, .ref (ad 258))]) hX dX9_hangPanel_34 rfl (Nat.le_of_ble_eq_true rfl) rfl ?_
        refine J_aload_n hX dX9_hangPanel_35 rfl 1 rfl ?_
        refine J_getR hX kf_RX9_12 dX9_hangPanel_36 ka_242 (by decide) rfl rh_242_0 ?_
        refine J_aload_n hX dX9_hangPanel_39 rfl 2 rfl ?_
        refine J_iconst (v := (0 : Int32)) hX dX9_hangPanel_40 (by decide) ?_
        refine J_iald (j := 0) hX dX9_hangPanel_41 ka_258 le_258 (vp_lit (by decide)) (by decide) ?_
        refine J_aload_n hX dX9_hangPanel_42 rfl 2 rfl ?_
        refine J_iconst (v := (1 : Int32)) hX dX9_hangPanel_43 (by decide) ?_
        refine J_iald (j := 1) hX dX9_hangPanel_44 ka_258 le_258 (vp_lit (by decide)) (by decide) ?_
        refine J_aload_n hX dX9_hangPanel_45 rfl 2 rfl ?_
        refine J_iconst (v := (2 : Int32)) hX dX9_hangPanel_46 (by decide) ?_
        refine J_iald (j := 2) hX dX9_hangPanel_47 ka_258 le_258 (vp_lit (by decide)) (by decide) ?_
        refine J_aload_n hX dX9_hangPanel_48 rfl 2 rfl ?_
        refine J_iconst (v := (3 : Int32)) hX dX9_hangPanel_49 (by decide) ?_
        refine J_iald (j := 3) hX dX9_hangPanel_50 ka_258 le_258 (vp_lit (by decide)) (by decide) ?_
        refine J_aload_n hX dX9_hangPanel_51 rfl 2 rfl ?_
        refine J_iconst (v := (4 : Int32)) hX dX9_hangPanel_52 (by decide) ?_
        refine J_iald (j := 4) hX dX9_hangPanel_53 ka_258 le_258 (vp_lit (by decide)) (by decide) ?_
        refine J_iload_n hX dX9_hangPanel_54 rfl 0 rfl ?_
        refine J_callV hX km_X3_hangFault kl_RX9_105 dX9_hangPanel_55 ka_243 (by decide) [.int (m.1 258 0), .int (m.1 258 1), .int (m.1 258 2), .int (m.1 258 3), .int (m.1 258 4), .int y4] ⟨Nat.le_of_ble_eq_true rfl, Nat.le_of_ble_eq_true rfl⟩ rfl rfl (Nat.le_of_ble_eq_true rfl) (c_X3_hangFault 243 ka_243 (m.1 258 0) (m.1 258 1) (m.1 258 2) (m.1 258 3) (m.1 258 4) y4 m _ h) (fun v w2 hk => ?_)
        obtain ⟨y6, m5, rfl, rfl, h⟩ := hk
        show J X (0, 0) 58 [(2, .int y4), (0, .ref (ad 242)), (1, .ref (ad 258))] [.int y6] (fl ad m5)
        refine J_if_eq (tgt := 63) hX dX9_hangPanel_58 (by decide) (fun c7 => ?_) (fun c7 => ?_)
        · replace h := Eq.mp (if_pos c7) h
          refine J_aload_n hX dX9_hangPanel_63 rfl 1 rfl ?_
          refine J_getR hX kf_RX9_12 dX9_hangPanel_64 ka_242 (by decide) rfl rh_242_0 ?_
          refine J_aload_n hX dX9_hangPanel_67 rfl 2 rfl ?_
          refine J_iconst (v := (0 : Int32)) hX dX9_hangPanel_68 (by decide) ?_
          refine J_iald (j := 0) hX dX9_hangPanel_69 ka_258 le_258 (vp_lit (by decide)) (by decide) ?_
          refine J_aload_n hX dX9_hangPanel_70 rfl 2 rfl ?_
          refine J_iconst (v := (1 : Int32)) hX dX9_hangPanel_71 (by decide) ?_
          refine J_iald (j := 1) hX dX9_hangPanel_72 ka_258 le_258 (vp_lit (by decide)) (by decide) ?_
          refine J_aload_n hX dX9_hangPanel_73 rfl 2 rfl ?_
          refine J_iconst (v := (2 : Int32)) hX dX9_hangPanel_74 (by decide) ?_
          refine J_iald (j := 2) hX dX9_hangPanel_75 ka_258 le_258 (vp_lit (by decide)) (by decide) ?_
          refine J_aload_n hX dX9_hangPanel_76 rfl 2 rfl ?_
          refine J_iconst (v := (3 : Int32)) hX dX9_hangPanel_77 (by decide) ?_
          refine J_iald (j := 3) hX dX9_hangPanel_78 ka_258 le_258 (vp_lit (by decide)) (by decide) ?_
          refine J_aload_n hX dX9_hangPanel_79 rfl 2 rfl ?_
          refine J_iconst (v := (4 : Int32)) hX dX9_hangPanel_80 (by decide) ?_
          refine J_iald (j := 4) hX dX9_hangPanel_81 ka_258 le_258 (vp_lit (by decide)) (by decide) ?_
          refine J_iload_n hX dX9_hangPanel_82 rfl 0 rfl ?_
          refine J_callV hX km_X3_hang kl_RX9_109 dX9_hangPanel_83 ka_243 (by decide) [.int (m5.1 258 0), .int (m5.1 258 1), .int (m5.1 258 2), .int (m5.1 258 3), .int (m5.1 258 4), .int y4] ⟨Nat.le_of_ble_eq_true rfl, Nat.le_of_ble_eq_true rfl⟩ rfl rfl (Nat.le_of_ble_eq_true rfl) (c_X3_hang 243 ka_243 (m5.1 258 0) (m5.1 258 1) (m5.1 258 2) (m5.1 258 3) (m5.1 258 4) y4 m5 _ h) (fun v w2 hk => ?_)
          obtain ⟨y9, m8, rfl, rfl, h⟩ := hk
          show J X (0, 0) 86 [(2, .int y4), (0, .ref (ad 242)), (1, .ref (ad 258))] [.int y9] (fl ad m8)
          refine J_pop hX dX9_hangPanel_86 rfl ?_
          refine J_iconst (v := (1 : Int32)) hX dX9_hangPanel_87 (by decide) ?_
          exact J_zret hX hR dX9_hangPanel_88 bo_1 ⟨_, _, rfl, rfl, h⟩
        · replace h := Eq.mp (if_neg c7) h
          refine J_iconst (v := (0 : Int32)) hX dX9_hangPanel_61 (by decide) ?_
          exact J_zret hX hR dX9_hangPanel_62 bo_0 ⟨_, _, rfl, rfl, h⟩
      refine J_icmp_ne (tgt := 31) hX dX9_hangPanel_24 (by decide) (fun c3 => ?_) (fun c3 => ?_)
      · refine J_aload_n hX dX9_hangPanel_31 rfl 0 rfl ?_
        refine J_iconst (v := (5 : Int32)) hX dX9_hangPanel_32 (by decide) ?_
        refine J_iald (j := 5) hX dX9_hangPanel_33 ka_258 le_258 (vp_lit (by decide)) (by decide) ?_
        exact J_sub [1, 0] rfl (hj10 _ (if_neg c3).symm)
      · refine J_iconst (v := (-1 : Int32)) hX dX9_hangPanel_27 (by decide) ?_
        refine J_goto (tgt := 34) hX dX9_hangPanel_28 (by decide) ?_
        exact J_sub [1, 0] rfl (hj10 _ (if_pos c3).symm)
    · replace h := Eq.mp (if_neg c2) h
      refine J_iconst (v := (0 : Int32)) hX dX9_hangPanel_18 (by decide) ?_
      exact J_zret hX hR dX9_hangPanel_19 bo_0 ⟨_, _, rfl, rfl, h⟩
set_option maxRecDepth 100000 in
theorem c_X3_flapFault {G : GT} {ad : Nat → Nat} (a0 : Nat) (h0 : kap a0 = 3) (x1 : Int32) (x2 : Int32) (m : Mm) : Cn G yX3_flapFault cX3_flapFault 4 (some .int) (rmN 1 21) [.ref (ad a0), .int x1, .int x2] (0, 0) (fl ad m) (fun v w => v = some (.int (v_X3_flapFault a0 x1 x2 m)) ∧ w = fl ad m) := by
  refine Cn.of pn_RX3 (Nat.le_of_ble_eq_true rfl) (fun X hG hX hR => ?_)
  subst hG
  have hX : Cx X cX3_flapFault 4 RX3 (rmN 1 21) := hX
  show J X (0, 0) 0 [(0, .ref (ad a0)), (1, .int x1), (2, .int x2)] [] (fl ad m)
  refine J_aload_n hX dX3_flapFault_0 rfl 0 rfl ?_
  refine J_iload_n hX dX3_flapFault_1 rfl 2 rfl ?_
  refine J_callV hX km_X3_has kl_RX3_78 dX3_flapFault_2 h0 (by decide) [.int x2] ⟨Nat.le_of_ble_eq_true rfl, Nat.le_of_ble_eq_true rfl⟩ rfl rfl (Nat.le_of_ble_eq_true rfl) (c_X3_has a0 h0 x2 m) (fun v w2 hk => ?_)
  obtain ⟨rfl, rfl⟩ := hk
  show J X (0, 0) 5 [(0, .ref (ad a0)), (1, .int x1), (2, .int x2)] [.int (v_X3_has a0 x2 m)] (fl ad m)
  have hj6 : ∀ y7 : Int32, y7 = (if (v_X3_has a0 x2 m) = (0 : Int32) then (0 : Int32) else (if x2 = x1 then (0 : Int32) else (1 : Int32))) → J X (0, 0) 18 [(0, .ref (ad a0)), (1, .int x1), (2, .int x2)] [.int y7] (fl ad m) := by
    intro y7 e_y7
    subst e_y7
    refine J_istore_n (lv2 := [(3, .int (if (v_X3_has a0 x2 m) = (0 : Int32) then (0 : Int32) else (if x2 = x1 then (0 : Int32) else (1 : Int32)))), (0, .ref (ad a0)), (1, .int x1), (2, .int x2)]) hX dX3_flapFault_18 rfl (Nat.le_of_ble_eq_true rfl) rfl ?_
    refine J_aload_n hX dX3_flapFault_19 rfl 1 rfl ?_
    refine J_iload_n hX dX3_flapFault_20 rfl 2 rfl ?_
    refine J_callV hX km_X3_hangs kl_RX3_115 dX3_flapFault_21 h0 (by decide) [.int x1] ⟨Nat.le_of_ble_eq_true rfl, Nat.le_of_ble_eq_true rfl⟩ rfl rfl (Nat.le_of_ble_eq_true rfl) (c_X3_hangs a0 h0 x1 m) (fun v w2 hk => ?_)
    obtain ⟨rfl, rfl⟩ := hk
    show J X (0, 0) 24 [(3, .int (if (v_X3_has a0 x2 m) = (0 : Int32) then (0 : Int32) else (if x2 = x1 then (0 : Int32) else (1 : Int32)))), (0, .ref (ad a0)), (1, .int x1), (2, .int x2)] [.int (v_X3_hangs a0 x1 m)] (fl ad m)
    have hj8 : ∀ y9 : Int32, y9 = (if (v_X3_hangs a0 x1 m) = (0 : Int32) then (-1 : Int32) else (if x2 = (-9 : Int32) then (0 : Int32) else (if (if (v_X3_has a0 x2 m) = (0 : Int32) then (0 : Int32) else (if x2 = x1 then (0 : Int32) else (1 : Int32))) = (0 : Int32) then (-1 : Int32) else (0 : Int32)))) → J X (0, 0) 42 [] [.int y9] (fl ad m) := by
      intro y9 e_y9
      subst e_y9
      exact J_iret hX hR dX3_flapFault_42 (And.intro (congrArg (fun z => some (Value.int z)) (show (if (v_X3_hangs a0 x1 m) = (0 : Int32) then (-1 : Int32) else (if x2 = (-9 : Int32) then (0 : Int32) else (if (if (v_X3_has a0 x2 m) = (0 : Int32) then (0 : Int32) else (if x2 = x1 then (0 : Int32) else (1 : Int32))) = (0 : Int32) then (-1 : Int32) else (0 : Int32)))) = v_X3_flapFault a0 x1 x2 m from rfl)) rfl)
    refine J_if_eq (tgt := 41) hX dX3_flapFault_24 (by decide) (fun c3 => ?_) (fun c3 => ?_)
    · refine J_iconst (v := (-1 : Int32)) hX dX3_flapFault_41 (by decide) ?_
      exact J_sub [] rfl (hj8 _ (if_pos c3).symm)
    · refine J_iload_n hX dX3_flapFault_27 rfl 3 rfl ?_
      refine J_bipush (v := (-9 : Int32)) hX dX3_flapFault_28 (by decide) ?_
      refine J_icmp_eq (tgt := 37) hX dX3_flapFault_30 (by decide) (fun c4 => ?_) (fun c4 => ?_)
      · refine J_iconst (v := (0 : Int32)) hX dX3_flapFault_37 (by decide) ?_
        refine J_goto (tgt := 42) hX dX3_flapFault_38 (by decide) ?_
        exact J_sub [] rfl (hj8 _ ((if_neg c3).trans (if_pos c4)).symm)
      · refine J_iload_n hX dX3_flapFault_33 rfl 0 rfl ?_
        refine J_if_eq (tgt := 41) hX dX3_flapFault_34 (by decide) (fun c5 => ?_) (fun c5 => ?_)
        · refine J_iconst (v := (-1 : Int32)) hX dX3_flapFault_41 (by decide) ?_
          exact J_sub [] rfl (hj8 _ ((if_neg c3).trans ((if_neg c4).trans (if_pos c5))).symm)
        · refine J_iconst (v := (0 : Int32)) hX dX3_flapFault_37 (by decide) ?_
          refine J_goto (tgt := 42) hX dX3_flapFault_38 (by decide) ?_
          exact J_sub [] rfl (hj8 _ ((if_neg c3).trans ((if_neg c4).trans (if_neg c5))).symm)
  refine J_if_eq (tgt := 17) hX dX3_flapFault_5 (by decide) (fun c1 => ?_) (fun c1 => ?_)
  · refine J_iconst (v := (0 : Int32)) hX dX3_flapFault_17 (by decide) ?_
    exact J_sub [0, 1, 2] rfl (hj6 _ (if_pos c1).symm)
  · refine J_iload_n hX dX3_flapFault_8 rfl 2 rfl ?_
    refine J_iload_n hX dX3_flapFault_9 rfl 1 rfl ?_
    refine J_icmp_eq (tgt := 17) hX dX3_flapFault_10 (by decide) (fun c2 => ?_) (fun c2 => ?_)
    · refine J_iconst (v := (0 : Int32)) hX dX3_flapFault_17 (by decide) ?_
      exact J_sub [0, 1, 2] rfl (hj6 _ ((if_neg c1).trans (if_pos c2)).symm)
    · refine J_iconst (v := (1 : Int32)) hX dX3_flapFault_13 (by decide) ?_
      refine J_goto (tgt := 18) hX dX3_flapFault_14 (by decide) ?_
      exact J_sub [0, 1, 2] rfl (hj6 _ ((if_neg c1).trans (if_neg c2)).symm)
set_option maxRecDepth 100000 in
theorem c_X3_changeTarget {G : GT} {ad : Nat → Nat} (a0 : Nat) (h0 : kap a0 = 3) (x1 : Int32) (x2 : Int32) (m : Mm) (K : Int32 → Mm → Prop) (h : wp_X3_changeTarget a0 x1 x2 m K) : Cn G yX3_changeTarget cX3_changeTarget 5 (some .int) (rmN 1 21) [.ref (ad a0), .int x1, .int x2] (0, 0) (fl ad m) (kI ad K) := by
  unfold wp_X3_changeTarget at h
  refine Cn.of pn_RX3 (Nat.le_of_ble_eq_true rfl) (fun X hG hX hR => ?_)
  subst hG
  have hX : Cx X cX3_changeTarget 5 RX3 (rmN 1 21) := hX
  show J X (0, 0) 0 [(0, .ref (ad a0)), (1, .int x1), (2, .int x2)] [] (fl ad m)
  refine J_aload_n hX dX3_changeTarget_0 rfl 0 rfl ?_
  refine J_iload_n hX dX3_changeTarget_1 rfl 1 rfl ?_
  refine J_callV hX km_X3_panelAt kl_RX3_39 dX3_changeTarget_2 h0 (by decide) [.int x1] ⟨Nat.le_of_ble_eq_true rfl, Nat.le_of_ble_eq_true rfl⟩ rfl rfl (Nat.le_of_ble_eq_true rfl) (c_X3_panelAt a0 h0 x1 m) (fun v w2 hk => ?_)
  obtain ⟨rfl, rfl⟩ := hk
  show J X (0, 0) 5 [(0, .ref (ad a0)), (1, .int x1), (2, .int x2)] [.ref (ad (v_X3_panelAt a0 x1))] (fl ad m)
  refine J_astore_n (lv2 := [(3, .ref (ad (v_X3_panelAt a0 x1))), (0, .ref (ad a0)), (1, .int x1), (2, .int x2)]) hX dX3_changeTarget_5 rfl (Nat.le_of_ble_eq_true rfl) rfl ?_
  refine J_aload_n hX dX3_changeTarget_6 rfl 0 rfl ?_
  refine J_getI hX kf_RX3_112 dX3_changeTarget_7 (kv_X3_panelAt h0) (by decide) rfl ?_
  refine J_nmI (fun y1 e_y1 => ?_)
  replace h := h y1 e_y1
  refine J_istore (lv2 := [(4, .int y1), (3, .ref (ad (v_X3_panelAt a0 x1))), (0, .ref (ad a0)), (1, .int x1), (2, .int x2)]) hX dX3_changeTarget_10 (Nat.le_of_ble_eq_true rfl) rfl ?_
  refine J_aload_n hX dX3_changeTarget_12 rfl 1 rfl ?_
  refine J_iload_n hX dX3_changeTarget_13 rfl 4 rfl ?_
  refine J_putI hX kf_RX3_112 dX3_changeTarget_14 (kv_X3_panelAt h0) (by decide) rfl ?_
  refine J_nmM (fun m2 e_m2 => ?_)
  replace h := h m2 e_m2
  refine J_iload hX dX3_changeTarget_17 0 rfl ?_
  exact J_iret hX hR dX3_changeTarget_19 ⟨_, _, rfl, rfl, h⟩
set_option maxRecDepth 100000 in
theorem c_X9_glue {G : GT} {ad : Nat → Nat} (m : Mm) (K : Int32 → Mm → Prop) (h : wp_X9_glue m K) : Cn G yX9_glue cX9_glue 1 (some .boolean) (rmN 2 45) [.ref (ad 242)] (0, 0) (fl ad m) (kI ad K) := by
  unfold wp_X9_glue at h
  refine Cn.of pn_RX9 (Nat.le_of_ble_eq_true rfl) (fun X hG hX hR => ?_)
  subst hG
  have hX : Cx X cX9_glue 1 RX9 (rmN 2 45) := hX
  show J X (0, 0) 0 [(0, .ref (ad 242))] [] (fl ad m)
  refine J_aload_n hX dX9_glue_0 rfl 0 rfl ?_
  refine J_getR hX kf_RX9_12 dX9_glue_1 ka_242 (by decide) rfl rh_242_0 ?_
  refine J_aload_n hX dX9_glue_4 rfl 0 rfl ?_
  refine J_getR hX kf_RX9_38 dX9_glue_5 ka_242 (by decide) rfl rh_242_7 ?_
  refine J_iconst (v := (1 : Int32)) hX dX9_glue_8 (by decide) ?_
  refine J_iald (j := 1) hX dX9_glue_9 ka_258 le_258 (vp_lit (by decide)) (by decide) ?_
  refine J_callV hX km_X3_has kl_RX9_112 dX9_glue_10 ka_243 (by decide) [.int (m.1 258 1)] ⟨Nat.le_of_ble_eq_true rfl, Nat.le_of_ble_eq_true rfl⟩ rfl rfl (Nat.le_of_ble_eq_true rfl) (c_X3_has 243 ka_243 (m.1 258 1) m) (fun v w2 hk => ?_)
  obtain ⟨rfl, rfl⟩ := hk
  show J X (0, 0) 13 [(0, .ref (ad 242))] [.int (v_X3_has 243 (m.1 258 1) m)] (fl ad m)
  refine J_if_eq (tgt := 38) hX dX9_glue_13 (by decide) (fun c1 => ?_) (fun c1 => ?_)
  · replace h := Eq.mp (if_pos c1) h
    refine J_iconst (v := (0 : Int32)) hX dX9_glue_38 (by decide) ?_
    exact J_zret hX hR dX9_glue_39 bo_0 ⟨_, _, rfl, rfl, h⟩
  · replace h := Eq.mp (if_neg c1) h
    refine J_aload_n hX dX9_glue_16 rfl 0 rfl ?_
    refine J_getR hX kf_RX9_12 dX9_glue_17 ka_242 (by decide) rfl rh_242_0 ?_
    refine J_aload_n hX dX9_glue_20 rfl 0 rfl ?_
    refine J_getR hX kf_RX9_38 dX9_glue_21 ka_242 (by decide) rfl rh_242_7 ?_
    refine J_iconst (v := (0 : Int32)) hX dX9_glue_24 (by decide) ?_
    refine J_iald (j := 0) hX dX9_glue_25 ka_258 le_258 (vp_lit (by decide)) (by decide) ?_
    refine J_aload_n hX dX9_glue_26 rfl 0 rfl ?_
    refine J_getR hX kf_RX9_38 dX9_glue_27 ka_242 (by decide) rfl rh_242_7 ?_
    refine J_iconst (v := (1 : Int32)) hX dX9_glue_30 (by decide) ?_
    refine J_iald (j := 1) hX dX9_glue_31 ka_258 le_258 (vp_lit (by decide)) (by decide) ?_
    refine J_callV hX km_X3_flapFault kl_RX9_115 dX9_glue_32 ka_243 (by decide) [.int (m.1 258 0), .int (m.1 258 1)] ⟨Nat.le_of_ble_eq_true rfl, Nat.le_of_ble_eq_true rfl⟩ rfl rfl (Nat.le_of_ble_eq_true rfl) (c_X3_flapFault 243 ka_243 (m.1 258 0) (m.1 258 1) m) (fun v w2 hk => ?_)
    obtain ⟨rfl, rfl⟩ := hk
    show J X (0, 0) 35 [(0, .ref (ad 242))] [.int (v_X3_flapFault 243 (m.1 258 0) (m.1 258 1) m)] (fl ad m)
    refine J_if_eq (tgt := 40) hX dX9_glue_35 (by decide) (fun c2 => ?_) (fun c2 => ?_)
    · replace h := Eq.mp (if_pos c2) h
      refine J_aload_n hX dX9_glue_40 rfl 0 rfl ?_
      refine J_getR hX kf_RX9_12 dX9_glue_41 ka_242 (by decide) rfl rh_242_0 ?_
      refine J_aload_n hX dX9_glue_44 rfl 0 rfl ?_
      refine J_getR hX kf_RX9_38 dX9_glue_45 ka_242 (by decide) rfl rh_242_7 ?_
      refine J_iconst (v := (0 : Int32)) hX dX9_glue_48 (by decide) ?_
      refine J_iald (j := 0) hX dX9_glue_49 ka_258 le_258 (vp_lit (by decide)) (by decide) ?_
      refine J_aload_n hX dX9_glue_50 rfl 0 rfl ?_
      refine J_getR hX kf_RX9_38 dX9_glue_51 ka_242 (by decide) rfl rh_242_7 ?_
      refine J_iconst (v := (1 : Int32)) hX dX9_glue_54 (by decide) ?_
      refine J_iald (j := 1) hX dX9_glue_55 ka_258 le_258 (vp_lit (by decide)) (by decide) ?_
      refine J_callV hX km_X3_changeTarget kl_RX9_118 dX9_glue_56 ka_243 (by decide) [.int (m.1 258 0), .int (m.1 258 1)] ⟨Nat.le_of_ble_eq_true rfl, Nat.le_of_ble_eq_true rfl⟩ rfl rfl (Nat.le_of_ble_eq_true rfl) (c_X3_changeTarget 243 ka_243 (m.1 258 0) (m.1 258 1) m _ h) (fun v w2 hk => ?_)
      obtain ⟨y4, m3, rfl, rfl, h⟩ := hk
      show J X (0, 0) 59 [(0, .ref (ad 242))] [.int y4] (fl ad m3)
      refine J_pop hX dX9_glue_59 rfl ?_
      refine J_iconst (v := (1 : Int32)) hX dX9_glue_60 (by decide) ?_
      exact J_zret hX hR dX9_glue_61 bo_1 ⟨_, _, rfl, rfl, h⟩
    · replace h := Eq.mp (if_neg c2) h
      refine J_iconst (v := (0 : Int32)) hX dX9_glue_38 (by decide) ?_
      exact J_zret hX hR dX9_glue_39 bo_0 ⟨_, _, rfl, rfl, h⟩
set_option maxRecDepth 100000 in
theorem c_X3_printFault {G : GT} {ad : Nat → Nat} (a0 : Nat) (h0 : kap a0 = 3) (x1 : Int32) (x2 : Int32) (x3 : Int32) (x4 : Int32) (x5 : Int32) (m : Mm) : Cn G yX3_printFault cX3_printFault 6 (some .int) (rmN 1 21) [.ref (ad a0), .int x1, .int x2, .int x3, .int x4, .int x5] (0, 0) (fl ad m) (fun v w => v = some (.int (v_X3_printFault a0 x1 x2 x3 x4 x5 m)) ∧ w = fl ad m) := by
  refine Cn.of pn_RX3 (Nat.le_of_ble_eq_true rfl) (fun X hG hX hR => ?_)
  subst hG
  have hX : Cx X cX3_printFault 6 RX3 (rmN 1 21) := hX
  show J X (0, 0) 0 [(0, .ref (ad a0)), (1, .int x1), (2, .int x2), (3, .int x3), (4, .int x4), (5, .int x5)] [] (fl ad m)
  refine J_aload_n hX dX3_printFault_0 rfl 0 rfl ?_
  refine J_iload_n hX dX3_printFault_1 rfl 1 rfl ?_
  refine J_callV hX km_X3_has kl_RX3_78 dX3_printFault_2 h0 (by decide) [.int x1] ⟨Nat.le_of_ble_eq_true rfl, Nat.le_of_ble_eq_true rfl⟩ rfl rfl (Nat.le_of_ble_eq_true rfl) (c_X3_has a0 h0 x1 m) (fun v w2 hk => ?_)
  obtain ⟨rfl, rfl⟩ := hk
  show J X (0, 0) 5 [(0, .ref (ad a0)), (1, .int x1), (2, .int x2), (3, .int x3), (4, .int x4), (5, .int x5)] [.int (v_X3_has a0 x1 m)] (fl ad m)
  refine J_if_eq (tgt := 27) hX dX3_printFault_5 (by decide) (fun c1 => ?_) (fun c1 => ?_)
  · refine J_iconst (v := (-1 : Int32)) hX dX3_printFault_27 (by decide) ?_
    exact J_iret hX hR dX3_printFault_28 (And.intro (congrArg (fun z => some (Value.int z)) (show (-1 : Int32) = v_X3_printFault a0 x1 x2 x3 x4 x5 m from (if_pos c1).symm)) rfl)
  · refine J_iload_n hX dX3_printFault_8 rfl 2 rfl ?_
    refine J_if_lt (tgt := 27) hX dX3_printFault_9 (by decide) (fun c2 => ?_) (fun c2 => ?_)
    · refine J_iconst (v := (-1 : Int32)) hX dX3_printFault_27 (by decide) ?_
      exact J_iret hX hR dX3_printFault_28 (And.intro (congrArg (fun z => some (Value.int z)) (show (-1 : Int32) = v_X3_printFault a0 x1 x2 x3 x4 x5 m from ((if_neg c1).trans (if_pos c2)).symm)) rfl)
    · refine J_iload_n hX dX3_printFault_12 rfl 2 rfl ?_
      refine J_iconst (v := (4 : Int32)) hX dX3_printFault_13 (by decide) ?_
      refine J_icmp_ge (tgt := 27) hX dX3_printFault_14 (by decide) (fun c3 => ?_) (fun c3 => ?_)
      · refine J_iconst (v := (-1 : Int32)) hX dX3_printFault_27 (by decide) ?_
        exact J_iret hX hR dX3_printFault_28 (And.intro (congrArg (fun z => some (Value.int z)) (show (-1 : Int32) = v_X3_printFault a0 x1 x2 x3 x4 x5 m from ((if_neg c1).trans ((if_neg c2).trans (if_pos c3))).symm)) rfl)
      · refine J_iload_n hX dX3_printFault_17 rfl 3 rfl ?_
        refine J_if_lt (tgt := 27) hX dX3_printFault_18 (by decide) (fun c4 => ?_) (fun c4 => ?_)
        · refine J_iconst (v := (-1 : Int32)) hX dX3_printFault_27 (by decide) ?_
          exact J_iret hX hR dX3_printFault_28 (And.intro (congrArg (fun z => some (Value.int z)) (show (-1 : Int32) = v_X3_printFault a0 x1 x2 x3 x4 x5 m from ((if_neg c1).trans ((if_neg c2).trans ((if_neg c3).trans (if_pos c4)))).symm)) rfl)
        · refine J_iload_n hX dX3_printFault_21 rfl 3 rfl ?_
          refine J_bipush (v := (7 : Int32)) hX dX3_printFault_22 (by decide) ?_
          refine J_icmp_le (tgt := 29) hX dX3_printFault_24 (by decide) (fun c5 => ?_) (fun c5 => ?_)
          · refine J_iload hX dX3_printFault_29 4 rfl ?_
            refine J_callSN hX km_X11_isPosition kl_RX3_132 dX3_printFault_31 [.int x4] ⟨Nat.le_of_ble_eq_true rfl, Nat.le_of_ble_eq_true rfl⟩ rfl rfl (Nat.le_of_ble_eq_true rfl) (c_X11_isPosition x4 m) (fun v w2 hk => ?_)
            obtain ⟨rfl, rfl⟩ := hk
            show J X (0, 0) 34 [(0, .ref (ad a0)), (1, .int x1), (2, .int x2), (3, .int x3), (4, .int x4), (5, .int x5)] [.int (v_X11_isPosition x4)] (fl ad m)
            refine J_if_eq (tgt := 45) hX dX3_printFault_34 (by decide) (fun c6 => ?_) (fun c6 => ?_)
            · refine J_iconst (v := (-1 : Int32)) hX dX3_printFault_45 (by decide) ?_
              exact J_iret hX hR dX3_printFault_46 (And.intro (congrArg (fun z => some (Value.int z)) (show (-1 : Int32) = v_X3_printFault a0 x1 x2 x3 x4 x5 m from ((if_neg c1).trans ((if_neg c2).trans ((if_neg c3).trans ((if_neg c4).trans ((if_pos c5).trans (if_pos c6)))))).symm)) rfl)
            · refine J_iload hX dX3_printFault_37 5 rfl ?_
              refine J_callSN hX km_X11_isPosition kl_RX3_132 dX3_printFault_39 [.int x5] ⟨Nat.le_of_ble_eq_true rfl, Nat.le_of_ble_eq_true rfl⟩ rfl rfl (Nat.le_of_ble_eq_true rfl) (c_X11_isPosition x5 m) (fun v w2 hk => ?_)
              obtain ⟨rfl, rfl⟩ := hk
              show J X (0, 0) 42 [(0, .ref (ad a0)), (1, .int x1), (2, .int x2), (3, .int x3), (4, .int x4), (5, .int x5)] [.int (v_X11_isPosition x5)] (fl ad m)
              refine J_if_ne (tgt := 47) hX dX3_printFault_42 (by decide) (fun c7 => ?_) (fun c7 => ?_)
              · refine J_aload_n hX dX3_printFault_47 rfl 0 rfl ?_
                refine J_iload_n hX dX3_printFault_48 rfl 2 rfl ?_
                refine J_callV hX km_X3_hasImage kl_RX3_129 dX3_printFault_49 h0 (by decide) [.int x2] ⟨Nat.le_of_ble_eq_true rfl, Nat.le_of_ble_eq_true rfl⟩ rfl rfl (Nat.le_of_ble_eq_true rfl) (c_X3_hasImage a0 h0 x2 m) (fun v w2 hk => ?_)
                obtain ⟨rfl, rfl⟩ := hk
                show J X (0, 0) 52 [(0, .ref (ad a0)), (1, .int x1), (2, .int x2), (3, .int x3), (4, .int x4), (5, .int x5)] [.int (v_X3_hasImage a0 x2 m)] (fl ad m)
                have hj9 : ∀ y10 : Int32, y10 = (if (v_X3_hasImage a0 x2 m) = (0 : Int32) then (-2 : Int32) else (0 : Int32)) → J X (0, 0) 61 [] [.int y10] (fl ad m) := by
                  intro y10 e_y10
                  subst e_y10
                  exact J_iret hX hR dX3_printFault_61 (And.intro (congrArg (fun z => some (Value.int z)) (show (if (v_X3_hasImage a0 x2 m) = (0 : Int32) then (-2 : Int32) else (0 : Int32)) = v_X3_printFault a0 x1 x2 x3 x4 x5 m from ((if_neg c1).trans ((if_neg c2).trans ((if_neg c3).trans ((if_neg c4).trans ((if_pos c5).trans ((if_neg c6).trans (if_neg c7))))))).symm)) rfl)
                refine J_if_eq (tgt := 59) hX dX3_printFault_52 (by decide) (fun c8 => ?_) (fun c8 => ?_)
                · refine J_bipush (v := (-2 : Int32)) hX dX3_printFault_59 (by decide) ?_
                  exact J_sub [] rfl (hj9 _ (if_pos c8).symm)
                · refine J_iconst (v := (0 : Int32)) hX dX3_printFault_55 (by decide) ?_
                  refine J_goto (tgt := 61) hX dX3_printFault_56 (by decide) ?_
                  exact J_sub [] rfl (hj9 _ (if_neg c8).symm)
              · refine J_iconst (v := (-1 : Int32)) hX dX3_printFault_45 (by decide) ?_
                exact J_iret hX hR dX3_printFault_46 (And.intro (congrArg (fun z => some (Value.int z)) (show (-1 : Int32) = v_X3_printFault a0 x1 x2 x3 x4 x5 m from ((if_neg c1).trans ((if_neg c2).trans ((if_neg c3).trans ((if_neg c4).trans ((if_pos c5).trans ((if_neg c6).trans (if_pos c7))))))).symm)) rfl)
          · refine J_iconst (v := (-1 : Int32)) hX dX3_printFault_27 (by decide) ?_
            exact J_iret hX hR dX3_printFault_28 (And.intro (congrArg (fun z => some (Value.int z)) (show (-1 : Int32) = v_X3_printFault a0 x1 x2 x3 x4 x5 m from ((if_neg c1).trans ((if_neg c2).trans ((if_neg c3).trans ((if_neg c4).trans (if_neg c5))))).symm)) rfl)
set_option maxRecDepth 100000 in
theorem c_X9_printImage {G : GT} {ad : Nat → Nat} (m : Mm) (K : Int32 → Mm → Prop) (h : wp_X9_printImage m K) : Cn G yX9_printImage cX9_printImage 2 (some .boolean) (rmN 2 48) [.ref (ad 242)] (0, 0) (fl ad m) (kI ad K) := by
  unfold wp_X9_printImage at h
  refine Cn.of pn_RX9 (Nat.le_of_ble_eq_true rfl) (fun X hG hX hR => ?_)
  subst hG
  have hX : Cx X cX9_printImage 2 RX9 (rmN 2 48) := hX
  show J X (0, 0) 0 [(0, .ref (ad 242))] [] (fl ad m)
  refine J_aload_n hX dX9_printImage_0 rfl 0 rfl ?_
  refine J_getR hX kf_RX9_38 dX9_printImage_1 ka_242 (by decide) rfl rh_242_7 ?_
  refine J_astore_n (lv2 := [(1, .ref (ad 258)), (0, .ref (ad 242))]) hX dX9_printImage_4 rfl (Nat.le_of_ble_eq_true rfl) rfl ?_
  refine J_aload_n hX dX9_printImage_5 rfl 1 rfl ?_
  refine J_getR hX kf_RX9_12 dX9_printImage_6 ka_242 (by decide) rfl rh_242_0 ?_
  refine J_aload_n hX dX9_printImage_9 rfl 0 rfl ?_
  refine J_iconst (v := (0 : Int32)) hX dX9_printImage_10 (by decide) ?_
  refine J_iald (j := 0) hX dX9_printImage_11 ka_258 le_258 (vp_lit (by decide)) (by decide) ?_
  refine J_aload_n hX dX9_printImage_12 rfl 0 rfl ?_
  refine J_iconst (v := (1 : Int32)) hX dX9_printImage_13 (by decide) ?_
  refine J_iald (j := 1) hX dX9_printImage_14 ka_258 le_258 (vp_lit (by decide)) (by decide) ?_
  refine J_aload_n hX dX9_printImage_15 rfl 0 rfl ?_
  refine J_iconst (v := (2 : Int32)) hX dX9_printImage_16 (by decide) ?_
  refine J_iald (j := 2) hX dX9_printImage_17 ka_258 le_258 (vp_lit (by decide)) (by decide) ?_
  refine J_aload_n hX dX9_printImage_18 rfl 0 rfl ?_
  refine J_iconst (v := (3 : Int32)) hX dX9_printImage_19 (by decide) ?_
  refine J_iald (j := 3) hX dX9_printImage_20 ka_258 le_258 (vp_lit (by decide)) (by decide) ?_
  refine J_aload_n hX dX9_printImage_21 rfl 0 rfl ?_
  refine J_iconst (v := (4 : Int32)) hX dX9_printImage_22 (by decide) ?_
  refine J_iald (j := 4) hX dX9_printImage_23 ka_258 le_258 (vp_lit (by decide)) (by decide) ?_
  refine J_callV hX km_X3_printFault kl_RX9_121 dX9_printImage_24 ka_243 (by decide) [.int (m.1 258 0), .int (m.1 258 1), .int (m.1 258 2), .int (m.1 258 3), .int (m.1 258 4)] ⟨Nat.le_of_ble_eq_true rfl, Nat.le_of_ble_eq_true rfl⟩ rfl rfl (Nat.le_of_ble_eq_true rfl) (c_X3_printFault 243 ka_243 (m.1 258 0) (m.1 258 1) (m.1 258 2) (m.1 258 3) (m.1 258 4) m) (fun v w2 hk => ?_)
  obtain ⟨rfl, rfl⟩ := hk
  show J X (0, 0) 27 [(1, .ref (ad 258)), (0, .ref (ad 242))] [.int (v_X3_printFault 243 (m.1 258 0) (m.1 258 1) (m.1 258 2) (m.1 258 3) (m.1 258 4) m)] (fl ad m)
  refine J_if_eq (tgt := 32) hX dX9_printImage_27 (by decide) (fun c1 => ?_) (fun c1 => ?_)
  · replace h := Eq.mp (if_pos c1) h
    refine J_aload_n hX dX9_printImage_32 rfl 1 rfl ?_
    refine J_getR hX kf_RX9_12 dX9_printImage_33 ka_242 (by decide) rfl rh_242_0 ?_
    refine J_aload_n hX dX9_printImage_36 rfl 0 rfl ?_
    refine J_iconst (v := (0 : Int32)) hX dX9_printImage_37 (by decide) ?_
    refine J_iald (j := 0) hX dX9_printImage_38 ka_258 le_258 (vp_lit (by decide)) (by decide) ?_
    refine J_aload_n hX dX9_printImage_39 rfl 0 rfl ?_
    refine J_iconst (v := (1 : Int32)) hX dX9_printImage_40 (by decide) ?_
    refine J_iald (j := 1) hX dX9_printImage_41 ka_258 le_258 (vp_lit (by decide)) (by decide) ?_
    refine J_aload_n hX dX9_printImage_42 rfl 0 rfl ?_
    refine J_iconst (v := (2 : Int32)) hX dX9_printImage_43 (by decide) ?_
    refine J_iald (j := 2) hX dX9_printImage_44 ka_258 le_258 (vp_lit (by decide)) (by decide) ?_
    refine J_aload_n hX dX9_printImage_45 rfl 0 rfl ?_
    refine J_iconst (v := (3 : Int32)) hX dX9_printImage_46 (by decide) ?_
    refine J_iald (j := 3) hX dX9_printImage_47 ka_258 le_258 (vp_lit (by decide)) (by decide) ?_
    refine J_aload_n hX dX9_printImage_48 rfl 0 rfl ?_
    refine J_iconst (v := (4 : Int32)) hX dX9_printImage_49 (by decide) ?_
    refine J_iald (j := 4) hX dX9_printImage_50 ka_258 le_258 (vp_lit (by decide)) (by decide) ?_
    refine J_callV hX km_X3_print kl_RX9_125 dX9_printImage_51 ka_243 (by decide) [.int (m.1 258 0), .int (m.1 258 1), .int (m.1 258 2), .int (m.1 258 3), .int (m.1 258 4)] ⟨Nat.le_of_ble_eq_true rfl, Nat.le_of_ble_eq_true rfl⟩ rfl rfl (Nat.le_of_ble_eq_true rfl) (c_X3_print 243 ka_243 (m.1 258 0) (m.1 258 1) (m.1 258 2) (m.1 258 3) (m.1 258 4) m _ h) (fun v w2 hk => ?_)
    obtain ⟨y3, m2, rfl, rfl, h⟩ := hk
    show J X (0, 0) 54 [(1, .ref (ad 258)), (0, .ref (ad 242))] [.int y3] (fl ad m2)
    refine J_pop hX dX9_printImage_54 rfl ?_
    refine J_iconst (v := (1 : Int32)) hX dX9_printImage_55 (by decide) ?_
    exact J_zret hX hR dX9_printImage_56 bo_1 ⟨_, _, rfl, rfl, h⟩
  · replace h := Eq.mp (if_neg c1) h
    refine J_iconst (v := (0 : Int32)) hX dX9_printImage_30 (by decide) ?_
    exact J_zret hX hR dX9_printImage_31 bo_0 ⟨_, _, rfl, rfl, h⟩
set_option maxRecDepth 100000 in
theorem c_X9_carryOut {G : GT} {ad : Nat → Nat} (m : Mm) (K : Int32 → Mm → Prop) (h : wp_X9_carryOut m K) : Cn G yX9_carryOut cX9_carryOut 2 (some .boolean) (rmN 4 97) [.ref (ad 242)] (0, 0) (fl ad m) (kI ad K) := by
  unfold wp_X9_carryOut at h
  refine Cn.of pn_RX9 (Nat.le_of_ble_eq_true rfl) (fun X hG hX hR => ?_)
  subst hG
  have hX : Cx X cX9_carryOut 2 RX9 (rmN 4 97) := hX
  show J X (0, 0) 0 [(0, .ref (ad 242))] [] (fl ad m)
  refine J_aload_n hX dX9_carryOut_0 rfl 0 rfl ?_
  refine J_getR hX kf_RX9_38 dX9_carryOut_1 ka_242 (by decide) rfl rh_242_7 ?_
  refine J_astore_n (lv2 := [(1, .ref (ad 258)), (0, .ref (ad 242))]) hX dX9_carryOut_4 rfl (Nat.le_of_ble_eq_true rfl) rfl ?_
  refine J_aload_n hX dX9_carryOut_5 rfl 1 rfl ?_
  refine J_getI hX kf_RX9_28 dX9_carryOut_6 ka_242 (by decide) rfl ?_
  by_cases c1 : (m.1 242 4) = (98 : Int32)
  · replace h := Eq.mp (if_pos c1) h
    refine J_lookIn (v := (98 : Int32)) (tgt := 98) hX dX9_carryOut_9 (by decide) c1 rfl (by decide) ?_
    refine J_aload_n hX dX9_carryOut_98 rfl 1 rfl ?_
    refine J_getR hX kf_RX9_12 dX9_carryOut_99 ka_242 (by decide) rfl rh_242_0 ?_
    refine J_aload_n hX dX9_carryOut_102 rfl 0 rfl ?_
    refine J_iconst (v := (0 : Int32)) hX dX9_carryOut_103 (by decide) ?_
    refine J_iald (j := 0) hX dX9_carryOut_104 ka_258 le_258 (vp_lit (by decide)) (by decide) ?_
    refine J_aload_n hX dX9_carryOut_105 rfl 0 rfl ?_
    refine J_iconst (v := (1 : Int32)) hX dX9_carryOut_106 (by decide) ?_
    refine J_iald (j := 1) hX dX9_carryOut_107 ka_258 le_258 (vp_lit (by decide)) (by decide) ?_
    refine J_aload_n hX dX9_carryOut_108 rfl 0 rfl ?_
    refine J_iconst (v := (2 : Int32)) hX dX9_carryOut_109 (by decide) ?_
    refine J_iald (j := 2) hX dX9_carryOut_110 ka_258 le_258 (vp_lit (by decide)) (by decide) ?_
    refine J_aload_n hX dX9_carryOut_111 rfl 0 rfl ?_
    refine J_iconst (v := (3 : Int32)) hX dX9_carryOut_112 (by decide) ?_
    refine J_iald (j := 3) hX dX9_carryOut_113 ka_258 le_258 (vp_lit (by decide)) (by decide) ?_
    refine J_callV hX km_X3_baseFault kl_RX9_82 dX9_carryOut_114 ka_243 (by decide) [.int (m.1 258 0), .int (m.1 258 1), .int (m.1 258 2), .int (m.1 258 3)] ⟨Nat.le_of_ble_eq_true rfl, Nat.le_of_ble_eq_true rfl⟩ rfl rfl (Nat.le_of_ble_eq_true rfl) (c_X3_baseFault 243 ka_243 (m.1 258 0) (m.1 258 1) (m.1 258 2) (m.1 258 3) m) (fun v w2 hk => ?_)
    obtain ⟨rfl, rfl⟩ := hk
    show J X (0, 0) 117 [(1, .ref (ad 258)), (0, .ref (ad 242))] [.int (v_X3_baseFault 243 (m.1 258 0) (m.1 258 1) (m.1 258 2) (m.1 258 3) m)] (fl ad m)
    refine J_if_ne (tgt := 146) hX dX9_carryOut_117 (by decide) (fun c2 => ?_) (fun c2 => ?_)
    · replace h := Eq.mp (if_neg c2) h
      refine J_iconst (v := (0 : Int32)) hX dX9_carryOut_146 (by decide) ?_
      exact J_zret hX hR dX9_carryOut_147 bo_0 ⟨_, _, rfl, rfl, h⟩
    · replace h := Eq.mp (if_pos c2) h
      refine J_aload_n hX dX9_carryOut_120 rfl 1 rfl ?_
      refine J_getR hX kf_RX9_12 dX9_carryOut_121 ka_242 (by decide) rfl rh_242_0 ?_
      refine J_aload_n hX dX9_carryOut_124 rfl 0 rfl ?_
      refine J_iconst (v := (0 : Int32)) hX dX9_carryOut_125 (by decide) ?_
      refine J_iald (j := 0) hX dX9_carryOut_126 ka_258 le_258 (vp_lit (by decide)) (by decide) ?_
      refine J_aload_n hX dX9_carryOut_127 rfl 0 rfl ?_
      refine J_iconst (v := (1 : Int32)) hX dX9_carryOut_128 (by decide) ?_
      refine J_iald (j := 1) hX dX9_carryOut_129 ka_258 le_258 (vp_lit (by decide)) (by decide) ?_
      refine J_aload_n hX dX9_carryOut_130 rfl 0 rfl ?_
      refine J_iconst (v := (2 : Int32)) hX dX9_carryOut_131 (by decide) ?_
      refine J_iald (j := 2) hX dX9_carryOut_132 ka_258 le_258 (vp_lit (by decide)) (by decide) ?_
      refine J_aload_n hX dX9_carryOut_133 rfl 0 rfl ?_
      refine J_iconst (v := (3 : Int32)) hX dX9_carryOut_134 (by decide) ?_
      refine J_iald (j := 3) hX dX9_carryOut_135 ka_258 le_258 (vp_lit (by decide)) (by decide) ?_
      refine J_callV hX km_X3_startBase kl_RX9_86 dX9_carryOut_136 ka_243 (by decide) [.int (m.1 258 0), .int (m.1 258 1), .int (m.1 258 2), .int (m.1 258 3)] ⟨Nat.le_of_ble_eq_true rfl, Nat.le_of_ble_eq_true rfl⟩ rfl rfl (Nat.le_of_ble_eq_true rfl) (c_X3_startBase 243 ka_243 (m.1 258 0) (m.1 258 1) (m.1 258 2) (m.1 258 3) m _ h) (fun v w2 hk => ?_)
      obtain ⟨y4, m3, rfl, rfl, h⟩ := hk
      show J X (0, 0) 139 [(1, .ref (ad 258)), (0, .ref (ad 242))] [.int y4] (fl ad m3)
      have hj7 : ∀ y6 : Int32, y6 = (if y4 < (0 : Int32) then (0 : Int32) else (1 : Int32)) → J X (0, 0) 147 [] [.int y6] (fl ad m3) := by
        intro y6 e_y6
        replace h := h y6 e_y6
        exact J_zret hX hR dX9_carryOut_147 (by rw [e_y6]; exact (bo_ite bo_0 bo_1)) ⟨_, _, rfl, rfl, h⟩
      refine J_if_lt (tgt := 146) hX dX9_carryOut_139 (by decide) (fun c5 => ?_) (fun c5 => ?_)
      · refine J_iconst (v := (0 : Int32)) hX dX9_carryOut_146 (by decide) ?_
        exact J_sub [] rfl (hj7 _ (if_pos c5).symm)
      · refine J_iconst (v := (1 : Int32)) hX dX9_carryOut_142 (by decide) ?_
        refine J_goto (tgt := 147) hX dX9_carryOut_143 (by decide) ?_
        exact J_sub [] rfl (hj7 _ (if_neg c5).symm)
  · replace h := Eq.mp (if_neg c1) h
    by_cases c8 : (m.1 242 4) = (102 : Int32)
    · replace h := Eq.mp (if_pos c8) h
      refine J_lookIn (v := (102 : Int32)) (tgt := 153) hX dX9_carryOut_9 (by decide) c8 rfl (by decide) ?_
      refine J_aload_n hX dX9_carryOut_153 rfl 1 rfl ?_
      refine J_callV hX km_X9_glue kl_RX9_92 dX9_carryOut_154 ka_242 (by decide) [] ⟨Nat.le_of_ble_eq_true rfl, Nat.le_of_ble_eq_true rfl⟩ rfl rfl (Nat.le_of_ble_eq_true rfl) (c_X9_glue m _ h) (fun v w2 hk => ?_)
      obtain ⟨y10, m9, rfl, rfl, h⟩ := hk
      show J X (0, 0) 157 [(1, .ref (ad 258)), (0, .ref (ad 242))] [.int y10] (fl ad m9)
      obtain ⟨b11, h⟩ := h
      exact J_zret hX hR dX9_carryOut_157 b11 ⟨_, _, rfl, rfl, h⟩
    · replace h := Eq.mp (if_neg c8) h
      by_cases c12 : (m.1 242 4) = (105 : Int32)
      · replace h := Eq.mp (if_pos c12) h
        refine J_lookIn (v := (105 : Int32)) (tgt := 158) hX dX9_carryOut_9 (by decide) c12 rfl (by decide) ?_
        refine J_aload_n hX dX9_carryOut_158 rfl 1 rfl ?_
        refine J_getR hX kf_RX9_12 dX9_carryOut_159 ka_242 (by decide) rfl rh_242_0 ?_
        refine J_aload_n hX dX9_carryOut_162 rfl 0 rfl ?_
        refine J_iconst (v := (0 : Int32)) hX dX9_carryOut_163 (by decide) ?_
        refine J_iald (j := 0) hX dX9_carryOut_164 ka_258 le_258 (vp_lit (by decide)) (by decide) ?_
        refine J_aload_n hX dX9_carryOut_165 rfl 0 rfl ?_
        refine J_iconst (v := (1 : Int32)) hX dX9_carryOut_166 (by decide) ?_
        refine J_iald (j := 1) hX dX9_carryOut_167 ka_258 le_258 (vp_lit (by decide)) (by decide) ?_
        refine J_aload_n hX dX9_carryOut_168 rfl 0 rfl ?_
        refine J_iconst (v := (2 : Int32)) hX dX9_carryOut_169 (by decide) ?_
        refine J_iald (j := 2) hX dX9_carryOut_170 ka_258 le_258 (vp_lit (by decide)) (by decide) ?_
        refine J_callV hX km_X3_imageFault kl_RX9_95 dX9_carryOut_171 ka_243 (by decide) [.int (m.1 258 0), .int (m.1 258 1), .int (m.1 258 2)] ⟨Nat.le_of_ble_eq_true rfl, Nat.le_of_ble_eq_true rfl⟩ rfl rfl (Nat.le_of_ble_eq_true rfl) (c_X3_imageFault 243 ka_243 (m.1 258 0) (m.1 258 1) (m.1 258 2) m) (fun v w2 hk => ?_)
        obtain ⟨rfl, rfl⟩ := hk
        show J X (0, 0) 174 [(1, .ref (ad 258)), (0, .ref (ad 242))] [.int (v_X3_imageFault 243 (m.1 258 0) (m.1 258 1) (m.1 258 2))] (fl ad m)
        refine J_if_ne (tgt := 200) hX dX9_carryOut_174 (by decide) (fun c13 => ?_) (fun c13 => ?_)
        · replace h := Eq.mp (if_neg c13) h
          refine J_iconst (v := (0 : Int32)) hX dX9_carryOut_200 (by decide) ?_
          exact J_zret hX hR dX9_carryOut_201 bo_0 ⟨_, _, rfl, rfl, h⟩
        · replace h := Eq.mp (if_pos c13) h
          refine J_aload_n hX dX9_carryOut_177 rfl 1 rfl ?_
          refine J_getR hX kf_RX9_12 dX9_carryOut_178 ka_242 (by decide) rfl rh_242_0 ?_
          refine J_aload_n hX dX9_carryOut_181 rfl 0 rfl ?_
          refine J_iconst (v := (0 : Int32)) hX dX9_carryOut_182 (by decide) ?_
          refine J_iald (j := 0) hX dX9_carryOut_183 ka_258 le_258 (vp_lit (by decide)) (by decide) ?_
          refine J_aload_n hX dX9_carryOut_184 rfl 0 rfl ?_
          refine J_iconst (v := (1 : Int32)) hX dX9_carryOut_185 (by decide) ?_
          refine J_iald (j := 1) hX dX9_carryOut_186 ka_258 le_258 (vp_lit (by decide)) (by decide) ?_
          refine J_aload_n hX dX9_carryOut_187 rfl 0 rfl ?_
          refine J_iconst (v := (2 : Int32)) hX dX9_carryOut_188 (by decide) ?_
          refine J_iald (j := 2) hX dX9_carryOut_189 ka_258 le_258 (vp_lit (by decide)) (by decide) ?_
          refine J_callV hX km_X3_changeImage kl_RX9_99 dX9_carryOut_190 ka_243 (by decide) [.int (m.1 258 0), .int (m.1 258 1), .int (m.1 258 2)] ⟨Nat.le_of_ble_eq_true rfl, Nat.le_of_ble_eq_true rfl⟩ rfl rfl (Nat.le_of_ble_eq_true rfl) (c_X3_changeImage 243 ka_243 (m.1 258 0) (m.1 258 1) (m.1 258 2) m _ h) (fun v w2 hk => ?_)
          obtain ⟨y15, m14, rfl, rfl, h⟩ := hk
          show J X (0, 0) 193 [(1, .ref (ad 258)), (0, .ref (ad 242))] [.int y15] (fl ad m14)
          have hj18 : ∀ y17 : Int32, y17 = (if y15 < (0 : Int32) then (0 : Int32) else (1 : Int32)) → J X (0, 0) 201 [] [.int y17] (fl ad m14) := by
            intro y17 e_y17
            replace h := h y17 e_y17
            exact J_zret hX hR dX9_carryOut_201 (by rw [e_y17]; exact (bo_ite bo_0 bo_1)) ⟨_, _, rfl, rfl, h⟩
          refine J_if_lt (tgt := 200) hX dX9_carryOut_193 (by decide) (fun c16 => ?_) (fun c16 => ?_)
          · refine J_iconst (v := (0 : Int32)) hX dX9_carryOut_200 (by decide) ?_
            exact J_sub [] rfl (hj18 _ (if_pos c16).symm)
          · refine J_iconst (v := (1 : Int32)) hX dX9_carryOut_196 (by decide) ?_
            refine J_goto (tgt := 201) hX dX9_carryOut_197 (by decide) ?_
            exact J_sub [] rfl (hj18 _ (if_neg c16).symm)
      · replace h := Eq.mp (if_neg c12) h
        by_cases c19 : (m.1 242 4) = (112 : Int32)
        · replace h := Eq.mp (if_pos c19) h
          refine J_lookIn (v := (112 : Int32)) (tgt := 148) hX dX9_carryOut_9 (by decide) c19 rfl (by decide) ?_
          refine J_aload_n hX dX9_carryOut_148 rfl 1 rfl ?_
          refine J_callV hX km_X9_hangPanel kl_RX9_89 dX9_carryOut_149 ka_242 (by decide) [] ⟨Nat.le_of_ble_eq_true rfl, Nat.le_of_ble_eq_true rfl⟩ rfl rfl (Nat.le_of_ble_eq_true rfl) (c_X9_hangPanel m _ h) (fun v w2 hk => ?_)
          obtain ⟨y21, m20, rfl, rfl, h⟩ := hk
          show J X (0, 0) 152 [(1, .ref (ad 258)), (0, .ref (ad 242))] [.int y21] (fl ad m20)
          obtain ⟨b22, h⟩ := h
          exact J_zret hX hR dX9_carryOut_152 b22 ⟨_, _, rfl, rfl, h⟩
        · replace h := Eq.mp (if_neg c19) h
          by_cases c23 : (m.1 242 4) = (115 : Int32)
          · replace h := Eq.mp (if_pos c23) h
            refine J_lookIn (v := (115 : Int32)) (tgt := 60) hX dX9_carryOut_9 (by decide) c23 rfl (by decide) ?_
            refine J_aload_n hX dX9_carryOut_60 rfl 1 rfl ?_
            refine J_getR hX kf_RX9_12 dX9_carryOut_61 ka_242 (by decide) rfl rh_242_0 ?_
            refine J_aload_n hX dX9_carryOut_64 rfl 0 rfl ?_
            refine J_iconst (v := (0 : Int32)) hX dX9_carryOut_65 (by decide) ?_
            refine J_iald (j := 0) hX dX9_carryOut_66 ka_258 le_258 (vp_lit (by decide)) (by decide) ?_
            refine J_aload_n hX dX9_carryOut_67 rfl 0 rfl ?_
            refine J_iconst (v := (1 : Int32)) hX dX9_carryOut_68 (by decide) ?_
            refine J_iald (j := 1) hX dX9_carryOut_69 ka_258 le_258 (vp_lit (by decide)) (by decide) ?_
            refine J_callV hX km_X3_sheetFault kl_RX9_75 dX9_carryOut_70 ka_243 (by decide) [.int (m.1 258 0), .int (m.1 258 1)] ⟨Nat.le_of_ble_eq_true rfl, Nat.le_of_ble_eq_true rfl⟩ rfl rfl (Nat.le_of_ble_eq_true rfl) (c_X3_sheetFault 243 ka_243 (m.1 258 0) (m.1 258 1) m _ h) (fun v w2 hk => ?_)
            obtain ⟨y25, m24, rfl, rfl, h⟩ := hk
            show J X (0, 0) 73 [(1, .ref (ad 258)), (0, .ref (ad 242))] [.int y25] (fl ad m24)
            refine J_if_ne (tgt := 96) hX dX9_carryOut_73 (by decide) (fun c26 => ?_) (fun c26 => ?_)
            · replace h := Eq.mp (if_neg c26) h
              refine J_iconst (v := (0 : Int32)) hX dX9_carryOut_96 (by decide) ?_
              exact J_zret hX hR dX9_carryOut_97 bo_0 ⟨_, _, rfl, rfl, h⟩
            · replace h := Eq.mp (if_pos c26) h
              refine J_aload_n hX dX9_carryOut_76 rfl 1 rfl ?_
              refine J_getR hX kf_RX9_12 dX9_carryOut_77 ka_242 (by decide) rfl rh_242_0 ?_
              refine J_aload_n hX dX9_carryOut_80 rfl 0 rfl ?_
              refine J_iconst (v := (0 : Int32)) hX dX9_carryOut_81 (by decide) ?_
              refine J_iald (j := 0) hX dX9_carryOut_82 ka_258 le_258 (vp_lit (by decide)) (by decide) ?_
              refine J_aload_n hX dX9_carryOut_83 rfl 0 rfl ?_
              refine J_iconst (v := (1 : Int32)) hX dX9_carryOut_84 (by decide) ?_
              refine J_iald (j := 1) hX dX9_carryOut_85 ka_258 le_258 (vp_lit (by decide)) (by decide) ?_
              refine J_callV hX km_X3_changeSheet kl_RX9_79 dX9_carryOut_86 ka_243 (by decide) [.int (m24.1 258 0), .int (m24.1 258 1)] ⟨Nat.le_of_ble_eq_true rfl, Nat.le_of_ble_eq_true rfl⟩ rfl rfl (Nat.le_of_ble_eq_true rfl) (c_X3_changeSheet 243 ka_243 (m24.1 258 0) (m24.1 258 1) m24 _ h) (fun v w2 hk => ?_)
              obtain ⟨y28, m27, rfl, rfl, h⟩ := hk
              show J X (0, 0) 89 [(1, .ref (ad 258)), (0, .ref (ad 242))] [.int y28] (fl ad m27)
              have hj31 : ∀ y30 : Int32, y30 = (if y28 < (0 : Int32) then (0 : Int32) else (1 : Int32)) → J X (0, 0) 97 [] [.int y30] (fl ad m27) := by
                intro y30 e_y30
                replace h := h y30 e_y30
                exact J_zret hX hR dX9_carryOut_97 (by rw [e_y30]; exact (bo_ite bo_0 bo_1)) ⟨_, _, rfl, rfl, h⟩
              refine J_if_lt (tgt := 96) hX dX9_carryOut_89 (by decide) (fun c29 => ?_) (fun c29 => ?_)
              · refine J_iconst (v := (0 : Int32)) hX dX9_carryOut_96 (by decide) ?_
                exact J_sub [] rfl (hj31 _ (if_pos c29).symm)
              · refine J_iconst (v := (1 : Int32)) hX dX9_carryOut_92 (by decide) ?_
                refine J_goto (tgt := 97) hX dX9_carryOut_93 (by decide) ?_
                exact J_sub [] rfl (hj31 _ (if_neg c29).symm)
          · replace h := Eq.mp (if_neg c23) h
            refine J_lookOut (off := 193) (tgt := 202) hX dX9_carryOut_9 (by decide) ((lv_osw c1 (by decide)).trans ((lv_osw c8 (by decide)).trans ((lv_osw c12 (by decide)).trans ((lv_osw c19 (by decide)).trans ((lv_osw c23 (by decide)).trans rfl))))) (by decide) ?_
            refine J_aload_n hX dX9_carryOut_202 rfl 1 rfl ?_
            refine J_callV hX km_X9_printImage kl_RX9_102 dX9_carryOut_203 ka_242 (by decide) [] ⟨Nat.le_of_ble_eq_true rfl, Nat.le_of_ble_eq_true rfl⟩ rfl rfl (Nat.le_of_ble_eq_true rfl) (c_X9_printImage m _ h) (fun v w2 hk => ?_)
            obtain ⟨y33, m32, rfl, rfl, h⟩ := hk
            show J X (0, 0) 206 [(1, .ref (ad 258)), (0, .ref (ad 242))] [.int y33] (fl ad m32)
            obtain ⟨b34, h⟩ := h
            exact J_zret hX hR dX9_carryOut_206 b34 ⟨_, _, rfl, rfl, h⟩
set_option maxRecDepth 100000 in
theorem t_X9_read_j77 {X : XT} {ad : Nat → Nat} {K : Int32 → Mm → Prop} (hX : Cx X cX9_read 4 RX9 (rmN 5 118)) (hR : Rx X (some .int) (kI ad K) (0, 0)) {k24 : Int32 → Mm → Prop} (x2 : Int32) (x3 : Int32) (hk24 : ∀ (z3 : Int32) (m : Mm), k24 z3 m → J X (0, 0) 24 [(0, .ref (ad 242)), (1, .ref (ad 241)), (2, .int x2), (3, .int z3)] [] (fl ad m)) (m : Mm) (h : wp_X9_read_j77 k24 K x2 x3 m) : J X (0, 0) 77 [(0, .ref (ad 242)), (1, .ref (ad 241)), (2, .int x2), (3, .int x3)] [] (fl ad m) := by
  unfold wp_X9_read_j77 at h
  refine J_aload_n hX dX9_read_77 rfl 0 rfl ?_
  refine J_getI hX kf_RX9_34 dX9_read_78 ka_242 (by decide) rfl ?_
  refine J_if_eq (tgt := 99) hX dX9_read_81 (by decide) (fun c11 => ?_) (fun c11 => ?_)
  · replace h := Eq.mp (if_pos c11) h
    refine J_iinc (x := (x3 + (1 : Int32))) (lv2 := [(3, .int (x3 + (1 : Int32))), (0, .ref (ad 242)), (1, .ref (ad 241)), (2, .int x2)]) hX dX9_read_99 3 rfl rfl (Nat.le_of_ble_eq_true rfl) rfl ?_
    refine J_goto (tgt := 24) hX dX9_read_102 (by decide) ?_
    exact J_sub [1, 2, 3, 0] rfl (hk24 (x3 + (1 : Int32)) m h)
  · replace h := Eq.mp (if_neg c11) h
    refine J_aload_n hX dX9_read_84 rfl 0 rfl ?_
    refine J_iconst (v := (0 : Int32)) hX dX9_read_85 (by decide) ?_
    refine J_putI hX kf_RX9_28 dX9_read_86 ka_242 (by decide) rfl ?_
    refine J_nmM (fun m12 e_m12 => ?_)
    replace h := h m12 e_m12
    refine J_aload_n hX dX9_read_89 rfl 0 rfl ?_
    refine J_dup hX dX9_read_90 rfl ?_
    refine J_getI hX kf_RX9_25 dX9_read_91 ka_242 (by decide) rfl ?_
    refine J_iconst (v := (1 : Int32)) hX dX9_read_94 (by decide) ?_
    refine J_iadd hX dX9_read_95 ?_
    refine J_putI hX kf_RX9_25 dX9_read_96 ka_242 (by decide) rfl ?_
    refine J_nmM (fun m13 e_m13 => ?_)
    replace h := h m13 e_m13
    refine J_iinc (x := (x3 + (1 : Int32))) (lv2 := [(3, .int (x3 + (1 : Int32))), (0, .ref (ad 242)), (1, .ref (ad 241)), (2, .int x2)]) hX dX9_read_99 3 rfl rfl (Nat.le_of_ble_eq_true rfl) rfl ?_
    refine J_goto (tgt := 24) hX dX9_read_102 (by decide) ?_
    exact J_sub [1, 2, 3, 0] rfl (hk24 (x3 + (1 : Int32)) m13 h)
set_option maxRecDepth 100000 in
theorem tb_X9_read_l24 {X : XT} {ad : Nat → Nat} {K : Int32 → Mm → Prop} (hX : Cx X cX9_read 4 RX9 (rmN 5 118)) (hR : Rx X (some .int) (kI ad K) (0, 0)) {rec : Int32 → Mm → Prop} {k105 : Mm → Prop} (x2 : Int32) (hrec : ∀ (x3 : Int32) (m : Mm), rec x3 m → J X (0, 0) 24 [(0, .ref (ad 242)), (1, .ref (ad 241)), (2, .int x2), (3, .int x3)] [] (fl ad m)) (hk105 : ∀ (m : Mm), k105 m → J X (0, 0) 105 [(0, .ref (ad 242)), (2, .int x2)] [] (fl ad m)) (x3 : Int32) (m : Mm) (h : wb_X9_read_l24 rec k105 K x2 x3 m) : J X (0, 0) 24 [(0, .ref (ad 242)), (1, .ref (ad 241)), (2, .int x2), (3, .int x3)] [] (fl ad m) := by
  unfold wb_X9_read_l24 at h
  refine J_iload_n hX dX9_read_24 rfl 3 rfl ?_
  refine J_iload_n hX dX9_read_25 rfl 2 rfl ?_
  refine J_icmp_ge (tgt := 105) hX dX9_read_26 (by decide) (fun c5 => ?_) (fun c5 => ?_)
  · replace h := Eq.mp (if_pos c5) h
    exact J_sub [0, 2] rfl (hk105 m h)
  · replace h := Eq.mp (if_neg c5) h
    refine J_iload_n hX dX9_read_29 rfl 3 rfl ?_
    refine J_aload_n hX dX9_read_30 rfl 1 rfl ?_
    refine J_alen (v := (160 : Int32)) hX dX9_read_31 ka_241 (by decide) le_241 rfl ?_
    refine J_icmp_ge (tgt := 105) hX dX9_read_32 (by decide) (fun c6 => ?_) (fun c6 => ?_)
    · replace h := Eq.mp (if_pos c6) h
      exact J_sub [0, 2] rfl (hk105 m h)
    · replace h := Eq.mp (if_neg c6) h
      refine J_aload_n hX dX9_read_35 rfl 0 rfl ?_
      refine J_getI hX kf_RX9_18 dX9_read_36 ka_242 (by decide) rfl ?_
      refine J_if_ne (tgt := 105) hX dX9_read_39 (by decide) (fun c7 => ?_) (fun c7 => ?_)
      · replace h := Eq.mp (if_neg c7) h
        exact J_sub [0, 2] rfl (hk105 m h)
      · replace h := Eq.mp (if_pos c7) h
        refine J_aload_n hX dX9_read_42 rfl 0 rfl ?_
        refine J_iconst (v := (0 : Int32)) hX dX9_read_43 (by decide) ?_
        refine J_putZ hX kf_RX9_34 dX9_read_44 ka_242 (by decide) rfl bo_0 ?_
        refine J_nmM (fun m8 e_m8 => ?_)
        replace h := h m8 e_m8
        refine J_aload_n hX dX9_read_47 rfl 0 rfl ?_
        refine J_aload_n hX dX9_read_48 rfl 1 rfl ?_
        refine J_iload_n hX dX9_read_49 rfl 2 rfl ?_
        refine J_iload_n hX dX9_read_50 rfl 3 rfl ?_
        refine J_callV hX km_X9_takeByte kl_RX9_45 dX9_read_51 ka_242 (by decide) [.ref (ad 241), .int x2, .int x3] ⟨Nat.le_of_ble_eq_true rfl, Nat.le_of_ble_eq_true rfl⟩ rfl rfl (Nat.le_of_ble_eq_true rfl) (c_X9_takeByte x2 x3 m8 _ h) (fun v w2 hk => ?_)
        obtain ⟨m9, rfl, rfl, h⟩ := hk
        show J X (0, 0) 54 [(0, .ref (ad 242)), (1, .ref (ad 241)), (2, .int x2), (3, .int x3)] [] (fl ad m9)
        refine J_aload_n hX dX9_read_54 rfl 0 rfl ?_
        refine J_getI hX kf_RX9_34 dX9_read_55 ka_242 (by decide) rfl ?_
        refine J_if_eq (tgt := 77) hX dX9_read_58 (by decide) (fun c10 => ?_) (fun c10 => ?_)
        · replace h := Eq.mp (if_pos c10) h
          exact J_sub [0, 1, 2, 3] rfl (t_X9_read_j77 hX hR x2 x3 hrec m9 h)
        · replace h := Eq.mp (if_neg c10) h
          refine J_aload_n hX dX9_read_61 rfl 0 rfl ?_
          refine J_callV hX km_X9_carryOut kl_RX9_49 dX9_read_62 ka_242 (by decide) [] ⟨Nat.le_of_ble_eq_true rfl, Nat.le_of_ble_eq_true rfl⟩ rfl rfl (Nat.le_of_ble_eq_true rfl) (c_X9_carryOut m9 _ h) (fun v w2 hk => ?_)
          obtain ⟨y15, m14, rfl, rfl, h⟩ := hk
          show J X (0, 0) 65 [(0, .ref (ad 242)), (1, .ref (ad 241)), (2, .int x2), (3, .int x3)] [.int y15] (fl ad m14)
          refine J_if_ne (tgt := 77) hX dX9_read_65 (by decide) (fun c16 => ?_) (fun c16 => ?_)
          · replace h := Eq.mp (if_neg c16) h
            exact J_sub [0, 1, 2, 3] rfl (t_X9_read_j77 hX hR x2 x3 hrec m14 h)
          · replace h := Eq.mp (if_pos c16) h
            refine J_aload_n hX dX9_read_68 rfl 0 rfl ?_
            refine J_iconst (v := (3 : Int32)) hX dX9_read_69 (by decide) ?_
            refine J_iload_n hX dX9_read_70 rfl 3 rfl ?_
            refine J_callV hX km_X9_fail kl_RX9_53 dX9_read_71 ka_242 (by decide) [.int (3 : Int32), .int x3] ⟨Nat.le_of_ble_eq_true rfl, Nat.le_of_ble_eq_true rfl⟩ rfl rfl (Nat.le_of_ble_eq_true rfl) (c_X9_fail (3 : Int32) x3 m14 _ h) (fun v w2 hk => ?_)
            obtain ⟨m17, rfl, rfl, h⟩ := hk
            show J X (0, 0) 74 [(0, .ref (ad 242)), (1, .ref (ad 241)), (2, .int x2), (3, .int x3)] [] (fl ad m17)
            refine J_goto (tgt := 99) hX dX9_read_74 (by decide) ?_
            refine J_iinc (x := (x3 + (1 : Int32))) (lv2 := [(3, .int (x3 + (1 : Int32))), (0, .ref (ad 242)), (1, .ref (ad 241)), (2, .int x2)]) hX dX9_read_99 3 rfl rfl (Nat.le_of_ble_eq_true rfl) rfl ?_
            refine J_goto (tgt := 24) hX dX9_read_102 (by decide) ?_
            exact J_sub [1, 2, 3, 0] rfl (hrec (x3 + (1 : Int32)) m17 h)
set_option maxRecDepth 100000 in
theorem t_X9_read_l24 {X : XT} {ad : Nat → Nat} {K : Int32 → Mm → Prop} (hX : Cx X cX9_read 4 RX9 (rmN 5 118)) (hR : Rx X (some .int) (kI ad K) (0, 0)) {k105 : Mm → Prop} (x2 : Int32) (hk105 : ∀ (m : Mm), k105 m → J X (0, 0) 105 [(0, .ref (ad 242)), (2, .int x2)] [] (fl ad m)) : ∀ (n : Nat) (x3 : Int32) (m : Mm), wp_X9_read_l24 k105 K x2 n x3 m → J X (0, 0) 24 [(0, .ref (ad 242)), (1, .ref (ad 241)), (2, .int x2), (3, .int x3)] [] (fl ad m) := by
  intro n
  induction n with
  | zero => intro x3 m h; exact h.elim
  | succ n ih => intro x3 m h; exact tb_X9_read_l24 hX hR x2 ih hk105 x3 m h
set_option maxRecDepth 100000 in
theorem t_X9_read_j125 {X : XT} {ad : Nat → Nat} {K : Int32 → Mm → Prop} (hX : Cx X cX9_read 4 RX9 (rmN 5 118)) (hR : Rx X (some .int) (kI ad K) (0, 0)) (m : Mm) (h : wp_X9_read_j125 K m) : J X (0, 0) 125 [(0, .ref (ad 242))] [] (fl ad m) := by
  unfold wp_X9_read_j125 at h
  refine J_aload_n hX dX9_read_125 rfl 0 rfl ?_
  refine J_getI hX kf_RX9_18 dX9_read_126 ka_242 (by decide) rfl ?_
  have hj22 : ∀ y21 : Int32, y21 = (if (m.1 242 1) = (0 : Int32) then (m.1 242 3) else ((-10 : Int32) - (m.1 242 2))) → J X (0, 0) 146 [] [.int y21] (fl ad m) := by
    intro y21 e_y21
    replace h := h y21 e_y21
    exact J_iret hX hR dX9_read_146 ⟨_, _, rfl, rfl, h⟩
  refine J_if_ne (tgt := 139) hX dX9_read_129 (by decide) (fun c20 => ?_) (fun c20 => ?_)
  · refine J_bipush (v := (-10 : Int32)) hX dX9_read_139 (by decide) ?_
    refine J_aload_n hX dX9_read_141 rfl 0 rfl ?_
    refine J_getI hX kf_RX9_22 dX9_read_142 ka_242 (by decide) rfl ?_
    refine J_isub hX dX9_read_145 ?_
    exact J_sub [] rfl (hj22 _ (if_neg c20).symm)
  · refine J_aload_n hX dX9_read_132 rfl 0 rfl ?_
    refine J_getI hX kf_RX9_25 dX9_read_133 ka_242 (by decide) rfl ?_
    refine J_goto (tgt := 146) hX dX9_read_136 (by decide) ?_
    exact J_sub [] rfl (hj22 _ (if_pos c20).symm)
set_option maxRecDepth 100000 in
theorem c_X9_read {G : GT} {ad : Nat → Nat} (x2 : Int32) (m : Mm) (K : Int32 → Mm → Prop) (h : wp_X9_read x2 m K) : Cn G yX9_read cX9_read 4 (some .int) (rmN 5 118) [.ref (ad 242), .ref (ad 241), .int x2] (0, 0) (fl ad m) (kI ad K) := by
  unfold wp_X9_read at h
  refine Cn.of pn_RX9 (Nat.le_of_ble_eq_true rfl) (fun X hG hX hR => ?_)
  subst hG
  have hX : Cx X cX9_read 4 RX9 (rmN 5 118) := hX
  show J X (0, 0) 0 [(0, .ref (ad 242)), (1, .ref (ad 241)), (2, .int x2)] [] (fl ad m)
  refine J_aload_n hX dX9_read_0 rfl 0 rfl ?_
  refine J_getR hX kf_RX9_12 dX9_read_1 ka_242 (by decide) rfl rh_242_0 ?_
  refine J_callV hX km_X3_empty kl_RX9_42 dX9_read_4 ka_243 (by decide) [] ⟨Nat.le_of_ble_eq_true rfl, Nat.le_of_ble_eq_true rfl⟩ rfl rfl (Nat.le_of_ble_eq_true rfl) (c_X3_empty 243 ka_243 m _ h) (fun v w2 hk => ?_)
  obtain ⟨m1, rfl, rfl, h⟩ := hk
  show J X (0, 0) 7 [(0, .ref (ad 242)), (1, .ref (ad 241)), (2, .int x2)] [] (fl ad m1)
  refine J_aload_n hX dX9_read_7 rfl 0 rfl ?_
  refine J_iconst (v := (0 : Int32)) hX dX9_read_8 (by decide) ?_
  refine J_putI hX kf_RX9_18 dX9_read_9 ka_242 (by decide) rfl ?_
  refine J_nmM (fun m2 e_m2 => ?_)
  replace h := h m2 e_m2
  refine J_aload_n hX dX9_read_12 rfl 0 rfl ?_
  refine J_iconst (v := (0 : Int32)) hX dX9_read_13 (by decide) ?_
  refine J_putI hX kf_RX9_25 dX9_read_14 ka_242 (by decide) rfl ?_
  refine J_nmM (fun m3 e_m3 => ?_)
  replace h := h m3 e_m3
  refine J_aload_n hX dX9_read_17 rfl 0 rfl ?_
  refine J_iconst (v := (0 : Int32)) hX dX9_read_18 (by decide) ?_
  refine J_putI hX kf_RX9_28 dX9_read_19 ka_242 (by decide) rfl ?_
  refine J_nmM (fun m4 e_m4 => ?_)
  replace h := h m4 e_m4
  refine J_iconst (v := (0 : Int32)) hX dX9_read_22 (by decide) ?_
  refine J_istore_n (lv2 := [(3, .int (0 : Int32)), (0, .ref (ad 242)), (1, .ref (ad 241)), (2, .int x2)]) hX dX9_read_23 rfl (Nat.le_of_ble_eq_true rfl) rfl ?_
  refine J_sub [1, 2, 3, 0] rfl (t_X9_read_l24 hX hR x2 (fun m18 h => ?_) FU (0 : Int32) m4 h)
  refine J_aload_n hX dX9_read_105 rfl 0 rfl ?_
  refine J_getI hX kf_RX9_18 dX9_read_106 ka_242 (by decide) rfl ?_
  refine J_if_ne (tgt := 125) hX dX9_read_109 (by decide) (fun c19 => ?_) (fun c19 => ?_)
  · replace h := Eq.mp (if_neg c19) h
    exact J_sub [0] rfl (t_X9_read_j125 hX hR m18 h)
  · replace h := Eq.mp (if_pos c19) h
    refine J_aload_n hX dX9_read_112 rfl 0 rfl ?_
    refine J_getI hX kf_RX9_28 dX9_read_113 ka_242 (by decide) rfl ?_
    refine J_if_eq (tgt := 125) hX dX9_read_116 (by decide) (fun c23 => ?_) (fun c23 => ?_)
    · replace h := Eq.mp (if_pos c23) h
      exact J_sub [0] rfl (t_X9_read_j125 hX hR m18 h)
    · replace h := Eq.mp (if_neg c23) h
      refine J_aload_n hX dX9_read_119 rfl 0 rfl ?_
      refine J_iconst (v := (2 : Int32)) hX dX9_read_120 (by decide) ?_
      refine J_iload_n hX dX9_read_121 rfl 1 rfl ?_
      refine J_callV hX km_X9_fail kl_RX9_53 dX9_read_122 ka_242 (by decide) [.int (2 : Int32), .int x2] ⟨Nat.le_of_ble_eq_true rfl, Nat.le_of_ble_eq_true rfl⟩ rfl rfl (Nat.le_of_ble_eq_true rfl) (c_X9_fail (2 : Int32) x2 m18 _ h) (fun v w2 hk => ?_)
      obtain ⟨m24, rfl, rfl, h⟩ := hk
      show J X (0, 0) 125 [(0, .ref (ad 242)), (2, .int x2)] [] (fl ad m24)
      exact J_sub [0] rfl (t_X9_read_j125 hX hR m24 h)
set_option maxRecDepth 100000 in
theorem c_X6_forgetAll {G : GT} {ad : Nat → Nat} (m : Mm) (K : Mm → Prop) (h : wp_X6_forgetAll m K) : Cn G yX6_forgetAll cX6_forgetAll 1 none (rmN 0 0) [.ref (ad 33)] (0, 0) (fl ad m) (kV ad K) := by
  unfold wp_X6_forgetAll at h
  refine Cn.of pn_RX6 (Nat.le_of_ble_eq_true rfl) (fun X hG hX hR => ?_)
  subst hG
  have hX : Cx X cX6_forgetAll 1 RX6 (rmN 0 0) := hX
  show J X (0, 0) 0 [(0, .ref (ad 33))] [] (fl ad m)
  refine J_aload_n hX dX6_forgetAll_0 rfl 0 rfl ?_
  refine J_iconst (v := (0 : Int32)) hX dX6_forgetAll_1 (by decide) ?_
  refine J_putI hX kf_RX6_9 dX6_forgetAll_2 ka_33 (by decide) rfl ?_
  refine J_nmM (fun m1 e_m1 => ?_)
  replace h := h m1 e_m1
  refine J_aload_n hX dX6_forgetAll_5 rfl 0 rfl ?_
  refine J_iconst (v := (0 : Int32)) hX dX6_forgetAll_6 (by decide) ?_
  refine J_putI hX kf_RX6_15 dX6_forgetAll_7 ka_33 (by decide) rfl ?_
  refine J_nmM (fun m2 e_m2 => ?_)
  replace h := h m2 e_m2
  exact J_vret hX hR dX6_forgetAll_10 ⟨_, rfl, rfl, h⟩
set_option maxRecDepth 100000 in
theorem c_X11_load {G : GT} {ad : Nat → Nat} (m : Mm) (K : Int32 → Mm → Prop) (h : wp_X11_load m K) : Cn G yX11_load cX11_load 2 (some .int) (rmN 6 141) [.ref (ad 0)] (0, 0) (fl ad m) (kI ad K) := by
  unfold wp_X11_load at h
  refine Cn.of pn_RX11 (Nat.le_of_ble_eq_true rfl) (fun X hG hX hR => ?_)
  subst hG
  have hX : Cx X cX11_load 2 RX11 (rmN 6 141) := hX
  show J X (0, 0) 0 [(0, .ref (ad 0))] [] (fl ad m)
  refine J_aload_n hX dX11_load_0 rfl 0 rfl ?_
  refine J_getR hX kf_RX11_41 dX11_load_1 ka_0 (by decide) rfl rh_0_6 ?_
  refine J_aload_n hX dX11_load_4 rfl 0 rfl ?_
  refine J_getR hX kf_RX11_34 dX11_load_5 ka_0 (by decide) rfl rh_0_5 ?_
  refine J_aload_n hX dX11_load_8 rfl 0 rfl ?_
  refine J_getI hX kf_RX11_82 dX11_load_9 ka_0 (by decide) rfl ?_
  refine J_callV hX km_X9_read kl_RX11_89 dX11_load_12 ka_242 (by decide) [.ref (ad 241), .int (m.1 0 14)] ⟨Nat.le_of_ble_eq_true rfl, Nat.le_of_ble_eq_true rfl⟩ rfl rfl (Nat.le_of_ble_eq_true rfl) (c_X9_read (m.1 0 14) m _ h) (fun v w2 hk => ?_)
  obtain ⟨y2, m1, rfl, rfl, h⟩ := hk
  show J X (0, 0) 15 [(0, .ref (ad 0))] [.int y2] (fl ad m1)
  refine J_istore_n (lv2 := [(1, .int y2), (0, .ref (ad 0))]) hX dX11_load_15 rfl (Nat.le_of_ble_eq_true rfl) rfl ?_
  refine J_aload_n hX dX11_load_16 rfl 1 rfl ?_
  refine J_aload_n hX dX11_load_17 rfl 1 rfl ?_
  refine J_getR hX kf_RX11_41 dX11_load_18 ka_0 (by decide) rfl rh_0_6 ?_
  refine J_getI hX kf_RX11_93 dX11_load_21 ka_242 (by decide) rfl ?_
  refine J_putI hX kf_RX11_86 dX11_load_24 ka_0 (by decide) rfl ?_
  refine J_nmM (fun m3 e_m3 => ?_)
  replace h := h m3 e_m3
  refine J_aload_n hX dX11_load_27 rfl 1 rfl ?_
  refine J_getI hX kf_RX11_86 dX11_load_28 ka_0 (by decide) rfl ?_
  refine J_if_ne (tgt := 55) hX dX11_load_31 (by decide) (fun c4 => ?_) (fun c4 => ?_)
  · replace h := Eq.mp (if_neg c4) h
    refine J_iload_n hX dX11_load_55 rfl 0 rfl ?_
    exact J_iret hX hR dX11_load_56 ⟨_, _, rfl, rfl, h⟩
  · replace h := Eq.mp (if_pos c4) h
    refine J_aload_n hX dX11_load_34 rfl 1 rfl ?_
    refine J_getR hX kf_RX11_10 dX11_load_35 ka_0 (by decide) rfl rh_0_0 ?_
    refine J_aload_n hX dX11_load_38 rfl 1 rfl ?_
    refine J_getR hX kf_RX11_41 dX11_load_39 ka_0 (by decide) rfl rh_0_6 ?_
    refine J_getR hX kf_RX11_96 dX11_load_42 ka_242 (by decide) rfl rh_242_0 ?_
    refine J_callV hX km_X3_become kl_RX11_99 dX11_load_45 ka_1 (by decide) [.ref (ad 243)] ⟨Nat.le_of_ble_eq_true rfl, Nat.le_of_ble_eq_true rfl⟩ rfl rfl (Nat.le_of_ble_eq_true rfl) (c_X3_become 1 ka_1 243 ka_243 m3 _ h) (fun v w2 hk => ?_)
    obtain ⟨m5, rfl, rfl, h⟩ := hk
    show J X (0, 0) 48 [(1, .int y2), (0, .ref (ad 0))] [] (fl ad m5)
    refine J_aload_n hX dX11_load_48 rfl 1 rfl ?_
    refine J_getR hX kf_RX11_30 dX11_load_49 ka_0 (by decide) rfl rh_0_4 ?_
    refine J_callV hX km_X6_forgetAll kl_RX11_103 dX11_load_52 ka_33 (by decide) [] ⟨Nat.le_of_ble_eq_true rfl, Nat.le_of_ble_eq_true rfl⟩ rfl rfl (Nat.le_of_ble_eq_true rfl) (c_X6_forgetAll m5 _ h) (fun v w2 hk => ?_)
    obtain ⟨m6, rfl, rfl, h⟩ := hk
    show J X (0, 0) 55 [(1, .int y2), (0, .ref (ad 0))] [] (fl ad m6)
    refine J_iload_n hX dX11_load_55 rfl 0 rfl ?_
    exact J_iret hX hR dX11_load_56 ⟨_, _, rfl, rfl, h⟩
set_option maxRecDepth 100000 in
theorem c_X11_openLength {G : GT} {ad : Nat → Nat} (x1 : Int32) (x2 : Int32) (m : Mm) (K : Int32 → Mm → Prop) (h : wp_X11_openLength x1 x2 m K) : Cn G yX11_openLength cX11_openLength 3 (some .int) (rmN 5 119) [.ref (ad 0), .int x1, .int x2] (0, 0) (fl ad m) (kI ad K) := by
  unfold wp_X11_openLength at h
  refine Cn.of pn_RX11 (Nat.le_of_ble_eq_true rfl) (fun X hG hX hR => ?_)
  subst hG
  have hX : Cx X cX11_openLength 3 RX11 (rmN 5 119) := hX
  show J X (0, 0) 0 [(0, .ref (ad 0)), (1, .int x1), (2, .int x2)] [] (fl ad m)
  refine J_aload_n hX dX11_openLength_0 rfl 0 rfl ?_
  refine J_getR hX kf_RX11_10 dX11_openLength_1 ka_0 (by decide) rfl rh_0_0 ?_
  refine J_iload_n hX dX11_openLength_4 rfl 1 rfl ?_
  refine J_callV hX km_X3_has kl_RX11_223 dX11_openLength_5 ka_1 (by decide) [.int x1] ⟨Nat.le_of_ble_eq_true rfl, Nat.le_of_ble_eq_true rfl⟩ rfl rfl (Nat.le_of_ble_eq_true rfl) (c_X3_has 1 ka_1 x1 m) (fun v w2 hk => ?_)
  obtain ⟨rfl, rfl⟩ := hk
  show J X (0, 0) 8 [(0, .ref (ad 0)), (1, .int x1), (2, .int x2)] [.int (v_X3_has 1 x1 m)] (fl ad m)
  refine J_if_eq (tgt := 20) hX dX11_openLength_8 (by decide) (fun c1 => ?_) (fun c1 => ?_)
  · replace h := Eq.mp (if_pos c1) h
    refine J_iconst (v := (-1 : Int32)) hX dX11_openLength_20 (by decide) ?_
    exact J_iret hX hR dX11_openLength_21 ⟨_, _, rfl, rfl, h⟩
  · replace h := Eq.mp (if_neg c1) h
    refine J_iload_n hX dX11_openLength_11 rfl 2 rfl ?_
    refine J_if_lt (tgt := 20) hX dX11_openLength_12 (by decide) (fun c2 => ?_) (fun c2 => ?_)
    · replace h := Eq.mp (if_pos c2) h
      refine J_iconst (v := (-1 : Int32)) hX dX11_openLength_20 (by decide) ?_
      exact J_iret hX hR dX11_openLength_21 ⟨_, _, rfl, rfl, h⟩
    · replace h := Eq.mp (if_neg c2) h
      refine J_iload_n hX dX11_openLength_15 rfl 2 rfl ?_
      refine J_iconst (v := (3 : Int32)) hX dX11_openLength_16 (by decide) ?_
      refine J_icmp_le (tgt := 22) hX dX11_openLength_17 (by decide) (fun c3 => ?_) (fun c3 => ?_)
      · replace h := Eq.mp (if_pos c3) h
        refine J_aload_n hX dX11_openLength_22 rfl 0 rfl ?_
        refine J_callV hX km_X11_findSeams kl_RX11_181 dX11_openLength_23 ka_0 (by decide) [] ⟨Nat.le_of_ble_eq_true rfl, Nat.le_of_ble_eq_true rfl⟩ rfl rfl (Nat.le_of_ble_eq_true rfl) (c_X11_findSeams m _ h) (fun v w2 hk => ?_)
        obtain ⟨m4, rfl, rfl, h⟩ := hk
        show J X (0, 0) 26 [(0, .ref (ad 0)), (1, .int x1), (2, .int x2)] [] (fl ad m4)
        refine J_aload_n hX dX11_openLength_26 rfl 0 rfl ?_
        refine J_getR hX kf_RX11_68 dX11_openLength_27 ka_0 (by decide) rfl rh_0_10 ?_
        refine J_iload_n hX dX11_openLength_30 rfl 1 rfl ?_
        refine J_iload_n hX dX11_openLength_31 rfl 2 rfl ?_
        refine J_callV hX km_X10_open kl_RX11_272 dX11_openLength_32 ka_268 (by decide) [.int x1, .int x2] ⟨Nat.le_of_ble_eq_true rfl, Nat.le_of_ble_eq_true rfl⟩ rfl rfl (Nat.le_of_ble_eq_true rfl) (c_X10_open x1 x2 m4 _ h) (fun v w2 hk => ?_)
        obtain ⟨y6, m5, rfl, rfl, h⟩ := hk
        show J X (0, 0) 35 [(0, .ref (ad 0)), (1, .int x1), (2, .int x2)] [.int y6] (fl ad m5)
        exact J_iret hX hR dX11_openLength_35 ⟨_, _, rfl, rfl, h⟩
      · replace h := Eq.mp (if_neg c3) h
        refine J_iconst (v := (-1 : Int32)) hX dX11_openLength_20 (by decide) ?_
        exact J_iret hX hR dX11_openLength_21 ⟨_, _, rfl, rfl, h⟩
set_option maxRecDepth 100000 in
theorem tb_X4_sumAbout_l5 {X : XT} {ad : Nat → Nat} {K : Int64 → Mm → Prop} (hX : Cx X cX4_sumAbout 5 RX4 (rmN 1 22)) (hR : Rx X (some .long) (kL ad K) (0, 0)) {rec : Int64 → Int32 → Mm → Prop} {k70 : Int64 → Mm → Prop} (x1 : Int32) (hrec : ∀ (x2 : Int64) (x4 : Int32) (m : Mm), rec x2 x4 m → J X (0, 0) 5 [(0, .ref (ad 264)), (1, .int x1), (2, .long x2), (4, .int x4)] [] (fl ad m)) (hk70 : ∀ (z2 : Int64) (m : Mm), k70 z2 m → J X (0, 0) 70 [(2, .long z2)] [] (fl ad m)) (x2 : Int64) (x4 : Int32) (m : Mm) (h : wb_X4_sumAbout_l5 rec k70 K x1 x2 x4 m) : J X (0, 0) 5 [(0, .ref (ad 264)), (1, .int x1), (2, .long x2), (4, .int x4)] [] (fl ad m) := by
  unfold wb_X4_sumAbout_l5 at h
  refine J_iload hX dX4_sumAbout_5 3 rfl ?_
  refine J_aload_n hX dX4_sumAbout_7 rfl 0 rfl ?_
  refine J_getI hX kf_RX4_9 dX4_sumAbout_8 ka_264 (by decide) rfl ?_
  refine J_icmp_ge (tgt := 70) hX dX4_sumAbout_11 (by decide) (fun c1 => ?_) (fun c1 => ?_)
  · replace h := Eq.mp (if_pos c1) h
    exact J_sub [2] rfl (hk70 x2 m h)
  · replace h := Eq.mp (if_neg c1) h
    refine J_iload hX dX4_sumAbout_14 3 rfl ?_
    refine J_sipush (v := (1000 : Int32)) hX dX4_sumAbout_16 (by decide) ?_
    refine J_icmp_ge (tgt := 70) hX dX4_sumAbout_19 (by decide) (fun c2 => ?_) (fun c2 => ?_)
    · replace h := Eq.mp (if_pos c2) h
      exact J_sub [2] rfl (hk70 x2 m h)
    · replace h := Eq.mp (if_neg c2) h
      refine J_aload_n hX dX4_sumAbout_22 rfl 0 rfl ?_
      refine J_getR hX kf_RX4_45 dX4_sumAbout_23 ka_264 (by decide) rfl rh_264_7 ?_
      refine J_iload hX dX4_sumAbout_26 3 rfl ?_
      obtain ⟨b3, h⟩ := h
      refine J_lald (j := x4.toNatClampNeg) hX dX4_sumAbout_28 ka_395 le_395 b3 rfl ?_
      refine J_callS hX km_X4_panelOf kl_RX4_225 dX4_sumAbout_29 [.long (m.2 395 x4.toNatClampNeg)] ⟨Nat.le_of_ble_eq_true rfl, Nat.le_of_ble_eq_true rfl⟩ rfl rfl (Nat.le_of_ble_eq_true rfl) (c_X4_panelOf (m.2 395 x4.toNatClampNeg) m) (fun v w2 hk => ?_)
      obtain ⟨rfl, rfl⟩ := hk
      show J X (0, 0) 32 [(0, .ref (ad 264)), (1, .int x1), (2, .long x2), (4, .int x4)] [.int (v_X4_panelOf (m.2 395 x4.toNatClampNeg))] (fl ad m)
      refine J_iload_n hX dX4_sumAbout_32 rfl 1 rfl ?_
      have hj7 : ∀ y6 : Int64, y6 = (if (v_X4_panelOf (m.2 395 x4.toNatClampNeg)) = x1 then (x2 + (v_X4_costOf (m.2 395 x4.toNatClampNeg)).toInt64) else (if (v_X4_otherOf (m.2 395 x4.toNatClampNeg)) = x1 then (x2 + (v_X4_costOf (m.2 395 x4.toNatClampNeg)).toInt64) else x2)) → J X (0, 0) 64 [(0, .ref (ad 264)), (1, .int x1), (2, .long y6), (4, .int x4)] [] (fl ad m) := by
        intro y6 e_y6
        replace h := h y6 e_y6
        refine J_iinc (x := (x4 + (1 : Int32))) (lv2 := [(4, .int (x4 + (1 : Int32))), (0, .ref (ad 264)), (1, .int x1), (2, .long y6)]) hX dX4_sumAbout_64 3 rfl rfl (Nat.le_of_ble_eq_true rfl) rfl ?_
        refine J_goto (tgt := 5) hX dX4_sumAbout_67 (by decide) ?_
        exact J_sub [1, 2, 3, 0] rfl (hrec y6 (x4 + (1 : Int32)) m h)
      refine J_icmp_eq (tgt := 50) hX dX4_sumAbout_33 (by decide) (fun c4 => ?_) (fun c4 => ?_)
      · refine J_lload_n hX dX4_sumAbout_50 rfl 2 rfl ?_
        refine J_aload_n hX dX4_sumAbout_51 rfl 0 rfl ?_
        refine J_getR hX kf_RX4_45 dX4_sumAbout_52 ka_264 (by decide) rfl rh_264_7 ?_
        refine J_iload hX dX4_sumAbout_55 3 rfl ?_
        refine J_lald (j := x4.toNatClampNeg) hX dX4_sumAbout_57 ka_395 le_395 b3 rfl ?_
        refine J_callS hX km_X4_costOf kl_RX4_234 dX4_sumAbout_58 [.long (m.2 395 x4.toNatClampNeg)] ⟨Nat.le_of_ble_eq_true rfl, Nat.le_of_ble_eq_true rfl⟩ rfl rfl (Nat.le_of_ble_eq_true rfl) (c_X4_costOf (m.2 395 x4.toNatClampNeg) m) (fun v w2 hk => ?_)
        obtain ⟨rfl, rfl⟩ := hk
        show J X (0, 0) 61 [(0, .ref (ad 264)), (1, .int x1), (2, .long x2), (4, .int x4)] [.int (v_X4_costOf (m.2 395 x4.toNatClampNeg)), .long x2] (fl ad m)
        refine J_i2l hX dX4_sumAbout_61 ?_
        refine J_ladd hX dX4_sumAbout_62 ?_
        refine J_lstore_n (lv2 := [(2, .long (x2 + (v_X4_costOf (m.2 395 x4.toNatClampNeg)).toInt64)), (0, .ref (ad 264)), (1, .int x1), (4, .int x4)]) hX dX4_sumAbout_63 rfl (Nat.le_of_ble_eq_true rfl) rfl ?_
        exact J_sub [1, 2, 0, 3] rfl (hj7 _ (if_pos c4).symm)
      · refine J_aload_n hX dX4_sumAbout_36 rfl 0 rfl ?_
        refine J_getR hX kf_RX4_45 dX4_sumAbout_37 ka_264 (by decide) rfl rh_264_7 ?_
        refine J_iload hX dX4_sumAbout_40 3 rfl ?_
        refine J_lald (j := x4.toNatClampNeg) hX dX4_sumAbout_42 ka_395 le_395 b3 rfl ?_
        refine J_callS hX km_X4_otherOf kl_RX4_231 dX4_sumAbout_43 [.long (m.2 395 x4.toNatClampNeg)] ⟨Nat.le_of_ble_eq_true rfl, Nat.le_of_ble_eq_true rfl⟩ rfl rfl (Nat.le_of_ble_eq_true rfl) (c_X4_otherOf (m.2 395 x4.toNatClampNeg) m) (fun v w2 hk => ?_)
        obtain ⟨rfl, rfl⟩ := hk
        show J X (0, 0) 46 [(0, .ref (ad 264)), (1, .int x1), (2, .long x2), (4, .int x4)] [.int (v_X4_otherOf (m.2 395 x4.toNatClampNeg))] (fl ad m)
        refine J_iload_n hX dX4_sumAbout_46 rfl 1 rfl ?_
        refine J_icmp_ne (tgt := 64) hX dX4_sumAbout_47 (by decide) (fun c5 => ?_) (fun c5 => ?_)
        · exact J_sub [0, 1, 2, 3] rfl (hj7 _ ((if_neg c4).trans (if_neg c5)).symm)
        · refine J_lload_n hX dX4_sumAbout_50 rfl 2 rfl ?_
          refine J_aload_n hX dX4_sumAbout_51 rfl 0 rfl ?_
          refine J_getR hX kf_RX4_45 dX4_sumAbout_52 ka_264 (by decide) rfl rh_264_7 ?_
          refine J_iload hX dX4_sumAbout_55 3 rfl ?_
          refine J_lald (j := x4.toNatClampNeg) hX dX4_sumAbout_57 ka_395 le_395 b3 rfl ?_
          refine J_callS hX km_X4_costOf kl_RX4_234 dX4_sumAbout_58 [.long (m.2 395 x4.toNatClampNeg)] ⟨Nat.le_of_ble_eq_true rfl, Nat.le_of_ble_eq_true rfl⟩ rfl rfl (Nat.le_of_ble_eq_true rfl) (c_X4_costOf (m.2 395 x4.toNatClampNeg) m) (fun v w2 hk => ?_)
          obtain ⟨rfl, rfl⟩ := hk
          show J X (0, 0) 61 [(0, .ref (ad 264)), (1, .int x1), (2, .long x2), (4, .int x4)] [.int (v_X4_costOf (m.2 395 x4.toNatClampNeg)), .long x2] (fl ad m)
          refine J_i2l hX dX4_sumAbout_61 ?_
          refine J_ladd hX dX4_sumAbout_62 ?_
          refine J_lstore_n (lv2 := [(2, .long (x2 + (v_X4_costOf (m.2 395 x4.toNatClampNeg)).toInt64)), (0, .ref (ad 264)), (1, .int x1), (4, .int x4)]) hX dX4_sumAbout_63 rfl (Nat.le_of_ble_eq_true rfl) rfl ?_
          exact J_sub [1, 2, 0, 3] rfl (hj7 _ ((if_neg c4).trans (if_pos c5)).symm)
set_option maxRecDepth 100000 in
theorem t_X4_sumAbout_l5 {X : XT} {ad : Nat → Nat} {K : Int64 → Mm → Prop} (hX : Cx X cX4_sumAbout 5 RX4 (rmN 1 22)) (hR : Rx X (some .long) (kL ad K) (0, 0)) {k70 : Int64 → Mm → Prop} (x1 : Int32) (hk70 : ∀ (z2 : Int64) (m : Mm), k70 z2 m → J X (0, 0) 70 [(2, .long z2)] [] (fl ad m)) : ∀ (n : Nat) (x2 : Int64) (x4 : Int32) (m : Mm), wp_X4_sumAbout_l5 k70 K x1 n x2 x4 m → J X (0, 0) 5 [(0, .ref (ad 264)), (1, .int x1), (2, .long x2), (4, .int x4)] [] (fl ad m) := by
  intro n
  induction n with
  | zero => intro x2 x4 m h; exact h.elim
  | succ n ih => intro x2 x4 m h; exact tb_X4_sumAbout_l5 hX hR x1 ih hk70 x2 x4 m h
set_option maxRecDepth 100000 in
theorem c_X4_sumAbout {G : GT} {ad : Nat → Nat} (x1 : Int32) (m : Mm) (K : Int64 → Mm → Prop) (h : wp_X4_sumAbout x1 m K) : Cn G yX4_sumAbout cX4_sumAbout 5 (some .long) (rmN 1 22) [.ref (ad 264), .int x1] (0, 0) (fl ad m) (kL ad K) := by
  unfold wp_X4_sumAbout at h
  refine Cn.of pn_RX4 (Nat.le_of_ble_eq_true rfl) (fun X hG hX hR => ?_)
  subst hG
  have hX : Cx X cX4_sumAbout 5 RX4 (rmN 1 22) := hX
  show J X (0, 0) 0 [(0, .ref (ad 264)), (1, .int x1)] [] (fl ad m)
  refine J_lconst (v := (0 : Int64)) hX dX4_sumAbout_0 (by decide) ?_
  refine J_lstore_n (lv2 := [(2, .long (0 : Int64)), (0, .ref (ad 264)), (1, .int x1)]) hX dX4_sumAbout_1 rfl (Nat.le_of_ble_eq_true rfl) rfl ?_
  refine J_iconst (v := (0 : Int32)) hX dX4_sumAbout_2 (by decide) ?_
  refine J_istore (lv2 := [(4, .int (0 : Int32)), (2, .long (0 : Int64)), (0, .ref (ad 264)), (1, .int x1)]) hX dX4_sumAbout_3 (Nat.le_of_ble_eq_true rfl) rfl ?_
  refine J_sub [2, 3, 1, 0] rfl (t_X4_sumAbout_l5 hX hR x1 (fun y8 m9 h => ?_) FU (0 : Int64) (0 : Int32) m h)
  refine J_lload_n hX dX4_sumAbout_70 rfl 0 rfl ?_
  exact J_lret hX hR dX4_sumAbout_71 ⟨_, _, rfl, rfl, h⟩
set_option maxRecDepth 100000 in
theorem c_X11_panelCost {G : GT} {ad : Nat → Nat} (x1 : Int32) (m : Mm) (K : Int64 → Mm → Prop) (h : wp_X11_panelCost x1 m K) : Cn G yX11_panelCost cX11_panelCost 2 (some .long) (rmN 6 144) [.ref (ad 0), .int x1] (0, 0) (fl ad m) (kL ad K) := by
  unfold wp_X11_panelCost at h
  refine Cn.of pn_RX11 (Nat.le_of_ble_eq_true rfl) (fun X hG hX hR => ?_)
  subst hG
  have hX : Cx X cX11_panelCost 2 RX11 (rmN 6 144) := hX
  show J X (0, 0) 0 [(0, .ref (ad 0)), (1, .int x1)] [] (fl ad m)
  refine J_aload_n hX dX11_panelCost_0 rfl 0 rfl ?_
  refine J_getR hX kf_RX11_10 dX11_panelCost_1 ka_0 (by decide) rfl rh_0_0 ?_
  refine J_iload_n hX dX11_panelCost_4 rfl 1 rfl ?_
  refine J_callV hX km_X3_has kl_RX11_223 dX11_panelCost_5 ka_1 (by decide) [.int x1] ⟨Nat.le_of_ble_eq_true rfl, Nat.le_of_ble_eq_true rfl⟩ rfl rfl (Nat.le_of_ble_eq_true rfl) (c_X3_has 1 ka_1 x1 m) (fun v w2 hk => ?_)
  obtain ⟨rfl, rfl⟩ := hk
  show J X (0, 0) 8 [(0, .ref (ad 0)), (1, .int x1)] [.int (v_X3_has 1 x1 m)] (fl ad m)
  refine J_if_ne (tgt := 15) hX dX11_panelCost_8 (by decide) (fun c1 => ?_) (fun c1 => ?_)
  · replace h := Eq.mp (if_neg c1) h
    refine J_aload_n hX dX11_panelCost_15 rfl 0 rfl ?_
    refine J_getR hX kf_RX11_55 dX11_panelCost_16 ka_0 (by decide) rfl rh_0_8 ?_
    refine J_aload_n hX dX11_panelCost_19 rfl 0 rfl ?_
    refine J_getR hX kf_RX11_10 dX11_panelCost_20 ka_0 (by decide) rfl rh_0_0 ?_
    refine J_callV hX km_X4_collect kl_RX11_328 dX11_panelCost_23 ka_264 (by decide) [.ref (ad 1)] ⟨Nat.le_of_ble_eq_true rfl, Nat.le_of_ble_eq_true rfl⟩ rfl rfl (Nat.le_of_ble_eq_true rfl) (c_X4_collect 1 ka_1 m _ h) (fun v w2 hk => ?_)
    obtain ⟨m2, rfl, rfl, h⟩ := hk
    show J X (0, 0) 26 [(0, .ref (ad 0)), (1, .int x1)] [] (fl ad m2)
    refine J_aload_n hX dX11_panelCost_26 rfl 0 rfl ?_
    refine J_getR hX kf_RX11_55 dX11_panelCost_27 ka_0 (by decide) rfl rh_0_8 ?_
    refine J_iload_n hX dX11_panelCost_30 rfl 1 rfl ?_
    refine J_callV hX km_X4_sumAbout kl_RX11_343 dX11_panelCost_31 ka_264 (by decide) [.int x1] ⟨Nat.le_of_ble_eq_true rfl, Nat.le_of_ble_eq_true rfl⟩ rfl rfl (Nat.le_of_ble_eq_true rfl) (c_X4_sumAbout x1 m2 _ h) (fun v w2 hk => ?_)
    obtain ⟨y4, m3, rfl, rfl, h⟩ := hk
    show J X (0, 0) 34 [(0, .ref (ad 0)), (1, .int x1)] [.long y4] (fl ad m3)
    exact J_lret hX hR dX11_panelCost_34 ⟨_, _, rfl, rfl, h⟩
  · replace h := Eq.mp (if_pos c1) h
    refine J_ldc2 hX kc_RX11_341 dX11_panelCost_11 ?_
    exact J_lret hX hR dX11_panelCost_14 ⟨_, _, rfl, rfl, h⟩
set_option maxRecDepth 100000 in
theorem c_X11_pitchFault {G : GT} {ad : Nat → Nat} (x1 : Int32) (x2 : Int32) (m : Mm) : Cn G yX11_pitchFault cX11_pitchFault 3 (some .int) (rmN 0 0) [.ref (ad 0), .int x1, .int x2] (0, 0) (fl ad m) (fun v w => v = some (.int (v_X11_pitchFault x1 x2 m)) ∧ w = fl ad m) := by
  refine Cn.of pn_RX11 (Nat.le_of_ble_eq_true rfl) (fun X hG hX hR => ?_)
  subst hG
  have hX : Cx X cX11_pitchFault 3 RX11 (rmN 0 0) := hX
  show J X (0, 0) 0 [(0, .ref (ad 0)), (1, .int x1), (2, .int x2)] [] (fl ad m)
  refine J_iload_n hX dX11_pitchFault_0 rfl 1 rfl ?_
  refine J_if_lt (tgt := 19) hX dX11_pitchFault_1 (by decide) (fun c1 => ?_) (fun c1 => ?_)
  · refine J_iconst (v := (-1 : Int32)) hX dX11_pitchFault_19 (by decide) ?_
    exact J_iret hX hR dX11_pitchFault_20 (And.intro (congrArg (fun z => some (Value.int z)) (show (-1 : Int32) = v_X11_pitchFault x1 x2 m from (if_pos c1).symm)) rfl)
  · refine J_iload_n hX dX11_pitchFault_4 rfl 1 rfl ?_
    refine J_iconst (v := (1 : Int32)) hX dX11_pitchFault_5 (by decide) ?_
    refine J_icmp_gt (tgt := 19) hX dX11_pitchFault_6 (by decide) (fun c2 => ?_) (fun c2 => ?_)
    · refine J_iconst (v := (-1 : Int32)) hX dX11_pitchFault_19 (by decide) ?_
      exact J_iret hX hR dX11_pitchFault_20 (And.intro (congrArg (fun z => some (Value.int z)) (show (-1 : Int32) = v_X11_pitchFault x1 x2 m from ((if_neg c1).trans (if_pos c2)).symm)) rfl)
    · refine J_iload_n hX dX11_pitchFault_9 rfl 2 rfl ?_
      refine J_if_lt (tgt := 19) hX dX11_pitchFault_10 (by decide) (fun c3 => ?_) (fun c3 => ?_)
      · refine J_iconst (v := (-1 : Int32)) hX dX11_pitchFault_19 (by decide) ?_
        exact J_iret hX hR dX11_pitchFault_20 (And.intro (congrArg (fun z => some (Value.int z)) (show (-1 : Int32) = v_X11_pitchFault x1 x2 m from ((if_neg c1).trans ((if_neg c2).trans (if_pos c3))).symm)) rfl)
      · refine J_iload_n hX dX11_pitchFault_13 rfl 2 rfl ?_
        refine J_bipush (v := (50 : Int32)) hX dX11_pitchFault_14 (by decide) ?_
        refine J_icmp_le (tgt := 21) hX dX11_pitchFault_16 (by decide) (fun c4 => ?_) (fun c4 => ?_)
        · refine J_aload_n hX dX11_pitchFault_21 rfl 0 rfl ?_
          refine J_getR hX kf_RX11_10 dX11_pitchFault_22 ka_0 (by decide) rfl rh_0_0 ?_
          refine J_getI hX kf_RX11_220 dX11_pitchFault_25 ka_1 (by decide) rfl ?_
          have hj6 : ∀ y7 : Int32, y7 = (if (m.1 1 4) = (0 : Int32) then (-2 : Int32) else (0 : Int32)) → J X (0, 0) 37 [] [.int y7] (fl ad m) := by
            intro y7 e_y7
            subst e_y7
            exact J_iret hX hR dX11_pitchFault_37 (And.intro (congrArg (fun z => some (Value.int z)) (show (if (m.1 1 4) = (0 : Int32) then (-2 : Int32) else (0 : Int32)) = v_X11_pitchFault x1 x2 m from ((if_neg c1).trans ((if_neg c2).trans ((if_neg c3).trans (if_pos c4)))).symm)) rfl)
          refine J_if_ne (tgt := 36) hX dX11_pitchFault_28 (by decide) (fun c5 => ?_) (fun c5 => ?_)
          · refine J_iconst (v := (0 : Int32)) hX dX11_pitchFault_36 (by decide) ?_
            exact J_sub [] rfl (hj6 _ (if_neg c5).symm)
          · refine J_bipush (v := (-2 : Int32)) hX dX11_pitchFault_31 (by decide) ?_
            refine J_goto (tgt := 37) hX dX11_pitchFault_33 (by decide) ?_
            exact J_sub [] rfl (hj6 _ (if_pos c5).symm)
        · refine J_iconst (v := (-1 : Int32)) hX dX11_pitchFault_19 (by decide) ?_
          exact J_iret hX hR dX11_pitchFault_20 (And.intro (congrArg (fun z => some (Value.int z)) (show (-1 : Int32) = v_X11_pitchFault x1 x2 m from ((if_neg c1).trans ((if_neg c2).trans ((if_neg c3).trans (if_neg c4)))).symm)) rfl)
set_option maxRecDepth 100000 in
theorem tb_X1_smallest_l12 {X : XT} {ad : Nat → Nat} {K : Int32 → Mm → Prop} (hX : Cx X cX1_smallest 4 RX1 (rmN 1 21)) (hR : Rx X (some .int) (kI ad K) (0, 0)) {rec : Int32 → Int32 → Mm → Prop} (a0 : Nat) (h0 : kap a0 = 3) (x1 : Int32) (hrec : ∀ (x2 : Int32) (x3 : Int32) (m : Mm), rec x2 x3 m → J X (0, 0) 12 [(0, .ref (ad a0)), (1, .int x1), (2, .int x2), (3, .int x3)] [] (fl ad m)) (x2 : Int32) (x3 : Int32) (m : Mm) (h : wb_X1_smallest_l12 rec K a0 x1 x2 x3 m) : J X (0, 0) 12 [(0, .ref (ad a0)), (1, .int x1), (2, .int x2), (3, .int x3)] [] (fl ad m) := by
  unfold wb_X1_smallest_l12 at h
  refine J_iload_n hX dX1_smallest_12 rfl 3 rfl ?_
  refine J_aload_n hX dX1_smallest_13 rfl 0 rfl ?_
  refine J_getI hX kf_RX1_20 dX1_smallest_14 h0 (by decide) rfl ?_
  refine J_icmp_ge (tgt := 40) hX dX1_smallest_17 (by decide) (fun c2 => ?_) (fun c2 => ?_)
  · replace h := Eq.mp (if_pos c2) h
    refine J_iload_n hX dX1_smallest_40 rfl 2 rfl ?_
    exact J_iret hX hR dX1_smallest_41 ⟨_, _, rfl, rfl, h⟩
  · replace h := Eq.mp (if_neg c2) h
    refine J_iload_n hX dX1_smallest_20 rfl 2 rfl ?_
    refine J_aload_n hX dX1_smallest_21 rfl 0 rfl ?_
    refine J_iload_n hX dX1_smallest_22 rfl 3 rfl ?_
    refine J_callV hX km_X3_panelAt kl_RX1_26 dX1_smallest_23 h0 (by decide) [.int x3] ⟨Nat.le_of_ble_eq_true rfl, Nat.le_of_ble_eq_true rfl⟩ rfl rfl (Nat.le_of_ble_eq_true rfl) (c_X3_panelAt a0 h0 x3 m) (fun v w2 hk => ?_)
    obtain ⟨rfl, rfl⟩ := hk
    show J X (0, 0) 26 [(0, .ref (ad a0)), (1, .int x1), (2, .int x2), (3, .int x3)] [.ref (ad (v_X3_panelAt a0 x3)), .int x2] (fl ad m)
    refine J_iload_n hX dX1_smallest_26 rfl 1 rfl ?_
    refine J_callV hX km_X7_lowOn kl_RX1_49 dX1_smallest_27 (kv_X3_panelAt h0) (by decide) [.int x1] ⟨Nat.le_of_ble_eq_true rfl, Nat.le_of_ble_eq_true rfl⟩ rfl rfl (Nat.le_of_ble_eq_true rfl) (c_X7_lowOn (v_X3_panelAt a0 x3) (kv_X3_panelAt h0) x1 m) (fun v w2 hk => ?_)
    obtain ⟨rfl, rfl⟩ := hk
    show J X (0, 0) 30 [(0, .ref (ad a0)), (1, .int x1), (2, .int x2), (3, .int x3)] [.int (v_X7_lowOn (v_X3_panelAt a0 x3) x1 m), .int x2] (fl ad m)
    refine J_mmin hX kl_RX1_81 dX1_smallest_30 (Nat.le_of_ble_eq_true rfl) (Nat.le_of_ble_eq_true rfl) ⟨Nat.le_of_ble_eq_true rfl, Nat.le_of_ble_eq_true rfl⟩ ?_
    refine J_nmI (fun y3 e_y3 => ?_)
    replace h := h y3 e_y3
    refine J_istore_n (lv2 := [(2, .int y3), (0, .ref (ad a0)), (1, .int x1), (3, .int x3)]) hX dX1_smallest_33 rfl (Nat.le_of_ble_eq_true rfl) rfl ?_
    refine J_iinc (x := (x3 + (1 : Int32))) (lv2 := [(3, .int (x3 + (1 : Int32))), (2, .int y3), (0, .ref (ad a0)), (1, .int x1)]) hX dX1_smallest_34 3 rfl rfl (Nat.le_of_ble_eq_true rfl) rfl ?_
    refine J_goto (tgt := 12) hX dX1_smallest_37 (by decide) ?_
    exact J_sub [2, 3, 1, 0] rfl (hrec y3 (x3 + (1 : Int32)) m h)
set_option maxRecDepth 100000 in
theorem t_X1_smallest_l12 {X : XT} {ad : Nat → Nat} {K : Int32 → Mm → Prop} (hX : Cx X cX1_smallest 4 RX1 (rmN 1 21)) (hR : Rx X (some .int) (kI ad K) (0, 0)) (a0 : Nat) (h0 : kap a0 = 3) (x1 : Int32) : ∀ (n : Nat) (x2 : Int32) (x3 : Int32) (m : Mm), wp_X1_smallest_l12 K a0 x1 n x2 x3 m → J X (0, 0) 12 [(0, .ref (ad a0)), (1, .int x1), (2, .int x2), (3, .int x3)] [] (fl ad m) := by
  intro n
  induction n with
  | zero => intro x2 x3 m h; exact h.elim
  | succ n ih => intro x2 x3 m h; exact tb_X1_smallest_l12 hX hR a0 h0 x1 ih x2 x3 m h
set_option maxRecDepth 100000 in
theorem c_X1_smallest {G : GT} {ad : Nat → Nat} (a0 : Nat) (h0 : kap a0 = 3) (x1 : Int32) (m : Mm) (K : Int32 → Mm → Prop) (h : wp_X1_smallest a0 x1 m K) : Cn G yX1_smallest cX1_smallest 4 (some .int) (rmN 1 21) [.ref (ad a0), .int x1] (0, 0) (fl ad m) (kI ad K) := by
  unfold wp_X1_smallest at h
  refine Cn.of pn_RX1 (Nat.le_of_ble_eq_true rfl) (fun X hG hX hR => ?_)
  subst hG
  have hX : Cx X cX1_smallest 4 RX1 (rmN 1 21) := hX
  show J X (0, 0) 0 [(0, .ref (ad a0)), (1, .int x1)] [] (fl ad m)
  refine J_aload_n hX dX1_smallest_0 rfl 0 rfl ?_
  refine J_iconst (v := (0 : Int32)) hX dX1_smallest_1 (by decide) ?_
  refine J_callV hX km_X3_panelAt kl_RX1_26 dX1_smallest_2 h0 (by decide) [.int (0 : Int32)] ⟨Nat.le_of_ble_eq_true rfl, Nat.le_of_ble_eq_true rfl⟩ rfl rfl (Nat.le_of_ble_eq_true rfl) (c_X3_panelAt a0 h0 (0 : Int32) m) (fun v w2 hk => ?_)
  obtain ⟨rfl, rfl⟩ := hk
  show J X (0, 0) 5 [(0, .ref (ad a0)), (1, .int x1)] [.ref (ad (v_X3_panelAt a0 (0 : Int32)))] (fl ad m)
  refine J_iload_n hX dX1_smallest_5 rfl 1 rfl ?_
  refine J_callV hX km_X7_lowOn kl_RX1_49 dX1_smallest_6 (kv_X3_panelAt h0) (by decide) [.int x1] ⟨Nat.le_of_ble_eq_true rfl, Nat.le_of_ble_eq_true rfl⟩ rfl rfl (Nat.le_of_ble_eq_true rfl) (c_X7_lowOn (v_X3_panelAt a0 (0 : Int32)) (kv_X3_panelAt h0) x1 m) (fun v w2 hk => ?_)
  obtain ⟨rfl, rfl⟩ := hk
  show J X (0, 0) 9 [(0, .ref (ad a0)), (1, .int x1)] [.int (v_X7_lowOn (v_X3_panelAt a0 (0 : Int32)) x1 m)] (fl ad m)
  refine J_nmI (fun y1 e_y1 => ?_)
  replace h := h y1 e_y1
  refine J_istore_n (lv2 := [(2, .int y1), (0, .ref (ad a0)), (1, .int x1)]) hX dX1_smallest_9 rfl (Nat.le_of_ble_eq_true rfl) rfl ?_
  refine J_iconst (v := (1 : Int32)) hX dX1_smallest_10 (by decide) ?_
  refine J_istore_n (lv2 := [(3, .int (1 : Int32)), (2, .int y1), (0, .ref (ad a0)), (1, .int x1)]) hX dX1_smallest_11 rfl (Nat.le_of_ble_eq_true rfl) rfl ?_
  refine J_sub [2, 3, 1, 0] rfl (t_X1_smallest_l12 hX hR a0 h0 x1 FU y1 (1 : Int32) m h)
set_option maxRecDepth 100000 in
theorem tb_X1_greatest_l12 {X : XT} {ad : Nat → Nat} {K : Int32 → Mm → Prop} (hX : Cx X cX1_greatest 4 RX1 (rmN 1 21)) (hR : Rx X (some .int) (kI ad K) (0, 0)) {rec : Int32 → Int32 → Mm → Prop} (a0 : Nat) (h0 : kap a0 = 3) (x1 : Int32) (hrec : ∀ (x2 : Int32) (x3 : Int32) (m : Mm), rec x2 x3 m → J X (0, 0) 12 [(0, .ref (ad a0)), (1, .int x1), (2, .int x2), (3, .int x3)] [] (fl ad m)) (x2 : Int32) (x3 : Int32) (m : Mm) (h : wb_X1_greatest_l12 rec K a0 x1 x2 x3 m) : J X (0, 0) 12 [(0, .ref (ad a0)), (1, .int x1), (2, .int x2), (3, .int x3)] [] (fl ad m) := by
  unfold wb_X1_greatest_l12 at h
  refine J_iload_n hX dX1_greatest_12 rfl 3 rfl ?_
  refine J_aload_n hX dX1_greatest_13 rfl 0 rfl ?_
  refine J_getI hX kf_RX1_20 dX1_greatest_14 h0 (by decide) rfl ?_
  refine J_icmp_ge (tgt := 40) hX dX1_greatest_17 (by decide) (fun c2 => ?_) (fun c2 => ?_)
  · replace h := Eq.mp (if_pos c2) h
    refine J_iload_n hX dX1_greatest_40 rfl 2 rfl ?_
    exact J_iret hX hR dX1_greatest_41 ⟨_, _, rfl, rfl, h⟩
  · replace h := Eq.mp (if_neg c2) h
    refine J_iload_n hX dX1_greatest_20 rfl 2 rfl ?_
    refine J_aload_n hX dX1_greatest_21 rfl 0 rfl ?_
    refine J_iload_n hX dX1_greatest_22 rfl 3 rfl ?_
    refine J_callV hX km_X3_panelAt kl_RX1_26 dX1_greatest_23 h0 (by decide) [.int x3] ⟨Nat.le_of_ble_eq_true rfl, Nat.le_of_ble_eq_true rfl⟩ rfl rfl (Nat.le_of_ble_eq_true rfl) (c_X3_panelAt a0 h0 x3 m) (fun v w2 hk => ?_)
    obtain ⟨rfl, rfl⟩ := hk
    show J X (0, 0) 26 [(0, .ref (ad a0)), (1, .int x1), (2, .int x2), (3, .int x3)] [.ref (ad (v_X3_panelAt a0 x3)), .int x2] (fl ad m)
    refine J_iload_n hX dX1_greatest_26 rfl 1 rfl ?_
    refine J_callV hX km_X7_highOn kl_RX1_53 dX1_greatest_27 (kv_X3_panelAt h0) (by decide) [.int x1] ⟨Nat.le_of_ble_eq_true rfl, Nat.le_of_ble_eq_true rfl⟩ rfl rfl (Nat.le_of_ble_eq_true rfl) (c_X7_highOn (v_X3_panelAt a0 x3) (kv_X3_panelAt h0) x1 m) (fun v w2 hk => ?_)
    obtain ⟨rfl, rfl⟩ := hk
    show J X (0, 0) 30 [(0, .ref (ad a0)), (1, .int x1), (2, .int x2), (3, .int x3)] [.int (v_X7_highOn (v_X3_panelAt a0 x3) x1 m), .int x2] (fl ad m)
    refine J_mmax hX kl_RX1_86 dX1_greatest_30 (Nat.le_of_ble_eq_true rfl) (Nat.le_of_ble_eq_true rfl) ⟨Nat.le_of_ble_eq_true rfl, Nat.le_of_ble_eq_true rfl⟩ ?_
    refine J_nmI (fun y3 e_y3 => ?_)
    replace h := h y3 e_y3
    refine J_istore_n (lv2 := [(2, .int y3), (0, .ref (ad a0)), (1, .int x1), (3, .int x3)]) hX dX1_greatest_33 rfl (Nat.le_of_ble_eq_true rfl) rfl ?_
    refine J_iinc (x := (x3 + (1 : Int32))) (lv2 := [(3, .int (x3 + (1 : Int32))), (2, .int y3), (0, .ref (ad a0)), (1, .int x1)]) hX dX1_greatest_34 3 rfl rfl (Nat.le_of_ble_eq_true rfl) rfl ?_
    refine J_goto (tgt := 12) hX dX1_greatest_37 (by decide) ?_
    exact J_sub [2, 3, 1, 0] rfl (hrec y3 (x3 + (1 : Int32)) m h)
set_option maxRecDepth 100000 in
theorem t_X1_greatest_l12 {X : XT} {ad : Nat → Nat} {K : Int32 → Mm → Prop} (hX : Cx X cX1_greatest 4 RX1 (rmN 1 21)) (hR : Rx X (some .int) (kI ad K) (0, 0)) (a0 : Nat) (h0 : kap a0 = 3) (x1 : Int32) : ∀ (n : Nat) (x2 : Int32) (x3 : Int32) (m : Mm), wp_X1_greatest_l12 K a0 x1 n x2 x3 m → J X (0, 0) 12 [(0, .ref (ad a0)), (1, .int x1), (2, .int x2), (3, .int x3)] [] (fl ad m) := by
  intro n
  induction n with
  | zero => intro x2 x3 m h; exact h.elim
  | succ n ih => intro x2 x3 m h; exact tb_X1_greatest_l12 hX hR a0 h0 x1 ih x2 x3 m h
set_option maxRecDepth 100000 in
theorem c_X1_greatest {G : GT} {ad : Nat → Nat} (a0 : Nat) (h0 : kap a0 = 3) (x1 : Int32) (m : Mm) (K : Int32 → Mm → Prop) (h : wp_X1_greatest a0 x1 m K) : Cn G yX1_greatest cX1_greatest 4 (some .int) (rmN 1 21) [.ref (ad a0), .int x1] (0, 0) (fl ad m) (kI ad K) := by
  unfold wp_X1_greatest at h
  refine Cn.of pn_RX1 (Nat.le_of_ble_eq_true rfl) (fun X hG hX hR => ?_)
  subst hG
  have hX : Cx X cX1_greatest 4 RX1 (rmN 1 21) := hX
  show J X (0, 0) 0 [(0, .ref (ad a0)), (1, .int x1)] [] (fl ad m)
  refine J_aload_n hX dX1_greatest_0 rfl 0 rfl ?_
  refine J_iconst (v := (0 : Int32)) hX dX1_greatest_1 (by decide) ?_
  refine J_callV hX km_X3_panelAt kl_RX1_26 dX1_greatest_2 h0 (by decide) [.int (0 : Int32)] ⟨Nat.le_of_ble_eq_true rfl, Nat.le_of_ble_eq_true rfl⟩ rfl rfl (Nat.le_of_ble_eq_true rfl) (c_X3_panelAt a0 h0 (0 : Int32) m) (fun v w2 hk => ?_)
  obtain ⟨rfl, rfl⟩ := hk
  show J X (0, 0) 5 [(0, .ref (ad a0)), (1, .int x1)] [.ref (ad (v_X3_panelAt a0 (0 : Int32)))] (fl ad m)
  refine J_iload_n hX dX1_greatest_5 rfl 1 rfl ?_
  refine J_callV hX km_X7_highOn kl_RX1_53 dX1_greatest_6 (kv_X3_panelAt h0) (by decide) [.int x1] ⟨Nat.le_of_ble_eq_true rfl, Nat.le_of_ble_eq_true rfl⟩ rfl rfl (Nat.le_of_ble_eq_true rfl) (c_X7_highOn (v_X3_panelAt a0 (0 : Int32)) (kv_X3_panelAt h0) x1 m) (fun v w2 hk => ?_)
  obtain ⟨rfl, rfl⟩ := hk
  show J X (0, 0) 9 [(0, .ref (ad a0)), (1, .int x1)] [.int (v_X7_highOn (v_X3_panelAt a0 (0 : Int32)) x1 m)] (fl ad m)
  refine J_nmI (fun y1 e_y1 => ?_)
  replace h := h y1 e_y1
  refine J_istore_n (lv2 := [(2, .int y1), (0, .ref (ad a0)), (1, .int x1)]) hX dX1_greatest_9 rfl (Nat.le_of_ble_eq_true rfl) rfl ?_
  refine J_iconst (v := (1 : Int32)) hX dX1_greatest_10 (by decide) ?_
  refine J_istore_n (lv2 := [(3, .int (1 : Int32)), (2, .int y1), (0, .ref (ad a0)), (1, .int x1)]) hX dX1_greatest_11 rfl (Nat.le_of_ble_eq_true rfl) rfl ?_
  refine J_sub [2, 3, 1, 0] rfl (t_X1_greatest_l12 hX hR a0 h0 x1 FU y1 (1 : Int32) m h)
set_option maxRecDepth 100000 in
theorem tb_X1_take_l6 {X : XT} {ad : Nat → Nat} {K : Mm → Prop} (hX : Cx X cX1_take 4 RX1 (rmN 1 21)) (hR : Rx X none (kV ad K) (0, 0)) {rec : Int32 → Mm → Prop} (x2 : Int32) (hrec : ∀ (x3 : Int32) (m : Mm), rec x3 m → J X (0, 0) 6 [(0, .ref (ad 259)), (2, .int x2), (3, .int x3)] [] (fl ad m)) (x3 : Int32) (m : Mm) (h : wb_X1_take_l6 rec K x2 x3 m) : J X (0, 0) 6 [(0, .ref (ad 259)), (2, .int x2), (3, .int x3)] [] (fl ad m) := by
  unfold wb_X1_take_l6 at h
  refine J_iload_n hX dX1_take_6 rfl 2 rfl ?_
  refine J_iload_n hX dX1_take_7 rfl 1 rfl ?_
  refine J_icmp_gt (tgt := 31) hX dX1_take_8 (by decide) (fun c2 => ?_) (fun c2 => ?_)
  · replace h := Eq.mp (if_pos c2) h
    exact J_vret hX hR dX1_take_31 ⟨_, rfl, rfl, h⟩
  · replace h := Eq.mp (if_neg c2) h
    refine J_iload_n hX dX1_take_11 rfl 2 rfl ?_
    refine J_sipush (v := (350 : Int32)) hX dX1_take_12 (by decide) ?_
    refine J_icmp_gt (tgt := 31) hX dX1_take_15 (by decide) (fun c3 => ?_) (fun c3 => ?_)
    · replace h := Eq.mp (if_pos c3) h
      exact J_vret hX hR dX1_take_31 ⟨_, rfl, rfl, h⟩
    · replace h := Eq.mp (if_neg c3) h
      refine J_aload_n hX dX1_take_18 rfl 0 rfl ?_
      refine J_getR hX kf_RX1_16 dX1_take_19 ka_259 (by decide) rfl rh_259_1 ?_
      refine J_iload_n hX dX1_take_22 rfl 2 rfl ?_
      refine J_iconst (v := (1 : Int32)) hX dX1_take_23 (by decide) ?_
      obtain ⟨b4, h⟩ := h
      refine J_zast (j := x3.toNatClampNeg) hX dX1_take_24 ka_263 le_263 b4 bo_1 rfl ?_
      refine J_nmM (fun m5 e_m5 => ?_)
      replace h := h m5 e_m5
      refine J_iinc (x := (x3 + (1 : Int32))) (lv2 := [(3, .int (x3 + (1 : Int32))), (0, .ref (ad 259)), (2, .int x2)]) hX dX1_take_25 2 rfl rfl (Nat.le_of_ble_eq_true rfl) rfl ?_
      refine J_goto (tgt := 6) hX dX1_take_28 (by decide) ?_
      exact J_sub [1, 2, 0] rfl (hrec (x3 + (1 : Int32)) m5 h)
set_option maxRecDepth 100000 in
theorem t_X1_take_l6 {X : XT} {ad : Nat → Nat} {K : Mm → Prop} (hX : Cx X cX1_take 4 RX1 (rmN 1 21)) (hR : Rx X none (kV ad K) (0, 0)) (x2 : Int32) : ∀ (n : Nat) (x3 : Int32) (m : Mm), wp_X1_take_l6 K x2 n x3 m → J X (0, 0) 6 [(0, .ref (ad 259)), (2, .int x2), (3, .int x3)] [] (fl ad m) := by
  intro n
  induction n with
  | zero => intro x3 m h; exact h.elim
  | succ n ih => intro x3 m h; exact tb_X1_take_l6 hX hR x2 ih x3 m h
set_option maxRecDepth 100000 in
theorem c_X1_take {G : GT} {ad : Nat → Nat} (x1 : Int32) (x2 : Int32) (m : Mm) (K : Mm → Prop) (h : wp_X1_take x1 x2 m K) : Cn G yX1_take cX1_take 4 none (rmN 1 21) [.ref (ad 259), .int x1, .int x2] (0, 0) (fl ad m) (kV ad K) := by
  unfold wp_X1_take at h
  refine Cn.of pn_RX1 (Nat.le_of_ble_eq_true rfl) (fun X hG hX hR => ?_)
  subst hG
  have hX : Cx X cX1_take 4 RX1 (rmN 1 21) := hX
  show J X (0, 0) 0 [(0, .ref (ad 259)), (1, .int x1), (2, .int x2)] [] (fl ad m)
  refine J_iconst (v := (0 : Int32)) hX dX1_take_0 (by decide) ?_
  refine J_iload_n hX dX1_take_1 rfl 1 rfl ?_
  refine J_mmax hX kl_RX1_86 dX1_take_2 (Nat.le_of_ble_eq_true rfl) (Nat.le_of_ble_eq_true rfl) ⟨Nat.le_of_ble_eq_true rfl, Nat.le_of_ble_eq_true rfl⟩ ?_
  refine J_nmI (fun y1 e_y1 => ?_)
  replace h := h y1 e_y1
  refine J_istore_n (lv2 := [(3, .int y1), (0, .ref (ad 259)), (1, .int x1), (2, .int x2)]) hX dX1_take_5 rfl (Nat.le_of_ble_eq_true rfl) rfl ?_
  refine J_sub [1, 3, 0] rfl (t_X1_take_l6 hX hR x2 FU y1 m h)
set_option maxRecDepth 100000 in
theorem tb_X1_isFree_l2 {X : XT} {ad : Nat → Nat} {K : Int32 → Mm → Prop} (hX : Cx X cX1_isFree 4 RX1 (rmN 0 0)) (hR : Rx X (some .boolean) (kI ad K) (0, 0)) {rec : Int32 → Mm → Prop} (x1 : Int32) (x2 : Int32) (hrec : ∀ (x3 : Int32) (m : Mm), rec x3 m → J X (0, 0) 2 [(0, .ref (ad 259)), (1, .int x1), (2, .int x2), (3, .int x3)] [] (fl ad m)) (x3 : Int32) (m : Mm) (h : wb_X1_isFree_l2 rec K x1 x2 x3 m) : J X (0, 0) 2 [(0, .ref (ad 259)), (1, .int x1), (2, .int x2), (3, .int x3)] [] (fl ad m) := by
  unfold wb_X1_isFree_l2 at h
  refine J_iload_n hX dX1_isFree_2 rfl 3 rfl ?_
  refine J_if_le (tgt := 36) hX dX1_isFree_3 (by decide) (fun c1 => ?_) (fun c1 => ?_)
  · replace h := Eq.mp (if_pos c1) h
    refine J_iconst (v := (1 : Int32)) hX dX1_isFree_36 (by decide) ?_
    exact J_zret hX hR dX1_isFree_37 bo_1 ⟨_, _, rfl, rfl, h⟩
  · replace h := Eq.mp (if_neg c1) h
    refine J_iload_n hX dX1_isFree_6 rfl 3 rfl ?_
    refine J_iload_n hX dX1_isFree_7 rfl 2 rfl ?_
    refine J_icmp_gt (tgt := 36) hX dX1_isFree_8 (by decide) (fun c2 => ?_) (fun c2 => ?_)
    · replace h := Eq.mp (if_pos c2) h
      refine J_iconst (v := (1 : Int32)) hX dX1_isFree_36 (by decide) ?_
      exact J_zret hX hR dX1_isFree_37 bo_1 ⟨_, _, rfl, rfl, h⟩
    · replace h := Eq.mp (if_neg c2) h
      refine J_iload_n hX dX1_isFree_11 rfl 3 rfl ?_
      refine J_sipush (v := (350 : Int32)) hX dX1_isFree_12 (by decide) ?_
      refine J_icmp_gt (tgt := 36) hX dX1_isFree_15 (by decide) (fun c3 => ?_) (fun c3 => ?_)
      · replace h := Eq.mp (if_pos c3) h
        refine J_iconst (v := (1 : Int32)) hX dX1_isFree_36 (by decide) ?_
        exact J_zret hX hR dX1_isFree_37 bo_1 ⟨_, _, rfl, rfl, h⟩
      · replace h := Eq.mp (if_neg c3) h
        refine J_aload_n hX dX1_isFree_18 rfl 0 rfl ?_
        refine J_getR hX kf_RX1_16 dX1_isFree_19 ka_259 (by decide) rfl rh_259_1 ?_
        refine J_iload_n hX dX1_isFree_22 rfl 3 rfl ?_
        obtain ⟨b4, h⟩ := h
        refine J_zald (j := x3.toNatClampNeg) hX dX1_isFree_23 ka_263 le_263 b4 rfl ?_
        refine J_if_eq (tgt := 29) hX dX1_isFree_24 (by decide) (fun c5 => ?_) (fun c5 => ?_)
        · replace h := Eq.mp (if_pos c5) h
          refine J_iload_n hX dX1_isFree_29 rfl 3 rfl ?_
          refine J_iload_n hX dX1_isFree_30 rfl 1 rfl ?_
          refine J_iadd hX dX1_isFree_31 ?_
          refine J_nmI (fun y6 e_y6 => ?_)
          replace h := h y6 e_y6
          refine J_istore_n (lv2 := [(3, .int y6), (0, .ref (ad 259)), (1, .int x1), (2, .int x2)]) hX dX1_isFree_32 rfl (Nat.le_of_ble_eq_true rfl) rfl ?_
          refine J_goto (tgt := 2) hX dX1_isFree_33 (by decide) ?_
          exact J_sub [1, 2, 3, 0] rfl (hrec y6 m h)
        · replace h := Eq.mp (if_neg c5) h
          refine J_iconst (v := (0 : Int32)) hX dX1_isFree_27 (by decide) ?_
          exact J_zret hX hR dX1_isFree_28 bo_0 ⟨_, _, rfl, rfl, h⟩
set_option maxRecDepth 100000 in
theorem t_X1_isFree_l2 {X : XT} {ad : Nat → Nat} {K : Int32 → Mm → Prop} (hX : Cx X cX1_isFree 4 RX1 (rmN 0 0)) (hR : Rx X (some .boolean) (kI ad K) (0, 0)) (x1 : Int32) (x2 : Int32) : ∀ (n : Nat) (x3 : Int32) (m : Mm), wp_X1_isFree_l2 K x1 x2 n x3 m → J X (0, 0) 2 [(0, .ref (ad 259)), (1, .int x1), (2, .int x2), (3, .int x3)] [] (fl ad m) := by
  intro n
  induction n with
  | zero => intro x3 m h; exact h.elim
  | succ n ih => intro x3 m h; exact tb_X1_isFree_l2 hX hR x1 x2 ih x3 m h
set_option maxRecDepth 100000 in
theorem c_X1_isFree {G : GT} {ad : Nat → Nat} (x1 : Int32) (x2 : Int32) (m : Mm) (K : Int32 → Mm → Prop) (h : wp_X1_isFree x1 x2 m K) : Cn G yX1_isFree cX1_isFree 4 (some .boolean) (rmN 0 0) [.ref (ad 259), .int x1, .int x2] (0, 0) (fl ad m) (kI ad K) := by
  unfold wp_X1_isFree at h
  refine Cn.of pn_RX1 (Nat.le_of_ble_eq_true rfl) (fun X hG hX hR => ?_)
  subst hG
  have hX : Cx X cX1_isFree 4 RX1 (rmN 0 0) := hX
  show J X (0, 0) 0 [(0, .ref (ad 259)), (1, .int x1), (2, .int x2)] [] (fl ad m)
  refine J_iload_n hX dX1_isFree_0 rfl 1 rfl ?_
  refine J_istore_n (lv2 := [(3, .int x1), (0, .ref (ad 259)), (1, .int x1), (2, .int x2)]) hX dX1_isFree_1 rfl (Nat.le_of_ble_eq_true rfl) rfl ?_
  refine J_sub [1, 2, 3, 0] rfl (t_X1_isFree_l2 hX hR x1 x2 FU x1 m h)
set_option maxRecDepth 100000 in
theorem tb_X1_leastPitch_l3 {X : XT} {ad : Nat → Nat} {K : Int32 → Mm → Prop} (hX : Cx X cX1_leastPitch 15 RX1 (rmN 2 44)) (hR : Rx X (some .int) (kI ad K) (0, 0)) {rec : Int32 → Mm → Prop} {k25 : Mm → Prop} (a1 : Nat) (h1 : kap a1 = 3) (x2 : Int32) (x3 : Int32) (x4 : Int32) (hrec : ∀ (x5 : Int32) (m : Mm), rec x5 m → J X (0, 0) 3 [(0, .ref (ad 259)), (1, .ref (ad a1)), (2, .int x2), (3, .int x3), (4, .int x4), (5, .int x5)] [] (fl ad m)) (hk25 : ∀ (m : Mm), k25 m → J X (0, 0) 25 [(0, .ref (ad 259)), (1, .ref (ad a1)), (2, .int x2), (3, .int x3), (4, .int x4)] [] (fl ad m)) (x5 : Int32) (m : Mm) (h : wb_X1_leastPitch_l3 rec k25 K a1 x2 x3 x4 x5 m) : J X (0, 0) 3 [(0, .ref (ad 259)), (1, .ref (ad a1)), (2, .int x2), (3, .int x3), (4, .int x4), (5, .int x5)] [] (fl ad m) := by
  unfold wb_X1_leastPitch_l3 at h
  refine J_iload hX dX1_leastPitch_3 5 rfl ?_
  refine J_sipush (v := (350 : Int32)) hX dX1_leastPitch_5 (by decide) ?_
  refine J_icmp_gt (tgt := 25) hX dX1_leastPitch_8 (by decide) (fun c1 => ?_) (fun c1 => ?_)
  · replace h := Eq.mp (if_pos c1) h
    exact J_sub [0, 1, 2, 3, 4] rfl (hk25 m h)
  · replace h := Eq.mp (if_neg c1) h
    refine J_aload_n hX dX1_leastPitch_11 rfl 0 rfl ?_
    refine J_getR hX kf_RX1_16 dX1_leastPitch_12 ka_259 (by decide) rfl rh_259_1 ?_
    refine J_iload hX dX1_leastPitch_15 5 rfl ?_
    refine J_iconst (v := (0 : Int32)) hX dX1_leastPitch_17 (by decide) ?_
    obtain ⟨b2, h⟩ := h
    refine J_zast (j := x5.toNatClampNeg) hX dX1_leastPitch_18 ka_263 le_263 b2 bo_0 rfl ?_
    refine J_nmM (fun m3 e_m3 => ?_)
    replace h := h m3 e_m3
    refine J_iinc (x := (x5 + (1 : Int32))) (lv2 := [(5, .int (x5 + (1 : Int32))), (0, .ref (ad 259)), (1, .ref (ad a1)), (2, .int x2), (3, .int x3), (4, .int x4)]) hX dX1_leastPitch_19 5 rfl rfl (Nat.le_of_ble_eq_true rfl) rfl ?_
    refine J_goto (tgt := 3) hX dX1_leastPitch_22 (by decide) ?_
    exact J_sub [1, 2, 3, 4, 5, 0] rfl (hrec (x5 + (1 : Int32)) m3 h)
set_option maxRecDepth 100000 in
theorem t_X1_leastPitch_l3 {X : XT} {ad : Nat → Nat} {K : Int32 → Mm → Prop} (hX : Cx X cX1_leastPitch 15 RX1 (rmN 2 44)) (hR : Rx X (some .int) (kI ad K) (0, 0)) {k25 : Mm → Prop} (a1 : Nat) (h1 : kap a1 = 3) (x2 : Int32) (x3 : Int32) (x4 : Int32) (hk25 : ∀ (m : Mm), k25 m → J X (0, 0) 25 [(0, .ref (ad 259)), (1, .ref (ad a1)), (2, .int x2), (3, .int x3), (4, .int x4)] [] (fl ad m)) : ∀ (n : Nat) (x5 : Int32) (m : Mm), wp_X1_leastPitch_l3 k25 K a1 x2 x3 x4 n x5 m → J X (0, 0) 3 [(0, .ref (ad 259)), (1, .ref (ad a1)), (2, .int x2), (3, .int x3), (4, .int x4), (5, .int x5)] [] (fl ad m) := by
  intro n
  induction n with
  | zero => intro x5 m h; exact h.elim
  | succ n ih => intro x5 m h; exact tb_X1_leastPitch_l3 hX hR a1 h1 x2 x3 x4 ih hk25 x5 m h
set_option maxRecDepth 100000 in
theorem tb_X1_leastPitch_l70 {X : XT} {ad : Nat → Nat} {K : Int32 → Mm → Prop} (hX : Cx X cX1_leastPitch 15 RX1 (rmN 2 44)) (hR : Rx X (some .int) (kI ad K) (0, 0)) {rec : Int32 → Mm → Prop} {k58 : Int32 → Mm → Prop} (a1 : Nat) (h1 : kap a1 = 3) (x2 : Int32) (x3 : Int32) (x4 : Int32) (x5 : Int32) (x6 : Int32) (x7 : Int32) (hrec : ∀ (x8 : Int32) (m : Mm), rec x8 m → J X (0, 0) 70 [(0, .ref (ad 259)), (1, .ref (ad a1)), (2, .int x2), (3, .int x3), (4, .int x4), (5, .int x5), (6, .int x6), (7, .int x7), (8, .int x8)] [] (fl ad m)) (hk58 : ∀ (z7 : Int32) (m : Mm), k58 z7 m → J X (0, 0) 58 [(0, .ref (ad 259)), (1, .ref (ad a1)), (2, .int x2), (3, .int x3), (4, .int x4), (5, .int x5), (6, .int x6), (7, .int z7)] [] (fl ad m)) (x8 : Int32) (m : Mm) (h : wb_X1_leastPitch_l70 rec k58 K a1 x2 x3 x4 x5 x6 x7 x8 m) : J X (0, 0) 70 [(0, .ref (ad 259)), (1, .ref (ad a1)), (2, .int x2), (3, .int x3), (4, .int x4), (5, .int x5), (6, .int x6), (7, .int x7), (8, .int x8)] [] (fl ad m) := by
  unfold wb_X1_leastPitch_l70 at h
  refine J_iload hX dX1_leastPitch_70 8 rfl ?_
  refine J_aload_n hX dX1_leastPitch_72 rfl 1 rfl ?_
  refine J_getI hX kf_RX1_20 dX1_leastPitch_73 h1 (by decide) rfl ?_
  refine J_icmp_ge (tgt := 267) hX dX1_leastPitch_76 (by decide) (fun c16 => ?_) (fun c16 => ?_)
  · replace h := Eq.mp (if_pos c16) h
    refine J_iinc (x := (x7 + (1 : Int32))) (lv2 := [(7, .int (x7 + (1 : Int32))), (0, .ref (ad 259)), (1, .ref (ad a1)), (2, .int x2), (3, .int x3), (4, .int x4), (5, .int x5), (6, .int x6), (8, .int x8)]) hX dX1_leastPitch_267 7 rfl rfl (Nat.le_of_ble_eq_true rfl) rfl ?_
    refine J_goto (tgt := 58) hX dX1_leastPitch_270 (by decide) ?_
    exact J_sub [1, 2, 3, 4, 5, 6, 7, 0] rfl (hk58 (x7 + (1 : Int32)) m h)
  · replace h := Eq.mp (if_neg c16) h
    refine J_aload_n hX dX1_leastPitch_79 rfl 1 rfl ?_
    refine J_iload hX dX1_leastPitch_80 7 rfl ?_
    refine J_callV hX km_X3_panelAt kl_RX1_26 dX1_leastPitch_82 h1 (by decide) [.int x7] ⟨Nat.le_of_ble_eq_true rfl, Nat.le_of_ble_eq_true rfl⟩ rfl rfl (Nat.le_of_ble_eq_true rfl) (c_X3_panelAt a1 h1 x7 m) (fun v w2 hk => ?_)
    obtain ⟨rfl, rfl⟩ := hk
    show J X (0, 0) 85 [(0, .ref (ad 259)), (1, .ref (ad a1)), (2, .int x2), (3, .int x3), (4, .int x4), (5, .int x5), (6, .int x6), (7, .int x7), (8, .int x8)] [.ref (ad (v_X3_panelAt a1 x7))] (fl ad m)
    refine J_astore (lv2 := [(9, .ref (ad (v_X3_panelAt a1 x7))), (0, .ref (ad 259)), (1, .ref (ad a1)), (2, .int x2), (3, .int x3), (4, .int x4), (5, .int x5), (6, .int x6), (7, .int x7), (8, .int x8)]) hX dX1_leastPitch_85 (Nat.le_of_ble_eq_true rfl) rfl ?_
    refine J_aload_n hX dX1_leastPitch_87 rfl 2 rfl ?_
    refine J_iload hX dX1_leastPitch_88 9 rfl ?_
    refine J_callV hX km_X3_panelAt kl_RX1_26 dX1_leastPitch_90 h1 (by decide) [.int x8] ⟨Nat.le_of_ble_eq_true rfl, Nat.le_of_ble_eq_true rfl⟩ rfl rfl (Nat.le_of_ble_eq_true rfl) (c_X3_panelAt a1 h1 x8 m) (fun v w2 hk => ?_)
    obtain ⟨rfl, rfl⟩ := hk
    show J X (0, 0) 93 [(9, .ref (ad (v_X3_panelAt a1 x7))), (0, .ref (ad 259)), (1, .ref (ad a1)), (2, .int x2), (3, .int x3), (4, .int x4), (5, .int x5), (6, .int x6), (7, .int x7), (8, .int x8)] [.ref (ad (v_X3_panelAt a1 x8))] (fl ad m)
    refine J_astore (lv2 := [(10, .ref (ad (v_X3_panelAt a1 x8))), (9, .ref (ad (v_X3_panelAt a1 x7))), (0, .ref (ad 259)), (1, .ref (ad a1)), (2, .int x2), (3, .int x3), (4, .int x4), (5, .int x5), (6, .int x6), (7, .int x7), (8, .int x8)]) hX dX1_leastPitch_93 (Nat.le_of_ble_eq_true rfl) rfl ?_
    refine J_iload hX dX1_leastPitch_95 6 rfl ?_
    have hj30 : ∀ y18 : Int32, y18 = (if x4 = (0 : Int32) then (v_X7_lowOn (v_X3_panelAt a1 x8) x2 m) else (x5 - (v_X7_highOn (v_X3_panelAt a1 x8) x2 m))) → J X (0, 0) 118 [(0, .ref (ad 259)), (1, .ref (ad a1)), (2, .int x2), (3, .int x3), (4, .int x4), (5, .int x5), (6, .int x6), (7, .int x7), (8, .int x8), (9, .ref (ad (v_X3_panelAt a1 x7))), (10, .ref (ad (v_X3_panelAt a1 x8)))] [.int y18] (fl ad m) := by
      intro y18 e_y18
      replace h := h y18 e_y18
      refine J_istore (lv2 := [(11, .int y18), (0, .ref (ad 259)), (1, .ref (ad a1)), (2, .int x2), (3, .int x3), (4, .int x4), (5, .int x5), (6, .int x6), (7, .int x7), (8, .int x8), (9, .ref (ad (v_X3_panelAt a1 x7))), (10, .ref (ad (v_X3_panelAt a1 x8)))]) hX dX1_leastPitch_118 (Nat.le_of_ble_eq_true rfl) rfl ?_
      refine J_iload hX dX1_leastPitch_120 5 rfl ?_
      have hj29 : ∀ y20 : Int32, y20 = (if x4 = (0 : Int32) then (v_X7_highOn (v_X3_panelAt a1 x8) x2 m) else (x5 - (v_X7_lowOn (v_X3_panelAt a1 x8) x2 m))) → J X (0, 0) 143 [(0, .ref (ad 259)), (1, .ref (ad a1)), (2, .int x2), (3, .int x3), (4, .int x4), (5, .int x5), (6, .int x6), (7, .int x7), (8, .int x8), (9, .ref (ad (v_X3_panelAt a1 x7))), (10, .ref (ad (v_X3_panelAt a1 x8))), (11, .int y18)] [.int y20] (fl ad m) := by
        intro y20 e_y20
        replace h := h y20 e_y20
        refine J_istore (lv2 := [(12, .int y20), (0, .ref (ad 259)), (1, .ref (ad a1)), (2, .int x2), (3, .int x3), (4, .int x4), (5, .int x5), (6, .int x6), (7, .int x7), (8, .int x8), (9, .ref (ad (v_X3_panelAt a1 x7))), (10, .ref (ad (v_X3_panelAt a1 x8))), (11, .int y18)]) hX dX1_leastPitch_143 (Nat.le_of_ble_eq_true rfl) rfl ?_
        refine J_iload hX dX1_leastPitch_145 5 rfl ?_
        have hj28 : ∀ y22 : Int32, y22 = (if x4 = (0 : Int32) then (v_X7_lowOn (v_X3_panelAt a1 x8) ((1 : Int32) - x2) m) else (x6 - (v_X7_highOn (v_X3_panelAt a1 x8) ((1 : Int32) - x2) m))) → J X (0, 0) 172 [(0, .ref (ad 259)), (1, .ref (ad a1)), (2, .int x2), (3, .int x3), (4, .int x4), (5, .int x5), (6, .int x6), (7, .int x7), (8, .int x8), (9, .ref (ad (v_X3_panelAt a1 x7))), (10, .ref (ad (v_X3_panelAt a1 x8))), (11, .int y18), (12, .int y20)] [.int y22] (fl ad m) := by
          intro y22 e_y22
          replace h := h y22 e_y22
          refine J_istore (lv2 := [(13, .int y22), (0, .ref (ad 259)), (1, .ref (ad a1)), (2, .int x2), (3, .int x3), (4, .int x4), (5, .int x5), (6, .int x6), (7, .int x7), (8, .int x8), (9, .ref (ad (v_X3_panelAt a1 x7))), (10, .ref (ad (v_X3_panelAt a1 x8))), (11, .int y18), (12, .int y20)]) hX dX1_leastPitch_172 (Nat.le_of_ble_eq_true rfl) rfl ?_
          refine J_iload hX dX1_leastPitch_174 5 rfl ?_
          have hj27 : ∀ y24 : Int32, y24 = (if x4 = (0 : Int32) then (v_X7_highOn (v_X3_panelAt a1 x8) ((1 : Int32) - x2) m) else (x6 - (v_X7_lowOn (v_X3_panelAt a1 x8) ((1 : Int32) - x2) m))) → J X (0, 0) 201 [(0, .ref (ad 259)), (1, .ref (ad a1)), (2, .int x2), (3, .int x3), (4, .int x4), (5, .int x5), (6, .int x6), (7, .int x7), (8, .int x8), (9, .ref (ad (v_X3_panelAt a1 x7))), (11, .int y18), (12, .int y20), (13, .int y22)] [.int y24] (fl ad m) := by
            intro y24 e_y24
            replace h := h y24 e_y24
            refine J_istore (lv2 := [(14, .int y24), (0, .ref (ad 259)), (1, .ref (ad a1)), (2, .int x2), (3, .int x3), (4, .int x4), (5, .int x5), (6, .int x6), (7, .int x7), (8, .int x8), (9, .ref (ad (v_X3_panelAt a1 x7))), (11, .int y18), (12, .int y20), (13, .int y22)]) hX dX1_leastPitch_201 (Nat.le_of_ble_eq_true rfl) rfl ?_
            refine J_aload hX dX1_leastPitch_203 10 rfl ?_
            refine J_iconst (v := (1 : Int32)) hX dX1_leastPitch_205 (by decide) ?_
            refine J_iload_n hX dX1_leastPitch_206 rfl 3 rfl ?_
            refine J_isub hX dX1_leastPitch_207 ?_
            refine J_callV hX km_X7_lowOn kl_RX1_49 dX1_leastPitch_208 (kv_X3_panelAt h1) (by decide) [.int ((1 : Int32) - x2)] ⟨Nat.le_of_ble_eq_true rfl, Nat.le_of_ble_eq_true rfl⟩ rfl rfl (Nat.le_of_ble_eq_true rfl) (c_X7_lowOn (v_X3_panelAt a1 x7) (kv_X3_panelAt h1) ((1 : Int32) - x2) m) (fun v w2 hk => ?_)
            obtain ⟨rfl, rfl⟩ := hk
            show J X (0, 0) 211 [(14, .int y24), (0, .ref (ad 259)), (1, .ref (ad a1)), (2, .int x2), (3, .int x3), (4, .int x4), (5, .int x5), (6, .int x6), (7, .int x7), (8, .int x8), (9, .ref (ad (v_X3_panelAt a1 x7))), (11, .int y18), (12, .int y20), (13, .int y22)] [.int (v_X7_lowOn (v_X3_panelAt a1 x7) ((1 : Int32) - x2) m)] (fl ad m)
            refine J_aload hX dX1_leastPitch_211 10 rfl ?_
            refine J_iconst (v := (1 : Int32)) hX dX1_leastPitch_213 (by decide) ?_
            refine J_iload_n hX dX1_leastPitch_214 rfl 3 rfl ?_
            refine J_isub hX dX1_leastPitch_215 ?_
            refine J_callV hX km_X7_highOn kl_RX1_53 dX1_leastPitch_216 (kv_X3_panelAt h1) (by decide) [.int ((1 : Int32) - x2)] ⟨Nat.le_of_ble_eq_true rfl, Nat.le_of_ble_eq_true rfl⟩ rfl rfl (Nat.le_of_ble_eq_true rfl) (c_X7_highOn (v_X3_panelAt a1 x7) (kv_X3_panelAt h1) ((1 : Int32) - x2) m) (fun v w2 hk => ?_)
            obtain ⟨rfl, rfl⟩ := hk
            show J X (0, 0) 219 [(14, .int y24), (0, .ref (ad 259)), (1, .ref (ad a1)), (2, .int x2), (3, .int x3), (4, .int x4), (5, .int x5), (6, .int x6), (7, .int x7), (8, .int x8), (9, .ref (ad (v_X3_panelAt a1 x7))), (11, .int y18), (12, .int y20), (13, .int y22)] [.int (v_X7_highOn (v_X3_panelAt a1 x7) ((1 : Int32) - x2) m), .int (v_X7_lowOn (v_X3_panelAt a1 x7) ((1 : Int32) - x2) m)] (fl ad m)
            refine J_iload hX dX1_leastPitch_219 13 rfl ?_
            refine J_iload hX dX1_leastPitch_221 0 rfl ?_
            refine J_callSN hX km_X11_common kl_RX1_89 dX1_leastPitch_223 [.int (v_X7_lowOn (v_X3_panelAt a1 x7) ((1 : Int32) - x2) m), .int (v_X7_highOn (v_X3_panelAt a1 x7) ((1 : Int32) - x2) m), .int y22, .int y24] ⟨Nat.le_of_ble_eq_true rfl, Nat.le_of_ble_eq_true rfl⟩ rfl rfl (Nat.le_of_ble_eq_true rfl) (c_X11_common (v_X7_lowOn (v_X3_panelAt a1 x7) ((1 : Int32) - x2) m) (v_X7_highOn (v_X3_panelAt a1 x7) ((1 : Int32) - x2) m) y22 y24 m) (fun v w2 hk => ?_)
            obtain ⟨rfl, rfl⟩ := hk
            show J X (0, 0) 226 [(14, .int y24), (0, .ref (ad 259)), (1, .ref (ad a1)), (2, .int x2), (3, .int x3), (4, .int x4), (5, .int x5), (6, .int x6), (7, .int x7), (8, .int x8), (9, .ref (ad (v_X3_panelAt a1 x7))), (11, .int y18), (12, .int y20), (13, .int y22)] [.int (v_X11_common (v_X7_lowOn (v_X3_panelAt a1 x7) ((1 : Int32) - x2) m) (v_X7_highOn (v_X3_panelAt a1 x7) ((1 : Int32) - x2) m) y22 y24)] (fl ad m)
            refine J_ineg hX dX1_leastPitch_226 ?_
            refine J_iload_n hX dX1_leastPitch_227 rfl 4 rfl ?_
            refine J_icmp_ge (tgt := 261) hX dX1_leastPitch_228 (by decide) (fun c25 => ?_) (fun c25 => ?_)
            · replace h := Eq.mp (if_pos c25) h
              refine J_iinc (x := (x8 + (1 : Int32))) (lv2 := [(8, .int (x8 + (1 : Int32))), (14, .int y24), (0, .ref (ad 259)), (1, .ref (ad a1)), (2, .int x2), (3, .int x3), (4, .int x4), (5, .int x5), (6, .int x6), (7, .int x7), (9, .ref (ad (v_X3_panelAt a1 x7))), (11, .int y18), (12, .int y20), (13, .int y22)]) hX dX1_leastPitch_261 9 rfl rfl (Nat.le_of_ble_eq_true rfl) rfl ?_
              refine J_goto (tgt := 70) hX dX1_leastPitch_264 (by decide) ?_
              exact J_sub [2, 3, 4, 5, 6, 7, 8, 9, 0] rfl (hrec (x8 + (1 : Int32)) m h)
            · replace h := Eq.mp (if_neg c25) h
              refine J_aload_n hX dX1_leastPitch_231 rfl 1 rfl ?_
              refine J_aload hX dX1_leastPitch_232 10 rfl ?_
              refine J_iload_n hX dX1_leastPitch_234 rfl 3 rfl ?_
              refine J_callV hX km_X7_lowOn kl_RX1_49 dX1_leastPitch_235 (kv_X3_panelAt h1) (by decide) [.int x2] ⟨Nat.le_of_ble_eq_true rfl, Nat.le_of_ble_eq_true rfl⟩ rfl rfl (Nat.le_of_ble_eq_true rfl) (c_X7_lowOn (v_X3_panelAt a1 x7) (kv_X3_panelAt h1) x2 m) (fun v w2 hk => ?_)
              obtain ⟨rfl, rfl⟩ := hk
              show J X (0, 0) 238 [(14, .int y24), (0, .ref (ad 259)), (1, .ref (ad a1)), (2, .int x2), (3, .int x3), (4, .int x4), (5, .int x5), (6, .int x6), (7, .int x7), (8, .int x8), (9, .ref (ad (v_X3_panelAt a1 x7))), (11, .int y18), (12, .int y20), (13, .int y22)] [.int (v_X7_lowOn (v_X3_panelAt a1 x7) x2 m), .ref (ad 259)] (fl ad m)
              refine J_iload hX dX1_leastPitch_238 12 rfl ?_
              refine J_isub hX dX1_leastPitch_240 ?_
              refine J_iload_n hX dX1_leastPitch_241 rfl 4 rfl ?_
              refine J_isub hX dX1_leastPitch_242 ?_
              refine J_iconst (v := (1 : Int32)) hX dX1_leastPitch_243 (by decide) ?_
              refine J_iadd hX dX1_leastPitch_244 ?_
              refine J_aload hX dX1_leastPitch_245 10 rfl ?_
              refine J_iload_n hX dX1_leastPitch_247 rfl 3 rfl ?_
              refine J_callV hX km_X7_highOn kl_RX1_53 dX1_leastPitch_248 (kv_X3_panelAt h1) (by decide) [.int x2] ⟨Nat.le_of_ble_eq_true rfl, Nat.le_of_ble_eq_true rfl⟩ rfl rfl (Nat.le_of_ble_eq_true rfl) (c_X7_highOn (v_X3_panelAt a1 x7) (kv_X3_panelAt h1) x2 m) (fun v w2 hk => ?_)
              obtain ⟨rfl, rfl⟩ := hk
              show J X (0, 0) 251 [(14, .int y24), (0, .ref (ad 259)), (1, .ref (ad a1)), (2, .int x2), (3, .int x3), (4, .int x4), (5, .int x5), (6, .int x6), (7, .int x7), (8, .int x8), (9, .ref (ad (v_X3_panelAt a1 x7))), (11, .int y18), (12, .int y20), (13, .int y22)] [.int (v_X7_highOn (v_X3_panelAt a1 x7) x2 m), .int ((((v_X7_lowOn (v_X3_panelAt a1 x7) x2 m) - y20) - x3) + (1 : Int32)), .ref (ad 259)] (fl ad m)
              refine J_iload hX dX1_leastPitch_251 11 rfl ?_
              refine J_isub hX dX1_leastPitch_253 ?_
              refine J_iload_n hX dX1_leastPitch_254 rfl 4 rfl ?_
              refine J_iadd hX dX1_leastPitch_255 ?_
              refine J_iconst (v := (1 : Int32)) hX dX1_leastPitch_256 (by decide) ?_
              refine J_isub hX dX1_leastPitch_257 ?_
              refine J_callV hX km_X1_take kl_RX1_95 dX1_leastPitch_258 ka_259 (by decide) [.int ((((v_X7_lowOn (v_X3_panelAt a1 x7) x2 m) - y20) - x3) + (1 : Int32)), .int ((((v_X7_highOn (v_X3_panelAt a1 x7) x2 m) - y18) + x3) - (1 : Int32))] ⟨Nat.le_of_ble_eq_true rfl, Nat.le_of_ble_eq_true rfl⟩ rfl rfl (Nat.le_of_ble_eq_true rfl) (c_X1_take ((((v_X7_lowOn (v_X3_panelAt a1 x7) x2 m) - y20) - x3) + (1 : Int32)) ((((v_X7_highOn (v_X3_panelAt a1 x7) x2 m) - y18) + x3) - (1 : Int32)) m _ h) (fun v w2 hk => ?_)
              obtain ⟨m26, rfl, rfl, h⟩ := hk
              show J X (0, 0) 261 [(14, .int y24), (0, .ref (ad 259)), (1, .ref (ad a1)), (2, .int x2), (3, .int x3), (4, .int x4), (5, .int x5), (6, .int x6), (7, .int x7), (8, .int x8), (9, .ref (ad (v_X3_panelAt a1 x7))), (11, .int y18), (12, .int y20), (13, .int y22)] [] (fl ad m26)
              refine J_iinc (x := (x8 + (1 : Int32))) (lv2 := [(8, .int (x8 + (1 : Int32))), (14, .int y24), (0, .ref (ad 259)), (1, .ref (ad a1)), (2, .int x2), (3, .int x3), (4, .int x4), (5, .int x5), (6, .int x6), (7, .int x7), (9, .ref (ad (v_X3_panelAt a1 x7))), (11, .int y18), (12, .int y20), (13, .int y22)]) hX dX1_leastPitch_261 9 rfl rfl (Nat.le_of_ble_eq_true rfl) rfl ?_
              refine J_goto (tgt := 70) hX dX1_leastPitch_264 (by decide) ?_
              exact J_sub [2, 3, 4, 5, 6, 7, 8, 9, 0] rfl (hrec (x8 + (1 : Int32)) m26 h)
          refine J_if_eq (tgt := 193) hX dX1_leastPitch_176 (by decide) (fun c23 => ?_) (fun c23 => ?_)
          · refine J_aload hX dX1_leastPitch_193 11 rfl ?_
            refine J_iconst (v := (1 : Int32)) hX dX1_leastPitch_195 (by decide) ?_
            refine J_iload_n hX dX1_leastPitch_196 rfl 3 rfl ?_
            refine J_isub hX dX1_leastPitch_197 ?_
            refine J_callV hX km_X7_highOn kl_RX1_53 dX1_leastPitch_198 (kv_X3_panelAt h1) (by decide) [.int ((1 : Int32) - x2)] ⟨Nat.le_of_ble_eq_true rfl, Nat.le_of_ble_eq_true rfl⟩ rfl rfl (Nat.le_of_ble_eq_true rfl) (c_X7_highOn (v_X3_panelAt a1 x8) (kv_X3_panelAt h1) ((1 : Int32) - x2) m) (fun v w2 hk => ?_)
            obtain ⟨rfl, rfl⟩ := hk
            show J X (0, 0) 201 [(13, .int y22), (0, .ref (ad 259)), (1, .ref (ad a1)), (2, .int x2), (3, .int x3), (4, .int x4), (5, .int x5), (6, .int x6), (7, .int x7), (8, .int x8), (9, .ref (ad (v_X3_panelAt a1 x7))), (10, .ref (ad (v_X3_panelAt a1 x8))), (11, .int y18), (12, .int y20)] [.int (v_X7_highOn (v_X3_panelAt a1 x8) ((1 : Int32) - x2) m)] (fl ad m)
            exact J_sub [1, 2, 3, 4, 5, 6, 7, 8, 9, 10, 12, 13, 0] rfl (hj27 _ (if_pos c23).symm)
          · refine J_iload hX dX1_leastPitch_179 7 rfl ?_
            refine J_aload hX dX1_leastPitch_181 11 rfl ?_
            refine J_iconst (v := (1 : Int32)) hX dX1_leastPitch_183 (by decide) ?_
            refine J_iload_n hX dX1_leastPitch_184 rfl 3 rfl ?_
            refine J_isub hX dX1_leastPitch_185 ?_
            refine J_callV hX km_X7_lowOn kl_RX1_49 dX1_leastPitch_186 (kv_X3_panelAt h1) (by decide) [.int ((1 : Int32) - x2)] ⟨Nat.le_of_ble_eq_true rfl, Nat.le_of_ble_eq_true rfl⟩ rfl rfl (Nat.le_of_ble_eq_true rfl) (c_X7_lowOn (v_X3_panelAt a1 x8) (kv_X3_panelAt h1) ((1 : Int32) - x2) m) (fun v w2 hk => ?_)
            obtain ⟨rfl, rfl⟩ := hk
            show J X (0, 0) 189 [(13, .int y22), (0, .ref (ad 259)), (1, .ref (ad a1)), (2, .int x2), (3, .int x3), (4, .int x4), (5, .int x5), (6, .int x6), (7, .int x7), (8, .int x8), (9, .ref (ad (v_X3_panelAt a1 x7))), (10, .ref (ad (v_X3_panelAt a1 x8))), (11, .int y18), (12, .int y20)] [.int (v_X7_lowOn (v_X3_panelAt a1 x8) ((1 : Int32) - x2) m), .int x6] (fl ad m)
            refine J_isub hX dX1_leastPitch_189 ?_
            refine J_goto (tgt := 201) hX dX1_leastPitch_190 (by decide) ?_
            exact J_sub [1, 2, 3, 4, 5, 6, 7, 8, 9, 10, 12, 13, 0] rfl (hj27 _ (if_neg c23).symm)
        refine J_if_eq (tgt := 164) hX dX1_leastPitch_147 (by decide) (fun c21 => ?_) (fun c21 => ?_)
        · refine J_aload hX dX1_leastPitch_164 11 rfl ?_
          refine J_iconst (v := (1 : Int32)) hX dX1_leastPitch_166 (by decide) ?_
          refine J_iload_n hX dX1_leastPitch_167 rfl 3 rfl ?_
          refine J_isub hX dX1_leastPitch_168 ?_
          refine J_callV hX km_X7_lowOn kl_RX1_49 dX1_leastPitch_169 (kv_X3_panelAt h1) (by decide) [.int ((1 : Int32) - x2)] ⟨Nat.le_of_ble_eq_true rfl, Nat.le_of_ble_eq_true rfl⟩ rfl rfl (Nat.le_of_ble_eq_true rfl) (c_X7_lowOn (v_X3_panelAt a1 x8) (kv_X3_panelAt h1) ((1 : Int32) - x2) m) (fun v w2 hk => ?_)
          obtain ⟨rfl, rfl⟩ := hk
          show J X (0, 0) 172 [(12, .int y20), (0, .ref (ad 259)), (1, .ref (ad a1)), (2, .int x2), (3, .int x3), (4, .int x4), (5, .int x5), (6, .int x6), (7, .int x7), (8, .int x8), (9, .ref (ad (v_X3_panelAt a1 x7))), (10, .ref (ad (v_X3_panelAt a1 x8))), (11, .int y18)] [.int (v_X7_lowOn (v_X3_panelAt a1 x8) ((1 : Int32) - x2) m)] (fl ad m)
          exact J_sub [1, 2, 3, 4, 5, 6, 7, 8, 9, 10, 11, 12, 0] rfl (hj28 _ (if_pos c21).symm)
        · refine J_iload hX dX1_leastPitch_150 7 rfl ?_
          refine J_aload hX dX1_leastPitch_152 11 rfl ?_
          refine J_iconst (v := (1 : Int32)) hX dX1_leastPitch_154 (by decide) ?_
          refine J_iload_n hX dX1_leastPitch_155 rfl 3 rfl ?_
          refine J_isub hX dX1_leastPitch_156 ?_
          refine J_callV hX km_X7_highOn kl_RX1_53 dX1_leastPitch_157 (kv_X3_panelAt h1) (by decide) [.int ((1 : Int32) - x2)] ⟨Nat.le_of_ble_eq_true rfl, Nat.le_of_ble_eq_true rfl⟩ rfl rfl (Nat.le_of_ble_eq_true rfl) (c_X7_highOn (v_X3_panelAt a1 x8) (kv_X3_panelAt h1) ((1 : Int32) - x2) m) (fun v w2 hk => ?_)
          obtain ⟨rfl, rfl⟩ := hk
          show J X (0, 0) 160 [(12, .int y20), (0, .ref (ad 259)), (1, .ref (ad a1)), (2, .int x2), (3, .int x3), (4, .int x4), (5, .int x5), (6, .int x6), (7, .int x7), (8, .int x8), (9, .ref (ad (v_X3_panelAt a1 x7))), (10, .ref (ad (v_X3_panelAt a1 x8))), (11, .int y18)] [.int (v_X7_highOn (v_X3_panelAt a1 x8) ((1 : Int32) - x2) m), .int x6] (fl ad m)
          refine J_isub hX dX1_leastPitch_160 ?_
          refine J_goto (tgt := 172) hX dX1_leastPitch_161 (by decide) ?_
          exact J_sub [1, 2, 3, 4, 5, 6, 7, 8, 9, 10, 11, 12, 0] rfl (hj28 _ (if_neg c21).symm)
      refine J_if_eq (tgt := 137) hX dX1_leastPitch_122 (by decide) (fun c19 => ?_) (fun c19 => ?_)
      · refine J_aload hX dX1_leastPitch_137 11 rfl ?_
        refine J_iload_n hX dX1_leastPitch_139 rfl 3 rfl ?_
        refine J_callV hX km_X7_highOn kl_RX1_53 dX1_leastPitch_140 (kv_X3_panelAt h1) (by decide) [.int x2] ⟨Nat.le_of_ble_eq_true rfl, Nat.le_of_ble_eq_true rfl⟩ rfl rfl (Nat.le_of_ble_eq_true rfl) (c_X7_highOn (v_X3_panelAt a1 x8) (kv_X3_panelAt h1) x2 m) (fun v w2 hk => ?_)
        obtain ⟨rfl, rfl⟩ := hk
        show J X (0, 0) 143 [(11, .int y18), (0, .ref (ad 259)), (1, .ref (ad a1)), (2, .int x2), (3, .int x3), (4, .int x4), (5, .int x5), (6, .int x6), (7, .int x7), (8, .int x8), (9, .ref (ad (v_X3_panelAt a1 x7))), (10, .ref (ad (v_X3_panelAt a1 x8)))] [.int (v_X7_highOn (v_X3_panelAt a1 x8) x2 m)] (fl ad m)
        exact J_sub [1, 2, 3, 4, 5, 6, 7, 8, 9, 10, 11, 0] rfl (hj29 _ (if_pos c19).symm)
      · refine J_iload hX dX1_leastPitch_125 6 rfl ?_
        refine J_aload hX dX1_leastPitch_127 11 rfl ?_
        refine J_iload_n hX dX1_leastPitch_129 rfl 3 rfl ?_
        refine J_callV hX km_X7_lowOn kl_RX1_49 dX1_leastPitch_130 (kv_X3_panelAt h1) (by decide) [.int x2] ⟨Nat.le_of_ble_eq_true rfl, Nat.le_of_ble_eq_true rfl⟩ rfl rfl (Nat.le_of_ble_eq_true rfl) (c_X7_lowOn (v_X3_panelAt a1 x8) (kv_X3_panelAt h1) x2 m) (fun v w2 hk => ?_)
        obtain ⟨rfl, rfl⟩ := hk
        show J X (0, 0) 133 [(11, .int y18), (0, .ref (ad 259)), (1, .ref (ad a1)), (2, .int x2), (3, .int x3), (4, .int x4), (5, .int x5), (6, .int x6), (7, .int x7), (8, .int x8), (9, .ref (ad (v_X3_panelAt a1 x7))), (10, .ref (ad (v_X3_panelAt a1 x8)))] [.int (v_X7_lowOn (v_X3_panelAt a1 x8) x2 m), .int x5] (fl ad m)
        refine J_isub hX dX1_leastPitch_133 ?_
        refine J_goto (tgt := 143) hX dX1_leastPitch_134 (by decide) ?_
        exact J_sub [1, 2, 3, 4, 5, 6, 7, 8, 9, 10, 11, 0] rfl (hj29 _ (if_neg c19).symm)
    refine J_if_eq (tgt := 112) hX dX1_leastPitch_97 (by decide) (fun c17 => ?_) (fun c17 => ?_)
    · refine J_aload hX dX1_leastPitch_112 0 rfl ?_
      refine J_iload_n hX dX1_leastPitch_114 rfl 4 rfl ?_
      refine J_callV hX km_X7_lowOn kl_RX1_49 dX1_leastPitch_115 (kv_X3_panelAt h1) (by decide) [.int x2] ⟨Nat.le_of_ble_eq_true rfl, Nat.le_of_ble_eq_true rfl⟩ rfl rfl (Nat.le_of_ble_eq_true rfl) (c_X7_lowOn (v_X3_panelAt a1 x8) (kv_X3_panelAt h1) x2 m) (fun v w2 hk => ?_)
      obtain ⟨rfl, rfl⟩ := hk
      show J X (0, 0) 118 [(10, .ref (ad (v_X3_panelAt a1 x8))), (9, .ref (ad (v_X3_panelAt a1 x7))), (0, .ref (ad 259)), (1, .ref (ad a1)), (2, .int x2), (3, .int x3), (4, .int x4), (5, .int x5), (6, .int x6), (7, .int x7), (8, .int x8)] [.int (v_X7_lowOn (v_X3_panelAt a1 x8) x2 m)] (fl ad m)
      exact J_sub [2, 3, 4, 5, 6, 7, 8, 9, 10, 1, 0] rfl (hj30 _ (if_pos c17).symm)
    · refine J_iload hX dX1_leastPitch_100 7 rfl ?_
      refine J_aload hX dX1_leastPitch_102 0 rfl ?_
      refine J_iload_n hX dX1_leastPitch_104 rfl 4 rfl ?_
      refine J_callV hX km_X7_highOn kl_RX1_53 dX1_leastPitch_105 (kv_X3_panelAt h1) (by decide) [.int x2] ⟨Nat.le_of_ble_eq_true rfl, Nat.le_of_ble_eq_true rfl⟩ rfl rfl (Nat.le_of_ble_eq_true rfl) (c_X7_highOn (v_X3_panelAt a1 x8) (kv_X3_panelAt h1) x2 m) (fun v w2 hk => ?_)
      obtain ⟨rfl, rfl⟩ := hk
      show J X (0, 0) 108 [(10, .ref (ad (v_X3_panelAt a1 x8))), (9, .ref (ad (v_X3_panelAt a1 x7))), (0, .ref (ad 259)), (1, .ref (ad a1)), (2, .int x2), (3, .int x3), (4, .int x4), (5, .int x5), (6, .int x6), (7, .int x7), (8, .int x8)] [.int (v_X7_highOn (v_X3_panelAt a1 x8) x2 m), .int x5] (fl ad m)
      refine J_isub hX dX1_leastPitch_108 ?_
      refine J_goto (tgt := 118) hX dX1_leastPitch_109 (by decide) ?_
      exact J_sub [2, 3, 4, 5, 6, 7, 8, 9, 10, 1, 0] rfl (hj30 _ (if_neg c17).symm)
set_option maxRecDepth 100000 in
theorem t_X1_leastPitch_l70 {X : XT} {ad : Nat → Nat} {K : Int32 → Mm → Prop} (hX : Cx X cX1_leastPitch 15 RX1 (rmN 2 44)) (hR : Rx X (some .int) (kI ad K) (0, 0)) {k58 : Int32 → Mm → Prop} (a1 : Nat) (h1 : kap a1 = 3) (x2 : Int32) (x3 : Int32) (x4 : Int32) (x5 : Int32) (x6 : Int32) (x7 : Int32) (hk58 : ∀ (z7 : Int32) (m : Mm), k58 z7 m → J X (0, 0) 58 [(0, .ref (ad 259)), (1, .ref (ad a1)), (2, .int x2), (3, .int x3), (4, .int x4), (5, .int x5), (6, .int x6), (7, .int z7)] [] (fl ad m)) : ∀ (n : Nat) (x8 : Int32) (m : Mm), wp_X1_leastPitch_l70 k58 K a1 x2 x3 x4 x5 x6 x7 n x8 m → J X (0, 0) 70 [(0, .ref (ad 259)), (1, .ref (ad a1)), (2, .int x2), (3, .int x3), (4, .int x4), (5, .int x5), (6, .int x6), (7, .int x7), (8, .int x8)] [] (fl ad m) := by
  intro n
  induction n with
  | zero => intro x8 m h; exact h.elim
  | succ n ih => intro x8 m h; exact tb_X1_leastPitch_l70 hX hR a1 h1 x2 x3 x4 x5 x6 x7 ih hk58 x8 m h
set_option maxRecDepth 100000 in
theorem tb_X1_leastPitch_l58 {X : XT} {ad : Nat → Nat} {K : Int32 → Mm → Prop} (hX : Cx X cX1_leastPitch 15 RX1 (rmN 2 44)) (hR : Rx X (some .int) (kI ad K) (0, 0)) {rec : Int32 → Mm → Prop} {k273 : Mm → Prop} (a1 : Nat) (h1 : kap a1 = 3) (x2 : Int32) (x3 : Int32) (x4 : Int32) (x5 : Int32) (x6 : Int32) (hrec : ∀ (x7 : Int32) (m : Mm), rec x7 m → J X (0, 0) 58 [(0, .ref (ad 259)), (1, .ref (ad a1)), (2, .int x2), (3, .int x3), (4, .int x4), (5, .int x5), (6, .int x6), (7, .int x7)] [] (fl ad m)) (hk273 : ∀ (m : Mm), k273 m → J X (0, 0) 273 [(0, .ref (ad 259)), (4, .int x4)] [] (fl ad m)) (x7 : Int32) (m : Mm) (h : wb_X1_leastPitch_l58 rec k273 K a1 x2 x3 x4 x5 x6 x7 m) : J X (0, 0) 58 [(0, .ref (ad 259)), (1, .ref (ad a1)), (2, .int x2), (3, .int x3), (4, .int x4), (5, .int x5), (6, .int x6), (7, .int x7)] [] (fl ad m) := by
  unfold wb_X1_leastPitch_l58 at h
  refine J_iload hX dX1_leastPitch_58 7 rfl ?_
  refine J_aload_n hX dX1_leastPitch_60 rfl 1 rfl ?_
  refine J_getI hX kf_RX1_20 dX1_leastPitch_61 h1 (by decide) rfl ?_
  refine J_icmp_ge (tgt := 273) hX dX1_leastPitch_64 (by decide) (fun c15 => ?_) (fun c15 => ?_)
  · replace h := Eq.mp (if_pos c15) h
    exact J_sub [0, 4] rfl (hk273 m h)
  · replace h := Eq.mp (if_neg c15) h
    refine J_iconst (v := (0 : Int32)) hX dX1_leastPitch_67 (by decide) ?_
    refine J_istore (lv2 := [(8, .int (0 : Int32)), (0, .ref (ad 259)), (1, .ref (ad a1)), (2, .int x2), (3, .int x3), (4, .int x4), (5, .int x5), (6, .int x6), (7, .int x7)]) hX dX1_leastPitch_68 (Nat.le_of_ble_eq_true rfl) rfl ?_
    refine J_sub [1, 2, 3, 4, 5, 6, 7, 8, 0] rfl (t_X1_leastPitch_l70 hX hR a1 h1 x2 x3 x4 x5 x6 x7 hrec FU (0 : Int32) m h)
set_option maxRecDepth 100000 in
theorem t_X1_leastPitch_l58 {X : XT} {ad : Nat → Nat} {K : Int32 → Mm → Prop} (hX : Cx X cX1_leastPitch 15 RX1 (rmN 2 44)) (hR : Rx X (some .int) (kI ad K) (0, 0)) {k273 : Mm → Prop} (a1 : Nat) (h1 : kap a1 = 3) (x2 : Int32) (x3 : Int32) (x4 : Int32) (x5 : Int32) (x6 : Int32) (hk273 : ∀ (m : Mm), k273 m → J X (0, 0) 273 [(0, .ref (ad 259)), (4, .int x4)] [] (fl ad m)) : ∀ (n : Nat) (x7 : Int32) (m : Mm), wp_X1_leastPitch_l58 k273 K a1 x2 x3 x4 x5 x6 n x7 m → J X (0, 0) 58 [(0, .ref (ad 259)), (1, .ref (ad a1)), (2, .int x2), (3, .int x3), (4, .int x4), (5, .int x5), (6, .int x6), (7, .int x7)] [] (fl ad m) := by
  intro n
  induction n with
  | zero => intro x7 m h; exact h.elim
  | succ n ih => intro x7 m h; exact tb_X1_leastPitch_l58 hX hR a1 h1 x2 x3 x4 x5 x6 ih hk273 x7 m h
set_option maxRecDepth 100000 in
theorem tb_X1_leastPitch_l276 {X : XT} {ad : Nat → Nat} {K : Int32 → Mm → Prop} (hX : Cx X cX1_leastPitch 15 RX1 (rmN 2 44)) (hR : Rx X (some .int) (kI ad K) (0, 0)) {rec : Int32 → Mm → Prop} (x4 : Int32) (hrec : ∀ (x7 : Int32) (m : Mm), rec x7 m → J X (0, 0) 276 [(0, .ref (ad 259)), (4, .int x4), (7, .int x7)] [] (fl ad m)) (x7 : Int32) (m : Mm) (h : wb_X1_leastPitch_l276 rec K x4 x7 m) : J X (0, 0) 276 [(0, .ref (ad 259)), (4, .int x4), (7, .int x7)] [] (fl ad m) := by
  unfold wb_X1_leastPitch_l276 at h
  refine J_iload hX dX1_leastPitch_276 2 rfl ?_
  refine J_sipush (v := (350 : Int32)) hX dX1_leastPitch_278 (by decide) ?_
  refine J_icmp_ge (tgt := 315) hX dX1_leastPitch_281 (by decide) (fun c32 => ?_) (fun c32 => ?_)
  · replace h := Eq.mp (if_pos c32) h
    refine J_sipush (v := (350 : Int32)) hX dX1_leastPitch_315 (by decide) ?_
    exact J_iret hX hR dX1_leastPitch_318 ⟨_, _, rfl, rfl, h⟩
  · replace h := Eq.mp (if_neg c32) h
    refine J_aload_n hX dX1_leastPitch_284 rfl 0 rfl ?_
    refine J_iload hX dX1_leastPitch_285 2 rfl ?_
    refine J_iload hX dX1_leastPitch_287 1 rfl ?_
    have hj38 : ∀ y34 : Int32, y34 = (if x4 = (0 : Int32) then (350 : Int32) else x7) → J X (0, 0) 300 [(0, .ref (ad 259)), (4, .int x4), (7, .int x7)] [.int y34, .int x7, .ref (ad 259)] (fl ad m) := by
      intro y34 e_y34
      replace h := h y34 e_y34
      refine J_callV hX km_X1_isFree kl_RX1_98 dX1_leastPitch_300 ka_259 (by decide) [.int x7, .int y34] ⟨Nat.le_of_ble_eq_true rfl, Nat.le_of_ble_eq_true rfl⟩ rfl rfl (Nat.le_of_ble_eq_true rfl) (c_X1_isFree x7 y34 m _ h) (fun v w2 hk => ?_)
      obtain ⟨y36, m35, rfl, rfl, h⟩ := hk
      show J X (0, 0) 303 [(0, .ref (ad 259)), (4, .int x4), (7, .int x7)] [.int y36] (fl ad m35)
      refine J_if_eq (tgt := 309) hX dX1_leastPitch_303 (by decide) (fun c37 => ?_) (fun c37 => ?_)
      · replace h := Eq.mp (if_pos c37) h
        refine J_iinc (x := (x7 + (1 : Int32))) (lv2 := [(7, .int (x7 + (1 : Int32))), (0, .ref (ad 259)), (4, .int x4)]) hX dX1_leastPitch_309 2 rfl rfl (Nat.le_of_ble_eq_true rfl) rfl ?_
        refine J_goto (tgt := 276) hX dX1_leastPitch_312 (by decide) ?_
        exact J_sub [1, 2, 0] rfl (hrec (x7 + (1 : Int32)) m35 h)
      · replace h := Eq.mp (if_neg c37) h
        refine J_iload hX dX1_leastPitch_306 2 rfl ?_
        exact J_iret hX hR dX1_leastPitch_308 ⟨_, _, rfl, rfl, h⟩
    refine J_if_eq (tgt := 297) hX dX1_leastPitch_289 (by decide) (fun c33 => ?_) (fun c33 => ?_)
    · refine J_sipush (v := (350 : Int32)) hX dX1_leastPitch_297 (by decide) ?_
      exact J_sub [0, 1, 2] rfl (hj38 _ (if_pos c33).symm)
    · refine J_iload hX dX1_leastPitch_292 2 rfl ?_
      refine J_goto (tgt := 300) hX dX1_leastPitch_294 (by decide) ?_
      exact J_sub [0, 1, 2] rfl (hj38 _ (if_neg c33).symm)
set_option maxRecDepth 100000 in
theorem t_X1_leastPitch_l276 {X : XT} {ad : Nat → Nat} {K : Int32 → Mm → Prop} (hX : Cx X cX1_leastPitch 15 RX1 (rmN 2 44)) (hR : Rx X (some .int) (kI ad K) (0, 0)) (x4 : Int32) : ∀ (n : Nat) (x7 : Int32) (m : Mm), wp_X1_leastPitch_l276 K x4 n x7 m → J X (0, 0) 276 [(0, .ref (ad 259)), (4, .int x4), (7, .int x7)] [] (fl ad m) := by
  intro n
  induction n with
  | zero => intro x7 m h; exact h.elim
  | succ n ih => intro x7 m h; exact tb_X1_leastPitch_l276 hX hR x4 ih x7 m h
set_option maxRecDepth 100000 in
theorem c_X1_leastPitch {G : GT} {ad : Nat → Nat} (a1 : Nat) (h1 : kap a1 = 3) (x2 : Int32) (x3 : Int32) (x4 : Int32) (m : Mm) (K : Int32 → Mm → Prop) (h : wp_X1_leastPitch a1 x2 x3 x4 m K) : Cn G yX1_leastPitch cX1_leastPitch 15 (some .int) (rmN 2 44) [.ref (ad 259), .ref (ad a1), .int x2, .int x3, .int x4] (0, 0) (fl ad m) (kI ad K) := by
  unfold wp_X1_leastPitch at h
  refine Cn.of pn_RX1 (Nat.le_of_ble_eq_true rfl) (fun X hG hX hR => ?_)
  subst hG
  have hX : Cx X cX1_leastPitch 15 RX1 (rmN 2 44) := hX
  show J X (0, 0) 0 [(0, .ref (ad 259)), (1, .ref (ad a1)), (2, .int x2), (3, .int x3), (4, .int x4)] [] (fl ad m)
  refine J_iconst (v := (0 : Int32)) hX dX1_leastPitch_0 (by decide) ?_
  refine J_istore (lv2 := [(5, .int (0 : Int32)), (0, .ref (ad 259)), (1, .ref (ad a1)), (2, .int x2), (3, .int x3), (4, .int x4)]) hX dX1_leastPitch_1 (Nat.le_of_ble_eq_true rfl) rfl ?_
  refine J_sub [1, 2, 3, 4, 5, 0] rfl (t_X1_leastPitch_l3 hX hR a1 h1 x2 x3 x4 (fun m4 h => ?_) FU (0 : Int32) m h)
  refine J_aload_n hX dX1_leastPitch_25 rfl 1 rfl ?_
  refine J_iload_n hX dX1_leastPitch_26 rfl 2 rfl ?_
  refine J_callS hX km_X1_smallest kl_RX1_78 dX1_leastPitch_27 [.ref (ad a1), .int x2] ⟨Nat.le_of_ble_eq_true rfl, Nat.le_of_ble_eq_true rfl⟩ rfl rfl (Nat.le_of_ble_eq_true rfl) (c_X1_smallest a1 h1 x2 m4 _ h) (fun v w2 hk => ?_)
  obtain ⟨y6, m5, rfl, rfl, h⟩ := hk
  show J X (0, 0) 30 [(0, .ref (ad 259)), (1, .ref (ad a1)), (2, .int x2), (3, .int x3), (4, .int x4)] [.int y6] (fl ad m5)
  refine J_aload_n hX dX1_leastPitch_30 rfl 1 rfl ?_
  refine J_iload_n hX dX1_leastPitch_31 rfl 2 rfl ?_
  refine J_callS hX km_X1_greatest kl_RX1_74 dX1_leastPitch_32 [.ref (ad a1), .int x2] ⟨Nat.le_of_ble_eq_true rfl, Nat.le_of_ble_eq_true rfl⟩ rfl rfl (Nat.le_of_ble_eq_true rfl) (c_X1_greatest a1 h1 x2 m5 _ h) (fun v w2 hk => ?_)
  obtain ⟨y8, m7, rfl, rfl, h⟩ := hk
  show J X (0, 0) 35 [(0, .ref (ad 259)), (1, .ref (ad a1)), (2, .int x2), (3, .int x3), (4, .int x4)] [.int y8, .int y6] (fl ad m7)
  refine J_iadd hX dX1_leastPitch_35 ?_
  refine J_nmI (fun y9 e_y9 => ?_)
  replace h := h y9 e_y9
  refine J_istore (lv2 := [(5, .int y9), (0, .ref (ad 259)), (1, .ref (ad a1)), (2, .int x2), (3, .int x3), (4, .int x4)]) hX dX1_leastPitch_36 (Nat.le_of_ble_eq_true rfl) rfl ?_
  refine J_aload_n hX dX1_leastPitch_38 rfl 2 rfl ?_
  refine J_iconst (v := (1 : Int32)) hX dX1_leastPitch_39 (by decide) ?_
  refine J_iload_n hX dX1_leastPitch_40 rfl 3 rfl ?_
  refine J_isub hX dX1_leastPitch_41 ?_
  refine J_callS hX km_X1_smallest kl_RX1_78 dX1_leastPitch_42 [.ref (ad a1), .int ((1 : Int32) - x2)] ⟨Nat.le_of_ble_eq_true rfl, Nat.le_of_ble_eq_true rfl⟩ rfl rfl (Nat.le_of_ble_eq_true rfl) (c_X1_smallest a1 h1 ((1 : Int32) - x2) m7 _ h) (fun v w2 hk => ?_)
  obtain ⟨y11, m10, rfl, rfl, h⟩ := hk
  show J X (0, 0) 45 [(5, .int y9), (0, .ref (ad 259)), (1, .ref (ad a1)), (2, .int x2), (3, .int x3), (4, .int x4)] [.int y11] (fl ad m10)
  refine J_aload_n hX dX1_leastPitch_45 rfl 2 rfl ?_
  refine J_iconst (v := (1 : Int32)) hX dX1_leastPitch_46 (by decide) ?_
  refine J_iload_n hX dX1_leastPitch_47 rfl 3 rfl ?_
  refine J_isub hX dX1_leastPitch_48 ?_
  refine J_callS hX km_X1_greatest kl_RX1_74 dX1_leastPitch_49 [.ref (ad a1), .int ((1 : Int32) - x2)] ⟨Nat.le_of_ble_eq_true rfl, Nat.le_of_ble_eq_true rfl⟩ rfl rfl (Nat.le_of_ble_eq_true rfl) (c_X1_greatest a1 h1 ((1 : Int32) - x2) m10 _ h) (fun v w2 hk => ?_)
  obtain ⟨y13, m12, rfl, rfl, h⟩ := hk
  show J X (0, 0) 52 [(5, .int y9), (0, .ref (ad 259)), (1, .ref (ad a1)), (2, .int x2), (3, .int x3), (4, .int x4)] [.int y13, .int y11] (fl ad m12)
  refine J_iadd hX dX1_leastPitch_52 ?_
  refine J_nmI (fun y14 e_y14 => ?_)
  replace h := h y14 e_y14
  refine J_istore (lv2 := [(6, .int y14), (5, .int y9), (0, .ref (ad 259)), (1, .ref (ad a1)), (2, .int x2), (3, .int x3), (4, .int x4)]) hX dX1_leastPitch_53 (Nat.le_of_ble_eq_true rfl) rfl ?_
  refine J_iconst (v := (0 : Int32)) hX dX1_leastPitch_55 (by decide) ?_
  refine J_istore (lv2 := [(7, .int (0 : Int32)), (6, .int y14), (5, .int y9), (0, .ref (ad 259)), (1, .ref (ad a1)), (2, .int x2), (3, .int x3), (4, .int x4)]) hX dX1_leastPitch_56 (Nat.le_of_ble_eq_true rfl) rfl ?_
  refine J_sub [3, 4, 5, 6, 7, 2, 1, 0] rfl (t_X1_leastPitch_l58 hX hR a1 h1 x2 x3 x4 y9 y14 (fun m31 h => ?_) FU (0 : Int32) m12 h)
  refine J_iconst (v := (1 : Int32)) hX dX1_leastPitch_273 (by decide) ?_
  refine J_istore (lv2 := [(7, .int (1 : Int32)), (0, .ref (ad 259)), (4, .int x4)]) hX dX1_leastPitch_274 (Nat.le_of_ble_eq_true rfl) rfl ?_
  refine J_sub [1, 2, 0] rfl (t_X1_leastPitch_l276 hX hR x4 FU (1 : Int32) m31 h)
set_option maxRecDepth 100000 in
theorem c_X11_pitch {G : GT} {ad : Nat → Nat} (x1 : Int32) (x2 : Int32) (x3 : Int32) (m : Mm) (K : Int32 → Mm → Prop) (h : wp_X11_pitch x1 x2 x3 m K) : Cn G yX11_pitch cX11_pitch 5 (some .int) (rmN 3 78) [.ref (ad 0), .int x1, .int x2, .int x3] (0, 0) (fl ad m) (kI ad K) := by
  unfold wp_X11_pitch at h
  refine Cn.of pn_RX11 (Nat.le_of_ble_eq_true rfl) (fun X hG hX hR => ?_)
  subst hG
  have hX : Cx X cX11_pitch 5 RX11 (rmN 3 78) := hX
  show J X (0, 0) 0 [(0, .ref (ad 0)), (1, .int x1), (2, .int x2), (3, .int x3)] [] (fl ad m)
  refine J_aload_n hX dX11_pitch_0 rfl 0 rfl ?_
  refine J_iload_n hX dX11_pitch_1 rfl 1 rfl ?_
  refine J_iload_n hX dX11_pitch_2 rfl 2 rfl ?_
  refine J_callV hX km_X11_pitchFault kl_RX11_243 dX11_pitch_3 ka_0 (by decide) [.int x1, .int x2] ⟨Nat.le_of_ble_eq_true rfl, Nat.le_of_ble_eq_true rfl⟩ rfl rfl (Nat.le_of_ble_eq_true rfl) (c_X11_pitchFault x1 x2 m) (fun v w2 hk => ?_)
  obtain ⟨rfl, rfl⟩ := hk
  show J X (0, 0) 6 [(0, .ref (ad 0)), (1, .int x1), (2, .int x2), (3, .int x3)] [.int (v_X11_pitchFault x1 x2 m)] (fl ad m)
  refine J_nmI (fun y1 e_y1 => ?_)
  replace h := h y1 e_y1
  refine J_istore (lv2 := [(4, .int y1), (0, .ref (ad 0)), (1, .int x1), (2, .int x2), (3, .int x3)]) hX dX11_pitch_6 (Nat.le_of_ble_eq_true rfl) rfl ?_
  refine J_iload hX dX11_pitch_8 0 rfl ?_
  refine J_if_eq (tgt := 18) hX dX11_pitch_10 (by decide) (fun c2 => ?_) (fun c2 => ?_)
  · replace h := Eq.mp (if_pos c2) h
    refine J_aload_n hX dX11_pitch_18 rfl 1 rfl ?_
    refine J_getR hX kf_RX11_48 dX11_pitch_19 ka_0 (by decide) rfl rh_0_7 ?_
    refine J_aload_n hX dX11_pitch_22 rfl 1 rfl ?_
    refine J_getR hX kf_RX11_10 dX11_pitch_23 ka_0 (by decide) rfl rh_0_0 ?_
    refine J_iload_n hX dX11_pitch_26 rfl 2 rfl ?_
    refine J_iload_n hX dX11_pitch_27 rfl 3 rfl ?_
    refine J_iload_n hX dX11_pitch_28 rfl 4 rfl ?_
    refine J_callV hX km_X1_leastPitch kl_RX11_246 dX11_pitch_29 ka_259 (by decide) [.ref (ad 1), .int x1, .int x2, .int x3] ⟨Nat.le_of_ble_eq_true rfl, Nat.le_of_ble_eq_true rfl⟩ rfl rfl (Nat.le_of_ble_eq_true rfl) (c_X1_leastPitch 1 ka_1 x1 x2 x3 m _ h) (fun v w2 hk => ?_)
    obtain ⟨y4, m3, rfl, rfl, h⟩ := hk
    show J X (0, 0) 32 [(4, .int y1), (0, .ref (ad 0)), (1, .int x1), (2, .int x2), (3, .int x3)] [.int y4] (fl ad m3)
    exact J_iret hX hR dX11_pitch_32 ⟨_, _, rfl, rfl, h⟩
  · replace h := Eq.mp (if_neg c2) h
    refine J_iload hX dX11_pitch_13 0 rfl ?_
    refine J_goto (tgt := 32) hX dX11_pitch_15 (by decide) ?_
    exact J_iret hX hR dX11_pitch_32 ⟨_, _, rfl, rfl, h⟩
set_option maxRecDepth 100000 in
theorem c_X11_place {G : GT} {ad : Nat → Nat} (x1 : Int32) (x2 : Int32) (x3 : Int32) (x4 : Int32) (x5 : Int32) (m : Mm) (K : Int32 → Mm → Prop) (h : wp_X11_place x1 x2 x3 x4 x5 m K) : Cn G yX11_place cX11_place 7 (some .int) (rmN 3 67) [.ref (ad 0), .int x1, .int x2, .int x3, .int x4, .int x5] (0, 0) (fl ad m) (kI ad K) := by
  unfold wp_X11_place at h
  refine Cn.of pn_RX11 (Nat.le_of_ble_eq_true rfl) (fun X hG hX hR => ?_)
  subst hG
  have hX : Cx X cX11_place 7 RX11 (rmN 3 67) := hX
  show J X (0, 0) 0 [(0, .ref (ad 0)), (1, .int x1), (2, .int x2), (3, .int x3), (4, .int x4), (5, .int x5)] [] (fl ad m)
  refine J_aload_n hX dX11_place_0 rfl 0 rfl ?_
  refine J_getR hX kf_RX11_10 dX11_place_1 ka_0 (by decide) rfl rh_0_0 ?_
  refine J_iload_n hX dX11_place_4 rfl 1 rfl ?_
  refine J_iload_n hX dX11_place_5 rfl 2 rfl ?_
  refine J_iload_n hX dX11_place_6 rfl 3 rfl ?_
  refine J_iload hX dX11_place_7 4 rfl ?_
  refine J_iload hX dX11_place_9 5 rfl ?_
  refine J_callV hX km_X3_printFault kl_RX11_167 dX11_place_11 ka_1 (by decide) [.int x1, .int x2, .int x3, .int x4, .int x5] ⟨Nat.le_of_ble_eq_true rfl, Nat.le_of_ble_eq_true rfl⟩ rfl rfl (Nat.le_of_ble_eq_true rfl) (c_X3_printFault 1 ka_1 x1 x2 x3 x4 x5 m) (fun v w2 hk => ?_)
  obtain ⟨rfl, rfl⟩ := hk
  show J X (0, 0) 14 [(0, .ref (ad 0)), (1, .int x1), (2, .int x2), (3, .int x3), (4, .int x4), (5, .int x5)] [.int (v_X3_printFault 1 x1 x2 x3 x4 x5 m)] (fl ad m)
  refine J_nmI (fun y1 e_y1 => ?_)
  replace h := h y1 e_y1
  refine J_istore (lv2 := [(6, .int y1), (0, .ref (ad 0)), (1, .int x1), (2, .int x2), (3, .int x3), (4, .int x4), (5, .int x5)]) hX dX11_place_14 (Nat.le_of_ble_eq_true rfl) rfl ?_
  refine J_iload hX dX11_place_16 0 rfl ?_
  refine J_if_eq (tgt := 24) hX dX11_place_18 (by decide) (fun c2 => ?_) (fun c2 => ?_)
  · replace h := Eq.mp (if_pos c2) h
    refine J_aload_n hX dX11_place_24 rfl 1 rfl ?_
    refine J_getR hX kf_RX11_30 dX11_place_25 ka_0 (by decide) rfl rh_0_4 ?_
    refine J_aload_n hX dX11_place_28 rfl 1 rfl ?_
    refine J_getR hX kf_RX11_10 dX11_place_29 ka_0 (by decide) rfl rh_0_0 ?_
    refine J_aload_n hX dX11_place_32 rfl 1 rfl ?_
    refine J_getR hX kf_RX11_77 dX11_place_33 ka_0 (by decide) rfl rh_0_12 ?_
    refine J_aload_n hX dX11_place_36 rfl 1 rfl ?_
    refine J_getR hX kf_RX11_81 dX11_place_37 ka_0 (by decide) rfl rh_0_13 ?_
    refine J_callV hX km_X6_remember kl_RX11_110 dX11_place_40 ka_33 (by decide) [.ref (ad 1), .ref (ad 265), .ref (ad 266)] ⟨Nat.le_of_ble_eq_true rfl, Nat.le_of_ble_eq_true rfl⟩ rfl rfl (Nat.le_of_ble_eq_true rfl) (c_X6_remember 1 ka_1 m _ h) (fun v w2 hk => ?_)
    obtain ⟨m3, rfl, rfl, h⟩ := hk
    show J X (0, 0) 43 [(6, .int y1), (0, .ref (ad 0)), (1, .int x1), (2, .int x2), (3, .int x3), (4, .int x4), (5, .int x5)] [] (fl ad m3)
    refine J_aload_n hX dX11_place_43 rfl 1 rfl ?_
    refine J_getR hX kf_RX11_10 dX11_place_44 ka_0 (by decide) rfl rh_0_0 ?_
    refine J_iload_n hX dX11_place_47 rfl 2 rfl ?_
    refine J_iload_n hX dX11_place_48 rfl 3 rfl ?_
    refine J_iload_n hX dX11_place_49 rfl 4 rfl ?_
    refine J_iload hX dX11_place_50 5 rfl ?_
    refine J_iload hX dX11_place_52 6 rfl ?_
    refine J_callV hX km_X3_print kl_RX11_171 dX11_place_54 ka_1 (by decide) [.int x1, .int x2, .int x3, .int x4, .int x5] ⟨Nat.le_of_ble_eq_true rfl, Nat.le_of_ble_eq_true rfl⟩ rfl rfl (Nat.le_of_ble_eq_true rfl) (c_X3_print 1 ka_1 x1 x2 x3 x4 x5 m3 _ h) (fun v w2 hk => ?_)
    obtain ⟨y5, m4, rfl, rfl, h⟩ := hk
    show J X (0, 0) 57 [(6, .int y1), (0, .ref (ad 0)), (1, .int x1), (2, .int x2), (3, .int x3), (4, .int x4), (5, .int x5)] [.int y5] (fl ad m4)
    exact J_iret hX hR dX11_place_57 ⟨_, _, rfl, rfl, h⟩
  · replace h := Eq.mp (if_neg c2) h
    refine J_iload hX dX11_place_21 0 rfl ?_
    exact J_iret hX hR dX11_place_23 ⟨_, _, rfl, rfl, h⟩
set_option maxRecDepth 100000 in
theorem c_X11_reach {G : GT} {ad : Nat → Nat} (x1 : Int32) (x2 : Int32) (m : Mm) : Cn G yX11_reach cX11_reach 3 (some .int) (rmN 3 68) [.ref (ad 0), .int x1, .int x2] (0, 0) (fl ad m) (fun v w => v = some (.int (v_X11_reach x1 x2 m)) ∧ w = fl ad m) := by
  refine Cn.of pn_RX11 (Nat.le_of_ble_eq_true rfl) (fun X hG hX hR => ?_)
  subst hG
  have hX : Cx X cX11_reach 3 RX11 (rmN 3 68) := hX
  show J X (0, 0) 0 [(0, .ref (ad 0)), (1, .int x1), (2, .int x2)] [] (fl ad m)
  refine J_aload_n hX dX11_reach_0 rfl 0 rfl ?_
  refine J_getR hX kf_RX11_10 dX11_reach_1 ka_0 (by decide) rfl rh_0_0 ?_
  refine J_iload_n hX dX11_reach_4 rfl 1 rfl ?_
  refine J_callV hX km_X3_has kl_RX11_223 dX11_reach_5 ka_1 (by decide) [.int x1] ⟨Nat.le_of_ble_eq_true rfl, Nat.le_of_ble_eq_true rfl⟩ rfl rfl (Nat.le_of_ble_eq_true rfl) (c_X3_has 1 ka_1 x1 m) (fun v w2 hk => ?_)
  obtain ⟨rfl, rfl⟩ := hk
  show J X (0, 0) 8 [(0, .ref (ad 0)), (1, .int x1), (2, .int x2)] [.int (v_X3_has 1 x1 m)] (fl ad m)
  refine J_if_eq (tgt := 20) hX dX11_reach_8 (by decide) (fun c1 => ?_) (fun c1 => ?_)
  · refine J_iconst (v := (-1 : Int32)) hX dX11_reach_20 (by decide) ?_
    exact J_iret hX hR dX11_reach_21 (And.intro (congrArg (fun z => some (Value.int z)) (show (-1 : Int32) = v_X11_reach x1 x2 m from (if_pos c1).symm)) rfl)
  · refine J_iload_n hX dX11_reach_11 rfl 2 rfl ?_
    refine J_if_lt (tgt := 20) hX dX11_reach_12 (by decide) (fun c2 => ?_) (fun c2 => ?_)
    · refine J_iconst (v := (-1 : Int32)) hX dX11_reach_20 (by decide) ?_
      exact J_iret hX hR dX11_reach_21 (And.intro (congrArg (fun z => some (Value.int z)) (show (-1 : Int32) = v_X11_reach x1 x2 m from ((if_neg c1).trans (if_pos c2)).symm)) rfl)
    · refine J_iload_n hX dX11_reach_15 rfl 2 rfl ?_
      refine J_iconst (v := (3 : Int32)) hX dX11_reach_16 (by decide) ?_
      refine J_icmp_le (tgt := 22) hX dX11_reach_17 (by decide) (fun c3 => ?_) (fun c3 => ?_)
      · refine J_aload_n hX dX11_reach_22 rfl 0 rfl ?_
        refine J_getR hX kf_RX11_10 dX11_reach_23 ka_0 (by decide) rfl rh_0_0 ?_
        refine J_aload_n hX dX11_reach_26 rfl 0 rfl ?_
        refine J_getR hX kf_RX11_10 dX11_reach_27 ka_0 (by decide) rfl rh_0_0 ?_
        refine J_iload_n hX dX11_reach_30 rfl 1 rfl ?_
        refine J_callV hX km_X3_panelAt kl_RX11_201 dX11_reach_31 ka_1 (by decide) [.int x1] ⟨Nat.le_of_ble_eq_true rfl, Nat.le_of_ble_eq_true rfl⟩ rfl rfl (Nat.le_of_ble_eq_true rfl) (c_X3_panelAt 1 ka_1 x1 m) (fun v w2 hk => ?_)
        obtain ⟨rfl, rfl⟩ := hk
        show J X (0, 0) 34 [(0, .ref (ad 0)), (1, .int x1), (2, .int x2)] [.ref (ad (v_X3_panelAt 1 x1)), .ref (ad 1)] (fl ad m)
        refine J_iload_n hX dX11_reach_34 rfl 2 rfl ?_
        refine J_callS hX km_X0_reachAt kl_RX11_324 dX11_reach_35 [.ref (ad 1), .ref (ad (v_X3_panelAt 1 x1)), .int x2] ⟨Nat.le_of_ble_eq_true rfl, Nat.le_of_ble_eq_true rfl⟩ rfl rfl (Nat.le_of_ble_eq_true rfl) (c_X0_reachAt 1 ka_1 (v_X3_panelAt 1 x1) (kv_X3_panelAt ka_1) x2 m) (fun v w2 hk => ?_)
        obtain ⟨rfl, rfl⟩ := hk
        show J X (0, 0) 38 [(0, .ref (ad 0)), (1, .int x1), (2, .int x2)] [.int (v_X0_reachAt 1 (v_X3_panelAt 1 x1) x2 m)] (fl ad m)
        exact J_iret hX hR dX11_reach_38 (And.intro (congrArg (fun z => some (Value.int z)) (show (v_X0_reachAt 1 (v_X3_panelAt 1 x1) x2 m) = v_X11_reach x1 x2 m from ((if_neg c1).trans ((if_neg c2).trans (if_pos c3))).symm)) rfl)
      · refine J_iconst (v := (-1 : Int32)) hX dX11_reach_20 (by decide) ?_
        exact J_iret hX hR dX11_reach_21 (And.intro (congrArg (fun z => some (Value.int z)) (show (-1 : Int32) = v_X11_reach x1 x2 m from ((if_neg c1).trans ((if_neg c2).trans (if_neg c3))).symm)) rfl)
set_option maxRecDepth 100000 in
theorem tb_X3_dropFault_l12 {X : XT} {ad : Nat → Nat} {K : Int32 → Mm → Prop} (hX : Cx X cX3_dropFault 2 RX3 (rmN 1 21)) (hR : Rx X (some .int) (kI ad K) (0, 0)) {rec : Int32 → Mm → Prop} (a0 : Nat) (h0 : kap a0 = 3) (hrec : ∀ (x1 : Int32) (m : Mm), rec x1 m → J X (0, 0) 12 [(0, .ref (ad a0)), (1, .int x1)] [] (fl ad m)) (x1 : Int32) (m : Mm) (h : wb_X3_dropFault_l12 rec K a0 x1 m) : J X (0, 0) 12 [(0, .ref (ad a0)), (1, .int x1)] [] (fl ad m) := by
  unfold wb_X3_dropFault_l12 at h
  refine J_iload_n hX dX3_dropFault_12 rfl 1 rfl ?_
  refine J_aload_n hX dX3_dropFault_13 rfl 0 rfl ?_
  refine J_getI hX kf_RX3_25 dX3_dropFault_14 h0 (by decide) rfl ?_
  refine J_icmp_ge (tgt := 46) hX dX3_dropFault_17 (by decide) (fun c2 => ?_) (fun c2 => ?_)
  · replace h := Eq.mp (if_pos c2) h
    refine J_iconst (v := (0 : Int32)) hX dX3_dropFault_46 (by decide) ?_
    exact J_iret hX hR dX3_dropFault_47 ⟨_, _, rfl, rfl, h⟩
  · replace h := Eq.mp (if_neg c2) h
    refine J_aload_n hX dX3_dropFault_20 rfl 0 rfl ?_
    refine J_iload_n hX dX3_dropFault_21 rfl 1 rfl ?_
    refine J_callV hX km_X3_panelAt kl_RX3_39 dX3_dropFault_22 h0 (by decide) [.int x1] ⟨Nat.le_of_ble_eq_true rfl, Nat.le_of_ble_eq_true rfl⟩ rfl rfl (Nat.le_of_ble_eq_true rfl) (c_X3_panelAt a0 h0 x1 m) (fun v w2 hk => ?_)
    obtain ⟨rfl, rfl⟩ := hk
    show J X (0, 0) 25 [(0, .ref (ad a0)), (1, .int x1)] [.ref (ad (v_X3_panelAt a0 x1))] (fl ad m)
    refine J_getI hX kf_RX3_112 dX3_dropFault_25 (kv_X3_panelAt h0) (by decide) rfl ?_
    refine J_aload_n hX dX3_dropFault_28 rfl 0 rfl ?_
    refine J_getI hX kf_RX3_25 dX3_dropFault_29 h0 (by decide) rfl ?_
    refine J_iconst (v := (1 : Int32)) hX dX3_dropFault_32 (by decide) ?_
    refine J_isub hX dX3_dropFault_33 ?_
    refine J_icmp_ne (tgt := 40) hX dX3_dropFault_34 (by decide) (fun c3 => ?_) (fun c3 => ?_)
    · replace h := Eq.mp (if_neg c3) h
      refine J_iinc (x := (x1 + (1 : Int32))) (lv2 := [(1, .int (x1 + (1 : Int32))), (0, .ref (ad a0))]) hX dX3_dropFault_40 1 rfl rfl (Nat.le_of_ble_eq_true rfl) rfl ?_
      refine J_goto (tgt := 12) hX dX3_dropFault_43 (by decide) ?_
      exact J_sub [1, 0] rfl (hrec (x1 + (1 : Int32)) m h)
    · replace h := Eq.mp (if_pos c3) h
      refine J_bipush (v := (-2 : Int32)) hX dX3_dropFault_37 (by decide) ?_
      exact J_iret hX hR dX3_dropFault_39 ⟨_, _, rfl, rfl, h⟩
set_option maxRecDepth 100000 in
theorem t_X3_dropFault_l12 {X : XT} {ad : Nat → Nat} {K : Int32 → Mm → Prop} (hX : Cx X cX3_dropFault 2 RX3 (rmN 1 21)) (hR : Rx X (some .int) (kI ad K) (0, 0)) (a0 : Nat) (h0 : kap a0 = 3) : ∀ (n : Nat) (x1 : Int32) (m : Mm), wp_X3_dropFault_l12 K a0 n x1 m → J X (0, 0) 12 [(0, .ref (ad a0)), (1, .int x1)] [] (fl ad m) := by
  intro n
  induction n with
  | zero => intro x1 m h; exact h.elim
  | succ n ih => intro x1 m h; exact tb_X3_dropFault_l12 hX hR a0 h0 ih x1 m h
set_option maxRecDepth 100000 in
theorem c_X3_dropFault {G : GT} {ad : Nat → Nat} (a0 : Nat) (h0 : kap a0 = 3) (m : Mm) (K : Int32 → Mm → Prop) (h : wp_X3_dropFault a0 m K) : Cn G yX3_dropFault cX3_dropFault 2 (some .int) (rmN 1 21) [.ref (ad a0)] (0, 0) (fl ad m) (kI ad K) := by
  unfold wp_X3_dropFault at h
  refine Cn.of pn_RX3 (Nat.le_of_ble_eq_true rfl) (fun X hG hX hR => ?_)
  subst hG
  have hX : Cx X cX3_dropFault 2 RX3 (rmN 1 21) := hX
  show J X (0, 0) 0 [(0, .ref (ad a0))] [] (fl ad m)
  refine J_aload_n hX dX3_dropFault_0 rfl 0 rfl ?_
  refine J_getI hX kf_RX3_25 dX3_dropFault_1 h0 (by decide) rfl ?_
  refine J_if_ne (tgt := 10) hX dX3_dropFault_4 (by decide) (fun c1 => ?_) (fun c1 => ?_)
  · replace h := Eq.mp (if_neg c1) h
    refine J_iconst (v := (0 : Int32)) hX dX3_dropFault_10 (by decide) ?_
    refine J_istore_n (lv2 := [(1, .int (0 : Int32)), (0, .ref (ad a0))]) hX dX3_dropFault_11 rfl (Nat.le_of_ble_eq_true rfl) rfl ?_
    refine J_sub [1, 0] rfl (t_X3_dropFault_l12 hX hR a0 h0 FU (0 : Int32) m h)
  · replace h := Eq.mp (if_pos c1) h
    refine J_bipush (v := (-2 : Int32)) hX dX3_dropFault_7 (by decide) ?_
    exact J_iret hX hR dX3_dropFault_9 ⟨_, _, rfl, rfl, h⟩
set_option maxRecDepth 100000 in
theorem c_X3_dropLast {G : GT} {ad : Nat → Nat} (a0 : Nat) (h0 : kap a0 = 3) (m : Mm) (K : Int32 → Mm → Prop) (h : wp_X3_dropLast a0 m K) : Cn G yX3_dropLast cX3_dropLast 1 (some .int) (rmN 0 0) [.ref (ad a0)] (0, 0) (fl ad m) (kI ad K) := by
  unfold wp_X3_dropLast at h
  refine Cn.of pn_RX3 (Nat.le_of_ble_eq_true rfl) (fun X hG hX hR => ?_)
  subst hG
  have hX : Cx X cX3_dropLast 1 RX3 (rmN 0 0) := hX
  show J X (0, 0) 0 [(0, .ref (ad a0))] [] (fl ad m)
  refine J_aload_n hX dX3_dropLast_0 rfl 0 rfl ?_
  refine J_dup hX dX3_dropLast_1 rfl ?_
  refine J_getI hX kf_RX3_25 dX3_dropLast_2 h0 (by decide) rfl ?_
  refine J_iconst (v := (1 : Int32)) hX dX3_dropLast_5 (by decide) ?_
  refine J_isub hX dX3_dropLast_6 ?_
  refine J_putI hX kf_RX3_25 dX3_dropLast_7 h0 (by decide) rfl ?_
  refine J_nmM (fun m1 e_m1 => ?_)
  replace h := h m1 e_m1
  refine J_aload_n hX dX3_dropLast_10 rfl 0 rfl ?_
  refine J_getI hX kf_RX3_25 dX3_dropLast_11 h0 (by decide) rfl ?_
  exact J_iret hX hR dX3_dropLast_14 ⟨_, _, rfl, rfl, h⟩
set_option maxRecDepth 100000 in
theorem c_X11_removeLast {G : GT} {ad : Nat → Nat} (m : Mm) (K : Int32 → Mm → Prop) (h : wp_X11_removeLast m K) : Cn G yX11_removeLast cX11_removeLast 2 (some .int) (rmN 3 67) [.ref (ad 0)] (0, 0) (fl ad m) (kI ad K) := by
  unfold wp_X11_removeLast at h
  refine Cn.of pn_RX11 (Nat.le_of_ble_eq_true rfl) (fun X hG hX hR => ?_)
  subst hG
  have hX : Cx X cX11_removeLast 2 RX11 (rmN 3 67) := hX
  show J X (0, 0) 0 [(0, .ref (ad 0))] [] (fl ad m)
  refine J_aload_n hX dX11_removeLast_0 rfl 0 rfl ?_
  refine J_getR hX kf_RX11_10 dX11_removeLast_1 ka_0 (by decide) rfl rh_0_0 ?_
  refine J_callV hX km_X3_dropFault kl_RX11_131 dX11_removeLast_4 ka_1 (by decide) [] ⟨Nat.le_of_ble_eq_true rfl, Nat.le_of_ble_eq_true rfl⟩ rfl rfl (Nat.le_of_ble_eq_true rfl) (c_X3_dropFault 1 ka_1 m _ h) (fun v w2 hk => ?_)
  obtain ⟨y2, m1, rfl, rfl, h⟩ := hk
  show J X (0, 0) 7 [(0, .ref (ad 0))] [.int y2] (fl ad m1)
  refine J_istore_n (lv2 := [(1, .int y2), (0, .ref (ad 0))]) hX dX11_removeLast_7 rfl (Nat.le_of_ble_eq_true rfl) rfl ?_
  refine J_iload_n hX dX11_removeLast_8 rfl 0 rfl ?_
  refine J_if_eq (tgt := 14) hX dX11_removeLast_9 (by decide) (fun c3 => ?_) (fun c3 => ?_)
  · replace h := Eq.mp (if_pos c3) h
    refine J_aload_n hX dX11_removeLast_14 rfl 1 rfl ?_
    refine J_getR hX kf_RX11_30 dX11_removeLast_15 ka_0 (by decide) rfl rh_0_4 ?_
    refine J_aload_n hX dX11_removeLast_18 rfl 1 rfl ?_
    refine J_getR hX kf_RX11_10 dX11_removeLast_19 ka_0 (by decide) rfl rh_0_0 ?_
    refine J_aload_n hX dX11_removeLast_22 rfl 1 rfl ?_
    refine J_getR hX kf_RX11_77 dX11_removeLast_23 ka_0 (by decide) rfl rh_0_12 ?_
    refine J_aload_n hX dX11_removeLast_26 rfl 1 rfl ?_
    refine J_getR hX kf_RX11_81 dX11_removeLast_27 ka_0 (by decide) rfl rh_0_13 ?_
    refine J_callV hX km_X6_remember kl_RX11_110 dX11_removeLast_30 ka_33 (by decide) [.ref (ad 1), .ref (ad 265), .ref (ad 266)] ⟨Nat.le_of_ble_eq_true rfl, Nat.le_of_ble_eq_true rfl⟩ rfl rfl (Nat.le_of_ble_eq_true rfl) (c_X6_remember 1 ka_1 m1 _ h) (fun v w2 hk => ?_)
    obtain ⟨m4, rfl, rfl, h⟩ := hk
    show J X (0, 0) 33 [(1, .int y2), (0, .ref (ad 0))] [] (fl ad m4)
    refine J_aload_n hX dX11_removeLast_33 rfl 1 rfl ?_
    refine J_getR hX kf_RX11_10 dX11_removeLast_34 ka_0 (by decide) rfl rh_0_0 ?_
    refine J_callV hX km_X3_dropLast kl_RX11_135 dX11_removeLast_37 ka_1 (by decide) [] ⟨Nat.le_of_ble_eq_true rfl, Nat.le_of_ble_eq_true rfl⟩ rfl rfl (Nat.le_of_ble_eq_true rfl) (c_X3_dropLast 1 ka_1 m4 _ h) (fun v w2 hk => ?_)
    obtain ⟨y6, m5, rfl, rfl, h⟩ := hk
    show J X (0, 0) 40 [(1, .int y2), (0, .ref (ad 0))] [.int y6] (fl ad m5)
    exact J_iret hX hR dX11_removeLast_40 ⟨_, _, rfl, rfl, h⟩
  · replace h := Eq.mp (if_neg c3) h
    refine J_iload_n hX dX11_removeLast_12 rfl 0 rfl ?_
    exact J_iret hX hR dX11_removeLast_13 ⟨_, _, rfl, rfl, h⟩
set_option maxRecDepth 100000 in
theorem c_X11_restore {G : GT} {ad : Nat → Nat} (x1 : Int32) (m : Mm) (K : Int32 → Mm → Prop) (h : wp_X11_restore x1 m K) : Cn G yX11_restore cX11_restore 2 (some .int) (rmN 3 67) [.ref (ad 0), .int x1] (0, 0) (fl ad m) (kI ad K) := by
  unfold wp_X11_restore at h
  refine Cn.of pn_RX11 (Nat.le_of_ble_eq_true rfl) (fun X hG hX hR => ?_)
  subst hG
  have hX : Cx X cX11_restore 2 RX11 (rmN 3 67) := hX
  show J X (0, 0) 0 [(0, .ref (ad 0)), (1, .int x1)] [] (fl ad m)
  refine J_iload_n hX dX11_restore_0 rfl 1 rfl ?_
  refine J_if_lt (tgt := 9) hX dX11_restore_1 (by decide) (fun c1 => ?_) (fun c1 => ?_)
  · replace h := Eq.mp (if_pos c1) h
    refine J_iconst (v := (-1 : Int32)) hX dX11_restore_9 (by decide) ?_
    exact J_iret hX hR dX11_restore_10 ⟨_, _, rfl, rfl, h⟩
  · replace h := Eq.mp (if_neg c1) h
    refine J_iload_n hX dX11_restore_4 rfl 1 rfl ?_
    refine J_iconst (v := (2 : Int32)) hX dX11_restore_5 (by decide) ?_
    refine J_icmp_lt (tgt := 11) hX dX11_restore_6 (by decide) (fun c2 => ?_) (fun c2 => ?_)
    · replace h := Eq.mp (if_pos c2) h
      refine J_aload_n hX dX11_restore_11 rfl 0 rfl ?_
      refine J_getR hX kf_RX11_23 dX11_restore_12 ka_0 (by decide) rfl rh_0_3 ?_
      refine J_iload_n hX dX11_restore_15 rfl 1 rfl ?_
      refine J_zald (j := x1.toNatClampNeg) hX dX11_restore_16 ka_32 le_32 (vp_b (lo_2 c1) (up_1 c2 (by decide))) rfl ?_
      refine J_if_ne (tgt := 23) hX dX11_restore_17 (by decide) (fun c3 => ?_) (fun c3 => ?_)
      · replace h := Eq.mp (if_neg c3) h
        refine J_aload_n hX dX11_restore_23 rfl 0 rfl ?_
        refine J_getR hX kf_RX11_30 dX11_restore_24 ka_0 (by decide) rfl rh_0_4 ?_
        refine J_aload_n hX dX11_restore_27 rfl 0 rfl ?_
        refine J_getR hX kf_RX11_10 dX11_restore_28 ka_0 (by decide) rfl rh_0_0 ?_
        refine J_aload_n hX dX11_restore_31 rfl 0 rfl ?_
        refine J_getR hX kf_RX11_77 dX11_restore_32 ka_0 (by decide) rfl rh_0_12 ?_
        refine J_aload_n hX dX11_restore_35 rfl 0 rfl ?_
        refine J_getR hX kf_RX11_81 dX11_restore_36 ka_0 (by decide) rfl rh_0_13 ?_
        refine J_callV hX km_X6_remember kl_RX11_110 dX11_restore_39 ka_33 (by decide) [.ref (ad 1), .ref (ad 265), .ref (ad 266)] ⟨Nat.le_of_ble_eq_true rfl, Nat.le_of_ble_eq_true rfl⟩ rfl rfl (Nat.le_of_ble_eq_true rfl) (c_X6_remember 1 ka_1 m _ h) (fun v w2 hk => ?_)
        obtain ⟨m4, rfl, rfl, h⟩ := hk
        show J X (0, 0) 42 [(0, .ref (ad 0)), (1, .int x1)] [] (fl ad m4)
        refine J_aload_n hX dX11_restore_42 rfl 0 rfl ?_
        refine J_getR hX kf_RX11_10 dX11_restore_43 ka_0 (by decide) rfl rh_0_0 ?_
        refine J_aload_n hX dX11_restore_46 rfl 0 rfl ?_
        refine J_getR hX kf_RX11_19 dX11_restore_47 ka_0 (by decide) rfl rh_0_2 ?_
        refine J_iload_n hX dX11_restore_50 rfl 1 rfl ?_
        refine J_aald hX dX11_restore_51 (u := 1) (by decide) ka_31 le_31 (vp_b (lo_2 c1) (up_1 c2 (by decide))) (re_31 (vp_lt (vp_b (lo_2 c1) (up_1 c2 (by decide))))) ?_
        refine J_callV hX km_X3_become kl_RX11_99 dX11_restore_52 ka_1 (by decide) [.ref (ad (396 + 15 * x1.toNatClampNeg))] ⟨Nat.le_of_ble_eq_true rfl, Nat.le_of_ble_eq_true rfl⟩ rfl rfl (Nat.le_of_ble_eq_true rfl) (c_X3_become 1 ka_1 (396 + 15 * x1.toNatClampNeg) (ke_31 (vp_lt (vp_b (lo_2 c1) (up_1 c2 (by decide))))) m4 _ h) (fun v w2 hk => ?_)
        obtain ⟨m5, rfl, rfl, h⟩ := hk
        show J X (0, 0) 55 [(0, .ref (ad 0)), (1, .int x1)] [] (fl ad m5)
        refine J_aload_n hX dX11_restore_55 rfl 0 rfl ?_
        refine J_getR hX kf_RX11_10 dX11_restore_56 ka_0 (by decide) rfl rh_0_0 ?_
        refine J_getI hX kf_RX11_220 dX11_restore_59 ka_1 (by decide) rfl ?_
        exact J_iret hX hR dX11_restore_62 ⟨_, _, rfl, rfl, h⟩
      · replace h := Eq.mp (if_pos c3) h
        refine J_bipush (v := (-2 : Int32)) hX dX11_restore_20 (by decide) ?_
        exact J_iret hX hR dX11_restore_22 ⟨_, _, rfl, rfl, h⟩
    · replace h := Eq.mp (if_neg c2) h
      refine J_iconst (v := (-1 : Int32)) hX dX11_restore_9 (by decide) ?_
      exact J_iret hX hR dX11_restore_10 ⟨_, _, rfl, rfl, h⟩
set_option maxRecDepth 100000 in
theorem c_X1_copiesInRow {G : GT} {ad : Nat → Nat} (a1 : Nat) (h1 : kap a1 = 3) (x2 : Int32) (x3 : Int32) (m : Mm) (K : Int32 → Mm → Prop) (h : wp_X1_copiesInRow a1 x2 x3 m K) : Cn G yX1_copiesInRow cX1_copiesInRow 6 (some .int) (rmN 3 78) [.ref (ad 259), .ref (ad a1), .int x2, .int x3] (0, 0) (fl ad m) (kI ad K) := by
  unfold wp_X1_copiesInRow at h
  refine Cn.of pn_RX1 (Nat.le_of_ble_eq_true rfl) (fun X hG hX hR => ?_)
  subst hG
  have hX : Cx X cX1_copiesInRow 6 RX1 (rmN 3 78) := hX
  show J X (0, 0) 0 [(0, .ref (ad 259)), (1, .ref (ad a1)), (2, .int x2), (3, .int x3)] [] (fl ad m)
  refine J_aload_n hX dX1_copiesInRow_0 rfl 0 rfl ?_
  refine J_aload_n hX dX1_copiesInRow_1 rfl 1 rfl ?_
  refine J_iload_n hX dX1_copiesInRow_2 rfl 2 rfl ?_
  refine J_iload_n hX dX1_copiesInRow_3 rfl 3 rfl ?_
  refine J_iconst (v := (0 : Int32)) hX dX1_copiesInRow_4 (by decide) ?_
  refine J_callV hX km_X1_leastPitch kl_RX1_64 dX1_copiesInRow_5 ka_259 (by decide) [.ref (ad a1), .int x2, .int x3, .int (0 : Int32)] ⟨Nat.le_of_ble_eq_true rfl, Nat.le_of_ble_eq_true rfl⟩ rfl rfl (Nat.le_of_ble_eq_true rfl) (c_X1_leastPitch a1 h1 x2 x3 (0 : Int32) m _ h) (fun v w2 hk => ?_)
  obtain ⟨y2, m1, rfl, rfl, h⟩ := hk
  show J X (0, 0) 8 [(0, .ref (ad 259)), (1, .ref (ad a1)), (2, .int x2), (3, .int x3)] [.int y2] (fl ad m1)
  refine J_istore (lv2 := [(4, .int y2), (0, .ref (ad 259)), (1, .ref (ad a1)), (2, .int x2), (3, .int x3)]) hX dX1_copiesInRow_8 (Nat.le_of_ble_eq_true rfl) rfl ?_
  refine J_iload_n hX dX1_copiesInRow_10 rfl 3 rfl ?_
  have hj13 : ∀ y4 : Int32, y4 = (if x2 = (0 : Int32) then (m1.1 a1 2) else (m1.1 a1 3)) → J X (0, 0) 25 [(1, .ref (ad a1)), (2, .int x2), (4, .int y2)] [.int y4] (fl ad m1) := by
    intro y4 e_y4
    replace h := h y4 e_y4
    refine J_aload_n hX dX1_copiesInRow_25 rfl 0 rfl ?_
    refine J_iload_n hX dX1_copiesInRow_26 rfl 1 rfl ?_
    refine J_callS hX km_X1_greatest kl_RX1_74 dX1_copiesInRow_27 [.ref (ad a1), .int x2] ⟨Nat.le_of_ble_eq_true rfl, Nat.le_of_ble_eq_true rfl⟩ rfl rfl (Nat.le_of_ble_eq_true rfl) (c_X1_greatest a1 h1 x2 m1 _ h) (fun v w2 hk => ?_)
    obtain ⟨y6, m5, rfl, rfl, h⟩ := hk
    show J X (0, 0) 30 [(1, .ref (ad a1)), (2, .int x2), (4, .int y2)] [.int y6, .int y4] (fl ad m5)
    refine J_aload_n hX dX1_copiesInRow_30 rfl 0 rfl ?_
    refine J_iload_n hX dX1_copiesInRow_31 rfl 1 rfl ?_
    refine J_callS hX km_X1_smallest kl_RX1_78 dX1_copiesInRow_32 [.ref (ad a1), .int x2] ⟨Nat.le_of_ble_eq_true rfl, Nat.le_of_ble_eq_true rfl⟩ rfl rfl (Nat.le_of_ble_eq_true rfl) (c_X1_smallest a1 h1 x2 m5 _ h) (fun v w2 hk => ?_)
    obtain ⟨y8, m7, rfl, rfl, h⟩ := hk
    show J X (0, 0) 35 [(1, .ref (ad a1)), (2, .int x2), (4, .int y2)] [.int y8, .int y6, .int y4] (fl ad m7)
    refine J_isub hX dX1_copiesInRow_35 ?_
    refine J_isub hX dX1_copiesInRow_36 ?_
    refine J_nmI (fun y9 e_y9 => ?_)
    replace h := h y9 e_y9
    refine J_istore (lv2 := [(5, .int y9), (1, .ref (ad a1)), (2, .int x2), (4, .int y2)]) hX dX1_copiesInRow_37 (Nat.le_of_ble_eq_true rfl) rfl ?_
    refine J_iload hX dX1_copiesInRow_39 3 rfl ?_
    have hj12 : ∀ y11 : Int32, y11 = (if y2 ≤ (0 : Int32) then (1 : Int32) else ((1 : Int32) + (y9 / y2))) → J X (0, 0) 55 [] [.int y11] (fl ad m7) := by
      intro y11 e_y11
      replace h := h y11 e_y11
      exact J_iret hX hR dX1_copiesInRow_55 ⟨_, _, rfl, rfl, h⟩
    refine J_if_le (tgt := 54) hX dX1_copiesInRow_41 (by decide) (fun c10 => ?_) (fun c10 => ?_)
    · refine J_iconst (v := (1 : Int32)) hX dX1_copiesInRow_54 (by decide) ?_
      exact J_sub [] rfl (hj12 _ (if_pos c10).symm)
    · refine J_iconst (v := (1 : Int32)) hX dX1_copiesInRow_44 (by decide) ?_
      refine J_iload hX dX1_copiesInRow_45 0 rfl ?_
      refine J_iload hX dX1_copiesInRow_47 3 rfl ?_
      refine J_idiv hX dX1_copiesInRow_49 (nz_1 c10) ?_
      refine J_iadd hX dX1_copiesInRow_50 ?_
      refine J_goto (tgt := 55) hX dX1_copiesInRow_51 (by decide) ?_
      exact J_sub [] rfl (hj12 _ (if_neg c10).symm)
  refine J_if_ne (tgt := 21) hX dX1_copiesInRow_11 (by decide) (fun c3 => ?_) (fun c3 => ?_)
  · refine J_aload_n hX dX1_copiesInRow_21 rfl 2 rfl ?_
    refine J_getI hX kf_RX1_71 dX1_copiesInRow_22 h1 (by decide) rfl ?_
    exact J_sub [2, 3, 0] rfl (hj13 _ (if_neg c3).symm)
  · refine J_aload_n hX dX1_copiesInRow_14 rfl 2 rfl ?_
    refine J_getI hX kf_RX1_68 dX1_copiesInRow_15 h1 (by decide) rfl ?_
    refine J_goto (tgt := 25) hX dX1_copiesInRow_18 (by decide) ?_
    exact J_sub [2, 3, 0] rfl (hj13 _ (if_pos c3).symm)
set_option maxRecDepth 100000 in
theorem c_X11_rowCount {G : GT} {ad : Nat → Nat} (x1 : Int32) (x2 : Int32) (m : Mm) (K : Int32 → Mm → Prop) (h : wp_X11_rowCount x1 x2 m K) : Cn G yX11_rowCount cX11_rowCount 4 (some .int) (rmN 4 103) [.ref (ad 0), .int x1, .int x2] (0, 0) (fl ad m) (kI ad K) := by
  unfold wp_X11_rowCount at h
  refine Cn.of pn_RX11 (Nat.le_of_ble_eq_true rfl) (fun X hG hX hR => ?_)
  subst hG
  have hX : Cx X cX11_rowCount 4 RX11 (rmN 4 103) := hX
  show J X (0, 0) 0 [(0, .ref (ad 0)), (1, .int x1), (2, .int x2)] [] (fl ad m)
  refine J_aload_n hX dX11_rowCount_0 rfl 0 rfl ?_
  refine J_iload_n hX dX11_rowCount_1 rfl 1 rfl ?_
  refine J_iload_n hX dX11_rowCount_2 rfl 2 rfl ?_
  refine J_callV hX km_X11_pitchFault kl_RX11_243 dX11_rowCount_3 ka_0 (by decide) [.int x1, .int x2] ⟨Nat.le_of_ble_eq_true rfl, Nat.le_of_ble_eq_true rfl⟩ rfl rfl (Nat.le_of_ble_eq_true rfl) (c_X11_pitchFault x1 x2 m) (fun v w2 hk => ?_)
  obtain ⟨rfl, rfl⟩ := hk
  show J X (0, 0) 6 [(0, .ref (ad 0)), (1, .int x1), (2, .int x2)] [.int (v_X11_pitchFault x1 x2 m)] (fl ad m)
  refine J_nmI (fun y1 e_y1 => ?_)
  replace h := h y1 e_y1
  refine J_istore_n (lv2 := [(3, .int y1), (0, .ref (ad 0)), (1, .int x1), (2, .int x2)]) hX dX11_rowCount_6 rfl (Nat.le_of_ble_eq_true rfl) rfl ?_
  refine J_iload_n hX dX11_rowCount_7 rfl 0 rfl ?_
  refine J_if_eq (tgt := 15) hX dX11_rowCount_8 (by decide) (fun c2 => ?_) (fun c2 => ?_)
  · replace h := Eq.mp (if_pos c2) h
    refine J_aload_n hX dX11_rowCount_15 rfl 1 rfl ?_
    refine J_getR hX kf_RX11_48 dX11_rowCount_16 ka_0 (by decide) rfl rh_0_7 ?_
    refine J_aload_n hX dX11_rowCount_19 rfl 1 rfl ?_
    refine J_getR hX kf_RX11_10 dX11_rowCount_20 ka_0 (by decide) rfl rh_0_0 ?_
    refine J_iload_n hX dX11_rowCount_23 rfl 2 rfl ?_
    refine J_iload_n hX dX11_rowCount_24 rfl 3 rfl ?_
    refine J_callV hX km_X1_copiesInRow kl_RX11_250 dX11_rowCount_25 ka_259 (by decide) [.ref (ad 1), .int x1, .int x2] ⟨Nat.le_of_ble_eq_true rfl, Nat.le_of_ble_eq_true rfl⟩ rfl rfl (Nat.le_of_ble_eq_true rfl) (c_X1_copiesInRow 1 ka_1 x1 x2 m _ h) (fun v w2 hk => ?_)
    obtain ⟨y4, m3, rfl, rfl, h⟩ := hk
    show J X (0, 0) 28 [(3, .int y1), (0, .ref (ad 0)), (1, .int x1), (2, .int x2)] [.int y4] (fl ad m3)
    exact J_iret hX hR dX11_rowCount_28 ⟨_, _, rfl, rfl, h⟩
  · replace h := Eq.mp (if_neg c2) h
    refine J_iload_n hX dX11_rowCount_11 rfl 0 rfl ?_
    refine J_goto (tgt := 28) hX dX11_rowCount_12 (by decide) ?_
    exact J_iret hX hR dX11_rowCount_28 ⟨_, _, rfl, rfl, h⟩
set_option maxRecDepth 100000 in
theorem c_X11_save {G : GT} {ad : Nat → Nat} (x1 : Int32) (m : Mm) (K : Int32 → Mm → Prop) (h : wp_X11_save x1 m K) : Cn G yX11_save cX11_save 2 (some .int) (rmN 2 43) [.ref (ad 0), .int x1] (0, 0) (fl ad m) (kI ad K) := by
  unfold wp_X11_save at h
  refine Cn.of pn_RX11 (Nat.le_of_ble_eq_true rfl) (fun X hG hX hR => ?_)
  subst hG
  have hX : Cx X cX11_save 2 RX11 (rmN 2 43) := hX
  show J X (0, 0) 0 [(0, .ref (ad 0)), (1, .int x1)] [] (fl ad m)
  refine J_iload_n hX dX11_save_0 rfl 1 rfl ?_
  refine J_if_lt (tgt := 9) hX dX11_save_1 (by decide) (fun c1 => ?_) (fun c1 => ?_)
  · replace h := Eq.mp (if_pos c1) h
    refine J_iconst (v := (-1 : Int32)) hX dX11_save_9 (by decide) ?_
    exact J_iret hX hR dX11_save_10 ⟨_, _, rfl, rfl, h⟩
  · replace h := Eq.mp (if_neg c1) h
    refine J_iload_n hX dX11_save_4 rfl 1 rfl ?_
    refine J_iconst (v := (2 : Int32)) hX dX11_save_5 (by decide) ?_
    refine J_icmp_lt (tgt := 11) hX dX11_save_6 (by decide) (fun c2 => ?_) (fun c2 => ?_)
    · replace h := Eq.mp (if_pos c2) h
      refine J_aload_n hX dX11_save_11 rfl 0 rfl ?_
      refine J_getR hX kf_RX11_19 dX11_save_12 ka_0 (by decide) rfl rh_0_2 ?_
      refine J_iload_n hX dX11_save_15 rfl 1 rfl ?_
      refine J_aald hX dX11_save_16 (u := 1) (by decide) ka_31 le_31 (vp_b (lo_2 c1) (up_1 c2 (by decide))) (re_31 (vp_lt (vp_b (lo_2 c1) (up_1 c2 (by decide))))) ?_
      refine J_aload_n hX dX11_save_17 rfl 0 rfl ?_
      refine J_getR hX kf_RX11_10 dX11_save_18 ka_0 (by decide) rfl rh_0_0 ?_
      refine J_callV hX km_X3_become kl_RX11_99 dX11_save_21 (ke_31 (vp_lt (vp_b (lo_2 c1) (up_1 c2 (by decide))))) (by decide) [.ref (ad 1)] ⟨Nat.le_of_ble_eq_true rfl, Nat.le_of_ble_eq_true rfl⟩ rfl rfl (Nat.le_of_ble_eq_true rfl) (c_X3_become (396 + 15 * x1.toNatClampNeg) (ke_31 (vp_lt (vp_b (lo_2 c1) (up_1 c2 (by decide))))) 1 ka_1 m _ h) (fun v w2 hk => ?_)
      obtain ⟨m3, rfl, rfl, h⟩ := hk
      show J X (0, 0) 24 [(0, .ref (ad 0)), (1, .int x1)] [] (fl ad m3)
      refine J_aload_n hX dX11_save_24 rfl 0 rfl ?_
      refine J_getR hX kf_RX11_23 dX11_save_25 ka_0 (by decide) rfl rh_0_3 ?_
      refine J_iload_n hX dX11_save_28 rfl 1 rfl ?_
      refine J_iconst (v := (1 : Int32)) hX dX11_save_29 (by decide) ?_
      refine J_zast (j := x1.toNatClampNeg) hX dX11_save_30 ka_32 le_32 (vp_b (lo_2 c1) (up_1 c2 (by decide))) bo_1 rfl ?_
      refine J_nmM (fun m4 e_m4 => ?_)
      replace h := h m4 e_m4
      refine J_aload_n hX dX11_save_31 rfl 0 rfl ?_
      refine J_getR hX kf_RX11_10 dX11_save_32 ka_0 (by decide) rfl rh_0_0 ?_
      refine J_getI hX kf_RX11_220 dX11_save_35 ka_1 (by decide) rfl ?_
      exact J_iret hX hR dX11_save_38 ⟨_, _, rfl, rfl, h⟩
    · replace h := Eq.mp (if_neg c2) h
      refine J_iconst (v := (-1 : Int32)) hX dX11_save_9 (by decide) ?_
      exact J_iret hX hR dX11_save_10 ⟨_, _, rfl, rfl, h⟩
set_option maxRecDepth 100000 in
theorem c_X11_seam {G : GT} {ad : Nat → Nat} (x1 : Int32) (x2 : Int32) (m : Mm) (K : Int32 → Mm → Prop) (h : wp_X11_seam x1 x2 m K) : Cn G yX11_seam cX11_seam 3 (some .int) (rmN 5 119) [.ref (ad 0), .int x1, .int x2] (0, 0) (fl ad m) (kI ad K) := by
  unfold wp_X11_seam at h
  refine Cn.of pn_RX11 (Nat.le_of_ble_eq_true rfl) (fun X hG hX hR => ?_)
  subst hG
  have hX : Cx X cX11_seam 3 RX11 (rmN 5 119) := hX
  show J X (0, 0) 0 [(0, .ref (ad 0)), (1, .int x1), (2, .int x2)] [] (fl ad m)
  refine J_aload_n hX dX11_seam_0 rfl 0 rfl ?_
  refine J_callV hX km_X11_findSeams kl_RX11_181 dX11_seam_1 ka_0 (by decide) [] ⟨Nat.le_of_ble_eq_true rfl, Nat.le_of_ble_eq_true rfl⟩ rfl rfl (Nat.le_of_ble_eq_true rfl) (c_X11_findSeams m _ h) (fun v w2 hk => ?_)
  obtain ⟨m1, rfl, rfl, h⟩ := hk
  show J X (0, 0) 4 [(0, .ref (ad 0)), (1, .int x1), (2, .int x2)] [] (fl ad m1)
  refine J_aload_n hX dX11_seam_4 rfl 0 rfl ?_
  refine J_getR hX kf_RX11_68 dX11_seam_5 ka_0 (by decide) rfl rh_0_10 ?_
  refine J_iload_n hX dX11_seam_8 rfl 1 rfl ?_
  refine J_callV hX km_X10_has kl_RX11_184 dX11_seam_9 ka_268 (by decide) [.int x1] ⟨Nat.le_of_ble_eq_true rfl, Nat.le_of_ble_eq_true rfl⟩ rfl rfl (Nat.le_of_ble_eq_true rfl) (c_X10_has x1 m1) (fun v w2 hk => ?_)
  obtain ⟨rfl, rfl⟩ := hk
  show J X (0, 0) 12 [(0, .ref (ad 0)), (1, .int x1), (2, .int x2)] [.int (v_X10_has x1 m1)] (fl ad m1)
  refine J_if_eq (tgt := 25) hX dX11_seam_12 (by decide) (fun c2 => ?_) (fun c2 => ?_)
  · replace h := Eq.mp (if_pos c2) h
    refine J_iconst (v := (-1 : Int32)) hX dX11_seam_25 (by decide) ?_
    exact J_iret hX hR dX11_seam_26 ⟨_, _, rfl, rfl, h⟩
  · replace h := Eq.mp (if_neg c2) h
    refine J_iload_n hX dX11_seam_15 rfl 2 rfl ?_
    refine J_if_lt (tgt := 25) hX dX11_seam_16 (by decide) (fun c3 => ?_) (fun c3 => ?_)
    · replace h := Eq.mp (if_pos c3) h
      refine J_iconst (v := (-1 : Int32)) hX dX11_seam_25 (by decide) ?_
      exact J_iret hX hR dX11_seam_26 ⟨_, _, rfl, rfl, h⟩
    · replace h := Eq.mp (if_neg c3) h
      refine J_iload_n hX dX11_seam_19 rfl 2 rfl ?_
      refine J_bipush (v := (7 : Int32)) hX dX11_seam_20 (by decide) ?_
      refine J_icmp_le (tgt := 27) hX dX11_seam_22 (by decide) (fun c4 => ?_) (fun c4 => ?_)
      · replace h := Eq.mp (if_pos c4) h
        refine J_iload_n hX dX11_seam_27 rfl 2 rfl ?_
        refine J_bipush (v := (7 : Int32)) hX dX11_seam_28 (by decide) ?_
        refine J_icmp_ne (tgt := 48) hX dX11_seam_30 (by decide) (fun c5 => ?_) (fun c5 => ?_)
        · replace h := Eq.mp (if_neg c5) h
          refine J_aload_n hX dX11_seam_48 rfl 0 rfl ?_
          refine J_getR hX kf_RX11_68 dX11_seam_49 ka_0 (by decide) rfl rh_0_10 ?_
          refine J_aload_n hX dX11_seam_52 rfl 0 rfl ?_
          refine J_getR hX kf_RX11_10 dX11_seam_53 ka_0 (by decide) rfl rh_0_0 ?_
          refine J_iload_n hX dX11_seam_56 rfl 1 rfl ?_
          refine J_iload_n hX dX11_seam_57 rfl 2 rfl ?_
          obtain ⟨b6, h⟩ := h
          refine J_callV hX km_X10_value kl_RX11_281 dX11_seam_58 ka_268 (by decide) [.ref (ad 1), .int x1, .int x2] ⟨Nat.le_of_ble_eq_true rfl, Nat.le_of_ble_eq_true rfl⟩ rfl rfl (Nat.le_of_ble_eq_true rfl) (c_X10_value 1 ka_1 x1 x2 m1 b6) (fun v w2 hk => ?_)
          obtain ⟨rfl, rfl⟩ := hk
          show J X (0, 0) 61 [(0, .ref (ad 0)), (1, .int x1), (2, .int x2)] [.int (v_X10_value 1 x1 x2 m1)] (fl ad m1)
          exact J_iret hX hR dX11_seam_61 ⟨_, _, rfl, rfl, h⟩
        · replace h := Eq.mp (if_pos c5) h
          refine J_aload_n hX dX11_seam_33 rfl 0 rfl ?_
          refine J_getR hX kf_RX11_63 dX11_seam_34 ka_0 (by decide) rfl rh_0_9 ?_
          refine J_aload_n hX dX11_seam_37 rfl 0 rfl ?_
          refine J_getR hX kf_RX11_10 dX11_seam_38 ka_0 (by decide) rfl rh_0_0 ?_
          refine J_iload_n hX dX11_seam_41 rfl 1 rfl ?_
          refine J_callV hX km_X0_mismatch kl_RX11_278 dX11_seam_42 ka_267 (by decide) [.ref (ad 1), .int x1] ⟨Nat.le_of_ble_eq_true rfl, Nat.le_of_ble_eq_true rfl⟩ rfl rfl (Nat.le_of_ble_eq_true rfl) (c_X0_mismatch 1 ka_1 x1 m1 _ h) (fun v w2 hk => ?_)
          obtain ⟨y8, m7, rfl, rfl, h⟩ := hk
          show J X (0, 0) 45 [(0, .ref (ad 0)), (1, .int x1), (2, .int x2)] [.int y8] (fl ad m7)
          refine J_goto (tgt := 61) hX dX11_seam_45 (by decide) ?_
          exact J_iret hX hR dX11_seam_61 ⟨_, _, rfl, rfl, h⟩
      · replace h := Eq.mp (if_neg c4) h
        refine J_iconst (v := (-1 : Int32)) hX dX11_seam_25 (by decide) ?_
        exact J_iret hX hR dX11_seam_26 ⟨_, _, rfl, rfl, h⟩
set_option maxRecDepth 100000 in
theorem c_X11_seamCount {G : GT} {ad : Nat → Nat} (m : Mm) (K : Int32 → Mm → Prop) (h : wp_X11_seamCount m K) : Cn G yX11_seamCount cX11_seamCount 1 (some .int) (rmN 5 119) [.ref (ad 0)] (0, 0) (fl ad m) (kI ad K) := by
  unfold wp_X11_seamCount at h
  refine Cn.of pn_RX11 (Nat.le_of_ble_eq_true rfl) (fun X hG hX hR => ?_)
  subst hG
  have hX : Cx X cX11_seamCount 1 RX11 (rmN 5 119) := hX
  show J X (0, 0) 0 [(0, .ref (ad 0))] [] (fl ad m)
  refine J_aload_n hX dX11_seamCount_0 rfl 0 rfl ?_
  refine J_callV hX km_X11_findSeams kl_RX11_181 dX11_seamCount_1 ka_0 (by decide) [] ⟨Nat.le_of_ble_eq_true rfl, Nat.le_of_ble_eq_true rfl⟩ rfl rfl (Nat.le_of_ble_eq_true rfl) (c_X11_findSeams m _ h) (fun v w2 hk => ?_)
  obtain ⟨m1, rfl, rfl, h⟩ := hk
  show J X (0, 0) 4 [(0, .ref (ad 0))] [] (fl ad m1)
  refine J_aload_n hX dX11_seamCount_4 rfl 0 rfl ?_
  refine J_getR hX kf_RX11_68 dX11_seamCount_5 ka_0 (by decide) rfl rh_0_10 ?_
  refine J_getI hX kf_RX11_275 dX11_seamCount_8 ka_268 (by decide) rfl ?_
  exact J_iret hX hR dX11_seamCount_11 ⟨_, _, rfl, rfl, h⟩
