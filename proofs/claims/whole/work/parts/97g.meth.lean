set_option maxRecDepth 100000 in
theorem tb_X12_findAll_l80 {X : XT} {ad : Nat → Nat} {K : Mm → Prop} (hX : Cx X cX12_findAll 4 RX12 (rmN 8 190)) (hR : Rx X none (kV ad K) (0, 0)) {rec : Int32 → Mm → Prop} {k18 : Int32 → Mm → Prop} (x1 : Int32) (x2 : Int32) (hrec : ∀ (x3 : Int32) (m : Mm), rec x3 m → J X (0, 0) 80 [(0, .ref (ad 426)), (1, .int x1), (2, .int x2), (3, .int x3)] [] (fl ad m)) (hk18 : ∀ (z2 : Int32) (m : Mm), k18 z2 m → J X (0, 0) 18 [(0, .ref (ad 426)), (1, .int x1), (2, .int z2)] [] (fl ad m)) (x3 : Int32) (m : Mm) (h : wb_X12_findAll_l80 rec k18 K x1 x2 x3 m) : J X (0, 0) 80 [(0, .ref (ad 426)), (1, .int x1), (2, .int x2), (3, .int x3)] [] (fl ad m) := by
  unfold wb_X12_findAll_l80 at h
  refine J_iload_n hX dX12_findAll_80 rfl 3 rfl ?_
  refine J_aload_n hX dX12_findAll_81 rfl 0 rfl ?_
  refine J_callV hX km_X12_many kl_RX12_83 dX12_findAll_82 ka_426 (by decide) [] ⟨Nat.le_of_ble_eq_true rfl, Nat.le_of_ble_eq_true rfl⟩ rfl rfl (Nat.le_of_ble_eq_true rfl) (c_X12_many m) (fun v w2 hk => ?_)
  obtain ⟨rfl, rfl⟩ := hk
  show J X (0, 0) 85 [(0, .ref (ad 426)), (1, .int x1), (2, .int x2), (3, .int x3)] [.int (v_X12_many m), .int x3] (fl ad m)
  refine J_icmp_ge (tgt := 152) hX dX12_findAll_85 (by decide) (fun c10 => ?_) (fun c10 => ?_)
  · replace h := Eq.mp (if_pos c10) h
    refine J_iinc (x := (x2 + (1 : Int32))) (lv2 := [(2, .int (x2 + (1 : Int32))), (0, .ref (ad 426)), (1, .int x1), (3, .int x3)]) hX dX12_findAll_152 2 rfl rfl (Nat.le_of_ble_eq_true rfl) rfl ?_
    refine J_goto (tgt := 18) hX dX12_findAll_155 (by decide) ?_
    exact J_sub [1, 2, 0] rfl (hk18 (x2 + (1 : Int32)) m h)
  · replace h := Eq.mp (if_neg c10) h
    refine J_aload_n hX dX12_findAll_88 rfl 0 rfl ?_
    refine J_iconst (v := (1 : Int32)) hX dX12_findAll_89 (by decide) ?_
    refine J_iload_n hX dX12_findAll_90 rfl 2 rfl ?_
    refine J_bipush (v := (-9 : Int32)) hX dX12_findAll_91 (by decide) ?_
    refine J_iload_n hX dX12_findAll_93 rfl 3 rfl ?_
    refine J_aload_n hX dX12_findAll_94 rfl 0 rfl ?_
    refine J_iload_n hX dX12_findAll_95 rfl 2 rfl ?_
    refine J_iload_n hX dX12_findAll_96 rfl 3 rfl ?_
    refine J_iload_n hX dX12_findAll_97 rfl 1 rfl ?_
    obtain ⟨b11, h⟩ := h
    refine J_callV hX km_X12_crossing kl_RX12_335 dX12_findAll_98 ka_426 (by decide) [.int x2, .int x3, .int x1] ⟨Nat.le_of_ble_eq_true rfl, Nat.le_of_ble_eq_true rfl⟩ rfl rfl (Nat.le_of_ble_eq_true rfl) (c_X12_crossing x2 x3 x1 m b11) (fun v w2 hk => ?_)
    obtain ⟨rfl, rfl⟩ := hk
    show J X (0, 0) 101 [(0, .ref (ad 426)), (1, .int x1), (2, .int x2), (3, .int x3)] [.int (v_X12_crossing x2 x3 x1 m), .int x3, .int (-9 : Int32), .int x2, .int (1 : Int32), .ref (ad 426)] (fl ad m)
    refine J_callV hX km_X12_finds kl_RX12_314 dX12_findAll_101 ka_426 (by decide) [.int (1 : Int32), .int x2, .int (-9 : Int32), .int x3, .int (v_X12_crossing x2 x3 x1 m)] ⟨Nat.le_of_ble_eq_true rfl, Nat.le_of_ble_eq_true rfl⟩ rfl rfl (Nat.le_of_ble_eq_true rfl) (c_X12_finds (1 : Int32) x2 (-9 : Int32) x3 (v_X12_crossing x2 x3 x1 m) m _ h) (fun v w2 hk => ?_)
    obtain ⟨m12, rfl, rfl, h⟩ := hk
    show J X (0, 0) 104 [(0, .ref (ad 426)), (1, .int x1), (2, .int x2), (3, .int x3)] [] (fl ad m12)
    refine J_aload_n hX dX12_findAll_104 rfl 0 rfl ?_
    refine J_iconst (v := (2 : Int32)) hX dX12_findAll_105 (by decide) ?_
    refine J_iload_n hX dX12_findAll_106 rfl 2 rfl ?_
    refine J_bipush (v := (-9 : Int32)) hX dX12_findAll_107 (by decide) ?_
    refine J_iload_n hX dX12_findAll_109 rfl 3 rfl ?_
    refine J_aload_n hX dX12_findAll_110 rfl 0 rfl ?_
    refine J_iload_n hX dX12_findAll_111 rfl 2 rfl ?_
    refine J_bipush (v := (6 : Int32)) hX dX12_findAll_112 (by decide) ?_
    obtain ⟨b13, h⟩ := h
    refine J_callV hX km_X12_of kl_RX12_91 dX12_findAll_114 ka_426 (by decide) [.int x2, .int (6 : Int32)] ⟨Nat.le_of_ble_eq_true rfl, Nat.le_of_ble_eq_true rfl⟩ rfl rfl (Nat.le_of_ble_eq_true rfl) (c_X12_of x2 (6 : Int32) m12 b13) (fun v w2 hk => ?_)
    obtain ⟨rfl, rfl⟩ := hk
    show J X (0, 0) 117 [(0, .ref (ad 426)), (1, .int x1), (2, .int x2), (3, .int x3)] [.int (v_X12_of x2 (6 : Int32) m12), .int x3, .int (-9 : Int32), .int x2, .int (2 : Int32), .ref (ad 426)] (fl ad m12)
    refine J_iload_n hX dX12_findAll_117 rfl 3 rfl ?_
    obtain ⟨g18, h⟩ := h
    have hj21 : ∀ y19 : Int32, y19 = (if (v_X12_of x2 (6 : Int32) m12) = x3 then (0 : Int32) else (if (v_X12_of x3 (6 : Int32) m12) = x2 then (0 : Int32) else (v_X12_doubled x2 x3 x1 m12))) → J X (0, 0) 143 [(0, .ref (ad 426)), (1, .int x1), (2, .int x2), (3, .int x3)] [.int y19, .int x3, .int (-9 : Int32), .int x2, .int (2 : Int32), .ref (ad 426)] (fl ad m12) := by
      intro y19 e_y19
      replace h := h y19 e_y19
      refine J_callV hX km_X12_finds kl_RX12_314 dX12_findAll_143 ka_426 (by decide) [.int (2 : Int32), .int x2, .int (-9 : Int32), .int x3, .int y19] ⟨Nat.le_of_ble_eq_true rfl, Nat.le_of_ble_eq_true rfl⟩ rfl rfl (Nat.le_of_ble_eq_true rfl) (c_X12_finds (2 : Int32) x2 (-9 : Int32) x3 y19 m12 _ h) (fun v w2 hk => ?_)
      obtain ⟨m20, rfl, rfl, h⟩ := hk
      show J X (0, 0) 146 [(0, .ref (ad 426)), (1, .int x1), (2, .int x2), (3, .int x3)] [] (fl ad m20)
      refine J_iinc (x := (x3 + (1 : Int32))) (lv2 := [(3, .int (x3 + (1 : Int32))), (0, .ref (ad 426)), (1, .int x1), (2, .int x2)]) hX dX12_findAll_146 3 rfl rfl (Nat.le_of_ble_eq_true rfl) rfl ?_
      refine J_goto (tgt := 80) hX dX12_findAll_149 (by decide) ?_
      exact J_sub [1, 2, 3, 0] rfl (hrec (x3 + (1 : Int32)) m20 h)
    have g22 := g18
    refine J_icmp_eq (tgt := 132) hX dX12_findAll_118 (by decide) (fun c14 => ?_) (fun c14 => ?_)
    · refine J_iconst (v := (0 : Int32)) hX dX12_findAll_132 (by decide) ?_
      refine J_goto (tgt := 143) hX dX12_findAll_133 (by decide) ?_
      exact J_sub [0, 1, 2, 3] rfl (hj21 _ (if_pos c14).symm)
    · have g23 := g22 c14
      obtain ⟨b15, g24⟩ := g23
      refine J_aload_n hX dX12_findAll_121 rfl 0 rfl ?_
      refine J_iload_n hX dX12_findAll_122 rfl 3 rfl ?_
      refine J_bipush (v := (6 : Int32)) hX dX12_findAll_123 (by decide) ?_
      refine J_callV hX km_X12_of kl_RX12_91 dX12_findAll_125 ka_426 (by decide) [.int x3, .int (6 : Int32)] ⟨Nat.le_of_ble_eq_true rfl, Nat.le_of_ble_eq_true rfl⟩ rfl rfl (Nat.le_of_ble_eq_true rfl) (c_X12_of x3 (6 : Int32) m12 b15) (fun v w2 hk => ?_)
      obtain ⟨rfl, rfl⟩ := hk
      show J X (0, 0) 128 [(0, .ref (ad 426)), (1, .int x1), (2, .int x2), (3, .int x3)] [.int (v_X12_of x3 (6 : Int32) m12), .int x3, .int (-9 : Int32), .int x2, .int (2 : Int32), .ref (ad 426)] (fl ad m12)
      refine J_iload_n hX dX12_findAll_128 rfl 2 rfl ?_
      refine J_icmp_ne (tgt := 136) hX dX12_findAll_129 (by decide) (fun c16 => ?_) (fun c16 => ?_)
      · have g25 := g24 c16
        have b17 := g25
        refine J_aload_n hX dX12_findAll_136 rfl 0 rfl ?_
        refine J_iload_n hX dX12_findAll_137 rfl 2 rfl ?_
        refine J_iload_n hX dX12_findAll_138 rfl 3 rfl ?_
        refine J_iload_n hX dX12_findAll_139 rfl 1 rfl ?_
        refine J_callV hX km_X12_doubled kl_RX12_253 dX12_findAll_140 ka_426 (by decide) [.int x2, .int x3, .int x1] ⟨Nat.le_of_ble_eq_true rfl, Nat.le_of_ble_eq_true rfl⟩ rfl rfl (Nat.le_of_ble_eq_true rfl) (c_X12_doubled x2 x3 x1 m12 b17) (fun v w2 hk => ?_)
        obtain ⟨rfl, rfl⟩ := hk
        show J X (0, 0) 143 [(0, .ref (ad 426)), (1, .int x1), (2, .int x2), (3, .int x3)] [.int (v_X12_doubled x2 x3 x1 m12), .int x3, .int (-9 : Int32), .int x2, .int (2 : Int32), .ref (ad 426)] (fl ad m12)
        exact J_sub [0, 1, 2, 3] rfl (hj21 _ ((if_neg c14).trans (if_neg c16)).symm)
      · refine J_iconst (v := (0 : Int32)) hX dX12_findAll_132 (by decide) ?_
        refine J_goto (tgt := 143) hX dX12_findAll_133 (by decide) ?_
        exact J_sub [0, 1, 2, 3] rfl (hj21 _ ((if_neg c14).trans (if_pos c16)).symm)
set_option maxRecDepth 100000 in
theorem t_X12_findAll_l80 {X : XT} {ad : Nat → Nat} {K : Mm → Prop} (hX : Cx X cX12_findAll 4 RX12 (rmN 8 190)) (hR : Rx X none (kV ad K) (0, 0)) {k18 : Int32 → Mm → Prop} (x1 : Int32) (x2 : Int32) (hk18 : ∀ (z2 : Int32) (m : Mm), k18 z2 m → J X (0, 0) 18 [(0, .ref (ad 426)), (1, .int x1), (2, .int z2)] [] (fl ad m)) : ∀ (n : Nat) (x3 : Int32) (m : Mm), wp_X12_findAll_l80 k18 K x1 x2 n x3 m → J X (0, 0) 80 [(0, .ref (ad 426)), (1, .int x1), (2, .int x2), (3, .int x3)] [] (fl ad m) := by
  intro n
  induction n with
  | zero => intro x3 m h; exact h.elim
  | succ n ih => intro x3 m h; exact tb_X12_findAll_l80 hX hR x1 x2 ih hk18 x3 m h
set_option maxRecDepth 100000 in
theorem t_X12_findAll_j76 {X : XT} {ad : Nat → Nat} {K : Mm → Prop} (hX : Cx X cX12_findAll 4 RX12 (rmN 8 190)) (hR : Rx X none (kV ad K) (0, 0)) {k18 : Int32 → Mm → Prop} (x1 : Int32) (x2 : Int32) (hk18 : ∀ (z2 : Int32) (m : Mm), k18 z2 m → J X (0, 0) 18 [(0, .ref (ad 426)), (1, .int x1), (2, .int z2)] [] (fl ad m)) (m : Mm) (h : wp_X12_findAll_j76 k18 K x1 x2 m) : J X (0, 0) 76 [(0, .ref (ad 426)), (1, .int x1), (2, .int x2)] [] (fl ad m) := by
  unfold wp_X12_findAll_j76 at h
  refine J_iload_n hX dX12_findAll_76 rfl 2 rfl ?_
  refine J_iconst (v := (1 : Int32)) hX dX12_findAll_77 (by decide) ?_
  refine J_iadd hX dX12_findAll_78 ?_
  refine J_nmI (fun y9 e_y9 => ?_)
  replace h := h y9 e_y9
  refine J_istore_n (lv2 := [(3, .int y9), (0, .ref (ad 426)), (1, .int x1), (2, .int x2)]) hX dX12_findAll_79 rfl (Nat.le_of_ble_eq_true rfl) rfl ?_
  refine J_sub [1, 2, 3, 0] rfl (t_X12_findAll_l80 hX hR x1 x2 hk18 FU y9 m h)
set_option maxRecDepth 100000 in
theorem tb_X12_findAll_l18 {X : XT} {ad : Nat → Nat} {K : Mm → Prop} (hX : Cx X cX12_findAll 4 RX12 (rmN 8 190)) (hR : Rx X none (kV ad K) (0, 0)) {rec : Int32 → Mm → Prop} {k158 : Mm → Prop} (x1 : Int32) (hrec : ∀ (x2 : Int32) (m : Mm), rec x2 m → J X (0, 0) 18 [(0, .ref (ad 426)), (1, .int x1), (2, .int x2)] [] (fl ad m)) (hk158 : ∀ (m : Mm), k158 m → J X (0, 0) 158 [(0, .ref (ad 426)), (1, .int x1)] [] (fl ad m)) (x2 : Int32) (m : Mm) (h : wb_X12_findAll_l18 rec k158 K x1 x2 m) : J X (0, 0) 18 [(0, .ref (ad 426)), (1, .int x1), (2, .int x2)] [] (fl ad m) := by
  unfold wb_X12_findAll_l18 at h
  refine J_iload_n hX dX12_findAll_18 rfl 2 rfl ?_
  refine J_aload_n hX dX12_findAll_19 rfl 0 rfl ?_
  refine J_callV hX km_X12_many kl_RX12_83 dX12_findAll_20 ka_426 (by decide) [] ⟨Nat.le_of_ble_eq_true rfl, Nat.le_of_ble_eq_true rfl⟩ rfl rfl (Nat.le_of_ble_eq_true rfl) (c_X12_many m) (fun v w2 hk => ?_)
  obtain ⟨rfl, rfl⟩ := hk
  show J X (0, 0) 23 [(0, .ref (ad 426)), (1, .int x1), (2, .int x2)] [.int (v_X12_many m), .int x2] (fl ad m)
  refine J_icmp_ge (tgt := 158) hX dX12_findAll_23 (by decide) (fun c5 => ?_) (fun c5 => ?_)
  · replace h := Eq.mp (if_pos c5) h
    exact J_sub [0, 1] rfl (hk158 m h)
  · replace h := Eq.mp (if_neg c5) h
    refine J_aload_n hX dX12_findAll_26 rfl 0 rfl ?_
    refine J_iload_n hX dX12_findAll_27 rfl 2 rfl ?_
    refine J_iload_n hX dX12_findAll_28 rfl 1 rfl ?_
    refine J_callV hX km_X12_findSides kl_RX12_326 dX12_findAll_29 ka_426 (by decide) [.int x2, .int x1] ⟨Nat.le_of_ble_eq_true rfl, Nat.le_of_ble_eq_true rfl⟩ rfl rfl (Nat.le_of_ble_eq_true rfl) (c_X12_findSides x2 x1 m _ h) (fun v w2 hk => ?_)
    obtain ⟨m6, rfl, rfl, h⟩ := hk
    show J X (0, 0) 32 [(0, .ref (ad 426)), (1, .int x1), (2, .int x2)] [] (fl ad m6)
    refine J_aload_n hX dX12_findAll_32 rfl 0 rfl ?_
    refine J_iload_n hX dX12_findAll_33 rfl 2 rfl ?_
    refine J_callV hX km_X12_findInk kl_RX12_329 dX12_findAll_34 ka_426 (by decide) [.int x2] ⟨Nat.le_of_ble_eq_true rfl, Nat.le_of_ble_eq_true rfl⟩ rfl rfl (Nat.le_of_ble_eq_true rfl) (c_X12_findInk x2 m6 _ h) (fun v w2 hk => ?_)
    obtain ⟨m7, rfl, rfl, h⟩ := hk
    show J X (0, 0) 37 [(0, .ref (ad 426)), (1, .int x1), (2, .int x2)] [] (fl ad m7)
    refine J_iload_n hX dX12_findAll_37 rfl 2 rfl ?_
    refine J_if_le (tgt := 76) hX dX12_findAll_38 (by decide) (fun c8 => ?_) (fun c8 => ?_)
    · replace h := Eq.mp (if_pos c8) h
      exact J_sub [0, 1, 2] rfl (t_X12_findAll_j76 hX hR x1 x2 hrec m7 h)
    · replace h := Eq.mp (if_neg c8) h
      refine J_aload_n hX dX12_findAll_41 rfl 0 rfl ?_
      refine J_iload_n hX dX12_findAll_42 rfl 2 rfl ?_
      obtain ⟨b26, h⟩ := h
      refine J_callV hX km_X12_isFlap kl_RX12_302 dX12_findAll_43 ka_426 (by decide) [.int x2] ⟨Nat.le_of_ble_eq_true rfl, Nat.le_of_ble_eq_true rfl⟩ rfl rfl (Nat.le_of_ble_eq_true rfl) (c_X12_isFlap x2 m7 b26) (fun v w2 hk => ?_)
      obtain ⟨rfl, rfl⟩ := hk
      show J X (0, 0) 46 [(0, .ref (ad 426)), (1, .int x1), (2, .int x2)] [.int (v_X12_isFlap x2 m7)] (fl ad m7)
      refine J_if_eq (tgt := 76) hX dX12_findAll_46 (by decide) (fun c27 => ?_) (fun c27 => ?_)
      · replace h := Eq.mp (if_pos c27) h
        exact J_sub [0, 1, 2] rfl (t_X12_findAll_j76 hX hR x1 x2 hrec m7 h)
      · replace h := Eq.mp (if_neg c27) h
        refine J_aload_n hX dX12_findAll_49 rfl 0 rfl ?_
        refine J_iconst (v := (3 : Int32)) hX dX12_findAll_50 (by decide) ?_
        refine J_iload_n hX dX12_findAll_51 rfl 2 rfl ?_
        refine J_bipush (v := (-9 : Int32)) hX dX12_findAll_52 (by decide) ?_
        refine J_aload_n hX dX12_findAll_54 rfl 0 rfl ?_
        refine J_iload_n hX dX12_findAll_55 rfl 2 rfl ?_
        refine J_bipush (v := (6 : Int32)) hX dX12_findAll_56 (by decide) ?_
        obtain ⟨b28, h⟩ := h
        refine J_callV hX km_X12_of kl_RX12_91 dX12_findAll_58 ka_426 (by decide) [.int x2, .int (6 : Int32)] ⟨Nat.le_of_ble_eq_true rfl, Nat.le_of_ble_eq_true rfl⟩ rfl rfl (Nat.le_of_ble_eq_true rfl) (c_X12_of x2 (6 : Int32) m7 b28) (fun v w2 hk => ?_)
        obtain ⟨rfl, rfl⟩ := hk
        show J X (0, 0) 61 [(0, .ref (ad 426)), (1, .int x1), (2, .int x2)] [.int (v_X12_of x2 (6 : Int32) m7), .int (-9 : Int32), .int x2, .int (3 : Int32), .ref (ad 426)] (fl ad m7)
        refine J_aload_n hX dX12_findAll_61 rfl 0 rfl ?_
        refine J_iconst (v := (3 : Int32)) hX dX12_findAll_62 (by decide) ?_
        obtain ⟨b29, h⟩ := h
        refine J_callV hX km_X12_limitOf kl_RX12_293 dX12_findAll_63 ka_426 (by decide) [.int (3 : Int32)] ⟨Nat.le_of_ble_eq_true rfl, Nat.le_of_ble_eq_true rfl⟩ rfl rfl (Nat.le_of_ble_eq_true rfl) (c_X12_limitOf (3 : Int32) m7 b29) (fun v w2 hk => ?_)
        obtain ⟨rfl, rfl⟩ := hk
        show J X (0, 0) 66 [(0, .ref (ad 426)), (1, .int x1), (2, .int x2)] [.int (v_X12_limitOf (3 : Int32) m7), .int (v_X12_of x2 (6 : Int32) m7), .int (-9 : Int32), .int x2, .int (3 : Int32), .ref (ad 426)] (fl ad m7)
        refine J_aload_n hX dX12_findAll_66 rfl 0 rfl ?_
        refine J_iload_n hX dX12_findAll_67 rfl 2 rfl ?_
        refine J_iload_n hX dX12_findAll_68 rfl 1 rfl ?_
        refine J_callV hX km_X12_covered kl_RX12_332 dX12_findAll_69 ka_426 (by decide) [.int x2, .int x1] ⟨Nat.le_of_ble_eq_true rfl, Nat.le_of_ble_eq_true rfl⟩ rfl rfl (Nat.le_of_ble_eq_true rfl) (c_X12_covered x2 x1 m7 _ h) (fun v w2 hk => ?_)
        obtain ⟨y31, m30, rfl, rfl, h⟩ := hk
        show J X (0, 0) 72 [(0, .ref (ad 426)), (1, .int x1), (2, .int x2)] [.int y31, .int (v_X12_limitOf (3 : Int32) m7), .int (v_X12_of x2 (6 : Int32) m7), .int (-9 : Int32), .int x2, .int (3 : Int32), .ref (ad 426)] (fl ad m30)
        refine J_isub hX dX12_findAll_72 ?_
        refine J_callV hX km_X12_finds kl_RX12_314 dX12_findAll_73 ka_426 (by decide) [.int (3 : Int32), .int x2, .int (-9 : Int32), .int (v_X12_of x2 (6 : Int32) m7), .int ((v_X12_limitOf (3 : Int32) m7) - y31)] ⟨Nat.le_of_ble_eq_true rfl, Nat.le_of_ble_eq_true rfl⟩ rfl rfl (Nat.le_of_ble_eq_true rfl) (c_X12_finds (3 : Int32) x2 (-9 : Int32) (v_X12_of x2 (6 : Int32) m7) ((v_X12_limitOf (3 : Int32) m7) - y31) m30 _ h) (fun v w2 hk => ?_)
        obtain ⟨m32, rfl, rfl, h⟩ := hk
        show J X (0, 0) 76 [(0, .ref (ad 426)), (1, .int x1), (2, .int x2)] [] (fl ad m32)
        exact J_sub [0, 1, 2] rfl (t_X12_findAll_j76 hX hR x1 x2 hrec m32 h)
set_option maxRecDepth 100000 in
theorem t_X12_findAll_l18 {X : XT} {ad : Nat → Nat} {K : Mm → Prop} (hX : Cx X cX12_findAll 4 RX12 (rmN 8 190)) (hR : Rx X none (kV ad K) (0, 0)) {k158 : Mm → Prop} (x1 : Int32) (hk158 : ∀ (m : Mm), k158 m → J X (0, 0) 158 [(0, .ref (ad 426)), (1, .int x1)] [] (fl ad m)) : ∀ (n : Nat) (x2 : Int32) (m : Mm), wp_X12_findAll_l18 k158 K x1 n x2 m → J X (0, 0) 18 [(0, .ref (ad 426)), (1, .int x1), (2, .int x2)] [] (fl ad m) := by
  intro n
  induction n with
  | zero => intro x2 m h; exact h.elim
  | succ n ih => intro x2 m h; exact tb_X12_findAll_l18 hX hR x1 ih hk158 x2 m h
set_option maxRecDepth 100000 in
theorem tb_X12_findAll_l160 {X : XT} {ad : Nat → Nat} {K : Mm → Prop} (hX : Cx X cX12_findAll 4 RX12 (rmN 8 190)) (hR : Rx X none (kV ad K) (0, 0)) {rec : Int32 → Mm → Prop} (x1 : Int32) (hrec : ∀ (x2 : Int32) (m : Mm), rec x2 m → J X (0, 0) 160 [(0, .ref (ad 426)), (1, .int x1), (2, .int x2)] [] (fl ad m)) (x2 : Int32) (m : Mm) (h : wb_X12_findAll_l160 rec K x1 x2 m) : J X (0, 0) 160 [(0, .ref (ad 426)), (1, .int x1), (2, .int x2)] [] (fl ad m) := by
  unfold wb_X12_findAll_l160 at h
  refine J_iload_n hX dX12_findAll_160 rfl 2 rfl ?_
  refine J_aload_n hX dX12_findAll_161 rfl 0 rfl ?_
  refine J_getI hX kf_RX12_243 dX12_findAll_162 ka_426 (by decide) rfl ?_
  refine J_icmp_ge (tgt := 227) hX dX12_findAll_165 (by decide) (fun c34 => ?_) (fun c34 => ?_)
  · replace h := Eq.mp (if_pos c34) h
    exact J_vret hX hR dX12_findAll_227 ⟨_, rfl, rfl, h⟩
  · replace h := Eq.mp (if_neg c34) h
    refine J_aload_n hX dX12_findAll_168 rfl 0 rfl ?_
    refine J_iload_n hX dX12_findAll_169 rfl 2 rfl ?_
    refine J_callV hX km_X12_mismatch kl_RX12_338 dX12_findAll_170 ka_426 (by decide) [.int x2] ⟨Nat.le_of_ble_eq_true rfl, Nat.le_of_ble_eq_true rfl⟩ rfl rfl (Nat.le_of_ble_eq_true rfl) (c_X12_mismatch x2 m _ h) (fun v w2 hk => ?_)
    obtain ⟨y36, m35, rfl, rfl, h⟩ := hk
    show J X (0, 0) 173 [(0, .ref (ad 426)), (1, .int x1), (2, .int x2)] [.int y36] (fl ad m35)
    refine J_istore_n (lv2 := [(3, .int y36), (0, .ref (ad 426)), (1, .int x1), (2, .int x2)]) hX dX12_findAll_173 rfl (Nat.le_of_ble_eq_true rfl) rfl ?_
    refine J_aload_n hX dX12_findAll_174 rfl 1 rfl ?_
    refine J_bipush (v := (7 : Int32)) hX dX12_findAll_175 (by decide) ?_
    refine J_aload_n hX dX12_findAll_177 rfl 1 rfl ?_
    refine J_getR hX kf_RX12_68 dX12_findAll_178 ka_426 (by decide) rfl rh_426_24 ?_
    refine J_bipush (v := (9 : Int32)) hX dX12_findAll_181 (by decide) ?_
    refine J_iload_n hX dX12_findAll_183 rfl 3 rfl ?_
    refine J_imul hX dX12_findAll_184 ?_
    obtain ⟨b37, h⟩ := h
    refine J_iald (j := ((9 : Int32) * x2).toNatClampNeg) hX dX12_findAll_185 ka_446 le_446 b37 rfl ?_
    refine J_aload_n hX dX12_findAll_186 rfl 1 rfl ?_
    refine J_getR hX kf_RX12_68 dX12_findAll_187 ka_426 (by decide) rfl rh_426_24 ?_
    refine J_bipush (v := (9 : Int32)) hX dX12_findAll_190 (by decide) ?_
    refine J_iload_n hX dX12_findAll_192 rfl 3 rfl ?_
    refine J_imul hX dX12_findAll_193 ?_
    refine J_iconst (v := (1 : Int32)) hX dX12_findAll_194 (by decide) ?_
    refine J_iadd hX dX12_findAll_195 ?_
    obtain ⟨b38, h⟩ := h
    refine J_iald (j := (((9 : Int32) * x2) + (1 : Int32)).toNatClampNeg) hX dX12_findAll_196 ka_446 le_446 b38 rfl ?_
    refine J_aload_n hX dX12_findAll_197 rfl 1 rfl ?_
    refine J_getR hX kf_RX12_68 dX12_findAll_198 ka_426 (by decide) rfl rh_426_24 ?_
    refine J_bipush (v := (9 : Int32)) hX dX12_findAll_201 (by decide) ?_
    refine J_iload_n hX dX12_findAll_203 rfl 3 rfl ?_
    refine J_imul hX dX12_findAll_204 ?_
    refine J_iconst (v := (2 : Int32)) hX dX12_findAll_205 (by decide) ?_
    refine J_iadd hX dX12_findAll_206 ?_
    obtain ⟨b39, h⟩ := h
    refine J_iald (j := (((9 : Int32) * x2) + (2 : Int32)).toNatClampNeg) hX dX12_findAll_207 ka_446 le_446 b39 rfl ?_
    refine J_iload_n hX dX12_findAll_208 rfl 0 rfl ?_
    refine J_iload_n hX dX12_findAll_209 rfl 2 rfl ?_
    have hj43 : ∀ y41 : Int32, y41 = (if y36 ≤ x1 then (0 : Int32) else y36) → J X (0, 0) 218 [(0, .ref (ad 426)), (1, .int x1), (2, .int x2)] [.int y41, .int (m35.1 446 (((9 : Int32) * x2) + (2 : Int32)).toNatClampNeg), .int (m35.1 446 (((9 : Int32) * x2) + (1 : Int32)).toNatClampNeg), .int (m35.1 446 ((9 : Int32) * x2).toNatClampNeg), .int (7 : Int32), .ref (ad 426)] (fl ad m35) := by
      intro y41 e_y41
      replace h := h y41 e_y41
      refine J_callV hX km_X12_finds kl_RX12_314 dX12_findAll_218 ka_426 (by decide) [.int (7 : Int32), .int (m35.1 446 ((9 : Int32) * x2).toNatClampNeg), .int (m35.1 446 (((9 : Int32) * x2) + (1 : Int32)).toNatClampNeg), .int (m35.1 446 (((9 : Int32) * x2) + (2 : Int32)).toNatClampNeg), .int y41] ⟨Nat.le_of_ble_eq_true rfl, Nat.le_of_ble_eq_true rfl⟩ rfl rfl (Nat.le_of_ble_eq_true rfl) (c_X12_finds (7 : Int32) (m35.1 446 ((9 : Int32) * x2).toNatClampNeg) (m35.1 446 (((9 : Int32) * x2) + (1 : Int32)).toNatClampNeg) (m35.1 446 (((9 : Int32) * x2) + (2 : Int32)).toNatClampNeg) y41 m35 _ h) (fun v w2 hk => ?_)
      obtain ⟨m42, rfl, rfl, h⟩ := hk
      show J X (0, 0) 221 [(0, .ref (ad 426)), (1, .int x1), (2, .int x2)] [] (fl ad m42)
      refine J_iinc (x := (x2 + (1 : Int32))) (lv2 := [(2, .int (x2 + (1 : Int32))), (0, .ref (ad 426)), (1, .int x1)]) hX dX12_findAll_221 2 rfl rfl (Nat.le_of_ble_eq_true rfl) rfl ?_
      refine J_goto (tgt := 160) hX dX12_findAll_224 (by decide) ?_
      exact J_sub [1, 2, 0] rfl (hrec (x2 + (1 : Int32)) m42 h)
    refine J_icmp_le (tgt := 217) hX dX12_findAll_210 (by decide) (fun c40 => ?_) (fun c40 => ?_)
    · refine J_iconst (v := (0 : Int32)) hX dX12_findAll_217 (by decide) ?_
      exact J_sub [1, 2, 3] rfl (hj43 _ (if_pos c40).symm)
    · refine J_iload_n hX dX12_findAll_213 rfl 0 rfl ?_
      refine J_goto (tgt := 218) hX dX12_findAll_214 (by decide) ?_
      exact J_sub [1, 2, 3] rfl (hj43 _ (if_neg c40).symm)
set_option maxRecDepth 100000 in
theorem t_X12_findAll_l160 {X : XT} {ad : Nat → Nat} {K : Mm → Prop} (hX : Cx X cX12_findAll 4 RX12 (rmN 8 190)) (hR : Rx X none (kV ad K) (0, 0)) (x1 : Int32) : ∀ (n : Nat) (x2 : Int32) (m : Mm), wp_X12_findAll_l160 K x1 n x2 m → J X (0, 0) 160 [(0, .ref (ad 426)), (1, .int x1), (2, .int x2)] [] (fl ad m) := by
  intro n
  induction n with
  | zero => intro x2 m h; exact h.elim
  | succ n ih => intro x2 m h; exact tb_X12_findAll_l160 hX hR x1 ih x2 m h
set_option maxRecDepth 100000 in
theorem c_X12_findAll {G : GT} {ad : Nat → Nat} (m : Mm) (K : Mm → Prop) (h : wp_X12_findAll m K) : Cn G yX12_findAll cX12_findAll 4 none (rmN 8 190) [.ref (ad 426)] (0, 0) (fl ad m) (kV ad K) := by
  unfold wp_X12_findAll at h
  refine Cn.of pn_RX12 (Nat.le_of_ble_eq_true rfl) (fun X hG hX hR => ?_)
  subst hG
  have hX : Cx X cX12_findAll 4 RX12 (rmN 8 190) := hX
  show J X (0, 0) 0 [(0, .ref (ad 426))] [] (fl ad m)
  refine J_aload_n hX dX12_findAll_0 rfl 0 rfl ?_
  refine J_iconst (v := (0 : Int32)) hX dX12_findAll_1 (by decide) ?_
  obtain ⟨b1, h⟩ := h
  refine J_callV hX km_X12_limitOf kl_RX12_293 dX12_findAll_2 ka_426 (by decide) [.int (0 : Int32)] ⟨Nat.le_of_ble_eq_true rfl, Nat.le_of_ble_eq_true rfl⟩ rfl rfl (Nat.le_of_ble_eq_true rfl) (c_X12_limitOf (0 : Int32) m b1) (fun v w2 hk => ?_)
  obtain ⟨rfl, rfl⟩ := hk
  show J X (0, 0) 5 [(0, .ref (ad 426))] [.int (v_X12_limitOf (0 : Int32) m)] (fl ad m)
  refine J_nmI (fun y2 e_y2 => ?_)
  replace h := h y2 e_y2
  refine J_istore_n (lv2 := [(1, .int y2), (0, .ref (ad 426))]) hX dX12_findAll_5 rfl (Nat.le_of_ble_eq_true rfl) rfl ?_
  refine J_aload_n hX dX12_findAll_6 rfl 1 rfl ?_
  refine J_iload_n hX dX12_findAll_7 rfl 0 rfl ?_
  refine J_callV hX km_X12_findSeams kl_RX12_296 dX12_findAll_8 ka_426 (by decide) [.int y2] ⟨Nat.le_of_ble_eq_true rfl, Nat.le_of_ble_eq_true rfl⟩ rfl rfl (Nat.le_of_ble_eq_true rfl) (c_X12_findSeams y2 m _ h) (fun v w2 hk => ?_)
  obtain ⟨m3, rfl, rfl, h⟩ := hk
  show J X (0, 0) 11 [(1, .int y2), (0, .ref (ad 426))] [] (fl ad m3)
  refine J_aload_n hX dX12_findAll_11 rfl 1 rfl ?_
  refine J_iconst (v := (0 : Int32)) hX dX12_findAll_12 (by decide) ?_
  refine J_putI hX kf_RX12_308 dX12_findAll_13 ka_426 (by decide) rfl ?_
  refine J_nmM (fun m4 e_m4 => ?_)
  replace h := h m4 e_m4
  refine J_iconst (v := (0 : Int32)) hX dX12_findAll_16 (by decide) ?_
  refine J_istore_n (lv2 := [(2, .int (0 : Int32)), (1, .int y2), (0, .ref (ad 426))]) hX dX12_findAll_17 rfl (Nat.le_of_ble_eq_true rfl) rfl ?_
  refine J_sub [2, 1, 0] rfl (t_X12_findAll_l18 hX hR y2 (fun m33 h => ?_) FU (0 : Int32) m4 h)
  refine J_iconst (v := (0 : Int32)) hX dX12_findAll_158 (by decide) ?_
  refine J_istore_n (lv2 := [(2, .int (0 : Int32)), (0, .ref (ad 426)), (1, .int y2)]) hX dX12_findAll_159 rfl (Nat.le_of_ble_eq_true rfl) rfl ?_
  refine J_sub [1, 2, 0] rfl (t_X12_findAll_l160 hX hR y2 FU (0 : Int32) m33 h)
set_option maxRecDepth 100000 in
theorem tb_X12_costs_l9 {X : XT} {ad : Nat → Nat} {K : Int64 → Mm → Prop} (hX : Cx X cX12_costs 5 RX12 (rmN 9 213)) (hR : Rx X (some .long) (kL ad K) (0, 0)) {rec : Int64 → Int32 → Mm → Prop} {k76 : Int64 → Mm → Prop} (x1 : Int32) (hrec : ∀ (x2 : Int64) (x4 : Int32) (m : Mm), rec x2 x4 m → J X (0, 0) 9 [(0, .ref (ad 426)), (1, .int x1), (2, .long x2), (4, .int x4)] [] (fl ad m)) (hk76 : ∀ (z2 : Int64) (m : Mm), k76 z2 m → J X (0, 0) 76 [(2, .long z2)] [] (fl ad m)) (x2 : Int64) (x4 : Int32) (m : Mm) (h : wb_X12_costs_l9 rec k76 K x1 x2 x4 m) : J X (0, 0) 9 [(0, .ref (ad 426)), (1, .int x1), (2, .long x2), (4, .int x4)] [] (fl ad m) := by
  unfold wb_X12_costs_l9 at h
  refine J_iload hX dX12_costs_9 3 rfl ?_
  refine J_bipush (v := (6 : Int32)) hX dX12_costs_11 (by decide) ?_
  refine J_aload_n hX dX12_costs_13 rfl 0 rfl ?_
  refine J_getI hX kf_RX12_308 dX12_costs_14 ka_426 (by decide) rfl ?_
  refine J_imul hX dX12_costs_17 ?_
  refine J_icmp_ge (tgt := 76) hX dX12_costs_18 (by decide) (fun c2 => ?_) (fun c2 => ?_)
  · replace h := Eq.mp (if_pos c2) h
    exact J_sub [2] rfl (hk76 x2 m h)
  · replace h := Eq.mp (if_neg c2) h
    refine J_lload_n hX dX12_costs_21 rfl 2 rfl ?_
    refine J_iload_n hX dX12_costs_22 rfl 1 rfl ?_
    refine J_bipush (v := (-9 : Int32)) hX dX12_costs_23 (by decide) ?_
    obtain ⟨g11, h⟩ := h
    have hj14 : ∀ y12 : Int64, y12 = (if x1 = (-9 : Int32) then (m.1 447 (x4 + (5 : Int32)).toNatClampNeg).toInt64 else (if (m.1 447 (x4 + (1 : Int32)).toNatClampNeg) = x1 then (m.1 447 (x4 + (5 : Int32)).toNatClampNeg).toInt64 else (if (m.1 447 (x4 + (3 : Int32)).toNatClampNeg) = x1 then (m.1 447 (x4 + (5 : Int32)).toNatClampNeg).toInt64 else (0 : Int64)))) → J X (0, 0) 68 [(0, .ref (ad 426)), (1, .int x1), (4, .int x4)] [.long y12, .long x2] (fl ad m) := by
      intro y12 e_y12
      replace h := h y12 e_y12
      refine J_ladd hX dX12_costs_68 ?_
      refine J_nmL (fun y13 e_y13 => ?_)
      replace h := h y13 e_y13
      refine J_lstore_n (lv2 := [(2, .long y13), (0, .ref (ad 426)), (1, .int x1), (4, .int x4)]) hX dX12_costs_69 rfl (Nat.le_of_ble_eq_true rfl) rfl ?_
      refine J_iinc (x := (x4 + (6 : Int32))) (lv2 := [(4, .int (x4 + (6 : Int32))), (2, .long y13), (0, .ref (ad 426)), (1, .int x1)]) hX dX12_costs_70 3 rfl rfl (Nat.le_of_ble_eq_true rfl) rfl ?_
      refine J_goto (tgt := 9) hX dX12_costs_73 (by decide) ?_
      exact J_sub [2, 3, 1, 0] rfl (hrec y13 (x4 + (6 : Int32)) m h)
    obtain ⟨g15, g16⟩ := g11
    refine J_icmp_eq (tgt := 54) hX dX12_costs_25 (by decide) (fun c3 => ?_) (fun c3 => ?_)
    · have g17 := g15 c3
      have b4 := g17
      refine J_aload_n hX dX12_costs_54 rfl 0 rfl ?_
      refine J_getR hX kf_RX12_71 dX12_costs_55 ka_426 (by decide) rfl rh_426_26 ?_
      refine J_iload hX dX12_costs_58 3 rfl ?_
      refine J_iconst (v := (5 : Int32)) hX dX12_costs_60 (by decide) ?_
      refine J_iadd hX dX12_costs_61 ?_
      refine J_iald (j := (x4 + (5 : Int32)).toNatClampNeg) hX dX12_costs_62 ka_447 le_447 b4 rfl ?_
      refine J_i2l hX dX12_costs_63 ?_
      refine J_goto (tgt := 68) hX dX12_costs_64 (by decide) ?_
      exact J_sub [0, 1, 3] rfl (hj14 _ (if_pos c3).symm)
    · have g18 := g16 c3
      obtain ⟨b5, g19, g20⟩ := g18
      refine J_aload_n hX dX12_costs_28 rfl 0 rfl ?_
      refine J_getR hX kf_RX12_71 dX12_costs_29 ka_426 (by decide) rfl rh_426_26 ?_
      refine J_iload hX dX12_costs_32 3 rfl ?_
      refine J_iconst (v := (1 : Int32)) hX dX12_costs_34 (by decide) ?_
      refine J_iadd hX dX12_costs_35 ?_
      refine J_iald (j := (x4 + (1 : Int32)).toNatClampNeg) hX dX12_costs_36 ka_447 le_447 b5 rfl ?_
      refine J_iload_n hX dX12_costs_37 rfl 1 rfl ?_
      refine J_icmp_eq (tgt := 54) hX dX12_costs_38 (by decide) (fun c6 => ?_) (fun c6 => ?_)
      · have g21 := g19 c6
        have b7 := g21
        refine J_aload_n hX dX12_costs_54 rfl 0 rfl ?_
        refine J_getR hX kf_RX12_71 dX12_costs_55 ka_426 (by decide) rfl rh_426_26 ?_
        refine J_iload hX dX12_costs_58 3 rfl ?_
        refine J_iconst (v := (5 : Int32)) hX dX12_costs_60 (by decide) ?_
        refine J_iadd hX dX12_costs_61 ?_
        refine J_iald (j := (x4 + (5 : Int32)).toNatClampNeg) hX dX12_costs_62 ka_447 le_447 b7 rfl ?_
        refine J_i2l hX dX12_costs_63 ?_
        refine J_goto (tgt := 68) hX dX12_costs_64 (by decide) ?_
        exact J_sub [0, 1, 3] rfl (hj14 _ ((if_neg c3).trans (if_pos c6)).symm)
      · have g22 := g20 c6
        obtain ⟨b8, g23⟩ := g22
        refine J_aload_n hX dX12_costs_41 rfl 0 rfl ?_
        refine J_getR hX kf_RX12_71 dX12_costs_42 ka_426 (by decide) rfl rh_426_26 ?_
        refine J_iload hX dX12_costs_45 3 rfl ?_
        refine J_iconst (v := (3 : Int32)) hX dX12_costs_47 (by decide) ?_
        refine J_iadd hX dX12_costs_48 ?_
        refine J_iald (j := (x4 + (3 : Int32)).toNatClampNeg) hX dX12_costs_49 ka_447 le_447 b8 rfl ?_
        refine J_iload_n hX dX12_costs_50 rfl 1 rfl ?_
        refine J_icmp_ne (tgt := 67) hX dX12_costs_51 (by decide) (fun c9 => ?_) (fun c9 => ?_)
        · refine J_lconst (v := (0 : Int64)) hX dX12_costs_67 (by decide) ?_
          exact J_sub [0, 1, 3] rfl (hj14 _ ((if_neg c3).trans ((if_neg c6).trans (if_neg c9))).symm)
        · have g24 := g23 c9
          have b10 := g24
          refine J_aload_n hX dX12_costs_54 rfl 0 rfl ?_
          refine J_getR hX kf_RX12_71 dX12_costs_55 ka_426 (by decide) rfl rh_426_26 ?_
          refine J_iload hX dX12_costs_58 3 rfl ?_
          refine J_iconst (v := (5 : Int32)) hX dX12_costs_60 (by decide) ?_
          refine J_iadd hX dX12_costs_61 ?_
          refine J_iald (j := (x4 + (5 : Int32)).toNatClampNeg) hX dX12_costs_62 ka_447 le_447 b10 rfl ?_
          refine J_i2l hX dX12_costs_63 ?_
          refine J_goto (tgt := 68) hX dX12_costs_64 (by decide) ?_
          exact J_sub [0, 1, 3] rfl (hj14 _ ((if_neg c3).trans ((if_neg c6).trans (if_pos c9))).symm)
set_option maxRecDepth 100000 in
theorem t_X12_costs_l9 {X : XT} {ad : Nat → Nat} {K : Int64 → Mm → Prop} (hX : Cx X cX12_costs 5 RX12 (rmN 9 213)) (hR : Rx X (some .long) (kL ad K) (0, 0)) {k76 : Int64 → Mm → Prop} (x1 : Int32) (hk76 : ∀ (z2 : Int64) (m : Mm), k76 z2 m → J X (0, 0) 76 [(2, .long z2)] [] (fl ad m)) : ∀ (n : Nat) (x2 : Int64) (x4 : Int32) (m : Mm), wp_X12_costs_l9 k76 K x1 n x2 x4 m → J X (0, 0) 9 [(0, .ref (ad 426)), (1, .int x1), (2, .long x2), (4, .int x4)] [] (fl ad m) := by
  intro n
  induction n with
  | zero => intro x2 x4 m h; exact h.elim
  | succ n ih => intro x2 x4 m h; exact tb_X12_costs_l9 hX hR x1 ih hk76 x2 x4 m h
set_option maxRecDepth 100000 in
theorem c_X12_costs {G : GT} {ad : Nat → Nat} (x1 : Int32) (m : Mm) (K : Int64 → Mm → Prop) (h : wp_X12_costs x1 m K) : Cn G yX12_costs cX12_costs 5 (some .long) (rmN 9 213) [.ref (ad 426), .int x1] (0, 0) (fl ad m) (kL ad K) := by
  unfold wp_X12_costs at h
  refine Cn.of pn_RX12 (Nat.le_of_ble_eq_true rfl) (fun X hG hX hR => ?_)
  subst hG
  have hX : Cx X cX12_costs 5 RX12 (rmN 9 213) := hX
  show J X (0, 0) 0 [(0, .ref (ad 426)), (1, .int x1)] [] (fl ad m)
  refine J_aload_n hX dX12_costs_0 rfl 0 rfl ?_
  refine J_callV hX km_X12_findAll kl_RX12_341 dX12_costs_1 ka_426 (by decide) [] ⟨Nat.le_of_ble_eq_true rfl, Nat.le_of_ble_eq_true rfl⟩ rfl rfl (Nat.le_of_ble_eq_true rfl) (c_X12_findAll m _ h) (fun v w2 hk => ?_)
  obtain ⟨m1, rfl, rfl, h⟩ := hk
  show J X (0, 0) 4 [(0, .ref (ad 426)), (1, .int x1)] [] (fl ad m1)
  refine J_lconst (v := (0 : Int64)) hX dX12_costs_4 (by decide) ?_
  refine J_lstore_n (lv2 := [(2, .long (0 : Int64)), (0, .ref (ad 426)), (1, .int x1)]) hX dX12_costs_5 rfl (Nat.le_of_ble_eq_true rfl) rfl ?_
  refine J_iconst (v := (0 : Int32)) hX dX12_costs_6 (by decide) ?_
  refine J_istore (lv2 := [(4, .int (0 : Int32)), (2, .long (0 : Int64)), (0, .ref (ad 426)), (1, .int x1)]) hX dX12_costs_7 (Nat.le_of_ble_eq_true rfl) rfl ?_
  refine J_sub [2, 3, 1, 0] rfl (t_X12_costs_l9 hX hR x1 (fun y25 m26 h => ?_) FU (0 : Int64) (0 : Int32) m1 h)
  refine J_lload_n hX dX12_costs_76 rfl 0 rfl ?_
  exact J_lret hX hR dX12_costs_77 ⟨_, _, rfl, rfl, h⟩
set_option maxRecDepth 100000 in
theorem tb_X12_bestAngle_l30 {X : XT} {ad : Nat → Nat} {K : Int32 → Mm → Prop} (hX : Cx X cX12_bestAngle 9 RX12 (rmN 10 237)) (hR : Rx X (some .int) (kI ad K) (0, 0)) {rec : Int32 → Int64 → Int32 → Mm → Prop} {k73 : Int32 → Mm → Prop} (x1 : Int32) (x2 : Int32) (hrec : ∀ (x3 : Int32) (x4 : Int64) (x6 : Int32) (m : Mm), rec x3 x4 x6 m → J X (0, 0) 30 [(0, .ref (ad 426)), (1, .int x1), (2, .int x2), (3, .int x3), (4, .long x4), (6, .int x6)] [] (fl ad m)) (hk73 : ∀ (z3 : Int32) (m : Mm), k73 z3 m → J X (0, 0) 73 [(0, .ref (ad 426)), (1, .int x1), (2, .int x2), (3, .int z3)] [] (fl ad m)) (x3 : Int32) (x4 : Int64) (x6 : Int32) (m : Mm) (h : wb_X12_bestAngle_l30 rec k73 K x1 x2 x3 x4 x6 m) : J X (0, 0) 30 [(0, .ref (ad 426)), (1, .int x1), (2, .int x2), (3, .int x3), (4, .long x4), (6, .int x6)] [] (fl ad m) := by
  unfold wb_X12_bestAngle_l30 at h
  refine J_iload hX dX12_bestAngle_30 5 rfl ?_
  refine J_iconst (v := (2 : Int32)) hX dX12_bestAngle_32 (by decide) ?_
  refine J_icmp_gt (tgt := 73) hX dX12_bestAngle_33 (by decide) (fun c6 => ?_) (fun c6 => ?_)
  · replace h := Eq.mp (if_pos c6) h
    exact J_sub [0, 1, 2, 3] rfl (hk73 x3 m h)
  · replace h := Eq.mp (if_neg c6) h
    refine J_aload_n hX dX12_bestAngle_36 rfl 0 rfl ?_
    refine J_iload_n hX dX12_bestAngle_37 rfl 1 rfl ?_
    refine J_iconst (v := (5 : Int32)) hX dX12_bestAngle_38 (by decide) ?_
    refine J_iload hX dX12_bestAngle_39 5 rfl ?_
    refine J_callV hX km_X12_put kl_RX12_137 dX12_bestAngle_41 ka_426 (by decide) [.int x1, .int (5 : Int32), .int x6] ⟨Nat.le_of_ble_eq_true rfl, Nat.le_of_ble_eq_true rfl⟩ rfl rfl (Nat.le_of_ble_eq_true rfl) (c_X12_put x1 (5 : Int32) x6 m _ h) (fun v w2 hk => ?_)
    obtain ⟨m7, rfl, rfl, h⟩ := hk
    show J X (0, 0) 44 [(0, .ref (ad 426)), (1, .int x1), (2, .int x2), (3, .int x3), (4, .long x4), (6, .int x6)] [] (fl ad m7)
    refine J_aload_n hX dX12_bestAngle_44 rfl 0 rfl ?_
    refine J_bipush (v := (-9 : Int32)) hX dX12_bestAngle_45 (by decide) ?_
    refine J_callV hX km_X12_costs kl_RX12_350 dX12_bestAngle_47 ka_426 (by decide) [.int (-9 : Int32)] ⟨Nat.le_of_ble_eq_true rfl, Nat.le_of_ble_eq_true rfl⟩ rfl rfl (Nat.le_of_ble_eq_true rfl) (c_X12_costs (-9 : Int32) m7 _ h) (fun v w2 hk => ?_)
    obtain ⟨y9, m8, rfl, rfl, h⟩ := hk
    show J X (0, 0) 50 [(0, .ref (ad 426)), (1, .int x1), (2, .int x2), (3, .int x3), (4, .long x4), (6, .int x6)] [.long y9] (fl ad m8)
    refine J_lstore (lv2 := [(7, .long y9), (0, .ref (ad 426)), (1, .int x1), (2, .int x2), (3, .int x3), (4, .long x4), (6, .int x6)]) hX dX12_bestAngle_50 (Nat.le_of_ble_eq_true rfl) rfl ?_
    refine J_lload hX dX12_bestAngle_52 0 rfl ?_
    refine J_lload hX dX12_bestAngle_54 5 rfl ?_
    refine J_lcmp hX dX12_bestAngle_56 ?_
    have hj13 : ∀ y11 : Int32, y11 = (if (0 : Int32) ≤ (lg_cmp y9 x4) then x3 else x6) → ∀ y12 : Int64, y12 = (if (0 : Int32) ≤ (lg_cmp y9 x4) then x4 else y9) → J X (0, 0) 67 [(0, .ref (ad 426)), (1, .int x1), (2, .int x2), (3, .int y11), (4, .long y12), (6, .int x6)] [] (fl ad m8) := by
      intro y11 e_y11
      replace h := h y11 e_y11
      intro y12 e_y12
      replace h := h y12 e_y12
      refine J_iinc (x := (x6 + (1 : Int32))) (lv2 := [(6, .int (x6 + (1 : Int32))), (0, .ref (ad 426)), (1, .int x1), (2, .int x2), (3, .int y11), (4, .long y12)]) hX dX12_bestAngle_67 5 rfl rfl (Nat.le_of_ble_eq_true rfl) rfl ?_
      refine J_goto (tgt := 30) hX dX12_bestAngle_70 (by decide) ?_
      exact J_sub [1, 2, 3, 4, 5, 0] rfl (hrec y11 y12 (x6 + (1 : Int32)) m8 h)
    refine J_if_ge (tgt := 67) hX dX12_bestAngle_57 (by decide) (fun c10 => ?_) (fun c10 => ?_)
    · exact J_sub [1, 2, 3, 4, 5, 6] rfl (hj13 _ (if_pos c10).symm _ (if_pos c10).symm)
    · refine J_iload hX dX12_bestAngle_60 6 rfl ?_
      refine J_istore_n (lv2 := [(3, .int x6), (7, .long y9), (0, .ref (ad 426)), (1, .int x1), (2, .int x2), (4, .long x4), (6, .int x6)]) hX dX12_bestAngle_62 rfl (Nat.le_of_ble_eq_true rfl) rfl ?_
      refine J_lload hX dX12_bestAngle_63 1 rfl ?_
      refine J_lstore (lv2 := [(4, .long y9), (3, .int x6), (7, .long y9), (0, .ref (ad 426)), (1, .int x1), (2, .int x2), (6, .int x6)]) hX dX12_bestAngle_65 (Nat.le_of_ble_eq_true rfl) rfl ?_
      exact J_sub [3, 4, 5, 1, 0, 6] rfl (hj13 _ (if_neg c10).symm _ (if_neg c10).symm)
set_option maxRecDepth 100000 in
theorem t_X12_bestAngle_l30 {X : XT} {ad : Nat → Nat} {K : Int32 → Mm → Prop} (hX : Cx X cX12_bestAngle 9 RX12 (rmN 10 237)) (hR : Rx X (some .int) (kI ad K) (0, 0)) {k73 : Int32 → Mm → Prop} (x1 : Int32) (x2 : Int32) (hk73 : ∀ (z3 : Int32) (m : Mm), k73 z3 m → J X (0, 0) 73 [(0, .ref (ad 426)), (1, .int x1), (2, .int x2), (3, .int z3)] [] (fl ad m)) : ∀ (n : Nat) (x3 : Int32) (x4 : Int64) (x6 : Int32) (m : Mm), wp_X12_bestAngle_l30 k73 K x1 x2 n x3 x4 x6 m → J X (0, 0) 30 [(0, .ref (ad 426)), (1, .int x1), (2, .int x2), (3, .int x3), (4, .long x4), (6, .int x6)] [] (fl ad m) := by
  intro n
  induction n with
  | zero => intro x3 x4 x6 m h; exact h.elim
  | succ n ih => intro x3 x4 x6 m h; exact tb_X12_bestAngle_l30 hX hR x1 x2 ih hk73 x3 x4 x6 m h
set_option maxRecDepth 100000 in
theorem c_X12_bestAngle {G : GT} {ad : Nat → Nat} (x1 : Int32) (m : Mm) (K : Int32 → Mm → Prop) (h : wp_X12_bestAngle x1 m K) : Cn G yX12_bestAngle cX12_bestAngle 9 (some .int) (rmN 10 237) [.ref (ad 426), .int x1] (0, 0) (fl ad m) (kI ad K) := by
  unfold wp_X12_bestAngle at h
  refine Cn.of pn_RX12 (Nat.le_of_ble_eq_true rfl) (fun X hG hX hR => ?_)
  subst hG
  have hX : Cx X cX12_bestAngle 9 RX12 (rmN 10 237) := hX
  show J X (0, 0) 0 [(0, .ref (ad 426)), (1, .int x1)] [] (fl ad m)
  refine J_aload_n hX dX12_bestAngle_0 rfl 0 rfl ?_
  refine J_iload_n hX dX12_bestAngle_1 rfl 1 rfl ?_
  refine J_callV hX km_X12_isHung kl_RX12_149 dX12_bestAngle_2 ka_426 (by decide) [.int x1] ⟨Nat.le_of_ble_eq_true rfl, Nat.le_of_ble_eq_true rfl⟩ rfl rfl (Nat.le_of_ble_eq_true rfl) (c_X12_isHung x1 m) (fun v w2 hk => ?_)
  obtain ⟨rfl, rfl⟩ := hk
  show J X (0, 0) 5 [(0, .ref (ad 426)), (1, .int x1)] [.int (v_X12_isHung x1 m)] (fl ad m)
  refine J_if_ne (tgt := 10) hX dX12_bestAngle_5 (by decide) (fun c1 => ?_) (fun c1 => ?_)
  · replace h := Eq.mp (if_neg c1) h
    refine J_aload_n hX dX12_bestAngle_10 rfl 0 rfl ?_
    refine J_iload_n hX dX12_bestAngle_11 rfl 1 rfl ?_
    refine J_iconst (v := (5 : Int32)) hX dX12_bestAngle_12 (by decide) ?_
    obtain ⟨b2, h⟩ := h
    refine J_callV hX km_X12_of kl_RX12_91 dX12_bestAngle_13 ka_426 (by decide) [.int x1, .int (5 : Int32)] ⟨Nat.le_of_ble_eq_true rfl, Nat.le_of_ble_eq_true rfl⟩ rfl rfl (Nat.le_of_ble_eq_true rfl) (c_X12_of x1 (5 : Int32) m b2) (fun v w2 hk => ?_)
    obtain ⟨rfl, rfl⟩ := hk
    show J X (0, 0) 16 [(0, .ref (ad 426)), (1, .int x1)] [.int (v_X12_of x1 (5 : Int32) m)] (fl ad m)
    refine J_nmI (fun y3 e_y3 => ?_)
    replace h := h y3 e_y3
    refine J_istore_n (lv2 := [(2, .int y3), (0, .ref (ad 426)), (1, .int x1)]) hX dX12_bestAngle_16 rfl (Nat.le_of_ble_eq_true rfl) rfl ?_
    refine J_iload_n hX dX12_bestAngle_17 rfl 0 rfl ?_
    refine J_istore_n (lv2 := [(3, .int y3), (2, .int y3), (0, .ref (ad 426)), (1, .int x1)]) hX dX12_bestAngle_18 rfl (Nat.le_of_ble_eq_true rfl) rfl ?_
    refine J_aload_n hX dX12_bestAngle_19 rfl 2 rfl ?_
    refine J_bipush (v := (-9 : Int32)) hX dX12_bestAngle_20 (by decide) ?_
    refine J_callV hX km_X12_costs kl_RX12_350 dX12_bestAngle_22 ka_426 (by decide) [.int (-9 : Int32)] ⟨Nat.le_of_ble_eq_true rfl, Nat.le_of_ble_eq_true rfl⟩ rfl rfl (Nat.le_of_ble_eq_true rfl) (c_X12_costs (-9 : Int32) m _ h) (fun v w2 hk => ?_)
    obtain ⟨y5, m4, rfl, rfl, h⟩ := hk
    show J X (0, 0) 25 [(3, .int y3), (2, .int y3), (0, .ref (ad 426)), (1, .int x1)] [.long y5] (fl ad m4)
    refine J_lstore (lv2 := [(4, .long y5), (3, .int y3), (2, .int y3), (0, .ref (ad 426)), (1, .int x1)]) hX dX12_bestAngle_25 (Nat.le_of_ble_eq_true rfl) rfl ?_
    refine J_iconst (v := (-1 : Int32)) hX dX12_bestAngle_27 (by decide) ?_
    refine J_istore (lv2 := [(6, .int (-1 : Int32)), (4, .long y5), (3, .int y3), (2, .int y3), (0, .ref (ad 426)), (1, .int x1)]) hX dX12_bestAngle_28 (Nat.le_of_ble_eq_true rfl) rfl ?_
    refine J_sub [4, 5, 3, 2, 1, 0] rfl (t_X12_bestAngle_l30 hX hR x1 y3 (fun y14 m15 h => ?_) FU y3 y5 (-1 : Int32) m4 h)
    refine J_aload_n hX dX12_bestAngle_73 rfl 0 rfl ?_
    refine J_iload_n hX dX12_bestAngle_74 rfl 1 rfl ?_
    refine J_iconst (v := (5 : Int32)) hX dX12_bestAngle_75 (by decide) ?_
    refine J_iload_n hX dX12_bestAngle_76 rfl 2 rfl ?_
    refine J_callV hX km_X12_put kl_RX12_137 dX12_bestAngle_77 ka_426 (by decide) [.int x1, .int (5 : Int32), .int y3] ⟨Nat.le_of_ble_eq_true rfl, Nat.le_of_ble_eq_true rfl⟩ rfl rfl (Nat.le_of_ble_eq_true rfl) (c_X12_put x1 (5 : Int32) y3 m15 _ h) (fun v w2 hk => ?_)
    obtain ⟨m16, rfl, rfl, h⟩ := hk
    show J X (0, 0) 80 [(0, .ref (ad 426)), (1, .int x1), (2, .int y3), (3, .int y14)] [] (fl ad m16)
    refine J_iload_n hX dX12_bestAngle_80 rfl 3 rfl ?_
    exact J_iret hX hR dX12_bestAngle_81 ⟨_, _, rfl, rfl, h⟩
  · replace h := Eq.mp (if_pos c1) h
    refine J_iconst (v := (-1 : Int32)) hX dX12_bestAngle_8 (by decide) ?_
    exact J_iret hX hR dX12_bestAngle_9 ⟨_, _, rfl, rfl, h⟩
set_option maxRecDepth 100000 in
theorem tb_X12_bestDepth_l30 {X : XT} {ad : Nat → Nat} {K : Int32 → Mm → Prop} (hX : Cx X cX12_bestDepth 10 RX12 (rmN 10 237)) (hR : Rx X (some .int) (kI ad K) (0, 0)) {rec : Int32 → Int64 → Int32 → Mm → Prop} {k129 : Int32 → Mm → Prop} (x1 : Int32) (x2 : Int32) (hrec : ∀ (x3 : Int32) (x4 : Int64) (x6 : Int32) (m : Mm), rec x3 x4 x6 m → J X (0, 0) 30 [(0, .ref (ad 426)), (1, .int x1), (2, .int x2), (3, .int x3), (4, .long x4), (6, .int x6)] [] (fl ad m)) (hk129 : ∀ (z3 : Int32) (m : Mm), k129 z3 m → J X (0, 0) 129 [(0, .ref (ad 426)), (1, .int x1), (2, .int x2), (3, .int z3)] [] (fl ad m)) (x3 : Int32) (x4 : Int64) (x6 : Int32) (m : Mm) (h : wb_X12_bestDepth_l30 rec k129 K x1 x2 x3 x4 x6 m) : J X (0, 0) 30 [(0, .ref (ad 426)), (1, .int x1), (2, .int x2), (3, .int x3), (4, .long x4), (6, .int x6)] [] (fl ad m) := by
  unfold wb_X12_bestDepth_l30 at h
  refine J_iload hX dX12_bestDepth_30 5 rfl ?_
  refine J_bipush (v := (100 : Int32)) hX dX12_bestDepth_32 (by decide) ?_
  refine J_icmp_gt (tgt := 129) hX dX12_bestDepth_34 (by decide) (fun c5 => ?_) (fun c5 => ?_)
  · replace h := Eq.mp (if_pos c5) h
    exact J_sub [0, 1, 2, 3] rfl (hk129 x3 m h)
  · replace h := Eq.mp (if_neg c5) h
    refine J_aload_n hX dX12_bestDepth_37 rfl 0 rfl ?_
    refine J_iload_n hX dX12_bestDepth_38 rfl 1 rfl ?_
    refine J_iconst (v := (4 : Int32)) hX dX12_bestDepth_39 (by decide) ?_
    refine J_iload hX dX12_bestDepth_40 5 rfl ?_
    refine J_callV hX km_X12_put kl_RX12_137 dX12_bestDepth_42 ka_426 (by decide) [.int x1, .int (4 : Int32), .int x6] ⟨Nat.le_of_ble_eq_true rfl, Nat.le_of_ble_eq_true rfl⟩ rfl rfl (Nat.le_of_ble_eq_true rfl) (c_X12_put x1 (4 : Int32) x6 m _ h) (fun v w2 hk => ?_)
    obtain ⟨m6, rfl, rfl, h⟩ := hk
    show J X (0, 0) 45 [(0, .ref (ad 426)), (1, .int x1), (2, .int x2), (3, .int x3), (4, .long x4), (6, .int x6)] [] (fl ad m6)
    refine J_aload_n hX dX12_bestDepth_45 rfl 0 rfl ?_
    refine J_callV hX km_X12_isValid kl_RX12_133 dX12_bestDepth_46 ka_426 (by decide) [] ⟨Nat.le_of_ble_eq_true rfl, Nat.le_of_ble_eq_true rfl⟩ rfl rfl (Nat.le_of_ble_eq_true rfl) (c_X12_isValid m6 _ h) (fun v w2 hk => ?_)
    obtain ⟨y8, m7, rfl, rfl, h⟩ := hk
    show J X (0, 0) 49 [(0, .ref (ad 426)), (1, .int x1), (2, .int x2), (3, .int x3), (4, .long x4), (6, .int x6)] [.int y8] (fl ad m7)
    refine J_if_eq (tgt := 123) hX dX12_bestDepth_49 (by decide) (fun c9 => ?_) (fun c9 => ?_)
    · replace h := Eq.mp (if_pos c9) h
      refine J_iinc (x := (x6 + (1 : Int32))) (lv2 := [(6, .int (x6 + (1 : Int32))), (0, .ref (ad 426)), (1, .int x1), (2, .int x2), (3, .int x3), (4, .long x4)]) hX dX12_bestDepth_123 5 rfl rfl (Nat.le_of_ble_eq_true rfl) rfl ?_
      refine J_goto (tgt := 30) hX dX12_bestDepth_126 (by decide) ?_
      exact J_sub [1, 2, 3, 4, 5, 0] rfl (hrec x3 x4 (x6 + (1 : Int32)) m7 h)
    · replace h := Eq.mp (if_neg c9) h
      refine J_aload_n hX dX12_bestDepth_52 rfl 0 rfl ?_
      refine J_bipush (v := (-9 : Int32)) hX dX12_bestDepth_53 (by decide) ?_
      refine J_callV hX km_X12_costs kl_RX12_350 dX12_bestDepth_55 ka_426 (by decide) [.int (-9 : Int32)] ⟨Nat.le_of_ble_eq_true rfl, Nat.le_of_ble_eq_true rfl⟩ rfl rfl (Nat.le_of_ble_eq_true rfl) (c_X12_costs (-9 : Int32) m7 _ h) (fun v w2 hk => ?_)
      obtain ⟨y11, m10, rfl, rfl, h⟩ := hk
      show J X (0, 0) 58 [(0, .ref (ad 426)), (1, .int x1), (2, .int x2), (3, .int x3), (4, .long x4), (6, .int x6)] [.long y11] (fl ad m10)
      refine J_lstore (lv2 := [(7, .long y11), (0, .ref (ad 426)), (1, .int x1), (2, .int x2), (3, .int x3), (4, .long x4), (6, .int x6)]) hX dX12_bestDepth_58 (Nat.le_of_ble_eq_true rfl) rfl ?_
      refine J_iload_n hX dX12_bestDepth_60 rfl 4 rfl ?_
      refine J_bipush (v := (-9 : Int32)) hX dX12_bestDepth_61 (by decide) ?_
      have hj22 : ∀ y15 : Int32, y15 = (if x3 = (-9 : Int32) then (0 : Int32) else (if (lg_cmp y11 x4) = (0 : Int32) then (if (v_X12_amount (x3 - x2)) ≤ (v_X12_amount (x6 - x2)) then (0 : Int32) else (1 : Int32)) else (0 : Int32))) → J X (0, 0) 95 [(0, .ref (ad 426)), (1, .int x1), (2, .int x2), (3, .int x3), (4, .long x4), (6, .int x6), (7, .long y11)] [.int y15] (fl ad m10) := by
        intro y15 e_y15
        replace h := h y15 e_y15
        refine J_istore (lv2 := [(9, .int y15), (0, .ref (ad 426)), (1, .int x1), (2, .int x2), (3, .int x3), (4, .long x4), (6, .int x6), (7, .long y11)]) hX dX12_bestDepth_95 (Nat.le_of_ble_eq_true rfl) rfl ?_
        refine J_iload_n hX dX12_bestDepth_97 rfl 4 rfl ?_
        refine J_bipush (v := (-9 : Int32)) hX dX12_bestDepth_98 (by decide) ?_
        have hj21 : ∀ y19 : Int32, y19 = (if x3 = (-9 : Int32) then x6 else (if (lg_cmp y11 x4) < (0 : Int32) then x6 else (if y15 = (0 : Int32) then x3 else x6))) → ∀ y20 : Int64, y20 = (if x3 = (-9 : Int32) then y11 else (if (lg_cmp y11 x4) < (0 : Int32) then y11 else (if y15 = (0 : Int32) then x4 else y11))) → J X (0, 0) 123 [(0, .ref (ad 426)), (1, .int x1), (2, .int x2), (3, .int y19), (4, .long y20), (6, .int x6)] [] (fl ad m10) := by
          intro y19 e_y19
          replace h := h y19 e_y19
          intro y20 e_y20
          replace h := h y20 e_y20
          refine J_iinc (x := (x6 + (1 : Int32))) (lv2 := [(6, .int (x6 + (1 : Int32))), (0, .ref (ad 426)), (1, .int x1), (2, .int x2), (3, .int y19), (4, .long y20)]) hX dX12_bestDepth_123 5 rfl rfl (Nat.le_of_ble_eq_true rfl) rfl ?_
          refine J_goto (tgt := 30) hX dX12_bestDepth_126 (by decide) ?_
          exact J_sub [1, 2, 3, 4, 5, 0] rfl (hrec y19 y20 (x6 + (1 : Int32)) m10 h)
        refine J_icmp_eq (tgt := 116) hX dX12_bestDepth_100 (by decide) (fun c16 => ?_) (fun c16 => ?_)
        · refine J_iload hX dX12_bestDepth_116 6 rfl ?_
          refine J_istore_n (lv2 := [(3, .int x6), (9, .int y15), (0, .ref (ad 426)), (1, .int x1), (2, .int x2), (4, .long x4), (6, .int x6), (7, .long y11)]) hX dX12_bestDepth_118 rfl (Nat.le_of_ble_eq_true rfl) rfl ?_
          refine J_lload hX dX12_bestDepth_119 7 rfl ?_
          refine J_lstore (lv2 := [(4, .long y11), (3, .int x6), (9, .int y15), (0, .ref (ad 426)), (1, .int x1), (2, .int x2), (6, .int x6), (7, .long y11)]) hX dX12_bestDepth_121 (Nat.le_of_ble_eq_true rfl) rfl ?_
          exact J_sub [3, 4, 5, 1, 0, 6] rfl (hj21 _ (if_pos c16).symm _ (if_pos c16).symm)
        · refine J_lload hX dX12_bestDepth_103 7 rfl ?_
          refine J_lload hX dX12_bestDepth_105 5 rfl ?_
          refine J_lcmp hX dX12_bestDepth_107 ?_
          refine J_if_lt (tgt := 116) hX dX12_bestDepth_108 (by decide) (fun c17 => ?_) (fun c17 => ?_)
          · refine J_iload hX dX12_bestDepth_116 6 rfl ?_
            refine J_istore_n (lv2 := [(3, .int x6), (9, .int y15), (0, .ref (ad 426)), (1, .int x1), (2, .int x2), (4, .long x4), (6, .int x6), (7, .long y11)]) hX dX12_bestDepth_118 rfl (Nat.le_of_ble_eq_true rfl) rfl ?_
            refine J_lload hX dX12_bestDepth_119 7 rfl ?_
            refine J_lstore (lv2 := [(4, .long y11), (3, .int x6), (9, .int y15), (0, .ref (ad 426)), (1, .int x1), (2, .int x2), (6, .int x6), (7, .long y11)]) hX dX12_bestDepth_121 (Nat.le_of_ble_eq_true rfl) rfl ?_
            exact J_sub [3, 4, 5, 1, 0, 6] rfl (hj21 _ ((if_neg c16).trans (if_pos c17)).symm _ ((if_neg c16).trans (if_pos c17)).symm)
          · refine J_iload hX dX12_bestDepth_111 0 rfl ?_
            refine J_if_eq (tgt := 123) hX dX12_bestDepth_113 (by decide) (fun c18 => ?_) (fun c18 => ?_)
            · exact J_sub [1, 2, 3, 4, 5, 6] rfl (hj21 _ ((if_neg c16).trans ((if_neg c17).trans (if_pos c18))).symm _ ((if_neg c16).trans ((if_neg c17).trans (if_pos c18))).symm)
            · refine J_iload hX dX12_bestDepth_116 6 rfl ?_
              refine J_istore_n (lv2 := [(3, .int x6), (9, .int y15), (0, .ref (ad 426)), (1, .int x1), (2, .int x2), (4, .long x4), (6, .int x6), (7, .long y11)]) hX dX12_bestDepth_118 rfl (Nat.le_of_ble_eq_true rfl) rfl ?_
              refine J_lload hX dX12_bestDepth_119 7 rfl ?_
              refine J_lstore (lv2 := [(4, .long y11), (3, .int x6), (9, .int y15), (0, .ref (ad 426)), (1, .int x1), (2, .int x2), (6, .int x6), (7, .long y11)]) hX dX12_bestDepth_121 (Nat.le_of_ble_eq_true rfl) rfl ?_
              exact J_sub [3, 4, 5, 1, 0, 6] rfl (hj21 _ ((if_neg c16).trans ((if_neg c17).trans (if_neg c18))).symm _ ((if_neg c16).trans ((if_neg c17).trans (if_neg c18))).symm)
      refine J_icmp_eq (tgt := 94) hX dX12_bestDepth_63 (by decide) (fun c12 => ?_) (fun c12 => ?_)
      · refine J_iconst (v := (0 : Int32)) hX dX12_bestDepth_94 (by decide) ?_
        exact J_sub [1, 2, 3, 4, 5, 6, 0] rfl (hj22 _ (if_pos c12).symm)
      · refine J_lload hX dX12_bestDepth_66 0 rfl ?_
        refine J_lload hX dX12_bestDepth_68 5 rfl ?_
        refine J_lcmp hX dX12_bestDepth_70 ?_
        refine J_if_ne (tgt := 94) hX dX12_bestDepth_71 (by decide) (fun c13 => ?_) (fun c13 => ?_)
        · refine J_iconst (v := (0 : Int32)) hX dX12_bestDepth_94 (by decide) ?_
          exact J_sub [1, 2, 3, 4, 5, 6, 0] rfl (hj22 _ ((if_neg c12).trans (if_neg c13)).symm)
        · refine J_iload hX dX12_bestDepth_74 6 rfl ?_
          refine J_iload_n hX dX12_bestDepth_76 rfl 3 rfl ?_
          refine J_isub hX dX12_bestDepth_77 ?_
          refine J_callS hX km_X12_amount kl_RX12_222 dX12_bestDepth_78 [.int (x6 - x2)] ⟨Nat.le_of_ble_eq_true rfl, Nat.le_of_ble_eq_true rfl⟩ rfl rfl (Nat.le_of_ble_eq_true rfl) (c_X12_amount (x6 - x2) m10) (fun v w2 hk => ?_)
          obtain ⟨rfl, rfl⟩ := hk
          show J X (0, 0) 81 [(7, .long y11), (0, .ref (ad 426)), (1, .int x1), (2, .int x2), (3, .int x3), (4, .long x4), (6, .int x6)] [.int (v_X12_amount (x6 - x2))] (fl ad m10)
          refine J_iload_n hX dX12_bestDepth_81 rfl 4 rfl ?_
          refine J_iload_n hX dX12_bestDepth_82 rfl 3 rfl ?_
          refine J_isub hX dX12_bestDepth_83 ?_
          refine J_callS hX km_X12_amount kl_RX12_222 dX12_bestDepth_84 [.int (x3 - x2)] ⟨Nat.le_of_ble_eq_true rfl, Nat.le_of_ble_eq_true rfl⟩ rfl rfl (Nat.le_of_ble_eq_true rfl) (c_X12_amount (x3 - x2) m10) (fun v w2 hk => ?_)
          obtain ⟨rfl, rfl⟩ := hk
          show J X (0, 0) 87 [(7, .long y11), (0, .ref (ad 426)), (1, .int x1), (2, .int x2), (3, .int x3), (4, .long x4), (6, .int x6)] [.int (v_X12_amount (x3 - x2)), .int (v_X12_amount (x6 - x2))] (fl ad m10)
          refine J_icmp_ge (tgt := 94) hX dX12_bestDepth_87 (by decide) (fun c14 => ?_) (fun c14 => ?_)
          · refine J_iconst (v := (0 : Int32)) hX dX12_bestDepth_94 (by decide) ?_
            exact J_sub [1, 2, 3, 4, 5, 6, 0] rfl (hj22 _ ((if_neg c12).trans ((if_pos c13).trans (if_pos c14))).symm)
          · refine J_iconst (v := (1 : Int32)) hX dX12_bestDepth_90 (by decide) ?_
            refine J_goto (tgt := 95) hX dX12_bestDepth_91 (by decide) ?_
            exact J_sub [1, 2, 3, 4, 5, 6, 0] rfl (hj22 _ ((if_neg c12).trans ((if_pos c13).trans (if_neg c14))).symm)
set_option maxRecDepth 100000 in
theorem t_X12_bestDepth_l30 {X : XT} {ad : Nat → Nat} {K : Int32 → Mm → Prop} (hX : Cx X cX12_bestDepth 10 RX12 (rmN 10 237)) (hR : Rx X (some .int) (kI ad K) (0, 0)) {k129 : Int32 → Mm → Prop} (x1 : Int32) (x2 : Int32) (hk129 : ∀ (z3 : Int32) (m : Mm), k129 z3 m → J X (0, 0) 129 [(0, .ref (ad 426)), (1, .int x1), (2, .int x2), (3, .int z3)] [] (fl ad m)) : ∀ (n : Nat) (x3 : Int32) (x4 : Int64) (x6 : Int32) (m : Mm), wp_X12_bestDepth_l30 k129 K x1 x2 n x3 x4 x6 m → J X (0, 0) 30 [(0, .ref (ad 426)), (1, .int x1), (2, .int x2), (3, .int x3), (4, .long x4), (6, .int x6)] [] (fl ad m) := by
  intro n
  induction n with
  | zero => intro x3 x4 x6 m h; exact h.elim
  | succ n ih => intro x3 x4 x6 m h; exact tb_X12_bestDepth_l30 hX hR x1 x2 ih hk129 x3 x4 x6 m h
set_option maxRecDepth 100000 in
theorem c_X12_bestDepth {G : GT} {ad : Nat → Nat} (x1 : Int32) (m : Mm) (K : Int32 → Mm → Prop) (h : wp_X12_bestDepth x1 m K) : Cn G yX12_bestDepth cX12_bestDepth 10 (some .int) (rmN 10 237) [.ref (ad 426), .int x1] (0, 0) (fl ad m) (kI ad K) := by
  unfold wp_X12_bestDepth at h
  refine Cn.of pn_RX12 (Nat.le_of_ble_eq_true rfl) (fun X hG hX hR => ?_)
  subst hG
  have hX : Cx X cX12_bestDepth 10 RX12 (rmN 10 237) := hX
  show J X (0, 0) 0 [(0, .ref (ad 426)), (1, .int x1)] [] (fl ad m)
  refine J_aload_n hX dX12_bestDepth_0 rfl 0 rfl ?_
  refine J_iload_n hX dX12_bestDepth_1 rfl 1 rfl ?_
  refine J_callV hX km_X12_isHung kl_RX12_149 dX12_bestDepth_2 ka_426 (by decide) [.int x1] ⟨Nat.le_of_ble_eq_true rfl, Nat.le_of_ble_eq_true rfl⟩ rfl rfl (Nat.le_of_ble_eq_true rfl) (c_X12_isHung x1 m) (fun v w2 hk => ?_)
  obtain ⟨rfl, rfl⟩ := hk
  show J X (0, 0) 5 [(0, .ref (ad 426)), (1, .int x1)] [.int (v_X12_isHung x1 m)] (fl ad m)
  refine J_if_ne (tgt := 10) hX dX12_bestDepth_5 (by decide) (fun c1 => ?_) (fun c1 => ?_)
  · replace h := Eq.mp (if_neg c1) h
    refine J_aload_n hX dX12_bestDepth_10 rfl 0 rfl ?_
    refine J_callV hX km_X12_begins kl_RX12_103 dX12_bestDepth_11 ka_426 (by decide) [] ⟨Nat.le_of_ble_eq_true rfl, Nat.le_of_ble_eq_true rfl⟩ rfl rfl (Nat.le_of_ble_eq_true rfl) (c_X12_begins m _ h) (fun v w2 hk => ?_)
    obtain ⟨m2, rfl, rfl, h⟩ := hk
    show J X (0, 0) 14 [(0, .ref (ad 426)), (1, .int x1)] [] (fl ad m2)
    refine J_aload_n hX dX12_bestDepth_14 rfl 0 rfl ?_
    refine J_iload_n hX dX12_bestDepth_15 rfl 1 rfl ?_
    refine J_iconst (v := (4 : Int32)) hX dX12_bestDepth_16 (by decide) ?_
    obtain ⟨b3, h⟩ := h
    refine J_callV hX km_X12_of kl_RX12_91 dX12_bestDepth_17 ka_426 (by decide) [.int x1, .int (4 : Int32)] ⟨Nat.le_of_ble_eq_true rfl, Nat.le_of_ble_eq_true rfl⟩ rfl rfl (Nat.le_of_ble_eq_true rfl) (c_X12_of x1 (4 : Int32) m2 b3) (fun v w2 hk => ?_)
    obtain ⟨rfl, rfl⟩ := hk
    show J X (0, 0) 20 [(0, .ref (ad 426)), (1, .int x1)] [.int (v_X12_of x1 (4 : Int32) m2)] (fl ad m2)
    refine J_nmI (fun y4 e_y4 => ?_)
    replace h := h y4 e_y4
    refine J_istore_n (lv2 := [(2, .int y4), (0, .ref (ad 426)), (1, .int x1)]) hX dX12_bestDepth_20 rfl (Nat.le_of_ble_eq_true rfl) rfl ?_
    refine J_bipush (v := (-9 : Int32)) hX dX12_bestDepth_21 (by decide) ?_
    refine J_istore_n (lv2 := [(3, .int (-9 : Int32)), (2, .int y4), (0, .ref (ad 426)), (1, .int x1)]) hX dX12_bestDepth_23 rfl (Nat.le_of_ble_eq_true rfl) rfl ?_
    refine J_lconst (v := (0 : Int64)) hX dX12_bestDepth_24 (by decide) ?_
    refine J_lstore (lv2 := [(4, .long (0 : Int64)), (3, .int (-9 : Int32)), (2, .int y4), (0, .ref (ad 426)), (1, .int x1)]) hX dX12_bestDepth_25 (Nat.le_of_ble_eq_true rfl) rfl ?_
    refine J_iconst (v := (1 : Int32)) hX dX12_bestDepth_27 (by decide) ?_
    refine J_istore (lv2 := [(6, .int (1 : Int32)), (4, .long (0 : Int64)), (3, .int (-9 : Int32)), (2, .int y4), (0, .ref (ad 426)), (1, .int x1)]) hX dX12_bestDepth_28 (Nat.le_of_ble_eq_true rfl) rfl ?_
    refine J_sub [4, 5, 3, 2, 1, 0] rfl (t_X12_bestDepth_l30 hX hR x1 y4 (fun y23 m24 h => ?_) FU (-9 : Int32) (0 : Int64) (1 : Int32) m2 h)
    refine J_aload_n hX dX12_bestDepth_129 rfl 0 rfl ?_
    refine J_iload_n hX dX12_bestDepth_130 rfl 1 rfl ?_
    refine J_iconst (v := (4 : Int32)) hX dX12_bestDepth_131 (by decide) ?_
    refine J_iload_n hX dX12_bestDepth_132 rfl 2 rfl ?_
    refine J_callV hX km_X12_put kl_RX12_137 dX12_bestDepth_133 ka_426 (by decide) [.int x1, .int (4 : Int32), .int y4] ⟨Nat.le_of_ble_eq_true rfl, Nat.le_of_ble_eq_true rfl⟩ rfl rfl (Nat.le_of_ble_eq_true rfl) (c_X12_put x1 (4 : Int32) y4 m24 _ h) (fun v w2 hk => ?_)
    obtain ⟨m25, rfl, rfl, h⟩ := hk
    show J X (0, 0) 136 [(0, .ref (ad 426)), (1, .int x1), (2, .int y4), (3, .int y23)] [] (fl ad m25)
    refine J_iload_n hX dX12_bestDepth_136 rfl 3 rfl ?_
    exact J_iret hX hR dX12_bestDepth_137 ⟨_, _, rfl, rfl, h⟩
  · replace h := Eq.mp (if_pos c1) h
    refine J_iconst (v := (-1 : Int32)) hX dX12_bestDepth_8 (by decide) ?_
    exact J_iret hX hR dX12_bestDepth_9 ⟨_, _, rfl, rfl, h⟩
set_option maxRecDepth 100000 in
theorem tb_X12_bits_l4 {X : XT} {ad : Nat → Nat} {K : Int32 → Mm → Prop} (hX : Cx X cX12_bits 3 RX12 (rmN 0 0)) (hR : Rx X (some .int) (kI ad K) (0, 0)) {rec : Int32 → Int32 → Mm → Prop} (x0 : Int32) (hrec : ∀ (x1 : Int32) (x2 : Int32) (m : Mm), rec x1 x2 m → J X (0, 0) 4 [(0, .int x0), (1, .int x1), (2, .int x2)] [] (fl ad m)) (x1 : Int32) (x2 : Int32) (m : Mm) (h : wb_X12_bits_l4 rec K x0 x1 x2 m) : J X (0, 0) 4 [(0, .int x0), (1, .int x1), (2, .int x2)] [] (fl ad m) := by
  unfold wb_X12_bits_l4 at h
  refine J_iload_n hX dX12_bits_4 rfl 2 rfl ?_
  refine J_bipush (v := (32 : Int32)) hX dX12_bits_5 (by decide) ?_
  refine J_icmp_ge (tgt := 24) hX dX12_bits_7 (by decide) (fun c1 => ?_) (fun c1 => ?_)
  · replace h := Eq.mp (if_pos c1) h
    refine J_iload_n hX dX12_bits_24 rfl 1 rfl ?_
    exact J_iret hX hR dX12_bits_25 ⟨_, _, rfl, rfl, h⟩
  · replace h := Eq.mp (if_neg c1) h
    refine J_iload_n hX dX12_bits_10 rfl 1 rfl ?_
    refine J_iload_n hX dX12_bits_11 rfl 0 rfl ?_
    refine J_iload_n hX dX12_bits_12 rfl 2 rfl ?_
    refine J_ishr hX dX12_bits_13 ?_
    refine J_iconst (v := (1 : Int32)) hX dX12_bits_14 (by decide) ?_
    refine J_iand hX dX12_bits_15 ?_
    refine J_iadd hX dX12_bits_16 ?_
    refine J_nmI (fun y2 e_y2 => ?_)
    replace h := h y2 e_y2
    refine J_istore_n (lv2 := [(1, .int y2), (0, .int x0), (2, .int x2)]) hX dX12_bits_17 rfl (Nat.le_of_ble_eq_true rfl) rfl ?_
    refine J_iinc (x := (x2 + (1 : Int32))) (lv2 := [(2, .int (x2 + (1 : Int32))), (1, .int y2), (0, .int x0)]) hX dX12_bits_18 2 rfl rfl (Nat.le_of_ble_eq_true rfl) rfl ?_
    refine J_goto (tgt := 4) hX dX12_bits_21 (by decide) ?_
    exact J_sub [2, 1, 0] rfl (hrec y2 (x2 + (1 : Int32)) m h)
set_option maxRecDepth 100000 in
theorem t_X12_bits_l4 {X : XT} {ad : Nat → Nat} {K : Int32 → Mm → Prop} (hX : Cx X cX12_bits 3 RX12 (rmN 0 0)) (hR : Rx X (some .int) (kI ad K) (0, 0)) (x0 : Int32) : ∀ (n : Nat) (x1 : Int32) (x2 : Int32) (m : Mm), wp_X12_bits_l4 K x0 n x1 x2 m → J X (0, 0) 4 [(0, .int x0), (1, .int x1), (2, .int x2)] [] (fl ad m) := by
  intro n
  induction n with
  | zero => intro x1 x2 m h; exact h.elim
  | succ n ih => intro x1 x2 m h; exact tb_X12_bits_l4 hX hR x0 ih x1 x2 m h
set_option maxRecDepth 100000 in
theorem c_X12_bits {G : GT} {ad : Nat → Nat} (x0 : Int32) (m : Mm) (K : Int32 → Mm → Prop) (h : wp_X12_bits x0 m K) : Cn G yX12_bits cX12_bits 3 (some .int) (rmN 0 0) [.int x0] (0, 0) (fl ad m) (kI ad K) := by
  unfold wp_X12_bits at h
  refine Cn.of pn_RX12 (Nat.le_of_ble_eq_true rfl) (fun X hG hX hR => ?_)
  subst hG
  have hX : Cx X cX12_bits 3 RX12 (rmN 0 0) := hX
  show J X (0, 0) 0 [(0, .int x0)] [] (fl ad m)
  refine J_iconst (v := (0 : Int32)) hX dX12_bits_0 (by decide) ?_
  refine J_istore_n (lv2 := [(1, .int (0 : Int32)), (0, .int x0)]) hX dX12_bits_1 rfl (Nat.le_of_ble_eq_true rfl) rfl ?_
  refine J_iconst (v := (0 : Int32)) hX dX12_bits_2 (by decide) ?_
  refine J_istore_n (lv2 := [(2, .int (0 : Int32)), (1, .int (0 : Int32)), (0, .int x0)]) hX dX12_bits_3 rfl (Nat.le_of_ble_eq_true rfl) rfl ?_
  refine J_sub [2, 1, 0] rfl (t_X12_bits_l4 hX hR x0 FU (0 : Int32) (0 : Int32) m h)
set_option maxRecDepth 100000 in
theorem t_X12_doSheet_j24 {X : XT} {ad : Nat → Nat} {K : Int32 → Mm → Prop} (hX : Cx X cX12_doSheet 4 RX12 (rmN 4 89)) (hR : Rx X (some .int) (kI ad K) (0, 0)) (m : Mm) (h : wp_X12_doSheet_j24 K m) : J X (0, 0) 24 [(0, .ref (ad 426))] [] (fl ad m) := by
  unfold wp_X12_doSheet_j24 at h
  refine J_aload_n hX dX12_doSheet_24 rfl 0 rfl ?_
  refine J_iconst (v := (-1 : Int32)) hX dX12_doSheet_25 (by decide) ?_
  refine J_callV hX km_X12_refuse kl_RX12_130 dX12_doSheet_26 ka_426 (by decide) [.int (-1 : Int32)] ⟨Nat.le_of_ble_eq_true rfl, Nat.le_of_ble_eq_true rfl⟩ rfl rfl (Nat.le_of_ble_eq_true rfl) (c_X12_refuse (-1 : Int32) m _ h) (fun v w2 hk => ?_)
  obtain ⟨y3, m2, rfl, rfl, h⟩ := hk
  show J X (0, 0) 29 [(0, .ref (ad 426))] [.int y3] (fl ad m2)
  exact J_iret hX hR dX12_doSheet_29 ⟨_, _, rfl, rfl, h⟩
set_option maxRecDepth 100000 in
theorem c_X12_doSheet {G : GT} {ad : Nat → Nat} (x1 : Int32) (x2 : Int32) (m : Mm) (K : Int32 → Mm → Prop) (h : wp_X12_doSheet x1 x2 m K) : Cn G yX12_doSheet cX12_doSheet 4 (some .int) (rmN 4 89) [.ref (ad 426), .int x1, .int x2] (0, 0) (fl ad m) (kI ad K) := by
  unfold wp_X12_doSheet at h
  refine Cn.of pn_RX12 (Nat.le_of_ble_eq_true rfl) (fun X hG hX hR => ?_)
  subst hG
  have hX : Cx X cX12_doSheet 4 RX12 (rmN 4 89) := hX
  show J X (0, 0) 0 [(0, .ref (ad 426)), (1, .int x1), (2, .int x2)] [] (fl ad m)
  refine J_iload_n hX dX12_doSheet_0 rfl 1 rfl ?_
  refine J_bipush (v := (20 : Int32)) hX dX12_doSheet_1 (by decide) ?_
  refine J_sipush (v := (300 : Int32)) hX dX12_doSheet_3 (by decide) ?_
  refine J_callS hX km_X12_in kl_RX12_87 dX12_doSheet_6 [.int x1, .int (20 : Int32), .int (300 : Int32)] ⟨Nat.le_of_ble_eq_true rfl, Nat.le_of_ble_eq_true rfl⟩ rfl rfl (Nat.le_of_ble_eq_true rfl) (c_X12_in x1 (20 : Int32) (300 : Int32) m) (fun v w2 hk => ?_)
  obtain ⟨rfl, rfl⟩ := hk
  show J X (0, 0) 9 [(0, .ref (ad 426)), (1, .int x1), (2, .int x2)] [.int (v_X12_in x1 (20 : Int32) (300 : Int32))] (fl ad m)
  refine J_if_eq (tgt := 24) hX dX12_doSheet_9 (by decide) (fun c1 => ?_) (fun c1 => ?_)
  · replace h := Eq.mp (if_pos c1) h
    exact J_sub [0] rfl (t_X12_doSheet_j24 hX hR m h)
  · replace h := Eq.mp (if_neg c1) h
    refine J_iload_n hX dX12_doSheet_12 rfl 2 rfl ?_
    refine J_bipush (v := (20 : Int32)) hX dX12_doSheet_13 (by decide) ?_
    refine J_sipush (v := (300 : Int32)) hX dX12_doSheet_15 (by decide) ?_
    refine J_callS hX km_X12_in kl_RX12_87 dX12_doSheet_18 [.int x2, .int (20 : Int32), .int (300 : Int32)] ⟨Nat.le_of_ble_eq_true rfl, Nat.le_of_ble_eq_true rfl⟩ rfl rfl (Nat.le_of_ble_eq_true rfl) (c_X12_in x2 (20 : Int32) (300 : Int32) m) (fun v w2 hk => ?_)
    obtain ⟨rfl, rfl⟩ := hk
    show J X (0, 0) 21 [(0, .ref (ad 426)), (1, .int x1), (2, .int x2)] [.int (v_X12_in x2 (20 : Int32) (300 : Int32))] (fl ad m)
    refine J_if_ne (tgt := 30) hX dX12_doSheet_21 (by decide) (fun c4 => ?_) (fun c4 => ?_)
    · replace h := Eq.mp (if_neg c4) h
      refine J_aload_n hX dX12_doSheet_30 rfl 0 rfl ?_
      refine J_getR hX kf_RX12_7 dX12_doSheet_31 ka_426 (by decide) rfl rh_426_0 ?_
      refine J_iconst (v := (0 : Int32)) hX dX12_doSheet_34 (by decide) ?_
      refine J_iald (j := 0) hX dX12_doSheet_35 ka_427 le_427 (vp_lit (by decide)) (by decide) ?_
      refine J_nmI (fun y5 e_y5 => ?_)
      replace h := h y5 e_y5
      refine J_istore_n (lv2 := [(3, .int y5), (0, .ref (ad 426)), (1, .int x1), (2, .int x2)]) hX dX12_doSheet_36 rfl (Nat.le_of_ble_eq_true rfl) rfl ?_
      refine J_aload_n hX dX12_doSheet_37 rfl 1 rfl ?_
      refine J_getR hX kf_RX12_7 dX12_doSheet_38 ka_426 (by decide) rfl rh_426_0 ?_
      refine J_iconst (v := (0 : Int32)) hX dX12_doSheet_41 (by decide) ?_
      refine J_iload_n hX dX12_doSheet_42 rfl 2 rfl ?_
      refine J_iast (j := 0) hX dX12_doSheet_43 ka_427 le_427 (vp_lit (by decide)) (by decide) ?_
      refine J_nmM (fun m6 e_m6 => ?_)
      replace h := h m6 e_m6
      refine J_aload_n hX dX12_doSheet_44 rfl 1 rfl ?_
      refine J_getR hX kf_RX12_7 dX12_doSheet_45 ka_426 (by decide) rfl rh_426_0 ?_
      refine J_iconst (v := (1 : Int32)) hX dX12_doSheet_48 (by decide) ?_
      refine J_iload_n hX dX12_doSheet_49 rfl 3 rfl ?_
      refine J_iast (j := 1) hX dX12_doSheet_50 ka_427 le_427 (vp_lit (by decide)) (by decide) ?_
      refine J_nmM (fun m7 e_m7 => ?_)
      replace h := h m7 e_m7
      refine J_aload_n hX dX12_doSheet_51 rfl 1 rfl ?_
      refine J_callV hX km_X12_isValid kl_RX12_133 dX12_doSheet_52 ka_426 (by decide) [] ⟨Nat.le_of_ble_eq_true rfl, Nat.le_of_ble_eq_true rfl⟩ rfl rfl (Nat.le_of_ble_eq_true rfl) (c_X12_isValid m7 _ h) (fun v w2 hk => ?_)
      obtain ⟨y9, m8, rfl, rfl, h⟩ := hk
      show J X (0, 0) 55 [(3, .int y5), (0, .ref (ad 426)), (1, .int x1), (2, .int x2)] [.int y9] (fl ad m8)
      refine J_if_eq (tgt := 62) hX dX12_doSheet_55 (by decide) (fun c10 => ?_) (fun c10 => ?_)
      · replace h := Eq.mp (if_pos c10) h
        refine J_aload_n hX dX12_doSheet_62 rfl 1 rfl ?_
        refine J_bipush (v := (-4 : Int32)) hX dX12_doSheet_63 (by decide) ?_
        refine J_callV hX km_X12_refuse kl_RX12_130 dX12_doSheet_65 ka_426 (by decide) [.int (-4 : Int32)] ⟨Nat.le_of_ble_eq_true rfl, Nat.le_of_ble_eq_true rfl⟩ rfl rfl (Nat.le_of_ble_eq_true rfl) (c_X12_refuse (-4 : Int32) m8 _ h) (fun v w2 hk => ?_)
        obtain ⟨y12, m11, rfl, rfl, h⟩ := hk
        show J X (0, 0) 68 [(3, .int y5), (0, .ref (ad 426)), (1, .int x1), (2, .int x2)] [.int y12] (fl ad m11)
        exact J_iret hX hR dX12_doSheet_68 ⟨_, _, rfl, rfl, h⟩
      · replace h := Eq.mp (if_neg c10) h
        refine J_iload_n hX dX12_doSheet_58 rfl 0 rfl ?_
        refine J_goto (tgt := 68) hX dX12_doSheet_59 (by decide) ?_
        exact J_iret hX hR dX12_doSheet_68 ⟨_, _, rfl, rfl, h⟩
    · replace h := Eq.mp (if_pos c4) h
      exact J_sub [0] rfl (t_X12_doSheet_j24 hX hR m h)
set_option maxRecDepth 100000 in
theorem t_X12_doBase_j45 {X : XT} {ad : Nat → Nat} {K : Int32 → Mm → Prop} (hX : Cx X cX12_doBase 6 RX12 (rmN 4 89)) (hR : Rx X (some .int) (kI ad K) (0, 0)) (m : Mm) (h : wp_X12_doBase_j45 K m) : J X (0, 0) 45 [(0, .ref (ad 426))] [] (fl ad m) := by
  unfold wp_X12_doBase_j45 at h
  refine J_aload_n hX dX12_doBase_45 rfl 0 rfl ?_
  refine J_iconst (v := (-1 : Int32)) hX dX12_doBase_46 (by decide) ?_
  refine J_callV hX km_X12_refuse kl_RX12_130 dX12_doBase_47 ka_426 (by decide) [.int (-1 : Int32)] ⟨Nat.le_of_ble_eq_true rfl, Nat.le_of_ble_eq_true rfl⟩ rfl rfl (Nat.le_of_ble_eq_true rfl) (c_X12_refuse (-1 : Int32) m _ h) (fun v w2 hk => ?_)
  obtain ⟨y3, m2, rfl, rfl, h⟩ := hk
  show J X (0, 0) 50 [(0, .ref (ad 426))] [.int y3] (fl ad m2)
  exact J_iret hX hR dX12_doBase_50 ⟨_, _, rfl, rfl, h⟩
set_option maxRecDepth 100000 in
theorem c_X12_doBase {G : GT} {ad : Nat → Nat} (x1 : Int32) (x2 : Int32) (x3 : Int32) (x4 : Int32) (m : Mm) (K : Int32 → Mm → Prop) (h : wp_X12_doBase x1 x2 x3 x4 m K) : Cn G yX12_doBase cX12_doBase 6 (some .int) (rmN 4 89) [.ref (ad 426), .int x1, .int x2, .int x3, .int x4] (0, 0) (fl ad m) (kI ad K) := by
  unfold wp_X12_doBase at h
  refine Cn.of pn_RX12 (Nat.le_of_ble_eq_true rfl) (fun X hG hX hR => ?_)
  subst hG
  have hX : Cx X cX12_doBase 6 RX12 (rmN 4 89) := hX
  show J X (0, 0) 0 [(0, .ref (ad 426)), (1, .int x1), (2, .int x2), (3, .int x3), (4, .int x4)] [] (fl ad m)
  refine J_iload_n hX dX12_doBase_0 rfl 1 rfl ?_
  refine J_iconst (v := (0 : Int32)) hX dX12_doBase_1 (by decide) ?_
  refine J_sipush (v := (300 : Int32)) hX dX12_doBase_2 (by decide) ?_
  refine J_callS hX km_X12_in kl_RX12_87 dX12_doBase_5 [.int x1, .int (0 : Int32), .int (300 : Int32)] ⟨Nat.le_of_ble_eq_true rfl, Nat.le_of_ble_eq_true rfl⟩ rfl rfl (Nat.le_of_ble_eq_true rfl) (c_X12_in x1 (0 : Int32) (300 : Int32) m) (fun v w2 hk => ?_)
  obtain ⟨rfl, rfl⟩ := hk
  show J X (0, 0) 8 [(0, .ref (ad 426)), (1, .int x1), (2, .int x2), (3, .int x3), (4, .int x4)] [.int (v_X12_in x1 (0 : Int32) (300 : Int32))] (fl ad m)
  refine J_if_eq (tgt := 45) hX dX12_doBase_8 (by decide) (fun c1 => ?_) (fun c1 => ?_)
  · replace h := Eq.mp (if_pos c1) h
    exact J_sub [0] rfl (t_X12_doBase_j45 hX hR m h)
  · replace h := Eq.mp (if_neg c1) h
    refine J_iload_n hX dX12_doBase_11 rfl 2 rfl ?_
    refine J_iconst (v := (0 : Int32)) hX dX12_doBase_12 (by decide) ?_
    refine J_sipush (v := (300 : Int32)) hX dX12_doBase_13 (by decide) ?_
    refine J_callS hX km_X12_in kl_RX12_87 dX12_doBase_16 [.int x2, .int (0 : Int32), .int (300 : Int32)] ⟨Nat.le_of_ble_eq_true rfl, Nat.le_of_ble_eq_true rfl⟩ rfl rfl (Nat.le_of_ble_eq_true rfl) (c_X12_in x2 (0 : Int32) (300 : Int32) m) (fun v w2 hk => ?_)
    obtain ⟨rfl, rfl⟩ := hk
    show J X (0, 0) 19 [(0, .ref (ad 426)), (1, .int x1), (2, .int x2), (3, .int x3), (4, .int x4)] [.int (v_X12_in x2 (0 : Int32) (300 : Int32))] (fl ad m)
    refine J_if_eq (tgt := 45) hX dX12_doBase_19 (by decide) (fun c4 => ?_) (fun c4 => ?_)
    · replace h := Eq.mp (if_pos c4) h
      exact J_sub [0] rfl (t_X12_doBase_j45 hX hR m h)
    · replace h := Eq.mp (if_neg c4) h
      refine J_iload_n hX dX12_doBase_22 rfl 3 rfl ?_
      refine J_iconst (v := (1 : Int32)) hX dX12_doBase_23 (by decide) ?_
      refine J_sipush (v := (300 : Int32)) hX dX12_doBase_24 (by decide) ?_
      refine J_callS hX km_X12_in kl_RX12_87 dX12_doBase_27 [.int x3, .int (1 : Int32), .int (300 : Int32)] ⟨Nat.le_of_ble_eq_true rfl, Nat.le_of_ble_eq_true rfl⟩ rfl rfl (Nat.le_of_ble_eq_true rfl) (c_X12_in x3 (1 : Int32) (300 : Int32) m) (fun v w2 hk => ?_)
      obtain ⟨rfl, rfl⟩ := hk
      show J X (0, 0) 30 [(0, .ref (ad 426)), (1, .int x1), (2, .int x2), (3, .int x3), (4, .int x4)] [.int (v_X12_in x3 (1 : Int32) (300 : Int32))] (fl ad m)
      refine J_if_eq (tgt := 45) hX dX12_doBase_30 (by decide) (fun c5 => ?_) (fun c5 => ?_)
      · replace h := Eq.mp (if_pos c5) h
        exact J_sub [0] rfl (t_X12_doBase_j45 hX hR m h)
      · replace h := Eq.mp (if_neg c5) h
        refine J_iload hX dX12_doBase_33 4 rfl ?_
        refine J_iconst (v := (1 : Int32)) hX dX12_doBase_35 (by decide) ?_
        refine J_sipush (v := (300 : Int32)) hX dX12_doBase_36 (by decide) ?_
        refine J_callS hX km_X12_in kl_RX12_87 dX12_doBase_39 [.int x4, .int (1 : Int32), .int (300 : Int32)] ⟨Nat.le_of_ble_eq_true rfl, Nat.le_of_ble_eq_true rfl⟩ rfl rfl (Nat.le_of_ble_eq_true rfl) (c_X12_in x4 (1 : Int32) (300 : Int32) m) (fun v w2 hk => ?_)
        obtain ⟨rfl, rfl⟩ := hk
        show J X (0, 0) 42 [(0, .ref (ad 426)), (1, .int x1), (2, .int x2), (3, .int x3), (4, .int x4)] [.int (v_X12_in x4 (1 : Int32) (300 : Int32))] (fl ad m)
        refine J_if_ne (tgt := 51) hX dX12_doBase_42 (by decide) (fun c6 => ?_) (fun c6 => ?_)
        · replace h := Eq.mp (if_neg c6) h
          refine J_aload_n hX dX12_doBase_51 rfl 0 rfl ?_
          refine J_callV hX km_X12_many kl_RX12_83 dX12_doBase_52 ka_426 (by decide) [] ⟨Nat.le_of_ble_eq_true rfl, Nat.le_of_ble_eq_true rfl⟩ rfl rfl (Nat.le_of_ble_eq_true rfl) (c_X12_many m) (fun v w2 hk => ?_)
          obtain ⟨rfl, rfl⟩ := hk
          show J X (0, 0) 55 [(0, .ref (ad 426)), (1, .int x1), (2, .int x2), (3, .int x3), (4, .int x4)] [.int (v_X12_many m)] (fl ad m)
          refine J_nmI (fun y7 e_y7 => ?_)
          replace h := h y7 e_y7
          refine J_istore (lv2 := [(5, .int y7), (0, .ref (ad 426)), (1, .int x1), (2, .int x2), (3, .int x3), (4, .int x4)]) hX dX12_doBase_55 (Nat.le_of_ble_eq_true rfl) rfl ?_
          refine J_aload_n hX dX12_doBase_57 rfl 1 rfl ?_
          refine J_getR hX kf_RX12_7 dX12_doBase_58 ka_426 (by decide) rfl rh_426_0 ?_
          refine J_iconst (v := (2 : Int32)) hX dX12_doBase_61 (by decide) ?_
          refine J_iconst (v := (1 : Int32)) hX dX12_doBase_62 (by decide) ?_
          refine J_iast (j := 2) hX dX12_doBase_63 ka_427 le_427 (vp_lit (by decide)) (by decide) ?_
          refine J_nmM (fun m8 e_m8 => ?_)
          replace h := h m8 e_m8
          refine J_aload_n hX dX12_doBase_64 rfl 1 rfl ?_
          refine J_iconst (v := (0 : Int32)) hX dX12_doBase_65 (by decide) ?_
          refine J_callV hX km_X12_newPanel kl_RX12_141 dX12_doBase_66 ka_426 (by decide) [.int (0 : Int32)] ⟨Nat.le_of_ble_eq_true rfl, Nat.le_of_ble_eq_true rfl⟩ rfl rfl (Nat.le_of_ble_eq_true rfl) (c_X12_newPanel (0 : Int32) m8 _ h) (fun v w2 hk => ?_)
          obtain ⟨m9, rfl, rfl, h⟩ := hk
          show J X (0, 0) 69 [(5, .int y7), (0, .ref (ad 426)), (1, .int x1), (2, .int x2), (3, .int x3), (4, .int x4)] [] (fl ad m9)
          refine J_aload_n hX dX12_doBase_69 rfl 1 rfl ?_
          refine J_getR hX kf_RX12_7 dX12_doBase_70 ka_426 (by decide) rfl rh_426_0 ?_
          refine J_bipush (v := (121 : Int32)) hX dX12_doBase_73 (by decide) ?_
          refine J_iload_n hX dX12_doBase_75 rfl 2 rfl ?_
          refine J_iast (j := 121) hX dX12_doBase_76 ka_427 le_427 (vp_lit (by decide)) (by decide) ?_
          refine J_nmM (fun m10 e_m10 => ?_)
          replace h := h m10 e_m10
          refine J_aload_n hX dX12_doBase_77 rfl 1 rfl ?_
          refine J_getR hX kf_RX12_7 dX12_doBase_78 ka_426 (by decide) rfl rh_426_0 ?_
          refine J_bipush (v := (122 : Int32)) hX dX12_doBase_81 (by decide) ?_
          refine J_iload_n hX dX12_doBase_83 rfl 3 rfl ?_
          refine J_iast (j := 122) hX dX12_doBase_84 ka_427 le_427 (vp_lit (by decide)) (by decide) ?_
          refine J_nmM (fun m11 e_m11 => ?_)
          replace h := h m11 e_m11
          refine J_aload_n hX dX12_doBase_85 rfl 1 rfl ?_
          refine J_getR hX kf_RX12_7 dX12_doBase_86 ka_426 (by decide) rfl rh_426_0 ?_
          refine J_bipush (v := (123 : Int32)) hX dX12_doBase_89 (by decide) ?_
          refine J_iload_n hX dX12_doBase_91 rfl 4 rfl ?_
          refine J_iast (j := 123) hX dX12_doBase_92 ka_427 le_427 (vp_lit (by decide)) (by decide) ?_
          refine J_nmM (fun m12 e_m12 => ?_)
          replace h := h m12 e_m12
          refine J_aload_n hX dX12_doBase_93 rfl 1 rfl ?_
          refine J_getR hX kf_RX12_7 dX12_doBase_94 ka_426 (by decide) rfl rh_426_0 ?_
          refine J_bipush (v := (124 : Int32)) hX dX12_doBase_97 (by decide) ?_
          refine J_iload hX dX12_doBase_99 5 rfl ?_
          refine J_iast (j := 124) hX dX12_doBase_101 ka_427 le_427 (vp_lit (by decide)) (by decide) ?_
          refine J_nmM (fun m13 e_m13 => ?_)
          replace h := h m13 e_m13
          refine J_aload_n hX dX12_doBase_102 rfl 1 rfl ?_
          refine J_callV hX km_X12_isValid kl_RX12_133 dX12_doBase_103 ka_426 (by decide) [] ⟨Nat.le_of_ble_eq_true rfl, Nat.le_of_ble_eq_true rfl⟩ rfl rfl (Nat.le_of_ble_eq_true rfl) (c_X12_isValid m13 _ h) (fun v w2 hk => ?_)
          obtain ⟨y15, m14, rfl, rfl, h⟩ := hk
          show J X (0, 0) 106 [(5, .int y7), (0, .ref (ad 426)), (1, .int x1), (2, .int x2), (3, .int x3), (4, .int x4)] [.int y15] (fl ad m14)
          refine J_if_eq (tgt := 114) hX dX12_doBase_106 (by decide) (fun c16 => ?_) (fun c16 => ?_)
          · replace h := Eq.mp (if_pos c16) h
            refine J_aload_n hX dX12_doBase_114 rfl 1 rfl ?_
            refine J_bipush (v := (-4 : Int32)) hX dX12_doBase_115 (by decide) ?_
            refine J_callV hX km_X12_refuse kl_RX12_130 dX12_doBase_117 ka_426 (by decide) [.int (-4 : Int32)] ⟨Nat.le_of_ble_eq_true rfl, Nat.le_of_ble_eq_true rfl⟩ rfl rfl (Nat.le_of_ble_eq_true rfl) (c_X12_refuse (-4 : Int32) m14 _ h) (fun v w2 hk => ?_)
            obtain ⟨y18, m17, rfl, rfl, h⟩ := hk
            show J X (0, 0) 120 [(5, .int y7), (0, .ref (ad 426)), (1, .int x1), (2, .int x2), (3, .int x3), (4, .int x4)] [.int y18] (fl ad m17)
            exact J_iret hX hR dX12_doBase_120 ⟨_, _, rfl, rfl, h⟩
          · replace h := Eq.mp (if_neg c16) h
            refine J_iload hX dX12_doBase_109 0 rfl ?_
            refine J_goto (tgt := 120) hX dX12_doBase_111 (by decide) ?_
            exact J_iret hX hR dX12_doBase_120 ⟨_, _, rfl, rfl, h⟩
        · replace h := Eq.mp (if_pos c6) h
          exact J_sub [0] rfl (t_X12_doBase_j45 hX hR m h)
set_option maxRecDepth 100000 in
theorem t_X12_doFlap_j27 {X : XT} {ad : Nat → Nat} {K : Int32 → Mm → Prop} (hX : Cx X cX12_doFlap 4 RX12 (rmN 2 43)) (hR : Rx X (some .int) (kI ad K) (0, 0)) (m : Mm) (h : wp_X12_doFlap_j27 K m) : J X (0, 0) 27 [(0, .ref (ad 426))] [] (fl ad m) := by
  unfold wp_X12_doFlap_j27 at h
  refine J_aload_n hX dX12_doFlap_27 rfl 0 rfl ?_
  refine J_iconst (v := (-1 : Int32)) hX dX12_doFlap_28 (by decide) ?_
  refine J_callV hX km_X12_refuse kl_RX12_130 dX12_doFlap_29 ka_426 (by decide) [.int (-1 : Int32)] ⟨Nat.le_of_ble_eq_true rfl, Nat.le_of_ble_eq_true rfl⟩ rfl rfl (Nat.le_of_ble_eq_true rfl) (c_X12_refuse (-1 : Int32) m _ h) (fun v w2 hk => ?_)
  obtain ⟨y3, m2, rfl, rfl, h⟩ := hk
  show J X (0, 0) 32 [(0, .ref (ad 426))] [.int y3] (fl ad m2)
  exact J_iret hX hR dX12_doFlap_32 ⟨_, _, rfl, rfl, h⟩
set_option maxRecDepth 100000 in
theorem t_X12_doFlap_j33 {X : XT} {ad : Nat → Nat} {K : Int32 → Mm → Prop} (hX : Cx X cX12_doFlap 4 RX12 (rmN 2 43)) (hR : Rx X (some .int) (kI ad K) (0, 0)) (x1 : Int32) (x2 : Int32) (m : Mm) (h : wp_X12_doFlap_j33 K x1 x2 m) : J X (0, 0) 33 [(0, .ref (ad 426)), (1, .int x1), (2, .int x2)] [] (fl ad m) := by
  unfold wp_X12_doFlap_j33 at h
  refine J_aload_n hX dX12_doFlap_33 rfl 0 rfl ?_
  refine J_iload_n hX dX12_doFlap_34 rfl 1 rfl ?_
  refine J_bipush (v := (6 : Int32)) hX dX12_doFlap_35 (by decide) ?_
  obtain ⟨b5, h⟩ := h
  refine J_callV hX km_X12_of kl_RX12_91 dX12_doFlap_37 ka_426 (by decide) [.int x1, .int (6 : Int32)] ⟨Nat.le_of_ble_eq_true rfl, Nat.le_of_ble_eq_true rfl⟩ rfl rfl (Nat.le_of_ble_eq_true rfl) (c_X12_of x1 (6 : Int32) m b5) (fun v w2 hk => ?_)
  obtain ⟨rfl, rfl⟩ := hk
  show J X (0, 0) 40 [(0, .ref (ad 426)), (1, .int x1), (2, .int x2)] [.int (v_X12_of x1 (6 : Int32) m)] (fl ad m)
  refine J_nmI (fun y6 e_y6 => ?_)
  replace h := h y6 e_y6
  refine J_istore_n (lv2 := [(3, .int y6), (0, .ref (ad 426)), (1, .int x1), (2, .int x2)]) hX dX12_doFlap_40 rfl (Nat.le_of_ble_eq_true rfl) rfl ?_
  refine J_aload_n hX dX12_doFlap_41 rfl 1 rfl ?_
  refine J_iload_n hX dX12_doFlap_42 rfl 2 rfl ?_
  refine J_bipush (v := (6 : Int32)) hX dX12_doFlap_43 (by decide) ?_
  refine J_iload_n hX dX12_doFlap_45 rfl 3 rfl ?_
  refine J_callV hX km_X12_put kl_RX12_137 dX12_doFlap_46 ka_426 (by decide) [.int x1, .int (6 : Int32), .int x2] ⟨Nat.le_of_ble_eq_true rfl, Nat.le_of_ble_eq_true rfl⟩ rfl rfl (Nat.le_of_ble_eq_true rfl) (c_X12_put x1 (6 : Int32) x2 m _ h) (fun v w2 hk => ?_)
  obtain ⟨m7, rfl, rfl, h⟩ := hk
  show J X (0, 0) 49 [(3, .int y6), (0, .ref (ad 426)), (1, .int x1), (2, .int x2)] [] (fl ad m7)
  refine J_iload_n hX dX12_doFlap_49 rfl 0 rfl ?_
  exact J_iret hX hR dX12_doFlap_50 ⟨_, _, rfl, rfl, h⟩
set_option maxRecDepth 100000 in
theorem c_X12_doFlap {G : GT} {ad : Nat → Nat} (x1 : Int32) (x2 : Int32) (m : Mm) (K : Int32 → Mm → Prop) (h : wp_X12_doFlap x1 x2 m K) : Cn G yX12_doFlap cX12_doFlap 4 (some .int) (rmN 2 43) [.ref (ad 426), .int x1, .int x2] (0, 0) (fl ad m) (kI ad K) := by
  unfold wp_X12_doFlap at h
  refine Cn.of pn_RX12 (Nat.le_of_ble_eq_true rfl) (fun X hG hX hR => ?_)
  subst hG
  have hX : Cx X cX12_doFlap 4 RX12 (rmN 2 43) := hX
  show J X (0, 0) 0 [(0, .ref (ad 426)), (1, .int x1), (2, .int x2)] [] (fl ad m)
  refine J_aload_n hX dX12_doFlap_0 rfl 0 rfl ?_
  refine J_iload_n hX dX12_doFlap_1 rfl 1 rfl ?_
  refine J_callV hX km_X12_isHung kl_RX12_149 dX12_doFlap_2 ka_426 (by decide) [.int x1] ⟨Nat.le_of_ble_eq_true rfl, Nat.le_of_ble_eq_true rfl⟩ rfl rfl (Nat.le_of_ble_eq_true rfl) (c_X12_isHung x1 m) (fun v w2 hk => ?_)
  obtain ⟨rfl, rfl⟩ := hk
  show J X (0, 0) 5 [(0, .ref (ad 426)), (1, .int x1), (2, .int x2)] [.int (v_X12_isHung x1 m)] (fl ad m)
  refine J_if_eq (tgt := 27) hX dX12_doFlap_5 (by decide) (fun c1 => ?_) (fun c1 => ?_)
  · replace h := Eq.mp (if_pos c1) h
    exact J_sub [0] rfl (t_X12_doFlap_j27 hX hR m h)
  · replace h := Eq.mp (if_neg c1) h
    refine J_iload_n hX dX12_doFlap_8 rfl 2 rfl ?_
    refine J_bipush (v := (-9 : Int32)) hX dX12_doFlap_9 (by decide) ?_
    refine J_icmp_eq (tgt := 33) hX dX12_doFlap_11 (by decide) (fun c4 => ?_) (fun c4 => ?_)
    · replace h := Eq.mp (if_pos c4) h
      exact J_sub [0, 1, 2] rfl (t_X12_doFlap_j33 hX hR x1 x2 m h)
    · replace h := Eq.mp (if_neg c4) h
      refine J_aload_n hX dX12_doFlap_14 rfl 0 rfl ?_
      refine J_iload_n hX dX12_doFlap_15 rfl 2 rfl ?_
      refine J_callV hX km_X12_isPanel kl_RX12_145 dX12_doFlap_16 ka_426 (by decide) [.int x2] ⟨Nat.le_of_ble_eq_true rfl, Nat.le_of_ble_eq_true rfl⟩ rfl rfl (Nat.le_of_ble_eq_true rfl) (c_X12_isPanel x2 m) (fun v w2 hk => ?_)
      obtain ⟨rfl, rfl⟩ := hk
      show J X (0, 0) 19 [(0, .ref (ad 426)), (1, .int x1), (2, .int x2)] [.int (v_X12_isPanel x2 m)] (fl ad m)
      refine J_if_eq (tgt := 27) hX dX12_doFlap_19 (by decide) (fun c8 => ?_) (fun c8 => ?_)
      · replace h := Eq.mp (if_pos c8) h
        exact J_sub [0] rfl (t_X12_doFlap_j27 hX hR m h)
      · replace h := Eq.mp (if_neg c8) h
        refine J_iload_n hX dX12_doFlap_22 rfl 2 rfl ?_
        refine J_iload_n hX dX12_doFlap_23 rfl 1 rfl ?_
        refine J_icmp_ne (tgt := 33) hX dX12_doFlap_24 (by decide) (fun c9 => ?_) (fun c9 => ?_)
        · replace h := Eq.mp (if_neg c9) h
          exact J_sub [0, 1, 2] rfl (t_X12_doFlap_j33 hX hR x1 x2 m h)
        · replace h := Eq.mp (if_pos c9) h
          exact J_sub [0] rfl (t_X12_doFlap_j27 hX hR m h)
set_option maxRecDepth 100000 in
theorem t_X12_doImage_j31 {X : XT} {ad : Nat → Nat} {K : Int32 → Mm → Prop} (hX : Cx X cX12_doImage 5 RX12 (rmN 1 22)) (hR : Rx X (some .int) (kI ad K) (0, 0)) (m : Mm) (h : wp_X12_doImage_j31 K m) : J X (0, 0) 31 [(0, .ref (ad 426))] [] (fl ad m) := by
  unfold wp_X12_doImage_j31 at h
  refine J_aload_n hX dX12_doImage_31 rfl 0 rfl ?_
  refine J_iconst (v := (-1 : Int32)) hX dX12_doImage_32 (by decide) ?_
  refine J_callV hX km_X12_refuse kl_RX12_130 dX12_doImage_33 ka_426 (by decide) [.int (-1 : Int32)] ⟨Nat.le_of_ble_eq_true rfl, Nat.le_of_ble_eq_true rfl⟩ rfl rfl (Nat.le_of_ble_eq_true rfl) (c_X12_refuse (-1 : Int32) m _ h) (fun v w2 hk => ?_)
  obtain ⟨y3, m2, rfl, rfl, h⟩ := hk
  show J X (0, 0) 36 [(0, .ref (ad 426))] [.int y3] (fl ad m2)
  exact J_iret hX hR dX12_doImage_36 ⟨_, _, rfl, rfl, h⟩
set_option maxRecDepth 100000 in
theorem c_X12_doImage {G : GT} {ad : Nat → Nat} (x1 : Int32) (x2 : Int32) (x3 : Int32) (m : Mm) (K : Int32 → Mm → Prop) (h : wp_X12_doImage x1 x2 x3 m K) : Cn G yX12_doImage cX12_doImage 5 (some .int) (rmN 1 22) [.ref (ad 426), .int x1, .int x2, .int x3] (0, 0) (fl ad m) (kI ad K) := by
  unfold wp_X12_doImage at h
  refine Cn.of pn_RX12 (Nat.le_of_ble_eq_true rfl) (fun X hG hX hR => ?_)
  subst hG
  have hX : Cx X cX12_doImage 5 RX12 (rmN 1 22) := hX
  show J X (0, 0) 0 [(0, .ref (ad 426)), (1, .int x1), (2, .int x2), (3, .int x3)] [] (fl ad m)
  refine J_iload_n hX dX12_doImage_0 rfl 1 rfl ?_
  refine J_iconst (v := (0 : Int32)) hX dX12_doImage_1 (by decide) ?_
  refine J_iconst (v := (3 : Int32)) hX dX12_doImage_2 (by decide) ?_
  refine J_callS hX km_X12_in kl_RX12_87 dX12_doImage_3 [.int x1, .int (0 : Int32), .int (3 : Int32)] ⟨Nat.le_of_ble_eq_true rfl, Nat.le_of_ble_eq_true rfl⟩ rfl rfl (Nat.le_of_ble_eq_true rfl) (c_X12_in x1 (0 : Int32) (3 : Int32) m) (fun v w2 hk => ?_)
  obtain ⟨rfl, rfl⟩ := hk
  show J X (0, 0) 6 [(0, .ref (ad 426)), (1, .int x1), (2, .int x2), (3, .int x3)] [.int (v_X12_in x1 (0 : Int32) (3 : Int32))] (fl ad m)
  refine J_if_eq (tgt := 31) hX dX12_doImage_6 (by decide) (fun c1 => ?_) (fun c1 => ?_)
  · replace h := Eq.mp (if_pos c1) h
    exact J_sub [0] rfl (t_X12_doImage_j31 hX hR m h)
  · replace h := Eq.mp (if_neg c1) h
    refine J_iload_n hX dX12_doImage_9 rfl 2 rfl ?_
    refine J_iconst (v := (1 : Int32)) hX dX12_doImage_10 (by decide) ?_
    refine J_sipush (v := (200 : Int32)) hX dX12_doImage_11 (by decide) ?_
    refine J_callS hX km_X12_in kl_RX12_87 dX12_doImage_14 [.int x2, .int (1 : Int32), .int (200 : Int32)] ⟨Nat.le_of_ble_eq_true rfl, Nat.le_of_ble_eq_true rfl⟩ rfl rfl (Nat.le_of_ble_eq_true rfl) (c_X12_in x2 (1 : Int32) (200 : Int32) m) (fun v w2 hk => ?_)
    obtain ⟨rfl, rfl⟩ := hk
    show J X (0, 0) 17 [(0, .ref (ad 426)), (1, .int x1), (2, .int x2), (3, .int x3)] [.int (v_X12_in x2 (1 : Int32) (200 : Int32))] (fl ad m)
    refine J_if_eq (tgt := 31) hX dX12_doImage_17 (by decide) (fun c4 => ?_) (fun c4 => ?_)
    · replace h := Eq.mp (if_pos c4) h
      exact J_sub [0] rfl (t_X12_doImage_j31 hX hR m h)
    · replace h := Eq.mp (if_neg c4) h
      refine J_iload_n hX dX12_doImage_20 rfl 3 rfl ?_
      refine J_iconst (v := (1 : Int32)) hX dX12_doImage_21 (by decide) ?_
      refine J_sipush (v := (200 : Int32)) hX dX12_doImage_22 (by decide) ?_
      refine J_callS hX km_X12_in kl_RX12_87 dX12_doImage_25 [.int x3, .int (1 : Int32), .int (200 : Int32)] ⟨Nat.le_of_ble_eq_true rfl, Nat.le_of_ble_eq_true rfl⟩ rfl rfl (Nat.le_of_ble_eq_true rfl) (c_X12_in x3 (1 : Int32) (200 : Int32) m) (fun v w2 hk => ?_)
      obtain ⟨rfl, rfl⟩ := hk
      show J X (0, 0) 28 [(0, .ref (ad 426)), (1, .int x1), (2, .int x2), (3, .int x3)] [.int (v_X12_in x3 (1 : Int32) (200 : Int32))] (fl ad m)
      refine J_if_ne (tgt := 37) hX dX12_doImage_28 (by decide) (fun c5 => ?_) (fun c5 => ?_)
      · replace h := Eq.mp (if_neg c5) h
        refine J_aload_n hX dX12_doImage_37 rfl 0 rfl ?_
        refine J_getR hX kf_RX12_7 dX12_doImage_38 ka_426 (by decide) rfl rh_426_0 ?_
        refine J_iconst (v := (3 : Int32)) hX dX12_doImage_41 (by decide) ?_
        refine J_iconst (v := (2 : Int32)) hX dX12_doImage_42 (by decide) ?_
        refine J_iload_n hX dX12_doImage_43 rfl 1 rfl ?_
        refine J_imul hX dX12_doImage_44 ?_
        refine J_iadd hX dX12_doImage_45 ?_
        obtain ⟨b6, h⟩ := h
        refine J_iald (j := ((3 : Int32) + ((2 : Int32) * x1)).toNatClampNeg) hX dX12_doImage_46 ka_427 le_427 b6 rfl ?_
        have hj12 : ∀ y8 : Int32, y8 = (if (m.1 427 ((3 : Int32) + ((2 : Int32) * x1)).toNatClampNeg) ≤ (0 : Int32) then (0 : Int32) else (1 : Int32)) → J X (0, 0) 55 [(0, .ref (ad 426)), (1, .int x1), (2, .int x2), (3, .int x3)] [.int y8] (fl ad m) := by
          intro y8 e_y8
          replace h := h y8 e_y8
          refine J_istore (lv2 := [(4, .int y8), (0, .ref (ad 426)), (1, .int x1), (2, .int x2), (3, .int x3)]) hX dX12_doImage_55 (Nat.le_of_ble_eq_true rfl) rfl ?_
          refine J_aload_n hX dX12_doImage_57 rfl 1 rfl ?_
          refine J_getR hX kf_RX12_7 dX12_doImage_58 ka_426 (by decide) rfl rh_426_0 ?_
          refine J_iconst (v := (3 : Int32)) hX dX12_doImage_61 (by decide) ?_
          refine J_iconst (v := (2 : Int32)) hX dX12_doImage_62 (by decide) ?_
          refine J_iload_n hX dX12_doImage_63 rfl 2 rfl ?_
          refine J_imul hX dX12_doImage_64 ?_
          refine J_iadd hX dX12_doImage_65 ?_
          refine J_iload_n hX dX12_doImage_66 rfl 3 rfl ?_
          refine J_iast (j := ((3 : Int32) + ((2 : Int32) * x1)).toNatClampNeg) hX dX12_doImage_67 ka_427 le_427 b6 rfl ?_
          refine J_nmM (fun m9 e_m9 => ?_)
          replace h := h m9 e_m9
          refine J_aload_n hX dX12_doImage_68 rfl 1 rfl ?_
          refine J_getR hX kf_RX12_7 dX12_doImage_69 ka_426 (by decide) rfl rh_426_0 ?_
          refine J_iconst (v := (3 : Int32)) hX dX12_doImage_72 (by decide) ?_
          refine J_iconst (v := (2 : Int32)) hX dX12_doImage_73 (by decide) ?_
          refine J_iload_n hX dX12_doImage_74 rfl 2 rfl ?_
          refine J_imul hX dX12_doImage_75 ?_
          refine J_iadd hX dX12_doImage_76 ?_
          refine J_iconst (v := (1 : Int32)) hX dX12_doImage_77 (by decide) ?_
          refine J_iadd hX dX12_doImage_78 ?_
          refine J_iload_n hX dX12_doImage_79 rfl 4 rfl ?_
          obtain ⟨b10, h⟩ := h
          refine J_iast (j := (((3 : Int32) + ((2 : Int32) * x1)) + (1 : Int32)).toNatClampNeg) hX dX12_doImage_80 ka_427 le_427 b10 rfl ?_
          refine J_nmM (fun m11 e_m11 => ?_)
          replace h := h m11 e_m11
          refine J_iload hX dX12_doImage_81 0 rfl ?_
          exact J_iret hX hR dX12_doImage_83 ⟨_, _, rfl, rfl, h⟩
        refine J_if_le (tgt := 54) hX dX12_doImage_47 (by decide) (fun c7 => ?_) (fun c7 => ?_)
        · refine J_iconst (v := (0 : Int32)) hX dX12_doImage_54 (by decide) ?_
          exact J_sub [0, 1, 2, 3] rfl (hj12 _ (if_pos c7).symm)
        · refine J_iconst (v := (1 : Int32)) hX dX12_doImage_50 (by decide) ?_
          refine J_goto (tgt := 55) hX dX12_doImage_51 (by decide) ?_
          exact J_sub [0, 1, 2, 3] rfl (hj12 _ (if_neg c7).symm)
      · replace h := Eq.mp (if_pos c5) h
        exact J_sub [0] rfl (t_X12_doImage_j31 hX hR m h)
set_option maxRecDepth 100000 in
theorem t_X12_doPlace_j55 {X : XT} {ad : Nat → Nat} {K : Int32 → Mm → Prop} (hX : Cx X cX12_doPlace 7 RX12 (rmN 2 43)) (hR : Rx X (some .int) (kI ad K) (0, 0)) (m : Mm) (h : wp_X12_doPlace_j55 K m) : J X (0, 0) 55 [(0, .ref (ad 426))] [] (fl ad m) := by
  unfold wp_X12_doPlace_j55 at h
  refine J_aload_n hX dX12_doPlace_55 rfl 0 rfl ?_
  refine J_iconst (v := (-1 : Int32)) hX dX12_doPlace_56 (by decide) ?_
  refine J_callV hX km_X12_refuse kl_RX12_130 dX12_doPlace_57 ka_426 (by decide) [.int (-1 : Int32)] ⟨Nat.le_of_ble_eq_true rfl, Nat.le_of_ble_eq_true rfl⟩ rfl rfl (Nat.le_of_ble_eq_true rfl) (c_X12_refuse (-1 : Int32) m _ h) (fun v w2 hk => ?_)
  obtain ⟨y3, m2, rfl, rfl, h⟩ := hk
  show J X (0, 0) 60 [(0, .ref (ad 426))] [.int y3] (fl ad m2)
  exact J_iret hX hR dX12_doPlace_60 ⟨_, _, rfl, rfl, h⟩
set_option maxRecDepth 100000 in
theorem c_X12_doPlace {G : GT} {ad : Nat → Nat} (x1 : Int32) (x2 : Int32) (x3 : Int32) (x4 : Int32) (x5 : Int32) (m : Mm) (K : Int32 → Mm → Prop) (h : wp_X12_doPlace x1 x2 x3 x4 x5 m K) : Cn G yX12_doPlace cX12_doPlace 7 (some .int) (rmN 2 43) [.ref (ad 426), .int x1, .int x2, .int x3, .int x4, .int x5] (0, 0) (fl ad m) (kI ad K) := by
  unfold wp_X12_doPlace at h
  refine Cn.of pn_RX12 (Nat.le_of_ble_eq_true rfl) (fun X hG hX hR => ?_)
  subst hG
  have hX : Cx X cX12_doPlace 7 RX12 (rmN 2 43) := hX
  show J X (0, 0) 0 [(0, .ref (ad 426)), (1, .int x1), (2, .int x2), (3, .int x3), (4, .int x4), (5, .int x5)] [] (fl ad m)
  refine J_aload_n hX dX12_doPlace_0 rfl 0 rfl ?_
  refine J_iload_n hX dX12_doPlace_1 rfl 1 rfl ?_
  refine J_callV hX km_X12_isPanel kl_RX12_145 dX12_doPlace_2 ka_426 (by decide) [.int x1] ⟨Nat.le_of_ble_eq_true rfl, Nat.le_of_ble_eq_true rfl⟩ rfl rfl (Nat.le_of_ble_eq_true rfl) (c_X12_isPanel x1 m) (fun v w2 hk => ?_)
  obtain ⟨rfl, rfl⟩ := hk
  show J X (0, 0) 5 [(0, .ref (ad 426)), (1, .int x1), (2, .int x2), (3, .int x3), (4, .int x4), (5, .int x5)] [.int (v_X12_isPanel x1 m)] (fl ad m)
  refine J_if_eq (tgt := 55) hX dX12_doPlace_5 (by decide) (fun c1 => ?_) (fun c1 => ?_)
  · replace h := Eq.mp (if_pos c1) h
    exact J_sub [0] rfl (t_X12_doPlace_j55 hX hR m h)
  · replace h := Eq.mp (if_neg c1) h
    refine J_iload_n hX dX12_doPlace_8 rfl 2 rfl ?_
    refine J_iconst (v := (0 : Int32)) hX dX12_doPlace_9 (by decide) ?_
    refine J_iconst (v := (3 : Int32)) hX dX12_doPlace_10 (by decide) ?_
    refine J_callS hX km_X12_in kl_RX12_87 dX12_doPlace_11 [.int x2, .int (0 : Int32), .int (3 : Int32)] ⟨Nat.le_of_ble_eq_true rfl, Nat.le_of_ble_eq_true rfl⟩ rfl rfl (Nat.le_of_ble_eq_true rfl) (c_X12_in x2 (0 : Int32) (3 : Int32) m) (fun v w2 hk => ?_)
    obtain ⟨rfl, rfl⟩ := hk
    show J X (0, 0) 14 [(0, .ref (ad 426)), (1, .int x1), (2, .int x2), (3, .int x3), (4, .int x4), (5, .int x5)] [.int (v_X12_in x2 (0 : Int32) (3 : Int32))] (fl ad m)
    refine J_if_eq (tgt := 55) hX dX12_doPlace_14 (by decide) (fun c4 => ?_) (fun c4 => ?_)
    · replace h := Eq.mp (if_pos c4) h
      exact J_sub [0] rfl (t_X12_doPlace_j55 hX hR m h)
    · replace h := Eq.mp (if_neg c4) h
      refine J_iload_n hX dX12_doPlace_17 rfl 3 rfl ?_
      refine J_iconst (v := (0 : Int32)) hX dX12_doPlace_18 (by decide) ?_
      refine J_bipush (v := (7 : Int32)) hX dX12_doPlace_19 (by decide) ?_
      refine J_callS hX km_X12_in kl_RX12_87 dX12_doPlace_21 [.int x3, .int (0 : Int32), .int (7 : Int32)] ⟨Nat.le_of_ble_eq_true rfl, Nat.le_of_ble_eq_true rfl⟩ rfl rfl (Nat.le_of_ble_eq_true rfl) (c_X12_in x3 (0 : Int32) (7 : Int32) m) (fun v w2 hk => ?_)
      obtain ⟨rfl, rfl⟩ := hk
      show J X (0, 0) 24 [(0, .ref (ad 426)), (1, .int x1), (2, .int x2), (3, .int x3), (4, .int x4), (5, .int x5)] [.int (v_X12_in x3 (0 : Int32) (7 : Int32))] (fl ad m)
      refine J_if_eq (tgt := 55) hX dX12_doPlace_24 (by decide) (fun c5 => ?_) (fun c5 => ?_)
      · replace h := Eq.mp (if_pos c5) h
        exact J_sub [0] rfl (t_X12_doPlace_j55 hX hR m h)
      · replace h := Eq.mp (if_neg c5) h
        refine J_iload hX dX12_doPlace_27 4 rfl ?_
        refine J_sipush (v := (-300 : Int32)) hX dX12_doPlace_29 (by decide) ?_
        refine J_sipush (v := (300 : Int32)) hX dX12_doPlace_32 (by decide) ?_
        refine J_callS hX km_X12_in kl_RX12_87 dX12_doPlace_35 [.int x4, .int (-300 : Int32), .int (300 : Int32)] ⟨Nat.le_of_ble_eq_true rfl, Nat.le_of_ble_eq_true rfl⟩ rfl rfl (Nat.le_of_ble_eq_true rfl) (c_X12_in x4 (-300 : Int32) (300 : Int32) m) (fun v w2 hk => ?_)
        obtain ⟨rfl, rfl⟩ := hk
        show J X (0, 0) 38 [(0, .ref (ad 426)), (1, .int x1), (2, .int x2), (3, .int x3), (4, .int x4), (5, .int x5)] [.int (v_X12_in x4 (-300 : Int32) (300 : Int32))] (fl ad m)
        refine J_if_eq (tgt := 55) hX dX12_doPlace_38 (by decide) (fun c6 => ?_) (fun c6 => ?_)
        · replace h := Eq.mp (if_pos c6) h
          exact J_sub [0] rfl (t_X12_doPlace_j55 hX hR m h)
        · replace h := Eq.mp (if_neg c6) h
          refine J_iload hX dX12_doPlace_41 5 rfl ?_
          refine J_sipush (v := (-300 : Int32)) hX dX12_doPlace_43 (by decide) ?_
          refine J_sipush (v := (300 : Int32)) hX dX12_doPlace_46 (by decide) ?_
          refine J_callS hX km_X12_in kl_RX12_87 dX12_doPlace_49 [.int x5, .int (-300 : Int32), .int (300 : Int32)] ⟨Nat.le_of_ble_eq_true rfl, Nat.le_of_ble_eq_true rfl⟩ rfl rfl (Nat.le_of_ble_eq_true rfl) (c_X12_in x5 (-300 : Int32) (300 : Int32) m) (fun v w2 hk => ?_)
          obtain ⟨rfl, rfl⟩ := hk
          show J X (0, 0) 52 [(0, .ref (ad 426)), (1, .int x1), (2, .int x2), (3, .int x3), (4, .int x4), (5, .int x5)] [.int (v_X12_in x5 (-300 : Int32) (300 : Int32))] (fl ad m)
          refine J_if_ne (tgt := 61) hX dX12_doPlace_52 (by decide) (fun c7 => ?_) (fun c7 => ?_)
          · replace h := Eq.mp (if_neg c7) h
            refine J_aload_n hX dX12_doPlace_61 rfl 0 rfl ?_
            refine J_getR hX kf_RX12_7 dX12_doPlace_62 ka_426 (by decide) rfl rh_426_0 ?_
            refine J_iconst (v := (3 : Int32)) hX dX12_doPlace_65 (by decide) ?_
            refine J_iconst (v := (2 : Int32)) hX dX12_doPlace_66 (by decide) ?_
            refine J_iload_n hX dX12_doPlace_67 rfl 2 rfl ?_
            refine J_imul hX dX12_doPlace_68 ?_
            refine J_iadd hX dX12_doPlace_69 ?_
            obtain ⟨b8, h⟩ := h
            refine J_iald (j := ((3 : Int32) + ((2 : Int32) * x2)).toNatClampNeg) hX dX12_doPlace_70 ka_427 le_427 b8 rfl ?_
            refine J_if_ne (tgt := 81) hX dX12_doPlace_71 (by decide) (fun c9 => ?_) (fun c9 => ?_)
            · replace h := Eq.mp (if_neg c9) h
              refine J_aload_n hX dX12_doPlace_81 rfl 0 rfl ?_
              refine J_iload_n hX dX12_doPlace_82 rfl 1 rfl ?_
              refine J_bipush (v := (7 : Int32)) hX dX12_doPlace_83 (by decide) ?_
              obtain ⟨b10, h⟩ := h
              refine J_callV hX km_X12_of kl_RX12_91 dX12_doPlace_85 ka_426 (by decide) [.int x1, .int (7 : Int32)] ⟨Nat.le_of_ble_eq_true rfl, Nat.le_of_ble_eq_true rfl⟩ rfl rfl (Nat.le_of_ble_eq_true rfl) (c_X12_of x1 (7 : Int32) m b10) (fun v w2 hk => ?_)
              obtain ⟨rfl, rfl⟩ := hk
              show J X (0, 0) 88 [(0, .ref (ad 426)), (1, .int x1), (2, .int x2), (3, .int x3), (4, .int x4), (5, .int x5)] [.int (v_X12_of x1 (7 : Int32) m)] (fl ad m)
              refine J_nmI (fun y11 e_y11 => ?_)
              replace h := h y11 e_y11
              refine J_istore (lv2 := [(6, .int y11), (0, .ref (ad 426)), (1, .int x1), (2, .int x2), (3, .int x3), (4, .int x4), (5, .int x5)]) hX dX12_doPlace_88 (Nat.le_of_ble_eq_true rfl) rfl ?_
              refine J_aload_n hX dX12_doPlace_90 rfl 1 rfl ?_
              refine J_iload_n hX dX12_doPlace_91 rfl 2 rfl ?_
              refine J_bipush (v := (7 : Int32)) hX dX12_doPlace_92 (by decide) ?_
              refine J_iload_n hX dX12_doPlace_94 rfl 3 rfl ?_
              refine J_callV hX km_X12_put kl_RX12_137 dX12_doPlace_95 ka_426 (by decide) [.int x1, .int (7 : Int32), .int x2] ⟨Nat.le_of_ble_eq_true rfl, Nat.le_of_ble_eq_true rfl⟩ rfl rfl (Nat.le_of_ble_eq_true rfl) (c_X12_put x1 (7 : Int32) x2 m _ h) (fun v w2 hk => ?_)
              obtain ⟨m12, rfl, rfl, h⟩ := hk
              show J X (0, 0) 98 [(6, .int y11), (0, .ref (ad 426)), (1, .int x1), (2, .int x2), (3, .int x3), (4, .int x4), (5, .int x5)] [] (fl ad m12)
              refine J_aload_n hX dX12_doPlace_98 rfl 1 rfl ?_
              refine J_iload_n hX dX12_doPlace_99 rfl 2 rfl ?_
              refine J_bipush (v := (8 : Int32)) hX dX12_doPlace_100 (by decide) ?_
              refine J_iload_n hX dX12_doPlace_102 rfl 4 rfl ?_
              refine J_callV hX km_X12_put kl_RX12_137 dX12_doPlace_103 ka_426 (by decide) [.int x1, .int (8 : Int32), .int x3] ⟨Nat.le_of_ble_eq_true rfl, Nat.le_of_ble_eq_true rfl⟩ rfl rfl (Nat.le_of_ble_eq_true rfl) (c_X12_put x1 (8 : Int32) x3 m12 _ h) (fun v w2 hk => ?_)
              obtain ⟨m13, rfl, rfl, h⟩ := hk
              show J X (0, 0) 106 [(6, .int y11), (0, .ref (ad 426)), (1, .int x1), (2, .int x2), (3, .int x3), (4, .int x4), (5, .int x5)] [] (fl ad m13)
              refine J_aload_n hX dX12_doPlace_106 rfl 1 rfl ?_
              refine J_iload_n hX dX12_doPlace_107 rfl 2 rfl ?_
              refine J_bipush (v := (9 : Int32)) hX dX12_doPlace_108 (by decide) ?_
              refine J_iload hX dX12_doPlace_110 5 rfl ?_
              refine J_callV hX km_X12_put kl_RX12_137 dX12_doPlace_112 ka_426 (by decide) [.int x1, .int (9 : Int32), .int x4] ⟨Nat.le_of_ble_eq_true rfl, Nat.le_of_ble_eq_true rfl⟩ rfl rfl (Nat.le_of_ble_eq_true rfl) (c_X12_put x1 (9 : Int32) x4 m13 _ h) (fun v w2 hk => ?_)
              obtain ⟨m14, rfl, rfl, h⟩ := hk
              show J X (0, 0) 115 [(6, .int y11), (0, .ref (ad 426)), (1, .int x1), (2, .int x2), (3, .int x3), (4, .int x4), (5, .int x5)] [] (fl ad m14)
              refine J_aload_n hX dX12_doPlace_115 rfl 1 rfl ?_
              refine J_iload_n hX dX12_doPlace_116 rfl 2 rfl ?_
              refine J_bipush (v := (10 : Int32)) hX dX12_doPlace_117 (by decide) ?_
              refine J_iload hX dX12_doPlace_119 6 rfl ?_
              refine J_callV hX km_X12_put kl_RX12_137 dX12_doPlace_121 ka_426 (by decide) [.int x1, .int (10 : Int32), .int x5] ⟨Nat.le_of_ble_eq_true rfl, Nat.le_of_ble_eq_true rfl⟩ rfl rfl (Nat.le_of_ble_eq_true rfl) (c_X12_put x1 (10 : Int32) x5 m14 _ h) (fun v w2 hk => ?_)
              obtain ⟨m15, rfl, rfl, h⟩ := hk
              show J X (0, 0) 124 [(6, .int y11), (0, .ref (ad 426)), (1, .int x1), (2, .int x2), (3, .int x3), (4, .int x4), (5, .int x5)] [] (fl ad m15)
              refine J_iload hX dX12_doPlace_124 0 rfl ?_
              exact J_iret hX hR dX12_doPlace_126 ⟨_, _, rfl, rfl, h⟩
            · replace h := Eq.mp (if_pos c9) h
              refine J_aload_n hX dX12_doPlace_74 rfl 0 rfl ?_
              refine J_bipush (v := (-2 : Int32)) hX dX12_doPlace_75 (by decide) ?_
              refine J_callV hX km_X12_refuse kl_RX12_130 dX12_doPlace_77 ka_426 (by decide) [.int (-2 : Int32)] ⟨Nat.le_of_ble_eq_true rfl, Nat.le_of_ble_eq_true rfl⟩ rfl rfl (Nat.le_of_ble_eq_true rfl) (c_X12_refuse (-2 : Int32) m _ h) (fun v w2 hk => ?_)
              obtain ⟨y17, m16, rfl, rfl, h⟩ := hk
              show J X (0, 0) 80 [(0, .ref (ad 426)), (1, .int x1), (2, .int x2), (3, .int x3), (4, .int x4), (5, .int x5)] [.int y17] (fl ad m16)
              exact J_iret hX hR dX12_doPlace_80 ⟨_, _, rfl, rfl, h⟩
          · replace h := Eq.mp (if_pos c7) h
            exact J_sub [0] rfl (t_X12_doPlace_j55 hX hR m h)
set_option maxRecDepth 100000 in
theorem c_X12_carryOut {G : GT} {ad : Nat → Nat} (x1 : Int32) (m : Mm) (K : Mm → Prop) (h : wp_X12_carryOut x1 m K) : Cn G yX12_carryOut cX12_carryOut 2 none (rmN 5 116) [.ref (ad 426), .int x1] (0, 0) (fl ad m) (kV ad K) := by
  unfold wp_X12_carryOut at h
  refine Cn.of pn_RX12 (Nat.le_of_ble_eq_true rfl) (fun X hG hX hR => ?_)
  subst hG
  have hX : Cx X cX12_carryOut 2 RX12 (rmN 5 116) := hX
  show J X (0, 0) 0 [(0, .ref (ad 426)), (1, .int x1)] [] (fl ad m)
  refine J_iload_n hX dX12_carryOut_0 rfl 1 rfl ?_
  by_cases c1 : x1 = (98 : Int32)
  · replace h := Eq.mp (if_pos c1) h
    refine J_lookIn (v := (98 : Int32)) (tgt := 72) hX dX12_carryOut_1 (by decide) c1 rfl (by decide) ?_
    refine J_aload_n hX dX12_carryOut_72 rfl 0 rfl ?_
    refine J_aload_n hX dX12_carryOut_73 rfl 0 rfl ?_
    refine J_getR hX kf_RX12_41 dX12_carryOut_74 ka_426 (by decide) rfl rh_426_15 ?_
    refine J_iconst (v := (0 : Int32)) hX dX12_carryOut_77 (by decide) ?_
    refine J_iald (j := 0) hX dX12_carryOut_78 ka_437 le_437 (vp_lit (by decide)) (by decide) ?_
    refine J_aload_n hX dX12_carryOut_79 rfl 0 rfl ?_
    refine J_getR hX kf_RX12_41 dX12_carryOut_80 ka_426 (by decide) rfl rh_426_15 ?_
    refine J_iconst (v := (1 : Int32)) hX dX12_carryOut_83 (by decide) ?_
    refine J_iald (j := 1) hX dX12_carryOut_84 ka_437 le_437 (vp_lit (by decide)) (by decide) ?_
    refine J_aload_n hX dX12_carryOut_85 rfl 0 rfl ?_
    refine J_getR hX kf_RX12_41 dX12_carryOut_86 ka_426 (by decide) rfl rh_426_15 ?_
    refine J_iconst (v := (2 : Int32)) hX dX12_carryOut_89 (by decide) ?_
    refine J_iald (j := 2) hX dX12_carryOut_90 ka_437 le_437 (vp_lit (by decide)) (by decide) ?_
    refine J_aload_n hX dX12_carryOut_91 rfl 0 rfl ?_
    refine J_getR hX kf_RX12_41 dX12_carryOut_92 ka_426 (by decide) rfl rh_426_15 ?_
    refine J_iconst (v := (3 : Int32)) hX dX12_carryOut_95 (by decide) ?_
    refine J_iald (j := 3) hX dX12_carryOut_96 ka_437 le_437 (vp_lit (by decide)) (by decide) ?_
    refine J_callV hX km_X12_doBase kl_RX12_155 dX12_carryOut_97 ka_426 (by decide) [.int (m.1 437 0), .int (m.1 437 1), .int (m.1 437 2), .int (m.1 437 3)] ⟨Nat.le_of_ble_eq_true rfl, Nat.le_of_ble_eq_true rfl⟩ rfl rfl (Nat.le_of_ble_eq_true rfl) (c_X12_doBase (m.1 437 0) (m.1 437 1) (m.1 437 2) (m.1 437 3) m _ h) (fun v w2 hk => ?_)
    obtain ⟨y3, m2, rfl, rfl, h⟩ := hk
    show J X (0, 0) 100 [(0, .ref (ad 426)), (1, .int x1)] [.int y3] (fl ad m2)
    refine J_pop hX dX12_carryOut_100 rfl ?_
    refine J_goto (tgt := 282) hX dX12_carryOut_101 (by decide) ?_
    exact J_vret hX hR dX12_carryOut_282 ⟨_, rfl, rfl, h⟩
  · replace h := Eq.mp (if_neg c1) h
    by_cases c4 : x1 = (102 : Int32)
    · replace h := Eq.mp (if_pos c4) h
      refine J_lookIn (v := (102 : Int32)) (tgt := 182) hX dX12_carryOut_1 (by decide) c4 rfl (by decide) ?_
      refine J_aload_n hX dX12_carryOut_182 rfl 0 rfl ?_
      refine J_aload_n hX dX12_carryOut_183 rfl 0 rfl ?_
      refine J_getR hX kf_RX12_41 dX12_carryOut_184 ka_426 (by decide) rfl rh_426_15 ?_
      refine J_iconst (v := (0 : Int32)) hX dX12_carryOut_187 (by decide) ?_
      refine J_iald (j := 0) hX dX12_carryOut_188 ka_437 le_437 (vp_lit (by decide)) (by decide) ?_
      refine J_aload_n hX dX12_carryOut_189 rfl 0 rfl ?_
      refine J_aload_n hX dX12_carryOut_190 rfl 0 rfl ?_
      refine J_getR hX kf_RX12_41 dX12_carryOut_191 ka_426 (by decide) rfl rh_426_15 ?_
      refine J_iconst (v := (1 : Int32)) hX dX12_carryOut_194 (by decide) ?_
      refine J_iald (j := 1) hX dX12_carryOut_195 ka_437 le_437 (vp_lit (by decide)) (by decide) ?_
      refine J_callV hX km_X12_isPanel kl_RX12_145 dX12_carryOut_196 ka_426 (by decide) [.int (m.1 437 1)] ⟨Nat.le_of_ble_eq_true rfl, Nat.le_of_ble_eq_true rfl⟩ rfl rfl (Nat.le_of_ble_eq_true rfl) (c_X12_isPanel (m.1 437 1) m) (fun v w2 hk => ?_)
      obtain ⟨rfl, rfl⟩ := hk
      show J X (0, 0) 199 [(0, .ref (ad 426)), (1, .int x1)] [.int (v_X12_isPanel (m.1 437 1) m), .int (m.1 437 0), .ref (ad 426)] (fl ad m)
      have hj9 : ∀ y6 : Int32, y6 = (if (v_X12_isPanel (m.1 437 1) m) = (0 : Int32) then (300 : Int32) else (m.1 437 1)) → J X (0, 0) 214 [] [.int y6, .int (m.1 437 0), .ref (ad 426)] (fl ad m) := by
        intro y6 e_y6
        replace h := h y6 e_y6
        refine J_callV hX km_X12_doFlap kl_RX12_162 dX12_carryOut_214 ka_426 (by decide) [.int (m.1 437 0), .int y6] ⟨Nat.le_of_ble_eq_true rfl, Nat.le_of_ble_eq_true rfl⟩ rfl rfl (Nat.le_of_ble_eq_true rfl) (c_X12_doFlap (m.1 437 0) y6 m _ h) (fun v w2 hk => ?_)
        obtain ⟨y8, m7, rfl, rfl, h⟩ := hk
        show J X (0, 0) 217 [] [.int y8] (fl ad m7)
        refine J_pop hX dX12_carryOut_217 rfl ?_
        refine J_goto (tgt := 282) hX dX12_carryOut_218 (by decide) ?_
        exact J_vret hX hR dX12_carryOut_282 ⟨_, rfl, rfl, h⟩
      refine J_if_eq (tgt := 211) hX dX12_carryOut_199 (by decide) (fun c5 => ?_) (fun c5 => ?_)
      · refine J_sipush (v := (300 : Int32)) hX dX12_carryOut_211 (by decide) ?_
        exact J_sub [] rfl (hj9 _ (if_pos c5).symm)
      · refine J_aload_n hX dX12_carryOut_202 rfl 0 rfl ?_
        refine J_getR hX kf_RX12_41 dX12_carryOut_203 ka_426 (by decide) rfl rh_426_15 ?_
        refine J_iconst (v := (1 : Int32)) hX dX12_carryOut_206 (by decide) ?_
        refine J_iald (j := 1) hX dX12_carryOut_207 ka_437 le_437 (vp_lit (by decide)) (by decide) ?_
        refine J_goto (tgt := 214) hX dX12_carryOut_208 (by decide) ?_
        exact J_sub [] rfl (hj9 _ (if_neg c5).symm)
    · replace h := Eq.mp (if_neg c4) h
      by_cases c10 : x1 = (105 : Int32)
      · replace h := Eq.mp (if_pos c10) h
        refine J_lookIn (v := (105 : Int32)) (tgt := 221) hX dX12_carryOut_1 (by decide) c10 rfl (by decide) ?_
        refine J_aload_n hX dX12_carryOut_221 rfl 0 rfl ?_
        refine J_aload_n hX dX12_carryOut_222 rfl 0 rfl ?_
        refine J_getR hX kf_RX12_41 dX12_carryOut_223 ka_426 (by decide) rfl rh_426_15 ?_
        refine J_iconst (v := (0 : Int32)) hX dX12_carryOut_226 (by decide) ?_
        refine J_iald (j := 0) hX dX12_carryOut_227 ka_437 le_437 (vp_lit (by decide)) (by decide) ?_
        refine J_aload_n hX dX12_carryOut_228 rfl 0 rfl ?_
        refine J_getR hX kf_RX12_41 dX12_carryOut_229 ka_426 (by decide) rfl rh_426_15 ?_
        refine J_iconst (v := (1 : Int32)) hX dX12_carryOut_232 (by decide) ?_
        refine J_iald (j := 1) hX dX12_carryOut_233 ka_437 le_437 (vp_lit (by decide)) (by decide) ?_
        refine J_aload_n hX dX12_carryOut_234 rfl 0 rfl ?_
        refine J_getR hX kf_RX12_41 dX12_carryOut_235 ka_426 (by decide) rfl rh_426_15 ?_
        refine J_iconst (v := (2 : Int32)) hX dX12_carryOut_238 (by decide) ?_
        refine J_iald (j := 2) hX dX12_carryOut_239 ka_437 le_437 (vp_lit (by decide)) (by decide) ?_
        refine J_callV hX km_X12_doImage kl_RX12_165 dX12_carryOut_240 ka_426 (by decide) [.int (m.1 437 0), .int (m.1 437 1), .int (m.1 437 2)] ⟨Nat.le_of_ble_eq_true rfl, Nat.le_of_ble_eq_true rfl⟩ rfl rfl (Nat.le_of_ble_eq_true rfl) (c_X12_doImage (m.1 437 0) (m.1 437 1) (m.1 437 2) m _ h) (fun v w2 hk => ?_)
        obtain ⟨y12, m11, rfl, rfl, h⟩ := hk
        show J X (0, 0) 243 [(0, .ref (ad 426)), (1, .int x1)] [.int y12] (fl ad m11)
        refine J_pop hX dX12_carryOut_243 rfl ?_
        refine J_goto (tgt := 282) hX dX12_carryOut_244 (by decide) ?_
        exact J_vret hX hR dX12_carryOut_282 ⟨_, rfl, rfl, h⟩
      · replace h := Eq.mp (if_neg c10) h
        by_cases c13 : x1 = (112 : Int32)
        · replace h := Eq.mp (if_pos c13) h
          refine J_lookIn (v := (112 : Int32)) (tgt := 104) hX dX12_carryOut_1 (by decide) c13 rfl (by decide) ?_
          refine J_aload_n hX dX12_carryOut_104 rfl 0 rfl ?_
          refine J_aload_n hX dX12_carryOut_105 rfl 0 rfl ?_
          refine J_getR hX kf_RX12_41 dX12_carryOut_106 ka_426 (by decide) rfl rh_426_15 ?_
          refine J_iconst (v := (0 : Int32)) hX dX12_carryOut_109 (by decide) ?_
          refine J_iald (j := 0) hX dX12_carryOut_110 ka_437 le_437 (vp_lit (by decide)) (by decide) ?_
          refine J_aload_n hX dX12_carryOut_111 rfl 0 rfl ?_
          refine J_getR hX kf_RX12_41 dX12_carryOut_112 ka_426 (by decide) rfl rh_426_15 ?_
          refine J_iconst (v := (1 : Int32)) hX dX12_carryOut_115 (by decide) ?_
          refine J_iald (j := 1) hX dX12_carryOut_116 ka_437 le_437 (vp_lit (by decide)) (by decide) ?_
          refine J_aload_n hX dX12_carryOut_117 rfl 0 rfl ?_
          refine J_getR hX kf_RX12_41 dX12_carryOut_118 ka_426 (by decide) rfl rh_426_15 ?_
          refine J_iconst (v := (2 : Int32)) hX dX12_carryOut_121 (by decide) ?_
          refine J_iald (j := 2) hX dX12_carryOut_122 ka_437 le_437 (vp_lit (by decide)) (by decide) ?_
          refine J_aload_n hX dX12_carryOut_123 rfl 0 rfl ?_
          refine J_getR hX kf_RX12_41 dX12_carryOut_124 ka_426 (by decide) rfl rh_426_15 ?_
          refine J_iconst (v := (3 : Int32)) hX dX12_carryOut_127 (by decide) ?_
          refine J_iald (j := 3) hX dX12_carryOut_128 ka_437 le_437 (vp_lit (by decide)) (by decide) ?_
          refine J_aload_n hX dX12_carryOut_129 rfl 0 rfl ?_
          refine J_getR hX kf_RX12_41 dX12_carryOut_130 ka_426 (by decide) rfl rh_426_15 ?_
          refine J_iconst (v := (4 : Int32)) hX dX12_carryOut_133 (by decide) ?_
          refine J_iald (j := 4) hX dX12_carryOut_134 ka_437 le_437 (vp_lit (by decide)) (by decide) ?_
          refine J_aload_n hX dX12_carryOut_135 rfl 0 rfl ?_
          refine J_getR hX kf_RX12_41 dX12_carryOut_136 ka_426 (by decide) rfl rh_426_15 ?_
          refine J_iconst (v := (5 : Int32)) hX dX12_carryOut_139 (by decide) ?_
          refine J_iald (j := 5) hX dX12_carryOut_140 ka_437 le_437 (vp_lit (by decide)) (by decide) ?_
          refine J_iconst (v := (0 : Int32)) hX dX12_carryOut_141 (by decide) ?_
          refine J_iconst (v := (3 : Int32)) hX dX12_carryOut_142 (by decide) ?_
          refine J_callS hX km_X12_in kl_RX12_87 dX12_carryOut_143 [.int (m.1 437 5), .int (0 : Int32), .int (3 : Int32)] ⟨Nat.le_of_ble_eq_true rfl, Nat.le_of_ble_eq_true rfl⟩ rfl rfl (Nat.le_of_ble_eq_true rfl) (c_X12_in (m.1 437 5) (0 : Int32) (3 : Int32) m) (fun v w2 hk => ?_)
          obtain ⟨rfl, rfl⟩ := hk
          show J X (0, 0) 146 [(0, .ref (ad 426)), (1, .int x1)] [.int (v_X12_in (m.1 437 5) (0 : Int32) (3 : Int32)), .int (m.1 437 4), .int (m.1 437 3), .int (m.1 437 2), .int (m.1 437 1), .int (m.1 437 0), .ref (ad 426)] (fl ad m)
          have hj19 : ∀ y16 : Int32, y16 = (if (v_X12_in (m.1 437 5) (0 : Int32) (3 : Int32)) = (0 : Int32) then (300 : Int32) else (if (m.1 437 5) = (3 : Int32) then (-1 : Int32) else (m.1 437 5))) → J X (0, 0) 175 [] [.int y16, .int (m.1 437 4), .int (m.1 437 3), .int (m.1 437 2), .int (m.1 437 1), .int (m.1 437 0), .ref (ad 426)] (fl ad m) := by
            intro y16 e_y16
            replace h := h y16 e_y16
            refine J_callV hX km_X12_doPanel kl_RX12_158 dX12_carryOut_175 ka_426 (by decide) [.int (m.1 437 0), .int (m.1 437 1), .int (m.1 437 2), .int (m.1 437 3), .int (m.1 437 4), .int y16] ⟨Nat.le_of_ble_eq_true rfl, Nat.le_of_ble_eq_true rfl⟩ rfl rfl (Nat.le_of_ble_eq_true rfl) (c_X12_doPanel (m.1 437 0) (m.1 437 1) (m.1 437 2) (m.1 437 3) (m.1 437 4) y16 m _ h) (fun v w2 hk => ?_)
            obtain ⟨y18, m17, rfl, rfl, h⟩ := hk
            show J X (0, 0) 178 [] [.int y18] (fl ad m17)
            refine J_pop hX dX12_carryOut_178 rfl ?_
            refine J_goto (tgt := 282) hX dX12_carryOut_179 (by decide) ?_
            exact J_vret hX hR dX12_carryOut_282 ⟨_, rfl, rfl, h⟩
          refine J_if_eq (tgt := 172) hX dX12_carryOut_146 (by decide) (fun c14 => ?_) (fun c14 => ?_)
          · refine J_sipush (v := (300 : Int32)) hX dX12_carryOut_172 (by decide) ?_
            exact J_sub [] rfl (hj19 _ (if_pos c14).symm)
          · refine J_aload_n hX dX12_carryOut_149 rfl 0 rfl ?_
            refine J_getR hX kf_RX12_41 dX12_carryOut_150 ka_426 (by decide) rfl rh_426_15 ?_
            refine J_iconst (v := (5 : Int32)) hX dX12_carryOut_153 (by decide) ?_
            refine J_iald (j := 5) hX dX12_carryOut_154 ka_437 le_437 (vp_lit (by decide)) (by decide) ?_
            refine J_iconst (v := (3 : Int32)) hX dX12_carryOut_155 (by decide) ?_
            refine J_icmp_ne (tgt := 163) hX dX12_carryOut_156 (by decide) (fun c15 => ?_) (fun c15 => ?_)
            · refine J_aload_n hX dX12_carryOut_163 rfl 0 rfl ?_
              refine J_getR hX kf_RX12_41 dX12_carryOut_164 ka_426 (by decide) rfl rh_426_15 ?_
              refine J_iconst (v := (5 : Int32)) hX dX12_carryOut_167 (by decide) ?_
              refine J_iald (j := 5) hX dX12_carryOut_168 ka_437 le_437 (vp_lit (by decide)) (by decide) ?_
              refine J_goto (tgt := 175) hX dX12_carryOut_169 (by decide) ?_
              exact J_sub [] rfl (hj19 _ ((if_neg c14).trans (if_neg c15)).symm)
            · refine J_iconst (v := (-1 : Int32)) hX dX12_carryOut_159 (by decide) ?_
              refine J_goto (tgt := 175) hX dX12_carryOut_160 (by decide) ?_
              exact J_sub [] rfl (hj19 _ ((if_neg c14).trans (if_pos c15)).symm)
        · replace h := Eq.mp (if_neg c13) h
          by_cases c20 : x1 = (115 : Int32)
          · replace h := Eq.mp (if_pos c20) h
            refine J_lookIn (v := (115 : Int32)) (tgt := 52) hX dX12_carryOut_1 (by decide) c20 rfl (by decide) ?_
            refine J_aload_n hX dX12_carryOut_52 rfl 0 rfl ?_
            refine J_aload_n hX dX12_carryOut_53 rfl 0 rfl ?_
            refine J_getR hX kf_RX12_41 dX12_carryOut_54 ka_426 (by decide) rfl rh_426_15 ?_
            refine J_iconst (v := (0 : Int32)) hX dX12_carryOut_57 (by decide) ?_
            refine J_iald (j := 0) hX dX12_carryOut_58 ka_437 le_437 (vp_lit (by decide)) (by decide) ?_
            refine J_aload_n hX dX12_carryOut_59 rfl 0 rfl ?_
            refine J_getR hX kf_RX12_41 dX12_carryOut_60 ka_426 (by decide) rfl rh_426_15 ?_
            refine J_iconst (v := (1 : Int32)) hX dX12_carryOut_63 (by decide) ?_
            refine J_iald (j := 1) hX dX12_carryOut_64 ka_437 le_437 (vp_lit (by decide)) (by decide) ?_
            refine J_callV hX km_X12_doSheet kl_RX12_152 dX12_carryOut_65 ka_426 (by decide) [.int (m.1 437 0), .int (m.1 437 1)] ⟨Nat.le_of_ble_eq_true rfl, Nat.le_of_ble_eq_true rfl⟩ rfl rfl (Nat.le_of_ble_eq_true rfl) (c_X12_doSheet (m.1 437 0) (m.1 437 1) m _ h) (fun v w2 hk => ?_)
            obtain ⟨y22, m21, rfl, rfl, h⟩ := hk
            show J X (0, 0) 68 [(0, .ref (ad 426)), (1, .int x1)] [.int y22] (fl ad m21)
            refine J_pop hX dX12_carryOut_68 rfl ?_
            refine J_goto (tgt := 282) hX dX12_carryOut_69 (by decide) ?_
            exact J_vret hX hR dX12_carryOut_282 ⟨_, rfl, rfl, h⟩
          · replace h := Eq.mp (if_neg c20) h
            refine J_lookOut (off := 246) (tgt := 247) hX dX12_carryOut_1 (by decide) ((lv_osw c1 (by decide)).trans ((lv_osw c4 (by decide)).trans ((lv_osw c10 (by decide)).trans ((lv_osw c13 (by decide)).trans ((lv_osw c20 (by decide)).trans rfl))))) (by decide) ?_
            refine J_aload_n hX dX12_carryOut_247 rfl 0 rfl ?_
            refine J_aload_n hX dX12_carryOut_248 rfl 0 rfl ?_
            refine J_getR hX kf_RX12_41 dX12_carryOut_249 ka_426 (by decide) rfl rh_426_15 ?_
            refine J_iconst (v := (0 : Int32)) hX dX12_carryOut_252 (by decide) ?_
            refine J_iald (j := 0) hX dX12_carryOut_253 ka_437 le_437 (vp_lit (by decide)) (by decide) ?_
            refine J_aload_n hX dX12_carryOut_254 rfl 0 rfl ?_
            refine J_getR hX kf_RX12_41 dX12_carryOut_255 ka_426 (by decide) rfl rh_426_15 ?_
            refine J_iconst (v := (1 : Int32)) hX dX12_carryOut_258 (by decide) ?_
            refine J_iald (j := 1) hX dX12_carryOut_259 ka_437 le_437 (vp_lit (by decide)) (by decide) ?_
            refine J_aload_n hX dX12_carryOut_260 rfl 0 rfl ?_
            refine J_getR hX kf_RX12_41 dX12_carryOut_261 ka_426 (by decide) rfl rh_426_15 ?_
            refine J_iconst (v := (2 : Int32)) hX dX12_carryOut_264 (by decide) ?_
            refine J_iald (j := 2) hX dX12_carryOut_265 ka_437 le_437 (vp_lit (by decide)) (by decide) ?_
            refine J_aload_n hX dX12_carryOut_266 rfl 0 rfl ?_
            refine J_getR hX kf_RX12_41 dX12_carryOut_267 ka_426 (by decide) rfl rh_426_15 ?_
            refine J_iconst (v := (3 : Int32)) hX dX12_carryOut_270 (by decide) ?_
            refine J_iald (j := 3) hX dX12_carryOut_271 ka_437 le_437 (vp_lit (by decide)) (by decide) ?_
            refine J_aload_n hX dX12_carryOut_272 rfl 0 rfl ?_
            refine J_getR hX kf_RX12_41 dX12_carryOut_273 ka_426 (by decide) rfl rh_426_15 ?_
            refine J_iconst (v := (4 : Int32)) hX dX12_carryOut_276 (by decide) ?_
            refine J_iald (j := 4) hX dX12_carryOut_277 ka_437 le_437 (vp_lit (by decide)) (by decide) ?_
            refine J_callV hX km_X12_doPlace kl_RX12_169 dX12_carryOut_278 ka_426 (by decide) [.int (m.1 437 0), .int (m.1 437 1), .int (m.1 437 2), .int (m.1 437 3), .int (m.1 437 4)] ⟨Nat.le_of_ble_eq_true rfl, Nat.le_of_ble_eq_true rfl⟩ rfl rfl (Nat.le_of_ble_eq_true rfl) (c_X12_doPlace (m.1 437 0) (m.1 437 1) (m.1 437 2) (m.1 437 3) (m.1 437 4) m _ h) (fun v w2 hk => ?_)
            obtain ⟨y24, m23, rfl, rfl, h⟩ := hk
            show J X (0, 0) 281 [(0, .ref (ad 426)), (1, .int x1)] [.int y24] (fl ad m23)
            refine J_pop hX dX12_carryOut_281 rfl ?_
            exact J_vret hX hR dX12_carryOut_282 ⟨_, rfl, rfl, h⟩
set_option maxRecDepth 100000 in
theorem tb_X12_clearDesign_l2 {X : XT} {ad : Nat → Nat} {K : Mm → Prop} (hX : Cx X cX12_clearDesign 2 RX12 (rmN 0 0)) (hR : Rx X none (kV ad K) (0, 0)) {rec : Int32 → Mm → Prop} {k21 : Mm → Prop} (hrec : ∀ (x1 : Int32) (m : Mm), rec x1 m → J X (0, 0) 2 [(0, .ref (ad 426)), (1, .int x1)] [] (fl ad m)) (hk21 : ∀ (m : Mm), k21 m → J X (0, 0) 21 [(0, .ref (ad 426))] [] (fl ad m)) (x1 : Int32) (m : Mm) (h : wb_X12_clearDesign_l2 rec k21 K x1 m) : J X (0, 0) 2 [(0, .ref (ad 426)), (1, .int x1)] [] (fl ad m) := by
  unfold wb_X12_clearDesign_l2 at h
  refine J_iload_n hX dX12_clearDesign_2 rfl 1 rfl ?_
  refine J_bipush (v := (125 : Int32)) hX dX12_clearDesign_3 (by decide) ?_
  refine J_icmp_ge (tgt := 21) hX dX12_clearDesign_5 (by decide) (fun c1 => ?_) (fun c1 => ?_)
  · replace h := Eq.mp (if_pos c1) h
    exact J_sub [0] rfl (hk21 m h)
  · replace h := Eq.mp (if_neg c1) h
    refine J_aload_n hX dX12_clearDesign_8 rfl 0 rfl ?_
    refine J_getR hX kf_RX12_7 dX12_clearDesign_9 ka_426 (by decide) rfl rh_426_0 ?_
    refine J_iload_n hX dX12_clearDesign_12 rfl 1 rfl ?_
    refine J_iconst (v := (0 : Int32)) hX dX12_clearDesign_13 (by decide) ?_
    obtain ⟨b2, h⟩ := h
    refine J_iast (j := x1.toNatClampNeg) hX dX12_clearDesign_14 ka_427 le_427 b2 rfl ?_
    refine J_nmM (fun m3 e_m3 => ?_)
    replace h := h m3 e_m3
    refine J_iinc (x := (x1 + (1 : Int32))) (lv2 := [(1, .int (x1 + (1 : Int32))), (0, .ref (ad 426))]) hX dX12_clearDesign_15 1 rfl rfl (Nat.le_of_ble_eq_true rfl) rfl ?_
    refine J_goto (tgt := 2) hX dX12_clearDesign_18 (by decide) ?_
    exact J_sub [1, 0] rfl (hrec (x1 + (1 : Int32)) m3 h)
set_option maxRecDepth 100000 in
theorem t_X12_clearDesign_l2 {X : XT} {ad : Nat → Nat} {K : Mm → Prop} (hX : Cx X cX12_clearDesign 2 RX12 (rmN 0 0)) (hR : Rx X none (kV ad K) (0, 0)) {k21 : Mm → Prop} (hk21 : ∀ (m : Mm), k21 m → J X (0, 0) 21 [(0, .ref (ad 426))] [] (fl ad m)) : ∀ (n : Nat) (x1 : Int32) (m : Mm), wp_X12_clearDesign_l2 k21 K n x1 m → J X (0, 0) 2 [(0, .ref (ad 426)), (1, .int x1)] [] (fl ad m) := by
  intro n
  induction n with
  | zero => intro x1 m h; exact h.elim
  | succ n ih => intro x1 m h; exact tb_X12_clearDesign_l2 hX hR ih hk21 x1 m h
set_option maxRecDepth 100000 in
theorem c_X12_clearDesign {G : GT} {ad : Nat → Nat} (m : Mm) (K : Mm → Prop) (h : wp_X12_clearDesign m K) : Cn G yX12_clearDesign cX12_clearDesign 2 none (rmN 0 0) [.ref (ad 426)] (0, 0) (fl ad m) (kV ad K) := by
  unfold wp_X12_clearDesign at h
  refine Cn.of pn_RX12 (Nat.le_of_ble_eq_true rfl) (fun X hG hX hR => ?_)
  subst hG
  have hX : Cx X cX12_clearDesign 2 RX12 (rmN 0 0) := hX
  show J X (0, 0) 0 [(0, .ref (ad 426))] [] (fl ad m)
  refine J_iconst (v := (0 : Int32)) hX dX12_clearDesign_0 (by decide) ?_
  refine J_istore_n (lv2 := [(1, .int (0 : Int32)), (0, .ref (ad 426))]) hX dX12_clearDesign_1 rfl (Nat.le_of_ble_eq_true rfl) rfl ?_
  refine J_sub [1, 0] rfl (t_X12_clearDesign_l2 hX hR (fun m4 h => ?_) FU (0 : Int32) m h)
  refine J_aload_n hX dX12_clearDesign_21 rfl 0 rfl ?_
  refine J_getR hX kf_RX12_7 dX12_clearDesign_22 ka_426 (by decide) rfl rh_426_0 ?_
  refine J_iconst (v := (0 : Int32)) hX dX12_clearDesign_25 (by decide) ?_
  refine J_sipush (v := (200 : Int32)) hX dX12_clearDesign_26 (by decide) ?_
  refine J_iast (j := 0) hX dX12_clearDesign_29 ka_427 le_427 (vp_lit (by decide)) (by decide) ?_
  refine J_nmM (fun m5 e_m5 => ?_)
  replace h := h m5 e_m5
  refine J_aload_n hX dX12_clearDesign_30 rfl 0 rfl ?_
  refine J_getR hX kf_RX12_7 dX12_clearDesign_31 ka_426 (by decide) rfl rh_426_0 ?_
  refine J_iconst (v := (1 : Int32)) hX dX12_clearDesign_34 (by decide) ?_
  refine J_sipush (v := (200 : Int32)) hX dX12_clearDesign_35 (by decide) ?_
  refine J_iast (j := 1) hX dX12_clearDesign_38 ka_427 le_427 (vp_lit (by decide)) (by decide) ?_
  refine J_nmM (fun m6 e_m6 => ?_)
  replace h := h m6 e_m6
  exact J_vret hX hR dX12_clearDesign_39 ⟨_, rfl, rfl, h⟩
set_option maxRecDepth 100000 in
theorem c_X12_clearImage {G : GT} {ad : Nat → Nat} (x1 : Int32) (m : Mm) (K : Int32 → Mm → Prop) (h : wp_X12_clearImage x1 m K) : Cn G yX12_clearImage cX12_clearImage 3 (some .int) (rmN 2 43) [.ref (ad 426), .int x1] (0, 0) (fl ad m) (kI ad K) := by
  unfold wp_X12_clearImage at h
  refine Cn.of pn_RX12 (Nat.le_of_ble_eq_true rfl) (fun X hG hX hR => ?_)
  subst hG
  have hX : Cx X cX12_clearImage 3 RX12 (rmN 2 43) := hX
  show J X (0, 0) 0 [(0, .ref (ad 426)), (1, .int x1)] [] (fl ad m)
  refine J_aload_n hX dX12_clearImage_0 rfl 0 rfl ?_
  refine J_callV hX km_X12_begins kl_RX12_103 dX12_clearImage_1 ka_426 (by decide) [] ⟨Nat.le_of_ble_eq_true rfl, Nat.le_of_ble_eq_true rfl⟩ rfl rfl (Nat.le_of_ble_eq_true rfl) (c_X12_begins m _ h) (fun v w2 hk => ?_)
  obtain ⟨m1, rfl, rfl, h⟩ := hk
  show J X (0, 0) 4 [(0, .ref (ad 426)), (1, .int x1)] [] (fl ad m1)
  refine J_aload_n hX dX12_clearImage_4 rfl 0 rfl ?_
  refine J_iload_n hX dX12_clearImage_5 rfl 1 rfl ?_
  refine J_callV hX km_X12_isPanel kl_RX12_145 dX12_clearImage_6 ka_426 (by decide) [.int x1] ⟨Nat.le_of_ble_eq_true rfl, Nat.le_of_ble_eq_true rfl⟩ rfl rfl (Nat.le_of_ble_eq_true rfl) (c_X12_isPanel x1 m1) (fun v w2 hk => ?_)
  obtain ⟨rfl, rfl⟩ := hk
  show J X (0, 0) 9 [(0, .ref (ad 426)), (1, .int x1)] [.int (v_X12_isPanel x1 m1)] (fl ad m1)
  refine J_if_ne (tgt := 14) hX dX12_clearImage_9 (by decide) (fun c2 => ?_) (fun c2 => ?_)
  · replace h := Eq.mp (if_neg c2) h
    refine J_aload_n hX dX12_clearImage_14 rfl 0 rfl ?_
    refine J_iload_n hX dX12_clearImage_15 rfl 1 rfl ?_
    refine J_bipush (v := (7 : Int32)) hX dX12_clearImage_16 (by decide) ?_
    obtain ⟨b3, h⟩ := h
    refine J_callV hX km_X12_of kl_RX12_91 dX12_clearImage_18 ka_426 (by decide) [.int x1, .int (7 : Int32)] ⟨Nat.le_of_ble_eq_true rfl, Nat.le_of_ble_eq_true rfl⟩ rfl rfl (Nat.le_of_ble_eq_true rfl) (c_X12_of x1 (7 : Int32) m1 b3) (fun v w2 hk => ?_)
    obtain ⟨rfl, rfl⟩ := hk
    show J X (0, 0) 21 [(0, .ref (ad 426)), (1, .int x1)] [.int (v_X12_of x1 (7 : Int32) m1)] (fl ad m1)
    refine J_nmI (fun y4 e_y4 => ?_)
    replace h := h y4 e_y4
    refine J_istore_n (lv2 := [(2, .int y4), (0, .ref (ad 426)), (1, .int x1)]) hX dX12_clearImage_21 rfl (Nat.le_of_ble_eq_true rfl) rfl ?_
    refine J_iload_n hX dX12_clearImage_22 rfl 0 rfl ?_
    refine J_bipush (v := (-9 : Int32)) hX dX12_clearImage_23 (by decide) ?_
    refine J_icmp_ne (tgt := 31) hX dX12_clearImage_25 (by decide) (fun c5 => ?_) (fun c5 => ?_)
    · replace h := Eq.mp (if_neg c5) h
      refine J_aload_n hX dX12_clearImage_31 rfl 1 rfl ?_
      refine J_iload_n hX dX12_clearImage_32 rfl 2 rfl ?_
      refine J_bipush (v := (7 : Int32)) hX dX12_clearImage_33 (by decide) ?_
      refine J_bipush (v := (-9 : Int32)) hX dX12_clearImage_35 (by decide) ?_
      refine J_callV hX km_X12_put kl_RX12_137 dX12_clearImage_37 ka_426 (by decide) [.int x1, .int (7 : Int32), .int (-9 : Int32)] ⟨Nat.le_of_ble_eq_true rfl, Nat.le_of_ble_eq_true rfl⟩ rfl rfl (Nat.le_of_ble_eq_true rfl) (c_X12_put x1 (7 : Int32) (-9 : Int32) m1 _ h) (fun v w2 hk => ?_)
      obtain ⟨m6, rfl, rfl, h⟩ := hk
      show J X (0, 0) 40 [(2, .int y4), (0, .ref (ad 426)), (1, .int x1)] [] (fl ad m6)
      refine J_aload_n hX dX12_clearImage_40 rfl 1 rfl ?_
      refine J_iload_n hX dX12_clearImage_41 rfl 0 rfl ?_
      refine J_callV hX km_X12_ends kl_RX12_106 dX12_clearImage_42 ka_426 (by decide) [.int y4] ⟨Nat.le_of_ble_eq_true rfl, Nat.le_of_ble_eq_true rfl⟩ rfl rfl (Nat.le_of_ble_eq_true rfl) (c_X12_ends y4 m6 _ h) (fun v w2 hk => ?_)
      obtain ⟨y8, m7, rfl, rfl, h⟩ := hk
      show J X (0, 0) 45 [(2, .int y4), (0, .ref (ad 426)), (1, .int x1)] [.int y8] (fl ad m7)
      exact J_iret hX hR dX12_clearImage_45 ⟨_, _, rfl, rfl, h⟩
    · replace h := Eq.mp (if_pos c5) h
      refine J_bipush (v := (-2 : Int32)) hX dX12_clearImage_28 (by decide) ?_
      exact J_iret hX hR dX12_clearImage_30 ⟨_, _, rfl, rfl, h⟩
  · replace h := Eq.mp (if_pos c2) h
    refine J_iconst (v := (-1 : Int32)) hX dX12_clearImage_12 (by decide) ?_
    exact J_iret hX hR dX12_clearImage_13 ⟨_, _, rfl, rfl, h⟩
set_option maxRecDepth 100000 in
theorem c_X12_clearText {G : GT} {ad : Nat → Nat} (m : Mm) (K : Int32 → Mm → Prop) (h : wp_X12_clearText m K) : Cn G yX12_clearText cX12_clearText 2 (some .int) (rmN 0 0) [.ref (ad 426)] (0, 0) (fl ad m) (kI ad K) := by
  unfold wp_X12_clearText at h
  refine Cn.of pn_RX12 (Nat.le_of_ble_eq_true rfl) (fun X hG hX hR => ?_)
  subst hG
  have hX : Cx X cX12_clearText 2 RX12 (rmN 0 0) := hX
  show J X (0, 0) 0 [(0, .ref (ad 426))] [] (fl ad m)
  refine J_aload_n hX dX12_clearText_0 rfl 0 rfl ?_
  refine J_getI hX kf_RX12_173 dX12_clearText_1 ka_426 (by decide) rfl ?_
  refine J_nmI (fun y1 e_y1 => ?_)
  replace h := h y1 e_y1
  refine J_istore_n (lv2 := [(1, .int y1), (0, .ref (ad 426))]) hX dX12_clearText_4 rfl (Nat.le_of_ble_eq_true rfl) rfl ?_
  refine J_aload_n hX dX12_clearText_5 rfl 1 rfl ?_
  refine J_iconst (v := (0 : Int32)) hX dX12_clearText_6 (by decide) ?_
  refine J_putI hX kf_RX12_173 dX12_clearText_7 ka_426 (by decide) rfl ?_
  refine J_nmM (fun m2 e_m2 => ?_)
  replace h := h m2 e_m2
  refine J_iload_n hX dX12_clearText_10 rfl 0 rfl ?_
  exact J_iret hX hR dX12_clearText_11 ⟨_, _, rfl, rfl, h⟩
set_option maxRecDepth 100000 in
theorem c_X12_onTurned {G : GT} {ad : Nat → Nat} (x0 : Int32) (x1 : Int32) (x2 : Int32) (x3 : Int32) (x4 : Int32) (x5 : Int32) (m : Mm) : Cn G yX12_onTurned cX12_onTurned 10 (some .int) (rmN 0 0) [.int x0, .int x1, .int x2, .int x3, .int x4, .int x5] (0, 0) (fl ad m) (fun v w => v = some (.int (v_X12_onTurned x0 x1 x2 x3 x4 x5)) ∧ w = fl ad m) := by
  refine Cn.of pn_RX12 (Nat.le_of_ble_eq_true rfl) (fun X hG hX hR => ?_)
  subst hG
  have hX : Cx X cX12_onTurned 10 RX12 (rmN 0 0) := hX
  show J X (0, 0) 0 [(0, .int x0), (1, .int x1), (2, .int x2), (3, .int x3), (4, .int x4), (5, .int x5)] [] (fl ad m)
  refine J_iload_n hX dX12_onTurned_0 rfl 0 rfl ?_
  refine J_iconst (v := (3 : Int32)) hX dX12_onTurned_1 (by decide) ?_
  have hj9 : ∀ y10 : Int32, y10 = (if x0 ≤ (3 : Int32) then x3 else (x1 - x3)) → J X (0, 0) 12 [(0, .int x0), (1, .int x1), (2, .int x2), (4, .int x4), (5, .int x5)] [.int y10] (fl ad m) := by
    intro y10 e_y10
    subst e_y10
    refine J_istore (lv2 := [(6, .int (if x0 ≤ (3 : Int32) then x3 else (x1 - x3))), (0, .int x0), (1, .int x1), (2, .int x2), (4, .int x4), (5, .int x5)]) hX dX12_onTurned_12 (Nat.le_of_ble_eq_true rfl) rfl ?_
    refine J_iload_n hX dX12_onTurned_14 rfl 1 rfl ?_
    refine J_iconst (v := (4 : Int32)) hX dX12_onTurned_15 (by decide) ?_
    refine J_irem hX dX12_onTurned_16 (by decide) ?_
    refine J_istore (lv2 := [(7, .int (rm32 x0 (4 : Int32))), (6, .int (if x0 ≤ (3 : Int32) then x3 else (x1 - x3))), (0, .int x0), (1, .int x1), (2, .int x2), (4, .int x4), (5, .int x5)]) hX dX12_onTurned_17 (Nat.le_of_ble_eq_true rfl) rfl ?_
    refine J_iload hX dX12_onTurned_19 0 rfl ?_
    have hj11 : ∀ y12 : Int32, y12 = (if (rm32 x0 (4 : Int32)) = (0 : Int32) then (if x0 ≤ (3 : Int32) then x3 else (x1 - x3)) else (if (rm32 x0 (4 : Int32)) = (1 : Int32) then (x2 - x4) else (if (rm32 x0 (4 : Int32)) = (2 : Int32) then (x1 - (if x0 ≤ (3 : Int32) then x3 else (x1 - x3))) else x4))) → J X (0, 0) 57 [(1, .int x1), (2, .int x2), (4, .int x4), (5, .int x5), (6, .int (if x0 ≤ (3 : Int32) then x3 else (x1 - x3))), (7, .int (rm32 x0 (4 : Int32)))] [.int y12] (fl ad m) := by
      intro y12 e_y12
      subst e_y12
      refine J_istore (lv2 := [(8, .int (if (rm32 x0 (4 : Int32)) = (0 : Int32) then (if x0 ≤ (3 : Int32) then x3 else (x1 - x3)) else (if (rm32 x0 (4 : Int32)) = (1 : Int32) then (x2 - x4) else (if (rm32 x0 (4 : Int32)) = (2 : Int32) then (x1 - (if x0 ≤ (3 : Int32) then x3 else (x1 - x3))) else x4)))), (1, .int x1), (2, .int x2), (4, .int x4), (5, .int x5), (6, .int (if x0 ≤ (3 : Int32) then x3 else (x1 - x3))), (7, .int (rm32 x0 (4 : Int32)))]) hX dX12_onTurned_57 (Nat.le_of_ble_eq_true rfl) rfl ?_
      refine J_iload hX dX12_onTurned_59 6 rfl ?_
      have hj13 : ∀ y14 : Int32, y14 = (if (rm32 x0 (4 : Int32)) = (0 : Int32) then x4 else (if (rm32 x0 (4 : Int32)) = (1 : Int32) then (if x0 ≤ (3 : Int32) then x3 else (x1 - x3)) else (if (rm32 x0 (4 : Int32)) = (2 : Int32) then (x2 - x4) else (x1 - (if x0 ≤ (3 : Int32) then x3 else (x1 - x3)))))) → J X (0, 0) 97 [(5, .int x5), (8, .int (if (rm32 x0 (4 : Int32)) = (0 : Int32) then (if x0 ≤ (3 : Int32) then x3 else (x1 - x3)) else (if (rm32 x0 (4 : Int32)) = (1 : Int32) then (x2 - x4) else (if (rm32 x0 (4 : Int32)) = (2 : Int32) then (x1 - (if x0 ≤ (3 : Int32) then x3 else (x1 - x3))) else x4))))] [.int y14] (fl ad m) := by
        intro y14 e_y14
        subst e_y14
        refine J_istore (lv2 := [(9, .int (if (rm32 x0 (4 : Int32)) = (0 : Int32) then x4 else (if (rm32 x0 (4 : Int32)) = (1 : Int32) then (if x0 ≤ (3 : Int32) then x3 else (x1 - x3)) else (if (rm32 x0 (4 : Int32)) = (2 : Int32) then (x2 - x4) else (x1 - (if x0 ≤ (3 : Int32) then x3 else (x1 - x3))))))), (5, .int x5), (8, .int (if (rm32 x0 (4 : Int32)) = (0 : Int32) then (if x0 ≤ (3 : Int32) then x3 else (x1 - x3)) else (if (rm32 x0 (4 : Int32)) = (1 : Int32) then (x2 - x4) else (if (rm32 x0 (4 : Int32)) = (2 : Int32) then (x1 - (if x0 ≤ (3 : Int32) then x3 else (x1 - x3))) else x4))))]) hX dX12_onTurned_97 (Nat.le_of_ble_eq_true rfl) rfl ?_
        refine J_iload hX dX12_onTurned_99 1 rfl ?_
        have hj15 : ∀ y16 : Int32, y16 = (if x5 = (0 : Int32) then (if (rm32 x0 (4 : Int32)) = (0 : Int32) then (if x0 ≤ (3 : Int32) then x3 else (x1 - x3)) else (if (rm32 x0 (4 : Int32)) = (1 : Int32) then (x2 - x4) else (if (rm32 x0 (4 : Int32)) = (2 : Int32) then (x1 - (if x0 ≤ (3 : Int32) then x3 else (x1 - x3))) else x4))) else (if (rm32 x0 (4 : Int32)) = (0 : Int32) then x4 else (if (rm32 x0 (4 : Int32)) = (1 : Int32) then (if x0 ≤ (3 : Int32) then x3 else (x1 - x3)) else (if (rm32 x0 (4 : Int32)) = (2 : Int32) then (x2 - x4) else (x1 - (if x0 ≤ (3 : Int32) then x3 else (x1 - x3))))))) → J X (0, 0) 111 [] [.int y16] (fl ad m) := by
          intro y16 e_y16
          subst e_y16
          exact J_iret hX hR dX12_onTurned_111 (And.intro (congrArg (fun z => some (Value.int z)) (show (if x5 = (0 : Int32) then (if (rm32 x0 (4 : Int32)) = (0 : Int32) then (if x0 ≤ (3 : Int32) then x3 else (x1 - x3)) else (if (rm32 x0 (4 : Int32)) = (1 : Int32) then (x2 - x4) else (if (rm32 x0 (4 : Int32)) = (2 : Int32) then (x1 - (if x0 ≤ (3 : Int32) then x3 else (x1 - x3))) else x4))) else (if (rm32 x0 (4 : Int32)) = (0 : Int32) then x4 else (if (rm32 x0 (4 : Int32)) = (1 : Int32) then (if x0 ≤ (3 : Int32) then x3 else (x1 - x3)) else (if (rm32 x0 (4 : Int32)) = (2 : Int32) then (x2 - x4) else (x1 - (if x0 ≤ (3 : Int32) then x3 else (x1 - x3))))))) = v_X12_onTurned x0 x1 x2 x3 x4 x5 from rfl)) rfl)
        refine J_if_eq (tgt := 109) hX dX12_onTurned_101 (by decide) (fun c8 => ?_) (fun c8 => ?_)
        · refine J_iload hX dX12_onTurned_109 2 rfl ?_
          exact J_sub [] rfl (hj15 _ (if_pos c8).symm)
        · refine J_iload hX dX12_onTurned_104 0 rfl ?_
          refine J_goto (tgt := 111) hX dX12_onTurned_106 (by decide) ?_
          exact J_sub [] rfl (hj15 _ (if_neg c8).symm)
      refine J_if_ne (tgt := 69) hX dX12_onTurned_61 (by decide) (fun c5 => ?_) (fun c5 => ?_)
      · refine J_iload hX dX12_onTurned_69 6 rfl ?_
        refine J_iconst (v := (1 : Int32)) hX dX12_onTurned_71 (by decide) ?_
        refine J_icmp_ne (tgt := 80) hX dX12_onTurned_72 (by decide) (fun c6 => ?_) (fun c6 => ?_)
        · refine J_iload hX dX12_onTurned_80 6 rfl ?_
          refine J_iconst (v := (2 : Int32)) hX dX12_onTurned_82 (by decide) ?_
          refine J_icmp_ne (tgt := 93) hX dX12_onTurned_83 (by decide) (fun c7 => ?_) (fun c7 => ?_)
          · refine J_iload_n hX dX12_onTurned_93 rfl 1 rfl ?_
            refine J_iload hX dX12_onTurned_94 5 rfl ?_
            refine J_isub hX dX12_onTurned_96 ?_
            exact J_sub [4, 0] rfl (hj13 _ ((if_neg c5).trans ((if_neg c6).trans (if_neg c7))).symm)
          · refine J_iload_n hX dX12_onTurned_86 rfl 2 rfl ?_
            refine J_iload hX dX12_onTurned_87 3 rfl ?_
            refine J_isub hX dX12_onTurned_89 ?_
            refine J_goto (tgt := 97) hX dX12_onTurned_90 (by decide) ?_
            exact J_sub [4, 0] rfl (hj13 _ ((if_neg c5).trans ((if_neg c6).trans (if_pos c7))).symm)
        · refine J_iload hX dX12_onTurned_75 5 rfl ?_
          refine J_goto (tgt := 97) hX dX12_onTurned_77 (by decide) ?_
          exact J_sub [4, 0] rfl (hj13 _ ((if_neg c5).trans (if_pos c6)).symm)
      · refine J_iload hX dX12_onTurned_64 3 rfl ?_
        refine J_goto (tgt := 97) hX dX12_onTurned_66 (by decide) ?_
        exact J_sub [4, 0] rfl (hj13 _ (if_pos c5).symm)
    refine J_if_ne (tgt := 29) hX dX12_onTurned_21 (by decide) (fun c2 => ?_) (fun c2 => ?_)
    · refine J_iload hX dX12_onTurned_29 0 rfl ?_
      refine J_iconst (v := (1 : Int32)) hX dX12_onTurned_31 (by decide) ?_
      refine J_icmp_ne (tgt := 42) hX dX12_onTurned_32 (by decide) (fun c3 => ?_) (fun c3 => ?_)
      · refine J_iload hX dX12_onTurned_42 0 rfl ?_
        refine J_iconst (v := (2 : Int32)) hX dX12_onTurned_44 (by decide) ?_
        refine J_icmp_ne (tgt := 55) hX dX12_onTurned_45 (by decide) (fun c4 => ?_) (fun c4 => ?_)
        · refine J_iload hX dX12_onTurned_55 5 rfl ?_
          exact J_sub [3, 4, 5, 6, 1, 0] rfl (hj11 _ ((if_neg c2).trans ((if_neg c3).trans (if_neg c4))).symm)
        · refine J_iload_n hX dX12_onTurned_48 rfl 3 rfl ?_
          refine J_iload hX dX12_onTurned_49 1 rfl ?_
          refine J_isub hX dX12_onTurned_51 ?_
          refine J_goto (tgt := 57) hX dX12_onTurned_52 (by decide) ?_
          exact J_sub [3, 4, 5, 6, 1, 0] rfl (hj11 _ ((if_neg c2).trans ((if_neg c3).trans (if_pos c4))).symm)
      · refine J_iload_n hX dX12_onTurned_35 rfl 4 rfl ?_
        refine J_iload hX dX12_onTurned_36 5 rfl ?_
        refine J_isub hX dX12_onTurned_38 ?_
        refine J_goto (tgt := 57) hX dX12_onTurned_39 (by decide) ?_
        exact J_sub [3, 4, 5, 6, 1, 0] rfl (hj11 _ ((if_neg c2).trans (if_pos c3)).symm)
    · refine J_iload hX dX12_onTurned_24 1 rfl ?_
      refine J_goto (tgt := 57) hX dX12_onTurned_26 (by decide) ?_
      exact J_sub [3, 4, 5, 6, 1, 0] rfl (hj11 _ (if_pos c2).symm)
  refine J_icmp_le (tgt := 11) hX dX12_onTurned_2 (by decide) (fun c1 => ?_) (fun c1 => ?_)
  · refine J_iload_n hX dX12_onTurned_11 rfl 3 rfl ?_
    exact J_sub [0, 1, 2, 4, 5] rfl (hj9 _ (if_pos c1).symm)
  · refine J_iload_n hX dX12_onTurned_5 rfl 1 rfl ?_
    refine J_iload_n hX dX12_onTurned_6 rfl 3 rfl ?_
    refine J_isub hX dX12_onTurned_7 ?_
    refine J_goto (tgt := 12) hX dX12_onTurned_8 (by decide) ?_
    exact J_sub [0, 1, 2, 4, 5] rfl (hj9 _ (if_neg c1).symm)
set_option maxRecDepth 100000 in
theorem tb_X12_continueOver_l354 {X : XT} {ad : Nat → Nat} {K : Int32 → Mm → Prop} (hX : Cx X cX12_continueOver 26 RX12 (rmN 5 112)) (hR : Rx X (some .int) (kI ad K) (0, 0)) {rec : Int32 → Int32 → Mm → Prop} {k583 : Int32 → Mm → Prop} (x4 : Int32) (x6 : Int32) (x7 : Int32) (x9 : Int32) (x10 : Int32) (x11 : Int32) (x12 : Int32) (x13 : Int32) (x14 : Int32) (x15 : Int32) (x16 : Int32) (x17 : Int32) (x18 : Int32) (x19 : Int32) (x20 : Int32) (hrec : ∀ (x21 : Int32) (x22 : Int32) (m : Mm), rec x21 x22 m → J X (0, 0) 354 [(0, .ref (ad 426)), (4, .int x4), (6, .int x6), (7, .int x7), (9, .int x9), (10, .int x10), (11, .int x11), (12, .int x12), (13, .int x13), (14, .int x14), (15, .int x15), (16, .int x16), (17, .int x17), (18, .int x18), (19, .int x19), (20, .int x20), (21, .int x21), (22, .int x22)] [] (fl ad m)) (hk583 : ∀ (z21 : Int32) (m : Mm), k583 z21 m → J X (0, 0) 583 [(0, .ref (ad 426)), (4, .int x4), (6, .int x6), (21, .int z21)] [] (fl ad m)) (x21 : Int32) (x22 : Int32) (m : Mm) (h : wb_X12_continueOver_l354 rec k583 K x4 x6 x7 x9 x10 x11 x12 x13 x14 x15 x16 x17 x18 x19 x20 x21 x22 m) : J X (0, 0) 354 [(0, .ref (ad 426)), (4, .int x4), (6, .int x6), (7, .int x7), (9, .int x9), (10, .int x10), (11, .int x11), (12, .int x12), (13, .int x13), (14, .int x14), (15, .int x15), (16, .int x16), (17, .int x17), (18, .int x18), (19, .int x19), (20, .int x20), (21, .int x21), (22, .int x22)] [] (fl ad m) := by
  unfold wb_X12_continueOver_l354 at h
  refine J_iload hX dX12_continueOver_354 17 rfl ?_
  refine J_bipush (v := (8 : Int32)) hX dX12_continueOver_356 (by decide) ?_
  refine J_icmp_ge (tgt := 583) hX dX12_continueOver_358 (by decide) (fun c52 => ?_) (fun c52 => ?_)
  · replace h := Eq.mp (if_pos c52) h
    exact J_sub [0, 1, 2, 16] rfl (hk583 x21 m h)
  · replace h := Eq.mp (if_neg c52) h
    refine J_iload hX dX12_continueOver_361 12 rfl ?_
    refine J_iload hX dX12_continueOver_363 17 rfl ?_
    refine J_iload hX dX12_continueOver_365 4 rfl ?_
    refine J_iload hX dX12_continueOver_367 5 rfl ?_
    refine J_iload hX dX12_continueOver_369 6 rfl ?_
    refine J_iload hX dX12_continueOver_371 7 rfl ?_
    refine J_iconst (v := (0 : Int32)) hX dX12_continueOver_373 (by decide) ?_
    refine J_callS hX km_X12_onTurned kl_RX12_290 dX12_continueOver_374 [.int x22, .int x9, .int x10, .int x11, .int x12, .int (0 : Int32)] ⟨Nat.le_of_ble_eq_true rfl, Nat.le_of_ble_eq_true rfl⟩ rfl rfl (Nat.le_of_ble_eq_true rfl) (c_X12_onTurned x22 x9 x10 x11 x12 (0 : Int32) m) (fun v w2 hk => ?_)
    obtain ⟨rfl, rfl⟩ := hk
    show J X (0, 0) 377 [(0, .ref (ad 426)), (4, .int x4), (6, .int x6), (7, .int x7), (9, .int x9), (10, .int x10), (11, .int x11), (12, .int x12), (13, .int x13), (14, .int x14), (15, .int x15), (16, .int x16), (17, .int x17), (18, .int x18), (19, .int x19), (20, .int x20), (21, .int x21), (22, .int x22)] [.int (v_X12_onTurned x22 x9 x10 x11 x12 (0 : Int32)), .int x17] (fl ad m)
    refine J_isub hX dX12_continueOver_377 ?_
    refine J_nmI (fun y53 e_y53 => ?_)
    replace h := h y53 e_y53
    refine J_istore (lv2 := [(23, .int y53), (0, .ref (ad 426)), (4, .int x4), (6, .int x6), (7, .int x7), (9, .int x9), (10, .int x10), (11, .int x11), (12, .int x12), (13, .int x13), (14, .int x14), (15, .int x15), (16, .int x16), (17, .int x17), (18, .int x18), (19, .int x19), (20, .int x20), (21, .int x21), (22, .int x22)]) hX dX12_continueOver_378 (Nat.le_of_ble_eq_true rfl) rfl ?_
    refine J_iload hX dX12_continueOver_380 14 rfl ?_
    refine J_iload hX dX12_continueOver_382 18 rfl ?_
    refine J_iload hX dX12_continueOver_384 5 rfl ?_
    refine J_iload hX dX12_continueOver_386 6 rfl ?_
    refine J_iload hX dX12_continueOver_388 7 rfl ?_
    refine J_iload hX dX12_continueOver_390 8 rfl ?_
    refine J_iconst (v := (1 : Int32)) hX dX12_continueOver_392 (by decide) ?_
    refine J_callS hX km_X12_onTurned kl_RX12_290 dX12_continueOver_393 [.int x22, .int x9, .int x10, .int x11, .int x12, .int (1 : Int32)] ⟨Nat.le_of_ble_eq_true rfl, Nat.le_of_ble_eq_true rfl⟩ rfl rfl (Nat.le_of_ble_eq_true rfl) (c_X12_onTurned x22 x9 x10 x11 x12 (1 : Int32) m) (fun v w2 hk => ?_)
    obtain ⟨rfl, rfl⟩ := hk
    show J X (0, 0) 396 [(23, .int y53), (0, .ref (ad 426)), (4, .int x4), (6, .int x6), (7, .int x7), (9, .int x9), (10, .int x10), (11, .int x11), (12, .int x12), (13, .int x13), (14, .int x14), (15, .int x15), (16, .int x16), (17, .int x17), (18, .int x18), (19, .int x19), (20, .int x20), (21, .int x21), (22, .int x22)] [.int (v_X12_onTurned x22 x9 x10 x11 x12 (1 : Int32)), .int x18] (fl ad m)
    refine J_isub hX dX12_continueOver_396 ?_
    refine J_nmI (fun y54 e_y54 => ?_)
    replace h := h y54 e_y54
    refine J_istore (lv2 := [(24, .int y54), (23, .int y53), (0, .ref (ad 426)), (4, .int x4), (6, .int x6), (7, .int x7), (9, .int x9), (10, .int x10), (11, .int x11), (12, .int x12), (13, .int x13), (14, .int x14), (15, .int x15), (16, .int x16), (17, .int x17), (18, .int x18), (19, .int x19), (20, .int x20), (21, .int x21), (22, .int x22)]) hX dX12_continueOver_397 (Nat.le_of_ble_eq_true rfl) rfl ?_
    refine J_iload hX dX12_continueOver_399 16 rfl ?_
    refine J_iload hX dX12_continueOver_401 1 rfl ?_
    refine J_isub hX dX12_continueOver_403 ?_
    refine J_iload hX dX12_continueOver_404 19 rfl ?_
    refine J_iload hX dX12_continueOver_406 6 rfl ?_
    refine J_iload hX dX12_continueOver_408 7 rfl ?_
    refine J_iload hX dX12_continueOver_410 10 rfl ?_
    refine J_iload hX dX12_continueOver_412 11 rfl ?_
    refine J_iconst (v := (0 : Int32)) hX dX12_continueOver_414 (by decide) ?_
    refine J_callS hX km_X12_onTurned kl_RX12_290 dX12_continueOver_415 [.int x22, .int x9, .int x10, .int x13, .int x14, .int (0 : Int32)] ⟨Nat.le_of_ble_eq_true rfl, Nat.le_of_ble_eq_true rfl⟩ rfl rfl (Nat.le_of_ble_eq_true rfl) (c_X12_onTurned x22 x9 x10 x13 x14 (0 : Int32) m) (fun v w2 hk => ?_)
    obtain ⟨rfl, rfl⟩ := hk
    show J X (0, 0) 418 [(24, .int y54), (23, .int y53), (0, .ref (ad 426)), (4, .int x4), (6, .int x6), (7, .int x7), (9, .int x9), (10, .int x10), (11, .int x11), (12, .int x12), (13, .int x13), (14, .int x14), (15, .int x15), (16, .int x16), (17, .int x17), (18, .int x18), (19, .int x19), (20, .int x20), (21, .int x21), (22, .int x22)] [.int (v_X12_onTurned x22 x9 x10 x13 x14 (0 : Int32)), .int (x19 - y53)] (fl ad m)
    have hj68 : ∀ y57 : Int32, y57 = (if (x19 - y53) = (v_X12_onTurned x22 x9 x10 x13 x14 (0 : Int32)) then (if (x20 - y54) = (v_X12_onTurned x22 x9 x10 x13 x14 (1 : Int32)) then (1 : Int32) else (0 : Int32)) else (0 : Int32)) → J X (0, 0) 448 [(0, .ref (ad 426)), (4, .int x4), (6, .int x6), (7, .int x7), (9, .int x9), (10, .int x10), (11, .int x11), (12, .int x12), (13, .int x13), (14, .int x14), (15, .int x15), (16, .int x16), (17, .int x17), (18, .int x18), (19, .int x19), (20, .int x20), (21, .int x21), (22, .int x22), (23, .int y53), (24, .int y54)] [.int y57] (fl ad m) := by
      intro y57 e_y57
      replace h := h y57 e_y57
      refine J_istore (lv2 := [(25, .int y57), (0, .ref (ad 426)), (4, .int x4), (6, .int x6), (7, .int x7), (9, .int x9), (10, .int x10), (11, .int x11), (12, .int x12), (13, .int x13), (14, .int x14), (15, .int x15), (16, .int x16), (17, .int x17), (18, .int x18), (19, .int x19), (20, .int x20), (21, .int x21), (22, .int x22), (23, .int y53), (24, .int y54)]) hX dX12_continueOver_448 (Nat.le_of_ble_eq_true rfl) rfl ?_
      refine J_iload hX dX12_continueOver_450 0 rfl ?_
      have hj67 : ∀ y61 : Int32, y61 = (if y57 = (0 : Int32) then (0 : Int32) else (if ((x17 - (v_X12_outward x7 (0 : Int32))) - y53) = (v_X12_onTurned x22 x9 x10 x15 x16 (0 : Int32)) then (if ((x18 - (v_X12_outward x7 (1 : Int32))) - y54) = (v_X12_onTurned x22 x9 x10 x15 x16 (1 : Int32)) then (1 : Int32) else (0 : Int32)) else (0 : Int32))) → J X (0, 0) 518 [(0, .ref (ad 426)), (4, .int x4), (6, .int x6), (7, .int x7), (9, .int x9), (10, .int x10), (11, .int x11), (12, .int x12), (13, .int x13), (14, .int x14), (15, .int x15), (16, .int x16), (17, .int x17), (18, .int x18), (19, .int x19), (20, .int x20), (21, .int x21), (22, .int x22), (23, .int y53), (24, .int y54)] [.int y61] (fl ad m) := by
        intro y61 e_y61
        replace h := h y61 e_y61
        refine J_istore (lv2 := [(25, .int y61), (0, .ref (ad 426)), (4, .int x4), (6, .int x6), (7, .int x7), (9, .int x9), (10, .int x10), (11, .int x11), (12, .int x12), (13, .int x13), (14, .int x14), (15, .int x15), (16, .int x16), (17, .int x17), (18, .int x18), (19, .int x19), (20, .int x20), (21, .int x21), (22, .int x22), (23, .int y53), (24, .int y54)]) hX dX12_continueOver_518 (Nat.le_of_ble_eq_true rfl) rfl ?_
        refine J_iload hX dX12_continueOver_520 0 rfl ?_
        refine J_if_eq (tgt := 577) hX dX12_continueOver_522 (by decide) (fun c62 => ?_) (fun c62 => ?_)
        · replace h := Eq.mp (if_pos c62) h
          refine J_iinc (x := (x22 + (1 : Int32))) (lv2 := [(22, .int (x22 + (1 : Int32))), (25, .int y61), (0, .ref (ad 426)), (4, .int x4), (6, .int x6), (7, .int x7), (9, .int x9), (10, .int x10), (11, .int x11), (12, .int x12), (13, .int x13), (14, .int x14), (15, .int x15), (16, .int x16), (17, .int x17), (18, .int x18), (19, .int x19), (20, .int x20), (21, .int x21), (23, .int y53), (24, .int y54)]) hX dX12_continueOver_577 18 rfl rfl (Nat.le_of_ble_eq_true rfl) rfl ?_
          refine J_goto (tgt := 354) hX dX12_continueOver_580 (by decide) ?_
          exact J_sub [2, 3, 4, 5, 6, 7, 8, 9, 10, 11, 12, 13, 14, 15, 16, 17, 18, 0] rfl (hrec x21 (x22 + (1 : Int32)) m h)
        · replace h := Eq.mp (if_neg c62) h
          refine J_iload hX dX12_continueOver_525 19 rfl ?_
          refine J_sipush (v := (-300 : Int32)) hX dX12_continueOver_527 (by decide) ?_
          refine J_sipush (v := (300 : Int32)) hX dX12_continueOver_530 (by decide) ?_
          refine J_callS hX km_X12_in kl_RX12_87 dX12_continueOver_533 [.int y53, .int (-300 : Int32), .int (300 : Int32)] ⟨Nat.le_of_ble_eq_true rfl, Nat.le_of_ble_eq_true rfl⟩ rfl rfl (Nat.le_of_ble_eq_true rfl) (c_X12_in y53 (-300 : Int32) (300 : Int32) m) (fun v w2 hk => ?_)
          obtain ⟨rfl, rfl⟩ := hk
          show J X (0, 0) 536 [(25, .int y61), (0, .ref (ad 426)), (4, .int x4), (6, .int x6), (7, .int x7), (9, .int x9), (10, .int x10), (11, .int x11), (12, .int x12), (13, .int x13), (14, .int x14), (15, .int x15), (16, .int x16), (17, .int x17), (18, .int x18), (19, .int x19), (20, .int x20), (21, .int x21), (22, .int x22), (23, .int y53), (24, .int y54)] [.int (v_X12_in y53 (-300 : Int32) (300 : Int32))] (fl ad m)
          refine J_if_eq (tgt := 577) hX dX12_continueOver_536 (by decide) (fun c63 => ?_) (fun c63 => ?_)
          · replace h := Eq.mp (if_pos c63) h
            refine J_iinc (x := (x22 + (1 : Int32))) (lv2 := [(22, .int (x22 + (1 : Int32))), (25, .int y61), (0, .ref (ad 426)), (4, .int x4), (6, .int x6), (7, .int x7), (9, .int x9), (10, .int x10), (11, .int x11), (12, .int x12), (13, .int x13), (14, .int x14), (15, .int x15), (16, .int x16), (17, .int x17), (18, .int x18), (19, .int x19), (20, .int x20), (21, .int x21), (23, .int y53), (24, .int y54)]) hX dX12_continueOver_577 18 rfl rfl (Nat.le_of_ble_eq_true rfl) rfl ?_
            refine J_goto (tgt := 354) hX dX12_continueOver_580 (by decide) ?_
            exact J_sub [2, 3, 4, 5, 6, 7, 8, 9, 10, 11, 12, 13, 14, 15, 16, 17, 18, 0] rfl (hrec x21 (x22 + (1 : Int32)) m h)
          · replace h := Eq.mp (if_neg c63) h
            refine J_iload hX dX12_continueOver_539 20 rfl ?_
            refine J_sipush (v := (-300 : Int32)) hX dX12_continueOver_541 (by decide) ?_
            refine J_sipush (v := (300 : Int32)) hX dX12_continueOver_544 (by decide) ?_
            refine J_callS hX km_X12_in kl_RX12_87 dX12_continueOver_547 [.int y54, .int (-300 : Int32), .int (300 : Int32)] ⟨Nat.le_of_ble_eq_true rfl, Nat.le_of_ble_eq_true rfl⟩ rfl rfl (Nat.le_of_ble_eq_true rfl) (c_X12_in y54 (-300 : Int32) (300 : Int32) m) (fun v w2 hk => ?_)
            obtain ⟨rfl, rfl⟩ := hk
            show J X (0, 0) 550 [(25, .int y61), (0, .ref (ad 426)), (4, .int x4), (6, .int x6), (7, .int x7), (9, .int x9), (10, .int x10), (11, .int x11), (12, .int x12), (13, .int x13), (14, .int x14), (15, .int x15), (16, .int x16), (17, .int x17), (18, .int x18), (19, .int x19), (20, .int x20), (21, .int x21), (22, .int x22), (23, .int y53), (24, .int y54)] [.int (v_X12_in y54 (-300 : Int32) (300 : Int32))] (fl ad m)
            refine J_if_eq (tgt := 577) hX dX12_continueOver_550 (by decide) (fun c64 => ?_) (fun c64 => ?_)
            · replace h := Eq.mp (if_pos c64) h
              refine J_iinc (x := (x22 + (1 : Int32))) (lv2 := [(22, .int (x22 + (1 : Int32))), (25, .int y61), (0, .ref (ad 426)), (4, .int x4), (6, .int x6), (7, .int x7), (9, .int x9), (10, .int x10), (11, .int x11), (12, .int x12), (13, .int x13), (14, .int x14), (15, .int x15), (16, .int x16), (17, .int x17), (18, .int x18), (19, .int x19), (20, .int x20), (21, .int x21), (23, .int y53), (24, .int y54)]) hX dX12_continueOver_577 18 rfl rfl (Nat.le_of_ble_eq_true rfl) rfl ?_
              refine J_goto (tgt := 354) hX dX12_continueOver_580 (by decide) ?_
              exact J_sub [2, 3, 4, 5, 6, 7, 8, 9, 10, 11, 12, 13, 14, 15, 16, 17, 18, 0] rfl (hrec x21 (x22 + (1 : Int32)) m h)
            · replace h := Eq.mp (if_neg c64) h
              refine J_iload hX dX12_continueOver_553 18 rfl ?_
              refine J_istore (lv2 := [(21, .int x22), (25, .int y61), (0, .ref (ad 426)), (4, .int x4), (6, .int x6), (7, .int x7), (9, .int x9), (10, .int x10), (11, .int x11), (12, .int x12), (13, .int x13), (14, .int x14), (15, .int x15), (16, .int x16), (17, .int x17), (18, .int x18), (19, .int x19), (20, .int x20), (22, .int x22), (23, .int y53), (24, .int y54)]) hX dX12_continueOver_555 (Nat.le_of_ble_eq_true rfl) rfl ?_
              refine J_aload_n hX dX12_continueOver_557 rfl 2 rfl ?_
              refine J_iload hX dX12_continueOver_558 4 rfl ?_
              refine J_bipush (v := (9 : Int32)) hX dX12_continueOver_560 (by decide) ?_
              refine J_iload hX dX12_continueOver_562 19 rfl ?_
              refine J_callV hX km_X12_put kl_RX12_137 dX12_continueOver_564 ka_426 (by decide) [.int x6, .int (9 : Int32), .int y53] ⟨Nat.le_of_ble_eq_true rfl, Nat.le_of_ble_eq_true rfl⟩ rfl rfl (Nat.le_of_ble_eq_true rfl) (c_X12_put x6 (9 : Int32) y53 m _ h) (fun v w2 hk => ?_)
              obtain ⟨m65, rfl, rfl, h⟩ := hk
              show J X (0, 0) 567 [(21, .int x22), (25, .int y61), (0, .ref (ad 426)), (4, .int x4), (6, .int x6), (7, .int x7), (9, .int x9), (10, .int x10), (11, .int x11), (12, .int x12), (13, .int x13), (14, .int x14), (15, .int x15), (16, .int x16), (17, .int x17), (18, .int x18), (19, .int x19), (20, .int x20), (22, .int x22), (23, .int y53), (24, .int y54)] [] (fl ad m65)
              refine J_aload_n hX dX12_continueOver_567 rfl 2 rfl ?_
              refine J_iload hX dX12_continueOver_568 4 rfl ?_
              refine J_bipush (v := (10 : Int32)) hX dX12_continueOver_570 (by decide) ?_
              refine J_iload hX dX12_continueOver_572 20 rfl ?_
              refine J_callV hX km_X12_put kl_RX12_137 dX12_continueOver_574 ka_426 (by decide) [.int x6, .int (10 : Int32), .int y54] ⟨Nat.le_of_ble_eq_true rfl, Nat.le_of_ble_eq_true rfl⟩ rfl rfl (Nat.le_of_ble_eq_true rfl) (c_X12_put x6 (10 : Int32) y54 m65 _ h) (fun v w2 hk => ?_)
              obtain ⟨m66, rfl, rfl, h⟩ := hk
              show J X (0, 0) 577 [(21, .int x22), (25, .int y61), (0, .ref (ad 426)), (4, .int x4), (6, .int x6), (7, .int x7), (9, .int x9), (10, .int x10), (11, .int x11), (12, .int x12), (13, .int x13), (14, .int x14), (15, .int x15), (16, .int x16), (17, .int x17), (18, .int x18), (19, .int x19), (20, .int x20), (22, .int x22), (23, .int y53), (24, .int y54)] [] (fl ad m66)
              refine J_iinc (x := (x22 + (1 : Int32))) (lv2 := [(22, .int (x22 + (1 : Int32))), (21, .int x22), (25, .int y61), (0, .ref (ad 426)), (4, .int x4), (6, .int x6), (7, .int x7), (9, .int x9), (10, .int x10), (11, .int x11), (12, .int x12), (13, .int x13), (14, .int x14), (15, .int x15), (16, .int x16), (17, .int x17), (18, .int x18), (19, .int x19), (20, .int x20), (23, .int y53), (24, .int y54)]) hX dX12_continueOver_577 18 rfl rfl (Nat.le_of_ble_eq_true rfl) rfl ?_
              refine J_goto (tgt := 354) hX dX12_continueOver_580 (by decide) ?_
              exact J_sub [3, 4, 5, 6, 7, 8, 9, 10, 11, 12, 13, 14, 15, 16, 17, 18, 1, 0] rfl (hrec x22 (x22 + (1 : Int32)) m66 h)
      refine J_if_eq (tgt := 517) hX dX12_continueOver_452 (by decide) (fun c58 => ?_) (fun c58 => ?_)
      · refine J_iconst (v := (0 : Int32)) hX dX12_continueOver_517 (by decide) ?_
        exact J_sub [1, 2, 3, 4, 5, 6, 7, 8, 9, 10, 11, 12, 13, 14, 15, 16, 17, 18, 19, 20] rfl (hj67 _ (if_pos c58).symm)
      · refine J_iload hX dX12_continueOver_455 13 rfl ?_
        refine J_iload hX dX12_continueOver_457 4 rfl ?_
        refine J_iconst (v := (0 : Int32)) hX dX12_continueOver_459 (by decide) ?_
        refine J_callS hX km_X12_outward kl_RX12_270 dX12_continueOver_460 [.int x7, .int (0 : Int32)] ⟨Nat.le_of_ble_eq_true rfl, Nat.le_of_ble_eq_true rfl⟩ rfl rfl (Nat.le_of_ble_eq_true rfl) (c_X12_outward x7 (0 : Int32) m) (fun v w2 hk => ?_)
        obtain ⟨rfl, rfl⟩ := hk
        show J X (0, 0) 463 [(25, .int y57), (0, .ref (ad 426)), (4, .int x4), (6, .int x6), (7, .int x7), (9, .int x9), (10, .int x10), (11, .int x11), (12, .int x12), (13, .int x13), (14, .int x14), (15, .int x15), (16, .int x16), (17, .int x17), (18, .int x18), (19, .int x19), (20, .int x20), (21, .int x21), (22, .int x22), (23, .int y53), (24, .int y54)] [.int (v_X12_outward x7 (0 : Int32)), .int x17] (fl ad m)
        refine J_isub hX dX12_continueOver_463 ?_
        refine J_iload hX dX12_continueOver_464 19 rfl ?_
        refine J_isub hX dX12_continueOver_466 ?_
        refine J_iload hX dX12_continueOver_467 18 rfl ?_
        refine J_iload hX dX12_continueOver_469 5 rfl ?_
        refine J_iload hX dX12_continueOver_471 6 rfl ?_
        refine J_iload hX dX12_continueOver_473 11 rfl ?_
        refine J_iload hX dX12_continueOver_475 12 rfl ?_
        refine J_iconst (v := (0 : Int32)) hX dX12_continueOver_477 (by decide) ?_
        refine J_callS hX km_X12_onTurned kl_RX12_290 dX12_continueOver_478 [.int x22, .int x9, .int x10, .int x15, .int x16, .int (0 : Int32)] ⟨Nat.le_of_ble_eq_true rfl, Nat.le_of_ble_eq_true rfl⟩ rfl rfl (Nat.le_of_ble_eq_true rfl) (c_X12_onTurned x22 x9 x10 x15 x16 (0 : Int32) m) (fun v w2 hk => ?_)
        obtain ⟨rfl, rfl⟩ := hk
        show J X (0, 0) 481 [(25, .int y57), (0, .ref (ad 426)), (4, .int x4), (6, .int x6), (7, .int x7), (9, .int x9), (10, .int x10), (11, .int x11), (12, .int x12), (13, .int x13), (14, .int x14), (15, .int x15), (16, .int x16), (17, .int x17), (18, .int x18), (19, .int x19), (20, .int x20), (21, .int x21), (22, .int x22), (23, .int y53), (24, .int y54)] [.int (v_X12_onTurned x22 x9 x10 x15 x16 (0 : Int32)), .int ((x17 - (v_X12_outward x7 (0 : Int32))) - y53)] (fl ad m)
        refine J_icmp_ne (tgt := 517) hX dX12_continueOver_481 (by decide) (fun c59 => ?_) (fun c59 => ?_)
        · refine J_iconst (v := (0 : Int32)) hX dX12_continueOver_517 (by decide) ?_
          exact J_sub [1, 2, 3, 4, 5, 6, 7, 8, 9, 10, 11, 12, 13, 14, 15, 16, 17, 18, 19, 20] rfl (hj67 _ ((if_neg c58).trans (if_neg c59)).symm)
        · refine J_iload hX dX12_continueOver_484 14 rfl ?_
          refine J_iload hX dX12_continueOver_486 4 rfl ?_
          refine J_iconst (v := (1 : Int32)) hX dX12_continueOver_488 (by decide) ?_
          refine J_callS hX km_X12_outward kl_RX12_270 dX12_continueOver_489 [.int x7, .int (1 : Int32)] ⟨Nat.le_of_ble_eq_true rfl, Nat.le_of_ble_eq_true rfl⟩ rfl rfl (Nat.le_of_ble_eq_true rfl) (c_X12_outward x7 (1 : Int32) m) (fun v w2 hk => ?_)
          obtain ⟨rfl, rfl⟩ := hk
          show J X (0, 0) 492 [(25, .int y57), (0, .ref (ad 426)), (4, .int x4), (6, .int x6), (7, .int x7), (9, .int x9), (10, .int x10), (11, .int x11), (12, .int x12), (13, .int x13), (14, .int x14), (15, .int x15), (16, .int x16), (17, .int x17), (18, .int x18), (19, .int x19), (20, .int x20), (21, .int x21), (22, .int x22), (23, .int y53), (24, .int y54)] [.int (v_X12_outward x7 (1 : Int32)), .int x18] (fl ad m)
          refine J_isub hX dX12_continueOver_492 ?_
          refine J_iload hX dX12_continueOver_493 20 rfl ?_
          refine J_isub hX dX12_continueOver_495 ?_
          refine J_iload hX dX12_continueOver_496 18 rfl ?_
          refine J_iload hX dX12_continueOver_498 5 rfl ?_
          refine J_iload hX dX12_continueOver_500 6 rfl ?_
          refine J_iload hX dX12_continueOver_502 11 rfl ?_
          refine J_iload hX dX12_continueOver_504 12 rfl ?_
          refine J_iconst (v := (1 : Int32)) hX dX12_continueOver_506 (by decide) ?_
          refine J_callS hX km_X12_onTurned kl_RX12_290 dX12_continueOver_507 [.int x22, .int x9, .int x10, .int x15, .int x16, .int (1 : Int32)] ⟨Nat.le_of_ble_eq_true rfl, Nat.le_of_ble_eq_true rfl⟩ rfl rfl (Nat.le_of_ble_eq_true rfl) (c_X12_onTurned x22 x9 x10 x15 x16 (1 : Int32) m) (fun v w2 hk => ?_)
          obtain ⟨rfl, rfl⟩ := hk
          show J X (0, 0) 510 [(25, .int y57), (0, .ref (ad 426)), (4, .int x4), (6, .int x6), (7, .int x7), (9, .int x9), (10, .int x10), (11, .int x11), (12, .int x12), (13, .int x13), (14, .int x14), (15, .int x15), (16, .int x16), (17, .int x17), (18, .int x18), (19, .int x19), (20, .int x20), (21, .int x21), (22, .int x22), (23, .int y53), (24, .int y54)] [.int (v_X12_onTurned x22 x9 x10 x15 x16 (1 : Int32)), .int ((x18 - (v_X12_outward x7 (1 : Int32))) - y54)] (fl ad m)
          refine J_icmp_ne (tgt := 517) hX dX12_continueOver_510 (by decide) (fun c60 => ?_) (fun c60 => ?_)
          · refine J_iconst (v := (0 : Int32)) hX dX12_continueOver_517 (by decide) ?_
            exact J_sub [1, 2, 3, 4, 5, 6, 7, 8, 9, 10, 11, 12, 13, 14, 15, 16, 17, 18, 19, 20] rfl (hj67 _ ((if_neg c58).trans ((if_pos c59).trans (if_neg c60))).symm)
          · refine J_iconst (v := (1 : Int32)) hX dX12_continueOver_513 (by decide) ?_
            refine J_goto (tgt := 518) hX dX12_continueOver_514 (by decide) ?_
            exact J_sub [1, 2, 3, 4, 5, 6, 7, 8, 9, 10, 11, 12, 13, 14, 15, 16, 17, 18, 19, 20] rfl (hj67 _ ((if_neg c58).trans ((if_pos c59).trans (if_pos c60))).symm)
    refine J_icmp_ne (tgt := 447) hX dX12_continueOver_418 (by decide) (fun c55 => ?_) (fun c55 => ?_)
    · refine J_iconst (v := (0 : Int32)) hX dX12_continueOver_447 (by decide) ?_
      exact J_sub [2, 3, 4, 5, 6, 7, 8, 9, 10, 11, 12, 13, 14, 15, 16, 17, 18, 19, 1, 0] rfl (hj68 _ (if_neg c55).symm)
    · refine J_iload hX dX12_continueOver_421 17 rfl ?_
      refine J_iload hX dX12_continueOver_423 0 rfl ?_
      refine J_isub hX dX12_continueOver_425 ?_
      refine J_iload hX dX12_continueOver_426 19 rfl ?_
      refine J_iload hX dX12_continueOver_428 6 rfl ?_
      refine J_iload hX dX12_continueOver_430 7 rfl ?_
      refine J_iload hX dX12_continueOver_432 10 rfl ?_
      refine J_iload hX dX12_continueOver_434 11 rfl ?_
      refine J_iconst (v := (1 : Int32)) hX dX12_continueOver_436 (by decide) ?_
      refine J_callS hX km_X12_onTurned kl_RX12_290 dX12_continueOver_437 [.int x22, .int x9, .int x10, .int x13, .int x14, .int (1 : Int32)] ⟨Nat.le_of_ble_eq_true rfl, Nat.le_of_ble_eq_true rfl⟩ rfl rfl (Nat.le_of_ble_eq_true rfl) (c_X12_onTurned x22 x9 x10 x13 x14 (1 : Int32) m) (fun v w2 hk => ?_)
      obtain ⟨rfl, rfl⟩ := hk
      show J X (0, 0) 440 [(24, .int y54), (23, .int y53), (0, .ref (ad 426)), (4, .int x4), (6, .int x6), (7, .int x7), (9, .int x9), (10, .int x10), (11, .int x11), (12, .int x12), (13, .int x13), (14, .int x14), (15, .int x15), (16, .int x16), (17, .int x17), (18, .int x18), (19, .int x19), (20, .int x20), (21, .int x21), (22, .int x22)] [.int (v_X12_onTurned x22 x9 x10 x13 x14 (1 : Int32)), .int (x20 - y54)] (fl ad m)
      refine J_icmp_ne (tgt := 447) hX dX12_continueOver_440 (by decide) (fun c56 => ?_) (fun c56 => ?_)
      · refine J_iconst (v := (0 : Int32)) hX dX12_continueOver_447 (by decide) ?_
        exact J_sub [2, 3, 4, 5, 6, 7, 8, 9, 10, 11, 12, 13, 14, 15, 16, 17, 18, 19, 1, 0] rfl (hj68 _ ((if_pos c55).trans (if_neg c56)).symm)
      · refine J_iconst (v := (1 : Int32)) hX dX12_continueOver_443 (by decide) ?_
        refine J_goto (tgt := 448) hX dX12_continueOver_444 (by decide) ?_
        exact J_sub [2, 3, 4, 5, 6, 7, 8, 9, 10, 11, 12, 13, 14, 15, 16, 17, 18, 19, 1, 0] rfl (hj68 _ ((if_pos c55).trans (if_pos c56)).symm)
set_option maxRecDepth 100000 in
theorem t_X12_continueOver_l354 {X : XT} {ad : Nat → Nat} {K : Int32 → Mm → Prop} (hX : Cx X cX12_continueOver 26 RX12 (rmN 5 112)) (hR : Rx X (some .int) (kI ad K) (0, 0)) {k583 : Int32 → Mm → Prop} (x4 : Int32) (x6 : Int32) (x7 : Int32) (x9 : Int32) (x10 : Int32) (x11 : Int32) (x12 : Int32) (x13 : Int32) (x14 : Int32) (x15 : Int32) (x16 : Int32) (x17 : Int32) (x18 : Int32) (x19 : Int32) (x20 : Int32) (hk583 : ∀ (z21 : Int32) (m : Mm), k583 z21 m → J X (0, 0) 583 [(0, .ref (ad 426)), (4, .int x4), (6, .int x6), (21, .int z21)] [] (fl ad m)) : ∀ (n : Nat) (x21 : Int32) (x22 : Int32) (m : Mm), wp_X12_continueOver_l354 k583 K x4 x6 x7 x9 x10 x11 x12 x13 x14 x15 x16 x17 x18 x19 x20 n x21 x22 m → J X (0, 0) 354 [(0, .ref (ad 426)), (4, .int x4), (6, .int x6), (7, .int x7), (9, .int x9), (10, .int x10), (11, .int x11), (12, .int x12), (13, .int x13), (14, .int x14), (15, .int x15), (16, .int x16), (17, .int x17), (18, .int x18), (19, .int x19), (20, .int x20), (21, .int x21), (22, .int x22)] [] (fl ad m) := by
  intro n
  induction n with
  | zero => intro x21 x22 m h; exact h.elim
  | succ n ih => intro x21 x22 m h; exact tb_X12_continueOver_l354 hX hR x4 x6 x7 x9 x10 x11 x12 x13 x14 x15 x16 x17 x18 x19 x20 ih hk583 x21 x22 m h
set_option maxRecDepth 100000 in
theorem c_X12_continueOver {G : GT} {ad : Nat → Nat} (x1 : Int32) (x2 : Int32) (m : Mm) (K : Int32 → Mm → Prop) (h : wp_X12_continueOver x1 x2 m K) : Cn G yX12_continueOver cX12_continueOver 26 (some .int) (rmN 5 112) [.ref (ad 426), .int x1, .int x2] (0, 0) (fl ad m) (kI ad K) := by
  unfold wp_X12_continueOver at h
  refine Cn.of pn_RX12 (Nat.le_of_ble_eq_true rfl) (fun X hG hX hR => ?_)
  subst hG
  have hX : Cx X cX12_continueOver 26 RX12 (rmN 5 112) := hX
  show J X (0, 0) 0 [(0, .ref (ad 426)), (1, .int x1), (2, .int x2)] [] (fl ad m)
  refine J_bipush (v := (9 : Int32)) hX dX12_continueOver_0 (by decide) ?_
  refine J_iload_n hX dX12_continueOver_2 rfl 1 rfl ?_
  refine J_imul hX dX12_continueOver_3 ?_
  refine J_nmI (fun y1 e_y1 => ?_)
  replace h := h y1 e_y1
  refine J_istore_n (lv2 := [(3, .int y1), (0, .ref (ad 426)), (1, .int x1), (2, .int x2)]) hX dX12_continueOver_4 rfl (Nat.le_of_ble_eq_true rfl) rfl ?_
  refine J_iload_n hX dX12_continueOver_5 rfl 3 rfl ?_
  obtain ⟨g5, h⟩ := h
  have hj90 : ∀ y6 : Int32, y6 = (if x2 = (0 : Int32) then (m.1 446 y1.toNatClampNeg) else (m.1 446 (y1 + (2 : Int32)).toNatClampNeg)) → J X (0, 0) 26 [(0, .ref (ad 426)), (2, .int x2), (3, .int y1)] [.int y6] (fl ad m) := by
    intro y6 e_y6
    replace h := h y6 e_y6
    refine J_istore (lv2 := [(4, .int y6), (0, .ref (ad 426)), (2, .int x2), (3, .int y1)]) hX dX12_continueOver_26 (Nat.le_of_ble_eq_true rfl) rfl ?_
    refine J_iload_n hX dX12_continueOver_28 rfl 2 rfl ?_
    obtain ⟨g10, h⟩ := h
    have hj85 : ∀ y11 : Int32, y11 = (if x2 = (0 : Int32) then (m.1 446 (y1 + (1 : Int32)).toNatClampNeg) else (m.1 446 (y1 + (3 : Int32)).toNatClampNeg)) → J X (0, 0) 51 [(0, .ref (ad 426)), (2, .int x2), (3, .int y1), (4, .int y6)] [.int y11] (fl ad m) := by
      intro y11 e_y11
      replace h := h y11 e_y11
      refine J_istore (lv2 := [(5, .int y11), (0, .ref (ad 426)), (2, .int x2), (3, .int y1), (4, .int y6)]) hX dX12_continueOver_51 (Nat.le_of_ble_eq_true rfl) rfl ?_
      refine J_iload_n hX dX12_continueOver_53 rfl 2 rfl ?_
      obtain ⟨g15, h⟩ := h
      have hj80 : ∀ y16 : Int32, y16 = (if x2 = (0 : Int32) then (m.1 446 (y1 + (2 : Int32)).toNatClampNeg) else (m.1 446 y1.toNatClampNeg)) → J X (0, 0) 74 [(0, .ref (ad 426)), (2, .int x2), (3, .int y1), (4, .int y6), (5, .int y11)] [.int y16] (fl ad m) := by
        intro y16 e_y16
        replace h := h y16 e_y16
        refine J_istore (lv2 := [(6, .int y16), (0, .ref (ad 426)), (2, .int x2), (3, .int y1), (4, .int y6), (5, .int y11)]) hX dX12_continueOver_74 (Nat.le_of_ble_eq_true rfl) rfl ?_
        refine J_iload_n hX dX12_continueOver_76 rfl 2 rfl ?_
        obtain ⟨g20, h⟩ := h
        have hj75 : ∀ y21 : Int32, y21 = (if x2 = (0 : Int32) then (m.1 446 (y1 + (3 : Int32)).toNatClampNeg) else (m.1 446 (y1 + (1 : Int32)).toNatClampNeg)) → J X (0, 0) 99 [(0, .ref (ad 426)), (3, .int y1), (4, .int y6), (5, .int y11), (6, .int y16)] [.int y21] (fl ad m) := by
          intro y21 e_y21
          replace h := h y21 e_y21
          refine J_istore (lv2 := [(7, .int y21), (0, .ref (ad 426)), (3, .int y1), (4, .int y6), (5, .int y11), (6, .int y16)]) hX dX12_continueOver_99 (Nat.le_of_ble_eq_true rfl) rfl ?_
          refine J_aload_n hX dX12_continueOver_101 rfl 1 rfl ?_
          refine J_getR hX kf_RX12_68 dX12_continueOver_102 ka_426 (by decide) rfl rh_426_24 ?_
          refine J_iload_n hX dX12_continueOver_105 rfl 2 rfl ?_
          refine J_iconst (v := (4 : Int32)) hX dX12_continueOver_106 (by decide) ?_
          refine J_iadd hX dX12_continueOver_107 ?_
          obtain ⟨b22, h⟩ := h
          refine J_iald (j := (y1 + (4 : Int32)).toNatClampNeg) hX dX12_continueOver_108 ka_446 le_446 b22 rfl ?_
          refine J_nmI (fun y23 e_y23 => ?_)
          replace h := h y23 e_y23
          refine J_istore (lv2 := [(8, .int y23), (7, .int y21), (0, .ref (ad 426)), (3, .int y1), (4, .int y6), (5, .int y11), (6, .int y16)]) hX dX12_continueOver_109 (Nat.le_of_ble_eq_true rfl) rfl ?_
          refine J_aload_n hX dX12_continueOver_111 rfl 2 rfl ?_
          refine J_iload hX dX12_continueOver_112 4 rfl ?_
          refine J_iload hX dX12_continueOver_114 5 rfl ?_
          obtain ⟨b24, h⟩ := h
          refine J_callV hX km_X12_reachOf kl_RX12_281 dX12_continueOver_116 ka_426 (by decide) [.int y6, .int y11] ⟨Nat.le_of_ble_eq_true rfl, Nat.le_of_ble_eq_true rfl⟩ rfl rfl (Nat.le_of_ble_eq_true rfl) (c_X12_reachOf y6 y11 m b24) (fun v w2 hk => ?_)
          obtain ⟨rfl, rfl⟩ := hk
          show J X (0, 0) 119 [(8, .int y23), (7, .int y21), (0, .ref (ad 426)), (3, .int y1), (4, .int y6), (5, .int y11), (6, .int y16)] [.int (v_X12_reachOf y6 y11 m)] (fl ad m)
          refine J_bipush (v := (-9 : Int32)) hX dX12_continueOver_119 (by decide) ?_
          refine J_icmp_ne (tgt := 127) hX dX12_continueOver_121 (by decide) (fun c25 => ?_) (fun c25 => ?_)
          · replace h := Eq.mp (if_neg c25) h
            refine J_aload_n hX dX12_continueOver_127 rfl 2 rfl ?_
            refine J_iload hX dX12_continueOver_128 4 rfl ?_
            refine J_iconst (v := (0 : Int32)) hX dX12_continueOver_130 (by decide) ?_
            obtain ⟨b26, h⟩ := h
            refine J_callV hX km_X12_imageSize kl_RX12_256 dX12_continueOver_131 ka_426 (by decide) [.int y6, .int (0 : Int32)] ⟨Nat.le_of_ble_eq_true rfl, Nat.le_of_ble_eq_true rfl⟩ rfl rfl (Nat.le_of_ble_eq_true rfl) (c_X12_imageSize y6 (0 : Int32) m b26) (fun v w2 hk => ?_)
            obtain ⟨rfl, rfl⟩ := hk
            show J X (0, 0) 134 [(8, .int y23), (7, .int y21), (0, .ref (ad 426)), (3, .int y1), (4, .int y6), (5, .int y11), (6, .int y16)] [.int (v_X12_imageSize y6 (0 : Int32) m)] (fl ad m)
            refine J_nmI (fun y27 e_y27 => ?_)
            replace h := h y27 e_y27
            refine J_istore (lv2 := [(9, .int y27), (8, .int y23), (7, .int y21), (0, .ref (ad 426)), (3, .int y1), (4, .int y6), (5, .int y11), (6, .int y16)]) hX dX12_continueOver_134 (Nat.le_of_ble_eq_true rfl) rfl ?_
            refine J_aload_n hX dX12_continueOver_136 rfl 3 rfl ?_
            refine J_iload hX dX12_continueOver_137 5 rfl ?_
            refine J_iconst (v := (1 : Int32)) hX dX12_continueOver_139 (by decide) ?_
            obtain ⟨b28, h⟩ := h
            refine J_callV hX km_X12_imageSize kl_RX12_256 dX12_continueOver_140 ka_426 (by decide) [.int y6, .int (1 : Int32)] ⟨Nat.le_of_ble_eq_true rfl, Nat.le_of_ble_eq_true rfl⟩ rfl rfl (Nat.le_of_ble_eq_true rfl) (c_X12_imageSize y6 (1 : Int32) m b28) (fun v w2 hk => ?_)
            obtain ⟨rfl, rfl⟩ := hk
            show J X (0, 0) 143 [(9, .int y27), (8, .int y23), (7, .int y21), (0, .ref (ad 426)), (3, .int y1), (4, .int y6), (5, .int y11), (6, .int y16)] [.int (v_X12_imageSize y6 (1 : Int32) m)] (fl ad m)
            refine J_nmI (fun y29 e_y29 => ?_)
            replace h := h y29 e_y29
            refine J_istore (lv2 := [(10, .int y29), (9, .int y27), (8, .int y23), (7, .int y21), (0, .ref (ad 426)), (3, .int y1), (4, .int y6), (5, .int y11), (6, .int y16)]) hX dX12_continueOver_143 (Nat.le_of_ble_eq_true rfl) rfl ?_
            refine J_aload_n hX dX12_continueOver_145 rfl 4 rfl ?_
            refine J_iload hX dX12_continueOver_146 6 rfl ?_
            refine J_iload hX dX12_continueOver_148 7 rfl ?_
            refine J_iload hX dX12_continueOver_150 2 rfl ?_
            refine J_aload_n hX dX12_continueOver_152 rfl 4 rfl ?_
            refine J_getR hX kf_RX12_68 dX12_continueOver_153 ka_426 (by decide) rfl rh_426_24 ?_
            refine J_iload_n hX dX12_continueOver_156 rfl 5 rfl ?_
            refine J_iconst (v := (5 : Int32)) hX dX12_continueOver_157 (by decide) ?_
            refine J_iadd hX dX12_continueOver_158 ?_
            obtain ⟨b30, h⟩ := h
            refine J_iald (j := (y1 + (5 : Int32)).toNatClampNeg) hX dX12_continueOver_159 ka_446 le_446 b30 rfl ?_
            refine J_iconst (v := (0 : Int32)) hX dX12_continueOver_160 (by decide) ?_
            obtain ⟨b31, h⟩ := h
            refine J_callV hX km_X12_atEnd kl_RX12_284 dX12_continueOver_161 ka_426 (by decide) [.int y6, .int y11, .int y23, .int (m.1 446 (y1 + (5 : Int32)).toNatClampNeg), .int (0 : Int32)] ⟨Nat.le_of_ble_eq_true rfl, Nat.le_of_ble_eq_true rfl⟩ rfl rfl (Nat.le_of_ble_eq_true rfl) (c_X12_atEnd y6 y11 y23 (m.1 446 (y1 + (5 : Int32)).toNatClampNeg) (0 : Int32) m b31) (fun v w2 hk => ?_)
            obtain ⟨rfl, rfl⟩ := hk
            show J X (0, 0) 164 [(10, .int y29), (9, .int y27), (8, .int y23), (7, .int y21), (0, .ref (ad 426)), (3, .int y1), (4, .int y6), (5, .int y11), (6, .int y16)] [.int (v_X12_atEnd y6 y11 y23 (m.1 446 (y1 + (5 : Int32)).toNatClampNeg) (0 : Int32) m)] (fl ad m)
            refine J_nmI (fun y32 e_y32 => ?_)
            replace h := h y32 e_y32
            refine J_istore (lv2 := [(11, .int y32), (10, .int y29), (9, .int y27), (8, .int y23), (7, .int y21), (0, .ref (ad 426)), (3, .int y1), (4, .int y6), (5, .int y11), (6, .int y16)]) hX dX12_continueOver_164 (Nat.le_of_ble_eq_true rfl) rfl ?_
            refine J_aload_n hX dX12_continueOver_166 rfl 5 rfl ?_
            refine J_iload hX dX12_continueOver_167 7 rfl ?_
            refine J_iload hX dX12_continueOver_169 8 rfl ?_
            refine J_iload hX dX12_continueOver_171 3 rfl ?_
            refine J_aload_n hX dX12_continueOver_173 rfl 5 rfl ?_
            refine J_getR hX kf_RX12_68 dX12_continueOver_174 ka_426 (by decide) rfl rh_426_24 ?_
            refine J_iload_n hX dX12_continueOver_177 rfl 6 rfl ?_
            refine J_iconst (v := (5 : Int32)) hX dX12_continueOver_178 (by decide) ?_
            refine J_iadd hX dX12_continueOver_179 ?_
            refine J_iald (j := (y1 + (5 : Int32)).toNatClampNeg) hX dX12_continueOver_180 ka_446 le_446 b30 rfl ?_
            refine J_iconst (v := (1 : Int32)) hX dX12_continueOver_181 (by decide) ?_
            obtain ⟨b33, h⟩ := h
            refine J_callV hX km_X12_atEnd kl_RX12_284 dX12_continueOver_182 ka_426 (by decide) [.int y6, .int y11, .int y23, .int (m.1 446 (y1 + (5 : Int32)).toNatClampNeg), .int (1 : Int32)] ⟨Nat.le_of_ble_eq_true rfl, Nat.le_of_ble_eq_true rfl⟩ rfl rfl (Nat.le_of_ble_eq_true rfl) (c_X12_atEnd y6 y11 y23 (m.1 446 (y1 + (5 : Int32)).toNatClampNeg) (1 : Int32) m b33) (fun v w2 hk => ?_)
            obtain ⟨rfl, rfl⟩ := hk
            show J X (0, 0) 185 [(11, .int y32), (10, .int y29), (9, .int y27), (8, .int y23), (7, .int y21), (0, .ref (ad 426)), (3, .int y1), (4, .int y6), (5, .int y11), (6, .int y16)] [.int (v_X12_atEnd y6 y11 y23 (m.1 446 (y1 + (5 : Int32)).toNatClampNeg) (1 : Int32) m)] (fl ad m)
            refine J_nmI (fun y34 e_y34 => ?_)
            replace h := h y34 e_y34
            refine J_istore (lv2 := [(12, .int y34), (11, .int y32), (10, .int y29), (9, .int y27), (8, .int y23), (7, .int y21), (0, .ref (ad 426)), (3, .int y1), (4, .int y6), (5, .int y11), (6, .int y16)]) hX dX12_continueOver_185 (Nat.le_of_ble_eq_true rfl) rfl ?_
            refine J_aload_n hX dX12_continueOver_187 rfl 6 rfl ?_
            refine J_iload hX dX12_continueOver_188 8 rfl ?_
            refine J_iload hX dX12_continueOver_190 9 rfl ?_
            refine J_iload hX dX12_continueOver_192 4 rfl ?_
            refine J_aload_n hX dX12_continueOver_194 rfl 6 rfl ?_
            refine J_getR hX kf_RX12_68 dX12_continueOver_195 ka_426 (by decide) rfl rh_426_24 ?_
            refine J_iload_n hX dX12_continueOver_198 rfl 7 rfl ?_
            refine J_bipush (v := (6 : Int32)) hX dX12_continueOver_199 (by decide) ?_
            refine J_iadd hX dX12_continueOver_201 ?_
            obtain ⟨b35, h⟩ := h
            refine J_iald (j := (y1 + (6 : Int32)).toNatClampNeg) hX dX12_continueOver_202 ka_446 le_446 b35 rfl ?_
            refine J_iconst (v := (0 : Int32)) hX dX12_continueOver_203 (by decide) ?_
            obtain ⟨b36, h⟩ := h
            refine J_callV hX km_X12_atEnd kl_RX12_284 dX12_continueOver_204 ka_426 (by decide) [.int y6, .int y11, .int y23, .int (m.1 446 (y1 + (6 : Int32)).toNatClampNeg), .int (0 : Int32)] ⟨Nat.le_of_ble_eq_true rfl, Nat.le_of_ble_eq_true rfl⟩ rfl rfl (Nat.le_of_ble_eq_true rfl) (c_X12_atEnd y6 y11 y23 (m.1 446 (y1 + (6 : Int32)).toNatClampNeg) (0 : Int32) m b36) (fun v w2 hk => ?_)
            obtain ⟨rfl, rfl⟩ := hk
            show J X (0, 0) 207 [(12, .int y34), (11, .int y32), (10, .int y29), (9, .int y27), (8, .int y23), (7, .int y21), (0, .ref (ad 426)), (3, .int y1), (4, .int y6), (5, .int y11), (6, .int y16)] [.int (v_X12_atEnd y6 y11 y23 (m.1 446 (y1 + (6 : Int32)).toNatClampNeg) (0 : Int32) m)] (fl ad m)
            refine J_nmI (fun y37 e_y37 => ?_)
            replace h := h y37 e_y37
            refine J_istore (lv2 := [(13, .int y37), (12, .int y34), (11, .int y32), (10, .int y29), (9, .int y27), (8, .int y23), (7, .int y21), (0, .ref (ad 426)), (3, .int y1), (4, .int y6), (5, .int y11), (6, .int y16)]) hX dX12_continueOver_207 (Nat.le_of_ble_eq_true rfl) rfl ?_
            refine J_aload_n hX dX12_continueOver_209 rfl 7 rfl ?_
            refine J_iload hX dX12_continueOver_210 9 rfl ?_
            refine J_iload hX dX12_continueOver_212 10 rfl ?_
            refine J_iload hX dX12_continueOver_214 5 rfl ?_
            refine J_aload_n hX dX12_continueOver_216 rfl 7 rfl ?_
            refine J_getR hX kf_RX12_68 dX12_continueOver_217 ka_426 (by decide) rfl rh_426_24 ?_
            refine J_iload_n hX dX12_continueOver_220 rfl 8 rfl ?_
            refine J_bipush (v := (6 : Int32)) hX dX12_continueOver_221 (by decide) ?_
            refine J_iadd hX dX12_continueOver_223 ?_
            refine J_iald (j := (y1 + (6 : Int32)).toNatClampNeg) hX dX12_continueOver_224 ka_446 le_446 b35 rfl ?_
            refine J_iconst (v := (1 : Int32)) hX dX12_continueOver_225 (by decide) ?_
            obtain ⟨b38, h⟩ := h
            refine J_callV hX km_X12_atEnd kl_RX12_284 dX12_continueOver_226 ka_426 (by decide) [.int y6, .int y11, .int y23, .int (m.1 446 (y1 + (6 : Int32)).toNatClampNeg), .int (1 : Int32)] ⟨Nat.le_of_ble_eq_true rfl, Nat.le_of_ble_eq_true rfl⟩ rfl rfl (Nat.le_of_ble_eq_true rfl) (c_X12_atEnd y6 y11 y23 (m.1 446 (y1 + (6 : Int32)).toNatClampNeg) (1 : Int32) m b38) (fun v w2 hk => ?_)
            obtain ⟨rfl, rfl⟩ := hk
            show J X (0, 0) 229 [(13, .int y37), (12, .int y34), (11, .int y32), (10, .int y29), (9, .int y27), (8, .int y23), (7, .int y21), (0, .ref (ad 426)), (3, .int y1), (4, .int y6), (5, .int y11), (6, .int y16)] [.int (v_X12_atEnd y6 y11 y23 (m.1 446 (y1 + (6 : Int32)).toNatClampNeg) (1 : Int32) m)] (fl ad m)
            refine J_nmI (fun y39 e_y39 => ?_)
            replace h := h y39 e_y39
            refine J_istore (lv2 := [(14, .int y39), (13, .int y37), (12, .int y34), (11, .int y32), (10, .int y29), (9, .int y27), (8, .int y23), (7, .int y21), (0, .ref (ad 426)), (3, .int y1), (4, .int y6), (5, .int y11), (6, .int y16)]) hX dX12_continueOver_229 (Nat.le_of_ble_eq_true rfl) rfl ?_
            refine J_iload hX dX12_continueOver_231 3 rfl ?_
            refine J_aload_n hX dX12_continueOver_233 rfl 8 rfl ?_
            refine J_iload hX dX12_continueOver_234 10 rfl ?_
            refine J_iload hX dX12_continueOver_236 11 rfl ?_
            refine J_iconst (v := (1 : Int32)) hX dX12_continueOver_238 (by decide) ?_
            refine J_iconst (v := (0 : Int32)) hX dX12_continueOver_239 (by decide) ?_
            obtain ⟨b40, h⟩ := h
            refine J_callV hX km_X12_step kl_RX12_287 dX12_continueOver_240 ka_426 (by decide) [.int y6, .int y11, .int (1 : Int32), .int (0 : Int32)] ⟨Nat.le_of_ble_eq_true rfl, Nat.le_of_ble_eq_true rfl⟩ rfl rfl (Nat.le_of_ble_eq_true rfl) (c_X12_step y6 y11 (1 : Int32) (0 : Int32) m b40) (fun v w2 hk => ?_)
            obtain ⟨rfl, rfl⟩ := hk
            show J X (0, 0) 243 [(14, .int y39), (13, .int y37), (12, .int y34), (11, .int y32), (10, .int y29), (9, .int y27), (8, .int y23), (7, .int y21), (0, .ref (ad 426)), (3, .int y1), (4, .int y6), (5, .int y11), (6, .int y16)] [.int (v_X12_step y6 y11 (1 : Int32) (0 : Int32) m), .int y32] (fl ad m)
            refine J_iadd hX dX12_continueOver_243 ?_
            refine J_nmI (fun y41 e_y41 => ?_)
            replace h := h y41 e_y41
            refine J_istore (lv2 := [(15, .int y41), (14, .int y39), (13, .int y37), (12, .int y34), (11, .int y32), (10, .int y29), (9, .int y27), (8, .int y23), (7, .int y21), (0, .ref (ad 426)), (3, .int y1), (4, .int y6), (5, .int y11), (6, .int y16)]) hX dX12_continueOver_244 (Nat.le_of_ble_eq_true rfl) rfl ?_
            refine J_iload hX dX12_continueOver_246 3 rfl ?_
            refine J_aload_n hX dX12_continueOver_248 rfl 9 rfl ?_
            refine J_iload hX dX12_continueOver_249 11 rfl ?_
            refine J_iload hX dX12_continueOver_251 12 rfl ?_
            refine J_iconst (v := (1 : Int32)) hX dX12_continueOver_253 (by decide) ?_
            refine J_iconst (v := (1 : Int32)) hX dX12_continueOver_254 (by decide) ?_
            obtain ⟨b42, h⟩ := h
            refine J_callV hX km_X12_step kl_RX12_287 dX12_continueOver_255 ka_426 (by decide) [.int y6, .int y11, .int (1 : Int32), .int (1 : Int32)] ⟨Nat.le_of_ble_eq_true rfl, Nat.le_of_ble_eq_true rfl⟩ rfl rfl (Nat.le_of_ble_eq_true rfl) (c_X12_step y6 y11 (1 : Int32) (1 : Int32) m b42) (fun v w2 hk => ?_)
            obtain ⟨rfl, rfl⟩ := hk
            show J X (0, 0) 258 [(15, .int y41), (14, .int y39), (13, .int y37), (12, .int y34), (11, .int y32), (10, .int y29), (9, .int y27), (8, .int y23), (7, .int y21), (0, .ref (ad 426)), (3, .int y1), (4, .int y6), (5, .int y11), (6, .int y16)] [.int (v_X12_step y6 y11 (1 : Int32) (1 : Int32) m), .int y34] (fl ad m)
            refine J_iadd hX dX12_continueOver_258 ?_
            refine J_nmI (fun y43 e_y43 => ?_)
            replace h := h y43 e_y43
            refine J_istore (lv2 := [(16, .int y43), (15, .int y41), (14, .int y39), (13, .int y37), (12, .int y34), (11, .int y32), (10, .int y29), (9, .int y27), (8, .int y23), (7, .int y21), (0, .ref (ad 426)), (3, .int y1), (4, .int y6), (5, .int y11), (6, .int y16)]) hX dX12_continueOver_259 (Nat.le_of_ble_eq_true rfl) rfl ?_
            refine J_aload_n hX dX12_continueOver_261 rfl 10 rfl ?_
            refine J_iload hX dX12_continueOver_262 14 rfl ?_
            refine J_iload hX dX12_continueOver_264 9 rfl ?_
            refine J_iload hX dX12_continueOver_266 8 rfl ?_
            refine J_aload_n hX dX12_continueOver_268 rfl 10 rfl ?_
            refine J_getR hX kf_RX12_68 dX12_continueOver_269 ka_426 (by decide) rfl rh_426_24 ?_
            refine J_iload_n hX dX12_continueOver_272 rfl 11 rfl ?_
            refine J_iconst (v := (5 : Int32)) hX dX12_continueOver_273 (by decide) ?_
            refine J_iadd hX dX12_continueOver_274 ?_
            refine J_iald (j := (y1 + (5 : Int32)).toNatClampNeg) hX dX12_continueOver_275 ka_446 le_446 b30 rfl ?_
            refine J_iconst (v := (0 : Int32)) hX dX12_continueOver_276 (by decide) ?_
            obtain ⟨b44, h⟩ := h
            refine J_callV hX km_X12_along kl_RX12_277 dX12_continueOver_277 ka_426 (by decide) [.int y16, .int y21, .int y23, .int (m.1 446 (y1 + (5 : Int32)).toNatClampNeg), .int (0 : Int32)] ⟨Nat.le_of_ble_eq_true rfl, Nat.le_of_ble_eq_true rfl⟩ rfl rfl (Nat.le_of_ble_eq_true rfl) (c_X12_along y16 y21 y23 (m.1 446 (y1 + (5 : Int32)).toNatClampNeg) (0 : Int32) m b44) (fun v w2 hk => ?_)
            obtain ⟨rfl, rfl⟩ := hk
            show J X (0, 0) 280 [(16, .int y43), (15, .int y41), (14, .int y39), (13, .int y37), (12, .int y34), (11, .int y32), (10, .int y29), (9, .int y27), (8, .int y23), (7, .int y21), (0, .ref (ad 426)), (3, .int y1), (4, .int y6), (5, .int y11), (6, .int y16)] [.int (v_X12_along y16 y21 y23 (m.1 446 (y1 + (5 : Int32)).toNatClampNeg) (0 : Int32) m)] (fl ad m)
            refine J_nmI (fun y45 e_y45 => ?_)
            replace h := h y45 e_y45
            refine J_istore (lv2 := [(17, .int y45), (16, .int y43), (15, .int y41), (14, .int y39), (13, .int y37), (12, .int y34), (11, .int y32), (10, .int y29), (9, .int y27), (8, .int y23), (7, .int y21), (0, .ref (ad 426)), (3, .int y1), (4, .int y6), (5, .int y11), (6, .int y16)]) hX dX12_continueOver_280 (Nat.le_of_ble_eq_true rfl) rfl ?_
            refine J_aload_n hX dX12_continueOver_282 rfl 11 rfl ?_
            refine J_iload hX dX12_continueOver_283 15 rfl ?_
            refine J_iload hX dX12_continueOver_285 10 rfl ?_
            refine J_iload hX dX12_continueOver_287 9 rfl ?_
            refine J_aload_n hX dX12_continueOver_289 rfl 11 rfl ?_
            refine J_getR hX kf_RX12_68 dX12_continueOver_290 ka_426 (by decide) rfl rh_426_24 ?_
            refine J_iload_n hX dX12_continueOver_293 rfl 12 rfl ?_
            refine J_iconst (v := (5 : Int32)) hX dX12_continueOver_294 (by decide) ?_
            refine J_iadd hX dX12_continueOver_295 ?_
            refine J_iald (j := (y1 + (5 : Int32)).toNatClampNeg) hX dX12_continueOver_296 ka_446 le_446 b30 rfl ?_
            refine J_iconst (v := (1 : Int32)) hX dX12_continueOver_297 (by decide) ?_
            obtain ⟨b46, h⟩ := h
            refine J_callV hX km_X12_along kl_RX12_277 dX12_continueOver_298 ka_426 (by decide) [.int y16, .int y21, .int y23, .int (m.1 446 (y1 + (5 : Int32)).toNatClampNeg), .int (1 : Int32)] ⟨Nat.le_of_ble_eq_true rfl, Nat.le_of_ble_eq_true rfl⟩ rfl rfl (Nat.le_of_ble_eq_true rfl) (c_X12_along y16 y21 y23 (m.1 446 (y1 + (5 : Int32)).toNatClampNeg) (1 : Int32) m b46) (fun v w2 hk => ?_)
            obtain ⟨rfl, rfl⟩ := hk
            show J X (0, 0) 301 [(17, .int y45), (16, .int y43), (15, .int y41), (14, .int y39), (13, .int y37), (12, .int y34), (11, .int y32), (10, .int y29), (9, .int y27), (8, .int y23), (7, .int y21), (0, .ref (ad 426)), (3, .int y1), (4, .int y6), (5, .int y11), (6, .int y16)] [.int (v_X12_along y16 y21 y23 (m.1 446 (y1 + (5 : Int32)).toNatClampNeg) (1 : Int32) m)] (fl ad m)
            refine J_nmI (fun y47 e_y47 => ?_)
            replace h := h y47 e_y47
            refine J_istore (lv2 := [(18, .int y47), (17, .int y45), (16, .int y43), (15, .int y41), (14, .int y39), (13, .int y37), (12, .int y34), (11, .int y32), (10, .int y29), (9, .int y27), (8, .int y23), (7, .int y21), (0, .ref (ad 426)), (3, .int y1), (4, .int y6), (5, .int y11), (6, .int y16)]) hX dX12_continueOver_301 (Nat.le_of_ble_eq_true rfl) rfl ?_
            refine J_aload_n hX dX12_continueOver_303 rfl 12 rfl ?_
            refine J_iload hX dX12_continueOver_304 16 rfl ?_
            refine J_iload hX dX12_continueOver_306 11 rfl ?_
            refine J_iload hX dX12_continueOver_308 10 rfl ?_
            refine J_aload_n hX dX12_continueOver_310 rfl 12 rfl ?_
            refine J_getR hX kf_RX12_68 dX12_continueOver_311 ka_426 (by decide) rfl rh_426_24 ?_
            refine J_iload_n hX dX12_continueOver_314 rfl 13 rfl ?_
            refine J_bipush (v := (6 : Int32)) hX dX12_continueOver_315 (by decide) ?_
            refine J_iadd hX dX12_continueOver_317 ?_
            refine J_iald (j := (y1 + (6 : Int32)).toNatClampNeg) hX dX12_continueOver_318 ka_446 le_446 b35 rfl ?_
            refine J_iconst (v := (0 : Int32)) hX dX12_continueOver_319 (by decide) ?_
            obtain ⟨b48, h⟩ := h
            refine J_callV hX km_X12_along kl_RX12_277 dX12_continueOver_320 ka_426 (by decide) [.int y16, .int y21, .int y23, .int (m.1 446 (y1 + (6 : Int32)).toNatClampNeg), .int (0 : Int32)] ⟨Nat.le_of_ble_eq_true rfl, Nat.le_of_ble_eq_true rfl⟩ rfl rfl (Nat.le_of_ble_eq_true rfl) (c_X12_along y16 y21 y23 (m.1 446 (y1 + (6 : Int32)).toNatClampNeg) (0 : Int32) m b48) (fun v w2 hk => ?_)
            obtain ⟨rfl, rfl⟩ := hk
            show J X (0, 0) 323 [(18, .int y47), (17, .int y45), (16, .int y43), (15, .int y41), (14, .int y39), (13, .int y37), (12, .int y34), (11, .int y32), (10, .int y29), (9, .int y27), (8, .int y23), (7, .int y21), (0, .ref (ad 426)), (3, .int y1), (4, .int y6), (5, .int y11), (6, .int y16)] [.int (v_X12_along y16 y21 y23 (m.1 446 (y1 + (6 : Int32)).toNatClampNeg) (0 : Int32) m)] (fl ad m)
            refine J_nmI (fun y49 e_y49 => ?_)
            replace h := h y49 e_y49
            refine J_istore (lv2 := [(19, .int y49), (18, .int y47), (17, .int y45), (16, .int y43), (15, .int y41), (14, .int y39), (13, .int y37), (12, .int y34), (11, .int y32), (10, .int y29), (9, .int y27), (8, .int y23), (7, .int y21), (0, .ref (ad 426)), (3, .int y1), (4, .int y6), (5, .int y11), (6, .int y16)]) hX dX12_continueOver_323 (Nat.le_of_ble_eq_true rfl) rfl ?_
            refine J_aload_n hX dX12_continueOver_325 rfl 13 rfl ?_
            refine J_iload hX dX12_continueOver_326 17 rfl ?_
            refine J_iload hX dX12_continueOver_328 12 rfl ?_
            refine J_iload hX dX12_continueOver_330 11 rfl ?_
            refine J_aload_n hX dX12_continueOver_332 rfl 13 rfl ?_
            refine J_getR hX kf_RX12_68 dX12_continueOver_333 ka_426 (by decide) rfl rh_426_24 ?_
            refine J_iload_n hX dX12_continueOver_336 rfl 14 rfl ?_
            refine J_bipush (v := (6 : Int32)) hX dX12_continueOver_337 (by decide) ?_
            refine J_iadd hX dX12_continueOver_339 ?_
            refine J_iald (j := (y1 + (6 : Int32)).toNatClampNeg) hX dX12_continueOver_340 ka_446 le_446 b35 rfl ?_
            refine J_iconst (v := (1 : Int32)) hX dX12_continueOver_341 (by decide) ?_
            obtain ⟨b50, h⟩ := h
            refine J_callV hX km_X12_along kl_RX12_277 dX12_continueOver_342 ka_426 (by decide) [.int y16, .int y21, .int y23, .int (m.1 446 (y1 + (6 : Int32)).toNatClampNeg), .int (1 : Int32)] ⟨Nat.le_of_ble_eq_true rfl, Nat.le_of_ble_eq_true rfl⟩ rfl rfl (Nat.le_of_ble_eq_true rfl) (c_X12_along y16 y21 y23 (m.1 446 (y1 + (6 : Int32)).toNatClampNeg) (1 : Int32) m b50) (fun v w2 hk => ?_)
            obtain ⟨rfl, rfl⟩ := hk
            show J X (0, 0) 345 [(19, .int y49), (18, .int y47), (17, .int y45), (16, .int y43), (15, .int y41), (14, .int y39), (13, .int y37), (12, .int y34), (11, .int y32), (10, .int y29), (9, .int y27), (8, .int y23), (7, .int y21), (0, .ref (ad 426)), (3, .int y1), (4, .int y6), (5, .int y11), (6, .int y16)] [.int (v_X12_along y16 y21 y23 (m.1 446 (y1 + (6 : Int32)).toNatClampNeg) (1 : Int32) m)] (fl ad m)
            refine J_nmI (fun y51 e_y51 => ?_)
            replace h := h y51 e_y51
            refine J_istore (lv2 := [(20, .int y51), (19, .int y49), (18, .int y47), (17, .int y45), (16, .int y43), (15, .int y41), (14, .int y39), (13, .int y37), (12, .int y34), (11, .int y32), (10, .int y29), (9, .int y27), (8, .int y23), (7, .int y21), (0, .ref (ad 426)), (3, .int y1), (4, .int y6), (5, .int y11), (6, .int y16)]) hX dX12_continueOver_345 (Nat.le_of_ble_eq_true rfl) rfl ?_
            refine J_bipush (v := (-9 : Int32)) hX dX12_continueOver_347 (by decide) ?_
            refine J_istore (lv2 := [(21, .int (-9 : Int32)), (20, .int y51), (19, .int y49), (18, .int y47), (17, .int y45), (16, .int y43), (15, .int y41), (14, .int y39), (13, .int y37), (12, .int y34), (11, .int y32), (10, .int y29), (9, .int y27), (8, .int y23), (7, .int y21), (0, .ref (ad 426)), (3, .int y1), (4, .int y6), (5, .int y11), (6, .int y16)]) hX dX12_continueOver_349 (Nat.le_of_ble_eq_true rfl) rfl ?_
            refine J_iconst (v := (0 : Int32)) hX dX12_continueOver_351 (by decide) ?_
            refine J_istore (lv2 := [(22, .int (0 : Int32)), (21, .int (-9 : Int32)), (20, .int y51), (19, .int y49), (18, .int y47), (17, .int y45), (16, .int y43), (15, .int y41), (14, .int y39), (13, .int y37), (12, .int y34), (11, .int y32), (10, .int y29), (9, .int y27), (8, .int y23), (7, .int y21), (0, .ref (ad 426)), (3, .int y1), (4, .int y6), (5, .int y11), (6, .int y16)]) hX dX12_continueOver_352 (Nat.le_of_ble_eq_true rfl) rfl ?_
            refine J_sub [16, 18, 20, 15, 13, 12, 11, 10, 9, 8, 7, 6, 5, 4, 3, 2, 1, 0] rfl (t_X12_continueOver_l354 hX hR y6 y16 y21 y27 y29 y32 y34 y37 y39 y41 y43 y45 y47 y49 y51 (fun y69 m70 h => ?_) FU (-9 : Int32) (0 : Int32) m h)
            refine J_iload hX dX12_continueOver_583 3 rfl ?_
            refine J_bipush (v := (-9 : Int32)) hX dX12_continueOver_585 (by decide) ?_
            refine J_icmp_eq (tgt := 616) hX dX12_continueOver_587 (by decide) (fun c71 => ?_) (fun c71 => ?_)
            · replace h := Eq.mp (if_pos c71) h
              refine J_iload hX dX12_continueOver_616 3 rfl ?_
              exact J_iret hX hR dX12_continueOver_618 ⟨_, _, rfl, rfl, h⟩
            · replace h := Eq.mp (if_neg c71) h
              refine J_aload_n hX dX12_continueOver_590 rfl 0 rfl ?_
              refine J_iload hX dX12_continueOver_591 2 rfl ?_
              refine J_bipush (v := (7 : Int32)) hX dX12_continueOver_593 (by decide) ?_
              refine J_aload_n hX dX12_continueOver_595 rfl 0 rfl ?_
              refine J_iload hX dX12_continueOver_596 1 rfl ?_
              refine J_bipush (v := (7 : Int32)) hX dX12_continueOver_598 (by decide) ?_
              obtain ⟨b72, h⟩ := h
              refine J_callV hX km_X12_of kl_RX12_91 dX12_continueOver_600 ka_426 (by decide) [.int y6, .int (7 : Int32)] ⟨Nat.le_of_ble_eq_true rfl, Nat.le_of_ble_eq_true rfl⟩ rfl rfl (Nat.le_of_ble_eq_true rfl) (c_X12_of y6 (7 : Int32) m70 b72) (fun v w2 hk => ?_)
              obtain ⟨rfl, rfl⟩ := hk
              show J X (0, 0) 603 [(0, .ref (ad 426)), (4, .int y6), (6, .int y16), (21, .int y69)] [.int (v_X12_of y6 (7 : Int32) m70), .int (7 : Int32), .int y16, .ref (ad 426)] (fl ad m70)
              refine J_callV hX km_X12_put kl_RX12_137 dX12_continueOver_603 ka_426 (by decide) [.int y16, .int (7 : Int32), .int (v_X12_of y6 (7 : Int32) m70)] ⟨Nat.le_of_ble_eq_true rfl, Nat.le_of_ble_eq_true rfl⟩ rfl rfl (Nat.le_of_ble_eq_true rfl) (c_X12_put y16 (7 : Int32) (v_X12_of y6 (7 : Int32) m70) m70 _ h) (fun v w2 hk => ?_)
              obtain ⟨m73, rfl, rfl, h⟩ := hk
              show J X (0, 0) 606 [(0, .ref (ad 426)), (4, .int y6), (6, .int y16), (21, .int y69)] [] (fl ad m73)
              refine J_aload_n hX dX12_continueOver_606 rfl 0 rfl ?_
              refine J_iload hX dX12_continueOver_607 2 rfl ?_
              refine J_bipush (v := (8 : Int32)) hX dX12_continueOver_609 (by decide) ?_
              refine J_iload hX dX12_continueOver_611 3 rfl ?_
              refine J_callV hX km_X12_put kl_RX12_137 dX12_continueOver_613 ka_426 (by decide) [.int y16, .int (8 : Int32), .int y69] ⟨Nat.le_of_ble_eq_true rfl, Nat.le_of_ble_eq_true rfl⟩ rfl rfl (Nat.le_of_ble_eq_true rfl) (c_X12_put y16 (8 : Int32) y69 m73 _ h) (fun v w2 hk => ?_)
              obtain ⟨m74, rfl, rfl, h⟩ := hk
              show J X (0, 0) 616 [(0, .ref (ad 426)), (4, .int y6), (6, .int y16), (21, .int y69)] [] (fl ad m74)
              refine J_iload hX dX12_continueOver_616 3 rfl ?_
              exact J_iret hX hR dX12_continueOver_618 ⟨_, _, rfl, rfl, h⟩
          · replace h := Eq.mp (if_pos c25) h
            refine J_bipush (v := (-9 : Int32)) hX dX12_continueOver_124 (by decide) ?_
            exact J_iret hX hR dX12_continueOver_126 ⟨_, _, rfl, rfl, h⟩
        obtain ⟨g76, g77⟩ := g20
        refine J_if_eq (tgt := 91) hX dX12_continueOver_77 (by decide) (fun c17 => ?_) (fun c17 => ?_)
        · have g78 := g76 c17
          have b18 := g78
          refine J_aload_n hX dX12_continueOver_91 rfl 1 rfl ?_
          refine J_getR hX kf_RX12_68 dX12_continueOver_92 ka_426 (by decide) rfl rh_426_24 ?_
          refine J_iload_n hX dX12_continueOver_95 rfl 3 rfl ?_
          refine J_iconst (v := (3 : Int32)) hX dX12_continueOver_96 (by decide) ?_
          refine J_iadd hX dX12_continueOver_97 ?_
          refine J_iald (j := (y1 + (3 : Int32)).toNatClampNeg) hX dX12_continueOver_98 ka_446 le_446 b18 rfl ?_
          exact J_sub [1, 3, 4, 5, 0] rfl (hj75 _ (if_pos c17).symm)
        · have g79 := g77 c17
          have b19 := g79
          refine J_aload_n hX dX12_continueOver_80 rfl 1 rfl ?_
          refine J_getR hX kf_RX12_68 dX12_continueOver_81 ka_426 (by decide) rfl rh_426_24 ?_
          refine J_iload_n hX dX12_continueOver_84 rfl 3 rfl ?_
          refine J_iconst (v := (1 : Int32)) hX dX12_continueOver_85 (by decide) ?_
          refine J_iadd hX dX12_continueOver_86 ?_
          refine J_iald (j := (y1 + (1 : Int32)).toNatClampNeg) hX dX12_continueOver_87 ka_446 le_446 b19 rfl ?_
          refine J_goto (tgt := 99) hX dX12_continueOver_88 (by decide) ?_
          exact J_sub [1, 3, 4, 5, 0] rfl (hj75 _ (if_neg c17).symm)
      obtain ⟨g81, g82⟩ := g15
      refine J_if_eq (tgt := 66) hX dX12_continueOver_54 (by decide) (fun c12 => ?_) (fun c12 => ?_)
      · have g83 := g81 c12
        have b13 := g83
        refine J_aload_n hX dX12_continueOver_66 rfl 1 rfl ?_
        refine J_getR hX kf_RX12_68 dX12_continueOver_67 ka_426 (by decide) rfl rh_426_24 ?_
        refine J_iload_n hX dX12_continueOver_70 rfl 3 rfl ?_
        refine J_iconst (v := (2 : Int32)) hX dX12_continueOver_71 (by decide) ?_
        refine J_iadd hX dX12_continueOver_72 ?_
        refine J_iald (j := (y1 + (2 : Int32)).toNatClampNeg) hX dX12_continueOver_73 ka_446 le_446 b13 rfl ?_
        exact J_sub [1, 2, 3, 4, 0] rfl (hj80 _ (if_pos c12).symm)
      · have g84 := g82 c12
        have b14 := g84
        refine J_aload_n hX dX12_continueOver_57 rfl 1 rfl ?_
        refine J_getR hX kf_RX12_68 dX12_continueOver_58 ka_426 (by decide) rfl rh_426_24 ?_
        refine J_iload_n hX dX12_continueOver_61 rfl 3 rfl ?_
        refine J_iald (j := y1.toNatClampNeg) hX dX12_continueOver_62 ka_446 le_446 b14 rfl ?_
        refine J_goto (tgt := 74) hX dX12_continueOver_63 (by decide) ?_
        exact J_sub [1, 2, 3, 4, 0] rfl (hj80 _ (if_neg c12).symm)
    obtain ⟨g86, g87⟩ := g10
    refine J_if_eq (tgt := 43) hX dX12_continueOver_29 (by decide) (fun c7 => ?_) (fun c7 => ?_)
    · have g88 := g86 c7
      have b8 := g88
      refine J_aload_n hX dX12_continueOver_43 rfl 1 rfl ?_
      refine J_getR hX kf_RX12_68 dX12_continueOver_44 ka_426 (by decide) rfl rh_426_24 ?_
      refine J_iload_n hX dX12_continueOver_47 rfl 3 rfl ?_
      refine J_iconst (v := (1 : Int32)) hX dX12_continueOver_48 (by decide) ?_
      refine J_iadd hX dX12_continueOver_49 ?_
      refine J_iald (j := (y1 + (1 : Int32)).toNatClampNeg) hX dX12_continueOver_50 ka_446 le_446 b8 rfl ?_
      exact J_sub [1, 2, 3, 0] rfl (hj85 _ (if_pos c7).symm)
    · have g89 := g87 c7
      have b9 := g89
      refine J_aload_n hX dX12_continueOver_32 rfl 1 rfl ?_
      refine J_getR hX kf_RX12_68 dX12_continueOver_33 ka_426 (by decide) rfl rh_426_24 ?_
      refine J_iload_n hX dX12_continueOver_36 rfl 3 rfl ?_
      refine J_iconst (v := (3 : Int32)) hX dX12_continueOver_37 (by decide) ?_
      refine J_iadd hX dX12_continueOver_38 ?_
      refine J_iald (j := (y1 + (3 : Int32)).toNatClampNeg) hX dX12_continueOver_39 ka_446 le_446 b9 rfl ?_
      refine J_goto (tgt := 51) hX dX12_continueOver_40 (by decide) ?_
      exact J_sub [1, 2, 3, 0] rfl (hj85 _ (if_neg c7).symm)
  obtain ⟨g91, g92⟩ := g5
  refine J_if_eq (tgt := 20) hX dX12_continueOver_6 (by decide) (fun c2 => ?_) (fun c2 => ?_)
  · have g93 := g91 c2
    have b3 := g93
    refine J_aload_n hX dX12_continueOver_20 rfl 1 rfl ?_
    refine J_getR hX kf_RX12_68 dX12_continueOver_21 ka_426 (by decide) rfl rh_426_24 ?_
    refine J_iload_n hX dX12_continueOver_24 rfl 0 rfl ?_
    refine J_iald (j := y1.toNatClampNeg) hX dX12_continueOver_25 ka_446 le_446 b3 rfl ?_
    exact J_sub [1, 3, 0] rfl (hj90 _ (if_pos c2).symm)
  · have g94 := g92 c2
    have b4 := g94
    refine J_aload_n hX dX12_continueOver_9 rfl 1 rfl ?_
    refine J_getR hX kf_RX12_68 dX12_continueOver_10 ka_426 (by decide) rfl rh_426_24 ?_
    refine J_iload_n hX dX12_continueOver_13 rfl 0 rfl ?_
    refine J_iconst (v := (2 : Int32)) hX dX12_continueOver_14 (by decide) ?_
    refine J_iadd hX dX12_continueOver_15 ?_
    refine J_iald (j := (y1 + (2 : Int32)).toNatClampNeg) hX dX12_continueOver_16 ka_446 le_446 b4 rfl ?_
    refine J_goto (tgt := 26) hX dX12_continueOver_17 (by decide) ?_
    exact J_sub [1, 3, 0] rfl (hj90 _ (if_neg c2).symm)
set_option maxRecDepth 100000 in
theorem c_X12_continueImage {G : GT} {ad : Nat → Nat} (x1 : Int32) (x2 : Int32) (m : Mm) (K : Int32 → Mm → Prop) (h : wp_X12_continueImage x1 x2 m K) : Cn G yX12_continueImage cX12_continueImage 4 (some .int) (rmN 6 157) [.ref (ad 426), .int x1, .int x2] (0, 0) (fl ad m) (kI ad K) := by
  unfold wp_X12_continueImage at h
  refine Cn.of pn_RX12 (Nat.le_of_ble_eq_true rfl) (fun X hG hX hR => ?_)
  subst hG
  have hX : Cx X cX12_continueImage 4 RX12 (rmN 6 157) := hX
  show J X (0, 0) 0 [(0, .ref (ad 426)), (1, .int x1), (2, .int x2)] [] (fl ad m)
  refine J_aload_n hX dX12_continueImage_0 rfl 0 rfl ?_
  refine J_callV hX km_X12_begins kl_RX12_103 dX12_continueImage_1 ka_426 (by decide) [] ⟨Nat.le_of_ble_eq_true rfl, Nat.le_of_ble_eq_true rfl⟩ rfl rfl (Nat.le_of_ble_eq_true rfl) (c_X12_begins m _ h) (fun v w2 hk => ?_)
  obtain ⟨m1, rfl, rfl, h⟩ := hk
  show J X (0, 0) 4 [(0, .ref (ad 426)), (1, .int x1), (2, .int x2)] [] (fl ad m1)
  refine J_aload_n hX dX12_continueImage_4 rfl 0 rfl ?_
  refine J_aload_n hX dX12_continueImage_5 rfl 0 rfl ?_
  refine J_iconst (v := (0 : Int32)) hX dX12_continueImage_6 (by decide) ?_
  obtain ⟨b2, h⟩ := h
  refine J_callV hX km_X12_limitOf kl_RX12_293 dX12_continueImage_7 ka_426 (by decide) [.int (0 : Int32)] ⟨Nat.le_of_ble_eq_true rfl, Nat.le_of_ble_eq_true rfl⟩ rfl rfl (Nat.le_of_ble_eq_true rfl) (c_X12_limitOf (0 : Int32) m1 b2) (fun v w2 hk => ?_)
  obtain ⟨rfl, rfl⟩ := hk
  show J X (0, 0) 10 [(0, .ref (ad 426)), (1, .int x1), (2, .int x2)] [.int (v_X12_limitOf (0 : Int32) m1), .ref (ad 426)] (fl ad m1)
  refine J_callV hX km_X12_findSeams kl_RX12_296 dX12_continueImage_10 ka_426 (by decide) [.int (v_X12_limitOf (0 : Int32) m1)] ⟨Nat.le_of_ble_eq_true rfl, Nat.le_of_ble_eq_true rfl⟩ rfl rfl (Nat.le_of_ble_eq_true rfl) (c_X12_findSeams (v_X12_limitOf (0 : Int32) m1) m1 _ h) (fun v w2 hk => ?_)
  obtain ⟨m3, rfl, rfl, h⟩ := hk
  show J X (0, 0) 13 [(0, .ref (ad 426)), (1, .int x1), (2, .int x2)] [] (fl ad m3)
  refine J_iload_n hX dX12_continueImage_13 rfl 1 rfl ?_
  refine J_iconst (v := (0 : Int32)) hX dX12_continueImage_14 (by decide) ?_
  refine J_aload_n hX dX12_continueImage_15 rfl 0 rfl ?_
  refine J_getI hX kf_RX12_243 dX12_continueImage_16 ka_426 (by decide) rfl ?_
  refine J_iconst (v := (1 : Int32)) hX dX12_continueImage_19 (by decide) ?_
  refine J_isub hX dX12_continueImage_20 ?_
  refine J_callS hX km_X12_in kl_RX12_87 dX12_continueImage_21 [.int x1, .int (0 : Int32), .int ((m3.1 426 25) - (1 : Int32))] ⟨Nat.le_of_ble_eq_true rfl, Nat.le_of_ble_eq_true rfl⟩ rfl rfl (Nat.le_of_ble_eq_true rfl) (c_X12_in x1 (0 : Int32) ((m3.1 426 25) - (1 : Int32)) m3) (fun v w2 hk => ?_)
  obtain ⟨rfl, rfl⟩ := hk
  show J X (0, 0) 24 [(0, .ref (ad 426)), (1, .int x1), (2, .int x2)] [.int (v_X12_in x1 (0 : Int32) ((m3.1 426 25) - (1 : Int32)))] (fl ad m3)
  refine J_if_ne (tgt := 29) hX dX12_continueImage_24 (by decide) (fun c4 => ?_) (fun c4 => ?_)
  · replace h := Eq.mp (if_neg c4) h
    refine J_aload_n hX dX12_continueImage_29 rfl 0 rfl ?_
    refine J_iload_n hX dX12_continueImage_30 rfl 1 rfl ?_
    refine J_iload_n hX dX12_continueImage_31 rfl 2 rfl ?_
    refine J_callV hX km_X12_continueOver kl_RX12_299 dX12_continueImage_32 ka_426 (by decide) [.int x1, .int x2] ⟨Nat.le_of_ble_eq_true rfl, Nat.le_of_ble_eq_true rfl⟩ rfl rfl (Nat.le_of_ble_eq_true rfl) (c_X12_continueOver x1 x2 m3 _ h) (fun v w2 hk => ?_)
    obtain ⟨y6, m5, rfl, rfl, h⟩ := hk
    show J X (0, 0) 35 [(0, .ref (ad 426)), (1, .int x1), (2, .int x2)] [.int y6] (fl ad m5)
    refine J_istore_n (lv2 := [(3, .int y6), (0, .ref (ad 426)), (1, .int x1), (2, .int x2)]) hX dX12_continueImage_35 rfl (Nat.le_of_ble_eq_true rfl) rfl ?_
    refine J_iload_n hX dX12_continueImage_36 rfl 0 rfl ?_
    refine J_bipush (v := (-9 : Int32)) hX dX12_continueImage_37 (by decide) ?_
    refine J_icmp_ne (tgt := 47) hX dX12_continueImage_39 (by decide) (fun c7 => ?_) (fun c7 => ?_)
    · replace h := Eq.mp (if_neg c7) h
      refine J_aload_n hX dX12_continueImage_47 rfl 1 rfl ?_
      refine J_iload_n hX dX12_continueImage_48 rfl 0 rfl ?_
      refine J_callV hX km_X12_ends kl_RX12_106 dX12_continueImage_49 ka_426 (by decide) [.int y6] ⟨Nat.le_of_ble_eq_true rfl, Nat.le_of_ble_eq_true rfl⟩ rfl rfl (Nat.le_of_ble_eq_true rfl) (c_X12_ends y6 m5 _ h) (fun v w2 hk => ?_)
      obtain ⟨y9, m8, rfl, rfl, h⟩ := hk
      show J X (0, 0) 52 [(3, .int y6), (0, .ref (ad 426)), (1, .int x1), (2, .int x2)] [.int y9] (fl ad m8)
      exact J_iret hX hR dX12_continueImage_52 ⟨_, _, rfl, rfl, h⟩
    · replace h := Eq.mp (if_pos c7) h
      refine J_bipush (v := (-2 : Int32)) hX dX12_continueImage_42 (by decide) ?_
      refine J_goto (tgt := 52) hX dX12_continueImage_44 (by decide) ?_
      exact J_iret hX hR dX12_continueImage_52 ⟨_, _, rfl, rfl, h⟩
  · replace h := Eq.mp (if_pos c4) h
    refine J_iconst (v := (-1 : Int32)) hX dX12_continueImage_27 (by decide) ?_
    exact J_iret hX hR dX12_continueImage_28 ⟨_, _, rfl, rfl, h⟩
set_option maxRecDepth 100000 in
theorem c_X12_corner {G : GT} {ad : Nat → Nat} (x1 : Int32) (x2 : Int32) (x3 : Int32) (m : Mm) (K : Int32 → Mm → Prop) (h : wp_X12_corner x1 x2 x3 m K) : Cn G yX12_corner cX12_corner 4 (some .int) (rmN 3 78) [.ref (ad 426), .int x1, .int x2, .int x3] (0, 0) (fl ad m) (kI ad K) := by
  unfold wp_X12_corner at h
  refine Cn.of pn_RX12 (Nat.le_of_ble_eq_true rfl) (fun X hG hX hR => ?_)
  subst hG
  have hX : Cx X cX12_corner 4 RX12 (rmN 3 78) := hX
  show J X (0, 0) 0 [(0, .ref (ad 426)), (1, .int x1), (2, .int x2), (3, .int x3)] [] (fl ad m)
  refine J_aload_n hX dX12_corner_0 rfl 0 rfl ?_
  refine J_iload_n hX dX12_corner_1 rfl 1 rfl ?_
  refine J_callV hX km_X12_isPanel kl_RX12_145 dX12_corner_2 ka_426 (by decide) [.int x1] ⟨Nat.le_of_ble_eq_true rfl, Nat.le_of_ble_eq_true rfl⟩ rfl rfl (Nat.le_of_ble_eq_true rfl) (c_X12_isPanel x1 m) (fun v w2 hk => ?_)
  obtain ⟨rfl, rfl⟩ := hk
  show J X (0, 0) 5 [(0, .ref (ad 426)), (1, .int x1), (2, .int x2), (3, .int x3)] [.int (v_X12_isPanel x1 m)] (fl ad m)
  refine J_if_eq (tgt := 26) hX dX12_corner_5 (by decide) (fun c1 => ?_) (fun c1 => ?_)
  · replace h := Eq.mp (if_pos c1) h
    refine J_iconst (v := (-1 : Int32)) hX dX12_corner_26 (by decide) ?_
    exact J_iret hX hR dX12_corner_27 ⟨_, _, rfl, rfl, h⟩
  · replace h := Eq.mp (if_neg c1) h
    refine J_iload_n hX dX12_corner_8 rfl 2 rfl ?_
    refine J_iconst (v := (0 : Int32)) hX dX12_corner_9 (by decide) ?_
    refine J_iconst (v := (3 : Int32)) hX dX12_corner_10 (by decide) ?_
    refine J_callS hX km_X12_in kl_RX12_87 dX12_corner_11 [.int x2, .int (0 : Int32), .int (3 : Int32)] ⟨Nat.le_of_ble_eq_true rfl, Nat.le_of_ble_eq_true rfl⟩ rfl rfl (Nat.le_of_ble_eq_true rfl) (c_X12_in x2 (0 : Int32) (3 : Int32) m) (fun v w2 hk => ?_)
    obtain ⟨rfl, rfl⟩ := hk
    show J X (0, 0) 14 [(0, .ref (ad 426)), (1, .int x1), (2, .int x2), (3, .int x3)] [.int (v_X12_in x2 (0 : Int32) (3 : Int32))] (fl ad m)
    refine J_if_eq (tgt := 26) hX dX12_corner_14 (by decide) (fun c2 => ?_) (fun c2 => ?_)
    · replace h := Eq.mp (if_pos c2) h
      refine J_iconst (v := (-1 : Int32)) hX dX12_corner_26 (by decide) ?_
      exact J_iret hX hR dX12_corner_27 ⟨_, _, rfl, rfl, h⟩
    · replace h := Eq.mp (if_neg c2) h
      refine J_iload_n hX dX12_corner_17 rfl 3 rfl ?_
      refine J_iconst (v := (0 : Int32)) hX dX12_corner_18 (by decide) ?_
      refine J_iconst (v := (2 : Int32)) hX dX12_corner_19 (by decide) ?_
      refine J_callS hX km_X12_in kl_RX12_87 dX12_corner_20 [.int x3, .int (0 : Int32), .int (2 : Int32)] ⟨Nat.le_of_ble_eq_true rfl, Nat.le_of_ble_eq_true rfl⟩ rfl rfl (Nat.le_of_ble_eq_true rfl) (c_X12_in x3 (0 : Int32) (2 : Int32) m) (fun v w2 hk => ?_)
      obtain ⟨rfl, rfl⟩ := hk
      show J X (0, 0) 23 [(0, .ref (ad 426)), (1, .int x1), (2, .int x2), (3, .int x3)] [.int (v_X12_in x3 (0 : Int32) (2 : Int32))] (fl ad m)
      refine J_if_ne (tgt := 28) hX dX12_corner_23 (by decide) (fun c3 => ?_) (fun c3 => ?_)
      · replace h := Eq.mp (if_neg c3) h
        refine J_aload_n hX dX12_corner_28 rfl 0 rfl ?_
        refine J_iconst (v := (-1 : Int32)) hX dX12_corner_29 (by decide) ?_
        refine J_callV hX km_X12_fold kl_RX12_246 dX12_corner_30 ka_426 (by decide) [.int (-1 : Int32)] ⟨Nat.le_of_ble_eq_true rfl, Nat.le_of_ble_eq_true rfl⟩ rfl rfl (Nat.le_of_ble_eq_true rfl) (c_X12_fold (-1 : Int32) m _ h) (fun v w2 hk => ?_)
        obtain ⟨m4, rfl, rfl, h⟩ := hk
        show J X (0, 0) 33 [(0, .ref (ad 426)), (1, .int x1), (2, .int x2), (3, .int x3)] [] (fl ad m4)
        refine J_aload_n hX dX12_corner_33 rfl 0 rfl ?_
        refine J_iload_n hX dX12_corner_34 rfl 1 rfl ?_
        refine J_iload_n hX dX12_corner_35 rfl 2 rfl ?_
        refine J_iload_n hX dX12_corner_36 rfl 3 rfl ?_
        obtain ⟨b5, h⟩ := h
        refine J_callV hX km_X12_cornerOf kl_RX12_228 dX12_corner_37 ka_426 (by decide) [.int x1, .int x2, .int x3] ⟨Nat.le_of_ble_eq_true rfl, Nat.le_of_ble_eq_true rfl⟩ rfl rfl (Nat.le_of_ble_eq_true rfl) (c_X12_cornerOf x1 x2 x3 m4 b5) (fun v w2 hk => ?_)
        obtain ⟨rfl, rfl⟩ := hk
        show J X (0, 0) 40 [(0, .ref (ad 426)), (1, .int x1), (2, .int x2), (3, .int x3)] [.int (v_X12_cornerOf x1 x2 x3 m4)] (fl ad m4)
        exact J_iret hX hR dX12_corner_40 ⟨_, _, rfl, rfl, h⟩
      · replace h := Eq.mp (if_pos c3) h
        refine J_iconst (v := (-1 : Int32)) hX dX12_corner_26 (by decide) ?_
        exact J_iret hX hR dX12_corner_27 ⟨_, _, rfl, rfl, h⟩
set_option maxRecDepth 100000 in
theorem tb_X12_turnedPanels_l4 {X : XT} {ad : Nat → Nat} {K : Int32 → Mm → Prop} (hX : Cx X cX12_turnedPanels 3 RX12 (rmN 1 22)) (hR : Rx X (some .int) (kI ad K) (0, 0)) {rec : Int32 → Int32 → Mm → Prop} (hrec : ∀ (x1 : Int32) (x2 : Int32) (m : Mm), rec x1 x2 m → J X (0, 0) 4 [(0, .ref (ad 426)), (1, .int x1), (2, .int x2)] [] (fl ad m)) (x1 : Int32) (x2 : Int32) (m : Mm) (h : wb_X12_turnedPanels_l4 rec K x1 x2 m) : J X (0, 0) 4 [(0, .ref (ad 426)), (1, .int x1), (2, .int x2)] [] (fl ad m) := by
  unfold wb_X12_turnedPanels_l4 at h
  refine J_iload_n hX dX12_turnedPanels_4 rfl 2 rfl ?_
  refine J_aload_n hX dX12_turnedPanels_5 rfl 0 rfl ?_
  refine J_callV hX km_X12_many kl_RX12_83 dX12_turnedPanels_6 ka_426 (by decide) [] ⟨Nat.le_of_ble_eq_true rfl, Nat.le_of_ble_eq_true rfl⟩ rfl rfl (Nat.le_of_ble_eq_true rfl) (c_X12_many m) (fun v w2 hk => ?_)
  obtain ⟨rfl, rfl⟩ := hk
  show J X (0, 0) 9 [(0, .ref (ad 426)), (1, .int x1), (2, .int x2)] [.int (v_X12_many m), .int x2] (fl ad m)
  refine J_icmp_ge (tgt := 35) hX dX12_turnedPanels_9 (by decide) (fun c1 => ?_) (fun c1 => ?_)
  · replace h := Eq.mp (if_pos c1) h
    refine J_iload_n hX dX12_turnedPanels_35 rfl 1 rfl ?_
    exact J_iret hX hR dX12_turnedPanels_36 ⟨_, _, rfl, rfl, h⟩
  · replace h := Eq.mp (if_neg c1) h
    refine J_iload_n hX dX12_turnedPanels_12 rfl 1 rfl ?_
    refine J_aload_n hX dX12_turnedPanels_13 rfl 0 rfl ?_
    refine J_iload_n hX dX12_turnedPanels_14 rfl 2 rfl ?_
    refine J_iconst (v := (5 : Int32)) hX dX12_turnedPanels_15 (by decide) ?_
    obtain ⟨b2, h⟩ := h
    refine J_callV hX km_X12_of kl_RX12_91 dX12_turnedPanels_16 ka_426 (by decide) [.int x2, .int (5 : Int32)] ⟨Nat.le_of_ble_eq_true rfl, Nat.le_of_ble_eq_true rfl⟩ rfl rfl (Nat.le_of_ble_eq_true rfl) (c_X12_of x2 (5 : Int32) m b2) (fun v w2 hk => ?_)
    obtain ⟨rfl, rfl⟩ := hk
    show J X (0, 0) 19 [(0, .ref (ad 426)), (1, .int x1), (2, .int x2)] [.int (v_X12_of x2 (5 : Int32) m), .int x1] (fl ad m)
    have hj6 : ∀ y4 : Int32, y4 = (if (v_X12_of x2 (5 : Int32) m) = (0 : Int32) then (0 : Int32) else (1 : Int32)) → J X (0, 0) 27 [(0, .ref (ad 426)), (2, .int x2)] [.int y4, .int x1] (fl ad m) := by
      intro y4 e_y4
      replace h := h y4 e_y4
      refine J_iadd hX dX12_turnedPanels_27 ?_
      refine J_nmI (fun y5 e_y5 => ?_)
      replace h := h y5 e_y5
      refine J_istore_n (lv2 := [(1, .int y5), (0, .ref (ad 426)), (2, .int x2)]) hX dX12_turnedPanels_28 rfl (Nat.le_of_ble_eq_true rfl) rfl ?_
      refine J_iinc (x := (x2 + (1 : Int32))) (lv2 := [(2, .int (x2 + (1 : Int32))), (1, .int y5), (0, .ref (ad 426))]) hX dX12_turnedPanels_29 2 rfl rfl (Nat.le_of_ble_eq_true rfl) rfl ?_
      refine J_goto (tgt := 4) hX dX12_turnedPanels_32 (by decide) ?_
      exact J_sub [2, 1, 0] rfl (hrec y5 (x2 + (1 : Int32)) m h)
    refine J_if_eq (tgt := 26) hX dX12_turnedPanels_19 (by decide) (fun c3 => ?_) (fun c3 => ?_)
    · refine J_iconst (v := (0 : Int32)) hX dX12_turnedPanels_26 (by decide) ?_
      exact J_sub [0, 2] rfl (hj6 _ (if_pos c3).symm)
    · refine J_iconst (v := (1 : Int32)) hX dX12_turnedPanels_22 (by decide) ?_
      refine J_goto (tgt := 27) hX dX12_turnedPanels_23 (by decide) ?_
      exact J_sub [0, 2] rfl (hj6 _ (if_neg c3).symm)
set_option maxRecDepth 100000 in
theorem t_X12_turnedPanels_l4 {X : XT} {ad : Nat → Nat} {K : Int32 → Mm → Prop} (hX : Cx X cX12_turnedPanels 3 RX12 (rmN 1 22)) (hR : Rx X (some .int) (kI ad K) (0, 0))  : ∀ (n : Nat) (x1 : Int32) (x2 : Int32) (m : Mm), wp_X12_turnedPanels_l4 K n x1 x2 m → J X (0, 0) 4 [(0, .ref (ad 426)), (1, .int x1), (2, .int x2)] [] (fl ad m) := by
  intro n
  induction n with
  | zero => intro x1 x2 m h; exact h.elim
  | succ n ih => intro x1 x2 m h; exact tb_X12_turnedPanels_l4 hX hR ih x1 x2 m h
set_option maxRecDepth 100000 in
theorem c_X12_turnedPanels {G : GT} {ad : Nat → Nat} (m : Mm) (K : Int32 → Mm → Prop) (h : wp_X12_turnedPanels m K) : Cn G yX12_turnedPanels cX12_turnedPanels 3 (some .int) (rmN 1 22) [.ref (ad 426)] (0, 0) (fl ad m) (kI ad K) := by
  unfold wp_X12_turnedPanels at h
  refine Cn.of pn_RX12 (Nat.le_of_ble_eq_true rfl) (fun X hG hX hR => ?_)
  subst hG
  have hX : Cx X cX12_turnedPanels 3 RX12 (rmN 1 22) := hX
  show J X (0, 0) 0 [(0, .ref (ad 426))] [] (fl ad m)
  refine J_iconst (v := (0 : Int32)) hX dX12_turnedPanels_0 (by decide) ?_
  refine J_istore_n (lv2 := [(1, .int (0 : Int32)), (0, .ref (ad 426))]) hX dX12_turnedPanels_1 rfl (Nat.le_of_ble_eq_true rfl) rfl ?_
  refine J_iconst (v := (1 : Int32)) hX dX12_turnedPanels_2 (by decide) ?_
  refine J_istore_n (lv2 := [(2, .int (1 : Int32)), (1, .int (0 : Int32)), (0, .ref (ad 426))]) hX dX12_turnedPanels_3 rfl (Nat.le_of_ble_eq_true rfl) rfl ?_
  refine J_sub [2, 1, 0] rfl (t_X12_turnedPanels_l4 hX hR FU (0 : Int32) (1 : Int32) m h)
set_option maxRecDepth 100000 in
theorem tb_X12_flaps_l4 {X : XT} {ad : Nat → Nat} {K : Int32 → Mm → Prop} (hX : Cx X cX12_flaps 3 RX12 (rmN 2 43)) (hR : Rx X (some .int) (kI ad K) (0, 0)) {rec : Int32 → Int32 → Mm → Prop} (hrec : ∀ (x1 : Int32) (x2 : Int32) (m : Mm), rec x1 x2 m → J X (0, 0) 4 [(0, .ref (ad 426)), (1, .int x1), (2, .int x2)] [] (fl ad m)) (x1 : Int32) (x2 : Int32) (m : Mm) (h : wb_X12_flaps_l4 rec K x1 x2 m) : J X (0, 0) 4 [(0, .ref (ad 426)), (1, .int x1), (2, .int x2)] [] (fl ad m) := by
  unfold wb_X12_flaps_l4 at h
  refine J_iload_n hX dX12_flaps_4 rfl 2 rfl ?_
  refine J_aload_n hX dX12_flaps_5 rfl 0 rfl ?_
  refine J_callV hX km_X12_many kl_RX12_83 dX12_flaps_6 ka_426 (by decide) [] ⟨Nat.le_of_ble_eq_true rfl, Nat.le_of_ble_eq_true rfl⟩ rfl rfl (Nat.le_of_ble_eq_true rfl) (c_X12_many m) (fun v w2 hk => ?_)
  obtain ⟨rfl, rfl⟩ := hk
  show J X (0, 0) 9 [(0, .ref (ad 426)), (1, .int x1), (2, .int x2)] [.int (v_X12_many m), .int x2] (fl ad m)
  refine J_icmp_ge (tgt := 34) hX dX12_flaps_9 (by decide) (fun c1 => ?_) (fun c1 => ?_)
  · replace h := Eq.mp (if_pos c1) h
    refine J_iload_n hX dX12_flaps_34 rfl 1 rfl ?_
    exact J_iret hX hR dX12_flaps_35 ⟨_, _, rfl, rfl, h⟩
  · replace h := Eq.mp (if_neg c1) h
    refine J_iload_n hX dX12_flaps_12 rfl 1 rfl ?_
    refine J_aload_n hX dX12_flaps_13 rfl 0 rfl ?_
    refine J_iload_n hX dX12_flaps_14 rfl 2 rfl ?_
    obtain ⟨b2, h⟩ := h
    refine J_callV hX km_X12_isFlap kl_RX12_302 dX12_flaps_15 ka_426 (by decide) [.int x2] ⟨Nat.le_of_ble_eq_true rfl, Nat.le_of_ble_eq_true rfl⟩ rfl rfl (Nat.le_of_ble_eq_true rfl) (c_X12_isFlap x2 m b2) (fun v w2 hk => ?_)
    obtain ⟨rfl, rfl⟩ := hk
    show J X (0, 0) 18 [(0, .ref (ad 426)), (1, .int x1), (2, .int x2)] [.int (v_X12_isFlap x2 m), .int x1] (fl ad m)
    have hj6 : ∀ y4 : Int32, y4 = (if (v_X12_isFlap x2 m) = (0 : Int32) then (0 : Int32) else (1 : Int32)) → J X (0, 0) 26 [(0, .ref (ad 426)), (2, .int x2)] [.int y4, .int x1] (fl ad m) := by
      intro y4 e_y4
      replace h := h y4 e_y4
      refine J_iadd hX dX12_flaps_26 ?_
      refine J_nmI (fun y5 e_y5 => ?_)
      replace h := h y5 e_y5
      refine J_istore_n (lv2 := [(1, .int y5), (0, .ref (ad 426)), (2, .int x2)]) hX dX12_flaps_27 rfl (Nat.le_of_ble_eq_true rfl) rfl ?_
      refine J_iinc (x := (x2 + (1 : Int32))) (lv2 := [(2, .int (x2 + (1 : Int32))), (1, .int y5), (0, .ref (ad 426))]) hX dX12_flaps_28 2 rfl rfl (Nat.le_of_ble_eq_true rfl) rfl ?_
      refine J_goto (tgt := 4) hX dX12_flaps_31 (by decide) ?_
      exact J_sub [2, 1, 0] rfl (hrec y5 (x2 + (1 : Int32)) m h)
    refine J_if_eq (tgt := 25) hX dX12_flaps_18 (by decide) (fun c3 => ?_) (fun c3 => ?_)
    · refine J_iconst (v := (0 : Int32)) hX dX12_flaps_25 (by decide) ?_
      exact J_sub [0, 2] rfl (hj6 _ (if_pos c3).symm)
    · refine J_iconst (v := (1 : Int32)) hX dX12_flaps_21 (by decide) ?_
      refine J_goto (tgt := 26) hX dX12_flaps_22 (by decide) ?_
      exact J_sub [0, 2] rfl (hj6 _ (if_neg c3).symm)
set_option maxRecDepth 100000 in
theorem t_X12_flaps_l4 {X : XT} {ad : Nat → Nat} {K : Int32 → Mm → Prop} (hX : Cx X cX12_flaps 3 RX12 (rmN 2 43)) (hR : Rx X (some .int) (kI ad K) (0, 0))  : ∀ (n : Nat) (x1 : Int32) (x2 : Int32) (m : Mm), wp_X12_flaps_l4 K n x1 x2 m → J X (0, 0) 4 [(0, .ref (ad 426)), (1, .int x1), (2, .int x2)] [] (fl ad m) := by
  intro n
  induction n with
  | zero => intro x1 x2 m h; exact h.elim
  | succ n ih => intro x1 x2 m h; exact tb_X12_flaps_l4 hX hR ih x1 x2 m h
set_option maxRecDepth 100000 in
theorem c_X12_flaps {G : GT} {ad : Nat → Nat} (m : Mm) (K : Int32 → Mm → Prop) (h : wp_X12_flaps m K) : Cn G yX12_flaps cX12_flaps 3 (some .int) (rmN 2 43) [.ref (ad 426)] (0, 0) (fl ad m) (kI ad K) := by
  unfold wp_X12_flaps at h
  refine Cn.of pn_RX12 (Nat.le_of_ble_eq_true rfl) (fun X hG hX hR => ?_)
  subst hG
  have hX : Cx X cX12_flaps 3 RX12 (rmN 2 43) := hX
  show J X (0, 0) 0 [(0, .ref (ad 426))] [] (fl ad m)
  refine J_iconst (v := (0 : Int32)) hX dX12_flaps_0 (by decide) ?_
  refine J_istore_n (lv2 := [(1, .int (0 : Int32)), (0, .ref (ad 426))]) hX dX12_flaps_1 rfl (Nat.le_of_ble_eq_true rfl) rfl ?_
  refine J_iconst (v := (0 : Int32)) hX dX12_flaps_2 (by decide) ?_
  refine J_istore_n (lv2 := [(2, .int (0 : Int32)), (1, .int (0 : Int32)), (0, .ref (ad 426))]) hX dX12_flaps_3 rfl (Nat.le_of_ble_eq_true rfl) rfl ?_
  refine J_sub [2, 1, 0] rfl (t_X12_flaps_l4 hX hR FU (0 : Int32) (0 : Int32) m h)
set_option maxRecDepth 100000 in
theorem tb_X12_definedImages_l4 {X : XT} {ad : Nat → Nat} {K : Int32 → Mm → Prop} (hX : Cx X cX12_definedImages 3 RX12 (rmN 0 0)) (hR : Rx X (some .int) (kI ad K) (0, 0)) {rec : Int32 → Int32 → Mm → Prop} (hrec : ∀ (x1 : Int32) (x2 : Int32) (m : Mm), rec x1 x2 m → J X (0, 0) 4 [(0, .ref (ad 426)), (1, .int x1), (2, .int x2)] [] (fl ad m)) (x1 : Int32) (x2 : Int32) (m : Mm) (h : wb_X12_definedImages_l4 rec K x1 x2 m) : J X (0, 0) 4 [(0, .ref (ad 426)), (1, .int x1), (2, .int x2)] [] (fl ad m) := by
  unfold wb_X12_definedImages_l4 at h
  refine J_iload_n hX dX12_definedImages_4 rfl 2 rfl ?_
  refine J_iconst (v := (4 : Int32)) hX dX12_definedImages_5 (by decide) ?_
  refine J_icmp_ge (tgt := 36) hX dX12_definedImages_6 (by decide) (fun c1 => ?_) (fun c1 => ?_)
  · replace h := Eq.mp (if_pos c1) h
    refine J_iload_n hX dX12_definedImages_36 rfl 1 rfl ?_
    exact J_iret hX hR dX12_definedImages_37 ⟨_, _, rfl, rfl, h⟩
  · replace h := Eq.mp (if_neg c1) h
    refine J_iload_n hX dX12_definedImages_9 rfl 1 rfl ?_
    refine J_aload_n hX dX12_definedImages_10 rfl 0 rfl ?_
    refine J_getR hX kf_RX12_7 dX12_definedImages_11 ka_426 (by decide) rfl rh_426_0 ?_
    refine J_iconst (v := (3 : Int32)) hX dX12_definedImages_14 (by decide) ?_
    refine J_iconst (v := (2 : Int32)) hX dX12_definedImages_15 (by decide) ?_
    refine J_iload_n hX dX12_definedImages_16 rfl 2 rfl ?_
    refine J_imul hX dX12_definedImages_17 ?_
    refine J_iadd hX dX12_definedImages_18 ?_
    obtain ⟨b2, h⟩ := h
    refine J_iald (j := ((3 : Int32) + ((2 : Int32) * x2)).toNatClampNeg) hX dX12_definedImages_19 ka_427 le_427 b2 rfl ?_
    have hj6 : ∀ y4 : Int32, y4 = (if (m.1 427 ((3 : Int32) + ((2 : Int32) * x2)).toNatClampNeg) ≤ (0 : Int32) then (0 : Int32) else (1 : Int32)) → J X (0, 0) 28 [(0, .ref (ad 426)), (2, .int x2)] [.int y4, .int x1] (fl ad m) := by
      intro y4 e_y4
      replace h := h y4 e_y4
      refine J_iadd hX dX12_definedImages_28 ?_
      refine J_nmI (fun y5 e_y5 => ?_)
      replace h := h y5 e_y5
      refine J_istore_n (lv2 := [(1, .int y5), (0, .ref (ad 426)), (2, .int x2)]) hX dX12_definedImages_29 rfl (Nat.le_of_ble_eq_true rfl) rfl ?_
      refine J_iinc (x := (x2 + (1 : Int32))) (lv2 := [(2, .int (x2 + (1 : Int32))), (1, .int y5), (0, .ref (ad 426))]) hX dX12_definedImages_30 2 rfl rfl (Nat.le_of_ble_eq_true rfl) rfl ?_
      refine J_goto (tgt := 4) hX dX12_definedImages_33 (by decide) ?_
      exact J_sub [2, 1, 0] rfl (hrec y5 (x2 + (1 : Int32)) m h)
    refine J_if_le (tgt := 27) hX dX12_definedImages_20 (by decide) (fun c3 => ?_) (fun c3 => ?_)
    · refine J_iconst (v := (0 : Int32)) hX dX12_definedImages_27 (by decide) ?_
      exact J_sub [0, 2] rfl (hj6 _ (if_pos c3).symm)
    · refine J_iconst (v := (1 : Int32)) hX dX12_definedImages_23 (by decide) ?_
      refine J_goto (tgt := 28) hX dX12_definedImages_24 (by decide) ?_
      exact J_sub [0, 2] rfl (hj6 _ (if_neg c3).symm)
set_option maxRecDepth 100000 in
theorem t_X12_definedImages_l4 {X : XT} {ad : Nat → Nat} {K : Int32 → Mm → Prop} (hX : Cx X cX12_definedImages 3 RX12 (rmN 0 0)) (hR : Rx X (some .int) (kI ad K) (0, 0))  : ∀ (n : Nat) (x1 : Int32) (x2 : Int32) (m : Mm), wp_X12_definedImages_l4 K n x1 x2 m → J X (0, 0) 4 [(0, .ref (ad 426)), (1, .int x1), (2, .int x2)] [] (fl ad m) := by
  intro n
  induction n with
  | zero => intro x1 x2 m h; exact h.elim
  | succ n ih => intro x1 x2 m h; exact tb_X12_definedImages_l4 hX hR ih x1 x2 m h
set_option maxRecDepth 100000 in
theorem c_X12_definedImages {G : GT} {ad : Nat → Nat} (m : Mm) (K : Int32 → Mm → Prop) (h : wp_X12_definedImages m K) : Cn G yX12_definedImages cX12_definedImages 3 (some .int) (rmN 0 0) [.ref (ad 426)] (0, 0) (fl ad m) (kI ad K) := by
  unfold wp_X12_definedImages at h
  refine Cn.of pn_RX12 (Nat.le_of_ble_eq_true rfl) (fun X hG hX hR => ?_)
  subst hG
  have hX : Cx X cX12_definedImages 3 RX12 (rmN 0 0) := hX
  show J X (0, 0) 0 [(0, .ref (ad 426))] [] (fl ad m)
  refine J_iconst (v := (0 : Int32)) hX dX12_definedImages_0 (by decide) ?_
  refine J_istore_n (lv2 := [(1, .int (0 : Int32)), (0, .ref (ad 426))]) hX dX12_definedImages_1 rfl (Nat.le_of_ble_eq_true rfl) rfl ?_
  refine J_iconst (v := (0 : Int32)) hX dX12_definedImages_2 (by decide) ?_
  refine J_istore_n (lv2 := [(2, .int (0 : Int32)), (1, .int (0 : Int32)), (0, .ref (ad 426))]) hX dX12_definedImages_3 rfl (Nat.le_of_ble_eq_true rfl) rfl ?_
  refine J_sub [2, 1, 0] rfl (t_X12_definedImages_l4 hX hR FU (0 : Int32) (0 : Int32) m h)
set_option maxRecDepth 100000 in
theorem c_X12_count {G : GT} {ad : Nat → Nat} (x1 : Int32) (m : Mm) (K : Int32 → Mm → Prop) (h : wp_X12_count x1 m K) : Cn G yX12_count cX12_count 2 (some .int) (rmN 3 65) [.ref (ad 426), .int x1] (0, 0) (fl ad m) (kI ad K) := by
  unfold wp_X12_count at h
  refine Cn.of pn_RX12 (Nat.le_of_ble_eq_true rfl) (fun X hG hX hR => ?_)
  subst hG
  have hX : Cx X cX12_count 2 RX12 (rmN 3 65) := hX
  show J X (0, 0) 0 [(0, .ref (ad 426)), (1, .int x1)] [] (fl ad m)
  refine J_iload_n hX dX12_count_0 rfl 1 rfl ?_
  by_cases c1 : x1 = (0 : Int32)
  · replace h := Eq.mp (if_pos c1) h
    refine J_tabIn (v := (0 : Int32)) (tgt := 44) hX dX12_count_1 c1 (by decide) (by decide) rfl (by decide) ?_
    refine J_aload_n hX dX12_count_44 rfl 0 rfl ?_
    refine J_callV hX km_X12_many kl_RX12_83 dX12_count_45 ka_426 (by decide) [] ⟨Nat.le_of_ble_eq_true rfl, Nat.le_of_ble_eq_true rfl⟩ rfl rfl (Nat.le_of_ble_eq_true rfl) (c_X12_many m) (fun v w2 hk => ?_)
    obtain ⟨rfl, rfl⟩ := hk
    show J X (0, 0) 48 [(0, .ref (ad 426)), (1, .int x1)] [.int (v_X12_many m)] (fl ad m)
    exact J_iret hX hR dX12_count_48 ⟨_, _, rfl, rfl, h⟩
  · replace h := Eq.mp (if_neg c1) h
    by_cases c2 : x1 = (1 : Int32)
    · replace h := Eq.mp (if_pos c2) h
      refine J_tabIn (v := (1 : Int32)) (tgt := 49) hX dX12_count_1 c2 (by decide) (by decide) rfl (by decide) ?_
      refine J_aload_n hX dX12_count_49 rfl 0 rfl ?_
      refine J_getI hX kf_RX12_99 dX12_count_50 ka_426 (by decide) rfl ?_
      exact J_iret hX hR dX12_count_53 ⟨_, _, rfl, rfl, h⟩
    · replace h := Eq.mp (if_neg c2) h
      by_cases c3 : x1 = (2 : Int32)
      · replace h := Eq.mp (if_pos c3) h
        refine J_tabIn (v := (2 : Int32)) (tgt := 54) hX dX12_count_1 c3 (by decide) (by decide) rfl (by decide) ?_
        refine J_aload_n hX dX12_count_54 rfl 0 rfl ?_
        refine J_getR hX kf_RX12_22 dX12_count_55 ka_426 (by decide) rfl rh_426_6 ?_
        refine J_iconst (v := (0 : Int32)) hX dX12_count_58 (by decide) ?_
        refine J_zald (j := 0) hX dX12_count_59 ka_431 le_431 (vp_lit (by decide)) (by decide) ?_
        have hj9 : ∀ y5 : Int32, y5 = (if (m.1 431 0) = (0 : Int32) then (0 : Int32) else (1 : Int32)) → J X (0, 0) 68 [(0, .ref (ad 426))] [.int y5] (fl ad m) := by
          intro y5 e_y5
          replace h := h y5 e_y5
          refine J_aload_n hX dX12_count_68 rfl 0 rfl ?_
          refine J_getR hX kf_RX12_22 dX12_count_69 ka_426 (by decide) rfl rh_426_6 ?_
          refine J_iconst (v := (1 : Int32)) hX dX12_count_72 (by decide) ?_
          refine J_zald (j := 1) hX dX12_count_73 ka_431 le_431 (vp_lit (by decide)) (by decide) ?_
          have hj8 : ∀ y7 : Int32, y7 = (if (m.1 431 1) = (0 : Int32) then (0 : Int32) else (1 : Int32)) → J X (0, 0) 82 [] [.int y7, .int y5] (fl ad m) := by
            intro y7 e_y7
            replace h := h y7 e_y7
            refine J_iadd hX dX12_count_82 ?_
            exact J_iret hX hR dX12_count_83 ⟨_, _, rfl, rfl, h⟩
          refine J_if_eq (tgt := 81) hX dX12_count_74 (by decide) (fun c6 => ?_) (fun c6 => ?_)
          · refine J_iconst (v := (0 : Int32)) hX dX12_count_81 (by decide) ?_
            exact J_sub [] rfl (hj8 _ (if_pos c6).symm)
          · refine J_iconst (v := (1 : Int32)) hX dX12_count_77 (by decide) ?_
            refine J_goto (tgt := 82) hX dX12_count_78 (by decide) ?_
            exact J_sub [] rfl (hj8 _ (if_neg c6).symm)
        refine J_if_eq (tgt := 67) hX dX12_count_60 (by decide) (fun c4 => ?_) (fun c4 => ?_)
        · refine J_iconst (v := (0 : Int32)) hX dX12_count_67 (by decide) ?_
          exact J_sub [0] rfl (hj9 _ (if_pos c4).symm)
        · refine J_iconst (v := (1 : Int32)) hX dX12_count_63 (by decide) ?_
          refine J_goto (tgt := 68) hX dX12_count_64 (by decide) ?_
          exact J_sub [0] rfl (hj9 _ (if_neg c4).symm)
      · replace h := Eq.mp (if_neg c3) h
        by_cases c10 : x1 = (3 : Int32)
        · replace h := Eq.mp (if_pos c10) h
          refine J_tabIn (v := (3 : Int32)) (tgt := 84) hX dX12_count_1 c10 (by decide) (by decide) rfl (by decide) ?_
          refine J_aload_n hX dX12_count_84 rfl 0 rfl ?_
          refine J_getI hX kf_RX12_173 dX12_count_85 ka_426 (by decide) rfl ?_
          exact J_iret hX hR dX12_count_88 ⟨_, _, rfl, rfl, h⟩
        · replace h := Eq.mp (if_neg c10) h
          by_cases c11 : x1 = (4 : Int32)
          · replace h := Eq.mp (if_pos c11) h
            refine J_tabIn (v := (4 : Int32)) (tgt := 89) hX dX12_count_1 c11 (by decide) (by decide) rfl (by decide) ?_
            refine J_aload_n hX dX12_count_89 rfl 0 rfl ?_
            refine J_callV hX km_X12_turnedPanels kl_RX12_407 dX12_count_90 ka_426 (by decide) [] ⟨Nat.le_of_ble_eq_true rfl, Nat.le_of_ble_eq_true rfl⟩ rfl rfl (Nat.le_of_ble_eq_true rfl) (c_X12_turnedPanels m _ h) (fun v w2 hk => ?_)
            obtain ⟨y13, m12, rfl, rfl, h⟩ := hk
            show J X (0, 0) 93 [(0, .ref (ad 426)), (1, .int x1)] [.int y13] (fl ad m12)
            exact J_iret hX hR dX12_count_93 ⟨_, _, rfl, rfl, h⟩
          · replace h := Eq.mp (if_neg c11) h
            by_cases c14 : x1 = (5 : Int32)
            · replace h := Eq.mp (if_pos c14) h
              refine J_tabIn (v := (5 : Int32)) (tgt := 94) hX dX12_count_1 c14 (by decide) (by decide) rfl (by decide) ?_
              refine J_aload_n hX dX12_count_94 rfl 0 rfl ?_
              refine J_callV hX km_X12_flaps kl_RX12_410 dX12_count_95 ka_426 (by decide) [] ⟨Nat.le_of_ble_eq_true rfl, Nat.le_of_ble_eq_true rfl⟩ rfl rfl (Nat.le_of_ble_eq_true rfl) (c_X12_flaps m _ h) (fun v w2 hk => ?_)
              obtain ⟨y16, m15, rfl, rfl, h⟩ := hk
              show J X (0, 0) 98 [(0, .ref (ad 426)), (1, .int x1)] [.int y16] (fl ad m15)
              exact J_iret hX hR dX12_count_98 ⟨_, _, rfl, rfl, h⟩
            · replace h := Eq.mp (if_neg c14) h
              by_cases c17 : x1 = (6 : Int32)
              · replace h := Eq.mp (if_pos c17) h
                refine J_tabIn (v := (6 : Int32)) (tgt := 99) hX dX12_count_1 c17 (by decide) (by decide) rfl (by decide) ?_
                refine J_aload_n hX dX12_count_99 rfl 0 rfl ?_
                refine J_callV hX km_X12_definedImages kl_RX12_413 dX12_count_100 ka_426 (by decide) [] ⟨Nat.le_of_ble_eq_true rfl, Nat.le_of_ble_eq_true rfl⟩ rfl rfl (Nat.le_of_ble_eq_true rfl) (c_X12_definedImages m _ h) (fun v w2 hk => ?_)
                obtain ⟨y19, m18, rfl, rfl, h⟩ := hk
                show J X (0, 0) 103 [(0, .ref (ad 426)), (1, .int x1)] [.int y19] (fl ad m18)
                exact J_iret hX hR dX12_count_103 ⟨_, _, rfl, rfl, h⟩
              · replace h := Eq.mp (if_neg c17) h
                refine J_tabOut (tgt := 104) hX dX12_count_1 (by have t0 := tne c1 (k := 0) (by decide); have t1 := tne c2 (k := 1) (by decide); have t2 := tne c3 (k := 2) (by decide); have t3 := tne c10 (k := 3) (by decide); have t4 := tne c11 (k := 4) (by decide); have t5 := tne c14 (k := 5) (by decide); have t6 := tne c17 (k := 6) (by decide); omega) (by decide) ?_
                refine J_iconst (v := (-1 : Int32)) hX dX12_count_104 (by decide) ?_
                exact J_iret hX hR dX12_count_105 ⟨_, _, rfl, rfl, h⟩
set_option maxRecDepth 100000 in
theorem c_X12_coverage {G : GT} {ad : Nat → Nat} (x1 : Int32) (m : Mm) (K : Int32 → Mm → Prop) (h : wp_X12_coverage x1 m K) : Cn G yX12_coverage cX12_coverage 2 (some .int) (rmN 5 118) [.ref (ad 426), .int x1] (0, 0) (fl ad m) (kI ad K) := by
  unfold wp_X12_coverage at h
  refine Cn.of pn_RX12 (Nat.le_of_ble_eq_true rfl) (fun X hG hX hR => ?_)
  subst hG
  have hX : Cx X cX12_coverage 2 RX12 (rmN 5 118) := hX
  show J X (0, 0) 0 [(0, .ref (ad 426)), (1, .int x1)] [] (fl ad m)
  refine J_aload_n hX dX12_coverage_0 rfl 0 rfl ?_
  refine J_iload_n hX dX12_coverage_1 rfl 1 rfl ?_
  refine J_callV hX km_X12_isPanel kl_RX12_145 dX12_coverage_2 ka_426 (by decide) [.int x1] ⟨Nat.le_of_ble_eq_true rfl, Nat.le_of_ble_eq_true rfl⟩ rfl rfl (Nat.le_of_ble_eq_true rfl) (c_X12_isPanel x1 m) (fun v w2 hk => ?_)
  obtain ⟨rfl, rfl⟩ := hk
  show J X (0, 0) 5 [(0, .ref (ad 426)), (1, .int x1)] [.int (v_X12_isPanel x1 m)] (fl ad m)
  refine J_if_ne (tgt := 10) hX dX12_coverage_5 (by decide) (fun c1 => ?_) (fun c1 => ?_)
  · replace h := Eq.mp (if_neg c1) h
    refine J_aload_n hX dX12_coverage_10 rfl 0 rfl ?_
    refine J_iload_n hX dX12_coverage_11 rfl 1 rfl ?_
    obtain ⟨b2, h⟩ := h
    refine J_callV hX km_X12_isFlap kl_RX12_302 dX12_coverage_12 ka_426 (by decide) [.int x1] ⟨Nat.le_of_ble_eq_true rfl, Nat.le_of_ble_eq_true rfl⟩ rfl rfl (Nat.le_of_ble_eq_true rfl) (c_X12_isFlap x1 m b2) (fun v w2 hk => ?_)
    obtain ⟨rfl, rfl⟩ := hk
    show J X (0, 0) 15 [(0, .ref (ad 426)), (1, .int x1)] [.int (v_X12_isFlap x1 m)] (fl ad m)
    refine J_if_ne (tgt := 21) hX dX12_coverage_15 (by decide) (fun c3 => ?_) (fun c3 => ?_)
    · replace h := Eq.mp (if_neg c3) h
      refine J_aload_n hX dX12_coverage_21 rfl 0 rfl ?_
      refine J_iconst (v := (-1 : Int32)) hX dX12_coverage_22 (by decide) ?_
      refine J_callV hX km_X12_fold kl_RX12_246 dX12_coverage_23 ka_426 (by decide) [.int (-1 : Int32)] ⟨Nat.le_of_ble_eq_true rfl, Nat.le_of_ble_eq_true rfl⟩ rfl rfl (Nat.le_of_ble_eq_true rfl) (c_X12_fold (-1 : Int32) m _ h) (fun v w2 hk => ?_)
      obtain ⟨m4, rfl, rfl, h⟩ := hk
      show J X (0, 0) 26 [(0, .ref (ad 426)), (1, .int x1)] [] (fl ad m4)
      refine J_aload_n hX dX12_coverage_26 rfl 0 rfl ?_
      refine J_iload_n hX dX12_coverage_27 rfl 1 rfl ?_
      refine J_aload_n hX dX12_coverage_28 rfl 0 rfl ?_
      refine J_iconst (v := (0 : Int32)) hX dX12_coverage_29 (by decide) ?_
      obtain ⟨b5, h⟩ := h
      refine J_callV hX km_X12_limitOf kl_RX12_293 dX12_coverage_30 ka_426 (by decide) [.int (0 : Int32)] ⟨Nat.le_of_ble_eq_true rfl, Nat.le_of_ble_eq_true rfl⟩ rfl rfl (Nat.le_of_ble_eq_true rfl) (c_X12_limitOf (0 : Int32) m4 b5) (fun v w2 hk => ?_)
      obtain ⟨rfl, rfl⟩ := hk
      show J X (0, 0) 33 [(0, .ref (ad 426)), (1, .int x1)] [.int (v_X12_limitOf (0 : Int32) m4), .int x1, .ref (ad 426)] (fl ad m4)
      refine J_callV hX km_X12_covered kl_RX12_332 dX12_coverage_33 ka_426 (by decide) [.int x1, .int (v_X12_limitOf (0 : Int32) m4)] ⟨Nat.le_of_ble_eq_true rfl, Nat.le_of_ble_eq_true rfl⟩ rfl rfl (Nat.le_of_ble_eq_true rfl) (c_X12_covered x1 (v_X12_limitOf (0 : Int32) m4) m4 _ h) (fun v w2 hk => ?_)
      obtain ⟨y7, m6, rfl, rfl, h⟩ := hk
      show J X (0, 0) 36 [(0, .ref (ad 426)), (1, .int x1)] [.int y7] (fl ad m6)
      exact J_iret hX hR dX12_coverage_36 ⟨_, _, rfl, rfl, h⟩
    · replace h := Eq.mp (if_pos c3) h
      refine J_bipush (v := (-9 : Int32)) hX dX12_coverage_18 (by decide) ?_
      exact J_iret hX hR dX12_coverage_20 ⟨_, _, rfl, rfl, h⟩
  · replace h := Eq.mp (if_pos c1) h
    refine J_iconst (v := (-1 : Int32)) hX dX12_coverage_8 (by decide) ?_
    exact J_iret hX hR dX12_coverage_9 ⟨_, _, rfl, rfl, h⟩
set_option maxRecDepth 100000 in
theorem tb_X12_creaseLength_l4 {X : XT} {ad : Nat → Nat} {K : Int32 → Mm → Prop} (hX : Cx X cX12_creaseLength 3 RX12 (rmN 1 22)) (hR : Rx X (some .int) (kI ad K) (0, 0)) {rec : Int32 → Int32 → Mm → Prop} (hrec : ∀ (x1 : Int32) (x2 : Int32) (m : Mm), rec x1 x2 m → J X (0, 0) 4 [(0, .ref (ad 426)), (1, .int x1), (2, .int x2)] [] (fl ad m)) (x1 : Int32) (x2 : Int32) (m : Mm) (h : wb_X12_creaseLength_l4 rec K x1 x2 m) : J X (0, 0) 4 [(0, .ref (ad 426)), (1, .int x1), (2, .int x2)] [] (fl ad m) := by
  unfold wb_X12_creaseLength_l4 at h
  refine J_iload_n hX dX12_creaseLength_4 rfl 2 rfl ?_
  refine J_aload_n hX dX12_creaseLength_5 rfl 0 rfl ?_
  refine J_callV hX km_X12_many kl_RX12_83 dX12_creaseLength_6 ka_426 (by decide) [] ⟨Nat.le_of_ble_eq_true rfl, Nat.le_of_ble_eq_true rfl⟩ rfl rfl (Nat.le_of_ble_eq_true rfl) (c_X12_many m) (fun v w2 hk => ?_)
  obtain ⟨rfl, rfl⟩ := hk
  show J X (0, 0) 9 [(0, .ref (ad 426)), (1, .int x1), (2, .int x2)] [.int (v_X12_many m), .int x2] (fl ad m)
  refine J_icmp_ge (tgt := 40) hX dX12_creaseLength_9 (by decide) (fun c1 => ?_) (fun c1 => ?_)
  · replace h := Eq.mp (if_pos c1) h
    refine J_iload_n hX dX12_creaseLength_40 rfl 1 rfl ?_
    exact J_iret hX hR dX12_creaseLength_41 ⟨_, _, rfl, rfl, h⟩
  · replace h := Eq.mp (if_neg c1) h
    refine J_iload_n hX dX12_creaseLength_12 rfl 1 rfl ?_
    refine J_aload_n hX dX12_creaseLength_13 rfl 0 rfl ?_
    refine J_iload_n hX dX12_creaseLength_14 rfl 2 rfl ?_
    refine J_iconst (v := (5 : Int32)) hX dX12_creaseLength_15 (by decide) ?_
    obtain ⟨b2, h⟩ := h
    refine J_callV hX km_X12_of kl_RX12_91 dX12_creaseLength_16 ka_426 (by decide) [.int x2, .int (5 : Int32)] ⟨Nat.le_of_ble_eq_true rfl, Nat.le_of_ble_eq_true rfl⟩ rfl rfl (Nat.le_of_ble_eq_true rfl) (c_X12_of x2 (5 : Int32) m b2) (fun v w2 hk => ?_)
    obtain ⟨rfl, rfl⟩ := hk
    show J X (0, 0) 19 [(0, .ref (ad 426)), (1, .int x1), (2, .int x2)] [.int (v_X12_of x2 (5 : Int32) m), .int x1] (fl ad m)
    obtain ⟨g5, h⟩ := h
    have hj8 : ∀ y6 : Int32, y6 = (if (v_X12_of x2 (5 : Int32) m) = (0 : Int32) then (0 : Int32) else (v_X12_of x2 (3 : Int32) m)) → J X (0, 0) 32 [(0, .ref (ad 426)), (2, .int x2)] [.int y6, .int x1] (fl ad m) := by
      intro y6 e_y6
      replace h := h y6 e_y6
      refine J_iadd hX dX12_creaseLength_32 ?_
      refine J_nmI (fun y7 e_y7 => ?_)
      replace h := h y7 e_y7
      refine J_istore_n (lv2 := [(1, .int y7), (0, .ref (ad 426)), (2, .int x2)]) hX dX12_creaseLength_33 rfl (Nat.le_of_ble_eq_true rfl) rfl ?_
      refine J_iinc (x := (x2 + (1 : Int32))) (lv2 := [(2, .int (x2 + (1 : Int32))), (1, .int y7), (0, .ref (ad 426))]) hX dX12_creaseLength_34 2 rfl rfl (Nat.le_of_ble_eq_true rfl) rfl ?_
      refine J_goto (tgt := 4) hX dX12_creaseLength_37 (by decide) ?_
      exact J_sub [2, 1, 0] rfl (hrec y7 (x2 + (1 : Int32)) m h)
    have g9 := g5
    refine J_if_eq (tgt := 31) hX dX12_creaseLength_19 (by decide) (fun c3 => ?_) (fun c3 => ?_)
    · refine J_iconst (v := (0 : Int32)) hX dX12_creaseLength_31 (by decide) ?_
      exact J_sub [0, 2] rfl (hj8 _ (if_pos c3).symm)
    · have g10 := g9 c3
      have b4 := g10
      refine J_aload_n hX dX12_creaseLength_22 rfl 0 rfl ?_
      refine J_iload_n hX dX12_creaseLength_23 rfl 2 rfl ?_
      refine J_iconst (v := (3 : Int32)) hX dX12_creaseLength_24 (by decide) ?_
      refine J_callV hX km_X12_of kl_RX12_91 dX12_creaseLength_25 ka_426 (by decide) [.int x2, .int (3 : Int32)] ⟨Nat.le_of_ble_eq_true rfl, Nat.le_of_ble_eq_true rfl⟩ rfl rfl (Nat.le_of_ble_eq_true rfl) (c_X12_of x2 (3 : Int32) m b4) (fun v w2 hk => ?_)
      obtain ⟨rfl, rfl⟩ := hk
      show J X (0, 0) 28 [(0, .ref (ad 426)), (1, .int x1), (2, .int x2)] [.int (v_X12_of x2 (3 : Int32) m), .int x1] (fl ad m)
      refine J_goto (tgt := 32) hX dX12_creaseLength_28 (by decide) ?_
      exact J_sub [0, 2] rfl (hj8 _ (if_neg c3).symm)
set_option maxRecDepth 100000 in
theorem t_X12_creaseLength_l4 {X : XT} {ad : Nat → Nat} {K : Int32 → Mm → Prop} (hX : Cx X cX12_creaseLength 3 RX12 (rmN 1 22)) (hR : Rx X (some .int) (kI ad K) (0, 0))  : ∀ (n : Nat) (x1 : Int32) (x2 : Int32) (m : Mm), wp_X12_creaseLength_l4 K n x1 x2 m → J X (0, 0) 4 [(0, .ref (ad 426)), (1, .int x1), (2, .int x2)] [] (fl ad m) := by
  intro n
  induction n with
  | zero => intro x1 x2 m h; exact h.elim
  | succ n ih => intro x1 x2 m h; exact tb_X12_creaseLength_l4 hX hR ih x1 x2 m h
set_option maxRecDepth 100000 in
theorem c_X12_creaseLength {G : GT} {ad : Nat → Nat} (m : Mm) (K : Int32 → Mm → Prop) (h : wp_X12_creaseLength m K) : Cn G yX12_creaseLength cX12_creaseLength 3 (some .int) (rmN 1 22) [.ref (ad 426)] (0, 0) (fl ad m) (kI ad K) := by
  unfold wp_X12_creaseLength at h
  refine Cn.of pn_RX12 (Nat.le_of_ble_eq_true rfl) (fun X hG hX hR => ?_)
  subst hG
  have hX : Cx X cX12_creaseLength 3 RX12 (rmN 1 22) := hX
  show J X (0, 0) 0 [(0, .ref (ad 426))] [] (fl ad m)
  refine J_iconst (v := (0 : Int32)) hX dX12_creaseLength_0 (by decide) ?_
  refine J_istore_n (lv2 := [(1, .int (0 : Int32)), (0, .ref (ad 426))]) hX dX12_creaseLength_1 rfl (Nat.le_of_ble_eq_true rfl) rfl ?_
  refine J_iconst (v := (1 : Int32)) hX dX12_creaseLength_2 (by decide) ?_
  refine J_istore_n (lv2 := [(2, .int (1 : Int32)), (1, .int (0 : Int32)), (0, .ref (ad 426))]) hX dX12_creaseLength_3 rfl (Nat.le_of_ble_eq_true rfl) rfl ?_
  refine J_sub [2, 1, 0] rfl (t_X12_creaseLength_l4 hX hR FU (0 : Int32) (1 : Int32) m h)
set_option maxRecDepth 100000 in
theorem tb_X12_crossingsBy_l22 {X : XT} {ad : Nat → Nat} {K : Int32 → Mm → Prop} (hX : Cx X cX12_crossingsBy 5 RX12 (rmN 4 90)) (hR : Rx X (some .int) (kI ad K) (0, 0)) {rec : Int32 → Int32 → Mm → Prop} {k9 : Int32 → Int32 → Mm → Prop} (x3 : Int32) (hrec : ∀ (x2 : Int32) (x4 : Int32) (m : Mm), rec x2 x4 m → J X (0, 0) 22 [(0, .ref (ad 426)), (2, .int x2), (3, .int x3), (4, .int x4)] [] (fl ad m)) (hk9 : ∀ (z2 : Int32) (z3 : Int32) (m : Mm), k9 z2 z3 m → J X (0, 0) 9 [(0, .ref (ad 426)), (2, .int z2), (3, .int z3)] [] (fl ad m)) (x2 : Int32) (x4 : Int32) (m : Mm) (h : wb_X12_crossingsBy_l22 rec k9 K x3 x2 x4 m) : J X (0, 0) 22 [(0, .ref (ad 426)), (2, .int x2), (3, .int x3), (4, .int x4)] [] (fl ad m) := by
  unfold wb_X12_crossingsBy_l22 at h
  refine J_iload hX dX12_crossingsBy_22 3 rfl ?_
  refine J_aload_n hX dX12_crossingsBy_24 rfl 0 rfl ?_
  refine J_callV hX km_X12_many kl_RX12_83 dX12_crossingsBy_25 ka_426 (by decide) [] ⟨Nat.le_of_ble_eq_true rfl, Nat.le_of_ble_eq_true rfl⟩ rfl rfl (Nat.le_of_ble_eq_true rfl) (c_X12_many m) (fun v w2 hk => ?_)
  obtain ⟨rfl, rfl⟩ := hk
  show J X (0, 0) 28 [(0, .ref (ad 426)), (2, .int x2), (3, .int x3), (4, .int x4)] [.int (v_X12_many m), .int x4] (fl ad m)
  refine J_icmp_ge (tgt := 60) hX dX12_crossingsBy_28 (by decide) (fun c4 => ?_) (fun c4 => ?_)
  · replace h := Eq.mp (if_pos c4) h
    refine J_iinc (x := (x3 + (1 : Int32))) (lv2 := [(3, .int (x3 + (1 : Int32))), (0, .ref (ad 426)), (2, .int x2), (4, .int x4)]) hX dX12_crossingsBy_60 2 rfl rfl (Nat.le_of_ble_eq_true rfl) rfl ?_
    refine J_goto (tgt := 9) hX dX12_crossingsBy_63 (by decide) ?_
    exact J_sub [1, 2, 0] rfl (hk9 x2 (x3 + (1 : Int32)) m h)
  · replace h := Eq.mp (if_neg c4) h
    refine J_iload_n hX dX12_crossingsBy_31 rfl 1 rfl ?_
    refine J_aload_n hX dX12_crossingsBy_32 rfl 0 rfl ?_
    refine J_iload_n hX dX12_crossingsBy_33 rfl 2 rfl ?_
    refine J_iload hX dX12_crossingsBy_34 3 rfl ?_
    refine J_aload_n hX dX12_crossingsBy_36 rfl 0 rfl ?_
    refine J_iconst (v := (0 : Int32)) hX dX12_crossingsBy_37 (by decide) ?_
    obtain ⟨b5, h⟩ := h
    refine J_callV hX km_X12_limitOf kl_RX12_293 dX12_crossingsBy_38 ka_426 (by decide) [.int (0 : Int32)] ⟨Nat.le_of_ble_eq_true rfl, Nat.le_of_ble_eq_true rfl⟩ rfl rfl (Nat.le_of_ble_eq_true rfl) (c_X12_limitOf (0 : Int32) m b5) (fun v w2 hk => ?_)
    obtain ⟨rfl, rfl⟩ := hk
    show J X (0, 0) 41 [(0, .ref (ad 426)), (2, .int x2), (3, .int x3), (4, .int x4)] [.int (v_X12_limitOf (0 : Int32) m), .int x4, .int x3, .ref (ad 426), .int x2] (fl ad m)
    obtain ⟨b6, h⟩ := h
    refine J_callV hX km_X12_crossing kl_RX12_335 dX12_crossingsBy_41 ka_426 (by decide) [.int x3, .int x4, .int (v_X12_limitOf (0 : Int32) m)] ⟨Nat.le_of_ble_eq_true rfl, Nat.le_of_ble_eq_true rfl⟩ rfl rfl (Nat.le_of_ble_eq_true rfl) (c_X12_crossing x3 x4 (v_X12_limitOf (0 : Int32) m) m b6) (fun v w2 hk => ?_)
    obtain ⟨rfl, rfl⟩ := hk
    show J X (0, 0) 44 [(0, .ref (ad 426)), (2, .int x2), (3, .int x3), (4, .int x4)] [.int (v_X12_crossing x3 x4 (v_X12_limitOf (0 : Int32) m) m), .int x2] (fl ad m)
    have hj10 : ∀ y8 : Int32, y8 = (if (v_X12_crossing x3 x4 (v_X12_limitOf (0 : Int32) m) m) ≤ (0 : Int32) then (0 : Int32) else (1 : Int32)) → J X (0, 0) 52 [(0, .ref (ad 426)), (3, .int x3), (4, .int x4)] [.int y8, .int x2] (fl ad m) := by
      intro y8 e_y8
      replace h := h y8 e_y8
      refine J_iadd hX dX12_crossingsBy_52 ?_
      refine J_nmI (fun y9 e_y9 => ?_)
      replace h := h y9 e_y9
      refine J_istore_n (lv2 := [(2, .int y9), (0, .ref (ad 426)), (3, .int x3), (4, .int x4)]) hX dX12_crossingsBy_53 rfl (Nat.le_of_ble_eq_true rfl) rfl ?_
      refine J_iinc (x := (x4 + (1 : Int32))) (lv2 := [(4, .int (x4 + (1 : Int32))), (2, .int y9), (0, .ref (ad 426)), (3, .int x3)]) hX dX12_crossingsBy_54 3 rfl rfl (Nat.le_of_ble_eq_true rfl) rfl ?_
      refine J_goto (tgt := 22) hX dX12_crossingsBy_57 (by decide) ?_
      exact J_sub [2, 1, 3, 0] rfl (hrec y9 (x4 + (1 : Int32)) m h)
    refine J_if_le (tgt := 51) hX dX12_crossingsBy_44 (by decide) (fun c7 => ?_) (fun c7 => ?_)
    · refine J_iconst (v := (0 : Int32)) hX dX12_crossingsBy_51 (by decide) ?_
      exact J_sub [0, 2, 3] rfl (hj10 _ (if_pos c7).symm)
    · refine J_iconst (v := (1 : Int32)) hX dX12_crossingsBy_47 (by decide) ?_
      refine J_goto (tgt := 52) hX dX12_crossingsBy_48 (by decide) ?_
      exact J_sub [0, 2, 3] rfl (hj10 _ (if_neg c7).symm)
set_option maxRecDepth 100000 in
theorem t_X12_crossingsBy_l22 {X : XT} {ad : Nat → Nat} {K : Int32 → Mm → Prop} (hX : Cx X cX12_crossingsBy 5 RX12 (rmN 4 90)) (hR : Rx X (some .int) (kI ad K) (0, 0)) {k9 : Int32 → Int32 → Mm → Prop} (x3 : Int32) (hk9 : ∀ (z2 : Int32) (z3 : Int32) (m : Mm), k9 z2 z3 m → J X (0, 0) 9 [(0, .ref (ad 426)), (2, .int z2), (3, .int z3)] [] (fl ad m)) : ∀ (n : Nat) (x2 : Int32) (x4 : Int32) (m : Mm), wp_X12_crossingsBy_l22 k9 K x3 n x2 x4 m → J X (0, 0) 22 [(0, .ref (ad 426)), (2, .int x2), (3, .int x3), (4, .int x4)] [] (fl ad m) := by
  intro n
  induction n with
  | zero => intro x2 x4 m h; exact h.elim
  | succ n ih => intro x2 x4 m h; exact tb_X12_crossingsBy_l22 hX hR x3 ih hk9 x2 x4 m h
set_option maxRecDepth 100000 in
theorem tb_X12_crossingsBy_l9 {X : XT} {ad : Nat → Nat} {K : Int32 → Mm → Prop} (hX : Cx X cX12_crossingsBy 5 RX12 (rmN 4 90)) (hR : Rx X (some .int) (kI ad K) (0, 0)) {rec : Int32 → Int32 → Mm → Prop} (hrec : ∀ (x2 : Int32) (x3 : Int32) (m : Mm), rec x2 x3 m → J X (0, 0) 9 [(0, .ref (ad 426)), (2, .int x2), (3, .int x3)] [] (fl ad m)) (x2 : Int32) (x3 : Int32) (m : Mm) (h : wb_X12_crossingsBy_l9 rec K x2 x3 m) : J X (0, 0) 9 [(0, .ref (ad 426)), (2, .int x2), (3, .int x3)] [] (fl ad m) := by
  unfold wb_X12_crossingsBy_l9 at h
  refine J_iload_n hX dX12_crossingsBy_9 rfl 2 rfl ?_
  refine J_aload_n hX dX12_crossingsBy_10 rfl 0 rfl ?_
  refine J_callV hX km_X12_many kl_RX12_83 dX12_crossingsBy_11 ka_426 (by decide) [] ⟨Nat.le_of_ble_eq_true rfl, Nat.le_of_ble_eq_true rfl⟩ rfl rfl (Nat.le_of_ble_eq_true rfl) (c_X12_many m) (fun v w2 hk => ?_)
  obtain ⟨rfl, rfl⟩ := hk
  show J X (0, 0) 14 [(0, .ref (ad 426)), (2, .int x2), (3, .int x3)] [.int (v_X12_many m), .int x3] (fl ad m)
  refine J_icmp_ge (tgt := 66) hX dX12_crossingsBy_14 (by decide) (fun c2 => ?_) (fun c2 => ?_)
  · replace h := Eq.mp (if_pos c2) h
    refine J_iload_n hX dX12_crossingsBy_66 rfl 1 rfl ?_
    exact J_iret hX hR dX12_crossingsBy_67 ⟨_, _, rfl, rfl, h⟩
  · replace h := Eq.mp (if_neg c2) h
    refine J_iload_n hX dX12_crossingsBy_17 rfl 2 rfl ?_
    refine J_iconst (v := (1 : Int32)) hX dX12_crossingsBy_18 (by decide) ?_
    refine J_iadd hX dX12_crossingsBy_19 ?_
    refine J_nmI (fun y3 e_y3 => ?_)
    replace h := h y3 e_y3
    refine J_istore (lv2 := [(4, .int y3), (0, .ref (ad 426)), (2, .int x2), (3, .int x3)]) hX dX12_crossingsBy_20 (Nat.le_of_ble_eq_true rfl) rfl ?_
    refine J_sub [1, 2, 3, 0] rfl (t_X12_crossingsBy_l22 hX hR x3 hrec FU x2 y3 m h)
set_option maxRecDepth 100000 in
theorem t_X12_crossingsBy_l9 {X : XT} {ad : Nat → Nat} {K : Int32 → Mm → Prop} (hX : Cx X cX12_crossingsBy 5 RX12 (rmN 4 90)) (hR : Rx X (some .int) (kI ad K) (0, 0))  : ∀ (n : Nat) (x2 : Int32) (x3 : Int32) (m : Mm), wp_X12_crossingsBy_l9 K n x2 x3 m → J X (0, 0) 9 [(0, .ref (ad 426)), (2, .int x2), (3, .int x3)] [] (fl ad m) := by
  intro n
  induction n with
  | zero => intro x2 x3 m h; exact h.elim
  | succ n ih => intro x2 x3 m h; exact tb_X12_crossingsBy_l9 hX hR ih x2 x3 m h
set_option maxRecDepth 100000 in
theorem c_X12_crossingsBy {G : GT} {ad : Nat → Nat} (x1 : Int32) (m : Mm) (K : Int32 → Mm → Prop) (h : wp_X12_crossingsBy x1 m K) : Cn G yX12_crossingsBy cX12_crossingsBy 5 (some .int) (rmN 4 90) [.ref (ad 426), .int x1] (0, 0) (fl ad m) (kI ad K) := by
  unfold wp_X12_crossingsBy at h
  refine Cn.of pn_RX12 (Nat.le_of_ble_eq_true rfl) (fun X hG hX hR => ?_)
  subst hG
  have hX : Cx X cX12_crossingsBy 5 RX12 (rmN 4 90) := hX
  show J X (0, 0) 0 [(0, .ref (ad 426)), (1, .int x1)] [] (fl ad m)
  refine J_aload_n hX dX12_crossingsBy_0 rfl 0 rfl ?_
  refine J_iload_n hX dX12_crossingsBy_1 rfl 1 rfl ?_
  refine J_callV hX km_X12_fold kl_RX12_246 dX12_crossingsBy_2 ka_426 (by decide) [.int x1] ⟨Nat.le_of_ble_eq_true rfl, Nat.le_of_ble_eq_true rfl⟩ rfl rfl (Nat.le_of_ble_eq_true rfl) (c_X12_fold x1 m _ h) (fun v w2 hk => ?_)
  obtain ⟨m1, rfl, rfl, h⟩ := hk
  show J X (0, 0) 5 [(0, .ref (ad 426)), (1, .int x1)] [] (fl ad m1)
  refine J_iconst (v := (0 : Int32)) hX dX12_crossingsBy_5 (by decide) ?_
  refine J_istore_n (lv2 := [(2, .int (0 : Int32)), (0, .ref (ad 426)), (1, .int x1)]) hX dX12_crossingsBy_6 rfl (Nat.le_of_ble_eq_true rfl) rfl ?_
  refine J_iconst (v := (0 : Int32)) hX dX12_crossingsBy_7 (by decide) ?_
  refine J_istore_n (lv2 := [(3, .int (0 : Int32)), (2, .int (0 : Int32)), (0, .ref (ad 426)), (1, .int x1)]) hX dX12_crossingsBy_8 rfl (Nat.le_of_ble_eq_true rfl) rfl ?_
  refine J_sub [2, 1, 0] rfl (t_X12_crossingsBy_l9 hX hR FU (0 : Int32) (0 : Int32) m1 h)
set_option maxRecDepth 100000 in
theorem c_X12_crossings {G : GT} {ad : Nat → Nat} (x1 : Int32) (m : Mm) (K : Int32 → Mm → Prop) (h : wp_X12_crossings x1 m K) : Cn G yX12_crossings cX12_crossings 2 (some .int) (rmN 5 114) [.ref (ad 426), .int x1] (0, 0) (fl ad m) (kI ad K) := by
  unfold wp_X12_crossings at h
  refine Cn.of pn_RX12 (Nat.le_of_ble_eq_true rfl) (fun X hG hX hR => ?_)
  subst hG
  have hX : Cx X cX12_crossings 2 RX12 (rmN 5 114) := hX
  show J X (0, 0) 0 [(0, .ref (ad 426)), (1, .int x1)] [] (fl ad m)
  refine J_iload_n hX dX12_crossings_0 rfl 1 rfl ?_
  refine J_if_lt (tgt := 20) hX dX12_crossings_1 (by decide) (fun c1 => ?_) (fun c1 => ?_)
  · replace h := Eq.mp (if_pos c1) h
    refine J_iconst (v := (-1 : Int32)) hX dX12_crossings_20 (by decide) ?_
    exact J_iret hX hR dX12_crossings_21 ⟨_, _, rfl, rfl, h⟩
  · replace h := Eq.mp (if_neg c1) h
    refine J_iload_n hX dX12_crossings_4 rfl 1 rfl ?_
    refine J_aload_n hX dX12_crossings_5 rfl 0 rfl ?_
    refine J_callV hX km_X12_many kl_RX12_83 dX12_crossings_6 ka_426 (by decide) [] ⟨Nat.le_of_ble_eq_true rfl, Nat.le_of_ble_eq_true rfl⟩ rfl rfl (Nat.le_of_ble_eq_true rfl) (c_X12_many m) (fun v w2 hk => ?_)
    obtain ⟨rfl, rfl⟩ := hk
    show J X (0, 0) 9 [(0, .ref (ad 426)), (1, .int x1)] [.int (v_X12_many m), .int x1] (fl ad m)
    refine J_ishr hX dX12_crossings_9 ?_
    refine J_if_ne (tgt := 20) hX dX12_crossings_10 (by decide) (fun c2 => ?_) (fun c2 => ?_)
    · replace h := Eq.mp (if_neg c2) h
      refine J_iconst (v := (-1 : Int32)) hX dX12_crossings_20 (by decide) ?_
      exact J_iret hX hR dX12_crossings_21 ⟨_, _, rfl, rfl, h⟩
    · replace h := Eq.mp (if_pos c2) h
      refine J_iload_n hX dX12_crossings_13 rfl 1 rfl ?_
      refine J_iconst (v := (1 : Int32)) hX dX12_crossings_14 (by decide) ?_
      refine J_iand hX dX12_crossings_15 ?_
      refine J_iconst (v := (1 : Int32)) hX dX12_crossings_16 (by decide) ?_
      refine J_icmp_ne (tgt := 22) hX dX12_crossings_17 (by decide) (fun c3 => ?_) (fun c3 => ?_)
      · replace h := Eq.mp (if_neg c3) h
        refine J_aload_n hX dX12_crossings_22 rfl 0 rfl ?_
        refine J_iload_n hX dX12_crossings_23 rfl 1 rfl ?_
        refine J_callV hX km_X12_crossingsBy kl_RX12_401 dX12_crossings_24 ka_426 (by decide) [.int x1] ⟨Nat.le_of_ble_eq_true rfl, Nat.le_of_ble_eq_true rfl⟩ rfl rfl (Nat.le_of_ble_eq_true rfl) (c_X12_crossingsBy x1 m _ h) (fun v w2 hk => ?_)
        obtain ⟨y5, m4, rfl, rfl, h⟩ := hk
        show J X (0, 0) 27 [(0, .ref (ad 426)), (1, .int x1)] [.int y5] (fl ad m4)
        exact J_iret hX hR dX12_crossings_27 ⟨_, _, rfl, rfl, h⟩
      · replace h := Eq.mp (if_pos c3) h
        refine J_iconst (v := (-1 : Int32)) hX dX12_crossings_20 (by decide) ?_
        exact J_iret hX hR dX12_crossings_21 ⟨_, _, rfl, rfl, h⟩
set_option maxRecDepth 100000 in
theorem c_X12_sideX {G : GT} {ad : Nat → Nat} (x1 : Int32) (x2 : Int32) (m : Mm) (h : s_X12_sideX x1 x2) : Cn G yX12_sideX cX12_sideX 3 (some .int) (rmN 0 0) [.ref (ad 426), .int x1, .int x2] (0, 0) (fl ad m) (fun v w => v = some (.int (v_X12_sideX x1 x2 m)) ∧ w = fl ad m) := by
  unfold s_X12_sideX at h
  refine Cn.of pn_RX12 (Nat.le_of_ble_eq_true rfl) (fun X hG hX hR => ?_)
  subst hG
  have hX : Cx X cX12_sideX 3 RX12 (rmN 0 0) := hX
  show J X (0, 0) 0 [(0, .ref (ad 426)), (1, .int x1), (2, .int x2)] [] (fl ad m)
  have g4 := h
  refine J_iload_n hX dX12_sideX_0 rfl 2 rfl ?_
  refine J_iconst (v := (1 : Int32)) hX dX12_sideX_1 (by decide) ?_
  have hj5 : ∀ y6 : Int32, y6 = (if x2 = (1 : Int32) then ((m.1 432 x1.toNatClampNeg) + (m.1 434 x1.toNatClampNeg)) else (m.1 432 x1.toNatClampNeg)) → J X (0, 0) 27 [] [.int y6] (fl ad m) := by
    intro y6 e_y6
    subst e_y6
    exact J_iret hX hR dX12_sideX_27 (And.intro (congrArg (fun z => some (Value.int z)) (show (if x2 = (1 : Int32) then ((m.1 432 x1.toNatClampNeg) + (m.1 434 x1.toNatClampNeg)) else (m.1 432 x1.toNatClampNeg)) = v_X12_sideX x1 x2 m from rfl)) rfl)
  have g7 := g4
  refine J_icmp_ne (tgt := 21) hX dX12_sideX_2 (by decide) (fun c1 => ?_) (fun c1 => ?_)
  · have b2 := g7
    refine J_aload_n hX dX12_sideX_21 rfl 0 rfl ?_
    refine J_getR hX kf_RX12_26 dX12_sideX_22 ka_426 (by decide) rfl rh_426_7 ?_
    refine J_iload_n hX dX12_sideX_25 rfl 1 rfl ?_
    refine J_iald (j := x1.toNatClampNeg) hX dX12_sideX_26 ka_432 le_432 b2 rfl ?_
    exact J_sub [] rfl (hj5 _ (if_neg c1).symm)
  · have b3 := g7
    refine J_aload_n hX dX12_sideX_5 rfl 0 rfl ?_
    refine J_getR hX kf_RX12_26 dX12_sideX_6 ka_426 (by decide) rfl rh_426_7 ?_
    refine J_iload_n hX dX12_sideX_9 rfl 1 rfl ?_
    refine J_iald (j := x1.toNatClampNeg) hX dX12_sideX_10 ka_432 le_432 b3 rfl ?_
    refine J_aload_n hX dX12_sideX_11 rfl 0 rfl ?_
    refine J_getR hX kf_RX12_32 dX12_sideX_12 ka_426 (by decide) rfl rh_426_9 ?_
    refine J_iload_n hX dX12_sideX_15 rfl 1 rfl ?_
    refine J_iald (j := x1.toNatClampNeg) hX dX12_sideX_16 ka_434 le_434 b3 rfl ?_
    refine J_iadd hX dX12_sideX_17 ?_
    refine J_goto (tgt := 27) hX dX12_sideX_18 (by decide) ?_
    exact J_sub [] rfl (hj5 _ (if_pos c1).symm)
set_option maxRecDepth 100000 in
theorem c_X12_sideY {G : GT} {ad : Nat → Nat} (x1 : Int32) (x2 : Int32) (m : Mm) (h : s_X12_sideY x1 x2) : Cn G yX12_sideY cX12_sideY 3 (some .int) (rmN 0 0) [.ref (ad 426), .int x1, .int x2] (0, 0) (fl ad m) (fun v w => v = some (.int (v_X12_sideY x1 x2 m)) ∧ w = fl ad m) := by
  unfold s_X12_sideY at h
  refine Cn.of pn_RX12 (Nat.le_of_ble_eq_true rfl) (fun X hG hX hR => ?_)
  subst hG
  have hX : Cx X cX12_sideY 3 RX12 (rmN 0 0) := hX
  show J X (0, 0) 0 [(0, .ref (ad 426)), (1, .int x1), (2, .int x2)] [] (fl ad m)
  have g4 := h
  refine J_iload_n hX dX12_sideY_0 rfl 2 rfl ?_
  refine J_iconst (v := (2 : Int32)) hX dX12_sideY_1 (by decide) ?_
  have hj5 : ∀ y6 : Int32, y6 = (if x2 = (2 : Int32) then ((m.1 433 x1.toNatClampNeg) + (m.1 435 x1.toNatClampNeg)) else (m.1 433 x1.toNatClampNeg)) → J X (0, 0) 27 [] [.int y6] (fl ad m) := by
    intro y6 e_y6
    subst e_y6
    exact J_iret hX hR dX12_sideY_27 (And.intro (congrArg (fun z => some (Value.int z)) (show (if x2 = (2 : Int32) then ((m.1 433 x1.toNatClampNeg) + (m.1 435 x1.toNatClampNeg)) else (m.1 433 x1.toNatClampNeg)) = v_X12_sideY x1 x2 m from rfl)) rfl)
  have g7 := g4
  refine J_icmp_ne (tgt := 21) hX dX12_sideY_2 (by decide) (fun c1 => ?_) (fun c1 => ?_)
  · have b2 := g7
    refine J_aload_n hX dX12_sideY_21 rfl 0 rfl ?_
    refine J_getR hX kf_RX12_29 dX12_sideY_22 ka_426 (by decide) rfl rh_426_8 ?_
    refine J_iload_n hX dX12_sideY_25 rfl 1 rfl ?_
    refine J_iald (j := x1.toNatClampNeg) hX dX12_sideY_26 ka_433 le_433 b2 rfl ?_
    exact J_sub [] rfl (hj5 _ (if_neg c1).symm)
  · have b3 := g7
    refine J_aload_n hX dX12_sideY_5 rfl 0 rfl ?_
    refine J_getR hX kf_RX12_29 dX12_sideY_6 ka_426 (by decide) rfl rh_426_8 ?_
    refine J_iload_n hX dX12_sideY_9 rfl 1 rfl ?_
    refine J_iald (j := x1.toNatClampNeg) hX dX12_sideY_10 ka_433 le_433 b3 rfl ?_
    refine J_aload_n hX dX12_sideY_11 rfl 0 rfl ?_
    refine J_getR hX kf_RX12_35 dX12_sideY_12 ka_426 (by decide) rfl rh_426_10 ?_
    refine J_iload_n hX dX12_sideY_15 rfl 1 rfl ?_
    refine J_iald (j := x1.toNatClampNeg) hX dX12_sideY_16 ka_435 le_435 b3 rfl ?_
    refine J_iadd hX dX12_sideY_17 ?_
    refine J_goto (tgt := 27) hX dX12_sideY_18 (by decide) ?_
    exact J_sub [] rfl (hj5 _ (if_pos c1).symm)
theorem bv_X12_isOn (x1 : Int32) (x2 : Int32) (x3 : Int32) (x4 : Int32) (x5 : Int32) (m : Mm) : bo (v_X12_isOn x1 x2 x3 x4 x5 m) := (bo_ite (bo_ite (bo_ite (bo_ite bo_0 (bo_ite bo_0 bo_1)) bo_0) (bo_ite (bo_ite bo_0 (bo_ite bo_0 bo_1)) bo_0)) bo_0)
set_option maxRecDepth 100000 in
theorem c_X12_isOn {G : GT} {ad : Nat → Nat} (x1 : Int32) (x2 : Int32) (x3 : Int32) (x4 : Int32) (x5 : Int32) (m : Mm) (h : s_X12_isOn x1 x2 x3 x4 x5 m) : Cn G yX12_isOn cX12_isOn 6 (some .boolean) (rmN 1 22) [.ref (ad 426), .int x1, .int x2, .int x3, .int x4, .int x5] (0, 0) (fl ad m) (fun v w => v = some (.int (v_X12_isOn x1 x2 x3 x4 x5 m)) ∧ w = fl ad m) := by
  unfold s_X12_isOn at h
  refine Cn.of pn_RX12 (Nat.le_of_ble_eq_true rfl) (fun X hG hX hR => ?_)
  subst hG
  have hX : Cx X cX12_isOn 6 RX12 (rmN 1 22) := hX
  show J X (0, 0) 0 [(0, .ref (ad 426)), (1, .int x1), (2, .int x2), (3, .int x3), (4, .int x4), (5, .int x5)] [] (fl ad m)
  have g14 := h
  refine J_iload_n hX dX12_isOn_0 rfl 2 rfl ?_
  refine J_iconst (v := (2 : Int32)) hX dX12_isOn_1 (by decide) ?_
  refine J_irem hX dX12_isOn_2 (by decide) ?_
  have hj15 : ∀ y16 : Int32, y16 = (if (rm32 x2 (2 : Int32)) = (0 : Int32) then (1 : Int32) else (0 : Int32)) → J X (0, 0) 11 [(0, .ref (ad 426)), (1, .int x1), (2, .int x2), (3, .int x3), (4, .int x4), (5, .int x5)] [.int y16] (fl ad m) := by
    intro y16 e_y16
    subst e_y16
    have g17 := g14
    refine J_iload_n hX dX12_isOn_11 rfl 3 rfl ?_
    refine J_icmp_eq (tgt := 17) hX dX12_isOn_12 (by decide) (fun c2 => ?_) (fun c2 => ?_)
    · have g18 := g17 c2
      have g19 := g18
      refine J_iload_n hX dX12_isOn_17 rfl 3 rfl ?_
      have hj20 : ∀ y21 : Int32, y21 = (if x3 = (0 : Int32) then (if (v_X12_sideX x1 x2 m) = x4 then (if x5 < (m.1 433 x1.toNatClampNeg) then (0 : Int32) else (if ((m.1 433 x1.toNatClampNeg) + (m.1 435 x1.toNatClampNeg)) ≤ x5 then (0 : Int32) else (1 : Int32))) else (0 : Int32)) else (if (v_X12_sideY x1 x2 m) = x5 then (if x4 < (m.1 432 x1.toNatClampNeg) then (0 : Int32) else (if ((m.1 432 x1.toNatClampNeg) + (m.1 434 x1.toNatClampNeg)) ≤ x4 then (0 : Int32) else (1 : Int32))) else (0 : Int32))) → J X (0, 0) 114 [] [.int y21] (fl ad m) := by
        intro y21 e_y21
        subst e_y21
        exact J_zret hX hR dX12_isOn_114 (bo_ite (bo_ite (bo_ite bo_0 (bo_ite bo_0 bo_1)) bo_0) (bo_ite (bo_ite bo_0 (bo_ite bo_0 bo_1)) bo_0)) (And.intro (congrArg (fun z => some (Value.int z)) (show (if x3 = (0 : Int32) then (if (v_X12_sideX x1 x2 m) = x4 then (if x5 < (m.1 433 x1.toNatClampNeg) then (0 : Int32) else (if ((m.1 433 x1.toNatClampNeg) + (m.1 435 x1.toNatClampNeg)) ≤ x5 then (0 : Int32) else (1 : Int32))) else (0 : Int32)) else (if (v_X12_sideY x1 x2 m) = x5 then (if x4 < (m.1 432 x1.toNatClampNeg) then (0 : Int32) else (if ((m.1 432 x1.toNatClampNeg) + (m.1 434 x1.toNatClampNeg)) ≤ x4 then (0 : Int32) else (1 : Int32))) else (0 : Int32))) = v_X12_isOn x1 x2 x3 x4 x5 m from (if_pos c2).symm)) rfl)
      obtain ⟨g22, g23⟩ := g19
      refine J_if_eq (tgt := 69) hX dX12_isOn_18 (by decide) (fun c3 => ?_) (fun c3 => ?_)
      · have g24 := g22 c3
        obtain ⟨b4, g25⟩ := g24
        refine J_aload_n hX dX12_isOn_69 rfl 0 rfl ?_
        refine J_iload_n hX dX12_isOn_70 rfl 1 rfl ?_
        refine J_iload_n hX dX12_isOn_71 rfl 2 rfl ?_
        refine J_callV hX km_X12_sideX kl_RX12_359 dX12_isOn_72 ka_426 (by decide) [.int x1, .int x2] ⟨Nat.le_of_ble_eq_true rfl, Nat.le_of_ble_eq_true rfl⟩ rfl rfl (Nat.le_of_ble_eq_true rfl) (c_X12_sideX x1 x2 m b4) (fun v w2 hk => ?_)
        obtain ⟨rfl, rfl⟩ := hk
        show J X (0, 0) 75 [(0, .ref (ad 426)), (1, .int x1), (2, .int x2), (3, .int x3), (4, .int x4), (5, .int x5)] [.int (v_X12_sideX x1 x2 m)] (fl ad m)
        refine J_iload hX dX12_isOn_75 4 rfl ?_
        refine J_icmp_ne (tgt := 113) hX dX12_isOn_77 (by decide) (fun c5 => ?_) (fun c5 => ?_)
        · refine J_iconst (v := (0 : Int32)) hX dX12_isOn_113 (by decide) ?_
          exact J_sub [] rfl (hj20 _ ((if_pos c3).trans (if_neg c5)).symm)
        · have g26 := g25 c5
          have b6 := g26
          refine J_iload hX dX12_isOn_80 5 rfl ?_
          refine J_aload_n hX dX12_isOn_82 rfl 0 rfl ?_
          refine J_getR hX kf_RX12_29 dX12_isOn_83 ka_426 (by decide) rfl rh_426_8 ?_
          refine J_iload_n hX dX12_isOn_86 rfl 1 rfl ?_
          refine J_iald (j := x1.toNatClampNeg) hX dX12_isOn_87 ka_433 le_433 b6 rfl ?_
          refine J_icmp_lt (tgt := 113) hX dX12_isOn_88 (by decide) (fun c7 => ?_) (fun c7 => ?_)
          · refine J_iconst (v := (0 : Int32)) hX dX12_isOn_113 (by decide) ?_
            exact J_sub [] rfl (hj20 _ ((if_pos c3).trans ((if_pos c5).trans (if_pos c7))).symm)
          · refine J_iload hX dX12_isOn_91 5 rfl ?_
            refine J_aload_n hX dX12_isOn_93 rfl 0 rfl ?_
            refine J_getR hX kf_RX12_29 dX12_isOn_94 ka_426 (by decide) rfl rh_426_8 ?_
            refine J_iload_n hX dX12_isOn_97 rfl 1 rfl ?_
            refine J_iald (j := x1.toNatClampNeg) hX dX12_isOn_98 ka_433 le_433 b6 rfl ?_
            refine J_aload_n hX dX12_isOn_99 rfl 0 rfl ?_
            refine J_getR hX kf_RX12_35 dX12_isOn_100 ka_426 (by decide) rfl rh_426_10 ?_
            refine J_iload_n hX dX12_isOn_103 rfl 1 rfl ?_
            refine J_iald (j := x1.toNatClampNeg) hX dX12_isOn_104 ka_435 le_435 b6 rfl ?_
            refine J_iadd hX dX12_isOn_105 ?_
            refine J_icmp_ge (tgt := 113) hX dX12_isOn_106 (by decide) (fun c8 => ?_) (fun c8 => ?_)
            · refine J_iconst (v := (0 : Int32)) hX dX12_isOn_113 (by decide) ?_
              exact J_sub [] rfl (hj20 _ ((if_pos c3).trans ((if_pos c5).trans ((if_neg c7).trans (if_pos c8)))).symm)
            · refine J_iconst (v := (1 : Int32)) hX dX12_isOn_109 (by decide) ?_
              refine J_goto (tgt := 114) hX dX12_isOn_110 (by decide) ?_
              exact J_sub [] rfl (hj20 _ ((if_pos c3).trans ((if_pos c5).trans ((if_neg c7).trans (if_neg c8)))).symm)
      · have g27 := g23 c3
        obtain ⟨b9, g28⟩ := g27
        refine J_aload_n hX dX12_isOn_21 rfl 0 rfl ?_
        refine J_iload_n hX dX12_isOn_22 rfl 1 rfl ?_
        refine J_iload_n hX dX12_isOn_23 rfl 2 rfl ?_
        refine J_callV hX km_X12_sideY kl_RX12_356 dX12_isOn_24 ka_426 (by decide) [.int x1, .int x2] ⟨Nat.le_of_ble_eq_true rfl, Nat.le_of_ble_eq_true rfl⟩ rfl rfl (Nat.le_of_ble_eq_true rfl) (c_X12_sideY x1 x2 m b9) (fun v w2 hk => ?_)
        obtain ⟨rfl, rfl⟩ := hk
        show J X (0, 0) 27 [(0, .ref (ad 426)), (1, .int x1), (2, .int x2), (3, .int x3), (4, .int x4), (5, .int x5)] [.int (v_X12_sideY x1 x2 m)] (fl ad m)
        refine J_iload hX dX12_isOn_27 5 rfl ?_
        refine J_icmp_ne (tgt := 65) hX dX12_isOn_29 (by decide) (fun c10 => ?_) (fun c10 => ?_)
        · refine J_iconst (v := (0 : Int32)) hX dX12_isOn_65 (by decide) ?_
          refine J_goto (tgt := 114) hX dX12_isOn_66 (by decide) ?_
          exact J_sub [] rfl (hj20 _ ((if_neg c3).trans (if_neg c10)).symm)
        · have g29 := g28 c10
          have b11 := g29
          refine J_iload hX dX12_isOn_32 4 rfl ?_
          refine J_aload_n hX dX12_isOn_34 rfl 0 rfl ?_
          refine J_getR hX kf_RX12_26 dX12_isOn_35 ka_426 (by decide) rfl rh_426_7 ?_
          refine J_iload_n hX dX12_isOn_38 rfl 1 rfl ?_
          refine J_iald (j := x1.toNatClampNeg) hX dX12_isOn_39 ka_432 le_432 b11 rfl ?_
          refine J_icmp_lt (tgt := 65) hX dX12_isOn_40 (by decide) (fun c12 => ?_) (fun c12 => ?_)
          · refine J_iconst (v := (0 : Int32)) hX dX12_isOn_65 (by decide) ?_
            refine J_goto (tgt := 114) hX dX12_isOn_66 (by decide) ?_
            exact J_sub [] rfl (hj20 _ ((if_neg c3).trans ((if_pos c10).trans (if_pos c12))).symm)
          · refine J_iload hX dX12_isOn_43 4 rfl ?_
            refine J_aload_n hX dX12_isOn_45 rfl 0 rfl ?_
            refine J_getR hX kf_RX12_26 dX12_isOn_46 ka_426 (by decide) rfl rh_426_7 ?_
            refine J_iload_n hX dX12_isOn_49 rfl 1 rfl ?_
            refine J_iald (j := x1.toNatClampNeg) hX dX12_isOn_50 ka_432 le_432 b11 rfl ?_
            refine J_aload_n hX dX12_isOn_51 rfl 0 rfl ?_
            refine J_getR hX kf_RX12_32 dX12_isOn_52 ka_426 (by decide) rfl rh_426_9 ?_
            refine J_iload_n hX dX12_isOn_55 rfl 1 rfl ?_
            refine J_iald (j := x1.toNatClampNeg) hX dX12_isOn_56 ka_434 le_434 b11 rfl ?_
            refine J_iadd hX dX12_isOn_57 ?_
            refine J_icmp_ge (tgt := 65) hX dX12_isOn_58 (by decide) (fun c13 => ?_) (fun c13 => ?_)
            · refine J_iconst (v := (0 : Int32)) hX dX12_isOn_65 (by decide) ?_
              refine J_goto (tgt := 114) hX dX12_isOn_66 (by decide) ?_
              exact J_sub [] rfl (hj20 _ ((if_neg c3).trans ((if_pos c10).trans ((if_neg c12).trans (if_pos c13)))).symm)
            · refine J_iconst (v := (1 : Int32)) hX dX12_isOn_61 (by decide) ?_
              refine J_goto (tgt := 114) hX dX12_isOn_62 (by decide) ?_
              exact J_sub [] rfl (hj20 _ ((if_neg c3).trans ((if_pos c10).trans ((if_neg c12).trans (if_neg c13)))).symm)
    · refine J_iconst (v := (0 : Int32)) hX dX12_isOn_15 (by decide) ?_
      exact J_zret hX hR dX12_isOn_16 bo_0 (And.intro (congrArg (fun z => some (Value.int z)) (show (0 : Int32) = v_X12_isOn x1 x2 x3 x4 x5 m from (if_neg c2).symm)) rfl)
  refine J_if_ne (tgt := 10) hX dX12_isOn_3 (by decide) (fun c1 => ?_) (fun c1 => ?_)
  · refine J_iconst (v := (0 : Int32)) hX dX12_isOn_10 (by decide) ?_
    exact J_sub [0, 1, 2, 3, 4, 5] rfl (hj15 _ (if_neg c1).symm)
  · refine J_iconst (v := (1 : Int32)) hX dX12_isOn_6 (by decide) ?_
    refine J_goto (tgt := 11) hX dX12_isOn_7 (by decide) ?_
    exact J_sub [0, 1, 2, 3, 4, 5] rfl (hj15 _ (if_pos c1).symm)
