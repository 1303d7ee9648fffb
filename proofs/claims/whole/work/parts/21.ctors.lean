theorem oi_inst : Cond.instanceMethod Lib.objectInit ∈ lw_tbl := mt_1 (List.mem_of_getElem? (i := 21) rfl)
theorem oi_code : Cond.code Lib.objectInit ⟨#[0xb1]⟩ 1 none ∈ lw_tbl := mt_1 (List.mem_of_getElem? (i := 22) rfl)
theorem nd_0 : ∀ j, j < 11 → defaultValue (tyX0 j) = dfv ((fty 0).getD j 0) := by decide +kernel
theorem nd_1 : ∀ j, j < 2 → defaultValue (tyX1 j) = dfv ((fty 1).getD j 0) := by decide +kernel
theorem nd_2 : ∀ j, j < 3 → defaultValue (tyX2 j) = dfv ((fty 2).getD j 0) := by decide +kernel
theorem nd_3 : ∀ j, j < 7 → defaultValue (tyX3 j) = dfv ((fty 3).getD j 0) := by decide +kernel
theorem nd_4 : ∀ j, j < 8 → defaultValue (tyX4 j) = dfv ((fty 4).getD j 0) := by decide +kernel
theorem nd_5 : ∀ j, j < 5 → defaultValue (tyX5 j) = dfv ((fty 5).getD j 0) := by decide +kernel
theorem nd_6 : ∀ j, j < 5 → defaultValue (tyX6 j) = dfv ((fty 6).getD j 0) := by decide +kernel
theorem nd_7 : ∀ j, j < 15 → defaultValue (tyX7 j) = dfv ((fty 7).getD j 0) := by decide +kernel
theorem nd_8 : ∀ j, j < 14 → defaultValue (tyX8 j) = dfv ((fty 8).getD j 0) := by decide +kernel
theorem nd_9 : ∀ j, j < 8 → defaultValue (tyX9 j) = dfv ((fty 9).getD j 0) := by decide +kernel
theorem nd_10 : ∀ j, j < 9 → defaultValue (tyX10 j) = dfv ((fty 10).getD j 0) := by decide +kernel
theorem nd_11 : ∀ j, j < 16 → defaultValue (tyX11 j) = dfv ((fty 11).getD j 0) := by decide +kernel
theorem nd_12 : ∀ j, j < 30 → defaultValue (tyX12 j) = dfv ((fty 12).getD j 0) := by decide +kernel
theorem kn_RX3_28 : NOk RX3 28 7 := ⟨RX7, TX7, 15, tyX7, rfl, inX7, tyX7_ok, mt_1 (List.mem_of_getElem? (i := 29) rfl), mt_1 (List.mem_of_getElem? (i := 31) rfl), mt_1 (List.mem_of_getElem? (i := 3) rfl), nd_7, rfl⟩
theorem kx_269 : kap 269 = 5 := by decide +kernel
theorem kx_270 : kap 270 = 25 := by decide +kernel
theorem lx_270 : len 270 = 10 := by decide +kernel
theorem kn_RX5_15 : NOk RX5 15 8 := ⟨RX8, TX8, 14, tyX8, rfl, inX8, tyX8_ok, mt_2 (List.mem_of_getElem? (i := 40) rfl), mt_2 (List.mem_of_getElem? (i := 42) rfl), mt_1 (List.mem_of_getElem? (i := 12) rfl), nd_8, rfl⟩
theorem kx_271 : kap 271 = 8 := by decide +kernel
theorem kx_281 : kap 281 = 20 := by decide +kernel
theorem lx_281 : len 281 = 10 := by decide +kernel
theorem kx_282 : kap 282 = 21 := by decide +kernel
theorem lx_282 : len 282 = 1024 := by decide +kernel
theorem kx_283 : kap 283 = 8 := by decide +kernel
theorem kx_293 : kap 293 = 8 := by decide +kernel
theorem kx_303 : kap 303 = 8 := by decide +kernel
theorem kx_313 : kap 313 = 8 := by decide +kernel
theorem kx_323 : kap 323 = 8 := by decide +kernel
theorem kx_333 : kap 333 = 8 := by decide +kernel
theorem kx_343 : kap 343 = 8 := by decide +kernel
theorem kx_353 : kap 353 = 8 := by decide +kernel
theorem kx_363 : kap 363 = 8 := by decide +kernel
theorem kx_373 : kap 373 = 8 := by decide +kernel
theorem kx_268 : kap 268 = 10 := by decide +kernel
theorem kn_RX10_15 : NOk RX10 15 5 := ⟨RX5, TX5, 5, tyX5, rfl, inX5, tyX5_ok, mt_2 (List.mem_of_getElem? (i := 34) rfl), mt_2 (List.mem_of_getElem? (i := 35) rfl), mt_1 (List.mem_of_getElem? (i := 11) rfl), nd_5, rfl⟩
theorem kx_383 : kap 383 = 20 := by decide +kernel
theorem lx_383 : len 383 = 360 := by decide +kernel
theorem kx_384 : kap 384 = 20 := by decide +kernel
theorem lx_384 : len 384 = 360 := by decide +kernel
theorem kx_385 : kap 385 = 20 := by decide +kernel
theorem lx_385 : len 385 = 360 := by decide +kernel
theorem kx_386 : kap 386 = 20 := by decide +kernel
theorem lx_386 : len 386 = 360 := by decide +kernel
theorem kx_387 : kap 387 = 20 := by decide +kernel
theorem lx_387 : len 387 = 360 := by decide +kernel
theorem kn_RX10_41 : NOk RX10 41 2 := ⟨RX2, TX2, 3, tyX2, rfl, inX2, tyX2_ok, mt_2 (List.mem_of_getElem? (i := 114) rfl), mt_1 (List.mem_of_getElem? (i := 234) rfl), mt_1 (List.mem_of_getElem? (i := 7) rfl), nd_2, rfl⟩
theorem kx_388 : kap 388 = 2 := by decide +kernel
theorem kx_267 : kap 267 = 0 := by decide +kernel
theorem kn_RX0_27 : NOk RX0 27 10 := ⟨RX10, TX10, 9, tyX10, rfl, inX10, tyX10_ok, mt_2 (List.mem_of_getElem? (i := 28) rfl), mt_2 (List.mem_of_getElem? (i := 29) rfl), mt_1 (List.mem_of_getElem? (i := 10) rfl), nd_10, rfl⟩
theorem kx_391 : kap 391 = 20 := by decide +kernel
theorem lx_391 : len 391 = 6 := by decide +kernel
theorem kx_392 : kap 392 = 20 := by decide +kernel
theorem lx_392 : len 392 = 6 := by decide +kernel
theorem kx_393 : kap 393 = 20 := by decide +kernel
theorem lx_393 : len 393 = 6 := by decide +kernel
theorem kx_394 : kap 394 = 20 := by decide +kernel
theorem lx_394 : len 394 = 6 := by decide +kernel
theorem kx_264 : kap 264 = 4 := by decide +kernel
theorem kx_265 : kap 265 = 20 := by decide +kernel
theorem lx_265 : len 265 = 4 := by decide +kernel
theorem kx_266 : kap 266 = 20 := by decide +kernel
theorem lx_266 : len 266 = 8 := by decide +kernel
theorem kn_RX4_26 : NOk RX4 26 0 := ⟨RX0, TX0, 11, tyX0, rfl, inX0, tyX0_ok, mt_2 (List.mem_of_getElem? (i := 22) rfl), mt_2 (List.mem_of_getElem? (i := 23) rfl), mt_1 (List.mem_of_getElem? (i := 9) rfl), nd_0, rfl⟩
theorem kx_395 : kap 395 = 22 := by decide +kernel
theorem lx_395 : len 395 = 1000 := by decide +kernel
theorem kn_RX1_7 : NOk RX1 7 2 := ⟨RX2, TX2, 3, tyX2, rfl, inX2, tyX2_ok, mt_1 (List.mem_of_getElem? (i := 233) rfl), mt_1 (List.mem_of_getElem? (i := 234) rfl), mt_1 (List.mem_of_getElem? (i := 7) rfl), nd_2, rfl⟩
theorem kx_260 : kap 260 = 2 := by decide +kernel
theorem kx_259 : kap 259 = 1 := by decide +kernel
theorem kx_263 : kap 263 = 21 := by decide +kernel
theorem lx_263 : len 263 = 351 := by decide +kernel
theorem kn_RX9_9 : NOk RX9 9 3 := ⟨RX3, TX3, 7, tyX3, rfl, inX3, tyX3_ok, mt_1 (List.mem_of_getElem? (i := 198) rfl), mt_1 (List.mem_of_getElem? (i := 24) rfl), mt_1 (List.mem_of_getElem? (i := 2) rfl), nd_3, rfl⟩
theorem kx_243 : kap 243 = 3 := by decide +kernel
theorem kx_242 : kap 242 = 9 := by decide +kernel
theorem kx_258 : kap 258 = 20 := by decide +kernel
theorem lx_258 : len 258 = 6 := by decide +kernel
theorem kx_33 : kap 33 = 6 := by decide +kernel
theorem kx_34 : kap 34 = 24 := by decide +kernel
theorem lx_34 : len 34 = 12 := by decide +kernel
theorem kr_35 : ∀ i, i < 12 → kap (35 + 1 + i) = 20 ∧ len (35 + 1 + i) = 4 := by decide +kernel
theorem kx_35 : kap 35 = 26 := by decide +kernel
theorem lx_35 : len 35 = 12 := by decide +kernel
theorem kr_48 : ∀ i, i < 12 → kap (48 + 1 + i) = 20 ∧ len (48 + 1 + i) = 8 := by decide +kernel
theorem kx_48 : kap 48 = 26 := by decide +kernel
theorem lx_48 : len 48 = 12 := by decide +kernel
theorem kn_RX6_18 : NOk RX6 18 3 := ⟨RX3, TX3, 7, tyX3, rfl, inX3, tyX3_ok, mt_1 (List.mem_of_getElem? (i := 170) rfl), mt_1 (List.mem_of_getElem? (i := 24) rfl), mt_1 (List.mem_of_getElem? (i := 2) rfl), nd_3, rfl⟩
theorem kx_61 : kap 61 = 3 := by decide +kernel
theorem kx_76 : kap 76 = 3 := by decide +kernel
theorem kx_91 : kap 91 = 3 := by decide +kernel
theorem kx_106 : kap 106 = 3 := by decide +kernel
theorem kx_121 : kap 121 = 3 := by decide +kernel
theorem kx_136 : kap 136 = 3 := by decide +kernel
theorem kx_151 : kap 151 = 3 := by decide +kernel
theorem kx_166 : kap 166 = 3 := by decide +kernel
theorem kx_181 : kap 181 = 3 := by decide +kernel
theorem kx_196 : kap 196 = 3 := by decide +kernel
theorem kx_211 : kap 211 = 3 := by decide +kernel
theorem kx_226 : kap 226 = 3 := by decide +kernel
theorem kn_RX11_7 : NOk RX11 7 3 := ⟨RX3, TX3, 7, tyX3, rfl, inX3, tyX3_ok, mt_1 (List.mem_of_getElem? (i := 23) rfl), mt_1 (List.mem_of_getElem? (i := 24) rfl), mt_1 (List.mem_of_getElem? (i := 2) rfl), nd_3, rfl⟩
theorem kx_1 : kap 1 = 3 := by decide +kernel
theorem kx_0 : kap 0 = 11 := by decide +kernel
theorem kx_16 : kap 16 = 3 := by decide +kernel
theorem kx_31 : kap 31 = 24 := by decide +kernel
theorem lx_31 : len 31 = 2 := by decide +kernel
theorem kx_32 : kap 32 = 21 := by decide +kernel
theorem lx_32 : len 32 = 2 := by decide +kernel
theorem kn_RX11_27 : NOk RX11 27 6 := ⟨RX6, TX6, 5, tyX6, rfl, inX6, tyX6_ok, mt_1 (List.mem_of_getElem? (i := 164) rfl), mt_1 (List.mem_of_getElem? (i := 165) rfl), mt_1 (List.mem_of_getElem? (i := 4) rfl), nd_6, rfl⟩
theorem kx_241 : kap 241 = 20 := by decide +kernel
theorem lx_241 : len 241 = 160 := by decide +kernel
theorem kn_RX11_38 : NOk RX11 38 9 := ⟨RX9, TX9, 8, tyX9, rfl, inX9, tyX9_ok, mt_1 (List.mem_of_getElem? (i := 192) rfl), mt_1 (List.mem_of_getElem? (i := 193) rfl), mt_1 (List.mem_of_getElem? (i := 5) rfl), nd_9, rfl⟩
theorem kn_RX11_45 : NOk RX11 45 1 := ⟨RX1, TX1, 2, tyX1, rfl, inX1, tyX1_ok, mt_1 (List.mem_of_getElem? (i := 227) rfl), mt_1 (List.mem_of_getElem? (i := 228) rfl), mt_1 (List.mem_of_getElem? (i := 6) rfl), nd_1, rfl⟩
theorem kn_RX11_52 : NOk RX11 52 4 := ⟨RX4, TX4, 8, tyX4, rfl, inX4, tyX4_ok, mt_2 (List.mem_of_getElem? (i := 16) rfl), mt_2 (List.mem_of_getElem? (i := 17) rfl), mt_1 (List.mem_of_getElem? (i := 8) rfl), nd_4, rfl⟩
theorem kx_396 : kap 396 = 3 := by decide +kernel
theorem kx_411 : kap 411 = 3 := by decide +kernel
def cm_X7_init (a : Nat) (m : Mm) : Mm := (wI (wI (wI (wI m a 0 (-9 : Int32)) a 1 (-9 : Int32)) a 6 (-9 : Int32)) a 7 (-9 : Int32))
def cR_X7_init (a : Nat) (R : Nat → Nat → Option Nat) : Nat → Nat → Option Nat := R
set_option maxRecDepth 100000 in
set_option maxHeartbeats 4000000 in
theorem k_X7_init {G : GT} (a : Nat) (hka : kap a = 7) (m : Mm) (R : Nat → Nat → Option Nat) (ad : Nat → Nat) (hc : cw (m, R, a + 1)) : Cn G yX7_init cX7_init 1 none { frames := 1, cells := 0, slots := 0, locals := 12 } [.ref (ad a)] (0, 0) (m, R, a + 1, ad) (fun v w => v = none ∧ ∃ ad2 : Nat → Nat, (∀ b, b < a + 1 → ad2 b = ad b) ∧ cw (cm_X7_init a m, cR_X7_init a R, a + 1) ∧ w = (cm_X7_init a m, cR_X7_init a R, a + 1, ad2)) := by
  refine Cn.ofI pn_RX7 (Nat.le_of_ble_eq_true rfl) (fun X hG hX hR hin => ?_)
  subst hG
  have hX : Cx X cX7_init 1 RX7 { frames := 1, cells := 0, slots := 0, locals := 12 } := hX
  have hin : (xh X).name = "<init>" := hin
  show J X (0, 0) 0 [(0, .ref (ad a))] [] (m, R, a + 1, ad)
  refine J_aload_n hX dX7_init_0 rfl 0 rfl ?_
  refine J_objI hX kl_RX7_3 oi_inst oi_code dX7_init_1 (Nat.le_of_ble_eq_true rfl) (Nat.le_of_ble_eq_true rfl) ?_
  refine J_aload_n hX dX7_init_4 rfl 0 rfl ?_
  refine J_bipush (v := (-9 : Int32)) hX dX7_init_5 (by decide) ?_
  refine J_putIc hX kf_RX7_9 dX7_init_7 hka (by decide) rfl (by omega) rfl ?_
  replace hc := hc.I (a := a) (k := 0) (v := (-9 : Int32)) (by omega)
  show J X (0, 0) 10 [(0, .ref (ad a))] [] ((wI m a 0 (-9 : Int32)), R, a + 1, ad)
  refine J_aload_n hX dX7_init_10 rfl 0 rfl ?_
  refine J_bipush (v := (-9 : Int32)) hX dX7_init_11 (by decide) ?_
  refine J_putIc hX kf_RX7_15 dX7_init_13 hka (by decide) rfl (by omega) rfl ?_
  replace hc := hc.I (a := a) (k := 1) (v := (-9 : Int32)) (by omega)
  show J X (0, 0) 16 [(0, .ref (ad a))] [] ((wI (wI m a 0 (-9 : Int32)) a 1 (-9 : Int32)), R, a + 1, ad)
  refine J_aload_n hX dX7_init_16 rfl 0 rfl ?_
  refine J_bipush (v := (-9 : Int32)) hX dX7_init_17 (by decide) ?_
  refine J_putIc hX kf_RX7_18 dX7_init_19 hka (by decide) rfl (by omega) rfl ?_
  replace hc := hc.I (a := a) (k := 6) (v := (-9 : Int32)) (by omega)
  show J X (0, 0) 22 [(0, .ref (ad a))] [] ((wI (wI (wI m a 0 (-9 : Int32)) a 1 (-9 : Int32)) a 6 (-9 : Int32)), R, a + 1, ad)
  refine J_aload_n hX dX7_init_22 rfl 0 rfl ?_
  refine J_bipush (v := (-9 : Int32)) hX dX7_init_23 (by decide) ?_
  refine J_putIc hX kf_RX7_21 dX7_init_25 hka (by decide) rfl (by omega) rfl ?_
  replace hc := hc.I (a := a) (k := 7) (v := (-9 : Int32)) (by omega)
  show J X (0, 0) 28 [(0, .ref (ad a))] [] ((wI (wI (wI (wI m a 0 (-9 : Int32)) a 1 (-9 : Int32)) a 6 (-9 : Int32)) a 7 (-9 : Int32)), R, a + 1, ad)
  exact J_vret hX hR dX7_init_28 ⟨rfl, ad, fun b hb => rfl, hc, rfl⟩
def cm_X3_init (a : Nat) (m : Mm) : Mm := (cm_X7_init (a + 14) (cm_X7_init (a + 13) (cm_X7_init (a + 12) (cm_X7_init (a + 11) (cm_X7_init (a + 10) (cm_X7_init (a + 9) (cm_X7_init (a + 8) (cm_X7_init (a + 7) (cm_X7_init (a + 6) (cm_X7_init (a + 5) (cm_X7_init (a + 4) (wI (wI (wI m a 2 (200 : Int32)) a 3 (200 : Int32)) a 4 (0 : Int32)))))))))))))
def cR_X3_init (a : Nat) (R : Nat → Nat → Option Nat) : Nat → Nat → Option Nat := (wR (cR_X7_init (a + 14) (wR (cR_X7_init (a + 13) (wR (cR_X7_init (a + 12) (wR (cR_X7_init (a + 11) (wR (cR_X7_init (a + 10) (wR (cR_X7_init (a + 9) (wR (cR_X7_init (a + 8) (wR (cR_X7_init (a + 7) (wR (cR_X7_init (a + 6) (wR (cR_X7_init (a + 5) (wR (cR_X7_init (a + 4) (wR (wR (wR R a 0 (a + 1)) a 1 (a + 2)) a 5 (a + 3))) a 6 (a + 4))) (a + 3) 0 (a + 5))) (a + 3) 1 (a + 6))) (a + 3) 2 (a + 7))) (a + 3) 3 (a + 8))) (a + 3) 4 (a + 9))) (a + 3) 5 (a + 10))) (a + 3) 6 (a + 11))) (a + 3) 7 (a + 12))) (a + 3) 8 (a + 13))) (a + 3) 9 (a + 14))
set_option maxRecDepth 100000 in
set_option maxHeartbeats 4000000 in
theorem k_X3_init {G : GT} (a : Nat) (hka : kap a = 3) (m : Mm) (R : Nat → Nat → Option Nat) (ad : Nat → Nat) (hc : cw (m, R, a + 1)) : Cn G yX3_init cX3_init 2 none { frames := 2, cells := 14, slots := 183, locals := 32 } [.ref (ad a)] (14, 183) (m, R, a + 1, ad) (fun v w => v = none ∧ ∃ ad2 : Nat → Nat, (∀ b, b < a + 1 → ad2 b = ad b) ∧ cw (cm_X3_init a m, cR_X3_init a R, a + 15) ∧ w = (cm_X3_init a m, cR_X3_init a R, a + 15, ad2)) := by
  refine Cn.ofI pn_RX3 (Nat.le_of_ble_eq_true rfl) (fun X hG hX hR hin => ?_)
  subst hG
  have hX : Cx X cX3_init 2 RX3 { frames := 2, cells := 14, slots := 183, locals := 32 } := hX
  have hin : (xh X).name = "<init>" := hin
  show J X (0, 0) 0 [(0, .ref (ad a))] [] (m, R, a + 1, ad)
  refine J_aload_n hX dX3_init_0 rfl 0 rfl ?_
  refine J_objI hX kl_RX3_3 oi_inst oi_code dX3_init_1 (Nat.le_of_ble_eq_true rfl) (Nat.le_of_ble_eq_true rfl) ?_
  refine J_aload_n hX dX3_init_4 rfl 0 rfl ?_
  refine J_iconst (v := (4 : Int32)) hX dX3_init_5 (by decide) ?_
  refine J_newaI hX dX3_init_6 hc (kd_3_1 hka) (ld_3_1 hka) (by decide) (by decide) (Nat.le_of_ble_eq_true rfl) ⟨Nat.le_of_ble_eq_true rfl, Nat.le_of_ble_eq_true rfl⟩ (fun ad1 hg2 => ?_)
  replace hc := hc.N (n := a + 2) (by omega)
  refine J_re (lv2 := [(0, .ref (ad1 a))]) (st2 := [.ref (ad1 (a + 1)), .ref (ad1 a)]) (by (try rw [hg2 a (by omega)]); (try rfl)) (by (try rw [hg2 a (by omega)]); (try rfl)) ?_
  show J X (1, 4) 8 [(0, .ref (ad1 a))] [.ref (ad1 (a + 1)), .ref (ad1 a)] (m, R, a + 2, ad1)
  refine J_putRF hX hin kf_RX3_9 ⟨_, _, rfl⟩ dX3_init_8 hka (by decide) rfl (by omega) rfl rfl rfl rfl ?_
  replace hc := hc.R (a := a) (k := 0) (b := (a + 1)) (by omega) (by omega) (by decide)
  show J X (1, 4) 11 [(0, .ref (ad1 a))] [] (m, (wR R a 0 (a + 1)), a + 2, ad1)
  refine J_aload_n hX dX3_init_11 rfl 0 rfl ?_
  refine J_iconst (v := (4 : Int32)) hX dX3_init_12 (by decide) ?_
  refine J_newaI hX dX3_init_13 hc (kd_3_2 hka) (ld_3_2 hka) (by decide) (by decide) (Nat.le_of_ble_eq_true rfl) ⟨Nat.le_of_ble_eq_true rfl, Nat.le_of_ble_eq_true rfl⟩ (fun ad3 hg4 => ?_)
  replace hc := hc.N (n := a + 3) (by omega)
  refine J_re (lv2 := [(0, .ref (ad3 a))]) (st2 := [.ref (ad3 (a + 2)), .ref (ad3 a)]) (by (try rw [hg4 a (by omega)]); (try rfl)) (by (try rw [hg4 a (by omega)]); (try rfl)) ?_
  show J X (2, 8) 15 [(0, .ref (ad3 a))] [.ref (ad3 (a + 2)), .ref (ad3 a)] (m, (wR R a 0 (a + 1)), a + 3, ad3)
  refine J_putRF hX hin kf_RX3_15 ⟨_, _, rfl⟩ dX3_init_15 hka (by decide) rfl (by omega) rfl rfl rfl rfl ?_
  replace hc := hc.R (a := a) (k := 1) (b := (a + 2)) (by omega) (by omega) (by decide)
  show J X (2, 8) 18 [(0, .ref (ad3 a))] [] (m, (wR (wR R a 0 (a + 1)) a 1 (a + 2)), a + 3, ad3)
  refine J_aload_n hX dX3_init_18 rfl 0 rfl ?_
  refine J_sipush (v := (200 : Int32)) hX dX3_init_19 (by decide) ?_
  refine J_putIc hX kf_RX3_18 dX3_init_22 hka (by decide) rfl (by omega) rfl ?_
  replace hc := hc.I (a := a) (k := 2) (v := (200 : Int32)) (by omega)
  show J X (2, 8) 25 [(0, .ref (ad3 a))] [] ((wI m a 2 (200 : Int32)), (wR (wR R a 0 (a + 1)) a 1 (a + 2)), a + 3, ad3)
  refine J_aload_n hX dX3_init_25 rfl 0 rfl ?_
  refine J_sipush (v := (200 : Int32)) hX dX3_init_26 (by decide) ?_
  refine J_putIc hX kf_RX3_22 dX3_init_29 hka (by decide) rfl (by omega) rfl ?_
  replace hc := hc.I (a := a) (k := 3) (v := (200 : Int32)) (by omega)
  show J X (2, 8) 32 [(0, .ref (ad3 a))] [] ((wI (wI m a 2 (200 : Int32)) a 3 (200 : Int32)), (wR (wR R a 0 (a + 1)) a 1 (a + 2)), a + 3, ad3)
  refine J_aload_n hX dX3_init_32 rfl 0 rfl ?_
  refine J_iconst (v := (0 : Int32)) hX dX3_init_33 (by decide) ?_
  refine J_putIc hX kf_RX3_25 dX3_init_34 hka (by decide) rfl (by omega) rfl ?_
  replace hc := hc.I (a := a) (k := 4) (v := (0 : Int32)) (by omega)
  show J X (2, 8) 37 [(0, .ref (ad3 a))] [] ((wI (wI (wI m a 2 (200 : Int32)) a 3 (200 : Int32)) a 4 (0 : Int32)), (wR (wR R a 0 (a + 1)) a 1 (a + 2)), a + 3, ad3)
  refine J_aload_n hX dX3_init_37 rfl 0 rfl ?_
  refine J_bipush (v := (10 : Int32)) hX dX3_init_38 (by decide) ?_
  refine J_newq hX dX3_init_40 (u := 0) (by decide) (mt_1 (List.mem_of_getElem? (i := 29) rfl)) hc (kd_3_3 hka) (ld_3_3 hka) (by decide) (by decide) (Nat.le_of_ble_eq_true rfl) ⟨Nat.le_of_ble_eq_true rfl, Nat.le_of_ble_eq_true rfl⟩ (fun ad5 hg6 => ?_)
  replace hc := hc.N (n := a + 4) (by omega)
  refine J_re (lv2 := [(0, .ref (ad5 a))]) (st2 := [.ref (ad5 (a + 3)), .ref (ad5 a)]) (by (try rw [hg6 a (by omega)]); (try rfl)) (by (try rw [hg6 a (by omega)]); (try rfl)) ?_
  show J X (3, 18) 43 [(0, .ref (ad5 a))] [.ref (ad5 (a + 3)), .ref (ad5 a)] ((wI (wI (wI m a 2 (200 : Int32)) a 3 (200 : Int32)) a 4 (0 : Int32)), (wR (wR R a 0 (a + 1)) a 1 (a + 2)), a + 4, ad5)
  refine J_putRF hX hin kf_RX3_30 ⟨_, _, rfl⟩ dX3_init_43 hka (by decide) rfl (by omega) rfl rfl rfl rfl ?_
  replace hc := hc.R (a := a) (k := 5) (b := (a + 3)) (by omega) (by omega) (by decide)
  show J X (3, 18) 46 [(0, .ref (ad5 a))] [] ((wI (wI (wI m a 2 (200 : Int32)) a 3 (200 : Int32)) a 4 (0 : Int32)), (wR (wR (wR R a 0 (a + 1)) a 1 (a + 2)) a 5 (a + 3)), a + 4, ad5)
  refine J_aload_n hX dX3_init_46 rfl 0 rfl ?_
  refine J_new hX dX3_init_47 kn_RX3_28 hc (kd_3_4 hka) (by decide) (nf := 15) rfl ⟨Nat.le_of_ble_eq_true rfl, Nat.le_of_ble_eq_true rfl⟩ (fun ad7 hg8 => ?_)
  replace hc := hc.N (n := a + 5) (by omega)
  refine J_re (lv2 := [(0, .ref (ad7 a))]) (st2 := [.ref (ad7 (a + 4)), .ref (ad7 a)]) (by (try rw [hg8 a (by omega)]); (try rfl)) (by (try rw [hg8 a (by omega)]); (try rfl)) ?_
  show J X (4, 33) 50 [(0, .ref (ad7 a))] [.ref (ad7 (a + 4)), .ref (ad7 a)] ((wI (wI (wI m a 2 (200 : Int32)) a 3 (200 : Int32)) a 4 (0 : Int32)), (wR (wR (wR R a 0 (a + 1)) a 1 (a + 2)) a 5 (a + 3)), a + 5, ad7)
  refine J_dup hX dX3_init_50 rfl ?_
  refine J_cIN hX (k_X7_init (a + 4) (kd_3_4 hka) (wI (wI (wI m a 2 (200 : Int32)) a 3 (200 : Int32)) a 4 (0 : Int32)) (wR (wR (wR R a 0 (a + 1)) a 1 (a + 2)) a 5 (a + 3)) ad7 hc) km_X7_init rfl (mt_1 (List.mem_of_getElem? (i := 33) rfl)) kl_RX3_34 dX3_init_51 ⟨rfl, rfl⟩ ⟨Nat.le_of_ble_eq_true rfl, Nat.le_of_ble_eq_true rfl⟩ ⟨Nat.le_of_ble_eq_true rfl, Nat.le_of_ble_eq_true rfl⟩ rfl rfl (Nat.le_of_ble_eq_true rfl) (fun v w2 hk => ?_)
  obtain ⟨rfl, ad9, hg10, hc, rfl⟩ := hk
  refine J_re (lv2 := [(0, .ref (ad9 a))]) (st2 := [.ref (ad9 (a + 4)), .ref (ad9 a)]) (by (try rw [hg10 a (by omega)]); (try rfl)) (by (try rw [hg10 a (by omega), hg10 (a + 4) (by omega)]); (try rfl)) ?_
  show J X (4, 33) 54 [(0, .ref (ad9 a))] [.ref (ad9 (a + 4)), .ref (ad9 a)] ((cm_X7_init (a + 4) (wI (wI (wI m a 2 (200 : Int32)) a 3 (200 : Int32)) a 4 (0 : Int32))), (cR_X7_init (a + 4) (wR (wR (wR R a 0 (a + 1)) a 1 (a + 2)) a 5 (a + 3))), a + 5, ad9)
  refine J_putRF hX hin kf_RX3_35 ⟨_, _, rfl⟩ dX3_init_54 hka (by decide) rfl (by omega) rfl rfl rfl rfl ?_
  replace hc := hc.R (a := a) (k := 6) (b := (a + 4)) (by omega) (by omega) (by decide)
  show J X (4, 33) 57 [(0, .ref (ad9 a))] [] ((cm_X7_init (a + 4) (wI (wI (wI m a 2 (200 : Int32)) a 3 (200 : Int32)) a 4 (0 : Int32))), (wR (cR_X7_init (a + 4) (wR (wR (wR R a 0 (a + 1)) a 1 (a + 2)) a 5 (a + 3))) a 6 (a + 4)), a + 5, ad9)
  refine J_iconst (v := (0 : Int32)) hX dX3_init_57 (by decide) ?_
  refine J_istore_n (lv2 := [(1, .int (0 : Int32)), (0, .ref (ad9 a))]) hX dX3_init_58 rfl (Nat.le_of_ble_eq_true rfl) rfl ?_
  refine J_iload_n hX dX3_init_59 rfl 0 rfl ?_
  refine J_bipush (v := (10 : Int32)) hX dX3_init_60 (by decide) ?_
  refine J_icmp_ge (tgt := 84) hX dX3_init_62 (by decide) (fun c => absurd c (by decide)) (fun _ => ?_)
  refine J_aload_n hX dX3_init_65 rfl 1 rfl ?_
  refine J_getG (w := ((cm_X7_init (a + 4) (wI (wI (wI m a 2 (200 : Int32)) a 3 (200 : Int32)) a 4 (0 : Int32))), (wR (cR_X7_init (a + 4) (wR (wR (wR R a 0 (a + 1)) a 1 (a + 2)) a 5 (a + 3))) a 6 (a + 4)), a + 5, ad9)) hX kf_RX3_30 dX3_init_66 hka (by decide) (s := 2) rfl (show a < a + 5 by omega) rfl (v := .ref (ad9 (a + 3))) (fv_ref (by simp [wR, cR_X7_init])) ?_
  refine J_iload_n hX dX3_init_69 rfl 0 rfl ?_
  refine J_new hX dX3_init_70 kn_RX3_28 hc (kd_3_5 hka) (by decide) (nf := 15) rfl ⟨Nat.le_of_ble_eq_true rfl, Nat.le_of_ble_eq_true rfl⟩ (fun ad11 hg12 => ?_)
  replace hc := hc.N (n := a + 6) (by omega)
  refine J_re (lv2 := [(1, .int (0 : Int32)), (0, .ref (ad11 a))]) (st2 := [.ref (ad11 (a + 5)), .int (0 : Int32), .ref (ad11 (a + 3))]) (by (try rw [hg12 a (by omega)]); (try rfl)) (by (try rw [hg12 (a + 3) (by omega)]); (try rfl)) ?_
  show J X (5, 48) 73 [(1, .int (0 : Int32)), (0, .ref (ad11 a))] [.ref (ad11 (a + 5)), .int (0 : Int32), .ref (ad11 (a + 3))] ((cm_X7_init (a + 4) (wI (wI (wI m a 2 (200 : Int32)) a 3 (200 : Int32)) a 4 (0 : Int32))), (wR (cR_X7_init (a + 4) (wR (wR (wR R a 0 (a + 1)) a 1 (a + 2)) a 5 (a + 3))) a 6 (a + 4)), a + 6, ad11)
  refine J_dup hX dX3_init_73 rfl ?_
  refine J_cIN hX (k_X7_init (a + 5) (kd_3_5 hka) (cm_X7_init (a + 4) (wI (wI (wI m a 2 (200 : Int32)) a 3 (200 : Int32)) a 4 (0 : Int32))) (wR (cR_X7_init (a + 4) (wR (wR (wR R a 0 (a + 1)) a 1 (a + 2)) a 5 (a + 3))) a 6 (a + 4)) ad11 hc) km_X7_init rfl (mt_1 (List.mem_of_getElem? (i := 33) rfl)) kl_RX3_34 dX3_init_74 ⟨rfl, rfl⟩ ⟨Nat.le_of_ble_eq_true rfl, Nat.le_of_ble_eq_true rfl⟩ ⟨Nat.le_of_ble_eq_true rfl, Nat.le_of_ble_eq_true rfl⟩ rfl rfl (Nat.le_of_ble_eq_true rfl) (fun v w2 hk => ?_)
  obtain ⟨rfl, ad13, hg14, hc, rfl⟩ := hk
  refine J_re (lv2 := [(1, .int (0 : Int32)), (0, .ref (ad13 a))]) (st2 := [.ref (ad13 (a + 5)), .int (0 : Int32), .ref (ad13 (a + 3))]) (by (try rw [hg14 a (by omega)]); (try rfl)) (by (try rw [hg14 (a + 3) (by omega), hg14 (a + 5) (by omega)]); (try rfl)) ?_
  show J X (5, 48) 77 [(1, .int (0 : Int32)), (0, .ref (ad13 a))] [.ref (ad13 (a + 5)), .int (0 : Int32), .ref (ad13 (a + 3))] ((cm_X7_init (a + 5) (cm_X7_init (a + 4) (wI (wI (wI m a 2 (200 : Int32)) a 3 (200 : Int32)) a 4 (0 : Int32)))), (cR_X7_init (a + 5) (wR (cR_X7_init (a + 4) (wR (wR (wR R a 0 (a + 1)) a 1 (a + 2)) a 5 (a + 3))) a 6 (a + 4))), a + 6, ad13)
  refine J_aastc (j := 0) hX dX3_init_77 (u := 0) (by decide) (kd_3_3 hka) (ld_3_3 hka) (by omega) rfl rfl (kd_3_5 hka) (by decide) ⟨_, _, rfl⟩ (by omega) (vp_lit (by decide)) (by decide) ?_
  replace hc := hc.R (a := (a + 3)) (k := 0) (b := (a + 5)) (by omega) (by omega) (by decide)
  show J X (5, 48) 78 [(1, .int (0 : Int32)), (0, .ref (ad13 a))] [] ((cm_X7_init (a + 5) (cm_X7_init (a + 4) (wI (wI (wI m a 2 (200 : Int32)) a 3 (200 : Int32)) a 4 (0 : Int32)))), (wR (cR_X7_init (a + 5) (wR (cR_X7_init (a + 4) (wR (wR (wR R a 0 (a + 1)) a 1 (a + 2)) a 5 (a + 3))) a 6 (a + 4))) (a + 3) 0 (a + 5)), a + 6, ad13)
  refine J_iinc (x := (1 : Int32)) (lv2 := [(1, .int (1 : Int32)), (0, .ref (ad13 a))]) hX dX3_init_78 0 rfl (by decide) (Nat.le_of_ble_eq_true rfl) rfl ?_
  refine J_goto (tgt := 59) hX dX3_init_81 (by decide) ?_
  refine J_iload_n hX dX3_init_59 rfl 0 rfl ?_
  refine J_bipush (v := (10 : Int32)) hX dX3_init_60 (by decide) ?_
  refine J_icmp_ge (tgt := 84) hX dX3_init_62 (by decide) (fun c => absurd c (by decide)) (fun _ => ?_)
  refine J_aload_n hX dX3_init_65 rfl 1 rfl ?_
  refine J_getG (w := ((cm_X7_init (a + 5) (cm_X7_init (a + 4) (wI (wI (wI m a 2 (200 : Int32)) a 3 (200 : Int32)) a 4 (0 : Int32)))), (wR (cR_X7_init (a + 5) (wR (cR_X7_init (a + 4) (wR (wR (wR R a 0 (a + 1)) a 1 (a + 2)) a 5 (a + 3))) a 6 (a + 4))) (a + 3) 0 (a + 5)), a + 6, ad13)) hX kf_RX3_30 dX3_init_66 hka (by decide) (s := 2) rfl (show a < a + 6 by omega) rfl (v := .ref (ad13 (a + 3))) (fv_ref (by simp [wR, cR_X7_init])) ?_
  refine J_iload_n hX dX3_init_69 rfl 0 rfl ?_
  refine J_new hX dX3_init_70 kn_RX3_28 hc (kd_3_6 hka) (by decide) (nf := 15) rfl ⟨Nat.le_of_ble_eq_true rfl, Nat.le_of_ble_eq_true rfl⟩ (fun ad15 hg16 => ?_)
  replace hc := hc.N (n := a + 7) (by omega)
  refine J_re (lv2 := [(1, .int (1 : Int32)), (0, .ref (ad15 a))]) (st2 := [.ref (ad15 (a + 6)), .int (1 : Int32), .ref (ad15 (a + 3))]) (by (try rw [hg16 a (by omega)]); (try rfl)) (by (try rw [hg16 (a + 3) (by omega)]); (try rfl)) ?_
  show J X (6, 63) 73 [(1, .int (1 : Int32)), (0, .ref (ad15 a))] [.ref (ad15 (a + 6)), .int (1 : Int32), .ref (ad15 (a + 3))] ((cm_X7_init (a + 5) (cm_X7_init (a + 4) (wI (wI (wI m a 2 (200 : Int32)) a 3 (200 : Int32)) a 4 (0 : Int32)))), (wR (cR_X7_init (a + 5) (wR (cR_X7_init (a + 4) (wR (wR (wR R a 0 (a + 1)) a 1 (a + 2)) a 5 (a + 3))) a 6 (a + 4))) (a + 3) 0 (a + 5)), a + 7, ad15)
  refine J_dup hX dX3_init_73 rfl ?_
  refine J_cIN hX (k_X7_init (a + 6) (kd_3_6 hka) (cm_X7_init (a + 5) (cm_X7_init (a + 4) (wI (wI (wI m a 2 (200 : Int32)) a 3 (200 : Int32)) a 4 (0 : Int32)))) (wR (cR_X7_init (a + 5) (wR (cR_X7_init (a + 4) (wR (wR (wR R a 0 (a + 1)) a 1 (a + 2)) a 5 (a + 3))) a 6 (a + 4))) (a + 3) 0 (a + 5)) ad15 hc) km_X7_init rfl (mt_1 (List.mem_of_getElem? (i := 33) rfl)) kl_RX3_34 dX3_init_74 ⟨rfl, rfl⟩ ⟨Nat.le_of_ble_eq_true rfl, Nat.le_of_ble_eq_true rfl⟩ ⟨Nat.le_of_ble_eq_true rfl, Nat.le_of_ble_eq_true rfl⟩ rfl rfl (Nat.le_of_ble_eq_true rfl) (fun v w2 hk => ?_)
  obtain ⟨rfl, ad17, hg18, hc, rfl⟩ := hk
  refine J_re (lv2 := [(1, .int (1 : Int32)), (0, .ref (ad17 a))]) (st2 := [.ref (ad17 (a + 6)), .int (1 : Int32), .ref (ad17 (a + 3))]) (by (try rw [hg18 a (by omega)]); (try rfl)) (by (try rw [hg18 (a + 3) (by omega), hg18 (a + 6) (by omega)]); (try rfl)) ?_
  show J X (6, 63) 77 [(1, .int (1 : Int32)), (0, .ref (ad17 a))] [.ref (ad17 (a + 6)), .int (1 : Int32), .ref (ad17 (a + 3))] ((cm_X7_init (a + 6) (cm_X7_init (a + 5) (cm_X7_init (a + 4) (wI (wI (wI m a 2 (200 : Int32)) a 3 (200 : Int32)) a 4 (0 : Int32))))), (cR_X7_init (a + 6) (wR (cR_X7_init (a + 5) (wR (cR_X7_init (a + 4) (wR (wR (wR R a 0 (a + 1)) a 1 (a + 2)) a 5 (a + 3))) a 6 (a + 4))) (a + 3) 0 (a + 5))), a + 7, ad17)
  refine J_aastc (j := 1) hX dX3_init_77 (u := 0) (by decide) (kd_3_3 hka) (ld_3_3 hka) (by omega) rfl rfl (kd_3_6 hka) (by decide) ⟨_, _, rfl⟩ (by omega) (vp_lit (by decide)) (by decide) ?_
  replace hc := hc.R (a := (a + 3)) (k := 1) (b := (a + 6)) (by omega) (by omega) (by decide)
  show J X (6, 63) 78 [(1, .int (1 : Int32)), (0, .ref (ad17 a))] [] ((cm_X7_init (a + 6) (cm_X7_init (a + 5) (cm_X7_init (a + 4) (wI (wI (wI m a 2 (200 : Int32)) a 3 (200 : Int32)) a 4 (0 : Int32))))), (wR (cR_X7_init (a + 6) (wR (cR_X7_init (a + 5) (wR (cR_X7_init (a + 4) (wR (wR (wR R a 0 (a + 1)) a 1 (a + 2)) a 5 (a + 3))) a 6 (a + 4))) (a + 3) 0 (a + 5))) (a + 3) 1 (a + 6)), a + 7, ad17)
  refine J_iinc (x := (2 : Int32)) (lv2 := [(1, .int (2 : Int32)), (0, .ref (ad17 a))]) hX dX3_init_78 0 rfl (by decide) (Nat.le_of_ble_eq_true rfl) rfl ?_
  refine J_goto (tgt := 59) hX dX3_init_81 (by decide) ?_
  refine J_iload_n hX dX3_init_59 rfl 0 rfl ?_
  refine J_bipush (v := (10 : Int32)) hX dX3_init_60 (by decide) ?_
  refine J_icmp_ge (tgt := 84) hX dX3_init_62 (by decide) (fun c => absurd c (by decide)) (fun _ => ?_)
  refine J_aload_n hX dX3_init_65 rfl 1 rfl ?_
  refine J_getG (w := ((cm_X7_init (a + 6) (cm_X7_init (a + 5) (cm_X7_init (a + 4) (wI (wI (wI m a 2 (200 : Int32)) a 3 (200 : Int32)) a 4 (0 : Int32))))), (wR (cR_X7_init (a + 6) (wR (cR_X7_init (a + 5) (wR (cR_X7_init (a + 4) (wR (wR (wR R a 0 (a + 1)) a 1 (a + 2)) a 5 (a + 3))) a 6 (a + 4))) (a + 3) 0 (a + 5))) (a + 3) 1 (a + 6)), a + 7, ad17)) hX kf_RX3_30 dX3_init_66 hka (by decide) (s := 2) rfl (show a < a + 7 by omega) rfl (v := .ref (ad17 (a + 3))) (fv_ref (by simp [wR, cR_X7_init])) ?_
  refine J_iload_n hX dX3_init_69 rfl 0 rfl ?_
  refine J_new hX dX3_init_70 kn_RX3_28 hc (kd_3_7 hka) (by decide) (nf := 15) rfl ⟨Nat.le_of_ble_eq_true rfl, Nat.le_of_ble_eq_true rfl⟩ (fun ad19 hg20 => ?_)
  replace hc := hc.N (n := a + 8) (by omega)
  refine J_re (lv2 := [(1, .int (2 : Int32)), (0, .ref (ad19 a))]) (st2 := [.ref (ad19 (a + 7)), .int (2 : Int32), .ref (ad19 (a + 3))]) (by (try rw [hg20 a (by omega)]); (try rfl)) (by (try rw [hg20 (a + 3) (by omega)]); (try rfl)) ?_
  show J X (7, 78) 73 [(1, .int (2 : Int32)), (0, .ref (ad19 a))] [.ref (ad19 (a + 7)), .int (2 : Int32), .ref (ad19 (a + 3))] ((cm_X7_init (a + 6) (cm_X7_init (a + 5) (cm_X7_init (a + 4) (wI (wI (wI m a 2 (200 : Int32)) a 3 (200 : Int32)) a 4 (0 : Int32))))), (wR (cR_X7_init (a + 6) (wR (cR_X7_init (a + 5) (wR (cR_X7_init (a + 4) (wR (wR (wR R a 0 (a + 1)) a 1 (a + 2)) a 5 (a + 3))) a 6 (a + 4))) (a + 3) 0 (a + 5))) (a + 3) 1 (a + 6)), a + 8, ad19)
  refine J_dup hX dX3_init_73 rfl ?_
  refine J_cIN hX (k_X7_init (a + 7) (kd_3_7 hka) (cm_X7_init (a + 6) (cm_X7_init (a + 5) (cm_X7_init (a + 4) (wI (wI (wI m a 2 (200 : Int32)) a 3 (200 : Int32)) a 4 (0 : Int32))))) (wR (cR_X7_init (a + 6) (wR (cR_X7_init (a + 5) (wR (cR_X7_init (a + 4) (wR (wR (wR R a 0 (a + 1)) a 1 (a + 2)) a 5 (a + 3))) a 6 (a + 4))) (a + 3) 0 (a + 5))) (a + 3) 1 (a + 6)) ad19 hc) km_X7_init rfl (mt_1 (List.mem_of_getElem? (i := 33) rfl)) kl_RX3_34 dX3_init_74 ⟨rfl, rfl⟩ ⟨Nat.le_of_ble_eq_true rfl, Nat.le_of_ble_eq_true rfl⟩ ⟨Nat.le_of_ble_eq_true rfl, Nat.le_of_ble_eq_true rfl⟩ rfl rfl (Nat.le_of_ble_eq_true rfl) (fun v w2 hk => ?_)
  obtain ⟨rfl, ad21, hg22, hc, rfl⟩ := hk
  refine J_re (lv2 := [(1, .int (2 : Int32)), (0, .ref (ad21 a))]) (st2 := [.ref (ad21 (a + 7)), .int (2 : Int32), .ref (ad21 (a + 3))]) (by (try rw [hg22 a (by omega)]); (try rfl)) (by (try rw [hg22 (a + 3) (by omega), hg22 (a + 7) (by omega)]); (try rfl)) ?_
  show J X (7, 78) 77 [(1, .int (2 : Int32)), (0, .ref (ad21 a))] [.ref (ad21 (a + 7)), .int (2 : Int32), .ref (ad21 (a + 3))] ((cm_X7_init (a + 7) (cm_X7_init (a + 6) (cm_X7_init (a + 5) (cm_X7_init (a + 4) (wI (wI (wI m a 2 (200 : Int32)) a 3 (200 : Int32)) a 4 (0 : Int32)))))), (cR_X7_init (a + 7) (wR (cR_X7_init (a + 6) (wR (cR_X7_init (a + 5) (wR (cR_X7_init (a + 4) (wR (wR (wR R a 0 (a + 1)) a 1 (a + 2)) a 5 (a + 3))) a 6 (a + 4))) (a + 3) 0 (a + 5))) (a + 3) 1 (a + 6))), a + 8, ad21)
  refine J_aastc (j := 2) hX dX3_init_77 (u := 0) (by decide) (kd_3_3 hka) (ld_3_3 hka) (by omega) rfl rfl (kd_3_7 hka) (by decide) ⟨_, _, rfl⟩ (by omega) (vp_lit (by decide)) (by decide) ?_
  replace hc := hc.R (a := (a + 3)) (k := 2) (b := (a + 7)) (by omega) (by omega) (by decide)
  show J X (7, 78) 78 [(1, .int (2 : Int32)), (0, .ref (ad21 a))] [] ((cm_X7_init (a + 7) (cm_X7_init (a + 6) (cm_X7_init (a + 5) (cm_X7_init (a + 4) (wI (wI (wI m a 2 (200 : Int32)) a 3 (200 : Int32)) a 4 (0 : Int32)))))), (wR (cR_X7_init (a + 7) (wR (cR_X7_init (a + 6) (wR (cR_X7_init (a + 5) (wR (cR_X7_init (a + 4) (wR (wR (wR R a 0 (a + 1)) a 1 (a + 2)) a 5 (a + 3))) a 6 (a + 4))) (a + 3) 0 (a + 5))) (a + 3) 1 (a + 6))) (a + 3) 2 (a + 7)), a + 8, ad21)
  refine J_iinc (x := (3 : Int32)) (lv2 := [(1, .int (3 : Int32)), (0, .ref (ad21 a))]) hX dX3_init_78 0 rfl (by decide) (Nat.le_of_ble_eq_true rfl) rfl ?_
  refine J_goto (tgt := 59) hX dX3_init_81 (by decide) ?_
  refine J_iload_n hX dX3_init_59 rfl 0 rfl ?_
  refine J_bipush (v := (10 : Int32)) hX dX3_init_60 (by decide) ?_
  refine J_icmp_ge (tgt := 84) hX dX3_init_62 (by decide) (fun c => absurd c (by decide)) (fun _ => ?_)
  refine J_aload_n hX dX3_init_65 rfl 1 rfl ?_
  refine J_getG (w := ((cm_X7_init (a + 7) (cm_X7_init (a + 6) (cm_X7_init (a + 5) (cm_X7_init (a + 4) (wI (wI (wI m a 2 (200 : Int32)) a 3 (200 : Int32)) a 4 (0 : Int32)))))), (wR (cR_X7_init (a + 7) (wR (cR_X7_init (a + 6) (wR (cR_X7_init (a + 5) (wR (cR_X7_init (a + 4) (wR (wR (wR R a 0 (a + 1)) a 1 (a + 2)) a 5 (a + 3))) a 6 (a + 4))) (a + 3) 0 (a + 5))) (a + 3) 1 (a + 6))) (a + 3) 2 (a + 7)), a + 8, ad21)) hX kf_RX3_30 dX3_init_66 hka (by decide) (s := 2) rfl (show a < a + 8 by omega) rfl (v := .ref (ad21 (a + 3))) (fv_ref (by simp [wR, cR_X7_init])) ?_
  refine J_iload_n hX dX3_init_69 rfl 0 rfl ?_
  refine J_new hX dX3_init_70 kn_RX3_28 hc (kd_3_8 hka) (by decide) (nf := 15) rfl ⟨Nat.le_of_ble_eq_true rfl, Nat.le_of_ble_eq_true rfl⟩ (fun ad23 hg24 => ?_)
  replace hc := hc.N (n := a + 9) (by omega)
  refine J_re (lv2 := [(1, .int (3 : Int32)), (0, .ref (ad23 a))]) (st2 := [.ref (ad23 (a + 8)), .int (3 : Int32), .ref (ad23 (a + 3))]) (by (try rw [hg24 a (by omega)]); (try rfl)) (by (try rw [hg24 (a + 3) (by omega)]); (try rfl)) ?_
  show J X (8, 93) 73 [(1, .int (3 : Int32)), (0, .ref (ad23 a))] [.ref (ad23 (a + 8)), .int (3 : Int32), .ref (ad23 (a + 3))] ((cm_X7_init (a + 7) (cm_X7_init (a + 6) (cm_X7_init (a + 5) (cm_X7_init (a + 4) (wI (wI (wI m a 2 (200 : Int32)) a 3 (200 : Int32)) a 4 (0 : Int32)))))), (wR (cR_X7_init (a + 7) (wR (cR_X7_init (a + 6) (wR (cR_X7_init (a + 5) (wR (cR_X7_init (a + 4) (wR (wR (wR R a 0 (a + 1)) a 1 (a + 2)) a 5 (a + 3))) a 6 (a + 4))) (a + 3) 0 (a + 5))) (a + 3) 1 (a + 6))) (a + 3) 2 (a + 7)), a + 9, ad23)
  refine J_dup hX dX3_init_73 rfl ?_
  refine J_cIN hX (k_X7_init (a + 8) (kd_3_8 hka) (cm_X7_init (a + 7) (cm_X7_init (a + 6) (cm_X7_init (a + 5) (cm_X7_init (a + 4) (wI (wI (wI m a 2 (200 : Int32)) a 3 (200 : Int32)) a 4 (0 : Int32)))))) (wR (cR_X7_init (a + 7) (wR (cR_X7_init (a + 6) (wR (cR_X7_init (a + 5) (wR (cR_X7_init (a + 4) (wR (wR (wR R a 0 (a + 1)) a 1 (a + 2)) a 5 (a + 3))) a 6 (a + 4))) (a + 3) 0 (a + 5))) (a + 3) 1 (a + 6))) (a + 3) 2 (a + 7)) ad23 hc) km_X7_init rfl (mt_1 (List.mem_of_getElem? (i := 33) rfl)) kl_RX3_34 dX3_init_74 ⟨rfl, rfl⟩ ⟨Nat.le_of_ble_eq_true rfl, Nat.le_of_ble_eq_true rfl⟩ ⟨Nat.le_of_ble_eq_true rfl, Nat.le_of_ble_eq_true rfl⟩ rfl rfl (Nat.le_of_ble_eq_true rfl) (fun v w2 hk => ?_)
  obtain ⟨rfl, ad25, hg26, hc, rfl⟩ := hk
  refine J_re (lv2 := [(1, .int (3 : Int32)), (0, .ref (ad25 a))]) (st2 := [.ref (ad25 (a + 8)), .int (3 : Int32), .ref (ad25 (a + 3))]) (by (try rw [hg26 a (by omega)]); (try rfl)) (by (try rw [hg26 (a + 3) (by omega), hg26 (a + 8) (by omega)]); (try rfl)) ?_
  show J X (8, 93) 77 [(1, .int (3 : Int32)), (0, .ref (ad25 a))] [.ref (ad25 (a + 8)), .int (3 : Int32), .ref (ad25 (a + 3))] ((cm_X7_init (a + 8) (cm_X7_init (a + 7) (cm_X7_init (a + 6) (cm_X7_init (a + 5) (cm_X7_init (a + 4) (wI (wI (wI m a 2 (200 : Int32)) a 3 (200 : Int32)) a 4 (0 : Int32))))))), (cR_X7_init (a + 8) (wR (cR_X7_init (a + 7) (wR (cR_X7_init (a + 6) (wR (cR_X7_init (a + 5) (wR (cR_X7_init (a + 4) (wR (wR (wR R a 0 (a + 1)) a 1 (a + 2)) a 5 (a + 3))) a 6 (a + 4))) (a + 3) 0 (a + 5))) (a + 3) 1 (a + 6))) (a + 3) 2 (a + 7))), a + 9, ad25)
  refine J_aastc (j := 3) hX dX3_init_77 (u := 0) (by decide) (kd_3_3 hka) (ld_3_3 hka) (by omega) rfl rfl (kd_3_8 hka) (by decide) ⟨_, _, rfl⟩ (by omega) (vp_lit (by decide)) (by decide) ?_
  replace hc := hc.R (a := (a + 3)) (k := 3) (b := (a + 8)) (by omega) (by omega) (by decide)
  show J X (8, 93) 78 [(1, .int (3 : Int32)), (0, .ref (ad25 a))] [] ((cm_X7_init (a + 8) (cm_X7_init (a + 7) (cm_X7_init (a + 6) (cm_X7_init (a + 5) (cm_X7_init (a + 4) (wI (wI (wI m a 2 (200 : Int32)) a 3 (200 : Int32)) a 4 (0 : Int32))))))), (wR (cR_X7_init (a + 8) (wR (cR_X7_init (a + 7) (wR (cR_X7_init (a + 6) (wR (cR_X7_init (a + 5) (wR (cR_X7_init (a + 4) (wR (wR (wR R a 0 (a + 1)) a 1 (a + 2)) a 5 (a + 3))) a 6 (a + 4))) (a + 3) 0 (a + 5))) (a + 3) 1 (a + 6))) (a + 3) 2 (a + 7))) (a + 3) 3 (a + 8)), a + 9, ad25)
  refine J_iinc (x := (4 : Int32)) (lv2 := [(1, .int (4 : Int32)), (0, .ref (ad25 a))]) hX dX3_init_78 0 rfl (by decide) (Nat.le_of_ble_eq_true rfl) rfl ?_
  refine J_goto (tgt := 59) hX dX3_init_81 (by decide) ?_
  refine J_iload_n hX dX3_init_59 rfl 0 rfl ?_
  refine J_bipush (v := (10 : Int32)) hX dX3_init_60 (by decide) ?_
  refine J_icmp_ge (tgt := 84) hX dX3_init_62 (by decide) (fun c => absurd c (by decide)) (fun _ => ?_)
  refine J_aload_n hX dX3_init_65 rfl 1 rfl ?_
  refine J_getG (w := ((cm_X7_init (a + 8) (cm_X7_init (a + 7) (cm_X7_init (a + 6) (cm_X7_init (a + 5) (cm_X7_init (a + 4) (wI (wI (wI m a 2 (200 : Int32)) a 3 (200 : Int32)) a 4 (0 : Int32))))))), (wR (cR_X7_init (a + 8) (wR (cR_X7_init (a + 7) (wR (cR_X7_init (a + 6) (wR (cR_X7_init (a + 5) (wR (cR_X7_init (a + 4) (wR (wR (wR R a 0 (a + 1)) a 1 (a + 2)) a 5 (a + 3))) a 6 (a + 4))) (a + 3) 0 (a + 5))) (a + 3) 1 (a + 6))) (a + 3) 2 (a + 7))) (a + 3) 3 (a + 8)), a + 9, ad25)) hX kf_RX3_30 dX3_init_66 hka (by decide) (s := 2) rfl (show a < a + 9 by omega) rfl (v := .ref (ad25 (a + 3))) (fv_ref (by simp [wR, cR_X7_init])) ?_
  refine J_iload_n hX dX3_init_69 rfl 0 rfl ?_
  refine J_new hX dX3_init_70 kn_RX3_28 hc (kd_3_9 hka) (by decide) (nf := 15) rfl ⟨Nat.le_of_ble_eq_true rfl, Nat.le_of_ble_eq_true rfl⟩ (fun ad27 hg28 => ?_)
  replace hc := hc.N (n := a + 10) (by omega)
  refine J_re (lv2 := [(1, .int (4 : Int32)), (0, .ref (ad27 a))]) (st2 := [.ref (ad27 (a + 9)), .int (4 : Int32), .ref (ad27 (a + 3))]) (by (try rw [hg28 a (by omega)]); (try rfl)) (by (try rw [hg28 (a + 3) (by omega)]); (try rfl)) ?_
  show J X (9, 108) 73 [(1, .int (4 : Int32)), (0, .ref (ad27 a))] [.ref (ad27 (a + 9)), .int (4 : Int32), .ref (ad27 (a + 3))] ((cm_X7_init (a + 8) (cm_X7_init (a + 7) (cm_X7_init (a + 6) (cm_X7_init (a + 5) (cm_X7_init (a + 4) (wI (wI (wI m a 2 (200 : Int32)) a 3 (200 : Int32)) a 4 (0 : Int32))))))), (wR (cR_X7_init (a + 8) (wR (cR_X7_init (a + 7) (wR (cR_X7_init (a + 6) (wR (cR_X7_init (a + 5) (wR (cR_X7_init (a + 4) (wR (wR (wR R a 0 (a + 1)) a 1 (a + 2)) a 5 (a + 3))) a 6 (a + 4))) (a + 3) 0 (a + 5))) (a + 3) 1 (a + 6))) (a + 3) 2 (a + 7))) (a + 3) 3 (a + 8)), a + 10, ad27)
  refine J_dup hX dX3_init_73 rfl ?_
  refine J_cIN hX (k_X7_init (a + 9) (kd_3_9 hka) (cm_X7_init (a + 8) (cm_X7_init (a + 7) (cm_X7_init (a + 6) (cm_X7_init (a + 5) (cm_X7_init (a + 4) (wI (wI (wI m a 2 (200 : Int32)) a 3 (200 : Int32)) a 4 (0 : Int32))))))) (wR (cR_X7_init (a + 8) (wR (cR_X7_init (a + 7) (wR (cR_X7_init (a + 6) (wR (cR_X7_init (a + 5) (wR (cR_X7_init (a + 4) (wR (wR (wR R a 0 (a + 1)) a 1 (a + 2)) a 5 (a + 3))) a 6 (a + 4))) (a + 3) 0 (a + 5))) (a + 3) 1 (a + 6))) (a + 3) 2 (a + 7))) (a + 3) 3 (a + 8)) ad27 hc) km_X7_init rfl (mt_1 (List.mem_of_getElem? (i := 33) rfl)) kl_RX3_34 dX3_init_74 ⟨rfl, rfl⟩ ⟨Nat.le_of_ble_eq_true rfl, Nat.le_of_ble_eq_true rfl⟩ ⟨Nat.le_of_ble_eq_true rfl, Nat.le_of_ble_eq_true rfl⟩ rfl rfl (Nat.le_of_ble_eq_true rfl) (fun v w2 hk => ?_)
  obtain ⟨rfl, ad29, hg30, hc, rfl⟩ := hk
  refine J_re (lv2 := [(1, .int (4 : Int32)), (0, .ref (ad29 a))]) (st2 := [.ref (ad29 (a + 9)), .int (4 : Int32), .ref (ad29 (a + 3))]) (by (try rw [hg30 a (by omega)]); (try rfl)) (by (try rw [hg30 (a + 3) (by omega), hg30 (a + 9) (by omega)]); (try rfl)) ?_
  show J X (9, 108) 77 [(1, .int (4 : Int32)), (0, .ref (ad29 a))] [.ref (ad29 (a + 9)), .int (4 : Int32), .ref (ad29 (a + 3))] ((cm_X7_init (a + 9) (cm_X7_init (a + 8) (cm_X7_init (a + 7) (cm_X7_init (a + 6) (cm_X7_init (a + 5) (cm_X7_init (a + 4) (wI (wI (wI m a 2 (200 : Int32)) a 3 (200 : Int32)) a 4 (0 : Int32)))))))), (cR_X7_init (a + 9) (wR (cR_X7_init (a + 8) (wR (cR_X7_init (a + 7) (wR (cR_X7_init (a + 6) (wR (cR_X7_init (a + 5) (wR (cR_X7_init (a + 4) (wR (wR (wR R a 0 (a + 1)) a 1 (a + 2)) a 5 (a + 3))) a 6 (a + 4))) (a + 3) 0 (a + 5))) (a + 3) 1 (a + 6))) (a + 3) 2 (a + 7))) (a + 3) 3 (a + 8))), a + 10, ad29)
  refine J_aastc (j := 4) hX dX3_init_77 (u := 0) (by decide) (kd_3_3 hka) (ld_3_3 hka) (by omega) rfl rfl (kd_3_9 hka) (by decide) ⟨_, _, rfl⟩ (by omega) (vp_lit (by decide)) (by decide) ?_
  replace hc := hc.R (a := (a + 3)) (k := 4) (b := (a + 9)) (by omega) (by omega) (by decide)
  show J X (9, 108) 78 [(1, .int (4 : Int32)), (0, .ref (ad29 a))] [] ((cm_X7_init (a + 9) (cm_X7_init (a + 8) (cm_X7_init (a + 7) (cm_X7_init (a + 6) (cm_X7_init (a + 5) (cm_X7_init (a + 4) (wI (wI (wI m a 2 (200 : Int32)) a 3 (200 : Int32)) a 4 (0 : Int32)))))))), (wR (cR_X7_init (a + 9) (wR (cR_X7_init (a + 8) (wR (cR_X7_init (a + 7) (wR (cR_X7_init (a + 6) (wR (cR_X7_init (a + 5) (wR (cR_X7_init (a + 4) (wR (wR (wR R a 0 (a + 1)) a 1 (a + 2)) a 5 (a + 3))) a 6 (a + 4))) (a + 3) 0 (a + 5))) (a + 3) 1 (a + 6))) (a + 3) 2 (a + 7))) (a + 3) 3 (a + 8))) (a + 3) 4 (a + 9)), a + 10, ad29)
  refine J_iinc (x := (5 : Int32)) (lv2 := [(1, .int (5 : Int32)), (0, .ref (ad29 a))]) hX dX3_init_78 0 rfl (by decide) (Nat.le_of_ble_eq_true rfl) rfl ?_
  refine J_goto (tgt := 59) hX dX3_init_81 (by decide) ?_
  refine J_iload_n hX dX3_init_59 rfl 0 rfl ?_
  refine J_bipush (v := (10 : Int32)) hX dX3_init_60 (by decide) ?_
  refine J_icmp_ge (tgt := 84) hX dX3_init_62 (by decide) (fun c => absurd c (by decide)) (fun _ => ?_)
  refine J_aload_n hX dX3_init_65 rfl 1 rfl ?_
  refine J_getG (w := ((cm_X7_init (a + 9) (cm_X7_init (a + 8) (cm_X7_init (a + 7) (cm_X7_init (a + 6) (cm_X7_init (a + 5) (cm_X7_init (a + 4) (wI (wI (wI m a 2 (200 : Int32)) a 3 (200 : Int32)) a 4 (0 : Int32)))))))), (wR (cR_X7_init (a + 9) (wR (cR_X7_init (a + 8) (wR (cR_X7_init (a + 7) (wR (cR_X7_init (a + 6) (wR (cR_X7_init (a + 5) (wR (cR_X7_init (a + 4) (wR (wR (wR R a 0 (a + 1)) a 1 (a + 2)) a 5 (a + 3))) a 6 (a + 4))) (a + 3) 0 (a + 5))) (a + 3) 1 (a + 6))) (a + 3) 2 (a + 7))) (a + 3) 3 (a + 8))) (a + 3) 4 (a + 9)), a + 10, ad29)) hX kf_RX3_30 dX3_init_66 hka (by decide) (s := 2) rfl (show a < a + 10 by omega) rfl (v := .ref (ad29 (a + 3))) (fv_ref (by simp [wR, cR_X7_init])) ?_
  refine J_iload_n hX dX3_init_69 rfl 0 rfl ?_
  refine J_new hX dX3_init_70 kn_RX3_28 hc (kd_3_10 hka) (by decide) (nf := 15) rfl ⟨Nat.le_of_ble_eq_true rfl, Nat.le_of_ble_eq_true rfl⟩ (fun ad31 hg32 => ?_)
  replace hc := hc.N (n := a + 11) (by omega)
  refine J_re (lv2 := [(1, .int (5 : Int32)), (0, .ref (ad31 a))]) (st2 := [.ref (ad31 (a + 10)), .int (5 : Int32), .ref (ad31 (a + 3))]) (by (try rw [hg32 a (by omega)]); (try rfl)) (by (try rw [hg32 (a + 3) (by omega)]); (try rfl)) ?_
  show J X (10, 123) 73 [(1, .int (5 : Int32)), (0, .ref (ad31 a))] [.ref (ad31 (a + 10)), .int (5 : Int32), .ref (ad31 (a + 3))] ((cm_X7_init (a + 9) (cm_X7_init (a + 8) (cm_X7_init (a + 7) (cm_X7_init (a + 6) (cm_X7_init (a + 5) (cm_X7_init (a + 4) (wI (wI (wI m a 2 (200 : Int32)) a 3 (200 : Int32)) a 4 (0 : Int32)))))))), (wR (cR_X7_init (a + 9) (wR (cR_X7_init (a + 8) (wR (cR_X7_init (a + 7) (wR (cR_X7_init (a + 6) (wR (cR_X7_init (a + 5) (wR (cR_X7_init (a + 4) (wR (wR (wR R a 0 (a + 1)) a 1 (a + 2)) a 5 (a + 3))) a 6 (a + 4))) (a + 3) 0 (a + 5))) (a + 3) 1 (a + 6))) (a + 3) 2 (a + 7))) (a + 3) 3 (a + 8))) (a + 3) 4 (a + 9)), a + 11, ad31)
  refine J_dup hX dX3_init_73 rfl ?_
  refine J_cIN hX (k_X7_init (a + 10) (kd_3_10 hka) (cm_X7_init (a + 9) (cm_X7_init (a + 8) (cm_X7_init (a + 7) (cm_X7_init (a + 6) (cm_X7_init (a + 5) (cm_X7_init (a + 4) (wI (wI (wI m a 2 (200 : Int32)) a 3 (200 : Int32)) a 4 (0 : Int32)))))))) (wR (cR_X7_init (a + 9) (wR (cR_X7_init (a + 8) (wR (cR_X7_init (a + 7) (wR (cR_X7_init (a + 6) (wR (cR_X7_init (a + 5) (wR (cR_X7_init (a + 4) (wR (wR (wR R a 0 (a + 1)) a 1 (a + 2)) a 5 (a + 3))) a 6 (a + 4))) (a + 3) 0 (a + 5))) (a + 3) 1 (a + 6))) (a + 3) 2 (a + 7))) (a + 3) 3 (a + 8))) (a + 3) 4 (a + 9)) ad31 hc) km_X7_init rfl (mt_1 (List.mem_of_getElem? (i := 33) rfl)) kl_RX3_34 dX3_init_74 ⟨rfl, rfl⟩ ⟨Nat.le_of_ble_eq_true rfl, Nat.le_of_ble_eq_true rfl⟩ ⟨Nat.le_of_ble_eq_true rfl, Nat.le_of_ble_eq_true rfl⟩ rfl rfl (Nat.le_of_ble_eq_true rfl) (fun v w2 hk => ?_)
  obtain ⟨rfl, ad33, hg34, hc, rfl⟩ := hk
  refine J_re (lv2 := [(1, .int (5 : Int32)), (0, .ref (ad33 a))]) (st2 := [.ref (ad33 (a + 10)), .int (5 : Int32), .ref (ad33 (a + 3))]) (by (try rw [hg34 a (by omega)]); (try rfl)) (by (try rw [hg34 (a + 3) (by omega), hg34 (a + 10) (by omega)]); (try rfl)) ?_
  show J X (10, 123) 77 [(1, .int (5 : Int32)), (0, .ref (ad33 a))] [.ref (ad33 (a + 10)), .int (5 : Int32), .ref (ad33 (a + 3))] ((cm_X7_init (a + 10) (cm_X7_init (a + 9) (cm_X7_init (a + 8) (cm_X7_init (a + 7) (cm_X7_init (a + 6) (cm_X7_init (a + 5) (cm_X7_init (a + 4) (wI (wI (wI m a 2 (200 : Int32)) a 3 (200 : Int32)) a 4 (0 : Int32))))))))), (cR_X7_init (a + 10) (wR (cR_X7_init (a + 9) (wR (cR_X7_init (a + 8) (wR (cR_X7_init (a + 7) (wR (cR_X7_init (a + 6) (wR (cR_X7_init (a + 5) (wR (cR_X7_init (a + 4) (wR (wR (wR R a 0 (a + 1)) a 1 (a + 2)) a 5 (a + 3))) a 6 (a + 4))) (a + 3) 0 (a + 5))) (a + 3) 1 (a + 6))) (a + 3) 2 (a + 7))) (a + 3) 3 (a + 8))) (a + 3) 4 (a + 9))), a + 11, ad33)
  refine J_aastc (j := 5) hX dX3_init_77 (u := 0) (by decide) (kd_3_3 hka) (ld_3_3 hka) (by omega) rfl rfl (kd_3_10 hka) (by decide) ⟨_, _, rfl⟩ (by omega) (vp_lit (by decide)) (by decide) ?_
  replace hc := hc.R (a := (a + 3)) (k := 5) (b := (a + 10)) (by omega) (by omega) (by decide)
  show J X (10, 123) 78 [(1, .int (5 : Int32)), (0, .ref (ad33 a))] [] ((cm_X7_init (a + 10) (cm_X7_init (a + 9) (cm_X7_init (a + 8) (cm_X7_init (a + 7) (cm_X7_init (a + 6) (cm_X7_init (a + 5) (cm_X7_init (a + 4) (wI (wI (wI m a 2 (200 : Int32)) a 3 (200 : Int32)) a 4 (0 : Int32))))))))), (wR (cR_X7_init (a + 10) (wR (cR_X7_init (a + 9) (wR (cR_X7_init (a + 8) (wR (cR_X7_init (a + 7) (wR (cR_X7_init (a + 6) (wR (cR_X7_init (a + 5) (wR (cR_X7_init (a + 4) (wR (wR (wR R a 0 (a + 1)) a 1 (a + 2)) a 5 (a + 3))) a 6 (a + 4))) (a + 3) 0 (a + 5))) (a + 3) 1 (a + 6))) (a + 3) 2 (a + 7))) (a + 3) 3 (a + 8))) (a + 3) 4 (a + 9))) (a + 3) 5 (a + 10)), a + 11, ad33)
  refine J_iinc (x := (6 : Int32)) (lv2 := [(1, .int (6 : Int32)), (0, .ref (ad33 a))]) hX dX3_init_78 0 rfl (by decide) (Nat.le_of_ble_eq_true rfl) rfl ?_
  refine J_goto (tgt := 59) hX dX3_init_81 (by decide) ?_
  refine J_iload_n hX dX3_init_59 rfl 0 rfl ?_
  refine J_bipush (v := (10 : Int32)) hX dX3_init_60 (by decide) ?_
  refine J_icmp_ge (tgt := 84) hX dX3_init_62 (by decide) (fun c => absurd c (by decide)) (fun _ => ?_)
  refine J_aload_n hX dX3_init_65 rfl 1 rfl ?_
  refine J_getG (w := ((cm_X7_init (a + 10) (cm_X7_init (a + 9) (cm_X7_init (a + 8) (cm_X7_init (a + 7) (cm_X7_init (a + 6) (cm_X7_init (a + 5) (cm_X7_init (a + 4) (wI (wI (wI m a 2 (200 : Int32)) a 3 (200 : Int32)) a 4 (0 : Int32))))))))), (wR (cR_X7_init (a + 10) (wR (cR_X7_init (a + 9) (wR (cR_X7_init (a + 8) (wR (cR_X7_init (a + 7) (wR (cR_X7_init (a + 6) (wR (cR_X7_init (a + 5) (wR (cR_X7_init (a + 4) (wR (wR (wR R a 0 (a + 1)) a 1 (a + 2)) a 5 (a + 3))) a 6 (a + 4))) (a + 3) 0 (a + 5))) (a + 3) 1 (a + 6))) (a + 3) 2 (a + 7))) (a + 3) 3 (a + 8))) (a + 3) 4 (a + 9))) (a + 3) 5 (a + 10)), a + 11, ad33)) hX kf_RX3_30 dX3_init_66 hka (by decide) (s := 2) rfl (show a < a + 11 by omega) rfl (v := .ref (ad33 (a + 3))) (fv_ref (by simp [wR, cR_X7_init])) ?_
  refine J_iload_n hX dX3_init_69 rfl 0 rfl ?_
  refine J_new hX dX3_init_70 kn_RX3_28 hc (kd_3_11 hka) (by decide) (nf := 15) rfl ⟨Nat.le_of_ble_eq_true rfl, Nat.le_of_ble_eq_true rfl⟩ (fun ad35 hg36 => ?_)
  replace hc := hc.N (n := a + 12) (by omega)
  refine J_re (lv2 := [(1, .int (6 : Int32)), (0, .ref (ad35 a))]) (st2 := [.ref (ad35 (a + 11)), .int (6 : Int32), .ref (ad35 (a + 3))]) (by (try rw [hg36 a (by omega)]); (try rfl)) (by (try rw [hg36 (a + 3) (by omega)]); (try rfl)) ?_
  show J X (11, 138) 73 [(1, .int (6 : Int32)), (0, .ref (ad35 a))] [.ref (ad35 (a + 11)), .int (6 : Int32), .ref (ad35 (a + 3))] ((cm_X7_init (a + 10) (cm_X7_init (a + 9) (cm_X7_init (a + 8) (cm_X7_init (a + 7) (cm_X7_init (a + 6) (cm_X7_init (a + 5) (cm_X7_init (a + 4) (wI (wI (wI m a 2 (200 : Int32)) a 3 (200 : Int32)) a 4 (0 : Int32))))))))), (wR (cR_X7_init (a + 10) (wR (cR_X7_init (a + 9) (wR (cR_X7_init (a + 8) (wR (cR_X7_init (a + 7) (wR (cR_X7_init (a + 6) (wR (cR_X7_init (a + 5) (wR (cR_X7_init (a + 4) (wR (wR (wR R a 0 (a + 1)) a 1 (a + 2)) a 5 (a + 3))) a 6 (a + 4))) (a + 3) 0 (a + 5))) (a + 3) 1 (a + 6))) (a + 3) 2 (a + 7))) (a + 3) 3 (a + 8))) (a + 3) 4 (a + 9))) (a + 3) 5 (a + 10)), a + 12, ad35)
  refine J_dup hX dX3_init_73 rfl ?_
  refine J_cIN hX (k_X7_init (a + 11) (kd_3_11 hka) (cm_X7_init (a + 10) (cm_X7_init (a + 9) (cm_X7_init (a + 8) (cm_X7_init (a + 7) (cm_X7_init (a + 6) (cm_X7_init (a + 5) (cm_X7_init (a + 4) (wI (wI (wI m a 2 (200 : Int32)) a 3 (200 : Int32)) a 4 (0 : Int32))))))))) (wR (cR_X7_init (a + 10) (wR (cR_X7_init (a + 9) (wR (cR_X7_init (a + 8) (wR (cR_X7_init (a + 7) (wR (cR_X7_init (a + 6) (wR (cR_X7_init (a + 5) (wR (cR_X7_init (a + 4) (wR (wR (wR R a 0 (a + 1)) a 1 (a + 2)) a 5 (a + 3))) a 6 (a + 4))) (a + 3) 0 (a + 5))) (a + 3) 1 (a + 6))) (a + 3) 2 (a + 7))) (a + 3) 3 (a + 8))) (a + 3) 4 (a + 9))) (a + 3) 5 (a + 10)) ad35 hc) km_X7_init rfl (mt_1 (List.mem_of_getElem? (i := 33) rfl)) kl_RX3_34 dX3_init_74 ⟨rfl, rfl⟩ ⟨Nat.le_of_ble_eq_true rfl, Nat.le_of_ble_eq_true rfl⟩ ⟨Nat.le_of_ble_eq_true rfl, Nat.le_of_ble_eq_true rfl⟩ rfl rfl (Nat.le_of_ble_eq_true rfl) (fun v w2 hk => ?_)
  obtain ⟨rfl, ad37, hg38, hc, rfl⟩ := hk
  refine J_re (lv2 := [(1, .int (6 : Int32)), (0, .ref (ad37 a))]) (st2 := [.ref (ad37 (a + 11)), .int (6 : Int32), .ref (ad37 (a + 3))]) (by (try rw [hg38 a (by omega)]); (try rfl)) (by (try rw [hg38 (a + 3) (by omega), hg38 (a + 11) (by omega)]); (try rfl)) ?_
  show J X (11, 138) 77 [(1, .int (6 : Int32)), (0, .ref (ad37 a))] [.ref (ad37 (a + 11)), .int (6 : Int32), .ref (ad37 (a + 3))] ((cm_X7_init (a + 11) (cm_X7_init (a + 10) (cm_X7_init (a + 9) (cm_X7_init (a + 8) (cm_X7_init (a + 7) (cm_X7_init (a + 6) (cm_X7_init (a + 5) (cm_X7_init (a + 4) (wI (wI (wI m a 2 (200 : Int32)) a 3 (200 : Int32)) a 4 (0 : Int32)))))))))), (cR_X7_init (a + 11) (wR (cR_X7_init (a + 10) (wR (cR_X7_init (a + 9) (wR (cR_X7_init (a + 8) (wR (cR_X7_init (a + 7) (wR (cR_X7_init (a + 6) (wR (cR_X7_init (a + 5) (wR (cR_X7_init (a + 4) (wR (wR (wR R a 0 (a + 1)) a 1 (a + 2)) a 5 (a + 3))) a 6 (a + 4))) (a + 3) 0 (a + 5))) (a + 3) 1 (a + 6))) (a + 3) 2 (a + 7))) (a + 3) 3 (a + 8))) (a + 3) 4 (a + 9))) (a + 3) 5 (a + 10))), a + 12, ad37)
  refine J_aastc (j := 6) hX dX3_init_77 (u := 0) (by decide) (kd_3_3 hka) (ld_3_3 hka) (by omega) rfl rfl (kd_3_11 hka) (by decide) ⟨_, _, rfl⟩ (by omega) (vp_lit (by decide)) (by decide) ?_
  replace hc := hc.R (a := (a + 3)) (k := 6) (b := (a + 11)) (by omega) (by omega) (by decide)
  show J X (11, 138) 78 [(1, .int (6 : Int32)), (0, .ref (ad37 a))] [] ((cm_X7_init (a + 11) (cm_X7_init (a + 10) (cm_X7_init (a + 9) (cm_X7_init (a + 8) (cm_X7_init (a + 7) (cm_X7_init (a + 6) (cm_X7_init (a + 5) (cm_X7_init (a + 4) (wI (wI (wI m a 2 (200 : Int32)) a 3 (200 : Int32)) a 4 (0 : Int32)))))))))), (wR (cR_X7_init (a + 11) (wR (cR_X7_init (a + 10) (wR (cR_X7_init (a + 9) (wR (cR_X7_init (a + 8) (wR (cR_X7_init (a + 7) (wR (cR_X7_init (a + 6) (wR (cR_X7_init (a + 5) (wR (cR_X7_init (a + 4) (wR (wR (wR R a 0 (a + 1)) a 1 (a + 2)) a 5 (a + 3))) a 6 (a + 4))) (a + 3) 0 (a + 5))) (a + 3) 1 (a + 6))) (a + 3) 2 (a + 7))) (a + 3) 3 (a + 8))) (a + 3) 4 (a + 9))) (a + 3) 5 (a + 10))) (a + 3) 6 (a + 11)), a + 12, ad37)
  refine J_iinc (x := (7 : Int32)) (lv2 := [(1, .int (7 : Int32)), (0, .ref (ad37 a))]) hX dX3_init_78 0 rfl (by decide) (Nat.le_of_ble_eq_true rfl) rfl ?_
  refine J_goto (tgt := 59) hX dX3_init_81 (by decide) ?_
  refine J_iload_n hX dX3_init_59 rfl 0 rfl ?_
  refine J_bipush (v := (10 : Int32)) hX dX3_init_60 (by decide) ?_
  refine J_icmp_ge (tgt := 84) hX dX3_init_62 (by decide) (fun c => absurd c (by decide)) (fun _ => ?_)
  refine J_aload_n hX dX3_init_65 rfl 1 rfl ?_
  refine J_getG (w := ((cm_X7_init (a + 11) (cm_X7_init (a + 10) (cm_X7_init (a + 9) (cm_X7_init (a + 8) (cm_X7_init (a + 7) (cm_X7_init (a + 6) (cm_X7_init (a + 5) (cm_X7_init (a + 4) (wI (wI (wI m a 2 (200 : Int32)) a 3 (200 : Int32)) a 4 (0 : Int32)))))))))), (wR (cR_X7_init (a + 11) (wR (cR_X7_init (a + 10) (wR (cR_X7_init (a + 9) (wR (cR_X7_init (a + 8) (wR (cR_X7_init (a + 7) (wR (cR_X7_init (a + 6) (wR (cR_X7_init (a + 5) (wR (cR_X7_init (a + 4) (wR (wR (wR R a 0 (a + 1)) a 1 (a + 2)) a 5 (a + 3))) a 6 (a + 4))) (a + 3) 0 (a + 5))) (a + 3) 1 (a + 6))) (a + 3) 2 (a + 7))) (a + 3) 3 (a + 8))) (a + 3) 4 (a + 9))) (a + 3) 5 (a + 10))) (a + 3) 6 (a + 11)), a + 12, ad37)) hX kf_RX3_30 dX3_init_66 hka (by decide) (s := 2) rfl (show a < a + 12 by omega) rfl (v := .ref (ad37 (a + 3))) (fv_ref (by simp [wR, cR_X7_init])) ?_
  refine J_iload_n hX dX3_init_69 rfl 0 rfl ?_
  refine J_new hX dX3_init_70 kn_RX3_28 hc (kd_3_12 hka) (by decide) (nf := 15) rfl ⟨Nat.le_of_ble_eq_true rfl, Nat.le_of_ble_eq_true rfl⟩ (fun ad39 hg40 => ?_)
  replace hc := hc.N (n := a + 13) (by omega)
  refine J_re (lv2 := [(1, .int (7 : Int32)), (0, .ref (ad39 a))]) (st2 := [.ref (ad39 (a + 12)), .int (7 : Int32), .ref (ad39 (a + 3))]) (by (try rw [hg40 a (by omega)]); (try rfl)) (by (try rw [hg40 (a + 3) (by omega)]); (try rfl)) ?_
  show J X (12, 153) 73 [(1, .int (7 : Int32)), (0, .ref (ad39 a))] [.ref (ad39 (a + 12)), .int (7 : Int32), .ref (ad39 (a + 3))] ((cm_X7_init (a + 11) (cm_X7_init (a + 10) (cm_X7_init (a + 9) (cm_X7_init (a + 8) (cm_X7_init (a + 7) (cm_X7_init (a + 6) (cm_X7_init (a + 5) (cm_X7_init (a + 4) (wI (wI (wI m a 2 (200 : Int32)) a 3 (200 : Int32)) a 4 (0 : Int32)))))))))), (wR (cR_X7_init (a + 11) (wR (cR_X7_init (a + 10) (wR (cR_X7_init (a + 9) (wR (cR_X7_init (a + 8) (wR (cR_X7_init (a + 7) (wR (cR_X7_init (a + 6) (wR (cR_X7_init (a + 5) (wR (cR_X7_init (a + 4) (wR (wR (wR R a 0 (a + 1)) a 1 (a + 2)) a 5 (a + 3))) a 6 (a + 4))) (a + 3) 0 (a + 5))) (a + 3) 1 (a + 6))) (a + 3) 2 (a + 7))) (a + 3) 3 (a + 8))) (a + 3) 4 (a + 9))) (a + 3) 5 (a + 10))) (a + 3) 6 (a + 11)), a + 13, ad39)
  refine J_dup hX dX3_init_73 rfl ?_
  refine J_cIN hX (k_X7_init (a + 12) (kd_3_12 hka) (cm_X7_init (a + 11) (cm_X7_init (a + 10) (cm_X7_init (a + 9) (cm_X7_init (a + 8) (cm_X7_init (a + 7) (cm_X7_init (a + 6) (cm_X7_init (a + 5) (cm_X7_init (a + 4) (wI (wI (wI m a 2 (200 : Int32)) a 3 (200 : Int32)) a 4 (0 : Int32)))))))))) (wR (cR_X7_init (a + 11) (wR (cR_X7_init (a + 10) (wR (cR_X7_init (a + 9) (wR (cR_X7_init (a + 8) (wR (cR_X7_init (a + 7) (wR (cR_X7_init (a + 6) (wR (cR_X7_init (a + 5) (wR (cR_X7_init (a + 4) (wR (wR (wR R a 0 (a + 1)) a 1 (a + 2)) a 5 (a + 3))) a 6 (a + 4))) (a + 3) 0 (a + 5))) (a + 3) 1 (a + 6))) (a + 3) 2 (a + 7))) (a + 3) 3 (a + 8))) (a + 3) 4 (a + 9))) (a + 3) 5 (a + 10))) (a + 3) 6 (a + 11)) ad39 hc) km_X7_init rfl (mt_1 (List.mem_of_getElem? (i := 33) rfl)) kl_RX3_34 dX3_init_74 ⟨rfl, rfl⟩ ⟨Nat.le_of_ble_eq_true rfl, Nat.le_of_ble_eq_true rfl⟩ ⟨Nat.le_of_ble_eq_true rfl, Nat.le_of_ble_eq_true rfl⟩ rfl rfl (Nat.le_of_ble_eq_true rfl) (fun v w2 hk => ?_)
  obtain ⟨rfl, ad41, hg42, hc, rfl⟩ := hk
  refine J_re (lv2 := [(1, .int (7 : Int32)), (0, .ref (ad41 a))]) (st2 := [.ref (ad41 (a + 12)), .int (7 : Int32), .ref (ad41 (a + 3))]) (by (try rw [hg42 a (by omega)]); (try rfl)) (by (try rw [hg42 (a + 3) (by omega), hg42 (a + 12) (by omega)]); (try rfl)) ?_
  show J X (12, 153) 77 [(1, .int (7 : Int32)), (0, .ref (ad41 a))] [.ref (ad41 (a + 12)), .int (7 : Int32), .ref (ad41 (a + 3))] ((cm_X7_init (a + 12) (cm_X7_init (a + 11) (cm_X7_init (a + 10) (cm_X7_init (a + 9) (cm_X7_init (a + 8) (cm_X7_init (a + 7) (cm_X7_init (a + 6) (cm_X7_init (a + 5) (cm_X7_init (a + 4) (wI (wI (wI m a 2 (200 : Int32)) a 3 (200 : Int32)) a 4 (0 : Int32))))))))))), (cR_X7_init (a + 12) (wR (cR_X7_init (a + 11) (wR (cR_X7_init (a + 10) (wR (cR_X7_init (a + 9) (wR (cR_X7_init (a + 8) (wR (cR_X7_init (a + 7) (wR (cR_X7_init (a + 6) (wR (cR_X7_init (a + 5) (wR (cR_X7_init (a + 4) (wR (wR (wR R a 0 (a + 1)) a 1 (a + 2)) a 5 (a + 3))) a 6 (a + 4))) (a + 3) 0 (a + 5))) (a + 3) 1 (a + 6))) (a + 3) 2 (a + 7))) (a + 3) 3 (a + 8))) (a + 3) 4 (a + 9))) (a + 3) 5 (a + 10))) (a + 3) 6 (a + 11))), a + 13, ad41)
  refine J_aastc (j := 7) hX dX3_init_77 (u := 0) (by decide) (kd_3_3 hka) (ld_3_3 hka) (by omega) rfl rfl (kd_3_12 hka) (by decide) ⟨_, _, rfl⟩ (by omega) (vp_lit (by decide)) (by decide) ?_
  replace hc := hc.R (a := (a + 3)) (k := 7) (b := (a + 12)) (by omega) (by omega) (by decide)
  show J X (12, 153) 78 [(1, .int (7 : Int32)), (0, .ref (ad41 a))] [] ((cm_X7_init (a + 12) (cm_X7_init (a + 11) (cm_X7_init (a + 10) (cm_X7_init (a + 9) (cm_X7_init (a + 8) (cm_X7_init (a + 7) (cm_X7_init (a + 6) (cm_X7_init (a + 5) (cm_X7_init (a + 4) (wI (wI (wI m a 2 (200 : Int32)) a 3 (200 : Int32)) a 4 (0 : Int32))))))))))), (wR (cR_X7_init (a + 12) (wR (cR_X7_init (a + 11) (wR (cR_X7_init (a + 10) (wR (cR_X7_init (a + 9) (wR (cR_X7_init (a + 8) (wR (cR_X7_init (a + 7) (wR (cR_X7_init (a + 6) (wR (cR_X7_init (a + 5) (wR (cR_X7_init (a + 4) (wR (wR (wR R a 0 (a + 1)) a 1 (a + 2)) a 5 (a + 3))) a 6 (a + 4))) (a + 3) 0 (a + 5))) (a + 3) 1 (a + 6))) (a + 3) 2 (a + 7))) (a + 3) 3 (a + 8))) (a + 3) 4 (a + 9))) (a + 3) 5 (a + 10))) (a + 3) 6 (a + 11))) (a + 3) 7 (a + 12)), a + 13, ad41)
  refine J_iinc (x := (8 : Int32)) (lv2 := [(1, .int (8 : Int32)), (0, .ref (ad41 a))]) hX dX3_init_78 0 rfl (by decide) (Nat.le_of_ble_eq_true rfl) rfl ?_
  refine J_goto (tgt := 59) hX dX3_init_81 (by decide) ?_
  refine J_iload_n hX dX3_init_59 rfl 0 rfl ?_
  refine J_bipush (v := (10 : Int32)) hX dX3_init_60 (by decide) ?_
  refine J_icmp_ge (tgt := 84) hX dX3_init_62 (by decide) (fun c => absurd c (by decide)) (fun _ => ?_)
  refine J_aload_n hX dX3_init_65 rfl 1 rfl ?_
  refine J_getG (w := ((cm_X7_init (a + 12) (cm_X7_init (a + 11) (cm_X7_init (a + 10) (cm_X7_init (a + 9) (cm_X7_init (a + 8) (cm_X7_init (a + 7) (cm_X7_init (a + 6) (cm_X7_init (a + 5) (cm_X7_init (a + 4) (wI (wI (wI m a 2 (200 : Int32)) a 3 (200 : Int32)) a 4 (0 : Int32))))))))))), (wR (cR_X7_init (a + 12) (wR (cR_X7_init (a + 11) (wR (cR_X7_init (a + 10) (wR (cR_X7_init (a + 9) (wR (cR_X7_init (a + 8) (wR (cR_X7_init (a + 7) (wR (cR_X7_init (a + 6) (wR (cR_X7_init (a + 5) (wR (cR_X7_init (a + 4) (wR (wR (wR R a 0 (a + 1)) a 1 (a + 2)) a 5 (a + 3))) a 6 (a + 4))) (a + 3) 0 (a + 5))) (a + 3) 1 (a + 6))) (a + 3) 2 (a + 7))) (a + 3) 3 (a + 8))) (a + 3) 4 (a + 9))) (a + 3) 5 (a + 10))) (a + 3) 6 (a + 11))) (a + 3) 7 (a + 12)), a + 13, ad41)) hX kf_RX3_30 dX3_init_66 hka (by decide) (s := 2) rfl (show a < a + 13 by omega) rfl (v := .ref (ad41 (a + 3))) (fv_ref (by simp [wR, cR_X7_init])) ?_
  refine J_iload_n hX dX3_init_69 rfl 0 rfl ?_
  refine J_new hX dX3_init_70 kn_RX3_28 hc (kd_3_13 hka) (by decide) (nf := 15) rfl ⟨Nat.le_of_ble_eq_true rfl, Nat.le_of_ble_eq_true rfl⟩ (fun ad43 hg44 => ?_)
  replace hc := hc.N (n := a + 14) (by omega)
  refine J_re (lv2 := [(1, .int (8 : Int32)), (0, .ref (ad43 a))]) (st2 := [.ref (ad43 (a + 13)), .int (8 : Int32), .ref (ad43 (a + 3))]) (by (try rw [hg44 a (by omega)]); (try rfl)) (by (try rw [hg44 (a + 3) (by omega)]); (try rfl)) ?_
  show J X (13, 168) 73 [(1, .int (8 : Int32)), (0, .ref (ad43 a))] [.ref (ad43 (a + 13)), .int (8 : Int32), .ref (ad43 (a + 3))] ((cm_X7_init (a + 12) (cm_X7_init (a + 11) (cm_X7_init (a + 10) (cm_X7_init (a + 9) (cm_X7_init (a + 8) (cm_X7_init (a + 7) (cm_X7_init (a + 6) (cm_X7_init (a + 5) (cm_X7_init (a + 4) (wI (wI (wI m a 2 (200 : Int32)) a 3 (200 : Int32)) a 4 (0 : Int32))))))))))), (wR (cR_X7_init (a + 12) (wR (cR_X7_init (a + 11) (wR (cR_X7_init (a + 10) (wR (cR_X7_init (a + 9) (wR (cR_X7_init (a + 8) (wR (cR_X7_init (a + 7) (wR (cR_X7_init (a + 6) (wR (cR_X7_init (a + 5) (wR (cR_X7_init (a + 4) (wR (wR (wR R a 0 (a + 1)) a 1 (a + 2)) a 5 (a + 3))) a 6 (a + 4))) (a + 3) 0 (a + 5))) (a + 3) 1 (a + 6))) (a + 3) 2 (a + 7))) (a + 3) 3 (a + 8))) (a + 3) 4 (a + 9))) (a + 3) 5 (a + 10))) (a + 3) 6 (a + 11))) (a + 3) 7 (a + 12)), a + 14, ad43)
  refine J_dup hX dX3_init_73 rfl ?_
  refine J_cIN hX (k_X7_init (a + 13) (kd_3_13 hka) (cm_X7_init (a + 12) (cm_X7_init (a + 11) (cm_X7_init (a + 10) (cm_X7_init (a + 9) (cm_X7_init (a + 8) (cm_X7_init (a + 7) (cm_X7_init (a + 6) (cm_X7_init (a + 5) (cm_X7_init (a + 4) (wI (wI (wI m a 2 (200 : Int32)) a 3 (200 : Int32)) a 4 (0 : Int32))))))))))) (wR (cR_X7_init (a + 12) (wR (cR_X7_init (a + 11) (wR (cR_X7_init (a + 10) (wR (cR_X7_init (a + 9) (wR (cR_X7_init (a + 8) (wR (cR_X7_init (a + 7) (wR (cR_X7_init (a + 6) (wR (cR_X7_init (a + 5) (wR (cR_X7_init (a + 4) (wR (wR (wR R a 0 (a + 1)) a 1 (a + 2)) a 5 (a + 3))) a 6 (a + 4))) (a + 3) 0 (a + 5))) (a + 3) 1 (a + 6))) (a + 3) 2 (a + 7))) (a + 3) 3 (a + 8))) (a + 3) 4 (a + 9))) (a + 3) 5 (a + 10))) (a + 3) 6 (a + 11))) (a + 3) 7 (a + 12)) ad43 hc) km_X7_init rfl (mt_1 (List.mem_of_getElem? (i := 33) rfl)) kl_RX3_34 dX3_init_74 ⟨rfl, rfl⟩ ⟨Nat.le_of_ble_eq_true rfl, Nat.le_of_ble_eq_true rfl⟩ ⟨Nat.le_of_ble_eq_true rfl, Nat.le_of_ble_eq_true rfl⟩ rfl rfl (Nat.le_of_ble_eq_true rfl) (fun v w2 hk => ?_)
  obtain ⟨rfl, ad45, hg46, hc, rfl⟩ := hk
  refine J_re (lv2 := [(1, .int (8 : Int32)), (0, .ref (ad45 a))]) (st2 := [.ref (ad45 (a + 13)), .int (8 : Int32), .ref (ad45 (a + 3))]) (by (try rw [hg46 a (by omega)]); (try rfl)) (by (try rw [hg46 (a + 3) (by omega), hg46 (a + 13) (by omega)]); (try rfl)) ?_
  show J X (13, 168) 77 [(1, .int (8 : Int32)), (0, .ref (ad45 a))] [.ref (ad45 (a + 13)), .int (8 : Int32), .ref (ad45 (a + 3))] ((cm_X7_init (a + 13) (cm_X7_init (a + 12) (cm_X7_init (a + 11) (cm_X7_init (a + 10) (cm_X7_init (a + 9) (cm_X7_init (a + 8) (cm_X7_init (a + 7) (cm_X7_init (a + 6) (cm_X7_init (a + 5) (cm_X7_init (a + 4) (wI (wI (wI m a 2 (200 : Int32)) a 3 (200 : Int32)) a 4 (0 : Int32)))))))))))), (cR_X7_init (a + 13) (wR (cR_X7_init (a + 12) (wR (cR_X7_init (a + 11) (wR (cR_X7_init (a + 10) (wR (cR_X7_init (a + 9) (wR (cR_X7_init (a + 8) (wR (cR_X7_init (a + 7) (wR (cR_X7_init (a + 6) (wR (cR_X7_init (a + 5) (wR (cR_X7_init (a + 4) (wR (wR (wR R a 0 (a + 1)) a 1 (a + 2)) a 5 (a + 3))) a 6 (a + 4))) (a + 3) 0 (a + 5))) (a + 3) 1 (a + 6))) (a + 3) 2 (a + 7))) (a + 3) 3 (a + 8))) (a + 3) 4 (a + 9))) (a + 3) 5 (a + 10))) (a + 3) 6 (a + 11))) (a + 3) 7 (a + 12))), a + 14, ad45)
  refine J_aastc (j := 8) hX dX3_init_77 (u := 0) (by decide) (kd_3_3 hka) (ld_3_3 hka) (by omega) rfl rfl (kd_3_13 hka) (by decide) ⟨_, _, rfl⟩ (by omega) (vp_lit (by decide)) (by decide) ?_
  replace hc := hc.R (a := (a + 3)) (k := 8) (b := (a + 13)) (by omega) (by omega) (by decide)
  show J X (13, 168) 78 [(1, .int (8 : Int32)), (0, .ref (ad45 a))] [] ((cm_X7_init (a + 13) (cm_X7_init (a + 12) (cm_X7_init (a + 11) (cm_X7_init (a + 10) (cm_X7_init (a + 9) (cm_X7_init (a + 8) (cm_X7_init (a + 7) (cm_X7_init (a + 6) (cm_X7_init (a + 5) (cm_X7_init (a + 4) (wI (wI (wI m a 2 (200 : Int32)) a 3 (200 : Int32)) a 4 (0 : Int32)))))))))))), (wR (cR_X7_init (a + 13) (wR (cR_X7_init (a + 12) (wR (cR_X7_init (a + 11) (wR (cR_X7_init (a + 10) (wR (cR_X7_init (a + 9) (wR (cR_X7_init (a + 8) (wR (cR_X7_init (a + 7) (wR (cR_X7_init (a + 6) (wR (cR_X7_init (a + 5) (wR (cR_X7_init (a + 4) (wR (wR (wR R a 0 (a + 1)) a 1 (a + 2)) a 5 (a + 3))) a 6 (a + 4))) (a + 3) 0 (a + 5))) (a + 3) 1 (a + 6))) (a + 3) 2 (a + 7))) (a + 3) 3 (a + 8))) (a + 3) 4 (a + 9))) (a + 3) 5 (a + 10))) (a + 3) 6 (a + 11))) (a + 3) 7 (a + 12))) (a + 3) 8 (a + 13)), a + 14, ad45)
  refine J_iinc (x := (9 : Int32)) (lv2 := [(1, .int (9 : Int32)), (0, .ref (ad45 a))]) hX dX3_init_78 0 rfl (by decide) (Nat.le_of_ble_eq_true rfl) rfl ?_
  refine J_goto (tgt := 59) hX dX3_init_81 (by decide) ?_
  refine J_iload_n hX dX3_init_59 rfl 0 rfl ?_
  refine J_bipush (v := (10 : Int32)) hX dX3_init_60 (by decide) ?_
  refine J_icmp_ge (tgt := 84) hX dX3_init_62 (by decide) (fun c => absurd c (by decide)) (fun _ => ?_)
  refine J_aload_n hX dX3_init_65 rfl 1 rfl ?_
  refine J_getG (w := ((cm_X7_init (a + 13) (cm_X7_init (a + 12) (cm_X7_init (a + 11) (cm_X7_init (a + 10) (cm_X7_init (a + 9) (cm_X7_init (a + 8) (cm_X7_init (a + 7) (cm_X7_init (a + 6) (cm_X7_init (a + 5) (cm_X7_init (a + 4) (wI (wI (wI m a 2 (200 : Int32)) a 3 (200 : Int32)) a 4 (0 : Int32)))))))))))), (wR (cR_X7_init (a + 13) (wR (cR_X7_init (a + 12) (wR (cR_X7_init (a + 11) (wR (cR_X7_init (a + 10) (wR (cR_X7_init (a + 9) (wR (cR_X7_init (a + 8) (wR (cR_X7_init (a + 7) (wR (cR_X7_init (a + 6) (wR (cR_X7_init (a + 5) (wR (cR_X7_init (a + 4) (wR (wR (wR R a 0 (a + 1)) a 1 (a + 2)) a 5 (a + 3))) a 6 (a + 4))) (a + 3) 0 (a + 5))) (a + 3) 1 (a + 6))) (a + 3) 2 (a + 7))) (a + 3) 3 (a + 8))) (a + 3) 4 (a + 9))) (a + 3) 5 (a + 10))) (a + 3) 6 (a + 11))) (a + 3) 7 (a + 12))) (a + 3) 8 (a + 13)), a + 14, ad45)) hX kf_RX3_30 dX3_init_66 hka (by decide) (s := 2) rfl (show a < a + 14 by omega) rfl (v := .ref (ad45 (a + 3))) (fv_ref (by simp [wR, cR_X7_init])) ?_
  refine J_iload_n hX dX3_init_69 rfl 0 rfl ?_
  refine J_new hX dX3_init_70 kn_RX3_28 hc (kd_3_14 hka) (by decide) (nf := 15) rfl ⟨Nat.le_of_ble_eq_true rfl, Nat.le_of_ble_eq_true rfl⟩ (fun ad47 hg48 => ?_)
  replace hc := hc.N (n := a + 15) (by omega)
  refine J_re (lv2 := [(1, .int (9 : Int32)), (0, .ref (ad47 a))]) (st2 := [.ref (ad47 (a + 14)), .int (9 : Int32), .ref (ad47 (a + 3))]) (by (try rw [hg48 a (by omega)]); (try rfl)) (by (try rw [hg48 (a + 3) (by omega)]); (try rfl)) ?_
  show J X (14, 183) 73 [(1, .int (9 : Int32)), (0, .ref (ad47 a))] [.ref (ad47 (a + 14)), .int (9 : Int32), .ref (ad47 (a + 3))] ((cm_X7_init (a + 13) (cm_X7_init (a + 12) (cm_X7_init (a + 11) (cm_X7_init (a + 10) (cm_X7_init (a + 9) (cm_X7_init (a + 8) (cm_X7_init (a + 7) (cm_X7_init (a + 6) (cm_X7_init (a + 5) (cm_X7_init (a + 4) (wI (wI (wI m a 2 (200 : Int32)) a 3 (200 : Int32)) a 4 (0 : Int32)))))))))))), (wR (cR_X7_init (a + 13) (wR (cR_X7_init (a + 12) (wR (cR_X7_init (a + 11) (wR (cR_X7_init (a + 10) (wR (cR_X7_init (a + 9) (wR (cR_X7_init (a + 8) (wR (cR_X7_init (a + 7) (wR (cR_X7_init (a + 6) (wR (cR_X7_init (a + 5) (wR (cR_X7_init (a + 4) (wR (wR (wR R a 0 (a + 1)) a 1 (a + 2)) a 5 (a + 3))) a 6 (a + 4))) (a + 3) 0 (a + 5))) (a + 3) 1 (a + 6))) (a + 3) 2 (a + 7))) (a + 3) 3 (a + 8))) (a + 3) 4 (a + 9))) (a + 3) 5 (a + 10))) (a + 3) 6 (a + 11))) (a + 3) 7 (a + 12))) (a + 3) 8 (a + 13)), a + 15, ad47)
  refine J_dup hX dX3_init_73 rfl ?_
  refine J_cIN hX (k_X7_init (a + 14) (kd_3_14 hka) (cm_X7_init (a + 13) (cm_X7_init (a + 12) (cm_X7_init (a + 11) (cm_X7_init (a + 10) (cm_X7_init (a + 9) (cm_X7_init (a + 8) (cm_X7_init (a + 7) (cm_X7_init (a + 6) (cm_X7_init (a + 5) (cm_X7_init (a + 4) (wI (wI (wI m a 2 (200 : Int32)) a 3 (200 : Int32)) a 4 (0 : Int32)))))))))))) (wR (cR_X7_init (a + 13) (wR (cR_X7_init (a + 12) (wR (cR_X7_init (a + 11) (wR (cR_X7_init (a + 10) (wR (cR_X7_init (a + 9) (wR (cR_X7_init (a + 8) (wR (cR_X7_init (a + 7) (wR (cR_X7_init (a + 6) (wR (cR_X7_init (a + 5) (wR (cR_X7_init (a + 4) (wR (wR (wR R a 0 (a + 1)) a 1 (a + 2)) a 5 (a + 3))) a 6 (a + 4))) (a + 3) 0 (a + 5))) (a + 3) 1 (a + 6))) (a + 3) 2 (a + 7))) (a + 3) 3 (a + 8))) (a + 3) 4 (a + 9))) (a + 3) 5 (a + 10))) (a + 3) 6 (a + 11))) (a + 3) 7 (a + 12))) (a + 3) 8 (a + 13)) ad47 hc) km_X7_init rfl (mt_1 (List.mem_of_getElem? (i := 33) rfl)) kl_RX3_34 dX3_init_74 ⟨rfl, rfl⟩ ⟨Nat.le_of_ble_eq_true rfl, Nat.le_of_ble_eq_true rfl⟩ ⟨Nat.le_of_ble_eq_true rfl, Nat.le_of_ble_eq_true rfl⟩ rfl rfl (Nat.le_of_ble_eq_true rfl) (fun v w2 hk => ?_)
  obtain ⟨rfl, ad49, hg50, hc, rfl⟩ := hk
  refine J_re (lv2 := [(1, .int (9 : Int32)), (0, .ref (ad49 a))]) (st2 := [.ref (ad49 (a + 14)), .int (9 : Int32), .ref (ad49 (a + 3))]) (by (try rw [hg50 a (by omega)]); (try rfl)) (by (try rw [hg50 (a + 3) (by omega), hg50 (a + 14) (by omega)]); (try rfl)) ?_
  show J X (14, 183) 77 [(1, .int (9 : Int32)), (0, .ref (ad49 a))] [.ref (ad49 (a + 14)), .int (9 : Int32), .ref (ad49 (a + 3))] ((cm_X7_init (a + 14) (cm_X7_init (a + 13) (cm_X7_init (a + 12) (cm_X7_init (a + 11) (cm_X7_init (a + 10) (cm_X7_init (a + 9) (cm_X7_init (a + 8) (cm_X7_init (a + 7) (cm_X7_init (a + 6) (cm_X7_init (a + 5) (cm_X7_init (a + 4) (wI (wI (wI m a 2 (200 : Int32)) a 3 (200 : Int32)) a 4 (0 : Int32))))))))))))), (cR_X7_init (a + 14) (wR (cR_X7_init (a + 13) (wR (cR_X7_init (a + 12) (wR (cR_X7_init (a + 11) (wR (cR_X7_init (a + 10) (wR (cR_X7_init (a + 9) (wR (cR_X7_init (a + 8) (wR (cR_X7_init (a + 7) (wR (cR_X7_init (a + 6) (wR (cR_X7_init (a + 5) (wR (cR_X7_init (a + 4) (wR (wR (wR R a 0 (a + 1)) a 1 (a + 2)) a 5 (a + 3))) a 6 (a + 4))) (a + 3) 0 (a + 5))) (a + 3) 1 (a + 6))) (a + 3) 2 (a + 7))) (a + 3) 3 (a + 8))) (a + 3) 4 (a + 9))) (a + 3) 5 (a + 10))) (a + 3) 6 (a + 11))) (a + 3) 7 (a + 12))) (a + 3) 8 (a + 13))), a + 15, ad49)
  refine J_aastc (j := 9) hX dX3_init_77 (u := 0) (by decide) (kd_3_3 hka) (ld_3_3 hka) (by omega) rfl rfl (kd_3_14 hka) (by decide) ⟨_, _, rfl⟩ (by omega) (vp_lit (by decide)) (by decide) ?_
  replace hc := hc.R (a := (a + 3)) (k := 9) (b := (a + 14)) (by omega) (by omega) (by decide)
  show J X (14, 183) 78 [(1, .int (9 : Int32)), (0, .ref (ad49 a))] [] ((cm_X7_init (a + 14) (cm_X7_init (a + 13) (cm_X7_init (a + 12) (cm_X7_init (a + 11) (cm_X7_init (a + 10) (cm_X7_init (a + 9) (cm_X7_init (a + 8) (cm_X7_init (a + 7) (cm_X7_init (a + 6) (cm_X7_init (a + 5) (cm_X7_init (a + 4) (wI (wI (wI m a 2 (200 : Int32)) a 3 (200 : Int32)) a 4 (0 : Int32))))))))))))), (wR (cR_X7_init (a + 14) (wR (cR_X7_init (a + 13) (wR (cR_X7_init (a + 12) (wR (cR_X7_init (a + 11) (wR (cR_X7_init (a + 10) (wR (cR_X7_init (a + 9) (wR (cR_X7_init (a + 8) (wR (cR_X7_init (a + 7) (wR (cR_X7_init (a + 6) (wR (cR_X7_init (a + 5) (wR (cR_X7_init (a + 4) (wR (wR (wR R a 0 (a + 1)) a 1 (a + 2)) a 5 (a + 3))) a 6 (a + 4))) (a + 3) 0 (a + 5))) (a + 3) 1 (a + 6))) (a + 3) 2 (a + 7))) (a + 3) 3 (a + 8))) (a + 3) 4 (a + 9))) (a + 3) 5 (a + 10))) (a + 3) 6 (a + 11))) (a + 3) 7 (a + 12))) (a + 3) 8 (a + 13))) (a + 3) 9 (a + 14)), a + 15, ad49)
  refine J_iinc (x := (10 : Int32)) (lv2 := [(1, .int (10 : Int32)), (0, .ref (ad49 a))]) hX dX3_init_78 0 rfl (by decide) (Nat.le_of_ble_eq_true rfl) rfl ?_
  refine J_goto (tgt := 59) hX dX3_init_81 (by decide) ?_
  refine J_iload_n hX dX3_init_59 rfl 0 rfl ?_
  refine J_bipush (v := (10 : Int32)) hX dX3_init_60 (by decide) ?_
  refine J_icmp_ge (tgt := 84) hX dX3_init_62 (by decide) (fun _ => ?_) (fun c => absurd (by decide) c)
  exact J_vret hX hR dX3_init_84 ⟨rfl, ad49, fun b hb => (hg50 b (by omega)).trans ((hg48 b (by omega)).trans ((hg46 b (by omega)).trans ((hg44 b (by omega)).trans ((hg42 b (by omega)).trans ((hg40 b (by omega)).trans ((hg38 b (by omega)).trans ((hg36 b (by omega)).trans ((hg34 b (by omega)).trans ((hg32 b (by omega)).trans ((hg30 b (by omega)).trans ((hg28 b (by omega)).trans ((hg26 b (by omega)).trans ((hg24 b (by omega)).trans ((hg22 b (by omega)).trans ((hg20 b (by omega)).trans ((hg18 b (by omega)).trans ((hg16 b (by omega)).trans ((hg14 b (by omega)).trans ((hg12 b (by omega)).trans ((hg10 b (by omega)).trans ((hg8 b (by omega)).trans ((hg6 b (by omega)).trans ((hg4 b (by omega)).trans ((hg2 b (by omega)).trans rfl)))))))))))))))))))))))), hc, rfl⟩
def cm_X8_init (a : Nat) (m : Mm) : Mm := m
def cR_X8_init (a : Nat) (R : Nat → Nat → Option Nat) : Nat → Nat → Option Nat := (wR (wR (wR (wR (wR (wR (wR (wR (wR R a 1 (a + 1)) a 2 (a + 2)) a 3 (a + 3)) a 4 (a + 4)) a 5 (a + 5)) a 6 (a + 6)) a 7 (a + 7)) a 12 (a + 8)) a 13 (a + 9))
set_option maxRecDepth 100000 in
set_option maxHeartbeats 4000000 in
theorem k_X8_init {G : GT} (a : Nat) (hka : kap a = 8) (m : Mm) (R : Nat → Nat → Option Nat) (ad : Nat → Nat) (hc : cw (m, R, a + 1)) : Cn G yX8_init cX8_init 1 none { frames := 1, cells := 9, slots := 33, locals := 12 } [.ref (ad a)] (9, 33) (m, R, a + 1, ad) (fun v w => v = none ∧ ∃ ad2 : Nat → Nat, (∀ b, b < a + 1 → ad2 b = ad b) ∧ cw (cm_X8_init a m, cR_X8_init a R, a + 10) ∧ w = (cm_X8_init a m, cR_X8_init a R, a + 10, ad2)) := by
  refine Cn.ofI pn_RX8 (Nat.le_of_ble_eq_true rfl) (fun X hG hX hR hin => ?_)
  subst hG
  have hX : Cx X cX8_init 1 RX8 { frames := 1, cells := 9, slots := 33, locals := 12 } := hX
  have hin : (xh X).name = "<init>" := hin
  show J X (0, 0) 0 [(0, .ref (ad a))] [] (m, R, a + 1, ad)
  refine J_aload_n hX dX8_init_0 rfl 0 rfl ?_
  refine J_objI hX kl_RX8_1 oi_inst oi_code dX8_init_1 (Nat.le_of_ble_eq_true rfl) (Nat.le_of_ble_eq_true rfl) ?_
  refine J_aload_n hX dX8_init_4 rfl 0 rfl ?_
  refine J_iconst (v := (3 : Int32)) hX dX8_init_5 (by decide) ?_
  refine J_newaI hX dX8_init_6 hc (kd_8_1 hka) (ld_8_1 hka) (by decide) (by decide) (Nat.le_of_ble_eq_true rfl) ⟨Nat.le_of_ble_eq_true rfl, Nat.le_of_ble_eq_true rfl⟩ (fun ad1 hg2 => ?_)
  replace hc := hc.N (n := a + 2) (by omega)
  refine J_re (lv2 := [(0, .ref (ad1 a))]) (st2 := [.ref (ad1 (a + 1)), .ref (ad1 a)]) (by (try rw [hg2 a (by omega)]); (try rfl)) (by (try rw [hg2 a (by omega)]); (try rfl)) ?_
  show J X (1, 3) 8 [(0, .ref (ad1 a))] [.ref (ad1 (a + 1)), .ref (ad1 a)] (m, R, a + 2, ad1)
  refine J_putRF hX hin kf_RX8_7 ⟨_, _, rfl⟩ dX8_init_8 hka (by decide) rfl (by omega) rfl rfl rfl rfl ?_
  replace hc := hc.R (a := a) (k := 1) (b := (a + 1)) (by omega) (by omega) (by decide)
  show J X (1, 3) 11 [(0, .ref (ad1 a))] [] (m, (wR R a 1 (a + 1)), a + 2, ad1)
  refine J_aload_n hX dX8_init_11 rfl 0 rfl ?_
  refine J_iconst (v := (3 : Int32)) hX dX8_init_12 (by decide) ?_
  refine J_newaI hX dX8_init_13 hc (kd_8_2 hka) (ld_8_2 hka) (by decide) (by decide) (Nat.le_of_ble_eq_true rfl) ⟨Nat.le_of_ble_eq_true rfl, Nat.le_of_ble_eq_true rfl⟩ (fun ad3 hg4 => ?_)
  replace hc := hc.N (n := a + 3) (by omega)
  refine J_re (lv2 := [(0, .ref (ad3 a))]) (st2 := [.ref (ad3 (a + 2)), .ref (ad3 a)]) (by (try rw [hg4 a (by omega)]); (try rfl)) (by (try rw [hg4 a (by omega)]); (try rfl)) ?_
  show J X (2, 6) 15 [(0, .ref (ad3 a))] [.ref (ad3 (a + 2)), .ref (ad3 a)] (m, (wR R a 1 (a + 1)), a + 3, ad3)
  refine J_putRF hX hin kf_RX8_13 ⟨_, _, rfl⟩ dX8_init_15 hka (by decide) rfl (by omega) rfl rfl rfl rfl ?_
  replace hc := hc.R (a := a) (k := 2) (b := (a + 2)) (by omega) (by omega) (by decide)
  show J X (2, 6) 18 [(0, .ref (ad3 a))] [] (m, (wR (wR R a 1 (a + 1)) a 2 (a + 2)), a + 3, ad3)
  refine J_aload_n hX dX8_init_18 rfl 0 rfl ?_
  refine J_iconst (v := (4 : Int32)) hX dX8_init_19 (by decide) ?_
  refine J_newaI hX dX8_init_20 hc (kd_8_3 hka) (ld_8_3 hka) (by decide) (by decide) (Nat.le_of_ble_eq_true rfl) ⟨Nat.le_of_ble_eq_true rfl, Nat.le_of_ble_eq_true rfl⟩ (fun ad5 hg6 => ?_)
  replace hc := hc.N (n := a + 4) (by omega)
  refine J_re (lv2 := [(0, .ref (ad5 a))]) (st2 := [.ref (ad5 (a + 3)), .ref (ad5 a)]) (by (try rw [hg6 a (by omega)]); (try rfl)) (by (try rw [hg6 a (by omega)]); (try rfl)) ?_
  show J X (3, 10) 22 [(0, .ref (ad5 a))] [.ref (ad5 (a + 3)), .ref (ad5 a)] (m, (wR (wR R a 1 (a + 1)) a 2 (a + 2)), a + 4, ad5)
  refine J_putRF hX hin kf_RX8_16 ⟨_, _, rfl⟩ dX8_init_22 hka (by decide) rfl (by omega) rfl rfl rfl rfl ?_
  replace hc := hc.R (a := a) (k := 3) (b := (a + 3)) (by omega) (by omega) (by decide)
  show J X (3, 10) 25 [(0, .ref (ad5 a))] [] (m, (wR (wR (wR R a 1 (a + 1)) a 2 (a + 2)) a 3 (a + 3)), a + 4, ad5)
  refine J_aload_n hX dX8_init_25 rfl 0 rfl ?_
  refine J_iconst (v := (4 : Int32)) hX dX8_init_26 (by decide) ?_
  refine J_newaI hX dX8_init_27 hc (kd_8_4 hka) (ld_8_4 hka) (by decide) (by decide) (Nat.le_of_ble_eq_true rfl) ⟨Nat.le_of_ble_eq_true rfl, Nat.le_of_ble_eq_true rfl⟩ (fun ad7 hg8 => ?_)
  replace hc := hc.N (n := a + 5) (by omega)
  refine J_re (lv2 := [(0, .ref (ad7 a))]) (st2 := [.ref (ad7 (a + 4)), .ref (ad7 a)]) (by (try rw [hg8 a (by omega)]); (try rfl)) (by (try rw [hg8 a (by omega)]); (try rfl)) ?_
  show J X (4, 14) 29 [(0, .ref (ad7 a))] [.ref (ad7 (a + 4)), .ref (ad7 a)] (m, (wR (wR (wR R a 1 (a + 1)) a 2 (a + 2)) a 3 (a + 3)), a + 5, ad7)
  refine J_putRF hX hin kf_RX8_19 ⟨_, _, rfl⟩ dX8_init_29 hka (by decide) rfl (by omega) rfl rfl rfl rfl ?_
  replace hc := hc.R (a := a) (k := 4) (b := (a + 4)) (by omega) (by omega) (by decide)
  show J X (4, 14) 32 [(0, .ref (ad7 a))] [] (m, (wR (wR (wR (wR R a 1 (a + 1)) a 2 (a + 2)) a 3 (a + 3)) a 4 (a + 4)), a + 5, ad7)
  refine J_aload_n hX dX8_init_32 rfl 0 rfl ?_
  refine J_iconst (v := (4 : Int32)) hX dX8_init_33 (by decide) ?_
  refine J_newaI hX dX8_init_34 hc (kd_8_5 hka) (ld_8_5 hka) (by decide) (by decide) (Nat.le_of_ble_eq_true rfl) ⟨Nat.le_of_ble_eq_true rfl, Nat.le_of_ble_eq_true rfl⟩ (fun ad9 hg10 => ?_)
  replace hc := hc.N (n := a + 6) (by omega)
  refine J_re (lv2 := [(0, .ref (ad9 a))]) (st2 := [.ref (ad9 (a + 5)), .ref (ad9 a)]) (by (try rw [hg10 a (by omega)]); (try rfl)) (by (try rw [hg10 a (by omega)]); (try rfl)) ?_
  show J X (5, 18) 36 [(0, .ref (ad9 a))] [.ref (ad9 (a + 5)), .ref (ad9 a)] (m, (wR (wR (wR (wR R a 1 (a + 1)) a 2 (a + 2)) a 3 (a + 3)) a 4 (a + 4)), a + 6, ad9)
  refine J_putRF hX hin kf_RX8_22 ⟨_, _, rfl⟩ dX8_init_36 hka (by decide) rfl (by omega) rfl rfl rfl rfl ?_
  replace hc := hc.R (a := a) (k := 5) (b := (a + 5)) (by omega) (by omega) (by decide)
  show J X (5, 18) 39 [(0, .ref (ad9 a))] [] (m, (wR (wR (wR (wR (wR R a 1 (a + 1)) a 2 (a + 2)) a 3 (a + 3)) a 4 (a + 4)) a 5 (a + 5)), a + 6, ad9)
  refine J_aload_n hX dX8_init_39 rfl 0 rfl ?_
  refine J_iconst (v := (4 : Int32)) hX dX8_init_40 (by decide) ?_
  refine J_newaI hX dX8_init_41 hc (kd_8_6 hka) (ld_8_6 hka) (by decide) (by decide) (Nat.le_of_ble_eq_true rfl) ⟨Nat.le_of_ble_eq_true rfl, Nat.le_of_ble_eq_true rfl⟩ (fun ad11 hg12 => ?_)
  replace hc := hc.N (n := a + 7) (by omega)
  refine J_re (lv2 := [(0, .ref (ad11 a))]) (st2 := [.ref (ad11 (a + 6)), .ref (ad11 a)]) (by (try rw [hg12 a (by omega)]); (try rfl)) (by (try rw [hg12 a (by omega)]); (try rfl)) ?_
  show J X (6, 22) 43 [(0, .ref (ad11 a))] [.ref (ad11 (a + 6)), .ref (ad11 a)] (m, (wR (wR (wR (wR (wR R a 1 (a + 1)) a 2 (a + 2)) a 3 (a + 3)) a 4 (a + 4)) a 5 (a + 5)), a + 7, ad11)
  refine J_putRF hX hin kf_RX8_25 ⟨_, _, rfl⟩ dX8_init_43 hka (by decide) rfl (by omega) rfl rfl rfl rfl ?_
  replace hc := hc.R (a := a) (k := 6) (b := (a + 6)) (by omega) (by omega) (by decide)
  show J X (6, 22) 46 [(0, .ref (ad11 a))] [] (m, (wR (wR (wR (wR (wR (wR R a 1 (a + 1)) a 2 (a + 2)) a 3 (a + 3)) a 4 (a + 4)) a 5 (a + 5)) a 6 (a + 6)), a + 7, ad11)
  refine J_aload_n hX dX8_init_46 rfl 0 rfl ?_
  refine J_iconst (v := (4 : Int32)) hX dX8_init_47 (by decide) ?_
  refine J_newaI hX dX8_init_48 hc (kd_8_7 hka) (ld_8_7 hka) (by decide) (by decide) (Nat.le_of_ble_eq_true rfl) ⟨Nat.le_of_ble_eq_true rfl, Nat.le_of_ble_eq_true rfl⟩ (fun ad13 hg14 => ?_)
  replace hc := hc.N (n := a + 8) (by omega)
  refine J_re (lv2 := [(0, .ref (ad13 a))]) (st2 := [.ref (ad13 (a + 7)), .ref (ad13 a)]) (by (try rw [hg14 a (by omega)]); (try rfl)) (by (try rw [hg14 a (by omega)]); (try rfl)) ?_
  show J X (7, 26) 50 [(0, .ref (ad13 a))] [.ref (ad13 (a + 7)), .ref (ad13 a)] (m, (wR (wR (wR (wR (wR (wR R a 1 (a + 1)) a 2 (a + 2)) a 3 (a + 3)) a 4 (a + 4)) a 5 (a + 5)) a 6 (a + 6)), a + 8, ad13)
  refine J_putRF hX hin kf_RX8_28 ⟨_, _, rfl⟩ dX8_init_50 hka (by decide) rfl (by omega) rfl rfl rfl rfl ?_
  replace hc := hc.R (a := a) (k := 7) (b := (a + 7)) (by omega) (by omega) (by decide)
  show J X (7, 26) 53 [(0, .ref (ad13 a))] [] (m, (wR (wR (wR (wR (wR (wR (wR R a 1 (a + 1)) a 2 (a + 2)) a 3 (a + 3)) a 4 (a + 4)) a 5 (a + 5)) a 6 (a + 6)) a 7 (a + 7)), a + 8, ad13)
  refine J_aload_n hX dX8_init_53 rfl 0 rfl ?_
  refine J_iconst (v := (3 : Int32)) hX dX8_init_54 (by decide) ?_
  refine J_newaI hX dX8_init_55 hc (kd_8_8 hka) (ld_8_8 hka) (by decide) (by decide) (Nat.le_of_ble_eq_true rfl) ⟨Nat.le_of_ble_eq_true rfl, Nat.le_of_ble_eq_true rfl⟩ (fun ad15 hg16 => ?_)
  replace hc := hc.N (n := a + 9) (by omega)
  refine J_re (lv2 := [(0, .ref (ad15 a))]) (st2 := [.ref (ad15 (a + 8)), .ref (ad15 a)]) (by (try rw [hg16 a (by omega)]); (try rfl)) (by (try rw [hg16 a (by omega)]); (try rfl)) ?_
  show J X (8, 29) 57 [(0, .ref (ad15 a))] [.ref (ad15 (a + 8)), .ref (ad15 a)] (m, (wR (wR (wR (wR (wR (wR (wR R a 1 (a + 1)) a 2 (a + 2)) a 3 (a + 3)) a 4 (a + 4)) a 5 (a + 5)) a 6 (a + 6)) a 7 (a + 7)), a + 9, ad15)
  refine J_putRF hX hin kf_RX8_31 ⟨_, _, rfl⟩ dX8_init_57 hka (by decide) rfl (by omega) rfl rfl rfl rfl ?_
  replace hc := hc.R (a := a) (k := 12) (b := (a + 8)) (by omega) (by omega) (by decide)
  show J X (8, 29) 60 [(0, .ref (ad15 a))] [] (m, (wR (wR (wR (wR (wR (wR (wR (wR R a 1 (a + 1)) a 2 (a + 2)) a 3 (a + 3)) a 4 (a + 4)) a 5 (a + 5)) a 6 (a + 6)) a 7 (a + 7)) a 12 (a + 8)), a + 9, ad15)
  refine J_aload_n hX dX8_init_60 rfl 0 rfl ?_
  refine J_iconst (v := (4 : Int32)) hX dX8_init_61 (by decide) ?_
  refine J_newaI hX dX8_init_62 hc (kd_8_9 hka) (ld_8_9 hka) (by decide) (by decide) (Nat.le_of_ble_eq_true rfl) ⟨Nat.le_of_ble_eq_true rfl, Nat.le_of_ble_eq_true rfl⟩ (fun ad17 hg18 => ?_)
  replace hc := hc.N (n := a + 10) (by omega)
  refine J_re (lv2 := [(0, .ref (ad17 a))]) (st2 := [.ref (ad17 (a + 9)), .ref (ad17 a)]) (by (try rw [hg18 a (by omega)]); (try rfl)) (by (try rw [hg18 a (by omega)]); (try rfl)) ?_
  show J X (9, 33) 64 [(0, .ref (ad17 a))] [.ref (ad17 (a + 9)), .ref (ad17 a)] (m, (wR (wR (wR (wR (wR (wR (wR (wR R a 1 (a + 1)) a 2 (a + 2)) a 3 (a + 3)) a 4 (a + 4)) a 5 (a + 5)) a 6 (a + 6)) a 7 (a + 7)) a 12 (a + 8)), a + 10, ad17)
  refine J_putRF hX hin kf_RX8_34 ⟨_, _, rfl⟩ dX8_init_64 hka (by decide) rfl (by omega) rfl rfl rfl rfl ?_
  replace hc := hc.R (a := a) (k := 13) (b := (a + 9)) (by omega) (by omega) (by decide)
  show J X (9, 33) 67 [(0, .ref (ad17 a))] [] (m, (wR (wR (wR (wR (wR (wR (wR (wR (wR R a 1 (a + 1)) a 2 (a + 2)) a 3 (a + 3)) a 4 (a + 4)) a 5 (a + 5)) a 6 (a + 6)) a 7 (a + 7)) a 12 (a + 8)) a 13 (a + 9)), a + 10, ad17)
  exact J_vret hX hR dX8_init_67 ⟨rfl, ad17, fun b hb => (hg18 b (by omega)).trans ((hg16 b (by omega)).trans ((hg14 b (by omega)).trans ((hg12 b (by omega)).trans ((hg10 b (by omega)).trans ((hg8 b (by omega)).trans ((hg6 b (by omega)).trans ((hg4 b (by omega)).trans ((hg2 b (by omega)).trans rfl)))))))), hc, rfl⟩
def cm_X2_init (a : Nat) (m : Mm) : Mm := (wI m a 0 (0 : Int32))
def cR_X2_init (a : Nat) (R : Nat → Nat → Option Nat) : Nat → Nat → Option Nat := (wR (wR R a 1 (a + 1)) a 2 (a + 2))
set_option maxRecDepth 100000 in
set_option maxHeartbeats 4000000 in
theorem k_X2_init {G : GT} (a : Nat) (hka : kap a = 2) (m : Mm) (R : Nat → Nat → Option Nat) (ad : Nat → Nat) (hc : cw (m, R, a + 1)) : Cn G yX2_init cX2_init 1 none { frames := 1, cells := 2, slots := 80, locals := 12 } [.ref (ad a)] (2, 80) (m, R, a + 1, ad) (fun v w => v = none ∧ ∃ ad2 : Nat → Nat, (∀ b, b < a + 1 → ad2 b = ad b) ∧ cw (cm_X2_init a m, cR_X2_init a R, a + 3) ∧ w = (cm_X2_init a m, cR_X2_init a R, a + 3, ad2)) := by
  refine Cn.ofI pn_RX2 (Nat.le_of_ble_eq_true rfl) (fun X hG hX hR hin => ?_)
  subst hG
  have hX : Cx X cX2_init 1 RX2 { frames := 1, cells := 2, slots := 80, locals := 12 } := hX
  have hin : (xh X).name = "<init>" := hin
  show J X (0, 0) 0 [(0, .ref (ad a))] [] (m, R, a + 1, ad)
  refine J_aload_n hX dX2_init_0 rfl 0 rfl ?_
  refine J_objI hX kl_RX2_3 oi_inst oi_code dX2_init_1 (Nat.le_of_ble_eq_true rfl) (Nat.le_of_ble_eq_true rfl) ?_
  refine J_aload_n hX dX2_init_4 rfl 0 rfl ?_
  refine J_iconst (v := (0 : Int32)) hX dX2_init_5 (by decide) ?_
  refine J_putIc hX kf_RX2_9 dX2_init_6 hka (by decide) rfl (by omega) rfl ?_
  replace hc := hc.I (a := a) (k := 0) (v := (0 : Int32)) (by omega)
  show J X (0, 0) 9 [(0, .ref (ad a))] [] ((wI m a 0 (0 : Int32)), R, a + 1, ad)
  refine J_aload_n hX dX2_init_9 rfl 0 rfl ?_
  refine J_bipush (v := (40 : Int32)) hX dX2_init_10 (by decide) ?_
  refine J_newaI hX dX2_init_12 hc (kd_2_1 hka) (ld_2_1 hka) (by decide) (by decide) (Nat.le_of_ble_eq_true rfl) ⟨Nat.le_of_ble_eq_true rfl, Nat.le_of_ble_eq_true rfl⟩ (fun ad1 hg2 => ?_)
  replace hc := hc.N (n := a + 2) (by omega)
  refine J_re (lv2 := [(0, .ref (ad1 a))]) (st2 := [.ref (ad1 (a + 1)), .ref (ad1 a)]) (by (try rw [hg2 a (by omega)]); (try rfl)) (by (try rw [hg2 a (by omega)]); (try rfl)) ?_
  show J X (1, 40) 14 [(0, .ref (ad1 a))] [.ref (ad1 (a + 1)), .ref (ad1 a)] ((wI m a 0 (0 : Int32)), R, a + 2, ad1)
  refine J_putRF hX hin kf_RX2_15 ⟨_, _, rfl⟩ dX2_init_14 hka (by decide) rfl (by omega) rfl rfl rfl rfl ?_
  replace hc := hc.R (a := a) (k := 1) (b := (a + 1)) (by omega) (by omega) (by decide)
  show J X (1, 40) 17 [(0, .ref (ad1 a))] [] ((wI m a 0 (0 : Int32)), (wR R a 1 (a + 1)), a + 2, ad1)
  refine J_aload_n hX dX2_init_17 rfl 0 rfl ?_
  refine J_bipush (v := (40 : Int32)) hX dX2_init_18 (by decide) ?_
  refine J_newaI hX dX2_init_20 hc (kd_2_2 hka) (ld_2_2 hka) (by decide) (by decide) (Nat.le_of_ble_eq_true rfl) ⟨Nat.le_of_ble_eq_true rfl, Nat.le_of_ble_eq_true rfl⟩ (fun ad3 hg4 => ?_)
  replace hc := hc.N (n := a + 3) (by omega)
  refine J_re (lv2 := [(0, .ref (ad3 a))]) (st2 := [.ref (ad3 (a + 2)), .ref (ad3 a)]) (by (try rw [hg4 a (by omega)]); (try rfl)) (by (try rw [hg4 a (by omega)]); (try rfl)) ?_
  show J X (2, 80) 22 [(0, .ref (ad3 a))] [.ref (ad3 (a + 2)), .ref (ad3 a)] ((wI m a 0 (0 : Int32)), (wR R a 1 (a + 1)), a + 3, ad3)
  refine J_putRF hX hin kf_RX2_19 ⟨_, _, rfl⟩ dX2_init_22 hka (by decide) rfl (by omega) rfl rfl rfl rfl ?_
  replace hc := hc.R (a := a) (k := 2) (b := (a + 2)) (by omega) (by omega) (by decide)
  show J X (2, 80) 25 [(0, .ref (ad3 a))] [] ((wI m a 0 (0 : Int32)), (wR (wR R a 1 (a + 1)) a 2 (a + 2)), a + 3, ad3)
  exact J_vret hX hR dX2_init_25 ⟨rfl, ad3, fun b hb => (hg4 b (by omega)).trans ((hg2 b (by omega)).trans rfl), hc, rfl⟩
def cm_X5_init (m : Mm) : Mm := (cm_X8_init 373 (cm_X8_init 363 (cm_X8_init 353 (cm_X8_init 343 (cm_X8_init 333 (cm_X8_init 323 (cm_X8_init 313 (cm_X8_init 303 (cm_X8_init 293 (cm_X8_init 283 (cm_X8_init 271 (wI m 269 0 (0 : Int32)))))))))))))
def cR_X5_init (R : Nat → Nat → Option Nat) : Nat → Nat → Option Nat := (wR (cR_X8_init 373 (wR (cR_X8_init 363 (wR (cR_X8_init 353 (wR (cR_X8_init 343 (wR (cR_X8_init 333 (wR (cR_X8_init 323 (wR (cR_X8_init 313 (wR (cR_X8_init 303 (wR (cR_X8_init 293 (wR (cR_X8_init 283 (wR (wR (wR (cR_X8_init 271 (wR R 269 1 270)) 269 2 271) 269 3 281) 269 4 282)) 270 0 283)) 270 1 293)) 270 2 303)) 270 3 313)) 270 4 323)) 270 5 333)) 270 6 343)) 270 7 353)) 270 8 363)) 270 9 373)
set_option maxRecDepth 100000 in
set_option maxHeartbeats 4000000 in
theorem k_X5_init {G : GT} (m : Mm) (R : Nat → Nat → Option Nat) (ad : Nat → Nat) (hc : cw (m, R, 270)) : Cn G yX5_init cX5_init 2 none { frames := 2, cells := 113, slots := 1561, locals := 32 } [.ref (ad 269)] (113, 1561) (m, R, 270, ad) (fun v w => v = none ∧ ∃ ad2 : Nat → Nat, (∀ b, b < 270 → ad2 b = ad b) ∧ cw (cm_X5_init m, cR_X5_init R, 383) ∧ w = (cm_X5_init m, cR_X5_init R, 383, ad2)) := by
  refine Cn.ofI pn_RX5 (Nat.le_of_ble_eq_true rfl) (fun X hG hX hR hin => ?_)
  subst hG
  have hX : Cx X cX5_init 2 RX5 { frames := 2, cells := 113, slots := 1561, locals := 32 } := hX
  have hin : (xh X).name = "<init>" := hin
  show J X (0, 0) 0 [(0, .ref (ad 269))] [] (m, R, 270, ad)
  refine J_aload_n hX dX5_init_0 rfl 0 rfl ?_
  refine J_objI hX kl_RX5_3 oi_inst oi_code dX5_init_1 (Nat.le_of_ble_eq_true rfl) (Nat.le_of_ble_eq_true rfl) ?_
  refine J_aload_n hX dX5_init_4 rfl 0 rfl ?_
  refine J_iconst (v := (0 : Int32)) hX dX5_init_5 (by decide) ?_
  refine J_putIc hX kf_RX5_9 dX5_init_6 kx_269 (by decide) rfl (by decide) rfl ?_
  replace hc := hc.I (a := 269) (k := 0) (v := (0 : Int32)) (by decide)
  show J X (0, 0) 9 [(0, .ref (ad 269))] [] ((wI m 269 0 (0 : Int32)), R, 270, ad)
  refine J_aload_n hX dX5_init_9 rfl 0 rfl ?_
  refine J_bipush (v := (10 : Int32)) hX dX5_init_10 (by decide) ?_
  refine J_newq hX dX5_init_12 (u := 2) (by decide) (mt_2 (List.mem_of_getElem? (i := 40) rfl)) hc kx_270 lx_270 (by decide) (by decide) (Nat.le_of_ble_eq_true rfl) ⟨Nat.le_of_ble_eq_true rfl, Nat.le_of_ble_eq_true rfl⟩ (fun ad1 hg2 => ?_)
  replace hc := hc.N (n := 271) (by omega)
  refine J_re (lv2 := [(0, .ref (ad1 269))]) (st2 := [.ref (ad1 270), .ref (ad1 269)]) (by (try rw [hg2 269 (by decide)]); (try rfl)) (by (try rw [hg2 269 (by decide)]); (try rfl)) ?_
  show J X (1, 10) 15 [(0, .ref (ad1 269))] [.ref (ad1 270), .ref (ad1 269)] ((wI m 269 0 (0 : Int32)), R, 271, ad1)
  refine J_putRF hX hin kf_RX5_17 ⟨_, _, rfl⟩ dX5_init_15 kx_269 (by decide) rfl (by decide) rfl rfl rfl rfl ?_
  replace hc := hc.R (a := 269) (k := 1) (b := 270) (by decide) (by decide) (by decide)
  show J X (1, 10) 18 [(0, .ref (ad1 269))] [] ((wI m 269 0 (0 : Int32)), (wR R 269 1 270), 271, ad1)
  refine J_aload_n hX dX5_init_18 rfl 0 rfl ?_
  refine J_new hX dX5_init_19 kn_RX5_15 hc kx_271 (by decide) (nf := 14) rfl ⟨Nat.le_of_ble_eq_true rfl, Nat.le_of_ble_eq_true rfl⟩ (fun ad3 hg4 => ?_)
  replace hc := hc.N (n := 272) (by omega)
  refine J_re (lv2 := [(0, .ref (ad3 269))]) (st2 := [.ref (ad3 271), .ref (ad3 269)]) (by (try rw [hg4 269 (by decide)]); (try rfl)) (by (try rw [hg4 269 (by decide)]); (try rfl)) ?_
  show J X (2, 24) 22 [(0, .ref (ad3 269))] [.ref (ad3 271), .ref (ad3 269)] ((wI m 269 0 (0 : Int32)), (wR R 269 1 270), 272, ad3)
  refine J_dup hX dX5_init_22 rfl ?_
  refine J_cIN hX (k_X8_init 271 kx_271 (wI m 269 0 (0 : Int32)) (wR R 269 1 270) ad3 hc) km_X8_init rfl (mt_2 (List.mem_of_getElem? (i := 44) rfl)) kl_RX5_21 dX5_init_23 ⟨rfl, rfl⟩ ⟨Nat.le_of_ble_eq_true rfl, Nat.le_of_ble_eq_true rfl⟩ ⟨Nat.le_of_ble_eq_true rfl, Nat.le_of_ble_eq_true rfl⟩ rfl rfl (Nat.le_of_ble_eq_true rfl) (fun v w2 hk => ?_)
  obtain ⟨rfl, ad5, hg6, hc, rfl⟩ := hk
  refine J_re (lv2 := [(0, .ref (ad5 269))]) (st2 := [.ref (ad5 271), .ref (ad5 269)]) (by (try rw [hg6 269 (by decide)]); (try rfl)) (by (try rw [hg6 269 (by decide), hg6 271 (by decide)]); (try rfl)) ?_
  show J X (11, 57) 26 [(0, .ref (ad5 269))] [.ref (ad5 271), .ref (ad5 269)] ((cm_X8_init 271 (wI m 269 0 (0 : Int32))), (cR_X8_init 271 (wR R 269 1 270)), 281, ad5)
  refine J_putRF hX hin kf_RX5_22 ⟨_, _, rfl⟩ dX5_init_26 kx_269 (by decide) rfl (by decide) rfl rfl rfl rfl ?_
  replace hc := hc.R (a := 269) (k := 2) (b := 271) (by decide) (by decide) (by decide)
  show J X (11, 57) 29 [(0, .ref (ad5 269))] [] ((cm_X8_init 271 (wI m 269 0 (0 : Int32))), (wR (cR_X8_init 271 (wR R 269 1 270)) 269 2 271), 281, ad5)
  refine J_aload_n hX dX5_init_29 rfl 0 rfl ?_
  refine J_bipush (v := (10 : Int32)) hX dX5_init_30 (by decide) ?_
  refine J_newaI hX dX5_init_32 hc kx_281 lx_281 (by decide) (by decide) (Nat.le_of_ble_eq_true rfl) ⟨Nat.le_of_ble_eq_true rfl, Nat.le_of_ble_eq_true rfl⟩ (fun ad7 hg8 => ?_)
  replace hc := hc.N (n := 282) (by omega)
  refine J_re (lv2 := [(0, .ref (ad7 269))]) (st2 := [.ref (ad7 281), .ref (ad7 269)]) (by (try rw [hg8 269 (by decide)]); (try rfl)) (by (try rw [hg8 269 (by decide)]); (try rfl)) ?_
  show J X (12, 67) 34 [(0, .ref (ad7 269))] [.ref (ad7 281), .ref (ad7 269)] ((cm_X8_init 271 (wI m 269 0 (0 : Int32))), (wR (cR_X8_init 271 (wR R 269 1 270)) 269 2 271), 282, ad7)
  refine J_putRF hX hin kf_RX5_26 ⟨_, _, rfl⟩ dX5_init_34 kx_269 (by decide) rfl (by decide) rfl rfl rfl rfl ?_
  replace hc := hc.R (a := 269) (k := 3) (b := 281) (by decide) (by decide) (by decide)
  show J X (12, 67) 37 [(0, .ref (ad7 269))] [] ((cm_X8_init 271 (wI m 269 0 (0 : Int32))), (wR (wR (cR_X8_init 271 (wR R 269 1 270)) 269 2 271) 269 3 281), 282, ad7)
  refine J_aload_n hX dX5_init_37 rfl 0 rfl ?_
  refine J_sipush (v := (1024 : Int32)) hX dX5_init_38 (by decide) ?_
  refine J_newaZ hX dX5_init_41 hc kx_282 lx_282 (by decide) (by decide) (Nat.le_of_ble_eq_true rfl) ⟨Nat.le_of_ble_eq_true rfl, Nat.le_of_ble_eq_true rfl⟩ (fun ad9 hg10 => ?_)
  replace hc := hc.N (n := 283) (by omega)
  refine J_re (lv2 := [(0, .ref (ad9 269))]) (st2 := [.ref (ad9 282), .ref (ad9 269)]) (by (try rw [hg10 269 (by decide)]); (try rfl)) (by (try rw [hg10 269 (by decide)]); (try rfl)) ?_
  show J X (13, 1091) 43 [(0, .ref (ad9 269))] [.ref (ad9 282), .ref (ad9 269)] ((cm_X8_init 271 (wI m 269 0 (0 : Int32))), (wR (wR (cR_X8_init 271 (wR R 269 1 270)) 269 2 271) 269 3 281), 283, ad9)
  refine J_putRF hX hin kf_RX5_30 ⟨_, _, rfl⟩ dX5_init_43 kx_269 (by decide) rfl (by decide) rfl rfl rfl rfl ?_
  replace hc := hc.R (a := 269) (k := 4) (b := 282) (by decide) (by decide) (by decide)
  show J X (13, 1091) 46 [(0, .ref (ad9 269))] [] ((cm_X8_init 271 (wI m 269 0 (0 : Int32))), (wR (wR (wR (cR_X8_init 271 (wR R 269 1 270)) 269 2 271) 269 3 281) 269 4 282), 283, ad9)
  refine J_iconst (v := (0 : Int32)) hX dX5_init_46 (by decide) ?_
  refine J_istore_n (lv2 := [(1, .int (0 : Int32)), (0, .ref (ad9 269))]) hX dX5_init_47 rfl (Nat.le_of_ble_eq_true rfl) rfl ?_
  refine J_iload_n hX dX5_init_48 rfl 0 rfl ?_
  refine J_bipush (v := (10 : Int32)) hX dX5_init_49 (by decide) ?_
  refine J_icmp_ge (tgt := 73) hX dX5_init_51 (by decide) (fun c => absurd c (by decide)) (fun _ => ?_)
  refine J_aload_n hX dX5_init_54 rfl 1 rfl ?_
  refine J_getG (w := ((cm_X8_init 271 (wI m 269 0 (0 : Int32))), (wR (wR (wR (cR_X8_init 271 (wR R 269 1 270)) 269 2 271) 269 3 281) 269 4 282), 283, ad9)) hX kf_RX5_17 dX5_init_55 kx_269 (by decide) (s := 2) rfl (show 269 < 283 by omega) rfl (v := .ref (ad9 270)) (fv_ref (by rfl)) ?_
  refine J_iload_n hX dX5_init_58 rfl 0 rfl ?_
  refine J_new hX dX5_init_59 kn_RX5_15 hc kx_283 (by decide) (nf := 14) rfl ⟨Nat.le_of_ble_eq_true rfl, Nat.le_of_ble_eq_true rfl⟩ (fun ad11 hg12 => ?_)
  replace hc := hc.N (n := 284) (by omega)
  refine J_re (lv2 := [(1, .int (0 : Int32)), (0, .ref (ad11 269))]) (st2 := [.ref (ad11 283), .int (0 : Int32), .ref (ad11 270)]) (by (try rw [hg12 269 (by decide)]); (try rfl)) (by (try rw [hg12 270 (by decide)]); (try rfl)) ?_
  show J X (14, 1105) 62 [(1, .int (0 : Int32)), (0, .ref (ad11 269))] [.ref (ad11 283), .int (0 : Int32), .ref (ad11 270)] ((cm_X8_init 271 (wI m 269 0 (0 : Int32))), (wR (wR (wR (cR_X8_init 271 (wR R 269 1 270)) 269 2 271) 269 3 281) 269 4 282), 284, ad11)
  refine J_dup hX dX5_init_62 rfl ?_
  refine J_cIN hX (k_X8_init 283 kx_283 (cm_X8_init 271 (wI m 269 0 (0 : Int32))) (wR (wR (wR (cR_X8_init 271 (wR R 269 1 270)) 269 2 271) 269 3 281) 269 4 282) ad11 hc) km_X8_init rfl (mt_2 (List.mem_of_getElem? (i := 44) rfl)) kl_RX5_21 dX5_init_63 ⟨rfl, rfl⟩ ⟨Nat.le_of_ble_eq_true rfl, Nat.le_of_ble_eq_true rfl⟩ ⟨Nat.le_of_ble_eq_true rfl, Nat.le_of_ble_eq_true rfl⟩ rfl rfl (Nat.le_of_ble_eq_true rfl) (fun v w2 hk => ?_)
  obtain ⟨rfl, ad13, hg14, hc, rfl⟩ := hk
  refine J_re (lv2 := [(1, .int (0 : Int32)), (0, .ref (ad13 269))]) (st2 := [.ref (ad13 283), .int (0 : Int32), .ref (ad13 270)]) (by (try rw [hg14 269 (by decide)]); (try rfl)) (by (try rw [hg14 270 (by decide), hg14 283 (by decide)]); (try rfl)) ?_
  show J X (23, 1138) 66 [(1, .int (0 : Int32)), (0, .ref (ad13 269))] [.ref (ad13 283), .int (0 : Int32), .ref (ad13 270)] ((cm_X8_init 283 (cm_X8_init 271 (wI m 269 0 (0 : Int32)))), (cR_X8_init 283 (wR (wR (wR (cR_X8_init 271 (wR R 269 1 270)) 269 2 271) 269 3 281) 269 4 282)), 293, ad13)
  refine J_aastc (j := 0) hX dX5_init_66 (u := 2) (by decide) kx_270 lx_270 (by decide) rfl rfl kx_283 (by decide) ⟨_, _, rfl⟩ (by decide) (vp_lit (by decide)) (by decide) ?_
  replace hc := hc.R (a := 270) (k := 0) (b := 283) (by decide) (by decide) (by decide)
  show J X (23, 1138) 67 [(1, .int (0 : Int32)), (0, .ref (ad13 269))] [] ((cm_X8_init 283 (cm_X8_init 271 (wI m 269 0 (0 : Int32)))), (wR (cR_X8_init 283 (wR (wR (wR (cR_X8_init 271 (wR R 269 1 270)) 269 2 271) 269 3 281) 269 4 282)) 270 0 283), 293, ad13)
  refine J_iinc (x := (1 : Int32)) (lv2 := [(1, .int (1 : Int32)), (0, .ref (ad13 269))]) hX dX5_init_67 0 rfl (by decide) (Nat.le_of_ble_eq_true rfl) rfl ?_
  refine J_goto (tgt := 48) hX dX5_init_70 (by decide) ?_
  refine J_iload_n hX dX5_init_48 rfl 0 rfl ?_
  refine J_bipush (v := (10 : Int32)) hX dX5_init_49 (by decide) ?_
  refine J_icmp_ge (tgt := 73) hX dX5_init_51 (by decide) (fun c => absurd c (by decide)) (fun _ => ?_)
  refine J_aload_n hX dX5_init_54 rfl 1 rfl ?_
  refine J_getG (w := ((cm_X8_init 283 (cm_X8_init 271 (wI m 269 0 (0 : Int32)))), (wR (cR_X8_init 283 (wR (wR (wR (cR_X8_init 271 (wR R 269 1 270)) 269 2 271) 269 3 281) 269 4 282)) 270 0 283), 293, ad13)) hX kf_RX5_17 dX5_init_55 kx_269 (by decide) (s := 2) rfl (show 269 < 293 by omega) rfl (v := .ref (ad13 270)) (fv_ref (by rfl)) ?_
  refine J_iload_n hX dX5_init_58 rfl 0 rfl ?_
  refine J_new hX dX5_init_59 kn_RX5_15 hc kx_293 (by decide) (nf := 14) rfl ⟨Nat.le_of_ble_eq_true rfl, Nat.le_of_ble_eq_true rfl⟩ (fun ad15 hg16 => ?_)
  replace hc := hc.N (n := 294) (by omega)
  refine J_re (lv2 := [(1, .int (1 : Int32)), (0, .ref (ad15 269))]) (st2 := [.ref (ad15 293), .int (1 : Int32), .ref (ad15 270)]) (by (try rw [hg16 269 (by decide)]); (try rfl)) (by (try rw [hg16 270 (by decide)]); (try rfl)) ?_
  show J X (24, 1152) 62 [(1, .int (1 : Int32)), (0, .ref (ad15 269))] [.ref (ad15 293), .int (1 : Int32), .ref (ad15 270)] ((cm_X8_init 283 (cm_X8_init 271 (wI m 269 0 (0 : Int32)))), (wR (cR_X8_init 283 (wR (wR (wR (cR_X8_init 271 (wR R 269 1 270)) 269 2 271) 269 3 281) 269 4 282)) 270 0 283), 294, ad15)
  refine J_dup hX dX5_init_62 rfl ?_
  refine J_cIN hX (k_X8_init 293 kx_293 (cm_X8_init 283 (cm_X8_init 271 (wI m 269 0 (0 : Int32)))) (wR (cR_X8_init 283 (wR (wR (wR (cR_X8_init 271 (wR R 269 1 270)) 269 2 271) 269 3 281) 269 4 282)) 270 0 283) ad15 hc) km_X8_init rfl (mt_2 (List.mem_of_getElem? (i := 44) rfl)) kl_RX5_21 dX5_init_63 ⟨rfl, rfl⟩ ⟨Nat.le_of_ble_eq_true rfl, Nat.le_of_ble_eq_true rfl⟩ ⟨Nat.le_of_ble_eq_true rfl, Nat.le_of_ble_eq_true rfl⟩ rfl rfl (Nat.le_of_ble_eq_true rfl) (fun v w2 hk => ?_)
  obtain ⟨rfl, ad17, hg18, hc, rfl⟩ := hk
  refine J_re (lv2 := [(1, .int (1 : Int32)), (0, .ref (ad17 269))]) (st2 := [.ref (ad17 293), .int (1 : Int32), .ref (ad17 270)]) (by (try rw [hg18 269 (by decide)]); (try rfl)) (by (try rw [hg18 270 (by decide), hg18 293 (by decide)]); (try rfl)) ?_
  show J X (33, 1185) 66 [(1, .int (1 : Int32)), (0, .ref (ad17 269))] [.ref (ad17 293), .int (1 : Int32), .ref (ad17 270)] ((cm_X8_init 293 (cm_X8_init 283 (cm_X8_init 271 (wI m 269 0 (0 : Int32))))), (cR_X8_init 293 (wR (cR_X8_init 283 (wR (wR (wR (cR_X8_init 271 (wR R 269 1 270)) 269 2 271) 269 3 281) 269 4 282)) 270 0 283)), 303, ad17)
  refine J_aastc (j := 1) hX dX5_init_66 (u := 2) (by decide) kx_270 lx_270 (by decide) rfl rfl kx_293 (by decide) ⟨_, _, rfl⟩ (by decide) (vp_lit (by decide)) (by decide) ?_
  replace hc := hc.R (a := 270) (k := 1) (b := 293) (by decide) (by decide) (by decide)
  show J X (33, 1185) 67 [(1, .int (1 : Int32)), (0, .ref (ad17 269))] [] ((cm_X8_init 293 (cm_X8_init 283 (cm_X8_init 271 (wI m 269 0 (0 : Int32))))), (wR (cR_X8_init 293 (wR (cR_X8_init 283 (wR (wR (wR (cR_X8_init 271 (wR R 269 1 270)) 269 2 271) 269 3 281) 269 4 282)) 270 0 283)) 270 1 293), 303, ad17)
  refine J_iinc (x := (2 : Int32)) (lv2 := [(1, .int (2 : Int32)), (0, .ref (ad17 269))]) hX dX5_init_67 0 rfl (by decide) (Nat.le_of_ble_eq_true rfl) rfl ?_
  refine J_goto (tgt := 48) hX dX5_init_70 (by decide) ?_
  refine J_iload_n hX dX5_init_48 rfl 0 rfl ?_
  refine J_bipush (v := (10 : Int32)) hX dX5_init_49 (by decide) ?_
  refine J_icmp_ge (tgt := 73) hX dX5_init_51 (by decide) (fun c => absurd c (by decide)) (fun _ => ?_)
  refine J_aload_n hX dX5_init_54 rfl 1 rfl ?_
  refine J_getG (w := ((cm_X8_init 293 (cm_X8_init 283 (cm_X8_init 271 (wI m 269 0 (0 : Int32))))), (wR (cR_X8_init 293 (wR (cR_X8_init 283 (wR (wR (wR (cR_X8_init 271 (wR R 269 1 270)) 269 2 271) 269 3 281) 269 4 282)) 270 0 283)) 270 1 293), 303, ad17)) hX kf_RX5_17 dX5_init_55 kx_269 (by decide) (s := 2) rfl (show 269 < 303 by omega) rfl (v := .ref (ad17 270)) (fv_ref (by rfl)) ?_
  refine J_iload_n hX dX5_init_58 rfl 0 rfl ?_
  refine J_new hX dX5_init_59 kn_RX5_15 hc kx_303 (by decide) (nf := 14) rfl ⟨Nat.le_of_ble_eq_true rfl, Nat.le_of_ble_eq_true rfl⟩ (fun ad19 hg20 => ?_)
  replace hc := hc.N (n := 304) (by omega)
  refine J_re (lv2 := [(1, .int (2 : Int32)), (0, .ref (ad19 269))]) (st2 := [.ref (ad19 303), .int (2 : Int32), .ref (ad19 270)]) (by (try rw [hg20 269 (by decide)]); (try rfl)) (by (try rw [hg20 270 (by decide)]); (try rfl)) ?_
  show J X (34, 1199) 62 [(1, .int (2 : Int32)), (0, .ref (ad19 269))] [.ref (ad19 303), .int (2 : Int32), .ref (ad19 270)] ((cm_X8_init 293 (cm_X8_init 283 (cm_X8_init 271 (wI m 269 0 (0 : Int32))))), (wR (cR_X8_init 293 (wR (cR_X8_init 283 (wR (wR (wR (cR_X8_init 271 (wR R 269 1 270)) 269 2 271) 269 3 281) 269 4 282)) 270 0 283)) 270 1 293), 304, ad19)
  refine J_dup hX dX5_init_62 rfl ?_
  refine J_cIN hX (k_X8_init 303 kx_303 (cm_X8_init 293 (cm_X8_init 283 (cm_X8_init 271 (wI m 269 0 (0 : Int32))))) (wR (cR_X8_init 293 (wR (cR_X8_init 283 (wR (wR (wR (cR_X8_init 271 (wR R 269 1 270)) 269 2 271) 269 3 281) 269 4 282)) 270 0 283)) 270 1 293) ad19 hc) km_X8_init rfl (mt_2 (List.mem_of_getElem? (i := 44) rfl)) kl_RX5_21 dX5_init_63 ⟨rfl, rfl⟩ ⟨Nat.le_of_ble_eq_true rfl, Nat.le_of_ble_eq_true rfl⟩ ⟨Nat.le_of_ble_eq_true rfl, Nat.le_of_ble_eq_true rfl⟩ rfl rfl (Nat.le_of_ble_eq_true rfl) (fun v w2 hk => ?_)
  obtain ⟨rfl, ad21, hg22, hc, rfl⟩ := hk
  refine J_re (lv2 := [(1, .int (2 : Int32)), (0, .ref (ad21 269))]) (st2 := [.ref (ad21 303), .int (2 : Int32), .ref (ad21 270)]) (by (try rw [hg22 269 (by decide)]); (try rfl)) (by (try rw [hg22 270 (by decide), hg22 303 (by decide)]); (try rfl)) ?_
  show J X (43, 1232) 66 [(1, .int (2 : Int32)), (0, .ref (ad21 269))] [.ref (ad21 303), .int (2 : Int32), .ref (ad21 270)] ((cm_X8_init 303 (cm_X8_init 293 (cm_X8_init 283 (cm_X8_init 271 (wI m 269 0 (0 : Int32)))))), (cR_X8_init 303 (wR (cR_X8_init 293 (wR (cR_X8_init 283 (wR (wR (wR (cR_X8_init 271 (wR R 269 1 270)) 269 2 271) 269 3 281) 269 4 282)) 270 0 283)) 270 1 293)), 313, ad21)
  refine J_aastc (j := 2) hX dX5_init_66 (u := 2) (by decide) kx_270 lx_270 (by decide) rfl rfl kx_303 (by decide) ⟨_, _, rfl⟩ (by decide) (vp_lit (by decide)) (by decide) ?_
  replace hc := hc.R (a := 270) (k := 2) (b := 303) (by decide) (by decide) (by decide)
  show J X (43, 1232) 67 [(1, .int (2 : Int32)), (0, .ref (ad21 269))] [] ((cm_X8_init 303 (cm_X8_init 293 (cm_X8_init 283 (cm_X8_init 271 (wI m 269 0 (0 : Int32)))))), (wR (cR_X8_init 303 (wR (cR_X8_init 293 (wR (cR_X8_init 283 (wR (wR (wR (cR_X8_init 271 (wR R 269 1 270)) 269 2 271) 269 3 281) 269 4 282)) 270 0 283)) 270 1 293)) 270 2 303), 313, ad21)
  refine J_iinc (x := (3 : Int32)) (lv2 := [(1, .int (3 : Int32)), (0, .ref (ad21 269))]) hX dX5_init_67 0 rfl (by decide) (Nat.le_of_ble_eq_true rfl) rfl ?_
  refine J_goto (tgt := 48) hX dX5_init_70 (by decide) ?_
  refine J_iload_n hX dX5_init_48 rfl 0 rfl ?_
  refine J_bipush (v := (10 : Int32)) hX dX5_init_49 (by decide) ?_
  refine J_icmp_ge (tgt := 73) hX dX5_init_51 (by decide) (fun c => absurd c (by decide)) (fun _ => ?_)
  refine J_aload_n hX dX5_init_54 rfl 1 rfl ?_
  refine J_getG (w := ((cm_X8_init 303 (cm_X8_init 293 (cm_X8_init 283 (cm_X8_init 271 (wI m 269 0 (0 : Int32)))))), (wR (cR_X8_init 303 (wR (cR_X8_init 293 (wR (cR_X8_init 283 (wR (wR (wR (cR_X8_init 271 (wR R 269 1 270)) 269 2 271) 269 3 281) 269 4 282)) 270 0 283)) 270 1 293)) 270 2 303), 313, ad21)) hX kf_RX5_17 dX5_init_55 kx_269 (by decide) (s := 2) rfl (show 269 < 313 by omega) rfl (v := .ref (ad21 270)) (fv_ref (by rfl)) ?_
  refine J_iload_n hX dX5_init_58 rfl 0 rfl ?_
  refine J_new hX dX5_init_59 kn_RX5_15 hc kx_313 (by decide) (nf := 14) rfl ⟨Nat.le_of_ble_eq_true rfl, Nat.le_of_ble_eq_true rfl⟩ (fun ad23 hg24 => ?_)
  replace hc := hc.N (n := 314) (by omega)
  refine J_re (lv2 := [(1, .int (3 : Int32)), (0, .ref (ad23 269))]) (st2 := [.ref (ad23 313), .int (3 : Int32), .ref (ad23 270)]) (by (try rw [hg24 269 (by decide)]); (try rfl)) (by (try rw [hg24 270 (by decide)]); (try rfl)) ?_
  show J X (44, 1246) 62 [(1, .int (3 : Int32)), (0, .ref (ad23 269))] [.ref (ad23 313), .int (3 : Int32), .ref (ad23 270)] ((cm_X8_init 303 (cm_X8_init 293 (cm_X8_init 283 (cm_X8_init 271 (wI m 269 0 (0 : Int32)))))), (wR (cR_X8_init 303 (wR (cR_X8_init 293 (wR (cR_X8_init 283 (wR (wR (wR (cR_X8_init 271 (wR R 269 1 270)) 269 2 271) 269 3 281) 269 4 282)) 270 0 283)) 270 1 293)) 270 2 303), 314, ad23)
  refine J_dup hX dX5_init_62 rfl ?_
  refine J_cIN hX (k_X8_init 313 kx_313 (cm_X8_init 303 (cm_X8_init 293 (cm_X8_init 283 (cm_X8_init 271 (wI m 269 0 (0 : Int32)))))) (wR (cR_X8_init 303 (wR (cR_X8_init 293 (wR (cR_X8_init 283 (wR (wR (wR (cR_X8_init 271 (wR R 269 1 270)) 269 2 271) 269 3 281) 269 4 282)) 270 0 283)) 270 1 293)) 270 2 303) ad23 hc) km_X8_init rfl (mt_2 (List.mem_of_getElem? (i := 44) rfl)) kl_RX5_21 dX5_init_63 ⟨rfl, rfl⟩ ⟨Nat.le_of_ble_eq_true rfl, Nat.le_of_ble_eq_true rfl⟩ ⟨Nat.le_of_ble_eq_true rfl, Nat.le_of_ble_eq_true rfl⟩ rfl rfl (Nat.le_of_ble_eq_true rfl) (fun v w2 hk => ?_)
  obtain ⟨rfl, ad25, hg26, hc, rfl⟩ := hk
  refine J_re (lv2 := [(1, .int (3 : Int32)), (0, .ref (ad25 269))]) (st2 := [.ref (ad25 313), .int (3 : Int32), .ref (ad25 270)]) (by (try rw [hg26 269 (by decide)]); (try rfl)) (by (try rw [hg26 270 (by decide), hg26 313 (by decide)]); (try rfl)) ?_
  show J X (53, 1279) 66 [(1, .int (3 : Int32)), (0, .ref (ad25 269))] [.ref (ad25 313), .int (3 : Int32), .ref (ad25 270)] ((cm_X8_init 313 (cm_X8_init 303 (cm_X8_init 293 (cm_X8_init 283 (cm_X8_init 271 (wI m 269 0 (0 : Int32))))))), (cR_X8_init 313 (wR (cR_X8_init 303 (wR (cR_X8_init 293 (wR (cR_X8_init 283 (wR (wR (wR (cR_X8_init 271 (wR R 269 1 270)) 269 2 271) 269 3 281) 269 4 282)) 270 0 283)) 270 1 293)) 270 2 303)), 323, ad25)
  refine J_aastc (j := 3) hX dX5_init_66 (u := 2) (by decide) kx_270 lx_270 (by decide) rfl rfl kx_313 (by decide) ⟨_, _, rfl⟩ (by decide) (vp_lit (by decide)) (by decide) ?_
  replace hc := hc.R (a := 270) (k := 3) (b := 313) (by decide) (by decide) (by decide)
  show J X (53, 1279) 67 [(1, .int (3 : Int32)), (0, .ref (ad25 269))] [] ((cm_X8_init 313 (cm_X8_init 303 (cm_X8_init 293 (cm_X8_init 283 (cm_X8_init 271 (wI m 269 0 (0 : Int32))))))), (wR (cR_X8_init 313 (wR (cR_X8_init 303 (wR (cR_X8_init 293 (wR (cR_X8_init 283 (wR (wR (wR (cR_X8_init 271 (wR R 269 1 270)) 269 2 271) 269 3 281) 269 4 282)) 270 0 283)) 270 1 293)) 270 2 303)) 270 3 313), 323, ad25)
  refine J_iinc (x := (4 : Int32)) (lv2 := [(1, .int (4 : Int32)), (0, .ref (ad25 269))]) hX dX5_init_67 0 rfl (by decide) (Nat.le_of_ble_eq_true rfl) rfl ?_
  refine J_goto (tgt := 48) hX dX5_init_70 (by decide) ?_
  refine J_iload_n hX dX5_init_48 rfl 0 rfl ?_
  refine J_bipush (v := (10 : Int32)) hX dX5_init_49 (by decide) ?_
  refine J_icmp_ge (tgt := 73) hX dX5_init_51 (by decide) (fun c => absurd c (by decide)) (fun _ => ?_)
  refine J_aload_n hX dX5_init_54 rfl 1 rfl ?_
  refine J_getG (w := ((cm_X8_init 313 (cm_X8_init 303 (cm_X8_init 293 (cm_X8_init 283 (cm_X8_init 271 (wI m 269 0 (0 : Int32))))))), (wR (cR_X8_init 313 (wR (cR_X8_init 303 (wR (cR_X8_init 293 (wR (cR_X8_init 283 (wR (wR (wR (cR_X8_init 271 (wR R 269 1 270)) 269 2 271) 269 3 281) 269 4 282)) 270 0 283)) 270 1 293)) 270 2 303)) 270 3 313), 323, ad25)) hX kf_RX5_17 dX5_init_55 kx_269 (by decide) (s := 2) rfl (show 269 < 323 by omega) rfl (v := .ref (ad25 270)) (fv_ref (by rfl)) ?_
  refine J_iload_n hX dX5_init_58 rfl 0 rfl ?_
  refine J_new hX dX5_init_59 kn_RX5_15 hc kx_323 (by decide) (nf := 14) rfl ⟨Nat.le_of_ble_eq_true rfl, Nat.le_of_ble_eq_true rfl⟩ (fun ad27 hg28 => ?_)
  replace hc := hc.N (n := 324) (by omega)
  refine J_re (lv2 := [(1, .int (4 : Int32)), (0, .ref (ad27 269))]) (st2 := [.ref (ad27 323), .int (4 : Int32), .ref (ad27 270)]) (by (try rw [hg28 269 (by decide)]); (try rfl)) (by (try rw [hg28 270 (by decide)]); (try rfl)) ?_
  show J X (54, 1293) 62 [(1, .int (4 : Int32)), (0, .ref (ad27 269))] [.ref (ad27 323), .int (4 : Int32), .ref (ad27 270)] ((cm_X8_init 313 (cm_X8_init 303 (cm_X8_init 293 (cm_X8_init 283 (cm_X8_init 271 (wI m 269 0 (0 : Int32))))))), (wR (cR_X8_init 313 (wR (cR_X8_init 303 (wR (cR_X8_init 293 (wR (cR_X8_init 283 (wR (wR (wR (cR_X8_init 271 (wR R 269 1 270)) 269 2 271) 269 3 281) 269 4 282)) 270 0 283)) 270 1 293)) 270 2 303)) 270 3 313), 324, ad27)
  refine J_dup hX dX5_init_62 rfl ?_
  refine J_cIN hX (k_X8_init 323 kx_323 (cm_X8_init 313 (cm_X8_init 303 (cm_X8_init 293 (cm_X8_init 283 (cm_X8_init 271 (wI m 269 0 (0 : Int32))))))) (wR (cR_X8_init 313 (wR (cR_X8_init 303 (wR (cR_X8_init 293 (wR (cR_X8_init 283 (wR (wR (wR (cR_X8_init 271 (wR R 269 1 270)) 269 2 271) 269 3 281) 269 4 282)) 270 0 283)) 270 1 293)) 270 2 303)) 270 3 313) ad27 hc) km_X8_init rfl (mt_2 (List.mem_of_getElem? (i := 44) rfl)) kl_RX5_21 dX5_init_63 ⟨rfl, rfl⟩ ⟨Nat.le_of_ble_eq_true rfl, Nat.le_of_ble_eq_true rfl⟩ ⟨Nat.le_of_ble_eq_true rfl, Nat.le_of_ble_eq_true rfl⟩ rfl rfl (Nat.le_of_ble_eq_true rfl) (fun v w2 hk => ?_)
  obtain ⟨rfl, ad29, hg30, hc, rfl⟩ := hk
  refine J_re (lv2 := [(1, .int (4 : Int32)), (0, .ref (ad29 269))]) (st2 := [.ref (ad29 323), .int (4 : Int32), .ref (ad29 270)]) (by (try rw [hg30 269 (by decide)]); (try rfl)) (by (try rw [hg30 270 (by decide), hg30 323 (by decide)]); (try rfl)) ?_
  show J X (63, 1326) 66 [(1, .int (4 : Int32)), (0, .ref (ad29 269))] [.ref (ad29 323), .int (4 : Int32), .ref (ad29 270)] ((cm_X8_init 323 (cm_X8_init 313 (cm_X8_init 303 (cm_X8_init 293 (cm_X8_init 283 (cm_X8_init 271 (wI m 269 0 (0 : Int32)))))))), (cR_X8_init 323 (wR (cR_X8_init 313 (wR (cR_X8_init 303 (wR (cR_X8_init 293 (wR (cR_X8_init 283 (wR (wR (wR (cR_X8_init 271 (wR R 269 1 270)) 269 2 271) 269 3 281) 269 4 282)) 270 0 283)) 270 1 293)) 270 2 303)) 270 3 313)), 333, ad29)
  refine J_aastc (j := 4) hX dX5_init_66 (u := 2) (by decide) kx_270 lx_270 (by decide) rfl rfl kx_323 (by decide) ⟨_, _, rfl⟩ (by decide) (vp_lit (by decide)) (by decide) ?_
  replace hc := hc.R (a := 270) (k := 4) (b := 323) (by decide) (by decide) (by decide)
  show J X (63, 1326) 67 [(1, .int (4 : Int32)), (0, .ref (ad29 269))] [] ((cm_X8_init 323 (cm_X8_init 313 (cm_X8_init 303 (cm_X8_init 293 (cm_X8_init 283 (cm_X8_init 271 (wI m 269 0 (0 : Int32)))))))), (wR (cR_X8_init 323 (wR (cR_X8_init 313 (wR (cR_X8_init 303 (wR (cR_X8_init 293 (wR (cR_X8_init 283 (wR (wR (wR (cR_X8_init 271 (wR R 269 1 270)) 269 2 271) 269 3 281) 269 4 282)) 270 0 283)) 270 1 293)) 270 2 303)) 270 3 313)) 270 4 323), 333, ad29)
  refine J_iinc (x := (5 : Int32)) (lv2 := [(1, .int (5 : Int32)), (0, .ref (ad29 269))]) hX dX5_init_67 0 rfl (by decide) (Nat.le_of_ble_eq_true rfl) rfl ?_
  refine J_goto (tgt := 48) hX dX5_init_70 (by decide) ?_
  refine J_iload_n hX dX5_init_48 rfl 0 rfl ?_
  refine J_bipush (v := (10 : Int32)) hX dX5_init_49 (by decide) ?_
  refine J_icmp_ge (tgt := 73) hX dX5_init_51 (by decide) (fun c => absurd c (by decide)) (fun _ => ?_)
  refine J_aload_n hX dX5_init_54 rfl 1 rfl ?_
  refine J_getG (w := ((cm_X8_init 323 (cm_X8_init 313 (cm_X8_init 303 (cm_X8_init 293 (cm_X8_init 283 (cm_X8_init 271 (wI m 269 0 (0 : Int32)))))))), (wR (cR_X8_init 323 (wR (cR_X8_init 313 (wR (cR_X8_init 303 (wR (cR_X8_init 293 (wR (cR_X8_init 283 (wR (wR (wR (cR_X8_init 271 (wR R 269 1 270)) 269 2 271) 269 3 281) 269 4 282)) 270 0 283)) 270 1 293)) 270 2 303)) 270 3 313)) 270 4 323), 333, ad29)) hX kf_RX5_17 dX5_init_55 kx_269 (by decide) (s := 2) rfl (show 269 < 333 by omega) rfl (v := .ref (ad29 270)) (fv_ref (by rfl)) ?_
  refine J_iload_n hX dX5_init_58 rfl 0 rfl ?_
  refine J_new hX dX5_init_59 kn_RX5_15 hc kx_333 (by decide) (nf := 14) rfl ⟨Nat.le_of_ble_eq_true rfl, Nat.le_of_ble_eq_true rfl⟩ (fun ad31 hg32 => ?_)
  replace hc := hc.N (n := 334) (by omega)
  refine J_re (lv2 := [(1, .int (5 : Int32)), (0, .ref (ad31 269))]) (st2 := [.ref (ad31 333), .int (5 : Int32), .ref (ad31 270)]) (by (try rw [hg32 269 (by decide)]); (try rfl)) (by (try rw [hg32 270 (by decide)]); (try rfl)) ?_
  show J X (64, 1340) 62 [(1, .int (5 : Int32)), (0, .ref (ad31 269))] [.ref (ad31 333), .int (5 : Int32), .ref (ad31 270)] ((cm_X8_init 323 (cm_X8_init 313 (cm_X8_init 303 (cm_X8_init 293 (cm_X8_init 283 (cm_X8_init 271 (wI m 269 0 (0 : Int32)))))))), (wR (cR_X8_init 323 (wR (cR_X8_init 313 (wR (cR_X8_init 303 (wR (cR_X8_init 293 (wR (cR_X8_init 283 (wR (wR (wR (cR_X8_init 271 (wR R 269 1 270)) 269 2 271) 269 3 281) 269 4 282)) 270 0 283)) 270 1 293)) 270 2 303)) 270 3 313)) 270 4 323), 334, ad31)
  refine J_dup hX dX5_init_62 rfl ?_
  refine J_cIN hX (k_X8_init 333 kx_333 (cm_X8_init 323 (cm_X8_init 313 (cm_X8_init 303 (cm_X8_init 293 (cm_X8_init 283 (cm_X8_init 271 (wI m 269 0 (0 : Int32)))))))) (wR (cR_X8_init 323 (wR (cR_X8_init 313 (wR (cR_X8_init 303 (wR (cR_X8_init 293 (wR (cR_X8_init 283 (wR (wR (wR (cR_X8_init 271 (wR R 269 1 270)) 269 2 271) 269 3 281) 269 4 282)) 270 0 283)) 270 1 293)) 270 2 303)) 270 3 313)) 270 4 323) ad31 hc) km_X8_init rfl (mt_2 (List.mem_of_getElem? (i := 44) rfl)) kl_RX5_21 dX5_init_63 ⟨rfl, rfl⟩ ⟨Nat.le_of_ble_eq_true rfl, Nat.le_of_ble_eq_true rfl⟩ ⟨Nat.le_of_ble_eq_true rfl, Nat.le_of_ble_eq_true rfl⟩ rfl rfl (Nat.le_of_ble_eq_true rfl) (fun v w2 hk => ?_)
  obtain ⟨rfl, ad33, hg34, hc, rfl⟩ := hk
  refine J_re (lv2 := [(1, .int (5 : Int32)), (0, .ref (ad33 269))]) (st2 := [.ref (ad33 333), .int (5 : Int32), .ref (ad33 270)]) (by (try rw [hg34 269 (by decide)]); (try rfl)) (by (try rw [hg34 270 (by decide), hg34 333 (by decide)]); (try rfl)) ?_
  show J X (73, 1373) 66 [(1, .int (5 : Int32)), (0, .ref (ad33 269))] [.ref (ad33 333), .int (5 : Int32), .ref (ad33 270)] ((cm_X8_init 333 (cm_X8_init 323 (cm_X8_init 313 (cm_X8_init 303 (cm_X8_init 293 (cm_X8_init 283 (cm_X8_init 271 (wI m 269 0 (0 : Int32))))))))), (cR_X8_init 333 (wR (cR_X8_init 323 (wR (cR_X8_init 313 (wR (cR_X8_init 303 (wR (cR_X8_init 293 (wR (cR_X8_init 283 (wR (wR (wR (cR_X8_init 271 (wR R 269 1 270)) 269 2 271) 269 3 281) 269 4 282)) 270 0 283)) 270 1 293)) 270 2 303)) 270 3 313)) 270 4 323)), 343, ad33)
  refine J_aastc (j := 5) hX dX5_init_66 (u := 2) (by decide) kx_270 lx_270 (by decide) rfl rfl kx_333 (by decide) ⟨_, _, rfl⟩ (by decide) (vp_lit (by decide)) (by decide) ?_
  replace hc := hc.R (a := 270) (k := 5) (b := 333) (by decide) (by decide) (by decide)
  show J X (73, 1373) 67 [(1, .int (5 : Int32)), (0, .ref (ad33 269))] [] ((cm_X8_init 333 (cm_X8_init 323 (cm_X8_init 313 (cm_X8_init 303 (cm_X8_init 293 (cm_X8_init 283 (cm_X8_init 271 (wI m 269 0 (0 : Int32))))))))), (wR (cR_X8_init 333 (wR (cR_X8_init 323 (wR (cR_X8_init 313 (wR (cR_X8_init 303 (wR (cR_X8_init 293 (wR (cR_X8_init 283 (wR (wR (wR (cR_X8_init 271 (wR R 269 1 270)) 269 2 271) 269 3 281) 269 4 282)) 270 0 283)) 270 1 293)) 270 2 303)) 270 3 313)) 270 4 323)) 270 5 333), 343, ad33)
  refine J_iinc (x := (6 : Int32)) (lv2 := [(1, .int (6 : Int32)), (0, .ref (ad33 269))]) hX dX5_init_67 0 rfl (by decide) (Nat.le_of_ble_eq_true rfl) rfl ?_
  refine J_goto (tgt := 48) hX dX5_init_70 (by decide) ?_
  refine J_iload_n hX dX5_init_48 rfl 0 rfl ?_
  refine J_bipush (v := (10 : Int32)) hX dX5_init_49 (by decide) ?_
  refine J_icmp_ge (tgt := 73) hX dX5_init_51 (by decide) (fun c => absurd c (by decide)) (fun _ => ?_)
  refine J_aload_n hX dX5_init_54 rfl 1 rfl ?_
  refine J_getG (w := ((cm_X8_init 333 (cm_X8_init 323 (cm_X8_init 313 (cm_X8_init 303 (cm_X8_init 293 (cm_X8_init 283 (cm_X8_init 271 (wI m 269 0 (0 : Int32))))))))), (wR (cR_X8_init 333 (wR (cR_X8_init 323 (wR (cR_X8_init 313 (wR (cR_X8_init 303 (wR (cR_X8_init 293 (wR (cR_X8_init 283 (wR (wR (wR (cR_X8_init 271 (wR R 269 1 270)) 269 2 271) 269 3 281) 269 4 282)) 270 0 283)) 270 1 293)) 270 2 303)) 270 3 313)) 270 4 323)) 270 5 333), 343, ad33)) hX kf_RX5_17 dX5_init_55 kx_269 (by decide) (s := 2) rfl (show 269 < 343 by omega) rfl (v := .ref (ad33 270)) (fv_ref (by rfl)) ?_
  refine J_iload_n hX dX5_init_58 rfl 0 rfl ?_
  refine J_new hX dX5_init_59 kn_RX5_15 hc kx_343 (by decide) (nf := 14) rfl ⟨Nat.le_of_ble_eq_true rfl, Nat.le_of_ble_eq_true rfl⟩ (fun ad35 hg36 => ?_)
  replace hc := hc.N (n := 344) (by omega)
  refine J_re (lv2 := [(1, .int (6 : Int32)), (0, .ref (ad35 269))]) (st2 := [.ref (ad35 343), .int (6 : Int32), .ref (ad35 270)]) (by (try rw [hg36 269 (by decide)]); (try rfl)) (by (try rw [hg36 270 (by decide)]); (try rfl)) ?_
  show J X (74, 1387) 62 [(1, .int (6 : Int32)), (0, .ref (ad35 269))] [.ref (ad35 343), .int (6 : Int32), .ref (ad35 270)] ((cm_X8_init 333 (cm_X8_init 323 (cm_X8_init 313 (cm_X8_init 303 (cm_X8_init 293 (cm_X8_init 283 (cm_X8_init 271 (wI m 269 0 (0 : Int32))))))))), (wR (cR_X8_init 333 (wR (cR_X8_init 323 (wR (cR_X8_init 313 (wR (cR_X8_init 303 (wR (cR_X8_init 293 (wR (cR_X8_init 283 (wR (wR (wR (cR_X8_init 271 (wR R 269 1 270)) 269 2 271) 269 3 281) 269 4 282)) 270 0 283)) 270 1 293)) 270 2 303)) 270 3 313)) 270 4 323)) 270 5 333), 344, ad35)
  refine J_dup hX dX5_init_62 rfl ?_
  refine J_cIN hX (k_X8_init 343 kx_343 (cm_X8_init 333 (cm_X8_init 323 (cm_X8_init 313 (cm_X8_init 303 (cm_X8_init 293 (cm_X8_init 283 (cm_X8_init 271 (wI m 269 0 (0 : Int32))))))))) (wR (cR_X8_init 333 (wR (cR_X8_init 323 (wR (cR_X8_init 313 (wR (cR_X8_init 303 (wR (cR_X8_init 293 (wR (cR_X8_init 283 (wR (wR (wR (cR_X8_init 271 (wR R 269 1 270)) 269 2 271) 269 3 281) 269 4 282)) 270 0 283)) 270 1 293)) 270 2 303)) 270 3 313)) 270 4 323)) 270 5 333) ad35 hc) km_X8_init rfl (mt_2 (List.mem_of_getElem? (i := 44) rfl)) kl_RX5_21 dX5_init_63 ⟨rfl, rfl⟩ ⟨Nat.le_of_ble_eq_true rfl, Nat.le_of_ble_eq_true rfl⟩ ⟨Nat.le_of_ble_eq_true rfl, Nat.le_of_ble_eq_true rfl⟩ rfl rfl (Nat.le_of_ble_eq_true rfl) (fun v w2 hk => ?_)
  obtain ⟨rfl, ad37, hg38, hc, rfl⟩ := hk
  refine J_re (lv2 := [(1, .int (6 : Int32)), (0, .ref (ad37 269))]) (st2 := [.ref (ad37 343), .int (6 : Int32), .ref (ad37 270)]) (by (try rw [hg38 269 (by decide)]); (try rfl)) (by (try rw [hg38 270 (by decide), hg38 343 (by decide)]); (try rfl)) ?_
  show J X (83, 1420) 66 [(1, .int (6 : Int32)), (0, .ref (ad37 269))] [.ref (ad37 343), .int (6 : Int32), .ref (ad37 270)] ((cm_X8_init 343 (cm_X8_init 333 (cm_X8_init 323 (cm_X8_init 313 (cm_X8_init 303 (cm_X8_init 293 (cm_X8_init 283 (cm_X8_init 271 (wI m 269 0 (0 : Int32)))))))))), (cR_X8_init 343 (wR (cR_X8_init 333 (wR (cR_X8_init 323 (wR (cR_X8_init 313 (wR (cR_X8_init 303 (wR (cR_X8_init 293 (wR (cR_X8_init 283 (wR (wR (wR (cR_X8_init 271 (wR R 269 1 270)) 269 2 271) 269 3 281) 269 4 282)) 270 0 283)) 270 1 293)) 270 2 303)) 270 3 313)) 270 4 323)) 270 5 333)), 353, ad37)
  refine J_aastc (j := 6) hX dX5_init_66 (u := 2) (by decide) kx_270 lx_270 (by decide) rfl rfl kx_343 (by decide) ⟨_, _, rfl⟩ (by decide) (vp_lit (by decide)) (by decide) ?_
  replace hc := hc.R (a := 270) (k := 6) (b := 343) (by decide) (by decide) (by decide)
  show J X (83, 1420) 67 [(1, .int (6 : Int32)), (0, .ref (ad37 269))] [] ((cm_X8_init 343 (cm_X8_init 333 (cm_X8_init 323 (cm_X8_init 313 (cm_X8_init 303 (cm_X8_init 293 (cm_X8_init 283 (cm_X8_init 271 (wI m 269 0 (0 : Int32)))))))))), (wR (cR_X8_init 343 (wR (cR_X8_init 333 (wR (cR_X8_init 323 (wR (cR_X8_init 313 (wR (cR_X8_init 303 (wR (cR_X8_init 293 (wR (cR_X8_init 283 (wR (wR (wR (cR_X8_init 271 (wR R 269 1 270)) 269 2 271) 269 3 281) 269 4 282)) 270 0 283)) 270 1 293)) 270 2 303)) 270 3 313)) 270 4 323)) 270 5 333)) 270 6 343), 353, ad37)
  refine J_iinc (x := (7 : Int32)) (lv2 := [(1, .int (7 : Int32)), (0, .ref (ad37 269))]) hX dX5_init_67 0 rfl (by decide) (Nat.le_of_ble_eq_true rfl) rfl ?_
  refine J_goto (tgt := 48) hX dX5_init_70 (by decide) ?_
  refine J_iload_n hX dX5_init_48 rfl 0 rfl ?_
  refine J_bipush (v := (10 : Int32)) hX dX5_init_49 (by decide) ?_
  refine J_icmp_ge (tgt := 73) hX dX5_init_51 (by decide) (fun c => absurd c (by decide)) (fun _ => ?_)
  refine J_aload_n hX dX5_init_54 rfl 1 rfl ?_
  refine J_getG (w := ((cm_X8_init 343 (cm_X8_init 333 (cm_X8_init 323 (cm_X8_init 313 (cm_X8_init 303 (cm_X8_init 293 (cm_X8_init 283 (cm_X8_init 271 (wI m 269 0 (0 : Int32)))))))))), (wR (cR_X8_init 343 (wR (cR_X8_init 333 (wR (cR_X8_init 323 (wR (cR_X8_init 313 (wR (cR_X8_init 303 (wR (cR_X8_init 293 (wR (cR_X8_init 283 (wR (wR (wR (cR_X8_init 271 (wR R 269 1 270)) 269 2 271) 269 3 281) 269 4 282)) 270 0 283)) 270 1 293)) 270 2 303)) 270 3 313)) 270 4 323)) 270 5 333)) 270 6 343), 353, ad37)) hX kf_RX5_17 dX5_init_55 kx_269 (by decide) (s := 2) rfl (show 269 < 353 by omega) rfl (v := .ref (ad37 270)) (fv_ref (by rfl)) ?_
  refine J_iload_n hX dX5_init_58 rfl 0 rfl ?_
  refine J_new hX dX5_init_59 kn_RX5_15 hc kx_353 (by decide) (nf := 14) rfl ⟨Nat.le_of_ble_eq_true rfl, Nat.le_of_ble_eq_true rfl⟩ (fun ad39 hg40 => ?_)
  replace hc := hc.N (n := 354) (by omega)
  refine J_re (lv2 := [(1, .int (7 : Int32)), (0, .ref (ad39 269))]) (st2 := [.ref (ad39 353), .int (7 : Int32), .ref (ad39 270)]) (by (try rw [hg40 269 (by decide)]); (try rfl)) (by (try rw [hg40 270 (by decide)]); (try rfl)) ?_
  show J X (84, 1434) 62 [(1, .int (7 : Int32)), (0, .ref (ad39 269))] [.ref (ad39 353), .int (7 : Int32), .ref (ad39 270)] ((cm_X8_init 343 (cm_X8_init 333 (cm_X8_init 323 (cm_X8_init 313 (cm_X8_init 303 (cm_X8_init 293 (cm_X8_init 283 (cm_X8_init 271 (wI m 269 0 (0 : Int32)))))))))), (wR (cR_X8_init 343 (wR (cR_X8_init 333 (wR (cR_X8_init 323 (wR (cR_X8_init 313 (wR (cR_X8_init 303 (wR (cR_X8_init 293 (wR (cR_X8_init 283 (wR (wR (wR (cR_X8_init 271 (wR R 269 1 270)) 269 2 271) 269 3 281) 269 4 282)) 270 0 283)) 270 1 293)) 270 2 303)) 270 3 313)) 270 4 323)) 270 5 333)) 270 6 343), 354, ad39)
  refine J_dup hX dX5_init_62 rfl ?_
  refine J_cIN hX (k_X8_init 353 kx_353 (cm_X8_init 343 (cm_X8_init 333 (cm_X8_init 323 (cm_X8_init 313 (cm_X8_init 303 (cm_X8_init 293 (cm_X8_init 283 (cm_X8_init 271 (wI m 269 0 (0 : Int32)))))))))) (wR (cR_X8_init 343 (wR (cR_X8_init 333 (wR (cR_X8_init 323 (wR (cR_X8_init 313 (wR (cR_X8_init 303 (wR (cR_X8_init 293 (wR (cR_X8_init 283 (wR (wR (wR (cR_X8_init 271 (wR R 269 1 270)) 269 2 271) 269 3 281) 269 4 282)) 270 0 283)) 270 1 293)) 270 2 303)) 270 3 313)) 270 4 323)) 270 5 333)) 270 6 343) ad39 hc) km_X8_init rfl (mt_2 (List.mem_of_getElem? (i := 44) rfl)) kl_RX5_21 dX5_init_63 ⟨rfl, rfl⟩ ⟨Nat.le_of_ble_eq_true rfl, Nat.le_of_ble_eq_true rfl⟩ ⟨Nat.le_of_ble_eq_true rfl, Nat.le_of_ble_eq_true rfl⟩ rfl rfl (Nat.le_of_ble_eq_true rfl) (fun v w2 hk => ?_)
  obtain ⟨rfl, ad41, hg42, hc, rfl⟩ := hk
  refine J_re (lv2 := [(1, .int (7 : Int32)), (0, .ref (ad41 269))]) (st2 := [.ref (ad41 353), .int (7 : Int32), .ref (ad41 270)]) (by (try rw [hg42 269 (by decide)]); (try rfl)) (by (try rw [hg42 270 (by decide), hg42 353 (by decide)]); (try rfl)) ?_
  show J X (93, 1467) 66 [(1, .int (7 : Int32)), (0, .ref (ad41 269))] [.ref (ad41 353), .int (7 : Int32), .ref (ad41 270)] ((cm_X8_init 353 (cm_X8_init 343 (cm_X8_init 333 (cm_X8_init 323 (cm_X8_init 313 (cm_X8_init 303 (cm_X8_init 293 (cm_X8_init 283 (cm_X8_init 271 (wI m 269 0 (0 : Int32))))))))))), (cR_X8_init 353 (wR (cR_X8_init 343 (wR (cR_X8_init 333 (wR (cR_X8_init 323 (wR (cR_X8_init 313 (wR (cR_X8_init 303 (wR (cR_X8_init 293 (wR (cR_X8_init 283 (wR (wR (wR (cR_X8_init 271 (wR R 269 1 270)) 269 2 271) 269 3 281) 269 4 282)) 270 0 283)) 270 1 293)) 270 2 303)) 270 3 313)) 270 4 323)) 270 5 333)) 270 6 343)), 363, ad41)
  refine J_aastc (j := 7) hX dX5_init_66 (u := 2) (by decide) kx_270 lx_270 (by decide) rfl rfl kx_353 (by decide) ⟨_, _, rfl⟩ (by decide) (vp_lit (by decide)) (by decide) ?_
  replace hc := hc.R (a := 270) (k := 7) (b := 353) (by decide) (by decide) (by decide)
  show J X (93, 1467) 67 [(1, .int (7 : Int32)), (0, .ref (ad41 269))] [] ((cm_X8_init 353 (cm_X8_init 343 (cm_X8_init 333 (cm_X8_init 323 (cm_X8_init 313 (cm_X8_init 303 (cm_X8_init 293 (cm_X8_init 283 (cm_X8_init 271 (wI m 269 0 (0 : Int32))))))))))), (wR (cR_X8_init 353 (wR (cR_X8_init 343 (wR (cR_X8_init 333 (wR (cR_X8_init 323 (wR (cR_X8_init 313 (wR (cR_X8_init 303 (wR (cR_X8_init 293 (wR (cR_X8_init 283 (wR (wR (wR (cR_X8_init 271 (wR R 269 1 270)) 269 2 271) 269 3 281) 269 4 282)) 270 0 283)) 270 1 293)) 270 2 303)) 270 3 313)) 270 4 323)) 270 5 333)) 270 6 343)) 270 7 353), 363, ad41)
  refine J_iinc (x := (8 : Int32)) (lv2 := [(1, .int (8 : Int32)), (0, .ref (ad41 269))]) hX dX5_init_67 0 rfl (by decide) (Nat.le_of_ble_eq_true rfl) rfl ?_
  refine J_goto (tgt := 48) hX dX5_init_70 (by decide) ?_
  refine J_iload_n hX dX5_init_48 rfl 0 rfl ?_
  refine J_bipush (v := (10 : Int32)) hX dX5_init_49 (by decide) ?_
  refine J_icmp_ge (tgt := 73) hX dX5_init_51 (by decide) (fun c => absurd c (by decide)) (fun _ => ?_)
  refine J_aload_n hX dX5_init_54 rfl 1 rfl ?_
  refine J_getG (w := ((cm_X8_init 353 (cm_X8_init 343 (cm_X8_init 333 (cm_X8_init 323 (cm_X8_init 313 (cm_X8_init 303 (cm_X8_init 293 (cm_X8_init 283 (cm_X8_init 271 (wI m 269 0 (0 : Int32))))))))))), (wR (cR_X8_init 353 (wR (cR_X8_init 343 (wR (cR_X8_init 333 (wR (cR_X8_init 323 (wR (cR_X8_init 313 (wR (cR_X8_init 303 (wR (cR_X8_init 293 (wR (cR_X8_init 283 (wR (wR (wR (cR_X8_init 271 (wR R 269 1 270)) 269 2 271) 269 3 281) 269 4 282)) 270 0 283)) 270 1 293)) 270 2 303)) 270 3 313)) 270 4 323)) 270 5 333)) 270 6 343)) 270 7 353), 363, ad41)) hX kf_RX5_17 dX5_init_55 kx_269 (by decide) (s := 2) rfl (show 269 < 363 by omega) rfl (v := .ref (ad41 270)) (fv_ref (by rfl)) ?_
  refine J_iload_n hX dX5_init_58 rfl 0 rfl ?_
  refine J_new hX dX5_init_59 kn_RX5_15 hc kx_363 (by decide) (nf := 14) rfl ⟨Nat.le_of_ble_eq_true rfl, Nat.le_of_ble_eq_true rfl⟩ (fun ad43 hg44 => ?_)
  replace hc := hc.N (n := 364) (by omega)
  refine J_re (lv2 := [(1, .int (8 : Int32)), (0, .ref (ad43 269))]) (st2 := [.ref (ad43 363), .int (8 : Int32), .ref (ad43 270)]) (by (try rw [hg44 269 (by decide)]); (try rfl)) (by (try rw [hg44 270 (by decide)]); (try rfl)) ?_
  show J X (94, 1481) 62 [(1, .int (8 : Int32)), (0, .ref (ad43 269))] [.ref (ad43 363), .int (8 : Int32), .ref (ad43 270)] ((cm_X8_init 353 (cm_X8_init 343 (cm_X8_init 333 (cm_X8_init 323 (cm_X8_init 313 (cm_X8_init 303 (cm_X8_init 293 (cm_X8_init 283 (cm_X8_init 271 (wI m 269 0 (0 : Int32))))))))))), (wR (cR_X8_init 353 (wR (cR_X8_init 343 (wR (cR_X8_init 333 (wR (cR_X8_init 323 (wR (cR_X8_init 313 (wR (cR_X8_init 303 (wR (cR_X8_init 293 (wR (cR_X8_init 283 (wR (wR (wR (cR_X8_init 271 (wR R 269 1 270)) 269 2 271) 269 3 281) 269 4 282)) 270 0 283)) 270 1 293)) 270 2 303)) 270 3 313)) 270 4 323)) 270 5 333)) 270 6 343)) 270 7 353), 364, ad43)
  refine J_dup hX dX5_init_62 rfl ?_
  refine J_cIN hX (k_X8_init 363 kx_363 (cm_X8_init 353 (cm_X8_init 343 (cm_X8_init 333 (cm_X8_init 323 (cm_X8_init 313 (cm_X8_init 303 (cm_X8_init 293 (cm_X8_init 283 (cm_X8_init 271 (wI m 269 0 (0 : Int32))))))))))) (wR (cR_X8_init 353 (wR (cR_X8_init 343 (wR (cR_X8_init 333 (wR (cR_X8_init 323 (wR (cR_X8_init 313 (wR (cR_X8_init 303 (wR (cR_X8_init 293 (wR (cR_X8_init 283 (wR (wR (wR (cR_X8_init 271 (wR R 269 1 270)) 269 2 271) 269 3 281) 269 4 282)) 270 0 283)) 270 1 293)) 270 2 303)) 270 3 313)) 270 4 323)) 270 5 333)) 270 6 343)) 270 7 353) ad43 hc) km_X8_init rfl (mt_2 (List.mem_of_getElem? (i := 44) rfl)) kl_RX5_21 dX5_init_63 ⟨rfl, rfl⟩ ⟨Nat.le_of_ble_eq_true rfl, Nat.le_of_ble_eq_true rfl⟩ ⟨Nat.le_of_ble_eq_true rfl, Nat.le_of_ble_eq_true rfl⟩ rfl rfl (Nat.le_of_ble_eq_true rfl) (fun v w2 hk => ?_)
  obtain ⟨rfl, ad45, hg46, hc, rfl⟩ := hk
  refine J_re (lv2 := [(1, .int (8 : Int32)), (0, .ref (ad45 269))]) (st2 := [.ref (ad45 363), .int (8 : Int32), .ref (ad45 270)]) (by (try rw [hg46 269 (by decide)]); (try rfl)) (by (try rw [hg46 270 (by decide), hg46 363 (by decide)]); (try rfl)) ?_
  show J X (103, 1514) 66 [(1, .int (8 : Int32)), (0, .ref (ad45 269))] [.ref (ad45 363), .int (8 : Int32), .ref (ad45 270)] ((cm_X8_init 363 (cm_X8_init 353 (cm_X8_init 343 (cm_X8_init 333 (cm_X8_init 323 (cm_X8_init 313 (cm_X8_init 303 (cm_X8_init 293 (cm_X8_init 283 (cm_X8_init 271 (wI m 269 0 (0 : Int32)))))))))))), (cR_X8_init 363 (wR (cR_X8_init 353 (wR (cR_X8_init 343 (wR (cR_X8_init 333 (wR (cR_X8_init 323 (wR (cR_X8_init 313 (wR (cR_X8_init 303 (wR (cR_X8_init 293 (wR (cR_X8_init 283 (wR (wR (wR (cR_X8_init 271 (wR R 269 1 270)) 269 2 271) 269 3 281) 269 4 282)) 270 0 283)) 270 1 293)) 270 2 303)) 270 3 313)) 270 4 323)) 270 5 333)) 270 6 343)) 270 7 353)), 373, ad45)
  refine J_aastc (j := 8) hX dX5_init_66 (u := 2) (by decide) kx_270 lx_270 (by decide) rfl rfl kx_363 (by decide) ⟨_, _, rfl⟩ (by decide) (vp_lit (by decide)) (by decide) ?_
  replace hc := hc.R (a := 270) (k := 8) (b := 363) (by decide) (by decide) (by decide)
  show J X (103, 1514) 67 [(1, .int (8 : Int32)), (0, .ref (ad45 269))] [] ((cm_X8_init 363 (cm_X8_init 353 (cm_X8_init 343 (cm_X8_init 333 (cm_X8_init 323 (cm_X8_init 313 (cm_X8_init 303 (cm_X8_init 293 (cm_X8_init 283 (cm_X8_init 271 (wI m 269 0 (0 : Int32)))))))))))), (wR (cR_X8_init 363 (wR (cR_X8_init 353 (wR (cR_X8_init 343 (wR (cR_X8_init 333 (wR (cR_X8_init 323 (wR (cR_X8_init 313 (wR (cR_X8_init 303 (wR (cR_X8_init 293 (wR (cR_X8_init 283 (wR (wR (wR (cR_X8_init 271 (wR R 269 1 270)) 269 2 271) 269 3 281) 269 4 282)) 270 0 283)) 270 1 293)) 270 2 303)) 270 3 313)) 270 4 323)) 270 5 333)) 270 6 343)) 270 7 353)) 270 8 363), 373, ad45)
  refine J_iinc (x := (9 : Int32)) (lv2 := [(1, .int (9 : Int32)), (0, .ref (ad45 269))]) hX dX5_init_67 0 rfl (by decide) (Nat.le_of_ble_eq_true rfl) rfl ?_
  refine J_goto (tgt := 48) hX dX5_init_70 (by decide) ?_
  refine J_iload_n hX dX5_init_48 rfl 0 rfl ?_
  refine J_bipush (v := (10 : Int32)) hX dX5_init_49 (by decide) ?_
  refine J_icmp_ge (tgt := 73) hX dX5_init_51 (by decide) (fun c => absurd c (by decide)) (fun _ => ?_)
  refine J_aload_n hX dX5_init_54 rfl 1 rfl ?_
  refine J_getG (w := ((cm_X8_init 363 (cm_X8_init 353 (cm_X8_init 343 (cm_X8_init 333 (cm_X8_init 323 (cm_X8_init 313 (cm_X8_init 303 (cm_X8_init 293 (cm_X8_init 283 (cm_X8_init 271 (wI m 269 0 (0 : Int32)))))))))))), (wR (cR_X8_init 363 (wR (cR_X8_init 353 (wR (cR_X8_init 343 (wR (cR_X8_init 333 (wR (cR_X8_init 323 (wR (cR_X8_init 313 (wR (cR_X8_init 303 (wR (cR_X8_init 293 (wR (cR_X8_init 283 (wR (wR (wR (cR_X8_init 271 (wR R 269 1 270)) 269 2 271) 269 3 281) 269 4 282)) 270 0 283)) 270 1 293)) 270 2 303)) 270 3 313)) 270 4 323)) 270 5 333)) 270 6 343)) 270 7 353)) 270 8 363), 373, ad45)) hX kf_RX5_17 dX5_init_55 kx_269 (by decide) (s := 2) rfl (show 269 < 373 by omega) rfl (v := .ref (ad45 270)) (fv_ref (by rfl)) ?_
  refine J_iload_n hX dX5_init_58 rfl 0 rfl ?_
  refine J_new hX dX5_init_59 kn_RX5_15 hc kx_373 (by decide) (nf := 14) rfl ⟨Nat.le_of_ble_eq_true rfl, Nat.le_of_ble_eq_true rfl⟩ (fun ad47 hg48 => ?_)
  replace hc := hc.N (n := 374) (by omega)
  refine J_re (lv2 := [(1, .int (9 : Int32)), (0, .ref (ad47 269))]) (st2 := [.ref (ad47 373), .int (9 : Int32), .ref (ad47 270)]) (by (try rw [hg48 269 (by decide)]); (try rfl)) (by (try rw [hg48 270 (by decide)]); (try rfl)) ?_
  show J X (104, 1528) 62 [(1, .int (9 : Int32)), (0, .ref (ad47 269))] [.ref (ad47 373), .int (9 : Int32), .ref (ad47 270)] ((cm_X8_init 363 (cm_X8_init 353 (cm_X8_init 343 (cm_X8_init 333 (cm_X8_init 323 (cm_X8_init 313 (cm_X8_init 303 (cm_X8_init 293 (cm_X8_init 283 (cm_X8_init 271 (wI m 269 0 (0 : Int32)))))))))))), (wR (cR_X8_init 363 (wR (cR_X8_init 353 (wR (cR_X8_init 343 (wR (cR_X8_init 333 (wR (cR_X8_init 323 (wR (cR_X8_init 313 (wR (cR_X8_init 303 (wR (cR_X8_init 293 (wR (cR_X8_init 283 (wR (wR (wR (cR_X8_init 271 (wR R 269 1 270)) 269 2 271) 269 3 281) 269 4 282)) 270 0 283)) 270 1 293)) 270 2 303)) 270 3 313)) 270 4 323)) 270 5 333)) 270 6 343)) 270 7 353)) 270 8 363), 374, ad47)
  refine J_dup hX dX5_init_62 rfl ?_
  refine J_cIN hX (k_X8_init 373 kx_373 (cm_X8_init 363 (cm_X8_init 353 (cm_X8_init 343 (cm_X8_init 333 (cm_X8_init 323 (cm_X8_init 313 (cm_X8_init 303 (cm_X8_init 293 (cm_X8_init 283 (cm_X8_init 271 (wI m 269 0 (0 : Int32)))))))))))) (wR (cR_X8_init 363 (wR (cR_X8_init 353 (wR (cR_X8_init 343 (wR (cR_X8_init 333 (wR (cR_X8_init 323 (wR (cR_X8_init 313 (wR (cR_X8_init 303 (wR (cR_X8_init 293 (wR (cR_X8_init 283 (wR (wR (wR (cR_X8_init 271 (wR R 269 1 270)) 269 2 271) 269 3 281) 269 4 282)) 270 0 283)) 270 1 293)) 270 2 303)) 270 3 313)) 270 4 323)) 270 5 333)) 270 6 343)) 270 7 353)) 270 8 363) ad47 hc) km_X8_init rfl (mt_2 (List.mem_of_getElem? (i := 44) rfl)) kl_RX5_21 dX5_init_63 ⟨rfl, rfl⟩ ⟨Nat.le_of_ble_eq_true rfl, Nat.le_of_ble_eq_true rfl⟩ ⟨Nat.le_of_ble_eq_true rfl, Nat.le_of_ble_eq_true rfl⟩ rfl rfl (Nat.le_of_ble_eq_true rfl) (fun v w2 hk => ?_)
  obtain ⟨rfl, ad49, hg50, hc, rfl⟩ := hk
  refine J_re (lv2 := [(1, .int (9 : Int32)), (0, .ref (ad49 269))]) (st2 := [.ref (ad49 373), .int (9 : Int32), .ref (ad49 270)]) (by (try rw [hg50 269 (by decide)]); (try rfl)) (by (try rw [hg50 270 (by decide), hg50 373 (by decide)]); (try rfl)) ?_
  show J X (113, 1561) 66 [(1, .int (9 : Int32)), (0, .ref (ad49 269))] [.ref (ad49 373), .int (9 : Int32), .ref (ad49 270)] ((cm_X8_init 373 (cm_X8_init 363 (cm_X8_init 353 (cm_X8_init 343 (cm_X8_init 333 (cm_X8_init 323 (cm_X8_init 313 (cm_X8_init 303 (cm_X8_init 293 (cm_X8_init 283 (cm_X8_init 271 (wI m 269 0 (0 : Int32))))))))))))), (cR_X8_init 373 (wR (cR_X8_init 363 (wR (cR_X8_init 353 (wR (cR_X8_init 343 (wR (cR_X8_init 333 (wR (cR_X8_init 323 (wR (cR_X8_init 313 (wR (cR_X8_init 303 (wR (cR_X8_init 293 (wR (cR_X8_init 283 (wR (wR (wR (cR_X8_init 271 (wR R 269 1 270)) 269 2 271) 269 3 281) 269 4 282)) 270 0 283)) 270 1 293)) 270 2 303)) 270 3 313)) 270 4 323)) 270 5 333)) 270 6 343)) 270 7 353)) 270 8 363)), 383, ad49)
  refine J_aastc (j := 9) hX dX5_init_66 (u := 2) (by decide) kx_270 lx_270 (by decide) rfl rfl kx_373 (by decide) ⟨_, _, rfl⟩ (by decide) (vp_lit (by decide)) (by decide) ?_
  replace hc := hc.R (a := 270) (k := 9) (b := 373) (by decide) (by decide) (by decide)
  show J X (113, 1561) 67 [(1, .int (9 : Int32)), (0, .ref (ad49 269))] [] ((cm_X8_init 373 (cm_X8_init 363 (cm_X8_init 353 (cm_X8_init 343 (cm_X8_init 333 (cm_X8_init 323 (cm_X8_init 313 (cm_X8_init 303 (cm_X8_init 293 (cm_X8_init 283 (cm_X8_init 271 (wI m 269 0 (0 : Int32))))))))))))), (wR (cR_X8_init 373 (wR (cR_X8_init 363 (wR (cR_X8_init 353 (wR (cR_X8_init 343 (wR (cR_X8_init 333 (wR (cR_X8_init 323 (wR (cR_X8_init 313 (wR (cR_X8_init 303 (wR (cR_X8_init 293 (wR (cR_X8_init 283 (wR (wR (wR (cR_X8_init 271 (wR R 269 1 270)) 269 2 271) 269 3 281) 269 4 282)) 270 0 283)) 270 1 293)) 270 2 303)) 270 3 313)) 270 4 323)) 270 5 333)) 270 6 343)) 270 7 353)) 270 8 363)) 270 9 373), 383, ad49)
  refine J_iinc (x := (10 : Int32)) (lv2 := [(1, .int (10 : Int32)), (0, .ref (ad49 269))]) hX dX5_init_67 0 rfl (by decide) (Nat.le_of_ble_eq_true rfl) rfl ?_
  refine J_goto (tgt := 48) hX dX5_init_70 (by decide) ?_
  refine J_iload_n hX dX5_init_48 rfl 0 rfl ?_
  refine J_bipush (v := (10 : Int32)) hX dX5_init_49 (by decide) ?_
  refine J_icmp_ge (tgt := 73) hX dX5_init_51 (by decide) (fun _ => ?_) (fun c => absurd (by decide) c)
  exact J_vret hX hR dX5_init_73 ⟨rfl, ad49, fun b hb => (hg50 b (by omega)).trans ((hg48 b (by omega)).trans ((hg46 b (by omega)).trans ((hg44 b (by omega)).trans ((hg42 b (by omega)).trans ((hg40 b (by omega)).trans ((hg38 b (by omega)).trans ((hg36 b (by omega)).trans ((hg34 b (by omega)).trans ((hg32 b (by omega)).trans ((hg30 b (by omega)).trans ((hg28 b (by omega)).trans ((hg26 b (by omega)).trans ((hg24 b (by omega)).trans ((hg22 b (by omega)).trans ((hg20 b (by omega)).trans ((hg18 b (by omega)).trans ((hg16 b (by omega)).trans ((hg14 b (by omega)).trans ((hg12 b (by omega)).trans ((hg10 b (by omega)).trans ((hg8 b (by omega)).trans ((hg6 b (by omega)).trans ((hg4 b (by omega)).trans ((hg2 b (by omega)).trans rfl)))))))))))))))))))))))), hc, rfl⟩
def cm_X10_init (m : Mm) : Mm := (cm_X2_init 388 (wI (cm_X5_init (wI m 268 0 (0 : Int32))) 268 2 (0 : Int32)))
def cR_X10_init (R : Nat → Nat → Option Nat) : Nat → Nat → Option Nat := (wR (cR_X2_init 388 (wR (wR (wR (wR (wR (wR (cR_X5_init R) 268 1 269) 268 3 383) 268 4 384) 268 5 385) 268 6 386) 268 7 387)) 268 8 388)
set_option maxRecDepth 100000 in
set_option maxHeartbeats 4000000 in
theorem k_X10_init {G : GT} (m : Mm) (R : Nat → Nat → Option Nat) (ad : Nat → Nat) (hc : cw (m, R, 269)) : Cn G yX10_init cX10_init 1 none { frames := 3, cells := 122, slots := 3449, locals := 53 } [.ref (ad 268)] (122, 3449) (m, R, 269, ad) (fun v w => v = none ∧ ∃ ad2 : Nat → Nat, (∀ b, b < 269 → ad2 b = ad b) ∧ cw (cm_X10_init m, cR_X10_init R, 391) ∧ w = (cm_X10_init m, cR_X10_init R, 391, ad2)) := by
  refine Cn.ofI pn_RX10 (Nat.le_of_ble_eq_true rfl) (fun X hG hX hR hin => ?_)
  subst hG
  have hX : Cx X cX10_init 1 RX10 { frames := 3, cells := 122, slots := 3449, locals := 53 } := hX
  have hin : (xh X).name = "<init>" := hin
  show J X (0, 0) 0 [(0, .ref (ad 268))] [] (m, R, 269, ad)
  refine J_aload_n hX dX10_init_0 rfl 0 rfl ?_
  refine J_objI hX kl_RX10_3 oi_inst oi_code dX10_init_1 (Nat.le_of_ble_eq_true rfl) (Nat.le_of_ble_eq_true rfl) ?_
  refine J_aload_n hX dX10_init_4 rfl 0 rfl ?_
  refine J_iconst (v := (0 : Int32)) hX dX10_init_5 (by decide) ?_
  refine J_putIc hX kf_RX10_9 dX10_init_6 kx_268 (by decide) rfl (by decide) rfl ?_
  replace hc := hc.I (a := 268) (k := 0) (v := (0 : Int32)) (by decide)
  show J X (0, 0) 9 [(0, .ref (ad 268))] [] ((wI m 268 0 (0 : Int32)), R, 269, ad)
  refine J_aload_n hX dX10_init_9 rfl 0 rfl ?_
  refine J_new hX dX10_init_10 kn_RX10_15 hc kx_269 (by decide) (nf := 5) rfl ⟨Nat.le_of_ble_eq_true rfl, Nat.le_of_ble_eq_true rfl⟩ (fun ad1 hg2 => ?_)
  replace hc := hc.N (n := 270) (by omega)
  refine J_re (lv2 := [(0, .ref (ad1 268))]) (st2 := [.ref (ad1 269), .ref (ad1 268)]) (by (try rw [hg2 268 (by decide)]); (try rfl)) (by (try rw [hg2 268 (by decide)]); (try rfl)) ?_
  show J X (1, 5) 13 [(0, .ref (ad1 268))] [.ref (ad1 269), .ref (ad1 268)] ((wI m 268 0 (0 : Int32)), R, 270, ad1)
  refine J_dup hX dX10_init_13 rfl ?_
  refine J_cI hX (k_X5_init (wI m 268 0 (0 : Int32)) R ad1 hc) km_X5_init rfl (mt_2 (List.mem_of_getElem? (i := 37) rfl)) kl_RX10_17 dX10_init_14 ⟨rfl, rfl⟩ ⟨Nat.le_of_ble_eq_true rfl, Nat.le_of_ble_eq_true rfl⟩ ⟨Nat.le_of_ble_eq_true rfl, Nat.le_of_ble_eq_true rfl⟩ rfl rfl (Nat.le_of_ble_eq_true rfl) (fun v w2 hk => ?_)
  obtain ⟨rfl, ad3, hg4, hc, rfl⟩ := hk
  refine J_re (lv2 := [(0, .ref (ad3 268))]) (st2 := [.ref (ad3 269), .ref (ad3 268)]) (by (try rw [hg4 268 (by decide)]); (try rfl)) (by (try rw [hg4 268 (by decide), hg4 269 (by decide)]); (try rfl)) ?_
  show J X (114, 1566) 17 [(0, .ref (ad3 268))] [.ref (ad3 269), .ref (ad3 268)] ((cm_X5_init (wI m 268 0 (0 : Int32))), (cR_X5_init R), 383, ad3)
  refine J_putRF hX hin kf_RX10_18 ⟨_, _, rfl⟩ dX10_init_17 kx_268 (by decide) rfl (by decide) rfl rfl rfl rfl ?_
  replace hc := hc.R (a := 268) (k := 1) (b := 269) (by decide) (by decide) (by decide)
  show J X (114, 1566) 20 [(0, .ref (ad3 268))] [] ((cm_X5_init (wI m 268 0 (0 : Int32))), (wR (cR_X5_init R) 268 1 269), 383, ad3)
  refine J_aload_n hX dX10_init_20 rfl 0 rfl ?_
  refine J_iconst (v := (0 : Int32)) hX dX10_init_21 (by decide) ?_
  refine J_putIc hX kf_RX10_22 dX10_init_22 kx_268 (by decide) rfl (by decide) rfl ?_
  replace hc := hc.I (a := 268) (k := 2) (v := (0 : Int32)) (by decide)
  show J X (114, 1566) 25 [(0, .ref (ad3 268))] [] ((wI (cm_X5_init (wI m 268 0 (0 : Int32))) 268 2 (0 : Int32)), (wR (cR_X5_init R) 268 1 269), 383, ad3)
  refine J_aload_n hX dX10_init_25 rfl 0 rfl ?_
  refine J_sipush (v := (360 : Int32)) hX dX10_init_26 (by decide) ?_
  refine J_newaI hX dX10_init_29 hc kx_383 lx_383 (by decide) (by decide) (Nat.le_of_ble_eq_true rfl) ⟨Nat.le_of_ble_eq_true rfl, Nat.le_of_ble_eq_true rfl⟩ (fun ad5 hg6 => ?_)
  replace hc := hc.N (n := 384) (by omega)
  refine J_re (lv2 := [(0, .ref (ad5 268))]) (st2 := [.ref (ad5 383), .ref (ad5 268)]) (by (try rw [hg6 268 (by decide)]); (try rfl)) (by (try rw [hg6 268 (by decide)]); (try rfl)) ?_
  show J X (115, 1926) 31 [(0, .ref (ad5 268))] [.ref (ad5 383), .ref (ad5 268)] ((wI (cm_X5_init (wI m 268 0 (0 : Int32))) 268 2 (0 : Int32)), (wR (cR_X5_init R) 268 1 269), 384, ad5)
  refine J_putRF hX hin kf_RX10_25 ⟨_, _, rfl⟩ dX10_init_31 kx_268 (by decide) rfl (by decide) rfl rfl rfl rfl ?_
  replace hc := hc.R (a := 268) (k := 3) (b := 383) (by decide) (by decide) (by decide)
  show J X (115, 1926) 34 [(0, .ref (ad5 268))] [] ((wI (cm_X5_init (wI m 268 0 (0 : Int32))) 268 2 (0 : Int32)), (wR (wR (cR_X5_init R) 268 1 269) 268 3 383), 384, ad5)
  refine J_aload_n hX dX10_init_34 rfl 0 rfl ?_
  refine J_sipush (v := (360 : Int32)) hX dX10_init_35 (by decide) ?_
  refine J_newaI hX dX10_init_38 hc kx_384 lx_384 (by decide) (by decide) (Nat.le_of_ble_eq_true rfl) ⟨Nat.le_of_ble_eq_true rfl, Nat.le_of_ble_eq_true rfl⟩ (fun ad7 hg8 => ?_)
  replace hc := hc.N (n := 385) (by omega)
  refine J_re (lv2 := [(0, .ref (ad7 268))]) (st2 := [.ref (ad7 384), .ref (ad7 268)]) (by (try rw [hg8 268 (by decide)]); (try rfl)) (by (try rw [hg8 268 (by decide)]); (try rfl)) ?_
  show J X (116, 2286) 40 [(0, .ref (ad7 268))] [.ref (ad7 384), .ref (ad7 268)] ((wI (cm_X5_init (wI m 268 0 (0 : Int32))) 268 2 (0 : Int32)), (wR (wR (cR_X5_init R) 268 1 269) 268 3 383), 385, ad7)
  refine J_putRF hX hin kf_RX10_29 ⟨_, _, rfl⟩ dX10_init_40 kx_268 (by decide) rfl (by decide) rfl rfl rfl rfl ?_
  replace hc := hc.R (a := 268) (k := 4) (b := 384) (by decide) (by decide) (by decide)
  show J X (116, 2286) 43 [(0, .ref (ad7 268))] [] ((wI (cm_X5_init (wI m 268 0 (0 : Int32))) 268 2 (0 : Int32)), (wR (wR (wR (cR_X5_init R) 268 1 269) 268 3 383) 268 4 384), 385, ad7)
  refine J_aload_n hX dX10_init_43 rfl 0 rfl ?_
  refine J_sipush (v := (360 : Int32)) hX dX10_init_44 (by decide) ?_
  refine J_newaI hX dX10_init_47 hc kx_385 lx_385 (by decide) (by decide) (Nat.le_of_ble_eq_true rfl) ⟨Nat.le_of_ble_eq_true rfl, Nat.le_of_ble_eq_true rfl⟩ (fun ad9 hg10 => ?_)
  replace hc := hc.N (n := 386) (by omega)
  refine J_re (lv2 := [(0, .ref (ad9 268))]) (st2 := [.ref (ad9 385), .ref (ad9 268)]) (by (try rw [hg10 268 (by decide)]); (try rfl)) (by (try rw [hg10 268 (by decide)]); (try rfl)) ?_
  show J X (117, 2646) 49 [(0, .ref (ad9 268))] [.ref (ad9 385), .ref (ad9 268)] ((wI (cm_X5_init (wI m 268 0 (0 : Int32))) 268 2 (0 : Int32)), (wR (wR (wR (cR_X5_init R) 268 1 269) 268 3 383) 268 4 384), 386, ad9)
  refine J_putRF hX hin kf_RX10_32 ⟨_, _, rfl⟩ dX10_init_49 kx_268 (by decide) rfl (by decide) rfl rfl rfl rfl ?_
  replace hc := hc.R (a := 268) (k := 5) (b := 385) (by decide) (by decide) (by decide)
  show J X (117, 2646) 52 [(0, .ref (ad9 268))] [] ((wI (cm_X5_init (wI m 268 0 (0 : Int32))) 268 2 (0 : Int32)), (wR (wR (wR (wR (cR_X5_init R) 268 1 269) 268 3 383) 268 4 384) 268 5 385), 386, ad9)
  refine J_aload_n hX dX10_init_52 rfl 0 rfl ?_
  refine J_sipush (v := (360 : Int32)) hX dX10_init_53 (by decide) ?_
  refine J_newaI hX dX10_init_56 hc kx_386 lx_386 (by decide) (by decide) (Nat.le_of_ble_eq_true rfl) ⟨Nat.le_of_ble_eq_true rfl, Nat.le_of_ble_eq_true rfl⟩ (fun ad11 hg12 => ?_)
  replace hc := hc.N (n := 387) (by omega)
  refine J_re (lv2 := [(0, .ref (ad11 268))]) (st2 := [.ref (ad11 386), .ref (ad11 268)]) (by (try rw [hg12 268 (by decide)]); (try rfl)) (by (try rw [hg12 268 (by decide)]); (try rfl)) ?_
  show J X (118, 3006) 58 [(0, .ref (ad11 268))] [.ref (ad11 386), .ref (ad11 268)] ((wI (cm_X5_init (wI m 268 0 (0 : Int32))) 268 2 (0 : Int32)), (wR (wR (wR (wR (cR_X5_init R) 268 1 269) 268 3 383) 268 4 384) 268 5 385), 387, ad11)
  refine J_putRF hX hin kf_RX10_35 ⟨_, _, rfl⟩ dX10_init_58 kx_268 (by decide) rfl (by decide) rfl rfl rfl rfl ?_
  replace hc := hc.R (a := 268) (k := 6) (b := 386) (by decide) (by decide) (by decide)
  show J X (118, 3006) 61 [(0, .ref (ad11 268))] [] ((wI (cm_X5_init (wI m 268 0 (0 : Int32))) 268 2 (0 : Int32)), (wR (wR (wR (wR (wR (cR_X5_init R) 268 1 269) 268 3 383) 268 4 384) 268 5 385) 268 6 386), 387, ad11)
  refine J_aload_n hX dX10_init_61 rfl 0 rfl ?_
  refine J_sipush (v := (360 : Int32)) hX dX10_init_62 (by decide) ?_
  refine J_newaI hX dX10_init_65 hc kx_387 lx_387 (by decide) (by decide) (Nat.le_of_ble_eq_true rfl) ⟨Nat.le_of_ble_eq_true rfl, Nat.le_of_ble_eq_true rfl⟩ (fun ad13 hg14 => ?_)
  replace hc := hc.N (n := 388) (by omega)
  refine J_re (lv2 := [(0, .ref (ad13 268))]) (st2 := [.ref (ad13 387), .ref (ad13 268)]) (by (try rw [hg14 268 (by decide)]); (try rfl)) (by (try rw [hg14 268 (by decide)]); (try rfl)) ?_
  show J X (119, 3366) 67 [(0, .ref (ad13 268))] [.ref (ad13 387), .ref (ad13 268)] ((wI (cm_X5_init (wI m 268 0 (0 : Int32))) 268 2 (0 : Int32)), (wR (wR (wR (wR (wR (cR_X5_init R) 268 1 269) 268 3 383) 268 4 384) 268 5 385) 268 6 386), 388, ad13)
  refine J_putRF hX hin kf_RX10_38 ⟨_, _, rfl⟩ dX10_init_67 kx_268 (by decide) rfl (by decide) rfl rfl rfl rfl ?_
  replace hc := hc.R (a := 268) (k := 7) (b := 387) (by decide) (by decide) (by decide)
  show J X (119, 3366) 70 [(0, .ref (ad13 268))] [] ((wI (cm_X5_init (wI m 268 0 (0 : Int32))) 268 2 (0 : Int32)), (wR (wR (wR (wR (wR (wR (cR_X5_init R) 268 1 269) 268 3 383) 268 4 384) 268 5 385) 268 6 386) 268 7 387), 388, ad13)
  refine J_aload_n hX dX10_init_70 rfl 0 rfl ?_
  refine J_new hX dX10_init_71 kn_RX10_41 hc kx_388 (by decide) (nf := 3) rfl ⟨Nat.le_of_ble_eq_true rfl, Nat.le_of_ble_eq_true rfl⟩ (fun ad15 hg16 => ?_)
  replace hc := hc.N (n := 389) (by omega)
  refine J_re (lv2 := [(0, .ref (ad15 268))]) (st2 := [.ref (ad15 388), .ref (ad15 268)]) (by (try rw [hg16 268 (by decide)]); (try rfl)) (by (try rw [hg16 268 (by decide)]); (try rfl)) ?_
  show J X (120, 3369) 74 [(0, .ref (ad15 268))] [.ref (ad15 388), .ref (ad15 268)] ((wI (cm_X5_init (wI m 268 0 (0 : Int32))) 268 2 (0 : Int32)), (wR (wR (wR (wR (wR (wR (cR_X5_init R) 268 1 269) 268 3 383) 268 4 384) 268 5 385) 268 6 386) 268 7 387), 389, ad15)
  refine J_dup hX dX10_init_74 rfl ?_
  refine J_cIN hX (k_X2_init 388 kx_388 (wI (cm_X5_init (wI m 268 0 (0 : Int32))) 268 2 (0 : Int32)) (wR (wR (wR (wR (wR (wR (cR_X5_init R) 268 1 269) 268 3 383) 268 4 384) 268 5 385) 268 6 386) 268 7 387) ad15 hc) km_X2_init rfl (mt_1 (List.mem_of_getElem? (i := 236) rfl)) kl_RX10_43 dX10_init_75 ⟨rfl, rfl⟩ ⟨Nat.le_of_ble_eq_true rfl, Nat.le_of_ble_eq_true rfl⟩ ⟨Nat.le_of_ble_eq_true rfl, Nat.le_of_ble_eq_true rfl⟩ rfl rfl (Nat.le_of_ble_eq_true rfl) (fun v w2 hk => ?_)
  obtain ⟨rfl, ad17, hg18, hc, rfl⟩ := hk
  refine J_re (lv2 := [(0, .ref (ad17 268))]) (st2 := [.ref (ad17 388), .ref (ad17 268)]) (by (try rw [hg18 268 (by decide)]); (try rfl)) (by (try rw [hg18 268 (by decide), hg18 388 (by decide)]); (try rfl)) ?_
  show J X (122, 3449) 78 [(0, .ref (ad17 268))] [.ref (ad17 388), .ref (ad17 268)] ((cm_X2_init 388 (wI (cm_X5_init (wI m 268 0 (0 : Int32))) 268 2 (0 : Int32))), (cR_X2_init 388 (wR (wR (wR (wR (wR (wR (cR_X5_init R) 268 1 269) 268 3 383) 268 4 384) 268 5 385) 268 6 386) 268 7 387)), 391, ad17)
  refine J_putRF hX hin kf_RX10_44 ⟨_, _, rfl⟩ dX10_init_78 kx_268 (by decide) rfl (by decide) rfl rfl rfl rfl ?_
  replace hc := hc.R (a := 268) (k := 8) (b := 388) (by decide) (by decide) (by decide)
  show J X (122, 3449) 81 [(0, .ref (ad17 268))] [] ((cm_X2_init 388 (wI (cm_X5_init (wI m 268 0 (0 : Int32))) 268 2 (0 : Int32))), (wR (cR_X2_init 388 (wR (wR (wR (wR (wR (wR (cR_X5_init R) 268 1 269) 268 3 383) 268 4 384) 268 5 385) 268 6 386) 268 7 387)) 268 8 388), 391, ad17)
  exact J_vret hX hR dX10_init_81 ⟨rfl, ad17, fun b hb => (hg18 b (by omega)).trans ((hg16 b (by omega)).trans ((hg14 b (by omega)).trans ((hg12 b (by omega)).trans ((hg10 b (by omega)).trans ((hg8 b (by omega)).trans ((hg6 b (by omega)).trans ((hg4 b (by omega)).trans ((hg2 b (by omega)).trans rfl)))))))), hc, rfl⟩
def cm_X0_init (m : Mm) : Mm := (cm_X10_init (wI (wI (wI (wI (wI m 267 0 (0 : Int32)) 267 1 (0 : Int32)) 267 2 (0 : Int32)) 267 3 (-9 : Int32)) 267 4 (-9 : Int32)))
def cR_X0_init (R : Nat → Nat → Option Nat) : Nat → Nat → Option Nat := (wR (wR (wR (wR (wR (wR (cR_X10_init R) 267 5 268) 267 6 269) 267 7 391) 267 8 392) 267 9 393) 267 10 394)
set_option maxRecDepth 100000 in
set_option maxHeartbeats 4000000 in
theorem k_X0_init {G : GT} (m : Mm) (R : Nat → Nat → Option Nat) (ad : Nat → Nat) (hc : cw (m, R, 268)) : Cn G yX0_init cX0_init 1 none { frames := 4, cells := 127, slots := 3482, locals := 73 } [.ref (ad 267)] (127, 3482) (m, R, 268, ad) (fun v w => v = none ∧ ∃ ad2 : Nat → Nat, (∀ b, b < 268 → ad2 b = ad b) ∧ cw (cm_X0_init m, cR_X0_init R, 395) ∧ w = (cm_X0_init m, cR_X0_init R, 395, ad2)) := by
  refine Cn.ofI pn_RX0 (Nat.le_of_ble_eq_true rfl) (fun X hG hX hR hin => ?_)
  subst hG
  have hX : Cx X cX0_init 1 RX0 { frames := 4, cells := 127, slots := 3482, locals := 73 } := hX
  have hin : (xh X).name = "<init>" := hin
  show J X (0, 0) 0 [(0, .ref (ad 267))] [] (m, R, 268, ad)
  refine J_aload_n hX dX0_init_0 rfl 0 rfl ?_
  refine J_objI hX kl_RX0_3 oi_inst oi_code dX0_init_1 (Nat.le_of_ble_eq_true rfl) (Nat.le_of_ble_eq_true rfl) ?_
  refine J_aload_n hX dX0_init_4 rfl 0 rfl ?_
  refine J_iconst (v := (0 : Int32)) hX dX0_init_5 (by decide) ?_
  refine J_putIc hX kf_RX0_9 dX0_init_6 kx_267 (by decide) rfl (by decide) rfl ?_
  replace hc := hc.I (a := 267) (k := 0) (v := (0 : Int32)) (by decide)
  show J X (0, 0) 9 [(0, .ref (ad 267))] [] ((wI m 267 0 (0 : Int32)), R, 268, ad)
  refine J_aload_n hX dX0_init_9 rfl 0 rfl ?_
  refine J_iconst (v := (0 : Int32)) hX dX0_init_10 (by decide) ?_
  refine J_putIc hX kf_RX0_15 dX0_init_11 kx_267 (by decide) rfl (by decide) rfl ?_
  replace hc := hc.I (a := 267) (k := 1) (v := (0 : Int32)) (by decide)
  show J X (0, 0) 14 [(0, .ref (ad 267))] [] ((wI (wI m 267 0 (0 : Int32)) 267 1 (0 : Int32)), R, 268, ad)
  refine J_aload_n hX dX0_init_14 rfl 0 rfl ?_
  refine J_iconst (v := (0 : Int32)) hX dX0_init_15 (by decide) ?_
  refine J_putIc hX kf_RX0_18 dX0_init_16 kx_267 (by decide) rfl (by decide) rfl ?_
  replace hc := hc.I (a := 267) (k := 2) (v := (0 : Int32)) (by decide)
  show J X (0, 0) 19 [(0, .ref (ad 267))] [] ((wI (wI (wI m 267 0 (0 : Int32)) 267 1 (0 : Int32)) 267 2 (0 : Int32)), R, 268, ad)
  refine J_aload_n hX dX0_init_19 rfl 0 rfl ?_
  refine J_bipush (v := (-9 : Int32)) hX dX0_init_20 (by decide) ?_
  refine J_putIc hX kf_RX0_21 dX0_init_22 kx_267 (by decide) rfl (by decide) rfl ?_
  replace hc := hc.I (a := 267) (k := 3) (v := (-9 : Int32)) (by decide)
  show J X (0, 0) 25 [(0, .ref (ad 267))] [] ((wI (wI (wI (wI m 267 0 (0 : Int32)) 267 1 (0 : Int32)) 267 2 (0 : Int32)) 267 3 (-9 : Int32)), R, 268, ad)
  refine J_aload_n hX dX0_init_25 rfl 0 rfl ?_
  refine J_bipush (v := (-9 : Int32)) hX dX0_init_26 (by decide) ?_
  refine J_putIc hX kf_RX0_24 dX0_init_28 kx_267 (by decide) rfl (by decide) rfl ?_
  replace hc := hc.I (a := 267) (k := 4) (v := (-9 : Int32)) (by decide)
  show J X (0, 0) 31 [(0, .ref (ad 267))] [] ((wI (wI (wI (wI (wI m 267 0 (0 : Int32)) 267 1 (0 : Int32)) 267 2 (0 : Int32)) 267 3 (-9 : Int32)) 267 4 (-9 : Int32)), R, 268, ad)
  refine J_aload_n hX dX0_init_31 rfl 0 rfl ?_
  refine J_new hX dX0_init_32 kn_RX0_27 hc kx_268 (by decide) (nf := 9) rfl ⟨Nat.le_of_ble_eq_true rfl, Nat.le_of_ble_eq_true rfl⟩ (fun ad1 hg2 => ?_)
  replace hc := hc.N (n := 269) (by omega)
  refine J_re (lv2 := [(0, .ref (ad1 267))]) (st2 := [.ref (ad1 268), .ref (ad1 267)]) (by (try rw [hg2 267 (by decide)]); (try rfl)) (by (try rw [hg2 267 (by decide)]); (try rfl)) ?_
  show J X (1, 9) 35 [(0, .ref (ad1 267))] [.ref (ad1 268), .ref (ad1 267)] ((wI (wI (wI (wI (wI m 267 0 (0 : Int32)) 267 1 (0 : Int32)) 267 2 (0 : Int32)) 267 3 (-9 : Int32)) 267 4 (-9 : Int32)), R, 269, ad1)
  refine J_dup hX dX0_init_35 rfl ?_
  refine J_cIN hX (k_X10_init (wI (wI (wI (wI (wI m 267 0 (0 : Int32)) 267 1 (0 : Int32)) 267 2 (0 : Int32)) 267 3 (-9 : Int32)) 267 4 (-9 : Int32)) R ad1 hc) km_X10_init rfl (mt_2 (List.mem_of_getElem? (i := 31) rfl)) kl_RX0_29 dX0_init_36 ⟨rfl, rfl⟩ ⟨Nat.le_of_ble_eq_true rfl, Nat.le_of_ble_eq_true rfl⟩ ⟨Nat.le_of_ble_eq_true rfl, Nat.le_of_ble_eq_true rfl⟩ rfl rfl (Nat.le_of_ble_eq_true rfl) (fun v w2 hk => ?_)
  obtain ⟨rfl, ad3, hg4, hc, rfl⟩ := hk
  refine J_re (lv2 := [(0, .ref (ad3 267))]) (st2 := [.ref (ad3 268), .ref (ad3 267)]) (by (try rw [hg4 267 (by decide)]); (try rfl)) (by (try rw [hg4 267 (by decide), hg4 268 (by decide)]); (try rfl)) ?_
  show J X (123, 3458) 39 [(0, .ref (ad3 267))] [.ref (ad3 268), .ref (ad3 267)] ((cm_X10_init (wI (wI (wI (wI (wI m 267 0 (0 : Int32)) 267 1 (0 : Int32)) 267 2 (0 : Int32)) 267 3 (-9 : Int32)) 267 4 (-9 : Int32))), (cR_X10_init R), 391, ad3)
  refine J_putRF hX hin kf_RX0_30 ⟨_, _, rfl⟩ dX0_init_39 kx_267 (by decide) rfl (by decide) rfl rfl rfl rfl ?_
  replace hc := hc.R (a := 267) (k := 5) (b := 268) (by decide) (by decide) (by decide)
  show J X (123, 3458) 42 [(0, .ref (ad3 267))] [] ((cm_X10_init (wI (wI (wI (wI (wI m 267 0 (0 : Int32)) 267 1 (0 : Int32)) 267 2 (0 : Int32)) 267 3 (-9 : Int32)) 267 4 (-9 : Int32))), (wR (cR_X10_init R) 267 5 268), 391, ad3)
  refine J_aload_n hX dX0_init_42 rfl 0 rfl ?_
  refine J_aload_n hX dX0_init_43 rfl 0 rfl ?_
  refine J_getG (w := ((cm_X10_init (wI (wI (wI (wI (wI m 267 0 (0 : Int32)) 267 1 (0 : Int32)) 267 2 (0 : Int32)) 267 3 (-9 : Int32)) 267 4 (-9 : Int32))), (wR (cR_X10_init R) 267 5 268), 391, ad3)) hX kf_RX0_30 dX0_init_44 kx_267 (by decide) (s := 2) rfl (show 267 < 391 by omega) rfl (v := .ref (ad3 268)) (fv_ref (by rfl)) ?_
  refine J_getG (w := ((cm_X10_init (wI (wI (wI (wI (wI m 267 0 (0 : Int32)) 267 1 (0 : Int32)) 267 2 (0 : Int32)) 267 3 (-9 : Int32)) 267 4 (-9 : Int32))), (wR (cR_X10_init R) 267 5 268), 391, ad3)) hX kf_RX0_34 dX0_init_47 kx_268 (by decide) (s := 2) rfl (show 268 < 391 by omega) rfl (v := .ref (ad3 269)) (fv_ref (by rfl)) ?_
  refine J_putRF hX hin kf_RX0_38 ⟨_, _, rfl⟩ dX0_init_50 kx_267 (by decide) rfl (by decide) rfl rfl rfl rfl ?_
  replace hc := hc.R (a := 267) (k := 6) (b := 269) (by decide) (by decide) (by decide)
  show J X (123, 3458) 53 [(0, .ref (ad3 267))] [] ((cm_X10_init (wI (wI (wI (wI (wI m 267 0 (0 : Int32)) 267 1 (0 : Int32)) 267 2 (0 : Int32)) 267 3 (-9 : Int32)) 267 4 (-9 : Int32))), (wR (wR (cR_X10_init R) 267 5 268) 267 6 269), 391, ad3)
  refine J_aload_n hX dX0_init_53 rfl 0 rfl ?_
  refine J_bipush (v := (6 : Int32)) hX dX0_init_54 (by decide) ?_
  refine J_newaI hX dX0_init_56 hc kx_391 lx_391 (by decide) (by decide) (Nat.le_of_ble_eq_true rfl) ⟨Nat.le_of_ble_eq_true rfl, Nat.le_of_ble_eq_true rfl⟩ (fun ad5 hg6 => ?_)
  replace hc := hc.N (n := 392) (by omega)
  refine J_re (lv2 := [(0, .ref (ad5 267))]) (st2 := [.ref (ad5 391), .ref (ad5 267)]) (by (try rw [hg6 267 (by decide)]); (try rfl)) (by (try rw [hg6 267 (by decide)]); (try rfl)) ?_
  show J X (124, 3464) 58 [(0, .ref (ad5 267))] [.ref (ad5 391), .ref (ad5 267)] ((cm_X10_init (wI (wI (wI (wI (wI m 267 0 (0 : Int32)) 267 1 (0 : Int32)) 267 2 (0 : Int32)) 267 3 (-9 : Int32)) 267 4 (-9 : Int32))), (wR (wR (cR_X10_init R) 267 5 268) 267 6 269), 392, ad5)
  refine J_putRF hX hin kf_RX0_39 ⟨_, _, rfl⟩ dX0_init_58 kx_267 (by decide) rfl (by decide) rfl rfl rfl rfl ?_
  replace hc := hc.R (a := 267) (k := 7) (b := 391) (by decide) (by decide) (by decide)
  show J X (124, 3464) 61 [(0, .ref (ad5 267))] [] ((cm_X10_init (wI (wI (wI (wI (wI m 267 0 (0 : Int32)) 267 1 (0 : Int32)) 267 2 (0 : Int32)) 267 3 (-9 : Int32)) 267 4 (-9 : Int32))), (wR (wR (wR (cR_X10_init R) 267 5 268) 267 6 269) 267 7 391), 392, ad5)
  refine J_aload_n hX dX0_init_61 rfl 0 rfl ?_
  refine J_bipush (v := (6 : Int32)) hX dX0_init_62 (by decide) ?_
  refine J_newaI hX dX0_init_64 hc kx_392 lx_392 (by decide) (by decide) (Nat.le_of_ble_eq_true rfl) ⟨Nat.le_of_ble_eq_true rfl, Nat.le_of_ble_eq_true rfl⟩ (fun ad7 hg8 => ?_)
  replace hc := hc.N (n := 393) (by omega)
  refine J_re (lv2 := [(0, .ref (ad7 267))]) (st2 := [.ref (ad7 392), .ref (ad7 267)]) (by (try rw [hg8 267 (by decide)]); (try rfl)) (by (try rw [hg8 267 (by decide)]); (try rfl)) ?_
  show J X (125, 3470) 66 [(0, .ref (ad7 267))] [.ref (ad7 392), .ref (ad7 267)] ((cm_X10_init (wI (wI (wI (wI (wI m 267 0 (0 : Int32)) 267 1 (0 : Int32)) 267 2 (0 : Int32)) 267 3 (-9 : Int32)) 267 4 (-9 : Int32))), (wR (wR (wR (cR_X10_init R) 267 5 268) 267 6 269) 267 7 391), 393, ad7)
  refine J_putRF hX hin kf_RX0_43 ⟨_, _, rfl⟩ dX0_init_66 kx_267 (by decide) rfl (by decide) rfl rfl rfl rfl ?_
  replace hc := hc.R (a := 267) (k := 8) (b := 392) (by decide) (by decide) (by decide)
  show J X (125, 3470) 69 [(0, .ref (ad7 267))] [] ((cm_X10_init (wI (wI (wI (wI (wI m 267 0 (0 : Int32)) 267 1 (0 : Int32)) 267 2 (0 : Int32)) 267 3 (-9 : Int32)) 267 4 (-9 : Int32))), (wR (wR (wR (wR (cR_X10_init R) 267 5 268) 267 6 269) 267 7 391) 267 8 392), 393, ad7)
  refine J_aload_n hX dX0_init_69 rfl 0 rfl ?_
  refine J_bipush (v := (6 : Int32)) hX dX0_init_70 (by decide) ?_
  refine J_newaI hX dX0_init_72 hc kx_393 lx_393 (by decide) (by decide) (Nat.le_of_ble_eq_true rfl) ⟨Nat.le_of_ble_eq_true rfl, Nat.le_of_ble_eq_true rfl⟩ (fun ad9 hg10 => ?_)
  replace hc := hc.N (n := 394) (by omega)
  refine J_re (lv2 := [(0, .ref (ad9 267))]) (st2 := [.ref (ad9 393), .ref (ad9 267)]) (by (try rw [hg10 267 (by decide)]); (try rfl)) (by (try rw [hg10 267 (by decide)]); (try rfl)) ?_
  show J X (126, 3476) 74 [(0, .ref (ad9 267))] [.ref (ad9 393), .ref (ad9 267)] ((cm_X10_init (wI (wI (wI (wI (wI m 267 0 (0 : Int32)) 267 1 (0 : Int32)) 267 2 (0 : Int32)) 267 3 (-9 : Int32)) 267 4 (-9 : Int32))), (wR (wR (wR (wR (cR_X10_init R) 267 5 268) 267 6 269) 267 7 391) 267 8 392), 394, ad9)
  refine J_putRF hX hin kf_RX0_46 ⟨_, _, rfl⟩ dX0_init_74 kx_267 (by decide) rfl (by decide) rfl rfl rfl rfl ?_
  replace hc := hc.R (a := 267) (k := 9) (b := 393) (by decide) (by decide) (by decide)
  show J X (126, 3476) 77 [(0, .ref (ad9 267))] [] ((cm_X10_init (wI (wI (wI (wI (wI m 267 0 (0 : Int32)) 267 1 (0 : Int32)) 267 2 (0 : Int32)) 267 3 (-9 : Int32)) 267 4 (-9 : Int32))), (wR (wR (wR (wR (wR (cR_X10_init R) 267 5 268) 267 6 269) 267 7 391) 267 8 392) 267 9 393), 394, ad9)
  refine J_aload_n hX dX0_init_77 rfl 0 rfl ?_
  refine J_bipush (v := (6 : Int32)) hX dX0_init_78 (by decide) ?_
  refine J_newaI hX dX0_init_80 hc kx_394 lx_394 (by decide) (by decide) (Nat.le_of_ble_eq_true rfl) ⟨Nat.le_of_ble_eq_true rfl, Nat.le_of_ble_eq_true rfl⟩ (fun ad11 hg12 => ?_)
  replace hc := hc.N (n := 395) (by omega)
  refine J_re (lv2 := [(0, .ref (ad11 267))]) (st2 := [.ref (ad11 394), .ref (ad11 267)]) (by (try rw [hg12 267 (by decide)]); (try rfl)) (by (try rw [hg12 267 (by decide)]); (try rfl)) ?_
  show J X (127, 3482) 82 [(0, .ref (ad11 267))] [.ref (ad11 394), .ref (ad11 267)] ((cm_X10_init (wI (wI (wI (wI (wI m 267 0 (0 : Int32)) 267 1 (0 : Int32)) 267 2 (0 : Int32)) 267 3 (-9 : Int32)) 267 4 (-9 : Int32))), (wR (wR (wR (wR (wR (cR_X10_init R) 267 5 268) 267 6 269) 267 7 391) 267 8 392) 267 9 393), 395, ad11)
  refine J_putRF hX hin kf_RX0_49 ⟨_, _, rfl⟩ dX0_init_82 kx_267 (by decide) rfl (by decide) rfl rfl rfl rfl ?_
  replace hc := hc.R (a := 267) (k := 10) (b := 394) (by decide) (by decide) (by decide)
  show J X (127, 3482) 85 [(0, .ref (ad11 267))] [] ((cm_X10_init (wI (wI (wI (wI (wI m 267 0 (0 : Int32)) 267 1 (0 : Int32)) 267 2 (0 : Int32)) 267 3 (-9 : Int32)) 267 4 (-9 : Int32))), (wR (wR (wR (wR (wR (wR (cR_X10_init R) 267 5 268) 267 6 269) 267 7 391) 267 8 392) 267 9 393) 267 10 394), 395, ad11)
  exact J_vret hX hR dX0_init_85 ⟨rfl, ad11, fun b hb => (hg12 b (by omega)).trans ((hg10 b (by omega)).trans ((hg8 b (by omega)).trans ((hg6 b (by omega)).trans ((hg4 b (by omega)).trans ((hg2 b (by omega)).trans rfl))))), hc, rfl⟩
def cm_X4_init (m : Mm) : Mm := (cm_X0_init (wI (wI (wI (wI (wI (wI (wI (wI (wI (wI (wI (wI (wL (wI m 264 0 (0 : Int32)) 264 1 (0 : Int64)) 265 0 (1 : Int32)) 265 1 (3 : Int32)) 265 2 (2 : Int32)) 265 3 (80 : Int32)) 266 0 (1 : Int32)) 266 1 (1 : Int32)) 266 2 (1 : Int32)) 266 3 (1 : Int32)) 266 4 (1 : Int32)) 266 5 (1 : Int32)) 266 6 (1 : Int32)) 266 7 (1 : Int32)))
def cR_X4_init (R : Nat → Nat → Option Nat) : Nat → Nat → Option Nat := (wR (wR (wR (wR (cR_X0_init (wR (wR R 264 2 265) 264 3 266)) 264 4 267) 264 5 268) 264 6 269) 264 7 395)
set_option maxRecDepth 100000 in
set_option maxHeartbeats 4000000 in
theorem k_X4_init {G : GT} (m : Mm) (R : Nat → Nat → Option Nat) (ad : Nat → Nat) (hc : cw (m, R, 265)) : Cn G yX4_init cX4_init 1 none { frames := 5, cells := 131, slots := 4505, locals := 93 } [.ref (ad 264)] (131, 4505) (m, R, 265, ad) (fun v w => v = none ∧ ∃ ad2 : Nat → Nat, (∀ b, b < 265 → ad2 b = ad b) ∧ cw (cm_X4_init m, cR_X4_init R, 396) ∧ w = (cm_X4_init m, cR_X4_init R, 396, ad2)) := by
  refine Cn.ofI pn_RX4 (Nat.le_of_ble_eq_true rfl) (fun X hG hX hR hin => ?_)
  subst hG
  have hX : Cx X cX4_init 1 RX4 { frames := 5, cells := 131, slots := 4505, locals := 93 } := hX
  have hin : (xh X).name = "<init>" := hin
  show J X (0, 0) 0 [(0, .ref (ad 264))] [] (m, R, 265, ad)
  refine J_aload_n hX dX4_init_0 rfl 0 rfl ?_
  refine J_objI hX kl_RX4_3 oi_inst oi_code dX4_init_1 (Nat.le_of_ble_eq_true rfl) (Nat.le_of_ble_eq_true rfl) ?_
  refine J_aload_n hX dX4_init_4 rfl 0 rfl ?_
  refine J_iconst (v := (0 : Int32)) hX dX4_init_5 (by decide) ?_
  refine J_putIc hX kf_RX4_9 dX4_init_6 kx_264 (by decide) rfl (by decide) rfl ?_
  replace hc := hc.I (a := 264) (k := 0) (v := (0 : Int32)) (by decide)
  show J X (0, 0) 9 [(0, .ref (ad 264))] [] ((wI m 264 0 (0 : Int32)), R, 265, ad)
  refine J_aload_n hX dX4_init_9 rfl 0 rfl ?_
  refine J_lconst (v := (0 : Int64)) hX dX4_init_10 (by decide) ?_
  refine J_putLc hX kf_RX4_15 dX4_init_11 kx_264 (by decide) rfl (by decide) rfl ?_
  replace hc := hc.L (a := 264) (k := 1) (v := (0 : Int64)) (by decide)
  show J X (0, 0) 14 [(0, .ref (ad 264))] [] ((wL (wI m 264 0 (0 : Int32)) 264 1 (0 : Int64)), R, 265, ad)
  refine J_aload_n hX dX4_init_14 rfl 0 rfl ?_
  refine J_iconst (v := (4 : Int32)) hX dX4_init_15 (by decide) ?_
  refine J_newaI hX dX4_init_16 hc kx_265 lx_265 (by decide) (by decide) (Nat.le_of_ble_eq_true rfl) ⟨Nat.le_of_ble_eq_true rfl, Nat.le_of_ble_eq_true rfl⟩ (fun ad1 hg2 => ?_)
  replace hc := hc.N (n := 266) (by omega)
  refine J_re (lv2 := [(0, .ref (ad1 264))]) (st2 := [.ref (ad1 265), .ref (ad1 264)]) (by (try rw [hg2 264 (by decide)]); (try rfl)) (by (try rw [hg2 264 (by decide)]); (try rfl)) ?_
  show J X (1, 4) 18 [(0, .ref (ad1 264))] [.ref (ad1 265), .ref (ad1 264)] ((wL (wI m 264 0 (0 : Int32)) 264 1 (0 : Int64)), R, 266, ad1)
  refine J_dup hX dX4_init_18 rfl ?_
  refine J_iconst (v := (0 : Int32)) hX dX4_init_19 (by decide) ?_
  refine J_iconst (v := (1 : Int32)) hX dX4_init_20 (by decide) ?_
  refine J_iastc (j := 0) hX dX4_init_21 kx_265 lx_265 (by decide) rfl (vp_lit (by decide)) (by decide) ?_
  replace hc := hc.I (a := 265) (k := 0) (v := (1 : Int32)) (by decide)
  show J X (1, 4) 22 [(0, .ref (ad1 264))] [.ref (ad1 265), .ref (ad1 264)] ((wI (wL (wI m 264 0 (0 : Int32)) 264 1 (0 : Int64)) 265 0 (1 : Int32)), R, 266, ad1)
  refine J_dup hX dX4_init_22 rfl ?_
  refine J_iconst (v := (1 : Int32)) hX dX4_init_23 (by decide) ?_
  refine J_iconst (v := (3 : Int32)) hX dX4_init_24 (by decide) ?_
  refine J_iastc (j := 1) hX dX4_init_25 kx_265 lx_265 (by decide) rfl (vp_lit (by decide)) (by decide) ?_
  replace hc := hc.I (a := 265) (k := 1) (v := (3 : Int32)) (by decide)
  show J X (1, 4) 26 [(0, .ref (ad1 264))] [.ref (ad1 265), .ref (ad1 264)] ((wI (wI (wL (wI m 264 0 (0 : Int32)) 264 1 (0 : Int64)) 265 0 (1 : Int32)) 265 1 (3 : Int32)), R, 266, ad1)
  refine J_dup hX dX4_init_26 rfl ?_
  refine J_iconst (v := (2 : Int32)) hX dX4_init_27 (by decide) ?_
  refine J_iconst (v := (2 : Int32)) hX dX4_init_28 (by decide) ?_
  refine J_iastc (j := 2) hX dX4_init_29 kx_265 lx_265 (by decide) rfl (vp_lit (by decide)) (by decide) ?_
  replace hc := hc.I (a := 265) (k := 2) (v := (2 : Int32)) (by decide)
  show J X (1, 4) 30 [(0, .ref (ad1 264))] [.ref (ad1 265), .ref (ad1 264)] ((wI (wI (wI (wL (wI m 264 0 (0 : Int32)) 264 1 (0 : Int64)) 265 0 (1 : Int32)) 265 1 (3 : Int32)) 265 2 (2 : Int32)), R, 266, ad1)
  refine J_dup hX dX4_init_30 rfl ?_
  refine J_iconst (v := (3 : Int32)) hX dX4_init_31 (by decide) ?_
  refine J_bipush (v := (80 : Int32)) hX dX4_init_32 (by decide) ?_
  refine J_iastc (j := 3) hX dX4_init_34 kx_265 lx_265 (by decide) rfl (vp_lit (by decide)) (by decide) ?_
  replace hc := hc.I (a := 265) (k := 3) (v := (80 : Int32)) (by decide)
  show J X (1, 4) 35 [(0, .ref (ad1 264))] [.ref (ad1 265), .ref (ad1 264)] ((wI (wI (wI (wI (wL (wI m 264 0 (0 : Int32)) 264 1 (0 : Int64)) 265 0 (1 : Int32)) 265 1 (3 : Int32)) 265 2 (2 : Int32)) 265 3 (80 : Int32)), R, 266, ad1)
  refine J_putRF hX hin kf_RX4_19 ⟨_, _, rfl⟩ dX4_init_35 kx_264 (by decide) rfl (by decide) rfl rfl rfl rfl ?_
  replace hc := hc.R (a := 264) (k := 2) (b := 265) (by decide) (by decide) (by decide)
  show J X (1, 4) 38 [(0, .ref (ad1 264))] [] ((wI (wI (wI (wI (wL (wI m 264 0 (0 : Int32)) 264 1 (0 : Int64)) 265 0 (1 : Int32)) 265 1 (3 : Int32)) 265 2 (2 : Int32)) 265 3 (80 : Int32)), (wR R 264 2 265), 266, ad1)
  refine J_aload_n hX dX4_init_38 rfl 0 rfl ?_
  refine J_bipush (v := (8 : Int32)) hX dX4_init_39 (by decide) ?_
  refine J_newaI hX dX4_init_41 hc kx_266 lx_266 (by decide) (by decide) (Nat.le_of_ble_eq_true rfl) ⟨Nat.le_of_ble_eq_true rfl, Nat.le_of_ble_eq_true rfl⟩ (fun ad3 hg4 => ?_)
  replace hc := hc.N (n := 267) (by omega)
  refine J_re (lv2 := [(0, .ref (ad3 264))]) (st2 := [.ref (ad3 266), .ref (ad3 264)]) (by (try rw [hg4 264 (by decide)]); (try rfl)) (by (try rw [hg4 264 (by decide)]); (try rfl)) ?_
  show J X (2, 12) 43 [(0, .ref (ad3 264))] [.ref (ad3 266), .ref (ad3 264)] ((wI (wI (wI (wI (wL (wI m 264 0 (0 : Int32)) 264 1 (0 : Int64)) 265 0 (1 : Int32)) 265 1 (3 : Int32)) 265 2 (2 : Int32)) 265 3 (80 : Int32)), (wR R 264 2 265), 267, ad3)
  refine J_dup hX dX4_init_43 rfl ?_
  refine J_iconst (v := (0 : Int32)) hX dX4_init_44 (by decide) ?_
  refine J_iconst (v := (1 : Int32)) hX dX4_init_45 (by decide) ?_
  refine J_iastc (j := 0) hX dX4_init_46 kx_266 lx_266 (by decide) rfl (vp_lit (by decide)) (by decide) ?_
  replace hc := hc.I (a := 266) (k := 0) (v := (1 : Int32)) (by decide)
  show J X (2, 12) 47 [(0, .ref (ad3 264))] [.ref (ad3 266), .ref (ad3 264)] ((wI (wI (wI (wI (wI (wL (wI m 264 0 (0 : Int32)) 264 1 (0 : Int64)) 265 0 (1 : Int32)) 265 1 (3 : Int32)) 265 2 (2 : Int32)) 265 3 (80 : Int32)) 266 0 (1 : Int32)), (wR R 264 2 265), 267, ad3)
  refine J_dup hX dX4_init_47 rfl ?_
  refine J_iconst (v := (1 : Int32)) hX dX4_init_48 (by decide) ?_
  refine J_iconst (v := (1 : Int32)) hX dX4_init_49 (by decide) ?_
  refine J_iastc (j := 1) hX dX4_init_50 kx_266 lx_266 (by decide) rfl (vp_lit (by decide)) (by decide) ?_
  replace hc := hc.I (a := 266) (k := 1) (v := (1 : Int32)) (by decide)
  show J X (2, 12) 51 [(0, .ref (ad3 264))] [.ref (ad3 266), .ref (ad3 264)] ((wI (wI (wI (wI (wI (wI (wL (wI m 264 0 (0 : Int32)) 264 1 (0 : Int64)) 265 0 (1 : Int32)) 265 1 (3 : Int32)) 265 2 (2 : Int32)) 265 3 (80 : Int32)) 266 0 (1 : Int32)) 266 1 (1 : Int32)), (wR R 264 2 265), 267, ad3)
  refine J_dup hX dX4_init_51 rfl ?_
  refine J_iconst (v := (2 : Int32)) hX dX4_init_52 (by decide) ?_
  refine J_iconst (v := (1 : Int32)) hX dX4_init_53 (by decide) ?_
  refine J_iastc (j := 2) hX dX4_init_54 kx_266 lx_266 (by decide) rfl (vp_lit (by decide)) (by decide) ?_
  replace hc := hc.I (a := 266) (k := 2) (v := (1 : Int32)) (by decide)
  show J X (2, 12) 55 [(0, .ref (ad3 264))] [.ref (ad3 266), .ref (ad3 264)] ((wI (wI (wI (wI (wI (wI (wI (wL (wI m 264 0 (0 : Int32)) 264 1 (0 : Int64)) 265 0 (1 : Int32)) 265 1 (3 : Int32)) 265 2 (2 : Int32)) 265 3 (80 : Int32)) 266 0 (1 : Int32)) 266 1 (1 : Int32)) 266 2 (1 : Int32)), (wR R 264 2 265), 267, ad3)
  refine J_dup hX dX4_init_55 rfl ?_
  refine J_iconst (v := (3 : Int32)) hX dX4_init_56 (by decide) ?_
  refine J_iconst (v := (1 : Int32)) hX dX4_init_57 (by decide) ?_
  refine J_iastc (j := 3) hX dX4_init_58 kx_266 lx_266 (by decide) rfl (vp_lit (by decide)) (by decide) ?_
  replace hc := hc.I (a := 266) (k := 3) (v := (1 : Int32)) (by decide)
  show J X (2, 12) 59 [(0, .ref (ad3 264))] [.ref (ad3 266), .ref (ad3 264)] ((wI (wI (wI (wI (wI (wI (wI (wI (wL (wI m 264 0 (0 : Int32)) 264 1 (0 : Int64)) 265 0 (1 : Int32)) 265 1 (3 : Int32)) 265 2 (2 : Int32)) 265 3 (80 : Int32)) 266 0 (1 : Int32)) 266 1 (1 : Int32)) 266 2 (1 : Int32)) 266 3 (1 : Int32)), (wR R 264 2 265), 267, ad3)
  refine J_dup hX dX4_init_59 rfl ?_
  refine J_iconst (v := (4 : Int32)) hX dX4_init_60 (by decide) ?_
  refine J_iconst (v := (1 : Int32)) hX dX4_init_61 (by decide) ?_
  refine J_iastc (j := 4) hX dX4_init_62 kx_266 lx_266 (by decide) rfl (vp_lit (by decide)) (by decide) ?_
  replace hc := hc.I (a := 266) (k := 4) (v := (1 : Int32)) (by decide)
  show J X (2, 12) 63 [(0, .ref (ad3 264))] [.ref (ad3 266), .ref (ad3 264)] ((wI (wI (wI (wI (wI (wI (wI (wI (wI (wL (wI m 264 0 (0 : Int32)) 264 1 (0 : Int64)) 265 0 (1 : Int32)) 265 1 (3 : Int32)) 265 2 (2 : Int32)) 265 3 (80 : Int32)) 266 0 (1 : Int32)) 266 1 (1 : Int32)) 266 2 (1 : Int32)) 266 3 (1 : Int32)) 266 4 (1 : Int32)), (wR R 264 2 265), 267, ad3)
  refine J_dup hX dX4_init_63 rfl ?_
  refine J_iconst (v := (5 : Int32)) hX dX4_init_64 (by decide) ?_
  refine J_iconst (v := (1 : Int32)) hX dX4_init_65 (by decide) ?_
  refine J_iastc (j := 5) hX dX4_init_66 kx_266 lx_266 (by decide) rfl (vp_lit (by decide)) (by decide) ?_
  replace hc := hc.I (a := 266) (k := 5) (v := (1 : Int32)) (by decide)
  show J X (2, 12) 67 [(0, .ref (ad3 264))] [.ref (ad3 266), .ref (ad3 264)] ((wI (wI (wI (wI (wI (wI (wI (wI (wI (wI (wL (wI m 264 0 (0 : Int32)) 264 1 (0 : Int64)) 265 0 (1 : Int32)) 265 1 (3 : Int32)) 265 2 (2 : Int32)) 265 3 (80 : Int32)) 266 0 (1 : Int32)) 266 1 (1 : Int32)) 266 2 (1 : Int32)) 266 3 (1 : Int32)) 266 4 (1 : Int32)) 266 5 (1 : Int32)), (wR R 264 2 265), 267, ad3)
  refine J_dup hX dX4_init_67 rfl ?_
  refine J_bipush (v := (6 : Int32)) hX dX4_init_68 (by decide) ?_
  refine J_iconst (v := (1 : Int32)) hX dX4_init_70 (by decide) ?_
  refine J_iastc (j := 6) hX dX4_init_71 kx_266 lx_266 (by decide) rfl (vp_lit (by decide)) (by decide) ?_
  replace hc := hc.I (a := 266) (k := 6) (v := (1 : Int32)) (by decide)
  show J X (2, 12) 72 [(0, .ref (ad3 264))] [.ref (ad3 266), .ref (ad3 264)] ((wI (wI (wI (wI (wI (wI (wI (wI (wI (wI (wI (wL (wI m 264 0 (0 : Int32)) 264 1 (0 : Int64)) 265 0 (1 : Int32)) 265 1 (3 : Int32)) 265 2 (2 : Int32)) 265 3 (80 : Int32)) 266 0 (1 : Int32)) 266 1 (1 : Int32)) 266 2 (1 : Int32)) 266 3 (1 : Int32)) 266 4 (1 : Int32)) 266 5 (1 : Int32)) 266 6 (1 : Int32)), (wR R 264 2 265), 267, ad3)
  refine J_dup hX dX4_init_72 rfl ?_
  refine J_bipush (v := (7 : Int32)) hX dX4_init_73 (by decide) ?_
  refine J_iconst (v := (1 : Int32)) hX dX4_init_75 (by decide) ?_
  refine J_iastc (j := 7) hX dX4_init_76 kx_266 lx_266 (by decide) rfl (vp_lit (by decide)) (by decide) ?_
  replace hc := hc.I (a := 266) (k := 7) (v := (1 : Int32)) (by decide)
  show J X (2, 12) 77 [(0, .ref (ad3 264))] [.ref (ad3 266), .ref (ad3 264)] ((wI (wI (wI (wI (wI (wI (wI (wI (wI (wI (wI (wI (wL (wI m 264 0 (0 : Int32)) 264 1 (0 : Int64)) 265 0 (1 : Int32)) 265 1 (3 : Int32)) 265 2 (2 : Int32)) 265 3 (80 : Int32)) 266 0 (1 : Int32)) 266 1 (1 : Int32)) 266 2 (1 : Int32)) 266 3 (1 : Int32)) 266 4 (1 : Int32)) 266 5 (1 : Int32)) 266 6 (1 : Int32)) 266 7 (1 : Int32)), (wR R 264 2 265), 267, ad3)
  refine J_putRF hX hin kf_RX4_23 ⟨_, _, rfl⟩ dX4_init_77 kx_264 (by decide) rfl (by decide) rfl rfl rfl rfl ?_
  replace hc := hc.R (a := 264) (k := 3) (b := 266) (by decide) (by decide) (by decide)
  show J X (2, 12) 80 [(0, .ref (ad3 264))] [] ((wI (wI (wI (wI (wI (wI (wI (wI (wI (wI (wI (wI (wL (wI m 264 0 (0 : Int32)) 264 1 (0 : Int64)) 265 0 (1 : Int32)) 265 1 (3 : Int32)) 265 2 (2 : Int32)) 265 3 (80 : Int32)) 266 0 (1 : Int32)) 266 1 (1 : Int32)) 266 2 (1 : Int32)) 266 3 (1 : Int32)) 266 4 (1 : Int32)) 266 5 (1 : Int32)) 266 6 (1 : Int32)) 266 7 (1 : Int32)), (wR (wR R 264 2 265) 264 3 266), 267, ad3)
  refine J_aload_n hX dX4_init_80 rfl 0 rfl ?_
  refine J_new hX dX4_init_81 kn_RX4_26 hc kx_267 (by decide) (nf := 11) rfl ⟨Nat.le_of_ble_eq_true rfl, Nat.le_of_ble_eq_true rfl⟩ (fun ad5 hg6 => ?_)
  replace hc := hc.N (n := 268) (by omega)
  refine J_re (lv2 := [(0, .ref (ad5 264))]) (st2 := [.ref (ad5 267), .ref (ad5 264)]) (by (try rw [hg6 264 (by decide)]); (try rfl)) (by (try rw [hg6 264 (by decide)]); (try rfl)) ?_
  show J X (3, 23) 84 [(0, .ref (ad5 264))] [.ref (ad5 267), .ref (ad5 264)] ((wI (wI (wI (wI (wI (wI (wI (wI (wI (wI (wI (wI (wL (wI m 264 0 (0 : Int32)) 264 1 (0 : Int64)) 265 0 (1 : Int32)) 265 1 (3 : Int32)) 265 2 (2 : Int32)) 265 3 (80 : Int32)) 266 0 (1 : Int32)) 266 1 (1 : Int32)) 266 2 (1 : Int32)) 266 3 (1 : Int32)) 266 4 (1 : Int32)) 266 5 (1 : Int32)) 266 6 (1 : Int32)) 266 7 (1 : Int32)), (wR (wR R 264 2 265) 264 3 266), 268, ad5)
  refine J_dup hX dX4_init_84 rfl ?_
  refine J_cIN hX (k_X0_init (wI (wI (wI (wI (wI (wI (wI (wI (wI (wI (wI (wI (wL (wI m 264 0 (0 : Int32)) 264 1 (0 : Int64)) 265 0 (1 : Int32)) 265 1 (3 : Int32)) 265 2 (2 : Int32)) 265 3 (80 : Int32)) 266 0 (1 : Int32)) 266 1 (1 : Int32)) 266 2 (1 : Int32)) 266 3 (1 : Int32)) 266 4 (1 : Int32)) 266 5 (1 : Int32)) 266 6 (1 : Int32)) 266 7 (1 : Int32)) (wR (wR R 264 2 265) 264 3 266) ad5 hc) km_X0_init rfl (mt_2 (List.mem_of_getElem? (i := 25) rfl)) kl_RX4_28 dX4_init_85 ⟨rfl, rfl⟩ ⟨Nat.le_of_ble_eq_true rfl, Nat.le_of_ble_eq_true rfl⟩ ⟨Nat.le_of_ble_eq_true rfl, Nat.le_of_ble_eq_true rfl⟩ rfl rfl (Nat.le_of_ble_eq_true rfl) (fun v w2 hk => ?_)
  obtain ⟨rfl, ad7, hg8, hc, rfl⟩ := hk
  refine J_re (lv2 := [(0, .ref (ad7 264))]) (st2 := [.ref (ad7 267), .ref (ad7 264)]) (by (try rw [hg8 264 (by decide)]); (try rfl)) (by (try rw [hg8 264 (by decide), hg8 267 (by decide)]); (try rfl)) ?_
  show J X (130, 3505) 88 [(0, .ref (ad7 264))] [.ref (ad7 267), .ref (ad7 264)] ((cm_X0_init (wI (wI (wI (wI (wI (wI (wI (wI (wI (wI (wI (wI (wL (wI m 264 0 (0 : Int32)) 264 1 (0 : Int64)) 265 0 (1 : Int32)) 265 1 (3 : Int32)) 265 2 (2 : Int32)) 265 3 (80 : Int32)) 266 0 (1 : Int32)) 266 1 (1 : Int32)) 266 2 (1 : Int32)) 266 3 (1 : Int32)) 266 4 (1 : Int32)) 266 5 (1 : Int32)) 266 6 (1 : Int32)) 266 7 (1 : Int32))), (cR_X0_init (wR (wR R 264 2 265) 264 3 266)), 395, ad7)
  refine J_putRF hX hin kf_RX4_29 ⟨_, _, rfl⟩ dX4_init_88 kx_264 (by decide) rfl (by decide) rfl rfl rfl rfl ?_
  replace hc := hc.R (a := 264) (k := 4) (b := 267) (by decide) (by decide) (by decide)
  show J X (130, 3505) 91 [(0, .ref (ad7 264))] [] ((cm_X0_init (wI (wI (wI (wI (wI (wI (wI (wI (wI (wI (wI (wI (wL (wI m 264 0 (0 : Int32)) 264 1 (0 : Int64)) 265 0 (1 : Int32)) 265 1 (3 : Int32)) 265 2 (2 : Int32)) 265 3 (80 : Int32)) 266 0 (1 : Int32)) 266 1 (1 : Int32)) 266 2 (1 : Int32)) 266 3 (1 : Int32)) 266 4 (1 : Int32)) 266 5 (1 : Int32)) 266 6 (1 : Int32)) 266 7 (1 : Int32))), (wR (cR_X0_init (wR (wR R 264 2 265) 264 3 266)) 264 4 267), 395, ad7)
  refine J_aload_n hX dX4_init_91 rfl 0 rfl ?_
  refine J_aload_n hX dX4_init_92 rfl 0 rfl ?_
  refine J_getG (w := ((cm_X0_init (wI (wI (wI (wI (wI (wI (wI (wI (wI (wI (wI (wI (wL (wI m 264 0 (0 : Int32)) 264 1 (0 : Int64)) 265 0 (1 : Int32)) 265 1 (3 : Int32)) 265 2 (2 : Int32)) 265 3 (80 : Int32)) 266 0 (1 : Int32)) 266 1 (1 : Int32)) 266 2 (1 : Int32)) 266 3 (1 : Int32)) 266 4 (1 : Int32)) 266 5 (1 : Int32)) 266 6 (1 : Int32)) 266 7 (1 : Int32))), (wR (cR_X0_init (wR (wR R 264 2 265) 264 3 266)) 264 4 267), 395, ad7)) hX kf_RX4_29 dX4_init_93 kx_264 (by decide) (s := 2) rfl (show 264 < 395 by omega) rfl (v := .ref (ad7 267)) (fv_ref (by rfl)) ?_
  refine J_getG (w := ((cm_X0_init (wI (wI (wI (wI (wI (wI (wI (wI (wI (wI (wI (wI (wL (wI m 264 0 (0 : Int32)) 264 1 (0 : Int64)) 265 0 (1 : Int32)) 265 1 (3 : Int32)) 265 2 (2 : Int32)) 265 3 (80 : Int32)) 266 0 (1 : Int32)) 266 1 (1 : Int32)) 266 2 (1 : Int32)) 266 3 (1 : Int32)) 266 4 (1 : Int32)) 266 5 (1 : Int32)) 266 6 (1 : Int32)) 266 7 (1 : Int32))), (wR (cR_X0_init (wR (wR R 264 2 265) 264 3 266)) 264 4 267), 395, ad7)) hX kf_RX4_33 dX4_init_96 kx_267 (by decide) (s := 2) rfl (show 267 < 395 by omega) rfl (v := .ref (ad7 268)) (fv_ref (by rfl)) ?_
  refine J_putRF hX hin kf_RX4_37 ⟨_, _, rfl⟩ dX4_init_99 kx_264 (by decide) rfl (by decide) rfl rfl rfl rfl ?_
  replace hc := hc.R (a := 264) (k := 5) (b := 268) (by decide) (by decide) (by decide)
  show J X (130, 3505) 102 [(0, .ref (ad7 264))] [] ((cm_X0_init (wI (wI (wI (wI (wI (wI (wI (wI (wI (wI (wI (wI (wL (wI m 264 0 (0 : Int32)) 264 1 (0 : Int64)) 265 0 (1 : Int32)) 265 1 (3 : Int32)) 265 2 (2 : Int32)) 265 3 (80 : Int32)) 266 0 (1 : Int32)) 266 1 (1 : Int32)) 266 2 (1 : Int32)) 266 3 (1 : Int32)) 266 4 (1 : Int32)) 266 5 (1 : Int32)) 266 6 (1 : Int32)) 266 7 (1 : Int32))), (wR (wR (cR_X0_init (wR (wR R 264 2 265) 264 3 266)) 264 4 267) 264 5 268), 395, ad7)
  refine J_aload_n hX dX4_init_102 rfl 0 rfl ?_
  refine J_aload_n hX dX4_init_103 rfl 0 rfl ?_
  refine J_getG (w := ((cm_X0_init (wI (wI (wI (wI (wI (wI (wI (wI (wI (wI (wI (wI (wL (wI m 264 0 (0 : Int32)) 264 1 (0 : Int64)) 265 0 (1 : Int32)) 265 1 (3 : Int32)) 265 2 (2 : Int32)) 265 3 (80 : Int32)) 266 0 (1 : Int32)) 266 1 (1 : Int32)) 266 2 (1 : Int32)) 266 3 (1 : Int32)) 266 4 (1 : Int32)) 266 5 (1 : Int32)) 266 6 (1 : Int32)) 266 7 (1 : Int32))), (wR (wR (cR_X0_init (wR (wR R 264 2 265) 264 3 266)) 264 4 267) 264 5 268), 395, ad7)) hX kf_RX4_37 dX4_init_104 kx_264 (by decide) (s := 2) rfl (show 264 < 395 by omega) rfl (v := .ref (ad7 268)) (fv_ref (by rfl)) ?_
  refine J_getG (w := ((cm_X0_init (wI (wI (wI (wI (wI (wI (wI (wI (wI (wI (wI (wI (wL (wI m 264 0 (0 : Int32)) 264 1 (0 : Int64)) 265 0 (1 : Int32)) 265 1 (3 : Int32)) 265 2 (2 : Int32)) 265 3 (80 : Int32)) 266 0 (1 : Int32)) 266 1 (1 : Int32)) 266 2 (1 : Int32)) 266 3 (1 : Int32)) 266 4 (1 : Int32)) 266 5 (1 : Int32)) 266 6 (1 : Int32)) 266 7 (1 : Int32))), (wR (wR (cR_X0_init (wR (wR R 264 2 265) 264 3 266)) 264 4 267) 264 5 268), 395, ad7)) hX kf_RX4_38 dX4_init_107 kx_268 (by decide) (s := 2) rfl (show 268 < 395 by omega) rfl (v := .ref (ad7 269)) (fv_ref (by rfl)) ?_
  refine J_putRF hX hin kf_RX4_44 ⟨_, _, rfl⟩ dX4_init_110 kx_264 (by decide) rfl (by decide) rfl rfl rfl rfl ?_
  replace hc := hc.R (a := 264) (k := 6) (b := 269) (by decide) (by decide) (by decide)
  show J X (130, 3505) 113 [(0, .ref (ad7 264))] [] ((cm_X0_init (wI (wI (wI (wI (wI (wI (wI (wI (wI (wI (wI (wI (wL (wI m 264 0 (0 : Int32)) 264 1 (0 : Int64)) 265 0 (1 : Int32)) 265 1 (3 : Int32)) 265 2 (2 : Int32)) 265 3 (80 : Int32)) 266 0 (1 : Int32)) 266 1 (1 : Int32)) 266 2 (1 : Int32)) 266 3 (1 : Int32)) 266 4 (1 : Int32)) 266 5 (1 : Int32)) 266 6 (1 : Int32)) 266 7 (1 : Int32))), (wR (wR (wR (cR_X0_init (wR (wR R 264 2 265) 264 3 266)) 264 4 267) 264 5 268) 264 6 269), 395, ad7)
  refine J_aload_n hX dX4_init_113 rfl 0 rfl ?_
  refine J_sipush (v := (1000 : Int32)) hX dX4_init_114 (by decide) ?_
  refine J_newaL hX dX4_init_117 hc kx_395 lx_395 (by decide) (by decide) (Nat.le_of_ble_eq_true rfl) ⟨Nat.le_of_ble_eq_true rfl, Nat.le_of_ble_eq_true rfl⟩ (fun ad9 hg10 => ?_)
  replace hc := hc.N (n := 396) (by omega)
  refine J_re (lv2 := [(0, .ref (ad9 264))]) (st2 := [.ref (ad9 395), .ref (ad9 264)]) (by (try rw [hg10 264 (by decide)]); (try rfl)) (by (try rw [hg10 264 (by decide)]); (try rfl)) ?_
  show J X (131, 4505) 119 [(0, .ref (ad9 264))] [.ref (ad9 395), .ref (ad9 264)] ((cm_X0_init (wI (wI (wI (wI (wI (wI (wI (wI (wI (wI (wI (wI (wL (wI m 264 0 (0 : Int32)) 264 1 (0 : Int64)) 265 0 (1 : Int32)) 265 1 (3 : Int32)) 265 2 (2 : Int32)) 265 3 (80 : Int32)) 266 0 (1 : Int32)) 266 1 (1 : Int32)) 266 2 (1 : Int32)) 266 3 (1 : Int32)) 266 4 (1 : Int32)) 266 5 (1 : Int32)) 266 6 (1 : Int32)) 266 7 (1 : Int32))), (wR (wR (wR (cR_X0_init (wR (wR R 264 2 265) 264 3 266)) 264 4 267) 264 5 268) 264 6 269), 396, ad9)
  refine J_putRF hX hin kf_RX4_45 ⟨_, _, rfl⟩ dX4_init_119 kx_264 (by decide) rfl (by decide) rfl rfl rfl rfl ?_
  replace hc := hc.R (a := 264) (k := 7) (b := 395) (by decide) (by decide) (by decide)
  show J X (131, 4505) 122 [(0, .ref (ad9 264))] [] ((cm_X0_init (wI (wI (wI (wI (wI (wI (wI (wI (wI (wI (wI (wI (wL (wI m 264 0 (0 : Int32)) 264 1 (0 : Int64)) 265 0 (1 : Int32)) 265 1 (3 : Int32)) 265 2 (2 : Int32)) 265 3 (80 : Int32)) 266 0 (1 : Int32)) 266 1 (1 : Int32)) 266 2 (1 : Int32)) 266 3 (1 : Int32)) 266 4 (1 : Int32)) 266 5 (1 : Int32)) 266 6 (1 : Int32)) 266 7 (1 : Int32))), (wR (wR (wR (wR (cR_X0_init (wR (wR R 264 2 265) 264 3 266)) 264 4 267) 264 5 268) 264 6 269) 264 7 395), 396, ad9)
  exact J_vret hX hR dX4_init_122 ⟨rfl, ad9, fun b hb => (hg10 b (by omega)).trans ((hg8 b (by omega)).trans ((hg6 b (by omega)).trans ((hg4 b (by omega)).trans ((hg2 b (by omega)).trans rfl)))), hc, rfl⟩
def cm_X1_init (m : Mm) : Mm := (cm_X2_init 260 m)
def cR_X1_init (R : Nat → Nat → Option Nat) : Nat → Nat → Option Nat := (wR (wR (cR_X2_init 260 R) 259 0 260) 259 1 263)
set_option maxRecDepth 100000 in
set_option maxHeartbeats 4000000 in
theorem k_X1_init {G : GT} (m : Mm) (R : Nat → Nat → Option Nat) (ad : Nat → Nat) (hc : cw (m, R, 260)) : Cn G yX1_init cX1_init 1 none { frames := 2, cells := 4, slots := 434, locals := 32 } [.ref (ad 259)] (4, 434) (m, R, 260, ad) (fun v w => v = none ∧ ∃ ad2 : Nat → Nat, (∀ b, b < 260 → ad2 b = ad b) ∧ cw (cm_X1_init m, cR_X1_init R, 264) ∧ w = (cm_X1_init m, cR_X1_init R, 264, ad2)) := by
  refine Cn.ofI pn_RX1 (Nat.le_of_ble_eq_true rfl) (fun X hG hX hR hin => ?_)
  subst hG
  have hX : Cx X cX1_init 1 RX1 { frames := 2, cells := 4, slots := 434, locals := 32 } := hX
  have hin : (xh X).name = "<init>" := hin
  show J X (0, 0) 0 [(0, .ref (ad 259))] [] (m, R, 260, ad)
  refine J_aload_n hX dX1_init_0 rfl 0 rfl ?_
  refine J_objI hX kl_RX1_1 oi_inst oi_code dX1_init_1 (Nat.le_of_ble_eq_true rfl) (Nat.le_of_ble_eq_true rfl) ?_
  refine J_aload_n hX dX1_init_4 rfl 0 rfl ?_
  refine J_new hX dX1_init_5 kn_RX1_7 hc kx_260 (by decide) (nf := 3) rfl ⟨Nat.le_of_ble_eq_true rfl, Nat.le_of_ble_eq_true rfl⟩ (fun ad1 hg2 => ?_)
  replace hc := hc.N (n := 261) (by omega)
  refine J_re (lv2 := [(0, .ref (ad1 259))]) (st2 := [.ref (ad1 260), .ref (ad1 259)]) (by (try rw [hg2 259 (by decide)]); (try rfl)) (by (try rw [hg2 259 (by decide)]); (try rfl)) ?_
  show J X (1, 3) 8 [(0, .ref (ad1 259))] [.ref (ad1 260), .ref (ad1 259)] (m, R, 261, ad1)
  refine J_dup hX dX1_init_8 rfl ?_
  refine J_cIN hX (k_X2_init 260 kx_260 m R ad1 hc) km_X2_init rfl (mt_1 (List.mem_of_getElem? (i := 236) rfl)) kl_RX1_9 dX1_init_9 ⟨rfl, rfl⟩ ⟨Nat.le_of_ble_eq_true rfl, Nat.le_of_ble_eq_true rfl⟩ ⟨Nat.le_of_ble_eq_true rfl, Nat.le_of_ble_eq_true rfl⟩ rfl rfl (Nat.le_of_ble_eq_true rfl) (fun v w2 hk => ?_)
  obtain ⟨rfl, ad3, hg4, hc, rfl⟩ := hk
  refine J_re (lv2 := [(0, .ref (ad3 259))]) (st2 := [.ref (ad3 260), .ref (ad3 259)]) (by (try rw [hg4 259 (by decide)]); (try rfl)) (by (try rw [hg4 259 (by decide), hg4 260 (by decide)]); (try rfl)) ?_
  show J X (3, 83) 12 [(0, .ref (ad3 259))] [.ref (ad3 260), .ref (ad3 259)] ((cm_X2_init 260 m), (cR_X2_init 260 R), 263, ad3)
  refine J_putRF hX hin kf_RX1_10 ⟨_, _, rfl⟩ dX1_init_12 kx_259 (by decide) rfl (by decide) rfl rfl rfl rfl ?_
  replace hc := hc.R (a := 259) (k := 0) (b := 260) (by decide) (by decide) (by decide)
  show J X (3, 83) 15 [(0, .ref (ad3 259))] [] ((cm_X2_init 260 m), (wR (cR_X2_init 260 R) 259 0 260), 263, ad3)
  refine J_aload_n hX dX1_init_15 rfl 0 rfl ?_
  refine J_sipush (v := (351 : Int32)) hX dX1_init_16 (by decide) ?_
  refine J_newaZ hX dX1_init_19 hc kx_263 lx_263 (by decide) (by decide) (Nat.le_of_ble_eq_true rfl) ⟨Nat.le_of_ble_eq_true rfl, Nat.le_of_ble_eq_true rfl⟩ (fun ad5 hg6 => ?_)
  replace hc := hc.N (n := 264) (by omega)
  refine J_re (lv2 := [(0, .ref (ad5 259))]) (st2 := [.ref (ad5 263), .ref (ad5 259)]) (by (try rw [hg6 259 (by decide)]); (try rfl)) (by (try rw [hg6 259 (by decide)]); (try rfl)) ?_
  show J X (4, 434) 21 [(0, .ref (ad5 259))] [.ref (ad5 263), .ref (ad5 259)] ((cm_X2_init 260 m), (wR (cR_X2_init 260 R) 259 0 260), 264, ad5)
  refine J_putRF hX hin kf_RX1_16 ⟨_, _, rfl⟩ dX1_init_21 kx_259 (by decide) rfl (by decide) rfl rfl rfl rfl ?_
  replace hc := hc.R (a := 259) (k := 1) (b := 263) (by decide) (by decide) (by decide)
  show J X (4, 434) 24 [(0, .ref (ad5 259))] [] ((cm_X2_init 260 m), (wR (wR (cR_X2_init 260 R) 259 0 260) 259 1 263), 264, ad5)
  exact J_vret hX hR dX1_init_24 ⟨rfl, ad5, fun b hb => (hg6 b (by omega)).trans ((hg4 b (by omega)).trans ((hg2 b (by omega)).trans rfl)), hc, rfl⟩
def cm_X9_init (m : Mm) : Mm := (wI (wI (wI (wI (wI (wI (cm_X3_init 243 m) 242 1 (0 : Int32)) 242 2 (0 : Int32)) 242 3 (0 : Int32)) 242 4 (0 : Int32)) 242 5 (0 : Int32)) 242 6 (0 : Int32))
def cR_X9_init (R : Nat → Nat → Option Nat) : Nat → Nat → Option Nat := (wR (wR (cR_X3_init 243 R) 242 0 243) 242 7 258)
set_option maxRecDepth 100000 in
set_option maxHeartbeats 4000000 in
theorem k_X9_init {G : GT} (m : Mm) (R : Nat → Nat → Option Nat) (ad : Nat → Nat) (hc : cw (m, R, 243)) : Cn G yX9_init cX9_init 1 none { frames := 3, cells := 16, slots := 196, locals := 53 } [.ref (ad 242)] (16, 196) (m, R, 243, ad) (fun v w => v = none ∧ ∃ ad2 : Nat → Nat, (∀ b, b < 243 → ad2 b = ad b) ∧ cw (cm_X9_init m, cR_X9_init R, 259) ∧ w = (cm_X9_init m, cR_X9_init R, 259, ad2)) := by
  refine Cn.ofI pn_RX9 (Nat.le_of_ble_eq_true rfl) (fun X hG hX hR hin => ?_)
  subst hG
  have hX : Cx X cX9_init 1 RX9 { frames := 3, cells := 16, slots := 196, locals := 53 } := hX
  have hin : (xh X).name = "<init>" := hin
  show J X (0, 0) 0 [(0, .ref (ad 242))] [] (m, R, 243, ad)
  refine J_aload_n hX dX9_init_0 rfl 0 rfl ?_
  refine J_objI hX kl_RX9_3 oi_inst oi_code dX9_init_1 (Nat.le_of_ble_eq_true rfl) (Nat.le_of_ble_eq_true rfl) ?_
  refine J_aload_n hX dX9_init_4 rfl 0 rfl ?_
  refine J_new hX dX9_init_5 kn_RX9_9 hc kx_243 (by decide) (nf := 7) rfl ⟨Nat.le_of_ble_eq_true rfl, Nat.le_of_ble_eq_true rfl⟩ (fun ad1 hg2 => ?_)
  replace hc := hc.N (n := 244) (by omega)
  refine J_re (lv2 := [(0, .ref (ad1 242))]) (st2 := [.ref (ad1 243), .ref (ad1 242)]) (by (try rw [hg2 242 (by decide)]); (try rfl)) (by (try rw [hg2 242 (by decide)]); (try rfl)) ?_
  show J X (1, 7) 8 [(0, .ref (ad1 242))] [.ref (ad1 243), .ref (ad1 242)] (m, R, 244, ad1)
  refine J_dup hX dX9_init_8 rfl ?_
  refine J_cI hX (k_X3_init 243 kx_243 m R ad1 hc) km_X3_init rfl (mt_1 (List.mem_of_getElem? (i := 26) rfl)) kl_RX9_11 dX9_init_9 ⟨rfl, rfl⟩ ⟨Nat.le_of_ble_eq_true rfl, Nat.le_of_ble_eq_true rfl⟩ ⟨Nat.le_of_ble_eq_true rfl, Nat.le_of_ble_eq_true rfl⟩ rfl rfl (Nat.le_of_ble_eq_true rfl) (fun v w2 hk => ?_)
  obtain ⟨rfl, ad3, hg4, hc, rfl⟩ := hk
  refine J_re (lv2 := [(0, .ref (ad3 242))]) (st2 := [.ref (ad3 243), .ref (ad3 242)]) (by (try rw [hg4 242 (by decide)]); (try rfl)) (by (try rw [hg4 242 (by decide), hg4 243 (by decide)]); (try rfl)) ?_
  show J X (15, 190) 12 [(0, .ref (ad3 242))] [.ref (ad3 243), .ref (ad3 242)] ((cm_X3_init 243 m), (cR_X3_init 243 R), 258, ad3)
  refine J_putRF hX hin kf_RX9_12 ⟨_, _, rfl⟩ dX9_init_12 kx_242 (by decide) rfl (by decide) rfl rfl rfl rfl ?_
  replace hc := hc.R (a := 242) (k := 0) (b := 243) (by decide) (by decide) (by decide)
  show J X (15, 190) 15 [(0, .ref (ad3 242))] [] ((cm_X3_init 243 m), (wR (cR_X3_init 243 R) 242 0 243), 258, ad3)
  refine J_aload_n hX dX9_init_15 rfl 0 rfl ?_
  refine J_iconst (v := (0 : Int32)) hX dX9_init_16 (by decide) ?_
  refine J_putIc hX kf_RX9_18 dX9_init_17 kx_242 (by decide) rfl (by decide) rfl ?_
  replace hc := hc.I (a := 242) (k := 1) (v := (0 : Int32)) (by decide)
  show J X (15, 190) 20 [(0, .ref (ad3 242))] [] ((wI (cm_X3_init 243 m) 242 1 (0 : Int32)), (wR (cR_X3_init 243 R) 242 0 243), 258, ad3)
  refine J_aload_n hX dX9_init_20 rfl 0 rfl ?_
  refine J_iconst (v := (0 : Int32)) hX dX9_init_21 (by decide) ?_
  refine J_putIc hX kf_RX9_22 dX9_init_22 kx_242 (by decide) rfl (by decide) rfl ?_
  replace hc := hc.I (a := 242) (k := 2) (v := (0 : Int32)) (by decide)
  show J X (15, 190) 25 [(0, .ref (ad3 242))] [] ((wI (wI (cm_X3_init 243 m) 242 1 (0 : Int32)) 242 2 (0 : Int32)), (wR (cR_X3_init 243 R) 242 0 243), 258, ad3)
  refine J_aload_n hX dX9_init_25 rfl 0 rfl ?_
  refine J_iconst (v := (0 : Int32)) hX dX9_init_26 (by decide) ?_
  refine J_putIc hX kf_RX9_25 dX9_init_27 kx_242 (by decide) rfl (by decide) rfl ?_
  replace hc := hc.I (a := 242) (k := 3) (v := (0 : Int32)) (by decide)
  show J X (15, 190) 30 [(0, .ref (ad3 242))] [] ((wI (wI (wI (cm_X3_init 243 m) 242 1 (0 : Int32)) 242 2 (0 : Int32)) 242 3 (0 : Int32)), (wR (cR_X3_init 243 R) 242 0 243), 258, ad3)
  refine J_aload_n hX dX9_init_30 rfl 0 rfl ?_
  refine J_iconst (v := (0 : Int32)) hX dX9_init_31 (by decide) ?_
  refine J_putIc hX kf_RX9_28 dX9_init_32 kx_242 (by decide) rfl (by decide) rfl ?_
  replace hc := hc.I (a := 242) (k := 4) (v := (0 : Int32)) (by decide)
  show J X (15, 190) 35 [(0, .ref (ad3 242))] [] ((wI (wI (wI (wI (cm_X3_init 243 m) 242 1 (0 : Int32)) 242 2 (0 : Int32)) 242 3 (0 : Int32)) 242 4 (0 : Int32)), (wR (cR_X3_init 243 R) 242 0 243), 258, ad3)
  refine J_aload_n hX dX9_init_35 rfl 0 rfl ?_
  refine J_iconst (v := (0 : Int32)) hX dX9_init_36 (by decide) ?_
  refine J_putIc hX kf_RX9_31 dX9_init_37 kx_242 (by decide) rfl (by decide) rfl ?_
  replace hc := hc.I (a := 242) (k := 5) (v := (0 : Int32)) (by decide)
  show J X (15, 190) 40 [(0, .ref (ad3 242))] [] ((wI (wI (wI (wI (wI (cm_X3_init 243 m) 242 1 (0 : Int32)) 242 2 (0 : Int32)) 242 3 (0 : Int32)) 242 4 (0 : Int32)) 242 5 (0 : Int32)), (wR (cR_X3_init 243 R) 242 0 243), 258, ad3)
  refine J_aload_n hX dX9_init_40 rfl 0 rfl ?_
  refine J_iconst (v := (0 : Int32)) hX dX9_init_41 (by decide) ?_
  refine J_putZc hX kf_RX9_34 dX9_init_42 kx_242 (by decide) rfl (by decide) rfl bo_0 ?_
  replace hc := hc.I (a := 242) (k := 6) (v := (0 : Int32)) (by decide)
  show J X (15, 190) 45 [(0, .ref (ad3 242))] [] ((wI (wI (wI (wI (wI (wI (cm_X3_init 243 m) 242 1 (0 : Int32)) 242 2 (0 : Int32)) 242 3 (0 : Int32)) 242 4 (0 : Int32)) 242 5 (0 : Int32)) 242 6 (0 : Int32)), (wR (cR_X3_init 243 R) 242 0 243), 258, ad3)
  refine J_aload_n hX dX9_init_45 rfl 0 rfl ?_
  refine J_bipush (v := (6 : Int32)) hX dX9_init_46 (by decide) ?_
  refine J_newaI hX dX9_init_48 hc kx_258 lx_258 (by decide) (by decide) (Nat.le_of_ble_eq_true rfl) ⟨Nat.le_of_ble_eq_true rfl, Nat.le_of_ble_eq_true rfl⟩ (fun ad5 hg6 => ?_)
  replace hc := hc.N (n := 259) (by omega)
  refine J_re (lv2 := [(0, .ref (ad5 242))]) (st2 := [.ref (ad5 258), .ref (ad5 242)]) (by (try rw [hg6 242 (by decide)]); (try rfl)) (by (try rw [hg6 242 (by decide)]); (try rfl)) ?_
  show J X (16, 196) 50 [(0, .ref (ad5 242))] [.ref (ad5 258), .ref (ad5 242)] ((wI (wI (wI (wI (wI (wI (cm_X3_init 243 m) 242 1 (0 : Int32)) 242 2 (0 : Int32)) 242 3 (0 : Int32)) 242 4 (0 : Int32)) 242 5 (0 : Int32)) 242 6 (0 : Int32)), (wR (cR_X3_init 243 R) 242 0 243), 259, ad5)
  refine J_putRF hX hin kf_RX9_38 ⟨_, _, rfl⟩ dX9_init_50 kx_242 (by decide) rfl (by decide) rfl rfl rfl rfl ?_
  replace hc := hc.R (a := 242) (k := 7) (b := 258) (by decide) (by decide) (by decide)
  show J X (16, 196) 53 [(0, .ref (ad5 242))] [] ((wI (wI (wI (wI (wI (wI (cm_X3_init 243 m) 242 1 (0 : Int32)) 242 2 (0 : Int32)) 242 3 (0 : Int32)) 242 4 (0 : Int32)) 242 5 (0 : Int32)) 242 6 (0 : Int32)), (wR (wR (cR_X3_init 243 R) 242 0 243) 242 7 258), 259, ad5)
  exact J_vret hX hR dX9_init_53 ⟨rfl, ad5, fun b hb => (hg6 b (by omega)).trans ((hg4 b (by omega)).trans ((hg2 b (by omega)).trans rfl)), hc, rfl⟩
def cm_X6_init (m : Mm) : Mm := (cm_X3_init 226 (cm_X3_init 211 (cm_X3_init 196 (cm_X3_init 181 (cm_X3_init 166 (cm_X3_init 151 (cm_X3_init 136 (cm_X3_init 121 (cm_X3_init 106 (cm_X3_init 91 (cm_X3_init 76 (cm_X3_init 61 (wI (wI m 33 0 (0 : Int32)) 33 1 (0 : Int32))))))))))))))
def cR_X6_init (R : Nat → Nat → Option Nat) : Nat → Nat → Option Nat := (wR (cR_X3_init 226 (wR (cR_X3_init 211 (wR (cR_X3_init 196 (wR (cR_X3_init 181 (wR (cR_X3_init 166 (wR (cR_X3_init 151 (wR (cR_X3_init 136 (wR (cR_X3_init 121 (wR (cR_X3_init 106 (wR (cR_X3_init 91 (wR (cR_X3_init 76 (wR (cR_X3_init 61 (wR (wRM (wR (wRM (wR R 33 2 34) 35 12) 33 3 35) 48 12) 33 4 48)) 34 0 61)) 34 1 76)) 34 2 91)) 34 3 106)) 34 4 121)) 34 5 136)) 34 6 151)) 34 7 166)) 34 8 181)) 34 9 196)) 34 10 211)) 34 11 226)
set_option maxRecDepth 100000 in
set_option maxHeartbeats 4000000 in
theorem k_X6_init {G : GT} (m : Mm) (R : Nat → Nat → Option Nat) (ad : Nat → Nat) (hc : cw (m, R, 34)) : Cn G yX6_init cX6_init 2 none { frames := 3, cells := 207, slots := 2460, locals := 53 } [.ref (ad 33)] (207, 2460) (m, R, 34, ad) (fun v w => v = none ∧ ∃ ad2 : Nat → Nat, (∀ b, b < 34 → ad2 b = ad b) ∧ cw (cm_X6_init m, cR_X6_init R, 241) ∧ w = (cm_X6_init m, cR_X6_init R, 241, ad2)) := by
  refine Cn.ofI pn_RX6 (Nat.le_of_ble_eq_true rfl) (fun X hG hX hR hin => ?_)
  subst hG
  have hX : Cx X cX6_init 2 RX6 { frames := 3, cells := 207, slots := 2460, locals := 53 } := hX
  have hin : (xh X).name = "<init>" := hin
  show J X (0, 0) 0 [(0, .ref (ad 33))] [] (m, R, 34, ad)
  refine J_aload_n hX dX6_init_0 rfl 0 rfl ?_
  refine J_objI hX kl_RX6_3 oi_inst oi_code dX6_init_1 (Nat.le_of_ble_eq_true rfl) (Nat.le_of_ble_eq_true rfl) ?_
  refine J_aload_n hX dX6_init_4 rfl 0 rfl ?_
  refine J_iconst (v := (0 : Int32)) hX dX6_init_5 (by decide) ?_
  refine J_putIc hX kf_RX6_9 dX6_init_6 kx_33 (by decide) rfl (by decide) rfl ?_
  replace hc := hc.I (a := 33) (k := 0) (v := (0 : Int32)) (by decide)
  show J X (0, 0) 9 [(0, .ref (ad 33))] [] ((wI m 33 0 (0 : Int32)), R, 34, ad)
  refine J_aload_n hX dX6_init_9 rfl 0 rfl ?_
  refine J_iconst (v := (0 : Int32)) hX dX6_init_10 (by decide) ?_
  refine J_putIc hX kf_RX6_15 dX6_init_11 kx_33 (by decide) rfl (by decide) rfl ?_
  replace hc := hc.I (a := 33) (k := 1) (v := (0 : Int32)) (by decide)
  show J X (0, 0) 14 [(0, .ref (ad 33))] [] ((wI (wI m 33 0 (0 : Int32)) 33 1 (0 : Int32)), R, 34, ad)
  refine J_aload_n hX dX6_init_14 rfl 0 rfl ?_
  refine J_bipush (v := (12 : Int32)) hX dX6_init_15 (by decide) ?_
  refine J_newq hX dX6_init_17 (u := 1) (by decide) (mt_1 (List.mem_of_getElem? (i := 170) rfl)) hc kx_34 lx_34 (by decide) (by decide) (Nat.le_of_ble_eq_true rfl) ⟨Nat.le_of_ble_eq_true rfl, Nat.le_of_ble_eq_true rfl⟩ (fun ad1 hg2 => ?_)
  replace hc := hc.N (n := 35) (by omega)
  refine J_re (lv2 := [(0, .ref (ad1 33))]) (st2 := [.ref (ad1 34), .ref (ad1 33)]) (by (try rw [hg2 33 (by decide)]); (try rfl)) (by (try rw [hg2 33 (by decide)]); (try rfl)) ?_
  show J X (1, 12) 20 [(0, .ref (ad1 33))] [.ref (ad1 34), .ref (ad1 33)] ((wI (wI m 33 0 (0 : Int32)) 33 1 (0 : Int32)), R, 35, ad1)
  refine J_putRF hX hin kf_RX6_20 ⟨_, _, rfl⟩ dX6_init_20 kx_33 (by decide) rfl (by decide) rfl rfl rfl rfl ?_
  replace hc := hc.R (a := 33) (k := 2) (b := 34) (by decide) (by decide) (by decide)
  show J X (1, 12) 23 [(0, .ref (ad1 33))] [] ((wI (wI m 33 0 (0 : Int32)) 33 1 (0 : Int32)), (wR R 33 2 34), 35, ad1)
  refine J_aload_n hX dX6_init_23 rfl 0 rfl ?_
  refine J_bipush (v := (12 : Int32)) hX dX6_init_24 (by decide) ?_
  refine J_iconst (v := (4 : Int32)) hX dX6_init_26 (by decide) ?_
  refine J_mna hX dX6_init_27 (mt_1 (List.mem_of_getElem? (i := 171) rfl)) hc kx_35 lx_35 kr_35 (by decide) (by decide) (by decide) (by decide) (Nat.le_of_ble_eq_true rfl) (Nat.le_of_ble_eq_true rfl) ⟨Nat.le_of_ble_eq_true rfl, Nat.le_of_ble_eq_true rfl⟩ (fun ad3 hg4 => ?_)
  replace hc := hc.M (n := 12) (by decide)
  refine J_re (lv2 := [(0, .ref (ad3 33))]) (st2 := [.ref (ad3 35), .ref (ad3 33)]) (by (try rw [hg4 33 (by decide)]); (try rfl)) (by (try rw [hg4 33 (by decide)]); (try rfl)) ?_
  show J X (14, 72) 31 [(0, .ref (ad3 33))] [.ref (ad3 35), .ref (ad3 33)] ((wI (wI m 33 0 (0 : Int32)) 33 1 (0 : Int32)), (wRM (wR R 33 2 34) 35 12), 48, ad3)
  refine J_putRF hX hin kf_RX6_26 ⟨_, _, rfl⟩ dX6_init_31 kx_33 (by decide) rfl (by decide) rfl rfl rfl rfl ?_
  replace hc := hc.R (a := 33) (k := 3) (b := 35) (by decide) (by decide) (by decide)
  show J X (14, 72) 34 [(0, .ref (ad3 33))] [] ((wI (wI m 33 0 (0 : Int32)) 33 1 (0 : Int32)), (wR (wRM (wR R 33 2 34) 35 12) 33 3 35), 48, ad3)
  refine J_aload_n hX dX6_init_34 rfl 0 rfl ?_
  refine J_bipush (v := (12 : Int32)) hX dX6_init_35 (by decide) ?_
  refine J_bipush (v := (8 : Int32)) hX dX6_init_37 (by decide) ?_
  refine J_mna hX dX6_init_39 (mt_1 (List.mem_of_getElem? (i := 171) rfl)) hc kx_48 lx_48 kr_48 (by decide) (by decide) (by decide) (by decide) (Nat.le_of_ble_eq_true rfl) (Nat.le_of_ble_eq_true rfl) ⟨Nat.le_of_ble_eq_true rfl, Nat.le_of_ble_eq_true rfl⟩ (fun ad5 hg6 => ?_)
  replace hc := hc.M (n := 12) (by decide)
  refine J_re (lv2 := [(0, .ref (ad5 33))]) (st2 := [.ref (ad5 48), .ref (ad5 33)]) (by (try rw [hg6 33 (by decide)]); (try rfl)) (by (try rw [hg6 33 (by decide)]); (try rfl)) ?_
  show J X (27, 180) 43 [(0, .ref (ad5 33))] [.ref (ad5 48), .ref (ad5 33)] ((wI (wI m 33 0 (0 : Int32)) 33 1 (0 : Int32)), (wRM (wR (wRM (wR R 33 2 34) 35 12) 33 3 35) 48 12), 61, ad5)
  refine J_putRF hX hin kf_RX6_29 ⟨_, _, rfl⟩ dX6_init_43 kx_33 (by decide) rfl (by decide) rfl rfl rfl rfl ?_
  replace hc := hc.R (a := 33) (k := 4) (b := 48) (by decide) (by decide) (by decide)
  show J X (27, 180) 46 [(0, .ref (ad5 33))] [] ((wI (wI m 33 0 (0 : Int32)) 33 1 (0 : Int32)), (wR (wRM (wR (wRM (wR R 33 2 34) 35 12) 33 3 35) 48 12) 33 4 48), 61, ad5)
  refine J_iconst (v := (0 : Int32)) hX dX6_init_46 (by decide) ?_
  refine J_istore_n (lv2 := [(1, .int (0 : Int32)), (0, .ref (ad5 33))]) hX dX6_init_47 rfl (Nat.le_of_ble_eq_true rfl) rfl ?_
  refine J_iload_n hX dX6_init_48 rfl 0 rfl ?_
  refine J_bipush (v := (12 : Int32)) hX dX6_init_49 (by decide) ?_
  refine J_icmp_ge (tgt := 73) hX dX6_init_51 (by decide) (fun c => absurd c (by decide)) (fun _ => ?_)
  refine J_aload_n hX dX6_init_54 rfl 1 rfl ?_
  refine J_getG (w := ((wI (wI m 33 0 (0 : Int32)) 33 1 (0 : Int32)), (wR (wRM (wR (wRM (wR R 33 2 34) 35 12) 33 3 35) 48 12) 33 4 48), 61, ad5)) hX kf_RX6_20 dX6_init_55 kx_33 (by decide) (s := 2) rfl (show 33 < 61 by omega) rfl (v := .ref (ad5 34)) (fv_ref (by rfl)) ?_
  refine J_iload_n hX dX6_init_58 rfl 0 rfl ?_
  refine J_new hX dX6_init_59 kn_RX6_18 hc kx_61 (by decide) (nf := 7) rfl ⟨Nat.le_of_ble_eq_true rfl, Nat.le_of_ble_eq_true rfl⟩ (fun ad7 hg8 => ?_)
  replace hc := hc.N (n := 62) (by omega)
  refine J_re (lv2 := [(1, .int (0 : Int32)), (0, .ref (ad7 33))]) (st2 := [.ref (ad7 61), .int (0 : Int32), .ref (ad7 34)]) (by (try rw [hg8 33 (by decide)]); (try rfl)) (by (try rw [hg8 34 (by decide)]); (try rfl)) ?_
  show J X (28, 187) 62 [(1, .int (0 : Int32)), (0, .ref (ad7 33))] [.ref (ad7 61), .int (0 : Int32), .ref (ad7 34)] ((wI (wI m 33 0 (0 : Int32)) 33 1 (0 : Int32)), (wR (wRM (wR (wRM (wR R 33 2 34) 35 12) 33 3 35) 48 12) 33 4 48), 62, ad7)
  refine J_dup hX dX6_init_62 rfl ?_
  refine J_cI hX (k_X3_init 61 kx_61 (wI (wI m 33 0 (0 : Int32)) 33 1 (0 : Int32)) (wR (wRM (wR (wRM (wR R 33 2 34) 35 12) 33 3 35) 48 12) 33 4 48) ad7 hc) km_X3_init rfl (mt_1 (List.mem_of_getElem? (i := 26) rfl)) kl_RX6_32 dX6_init_63 ⟨rfl, rfl⟩ ⟨Nat.le_of_ble_eq_true rfl, Nat.le_of_ble_eq_true rfl⟩ ⟨Nat.le_of_ble_eq_true rfl, Nat.le_of_ble_eq_true rfl⟩ rfl rfl (Nat.le_of_ble_eq_true rfl) (fun v w2 hk => ?_)
  obtain ⟨rfl, ad9, hg10, hc, rfl⟩ := hk
  refine J_re (lv2 := [(1, .int (0 : Int32)), (0, .ref (ad9 33))]) (st2 := [.ref (ad9 61), .int (0 : Int32), .ref (ad9 34)]) (by (try rw [hg10 33 (by decide)]); (try rfl)) (by (try rw [hg10 34 (by decide), hg10 61 (by decide)]); (try rfl)) ?_
  show J X (42, 370) 66 [(1, .int (0 : Int32)), (0, .ref (ad9 33))] [.ref (ad9 61), .int (0 : Int32), .ref (ad9 34)] ((cm_X3_init 61 (wI (wI m 33 0 (0 : Int32)) 33 1 (0 : Int32))), (cR_X3_init 61 (wR (wRM (wR (wRM (wR R 33 2 34) 35 12) 33 3 35) 48 12) 33 4 48)), 76, ad9)
  refine J_aastc (j := 0) hX dX6_init_66 (u := 1) (by decide) kx_34 lx_34 (by decide) rfl rfl kx_61 (by decide) ⟨_, _, rfl⟩ (by decide) (vp_lit (by decide)) (by decide) ?_
  replace hc := hc.R (a := 34) (k := 0) (b := 61) (by decide) (by decide) (by decide)
  show J X (42, 370) 67 [(1, .int (0 : Int32)), (0, .ref (ad9 33))] [] ((cm_X3_init 61 (wI (wI m 33 0 (0 : Int32)) 33 1 (0 : Int32))), (wR (cR_X3_init 61 (wR (wRM (wR (wRM (wR R 33 2 34) 35 12) 33 3 35) 48 12) 33 4 48)) 34 0 61), 76, ad9)
  refine J_iinc (x := (1 : Int32)) (lv2 := [(1, .int (1 : Int32)), (0, .ref (ad9 33))]) hX dX6_init_67 0 rfl (by decide) (Nat.le_of_ble_eq_true rfl) rfl ?_
  refine J_goto (tgt := 48) hX dX6_init_70 (by decide) ?_
  refine J_iload_n hX dX6_init_48 rfl 0 rfl ?_
  refine J_bipush (v := (12 : Int32)) hX dX6_init_49 (by decide) ?_
  refine J_icmp_ge (tgt := 73) hX dX6_init_51 (by decide) (fun c => absurd c (by decide)) (fun _ => ?_)
  refine J_aload_n hX dX6_init_54 rfl 1 rfl ?_
  refine J_getG (w := ((cm_X3_init 61 (wI (wI m 33 0 (0 : Int32)) 33 1 (0 : Int32))), (wR (cR_X3_init 61 (wR (wRM (wR (wRM (wR R 33 2 34) 35 12) 33 3 35) 48 12) 33 4 48)) 34 0 61), 76, ad9)) hX kf_RX6_20 dX6_init_55 kx_33 (by decide) (s := 2) rfl (show 33 < 76 by omega) rfl (v := .ref (ad9 34)) (fv_ref (by rfl)) ?_
  refine J_iload_n hX dX6_init_58 rfl 0 rfl ?_
  refine J_new hX dX6_init_59 kn_RX6_18 hc kx_76 (by decide) (nf := 7) rfl ⟨Nat.le_of_ble_eq_true rfl, Nat.le_of_ble_eq_true rfl⟩ (fun ad11 hg12 => ?_)
  replace hc := hc.N (n := 77) (by omega)
  refine J_re (lv2 := [(1, .int (1 : Int32)), (0, .ref (ad11 33))]) (st2 := [.ref (ad11 76), .int (1 : Int32), .ref (ad11 34)]) (by (try rw [hg12 33 (by decide)]); (try rfl)) (by (try rw [hg12 34 (by decide)]); (try rfl)) ?_
  show J X (43, 377) 62 [(1, .int (1 : Int32)), (0, .ref (ad11 33))] [.ref (ad11 76), .int (1 : Int32), .ref (ad11 34)] ((cm_X3_init 61 (wI (wI m 33 0 (0 : Int32)) 33 1 (0 : Int32))), (wR (cR_X3_init 61 (wR (wRM (wR (wRM (wR R 33 2 34) 35 12) 33 3 35) 48 12) 33 4 48)) 34 0 61), 77, ad11)
  refine J_dup hX dX6_init_62 rfl ?_
  refine J_cI hX (k_X3_init 76 kx_76 (cm_X3_init 61 (wI (wI m 33 0 (0 : Int32)) 33 1 (0 : Int32))) (wR (cR_X3_init 61 (wR (wRM (wR (wRM (wR R 33 2 34) 35 12) 33 3 35) 48 12) 33 4 48)) 34 0 61) ad11 hc) km_X3_init rfl (mt_1 (List.mem_of_getElem? (i := 26) rfl)) kl_RX6_32 dX6_init_63 ⟨rfl, rfl⟩ ⟨Nat.le_of_ble_eq_true rfl, Nat.le_of_ble_eq_true rfl⟩ ⟨Nat.le_of_ble_eq_true rfl, Nat.le_of_ble_eq_true rfl⟩ rfl rfl (Nat.le_of_ble_eq_true rfl) (fun v w2 hk => ?_)
  obtain ⟨rfl, ad13, hg14, hc, rfl⟩ := hk
  refine J_re (lv2 := [(1, .int (1 : Int32)), (0, .ref (ad13 33))]) (st2 := [.ref (ad13 76), .int (1 : Int32), .ref (ad13 34)]) (by (try rw [hg14 33 (by decide)]); (try rfl)) (by (try rw [hg14 34 (by decide), hg14 76 (by decide)]); (try rfl)) ?_
  show J X (57, 560) 66 [(1, .int (1 : Int32)), (0, .ref (ad13 33))] [.ref (ad13 76), .int (1 : Int32), .ref (ad13 34)] ((cm_X3_init 76 (cm_X3_init 61 (wI (wI m 33 0 (0 : Int32)) 33 1 (0 : Int32)))), (cR_X3_init 76 (wR (cR_X3_init 61 (wR (wRM (wR (wRM (wR R 33 2 34) 35 12) 33 3 35) 48 12) 33 4 48)) 34 0 61)), 91, ad13)
  refine J_aastc (j := 1) hX dX6_init_66 (u := 1) (by decide) kx_34 lx_34 (by decide) rfl rfl kx_76 (by decide) ⟨_, _, rfl⟩ (by decide) (vp_lit (by decide)) (by decide) ?_
  replace hc := hc.R (a := 34) (k := 1) (b := 76) (by decide) (by decide) (by decide)
  show J X (57, 560) 67 [(1, .int (1 : Int32)), (0, .ref (ad13 33))] [] ((cm_X3_init 76 (cm_X3_init 61 (wI (wI m 33 0 (0 : Int32)) 33 1 (0 : Int32)))), (wR (cR_X3_init 76 (wR (cR_X3_init 61 (wR (wRM (wR (wRM (wR R 33 2 34) 35 12) 33 3 35) 48 12) 33 4 48)) 34 0 61)) 34 1 76), 91, ad13)
  refine J_iinc (x := (2 : Int32)) (lv2 := [(1, .int (2 : Int32)), (0, .ref (ad13 33))]) hX dX6_init_67 0 rfl (by decide) (Nat.le_of_ble_eq_true rfl) rfl ?_
  refine J_goto (tgt := 48) hX dX6_init_70 (by decide) ?_
  refine J_iload_n hX dX6_init_48 rfl 0 rfl ?_
  refine J_bipush (v := (12 : Int32)) hX dX6_init_49 (by decide) ?_
  refine J_icmp_ge (tgt := 73) hX dX6_init_51 (by decide) (fun c => absurd c (by decide)) (fun _ => ?_)
  refine J_aload_n hX dX6_init_54 rfl 1 rfl ?_
  refine J_getG (w := ((cm_X3_init 76 (cm_X3_init 61 (wI (wI m 33 0 (0 : Int32)) 33 1 (0 : Int32)))), (wR (cR_X3_init 76 (wR (cR_X3_init 61 (wR (wRM (wR (wRM (wR R 33 2 34) 35 12) 33 3 35) 48 12) 33 4 48)) 34 0 61)) 34 1 76), 91, ad13)) hX kf_RX6_20 dX6_init_55 kx_33 (by decide) (s := 2) rfl (show 33 < 91 by omega) rfl (v := .ref (ad13 34)) (fv_ref (by rfl)) ?_
  refine J_iload_n hX dX6_init_58 rfl 0 rfl ?_
  refine J_new hX dX6_init_59 kn_RX6_18 hc kx_91 (by decide) (nf := 7) rfl ⟨Nat.le_of_ble_eq_true rfl, Nat.le_of_ble_eq_true rfl⟩ (fun ad15 hg16 => ?_)
  replace hc := hc.N (n := 92) (by omega)
  refine J_re (lv2 := [(1, .int (2 : Int32)), (0, .ref (ad15 33))]) (st2 := [.ref (ad15 91), .int (2 : Int32), .ref (ad15 34)]) (by (try rw [hg16 33 (by decide)]); (try rfl)) (by (try rw [hg16 34 (by decide)]); (try rfl)) ?_
  show J X (58, 567) 62 [(1, .int (2 : Int32)), (0, .ref (ad15 33))] [.ref (ad15 91), .int (2 : Int32), .ref (ad15 34)] ((cm_X3_init 76 (cm_X3_init 61 (wI (wI m 33 0 (0 : Int32)) 33 1 (0 : Int32)))), (wR (cR_X3_init 76 (wR (cR_X3_init 61 (wR (wRM (wR (wRM (wR R 33 2 34) 35 12) 33 3 35) 48 12) 33 4 48)) 34 0 61)) 34 1 76), 92, ad15)
  refine J_dup hX dX6_init_62 rfl ?_
  refine J_cI hX (k_X3_init 91 kx_91 (cm_X3_init 76 (cm_X3_init 61 (wI (wI m 33 0 (0 : Int32)) 33 1 (0 : Int32)))) (wR (cR_X3_init 76 (wR (cR_X3_init 61 (wR (wRM (wR (wRM (wR R 33 2 34) 35 12) 33 3 35) 48 12) 33 4 48)) 34 0 61)) 34 1 76) ad15 hc) km_X3_init rfl (mt_1 (List.mem_of_getElem? (i := 26) rfl)) kl_RX6_32 dX6_init_63 ⟨rfl, rfl⟩ ⟨Nat.le_of_ble_eq_true rfl, Nat.le_of_ble_eq_true rfl⟩ ⟨Nat.le_of_ble_eq_true rfl, Nat.le_of_ble_eq_true rfl⟩ rfl rfl (Nat.le_of_ble_eq_true rfl) (fun v w2 hk => ?_)
  obtain ⟨rfl, ad17, hg18, hc, rfl⟩ := hk
  refine J_re (lv2 := [(1, .int (2 : Int32)), (0, .ref (ad17 33))]) (st2 := [.ref (ad17 91), .int (2 : Int32), .ref (ad17 34)]) (by (try rw [hg18 33 (by decide)]); (try rfl)) (by (try rw [hg18 34 (by decide), hg18 91 (by decide)]); (try rfl)) ?_
  show J X (72, 750) 66 [(1, .int (2 : Int32)), (0, .ref (ad17 33))] [.ref (ad17 91), .int (2 : Int32), .ref (ad17 34)] ((cm_X3_init 91 (cm_X3_init 76 (cm_X3_init 61 (wI (wI m 33 0 (0 : Int32)) 33 1 (0 : Int32))))), (cR_X3_init 91 (wR (cR_X3_init 76 (wR (cR_X3_init 61 (wR (wRM (wR (wRM (wR R 33 2 34) 35 12) 33 3 35) 48 12) 33 4 48)) 34 0 61)) 34 1 76)), 106, ad17)
  refine J_aastc (j := 2) hX dX6_init_66 (u := 1) (by decide) kx_34 lx_34 (by decide) rfl rfl kx_91 (by decide) ⟨_, _, rfl⟩ (by decide) (vp_lit (by decide)) (by decide) ?_
  replace hc := hc.R (a := 34) (k := 2) (b := 91) (by decide) (by decide) (by decide)
  show J X (72, 750) 67 [(1, .int (2 : Int32)), (0, .ref (ad17 33))] [] ((cm_X3_init 91 (cm_X3_init 76 (cm_X3_init 61 (wI (wI m 33 0 (0 : Int32)) 33 1 (0 : Int32))))), (wR (cR_X3_init 91 (wR (cR_X3_init 76 (wR (cR_X3_init 61 (wR (wRM (wR (wRM (wR R 33 2 34) 35 12) 33 3 35) 48 12) 33 4 48)) 34 0 61)) 34 1 76)) 34 2 91), 106, ad17)
  refine J_iinc (x := (3 : Int32)) (lv2 := [(1, .int (3 : Int32)), (0, .ref (ad17 33))]) hX dX6_init_67 0 rfl (by decide) (Nat.le_of_ble_eq_true rfl) rfl ?_
  refine J_goto (tgt := 48) hX dX6_init_70 (by decide) ?_
  refine J_iload_n hX dX6_init_48 rfl 0 rfl ?_
  refine J_bipush (v := (12 : Int32)) hX dX6_init_49 (by decide) ?_
  refine J_icmp_ge (tgt := 73) hX dX6_init_51 (by decide) (fun c => absurd c (by decide)) (fun _ => ?_)
  refine J_aload_n hX dX6_init_54 rfl 1 rfl ?_
  refine J_getG (w := ((cm_X3_init 91 (cm_X3_init 76 (cm_X3_init 61 (wI (wI m 33 0 (0 : Int32)) 33 1 (0 : Int32))))), (wR (cR_X3_init 91 (wR (cR_X3_init 76 (wR (cR_X3_init 61 (wR (wRM (wR (wRM (wR R 33 2 34) 35 12) 33 3 35) 48 12) 33 4 48)) 34 0 61)) 34 1 76)) 34 2 91), 106, ad17)) hX kf_RX6_20 dX6_init_55 kx_33 (by decide) (s := 2) rfl (show 33 < 106 by omega) rfl (v := .ref (ad17 34)) (fv_ref (by rfl)) ?_
  refine J_iload_n hX dX6_init_58 rfl 0 rfl ?_
  refine J_new hX dX6_init_59 kn_RX6_18 hc kx_106 (by decide) (nf := 7) rfl ⟨Nat.le_of_ble_eq_true rfl, Nat.le_of_ble_eq_true rfl⟩ (fun ad19 hg20 => ?_)
  replace hc := hc.N (n := 107) (by omega)
  refine J_re (lv2 := [(1, .int (3 : Int32)), (0, .ref (ad19 33))]) (st2 := [.ref (ad19 106), .int (3 : Int32), .ref (ad19 34)]) (by (try rw [hg20 33 (by decide)]); (try rfl)) (by (try rw [hg20 34 (by decide)]); (try rfl)) ?_
  show J X (73, 757) 62 [(1, .int (3 : Int32)), (0, .ref (ad19 33))] [.ref (ad19 106), .int (3 : Int32), .ref (ad19 34)] ((cm_X3_init 91 (cm_X3_init 76 (cm_X3_init 61 (wI (wI m 33 0 (0 : Int32)) 33 1 (0 : Int32))))), (wR (cR_X3_init 91 (wR (cR_X3_init 76 (wR (cR_X3_init 61 (wR (wRM (wR (wRM (wR R 33 2 34) 35 12) 33 3 35) 48 12) 33 4 48)) 34 0 61)) 34 1 76)) 34 2 91), 107, ad19)
  refine J_dup hX dX6_init_62 rfl ?_
  refine J_cI hX (k_X3_init 106 kx_106 (cm_X3_init 91 (cm_X3_init 76 (cm_X3_init 61 (wI (wI m 33 0 (0 : Int32)) 33 1 (0 : Int32))))) (wR (cR_X3_init 91 (wR (cR_X3_init 76 (wR (cR_X3_init 61 (wR (wRM (wR (wRM (wR R 33 2 34) 35 12) 33 3 35) 48 12) 33 4 48)) 34 0 61)) 34 1 76)) 34 2 91) ad19 hc) km_X3_init rfl (mt_1 (List.mem_of_getElem? (i := 26) rfl)) kl_RX6_32 dX6_init_63 ⟨rfl, rfl⟩ ⟨Nat.le_of_ble_eq_true rfl, Nat.le_of_ble_eq_true rfl⟩ ⟨Nat.le_of_ble_eq_true rfl, Nat.le_of_ble_eq_true rfl⟩ rfl rfl (Nat.le_of_ble_eq_true rfl) (fun v w2 hk => ?_)
  obtain ⟨rfl, ad21, hg22, hc, rfl⟩ := hk
  refine J_re (lv2 := [(1, .int (3 : Int32)), (0, .ref (ad21 33))]) (st2 := [.ref (ad21 106), .int (3 : Int32), .ref (ad21 34)]) (by (try rw [hg22 33 (by decide)]); (try rfl)) (by (try rw [hg22 34 (by decide), hg22 106 (by decide)]); (try rfl)) ?_
  show J X (87, 940) 66 [(1, .int (3 : Int32)), (0, .ref (ad21 33))] [.ref (ad21 106), .int (3 : Int32), .ref (ad21 34)] ((cm_X3_init 106 (cm_X3_init 91 (cm_X3_init 76 (cm_X3_init 61 (wI (wI m 33 0 (0 : Int32)) 33 1 (0 : Int32)))))), (cR_X3_init 106 (wR (cR_X3_init 91 (wR (cR_X3_init 76 (wR (cR_X3_init 61 (wR (wRM (wR (wRM (wR R 33 2 34) 35 12) 33 3 35) 48 12) 33 4 48)) 34 0 61)) 34 1 76)) 34 2 91)), 121, ad21)
  refine J_aastc (j := 3) hX dX6_init_66 (u := 1) (by decide) kx_34 lx_34 (by decide) rfl rfl kx_106 (by decide) ⟨_, _, rfl⟩ (by decide) (vp_lit (by decide)) (by decide) ?_
  replace hc := hc.R (a := 34) (k := 3) (b := 106) (by decide) (by decide) (by decide)
  show J X (87, 940) 67 [(1, .int (3 : Int32)), (0, .ref (ad21 33))] [] ((cm_X3_init 106 (cm_X3_init 91 (cm_X3_init 76 (cm_X3_init 61 (wI (wI m 33 0 (0 : Int32)) 33 1 (0 : Int32)))))), (wR (cR_X3_init 106 (wR (cR_X3_init 91 (wR (cR_X3_init 76 (wR (cR_X3_init 61 (wR (wRM (wR (wRM (wR R 33 2 34) 35 12) 33 3 35) 48 12) 33 4 48)) 34 0 61)) 34 1 76)) 34 2 91)) 34 3 106), 121, ad21)
  refine J_iinc (x := (4 : Int32)) (lv2 := [(1, .int (4 : Int32)), (0, .ref (ad21 33))]) hX dX6_init_67 0 rfl (by decide) (Nat.le_of_ble_eq_true rfl) rfl ?_
  refine J_goto (tgt := 48) hX dX6_init_70 (by decide) ?_
  refine J_iload_n hX dX6_init_48 rfl 0 rfl ?_
  refine J_bipush (v := (12 : Int32)) hX dX6_init_49 (by decide) ?_
  refine J_icmp_ge (tgt := 73) hX dX6_init_51 (by decide) (fun c => absurd c (by decide)) (fun _ => ?_)
  refine J_aload_n hX dX6_init_54 rfl 1 rfl ?_
  refine J_getG (w := ((cm_X3_init 106 (cm_X3_init 91 (cm_X3_init 76 (cm_X3_init 61 (wI (wI m 33 0 (0 : Int32)) 33 1 (0 : Int32)))))), (wR (cR_X3_init 106 (wR (cR_X3_init 91 (wR (cR_X3_init 76 (wR (cR_X3_init 61 (wR (wRM (wR (wRM (wR R 33 2 34) 35 12) 33 3 35) 48 12) 33 4 48)) 34 0 61)) 34 1 76)) 34 2 91)) 34 3 106), 121, ad21)) hX kf_RX6_20 dX6_init_55 kx_33 (by decide) (s := 2) rfl (show 33 < 121 by omega) rfl (v := .ref (ad21 34)) (fv_ref (by rfl)) ?_
  refine J_iload_n hX dX6_init_58 rfl 0 rfl ?_
  refine J_new hX dX6_init_59 kn_RX6_18 hc kx_121 (by decide) (nf := 7) rfl ⟨Nat.le_of_ble_eq_true rfl, Nat.le_of_ble_eq_true rfl⟩ (fun ad23 hg24 => ?_)
  replace hc := hc.N (n := 122) (by omega)
  refine J_re (lv2 := [(1, .int (4 : Int32)), (0, .ref (ad23 33))]) (st2 := [.ref (ad23 121), .int (4 : Int32), .ref (ad23 34)]) (by (try rw [hg24 33 (by decide)]); (try rfl)) (by (try rw [hg24 34 (by decide)]); (try rfl)) ?_
  show J X (88, 947) 62 [(1, .int (4 : Int32)), (0, .ref (ad23 33))] [.ref (ad23 121), .int (4 : Int32), .ref (ad23 34)] ((cm_X3_init 106 (cm_X3_init 91 (cm_X3_init 76 (cm_X3_init 61 (wI (wI m 33 0 (0 : Int32)) 33 1 (0 : Int32)))))), (wR (cR_X3_init 106 (wR (cR_X3_init 91 (wR (cR_X3_init 76 (wR (cR_X3_init 61 (wR (wRM (wR (wRM (wR R 33 2 34) 35 12) 33 3 35) 48 12) 33 4 48)) 34 0 61)) 34 1 76)) 34 2 91)) 34 3 106), 122, ad23)
  refine J_dup hX dX6_init_62 rfl ?_
  refine J_cI hX (k_X3_init 121 kx_121 (cm_X3_init 106 (cm_X3_init 91 (cm_X3_init 76 (cm_X3_init 61 (wI (wI m 33 0 (0 : Int32)) 33 1 (0 : Int32)))))) (wR (cR_X3_init 106 (wR (cR_X3_init 91 (wR (cR_X3_init 76 (wR (cR_X3_init 61 (wR (wRM (wR (wRM (wR R 33 2 34) 35 12) 33 3 35) 48 12) 33 4 48)) 34 0 61)) 34 1 76)) 34 2 91)) 34 3 106) ad23 hc) km_X3_init rfl (mt_1 (List.mem_of_getElem? (i := 26) rfl)) kl_RX6_32 dX6_init_63 ⟨rfl, rfl⟩ ⟨Nat.le_of_ble_eq_true rfl, Nat.le_of_ble_eq_true rfl⟩ ⟨Nat.le_of_ble_eq_true rfl, Nat.le_of_ble_eq_true rfl⟩ rfl rfl (Nat.le_of_ble_eq_true rfl) (fun v w2 hk => ?_)
  obtain ⟨rfl, ad25, hg26, hc, rfl⟩ := hk
  refine J_re (lv2 := [(1, .int (4 : Int32)), (0, .ref (ad25 33))]) (st2 := [.ref (ad25 121), .int (4 : Int32), .ref (ad25 34)]) (by (try rw [hg26 33 (by decide)]); (try rfl)) (by (try rw [hg26 34 (by decide), hg26 121 (by decide)]); (try rfl)) ?_
  show J X (102, 1130) 66 [(1, .int (4 : Int32)), (0, .ref (ad25 33))] [.ref (ad25 121), .int (4 : Int32), .ref (ad25 34)] ((cm_X3_init 121 (cm_X3_init 106 (cm_X3_init 91 (cm_X3_init 76 (cm_X3_init 61 (wI (wI m 33 0 (0 : Int32)) 33 1 (0 : Int32))))))), (cR_X3_init 121 (wR (cR_X3_init 106 (wR (cR_X3_init 91 (wR (cR_X3_init 76 (wR (cR_X3_init 61 (wR (wRM (wR (wRM (wR R 33 2 34) 35 12) 33 3 35) 48 12) 33 4 48)) 34 0 61)) 34 1 76)) 34 2 91)) 34 3 106)), 136, ad25)
  refine J_aastc (j := 4) hX dX6_init_66 (u := 1) (by decide) kx_34 lx_34 (by decide) rfl rfl kx_121 (by decide) ⟨_, _, rfl⟩ (by decide) (vp_lit (by decide)) (by decide) ?_
  replace hc := hc.R (a := 34) (k := 4) (b := 121) (by decide) (by decide) (by decide)
  show J X (102, 1130) 67 [(1, .int (4 : Int32)), (0, .ref (ad25 33))] [] ((cm_X3_init 121 (cm_X3_init 106 (cm_X3_init 91 (cm_X3_init 76 (cm_X3_init 61 (wI (wI m 33 0 (0 : Int32)) 33 1 (0 : Int32))))))), (wR (cR_X3_init 121 (wR (cR_X3_init 106 (wR (cR_X3_init 91 (wR (cR_X3_init 76 (wR (cR_X3_init 61 (wR (wRM (wR (wRM (wR R 33 2 34) 35 12) 33 3 35) 48 12) 33 4 48)) 34 0 61)) 34 1 76)) 34 2 91)) 34 3 106)) 34 4 121), 136, ad25)
  refine J_iinc (x := (5 : Int32)) (lv2 := [(1, .int (5 : Int32)), (0, .ref (ad25 33))]) hX dX6_init_67 0 rfl (by decide) (Nat.le_of_ble_eq_true rfl) rfl ?_
  refine J_goto (tgt := 48) hX dX6_init_70 (by decide) ?_
  refine J_iload_n hX dX6_init_48 rfl 0 rfl ?_
  refine J_bipush (v := (12 : Int32)) hX dX6_init_49 (by decide) ?_
  refine J_icmp_ge (tgt := 73) hX dX6_init_51 (by decide) (fun c => absurd c (by decide)) (fun _ => ?_)
  refine J_aload_n hX dX6_init_54 rfl 1 rfl ?_
  refine J_getG (w := ((cm_X3_init 121 (cm_X3_init 106 (cm_X3_init 91 (cm_X3_init 76 (cm_X3_init 61 (wI (wI m 33 0 (0 : Int32)) 33 1 (0 : Int32))))))), (wR (cR_X3_init 121 (wR (cR_X3_init 106 (wR (cR_X3_init 91 (wR (cR_X3_init 76 (wR (cR_X3_init 61 (wR (wRM (wR (wRM (wR R 33 2 34) 35 12) 33 3 35) 48 12) 33 4 48)) 34 0 61)) 34 1 76)) 34 2 91)) 34 3 106)) 34 4 121), 136, ad25)) hX kf_RX6_20 dX6_init_55 kx_33 (by decide) (s := 2) rfl (show 33 < 136 by omega) rfl (v := .ref (ad25 34)) (fv_ref (by rfl)) ?_
  refine J_iload_n hX dX6_init_58 rfl 0 rfl ?_
  refine J_new hX dX6_init_59 kn_RX6_18 hc kx_136 (by decide) (nf := 7) rfl ⟨Nat.le_of_ble_eq_true rfl, Nat.le_of_ble_eq_true rfl⟩ (fun ad27 hg28 => ?_)
  replace hc := hc.N (n := 137) (by omega)
  refine J_re (lv2 := [(1, .int (5 : Int32)), (0, .ref (ad27 33))]) (st2 := [.ref (ad27 136), .int (5 : Int32), .ref (ad27 34)]) (by (try rw [hg28 33 (by decide)]); (try rfl)) (by (try rw [hg28 34 (by decide)]); (try rfl)) ?_
  show J X (103, 1137) 62 [(1, .int (5 : Int32)), (0, .ref (ad27 33))] [.ref (ad27 136), .int (5 : Int32), .ref (ad27 34)] ((cm_X3_init 121 (cm_X3_init 106 (cm_X3_init 91 (cm_X3_init 76 (cm_X3_init 61 (wI (wI m 33 0 (0 : Int32)) 33 1 (0 : Int32))))))), (wR (cR_X3_init 121 (wR (cR_X3_init 106 (wR (cR_X3_init 91 (wR (cR_X3_init 76 (wR (cR_X3_init 61 (wR (wRM (wR (wRM (wR R 33 2 34) 35 12) 33 3 35) 48 12) 33 4 48)) 34 0 61)) 34 1 76)) 34 2 91)) 34 3 106)) 34 4 121), 137, ad27)
  refine J_dup hX dX6_init_62 rfl ?_
  refine J_cI hX (k_X3_init 136 kx_136 (cm_X3_init 121 (cm_X3_init 106 (cm_X3_init 91 (cm_X3_init 76 (cm_X3_init 61 (wI (wI m 33 0 (0 : Int32)) 33 1 (0 : Int32))))))) (wR (cR_X3_init 121 (wR (cR_X3_init 106 (wR (cR_X3_init 91 (wR (cR_X3_init 76 (wR (cR_X3_init 61 (wR (wRM (wR (wRM (wR R 33 2 34) 35 12) 33 3 35) 48 12) 33 4 48)) 34 0 61)) 34 1 76)) 34 2 91)) 34 3 106)) 34 4 121) ad27 hc) km_X3_init rfl (mt_1 (List.mem_of_getElem? (i := 26) rfl)) kl_RX6_32 dX6_init_63 ⟨rfl, rfl⟩ ⟨Nat.le_of_ble_eq_true rfl, Nat.le_of_ble_eq_true rfl⟩ ⟨Nat.le_of_ble_eq_true rfl, Nat.le_of_ble_eq_true rfl⟩ rfl rfl (Nat.le_of_ble_eq_true rfl) (fun v w2 hk => ?_)
  obtain ⟨rfl, ad29, hg30, hc, rfl⟩ := hk
  refine J_re (lv2 := [(1, .int (5 : Int32)), (0, .ref (ad29 33))]) (st2 := [.ref (ad29 136), .int (5 : Int32), .ref (ad29 34)]) (by (try rw [hg30 33 (by decide)]); (try rfl)) (by (try rw [hg30 34 (by decide), hg30 136 (by decide)]); (try rfl)) ?_
  show J X (117, 1320) 66 [(1, .int (5 : Int32)), (0, .ref (ad29 33))] [.ref (ad29 136), .int (5 : Int32), .ref (ad29 34)] ((cm_X3_init 136 (cm_X3_init 121 (cm_X3_init 106 (cm_X3_init 91 (cm_X3_init 76 (cm_X3_init 61 (wI (wI m 33 0 (0 : Int32)) 33 1 (0 : Int32)))))))), (cR_X3_init 136 (wR (cR_X3_init 121 (wR (cR_X3_init 106 (wR (cR_X3_init 91 (wR (cR_X3_init 76 (wR (cR_X3_init 61 (wR (wRM (wR (wRM (wR R 33 2 34) 35 12) 33 3 35) 48 12) 33 4 48)) 34 0 61)) 34 1 76)) 34 2 91)) 34 3 106)) 34 4 121)), 151, ad29)
  refine J_aastc (j := 5) hX dX6_init_66 (u := 1) (by decide) kx_34 lx_34 (by decide) rfl rfl kx_136 (by decide) ⟨_, _, rfl⟩ (by decide) (vp_lit (by decide)) (by decide) ?_
  replace hc := hc.R (a := 34) (k := 5) (b := 136) (by decide) (by decide) (by decide)
  show J X (117, 1320) 67 [(1, .int (5 : Int32)), (0, .ref (ad29 33))] [] ((cm_X3_init 136 (cm_X3_init 121 (cm_X3_init 106 (cm_X3_init 91 (cm_X3_init 76 (cm_X3_init 61 (wI (wI m 33 0 (0 : Int32)) 33 1 (0 : Int32)))))))), (wR (cR_X3_init 136 (wR (cR_X3_init 121 (wR (cR_X3_init 106 (wR (cR_X3_init 91 (wR (cR_X3_init 76 (wR (cR_X3_init 61 (wR (wRM (wR (wRM (wR R 33 2 34) 35 12) 33 3 35) 48 12) 33 4 48)) 34 0 61)) 34 1 76)) 34 2 91)) 34 3 106)) 34 4 121)) 34 5 136), 151, ad29)
  refine J_iinc (x := (6 : Int32)) (lv2 := [(1, .int (6 : Int32)), (0, .ref (ad29 33))]) hX dX6_init_67 0 rfl (by decide) (Nat.le_of_ble_eq_true rfl) rfl ?_
  refine J_goto (tgt := 48) hX dX6_init_70 (by decide) ?_
  refine J_iload_n hX dX6_init_48 rfl 0 rfl ?_
  refine J_bipush (v := (12 : Int32)) hX dX6_init_49 (by decide) ?_
  refine J_icmp_ge (tgt := 73) hX dX6_init_51 (by decide) (fun c => absurd c (by decide)) (fun _ => ?_)
  refine J_aload_n hX dX6_init_54 rfl 1 rfl ?_
  refine J_getG (w := ((cm_X3_init 136 (cm_X3_init 121 (cm_X3_init 106 (cm_X3_init 91 (cm_X3_init 76 (cm_X3_init 61 (wI (wI m 33 0 (0 : Int32)) 33 1 (0 : Int32)))))))), (wR (cR_X3_init 136 (wR (cR_X3_init 121 (wR (cR_X3_init 106 (wR (cR_X3_init 91 (wR (cR_X3_init 76 (wR (cR_X3_init 61 (wR (wRM (wR (wRM (wR R 33 2 34) 35 12) 33 3 35) 48 12) 33 4 48)) 34 0 61)) 34 1 76)) 34 2 91)) 34 3 106)) 34 4 121)) 34 5 136), 151, ad29)) hX kf_RX6_20 dX6_init_55 kx_33 (by decide) (s := 2) rfl (show 33 < 151 by omega) rfl (v := .ref (ad29 34)) (fv_ref (by rfl)) ?_
  refine J_iload_n hX dX6_init_58 rfl 0 rfl ?_
  refine J_new hX dX6_init_59 kn_RX6_18 hc kx_151 (by decide) (nf := 7) rfl ⟨Nat.le_of_ble_eq_true rfl, Nat.le_of_ble_eq_true rfl⟩ (fun ad31 hg32 => ?_)
  replace hc := hc.N (n := 152) (by omega)
  refine J_re (lv2 := [(1, .int (6 : Int32)), (0, .ref (ad31 33))]) (st2 := [.ref (ad31 151), .int (6 : Int32), .ref (ad31 34)]) (by (try rw [hg32 33 (by decide)]); (try rfl)) (by (try rw [hg32 34 (by decide)]); (try rfl)) ?_
  show J X (118, 1327) 62 [(1, .int (6 : Int32)), (0, .ref (ad31 33))] [.ref (ad31 151), .int (6 : Int32), .ref (ad31 34)] ((cm_X3_init 136 (cm_X3_init 121 (cm_X3_init 106 (cm_X3_init 91 (cm_X3_init 76 (cm_X3_init 61 (wI (wI m 33 0 (0 : Int32)) 33 1 (0 : Int32)))))))), (wR (cR_X3_init 136 (wR (cR_X3_init 121 (wR (cR_X3_init 106 (wR (cR_X3_init 91 (wR (cR_X3_init 76 (wR (cR_X3_init 61 (wR (wRM (wR (wRM (wR R 33 2 34) 35 12) 33 3 35) 48 12) 33 4 48)) 34 0 61)) 34 1 76)) 34 2 91)) 34 3 106)) 34 4 121)) 34 5 136), 152, ad31)
  refine J_dup hX dX6_init_62 rfl ?_
  refine J_cI hX (k_X3_init 151 kx_151 (cm_X3_init 136 (cm_X3_init 121 (cm_X3_init 106 (cm_X3_init 91 (cm_X3_init 76 (cm_X3_init 61 (wI (wI m 33 0 (0 : Int32)) 33 1 (0 : Int32)))))))) (wR (cR_X3_init 136 (wR (cR_X3_init 121 (wR (cR_X3_init 106 (wR (cR_X3_init 91 (wR (cR_X3_init 76 (wR (cR_X3_init 61 (wR (wRM (wR (wRM (wR R 33 2 34) 35 12) 33 3 35) 48 12) 33 4 48)) 34 0 61)) 34 1 76)) 34 2 91)) 34 3 106)) 34 4 121)) 34 5 136) ad31 hc) km_X3_init rfl (mt_1 (List.mem_of_getElem? (i := 26) rfl)) kl_RX6_32 dX6_init_63 ⟨rfl, rfl⟩ ⟨Nat.le_of_ble_eq_true rfl, Nat.le_of_ble_eq_true rfl⟩ ⟨Nat.le_of_ble_eq_true rfl, Nat.le_of_ble_eq_true rfl⟩ rfl rfl (Nat.le_of_ble_eq_true rfl) (fun v w2 hk => ?_)
  obtain ⟨rfl, ad33, hg34, hc, rfl⟩ := hk
  refine J_re (lv2 := [(1, .int (6 : Int32)), (0, .ref (ad33 33))]) (st2 := [.ref (ad33 151), .int (6 : Int32), .ref (ad33 34)]) (by (try rw [hg34 33 (by decide)]); (try rfl)) (by (try rw [hg34 34 (by decide), hg34 151 (by decide)]); (try rfl)) ?_
  show J X (132, 1510) 66 [(1, .int (6 : Int32)), (0, .ref (ad33 33))] [.ref (ad33 151), .int (6 : Int32), .ref (ad33 34)] ((cm_X3_init 151 (cm_X3_init 136 (cm_X3_init 121 (cm_X3_init 106 (cm_X3_init 91 (cm_X3_init 76 (cm_X3_init 61 (wI (wI m 33 0 (0 : Int32)) 33 1 (0 : Int32))))))))), (cR_X3_init 151 (wR (cR_X3_init 136 (wR (cR_X3_init 121 (wR (cR_X3_init 106 (wR (cR_X3_init 91 (wR (cR_X3_init 76 (wR (cR_X3_init 61 (wR (wRM (wR (wRM (wR R 33 2 34) 35 12) 33 3 35) 48 12) 33 4 48)) 34 0 61)) 34 1 76)) 34 2 91)) 34 3 106)) 34 4 121)) 34 5 136)), 166, ad33)
  refine J_aastc (j := 6) hX dX6_init_66 (u := 1) (by decide) kx_34 lx_34 (by decide) rfl rfl kx_151 (by decide) ⟨_, _, rfl⟩ (by decide) (vp_lit (by decide)) (by decide) ?_
  replace hc := hc.R (a := 34) (k := 6) (b := 151) (by decide) (by decide) (by decide)
  show J X (132, 1510) 67 [(1, .int (6 : Int32)), (0, .ref (ad33 33))] [] ((cm_X3_init 151 (cm_X3_init 136 (cm_X3_init 121 (cm_X3_init 106 (cm_X3_init 91 (cm_X3_init 76 (cm_X3_init 61 (wI (wI m 33 0 (0 : Int32)) 33 1 (0 : Int32))))))))), (wR (cR_X3_init 151 (wR (cR_X3_init 136 (wR (cR_X3_init 121 (wR (cR_X3_init 106 (wR (cR_X3_init 91 (wR (cR_X3_init 76 (wR (cR_X3_init 61 (wR (wRM (wR (wRM (wR R 33 2 34) 35 12) 33 3 35) 48 12) 33 4 48)) 34 0 61)) 34 1 76)) 34 2 91)) 34 3 106)) 34 4 121)) 34 5 136)) 34 6 151), 166, ad33)
  refine J_iinc (x := (7 : Int32)) (lv2 := [(1, .int (7 : Int32)), (0, .ref (ad33 33))]) hX dX6_init_67 0 rfl (by decide) (Nat.le_of_ble_eq_true rfl) rfl ?_
  refine J_goto (tgt := 48) hX dX6_init_70 (by decide) ?_
  refine J_iload_n hX dX6_init_48 rfl 0 rfl ?_
  refine J_bipush (v := (12 : Int32)) hX dX6_init_49 (by decide) ?_
  refine J_icmp_ge (tgt := 73) hX dX6_init_51 (by decide) (fun c => absurd c (by decide)) (fun _ => ?_)
  refine J_aload_n hX dX6_init_54 rfl 1 rfl ?_
  refine J_getG (w := ((cm_X3_init 151 (cm_X3_init 136 (cm_X3_init 121 (cm_X3_init 106 (cm_X3_init 91 (cm_X3_init 76 (cm_X3_init 61 (wI (wI m 33 0 (0 : Int32)) 33 1 (0 : Int32))))))))), (wR (cR_X3_init 151 (wR (cR_X3_init 136 (wR (cR_X3_init 121 (wR (cR_X3_init 106 (wR (cR_X3_init 91 (wR (cR_X3_init 76 (wR (cR_X3_init 61 (wR (wRM (wR (wRM (wR R 33 2 34) 35 12) 33 3 35) 48 12) 33 4 48)) 34 0 61)) 34 1 76)) 34 2 91)) 34 3 106)) 34 4 121)) 34 5 136)) 34 6 151), 166, ad33)) hX kf_RX6_20 dX6_init_55 kx_33 (by decide) (s := 2) rfl (show 33 < 166 by omega) rfl (v := .ref (ad33 34)) (fv_ref (by rfl)) ?_
  refine J_iload_n hX dX6_init_58 rfl 0 rfl ?_
  refine J_new hX dX6_init_59 kn_RX6_18 hc kx_166 (by decide) (nf := 7) rfl ⟨Nat.le_of_ble_eq_true rfl, Nat.le_of_ble_eq_true rfl⟩ (fun ad35 hg36 => ?_)
  replace hc := hc.N (n := 167) (by omega)
  refine J_re (lv2 := [(1, .int (7 : Int32)), (0, .ref (ad35 33))]) (st2 := [.ref (ad35 166), .int (7 : Int32), .ref (ad35 34)]) (by (try rw [hg36 33 (by decide)]); (try rfl)) (by (try rw [hg36 34 (by decide)]); (try rfl)) ?_
  show J X (133, 1517) 62 [(1, .int (7 : Int32)), (0, .ref (ad35 33))] [.ref (ad35 166), .int (7 : Int32), .ref (ad35 34)] ((cm_X3_init 151 (cm_X3_init 136 (cm_X3_init 121 (cm_X3_init 106 (cm_X3_init 91 (cm_X3_init 76 (cm_X3_init 61 (wI (wI m 33 0 (0 : Int32)) 33 1 (0 : Int32))))))))), (wR (cR_X3_init 151 (wR (cR_X3_init 136 (wR (cR_X3_init 121 (wR (cR_X3_init 106 (wR (cR_X3_init 91 (wR (cR_X3_init 76 (wR (cR_X3_init 61 (wR (wRM (wR (wRM (wR R 33 2 34) 35 12) 33 3 35) 48 12) 33 4 48)) 34 0 61)) 34 1 76)) 34 2 91)) 34 3 106)) 34 4 121)) 34 5 136)) 34 6 151), 167, ad35)
  refine J_dup hX dX6_init_62 rfl ?_
  refine J_cI hX (k_X3_init 166 kx_166 (cm_X3_init 151 (cm_X3_init 136 (cm_X3_init 121 (cm_X3_init 106 (cm_X3_init 91 (cm_X3_init 76 (cm_X3_init 61 (wI (wI m 33 0 (0 : Int32)) 33 1 (0 : Int32))))))))) (wR (cR_X3_init 151 (wR (cR_X3_init 136 (wR (cR_X3_init 121 (wR (cR_X3_init 106 (wR (cR_X3_init 91 (wR (cR_X3_init 76 (wR (cR_X3_init 61 (wR (wRM (wR (wRM (wR R 33 2 34) 35 12) 33 3 35) 48 12) 33 4 48)) 34 0 61)) 34 1 76)) 34 2 91)) 34 3 106)) 34 4 121)) 34 5 136)) 34 6 151) ad35 hc) km_X3_init rfl (mt_1 (List.mem_of_getElem? (i := 26) rfl)) kl_RX6_32 dX6_init_63 ⟨rfl, rfl⟩ ⟨Nat.le_of_ble_eq_true rfl, Nat.le_of_ble_eq_true rfl⟩ ⟨Nat.le_of_ble_eq_true rfl, Nat.le_of_ble_eq_true rfl⟩ rfl rfl (Nat.le_of_ble_eq_true rfl) (fun v w2 hk => ?_)
  obtain ⟨rfl, ad37, hg38, hc, rfl⟩ := hk
  refine J_re (lv2 := [(1, .int (7 : Int32)), (0, .ref (ad37 33))]) (st2 := [.ref (ad37 166), .int (7 : Int32), .ref (ad37 34)]) (by (try rw [hg38 33 (by decide)]); (try rfl)) (by (try rw [hg38 34 (by decide), hg38 166 (by decide)]); (try rfl)) ?_
  show J X (147, 1700) 66 [(1, .int (7 : Int32)), (0, .ref (ad37 33))] [.ref (ad37 166), .int (7 : Int32), .ref (ad37 34)] ((cm_X3_init 166 (cm_X3_init 151 (cm_X3_init 136 (cm_X3_init 121 (cm_X3_init 106 (cm_X3_init 91 (cm_X3_init 76 (cm_X3_init 61 (wI (wI m 33 0 (0 : Int32)) 33 1 (0 : Int32)))))))))), (cR_X3_init 166 (wR (cR_X3_init 151 (wR (cR_X3_init 136 (wR (cR_X3_init 121 (wR (cR_X3_init 106 (wR (cR_X3_init 91 (wR (cR_X3_init 76 (wR (cR_X3_init 61 (wR (wRM (wR (wRM (wR R 33 2 34) 35 12) 33 3 35) 48 12) 33 4 48)) 34 0 61)) 34 1 76)) 34 2 91)) 34 3 106)) 34 4 121)) 34 5 136)) 34 6 151)), 181, ad37)
  refine J_aastc (j := 7) hX dX6_init_66 (u := 1) (by decide) kx_34 lx_34 (by decide) rfl rfl kx_166 (by decide) ⟨_, _, rfl⟩ (by decide) (vp_lit (by decide)) (by decide) ?_
  replace hc := hc.R (a := 34) (k := 7) (b := 166) (by decide) (by decide) (by decide)
  show J X (147, 1700) 67 [(1, .int (7 : Int32)), (0, .ref (ad37 33))] [] ((cm_X3_init 166 (cm_X3_init 151 (cm_X3_init 136 (cm_X3_init 121 (cm_X3_init 106 (cm_X3_init 91 (cm_X3_init 76 (cm_X3_init 61 (wI (wI m 33 0 (0 : Int32)) 33 1 (0 : Int32)))))))))), (wR (cR_X3_init 166 (wR (cR_X3_init 151 (wR (cR_X3_init 136 (wR (cR_X3_init 121 (wR (cR_X3_init 106 (wR (cR_X3_init 91 (wR (cR_X3_init 76 (wR (cR_X3_init 61 (wR (wRM (wR (wRM (wR R 33 2 34) 35 12) 33 3 35) 48 12) 33 4 48)) 34 0 61)) 34 1 76)) 34 2 91)) 34 3 106)) 34 4 121)) 34 5 136)) 34 6 151)) 34 7 166), 181, ad37)
  refine J_iinc (x := (8 : Int32)) (lv2 := [(1, .int (8 : Int32)), (0, .ref (ad37 33))]) hX dX6_init_67 0 rfl (by decide) (Nat.le_of_ble_eq_true rfl) rfl ?_
  refine J_goto (tgt := 48) hX dX6_init_70 (by decide) ?_
  refine J_iload_n hX dX6_init_48 rfl 0 rfl ?_
  refine J_bipush (v := (12 : Int32)) hX dX6_init_49 (by decide) ?_
  refine J_icmp_ge (tgt := 73) hX dX6_init_51 (by decide) (fun c => absurd c (by decide)) (fun _ => ?_)
  refine J_aload_n hX dX6_init_54 rfl 1 rfl ?_
  refine J_getG (w := ((cm_X3_init 166 (cm_X3_init 151 (cm_X3_init 136 (cm_X3_init 121 (cm_X3_init 106 (cm_X3_init 91 (cm_X3_init 76 (cm_X3_init 61 (wI (wI m 33 0 (0 : Int32)) 33 1 (0 : Int32)))))))))), (wR (cR_X3_init 166 (wR (cR_X3_init 151 (wR (cR_X3_init 136 (wR (cR_X3_init 121 (wR (cR_X3_init 106 (wR (cR_X3_init 91 (wR (cR_X3_init 76 (wR (cR_X3_init 61 (wR (wRM (wR (wRM (wR R 33 2 34) 35 12) 33 3 35) 48 12) 33 4 48)) 34 0 61)) 34 1 76)) 34 2 91)) 34 3 106)) 34 4 121)) 34 5 136)) 34 6 151)) 34 7 166), 181, ad37)) hX kf_RX6_20 dX6_init_55 kx_33 (by decide) (s := 2) rfl (show 33 < 181 by omega) rfl (v := .ref (ad37 34)) (fv_ref (by rfl)) ?_
  refine J_iload_n hX dX6_init_58 rfl 0 rfl ?_
  refine J_new hX dX6_init_59 kn_RX6_18 hc kx_181 (by decide) (nf := 7) rfl ⟨Nat.le_of_ble_eq_true rfl, Nat.le_of_ble_eq_true rfl⟩ (fun ad39 hg40 => ?_)
  replace hc := hc.N (n := 182) (by omega)
  refine J_re (lv2 := [(1, .int (8 : Int32)), (0, .ref (ad39 33))]) (st2 := [.ref (ad39 181), .int (8 : Int32), .ref (ad39 34)]) (by (try rw [hg40 33 (by decide)]); (try rfl)) (by (try rw [hg40 34 (by decide)]); (try rfl)) ?_
  show J X (148, 1707) 62 [(1, .int (8 : Int32)), (0, .ref (ad39 33))] [.ref (ad39 181), .int (8 : Int32), .ref (ad39 34)] ((cm_X3_init 166 (cm_X3_init 151 (cm_X3_init 136 (cm_X3_init 121 (cm_X3_init 106 (cm_X3_init 91 (cm_X3_init 76 (cm_X3_init 61 (wI (wI m 33 0 (0 : Int32)) 33 1 (0 : Int32)))))))))), (wR (cR_X3_init 166 (wR (cR_X3_init 151 (wR (cR_X3_init 136 (wR (cR_X3_init 121 (wR (cR_X3_init 106 (wR (cR_X3_init 91 (wR (cR_X3_init 76 (wR (cR_X3_init 61 (wR (wRM (wR (wRM (wR R 33 2 34) 35 12) 33 3 35) 48 12) 33 4 48)) 34 0 61)) 34 1 76)) 34 2 91)) 34 3 106)) 34 4 121)) 34 5 136)) 34 6 151)) 34 7 166), 182, ad39)
  refine J_dup hX dX6_init_62 rfl ?_
  refine J_cI hX (k_X3_init 181 kx_181 (cm_X3_init 166 (cm_X3_init 151 (cm_X3_init 136 (cm_X3_init 121 (cm_X3_init 106 (cm_X3_init 91 (cm_X3_init 76 (cm_X3_init 61 (wI (wI m 33 0 (0 : Int32)) 33 1 (0 : Int32)))))))))) (wR (cR_X3_init 166 (wR (cR_X3_init 151 (wR (cR_X3_init 136 (wR (cR_X3_init 121 (wR (cR_X3_init 106 (wR (cR_X3_init 91 (wR (cR_X3_init 76 (wR (cR_X3_init 61 (wR (wRM (wR (wRM (wR R 33 2 34) 35 12) 33 3 35) 48 12) 33 4 48)) 34 0 61)) 34 1 76)) 34 2 91)) 34 3 106)) 34 4 121)) 34 5 136)) 34 6 151)) 34 7 166) ad39 hc) km_X3_init rfl (mt_1 (List.mem_of_getElem? (i := 26) rfl)) kl_RX6_32 dX6_init_63 ⟨rfl, rfl⟩ ⟨Nat.le_of_ble_eq_true rfl, Nat.le_of_ble_eq_true rfl⟩ ⟨Nat.le_of_ble_eq_true rfl, Nat.le_of_ble_eq_true rfl⟩ rfl rfl (Nat.le_of_ble_eq_true rfl) (fun v w2 hk => ?_)
  obtain ⟨rfl, ad41, hg42, hc, rfl⟩ := hk
  refine J_re (lv2 := [(1, .int (8 : Int32)), (0, .ref (ad41 33))]) (st2 := [.ref (ad41 181), .int (8 : Int32), .ref (ad41 34)]) (by (try rw [hg42 33 (by decide)]); (try rfl)) (by (try rw [hg42 34 (by decide), hg42 181 (by decide)]); (try rfl)) ?_
  show J X (162, 1890) 66 [(1, .int (8 : Int32)), (0, .ref (ad41 33))] [.ref (ad41 181), .int (8 : Int32), .ref (ad41 34)] ((cm_X3_init 181 (cm_X3_init 166 (cm_X3_init 151 (cm_X3_init 136 (cm_X3_init 121 (cm_X3_init 106 (cm_X3_init 91 (cm_X3_init 76 (cm_X3_init 61 (wI (wI m 33 0 (0 : Int32)) 33 1 (0 : Int32))))))))))), (cR_X3_init 181 (wR (cR_X3_init 166 (wR (cR_X3_init 151 (wR (cR_X3_init 136 (wR (cR_X3_init 121 (wR (cR_X3_init 106 (wR (cR_X3_init 91 (wR (cR_X3_init 76 (wR (cR_X3_init 61 (wR (wRM (wR (wRM (wR R 33 2 34) 35 12) 33 3 35) 48 12) 33 4 48)) 34 0 61)) 34 1 76)) 34 2 91)) 34 3 106)) 34 4 121)) 34 5 136)) 34 6 151)) 34 7 166)), 196, ad41)
  refine J_aastc (j := 8) hX dX6_init_66 (u := 1) (by decide) kx_34 lx_34 (by decide) rfl rfl kx_181 (by decide) ⟨_, _, rfl⟩ (by decide) (vp_lit (by decide)) (by decide) ?_
  replace hc := hc.R (a := 34) (k := 8) (b := 181) (by decide) (by decide) (by decide)
  show J X (162, 1890) 67 [(1, .int (8 : Int32)), (0, .ref (ad41 33))] [] ((cm_X3_init 181 (cm_X3_init 166 (cm_X3_init 151 (cm_X3_init 136 (cm_X3_init 121 (cm_X3_init 106 (cm_X3_init 91 (cm_X3_init 76 (cm_X3_init 61 (wI (wI m 33 0 (0 : Int32)) 33 1 (0 : Int32))))))))))), (wR (cR_X3_init 181 (wR (cR_X3_init 166 (wR (cR_X3_init 151 (wR (cR_X3_init 136 (wR (cR_X3_init 121 (wR (cR_X3_init 106 (wR (cR_X3_init 91 (wR (cR_X3_init 76 (wR (cR_X3_init 61 (wR (wRM (wR (wRM (wR R 33 2 34) 35 12) 33 3 35) 48 12) 33 4 48)) 34 0 61)) 34 1 76)) 34 2 91)) 34 3 106)) 34 4 121)) 34 5 136)) 34 6 151)) 34 7 166)) 34 8 181), 196, ad41)
  refine J_iinc (x := (9 : Int32)) (lv2 := [(1, .int (9 : Int32)), (0, .ref (ad41 33))]) hX dX6_init_67 0 rfl (by decide) (Nat.le_of_ble_eq_true rfl) rfl ?_
  refine J_goto (tgt := 48) hX dX6_init_70 (by decide) ?_
  refine J_iload_n hX dX6_init_48 rfl 0 rfl ?_
  refine J_bipush (v := (12 : Int32)) hX dX6_init_49 (by decide) ?_
  refine J_icmp_ge (tgt := 73) hX dX6_init_51 (by decide) (fun c => absurd c (by decide)) (fun _ => ?_)
  refine J_aload_n hX dX6_init_54 rfl 1 rfl ?_
  refine J_getG (w := ((cm_X3_init 181 (cm_X3_init 166 (cm_X3_init 151 (cm_X3_init 136 (cm_X3_init 121 (cm_X3_init 106 (cm_X3_init 91 (cm_X3_init 76 (cm_X3_init 61 (wI (wI m 33 0 (0 : Int32)) 33 1 (0 : Int32))))))))))), (wR (cR_X3_init 181 (wR (cR_X3_init 166 (wR (cR_X3_init 151 (wR (cR_X3_init 136 (wR (cR_X3_init 121 (wR (cR_X3_init 106 (wR (cR_X3_init 91 (wR (cR_X3_init 76 (wR (cR_X3_init 61 (wR (wRM (wR (wRM (wR R 33 2 34) 35 12) 33 3 35) 48 12) 33 4 48)) 34 0 61)) 34 1 76)) 34 2 91)) 34 3 106)) 34 4 121)) 34 5 136)) 34 6 151)) 34 7 166)) 34 8 181), 196, ad41)) hX kf_RX6_20 dX6_init_55 kx_33 (by decide) (s := 2) rfl (show 33 < 196 by omega) rfl (v := .ref (ad41 34)) (fv_ref (by rfl)) ?_
  refine J_iload_n hX dX6_init_58 rfl 0 rfl ?_
  refine J_new hX dX6_init_59 kn_RX6_18 hc kx_196 (by decide) (nf := 7) rfl ⟨Nat.le_of_ble_eq_true rfl, Nat.le_of_ble_eq_true rfl⟩ (fun ad43 hg44 => ?_)
  replace hc := hc.N (n := 197) (by omega)
  refine J_re (lv2 := [(1, .int (9 : Int32)), (0, .ref (ad43 33))]) (st2 := [.ref (ad43 196), .int (9 : Int32), .ref (ad43 34)]) (by (try rw [hg44 33 (by decide)]); (try rfl)) (by (try rw [hg44 34 (by decide)]); (try rfl)) ?_
  show J X (163, 1897) 62 [(1, .int (9 : Int32)), (0, .ref (ad43 33))] [.ref (ad43 196), .int (9 : Int32), .ref (ad43 34)] ((cm_X3_init 181 (cm_X3_init 166 (cm_X3_init 151 (cm_X3_init 136 (cm_X3_init 121 (cm_X3_init 106 (cm_X3_init 91 (cm_X3_init 76 (cm_X3_init 61 (wI (wI m 33 0 (0 : Int32)) 33 1 (0 : Int32))))))))))), (wR (cR_X3_init 181 (wR (cR_X3_init 166 (wR (cR_X3_init 151 (wR (cR_X3_init 136 (wR (cR_X3_init 121 (wR (cR_X3_init 106 (wR (cR_X3_init 91 (wR (cR_X3_init 76 (wR (cR_X3_init 61 (wR (wRM (wR (wRM (wR R 33 2 34) 35 12) 33 3 35) 48 12) 33 4 48)) 34 0 61)) 34 1 76)) 34 2 91)) 34 3 106)) 34 4 121)) 34 5 136)) 34 6 151)) 34 7 166)) 34 8 181), 197, ad43)
  refine J_dup hX dX6_init_62 rfl ?_
  refine J_cI hX (k_X3_init 196 kx_196 (cm_X3_init 181 (cm_X3_init 166 (cm_X3_init 151 (cm_X3_init 136 (cm_X3_init 121 (cm_X3_init 106 (cm_X3_init 91 (cm_X3_init 76 (cm_X3_init 61 (wI (wI m 33 0 (0 : Int32)) 33 1 (0 : Int32))))))))))) (wR (cR_X3_init 181 (wR (cR_X3_init 166 (wR (cR_X3_init 151 (wR (cR_X3_init 136 (wR (cR_X3_init 121 (wR (cR_X3_init 106 (wR (cR_X3_init 91 (wR (cR_X3_init 76 (wR (cR_X3_init 61 (wR (wRM (wR (wRM (wR R 33 2 34) 35 12) 33 3 35) 48 12) 33 4 48)) 34 0 61)) 34 1 76)) 34 2 91)) 34 3 106)) 34 4 121)) 34 5 136)) 34 6 151)) 34 7 166)) 34 8 181) ad43 hc) km_X3_init rfl (mt_1 (List.mem_of_getElem? (i := 26) rfl)) kl_RX6_32 dX6_init_63 ⟨rfl, rfl⟩ ⟨Nat.le_of_ble_eq_true rfl, Nat.le_of_ble_eq_true rfl⟩ ⟨Nat.le_of_ble_eq_true rfl, Nat.le_of_ble_eq_true rfl⟩ rfl rfl (Nat.le_of_ble_eq_true rfl) (fun v w2 hk => ?_)
  obtain ⟨rfl, ad45, hg46, hc, rfl⟩ := hk
  refine J_re (lv2 := [(1, .int (9 : Int32)), (0, .ref (ad45 33))]) (st2 := [.ref (ad45 196), .int (9 : Int32), .ref (ad45 34)]) (by (try rw [hg46 33 (by decide)]); (try rfl)) (by (try rw [hg46 34 (by decide), hg46 196 (by decide)]); (try rfl)) ?_
  show J X (177, 2080) 66 [(1, .int (9 : Int32)), (0, .ref (ad45 33))] [.ref (ad45 196), .int (9 : Int32), .ref (ad45 34)] ((cm_X3_init 196 (cm_X3_init 181 (cm_X3_init 166 (cm_X3_init 151 (cm_X3_init 136 (cm_X3_init 121 (cm_X3_init 106 (cm_X3_init 91 (cm_X3_init 76 (cm_X3_init 61 (wI (wI m 33 0 (0 : Int32)) 33 1 (0 : Int32)))))))))))), (cR_X3_init 196 (wR (cR_X3_init 181 (wR (cR_X3_init 166 (wR (cR_X3_init 151 (wR (cR_X3_init 136 (wR (cR_X3_init 121 (wR (cR_X3_init 106 (wR (cR_X3_init 91 (wR (cR_X3_init 76 (wR (cR_X3_init 61 (wR (wRM (wR (wRM (wR R 33 2 34) 35 12) 33 3 35) 48 12) 33 4 48)) 34 0 61)) 34 1 76)) 34 2 91)) 34 3 106)) 34 4 121)) 34 5 136)) 34 6 151)) 34 7 166)) 34 8 181)), 211, ad45)
  refine J_aastc (j := 9) hX dX6_init_66 (u := 1) (by decide) kx_34 lx_34 (by decide) rfl rfl kx_196 (by decide) ⟨_, _, rfl⟩ (by decide) (vp_lit (by decide)) (by decide) ?_
  replace hc := hc.R (a := 34) (k := 9) (b := 196) (by decide) (by decide) (by decide)
  show J X (177, 2080) 67 [(1, .int (9 : Int32)), (0, .ref (ad45 33))] [] ((cm_X3_init 196 (cm_X3_init 181 (cm_X3_init 166 (cm_X3_init 151 (cm_X3_init 136 (cm_X3_init 121 (cm_X3_init 106 (cm_X3_init 91 (cm_X3_init 76 (cm_X3_init 61 (wI (wI m 33 0 (0 : Int32)) 33 1 (0 : Int32)))))))))))), (wR (cR_X3_init 196 (wR (cR_X3_init 181 (wR (cR_X3_init 166 (wR (cR_X3_init 151 (wR (cR_X3_init 136 (wR (cR_X3_init 121 (wR (cR_X3_init 106 (wR (cR_X3_init 91 (wR (cR_X3_init 76 (wR (cR_X3_init 61 (wR (wRM (wR (wRM (wR R 33 2 34) 35 12) 33 3 35) 48 12) 33 4 48)) 34 0 61)) 34 1 76)) 34 2 91)) 34 3 106)) 34 4 121)) 34 5 136)) 34 6 151)) 34 7 166)) 34 8 181)) 34 9 196), 211, ad45)
  refine J_iinc (x := (10 : Int32)) (lv2 := [(1, .int (10 : Int32)), (0, .ref (ad45 33))]) hX dX6_init_67 0 rfl (by decide) (Nat.le_of_ble_eq_true rfl) rfl ?_
  refine J_goto (tgt := 48) hX dX6_init_70 (by decide) ?_
  refine J_iload_n hX dX6_init_48 rfl 0 rfl ?_
  refine J_bipush (v := (12 : Int32)) hX dX6_init_49 (by decide) ?_
  refine J_icmp_ge (tgt := 73) hX dX6_init_51 (by decide) (fun c => absurd c (by decide)) (fun _ => ?_)
  refine J_aload_n hX dX6_init_54 rfl 1 rfl ?_
  refine J_getG (w := ((cm_X3_init 196 (cm_X3_init 181 (cm_X3_init 166 (cm_X3_init 151 (cm_X3_init 136 (cm_X3_init 121 (cm_X3_init 106 (cm_X3_init 91 (cm_X3_init 76 (cm_X3_init 61 (wI (wI m 33 0 (0 : Int32)) 33 1 (0 : Int32)))))))))))), (wR (cR_X3_init 196 (wR (cR_X3_init 181 (wR (cR_X3_init 166 (wR (cR_X3_init 151 (wR (cR_X3_init 136 (wR (cR_X3_init 121 (wR (cR_X3_init 106 (wR (cR_X3_init 91 (wR (cR_X3_init 76 (wR (cR_X3_init 61 (wR (wRM (wR (wRM (wR R 33 2 34) 35 12) 33 3 35) 48 12) 33 4 48)) 34 0 61)) 34 1 76)) 34 2 91)) 34 3 106)) 34 4 121)) 34 5 136)) 34 6 151)) 34 7 166)) 34 8 181)) 34 9 196), 211, ad45)) hX kf_RX6_20 dX6_init_55 kx_33 (by decide) (s := 2) rfl (show 33 < 211 by omega) rfl (v := .ref (ad45 34)) (fv_ref (by rfl)) ?_
  refine J_iload_n hX dX6_init_58 rfl 0 rfl ?_
  refine J_new hX dX6_init_59 kn_RX6_18 hc kx_211 (by decide) (nf := 7) rfl ⟨Nat.le_of_ble_eq_true rfl, Nat.le_of_ble_eq_true rfl⟩ (fun ad47 hg48 => ?_)
  replace hc := hc.N (n := 212) (by omega)
  refine J_re (lv2 := [(1, .int (10 : Int32)), (0, .ref (ad47 33))]) (st2 := [.ref (ad47 211), .int (10 : Int32), .ref (ad47 34)]) (by (try rw [hg48 33 (by decide)]); (try rfl)) (by (try rw [hg48 34 (by decide)]); (try rfl)) ?_
  show J X (178, 2087) 62 [(1, .int (10 : Int32)), (0, .ref (ad47 33))] [.ref (ad47 211), .int (10 : Int32), .ref (ad47 34)] ((cm_X3_init 196 (cm_X3_init 181 (cm_X3_init 166 (cm_X3_init 151 (cm_X3_init 136 (cm_X3_init 121 (cm_X3_init 106 (cm_X3_init 91 (cm_X3_init 76 (cm_X3_init 61 (wI (wI m 33 0 (0 : Int32)) 33 1 (0 : Int32)))))))))))), (wR (cR_X3_init 196 (wR (cR_X3_init 181 (wR (cR_X3_init 166 (wR (cR_X3_init 151 (wR (cR_X3_init 136 (wR (cR_X3_init 121 (wR (cR_X3_init 106 (wR (cR_X3_init 91 (wR (cR_X3_init 76 (wR (cR_X3_init 61 (wR (wRM (wR (wRM (wR R 33 2 34) 35 12) 33 3 35) 48 12) 33 4 48)) 34 0 61)) 34 1 76)) 34 2 91)) 34 3 106)) 34 4 121)) 34 5 136)) 34 6 151)) 34 7 166)) 34 8 181)) 34 9 196), 212, ad47)
  refine J_dup hX dX6_init_62 rfl ?_
  refine J_cI hX (k_X3_init 211 kx_211 (cm_X3_init 196 (cm_X3_init 181 (cm_X3_init 166 (cm_X3_init 151 (cm_X3_init 136 (cm_X3_init 121 (cm_X3_init 106 (cm_X3_init 91 (cm_X3_init 76 (cm_X3_init 61 (wI (wI m 33 0 (0 : Int32)) 33 1 (0 : Int32)))))))))))) (wR (cR_X3_init 196 (wR (cR_X3_init 181 (wR (cR_X3_init 166 (wR (cR_X3_init 151 (wR (cR_X3_init 136 (wR (cR_X3_init 121 (wR (cR_X3_init 106 (wR (cR_X3_init 91 (wR (cR_X3_init 76 (wR (cR_X3_init 61 (wR (wRM (wR (wRM (wR R 33 2 34) 35 12) 33 3 35) 48 12) 33 4 48)) 34 0 61)) 34 1 76)) 34 2 91)) 34 3 106)) 34 4 121)) 34 5 136)) 34 6 151)) 34 7 166)) 34 8 181)) 34 9 196) ad47 hc) km_X3_init rfl (mt_1 (List.mem_of_getElem? (i := 26) rfl)) kl_RX6_32 dX6_init_63 ⟨rfl, rfl⟩ ⟨Nat.le_of_ble_eq_true rfl, Nat.le_of_ble_eq_true rfl⟩ ⟨Nat.le_of_ble_eq_true rfl, Nat.le_of_ble_eq_true rfl⟩ rfl rfl (Nat.le_of_ble_eq_true rfl) (fun v w2 hk => ?_)
  obtain ⟨rfl, ad49, hg50, hc, rfl⟩ := hk
  refine J_re (lv2 := [(1, .int (10 : Int32)), (0, .ref (ad49 33))]) (st2 := [.ref (ad49 211), .int (10 : Int32), .ref (ad49 34)]) (by (try rw [hg50 33 (by decide)]); (try rfl)) (by (try rw [hg50 34 (by decide), hg50 211 (by decide)]); (try rfl)) ?_
  show J X (192, 2270) 66 [(1, .int (10 : Int32)), (0, .ref (ad49 33))] [.ref (ad49 211), .int (10 : Int32), .ref (ad49 34)] ((cm_X3_init 211 (cm_X3_init 196 (cm_X3_init 181 (cm_X3_init 166 (cm_X3_init 151 (cm_X3_init 136 (cm_X3_init 121 (cm_X3_init 106 (cm_X3_init 91 (cm_X3_init 76 (cm_X3_init 61 (wI (wI m 33 0 (0 : Int32)) 33 1 (0 : Int32))))))))))))), (cR_X3_init 211 (wR (cR_X3_init 196 (wR (cR_X3_init 181 (wR (cR_X3_init 166 (wR (cR_X3_init 151 (wR (cR_X3_init 136 (wR (cR_X3_init 121 (wR (cR_X3_init 106 (wR (cR_X3_init 91 (wR (cR_X3_init 76 (wR (cR_X3_init 61 (wR (wRM (wR (wRM (wR R 33 2 34) 35 12) 33 3 35) 48 12) 33 4 48)) 34 0 61)) 34 1 76)) 34 2 91)) 34 3 106)) 34 4 121)) 34 5 136)) 34 6 151)) 34 7 166)) 34 8 181)) 34 9 196)), 226, ad49)
  refine J_aastc (j := 10) hX dX6_init_66 (u := 1) (by decide) kx_34 lx_34 (by decide) rfl rfl kx_211 (by decide) ⟨_, _, rfl⟩ (by decide) (vp_lit (by decide)) (by decide) ?_
  replace hc := hc.R (a := 34) (k := 10) (b := 211) (by decide) (by decide) (by decide)
  show J X (192, 2270) 67 [(1, .int (10 : Int32)), (0, .ref (ad49 33))] [] ((cm_X3_init 211 (cm_X3_init 196 (cm_X3_init 181 (cm_X3_init 166 (cm_X3_init 151 (cm_X3_init 136 (cm_X3_init 121 (cm_X3_init 106 (cm_X3_init 91 (cm_X3_init 76 (cm_X3_init 61 (wI (wI m 33 0 (0 : Int32)) 33 1 (0 : Int32))))))))))))), (wR (cR_X3_init 211 (wR (cR_X3_init 196 (wR (cR_X3_init 181 (wR (cR_X3_init 166 (wR (cR_X3_init 151 (wR (cR_X3_init 136 (wR (cR_X3_init 121 (wR (cR_X3_init 106 (wR (cR_X3_init 91 (wR (cR_X3_init 76 (wR (cR_X3_init 61 (wR (wRM (wR (wRM (wR R 33 2 34) 35 12) 33 3 35) 48 12) 33 4 48)) 34 0 61)) 34 1 76)) 34 2 91)) 34 3 106)) 34 4 121)) 34 5 136)) 34 6 151)) 34 7 166)) 34 8 181)) 34 9 196)) 34 10 211), 226, ad49)
  refine J_iinc (x := (11 : Int32)) (lv2 := [(1, .int (11 : Int32)), (0, .ref (ad49 33))]) hX dX6_init_67 0 rfl (by decide) (Nat.le_of_ble_eq_true rfl) rfl ?_
  refine J_goto (tgt := 48) hX dX6_init_70 (by decide) ?_
  refine J_iload_n hX dX6_init_48 rfl 0 rfl ?_
  refine J_bipush (v := (12 : Int32)) hX dX6_init_49 (by decide) ?_
  refine J_icmp_ge (tgt := 73) hX dX6_init_51 (by decide) (fun c => absurd c (by decide)) (fun _ => ?_)
  refine J_aload_n hX dX6_init_54 rfl 1 rfl ?_
  refine J_getG (w := ((cm_X3_init 211 (cm_X3_init 196 (cm_X3_init 181 (cm_X3_init 166 (cm_X3_init 151 (cm_X3_init 136 (cm_X3_init 121 (cm_X3_init 106 (cm_X3_init 91 (cm_X3_init 76 (cm_X3_init 61 (wI (wI m 33 0 (0 : Int32)) 33 1 (0 : Int32))))))))))))), (wR (cR_X3_init 211 (wR (cR_X3_init 196 (wR (cR_X3_init 181 (wR (cR_X3_init 166 (wR (cR_X3_init 151 (wR (cR_X3_init 136 (wR (cR_X3_init 121 (wR (cR_X3_init 106 (wR (cR_X3_init 91 (wR (cR_X3_init 76 (wR (cR_X3_init 61 (wR (wRM (wR (wRM (wR R 33 2 34) 35 12) 33 3 35) 48 12) 33 4 48)) 34 0 61)) 34 1 76)) 34 2 91)) 34 3 106)) 34 4 121)) 34 5 136)) 34 6 151)) 34 7 166)) 34 8 181)) 34 9 196)) 34 10 211), 226, ad49)) hX kf_RX6_20 dX6_init_55 kx_33 (by decide) (s := 2) rfl (show 33 < 226 by omega) rfl (v := .ref (ad49 34)) (fv_ref (by rfl)) ?_
  refine J_iload_n hX dX6_init_58 rfl 0 rfl ?_
  refine J_new hX dX6_init_59 kn_RX6_18 hc kx_226 (by decide) (nf := 7) rfl ⟨Nat.le_of_ble_eq_true rfl, Nat.le_of_ble_eq_true rfl⟩ (fun ad51 hg52 => ?_)
  replace hc := hc.N (n := 227) (by omega)
  refine J_re (lv2 := [(1, .int (11 : Int32)), (0, .ref (ad51 33))]) (st2 := [.ref (ad51 226), .int (11 : Int32), .ref (ad51 34)]) (by (try rw [hg52 33 (by decide)]); (try rfl)) (by (try rw [hg52 34 (by decide)]); (try rfl)) ?_
  show J X (193, 2277) 62 [(1, .int (11 : Int32)), (0, .ref (ad51 33))] [.ref (ad51 226), .int (11 : Int32), .ref (ad51 34)] ((cm_X3_init 211 (cm_X3_init 196 (cm_X3_init 181 (cm_X3_init 166 (cm_X3_init 151 (cm_X3_init 136 (cm_X3_init 121 (cm_X3_init 106 (cm_X3_init 91 (cm_X3_init 76 (cm_X3_init 61 (wI (wI m 33 0 (0 : Int32)) 33 1 (0 : Int32))))))))))))), (wR (cR_X3_init 211 (wR (cR_X3_init 196 (wR (cR_X3_init 181 (wR (cR_X3_init 166 (wR (cR_X3_init 151 (wR (cR_X3_init 136 (wR (cR_X3_init 121 (wR (cR_X3_init 106 (wR (cR_X3_init 91 (wR (cR_X3_init 76 (wR (cR_X3_init 61 (wR (wRM (wR (wRM (wR R 33 2 34) 35 12) 33 3 35) 48 12) 33 4 48)) 34 0 61)) 34 1 76)) 34 2 91)) 34 3 106)) 34 4 121)) 34 5 136)) 34 6 151)) 34 7 166)) 34 8 181)) 34 9 196)) 34 10 211), 227, ad51)
  refine J_dup hX dX6_init_62 rfl ?_
  refine J_cI hX (k_X3_init 226 kx_226 (cm_X3_init 211 (cm_X3_init 196 (cm_X3_init 181 (cm_X3_init 166 (cm_X3_init 151 (cm_X3_init 136 (cm_X3_init 121 (cm_X3_init 106 (cm_X3_init 91 (cm_X3_init 76 (cm_X3_init 61 (wI (wI m 33 0 (0 : Int32)) 33 1 (0 : Int32))))))))))))) (wR (cR_X3_init 211 (wR (cR_X3_init 196 (wR (cR_X3_init 181 (wR (cR_X3_init 166 (wR (cR_X3_init 151 (wR (cR_X3_init 136 (wR (cR_X3_init 121 (wR (cR_X3_init 106 (wR (cR_X3_init 91 (wR (cR_X3_init 76 (wR (cR_X3_init 61 (wR (wRM (wR (wRM (wR R 33 2 34) 35 12) 33 3 35) 48 12) 33 4 48)) 34 0 61)) 34 1 76)) 34 2 91)) 34 3 106)) 34 4 121)) 34 5 136)) 34 6 151)) 34 7 166)) 34 8 181)) 34 9 196)) 34 10 211) ad51 hc) km_X3_init rfl (mt_1 (List.mem_of_getElem? (i := 26) rfl)) kl_RX6_32 dX6_init_63 ⟨rfl, rfl⟩ ⟨Nat.le_of_ble_eq_true rfl, Nat.le_of_ble_eq_true rfl⟩ ⟨Nat.le_of_ble_eq_true rfl, Nat.le_of_ble_eq_true rfl⟩ rfl rfl (Nat.le_of_ble_eq_true rfl) (fun v w2 hk => ?_)
  obtain ⟨rfl, ad53, hg54, hc, rfl⟩ := hk
  refine J_re (lv2 := [(1, .int (11 : Int32)), (0, .ref (ad53 33))]) (st2 := [.ref (ad53 226), .int (11 : Int32), .ref (ad53 34)]) (by (try rw [hg54 33 (by decide)]); (try rfl)) (by (try rw [hg54 34 (by decide), hg54 226 (by decide)]); (try rfl)) ?_
  show J X (207, 2460) 66 [(1, .int (11 : Int32)), (0, .ref (ad53 33))] [.ref (ad53 226), .int (11 : Int32), .ref (ad53 34)] ((cm_X3_init 226 (cm_X3_init 211 (cm_X3_init 196 (cm_X3_init 181 (cm_X3_init 166 (cm_X3_init 151 (cm_X3_init 136 (cm_X3_init 121 (cm_X3_init 106 (cm_X3_init 91 (cm_X3_init 76 (cm_X3_init 61 (wI (wI m 33 0 (0 : Int32)) 33 1 (0 : Int32)))))))))))))), (cR_X3_init 226 (wR (cR_X3_init 211 (wR (cR_X3_init 196 (wR (cR_X3_init 181 (wR (cR_X3_init 166 (wR (cR_X3_init 151 (wR (cR_X3_init 136 (wR (cR_X3_init 121 (wR (cR_X3_init 106 (wR (cR_X3_init 91 (wR (cR_X3_init 76 (wR (cR_X3_init 61 (wR (wRM (wR (wRM (wR R 33 2 34) 35 12) 33 3 35) 48 12) 33 4 48)) 34 0 61)) 34 1 76)) 34 2 91)) 34 3 106)) 34 4 121)) 34 5 136)) 34 6 151)) 34 7 166)) 34 8 181)) 34 9 196)) 34 10 211)), 241, ad53)
  refine J_aastc (j := 11) hX dX6_init_66 (u := 1) (by decide) kx_34 lx_34 (by decide) rfl rfl kx_226 (by decide) ⟨_, _, rfl⟩ (by decide) (vp_lit (by decide)) (by decide) ?_
  replace hc := hc.R (a := 34) (k := 11) (b := 226) (by decide) (by decide) (by decide)
  show J X (207, 2460) 67 [(1, .int (11 : Int32)), (0, .ref (ad53 33))] [] ((cm_X3_init 226 (cm_X3_init 211 (cm_X3_init 196 (cm_X3_init 181 (cm_X3_init 166 (cm_X3_init 151 (cm_X3_init 136 (cm_X3_init 121 (cm_X3_init 106 (cm_X3_init 91 (cm_X3_init 76 (cm_X3_init 61 (wI (wI m 33 0 (0 : Int32)) 33 1 (0 : Int32)))))))))))))), (wR (cR_X3_init 226 (wR (cR_X3_init 211 (wR (cR_X3_init 196 (wR (cR_X3_init 181 (wR (cR_X3_init 166 (wR (cR_X3_init 151 (wR (cR_X3_init 136 (wR (cR_X3_init 121 (wR (cR_X3_init 106 (wR (cR_X3_init 91 (wR (cR_X3_init 76 (wR (cR_X3_init 61 (wR (wRM (wR (wRM (wR R 33 2 34) 35 12) 33 3 35) 48 12) 33 4 48)) 34 0 61)) 34 1 76)) 34 2 91)) 34 3 106)) 34 4 121)) 34 5 136)) 34 6 151)) 34 7 166)) 34 8 181)) 34 9 196)) 34 10 211)) 34 11 226), 241, ad53)
  refine J_iinc (x := (12 : Int32)) (lv2 := [(1, .int (12 : Int32)), (0, .ref (ad53 33))]) hX dX6_init_67 0 rfl (by decide) (Nat.le_of_ble_eq_true rfl) rfl ?_
  refine J_goto (tgt := 48) hX dX6_init_70 (by decide) ?_
  refine J_iload_n hX dX6_init_48 rfl 0 rfl ?_
  refine J_bipush (v := (12 : Int32)) hX dX6_init_49 (by decide) ?_
  refine J_icmp_ge (tgt := 73) hX dX6_init_51 (by decide) (fun _ => ?_) (fun c => absurd (by decide) c)
  exact J_vret hX hR dX6_init_73 ⟨rfl, ad53, fun b hb => (hg54 b (by omega)).trans ((hg52 b (by omega)).trans ((hg50 b (by omega)).trans ((hg48 b (by omega)).trans ((hg46 b (by omega)).trans ((hg44 b (by omega)).trans ((hg42 b (by omega)).trans ((hg40 b (by omega)).trans ((hg38 b (by omega)).trans ((hg36 b (by omega)).trans ((hg34 b (by omega)).trans ((hg32 b (by omega)).trans ((hg30 b (by omega)).trans ((hg28 b (by omega)).trans ((hg26 b (by omega)).trans ((hg24 b (by omega)).trans ((hg22 b (by omega)).trans ((hg20 b (by omega)).trans ((hg18 b (by omega)).trans ((hg16 b (by omega)).trans ((hg14 b (by omega)).trans ((hg12 b (by omega)).trans ((hg10 b (by omega)).trans ((hg8 b (by omega)).trans ((hg6 b (by omega)).trans ((hg4 b (by omega)).trans ((hg2 b (by omega)).trans rfl)))))))))))))))))))))))))), hc, rfl⟩
def cm_X11_init (m : Mm) : Mm := (cm_X3_init 411 (cm_X3_init 396 (wI (wI (cm_X4_init (cm_X1_init (cm_X9_init (cm_X6_init (cm_X3_init 16 (cm_X3_init 1 m)))))) 0 14 (0 : Int32)) 0 15 (0 : Int32))))
def cR_X11_init (R : Nat → Nat → Option Nat) : Nat → Nat → Option Nat := (wR (cR_X3_init 411 (wR (cR_X3_init 396 (wR (wR (wR (wR (wR (wR (cR_X4_init (wR (cR_X1_init (wR (cR_X9_init (wR (wR (cR_X6_init (wR (wR (wR (cR_X3_init 16 (wR (cR_X3_init 1 R) 0 0 1)) 0 1 16) 0 2 31) 0 3 32)) 0 4 33) 0 5 241)) 0 6 242)) 0 7 259)) 0 8 264) 0 9 267) 0 10 268) 0 11 269) 0 12 265) 0 13 266)) 31 0 396)) 31 1 411)
set_option maxRecDepth 100000 in
set_option maxHeartbeats 4000000 in
theorem k_X11_init {G : GT} (m : Mm) (R : Nat → Nat → Option Nat) (ad : Nat → Nat) (hc : cw (m, R, 1)) : Cn G yX11_init cX11_init 2 none { frames := 6, cells := 425, slots := 8542, locals := 113 } [.ref (ad 0)] (425, 8542) (m, R, 1, ad) (fun v w => v = none ∧ ∃ ad2 : Nat → Nat, (∀ b, b < 1 → ad2 b = ad b) ∧ cw (cm_X11_init m, cR_X11_init R, 426) ∧ w = (cm_X11_init m, cR_X11_init R, 426, ad2)) := by
  refine Cn.ofI pn_RX11 (Nat.le_of_ble_eq_true rfl) (fun X hG hX hR hin => ?_)
  subst hG
  have hX : Cx X cX11_init 2 RX11 { frames := 6, cells := 425, slots := 8542, locals := 113 } := hX
  have hin : (xh X).name = "<init>" := hin
  show J X (0, 0) 0 [(0, .ref (ad 0))] [] (m, R, 1, ad)
  refine J_aload_n hX dX11_init_0 rfl 0 rfl ?_
  refine J_objI hX kl_RX11_1 oi_inst oi_code dX11_init_1 (Nat.le_of_ble_eq_true rfl) (Nat.le_of_ble_eq_true rfl) ?_
  refine J_aload_n hX dX11_init_4 rfl 0 rfl ?_
  refine J_new hX dX11_init_5 kn_RX11_7 hc kx_1 (by decide) (nf := 7) rfl ⟨Nat.le_of_ble_eq_true rfl, Nat.le_of_ble_eq_true rfl⟩ (fun ad1 hg2 => ?_)
  replace hc := hc.N (n := 2) (by omega)
  refine J_re (lv2 := [(0, .ref (ad1 0))]) (st2 := [.ref (ad1 1), .ref (ad1 0)]) (by (try rw [hg2 0 (by decide)]); (try rfl)) (by (try rw [hg2 0 (by decide)]); (try rfl)) ?_
  show J X (1, 7) 8 [(0, .ref (ad1 0))] [.ref (ad1 1), .ref (ad1 0)] (m, R, 2, ad1)
  refine J_dup hX dX11_init_8 rfl ?_
  refine J_cI hX (k_X3_init 1 kx_1 m R ad1 hc) km_X3_init rfl (mt_1 (List.mem_of_getElem? (i := 26) rfl)) kl_RX11_9 dX11_init_9 ⟨rfl, rfl⟩ ⟨Nat.le_of_ble_eq_true rfl, Nat.le_of_ble_eq_true rfl⟩ ⟨Nat.le_of_ble_eq_true rfl, Nat.le_of_ble_eq_true rfl⟩ rfl rfl (Nat.le_of_ble_eq_true rfl) (fun v w2 hk => ?_)
  obtain ⟨rfl, ad3, hg4, hc, rfl⟩ := hk
  refine J_re (lv2 := [(0, .ref (ad3 0))]) (st2 := [.ref (ad3 1), .ref (ad3 0)]) (by (try rw [hg4 0 (by decide)]); (try rfl)) (by (try rw [hg4 0 (by decide), hg4 1 (by decide)]); (try rfl)) ?_
  show J X (15, 190) 12 [(0, .ref (ad3 0))] [.ref (ad3 1), .ref (ad3 0)] ((cm_X3_init 1 m), (cR_X3_init 1 R), 16, ad3)
  refine J_putRF hX hin kf_RX11_10 ⟨_, _, rfl⟩ dX11_init_12 kx_0 (by decide) rfl (by decide) rfl rfl rfl rfl ?_
  replace hc := hc.R (a := 0) (k := 0) (b := 1) (by decide) (by decide) (by decide)
  show J X (15, 190) 15 [(0, .ref (ad3 0))] [] ((cm_X3_init 1 m), (wR (cR_X3_init 1 R) 0 0 1), 16, ad3)
  refine J_aload_n hX dX11_init_15 rfl 0 rfl ?_
  refine J_new hX dX11_init_16 kn_RX11_7 hc kx_16 (by decide) (nf := 7) rfl ⟨Nat.le_of_ble_eq_true rfl, Nat.le_of_ble_eq_true rfl⟩ (fun ad5 hg6 => ?_)
  replace hc := hc.N (n := 17) (by omega)
  refine J_re (lv2 := [(0, .ref (ad5 0))]) (st2 := [.ref (ad5 16), .ref (ad5 0)]) (by (try rw [hg6 0 (by decide)]); (try rfl)) (by (try rw [hg6 0 (by decide)]); (try rfl)) ?_
  show J X (16, 197) 19 [(0, .ref (ad5 0))] [.ref (ad5 16), .ref (ad5 0)] ((cm_X3_init 1 m), (wR (cR_X3_init 1 R) 0 0 1), 17, ad5)
  refine J_dup hX dX11_init_19 rfl ?_
  refine J_cI hX (k_X3_init 16 kx_16 (cm_X3_init 1 m) (wR (cR_X3_init 1 R) 0 0 1) ad5 hc) km_X3_init rfl (mt_1 (List.mem_of_getElem? (i := 26) rfl)) kl_RX11_9 dX11_init_20 ⟨rfl, rfl⟩ ⟨Nat.le_of_ble_eq_true rfl, Nat.le_of_ble_eq_true rfl⟩ ⟨Nat.le_of_ble_eq_true rfl, Nat.le_of_ble_eq_true rfl⟩ rfl rfl (Nat.le_of_ble_eq_true rfl) (fun v w2 hk => ?_)
  obtain ⟨rfl, ad7, hg8, hc, rfl⟩ := hk
  refine J_re (lv2 := [(0, .ref (ad7 0))]) (st2 := [.ref (ad7 16), .ref (ad7 0)]) (by (try rw [hg8 0 (by decide)]); (try rfl)) (by (try rw [hg8 0 (by decide), hg8 16 (by decide)]); (try rfl)) ?_
  show J X (30, 380) 23 [(0, .ref (ad7 0))] [.ref (ad7 16), .ref (ad7 0)] ((cm_X3_init 16 (cm_X3_init 1 m)), (cR_X3_init 16 (wR (cR_X3_init 1 R) 0 0 1)), 31, ad7)
  refine J_putRF hX hin kf_RX11_16 ⟨_, _, rfl⟩ dX11_init_23 kx_0 (by decide) rfl (by decide) rfl rfl rfl rfl ?_
  replace hc := hc.R (a := 0) (k := 1) (b := 16) (by decide) (by decide) (by decide)
  show J X (30, 380) 26 [(0, .ref (ad7 0))] [] ((cm_X3_init 16 (cm_X3_init 1 m)), (wR (cR_X3_init 16 (wR (cR_X3_init 1 R) 0 0 1)) 0 1 16), 31, ad7)
  refine J_aload_n hX dX11_init_26 rfl 0 rfl ?_
  refine J_iconst (v := (2 : Int32)) hX dX11_init_27 (by decide) ?_
  refine J_newq hX dX11_init_28 (u := 1) (by decide) (mt_1 (List.mem_of_getElem? (i := 23) rfl)) hc kx_31 lx_31 (by decide) (by decide) (Nat.le_of_ble_eq_true rfl) ⟨Nat.le_of_ble_eq_true rfl, Nat.le_of_ble_eq_true rfl⟩ (fun ad9 hg10 => ?_)
  replace hc := hc.N (n := 32) (by omega)
  refine J_re (lv2 := [(0, .ref (ad9 0))]) (st2 := [.ref (ad9 31), .ref (ad9 0)]) (by (try rw [hg10 0 (by decide)]); (try rfl)) (by (try rw [hg10 0 (by decide)]); (try rfl)) ?_
  show J X (31, 382) 31 [(0, .ref (ad9 0))] [.ref (ad9 31), .ref (ad9 0)] ((cm_X3_init 16 (cm_X3_init 1 m)), (wR (cR_X3_init 16 (wR (cR_X3_init 1 R) 0 0 1)) 0 1 16), 32, ad9)
  refine J_putRF hX hin kf_RX11_19 ⟨_, _, rfl⟩ dX11_init_31 kx_0 (by decide) rfl (by decide) rfl rfl rfl rfl ?_
  replace hc := hc.R (a := 0) (k := 2) (b := 31) (by decide) (by decide) (by decide)
  show J X (31, 382) 34 [(0, .ref (ad9 0))] [] ((cm_X3_init 16 (cm_X3_init 1 m)), (wR (wR (cR_X3_init 16 (wR (cR_X3_init 1 R) 0 0 1)) 0 1 16) 0 2 31), 32, ad9)
  refine J_aload_n hX dX11_init_34 rfl 0 rfl ?_
  refine J_iconst (v := (2 : Int32)) hX dX11_init_35 (by decide) ?_
  refine J_newaZ hX dX11_init_36 hc kx_32 lx_32 (by decide) (by decide) (Nat.le_of_ble_eq_true rfl) ⟨Nat.le_of_ble_eq_true rfl, Nat.le_of_ble_eq_true rfl⟩ (fun ad11 hg12 => ?_)
  replace hc := hc.N (n := 33) (by omega)
  refine J_re (lv2 := [(0, .ref (ad11 0))]) (st2 := [.ref (ad11 32), .ref (ad11 0)]) (by (try rw [hg12 0 (by decide)]); (try rfl)) (by (try rw [hg12 0 (by decide)]); (try rfl)) ?_
  show J X (32, 384) 38 [(0, .ref (ad11 0))] [.ref (ad11 32), .ref (ad11 0)] ((cm_X3_init 16 (cm_X3_init 1 m)), (wR (wR (cR_X3_init 16 (wR (cR_X3_init 1 R) 0 0 1)) 0 1 16) 0 2 31), 33, ad11)
  refine J_putRF hX hin kf_RX11_23 ⟨_, _, rfl⟩ dX11_init_38 kx_0 (by decide) rfl (by decide) rfl rfl rfl rfl ?_
  replace hc := hc.R (a := 0) (k := 3) (b := 32) (by decide) (by decide) (by decide)
  show J X (32, 384) 41 [(0, .ref (ad11 0))] [] ((cm_X3_init 16 (cm_X3_init 1 m)), (wR (wR (wR (cR_X3_init 16 (wR (cR_X3_init 1 R) 0 0 1)) 0 1 16) 0 2 31) 0 3 32), 33, ad11)
  refine J_aload_n hX dX11_init_41 rfl 0 rfl ?_
  refine J_new hX dX11_init_42 kn_RX11_27 hc kx_33 (by decide) (nf := 5) rfl ⟨Nat.le_of_ble_eq_true rfl, Nat.le_of_ble_eq_true rfl⟩ (fun ad13 hg14 => ?_)
  replace hc := hc.N (n := 34) (by omega)
  refine J_re (lv2 := [(0, .ref (ad13 0))]) (st2 := [.ref (ad13 33), .ref (ad13 0)]) (by (try rw [hg14 0 (by decide)]); (try rfl)) (by (try rw [hg14 0 (by decide)]); (try rfl)) ?_
  show J X (33, 389) 45 [(0, .ref (ad13 0))] [.ref (ad13 33), .ref (ad13 0)] ((cm_X3_init 16 (cm_X3_init 1 m)), (wR (wR (wR (cR_X3_init 16 (wR (cR_X3_init 1 R) 0 0 1)) 0 1 16) 0 2 31) 0 3 32), 34, ad13)
  refine J_dup hX dX11_init_45 rfl ?_
  refine J_cI hX (k_X6_init (cm_X3_init 16 (cm_X3_init 1 m)) (wR (wR (wR (cR_X3_init 16 (wR (cR_X3_init 1 R) 0 0 1)) 0 1 16) 0 2 31) 0 3 32) ad13 hc) km_X6_init rfl (mt_1 (List.mem_of_getElem? (i := 167) rfl)) kl_RX11_29 dX11_init_46 ⟨rfl, rfl⟩ ⟨Nat.le_of_ble_eq_true rfl, Nat.le_of_ble_eq_true rfl⟩ ⟨Nat.le_of_ble_eq_true rfl, Nat.le_of_ble_eq_true rfl⟩ rfl rfl (Nat.le_of_ble_eq_true rfl) (fun v w2 hk => ?_)
  obtain ⟨rfl, ad15, hg16, hc, rfl⟩ := hk
  refine J_re (lv2 := [(0, .ref (ad15 0))]) (st2 := [.ref (ad15 33), .ref (ad15 0)]) (by (try rw [hg16 0 (by decide)]); (try rfl)) (by (try rw [hg16 0 (by decide), hg16 33 (by decide)]); (try rfl)) ?_
  show J X (240, 2849) 49 [(0, .ref (ad15 0))] [.ref (ad15 33), .ref (ad15 0)] ((cm_X6_init (cm_X3_init 16 (cm_X3_init 1 m))), (cR_X6_init (wR (wR (wR (cR_X3_init 16 (wR (cR_X3_init 1 R) 0 0 1)) 0 1 16) 0 2 31) 0 3 32)), 241, ad15)
  refine J_putRF hX hin kf_RX11_30 ⟨_, _, rfl⟩ dX11_init_49 kx_0 (by decide) rfl (by decide) rfl rfl rfl rfl ?_
  replace hc := hc.R (a := 0) (k := 4) (b := 33) (by decide) (by decide) (by decide)
  show J X (240, 2849) 52 [(0, .ref (ad15 0))] [] ((cm_X6_init (cm_X3_init 16 (cm_X3_init 1 m))), (wR (cR_X6_init (wR (wR (wR (cR_X3_init 16 (wR (cR_X3_init 1 R) 0 0 1)) 0 1 16) 0 2 31) 0 3 32)) 0 4 33), 241, ad15)
  refine J_aload_n hX dX11_init_52 rfl 0 rfl ?_
  refine J_sipush (v := (160 : Int32)) hX dX11_init_53 (by decide) ?_
  refine J_newaI hX dX11_init_56 hc kx_241 lx_241 (by decide) (by decide) (Nat.le_of_ble_eq_true rfl) ⟨Nat.le_of_ble_eq_true rfl, Nat.le_of_ble_eq_true rfl⟩ (fun ad17 hg18 => ?_)
  replace hc := hc.N (n := 242) (by omega)
  refine J_re (lv2 := [(0, .ref (ad17 0))]) (st2 := [.ref (ad17 241), .ref (ad17 0)]) (by (try rw [hg18 0 (by decide)]); (try rfl)) (by (try rw [hg18 0 (by decide)]); (try rfl)) ?_
  show J X (241, 3009) 58 [(0, .ref (ad17 0))] [.ref (ad17 241), .ref (ad17 0)] ((cm_X6_init (cm_X3_init 16 (cm_X3_init 1 m))), (wR (cR_X6_init (wR (wR (wR (cR_X3_init 16 (wR (cR_X3_init 1 R) 0 0 1)) 0 1 16) 0 2 31) 0 3 32)) 0 4 33), 242, ad17)
  refine J_putRF hX hin kf_RX11_34 ⟨_, _, rfl⟩ dX11_init_58 kx_0 (by decide) rfl (by decide) rfl rfl rfl rfl ?_
  replace hc := hc.R (a := 0) (k := 5) (b := 241) (by decide) (by decide) (by decide)
  show J X (241, 3009) 61 [(0, .ref (ad17 0))] [] ((cm_X6_init (cm_X3_init 16 (cm_X3_init 1 m))), (wR (wR (cR_X6_init (wR (wR (wR (cR_X3_init 16 (wR (cR_X3_init 1 R) 0 0 1)) 0 1 16) 0 2 31) 0 3 32)) 0 4 33) 0 5 241), 242, ad17)
  refine J_aload_n hX dX11_init_61 rfl 0 rfl ?_
  refine J_new hX dX11_init_62 kn_RX11_38 hc kx_242 (by decide) (nf := 8) rfl ⟨Nat.le_of_ble_eq_true rfl, Nat.le_of_ble_eq_true rfl⟩ (fun ad19 hg20 => ?_)
  replace hc := hc.N (n := 243) (by omega)
  refine J_re (lv2 := [(0, .ref (ad19 0))]) (st2 := [.ref (ad19 242), .ref (ad19 0)]) (by (try rw [hg20 0 (by decide)]); (try rfl)) (by (try rw [hg20 0 (by decide)]); (try rfl)) ?_
  show J X (242, 3017) 65 [(0, .ref (ad19 0))] [.ref (ad19 242), .ref (ad19 0)] ((cm_X6_init (cm_X3_init 16 (cm_X3_init 1 m))), (wR (wR (cR_X6_init (wR (wR (wR (cR_X3_init 16 (wR (cR_X3_init 1 R) 0 0 1)) 0 1 16) 0 2 31) 0 3 32)) 0 4 33) 0 5 241), 243, ad19)
  refine J_dup hX dX11_init_65 rfl ?_
  refine J_cIN hX (k_X9_init (cm_X6_init (cm_X3_init 16 (cm_X3_init 1 m))) (wR (wR (cR_X6_init (wR (wR (wR (cR_X3_init 16 (wR (cR_X3_init 1 R) 0 0 1)) 0 1 16) 0 2 31) 0 3 32)) 0 4 33) 0 5 241) ad19 hc) km_X9_init rfl (mt_1 (List.mem_of_getElem? (i := 195) rfl)) kl_RX11_40 dX11_init_66 ⟨rfl, rfl⟩ ⟨Nat.le_of_ble_eq_true rfl, Nat.le_of_ble_eq_true rfl⟩ ⟨Nat.le_of_ble_eq_true rfl, Nat.le_of_ble_eq_true rfl⟩ rfl rfl (Nat.le_of_ble_eq_true rfl) (fun v w2 hk => ?_)
  obtain ⟨rfl, ad21, hg22, hc, rfl⟩ := hk
  refine J_re (lv2 := [(0, .ref (ad21 0))]) (st2 := [.ref (ad21 242), .ref (ad21 0)]) (by (try rw [hg22 0 (by decide)]); (try rfl)) (by (try rw [hg22 0 (by decide), hg22 242 (by decide)]); (try rfl)) ?_
  show J X (258, 3213) 69 [(0, .ref (ad21 0))] [.ref (ad21 242), .ref (ad21 0)] ((cm_X9_init (cm_X6_init (cm_X3_init 16 (cm_X3_init 1 m)))), (cR_X9_init (wR (wR (cR_X6_init (wR (wR (wR (cR_X3_init 16 (wR (cR_X3_init 1 R) 0 0 1)) 0 1 16) 0 2 31) 0 3 32)) 0 4 33) 0 5 241)), 259, ad21)
  refine J_putRF hX hin kf_RX11_41 ⟨_, _, rfl⟩ dX11_init_69 kx_0 (by decide) rfl (by decide) rfl rfl rfl rfl ?_
  replace hc := hc.R (a := 0) (k := 6) (b := 242) (by decide) (by decide) (by decide)
  show J X (258, 3213) 72 [(0, .ref (ad21 0))] [] ((cm_X9_init (cm_X6_init (cm_X3_init 16 (cm_X3_init 1 m)))), (wR (cR_X9_init (wR (wR (cR_X6_init (wR (wR (wR (cR_X3_init 16 (wR (cR_X3_init 1 R) 0 0 1)) 0 1 16) 0 2 31) 0 3 32)) 0 4 33) 0 5 241)) 0 6 242), 259, ad21)
  refine J_aload_n hX dX11_init_72 rfl 0 rfl ?_
  refine J_new hX dX11_init_73 kn_RX11_45 hc kx_259 (by decide) (nf := 2) rfl ⟨Nat.le_of_ble_eq_true rfl, Nat.le_of_ble_eq_true rfl⟩ (fun ad23 hg24 => ?_)
  replace hc := hc.N (n := 260) (by omega)
  refine J_re (lv2 := [(0, .ref (ad23 0))]) (st2 := [.ref (ad23 259), .ref (ad23 0)]) (by (try rw [hg24 0 (by decide)]); (try rfl)) (by (try rw [hg24 0 (by decide)]); (try rfl)) ?_
  show J X (259, 3215) 76 [(0, .ref (ad23 0))] [.ref (ad23 259), .ref (ad23 0)] ((cm_X9_init (cm_X6_init (cm_X3_init 16 (cm_X3_init 1 m)))), (wR (cR_X9_init (wR (wR (cR_X6_init (wR (wR (wR (cR_X3_init 16 (wR (cR_X3_init 1 R) 0 0 1)) 0 1 16) 0 2 31) 0 3 32)) 0 4 33) 0 5 241)) 0 6 242), 260, ad23)
  refine J_dup hX dX11_init_76 rfl ?_
  refine J_cIN hX (k_X1_init (cm_X9_init (cm_X6_init (cm_X3_init 16 (cm_X3_init 1 m)))) (wR (cR_X9_init (wR (wR (cR_X6_init (wR (wR (wR (cR_X3_init 16 (wR (cR_X3_init 1 R) 0 0 1)) 0 1 16) 0 2 31) 0 3 32)) 0 4 33) 0 5 241)) 0 6 242) ad23 hc) km_X1_init rfl (mt_1 (List.mem_of_getElem? (i := 230) rfl)) kl_RX11_47 dX11_init_77 ⟨rfl, rfl⟩ ⟨Nat.le_of_ble_eq_true rfl, Nat.le_of_ble_eq_true rfl⟩ ⟨Nat.le_of_ble_eq_true rfl, Nat.le_of_ble_eq_true rfl⟩ rfl rfl (Nat.le_of_ble_eq_true rfl) (fun v w2 hk => ?_)
  obtain ⟨rfl, ad25, hg26, hc, rfl⟩ := hk
  refine J_re (lv2 := [(0, .ref (ad25 0))]) (st2 := [.ref (ad25 259), .ref (ad25 0)]) (by (try rw [hg26 0 (by decide)]); (try rfl)) (by (try rw [hg26 0 (by decide), hg26 259 (by decide)]); (try rfl)) ?_
  show J X (263, 3649) 80 [(0, .ref (ad25 0))] [.ref (ad25 259), .ref (ad25 0)] ((cm_X1_init (cm_X9_init (cm_X6_init (cm_X3_init 16 (cm_X3_init 1 m))))), (cR_X1_init (wR (cR_X9_init (wR (wR (cR_X6_init (wR (wR (wR (cR_X3_init 16 (wR (cR_X3_init 1 R) 0 0 1)) 0 1 16) 0 2 31) 0 3 32)) 0 4 33) 0 5 241)) 0 6 242)), 264, ad25)
  refine J_putRF hX hin kf_RX11_48 ⟨_, _, rfl⟩ dX11_init_80 kx_0 (by decide) rfl (by decide) rfl rfl rfl rfl ?_
  replace hc := hc.R (a := 0) (k := 7) (b := 259) (by decide) (by decide) (by decide)
  show J X (263, 3649) 83 [(0, .ref (ad25 0))] [] ((cm_X1_init (cm_X9_init (cm_X6_init (cm_X3_init 16 (cm_X3_init 1 m))))), (wR (cR_X1_init (wR (cR_X9_init (wR (wR (cR_X6_init (wR (wR (wR (cR_X3_init 16 (wR (cR_X3_init 1 R) 0 0 1)) 0 1 16) 0 2 31) 0 3 32)) 0 4 33) 0 5 241)) 0 6 242)) 0 7 259), 264, ad25)
  refine J_aload_n hX dX11_init_83 rfl 0 rfl ?_
  refine J_new hX dX11_init_84 kn_RX11_52 hc kx_264 (by decide) (nf := 8) rfl ⟨Nat.le_of_ble_eq_true rfl, Nat.le_of_ble_eq_true rfl⟩ (fun ad27 hg28 => ?_)
  replace hc := hc.N (n := 265) (by omega)
  refine J_re (lv2 := [(0, .ref (ad27 0))]) (st2 := [.ref (ad27 264), .ref (ad27 0)]) (by (try rw [hg28 0 (by decide)]); (try rfl)) (by (try rw [hg28 0 (by decide)]); (try rfl)) ?_
  show J X (264, 3657) 87 [(0, .ref (ad27 0))] [.ref (ad27 264), .ref (ad27 0)] ((cm_X1_init (cm_X9_init (cm_X6_init (cm_X3_init 16 (cm_X3_init 1 m))))), (wR (cR_X1_init (wR (cR_X9_init (wR (wR (cR_X6_init (wR (wR (wR (cR_X3_init 16 (wR (cR_X3_init 1 R) 0 0 1)) 0 1 16) 0 2 31) 0 3 32)) 0 4 33) 0 5 241)) 0 6 242)) 0 7 259), 265, ad27)
  refine J_dup hX dX11_init_87 rfl ?_
  refine J_cIN hX (k_X4_init (cm_X1_init (cm_X9_init (cm_X6_init (cm_X3_init 16 (cm_X3_init 1 m))))) (wR (cR_X1_init (wR (cR_X9_init (wR (wR (cR_X6_init (wR (wR (wR (cR_X3_init 16 (wR (cR_X3_init 1 R) 0 0 1)) 0 1 16) 0 2 31) 0 3 32)) 0 4 33) 0 5 241)) 0 6 242)) 0 7 259) ad27 hc) km_X4_init rfl (mt_2 (List.mem_of_getElem? (i := 19) rfl)) kl_RX11_54 dX11_init_88 ⟨rfl, rfl⟩ ⟨Nat.le_of_ble_eq_true rfl, Nat.le_of_ble_eq_true rfl⟩ ⟨Nat.le_of_ble_eq_true rfl, Nat.le_of_ble_eq_true rfl⟩ rfl rfl (Nat.le_of_ble_eq_true rfl) (fun v w2 hk => ?_)
  obtain ⟨rfl, ad29, hg30, hc, rfl⟩ := hk
  refine J_re (lv2 := [(0, .ref (ad29 0))]) (st2 := [.ref (ad29 264), .ref (ad29 0)]) (by (try rw [hg30 0 (by decide)]); (try rfl)) (by (try rw [hg30 0 (by decide), hg30 264 (by decide)]); (try rfl)) ?_
  show J X (395, 8162) 91 [(0, .ref (ad29 0))] [.ref (ad29 264), .ref (ad29 0)] ((cm_X4_init (cm_X1_init (cm_X9_init (cm_X6_init (cm_X3_init 16 (cm_X3_init 1 m)))))), (cR_X4_init (wR (cR_X1_init (wR (cR_X9_init (wR (wR (cR_X6_init (wR (wR (wR (cR_X3_init 16 (wR (cR_X3_init 1 R) 0 0 1)) 0 1 16) 0 2 31) 0 3 32)) 0 4 33) 0 5 241)) 0 6 242)) 0 7 259)), 396, ad29)
  refine J_putRF hX hin kf_RX11_55 ⟨_, _, rfl⟩ dX11_init_91 kx_0 (by decide) rfl (by decide) rfl rfl rfl rfl ?_
  replace hc := hc.R (a := 0) (k := 8) (b := 264) (by decide) (by decide) (by decide)
  show J X (395, 8162) 94 [(0, .ref (ad29 0))] [] ((cm_X4_init (cm_X1_init (cm_X9_init (cm_X6_init (cm_X3_init 16 (cm_X3_init 1 m)))))), (wR (cR_X4_init (wR (cR_X1_init (wR (cR_X9_init (wR (wR (cR_X6_init (wR (wR (wR (cR_X3_init 16 (wR (cR_X3_init 1 R) 0 0 1)) 0 1 16) 0 2 31) 0 3 32)) 0 4 33) 0 5 241)) 0 6 242)) 0 7 259)) 0 8 264), 396, ad29)
  refine J_aload_n hX dX11_init_94 rfl 0 rfl ?_
  refine J_aload_n hX dX11_init_95 rfl 0 rfl ?_
  refine J_getG (w := ((cm_X4_init (cm_X1_init (cm_X9_init (cm_X6_init (cm_X3_init 16 (cm_X3_init 1 m)))))), (wR (cR_X4_init (wR (cR_X1_init (wR (cR_X9_init (wR (wR (cR_X6_init (wR (wR (wR (cR_X3_init 16 (wR (cR_X3_init 1 R) 0 0 1)) 0 1 16) 0 2 31) 0 3 32)) 0 4 33) 0 5 241)) 0 6 242)) 0 7 259)) 0 8 264), 396, ad29)) hX kf_RX11_55 dX11_init_96 kx_0 (by decide) (s := 2) rfl (show 0 < 396 by omega) rfl (v := .ref (ad29 264)) (fv_ref (by rfl)) ?_
  refine J_getG (w := ((cm_X4_init (cm_X1_init (cm_X9_init (cm_X6_init (cm_X3_init 16 (cm_X3_init 1 m)))))), (wR (cR_X4_init (wR (cR_X1_init (wR (cR_X9_init (wR (wR (cR_X6_init (wR (wR (wR (cR_X3_init 16 (wR (cR_X3_init 1 R) 0 0 1)) 0 1 16) 0 2 31) 0 3 32)) 0 4 33) 0 5 241)) 0 6 242)) 0 7 259)) 0 8 264), 396, ad29)) hX kf_RX11_59 dX11_init_99 kx_264 (by decide) (s := 2) rfl (show 264 < 396 by omega) rfl (v := .ref (ad29 267)) (fv_ref (by rfl)) ?_
  refine J_putRF hX hin kf_RX11_63 ⟨_, _, rfl⟩ dX11_init_102 kx_0 (by decide) rfl (by decide) rfl rfl rfl rfl ?_
  replace hc := hc.R (a := 0) (k := 9) (b := 267) (by decide) (by decide) (by decide)
  show J X (395, 8162) 105 [(0, .ref (ad29 0))] [] ((cm_X4_init (cm_X1_init (cm_X9_init (cm_X6_init (cm_X3_init 16 (cm_X3_init 1 m)))))), (wR (wR (cR_X4_init (wR (cR_X1_init (wR (cR_X9_init (wR (wR (cR_X6_init (wR (wR (wR (cR_X3_init 16 (wR (cR_X3_init 1 R) 0 0 1)) 0 1 16) 0 2 31) 0 3 32)) 0 4 33) 0 5 241)) 0 6 242)) 0 7 259)) 0 8 264) 0 9 267), 396, ad29)
  refine J_aload_n hX dX11_init_105 rfl 0 rfl ?_
  refine J_aload_n hX dX11_init_106 rfl 0 rfl ?_
  refine J_getG (w := ((cm_X4_init (cm_X1_init (cm_X9_init (cm_X6_init (cm_X3_init 16 (cm_X3_init 1 m)))))), (wR (wR (cR_X4_init (wR (cR_X1_init (wR (cR_X9_init (wR (wR (cR_X6_init (wR (wR (wR (cR_X3_init 16 (wR (cR_X3_init 1 R) 0 0 1)) 0 1 16) 0 2 31) 0 3 32)) 0 4 33) 0 5 241)) 0 6 242)) 0 7 259)) 0 8 264) 0 9 267), 396, ad29)) hX kf_RX11_55 dX11_init_107 kx_0 (by decide) (s := 2) rfl (show 0 < 396 by omega) rfl (v := .ref (ad29 264)) (fv_ref (by rfl)) ?_
  refine J_getG (w := ((cm_X4_init (cm_X1_init (cm_X9_init (cm_X6_init (cm_X3_init 16 (cm_X3_init 1 m)))))), (wR (wR (cR_X4_init (wR (cR_X1_init (wR (cR_X9_init (wR (wR (cR_X6_init (wR (wR (wR (cR_X3_init 16 (wR (cR_X3_init 1 R) 0 0 1)) 0 1 16) 0 2 31) 0 3 32)) 0 4 33) 0 5 241)) 0 6 242)) 0 7 259)) 0 8 264) 0 9 267), 396, ad29)) hX kf_RX11_64 dX11_init_110 kx_264 (by decide) (s := 2) rfl (show 264 < 396 by omega) rfl (v := .ref (ad29 268)) (fv_ref (by rfl)) ?_
  refine J_putRF hX hin kf_RX11_68 ⟨_, _, rfl⟩ dX11_init_113 kx_0 (by decide) rfl (by decide) rfl rfl rfl rfl ?_
  replace hc := hc.R (a := 0) (k := 10) (b := 268) (by decide) (by decide) (by decide)
  show J X (395, 8162) 116 [(0, .ref (ad29 0))] [] ((cm_X4_init (cm_X1_init (cm_X9_init (cm_X6_init (cm_X3_init 16 (cm_X3_init 1 m)))))), (wR (wR (wR (cR_X4_init (wR (cR_X1_init (wR (cR_X9_init (wR (wR (cR_X6_init (wR (wR (wR (cR_X3_init 16 (wR (cR_X3_init 1 R) 0 0 1)) 0 1 16) 0 2 31) 0 3 32)) 0 4 33) 0 5 241)) 0 6 242)) 0 7 259)) 0 8 264) 0 9 267) 0 10 268), 396, ad29)
  refine J_aload_n hX dX11_init_116 rfl 0 rfl ?_
  refine J_aload_n hX dX11_init_117 rfl 0 rfl ?_
  refine J_getG (w := ((cm_X4_init (cm_X1_init (cm_X9_init (cm_X6_init (cm_X3_init 16 (cm_X3_init 1 m)))))), (wR (wR (wR (cR_X4_init (wR (cR_X1_init (wR (cR_X9_init (wR (wR (cR_X6_init (wR (wR (wR (cR_X3_init 16 (wR (cR_X3_init 1 R) 0 0 1)) 0 1 16) 0 2 31) 0 3 32)) 0 4 33) 0 5 241)) 0 6 242)) 0 7 259)) 0 8 264) 0 9 267) 0 10 268), 396, ad29)) hX kf_RX11_55 dX11_init_118 kx_0 (by decide) (s := 2) rfl (show 0 < 396 by omega) rfl (v := .ref (ad29 264)) (fv_ref (by rfl)) ?_
  refine J_getG (w := ((cm_X4_init (cm_X1_init (cm_X9_init (cm_X6_init (cm_X3_init 16 (cm_X3_init 1 m)))))), (wR (wR (wR (cR_X4_init (wR (cR_X1_init (wR (cR_X9_init (wR (wR (cR_X6_init (wR (wR (wR (cR_X3_init 16 (wR (cR_X3_init 1 R) 0 0 1)) 0 1 16) 0 2 31) 0 3 32)) 0 4 33) 0 5 241)) 0 6 242)) 0 7 259)) 0 8 264) 0 9 267) 0 10 268), 396, ad29)) hX kf_RX11_69 dX11_init_121 kx_264 (by decide) (s := 2) rfl (show 264 < 396 by omega) rfl (v := .ref (ad29 269)) (fv_ref (by rfl)) ?_
  refine J_putRF hX hin kf_RX11_73 ⟨_, _, rfl⟩ dX11_init_124 kx_0 (by decide) rfl (by decide) rfl rfl rfl rfl ?_
  replace hc := hc.R (a := 0) (k := 11) (b := 269) (by decide) (by decide) (by decide)
  show J X (395, 8162) 127 [(0, .ref (ad29 0))] [] ((cm_X4_init (cm_X1_init (cm_X9_init (cm_X6_init (cm_X3_init 16 (cm_X3_init 1 m)))))), (wR (wR (wR (wR (cR_X4_init (wR (cR_X1_init (wR (cR_X9_init (wR (wR (cR_X6_init (wR (wR (wR (cR_X3_init 16 (wR (cR_X3_init 1 R) 0 0 1)) 0 1 16) 0 2 31) 0 3 32)) 0 4 33) 0 5 241)) 0 6 242)) 0 7 259)) 0 8 264) 0 9 267) 0 10 268) 0 11 269), 396, ad29)
  refine J_aload_n hX dX11_init_127 rfl 0 rfl ?_
  refine J_aload_n hX dX11_init_128 rfl 0 rfl ?_
  refine J_getG (w := ((cm_X4_init (cm_X1_init (cm_X9_init (cm_X6_init (cm_X3_init 16 (cm_X3_init 1 m)))))), (wR (wR (wR (wR (cR_X4_init (wR (cR_X1_init (wR (cR_X9_init (wR (wR (cR_X6_init (wR (wR (wR (cR_X3_init 16 (wR (cR_X3_init 1 R) 0 0 1)) 0 1 16) 0 2 31) 0 3 32)) 0 4 33) 0 5 241)) 0 6 242)) 0 7 259)) 0 8 264) 0 9 267) 0 10 268) 0 11 269), 396, ad29)) hX kf_RX11_55 dX11_init_129 kx_0 (by decide) (s := 2) rfl (show 0 < 396 by omega) rfl (v := .ref (ad29 264)) (fv_ref (by rfl)) ?_
  refine J_getG (w := ((cm_X4_init (cm_X1_init (cm_X9_init (cm_X6_init (cm_X3_init 16 (cm_X3_init 1 m)))))), (wR (wR (wR (wR (cR_X4_init (wR (cR_X1_init (wR (cR_X9_init (wR (wR (cR_X6_init (wR (wR (wR (cR_X3_init 16 (wR (cR_X3_init 1 R) 0 0 1)) 0 1 16) 0 2 31) 0 3 32)) 0 4 33) 0 5 241)) 0 6 242)) 0 7 259)) 0 8 264) 0 9 267) 0 10 268) 0 11 269), 396, ad29)) hX kf_RX11_74 dX11_init_132 kx_264 (by decide) (s := 2) rfl (show 264 < 396 by omega) rfl (v := .ref (ad29 265)) (fv_ref (by rfl)) ?_
  refine J_putRF hX hin kf_RX11_77 ⟨_, _, rfl⟩ dX11_init_135 kx_0 (by decide) rfl (by decide) rfl rfl rfl rfl ?_
  replace hc := hc.R (a := 0) (k := 12) (b := 265) (by decide) (by decide) (by decide)
  show J X (395, 8162) 138 [(0, .ref (ad29 0))] [] ((cm_X4_init (cm_X1_init (cm_X9_init (cm_X6_init (cm_X3_init 16 (cm_X3_init 1 m)))))), (wR (wR (wR (wR (wR (cR_X4_init (wR (cR_X1_init (wR (cR_X9_init (wR (wR (cR_X6_init (wR (wR (wR (cR_X3_init 16 (wR (cR_X3_init 1 R) 0 0 1)) 0 1 16) 0 2 31) 0 3 32)) 0 4 33) 0 5 241)) 0 6 242)) 0 7 259)) 0 8 264) 0 9 267) 0 10 268) 0 11 269) 0 12 265), 396, ad29)
  refine J_aload_n hX dX11_init_138 rfl 0 rfl ?_
  refine J_aload_n hX dX11_init_139 rfl 0 rfl ?_
  refine J_getG (w := ((cm_X4_init (cm_X1_init (cm_X9_init (cm_X6_init (cm_X3_init 16 (cm_X3_init 1 m)))))), (wR (wR (wR (wR (wR (cR_X4_init (wR (cR_X1_init (wR (cR_X9_init (wR (wR (cR_X6_init (wR (wR (wR (cR_X3_init 16 (wR (cR_X3_init 1 R) 0 0 1)) 0 1 16) 0 2 31) 0 3 32)) 0 4 33) 0 5 241)) 0 6 242)) 0 7 259)) 0 8 264) 0 9 267) 0 10 268) 0 11 269) 0 12 265), 396, ad29)) hX kf_RX11_55 dX11_init_140 kx_0 (by decide) (s := 2) rfl (show 0 < 396 by omega) rfl (v := .ref (ad29 264)) (fv_ref (by rfl)) ?_
  refine J_getG (w := ((cm_X4_init (cm_X1_init (cm_X9_init (cm_X6_init (cm_X3_init 16 (cm_X3_init 1 m)))))), (wR (wR (wR (wR (wR (cR_X4_init (wR (cR_X1_init (wR (cR_X9_init (wR (wR (cR_X6_init (wR (wR (wR (cR_X3_init 16 (wR (cR_X3_init 1 R) 0 0 1)) 0 1 16) 0 2 31) 0 3 32)) 0 4 33) 0 5 241)) 0 6 242)) 0 7 259)) 0 8 264) 0 9 267) 0 10 268) 0 11 269) 0 12 265), 396, ad29)) hX kf_RX11_78 dX11_init_143 kx_264 (by decide) (s := 2) rfl (show 264 < 396 by omega) rfl (v := .ref (ad29 266)) (fv_ref (by rfl)) ?_
  refine J_putRF hX hin kf_RX11_81 ⟨_, _, rfl⟩ dX11_init_146 kx_0 (by decide) rfl (by decide) rfl rfl rfl rfl ?_
  replace hc := hc.R (a := 0) (k := 13) (b := 266) (by decide) (by decide) (by decide)
  show J X (395, 8162) 149 [(0, .ref (ad29 0))] [] ((cm_X4_init (cm_X1_init (cm_X9_init (cm_X6_init (cm_X3_init 16 (cm_X3_init 1 m)))))), (wR (wR (wR (wR (wR (wR (cR_X4_init (wR (cR_X1_init (wR (cR_X9_init (wR (wR (cR_X6_init (wR (wR (wR (cR_X3_init 16 (wR (cR_X3_init 1 R) 0 0 1)) 0 1 16) 0 2 31) 0 3 32)) 0 4 33) 0 5 241)) 0 6 242)) 0 7 259)) 0 8 264) 0 9 267) 0 10 268) 0 11 269) 0 12 265) 0 13 266), 396, ad29)
  refine J_aload_n hX dX11_init_149 rfl 0 rfl ?_
  refine J_iconst (v := (0 : Int32)) hX dX11_init_150 (by decide) ?_
  refine J_putIc hX kf_RX11_82 dX11_init_151 kx_0 (by decide) rfl (by decide) rfl ?_
  replace hc := hc.I (a := 0) (k := 14) (v := (0 : Int32)) (by decide)
  show J X (395, 8162) 154 [(0, .ref (ad29 0))] [] ((wI (cm_X4_init (cm_X1_init (cm_X9_init (cm_X6_init (cm_X3_init 16 (cm_X3_init 1 m)))))) 0 14 (0 : Int32)), (wR (wR (wR (wR (wR (wR (cR_X4_init (wR (cR_X1_init (wR (cR_X9_init (wR (wR (cR_X6_init (wR (wR (wR (cR_X3_init 16 (wR (cR_X3_init 1 R) 0 0 1)) 0 1 16) 0 2 31) 0 3 32)) 0 4 33) 0 5 241)) 0 6 242)) 0 7 259)) 0 8 264) 0 9 267) 0 10 268) 0 11 269) 0 12 265) 0 13 266), 396, ad29)
  refine J_aload_n hX dX11_init_154 rfl 0 rfl ?_
  refine J_iconst (v := (0 : Int32)) hX dX11_init_155 (by decide) ?_
  refine J_putIc hX kf_RX11_86 dX11_init_156 kx_0 (by decide) rfl (by decide) rfl ?_
  replace hc := hc.I (a := 0) (k := 15) (v := (0 : Int32)) (by decide)
  show J X (395, 8162) 159 [(0, .ref (ad29 0))] [] ((wI (wI (cm_X4_init (cm_X1_init (cm_X9_init (cm_X6_init (cm_X3_init 16 (cm_X3_init 1 m)))))) 0 14 (0 : Int32)) 0 15 (0 : Int32)), (wR (wR (wR (wR (wR (wR (cR_X4_init (wR (cR_X1_init (wR (cR_X9_init (wR (wR (cR_X6_init (wR (wR (wR (cR_X3_init 16 (wR (cR_X3_init 1 R) 0 0 1)) 0 1 16) 0 2 31) 0 3 32)) 0 4 33) 0 5 241)) 0 6 242)) 0 7 259)) 0 8 264) 0 9 267) 0 10 268) 0 11 269) 0 12 265) 0 13 266), 396, ad29)
  refine J_iconst (v := (0 : Int32)) hX dX11_init_159 (by decide) ?_
  refine J_istore_n (lv2 := [(1, .int (0 : Int32)), (0, .ref (ad29 0))]) hX dX11_init_160 rfl (Nat.le_of_ble_eq_true rfl) rfl ?_
  refine J_iload_n hX dX11_init_161 rfl 0 rfl ?_
  refine J_iconst (v := (2 : Int32)) hX dX11_init_162 (by decide) ?_
  refine J_icmp_ge (tgt := 185) hX dX11_init_163 (by decide) (fun c => absurd c (by decide)) (fun _ => ?_)
  refine J_aload_n hX dX11_init_166 rfl 1 rfl ?_
  refine J_getG (w := ((wI (wI (cm_X4_init (cm_X1_init (cm_X9_init (cm_X6_init (cm_X3_init 16 (cm_X3_init 1 m)))))) 0 14 (0 : Int32)) 0 15 (0 : Int32)), (wR (wR (wR (wR (wR (wR (cR_X4_init (wR (cR_X1_init (wR (cR_X9_init (wR (wR (cR_X6_init (wR (wR (wR (cR_X3_init 16 (wR (cR_X3_init 1 R) 0 0 1)) 0 1 16) 0 2 31) 0 3 32)) 0 4 33) 0 5 241)) 0 6 242)) 0 7 259)) 0 8 264) 0 9 267) 0 10 268) 0 11 269) 0 12 265) 0 13 266), 396, ad29)) hX kf_RX11_19 dX11_init_167 kx_0 (by decide) (s := 2) rfl (show 0 < 396 by omega) rfl (v := .ref (ad29 31)) (fv_ref (by rfl)) ?_
  refine J_iload_n hX dX11_init_170 rfl 0 rfl ?_
  refine J_new hX dX11_init_171 kn_RX11_7 hc kx_396 (by decide) (nf := 7) rfl ⟨Nat.le_of_ble_eq_true rfl, Nat.le_of_ble_eq_true rfl⟩ (fun ad31 hg32 => ?_)
  replace hc := hc.N (n := 397) (by omega)
  refine J_re (lv2 := [(1, .int (0 : Int32)), (0, .ref (ad31 0))]) (st2 := [.ref (ad31 396), .int (0 : Int32), .ref (ad31 31)]) (by (try rw [hg32 0 (by decide)]); (try rfl)) (by (try rw [hg32 31 (by decide)]); (try rfl)) ?_
  show J X (396, 8169) 174 [(1, .int (0 : Int32)), (0, .ref (ad31 0))] [.ref (ad31 396), .int (0 : Int32), .ref (ad31 31)] ((wI (wI (cm_X4_init (cm_X1_init (cm_X9_init (cm_X6_init (cm_X3_init 16 (cm_X3_init 1 m)))))) 0 14 (0 : Int32)) 0 15 (0 : Int32)), (wR (wR (wR (wR (wR (wR (cR_X4_init (wR (cR_X1_init (wR (cR_X9_init (wR (wR (cR_X6_init (wR (wR (wR (cR_X3_init 16 (wR (cR_X3_init 1 R) 0 0 1)) 0 1 16) 0 2 31) 0 3 32)) 0 4 33) 0 5 241)) 0 6 242)) 0 7 259)) 0 8 264) 0 9 267) 0 10 268) 0 11 269) 0 12 265) 0 13 266), 397, ad31)
  refine J_dup hX dX11_init_174 rfl ?_
  refine J_cI hX (k_X3_init 396 kx_396 (wI (wI (cm_X4_init (cm_X1_init (cm_X9_init (cm_X6_init (cm_X3_init 16 (cm_X3_init 1 m)))))) 0 14 (0 : Int32)) 0 15 (0 : Int32)) (wR (wR (wR (wR (wR (wR (cR_X4_init (wR (cR_X1_init (wR (cR_X9_init (wR (wR (cR_X6_init (wR (wR (wR (cR_X3_init 16 (wR (cR_X3_init 1 R) 0 0 1)) 0 1 16) 0 2 31) 0 3 32)) 0 4 33) 0 5 241)) 0 6 242)) 0 7 259)) 0 8 264) 0 9 267) 0 10 268) 0 11 269) 0 12 265) 0 13 266) ad31 hc) km_X3_init rfl (mt_1 (List.mem_of_getElem? (i := 26) rfl)) kl_RX11_9 dX11_init_175 ⟨rfl, rfl⟩ ⟨Nat.le_of_ble_eq_true rfl, Nat.le_of_ble_eq_true rfl⟩ ⟨Nat.le_of_ble_eq_true rfl, Nat.le_of_ble_eq_true rfl⟩ rfl rfl (Nat.le_of_ble_eq_true rfl) (fun v w2 hk => ?_)
  obtain ⟨rfl, ad33, hg34, hc, rfl⟩ := hk
  refine J_re (lv2 := [(1, .int (0 : Int32)), (0, .ref (ad33 0))]) (st2 := [.ref (ad33 396), .int (0 : Int32), .ref (ad33 31)]) (by (try rw [hg34 0 (by decide)]); (try rfl)) (by (try rw [hg34 31 (by decide), hg34 396 (by decide)]); (try rfl)) ?_
  show J X (410, 8352) 178 [(1, .int (0 : Int32)), (0, .ref (ad33 0))] [.ref (ad33 396), .int (0 : Int32), .ref (ad33 31)] ((cm_X3_init 396 (wI (wI (cm_X4_init (cm_X1_init (cm_X9_init (cm_X6_init (cm_X3_init 16 (cm_X3_init 1 m)))))) 0 14 (0 : Int32)) 0 15 (0 : Int32))), (cR_X3_init 396 (wR (wR (wR (wR (wR (wR (cR_X4_init (wR (cR_X1_init (wR (cR_X9_init (wR (wR (cR_X6_init (wR (wR (wR (cR_X3_init 16 (wR (cR_X3_init 1 R) 0 0 1)) 0 1 16) 0 2 31) 0 3 32)) 0 4 33) 0 5 241)) 0 6 242)) 0 7 259)) 0 8 264) 0 9 267) 0 10 268) 0 11 269) 0 12 265) 0 13 266)), 411, ad33)
  refine J_aastc (j := 0) hX dX11_init_178 (u := 1) (by decide) kx_31 lx_31 (by decide) rfl rfl kx_396 (by decide) ⟨_, _, rfl⟩ (by decide) (vp_lit (by decide)) (by decide) ?_
  replace hc := hc.R (a := 31) (k := 0) (b := 396) (by decide) (by decide) (by decide)
  show J X (410, 8352) 179 [(1, .int (0 : Int32)), (0, .ref (ad33 0))] [] ((cm_X3_init 396 (wI (wI (cm_X4_init (cm_X1_init (cm_X9_init (cm_X6_init (cm_X3_init 16 (cm_X3_init 1 m)))))) 0 14 (0 : Int32)) 0 15 (0 : Int32))), (wR (cR_X3_init 396 (wR (wR (wR (wR (wR (wR (cR_X4_init (wR (cR_X1_init (wR (cR_X9_init (wR (wR (cR_X6_init (wR (wR (wR (cR_X3_init 16 (wR (cR_X3_init 1 R) 0 0 1)) 0 1 16) 0 2 31) 0 3 32)) 0 4 33) 0 5 241)) 0 6 242)) 0 7 259)) 0 8 264) 0 9 267) 0 10 268) 0 11 269) 0 12 265) 0 13 266)) 31 0 396), 411, ad33)
  refine J_iinc (x := (1 : Int32)) (lv2 := [(1, .int (1 : Int32)), (0, .ref (ad33 0))]) hX dX11_init_179 0 rfl (by decide) (Nat.le_of_ble_eq_true rfl) rfl ?_
  refine J_goto (tgt := 161) hX dX11_init_182 (by decide) ?_
  refine J_iload_n hX dX11_init_161 rfl 0 rfl ?_
  refine J_iconst (v := (2 : Int32)) hX dX11_init_162 (by decide) ?_
  refine J_icmp_ge (tgt := 185) hX dX11_init_163 (by decide) (fun c => absurd c (by decide)) (fun _ => ?_)
  refine J_aload_n hX dX11_init_166 rfl 1 rfl ?_
  refine J_getG (w := ((cm_X3_init 396 (wI (wI (cm_X4_init (cm_X1_init (cm_X9_init (cm_X6_init (cm_X3_init 16 (cm_X3_init 1 m)))))) 0 14 (0 : Int32)) 0 15 (0 : Int32))), (wR (cR_X3_init 396 (wR (wR (wR (wR (wR (wR (cR_X4_init (wR (cR_X1_init (wR (cR_X9_init (wR (wR (cR_X6_init (wR (wR (wR (cR_X3_init 16 (wR (cR_X3_init 1 R) 0 0 1)) 0 1 16) 0 2 31) 0 3 32)) 0 4 33) 0 5 241)) 0 6 242)) 0 7 259)) 0 8 264) 0 9 267) 0 10 268) 0 11 269) 0 12 265) 0 13 266)) 31 0 396), 411, ad33)) hX kf_RX11_19 dX11_init_167 kx_0 (by decide) (s := 2) rfl (show 0 < 411 by omega) rfl (v := .ref (ad33 31)) (fv_ref (by rfl)) ?_
  refine J_iload_n hX dX11_init_170 rfl 0 rfl ?_
  refine J_new hX dX11_init_171 kn_RX11_7 hc kx_411 (by decide) (nf := 7) rfl ⟨Nat.le_of_ble_eq_true rfl, Nat.le_of_ble_eq_true rfl⟩ (fun ad35 hg36 => ?_)
  replace hc := hc.N (n := 412) (by omega)
  refine J_re (lv2 := [(1, .int (1 : Int32)), (0, .ref (ad35 0))]) (st2 := [.ref (ad35 411), .int (1 : Int32), .ref (ad35 31)]) (by (try rw [hg36 0 (by decide)]); (try rfl)) (by (try rw [hg36 31 (by decide)]); (try rfl)) ?_
  show J X (411, 8359) 174 [(1, .int (1 : Int32)), (0, .ref (ad35 0))] [.ref (ad35 411), .int (1 : Int32), .ref (ad35 31)] ((cm_X3_init 396 (wI (wI (cm_X4_init (cm_X1_init (cm_X9_init (cm_X6_init (cm_X3_init 16 (cm_X3_init 1 m)))))) 0 14 (0 : Int32)) 0 15 (0 : Int32))), (wR (cR_X3_init 396 (wR (wR (wR (wR (wR (wR (cR_X4_init (wR (cR_X1_init (wR (cR_X9_init (wR (wR (cR_X6_init (wR (wR (wR (cR_X3_init 16 (wR (cR_X3_init 1 R) 0 0 1)) 0 1 16) 0 2 31) 0 3 32)) 0 4 33) 0 5 241)) 0 6 242)) 0 7 259)) 0 8 264) 0 9 267) 0 10 268) 0 11 269) 0 12 265) 0 13 266)) 31 0 396), 412, ad35)
  refine J_dup hX dX11_init_174 rfl ?_
  refine J_cI hX (k_X3_init 411 kx_411 (cm_X3_init 396 (wI (wI (cm_X4_init (cm_X1_init (cm_X9_init (cm_X6_init (cm_X3_init 16 (cm_X3_init 1 m)))))) 0 14 (0 : Int32)) 0 15 (0 : Int32))) (wR (cR_X3_init 396 (wR (wR (wR (wR (wR (wR (cR_X4_init (wR (cR_X1_init (wR (cR_X9_init (wR (wR (cR_X6_init (wR (wR (wR (cR_X3_init 16 (wR (cR_X3_init 1 R) 0 0 1)) 0 1 16) 0 2 31) 0 3 32)) 0 4 33) 0 5 241)) 0 6 242)) 0 7 259)) 0 8 264) 0 9 267) 0 10 268) 0 11 269) 0 12 265) 0 13 266)) 31 0 396) ad35 hc) km_X3_init rfl (mt_1 (List.mem_of_getElem? (i := 26) rfl)) kl_RX11_9 dX11_init_175 ⟨rfl, rfl⟩ ⟨Nat.le_of_ble_eq_true rfl, Nat.le_of_ble_eq_true rfl⟩ ⟨Nat.le_of_ble_eq_true rfl, Nat.le_of_ble_eq_true rfl⟩ rfl rfl (Nat.le_of_ble_eq_true rfl) (fun v w2 hk => ?_)
  obtain ⟨rfl, ad37, hg38, hc, rfl⟩ := hk
  refine J_re (lv2 := [(1, .int (1 : Int32)), (0, .ref (ad37 0))]) (st2 := [.ref (ad37 411), .int (1 : Int32), .ref (ad37 31)]) (by (try rw [hg38 0 (by decide)]); (try rfl)) (by (try rw [hg38 31 (by decide), hg38 411 (by decide)]); (try rfl)) ?_
  show J X (425, 8542) 178 [(1, .int (1 : Int32)), (0, .ref (ad37 0))] [.ref (ad37 411), .int (1 : Int32), .ref (ad37 31)] ((cm_X3_init 411 (cm_X3_init 396 (wI (wI (cm_X4_init (cm_X1_init (cm_X9_init (cm_X6_init (cm_X3_init 16 (cm_X3_init 1 m)))))) 0 14 (0 : Int32)) 0 15 (0 : Int32)))), (cR_X3_init 411 (wR (cR_X3_init 396 (wR (wR (wR (wR (wR (wR (cR_X4_init (wR (cR_X1_init (wR (cR_X9_init (wR (wR (cR_X6_init (wR (wR (wR (cR_X3_init 16 (wR (cR_X3_init 1 R) 0 0 1)) 0 1 16) 0 2 31) 0 3 32)) 0 4 33) 0 5 241)) 0 6 242)) 0 7 259)) 0 8 264) 0 9 267) 0 10 268) 0 11 269) 0 12 265) 0 13 266)) 31 0 396)), 426, ad37)
  refine J_aastc (j := 1) hX dX11_init_178 (u := 1) (by decide) kx_31 lx_31 (by decide) rfl rfl kx_411 (by decide) ⟨_, _, rfl⟩ (by decide) (vp_lit (by decide)) (by decide) ?_
  replace hc := hc.R (a := 31) (k := 1) (b := 411) (by decide) (by decide) (by decide)
  show J X (425, 8542) 179 [(1, .int (1 : Int32)), (0, .ref (ad37 0))] [] ((cm_X3_init 411 (cm_X3_init 396 (wI (wI (cm_X4_init (cm_X1_init (cm_X9_init (cm_X6_init (cm_X3_init 16 (cm_X3_init 1 m)))))) 0 14 (0 : Int32)) 0 15 (0 : Int32)))), (wR (cR_X3_init 411 (wR (cR_X3_init 396 (wR (wR (wR (wR (wR (wR (cR_X4_init (wR (cR_X1_init (wR (cR_X9_init (wR (wR (cR_X6_init (wR (wR (wR (cR_X3_init 16 (wR (cR_X3_init 1 R) 0 0 1)) 0 1 16) 0 2 31) 0 3 32)) 0 4 33) 0 5 241)) 0 6 242)) 0 7 259)) 0 8 264) 0 9 267) 0 10 268) 0 11 269) 0 12 265) 0 13 266)) 31 0 396)) 31 1 411), 426, ad37)
  refine J_iinc (x := (2 : Int32)) (lv2 := [(1, .int (2 : Int32)), (0, .ref (ad37 0))]) hX dX11_init_179 0 rfl (by decide) (Nat.le_of_ble_eq_true rfl) rfl ?_
  refine J_goto (tgt := 161) hX dX11_init_182 (by decide) ?_
  refine J_iload_n hX dX11_init_161 rfl 0 rfl ?_
  refine J_iconst (v := (2 : Int32)) hX dX11_init_162 (by decide) ?_
  refine J_icmp_ge (tgt := 185) hX dX11_init_163 (by decide) (fun _ => ?_) (fun c => absurd (by decide) c)
  exact J_vret hX hR dX11_init_185 ⟨rfl, ad37, fun b hb => (hg38 b (by omega)).trans ((hg36 b (by omega)).trans ((hg34 b (by omega)).trans ((hg32 b (by omega)).trans ((hg30 b (by omega)).trans ((hg28 b (by omega)).trans ((hg26 b (by omega)).trans ((hg24 b (by omega)).trans ((hg22 b (by omega)).trans ((hg20 b (by omega)).trans ((hg18 b (by omega)).trans ((hg16 b (by omega)).trans ((hg14 b (by omega)).trans ((hg12 b (by omega)).trans ((hg10 b (by omega)).trans ((hg8 b (by omega)).trans ((hg6 b (by omega)).trans ((hg4 b (by omega)).trans ((hg2 b (by omega)).trans rfl)))))))))))))))))), hc, rfl⟩
