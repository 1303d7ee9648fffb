theorem kx_427 : kap 427 = 20 := by decide +kernel
theorem lx_427 : len 427 = 137 := by decide +kernel
theorem kx_426 : kap 426 = 12 := by decide +kernel
theorem kx_428 : kap 428 = 20 := by decide +kernel
theorem lx_428 : len 428 = 137 := by decide +kernel
theorem kx_429 : kap 429 = 20 := by decide +kernel
theorem lx_429 : len 429 = 1644 := by decide +kernel
theorem kx_430 : kap 430 = 20 := by decide +kernel
theorem lx_430 : len 430 = 250 := by decide +kernel
theorem kx_431 : kap 431 = 21 := by decide +kernel
theorem lx_431 : len 431 = 2 := by decide +kernel
theorem kx_432 : kap 432 = 20 := by decide +kernel
theorem lx_432 : len 432 = 10 := by decide +kernel
theorem kx_433 : kap 433 = 20 := by decide +kernel
theorem lx_433 : len 433 = 10 := by decide +kernel
theorem kx_434 : kap 434 = 20 := by decide +kernel
theorem lx_434 : len 434 = 10 := by decide +kernel
theorem kx_435 : kap 435 = 20 := by decide +kernel
theorem lx_435 : len 435 = 10 := by decide +kernel
theorem kx_436 : kap 436 = 20 := by decide +kernel
theorem lx_436 : len 436 = 160 := by decide +kernel
theorem kx_437 : kap 437 = 20 := by decide +kernel
theorem lx_437 : len 437 = 7 := by decide +kernel
theorem kx_438 : kap 438 = 20 := by decide +kernel
theorem lx_438 : len 438 = 137 := by decide +kernel
theorem kx_439 : kap 439 = 20 := by decide +kernel
theorem lx_439 : len 439 = 30 := by decide +kernel
theorem kx_440 : kap 440 = 20 := by decide +kernel
theorem lx_440 : len 440 = 30 := by decide +kernel
theorem kx_441 : kap 441 = 20 := by decide +kernel
theorem lx_441 : len 441 = 30 := by decide +kernel
theorem kx_442 : kap 442 = 20 := by decide +kernel
theorem lx_442 : len 442 = 30 := by decide +kernel
theorem kx_443 : kap 443 = 20 := by decide +kernel
theorem lx_443 : len 443 = 30 := by decide +kernel
theorem kx_444 : kap 444 = 20 := by decide +kernel
theorem lx_444 : len 444 = 30 := by decide +kernel
theorem kx_445 : kap 445 = 20 := by decide +kernel
theorem lx_445 : len 445 = 10 := by decide +kernel
theorem kx_446 : kap 446 = 20 := by decide +kernel
theorem lx_446 : len 446 = 6480 := by decide +kernel
theorem kx_447 : kap 447 = 20 := by decide +kernel
theorem lx_447 : len 447 = 9600 := by decide +kernel
theorem kx_448 : kap 448 = 20 := by decide +kernel
theorem lx_448 : len 448 = 4 := by decide +kernel
theorem kx_449 : kap 449 = 21 := by decide +kernel
theorem lx_449 : len 449 = 1024 := by decide +kernel
def RX0c : Nat → Nat → Option Nat := cR_X11_init (fun _ _ => none)
def RX1c : Nat → Nat → Option Nat := (wR (wR (wR (wR (wR (wR (wR (wR (wR (wR (wR (wR (wR (wR (wR (wR (wR (wR (wR (wR (wR (wR (wR RX0c 426 0 427) 426 1 428) 426 3 429) 426 5 430) 426 6 431) 426 7 432) 426 8 433) 426 9 434) 426 10 435) 426 11 436) 426 15 437) 426 16 438) 426 17 439) 426 18 440) 426 19 441) 426 20 442) 426 21 443) 426 22 444) 426 23 445) 426 24 446) 426 26 447) 426 28 448) 426 29 449)
def cm_X12_pre (m : Mm) : Mm := m
theorem RF_out1 : ∀ a, a < NN → (rhoL.getD a []).length ≤ 32 := by decide +kernel
theorem RF_out {a k : Nat} (h : NN ≤ a ∨ 32 ≤ k) : RF a k = none := by
  unfold RF
  by_cases ha : a < NN
  · have h1 := RF_out1 a ha
    rw [List.getD_eq_getElem?_getD, List.getElem?_eq_none (by omega)]
    rfl
  · have hl : rhoL.length = NN := by decide +kernel
    rw [List.getD_eq_getElem?_getD (l := rhoL), List.getElem?_eq_none (by omega)]
    rfl
theorem RF_of {m : Mm} {R : Nat → Nat → Option Nat} (hc : cw (m, R, NN)) (h : ∀ a, a < NN → ∀ k, k < 32 → R a k = RF a k) : R = RF := by
  funext a k
  by_cases ha : a < NN
  · by_cases hk : k < 32
    · exact h a ha k hk
    · rw [RF_out (Or.inr (by omega))]
      cases hr : R a k with
      | none => rfl
      | some c => exact absurd (hc.1 a k c hr).2 hk
  · rw [RF_out (Or.inl (by omega))]
    exact (hc.2 a k (show NN ≤ a by omega)).2.2
theorem RX1c_0 : ∀ a, a < 50 → ∀ k, k < 32 → RX1c (0 + a) k = RF (0 + a) k := by decide +kernel
theorem RX1c_1 : ∀ a, a < 50 → ∀ k, k < 32 → RX1c (50 + a) k = RF (50 + a) k := by decide +kernel
theorem RX1c_2 : ∀ a, a < 50 → ∀ k, k < 32 → RX1c (100 + a) k = RF (100 + a) k := by decide +kernel
theorem RX1c_3 : ∀ a, a < 50 → ∀ k, k < 32 → RX1c (150 + a) k = RF (150 + a) k := by decide +kernel
theorem RX1c_4 : ∀ a, a < 50 → ∀ k, k < 32 → RX1c (200 + a) k = RF (200 + a) k := by decide +kernel
theorem RX1c_5 : ∀ a, a < 50 → ∀ k, k < 32 → RX1c (250 + a) k = RF (250 + a) k := by decide +kernel
theorem RX1c_6 : ∀ a, a < 50 → ∀ k, k < 32 → RX1c (300 + a) k = RF (300 + a) k := by decide +kernel
theorem RX1c_7 : ∀ a, a < 50 → ∀ k, k < 32 → RX1c (350 + a) k = RF (350 + a) k := by decide +kernel
theorem RX1c_8 : ∀ a, a < 50 → ∀ k, k < 32 → RX1c (400 + a) k = RF (400 + a) k := by decide +kernel
theorem RX1c_eq : ∀ a, a < NN → ∀ k, k < 32 → RX1c a k = RF a k := by
  intro a ha k hk
  have ha : a < 450 := ha
  rcases Nat.lt_or_ge a 50 with h0 | h0
  · have h2 := RX1c_0 (a - 0) (by omega) k hk
    rw [show 0 + (a - 0) = a by omega] at h2
    exact h2
  rcases Nat.lt_or_ge a 100 with h1 | h1
  · have h2 := RX1c_1 (a - 50) (by omega) k hk
    rw [show 50 + (a - 50) = a by omega] at h2
    exact h2
  rcases Nat.lt_or_ge a 150 with h2 | h2
  · have h2 := RX1c_2 (a - 100) (by omega) k hk
    rw [show 100 + (a - 100) = a by omega] at h2
    exact h2
  rcases Nat.lt_or_ge a 200 with h3 | h3
  · have h2 := RX1c_3 (a - 150) (by omega) k hk
    rw [show 150 + (a - 150) = a by omega] at h2
    exact h2
  rcases Nat.lt_or_ge a 250 with h4 | h4
  · have h2 := RX1c_4 (a - 200) (by omega) k hk
    rw [show 200 + (a - 200) = a by omega] at h2
    exact h2
  rcases Nat.lt_or_ge a 300 with h5 | h5
  · have h2 := RX1c_5 (a - 250) (by omega) k hk
    rw [show 250 + (a - 250) = a by omega] at h2
    exact h2
  rcases Nat.lt_or_ge a 350 with h6 | h6
  · have h2 := RX1c_6 (a - 300) (by omega) k hk
    rw [show 300 + (a - 300) = a by omega] at h2
    exact h2
  rcases Nat.lt_or_ge a 400 with h7 | h7
  · have h2 := RX1c_7 (a - 350) (by omega) k hk
    rw [show 350 + (a - 350) = a by omega] at h2
    exact h2
  rcases Nat.lt_or_ge a 450 with h8 | h8
  · have h2 := RX1c_8 (a - 400) (by omega) k hk
    rw [show 400 + (a - 400) = a by omega] at h2
    exact h2
  omega
def cm_X12_post (m1 : Mm) : Mm := (wI (wI (wI (wI (wI (wI (wI (wI (wI (wI (wI (wI m1 427 125 (1 : Int32)) 427 126 (3 : Int32)) 427 127 (2 : Int32)) 427 128 (80 : Int32)) 427 129 (1 : Int32)) 427 130 (1 : Int32)) 427 131 (1 : Int32)) 427 132 (1 : Int32)) 427 133 (1 : Int32)) 427 134 (1 : Int32)) 427 135 (1 : Int32)) 427 136 (1 : Int32))
set_option maxRecDepth 100000 in
set_option maxHeartbeats 4000000 in
theorem k_X12_init {G : GT} (m : Mm) (ad : Nat → Nat) (K : Mm → Prop) (h : wp_X12_clearDesign (cm_X12_pre m) (fun m1 => K (cm_X12_post m1))) (hc : cw (m, RX0c, 427)) : Cn G yX12_init cX12_init 2 none { frames := 1, cells := 23, slots := 19812, locals := 21 } [.ref (ad 426)] (23, 19812) (m, RX0c, 427, ad) (fun v w => v = none ∧ ∃ (ad2 : Nat → Nat) (m2 : Mm), (∀ b, b < 427 → ad2 b = ad b) ∧ w = fl ad2 m2 ∧ K m2) := by
  refine Cn.ofI pn_RX12 (Nat.le_of_ble_eq_true rfl) (fun X hG hX hR hin => ?_)
  subst hG
  have hX : Cx X cX12_init 2 RX12 { frames := 1, cells := 23, slots := 19812, locals := 21 } := hX
  have hin : (xh X).name = "<init>" := hin
  show J X (0, 0) 0 [(0, .ref (ad 426))] [] (m, RX0c, 427, ad)
  refine J_aload_n hX dX12_init_0 rfl 0 rfl ?_
  refine J_objI hX kl_RX12_1 oi_inst oi_code dX12_init_1 (Nat.le_of_ble_eq_true rfl) (Nat.le_of_ble_eq_true rfl) ?_
  refine J_aload_n hX dX12_init_4 rfl 0 rfl ?_
  refine J_sipush (v := (137 : Int32)) hX dX12_init_5 (by decide) ?_
  refine J_newaI hX dX12_init_8 hc kx_427 lx_427 (by decide) (by decide) (Nat.le_of_ble_eq_true rfl) ⟨Nat.le_of_ble_eq_true rfl, Nat.le_of_ble_eq_true rfl⟩ (fun ad1 hg2 => ?_)
  replace hc := hc.N (n := 428) (by omega)
  refine J_re (lv2 := [(0, .ref (ad1 426))]) (st2 := [.ref (ad1 427), .ref (ad1 426)]) (by (try rw [hg2 426 (by decide)]); (try rfl)) (by (try rw [hg2 426 (by decide)]); (try rfl)) ?_
  show J X (1, 137) 10 [(0, .ref (ad1 426))] [.ref (ad1 427), .ref (ad1 426)] (m, RX0c, 428, ad1)
  refine J_putRF hX hin kf_RX12_7 ⟨_, _, rfl⟩ dX12_init_10 kx_426 (by decide) rfl (by decide) rfl rfl rfl rfl ?_
  replace hc := hc.R (a := 426) (k := 0) (b := 427) (by decide) (by decide) (by decide)
  show J X (1, 137) 13 [(0, .ref (ad1 426))] [] (m, (wR RX0c 426 0 427), 428, ad1)
  refine J_aload_n hX dX12_init_13 rfl 0 rfl ?_
  refine J_sipush (v := (137 : Int32)) hX dX12_init_14 (by decide) ?_
  refine J_newaI hX dX12_init_17 hc kx_428 lx_428 (by decide) (by decide) (Nat.le_of_ble_eq_true rfl) ⟨Nat.le_of_ble_eq_true rfl, Nat.le_of_ble_eq_true rfl⟩ (fun ad3 hg4 => ?_)
  replace hc := hc.N (n := 429) (by omega)
  refine J_re (lv2 := [(0, .ref (ad3 426))]) (st2 := [.ref (ad3 428), .ref (ad3 426)]) (by (try rw [hg4 426 (by decide)]); (try rfl)) (by (try rw [hg4 426 (by decide)]); (try rfl)) ?_
  show J X (2, 274) 19 [(0, .ref (ad3 426))] [.ref (ad3 428), .ref (ad3 426)] (m, (wR RX0c 426 0 427), 429, ad3)
  refine J_putRF hX hin kf_RX12_13 ⟨_, _, rfl⟩ dX12_init_19 kx_426 (by decide) rfl (by decide) rfl rfl rfl rfl ?_
  replace hc := hc.R (a := 426) (k := 1) (b := 428) (by decide) (by decide) (by decide)
  show J X (2, 274) 22 [(0, .ref (ad3 426))] [] (m, (wR (wR RX0c 426 0 427) 426 1 428), 429, ad3)
  refine J_aload_n hX dX12_init_22 rfl 0 rfl ?_
  refine J_sipush (v := (1644 : Int32)) hX dX12_init_23 (by decide) ?_
  refine J_newaI hX dX12_init_26 hc kx_429 lx_429 (by decide) (by decide) (Nat.le_of_ble_eq_true rfl) ⟨Nat.le_of_ble_eq_true rfl, Nat.le_of_ble_eq_true rfl⟩ (fun ad5 hg6 => ?_)
  replace hc := hc.N (n := 430) (by omega)
  refine J_re (lv2 := [(0, .ref (ad5 426))]) (st2 := [.ref (ad5 429), .ref (ad5 426)]) (by (try rw [hg6 426 (by decide)]); (try rfl)) (by (try rw [hg6 426 (by decide)]); (try rfl)) ?_
  show J X (3, 1918) 28 [(0, .ref (ad5 426))] [.ref (ad5 429), .ref (ad5 426)] (m, (wR (wR RX0c 426 0 427) 426 1 428), 430, ad5)
  refine J_putRF hX hin kf_RX12_16 ⟨_, _, rfl⟩ dX12_init_28 kx_426 (by decide) rfl (by decide) rfl rfl rfl rfl ?_
  replace hc := hc.R (a := 426) (k := 3) (b := 429) (by decide) (by decide) (by decide)
  show J X (3, 1918) 31 [(0, .ref (ad5 426))] [] (m, (wR (wR (wR RX0c 426 0 427) 426 1 428) 426 3 429), 430, ad5)
  refine J_aload_n hX dX12_init_31 rfl 0 rfl ?_
  refine J_sipush (v := (250 : Int32)) hX dX12_init_32 (by decide) ?_
  refine J_newaI hX dX12_init_35 hc kx_430 lx_430 (by decide) (by decide) (Nat.le_of_ble_eq_true rfl) ⟨Nat.le_of_ble_eq_true rfl, Nat.le_of_ble_eq_true rfl⟩ (fun ad7 hg8 => ?_)
  replace hc := hc.N (n := 431) (by omega)
  refine J_re (lv2 := [(0, .ref (ad7 426))]) (st2 := [.ref (ad7 430), .ref (ad7 426)]) (by (try rw [hg8 426 (by decide)]); (try rfl)) (by (try rw [hg8 426 (by decide)]); (try rfl)) ?_
  show J X (4, 2168) 37 [(0, .ref (ad7 426))] [.ref (ad7 430), .ref (ad7 426)] (m, (wR (wR (wR RX0c 426 0 427) 426 1 428) 426 3 429), 431, ad7)
  refine J_putRF hX hin kf_RX12_19 ⟨_, _, rfl⟩ dX12_init_37 kx_426 (by decide) rfl (by decide) rfl rfl rfl rfl ?_
  replace hc := hc.R (a := 426) (k := 5) (b := 430) (by decide) (by decide) (by decide)
  show J X (4, 2168) 40 [(0, .ref (ad7 426))] [] (m, (wR (wR (wR (wR RX0c 426 0 427) 426 1 428) 426 3 429) 426 5 430), 431, ad7)
  refine J_aload_n hX dX12_init_40 rfl 0 rfl ?_
  refine J_iconst (v := (2 : Int32)) hX dX12_init_41 (by decide) ?_
  refine J_newaZ hX dX12_init_42 hc kx_431 lx_431 (by decide) (by decide) (Nat.le_of_ble_eq_true rfl) ⟨Nat.le_of_ble_eq_true rfl, Nat.le_of_ble_eq_true rfl⟩ (fun ad9 hg10 => ?_)
  replace hc := hc.N (n := 432) (by omega)
  refine J_re (lv2 := [(0, .ref (ad9 426))]) (st2 := [.ref (ad9 431), .ref (ad9 426)]) (by (try rw [hg10 426 (by decide)]); (try rfl)) (by (try rw [hg10 426 (by decide)]); (try rfl)) ?_
  show J X (5, 2170) 44 [(0, .ref (ad9 426))] [.ref (ad9 431), .ref (ad9 426)] (m, (wR (wR (wR (wR RX0c 426 0 427) 426 1 428) 426 3 429) 426 5 430), 432, ad9)
  refine J_putRF hX hin kf_RX12_22 ⟨_, _, rfl⟩ dX12_init_44 kx_426 (by decide) rfl (by decide) rfl rfl rfl rfl ?_
  replace hc := hc.R (a := 426) (k := 6) (b := 431) (by decide) (by decide) (by decide)
  show J X (5, 2170) 47 [(0, .ref (ad9 426))] [] (m, (wR (wR (wR (wR (wR RX0c 426 0 427) 426 1 428) 426 3 429) 426 5 430) 426 6 431), 432, ad9)
  refine J_aload_n hX dX12_init_47 rfl 0 rfl ?_
  refine J_bipush (v := (10 : Int32)) hX dX12_init_48 (by decide) ?_
  refine J_newaI hX dX12_init_50 hc kx_432 lx_432 (by decide) (by decide) (Nat.le_of_ble_eq_true rfl) ⟨Nat.le_of_ble_eq_true rfl, Nat.le_of_ble_eq_true rfl⟩ (fun ad11 hg12 => ?_)
  replace hc := hc.N (n := 433) (by omega)
  refine J_re (lv2 := [(0, .ref (ad11 426))]) (st2 := [.ref (ad11 432), .ref (ad11 426)]) (by (try rw [hg12 426 (by decide)]); (try rfl)) (by (try rw [hg12 426 (by decide)]); (try rfl)) ?_
  show J X (6, 2180) 52 [(0, .ref (ad11 426))] [.ref (ad11 432), .ref (ad11 426)] (m, (wR (wR (wR (wR (wR RX0c 426 0 427) 426 1 428) 426 3 429) 426 5 430) 426 6 431), 433, ad11)
  refine J_putRF hX hin kf_RX12_26 ⟨_, _, rfl⟩ dX12_init_52 kx_426 (by decide) rfl (by decide) rfl rfl rfl rfl ?_
  replace hc := hc.R (a := 426) (k := 7) (b := 432) (by decide) (by decide) (by decide)
  show J X (6, 2180) 55 [(0, .ref (ad11 426))] [] (m, (wR (wR (wR (wR (wR (wR RX0c 426 0 427) 426 1 428) 426 3 429) 426 5 430) 426 6 431) 426 7 432), 433, ad11)
  refine J_aload_n hX dX12_init_55 rfl 0 rfl ?_
  refine J_bipush (v := (10 : Int32)) hX dX12_init_56 (by decide) ?_
  refine J_newaI hX dX12_init_58 hc kx_433 lx_433 (by decide) (by decide) (Nat.le_of_ble_eq_true rfl) ⟨Nat.le_of_ble_eq_true rfl, Nat.le_of_ble_eq_true rfl⟩ (fun ad13 hg14 => ?_)
  replace hc := hc.N (n := 434) (by omega)
  refine J_re (lv2 := [(0, .ref (ad13 426))]) (st2 := [.ref (ad13 433), .ref (ad13 426)]) (by (try rw [hg14 426 (by decide)]); (try rfl)) (by (try rw [hg14 426 (by decide)]); (try rfl)) ?_
  show J X (7, 2190) 60 [(0, .ref (ad13 426))] [.ref (ad13 433), .ref (ad13 426)] (m, (wR (wR (wR (wR (wR (wR RX0c 426 0 427) 426 1 428) 426 3 429) 426 5 430) 426 6 431) 426 7 432), 434, ad13)
  refine J_putRF hX hin kf_RX12_29 ⟨_, _, rfl⟩ dX12_init_60 kx_426 (by decide) rfl (by decide) rfl rfl rfl rfl ?_
  replace hc := hc.R (a := 426) (k := 8) (b := 433) (by decide) (by decide) (by decide)
  show J X (7, 2190) 63 [(0, .ref (ad13 426))] [] (m, (wR (wR (wR (wR (wR (wR (wR RX0c 426 0 427) 426 1 428) 426 3 429) 426 5 430) 426 6 431) 426 7 432) 426 8 433), 434, ad13)
  refine J_aload_n hX dX12_init_63 rfl 0 rfl ?_
  refine J_bipush (v := (10 : Int32)) hX dX12_init_64 (by decide) ?_
  refine J_newaI hX dX12_init_66 hc kx_434 lx_434 (by decide) (by decide) (Nat.le_of_ble_eq_true rfl) ⟨Nat.le_of_ble_eq_true rfl, Nat.le_of_ble_eq_true rfl⟩ (fun ad15 hg16 => ?_)
  replace hc := hc.N (n := 435) (by omega)
  refine J_re (lv2 := [(0, .ref (ad15 426))]) (st2 := [.ref (ad15 434), .ref (ad15 426)]) (by (try rw [hg16 426 (by decide)]); (try rfl)) (by (try rw [hg16 426 (by decide)]); (try rfl)) ?_
  show J X (8, 2200) 68 [(0, .ref (ad15 426))] [.ref (ad15 434), .ref (ad15 426)] (m, (wR (wR (wR (wR (wR (wR (wR RX0c 426 0 427) 426 1 428) 426 3 429) 426 5 430) 426 6 431) 426 7 432) 426 8 433), 435, ad15)
  refine J_putRF hX hin kf_RX12_32 ⟨_, _, rfl⟩ dX12_init_68 kx_426 (by decide) rfl (by decide) rfl rfl rfl rfl ?_
  replace hc := hc.R (a := 426) (k := 9) (b := 434) (by decide) (by decide) (by decide)
  show J X (8, 2200) 71 [(0, .ref (ad15 426))] [] (m, (wR (wR (wR (wR (wR (wR (wR (wR RX0c 426 0 427) 426 1 428) 426 3 429) 426 5 430) 426 6 431) 426 7 432) 426 8 433) 426 9 434), 435, ad15)
  refine J_aload_n hX dX12_init_71 rfl 0 rfl ?_
  refine J_bipush (v := (10 : Int32)) hX dX12_init_72 (by decide) ?_
  refine J_newaI hX dX12_init_74 hc kx_435 lx_435 (by decide) (by decide) (Nat.le_of_ble_eq_true rfl) ⟨Nat.le_of_ble_eq_true rfl, Nat.le_of_ble_eq_true rfl⟩ (fun ad17 hg18 => ?_)
  replace hc := hc.N (n := 436) (by omega)
  refine J_re (lv2 := [(0, .ref (ad17 426))]) (st2 := [.ref (ad17 435), .ref (ad17 426)]) (by (try rw [hg18 426 (by decide)]); (try rfl)) (by (try rw [hg18 426 (by decide)]); (try rfl)) ?_
  show J X (9, 2210) 76 [(0, .ref (ad17 426))] [.ref (ad17 435), .ref (ad17 426)] (m, (wR (wR (wR (wR (wR (wR (wR (wR RX0c 426 0 427) 426 1 428) 426 3 429) 426 5 430) 426 6 431) 426 7 432) 426 8 433) 426 9 434), 436, ad17)
  refine J_putRF hX hin kf_RX12_35 ⟨_, _, rfl⟩ dX12_init_76 kx_426 (by decide) rfl (by decide) rfl rfl rfl rfl ?_
  replace hc := hc.R (a := 426) (k := 10) (b := 435) (by decide) (by decide) (by decide)
  show J X (9, 2210) 79 [(0, .ref (ad17 426))] [] (m, (wR (wR (wR (wR (wR (wR (wR (wR (wR RX0c 426 0 427) 426 1 428) 426 3 429) 426 5 430) 426 6 431) 426 7 432) 426 8 433) 426 9 434) 426 10 435), 436, ad17)
  refine J_aload_n hX dX12_init_79 rfl 0 rfl ?_
  refine J_sipush (v := (160 : Int32)) hX dX12_init_80 (by decide) ?_
  refine J_newaI hX dX12_init_83 hc kx_436 lx_436 (by decide) (by decide) (Nat.le_of_ble_eq_true rfl) ⟨Nat.le_of_ble_eq_true rfl, Nat.le_of_ble_eq_true rfl⟩ (fun ad19 hg20 => ?_)
  replace hc := hc.N (n := 437) (by omega)
  refine J_re (lv2 := [(0, .ref (ad19 426))]) (st2 := [.ref (ad19 436), .ref (ad19 426)]) (by (try rw [hg20 426 (by decide)]); (try rfl)) (by (try rw [hg20 426 (by decide)]); (try rfl)) ?_
  show J X (10, 2370) 85 [(0, .ref (ad19 426))] [.ref (ad19 436), .ref (ad19 426)] (m, (wR (wR (wR (wR (wR (wR (wR (wR (wR RX0c 426 0 427) 426 1 428) 426 3 429) 426 5 430) 426 6 431) 426 7 432) 426 8 433) 426 9 434) 426 10 435), 437, ad19)
  refine J_putRF hX hin kf_RX12_38 ⟨_, _, rfl⟩ dX12_init_85 kx_426 (by decide) rfl (by decide) rfl rfl rfl rfl ?_
  replace hc := hc.R (a := 426) (k := 11) (b := 436) (by decide) (by decide) (by decide)
  show J X (10, 2370) 88 [(0, .ref (ad19 426))] [] (m, (wR (wR (wR (wR (wR (wR (wR (wR (wR (wR RX0c 426 0 427) 426 1 428) 426 3 429) 426 5 430) 426 6 431) 426 7 432) 426 8 433) 426 9 434) 426 10 435) 426 11 436), 437, ad19)
  refine J_aload_n hX dX12_init_88 rfl 0 rfl ?_
  refine J_bipush (v := (7 : Int32)) hX dX12_init_89 (by decide) ?_
  refine J_newaI hX dX12_init_91 hc kx_437 lx_437 (by decide) (by decide) (Nat.le_of_ble_eq_true rfl) ⟨Nat.le_of_ble_eq_true rfl, Nat.le_of_ble_eq_true rfl⟩ (fun ad21 hg22 => ?_)
  replace hc := hc.N (n := 438) (by omega)
  refine J_re (lv2 := [(0, .ref (ad21 426))]) (st2 := [.ref (ad21 437), .ref (ad21 426)]) (by (try rw [hg22 426 (by decide)]); (try rfl)) (by (try rw [hg22 426 (by decide)]); (try rfl)) ?_
  show J X (11, 2377) 93 [(0, .ref (ad21 426))] [.ref (ad21 437), .ref (ad21 426)] (m, (wR (wR (wR (wR (wR (wR (wR (wR (wR (wR RX0c 426 0 427) 426 1 428) 426 3 429) 426 5 430) 426 6 431) 426 7 432) 426 8 433) 426 9 434) 426 10 435) 426 11 436), 438, ad21)
  refine J_putRF hX hin kf_RX12_41 ⟨_, _, rfl⟩ dX12_init_93 kx_426 (by decide) rfl (by decide) rfl rfl rfl rfl ?_
  replace hc := hc.R (a := 426) (k := 15) (b := 437) (by decide) (by decide) (by decide)
  show J X (11, 2377) 96 [(0, .ref (ad21 426))] [] (m, (wR (wR (wR (wR (wR (wR (wR (wR (wR (wR (wR RX0c 426 0 427) 426 1 428) 426 3 429) 426 5 430) 426 6 431) 426 7 432) 426 8 433) 426 9 434) 426 10 435) 426 11 436) 426 15 437), 438, ad21)
  refine J_aload_n hX dX12_init_96 rfl 0 rfl ?_
  refine J_sipush (v := (137 : Int32)) hX dX12_init_97 (by decide) ?_
  refine J_newaI hX dX12_init_100 hc kx_438 lx_438 (by decide) (by decide) (Nat.le_of_ble_eq_true rfl) ⟨Nat.le_of_ble_eq_true rfl, Nat.le_of_ble_eq_true rfl⟩ (fun ad23 hg24 => ?_)
  replace hc := hc.N (n := 439) (by omega)
  refine J_re (lv2 := [(0, .ref (ad23 426))]) (st2 := [.ref (ad23 438), .ref (ad23 426)]) (by (try rw [hg24 426 (by decide)]); (try rfl)) (by (try rw [hg24 426 (by decide)]); (try rfl)) ?_
  show J X (12, 2514) 102 [(0, .ref (ad23 426))] [.ref (ad23 438), .ref (ad23 426)] (m, (wR (wR (wR (wR (wR (wR (wR (wR (wR (wR (wR RX0c 426 0 427) 426 1 428) 426 3 429) 426 5 430) 426 6 431) 426 7 432) 426 8 433) 426 9 434) 426 10 435) 426 11 436) 426 15 437), 439, ad23)
  refine J_putRF hX hin kf_RX12_44 ⟨_, _, rfl⟩ dX12_init_102 kx_426 (by decide) rfl (by decide) rfl rfl rfl rfl ?_
  replace hc := hc.R (a := 426) (k := 16) (b := 438) (by decide) (by decide) (by decide)
  show J X (12, 2514) 105 [(0, .ref (ad23 426))] [] (m, (wR (wR (wR (wR (wR (wR (wR (wR (wR (wR (wR (wR RX0c 426 0 427) 426 1 428) 426 3 429) 426 5 430) 426 6 431) 426 7 432) 426 8 433) 426 9 434) 426 10 435) 426 11 436) 426 15 437) 426 16 438), 439, ad23)
  refine J_aload_n hX dX12_init_105 rfl 0 rfl ?_
  refine J_bipush (v := (30 : Int32)) hX dX12_init_106 (by decide) ?_
  refine J_newaI hX dX12_init_108 hc kx_439 lx_439 (by decide) (by decide) (Nat.le_of_ble_eq_true rfl) ⟨Nat.le_of_ble_eq_true rfl, Nat.le_of_ble_eq_true rfl⟩ (fun ad25 hg26 => ?_)
  replace hc := hc.N (n := 440) (by omega)
  refine J_re (lv2 := [(0, .ref (ad25 426))]) (st2 := [.ref (ad25 439), .ref (ad25 426)]) (by (try rw [hg26 426 (by decide)]); (try rfl)) (by (try rw [hg26 426 (by decide)]); (try rfl)) ?_
  show J X (13, 2544) 110 [(0, .ref (ad25 426))] [.ref (ad25 439), .ref (ad25 426)] (m, (wR (wR (wR (wR (wR (wR (wR (wR (wR (wR (wR (wR RX0c 426 0 427) 426 1 428) 426 3 429) 426 5 430) 426 6 431) 426 7 432) 426 8 433) 426 9 434) 426 10 435) 426 11 436) 426 15 437) 426 16 438), 440, ad25)
  refine J_putRF hX hin kf_RX12_47 ⟨_, _, rfl⟩ dX12_init_110 kx_426 (by decide) rfl (by decide) rfl rfl rfl rfl ?_
  replace hc := hc.R (a := 426) (k := 17) (b := 439) (by decide) (by decide) (by decide)
  show J X (13, 2544) 113 [(0, .ref (ad25 426))] [] (m, (wR (wR (wR (wR (wR (wR (wR (wR (wR (wR (wR (wR (wR RX0c 426 0 427) 426 1 428) 426 3 429) 426 5 430) 426 6 431) 426 7 432) 426 8 433) 426 9 434) 426 10 435) 426 11 436) 426 15 437) 426 16 438) 426 17 439), 440, ad25)
  refine J_aload_n hX dX12_init_113 rfl 0 rfl ?_
  refine J_bipush (v := (30 : Int32)) hX dX12_init_114 (by decide) ?_
  refine J_newaI hX dX12_init_116 hc kx_440 lx_440 (by decide) (by decide) (Nat.le_of_ble_eq_true rfl) ⟨Nat.le_of_ble_eq_true rfl, Nat.le_of_ble_eq_true rfl⟩ (fun ad27 hg28 => ?_)
  replace hc := hc.N (n := 441) (by omega)
  refine J_re (lv2 := [(0, .ref (ad27 426))]) (st2 := [.ref (ad27 440), .ref (ad27 426)]) (by (try rw [hg28 426 (by decide)]); (try rfl)) (by (try rw [hg28 426 (by decide)]); (try rfl)) ?_
  show J X (14, 2574) 118 [(0, .ref (ad27 426))] [.ref (ad27 440), .ref (ad27 426)] (m, (wR (wR (wR (wR (wR (wR (wR (wR (wR (wR (wR (wR (wR RX0c 426 0 427) 426 1 428) 426 3 429) 426 5 430) 426 6 431) 426 7 432) 426 8 433) 426 9 434) 426 10 435) 426 11 436) 426 15 437) 426 16 438) 426 17 439), 441, ad27)
  refine J_putRF hX hin kf_RX12_50 ⟨_, _, rfl⟩ dX12_init_118 kx_426 (by decide) rfl (by decide) rfl rfl rfl rfl ?_
  replace hc := hc.R (a := 426) (k := 18) (b := 440) (by decide) (by decide) (by decide)
  show J X (14, 2574) 121 [(0, .ref (ad27 426))] [] (m, (wR (wR (wR (wR (wR (wR (wR (wR (wR (wR (wR (wR (wR (wR RX0c 426 0 427) 426 1 428) 426 3 429) 426 5 430) 426 6 431) 426 7 432) 426 8 433) 426 9 434) 426 10 435) 426 11 436) 426 15 437) 426 16 438) 426 17 439) 426 18 440), 441, ad27)
  refine J_aload_n hX dX12_init_121 rfl 0 rfl ?_
  refine J_bipush (v := (30 : Int32)) hX dX12_init_122 (by decide) ?_
  refine J_newaI hX dX12_init_124 hc kx_441 lx_441 (by decide) (by decide) (Nat.le_of_ble_eq_true rfl) ⟨Nat.le_of_ble_eq_true rfl, Nat.le_of_ble_eq_true rfl⟩ (fun ad29 hg30 => ?_)
  replace hc := hc.N (n := 442) (by omega)
  refine J_re (lv2 := [(0, .ref (ad29 426))]) (st2 := [.ref (ad29 441), .ref (ad29 426)]) (by (try rw [hg30 426 (by decide)]); (try rfl)) (by (try rw [hg30 426 (by decide)]); (try rfl)) ?_
  show J X (15, 2604) 126 [(0, .ref (ad29 426))] [.ref (ad29 441), .ref (ad29 426)] (m, (wR (wR (wR (wR (wR (wR (wR (wR (wR (wR (wR (wR (wR (wR RX0c 426 0 427) 426 1 428) 426 3 429) 426 5 430) 426 6 431) 426 7 432) 426 8 433) 426 9 434) 426 10 435) 426 11 436) 426 15 437) 426 16 438) 426 17 439) 426 18 440), 442, ad29)
  refine J_putRF hX hin kf_RX12_53 ⟨_, _, rfl⟩ dX12_init_126 kx_426 (by decide) rfl (by decide) rfl rfl rfl rfl ?_
  replace hc := hc.R (a := 426) (k := 19) (b := 441) (by decide) (by decide) (by decide)
  show J X (15, 2604) 129 [(0, .ref (ad29 426))] [] (m, (wR (wR (wR (wR (wR (wR (wR (wR (wR (wR (wR (wR (wR (wR (wR RX0c 426 0 427) 426 1 428) 426 3 429) 426 5 430) 426 6 431) 426 7 432) 426 8 433) 426 9 434) 426 10 435) 426 11 436) 426 15 437) 426 16 438) 426 17 439) 426 18 440) 426 19 441), 442, ad29)
  refine J_aload_n hX dX12_init_129 rfl 0 rfl ?_
  refine J_bipush (v := (30 : Int32)) hX dX12_init_130 (by decide) ?_
  refine J_newaI hX dX12_init_132 hc kx_442 lx_442 (by decide) (by decide) (Nat.le_of_ble_eq_true rfl) ⟨Nat.le_of_ble_eq_true rfl, Nat.le_of_ble_eq_true rfl⟩ (fun ad31 hg32 => ?_)
  replace hc := hc.N (n := 443) (by omega)
  refine J_re (lv2 := [(0, .ref (ad31 426))]) (st2 := [.ref (ad31 442), .ref (ad31 426)]) (by (try rw [hg32 426 (by decide)]); (try rfl)) (by (try rw [hg32 426 (by decide)]); (try rfl)) ?_
  show J X (16, 2634) 134 [(0, .ref (ad31 426))] [.ref (ad31 442), .ref (ad31 426)] (m, (wR (wR (wR (wR (wR (wR (wR (wR (wR (wR (wR (wR (wR (wR (wR RX0c 426 0 427) 426 1 428) 426 3 429) 426 5 430) 426 6 431) 426 7 432) 426 8 433) 426 9 434) 426 10 435) 426 11 436) 426 15 437) 426 16 438) 426 17 439) 426 18 440) 426 19 441), 443, ad31)
  refine J_putRF hX hin kf_RX12_56 ⟨_, _, rfl⟩ dX12_init_134 kx_426 (by decide) rfl (by decide) rfl rfl rfl rfl ?_
  replace hc := hc.R (a := 426) (k := 20) (b := 442) (by decide) (by decide) (by decide)
  show J X (16, 2634) 137 [(0, .ref (ad31 426))] [] (m, (wR (wR (wR (wR (wR (wR (wR (wR (wR (wR (wR (wR (wR (wR (wR (wR RX0c 426 0 427) 426 1 428) 426 3 429) 426 5 430) 426 6 431) 426 7 432) 426 8 433) 426 9 434) 426 10 435) 426 11 436) 426 15 437) 426 16 438) 426 17 439) 426 18 440) 426 19 441) 426 20 442), 443, ad31)
  refine J_aload_n hX dX12_init_137 rfl 0 rfl ?_
  refine J_bipush (v := (30 : Int32)) hX dX12_init_138 (by decide) ?_
  refine J_newaI hX dX12_init_140 hc kx_443 lx_443 (by decide) (by decide) (Nat.le_of_ble_eq_true rfl) ⟨Nat.le_of_ble_eq_true rfl, Nat.le_of_ble_eq_true rfl⟩ (fun ad33 hg34 => ?_)
  replace hc := hc.N (n := 444) (by omega)
  refine J_re (lv2 := [(0, .ref (ad33 426))]) (st2 := [.ref (ad33 443), .ref (ad33 426)]) (by (try rw [hg34 426 (by decide)]); (try rfl)) (by (try rw [hg34 426 (by decide)]); (try rfl)) ?_
  show J X (17, 2664) 142 [(0, .ref (ad33 426))] [.ref (ad33 443), .ref (ad33 426)] (m, (wR (wR (wR (wR (wR (wR (wR (wR (wR (wR (wR (wR (wR (wR (wR (wR RX0c 426 0 427) 426 1 428) 426 3 429) 426 5 430) 426 6 431) 426 7 432) 426 8 433) 426 9 434) 426 10 435) 426 11 436) 426 15 437) 426 16 438) 426 17 439) 426 18 440) 426 19 441) 426 20 442), 444, ad33)
  refine J_putRF hX hin kf_RX12_59 ⟨_, _, rfl⟩ dX12_init_142 kx_426 (by decide) rfl (by decide) rfl rfl rfl rfl ?_
  replace hc := hc.R (a := 426) (k := 21) (b := 443) (by decide) (by decide) (by decide)
  show J X (17, 2664) 145 [(0, .ref (ad33 426))] [] (m, (wR (wR (wR (wR (wR (wR (wR (wR (wR (wR (wR (wR (wR (wR (wR (wR (wR RX0c 426 0 427) 426 1 428) 426 3 429) 426 5 430) 426 6 431) 426 7 432) 426 8 433) 426 9 434) 426 10 435) 426 11 436) 426 15 437) 426 16 438) 426 17 439) 426 18 440) 426 19 441) 426 20 442) 426 21 443), 444, ad33)
  refine J_aload_n hX dX12_init_145 rfl 0 rfl ?_
  refine J_bipush (v := (30 : Int32)) hX dX12_init_146 (by decide) ?_
  refine J_newaI hX dX12_init_148 hc kx_444 lx_444 (by decide) (by decide) (Nat.le_of_ble_eq_true rfl) ⟨Nat.le_of_ble_eq_true rfl, Nat.le_of_ble_eq_true rfl⟩ (fun ad35 hg36 => ?_)
  replace hc := hc.N (n := 445) (by omega)
  refine J_re (lv2 := [(0, .ref (ad35 426))]) (st2 := [.ref (ad35 444), .ref (ad35 426)]) (by (try rw [hg36 426 (by decide)]); (try rfl)) (by (try rw [hg36 426 (by decide)]); (try rfl)) ?_
  show J X (18, 2694) 150 [(0, .ref (ad35 426))] [.ref (ad35 444), .ref (ad35 426)] (m, (wR (wR (wR (wR (wR (wR (wR (wR (wR (wR (wR (wR (wR (wR (wR (wR (wR RX0c 426 0 427) 426 1 428) 426 3 429) 426 5 430) 426 6 431) 426 7 432) 426 8 433) 426 9 434) 426 10 435) 426 11 436) 426 15 437) 426 16 438) 426 17 439) 426 18 440) 426 19 441) 426 20 442) 426 21 443), 445, ad35)
  refine J_putRF hX hin kf_RX12_62 ⟨_, _, rfl⟩ dX12_init_150 kx_426 (by decide) rfl (by decide) rfl rfl rfl rfl ?_
  replace hc := hc.R (a := 426) (k := 22) (b := 444) (by decide) (by decide) (by decide)
  show J X (18, 2694) 153 [(0, .ref (ad35 426))] [] (m, (wR (wR (wR (wR (wR (wR (wR (wR (wR (wR (wR (wR (wR (wR (wR (wR (wR (wR RX0c 426 0 427) 426 1 428) 426 3 429) 426 5 430) 426 6 431) 426 7 432) 426 8 433) 426 9 434) 426 10 435) 426 11 436) 426 15 437) 426 16 438) 426 17 439) 426 18 440) 426 19 441) 426 20 442) 426 21 443) 426 22 444), 445, ad35)
  refine J_aload_n hX dX12_init_153 rfl 0 rfl ?_
  refine J_bipush (v := (10 : Int32)) hX dX12_init_154 (by decide) ?_
  refine J_newaI hX dX12_init_156 hc kx_445 lx_445 (by decide) (by decide) (Nat.le_of_ble_eq_true rfl) ⟨Nat.le_of_ble_eq_true rfl, Nat.le_of_ble_eq_true rfl⟩ (fun ad37 hg38 => ?_)
  replace hc := hc.N (n := 446) (by omega)
  refine J_re (lv2 := [(0, .ref (ad37 426))]) (st2 := [.ref (ad37 445), .ref (ad37 426)]) (by (try rw [hg38 426 (by decide)]); (try rfl)) (by (try rw [hg38 426 (by decide)]); (try rfl)) ?_
  show J X (19, 2704) 158 [(0, .ref (ad37 426))] [.ref (ad37 445), .ref (ad37 426)] (m, (wR (wR (wR (wR (wR (wR (wR (wR (wR (wR (wR (wR (wR (wR (wR (wR (wR (wR RX0c 426 0 427) 426 1 428) 426 3 429) 426 5 430) 426 6 431) 426 7 432) 426 8 433) 426 9 434) 426 10 435) 426 11 436) 426 15 437) 426 16 438) 426 17 439) 426 18 440) 426 19 441) 426 20 442) 426 21 443) 426 22 444), 446, ad37)
  refine J_putRF hX hin kf_RX12_65 ⟨_, _, rfl⟩ dX12_init_158 kx_426 (by decide) rfl (by decide) rfl rfl rfl rfl ?_
  replace hc := hc.R (a := 426) (k := 23) (b := 445) (by decide) (by decide) (by decide)
  show J X (19, 2704) 161 [(0, .ref (ad37 426))] [] (m, (wR (wR (wR (wR (wR (wR (wR (wR (wR (wR (wR (wR (wR (wR (wR (wR (wR (wR (wR RX0c 426 0 427) 426 1 428) 426 3 429) 426 5 430) 426 6 431) 426 7 432) 426 8 433) 426 9 434) 426 10 435) 426 11 436) 426 15 437) 426 16 438) 426 17 439) 426 18 440) 426 19 441) 426 20 442) 426 21 443) 426 22 444) 426 23 445), 446, ad37)
  refine J_aload_n hX dX12_init_161 rfl 0 rfl ?_
  refine J_sipush (v := (6480 : Int32)) hX dX12_init_162 (by decide) ?_
  refine J_newaI hX dX12_init_165 hc kx_446 lx_446 (by decide) (by decide) (Nat.le_of_ble_eq_true rfl) ⟨Nat.le_of_ble_eq_true rfl, Nat.le_of_ble_eq_true rfl⟩ (fun ad39 hg40 => ?_)
  replace hc := hc.N (n := 447) (by omega)
  refine J_re (lv2 := [(0, .ref (ad39 426))]) (st2 := [.ref (ad39 446), .ref (ad39 426)]) (by (try rw [hg40 426 (by decide)]); (try rfl)) (by (try rw [hg40 426 (by decide)]); (try rfl)) ?_
  show J X (20, 9184) 167 [(0, .ref (ad39 426))] [.ref (ad39 446), .ref (ad39 426)] (m, (wR (wR (wR (wR (wR (wR (wR (wR (wR (wR (wR (wR (wR (wR (wR (wR (wR (wR (wR RX0c 426 0 427) 426 1 428) 426 3 429) 426 5 430) 426 6 431) 426 7 432) 426 8 433) 426 9 434) 426 10 435) 426 11 436) 426 15 437) 426 16 438) 426 17 439) 426 18 440) 426 19 441) 426 20 442) 426 21 443) 426 22 444) 426 23 445), 447, ad39)
  refine J_putRF hX hin kf_RX12_68 ⟨_, _, rfl⟩ dX12_init_167 kx_426 (by decide) rfl (by decide) rfl rfl rfl rfl ?_
  replace hc := hc.R (a := 426) (k := 24) (b := 446) (by decide) (by decide) (by decide)
  show J X (20, 9184) 170 [(0, .ref (ad39 426))] [] (m, (wR (wR (wR (wR (wR (wR (wR (wR (wR (wR (wR (wR (wR (wR (wR (wR (wR (wR (wR (wR RX0c 426 0 427) 426 1 428) 426 3 429) 426 5 430) 426 6 431) 426 7 432) 426 8 433) 426 9 434) 426 10 435) 426 11 436) 426 15 437) 426 16 438) 426 17 439) 426 18 440) 426 19 441) 426 20 442) 426 21 443) 426 22 444) 426 23 445) 426 24 446), 447, ad39)
  refine J_aload_n hX dX12_init_170 rfl 0 rfl ?_
  refine J_sipush (v := (9600 : Int32)) hX dX12_init_171 (by decide) ?_
  refine J_newaI hX dX12_init_174 hc kx_447 lx_447 (by decide) (by decide) (Nat.le_of_ble_eq_true rfl) ⟨Nat.le_of_ble_eq_true rfl, Nat.le_of_ble_eq_true rfl⟩ (fun ad41 hg42 => ?_)
  replace hc := hc.N (n := 448) (by omega)
  refine J_re (lv2 := [(0, .ref (ad41 426))]) (st2 := [.ref (ad41 447), .ref (ad41 426)]) (by (try rw [hg42 426 (by decide)]); (try rfl)) (by (try rw [hg42 426 (by decide)]); (try rfl)) ?_
  show J X (21, 18784) 176 [(0, .ref (ad41 426))] [.ref (ad41 447), .ref (ad41 426)] (m, (wR (wR (wR (wR (wR (wR (wR (wR (wR (wR (wR (wR (wR (wR (wR (wR (wR (wR (wR (wR RX0c 426 0 427) 426 1 428) 426 3 429) 426 5 430) 426 6 431) 426 7 432) 426 8 433) 426 9 434) 426 10 435) 426 11 436) 426 15 437) 426 16 438) 426 17 439) 426 18 440) 426 19 441) 426 20 442) 426 21 443) 426 22 444) 426 23 445) 426 24 446), 448, ad41)
  refine J_putRF hX hin kf_RX12_71 ⟨_, _, rfl⟩ dX12_init_176 kx_426 (by decide) rfl (by decide) rfl rfl rfl rfl ?_
  replace hc := hc.R (a := 426) (k := 26) (b := 447) (by decide) (by decide) (by decide)
  show J X (21, 18784) 179 [(0, .ref (ad41 426))] [] (m, (wR (wR (wR (wR (wR (wR (wR (wR (wR (wR (wR (wR (wR (wR (wR (wR (wR (wR (wR (wR (wR RX0c 426 0 427) 426 1 428) 426 3 429) 426 5 430) 426 6 431) 426 7 432) 426 8 433) 426 9 434) 426 10 435) 426 11 436) 426 15 437) 426 16 438) 426 17 439) 426 18 440) 426 19 441) 426 20 442) 426 21 443) 426 22 444) 426 23 445) 426 24 446) 426 26 447), 448, ad41)
  refine J_aload_n hX dX12_init_179 rfl 0 rfl ?_
  refine J_iconst (v := (4 : Int32)) hX dX12_init_180 (by decide) ?_
  refine J_newaI hX dX12_init_181 hc kx_448 lx_448 (by decide) (by decide) (Nat.le_of_ble_eq_true rfl) ⟨Nat.le_of_ble_eq_true rfl, Nat.le_of_ble_eq_true rfl⟩ (fun ad43 hg44 => ?_)
  replace hc := hc.N (n := 449) (by omega)
  refine J_re (lv2 := [(0, .ref (ad43 426))]) (st2 := [.ref (ad43 448), .ref (ad43 426)]) (by (try rw [hg44 426 (by decide)]); (try rfl)) (by (try rw [hg44 426 (by decide)]); (try rfl)) ?_
  show J X (22, 18788) 183 [(0, .ref (ad43 426))] [.ref (ad43 448), .ref (ad43 426)] (m, (wR (wR (wR (wR (wR (wR (wR (wR (wR (wR (wR (wR (wR (wR (wR (wR (wR (wR (wR (wR (wR RX0c 426 0 427) 426 1 428) 426 3 429) 426 5 430) 426 6 431) 426 7 432) 426 8 433) 426 9 434) 426 10 435) 426 11 436) 426 15 437) 426 16 438) 426 17 439) 426 18 440) 426 19 441) 426 20 442) 426 21 443) 426 22 444) 426 23 445) 426 24 446) 426 26 447), 449, ad43)
  refine J_putRF hX hin kf_RX12_74 ⟨_, _, rfl⟩ dX12_init_183 kx_426 (by decide) rfl (by decide) rfl rfl rfl rfl ?_
  replace hc := hc.R (a := 426) (k := 28) (b := 448) (by decide) (by decide) (by decide)
  show J X (22, 18788) 186 [(0, .ref (ad43 426))] [] (m, (wR (wR (wR (wR (wR (wR (wR (wR (wR (wR (wR (wR (wR (wR (wR (wR (wR (wR (wR (wR (wR (wR RX0c 426 0 427) 426 1 428) 426 3 429) 426 5 430) 426 6 431) 426 7 432) 426 8 433) 426 9 434) 426 10 435) 426 11 436) 426 15 437) 426 16 438) 426 17 439) 426 18 440) 426 19 441) 426 20 442) 426 21 443) 426 22 444) 426 23 445) 426 24 446) 426 26 447) 426 28 448), 449, ad43)
  refine J_aload_n hX dX12_init_186 rfl 0 rfl ?_
  refine J_sipush (v := (1024 : Int32)) hX dX12_init_187 (by decide) ?_
  refine J_newaZ hX dX12_init_190 hc kx_449 lx_449 (by decide) (by decide) (Nat.le_of_ble_eq_true rfl) ⟨Nat.le_of_ble_eq_true rfl, Nat.le_of_ble_eq_true rfl⟩ (fun ad45 hg46 => ?_)
  replace hc := hc.N (n := 450) (by omega)
  refine J_re (lv2 := [(0, .ref (ad45 426))]) (st2 := [.ref (ad45 449), .ref (ad45 426)]) (by (try rw [hg46 426 (by decide)]); (try rfl)) (by (try rw [hg46 426 (by decide)]); (try rfl)) ?_
  show J X (23, 19812) 192 [(0, .ref (ad45 426))] [.ref (ad45 449), .ref (ad45 426)] (m, (wR (wR (wR (wR (wR (wR (wR (wR (wR (wR (wR (wR (wR (wR (wR (wR (wR (wR (wR (wR (wR (wR RX0c 426 0 427) 426 1 428) 426 3 429) 426 5 430) 426 6 431) 426 7 432) 426 8 433) 426 9 434) 426 10 435) 426 11 436) 426 15 437) 426 16 438) 426 17 439) 426 18 440) 426 19 441) 426 20 442) 426 21 443) 426 22 444) 426 23 445) 426 24 446) 426 26 447) 426 28 448), 450, ad45)
  refine J_putRF hX hin kf_RX12_77 ⟨_, _, rfl⟩ dX12_init_192 kx_426 (by decide) rfl (by decide) rfl rfl rfl rfl ?_
  replace hc := hc.R (a := 426) (k := 29) (b := 449) (by decide) (by decide) (by decide)
  show J X (23, 19812) 195 [(0, .ref (ad45 426))] [] (m, (wR (wR (wR (wR (wR (wR (wR (wR (wR (wR (wR (wR (wR (wR (wR (wR (wR (wR (wR (wR (wR (wR (wR RX0c 426 0 427) 426 1 428) 426 3 429) 426 5 430) 426 6 431) 426 7 432) 426 8 433) 426 9 434) 426 10 435) 426 11 436) 426 15 437) 426 16 438) 426 17 439) 426 18 440) 426 19 441) 426 20 442) 426 21 443) 426 22 444) 426 23 445) 426 24 446) 426 26 447) 426 28 448) 426 29 449), 450, ad45)
  refine J_aload_n hX dX12_init_195 rfl 0 rfl ?_
  have eR : RX1c = RF := RF_of (m := cm_X12_pre m) hc RX1c_eq
  show J X (23, 19812) 196 [(0, .ref (ad45 426))] [.ref (ad45 426)] (cm_X12_pre m, RX1c, 450, ad45)
  rw [eR]
  show J X (23, 19812) 196 [(0, .ref (ad45 426))] [.ref (ad45 426)] (fl ad45 (cm_X12_pre m))
  refine J_cV (a := 426) (As := []) (st := []) hX (c_X12_clearDesign (ad := ad45) (cm_X12_pre m) _ h) km_X12_clearDesign kl_RX12_80 dX12_init_196 kx_426 (by decide) (show 426 < 450 by omega) ⟨rfl, rfl⟩ ⟨Nat.le_of_ble_eq_true rfl, Nat.le_of_ble_eq_true rfl⟩ ⟨Nat.le_of_ble_eq_true rfl, Nat.le_of_ble_eq_true rfl⟩ rfl rfl (Nat.le_of_ble_eq_true rfl) (fun v w2 hk => ?_)
  obtain ⟨m1, rfl, rfl, h⟩ := hk
  show J X (23, 19812) 199 [(0, .ref (ad45 426))] [] (fl ad45 m1)
  refine J_aload_n hX dX12_init_199 rfl 0 rfl ?_
  refine J_getR hX kf_RX12_7 dX12_init_200 kx_426 (by decide) rfl rh_426_0 ?_
  refine J_bipush (v := (125 : Int32)) hX dX12_init_203 (by decide) ?_
  refine J_iconst (v := (1 : Int32)) hX dX12_init_205 (by decide) ?_
  refine J_iast (j := 125) hX dX12_init_206 kx_427 lx_427 (vp_lit (by decide)) (by decide) ?_
  refine J_aload_n hX dX12_init_207 rfl 0 rfl ?_
  refine J_getR hX kf_RX12_7 dX12_init_208 kx_426 (by decide) rfl rh_426_0 ?_
  refine J_bipush (v := (126 : Int32)) hX dX12_init_211 (by decide) ?_
  refine J_iconst (v := (3 : Int32)) hX dX12_init_213 (by decide) ?_
  refine J_iast (j := 126) hX dX12_init_214 kx_427 lx_427 (vp_lit (by decide)) (by decide) ?_
  refine J_aload_n hX dX12_init_215 rfl 0 rfl ?_
  refine J_getR hX kf_RX12_7 dX12_init_216 kx_426 (by decide) rfl rh_426_0 ?_
  refine J_bipush (v := (127 : Int32)) hX dX12_init_219 (by decide) ?_
  refine J_iconst (v := (2 : Int32)) hX dX12_init_221 (by decide) ?_
  refine J_iast (j := 127) hX dX12_init_222 kx_427 lx_427 (vp_lit (by decide)) (by decide) ?_
  refine J_aload_n hX dX12_init_223 rfl 0 rfl ?_
  refine J_getR hX kf_RX12_7 dX12_init_224 kx_426 (by decide) rfl rh_426_0 ?_
  refine J_sipush (v := (128 : Int32)) hX dX12_init_227 (by decide) ?_
  refine J_bipush (v := (80 : Int32)) hX dX12_init_230 (by decide) ?_
  refine J_iast (j := 128) hX dX12_init_232 kx_427 lx_427 (vp_lit (by decide)) (by decide) ?_
  refine J_iconst (v := (0 : Int32)) hX dX12_init_233 (by decide) ?_
  refine J_istore_n (lv2 := [(1, .int (0 : Int32)), (0, .ref (ad45 426))]) hX dX12_init_234 rfl (Nat.le_of_ble_eq_true rfl) rfl ?_
  refine J_iload_n hX dX12_init_235 rfl 0 rfl ?_
  refine J_bipush (v := (8 : Int32)) hX dX12_init_236 (by decide) ?_
  refine J_icmp_ge (tgt := 258) hX dX12_init_238 (by decide) (fun c => absurd c (by decide)) (fun _ => ?_)
  refine J_aload_n hX dX12_init_241 rfl 1 rfl ?_
  refine J_getR hX kf_RX12_7 dX12_init_242 kx_426 (by decide) rfl rh_426_0 ?_
  refine J_sipush (v := (129 : Int32)) hX dX12_init_245 (by decide) ?_
  refine J_iload_n hX dX12_init_248 rfl 0 rfl ?_
  refine J_iadd hX dX12_init_249 ?_
  show J X (23, 19812) 250 [(1, .int (0 : Int32)), (0, .ref (ad45 426))] [.int (129 : Int32), .ref (ad45 427)] (fl ad45 (wI (wI (wI (wI m1 427 125 (1 : Int32)) 427 126 (3 : Int32)) 427 127 (2 : Int32)) 427 128 (80 : Int32)))
  refine J_iconst (v := (1 : Int32)) hX dX12_init_250 (by decide) ?_
  refine J_iast (j := 129) hX dX12_init_251 kx_427 lx_427 (vp_lit (by decide)) (by decide) ?_
  refine J_iinc (x := (1 : Int32)) (lv2 := [(1, .int (1 : Int32)), (0, .ref (ad45 426))]) hX dX12_init_252 0 rfl (by decide) (Nat.le_of_ble_eq_true rfl) rfl ?_
  refine J_goto (tgt := 235) hX dX12_init_255 (by decide) ?_
  refine J_iload_n hX dX12_init_235 rfl 0 rfl ?_
  refine J_bipush (v := (8 : Int32)) hX dX12_init_236 (by decide) ?_
  refine J_icmp_ge (tgt := 258) hX dX12_init_238 (by decide) (fun c => absurd c (by decide)) (fun _ => ?_)
  refine J_aload_n hX dX12_init_241 rfl 1 rfl ?_
  refine J_getR hX kf_RX12_7 dX12_init_242 kx_426 (by decide) rfl rh_426_0 ?_
  refine J_sipush (v := (129 : Int32)) hX dX12_init_245 (by decide) ?_
  refine J_iload_n hX dX12_init_248 rfl 0 rfl ?_
  refine J_iadd hX dX12_init_249 ?_
  show J X (23, 19812) 250 [(1, .int (1 : Int32)), (0, .ref (ad45 426))] [.int (130 : Int32), .ref (ad45 427)] (fl ad45 (wI (wI (wI (wI (wI m1 427 125 (1 : Int32)) 427 126 (3 : Int32)) 427 127 (2 : Int32)) 427 128 (80 : Int32)) 427 129 (1 : Int32)))
  refine J_iconst (v := (1 : Int32)) hX dX12_init_250 (by decide) ?_
  refine J_iast (j := 130) hX dX12_init_251 kx_427 lx_427 (vp_lit (by decide)) (by decide) ?_
  refine J_iinc (x := (2 : Int32)) (lv2 := [(1, .int (2 : Int32)), (0, .ref (ad45 426))]) hX dX12_init_252 0 rfl (by decide) (Nat.le_of_ble_eq_true rfl) rfl ?_
  refine J_goto (tgt := 235) hX dX12_init_255 (by decide) ?_
  refine J_iload_n hX dX12_init_235 rfl 0 rfl ?_
  refine J_bipush (v := (8 : Int32)) hX dX12_init_236 (by decide) ?_
  refine J_icmp_ge (tgt := 258) hX dX12_init_238 (by decide) (fun c => absurd c (by decide)) (fun _ => ?_)
  refine J_aload_n hX dX12_init_241 rfl 1 rfl ?_
  refine J_getR hX kf_RX12_7 dX12_init_242 kx_426 (by decide) rfl rh_426_0 ?_
  refine J_sipush (v := (129 : Int32)) hX dX12_init_245 (by decide) ?_
  refine J_iload_n hX dX12_init_248 rfl 0 rfl ?_
  refine J_iadd hX dX12_init_249 ?_
  show J X (23, 19812) 250 [(1, .int (2 : Int32)), (0, .ref (ad45 426))] [.int (131 : Int32), .ref (ad45 427)] (fl ad45 (wI (wI (wI (wI (wI (wI m1 427 125 (1 : Int32)) 427 126 (3 : Int32)) 427 127 (2 : Int32)) 427 128 (80 : Int32)) 427 129 (1 : Int32)) 427 130 (1 : Int32)))
  refine J_iconst (v := (1 : Int32)) hX dX12_init_250 (by decide) ?_
  refine J_iast (j := 131) hX dX12_init_251 kx_427 lx_427 (vp_lit (by decide)) (by decide) ?_
  refine J_iinc (x := (3 : Int32)) (lv2 := [(1, .int (3 : Int32)), (0, .ref (ad45 426))]) hX dX12_init_252 0 rfl (by decide) (Nat.le_of_ble_eq_true rfl) rfl ?_
  refine J_goto (tgt := 235) hX dX12_init_255 (by decide) ?_
  refine J_iload_n hX dX12_init_235 rfl 0 rfl ?_
  refine J_bipush (v := (8 : Int32)) hX dX12_init_236 (by decide) ?_
  refine J_icmp_ge (tgt := 258) hX dX12_init_238 (by decide) (fun c => absurd c (by decide)) (fun _ => ?_)
  refine J_aload_n hX dX12_init_241 rfl 1 rfl ?_
  refine J_getR hX kf_RX12_7 dX12_init_242 kx_426 (by decide) rfl rh_426_0 ?_
  refine J_sipush (v := (129 : Int32)) hX dX12_init_245 (by decide) ?_
  refine J_iload_n hX dX12_init_248 rfl 0 rfl ?_
  refine J_iadd hX dX12_init_249 ?_
  show J X (23, 19812) 250 [(1, .int (3 : Int32)), (0, .ref (ad45 426))] [.int (132 : Int32), .ref (ad45 427)] (fl ad45 (wI (wI (wI (wI (wI (wI (wI m1 427 125 (1 : Int32)) 427 126 (3 : Int32)) 427 127 (2 : Int32)) 427 128 (80 : Int32)) 427 129 (1 : Int32)) 427 130 (1 : Int32)) 427 131 (1 : Int32)))
  refine J_iconst (v := (1 : Int32)) hX dX12_init_250 (by decide) ?_
  refine J_iast (j := 132) hX dX12_init_251 kx_427 lx_427 (vp_lit (by decide)) (by decide) ?_
  refine J_iinc (x := (4 : Int32)) (lv2 := [(1, .int (4 : Int32)), (0, .ref (ad45 426))]) hX dX12_init_252 0 rfl (by decide) (Nat.le_of_ble_eq_true rfl) rfl ?_
  refine J_goto (tgt := 235) hX dX12_init_255 (by decide) ?_
  refine J_iload_n hX dX12_init_235 rfl 0 rfl ?_
  refine J_bipush (v := (8 : Int32)) hX dX12_init_236 (by decide) ?_
  refine J_icmp_ge (tgt := 258) hX dX12_init_238 (by decide) (fun c => absurd c (by decide)) (fun _ => ?_)
  refine J_aload_n hX dX12_init_241 rfl 1 rfl ?_
  refine J_getR hX kf_RX12_7 dX12_init_242 kx_426 (by decide) rfl rh_426_0 ?_
  refine J_sipush (v := (129 : Int32)) hX dX12_init_245 (by decide) ?_
  refine J_iload_n hX dX12_init_248 rfl 0 rfl ?_
  refine J_iadd hX dX12_init_249 ?_
  show J X (23, 19812) 250 [(1, .int (4 : Int32)), (0, .ref (ad45 426))] [.int (133 : Int32), .ref (ad45 427)] (fl ad45 (wI (wI (wI (wI (wI (wI (wI (wI m1 427 125 (1 : Int32)) 427 126 (3 : Int32)) 427 127 (2 : Int32)) 427 128 (80 : Int32)) 427 129 (1 : Int32)) 427 130 (1 : Int32)) 427 131 (1 : Int32)) 427 132 (1 : Int32)))
  refine J_iconst (v := (1 : Int32)) hX dX12_init_250 (by decide) ?_
  refine J_iast (j := 133) hX dX12_init_251 kx_427 lx_427 (vp_lit (by decide)) (by decide) ?_
  refine J_iinc (x := (5 : Int32)) (lv2 := [(1, .int (5 : Int32)), (0, .ref (ad45 426))]) hX dX12_init_252 0 rfl (by decide) (Nat.le_of_ble_eq_true rfl) rfl ?_
  refine J_goto (tgt := 235) hX dX12_init_255 (by decide) ?_
  refine J_iload_n hX dX12_init_235 rfl 0 rfl ?_
  refine J_bipush (v := (8 : Int32)) hX dX12_init_236 (by decide) ?_
  refine J_icmp_ge (tgt := 258) hX dX12_init_238 (by decide) (fun c => absurd c (by decide)) (fun _ => ?_)
  refine J_aload_n hX dX12_init_241 rfl 1 rfl ?_
  refine J_getR hX kf_RX12_7 dX12_init_242 kx_426 (by decide) rfl rh_426_0 ?_
  refine J_sipush (v := (129 : Int32)) hX dX12_init_245 (by decide) ?_
  refine J_iload_n hX dX12_init_248 rfl 0 rfl ?_
  refine J_iadd hX dX12_init_249 ?_
  show J X (23, 19812) 250 [(1, .int (5 : Int32)), (0, .ref (ad45 426))] [.int (134 : Int32), .ref (ad45 427)] (fl ad45 (wI (wI (wI (wI (wI (wI (wI (wI (wI m1 427 125 (1 : Int32)) 427 126 (3 : Int32)) 427 127 (2 : Int32)) 427 128 (80 : Int32)) 427 129 (1 : Int32)) 427 130 (1 : Int32)) 427 131 (1 : Int32)) 427 132 (1 : Int32)) 427 133 (1 : Int32)))
  refine J_iconst (v := (1 : Int32)) hX dX12_init_250 (by decide) ?_
  refine J_iast (j := 134) hX dX12_init_251 kx_427 lx_427 (vp_lit (by decide)) (by decide) ?_
  refine J_iinc (x := (6 : Int32)) (lv2 := [(1, .int (6 : Int32)), (0, .ref (ad45 426))]) hX dX12_init_252 0 rfl (by decide) (Nat.le_of_ble_eq_true rfl) rfl ?_
  refine J_goto (tgt := 235) hX dX12_init_255 (by decide) ?_
  refine J_iload_n hX dX12_init_235 rfl 0 rfl ?_
  refine J_bipush (v := (8 : Int32)) hX dX12_init_236 (by decide) ?_
  refine J_icmp_ge (tgt := 258) hX dX12_init_238 (by decide) (fun c => absurd c (by decide)) (fun _ => ?_)
  refine J_aload_n hX dX12_init_241 rfl 1 rfl ?_
  refine J_getR hX kf_RX12_7 dX12_init_242 kx_426 (by decide) rfl rh_426_0 ?_
  refine J_sipush (v := (129 : Int32)) hX dX12_init_245 (by decide) ?_
  refine J_iload_n hX dX12_init_248 rfl 0 rfl ?_
  refine J_iadd hX dX12_init_249 ?_
  show J X (23, 19812) 250 [(1, .int (6 : Int32)), (0, .ref (ad45 426))] [.int (135 : Int32), .ref (ad45 427)] (fl ad45 (wI (wI (wI (wI (wI (wI (wI (wI (wI (wI m1 427 125 (1 : Int32)) 427 126 (3 : Int32)) 427 127 (2 : Int32)) 427 128 (80 : Int32)) 427 129 (1 : Int32)) 427 130 (1 : Int32)) 427 131 (1 : Int32)) 427 132 (1 : Int32)) 427 133 (1 : Int32)) 427 134 (1 : Int32)))
  refine J_iconst (v := (1 : Int32)) hX dX12_init_250 (by decide) ?_
  refine J_iast (j := 135) hX dX12_init_251 kx_427 lx_427 (vp_lit (by decide)) (by decide) ?_
  refine J_iinc (x := (7 : Int32)) (lv2 := [(1, .int (7 : Int32)), (0, .ref (ad45 426))]) hX dX12_init_252 0 rfl (by decide) (Nat.le_of_ble_eq_true rfl) rfl ?_
  refine J_goto (tgt := 235) hX dX12_init_255 (by decide) ?_
  refine J_iload_n hX dX12_init_235 rfl 0 rfl ?_
  refine J_bipush (v := (8 : Int32)) hX dX12_init_236 (by decide) ?_
  refine J_icmp_ge (tgt := 258) hX dX12_init_238 (by decide) (fun c => absurd c (by decide)) (fun _ => ?_)
  refine J_aload_n hX dX12_init_241 rfl 1 rfl ?_
  refine J_getR hX kf_RX12_7 dX12_init_242 kx_426 (by decide) rfl rh_426_0 ?_
  refine J_sipush (v := (129 : Int32)) hX dX12_init_245 (by decide) ?_
  refine J_iload_n hX dX12_init_248 rfl 0 rfl ?_
  refine J_iadd hX dX12_init_249 ?_
  show J X (23, 19812) 250 [(1, .int (7 : Int32)), (0, .ref (ad45 426))] [.int (136 : Int32), .ref (ad45 427)] (fl ad45 (wI (wI (wI (wI (wI (wI (wI (wI (wI (wI (wI m1 427 125 (1 : Int32)) 427 126 (3 : Int32)) 427 127 (2 : Int32)) 427 128 (80 : Int32)) 427 129 (1 : Int32)) 427 130 (1 : Int32)) 427 131 (1 : Int32)) 427 132 (1 : Int32)) 427 133 (1 : Int32)) 427 134 (1 : Int32)) 427 135 (1 : Int32)))
  refine J_iconst (v := (1 : Int32)) hX dX12_init_250 (by decide) ?_
  refine J_iast (j := 136) hX dX12_init_251 kx_427 lx_427 (vp_lit (by decide)) (by decide) ?_
  refine J_iinc (x := (8 : Int32)) (lv2 := [(1, .int (8 : Int32)), (0, .ref (ad45 426))]) hX dX12_init_252 0 rfl (by decide) (Nat.le_of_ble_eq_true rfl) rfl ?_
  refine J_goto (tgt := 235) hX dX12_init_255 (by decide) ?_
  refine J_iload_n hX dX12_init_235 rfl 0 rfl ?_
  refine J_bipush (v := (8 : Int32)) hX dX12_init_236 (by decide) ?_
  refine J_icmp_ge (tgt := 258) hX dX12_init_238 (by decide) (fun _ => ?_) (fun c => absurd (by decide) c)
  exact J_vret hX hR dX12_init_258 ⟨rfl, ad45, _, fun b hb => (hg46 b (by omega)).trans ((hg44 b (by omega)).trans ((hg42 b (by omega)).trans ((hg40 b (by omega)).trans ((hg38 b (by omega)).trans ((hg36 b (by omega)).trans ((hg34 b (by omega)).trans ((hg32 b (by omega)).trans ((hg30 b (by omega)).trans ((hg28 b (by omega)).trans ((hg26 b (by omega)).trans ((hg24 b (by omega)).trans ((hg22 b (by omega)).trans ((hg20 b (by omega)).trans ((hg18 b (by omega)).trans ((hg16 b (by omega)).trans ((hg14 b (by omega)).trans ((hg12 b (by omega)).trans ((hg10 b (by omega)).trans ((hg8 b (by omega)).trans ((hg6 b (by omega)).trans ((hg4 b (by omega)).trans ((hg2 b (by omega)).trans rfl)))))))))))))))))))))), rfl, h⟩
