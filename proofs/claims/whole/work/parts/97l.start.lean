theorem kn_RL_7 : NOk RL 7 11 := ⟨RX11, TX11, 16, tyX11, rfl, inX11, tyX11_ok, mt_1 (List.mem_of_getElem? (i := 15) rfl), mt_1 (List.mem_of_getElem? (i := 16) rfl), mt_1 (List.mem_of_getElem? (i := 1) rfl), nd_11, rfl⟩
theorem kn_RL_10 : NOk RL 10 12 := ⟨RX12, TX12, 30, tyX12, rfl, inX12, tyX12_ok, mt_6 (List.mem_of_getElem? (i := 199) rfl), mt_6 (List.mem_of_getElem? (i := 200) rfl), mt_1 (List.mem_of_getElem? (i := 13) rfl), nd_12, rfl⟩
/-! from the law's entry to its loop; what is left is a statement without a machine: LawPure -/
def m00 : Mm := (fun _ _ => 0, fun _ _ => 0)
def LawPure : Prop := ∀ (L : Nat) (sc : Nat → Int32), L ≤ 3584 → wp_X12_clearDesign (cm_X12_pre (cm_X11_init m00)) (fun m1 => wp_L_law_l18 L sc (fun r _ => r = 1) FU 0 (cm_X12_post m1))
theorem arr_cls {args : Array Value} {s : State} {ty : FieldType} (h : (Cond.arrayClass ty).before args s = true) (hno : ∀ C, ty ≠ .object C) : ∃ cA : ClassId, ArrOfT s cA ty ∧ va_RA s cA ty := by
  obtain ⟨c, k, comp, h1, h2, h3⟩ := Cond.arrayClass_spec h
  refine ⟨c, fun n z => ⟨fun k h => (by cases h), k, h2, comp, h3⟩, ?_⟩
  cases ty with
  | object C => exact absurd rfl (hno C)
  | _ => exact h1
theorem arr_obj {args : Array Value} {s : State} {C : String} (h : (Cond.arrayOver (.object C)).before args s = true) : ∃ cA : ClassId, ArrOfT s cA (.object C) ∧ va_RA s cA (.object C) := by
  obtain ⟨comp, c, k, h1, -, h3, h4, h5⟩ := Cond.arrayOver_spec h
  exact ⟨c, fun n z => ⟨fun k h => (by cases h), k, h3, comp, h4⟩, k, comp, h3, h4, h1, h5⟩
theorem arr_arr {args : Array Value} {s : State} {t : FieldType} (h : (Cond.arrayOver (.array t)).before args s = true) : ∃ cA : ClassId, ArrOfT s cA (.array t) ∧ va_RA s cA (.array t) := by
  obtain ⟨comp, c, k, h1, -, h3, h4, h5⟩ := arrayOverA_spec h
  exact ⟨c, fun n z => ⟨fun k h => (by cases h), k, h3, comp, h4⟩, h5⟩
theorem sz_one {args : Array Value} {s : State} {A : Nat → Prop} {C n : String} {f : Nat → Int32} (hl : (Cond.laysStatic C n "[I").before args s = true) (hini : (Cond.initialized C).before args s = true) (harr : (Cond.arrayOf (.static C n "[I") .int).before args s = true) (hlen : (Cond.eq (.length (.static C n "[I")) (.int 4)).before args s = true)
    (h0 : (Cond.eq (.elem (.static C n "[I") (.int 0)) (.int (f 0))).before args s = true) (h1 : (Cond.eq (.elem (.static C n "[I") (.int 1)) (.int (f 1))).before args s = true) (h2 : (Cond.eq (.elem (.static C n "[I") (.int 2)) (.int (f 2))).before args s = true) (h3 : (Cond.eq (.elem (.static C n "[I") (.int 3)) (.int (f 3))).before args s = true) (hA : ∀ a : Nat, a < s.heap.size → ¬ A a) :
    ∃ t : Nat, va_Z C n "[I" (.ref t) A s s.heap ∧ va_T .int t 4 (fun j => .int (f j)) A s s.heap := by
  obtain ⟨t, ht, hT⟩ := va_Tof (tm := .static C n "[I") (ty := .int) (N := 4) (f := fun j => .int (f j)) (A := A) (by decide) harr (va_eqt hlen) (fun j hj => by
    rcases (show j = 0 ∨ j = 1 ∨ j = 2 ∨ j = 3 by omega) with rfl | rfl | rfl | rfl
    · exact va_eqt h0
    · exact va_eqt h1
    · exact va_eqt h2
    · exact va_eqt h3) hA
  exact ⟨t, va_Zof hl hini ht hA, hT⟩
theorem cw0 : cw (m00, (fun _ _ => none), 0) := ⟨fun b k c h => (by cases h), fun b k _ => ⟨rfl, rfl, rfl⟩⟩

set_option maxHeartbeats 8000000 in
set_option maxRecDepth 100000 in
theorem whole_start_of (hP : LawPure) {p : Program} {e : Env} {s : State} {m : MethodId} {below : List Frame} {meth : Method} {c : Code} (l : Launch) {b L : Nat} {sc : Nat → Int32} (hL : L ≤ 3584) (C0 : lw_At p s m meth c b L sc) : W p l e room_1 s m #[Value.ref b] below meth c s.heap [] 0 0 (lw_Z below #[Value.ref b] s) (entryFrame m ([Value.ref b] : List Value).toArray 4) := by
  obtain ⟨hx, hb, hr, hml, hown, hts, hXs, hbl, hlocks, hgv⟩ := id C0
  have hg := flat_of_before _ hgv
  have hA : ∀ a : Nat, a < s.heap.size → ¬ (fun q : Nat => s.heap.size ≤ q) a := fun a h q => absurd q (Nat.not_le.mpr h)
  obtain ⟨t0, hZ0, hT0⟩ := sz_one (A := fun q : Nat => s.heap.size ≤ q) (C := "DieLineChecker$Pose") (n := "SIDE_BEGIN") (f := szv 0) (hts _ (mt_4 (List.mem_of_getElem? (i := 103) rfl))) (hts _ (mt_1 (List.mem_of_getElem? (i := 12) rfl))) (hg _ (by decide +kernel)) (hg _ (by decide +kernel)) (hg _ (by decide +kernel)) (hg _ (by decide +kernel)) (hg _ (by decide +kernel)) (hg _ (by decide +kernel)) hA
  obtain ⟨t1, hZ1, hT1⟩ := sz_one (A := fun q : Nat => s.heap.size ≤ q) (C := "DieLineChecker$Pose") (n := "SIDE_END") (f := szv 1) (hts _ (mt_4 (List.mem_of_getElem? (i := 105) rfl))) (hts _ (mt_1 (List.mem_of_getElem? (i := 12) rfl))) (hg _ (by decide +kernel)) (hg _ (by decide +kernel)) (hg _ (by decide +kernel)) (hg _ (by decide +kernel)) (hg _ (by decide +kernel)) (hg _ (by decide +kernel)) hA
  obtain ⟨t2, hZ2, hT2⟩ := sz_one (A := fun q : Nat => s.heap.size ≤ q) (C := "DieLineChecker") (n := "OUT_X") (f := szv 2) (hts _ (mt_4 (List.mem_of_getElem? (i := 201) rfl))) (hts _ (mt_1 (List.mem_of_getElem? (i := 1) rfl))) (hg _ (by decide +kernel)) (hg _ (by decide +kernel)) (hg _ (by decide +kernel)) (hg _ (by decide +kernel)) (hg _ (by decide +kernel)) (hg _ (by decide +kernel)) hA
  obtain ⟨t3, hZ3, hT3⟩ := sz_one (A := fun q : Nat => s.heap.size ≤ q) (C := "DieLineChecker") (n := "OUT_Y") (f := szv 3) (hts _ (mt_4 (List.mem_of_getElem? (i := 203) rfl))) (hts _ (mt_1 (List.mem_of_getElem? (i := 1) rfl))) (hg _ (by decide +kernel)) (hg _ (by decide +kernel)) (hg _ (by decide +kernel)) (hg _ (by decide +kernel)) (hg _ (by decide +kernel)) (hg _ (by decide +kernel)) hA
  obtain ⟨c0, iS0, hKn0⟩ := u_known (C := RX0) (T := TX0) (N := 11) (n := 11) hts inX0 (hts (.instantiable RX0 11) (mt_2 (List.mem_of_getElem? (i := 23) rfl)))
  obtain ⟨c1, iS1, hKn1⟩ := u_known (C := RX1) (T := TX1) (N := 2) (n := 2) hts inX1 (hts (.instantiable RX1 2) (mt_1 (List.mem_of_getElem? (i := 228) rfl)))
  obtain ⟨c2, iS2, hKn2⟩ := u_known (C := RX2) (T := TX2) (N := 3) (n := 3) hts inX2 (hts (.instantiable RX2 3) (mt_1 (List.mem_of_getElem? (i := 234) rfl)))
  obtain ⟨c3, iS3, hKn3⟩ := u_known (C := RX3) (T := TX3) (N := 7) (n := 7) hts inX3 (hts (.instantiable RX3 7) (mt_1 (List.mem_of_getElem? (i := 24) rfl)))
  obtain ⟨c4, iS4, hKn4⟩ := u_known (C := RX4) (T := TX4) (N := 8) (n := 8) hts inX4 (hts (.instantiable RX4 8) (mt_2 (List.mem_of_getElem? (i := 17) rfl)))
  obtain ⟨c5, iS5, hKn5⟩ := u_known (C := RX5) (T := TX5) (N := 5) (n := 5) hts inX5 (hts (.instantiable RX5 5) (mt_2 (List.mem_of_getElem? (i := 35) rfl)))
  obtain ⟨c6, iS6, hKn6⟩ := u_known (C := RX6) (T := TX6) (N := 5) (n := 5) hts inX6 (hts (.instantiable RX6 5) (mt_1 (List.mem_of_getElem? (i := 165) rfl)))
  obtain ⟨c7, iS7, hKn7⟩ := u_known (C := RX7) (T := TX7) (N := 15) (n := 15) hts inX7 (hts (.instantiable RX7 15) (mt_1 (List.mem_of_getElem? (i := 31) rfl)))
  obtain ⟨c8, iS8, hKn8⟩ := u_known (C := RX8) (T := TX8) (N := 14) (n := 14) hts inX8 (hts (.instantiable RX8 14) (mt_2 (List.mem_of_getElem? (i := 42) rfl)))
  obtain ⟨c9, iS9, hKn9⟩ := u_known (C := RX9) (T := TX9) (N := 8) (n := 8) hts inX9 (hts (.instantiable RX9 8) (mt_1 (List.mem_of_getElem? (i := 193) rfl)))
  obtain ⟨c10, iS10, hKn10⟩ := u_known (C := RX10) (T := TX10) (N := 9) (n := 9) hts inX10 (hts (.instantiable RX10 9) (mt_2 (List.mem_of_getElem? (i := 29) rfl)))
  obtain ⟨c11, iS11, hKn11⟩ := u_known (C := RX11) (T := TX11) (N := 16) (n := 16) hts inX11 (hts (.instantiable RX11 16) (mt_1 (List.mem_of_getElem? (i := 16) rfl)))
  obtain ⟨c12, iS12, hKn12⟩ := u_known (C := RX12) (T := TX12) (N := 30) (n := 30) hts inX12 (hts (.instantiable RX12 30) (mt_6 (List.mem_of_getElem? (i := 200) rfl)))
  obtain ⟨g0, hg0⟩ := arr_cls (ty := .int) (hts _ (mt_1 (List.mem_of_getElem? (i := 132) rfl))) (fun C h => by cases h)
  obtain ⟨g1, hg1⟩ := arr_cls (ty := .boolean) (hts _ (mt_1 (List.mem_of_getElem? (i := 191) rfl))) (fun C h => by cases h)
  obtain ⟨g2, hg2⟩ := arr_cls (ty := .long) (hts _ (mt_2 (List.mem_of_getElem? (i := 217) rfl))) (fun C h => by cases h)
  have ao3 := hts (.arrayOver (.object "DieLineChecker$Panel")) (mt_1 (List.mem_of_getElem? (i := 30) rfl))
  have ao4 := hts (.arrayOver (.object "DieLineChecker$Design")) (mt_1 (List.mem_of_getElem? (i := 163) rfl))
  have ao5 := hts (.arrayOver (.object "DieLineChecker$Pose")) (mt_2 (List.mem_of_getElem? (i := 41) rfl))
  have ao6 := hts (.arrayOver (.array .int)) (mt_1 (List.mem_of_getElem? (i := 172) rfl))
  obtain ⟨g3, hg3⟩ := arr_obj ao3
  obtain ⟨g4, hg4⟩ := arr_obj ao4
  obtain ⟨g5, hg5⟩ := arr_obj ao5
  obtain ⟨g6, hg6⟩ := arr_arr ao6
  obtain ⟨dC, dI, hKc⟩ : ∃ (dC : Nat → ClassId) (dI : Nat → Nat → Nat), ∀ (k : Nat) (q : vw_C), vwCl[k]? = some q → u_Kn s q.1 q.2.1 q.2.2 (dC k) (dI k) := by
    refine ⟨fun k => ([c0, c1, c2, c3, c4, c5, c6, c7, c8, c9, c10, c11, c12] : List ClassId).getD k 0, fun k => ([iS0, iS1, iS2, iS3, iS4, iS5, iS6, iS7, iS8, iS9, iS10, iS11, iS12] : List (Nat → Nat)).getD k (fun _ => 0), ?_⟩
    intro k q hq
    match k, hq with
    | 0, hq => cases hq; exact hKn0
    | 1, hq => cases hq; exact hKn1
    | 2, hq => cases hq; exact hKn2
    | 3, hq => cases hq; exact hKn3
    | 4, hq => cases hq; exact hKn4
    | 5, hq => cases hq; exact hKn5
    | 6, hq => cases hq; exact hKn6
    | 7, hq => cases hq; exact hKn7
    | 8, hq => cases hq; exact hKn8
    | 9, hq => cases hq; exact hKn9
    | 10, hq => cases hq; exact hKn10
    | 11, hq => cases hq; exact hKn11
    | 12, hq => cases hq; exact hKn12
    | k + 13, hq => simp [vwCl] at hq
  have hK : va_K (dC, dI) vwCl [(g0, .int), (g1, .boolean), (g2, .long), (g3, .object "DieLineChecker$Panel"), (g4, .object "DieLineChecker$Design"), (g5, .object "DieLineChecker$Pose"), (g6, .array .int)] s := by
    refine ⟨hKc, fun k q hq => ?_⟩
    match k, hq with
    | 0, hq => cases hq; exact hg0
    | 1, hq => cases hq; exact hg1
    | 2, hq => cases hq; exact hg2
    | 3, hq => cases hq; exact hg3
    | 4, hq => cases hq; exact hg4
    | 5, hq => cases hq; exact hg5
    | 6, hq => cases hq; exact hg6
    | k + 7, hq => simp at hq
  have hTB : TB s := by
    refine ⟨fun z hz => ?_, ao3, ao4, ao5, ao6⟩
    have h1 := hts z (List.mem_filter.mp hz).1
    have h2 := (List.mem_filter.mp hz).2
    cases z <;> first | exact va_Nw.of rfl h1 | (cases h2; done)
  have hSZ : SZ ((l, s.heap.size, (dC, dI), (fun k => ([g0, g1, g2, g3, g4, g5, g6] : List ClassId).getD k 0), fun k => ([t0, t1, t2, t3] : List Nat).getD k 0) : GT) s s.heap := by
    intro k hk
    match k, hk with
    | 0, _ => exact ⟨hZ0, hT0⟩
    | 1, _ => exact ⟨hZ1, hT1⟩
    | 2, _ => exact ⟨hZ2, hT2⟩
    | 3, _ => exact ⟨hZ3, hT3⟩
    | k + 4, hk => omega
  obtain ⟨G, eG⟩ : ∃ G : GT, G = ((l, s.heap.size, (dC, dI), (fun k => ([g0, g1, g2, g3, g4, g5, g6] : List ClassId).getD k 0), fun k => ([t0, t1, t2, t3] : List Nat).getD k 0) : GT) := ⟨_, rfl⟩
  have hSZ : SZ G s s.heap := by rw [eG]; exact hSZ
  have hK : va_K G.2.2.1 vwCl (tyO G) s := by rw [eG]; exact hK
  have eB : G.2.1 = s.heap.size := by rw [eG]
  have eL : G.1 = l := by rw [eG]
  obtain ⟨X, eX⟩ : ∃ X : XT, X = (G, p, e, room_1, s, m, #[Value.ref b], below, meth, c, lw_Z below #[Value.ref b] s) := ⟨_, rfl⟩
  have hX : Cx X code 4 RL room_1 := by
    rw [eX]
    exact ⟨hx, hb, hml, hown, fun z hz => hts z (List.mem_filter.mp hz).1, hK, hSZ, by show G.2.1 ≤ _; rw [eB]; exact Nat.le_refl _, hTB, rfl⟩
  have hB : LB X b L sc := by rw [eX]; exact ⟨hXs, hbl, fun q => by have q : G.2.1 ≤ b := q; omega⟩
  have hR : LR X b (fun r _ => r = 1) := by rw [eX]; exact ⟨rfl, rfl, hr, hlocks, eB, fun r m h => h⟩
  have hc := cw0
  have key : J X (0, 0) 0 [(0, .ref b)] [] (m00, (fun _ _ => none), 0, fun _ => 0) := by
    refine J_new hX dL_law_0 kn_RL_7 hc kx_0 (by decide) (nf := 16) rfl ⟨Nat.le_of_ble_eq_true rfl, Nat.le_of_ble_eq_true rfl⟩ (fun ad1 hg1 => ?_)
    replace hc := hc.N (n := 1) (by omega)
    show J X (1, 16) 3 [(0, .ref b)] [.ref (ad1 0)] (m00, (fun _ _ => none), 1, ad1)
    refine J_dup hX dL_law_3 rfl ?_
    refine J_cI hX (k_X11_init m00 (fun _ _ => none) ad1 hc) km_X11_init rfl (mt_1 (List.mem_of_getElem? (i := 18) rfl)) kl_RL_9 dL_law_4 ⟨rfl, rfl⟩ ⟨Nat.le_of_ble_eq_true rfl, Nat.le_of_ble_eq_true rfl⟩ ⟨Nat.le_of_ble_eq_true rfl, Nat.le_of_ble_eq_true rfl⟩ rfl rfl (Nat.le_of_ble_eq_true rfl) (fun v w2 hk => ?_)
    obtain ⟨rfl, ad2, hg2, hc, rfl⟩ := hk
    refine J_re (lv2 := [(0, .ref b)]) (st2 := [.ref (ad2 0)]) rfl (by (try rw [hg2 0 (by omega)]); (try rfl)) ?_
    show J X (426, 8558) 7 [(0, .ref b)] [.ref (ad2 0)] (cm_X11_init m00, RX0c, 426, ad2)
    refine J_astore_n (lv2 := [(1, .ref (ad2 0)), (0, .ref b)]) hX dL_law_7 rfl (Nat.le_of_ble_eq_true rfl) rfl ?_
    refine J_new hX dL_law_8 kn_RL_10 hc kx_426 (by decide) (nf := 30) rfl ⟨Nat.le_of_ble_eq_true rfl, Nat.le_of_ble_eq_true rfl⟩ (fun ad3 hg3 => ?_)
    replace hc := hc.N (n := 427) (by omega)
    refine J_re (lv2 := [(1, .ref (ad3 0)), (0, .ref b)]) (st2 := [.ref (ad3 426)]) (by (try rw [hg3 0 (by omega)]); (try rfl)) rfl ?_
    show J X (427, 8588) 11 [(1, .ref (ad3 0)), (0, .ref b)] [.ref (ad3 426)] (cm_X11_init m00, RX0c, 427, ad3)
    refine J_dup hX dL_law_11 rfl ?_
    refine J_cI hX (k_X12_init (cm_X11_init m00) ad3 _ (hP L sc hL) hc) km_X12_init rfl (mt_6 (List.mem_of_getElem? (i := 202) rfl)) kl_RL_12 dL_law_12 ⟨rfl, rfl⟩ ⟨Nat.le_of_ble_eq_true rfl, Nat.le_of_ble_eq_true rfl⟩ ⟨Nat.le_of_ble_eq_true rfl, Nat.le_of_ble_eq_true rfl⟩ rfl rfl (Nat.le_of_ble_eq_true rfl) (fun v w2 hk => ?_)
    obtain ⟨rfl, ad4, m2, hg4, rfl, h⟩ := hk
    refine J_re (lv2 := [(1, .ref (ad4 0)), (0, .ref b)]) (st2 := [.ref (ad4 426)]) (by (try rw [hg4 0 (by omega)]); (try rfl)) (by (try rw [hg4 426 (by omega)]); (try rfl)) ?_
    show J X (450, 28400) 15 [(1, .ref (ad4 0)), (0, .ref b)] [.ref (ad4 426)] (fl ad4 m2)
    refine J_astore_n (lv2 := [(2, .ref (ad4 426)), (1, .ref (ad4 0)), (0, .ref b)]) hX dL_law_15 rfl (Nat.le_of_ble_eq_true rfl) rfl ?_
    refine J_iconst (v := (0 : Int32)) hX dL_law_16 (by decide) ?_
    refine J_istore_n (lv2 := [(3, .int (0 : Int32)), (2, .ref (ad4 426)), (1, .ref (ad4 0)), (0, .ref b)]) hX dL_law_17 rfl (Nat.le_of_ble_eq_true rfl) rfl ?_
    exact J_sub [3, 2, 1, 0] rfl (t_L_law_l18 hX hB hR FU 0 m2 h)
  have hw0 : wd X.1 (m00, (fun _ _ => none), 0, fun _ => 0) s.heap := ⟨fun k z h => by simp [wsO] at h, fun i j x y h => by simp [wsO] at h, fun k z h => by simp [wsO] at h⟩
  have hle := lv_entry ([Value.ref b]) (n := 4) (Nat.le_of_ble_eq_true rfl)
  rw [lg_entry_eq]
  have hS0 : va_S (gA X.1) (xs X).heap s.heap [] := by rw [eX]; exact va_S.rf
  have hfin := key s.heap _ [] hw0 (by show lv_has _ (xc X).maxLocals _; rw [hX.2.2.1]; exact hle) hS0
  subst eX
  subst eL
  exact hfin
