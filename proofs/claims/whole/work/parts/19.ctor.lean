/-! rows of constructors: the world grows; references are written -/
abbrev Mc : Type := Mm × (Nat → Nat → Option Nat) × Nat
def wR (R : Nat → Nat → Option Nat) (a k b : Nat) : Nat → Nat → Option Nat := fun x j => if x = a then (if j = k then some b else R x j) else R x j
/-- references go below N, above it all is blank -/
def cw (x : Mc) : Prop := (∀ b k c, x.2.1 b k = some c → c < x.2.2 ∧ k < 32) ∧ ∀ b k, x.2.2 ≤ b → x.1.1 b k = 0 ∧ x.1.2 b k = 0 ∧ x.2.1 b k = none
theorem cw.I {m : Mm} {R : Nat → Nat → Option Nat} {N a k : Nat} {v : Int32} (h : cw (m, R, N)) (ha : a < N) : cw (wI m a k v, R, N) := by
  refine ⟨h.1, fun b j hb => ?_⟩
  have h2 := h.2 b j hb
  have hne : b ≠ a := by have : N ≤ b := hb; omega
  refine ⟨?_, h2.2⟩
  show upI m.1 a k v b j = 0
  rw [upI_b _ _ _ _ hne]
  exact h2.1
theorem cw.L {m : Mm} {R : Nat → Nat → Option Nat} {N a k : Nat} {v : Int64} (h : cw (m, R, N)) (ha : a < N) : cw (wL m a k v, R, N) := by
  refine ⟨h.1, fun b j hb => ?_⟩
  have h2 := h.2 b j hb
  have hne : b ≠ a := by have : N ≤ b := hb; omega
  refine ⟨h2.1, ?_, h2.2.2⟩
  show upL m.2 a k v b j = 0
  rw [upL_b _ _ _ _ hne]
  exact h2.2.1
theorem cw.R {m : Mm} {R : Nat → Nat → Option Nat} {N a k b : Nat} (h : cw (m, R, N)) (ha : a < N) (hb : b < N) (hk : k < 32) : cw (m, wR R a k b, N) := by
  refine ⟨fun x j c hc => ?_, fun x j hx => ?_⟩
  · change wR R a k b x j = some c at hc
    unfold wR at hc
    split at hc
    · split at hc
      · rename_i hj
        cases hc; exact ⟨hb, by omega⟩
      · exact h.1 x j c hc
    · exact h.1 x j c hc
  · have h2 := h.2 x j hx
    have hne : x ≠ a := by have : N ≤ x := hx; omega
    refine ⟨h2.1, h2.2.1, ?_⟩
    show wR R a k b x j = none
    unfold wR
    rw [if_neg hne]
    exact h2.2.2
theorem cw.N {m : Mm} {R : Nat → Nat → Option Nat} {N n : Nat} (h : cw (m, R, N)) (hn : N ≤ n) : cw (m, R, n) :=
  ⟨fun b k c hc => ⟨Nat.lt_of_lt_of_le (h.1 b k c hc).1 hn, (h.1 b k c hc).2⟩, fun b k hb => h.2 b k (Nat.le_trans hn hb)⟩
theorem ce_ad {G : GT} {m : Mm} {R : Nat → Nat → Option Nat} {N n : Nat} {ad ad2 : Nat → Nat} (h : ∀ b k c, R b k = some c → ad2 c = ad c) (b : Nat) : ce G (m, R, n, ad2) b = ce G (m, R, N, ad) b := by
  have hm : ∀ k, (R b k).map ad2 = (R b k).map ad := fun k => by
    cases hr : R b k with
    | none => rfl
    | some c => exact congrArg some (h b k c hr)
  have hf : fvs (m, R, n, ad2) b = fvs (m, R, N, ad) b := by
    unfold fvs fv
    congr 1
    funext k t
    show (if t = 0 then Value.int (m.1 b k) else if t = 1 then Value.long (m.2 b k) else va_rf ((R b k).map ad2)) = (if t = 0 then Value.int (m.1 b k) else if t = 1 then Value.long (m.2 b k) else va_rf ((R b k).map ad))
    rw [hm]
  unfold ce
  rw [hf]
  have h2 : (fun i => (R b i).map ad2) = fun i => (R b i).map ad := funext hm
  show (if kap b < 20 then _ else if kap b < 22 then _ else if kap b = 22 then _ else Sum.inl (_, _, Sum.inr (Sum.inr (Sum.inr (Sum.inr fun i => (R b i).map ad2))))) = _
  rw [h2]
def dfv (t : Nat) : Value := if t = 0 then .int 0 else if t = 1 then .long 0 else .null
def adN (ad : Nat → Nat) (N q : Nat) : Nat → Nat := fun b => if b = N then q else ad b
theorem adN_lt {ad : Nat → Nat} {N q b : Nat} (h : b < N) : adN ad N q b = ad b := if_neg (by omega)
theorem adN_s {ad : Nat → Nat} {N q : Nat} : adN ad N q N = q := if_pos rfl
theorem wsO_push {G : GT} {m : Mm} {R : Nat → Nat → Option Nat} {N q : Nat} {ad : Nat → Nat} (h : cw (m, R, N)) : wsO G (m, R, N + 1, adN ad N q) = wsO G (m, R, N, ad) ++ [(q, ce G (m, R, N + 1, adN ad N q) N)] := by
  unfold wsO
  show (List.range (N + 1)).map _ = (List.range N).map _ ++ _
  rw [List.range_succ, List.map_append]
  congr 1
  · apply List.map_congr_left
    intro b hb
    have hb2 : b < N := List.mem_range.mp hb
    show (adN ad N q b, _) = (ad b, _)
    rw [adN_lt hb2, ce_ad (N := N) (ad := ad) (fun b k c hc => adN_lt (h.1 b k c hc).1)]
  · show [(adN ad N q N, _)] = _
    rw [adN_s]
theorem J_re {X : XT} {q : Nat × Nat} {pc : Nat} {lv lv2 : List (Nat × Value)} {st st2 : List Value} {w : Mf} (h1 : lv = lv2) (h2 : st = st2) (kk : J X q pc lv2 st2 w) : J X q pc lv st w := by rw [h1, h2]; exact kk
section JK
variable {X : XT} {q : Nat × Nat} {pc : Nat} {lv : List (Nat × Value)} {st : List Value} {m : Mm} {R : Nat → Nat → Option Nat} {N : Nat} {ad : Nat → Nat} {cc : ByteArray} {nL : Nat} {own : String} {rm : Room}
theorem J_wid {a b : Nat} (h1 : q.1 ≤ a) (h2 : q.2 ≤ b) {w : Mf} (kk : J X (a, b) pc lv st w) : J X q pc lv st w := fun H ls locs hw hl hS => W.widen h1 h2 (kk H ls locs hw hl hS)
theorem hA_of (hX : Cx X cc nL own rm) : ∀ z, (xs X).heap.size ≤ z → gA X.1 z := fun z h => Nat.le_trans hX.2.2.2.2.2.2.2.1 h
theorem fvs_blank {c n : Nat} (hc : cw (m, R, N)) (hka : kap N = c) (j t : Nat) (hj : (fty c)[j]? = some t) {ad2 : Nat → Nat} : vp_V (fvs (m, R, n, ad2) N) j = dfv t := by
  have h := fvs_at (w := (m, R, n, ad2)) hka hj
  have h2 := hc.2 N j (Nat.le_refl N)
  unfold vp_V
  rw [List.getD_eq_getElem?_getD, h]
  show fv _ N j t = _
  unfold fv
  show (if t = 0 then Value.int (m.1 N j) else if t = 1 then Value.long (m.2 N j) else va_rf ((R N j).map ad2)) = _
  rw [show m.1 N j = 0 from h2.1, show m.2 N j = 0 from h2.2.1, show R N j = none from h2.2.2]
  rfl
/-- what 'new' wants of a class -/
def NOk (own : String) (index ci : Nat) : Prop := ∃ (C : String) (T : u_T) (Nf : Nat) (ty : Nat → FieldType), vwCl[ci]? = some (C, T, Nf) ∧ (∀ z ∈ u_ws C T Nf, z ∈ lw_tbl) ∧ (∀ j, j < Nf → parseFieldDescriptor (T j).2.2.1 = some (ty j)) ∧ Cond.classLink own index C ∈ lw_tbl ∧ Cond.instantiable C Nf ∈ lw_tbl ∧ Cond.initialized C ∈ lw_tbl ∧ (∀ j, j < Nf → defaultValue (ty j) = dfv ((fty ci).getD j 0)) ∧ (fty ci).length = Nf
theorem J_new (hX : Cx X cc nL own rm) {index ci : Nat} (hd : decode cc pc = .ok (.new index, 3)) (hN : NOk own index ci) (hc : cw (m, R, N)) (hka : kap N = ci) (hci : ci < 20) {nf : Nat} (hnf : (fty ci).length = nf) (hq : q.1 + 1 ≤ rm.cells ∧ q.2 + nf ≤ rm.slots)
    (kk : ∀ ad2 : Nat → Nat, (∀ b, b < N → ad2 b = ad b) → J X (q.1 + 1, q.2 + nf) (pc + 3) lv (.ref (ad2 N) :: st) (m, R, N + 1, ad2)) : J X q pc lv st (m, R, N, ad) := by
  intro H ls locs hw hl hS
  obtain ⟨C, T, Nf, ty, hcl, hin, hty, hlink, hinst, hini, hdf, hlen⟩ := hN
  have hnf2 : nf = Nf := by omega
  subst hnf2
  refine va_new (fs := fvs (m, R, N + 1, ad) N) hX.1 hX.2.1 hX.2.2.2.2.1 (fun z hz => lw_in (hin z hz) (u_ws_good z hz)) ty hty hX.2.2.2.1 (lw_okts hX hlink rfl) (lw_okts hX hinst rfl) (lw_okts hX hini rfl) hX.2.2.2.2.2.1 hw.1 hw.2 hS (hA_of hX) hcl (fun j hj => ?_) (by rw [hX.2.2.2.2.2.2.2.2.2]; exact hq.1) (by rw [hX.2.2.2.2.2.2.2.2.2]; exact hq.2) hd (fun r H1 hP hD hS1 => ?_)
  · have h1 : (fty ci)[j]? = some ((fty ci).getD j 0) := by
      rw [List.getD_eq_getElem?_getD, List.getElem?_eq_getElem (by omega)]; rfl
    rw [hdf j hj, fvs_blank hc hka j _ h1]
  · have hce : ce X.1 (m, R, N + 1, adN ad N r) N = .inr (ci, fvs (m, R, N + 1, ad) N) := by
      rw [ce_obj hka hci]
      have h3 : ce X.1 (m, R, N + 1, adN ad N r) N = ce X.1 (m, R, N + 1, ad) N := ce_ad (fun b k c hcc => adN_lt (hc.1 b k c hcc).1) N
      rw [ce_obj hka hci, ce_obj hka hci] at h3
      exact h3
    have hws := wsO_push (G := X.1) (q := r) (ad := ad) hc
    rw [hce] at hws
    rw [← hws] at hP hD
    have h := kk (adN ad N r) (fun b hb => adN_lt hb)
    rw [adN_s] at h
    exact h H1 ls locs ⟨hP, hD⟩ hl hS1
theorem va_RA_find {U : State} {cA : ClassId} {ty : FieldType} (h : va_RA U cA ty) : U.vm.findClass ("[" ++ ty.toString) = some cA := by
  cases ty with
  | object C => obtain ⟨kA, comp, h1, h2, h3, h4⟩ := h; exact h4
  | _ => exact h
theorem cA_eq {D : va_G} {tys : List (ClassId × FieldType)} {U : State} {cA cB : ClassId} {ty : FieldType} (h : va_K D vwCl (tys ++ [(cA, ty)]) U) {k : Nat} (hk : tys[k]? = some (cB, ty)) : cA = cB := by
  have h1 := va_RA_find (h.2 tys.length (cA, ty) (by simp)).2
  have hkl : k < tys.length := (List.getElem?_eq_some_iff.mp hk).1
  have h2 := va_RA_find (h.2 k (cB, ty) (by rw [List.getElem?_append_left hkl]; exact hk)).2
  exact Option.some.inj (h1.symm.trans h2)
theorem J_newaI (hX : Cx X cc nL own rm) {n : Int32} {Na : Nat} (hd : decode cc pc = .ok (.newarray .int, 2)) (hc : cw (m, R, N)) (hka : kap N = 20) (hlen : len N = Na) (hn : ¬ n < 0) (hN : n.toNatClampNeg = Na) (hb : Na * 4 ≤ 536870912) (hq : q.1 + 1 ≤ rm.cells ∧ q.2 + Na ≤ rm.slots)
    (kk : ∀ ad2 : Nat → Nat, (∀ b, b < N → ad2 b = ad b) → J X (q.1 + 1, q.2 + Na) (pc + 2) lv (.ref (ad2 N) :: st) (m, R, N + 1, ad2)) : J X q pc lv (.int n :: st) (m, R, N, ad) := by
  intro H ls locs hw hl hS
  refine va_newa (atype := .int) (ty := .int) (a0 := (Na, .inl (m.1 N))) hX.1 hX.2.1 (lw_okts hX (mt_1 (z := .arrayClass .int) (List.mem_of_getElem? (i := 132) rfl)) rfl) rfl hX.2.2.2.2.2.1 hw.1 hw.2 hS (hA_of hX) (fun cA => ?_) hn hN hb (by rw [hX.2.2.2.2.2.2.2.2.2]; exact hq.1) (by rw [hX.2.2.2.2.2.2.2.2.2]; exact hq.2) hd (fun r cA H1 hK1 hP hD hS1 => ?_)
  · rw [vp_cell_i]
    congr 1
    funext j
    rw [(hc.2 N j (Nat.le_refl N)).1]
    rfl
  · have e : cA = X.1.2.2.2.1 0 := cA_eq hK1 (k := 0) rfl
    subst e
    have hws := wsO_push (G := X.1) (q := r) (ad := ad) hc
    rw [ce_int hka hlen] at hws
    have hws2 : wsO X.1 (m, R, N + 1, adN ad N r) = wsO X.1 (m, R, N, ad) ++ [(r, .inl (X.1.2.2.2.1 0, Na, .inl (m.1 N)))] := hws
    rw [← hws2] at hP hD
    have h := kk (adN ad N r) (fun b hb => adN_lt hb)
    rw [adN_s] at h
    exact h H1 ls locs ⟨hP, hD⟩ hl hS1
theorem J_newaZ (hX : Cx X cc nL own rm) {n : Int32} {Na : Nat} (hd : decode cc pc = .ok (.newarray .boolean, 2)) (hc : cw (m, R, N)) (hka : kap N = 21) (hlen : len N = Na) (hn : ¬ n < 0) (hN : n.toNatClampNeg = Na) (hb : Na * 1 ≤ 536870912) (hq : q.1 + 1 ≤ rm.cells ∧ q.2 + Na ≤ rm.slots)
    (kk : ∀ ad2 : Nat → Nat, (∀ b, b < N → ad2 b = ad b) → J X (q.1 + 1, q.2 + Na) (pc + 2) lv (.ref (ad2 N) :: st) (m, R, N + 1, ad2)) : J X q pc lv (.int n :: st) (m, R, N, ad) := by
  intro H ls locs hw hl hS
  refine va_newa (atype := .boolean) (ty := .boolean) (a0 := (Na, .inl (m.1 N))) hX.1 hX.2.1 (lw_okts hX (mt_1 (z := .arrayClass .boolean) (List.mem_of_getElem? (i := 191) rfl)) rfl) rfl hX.2.2.2.2.2.1 hw.1 hw.2 hS (hA_of hX) (fun cA => ?_) hn hN hb (by rw [hX.2.2.2.2.2.2.2.2.2]; exact hq.1) (by rw [hX.2.2.2.2.2.2.2.2.2]; exact hq.2) hd (fun r cA H1 hK1 hP hD hS1 => ?_)
  · rw [vp_cell_i]
    congr 1
    funext j
    rw [(hc.2 N j (Nat.le_refl N)).1]
    rfl
  · have e : cA = X.1.2.2.2.1 1 := cA_eq hK1 (k := 1) rfl
    subst e
    have hws := wsO_push (G := X.1) (q := r) (ad := ad) hc
    rw [ce_boo hka hlen] at hws
    have hws2 : wsO X.1 (m, R, N + 1, adN ad N r) = wsO X.1 (m, R, N, ad) ++ [(r, .inl (X.1.2.2.2.1 1, Na, .inl (m.1 N)))] := hws
    rw [← hws2] at hP hD
    have h := kk (adN ad N r) (fun b hb => adN_lt hb)
    rw [adN_s] at h
    exact h H1 ls locs ⟨hP, hD⟩ hl hS1
theorem J_newaL (hX : Cx X cc nL own rm) {n : Int32} {Na : Nat} (hd : decode cc pc = .ok (.newarray .long, 2)) (hc : cw (m, R, N)) (hka : kap N = 22) (hlen : len N = Na) (hn : ¬ n < 0) (hN : n.toNatClampNeg = Na) (hb : Na * 8 ≤ 536870912) (hq : q.1 + 1 ≤ rm.cells ∧ q.2 + Na ≤ rm.slots)
    (kk : ∀ ad2 : Nat → Nat, (∀ b, b < N → ad2 b = ad b) → J X (q.1 + 1, q.2 + Na) (pc + 2) lv (.ref (ad2 N) :: st) (m, R, N + 1, ad2)) : J X q pc lv (.int n :: st) (m, R, N, ad) := by
  intro H ls locs hw hl hS
  refine va_newa (atype := .long) (ty := .long) (a0 := (Na, .inr (.inl (m.2 N)))) hX.1 hX.2.1 (lw_okts hX (mt_2 (z := .arrayClass .long) (List.mem_of_getElem? (i := 217) rfl)) rfl) rfl hX.2.2.2.2.2.1 hw.1 hw.2 hS (hA_of hX) (fun cA => ?_) hn hN hb (by rw [hX.2.2.2.2.2.2.2.2.2]; exact hq.1) (by rw [hX.2.2.2.2.2.2.2.2.2]; exact hq.2) hd (fun r cA H1 hK1 hP hD hS1 => ?_)
  · rw [vp_cell_l]
    congr 1
    funext j
    rw [(hc.2 N j (Nat.le_refl N)).2.1]
    rfl
  · have e : cA = X.1.2.2.2.1 2 := cA_eq hK1 (k := 2) rfl
    subst e
    have hws := wsO_push (G := X.1) (q := r) (ad := ad) hc
    rw [ce_lon hka hlen] at hws
    have hws2 : wsO X.1 (m, R, N + 1, adN ad N r) = wsO X.1 (m, R, N, ad) ++ [(r, .inl (X.1.2.2.2.1 2, Na, .inr (.inl (m.2 N))))] := hws
    rw [← hws2] at hP hD
    have h := kk (adN ad N r) (fun b hb => adN_lt hb)
    rw [adN_s] at h
    exact h H1 ls locs ⟨hP, hD⟩ hl hS1
def ckC (u : Nat) : String := if u = 0 then "DieLineChecker$Panel" else if u = 1 then "DieLineChecker$Design" else "DieLineChecker$Pose"
theorem J_newq (hX : Cx X cc nL own rm) {index u : Nat} {n : Int32} {Na : Nat} (hd : decode cc pc = .ok (.anewarray index, 3)) (hu : u < 3) (hlink : Cond.classLink own index (ckC u) ∈ lw_tbl) (hc : cw (m, R, N)) (hka : kap N = 23 + u) (hlen : len N = Na) (hn : ¬ n < 0) (hN : n.toNatClampNeg = Na) (hb : Na * 4 ≤ 536870912) (hq : q.1 + 1 ≤ rm.cells ∧ q.2 + Na ≤ rm.slots)
    (kk : ∀ ad2 : Nat → Nat, (∀ b, b < N → ad2 b = ad b) → J X (q.1 + 1, q.2 + Na) (pc + 3) lv (.ref (ad2 N) :: st) (m, R, N + 1, ad2)) : J X q pc lv (.int n :: st) (m, R, N, ad) := by
  intro H ls locs hw hl hS
  have hTB := hX.2.2.2.2.2.2.2.2.1
  have hover : va_AO (ckC u) (xs X) := by
    rcases (show u = 0 ∨ u = 1 ∨ u = 2 by omega) with rfl | rfl | rfl
    · exact hTB.2.1
    · exact hTB.2.2.1
    · exact hTB.2.2.2.1
  have htk : (tyO X.1)[3 + u]? = some (X.1.2.2.2.1 (3 + u), .object (ckC u)) := by
    rcases (show u = 0 ∨ u = 1 ∨ u = 2 by omega) with rfl | rfl | rfl <;> rfl
  refine va_newq hX.1 hX.2.1 hX.2.2.2.1 (lw_okts hX hlink rfl) hover hX.2.2.2.2.2.1 hw.1 hw.2 hS (hA_of hX) hn hN hb (by rw [hX.2.2.2.2.2.2.2.2.2]; exact hq.1) (by rw [hX.2.2.2.2.2.2.2.2.2]; exact hq.2) hd (fun r cA H1 hK1 hP hD hS1 => ?_)
  have e : cA = X.1.2.2.2.1 (3 + u) := cA_eq hK1 htk
  subst e
  have hws := wsO_push (G := X.1) (q := r) (ad := ad) hc
  rw [ce_ref hka hlen] at hws
  have hz : (fun i => ((m, R, N + 1, adN ad N r) : Mf).2.1 N i |>.map ((m, R, N + 1, adN ad N r) : Mf).2.2.2) = fun _ => none := by
    funext i
    show (R N i).map _ = none
    rw [show R N i = none from (hc.2 N i (Nat.le_refl N)).2.2]
    rfl
  rw [hz] at hws
  rw [← hws] at hP hD
  have h := kk (adN ad N r) (fun b hb => adN_lt hb)
  rw [adN_s] at h
  exact h H1 ls locs ⟨hP, hD⟩ hl hS1
/-- one more writing of an int -/
theorem ce_cI {G : GT} {a k b : Nat} {x : Int32} (h : b ≠ a) : ce G (wI m a k x, R, N, ad) b = ce G (m, R, N, ad) b := ce_fo (upI_b _ _ _ _ h) rfl rfl rfl
theorem J_putIc (hX : Cx X cc nL own rm) {index ci k a : Nat} (F : FOk own index ci k false .int) (hd : decode cc pc = .ok (.putfield index, 3)) (hka : kap a = ci) (hci : ci < 20) (hs : (fty ci)[k]? = some 0) (ha : a < N) {r : Nat} (hr : ad a = r) {x : Int32} (kk : J X q (pc + 3) lv st (wI m a k x, R, N, ad)) : J X q pc lv (.int x :: .ref r :: st) (m, R, N, ad) := by
  refine J_putG hX F hd hka hci hs ha hr rfl (fits_int x) (w2 := (wI m a k x, R, N, ad)) rfl ?_ (fun j u hj => ?_) (fun b hb => ce_cI hb) kk
  · show Value.int (upI m.1 a k x a k) = _
    rw [upI_s]
  · unfold fv
    show (if u = 0 then Value.int (upI m.1 a k x a j) else _) = _
    rw [upI_j _ _ _ _ hj]
    rfl
theorem J_putZc (hX : Cx X cc nL own rm) {index ci k a : Nat} (F : FOk own index ci k false .boolean) (hd : decode cc pc = .ok (.putfield index, 3)) (hka : kap a = ci) (hci : ci < 20) (hs : (fty ci)[k]? = some 0) (ha : a < N) {r : Nat} (hr : ad a = r) {x : Int32} (hx : bo x) (kk : J X q (pc + 3) lv st (wI m a k x, R, N, ad)) : J X q pc lv (.int x :: .ref r :: st) (m, R, N, ad) := by
  refine J_putG hX F hd hka hci hs ha hr (by show Value.int (x &&& 1) = _; rw [bo_and hx]) (fits_boo x hx) (w2 := (wI m a k x, R, N, ad)) rfl ?_ (fun j u hj => ?_) (fun b hb => ce_cI hb) kk
  · show Value.int (upI m.1 a k x a k) = _
    rw [upI_s]
  · unfold fv
    show (if u = 0 then Value.int (upI m.1 a k x a j) else _) = _
    rw [upI_j _ _ _ _ hj]
    rfl
theorem J_putLc (hX : Cx X cc nL own rm) {index ci k a : Nat} (F : FOk own index ci k false .long) (hd : decode cc pc = .ok (.putfield index, 3)) (hka : kap a = ci) (hci : ci < 20) (hs : (fty ci)[k]? = some 1) (ha : a < N) {r : Nat} (hr : ad a = r) {x : Int64} (kk : J X q (pc + 3) lv st (wL m a k x, R, N, ad)) : J X q pc lv (.long x :: .ref r :: st) (m, R, N, ad) := by
  refine J_putG hX F hd hka hci hs ha hr rfl (fits_lon x) (w2 := (wL m a k x, R, N, ad)) rfl ?_ (fun j u hj => ?_) (fun b hb => ce_fo rfl (upL_b _ _ _ _ hb) rfl rfl) kk
  · show Value.long (upL m.2 a k x a k) = _
    rw [upL_s]
  · unfold fv
    show (if u = 0 then _ else if u = 1 then Value.long (upL m.2 a k x a j) else _) = _
    rw [upL_j _ _ _ _ hj]
    rfl
theorem wR_s (R : Nat → Nat → Option Nat) (a k b : Nat) : wR R a k b a k = some b := by simp [wR]
theorem wR_j (R : Nat → Nat → Option Nat) (a k b : Nat) {j : Nat} (h : j ≠ k) : wR R a k b a j = R a j := by simp [wR, h]
theorem wR_b (R : Nat → Nat → Option Nat) (a k b : Nat) {x : Nat} (h : x ≠ a) : wR R a k b x = R x := by funext j; simp [wR, h]
/-- a final field that holds a reference -/
theorem J_putRF (hX : Cx X cc nL own rm) (hin : (xh X).name = "<init>") {index ci k a b : Nat} {t : FieldType} (F : FOk own index ci k true t) (hown : ∃ T Nf, vwCl[ci]? = some (own, T, Nf)) (hd : decode cc pc = .ok (.putfield index, 3)) (hka : kap a = ci) (hci : ci < 20) (hs : (fty ci)[k]? = some 2) (ha : a < N) {r r2 : Nat} (hr : ad a = r) (hr2 : ad b = r2) (hn : narrow t (.ref r2) = .ref r2) (hf : fits t (.ref r2) = true) (kk : J X q (pc + 3) lv st (m, wR R a k b, N, ad)) : J X q pc lv (.ref r2 :: .ref r :: st) (m, R, N, ad) := by
  intro H ls locs hw hl hS
  obtain ⟨C, T, Nf, ty, hcl, hin2, hty, hnm, hk, hlink, hfin, ht, hC⟩ := F
  obtain ⟨T2, Nf2, hown⟩ := hown
  have hCo : C = own := by have := hcl.symm.trans hown; simp at this; exact this.1
  subst hr
  subst hr2
  have he : (wsO X.1 (m, R, N, ad))[a]? = some (ad a, .inr (ci, fvs (m, R, N, ad) a)) := by
    have h := wsO_at (G := X.1) (w := (m, R, N, ad)) ha
    rw [ce_obj hka hci] at h
    exact h
  have hset : (wsO X.1 (m, R, N, ad)).set a (ad a, .inr (ci, (fvs (m, R, N, ad) a).set k (.ref (ad b)))) = wsO X.1 (m, wR R a k b, N, ad) := by
    rw [fvs_set (w := (m, R, N, ad)) (w' := (m, wR R a k b, N, ad)) (.ref (ad b)) (fun u hu => ?_) (fun j u hj => ?_), ← ce_obj (G := X.1) hka hci]
    · exact wsO_set (w := (m, R, N, ad)) (w' := (m, wR R a k b, N, ad)) rfl (fun x hx => ce_fo rfl rfl (wR_b _ _ _ _ hx) rfl)
    · rw [hka, hs] at hu
      cases hu
      show va_rf ((wR R a k b a k).map ad) = _
      rw [wR_s]
      rfl
    · unfold fv
      show (if u = 0 then _ else if u = 1 then _ else va_rf ((wR R a k b a j).map ad)) = _
      rw [wR_j _ _ _ _ hj]
  have hlk : k < (fvs (m, R, N, ad) a).length := by
    have h3 := fvs_at (w := (m, R, N, ad)) hka hs
    exact (List.getElem?_eq_some_iff.mp h3).1
  refine va_putF hX.1 hX.2.1 hX.2.2.2.2.1 (fun z hz => lw_in (hin2 z hz) (u_ws_good z hz)) ty hty hnm hX.2.2.2.1 hX.2.2.2.2.2.1 hw.1 hw.2 hS a he hcl k hk (lw_okts hX hlink rfl) (fun x h => h) hfin hin (by rw [hC, hCo]) (ty := t) (by rw [hty k hk, ht]) hn hf hlk hd (fun H1 locs1 hP hD hS1 => ?_)
  rw [hset] at hP hD
  exact kk H1 ls locs1 ⟨hP, hD⟩ hl hS1
theorem J_iastc (hX : Cx X cc nL own rm) {a n : Nat} (hd : decode cc pc = .ok (.iastore, 1)) (hka : kap a = 20) (hn : len a = n) (ha : a < N) {r : Nat} (hr : ad a = r) {i x : Int32} (hin : vp_in i n) {j : Nat} (hj : i.toNatClampNeg = j) (kk : J X q (pc + 1) lv st (wI m a j x, R, N, ad)) : J X q pc lv (.int x :: .int i :: .ref r :: st) (m, R, N, ad) := by
  subst hj
  subst hr
  intro H ls locs hw hl hS
  have he : (wsO X.1 (m, R, N, ad))[a]? = some (ad a, .inl (X.1.2.2.2.1 0, n, .inl (m.1 a))) := by
    have h := wsO_at (G := X.1) (w := (m, R, N, ad)) ha
    rw [ce_int hka hn] at h
    exact h
  refine va_iast hX.1 hX.2.1 hX.2.2.2.2.2.1 hw.1 hw.2 hS a 0 he rfl hin hd (fun H1 locs1 hP hD hS1 => ?_)
  have hset : (wsO X.1 (m, R, N, ad)).set a (ad a, .inl (X.1.2.2.2.1 0, n, .inl (upd (m.1 a) i.toNatClampNeg x))) = wsO X.1 (wI m a i.toNatClampNeg x, R, N, ad) := by
    rw [← wsO_set (G := X.1) (w := (m, R, N, ad)) (w' := (wI m a i.toNatClampNeg x, R, N, ad)) (a := a) rfl (fun b hb => ce_cI hb), ce_int hka hn]
    show _ = (wsO X.1 (m, R, N, ad)).set a (_, .inl (_, _, .inl (upI m.1 a i.toNatClampNeg x a)))
    rw [upI_a]
  rw [hset] at hP hD
  exact kk H1 ls locs1 ⟨hP, hD⟩ hl hS1
theorem J_aastc (hX : Cx X cc nL own rm) {a b n u ci : Nat} (hd : decode cc pc = .ok (.aastore, 1)) (hu : u < 3) (hka : kap a = 23 + u) (hn : len a = n) (ha : a < N) {r r2 : Nat} (hr : ad a = r) (hr2 : ad b = r2) (hkb : kap b = ci) (hci : ci < 20) (hcl : ∃ T Nf, vwCl[ci]? = some (ckC u, T, Nf)) (hb : b < N) {i : Int32} (hin : vp_in i n) {j : Nat} (hj : i.toNatClampNeg = j) (kk : J X q (pc + 1) lv st (m, wR R a j b, N, ad)) : J X q pc lv (.ref r2 :: .int i :: .ref r :: st) (m, R, N, ad) := by
  subst hj
  subst hr
  subst hr2
  intro H ls locs hw hl hS
  obtain ⟨T, Nf, hcl⟩ := hcl
  have he : (wsO X.1 (m, R, N, ad))[a]? = some (ad a, .inl (X.1.2.2.2.1 (3 + u), n, .inr (.inr (.inr (.inr (fun i => (R a i).map ad)))))) := by
    have h := wsO_at (G := X.1) (w := (m, R, N, ad)) ha
    rw [ce_ref hka hn] at h
    exact h
  have hv : (wsO X.1 (m, R, N, ad))[b]? = some (ad b, .inr (ci, fvs (m, R, N, ad) b)) := by
    have h := wsO_at (G := X.1) (w := (m, R, N, ad)) hb
    rw [ce_obj hkb hci] at h
    exact h
  have htk : (tyO X.1)[3 + u]? = some (X.1.2.2.2.1 (3 + u), .object (ckC u)) := by
    rcases (show u = 0 ∨ u = 1 ∨ u = 2 by omega) with rfl | rfl | rfl <;> rfl
  refine va_astq (r := (ckC u, T, Nf)) hX.1 hX.2.1 hX.2.2.2.2.2.1 hw.1 hw.2 hS a (3 + u) b ci he htk hv hcl hin hd (fun H1 locs1 hP hD hS1 => ?_)
  have hset : (wsO X.1 (m, R, N, ad)).set a (ad a, .inl (X.1.2.2.2.1 (3 + u), n, .inr (.inr (.inr (.inr (va_up (fun i => (R a i).map ad) i.toNatClampNeg (some (ad b)))))))) = wsO X.1 (m, wR R a i.toNatClampNeg b, N, ad) := by
    rw [← wsO_set (G := X.1) (w := (m, R, N, ad)) (w' := (m, wR R a i.toNatClampNeg b, N, ad)) (a := a) rfl (fun x hx => ce_fo rfl rfl (wR_b _ _ _ _ hx) rfl), ce_ref hka hn]
    have hf : va_up (fun i => (R a i).map ad) i.toNatClampNeg (some (ad b)) = fun j => (wR R a i.toNatClampNeg b a j).map ad := by
      funext j
      unfold va_up
      by_cases hj : j = i.toNatClampNeg
      · rw [if_pos hj, hj, wR_s]; rfl
      · rw [if_neg hj, wR_j _ _ _ _ hj]
    rw [hf]
  rw [hset] at hP hD
  exact kk H1 ls locs1 ⟨hP, hD⟩ hl hS1
theorem J_objI (hX : Cx X cc nL own rm) {idx r : Nat} {w : Mf} (hl0 : Cond.methodLink own idx Lib.objectInit ∈ lw_tbl) (hi : Cond.instanceMethod Lib.objectInit ∈ lw_tbl) (hco : Cond.code Lib.objectInit ⟨#[0xb1]⟩ 1 none ∈ lw_tbl) (hd : decode cc pc = .ok (.invokespecial idx, 3)) (hf : 1 ≤ rm.frames) (hlo : 12 ≤ rm.locals) (kk : J X q (pc + 3) lv [] w) : J X q pc lv [.ref r] w := fun H ls locs hw hl hS =>
  W.objInit hX.1 hX.2.1 hX.2.2.2.1 (lw_okts hX hl0 rfl) (lw_okts hX hi rfl) (lw_okts hX hco rfl) rfl hl.1 rfl hd (by rw [hX.2.2.2.2.2.2.2.2.2]; exact hf) (by rw [hX.2.2.2.2.2.2.2.2.2]; simpa [JFrame.monitorRoom] using hlo) (kk H ls locs hw hl hS)
end JK
section JI
variable {X : XT} {q : Nat × Nat} {pc : Nat} {lv : List (Nat × Value)} {st st0 : List Value} {w : Mf} {cc : ByteArray} {nL : Nat} {own : String} {rm : Room} {K1 : Option Value → Mf → Prop}
theorem J_cI (hX : Cx X cc nL own rm) {mc ms r : Nat} {y : MethodName} {cy : ByteArray} {nLy n idx : Nat} {rmy : Room} {As : List Value} (hC : Cn X.1 y cy nLy none rmy (.ref r :: As) (mc, ms) w K1) (hM : MIk y cy nLy none n) (hy : y.name = "<init>") (hi : Cond.instanceMethod y ∈ lw_tbl) (hl : Cond.methodLink own idx y ∈ lw_tbl) (hd : decode cc pc = .ok (.invokespecial idx, 3))
    (hc : rmy.cells = mc ∧ rmy.slots = ms) (hr : Rok rmy rm nLy) (hq : q.1 + mc ≤ rm.cells ∧ q.2 + ms ≤ rm.slots) (hn : As.length = n) (hst : st0 = As.reverse ++ .ref r :: st) (hW : (st.map fun v => v.category).sum ≤ 8)
    (kk : ∀ (v : Option Value) (w2 : Mf), K1 v w2 → J X (q.1 + mc, q.2 + ms) (pc + 3) lv (v.toList ++ st) w2) : J X q pc lv st0 w := by
  refine J_run (av := (Value.ref r :: As).toArray) (fun H ls locs hw hl2 hS => ?_) kk
  subst hst
  exact va_runI (rest := st) ⟨hX.1, hX.2.1, rfl, hX.2.2.2.1, hX.2.2.2.2.1⟩ hC ⟨cb_of hX hM hl hc.1 hc.2 hr, hy, lw_okts hX hi rfl⟩
    ⟨PcN.blind, pcn_of hX hw hS⟩ rfl hn hl2.1 rfl (lv_room hW) hd (by rw [hX.2.2.2.2.2.2.2.2.2]; exact hq)
theorem J_cIN (hX : Cx X cc nL own rm) {mc ms r : Nat} {y : MethodName} {cy : ByteArray} {nLy n idx : Nat} {rmy : Room} {As : List Value} {host : String} (hC : Cn X.1 y cy nLy none rmy (.ref r :: As) (mc, ms) w K1) (hM : MIk y cy nLy none n) (hy : y.name = "<init>") (hi : Cond.instanceMethod y ∈ lw_tbl) (hl : Cond.methodLinkNest own idx y host ∈ lw_tbl) (hd : decode cc pc = .ok (.invokespecial idx, 3))
    (hc : rmy.cells = mc ∧ rmy.slots = ms) (hr : Rok rmy rm nLy) (hq : q.1 + mc ≤ rm.cells ∧ q.2 + ms ≤ rm.slots) (hn : As.length = n) (hst : st0 = As.reverse ++ .ref r :: st) (hW : (st.map fun v => v.category).sum ≤ 8)
    (kk : ∀ (v : Option Value) (w2 : Mf), K1 v w2 → J X (q.1 + mc, q.2 + ms) (pc + 3) lv (v.toList ++ st) w2) : J X q pc lv st0 w := by
  refine J_run (av := (Value.ref r :: As).toArray) (fun H ls locs hw hl2 hS => ?_) kk
  subst hst
  have hg : GoodIn lw_ok (Cond.code y cy nLy none :: lw_ok) := by
    intro z hz
    rcases List.mem_cons.mp hz with rfl | hz
    · exact lw_good _ (lw_in hM.1 rfl)
    · exact lw_good z hz
  exact va_runIN (rest := st) ⟨hX.1, hX.2.1, rfl, hX.2.2.2.1, hX.2.2.2.2.1⟩ hC ⟨va_cnB n hX.2.2.2.2.1 hg rfl hc.1 hc.2 (hX.2.2.2.2.2.2.2.2.1.1 _ (List.mem_filter.mpr ⟨hl, rfl⟩)) (lw_okts hX hM.2.1 rfl) hM.2.2 (by rw [hX.2.2.2.2.2.2.2.2.2]; exact hr), hy, lw_okts hX hi rfl⟩
    ⟨PcN.blind, pcn_of hX hw hS⟩ rfl hn hl2.1 rfl (lv_room hW) hd (by rw [hX.2.2.2.2.2.2.2.2.2]; exact hq)
/-- a constructor's start -/
theorem Cn.ofI {G : GT} {y : MethodName} {cy : ByteArray} {nLy : Nat} {rmy : Room} {av : List Value} {qq : Nat × Nat} {K : Option Value → Mf → Prop} (hy : plainName y.cls = true) (hl : (lg_sl av).length ≤ nLy)
    (h : ∀ X : XT, X.1 = G → Cx X cy nLy y.cls rmy → Rx X none K qq → (xh X).name = y.name → J X (0, 0) 0 (lv_args 0 av) [] w) : Cn G y cy nLy none rmy av qq w K := by
  refine Met.ofW (cc := cy) (maxL := nLy) (ret := none) hy rfl ?_
  intro p e s m args below meth c s₁ B hml hv
  obtain ⟨rfl, h2, h3, h4, h5, h6⟩ := hv
  have hts := atoms_spec (ws := Cond.code y cy nLy none :: lw_ok) B.pre
  have hJ := h (G, p, e, rmy, s, m, av.toArray, below, meth, c, MQ below (QcN G K) av.toArray s qq.1 qq.2 (gA G)) rfl ⟨B.exec, B.bytes, hml, findClass_of_methodNamed B.named, fun z hz => hts z (List.mem_cons_of_mem _ hz), h3, h4, h5, h6, rfl⟩ ⟨B.returns, B.notSynchronized, rfl⟩ (name_of_methodNamed B.named B.method).1
  have hle := lv_entry av (n := nLy) hl
  rw [lg_entry_eq]
  exact hJ s.heap _ [] h2 (by show lv_has _ c.maxLocals _; rw [hml]; exact hle) va_S.rf
end JI
-- out of claim/NAMES.whole.lean.txt
theorem vr_outer (c : ClassId) (N h0 : Nat) : ∀ i : Nat, Jvm.Free.Multi.outerC c N h0 i = arrV c N (fun j => va_rf (if j < i then some (h0 + 1 + j) else none))
  | 0 => by
    show ({ cls := c, slots := Array.replicate N .null, vm := .none } : Cell) = _
    rw [arrV_new]
    refine congrArg (arrV c N) (funext fun j => ?_)
    simp [va_rf]
  | i + 1 => by
    show (Jvm.Free.Multi.outerC c N h0 i).setSlot i (.ref (h0 + 1 + i)) = _
    rw [vr_outer c N h0 i, arrV_store]
    refine congrArg (arrV c N) (funext fun j => ?_)
    by_cases e : j = i
    · subst e
      simp [updV, va_rf]
    · by_cases h : j < i
      · simp [updV, e, h, Nat.lt_succ_of_lt h]
      · simp [updV, e, h, show ¬ j < i + 1 by omega]
theorem wsO_get {G : GT} {w : Mf} {k : Nat} {z : Nat × va_E} (h : (wsO G w)[k]? = some z) : k < w.2.2.1 ∧ z = (w.2.2.2 k, ce G w k) := by
  have hk : k < w.2.2.1 := by
    rcases Nat.lt_or_ge k w.2.2.1 with q | q
    · exact q
    · have hl : (wsO G w).length = w.2.2.1 := by unfold wsO; simp
      rw [List.getElem?_eq_none (by rw [hl]; exact q)] at h
      cases h
  rw [wsO_at hk] at h
  exact ⟨hk, (Option.some.inj h).symm⟩
def adM (ad : Nat → Nat) (N h : Nat) : Nat → Nat := fun b => if b < N then ad b else h + (b - N)
def wRM (R : Nat → Nat → Option Nat) (N n : Nat) : Nat → Nat → Option Nat := fun x j => if x = N then (if j < n then some (N + 1 + j) else none) else R x j
theorem cw.M {m : Mm} {R : Nat → Nat → Option Nat} {N n : Nat} (h : cw (m, R, N)) (hn : n ≤ 32) : cw (m, wRM R N n, N + 1 + n) := by
  refine ⟨fun b k c hc => ?_, fun b k hb => ?_⟩
  · change wRM R N n b k = some c at hc
    unfold wRM at hc
    split at hc
    · split at hc
      · cases hc; refine ⟨?_, by omega⟩; show _ < N + 1 + n; omega
      · cases hc
    · have h1 := h.1 b k c hc
      refine ⟨?_, h1.2⟩
      show c < N + 1 + n
      have h2 : c < N := h1.1
      omega
  · have hb2 : N + 1 + n ≤ b := hb
    have h2 := h.2 b k (show N ≤ b by omega)
    refine ⟨h2.1, h2.2.1, ?_⟩
    show wRM R N n b k = none
    unfold wRM
    rw [if_neg (by omega)]
    exact h2.2.2
section JMM
variable {X : XT} {q : Nat × Nat} {pc : Nat} {lv : List (Nat × Value)} {st : List Value} {m : Mm} {R : Nat → Nat → Option Nat} {N : Nat} {ad : Nat → Nat} {cc : ByteArray} {nL : Nat} {own : String} {rm : Room}
theorem J_mna (hX : Cx X cc nL own rm) {index Nn Kk : Nat} {n k : Int32} (hd : decode cc pc = .ok (.multianewarray index 2, 4)) (hlink : Cond.classLink own index "[[I" ∈ lw_tbl) (hc : cw (m, R, N)) (hka : kap N = 26) (hlen : len N = Nn) (hka2 : ∀ i, i < Nn → kap (N + 1 + i) = 20 ∧ len (N + 1 + i) = Kk) (hn : ¬ n < 0) (hk : ¬ k < 0) (hN : n.toNatClampNeg = Nn) (hM : k.toNatClampNeg = Kk) (hb : Nn ≤ 1000) (hb2 : Kk ≤ 1000) (hq : q.1 + (1 + Nn) ≤ rm.cells ∧ q.2 + (Nn + Nn * Kk) ≤ rm.slots)
    (kk : ∀ ad2 : Nat → Nat, (∀ b, b < N → ad2 b = ad b) → J X (q.1 + 1 + Nn, q.2 + Nn + Nn * Kk) (pc + 4) lv (.ref (ad2 N) :: st) (m, wRM R N Nn, N + 1 + Nn, ad2)) : J X q pc lv (.int k :: .int n :: st) (m, R, N, ad) := by
  intro H ls locs hw hl hS T hT Xs
  subst hN
  subst hM
  have hTB := hX.2.2.2.2.2.2.2.2.1.2.2.2.2
  have hover : (Cond.arrayOver (.array .int)).before (xa X) (xs X) = true := hTB
  obtain ⟨vm₁, cA, comp, -, fA, fC, hO, -, X2, step⟩ := Xs.multianewarray2F (ty := .int) hX.1 hX.2.2.2.1 (show (Cond.classLink own index ("[" ++ (FieldType.array .int).toString)).before (xa X) (xs X) = true from lw_okts hX hlink rfl) hover (lw_okts hX (mt_1 (z := .arrayClass .int) (List.mem_of_getElem? (i := 132) rfl)) rfl) (g := F0 (xm X) pc ls (.int k :: .int n :: st)) rfl (by rw [hX.2.1]; exact hd) rfl hn hk (by omega) (by show k.toNatClampNeg * 4 ≤ 536870912; omega) (by omega) rfl rfl (by rw [hX.2.2.2.2.2.2.2.2.2]; exact hq.1) (by rw [hX.2.2.2.2.2.2.2.2.2]; exact hq.2)
  have eA : cA = X.1.2.2.2.1 6 := by
    have h1 := va_RA_find (hX.2.2.2.2.2.1.2 6 (X.1.2.2.2.1 6, .array .int) rfl).2
    exact Option.some.inj (fA.symm.trans h1)
  have eC : comp = X.1.2.2.2.1 0 := by
    have h1 := va_RA_find (hX.2.2.2.2.2.1.2 0 (X.1.2.2.2.1 0, .int) rfl).2
    exact Option.some.inj (fC.symm.trans h1)
  subst eA
  subst eC
  have hTh : (T.setVm vm₁).heap = H := hT
  obtain ⟨f1, f2, -, -⟩ := Jvm.Free.Multi.fill_facts (T.setVm vm₁) (X.1.2.2.2.1 6) (X.1.2.2.2.1 0) n.toNatClampNeg k.toNatClampNeg (defaultValue .int) n.toNatClampNeg
  have hold : ∀ x : Nat, x < H.size → (Jvm.Free.Multi.fill (T.setVm vm₁) (X.1.2.2.2.1 6) (X.1.2.2.2.1 0) n.toNatClampNeg k.toNatClampNeg (defaultValue .int) n.toNatClampNeg).heap[x]? = H[x]? := fun x hx => by
    have := Jvm.Free.Multi.fill_old (T.setVm vm₁) (X.1.2.2.2.1 6) (X.1.2.2.2.1 0) n.toNatClampNeg k.toNatClampNeg (defaultValue .int) (a := x) (by rw [hTh]; exact hx) n.toNatClampNeg
    rw [hTh] at this
    exact this
  have hrow : ∀ j : Nat, j < n.toNatClampNeg → (Jvm.Free.Multi.fill (T.setVm vm₁) (X.1.2.2.2.1 6) (X.1.2.2.2.1 0) n.toNatClampNeg k.toNatClampNeg (defaultValue .int) n.toNatClampNeg).heap[H.size + 1 + j]? = some (Jvm.Free.Multi.innerC (X.1.2.2.2.1 0) k.toNatClampNeg (defaultValue .int)) := fun j hj => by
    have := Jvm.Free.Multi.fill_inner (T.setVm vm₁) (X.1.2.2.2.1 6) (X.1.2.2.2.1 0) n.toNatClampNeg k.toNatClampNeg (defaultValue .int) n.toNatClampNeg j hj
    rw [hTh] at this
    exact this
  rw [hTh] at f1 f2
  generalize hF : Jvm.Free.Multi.fill (T.setVm vm₁) (X.1.2.2.2.1 6) (X.1.2.2.2.1 0) n.toNatClampNeg k.toNatClampNeg (defaultValue .int) n.toNatClampNeg = F at X2 step f1 f2 hold hrow
  have hlt : ∀ b, b < N → ad b < H.size := fun b hb => by
    have h := (hw.1 b _ (wsO_at (w := (m, R, N, ad)) hb)).lt
    exact h
  have hold2 : ∀ b, b < N → ce X.1 (m, wRM R N n.toNatClampNeg, N + 1 + n.toNatClampNeg, adM ad N H.size) b = ce X.1 (m, R, N, ad) b := fun b hb => by
    have h1 : ce X.1 (m, wRM R N n.toNatClampNeg, N + 1 + n.toNatClampNeg, adM ad N H.size) b = ce X.1 (m, R, N + 1 + n.toNatClampNeg, adM ad N H.size) b := ce_fo rfl rfl (by funext j; show wRM R N n.toNatClampNeg b j = R b j; unfold wRM; rw [if_neg (by omega)]) rfl
    rw [h1]
    exact ce_ad (fun b k c hcc => if_pos (hc.1 b k c hcc).1) b
  have hw2 : wd X.1 (m, wRM R N n.toNatClampNeg, N + 1 + n.toNatClampNeg, adM ad N H.size) F.heap := by
    refine ⟨fun k9 z hz => ?_, fun i j x y hi hj hxy => ?_, fun k9 z hz => ?_⟩
    · obtain ⟨h1, rfl⟩ := wsO_get hz
      have h1 : k9 < N + 1 + n.toNatClampNeg := h1
      by_cases a1 : k9 < N
      · have h2 := hw.1 k9 _ (wsO_at (w := (m, R, N, ad)) a1)
        show va_at _ _ (adM ad N H.size k9, ce X.1 _ k9) F.heap
        rw [hold2 k9 a1, show adM ad N H.size k9 = ad k9 from if_pos a1]
        exact h2.kept (hold _ (hlt k9 a1))
      · by_cases a2 : k9 = N
        · subst a2
          rw [ce_ref (t := 3) hka hlen]
          show F.heap[adM ad k9 H.size k9]? = some (vp_cell _ _)
          rw [show adM ad k9 H.size k9 = H.size by unfold adM; rw [if_neg (by omega)]; omega, f2, vr_outer, vp_cell_q]
          refine congrArg some (congrArg (arrV _ _) (funext fun j => ?_))
          show va_rf _ = va_rf ((wRM R k9 n.toNatClampNeg k9 j).map (adM ad k9 H.size))
          unfold wRM
          rw [if_pos rfl]
          by_cases hj : j < n.toNatClampNeg
          · rw [if_pos hj, if_pos hj]
            show _ = va_rf (some (adM ad k9 H.size (k9 + 1 + j)))
            rw [show adM ad k9 H.size (k9 + 1 + j) = H.size + 1 + j by unfold adM; rw [if_neg (by omega)]; omega]
          · rw [if_neg hj, if_neg hj]; rfl
        · obtain ⟨i, hi, rfl⟩ : ∃ i, i < n.toNatClampNeg ∧ k9 = N + 1 + i := ⟨k9 - (N + 1), by omega, by omega⟩
          rw [ce_int (hka2 i hi).1 (hka2 i hi).2]
          show F.heap[adM ad N H.size (N + 1 + i)]? = some (vp_cell _ _)
          rw [show adM ad N H.size (N + 1 + i) = H.size + 1 + i by unfold adM; rw [if_neg (by omega)]; omega, hrow i hi, vp_cell_i]
          unfold Jvm.Free.Multi.innerC
          rw [arrV_new]
          refine congrArg some (congrArg (arrV _ _) (funext fun j => ?_))
          show _ = Value.int (m.1 (N + 1 + i) j)
          rw [(hc.2 (N + 1 + i) j (show N ≤ N + 1 + i by omega)).1]
          rfl
    · obtain ⟨h1, rfl⟩ := wsO_get hi
      obtain ⟨h2, rfl⟩ := wsO_get hj
      have hxy : adM ad N H.size i = adM ad N H.size j := hxy
      unfold adM at hxy
      split at hxy <;> split at hxy
      · exact hw.2.1 i j _ _ (wsO_at (w := (m, R, N, ad)) (by assumption)) (wsO_at (w := (m, R, N, ad)) (by assumption)) hxy
      · have := hlt i (by assumption); omega
      · have := hlt j (by assumption); omega
      · omega
    · obtain ⟨h1, rfl⟩ := wsO_get hz
      show gA X.1 (adM ad N H.size k9)
      unfold adM
      split
      · exact hw.2.2 k9 _ (wsO_at (w := (m, R, N, ad)) (by assumption))
      · have h3 := hX.2.2.2.2.2.2.2.1
        have h4 := hS.1
        show X.1.2.1 ≤ _
        omega
  have hS2 : va_S (gA X.1) (xs X).heap F.heap locs := ⟨by rw [f1]; have := hS.1; omega, fun x h1 h2 => (hold x (Nat.lt_of_lt_of_le h1 hS.1)).trans (hS.2.1 x h1 h2), hS.2.2⟩
  obtain ⟨t, a1, b1⟩ := kk (adM ad N H.size) (fun b hb => if_pos hb) F.heap ls locs hw2 hl hS2 F rfl X2
  refine ⟨t, step t ?_, b1⟩
  have e : adM ad N H.size N = T.heap.size := by unfold adM; rw [if_neg (by omega), hT]; omega
  rw [e] at a1
  exact a1
end JMM
theorem fv_ref {m : Mm} {R : Nat → Nat → Option Nat} {N : Nat} {ad : Nat → Nat} {a k b : Nat} (h : R a k = some b) : fv (m, R, N, ad) a k 2 = .ref (ad b) := by
  unfold fv
  show va_rf ((R a k).map ad) = _
  rw [h]
  rfl
