def R_law : String := "DieLineCheckerLaw"
def lw_P (b : Addr) (xs : List Int32) (args : Array Value) (s : State) : Prop := args = #[.ref b] ∧ s.IntsAt b xs ∧ xs.length ≤ 3584 ∧ (Jvm.Cond.and given_1 narrow_1).before args s = true
def lw_Q (_ : Array Value) (s : State) (o : Outcome) (t : State) : Prop := o = .returned (some (.int 1)) ∧ Framed s o t [] 600000 7302250
def lw_Z (below : List Frame) (a : Array Value) (s : State) : State → Prop := fun t => ∃ o, t.status = .running ∧ Ended t below o ∧ lw_Q a s o t
/-- the law's own end, with 1 on the stack, nothing written that was there before, its room as the claim has it -/
theorem lw_ret {p : Program} {l : Launch} {e : Env} {s : State} {m : MethodId} {below : List Frame} {meth : Method} {c : Code} {b : Nat} (hx : p.tables.exec = Jvm.exec) (hb : c.code = code) (hr : meth.sig.returnType = ret) (hlocks : meth.locks = false) {pc : Nat} {H : Heap} {ls : Array Slot} (hdg : decode code pc = .ok (.ireturn, 1)) : W p l e room_1 s m #[Value.ref b] below meth c H [] 600000 7302250 (lw_Z below #[Value.ref b] s) (F0 m pc ls [.int 1]) := by
  intro T hT X
  obtain ⟨fs, hret, hrun, hended, hW, hframe⟩ := X.leave (v := some (.int 1)) (hlocks := hlocks) (fun h => by rw [hr] at h; cases h)
  have hmeth' : T.vm.method? m = some meth := X.method'
  refine ⟨T.setFrames fs, ?_, .returned (some (.int 1)), hrun, hended, rfl, ⟨_, rfl⟩, hW, hframe⟩
  jvm_step X.here [X.here.top, hx, hb, hdg, hmeth', hr, ret, narrow_b1]
  (try refine ⟨rfl, ?_⟩); (try refine ⟨rfl, ?_⟩)
  first | (intro acts; rw [hret _ acts rfl rfl rfl]) | rw [hret _ _ rfl rfl rfl]
  exact Steps.refl _
/-- what holds at the law's entry: the machine, the code, the tables' words (any of lw_tbl by 'hts w (by decide +kernel)'), the script of L ints xs at the cell b, what the Statement gives of the start (any of its parts by flat_of_before) -/
def lw_At (p : Program) (s : State) (m : MethodId) (meth : Method) (c : Code) (b L : Nat) (xs : Nat → Int32) : Prop :=
  p.tables.exec = Jvm.exec ∧ c.code = code ∧ meth.sig.returnType = ret ∧ c.maxLocals = 4 ∧ s.vm.findClass R_law = some m.cls ∧ (∀ w ∈ lw_tbl, w.before #[Value.ref b] s = true) ∧ va_X b L xs s s.heap ∧ b < s.heap.size ∧ meth.locks = false ∧ (Jvm.Cond.and given_1 narrow_1).before #[Value.ref b] s = true
def LB (X : XT) (b L : Nat) (sc : Nat → Int32) : Prop := va_X b L sc (xs X) (xs X).heap ∧ b < (xs X).heap.size ∧ ¬ gA X.1 b
def LR (X : XT) (b : Nat) (K : Int32 → Mm → Prop) : Prop := xQ X = lw_Z (xb X) #[Value.ref b] (xs X) ∧ xa X = #[Value.ref b] ∧ (xh X).sig.returnType = ret ∧ (xh X).locks = false ∧ X.1.2.1 = (xs X).heap.size ∧ ∀ r m, K r m → r = 1
section JL
variable {X : XT} {q : Nat × Nat} {pc b L : Nat} {sc : Nat → Int32} {lv : List (Nat × Value)} {st st0 : List Value} {w : Mf} {cc : ByteArray} {nL : Nat} {own : String} {rm : Room} {K1 : Option Value → Mf → Prop} {m : Mm} {ad : Nat → Nat} {K : Int32 → Mm → Prop}
theorem J_slen (hX : Cx X cc nL own rm) (hB : LB X b L sc) (hd : decode cc pc = .ok (.arraylength, 1)) (kk : J X q (pc + 1) lv (.int (Int32.ofNat L) :: st) w) : J X q pc lv (.ref b :: st) w := fun H ls locs hw hl hS => va_slen hX.1 hX.2.1 hB.1 hB.2.1 hB.2.2 hS hd (kk H ls locs hw hl hS)
theorem J_sldS (hX : Cx X cc nL own rm) (hB : LB X b L sc) (hd : decode cc pc = .ok (.iaload, 1)) {i : Int32} (hin : vp_in i L) (kk : J X q (pc + 1) lv (.int (sc i.toNatClampNeg) :: st) w) : J X q pc lv (.int i :: .ref b :: st) w := fun H ls locs hw hl hS => va_sld hX.1 hX.2.1 hB.1 hB.2.1 hB.2.2 hS hin hd (kk H ls locs hw hl hS)
theorem J_callL {f1 n1 : Nat} (hX : Cx X cc nL own room_1) {a ci : Nat} {y : MethodName} {cy : ByteArray} {nLy n idx : Nat} {ret : Option FieldType} (hM : MVk y cy nLy ret n ci) (hl : Cond.methodLink own idx y ∈ lw_tbl) (hd : decode cc pc = .ok (.invokevirtual idx, 3)) (hka : kap a = ci) (hci : ci < 20) (As : List Value)
    (hr : Rok (rmN f1 n1) room_1 nLy) (hn : As.length = n) (hst : st0 = As.reverse ++ .ref (ad a) :: st) (hW : (st.map fun v => v.category).sum ≤ 8) (hC : Cn X.1 y cy nLy ret (rmN f1 n1) (.ref (ad a) :: As) (0, 0) (fl ad m) K1)
    (kk : ∀ (v : Option Value) (w2 : Mf), K1 v w2 → J X (450, 28400) (pc + 3) lv (v.toList ++ st) w2) : J X (450, 28400) pc lv st0 (fl ad m) :=
  J_cV hX hC hM hl hd hka hci (kap_lt hka (by omega)) ⟨rfl, rfl⟩ hr ⟨Nat.le_of_ble_eq_true rfl, Nat.le_of_ble_eq_true rfl⟩ hn hst hW kk
theorem J_lawret (hX : Cx X code 4 RL room_1) (hR : LR X b K) (hd : decode code pc = .ok (.ireturn, 1)) {v : Int32} (_hb : bo v) (hK : ∃ (r : Int32) (m2 : Mm), some (Value.int v) = some (.int r) ∧ fl ad m = fl ad m2 ∧ K r m2) : J X (450, 28400) pc lv [.int v] (fl ad m) := by
  obtain ⟨r, m2, e1, -, e2⟩ := hK
  have hr1 := hR.2.2.2.2.2 r m2 e2
  subst hr1
  cases e1
  intro H ls locs hw hl hS
  obtain ⟨hQ, ha, hret, hlk, hsz, -⟩ := hR
  rw [hQ, hX.2.2.2.2.2.2.2.2.2, ha]
  refine va_forget (fun z hz => ?_) ?_
  · have h := hS.2.2 z hz
    show _ ≤ _
    rw [← hsz]
    exact h
  · refine W.widen (k := 600000) (n := 7302250) (Nat.le_of_ble_eq_true rfl) (Nat.le_of_ble_eq_true rfl) ?_
    exact lw_ret hX.1 hX.2.1 hret hlk hd
end JL
def wb_L_law_l18 (L : Nat) (sc : Nat → Int32) (rec : Int32 → Mm → Prop) (K : Int32 → Mm → Prop) (x3 : Int32) (m : Mm) : Prop := if ((Int32.ofNat L) - (7 : Int32)) < x3 then (K (1 : Int32) m) else (vp_in x3 L ∧ (if ((sc x3.toNatClampNeg) &&& (63 : Int32)) = (0 : Int32) then (vp_in (x3 + (1 : Int32)) L ∧ (wp_X11_type (sc (x3 + (1 : Int32)).toNatClampNeg) m (fun y6 m5 => wp_X12_type (sc (x3 + (1 : Int32)).toNatClampNeg) m5 (fun y8 m7 => if y6 = y8 then (rec (x3 + (7 : Int32)) m7) else (K (0 : Int32) m7))))) else (if ((sc x3.toNatClampNeg) &&& (63 : Int32)) = (1 : Int32) then (wp_X11_clearText m (fun y12 m11 => wp_X12_clearText m11 (fun y14 m13 => if y12 = y14 then (rec (x3 + (7 : Int32)) m13) else (K (0 : Int32) m13)))) else (if ((sc x3.toNatClampNeg) &&& (63 : Int32)) = (2 : Int32) then (wp_X11_load m (fun y18 m17 => wp_X12_load m17 (fun y20 m19 => if y18 = y20 then (rec (x3 + (7 : Int32)) m19) else (K (0 : Int32) m19)))) else (if ((sc x3.toNatClampNeg) &&& (63 : Int32)) = (3 : Int32) then (if (v_X11_faultKind m) = (v_X12_faultKind m) then (rec (x3 + (7 : Int32)) m) else (K (0 : Int32) m)) else (if ((sc x3.toNatClampNeg) &&& (63 : Int32)) = (4 : Int32) then (vp_in (x3 + (1 : Int32)) L ∧ (vp_in (x3 + (2 : Int32)) L ∧ (wp_X11_setSheet (sc (x3 + (1 : Int32)).toNatClampNeg) (sc (x3 + (2 : Int32)).toNatClampNeg) m (fun y28 m27 => wp_X12_setSheet (sc (x3 + (1 : Int32)).toNatClampNeg) (sc (x3 + (2 : Int32)).toNatClampNeg) m27 (fun y30 m29 => if y28 = y30 then (rec (x3 + (7 : Int32)) m29) else (K (0 : Int32) m29)))))) else (if ((sc x3.toNatClampNeg) &&& (63 : Int32)) = (5 : Int32) then (vp_in (x3 + (1 : Int32)) L ∧ (vp_in (x3 + (2 : Int32)) L ∧ (vp_in (x3 + (3 : Int32)) L ∧ (vp_in (x3 + (4 : Int32)) L ∧ (wp_X11_setBase (sc (x3 + (1 : Int32)).toNatClampNeg) (sc (x3 + (2 : Int32)).toNatClampNeg) (sc (x3 + (3 : Int32)).toNatClampNeg) (sc (x3 + (4 : Int32)).toNatClampNeg) m (fun y38 m37 => wp_X12_setBase (sc (x3 + (1 : Int32)).toNatClampNeg) (sc (x3 + (2 : Int32)).toNatClampNeg) (sc (x3 + (3 : Int32)).toNatClampNeg) (sc (x3 + (4 : Int32)).toNatClampNeg) m37 (fun y40 m39 => if y38 = y40 then (rec (x3 + (7 : Int32)) m39) else (K (0 : Int32) m39)))))))) else (if ((sc x3.toNatClampNeg) &&& (63 : Int32)) = (6 : Int32) then (vp_in (x3 + (1 : Int32)) L ∧ (vp_in (x3 + (2 : Int32)) L ∧ (vp_in (x3 + (3 : Int32)) L ∧ (vp_in (x3 + (4 : Int32)) L ∧ (vp_in (x3 + (5 : Int32)) L ∧ (vp_in (x3 + (6 : Int32)) L ∧ (wp_X11_addPanel (sc (x3 + (1 : Int32)).toNatClampNeg) (sc (x3 + (2 : Int32)).toNatClampNeg) (sc (x3 + (3 : Int32)).toNatClampNeg) (sc (x3 + (4 : Int32)).toNatClampNeg) (sc (x3 + (5 : Int32)).toNatClampNeg) (sc (x3 + (6 : Int32)).toNatClampNeg) m (fun y50 m49 => wp_X12_addPanel (sc (x3 + (1 : Int32)).toNatClampNeg) (sc (x3 + (2 : Int32)).toNatClampNeg) (sc (x3 + (3 : Int32)).toNatClampNeg) (sc (x3 + (4 : Int32)).toNatClampNeg) (sc (x3 + (5 : Int32)).toNatClampNeg) (sc (x3 + (6 : Int32)).toNatClampNeg) m49 (fun y52 m51 => if y50 = y52 then (rec (x3 + (7 : Int32)) m51) else (K (0 : Int32) m51)))))))))) else (if ((sc x3.toNatClampNeg) &&& (63 : Int32)) = (7 : Int32) then (wp_X11_removeLast m (fun y56 m55 => wp_X12_removeLast m55 (fun y58 m57 => if y56 = y58 then (rec (x3 + (7 : Int32)) m57) else (K (0 : Int32) m57)))) else (if ((sc x3.toNatClampNeg) &&& (63 : Int32)) = (8 : Int32) then (vp_in (x3 + (1 : Int32)) L ∧ (vp_in (x3 + (2 : Int32)) L ∧ (wp_X11_setAngle (sc (x3 + (1 : Int32)).toNatClampNeg) (sc (x3 + (2 : Int32)).toNatClampNeg) m (fun y64 m63 => wp_X12_setAngle (sc (x3 + (1 : Int32)).toNatClampNeg) (sc (x3 + (2 : Int32)).toNatClampNeg) m63 (fun y66 m65 => if y64 = y66 then (rec (x3 + (7 : Int32)) m65) else (K (0 : Int32) m65)))))) else (if ((sc x3.toNatClampNeg) &&& (63 : Int32)) = (9 : Int32) then (vp_in (x3 + (1 : Int32)) L ∧ (vp_in (x3 + (2 : Int32)) L ∧ (vp_in (x3 + (3 : Int32)) L ∧ (wp_X11_setSize (sc (x3 + (1 : Int32)).toNatClampNeg) (sc (x3 + (2 : Int32)).toNatClampNeg) (sc (x3 + (3 : Int32)).toNatClampNeg) m (fun y73 m72 => wp_X12_setSize (sc (x3 + (1 : Int32)).toNatClampNeg) (sc (x3 + (2 : Int32)).toNatClampNeg) (sc (x3 + (3 : Int32)).toNatClampNeg) m72 (fun y75 m74 => if y73 = y75 then (rec (x3 + (7 : Int32)) m74) else (K (0 : Int32) m74))))))) else (if ((sc x3.toNatClampNeg) &&& (63 : Int32)) = (10 : Int32) then (vp_in (x3 + (1 : Int32)) L ∧ (vp_in (x3 + (2 : Int32)) L ∧ (wp_X11_setFlap (sc (x3 + (1 : Int32)).toNatClampNeg) (sc (x3 + (2 : Int32)).toNatClampNeg) m (fun y81 m80 => wp_X12_setFlap (sc (x3 + (1 : Int32)).toNatClampNeg) (sc (x3 + (2 : Int32)).toNatClampNeg) m80 (fun y83 m82 => if y81 = y83 then (rec (x3 + (7 : Int32)) m82) else (K (0 : Int32) m82)))))) else (if ((sc x3.toNatClampNeg) &&& (63 : Int32)) = (11 : Int32) then (vp_in (x3 + (1 : Int32)) L ∧ (vp_in (x3 + (2 : Int32)) L ∧ (vp_in (x3 + (3 : Int32)) L ∧ (wp_X11_defineImage (sc (x3 + (1 : Int32)).toNatClampNeg) (sc (x3 + (2 : Int32)).toNatClampNeg) (sc (x3 + (3 : Int32)).toNatClampNeg) m (fun y90 m89 => wp_X12_defineImage (sc (x3 + (1 : Int32)).toNatClampNeg) (sc (x3 + (2 : Int32)).toNatClampNeg) (sc (x3 + (3 : Int32)).toNatClampNeg) m89 (fun y92 m91 => if y90 = y92 then (rec (x3 + (7 : Int32)) m91) else (K (0 : Int32) m91))))))) else (if ((sc x3.toNatClampNeg) &&& (63 : Int32)) = (12 : Int32) then (vp_in (x3 + (1 : Int32)) L ∧ (vp_in (x3 + (2 : Int32)) L ∧ (vp_in (x3 + (3 : Int32)) L ∧ (vp_in (x3 + (4 : Int32)) L ∧ (vp_in (x3 + (5 : Int32)) L ∧ (wp_X11_place (sc (x3 + (1 : Int32)).toNatClampNeg) (sc (x3 + (2 : Int32)).toNatClampNeg) (sc (x3 + (3 : Int32)).toNatClampNeg) (sc (x3 + (4 : Int32)).toNatClampNeg) (sc (x3 + (5 : Int32)).toNatClampNeg) m (fun y101 m100 => wp_X12_place (sc (x3 + (1 : Int32)).toNatClampNeg) (sc (x3 + (2 : Int32)).toNatClampNeg) (sc (x3 + (3 : Int32)).toNatClampNeg) (sc (x3 + (4 : Int32)).toNatClampNeg) (sc (x3 + (5 : Int32)).toNatClampNeg) m100 (fun y103 m102 => if y101 = y103 then (rec (x3 + (7 : Int32)) m102) else (K (0 : Int32) m102))))))))) else (if ((sc x3.toNatClampNeg) &&& (63 : Int32)) = (13 : Int32) then (vp_in (x3 + (1 : Int32)) L ∧ (wp_X11_clearImage (sc (x3 + (1 : Int32)).toNatClampNeg) m (fun y108 m107 => wp_X12_clearImage (sc (x3 + (1 : Int32)).toNatClampNeg) m107 (fun y110 m109 => if y108 = y110 then (rec (x3 + (7 : Int32)) m109) else (K (0 : Int32) m109))))) else (if ((sc x3.toNatClampNeg) &&& (63 : Int32)) = (14 : Int32) then (vp_in (x3 + (1 : Int32)) L ∧ (vp_in (x3 + (2 : Int32)) L ∧ (∀ y116 : Int32, y116 = (if (sc (x3 + (2 : Int32)).toNatClampNeg) = (0 : Int32) then (0 : Int32) else (1 : Int32)) → (wp_X11_continueImage (sc (x3 + (1 : Int32)).toNatClampNeg) y116 m (fun y118 m117 => ∀ y120 : Int32, y120 = (if (sc (x3 + (2 : Int32)).toNatClampNeg) = (0 : Int32) then (0 : Int32) else (1 : Int32)) → (wp_X12_continueImage (sc (x3 + (1 : Int32)).toNatClampNeg) y120 m117 (fun y122 m121 => if y118 = y122 then (rec (x3 + (7 : Int32)) m121) else (K (0 : Int32) m121)))))))) else (if ((sc x3.toNatClampNeg) &&& (63 : Int32)) = (15 : Int32) then (vp_in (x3 + (1 : Int32)) L ∧ (wp_X11_spreadImage (sc (x3 + (1 : Int32)).toNatClampNeg) m (fun y129 m128 => wp_X12_spreadImage (sc (x3 + (1 : Int32)).toNatClampNeg) m128 (fun y131 m130 => if y129 = y131 then (rec (x3 + (7 : Int32)) m130) else (K (0 : Int32) m130))))) else (if ((sc x3.toNatClampNeg) &&& (63 : Int32)) = (16 : Int32) then (vp_in (x3 + (1 : Int32)) L ∧ (vp_in (x3 + (2 : Int32)) L ∧ (wp_X11_setLimit (sc (x3 + (1 : Int32)).toNatClampNeg) (sc (x3 + (2 : Int32)).toNatClampNeg) m (fun y137 m136 => wp_X12_setLimit (sc (x3 + (1 : Int32)).toNatClampNeg) (sc (x3 + (2 : Int32)).toNatClampNeg) m136 (fun y139 m138 => if y137 = y139 then (rec (x3 + (7 : Int32)) m138) else (K (0 : Int32) m138)))))) else (if ((sc x3.toNatClampNeg) &&& (63 : Int32)) = (17 : Int32) then (vp_in (x3 + (1 : Int32)) L ∧ (vp_in (x3 + (2 : Int32)) L ∧ (wp_X11_setWeight (sc (x3 + (1 : Int32)).toNatClampNeg) (sc (x3 + (2 : Int32)).toNatClampNeg) m (fun y145 m144 => wp_X12_setWeight (sc (x3 + (1 : Int32)).toNatClampNeg) (sc (x3 + (2 : Int32)).toNatClampNeg) m144 (fun y147 m146 => if y145 = y147 then (rec (x3 + (7 : Int32)) m146) else (K (0 : Int32) m146)))))) else (if ((sc x3.toNatClampNeg) &&& (63 : Int32)) = (18 : Int32) then (wp_X11_undo m (fun y151 m150 => wp_X12_undo m150 (fun y153 m152 => if y151 = y153 then (rec (x3 + (7 : Int32)) m152) else (K (0 : Int32) m152)))) else (if ((sc x3.toNatClampNeg) &&& (63 : Int32)) = (19 : Int32) then (vp_in (x3 + (1 : Int32)) L ∧ (wp_X11_save (sc (x3 + (1 : Int32)).toNatClampNeg) m (fun y158 m157 => wp_X12_save (sc (x3 + (1 : Int32)).toNatClampNeg) m157 (fun y160 m159 => if y158 = y160 then (rec (x3 + (7 : Int32)) m159) else (K (0 : Int32) m159))))) else (if ((sc x3.toNatClampNeg) &&& (63 : Int32)) = (20 : Int32) then (vp_in (x3 + (1 : Int32)) L ∧ (wp_X11_restore (sc (x3 + (1 : Int32)).toNatClampNeg) m (fun y165 m164 => wp_X12_restore (sc (x3 + (1 : Int32)).toNatClampNeg) m164 (fun y167 m166 => if y165 = y167 then (rec (x3 + (7 : Int32)) m166) else (K (0 : Int32) m166))))) else (if ((sc x3.toNatClampNeg) &&& (63 : Int32)) = (21 : Int32) then (vp_in (x3 + (1 : Int32)) L ∧ (vp_in (x3 + (2 : Int32)) L ∧ (wp_X12_flat (sc (x3 + (1 : Int32)).toNatClampNeg) (sc (x3 + (2 : Int32)).toNatClampNeg) m (fun y173 m172 => if (v_X11_flat (sc (x3 + (1 : Int32)).toNatClampNeg) (sc (x3 + (2 : Int32)).toNatClampNeg) m) = y173 then (rec (x3 + (7 : Int32)) m172) else (K (0 : Int32) m172))))) else (if ((sc x3.toNatClampNeg) &&& (63 : Int32)) = (22 : Int32) then (wp_X11_cutLength m (fun y177 m176 => wp_X12_cutLength m176 (fun y179 m178 => if y177 = y179 then (rec (x3 + (7 : Int32)) m178) else (K (0 : Int32) m178)))) else (if ((sc x3.toNatClampNeg) &&& (63 : Int32)) = (23 : Int32) then (wp_X11_creaseLength m (fun y183 m182 => wp_X12_creaseLength m182 (fun y185 m184 => if y183 = y185 then (rec (x3 + (7 : Int32)) m184) else (K (0 : Int32) m184)))) else (if ((sc x3.toNatClampNeg) &&& (63 : Int32)) = (24 : Int32) then (vp_in (x3 + (1 : Int32)) L ∧ (vp_in (x3 + (2 : Int32)) L ∧ (vp_in (x3 + (3 : Int32)) L ∧ (∀ y192 : Int32, y192 = (if (sc (x3 + (3 : Int32)).toNatClampNeg) = (0 : Int32) then (0 : Int32) else (1 : Int32)) → (wp_X11_pitch (sc (x3 + (1 : Int32)).toNatClampNeg) (sc (x3 + (2 : Int32)).toNatClampNeg) y192 m (fun y194 m193 => ∀ y196 : Int32, y196 = (if (sc (x3 + (3 : Int32)).toNatClampNeg) = (0 : Int32) then (0 : Int32) else (1 : Int32)) → (wp_X12_pitch (sc (x3 + (1 : Int32)).toNatClampNeg) (sc (x3 + (2 : Int32)).toNatClampNeg) y196 m193 (fun y198 m197 => if y194 = y198 then (rec (x3 + (7 : Int32)) m197) else (K (0 : Int32) m197))))))))) else (if ((sc x3.toNatClampNeg) &&& (63 : Int32)) = (25 : Int32) then (vp_in (x3 + (1 : Int32)) L ∧ (vp_in (x3 + (2 : Int32)) L ∧ (wp_X11_rowCount (sc (x3 + (1 : Int32)).toNatClampNeg) (sc (x3 + (2 : Int32)).toNatClampNeg) m (fun y206 m205 => wp_X12_rowCount (sc (x3 + (1 : Int32)).toNatClampNeg) (sc (x3 + (2 : Int32)).toNatClampNeg) m205 (fun y208 m207 => if y206 = y208 then (rec (x3 + (7 : Int32)) m207) else (K (0 : Int32) m207)))))) else (if ((sc x3.toNatClampNeg) &&& (63 : Int32)) = (26 : Int32) then (vp_in (x3 + (1 : Int32)) L ∧ (vp_in (x3 + (2 : Int32)) L ∧ (vp_in (x3 + (3 : Int32)) L ∧ (wp_X11_corner (sc (x3 + (1 : Int32)).toNatClampNeg) (sc (x3 + (2 : Int32)).toNatClampNeg) (sc (x3 + (3 : Int32)).toNatClampNeg) m (fun y215 m214 => wp_X12_corner (sc (x3 + (1 : Int32)).toNatClampNeg) (sc (x3 + (2 : Int32)).toNatClampNeg) (sc (x3 + (3 : Int32)).toNatClampNeg) m214 (fun y217 m216 => if y215 = y217 then (rec (x3 + (7 : Int32)) m216) else (K (0 : Int32) m216))))))) else (if ((sc x3.toNatClampNeg) &&& (63 : Int32)) = (27 : Int32) then (vp_in (x3 + (1 : Int32)) L ∧ (wp_X11_facing (sc (x3 + (1 : Int32)).toNatClampNeg) m (fun y222 m221 => wp_X12_facing (sc (x3 + (1 : Int32)).toNatClampNeg) m221 (fun y224 m223 => if y222 = y224 then (rec (x3 + (7 : Int32)) m223) else (K (0 : Int32) m223))))) else (if ((sc x3.toNatClampNeg) &&& (63 : Int32)) = (28 : Int32) then (vp_in (x3 + (1 : Int32)) L ∧ (vp_in (x3 + (2 : Int32)) L ∧ (wp_X11_openLength (sc (x3 + (1 : Int32)).toNatClampNeg) (sc (x3 + (2 : Int32)).toNatClampNeg) m (fun y230 m229 => wp_X12_openLength (sc (x3 + (1 : Int32)).toNatClampNeg) (sc (x3 + (2 : Int32)).toNatClampNeg) m229 (fun y232 m231 => if y230 = y232 then (rec (x3 + (7 : Int32)) m231) else (K (0 : Int32) m231)))))) else (if ((sc x3.toNatClampNeg) &&& (63 : Int32)) = (29 : Int32) then (wp_X11_seamCount m (fun y236 m235 => wp_X12_seamCount m235 (fun y238 m237 => if y236 = y238 then (rec (x3 + (7 : Int32)) m237) else (K (0 : Int32) m237)))) else (if ((sc x3.toNatClampNeg) &&& (63 : Int32)) = (30 : Int32) then (vp_in (x3 + (1 : Int32)) L ∧ (vp_in (x3 + (2 : Int32)) L ∧ (wp_X11_seam (sc (x3 + (1 : Int32)).toNatClampNeg) (sc (x3 + (2 : Int32)).toNatClampNeg) m (fun y244 m243 => wp_X12_seam (sc (x3 + (1 : Int32)).toNatClampNeg) (sc (x3 + (2 : Int32)).toNatClampNeg) m243 (fun y246 m245 => if y244 = y246 then (rec (x3 + (7 : Int32)) m245) else (K (0 : Int32) m245)))))) else (if ((sc x3.toNatClampNeg) &&& (63 : Int32)) = (31 : Int32) then (vp_in (x3 + (1 : Int32)) L ∧ (wp_X11_coverage (sc (x3 + (1 : Int32)).toNatClampNeg) m (fun y251 m250 => wp_X12_coverage (sc (x3 + (1 : Int32)).toNatClampNeg) m250 (fun y253 m252 => if y251 = y253 then (rec (x3 + (7 : Int32)) m252) else (K (0 : Int32) m252))))) else (if ((sc x3.toNatClampNeg) &&& (63 : Int32)) = (32 : Int32) then (wp_X11_volume m (fun y257 m256 => wp_X12_volume m256 (fun y259 m258 => if (lg_cmp y257 y259) = (0 : Int32) then (rec (x3 + (7 : Int32)) m258) else (K (0 : Int32) m258)))) else (if ((sc x3.toNatClampNeg) &&& (63 : Int32)) = (33 : Int32) then (wp_X11_leastTolerance m (fun y263 m262 => wp_X12_leastTolerance m262 (fun y265 m264 => if y263 = y265 then (rec (x3 + (7 : Int32)) m264) else (K (0 : Int32) m264)))) else (if ((sc x3.toNatClampNeg) &&& (63 : Int32)) = (34 : Int32) then (vp_in (x3 + (1 : Int32)) L ∧ (wp_X11_crossings (sc (x3 + (1 : Int32)).toNatClampNeg) m (fun y270 m269 => wp_X12_crossings (sc (x3 + (1 : Int32)).toNatClampNeg) m269 (fun y272 m271 => if y270 = y272 then (rec (x3 + (7 : Int32)) m271) else (K (0 : Int32) m271))))) else (if ((sc x3.toNatClampNeg) &&& (63 : Int32)) = (35 : Int32) then (vp_in (x3 + (1 : Int32)) L ∧ (wp_X11_foldStep (sc (x3 + (1 : Int32)).toNatClampNeg) m (fun y277 m276 => wp_X12_foldStep (sc (x3 + (1 : Int32)).toNatClampNeg) m276 (fun y279 m278 => if y277 = y279 then (rec (x3 + (7 : Int32)) m278) else (K (0 : Int32) m278))))) else (if ((sc x3.toNatClampNeg) &&& (63 : Int32)) = (36 : Int32) then (vp_in (x3 + (1 : Int32)) L ∧ (vp_in (x3 + (2 : Int32)) L ∧ (vp_in (x3 + (3 : Int32)) L ∧ (vp_in (x3 + (4 : Int32)) L ∧ (s_X12_imageAt (sc (x3 + (1 : Int32)).toNatClampNeg) (sc (x3 + (2 : Int32)).toNatClampNeg) (sc (x3 + (3 : Int32)).toNatClampNeg) (sc (x3 + (4 : Int32)).toNatClampNeg) m ∧ (if (v_X11_imageAt (sc (x3 + (1 : Int32)).toNatClampNeg) (sc (x3 + (2 : Int32)).toNatClampNeg) (sc (x3 + (3 : Int32)).toNatClampNeg) (sc (x3 + (4 : Int32)).toNatClampNeg) m) = (v_X12_imageAt (sc (x3 + (1 : Int32)).toNatClampNeg) (sc (x3 + (2 : Int32)).toNatClampNeg) (sc (x3 + (3 : Int32)).toNatClampNeg) (sc (x3 + (4 : Int32)).toNatClampNeg) m) then (rec (x3 + (7 : Int32)) m) else (K (0 : Int32) m))))))) else (if ((sc x3.toNatClampNeg) &&& (63 : Int32)) = (37 : Int32) then (vp_in (x3 + (1 : Int32)) L ∧ (vp_in (x3 + (2 : Int32)) L ∧ (wp_X12_reach (sc (x3 + (1 : Int32)).toNatClampNeg) (sc (x3 + (2 : Int32)).toNatClampNeg) m (fun y292 m291 => if (v_X11_reach (sc (x3 + (1 : Int32)).toNatClampNeg) (sc (x3 + (2 : Int32)).toNatClampNeg) m) = y292 then (rec (x3 + (7 : Int32)) m291) else (K (0 : Int32) m291))))) else (if ((sc x3.toNatClampNeg) &&& (63 : Int32)) = (38 : Int32) then (wp_X11_findingCount m (fun y296 m295 => wp_X12_findingCount m295 (fun y298 m297 => if y296 = y298 then (rec (x3 + (7 : Int32)) m297) else (K (0 : Int32) m297)))) else (if ((sc x3.toNatClampNeg) &&& (63 : Int32)) = (39 : Int32) then (vp_in (x3 + (1 : Int32)) L ∧ (vp_in (x3 + (2 : Int32)) L ∧ (wp_X11_finding (sc (x3 + (1 : Int32)).toNatClampNeg) (sc (x3 + (2 : Int32)).toNatClampNeg) m (fun y304 m303 => wp_X12_finding (sc (x3 + (1 : Int32)).toNatClampNeg) (sc (x3 + (2 : Int32)).toNatClampNeg) m303 (fun y306 m305 => if y304 = y306 then (rec (x3 + (7 : Int32)) m305) else (K (0 : Int32) m305)))))) else (if ((sc x3.toNatClampNeg) &&& (63 : Int32)) = (40 : Int32) then (wp_X11_totalCost m (fun y310 m309 => wp_X12_totalCost m309 (fun y312 m311 => if (lg_cmp y310 y312) = (0 : Int32) then (rec (x3 + (7 : Int32)) m311) else (K (0 : Int32) m311)))) else (if ((sc x3.toNatClampNeg) &&& (63 : Int32)) = (41 : Int32) then (vp_in (x3 + (1 : Int32)) L ∧ (wp_X11_panelCost (sc (x3 + (1 : Int32)).toNatClampNeg) m (fun y317 m316 => wp_X12_panelCost (sc (x3 + (1 : Int32)).toNatClampNeg) m316 (fun y319 m318 => if (lg_cmp y317 y319) = (0 : Int32) then (rec (x3 + (7 : Int32)) m318) else (K (0 : Int32) m318))))) else (if ((sc x3.toNatClampNeg) &&& (63 : Int32)) = (42 : Int32) then (vp_in (x3 + (1 : Int32)) L ∧ (wp_X11_bestDepth (sc (x3 + (1 : Int32)).toNatClampNeg) m (fun y324 m323 => wp_X12_bestDepth (sc (x3 + (1 : Int32)).toNatClampNeg) m323 (fun y326 m325 => if y324 = y326 then (rec (x3 + (7 : Int32)) m325) else (K (0 : Int32) m325))))) else (if ((sc x3.toNatClampNeg) &&& (63 : Int32)) = (43 : Int32) then (vp_in (x3 + (1 : Int32)) L ∧ (wp_X11_bestAngle (sc (x3 + (1 : Int32)).toNatClampNeg) m (fun y331 m330 => wp_X12_bestAngle (sc (x3 + (1 : Int32)).toNatClampNeg) m330 (fun y333 m332 => if y331 = y333 then (rec (x3 + (7 : Int32)) m332) else (K (0 : Int32) m332))))) else (if ((sc x3.toNatClampNeg) &&& (63 : Int32)) = (44 : Int32) then (vp_in (x3 + (1 : Int32)) L ∧ (wp_X11_count (sc (x3 + (1 : Int32)).toNatClampNeg) m (fun y338 m337 => wp_X12_count (sc (x3 + (1 : Int32)).toNatClampNeg) m337 (fun y340 m339 => if y338 = y340 then (rec (x3 + (7 : Int32)) m339) else (K (0 : Int32) m339))))) else (rec (x3 + (7 : Int32)) m)))))))))))))))))))))))))))))))))))))))))))))))
def wp_L_law_l18 (L : Nat) (sc : Nat → Int32) (K : Int32 → Mm → Prop) : Nat → Int32 → Mm → Prop
  | 0, _, _ => False
  | n + 1, x3, m => wb_L_law_l18 L sc (wp_L_law_l18 L sc K n) K x3 m
set_option maxHeartbeats 8000000 in
set_option maxRecDepth 100000 in
theorem tb_L_law_l18 {X : XT} {ad : Nat → Nat} {K : Int32 → Mm → Prop} {b L : Nat} {sc : Nat → Int32} (hX : Cx X cL_law 4 RL room_1) (hB : LB X b L sc) (hR : LR X b K) {rec : Int32 → Mm → Prop} (hrec : ∀ (x3 : Int32) (m : Mm), rec x3 m → J X (450, 28400) 18 [(0, .ref b), (1, .ref (ad 0)), (2, .ref (ad 426)), (3, .int x3)] [] (fl ad m)) (x3 : Int32) (m : Mm) (h : wb_L_law_l18 L sc rec K x3 m) : J X (450, 28400) 18 [(0, .ref b), (1, .ref (ad 0)), (2, .ref (ad 426)), (3, .int x3)] [] (fl ad m) := by
  unfold wb_L_law_l18 at h
  refine J_iload_n hX dL_law_18 rfl 3 rfl ?_
  refine J_aload_n hX dL_law_19 rfl 0 rfl ?_
  refine J_slen hX hB dL_law_20 ?_
  refine J_bipush (v := (7 : Int32)) hX dL_law_21 (by decide) ?_
  refine J_isub hX dL_law_23 ?_
  refine J_icmp_gt (tgt := 1536) hX dL_law_24 (by decide) (fun c1 => ?_) (fun c1 => ?_)
  · replace h := Eq.mp (if_pos c1) h
    refine J_iconst (v := (1 : Int32)) hX dL_law_1536 (by decide) ?_
    exact J_lawret hX hR dL_law_1537 bo_1 ⟨_, _, rfl, rfl, h⟩
  · replace h := Eq.mp (if_neg c1) h
    refine J_aload_n hX dL_law_27 rfl 0 rfl ?_
    refine J_iload_n hX dL_law_28 rfl 3 rfl ?_
    obtain ⟨b2, h⟩ := h
    refine J_sldS hX hB dL_law_29 b2 ?_
    refine J_bipush (v := (63 : Int32)) hX dL_law_30 (by decide) ?_
    refine J_iand hX dL_law_32 ?_
    by_cases c3 : ((sc x3.toNatClampNeg) &&& (63 : Int32)) = (0 : Int32)
    · replace h := Eq.mp (if_pos c3) h
      refine J_tabIn (v := (0 : Int32)) (tgt := 228) hX dL_law_33 c3 (by decide) (by decide) rfl (by decide) ?_
      refine J_aload_n hX dL_law_228 rfl 1 rfl ?_
      refine J_aload_n hX dL_law_229 rfl 0 rfl ?_
      refine J_iload_n hX dL_law_230 rfl 3 rfl ?_
      refine J_iconst (v := (1 : Int32)) hX dL_law_231 (by decide) ?_
      refine J_iadd hX dL_law_232 ?_
      obtain ⟨b4, h⟩ := h
      refine J_sldS hX hB dL_law_233 b4 ?_
      refine J_callL hX km_X11_type kl_RL_13 dL_law_234 ka_0 (by decide) [.int (sc (x3 + (1 : Int32)).toNatClampNeg)] ⟨Nat.le_of_ble_eq_true rfl, Nat.le_of_ble_eq_true rfl⟩ rfl rfl (Nat.le_of_ble_eq_true rfl) (c_X11_type (sc (x3 + (1 : Int32)).toNatClampNeg) m _ h) (fun v w2 hk => ?_)
      obtain ⟨y6, m5, rfl, rfl, h⟩ := hk
      show J X (450, 28400) 237 [(0, .ref b), (1, .ref (ad 0)), (2, .ref (ad 426)), (3, .int x3)] [.int y6] (fl ad m5)
      refine J_aload_n hX dL_law_237 rfl 2 rfl ?_
      refine J_aload_n hX dL_law_238 rfl 0 rfl ?_
      refine J_iload_n hX dL_law_239 rfl 3 rfl ?_
      refine J_iconst (v := (1 : Int32)) hX dL_law_240 (by decide) ?_
      refine J_iadd hX dL_law_241 ?_
      refine J_sldS hX hB dL_law_242 b4 ?_
      refine J_callL hX km_X12_type kl_RL_17 dL_law_243 ka_426 (by decide) [.int (sc (x3 + (1 : Int32)).toNatClampNeg)] ⟨Nat.le_of_ble_eq_true rfl, Nat.le_of_ble_eq_true rfl⟩ rfl rfl (Nat.le_of_ble_eq_true rfl) (c_X12_type (sc (x3 + (1 : Int32)).toNatClampNeg) m5 _ h) (fun v w2 hk => ?_)
      obtain ⟨y8, m7, rfl, rfl, h⟩ := hk
      show J X (450, 28400) 246 [(0, .ref b), (1, .ref (ad 0)), (2, .ref (ad 426)), (3, .int x3)] [.int y8, .int y6] (fl ad m7)
      refine J_icmp_eq (tgt := 1530) hX dL_law_246 (by decide) (fun c9 => ?_) (fun c9 => ?_)
      · replace h := Eq.mp (if_pos c9) h
        refine J_iinc (x := (x3 + (7 : Int32))) (lv2 := [(3, .int (x3 + (7 : Int32))), (0, .ref b), (1, .ref (ad 0)), (2, .ref (ad 426))]) hX dL_law_1530 3 rfl rfl (Nat.le_of_ble_eq_true rfl) rfl ?_
        refine J_goto (tgt := 18) hX dL_law_1533 (by decide) ?_
        exact J_sub [1, 2, 3, 0] rfl (hrec (x3 + (7 : Int32)) m7 h)
      · replace h := Eq.mp (if_neg c9) h
        refine J_iconst (v := (0 : Int32)) hX dL_law_249 (by decide) ?_
        exact J_lawret hX hR dL_law_250 bo_0 ⟨_, _, rfl, rfl, h⟩
    · replace h := Eq.mp (if_neg c3) h
      by_cases c10 : ((sc x3.toNatClampNeg) &&& (63 : Int32)) = (1 : Int32)
      · replace h := Eq.mp (if_pos c10) h
        refine J_tabIn (v := (1 : Int32)) (tgt := 251) hX dL_law_33 c10 (by decide) (by decide) rfl (by decide) ?_
        refine J_aload_n hX dL_law_251 rfl 1 rfl ?_
        refine J_callL hX km_X11_clearText kl_RL_18 dL_law_252 ka_0 (by decide) [] ⟨Nat.le_of_ble_eq_true rfl, Nat.le_of_ble_eq_true rfl⟩ rfl rfl (Nat.le_of_ble_eq_true rfl) (c_X11_clearText m _ h) (fun v w2 hk => ?_)
        obtain ⟨y12, m11, rfl, rfl, h⟩ := hk
        show J X (450, 28400) 255 [(0, .ref b), (1, .ref (ad 0)), (2, .ref (ad 426)), (3, .int x3)] [.int y12] (fl ad m11)
        refine J_aload_n hX dL_law_255 rfl 2 rfl ?_
        refine J_callL hX km_X12_clearText kl_RL_22 dL_law_256 ka_426 (by decide) [] ⟨Nat.le_of_ble_eq_true rfl, Nat.le_of_ble_eq_true rfl⟩ rfl rfl (Nat.le_of_ble_eq_true rfl) (c_X12_clearText m11 _ h) (fun v w2 hk => ?_)
        obtain ⟨y14, m13, rfl, rfl, h⟩ := hk
        show J X (450, 28400) 259 [(0, .ref b), (1, .ref (ad 0)), (2, .ref (ad 426)), (3, .int x3)] [.int y14, .int y12] (fl ad m13)
        refine J_icmp_eq (tgt := 1530) hX dL_law_259 (by decide) (fun c15 => ?_) (fun c15 => ?_)
        · replace h := Eq.mp (if_pos c15) h
          refine J_iinc (x := (x3 + (7 : Int32))) (lv2 := [(3, .int (x3 + (7 : Int32))), (0, .ref b), (1, .ref (ad 0)), (2, .ref (ad 426))]) hX dL_law_1530 3 rfl rfl (Nat.le_of_ble_eq_true rfl) rfl ?_
          refine J_goto (tgt := 18) hX dL_law_1533 (by decide) ?_
          exact J_sub [1, 2, 3, 0] rfl (hrec (x3 + (7 : Int32)) m13 h)
        · replace h := Eq.mp (if_neg c15) h
          refine J_iconst (v := (0 : Int32)) hX dL_law_262 (by decide) ?_
          exact J_lawret hX hR dL_law_263 bo_0 ⟨_, _, rfl, rfl, h⟩
      · replace h := Eq.mp (if_neg c10) h
        by_cases c16 : ((sc x3.toNatClampNeg) &&& (63 : Int32)) = (2 : Int32)
        · replace h := Eq.mp (if_pos c16) h
          refine J_tabIn (v := (2 : Int32)) (tgt := 264) hX dL_law_33 c16 (by decide) (by decide) rfl (by decide) ?_
          refine J_aload_n hX dL_law_264 rfl 1 rfl ?_
          refine J_callL hX km_X11_load kl_RL_23 dL_law_265 ka_0 (by decide) [] ⟨Nat.le_of_ble_eq_true rfl, Nat.le_of_ble_eq_true rfl⟩ rfl rfl (Nat.le_of_ble_eq_true rfl) (c_X11_load m _ h) (fun v w2 hk => ?_)
          obtain ⟨y18, m17, rfl, rfl, h⟩ := hk
          show J X (450, 28400) 268 [(0, .ref b), (1, .ref (ad 0)), (2, .ref (ad 426)), (3, .int x3)] [.int y18] (fl ad m17)
          refine J_aload_n hX dL_law_268 rfl 2 rfl ?_
          refine J_callL hX km_X12_load kl_RL_26 dL_law_269 ka_426 (by decide) [] ⟨Nat.le_of_ble_eq_true rfl, Nat.le_of_ble_eq_true rfl⟩ rfl rfl (Nat.le_of_ble_eq_true rfl) (c_X12_load m17 _ h) (fun v w2 hk => ?_)
          obtain ⟨y20, m19, rfl, rfl, h⟩ := hk
          show J X (450, 28400) 272 [(0, .ref b), (1, .ref (ad 0)), (2, .ref (ad 426)), (3, .int x3)] [.int y20, .int y18] (fl ad m19)
          refine J_icmp_eq (tgt := 1530) hX dL_law_272 (by decide) (fun c21 => ?_) (fun c21 => ?_)
          · replace h := Eq.mp (if_pos c21) h
            refine J_iinc (x := (x3 + (7 : Int32))) (lv2 := [(3, .int (x3 + (7 : Int32))), (0, .ref b), (1, .ref (ad 0)), (2, .ref (ad 426))]) hX dL_law_1530 3 rfl rfl (Nat.le_of_ble_eq_true rfl) rfl ?_
            refine J_goto (tgt := 18) hX dL_law_1533 (by decide) ?_
            exact J_sub [1, 2, 3, 0] rfl (hrec (x3 + (7 : Int32)) m19 h)
          · replace h := Eq.mp (if_neg c21) h
            refine J_iconst (v := (0 : Int32)) hX dL_law_275 (by decide) ?_
            exact J_lawret hX hR dL_law_276 bo_0 ⟨_, _, rfl, rfl, h⟩
        · replace h := Eq.mp (if_neg c16) h
          by_cases c22 : ((sc x3.toNatClampNeg) &&& (63 : Int32)) = (3 : Int32)
          · replace h := Eq.mp (if_pos c22) h
            refine J_tabIn (v := (3 : Int32)) (tgt := 277) hX dL_law_33 c22 (by decide) (by decide) rfl (by decide) ?_
            refine J_aload_n hX dL_law_277 rfl 1 rfl ?_
            refine J_callL hX km_X11_faultKind kl_RL_27 dL_law_278 ka_0 (by decide) [] ⟨Nat.le_of_ble_eq_true rfl, Nat.le_of_ble_eq_true rfl⟩ rfl rfl (Nat.le_of_ble_eq_true rfl) (c_X11_faultKind m) (fun v w2 hk => ?_)
            obtain ⟨rfl, rfl⟩ := hk
            show J X (450, 28400) 281 [(0, .ref b), (1, .ref (ad 0)), (2, .ref (ad 426)), (3, .int x3)] [.int (v_X11_faultKind m)] (fl ad m)
            refine J_aload_n hX dL_law_281 rfl 2 rfl ?_
            refine J_callL hX km_X12_faultKind kl_RL_30 dL_law_282 ka_426 (by decide) [] ⟨Nat.le_of_ble_eq_true rfl, Nat.le_of_ble_eq_true rfl⟩ rfl rfl (Nat.le_of_ble_eq_true rfl) (c_X12_faultKind m) (fun v w2 hk => ?_)
            obtain ⟨rfl, rfl⟩ := hk
            show J X (450, 28400) 285 [(0, .ref b), (1, .ref (ad 0)), (2, .ref (ad 426)), (3, .int x3)] [.int (v_X12_faultKind m), .int (v_X11_faultKind m)] (fl ad m)
            refine J_icmp_eq (tgt := 1530) hX dL_law_285 (by decide) (fun c23 => ?_) (fun c23 => ?_)
            · replace h := Eq.mp (if_pos c23) h
              refine J_iinc (x := (x3 + (7 : Int32))) (lv2 := [(3, .int (x3 + (7 : Int32))), (0, .ref b), (1, .ref (ad 0)), (2, .ref (ad 426))]) hX dL_law_1530 3 rfl rfl (Nat.le_of_ble_eq_true rfl) rfl ?_
              refine J_goto (tgt := 18) hX dL_law_1533 (by decide) ?_
              exact J_sub [1, 2, 3, 0] rfl (hrec (x3 + (7 : Int32)) m h)
            · replace h := Eq.mp (if_neg c23) h
              refine J_iconst (v := (0 : Int32)) hX dL_law_288 (by decide) ?_
              exact J_lawret hX hR dL_law_289 bo_0 ⟨_, _, rfl, rfl, h⟩
          · replace h := Eq.mp (if_neg c22) h
            by_cases c24 : ((sc x3.toNatClampNeg) &&& (63 : Int32)) = (4 : Int32)
            · replace h := Eq.mp (if_pos c24) h
              refine J_tabIn (v := (4 : Int32)) (tgt := 290) hX dL_law_33 c24 (by decide) (by decide) rfl (by decide) ?_
              refine J_aload_n hX dL_law_290 rfl 1 rfl ?_
              refine J_aload_n hX dL_law_291 rfl 0 rfl ?_
              refine J_iload_n hX dL_law_292 rfl 3 rfl ?_
              refine J_iconst (v := (1 : Int32)) hX dL_law_293 (by decide) ?_
              refine J_iadd hX dL_law_294 ?_
              obtain ⟨b25, h⟩ := h
              refine J_sldS hX hB dL_law_295 b25 ?_
              refine J_aload_n hX dL_law_296 rfl 0 rfl ?_
              refine J_iload_n hX dL_law_297 rfl 3 rfl ?_
              refine J_iconst (v := (2 : Int32)) hX dL_law_298 (by decide) ?_
              refine J_iadd hX dL_law_299 ?_
              obtain ⟨b26, h⟩ := h
              refine J_sldS hX hB dL_law_300 b26 ?_
              refine J_callL hX km_X11_setSheet kl_RL_31 dL_law_301 ka_0 (by decide) [.int (sc (x3 + (1 : Int32)).toNatClampNeg), .int (sc (x3 + (2 : Int32)).toNatClampNeg)] ⟨Nat.le_of_ble_eq_true rfl, Nat.le_of_ble_eq_true rfl⟩ rfl rfl (Nat.le_of_ble_eq_true rfl) (c_X11_setSheet (sc (x3 + (1 : Int32)).toNatClampNeg) (sc (x3 + (2 : Int32)).toNatClampNeg) m _ h) (fun v w2 hk => ?_)
              obtain ⟨y28, m27, rfl, rfl, h⟩ := hk
              show J X (450, 28400) 304 [(0, .ref b), (1, .ref (ad 0)), (2, .ref (ad 426)), (3, .int x3)] [.int y28] (fl ad m27)
              refine J_aload_n hX dL_law_304 rfl 2 rfl ?_
              refine J_aload_n hX dL_law_305 rfl 0 rfl ?_
              refine J_iload_n hX dL_law_306 rfl 3 rfl ?_
              refine J_iconst (v := (1 : Int32)) hX dL_law_307 (by decide) ?_
              refine J_iadd hX dL_law_308 ?_
              refine J_sldS hX hB dL_law_309 b25 ?_
              refine J_aload_n hX dL_law_310 rfl 0 rfl ?_
              refine J_iload_n hX dL_law_311 rfl 3 rfl ?_
              refine J_iconst (v := (2 : Int32)) hX dL_law_312 (by decide) ?_
              refine J_iadd hX dL_law_313 ?_
              refine J_sldS hX hB dL_law_314 b26 ?_
              refine J_callL hX km_X12_setSheet kl_RL_35 dL_law_315 ka_426 (by decide) [.int (sc (x3 + (1 : Int32)).toNatClampNeg), .int (sc (x3 + (2 : Int32)).toNatClampNeg)] ⟨Nat.le_of_ble_eq_true rfl, Nat.le_of_ble_eq_true rfl⟩ rfl rfl (Nat.le_of_ble_eq_true rfl) (c_X12_setSheet (sc (x3 + (1 : Int32)).toNatClampNeg) (sc (x3 + (2 : Int32)).toNatClampNeg) m27 _ h) (fun v w2 hk => ?_)
              obtain ⟨y30, m29, rfl, rfl, h⟩ := hk
              show J X (450, 28400) 318 [(0, .ref b), (1, .ref (ad 0)), (2, .ref (ad 426)), (3, .int x3)] [.int y30, .int y28] (fl ad m29)
              refine J_icmp_eq (tgt := 1530) hX dL_law_318 (by decide) (fun c31 => ?_) (fun c31 => ?_)
              · replace h := Eq.mp (if_pos c31) h
                refine J_iinc (x := (x3 + (7 : Int32))) (lv2 := [(3, .int (x3 + (7 : Int32))), (0, .ref b), (1, .ref (ad 0)), (2, .ref (ad 426))]) hX dL_law_1530 3 rfl rfl (Nat.le_of_ble_eq_true rfl) rfl ?_
                refine J_goto (tgt := 18) hX dL_law_1533 (by decide) ?_
                exact J_sub [1, 2, 3, 0] rfl (hrec (x3 + (7 : Int32)) m29 h)
              · replace h := Eq.mp (if_neg c31) h
                refine J_iconst (v := (0 : Int32)) hX dL_law_321 (by decide) ?_
                exact J_lawret hX hR dL_law_322 bo_0 ⟨_, _, rfl, rfl, h⟩
            · replace h := Eq.mp (if_neg c24) h
              by_cases c32 : ((sc x3.toNatClampNeg) &&& (63 : Int32)) = (5 : Int32)
              · replace h := Eq.mp (if_pos c32) h
                refine J_tabIn (v := (5 : Int32)) (tgt := 323) hX dL_law_33 c32 (by decide) (by decide) rfl (by decide) ?_
                refine J_aload_n hX dL_law_323 rfl 1 rfl ?_
                refine J_aload_n hX dL_law_324 rfl 0 rfl ?_
                refine J_iload_n hX dL_law_325 rfl 3 rfl ?_
                refine J_iconst (v := (1 : Int32)) hX dL_law_326 (by decide) ?_
                refine J_iadd hX dL_law_327 ?_
                obtain ⟨b33, h⟩ := h
                refine J_sldS hX hB dL_law_328 b33 ?_
                refine J_aload_n hX dL_law_329 rfl 0 rfl ?_
                refine J_iload_n hX dL_law_330 rfl 3 rfl ?_
                refine J_iconst (v := (2 : Int32)) hX dL_law_331 (by decide) ?_
                refine J_iadd hX dL_law_332 ?_
                obtain ⟨b34, h⟩ := h
                refine J_sldS hX hB dL_law_333 b34 ?_
                refine J_aload_n hX dL_law_334 rfl 0 rfl ?_
                refine J_iload_n hX dL_law_335 rfl 3 rfl ?_
                refine J_iconst (v := (3 : Int32)) hX dL_law_336 (by decide) ?_
                refine J_iadd hX dL_law_337 ?_
                obtain ⟨b35, h⟩ := h
                refine J_sldS hX hB dL_law_338 b35 ?_
                refine J_aload_n hX dL_law_339 rfl 0 rfl ?_
                refine J_iload_n hX dL_law_340 rfl 3 rfl ?_
                refine J_iconst (v := (4 : Int32)) hX dL_law_341 (by decide) ?_
                refine J_iadd hX dL_law_342 ?_
                obtain ⟨b36, h⟩ := h
                refine J_sldS hX hB dL_law_343 b36 ?_
                refine J_callL hX km_X11_setBase kl_RL_36 dL_law_344 ka_0 (by decide) [.int (sc (x3 + (1 : Int32)).toNatClampNeg), .int (sc (x3 + (2 : Int32)).toNatClampNeg), .int (sc (x3 + (3 : Int32)).toNatClampNeg), .int (sc (x3 + (4 : Int32)).toNatClampNeg)] ⟨Nat.le_of_ble_eq_true rfl, Nat.le_of_ble_eq_true rfl⟩ rfl rfl (Nat.le_of_ble_eq_true rfl) (c_X11_setBase (sc (x3 + (1 : Int32)).toNatClampNeg) (sc (x3 + (2 : Int32)).toNatClampNeg) (sc (x3 + (3 : Int32)).toNatClampNeg) (sc (x3 + (4 : Int32)).toNatClampNeg) m _ h) (fun v w2 hk => ?_)
                obtain ⟨y38, m37, rfl, rfl, h⟩ := hk
                show J X (450, 28400) 347 [(0, .ref b), (1, .ref (ad 0)), (2, .ref (ad 426)), (3, .int x3)] [.int y38] (fl ad m37)
                refine J_aload_n hX dL_law_347 rfl 2 rfl ?_
                refine J_aload_n hX dL_law_348 rfl 0 rfl ?_
                refine J_iload_n hX dL_law_349 rfl 3 rfl ?_
                refine J_iconst (v := (1 : Int32)) hX dL_law_350 (by decide) ?_
                refine J_iadd hX dL_law_351 ?_
                refine J_sldS hX hB dL_law_352 b33 ?_
                refine J_aload_n hX dL_law_353 rfl 0 rfl ?_
                refine J_iload_n hX dL_law_354 rfl 3 rfl ?_
                refine J_iconst (v := (2 : Int32)) hX dL_law_355 (by decide) ?_
                refine J_iadd hX dL_law_356 ?_
                refine J_sldS hX hB dL_law_357 b34 ?_
                refine J_aload_n hX dL_law_358 rfl 0 rfl ?_
                refine J_iload_n hX dL_law_359 rfl 3 rfl ?_
                refine J_iconst (v := (3 : Int32)) hX dL_law_360 (by decide) ?_
                refine J_iadd hX dL_law_361 ?_
                refine J_sldS hX hB dL_law_362 b35 ?_
                refine J_aload_n hX dL_law_363 rfl 0 rfl ?_
                refine J_iload_n hX dL_law_364 rfl 3 rfl ?_
                refine J_iconst (v := (4 : Int32)) hX dL_law_365 (by decide) ?_
                refine J_iadd hX dL_law_366 ?_
                refine J_sldS hX hB dL_law_367 b36 ?_
                refine J_callL hX km_X12_setBase kl_RL_40 dL_law_368 ka_426 (by decide) [.int (sc (x3 + (1 : Int32)).toNatClampNeg), .int (sc (x3 + (2 : Int32)).toNatClampNeg), .int (sc (x3 + (3 : Int32)).toNatClampNeg), .int (sc (x3 + (4 : Int32)).toNatClampNeg)] ⟨Nat.le_of_ble_eq_true rfl, Nat.le_of_ble_eq_true rfl⟩ rfl rfl (Nat.le_of_ble_eq_true rfl) (c_X12_setBase (sc (x3 + (1 : Int32)).toNatClampNeg) (sc (x3 + (2 : Int32)).toNatClampNeg) (sc (x3 + (3 : Int32)).toNatClampNeg) (sc (x3 + (4 : Int32)).toNatClampNeg) m37 _ h) (fun v w2 hk => ?_)
                obtain ⟨y40, m39, rfl, rfl, h⟩ := hk
                show J X (450, 28400) 371 [(0, .ref b), (1, .ref (ad 0)), (2, .ref (ad 426)), (3, .int x3)] [.int y40, .int y38] (fl ad m39)
                refine J_icmp_eq (tgt := 1530) hX dL_law_371 (by decide) (fun c41 => ?_) (fun c41 => ?_)
                · replace h := Eq.mp (if_pos c41) h
                  refine J_iinc (x := (x3 + (7 : Int32))) (lv2 := [(3, .int (x3 + (7 : Int32))), (0, .ref b), (1, .ref (ad 0)), (2, .ref (ad 426))]) hX dL_law_1530 3 rfl rfl (Nat.le_of_ble_eq_true rfl) rfl ?_
                  refine J_goto (tgt := 18) hX dL_law_1533 (by decide) ?_
                  exact J_sub [1, 2, 3, 0] rfl (hrec (x3 + (7 : Int32)) m39 h)
                · replace h := Eq.mp (if_neg c41) h
                  refine J_iconst (v := (0 : Int32)) hX dL_law_374 (by decide) ?_
                  exact J_lawret hX hR dL_law_375 bo_0 ⟨_, _, rfl, rfl, h⟩
              · replace h := Eq.mp (if_neg c32) h
                by_cases c42 : ((sc x3.toNatClampNeg) &&& (63 : Int32)) = (6 : Int32)
                · replace h := Eq.mp (if_pos c42) h
                  refine J_tabIn (v := (6 : Int32)) (tgt := 376) hX dL_law_33 c42 (by decide) (by decide) rfl (by decide) ?_
                  refine J_aload_n hX dL_law_376 rfl 1 rfl ?_
                  refine J_aload_n hX dL_law_377 rfl 0 rfl ?_
                  refine J_iload_n hX dL_law_378 rfl 3 rfl ?_
                  refine J_iconst (v := (1 : Int32)) hX dL_law_379 (by decide) ?_
                  refine J_iadd hX dL_law_380 ?_
                  obtain ⟨b43, h⟩ := h
                  refine J_sldS hX hB dL_law_381 b43 ?_
                  refine J_aload_n hX dL_law_382 rfl 0 rfl ?_
                  refine J_iload_n hX dL_law_383 rfl 3 rfl ?_
                  refine J_iconst (v := (2 : Int32)) hX dL_law_384 (by decide) ?_
                  refine J_iadd hX dL_law_385 ?_
                  obtain ⟨b44, h⟩ := h
                  refine J_sldS hX hB dL_law_386 b44 ?_
                  refine J_aload_n hX dL_law_387 rfl 0 rfl ?_
                  refine J_iload_n hX dL_law_388 rfl 3 rfl ?_
                  refine J_iconst (v := (3 : Int32)) hX dL_law_389 (by decide) ?_
                  refine J_iadd hX dL_law_390 ?_
                  obtain ⟨b45, h⟩ := h
                  refine J_sldS hX hB dL_law_391 b45 ?_
                  refine J_aload_n hX dL_law_392 rfl 0 rfl ?_
                  refine J_iload_n hX dL_law_393 rfl 3 rfl ?_
                  refine J_iconst (v := (4 : Int32)) hX dL_law_394 (by decide) ?_
                  refine J_iadd hX dL_law_395 ?_
                  obtain ⟨b46, h⟩ := h
                  refine J_sldS hX hB dL_law_396 b46 ?_
                  refine J_aload_n hX dL_law_397 rfl 0 rfl ?_
                  refine J_iload_n hX dL_law_398 rfl 3 rfl ?_
                  refine J_iconst (v := (5 : Int32)) hX dL_law_399 (by decide) ?_
                  refine J_iadd hX dL_law_400 ?_
                  obtain ⟨b47, h⟩ := h
                  refine J_sldS hX hB dL_law_401 b47 ?_
                  refine J_aload_n hX dL_law_402 rfl 0 rfl ?_
                  refine J_iload_n hX dL_law_403 rfl 3 rfl ?_
                  refine J_bipush (v := (6 : Int32)) hX dL_law_404 (by decide) ?_
                  refine J_iadd hX dL_law_406 ?_
                  obtain ⟨b48, h⟩ := h
                  refine J_sldS hX hB dL_law_407 b48 ?_
                  refine J_callL hX km_X11_addPanel kl_RL_41 dL_law_408 ka_0 (by decide) [.int (sc (x3 + (1 : Int32)).toNatClampNeg), .int (sc (x3 + (2 : Int32)).toNatClampNeg), .int (sc (x3 + (3 : Int32)).toNatClampNeg), .int (sc (x3 + (4 : Int32)).toNatClampNeg), .int (sc (x3 + (5 : Int32)).toNatClampNeg), .int (sc (x3 + (6 : Int32)).toNatClampNeg)] ⟨Nat.le_of_ble_eq_true rfl, Nat.le_of_ble_eq_true rfl⟩ rfl rfl (Nat.le_of_ble_eq_true rfl) (c_X11_addPanel (sc (x3 + (1 : Int32)).toNatClampNeg) (sc (x3 + (2 : Int32)).toNatClampNeg) (sc (x3 + (3 : Int32)).toNatClampNeg) (sc (x3 + (4 : Int32)).toNatClampNeg) (sc (x3 + (5 : Int32)).toNatClampNeg) (sc (x3 + (6 : Int32)).toNatClampNeg) m _ h) (fun v w2 hk => ?_)
                  obtain ⟨y50, m49, rfl, rfl, h⟩ := hk
                  show J X (450, 28400) 411 [(0, .ref b), (1, .ref (ad 0)), (2, .ref (ad 426)), (3, .int x3)] [.int y50] (fl ad m49)
                  refine J_aload_n hX dL_law_411 rfl 2 rfl ?_
                  refine J_aload_n hX dL_law_412 rfl 0 rfl ?_
                  refine J_iload_n hX dL_law_413 rfl 3 rfl ?_
                  refine J_iconst (v := (1 : Int32)) hX dL_law_414 (by decide) ?_
                  refine J_iadd hX dL_law_415 ?_
                  refine J_sldS hX hB dL_law_416 b43 ?_
                  refine J_aload_n hX dL_law_417 rfl 0 rfl ?_
                  refine J_iload_n hX dL_law_418 rfl 3 rfl ?_
                  refine J_iconst (v := (2 : Int32)) hX dL_law_419 (by decide) ?_
                  refine J_iadd hX dL_law_420 ?_
                  refine J_sldS hX hB dL_law_421 b44 ?_
                  refine J_aload_n hX dL_law_422 rfl 0 rfl ?_
                  refine J_iload_n hX dL_law_423 rfl 3 rfl ?_
                  refine J_iconst (v := (3 : Int32)) hX dL_law_424 (by decide) ?_
                  refine J_iadd hX dL_law_425 ?_
                  refine J_sldS hX hB dL_law_426 b45 ?_
                  refine J_aload_n hX dL_law_427 rfl 0 rfl ?_
                  refine J_iload_n hX dL_law_428 rfl 3 rfl ?_
                  refine J_iconst (v := (4 : Int32)) hX dL_law_429 (by decide) ?_
                  refine J_iadd hX dL_law_430 ?_
                  refine J_sldS hX hB dL_law_431 b46 ?_
                  refine J_aload_n hX dL_law_432 rfl 0 rfl ?_
                  refine J_iload_n hX dL_law_433 rfl 3 rfl ?_
                  refine J_iconst (v := (5 : Int32)) hX dL_law_434 (by decide) ?_
                  refine J_iadd hX dL_law_435 ?_
                  refine J_sldS hX hB dL_law_436 b47 ?_
                  refine J_aload_n hX dL_law_437 rfl 0 rfl ?_
                  refine J_iload_n hX dL_law_438 rfl 3 rfl ?_
                  refine J_bipush (v := (6 : Int32)) hX dL_law_439 (by decide) ?_
                  refine J_iadd hX dL_law_441 ?_
                  refine J_sldS hX hB dL_law_442 b48 ?_
                  refine J_callL hX km_X12_addPanel kl_RL_45 dL_law_443 ka_426 (by decide) [.int (sc (x3 + (1 : Int32)).toNatClampNeg), .int (sc (x3 + (2 : Int32)).toNatClampNeg), .int (sc (x3 + (3 : Int32)).toNatClampNeg), .int (sc (x3 + (4 : Int32)).toNatClampNeg), .int (sc (x3 + (5 : Int32)).toNatClampNeg), .int (sc (x3 + (6 : Int32)).toNatClampNeg)] ⟨Nat.le_of_ble_eq_true rfl, Nat.le_of_ble_eq_true rfl⟩ rfl rfl (Nat.le_of_ble_eq_true rfl) (c_X12_addPanel (sc (x3 + (1 : Int32)).toNatClampNeg) (sc (x3 + (2 : Int32)).toNatClampNeg) (sc (x3 + (3 : Int32)).toNatClampNeg) (sc (x3 + (4 : Int32)).toNatClampNeg) (sc (x3 + (5 : Int32)).toNatClampNeg) (sc (x3 + (6 : Int32)).toNatClampNeg) m49 _ h) (fun v w2 hk => ?_)
                  obtain ⟨y52, m51, rfl, rfl, h⟩ := hk
                  show J X (450, 28400) 446 [(0, .ref b), (1, .ref (ad 0)), (2, .ref (ad 426)), (3, .int x3)] [.int y52, .int y50] (fl ad m51)
                  refine J_icmp_eq (tgt := 1530) hX dL_law_446 (by decide) (fun c53 => ?_) (fun c53 => ?_)
                  · replace h := Eq.mp (if_pos c53) h
                    refine J_iinc (x := (x3 + (7 : Int32))) (lv2 := [(3, .int (x3 + (7 : Int32))), (0, .ref b), (1, .ref (ad 0)), (2, .ref (ad 426))]) hX dL_law_1530 3 rfl rfl (Nat.le_of_ble_eq_true rfl) rfl ?_
                    refine J_goto (tgt := 18) hX dL_law_1533 (by decide) ?_
                    exact J_sub [1, 2, 3, 0] rfl (hrec (x3 + (7 : Int32)) m51 h)
                  · replace h := Eq.mp (if_neg c53) h
                    refine J_iconst (v := (0 : Int32)) hX dL_law_449 (by decide) ?_
                    exact J_lawret hX hR dL_law_450 bo_0 ⟨_, _, rfl, rfl, h⟩
                · replace h := Eq.mp (if_neg c42) h
                  by_cases c54 : ((sc x3.toNatClampNeg) &&& (63 : Int32)) = (7 : Int32)
                  · replace h := Eq.mp (if_pos c54) h
                    refine J_tabIn (v := (7 : Int32)) (tgt := 451) hX dL_law_33 c54 (by decide) (by decide) rfl (by decide) ?_
                    refine J_aload_n hX dL_law_451 rfl 1 rfl ?_
                    refine J_callL hX km_X11_removeLast kl_RL_46 dL_law_452 ka_0 (by decide) [] ⟨Nat.le_of_ble_eq_true rfl, Nat.le_of_ble_eq_true rfl⟩ rfl rfl (Nat.le_of_ble_eq_true rfl) (c_X11_removeLast m _ h) (fun v w2 hk => ?_)
                    obtain ⟨y56, m55, rfl, rfl, h⟩ := hk
                    show J X (450, 28400) 455 [(0, .ref b), (1, .ref (ad 0)), (2, .ref (ad 426)), (3, .int x3)] [.int y56] (fl ad m55)
                    refine J_aload_n hX dL_law_455 rfl 2 rfl ?_
                    refine J_callL hX km_X12_removeLast kl_RL_49 dL_law_456 ka_426 (by decide) [] ⟨Nat.le_of_ble_eq_true rfl, Nat.le_of_ble_eq_true rfl⟩ rfl rfl (Nat.le_of_ble_eq_true rfl) (c_X12_removeLast m55 _ h) (fun v w2 hk => ?_)
                    obtain ⟨y58, m57, rfl, rfl, h⟩ := hk
                    show J X (450, 28400) 459 [(0, .ref b), (1, .ref (ad 0)), (2, .ref (ad 426)), (3, .int x3)] [.int y58, .int y56] (fl ad m57)
                    refine J_icmp_eq (tgt := 1530) hX dL_law_459 (by decide) (fun c59 => ?_) (fun c59 => ?_)
                    · replace h := Eq.mp (if_pos c59) h
                      refine J_iinc (x := (x3 + (7 : Int32))) (lv2 := [(3, .int (x3 + (7 : Int32))), (0, .ref b), (1, .ref (ad 0)), (2, .ref (ad 426))]) hX dL_law_1530 3 rfl rfl (Nat.le_of_ble_eq_true rfl) rfl ?_
                      refine J_goto (tgt := 18) hX dL_law_1533 (by decide) ?_
                      exact J_sub [1, 2, 3, 0] rfl (hrec (x3 + (7 : Int32)) m57 h)
                    · replace h := Eq.mp (if_neg c59) h
                      refine J_iconst (v := (0 : Int32)) hX dL_law_462 (by decide) ?_
                      exact J_lawret hX hR dL_law_463 bo_0 ⟨_, _, rfl, rfl, h⟩
                  · replace h := Eq.mp (if_neg c54) h
                    by_cases c60 : ((sc x3.toNatClampNeg) &&& (63 : Int32)) = (8 : Int32)
                    · replace h := Eq.mp (if_pos c60) h
                      refine J_tabIn (v := (8 : Int32)) (tgt := 464) hX dL_law_33 c60 (by decide) (by decide) rfl (by decide) ?_
                      refine J_aload_n hX dL_law_464 rfl 1 rfl ?_
                      refine J_aload_n hX dL_law_465 rfl 0 rfl ?_
                      refine J_iload_n hX dL_law_466 rfl 3 rfl ?_
                      refine J_iconst (v := (1 : Int32)) hX dL_law_467 (by decide) ?_
                      refine J_iadd hX dL_law_468 ?_
                      obtain ⟨b61, h⟩ := h
                      refine J_sldS hX hB dL_law_469 b61 ?_
                      refine J_aload_n hX dL_law_470 rfl 0 rfl ?_
                      refine J_iload_n hX dL_law_471 rfl 3 rfl ?_
                      refine J_iconst (v := (2 : Int32)) hX dL_law_472 (by decide) ?_
                      refine J_iadd hX dL_law_473 ?_
                      obtain ⟨b62, h⟩ := h
                      refine J_sldS hX hB dL_law_474 b62 ?_
                      refine J_callL hX km_X11_setAngle kl_RL_50 dL_law_475 ka_0 (by decide) [.int (sc (x3 + (1 : Int32)).toNatClampNeg), .int (sc (x3 + (2 : Int32)).toNatClampNeg)] ⟨Nat.le_of_ble_eq_true rfl, Nat.le_of_ble_eq_true rfl⟩ rfl rfl (Nat.le_of_ble_eq_true rfl) (c_X11_setAngle (sc (x3 + (1 : Int32)).toNatClampNeg) (sc (x3 + (2 : Int32)).toNatClampNeg) m _ h) (fun v w2 hk => ?_)
                      obtain ⟨y64, m63, rfl, rfl, h⟩ := hk
                      show J X (450, 28400) 478 [(0, .ref b), (1, .ref (ad 0)), (2, .ref (ad 426)), (3, .int x3)] [.int y64] (fl ad m63)
                      refine J_aload_n hX dL_law_478 rfl 2 rfl ?_
                      refine J_aload_n hX dL_law_479 rfl 0 rfl ?_
                      refine J_iload_n hX dL_law_480 rfl 3 rfl ?_
                      refine J_iconst (v := (1 : Int32)) hX dL_law_481 (by decide) ?_
                      refine J_iadd hX dL_law_482 ?_
                      refine J_sldS hX hB dL_law_483 b61 ?_
                      refine J_aload_n hX dL_law_484 rfl 0 rfl ?_
                      refine J_iload_n hX dL_law_485 rfl 3 rfl ?_
                      refine J_iconst (v := (2 : Int32)) hX dL_law_486 (by decide) ?_
                      refine J_iadd hX dL_law_487 ?_
                      refine J_sldS hX hB dL_law_488 b62 ?_
                      refine J_callL hX km_X12_setAngle kl_RL_53 dL_law_489 ka_426 (by decide) [.int (sc (x3 + (1 : Int32)).toNatClampNeg), .int (sc (x3 + (2 : Int32)).toNatClampNeg)] ⟨Nat.le_of_ble_eq_true rfl, Nat.le_of_ble_eq_true rfl⟩ rfl rfl (Nat.le_of_ble_eq_true rfl) (c_X12_setAngle (sc (x3 + (1 : Int32)).toNatClampNeg) (sc (x3 + (2 : Int32)).toNatClampNeg) m63 _ h) (fun v w2 hk => ?_)
                      obtain ⟨y66, m65, rfl, rfl, h⟩ := hk
                      show J X (450, 28400) 492 [(0, .ref b), (1, .ref (ad 0)), (2, .ref (ad 426)), (3, .int x3)] [.int y66, .int y64] (fl ad m65)
                      refine J_icmp_eq (tgt := 1530) hX dL_law_492 (by decide) (fun c67 => ?_) (fun c67 => ?_)
                      · replace h := Eq.mp (if_pos c67) h
                        refine J_iinc (x := (x3 + (7 : Int32))) (lv2 := [(3, .int (x3 + (7 : Int32))), (0, .ref b), (1, .ref (ad 0)), (2, .ref (ad 426))]) hX dL_law_1530 3 rfl rfl (Nat.le_of_ble_eq_true rfl) rfl ?_
                        refine J_goto (tgt := 18) hX dL_law_1533 (by decide) ?_
                        exact J_sub [1, 2, 3, 0] rfl (hrec (x3 + (7 : Int32)) m65 h)
                      · replace h := Eq.mp (if_neg c67) h
                        refine J_iconst (v := (0 : Int32)) hX dL_law_495 (by decide) ?_
                        exact J_lawret hX hR dL_law_496 bo_0 ⟨_, _, rfl, rfl, h⟩
                    · replace h := Eq.mp (if_neg c60) h
                      by_cases c68 : ((sc x3.toNatClampNeg) &&& (63 : Int32)) = (9 : Int32)
                      · replace h := Eq.mp (if_pos c68) h
                        refine J_tabIn (v := (9 : Int32)) (tgt := 497) hX dL_law_33 c68 (by decide) (by decide) rfl (by decide) ?_
                        refine J_aload_n hX dL_law_497 rfl 1 rfl ?_
                        refine J_aload_n hX dL_law_498 rfl 0 rfl ?_
                        refine J_iload_n hX dL_law_499 rfl 3 rfl ?_
                        refine J_iconst (v := (1 : Int32)) hX dL_law_500 (by decide) ?_
                        refine J_iadd hX dL_law_501 ?_
                        obtain ⟨b69, h⟩ := h
                        refine J_sldS hX hB dL_law_502 b69 ?_
                        refine J_aload_n hX dL_law_503 rfl 0 rfl ?_
                        refine J_iload_n hX dL_law_504 rfl 3 rfl ?_
                        refine J_iconst (v := (2 : Int32)) hX dL_law_505 (by decide) ?_
                        refine J_iadd hX dL_law_506 ?_
                        obtain ⟨b70, h⟩ := h
                        refine J_sldS hX hB dL_law_507 b70 ?_
                        refine J_aload_n hX dL_law_508 rfl 0 rfl ?_
                        refine J_iload_n hX dL_law_509 rfl 3 rfl ?_
                        refine J_iconst (v := (3 : Int32)) hX dL_law_510 (by decide) ?_
                        refine J_iadd hX dL_law_511 ?_
                        obtain ⟨b71, h⟩ := h
                        refine J_sldS hX hB dL_law_512 b71 ?_
                        refine J_callL hX km_X11_setSize kl_RL_54 dL_law_513 ka_0 (by decide) [.int (sc (x3 + (1 : Int32)).toNatClampNeg), .int (sc (x3 + (2 : Int32)).toNatClampNeg), .int (sc (x3 + (3 : Int32)).toNatClampNeg)] ⟨Nat.le_of_ble_eq_true rfl, Nat.le_of_ble_eq_true rfl⟩ rfl rfl (Nat.le_of_ble_eq_true rfl) (c_X11_setSize (sc (x3 + (1 : Int32)).toNatClampNeg) (sc (x3 + (2 : Int32)).toNatClampNeg) (sc (x3 + (3 : Int32)).toNatClampNeg) m _ h) (fun v w2 hk => ?_)
                        obtain ⟨y73, m72, rfl, rfl, h⟩ := hk
                        show J X (450, 28400) 516 [(0, .ref b), (1, .ref (ad 0)), (2, .ref (ad 426)), (3, .int x3)] [.int y73] (fl ad m72)
                        refine J_aload_n hX dL_law_516 rfl 2 rfl ?_
                        refine J_aload_n hX dL_law_517 rfl 0 rfl ?_
                        refine J_iload_n hX dL_law_518 rfl 3 rfl ?_
                        refine J_iconst (v := (1 : Int32)) hX dL_law_519 (by decide) ?_
                        refine J_iadd hX dL_law_520 ?_
                        refine J_sldS hX hB dL_law_521 b69 ?_
                        refine J_aload_n hX dL_law_522 rfl 0 rfl ?_
                        refine J_iload_n hX dL_law_523 rfl 3 rfl ?_
                        refine J_iconst (v := (2 : Int32)) hX dL_law_524 (by decide) ?_
                        refine J_iadd hX dL_law_525 ?_
                        refine J_sldS hX hB dL_law_526 b70 ?_
                        refine J_aload_n hX dL_law_527 rfl 0 rfl ?_
                        refine J_iload_n hX dL_law_528 rfl 3 rfl ?_
                        refine J_iconst (v := (3 : Int32)) hX dL_law_529 (by decide) ?_
                        refine J_iadd hX dL_law_530 ?_
                        refine J_sldS hX hB dL_law_531 b71 ?_
                        refine J_callL hX km_X12_setSize kl_RL_58 dL_law_532 ka_426 (by decide) [.int (sc (x3 + (1 : Int32)).toNatClampNeg), .int (sc (x3 + (2 : Int32)).toNatClampNeg), .int (sc (x3 + (3 : Int32)).toNatClampNeg)] ⟨Nat.le_of_ble_eq_true rfl, Nat.le_of_ble_eq_true rfl⟩ rfl rfl (Nat.le_of_ble_eq_true rfl) (c_X12_setSize (sc (x3 + (1 : Int32)).toNatClampNeg) (sc (x3 + (2 : Int32)).toNatClampNeg) (sc (x3 + (3 : Int32)).toNatClampNeg) m72 _ h) (fun v w2 hk => ?_)
                        obtain ⟨y75, m74, rfl, rfl, h⟩ := hk
                        show J X (450, 28400) 535 [(0, .ref b), (1, .ref (ad 0)), (2, .ref (ad 426)), (3, .int x3)] [.int y75, .int y73] (fl ad m74)
                        refine J_icmp_eq (tgt := 1530) hX dL_law_535 (by decide) (fun c76 => ?_) (fun c76 => ?_)
                        · replace h := Eq.mp (if_pos c76) h
                          refine J_iinc (x := (x3 + (7 : Int32))) (lv2 := [(3, .int (x3 + (7 : Int32))), (0, .ref b), (1, .ref (ad 0)), (2, .ref (ad 426))]) hX dL_law_1530 3 rfl rfl (Nat.le_of_ble_eq_true rfl) rfl ?_
                          refine J_goto (tgt := 18) hX dL_law_1533 (by decide) ?_
                          exact J_sub [1, 2, 3, 0] rfl (hrec (x3 + (7 : Int32)) m74 h)
                        · replace h := Eq.mp (if_neg c76) h
                          refine J_iconst (v := (0 : Int32)) hX dL_law_538 (by decide) ?_
                          exact J_lawret hX hR dL_law_539 bo_0 ⟨_, _, rfl, rfl, h⟩
                      · replace h := Eq.mp (if_neg c68) h
                        by_cases c77 : ((sc x3.toNatClampNeg) &&& (63 : Int32)) = (10 : Int32)
                        · replace h := Eq.mp (if_pos c77) h
                          refine J_tabIn (v := (10 : Int32)) (tgt := 540) hX dL_law_33 c77 (by decide) (by decide) rfl (by decide) ?_
                          refine J_aload_n hX dL_law_540 rfl 1 rfl ?_
                          refine J_aload_n hX dL_law_541 rfl 0 rfl ?_
                          refine J_iload_n hX dL_law_542 rfl 3 rfl ?_
                          refine J_iconst (v := (1 : Int32)) hX dL_law_543 (by decide) ?_
                          refine J_iadd hX dL_law_544 ?_
                          obtain ⟨b78, h⟩ := h
                          refine J_sldS hX hB dL_law_545 b78 ?_
                          refine J_aload_n hX dL_law_546 rfl 0 rfl ?_
                          refine J_iload_n hX dL_law_547 rfl 3 rfl ?_
                          refine J_iconst (v := (2 : Int32)) hX dL_law_548 (by decide) ?_
                          refine J_iadd hX dL_law_549 ?_
                          obtain ⟨b79, h⟩ := h
                          refine J_sldS hX hB dL_law_550 b79 ?_
                          refine J_callL hX km_X11_setFlap kl_RL_59 dL_law_551 ka_0 (by decide) [.int (sc (x3 + (1 : Int32)).toNatClampNeg), .int (sc (x3 + (2 : Int32)).toNatClampNeg)] ⟨Nat.le_of_ble_eq_true rfl, Nat.le_of_ble_eq_true rfl⟩ rfl rfl (Nat.le_of_ble_eq_true rfl) (c_X11_setFlap (sc (x3 + (1 : Int32)).toNatClampNeg) (sc (x3 + (2 : Int32)).toNatClampNeg) m _ h) (fun v w2 hk => ?_)
                          obtain ⟨y81, m80, rfl, rfl, h⟩ := hk
                          show J X (450, 28400) 554 [(0, .ref b), (1, .ref (ad 0)), (2, .ref (ad 426)), (3, .int x3)] [.int y81] (fl ad m80)
                          refine J_aload_n hX dL_law_554 rfl 2 rfl ?_
                          refine J_aload_n hX dL_law_555 rfl 0 rfl ?_
                          refine J_iload_n hX dL_law_556 rfl 3 rfl ?_
                          refine J_iconst (v := (1 : Int32)) hX dL_law_557 (by decide) ?_
                          refine J_iadd hX dL_law_558 ?_
                          refine J_sldS hX hB dL_law_559 b78 ?_
                          refine J_aload_n hX dL_law_560 rfl 0 rfl ?_
                          refine J_iload_n hX dL_law_561 rfl 3 rfl ?_
                          refine J_iconst (v := (2 : Int32)) hX dL_law_562 (by decide) ?_
                          refine J_iadd hX dL_law_563 ?_
                          refine J_sldS hX hB dL_law_564 b79 ?_
                          refine J_callL hX km_X12_setFlap kl_RL_62 dL_law_565 ka_426 (by decide) [.int (sc (x3 + (1 : Int32)).toNatClampNeg), .int (sc (x3 + (2 : Int32)).toNatClampNeg)] ⟨Nat.le_of_ble_eq_true rfl, Nat.le_of_ble_eq_true rfl⟩ rfl rfl (Nat.le_of_ble_eq_true rfl) (c_X12_setFlap (sc (x3 + (1 : Int32)).toNatClampNeg) (sc (x3 + (2 : Int32)).toNatClampNeg) m80 _ h) (fun v w2 hk => ?_)
                          obtain ⟨y83, m82, rfl, rfl, h⟩ := hk
                          show J X (450, 28400) 568 [(0, .ref b), (1, .ref (ad 0)), (2, .ref (ad 426)), (3, .int x3)] [.int y83, .int y81] (fl ad m82)
                          refine J_icmp_eq (tgt := 1530) hX dL_law_568 (by decide) (fun c84 => ?_) (fun c84 => ?_)
                          · replace h := Eq.mp (if_pos c84) h
                            refine J_iinc (x := (x3 + (7 : Int32))) (lv2 := [(3, .int (x3 + (7 : Int32))), (0, .ref b), (1, .ref (ad 0)), (2, .ref (ad 426))]) hX dL_law_1530 3 rfl rfl (Nat.le_of_ble_eq_true rfl) rfl ?_
                            refine J_goto (tgt := 18) hX dL_law_1533 (by decide) ?_
                            exact J_sub [1, 2, 3, 0] rfl (hrec (x3 + (7 : Int32)) m82 h)
                          · replace h := Eq.mp (if_neg c84) h
                            refine J_iconst (v := (0 : Int32)) hX dL_law_571 (by decide) ?_
                            exact J_lawret hX hR dL_law_572 bo_0 ⟨_, _, rfl, rfl, h⟩
                        · replace h := Eq.mp (if_neg c77) h
                          by_cases c85 : ((sc x3.toNatClampNeg) &&& (63 : Int32)) = (11 : Int32)
                          · replace h := Eq.mp (if_pos c85) h
                            refine J_tabIn (v := (11 : Int32)) (tgt := 573) hX dL_law_33 c85 (by decide) (by decide) rfl (by decide) ?_
                            refine J_aload_n hX dL_law_573 rfl 1 rfl ?_
                            refine J_aload_n hX dL_law_574 rfl 0 rfl ?_
                            refine J_iload_n hX dL_law_575 rfl 3 rfl ?_
                            refine J_iconst (v := (1 : Int32)) hX dL_law_576 (by decide) ?_
                            refine J_iadd hX dL_law_577 ?_
                            obtain ⟨b86, h⟩ := h
                            refine J_sldS hX hB dL_law_578 b86 ?_
                            refine J_aload_n hX dL_law_579 rfl 0 rfl ?_
                            refine J_iload_n hX dL_law_580 rfl 3 rfl ?_
                            refine J_iconst (v := (2 : Int32)) hX dL_law_581 (by decide) ?_
                            refine J_iadd hX dL_law_582 ?_
                            obtain ⟨b87, h⟩ := h
                            refine J_sldS hX hB dL_law_583 b87 ?_
                            refine J_aload_n hX dL_law_584 rfl 0 rfl ?_
                            refine J_iload_n hX dL_law_585 rfl 3 rfl ?_
                            refine J_iconst (v := (3 : Int32)) hX dL_law_586 (by decide) ?_
                            refine J_iadd hX dL_law_587 ?_
                            obtain ⟨b88, h⟩ := h
                            refine J_sldS hX hB dL_law_588 b88 ?_
                            refine J_callL hX km_X11_defineImage kl_RL_63 dL_law_589 ka_0 (by decide) [.int (sc (x3 + (1 : Int32)).toNatClampNeg), .int (sc (x3 + (2 : Int32)).toNatClampNeg), .int (sc (x3 + (3 : Int32)).toNatClampNeg)] ⟨Nat.le_of_ble_eq_true rfl, Nat.le_of_ble_eq_true rfl⟩ rfl rfl (Nat.le_of_ble_eq_true rfl) (c_X11_defineImage (sc (x3 + (1 : Int32)).toNatClampNeg) (sc (x3 + (2 : Int32)).toNatClampNeg) (sc (x3 + (3 : Int32)).toNatClampNeg) m _ h) (fun v w2 hk => ?_)
                            obtain ⟨y90, m89, rfl, rfl, h⟩ := hk
                            show J X (450, 28400) 592 [(0, .ref b), (1, .ref (ad 0)), (2, .ref (ad 426)), (3, .int x3)] [.int y90] (fl ad m89)
                            refine J_aload_n hX dL_law_592 rfl 2 rfl ?_
                            refine J_aload_n hX dL_law_593 rfl 0 rfl ?_
                            refine J_iload_n hX dL_law_594 rfl 3 rfl ?_
                            refine J_iconst (v := (1 : Int32)) hX dL_law_595 (by decide) ?_
                            refine J_iadd hX dL_law_596 ?_
                            refine J_sldS hX hB dL_law_597 b86 ?_
                            refine J_aload_n hX dL_law_598 rfl 0 rfl ?_
                            refine J_iload_n hX dL_law_599 rfl 3 rfl ?_
                            refine J_iconst (v := (2 : Int32)) hX dL_law_600 (by decide) ?_
                            refine J_iadd hX dL_law_601 ?_
                            refine J_sldS hX hB dL_law_602 b87 ?_
                            refine J_aload_n hX dL_law_603 rfl 0 rfl ?_
                            refine J_iload_n hX dL_law_604 rfl 3 rfl ?_
                            refine J_iconst (v := (3 : Int32)) hX dL_law_605 (by decide) ?_
                            refine J_iadd hX dL_law_606 ?_
                            refine J_sldS hX hB dL_law_607 b88 ?_
                            refine J_callL hX km_X12_defineImage kl_RL_66 dL_law_608 ka_426 (by decide) [.int (sc (x3 + (1 : Int32)).toNatClampNeg), .int (sc (x3 + (2 : Int32)).toNatClampNeg), .int (sc (x3 + (3 : Int32)).toNatClampNeg)] ⟨Nat.le_of_ble_eq_true rfl, Nat.le_of_ble_eq_true rfl⟩ rfl rfl (Nat.le_of_ble_eq_true rfl) (c_X12_defineImage (sc (x3 + (1 : Int32)).toNatClampNeg) (sc (x3 + (2 : Int32)).toNatClampNeg) (sc (x3 + (3 : Int32)).toNatClampNeg) m89 _ h) (fun v w2 hk => ?_)
                            obtain ⟨y92, m91, rfl, rfl, h⟩ := hk
                            show J X (450, 28400) 611 [(0, .ref b), (1, .ref (ad 0)), (2, .ref (ad 426)), (3, .int x3)] [.int y92, .int y90] (fl ad m91)
                            refine J_icmp_eq (tgt := 1530) hX dL_law_611 (by decide) (fun c93 => ?_) (fun c93 => ?_)
                            · replace h := Eq.mp (if_pos c93) h
                              refine J_iinc (x := (x3 + (7 : Int32))) (lv2 := [(3, .int (x3 + (7 : Int32))), (0, .ref b), (1, .ref (ad 0)), (2, .ref (ad 426))]) hX dL_law_1530 3 rfl rfl (Nat.le_of_ble_eq_true rfl) rfl ?_
                              refine J_goto (tgt := 18) hX dL_law_1533 (by decide) ?_
                              exact J_sub [1, 2, 3, 0] rfl (hrec (x3 + (7 : Int32)) m91 h)
                            · replace h := Eq.mp (if_neg c93) h
                              refine J_iconst (v := (0 : Int32)) hX dL_law_614 (by decide) ?_
                              exact J_lawret hX hR dL_law_615 bo_0 ⟨_, _, rfl, rfl, h⟩
                          · replace h := Eq.mp (if_neg c85) h
                            by_cases c94 : ((sc x3.toNatClampNeg) &&& (63 : Int32)) = (12 : Int32)
                            · replace h := Eq.mp (if_pos c94) h
                              refine J_tabIn (v := (12 : Int32)) (tgt := 616) hX dL_law_33 c94 (by decide) (by decide) rfl (by decide) ?_
                              refine J_aload_n hX dL_law_616 rfl 1 rfl ?_
                              refine J_aload_n hX dL_law_617 rfl 0 rfl ?_
                              refine J_iload_n hX dL_law_618 rfl 3 rfl ?_
                              refine J_iconst (v := (1 : Int32)) hX dL_law_619 (by decide) ?_
                              refine J_iadd hX dL_law_620 ?_
                              obtain ⟨b95, h⟩ := h
                              refine J_sldS hX hB dL_law_621 b95 ?_
                              refine J_aload_n hX dL_law_622 rfl 0 rfl ?_
                              refine J_iload_n hX dL_law_623 rfl 3 rfl ?_
                              refine J_iconst (v := (2 : Int32)) hX dL_law_624 (by decide) ?_
                              refine J_iadd hX dL_law_625 ?_
                              obtain ⟨b96, h⟩ := h
                              refine J_sldS hX hB dL_law_626 b96 ?_
                              refine J_aload_n hX dL_law_627 rfl 0 rfl ?_
                              refine J_iload_n hX dL_law_628 rfl 3 rfl ?_
                              refine J_iconst (v := (3 : Int32)) hX dL_law_629 (by decide) ?_
                              refine J_iadd hX dL_law_630 ?_
                              obtain ⟨b97, h⟩ := h
                              refine J_sldS hX hB dL_law_631 b97 ?_
                              refine J_aload_n hX dL_law_632 rfl 0 rfl ?_
                              refine J_iload_n hX dL_law_633 rfl 3 rfl ?_
                              refine J_iconst (v := (4 : Int32)) hX dL_law_634 (by decide) ?_
                              refine J_iadd hX dL_law_635 ?_
                              obtain ⟨b98, h⟩ := h
                              refine J_sldS hX hB dL_law_636 b98 ?_
                              refine J_aload_n hX dL_law_637 rfl 0 rfl ?_
                              refine J_iload_n hX dL_law_638 rfl 3 rfl ?_
                              refine J_iconst (v := (5 : Int32)) hX dL_law_639 (by decide) ?_
                              refine J_iadd hX dL_law_640 ?_
                              obtain ⟨b99, h⟩ := h
                              refine J_sldS hX hB dL_law_641 b99 ?_
                              refine J_callL hX km_X11_place kl_RL_67 dL_law_642 ka_0 (by decide) [.int (sc (x3 + (1 : Int32)).toNatClampNeg), .int (sc (x3 + (2 : Int32)).toNatClampNeg), .int (sc (x3 + (3 : Int32)).toNatClampNeg), .int (sc (x3 + (4 : Int32)).toNatClampNeg), .int (sc (x3 + (5 : Int32)).toNatClampNeg)] ⟨Nat.le_of_ble_eq_true rfl, Nat.le_of_ble_eq_true rfl⟩ rfl rfl (Nat.le_of_ble_eq_true rfl) (c_X11_place (sc (x3 + (1 : Int32)).toNatClampNeg) (sc (x3 + (2 : Int32)).toNatClampNeg) (sc (x3 + (3 : Int32)).toNatClampNeg) (sc (x3 + (4 : Int32)).toNatClampNeg) (sc (x3 + (5 : Int32)).toNatClampNeg) m _ h) (fun v w2 hk => ?_)
                              obtain ⟨y101, m100, rfl, rfl, h⟩ := hk
                              show J X (450, 28400) 645 [(0, .ref b), (1, .ref (ad 0)), (2, .ref (ad 426)), (3, .int x3)] [.int y101] (fl ad m100)
                              refine J_aload_n hX dL_law_645 rfl 2 rfl ?_
                              refine J_aload_n hX dL_law_646 rfl 0 rfl ?_
                              refine J_iload_n hX dL_law_647 rfl 3 rfl ?_
                              refine J_iconst (v := (1 : Int32)) hX dL_law_648 (by decide) ?_
                              refine J_iadd hX dL_law_649 ?_
                              refine J_sldS hX hB dL_law_650 b95 ?_
                              refine J_aload_n hX dL_law_651 rfl 0 rfl ?_
                              refine J_iload_n hX dL_law_652 rfl 3 rfl ?_
                              refine J_iconst (v := (2 : Int32)) hX dL_law_653 (by decide) ?_
                              refine J_iadd hX dL_law_654 ?_
                              refine J_sldS hX hB dL_law_655 b96 ?_
                              refine J_aload_n hX dL_law_656 rfl 0 rfl ?_
                              refine J_iload_n hX dL_law_657 rfl 3 rfl ?_
                              refine J_iconst (v := (3 : Int32)) hX dL_law_658 (by decide) ?_
                              refine J_iadd hX dL_law_659 ?_
                              refine J_sldS hX hB dL_law_660 b97 ?_
                              refine J_aload_n hX dL_law_661 rfl 0 rfl ?_
                              refine J_iload_n hX dL_law_662 rfl 3 rfl ?_
                              refine J_iconst (v := (4 : Int32)) hX dL_law_663 (by decide) ?_
                              refine J_iadd hX dL_law_664 ?_
                              refine J_sldS hX hB dL_law_665 b98 ?_
                              refine J_aload_n hX dL_law_666 rfl 0 rfl ?_
                              refine J_iload_n hX dL_law_667 rfl 3 rfl ?_
                              refine J_iconst (v := (5 : Int32)) hX dL_law_668 (by decide) ?_
                              refine J_iadd hX dL_law_669 ?_
                              refine J_sldS hX hB dL_law_670 b99 ?_
                              refine J_callL hX km_X12_place kl_RL_71 dL_law_671 ka_426 (by decide) [.int (sc (x3 + (1 : Int32)).toNatClampNeg), .int (sc (x3 + (2 : Int32)).toNatClampNeg), .int (sc (x3 + (3 : Int32)).toNatClampNeg), .int (sc (x3 + (4 : Int32)).toNatClampNeg), .int (sc (x3 + (5 : Int32)).toNatClampNeg)] ⟨Nat.le_of_ble_eq_true rfl, Nat.le_of_ble_eq_true rfl⟩ rfl rfl (Nat.le_of_ble_eq_true rfl) (c_X12_place (sc (x3 + (1 : Int32)).toNatClampNeg) (sc (x3 + (2 : Int32)).toNatClampNeg) (sc (x3 + (3 : Int32)).toNatClampNeg) (sc (x3 + (4 : Int32)).toNatClampNeg) (sc (x3 + (5 : Int32)).toNatClampNeg) m100 _ h) (fun v w2 hk => ?_)
                              obtain ⟨y103, m102, rfl, rfl, h⟩ := hk
                              show J X (450, 28400) 674 [(0, .ref b), (1, .ref (ad 0)), (2, .ref (ad 426)), (3, .int x3)] [.int y103, .int y101] (fl ad m102)
                              refine J_icmp_eq (tgt := 1530) hX dL_law_674 (by decide) (fun c104 => ?_) (fun c104 => ?_)
                              · replace h := Eq.mp (if_pos c104) h
                                refine J_iinc (x := (x3 + (7 : Int32))) (lv2 := [(3, .int (x3 + (7 : Int32))), (0, .ref b), (1, .ref (ad 0)), (2, .ref (ad 426))]) hX dL_law_1530 3 rfl rfl (Nat.le_of_ble_eq_true rfl) rfl ?_
                                refine J_goto (tgt := 18) hX dL_law_1533 (by decide) ?_
                                exact J_sub [1, 2, 3, 0] rfl (hrec (x3 + (7 : Int32)) m102 h)
                              · replace h := Eq.mp (if_neg c104) h
                                refine J_iconst (v := (0 : Int32)) hX dL_law_677 (by decide) ?_
                                exact J_lawret hX hR dL_law_678 bo_0 ⟨_, _, rfl, rfl, h⟩
                            · replace h := Eq.mp (if_neg c94) h
                              by_cases c105 : ((sc x3.toNatClampNeg) &&& (63 : Int32)) = (13 : Int32)
                              · replace h := Eq.mp (if_pos c105) h
                                refine J_tabIn (v := (13 : Int32)) (tgt := 679) hX dL_law_33 c105 (by decide) (by decide) rfl (by decide) ?_
                                refine J_aload_n hX dL_law_679 rfl 1 rfl ?_
                                refine J_aload_n hX dL_law_680 rfl 0 rfl ?_
                                refine J_iload_n hX dL_law_681 rfl 3 rfl ?_
                                refine J_iconst (v := (1 : Int32)) hX dL_law_682 (by decide) ?_
                                refine J_iadd hX dL_law_683 ?_
                                obtain ⟨b106, h⟩ := h
                                refine J_sldS hX hB dL_law_684 b106 ?_
                                refine J_callL hX km_X11_clearImage kl_RL_72 dL_law_685 ka_0 (by decide) [.int (sc (x3 + (1 : Int32)).toNatClampNeg)] ⟨Nat.le_of_ble_eq_true rfl, Nat.le_of_ble_eq_true rfl⟩ rfl rfl (Nat.le_of_ble_eq_true rfl) (c_X11_clearImage (sc (x3 + (1 : Int32)).toNatClampNeg) m _ h) (fun v w2 hk => ?_)
                                obtain ⟨y108, m107, rfl, rfl, h⟩ := hk
                                show J X (450, 28400) 688 [(0, .ref b), (1, .ref (ad 0)), (2, .ref (ad 426)), (3, .int x3)] [.int y108] (fl ad m107)
                                refine J_aload_n hX dL_law_688 rfl 2 rfl ?_
                                refine J_aload_n hX dL_law_689 rfl 0 rfl ?_
                                refine J_iload_n hX dL_law_690 rfl 3 rfl ?_
                                refine J_iconst (v := (1 : Int32)) hX dL_law_691 (by decide) ?_
                                refine J_iadd hX dL_law_692 ?_
                                refine J_sldS hX hB dL_law_693 b106 ?_
                                refine J_callL hX km_X12_clearImage kl_RL_75 dL_law_694 ka_426 (by decide) [.int (sc (x3 + (1 : Int32)).toNatClampNeg)] ⟨Nat.le_of_ble_eq_true rfl, Nat.le_of_ble_eq_true rfl⟩ rfl rfl (Nat.le_of_ble_eq_true rfl) (c_X12_clearImage (sc (x3 + (1 : Int32)).toNatClampNeg) m107 _ h) (fun v w2 hk => ?_)
                                obtain ⟨y110, m109, rfl, rfl, h⟩ := hk
                                show J X (450, 28400) 697 [(0, .ref b), (1, .ref (ad 0)), (2, .ref (ad 426)), (3, .int x3)] [.int y110, .int y108] (fl ad m109)
                                refine J_icmp_eq (tgt := 1530) hX dL_law_697 (by decide) (fun c111 => ?_) (fun c111 => ?_)
                                · replace h := Eq.mp (if_pos c111) h
                                  refine J_iinc (x := (x3 + (7 : Int32))) (lv2 := [(3, .int (x3 + (7 : Int32))), (0, .ref b), (1, .ref (ad 0)), (2, .ref (ad 426))]) hX dL_law_1530 3 rfl rfl (Nat.le_of_ble_eq_true rfl) rfl ?_
                                  refine J_goto (tgt := 18) hX dL_law_1533 (by decide) ?_
                                  exact J_sub [1, 2, 3, 0] rfl (hrec (x3 + (7 : Int32)) m109 h)
                                · replace h := Eq.mp (if_neg c111) h
                                  refine J_iconst (v := (0 : Int32)) hX dL_law_700 (by decide) ?_
                                  exact J_lawret hX hR dL_law_701 bo_0 ⟨_, _, rfl, rfl, h⟩
                              · replace h := Eq.mp (if_neg c105) h
                                by_cases c112 : ((sc x3.toNatClampNeg) &&& (63 : Int32)) = (14 : Int32)
                                · replace h := Eq.mp (if_pos c112) h
                                  refine J_tabIn (v := (14 : Int32)) (tgt := 702) hX dL_law_33 c112 (by decide) (by decide) rfl (by decide) ?_
                                  refine J_aload_n hX dL_law_702 rfl 1 rfl ?_
                                  refine J_aload_n hX dL_law_703 rfl 0 rfl ?_
                                  refine J_iload_n hX dL_law_704 rfl 3 rfl ?_
                                  refine J_iconst (v := (1 : Int32)) hX dL_law_705 (by decide) ?_
                                  refine J_iadd hX dL_law_706 ?_
                                  obtain ⟨b113, h⟩ := h
                                  refine J_sldS hX hB dL_law_707 b113 ?_
                                  refine J_aload_n hX dL_law_708 rfl 0 rfl ?_
                                  refine J_iload_n hX dL_law_709 rfl 3 rfl ?_
                                  refine J_iconst (v := (2 : Int32)) hX dL_law_710 (by decide) ?_
                                  refine J_iadd hX dL_law_711 ?_
                                  obtain ⟨b114, h⟩ := h
                                  refine J_sldS hX hB dL_law_712 b114 ?_
                                  have hj125 : ∀ y116 : Int32, y116 = (if (sc (x3 + (2 : Int32)).toNatClampNeg) = (0 : Int32) then (0 : Int32) else (1 : Int32)) → J X (450, 28400) 721 [(0, .ref b), (1, .ref (ad 0)), (2, .ref (ad 426)), (3, .int x3)] [.int y116, .int (sc (x3 + (1 : Int32)).toNatClampNeg), .ref (ad 0)] (fl ad m) := by
                                    intro y116 e_y116
                                    replace h := h y116 e_y116
                                    refine J_callL hX km_X11_continueImage kl_RL_76 dL_law_721 ka_0 (by decide) [.int (sc (x3 + (1 : Int32)).toNatClampNeg), .int y116] ⟨Nat.le_of_ble_eq_true rfl, Nat.le_of_ble_eq_true rfl⟩ rfl rfl (Nat.le_of_ble_eq_true rfl) (c_X11_continueImage (sc (x3 + (1 : Int32)).toNatClampNeg) y116 m _ h) (fun v w2 hk => ?_)
                                    obtain ⟨y118, m117, rfl, rfl, h⟩ := hk
                                    show J X (450, 28400) 724 [(0, .ref b), (1, .ref (ad 0)), (2, .ref (ad 426)), (3, .int x3)] [.int y118] (fl ad m117)
                                    refine J_aload_n hX dL_law_724 rfl 2 rfl ?_
                                    refine J_aload_n hX dL_law_725 rfl 0 rfl ?_
                                    refine J_iload_n hX dL_law_726 rfl 3 rfl ?_
                                    refine J_iconst (v := (1 : Int32)) hX dL_law_727 (by decide) ?_
                                    refine J_iadd hX dL_law_728 ?_
                                    refine J_sldS hX hB dL_law_729 b113 ?_
                                    refine J_aload_n hX dL_law_730 rfl 0 rfl ?_
                                    refine J_iload_n hX dL_law_731 rfl 3 rfl ?_
                                    refine J_iconst (v := (2 : Int32)) hX dL_law_732 (by decide) ?_
                                    refine J_iadd hX dL_law_733 ?_
                                    refine J_sldS hX hB dL_law_734 b114 ?_
                                    have hj124 : ∀ y120 : Int32, y120 = (if (sc (x3 + (2 : Int32)).toNatClampNeg) = (0 : Int32) then (0 : Int32) else (1 : Int32)) → J X (450, 28400) 743 [(0, .ref b), (1, .ref (ad 0)), (2, .ref (ad 426)), (3, .int x3)] [.int y120, .int (sc (x3 + (1 : Int32)).toNatClampNeg), .ref (ad 426), .int y118] (fl ad m117) := by
                                      intro y120 e_y120
                                      replace h := h y120 e_y120
                                      refine J_callL hX km_X12_continueImage kl_RL_80 dL_law_743 ka_426 (by decide) [.int (sc (x3 + (1 : Int32)).toNatClampNeg), .int y120] ⟨Nat.le_of_ble_eq_true rfl, Nat.le_of_ble_eq_true rfl⟩ rfl rfl (Nat.le_of_ble_eq_true rfl) (c_X12_continueImage (sc (x3 + (1 : Int32)).toNatClampNeg) y120 m117 _ h) (fun v w2 hk => ?_)
                                      obtain ⟨y122, m121, rfl, rfl, h⟩ := hk
                                      show J X (450, 28400) 746 [(0, .ref b), (1, .ref (ad 0)), (2, .ref (ad 426)), (3, .int x3)] [.int y122, .int y118] (fl ad m121)
                                      refine J_icmp_eq (tgt := 1530) hX dL_law_746 (by decide) (fun c123 => ?_) (fun c123 => ?_)
                                      · replace h := Eq.mp (if_pos c123) h
                                        refine J_iinc (x := (x3 + (7 : Int32))) (lv2 := [(3, .int (x3 + (7 : Int32))), (0, .ref b), (1, .ref (ad 0)), (2, .ref (ad 426))]) hX dL_law_1530 3 rfl rfl (Nat.le_of_ble_eq_true rfl) rfl ?_
                                        refine J_goto (tgt := 18) hX dL_law_1533 (by decide) ?_
                                        exact J_sub [1, 2, 3, 0] rfl (hrec (x3 + (7 : Int32)) m121 h)
                                      · replace h := Eq.mp (if_neg c123) h
                                        refine J_iconst (v := (0 : Int32)) hX dL_law_749 (by decide) ?_
                                        exact J_lawret hX hR dL_law_750 bo_0 ⟨_, _, rfl, rfl, h⟩
                                    refine J_if_eq (tgt := 742) hX dL_law_735 (by decide) (fun c119 => ?_) (fun c119 => ?_)
                                    · refine J_iconst (v := (0 : Int32)) hX dL_law_742 (by decide) ?_
                                      exact J_sub [0, 1, 2, 3] rfl (hj124 _ (if_pos c119).symm)
                                    · refine J_iconst (v := (1 : Int32)) hX dL_law_738 (by decide) ?_
                                      refine J_goto (tgt := 743) hX dL_law_739 (by decide) ?_
                                      exact J_sub [0, 1, 2, 3] rfl (hj124 _ (if_neg c119).symm)
                                  refine J_if_eq (tgt := 720) hX dL_law_713 (by decide) (fun c115 => ?_) (fun c115 => ?_)
                                  · refine J_iconst (v := (0 : Int32)) hX dL_law_720 (by decide) ?_
                                    exact J_sub [0, 1, 2, 3] rfl (hj125 _ (if_pos c115).symm)
                                  · refine J_iconst (v := (1 : Int32)) hX dL_law_716 (by decide) ?_
                                    refine J_goto (tgt := 721) hX dL_law_717 (by decide) ?_
                                    exact J_sub [0, 1, 2, 3] rfl (hj125 _ (if_neg c115).symm)
                                · replace h := Eq.mp (if_neg c112) h
                                  by_cases c126 : ((sc x3.toNatClampNeg) &&& (63 : Int32)) = (15 : Int32)
                                  · replace h := Eq.mp (if_pos c126) h
                                    refine J_tabIn (v := (15 : Int32)) (tgt := 751) hX dL_law_33 c126 (by decide) (by decide) rfl (by decide) ?_
                                    refine J_aload_n hX dL_law_751 rfl 1 rfl ?_
                                    refine J_aload_n hX dL_law_752 rfl 0 rfl ?_
                                    refine J_iload_n hX dL_law_753 rfl 3 rfl ?_
                                    refine J_iconst (v := (1 : Int32)) hX dL_law_754 (by decide) ?_
                                    refine J_iadd hX dL_law_755 ?_
                                    obtain ⟨b127, h⟩ := h
                                    refine J_sldS hX hB dL_law_756 b127 ?_
                                    refine J_callL hX km_X11_spreadImage kl_RL_81 dL_law_757 ka_0 (by decide) [.int (sc (x3 + (1 : Int32)).toNatClampNeg)] ⟨Nat.le_of_ble_eq_true rfl, Nat.le_of_ble_eq_true rfl⟩ rfl rfl (Nat.le_of_ble_eq_true rfl) (c_X11_spreadImage (sc (x3 + (1 : Int32)).toNatClampNeg) m _ h) (fun v w2 hk => ?_)
                                    obtain ⟨y129, m128, rfl, rfl, h⟩ := hk
                                    show J X (450, 28400) 760 [(0, .ref b), (1, .ref (ad 0)), (2, .ref (ad 426)), (3, .int x3)] [.int y129] (fl ad m128)
                                    refine J_aload_n hX dL_law_760 rfl 2 rfl ?_
                                    refine J_aload_n hX dL_law_761 rfl 0 rfl ?_
                                    refine J_iload_n hX dL_law_762 rfl 3 rfl ?_
                                    refine J_iconst (v := (1 : Int32)) hX dL_law_763 (by decide) ?_
                                    refine J_iadd hX dL_law_764 ?_
                                    refine J_sldS hX hB dL_law_765 b127 ?_
                                    refine J_callL hX km_X12_spreadImage kl_RL_84 dL_law_766 ka_426 (by decide) [.int (sc (x3 + (1 : Int32)).toNatClampNeg)] ⟨Nat.le_of_ble_eq_true rfl, Nat.le_of_ble_eq_true rfl⟩ rfl rfl (Nat.le_of_ble_eq_true rfl) (c_X12_spreadImage (sc (x3 + (1 : Int32)).toNatClampNeg) m128 _ h) (fun v w2 hk => ?_)
                                    obtain ⟨y131, m130, rfl, rfl, h⟩ := hk
                                    show J X (450, 28400) 769 [(0, .ref b), (1, .ref (ad 0)), (2, .ref (ad 426)), (3, .int x3)] [.int y131, .int y129] (fl ad m130)
                                    refine J_icmp_eq (tgt := 1530) hX dL_law_769 (by decide) (fun c132 => ?_) (fun c132 => ?_)
                                    · replace h := Eq.mp (if_pos c132) h
                                      refine J_iinc (x := (x3 + (7 : Int32))) (lv2 := [(3, .int (x3 + (7 : Int32))), (0, .ref b), (1, .ref (ad 0)), (2, .ref (ad 426))]) hX dL_law_1530 3 rfl rfl (Nat.le_of_ble_eq_true rfl) rfl ?_
                                      refine J_goto (tgt := 18) hX dL_law_1533 (by decide) ?_
                                      exact J_sub [1, 2, 3, 0] rfl (hrec (x3 + (7 : Int32)) m130 h)
                                    · replace h := Eq.mp (if_neg c132) h
                                      refine J_iconst (v := (0 : Int32)) hX dL_law_772 (by decide) ?_
                                      exact J_lawret hX hR dL_law_773 bo_0 ⟨_, _, rfl, rfl, h⟩
                                  · replace h := Eq.mp (if_neg c126) h
                                    by_cases c133 : ((sc x3.toNatClampNeg) &&& (63 : Int32)) = (16 : Int32)
                                    · replace h := Eq.mp (if_pos c133) h
                                      refine J_tabIn (v := (16 : Int32)) (tgt := 774) hX dL_law_33 c133 (by decide) (by decide) rfl (by decide) ?_
                                      refine J_aload_n hX dL_law_774 rfl 1 rfl ?_
                                      refine J_aload_n hX dL_law_775 rfl 0 rfl ?_
                                      refine J_iload_n hX dL_law_776 rfl 3 rfl ?_
                                      refine J_iconst (v := (1 : Int32)) hX dL_law_777 (by decide) ?_
                                      refine J_iadd hX dL_law_778 ?_
                                      obtain ⟨b134, h⟩ := h
                                      refine J_sldS hX hB dL_law_779 b134 ?_
                                      refine J_aload_n hX dL_law_780 rfl 0 rfl ?_
                                      refine J_iload_n hX dL_law_781 rfl 3 rfl ?_
                                      refine J_iconst (v := (2 : Int32)) hX dL_law_782 (by decide) ?_
                                      refine J_iadd hX dL_law_783 ?_
                                      obtain ⟨b135, h⟩ := h
                                      refine J_sldS hX hB dL_law_784 b135 ?_
                                      refine J_callL hX km_X11_setLimit kl_RL_85 dL_law_785 ka_0 (by decide) [.int (sc (x3 + (1 : Int32)).toNatClampNeg), .int (sc (x3 + (2 : Int32)).toNatClampNeg)] ⟨Nat.le_of_ble_eq_true rfl, Nat.le_of_ble_eq_true rfl⟩ rfl rfl (Nat.le_of_ble_eq_true rfl) (c_X11_setLimit (sc (x3 + (1 : Int32)).toNatClampNeg) (sc (x3 + (2 : Int32)).toNatClampNeg) m _ h) (fun v w2 hk => ?_)
                                      obtain ⟨y137, m136, rfl, rfl, h⟩ := hk
                                      show J X (450, 28400) 788 [(0, .ref b), (1, .ref (ad 0)), (2, .ref (ad 426)), (3, .int x3)] [.int y137] (fl ad m136)
                                      refine J_aload_n hX dL_law_788 rfl 2 rfl ?_
                                      refine J_aload_n hX dL_law_789 rfl 0 rfl ?_
                                      refine J_iload_n hX dL_law_790 rfl 3 rfl ?_
                                      refine J_iconst (v := (1 : Int32)) hX dL_law_791 (by decide) ?_
                                      refine J_iadd hX dL_law_792 ?_
                                      refine J_sldS hX hB dL_law_793 b134 ?_
                                      refine J_aload_n hX dL_law_794 rfl 0 rfl ?_
                                      refine J_iload_n hX dL_law_795 rfl 3 rfl ?_
                                      refine J_iconst (v := (2 : Int32)) hX dL_law_796 (by decide) ?_
                                      refine J_iadd hX dL_law_797 ?_
                                      refine J_sldS hX hB dL_law_798 b135 ?_
                                      refine J_callL hX km_X12_setLimit kl_RL_88 dL_law_799 ka_426 (by decide) [.int (sc (x3 + (1 : Int32)).toNatClampNeg), .int (sc (x3 + (2 : Int32)).toNatClampNeg)] ⟨Nat.le_of_ble_eq_true rfl, Nat.le_of_ble_eq_true rfl⟩ rfl rfl (Nat.le_of_ble_eq_true rfl) (c_X12_setLimit (sc (x3 + (1 : Int32)).toNatClampNeg) (sc (x3 + (2 : Int32)).toNatClampNeg) m136 _ h) (fun v w2 hk => ?_)
                                      obtain ⟨y139, m138, rfl, rfl, h⟩ := hk
                                      show J X (450, 28400) 802 [(0, .ref b), (1, .ref (ad 0)), (2, .ref (ad 426)), (3, .int x3)] [.int y139, .int y137] (fl ad m138)
                                      refine J_icmp_eq (tgt := 1530) hX dL_law_802 (by decide) (fun c140 => ?_) (fun c140 => ?_)
                                      · replace h := Eq.mp (if_pos c140) h
                                        refine J_iinc (x := (x3 + (7 : Int32))) (lv2 := [(3, .int (x3 + (7 : Int32))), (0, .ref b), (1, .ref (ad 0)), (2, .ref (ad 426))]) hX dL_law_1530 3 rfl rfl (Nat.le_of_ble_eq_true rfl) rfl ?_
                                        refine J_goto (tgt := 18) hX dL_law_1533 (by decide) ?_
                                        exact J_sub [1, 2, 3, 0] rfl (hrec (x3 + (7 : Int32)) m138 h)
                                      · replace h := Eq.mp (if_neg c140) h
                                        refine J_iconst (v := (0 : Int32)) hX dL_law_805 (by decide) ?_
                                        exact J_lawret hX hR dL_law_806 bo_0 ⟨_, _, rfl, rfl, h⟩
                                    · replace h := Eq.mp (if_neg c133) h
                                      by_cases c141 : ((sc x3.toNatClampNeg) &&& (63 : Int32)) = (17 : Int32)
                                      · replace h := Eq.mp (if_pos c141) h
                                        refine J_tabIn (v := (17 : Int32)) (tgt := 807) hX dL_law_33 c141 (by decide) (by decide) rfl (by decide) ?_
                                        refine J_aload_n hX dL_law_807 rfl 1 rfl ?_
                                        refine J_aload_n hX dL_law_808 rfl 0 rfl ?_
                                        refine J_iload_n hX dL_law_809 rfl 3 rfl ?_
                                        refine J_iconst (v := (1 : Int32)) hX dL_law_810 (by decide) ?_
                                        refine J_iadd hX dL_law_811 ?_
                                        obtain ⟨b142, h⟩ := h
                                        refine J_sldS hX hB dL_law_812 b142 ?_
                                        refine J_aload_n hX dL_law_813 rfl 0 rfl ?_
                                        refine J_iload_n hX dL_law_814 rfl 3 rfl ?_
                                        refine J_iconst (v := (2 : Int32)) hX dL_law_815 (by decide) ?_
                                        refine J_iadd hX dL_law_816 ?_
                                        obtain ⟨b143, h⟩ := h
                                        refine J_sldS hX hB dL_law_817 b143 ?_
                                        refine J_callL hX km_X11_setWeight kl_RL_89 dL_law_818 ka_0 (by decide) [.int (sc (x3 + (1 : Int32)).toNatClampNeg), .int (sc (x3 + (2 : Int32)).toNatClampNeg)] ⟨Nat.le_of_ble_eq_true rfl, Nat.le_of_ble_eq_true rfl⟩ rfl rfl (Nat.le_of_ble_eq_true rfl) (c_X11_setWeight (sc (x3 + (1 : Int32)).toNatClampNeg) (sc (x3 + (2 : Int32)).toNatClampNeg) m _ h) (fun v w2 hk => ?_)
                                        obtain ⟨y145, m144, rfl, rfl, h⟩ := hk
                                        show J X (450, 28400) 821 [(0, .ref b), (1, .ref (ad 0)), (2, .ref (ad 426)), (3, .int x3)] [.int y145] (fl ad m144)
                                        refine J_aload_n hX dL_law_821 rfl 2 rfl ?_
                                        refine J_aload_n hX dL_law_822 rfl 0 rfl ?_
                                        refine J_iload_n hX dL_law_823 rfl 3 rfl ?_
                                        refine J_iconst (v := (1 : Int32)) hX dL_law_824 (by decide) ?_
                                        refine J_iadd hX dL_law_825 ?_
                                        refine J_sldS hX hB dL_law_826 b142 ?_
                                        refine J_aload_n hX dL_law_827 rfl 0 rfl ?_
                                        refine J_iload_n hX dL_law_828 rfl 3 rfl ?_
                                        refine J_iconst (v := (2 : Int32)) hX dL_law_829 (by decide) ?_
                                        refine J_iadd hX dL_law_830 ?_
                                        refine J_sldS hX hB dL_law_831 b143 ?_
                                        refine J_callL hX km_X12_setWeight kl_RL_92 dL_law_832 ka_426 (by decide) [.int (sc (x3 + (1 : Int32)).toNatClampNeg), .int (sc (x3 + (2 : Int32)).toNatClampNeg)] ⟨Nat.le_of_ble_eq_true rfl, Nat.le_of_ble_eq_true rfl⟩ rfl rfl (Nat.le_of_ble_eq_true rfl) (c_X12_setWeight (sc (x3 + (1 : Int32)).toNatClampNeg) (sc (x3 + (2 : Int32)).toNatClampNeg) m144 _ h) (fun v w2 hk => ?_)
                                        obtain ⟨y147, m146, rfl, rfl, h⟩ := hk
                                        show J X (450, 28400) 835 [(0, .ref b), (1, .ref (ad 0)), (2, .ref (ad 426)), (3, .int x3)] [.int y147, .int y145] (fl ad m146)
                                        refine J_icmp_eq (tgt := 1530) hX dL_law_835 (by decide) (fun c148 => ?_) (fun c148 => ?_)
                                        · replace h := Eq.mp (if_pos c148) h
                                          refine J_iinc (x := (x3 + (7 : Int32))) (lv2 := [(3, .int (x3 + (7 : Int32))), (0, .ref b), (1, .ref (ad 0)), (2, .ref (ad 426))]) hX dL_law_1530 3 rfl rfl (Nat.le_of_ble_eq_true rfl) rfl ?_
                                          refine J_goto (tgt := 18) hX dL_law_1533 (by decide) ?_
                                          exact J_sub [1, 2, 3, 0] rfl (hrec (x3 + (7 : Int32)) m146 h)
                                        · replace h := Eq.mp (if_neg c148) h
                                          refine J_iconst (v := (0 : Int32)) hX dL_law_838 (by decide) ?_
                                          exact J_lawret hX hR dL_law_839 bo_0 ⟨_, _, rfl, rfl, h⟩
                                      · replace h := Eq.mp (if_neg c141) h
                                        by_cases c149 : ((sc x3.toNatClampNeg) &&& (63 : Int32)) = (18 : Int32)
                                        · replace h := Eq.mp (if_pos c149) h
                                          refine J_tabIn (v := (18 : Int32)) (tgt := 840) hX dL_law_33 c149 (by decide) (by decide) rfl (by decide) ?_
                                          refine J_aload_n hX dL_law_840 rfl 1 rfl ?_
                                          refine J_callL hX km_X11_undo kl_RL_93 dL_law_841 ka_0 (by decide) [] ⟨Nat.le_of_ble_eq_true rfl, Nat.le_of_ble_eq_true rfl⟩ rfl rfl (Nat.le_of_ble_eq_true rfl) (c_X11_undo m _ h) (fun v w2 hk => ?_)
                                          obtain ⟨y151, m150, rfl, rfl, h⟩ := hk
                                          show J X (450, 28400) 844 [(0, .ref b), (1, .ref (ad 0)), (2, .ref (ad 426)), (3, .int x3)] [.int y151] (fl ad m150)
                                          refine J_aload_n hX dL_law_844 rfl 2 rfl ?_
                                          refine J_callL hX km_X12_undo kl_RL_96 dL_law_845 ka_426 (by decide) [] ⟨Nat.le_of_ble_eq_true rfl, Nat.le_of_ble_eq_true rfl⟩ rfl rfl (Nat.le_of_ble_eq_true rfl) (c_X12_undo m150 _ h) (fun v w2 hk => ?_)
                                          obtain ⟨y153, m152, rfl, rfl, h⟩ := hk
                                          show J X (450, 28400) 848 [(0, .ref b), (1, .ref (ad 0)), (2, .ref (ad 426)), (3, .int x3)] [.int y153, .int y151] (fl ad m152)
                                          refine J_icmp_eq (tgt := 1530) hX dL_law_848 (by decide) (fun c154 => ?_) (fun c154 => ?_)
                                          · replace h := Eq.mp (if_pos c154) h
                                            refine J_iinc (x := (x3 + (7 : Int32))) (lv2 := [(3, .int (x3 + (7 : Int32))), (0, .ref b), (1, .ref (ad 0)), (2, .ref (ad 426))]) hX dL_law_1530 3 rfl rfl (Nat.le_of_ble_eq_true rfl) rfl ?_
                                            refine J_goto (tgt := 18) hX dL_law_1533 (by decide) ?_
                                            exact J_sub [1, 2, 3, 0] rfl (hrec (x3 + (7 : Int32)) m152 h)
                                          · replace h := Eq.mp (if_neg c154) h
                                            refine J_iconst (v := (0 : Int32)) hX dL_law_851 (by decide) ?_
                                            exact J_lawret hX hR dL_law_852 bo_0 ⟨_, _, rfl, rfl, h⟩
                                        · replace h := Eq.mp (if_neg c149) h
                                          by_cases c155 : ((sc x3.toNatClampNeg) &&& (63 : Int32)) = (19 : Int32)
                                          · replace h := Eq.mp (if_pos c155) h
                                            refine J_tabIn (v := (19 : Int32)) (tgt := 853) hX dL_law_33 c155 (by decide) (by decide) rfl (by decide) ?_
                                            refine J_aload_n hX dL_law_853 rfl 1 rfl ?_
                                            refine J_aload_n hX dL_law_854 rfl 0 rfl ?_
                                            refine J_iload_n hX dL_law_855 rfl 3 rfl ?_
                                            refine J_iconst (v := (1 : Int32)) hX dL_law_856 (by decide) ?_
                                            refine J_iadd hX dL_law_857 ?_
                                            obtain ⟨b156, h⟩ := h
                                            refine J_sldS hX hB dL_law_858 b156 ?_
                                            refine J_callL hX km_X11_save kl_RL_97 dL_law_859 ka_0 (by decide) [.int (sc (x3 + (1 : Int32)).toNatClampNeg)] ⟨Nat.le_of_ble_eq_true rfl, Nat.le_of_ble_eq_true rfl⟩ rfl rfl (Nat.le_of_ble_eq_true rfl) (c_X11_save (sc (x3 + (1 : Int32)).toNatClampNeg) m _ h) (fun v w2 hk => ?_)
                                            obtain ⟨y158, m157, rfl, rfl, h⟩ := hk
                                            show J X (450, 28400) 862 [(0, .ref b), (1, .ref (ad 0)), (2, .ref (ad 426)), (3, .int x3)] [.int y158] (fl ad m157)
                                            refine J_aload_n hX dL_law_862 rfl 2 rfl ?_
                                            refine J_aload_n hX dL_law_863 rfl 0 rfl ?_
                                            refine J_iload_n hX dL_law_864 rfl 3 rfl ?_
                                            refine J_iconst (v := (1 : Int32)) hX dL_law_865 (by decide) ?_
                                            refine J_iadd hX dL_law_866 ?_
                                            refine J_sldS hX hB dL_law_867 b156 ?_
                                            refine J_callL hX km_X12_save kl_RL_100 dL_law_868 ka_426 (by decide) [.int (sc (x3 + (1 : Int32)).toNatClampNeg)] ⟨Nat.le_of_ble_eq_true rfl, Nat.le_of_ble_eq_true rfl⟩ rfl rfl (Nat.le_of_ble_eq_true rfl) (c_X12_save (sc (x3 + (1 : Int32)).toNatClampNeg) m157 _ h) (fun v w2 hk => ?_)
                                            obtain ⟨y160, m159, rfl, rfl, h⟩ := hk
                                            show J X (450, 28400) 871 [(0, .ref b), (1, .ref (ad 0)), (2, .ref (ad 426)), (3, .int x3)] [.int y160, .int y158] (fl ad m159)
                                            refine J_icmp_eq (tgt := 1530) hX dL_law_871 (by decide) (fun c161 => ?_) (fun c161 => ?_)
                                            · replace h := Eq.mp (if_pos c161) h
                                              refine J_iinc (x := (x3 + (7 : Int32))) (lv2 := [(3, .int (x3 + (7 : Int32))), (0, .ref b), (1, .ref (ad 0)), (2, .ref (ad 426))]) hX dL_law_1530 3 rfl rfl (Nat.le_of_ble_eq_true rfl) rfl ?_
                                              refine J_goto (tgt := 18) hX dL_law_1533 (by decide) ?_
                                              exact J_sub [1, 2, 3, 0] rfl (hrec (x3 + (7 : Int32)) m159 h)
                                            · replace h := Eq.mp (if_neg c161) h
                                              refine J_iconst (v := (0 : Int32)) hX dL_law_874 (by decide) ?_
                                              exact J_lawret hX hR dL_law_875 bo_0 ⟨_, _, rfl, rfl, h⟩
                                          · replace h := Eq.mp (if_neg c155) h
                                            by_cases c162 : ((sc x3.toNatClampNeg) &&& (63 : Int32)) = (20 : Int32)
                                            · replace h := Eq.mp (if_pos c162) h
                                              refine J_tabIn (v := (20 : Int32)) (tgt := 876) hX dL_law_33 c162 (by decide) (by decide) rfl (by decide) ?_
                                              refine J_aload_n hX dL_law_876 rfl 1 rfl ?_
                                              refine J_aload_n hX dL_law_877 rfl 0 rfl ?_
                                              refine J_iload_n hX dL_law_878 rfl 3 rfl ?_
                                              refine J_iconst (v := (1 : Int32)) hX dL_law_879 (by decide) ?_
                                              refine J_iadd hX dL_law_880 ?_
                                              obtain ⟨b163, h⟩ := h
                                              refine J_sldS hX hB dL_law_881 b163 ?_
                                              refine J_callL hX km_X11_restore kl_RL_101 dL_law_882 ka_0 (by decide) [.int (sc (x3 + (1 : Int32)).toNatClampNeg)] ⟨Nat.le_of_ble_eq_true rfl, Nat.le_of_ble_eq_true rfl⟩ rfl rfl (Nat.le_of_ble_eq_true rfl) (c_X11_restore (sc (x3 + (1 : Int32)).toNatClampNeg) m _ h) (fun v w2 hk => ?_)
                                              obtain ⟨y165, m164, rfl, rfl, h⟩ := hk
                                              show J X (450, 28400) 885 [(0, .ref b), (1, .ref (ad 0)), (2, .ref (ad 426)), (3, .int x3)] [.int y165] (fl ad m164)
                                              refine J_aload_n hX dL_law_885 rfl 2 rfl ?_
                                              refine J_aload_n hX dL_law_886 rfl 0 rfl ?_
                                              refine J_iload_n hX dL_law_887 rfl 3 rfl ?_
                                              refine J_iconst (v := (1 : Int32)) hX dL_law_888 (by decide) ?_
                                              refine J_iadd hX dL_law_889 ?_
                                              refine J_sldS hX hB dL_law_890 b163 ?_
                                              refine J_callL hX km_X12_restore kl_RL_104 dL_law_891 ka_426 (by decide) [.int (sc (x3 + (1 : Int32)).toNatClampNeg)] ⟨Nat.le_of_ble_eq_true rfl, Nat.le_of_ble_eq_true rfl⟩ rfl rfl (Nat.le_of_ble_eq_true rfl) (c_X12_restore (sc (x3 + (1 : Int32)).toNatClampNeg) m164 _ h) (fun v w2 hk => ?_)
                                              obtain ⟨y167, m166, rfl, rfl, h⟩ := hk
                                              show J X (450, 28400) 894 [(0, .ref b), (1, .ref (ad 0)), (2, .ref (ad 426)), (3, .int x3)] [.int y167, .int y165] (fl ad m166)
                                              refine J_icmp_eq (tgt := 1530) hX dL_law_894 (by decide) (fun c168 => ?_) (fun c168 => ?_)
                                              · replace h := Eq.mp (if_pos c168) h
                                                refine J_iinc (x := (x3 + (7 : Int32))) (lv2 := [(3, .int (x3 + (7 : Int32))), (0, .ref b), (1, .ref (ad 0)), (2, .ref (ad 426))]) hX dL_law_1530 3 rfl rfl (Nat.le_of_ble_eq_true rfl) rfl ?_
                                                refine J_goto (tgt := 18) hX dL_law_1533 (by decide) ?_
                                                exact J_sub [1, 2, 3, 0] rfl (hrec (x3 + (7 : Int32)) m166 h)
                                              · replace h := Eq.mp (if_neg c168) h
                                                refine J_iconst (v := (0 : Int32)) hX dL_law_897 (by decide) ?_
                                                exact J_lawret hX hR dL_law_898 bo_0 ⟨_, _, rfl, rfl, h⟩
                                            · replace h := Eq.mp (if_neg c162) h
                                              by_cases c169 : ((sc x3.toNatClampNeg) &&& (63 : Int32)) = (21 : Int32)
                                              · replace h := Eq.mp (if_pos c169) h
                                                refine J_tabIn (v := (21 : Int32)) (tgt := 899) hX dL_law_33 c169 (by decide) (by decide) rfl (by decide) ?_
                                                refine J_aload_n hX dL_law_899 rfl 1 rfl ?_
                                                refine J_aload_n hX dL_law_900 rfl 0 rfl ?_
                                                refine J_iload_n hX dL_law_901 rfl 3 rfl ?_
                                                refine J_iconst (v := (1 : Int32)) hX dL_law_902 (by decide) ?_
                                                refine J_iadd hX dL_law_903 ?_
                                                obtain ⟨b170, h⟩ := h
                                                refine J_sldS hX hB dL_law_904 b170 ?_
                                                refine J_aload_n hX dL_law_905 rfl 0 rfl ?_
                                                refine J_iload_n hX dL_law_906 rfl 3 rfl ?_
                                                refine J_iconst (v := (2 : Int32)) hX dL_law_907 (by decide) ?_
                                                refine J_iadd hX dL_law_908 ?_
                                                obtain ⟨b171, h⟩ := h
                                                refine J_sldS hX hB dL_law_909 b171 ?_
                                                refine J_callL hX km_X11_flat kl_RL_105 dL_law_910 ka_0 (by decide) [.int (sc (x3 + (1 : Int32)).toNatClampNeg), .int (sc (x3 + (2 : Int32)).toNatClampNeg)] ⟨Nat.le_of_ble_eq_true rfl, Nat.le_of_ble_eq_true rfl⟩ rfl rfl (Nat.le_of_ble_eq_true rfl) (c_X11_flat (sc (x3 + (1 : Int32)).toNatClampNeg) (sc (x3 + (2 : Int32)).toNatClampNeg) m) (fun v w2 hk => ?_)
                                                obtain ⟨rfl, rfl⟩ := hk
                                                show J X (450, 28400) 913 [(0, .ref b), (1, .ref (ad 0)), (2, .ref (ad 426)), (3, .int x3)] [.int (v_X11_flat (sc (x3 + (1 : Int32)).toNatClampNeg) (sc (x3 + (2 : Int32)).toNatClampNeg) m)] (fl ad m)
                                                refine J_aload_n hX dL_law_913 rfl 2 rfl ?_
                                                refine J_aload_n hX dL_law_914 rfl 0 rfl ?_
                                                refine J_iload_n hX dL_law_915 rfl 3 rfl ?_
                                                refine J_iconst (v := (1 : Int32)) hX dL_law_916 (by decide) ?_
                                                refine J_iadd hX dL_law_917 ?_
                                                refine J_sldS hX hB dL_law_918 b170 ?_
                                                refine J_aload_n hX dL_law_919 rfl 0 rfl ?_
                                                refine J_iload_n hX dL_law_920 rfl 3 rfl ?_
                                                refine J_iconst (v := (2 : Int32)) hX dL_law_921 (by decide) ?_
                                                refine J_iadd hX dL_law_922 ?_
                                                refine J_sldS hX hB dL_law_923 b171 ?_
                                                refine J_callL hX km_X12_flat kl_RL_108 dL_law_924 ka_426 (by decide) [.int (sc (x3 + (1 : Int32)).toNatClampNeg), .int (sc (x3 + (2 : Int32)).toNatClampNeg)] ⟨Nat.le_of_ble_eq_true rfl, Nat.le_of_ble_eq_true rfl⟩ rfl rfl (Nat.le_of_ble_eq_true rfl) (c_X12_flat (sc (x3 + (1 : Int32)).toNatClampNeg) (sc (x3 + (2 : Int32)).toNatClampNeg) m _ h) (fun v w2 hk => ?_)
                                                obtain ⟨y173, m172, rfl, rfl, h⟩ := hk
                                                show J X (450, 28400) 927 [(0, .ref b), (1, .ref (ad 0)), (2, .ref (ad 426)), (3, .int x3)] [.int y173, .int (v_X11_flat (sc (x3 + (1 : Int32)).toNatClampNeg) (sc (x3 + (2 : Int32)).toNatClampNeg) m)] (fl ad m172)
                                                refine J_icmp_eq (tgt := 1530) hX dL_law_927 (by decide) (fun c174 => ?_) (fun c174 => ?_)
                                                · replace h := Eq.mp (if_pos c174) h
                                                  refine J_iinc (x := (x3 + (7 : Int32))) (lv2 := [(3, .int (x3 + (7 : Int32))), (0, .ref b), (1, .ref (ad 0)), (2, .ref (ad 426))]) hX dL_law_1530 3 rfl rfl (Nat.le_of_ble_eq_true rfl) rfl ?_
                                                  refine J_goto (tgt := 18) hX dL_law_1533 (by decide) ?_
                                                  exact J_sub [1, 2, 3, 0] rfl (hrec (x3 + (7 : Int32)) m172 h)
                                                · replace h := Eq.mp (if_neg c174) h
                                                  refine J_iconst (v := (0 : Int32)) hX dL_law_930 (by decide) ?_
                                                  exact J_lawret hX hR dL_law_931 bo_0 ⟨_, _, rfl, rfl, h⟩
                                              · replace h := Eq.mp (if_neg c169) h
                                                by_cases c175 : ((sc x3.toNatClampNeg) &&& (63 : Int32)) = (22 : Int32)
                                                · replace h := Eq.mp (if_pos c175) h
                                                  refine J_tabIn (v := (22 : Int32)) (tgt := 932) hX dL_law_33 c175 (by decide) (by decide) rfl (by decide) ?_
                                                  refine J_aload_n hX dL_law_932 rfl 1 rfl ?_
                                                  refine J_callL hX km_X11_cutLength kl_RL_109 dL_law_933 ka_0 (by decide) [] ⟨Nat.le_of_ble_eq_true rfl, Nat.le_of_ble_eq_true rfl⟩ rfl rfl (Nat.le_of_ble_eq_true rfl) (c_X11_cutLength m _ h) (fun v w2 hk => ?_)
                                                  obtain ⟨y177, m176, rfl, rfl, h⟩ := hk
                                                  show J X (450, 28400) 936 [(0, .ref b), (1, .ref (ad 0)), (2, .ref (ad 426)), (3, .int x3)] [.int y177] (fl ad m176)
                                                  refine J_aload_n hX dL_law_936 rfl 2 rfl ?_
                                                  refine J_callL hX km_X12_cutLength kl_RL_112 dL_law_937 ka_426 (by decide) [] ⟨Nat.le_of_ble_eq_true rfl, Nat.le_of_ble_eq_true rfl⟩ rfl rfl (Nat.le_of_ble_eq_true rfl) (c_X12_cutLength m176 _ h) (fun v w2 hk => ?_)
                                                  obtain ⟨y179, m178, rfl, rfl, h⟩ := hk
                                                  show J X (450, 28400) 940 [(0, .ref b), (1, .ref (ad 0)), (2, .ref (ad 426)), (3, .int x3)] [.int y179, .int y177] (fl ad m178)
                                                  refine J_icmp_eq (tgt := 1530) hX dL_law_940 (by decide) (fun c180 => ?_) (fun c180 => ?_)
                                                  · replace h := Eq.mp (if_pos c180) h
                                                    refine J_iinc (x := (x3 + (7 : Int32))) (lv2 := [(3, .int (x3 + (7 : Int32))), (0, .ref b), (1, .ref (ad 0)), (2, .ref (ad 426))]) hX dL_law_1530 3 rfl rfl (Nat.le_of_ble_eq_true rfl) rfl ?_
                                                    refine J_goto (tgt := 18) hX dL_law_1533 (by decide) ?_
                                                    exact J_sub [1, 2, 3, 0] rfl (hrec (x3 + (7 : Int32)) m178 h)
                                                  · replace h := Eq.mp (if_neg c180) h
                                                    refine J_iconst (v := (0 : Int32)) hX dL_law_943 (by decide) ?_
                                                    exact J_lawret hX hR dL_law_944 bo_0 ⟨_, _, rfl, rfl, h⟩
                                                · replace h := Eq.mp (if_neg c175) h
                                                  by_cases c181 : ((sc x3.toNatClampNeg) &&& (63 : Int32)) = (23 : Int32)
                                                  · replace h := Eq.mp (if_pos c181) h
                                                    refine J_tabIn (v := (23 : Int32)) (tgt := 945) hX dL_law_33 c181 (by decide) (by decide) rfl (by decide) ?_
                                                    refine J_aload_n hX dL_law_945 rfl 1 rfl ?_
                                                    refine J_callL hX km_X11_creaseLength kl_RL_113 dL_law_946 ka_0 (by decide) [] ⟨Nat.le_of_ble_eq_true rfl, Nat.le_of_ble_eq_true rfl⟩ rfl rfl (Nat.le_of_ble_eq_true rfl) (c_X11_creaseLength m _ h) (fun v w2 hk => ?_)
                                                    obtain ⟨y183, m182, rfl, rfl, h⟩ := hk
                                                    show J X (450, 28400) 949 [(0, .ref b), (1, .ref (ad 0)), (2, .ref (ad 426)), (3, .int x3)] [.int y183] (fl ad m182)
                                                    refine J_aload_n hX dL_law_949 rfl 2 rfl ?_
                                                    refine J_callL hX km_X12_creaseLength kl_RL_116 dL_law_950 ka_426 (by decide) [] ⟨Nat.le_of_ble_eq_true rfl, Nat.le_of_ble_eq_true rfl⟩ rfl rfl (Nat.le_of_ble_eq_true rfl) (c_X12_creaseLength m182 _ h) (fun v w2 hk => ?_)
                                                    obtain ⟨y185, m184, rfl, rfl, h⟩ := hk
                                                    show J X (450, 28400) 953 [(0, .ref b), (1, .ref (ad 0)), (2, .ref (ad 426)), (3, .int x3)] [.int y185, .int y183] (fl ad m184)
                                                    refine J_icmp_eq (tgt := 1530) hX dL_law_953 (by decide) (fun c186 => ?_) (fun c186 => ?_)
                                                    · replace h := Eq.mp (if_pos c186) h
                                                      refine J_iinc (x := (x3 + (7 : Int32))) (lv2 := [(3, .int (x3 + (7 : Int32))), (0, .ref b), (1, .ref (ad 0)), (2, .ref (ad 426))]) hX dL_law_1530 3 rfl rfl (Nat.le_of_ble_eq_true rfl) rfl ?_
                                                      refine J_goto (tgt := 18) hX dL_law_1533 (by decide) ?_
                                                      exact J_sub [1, 2, 3, 0] rfl (hrec (x3 + (7 : Int32)) m184 h)
                                                    · replace h := Eq.mp (if_neg c186) h
                                                      refine J_iconst (v := (0 : Int32)) hX dL_law_956 (by decide) ?_
                                                      exact J_lawret hX hR dL_law_957 bo_0 ⟨_, _, rfl, rfl, h⟩
                                                  · replace h := Eq.mp (if_neg c181) h
                                                    by_cases c187 : ((sc x3.toNatClampNeg) &&& (63 : Int32)) = (24 : Int32)
                                                    · replace h := Eq.mp (if_pos c187) h
                                                      refine J_tabIn (v := (24 : Int32)) (tgt := 958) hX dL_law_33 c187 (by decide) (by decide) rfl (by decide) ?_
                                                      refine J_aload_n hX dL_law_958 rfl 1 rfl ?_
                                                      refine J_aload_n hX dL_law_959 rfl 0 rfl ?_
                                                      refine J_iload_n hX dL_law_960 rfl 3 rfl ?_
                                                      refine J_iconst (v := (1 : Int32)) hX dL_law_961 (by decide) ?_
                                                      refine J_iadd hX dL_law_962 ?_
                                                      obtain ⟨b188, h⟩ := h
                                                      refine J_sldS hX hB dL_law_963 b188 ?_
                                                      refine J_aload_n hX dL_law_964 rfl 0 rfl ?_
                                                      refine J_iload_n hX dL_law_965 rfl 3 rfl ?_
                                                      refine J_iconst (v := (2 : Int32)) hX dL_law_966 (by decide) ?_
                                                      refine J_iadd hX dL_law_967 ?_
                                                      obtain ⟨b189, h⟩ := h
                                                      refine J_sldS hX hB dL_law_968 b189 ?_
                                                      refine J_aload_n hX dL_law_969 rfl 0 rfl ?_
                                                      refine J_iload_n hX dL_law_970 rfl 3 rfl ?_
                                                      refine J_iconst (v := (3 : Int32)) hX dL_law_971 (by decide) ?_
                                                      refine J_iadd hX dL_law_972 ?_
                                                      obtain ⟨b190, h⟩ := h
                                                      refine J_sldS hX hB dL_law_973 b190 ?_
                                                      have hj201 : ∀ y192 : Int32, y192 = (if (sc (x3 + (3 : Int32)).toNatClampNeg) = (0 : Int32) then (0 : Int32) else (1 : Int32)) → J X (450, 28400) 982 [(0, .ref b), (1, .ref (ad 0)), (2, .ref (ad 426)), (3, .int x3)] [.int y192, .int (sc (x3 + (2 : Int32)).toNatClampNeg), .int (sc (x3 + (1 : Int32)).toNatClampNeg), .ref (ad 0)] (fl ad m) := by
                                                        intro y192 e_y192
                                                        replace h := h y192 e_y192
                                                        refine J_callL hX km_X11_pitch kl_RL_117 dL_law_982 ka_0 (by decide) [.int (sc (x3 + (1 : Int32)).toNatClampNeg), .int (sc (x3 + (2 : Int32)).toNatClampNeg), .int y192] ⟨Nat.le_of_ble_eq_true rfl, Nat.le_of_ble_eq_true rfl⟩ rfl rfl (Nat.le_of_ble_eq_true rfl) (c_X11_pitch (sc (x3 + (1 : Int32)).toNatClampNeg) (sc (x3 + (2 : Int32)).toNatClampNeg) y192 m _ h) (fun v w2 hk => ?_)
                                                        obtain ⟨y194, m193, rfl, rfl, h⟩ := hk
                                                        show J X (450, 28400) 985 [(0, .ref b), (1, .ref (ad 0)), (2, .ref (ad 426)), (3, .int x3)] [.int y194] (fl ad m193)
                                                        refine J_aload_n hX dL_law_985 rfl 2 rfl ?_
                                                        refine J_aload_n hX dL_law_986 rfl 0 rfl ?_
                                                        refine J_iload_n hX dL_law_987 rfl 3 rfl ?_
                                                        refine J_iconst (v := (1 : Int32)) hX dL_law_988 (by decide) ?_
                                                        refine J_iadd hX dL_law_989 ?_
                                                        refine J_sldS hX hB dL_law_990 b188 ?_
                                                        refine J_aload_n hX dL_law_991 rfl 0 rfl ?_
                                                        refine J_iload_n hX dL_law_992 rfl 3 rfl ?_
                                                        refine J_iconst (v := (2 : Int32)) hX dL_law_993 (by decide) ?_
                                                        refine J_iadd hX dL_law_994 ?_
                                                        refine J_sldS hX hB dL_law_995 b189 ?_
                                                        refine J_aload_n hX dL_law_996 rfl 0 rfl ?_
                                                        refine J_iload_n hX dL_law_997 rfl 3 rfl ?_
                                                        refine J_iconst (v := (3 : Int32)) hX dL_law_998 (by decide) ?_
                                                        refine J_iadd hX dL_law_999 ?_
                                                        refine J_sldS hX hB dL_law_1000 b190 ?_
                                                        have hj200 : ∀ y196 : Int32, y196 = (if (sc (x3 + (3 : Int32)).toNatClampNeg) = (0 : Int32) then (0 : Int32) else (1 : Int32)) → J X (450, 28400) 1009 [(0, .ref b), (1, .ref (ad 0)), (2, .ref (ad 426)), (3, .int x3)] [.int y196, .int (sc (x3 + (2 : Int32)).toNatClampNeg), .int (sc (x3 + (1 : Int32)).toNatClampNeg), .ref (ad 426), .int y194] (fl ad m193) := by
                                                          intro y196 e_y196
                                                          replace h := h y196 e_y196
                                                          refine J_callL hX km_X12_pitch kl_RL_121 dL_law_1009 ka_426 (by decide) [.int (sc (x3 + (1 : Int32)).toNatClampNeg), .int (sc (x3 + (2 : Int32)).toNatClampNeg), .int y196] ⟨Nat.le_of_ble_eq_true rfl, Nat.le_of_ble_eq_true rfl⟩ rfl rfl (Nat.le_of_ble_eq_true rfl) (c_X12_pitch (sc (x3 + (1 : Int32)).toNatClampNeg) (sc (x3 + (2 : Int32)).toNatClampNeg) y196 m193 _ h) (fun v w2 hk => ?_)
                                                          obtain ⟨y198, m197, rfl, rfl, h⟩ := hk
                                                          show J X (450, 28400) 1012 [(0, .ref b), (1, .ref (ad 0)), (2, .ref (ad 426)), (3, .int x3)] [.int y198, .int y194] (fl ad m197)
                                                          refine J_icmp_eq (tgt := 1530) hX dL_law_1012 (by decide) (fun c199 => ?_) (fun c199 => ?_)
                                                          · replace h := Eq.mp (if_pos c199) h
                                                            refine J_iinc (x := (x3 + (7 : Int32))) (lv2 := [(3, .int (x3 + (7 : Int32))), (0, .ref b), (1, .ref (ad 0)), (2, .ref (ad 426))]) hX dL_law_1530 3 rfl rfl (Nat.le_of_ble_eq_true rfl) rfl ?_
                                                            refine J_goto (tgt := 18) hX dL_law_1533 (by decide) ?_
                                                            exact J_sub [1, 2, 3, 0] rfl (hrec (x3 + (7 : Int32)) m197 h)
                                                          · replace h := Eq.mp (if_neg c199) h
                                                            refine J_iconst (v := (0 : Int32)) hX dL_law_1015 (by decide) ?_
                                                            exact J_lawret hX hR dL_law_1016 bo_0 ⟨_, _, rfl, rfl, h⟩
                                                        refine J_if_eq (tgt := 1008) hX dL_law_1001 (by decide) (fun c195 => ?_) (fun c195 => ?_)
                                                        · refine J_iconst (v := (0 : Int32)) hX dL_law_1008 (by decide) ?_
                                                          exact J_sub [0, 1, 2, 3] rfl (hj200 _ (if_pos c195).symm)
                                                        · refine J_iconst (v := (1 : Int32)) hX dL_law_1004 (by decide) ?_
                                                          refine J_goto (tgt := 1009) hX dL_law_1005 (by decide) ?_
                                                          exact J_sub [0, 1, 2, 3] rfl (hj200 _ (if_neg c195).symm)
                                                      refine J_if_eq (tgt := 981) hX dL_law_974 (by decide) (fun c191 => ?_) (fun c191 => ?_)
                                                      · refine J_iconst (v := (0 : Int32)) hX dL_law_981 (by decide) ?_
                                                        exact J_sub [0, 1, 2, 3] rfl (hj201 _ (if_pos c191).symm)
                                                      · refine J_iconst (v := (1 : Int32)) hX dL_law_977 (by decide) ?_
                                                        refine J_goto (tgt := 982) hX dL_law_978 (by decide) ?_
                                                        exact J_sub [0, 1, 2, 3] rfl (hj201 _ (if_neg c191).symm)
                                                    · replace h := Eq.mp (if_neg c187) h
                                                      by_cases c202 : ((sc x3.toNatClampNeg) &&& (63 : Int32)) = (25 : Int32)
                                                      · replace h := Eq.mp (if_pos c202) h
                                                        refine J_tabIn (v := (25 : Int32)) (tgt := 1017) hX dL_law_33 c202 (by decide) (by decide) rfl (by decide) ?_
                                                        refine J_aload_n hX dL_law_1017 rfl 1 rfl ?_
                                                        refine J_aload_n hX dL_law_1018 rfl 0 rfl ?_
                                                        refine J_iload_n hX dL_law_1019 rfl 3 rfl ?_
                                                        refine J_iconst (v := (1 : Int32)) hX dL_law_1020 (by decide) ?_
                                                        refine J_iadd hX dL_law_1021 ?_
                                                        obtain ⟨b203, h⟩ := h
                                                        refine J_sldS hX hB dL_law_1022 b203 ?_
                                                        refine J_aload_n hX dL_law_1023 rfl 0 rfl ?_
                                                        refine J_iload_n hX dL_law_1024 rfl 3 rfl ?_
                                                        refine J_iconst (v := (2 : Int32)) hX dL_law_1025 (by decide) ?_
                                                        refine J_iadd hX dL_law_1026 ?_
                                                        obtain ⟨b204, h⟩ := h
                                                        refine J_sldS hX hB dL_law_1027 b204 ?_
                                                        refine J_callL hX km_X11_rowCount kl_RL_122 dL_law_1028 ka_0 (by decide) [.int (sc (x3 + (1 : Int32)).toNatClampNeg), .int (sc (x3 + (2 : Int32)).toNatClampNeg)] ⟨Nat.le_of_ble_eq_true rfl, Nat.le_of_ble_eq_true rfl⟩ rfl rfl (Nat.le_of_ble_eq_true rfl) (c_X11_rowCount (sc (x3 + (1 : Int32)).toNatClampNeg) (sc (x3 + (2 : Int32)).toNatClampNeg) m _ h) (fun v w2 hk => ?_)
                                                        obtain ⟨y206, m205, rfl, rfl, h⟩ := hk
                                                        show J X (450, 28400) 1031 [(0, .ref b), (1, .ref (ad 0)), (2, .ref (ad 426)), (3, .int x3)] [.int y206] (fl ad m205)
                                                        refine J_aload_n hX dL_law_1031 rfl 2 rfl ?_
                                                        refine J_aload_n hX dL_law_1032 rfl 0 rfl ?_
                                                        refine J_iload_n hX dL_law_1033 rfl 3 rfl ?_
                                                        refine J_iconst (v := (1 : Int32)) hX dL_law_1034 (by decide) ?_
                                                        refine J_iadd hX dL_law_1035 ?_
                                                        refine J_sldS hX hB dL_law_1036 b203 ?_
                                                        refine J_aload_n hX dL_law_1037 rfl 0 rfl ?_
                                                        refine J_iload_n hX dL_law_1038 rfl 3 rfl ?_
                                                        refine J_iconst (v := (2 : Int32)) hX dL_law_1039 (by decide) ?_
                                                        refine J_iadd hX dL_law_1040 ?_
                                                        refine J_sldS hX hB dL_law_1041 b204 ?_
                                                        refine J_callL hX km_X12_rowCount kl_RL_125 dL_law_1042 ka_426 (by decide) [.int (sc (x3 + (1 : Int32)).toNatClampNeg), .int (sc (x3 + (2 : Int32)).toNatClampNeg)] ⟨Nat.le_of_ble_eq_true rfl, Nat.le_of_ble_eq_true rfl⟩ rfl rfl (Nat.le_of_ble_eq_true rfl) (c_X12_rowCount (sc (x3 + (1 : Int32)).toNatClampNeg) (sc (x3 + (2 : Int32)).toNatClampNeg) m205 _ h) (fun v w2 hk => ?_)
                                                        obtain ⟨y208, m207, rfl, rfl, h⟩ := hk
                                                        show J X (450, 28400) 1045 [(0, .ref b), (1, .ref (ad 0)), (2, .ref (ad 426)), (3, .int x3)] [.int y208, .int y206] (fl ad m207)
                                                        refine J_icmp_eq (tgt := 1530) hX dL_law_1045 (by decide) (fun c209 => ?_) (fun c209 => ?_)
                                                        · replace h := Eq.mp (if_pos c209) h
                                                          refine J_iinc (x := (x3 + (7 : Int32))) (lv2 := [(3, .int (x3 + (7 : Int32))), (0, .ref b), (1, .ref (ad 0)), (2, .ref (ad 426))]) hX dL_law_1530 3 rfl rfl (Nat.le_of_ble_eq_true rfl) rfl ?_
                                                          refine J_goto (tgt := 18) hX dL_law_1533 (by decide) ?_
                                                          exact J_sub [1, 2, 3, 0] rfl (hrec (x3 + (7 : Int32)) m207 h)
                                                        · replace h := Eq.mp (if_neg c209) h
                                                          refine J_iconst (v := (0 : Int32)) hX dL_law_1048 (by decide) ?_
                                                          exact J_lawret hX hR dL_law_1049 bo_0 ⟨_, _, rfl, rfl, h⟩
                                                      · replace h := Eq.mp (if_neg c202) h
                                                        by_cases c210 : ((sc x3.toNatClampNeg) &&& (63 : Int32)) = (26 : Int32)
                                                        · replace h := Eq.mp (if_pos c210) h
                                                          refine J_tabIn (v := (26 : Int32)) (tgt := 1050) hX dL_law_33 c210 (by decide) (by decide) rfl (by decide) ?_
                                                          refine J_aload_n hX dL_law_1050 rfl 1 rfl ?_
                                                          refine J_aload_n hX dL_law_1051 rfl 0 rfl ?_
                                                          refine J_iload_n hX dL_law_1052 rfl 3 rfl ?_
                                                          refine J_iconst (v := (1 : Int32)) hX dL_law_1053 (by decide) ?_
                                                          refine J_iadd hX dL_law_1054 ?_
                                                          obtain ⟨b211, h⟩ := h
                                                          refine J_sldS hX hB dL_law_1055 b211 ?_
                                                          refine J_aload_n hX dL_law_1056 rfl 0 rfl ?_
                                                          refine J_iload_n hX dL_law_1057 rfl 3 rfl ?_
                                                          refine J_iconst (v := (2 : Int32)) hX dL_law_1058 (by decide) ?_
                                                          refine J_iadd hX dL_law_1059 ?_
                                                          obtain ⟨b212, h⟩ := h
                                                          refine J_sldS hX hB dL_law_1060 b212 ?_
                                                          refine J_aload_n hX dL_law_1061 rfl 0 rfl ?_
                                                          refine J_iload_n hX dL_law_1062 rfl 3 rfl ?_
                                                          refine J_iconst (v := (3 : Int32)) hX dL_law_1063 (by decide) ?_
                                                          refine J_iadd hX dL_law_1064 ?_
                                                          obtain ⟨b213, h⟩ := h
                                                          refine J_sldS hX hB dL_law_1065 b213 ?_
                                                          refine J_callL hX km_X11_corner kl_RL_126 dL_law_1066 ka_0 (by decide) [.int (sc (x3 + (1 : Int32)).toNatClampNeg), .int (sc (x3 + (2 : Int32)).toNatClampNeg), .int (sc (x3 + (3 : Int32)).toNatClampNeg)] ⟨Nat.le_of_ble_eq_true rfl, Nat.le_of_ble_eq_true rfl⟩ rfl rfl (Nat.le_of_ble_eq_true rfl) (c_X11_corner (sc (x3 + (1 : Int32)).toNatClampNeg) (sc (x3 + (2 : Int32)).toNatClampNeg) (sc (x3 + (3 : Int32)).toNatClampNeg) m _ h) (fun v w2 hk => ?_)
                                                          obtain ⟨y215, m214, rfl, rfl, h⟩ := hk
                                                          show J X (450, 28400) 1069 [(0, .ref b), (1, .ref (ad 0)), (2, .ref (ad 426)), (3, .int x3)] [.int y215] (fl ad m214)
                                                          refine J_aload_n hX dL_law_1069 rfl 2 rfl ?_
                                                          refine J_aload_n hX dL_law_1070 rfl 0 rfl ?_
                                                          refine J_iload_n hX dL_law_1071 rfl 3 rfl ?_
                                                          refine J_iconst (v := (1 : Int32)) hX dL_law_1072 (by decide) ?_
                                                          refine J_iadd hX dL_law_1073 ?_
                                                          refine J_sldS hX hB dL_law_1074 b211 ?_
                                                          refine J_aload_n hX dL_law_1075 rfl 0 rfl ?_
                                                          refine J_iload_n hX dL_law_1076 rfl 3 rfl ?_
                                                          refine J_iconst (v := (2 : Int32)) hX dL_law_1077 (by decide) ?_
                                                          refine J_iadd hX dL_law_1078 ?_
                                                          refine J_sldS hX hB dL_law_1079 b212 ?_
                                                          refine J_aload_n hX dL_law_1080 rfl 0 rfl ?_
                                                          refine J_iload_n hX dL_law_1081 rfl 3 rfl ?_
                                                          refine J_iconst (v := (3 : Int32)) hX dL_law_1082 (by decide) ?_
                                                          refine J_iadd hX dL_law_1083 ?_
                                                          refine J_sldS hX hB dL_law_1084 b213 ?_
                                                          refine J_callL hX km_X12_corner kl_RL_129 dL_law_1085 ka_426 (by decide) [.int (sc (x3 + (1 : Int32)).toNatClampNeg), .int (sc (x3 + (2 : Int32)).toNatClampNeg), .int (sc (x3 + (3 : Int32)).toNatClampNeg)] ⟨Nat.le_of_ble_eq_true rfl, Nat.le_of_ble_eq_true rfl⟩ rfl rfl (Nat.le_of_ble_eq_true rfl) (c_X12_corner (sc (x3 + (1 : Int32)).toNatClampNeg) (sc (x3 + (2 : Int32)).toNatClampNeg) (sc (x3 + (3 : Int32)).toNatClampNeg) m214 _ h) (fun v w2 hk => ?_)
                                                          obtain ⟨y217, m216, rfl, rfl, h⟩ := hk
                                                          show J X (450, 28400) 1088 [(0, .ref b), (1, .ref (ad 0)), (2, .ref (ad 426)), (3, .int x3)] [.int y217, .int y215] (fl ad m216)
                                                          refine J_icmp_eq (tgt := 1530) hX dL_law_1088 (by decide) (fun c218 => ?_) (fun c218 => ?_)
                                                          · replace h := Eq.mp (if_pos c218) h
                                                            refine J_iinc (x := (x3 + (7 : Int32))) (lv2 := [(3, .int (x3 + (7 : Int32))), (0, .ref b), (1, .ref (ad 0)), (2, .ref (ad 426))]) hX dL_law_1530 3 rfl rfl (Nat.le_of_ble_eq_true rfl) rfl ?_
                                                            refine J_goto (tgt := 18) hX dL_law_1533 (by decide) ?_
                                                            exact J_sub [1, 2, 3, 0] rfl (hrec (x3 + (7 : Int32)) m216 h)
                                                          · replace h := Eq.mp (if_neg c218) h
                                                            refine J_iconst (v := (0 : Int32)) hX dL_law_1091 (by decide) ?_
                                                            exact J_lawret hX hR dL_law_1092 bo_0 ⟨_, _, rfl, rfl, h⟩
                                                        · replace h := Eq.mp (if_neg c210) h
                                                          by_cases c219 : ((sc x3.toNatClampNeg) &&& (63 : Int32)) = (27 : Int32)
                                                          · replace h := Eq.mp (if_pos c219) h
                                                            refine J_tabIn (v := (27 : Int32)) (tgt := 1093) hX dL_law_33 c219 (by decide) (by decide) rfl (by decide) ?_
                                                            refine J_aload_n hX dL_law_1093 rfl 1 rfl ?_
                                                            refine J_aload_n hX dL_law_1094 rfl 0 rfl ?_
                                                            refine J_iload_n hX dL_law_1095 rfl 3 rfl ?_
                                                            refine J_iconst (v := (1 : Int32)) hX dL_law_1096 (by decide) ?_
                                                            refine J_iadd hX dL_law_1097 ?_
                                                            obtain ⟨b220, h⟩ := h
                                                            refine J_sldS hX hB dL_law_1098 b220 ?_
                                                            refine J_callL hX km_X11_facing kl_RL_130 dL_law_1099 ka_0 (by decide) [.int (sc (x3 + (1 : Int32)).toNatClampNeg)] ⟨Nat.le_of_ble_eq_true rfl, Nat.le_of_ble_eq_true rfl⟩ rfl rfl (Nat.le_of_ble_eq_true rfl) (c_X11_facing (sc (x3 + (1 : Int32)).toNatClampNeg) m _ h) (fun v w2 hk => ?_)
                                                            obtain ⟨y222, m221, rfl, rfl, h⟩ := hk
                                                            show J X (450, 28400) 1102 [(0, .ref b), (1, .ref (ad 0)), (2, .ref (ad 426)), (3, .int x3)] [.int y222] (fl ad m221)
                                                            refine J_aload_n hX dL_law_1102 rfl 2 rfl ?_
                                                            refine J_aload_n hX dL_law_1103 rfl 0 rfl ?_
                                                            refine J_iload_n hX dL_law_1104 rfl 3 rfl ?_
                                                            refine J_iconst (v := (1 : Int32)) hX dL_law_1105 (by decide) ?_
                                                            refine J_iadd hX dL_law_1106 ?_
                                                            refine J_sldS hX hB dL_law_1107 b220 ?_
                                                            refine J_callL hX km_X12_facing kl_RL_133 dL_law_1108 ka_426 (by decide) [.int (sc (x3 + (1 : Int32)).toNatClampNeg)] ⟨Nat.le_of_ble_eq_true rfl, Nat.le_of_ble_eq_true rfl⟩ rfl rfl (Nat.le_of_ble_eq_true rfl) (c_X12_facing (sc (x3 + (1 : Int32)).toNatClampNeg) m221 _ h) (fun v w2 hk => ?_)
                                                            obtain ⟨y224, m223, rfl, rfl, h⟩ := hk
                                                            show J X (450, 28400) 1111 [(0, .ref b), (1, .ref (ad 0)), (2, .ref (ad 426)), (3, .int x3)] [.int y224, .int y222] (fl ad m223)
                                                            refine J_icmp_eq (tgt := 1530) hX dL_law_1111 (by decide) (fun c225 => ?_) (fun c225 => ?_)
                                                            · replace h := Eq.mp (if_pos c225) h
                                                              refine J_iinc (x := (x3 + (7 : Int32))) (lv2 := [(3, .int (x3 + (7 : Int32))), (0, .ref b), (1, .ref (ad 0)), (2, .ref (ad 426))]) hX dL_law_1530 3 rfl rfl (Nat.le_of_ble_eq_true rfl) rfl ?_
                                                              refine J_goto (tgt := 18) hX dL_law_1533 (by decide) ?_
                                                              exact J_sub [1, 2, 3, 0] rfl (hrec (x3 + (7 : Int32)) m223 h)
                                                            · replace h := Eq.mp (if_neg c225) h
                                                              refine J_iconst (v := (0 : Int32)) hX dL_law_1114 (by decide) ?_
                                                              exact J_lawret hX hR dL_law_1115 bo_0 ⟨_, _, rfl, rfl, h⟩
                                                          · replace h := Eq.mp (if_neg c219) h
                                                            by_cases c226 : ((sc x3.toNatClampNeg) &&& (63 : Int32)) = (28 : Int32)
                                                            · replace h := Eq.mp (if_pos c226) h
                                                              refine J_tabIn (v := (28 : Int32)) (tgt := 1116) hX dL_law_33 c226 (by decide) (by decide) rfl (by decide) ?_
                                                              refine J_aload_n hX dL_law_1116 rfl 1 rfl ?_
                                                              refine J_aload_n hX dL_law_1117 rfl 0 rfl ?_
                                                              refine J_iload_n hX dL_law_1118 rfl 3 rfl ?_
                                                              refine J_iconst (v := (1 : Int32)) hX dL_law_1119 (by decide) ?_
                                                              refine J_iadd hX dL_law_1120 ?_
                                                              obtain ⟨b227, h⟩ := h
                                                              refine J_sldS hX hB dL_law_1121 b227 ?_
                                                              refine J_aload_n hX dL_law_1122 rfl 0 rfl ?_
                                                              refine J_iload_n hX dL_law_1123 rfl 3 rfl ?_
                                                              refine J_iconst (v := (2 : Int32)) hX dL_law_1124 (by decide) ?_
                                                              refine J_iadd hX dL_law_1125 ?_
                                                              obtain ⟨b228, h⟩ := h
                                                              refine J_sldS hX hB dL_law_1126 b228 ?_
                                                              refine J_callL hX km_X11_openLength kl_RL_134 dL_law_1127 ka_0 (by decide) [.int (sc (x3 + (1 : Int32)).toNatClampNeg), .int (sc (x3 + (2 : Int32)).toNatClampNeg)] ⟨Nat.le_of_ble_eq_true rfl, Nat.le_of_ble_eq_true rfl⟩ rfl rfl (Nat.le_of_ble_eq_true rfl) (c_X11_openLength (sc (x3 + (1 : Int32)).toNatClampNeg) (sc (x3 + (2 : Int32)).toNatClampNeg) m _ h) (fun v w2 hk => ?_)
                                                              obtain ⟨y230, m229, rfl, rfl, h⟩ := hk
                                                              show J X (450, 28400) 1130 [(0, .ref b), (1, .ref (ad 0)), (2, .ref (ad 426)), (3, .int x3)] [.int y230] (fl ad m229)
                                                              refine J_aload_n hX dL_law_1130 rfl 2 rfl ?_
                                                              refine J_aload_n hX dL_law_1131 rfl 0 rfl ?_
                                                              refine J_iload_n hX dL_law_1132 rfl 3 rfl ?_
                                                              refine J_iconst (v := (1 : Int32)) hX dL_law_1133 (by decide) ?_
                                                              refine J_iadd hX dL_law_1134 ?_
                                                              refine J_sldS hX hB dL_law_1135 b227 ?_
                                                              refine J_aload_n hX dL_law_1136 rfl 0 rfl ?_
                                                              refine J_iload_n hX dL_law_1137 rfl 3 rfl ?_
                                                              refine J_iconst (v := (2 : Int32)) hX dL_law_1138 (by decide) ?_
                                                              refine J_iadd hX dL_law_1139 ?_
                                                              refine J_sldS hX hB dL_law_1140 b228 ?_
                                                              refine J_callL hX km_X12_openLength kl_RL_137 dL_law_1141 ka_426 (by decide) [.int (sc (x3 + (1 : Int32)).toNatClampNeg), .int (sc (x3 + (2 : Int32)).toNatClampNeg)] ⟨Nat.le_of_ble_eq_true rfl, Nat.le_of_ble_eq_true rfl⟩ rfl rfl (Nat.le_of_ble_eq_true rfl) (c_X12_openLength (sc (x3 + (1 : Int32)).toNatClampNeg) (sc (x3 + (2 : Int32)).toNatClampNeg) m229 _ h) (fun v w2 hk => ?_)
                                                              obtain ⟨y232, m231, rfl, rfl, h⟩ := hk
                                                              show J X (450, 28400) 1144 [(0, .ref b), (1, .ref (ad 0)), (2, .ref (ad 426)), (3, .int x3)] [.int y232, .int y230] (fl ad m231)
                                                              refine J_icmp_eq (tgt := 1530) hX dL_law_1144 (by decide) (fun c233 => ?_) (fun c233 => ?_)
                                                              · replace h := Eq.mp (if_pos c233) h
                                                                refine J_iinc (x := (x3 + (7 : Int32))) (lv2 := [(3, .int (x3 + (7 : Int32))), (0, .ref b), (1, .ref (ad 0)), (2, .ref (ad 426))]) hX dL_law_1530 3 rfl rfl (Nat.le_of_ble_eq_true rfl) rfl ?_
                                                                refine J_goto (tgt := 18) hX dL_law_1533 (by decide) ?_
                                                                exact J_sub [1, 2, 3, 0] rfl (hrec (x3 + (7 : Int32)) m231 h)
                                                              · replace h := Eq.mp (if_neg c233) h
                                                                refine J_iconst (v := (0 : Int32)) hX dL_law_1147 (by decide) ?_
                                                                exact J_lawret hX hR dL_law_1148 bo_0 ⟨_, _, rfl, rfl, h⟩
                                                            · replace h := Eq.mp (if_neg c226) h
                                                              by_cases c234 : ((sc x3.toNatClampNeg) &&& (63 : Int32)) = (29 : Int32)
                                                              · replace h := Eq.mp (if_pos c234) h
                                                                refine J_tabIn (v := (29 : Int32)) (tgt := 1149) hX dL_law_33 c234 (by decide) (by decide) rfl (by decide) ?_
                                                                refine J_aload_n hX dL_law_1149 rfl 1 rfl ?_
                                                                refine J_callL hX km_X11_seamCount kl_RL_138 dL_law_1150 ka_0 (by decide) [] ⟨Nat.le_of_ble_eq_true rfl, Nat.le_of_ble_eq_true rfl⟩ rfl rfl (Nat.le_of_ble_eq_true rfl) (c_X11_seamCount m _ h) (fun v w2 hk => ?_)
                                                                obtain ⟨y236, m235, rfl, rfl, h⟩ := hk
                                                                show J X (450, 28400) 1153 [(0, .ref b), (1, .ref (ad 0)), (2, .ref (ad 426)), (3, .int x3)] [.int y236] (fl ad m235)
                                                                refine J_aload_n hX dL_law_1153 rfl 2 rfl ?_
                                                                refine J_callL hX km_X12_seamCount kl_RL_141 dL_law_1154 ka_426 (by decide) [] ⟨Nat.le_of_ble_eq_true rfl, Nat.le_of_ble_eq_true rfl⟩ rfl rfl (Nat.le_of_ble_eq_true rfl) (c_X12_seamCount m235 _ h) (fun v w2 hk => ?_)
                                                                obtain ⟨y238, m237, rfl, rfl, h⟩ := hk
                                                                show J X (450, 28400) 1157 [(0, .ref b), (1, .ref (ad 0)), (2, .ref (ad 426)), (3, .int x3)] [.int y238, .int y236] (fl ad m237)
                                                                refine J_icmp_eq (tgt := 1530) hX dL_law_1157 (by decide) (fun c239 => ?_) (fun c239 => ?_)
                                                                · replace h := Eq.mp (if_pos c239) h
                                                                  refine J_iinc (x := (x3 + (7 : Int32))) (lv2 := [(3, .int (x3 + (7 : Int32))), (0, .ref b), (1, .ref (ad 0)), (2, .ref (ad 426))]) hX dL_law_1530 3 rfl rfl (Nat.le_of_ble_eq_true rfl) rfl ?_
                                                                  refine J_goto (tgt := 18) hX dL_law_1533 (by decide) ?_
                                                                  exact J_sub [1, 2, 3, 0] rfl (hrec (x3 + (7 : Int32)) m237 h)
                                                                · replace h := Eq.mp (if_neg c239) h
                                                                  refine J_iconst (v := (0 : Int32)) hX dL_law_1160 (by decide) ?_
                                                                  exact J_lawret hX hR dL_law_1161 bo_0 ⟨_, _, rfl, rfl, h⟩
                                                              · replace h := Eq.mp (if_neg c234) h
                                                                by_cases c240 : ((sc x3.toNatClampNeg) &&& (63 : Int32)) = (30 : Int32)
                                                                · replace h := Eq.mp (if_pos c240) h
                                                                  refine J_tabIn (v := (30 : Int32)) (tgt := 1162) hX dL_law_33 c240 (by decide) (by decide) rfl (by decide) ?_
                                                                  refine J_aload_n hX dL_law_1162 rfl 1 rfl ?_
                                                                  refine J_aload_n hX dL_law_1163 rfl 0 rfl ?_
                                                                  refine J_iload_n hX dL_law_1164 rfl 3 rfl ?_
                                                                  refine J_iconst (v := (1 : Int32)) hX dL_law_1165 (by decide) ?_
                                                                  refine J_iadd hX dL_law_1166 ?_
                                                                  obtain ⟨b241, h⟩ := h
                                                                  refine J_sldS hX hB dL_law_1167 b241 ?_
                                                                  refine J_aload_n hX dL_law_1168 rfl 0 rfl ?_
                                                                  refine J_iload_n hX dL_law_1169 rfl 3 rfl ?_
                                                                  refine J_iconst (v := (2 : Int32)) hX dL_law_1170 (by decide) ?_
                                                                  refine J_iadd hX dL_law_1171 ?_
                                                                  obtain ⟨b242, h⟩ := h
                                                                  refine J_sldS hX hB dL_law_1172 b242 ?_
                                                                  refine J_callL hX km_X11_seam kl_RL_142 dL_law_1173 ka_0 (by decide) [.int (sc (x3 + (1 : Int32)).toNatClampNeg), .int (sc (x3 + (2 : Int32)).toNatClampNeg)] ⟨Nat.le_of_ble_eq_true rfl, Nat.le_of_ble_eq_true rfl⟩ rfl rfl (Nat.le_of_ble_eq_true rfl) (c_X11_seam (sc (x3 + (1 : Int32)).toNatClampNeg) (sc (x3 + (2 : Int32)).toNatClampNeg) m _ h) (fun v w2 hk => ?_)
                                                                  obtain ⟨y244, m243, rfl, rfl, h⟩ := hk
                                                                  show J X (450, 28400) 1176 [(0, .ref b), (1, .ref (ad 0)), (2, .ref (ad 426)), (3, .int x3)] [.int y244] (fl ad m243)
                                                                  refine J_aload_n hX dL_law_1176 rfl 2 rfl ?_
                                                                  refine J_aload_n hX dL_law_1177 rfl 0 rfl ?_
                                                                  refine J_iload_n hX dL_law_1178 rfl 3 rfl ?_
                                                                  refine J_iconst (v := (1 : Int32)) hX dL_law_1179 (by decide) ?_
                                                                  refine J_iadd hX dL_law_1180 ?_
                                                                  refine J_sldS hX hB dL_law_1181 b241 ?_
                                                                  refine J_aload_n hX dL_law_1182 rfl 0 rfl ?_
                                                                  refine J_iload_n hX dL_law_1183 rfl 3 rfl ?_
                                                                  refine J_iconst (v := (2 : Int32)) hX dL_law_1184 (by decide) ?_
                                                                  refine J_iadd hX dL_law_1185 ?_
                                                                  refine J_sldS hX hB dL_law_1186 b242 ?_
                                                                  refine J_callL hX km_X12_seam kl_RL_145 dL_law_1187 ka_426 (by decide) [.int (sc (x3 + (1 : Int32)).toNatClampNeg), .int (sc (x3 + (2 : Int32)).toNatClampNeg)] ⟨Nat.le_of_ble_eq_true rfl, Nat.le_of_ble_eq_true rfl⟩ rfl rfl (Nat.le_of_ble_eq_true rfl) (c_X12_seam (sc (x3 + (1 : Int32)).toNatClampNeg) (sc (x3 + (2 : Int32)).toNatClampNeg) m243 _ h) (fun v w2 hk => ?_)
                                                                  obtain ⟨y246, m245, rfl, rfl, h⟩ := hk
                                                                  show J X (450, 28400) 1190 [(0, .ref b), (1, .ref (ad 0)), (2, .ref (ad 426)), (3, .int x3)] [.int y246, .int y244] (fl ad m245)
                                                                  refine J_icmp_eq (tgt := 1530) hX dL_law_1190 (by decide) (fun c247 => ?_) (fun c247 => ?_)
                                                                  · replace h := Eq.mp (if_pos c247) h
                                                                    refine J_iinc (x := (x3 + (7 : Int32))) (lv2 := [(3, .int (x3 + (7 : Int32))), (0, .ref b), (1, .ref (ad 0)), (2, .ref (ad 426))]) hX dL_law_1530 3 rfl rfl (Nat.le_of_ble_eq_true rfl) rfl ?_
                                                                    refine J_goto (tgt := 18) hX dL_law_1533 (by decide) ?_
                                                                    exact J_sub [1, 2, 3, 0] rfl (hrec (x3 + (7 : Int32)) m245 h)
                                                                  · replace h := Eq.mp (if_neg c247) h
                                                                    refine J_iconst (v := (0 : Int32)) hX dL_law_1193 (by decide) ?_
                                                                    exact J_lawret hX hR dL_law_1194 bo_0 ⟨_, _, rfl, rfl, h⟩
                                                                · replace h := Eq.mp (if_neg c240) h
                                                                  by_cases c248 : ((sc x3.toNatClampNeg) &&& (63 : Int32)) = (31 : Int32)
                                                                  · replace h := Eq.mp (if_pos c248) h
                                                                    refine J_tabIn (v := (31 : Int32)) (tgt := 1195) hX dL_law_33 c248 (by decide) (by decide) rfl (by decide) ?_
                                                                    refine J_aload_n hX dL_law_1195 rfl 1 rfl ?_
                                                                    refine J_aload_n hX dL_law_1196 rfl 0 rfl ?_
                                                                    refine J_iload_n hX dL_law_1197 rfl 3 rfl ?_
                                                                    refine J_iconst (v := (1 : Int32)) hX dL_law_1198 (by decide) ?_
                                                                    refine J_iadd hX dL_law_1199 ?_
                                                                    obtain ⟨b249, h⟩ := h
                                                                    refine J_sldS hX hB dL_law_1200 b249 ?_
                                                                    refine J_callL hX km_X11_coverage kl_RL_146 dL_law_1201 ka_0 (by decide) [.int (sc (x3 + (1 : Int32)).toNatClampNeg)] ⟨Nat.le_of_ble_eq_true rfl, Nat.le_of_ble_eq_true rfl⟩ rfl rfl (Nat.le_of_ble_eq_true rfl) (c_X11_coverage (sc (x3 + (1 : Int32)).toNatClampNeg) m _ h) (fun v w2 hk => ?_)
                                                                    obtain ⟨y251, m250, rfl, rfl, h⟩ := hk
                                                                    show J X (450, 28400) 1204 [(0, .ref b), (1, .ref (ad 0)), (2, .ref (ad 426)), (3, .int x3)] [.int y251] (fl ad m250)
                                                                    refine J_aload_n hX dL_law_1204 rfl 2 rfl ?_
                                                                    refine J_aload_n hX dL_law_1205 rfl 0 rfl ?_
                                                                    refine J_iload_n hX dL_law_1206 rfl 3 rfl ?_
                                                                    refine J_iconst (v := (1 : Int32)) hX dL_law_1207 (by decide) ?_
                                                                    refine J_iadd hX dL_law_1208 ?_
                                                                    refine J_sldS hX hB dL_law_1209 b249 ?_
                                                                    refine J_callL hX km_X12_coverage kl_RL_149 dL_law_1210 ka_426 (by decide) [.int (sc (x3 + (1 : Int32)).toNatClampNeg)] ⟨Nat.le_of_ble_eq_true rfl, Nat.le_of_ble_eq_true rfl⟩ rfl rfl (Nat.le_of_ble_eq_true rfl) (c_X12_coverage (sc (x3 + (1 : Int32)).toNatClampNeg) m250 _ h) (fun v w2 hk => ?_)
                                                                    obtain ⟨y253, m252, rfl, rfl, h⟩ := hk
                                                                    show J X (450, 28400) 1213 [(0, .ref b), (1, .ref (ad 0)), (2, .ref (ad 426)), (3, .int x3)] [.int y253, .int y251] (fl ad m252)
                                                                    refine J_icmp_eq (tgt := 1530) hX dL_law_1213 (by decide) (fun c254 => ?_) (fun c254 => ?_)
                                                                    · replace h := Eq.mp (if_pos c254) h
                                                                      refine J_iinc (x := (x3 + (7 : Int32))) (lv2 := [(3, .int (x3 + (7 : Int32))), (0, .ref b), (1, .ref (ad 0)), (2, .ref (ad 426))]) hX dL_law_1530 3 rfl rfl (Nat.le_of_ble_eq_true rfl) rfl ?_
                                                                      refine J_goto (tgt := 18) hX dL_law_1533 (by decide) ?_
                                                                      exact J_sub [1, 2, 3, 0] rfl (hrec (x3 + (7 : Int32)) m252 h)
                                                                    · replace h := Eq.mp (if_neg c254) h
                                                                      refine J_iconst (v := (0 : Int32)) hX dL_law_1216 (by decide) ?_
                                                                      exact J_lawret hX hR dL_law_1217 bo_0 ⟨_, _, rfl, rfl, h⟩
                                                                  · replace h := Eq.mp (if_neg c248) h
                                                                    by_cases c255 : ((sc x3.toNatClampNeg) &&& (63 : Int32)) = (32 : Int32)
                                                                    · replace h := Eq.mp (if_pos c255) h
                                                                      refine J_tabIn (v := (32 : Int32)) (tgt := 1218) hX dL_law_33 c255 (by decide) (by decide) rfl (by decide) ?_
                                                                      refine J_aload_n hX dL_law_1218 rfl 1 rfl ?_
                                                                      refine J_callL hX km_X11_volume kl_RL_150 dL_law_1219 ka_0 (by decide) [] ⟨Nat.le_of_ble_eq_true rfl, Nat.le_of_ble_eq_true rfl⟩ rfl rfl (Nat.le_of_ble_eq_true rfl) (c_X11_volume m _ h) (fun v w2 hk => ?_)
                                                                      obtain ⟨y257, m256, rfl, rfl, h⟩ := hk
                                                                      show J X (450, 28400) 1222 [(0, .ref b), (1, .ref (ad 0)), (2, .ref (ad 426)), (3, .int x3)] [.long y257] (fl ad m256)
                                                                      refine J_aload_n hX dL_law_1222 rfl 2 rfl ?_
                                                                      refine J_callL hX km_X12_volume kl_RL_154 dL_law_1223 ka_426 (by decide) [] ⟨Nat.le_of_ble_eq_true rfl, Nat.le_of_ble_eq_true rfl⟩ rfl rfl (Nat.le_of_ble_eq_true rfl) (c_X12_volume m256 _ h) (fun v w2 hk => ?_)
                                                                      obtain ⟨y259, m258, rfl, rfl, h⟩ := hk
                                                                      show J X (450, 28400) 1226 [(0, .ref b), (1, .ref (ad 0)), (2, .ref (ad 426)), (3, .int x3)] [.long y259, .long y257] (fl ad m258)
                                                                      refine J_lcmp hX dL_law_1226 ?_
                                                                      refine J_if_eq (tgt := 1530) hX dL_law_1227 (by decide) (fun c260 => ?_) (fun c260 => ?_)
                                                                      · replace h := Eq.mp (if_pos c260) h
                                                                        refine J_iinc (x := (x3 + (7 : Int32))) (lv2 := [(3, .int (x3 + (7 : Int32))), (0, .ref b), (1, .ref (ad 0)), (2, .ref (ad 426))]) hX dL_law_1530 3 rfl rfl (Nat.le_of_ble_eq_true rfl) rfl ?_
                                                                        refine J_goto (tgt := 18) hX dL_law_1533 (by decide) ?_
                                                                        exact J_sub [1, 2, 3, 0] rfl (hrec (x3 + (7 : Int32)) m258 h)
                                                                      · replace h := Eq.mp (if_neg c260) h
                                                                        refine J_iconst (v := (0 : Int32)) hX dL_law_1230 (by decide) ?_
                                                                        exact J_lawret hX hR dL_law_1231 bo_0 ⟨_, _, rfl, rfl, h⟩
                                                                    · replace h := Eq.mp (if_neg c255) h
                                                                      by_cases c261 : ((sc x3.toNatClampNeg) &&& (63 : Int32)) = (33 : Int32)
                                                                      · replace h := Eq.mp (if_pos c261) h
                                                                        refine J_tabIn (v := (33 : Int32)) (tgt := 1232) hX dL_law_33 c261 (by decide) (by decide) rfl (by decide) ?_
                                                                        refine J_aload_n hX dL_law_1232 rfl 1 rfl ?_
                                                                        refine J_callL hX km_X11_leastTolerance kl_RL_155 dL_law_1233 ka_0 (by decide) [] ⟨Nat.le_of_ble_eq_true rfl, Nat.le_of_ble_eq_true rfl⟩ rfl rfl (Nat.le_of_ble_eq_true rfl) (c_X11_leastTolerance m _ h) (fun v w2 hk => ?_)
                                                                        obtain ⟨y263, m262, rfl, rfl, h⟩ := hk
                                                                        show J X (450, 28400) 1236 [(0, .ref b), (1, .ref (ad 0)), (2, .ref (ad 426)), (3, .int x3)] [.int y263] (fl ad m262)
                                                                        refine J_aload_n hX dL_law_1236 rfl 2 rfl ?_
                                                                        refine J_callL hX km_X12_leastTolerance kl_RL_158 dL_law_1237 ka_426 (by decide) [] ⟨Nat.le_of_ble_eq_true rfl, Nat.le_of_ble_eq_true rfl⟩ rfl rfl (Nat.le_of_ble_eq_true rfl) (c_X12_leastTolerance m262 _ h) (fun v w2 hk => ?_)
                                                                        obtain ⟨y265, m264, rfl, rfl, h⟩ := hk
                                                                        show J X (450, 28400) 1240 [(0, .ref b), (1, .ref (ad 0)), (2, .ref (ad 426)), (3, .int x3)] [.int y265, .int y263] (fl ad m264)
                                                                        refine J_icmp_eq (tgt := 1530) hX dL_law_1240 (by decide) (fun c266 => ?_) (fun c266 => ?_)
                                                                        · replace h := Eq.mp (if_pos c266) h
                                                                          refine J_iinc (x := (x3 + (7 : Int32))) (lv2 := [(3, .int (x3 + (7 : Int32))), (0, .ref b), (1, .ref (ad 0)), (2, .ref (ad 426))]) hX dL_law_1530 3 rfl rfl (Nat.le_of_ble_eq_true rfl) rfl ?_
                                                                          refine J_goto (tgt := 18) hX dL_law_1533 (by decide) ?_
                                                                          exact J_sub [1, 2, 3, 0] rfl (hrec (x3 + (7 : Int32)) m264 h)
                                                                        · replace h := Eq.mp (if_neg c266) h
                                                                          refine J_iconst (v := (0 : Int32)) hX dL_law_1243 (by decide) ?_
                                                                          exact J_lawret hX hR dL_law_1244 bo_0 ⟨_, _, rfl, rfl, h⟩
                                                                      · replace h := Eq.mp (if_neg c261) h
                                                                        by_cases c267 : ((sc x3.toNatClampNeg) &&& (63 : Int32)) = (34 : Int32)
                                                                        · replace h := Eq.mp (if_pos c267) h
                                                                          refine J_tabIn (v := (34 : Int32)) (tgt := 1245) hX dL_law_33 c267 (by decide) (by decide) rfl (by decide) ?_
                                                                          refine J_aload_n hX dL_law_1245 rfl 1 rfl ?_
                                                                          refine J_aload_n hX dL_law_1246 rfl 0 rfl ?_
                                                                          refine J_iload_n hX dL_law_1247 rfl 3 rfl ?_
                                                                          refine J_iconst (v := (1 : Int32)) hX dL_law_1248 (by decide) ?_
                                                                          refine J_iadd hX dL_law_1249 ?_
                                                                          obtain ⟨b268, h⟩ := h
                                                                          refine J_sldS hX hB dL_law_1250 b268 ?_
                                                                          refine J_callL hX km_X11_crossings kl_RL_159 dL_law_1251 ka_0 (by decide) [.int (sc (x3 + (1 : Int32)).toNatClampNeg)] ⟨Nat.le_of_ble_eq_true rfl, Nat.le_of_ble_eq_true rfl⟩ rfl rfl (Nat.le_of_ble_eq_true rfl) (c_X11_crossings (sc (x3 + (1 : Int32)).toNatClampNeg) m _ h) (fun v w2 hk => ?_)
                                                                          obtain ⟨y270, m269, rfl, rfl, h⟩ := hk
                                                                          show J X (450, 28400) 1254 [(0, .ref b), (1, .ref (ad 0)), (2, .ref (ad 426)), (3, .int x3)] [.int y270] (fl ad m269)
                                                                          refine J_aload_n hX dL_law_1254 rfl 2 rfl ?_
                                                                          refine J_aload_n hX dL_law_1255 rfl 0 rfl ?_
                                                                          refine J_iload_n hX dL_law_1256 rfl 3 rfl ?_
                                                                          refine J_iconst (v := (1 : Int32)) hX dL_law_1257 (by decide) ?_
                                                                          refine J_iadd hX dL_law_1258 ?_
                                                                          refine J_sldS hX hB dL_law_1259 b268 ?_
                                                                          refine J_callL hX km_X12_crossings kl_RL_162 dL_law_1260 ka_426 (by decide) [.int (sc (x3 + (1 : Int32)).toNatClampNeg)] ⟨Nat.le_of_ble_eq_true rfl, Nat.le_of_ble_eq_true rfl⟩ rfl rfl (Nat.le_of_ble_eq_true rfl) (c_X12_crossings (sc (x3 + (1 : Int32)).toNatClampNeg) m269 _ h) (fun v w2 hk => ?_)
                                                                          obtain ⟨y272, m271, rfl, rfl, h⟩ := hk
                                                                          show J X (450, 28400) 1263 [(0, .ref b), (1, .ref (ad 0)), (2, .ref (ad 426)), (3, .int x3)] [.int y272, .int y270] (fl ad m271)
                                                                          refine J_icmp_eq (tgt := 1530) hX dL_law_1263 (by decide) (fun c273 => ?_) (fun c273 => ?_)
                                                                          · replace h := Eq.mp (if_pos c273) h
                                                                            refine J_iinc (x := (x3 + (7 : Int32))) (lv2 := [(3, .int (x3 + (7 : Int32))), (0, .ref b), (1, .ref (ad 0)), (2, .ref (ad 426))]) hX dL_law_1530 3 rfl rfl (Nat.le_of_ble_eq_true rfl) rfl ?_
                                                                            refine J_goto (tgt := 18) hX dL_law_1533 (by decide) ?_
                                                                            exact J_sub [1, 2, 3, 0] rfl (hrec (x3 + (7 : Int32)) m271 h)
                                                                          · replace h := Eq.mp (if_neg c273) h
                                                                            refine J_iconst (v := (0 : Int32)) hX dL_law_1266 (by decide) ?_
                                                                            exact J_lawret hX hR dL_law_1267 bo_0 ⟨_, _, rfl, rfl, h⟩
                                                                        · replace h := Eq.mp (if_neg c267) h
                                                                          by_cases c274 : ((sc x3.toNatClampNeg) &&& (63 : Int32)) = (35 : Int32)
                                                                          · replace h := Eq.mp (if_pos c274) h
                                                                            refine J_tabIn (v := (35 : Int32)) (tgt := 1268) hX dL_law_33 c274 (by decide) (by decide) rfl (by decide) ?_
                                                                            refine J_aload_n hX dL_law_1268 rfl 1 rfl ?_
                                                                            refine J_aload_n hX dL_law_1269 rfl 0 rfl ?_
                                                                            refine J_iload_n hX dL_law_1270 rfl 3 rfl ?_
                                                                            refine J_iconst (v := (1 : Int32)) hX dL_law_1271 (by decide) ?_
                                                                            refine J_iadd hX dL_law_1272 ?_
                                                                            obtain ⟨b275, h⟩ := h
                                                                            refine J_sldS hX hB dL_law_1273 b275 ?_
                                                                            refine J_callL hX km_X11_foldStep kl_RL_163 dL_law_1274 ka_0 (by decide) [.int (sc (x3 + (1 : Int32)).toNatClampNeg)] ⟨Nat.le_of_ble_eq_true rfl, Nat.le_of_ble_eq_true rfl⟩ rfl rfl (Nat.le_of_ble_eq_true rfl) (c_X11_foldStep (sc (x3 + (1 : Int32)).toNatClampNeg) m _ h) (fun v w2 hk => ?_)
                                                                            obtain ⟨y277, m276, rfl, rfl, h⟩ := hk
                                                                            show J X (450, 28400) 1277 [(0, .ref b), (1, .ref (ad 0)), (2, .ref (ad 426)), (3, .int x3)] [.int y277] (fl ad m276)
                                                                            refine J_aload_n hX dL_law_1277 rfl 2 rfl ?_
                                                                            refine J_aload_n hX dL_law_1278 rfl 0 rfl ?_
                                                                            refine J_iload_n hX dL_law_1279 rfl 3 rfl ?_
                                                                            refine J_iconst (v := (1 : Int32)) hX dL_law_1280 (by decide) ?_
                                                                            refine J_iadd hX dL_law_1281 ?_
                                                                            refine J_sldS hX hB dL_law_1282 b275 ?_
                                                                            refine J_callL hX km_X12_foldStep kl_RL_166 dL_law_1283 ka_426 (by decide) [.int (sc (x3 + (1 : Int32)).toNatClampNeg)] ⟨Nat.le_of_ble_eq_true rfl, Nat.le_of_ble_eq_true rfl⟩ rfl rfl (Nat.le_of_ble_eq_true rfl) (c_X12_foldStep (sc (x3 + (1 : Int32)).toNatClampNeg) m276 _ h) (fun v w2 hk => ?_)
                                                                            obtain ⟨y279, m278, rfl, rfl, h⟩ := hk
                                                                            show J X (450, 28400) 1286 [(0, .ref b), (1, .ref (ad 0)), (2, .ref (ad 426)), (3, .int x3)] [.int y279, .int y277] (fl ad m278)
                                                                            refine J_icmp_eq (tgt := 1530) hX dL_law_1286 (by decide) (fun c280 => ?_) (fun c280 => ?_)
                                                                            · replace h := Eq.mp (if_pos c280) h
                                                                              refine J_iinc (x := (x3 + (7 : Int32))) (lv2 := [(3, .int (x3 + (7 : Int32))), (0, .ref b), (1, .ref (ad 0)), (2, .ref (ad 426))]) hX dL_law_1530 3 rfl rfl (Nat.le_of_ble_eq_true rfl) rfl ?_
                                                                              refine J_goto (tgt := 18) hX dL_law_1533 (by decide) ?_
                                                                              exact J_sub [1, 2, 3, 0] rfl (hrec (x3 + (7 : Int32)) m278 h)
                                                                            · replace h := Eq.mp (if_neg c280) h
                                                                              refine J_iconst (v := (0 : Int32)) hX dL_law_1289 (by decide) ?_
                                                                              exact J_lawret hX hR dL_law_1290 bo_0 ⟨_, _, rfl, rfl, h⟩
                                                                          · replace h := Eq.mp (if_neg c274) h
                                                                            by_cases c281 : ((sc x3.toNatClampNeg) &&& (63 : Int32)) = (36 : Int32)
                                                                            · replace h := Eq.mp (if_pos c281) h
                                                                              refine J_tabIn (v := (36 : Int32)) (tgt := 1291) hX dL_law_33 c281 (by decide) (by decide) rfl (by decide) ?_
                                                                              refine J_aload_n hX dL_law_1291 rfl 1 rfl ?_
                                                                              refine J_aload_n hX dL_law_1292 rfl 0 rfl ?_
                                                                              refine J_iload_n hX dL_law_1293 rfl 3 rfl ?_
                                                                              refine J_iconst (v := (1 : Int32)) hX dL_law_1294 (by decide) ?_
                                                                              refine J_iadd hX dL_law_1295 ?_
                                                                              obtain ⟨b282, h⟩ := h
                                                                              refine J_sldS hX hB dL_law_1296 b282 ?_
                                                                              refine J_aload_n hX dL_law_1297 rfl 0 rfl ?_
                                                                              refine J_iload_n hX dL_law_1298 rfl 3 rfl ?_
                                                                              refine J_iconst (v := (2 : Int32)) hX dL_law_1299 (by decide) ?_
                                                                              refine J_iadd hX dL_law_1300 ?_
                                                                              obtain ⟨b283, h⟩ := h
                                                                              refine J_sldS hX hB dL_law_1301 b283 ?_
                                                                              refine J_aload_n hX dL_law_1302 rfl 0 rfl ?_
                                                                              refine J_iload_n hX dL_law_1303 rfl 3 rfl ?_
                                                                              refine J_iconst (v := (3 : Int32)) hX dL_law_1304 (by decide) ?_
                                                                              refine J_iadd hX dL_law_1305 ?_
                                                                              obtain ⟨b284, h⟩ := h
                                                                              refine J_sldS hX hB dL_law_1306 b284 ?_
                                                                              refine J_aload_n hX dL_law_1307 rfl 0 rfl ?_
                                                                              refine J_iload_n hX dL_law_1308 rfl 3 rfl ?_
                                                                              refine J_iconst (v := (4 : Int32)) hX dL_law_1309 (by decide) ?_
                                                                              refine J_iadd hX dL_law_1310 ?_
                                                                              obtain ⟨b285, h⟩ := h
                                                                              refine J_sldS hX hB dL_law_1311 b285 ?_
                                                                              refine J_callL hX km_X11_imageAt kl_RL_167 dL_law_1312 ka_0 (by decide) [.int (sc (x3 + (1 : Int32)).toNatClampNeg), .int (sc (x3 + (2 : Int32)).toNatClampNeg), .int (sc (x3 + (3 : Int32)).toNatClampNeg), .int (sc (x3 + (4 : Int32)).toNatClampNeg)] ⟨Nat.le_of_ble_eq_true rfl, Nat.le_of_ble_eq_true rfl⟩ rfl rfl (Nat.le_of_ble_eq_true rfl) (c_X11_imageAt (sc (x3 + (1 : Int32)).toNatClampNeg) (sc (x3 + (2 : Int32)).toNatClampNeg) (sc (x3 + (3 : Int32)).toNatClampNeg) (sc (x3 + (4 : Int32)).toNatClampNeg) m) (fun v w2 hk => ?_)
                                                                              obtain ⟨rfl, rfl⟩ := hk
                                                                              show J X (450, 28400) 1315 [(0, .ref b), (1, .ref (ad 0)), (2, .ref (ad 426)), (3, .int x3)] [.int (v_X11_imageAt (sc (x3 + (1 : Int32)).toNatClampNeg) (sc (x3 + (2 : Int32)).toNatClampNeg) (sc (x3 + (3 : Int32)).toNatClampNeg) (sc (x3 + (4 : Int32)).toNatClampNeg) m)] (fl ad m)
                                                                              refine J_aload_n hX dL_law_1315 rfl 2 rfl ?_
                                                                              refine J_aload_n hX dL_law_1316 rfl 0 rfl ?_
                                                                              refine J_iload_n hX dL_law_1317 rfl 3 rfl ?_
                                                                              refine J_iconst (v := (1 : Int32)) hX dL_law_1318 (by decide) ?_
                                                                              refine J_iadd hX dL_law_1319 ?_
                                                                              refine J_sldS hX hB dL_law_1320 b282 ?_
                                                                              refine J_aload_n hX dL_law_1321 rfl 0 rfl ?_
                                                                              refine J_iload_n hX dL_law_1322 rfl 3 rfl ?_
                                                                              refine J_iconst (v := (2 : Int32)) hX dL_law_1323 (by decide) ?_
                                                                              refine J_iadd hX dL_law_1324 ?_
                                                                              refine J_sldS hX hB dL_law_1325 b283 ?_
                                                                              refine J_aload_n hX dL_law_1326 rfl 0 rfl ?_
                                                                              refine J_iload_n hX dL_law_1327 rfl 3 rfl ?_
                                                                              refine J_iconst (v := (3 : Int32)) hX dL_law_1328 (by decide) ?_
                                                                              refine J_iadd hX dL_law_1329 ?_
                                                                              refine J_sldS hX hB dL_law_1330 b284 ?_
                                                                              refine J_aload_n hX dL_law_1331 rfl 0 rfl ?_
                                                                              refine J_iload_n hX dL_law_1332 rfl 3 rfl ?_
                                                                              refine J_iconst (v := (4 : Int32)) hX dL_law_1333 (by decide) ?_
                                                                              refine J_iadd hX dL_law_1334 ?_
                                                                              refine J_sldS hX hB dL_law_1335 b285 ?_
                                                                              obtain ⟨b286, h⟩ := h
                                                                              refine J_callL hX km_X12_imageAt kl_RL_170 dL_law_1336 ka_426 (by decide) [.int (sc (x3 + (1 : Int32)).toNatClampNeg), .int (sc (x3 + (2 : Int32)).toNatClampNeg), .int (sc (x3 + (3 : Int32)).toNatClampNeg), .int (sc (x3 + (4 : Int32)).toNatClampNeg)] ⟨Nat.le_of_ble_eq_true rfl, Nat.le_of_ble_eq_true rfl⟩ rfl rfl (Nat.le_of_ble_eq_true rfl) (c_X12_imageAt (sc (x3 + (1 : Int32)).toNatClampNeg) (sc (x3 + (2 : Int32)).toNatClampNeg) (sc (x3 + (3 : Int32)).toNatClampNeg) (sc (x3 + (4 : Int32)).toNatClampNeg) m b286) (fun v w2 hk => ?_)
                                                                              obtain ⟨rfl, rfl⟩ := hk
                                                                              show J X (450, 28400) 1339 [(0, .ref b), (1, .ref (ad 0)), (2, .ref (ad 426)), (3, .int x3)] [.int (v_X12_imageAt (sc (x3 + (1 : Int32)).toNatClampNeg) (sc (x3 + (2 : Int32)).toNatClampNeg) (sc (x3 + (3 : Int32)).toNatClampNeg) (sc (x3 + (4 : Int32)).toNatClampNeg) m), .int (v_X11_imageAt (sc (x3 + (1 : Int32)).toNatClampNeg) (sc (x3 + (2 : Int32)).toNatClampNeg) (sc (x3 + (3 : Int32)).toNatClampNeg) (sc (x3 + (4 : Int32)).toNatClampNeg) m)] (fl ad m)
                                                                              refine J_icmp_eq (tgt := 1530) hX dL_law_1339 (by decide) (fun c287 => ?_) (fun c287 => ?_)
                                                                              · replace h := Eq.mp (if_pos c287) h
                                                                                refine J_iinc (x := (x3 + (7 : Int32))) (lv2 := [(3, .int (x3 + (7 : Int32))), (0, .ref b), (1, .ref (ad 0)), (2, .ref (ad 426))]) hX dL_law_1530 3 rfl rfl (Nat.le_of_ble_eq_true rfl) rfl ?_
                                                                                refine J_goto (tgt := 18) hX dL_law_1533 (by decide) ?_
                                                                                exact J_sub [1, 2, 3, 0] rfl (hrec (x3 + (7 : Int32)) m h)
                                                                              · replace h := Eq.mp (if_neg c287) h
                                                                                refine J_iconst (v := (0 : Int32)) hX dL_law_1342 (by decide) ?_
                                                                                exact J_lawret hX hR dL_law_1343 bo_0 ⟨_, _, rfl, rfl, h⟩
                                                                            · replace h := Eq.mp (if_neg c281) h
                                                                              by_cases c288 : ((sc x3.toNatClampNeg) &&& (63 : Int32)) = (37 : Int32)
                                                                              · replace h := Eq.mp (if_pos c288) h
                                                                                refine J_tabIn (v := (37 : Int32)) (tgt := 1344) hX dL_law_33 c288 (by decide) (by decide) rfl (by decide) ?_
                                                                                refine J_aload_n hX dL_law_1344 rfl 1 rfl ?_
                                                                                refine J_aload_n hX dL_law_1345 rfl 0 rfl ?_
                                                                                refine J_iload_n hX dL_law_1346 rfl 3 rfl ?_
                                                                                refine J_iconst (v := (1 : Int32)) hX dL_law_1347 (by decide) ?_
                                                                                refine J_iadd hX dL_law_1348 ?_
                                                                                obtain ⟨b289, h⟩ := h
                                                                                refine J_sldS hX hB dL_law_1349 b289 ?_
                                                                                refine J_aload_n hX dL_law_1350 rfl 0 rfl ?_
                                                                                refine J_iload_n hX dL_law_1351 rfl 3 rfl ?_
                                                                                refine J_iconst (v := (2 : Int32)) hX dL_law_1352 (by decide) ?_
                                                                                refine J_iadd hX dL_law_1353 ?_
                                                                                obtain ⟨b290, h⟩ := h
                                                                                refine J_sldS hX hB dL_law_1354 b290 ?_
                                                                                refine J_callL hX km_X11_reach kl_RL_171 dL_law_1355 ka_0 (by decide) [.int (sc (x3 + (1 : Int32)).toNatClampNeg), .int (sc (x3 + (2 : Int32)).toNatClampNeg)] ⟨Nat.le_of_ble_eq_true rfl, Nat.le_of_ble_eq_true rfl⟩ rfl rfl (Nat.le_of_ble_eq_true rfl) (c_X11_reach (sc (x3 + (1 : Int32)).toNatClampNeg) (sc (x3 + (2 : Int32)).toNatClampNeg) m) (fun v w2 hk => ?_)
                                                                                obtain ⟨rfl, rfl⟩ := hk
                                                                                show J X (450, 28400) 1358 [(0, .ref b), (1, .ref (ad 0)), (2, .ref (ad 426)), (3, .int x3)] [.int (v_X11_reach (sc (x3 + (1 : Int32)).toNatClampNeg) (sc (x3 + (2 : Int32)).toNatClampNeg) m)] (fl ad m)
                                                                                refine J_aload_n hX dL_law_1358 rfl 2 rfl ?_
                                                                                refine J_aload_n hX dL_law_1359 rfl 0 rfl ?_
                                                                                refine J_iload_n hX dL_law_1360 rfl 3 rfl ?_
                                                                                refine J_iconst (v := (1 : Int32)) hX dL_law_1361 (by decide) ?_
                                                                                refine J_iadd hX dL_law_1362 ?_
                                                                                refine J_sldS hX hB dL_law_1363 b289 ?_
                                                                                refine J_aload_n hX dL_law_1364 rfl 0 rfl ?_
                                                                                refine J_iload_n hX dL_law_1365 rfl 3 rfl ?_
                                                                                refine J_iconst (v := (2 : Int32)) hX dL_law_1366 (by decide) ?_
                                                                                refine J_iadd hX dL_law_1367 ?_
                                                                                refine J_sldS hX hB dL_law_1368 b290 ?_
                                                                                refine J_callL hX km_X12_reach kl_RL_174 dL_law_1369 ka_426 (by decide) [.int (sc (x3 + (1 : Int32)).toNatClampNeg), .int (sc (x3 + (2 : Int32)).toNatClampNeg)] ⟨Nat.le_of_ble_eq_true rfl, Nat.le_of_ble_eq_true rfl⟩ rfl rfl (Nat.le_of_ble_eq_true rfl) (c_X12_reach (sc (x3 + (1 : Int32)).toNatClampNeg) (sc (x3 + (2 : Int32)).toNatClampNeg) m _ h) (fun v w2 hk => ?_)
                                                                                obtain ⟨y292, m291, rfl, rfl, h⟩ := hk
                                                                                show J X (450, 28400) 1372 [(0, .ref b), (1, .ref (ad 0)), (2, .ref (ad 426)), (3, .int x3)] [.int y292, .int (v_X11_reach (sc (x3 + (1 : Int32)).toNatClampNeg) (sc (x3 + (2 : Int32)).toNatClampNeg) m)] (fl ad m291)
                                                                                refine J_icmp_eq (tgt := 1530) hX dL_law_1372 (by decide) (fun c293 => ?_) (fun c293 => ?_)
                                                                                · replace h := Eq.mp (if_pos c293) h
                                                                                  refine J_iinc (x := (x3 + (7 : Int32))) (lv2 := [(3, .int (x3 + (7 : Int32))), (0, .ref b), (1, .ref (ad 0)), (2, .ref (ad 426))]) hX dL_law_1530 3 rfl rfl (Nat.le_of_ble_eq_true rfl) rfl ?_
                                                                                  refine J_goto (tgt := 18) hX dL_law_1533 (by decide) ?_
                                                                                  exact J_sub [1, 2, 3, 0] rfl (hrec (x3 + (7 : Int32)) m291 h)
                                                                                · replace h := Eq.mp (if_neg c293) h
                                                                                  refine J_iconst (v := (0 : Int32)) hX dL_law_1375 (by decide) ?_
                                                                                  exact J_lawret hX hR dL_law_1376 bo_0 ⟨_, _, rfl, rfl, h⟩
                                                                              · replace h := Eq.mp (if_neg c288) h
                                                                                by_cases c294 : ((sc x3.toNatClampNeg) &&& (63 : Int32)) = (38 : Int32)
                                                                                · replace h := Eq.mp (if_pos c294) h
                                                                                  refine J_tabIn (v := (38 : Int32)) (tgt := 1377) hX dL_law_33 c294 (by decide) (by decide) rfl (by decide) ?_
                                                                                  refine J_aload_n hX dL_law_1377 rfl 1 rfl ?_
                                                                                  refine J_callL hX km_X11_findingCount kl_RL_175 dL_law_1378 ka_0 (by decide) [] ⟨Nat.le_of_ble_eq_true rfl, Nat.le_of_ble_eq_true rfl⟩ rfl rfl (Nat.le_of_ble_eq_true rfl) (c_X11_findingCount m _ h) (fun v w2 hk => ?_)
                                                                                  obtain ⟨y296, m295, rfl, rfl, h⟩ := hk
                                                                                  show J X (450, 28400) 1381 [(0, .ref b), (1, .ref (ad 0)), (2, .ref (ad 426)), (3, .int x3)] [.int y296] (fl ad m295)
                                                                                  refine J_aload_n hX dL_law_1381 rfl 2 rfl ?_
                                                                                  refine J_callL hX km_X12_findingCount kl_RL_178 dL_law_1382 ka_426 (by decide) [] ⟨Nat.le_of_ble_eq_true rfl, Nat.le_of_ble_eq_true rfl⟩ rfl rfl (Nat.le_of_ble_eq_true rfl) (c_X12_findingCount m295 _ h) (fun v w2 hk => ?_)
                                                                                  obtain ⟨y298, m297, rfl, rfl, h⟩ := hk
                                                                                  show J X (450, 28400) 1385 [(0, .ref b), (1, .ref (ad 0)), (2, .ref (ad 426)), (3, .int x3)] [.int y298, .int y296] (fl ad m297)
                                                                                  refine J_icmp_eq (tgt := 1530) hX dL_law_1385 (by decide) (fun c299 => ?_) (fun c299 => ?_)
                                                                                  · replace h := Eq.mp (if_pos c299) h
                                                                                    refine J_iinc (x := (x3 + (7 : Int32))) (lv2 := [(3, .int (x3 + (7 : Int32))), (0, .ref b), (1, .ref (ad 0)), (2, .ref (ad 426))]) hX dL_law_1530 3 rfl rfl (Nat.le_of_ble_eq_true rfl) rfl ?_
                                                                                    refine J_goto (tgt := 18) hX dL_law_1533 (by decide) ?_
                                                                                    exact J_sub [1, 2, 3, 0] rfl (hrec (x3 + (7 : Int32)) m297 h)
                                                                                  · replace h := Eq.mp (if_neg c299) h
                                                                                    refine J_iconst (v := (0 : Int32)) hX dL_law_1388 (by decide) ?_
                                                                                    exact J_lawret hX hR dL_law_1389 bo_0 ⟨_, _, rfl, rfl, h⟩
                                                                                · replace h := Eq.mp (if_neg c294) h
                                                                                  by_cases c300 : ((sc x3.toNatClampNeg) &&& (63 : Int32)) = (39 : Int32)
                                                                                  · replace h := Eq.mp (if_pos c300) h
                                                                                    refine J_tabIn (v := (39 : Int32)) (tgt := 1390) hX dL_law_33 c300 (by decide) (by decide) rfl (by decide) ?_
                                                                                    refine J_aload_n hX dL_law_1390 rfl 1 rfl ?_
                                                                                    refine J_aload_n hX dL_law_1391 rfl 0 rfl ?_
                                                                                    refine J_iload_n hX dL_law_1392 rfl 3 rfl ?_
                                                                                    refine J_iconst (v := (1 : Int32)) hX dL_law_1393 (by decide) ?_
                                                                                    refine J_iadd hX dL_law_1394 ?_
                                                                                    obtain ⟨b301, h⟩ := h
                                                                                    refine J_sldS hX hB dL_law_1395 b301 ?_
                                                                                    refine J_aload_n hX dL_law_1396 rfl 0 rfl ?_
                                                                                    refine J_iload_n hX dL_law_1397 rfl 3 rfl ?_
                                                                                    refine J_iconst (v := (2 : Int32)) hX dL_law_1398 (by decide) ?_
                                                                                    refine J_iadd hX dL_law_1399 ?_
                                                                                    obtain ⟨b302, h⟩ := h
                                                                                    refine J_sldS hX hB dL_law_1400 b302 ?_
                                                                                    refine J_callL hX km_X11_finding kl_RL_179 dL_law_1401 ka_0 (by decide) [.int (sc (x3 + (1 : Int32)).toNatClampNeg), .int (sc (x3 + (2 : Int32)).toNatClampNeg)] ⟨Nat.le_of_ble_eq_true rfl, Nat.le_of_ble_eq_true rfl⟩ rfl rfl (Nat.le_of_ble_eq_true rfl) (c_X11_finding (sc (x3 + (1 : Int32)).toNatClampNeg) (sc (x3 + (2 : Int32)).toNatClampNeg) m _ h) (fun v w2 hk => ?_)
                                                                                    obtain ⟨y304, m303, rfl, rfl, h⟩ := hk
                                                                                    show J X (450, 28400) 1404 [(0, .ref b), (1, .ref (ad 0)), (2, .ref (ad 426)), (3, .int x3)] [.int y304] (fl ad m303)
                                                                                    refine J_aload_n hX dL_law_1404 rfl 2 rfl ?_
                                                                                    refine J_aload_n hX dL_law_1405 rfl 0 rfl ?_
                                                                                    refine J_iload_n hX dL_law_1406 rfl 3 rfl ?_
                                                                                    refine J_iconst (v := (1 : Int32)) hX dL_law_1407 (by decide) ?_
                                                                                    refine J_iadd hX dL_law_1408 ?_
                                                                                    refine J_sldS hX hB dL_law_1409 b301 ?_
                                                                                    refine J_aload_n hX dL_law_1410 rfl 0 rfl ?_
                                                                                    refine J_iload_n hX dL_law_1411 rfl 3 rfl ?_
                                                                                    refine J_iconst (v := (2 : Int32)) hX dL_law_1412 (by decide) ?_
                                                                                    refine J_iadd hX dL_law_1413 ?_
                                                                                    refine J_sldS hX hB dL_law_1414 b302 ?_
                                                                                    refine J_callL hX km_X12_finding kl_RL_182 dL_law_1415 ka_426 (by decide) [.int (sc (x3 + (1 : Int32)).toNatClampNeg), .int (sc (x3 + (2 : Int32)).toNatClampNeg)] ⟨Nat.le_of_ble_eq_true rfl, Nat.le_of_ble_eq_true rfl⟩ rfl rfl (Nat.le_of_ble_eq_true rfl) (c_X12_finding (sc (x3 + (1 : Int32)).toNatClampNeg) (sc (x3 + (2 : Int32)).toNatClampNeg) m303 _ h) (fun v w2 hk => ?_)
                                                                                    obtain ⟨y306, m305, rfl, rfl, h⟩ := hk
                                                                                    show J X (450, 28400) 1418 [(0, .ref b), (1, .ref (ad 0)), (2, .ref (ad 426)), (3, .int x3)] [.int y306, .int y304] (fl ad m305)
                                                                                    refine J_icmp_eq (tgt := 1530) hX dL_law_1418 (by decide) (fun c307 => ?_) (fun c307 => ?_)
                                                                                    · replace h := Eq.mp (if_pos c307) h
                                                                                      refine J_iinc (x := (x3 + (7 : Int32))) (lv2 := [(3, .int (x3 + (7 : Int32))), (0, .ref b), (1, .ref (ad 0)), (2, .ref (ad 426))]) hX dL_law_1530 3 rfl rfl (Nat.le_of_ble_eq_true rfl) rfl ?_
                                                                                      refine J_goto (tgt := 18) hX dL_law_1533 (by decide) ?_
                                                                                      exact J_sub [1, 2, 3, 0] rfl (hrec (x3 + (7 : Int32)) m305 h)
                                                                                    · replace h := Eq.mp (if_neg c307) h
                                                                                      refine J_iconst (v := (0 : Int32)) hX dL_law_1421 (by decide) ?_
                                                                                      exact J_lawret hX hR dL_law_1422 bo_0 ⟨_, _, rfl, rfl, h⟩
                                                                                  · replace h := Eq.mp (if_neg c300) h
                                                                                    by_cases c308 : ((sc x3.toNatClampNeg) &&& (63 : Int32)) = (40 : Int32)
                                                                                    · replace h := Eq.mp (if_pos c308) h
                                                                                      refine J_tabIn (v := (40 : Int32)) (tgt := 1423) hX dL_law_33 c308 (by decide) (by decide) rfl (by decide) ?_
                                                                                      refine J_aload_n hX dL_law_1423 rfl 1 rfl ?_
                                                                                      refine J_callL hX km_X11_totalCost kl_RL_183 dL_law_1424 ka_0 (by decide) [] ⟨Nat.le_of_ble_eq_true rfl, Nat.le_of_ble_eq_true rfl⟩ rfl rfl (Nat.le_of_ble_eq_true rfl) (c_X11_totalCost m _ h) (fun v w2 hk => ?_)
                                                                                      obtain ⟨y310, m309, rfl, rfl, h⟩ := hk
                                                                                      show J X (450, 28400) 1427 [(0, .ref b), (1, .ref (ad 0)), (2, .ref (ad 426)), (3, .int x3)] [.long y310] (fl ad m309)
                                                                                      refine J_aload_n hX dL_law_1427 rfl 2 rfl ?_
                                                                                      refine J_callL hX km_X12_totalCost kl_RL_186 dL_law_1428 ka_426 (by decide) [] ⟨Nat.le_of_ble_eq_true rfl, Nat.le_of_ble_eq_true rfl⟩ rfl rfl (Nat.le_of_ble_eq_true rfl) (c_X12_totalCost m309 _ h) (fun v w2 hk => ?_)
                                                                                      obtain ⟨y312, m311, rfl, rfl, h⟩ := hk
                                                                                      show J X (450, 28400) 1431 [(0, .ref b), (1, .ref (ad 0)), (2, .ref (ad 426)), (3, .int x3)] [.long y312, .long y310] (fl ad m311)
                                                                                      refine J_lcmp hX dL_law_1431 ?_
                                                                                      refine J_if_eq (tgt := 1530) hX dL_law_1432 (by decide) (fun c313 => ?_) (fun c313 => ?_)
                                                                                      · replace h := Eq.mp (if_pos c313) h
                                                                                        refine J_iinc (x := (x3 + (7 : Int32))) (lv2 := [(3, .int (x3 + (7 : Int32))), (0, .ref b), (1, .ref (ad 0)), (2, .ref (ad 426))]) hX dL_law_1530 3 rfl rfl (Nat.le_of_ble_eq_true rfl) rfl ?_
                                                                                        refine J_goto (tgt := 18) hX dL_law_1533 (by decide) ?_
                                                                                        exact J_sub [1, 2, 3, 0] rfl (hrec (x3 + (7 : Int32)) m311 h)
                                                                                      · replace h := Eq.mp (if_neg c313) h
                                                                                        refine J_iconst (v := (0 : Int32)) hX dL_law_1435 (by decide) ?_
                                                                                        exact J_lawret hX hR dL_law_1436 bo_0 ⟨_, _, rfl, rfl, h⟩
                                                                                    · replace h := Eq.mp (if_neg c308) h
                                                                                      by_cases c314 : ((sc x3.toNatClampNeg) &&& (63 : Int32)) = (41 : Int32)
                                                                                      · replace h := Eq.mp (if_pos c314) h
                                                                                        refine J_tabIn (v := (41 : Int32)) (tgt := 1437) hX dL_law_33 c314 (by decide) (by decide) rfl (by decide) ?_
                                                                                        refine J_aload_n hX dL_law_1437 rfl 1 rfl ?_
                                                                                        refine J_aload_n hX dL_law_1438 rfl 0 rfl ?_
                                                                                        refine J_iload_n hX dL_law_1439 rfl 3 rfl ?_
                                                                                        refine J_iconst (v := (1 : Int32)) hX dL_law_1440 (by decide) ?_
                                                                                        refine J_iadd hX dL_law_1441 ?_
                                                                                        obtain ⟨b315, h⟩ := h
                                                                                        refine J_sldS hX hB dL_law_1442 b315 ?_
                                                                                        refine J_callL hX km_X11_panelCost kl_RL_187 dL_law_1443 ka_0 (by decide) [.int (sc (x3 + (1 : Int32)).toNatClampNeg)] ⟨Nat.le_of_ble_eq_true rfl, Nat.le_of_ble_eq_true rfl⟩ rfl rfl (Nat.le_of_ble_eq_true rfl) (c_X11_panelCost (sc (x3 + (1 : Int32)).toNatClampNeg) m _ h) (fun v w2 hk => ?_)
                                                                                        obtain ⟨y317, m316, rfl, rfl, h⟩ := hk
                                                                                        show J X (450, 28400) 1446 [(0, .ref b), (1, .ref (ad 0)), (2, .ref (ad 426)), (3, .int x3)] [.long y317] (fl ad m316)
                                                                                        refine J_aload_n hX dL_law_1446 rfl 2 rfl ?_
                                                                                        refine J_aload_n hX dL_law_1447 rfl 0 rfl ?_
                                                                                        refine J_iload_n hX dL_law_1448 rfl 3 rfl ?_
                                                                                        refine J_iconst (v := (1 : Int32)) hX dL_law_1449 (by decide) ?_
                                                                                        refine J_iadd hX dL_law_1450 ?_
                                                                                        refine J_sldS hX hB dL_law_1451 b315 ?_
                                                                                        refine J_callL hX km_X12_panelCost kl_RL_191 dL_law_1452 ka_426 (by decide) [.int (sc (x3 + (1 : Int32)).toNatClampNeg)] ⟨Nat.le_of_ble_eq_true rfl, Nat.le_of_ble_eq_true rfl⟩ rfl rfl (Nat.le_of_ble_eq_true rfl) (c_X12_panelCost (sc (x3 + (1 : Int32)).toNatClampNeg) m316 _ h) (fun v w2 hk => ?_)
                                                                                        obtain ⟨y319, m318, rfl, rfl, h⟩ := hk
                                                                                        show J X (450, 28400) 1455 [(0, .ref b), (1, .ref (ad 0)), (2, .ref (ad 426)), (3, .int x3)] [.long y319, .long y317] (fl ad m318)
                                                                                        refine J_lcmp hX dL_law_1455 ?_
                                                                                        refine J_if_eq (tgt := 1530) hX dL_law_1456 (by decide) (fun c320 => ?_) (fun c320 => ?_)
                                                                                        · replace h := Eq.mp (if_pos c320) h
                                                                                          refine J_iinc (x := (x3 + (7 : Int32))) (lv2 := [(3, .int (x3 + (7 : Int32))), (0, .ref b), (1, .ref (ad 0)), (2, .ref (ad 426))]) hX dL_law_1530 3 rfl rfl (Nat.le_of_ble_eq_true rfl) rfl ?_
                                                                                          refine J_goto (tgt := 18) hX dL_law_1533 (by decide) ?_
                                                                                          exact J_sub [1, 2, 3, 0] rfl (hrec (x3 + (7 : Int32)) m318 h)
                                                                                        · replace h := Eq.mp (if_neg c320) h
                                                                                          refine J_iconst (v := (0 : Int32)) hX dL_law_1459 (by decide) ?_
                                                                                          exact J_lawret hX hR dL_law_1460 bo_0 ⟨_, _, rfl, rfl, h⟩
                                                                                      · replace h := Eq.mp (if_neg c314) h
                                                                                        by_cases c321 : ((sc x3.toNatClampNeg) &&& (63 : Int32)) = (42 : Int32)
                                                                                        · replace h := Eq.mp (if_pos c321) h
                                                                                          refine J_tabIn (v := (42 : Int32)) (tgt := 1461) hX dL_law_33 c321 (by decide) (by decide) rfl (by decide) ?_
                                                                                          refine J_aload_n hX dL_law_1461 rfl 1 rfl ?_
                                                                                          refine J_aload_n hX dL_law_1462 rfl 0 rfl ?_
                                                                                          refine J_iload_n hX dL_law_1463 rfl 3 rfl ?_
                                                                                          refine J_iconst (v := (1 : Int32)) hX dL_law_1464 (by decide) ?_
                                                                                          refine J_iadd hX dL_law_1465 ?_
                                                                                          obtain ⟨b322, h⟩ := h
                                                                                          refine J_sldS hX hB dL_law_1466 b322 ?_
                                                                                          refine J_callL hX km_X11_bestDepth kl_RL_192 dL_law_1467 ka_0 (by decide) [.int (sc (x3 + (1 : Int32)).toNatClampNeg)] ⟨Nat.le_of_ble_eq_true rfl, Nat.le_of_ble_eq_true rfl⟩ rfl rfl (Nat.le_of_ble_eq_true rfl) (c_X11_bestDepth (sc (x3 + (1 : Int32)).toNatClampNeg) m _ h) (fun v w2 hk => ?_)
                                                                                          obtain ⟨y324, m323, rfl, rfl, h⟩ := hk
                                                                                          show J X (450, 28400) 1470 [(0, .ref b), (1, .ref (ad 0)), (2, .ref (ad 426)), (3, .int x3)] [.int y324] (fl ad m323)
                                                                                          refine J_aload_n hX dL_law_1470 rfl 2 rfl ?_
                                                                                          refine J_aload_n hX dL_law_1471 rfl 0 rfl ?_
                                                                                          refine J_iload_n hX dL_law_1472 rfl 3 rfl ?_
                                                                                          refine J_iconst (v := (1 : Int32)) hX dL_law_1473 (by decide) ?_
                                                                                          refine J_iadd hX dL_law_1474 ?_
                                                                                          refine J_sldS hX hB dL_law_1475 b322 ?_
                                                                                          refine J_callL hX km_X12_bestDepth kl_RL_195 dL_law_1476 ka_426 (by decide) [.int (sc (x3 + (1 : Int32)).toNatClampNeg)] ⟨Nat.le_of_ble_eq_true rfl, Nat.le_of_ble_eq_true rfl⟩ rfl rfl (Nat.le_of_ble_eq_true rfl) (c_X12_bestDepth (sc (x3 + (1 : Int32)).toNatClampNeg) m323 _ h) (fun v w2 hk => ?_)
                                                                                          obtain ⟨y326, m325, rfl, rfl, h⟩ := hk
                                                                                          show J X (450, 28400) 1479 [(0, .ref b), (1, .ref (ad 0)), (2, .ref (ad 426)), (3, .int x3)] [.int y326, .int y324] (fl ad m325)
                                                                                          refine J_icmp_eq (tgt := 1530) hX dL_law_1479 (by decide) (fun c327 => ?_) (fun c327 => ?_)
                                                                                          · replace h := Eq.mp (if_pos c327) h
                                                                                            refine J_iinc (x := (x3 + (7 : Int32))) (lv2 := [(3, .int (x3 + (7 : Int32))), (0, .ref b), (1, .ref (ad 0)), (2, .ref (ad 426))]) hX dL_law_1530 3 rfl rfl (Nat.le_of_ble_eq_true rfl) rfl ?_
                                                                                            refine J_goto (tgt := 18) hX dL_law_1533 (by decide) ?_
                                                                                            exact J_sub [1, 2, 3, 0] rfl (hrec (x3 + (7 : Int32)) m325 h)
                                                                                          · replace h := Eq.mp (if_neg c327) h
                                                                                            refine J_iconst (v := (0 : Int32)) hX dL_law_1482 (by decide) ?_
                                                                                            exact J_lawret hX hR dL_law_1483 bo_0 ⟨_, _, rfl, rfl, h⟩
                                                                                        · replace h := Eq.mp (if_neg c321) h
                                                                                          by_cases c328 : ((sc x3.toNatClampNeg) &&& (63 : Int32)) = (43 : Int32)
                                                                                          · replace h := Eq.mp (if_pos c328) h
                                                                                            refine J_tabIn (v := (43 : Int32)) (tgt := 1484) hX dL_law_33 c328 (by decide) (by decide) rfl (by decide) ?_
                                                                                            refine J_aload_n hX dL_law_1484 rfl 1 rfl ?_
                                                                                            refine J_aload_n hX dL_law_1485 rfl 0 rfl ?_
                                                                                            refine J_iload_n hX dL_law_1486 rfl 3 rfl ?_
                                                                                            refine J_iconst (v := (1 : Int32)) hX dL_law_1487 (by decide) ?_
                                                                                            refine J_iadd hX dL_law_1488 ?_
                                                                                            obtain ⟨b329, h⟩ := h
                                                                                            refine J_sldS hX hB dL_law_1489 b329 ?_
                                                                                            refine J_callL hX km_X11_bestAngle kl_RL_196 dL_law_1490 ka_0 (by decide) [.int (sc (x3 + (1 : Int32)).toNatClampNeg)] ⟨Nat.le_of_ble_eq_true rfl, Nat.le_of_ble_eq_true rfl⟩ rfl rfl (Nat.le_of_ble_eq_true rfl) (c_X11_bestAngle (sc (x3 + (1 : Int32)).toNatClampNeg) m _ h) (fun v w2 hk => ?_)
                                                                                            obtain ⟨y331, m330, rfl, rfl, h⟩ := hk
                                                                                            show J X (450, 28400) 1493 [(0, .ref b), (1, .ref (ad 0)), (2, .ref (ad 426)), (3, .int x3)] [.int y331] (fl ad m330)
                                                                                            refine J_aload_n hX dL_law_1493 rfl 2 rfl ?_
                                                                                            refine J_aload_n hX dL_law_1494 rfl 0 rfl ?_
                                                                                            refine J_iload_n hX dL_law_1495 rfl 3 rfl ?_
                                                                                            refine J_iconst (v := (1 : Int32)) hX dL_law_1496 (by decide) ?_
                                                                                            refine J_iadd hX dL_law_1497 ?_
                                                                                            refine J_sldS hX hB dL_law_1498 b329 ?_
                                                                                            refine J_callL hX km_X12_bestAngle kl_RL_199 dL_law_1499 ka_426 (by decide) [.int (sc (x3 + (1 : Int32)).toNatClampNeg)] ⟨Nat.le_of_ble_eq_true rfl, Nat.le_of_ble_eq_true rfl⟩ rfl rfl (Nat.le_of_ble_eq_true rfl) (c_X12_bestAngle (sc (x3 + (1 : Int32)).toNatClampNeg) m330 _ h) (fun v w2 hk => ?_)
                                                                                            obtain ⟨y333, m332, rfl, rfl, h⟩ := hk
                                                                                            show J X (450, 28400) 1502 [(0, .ref b), (1, .ref (ad 0)), (2, .ref (ad 426)), (3, .int x3)] [.int y333, .int y331] (fl ad m332)
                                                                                            refine J_icmp_eq (tgt := 1530) hX dL_law_1502 (by decide) (fun c334 => ?_) (fun c334 => ?_)
                                                                                            · replace h := Eq.mp (if_pos c334) h
                                                                                              refine J_iinc (x := (x3 + (7 : Int32))) (lv2 := [(3, .int (x3 + (7 : Int32))), (0, .ref b), (1, .ref (ad 0)), (2, .ref (ad 426))]) hX dL_law_1530 3 rfl rfl (Nat.le_of_ble_eq_true rfl) rfl ?_
                                                                                              refine J_goto (tgt := 18) hX dL_law_1533 (by decide) ?_
                                                                                              exact J_sub [1, 2, 3, 0] rfl (hrec (x3 + (7 : Int32)) m332 h)
                                                                                            · replace h := Eq.mp (if_neg c334) h
                                                                                              refine J_iconst (v := (0 : Int32)) hX dL_law_1505 (by decide) ?_
                                                                                              exact J_lawret hX hR dL_law_1506 bo_0 ⟨_, _, rfl, rfl, h⟩
                                                                                          · replace h := Eq.mp (if_neg c328) h
                                                                                            by_cases c335 : ((sc x3.toNatClampNeg) &&& (63 : Int32)) = (44 : Int32)
                                                                                            · replace h := Eq.mp (if_pos c335) h
                                                                                              refine J_tabIn (v := (44 : Int32)) (tgt := 1507) hX dL_law_33 c335 (by decide) (by decide) rfl (by decide) ?_
                                                                                              refine J_aload_n hX dL_law_1507 rfl 1 rfl ?_
                                                                                              refine J_aload_n hX dL_law_1508 rfl 0 rfl ?_
                                                                                              refine J_iload_n hX dL_law_1509 rfl 3 rfl ?_
                                                                                              refine J_iconst (v := (1 : Int32)) hX dL_law_1510 (by decide) ?_
                                                                                              refine J_iadd hX dL_law_1511 ?_
                                                                                              obtain ⟨b336, h⟩ := h
                                                                                              refine J_sldS hX hB dL_law_1512 b336 ?_
                                                                                              refine J_callL hX km_X11_count kl_RL_200 dL_law_1513 ka_0 (by decide) [.int (sc (x3 + (1 : Int32)).toNatClampNeg)] ⟨Nat.le_of_ble_eq_true rfl, Nat.le_of_ble_eq_true rfl⟩ rfl rfl (Nat.le_of_ble_eq_true rfl) (c_X11_count (sc (x3 + (1 : Int32)).toNatClampNeg) m _ h) (fun v w2 hk => ?_)
                                                                                              obtain ⟨y338, m337, rfl, rfl, h⟩ := hk
                                                                                              show J X (450, 28400) 1516 [(0, .ref b), (1, .ref (ad 0)), (2, .ref (ad 426)), (3, .int x3)] [.int y338] (fl ad m337)
                                                                                              refine J_aload_n hX dL_law_1516 rfl 2 rfl ?_
                                                                                              refine J_aload_n hX dL_law_1517 rfl 0 rfl ?_
                                                                                              refine J_iload_n hX dL_law_1518 rfl 3 rfl ?_
                                                                                              refine J_iconst (v := (1 : Int32)) hX dL_law_1519 (by decide) ?_
                                                                                              refine J_iadd hX dL_law_1520 ?_
                                                                                              refine J_sldS hX hB dL_law_1521 b336 ?_
                                                                                              refine J_callL hX km_X12_count kl_RL_203 dL_law_1522 ka_426 (by decide) [.int (sc (x3 + (1 : Int32)).toNatClampNeg)] ⟨Nat.le_of_ble_eq_true rfl, Nat.le_of_ble_eq_true rfl⟩ rfl rfl (Nat.le_of_ble_eq_true rfl) (c_X12_count (sc (x3 + (1 : Int32)).toNatClampNeg) m337 _ h) (fun v w2 hk => ?_)
                                                                                              obtain ⟨y340, m339, rfl, rfl, h⟩ := hk
                                                                                              show J X (450, 28400) 1525 [(0, .ref b), (1, .ref (ad 0)), (2, .ref (ad 426)), (3, .int x3)] [.int y340, .int y338] (fl ad m339)
                                                                                              refine J_icmp_eq (tgt := 1530) hX dL_law_1525 (by decide) (fun c341 => ?_) (fun c341 => ?_)
                                                                                              · replace h := Eq.mp (if_pos c341) h
                                                                                                refine J_iinc (x := (x3 + (7 : Int32))) (lv2 := [(3, .int (x3 + (7 : Int32))), (0, .ref b), (1, .ref (ad 0)), (2, .ref (ad 426))]) hX dL_law_1530 3 rfl rfl (Nat.le_of_ble_eq_true rfl) rfl ?_
                                                                                                refine J_goto (tgt := 18) hX dL_law_1533 (by decide) ?_
                                                                                                exact J_sub [1, 2, 3, 0] rfl (hrec (x3 + (7 : Int32)) m339 h)
                                                                                              · replace h := Eq.mp (if_neg c341) h
                                                                                                refine J_iconst (v := (0 : Int32)) hX dL_law_1528 (by decide) ?_
                                                                                                exact J_lawret hX hR dL_law_1529 bo_0 ⟨_, _, rfl, rfl, h⟩
                                                                                            · replace h := Eq.mp (if_neg c335) h
                                                                                              refine J_tabOut (tgt := 1530) hX dL_law_33 (by have t0 := tne c3 (k := 0) (by decide); have t1 := tne c10 (k := 1) (by decide); have t2 := tne c16 (k := 2) (by decide); have t3 := tne c22 (k := 3) (by decide); have t4 := tne c24 (k := 4) (by decide); have t5 := tne c32 (k := 5) (by decide); have t6 := tne c42 (k := 6) (by decide); have t7 := tne c54 (k := 7) (by decide); have t8 := tne c60 (k := 8) (by decide); have t9 := tne c68 (k := 9) (by decide); have t10 := tne c77 (k := 10) (by decide); have t11 := tne c85 (k := 11) (by decide); have t12 := tne c94 (k := 12) (by decide); have t13 := tne c105 (k := 13) (by decide); have t14 := tne c112 (k := 14) (by decide); have t15 := tne c126 (k := 15) (by decide); have t16 := tne c133 (k := 16) (by decide); have t17 := tne c141 (k := 17) (by decide); have t18 := tne c149 (k := 18) (by decide); have t19 := tne c155 (k := 19) (by decide); have t20 := tne c162 (k := 20) (by decide); have t21 := tne c169 (k := 21) (by decide); have t22 := tne c175 (k := 22) (by decide); have t23 := tne c181 (k := 23) (by decide); have t24 := tne c187 (k := 24) (by decide); have t25 := tne c202 (k := 25) (by decide); have t26 := tne c210 (k := 26) (by decide); have t27 := tne c219 (k := 27) (by decide); have t28 := tne c226 (k := 28) (by decide); have t29 := tne c234 (k := 29) (by decide); have t30 := tne c240 (k := 30) (by decide); have t31 := tne c248 (k := 31) (by decide); have t32 := tne c255 (k := 32) (by decide); have t33 := tne c261 (k := 33) (by decide); have t34 := tne c267 (k := 34) (by decide); have t35 := tne c274 (k := 35) (by decide); have t36 := tne c281 (k := 36) (by decide); have t37 := tne c288 (k := 37) (by decide); have t38 := tne c294 (k := 38) (by decide); have t39 := tne c300 (k := 39) (by decide); have t40 := tne c308 (k := 40) (by decide); have t41 := tne c314 (k := 41) (by decide); have t42 := tne c321 (k := 42) (by decide); have t43 := tne c328 (k := 43) (by decide); have t44 := tne c335 (k := 44) (by decide); omega) (by decide) ?_
                                                                                              refine J_iinc (x := (x3 + (7 : Int32))) (lv2 := [(3, .int (x3 + (7 : Int32))), (0, .ref b), (1, .ref (ad 0)), (2, .ref (ad 426))]) hX dL_law_1530 3 rfl rfl (Nat.le_of_ble_eq_true rfl) rfl ?_
                                                                                              refine J_goto (tgt := 18) hX dL_law_1533 (by decide) ?_
                                                                                              exact J_sub [1, 2, 3, 0] rfl (hrec (x3 + (7 : Int32)) m h)
set_option maxHeartbeats 8000000 in
set_option maxRecDepth 100000 in
theorem t_L_law_l18 {X : XT} {ad : Nat → Nat} {K : Int32 → Mm → Prop} {b L : Nat} {sc : Nat → Int32} (hX : Cx X cL_law 4 RL room_1) (hB : LB X b L sc) (hR : LR X b K)  : ∀ (n : Nat) (x3 : Int32) (m : Mm), wp_L_law_l18 L sc K n x3 m → J X (450, 28400) 18 [(0, .ref b), (1, .ref (ad 0)), (2, .ref (ad 426)), (3, .int x3)] [] (fl ad m) := by
  intro n
  induction n with
  | zero => intro x3 m h; exact h.elim
  | succ n ih => intro x3 m h; exact tb_L_law_l18 hX hB hR ih x3 m h
