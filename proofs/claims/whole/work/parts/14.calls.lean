def MIk (y : MethodName) (cy : ByteArray) (nLy : Nat) (ret : Option FieldType) (n : Nat) : Prop := Cond.code y cy nLy ret ∈ lw_tbl ∧ Cond.initialized y.cls ∈ lw_tbl ∧ (y.cls ≠ "java/lang/invoke/MethodHandle" ∧ y.cls ≠ "java/lang/invoke/VarHandle" ∧ (parseMethodDescriptor y.desc).map (fun d => d.parameters.length) = some n)
/-- an instance method: chosen by itself -/
def MVk (y : MethodName) (cy : ByteArray) (nLy : Nat) (ret : Option FieldType) (n ci : Nat) : Prop := MIk y cy nLy ret n ∧ Cond.instanceMethod y ∈ lw_tbl ∧ Cond.selects y.cls y y ∈ lw_tbl ∧ ∃ (T : u_T) (N : Nat), vwCl[ci]? = some (y.cls, T, N)
def MSk (y : MethodName) (cy : ByteArray) (nLy : Nat) (ret : Option FieldType) (n : Nat) : Prop := MIk y cy nLy ret n ∧ Cond.static y ∈ lw_tbl
/-- the callee's room in the caller's -/
def Rok (a b : Room) (nLy : Nat) : Prop := a.frames + 1 ≤ b.frames ∧ 8 + (nLy + 11) + a.locals ≤ b.locals
section JC
variable {X : XT} {q : Nat × Nat} {pc : Nat} {lv : List (Nat × Value)} {st st0 : List Value} {w : Mf} {cc : ByteArray} {nL : Nat} {own : String} {rm : Room} {K1 : Option Value → Mf → Prop}
theorem J_run {mc ms : Nat} {av : Array Value} (hr : ∀ (H : Heap) (ls : Array Slot) (locs : List Loc), wd X.1 w H → lv_has ls (xc X).maxLocals lv → va_S (gA X.1) (xs X).heap H locs → va_Run (xp X) X.1.1 (xe X) (xR X) (xs X) (xm X) (xa X) (xb X) (xh X) (xc X) H locs q.1 q.2 mc ms (F0 (xm X) pc ls st0) st (QcN X.1 K1 av) (gA X.1))
    (kk : ∀ (v : Option Value) (w2 : Mf), K1 v w2 → J X (q.1 + mc, q.2 + ms) (pc + 3) lv (v.toList ++ st) w2) : J X q pc lv st0 w := by
  intro H ls locs hw hl hS T hT Xs
  obtain ⟨v, st₀, t, T2, L, h0, X2, hL, e1, e2, ⟨⟨v2, w2, hv, hK, hw2⟩, hz, hk⟩, go⟩ := hr H ls locs hw hl hS T hT Xs
  cases hv
  rw [h0] at hz hk
  have hS2 : va_S (gA X.1) (xs X).heap T2.heap (locs ++ L) := by
    refine ⟨Nat.le_trans hS.1 (by rw [e1]; exact hz), fun z h1 h2 => ?_, fun z hzz => ?_⟩
    · rw [e1, hk z (Nat.lt_of_lt_of_le h1 hS.1) h2]
      exact hS.2.1 z h1 h2
    · rcases List.mem_append.mp hzz with h | h
      · exact hS.2.2 z h
      · exact hL z h
  obtain ⟨t2, a1, b1⟩ := kk v w2 hK T2.heap ls (locs ++ L) (by rw [e1]; exact hw2) hl hS2 T2 rfl X2
  exact ⟨t2, go t2 a1, b1⟩
theorem pcn_of {H : Heap} {locs : List Loc} {av : List Value} {nLx : Nat} (hX : Cx X cc nLx own rm) (hw : wd X.1 w H) (hS : va_S (gA X.1) (xs X).heap H locs) : ∀ U : State, U.heap = H → (xs X).WarmedH U.vm → PcN X.1 av w av.toArray U := by
  intro U hU hW
  obtain ⟨h1, h2, h3, h4, h5, h6, h7, h8, h9, h10⟩ := hX
  refine ⟨rfl, by rw [hU]; exact hw, va_K.moved hW.alike h6, ?_, ?_, TB.warm hW h9⟩
  · rw [hU]
    exact (SZ.moved hW.alike h7).kept hS.2.1
  · rw [hU]
    exact Nat.le_trans h8 hS.1
theorem cb_of (hX : Cx X cc nL own rm) {y : MethodName} {cy : ByteArray} {nLy n idx mc ms : Nat} {ret : Option FieldType} {rmy : Room} (hM : MIk y cy nLy ret n) (hl : Cond.methodLink own idx y ∈ lw_tbl) (hc : rmy.cells = mc) (hs : rmy.slots = ms) (hr : Rok rmy rm nLy) :
    CallB (xR X) (xs X) (xa X) own idx y cy nLy ret (Cond.code y cy nLy ret :: lw_ok) rmy mc ms n := by
  have hg : GoodIn lw_ok (Cond.code y cy nLy ret :: lw_ok) := by
    intro z hz
    rcases List.mem_cons.mp hz with rfl | hz
    · exact lw_good _ (lw_in hM.1 rfl)
    · exact lw_good z hz
  refine callB_of n hX.2.2.2.2.1 hg rfl hc hs (lw_okts hX hM.2.1 rfl) (lw_okts hX hl rfl) hM.2.2 ?_
  rw [hX.2.2.2.2.2.2.2.2.2]
  exact hr
theorem J_cV (hX : Cx X cc nL own rm) {a ci mc ms : Nat} {y : MethodName} {cy : ByteArray} {nLy n idx : Nat} {ret : Option FieldType} {rmy : Room} {As : List Value} (hC : Cn X.1 y cy nLy ret rmy (.ref (w.2.2.2 a) :: As) (mc, ms) w K1) (hM : MVk y cy nLy ret n ci) (hl : Cond.methodLink own idx y ∈ lw_tbl) (hd : decode cc pc = .ok (.invokevirtual idx, 3)) (hka : kap a = ci) (hci : ci < 20) (ha : a < w.2.2.1)
    (hc : rmy.cells = mc ∧ rmy.slots = ms) (hr : Rok rmy rm nLy) (hq : q.1 + mc ≤ rm.cells ∧ q.2 + ms ≤ rm.slots) (hn : As.length = n) (hst : st0 = As.reverse ++ .ref (w.2.2.2 a) :: st) (hW : (st.map fun v => v.category).sum ≤ 8)
    (kk : ∀ (v : Option Value) (w2 : Mf), K1 v w2 → J X (q.1 + mc, q.2 + ms) (pc + 3) lv (v.toList ++ st) w2) : J X q pc lv st0 w := by
  refine J_run (av := (Value.ref (w.2.2.2 a) :: As).toArray) (fun H ls locs hw hl2 hS => ?_) kk
  subst hst
  obtain ⟨hM1, hM2, hM3, T, N, hcl⟩ := hM
  exact va_runV (rest := st) ⟨hX.1, hX.2.1, rfl, hX.2.2.2.1, hX.2.2.2.2.1⟩ hC ⟨cb_of hX hM1 hl hc.1 hc.2 hr, lw_okts hX hM2 rfl, lw_okts hX hM3 rfl⟩
    ⟨PcN.blind, va_recv hX.2.2.2.2.2.1 hw.1 hcl ((wsO_at ha).trans (by rw [ce_obj hka hci])), pcn_of hX hw hS⟩ rfl hn hl2.1 rfl (lv_room hW) hd (by rw [hX.2.2.2.2.2.2.2.2.2]; exact hq)
theorem J_cS (hX : Cx X cc nL own rm) {mc ms : Nat} {y : MethodName} {cy : ByteArray} {nLy n idx : Nat} {ret : Option FieldType} {rmy : Room} {As : List Value} (hC : Cn X.1 y cy nLy ret rmy As (mc, ms) w K1) (hM : MSk y cy nLy ret n) (hl : Cond.methodLink own idx y ∈ lw_tbl) (hd : decode cc pc = .ok (.invokestatic idx, 3))
    (hc : rmy.cells = mc ∧ rmy.slots = ms) (hr : Rok rmy rm nLy) (hq : q.1 + mc ≤ rm.cells ∧ q.2 + ms ≤ rm.slots) (hn : As.length = n) (hst : st0 = As.reverse ++ st) (hW : (st.map fun v => v.category).sum ≤ 8)
    (kk : ∀ (v : Option Value) (w2 : Mf), K1 v w2 → J X (q.1 + mc, q.2 + ms) (pc + 3) lv (v.toList ++ st) w2) : J X q pc lv st0 w := by
  refine J_run (av := As.toArray) (fun H ls locs hw hl2 hS => ?_) kk
  subst hst
  exact va_runS (rest := st) ⟨hX.1, hX.2.1, rfl, hX.2.2.2.1, hX.2.2.2.2.1⟩ hC ⟨cb_of hX hM.1 hl hc.1 hc.2 hr, lw_okts hX hM.2 rfl⟩
    ⟨PcN.blind, pcn_of hX hw hS⟩ rfl hn hl2.1 rfl (lv_room hW) hd (by rw [hX.2.2.2.2.2.2.2.2.2]; exact hq)
theorem J_cSN (hX : Cx X cc nL own rm) {mc ms : Nat} {y : MethodName} {cy : ByteArray} {nLy n idx : Nat} {ret : Option FieldType} {rmy : Room} {As : List Value} {host : String} (hC : Cn X.1 y cy nLy ret rmy As (mc, ms) w K1) (hM : MSk y cy nLy ret n) (hl : Cond.methodLinkNest own idx y host ∈ lw_tbl) (hd : decode cc pc = .ok (.invokestatic idx, 3))
    (hc : rmy.cells = mc ∧ rmy.slots = ms) (hr : Rok rmy rm nLy) (hq : q.1 + mc ≤ rm.cells ∧ q.2 + ms ≤ rm.slots) (hn : As.length = n) (hst : st0 = As.reverse ++ st) (hW : (st.map fun v => v.category).sum ≤ 8)
    (kk : ∀ (v : Option Value) (w2 : Mf), K1 v w2 → J X (q.1 + mc, q.2 + ms) (pc + 3) lv (v.toList ++ st) w2) : J X q pc lv st0 w := by
  refine J_run (av := As.toArray) (fun H ls locs hw hl2 hS => ?_) kk
  subst hst
  have hg : GoodIn lw_ok (Cond.code y cy nLy ret :: lw_ok) := by
    intro z hz
    rcases List.mem_cons.mp hz with rfl | hz
    · exact lw_good _ (lw_in hM.1.1 rfl)
    · exact lw_good z hz
  exact va_runSN (rest := st) ⟨hX.1, hX.2.1, rfl, hX.2.2.2.1, hX.2.2.2.2.1⟩ hC ⟨va_cnB n hX.2.2.2.2.1 hg rfl hc.1 hc.2 (hX.2.2.2.2.2.2.2.2.1.1 _ (List.mem_filter.mpr ⟨hl, rfl⟩)) (lw_okts hX hM.1.2.1 rfl) hM.1.2.2 (by rw [hX.2.2.2.2.2.2.2.2.2]; exact hr), lw_okts hX hM.2 rfl, trivial⟩
    ⟨PcN.blind, pcn_of hX hw hS⟩ rfl hn hl2.1 rfl (lv_room hW) hd (by rw [hX.2.2.2.2.2.2.2.2.2]; exact hq)
end JC
section JD
variable {X : XT} {pc : Nat} {lv : List (Nat × Value)} {st st0 : List Value} {m : Mm} {ad : Nat → Nat} {cc : ByteArray} {nL : Nat} {own : String} {rm : Room} {K1 : Option Value → Mf → Prop}
/-- the room of a method that makes nothing -/
abbrev rmN (f n : Nat) : Room := { frames := f, cells := 0, slots := 0, locals := n }
theorem J_callV {f0 n0 f1 n1 : Nat} (hX : Cx X cc nL own (rmN f0 n0)) {a ci : Nat} {y : MethodName} {cy : ByteArray} {nLy n idx : Nat} {ret : Option FieldType} (hM : MVk y cy nLy ret n ci) (hl : Cond.methodLink own idx y ∈ lw_tbl) (hd : decode cc pc = .ok (.invokevirtual idx, 3)) (hka : kap a = ci) (hci : ci < 20) (As : List Value)
    (hr : Rok (rmN f1 n1) (rmN f0 n0) nLy) (hn : As.length = n) (hst : st0 = As.reverse ++ .ref (ad a) :: st) (hW : (st.map fun v => v.category).sum ≤ 8) (hC : Cn X.1 y cy nLy ret (rmN f1 n1) (.ref (ad a) :: As) (0, 0) (fl ad m) K1)
    (kk : ∀ (v : Option Value) (w2 : Mf), K1 v w2 → J X (0, 0) (pc + 3) lv (v.toList ++ st) w2) : J X (0, 0) pc lv st0 (fl ad m) :=
  J_cV hX hC hM hl hd hka hci (kap_lt hka (by omega)) ⟨rfl, rfl⟩ hr ⟨Nat.le_refl _, Nat.le_refl _⟩ hn hst hW kk
theorem J_callS {f0 n0 f1 n1 : Nat} (hX : Cx X cc nL own (rmN f0 n0)) {y : MethodName} {cy : ByteArray} {nLy n idx : Nat} {ret : Option FieldType} (hM : MSk y cy nLy ret n) (hl : Cond.methodLink own idx y ∈ lw_tbl) (hd : decode cc pc = .ok (.invokestatic idx, 3)) (As : List Value)
    (hr : Rok (rmN f1 n1) (rmN f0 n0) nLy) (hn : As.length = n) (hst : st0 = As.reverse ++ st) (hW : (st.map fun v => v.category).sum ≤ 8) (hC : Cn X.1 y cy nLy ret (rmN f1 n1) As (0, 0) (fl ad m) K1)
    (kk : ∀ (v : Option Value) (w2 : Mf), K1 v w2 → J X (0, 0) (pc + 3) lv (v.toList ++ st) w2) : J X (0, 0) pc lv st0 (fl ad m) :=
  J_cS hX hC hM hl hd ⟨rfl, rfl⟩ hr ⟨Nat.le_refl _, Nat.le_refl _⟩ hn hst hW kk
theorem J_callSN {f0 n0 f1 n1 : Nat} (hX : Cx X cc nL own (rmN f0 n0)) {y : MethodName} {cy : ByteArray} {nLy n idx : Nat} {ret : Option FieldType} {host : String} (hM : MSk y cy nLy ret n) (hl : Cond.methodLinkNest own idx y host ∈ lw_tbl) (hd : decode cc pc = .ok (.invokestatic idx, 3)) (As : List Value)
    (hr : Rok (rmN f1 n1) (rmN f0 n0) nLy) (hn : As.length = n) (hst : st0 = As.reverse ++ st) (hW : (st.map fun v => v.category).sum ≤ 8) (hC : Cn X.1 y cy nLy ret (rmN f1 n1) As (0, 0) (fl ad m) K1)
    (kk : ∀ (v : Option Value) (w2 : Mf), K1 v w2 → J X (0, 0) (pc + 3) lv (v.toList ++ st) w2) : J X (0, 0) pc lv st0 (fl ad m) :=
  J_cSN hX hC hM hl hd ⟨rfl, rfl⟩ hr ⟨Nat.le_refl _, Nat.le_refl _⟩ hn hst hW kk
end JD
def mx32 (x y : Int32) : Int32 := if x < y then y else x
def mn32 (x y : Int32) : Int32 := if y < x then y else x
def ab32 (x : Int32) : Int32 := if 0 ≤ x then x else 0 - x
def ab64 (x : Int64) : Int64 := if 0 < x then x else -x
