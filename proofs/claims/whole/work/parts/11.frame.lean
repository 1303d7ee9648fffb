/-! the world as one list of cells; the judgement J: a frame of a method, over the world -/
abbrev Mm : Type := (Nat → Nat → Int32) × (Nat → Nat → Int64)
abbrev Mf : Type := Mm × (Nat → Nat → Option Nat) × Nat × (Nat → Nat)
abbrev GT : Type := Launch × Nat × va_G × (Nat → ClassId) × (Nat → Nat)
def fv (w : Mf) (a k t : Nat) : Value := if t = 0 then .int (w.1.1 a k) else if t = 1 then .long (w.1.2 a k) else va_rf ((w.2.1 a k).map w.2.2.2)
def fvs (w : Mf) (a : Nat) : List Value := (fty (kap a)).mapIdx (fun k t => fv w a k t)
def ce (G : GT) (w : Mf) (a : Nat) : va_E :=
  if kap a < 20 then .inr (kap a, fvs w a)
  else if kap a < 22 then .inl (G.2.2.2.1 (kap a - 20), len a, .inl (w.1.1 a))
  else if kap a = 22 then .inl (G.2.2.2.1 2, len a, .inr (.inl (w.1.2 a)))
  else .inl (G.2.2.2.1 (kap a - 20), len a, .inr (.inr (.inr (.inr (fun i => (w.2.1 a i).map w.2.2.2)))))
def wsO (G : GT) (w : Mf) : va_W := (List.range w.2.2.1).map (fun a => (w.2.2.2 a, ce G w a))
def gA (G : GT) : Nat → Prop := fun q => G.2.1 ≤ q
def wd (G : GT) (w : Mf) (H : Heap) : Prop := va_P G.2.2.1 vwCl (wsO G w) H ∧ va_D (gA G) (wsO G w)
def tyO (G : GT) : List (ClassId × FieldType) := [(G.2.2.2.1 0, .int), (G.2.2.2.1 1, .boolean), (G.2.2.2.1 2, .long), (G.2.2.2.1 3, .object "DieLineChecker$Panel"), (G.2.2.2.1 4, .object "DieLineChecker$Design"), (G.2.2.2.1 5, .object "DieLineChecker$Pose"), (G.2.2.2.1 6, .array .int)]
theorem wsO_at {G : GT} {w : Mf} {a : Nat} (h : a < w.2.2.1) : (wsO G w)[a]? = some (w.2.2.2 a, ce G w a) := by
  unfold wsO
  rw [List.getElem?_map, List.getElem?_range h]
  rfl
theorem wsO_set {G : GT} {w w' : Mf} {a : Nat} (h2 : w'.2.2 = w.2.2) (ho : ∀ b, b ≠ a → ce G w' b = ce G w b) : (wsO G w).set a (w.2.2.2 a, ce G w' a) = wsO G w' := by
  unfold wsO
  rw [h2]
  apply List.ext_getElem?
  intro i
  by_cases hi : i = a
  · subst hi
    by_cases hl : i < w.2.2.1
    · rw [List.getElem?_set_self (by simpa using hl), List.getElem?_map, List.getElem?_range hl]
      rfl
    · rw [List.getElem?_eq_none (by simpa using hl), List.getElem?_eq_none (by simpa using hl)]
  · rw [List.getElem?_set_ne (Ne.symm hi), List.getElem?_map, List.getElem?_map]
    by_cases hl : i < w.2.2.1
    · rw [List.getElem?_range hl]
      show some (_, _) = some (_, _)
      rw [ho i hi]
    · rw [List.getElem?_eq_none (by simpa using hl)]
      rfl
-- writes
def upI (f : Nat → Nat → Int32) (a k : Nat) (x : Int32) : Nat → Nat → Int32 := fun b j => if b = a then (if j = k then x else f b j) else f b j
def upL (f : Nat → Nat → Int64) (a k : Nat) (x : Int64) : Nat → Nat → Int64 := fun b j => if b = a then (if j = k then x else f b j) else f b j
def wI (m : Mm) (a k : Nat) (x : Int32) : Mm := (upI m.1 a k x, m.2)
def wL (m : Mm) (a k : Nat) (x : Int64) : Mm := (m.1, upL m.2 a k x)
def fl (ad : Nat → Nat) (m : Mm) : Mf := (m, RF, NN, ad)
theorem fvs_at {w : Mf} {a c k t : Nat} (hc : kap a = c) (hk : (fty c)[k]? = some t) : (fvs w a)[k]? = some (fv w a k t) := by
  unfold fvs
  rw [List.getElem?_mapIdx, hc, hk]
  rfl
theorem fvs_set {w w' : Mf} {a k : Nat} (v : Value) (hv : ∀ t, (fty (kap a))[k]? = some t → fv w' a k t = v) (ho : ∀ j t, j ≠ k → fv w' a j t = fv w a j t) : (fvs w a).set k v = fvs w' a := by
  unfold fvs
  apply List.ext_getElem?
  intro i
  by_cases hi : i = k
  · subst hi
    by_cases hl : i < (fty (kap a)).length
    · rw [List.getElem?_set_self (by simpa using hl), List.getElem?_mapIdx, List.getElem?_eq_getElem hl]
      exact congrArg some (hv _ (List.getElem?_eq_getElem hl)).symm
    · rw [List.getElem?_eq_none (by simpa using hl), List.getElem?_eq_none (by simpa using hl)]
  · rw [List.getElem?_set_ne (Ne.symm hi), List.getElem?_mapIdx, List.getElem?_mapIdx]
    cases (fty (kap a))[i]? with
    | none => rfl
    | some t => exact congrArg some (ho i t hi).symm
theorem ce_fo {G : GT} {w w' : Mf} {b : Nat} (h1 : w'.1.1 b = w.1.1 b) (h2 : w'.1.2 b = w.1.2 b) (h3 : w'.2.1 b = w.2.1 b) (h4 : w'.2.2.2 = w.2.2.2) : ce G w' b = ce G w b := by
  have hf : fvs w' b = fvs w b := by
    unfold fvs fv
    rw [h1, h2, h3, h4]
  unfold ce
  rw [hf, h1, h2, h3, h4]
/-! statics: four rows of four numbers that nobody writes -/
def szC (k : Nat) : String × String := if k = 0 then ("DieLineChecker$Pose", "SIDE_BEGIN") else if k = 1 then ("DieLineChecker$Pose", "SIDE_END") else if k = 2 then ("DieLineChecker", "OUT_X") else ("DieLineChecker", "OUT_Y")
def szL : List (List Int32) := [[0, 1, 3, 0], [1, 2, 2, 3], [0, 1, 0, -1], [-1, 0, 1, 0]]
def szv (k j : Nat) : Int32 := (szL.getD k []).getD j 0
def SZ (G : GT) (U : State) (H : Heap) : Prop := ∀ k, k < 4 → va_Z (szC k).1 (szC k).2 "[I" (.ref (G.2.2.2.2 k)) (gA G) U H ∧ va_T .int (G.2.2.2.2 k) 4 (fun j => .int (szv k j)) (gA G) U H
/-! an activation -/
abbrev XT : Type := GT × Program × Env × Room × State × MethodId × Array Value × List Frame × Method × Code × (State → Prop)
abbrev xp (X : XT) := X.2.1
abbrev xe (X : XT) := X.2.2.1
abbrev xR (X : XT) := X.2.2.2.1
abbrev xs (X : XT) := X.2.2.2.2.1
abbrev xm (X : XT) := X.2.2.2.2.2.1
abbrev xa (X : XT) := X.2.2.2.2.2.2.1
abbrev xb (X : XT) := X.2.2.2.2.2.2.2.1
abbrev xh (X : XT) := X.2.2.2.2.2.2.2.2.1
abbrev xc (X : XT) := X.2.2.2.2.2.2.2.2.2.1
abbrev xQ (X : XT) := X.2.2.2.2.2.2.2.2.2.2
def J (X : XT) (q : Nat × Nat) (pc : Nat) (lv : List (Nat × Value)) (st : List Value) (w : Mf) : Prop :=
  ∀ (H : Heap) (ls : Array Slot) (locs : List Loc), wd X.1 w H → lv_has ls (xc X).maxLocals lv → va_S (gA X.1) (xs X).heap H locs →
    W (xp X) X.1.1 (xe X) (xR X) (xs X) (xm X) (xa X) (xb X) (xh X) (xc X) H locs q.1 q.2 (xQ X) (F0 (xm X) pc ls st)
/-! the words that every method has: those that stay by themselves, and the nest's, carried -/
def lw_ok : List Cond := lw_tbl.filter goodWord
theorem lw_good : GoodIn lw_ok lw_ok := fun w hw => ⟨hw, good_of_word (List.mem_filter.mp hw).2⟩
theorem lw_in {w : Cond} (h : w ∈ lw_tbl) (hg : goodWord w = true) : w ∈ lw_ok := List.mem_filter.mpr ⟨h, hg⟩
def isNs : Cond → Bool
  | .methodLinkNest .. => true
  | .fieldLinkNest .. => true
  | _ => false
def nsL : List Cond := lw_tbl.filter isNs
def aoI (U : State) : Prop := (Cond.arrayOver (.array .int)).before #[] U = true
theorem aoI.moved {u U : State} (hvm : u.vm.Alike U.vm) (h : aoI u) : aoI U := by
  have h1 := Cond.overAtom_setVm (args := #[]) (s := u) (vm' := U.vm) hvm (.arrayOver (.array .int)) rfl h
  exact h1
def TB (U : State) : Prop := (∀ z ∈ nsL, va_Nw z U) ∧ va_AO "DieLineChecker$Panel" U ∧ va_AO "DieLineChecker$Design" U ∧ va_AO "DieLineChecker$Pose" U ∧ aoI U
theorem TB.warm {s U : State} (hW : s.WarmedH U.vm) (h : TB s) : TB U := by
  refine ⟨fun z hz => ?_, h.2.1.moved hW.alike, h.2.2.1.moved hW.alike, h.2.2.2.1.moved hW.alike, h.2.2.2.2.moved hW.alike⟩
  have h1 := h.1 z hz
  have h2 := (List.mem_filter.mp hz).2
  cases z <;> first | exact va_Nw.warmM hW h1 | exact va_Nw.warmF hW h1 | (cases h2; done)
theorem TB.same {u U : State} (e : u.vm = U.vm) (h : TB u) : TB U := by
  refine ⟨fun z hz => ?_, h.2.1.moved (by rw [e]; exact Vm.Alike.refl _), h.2.2.1.moved (by rw [e]; exact Vm.Alike.refl _), h.2.2.2.1.moved (by rw [e]; exact Vm.Alike.refl _), h.2.2.2.2.moved (by rw [e]; exact Vm.Alike.refl _)⟩
  have h1 := h.1 z hz
  have h2 := (List.mem_filter.mp hz).2
  cases z <;> first | exact va_Nw.same rfl e h1 | (cases h2; done)
def Cx (X : XT) (cc : ByteArray) (nL : Nat) (own : String) (rm : Room) : Prop :=
  (xp X).tables.exec = Jvm.exec ∧ (xc X).code = cc ∧ (xc X).maxLocals = nL ∧ (xs X).vm.findClass own = some (xm X).cls ∧ (∀ z ∈ lw_ok, z.before (xa X) (xs X) = true) ∧
  va_K X.1.2.2.1 vwCl (tyO X.1) (xs X) ∧ SZ X.1 (xs X) (xs X).heap ∧ X.1.2.1 ≤ (xs X).heap.size ∧ TB (xs X) ∧ xR X = rm
def QcN (G : GT) (K : Option Value → Mf → Prop) : Array Value → State → Outcome → State → Prop := fun _ st oc t => (∃ (v : Option Value) (w : Mf), oc = .returned v ∧ K v w ∧ wd G w t.heap) ∧ va_F (gA G) st t
def PcN (G : GT) (av : List Value) (w : Mf) : Array Value → State → Prop := va_Pc av (fun U => wd G w U.heap ∧ va_K G.2.2.1 vwCl (tyO G) U ∧ SZ G U U.heap ∧ G.2.1 ≤ U.heap.size ∧ TB U)
def Rx (X : XT) (ret : Option FieldType) (K : Option Value → Mf → Prop) (q : Nat × Nat) : Prop :=
  (xh X).sig.returnType = ret ∧ (xh X).locks = false ∧ xQ X = MQ (xb X) (QcN X.1 K) (xa X) (xs X) q.1 q.2 (gA X.1)
def Cn (G : GT) (y : MethodName) (cc : ByteArray) (nL : Nat) (ret : Option FieldType) (rm : Room) (av : List Value) (q : Nat × Nat) (w : Mf) (K : Option Value → Mf → Prop) : Prop :=
  Met G.1 y (Cond.code y cc nL ret :: lw_ok) rm (PcN G av w) (QcN G K) q.1 q.2 (gA G)
theorem SZ.moved {G : GT} {u U : State} {H : Heap} (hvm : u.vm.Alike U.vm) (h : SZ G u H) : SZ G U H := fun k hk => ⟨(h k hk).1.moved hvm, (h k hk).2.moved hvm⟩
theorem SZ.kept {G : GT} {U : State} {H H1 : Heap} (h : SZ G U H) (hq : ∀ a : Nat, a < H.size → ¬ gA G a → H1[a]? = H[a]?) : SZ G U H1 := fun k hk => ⟨(h k hk).1.kept hq, (h k hk).2.kept hq⟩
theorem PcN.blind {G : GT} {av : List Value} {w : Mf} : FrameBlind (PcN G av w) := by
  intro a U g mk h
  obtain ⟨h1, h2, h3, h4, h5, h6⟩ := h
  exact ⟨h1, h2, va_K.moved (u := U) (U := U.calling g mk a) (Vm.Alike.refl U.vm) h3, SZ.moved (u := U) (U := U.calling g mk a) (Vm.Alike.refl U.vm) h4, h5, TB.same (u := U) (U := U.calling g mk a) rfl h6⟩
/-- a method's start -/
theorem Cn.of {G : GT} {y : MethodName} {cc : ByteArray} {nL : Nat} {ret : Option FieldType} {rm : Room} {av : List Value} {q : Nat × Nat} {w : Mf} {K : Option Value → Mf → Prop} (hy : plainName y.cls = true) (hl : (lg_sl av).length ≤ nL)
    (h : ∀ X : XT, X.1 = G → Cx X cc nL y.cls rm → Rx X ret K q → J X (0, 0) 0 (lv_args 0 av) [] w) : Cn G y cc nL ret rm av q w K := by
  refine Met.ofW (cc := cc) (maxL := nL) (ret := ret) hy rfl ?_
  intro p e s m args below meth c s₁ B hml hv
  obtain ⟨rfl, h2, h3, h4, h5, h6⟩ := hv
  have hts := atoms_spec (ws := Cond.code y cc nL ret :: lw_ok) B.pre
  have hJ := h (G, p, e, rm, s, m, av.toArray, below, meth, c, MQ below (QcN G K) av.toArray s q.1 q.2 (gA G)) rfl ⟨B.exec, B.bytes, hml, findClass_of_methodNamed B.named, fun z hz => hts z (List.mem_cons_of_mem _ hz), h3, h4, h5, h6, rfl⟩ ⟨B.returns, B.notSynchronized, rfl⟩
  have hle := lv_entry av (n := nL) hl
  rw [lg_entry_eq]
  exact hJ s.heap _ [] h2 (by show lv_has _ c.maxLocals _; rw [hml]; exact hle) va_S.rf
def bo (x : Int32) : Prop := x = 0 ∨ x = 1
theorem bo_and {x : Int32} (h : bo x) : x &&& 1 = x := by rcases h with rfl | rfl <;> decide
theorem bo_0 : bo 0 := Or.inl rfl
theorem bo_1 : bo 1 := Or.inr rfl
theorem bo_ite {c : Prop} {_ : Decidable c} {x y : Int32} (h1 : bo x) (h2 : bo y) : bo (if c then x else y) := by split <;> assumption
def rm32 (x y : Int32) : Int32 := x - x / y * y
/-- the fuel of every loop: more than any loop needs -/
def FU : Nat := 100000
abbrev kI (ad : Nat → Nat) (K : Int32 → Mm → Prop) : Option Value → Mf → Prop := fun v w => ∃ (r : Int32) (m : Mm), v = some (.int r) ∧ w = fl ad m ∧ K r m
abbrev kL (ad : Nat → Nat) (K : Int64 → Mm → Prop) : Option Value → Mf → Prop := fun v w => ∃ (r : Int64) (m : Mm), v = some (.long r) ∧ w = fl ad m ∧ K r m
abbrev kV (ad : Nat → Nat) (K : Mm → Prop) : Option Value → Mf → Prop := fun v w => ∃ m : Mm, v = none ∧ w = fl ad m ∧ K m
theorem vp_lit {i : Int32} {n : Nat} (h : ¬ (i < 0 ∨ n ≤ i.toNatClampNeg)) : vp_in i n := h
theorem vp_lt {i : Int32} {n : Nat} (h : vp_in i n) : i.toNatClampNeg < n := Nat.not_le.mp fun q => h (Or.inr q)
theorem vp_eq {i v : Int32} {n : Nat} (h : i = v) (hv : vp_in v n) : vp_in i n := by rw [h]; exact hv
theorem vp_b {i : Int32} {n : Nat} (h1 : 0 ≤ i.toInt) (h2 : i.toInt < n) : vp_in i n := vp_in_iff.mpr ⟨h1, h2⟩
theorem lo_1 {i : Int32} (h : 0 ≤ i) : 0 ≤ i.toInt := by have := Int32.le_iff_toInt_le.mp h; simpa using this
theorem lo_2 {i : Int32} (h : ¬ i < 0) : 0 ≤ i.toInt := by
  have h2 : ¬ i.toInt < (0 : Int32).toInt := fun q => h (Int32.lt_iff_toInt_lt.mpr q)
  have : (0 : Int32).toInt = 0 := by decide
  omega
theorem up_1 {i k : Int32} {n : Nat} (h : i < k) (hk : k.toInt ≤ n) : i.toInt < n := by have := Int32.lt_iff_toInt_lt.mp h; omega
theorem up_2 {i k : Int32} {n : Nat} (h : ¬ k ≤ i) (hk : k.toInt ≤ n) : i.toInt < n := by
  have h2 : ¬ k.toInt ≤ i.toInt := fun q => h (Int32.le_iff_toInt_le.mpr q)
  omega
theorem up_3 {i k : Int32} {n : Nat} (h : ¬ k < i) (hk : k.toInt < n) : i.toInt < n := by
  have h2 : ¬ k.toInt < i.toInt := fun q => h (Int32.lt_iff_toInt_lt.mpr q)
  omega
theorem up_4 {i k : Int32} {n : Nat} (h : i ≤ k) (hk : k.toInt < n) : i.toInt < n := by have := Int32.le_iff_toInt_le.mp h; omega
theorem nz_1 {y : Int32} (h : ¬ y ≤ 0) : ¬ y = 0 := fun q => h (by rw [q]; decide)
theorem nz_2 {y : Int32} (h : 0 < y) : ¬ y = 0 := fun q => absurd h (by rw [q]; decide)
theorem tne {x v : Int32} {k : Int} (h : ¬ x = v) (hv : v.toInt = k) : x.toInt ≠ k := fun q => h (Int32.toInt_inj.mp (by rw [q, hv]))
theorem kap_ite {c : Prop} {_ : Decidable c} {a b k : Nat} (h1 : c → kap a = k) (h2 : ¬ c → kap b = k) : kap (if c then a else b) = k := by
  split
  · exact h1 (by assumption)
  · exact h2 (by assumption)
