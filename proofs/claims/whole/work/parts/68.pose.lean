/-! the folded design: a panel in space is three directions (2 * axis, + 1 if it falls) and a spot -/
abbrev PZ : Type := Nat × Nat × Nat × (Nat → Int32)
def pt (d c : Nat) : Int32 := if d / 2 = c then (if d % 2 = 0 then 1 else -1) else 0
def opp (d : Nat) : Nat := if d % 2 = 0 then d + 1 else d - 1
theorem six {d : Nat} (h : d < 6) : d = 0 ∨ d = 1 ∨ d = 2 ∨ d = 3 ∨ d = 4 ∨ d = 5 := by omega
theorem tri {c : Nat} (h : c < 3) : c = 0 ∨ c = 1 ∨ c = 2 := by omega
theorem opp_lt {d : Nat} (h : d < 6) : opp d < 6 := by rcases six h with z | z | z | z | z | z <;> subst z <;> decide
theorem opp_ax {d : Nat} (h : d < 6) : opp d / 2 = d / 2 := by rcases six h with z | z | z | z | z | z <;> subst z <;> decide
theorem opp_nI {d : Nat} (h : d < 6) : nI d ^^^ 1 = nI (opp d) := by rcases six h with z | z | z | z | z | z <;> subst z <;> decide
theorem pt_opp {d : Nat} (h : d < 6) (c : Nat) : pt (opp d) c = -pt d c := by
  unfold pt
  rw [opp_ax h]
  by_cases e : d / 2 = c
  · rw [if_pos e, if_pos e]
    rcases six h with z | z | z | z | z | z <;> subst z <;> decide
  · rw [if_neg e, if_neg e]; decide
theorem part_pt {d c : Nat} (h : d < 6) (hc : c < 3) : v_X8_part (nI d) (nI c) = pt d c := by
  rcases six h with z | z | z | z | z | z <;> subst z <;> rcases tri hc with y | y | y <;> subst y <;> decide
theorem axis_sh {d : Nat} (h : d < 6) : nI d >>> ((1 : Int32) &&& 31) = nI (d / 2) := by rcases six h with z | z | z | z | z | z <;> subst z <;> decide
theorem pt_ne {d c : Nat} : ¬ pt d c = 0 ↔ d / 2 = c := by
  unfold pt
  by_cases e : d / 2 = c
  · rw [if_pos e]
    refine ⟨fun _ => e, fun _ => ?_⟩
    by_cases z : d % 2 = 0
    · rw [if_pos z]; decide
    · rw [if_neg z]; decide
  · rw [if_neg e]; exact ⟨fun z => absurd rfl z, fun z => absurd z e⟩
def outC (P : PZ) (s : Nat) : Nat := if s = 0 then opp P.2.1 else if s = 1 then P.1 else if s = 2 then P.2.1 else opp P.1
def intC (P : PZ) (s : Nat) (a : Int32) : Nat := if a = 0 then outC P s else if a = 1 then opp P.2.2.1 else if a = 2 then opp (outC P s) else P.2.2.1
def nrmC (P : PZ) (s : Nat) (a : Int32) : Nat := if a = 0 then P.2.2.1 else if a = 1 then outC P s else if a = 2 then opp P.2.2.1 else opp (outC P s)
/-- a panel that hangs at side s of a panel with pose P and size w, h -/
def hungP (P : PZ) (w h : Int32) (s : Nat) (a off dep : Int32) : PZ :=
  (if s = 0 ∨ s = 2 then P.1 else if s = 1 then intC P s a else opp (intC P s a),
   if s = 0 ∨ s = 2 then (if s = 2 then intC P s a else opp (intC P s a)) else P.2.1,
   nrmC P s a,
   fun c => P.2.2.2 c + (if s = 1 then w * pt P.1 c else if s = 2 then h * pt P.2.1 c else 0) + off * (if s = 0 ∨ s = 2 then pt P.1 c else pt P.2.1 c) + (if s = 0 ∨ s = 3 then dep * pt (intC P s a) c else 0))
def poseF (g : Vc) (an : Nat → Int32) (k : Nat) : PZ :=
  if k = 0 then (0, 2, 4, fun c => if c = 0 then g 121 else if c = 1 then g 122 else 0)
  else if h : (pf g k 0).toNatClampNeg < k then hungP (poseF g an (pf g k 0).toNatClampNeg) (rect g (pf g k 0).toNatClampNeg).2.2.1 (rect g (pf g k 0).toNatClampNeg).2.2.2 (pf g k 1).toNatClampNeg (an k) (pf g k 2) (pf g k 4) else (0, 2, 4, fun _ => 0)
termination_by k
decreasing_by exact h
theorem poseF_eq (g : Vc) (an : Nat → Int32) (k : Nat) : poseF g an k = if k = 0 then (0, 2, 4, fun c => if c = 0 then g 121 else if c = 1 then g 122 else 0)
  else if h : (pf g k 0).toNatClampNeg < k then hungP (poseF g an (pf g k 0).toNatClampNeg) (rect g (pf g k 0).toNatClampNeg).2.2.1 (rect g (pf g k 0).toNatClampNeg).2.2.2 (pf g k 1).toNatClampNeg (an k) (pf g k 2) (pf g k 4) else (0, 2, 4, fun _ => 0) := by rw [poseF]
theorem poseF_0 (g : Vc) (an : Nat → Int32) : poseF g an 0 = (0, 2, 4, fun c => if c = 0 then g 121 else if c = 1 then g 122 else 0) := by rw [poseF_eq, if_pos rfl]
theorem poseF_s {g : Vc} {an : Nat → Int32} {k p s : Nat} (h0 : 0 < k) (hk : k ≤ 10) (hp : p < k) (ep : pf g k 0 = nI p) (hs : s < 4) (es : pf g k 1 = nI s) : poseF g an k = hungP (poseF g an p) (rect g p).2.2.1 (rect g p).2.2.2 s (an k) (pf g k 2) (pf g k 4) := by
  have e : (pf g k 0).toNatClampNeg = p := by rw [ep, clamp_nI (by omega)]
  have e2 : (pf g k 1).toNatClampNeg = s := by rw [es, clamp_nI (by omega)]
  rw [poseF_eq, if_neg (by omega), dif_pos (by rw [e]; exact hp), e, e2]
/-- three directions along three axes -/
def pzok (P : PZ) : Prop := P.1 < 6 ∧ P.2.1 < 6 ∧ P.2.2.1 < 6 ∧ P.1 / 2 ≠ P.2.1 / 2 ∧ P.1 / 2 ≠ P.2.2.1 / 2 ∧ P.2.1 / 2 ≠ P.2.2.1 / 2
theorem pzok_hung {P : PZ} {w h : Int32} {s : Nat} {a off dep : Int32} (hs : s < 4) (hP : pzok P) : pzok (hungP P w h s a off dep) := by
  obtain ⟨h1, h2, h3, h4, h5, h6⟩ := hP
  have o1 := opp_lt h1
  have o2 := opp_lt h2
  have o3 := opp_lt h3
  have x1 := opp_ax h1
  have x2 := opp_ax h2
  have x3 := opp_ax h3
  have oo1 := opp_lt o1
  have oo2 := opp_lt o2
  have oo3 := opp_lt o3
  have xx1 := opp_ax o1
  have xx2 := opp_ax o2
  have xx3 := opp_ax o3
  have ooo1 := opp_ax oo1
  have ooo2 := opp_ax oo2
  have ooo3 := opp_ax oo3
  have oool1 := opp_lt oo1
  have oool2 := opp_lt oo2
  have oool3 := opp_lt oo3
  unfold pzok hungP intC nrmC outC
  simp only []
  rcases side4 hs with z | z | z | z <;> subst z <;> by_cases a0 : a = 0 <;> by_cases a1 : a = 1 <;> by_cases a2 : a = 2 <;> simp [a0, a1, a2] <;> omega
