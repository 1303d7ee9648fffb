/-! the start, and the law -/
def mS : Mm := cm_X12_post (wI (wI (zrA (cm_X12_pre (cm_X11_init m00)) 427 125) 427 0 200) 427 1 200)
def gS : Vc := fun k => mS.1 427 k
abbrev SS0 : AS := (gS, [], fun _ => none, [], 0)
set_option maxRecDepth 100000 in
theorem gS_v : gS 0 = 200 ∧ gS 1 = 200 ∧ gS 2 = 0 ∧ (gS 3 = 0 ∧ gS 4 = 0 ∧ gS 5 = 0 ∧ gS 6 = 0 ∧ gS 7 = 0 ∧ gS 8 = 0 ∧ gS 9 = 0 ∧ gS 10 = 0) ∧ (gS 125 = 1 ∧ gS 126 = 3 ∧ gS 127 = 2 ∧ gS 128 = 80) ∧ gS 129 = 1 ∧ gS 130 = 1 ∧ gS 131 = 1 ∧ gS 132 = 1 ∧ gS 133 = 1 ∧ gS 134 = 1 ∧ gS 135 = 1 ∧ gS 136 = 1 := by decide +kernel
set_option maxRecDepth 100000 in
theorem mS_r : mS.1 426 4 = 0 ∧ mS.1 431 0 = 0 ∧ mS.1 431 1 = 0 ∧ mS.1 426 12 = 0 ∧ mS.1 426 13 = 0 := by decide +kernel
set_option maxRecDepth 100000 in
theorem mS_c : (mS.1 1 2 = 200 ∧ mS.1 1 3 = 200 ∧ mS.1 1 4 = 0) ∧ (mS.1 2 0 = 0 ∧ mS.1 2 1 = 0 ∧ mS.1 2 2 = 0 ∧ mS.1 2 3 = 0 ∧ mS.1 3 0 = 0 ∧ mS.1 3 1 = 0 ∧ mS.1 3 2 = 0 ∧ mS.1 3 3 = 0) ∧ (mS.1 265 0 = 1 ∧ mS.1 265 1 = 3 ∧ mS.1 265 2 = 2 ∧ mS.1 265 3 = 80) ∧ (mS.1 266 0 = 1 ∧ mS.1 266 1 = 1 ∧ mS.1 266 2 = 1 ∧ mS.1 266 3 = 1 ∧ mS.1 266 4 = 1 ∧ mS.1 266 5 = 1 ∧ mS.1 266 6 = 1 ∧ mS.1 266 7 = 1) ∧ (mS.1 33 0 = 0 ∧ mS.1 33 1 = 0 ∧ mS.1 32 0 = 0 ∧ mS.1 32 1 = 0) ∧ mS.1 0 14 = 0 ∧ mS.1 0 15 = 0 := by decide +kernel
theorem gS_pn : pn gS = 0 := by unfold pn; rw [gS_v.2.2.1]; rfl
theorem gS_L : Ll gS := by
  obtain ⟨e0, e1, e2, ⟨e3, e4, e5, e6, e7, e8, e9, e10⟩, ⟨l0, l1, l2, l3⟩, w0, w1, w2, w3, w4, w5, w6, w7⟩ := gS_v
  unfold Ll
  refine ⟨fun i hi => ?_, ?_, fun i hi => ?_⟩
  · rcases (show i = 0 ∨ i = 1 ∨ i = 2 by omega) with z | z | z <;> subst z
    · rw [show 125 + 0 = 125 from rfl, l0]; exact ⟨by decide, by decide⟩
    · rw [show 125 + 1 = 126 from rfl, l1]; exact ⟨by decide, by decide⟩
    · rw [show 125 + 2 = 127 from rfl, l2]; exact ⟨by decide, by decide⟩
  · rw [l3]; exact ⟨by decide, by decide⟩
  · have q : gS (129 + i) = 1 := by
      rcases (show i = 0 ∨ i = 1 ∨ i = 2 ∨ i = 3 ∨ i = 4 ∨ i = 5 ∨ i = 6 ∨ i = 7 by omega) with z | z | z | z | z | z | z | z <;> subst z
      · exact w0
      · exact w1
      · exact w2
      · exact w3
      · exact w4
      · exact w5
      · exact w6
      · exact w7
    rw [q]; exact ⟨by decide, by decide⟩
theorem SS0_inv : Inv SS0 := by
  obtain ⟨e0, e1, e2, ⟨e3, e4, e5, e6, e7, e8, e9, e10⟩, ⟨l0, l1, l2, l3⟩, w0, w1, w2, w3, w4, w5, w6, w7⟩ := gS_v
  have a2 : (200 : Int32).toInt = 200 := rfl
  refine ⟨⟨⟨?_, ?_, ⟨0, by omega, e2⟩, fun i hi => ?_, fun h => ?_, fun k hk => ?_, fun k h0 hk => ?_⟩, fun k hk => ?_⟩, gS_L, Nat.zero_le _, fun v hv => ?_, fun q v hq => ?_, Nat.zero_le _, fun x hx => ?_, ?_⟩
  · show inR (gS 0) 20 300
    rw [e0]; exact ⟨by omega, by omega⟩
  · show inR (gS 1) 20 300
    rw [e1]; exact ⟨by omega, by omega⟩
  · show inR (gS (3 + 2 * i)) 0 200 ∧ inR (gS (4 + 2 * i)) 0 200 ∧ (gS (3 + 2 * i) = 0 ↔ gS (4 + 2 * i) = 0)
    have q : gS (3 + 2 * i) = 0 ∧ gS (4 + 2 * i) = 0 := by
      rcases (show i = 0 ∨ i = 1 ∨ i = 2 ∨ i = 3 by omega) with z | z | z | z <;> subst z
      · exact ⟨e3, e4⟩
      · exact ⟨e5, e6⟩
      · exact ⟨e7, e8⟩
      · exact ⟨e9, e10⟩
    rw [q.1, q.2]
    exact ⟨⟨by decide, by decide⟩, ⟨by decide, by decide⟩, Iff.rfl⟩
  · have h' : 0 < pn gS := h
    rw [gS_pn] at h'; omega
  · have h' : k < pn gS := hk
    rw [gS_pn] at h'; omega
  · have h' : k < pn gS := hk
    rw [gS_pn] at h'; omega
  · have h' : k < pn gS := hk
    rw [gS_pn] at h'; omega
  · exact absurd (show v ∈ ([] : List Vc) from hv) (List.not_mem_nil)
  · exact absurd (show (none : Option Vc) = some v from hq) (by intro z; cases z)
  · exact absurd (show x ∈ ([] : List Int32) from hx) (List.not_mem_nil)
  · show inR (0 : Int32) 0 3
    exact ⟨by decide, by decide⟩
theorem SS0_sim : Sim mS SS0 := by
  obtain ⟨e0, e1, e2, ⟨e3, e4, e5, e6, e7, e8, e9, e10⟩, ⟨l0, l1, l2, l3⟩, w0, w1, w2, w3, w4, w5, w6, w7⟩ := gS_v
  obtain ⟨r1, r2, r3, r4, r5⟩ := mS_r
  obtain ⟨⟨c1, c2, c3⟩, ⟨d1, d2, d3, d4, d5, d6, d7, d8⟩, ⟨m0, m1, m2, m3⟩, ⟨v0, v1, v2, v3, v4, v5, v6, v7⟩, ⟨h1, h2, h3, h4⟩, t1, t2⟩ := mS_c
  refine ⟨⟨fun _ _ => rfl, ⟨r1, fun j v hv => by cases hv⟩, fun q hq => ?_, ⟨r4, fun i x hx => by cases hx⟩, r5⟩, ⟨⟨?_, ?_, ?_, fun i hi => ?_, fun k hk => ?_⟩, ⟨fun i hi => ?_, fun i hi => ?_⟩, ⟨h1, 0, by omega, h2, fun j v hv => by cases hv⟩, fun q hq => ?_, ⟨t1, fun i x hx => by cases hx⟩, t2⟩, SS0_inv⟩
  · show mS.1 431 q = 0
    rcases (show q = 0 ∨ q = 1 by omega) with z | z <;> subst z
    · exact r2
    · exact r3
  · show mS.1 1 2 = gS 0
    rw [c1, e0]
  · show mS.1 1 3 = gS 1
    rw [c2, e1]
  · show mS.1 1 4 = gS 2
    rw [c3, e2]
  · show mS.1 2 i = gS (3 + 2 * i) ∧ mS.1 3 i = gS (4 + 2 * i)
    rcases (show i = 0 ∨ i = 1 ∨ i = 2 ∨ i = 3 by omega) with z | z | z | z <;> subst z
    · exact ⟨d1.trans e3.symm, d5.trans e4.symm⟩
    · exact ⟨d2.trans e5.symm, d6.trans e6.symm⟩
    · exact ⟨d3.trans e7.symm, d7.trans e8.symm⟩
    · exact ⟨d4.trans e9.symm, d8.trans e10.symm⟩
  · have h' : k < pn gS := hk
    rw [gS_pn] at h'; omega
  · show mS.1 265 i = gS (125 + i)
    rcases (show i = 0 ∨ i = 1 ∨ i = 2 ∨ i = 3 by omega) with z | z | z | z <;> subst z
    · exact m0.trans l0.symm
    · exact m1.trans l1.symm
    · exact m2.trans l2.symm
    · exact m3.trans l3.symm
  · show mS.1 266 i = gS (129 + i)
    rcases (show i = 0 ∨ i = 1 ∨ i = 2 ∨ i = 3 ∨ i = 4 ∨ i = 5 ∨ i = 6 ∨ i = 7 by omega) with z | z | z | z | z | z | z | z <;> subst z
    · exact v0.trans w0.symm
    · exact v1.trans w1.symm
    · exact v2.trans w2.symm
    · exact v3.trans w3.symm
    · exact v4.trans w4.symm
    · exact v5.trans w5.symm
    · exact v6.trans w6.symm
    · exact v7.trans w7.symm
  · show mS.1 32 q = 0
    rcases (show q = 0 ∨ q = 1 by omega) with z | z <;> subst z
    · exact h3
    · exact h4
theorem FU_eq : FU = 99999 + 1 := rfl
theorem law_pure : LawPure := by
  intro L sc hL
  refine clearDesign_ok ?_
  rw [FU_eq]
  exact law_loop hL 99999 0 mS SS0 (by omega) (by omega) SS0_sim
