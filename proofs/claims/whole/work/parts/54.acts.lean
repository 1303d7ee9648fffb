/-! acts: the frame of both sides -/
theorem in_1 {x a b : Int32} (h1 : a.toInt ≤ x.toInt) (h2 : x.toInt ≤ b.toInt) : v_X12_in x a b = 1 := by
  unfold v_X12_in
  rw [if_neg (by rw [fa_lt]; omega), if_neg (by rw [fa_lt]; omega)]
theorem in_0 {x a b : Int32} (h : x.toInt < a.toInt ∨ b.toInt < x.toInt) : v_X12_in x a b = 0 := by
  unfold v_X12_in
  by_cases h1 : x < a
  · rw [if_pos h1]
  · rw [if_neg h1, if_pos (by rw [fa_lt] at h1 ⊢; omega)]
theorem in_ne {x a b : Int32} (h1 : a.toInt ≤ x.toInt) (h2 : x.toInt ≤ b.toInt) : ¬ v_X12_in x a b = 0 := by rw [in_1 h1 h2]; decide
theorem asN {x : Int32} (h : 0 ≤ x.toInt) : ∃ k, x = nI k ∧ (k : Int) = x.toInt ∧ x.toNatClampNeg = k := by
  have hr := fb_rng x
  refine ⟨x.toInt.toNat, ?_, by omega, rfl⟩
  rw [fa_eq, nI_toInt (by omega)]
  omega
def vset (g : Vc) (k : Nat) (x : Int32) : Vc := fun j => if j = k then x else g j
theorem vset_same (g : Vc) (k : Nat) (x : Int32) : vset g k x k = x := if_pos rfl
theorem vset_ne (g : Vc) {k j : Nat} (x : Int32) (h : j ≠ k) : vset g k x j = g j := if_neg h
def Rr (m : Mm) (S : AS) : Prop :=
  (m.1 426 4 = nI (sh S).length ∧ ∀ j v, (sh S)[j]? = some v → ∀ k, k < 137 → m.1 429 (137 * j + k) = v k) ∧
  (∀ q, q < 2 → match ss S q with | none => m.1 431 q = 0 | some v => m.1 431 q = 1 ∧ ∀ k, k < 125 → m.1 430 (125 * q + k) = v k) ∧
  (m.1 426 12 = nI (sx S).length ∧ ∀ i x, (sx S)[i]? = some x → m.1 436 i = x) ∧ m.1 426 13 = sf S
def rcell (b : Nat) : Prop := b = 429 ∨ b = 430 ∨ b = 431 ∨ b = 436
theorem Rr_congr {m m2 : Mm} {S : AS} (h : Rr m S) (h4 : m2.1 426 4 = m.1 426 4) (h12 : m2.1 426 12 = m.1 426 12) (h13 : m2.1 426 13 = m.1 426 13) (hc : ∀ b, rcell b → m2.1 b = m.1 b) : Rr m2 S := by
  unfold Rr at h ⊢
  rw [h4, h12, h13, hc 429 (Or.inl rfl), hc 430 (Or.inr (Or.inl rfl)), hc 431 (Or.inr (Or.inr (Or.inl rfl))), hc 436 (Or.inr (Or.inr (Or.inr rfl)))]
  exact h
theorem RefR_congr {m m2 : Mm} {S : AS} (h : RefR m S) (h4 : m2.1 426 4 = m.1 426 4) (h12 : m2.1 426 12 = m.1 426 12) (h13 : m2.1 426 13 = m.1 426 13) (hc : ∀ b, b = 427 ∨ rcell b → m2.1 b = m.1 b) : RefR m2 S :=
  ⟨fun k hk => by rw [hc 427 (Or.inl rfl)]; exact h.1 k hk, Rr_congr (m := m) h.2 h4 h12 h13 (fun b hb => hc b (Or.inr hb))⟩
theorem RefR_up {m m2 : Mm} {S : AS} (h : RefR m S) (hc : ∀ b, 426 ≤ b → m2.1 b = m.1 b) : RefR m2 S :=
  RefR_congr h (by rw [hc 426 (by omega)]) (by rw [hc 426 (by omega)]) (by rw [hc 426 (by omega)]) (fun b hb => hc b (by unfold rcell at hb; omega))
/-- the cells in which the class keeps its state -/
def ccell (b : Nat) : Prop := b < 16 ∨ (32 ≤ b ∧ b < 242) ∨ b = 265 ∨ b = 266 ∨ (396 ≤ b ∧ b < 426)
theorem ClsR_congr {m m2 : Mm} {S : AS} (hI : Inv S) (h : ClsR m S) (hc : ∀ b, ccell b → m2.1 b = m.1 b) : ClsR m2 S := by
  obtain ⟨c1, c2, ⟨c3, o, ho, c4, c5⟩, c6, c7, c8⟩ := h
  have e : ∀ b, b < 16 ∨ (32 ≤ b ∧ b < 242) ∨ b = 265 ∨ b = 266 ∨ (396 ≤ b ∧ b < 426) → m2.1 b = m.1 b := hc
  refine ⟨desR_congr hI.1.ple c1 (fun b h1 h2 => e b (by omega)), limR_congr c2 (e 265 (by omega)) (e 266 (by omega)), ⟨by rw [e 33 (by omega)]; exact c3, o, ho, by rw [e 33 (by omega)]; exact c4, fun j v hv => ?_⟩, fun q hq => ?_, ?_, ?_⟩
  · obtain ⟨d1, d2⟩ := c5 j v hv
    have hvD := (hI.2.2.2.1 v (List.mem_of_getElem? hv)).1
    exact ⟨desR_congr hvD.ple d1 (fun b h1 h2 => e b (by omega)), limR_congr d2 (e _ (by omega)) (e _ (by omega))⟩
  · have := c6 q hq
    cases hs : ss S q with
    | none => rw [hs] at this; rw [e 32 (by omega)]; exact this
    | some v =>
      rw [hs] at this
      exact ⟨by rw [e 32 (by omega)]; exact this.1, desR_congr (hI.2.2.2.2.1 q v hs).ple this.2 (fun b h1 h2 => e b (by omega))⟩
  · exact ⟨by rw [e 0 (by omega)]; exact c7.1, fun i x hx => by rw [e 241 (by omega)]; exact c7.2 i x hx⟩
  · rw [e 0 (by omega)]; exact c8
theorem ClsR_low {m m2 : Mm} {S : AS} (hI : Inv S) (h : ClsR m S) (hc : ∀ b, b < 426 → m2.1 b = m.1 b) : ClsR m2 S := ClsR_congr hI h (fun b hb => hc b (by unfold ccell at hb; omega))
/-- the reference in the midst of an act -/
def kp (m0 m : Mm) : Prop := m.1 438 = m0.1 438 ∧ m.1 426 14 = m0.1 426 14
def RB (m0 m : Mm) (S : AS) (g : Vc) : Prop := (∀ k, k < 137 → m.1 427 k = g k) ∧ ((∀ k, k < 137 → m.1 428 k = sg S k) ∧ kp m0 m) ∧ m.1 426 2 = 0 ∧ Rr m S ∧ ∀ b, b < 426 → m.1 b = m0.1 b
theorem RB_begins {m : Mm} {S : AS} {K : Mm → Prop} (h : RefR m S) (kk : ∀ m2, RB m m2 S (sg S) → K m2) : wp_X12_begins m K := by
  refine begins_ok (kk _ ⟨fun k hk => ?_, ⟨fun k hk => ?_, funext fun j => ?_, ?_⟩, ?_, ?_, fun b hb => ?_⟩)
  · rw [cpA_get, if_neg (by omega), wI_ne _ _ _ _ (by omega)]; exact h.1 k hk
  · rw [cpA_get, if_pos (by omega), wI_ne _ _ _ _ (by omega)]; simpa using h.1 k hk
  · rw [cpA_get, if_neg (by omega), wI_ne _ _ _ _ (by omega)]
  · rw [cpA_get, if_neg (by omega), wI_nj _ _ _ _ (by omega)]
  · rw [cpA_get, if_neg (by omega), wI_same]
  · refine Rr_congr (m := m) h.2 ?_ ?_ ?_ (fun b hb => ?_)
    · rw [cpA_get, if_neg (by omega), wI_nj _ _ _ _ (by omega)]
    · rw [cpA_get, if_neg (by omega), wI_nj _ _ _ _ (by omega)]
    · rw [cpA_get, if_neg (by omega), wI_nj _ _ _ _ (by omega)]
    · funext j
      unfold rcell at hb
      rw [cpA_get, if_neg (by omega), wI_ne _ _ _ _ (by omega)]
  · funext j
    rw [cpA_get, if_neg (by omega), wI_ne _ _ _ _ (by omega)]
theorem RB_put {m0 m : Mm} {S : AS} {g : Vc} (h : RB m0 m S g) {k : Nat} {x : Int32} : RB m0 (wI m 427 k x) S (vset g k x) := by
  obtain ⟨h1, h2, h3, h4, h5⟩ := h
  refine ⟨fun j hj => ?_, ⟨fun j hj => by rw [wI_ne _ _ _ _ (by omega)]; exact h2.1 j hj, (funext fun j => wI_ne _ _ _ _ (by omega) j).trans h2.2.1, (wI_ne _ _ _ _ (by omega) _).trans h2.2.2⟩, by rw [wI_ne _ _ _ _ (by omega)]; exact h3, Rr_congr h4 (wI_ne _ _ _ _ (by omega) _) (wI_ne _ _ _ _ (by omega) _) (wI_ne _ _ _ _ (by omega) _) (fun b hb => ?_), fun b hb => ?_⟩
  · rw [wI_get, if_pos rfl]
    unfold vset
    by_cases e : j = k
    · rw [if_pos e, if_pos e]
    · rw [if_neg e, if_neg e]; exact h1 j hj
  · funext j
    unfold rcell at hb
    rw [wI_ne _ _ _ _ (by omega)]
  · funext j
    rw [wI_ne _ _ _ _ (by omega)]
    exact congrFun (h5 b hb) j
theorem RB_stop {m0 m : Mm} {S : AS} (h : RB m0 m S (sg S)) : RefR m S := ⟨h.1, h.2.2.2.1⟩
theorem RB_ends {m0 m : Mm} {S : AS} {g : Vc} {x : Int32} {K : Int32 → Mm → Prop} (hI : Inv S) (h : RB m0 m S g) (kk : ∀ m2, RefR m2 (g, pushH (sh S) (sg S), S.2.2) → (∀ b, b < 426 → m2.1 b = m0.1 b) → K x m2) : wp_X12_ends x m K := by
  obtain ⟨h1, h2, h3, ⟨⟨b1, b2⟩, h5, h6, h7⟩, h8⟩ := h
  have hlen := hI.2.2.1
  refine ends_ok h3 b1 hlen (fun hl => kk _ ?_ (fun b hb => ?_)) (fun hl => kk _ ?_ (fun b hb => ?_))
  · have e : pushH (sh S) (sg S) = sh S ++ [sg S] := by unfold pushH; rw [if_neg (by omega)]
    have hw : ∀ b, b ≠ 429 → b ≠ 426 → (wI (cpA m 428 429 0 (137 * (sh S).length) 137) 426 4 (nI ((sh S).length + 1))).1 b = m.1 b := fun b q1 q2 => by
      funext j; rw [wI_ne _ _ _ _ q2, cpA_get, if_neg (fun z => q1 z.1)]
    have hw6 : ∀ j, j ≠ 4 → (wI (cpA m 428 429 0 (137 * (sh S).length) 137) 426 4 (nI ((sh S).length + 1))).1 426 j = m.1 426 j := fun j q => by
      rw [wI_nj _ _ _ _ q, cpA_get, if_neg (by omega)]
    refine ⟨fun k hk => by rw [hw 427 (by omega) (by omega)]; exact h1 k hk, ⟨?_, fun j v hv k hk => ?_⟩, ?_, ⟨by rw [hw6 12 (by omega)]; exact h6.1, by rw [hw 436 (by omega) (by omega)]; exact h6.2⟩, by rw [hw6 13 (by omega)]; exact h7⟩
    · rw [wI_same]; show _ = nI (pushH (sh S) (sg S)).length; rw [e, List.length_append]; rfl
    · have hv1 : (sh S ++ [sg S])[j]? = some v := by rw [← e]; exact hv
      rw [wI_ne _ _ _ _ (by omega), cpA_get]
      by_cases hj : j = (sh S).length
      · subst hj
        rw [List.getElem?_append_right (Nat.le_refl _), Nat.sub_self] at hv1
        have hv2 : sg S = v := Option.some.inj hv1
        rw [if_pos (by omega), show 137 * (sh S).length + k - 137 * (sh S).length + 0 = k by omega, h2.1 k hk, hv2]
      · have hj2 : j < (sh S).length := by
          have h3 : j < (sh S ++ [sg S]).length := (List.getElem?_eq_some_iff.mp hv1).1
          rw [List.length_append, List.length_singleton] at h3
          omega
        rw [List.getElem?_append_left hj2] at hv1
        rw [if_neg (by omega)]
        exact b2 j v hv1 k hk
    · rw [hw 431 (by omega) (by omega), hw 430 (by omega) (by omega)]
      exact h5
  · funext j
    rw [wI_ne _ _ _ _ (by omega), cpA_get, if_neg (by omega)]
    exact congrFun (h8 b hb) j
  · have e : pushH (sh S) (sg S) = (sh S).tail ++ [sg S] := by unfold pushH; rw [if_pos hl]
    have htl : (sh S).tail.length = 11 := by rw [List.length_tail]; omega
    have hw : ∀ b, b ≠ 429 → b ≠ 426 → (wI (cpA (wI (cpA m 429 429 137 0 1507) 426 4 (nI 11)) 428 429 0 1507 137) 426 4 (nI 12)).1 b = m.1 b := fun b q1 q2 => by
      funext j; rw [wI_ne _ _ _ _ q2, cpA_get, if_neg (fun z => q1 z.1), wI_ne _ _ _ _ q2, cpA_get, if_neg (fun z => q1 z.1)]
    have hw6 : ∀ j, j ≠ 4 → (wI (cpA (wI (cpA m 429 429 137 0 1507) 426 4 (nI 11)) 428 429 0 1507 137) 426 4 (nI 12)).1 426 j = m.1 426 j := fun j q => by
      rw [wI_nj _ _ _ _ q, cpA_get, if_neg (by omega), wI_nj _ _ _ _ q, cpA_get, if_neg (by omega)]
    refine ⟨fun k hk => by rw [hw 427 (by omega) (by omega)]; exact h1 k hk, ⟨?_, fun j v hv k hk => ?_⟩, ?_, ⟨by rw [hw6 12 (by omega)]; exact h6.1, by rw [hw 436 (by omega) (by omega)]; exact h6.2⟩, by rw [hw6 13 (by omega)]; exact h7⟩
    · rw [wI_same]; show _ = nI (pushH (sh S) (sg S)).length; rw [e, List.length_append, htl]; rfl
    · have hv1 : ((sh S).tail ++ [sg S])[j]? = some v := by rw [← e]; exact hv
      rw [wI_ne _ _ _ _ (by omega), cpA_get]
      by_cases hj : j = 11
      · subst hj
        rw [List.getElem?_append_right (by omega), htl, Nat.sub_self] at hv1
        have hv2 : sg S = v := Option.some.inj hv1
        rw [if_pos (by omega), show 137 * 11 + k - 1507 + 0 = k by omega, wI_ne _ _ _ _ (by omega), cpA_get, if_neg (by omega), h2.1 k hk, hv2]
      · have hj2 : j < (sh S).tail.length := by
          have h3 : j < ((sh S).tail ++ [sg S]).length := (List.getElem?_eq_some_iff.mp hv1).1
          rw [List.length_append, List.length_singleton] at h3
          omega
        rw [List.getElem?_append_left hj2, List.getElem?_tail] at hv1
        rw [if_neg (by omega), wI_ne _ _ _ _ (by omega), cpA_get, if_pos (by omega), show 137 * j + k - 0 + 137 = 137 * (j + 1) + k by omega]
        exact b2 (j + 1) v hv1 k hk
    · rw [hw 431 (by omega) (by omega), hw 430 (by omega) (by omega)]
      exact h5
  · funext j
    rw [wI_ne _ _ _ _ (by omega), cpA_get, if_neg (by omega), wI_ne _ _ _ _ (by omega), cpA_get, if_neg (by omega)]
    exact congrFun (h8 b hb) j
/-- an act that is refused, and its end -/
theorem RB_refuse {m0 m : Mm} {S : AS} {g : Vc} {x : Int32} {K : Int32 → Mm → Prop} (h : RB m0 m S g) (kk : ∀ m2, RefR m2 S → (m2.1 426 2 = 1 ∧ kp m0 m2) → (∀ b, b < 426 → m2.1 b = m0.1 b) → K x m2) : wp_X12_refuse x m K := by
  obtain ⟨h1, h2, h3, h4, h5⟩ := h
  refine refuse_ok (kk _ ⟨fun k hk => ?_, ?_⟩ ⟨?_, funext fun j => ?_, ?_⟩ (fun b hb => ?_))
  · rw [cpA_get, if_pos (by omega), wI_ne _ _ _ _ (by omega)]; simpa using h2.1 k hk
  · refine Rr_congr (m := m) h4 ?_ ?_ ?_ (fun b hb => ?_)
    · rw [cpA_get, if_neg (by omega), wI_nj _ _ _ _ (by omega)]
    · rw [cpA_get, if_neg (by omega), wI_nj _ _ _ _ (by omega)]
    · rw [cpA_get, if_neg (by omega), wI_nj _ _ _ _ (by omega)]
    · funext j
      unfold rcell at hb
      rw [cpA_get, if_neg (by omega), wI_ne _ _ _ _ (by omega)]
  · rw [cpA_get, if_neg (by omega), wI_same]
  · rw [cpA_get, if_neg (by omega), wI_ne _ _ _ _ (by omega)]; exact congrFun h2.2.1 j
  · rw [cpA_get, if_neg (by omega), wI_nj _ _ _ _ (by omega)]; exact h2.2.2
  · funext j
    rw [cpA_get, if_neg (by omega), wI_ne _ _ _ _ (by omega)]
    exact congrFun (h5 b hb) j
theorem ends_failed {x : Int32} {m : Mm} {K : Int32 → Mm → Prop} (hf : m.1 426 2 = 1) (h : K x m) : wp_X12_ends x m K := by
  unfold wp_X12_ends
  rw [if_neg (by rw [hf]; decide)]
  exact h
theorem Inv_push {S : AS} {g : Vc} (hI : Inv S) (hg : Dd g) (hl : Ll g) : Inv (g, pushH (sh S) (sg S), S.2.2) := by
  have hlen := hI.2.2.1
  refine ⟨hg, hl, ?_, fun v hv => ?_, hI.2.2.2.2⟩
  · show (pushH (sh S) (sg S)).length ≤ 12
    unfold pushH
    by_cases h : (sh S).length = 12
    · rw [if_pos h, List.length_append, List.length_tail, List.length_singleton]; omega
    · rw [if_neg h, List.length_append, List.length_singleton]; omega
  · have hv2 : v ∈ pushH (sh S) (sg S) := hv
    unfold pushH at hv2
    by_cases h : (sh S).length = 12
    · rw [if_pos h] at hv2
      rcases List.mem_append.mp hv2 with q | q
      · exact hI.2.2.2.1 v (List.mem_of_mem_tail q)
      · rw [List.mem_singleton.mp q]; exact ⟨hI.1, hI.2.1⟩
    · rw [if_neg h] at hv2
      rcases List.mem_append.mp hv2 with q | q
      · exact hI.2.2.2.1 v q
      · rw [List.mem_singleton.mp q]; exact ⟨hI.1, hI.2.1⟩
