/-! seam -/
theorem shas_0 {m : Mm} {g : Vc} {an : Nat → Int32} {tol x : Int32} {l : List Qd} (hS : cSm m g an tol l) (hl : l.length ≤ 360) : v_X10_has x m = 0 ↔ ¬ (0 ≤ x.toInt ∧ x.toInt < l.length) := by
  unfold v_X10_has
  rw [hS.1]
  have e := nI_toInt (n := l.length) (by omega)
  have a0 : (0 : Int32).toInt = 0 := rfl
  have a3 : (360 : Int32).toInt = 360 := rfl
  by_cases q1 : x < 0
  · rw [if_pos q1]
    rw [fa_lt] at q1
    exact ⟨fun _ z => by omega, fun _ => rfl⟩
  rw [if_neg q1]
  rw [fa_lt] at q1
  by_cases q2 : nI l.length ≤ x
  · rw [if_pos q2]
    rw [fa_le] at q2
    exact ⟨fun _ z => by omega, fun _ => rfl⟩
  rw [if_neg q2]
  rw [fa_le] at q2
  rw [if_neg (by rw [fa_le]; omega)]
  exact ⟨fun z => absurd z (by decide), fun z => absurd ⟨by omega, by omega⟩ z⟩
theorem rhas_0 {m : Mm} {g : Vc} {an : Nat → Int32} {x : Int32} {l : List Qd} (hS : rSm m g an l) (hl : l.length ≤ 720) : v_X12_in x 0 (m.1 426 25 - 1) = 0 ↔ ¬ (0 ≤ x.toInt ∧ x.toInt < l.length) := by
  rw [in_iff, hS.1]
  have e := nI_toInt (n := l.length) (by omega)
  have a0 : (0 : Int32).toInt = 0 := rfl
  have a1 : (1 : Int32).toInt = 1 := rfl
  rw [fb_subI (by omega) (by omega), a0, a1, e]
  constructor
  · intro z q; exact z ⟨q.1, by omega⟩
  · intro z q; exact z ⟨q.1, by omega⟩
def xSv (g : Vc) (an : Nat → Int32) (s : Qd) (n : Nat) : Int32 := if n = 0 then nI s.1 else if n = 1 then nI s.2.1 else if n = 2 then nI s.2.2.1 else if n = 3 then nI s.2.2.2 else if n = 4 then sH g an s - sL g an s else if n = 5 then sG g an s else if n = 6 then sFd g s else xMis g an s
theorem xSv0 (g : Vc) (an : Nat → Int32) (s : Qd) : xSv g an s 0 = nI s.1 := by simp [xSv]
theorem xSv1 (g : Vc) (an : Nat → Int32) (s : Qd) : xSv g an s 1 = nI s.2.1 := by simp [xSv]
theorem xSv2 (g : Vc) (an : Nat → Int32) (s : Qd) : xSv g an s 2 = nI s.2.2.1 := by simp [xSv]
theorem xSv3 (g : Vc) (an : Nat → Int32) (s : Qd) : xSv g an s 3 = nI s.2.2.2 := by simp [xSv]
theorem xSv4 (g : Vc) (an : Nat → Int32) (s : Qd) : xSv g an s 4 = sH g an s - sL g an s := by simp [xSv]
theorem xSv5 (g : Vc) (an : Nat → Int32) (s : Qd) : xSv g an s 5 = sG g an s := by simp [xSv]
theorem xSv6 (g : Vc) (an : Nat → Int32) (s : Qd) : xSv g an s 6 = sFd g s := by simp [xSv]
theorem xSv7 (g : Vc) (an : Nat → Int32) (s : Qd) : xSv g an s 7 = xMis g an s := by simp [xSv]
theorem dn7 : ∀ a b : Nat, a < 8 → b < 8 → a ≠ b → ¬ nI a = (nI b : Int32) := fun a b h1 h2 h => ine h (by omega) (by omega)
theorem isFold_c {m : Mm} {d : Nat} {g : Vc} {an : Nat → Int32} {tol : Int32} {i : Nat} {s : Qd} (hr : rngD g) (hd : desR m.1 d g) (hS : cSm m g an tol (seamL g an tol)) (hl : (seamL g an tol).length ≤ 360) (hi : (seamL g an tol)[i]? = some s) : (if v_X10_isFold d (nI i) m = 0 then (0 : Int32) else 1) = sFd g s ∧ s_X10_isFold d (nI i) m := by
  have hp1 := hr.par.1
  obtain ⟨w1, w2, w3, w4, -⟩ := seam_at hi
  obtain ⟨c1, c2, c3, c4, c5, c6, c7, c8⟩ := seam_c hp1 hS hl hi
  have hq := (hd.2.2.2.2 s.2.2.1 w2).2.2.1 (by omega)
  obtain ⟨⟨p, hp, ep⟩, ⟨o, ho, eo⟩⟩ := hr.par.2.2 s.2.2.1 (by omega) w2
  refine ⟨?_, ⟨fun _ => c8, fun _ => c8, fun _ => c8, fun _ _ => c8⟩⟩
  unfold v_X10_isFold v_X7_hangsOn v_X7_nearSide sFd
  rw [c2, c3, c4, c5, panelAt_in (by omega), hq 0 (by omega), hq 1 (by omega)]
  by_cases z1 : pf g s.2.2.1 0 = nI s.1
  · rw [if_pos z1, if_pos z1]
    by_cases z2 : pf g s.2.2.1 1 = nI s.2.1
    · rw [if_pos z2, if_pos z2, if_neg (show ¬ (1 : Int32) = 0 by decide), if_neg (show ¬ pf g s.2.2.1 0 = -9 by rw [ep]; exact fun z => by have := congrArg Int32.toInt z; rw [nI_toInt (by omega)] at this; have a9 : (-9 : Int32).toInt = -9 := rfl; omega), z2, show nI s.2.1 + (2 : Int32) = nI (s.2.1 + 2) from nI_add _ 2, show nI (s.2.1 + 2) &&& 3 = nI ((s.2.1 + 2) % 2 ^ 2) from fa_mask _ 2, if_nI (by omega) (by omega)]
      by_cases z3 : (s.2.1 + 2) % 4 = s.2.2.2
      · rw [if_pos z3, if_neg (by decide)]
      · rw [if_neg z3, if_pos rfl]
    · rw [if_neg z2, if_neg z2, if_pos rfl, if_pos rfl]
  · rw [if_neg z1, if_neg z1, if_pos rfl, if_pos rfl]
theorem value_c {m2 : Mm} {g : Vc} {an : Nat → Int32} {tol : Int32} {i n : Nat} {s : Qd} (hr : rngD g) (hd : desR m2.1 1 g) (hS : cSm m2 g an tol (seamL g an tol)) (hl : (seamL g an tol).length ≤ 360) (es : (seamL g an tol)[i]? = some s) (hn : n < 7) : v_X10_value 1 (nI i) (nI n) m2 = xSv g an s n := by
  have hi := (List.getElem?_eq_some_iff.mp es).1
  obtain ⟨v1, v2, v3, v4, v5, v6, v7, v8⟩ := seam_c hr.par.1 hS hl es
  obtain ⟨r1, r2, r3, r4, r5⟩ := hS.2.2 i s es
  obtain ⟨u1, u2⟩ := isFold_c hr hd hS hl es
  have h8 : n = 0 ∨ n = 1 ∨ n = 2 ∨ n = 3 ∨ n = 4 ∨ n = 5 ∨ n = 6 := by omega
  unfold v_X10_value
  rw [v1, if_neg (show ¬ (1 : Int32) = 0 by decide), v2, v3, v4, v5, clamp_nI (by omega), r3, r4, r5, u1]
  rcases h8 with z | z | z | z | z | z | z <;> subst z
  · rw [if_pos (show nI 0 = (0 : Int32) from rfl), xSv0]
  · rw [if_neg (show ¬ nI 1 = (0 : Int32) from dn7 1 0 (by omega) (by omega) (by omega)), if_pos (show nI 1 = (1 : Int32) from rfl), xSv1]
  · rw [if_neg (show ¬ nI 2 = (0 : Int32) from dn7 2 0 (by omega) (by omega) (by omega)), if_neg (show ¬ nI 2 = (1 : Int32) from dn7 2 1 (by omega) (by omega) (by omega)), if_pos (show nI 2 = (2 : Int32) from rfl), xSv2]
  · rw [if_neg (show ¬ nI 3 = (0 : Int32) from dn7 3 0 (by omega) (by omega) (by omega)), if_neg (show ¬ nI 3 = (1 : Int32) from dn7 3 1 (by omega) (by omega) (by omega)), if_neg (show ¬ nI 3 = (2 : Int32) from dn7 3 2 (by omega) (by omega) (by omega)), if_pos (show nI 3 = (3 : Int32) from rfl), xSv3]
  · rw [if_neg (show ¬ nI 4 = (0 : Int32) from dn7 4 0 (by omega) (by omega) (by omega)), if_neg (show ¬ nI 4 = (1 : Int32) from dn7 4 1 (by omega) (by omega) (by omega)), if_neg (show ¬ nI 4 = (2 : Int32) from dn7 4 2 (by omega) (by omega) (by omega)), if_neg (show ¬ nI 4 = (3 : Int32) from dn7 4 3 (by omega) (by omega) (by omega)), if_pos (show nI 4 = (4 : Int32) from rfl), xSv4]
  · rw [if_neg (show ¬ nI 5 = (0 : Int32) from dn7 5 0 (by omega) (by omega) (by omega)), if_neg (show ¬ nI 5 = (1 : Int32) from dn7 5 1 (by omega) (by omega) (by omega)), if_neg (show ¬ nI 5 = (2 : Int32) from dn7 5 2 (by omega) (by omega) (by omega)), if_neg (show ¬ nI 5 = (3 : Int32) from dn7 5 3 (by omega) (by omega) (by omega)), if_neg (show ¬ nI 5 = (4 : Int32) from dn7 5 4 (by omega) (by omega) (by omega)), if_pos (show nI 5 = (5 : Int32) from rfl), xSv5]
  · rw [if_neg (show ¬ nI 6 = (0 : Int32) from dn7 6 0 (by omega) (by omega) (by omega)), if_neg (show ¬ nI 6 = (1 : Int32) from dn7 6 1 (by omega) (by omega) (by omega)), if_neg (show ¬ nI 6 = (2 : Int32) from dn7 6 2 (by omega) (by omega) (by omega)), if_neg (show ¬ nI 6 = (3 : Int32) from dn7 6 3 (by omega) (by omega) (by omega)), if_neg (show ¬ nI 6 = (4 : Int32) from dn7 6 4 (by omega) (by omega) (by omega)), if_neg (show ¬ nI 6 = (5 : Int32) from dn7 6 5 (by omega) (by omega) (by omega)), xSv6]
theorem svalue_c {m2 : Mm} {g : Vc} {an : Nat → Int32} {tol : Int32} {i : Nat} {y : Int32} {s : Qd} (hr : rngD g) (hd : desR m2.1 1 g) (hS : cSm m2 g an tol (seamL g an tol)) (hl : (seamL g an tol).length ≤ 360) (es : (seamL g an tol)[i]? = some s) : s_X10_value 1 (nI i) y m2 := by
  obtain ⟨v1, v2, v3, v4, v5, v6, v7, v8⟩ := seam_c hr.par.1 hS hl es
  obtain ⟨u1, u2⟩ := isFold_c hr hd hS hl es
  exact fun _ => ⟨fun _ _ => v8, fun _ => ⟨fun _ _ => v8, fun _ => ⟨fun _ _ => v8, fun _ => ⟨fun _ _ => v8, fun _ => ⟨fun _ => v8, fun _ => ⟨fun _ => v8, fun _ => u2⟩⟩⟩⟩⟩⟩
theorem seam_cls {m : Mm} {S : AS} {x y : Int32} {i n : Nat} {s : Qd} {K : Int32 → Mm → Prop} (hI : Inv S) (hC : ClsR m S) (cx : 0 ≤ x.toInt ∧ x.toInt < (seamL (sg S) (angM (sg S) (-1)) (sg S 125)).length) (cy : 0 ≤ y.toInt ∧ y.toInt ≤ 7) (ei : x = nI i) (ei2 : (i : Int) = x.toInt) (en : y = nI n) (en2 : (n : Int) = y.toInt) (es : (seamL (sg S) (angM (sg S) (-1)) (sg S 125))[i]? = some s) (k1 : ∀ m1, ClsR m1 S → (∀ b, 426 ≤ b → m1.1 b = m.1 b) → K (xSv (sg S) (angM (sg S) (-1)) s n) m1) : wp_X11_seam x y m K := by
  have hD := hI.1
  have hr := hD.r
  have hp := hD.ple
  have a0 : (0 : Int32).toInt = 0 := rfl
  have a7 : (7 : Int32).toInt = 7 := rfl
  have hi : i < (seamL (sg S) (angM (sg S) (-1)) (sg S 125)).length := by omega
  have h8 : n = 0 ∨ n = 1 ∨ n = 2 ∨ n = 3 ∨ n = 4 ∨ n = 5 ∨ n = 6 ∨ n = 7 := by omega
  unfold wp_X11_seam
  refine cseams_ok hI hC (fun m2 f hF hS hl => ?_)
  have hC2 := ClsR_W hI hC f
  show (if _ then _ else _)
  rw [if_neg (fun z => (shas_0 hS hl).mp z cx), if_neg (by rw [fa_lt]; omega), if_pos (by rw [fa_le]; omega), ei]
  obtain ⟨v1, v2, v3, v4, v5, v6, v7, v8⟩ := seam_c hp hS hl es
  obtain ⟨r1, r2, r3, r4, r5⟩ := hS.2.2 i s es
  have k2 := k1 _ hC2 (up_W f)
  by_cases z7 : n = 7
  · subst z7
    rw [xSv7] at k1
    rw [en, if_pos (show nI 7 = (7 : Int32) from rfl)]
    refine cmis_ok hr (by omega) hC2.1 hF hS hl es (fun m3 f3 => ?_)
    have hb : ∀ b, b < 391 ∨ 395 ≤ b → m3.1 b = m2.1 b := fun b hb => f3 b (by omega) (by omega) (by omega) (by omega)
    refine k1 _ (ClsR_congr hI hC2 (fun b hb2 => hb b (by unfold ccell at hb2; omega))) (fun b hb2 => by rw [hb b (by omega), up_W f b hb2])
  · rw [if_neg (show ¬ y = (7 : Int32) by rw [en]; exact ine (i := 7) z7 (by omega) (by omega)), en]
    obtain ⟨u1, u2⟩ := isFold_c hr hC2.1 hS hl es
    rw [value_c hr hC2.1 hS hl es (by omega)]
    exact ⟨svalue_c hr hC2.1 hS hl es, k2⟩
theorem seam_ref {m1 : Mm} {S : AS} {x y : Int32} {i n : Nat} {s : Qd} {K : Int32 → Mm → Prop} (hI : Inv S) (hR : RefR m1 S) (cx : 0 ≤ x.toInt ∧ x.toInt < (seamL (sg S) (angM (sg S) (-1)) (sg S 125)).length) (cy : 0 ≤ y.toInt ∧ y.toInt ≤ 7) (ei : x = nI i) (ei2 : (i : Int) = x.toInt) (en : y = nI n) (en2 : (n : Int) = y.toInt) (es : (seamL (sg S) (angM (sg S) (-1)) (sg S 125))[i]? = some s) (k1 : ∀ m2, RefR m2 S → (∀ b, b < 426 → m2.1 b = m1.1 b) → K (xSv (sg S) (angM (sg S) (-1)) s n) m2) : wp_X12_seam x y m1 K := by
  have hD := hI.1
  have hr := hD.r
  have hp := hD.ple
  have a0 : (0 : Int32).toInt = 0 := rfl
  have a7 : (7 : Int32).toInt = 7 := rfl
  have hi : i < (seamL (sg S) (angM (sg S) (-1)) (sg S 125)).length := by omega
  have h8 : n = 0 ∨ n = 1 ∨ n = 2 ∨ n = 3 ∨ n = 4 ∨ n = 5 ∨ n = 6 ∨ n = 7 := by omega
  unfold wp_X12_seam
  rw [lim0_r hR.st]
  refine ⟨lim0_s, rfind_ok hr hR.st (fun m2 m3 f q s1 s2 s3 hS hl => ?_)⟩
  show (if _ then _ else _)
  rw [if_neg (fun z => (rhas_0 hS hl).mp z cx), if_neg (in_ne (by omega) (by omega)), ei, show (9 : Int32) * nI i = nI (9 * i) from nI_mul 9 i]
  rintro y5 rfl
  obtain ⟨r0, r1, r2, r3, r4, r5, r6, r7, r8⟩ := hS.2 i s es
  have ec2 : ∀ a : Nat, a < 9 → (nI (9 * i + a)).toNatClampNeg = 9 * i + a := fun a ha => clamp_nI (by omega)
  have ev : ∀ a : Nat, a < 9 → vp_in (nI (9 * i + a)) 6480 := fun a ha => vp_in_nI (by omega) (by omega)
  have k2 := k1 _ (RefR_FQ hR f q) (low_FQ f q)
  have ne : ∀ a b : Nat, a ≠ b → a < 8 → b < 8 → ¬ nI a = nI b := fun a b h1 h2 h3 => ine h1 (by omega) (by omega)
  rw [en]
  rcases h8 with z | z | z | z | z | z | z | z <;> subst z
  · rw [xSv0] at k2
    rw [if_neg (show ¬ nI 0 = (4 : Int32) from dn7 0 4 (by omega) (by omega) (by omega)), if_neg (show ¬ nI 0 = (5 : Int32) from dn7 0 5 (by omega) (by omega) (by omega)), if_neg (show ¬ nI 0 = (6 : Int32) from dn7 0 6 (by omega) (by omega) (by omega)), if_neg (show ¬ nI 0 = (7 : Int32) from dn7 0 7 (by omega) (by omega) (by omega)), nI_add, ec2 0 (by omega)]
    refine ⟨ev 0 (by omega), ?_⟩
    rw [show m3.1 446 (9 * i + 0) = nI s.1 from r0]; exact k2
  · rw [xSv1] at k2
    rw [if_neg (show ¬ nI 1 = (4 : Int32) from dn7 1 4 (by omega) (by omega) (by omega)), if_neg (show ¬ nI 1 = (5 : Int32) from dn7 1 5 (by omega) (by omega) (by omega)), if_neg (show ¬ nI 1 = (6 : Int32) from dn7 1 6 (by omega) (by omega) (by omega)), if_neg (show ¬ nI 1 = (7 : Int32) from dn7 1 7 (by omega) (by omega) (by omega)), nI_add, ec2 1 (by omega), r1]
    exact ⟨ev 1 (by omega), k2⟩
  · rw [xSv2] at k2
    rw [if_neg (show ¬ nI 2 = (4 : Int32) from dn7 2 4 (by omega) (by omega) (by omega)), if_neg (show ¬ nI 2 = (5 : Int32) from dn7 2 5 (by omega) (by omega) (by omega)), if_neg (show ¬ nI 2 = (6 : Int32) from dn7 2 6 (by omega) (by omega) (by omega)), if_neg (show ¬ nI 2 = (7 : Int32) from dn7 2 7 (by omega) (by omega) (by omega)), nI_add, ec2 2 (by omega), r2]
    exact ⟨ev 2 (by omega), k2⟩
  · rw [xSv3] at k2
    rw [if_neg (show ¬ nI 3 = (4 : Int32) from dn7 3 4 (by omega) (by omega) (by omega)), if_neg (show ¬ nI 3 = (5 : Int32) from dn7 3 5 (by omega) (by omega) (by omega)), if_neg (show ¬ nI 3 = (6 : Int32) from dn7 3 6 (by omega) (by omega) (by omega)), if_neg (show ¬ nI 3 = (7 : Int32) from dn7 3 7 (by omega) (by omega) (by omega)), nI_add, ec2 3 (by omega), r3]
    exact ⟨ev 3 (by omega), k2⟩
  · rw [xSv4] at k2
    rw [if_pos (show nI 4 = (4 : Int32) from rfl), show nI (9 * i) + (6 : Int32) = nI (9 * i + 6) from nI_add _ 6, show nI (9 * i) + (5 : Int32) = nI (9 * i + 5) from nI_add _ 5, ec2 6 (by omega), ec2 5 (by omega), r5, r6]
    exact ⟨ev 6 (by omega), ev 5 (by omega), k2⟩
  · rw [xSv5] at k2
    rw [if_neg (show ¬ nI 5 = (4 : Int32) from dn7 5 4 (by omega) (by omega) (by omega)), if_pos (show nI 5 = (5 : Int32) from rfl), nI_add, show nI (9 * i + 5) + (2 : Int32) = nI (9 * i + 5 + 2) from nI_add _ 2, show 9 * i + 5 + 2 = 9 * i + 7 by omega, ec2 7 (by omega), r7]
    exact ⟨ev 7 (by omega), k2⟩
  · rw [xSv6] at k2
    rw [if_neg (show ¬ nI 6 = (4 : Int32) from dn7 6 4 (by omega) (by omega) (by omega)), if_neg (show ¬ nI 6 = (5 : Int32) from dn7 6 5 (by omega) (by omega) (by omega)), if_pos (show nI 6 = (6 : Int32) from rfl), nI_add, show nI (9 * i + 6) + (2 : Int32) = nI (9 * i + 6 + 2) from nI_add _ 2, show 9 * i + 6 + 2 = 9 * i + 8 by omega, ec2 8 (by omega), r8]
    exact ⟨ev 8 (by omega), k2⟩
  · rw [xSv7] at k2
    rw [if_neg (show ¬ nI 7 = (4 : Int32) from dn7 7 4 (by omega) (by omega) (by omega)), if_neg (show ¬ nI 7 = (5 : Int32) from dn7 7 5 (by omega) (by omega) (by omega)), if_neg (show ¬ nI 7 = (6 : Int32) from dn7 7 6 (by omega) (by omega) (by omega)), if_pos (show nI 7 = (7 : Int32) from rfl)]
    exact rmis_ok hr s1 s2 s3 hS hl es k2
theorem op_seam {m : Mm} {S : AS} {x y : Int32} {P : Int32 → Int32 → Mm → Prop} (h : Sim m S) (kk : ∀ r m2 S2, Sim m2 S2 → P r r m2) : wp_X11_seam x y m (fun r m1 => wp_X12_seam x y m1 (fun r2 m2 => P r r2 m2)) := by
  have hI := h.2.2
  have hC := h.2.1
  have hD := hI.1
  have hr := hD.r
  have hp := hD.ple
  have a0 : (0 : Int32).toInt = 0 := rfl
  have a7 : (7 : Int32).toInt = 7 := rfl
  by_cases c1 : (0 ≤ x.toInt ∧ x.toInt < (seamL (sg S) (angM (sg S) (-1)) (sg S 125)).length) ∧ (0 ≤ y.toInt ∧ y.toInt ≤ 7)
  · obtain ⟨cx, cy⟩ := c1
    obtain ⟨i, ei, ei2, -⟩ := asN cx.1
    obtain ⟨n, en, en2, -⟩ := asN cy.1
    have hi : i < (seamL (sg S) (angM (sg S) (-1)) (sg S 125)).length := by omega
    obtain ⟨s, es⟩ : ∃ s, (seamL (sg S) (angM (sg S) (-1)) (sg S 125))[i]? = some s := ⟨_, List.getElem?_eq_getElem hi⟩
    have h8 : n = 0 ∨ n = 1 ∨ n = 2 ∨ n = 3 ∨ n = 4 ∨ n = 5 ∨ n = 6 ∨ n = 7 := by omega
    refine combine (c := wp_X11_seam x y m) (d := wp_X12_seam x y) (r := xSv (sg S) (angM (sg S) (-1)) s n) (S2 := S) h (fun K k1 => ?_) (fun m1 K hR k1 => ?_) hI kk
    · exact seam_cls hI hC cx cy ei ei2 en en2 es k1
    · exact seam_ref hI hR cx cy ei ei2 en en2 es k1
  · refine combine (c := wp_X11_seam x y m) (d := wp_X12_seam x y) (r := -1) (S2 := S) h (fun K k1 => ?_) (fun m1 K hR k1 => ?_) hI kk
    · unfold wp_X11_seam
      refine cseams_ok hI hC (fun m2 f hF hS hl => ?_)
      have k2 := k1 _ (ClsR_W hI hC f) (up_W f)
      show (if _ then _ else _)
      by_cases q1 : 0 ≤ x.toInt ∧ x.toInt < (seamL (sg S) (angM (sg S) (-1)) (sg S 125)).length
      · rw [if_neg (fun z => (shas_0 hS hl).mp z q1)]
        by_cases q2 : y < 0
        · rw [if_pos q2]; exact k2
        rw [if_neg q2]
        rw [fa_lt] at q2
        rw [if_neg (by rw [fa_le]; omega)]; exact k2
      · rw [if_pos ((shas_0 hS hl).mpr q1)]; exact k2
    · unfold wp_X12_seam
      rw [lim0_r hR.st]
      refine ⟨lim0_s, rfind_ok hr hR.st (fun m2 m3 f q s1 s2 s3 hS hl => ?_)⟩
      have k2 := k1 _ (RefR_FQ hR f q) (low_FQ f q)
      show (if _ then _ else _)
      by_cases q1 : 0 ≤ x.toInt ∧ x.toInt < (seamL (sg S) (angM (sg S) (-1)) (sg S 125)).length
      · rw [if_neg (fun z => (rhas_0 hS hl).mp z q1), if_pos (in_0 (by omega))]; exact k2
      · rw [if_pos ((rhas_0 hS hl).mpr q1)]; exact k2
