/-! the law, call by call -/
theorem ite_i {c : Prop} [Decidable c] {A B : Prop} (h1 : c → A) (h2 : ¬ c → B) : if c then A else B := by
  by_cases h : c
  · rw [if_pos h]; exact h1 h
  · rw [if_neg h]; exact h2 h
theorem law_go {α : Type} [DecidableEq α] {x : α} {A B : Prop} (h : A) : if x = x then A else B := ite_i (fun _ => h) (fun n => absurd rfl n)
theorem law_eq {α : Type} [DecidableEq α] {x y : α} {A B : Prop} (e : x = y) (h : A) : if x = y then A else B := ite_i (fun _ => h) (fun n => absurd e n)
theorem lg_self (x : Int64) : lg_cmp x x = 0 := by
  unfold lg_cmp
  have a : ¬ x < x := fun h => by rw [fa_lt64] at h; omega
  simp only [if_neg a]
  rfl
theorem law_lg {x : Int64} {A B : Prop} (h : A) : if lg_cmp x x = 0 then A else B := ite_i (fun _ => h) (fun n => absurd (lg_self x) n)
theorem law_step {L a : Nat} {sc : Nat → Int32} {rec : Int32 → Mm → Prop} {m : Mm} {S : AS} (hL : L ≤ 3584) (ha : a ≤ 4000) (h : Sim m S) (ih : a + 7 ≤ L → ∀ m2 S2, Sim m2 S2 → rec (nI a + 7) m2) : wb_L_law_l18 L sc rec (fun r _ => r = 1) (nI a) m := by
  unfold wb_L_law_l18
  refine ite_i (fun _ => rfl) (fun h7 => ?_)
  have hc : a + 7 ≤ L := by
    refine Decidable.byContradiction fun z => h7 ?_
    rw [fa_lt, nI_toInt (by omega)]
    have e : (Int32.ofNat L - 7 : Int32).toInt = (L : Int) - 7 := by
      rw [show Int32.ofNat L = nI L from rfl, fb_subI (by rw [nI_toInt (by omega), show (7 : Int32).toInt = 7 from rfl]; omega) (by rw [nI_toInt (by omega), show (7 : Int32).toInt = 7 from rfl]; omega), nI_toInt (by omega)]
      rfl
    rw [e]
    omega
  have ih2 := ih hc
  have V0 : vp_in (nI a) L := vp_in_nI (by omega) (by omega)
  have V1 : vp_in (nI a + 1) L := by rw [nI_1]; exact vp_in_nI (by omega) (by omega)
  have V2 : vp_in (nI a + 2) L := by rw [show nI a + 2 = nI (a + 2) from nI_add a 2]; exact vp_in_nI (by omega) (by omega)
  have V3 : vp_in (nI a + 3) L := by rw [show nI a + 3 = nI (a + 3) from nI_add a 3]; exact vp_in_nI (by omega) (by omega)
  have V4 : vp_in (nI a + 4) L := by rw [show nI a + 4 = nI (a + 4) from nI_add a 4]; exact vp_in_nI (by omega) (by omega)
  have V5 : vp_in (nI a + 5) L := by rw [show nI a + 5 = nI (a + 5) from nI_add a 5]; exact vp_in_nI (by omega) (by omega)
  have V6 : vp_in (nI a + 6) L := by rw [show nI a + 6 = nI (a + 6) from nI_add a 6]; exact vp_in_nI (by omega) (by omega)
  refine ⟨V0, ?_⟩
  refine ite_i (fun _ => ⟨V1, op_type h (fun r m2 S2 h2 => law_go (ih2 m2 S2 h2))⟩) (fun _ => ?_)
  refine ite_i (fun _ => op_clearText h (fun r m2 S2 h2 => law_go (ih2 m2 S2 h2))) (fun _ => ?_)
  refine ite_i (fun _ => op_load h (fun r m2 S2 h2 => law_go (ih2 m2 S2 h2))) (fun _ => ?_)
  refine ite_i (fun _ => law_eq (op_faultKind h) (ih2 m S h)) (fun _ => ?_)
  refine ite_i (fun _ => ⟨V1, V2, op_setSheet h (fun r m2 S2 h2 => law_go (ih2 m2 S2 h2))⟩) (fun _ => ?_)
  refine ite_i (fun _ => ⟨V1, V2, V3, V4, op_setBase h (fun r m2 S2 h2 => law_go (ih2 m2 S2 h2))⟩) (fun _ => ?_)
  refine ite_i (fun _ => ⟨V1, V2, V3, V4, V5, V6, op_addPanel h (fun r m2 S2 h2 => law_go (ih2 m2 S2 h2))⟩) (fun _ => ?_)
  refine ite_i (fun _ => op_removeLast h (fun r m2 S2 h2 => law_go (ih2 m2 S2 h2))) (fun _ => ?_)
  refine ite_i (fun _ => ⟨V1, V2, op_setAngle h (fun r m2 S2 h2 => law_go (ih2 m2 S2 h2))⟩) (fun _ => ?_)
  refine ite_i (fun _ => ⟨V1, V2, V3, op_setSize h (fun r m2 S2 h2 => law_go (ih2 m2 S2 h2))⟩) (fun _ => ?_)
  refine ite_i (fun _ => ⟨V1, V2, op_setFlap h (fun r m2 S2 h2 => law_go (ih2 m2 S2 h2))⟩) (fun _ => ?_)
  refine ite_i (fun _ => ⟨V1, V2, V3, op_defineImage h (fun r m2 S2 h2 => law_go (ih2 m2 S2 h2))⟩) (fun _ => ?_)
  refine ite_i (fun _ => ⟨V1, V2, V3, V4, V5, op_place h (fun r m2 S2 h2 => law_go (ih2 m2 S2 h2))⟩) (fun _ => ?_)
  refine ite_i (fun _ => ⟨V1, op_clearImage h (fun r m2 S2 h2 => law_go (ih2 m2 S2 h2))⟩) (fun _ => ?_)
  refine ite_i (fun _ => ?_) (fun _ => ?_)
  · simp only [forall_eq]
    exact ⟨V1, V2, op_continueImage h (fun r m2 S2 h2 => law_go (ih2 m2 S2 h2))⟩
  refine ite_i (fun _ => ⟨V1, op_spreadImage h (fun r m2 S2 h2 => law_go (ih2 m2 S2 h2))⟩) (fun _ => ?_)
  refine ite_i (fun _ => ⟨V1, V2, op_setLimit h (fun r m2 S2 h2 => law_go (ih2 m2 S2 h2))⟩) (fun _ => ?_)
  refine ite_i (fun _ => ⟨V1, V2, op_setWeight h (fun r m2 S2 h2 => law_go (ih2 m2 S2 h2))⟩) (fun _ => ?_)
  refine ite_i (fun _ => op_undo h (fun r m2 S2 h2 => law_go (ih2 m2 S2 h2))) (fun _ => ?_)
  refine ite_i (fun _ => ⟨V1, op_save h (fun r m2 S2 h2 => law_go (ih2 m2 S2 h2))⟩) (fun _ => ?_)
  refine ite_i (fun _ => ⟨V1, op_restore h (fun r m2 S2 h2 => law_go (ih2 m2 S2 h2))⟩) (fun _ => ?_)
  refine ite_i (fun _ => ⟨V1, V2, op_flat h (fun m2 S2 h2 => law_go (ih2 m2 S2 h2))⟩) (fun _ => ?_)
  refine ite_i (fun _ => op_cutLength h (fun r m2 S2 h2 => law_go (ih2 m2 S2 h2))) (fun _ => ?_)
  refine ite_i (fun _ => op_creaseLength h (fun r m2 S2 h2 => law_go (ih2 m2 S2 h2))) (fun _ => ?_)
  refine ite_i (fun _ => ?_) (fun _ => ?_)
  · simp only [forall_eq]
    exact ⟨V1, V2, V3, op_pitch h (fun r m2 S2 h2 => law_go (ih2 m2 S2 h2))⟩
  refine ite_i (fun _ => ⟨V1, V2, op_rowCount h (fun r m2 S2 h2 => law_go (ih2 m2 S2 h2))⟩) (fun _ => ?_)
  refine ite_i (fun _ => ⟨V1, V2, V3, op_corner h (fun r m2 S2 h2 => law_go (ih2 m2 S2 h2))⟩) (fun _ => ?_)
  refine ite_i (fun _ => ⟨V1, op_facing h (fun r m2 S2 h2 => law_go (ih2 m2 S2 h2))⟩) (fun _ => ?_)
  refine ite_i (fun _ => ⟨V1, V2, op_openLength h (fun r m2 S2 h2 => law_go (ih2 m2 S2 h2))⟩) (fun _ => ?_)
  refine ite_i (fun _ => op_seamCount h (fun r m2 S2 h2 => law_go (ih2 m2 S2 h2))) (fun _ => ?_)
  refine ite_i (fun _ => ⟨V1, V2, op_seam h (fun r m2 S2 h2 => law_go (ih2 m2 S2 h2))⟩) (fun _ => ?_)
  refine ite_i (fun _ => ⟨V1, op_coverage h (fun r m2 S2 h2 => law_go (ih2 m2 S2 h2))⟩) (fun _ => ?_)
  refine ite_i (fun _ => op_volume h (fun r m2 S2 h2 => law_lg (ih2 m2 S2 h2))) (fun _ => ?_)
  refine ite_i (fun _ => op_leastTolerance h (fun r m2 S2 h2 => law_go (ih2 m2 S2 h2))) (fun _ => ?_)
  refine ite_i (fun _ => ⟨V1, op_crossings h (fun r m2 S2 h2 => law_go (ih2 m2 S2 h2))⟩) (fun _ => ?_)
  refine ite_i (fun _ => ⟨V1, op_foldStep h (fun r m2 S2 h2 => law_go (ih2 m2 S2 h2))⟩) (fun _ => ?_)
  refine ite_i (fun _ => ⟨V1, V2, V3, V4, (op_imageAt h).1, law_eq (op_imageAt h).2 (ih2 m S h)⟩) (fun _ => ?_)
  refine ite_i (fun _ => ⟨V1, V2, op_reach h (fun m2 S2 h2 => law_go (ih2 m2 S2 h2))⟩) (fun _ => ?_)
  refine ite_i (fun _ => op_findingCount h (fun r m2 S2 h2 => law_go (ih2 m2 S2 h2))) (fun _ => ?_)
  refine ite_i (fun _ => ⟨V1, V2, op_finding h (fun r m2 S2 h2 => law_go (ih2 m2 S2 h2))⟩) (fun _ => ?_)
  refine ite_i (fun _ => op_totalCost h (fun r m2 S2 h2 => law_lg (ih2 m2 S2 h2))) (fun _ => ?_)
  refine ite_i (fun _ => ⟨V1, op_panelCost h (fun r m2 S2 h2 => law_lg (ih2 m2 S2 h2))⟩) (fun _ => ?_)
  refine ite_i (fun _ => ⟨V1, op_bestDepth h (fun r m2 S2 h2 => law_go (ih2 m2 S2 h2))⟩) (fun _ => ?_)
  refine ite_i (fun _ => ⟨V1, op_bestAngle h (fun r m2 S2 h2 => law_go (ih2 m2 S2 h2))⟩) (fun _ => ?_)
  refine ite_i (fun _ => ⟨V1, op_count h (fun r m2 S2 h2 => law_go (ih2 m2 S2 h2))⟩) (fun _ => ?_)
  exact ih2 m S h
theorem law_loop {L : Nat} {sc : Nat → Int32} (hL : L ≤ 3584) : ∀ n a m S, L < n + a → a ≤ 4000 → Sim m S → wp_L_law_l18 L sc (fun r _ => r = 1) (n + 1) (nI a) m := by
  intro n
  induction n with
  | zero => intro a m S h1 h2 h3; exact law_step hL h2 h3 (fun hc => by omega)
  | succ n ih =>
    intro a m S h1 h2 h3
    refine law_step hL h2 h3 (fun hc m2 S2 h4 => ?_)
    rw [show nI a + 7 = nI (a + 7) from nI_add a 7]
    exact ih (a + 7) m2 S2 (by omega) (by omega) h4
