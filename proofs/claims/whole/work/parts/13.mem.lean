theorem u_ws_good {C : String} {T : u_T} {N : Nat} : ∀ z ∈ u_ws C T N, goodWord z = true := by
  intro z hz
  obtain ⟨k, -, rfl⟩ := List.mem_map.mp hz
  unfold u_lay
  split <;> rfl
/-- a field of a class by a place of a constant pool -/
def FOk (own : String) (index ci k : Nat) (fin : Bool) (t : FieldType) : Prop := ∃ (C : String) (T : u_T) (N : Nat) (ty : Nat → FieldType), vwCl[ci]? = some (C, T, N) ∧ (∀ z ∈ u_ws C T N, z ∈ lw_tbl) ∧ (∀ j, j < N → parseFieldDescriptor (T j).2.2.1 = some (ty j)) ∧ (∀ a, a < N → ∀ b, b < N → a ≠ b → (T a).2.1 ≠ (T b).2.1) ∧ k < N ∧ Cond.fieldLink own index (T k).1 (T k).2.1 (T k).2.2.1 ∈ lw_tbl ∧ (T k).2.2.2 = fin ∧ ty k = t ∧ (T k).1 = C
theorem ce_obj {G : GT} {w : Mf} {a c : Nat} (hc : kap a = c) (h : c < 20) : ce G w a = .inr (c, fvs w a) := by
  unfold ce
  rw [if_pos (by omega), hc]
theorem ce_int {G : GT} {w : Mf} {a n : Nat} (hc : kap a = 20) (hn : len a = n) : ce G w a = .inl (G.2.2.2.1 0, n, .inl (w.1.1 a)) := by
  unfold ce
  rw [if_neg (by omega), if_pos (by omega), hc, hn]
theorem ce_boo {G : GT} {w : Mf} {a n : Nat} (hc : kap a = 21) (hn : len a = n) : ce G w a = .inl (G.2.2.2.1 1, n, .inl (w.1.1 a)) := by
  unfold ce
  rw [if_neg (by omega), if_pos (by omega), hc, hn]
theorem ce_lon {G : GT} {w : Mf} {a n : Nat} (hc : kap a = 22) (hn : len a = n) : ce G w a = .inl (G.2.2.2.1 2, n, .inr (.inl (w.1.2 a))) := by
  unfold ce
  rw [if_neg (by omega), if_neg (by omega), if_pos (by omega), hn]
theorem ce_ref {G : GT} {w : Mf} {a n t : Nat} (hc : kap a = 23 + t) (hn : len a = n) : ce G w a = .inl (G.2.2.2.1 (3 + t), n, .inr (.inr (.inr (.inr (fun i => (w.2.1 a i).map w.2.2.2))))) := by
  unfold ce
  rw [if_neg (by omega), if_neg (by omega), if_neg (by omega), hc, hn, show 23 + t - 20 = 3 + t by omega]
theorem lw_okts {X : XT} {cc : ByteArray} {nL : Nat} {own : String} {rm : Room} (hX : Cx X cc nL own rm) {z : Cond} (h : z ∈ lw_tbl) (hg : goodWord z = true) : z.before (xa X) (xs X) = true := hX.2.2.2.2.1 z (lw_in h hg)
section JM
variable {X : XT} {q : Nat × Nat} {pc : Nat} {lv : List (Nat × Value)} {st : List Value} {w : Mf} {cc : ByteArray} {nL : Nat} {own : String} {rm : Room} {index ci k a : Nat} {fin : Bool} {t : FieldType}
theorem J_getG (hX : Cx X cc nL own rm) (F : FOk own index ci k fin t) (hd : decode cc pc = .ok (.getfield index, 3)) (hka : kap a = ci) (hci : ci < 20) {s : Nat} (hs : (fty ci)[k]? = some s) (ha : a < w.2.2.1) {r : Nat} (hr : w.2.2.2 a = r) {v : Value} (hv : fv w a k s = v) (kk : J X q (pc + 3) lv (v :: st) w) : J X q pc lv (.ref r :: st) w := by
  intro H ls locs hw hl hS
  obtain ⟨C, T, N, ty, hc, hin, hty, hnm, hk, hlink, hfin, ht, hC⟩ := F
  subst hr
  have he : (wsO X.1 w)[a]? = some (w.2.2.2 a, .inr (ci, fvs w a)) := by rw [wsO_at ha, ce_obj hka hci]
  exact va_get hX.1 hX.2.1 hX.2.2.2.2.1 (fun z hz => lw_in (hin z hz) (u_ws_good z hz)) hX.2.2.2.1 hX.2.2.2.2.2.1 hw.1 a he hc k hk (lw_okts hX hlink rfl) (fun x h => h) (by rw [fvs_at hka hs, hv]) hd (kk H ls locs hw hl hS)
theorem J_putG (hX : Cx X cc nL own rm) (F : FOk own index ci k false t) (hd : decode cc pc = .ok (.putfield index, 3)) (hka : kap a = ci) (hci : ci < 20) {s : Nat} (hs : (fty ci)[k]? = some s) (ha : a < w.2.2.1) {r : Nat} (hr : w.2.2.2 a = r) {v : Value} (hn : narrow t v = v) (hf : fits t v = true) {w2 : Mf} (h2 : w2.2.2 = w.2.2) (hv : fv w2 a k s = v) (ho : ∀ j u, j ≠ k → fv w2 a j u = fv w a j u) (hb : ∀ b, b ≠ a → ce X.1 w2 b = ce X.1 w b) (kk : J X q (pc + 3) lv st w2) : J X q pc lv (v :: .ref r :: st) w := by
  intro H ls locs hw hl hS
  obtain ⟨C, T, N, ty, hc, hin, hty, hnm, hk, hlink, hfin, ht, hC⟩ := F
  subst hr
  have he : (wsO X.1 w)[a]? = some (w.2.2.2 a, .inr (ci, fvs w a)) := by rw [wsO_at ha, ce_obj hka hci]
  have hset : (wsO X.1 w).set a (w.2.2.2 a, .inr (ci, (fvs w a).set k v)) = wsO X.1 w2 := by
    rw [fvs_set (w' := w2) v (fun u hu => by rw [hka, hs] at hu; cases hu; exact hv) ho, ← ce_obj (G := X.1) hka hci]
    exact wsO_set h2 hb
  have hlk : k < (fvs w a).length := by
    have h3 := fvs_at (w := w) hka hs
    exact (List.getElem?_eq_some_iff.mp h3).1
  refine va_put hX.1 hX.2.1 hX.2.2.2.2.1 (fun z hz => lw_in (hin z hz) (u_ws_good z hz)) ty hty hnm hX.2.2.2.1 hX.2.2.2.2.2.1 hw.1 hw.2 hS a he hc k hk (lw_okts hX hlink rfl) (fun x h => h) hfin (ty := t) (by rw [hty k hk, ht]) hn hf hlk hd (fun H1 locs1 hP hD hS1 => ?_)
  rw [hset] at hP hD
  exact kk H1 ls locs1 ⟨hP, hD⟩ hl hS1
end JM
theorem fl_up {ad : Nat → Nat} {m : Mm} {a k : Nat} {x : Int32} : (fl ad (wI m a k x)).1.1 = upI m.1 a k x := rfl
theorem upI_s (f : Nat → Nat → Int32) (a k : Nat) (x : Int32) : upI f a k x a k = x := by simp [upI]
theorem upI_j (f : Nat → Nat → Int32) (a k : Nat) (x : Int32) {j : Nat} (h : j ≠ k) : upI f a k x a j = f a j := by simp [upI, h]
theorem upI_b (f : Nat → Nat → Int32) (a k : Nat) (x : Int32) {b : Nat} (h : b ≠ a) : upI f a k x b = f b := by funext j; simp [upI, h]
theorem upI_a (f : Nat → Nat → Int32) (a k : Nat) (x : Int32) : upI f a k x a = upd (f a) k x := by funext j; simp [upI, upd]
theorem upL_s (f : Nat → Nat → Int64) (a k : Nat) (x : Int64) : upL f a k x a k = x := by simp [upL]
theorem upL_j (f : Nat → Nat → Int64) (a k : Nat) (x : Int64) {j : Nat} (h : j ≠ k) : upL f a k x a j = f a j := by simp [upL, h]
theorem upL_b (f : Nat → Nat → Int64) (a k : Nat) (x : Int64) {b : Nat} (h : b ≠ a) : upL f a k x b = f b := by funext j; simp [upL, h]
theorem upL_a (f : Nat → Nat → Int64) (a k : Nat) (x : Int64) : upL f a k x a = vp_updL (f a) k x := by funext j; simp [upL, vp_updL]
theorem ce_wI {G : GT} {ad : Nat → Nat} {m : Mm} {a k b : Nat} {x : Int32} (h : b ≠ a) : ce G (fl ad (wI m a k x)) b = ce G (fl ad m) b := ce_fo (upI_b _ _ _ _ h) rfl rfl rfl
theorem ce_wL {G : GT} {ad : Nat → Nat} {m : Mm} {a k b : Nat} {x : Int64} (h : b ≠ a) : ce G (fl ad (wL m a k x)) b = ce G (fl ad m) b := ce_fo rfl (upL_b _ _ _ _ h) rfl rfl
theorem fits_int (x : Int32) : fits .int (.int x) = true := by simp [fits]
theorem fits_boo (x : Int32) (h : bo x) : fits .boolean (.int x) = true := by rcases h with rfl | rfl <;> decide
theorem fits_lon (x : Int64) : fits .long (.long x) = true := by simp [fits]
section JN
variable {X : XT} {q : Nat × Nat} {pc : Nat} {lv : List (Nat × Value)} {st : List Value} {cc : ByteArray} {nL : Nat} {own : String} {rm : Room} {index ci k a n : Nat} {fin : Bool} {t : FieldType} {ad : Nat → Nat} {m : Mm}
theorem J_getI (hX : Cx X cc nL own rm) (F : FOk own index ci k fin t) (hd : decode cc pc = .ok (.getfield index, 3)) (hka : kap a = ci) (hci : ci < 20) (hs : (fty ci)[k]? = some 0) (kk : J X q (pc + 3) lv (.int (m.1 a k) :: st) (fl ad m)) : J X q pc lv (.ref (ad a) :: st) (fl ad m) :=
  J_getG hX F hd hka hci hs (kap_lt hka (by omega)) rfl rfl kk
theorem J_getL (hX : Cx X cc nL own rm) (F : FOk own index ci k fin t) (hd : decode cc pc = .ok (.getfield index, 3)) (hka : kap a = ci) (hci : ci < 20) (hs : (fty ci)[k]? = some 1) (kk : J X q (pc + 3) lv (.long (m.2 a k) :: st) (fl ad m)) : J X q pc lv (.ref (ad a) :: st) (fl ad m) :=
  J_getG hX F hd hka hci hs (kap_lt hka (by omega)) rfl rfl kk
theorem J_getR (hX : Cx X cc nL own rm) (F : FOk own index ci k fin t) (hd : decode cc pc = .ok (.getfield index, 3)) (hka : kap a = ci) (hci : ci < 20) (hs : (fty ci)[k]? = some 2) {b : Nat} (hb : RF a k = some b) (kk : J X q (pc + 3) lv (.ref (ad b) :: st) (fl ad m)) : J X q pc lv (.ref (ad a) :: st) (fl ad m) :=
  J_getG hX F hd hka hci hs (kap_lt hka (by omega)) rfl (by show va_rf ((RF a k).map ad) = _; rw [hb]; rfl) kk
theorem J_putI (hX : Cx X cc nL own rm) (F : FOk own index ci k false .int) (hd : decode cc pc = .ok (.putfield index, 3)) (hka : kap a = ci) (hci : ci < 20) (hs : (fty ci)[k]? = some 0) {x : Int32} (kk : J X q (pc + 3) lv st (fl ad (wI m a k x))) : J X q pc lv (.int x :: .ref (ad a) :: st) (fl ad m) := by
  refine J_putG hX F hd hka hci hs (kap_lt hka (by omega)) rfl rfl (fits_int x) (w2 := fl ad (wI m a k x)) rfl ?_ (fun j u hj => ?_) (fun b hb => ce_wI hb) kk
  · show Value.int (upI m.1 a k x a k) = _
    rw [upI_s]
  · unfold fv
    rw [fl_up, upI_j _ _ _ _ hj]
    rfl
theorem J_putZ (hX : Cx X cc nL own rm) (F : FOk own index ci k false .boolean) (hd : decode cc pc = .ok (.putfield index, 3)) (hka : kap a = ci) (hci : ci < 20) (hs : (fty ci)[k]? = some 0) {x : Int32} (hx : bo x) (kk : J X q (pc + 3) lv st (fl ad (wI m a k x))) : J X q pc lv (.int x :: .ref (ad a) :: st) (fl ad m) := by
  refine J_putG hX F hd hka hci hs (kap_lt hka (by omega)) rfl (by show Value.int (x &&& 1) = _; rw [bo_and hx]) (fits_boo x hx) (w2 := fl ad (wI m a k x)) rfl ?_ (fun j u hj => ?_) (fun b hb => ce_wI hb) kk
  · show Value.int (upI m.1 a k x a k) = _
    rw [upI_s]
  · unfold fv
    rw [fl_up, upI_j _ _ _ _ hj]
    rfl
theorem J_putL (hX : Cx X cc nL own rm) (F : FOk own index ci k false .long) (hd : decode cc pc = .ok (.putfield index, 3)) (hka : kap a = ci) (hci : ci < 20) (hs : (fty ci)[k]? = some 1) {x : Int64} (kk : J X q (pc + 3) lv st (fl ad (wL m a k x))) : J X q pc lv (.long x :: .ref (ad a) :: st) (fl ad m) := by
  refine J_putG hX F hd hka hci hs (kap_lt hka (by omega)) rfl rfl (fits_lon x) (w2 := fl ad (wL m a k x)) rfl ?_ (fun j u hj => ?_) (fun b hb => ce_wL hb) kk
  · show Value.long (upL m.2 a k x a k) = _
    rw [upL_s]
  · unfold fv
    show (if u = 0 then _ else if u = 1 then Value.long (upL m.2 a k x a j) else _) = _
    rw [upL_j _ _ _ _ hj]
    rfl
theorem wsO_fl {G : GT} {c : Nat} (hka : kap a = c) (hc : c < 99) : (wsO G (fl ad m))[a]? = some (ad a, ce G (fl ad m) a) := wsO_at (kap_lt hka hc)
theorem J_iald (hX : Cx X cc nL own rm) (hd : decode cc pc = .ok (.iaload, 1)) (hka : kap a = 20) (hn : len a = n) {i : Int32} (hin : vp_in i n) {j : Nat} (hj : i.toNatClampNeg = j) (kk : J X q (pc + 1) lv (.int (m.1 a j) :: st) (fl ad m)) : J X q pc lv (.int i :: .ref (ad a) :: st) (fl ad m) := by
  subst hj
  exact fun H ls locs hw hl hS =>
  va_iald hX.1 hX.2.1 hX.2.2.2.2.2.1 hw.1 a 0 ((wsO_fl hka (by omega)).trans (by rw [ce_int hka hn]; rfl)) rfl hin hd (kk H ls locs hw hl hS)
theorem J_zald (hX : Cx X cc nL own rm) (hd : decode cc pc = .ok (.baload, 1)) (hka : kap a = 21) (hn : len a = n) {i : Int32} (hin : vp_in i n) {j : Nat} (hj : i.toNatClampNeg = j) (kk : J X q (pc + 1) lv (.int (m.1 a j) :: st) (fl ad m)) : J X q pc lv (.int i :: .ref (ad a) :: st) (fl ad m) := by
  subst hj
  exact fun H ls locs hw hl hS =>
  va_zald hX.1 hX.2.1 hX.2.2.2.2.2.1 hw.1 a 1 ((wsO_fl hka (by omega)).trans (by rw [ce_boo hka hn]; rfl)) rfl hin hd (kk H ls locs hw hl hS)
theorem J_lald (hX : Cx X cc nL own rm) (hd : decode cc pc = .ok (.laload, 1)) (hka : kap a = 22) (hn : len a = n) {i : Int32} (hin : vp_in i n) {j : Nat} (hj : i.toNatClampNeg = j) (kk : J X q (pc + 1) lv (.long (m.2 a j) :: st) (fl ad m)) : J X q pc lv (.int i :: .ref (ad a) :: st) (fl ad m) := by
  subst hj
  exact fun H ls locs hw hl hS =>
  va_lald hX.1 hX.2.1 hX.2.2.2.2.2.1 hw.1 a 2 ((wsO_fl hka (by omega)).trans (by rw [ce_lon hka hn]; rfl)) rfl hin hd (kk H ls locs hw hl hS)
theorem J_aald (hX : Cx X cc nL own rm) (hd : decode cc pc = .ok (.aaload, 1)) {u : Nat} (hu : u < 3) (hka : kap a = 23 + u) (hn : len a = n) {i : Int32} (hin : vp_in i n) {b : Nat} (hb : RF a i.toNatClampNeg = some b) (kk : J X q (pc + 1) lv (.ref (ad b) :: st) (fl ad m)) : J X q pc lv (.int i :: .ref (ad a) :: st) (fl ad m) := by
  intro H ls locs hw hl hS
  have he := (wsO_fl (G := X.1) (m := m) (ad := ad) hka (by omega)).trans (by rw [ce_ref hka hn])
  have hr : va_rf ((fl ad m).2.1 a i.toNatClampNeg |>.map (fl ad m).2.2.2) = .ref (ad b) := by show va_rf ((RF a i.toNatClampNeg).map ad) = _; rw [hb]; rfl
  rcases (show u = 0 ∨ u = 1 ∨ u = 2 by omega) with rfl | rfl | rfl
  · exact va_aldq hX.1 hX.2.1 hX.2.2.2.2.2.1 hw.1 a 3 he rfl hin hd (by rw [hr]; exact kk H ls locs hw hl hS)
  · exact va_aldq hX.1 hX.2.1 hX.2.2.2.2.2.1 hw.1 a 4 he rfl hin hd (by rw [hr]; exact kk H ls locs hw hl hS)
  · exact va_aldq hX.1 hX.2.1 hX.2.2.2.2.2.1 hw.1 a 5 he rfl hin hd (by rw [hr]; exact kk H ls locs hw hl hS)
theorem J_aaldA (hX : Cx X cc nL own rm) (hd : decode cc pc = .ok (.aaload, 1)) (hka : kap a = 26) (hn : len a = n) {i : Int32} (hin : vp_in i n) {b : Nat} (hb : RF a i.toNatClampNeg = some b) (kk : J X q (pc + 1) lv (.ref (ad b) :: st) (fl ad m)) : J X q pc lv (.int i :: .ref (ad a) :: st) (fl ad m) := by
  intro H ls locs hw hl hS
  have he := (wsO_fl (G := X.1) (m := m) (ad := ad) hka (by omega)).trans (by rw [ce_ref (t := 3) hka hn])
  have hlt : i.toNatClampNeg < n := Nat.not_le.mp fun z => hin (Or.inr z)
  have hr : va_rf ((fl ad m).2.1 a i.toNatClampNeg |>.map (fl ad m).2.2.2) = .ref (ad b) := by show va_rf ((RF a i.toNatClampNeg).map ad) = _; rw [hb]; rfl
  exact W.aald (v := .ref (ad b)) (ty := .array .int) hX.1 hX.2.1 (hw.1 a _ he) ((hX.2.2.2.2.2.1.2 6 (X.1.2.2.2.1 6, .array .int) rfl).1 n _) rfl (fun z => by cases z) (by show ¬ (i < 0 ∨ (arrV _ _ _).slots.size ≤ _); rw [arrV_size]; exact hin) (by show (arrV _ _ _).slots[_]? = _; rw [arrV_read _ _ hlt, hr]) rfl rfl hd (kk H ls locs hw hl hS)
theorem J_iast (hX : Cx X cc nL own rm) (hd : decode cc pc = .ok (.iastore, 1)) (hka : kap a = 20) (hn : len a = n) {i x : Int32} (hin : vp_in i n) {j : Nat} (hj : i.toNatClampNeg = j) (kk : J X q (pc + 1) lv st (fl ad (wI m a j x))) : J X q pc lv (.int x :: .int i :: .ref (ad a) :: st) (fl ad m) := by
  subst hj
  intro H ls locs hw hl hS
  refine va_iast hX.1 hX.2.1 hX.2.2.2.2.2.1 hw.1 hw.2 hS a 0 ((wsO_fl hka (by omega)).trans (by rw [ce_int hka hn])) rfl hin hd (fun H1 locs1 hP hD hS1 => ?_)
  have hset : (wsO X.1 (fl ad m)).set a (ad a, .inl (X.1.2.2.2.1 0, n, .inl (upd ((fl ad m).1.1 a) i.toNatClampNeg x))) = wsO X.1 (fl ad (wI m a i.toNatClampNeg x)) := by
    rw [← wsO_set (G := X.1) (w := fl ad m) (w' := fl ad (wI m a i.toNatClampNeg x)) (a := a) rfl (fun b hb => ce_wI hb), ce_int hka hn, fl_up, upI_a]
    rfl
  rw [hset] at hP hD
  exact kk H1 ls locs1 ⟨hP, hD⟩ hl hS1
theorem J_zast (hX : Cx X cc nL own rm) (hd : decode cc pc = .ok (.bastore, 1)) (hka : kap a = 21) (hn : len a = n) {i x : Int32} (hin : vp_in i n) (hx : bo x) {j : Nat} (hj : i.toNatClampNeg = j) (kk : J X q (pc + 1) lv st (fl ad (wI m a j x))) : J X q pc lv (.int x :: .int i :: .ref (ad a) :: st) (fl ad m) := by
  subst hj
  intro H ls locs hw hl hS
  refine va_zast hX.1 hX.2.1 hX.2.2.2.2.2.1 hw.1 hw.2 hS a 1 ((wsO_fl hka (by omega)).trans (by rw [ce_boo hka hn])) rfl hin hd (fun H1 locs1 hP hD hS1 => ?_)
  have hset : (wsO X.1 (fl ad m)).set a (ad a, .inl (X.1.2.2.2.1 1, n, .inl (upd ((fl ad m).1.1 a) i.toNatClampNeg (vp_nar .boolean x)))) = wsO X.1 (fl ad (wI m a i.toNatClampNeg x)) := by
    rw [← wsO_set (G := X.1) (w := fl ad m) (w' := fl ad (wI m a i.toNatClampNeg x)) (a := a) rfl (fun b hb => ce_wI hb), ce_boo hka hn, fl_up, upI_a, show vp_nar .boolean x = x from bo_and hx]
    rfl
  rw [hset] at hP hD
  exact kk H1 ls locs1 ⟨hP, hD⟩ hl hS1
theorem J_last (hX : Cx X cc nL own rm) (hd : decode cc pc = .ok (.lastore, 1)) (hka : kap a = 22) (hn : len a = n) {i : Int32} {x : Int64} (hin : vp_in i n) {j : Nat} (hj : i.toNatClampNeg = j) (kk : J X q (pc + 1) lv st (fl ad (wL m a j x))) : J X q pc lv (.long x :: .int i :: .ref (ad a) :: st) (fl ad m) := by
  subst hj
  intro H ls locs hw hl hS
  refine va_last hX.1 hX.2.1 hX.2.2.2.2.2.1 hw.1 hw.2 hS a 2 ((wsO_fl hka (by omega)).trans (by rw [ce_lon hka hn])) rfl hin hd (fun H1 locs1 hP hD hS1 => ?_)
  have hset : (wsO X.1 (fl ad m)).set a (ad a, .inl (X.1.2.2.2.1 2, n, .inr (.inl (vp_updL ((fl ad m).1.2 a) i.toNatClampNeg x)))) = wsO X.1 (fl ad (wL m a i.toNatClampNeg x)) := by
    rw [← wsO_set (G := X.1) (w := fl ad m) (w' := fl ad (wL m a i.toNatClampNeg x)) (a := a) rfl (fun b hb => ce_wL hb), ce_lon hka hn]
    show _ = (wsO X.1 (fl ad m)).set a (_, .inl (_, _, .inr (.inl (upL m.2 a i.toNatClampNeg x a))))
    rw [upL_a]
    rfl
  rw [hset] at hP hD
  exact kk H1 ls locs1 ⟨hP, hD⟩ hl hS1
theorem J_alen (hX : Cx X cc nL own rm) (hd : decode cc pc = .ok (.arraylength, 1)) {c : Nat} (hka : kap a = c) (hc : c = 20 ∨ c = 21 ∨ c = 22) (hn : len a = n) {v : Int32} (hv : Int32.ofNat n = v) (kk : J X q (pc + 1) lv (.int v :: st) (fl ad m)) : J X q pc lv (.ref (ad a) :: st) (fl ad m) := by
  intro H ls locs hw hl hS
  rcases hc with rfl | rfl | rfl
  · exact va_alen hX.1 hX.2.1 hX.2.2.2.2.2.1 hw.1 a 0 ((wsO_fl hka (by omega)).trans (by rw [ce_int hka hn])) rfl hv hd (kk H ls locs hw hl hS)
  · exact va_alen hX.1 hX.2.1 hX.2.2.2.2.2.1 hw.1 a 1 ((wsO_fl hka (by omega)).trans (by rw [ce_boo hka hn])) rfl hv hd (kk H ls locs hw hl hS)
  · exact va_alen hX.1 hX.2.1 hX.2.2.2.2.2.1 hw.1 a 2 ((wsO_fl hka (by omega)).trans (by rw [ce_lon hka hn])) rfl hv hd (kk H ls locs hw hl hS)
end JN
section JS
variable {X : XT} {q : Nat × Nat} {pc : Nat} {lv : List (Nat × Value)} {st : List Value} {w : Mf} {cc : ByteArray} {nL : Nat} {own : String} {rm : Room} {index k : Nat}
theorem J_gets (hX : Cx X cc nL own rm) (hd : decode cc pc = .ok (.getstatic index, 3)) (hk : k < 4) (hl0 : Cond.fieldLink own index (szC k).1 (szC k).2 "[I" ∈ lw_tbl) (kk : J X q (pc + 3) lv (.ref (X.1.2.2.2.2 k) :: st) w) : J X q pc lv st w := fun H ls locs hw hl hS =>
  va_gets hX.1 hX.2.1 (hX.2.2.2.2.2.2.1 k hk).1 hS hX.2.2.2.1 (lw_okts hX hl0 rfl) (fun x h => h) hd (kk H ls locs hw hl hS)
theorem J_getsN (hX : Cx X cc nL own rm) (hd : decode cc pc = .ok (.getstatic index, 3)) (hk : k < 4) {host : String} (hl0 : Cond.fieldLinkNest own index (szC k).1 (szC k).2 "[I" host ∈ lw_tbl) (kk : J X q (pc + 3) lv (.ref (X.1.2.2.2.2 k) :: st) w) : J X q pc lv st w := fun H ls locs hw hl hS =>
  va_getsN hX.1 hX.2.1 (hX.2.2.2.2.2.2.1 k hk).1 hS hX.2.2.2.1 (va_Nw.use rfl (hX.2.2.2.2.2.2.2.2.1.1 _ (List.mem_filter.mpr ⟨hl0, rfl⟩))) (fun x h => h) hd (kk H ls locs hw hl hS)
theorem J_sald (hX : Cx X cc nL own rm) (hd : decode cc pc = .ok (.iaload, 1)) (hk : k < 4) {i : Int32} (hin : vp_in i 4) (kk : J X q (pc + 1) lv (.int (szv k i.toNatClampNeg) :: st) w) : J X q pc lv (.int i :: .ref (X.1.2.2.2.2 k) :: st) w := fun H ls locs hw hl hS =>
  va_ti hX.1 hX.2.1 (hX.2.2.2.2.2.2.1 k hk).2 hS hin rfl hd (kk H ls locs hw hl hS)
end JS
