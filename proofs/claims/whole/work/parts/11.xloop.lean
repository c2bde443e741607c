/-! the component: loops over interpretations and maps -/
def tm_I (d h x : Nat) (F : Nat → List (Nat × Nat)) : Prop := 0 < d ∧ d ≤ 3 ∧ h ≤ 6 ∧ x ≤ 6 ∧ tm_gd F (tm_lv h x)
theorem tm_lvx (h : Nat) {x i : Nat} (hi : i < x) : tm_lv h x (6 + i) := Or.inr ⟨by omega, by omega⟩
theorem tm_cnf {p : Nat → Bool} {i : Nat} (hb : p i = false) : tm_cn p i = tm_cn p (i + 1) := by rw [tm_cn_s, hb]; rfl
theorem tm_cnt {p : Nat → Bool} {i : Nat} (hb : p i = true) : tm_cn p i + 1 = tm_cn p (i + 1) := by rw [tm_cn_s, hb]; rfl
def tm_an (p : Nat → Bool) : Nat → Bool
  | 0 => false
  | n + 1 => tm_an p n || p n
theorem tm_an_s (p : Nat → Bool) (n : Nat) : tm_an p (n + 1) = (tm_an p n || p n) := rfl
theorem tm_an_t {p : Nat → Bool} {n i : Nat} (hi : i < n) (h : p i = true) : tm_an p n = true := by
  induction n with
  | zero => omega
  | succ n ih =>
    rw [tm_an_s]
    by_cases e : i = n
    · subst e; rw [h, Bool.or_true]
    · rw [ih (by omega), Bool.true_or]
theorem tm_an_f {p : Nat → Bool} : ∀ {n : Nat}, (∀ i, i < n → p i = false) → tm_an p n = false := by
  intro n
  induction n with
  | zero => intro _; rfl
  | succ n ih => intro h; rw [tm_an_s, ih (fun i hi => h i (by omega)), h n (by omega)]; rfl
theorem tx_isI0 {post : Int32 → Prop} {d : Nat} {f2 f3 v1 : Int32} {k a l w : Nat → Int32} (h0 : 0 < d) (h3 : d ≤ 3) (hv : v1 < 0 ∨ nI (tm_N d) ≤ v1) (h : post 0) : wpX_isInterpretation post (nI d, f2, f3, k, a, l, w) v1 := by
  unfold wpX_isInterpretation
  refine br_c (fun _ => h) (fun z => tx_int h0 h3 (br_t (hv.resolve_left z) h))
theorem tx_isI1 {post : Int32 → Prop} {d M : Nat} {f2 f3 : Int32} {k a l w : Nat → Int32} (h0 : 0 < d) (h3 : d ≤ 3) (hv : M < tm_N d) (h : post 1) : wpX_isInterpretation post (nI d, f2, f3, k, a, l, w) (nI M) := by
  have hN := tm_N_le d (by omega)
  unfold wpX_isInterpretation
  exact br_f (nI_pos (by omega)) (tx_int h0 h3 (br_f (nI_ge hv (by omega)) h))
theorem tx_models {post : Int32 → SX → Prop} {d h x : Nat} {F : Nat → List (Nat × Nat)} {k a l w : Nat → Int32} (G : tm_I d h x F) (har : tm_ar k a l F (tm_lv h x))
    (hp : ∀ w', post (nI (tm_cn (fun m => tm_sa F x d (-1) (nI m)) (tm_N d))) (nI d, nI h, nI x, k, a, l, w')) : wpX_models post (nI d, nI h, nI x, k, a, l, w) := by
  obtain ⟨h0, h3, hh, hx, hgd⟩ := G
  have hN := tm_N_le d (by omega)
  unfold wpX_models
  refine tx_int h0 h3 ?_
  refine loop_0 (fun n i (s : Int32 × (Nat → Int32)) => wX_models_12 post (nI (tm_N d)) n s.1 (nI i) (nI d) (nI h) (nI x) k a l s.2) (fun i s => s.1 = nI (tm_cn (fun m => tm_sa F x d (-1) (nI m)) i)) (tm_N d) (0, w) rfl ?_ ?_
  · intro n s hs
    obtain ⟨c, w2⟩ := s
    cases (show c = _ from hs)
    exact br_t (nI_le (Nat.le_refl _) (by omega)) (hp w2)
  · intro n i s hi hs kk
    obtain ⟨c, w2⟩ := s
    cases (show c = _ from hs)
    refine br_f (nI_ge hi (by omega)) (tx_sat hx (fun i hi => tm_lvx h hi) h0 h3 har hgd (fun w3 => tm_br (fun hb => nm_r (nI_1 i) (kk (_, w3) ?_)) (fun hb => nm_r (nI_1 _) (nm_r (nI_1 i) (kk (_, w3) ?_)))))
    · exact congrArg nI (tm_cnf (p := fun m => tm_sa F x d (-1) (nI m)) hb)
    · exact congrArg nI (tm_cnt (p := fun m => tm_sa F x d (-1) (nI m)) hb)
theorem tx_least8 {post : Int32 → SX → Prop} {f1 f2 : Int32} {d h x : Nat} {F : Nat → List (Nat × Nat)} {k a l : Nat → Int32} (h0 : 0 < d) (h3 : d ≤ 3) (hx : x ≤ 6) (hgd : tm_gd F (tm_lv h x)) (har : tm_ar k a l F (tm_lv h x)) :
    ∀ (r i : Nat) (w : Nat → Int32) (n : Nat), i + r = tm_N d → r < n → (∀ w', post (tm_fi (fun m => tm_sa F x d (-1) (nI m)) r i) (f1, f2, nI x, k, a, l, w')) → wX_leastModel_8 post (nI d) (nI (tm_N d)) n (nI i) f1 f2 (nI x) k a l w := by
  have hN := tm_N_le d (by omega)
  intro r
  induction r with
  | zero =>
    intro i w n hi hn hp
    obtain ⟨n, rfl⟩ : ∃ q, n = q + 1 := ⟨n - 1, by omega⟩
    exact br_t (nI_le (by omega) (by omega)) (hp w)
  | succ r ih =>
    intro i w n hi hn hp
    obtain ⟨n, rfl⟩ : ∃ q, n = q + 1 := ⟨n - 1, by omega⟩
    refine br_f (nI_ge (by omega) (by omega)) (tx_sat hx (fun i hi => tm_lvx h hi) h0 h3 har hgd (fun w3 => tm_br (fun hb => nm_r (nI_1 i) (ih (i + 1) w3 n (by omega) (by omega) (fun w' => ?_))) (fun hb => ?_)))
    · have g := hp w'
      rw [tm_fi_s, if_neg (by rw [hb]; decide)] at g
      exact g
    · have g := hp w3
      rw [tm_fi_s, if_pos hb] at g
      exact g
theorem tx_least {post : Int32 → SX → Prop} {f1 f2 v1 : Int32} {d h x : Nat} {F : Nat → List (Nat × Nat)} {k a l w : Nat → Int32} (i : Nat) (hv : v1 = nI i) (hi : i ≤ tm_N d) (h0 : 0 < d) (h3 : d ≤ 3) (hx : x ≤ 6) (hgd : tm_gd F (tm_lv h x)) (har : tm_ar k a l F (tm_lv h x))
    (hp : ∀ w', post (tm_fi (fun m => tm_sa F x d (-1) (nI m)) (tm_N d - i) i) (f1, f2, nI x, k, a, l, w')) : wpX_leastModel post (f1, f2, nI x, k, a, l, w) v1 (nI d) := by
  subst hv
  unfold wpX_leastModel
  exact tx_int h0 h3 ⟨tm_N d + 1, tx_least8 h0 h3 hx hgd har (tm_N d - i) i w _ (by omega) (by omega) hp⟩
theorem tx_next {post : Int32 → SX → Prop} {v1 : Int32} {d h x : Nat} {F : Nat → List (Nat × Nat)} {k a l w : Nat → Int32} (G : tm_I d h x F) (har : tm_ar k a l F (tm_lv h x))
    (hp : ∀ w', post (tm_nx (fun m => tm_sa F x d (-1) (nI m)) v1 (tm_N d)) (nI d, nI h, nI x, k, a, l, w')) : wpX_next post (nI d, nI h, nI x, k, a, l, w) v1 := by
  obtain ⟨h0, h3, hh, hx, hgd⟩ := G
  have hN := tm_N_le d (by omega)
  unfold wpX_next
  rcases pk_ix v1 (n := tm_N d) (by omega) with c | c | ⟨j, hj, rfl⟩
  · rw [tm_nx_neg hN c] at hp
    exact br_f (Int32.not_le.mpr c) (tx_least 0 rfl (by omega) h0 h3 hx hgd har hp)
  · rw [tm_nx_big hN c] at hp
    exact br_t (Int32.le_trans (nI_pos' (n := tm_N d) (by omega)) c) (tx_int h0 h3 (br_f (Int32.not_lt.mpr c) (hp w)))
  · rw [tm_nx_in hN hj] at hp
    exact br_t (nI_pos' (by omega)) (tx_int h0 h3 (br_t (nI_lt hj (by omega)) (tx_least (j + 1) (nI_1 j) (by omega) h0 h3 hx hgd har hp)))
theorem tx_img {post : Int32 → Prop} {q e : Nat} (hq : q < 27) (he : e < 3) (h : post (nI (tm_el q e))) : wpX_image post (nI q) (nI e) := by
  have n3 : ¬ (3 : Int32) = 0 := by decide
  have e0 : nI q - nI q / 3 * 3 = nI (q % 3) := pk_rem (d := 3) (by omega) (by omega) (by omega)
  have e1 : nI q / 3 = nI (q / 3) := pk_div (d := 3) (by omega) (by omega) (by omega)
  have e2 : nI (q / 3) - nI (q / 3) / 3 * 3 = nI (q / 3 % 3) := pk_rem (d := 3) (by omega) (by omega) (by omega)
  have e3 : nI q / 9 = nI (q / 9) := pk_div (d := 9) (by omega) (by omega) (by omega)
  have e4 : nI (q / 9) - nI (q / 9) / 3 * 3 = nI (q / 9 % 3) := pk_rem (d := 3) (by omega) (by omega) (by omega)
  have e5 : q / 9 % 3 = q / 9 := by omega
  unfold wpX_image
  rw [e0, e1, e2, e3, e4, e5]
  rcases (by omega : e = 0 ∨ e = 1 ∨ e = 2) with rfl | rfl | rfl
  · exact br_t rfl ⟨n3, h⟩
  · exact br_f (by decide +kernel) (br_t rfl ⟨n3, n3, h⟩)
  · exact br_f (by decide +kernel) (br_f (by decide +kernel) ⟨by decide, n3, h⟩)
theorem tx_oo {post : Int32 → Prop} {q d : Nat} (hq : q < 27) (h3 : d ≤ 3) (h : post (tm_bi (tm_oo q d))) : wpX_isOneToOne post (nI q) (nI d) := by
  have l0 := tm_el_lt q hq 0 (by omega)
  have l1 := tm_el_lt q hq 1 (by omega)
  have l2 := tm_el_lt q hq 2 (by omega)
  unfold tm_oo at h
  unfold wpX_isOneToOne wX_isOneToOne_48
  refine tx_img (e := 0) hq (by omega) (tx_img (e := 1) hq (by omega) (tx_img (e := 2) hq (by omega) ?_))
  refine pk_eq (tm_el q 0) (tm_el q 1) (fun c => ?_) (fun c => pk_eq (tm_el q 0) (tm_el q 2) (fun c1 => ?_) (fun c1 => pk_eq (tm_el q 1) (tm_el q 2) (fun c2 => ?_) (fun c2 => pk_lt 1 d (fun c3 => pk_lt 2 d (fun c4 => ?_) (fun c4 => pk_eq (tm_el q 2) 2 (fun c5 => ?_) (fun c5 => ?_))) (fun c3 => pk_eq (tm_el q 1) 1 (fun c6 => pk_lt 2 d (fun c4 => ?_) (fun c4 => pk_eq (tm_el q 2) 2 (fun c5 => ?_) (fun c5 => ?_))) (fun c6 => ?_)))))
  · simpa [c, tm_bi] using h
  · simpa [c1, tm_bi] using h
  · simpa [c2, tm_bi] using h
  · simpa [c, c1, c2, c3, c4, tm_bi] using h
  · have y1 : ¬ tm_el q 0 = 2 := by omega
    have y2 : ¬ tm_el q 1 = 2 := by omega
    simpa [c, y1, y2, c3, c5, tm_bi] using h
  · have c4' : ¬ 2 < d := by omega
    simpa [c, c1, c2, c3, c4', c5, tm_bi] using h
  · omega
  · have y1 : ¬ tm_el q 0 = 2 := by omega
    have y2 : ¬ tm_el q 0 = 1 := by omega
    simpa [y1, y2, c5, c6, tm_bi] using h
  · have c4' : ¬ 2 < d := by omega
    simpa [c, c1, c2, c4', c5, tm_bi] using h
  · have c3' : ¬ 1 < d := by omega
    simpa [c, c1, c2, c3', c6, tm_bi] using h
theorem tx_mv34 {post : Int32 → Prop} {J : Int32 → Int32 → Prop} {m r : Int32} {q d e : Nat} (hq : q < 27) (h3 : d ≤ 3) (he : e < d) (h : J (tm_mi m d (tm_el q) e r d) (nI (e + 1))) : ∃ n, wX_moved_34 post J m (nI q) (nI d) (nI e) (nI (tm_el q e)) n r 0 := by
  refine loop_0 (fun n i s => wX_moved_34 post J m (nI q) (nI d) (nI e) (nI (tm_el q e)) n s (nI i)) (fun i s => s = tm_mi m d (tm_el q) e r i) d r rfl ?_ ?_
  · intro n s hs
    subst hs
    exact br_t (nI_le (Nat.le_refl d) (by omega)) (nm_r (nI_1 e) h)
  · intro n i s hi hs kk
    subst hs
    have e2 : (nI d + (nI d * nI e)) + nI i = nI (d + d * e + i) := by rw [pk_mul, nI_add, nI_add]
    have e4 : (nI d + (nI d * nI (tm_el q e))) + nI (tm_el q i) = nI (d + d * tm_el q e + tm_el q i) := by rw [pk_mul, nI_add, nI_add]
    have b1 : d * e ≤ 3 * 2 := Nat.mul_le_mul h3 (by omega)
    have l1 := tm_el_lt q hq e (by omega)
    have l2 := tm_el_lt q hq i (by omega)
    have b2 : d * tm_el q e ≤ 3 * 2 := Nat.mul_le_mul h3 (by omega)
    refine br_f (nI_ge hi (by omega)) (tx_img hq (by omega) (nm_e (nm_r ?_ (nm_r (nI_1 i) (kk _ rfl)))))
    rw [e2, e4, tm_dgs _ _ (by omega) (by omega)]
    rfl
theorem tx_mv {post : Int32 → Prop} {m : Int32} {q d : Nat} (hq : q < 27) (h3 : d ≤ 3) (h : post (tm_mv m d (tm_el q) d)) : wpX_moved post m (nI q) (nI d) := by
  unfold wpX_moved
  refine loop_0 (fun n i s => wX_moved_5 post m (nI q) (nI d) n s (nI i)) (fun i s => s = tm_mv m d (tm_el q) i) d 0 rfl ?_ ?_
  · intro n s hs
    subst hs
    exact br_t (nI_le (Nat.le_refl d) (by omega)) h
  · intro n i s hi hs kk
    subst hs
    have l1 := tm_el_lt q hq i (by omega)
    refine br_f (nI_ge hi (by omega)) (tx_img hq (by omega) (nm_r (tm_dgs _ _ (by omega) (by omega)) (tx_mv34 hq h3 hi (kk _ rfl))))
def tm_lm (d : Nat) (m : Int32) : Bool := decide (tm_cn (fun q => tm_oo q d && decide (tm_mv m d (tm_el q) d < m)) 27 = 0)
theorem tx_lm {post : Int32 → Prop} {m : Int32} {d : Nat} (h3 : d ≤ 3) (h : post (tm_bi (tm_lm d m))) : wpX_isLeastOfShape post m (nI d) := by
  unfold wpX_isLeastOfShape
  refine loop_0 (fun n i (_ : Unit) => wX_isLeastOfShape_2 post m (nI d) n (nI i)) (fun i _ => ∀ j, j < i → (tm_oo j d && decide (tm_mv m d (tm_el j) d < m)) = false) 27 () (fun j hj => absurd hj (by omega)) ?_ ?_
  · intro n _ hI
    have e : tm_lm d m = true := decide_eq_true (tm_cn_0.mpr hI)
    rw [e] at h
    exact br_t (by decide +kernel) h
  · intro n i _ hi hI kk
    refine br_f (nI_ge (b := 27) hi (by omega)) (tx_oo hi h3 (tm_br (fun hb => nm_r (nI_1 i) (kk () (lt_s hI ?_))) (fun hb => tx_mv hi h3 (br_c (fun z => nm_r (nI_1 i) (kk () (lt_s hI ?_))) (fun z => ?_)))))
    · rw [hb, Bool.false_and]
    · rw [decide_eq_false (Int32.not_lt.mpr z), Bool.and_false]
    · have e : tm_lm d m = false := decide_eq_false (fun y => by
        have g := tm_cn_0.mp y i hi
        rw [hb, decide_eq_true (Int32.not_le.mp z)] at g
        exact absurd g (by decide))
      rw [e] at h
      exact h
theorem tx_mt {post : Int32 → Prop} {m o : Int32} {d : Nat} (h3 : d ≤ 3) (h : post (nI (tm_cn (fun q => tm_oo q d && decide (tm_mv m d (tm_el q) d = o)) 27))) : wpX_mapsTo post m o (nI d) := by
  unfold wpX_mapsTo
  refine loop_0 (fun n i s => wX_mapsTo_5 post m o (nI d) n s (nI i)) (fun i s => s = nI (tm_cn (fun q => tm_oo q d && decide (tm_mv m d (tm_el q) d = o)) i)) 27 0 rfl ?_ ?_
  · intro n s hs
    subst hs
    exact br_t (by decide +kernel) h
  · intro n i s hi hs kk
    subst hs
    refine br_f (nI_ge (b := 27) hi (by omega)) (tx_oo hi h3 (tm_br (fun hb => nm_r (nI_1 i) (kk _ ?_)) (fun hb => tx_mv hi h3 (br_c (fun z => nm_r (nI_1 _) (nm_r (nI_1 i) (kk _ ?_))) (fun z => nm_r (nI_1 i) (kk _ ?_))))))
    · exact congrArg nI (tm_cnf (p := fun q => tm_oo q d && decide (tm_mv m d (tm_el q) d = o)) (by rw [hb, Bool.false_and]))
    · exact congrArg nI (tm_cnt (p := fun q => tm_oo q d && decide (tm_mv m d (tm_el q) d = o)) (by rw [hb, decide_eq_true z]; rfl))
    · exact congrArg nI (tm_cnf (p := fun q => tm_oo q d && decide (tm_mv m d (tm_el q) d = o)) (by rw [hb, decide_eq_false z]; rfl))
theorem tx_shapes {post : Int32 → SX → Prop} {d h x : Nat} {F : Nat → List (Nat × Nat)} {k a l w : Nat → Int32} (G : tm_I d h x F) (har : tm_ar k a l F (tm_lv h x))
    (hp : ∀ w', post (nI (tm_cn (fun m => tm_lm d (nI m) && tm_sa F x d (-1) (nI m)) (tm_N d))) (nI d, nI h, nI x, k, a, l, w')) : wpX_shapes post (nI d, nI h, nI x, k, a, l, w) := by
  obtain ⟨h0, h3, hh, hx, hgd⟩ := G
  have hN := tm_N_le d (by omega)
  unfold wpX_shapes
  refine tx_int h0 h3 ?_
  refine loop_0 (fun n i (s : Int32 × (Nat → Int32)) => wX_shapes_12 post (nI (tm_N d)) n s.1 (nI i) (nI d) (nI h) (nI x) k a l s.2) (fun i s => s.1 = nI (tm_cn (fun m => tm_lm d (nI m) && tm_sa F x d (-1) (nI m)) i)) (tm_N d) (0, w) rfl ?_ ?_
  · intro n s hs
    obtain ⟨c, w2⟩ := s
    cases (show c = _ from hs)
    exact br_t (nI_le (Nat.le_refl _) (by omega)) (hp w2)
  · intro n i s hi hs kk
    obtain ⟨c, w2⟩ := s
    cases (show c = _ from hs)
    refine br_f (nI_ge hi (by omega)) (tx_lm h3 (tm_br (fun hb => nm_r (nI_1 i) (kk (_, w2) ?_)) (fun hb => tx_sat hx (fun i hi => tm_lvx h hi) h0 h3 har hgd (fun w3 => tm_br (fun hc => nm_r (nI_1 i) (kk (_, w3) ?_)) (fun hc => nm_r (nI_1 _) (nm_r (nI_1 i) (kk (_, w3) ?_)))))))
    · exact congrArg nI (tm_cnf (p := fun m => tm_lm d (nI m) && tm_sa F x d (-1) (nI m)) (by rw [hb, Bool.false_and]))
    · exact congrArg nI (tm_cnf (p := fun m => tm_lm d (nI m) && tm_sa F x d (-1) (nI m)) (by rw [hc, Bool.and_false]))
    · exact congrArg nI (tm_cnt (p := fun m => tm_lm d (nI m) && tm_sa F x d (-1) (nI m)) (by rw [hb, hc]; rfl))
