/-! the reference: loops over interpretations and maps -/
theorem ty_isI0 {post : Int32 → Prop} {d : Nat} {f2 f3 v1 : Int32} {k a l w : Nat → Int32} (h0 : 0 < d) (h3 : d ≤ 3) (hv : v1 < 0 ∨ nI (tm_N d) ≤ v1) (h : post 0) : wpY_isInterpretation post (nI d, f2, f3, l, k, a, w) v1 := by
  unfold wpY_isInterpretation
  refine br_c (fun _ => h) (fun z => ty_int h0 h3 (br_t (hv.resolve_left z) h))
theorem ty_isI1 {post : Int32 → Prop} {d M : Nat} {f2 f3 : Int32} {k a l w : Nat → Int32} (h0 : 0 < d) (h3 : d ≤ 3) (hv : M < tm_N d) (h : post 1) : wpY_isInterpretation post (nI d, f2, f3, l, k, a, w) (nI M) := by
  have hN := tm_N_le d (by omega)
  unfold wpY_isInterpretation
  exact br_f (nI_pos (by omega)) (ty_int h0 h3 (br_f (nI_ge hv (by omega)) h))
theorem ty_models {post : Int32 → SY → Prop} {d h x : Nat} {F : Nat → List (Nat × Nat)} {k a l w : Nat → Int32} (G : tm_I d h x F) (har : tm_ar k a l F (tm_lv h x))
    (hp : ∀ w', post (nI (tm_cn (fun m => tm_sa F x d (-1) (nI m)) (tm_N d))) (nI d, nI h, nI x, l, k, a, w')) : wpY_models post (nI d, nI h, nI x, l, k, a, w) := by
  obtain ⟨h0, h3, hh, hx, hgd⟩ := G
  have hN := tm_N_le d (by omega)
  unfold wpY_models
  refine loop_0 (fun n i (s : Int32 × (Nat → Int32)) => wY_models_4 post n s.1 (nI i) (nI d) (nI h) (nI x) l k a s.2) (fun i s => s.1 = nI (tm_cn (fun m => tm_sa F x d (-1) (nI m)) i)) (tm_N d) (0, w) rfl ?_ ?_
  · intro n s hs
    obtain ⟨c, w2⟩ := s
    cases (show c = _ from hs)
    dsimp only
    unfold wY_models_4
    refine ty_int h0 h3 ?_
    exact br_t (nI_le (Nat.le_refl _) (by omega)) (hp w2)
  · intro n i s hi hs kk
    obtain ⟨c, w2⟩ := s
    cases (show c = _ from hs)
    dsimp only
    unfold wY_models_4
    refine ty_int h0 h3 ?_
    refine br_f (nI_ge hi (by omega)) (ty_fit hx (fun i hi => tm_lvx h hi) h0 h3 har hgd (fun w3 => tm_br (fun hb => nm_r (nI_1 i) (kk (_, w3) ?_)) (fun hb => nm_r (nI_1 _) (nm_r (nI_1 i) (kk (_, w3) ?_)))))
    · exact congrArg nI (tm_cnf (p := fun m => tm_sa F x d (-1) (nI m)) hb)
    · exact congrArg nI (tm_cnt (p := fun m => tm_sa F x d (-1) (nI m)) hb)
theorem ty_next2 {post : Int32 → SY → Prop} {f2 v1 : Int32} {d h x : Nat} {F : Nat → List (Nat × Nat)} {k a l : Nat → Int32} (h0 : 0 < d) (h3 : d ≤ 3) (hx : x ≤ 6) (hgd : tm_gd F (tm_lv h x)) (har : tm_ar k a l F (tm_lv h x)) :
    ∀ (r i : Nat) (w : Nat → Int32) (n : Nat), i + r = tm_N d → r < n → (∀ w', post (tm_fi (fun m => decide (v1 < nI m) && tm_sa F x d (-1) (nI m)) r i) (nI d, f2, nI x, l, k, a, w')) → wY_next_2 post v1 n (nI i) (nI d) f2 (nI x) l k a w := by
  have hN := tm_N_le d (by omega)
  intro r
  induction r with
  | zero =>
    intro i w n hi hn hp
    obtain ⟨n, rfl⟩ : ∃ q, n = q + 1 := ⟨n - 1, by omega⟩
    unfold wY_next_2
    refine ty_int h0 h3 ?_
    exact br_t (nI_le (by omega) (by omega)) (hp w)
  | succ r ih =>
    intro i w n hi hn hp
    obtain ⟨n, rfl⟩ : ∃ q, n = q + 1 := ⟨n - 1, by omega⟩
    unfold wY_next_2
    refine ty_int h0 h3 ?_
    refine br_f (nI_ge (by omega) (by omega)) (br_c (fun z => nm_r (nI_1 i) (ih (i + 1) w n (by omega) (by omega) (fun w' => ?_))) (fun z => ty_fit hx (fun i hi => tm_lvx h hi) h0 h3 har hgd (fun w3 => tm_br (fun hb => nm_r (nI_1 i) (ih (i + 1) w3 n (by omega) (by omega) (fun w' => ?_))) (fun hb => ?_))))
    · have g := hp w'
      rw [tm_fi_s, decide_eq_false (Int32.not_lt.mpr z), Bool.false_and, if_neg (by decide)] at g
      exact g
    · have g := hp w'
      rw [tm_fi_s, hb, Bool.and_false, if_neg (by decide)] at g
      exact g
    · have g := hp w3
      rw [tm_fi_s, hb, decide_eq_true (Int32.not_le.mp z), if_pos (by decide)] at g
      exact g
theorem ty_next {post : Int32 → SY → Prop} {f2 v1 : Int32} {d h x : Nat} {F : Nat → List (Nat × Nat)} {k a l w : Nat → Int32} (h0 : 0 < d) (h3 : d ≤ 3) (hx : x ≤ 6) (hgd : tm_gd F (tm_lv h x)) (har : tm_ar k a l F (tm_lv h x))
    (hp : ∀ w', post (tm_nx (fun m => tm_sa F x d (-1) (nI m)) v1 (tm_N d)) (nI d, f2, nI x, l, k, a, w')) : wpY_next post (nI d, f2, nI x, l, k, a, w) v1 := by
  unfold wpY_next
  exact ⟨tm_N d + 1, ty_next2 h0 h3 hx hgd har (tm_N d) 0 w _ (by omega) (by omega) hp⟩
theorem tm_pst (post : Int32 → Prop) {x y : Int32} (e : x = y) (h : post x) : post y := e ▸ h
theorem ty_mov {post : Int32 → Prop} {f2 f3 : Int32} {d p e : Nat} {k a l w : Nat → Int32} (h0 : 0 < d) (h3 : d ≤ 3) (hp : p < tm_np d) (he : e < d) (h : post (nI (tm_el (tm_pm d p) e))) : wpY_moved post (nI d, f2, f3, l, k, a, w) (nI p) (nI e) := by
  unfold wpY_moved wY_moved_33 wY_moved_45 wY_moved_63 wY_moved_74
  dsimp only
  rcases (by omega : d = 1 ∨ d = 2 ∨ d = 3) with rfl | rfl | rfl
  · have hp : p < 1 := hp
    obtain rfl : p = 0 := by omega
    obtain rfl : e = 0 := by omega
    repeat first | exact tm_pst post (by decide +kernel) h | refine br_t (by decide +kernel) ?_ | refine br_f (by decide +kernel) ?_ | refine ⟨by decide +kernel, ?_⟩ | refine nm_e ?_
  · have hp : p < 2 := hp
    rcases (by omega : p = 0 ∨ p = 1) with rfl | rfl <;> rcases (by omega : e = 0 ∨ e = 1) with rfl | rfl <;>
    repeat first | exact tm_pst post (by decide +kernel) h | refine br_t (by decide +kernel) ?_ | refine br_f (by decide +kernel) ?_ | refine ⟨by decide +kernel, ?_⟩ | refine nm_e ?_
  · have hp : p < 6 := hp
    rcases (by omega : p = 0 ∨ p = 1 ∨ p = 2 ∨ p = 3 ∨ p = 4 ∨ p = 5) with rfl | rfl | rfl | rfl | rfl | rfl <;> rcases (by omega : e = 0 ∨ e = 1 ∨ e = 2) with rfl | rfl | rfl <;>
    repeat first | exact tm_pst post (by decide +kernel) h | refine br_t (by decide +kernel) ?_ | refine br_f (by decide +kernel) ?_ | refine ⟨by decide +kernel, ?_⟩ | refine nm_e ?_
theorem tm_pm_lt : ∀ d, d < 4 → ∀ p, p < 6 → tm_pm d p < 27 := by decide +kernel
theorem tm_np_le (d : Nat) : tm_np d ≤ 6 := by unfold tm_np; split <;> (try split) <;> omega
theorem ty_im47 {post : Int32 → Prop} {J : Int32 → Int32 → Prop} {m r f2 f3 : Int32} {p d e : Nat} {k a l w : Nat → Int32} (h0 : 0 < d) (h3 : d ≤ 3) (hp : p < tm_np d) (he : e < d) (h : J (tm_mi m d (tm_el (tm_pm d p)) e r d) (nI (e + 1))) : ∃ n, wY_image_47 post J (nI p) m (nI e) (nI (tm_el (tm_pm d p) e)) (nI d) f2 f3 l k a w n r 0 := by
  have hq := tm_pm_lt d (by omega) p (Nat.lt_of_lt_of_le hp (tm_np_le d))
  refine loop_0 (fun n i s => wY_image_47 post J (nI p) m (nI e) (nI (tm_el (tm_pm d p) e)) (nI d) f2 f3 l k a w n s (nI i)) (fun i s => s = tm_mi m d (tm_el (tm_pm d p)) e r i) d r rfl ?_ ?_
  · intro n s hs
    subst hs
    exact br_t (nI_le (Nat.le_refl d) (by omega)) (nm_r (nI_1 e) h)
  · intro n i s hi hs kk
    subst hs
    have e4 : (nI d + (nI d * nI (tm_el (tm_pm d p) e))) + nI (tm_el (tm_pm d p) i) = nI (d + d * tm_el (tm_pm d p) e + tm_el (tm_pm d p) i) := by rw [pk_mul, nI_add, nI_add]
    have b1 : d * e ≤ 3 * 2 := Nat.mul_le_mul h3 (by omega)
    have st : tm_mi m d (tm_el (tm_pm d p)) e r (i + 1) = tm_set (bt m (d + d * e + i)) (d + d * tm_el (tm_pm d p) e + tm_el (tm_pm d p) i) (tm_mi m d (tm_el (tm_pm d p)) e r i) := rfl
    refine br_f (nI_ge hi (by omega)) (ty_mov h0 h3 hp hi (ty_rel (by omega) (tm_br (fun hb => nm_r (nI_1 i) (kk _ ?_)) (fun hb => nm_r ?_ (nm_r (nI_1 i) (kk _ rfl))))))
    · rw [st, hb]; rfl
    · rw [st, hb, e4]; rfl
theorem ty_img {post : Int32 → Prop} {m f2 f3 : Int32} {p d : Nat} {k a l w : Nat → Int32} (h0 : 0 < d) (h3 : d ≤ 3) (hp : p < tm_np d) (h : post (tm_mv m d (tm_el (tm_pm d p)) d)) : wpY_image post (nI d, f2, f3, l, k, a, w) (nI p) m := by
  unfold wpY_image
  refine loop_0 (fun n i s => wY_image_5 post (nI p) m (nI d) f2 f3 l k a w n s (nI i)) (fun i s => s = tm_mv m d (tm_el (tm_pm d p)) i) d 0 rfl ?_ ?_
  · intro n s hs
    subst hs
    exact br_t (nI_le (Nat.le_refl d) (by omega)) h
  · intro n i s hi hs kk
    subst hs
    have st : tm_mv m d (tm_el (tm_pm d p)) (i + 1) = tm_mi m d (tm_el (tm_pm d p)) i (tm_set (bt m i) (tm_el (tm_pm d p) i) (tm_mv m d (tm_el (tm_pm d p)) i)) d := rfl
    refine br_f (nI_ge hi (by omega)) (ty_mov h0 h3 hp hi ?_)
    rw [tm_dg1 m (by omega)]
    refine br_c (fun hb => nm_e (ty_im47 h0 h3 hp hi (kk _ ?_))) (fun hb => ty_im47 h0 h3 hp hi (kk _ ?_))
    · rw [st, hb]; rfl
    · rw [st, Bool.eq_false_iff.mpr hb]; rfl
theorem ty_maps {post : Int32 → Prop} {f2 f3 : Int32} {d : Nat} {k a l w : Nat → Int32} (h0 : 0 < d) (h3 : d ≤ 3) (h : post (nI (tm_np d))) : wpY_maps post (nI d, f2, f3, l, k, a, w) := by
  unfold wpY_maps
  rcases (by omega : d = 1 ∨ d = 2 ∨ d = 3) with rfl | rfl | rfl
  · exact br_t rfl h
  · exact br_f (by decide +kernel) (br_t rfl h)
  · exact br_f (by decide +kernel) (br_f (by decide +kernel) h)
theorem ty_lm {post : Int32 → Prop} {m f2 f3 : Int32} {d : Nat} {k a l w : Nat → Int32} (h0 : 0 < d) (h3 : d ≤ 3) (h : post (tm_bi (tm_lm d m))) : wpY_isLeast post (nI d, f2, f3, l, k, a, w) m := by
  have hn := tm_np_le d
  have e : tm_lm d m = tm_al (fun p => !(decide (tm_mv m d (tm_el (tm_pm d p)) d < m))) (tm_np d) := by
    unfold tm_lm
    rw [tm_cn_pm (fun q => decide (tm_mv m d (tm_el q) d < m)) h0 h3]
    cases z : tm_al (fun p => !(decide (tm_mv m d (tm_el (tm_pm d p)) d < m))) (tm_np d)
    · apply decide_eq_false
      intro y
      have g := tm_cn_0.mp y
      rw [tm_al_t.mpr (fun i hi => by rw [g i hi]; rfl)] at z
      exact absurd z (by decide)
    · apply decide_eq_true
      apply tm_cn_0.mpr
      intro i hi
      have g := tm_al_t.mp z i hi
      cases y : decide (tm_mv m d (tm_el (tm_pm d i)) d < m)
      · rfl
      · rw [y] at g; exact absurd g (by decide)
  rw [e] at h
  unfold wpY_isLeast
  refine loop_0 (fun n i s => wY_isLeast_4 post m (nI d) f2 f3 l k a w n s (nI i)) (fun i s => s = tm_bi (tm_al (fun p => !(decide (tm_mv m d (tm_el (tm_pm d p)) d < m))) i)) (tm_np d) 1 rfl ?_ ?_
  · intro n s hs
    subst hs
    unfold wY_isLeast_4
    refine ty_maps h0 h3 ?_
    exact br_t (nI_le (Nat.le_refl _) (by omega)) ⟨tm_nn _, h⟩
  · intro n i s hi hs kk
    subst hs
    have st : tm_al (fun p => !(decide (tm_mv m d (tm_el (tm_pm d p)) d < m))) (i + 1) = (tm_al (fun p => !(decide (tm_mv m d (tm_el (tm_pm d p)) d < m))) i && !(decide (tm_mv m d (tm_el (tm_pm d i)) d < m))) := rfl
    unfold wY_isLeast_4
    refine ty_maps h0 h3 ?_
    refine br_f (nI_ge hi (by omega)) (tm_br (fun hb => nm_r (nI_1 i) (kk _ ?_)) (fun hb => ty_img h0 h3 hi (br_c (fun z => nm_r (nI_1 i) (kk _ ?_)) (fun z => nm_r (nI_1 i) (kk _ ?_)))))
    · rw [st, hb]; rfl
    · rw [st, decide_eq_true z, Bool.not_true, Bool.and_false]; rfl
    · rw [st, decide_eq_false z, hb]; rfl
theorem ty_mt {post : Int32 → Prop} {m o f2 f3 : Int32} {d : Nat} {k a l w : Nat → Int32} (h0 : 0 < d) (h3 : d ≤ 3) (h : post (nI (tm_cn (fun q => tm_oo q d && decide (tm_mv m d (tm_el q) d = o)) 27))) : wpY_mapsTo post (nI d, f2, f3, l, k, a, w) m o := by
  have hn := tm_np_le d
  rw [tm_cn_pm (fun q => decide (tm_mv m d (tm_el q) d = o)) h0 h3] at h
  unfold wpY_mapsTo
  refine loop_0 (fun n i s => wY_mapsTo_5 post m o (nI d) f2 f3 l k a w n s (nI i)) (fun i s => s = nI (tm_cn (fun p => decide (tm_mv m d (tm_el (tm_pm d p)) d = o)) i)) (tm_np d) 0 rfl ?_ ?_
  · intro n s hs
    subst hs
    unfold wY_mapsTo_5
    refine ty_maps h0 h3 ?_
    exact br_t (nI_le (Nat.le_refl _) (by omega)) h
  · intro n i s hi hs kk
    subst hs
    unfold wY_mapsTo_5
    refine ty_maps h0 h3 ?_
    refine br_f (nI_ge hi (by omega)) (ty_img h0 h3 hi (br_c (fun z => nm_r (nI_1 _) (nm_r (nI_1 i) (kk _ ?_))) (fun z => nm_r (nI_1 i) (kk _ ?_))))
    · exact congrArg nI (tm_cnt (p := fun p => decide (tm_mv m d (tm_el (tm_pm d p)) d = o)) (decide_eq_true z))
    · exact congrArg nI (tm_cnf (p := fun p => decide (tm_mv m d (tm_el (tm_pm d p)) d = o)) (decide_eq_false z))
theorem ty_shapes {post : Int32 → SY → Prop} {d h x : Nat} {F : Nat → List (Nat × Nat)} {k a l w : Nat → Int32} (G : tm_I d h x F) (har : tm_ar k a l F (tm_lv h x))
    (hp : ∀ w', post (nI (tm_cn (fun m => tm_lm d (nI m) && tm_sa F x d (-1) (nI m)) (tm_N d))) (nI d, nI h, nI x, l, k, a, w')) : wpY_shapes post (nI d, nI h, nI x, l, k, a, w) := by
  obtain ⟨h0, h3, hh, hx, hgd⟩ := G
  have hN := tm_N_le d (by omega)
  unfold wpY_shapes
  refine loop_0 (fun n i (s : Int32 × (Nat → Int32)) => wY_shapes_4 post n s.1 (nI i) (nI d) (nI h) (nI x) l k a s.2) (fun i s => s.1 = nI (tm_cn (fun m => tm_lm d (nI m) && tm_sa F x d (-1) (nI m)) i)) (tm_N d) (0, w) rfl ?_ ?_
  · intro n s hs
    obtain ⟨c, w2⟩ := s
    cases (show c = _ from hs)
    dsimp only
    unfold wY_shapes_4
    refine ty_int h0 h3 ?_
    exact br_t (nI_le (Nat.le_refl _) (by omega)) (hp w2)
  · intro n i s hi hs kk
    obtain ⟨c, w2⟩ := s
    cases (show c = _ from hs)
    dsimp only
    unfold wY_shapes_4
    refine ty_int h0 h3 ?_
    refine br_f (nI_ge hi (by omega)) (ty_lm h0 h3 (tm_br (fun hb => nm_r (nI_1 i) (kk (_, w2) ?_)) (fun hb => ty_fit hx (fun i hi => tm_lvx h hi) h0 h3 har hgd (fun w3 => tm_br (fun hc => nm_r (nI_1 i) (kk (_, w3) ?_)) (fun hc => nm_r (nI_1 _) (nm_r (nI_1 i) (kk (_, w3) ?_)))))))
    · exact congrArg nI (tm_cnf (p := fun m => tm_lm d (nI m) && tm_sa F x d (-1) (nI m)) (by rw [hb, Bool.false_and]))
    · exact congrArg nI (tm_cnf (p := fun m => tm_lm d (nI m) && tm_sa F x d (-1) (nI m)) (by rw [hc, Bool.and_false]))
    · exact congrArg nI (tm_cnt (p := fun m => tm_lm d (nI m) && tm_sa F x d (-1) (nI m)) (by rw [hb, hc]; rfl))
