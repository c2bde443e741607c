/-! the reference: further loops -/
theorem ty_f107 {post : Int32 → SY → Prop} {z o : Bool} {f1 f2 f3 : Int32} {k a l w : Nat → Int32} (h : post (tm_fo z o) (f1, f2, f3, l, k, a, w)) :
    (tm_bi z = 0 → wY_forced_107 post (tm_bi z) (tm_bi o) f1 f2 f3 l k a w) ∧ (¬ tm_bi z = 0 → ((tm_bi o = 0 → wY_forced_107 post (tm_bi z) (tm_bi o) f1 f2 f3 l k a w) ∧ (¬ tm_bi o = 0 → post 2 (f1, f2, f3, l, k, a, w)))) := by
  unfold wY_forced_107
  cases z <;> cases o
  · exact br_t rfl (br_t rfl (br_t rfl h))
  · exact br_t rfl (br_t rfl (br_f (by decide) h))
  · exact br_f (by decide) (br_t rfl (br_f (by decide) h))
  · exact br_f (by decide) (br_f (by decide) h)
theorem ty_f68 {post : Int32 → SY → Prop} {J : Int32 → Int32 → Int32 → Int32 → Int32 → Int32 → (Nat → Int32) → (Nat → Int32) → (Nat → Int32) → (Nat → Int32) → Prop} {b i : Nat} {z0 f1 f2 f3 : Int32} {o : Bool} {k a l w : Nat → Int32} (hb : b < 32) (h : J z0 (tm_bi (o || bt (nI i) b)) (nI (i + 1)) f1 f2 f3 l k a w) : wY_forced_68 post J (nI b) (tm_bi o) (nI i) z0 f1 f2 f3 l k a w := by
  unfold wY_forced_68
  rw [tm_dg1 _ hb]
  refine tm_br (fun ho => br_c (fun hd => nm_r (nI_1 i) ?_) (fun hd => nm_r (nI_1 i) ?_)) (fun ho => nm_r (nI_1 i) ?_)
  · rw [ho, hd] at h; exact h
  · rw [ho, Bool.eq_false_iff.mpr hd] at h; exact h
  · rw [ho, Bool.true_or] at h; exact h
theorem ty_forced31 {post : Int32 → SY → Prop} {b d h x : Nat} {F : Nat → List (Nat × Nat)} {k a l w : Nat → Int32} (hb : b < 32) (G : tm_I d h x F) (har : tm_ar k a l F (tm_lv h x))
    (hp : ∀ w', post (tm_fo (tm_an (fun m => tm_sa F x d (-1) (nI m) && !(bt (nI m) b)) (tm_N d)) (tm_an (fun m => tm_sa F x d (-1) (nI m) && bt (nI m) b) (tm_N d))) (nI d, nI h, nI x, l, k, a, w')) :
    ∃ n, wY_forced_31 post (nI b) n 0 0 0 (nI d) (nI h) (nI x) l k a w := by
  obtain ⟨h0, h3, hh, hx, hgd⟩ := G
  have hN := tm_N_le d (by omega)
  refine loop_0 (fun n i (s : Int32 × Int32 × (Nat → Int32)) => wY_forced_31 post (nI b) n s.1 s.2.1 (nI i) (nI d) (nI h) (nI x) l k a s.2.2)
    (fun i s => s.1 = tm_bi (tm_an (fun m => tm_sa F x d (-1) (nI m) && !(bt (nI m) b)) i) ∧ s.2.1 = tm_bi (tm_an (fun m => tm_sa F x d (-1) (nI m) && bt (nI m) b) i)) (tm_N d) (0, 0, w) ⟨rfl, rfl⟩ ?_ ?_
  · intro n s hs
    obtain ⟨z, o, w2⟩ := s
    obtain ⟨hz, ho⟩ := hs
    cases (show z = _ from hz)
    cases (show o = _ from ho)
    dsimp only
    unfold wY_forced_31
    refine ty_int h0 h3 ?_
    exact br_t (nI_le (Nat.le_refl _) (by omega)) (ty_f107 (hp w2))
  · intro n i s hi hs kk
    obtain ⟨z, o, w2⟩ := s
    obtain ⟨hz, ho⟩ := hs
    cases (show z = _ from hz)
    cases (show o = _ from ho)
    dsimp only
    unfold wY_forced_31
    refine ty_int h0 h3 ?_
    refine br_f (nI_ge hi (by omega)) (ty_fit hx (fun i hi => tm_lvx h hi) h0 h3 har hgd (fun w3 => tm_br (fun hc => nm_r (nI_1 i) (kk (_, _, w3) ⟨?_, ?_⟩)) (fun hc => ?_)))
    · exact congrArg tm_bi (by rw [tm_an_s, hc, Bool.false_and, Bool.or_false])
    · exact congrArg tm_bi (by rw [tm_an_s, hc, Bool.false_and, Bool.or_false])
    · have g1 : (tm_an (fun m => tm_sa F x d (-1) (nI m) && !(bt (nI m) b)) i || !(bt (nI i) b)) = tm_an (fun m => tm_sa F x d (-1) (nI m) && !(bt (nI m) b)) (i + 1) := by rw [tm_an_s, hc, Bool.true_and]
      have g2 : (tm_an (fun m => tm_sa F x d (-1) (nI m) && bt (nI m) b) i || bt (nI i) b) = tm_an (fun m => tm_sa F x d (-1) (nI m) && bt (nI m) b) (i + 1) := by rw [tm_an_s, hc, Bool.true_and]
      rw [tm_dg0 _ hb]
      refine tm_br (fun hz => br_c (fun hd => ?_) (fun hd => ?_)) (fun hz => ?_)
      · unfold wY_forced_63
        refine ty_f68 hb (kk (1, _, w3) ⟨?_, congrArg tm_bi g2⟩)
        rw [← g1, hz, hd]; rfl
      · refine ty_f68 hb (kk (0, _, w3) ⟨?_, congrArg tm_bi g2⟩)
        rw [← g1, hz, Bool.not_eq_false _ |>.mp hd]; rfl
      · unfold wY_forced_63
        refine ty_f68 hb (kk (1, _, w3) ⟨?_, congrArg tm_bi g2⟩)
        rw [← g1, hz]; rfl
theorem ty_lists34 {post : Int32 → SY → Prop} {t f1 f2 f3 : Int32} {k a l w : Nat → Int32} (hp : post (nI (tm_cn (fun i => bt t i) 27)) (f1, f2, f3, l, k, a, w)) : ∃ n, wY_lists_34 post t f1 f2 f3 l k a w n 0 0 := by
  refine loop_0 (fun n i s => wY_lists_34 post t f1 f2 f3 l k a w n s (nI i)) (fun i s => s = nI (tm_cn (fun i => bt t i) i)) 27 0 rfl ?_ ?_
  · intro n s hs
    subst hs
    exact br_t (by decide +kernel) hp
  · intro n i s hi hs kk
    subst hs
    refine br_f (nI_ge (b := 27) hi (by omega)) (nm_r ?_ (nm_r (nI_1 i) (kk _ rfl)))
    rw [tm_dg t (by omega), tm_addb, tm_cn_s]
theorem ty_follows11 {post : Int32 → SY → Prop} {d h x : Nat} {F : Nat → List (Nat × Nat)} {k a l w : Nat → Int32} (h1 : 0 < h) (G : tm_I d h x F) (har : tm_ar k a l F (tm_lv h x))
    (hp : ∀ w', post (tm_bi (tm_al (fun m => !(tm_sa F x d (-1) (nI m)) || tm_va (nI m) d (F (h - 1))) (tm_N d))) (nI d, nI h, nI x, l, k, a, w')) : ∃ n, wY_follows_11 post n 0 (nI d) (nI h) (nI x) l k a w := by
  obtain ⟨h0, h3, hh, hx, hgd⟩ := G
  have hN := tm_N_le d (by omega)
  refine loop_0 (fun n i (s : Nat → Int32) => wY_follows_11 post n (nI i) (nI d) (nI h) (nI x) l k a s) (fun i _ => ∀ j, j < i → (!(tm_sa F x d (-1) (nI j)) || tm_va (nI j) d (F (h - 1))) = true) (tm_N d) w (fun j hj => absurd hj (by omega)) ?_ ?_
  · intro n s hI
    have g := hp s
    rw [tm_al_t.mpr hI] at g
    unfold wY_follows_11
    refine ty_int h0 h3 ?_
    exact br_t (nI_le (Nat.le_refl _) (by omega)) g
  · intro n i s hi hI kk
    unfold wY_follows_11
    refine ty_int h0 h3 ?_
    refine br_f (nI_ge hi (by omega)) (ty_fit hx (fun i hi => tm_lvx h hi) h0 h3 har hgd (fun w3 => tm_br (fun hc => nm_r (nI_1 i) (kk w3 (lt_s hI ?_))) (fun hc => ty_val (h - 1) (tm_hI h1) (tm_top h1) h0 h3 har hgd (fun w4 => tm_br (fun he => ?_) (fun he => nm_r (nI_1 i) (kk w4 (lt_s hI ?_)))))))
    · rw [hc]; rfl
    · have g := hp w4
      rw [tm_al_f hi (by rw [hc, he]; rfl)] at g
      exact g
    · rw [he, Bool.or_true]
theorem ty_agreeing13 {post : Int32 → SY → Prop} {d h x : Nat} {F : Nat → List (Nat × Nat)} {k a l w : Nat → Int32} (h1 : 0 < h) (G : tm_I d h x F) (har : tm_ar k a l F (tm_lv h x))
    (hp : ∀ w', post (nI (tm_cn (fun m => tm_sa F x d (-1) (nI m) && tm_va (nI m) d (F (h - 1))) (tm_N d))) (nI d, nI h, nI x, l, k, a, w')) : ∃ n, wY_agreeing_13 post n 0 0 (nI d) (nI h) (nI x) l k a w := by
  obtain ⟨h0, h3, hh, hx, hgd⟩ := G
  have hN := tm_N_le d (by omega)
  refine loop_0 (fun n i (s : Int32 × (Nat → Int32)) => wY_agreeing_13 post n s.1 (nI i) (nI d) (nI h) (nI x) l k a s.2) (fun i s => s.1 = nI (tm_cn (fun m => tm_sa F x d (-1) (nI m) && tm_va (nI m) d (F (h - 1))) i)) (tm_N d) (0, w) rfl ?_ ?_
  · intro n s hs
    obtain ⟨c, w2⟩ := s
    cases (show c = _ from hs)
    dsimp only
    unfold wY_agreeing_13
    refine ty_int h0 h3 ?_
    exact br_t (nI_le (Nat.le_refl _) (by omega)) (hp w2)
  · intro n i s hi hs kk
    obtain ⟨c, w2⟩ := s
    cases (show c = _ from hs)
    dsimp only
    unfold wY_agreeing_13
    refine ty_int h0 h3 ?_
    refine br_f (nI_ge hi (by omega)) (ty_fit hx (fun i hi => tm_lvx h hi) h0 h3 har hgd (fun w3 => tm_br (fun hc => nm_r (nI_1 i) (kk (_, w3) ?_)) (fun hc => ty_val (h - 1) (tm_hI h1) (tm_top h1) h0 h3 har hgd (fun w4 => tm_br (fun he => nm_r (nI_1 i) (kk (_, w4) ?_)) (fun he => nm_r (nI_1 _) (nm_r (nI_1 i) (kk (_, w4) ?_)))))))
    · exact congrArg nI (tm_cnf (p := fun m => tm_sa F x d (-1) (nI m) && tm_va (nI m) d (F (h - 1))) (by rw [hc, Bool.false_and]))
    · exact congrArg nI (tm_cnf (p := fun m => tm_sa F x d (-1) (nI m) && tm_va (nI m) d (F (h - 1))) (by rw [he, Bool.and_false]))
    · exact congrArg nI (tm_cnt (p := fun m => tm_sa F x d (-1) (nI m) && tm_va (nI m) d (F (h - 1))) (by rw [hc, he]; rfl))
theorem ty_alike12 {post : Int32 → SY → Prop} {d h x : Nat} {F : Nat → List (Nat × Nat)} {k a l w : Nat → Int32} (h2 : 2 ≤ h) (G : tm_I d h x F) (har : tm_ar k a l F (tm_lv h x))
    (hp : ∀ w', post (tm_bi (tm_al (fun m => !(tm_sa F x d (-1) (nI m)) || decide (tm_tv (nI m) d (F (h - 1)) = tm_tv (nI m) d (F (h - 2)))) (tm_N d))) (nI d, nI h, nI x, l, k, a, w')) : ∃ n, wY_alike_12 post n 0 (nI d) (nI h) (nI x) l k a w := by
  obtain ⟨h0, h3, hh, hx, hgd⟩ := G
  have hN := tm_N_le d (by omega)
  refine loop_0 (fun n i (s : Nat → Int32) => wY_alike_12 post n (nI i) (nI d) (nI h) (nI x) l k a s) (fun i _ => ∀ j, j < i → (!(tm_sa F x d (-1) (nI j)) || decide (tm_tv (nI j) d (F (h - 1)) = tm_tv (nI j) d (F (h - 2)))) = true) (tm_N d) w (fun j hj => absurd hj (by omega)) ?_ ?_
  · intro n s hI
    have g := hp s
    rw [tm_al_t.mpr hI] at g
    unfold wY_alike_12
    refine ty_int h0 h3 ?_
    exact br_t (nI_le (Nat.le_refl _) (by omega)) g
  · intro n i s hi hI kk
    unfold wY_alike_12
    refine ty_int h0 h3 ?_
    refine br_f (nI_ge hi (by omega)) (ty_fit hx (fun i hi => tm_lvx h hi) h0 h3 har hgd (fun w3 => tm_br (fun hc => nm_r (nI_1 i) (kk w3 (lt_s hI ?_))) (fun hc => ty_lo (h - 1) (tm_hI (by omega)) (tm_top (by omega)) h0 h3 har hgd (fun w4 => ty_lo (h - 2) (tm_hI2 h2) (Or.inl (by omega)) h0 h3 har hgd (fun w5 => br_c (fun he => nm_r (nI_1 i) (kk w5 (lt_s hI ?_))) (fun he => ?_))))))
    · rw [hc]; rfl
    · rw [decide_eq_true he, Bool.or_true]
    · have g := hp w5
      rw [tm_al_f hi (by rw [hc, decide_eq_false he]; rfl)] at g
      exact g
theorem ty_indep16 {post : Int32 → SY → Prop} {d h x j : Nat} {F : Nat → List (Nat × Nat)} {k a l w : Nat → Int32} (hj : j < x) (G : tm_I d h x F) (har : tm_ar k a l F (tm_lv h x))
    (hp : ∀ w', post (tm_bi (tm_an (fun m => !(tm_va (nI m) d (F (6 + j))) && tm_sa F x d (nI j) (nI m)) (tm_N d))) (nI d, nI h, nI x, l, k, a, w')) : ∃ n, wY_independent_16 post (nI j) n 0 (nI d) (nI h) (nI x) l k a w := by
  obtain ⟨h0, h3, hh, hx, hgd⟩ := G
  have hN := tm_N_le d (by omega)
  refine loop_0 (fun n i (s : Nat → Int32) => wY_independent_16 post (nI j) n (nI i) (nI d) (nI h) (nI x) l k a s) (fun i _ => ∀ q, q < i → (!(tm_va (nI q) d (F (6 + j))) && tm_sa F x d (nI j) (nI q)) = false) (tm_N d) w (fun j hj => absurd hj (by omega)) ?_ ?_
  · intro n s hI
    have g := hp s
    rw [tm_an_f hI] at g
    unfold wY_independent_16
    refine ty_int h0 h3 ?_
    exact br_t (nI_le (Nat.le_refl _) (by omega)) g
  · intro n i s hi hI kk
    unfold wY_independent_16
    refine ty_int h0 h3 ?_
    refine br_f (nI_ge hi (by omega)) (ty_val (6 + j) (nI_add 6 j) (tm_lvx h hj) h0 h3 har hgd (fun w3 => tm_br (fun hc => ty_fit hx (fun i hi => tm_lvx h hi) h0 h3 har hgd (fun w4 => tm_br (fun he => nm_r (nI_1 i) (kk w4 (lt_s hI ?_))) (fun he => ?_))) (fun hc => nm_r (nI_1 i) (kk w3 (lt_s hI ?_)))))
    · rw [he, Bool.and_false]
    · have g := hp w4
      rw [tm_an_t hi (by rw [hc, he]; rfl)] at g
      exact g
    · rw [hc]; rfl
theorem tm_hm_neg (F : Nat → List (Nat × Nat)) {x d : Nat} (h3 : d ≤ 3) : (tm_hm F x d < 0 ↔ tm_hm F x d = -2) := by
  have hN := tm_N_le d (by omega)
  unfold tm_hm
  rcases tm_fi_in (p := fun m => tm_sa F x d (-1) (nI m)) (tm_N d) 0 with z | ⟨j, _, b, _, e⟩
  · rw [z]; exact ⟨fun _ => rfl, fun _ => by decide⟩
  · rw [e]
    refine ⟨fun z => absurd z (nI_pos (by omega)), fun z => ?_⟩
    have g := nI_pos (n := j) (by omega)
    rw [z] at g
    exact absurd (by decide) g
theorem ty_sm_s {post : Int32 → SY → Prop} {kp f2 y : Int32} {d h x n : Nat} {F : Nat → List (Nat × Nat)} {k a l w : Nat → Int32} {f1 : Int32} (h0 : 0 < d) (h3 : d ≤ 3) (hx : x ≤ 6) (hgd : tm_gd F (tm_lv h x)) (har : tm_ar k a l F (tm_lv h x))
    (hp : ∀ w', wY_smallest_9 post kp n (if tm_hm F x d ≠ -2 then nI d else y) (nI (d - 1)) (nI d) f2 (nI x) l k a w') : wY_smallest_9 post kp (n + 1) y (nI d) f1 f2 (nI x) l k a w := by
  have hN := tm_N_le d (by omega)
  have e : nI d + (-1) = nI (d - 1) := by
    obtain ⟨q, rfl⟩ : ∃ q, d = q + 1 := ⟨d - 1, by omega⟩
    exact pk_m1 q
  unfold wY_smallest_9
  refine br_f (nI_nle h0 (by omega)) (ty_next h0 h3 hx hgd har (fun w' => ?_))
  rw [tm_nx_neg hN (by decide)]
  show (tm_hm F x d < 0 → _) ∧ (¬ tm_hm F x d < 0 → _)
  rw [tm_hm_neg F h3]
  refine br_c (fun z => nm_r e ?_) (fun z => nm_r e ?_)
  · have g := hp w'
    rw [if_neg (fun t => t z)] at g
    exact g
  · have g := hp w'
    rw [if_pos z] at g
    exact g
theorem ty_smallest {post : Int32 → SY → Prop} {d h x : Nat} {F : Nat → List (Nat × Nat)} {k a l w : Nat → Int32} (G : tm_I d h x F) (har : tm_ar k a l F (tm_lv h x))
    (hp : ∀ w', post (tm_sm F x) (nI d, nI h, nI x, l, k, a, w')) : wpY_smallest post (nI d, nI h, nI x, l, k, a, w) := by
  obtain ⟨h0, h3, hh, hx, hgd⟩ := G
  unfold wpY_smallest
  refine ⟨4, ty_sm_s (d := 3) (by omega) (by omega) hx hgd har (fun w1 => ty_sm_s (d := 2) (by omega) (by omega) hx hgd har (fun w2 => ty_sm_s (d := 1) (by omega) (by omega) hx hgd har (fun w3 => br_t (by decide +kernel) ?_)))⟩
  exact hp w3
