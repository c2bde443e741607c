/-! the component: further loops -/
def tm_fo (z o : Bool) : Int32 := if (z && o) = true then 2 else if o = true then 1 else if z = true then 0 else 3
theorem tx_f117 {post : Int32 → SX → Prop} {z o : Bool} {f1 f2 f3 : Int32} {k a l w : Nat → Int32} (h : post (tm_fo z o) (f1, f2, f3, k, a, l, w)) :
    (tm_bi z = 0 → wX_forced_117 post (tm_bi z) (tm_bi o) f1 f2 f3 k a l w) ∧ (¬ tm_bi z = 0 → ((tm_bi o = 0 → wX_forced_117 post (tm_bi z) (tm_bi o) f1 f2 f3 k a l w) ∧ (¬ tm_bi o = 0 → post 2 (f1, f2, f3, k, a, l, w)))) := by
  unfold wX_forced_117
  cases z <;> cases o
  · exact br_t rfl (br_t rfl (br_t rfl h))
  · exact br_t rfl (br_f (by decide) h)
  · exact br_f (by decide) (br_t rfl (br_t rfl (br_f (by decide) h)))
  · exact br_f (by decide) (br_f (by decide) h)
theorem tx_f78 {post : Int32 → SX → Prop} {J : Int32 → Int32 → Int32 → Int32 → Int32 → Int32 → (Nat → Int32) → (Nat → Int32) → (Nat → Int32) → (Nat → Int32) → Prop} {b i : Nat} {x2 z0 f1 f2 f3 : Int32} {o : Bool} {k a l w : Nat → Int32} (hb : b < 32) (h : J z0 (tm_bi (o || bt (nI i) b)) (nI (i + 1)) f1 f2 f3 k a l w) : wX_forced_78 post J (nI b) x2 (tm_bi o) (nI i) z0 f1 f2 f3 k a l w := by
  unfold wX_forced_78
  refine tm_br (fun ho => tx_dig b hb rfl (tm_br (fun hd => nm_r (nI_1 i) ?_) (fun hd => nm_r (nI_1 i) ?_))) (fun ho => nm_r (nI_1 i) ?_)
  · rw [ho, hd] at h; exact h
  · rw [ho, hd] at h; exact h
  · rw [ho, Bool.true_or] at h; exact h
theorem tx_forced40 {post : Int32 → SX → Prop} {b d h x : Nat} {F : Nat → List (Nat × Nat)} {k a l w : Nat → Int32} (hb : b < 32) (G : tm_I d h x F) (har : tm_ar k a l F (tm_lv h x))
    (hp : ∀ w', post (tm_fo (tm_an (fun m => tm_sa F x d (-1) (nI m) && !(bt (nI m) b)) (tm_N d)) (tm_an (fun m => tm_sa F x d (-1) (nI m) && bt (nI m) b) (tm_N d))) (nI d, nI h, nI x, k, a, l, w')) :
    ∃ n, wX_forced_40 post (nI b) (nI (tm_N d)) n 0 0 0 (nI d) (nI h) (nI x) k a l w := by
  obtain ⟨h0, h3, hh, hx, hgd⟩ := G
  have hN := tm_N_le d (by omega)
  refine loop_0 (fun n i (s : Int32 × Int32 × (Nat → Int32)) => wX_forced_40 post (nI b) (nI (tm_N d)) n s.1 s.2.1 (nI i) (nI d) (nI h) (nI x) k a l s.2.2)
    (fun i s => s.1 = tm_bi (tm_an (fun m => tm_sa F x d (-1) (nI m) && !(bt (nI m) b)) i) ∧ s.2.1 = tm_bi (tm_an (fun m => tm_sa F x d (-1) (nI m) && bt (nI m) b) i)) (tm_N d) (0, 0, w) ⟨rfl, rfl⟩ ?_ ?_
  · intro n s hs
    obtain ⟨z, o, w2⟩ := s
    obtain ⟨hz, ho⟩ := hs
    cases (show z = _ from hz)
    cases (show o = _ from ho)
    exact br_t (nI_le (Nat.le_refl _) (by omega)) (tx_f117 (hp w2))
  · intro n i s hi hs kk
    obtain ⟨z, o, w2⟩ := s
    obtain ⟨hz, ho⟩ := hs
    cases (show z = _ from hz)
    cases (show o = _ from ho)
    refine br_f (nI_ge hi (by omega)) (tx_sat hx (fun i hi => tm_lvx h hi) h0 h3 har hgd (fun w3 => tm_br (fun hc => nm_r (nI_1 i) (kk (_, _, w3) ⟨?_, ?_⟩)) (fun hc => ?_)))
    · exact congrArg tm_bi (by rw [tm_an_s, hc, Bool.false_and, Bool.or_false])
    · exact congrArg tm_bi (by rw [tm_an_s, hc, Bool.false_and, Bool.or_false])
    · have g1 : (tm_an (fun m => tm_sa F x d (-1) (nI m) && !(bt (nI m) b)) i || !(bt (nI i) b)) = tm_an (fun m => tm_sa F x d (-1) (nI m) && !(bt (nI m) b)) (i + 1) := by rw [tm_an_s, hc, Bool.true_and]
      have g2 : (tm_an (fun m => tm_sa F x d (-1) (nI m) && bt (nI m) b) i || bt (nI i) b) = tm_an (fun m => tm_sa F x d (-1) (nI m) && bt (nI m) b) (i + 1) := by rw [tm_an_s, hc, Bool.true_and]
      refine tm_br (fun hz => tx_dig b hb rfl (tm_br (fun hd => ?_) (fun hd => ?_))) (fun hz => ?_)
      · unfold wX_forced_73
        refine tx_f78 hb (kk (1, _, w3) ⟨?_, congrArg tm_bi g2⟩)
        rw [← g1, hz, hd]; rfl
      · refine tx_f78 hb (kk (0, _, w3) ⟨?_, congrArg tm_bi g2⟩)
        rw [← g1, hz, hd]; rfl
      · unfold wX_forced_73
        refine tx_f78 hb (kk (1, _, w3) ⟨?_, congrArg tm_bi g2⟩)
        rw [← g1, hz]; rfl
theorem tx_lists38 {post : Int32 → SX → Prop} {t f1 f2 f3 : Int32} {k a l w : Nat → Int32} (hp : post (nI (tm_cn (fun i => bt t i) 27)) (f1, f2, f3, k, a, l, w)) : ∃ n, wX_lists_38 post t f1 f2 f3 k a l w n 0 0 := by
  refine loop_0 (fun n i s => wX_lists_38 post t f1 f2 f3 k a l w n s (nI i)) (fun i s => s = nI (tm_cn (fun i => bt t i) i)) 27 0 rfl ?_ ?_
  · intro n s hs
    subst hs
    exact br_t (by decide +kernel) hp
  · intro n i s hi hs kk
    subst hs
    refine br_f (nI_ge (b := 27) hi (by omega)) (tx_dig i (by omega) rfl (tm_br (fun hb => nm_r (nI_1 i) (kk _ ?_)) (fun hb => nm_r (nI_1 _) (nm_r (nI_1 i) (kk _ ?_)))))
    · exact congrArg nI (tm_cnf (p := fun i => bt t i) hb)
    · exact congrArg nI (tm_cnt (p := fun i => bt t i) hb)
theorem tm_top {h x : Nat} (hh : 0 < h) : tm_lv h x (h - 1) := Or.inl (by omega)
theorem tm_hI {h : Nat} (hh : 0 < h) : nI h - 1 = nI (h - 1) := pk_sub (b := 1) hh
theorem tx_follows19 {post : Int32 → SX → Prop} {d h x : Nat} {F : Nat → List (Nat × Nat)} {k a l w : Nat → Int32} (h1 : 0 < h) (G : tm_I d h x F) (har : tm_ar k a l F (tm_lv h x))
    (hp : ∀ w', post (tm_bi (tm_al (fun m => !(tm_sa F x d (-1) (nI m)) || tm_va (nI m) d (F (h - 1))) (tm_N d))) (nI d, nI h, nI x, k, a, l, w')) : ∃ n, wX_follows_19 post (nI (tm_N d)) n 0 (nI d) (nI h) (nI x) k a l w := by
  obtain ⟨h0, h3, hh, hx, hgd⟩ := G
  have hN := tm_N_le d (by omega)
  refine loop_0 (fun n i (s : Nat → Int32) => wX_follows_19 post (nI (tm_N d)) n (nI i) (nI d) (nI h) (nI x) k a l s) (fun i _ => ∀ j, j < i → (!(tm_sa F x d (-1) (nI j)) || tm_va (nI j) d (F (h - 1))) = true) (tm_N d) w (fun j hj => absurd hj (by omega)) ?_ ?_
  · intro n s hI
    have g := hp s
    rw [tm_al_t.mpr hI] at g
    exact br_t (nI_le (Nat.le_refl _) (by omega)) g
  · intro n i s hi hI kk
    refine br_f (nI_ge hi (by omega)) (tx_sat hx (fun i hi => tm_lvx h hi) h0 h3 har hgd (fun w3 => tm_br (fun hc => nm_r (nI_1 i) (kk w3 (lt_s hI ?_))) (fun hc => tx_val (h - 1) (tm_hI h1) (tm_top h1) h0 h3 har hgd (fun w4 => tm_br (fun he => ?_) (fun he => nm_r (nI_1 i) (kk w4 (lt_s hI ?_)))))))
    · rw [hc]; rfl
    · have g := hp w4
      rw [tm_al_f hi (by rw [hc, he]; rfl)] at g
      exact g
    · rw [he, Bool.or_true]
theorem tx_agreeing21 {post : Int32 → SX → Prop} {d h x : Nat} {F : Nat → List (Nat × Nat)} {k a l w : Nat → Int32} (h1 : 0 < h) (G : tm_I d h x F) (har : tm_ar k a l F (tm_lv h x))
    (hp : ∀ w', post (nI (tm_cn (fun m => tm_sa F x d (-1) (nI m) && tm_va (nI m) d (F (h - 1))) (tm_N d))) (nI d, nI h, nI x, k, a, l, w')) : ∃ n, wX_agreeing_21 post (nI (tm_N d)) n 0 0 (nI d) (nI h) (nI x) k a l w := by
  obtain ⟨h0, h3, hh, hx, hgd⟩ := G
  have hN := tm_N_le d (by omega)
  refine loop_0 (fun n i (s : Int32 × (Nat → Int32)) => wX_agreeing_21 post (nI (tm_N d)) n s.1 (nI i) (nI d) (nI h) (nI x) k a l s.2) (fun i s => s.1 = nI (tm_cn (fun m => tm_sa F x d (-1) (nI m) && tm_va (nI m) d (F (h - 1))) i)) (tm_N d) (0, w) rfl ?_ ?_
  · intro n s hs
    obtain ⟨c, w2⟩ := s
    cases (show c = _ from hs)
    exact br_t (nI_le (Nat.le_refl _) (by omega)) (hp w2)
  · intro n i s hi hs kk
    obtain ⟨c, w2⟩ := s
    cases (show c = _ from hs)
    refine br_f (nI_ge hi (by omega)) (tx_sat hx (fun i hi => tm_lvx h hi) h0 h3 har hgd (fun w3 => tm_br (fun hc => nm_r (nI_1 i) (kk (_, w3) ?_)) (fun hc => tx_val (h - 1) (tm_hI h1) (tm_top h1) h0 h3 har hgd (fun w4 => tm_br (fun he => nm_r (nI_1 i) (kk (_, w4) ?_)) (fun he => nm_r (nI_1 _) (nm_r (nI_1 i) (kk (_, w4) ?_)))))))
    · exact congrArg nI (tm_cnf (p := fun m => tm_sa F x d (-1) (nI m) && tm_va (nI m) d (F (h - 1))) (by rw [hc, Bool.false_and]))
    · exact congrArg nI (tm_cnf (p := fun m => tm_sa F x d (-1) (nI m) && tm_va (nI m) d (F (h - 1))) (by rw [he, Bool.and_false]))
    · exact congrArg nI (tm_cnt (p := fun m => tm_sa F x d (-1) (nI m) && tm_va (nI m) d (F (h - 1))) (by rw [hc, he]; rfl))
theorem tm_hI2 {h : Nat} (hh : 2 ≤ h) : nI h - 2 = nI (h - 2) := pk_sub (b := 2) hh
theorem tx_alike20 {post : Int32 → SX → Prop} {d h x : Nat} {F : Nat → List (Nat × Nat)} {k a l w : Nat → Int32} (h2 : 2 ≤ h) (G : tm_I d h x F) (har : tm_ar k a l F (tm_lv h x))
    (hp : ∀ w', post (tm_bi (tm_al (fun m => !(tm_sa F x d (-1) (nI m)) || decide (tm_tv (nI m) d (F (h - 1)) = tm_tv (nI m) d (F (h - 2)))) (tm_N d))) (nI d, nI h, nI x, k, a, l, w')) : ∃ n, wX_alike_20 post (nI (tm_N d)) n 0 (nI d) (nI h) (nI x) k a l w := by
  obtain ⟨h0, h3, hh, hx, hgd⟩ := G
  have hN := tm_N_le d (by omega)
  refine loop_0 (fun n i (s : Nat → Int32) => wX_alike_20 post (nI (tm_N d)) n (nI i) (nI d) (nI h) (nI x) k a l s) (fun i _ => ∀ j, j < i → (!(tm_sa F x d (-1) (nI j)) || decide (tm_tv (nI j) d (F (h - 1)) = tm_tv (nI j) d (F (h - 2)))) = true) (tm_N d) w (fun j hj => absurd hj (by omega)) ?_ ?_
  · intro n s hI
    have g := hp s
    rw [tm_al_t.mpr hI] at g
    exact br_t (nI_le (Nat.le_refl _) (by omega)) g
  · intro n i s hi hI kk
    refine br_f (nI_ge hi (by omega)) (tx_sat hx (fun i hi => tm_lvx h hi) h0 h3 har hgd (fun w3 => tm_br (fun hc => nm_r (nI_1 i) (kk w3 (lt_s hI ?_))) (fun hc => tx_tr (h - 1) (tm_hI (by omega)) (tm_top (by omega)) h0 h3 har hgd (fun w4 => tx_tr (h - 2) (tm_hI2 h2) (Or.inl (by omega)) h0 h3 har hgd (fun w5 => br_c (fun he => nm_r (nI_1 i) (kk w5 (lt_s hI ?_))) (fun he => ?_))))))
    · rw [hc]; rfl
    · rw [decide_eq_true he, Bool.or_true]
    · have g := hp w5
      rw [tm_al_f hi (by rw [hc, decide_eq_false he]; rfl)] at g
      exact g
theorem tx_indep24 {post : Int32 → SX → Prop} {d h x j : Nat} {F : Nat → List (Nat × Nat)} {k a l w : Nat → Int32} (hj : j < x) (G : tm_I d h x F) (har : tm_ar k a l F (tm_lv h x))
    (hp : ∀ w', post (tm_bi (tm_an (fun m => !(tm_va (nI m) d (F (6 + j))) && tm_sa F x d (nI j) (nI m)) (tm_N d))) (nI d, nI h, nI x, k, a, l, w')) : ∃ n, wX_independent_24 post (nI j) (nI (tm_N d)) n 0 (nI d) (nI h) (nI x) k a l w := by
  obtain ⟨h0, h3, hh, hx, hgd⟩ := G
  have hN := tm_N_le d (by omega)
  refine loop_0 (fun n i (s : Nat → Int32) => wX_independent_24 post (nI j) (nI (tm_N d)) n (nI i) (nI d) (nI h) (nI x) k a l s) (fun i _ => ∀ q, q < i → (!(tm_va (nI q) d (F (6 + j))) && tm_sa F x d (nI j) (nI q)) = false) (tm_N d) w (fun j hj => absurd hj (by omega)) ?_ ?_
  · intro n s hI
    have g := hp s
    rw [tm_an_f hI] at g
    exact br_t (nI_le (Nat.le_refl _) (by omega)) g
  · intro n i s hi hI kk
    refine br_f (nI_ge hi (by omega)) (tx_val (6 + j) (nI_add 6 j) (tm_lvx h hj) h0 h3 har hgd (fun w3 => tm_br (fun hc => tx_sat hx (fun i hi => tm_lvx h hi) h0 h3 har hgd (fun w4 => tm_br (fun he => nm_r (nI_1 i) (kk w4 (lt_s hI ?_))) (fun he => ?_))) (fun hc => nm_r (nI_1 i) (kk w3 (lt_s hI ?_)))))
    · rw [he, Bool.and_false]
    · have g := hp w4
      rw [tm_an_t hi (by rw [hc, he]; rfl)] at g
      exact g
    · rw [hc]; rfl
def tm_hm (F : Nat → List (Nat × Nat)) (x d : Nat) : Int32 := tm_fi (fun m => tm_sa F x d (-1) (nI m)) (tm_N d) 0
def tm_sm (F : Nat → List (Nat × Nat)) (x : Nat) : Int32 := if tm_hm F x 1 ≠ -2 then 1 else if tm_hm F x 2 ≠ -2 then 2 else if tm_hm F x 3 ≠ -2 then 3 else 0
theorem tx_smallest {post : Int32 → SX → Prop} {d h x : Nat} {F : Nat → List (Nat × Nat)} {k a l w : Nat → Int32} (G : tm_I d h x F) (har : tm_ar k a l F (tm_lv h x))
    (hp : ∀ w', post (tm_sm F x) (nI d, nI h, nI x, k, a, l, w')) : wpX_smallest post (nI d, nI h, nI x, k, a, l, w) := by
  obtain ⟨h0, h3, hh, hx, hgd⟩ := G
  unfold wpX_smallest
  unfold tm_sm at hp
  refine ⟨4, br_f (by decide +kernel) (tx_least (d := 1) 0 rfl (Nat.zero_le _) (by omega) (by omega) hx hgd har (fun w1 => br_c (fun z1 => nm_r (nI_1 1) (br_f (by decide +kernel) (tx_least (d := 2) 0 rfl (Nat.zero_le _) (by omega) (by omega) hx hgd har (fun w2 => br_c (fun z2 => nm_r (nI_1 2) (br_f (by decide +kernel) (tx_least (d := 3) 0 rfl (Nat.zero_le _) (by omega) (by omega) hx hgd har (fun w3 => br_c (fun z3 => nm_r (nI_1 3) (br_t (by decide +kernel) ?_)) (fun z3 => ?_))))) (fun z2 => ?_))))) (fun z1 => ?_)))⟩
  · have g := hp w3
    rw [if_neg (fun y => y z1), if_neg (fun y => y z2), if_neg (fun y => y z3)] at g
    exact g
  · have g := hp w3
    rw [if_neg (fun y => y z1), if_neg (fun y => y z2), if_pos (show tm_hm F x 3 ≠ -2 from z3)] at g
    exact g
  · have g := hp w2
    rw [if_neg (fun y => y z1), if_pos (show tm_hm F x 2 ≠ -2 from z2)] at g
    exact g
  · have g := hp w1
    rw [if_pos (show tm_hm F x 1 ≠ -2 from z1)] at g
    exact g
