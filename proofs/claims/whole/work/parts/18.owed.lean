/-! the relation, and what is owed -/
def tm_X (u : SX) (d h x : Nat) (F : Nat → List (Nat × Nat)) : Prop := ∃ k a l w, u = (nI d, nI h, nI x, k, a, l, w) ∧ tm_ar k a l F (tm_lv h x)
def tm_Y (v : SY) (d h x : Nat) (F : Nat → List (Nat × Nat)) : Prop := ∃ k a l w, v = (nI d, nI h, nI x, l, k, a, w) ∧ tm_ar k a l F (tm_lv h x)
/-- the same d, the same numbers of formulas and rules, and in every slot in use the same well-formed tokens -/
def i_Rel (k : Nat) (u : SX) (v : SY) : Prop := ∃ d h x F, tm_X u d h x F ∧ tm_Y v d h x F ∧ tm_I d h x F
theorem i_up {k : Nat} {u : SX} {v : SY} (h : i_Rel k u v) : i_Rel (k + 3) u v := h
theorem tm_mkr {q d h x : Nat} {F : Nat → List (Nat × Nat)} {k a l w k' a' l' w' : Nat → Int32} (hX : tm_ar k a l F (tm_lv h x)) (hY : tm_ar k' a' l' F (tm_lv h x)) (G : tm_I d h x F) : i_Rel q (nI d, nI h, nI x, k, a, l, w) (nI d, nI h, nI x, l', k', a', w') :=
  ⟨d, h, x, F, ⟨k, a, l, w, rfl, hX⟩, ⟨k', a', l', w', rfl, hY⟩, G⟩
theorem i_vc0 : wpX_init (fun u => wpY_init (fun v => i_Rel 0 u v)) :=
  tm_mkr (q := 0) (d := 2) (h := 0) (x := 0) (F := fun _ => []) (fun s hs => by unfold tm_lv at hs; omega) (fun s hs => by unfold tm_lv at hs; omega) ⟨by omega, by omega, by omega, by omega, fun s hs => by unfold tm_lv at hs; omega⟩
theorem i_vc_domain {k : Nat} {u : SX} {v : SY} (I : i_Rel k u v) (hk : k + 3 ≤ 1536) (v1 : Int32) : wpX_domain (fun r u' => wpY_domain (fun r' v' => r' = r ∧ i_Rel (k + 3) u' v') v v1) u v1 := by
  obtain ⟨d, h, x, F, ⟨k1, a1, l1, w1, rfl, hX⟩, ⟨k2, a2, l2, w2, rfl, hY⟩, G⟩ := I
  by_cases c1 : v1 < 1
  · exact br_t c1 (br_t c1 ⟨rfl, tm_mkr hX hY G⟩)
  · by_cases c2 : v1 ≤ 3
    · obtain ⟨D, hD, rfl⟩ := nI_of (x := v1) (fun z => c1 (Int32.lt_trans z (by decide)))
      have d1 : 1 ≤ D := by
        rcases Nat.lt_or_ge D 1 with z | z
        · exact absurd (nI_lt (b := 1) z (by omega)) c1
        · exact z
      have d3 : D ≤ 3 := (nI_leI (b := 3) hD (by omega)).mp c2
      obtain ⟨h0, h3, hh, hx, hgd⟩ := G
      exact br_f c1 (br_t c2 (tx_int d1 d3 (br_f c1 (br_t c2 (ty_int d1 d3 ⟨rfl, tm_mkr hX hY ⟨d1, d3, hh, hx, hgd⟩⟩)))))
    · exact br_f c1 (br_f c2 (br_f c1 (br_f c2 ⟨rfl, tm_mkr hX hY G⟩)))
theorem i_vc_token {k : Nat} {u : SX} {v : SY} (I : i_Rel k u v) (hk : k + 3 ≤ 1536) (v1 : Int32) (v2 : Int32) : wpX_token (fun r u' => wpY_token (fun r' v' => r' = r ∧ i_Rel (k + 3) u' v') v v1 v2) u v1 v2 := by
  obtain ⟨d, h, x, F, ⟨k1, a1, l1, w1, rfl, hX⟩, ⟨k2, a2, l2, w2, rfl, hY⟩, G⟩ := I
  rcases tm_tok v1 v2 with ⟨K, A, rfl, hK, hc⟩ | c | ⟨K, rfl, hK, hk4, hc⟩
  · have hv : K < 4 ∨ 8 < K → v2 = nI A := by
      intro z
      rcases hc with c | c
      · omega
      · exact c.2.2
    have tX : ∀ q : Int32 → Prop, q 1 → wpX_isToken q (nI K) v2 := by
      intro q hq
      rcases hc with c | ⟨c1, c2, c3⟩
      · exact tx_tok_m c hq
      · subst c3
        exact tx_tok_k hK c1 (tx_58_1 (tm_tb_lt K) c2 hq)
    have tY : ∀ (q : Int32 → Prop), q 1 → wpY_isToken q (nI d, nI h, nI x, l2, k2, a2, w2) (nI K) v2 := by
      intro q hq
      rcases hc with c | ⟨c1, c2, c3⟩
      · exact ty_tok_m c hq
      · subst c3
        have hb := tm_tb_lt K
        exact ty_tok_k hK c1 (fun b eb => ty_rg1 (by omega) (by omega) hq)
    have hok : tm_ok (K, A) := tm_ok_of hK (hc.imp id (fun c => ⟨c.1, c.2.1⟩))
    obtain ⟨h0, h3, hh, hx, hgd⟩ := id G
    have ht2 := tm_tk_le K
    refine tx_token G hX hK tX hv (fun c => ?_) (fun c c' => ?_) (fun c c' c'' => ?_) (fun c c' c'' k3 a3 l3 hX3 => ?_)
    · exact ty_token G hY hK tY hv (fun _ => ⟨rfl, tm_mkr hX hY G⟩) (fun z _ => absurd z (by omega)) (fun z _ _ => absurd z (by omega)) (fun z _ _ => absurd z (by omega))
    · exact ty_token G hY hK tY hv (fun z => absurd z (by omega)) (fun _ _ => ⟨rfl, tm_mkr hX hY G⟩) (fun _ z _ => absurd (z c) (by omega)) (fun _ z _ => absurd (z c) (by omega))
    · exact ty_token G hY hK tY hv (fun z => absurd z (by omega)) (fun z y => absurd (c' z) (by omega)) (fun _ _ _ => ⟨rfl, tm_mkr hX hY G⟩) (fun _ _ z => absurd z (by omega))
    · refine ty_token G hY hK tY hv (fun z => absurd z (by omega)) (fun z y => absurd (c' z) (by omega)) (fun _ _ z => absurd z (by omega)) (fun _ _ _ k4 a4 l4 hY4 => ⟨rfl, ?_⟩)
      have live : ∀ s, tm_lv (h - tm_tk K + 1) x s → tm_lv h x s ∨ s = h - tm_tk K := by
        intro s hs
        unfold tm_lv at hs ⊢
        omega
      have wf : tm_wf (tm_T0 F h (tm_tk K) ++ [(K, A)]) 0 1 := by
        have g := tm_wf_app _ _ 0 (tm_tk K) _ (tm_T0_wf c ht2 hgd) (tm_wf_1 hok (Nat.le_refl (tm_tk K)))
        rw [Nat.sub_self] at g
        exact g
      have len : (tm_T0 F h (tm_tk K) ++ [(K, A)]).length = (tm_T0 F h (tm_tk K)).length + 1 := by rw [List.length_append]; rfl
      refine tm_mkr (tm_ar_mono hX3 live) (tm_ar_mono hY4 live) ⟨h0, h3, ?_, hx, tm_gd_mono (tm_gd_put hgd (by omega) (by omega) (by omega) wf) live⟩
      by_cases z : tm_tk K = 0
      · have := c' z; omega
      · omega
  · unfold wpX_token
    refine tx_tok_o c (br_t rfl ?_)
    unfold wpY_token
    refine ty_tok_o c (br_t rfl ?_)
    exact ⟨rfl, tm_mkr hX hY G⟩
  · have hb := tm_tb_lt K
    unfold wpX_token
    refine tx_tok_k hK hk4 (tx_58_0 hc (br_t rfl ?_))
    unfold wpY_token
    refine ty_tok_k hK hk4 (fun b eb => ?_)
    have hc' : v2 < 0 ∨ nI (b + 1) ≤ v2 := by rw [eb]; exact hc
    exact br_c (fun _ => br_t rfl ⟨rfl, tm_mkr hX hY G⟩) (fun z => br_t (Int32.lt_of_lt_of_le (nI_lt (Nat.lt_succ_self b) (by omega)) (hc'.resolve_left z)) (br_t rfl ⟨rfl, tm_mkr hX hY G⟩))
theorem i_vc_drop {k : Nat} {u : SX} {v : SY} (I : i_Rel k u v) (hk : k + 3 ≤ 1536) : wpX_drop (fun r u' => wpY_drop (fun r' v' => r' = r ∧ i_Rel (k + 3) u' v') v) u := by
  obtain ⟨d, h, x, F, ⟨k1, a1, l1, w1, rfl, hX⟩, ⟨k2, a2, l2, w2, rfl, hY⟩, G⟩ := I
  obtain ⟨h0, h3, hh, hx, hgd⟩ := id G
  unfold wpX_drop wpY_drop
  refine pk_eq h 0 (fun c => pk_eq h 0 (fun _ => ⟨rfl, tm_mkr hX hY G⟩) (fun z => absurd c z)) (fun c => nm_r (tm_hI (by omega)) (pk_eq h 0 (fun z => absurd z c) (fun _ => nm_r (tm_hI (by omega)) ⟨rfl, ?_⟩)))
  have live : ∀ s, tm_lv (h - 1) x s → tm_lv h x s := by
    intro s hs
    unfold tm_lv at hs ⊢
    omega
  exact tm_mkr (tm_ar_mono hX live) (tm_ar_mono hY live) ⟨h0, h3, by omega, hx, tm_gd_mono hgd live⟩
theorem i_vc_axiom {k : Nat} {u : SX} {v : SY} (I : i_Rel k u v) (hk : k + 3 ≤ 1536) : wpX_axiom (fun r u' => wpY_axiom (fun r' v' => r' = r ∧ i_Rel (k + 3) u' v') v) u := by
  obtain ⟨d, h, x, F, ⟨k1, a1, l1, w1, rfl, hX⟩, ⟨k2, a2, l2, w2, rfl, hY⟩, G⟩ := I
  obtain ⟨h0, h3, hh, hx, hgd⟩ := id G
  unfold wpX_axiom wpY_axiom
  refine pk_eq h 0 (fun c => pk_eq h 0 (fun _ => ⟨rfl, tm_mkr hX hY G⟩) (fun z => absurd c z)) (fun c => pk_eq x 6 (fun c6 => pk_eq h 0 (fun z => absurd z c) (fun _ => pk_eq x 6 (fun _ => ⟨rfl, tm_mkr hX hY G⟩) (fun z => absurd c6 z))) (fun c6 => nm_r (tm_hI (by omega)) ?_))
  have lv : tm_lv h x (h - 1) := tm_top (by omega)
  obtain ⟨_, g1, g2, g3⟩ := hgd _ lv
  refine tx_rep (fr := h - 1) (to := 6 + x) rfl (nI_add 6 x) lv (by omega) (by omega) hX hgd (fun k3 a3 l3 hX3 => nm_r (nI_1 x) ?_)
  refine pk_eq h 0 (fun z => absurd z c) (fun _ => pk_eq x 6 (fun z => absurd z c6) (fun _ => ?_))
  refine ty_cop (fr := h - 1) (to := 6 + x) (tm_hI (by omega)) (nI_add 6 x) lv (by omega) (by omega) hY hgd (fun k4 a4 l4 hY4 => nm_r (tm_hI (by omega)) (nm_r (nI_1 x) ⟨rfl, ?_⟩))
  have live : ∀ s, tm_lv (h - 1) (x + 1) s → tm_lv h x s ∨ s = 6 + x := by
    intro s hs
    unfold tm_lv at hs ⊢
    omega
  exact tm_mkr (tm_ar_mono hX3 live) (tm_ar_mono hY4 live) ⟨h0, h3, by omega, by omega, tm_gd_mono (tm_gd_put hgd (by omega) g1 g2 g3) live⟩
theorem i_vc_retract {k : Nat} {u : SX} {v : SY} (I : i_Rel k u v) (hk : k + 3 ≤ 1536) (v1 : Int32) : wpX_retract (fun r u' => wpY_retract (fun r' v' => r' = r ∧ i_Rel (k + 3) u' v') v v1) u v1 := by
  obtain ⟨d, h, x, F, ⟨k1, a1, l1, w1, rfl, hX⟩, ⟨k2, a2, l2, w2, rfl, hY⟩, G⟩ := I
  obtain ⟨h0, h3, hh, hx, hgd⟩ := id G
  rcases pk_ix v1 (n := x) (by omega) with c | c | ⟨i, hi, rfl⟩
  · exact br_t c (br_t c ⟨rfl, tm_mkr hX hY G⟩)
  · have z : ¬ v1 < 0 := Int32.not_lt.mpr (Int32.le_trans (nI_pos' (n := x) (by omega)) c)
    exact br_f z (br_f (Int32.not_lt.mpr c) (br_f z (br_f (Int32.not_lt.mpr c) ⟨rfl, tm_mkr hX hY G⟩)))
  · refine br_f (nI_pos (by omega)) (br_t (nI_lt hi (by omega)) (nm_r (tm_hI (by omega)) ⟨x + 1, tx_ret26 hx hi hgd (x - 1 - i) 0 k1 a1 l1 _ (by omega) (by omega) hX (fun k3 a3 l3 hX3 => ?_)⟩))
    refine br_f (nI_pos (by omega)) (br_t (nI_lt hi (by omega)) ⟨x + 1, ty_ret16 hx hi hgd (x - 1 - i) 0 k2 a2 l2 _ (by omega) (by omega) hY (fun k4 a4 l4 hY4 => ⟨rfl, ?_⟩)⟩)
    have live : ∀ s, tm_lv h (x - 1) s → tm_lv h x s := by
      intro s hs
      unfold tm_lv at hs ⊢
      omega
    exact tm_mkr (tm_ar_mono hX3 live) (tm_ar_mono hY4 live) ⟨h0, h3, hh, by omega, tm_gd_mono (tm_rt_gd hx hgd _ (by omega)) live⟩
theorem i_vc_models {k : Nat} {u : SX} {v : SY} (I : i_Rel k u v) (hk : k + 3 ≤ 1536) : wpX_models (fun r u' => wpY_models (fun r' v' => r' = r ∧ i_Rel (k + 3) u' v') v) u := by
  obtain ⟨d, h, x, F, ⟨k1, a1, l1, w1, rfl, hX⟩, ⟨k2, a2, l2, w2, rfl, hY⟩, G⟩ := I
  exact tx_models G hX (fun w3 => ty_models G hY (fun w4 => ⟨rfl, tm_mkr hX hY G⟩))
theorem i_vc_next {k : Nat} {u : SX} {v : SY} (I : i_Rel k u v) (hk : k + 3 ≤ 1536) (v1 : Int32) : wpX_next (fun r u' => wpY_next (fun r' v' => r' = r ∧ i_Rel (k + 3) u' v') v v1) u v1 := by
  obtain ⟨d, h, x, F, ⟨k1, a1, l1, w1, rfl, hX⟩, ⟨k2, a2, l2, w2, rfl, hY⟩, G⟩ := I
  obtain ⟨h0, h3, hh, hx, hgd⟩ := id G
  exact tx_next G hX (fun w3 => ty_next h0 h3 hx hgd hY (fun w4 => ⟨rfl, tm_mkr hX hY G⟩))
theorem i_vc_isModel {k : Nat} {u : SX} {v : SY} (I : i_Rel k u v) (hk : k + 3 ≤ 1536) (v1 : Int32) : wpX_isModel (fun r u' => wpY_isModel (fun r' v' => r' = r ∧ i_Rel (k + 3) u' v') v v1) u v1 := by
  obtain ⟨d, h, x, F, ⟨k1, a1, l1, w1, rfl, hX⟩, ⟨k2, a2, l2, w2, rfl, hY⟩, G⟩ := I
  obtain ⟨h0, h3, hh, hx, hgd⟩ := id G
  have hN := tm_N_le d (by omega)
  have no : (v1 < 0 ∨ nI (tm_N d) ≤ v1) → wpX_isModel (fun r u' => wpY_isModel (fun r' v' => r' = r ∧ i_Rel (k + 3) u' v') (nI d, nI h, nI x, l2, k2, a2, w2) v1) (nI d, nI h, nI x, k1, a1, l1, w1) v1 := by
    intro c
    unfold wpX_isModel wpY_isModel
    exact tx_isI0 h0 h3 c (br_t rfl (ty_isI0 h0 h3 c (br_t rfl ⟨rfl, tm_mkr hX hY G⟩)))
  rcases pk_ix v1 (n := tm_N d) (by omega) with c | c | ⟨i, hi, rfl⟩
  · exact no (Or.inl c)
  · exact no (Or.inr c)
  · unfold wpX_isModel wpY_isModel
    refine tx_isI1 h0 h3 hi (br_f (by decide) (tx_sat hx (fun i hi => tm_lvx h hi) h0 h3 hX hgd (fun w3 => tm_br (fun z => ?_) (fun z => ?_))))
    · exact ty_isI1 h0 h3 hi (br_f (by decide) (ty_fit hx (fun i hi => tm_lvx h hi) h0 h3 hY hgd (fun w4 => tm_br (fun _ => ⟨rfl, tm_mkr hX hY G⟩) (fun y => by rw [z] at y; exact absurd y (by decide)))))
    · exact ty_isI1 h0 h3 hi (br_f (by decide) (ty_fit hx (fun i hi => tm_lvx h hi) h0 h3 hY hgd (fun w4 => tm_br (fun y => by rw [z] at y; exact absurd y (by decide)) (fun _ => ⟨rfl, tm_mkr hX hY G⟩))))
theorem i_vc_shapes {k : Nat} {u : SX} {v : SY} (I : i_Rel k u v) (hk : k + 3 ≤ 1536) : wpX_shapes (fun r u' => wpY_shapes (fun r' v' => r' = r ∧ i_Rel (k + 3) u' v') v) u := by
  obtain ⟨d, h, x, F, ⟨k1, a1, l1, w1, rfl, hX⟩, ⟨k2, a2, l2, w2, rfl, hY⟩, G⟩ := I
  exact tx_shapes G hX (fun w3 => ty_shapes G hY (fun w4 => ⟨rfl, tm_mkr hX hY G⟩))
theorem i_vc_sameShape {k : Nat} {u : SX} {v : SY} (I : i_Rel k u v) (hk : k + 3 ≤ 1536) (v1 : Int32) (v2 : Int32) : wpX_sameShape (fun r => wpY_sameShape (fun r' => r' = r ∧ i_Rel (k + 3) u v) v v1 v2) u v1 v2 := by
  obtain ⟨d, h, x, F, ⟨k1, a1, l1, w1, rfl, hX⟩, ⟨k2, a2, l2, w2, rfl, hY⟩, G⟩ := I
  obtain ⟨h0, h3, hh, hx, hgd⟩ := id G
  have hN := tm_N_le d (by omega)
  have R : i_Rel (k + 3) (nI d, nI h, nI x, k1, a1, l1, w1) (nI d, nI h, nI x, l2, k2, a2, w2) := tm_mkr hX hY G
  have no : (v1 < 0 ∨ nI (tm_N d) ≤ v1) → wpX_sameShape (fun r => wpY_sameShape (fun r' => r' = r ∧ i_Rel (k + 3) (nI d, nI h, nI x, k1, a1, l1, w1) (nI d, nI h, nI x, l2, k2, a2, w2)) (nI d, nI h, nI x, l2, k2, a2, w2) v1 v2) (nI d, nI h, nI x, k1, a1, l1, w1) v1 v2 := by
    intro c
    unfold wpX_sameShape wpY_sameShape
    exact tx_isI0 h0 h3 c (br_t rfl (ty_isI0 h0 h3 c (br_t rfl ⟨rfl, R⟩)))
  rcases pk_ix v1 (n := tm_N d) (by omega) with c | c | ⟨i, hi, rfl⟩
  · exact no (Or.inl c)
  · exact no (Or.inr c)
  · have no2 : (v2 < 0 ∨ nI (tm_N d) ≤ v2) → wpX_sameShape (fun r => wpY_sameShape (fun r' => r' = r ∧ i_Rel (k + 3) (nI d, nI h, nI x, k1, a1, l1, w1) (nI d, nI h, nI x, l2, k2, a2, w2)) (nI d, nI h, nI x, l2, k2, a2, w2) (nI i) v2) (nI d, nI h, nI x, k1, a1, l1, w1) (nI i) v2 := by
      intro c
      unfold wpX_sameShape wpY_sameShape
      exact tx_isI1 h0 h3 hi (br_f (by decide) (tx_isI0 h0 h3 c (br_t rfl (ty_isI1 h0 h3 hi (br_f (by decide) (ty_isI0 h0 h3 c (br_t rfl ⟨rfl, R⟩)))))))
    rcases pk_ix v2 (n := tm_N d) (by omega) with c | c | ⟨j, hj, rfl⟩
    · exact no2 (Or.inl c)
    · exact no2 (Or.inr c)
    · unfold wpX_sameShape wpY_sameShape
      have hc := tm_cn_le (fun q => tm_oo q d && decide (tm_mv (nI i) d (tm_el q) d = nI j)) 27
      refine tx_isI1 h0 h3 hi (br_f (by decide) (tx_isI1 h0 h3 hj (br_f (by decide) (tx_mt h3 (br_c (fun z => ?_) (fun z => ?_))))))
      · exact ty_isI1 h0 h3 hi (br_f (by decide) (ty_isI1 h0 h3 hj (br_f (by decide) (ty_mt h0 h3 (br_t z ⟨rfl, R⟩)))))
      · exact ty_isI1 h0 h3 hi (br_f (by decide) (ty_isI1 h0 h3 hj (br_f (by decide) (ty_mt h0 h3 (br_f z ⟨rfl, R⟩)))))
theorem i_vc_symmetries {k : Nat} {u : SX} {v : SY} (I : i_Rel k u v) (hk : k + 3 ≤ 1536) (v1 : Int32) : wpX_symmetries (fun r => wpY_symmetries (fun r' => r' = r ∧ i_Rel (k + 3) u v) v v1) u v1 := by
  obtain ⟨d, h, x, F, ⟨k1, a1, l1, w1, rfl, hX⟩, ⟨k2, a2, l2, w2, rfl, hY⟩, G⟩ := I
  obtain ⟨h0, h3, hh, hx, hgd⟩ := id G
  have hN := tm_N_le d (by omega)
  have R : i_Rel (k + 3) (nI d, nI h, nI x, k1, a1, l1, w1) (nI d, nI h, nI x, l2, k2, a2, w2) := tm_mkr hX hY G
  unfold wpX_symmetries wpY_symmetries
  rcases pk_ix v1 (n := tm_N d) (by omega) with c | c | ⟨i, hi, rfl⟩
  · exact tx_isI0 h0 h3 (Or.inl c) (br_t rfl (ty_isI0 h0 h3 (Or.inl c) (br_t rfl ⟨rfl, R⟩)))
  · exact tx_isI0 h0 h3 (Or.inr c) (br_t rfl (ty_isI0 h0 h3 (Or.inr c) (br_t rfl ⟨rfl, R⟩)))
  · exact tx_isI1 h0 h3 hi (br_f (by decide) (tx_mt h3 (ty_isI1 h0 h3 hi (br_f (by decide) (ty_mt h0 h3 ⟨rfl, R⟩)))))
theorem i_vc_forced {k : Nat} {u : SX} {v : SY} (I : i_Rel k u v) (hk : k + 3 ≤ 1536) (v1 : Int32) : wpX_forced (fun r u' => wpY_forced (fun r' v' => r' = r ∧ i_Rel (k + 3) u' v') v v1) u v1 := by
  obtain ⟨d, h, x, F, ⟨k1, a1, l1, w1, rfl, hX⟩, ⟨k2, a2, l2, w2, rfl, hY⟩, G⟩ := I
  obtain ⟨h0, h3, hh, hx, hgd⟩ := id G
  have b1 : d * d ≤ 3 * 3 := Nat.mul_le_mul h3 h3
  have e : nI d + nI d * nI d = nI (d + d * d) := by rw [pk_mul, nI_add]
  unfold wpX_forced wpY_forced
  dsimp only
  rw [e]
  rcases pk_ix v1 (n := d + d * d) (by omega) with c | c | ⟨b, hb, rfl⟩
  · exact br_t c (br_t c ⟨rfl, tm_mkr hX hY G⟩)
  · have z : ¬ v1 < 0 := Int32.not_lt.mpr (Int32.le_trans (nI_pos' (n := d + d * d) (by omega)) c)
    exact br_f z (br_f (Int32.not_lt.mpr c) (br_f z (br_f (Int32.not_lt.mpr c) ⟨rfl, tm_mkr hX hY G⟩)))
  · have z : ¬ nI b < 0 := nI_pos (by omega)
    have z2 : nI b < nI (d + d * d) := nI_lt hb (by omega)
    exact br_f z (br_t z2 (tx_int h0 h3 (tx_forced40 (by omega) G hX (fun w3 => br_f z (br_t z2 (ty_forced31 (by omega) G hY (fun w4 => ⟨rfl, tm_mkr hX hY G⟩)))))))
theorem ty_isl0 {post : Int32 → Prop} {u : SY} {v2 : Int32} (hv : v2 < 0 ∨ nI 27 ≤ v2) (h : post 0) : wpY_isList post u v2 := by
  obtain ⟨f1, f2, f3, a1, a2, a3, a4⟩ := u
  unfold wpY_isList
  exact br_c (fun _ => h) (fun z => br_t (hv.resolve_left z) h)
theorem i_vc_holds {k : Nat} {u : SX} {v : SY} (I : i_Rel k u v) (hk : k + 3 ≤ 1536) (v1 : Int32) (v2 : Int32) : wpX_holds (fun r u' => wpY_holds (fun r' v' => r' = r ∧ i_Rel (k + 3) u' v') v v1 v2) u v1 v2 := by
  obtain ⟨d, h, x, F, ⟨k1, a1, l1, w1, rfl, hX⟩, ⟨k2, a2, l2, w2, rfl, hY⟩, G⟩ := I
  obtain ⟨h0, h3, hh, hx, hgd⟩ := id G
  have hN := tm_N_le d (by omega)
  unfold wpX_holds wpY_holds
  refine pk_eq h 0 (fun c => pk_eq h 0 (fun _ => ⟨rfl, tm_mkr hX hY G⟩) (fun z => absurd c z)) (fun c => ?_)
  have ne : ¬ nI h = 0 := nI_ne0 (by omega) (by omega)
  rcases pk_ix v1 (n := tm_N d) (by omega) with c1 | c1 | ⟨i, hi, rfl⟩
  · exact tx_isI0 h0 h3 (Or.inl c1) (br_t rfl (br_f ne (ty_isI0 h0 h3 (Or.inl c1) (br_t rfl ⟨rfl, tm_mkr hX hY G⟩))))
  · exact tx_isI0 h0 h3 (Or.inr c1) (br_t rfl (br_f ne (ty_isI0 h0 h3 (Or.inr c1) (br_t rfl ⟨rfl, tm_mkr hX hY G⟩))))
  · refine tx_isI1 h0 h3 hi (br_f (by decide) ?_)
    rcases pk_ix v2 (n := 27) (by omega) with c2 | c2 | ⟨j, hj, rfl⟩
    · exact br_t c2 (br_f ne (ty_isI1 h0 h3 hi (br_f (by decide) (ty_isl0 (Or.inl c2) (br_t rfl ⟨rfl, tm_mkr hX hY G⟩)))))
    · have z : ¬ v2 < 0 := Int32.not_lt.mpr (Int32.le_trans (nI_pos' (n := 27) (by omega)) c2)
      exact br_f z (br_f (Int32.not_lt.mpr c2) (br_f ne (ty_isI1 h0 h3 hi (br_f (by decide) (ty_isl0 (Or.inr c2) (br_t rfl ⟨rfl, tm_mkr hX hY G⟩))))))
    · have eb := tm_dom_b h0 h3 (i := j) (by omega)
      rw [decide_eq_true hj, Bool.true_and] at eb
      refine br_f (nI_pos (by omega)) (br_t (nI_lt (b := 27) hj (by omega)) (tx_lod h0 h3 (tx_dig j (by omega) rfl (tm_br (fun z => ?_) (fun z => ?_)))))
      · rw [eb] at z
        exact br_f ne (ty_isI1 h0 h3 hi (br_f (by decide) (ty_isl h3 hj (tm_br (fun _ => ⟨rfl, tm_mkr hX hY G⟩) (fun y => by rw [z] at y; exact absurd y (by decide))))))
      · rw [eb] at z
        refine tx_tr (h - 1) (tm_hI (by omega)) (tm_top (by omega)) h0 h3 hX hgd (fun w3 => tx_dig j (by omega) rfl (tm_br (fun y => ?_) (fun y => ?_)))
        · refine br_f ne (ty_isI1 h0 h3 hi (br_f (by decide) (ty_isl h3 hj (tm_br (fun q => by rw [z] at q; exact absurd q (by decide)) (fun _ => ty_lo (h - 1) (tm_hI (by omega)) (tm_top (by omega)) h0 h3 hY hgd (fun w4 => ⟨?_, tm_mkr hX hY G⟩))))))
          rw [tm_dg _ (by omega), y]; rfl
        · refine br_f ne (ty_isI1 h0 h3 hi (br_f (by decide) (ty_isl h3 hj (tm_br (fun q => by rw [z] at q; exact absurd q (by decide)) (fun _ => ty_lo (h - 1) (tm_hI (by omega)) (tm_top (by omega)) h0 h3 hY hgd (fun w4 => ⟨?_, tm_mkr hX hY G⟩))))))
          rw [tm_dg _ (by omega), y]; rfl
theorem i_vc_lists {k : Nat} {u : SX} {v : SY} (I : i_Rel k u v) (hk : k + 3 ≤ 1536) (v1 : Int32) : wpX_lists (fun r u' => wpY_lists (fun r' v' => r' = r ∧ i_Rel (k + 3) u' v') v v1) u v1 := by
  obtain ⟨d, h, x, F, ⟨k1, a1, l1, w1, rfl, hX⟩, ⟨k2, a2, l2, w2, rfl, hY⟩, G⟩ := I
  obtain ⟨h0, h3, hh, hx, hgd⟩ := id G
  have hN := tm_N_le d (by omega)
  unfold wpX_lists wpY_lists
  refine pk_eq h 0 (fun c => pk_eq h 0 (fun _ => ⟨rfl, tm_mkr hX hY G⟩) (fun z => absurd c z)) (fun c => ?_)
  have ne : ¬ nI h = 0 := nI_ne0 (by omega) (by omega)
  rcases pk_ix v1 (n := tm_N d) (by omega) with c1 | c1 | ⟨i, hi, rfl⟩
  · exact tx_isI0 h0 h3 (Or.inl c1) (br_t rfl (br_f ne (ty_isI0 h0 h3 (Or.inl c1) (br_t rfl ⟨rfl, tm_mkr hX hY G⟩))))
  · exact tx_isI0 h0 h3 (Or.inr c1) (br_t rfl (br_f ne (ty_isI0 h0 h3 (Or.inr c1) (br_t rfl ⟨rfl, tm_mkr hX hY G⟩))))
  · exact tx_isI1 h0 h3 hi (br_f (by decide) (tx_tr (h - 1) (tm_hI (by omega)) (tm_top (by omega)) h0 h3 hX hgd (fun w3 => tx_lists38 (br_f ne (ty_isI1 h0 h3 hi (br_f (by decide) (ty_lo (h - 1) (tm_hI (by omega)) (tm_top (by omega)) h0 h3 hY hgd (fun w4 => ty_lists34 ⟨rfl, tm_mkr hX hY G⟩))))))))
theorem i_vc_follows {k : Nat} {u : SX} {v : SY} (I : i_Rel k u v) (hk : k + 3 ≤ 1536) : wpX_follows (fun r u' => wpY_follows (fun r' v' => r' = r ∧ i_Rel (k + 3) u' v') v) u := by
  obtain ⟨d, h, x, F, ⟨k1, a1, l1, w1, rfl, hX⟩, ⟨k2, a2, l2, w2, rfl, hY⟩, G⟩ := I
  obtain ⟨h0, h3, hh, hx, hgd⟩ := id G
  unfold wpX_follows wpY_follows
  refine pk_eq h 0 (fun c => pk_eq h 0 (fun _ => ⟨rfl, tm_mkr hX hY G⟩) (fun z => absurd c z)) (fun c => tx_int h0 h3 (tx_follows19 (by omega) G hX (fun w3 => pk_eq h 0 (fun z => absurd z c) (fun _ => ty_follows11 (by omega) G hY (fun w4 => ⟨rfl, tm_mkr hX hY G⟩)))))
theorem i_vc_agreeing {k : Nat} {u : SX} {v : SY} (I : i_Rel k u v) (hk : k + 3 ≤ 1536) : wpX_agreeing (fun r u' => wpY_agreeing (fun r' v' => r' = r ∧ i_Rel (k + 3) u' v') v) u := by
  obtain ⟨d, h, x, F, ⟨k1, a1, l1, w1, rfl, hX⟩, ⟨k2, a2, l2, w2, rfl, hY⟩, G⟩ := I
  obtain ⟨h0, h3, hh, hx, hgd⟩ := id G
  unfold wpX_agreeing wpY_agreeing
  refine pk_eq h 0 (fun c => pk_eq h 0 (fun _ => ⟨rfl, tm_mkr hX hY G⟩) (fun z => absurd c z)) (fun c => tx_int h0 h3 (tx_agreeing21 (by omega) G hX (fun w3 => pk_eq h 0 (fun z => absurd z c) (fun _ => ty_agreeing13 (by omega) G hY (fun w4 => ⟨rfl, tm_mkr hX hY G⟩)))))
theorem i_vc_alike {k : Nat} {u : SX} {v : SY} (I : i_Rel k u v) (hk : k + 3 ≤ 1536) : wpX_alike (fun r u' => wpY_alike (fun r' v' => r' = r ∧ i_Rel (k + 3) u' v') v) u := by
  obtain ⟨d, h, x, F, ⟨k1, a1, l1, w1, rfl, hX⟩, ⟨k2, a2, l2, w2, rfl, hY⟩, G⟩ := I
  obtain ⟨h0, h3, hh, hx, hgd⟩ := id G
  unfold wpX_alike wpY_alike
  refine pk_le 2 h (fun c => tx_int h0 h3 (tx_alike20 c G hX (fun w3 => pk_le 2 h (fun _ => ty_alike12 c G hY (fun w4 => ⟨rfl, tm_mkr hX hY G⟩)) (fun z => absurd z (by omega))))) (fun c => pk_le 2 h (fun z => absurd z (by omega)) (fun _ => ⟨rfl, tm_mkr hX hY G⟩))
theorem i_vc_independent {k : Nat} {u : SX} {v : SY} (I : i_Rel k u v) (hk : k + 3 ≤ 1536) (v1 : Int32) : wpX_independent (fun r u' => wpY_independent (fun r' v' => r' = r ∧ i_Rel (k + 3) u' v') v v1) u v1 := by
  obtain ⟨d, h, x, F, ⟨k1, a1, l1, w1, rfl, hX⟩, ⟨k2, a2, l2, w2, rfl, hY⟩, G⟩ := I
  obtain ⟨h0, h3, hh, hx, hgd⟩ := id G
  unfold wpX_independent wpY_independent
  rcases pk_ix v1 (n := x) (by omega) with c | c | ⟨j, hj, rfl⟩
  · exact br_t c (br_t c ⟨rfl, tm_mkr hX hY G⟩)
  · have z : ¬ v1 < 0 := Int32.not_lt.mpr (Int32.le_trans (nI_pos' (n := x) (by omega)) c)
    exact br_f z (br_f (Int32.not_lt.mpr c) (br_f z (br_f (Int32.not_lt.mpr c) ⟨rfl, tm_mkr hX hY G⟩)))
  · have z : ¬ nI j < 0 := nI_pos (by omega)
    have z2 : nI j < nI x := nI_lt hj (by omega)
    exact br_f z (br_t z2 (tx_int h0 h3 (tx_indep24 hj G hX (fun w3 => br_f z (br_t z2 (ty_indep16 hj G hY (fun w4 => ⟨rfl, tm_mkr hX hY G⟩)))))))
theorem i_vc_smallest {k : Nat} {u : SX} {v : SY} (I : i_Rel k u v) (hk : k + 3 ≤ 1536) : wpX_smallest (fun r u' => wpY_smallest (fun r' v' => r' = r ∧ i_Rel (k + 3) u' v') v) u := by
  obtain ⟨d, h, x, F, ⟨k1, a1, l1, w1, rfl, hX⟩, ⟨k2, a2, l2, w2, rfl, hY⟩, G⟩ := I
  exact tx_smallest G hX (fun w3 => ty_smallest G hY (fun w4 => ⟨rfl, tm_mkr hX hY G⟩))
