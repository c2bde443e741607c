/-! token, both sides -/
theorem tm_ok_of {K A : Nat} (hK : K ≤ 11) (h : (4 ≤ K ∧ K ≤ 8) ∨ ((K < 4 ∨ 8 < K) ∧ A < tm_tb K)) : tm_ok (K, A) := by
  unfold tm_ok
  unfold tm_tb at h
  dsimp only
  refine ⟨hK, fun z => ?_, fun z => ?_, fun z => ?_⟩
  · rw [if_pos z] at h; omega
  · rw [if_neg (by omega), if_neg (by omega)] at h; omega
  · rw [if_neg (by omega), if_pos z] at h; omega
theorem tm_T0_wf {F : Nat → List (Nat × Nat)} {h x t : Nat} (ht : t ≤ h) (ht2 : t ≤ 2) (hgd : tm_gd F (tm_lv h x)) : tm_wf (tm_T0 F h t) 0 t := by
  rcases (by omega : t = 0 ∨ t = 1 ∨ t = 2) with rfl | rfl | rfl
  · exact rfl
  · exact (hgd (h - 1) (tm_top (by omega))).2.2.2
  · exact tm_wf_app _ _ 0 1 2 (hgd (h - 2) (Or.inl (by omega))).2.2.2 (tm_wf_sh _ 0 1 1 (hgd (h - 1) (tm_top (by omega))).2.2.2)
theorem tx_token {post : Int32 → SX → Prop} {v2 : Int32} {d h x K A : Nat} {F : Nat → List (Nat × Nat)} {k a l w : Nat → Int32} (G : tm_I d h x F) (har : tm_ar k a l F (tm_lv h x)) (hK : K ≤ 11) (htok : ∀ q : Int32 → Prop, q 1 → wpX_isToken q (nI K) v2) (hv : K < 4 ∨ 8 < K → v2 = nI A)
    (p2 : h < tm_tk K → post (-2) (nI d, nI h, nI x, k, a, l, w)) (p3 : tm_tk K = 0 → h = 6 → post (-3) (nI d, nI h, nI x, k, a, l, w))
    (p4 : tm_tk K ≤ h → (tm_tk K = 0 → h < 6) → 24 < (tm_T0 F h (tm_tk K)).length + 1 → post (-4) (nI d, nI h, nI x, k, a, l, w))
    (p5 : tm_tk K ≤ h → (tm_tk K = 0 → h < 6) → (tm_T0 F h (tm_tk K)).length + 1 ≤ 24 → ∀ k' a' l', tm_ar k' a' l' (tm_ff F (h - tm_tk K) (tm_T0 F h (tm_tk K) ++ [(K, A)])) (fun s => tm_lv h x s ∨ s = h - tm_tk K) → post (nI (h - tm_tk K + 1)) (nI d, nI (h - tm_tk K + 1), nI x, k', a', l', w)) :
    wpX_token post (nI d, nI h, nI x, k, a, l, w) (nI K) v2 := by
  obtain ⟨h0, h3, hh, hx, hgd⟩ := G
  have ht2 := tm_tk_le K
  unfold wpX_token
  refine htok _ (br_f (by decide) (tx_tak hK ?_))
  have g : tm_tk K ≤ h → (tm_tk K = 0 → h < 6) → wX_token_42 post (nI K) v2 (nI (tm_tk K)) (nI d) (nI h) (nI x) k a l w := by
    intro c c0
    unfold wX_token_42
    exact nm_r (pk_sub c) (tx_57 hh c ht2 c0 hv hx har hgd (p4 c c0) (p5 c c0))
  exact pk_le (tm_tk K) h (fun c => pk_eq (tm_tk K) 0 (fun c0 => pk_eq h 6 (fun c6 => p3 c0 c6) (fun c6 => g c (fun _ => by omega))) (fun c0 => g c (fun z => absurd z c0))) (fun c => p2 c)
theorem ty_token {post : Int32 → SY → Prop} {v2 : Int32} {d h x K A : Nat} {F : Nat → List (Nat × Nat)} {k a l w : Nat → Int32} (G : tm_I d h x F) (har : tm_ar k a l F (tm_lv h x)) (hK : K ≤ 11) (htok : ∀ q : Int32 → Prop, q 1 → wpY_isToken q (nI d, nI h, nI x, l, k, a, w) (nI K) v2) (hv : K < 4 ∨ 8 < K → v2 = nI A)
    (p2 : h < tm_tk K → post (-2) (nI d, nI h, nI x, l, k, a, w)) (p3 : tm_tk K = 0 → h = 6 → post (-3) (nI d, nI h, nI x, l, k, a, w))
    (p4 : tm_tk K ≤ h → (tm_tk K = 0 → h < 6) → 24 < (tm_T0 F h (tm_tk K)).length + 1 → post (-4) (nI d, nI h, nI x, l, k, a, w))
    (p5 : tm_tk K ≤ h → (tm_tk K = 0 → h < 6) → (tm_T0 F h (tm_tk K)).length + 1 ≤ 24 → ∀ k' a' l', tm_ar k' a' l' (tm_ff F (h - tm_tk K) (tm_T0 F h (tm_tk K) ++ [(K, A)])) (fun s => tm_lv h x s ∨ s = h - tm_tk K) → post (nI (h - tm_tk K + 1)) (nI d, nI (h - tm_tk K + 1), nI x, l', k', a', w)) :
    wpY_token post (nI d, nI h, nI x, l, k, a, w) (nI K) v2 := by
  obtain ⟨h0, h3, hh, hx, hgd⟩ := G
  have ht2 := tm_tk_le K
  have g : tm_tk K ≤ h → (tm_tk K = 0 → h < 6) → ∃ n, wY_token_75 post (nI K) v2 (nI (tm_tk K)) (nI d) (nI h) (nI x) l k a w n 1 (nI (h - tm_tk K)) := by
    intro c c0
    exact ty_75 hh c ht2 c0 hv hx har hgd (p4 c c0) (p5 c c0)
  have e : wY_token_36 post (nI K) v2 (nI (tm_tk K)) (nI d) (nI h) (nI x) l k a w := by
    unfold wY_token_36
    exact pk_le (tm_tk K) h (fun c => pk_eq (tm_tk K) 0 (fun c0 => pk_eq h 6 (fun c6 => p3 c0 c6) (fun c6 => nm_r (pk_sub c) (g c (fun _ => by omega)))) (fun c0 => nm_r (pk_sub c) (g c (fun z => absurd z c0)))) (fun c => p2 c)
  unfold wpY_token
  refine htok _ (br_f (by decide) ?_)
  unfold tm_tk at e
  refine pk_le 4 K (fun a => pk_lt K 5 (fun b => ?_) (fun b => pk_lt 8 K (fun c => ?_) (fun c => ?_))) (fun a => ?_)
  · rw [if_neg (by omega), if_neg (by omega)] at e; exact e
  · rw [if_neg (by omega), if_neg (by omega)] at e; exact e
  · rw [if_neg (by omega), if_pos (by omega)] at e; exact e
  · rw [if_pos (by omega)] at e; exact e
