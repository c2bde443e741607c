/-! the component: calls that write -/
theorem tx_app {post : SX → Prop} {f1 f2 f3 : Int32} {k a l w : Nat → Int32} {fr to nT nL : Nat} {y : Int32} (hf : fr < 12) (ht : to < 12) (hne : fr ≠ to) (hy : y = nI fr) (hlT : l to = nI nT) (hlL : l fr = nI nL) (hsz : nT + nL ≤ 24)
    (hp : post (f1, f2, f3, tm_cy k (24 * fr) (24 * to + nT) nL, tm_cy a (24 * fr) (24 * to + nT) nL, upd l to (nI (nT + nL)), w)) : wpX_append post (f1, f2, f3, k, a, l, w) y (nI to) := by
  subst hy
  have e1 : nI fr * 24 = nI (24 * fr) := by rw [show (24 : Int32) = nI 24 from rfl, pk_mul, Nat.mul_comm]
  have e2 : nI to * 24 + l (nI to).toNatClampNeg = nI (24 * to + nT) := by rw [nI_clamp (by omega), hlT, show (24 : Int32) = nI 24 from rfl, pk_mul, nI_add, Nat.mul_comm]
  have e3 : l (nI fr).toNatClampNeg = nI nL := by rw [nI_clamp (by omega), hlL]
  unfold wpX_append
  refine nm_r e1 ⟨vp_in_nI ht (by omega), nm_r e2 ⟨vp_in_nI hf (by omega), nm_r e3 ?_⟩⟩
  refine loop_0 (fun n i (s : (Nat → Int32) × (Nat → Int32)) => wX_append_29 post (nI to) (nI (24 * fr)) (nI (24 * to + nT)) (nI nL) f1 f2 f3 n (nI i) s.1 s.2 l w)
    (fun i s => s.1 = tm_cy k (24 * fr) (24 * to + nT) i ∧ s.2 = tm_cy a (24 * fr) (24 * to + nT) i) nL (k, a) ⟨(tm_cy_0 _ _ _).symm, (tm_cy_0 _ _ _).symm⟩ ?_ ?_
  · intro n s hs
    obtain ⟨k', a'⟩ := s
    cases (show k' = _ from hs.1)
    cases (show a' = _ from hs.2)
    refine br_t (nI_le (Nat.le_refl _) (by omega)) ⟨vp_in_nI ht (by omega), vp_in_nI ht (by omega), nm_r ?_ hp⟩
    rw [nI_clamp (by omega), hlT, nI_add]
  · intro n i s hi hs kk
    obtain ⟨k', a'⟩ := s
    cases (show k' = _ from hs.1)
    cases (show a' = _ from hs.2)
    have c1 : (nI (24 * fr) + nI i).toNatClampNeg = 24 * fr + i := by rw [nI_add, nI_clamp (by omega)]
    have c2 : (nI (24 * to + nT) + nI i).toNatClampNeg = 24 * to + nT + i := by rw [nI_add, nI_clamp (by omega)]
    have v1 : vp_in (nI (24 * fr) + nI i) 288 := by rw [nI_add]; exact vp_in_nI (by omega) (by omega)
    have v2 : vp_in (nI (24 * to + nT) + nI i) 288 := by rw [nI_add]; exact vp_in_nI (by omega) (by omega)
    refine br_f (nI_ge hi (by omega)) ⟨v1, v2, nm_r ?_ ⟨v1, v2, nm_r ?_ (nm_r (nI_1 i) (kk (_, _) ⟨rfl, rfl⟩))⟩⟩
    · rw [c1, c2]; exact tm_cy_s (by omega)
    · rw [c1, c2]; exact tm_cy_s (by omega)
theorem tx_rep {post : SX → Prop} {f1 f2 f3 y z : Int32} {k a l w : Nat → Int32} {fr to : Nat} {F : Nat → List (Nat × Nat)} {S : Nat → Prop} (hy : y = nI fr) (hz : z = nI to) (hS : S fr) (ht : to < 12) (hne : fr ≠ to) (har : tm_ar k a l F S) (hgd : tm_gd F S)
    (hp : ∀ k' a' l', tm_ar k' a' l' (tm_ff F to (F fr)) (fun s => S s ∨ s = to) → post (f1, f2, f3, k', a', l', w)) : wpX_replace post (f1, f2, f3, k, a, l, w) y z := by
  subst hz
  obtain ⟨hf, h1, h24, hw⟩ := hgd fr hS
  obtain ⟨hl, hc⟩ := har fr hS
  unfold wpX_replace
  refine ⟨vp_in_nI ht (by omega), nm_r (e' := upd l to (nI 0)) (by rw [nI_clamp (by omega)]; rfl) ?_⟩
  refine tx_app (nT := 0) (nL := (F fr).length) hf ht hne hy pk_us ((pk_un hne).trans hl) (by omega) (hp _ _ _ ?_)
  refine tm_ar_put har (fun s hs => (hgd s hs).2.2.1) (fun j hj => ⟨tm_cy_out (by omega), tm_cy_out (by omega)⟩) (fun s hs => (pk_un hs).trans (pk_un hs)) ?_ ?_
  · exact tm_cy_ce (T := []) (Nat.le_refl _) True.intro hc
  · rw [pk_us, Nat.zero_add]
theorem tx_109 {post : Int32 → SX → Prop} {f1 f2 f3 v2 : Int32} {k a l k1 a1 l1 w : Nat → Int32} {K A sl : Nat} {T : List (Nat × Nat)} {F : Nat → List (Nat × Nat)} {S : Nat → Prop} (hs : sl < 12) (hT24 : T.length < 24) (hv : K < 4 ∨ 8 < K → v2 = nI A)
    (hk1 : ∀ j, (j < 24 * sl ∨ 24 * sl + 24 ≤ j) → k1 j = k j ∧ a1 j = a j) (hl1 : ∀ s, s ≠ sl → l1 s = l s) (hT : tm_ce k1 a1 (24 * sl) T) (har : tm_ar k a l F S) (hgd : tm_gd F S)
    (hp : ∀ k' a' l', tm_ar k' a' l' (tm_ff F sl (T ++ [(K, A)])) (fun s => S s ∨ s = sl) → post (nI (sl + 1)) (f1, nI (sl + 1), f3, k', a', l', w)) : wX_token_109 post (nI K) v2 (nI sl) (nI (T.length + 1)) f1 f2 f3 k1 a1 l1 w := by
  have e1 : (nI sl * 24 + nI (T.length + 1)) - 1 = nI (24 * sl + T.length) := by
    rw [show (24 : Int32) = nI 24 from rfl, pk_mul, nI_add, Nat.mul_comm]
    exact nI_pred (24 * sl + T.length)
  unfold wX_token_109
  rw [e1]
  refine ⟨vp_in_nI (by omega) (by omega), nm_r (by rw [nI_clamp (by omega)]) ⟨vp_in_nI (by omega) (by omega), nm_r (by rw [nI_clamp (by omega)]) ⟨vp_in_nI hs (by omega), nm_r (by rw [nI_clamp (by omega)]) (nm_r (nI_1 sl) (hp _ _ _ ?_))⟩⟩⟩
  refine tm_ar_put har (fun s hs => (hgd s hs).2.2.1) (fun j hj => ⟨(pk_un (by omega)).trans (hk1 j hj).1, (pk_un (by omega)).trans (hk1 j hj).2⟩) (fun s hs => (pk_un hs).trans (hl1 s hs)) ?_ ?_
  · exact tm_ce_snoc (t := (K, A)) rfl hT rfl hv
  · rw [pk_us, List.length_append]; rfl
/-- what a token takes off the stack, put one behind the other -/
def tm_T0 (F : Nat → List (Nat × Nat)) (h t : Nat) : List (Nat × Nat) := if t = 0 then [] else if t = 1 then F (h - 1) else F (h - 2) ++ F (h - 1)
theorem tx_57 {post : Int32 → SX → Prop} {f1 f3 v2 : Int32} {k a l w : Nat → Int32} {K A h x t : Nat} {F : Nat → List (Nat × Nat)} (hh : h ≤ 6) (ht : t ≤ h) (ht2 : t ≤ 2) (h6 : t = 0 → h < 6) (hv : K < 4 ∨ 8 < K → v2 = nI A) (hx : x ≤ 6) (har : tm_ar k a l F (tm_lv h x)) (hgd : tm_gd F (tm_lv h x))
    (hp4 : 24 < (tm_T0 F h t).length + 1 → post (-4) (f1, nI h, f3, k, a, l, w))
    (hp : (tm_T0 F h t).length + 1 ≤ 24 → ∀ k' a' l', tm_ar k' a' l' (tm_ff F (h - t) (tm_T0 F h t ++ [(K, A)])) (fun s => tm_lv h x s ∨ s = h - t) → post (nI (h - t + 1)) (f1, nI (h - t + 1), f3, k', a', l', w)) : ∃ n, wX_token_57 post (nI K) v2 (nI t) (nI (h - t)) f1 (nI h) f3 k a l w n 1 (nI (h - t)) := by
  rcases (by omega : t = 0 ∨ t = 1 ∨ t = 2) with rfl | rfl | rfl
  · refine ⟨1, br_t (nI_le (by omega) (by omega)) (br_t (by decide +kernel) (br_f (by decide +kernel) ?_))⟩
    exact tx_109 (T := []) (by omega) (by decide) hv (fun _ _ => ⟨rfl, rfl⟩) (fun _ _ => rfl) True.intro har hgd (hp (show 0 + 1 ≤ 24 by decide))
  · have lv : tm_lv h x (h - 1) := tm_top (by omega)
    obtain ⟨hl, hc⟩ := har _ lv
    obtain ⟨_, g1, g2, _⟩ := hgd _ lv
    have e1 : 1 + l (nI (h - 1)).toNatClampNeg = nI ((F (h - 1)).length + 1) := by rw [nI_clamp (by omega), hl, show (1 : Int32) = nI 1 from rfl, nI_add, Nat.add_comm]
    have e2 : nI (h - 1) + 1 = nI h := by rw [nI_1, show h - 1 + 1 = h by omega]
    refine ⟨2, br_f (nI_ge (by omega) (by omega)) ⟨vp_in_nI (by omega) (by omega), nm_r e1 (nm_r e2 (br_t (nI_le (Nat.le_refl _) (by omega)) (pk_le ((F (h - 1)).length + 1) 24 (fun c => br_f (by decide +kernel) ?_) (fun c => hp4 c))))⟩⟩
    exact tx_109 (T := F (h - 1)) (by omega) (by omega) hv (fun _ _ => ⟨rfl, rfl⟩) (fun _ _ => rfl) hc har hgd (hp c)
  · have lv1 : tm_lv h x (h - 1) := tm_top (by omega)
    have lv2 : tm_lv h x (h - 2) := Or.inl (by omega)
    obtain ⟨hl, hc⟩ := har _ lv1
    obtain ⟨_, g1, g2, _⟩ := hgd _ lv1
    obtain ⟨hl2, hc2⟩ := har _ lv2
    obtain ⟨_, g3, g4, _⟩ := hgd _ lv2
    have eL : (tm_T0 F h 2).length = (F (h - 2)).length + (F (h - 1)).length := List.length_append
    have e1 : 1 + l (nI (h - 2)).toNatClampNeg = nI ((F (h - 2)).length + 1) := by rw [nI_clamp (by omega), hl2, show (1 : Int32) = nI 1 from rfl, nI_add, Nat.add_comm]
    have e2 : nI (h - 2) + 1 = nI (h - 1) := by rw [nI_1, show h - 2 + 1 = h - 1 by omega]
    have e3 : nI ((F (h - 2)).length + 1) + l (nI (h - 1)).toNatClampNeg = nI ((tm_T0 F h 2).length + 1) := by rw [nI_clamp (by omega), hl, nI_add, eL, show (F (h - 2)).length + 1 + (F (h - 1)).length = (F (h - 2)).length + (F (h - 1)).length + 1 by omega]
    have e4 : nI (h - 1) + 1 = nI h := by rw [nI_1, show h - 1 + 1 = h by omega]
    refine ⟨3, br_f (nI_ge (by omega) (by omega)) ⟨vp_in_nI (by omega) (by omega), nm_r e1 (nm_r e2 (br_f (nI_ge (by omega) (by omega)) ⟨vp_in_nI (by omega) (by omega), nm_r e3 (nm_r e4 (br_t (nI_le (Nat.le_refl _) (by omega)) (pk_le ((tm_T0 F h 2).length + 1) 24 (fun c => br_t rfl ?_) (fun c => hp4 c))))⟩))⟩⟩
    refine tx_app (fr := h - 1) (nT := (F (h - 2)).length) (nL := (F (h - 1)).length) (by omega) (by omega) (by omega) e2 hl2 hl (by omega) ?_
    refine tx_109 (T := tm_T0 F h 2) (by omega) (by omega) hv (fun j hj => ⟨tm_cy_out (by omega), tm_cy_out (by omega)⟩) (fun s hs => pk_un hs) ?_ har hgd (hp c)
    exact tm_cy_ce (Nat.le_refl _) hc2 hc
/-! which tokens there are -/
def tm_tb (K : Nat) : Nat := if K = 0 ∨ K = 9 ∨ K = 10 then 3 else if K = 11 then 6 else 9
theorem tm_tok (v1 v2 : Int32) : (∃ K A, v1 = nI K ∧ K ≤ 11 ∧ ((4 ≤ K ∧ K ≤ 8) ∨ ((K < 4 ∨ 8 < K) ∧ A < tm_tb K ∧ v2 = nI A))) ∨ (v1 < 0 ∨ nI 12 ≤ v1) ∨ (∃ K, v1 = nI K ∧ K ≤ 11 ∧ (K < 4 ∨ 8 < K) ∧ (v2 < 0 ∨ nI (tm_tb K) ≤ v2)) := by
  rcases pk_ix v1 (n := 12) (by omega) with c | c | ⟨K, hK, rfl⟩
  · exact Or.inr (Or.inl (Or.inl c))
  · exact Or.inr (Or.inl (Or.inr c))
  · by_cases z : 4 ≤ K ∧ K ≤ 8
    · exact Or.inl ⟨K, 0, rfl, by omega, Or.inl z⟩
    · have hb : tm_tb K < 2 ^ 31 := by unfold tm_tb; split <;> (try split) <;> omega
      rcases pk_ix v2 (n := tm_tb K) hb with c | c | ⟨A, hA, rfl⟩
      · exact Or.inr (Or.inr ⟨K, rfl, by omega, by omega, Or.inl c⟩)
      · exact Or.inr (Or.inr ⟨K, rfl, by omega, by omega, Or.inr c⟩)
      · exact Or.inl ⟨K, A, rfl, by omega, Or.inr ⟨by omega, hA, rfl⟩⟩
theorem tx_58_0 {post : Int32 → Prop} {v2 c : Int32} (hv : v2 < 0 ∨ c ≤ v2) (h : post 0) : wX_isToken_58 post v2 c := by
  unfold wX_isToken_58
  exact br_c (fun _ => h) (fun z => br_t (hv.resolve_left z) h)
theorem tx_58_1 {post : Int32 → Prop} {A b : Nat} (hb : b < 10) (hA : A < b) (h : post 1) : wX_isToken_58 post (nI A) (nI b) := by
  unfold wX_isToken_58
  exact br_f (nI_pos (by omega)) (br_f (nI_ge hA (by omega)) h)
theorem tx_25 {post : Int32 → Prop} {v2 : Int32} {K : Nat} (hK : K ≤ 11) (hk : K < 4 ∨ 8 < K) (h : wX_isToken_58 post v2 (nI (tm_tb K))) : wX_isToken_25 post (nI K) v2 := by
  unfold wX_isToken_25 wX_isToken_44
  rcases (by omega : K = 0 ∨ K = 1 ∨ K = 2 ∨ K = 3 ∨ K = 9 ∨ K = 10 ∨ K = 11) with rfl | rfl | rfl | rfl | rfl | rfl | rfl
  · exact br_t rfl h
  · exact br_f (by decide +kernel) (br_f (by decide +kernel) (br_f (by decide +kernel) (br_f (by decide +kernel) h)))
  · exact br_f (by decide +kernel) (br_f (by decide +kernel) (br_f (by decide +kernel) (br_f (by decide +kernel) h)))
  · exact br_f (by decide +kernel) (br_f (by decide +kernel) (br_f (by decide +kernel) (br_f (by decide +kernel) h)))
  · exact br_f (by decide +kernel) (br_t rfl h)
  · exact br_f (by decide +kernel) (br_f (by decide +kernel) (br_t rfl h))
  · exact br_f (by decide +kernel) (br_f (by decide +kernel) (br_f (by decide +kernel) (br_t rfl h)))
theorem tx_tok_k {post : Int32 → Prop} {v2 : Int32} {K : Nat} (hK : K ≤ 11) (hk : K < 4 ∨ 8 < K) (h : wX_isToken_58 post v2 (nI (tm_tb K))) : wpX_isToken post (nI K) v2 := by
  unfold wpX_isToken
  exact br_f (nI_pos (by omega)) (br_t (nI_le (b := 11) hK (by omega)) (pk_lt K 4 (fun _ => tx_25 hK hk h) (fun _ => pk_lt 8 K (fun _ => tx_25 hK hk h) (fun c => absurd hk (by omega)))))
theorem tx_tok_o {post : Int32 → Prop} {v1 v2 : Int32} (hv : v1 < 0 ∨ nI 12 ≤ v1) (h : post 0) : wpX_isToken post v1 v2 := by
  unfold wpX_isToken
  refine br_c (fun _ => h) (fun z => br_f (fun y => ?_) h)
  have a := Int32.le_trans (hv.resolve_left z) y
  exact absurd a (by decide +kernel)
theorem tx_tok_m {post : Int32 → Prop} {v2 : Int32} {K : Nat} (hk : 4 ≤ K ∧ K ≤ 8) (h : post 1) : wpX_isToken post (nI K) v2 := by
  unfold wpX_isToken
  exact br_f (nI_pos (by omega)) (br_t (nI_le (b := 11) (by omega) (by omega)) (pk_lt K 4 (fun c => absurd c (by omega)) (fun _ => pk_lt 8 K (fun c => absurd c (by omega)) (fun _ => h))))
theorem tm_tb_lt (K : Nat) : tm_tb K < 10 := by unfold tm_tb; split <;> (try split) <;> omega
