/-! one taken out, the later ones one down; the reference: calls that write -/
def tm_rt (F : Nat → List (Nat × Nat)) (i : Nat) (n : Nat) : Nat → List (Nat × Nat) := tm_it (fun j G => tm_ff G (6 + (i + j)) (G (7 + (i + j)))) F n
theorem tm_rt_s (F : Nat → List (Nat × Nat)) (i n : Nat) : tm_rt F i (n + 1) = tm_ff (tm_rt F i n) (6 + (i + n)) (tm_rt F i n (7 + (i + n))) := rfl
theorem tm_rt_gd {F : Nat → List (Nat × Nat)} {h x i : Nat} (hx : x ≤ 6) (hgd : tm_gd F (tm_lv h x)) : ∀ n, i + n + 1 ≤ x → tm_gd (tm_rt F i n) (tm_lv h x) := by
  intro n
  induction n with
  | zero => intro _; exact hgd
  | succ n ih =>
    intro hn
    have g := ih (by omega)
    have lv : tm_lv h x (7 + (i + n)) := Or.inr ⟨by omega, by omega⟩
    obtain ⟨_, g1, g2, g3⟩ := g _ lv
    rw [tm_rt_s]
    refine tm_gd_mono (tm_gd_put g (by omega) g1 g2 g3) (fun s hs => Or.inl hs)
theorem tx_ret26 {post : Int32 → SX → Prop} {f1 f2 : Int32} {F : Nat → List (Nat × Nat)} {h x i : Nat} {w : Nat → Int32} (hx : x ≤ 6) (hi : i < x) (hgd : tm_gd F (tm_lv h x)) :
    ∀ (r j : Nat) (k a l : Nat → Int32) (n : Nat), i + j + r = x - 1 → r < n → tm_ar k a l (tm_rt F i j) (tm_lv h x) →
      (∀ k' a' l', tm_ar k' a' l' (tm_rt F i (j + r)) (tm_lv h x) → post (nI (x - 1)) (f1, f2, nI (x - 1), k', a', l', w)) → wX_retract_26 post n (nI (i + j)) f1 f2 (nI (x - 1)) k a l w := by
  intro r
  induction r with
  | zero =>
    intro j k a l n hj hn har hp
    obtain ⟨n, rfl⟩ : ∃ q, n = q + 1 := ⟨n - 1, by omega⟩
    exact br_t (nI_le (by omega) (by omega)) (hp k a l har)
  | succ r ih =>
    intro j k a l n hj hn har hp
    obtain ⟨n, rfl⟩ : ∃ q, n = q + 1 := ⟨n - 1, by omega⟩
    have e1 : (6 + nI (i + j)) + 1 = nI (7 + (i + j)) := by
      rw [show (6 : Int32) = nI 6 from rfl, nI_add, nI_1, show 6 + (i + j) + 1 = 7 + (i + j) by omega]
    have lv : tm_lv h x (7 + (i + j)) := Or.inr ⟨by omega, by omega⟩
    refine br_f (nI_ge (by omega) (by omega)) (tx_rep e1 (nI_add 6 (i + j)) lv (by omega) (by omega) har (tm_rt_gd hx hgd j (by omega)) (fun k' a' l' har' => nm_r (nI_1 (i + j)) (ih (j + 1) k' a' l' n (by omega) (by omega) ?_ (fun k2 a2 l2 h2 => hp k2 a2 l2 ?_))))
    · rw [tm_rt_s]
      exact tm_ar_mono har' (fun s hs => Or.inl hs)
    · rw [show j + (r + 1) = j + 1 + r by omega]; exact h2
theorem ty_cop {post : SY → Prop} {f1 f2 f3 y z : Int32} {k a l w : Nat → Int32} {fr to : Nat} {F : Nat → List (Nat × Nat)} {S : Nat → Prop} (hy : y = nI fr) (hz : z = nI to) (hS : S fr) (ht : to < 12) (hne : fr ≠ to) (har : tm_ar k a l F S) (hgd : tm_gd F S)
    (hp : ∀ k' a' l', tm_ar k' a' l' (tm_ff F to (F fr)) (fun s => S s ∨ s = to) → post (f1, f2, f3, l', k', a', w)) : wpY_copy post (f1, f2, f3, l, k, a, w) y z := by
  subst hy hz
  obtain ⟨hf, h1, h24, hw⟩ := hgd fr hS
  obtain ⟨hl, hc⟩ := har fr hS
  unfold wpY_copy
  refine ⟨vp_in_nI hf (by omega), vp_in_nI ht (by omega), nm_r (e' := upd l to (nI (F fr).length)) (by rw [nI_clamp (by omega), nI_clamp (by omega), hl]) ?_⟩
  refine loop_0 (fun n i (s : (Nat → Int32) × (Nat → Int32)) => wY_copy_14 post (nI fr) (nI to) f1 f2 f3 n (nI i) (upd l to (nI (F fr).length)) s.1 s.2 w)
    (fun i s => s.1 = tm_cy k (24 * fr) (24 * to) i ∧ s.2 = tm_cy a (24 * fr) (24 * to) i) 24 (k, a) ⟨(tm_cy_0 _ _ _).symm, (tm_cy_0 _ _ _).symm⟩ ?_ ?_
  · intro n s hs
    obtain ⟨k', a'⟩ := s
    cases (show k' = _ from hs.1)
    cases (show a' = _ from hs.2)
    refine br_t (by decide +kernel) (hp _ _ _ ?_)
    refine tm_ar_put har (fun s hs => (hgd s hs).2.2.1) (fun j hj => ⟨tm_cy_out (by omega), tm_cy_out (by omega)⟩) (fun s hs => pk_un hs) ?_ pk_us
    exact tm_cy_ce (T := []) h24 True.intro hc
  · intro n i s hi hs kk
    obtain ⟨k', a'⟩ := s
    cases (show k' = _ from hs.1)
    cases (show a' = _ from hs.2)
    have c1 : (24 * nI fr + nI i).toNatClampNeg = 24 * fr + i := by rw [show (24 : Int32) = nI 24 from rfl, pk_mul, nI_add, nI_clamp (by omega)]
    have c2 : (24 * nI to + nI i).toNatClampNeg = 24 * to + i := by rw [show (24 : Int32) = nI 24 from rfl, pk_mul, nI_add, nI_clamp (by omega)]
    have v1 : vp_in (24 * nI fr + nI i) 288 := by rw [show (24 : Int32) = nI 24 from rfl, pk_mul, nI_add]; exact vp_in_nI (by omega) (by omega)
    have v2 : vp_in (24 * nI to + nI i) 288 := by rw [show (24 : Int32) = nI 24 from rfl, pk_mul, nI_add]; exact vp_in_nI (by omega) (by omega)
    refine br_f (nI_ge (b := 24) hi (by omega)) ⟨v1, v2, nm_r ?_ ⟨v1, v2, nm_r ?_ (nm_r (nI_1 i) (kk (_, _) ⟨rfl, rfl⟩))⟩⟩
    · rw [c1, c2]; exact tm_cy_s (by omega)
    · rw [c1, c2]; exact tm_cy_s (by omega)
theorem ty_ret16 {post : Int32 → SY → Prop} {f1 f2 : Int32} {F : Nat → List (Nat × Nat)} {h x i : Nat} {w : Nat → Int32} (hx : x ≤ 6) (hi : i < x) (hgd : tm_gd F (tm_lv h x)) :
    ∀ (r j : Nat) (k a l : Nat → Int32) (n : Nat), i + j + r = x - 1 → r < n → tm_ar k a l (tm_rt F i j) (tm_lv h x) →
      (∀ k' a' l', tm_ar k' a' l' (tm_rt F i (j + r)) (tm_lv h x) → post (nI (x - 1)) (f1, f2, nI (x - 1), l', k', a', w)) → wY_retract_16 post n (nI (i + j)) f1 f2 (nI x) l k a w := by
  have ex : nI x - 1 = nI (x - 1) := tm_hI (by omega)
  intro r
  induction r with
  | zero =>
    intro j k a l n hj hn har hp
    obtain ⟨n, rfl⟩ : ∃ q, n = q + 1 := ⟨n - 1, by omega⟩
    unfold wY_retract_16
    rw [ex]
    exact br_t (nI_le (by omega) (by omega)) (nm_e (hp k a l har))
  | succ r ih =>
    intro j k a l n hj hn har hp
    obtain ⟨n, rfl⟩ : ∃ q, n = q + 1 := ⟨n - 1, by omega⟩
    have lv : tm_lv h x (7 + (i + j)) := Or.inr ⟨by omega, by omega⟩
    unfold wY_retract_16
    rw [ex]
    refine br_f (nI_ge (by omega) (by omega)) (ty_cop (nI_add 7 (i + j)) (nI_add 6 (i + j)) lv (by omega) (by omega) har (tm_rt_gd hx hgd j (by omega)) (fun k' a' l' har' => nm_r (nI_1 (i + j)) (ih (j + 1) k' a' l' n (by omega) (by omega) ?_ (fun k2 a2 l2 h2 => hp k2 a2 l2 ?_))))
    · rw [tm_rt_s]
      exact tm_ar_mono har' (fun s hs => Or.inl hs)
    · rw [show j + (r + 1) = j + 1 + r by omega]; exact h2
theorem ty_app {post : SY → Prop} {f1 f2 f3 y z : Int32} {k a l w : Nat → Int32} {sl n : Nat} (hs : sl < 12) (hn : n < 24) (hl : l sl = nI n) (hp : post (f1, f2, f3, upd l sl (nI (n + 1)), upd k (24 * sl + n) y, upd a (24 * sl + n) z, w)) : wpY_append post (f1, f2, f3, l, k, a, w) (nI sl) y z := by
  have c0 : (nI sl).toNatClampNeg = sl := nI_clamp (by omega)
  have e1 : 24 * nI sl + l (nI sl).toNatClampNeg = nI (24 * sl + n) := by rw [c0, hl, show (24 : Int32) = nI 24 from rfl, pk_mul, nI_add]
  have e2 : l (nI sl).toNatClampNeg + 1 = nI (n + 1) := by rw [c0, hl, nI_1]
  have v1 : vp_in (nI sl) 12 := vp_in_nI hs (by omega)
  have v2 : vp_in (nI (24 * sl + n)) 288 := vp_in_nI (by omega) (by omega)
  have c2 : (nI (24 * sl + n)).toNatClampNeg = 24 * sl + n := nI_clamp (by omega)
  unfold wpY_append
  dsimp only
  rw [e1, e2, c2, c0]
  exact ⟨v1, v2, nm_e ⟨v1, v2, nm_e ⟨v1, v1, nm_e hp⟩⟩⟩
theorem ty_198 {post : Int32 → SY → Prop} {f1 f2 f3 v2 : Int32} {k a l k1 a1 l1 w : Nat → Int32} {K A sl : Nat} {T : List (Nat × Nat)} {F : Nat → List (Nat × Nat)} {S : Nat → Prop} (hs : sl < 12) (hT24 : T.length < 24) (hv : K < 4 ∨ 8 < K → v2 = nI A)
    (hk1 : ∀ j, (j < 24 * sl ∨ 24 * sl + 24 ≤ j) → k1 j = k j ∧ a1 j = a j) (hl1 : ∀ s, s ≠ sl → l1 s = l s) (hlT : l1 sl = nI T.length) (hT : tm_ce k1 a1 (24 * sl) T) (har : tm_ar k a l F S) (hgd : tm_gd F S)
    (hp : ∀ k' a' l', tm_ar k' a' l' (tm_ff F sl (T ++ [(K, A)])) (fun s => S s ∨ s = sl) → post (nI (sl + 1)) (f1, nI (sl + 1), f3, l', k', a', w)) : wY_token_198 post (nI K) v2 (nI sl) f1 f2 f3 l1 k1 a1 w := by
  unfold wY_token_198
  refine ty_app hs hT24 hlT (nm_r (nI_1 sl) (hp _ _ _ ?_))
  refine tm_ar_put har (fun s hs => (hgd s hs).2.2.1) (fun j hj => ⟨(pk_un (by omega)).trans (hk1 j hj).1, (pk_un (by omega)).trans (hk1 j hj).2⟩) (fun s hs => (pk_un hs).trans (hl1 s hs)) ?_ ?_
  · exact tm_ce_snoc (t := (K, A)) rfl hT rfl hv
  · rw [pk_us, List.length_append]; rfl
theorem ty_135 {post : Int32 → SY → Prop} {f1 f2 f3 x1 x2 : Int32} {k a l w : Nat → Int32} {sl nT nL : Nat} (hs : sl < 11) (hsz : nT + nL ≤ 24) (hlT : l sl = nI nT) (hlL : l (sl + 1) = nI nL)
    (hp : ∀ l', (∀ s, s ≠ sl → l' s = l s) → l' sl = nI (nT + nL) → wY_token_198 post x1 x2 (nI sl) f1 f2 f3 l' (tm_cy k (24 * (sl + 1)) (24 * sl + nT) nL) (tm_cy a (24 * (sl + 1)) (24 * sl + nT) nL) w) : ∃ n, wY_token_135 post x1 x2 (nI 2) (nI sl) n 0 f1 f2 f3 l k a w := by
  have v0 : vp_in (nI sl + 1) 12 := by rw [nI_1]; exact vp_in_nI (by omega) (by omega)
  have c0 : (nI sl + 1).toNatClampNeg = sl + 1 := by rw [nI_1, nI_clamp (by omega)]
  refine loop_0 (fun n i (s : (Nat → Int32) × (Nat → Int32) × (Nat → Int32)) => wY_token_135 post x1 x2 (nI 2) (nI sl) n (nI i) f1 f2 f3 s.1 s.2.1 s.2.2 w)
    (fun i s => ((∀ q, q ≠ sl → s.1 q = l q) ∧ s.1 sl = nI (nT + i)) ∧ s.2.1 = tm_cy k (24 * (sl + 1)) (24 * sl + nT) i ∧ s.2.2 = tm_cy a (24 * (sl + 1)) (24 * sl + nT) i) nL (l, k, a) ⟨⟨fun _ _ => rfl, hlT⟩, (tm_cy_0 _ _ _).symm, (tm_cy_0 _ _ _).symm⟩ ?_ ?_
  · intro n s hs2
    obtain ⟨l', k', a'⟩ := s
    obtain ⟨⟨g1, g2⟩, g3, g4⟩ := hs2
    cases (show k' = _ from g3)
    cases (show a' = _ from g4)
    dsimp only at g1 g2
    refine br_t rfl ⟨v0, br_t ?_ (hp l' g1 g2)⟩
    rw [c0]
    dsimp only
    rw [g1 (sl + 1) (by omega), hlL]
    exact nI_le (Nat.le_refl _) (by omega)
  · intro n i s hi hs2 kk
    obtain ⟨l', k', a'⟩ := s
    obtain ⟨⟨g1, g2⟩, g3, g4⟩ := hs2
    cases (show k' = _ from g3)
    cases (show a' = _ from g4)
    dsimp only at g1 g2
    have e1 : (24 * nI sl + 24) + nI i = nI (24 * (sl + 1) + i) := by rw [show (24 : Int32) = nI 24 from rfl, pk_mul, nI_add, nI_add, show 24 * sl + 24 + i = 24 * (sl + 1) + i by omega]
    have v1 : vp_in ((24 * nI sl + 24) + nI i) 288 := by rw [e1]; exact vp_in_nI (by omega) (by omega)
    have c1 : ((24 * nI sl + 24) + nI i).toNatClampNeg = 24 * (sl + 1) + i := by rw [e1, nI_clamp (by omega)]
    refine br_t rfl ⟨v0, br_f ?_ ⟨v1, v1, ty_app (n := nT + i) (by omega) (by omega) g2 (nm_r (nI_1 i) (kk (_, _, _) ⟨⟨fun q hq => (pk_un hq).trans (g1 q hq), pk_us⟩, ?_, ?_⟩))⟩⟩
    · rw [c0]
      dsimp only
      rw [g1 (sl + 1) (by omega), hlL]
      exact nI_ge hi (by omega)
    · dsimp only
      rw [c1, ← Nat.add_assoc]
      exact tm_cy_s (by omega)
    · dsimp only
      rw [c1, ← Nat.add_assoc]
      exact tm_cy_s (by omega)
theorem ty_75 {post : Int32 → SY → Prop} {f1 f3 v2 : Int32} {k a l w : Nat → Int32} {K A h x t : Nat} {F : Nat → List (Nat × Nat)} (hh : h ≤ 6) (ht : t ≤ h) (ht2 : t ≤ 2) (h6 : t = 0 → h < 6) (hv : K < 4 ∨ 8 < K → v2 = nI A) (hx : x ≤ 6) (har : tm_ar k a l F (tm_lv h x)) (hgd : tm_gd F (tm_lv h x))
    (hp4 : 24 < (tm_T0 F h t).length + 1 → post (-4) (f1, nI h, f3, l, k, a, w))
    (hp : (tm_T0 F h t).length + 1 ≤ 24 → ∀ k' a' l', tm_ar k' a' l' (tm_ff F (h - t) (tm_T0 F h t ++ [(K, A)])) (fun s => tm_lv h x s ∨ s = h - t) → post (nI (h - t + 1)) (f1, nI (h - t + 1), f3, l', k', a', w)) : ∃ n, wY_token_75 post (nI K) v2 (nI t) f1 (nI h) f3 l k a w n 1 (nI (h - t)) := by
  have es : nI h - nI t = nI (h - t) := pk_sub ht
  rcases (by omega : t = 0 ∨ t = 1 ∨ t = 2) with rfl | rfl | rfl
  · refine ⟨1, br_t (nI_le (by omega) (by omega)) (br_t (by decide +kernel) (nm_r es (br_t rfl ⟨vp_in_nI (by omega) (by omega), nm_r (e' := upd l (h - 0) (nI 0)) (by rw [nI_clamp (by omega)]; rfl) ⟨1, br_f (by decide +kernel) ?_⟩⟩)))⟩
    exact ty_198 (T := []) (by omega) (by decide) hv (fun _ _ => ⟨rfl, rfl⟩) (fun _ hs => pk_un hs) pk_us True.intro har hgd (hp (show 0 + 1 ≤ 24 by decide))
  · have lv : tm_lv h x (h - 1) := tm_top (by omega)
    obtain ⟨hl, hc⟩ := har _ lv
    obtain ⟨_, g1, g2, _⟩ := hgd _ lv
    have e1 : 1 + l (nI (h - 1)).toNatClampNeg = nI ((F (h - 1)).length + 1) := by rw [nI_clamp (by omega), hl, show (1 : Int32) = nI 1 from rfl, nI_add, Nat.add_comm]
    have e2 : nI (h - 1) + 1 = nI h := by rw [nI_1, show h - 1 + 1 = h by omega]
    refine ⟨2, br_f (nI_ge (by omega) (by omega)) ⟨vp_in_nI (by omega) (by omega), nm_r e1 (nm_r e2 (br_t (nI_le (Nat.le_refl _) (by omega)) (pk_le ((F (h - 1)).length + 1) 24 (fun c => nm_r es (br_f (by decide +kernel) ⟨1, br_f (by decide +kernel) ?_⟩)) (fun c => hp4 c))))⟩⟩
    exact ty_198 (T := F (h - 1)) (by omega) (by omega) hv (fun _ _ => ⟨rfl, rfl⟩) (fun _ _ => rfl) hl hc har hgd (hp c)
  · have lv1 : tm_lv h x (h - 1) := tm_top (by omega)
    have lv2 : tm_lv h x (h - 2) := Or.inl (by omega)
    obtain ⟨hl, hc⟩ := har _ lv1
    obtain ⟨_, g1, g2, _⟩ := hgd _ lv1
    obtain ⟨hl2, hc2⟩ := har _ lv2
    obtain ⟨_, g3, g4, _⟩ := hgd _ lv2
    have eL : (tm_T0 F h 2).length = (F (h - 2)).length + (F (h - 1)).length := List.length_append
    have e1 : 1 + l (nI (h - 2)).toNatClampNeg = nI ((F (h - 2)).length + 1) := by rw [nI_clamp (by omega), hl2, show (1 : Int32) = nI 1 from rfl, nI_add, Nat.add_comm]
    have e2 : nI (h - 2) + 1 = nI (h - 1) := by rw [nI_1, show h - 2 + 1 = h - 1 by omega]
    have e3 : nI ((F (h - 2)).length + 1) + l (nI (h - 1)).toNatClampNeg = nI ((tm_T0 F h 2).length + 1) := by rw [nI_clamp (by omega), hl, nI_add, eL, show (F (h - 2)).length + 1 + (F (h - 1)).length = (F (h - 2)).length + (F (h - 1)).length + 1 by omega]
    have e4 : nI (h - 1) + 1 = nI h := by rw [nI_1, show h - 1 + 1 = h by omega]
    have e5 : h - 2 + 1 = h - 1 := by omega
    refine ⟨3, br_f (nI_ge (by omega) (by omega)) ⟨vp_in_nI (by omega) (by omega), nm_r e1 (nm_r e2 (br_f (nI_ge (by omega) (by omega)) ⟨vp_in_nI (by omega) (by omega), nm_r e3 (nm_r e4 (br_t (nI_le (Nat.le_refl _) (by omega)) (pk_le ((tm_T0 F h 2).length + 1) 24 (fun c => nm_r es (br_f (by decide +kernel) ?_)) (fun c => hp4 c))))⟩))⟩⟩
    refine ty_135 (nT := (F (h - 2)).length) (nL := (F (h - 1)).length) (by omega) (by omega) hl2 (by rw [e5]; exact hl) (fun l' q1 q2 => ?_)
    rw [e5]
    refine ty_198 (T := tm_T0 F h 2) (by omega) (by omega) hv (fun j hj => ⟨tm_cy_out (by omega), tm_cy_out (by omega)⟩) q1 (by rw [eL]; exact q2) ?_ har hgd (hp c)
    exact tm_cy_ce (Nat.le_refl _) hc2 hc
theorem ty_rg0 {post : Int32 → Prop} {v2 : Int32} {b : Nat} (hb : b < 10) (hv : v2 < 0 ∨ nI (b + 1) ≤ v2) (h : post 0) : (v2 < 0 → post 0) ∧ (¬ v2 < 0 → ((nI b < v2 → post 0) ∧ (¬ nI b < v2 → post 1))) :=
  br_c (fun _ => h) (fun z => br_t (Int32.lt_of_lt_of_le (nI_lt (Nat.lt_succ_self b) (by omega)) (hv.resolve_left z)) h)
theorem ty_rg1 {post : Int32 → Prop} {A b : Nat} (hb : b < 10) (hA : A < b + 1) (h : post 1) : (nI A < 0 → post 0) ∧ (¬ nI A < 0 → ((nI b < nI A → post 0) ∧ (¬ nI b < nI A → post 1))) :=
  br_f (nI_pos (by omega)) (br_f (nI_nlt (by omega) (by omega)) h)
theorem ty_tok_k {post : Int32 → Prop} {u : SY} {v2 : Int32} {K : Nat} (hK : K ≤ 11) (hk : K < 4 ∨ 8 < K) (h : ∀ b, b + 1 = tm_tb K → (v2 < 0 → post 0) ∧ (¬ v2 < 0 → ((nI b < v2 → post 0) ∧ (¬ nI b < v2 → post 1)))) : wpY_isToken post u (nI K) v2 := by
  obtain ⟨f1, f2, f3, a1, a2, a3, a4⟩ := u
  unfold wpY_isToken wY_isToken_16 wY_isToken_57
  rcases (by omega : K = 0 ∨ K = 1 ∨ K = 2 ∨ K = 3 ∨ K = 9 ∨ K = 10 ∨ K = 11) with rfl | rfl | rfl | rfl | rfl | rfl | rfl
  · exact br_t rfl (h 2 rfl)
  · exact br_f (by decide +kernel) (br_f (by decide +kernel) (br_f (by decide +kernel) (br_f (by decide +kernel) (br_f (by decide +kernel) (h 8 rfl)))))
  · exact br_f (by decide +kernel) (br_f (by decide +kernel) (br_f (by decide +kernel) (br_f (by decide +kernel) (br_f (by decide +kernel) (h 8 rfl)))))
  · exact br_f (by decide +kernel) (br_f (by decide +kernel) (br_f (by decide +kernel) (br_f (by decide +kernel) (br_f (by decide +kernel) (h 8 rfl)))))
  · exact br_f (by decide +kernel) (br_t rfl (h 2 rfl))
  · exact br_f (by decide +kernel) (br_f (by decide +kernel) (br_t rfl (h 2 rfl)))
  · exact br_f (by decide +kernel) (br_f (by decide +kernel) (br_f (by decide +kernel) (br_f (by decide +kernel) (br_t (by decide +kernel) (br_t rfl (h 5 rfl))))))
theorem ty_tok_m {post : Int32 → Prop} {u : SY} {v2 : Int32} {K : Nat} (hk : 4 ≤ K ∧ K ≤ 8) (h : post 1) : wpY_isToken post u (nI K) v2 := by
  obtain ⟨f1, f2, f3, a1, a2, a3, a4⟩ := u
  unfold wpY_isToken wY_isToken_57
  refine pk_eq K 0 (fun c => absurd c (by omega)) (fun _ => pk_eq K 9 (fun c => absurd c (by omega)) (fun _ => pk_eq K 10 (fun c => absurd c (by omega)) (fun _ => pk_lt K 1 (fun c => absurd c (by omega)) (fun _ => pk_lt 3 K (fun _ => pk_eq K 11 (fun c => absurd c (by omega)) (fun _ => pk_lt K 4 (fun c => absurd c (by omega)) (fun _ => pk_lt 8 K (fun c => absurd c (by omega)) (fun _ => h)))) (fun c => absurd c (by omega))))))
theorem ty_tok_o {post : Int32 → Prop} {u : SY} {v1 v2 : Int32} (hv : v1 < 0 ∨ nI 12 ≤ v1) (h : post 0) : wpY_isToken post u v1 v2 := by
  obtain ⟨f1, f2, f3, a1, a2, a3, a4⟩ := u
  have ne : ∀ q, q < 12 → ¬ v1 = nI q := by
    intro q hq e
    subst e
    rcases hv with c | c
    · exact absurd c (nI_pos (by omega))
    · rw [nI_leI (by omega) (by omega)] at c; omega
  have g : wY_isToken_57 post v1 v2 f1 f2 f3 a1 a2 a3 a4 := by
    unfold wY_isToken_57
    refine br_f (ne 11 (by omega)) (br_c (fun _ => h) (fun c => br_t ?_ h))
    rcases hv with z | z
    · exact absurd (Int32.lt_trans z (by decide)) c
    · exact Int32.lt_of_lt_of_le (by decide +kernel) z
  unfold wpY_isToken
  refine br_f (ne 0 (by omega)) (br_f (ne 9 (by omega)) (br_f (ne 10 (by omega)) (br_c (fun _ => g) (fun c => br_t ?_ g))))
  rcases hv with z | z
  · exact absurd (Int32.lt_trans z (by decide)) c
  · exact Int32.lt_of_lt_of_le (by decide +kernel) z
