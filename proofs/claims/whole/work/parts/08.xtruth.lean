/-! the component: the value of a stored formula -/
theorem tx_168 {post : Int32 → SX → Prop} {J : Int32 → Int32 → (Nat → Int32) → (Nat → Int32) → (Nat → Int32) → (Nat → Int32) → Prop} {x1 x2 x3 x5 x11 val fe ff fa : Int32} {k a l w : Nat → Int32} {d : Nat} (p t : Nat) (hp : p < 24) (hv : x11 &&& tm_dom d = val) (h : J (nI (p + 1)) (nI (t + 1)) k a l (upd w p val)) : wX_truthOf_168 post J x1 x2 x3 (tm_dom d) x5 (nI p) (nI t) x11 fe ff fa k a l w := by
  unfold wX_truthOf_168
  exact ⟨vp_in_nI hp (by omega), nm_r (by rw [nI_clamp (by omega), hv]) (nm_r (nI_1 p) (nm_r (nI_1 t) h))⟩
theorem tm_sb_c {d : Nat} {x : Int32} {s : List Int32} (hx : x &&& tm_dom d = x) (hs : tm_sb d s) : tm_sb d (x :: s) := by
  intro y hy
  rcases List.mem_cons.mp hy with e | e
  · subst e; exact hx
  · exact hs y e
theorem tm_sb_t {d : Nat} {x : Int32} {s : List Int32} (h : tm_sb d (x :: s)) : tm_sb d s := fun y hy => h y (List.mem_cons_of_mem _ hy)
theorem tm_sb_h {d : Nat} {x : Int32} {s : List Int32} (h : tm_sb d (x :: s)) : x &&& tm_dom d = x := h x List.mem_cons_self
theorem tm_ls_r {K A d : Nat} (h0 : 0 < d) (h3 : d ≤ 3) (hA : A < 6) : 1 ≤ tm_ls K A d ∧ tm_ls K A d ≤ 3 := by
  unfold tm_ls
  split
  · omega
  · split <;> omega
theorem tx_tr20 {post : Int32 → SX → Prop} {fe ff fa m : Int32} {k a l : Nat → Int32} {sl d N : Nat} (hs : sl < 12) (h0 : 0 < d) (h3 : d ≤ 3) (hN : N ≤ 24) :
    ∀ (L : List (Nat × Nat)) (t : Nat) (s : List Int32) (w : Nat → Int32) (n : Nat), tm_ce k a (24 * sl + t) L → tm_wf L s.length 1 → s.length ≤ t → t + L.length = N → L.length < n → tm_sk w s → tm_sb d s →
      (∀ w', tm_sk w' (tm_ev m d L s) → post (w' 0) (fe, ff, fa, k, a, l, w')) → wX_truthOf_20 post (nI sl) m (nI d) (tm_dom d) (nI N) fe ff fa n (nI s.length) (nI t) k a l w := by
  intro L
  induction L with
  | nil =>
    intro t s w n hc hw ht hl hn hk hb hp
    rw [List.length_nil] at hl hn
    obtain ⟨n, rfl⟩ : ∃ q, n = q + 1 := ⟨n - 1, by omega⟩
    exact br_t (nI_le (by omega) (by omega)) (hp w hk)
  | cons tk r ih =>
    intro t s w n hc hw ht hl hn hk hb hp
    obtain ⟨K, A⟩ := tk
    rw [List.length_cons] at hl hn
    obtain ⟨n, rfl⟩ : ∃ q, n = q + 1 := ⟨n - 1, by omega⟩
    have e1 : (nI sl * 24) + nI t = nI (24 * sl + t) := by rw [show (24 : Int32) = nI 24 from rfl, pk_mul, nI_add, Nat.mul_comm]
    have hin : vp_in ((nI sl * 24) + nI t) 288 := by rw [e1]; exact vp_in_nI (by omega) (by omega)
    have ec : ((nI sl * 24) + nI t).toNatClampNeg = 24 * sl + t := by rw [e1]; exact nI_clamp (by omega)
    obtain ⟨⟨hK, hA⟩, hc'⟩ := hc
    obtain ⟨hok, htk, hw'⟩ := hw
    have hK11 := hok.1
    dsimp only at hK hA htk hw' hK11
    refine br_f (nI_ge (by omega) (by omega)) ⟨hin, nm_r (e' := nI K) (by rw [ec]; exact hK) ⟨hin, ?_⟩⟩
    intro y hy
    rw [ec] at hy
    refine tx_tak hK11 ?_
    by_cases c1 : K < 4
    · have z : tm_tk K = 0 := if_pos c1
      have hyA := hy.trans (hA (Or.inl c1))
      subst hyA
      rw [z] at hw' ⊢
      have es : tm_st m d (K, A) s = tm_at K A m d :: s := if_pos c1
      have hv := tm_at_x (m := m) h0 h3 (tm_vw hok c1).1 (tm_vw hok c1).2.1
      refine nm_r (show nI s.length - nI 0 = nI s.length from pk_sub (Nat.zero_le _)) (br_t rfl (tx_atm h3 c1 hok (tx_168 s.length t (by omega) hv ?_)))
      exact ih (t + 1) (tm_at K A m d :: s) _ n hc' hw' (by rw [List.length_cons]; omega) (by omega) (by omega) (tm_sk_push hk) (tm_sb_c (tm_sub_x hv) hb) (fun w' h' => hp w' (by
        show tm_sk w' (tm_ev m d r (tm_st m d (K, A) s))
        rw [es]; exact h'))
    · by_cases c2 : K = 4
      · subst c2
        match s, ht, hk, hb, hp, htk, hw' with
        | [], _, _, _, _, htk, _ => exact absurd htk (by decide)
        | x :: q, ht, hk, hb, hp, htk, hw' =>
          rw [List.length_cons] at ht
          have hv := tm_not_x d x
          refine nm_r (show nI (x :: q).length - nI 1 = nI q.length from nI_pred _) (br_f (by decide +kernel) (br_f (by decide +kernel) (br_t rfl ⟨vp_in_nI (by omega) (by omega), nm_r (by rw [nI_clamp (by omega), hk.1]) (tx_168 q.length t (by omega) hv ?_)⟩)))
          exact ih (t + 1) (tm_not d x :: q) _ n hc' hw' (by rw [List.length_cons]; omega) (by omega) (by omega) (tm_sk_push hk.2) (tm_sb_c (tm_sub_x hv) (tm_sb_t hb)) hp
      · by_cases c3 : K < 9
        · have z : tm_tk K = 2 := by unfold tm_tk; rw [if_neg c1, if_pos (by omega)]
          rw [z] at hw' htk ⊢
          match s, ht, hk, hb, hp, htk, hw' with
          | [], _, _, _, _, htk, _ => exact absurd htk (by decide)
          | [_], _, _, _, _, htk, _ => exact absurd htk (show ¬ 2 ≤ 1 by decide)
          | x :: v :: q, ht, hk, hb, hp, htk, hw' =>
            rw [List.length_cons, List.length_cons] at ht
            have hv := tm_jn_cb (K := K) (tm_sb_h (tm_sb_t hb)) (tm_sb_h hb)
            have es : tm_st m d (K, A) (x :: v :: q) = tm_cb d K v x :: q := by
              unfold tm_st
              rw [if_neg c1, if_neg c2, if_pos c3]
              rfl
            have w1 : w (nI q.length).toNatClampNeg = v := by rw [nI_clamp (by omega)]; exact hk.2.1
            have w2 : w (nI q.length + 1).toNatClampNeg = x := by rw [nI_1, nI_clamp (by omega)]; exact hk.1
            refine nm_r (show nI (x :: v :: q).length - nI 2 = nI q.length from pk_sub (a := q.length + 2) (by omega)) (br_f (by decide +kernel) (br_t rfl ⟨vp_in_nI (by omega) (by omega), ⟨by rw [nI_1]; exact vp_in_nI (by omega) (by omega), ?_⟩⟩))
            rw [w1, w2]
            refine tx_jn (by omega) (by omega) (tx_168 q.length t (by omega) hv ?_)
            exact ih (t + 1) (tm_cb d K v x :: q) _ n hc' hw' (by rw [List.length_cons]; omega) (by omega) (by omega) (tm_sk_push hk.2.2) (tm_sb_c (tm_sub_x hv) (tm_sb_t (tm_sb_t hb))) (fun w' h' => hp w' (by
              show tm_sk w' (tm_ev m d r (tm_st m d (K, A) (x :: v :: q)))
              rw [es]; exact h'))
        · have z : tm_tk K = 1 := by unfold tm_tk; rw [if_neg c1, if_neg (by omega)]
          have hA6 : A < 6 := by
            have a1 := hok.2.1
            have a2 := hok.2.2.2
            dsimp only at a1 a2
            rcases (by omega : K = 9 ∨ K = 10 ∨ K = 11) with e | e | e
            · have := a1 (Or.inr (Or.inl e)); omega
            · have := a1 (Or.inr (Or.inr e)); omega
            · exact a2 e
          have hyA := hy.trans (hA (Or.inr (by omega)))
          subst hyA
          rw [z] at hw' htk ⊢
          match s, ht, hk, hb, hp, htk, hw' with
          | [], _, _, _, _, htk, _ => exact absurd htk (by decide)
          | x :: q, ht, hk, hb, hp, htk, hw' =>
            rw [List.length_cons] at ht
            have hls := tm_ls_r (K := K) h0 h3 hA6
            have hv := tm_fr_ct (v := A % 3) h0 h3 hls.1 hls.2 (by omega) (tm_sb_h hb)
            have es : tm_st m d (K, A) (x :: q) = tm_ct d (tm_ls K A d) (A % 3) x :: q := by
              unfold tm_st
              rw [if_neg c1, if_neg c2, if_neg c3]
              rfl
            have w1 : w (nI q.length).toNatClampNeg = x := by rw [nI_clamp (by omega)]; exact hk.1
            have w3 : nI A - nI A / 3 * 3 = nI (A % 3) := pk_rem (d := 3) (by omega) (by omega) (by omega)
            refine nm_r (show nI (x :: q).length - nI 1 = nI q.length from nI_pred _) (br_f (by decide +kernel) (br_f (by decide +kernel) (br_f (by rw [show (4 : Int32) = nI 4 from rfl, nI_eq (by omega) (by omega)]; exact c2) (tx_need (by omega) hK11 hA6 ⟨by decide, vp_in_nI (by omega) (by omega), ?_⟩))))
            rw [w1, w3]
            refine tx_fal (by omega) hls.1 hls.2 (tx_168 q.length t (by omega) hv ?_)
            exact ih (t + 1) (tm_ct d (tm_ls K A d) (A % 3) x :: q) _ n hc' hw' (by rw [List.length_cons]; omega) (by omega) (by omega) (tm_sk_push hk.2) (tm_sb_c (tm_sub_x hv) (tm_sb_t hb)) (fun w' h' => hp w' (by
              show tm_sk w' (tm_ev m d r (tm_st m d (K, A) (x :: q)))
              rw [es]; exact h'))
theorem tx_tr {post : Int32 → SX → Prop} {fe ff fa m y : Int32} {k a l w : Nat → Int32} {d : Nat} {F : Nat → List (Nat × Nat)} {S : Nat → Prop} (sl : Nat) (hy : y = nI sl) (hS : S sl) (h0 : 0 < d) (h3 : d ≤ 3) (har : tm_ar k a l F S) (hgd : tm_gd F S) (h : ∀ w', post (tm_tv m d (F sl)) (fe, ff, fa, k, a, l, w')) : wpX_truthOf post (fe, ff, fa, k, a, l, w) y m (nI d) := by
  subst hy
  obtain ⟨hs, h1, h24, hw⟩ := hgd sl hS
  obtain ⟨hl, hc⟩ := har sl hS
  unfold wpX_truthOf
  refine tx_lod h0 h3 ⟨vp_in_nI hs (by omega), nm_r (by rw [nI_clamp (by omega), hl]) ⟨(F sl).length + 1, tx_tr20 hs h0 h3 h24 (F sl) 0 [] w _ hc hw (Nat.le_refl _) (Nat.zero_add _) (by omega) True.intro (fun _ hx => absurd hx List.not_mem_nil) (fun w' h' => ?_)⟩⟩
  rw [tm_sk_tv hw h']
  exact h w'
theorem tx_val {post : Int32 → SX → Prop} {fe ff fa m y : Int32} {k a l w : Nat → Int32} {d : Nat} {F : Nat → List (Nat × Nat)} {S : Nat → Prop} (sl : Nat) (hy : y = nI sl) (hS : S sl) (h0 : 0 < d) (h3 : d ≤ 3) (har : tm_ar k a l F S) (hgd : tm_gd F S) (h : ∀ w', post (tm_bi (tm_va m d (F sl))) (fe, ff, fa, k, a, l, w')) : wpX_isValid post (fe, ff, fa, k, a, l, w) y m (nI d) := by
  unfold wpX_isValid
  refine tx_tr sl hy hS h0 h3 har hgd (fun w' => tx_lod h0 h3 (br_c (fun e => ?_) (fun e => ?_)))
  · have g := h w'
    unfold tm_va at g
    rw [decide_eq_true e] at g
    exact g
  · have g := h w'
    unfold tm_va at g
    rw [decide_eq_false e] at g
    exact g
theorem tx_sat {post : Int32 → SX → Prop} {fe ff m ex : Int32} {k a l w : Nat → Int32} {x d : Nat} {F : Nat → List (Nat × Nat)} {S : Nat → Prop} (hx : x ≤ 6) (hS : ∀ i, i < x → S (6 + i)) (h0 : 0 < d) (h3 : d ≤ 3) (har : tm_ar k a l F S) (hgd : tm_gd F S) (h : ∀ w', post (tm_bi (tm_sa F x d ex m)) (fe, ff, nI x, k, a, l, w')) : wpX_satisfies post (fe, ff, nI x, k, a, l, w) m (nI d) ex := by
  unfold wpX_satisfies
  refine tx_lod h0 h3 ?_
  refine loop_0 (fun n i (s : Nat → Int32) => wX_satisfies_9 post m (nI d) ex (tm_dom d) n (nI i) fe ff (nI x) k a l s) (fun i _ => ∀ j, j < i → (decide (nI j = ex) || tm_va m d (F (6 + j))) = true) x w (fun j hj => absurd hj (by omega)) ?_ ?_
  · intro n s hI
    have e : tm_sa F x d ex m = true := tm_al_t.mpr hI
    have g := h s
    rw [e] at g
    exact br_t (nI_le (Nat.le_refl x) (by omega)) g
  · intro n i s hi hI kk
    refine br_f (nI_ge hi (by omega)) (br_c (fun e => ?_) (fun e => ?_))
    · refine nm_r (nI_1 i) (kk s (lt_s hI ?_))
      rw [decide_eq_true e]; rfl
    · refine tx_tr (6 + i) (nI_add 6 i) (hS i hi) h0 h3 har hgd (fun w' => br_c (fun z => ?_) (fun z => ?_))
      · refine nm_r (nI_1 i) (kk w' (lt_s hI ?_))
        unfold tm_va
        rw [decide_eq_true z, Bool.or_true]
      · have e2 : tm_sa F x d ex m = false := tm_al_f hi (by
          unfold tm_va
          rw [decide_eq_false e, decide_eq_false z]; rfl)
        have g := h w'
        rw [e2] at g
        exact g
