/-! the reference: the value of a stored formula -/
theorem ty_lo11 {post : Int32 → SY → Prop} {fh fa m : Int32} {k a l : Nat → Int32} {sl d N : Nat} (hs : sl < 12) (h0 : 0 < d) (h3 : d ≤ 3) (hN : N ≤ 24) (hlN : l sl = nI N) :
    ∀ (L : List (Nat × Nat)) (t : Nat) (s : List Int32) (w : Nat → Int32) (n : Nat), tm_ce k a (24 * sl + t) L → tm_wf L s.length 1 → s.length ≤ t → t + L.length = N → L.length < n → tm_sk w s →
      (∀ w', tm_sk w' (tm_ev m d L s) → post (w' 0) (nI d, fh, fa, l, k, a, w')) → wY_listsOf_11 post (nI sl) m (tm_dom d) (nI d) fh fa n (nI s.length) (nI t) l k a w := by
  intro L
  induction L with
  | nil =>
    intro t s w n hc hw ht hl hn hk hp
    rw [List.length_nil] at hl hn
    obtain ⟨n, rfl⟩ : ∃ q, n = q + 1 := ⟨n - 1, by omega⟩
    refine ⟨vp_in_nI hs (by omega), br_t ?_ (hp w hk)⟩
    rw [nI_clamp (by omega), hlN]
    exact nI_le (by omega) (by omega)
  | cons tk r ih =>
    intro t s w n hc hw ht hl hn hk hp
    obtain ⟨K, A⟩ := tk
    rw [List.length_cons] at hl hn
    obtain ⟨n, rfl⟩ : ∃ q, n = q + 1 := ⟨n - 1, by omega⟩
    have e1 : (24 * nI sl) + nI t = nI (24 * sl + t) := by rw [show (24 : Int32) = nI 24 from rfl, pk_mul, nI_add]
    have hin : vp_in ((24 * nI sl) + nI t) 288 := by rw [e1]; exact vp_in_nI (by omega) (by omega)
    have ec : ((24 * nI sl) + nI t).toNatClampNeg = 24 * sl + t := by rw [e1]; exact nI_clamp (by omega)
    obtain ⟨⟨hK, hA⟩, hc'⟩ := hc
    obtain ⟨hok, htk, hw'⟩ := hw
    have hK11 := hok.1
    dsimp only at hK hA htk hw' hK11
    refine ⟨vp_in_nI hs (by omega), br_f ?_ ⟨hin, nm_r (e' := nI K) (by rw [ec]; exact hK) ⟨hin, ?_⟩⟩⟩
    · rw [nI_clamp (by omega), hlN]
      exact nI_ge (by omega) (by omega)
    intro y hy
    rw [ec] at hy
    by_cases c1 : K < 4
    · have z : tm_tk K = 0 := if_pos c1
      have hyA := hy.trans (hA (Or.inl c1))
      subst hyA
      rw [z] at hw'
      have es : tm_st m d (K, A) s = tm_at K A m d :: s := if_pos c1
      refine br_f (nI_ge (b := 4) c1 (by omega)) (ty_atoms h3 c1 hok ⟨vp_in_nI (by omega) (by omega), nm_r (by rw [nI_clamp (by omega)]) (nm_r (nI_1 _) (nm_r (nI_1 t) ?_))⟩)
      exact ih (t + 1) (tm_at K A m d :: s) _ n hc' hw' (by rw [List.length_cons]; omega) (by omega) (by omega) (tm_sk_push hk) (fun w' h' => hp w' (by
        show tm_sk w' (tm_ev m d r (tm_st m d (K, A) s))
        rw [es]; exact h'))
    · refine br_t (nI_le (a := 4) (by omega) (by omega)) ?_
      by_cases c2 : K = 4
      · subst c2
        match s, ht, hk, hp, htk, hw' with
        | [], _, _, _, htk, _ => exact absurd htk (by decide)
        | x :: q, ht, hk, hp, htk, hw' =>
          rw [List.length_cons] at ht
          have e3 : nI (x :: q).length - 1 = nI q.length := nI_pred _
          have w1 : w (nI q.length).toNatClampNeg = x := by rw [nI_clamp (by omega)]; exact hk.1
          refine br_t rfl ?_
          rw [e3, w1]
          refine ⟨vp_in_nI (by omega) (by omega), vp_in_nI (by omega) (by omega), nm_r (e' := upd w q.length (tm_not d x)) (by rw [nI_clamp (by omega)]; rfl) (nm_r (nI_1 t) ?_)⟩
          exact ih (t + 1) (tm_not d x :: q) _ n hc' hw' (by rw [List.length_cons]; omega) (by omega) (by omega) (tm_sk_push hk.2) hp
      · refine br_f (by rw [show (4 : Int32) = nI 4 from rfl, nI_eq (by omega) (by omega)]; exact c2) ?_
        by_cases c3 : K < 9
        · have z : tm_tk K = 2 := by unfold tm_tk; rw [if_neg c1, if_pos (by omega)]
          rw [z] at hw' htk
          match s, ht, hk, hp, htk, hw' with
          | [], _, _, _, htk, _ => exact absurd htk (by decide)
          | [_], _, _, _, htk, _ => exact absurd htk (show ¬ 2 ≤ 1 by decide)
          | x :: v :: q, ht, hk, hp, htk, hw' =>
            rw [List.length_cons, List.length_cons] at ht
            have es : tm_st m d (K, A) (x :: v :: q) = tm_cb d K v x :: q := by
              unfold tm_st
              rw [if_neg c1, if_neg c2, if_pos c3]
              rfl
            have e3 : nI (x :: v :: q).length - 1 = nI (q.length + 1) := nI_pred _
            have e4 : nI (x :: v :: q).length - 2 = nI q.length := pk_sub (a := q.length + 2) (b := 2) (by omega)
            have e5 : nI (x :: v :: q).length + (-1) = nI (q.length + 1) := pk_m1 _
            have w1 : w (nI q.length).toNatClampNeg = v := by rw [nI_clamp (by omega)]; exact hk.2.1
            have w2 : w (nI (q.length + 1)).toNatClampNeg = x := by rw [nI_clamp (by omega)]; exact hk.1
            refine br_f (nI_ge (b := 9) c3 (by omega)) ?_
            rw [e3, e4, w1, w2]
            refine ⟨vp_in_nI (by omega) (by omega), vp_in_nI (by omega) (by omega), ty_cmb h0 h3 (by omega) (by omega) ⟨vp_in_nI (by omega) (by omega), nm_r (by rw [nI_clamp (by omega)]) (nm_r e5 (nm_r (nI_1 t) ?_))⟩⟩
            exact ih (t + 1) (tm_cb d K v x :: q) _ n hc' hw' (by rw [List.length_cons]; omega) (by omega) (by omega) (tm_sk_push hk.2.2) (fun w' h' => hp w' (by
              show tm_sk w' (tm_ev m d r (tm_st m d (K, A) (x :: v :: q)))
              rw [es]; exact h'))
        · have z : tm_tk K = 1 := by unfold tm_tk; rw [if_neg c1, if_neg (by omega)]
          have hA6 : A < 6 := by
            have a1 := hok.2.1
            have a2 := hok.2.2.2
            dsimp only at a1 a2
            rcases (by omega : K = 9 ∨ K = 10 ∨ K = 11) with e | e | e
            · have := a1 (Or.inr (Or.inl e)); omega
            · have := a1 (Or.inr (Or.inr e)); omega
            · exact a2 e
          have hyA := hy.trans (hA (Or.inr (by omega)))
          subst hyA
          rw [z] at hw' htk
          match s, ht, hk, hp, htk, hw' with
          | [], _, _, _, htk, _ => exact absurd htk (by decide)
          | x :: q, ht, hk, hp, htk, hw' =>
            rw [List.length_cons] at ht
            have hls := tm_ls_r (K := K) h0 h3 hA6
            have es : tm_st m d (K, A) (x :: q) = tm_ct d (tm_ls K A d) (A % 3) x :: q := by
              unfold tm_st
              rw [if_neg c1, if_neg c2, if_neg c3]
              rfl
            have e3 : nI (x :: q).length - 1 = nI q.length := nI_pred _
            have w1 : w (nI q.length).toNatClampNeg = x := by rw [nI_clamp (by omega)]; exact hk.1
            have w3 : nI A - nI A / 3 * 3 = nI (A % 3) := pk_rem (d := 3) (by omega) (by omega) (by omega)
            have w4 : 2 + nI A / 3 = nI (2 + A / 3) := by
              rw [show nI A / 3 = nI (A / 3) from pk_div (d := 3) (by omega) (by omega) (by omega), show (2 : Int32) = nI 2 from rfl, nI_add]
            have g : wY_listsOf_181 post (wY_listsOf_11 post (nI sl) m (tm_dom d) (nI d) fh fa n) (nI sl) m (nI (x :: q).length) (tm_dom d) (nI t) (nI A) (nI (tm_ls K A d)) (nI d) fh fa l k a w := by
              unfold wY_listsOf_181
              rw [e3, w1, w3]
              refine ⟨vp_in_nI (by omega) (by omega), by decide, ty_cnt h3 (by omega) hls.2 ⟨vp_in_nI (by omega) (by omega), nm_r (by rw [nI_clamp (by omega)]) (nm_r (nI_1 t) ?_)⟩⟩
              exact ih (t + 1) (tm_ct d (tm_ls K A d) (A % 3) x :: q) _ n hc' hw' (by rw [List.length_cons]; omega) (by omega) (by omega) (tm_sk_push hk.2) (fun w' h' => hp w' (by
                show tm_sk w' (tm_ev m d r (tm_st m d (K, A) (x :: q)))
                rw [es]; exact h'))
            refine br_t (nI_le (a := 9) (by omega) (by omega)) ?_
            rcases (by omega : K = 9 ∨ K = 10 ∨ K = 11) with rfl | rfl | rfl
            · exact br_t rfl g
            · exact br_f (by decide +kernel) (br_t rfl g)
            · refine br_f (by decide +kernel) (br_f (by decide +kernel) ⟨by decide, ?_⟩)
              rw [w4]
              exact g
theorem ty_lo {post : Int32 → SY → Prop} {fh fa m y : Int32} {k a l w : Nat → Int32} {d : Nat} {F : Nat → List (Nat × Nat)} {S : Nat → Prop} (sl : Nat) (hy : y = nI sl) (hS : S sl) (h0 : 0 < d) (h3 : d ≤ 3) (har : tm_ar k a l F S) (hgd : tm_gd F S) (h : ∀ w', post (tm_tv m d (F sl)) (nI d, fh, fa, l, k, a, w')) : wpY_listsOf post (nI d, fh, fa, l, k, a, w) y m := by
  subst hy
  obtain ⟨hs, h1, h24, hw⟩ := hgd sl hS
  obtain ⟨hl, hc⟩ := har sl hS
  unfold wpY_listsOf
  refine ty_all h0 h3 ⟨(F sl).length + 1, ty_lo11 hs h0 h3 h24 hl (F sl) 0 [] w _ hc hw (Nat.le_refl _) (Nat.zero_add _) (by omega) True.intro (fun w' h' => ?_)⟩
  rw [tm_sk_tv hw h']
  exact h w'
theorem ty_val {post : Int32 → SY → Prop} {fh fa m y : Int32} {k a l w : Nat → Int32} {d : Nat} {F : Nat → List (Nat × Nat)} {S : Nat → Prop} (sl : Nat) (hy : y = nI sl) (hS : S sl) (h0 : 0 < d) (h3 : d ≤ 3) (har : tm_ar k a l F S) (hgd : tm_gd F S) (h : ∀ w', post (tm_bi (tm_va m d (F sl))) (nI d, fh, fa, l, k, a, w')) : wpY_isValid post (nI d, fh, fa, l, k, a, w) y m := by
  unfold wpY_isValid
  refine ty_lo sl hy hS h0 h3 har hgd (fun w' => ty_all h0 h3 (br_c (fun e => ?_) (fun e => ?_)))
  · have g := h w'
    unfold tm_va at g
    rw [decide_eq_true e] at g
    exact g
  · have g := h w'
    unfold tm_va at g
    rw [decide_eq_false e] at g
    exact g
theorem ty_fit {post : Int32 → SY → Prop} {fh m ex : Int32} {k a l w : Nat → Int32} {x d : Nat} {F : Nat → List (Nat × Nat)} {S : Nat → Prop} (hx : x ≤ 6) (hS : ∀ i, i < x → S (6 + i)) (h0 : 0 < d) (h3 : d ≤ 3) (har : tm_ar k a l F S) (hgd : tm_gd F S) (h : ∀ w', post (tm_bi (tm_sa F x d ex m)) (nI d, fh, nI x, l, k, a, w')) : wpY_fits post (nI d, fh, nI x, l, k, a, w) m ex := by
  unfold wpY_fits
  refine loop_0 (fun n i (s : Nat → Int32) => wY_fits_2 post m ex n (nI i) (nI d) fh (nI x) l k a s) (fun i _ => ∀ j, j < i → (decide (nI j = ex) || tm_va m d (F (6 + j))) = true) x w (fun j hj => absurd hj (by omega)) ?_ ?_
  · intro n s hI
    have e : tm_sa F x d ex m = true := tm_al_t.mpr hI
    have g := h s
    rw [e] at g
    exact br_t (nI_le (Nat.le_refl x) (by omega)) g
  · intro n i s hi hI kk
    refine br_f (nI_ge hi (by omega)) (br_c (fun e => ?_) (fun e => ?_))
    · refine nm_r (nI_1 i) (kk s (lt_s hI ?_))
      rw [decide_eq_true e]; rfl
    · refine ty_val (6 + i) (nI_add 6 i) (hS i hi) h0 h3 har hgd (fun w' => tm_br (fun z => ?_) (fun z => ?_))
      · have e2 : tm_sa F x d ex m = false := tm_al_f hi (by rw [decide_eq_false e, z]; rfl)
        have g := h w'
        rw [e2] at g
        exact g
      · refine nm_r (nI_1 i) (kk w' (lt_s hI ?_))
        rw [z, Bool.or_true]
