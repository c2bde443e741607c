/-! the component's private methods without a state -/
theorem tx_int {post : Int32 → Prop} {d : Nat} (h0 : 0 < d) (h3 : d ≤ 3) (h : post (nI (tm_N d))) : wpX_interpretations post (nI d) := by
  unfold wpX_interpretations
  rw [tm_IN d (by omega) h0]
  exact h
theorem tx_dig {post : Int32 → Prop} {x y : Int32} (n : Nat) (hn : n < 32) (hy : y = nI n) (h : post (tm_bi (bt x n))) : wpX_hasDigit post x y := by
  subst hy
  unfold wpX_hasDigit
  rw [tm_dg1 x hn]
  cases hb : bt x n
  · rw [hb] at h; exact br_f (by decide) h
  · rw [hb] at h; exact br_t rfl h
theorem tx_lod {post : Int32 → Prop} {d : Nat} (h0 : 0 < d) (h3 : d ≤ 3) (h : post (tm_dom d)) : wpX_listsOfDomain post (nI d) := by
  unfold wpX_listsOfDomain
  rcases (by omega : d = 1 ∨ d = 2 ∨ d = 3) with rfl | rfl | rfl
  · exact br_t (by decide +kernel) h
  · exact br_f (by decide +kernel) (br_t (by decide +kernel) h)
  · exact br_f (by decide +kernel) (br_f (by decide +kernel) h)
theorem tx_tak {post : Int32 → Prop} {K : Nat} (hK : K ≤ 11) (h : post (nI (tm_tk K))) : wpX_takes post (nI K) := by
  unfold wpX_takes
  unfold tm_tk at h
  refine pk_lt 3 K (fun a => pk_lt K 5 (fun b => ?_) (fun b => pk_lt 8 K (fun c => ?_) (fun c => ?_))) (fun a => ?_)
  · rw [if_neg (by omega), if_neg (by omega)] at h; exact h
  · rw [if_neg (by omega), if_neg (by omega)] at h; exact h
  · rw [if_neg (by omega), if_pos (by omega)] at h; exact h
  · rw [if_pos (by omega)] at h; exact h
theorem tx_lw {post : Int32 → Prop} {v e : Nat} (hv : v < 3) (he : e < 3) (h : post (tm_lw v e)) : wpX_listsWith post (nI v) (nI e) := by
  unfold wpX_listsWith
  unfold tm_lw at h
  rcases (by omega : v = 0 ∨ v = 1 ∨ v = 2) with rfl | rfl | rfl
  · refine br_t (by decide +kernel) ?_
    rw [show e * tm_sp 0 = e from Nat.mul_one e] at h
    exact h
  · refine br_f (by decide +kernel) (br_t (by decide +kernel) ?_)
    rw [show e * tm_sp 1 = 3 * e from Nat.mul_comm e 3, ← pk_mul] at h
    exact h
  · refine br_f (by decide +kernel) (br_f (by decide +kernel) ?_)
    rw [show e * tm_sp 2 = 9 * e from Nat.mul_comm e 9, ← pk_mul] at h
    exact h
theorem tx_own {post : Int32 → Prop} {m : Int32} {d : Nat} (h3 : d ≤ 3) (h : post (tm_ow m d)) : wpX_ownersWithThemselves post m (nI d) := by
  unfold wpX_ownersWithThemselves
  refine loop_0 (fun n i s => wX_ownersWithThemselves_4 post m (nI d) n s (nI i)) (fun i s => s = tm_ow m i) d 0 (tm_ow_0 m).symm ?_ ?_
  · intro n s hs
    subst hs
    exact br_t (nI_le (Nat.le_refl d) (by omega)) h
  · intro n i s hi hs k
    subst hs
    refine br_f (nI_ge hi (by omega)) (nm_r ?_ (nm_r (nI_1 i) (k _ rfl)))
    have e : (3 * nI i) + nI i = nI (3 * i + i) := by rw [show (3 : Int32) = nI 3 from rfl, pk_mul, nI_add]
    rw [e, tm_dgs _ _ (by omega) (by omega), tm_ow_s m (by omega)]
theorem tx_rel12 {post : Int32 → Prop} {J : Int32 → Int32 → Prop} {m : Int32} {d e : Nat} (h3 : d ≤ 3) (he : e < d) (h : J (tm_rf m d (e + 1) 0) (nI (e + 1))) : ∃ n, wX_related_12 post J m (nI d) (nI e) n (tm_rf m d e 0) 0 := by
  refine loop_0 (fun n i s => wX_related_12 post J m (nI d) (nI e) n s (nI i)) (fun i s => s = tm_rf m d e i) d (tm_rf m d e 0) rfl ?_ ?_
  · intro n s hs
    subst hs
    rw [tm_rf_n]
    exact br_t (nI_le (Nat.le_refl d) (by omega)) (nm_r (nI_1 e) h)
  · intro n i s hi hs k
    subst hs
    refine br_f (nI_ge hi (by omega)) (nm_r ?_ (nm_r (nI_1 i) (k _ rfl)))
    have e1 : (3 * nI e) + nI i = nI (3 * e + i) := by rw [show (3 : Int32) = nI 3 from rfl, pk_mul, nI_add]
    have e2 : (nI d + (nI d * nI e)) + nI i = nI (d + d * e + i) := by rw [pk_mul, nI_add, nI_add]
    have e3 : d * e ≤ 3 * 2 := Nat.mul_le_mul h3 (by omega)
    rw [e1, e2, tm_dgs _ _ (by omega) (by omega), tm_rf_s m h3 he hi]
theorem tx_rel {post : Int32 → Prop} {m : Int32} {d : Nat} (h3 : d ≤ 3) (h : post (tm_rl m d)) : wpX_related post m (nI d) := by
  unfold wpX_related
  refine loop_0 (fun n i s => wX_related_4 post m (nI d) n s (nI i)) (fun i s => s = tm_rf m d i 0) d 0 (tm_rf_0 m d).symm ?_ ?_
  · intro n s hs
    subst hs
    rw [tm_rf_e]
    exact br_t (nI_le (Nat.le_refl d) (by omega)) h
  · intro n i s hi hs k
    subst hs
    exact br_f (nI_ge hi (by omega)) (tx_rel12 h3 hi (k _ rfl))
theorem tm_shl {a k : Nat} (hk : k < 32) (h : a * 2 ^ k < 2 ^ 32) : nI a <<< (nI k &&& 31) = nI (a <<< k) := by
  rw [pk_shlN _ k (s_l k hk) h, Nat.shiftLeft_eq]
theorem tm_shr {a k : Nat} (hk : k < 32) (h : a < 2 ^ 31) : nI a >>> (nI k &&& 31) = nI (a >>> k) := by
  rw [pk_shrN h _ k (s_l k hk), Nat.shiftRight_eq_div_pow]
theorem tx_clo25 {post : Int32 → Prop} {J : Int32 → Int32 → Prop} {via on q : Nat} (hv : via < 3) (ho : on < 8) (h : J (nI (tm_c1 via on q 3)) (nI (via + 1))) : ∃ n, wX_closed_25 post J (nI via) (nI on) n (nI q) 0 := by
  refine loop_0 (fun n i s => wX_closed_25 post J (nI via) (nI on) n s (nI i)) (fun i s => s = nI (tm_c1 via on q i)) 3 (nI q) rfl ?_ ?_
  · intro n s hs
    subst hs
    exact br_t (by decide +kernel) (nm_r (nI_1 via) h)
  · intro n i s hi hs k
    subst hs
    have e1 : (3 * nI i) + nI via = nI (3 * i + via) := by rw [show (3 : Int32) = nI 3 from rfl, pk_mul, nI_add]
    have e2 : 3 * nI i = nI (3 * i) := by rw [show (3 : Int32) = nI 3 from rfl, pk_mul]
    have e3 : on * 2 ^ (3 * i) < 2 ^ 32 := by
      have : 2 ^ (3 * i) ≤ 2 ^ 6 := Nat.pow_le_pow_right (by decide) (by omega)
      have : on * 2 ^ (3 * i) ≤ 8 * 2 ^ 6 := Nat.mul_le_mul (by omega) this
      omega
    have st : tm_c1 via on q (i + 1) = if (tm_c1 via on q i).testBit (3 * i + via) = true then tm_c1 via on q i ||| (on <<< (3 * i)) else tm_c1 via on q i := rfl
    refine br_f (nI_ge (b := 3) hi (by omega)) ?_
    rw [e1, e2, tm_dg1 _ (by omega), tm_bN _ (by omega), tm_shl (by omega) e3]
    refine br_c (fun hb => ?_) (fun hb => ?_)
    · refine nm_r (nx_or _ _) (nm_r (nI_1 i) (k _ ?_))
      rw [st, if_pos hb]
    · refine nm_r (nI_1 i) (k _ ?_)
      rw [st, if_neg hb]
theorem tx_clo {post : Int32 → Prop} {r : Nat} (hr : r < 512) (h : post (nI (tm_cl r 3))) : wpX_closed post (nI r) := by
  unfold wpX_closed
  refine nm_r (show nI r ||| 273 = nI (r ||| 273) from nx_or r 273) ?_
  refine loop_0 (fun n i s => wX_closed_8 post n s (nI i)) (fun i s => s = nI (tm_cl r i)) 3 (nI (r ||| 273)) rfl ?_ ?_
  · intro n s hs
    subst hs
    exact br_t (by decide +kernel) h
  · intro n i s hi hs k
    subst hs
    have e2 : 3 * nI i = nI (3 * i) := by rw [show (3 : Int32) = nI 3 from rfl, pk_mul]
    have hq := tm_cl_lt r hr i (by omega)
    refine br_f (nI_ge (b := 3) hi (by omega)) ?_
    rw [e2, tm_shr (by omega) (by omega)]
    refine nm_r (show nI (tm_cl r i >>> (3 * i)) &&& 7 = nI ((tm_cl r i >>> (3 * i)) &&& 7) from nx_and _ 7) ?_
    refine tx_clo25 hi (Nat.lt_of_le_of_lt Nat.and_le_right (by decide)) (k _ rfl)
theorem tx_at84 {post : Int32 → Prop} {J : Int32 → Int32 → Prop} {P : Int32} {d v w e : Nat} (h3 : d ≤ 3) (hv : v < 3) (hw : w < 3) (he : e < d) (h : J (tm_af P d v w (e + 1) 0) (nI (e + 1))) : ∃ n, wX_atom_84 post J (nI d) (nI v) (nI w) P (nI e) n (tm_af P d v w e 0) 0 := by
  refine loop_0 (fun n i s => wX_atom_84 post J (nI d) (nI v) (nI w) P (nI e) n s (nI i)) (fun i s => s = tm_af P d v w e i) d (tm_af P d v w e 0) rfl ?_ ?_
  · intro n s hs
    subst hs
    rw [tm_af_n]
    exact br_t (nI_le (Nat.le_refl d) (by omega)) (nm_r (nI_1 e) h)
  · intro n i s hi hs k
    subst hs
    have e1 : (3 * nI e) + nI i = nI (3 * e + i) := by rw [show (3 : Int32) = nI 3 from rfl, pk_mul, nI_add]
    have st := tm_af_s P h3 hv hw he hi
    refine br_f (nI_ge hi (by omega)) (tx_dig (3 * e + i) (by omega) e1 (tm_br (fun hb => ?_) (fun hb => ?_)))
    · refine nm_r (nI_1 i) (k _ ?_)
      rw [hb, if_neg (by decide)] at st
      exact st
    · refine tx_lw hv (by omega) (tx_lw hw (by omega) (nm_r ?_ (nm_r (nI_1 i) (k _ rfl))))
      rw [hb, if_pos rfl] at st
      exact st
theorem tx_at75 {post : Int32 → Prop} {P : Int32} {d v w : Nat} (h3 : d ≤ 3) (hv : v < 3) (hw : w < 3) (h : post (tm_af P d v w d 0)) : ∃ n, wX_atom_75 post (nI d) (nI v) (nI w) P n 0 0 := by
  refine loop_0 (fun n i s => wX_atom_75 post (nI d) (nI v) (nI w) P n s (nI i)) (fun i s => s = tm_af P d v w i 0) d 0 (tm_af_0 P d v w).symm ?_ ?_
  · intro n s hs
    subst hs
    exact br_t (nI_le (Nat.le_refl d) (by omega)) h
  · intro n i s hi hs k
    subst hs
    exact br_f (nI_ge hi (by omega)) (tx_at84 h3 hv hw hi (k _ rfl))
theorem tm_vw {K A : Nat} (h : tm_ok (K, A)) (hK : K < 4) : tm_v K A < 3 ∧ tm_w K A < 3 ∧ A < 9 := by
  unfold tm_ok at h
  dsimp only at h
  unfold tm_v tm_w
  by_cases z : K = 0
  · have := h.2.1 (Or.inl z)
    rw [if_pos z, if_pos z]
    omega
  · have := h.2.2.1 (by omega)
    rw [if_neg z, if_neg z]
    omega
theorem tx_atm {post : Int32 → Prop} {K A : Nat} {m : Int32} {d : Nat} (h3 : d ≤ 3) (hK : K < 4) (ok : tm_ok (K, A)) (h : post (tm_af (tm_ps K m d) d (tm_v K A) (tm_w K A) d 0)) : wpX_atom post (nI K) (nI A) m (nI d) := by
  have hvw := tm_vw ok hK
  have n3 : ¬ (3 : Int32) = 0 := by decide
  have ev : nI A / 3 = nI (A / 3) := pk_div (d := 3) (by omega) (by omega) (by omega)
  have ew : nI A - nI A / 3 * 3 = nI (A % 3) := pk_rem (d := 3) (by omega) (by omega) (by omega)
  unfold wpX_atom wX_atom_11 wX_atom_24 wX_atom_57
  rw [ev]
  rw [ev] at ew
  rw [ew]
  rcases (by omega : K = 0 ∨ K = 1 ∨ K = 2 ∨ K = 3) with rfl | rfl | rfl | rfl
  · refine br_t rfl (br_t rfl (br_t rfl (tx_own h3 (br_f (by decide +kernel) (tx_at75 h3 hvw.1 hvw.2.1 h)))))
  · refine br_f (by decide +kernel) ⟨n3, br_f (by decide +kernel) ⟨n3, br_f (by decide +kernel) (br_f (by decide +kernel) (tx_rel h3 (br_f (by decide +kernel) (tx_at75 h3 hvw.1 hvw.2.1 h))))⟩⟩
  · refine br_f (by decide +kernel) ⟨n3, br_f (by decide +kernel) ⟨n3, br_f (by decide +kernel) (br_t rfl (br_f (by decide +kernel) (tx_at75 h3 hvw.1 hvw.2.1 h)))⟩⟩
  · refine br_f (by decide +kernel) ⟨n3, br_f (by decide +kernel) ⟨n3, br_f (by decide +kernel) (br_f (by decide +kernel) (tx_rel h3 (br_t rfl ?_)))⟩⟩
    rw [(tm_rN_p m d).2]
    exact tx_clo (tm_rN_p m d).1 (tx_at75 h3 hvw.1 hvw.2.1 h)
theorem tx_jn {post : Int32 → Prop} {K : Nat} {f g : Int32} (h5 : 5 ≤ K) (h8 : K ≤ 8) (h : post (tm_jn K f g)) : wpX_joined post (nI K) f g := by
  unfold wpX_joined
  rcases (by omega : K = 5 ∨ K = 6 ∨ K = 7 ∨ K = 8) with rfl | rfl | rfl | rfl
  · exact br_f (by decide +kernel) (br_f (by decide +kernel) (br_t rfl h))
  · exact br_f (by decide +kernel) (br_f (by decide +kernel) (br_f (by decide +kernel) (br_t rfl h)))
  · exact br_f (by decide +kernel) (br_f (by decide +kernel) (br_f (by decide +kernel) (br_f (by decide +kernel) (br_t rfl h))))
  · exact br_f (by decide +kernel) (br_t (by decide +kernel) h)
theorem tx_need {post : Int32 → Prop} {K A d : Nat} (h9 : 9 ≤ K) (h11 : K ≤ 11) (hA : A < 6) (h : post (nI (tm_ls K A d))) : wpX_needed post (nI K) (nI A) (nI d) := by
  unfold wpX_needed
  rcases (by omega : K = 9 ∨ K = 10 ∨ K = 11) with rfl | rfl | rfl
  · exact br_t rfl h
  · exact br_f (by decide +kernel) (br_t rfl h)
  · refine br_f (by decide +kernel) (br_f (by decide +kernel) ⟨by decide, ?_⟩)
    have e : 2 + nI A / 3 = nI (2 + A / 3) := by
      rw [show nI A / 3 = nI (A / 3) from pk_div (d := 3) (by omega) (by omega) (by omega), show (2 : Int32) = nI 2 from rfl, nI_add]
    rw [e]
    exact h
theorem tm_lw0 : ∀ v, v < 3 → tm_lw v 0 = tm_Z v := by decide +kernel
theorem tm_fw_x (f : Int32) (v e : Nat) : (f >>> ((nI e * nI (tm_sp v)) &&& 31)) &&& tm_Z v = tm_fw f v e := by
  unfold tm_fw
  rw [pk_mul]
theorem tx_fal39 {post : Int32 → Prop} {k v : Nat} {f : Int32} (h1 : 1 ≤ k) (h3 : k ≤ 3) (h : post (tm_fr f k v)) : ∃ n, wX_forAtLeast_39 post (nI k) f (nI (tm_sp v)) (tm_Z v) n 0 0 0 0 := by
  have e2 : 2 * nI (tm_sp v) = nI (2 * tm_sp v) := pk_mul 2 _
  refine ⟨4, br_f (by decide +kernel) (nm_r (tm_fw_x f v 0) (nm_e (nm_e (nm_e (nm_r (nI_1 0) (br_f (by decide +kernel) (nm_r (tm_fw_x f v 1) (nm_e (nm_e (nm_e (nm_r (nI_1 1) (br_f (by decide +kernel) (nm_r (tm_fw_x f v 2) (nm_e (nm_e (nm_e (nm_r (nI_1 2) (br_t (by decide +kernel) ?_))))))))))))))))))⟩
  unfold wX_forAtLeast_111
  rw [e2]
  unfold tm_fr tm_fk at h
  rcases (by omega : k = 1 ∨ k = 2 ∨ k = 3) with rfl | rfl | rfl
  · exact br_t rfl h
  · exact br_f (by decide +kernel) (br_t rfl h)
  · exact br_f (by decide +kernel) (br_f (by decide +kernel) h)
theorem tx_fal {post : Int32 → Prop} {k v : Nat} {f : Int32} (hv : v < 3) (h1 : 1 ≤ k) (h3 : k ≤ 3) (h : post (tm_fr f k v)) : wpX_forAtLeast post (nI k) (nI v) f := by
  have g := tx_fal39 h1 h3 h
  rw [← tm_lw0 v hv] at g
  unfold wpX_forAtLeast wX_forAtLeast_19
  rcases (by omega : v = 0 ∨ v = 1 ∨ v = 2) with rfl | rfl | rfl
  · exact br_t rfl (tx_lw (e := 0) hv (by omega) g)
  · exact br_f (by decide +kernel) (br_t rfl (tx_lw (e := 0) hv (by omega) g))
  · exact br_f (by decide +kernel) (br_f (by decide +kernel) (tx_lw (e := 0) hv (by omega) g))
