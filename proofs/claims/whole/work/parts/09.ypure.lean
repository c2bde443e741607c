/-! the reference's private methods that change nothing -/
section
variable {fh fa : Int32} {k a l w : Nat → Int32}
theorem ty_int {post : Int32 → Prop} {d : Nat} (h0 : 0 < d) (h3 : d ≤ 3) (h : post (nI (tm_N d))) : wpY_interpretations post (nI d, fh, fa, l, k, a, w) := by
  unfold wpY_interpretations
  dsimp only
  rw [tm_IN d (by omega) h0]
  exact h
theorem ty_rel {post : Int32 → Prop} {m : Int32} {d e f : Nat} (hb : d + d * e + f < 32) (h : post (tm_bi (bt m (d + d * e + f)))) : wpY_related post (nI d, fh, fa, l, k, a, w) m (nI e) (nI f) := by
  unfold wpY_related
  dsimp only
  rw [pk_mul, nI_add, nI_add, tm_dg1 m hb]
  cases hc : bt m (d + d * e + f)
  · rw [hc] at h; exact br_f (by decide) h
  · rw [hc] at h; exact br_t rfl h
theorem ty_el {post : Int32 → Prop} {u : SY} {i v : Nat} (hi : i < 27) (hv : v < 3) (h : post (nI (tm_el i v))) : wpY_element post u (nI i) (nI v) := by
  obtain ⟨f1, f2, f3, a1, a2, a3, a4⟩ := u
  have n3 : ¬ (3 : Int32) = 0 := by decide
  have e0 : nI i - nI i / 3 * 3 = nI (i % 3) := pk_rem (d := 3) (by omega) (by omega) (by omega)
  have e1 : nI i / 3 = nI (i / 3) := pk_div (d := 3) (by omega) (by omega) (by omega)
  have e2 : nI (i / 3) - nI (i / 3) / 3 * 3 = nI (i / 3 % 3) := pk_rem (d := 3) (by omega) (by omega) (by omega)
  have e3 : nI i / 9 = nI (i / 9) := pk_div (d := 9) (by omega) (by omega) (by omega)
  unfold wpY_element
  dsimp only
  rw [e0, e1, e2, e3]
  rcases (by omega : v = 0 ∨ v = 1 ∨ v = 2) with rfl | rfl | rfl
  · exact br_t rfl ⟨n3, h⟩
  · exact br_f (by decide +kernel) (br_t rfl ⟨n3, n3, h⟩)
  · exact br_f (by decide +kernel) (br_f (by decide +kernel) ⟨by decide, h⟩)
theorem ty_isl {post : Int32 → Prop} {d i : Nat} (h3 : d ≤ 3) (hi : i < 27) (h : post (tm_bi (tm_il d i))) : wpY_isList post (nI d, fh, fa, l, k, a, w) (nI i) := by
  unfold wpY_isList
  have l0 := tm_el_lt i hi 0 (by omega)
  have l1 := tm_el_lt i hi 1 (by omega)
  have l2 := tm_el_lt i hi 2 (by omega)
  unfold tm_il at h
  refine br_f (nI_pos (by omega)) (br_f (nI_ge (b := 27) hi (by omega)) (ty_el (v := 0) hi (by omega) (pk_le d (tm_el i 0) (fun c => ?_) (fun c => ty_el (v := 1) hi (by omega) (pk_le d (tm_el i 1) (fun c1 => ?_) (fun c1 => ty_el (v := 2) hi (by omega) (pk_le d (tm_el i 2) (fun c2 => ?_) (fun c2 => ?_))))))))
  · rw [decide_eq_false (by omega)] at h; exact h
  · rw [decide_eq_true c, decide_eq_false (by omega : ¬ tm_el i 1 < d)] at h; exact h
  · rw [decide_eq_true c, decide_eq_true c1, decide_eq_false (by omega : ¬ tm_el i 2 < d)] at h; exact h
  · rw [decide_eq_true c, decide_eq_true c1, decide_eq_true c2] at h; exact h
theorem tm_mk_s (p : Nat → Bool) (n : Nat) : tm_mk p (n + 1) = if p n = true then tm_mk p n ||| ((1 : Int32) <<< (nI n &&& 31)) else tm_mk p n := rfl
theorem ty_all {post : Int32 → Prop} {d : Nat} (h0 : 0 < d) (h3 : d ≤ 3) (h : post (tm_dom d)) : wpY_allLists post (nI d, fh, fa, l, k, a, w) := by
  unfold wpY_allLists
  rw [← tm_dom_mk d (by omega) h0] at h
  refine loop_0 (fun n i s => wY_allLists_4 post (nI d) fh fa l k a w n s (nI i)) (fun i s => s = tm_mk (tm_il d) i) 27 0 rfl ?_ ?_
  · intro n s hs
    subst hs
    exact br_t (by decide +kernel) h
  · intro n i s hi hs kk
    subst hs
    refine br_f (nI_ge (b := 27) hi (by omega)) (ty_isl h3 hi (tm_br (fun hb => nm_r (nI_1 i) (kk _ ?_)) (fun hb => nm_r ?_ (nm_r (nI_1 i) (kk _ rfl)))))
    · rw [tm_mk_s, if_neg (by rw [hb]; decide)]
    · rw [tm_mk_s, if_pos hb]
theorem ty_wi {post : Int32 → Prop} {u : SY} {i v e : Nat} (hi : i < 27) (hv : v < 3) (he : e < 3) (h : post (nI (tm_wi i v e))) : wpY_with post u (nI i) (nI v) (nI e) := by
  obtain ⟨f1, f2, f3, a1, a2, a3, a4⟩ := u
  have g := tm_wi_I i hi v hv e he
  rw [← g] at h
  unfold wpY_with wY_with_19
  rcases (by omega : v = 0 ∨ v = 1 ∨ v = 2) with rfl | rfl | rfl
  · exact br_t rfl (ty_el hi hv h)
  · exact br_f (by decide +kernel) (br_t rfl (ty_el hi hv h))
  · exact br_f (by decide +kernel) (br_f (by decide +kernel) (ty_el hi hv h))
theorem tm_r_b {m : Int32} {d x y : Nat} (hx : x < 3) (hy : y < 3) : (tm_rN m d).testBit (3 * x + y) = (bt m (d + d * x + y) && decide (x < d ∧ y < d)) := by
  rw [← tm_bN _ (by omega : 3 * x + y < 32), ← (tm_rN_p m d).2]
  unfold tm_rl
  rw [tm_mk_b _ 9 (by omega) _ (by omega), show (3 * x + y) / 3 = x by omega, show (3 * x + y) % 3 = y by omega, decide_eq_true (by omega : 3 * x + y < 9), Bool.true_and]
theorem tm_1s {y : Nat} (hy : y < 3) : (1 : Int32) <<< (nI y &&& 31) = nI (1 <<< y) := by
  rcases (by omega : y = 0 ∨ y = 1 ∨ y = 2) with rfl | rfl | rfl
  · decide +kernel
  · decide +kernel
  · decide +kernel
theorem ty_r75 {post : Int32 → Prop} {J : Int32 → Int32 → Prop} {x1 x3 x7 fd : Int32} {s i : Nat} (h : J (nI s) (nI (i + 1))) : wY_reaches_74 post J x1 x3 (nI s) (nI i) x7 fd fh fa l k a w := by
  unfold wY_reaches_74 wY_reaches_75
  exact br_t rfl (nm_r (nI_1 i) h)
theorem ty_rch {post : Int32 → Prop} {m : Int32} {d e f : Nat} (h3 : d ≤ 3) (he : e < 3) (hf : f < 3) (h : post (tm_bi ((tm_re (tm_rN m d) e 27).testBit f))) : wpY_reaches post (nI d, fh, fa, l, k, a, w) m (nI e) (nI f) := by
  have n3 : ¬ (3 : Int32) = 0 := by decide
  unfold wpY_reaches
  refine nm_r (tm_1s he) ?_
  refine loop_0 (fun n i s => wY_reaches_8 post m (nI f) (nI d) fh fa l k a w n s (nI i)) (fun i s => s = nI (tm_re (tm_rN m d) e i)) 27 (nI (1 <<< e)) rfl ?_ ?_
  · intro n s hs
    subst hs
    refine br_t (by decide +kernel) ?_
    rw [tm_dg1 _ (by omega), tm_bN _ (by omega)]
    cases hc : (tm_re (tm_rN m d) e 27).testBit f
    · rw [hc] at h; exact br_f (by decide) h
    · rw [hc] at h; exact br_t rfl h
  · intro n i s hi hs kk
    subst hs
    have e1 : nI i / 3 = nI (i / 3) := pk_div (d := 3) (by omega) (by omega) (by omega)
    have e2 : nI (i / 3) - nI (i / 3) / 3 * 3 = nI (i / 3 % 3) := pk_rem (d := 3) (by omega) (by omega) (by omega)
    have e0 : nI i - nI i / 3 * 3 = nI (i % 3) := pk_rem (d := 3) (by omega) (by omega) (by omega)
    have hx : i / 3 % 3 < 3 := Nat.mod_lt _ (by omega)
    have hy : i % 3 < 3 := Nat.mod_lt _ (by omega)
    have rb := tm_r_b (m := m) (d := d) hx hy
    have st : tm_re (tm_rN m d) e (i + 1) = if ((tm_re (tm_rN m d) e i).testBit (i / 3 % 3) && (tm_rN m d).testBit (3 * (i / 3 % 3) + i % 3)) = true then tm_re (tm_rN m d) e i ||| (1 <<< (i % 3)) else tm_re (tm_rN m d) e i := rfl
    have no : ((tm_re (tm_rN m d) e i).testBit (i / 3 % 3) && (tm_rN m d).testBit (3 * (i / 3 % 3) + i % 3)) = false → wY_reaches_74 post (wY_reaches_8 post m (nI f) (nI d) fh fa l k a w n) m (nI f) (nI (tm_re (tm_rN m d) e i)) (nI i) (nI (i % 3)) (nI d) fh fa l k a w := by
      intro z
      rw [z, if_neg (by decide)] at st
      exact ty_r75 (kk _ (by rw [st]))
    refine br_f (nI_ge (b := 27) hi (by omega)) ⟨n3, n3, nm_r (by rw [e1, e2]) ⟨n3, nm_r e0 (pk_le d (i / 3 % 3) (fun c => no ?_) (fun c => pk_le d (i % 3) (fun c1 => no ?_) (fun c1 => ?_)))⟩⟩
    · rw [rb, decide_eq_false (by omega), Bool.and_false, Bool.and_false]
    · rw [rb, decide_eq_false (by omega), Bool.and_false, Bool.and_false]
    · rw [decide_eq_true (by omega : i / 3 % 3 < d ∧ i % 3 < d), Bool.and_true] at rb
      rw [tm_dg1 _ (by omega), tm_bN _ (by omega)]
      have e3 : d * (i / 3 % 3) ≤ 3 * 2 := Nat.mul_le_mul h3 (by omega)
      refine br_c (fun c2 => ty_rel (by omega) (tm_br (fun hb => no ?_) (fun hb => ?_))) (fun c2 => no ?_)
      · rw [rb, hb, Bool.and_false]
      · unfold wY_reaches_75
        rw [rb, hb, c2, Bool.and_self, if_pos rfl] at st
        refine br_f (by decide) (nm_r ?_ (nm_r (nI_1 i) (kk _ rfl)))
        rw [tm_1s hy, nx_or, st]
      · rw [Bool.eq_false_iff.mpr c2, Bool.false_and]
theorem ty_atom {post : Int32 → Prop} {m : Int32} {d K A i : Nat} (h3 : d ≤ 3) (hK : K < 4) (ok : tm_ok (K, A)) (hi : i < 27) (hil : tm_il d i = true) (h : post (tm_bi (tm_pr K m d (tm_el i (tm_v K A)) (tm_el i (tm_w K A))))) : wpY_atom post (nI d, fh, fa, l, k, a, w) (nI K) (nI A) m (nI i) := by
  have n3 : ¬ (3 : Int32) = 0 := by decide
  obtain ⟨hv, hw, hA⟩ := tm_vw ok hK
  have ev : nI A / 3 = nI (A / 3) := pk_div (d := 3) (by omega) (by omega) (by omega)
  have ew : nI A - nI A / 3 * 3 = nI (A % 3) := pk_rem (d := 3) (by omega) (by omega) (by omega)
  have lv := tm_el_lt i hi _ hv
  have lw := tm_el_lt i hi _ hw
  have x1 := tm_il_v hil hv
  have x2 := tm_il_v hil hw
  unfold wpY_atom
  dsimp only
  rw [ev]
  rw [ev] at ew
  rw [ew]
  rcases (by omega : K = 0 ∨ K = 1 ∨ K = 2 ∨ K = 3) with rfl | rfl | rfl | rfl
  · refine br_t rfl (ty_el hi hv ?_)
    rw [tm_dg1 m (show tm_el i A < 32 from Nat.lt_trans lv (by decide))]
    have h : post (tm_bi (bt m (tm_el i A))) := h
    cases hc : bt m (tm_el i A)
    · rw [hc] at h
      exact br_f (by decide) h
    · rw [hc] at h
      exact br_t rfl h
  · have e3 : d * tm_el i (A / 3) ≤ 3 * 2 := Nat.mul_le_mul h3 (by have : tm_el i (A / 3) < 3 := lv; omega)
    have e4 : tm_el i (A % 3) < 3 := lw
    exact br_f (by decide +kernel) ⟨n3, ty_el hi hv ⟨n3, ty_el hi hw (br_t rfl (ty_rel (by omega) ⟨tm_nn _, h⟩))⟩⟩
  · refine br_f (by decide +kernel) ⟨n3, ty_el hi hv ⟨n3, ty_el hi hw (br_f (by decide +kernel) (br_t rfl ?_))⟩⟩
    have e3 : tm_el i (A / 3) < 3 := lv
    have e4 : tm_el i (A % 3) < 3 := lw
    have h : post (tm_bi (decide (tm_el i (A / 3) = tm_el i (A % 3)))) := h
    refine pk_eq (tm_el i (A / 3)) (tm_el i (A % 3)) (fun c => ?_) (fun c => ?_)
    · rw [decide_eq_true c] at h; exact h
    · rw [decide_eq_false c] at h; exact h
  · exact br_f (by decide +kernel) ⟨n3, ty_el hi hv ⟨n3, ty_el hi hw (br_f (by decide +kernel) (br_f (by decide +kernel) (ty_rch h3 lv lw ⟨tm_nn _, h⟩)))⟩⟩
theorem ty_atoms {post : Int32 → Prop} {m : Int32} {d K A : Nat} (h3 : d ≤ 3) (hK : K < 4) (ok : tm_ok (K, A)) (h : post (tm_at K A m d)) : wpY_atoms post (nI d, fh, fa, l, k, a, w) (nI K) (nI A) m := by
  unfold wpY_atoms
  refine loop_0 (fun n i s => wY_atoms_6 post (nI K) (nI A) m (nI d) fh fa l k a w n s (nI i)) (fun i s => s = tm_mk (fun i => tm_il d i && tm_pr K m d (tm_el i (tm_v K A)) (tm_el i (tm_w K A))) i) 27 0 rfl ?_ ?_
  · intro n s hs
    subst hs
    exact br_t (by decide +kernel) h
  · intro n i s hi hs kk
    subst hs
    refine br_f (nI_ge (b := 27) hi (by omega)) (ty_isl h3 hi (tm_br (fun hb => nm_r (nI_1 i) (kk _ ?_)) (fun hb => ty_atom h3 hK ok hi hb (tm_br (fun hc => nm_r (nI_1 i) (kk _ ?_)) (fun hc => nm_r ?_ (nm_r (nI_1 i) (kk _ rfl)))))))
    · rw [tm_mk_s, hb, Bool.false_and, if_neg (by decide)]
    · rw [tm_mk_s, hc, Bool.and_false, if_neg (by decide)]
    · rw [tm_mk_s, hb, hc, Bool.and_true, if_pos rfl]
theorem tm_addb (c : Nat) (b : Bool) : nI c + (if b = true then (1 : Int32) else 0) = nI (c + (if b = true then 1 else 0)) := by
  cases b
  · exact Int32.add_zero _
  · exact nI_1 c
theorem ty_cnt19 {post : Int32 → Prop} {J : Int32 → Int32 → Prop} {x s : Int32} {d v q i : Nat} (h3 : d ≤ 3) (hv : v < 3) (hq : q ≤ 3) (hi : i < 27)
    (h : J (tm_set (tm_il d i && decide (q ≤ tm_cn (fun e => bt x (tm_wi i v e)) d)) i s) (nI (i + 1))) : ∃ n, wY_counted_19 post J x (nI v) (nI q) s (nI i) (nI d) fh fa l k a w n 0 0 := by
  refine loop_0 (fun n j c => wY_counted_19 post J x (nI v) (nI q) s (nI i) (nI d) fh fa l k a w n c (nI j)) (fun j c => c = nI (tm_cn (fun e => bt x (tm_wi i v e)) j)) d 0 rfl ?_ ?_
  · intro n c hc
    subst hc
    have hl := tm_cn_le (fun e => bt x (tm_wi i v e)) d
    refine br_t (nI_le (Nat.le_refl d) (by omega)) (ty_isl h3 hi (tm_br (fun hb => nm_r (nI_1 i) ?_) (fun hb => pk_lt (tm_cn (fun e => bt x (tm_wi i v e)) d) q (fun z => nm_r (nI_1 i) ?_) (fun z => nm_e (nm_r (nI_1 i) ?_)))))
    · rw [hb] at h; exact h
    · rw [decide_eq_false (by omega), Bool.and_false] at h; exact h
    · rw [hb, decide_eq_true z] at h; exact h
  · intro n j c hj hc kk
    subst hc
    have hw := (tm_wi_el i hi v hv j (by omega)).2
    refine br_f (nI_ge hj (by omega)) (ty_wi hi hv (by omega) (nm_r ?_ (nm_r (nI_1 j) (kk _ rfl))))
    rw [tm_dg x (by omega), tm_addb, tm_cn_s]
theorem ty_cnt {post : Int32 → Prop} {x : Int32} {d v q : Nat} (h3 : d ≤ 3) (hv : v < 3) (hq : q ≤ 3) (h : post (tm_ct d q v x)) : wpY_counted post (nI d, fh, fa, l, k, a, w) x (nI v) (nI q) := by
  unfold wpY_counted
  refine loop_0 (fun n i s => wY_counted_6 post x (nI v) (nI q) (nI d) fh fa l k a w n s (nI i)) (fun i s => s = tm_mk (fun i => tm_il d i && decide (q ≤ tm_cn (fun e => bt x (tm_wi i v e)) d)) i) 27 0 rfl ?_ ?_
  · intro n s hs
    subst hs
    exact br_t (by decide +kernel) h
  · intro n i s hi hs kk
    subst hs
    exact br_f (nI_ge (b := 27) hi (by omega)) (ty_cnt19 h3 hv hq hi (kk _ rfl))
theorem ty_cmb {post : Int32 → Prop} {d K : Nat} {f g : Int32} (h0 : 0 < d) (h3 : d ≤ 3) (h5 : 5 ≤ K) (h8 : K ≤ 8) (h : post (tm_cb d K f g)) : wpY_combined post (nI d, fh, fa, l, k, a, w) (nI K) f g := by
  unfold wpY_combined
  refine ty_all h0 h3 ?_
  rcases (by omega : K = 5 ∨ K = 6 ∨ K = 7 ∨ K = 8) with rfl | rfl | rfl | rfl
  · exact br_f (by decide +kernel) (br_f (by decide +kernel) (br_t rfl h))
  · exact br_f (by decide +kernel) (br_f (by decide +kernel) (br_f (by decide +kernel) (br_t rfl h)))
  · exact br_f (by decide +kernel) (br_f (by decide +kernel) (br_f (by decide +kernel) (br_f (by decide +kernel) (br_t rfl h))))
  · exact br_f (by decide +kernel) (br_t (by decide +kernel) h)
end
