/-! quantifiers: counters against counts -/
theorem tm_sub_b {d : Nat} {f : Int32} (h0 : 0 < d) (h3 : d ≤ 3) (hf : f &&& tm_dom d = f) {j : Nat} (h : bt f j = true) : j < 27 ∧ tm_il d j = true := by
  by_cases hj : j < 32
  · have e : bt (f &&& tm_dom d) j = true := by rw [hf]; exact h
    rw [b_and, tm_dom_b h0 h3 hj] at e
    simp only [Bool.and_eq_true, decide_eq_true_eq] at e
    exact e.2
  · rw [b_big (by omega)] at h; exact absurd h (by decide)
theorem tm_sub_and {d : Nat} {f : Int32} (hf : f &&& tm_dom d = f) (i : Nat) : bt f i = (bt f i && bt (tm_dom d) i) := by
  rw [← b_and, hf]
theorem tm_cn_d {d i v : Nat} {f : Int32} (h0 : 0 < d) (h3 : d ≤ 3) (hf : f &&& tm_dom d = f) (hi : i < 27) (hv : v < 3) : tm_cn (fun e => bt f (tm_wi i v e)) d = tm_cn (fun e => bt f (tm_wi i v e)) 3 := by
  have z : ∀ e, d ≤ e → e < 3 → bt f (tm_wi i v e) = false := by
    intro e he h
    cases hb : bt f (tm_wi i v e)
    · rfl
    · have a := (tm_sub_b h0 h3 hf hb).2
      have b := tm_il_v a hv
      rw [(tm_wi_el i hi v hv e h).1] at b
      omega
  rcases (by omega : d = 1 ∨ d = 2 ∨ d = 3) with rfl | rfl | rfl
  · rw [tm_cn_s _ 2, tm_cn_s _ 1, z 1 (by omega) (by omega), z 2 (by omega) (by omega)]; rfl
  · rw [tm_cn_s _ 2, z 2 (by omega) (by omega)]; rfl
  · rfl
theorem tm_th_cn {k : Nat} (h1 : 1 ≤ k) (h3 : k ≤ 3) (p : Nat → Bool) : decide (k ≤ tm_cn p 3) = tm_th k (p 0) (p 1) (p 2) := by
  show decide (k ≤ 0 + (if p 0 = true then 1 else 0) + (if p 1 = true then 1 else 0) + (if p 2 = true then 1 else 0)) = _
  generalize p 0 = a
  generalize p 1 = b
  generalize p 2 = c
  rcases (by omega : k = 1 ∨ k = 2 ∨ k = 3) with rfl | rfl | rfl
  · revert a b c; decide
  · revert a b c; decide
  · revert a b c; decide
theorem tm_fr_ct {d k v : Nat} {f : Int32} (h0 : 0 < d) (h3 : d ≤ 3) (k1 : 1 ≤ k) (k3 : k ≤ 3) (hv : v < 3) (hf : f &&& tm_dom d = f) : tm_fr f k v &&& tm_dom d = tm_ct d k v f := by
  apply tm_mk_eq (by omega)
  intro i hi
  rw [b_and, tm_dom_b h0 h3 hi]
  by_cases h27 : i < 27
  · cases hil : tm_il d i
    · simp
    · have hT := tm_Zt v hv i h27
      have hel := tm_el_lt i h27 v hv
      have hs := tm_sp_le v
      have e0 : bt (tm_fk f k v) i = (decide (tm_el i v = 0) && tm_th k (bt f i) (bt f (i + tm_sp v)) (bt f (i + 2 * tm_sp v))) := by
        rw [tm_fk_b f k hv h27, hT.1]
      have e1 : (decide (tm_sp v ≤ i) && bt (tm_fk f k v) (i - tm_sp v)) = (decide (tm_el i v = 1) && tm_th k (bt f (i - tm_sp v)) (bt f (i - tm_sp v + tm_sp v)) (bt f (i - tm_sp v + 2 * tm_sp v))) := by
        rw [tm_fk_b f k hv (by omega), ← Bool.and_assoc, hT.2.1]
      have e2 : (decide (2 * tm_sp v ≤ i) && bt (tm_fk f k v) (i - 2 * tm_sp v)) = (decide (tm_el i v = 2) && tm_th k (bt f (i - 2 * tm_sp v)) (bt f (i - 2 * tm_sp v + tm_sp v)) (bt f (i - 2 * tm_sp v + 2 * tm_sp v))) := by
        rw [tm_fk_b f k hv (by omega), ← Bool.and_assoc, hT.2.2]
      have er : bt (tm_fr f k v) i = tm_th k (bt f (tm_wi i v 0)) (bt f (tm_wi i v 1)) (bt f (tm_wi i v 2)) := by
        unfold tm_fr tm_wi
        rw [b_or, b_or, b_shl _ (by omega) _ hi, b_shl _ (by omega) _ hi, e0, e1, e2]
        rcases (by omega : tm_el i v = 0 ∨ tm_el i v = 1 ∨ tm_el i v = 2) with z | z | z
        · simp [z]
        · simp [z]
        · simp [z]
      rw [er, tm_cn_d h0 h3 hf h27 hv, tm_th_cn k1 k3]
      simp [h27]
  · simp [h27]
/-! joins -/
def tm_not (d : Nat) (x : Int32) : Int32 := tm_dom d &&& (x ^^^ (-1))
def tm_cb (d K : Nat) (f g : Int32) : Int32 := if K = 5 then f &&& g else if K = 6 then f ||| g else if K = 7 then (tm_dom d &&& (f ^^^ (-1))) ||| g else tm_dom d &&& ((f ^^^ g) ^^^ (-1))
def tm_jn (K : Nat) (f g : Int32) : Int32 := if K = 5 then f &&& g else if K = 6 then f ||| g else if K = 7 then (f ^^^ (-1)) ||| g else (f ^^^ g) ^^^ (-1)
theorem tm_not_x (d : Nat) (x : Int32) : (x ^^^ (-1)) &&& tm_dom d = tm_not d x := Int32.and_comm _ _
theorem tm_jn_cb {d K : Nat} {f g : Int32} (hf : f &&& tm_dom d = f) (hg : g &&& tm_dom d = g) : tm_jn K f g &&& tm_dom d = tm_cb d K f g := by
  unfold tm_jn tm_cb
  apply b_ext
  intro i hi
  have a := tm_sub_and hf i
  have b := tm_sub_and hg i
  have c := b_m1 i hi
  split
  · rw [b_and, b_and]
    revert a b
    cases bt f i <;> cases bt g i <;> cases bt (tm_dom d) i <;> decide
  · split
    · rw [b_and, b_or]
      revert a b
      cases bt f i <;> cases bt g i <;> cases bt (tm_dom d) i <;> decide
    · split
      · rw [b_and, b_or, b_or, b_and, b_xor, c]
        revert a b
        cases bt f i <;> cases bt g i <;> cases bt (tm_dom d) i <;> decide
      · rw [b_and, b_and, b_xor, b_xor, c]
        revert a b
        cases bt f i <;> cases bt g i <;> cases bt (tm_dom d) i <;> decide
theorem tm_sub_x {d : Nat} {x y : Int32} (h : x &&& tm_dom d = y) : y &&& tm_dom d = y := by
  rw [← h, Int32.and_assoc, Int32.and_self]
/-! atoms -/
def tm_rl (m : Int32) (d : Nat) : Int32 := tm_mk (fun j => bt m (d + d * (j / 3) + j % 3) && decide (j / 3 < d ∧ j % 3 < d)) 9
def tm_rN (m : Int32) (d : Nat) : Nat := (tm_rl m d).toBitVec.toNat
theorem tm_rN_p (m : Int32) (d : Nat) : tm_rN m d < 512 ∧ tm_rl m d = nI (tm_rN m d) := by
  obtain ⟨r, hr, e⟩ := tm_small (tm_rl m d) (n := 9) (by omega) (fun i hi h9 => by
    unfold tm_rl
    rw [tm_mk_b _ 9 (by omega) i hi, decide_eq_false (by omega : ¬ i < 9), Bool.false_and])
  have e2 : tm_rN m d = r := by
    unfold tm_rN
    rw [e, pk_tn (Nat.lt_trans hr (by decide))]
  rw [e2]
  exact ⟨hr, e⟩
def tm_re (r e : Nat) (n : Nat) : Nat := tm_it (fun n s => if (s.testBit (n / 3 % 3) && r.testBit (3 * (n / 3 % 3) + n % 3)) = true then s ||| (1 <<< (n % 3)) else s) (1 <<< e) n
def tm_c1 (via on : Nat) (r : Nat) (n : Nat) : Nat := tm_it (fun e q => if q.testBit (3 * e + via) = true then q ||| (on <<< (3 * e)) else q) r n
def tm_cl (r : Nat) (n : Nat) : Nat := tm_it (fun via q => tm_c1 via ((q >>> (3 * via)) &&& 7) q 3) (r ||| 273) n
theorem tm_clre : ∀ r, r < 512 → ∀ e, e < 3 → ∀ f, f < 3 → (tm_cl r 3).testBit (3 * e + f) = (tm_re r e 27).testBit f := by decide +kernel
theorem tm_cl_lt : ∀ r, r < 512 → ∀ n, n < 4 → tm_cl r n < 512 := by decide +kernel
def tm_pr (K : Nat) (m : Int32) (d e f : Nat) : Bool := if K = 0 then bt m e else if K = 1 then bt m (d + d * e + f) else if K = 2 then decide (e = f) else (tm_re (tm_rN m d) e 27).testBit f
def tm_v (K A : Nat) : Nat := if K = 0 then A else A / 3
def tm_w (K A : Nat) : Nat := if K = 0 then A else A % 3
def tm_at (K A : Nat) (m : Int32) (d : Nat) : Int32 := tm_mk (fun i => tm_il d i && tm_pr K m d (tm_el i (tm_v K A)) (tm_el i (tm_w K A))) 27
/-- what the component's loops gather -/
def tm_ow (m : Int32) (e : Nat) : Int32 := tm_mk (fun j => decide (j / 3 = j % 3 ∧ j / 3 < e) && bt m (j / 3)) 9
def tm_rf (m : Int32) (d e f : Nat) : Int32 := tm_mk (fun j => bt m (d + d * (j / 3) + j % 3) && decide ((j / 3 < e ∧ j % 3 < d) ∨ (j / 3 = e ∧ j % 3 < f))) 9
def tm_af (P : Int32) (d v w e f : Nat) : Int32 := tm_mk (fun i => bt P (3 * tm_el i v + tm_el i w) && decide ((tm_el i v < e ∧ tm_el i w < d) ∨ (tm_el i v = e ∧ tm_el i w < f))) 27
theorem tm_ow_0 (m : Int32) : tm_ow m 0 = 0 := by
  rw [← tm_mk_0 9]
  exact tm_mk_cg (fun i _ => by rw [decide_eq_false (by omega), Bool.false_and])
theorem tm_ow_s (m : Int32) {e : Nat} (he : e < 3) : tm_set (bt m e) (3 * e + e) (tm_ow m e) = tm_ow m (e + 1) := by
  apply tm_mk_set (by omega) (by omega)
  intro j hj
  by_cases z : j = 3 * e + e
  · have z1 : j / 3 = e := by omega
    have z2 : j % 3 = e := by omega
    rw [z1, z2, decide_eq_true (by omega : e = e ∧ e < e + 1), decide_eq_false (by omega : ¬ (e = e ∧ e < e)), decide_eq_true z]
    rfl
  · have e2 : decide (j / 3 = j % 3 ∧ j / 3 < e + 1) = decide (j / 3 = j % 3 ∧ j / 3 < e) := decide_eq_decide.mpr (by omega)
    rw [e2, decide_eq_false z, Bool.false_and, Bool.or_false]
theorem tm_rf_0 (m : Int32) (d : Nat) : tm_rf m d 0 0 = 0 := by
  rw [← tm_mk_0 9]
  exact tm_mk_cg (fun i _ => by rw [decide_eq_false (by omega), Bool.and_false])
theorem tm_rf_s (m : Int32) {d e f : Nat} (hd : d ≤ 3) (he : e < d) (hf : f < d) : tm_set (bt m (d + d * e + f)) (3 * e + f) (tm_rf m d e f) = tm_rf m d e (f + 1) := by
  apply tm_mk_set (by omega) (by omega)
  intro j hj
  by_cases z : j = 3 * e + f
  · have z1 : j / 3 = e := by omega
    have z2 : j % 3 = f := by omega
    rw [z1, z2, decide_eq_true (by omega : (e < e ∧ f < d) ∨ (e = e ∧ f < f + 1)), decide_eq_false (by omega : ¬ ((e < e ∧ f < d) ∨ (e = e ∧ f < f))), decide_eq_true z, Bool.and_true, Bool.and_false, Bool.true_and, Bool.false_or]
  · have e2 : decide ((j / 3 < e ∧ j % 3 < d) ∨ (j / 3 = e ∧ j % 3 < f + 1)) = decide ((j / 3 < e ∧ j % 3 < d) ∨ (j / 3 = e ∧ j % 3 < f)) := decide_eq_decide.mpr (by omega)
    rw [e2, decide_eq_false z, Bool.false_and, Bool.or_false]
theorem tm_rf_n (m : Int32) (d e : Nat) : tm_rf m d e d = tm_rf m d (e + 1) 0 :=
  tm_mk_cg (fun j _ => by rw [show decide ((j / 3 < e ∧ j % 3 < d) ∨ (j / 3 = e ∧ j % 3 < d)) = decide ((j / 3 < e + 1 ∧ j % 3 < d) ∨ (j / 3 = e + 1 ∧ j % 3 < 0)) from decide_eq_decide.mpr (by omega)])
theorem tm_rf_e (m : Int32) (d : Nat) : tm_rf m d d 0 = tm_rl m d :=
  tm_mk_cg (fun j _ => by rw [show decide ((j / 3 < d ∧ j % 3 < d) ∨ (j / 3 = d ∧ j % 3 < 0)) = decide (j / 3 < d ∧ j % 3 < d) from decide_eq_decide.mpr (by omega)])
theorem tm_af_0 (P : Int32) (d v w : Nat) : tm_af P d v w 0 0 = 0 := by
  rw [← tm_mk_0 27]
  exact tm_mk_cg (fun i _ => by rw [decide_eq_false (by omega), Bool.and_false])
theorem tm_af_n (P : Int32) (d v w e : Nat) : tm_af P d v w e d = tm_af P d v w (e + 1) 0 :=
  tm_mk_cg (fun j _ => by rw [show decide ((tm_el j v < e ∧ tm_el j w < d) ∨ (tm_el j v = e ∧ tm_el j w < d)) = decide ((tm_el j v < e + 1 ∧ tm_el j w < d) ∨ (tm_el j v = e + 1 ∧ tm_el j w < 0)) from decide_eq_decide.mpr (by omega)])
def tm_lw (v e : Nat) : Int32 := tm_Z v <<< (nI (e * tm_sp v) &&& 31)
theorem tm_af_s (P : Int32) {d v w e f : Nat} (hd : d ≤ 3) (hv : v < 3) (hw : w < 3) (he : e < d) (hf : f < d) : (if bt P (3 * e + f) = true then tm_af P d v w e f ||| (tm_lw v e &&& tm_lw w f) else tm_af P d v w e f) = tm_af P d v w e (f + 1) := by
  by_cases h : bt P (3 * e + f) = true
  · rw [if_pos h]
    apply tm_mk_eq (by omega)
    intro i hi
    unfold tm_lw
    rw [b_or, b_and, tm_Lw v hv e (by omega) i hi, tm_Lw w hw f (by omega) i hi]
    unfold tm_af
    rw [tm_mk_b _ 27 (by omega) i hi]
    by_cases h27 : i < 27
    · rw [decide_eq_true h27, Bool.true_and, Bool.true_and, Bool.true_and, Bool.true_and]
      by_cases z : tm_el i v = e ∧ tm_el i w = f
      · rw [z.1, z.2, h, decide_eq_true (by omega : (e < e ∧ f < d) ∨ (e = e ∧ f < f + 1)), decide_eq_true rfl, decide_eq_true rfl, Bool.and_self, Bool.or_true]
      · have e2 : decide ((tm_el i v < e ∧ tm_el i w < d) ∨ (tm_el i v = e ∧ tm_el i w < f + 1)) = decide ((tm_el i v < e ∧ tm_el i w < d) ∨ (tm_el i v = e ∧ tm_el i w < f)) := decide_eq_decide.mpr (by omega)
        have e3 : (decide (tm_el i v = e) && decide (tm_el i w = f)) = false := by
          rw [← Bool.decide_and]; exact decide_eq_false z
        rw [e2, e3, Bool.or_false]
    · rw [decide_eq_false h27]; rfl
  · rw [if_neg h]
    apply tm_mk_cg
    intro i hi
    by_cases z : tm_el i v = e ∧ tm_el i w = f
    · rw [z.1, z.2, Bool.eq_false_iff.mpr h, Bool.false_and, Bool.false_and]
    · have e2 : decide ((tm_el i v < e ∧ tm_el i w < d) ∨ (tm_el i v = e ∧ tm_el i w < f + 1)) = decide ((tm_el i v < e ∧ tm_el i w < d) ∨ (tm_el i v = e ∧ tm_el i w < f)) := decide_eq_decide.mpr (by omega)
      rw [e2]
/-- the pairs that the component makes for a token of kind K -/
def tm_ps (K : Nat) (m : Int32) (d : Nat) : Int32 := if K = 0 then tm_ow m d else if K = 1 then tm_rl m d else if K = 2 then 273 else nI (tm_cl (tm_rN m d) 3)
theorem tm_273 : ∀ e, e < 3 → ∀ f, f < 3 → bt 273 (3 * e + f) = decide (e = f) := by decide +kernel
theorem tm_at_x {K A : Nat} {m : Int32} {d : Nat} (h0 : 0 < d) (h3 : d ≤ 3) (hv : tm_v K A < 3) (hw : tm_w K A < 3) : tm_af (tm_ps K m d) d (tm_v K A) (tm_w K A) d 0 &&& tm_dom d = tm_at K A m d := by
  apply tm_mk_eq (by omega)
  intro i hi
  unfold tm_af
  rw [b_and, tm_dom_b h0 h3 hi, tm_mk_b _ 27 (by omega) i hi]
  by_cases h27 : i < 27
  · rw [decide_eq_true h27, Bool.true_and, Bool.true_and, Bool.true_and]
    cases hil : tm_il d i
    · rw [Bool.and_false, Bool.false_and]
    · rw [Bool.and_true, Bool.true_and]
      have x1 := tm_il_v hil hv
      have x2 := tm_il_v hil hw
      rw [decide_eq_true (Or.inl ⟨x1, x2⟩ : (tm_el i (tm_v K A) < d ∧ tm_el i (tm_w K A) < d) ∨ (tm_el i (tm_v K A) = d ∧ tm_el i (tm_w K A) < 0)), Bool.and_true]
      have hxy : K = 0 → tm_el i (tm_v K A) = tm_el i (tm_w K A) := by
        intro z; subst z; rfl
      revert x1 x2 hxy
      generalize tm_el i (tm_v K A) = x
      generalize tm_el i (tm_w K A) = y
      intro x1 x2 hxy
      unfold tm_ps tm_pr
      split
      · rename_i z
        have hxy := hxy z
        subst hxy
        unfold tm_ow
        rw [tm_mk_b _ 9 (by omega) _ (by omega), show (3 * x + x) / 3 = x by omega, show (3 * x + x) % 3 = x by omega, decide_eq_true (by omega : 3 * x + x < 9), decide_eq_true (by omega : x = x ∧ x < d)]
        rfl
      · split
        · unfold tm_rl
          rw [tm_mk_b _ 9 (by omega) _ (by omega), show (3 * x + y) / 3 = x by omega, show (3 * x + y) % 3 = y by omega, decide_eq_true (by omega : 3 * x + y < 9), decide_eq_true ⟨x1, x2⟩]
          simp
        · split
          · exact tm_273 x (by omega) y (by omega)
          · rw [tm_bN _ (by omega)]
            exact tm_clre _ (tm_rN_p m d).1 x (by omega) y (by omega)
  · rw [decide_eq_false h27]; simp
