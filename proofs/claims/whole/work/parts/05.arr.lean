/-! the store: slot s has its tokens from cell 24 s on -/
def tm_ar (k a l : Nat → Int32) (F : Nat → List (Nat × Nat)) (S : Nat → Prop) : Prop := ∀ s, S s → l s = nI (F s).length ∧ tm_ce k a (24 * s) (F s)
def tm_gd (F : Nat → List (Nat × Nat)) (S : Nat → Prop) : Prop := ∀ s, S s → s < 12 ∧ 1 ≤ (F s).length ∧ (F s).length ≤ 24 ∧ tm_wf (F s) 0 1
def tm_ff (F : Nat → List (Nat × Nat)) (to : Nat) (T : List (Nat × Nat)) : Nat → List (Nat × Nat) := fun s => if s = to then T else F s
theorem tm_ff_s (F : Nat → List (Nat × Nat)) (to : Nat) (T : List (Nat × Nat)) : tm_ff F to T to = T := if_pos rfl
theorem tm_ff_n (F : Nat → List (Nat × Nat)) {to s : Nat} (T : List (Nat × Nat)) (h : s ≠ to) : tm_ff F to T s = F s := if_neg h
theorem tm_ar_put {k a l k' a' l' : Nat → Int32} {F : Nat → List (Nat × Nat)} {S : Nat → Prop} {to : Nat} {T : List (Nat × Nat)} (h : tm_ar k a l F S) (hlen : ∀ s, S s → (F s).length ≤ 24)
    (hk : ∀ j, (j < 24 * to ∨ 24 * to + 24 ≤ j) → k' j = k j ∧ a' j = a j) (hl : ∀ s, s ≠ to → l' s = l s) (hT : tm_ce k' a' (24 * to) T) (hn : l' to = nI T.length) :
    tm_ar k' a' l' (tm_ff F to T) (fun s => S s ∨ s = to) := by
  intro s hs
  by_cases e : s = to
  · subst e
    rw [tm_ff_s]
    exact ⟨hn, hT⟩
  · rw [tm_ff_n F T e]
    have hS : S s := hs.resolve_right e
    refine ⟨(hl s e).trans (h s hS).1, tm_ce_cp (F s) (24 * s) (24 * s) (fun j hj => hk _ ?_) (h s hS).2⟩
    have := hlen s hS
    omega
theorem tm_ar_mono {k a l : Nat → Int32} {F : Nat → List (Nat × Nat)} {S T : Nat → Prop} (h : tm_ar k a l F S) (hs : ∀ s, T s → S s) : tm_ar k a l F T := fun s hT => h s (hs s hT)
theorem tm_gd_mono {F : Nat → List (Nat × Nat)} {S T : Nat → Prop} (h : tm_gd F S) (hs : ∀ s, T s → S s) : tm_gd F T := fun s hT => h s (hs s hT)
theorem tm_gd_put {F : Nat → List (Nat × Nat)} {S : Nat → Prop} {to : Nat} {T : List (Nat × Nat)} (h : tm_gd F S) (h12 : to < 12) (h1 : 1 ≤ T.length) (h24 : T.length ≤ 24) (hw : tm_wf T 0 1) : tm_gd (tm_ff F to T) (fun s => S s ∨ s = to) := by
  intro s hs
  by_cases e : s = to
  · subst e
    rw [tm_ff_s]
    exact ⟨h12, h1, h24, hw⟩
  · rw [tm_ff_n F T e]
    exact h s (hs.resolve_right e)
/-- n cells copied -/
def tm_cy (k : Nat → Int32) (src tgt n : Nat) : Nat → Int32 := fun j => if tgt ≤ j ∧ j < tgt + n then k (src + (j - tgt)) else k j
theorem tm_cy_0 (k : Nat → Int32) (src tgt : Nat) : tm_cy k src tgt 0 = k := by
  funext j
  unfold tm_cy
  rw [if_neg (by omega)]
theorem tm_cy_in {k : Nat → Int32} {src tgt n j : Nat} (h : j < n) : tm_cy k src tgt n (tgt + j) = k (src + j) := by
  unfold tm_cy
  rw [if_pos (by omega), show src + (tgt + j - tgt) = src + j by omega]
theorem tm_cy_out {k : Nat → Int32} {src tgt n j : Nat} (h : j < tgt ∨ tgt + n ≤ j) : tm_cy k src tgt n j = k j := by
  unfold tm_cy
  rw [if_neg (by omega)]
theorem tm_cy_s {k : Nat → Int32} {src tgt n : Nat} (h : src + n < tgt ∨ tgt + n ≤ src + n) : upd (tm_cy k src tgt n) (tgt + n) (tm_cy k src tgt n (src + n)) = tm_cy k src tgt (n + 1) := by
  funext j
  by_cases e : j = tgt + n
  · subst e
    rw [pk_us, tm_cy_in (by omega), tm_cy_out (by omega)]
  · rw [pk_un e]
    by_cases z : tgt ≤ j ∧ j < tgt + n
    · obtain ⟨i, rfl⟩ : ∃ i, j = tgt + i := ⟨j - tgt, by omega⟩
      rw [tm_cy_in (by omega), tm_cy_in (by omega)]
    · rw [tm_cy_out (by omega), tm_cy_out (by omega)]
/-- the copied tokens behind those that stand there -/
theorem tm_cy_ce {k a : Nat → Int32} {src b n : Nat} {T L : List (Nat × Nat)} (hn : L.length ≤ n) (hT : tm_ce k a b T) (hL : tm_ce k a src L) : tm_ce (tm_cy k src (b + T.length) n) (tm_cy a src (b + T.length) n) b (T ++ L) := by
  refine tm_ce_app _ _ T L b (tm_ce_cp T b b (fun j hj => ⟨tm_cy_out (by omega), tm_cy_out (by omega)⟩) hT) (tm_ce_cp L src _ (fun j hj => ⟨tm_cy_in (by omega), tm_cy_in (by omega)⟩) hL)
/-- one token behind those that stand there -/
theorem tm_ce_snoc {k a : Nat → Int32} {b n : Nat} {T : List (Nat × Nat)} {t : Nat × Nat} {x y : Int32} (hn : n = b + T.length) (hT : tm_ce k a b T) (hx : x = nI t.1) (hy : t.1 < 4 ∨ 8 < t.1 → y = nI t.2) : tm_ce (upd k n x) (upd a n y) b (T ++ [t]) := by
  subst hn
  refine tm_ce_app _ _ T [t] b (tm_ce_cp T b b (fun j hj => ⟨pk_un (by omega), pk_un (by omega)⟩) hT) ?_
  exact ⟨⟨pk_us.trans hx, fun z => pk_us.trans (hy z)⟩, True.intro⟩
def tm_lv (h x : Nat) : Nat → Prop := fun s => s < h ∨ (6 ≤ s ∧ s < 6 + x)
/-! small things -/
theorem tm_bi0 {b : Bool} : tm_bi b = 0 ↔ b = false := by
  cases b
  · exact ⟨fun _ => rfl, fun _ => rfl⟩
  · exact ⟨fun h => absurd h (by decide), fun h => absurd h (by decide)⟩
theorem tm_br {b : Bool} {A B : Prop} (f : b = false → A) (g : b = true → B) : (tm_bi b = 0 → A) ∧ (¬ tm_bi b = 0 → B) := by
  cases b
  · exact ⟨fun _ => f rfl, fun h => absurd rfl h⟩
  · exact ⟨fun h => absurd h (by decide), fun _ => g rfl⟩
theorem tm_IN : ∀ d, d < 4 → 0 < d → (1 : Int32) <<< ((nI d + nI d * nI d) &&& 31) = nI (tm_N d) := by decide +kernel
theorem tm_nn (b : Bool) : narrow .boolean (.int (tm_bi b)) = .int (tm_bi b) := by cases b <;> rfl
theorem tm_n0 : narrow .boolean (.int 0) = .int 0 := rfl
theorem tm_n1 : narrow .boolean (.int 1) = .int 1 := rfl
