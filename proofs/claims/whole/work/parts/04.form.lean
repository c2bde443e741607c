/-! formulas: tokens in the order in which they were put -/
def tm_tk (K : Nat) : Nat := if K < 4 then 0 else if 5 ≤ K ∧ K ≤ 8 then 2 else 1
def tm_ok (t : Nat × Nat) : Prop := t.1 ≤ 11 ∧ (t.1 = 0 ∨ t.1 = 9 ∨ t.1 = 10 → t.2 < 3) ∧ (1 ≤ t.1 ∧ t.1 ≤ 3 → t.2 < 9) ∧ (t.1 = 11 → t.2 < 6)
def tm_wf : List (Nat × Nat) → Nat → Nat → Prop
  | [], n, q => n = q
  | t :: r, n, q => tm_ok t ∧ tm_tk t.1 ≤ n ∧ tm_wf r (n - tm_tk t.1 + 1) q
theorem tm_wf_app : ∀ (a b : List (Nat × Nat)) (n k q : Nat), tm_wf a n k → tm_wf b k q → tm_wf (a ++ b) n q := by
  intro a
  induction a with
  | nil => intro b n k q h g; cases h; exact g
  | cons t r ih => intro b n k q h g; exact ⟨h.1, h.2.1, ih b _ k q h.2.2 g⟩
theorem tm_wf_sh : ∀ (a : List (Nat × Nat)) (n q c : Nat), tm_wf a n q → tm_wf a (n + c) (q + c) := by
  intro a
  induction a with
  | nil => intro n q c h; cases h; exact rfl
  | cons t r ih =>
    intro n q c h
    refine ⟨h.1, by have := h.2.1; omega, ?_⟩
    have := ih _ q c h.2.2
    have h1 := h.2.1
    rw [show n + c - tm_tk t.1 + 1 = n - tm_tk t.1 + 1 + c by omega]
    exact this
theorem tm_wf_1 {t : Nat × Nat} (h : tm_ok t) {n : Nat} (hn : tm_tk t.1 ≤ n) : tm_wf [t] n (n - tm_tk t.1 + 1) := ⟨h, hn, rfl⟩
/-- the cells of a formula that begins at b -/
def tm_ce (k a : Nat → Int32) : Nat → List (Nat × Nat) → Prop
  | _, [] => True
  | b, t :: r => (k b = nI t.1 ∧ (t.1 < 4 ∨ 8 < t.1 → a b = nI t.2)) ∧ tm_ce k a (b + 1) r
theorem tm_ce_app (k a : Nat → Int32) : ∀ (x y : List (Nat × Nat)) (b : Nat), tm_ce k a b x → tm_ce k a (b + x.length) y → tm_ce k a b (x ++ y) := by
  intro x
  induction x with
  | nil => intro y b _ g; exact g
  | cons t r ih =>
    intro y b h g
    refine ⟨h.1, ih y (b + 1) h.2 ?_⟩
    rw [show b + 1 + r.length = b + (t :: r).length by rw [List.length_cons]; omega]
    exact g
theorem tm_ce_cp {k a k' a' : Nat → Int32} : ∀ (x : List (Nat × Nat)) (b b' : Nat), (∀ j, j < x.length → k' (b' + j) = k (b + j) ∧ a' (b' + j) = a (b + j)) → tm_ce k a b x → tm_ce k' a' b' x := by
  intro x
  induction x with
  | nil => intro b b' _ _; exact True.intro
  | cons t r ih =>
    intro b b' h g
    have h0 := h 0 (by rw [List.length_cons]; omega)
    rw [Nat.add_zero, Nat.add_zero] at h0
    refine ⟨⟨h0.1.trans g.1.1, fun z => h0.2.trans (g.1.2 z)⟩, ih (b + 1) (b' + 1) (fun j hj => ?_) g.2⟩
    have h1 := h (j + 1) (by rw [List.length_cons]; omega)
    rw [show b' + 1 + j = b' + (j + 1) by omega, show b + 1 + j = b + (j + 1) by omega]
    exact h1
/-! values -/
def tm_ls (K A d : Nat) : Nat := if K = 9 then d else if K = 10 then 1 else 2 + A / 3
def tm_st (m : Int32) (d : Nat) (t : Nat × Nat) (s : List Int32) : List Int32 :=
  if t.1 < 4 then tm_at t.1 t.2 m d :: s
  else if t.1 = 4 then tm_not d (s.headD 0) :: s.tail
  else if t.1 < 9 then tm_cb d t.1 (s.tail.headD 0) (s.headD 0) :: s.tail.tail
  else tm_ct d (tm_ls t.1 t.2 d) (t.2 % 3) (s.headD 0) :: s.tail
def tm_ev (m : Int32) (d : Nat) : List (Nat × Nat) → List Int32 → List Int32
  | [], s => s
  | t :: r, s => tm_ev m d r (tm_st m d t s)
def tm_tv (m : Int32) (d : Nat) (L : List (Nat × Nat)) : Int32 := (tm_ev m d L []).headD 0
theorem tm_st_len (m : Int32) (d : Nat) (t : Nat × Nat) (s : List Int32) (h : tm_tk t.1 ≤ s.length) : (tm_st m d t s).length = s.length - tm_tk t.1 + 1 := by
  unfold tm_st tm_tk at *
  by_cases h1 : t.1 < 4
  · rw [if_pos h1, if_pos h1, List.length_cons]; omega
  · rw [if_neg h1, if_neg h1]
    rw [if_neg h1] at h
    by_cases h2 : t.1 = 4
    · rw [if_pos h2, if_neg (by omega), List.length_cons, List.length_tail]
    · rw [if_neg h2]
      by_cases h3 : t.1 < 9
      · rw [if_pos h3, if_pos (by omega), List.length_cons, List.length_tail, List.length_tail]
        omega
      · rw [if_neg h3, if_neg (by omega), List.length_cons, List.length_tail]
theorem tm_ev_len (m : Int32) (d : Nat) : ∀ (L : List (Nat × Nat)) (s : List Int32) (q : Nat), tm_wf L s.length q → (tm_ev m d L s).length = q := by
  intro L
  induction L with
  | nil => intro s q h; exact h
  | cons t r ih =>
    intro s q h
    refine ih _ q ?_
    rw [tm_st_len m d t s h.2.1]
    exact h.2.2
/-- the stack s in the cells of w -/
def tm_sk (w : Nat → Int32) : List Int32 → Prop
  | [] => True
  | x :: r => w r.length = x ∧ tm_sk w r
theorem tm_sk_up {w : Nat → Int32} {x : Int32} : ∀ (r : List Int32) (n : Nat), r.length ≤ n → tm_sk w r → tm_sk (upd w n x) r := by
  intro r
  induction r with
  | nil => intro n _ _; exact True.intro
  | cons y q ih =>
    intro n hn h
    rw [List.length_cons] at hn
    exact ⟨(pk_un (by omega)).trans h.1, ih n (by omega) h.2⟩
theorem tm_sk_push {w : Nat → Int32} {x : Int32} {r : List Int32} (h : tm_sk w r) : tm_sk (upd w r.length x) (x :: r) :=
  ⟨pk_us, tm_sk_up r r.length (Nat.le_refl _) h⟩
def tm_sb (d : Nat) (s : List Int32) : Prop := ∀ x, x ∈ s → x &&& tm_dom d = x
/-- the last value lies in cell 0 -/
theorem tm_sk_tv {w : Nat → Int32} {m : Int32} {d : Nat} {L : List (Nat × Nat)} (hw : tm_wf L 0 1) (h : tm_sk w (tm_ev m d L [])) : w 0 = tm_tv m d L := by
  have hl := tm_ev_len m d L [] 1 hw
  unfold tm_tv
  revert h hl
  generalize tm_ev m d L [] = s
  intro h hl
  match s, h, hl with
  | [x], h, _ => exact h.1
theorem tm_tk_le (K : Nat) : tm_tk K ≤ 2 := by unfold tm_tk; split <;> (try split) <;> omega
/-! truth of all rules, loops over interpretations -/
def tm_al (p : Nat → Bool) : Nat → Bool
  | 0 => true
  | n + 1 => tm_al p n && p n
theorem tm_al_t {p : Nat → Bool} : ∀ {n : Nat}, tm_al p n = true ↔ ∀ i, i < n → p i = true := by
  intro n
  induction n with
  | zero => exact ⟨fun _ i hi => absurd hi (by omega), fun _ => rfl⟩
  | succ n ih =>
    unfold tm_al
    rw [Bool.and_eq_true, ih]
    constructor
    · intro h i hi
      by_cases e : i = n
      · subst e; exact h.2
      · exact h.1 i (by omega)
    · intro h
      exact ⟨fun i hi => h i (by omega), h n (by omega)⟩
theorem tm_al_f {p : Nat → Bool} {n i : Nat} (hi : i < n) (h : p i = false) : tm_al p n = false := by
  cases e : tm_al p n
  · rfl
  · rw [tm_al_t.mp e i hi] at h; exact absurd h (by decide)
theorem tm_al_cg {p q : Nat → Bool} {n : Nat} (h : ∀ i, i < n → p i = q i) : tm_al p n = tm_al q n := by
  induction n with
  | zero => rfl
  | succ n ih => unfold tm_al; rw [ih (fun i hi => h i (by omega)), h n (by omega)]
def tm_bi (b : Bool) : Int32 := if b = true then 1 else 0
def tm_va (m : Int32) (d : Nat) (L : List (Nat × Nat)) : Bool := decide (tm_tv m d L = tm_dom d)
def tm_sa (F : Nat → List (Nat × Nat)) (x d : Nat) (ex : Int32) (m : Int32) : Bool := tm_al (fun i => decide (nI i = ex) || tm_va m d (F (6 + i))) x
def tm_N (d : Nat) : Nat := 2 ^ (d + d * d)
theorem tm_N_le : ∀ d, d < 4 → tm_N d ≤ 4096 := by decide +kernel
/-- the first number from i on, of k numbers -/
def tm_fi (p : Nat → Bool) : Nat → Nat → Int32
  | 0, _ => -2
  | k + 1, i => if p i = true then nI i else tm_fi p k (i + 1)
theorem tm_fi_s (p : Nat → Bool) (k i : Nat) : tm_fi p (k + 1) i = if p i = true then nI i else tm_fi p k (i + 1) := rfl
theorem tm_fi_cg {p q : Nat → Bool} : ∀ (k i : Nat), (∀ j, i ≤ j → j < i + k → p j = q j) → tm_fi p k i = tm_fi q k i := by
  intro k
  induction k with
  | zero => intro i _; rfl
  | succ k ih =>
    intro i h
    unfold tm_fi
    rw [h i (by omega) (by omega), ih (i + 1) (fun j h1 h2 => h j (by omega) (by omega))]
theorem tm_fi_sk {p : Nat → Bool} (c : Nat) : ∀ (a i : Nat), (∀ j, i ≤ j → j < i + a → p j = false) → tm_fi p (a + c) i = tm_fi p c (i + a) := by
  intro a
  induction a with
  | zero => intro i _; rw [Nat.zero_add, Nat.add_zero]
  | succ a ih =>
    intro i h
    rw [show a + 1 + c = (a + c) + 1 by omega, tm_fi_s, h i (by omega) (by omega), if_neg (by decide), ih (i + 1) (fun j h1 h2 => h j (by omega) (by omega)), show i + 1 + a = i + (a + 1) by omega]
theorem tm_fi_no {p : Nat → Bool} : ∀ (k i : Nat), (∀ j, i ≤ j → j < i + k → p j = false) → tm_fi p k i = -2 := by
  intro k i h
  rw [show k = k + 0 by omega, tm_fi_sk 0 k i h]; rfl
theorem tm_fi_in {p : Nat → Bool} : ∀ (k i : Nat), tm_fi p k i = -2 ∨ ∃ j, i ≤ j ∧ j < i + k ∧ p j = true ∧ tm_fi p k i = nI j := by
  intro k
  induction k with
  | zero => intro i; exact Or.inl rfl
  | succ k ih =>
    intro i
    unfold tm_fi
    by_cases h : p i = true
    · rw [if_pos h]; exact Or.inr ⟨i, by omega, by omega, h, rfl⟩
    · rw [if_neg h]
      rcases ih (i + 1) with z | ⟨j, a, b, c, e⟩
      · exact Or.inl z
      · exact Or.inr ⟨j, by omega, by omega, c, e⟩
/-! shapes -/
def tm_mi (m : Int32) (d : Nat) (π : Nat → Nat) (e : Nat) (r : Int32) (n : Nat) : Int32 := tm_it (fun f r => tm_set (bt m (d + d * e + f)) (d + d * π e + π f) r) r n
def tm_mv (m : Int32) (d : Nat) (π : Nat → Nat) (n : Nat) : Int32 := tm_it (fun e r => tm_mi m d π e (tm_set (bt m e) (π e) r) d) 0 n
theorem tm_mi_cg {m : Int32} {d : Nat} {π ρ : Nat → Nat} {e : Nat} (he : e < d) (h : ∀ i, i < d → π i = ρ i) (r : Int32) : ∀ n, n ≤ d → tm_mi m d π e r n = tm_mi m d ρ e r n := by
  intro n
  induction n with
  | zero => intro _; rfl
  | succ n ih =>
    intro hn
    unfold tm_mi at *
    unfold tm_it
    rw [ih (by omega), h e he, h n (by omega)]
theorem tm_mv_cg {m : Int32} {d : Nat} {π ρ : Nat → Nat} (h : ∀ i, i < d → π i = ρ i) : ∀ n, n ≤ d → tm_mv m d π n = tm_mv m d ρ n := by
  intro n
  induction n with
  | zero => intro _; rfl
  | succ n ih =>
    intro hn
    unfold tm_mv at *
    unfold tm_it
    rw [ih (by omega), h n (by omega)]
    exact tm_mi_cg (by omega) h _ d (Nat.le_refl _)
def tm_oo (p d : Nat) : Bool := decide (tm_el p 0 ≠ tm_el p 1) && (decide (tm_el p 0 ≠ tm_el p 2) && (decide (tm_el p 1 ≠ tm_el p 2) && ((decide (1 < d) || decide (tm_el p 1 = 1)) && (decide (2 < d) || decide (tm_el p 2 = 2)))))
def tm_np (d : Nat) : Nat := if d = 1 then 1 else if d = 2 then 2 else 6
def tm_pm (d p : Nat) : Nat := if d < 3 then (if p = 0 then 21 else 19) else if p = 0 then 21 else if p = 1 then 15 else if p = 2 then 19 else if p = 3 then 7 else if p = 4 then 11 else 5
theorem tm_cn_if (q : Nat → Bool) (o : Nat → Bool) (n : Nat) : tm_cn (fun i => o i && q i) (n + 1) = tm_cn (fun i => o i && q i) n + (if o n = true then (if q n = true then 1 else 0) else 0) := by
  rw [tm_cn_s]
  cases o n
  · rfl
  · rfl
theorem tm_cn_pm (q : Nat → Bool) {d : Nat} (h0 : 0 < d) (h3 : d ≤ 3) : tm_cn (fun i => tm_oo i d && q i) 27 = tm_cn (fun p => q (tm_pm d p)) (tm_np d) := by
  have z : tm_cn (fun i => tm_oo i d && q i) 0 = 0 := rfl
  rcases (by omega : d = 1 ∨ d = 2 ∨ d = 3) with rfl | rfl | rfl
  · have t : ∀ i, i < 27 → tm_oo i 1 = decide (i = 21) := by decide +kernel
    simp only [tm_cn_if q (fun i => tm_oo i 1), z, t, Nat.reduceLT]
    show _ = 0 + (if q 21 = true then 1 else 0)
    simp
  · have t : ∀ i, i < 27 → tm_oo i 2 = decide (i = 19 ∨ i = 21) := by decide +kernel
    simp only [tm_cn_if q (fun i => tm_oo i 2), z, t, Nat.reduceLT]
    show _ = 0 + (if q 21 = true then 1 else 0) + (if q 19 = true then 1 else 0)
    simp
    omega
  · have t : ∀ i, i < 27 → tm_oo i 3 = decide (i = 5 ∨ i = 7 ∨ i = 11 ∨ i = 15 ∨ i = 19 ∨ i = 21) := by decide +kernel
    simp only [tm_cn_if q (fun i => tm_oo i 3), z, t, Nat.reduceLT]
    show _ = 0 + (if q 21 = true then 1 else 0) + (if q 15 = true then 1 else 0) + (if q 19 = true then 1 else 0) + (if q 7 = true then 1 else 0) + (if q 11 = true then 1 else 0) + (if q 5 = true then 1 else 0)
    simp
    omega
