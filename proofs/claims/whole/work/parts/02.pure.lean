/-! masks of bits, element lists, counts -/
def tm_it {α : Type} (f : Nat → α → α) (s : α) : Nat → α
  | 0 => s
  | n + 1 => f n (tm_it f s n)
def tm_mk (p : Nat → Bool) : Nat → Int32
  | 0 => 0
  | n + 1 => if p n = true then tm_mk p n ||| ((1 : Int32) <<< (nI n &&& 31)) else tm_mk p n
theorem tm_b1 : ∀ n, n < 32 → ∀ i, i < 32 → bt ((1 : Int32) <<< (nI n &&& 31)) i = decide (i = n) := by decide +kernel
theorem tm_mk_b (p : Nat → Bool) : ∀ n, n ≤ 32 → ∀ i, i < 32 → bt (tm_mk p n) i = (decide (i < n) && p i) := by
  intro n
  induction n with
  | zero => intro _ i _; simp [tm_mk, b_0]
  | succ n ih =>
    intro hn i hi
    unfold tm_mk
    by_cases h : p n = true
    · rw [if_pos h, b_or, ih (by omega) i hi, tm_b1 n (by omega) i hi]
      by_cases e : i = n
      · subst e; simp [h]
      · have e2 : decide (i < n) = decide (i < n + 1) := decide_eq_decide.mpr (by omega)
        rw [decide_eq_false e, Bool.or_false, e2]
    · rw [if_neg h, ih (by omega) i hi]
      by_cases e : i = n
      · subst e; simp [h]
      · have e2 : decide (i < n) = decide (i < n + 1) := decide_eq_decide.mpr (by omega)
        rw [e2]
theorem tm_mk_eq {x : Int32} {p : Nat → Bool} {n : Nat} (hn : n ≤ 32) (h : ∀ i, i < 32 → bt x i = (decide (i < n) && p i)) : x = tm_mk p n :=
  b_ext (fun i hi => by rw [h i hi, tm_mk_b p n hn i hi])
theorem tm_mk_cg {p q : Nat → Bool} {n : Nat} (h : ∀ i, i < n → p i = q i) : tm_mk p n = tm_mk q n := by
  induction n with
  | zero => rfl
  | succ n ih =>
    unfold tm_mk
    rw [ih (fun i hi => h i (by omega)), h n (by omega)]
theorem tm_mk_0 (n : Nat) : tm_mk (fun _ => false) n = 0 := by
  induction n with
  | zero => rfl
  | succ n ih =>
    unfold tm_mk
    rw [if_neg (by decide), ih]
/-- one bit more -/
theorem tm_mk_or {p q : Nat → Bool} {n k : Nat} (hn : n ≤ 32) (hk : k < n) (h : ∀ i, i < n → q i = (p i || decide (i = k))) : tm_mk p n ||| ((1 : Int32) <<< (nI k &&& 31)) = tm_mk q n := by
  apply tm_mk_eq hn
  intro i hi
  rw [b_or, tm_mk_b p n hn i hi, tm_b1 k (by omega) i hi]
  by_cases e : i < n
  · rw [h i e, decide_eq_true e, Bool.true_and, Bool.true_and]
  · have e2 : ¬ i = k := by omega
    rw [decide_eq_false e, decide_eq_false e2]; rfl
def tm_set (c : Bool) (k : Nat) (x : Int32) : Int32 := if c = true then x ||| ((1 : Int32) <<< (nI k &&& 31)) else x
theorem tm_mk_set {p q : Nat → Bool} {n k : Nat} {c : Bool} (hn : n ≤ 32) (hk : k < n) (h : ∀ i, i < n → q i = (p i || (decide (i = k) && c))) : tm_set c k (tm_mk p n) = tm_mk q n := by
  unfold tm_set
  cases c with
  | true => rw [if_pos rfl]; exact tm_mk_or hn hk (fun i hi => by rw [h i hi, Bool.and_true])
  | false => rw [if_neg (by decide)]; exact tm_mk_cg (fun i hi => by rw [h i hi, Bool.and_false, Bool.or_false])
/-- a digit taken out -/
theorem tm_dg (x : Int32) {n : Nat} (hn : n < 32) : (x >>> (nI n &&& 31)) &&& 1 = if bt x n = true then 1 else 0 := by
  apply b_ext
  intro i hi
  rw [b_and, b_sshr n hn x hi]
  have h1 : ∀ i, i < 32 → bt 1 i = decide (i = 0) := by decide +kernel
  rw [h1 i hi]
  by_cases e : i = 0
  · subst e
    rw [if_pos (show n + 0 < 32 by omega), Nat.add_zero]
    cases bt x n
    · rfl
    · rfl
  · rw [decide_eq_false e, Bool.and_false]
    cases bt x n
    · rw [if_neg (by decide), b_0]
    · rw [if_pos rfl, h1 i hi, decide_eq_false e]
theorem tm_dg1 (x : Int32) {n : Nat} (hn : n < 32) : ((x >>> (nI n &&& 31)) &&& 1 = 1) ↔ bt x n = true := by
  rw [tm_dg x hn]
  cases bt x n
  · exact ⟨fun h => absurd h (by decide), fun h => absurd h (by decide)⟩
  · exact ⟨fun _ => rfl, fun _ => rfl⟩
theorem tm_dg0 (x : Int32) {n : Nat} (hn : n < 32) : ((x >>> (nI n &&& 31)) &&& 1 = 0) ↔ bt x n = false := by
  rw [tm_dg x hn]
  cases bt x n
  · exact ⟨fun _ => rfl, fun _ => rfl⟩
  · exact ⟨fun h => absurd h (by decide), fun h => absurd h (by decide)⟩
theorem tm_0s : ∀ k, k < 32 → (0 : Int32) <<< (nI k &&& 31) = 0 := by decide +kernel
theorem tm_dgs (r x : Int32) {n k : Nat} (hn : n < 32) (hk : k < 32) : r ||| (((x >>> (nI n &&& 31)) &&& 1) <<< (nI k &&& 31)) = tm_set (bt x n) k r := by
  rw [tm_dg x hn]
  unfold tm_set
  cases bt x n
  · rw [if_neg (by decide), if_neg (by decide), tm_0s k hk, Int32.or_zero]
  · rw [if_pos rfl, if_pos rfl]
theorem tm_bN (n : Nat) {i : Nat} (hi : i < 32) : bt (nI n) i = n.testBit i := by
  unfold bt
  show (BitVec.ofNat 32 n).getLsbD i = _
  rw [BitVec.getLsbD_ofNat, decide_eq_true hi, Bool.true_and]
theorem tm_small (x : Int32) {n : Nat} (hn : n ≤ 32) (h : ∀ i, i < 32 → n ≤ i → bt x i = false) : ∃ r, r < 2 ^ n ∧ x = nI r := by
  obtain ⟨r, hr, rfl⟩ := wb_of32 x
  refine ⟨r, Nat.lt_pow_two_of_testBit r (fun i hi => ?_), rfl⟩
  by_cases e : i < 32
  · rw [← tm_bN r e]; exact h i e hi
  · exact Nat.testBit_lt_two_pow (Nat.lt_of_lt_of_le hr (Nat.pow_le_pow_right (by decide) (by omega)))
theorem nx_or (a b : Nat) : nI a ||| nI b = nI (a ||| b) := by
  apply Int32.toBitVec_inj.1
  show BitVec.ofNat 32 a ||| BitVec.ofNat 32 b = BitVec.ofNat 32 (a ||| b)
  apply BitVec.eq_of_getLsbD_eq
  intro i hi
  simp [hi]
/-! element lists -/
def tm_el (i v : Nat) : Nat := if v = 0 then i % 3 else if v = 1 then i / 3 % 3 else i / 9
def tm_sp (v : Nat) : Nat := if v = 0 then 1 else if v = 1 then 3 else 9
def tm_wi (i v e : Nat) : Nat := i - tm_el i v * tm_sp v + e * tm_sp v
def tm_il (d i : Nat) : Bool := decide (tm_el i 0 < d) && (decide (tm_el i 1 < d) && decide (tm_el i 2 < d))
def tm_dom (d : Nat) : Int32 := if d = 1 then 1 else if d = 2 then 13851 else 134217727
theorem tm_dom_mk : ∀ d, d < 4 → 0 < d → tm_mk (tm_il d) 27 = tm_dom d := by decide +kernel
theorem tm_dom_b {d : Nat} (h0 : 0 < d) (h3 : d ≤ 3) {i : Nat} (hi : i < 32) : bt (tm_dom d) i = (decide (i < 27) && tm_il d i) := by
  rw [← tm_dom_mk d (by omega) h0, tm_mk_b _ 27 (by omega) i hi]
theorem tm_el_lt : ∀ i, i < 27 → ∀ v, v < 3 → tm_el i v < 3 := by decide +kernel
theorem tm_wi_el : ∀ i, i < 27 → ∀ v, v < 3 → ∀ e, e < 3 → tm_el (tm_wi i v e) v = e ∧ tm_wi i v e < 27 := by decide +kernel
theorem tm_wi_I : ∀ i, i < 27 → ∀ v, v < 3 → ∀ e, e < 3 → nI i + (nI e - nI (tm_el i v)) * nI (tm_sp v) = nI (tm_wi i v e) := by decide +kernel
theorem tm_il_v {d i : Nat} (h : tm_il d i = true) {v : Nat} (hv : v < 3) : tm_el i v < d := by
  unfold tm_il at h
  simp only [Bool.and_eq_true, decide_eq_true_eq] at h
  rcases (by omega : v = 0 ∨ v = 1 ∨ v = 2) with rfl | rfl | rfl
  · exact h.1
  · exact h.2.1
  · exact h.2.2
/-! counts -/
def tm_cn (p : Nat → Bool) : Nat → Nat
  | 0 => 0
  | n + 1 => tm_cn p n + (if p n = true then 1 else 0)
theorem tm_cn_le (p : Nat → Bool) (n : Nat) : tm_cn p n ≤ n := by
  induction n with
  | zero => exact Nat.le_refl _
  | succ n ih => unfold tm_cn; split <;> omega
theorem tm_cn_cg {p q : Nat → Bool} {n : Nat} (h : ∀ i, i < n → p i = q i) : tm_cn p n = tm_cn q n := by
  induction n with
  | zero => rfl
  | succ n ih => unfold tm_cn; rw [ih (fun i hi => h i (by omega)), h n (by omega)]
theorem tm_cn_0 {p : Nat → Bool} {n : Nat} : tm_cn p n = 0 ↔ ∀ i, i < n → p i = false := by
  induction n with
  | zero => exact ⟨fun _ i hi => absurd hi (by omega), fun _ => rfl⟩
  | succ n ih =>
    unfold tm_cn
    constructor
    · intro h i hi
      by_cases e : i = n
      · subst e
        cases hp : p i
        · rfl
        · rw [hp, if_pos rfl] at h; omega
      · exact ih.mp (by omega) i (by omega)
    · intro h
      rw [ih.mpr (fun i hi => h i (by omega)), h n (by omega)]; rfl
theorem tm_cn_s (p : Nat → Bool) (n : Nat) : tm_cn p (n + 1) = tm_cn p n + (if p n = true then 1 else 0) := rfl
/-! quantifiers -/
def tm_ct (d k v : Nat) (x : Int32) : Int32 := tm_mk (fun i => tm_il d i && decide (k ≤ tm_cn (fun e => bt x (tm_wi i v e)) d)) 27
def tm_Z (v : Nat) : Int32 := if v = 0 then 19173961 else if v = 1 then 1838599 else 511
theorem tm_Zt : ∀ v, v < 3 → ∀ i, i < 27 → bt (tm_Z v) i = decide (tm_el i v = 0) ∧ (decide (tm_sp v ≤ i) && bt (tm_Z v) (i - tm_sp v)) = decide (tm_el i v = 1) ∧ (decide (2 * tm_sp v ≤ i) && bt (tm_Z v) (i - 2 * tm_sp v)) = decide (tm_el i v = 2) := by decide +kernel
theorem tm_Lw : ∀ v, v < 3 → ∀ e, e < 3 → ∀ i, i < 32 → bt (tm_Z v <<< (nI (e * tm_sp v) &&& 31)) i = (decide (i < 27) && decide (tm_el i v = e)) := by decide +kernel
def tm_fw (f : Int32) (v e : Nat) : Int32 := (f >>> (nI (e * tm_sp v) &&& 31)) &&& tm_Z v
def tm_f1 (f : Int32) (v : Nat) : Int32 := ((0 ||| tm_fw f v 0) ||| tm_fw f v 1) ||| tm_fw f v 2
def tm_f2 (f : Int32) (v : Nat) : Int32 := ((0 ||| (0 &&& tm_fw f v 0)) ||| ((0 ||| tm_fw f v 0) &&& tm_fw f v 1)) ||| (((0 ||| tm_fw f v 0) ||| tm_fw f v 1) &&& tm_fw f v 2)
def tm_f3 (f : Int32) (v : Nat) : Int32 := ((0 ||| (0 &&& tm_fw f v 0)) ||| ((0 ||| (0 &&& tm_fw f v 0)) &&& tm_fw f v 1)) ||| (((0 ||| (0 &&& tm_fw f v 0)) ||| ((0 ||| tm_fw f v 0) &&& tm_fw f v 1)) &&& tm_fw f v 2)
def tm_fk (f : Int32) (k v : Nat) : Int32 := if k = 1 then tm_f1 f v else if k = 2 then tm_f2 f v else tm_f3 f v
def tm_fr (f : Int32) (k v : Nat) : Int32 := (tm_fk f k v ||| (tm_fk f k v <<< (nI (tm_sp v) &&& 31))) ||| (tm_fk f k v <<< (nI (2 * tm_sp v) &&& 31))
theorem tm_sp_le (v : Nat) : tm_sp v ≤ 9 := by unfold tm_sp; split <;> (try split) <;> omega
theorem tm_fw_b (f : Int32) (v : Nat) {e j : Nat} (he : e < 3) (hj : j < 27) (hz : bt (tm_Z v) j = true → j + e * tm_sp v < 32) : bt (tm_fw f v e) j = (bt f (j + e * tm_sp v) && bt (tm_Z v) j) := by
  have hs := tm_sp_le v
  have h1 : e * tm_sp v ≤ 2 * 9 := Nat.mul_le_mul (by omega) hs
  unfold tm_fw
  rw [b_and, b_sshr _ (by omega) f (by omega), Nat.add_comm]
  cases hb : bt (tm_Z v) j
  · rw [Bool.and_false, Bool.and_false]
  · rw [if_pos (hz hb)]
def tm_th (k : Nat) (a b c : Bool) : Bool := if k = 1 then (a || b) || c else if k = 2 then (a && b) || ((a || b) && c) else (a && b) && c
theorem tm_Zr : ∀ v, v < 3 → ∀ j, j < 32 → bt (tm_Z v) j = true → j + 2 * tm_sp v < 27 := by decide +kernel
theorem tm_fk_b (f : Int32) (k : Nat) {v j : Nat} (hv : v < 3) (hj : j < 27) : bt (tm_fk f k v) j = (bt (tm_Z v) j && tm_th k (bt f j) (bt f (j + tm_sp v)) (bt f (j + 2 * tm_sp v))) := by
  have hz := tm_Zr v hv j (by omega)
  have w0 := tm_fw_b f v (e := 0) (by omega) hj (fun h => by have := hz h; omega)
  have w1 := tm_fw_b f v (e := 1) (by omega) hj (fun h => by have := hz h; omega)
  have w2 := tm_fw_b f v (e := 2) (by omega) hj (fun h => by have := hz h; omega)
  rw [Nat.zero_mul, Nat.add_zero] at w0
  rw [Nat.one_mul] at w1
  unfold tm_fk tm_th
  split
  · unfold tm_f1
    simp only [b_or, b_and, b_0, w0, w1, w2]
    cases bt (tm_Z v) j <;> cases bt f j <;> cases bt f (j + tm_sp v) <;> cases bt f (j + 2 * tm_sp v) <;> rfl
  · split
    · unfold tm_f2
      simp only [b_or, b_and, b_0, w0, w1, w2]
      cases bt (tm_Z v) j <;> cases bt f j <;> cases bt f (j + tm_sp v) <;> cases bt f (j + 2 * tm_sp v) <;> rfl
    · unfold tm_f3
      simp only [b_or, b_and, b_0, w0, w1, w2]
      cases bt (tm_Z v) j <;> cases bt f j <;> cases bt f (j + tm_sp v) <;> cases bt f (j + 2 * tm_sp v) <;> rfl
