section
/-! rows pasted from kit/rows (PURE-ROWS, BITS) -/
theorem pk_us {f : Nat → Int32} {k : Nat} {x : Int32} : upd f k x k = x := if_pos rfl
theorem pk_un {f : Nat → Int32} {k j : Nat} {x : Int32} (h : j ≠ k) : upd f k x j = f j := if_neg h
theorem pk_sub {a b : Nat} (h : b ≤ a) : nI a - nI b = nI (a - b) := by
  obtain ⟨c, rfl⟩ : ∃ c, a = c + b := ⟨a - b, by omega⟩
  rw [← nI_add, Int32.add_sub_cancel, Nat.add_sub_cancel]
theorem pk_m1 (n : Nat) : nI (n + 1) + (-1) = nI n := by
  rw [← nI_1, Int32.add_assoc, show (1 : Int32) + (-1) = 0 from rfl, Int32.add_zero]
theorem pk_mul (a b : Nat) : nI a * nI b = nI (a * b) := (Int32.ofNat_mul a b).symm
theorem pk_div {a d : Nat} (ha : a < 2 ^ 31) (h0 : 0 < d) (hd : d < 2 ^ 31) : nI a / nI d = nI (a / d) := by
  apply Int32.toInt_inj.mp
  rw [lg_idiv_nonneg (by rw [nI_toInt ha]; omega) (by rw [nI_toInt hd]; omega), nI_toInt ha, nI_toInt hd, nI_toInt (Nat.lt_of_le_of_lt (Nat.div_le_self a d) ha)]
  first | rfl | exact (Int.natCast_ediv _ _).symm
theorem pk_rem {a d : Nat} (ha : a < 2 ^ 31) (h0 : 0 < d) (hd : d < 2 ^ 31) : nI a - nI a / nI d * nI d = nI (a % d) := by
  rw [pk_div ha h0 hd, pk_mul, pk_sub (Nat.div_mul_le_self a d)]
  exact congrArg nI (by have := Nat.div_add_mod' a d; omega)
theorem pk_sub_toInt {a b : Nat} (ha : a < 2 ^ 30) (hb : b < 2 ^ 30) : (nI a - nI b).toInt = (a : Int) - b := by
  rw [Int32.toInt_sub, nI_toInt (by omega), nI_toInt (by omega)]
  exact Int.bmod_eq_of_le (by omega) (by omega)
theorem pk_sneg {a b : Nat} (hb : b < 2 ^ 30) (h : a < b) : nI a - nI b < 0 := by
  rw [Int32.lt_iff_toInt_lt, pk_sub_toInt (by omega) hb, show (0 : Int32).toInt = 0 from by decide]
  omega
theorem pk_ix (x : Int32) {n : Nat} (hn : n < 2 ^ 31) : x < 0 ∨ nI n ≤ x ∨ ∃ j : Nat, j < n ∧ x = nI j := by
  by_cases h : x < 0
  · exact Or.inl h
  · obtain ⟨j, hj, rfl⟩ := nI_of h
    by_cases h2 : j < n
    · exact Or.inr (Or.inr ⟨j, h2, rfl⟩)
    · exact Or.inr (Or.inl (nI_le (by omega) hj))
theorem pk_le {x y : Int32} {A B : Prop} (a b : Nat) (f : a ≤ b → A) (g : b < a → B) (hx : x = nI a := by rfl) (hy : y = nI b := by rfl) (ha : a < 2 ^ 31 := by omega) (hb : b < 2 ^ 31 := by omega) : (x ≤ y → A) ∧ (¬ x ≤ y → B) := by
  subst hx hy
  rw [nI_leI ha hb]
  exact ⟨f, fun z => g (by omega)⟩
theorem pk_lt {x y : Int32} {A B : Prop} (a b : Nat) (f : a < b → A) (g : b ≤ a → B) (hx : x = nI a := by rfl) (hy : y = nI b := by rfl) (ha : a < 2 ^ 31 := by omega) (hb : b < 2 ^ 31 := by omega) : (x < y → A) ∧ (¬ x < y → B) := by
  subst hx hy
  rw [nI_ltI ha hb]
  exact ⟨f, fun z => g (by omega)⟩
theorem pk_eq {x y : Int32} {A B : Prop} (a b : Nat) (f : a = b → A) (g : a ≠ b → B) (hx : x = nI a := by rfl) (hy : y = nI b := by rfl) (ha : a < 2 ^ 31 := by omega) (hb : b < 2 ^ 31 := by omega) : (x = y → A) ∧ (¬ x = y → B) := by
  subst hx hy
  rw [nI_eq ha hb]
  exact ⟨f, g⟩
theorem pk_in {x : Int32} (n N : Nat) (h : n < N) (hx : x = nI n := by rfl) (hN : N < 2 ^ 31 := by omega) : vp_in x N := by
  subst hx
  exact vp_in_nI h hN
theorem pk_cl {x : Int32} (n : Nat) (hx : x = nI n := by rfl) (h : n < 2 ^ 31 := by omega) : x.toNatClampNeg = n := by
  subst hx
  exact nI_clamp h
theorem pk_tn {n : Nat} (h : n < 2 ^ 32) : (nI n).toBitVec.toNat = n := Nat.mod_eq_of_lt h
theorem pk_and (x : Int32) {m : Int32} (k : Nat) (hm : m.toBitVec.toNat = 2 ^ k - 1) : x &&& m = nI (x.toBitVec.toNat % 2 ^ k) := by
  apply Int32.toBitVec_inj.mp
  apply BitVec.eq_of_toNat_eq
  rw [Int32.toBitVec_and, BitVec.toNat_and, hm, Nat.and_two_pow_sub_one_eq_mod]
  show _ = (BitVec.ofNat 32 _).toNat
  rw [BitVec.toNat_ofNat]
  exact (Nat.mod_eq_of_lt (Nat.lt_of_le_of_lt (Nat.mod_le _ _) x.toBitVec.isLt)).symm
theorem pk_andN {n : Nat} (h : n < 2 ^ 32) {m : Int32} (k : Nat) (hm : m.toBitVec.toNat = 2 ^ k - 1) : nI n &&& m = nI (n % 2 ^ k) := by
  rw [pk_and _ k hm, pk_tn h]
theorem pk_shl (a s : Int32) (k : Nat) (hs : (s.toBitVec.smod 32).toNat = k) : (a <<< s).toBitVec.toNat = a.toBitVec.toNat * 2 ^ k % 2 ^ 32 := by
  show (a.toBitVec <<< (s.toBitVec.smod 32).toNat).toNat = _
  rw [hs, BitVec.toNat_shiftLeft, Nat.shiftLeft_eq]
theorem pk_shlN {n : Nat} (s : Int32) (k : Nat) (hs : (s.toBitVec.smod 32).toNat = k) (h : n * 2 ^ k < 2 ^ 32) : nI n <<< s = nI (n * 2 ^ k) := by
  apply Int32.toBitVec_inj.mp
  apply BitVec.eq_of_toNat_eq
  have hn : n < 2 ^ 32 := Nat.lt_of_le_of_lt (Nat.le_mul_of_pos_right n (Nat.two_pow_pos k)) h
  rw [pk_shl _ _ k hs, pk_tn hn, pk_tn h, Nat.mod_eq_of_lt h]
theorem pk_shr (a s : Int32) (k : Nat) (hs : (s.toBitVec.smod 32).toNat = k) : (a >>> s).toInt = a.toInt >>> k := by
  show (a.toBitVec.sshiftRight (s.toBitVec.smod 32).toNat).toInt = _
  rw [hs, BitVec.toInt_sshiftRight]
  rfl
theorem pk_shrN {n : Nat} (h : n < 2 ^ 31) (s : Int32) (k : Nat) (hs : (s.toBitVec.smod 32).toNat = k) : nI n >>> s = nI (n / 2 ^ k) := by
  apply Int32.toInt_inj.mp
  have h2 : n / 2 ^ k ≤ n := Nat.div_le_self _ _
  rw [pk_shr _ _ k hs, nI_toInt h, nI_toInt (by omega), Int.shiftRight_eq_div_pow]
  rfl
theorem pk_loop {σ : Type} (W : Nat → Nat → σ → Prop) (I : Nat → σ → Prop) (e i0 : Nat) (s : σ) (hi : i0 ≤ e) (h0 : I i0 s) (hx : ∀ n s, I e s → W (n + 1) e s)
    (hs : ∀ n i s, i < e → I i s → (∀ s', I (i + 1) s' → W n (i + 1) s') → W (n + 1) i s) : ∃ n, W n i0 s :=
  ⟨e + 1, loop_i W I e hx hs (e + 1) i0 s hi (by omega) h0⟩
theorem pk_loopD {σ : Type} (W : Nat → Nat → σ → Prop) (I : Nat → σ → Prop) (hx : ∀ n s, I 0 s → W (n + 1) 0 s)
    (hs : ∀ n i s, I (i + 1) s → (∀ s', I i s' → W n i s') → W (n + 1) (i + 1) s) : ∀ (e : Nat) (s : σ), I e s → W (e + 1) e s := by
  intro e
  induction e with
  | zero => exact fun s h => hx 0 s h
  | succ e ih => exact fun s h => hs (e + 1) e s h (fun s' h' => ih s' h')
theorem co_dec {N : Nat} {P : Nat → Prop} [DecidablePred P] (h : (List.range N).all (fun i => decide (P i)) = true) {i : Nat} (hi : i < N) : P i := by
  have := List.all_eq_true.mp h i (List.mem_range.mpr hi)
  exact of_decide_eq_true this
def bt (x : Int32) (i : Nat) : Bool := x.toBitVec.getLsbD i
theorem b_ext {x y : Int32} (h : ∀ i, i < 32 → bt x i = bt y i) : x = y := Int32.toBitVec_inj.mp (BitVec.eq_of_getLsbD_eq (fun i hi => h i hi))
theorem b_or (x y : Int32) (i : Nat) : bt (x ||| y) i = (bt x i || bt y i) := by unfold bt; rw [Int32.toBitVec_or, BitVec.getLsbD_or]
theorem b_and (x y : Int32) (i : Nat) : bt (x &&& y) i = (bt x i && bt y i) := by unfold bt; rw [Int32.toBitVec_and, BitVec.getLsbD_and]
theorem b_xor (x y : Int32) (i : Nat) : bt (x ^^^ y) i = (bt x i ^^ bt y i) := by unfold bt; rw [Int32.toBitVec_xor, BitVec.getLsbD_xor]
theorem b_big {x : Int32} {i : Nat} (h : 32 ≤ i) : bt x i = false := BitVec.getLsbD_of_ge _ _ h
theorem b_m1 : ∀ i, i < 32 → bt (-1) i = true := by decide +kernel
theorem b_0 (i : Nat) : bt 0 i = false := BitVec.getLsbD_zero
theorem s_l : ∀ n, n < 32 → ((nI n &&& 31).toBitVec.smod 32).toNat = n := by decide +kernel
theorem b_shl (n : Nat) (hn : n < 32) (x : Int32) {i : Nat} (hi : i < 32) : bt (x <<< (nI n &&& 31)) i = (decide (n ≤ i) && bt x (i - n)) := by
  unfold bt
  rw [Int32.toBitVec_shiftLeft]
  show (x.toBitVec <<< ((nI n &&& 31).toBitVec.smod 32).toNat).getLsbD i = _
  rw [s_l n hn, BitVec.getLsbD_shiftLeft]
  rcases Nat.lt_or_ge i n with h | h
  · simp [h, Nat.not_le.mpr h]
  · simp [hi, h, Nat.not_lt.mpr h]
theorem b_sshr (n : Nat) (hn : n < 32) (x : Int32) {i : Nat} (hi : i < 32) : bt (x >>> (nI n &&& 31)) i = if n + i < 32 then bt x (n + i) else bt x 31 := by
  unfold bt
  rw [Int32.toBitVec_shiftRight]
  show (x.toBitVec.sshiftRight ((nI n &&& 31).toBitVec.smod 32).toNat).getLsbD i = _
  rw [s_l n hn, BitVec.getLsbD_sshiftRight, BitVec.msb_eq_getLsbD_last]
  simp [hi]
theorem nx_and (a b : Nat) : nI a &&& nI b = nI (a &&& b) := by
  apply Int32.toBitVec_inj.1
  show BitVec.ofNat 32 a &&& BitVec.ofNat 32 b = BitVec.ofNat 32 (a &&& b)
  apply BitVec.eq_of_getLsbD_eq
  intro i hi
  simp [hi]
theorem nx_xor (a b : Nat) : nI a ^^^ nI b = nI (a ^^^ b) := by
  apply Int32.toBitVec_inj.1
  show BitVec.ofNat 32 a ^^^ BitVec.ofNat 32 b = BitVec.ofNat 32 (a ^^^ b)
  apply BitVec.eq_of_getLsbD_eq
  intro i hi
  simp [hi]
theorem wb_of32 (x : Int32) : ∃ n, n < 2 ^ 32 ∧ x = nI n := ⟨x.toBitVec.toNat, x.toBitVec.isLt, Int32.toBitVec_inj.mp (by show _ = BitVec.ofNat 32 _; simp)⟩
end
section
/-! masks of bits, element lists, counts -/
def tm_it {α : Type} (f : Nat → α → α) (s : α) : Nat → α
  | 0 => s
  | n + 1 => f n (tm_it f s n)
def tm_mk (p : Nat → Bool) : Nat → Int32
  | 0 => 0
  | n + 1 => if p n = true then tm_mk p n ||| ((1 : Int32) <<< (nI n &&& 31)) else tm_mk p n
theorem tm_b1 : ∀ n, n < 32 → ∀ i, i < 32 → bt ((1 : Int32) <<< (nI n &&& 31)) i = decide (i = n) := by decide +kernel
theorem tm_mk_b (p : Nat → Bool) : ∀ n, n ≤ 32 → ∀ i, i < 32 → bt (tm_mk p n) i = (decide (i < n) && p i) := by
  intro n
  induction n with
  | zero => intro _ i _; simp [tm_mk, b_0]
  | succ n ih =>
    intro hn i hi
    unfold tm_mk
    by_cases h : p n = true
    · rw [if_pos h, b_or, ih (by omega) i hi, tm_b1 n (by omega) i hi]
      by_cases e : i = n
      · subst e; simp [h]
      · have e2 : decide (i < n) = decide (i < n + 1) := decide_eq_decide.mpr (by omega)
        rw [decide_eq_false e, Bool.or_false, e2]
    · rw [if_neg h, ih (by omega) i hi]
      by_cases e : i = n
      · subst e; simp [h]
      · have e2 : decide (i < n) = decide (i < n + 1) := decide_eq_decide.mpr (by omega)
        rw [e2]
theorem tm_mk_eq {x : Int32} {p : Nat → Bool} {n : Nat} (hn : n ≤ 32) (h : ∀ i, i < 32 → bt x i = (decide (i < n) && p i)) : x = tm_mk p n :=
  b_ext (fun i hi => by rw [h i hi, tm_mk_b p n hn i hi])
theorem tm_mk_cg {p q : Nat → Bool} {n : Nat} (h : ∀ i, i < n → p i = q i) : tm_mk p n = tm_mk q n := by
  induction n with
  | zero => rfl
  | succ n ih =>
    unfold tm_mk
    rw [ih (fun i hi => h i (by omega)), h n (by omega)]
theorem tm_mk_0 (n : Nat) : tm_mk (fun _ => false) n = 0 := by
  induction n with
  | zero => rfl
  | succ n ih =>
    unfold tm_mk
    rw [if_neg (by decide), ih]
/-- one bit more -/
theorem tm_mk_or {p q : Nat → Bool} {n k : Nat} (hn : n ≤ 32) (hk : k < n) (h : ∀ i, i < n → q i = (p i || decide (i = k))) : tm_mk p n ||| ((1 : Int32) <<< (nI k &&& 31)) = tm_mk q n := by
  apply tm_mk_eq hn
  intro i hi
  rw [b_or, tm_mk_b p n hn i hi, tm_b1 k (by omega) i hi]
  by_cases e : i < n
  · rw [h i e, decide_eq_true e, Bool.true_and, Bool.true_and]
  · have e2 : ¬ i = k := by omega
    rw [decide_eq_false e, decide_eq_false e2]; rfl
def tm_set (c : Bool) (k : Nat) (x : Int32) : Int32 := if c = true then x ||| ((1 : Int32) <<< (nI k &&& 31)) else x
theorem tm_mk_set {p q : Nat → Bool} {n k : Nat} {c : Bool} (hn : n ≤ 32) (hk : k < n) (h : ∀ i, i < n → q i = (p i || (decide (i = k) && c))) : tm_set c k (tm_mk p n) = tm_mk q n := by
  unfold tm_set
  cases c with
  | true => rw [if_pos rfl]; exact tm_mk_or hn hk (fun i hi => by rw [h i hi, Bool.and_true])
  | false => rw [if_neg (by decide)]; exact tm_mk_cg (fun i hi => by rw [h i hi, Bool.and_false, Bool.or_false])
/-- a digit taken out -/
theorem tm_dg (x : Int32) {n : Nat} (hn : n < 32) : (x >>> (nI n &&& 31)) &&& 1 = if bt x n = true then 1 else 0 := by
  apply b_ext
  intro i hi
  rw [b_and, b_sshr n hn x hi]
  have h1 : ∀ i, i < 32 → bt 1 i = decide (i = 0) := by decide +kernel
  rw [h1 i hi]
  by_cases e : i = 0
  · subst e
    rw [if_pos (show n + 0 < 32 by omega), Nat.add_zero]
    cases bt x n
    · rfl
    · rfl
  · rw [decide_eq_false e, Bool.and_false]
    cases bt x n
    · rw [if_neg (by decide), b_0]
    · rw [if_pos rfl, h1 i hi, decide_eq_false e]
theorem tm_dg1 (x : Int32) {n : Nat} (hn : n < 32) : ((x >>> (nI n &&& 31)) &&& 1 = 1) ↔ bt x n = true := by
  rw [tm_dg x hn]
  cases bt x n
  · exact ⟨fun h => absurd h (by decide), fun h => absurd h (by decide)⟩
  · exact ⟨fun _ => rfl, fun _ => rfl⟩
theorem tm_dg0 (x : Int32) {n : Nat} (hn : n < 32) : ((x >>> (nI n &&& 31)) &&& 1 = 0) ↔ bt x n = false := by
  rw [tm_dg x hn]
  cases bt x n
  · exact ⟨fun _ => rfl, fun _ => rfl⟩
  · exact ⟨fun h => absurd h (by decide), fun h => absurd h (by decide)⟩
theorem tm_0s : ∀ k, k < 32 → (0 : Int32) <<< (nI k &&& 31) = 0 := by decide +kernel
theorem tm_dgs (r x : Int32) {n k : Nat} (hn : n < 32) (hk : k < 32) : r ||| (((x >>> (nI n &&& 31)) &&& 1) <<< (nI k &&& 31)) = tm_set (bt x n) k r := by
  rw [tm_dg x hn]
  unfold tm_set
  cases bt x n
  · rw [if_neg (by decide), if_neg (by decide), tm_0s k hk, Int32.or_zero]
  · rw [if_pos rfl, if_pos rfl]
theorem tm_bN (n : Nat) {i : Nat} (hi : i < 32) : bt (nI n) i = n.testBit i := by
  unfold bt
  show (BitVec.ofNat 32 n).getLsbD i = _
  rw [BitVec.getLsbD_ofNat, decide_eq_true hi, Bool.true_and]
theorem tm_small (x : Int32) {n : Nat} (hn : n ≤ 32) (h : ∀ i, i < 32 → n ≤ i → bt x i = false) : ∃ r, r < 2 ^ n ∧ x = nI r := by
  obtain ⟨r, hr, rfl⟩ := wb_of32 x
  refine ⟨r, Nat.lt_pow_two_of_testBit r (fun i hi => ?_), rfl⟩
  by_cases e : i < 32
  · rw [← tm_bN r e]; exact h i e hi
  · exact Nat.testBit_lt_two_pow (Nat.lt_of_lt_of_le hr (Nat.pow_le_pow_right (by decide) (by omega)))
theorem nx_or (a b : Nat) : nI a ||| nI b = nI (a ||| b) := by
  apply Int32.toBitVec_inj.1
  show BitVec.ofNat 32 a ||| BitVec.ofNat 32 b = BitVec.ofNat 32 (a ||| b)
  apply BitVec.eq_of_getLsbD_eq
  intro i hi
  simp [hi]
/-! element lists -/
def tm_el (i v : Nat) : Nat := if v = 0 then i % 3 else if v = 1 then i / 3 % 3 else i / 9
def tm_sp (v : Nat) : Nat := if v = 0 then 1 else if v = 1 then 3 else 9
def tm_wi (i v e : Nat) : Nat := i - tm_el i v * tm_sp v + e * tm_sp v
def tm_il (d i : Nat) : Bool := decide (tm_el i 0 < d) && (decide (tm_el i 1 < d) && decide (tm_el i 2 < d))
def tm_dom (d : Nat) : Int32 := if d = 1 then 1 else if d = 2 then 13851 else 134217727
theorem tm_dom_mk : ∀ d, d < 4 → 0 < d → tm_mk (tm_il d) 27 = tm_dom d := by decide +kernel
theorem tm_dom_b {d : Nat} (h0 : 0 < d) (h3 : d ≤ 3) {i : Nat} (hi : i < 32) : bt (tm_dom d) i = (decide (i < 27) && tm_il d i) := by
  rw [← tm_dom_mk d (by omega) h0, tm_mk_b _ 27 (by omega) i hi]
theorem tm_el_lt : ∀ i, i < 27 → ∀ v, v < 3 → tm_el i v < 3 := by decide +kernel
theorem tm_wi_el : ∀ i, i < 27 → ∀ v, v < 3 → ∀ e, e < 3 → tm_el (tm_wi i v e) v = e ∧ tm_wi i v e < 27 := by decide +kernel
theorem tm_wi_I : ∀ i, i < 27 → ∀ v, v < 3 → ∀ e, e < 3 → nI i + (nI e - nI (tm_el i v)) * nI (tm_sp v) = nI (tm_wi i v e) := by decide +kernel
theorem tm_il_v {d i : Nat} (h : tm_il d i = true) {v : Nat} (hv : v < 3) : tm_el i v < d := by
  unfold tm_il at h
  simp only [Bool.and_eq_true, decide_eq_true_eq] at h
  rcases (by omega : v = 0 ∨ v = 1 ∨ v = 2) with rfl | rfl | rfl
  · exact h.1
  · exact h.2.1
  · exact h.2.2
/-! counts -/
def tm_cn (p : Nat → Bool) : Nat → Nat
  | 0 => 0
  | n + 1 => tm_cn p n + (if p n = true then 1 else 0)
theorem tm_cn_le (p : Nat → Bool) (n : Nat) : tm_cn p n ≤ n := by
  induction n with
  | zero => exact Nat.le_refl _
  | succ n ih => unfold tm_cn; split <;> omega
theorem tm_cn_cg {p q : Nat → Bool} {n : Nat} (h : ∀ i, i < n → p i = q i) : tm_cn p n = tm_cn q n := by
  induction n with
  | zero => rfl
  | succ n ih => unfold tm_cn; rw [ih (fun i hi => h i (by omega)), h n (by omega)]
theorem tm_cn_0 {p : Nat → Bool} {n : Nat} : tm_cn p n = 0 ↔ ∀ i, i < n → p i = false := by
  induction n with
  | zero => exact ⟨fun _ i hi => absurd hi (by omega), fun _ => rfl⟩
  | succ n ih =>
    unfold tm_cn
    constructor
    · intro h i hi
      by_cases e : i = n
      · subst e
        cases hp : p i
        · rfl
        · rw [hp, if_pos rfl] at h; omega
      · exact ih.mp (by omega) i (by omega)
    · intro h
      rw [ih.mpr (fun i hi => h i (by omega)), h n (by omega)]; rfl
theorem tm_cn_s (p : Nat → Bool) (n : Nat) : tm_cn p (n + 1) = tm_cn p n + (if p n = true then 1 else 0) := rfl
/-! quantifiers -/
def tm_ct (d k v : Nat) (x : Int32) : Int32 := tm_mk (fun i => tm_il d i && decide (k ≤ tm_cn (fun e => bt x (tm_wi i v e)) d)) 27
def tm_Z (v : Nat) : Int32 := if v = 0 then 19173961 else if v = 1 then 1838599 else 511
theorem tm_Zt : ∀ v, v < 3 → ∀ i, i < 27 → bt (tm_Z v) i = decide (tm_el i v = 0) ∧ (decide (tm_sp v ≤ i) && bt (tm_Z v) (i - tm_sp v)) = decide (tm_el i v = 1) ∧ (decide (2 * tm_sp v ≤ i) && bt (tm_Z v) (i - 2 * tm_sp v)) = decide (tm_el i v = 2) := by decide +kernel
theorem tm_Lw : ∀ v, v < 3 → ∀ e, e < 3 → ∀ i, i < 32 → bt (tm_Z v <<< (nI (e * tm_sp v) &&& 31)) i = (decide (i < 27) && decide (tm_el i v = e)) := by decide +kernel
def tm_fw (f : Int32) (v e : Nat) : Int32 := (f >>> (nI (e * tm_sp v) &&& 31)) &&& tm_Z v
def tm_f1 (f : Int32) (v : Nat) : Int32 := ((0 ||| tm_fw f v 0) ||| tm_fw f v 1) ||| tm_fw f v 2
def tm_f2 (f : Int32) (v : Nat) : Int32 := ((0 ||| (0 &&& tm_fw f v 0)) ||| ((0 ||| tm_fw f v 0) &&& tm_fw f v 1)) ||| (((0 ||| tm_fw f v 0) ||| tm_fw f v 1) &&& tm_fw f v 2)
def tm_f3 (f : Int32) (v : Nat) : Int32 := ((0 ||| (0 &&& tm_fw f v 0)) ||| ((0 ||| (0 &&& tm_fw f v 0)) &&& tm_fw f v 1)) ||| (((0 ||| (0 &&& tm_fw f v 0)) ||| ((0 ||| tm_fw f v 0) &&& tm_fw f v 1)) &&& tm_fw f v 2)
def tm_fk (f : Int32) (k v : Nat) : Int32 := if k = 1 then tm_f1 f v else if k = 2 then tm_f2 f v else tm_f3 f v
def tm_fr (f : Int32) (k v : Nat) : Int32 := (tm_fk f k v ||| (tm_fk f k v <<< (nI (tm_sp v) &&& 31))) ||| (tm_fk f k v <<< (nI (2 * tm_sp v) &&& 31))
theorem tm_sp_le (v : Nat) : tm_sp v ≤ 9 := by unfold tm_sp; split <;> (try split) <;> omega
theorem tm_fw_b (f : Int32) (v : Nat) {e j : Nat} (he : e < 3) (hj : j < 27) (hz : bt (tm_Z v) j = true → j + e * tm_sp v < 32) : bt (tm_fw f v e) j = (bt f (j + e * tm_sp v) && bt (tm_Z v) j) := by
  have hs := tm_sp_le v
  have h1 : e * tm_sp v ≤ 2 * 9 := Nat.mul_le_mul (by omega) hs
  unfold tm_fw
  rw [b_and, b_sshr _ (by omega) f (by omega), Nat.add_comm]
  cases hb : bt (tm_Z v) j
  · rw [Bool.and_false, Bool.and_false]
  · rw [if_pos (hz hb)]
def tm_th (k : Nat) (a b c : Bool) : Bool := if k = 1 then (a || b) || c else if k = 2 then (a && b) || ((a || b) && c) else (a && b) && c
theorem tm_Zr : ∀ v, v < 3 → ∀ j, j < 32 → bt (tm_Z v) j = true → j + 2 * tm_sp v < 27 := by decide +kernel
theorem tm_fk_b (f : Int32) (k : Nat) {v j : Nat} (hv : v < 3) (hj : j < 27) : bt (tm_fk f k v) j = (bt (tm_Z v) j && tm_th k (bt f j) (bt f (j + tm_sp v)) (bt f (j + 2 * tm_sp v))) := by
  have hz := tm_Zr v hv j (by omega)
  have w0 := tm_fw_b f v (e := 0) (by omega) hj (fun h => by have := hz h; omega)
  have w1 := tm_fw_b f v (e := 1) (by omega) hj (fun h => by have := hz h; omega)
  have w2 := tm_fw_b f v (e := 2) (by omega) hj (fun h => by have := hz h; omega)
  rw [Nat.zero_mul, Nat.add_zero] at w0
  rw [Nat.one_mul] at w1
  unfold tm_fk tm_th
  split
  · unfold tm_f1
    simp only [b_or, b_and, b_0, w0, w1, w2]
    cases bt (tm_Z v) j <;> cases bt f j <;> cases bt f (j + tm_sp v) <;> cases bt f (j + 2 * tm_sp v) <;> rfl
  · split
    · unfold tm_f2
      simp only [b_or, b_and, b_0, w0, w1, w2]
      cases bt (tm_Z v) j <;> cases bt f j <;> cases bt f (j + tm_sp v) <;> cases bt f (j + 2 * tm_sp v) <;> rfl
    · unfold tm_f3
      simp only [b_or, b_and, b_0, w0, w1, w2]
      cases bt (tm_Z v) j <;> cases bt f j <;> cases bt f (j + tm_sp v) <;> cases bt f (j + 2 * tm_sp v) <;> rfl
end
section
/-! quantifiers: counters against counts -/
theorem tm_sub_b {d : Nat} {f : Int32} (h0 : 0 < d) (h3 : d ≤ 3) (hf : f &&& tm_dom d = f) {j : Nat} (h : bt f j = true) : j < 27 ∧ tm_il d j = true := by
  by_cases hj : j < 32
  · have e : bt (f &&& tm_dom d) j = true := by rw [hf]; exact h
    rw [b_and, tm_dom_b h0 h3 hj] at e
    simp only [Bool.and_eq_true, decide_eq_true_eq] at e
    exact e.2
  · rw [b_big (by omega)] at h; exact absurd h (by decide)
theorem tm_sub_and {d : Nat} {f : Int32} (hf : f &&& tm_dom d = f) (i : Nat) : bt f i = (bt f i && bt (tm_dom d) i) := by
  rw [← b_and, hf]
theorem tm_cn_d {d i v : Nat} {f : Int32} (h0 : 0 < d) (h3 : d ≤ 3) (hf : f &&& tm_dom d = f) (hi : i < 27) (hv : v < 3) : tm_cn (fun e => bt f (tm_wi i v e)) d = tm_cn (fun e => bt f (tm_wi i v e)) 3 := by
  have z : ∀ e, d ≤ e → e < 3 → bt f (tm_wi i v e) = false := by
    intro e he h
    cases hb : bt f (tm_wi i v e)
    · rfl
    · have a := (tm_sub_b h0 h3 hf hb).2
      have b := tm_il_v a hv
      rw [(tm_wi_el i hi v hv e h).1] at b
      omega
  rcases (by omega : d = 1 ∨ d = 2 ∨ d = 3) with rfl | rfl | rfl
  · rw [tm_cn_s _ 2, tm_cn_s _ 1, z 1 (by omega) (by omega), z 2 (by omega) (by omega)]; rfl
  · rw [tm_cn_s _ 2, z 2 (by omega) (by omega)]; rfl
  · rfl
theorem tm_th_cn {k : Nat} (h1 : 1 ≤ k) (h3 : k ≤ 3) (p : Nat → Bool) : decide (k ≤ tm_cn p 3) = tm_th k (p 0) (p 1) (p 2) := by
  show decide (k ≤ 0 + (if p 0 = true then 1 else 0) + (if p 1 = true then 1 else 0) + (if p 2 = true then 1 else 0)) = _
  generalize p 0 = a
  generalize p 1 = b
  generalize p 2 = c
  rcases (by omega : k = 1 ∨ k = 2 ∨ k = 3) with rfl | rfl | rfl
  · revert a b c; decide
  · revert a b c; decide
  · revert a b c; decide
theorem tm_fr_ct {d k v : Nat} {f : Int32} (h0 : 0 < d) (h3 : d ≤ 3) (k1 : 1 ≤ k) (k3 : k ≤ 3) (hv : v < 3) (hf : f &&& tm_dom d = f) : tm_fr f k v &&& tm_dom d = tm_ct d k v f := by
  apply tm_mk_eq (by omega)
  intro i hi
  rw [b_and, tm_dom_b h0 h3 hi]
  by_cases h27 : i < 27
  · cases hil : tm_il d i
    · simp
    · have hT := tm_Zt v hv i h27
      have hel := tm_el_lt i h27 v hv
      have hs := tm_sp_le v
      have e0 : bt (tm_fk f k v) i = (decide (tm_el i v = 0) && tm_th k (bt f i) (bt f (i + tm_sp v)) (bt f (i + 2 * tm_sp v))) := by
        rw [tm_fk_b f k hv h27, hT.1]
      have e1 : (decide (tm_sp v ≤ i) && bt (tm_fk f k v) (i - tm_sp v)) = (decide (tm_el i v = 1) && tm_th k (bt f (i - tm_sp v)) (bt f (i - tm_sp v + tm_sp v)) (bt f (i - tm_sp v + 2 * tm_sp v))) := by
        rw [tm_fk_b f k hv (by omega), ← Bool.and_assoc, hT.2.1]
      have e2 : (decide (2 * tm_sp v ≤ i) && bt (tm_fk f k v) (i - 2 * tm_sp v)) = (decide (tm_el i v = 2) && tm_th k (bt f (i - 2 * tm_sp v)) (bt f (i - 2 * tm_sp v + tm_sp v)) (bt f (i - 2 * tm_sp v + 2 * tm_sp v))) := by
        rw [tm_fk_b f k hv (by omega), ← Bool.and_assoc, hT.2.2]
      have er : bt (tm_fr f k v) i = tm_th k (bt f (tm_wi i v 0)) (bt f (tm_wi i v 1)) (bt f (tm_wi i v 2)) := by
        unfold tm_fr tm_wi
        rw [b_or, b_or, b_shl _ (by omega) _ hi, b_shl _ (by omega) _ hi, e0, e1, e2]
        rcases (by omega : tm_el i v = 0 ∨ tm_el i v = 1 ∨ tm_el i v = 2) with z | z | z
        · simp [z]
        · simp [z]
        · simp [z]
      rw [er, tm_cn_d h0 h3 hf h27 hv, tm_th_cn k1 k3]
      simp [h27]
  · simp [h27]
/-! joins -/
def tm_not (d : Nat) (x : Int32) : Int32 := tm_dom d &&& (x ^^^ (-1))
def tm_cb (d K : Nat) (f g : Int32) : Int32 := if K = 5 then f &&& g else if K = 6 then f ||| g else if K = 7 then (tm_dom d &&& (f ^^^ (-1))) ||| g else tm_dom d &&& ((f ^^^ g) ^^^ (-1))
def tm_jn (K : Nat) (f g : Int32) : Int32 := if K = 5 then f &&& g else if K = 6 then f ||| g else if K = 7 then (f ^^^ (-1)) ||| g else (f ^^^ g) ^^^ (-1)
theorem tm_not_x (d : Nat) (x : Int32) : (x ^^^ (-1)) &&& tm_dom d = tm_not d x := Int32.and_comm _ _
theorem tm_jn_cb {d K : Nat} {f g : Int32} (hf : f &&& tm_dom d = f) (hg : g &&& tm_dom d = g) : tm_jn K f g &&& tm_dom d = tm_cb d K f g := by
  unfold tm_jn tm_cb
  apply b_ext
  intro i hi
  have a := tm_sub_and hf i
  have b := tm_sub_and hg i
  have c := b_m1 i hi
  split
  · rw [b_and, b_and]
    revert a b
    cases bt f i <;> cases bt g i <;> cases bt (tm_dom d) i <;> decide
  · split
    · rw [b_and, b_or]
      revert a b
      cases bt f i <;> cases bt g i <;> cases bt (tm_dom d) i <;> decide
    · split
      · rw [b_and, b_or, b_or, b_and, b_xor, c]
        revert a b
        cases bt f i <;> cases bt g i <;> cases bt (tm_dom d) i <;> decide
      · rw [b_and, b_and, b_xor, b_xor, c]
        revert a b
        cases bt f i <;> cases bt g i <;> cases bt (tm_dom d) i <;> decide
theorem tm_sub_x {d : Nat} {x y : Int32} (h : x &&& tm_dom d = y) : y &&& tm_dom d = y := by
  rw [← h, Int32.and_assoc, Int32.and_self]
/-! atoms -/
def tm_rl (m : Int32) (d : Nat) : Int32 := tm_mk (fun j => bt m (d + d * (j / 3) + j % 3) && decide (j / 3 < d ∧ j % 3 < d)) 9
def tm_rN (m : Int32) (d : Nat) : Nat := (tm_rl m d).toBitVec.toNat
theorem tm_rN_p (m : Int32) (d : Nat) : tm_rN m d < 512 ∧ tm_rl m d = nI (tm_rN m d) := by
  obtain ⟨r, hr, e⟩ := tm_small (tm_rl m d) (n := 9) (by omega) (fun i hi h9 => by
    unfold tm_rl
    rw [tm_mk_b _ 9 (by omega) i hi, decide_eq_false (by omega : ¬ i < 9), Bool.false_and])
  have e2 : tm_rN m d = r := by
    unfold tm_rN
    rw [e, pk_tn (Nat.lt_trans hr (by decide))]
  rw [e2]
  exact ⟨hr, e⟩
def tm_re (r e : Nat) (n : Nat) : Nat := tm_it (fun n s => if (s.testBit (n / 3 % 3) && r.testBit (3 * (n / 3 % 3) + n % 3)) = true then s ||| (1 <<< (n % 3)) else s) (1 <<< e) n
def tm_c1 (via on : Nat) (r : Nat) (n : Nat) : Nat := tm_it (fun e q => if q.testBit (3 * e + via) = true then q ||| (on <<< (3 * e)) else q) r n
def tm_cl (r : Nat) (n : Nat) : Nat := tm_it (fun via q => tm_c1 via ((q >>> (3 * via)) &&& 7) q 3) (r ||| 273) n
theorem tm_clre : ∀ r, r < 512 → ∀ e, e < 3 → ∀ f, f < 3 → (tm_cl r 3).testBit (3 * e + f) = (tm_re r e 27).testBit f := by decide +kernel
theorem tm_cl_lt : ∀ r, r < 512 → ∀ n, n < 4 → tm_cl r n < 512 := by decide +kernel
def tm_pr (K : Nat) (m : Int32) (d e f : Nat) : Bool := if K = 0 then bt m e else if K = 1 then bt m (d + d * e + f) else if K = 2 then decide (e = f) else (tm_re (tm_rN m d) e 27).testBit f
def tm_v (K A : Nat) : Nat := if K = 0 then A else A / 3
def tm_w (K A : Nat) : Nat := if K = 0 then A else A % 3
def tm_at (K A : Nat) (m : Int32) (d : Nat) : Int32 := tm_mk (fun i => tm_il d i && tm_pr K m d (tm_el i (tm_v K A)) (tm_el i (tm_w K A))) 27
/-- what the component's loops gather -/
def tm_ow (m : Int32) (e : Nat) : Int32 := tm_mk (fun j => decide (j / 3 = j % 3 ∧ j / 3 < e) && bt m (j / 3)) 9
def tm_rf (m : Int32) (d e f : Nat) : Int32 := tm_mk (fun j => bt m (d + d * (j / 3) + j % 3) && decide ((j / 3 < e ∧ j % 3 < d) ∨ (j / 3 = e ∧ j % 3 < f))) 9
def tm_af (P : Int32) (d v w e f : Nat) : Int32 := tm_mk (fun i => bt P (3 * tm_el i v + tm_el i w) && decide ((tm_el i v < e ∧ tm_el i w < d) ∨ (tm_el i v = e ∧ tm_el i w < f))) 27
theorem tm_ow_0 (m : Int32) : tm_ow m 0 = 0 := by
  rw [← tm_mk_0 9]
  exact tm_mk_cg (fun i _ => by rw [decide_eq_false (by omega), Bool.false_and])
theorem tm_ow_s (m : Int32) {e : Nat} (he : e < 3) : tm_set (bt m e) (3 * e + e) (tm_ow m e) = tm_ow m (e + 1) := by
  apply tm_mk_set (by omega) (by omega)
  intro j hj
  by_cases z : j = 3 * e + e
  · have z1 : j / 3 = e := by omega
    have z2 : j % 3 = e := by omega
    rw [z1, z2, decide_eq_true (by omega : e = e ∧ e < e + 1), decide_eq_false (by omega : ¬ (e = e ∧ e < e)), decide_eq_true z]
    rfl
  · have e2 : decide (j / 3 = j % 3 ∧ j / 3 < e + 1) = decide (j / 3 = j % 3 ∧ j / 3 < e) := decide_eq_decide.mpr (by omega)
    rw [e2, decide_eq_false z, Bool.false_and, Bool.or_false]
theorem tm_rf_0 (m : Int32) (d : Nat) : tm_rf m d 0 0 = 0 := by
  rw [← tm_mk_0 9]
  exact tm_mk_cg (fun i _ => by rw [decide_eq_false (by omega), Bool.and_false])
theorem tm_rf_s (m : Int32) {d e f : Nat} (hd : d ≤ 3) (he : e < d) (hf : f < d) : tm_set (bt m (d + d * e + f)) (3 * e + f) (tm_rf m d e f) = tm_rf m d e (f + 1) := by
  apply tm_mk_set (by omega) (by omega)
  intro j hj
  by_cases z : j = 3 * e + f
  · have z1 : j / 3 = e := by omega
    have z2 : j % 3 = f := by omega
    rw [z1, z2, decide_eq_true (by omega : (e < e ∧ f < d) ∨ (e = e ∧ f < f + 1)), decide_eq_false (by omega : ¬ ((e < e ∧ f < d) ∨ (e = e ∧ f < f))), decide_eq_true z, Bool.and_true, Bool.and_false, Bool.true_and, Bool.false_or]
  · have e2 : decide ((j / 3 < e ∧ j % 3 < d) ∨ (j / 3 = e ∧ j % 3 < f + 1)) = decide ((j / 3 < e ∧ j % 3 < d) ∨ (j / 3 = e ∧ j % 3 < f)) := decide_eq_decide.mpr (by omega)
    rw [e2, decide_eq_false z, Bool.false_and, Bool.or_false]
theorem tm_rf_n (m : Int32) (d e : Nat) : tm_rf m d e d = tm_rf m d (e + 1) 0 :=
  tm_mk_cg (fun j _ => by rw [show decide ((j / 3 < e ∧ j % 3 < d) ∨ (j / 3 = e ∧ j % 3 < d)) = decide ((j / 3 < e + 1 ∧ j % 3 < d) ∨ (j / 3 = e + 1 ∧ j % 3 < 0)) from decide_eq_decide.mpr (by omega)])
theorem tm_rf_e (m : Int32) (d : Nat) : tm_rf m d d 0 = tm_rl m d :=
  tm_mk_cg (fun j _ => by rw [show decide ((j / 3 < d ∧ j % 3 < d) ∨ (j / 3 = d ∧ j % 3 < 0)) = decide (j / 3 < d ∧ j % 3 < d) from decide_eq_decide.mpr (by omega)])
theorem tm_af_0 (P : Int32) (d v w : Nat) : tm_af P d v w 0 0 = 0 := by
  rw [← tm_mk_0 27]
  exact tm_mk_cg (fun i _ => by rw [decide_eq_false (by omega), Bool.and_false])
theorem tm_af_n (P : Int32) (d v w e : Nat) : tm_af P d v w e d = tm_af P d v w (e + 1) 0 :=
  tm_mk_cg (fun j _ => by rw [show decide ((tm_el j v < e ∧ tm_el j w < d) ∨ (tm_el j v = e ∧ tm_el j w < d)) = decide ((tm_el j v < e + 1 ∧ tm_el j w < d) ∨ (tm_el j v = e + 1 ∧ tm_el j w < 0)) from decide_eq_decide.mpr (by omega)])
def tm_lw (v e : Nat) : Int32 := tm_Z v <<< (nI (e * tm_sp v) &&& 31)
theorem tm_af_s (P : Int32) {d v w e f : Nat} (hd : d ≤ 3) (hv : v < 3) (hw : w < 3) (he : e < d) (hf : f < d) : (if bt P (3 * e + f) = true then tm_af P d v w e f ||| (tm_lw v e &&& tm_lw w f) else tm_af P d v w e f) = tm_af P d v w e (f + 1) := by
  by_cases h : bt P (3 * e + f) = true
  · rw [if_pos h]
    apply tm_mk_eq (by omega)
    intro i hi
    unfold tm_lw
    rw [b_or, b_and, tm_Lw v hv e (by omega) i hi, tm_Lw w hw f (by omega) i hi]
    unfold tm_af
    rw [tm_mk_b _ 27 (by omega) i hi]
    by_cases h27 : i < 27
    · rw [decide_eq_true h27, Bool.true_and, Bool.true_and, Bool.true_and, Bool.true_and]
      by_cases z : tm_el i v = e ∧ tm_el i w = f
      · rw [z.1, z.2, h, decide_eq_true (by omega : (e < e ∧ f < d) ∨ (e = e ∧ f < f + 1)), decide_eq_true rfl, decide_eq_true rfl, Bool.and_self, Bool.or_true]
      · have e2 : decide ((tm_el i v < e ∧ tm_el i w < d) ∨ (tm_el i v = e ∧ tm_el i w < f + 1)) = decide ((tm_el i v < e ∧ tm_el i w < d) ∨ (tm_el i v = e ∧ tm_el i w < f)) := decide_eq_decide.mpr (by omega)
        have e3 : (decide (tm_el i v = e) && decide (tm_el i w = f)) = false := by
          rw [← Bool.decide_and]; exact decide_eq_false z
        rw [e2, e3, Bool.or_false]
    · rw [decide_eq_false h27]; rfl
  · rw [if_neg h]
    apply tm_mk_cg
    intro i hi
    by_cases z : tm_el i v = e ∧ tm_el i w = f
    · rw [z.1, z.2, Bool.eq_false_iff.mpr h, Bool.false_and, Bool.false_and]
    · have e2 : decide ((tm_el i v < e ∧ tm_el i w < d) ∨ (tm_el i v = e ∧ tm_el i w < f + 1)) = decide ((tm_el i v < e ∧ tm_el i w < d) ∨ (tm_el i v = e ∧ tm_el i w < f)) := decide_eq_decide.mpr (by omega)
      rw [e2]
/-- the pairs that the component makes for a token of kind K -/
def tm_ps (K : Nat) (m : Int32) (d : Nat) : Int32 := if K = 0 then tm_ow m d else if K = 1 then tm_rl m d else if K = 2 then 273 else nI (tm_cl (tm_rN m d) 3)
theorem tm_273 : ∀ e, e < 3 → ∀ f, f < 3 → bt 273 (3 * e + f) = decide (e = f) := by decide +kernel
theorem tm_at_x {K A : Nat} {m : Int32} {d : Nat} (h0 : 0 < d) (h3 : d ≤ 3) (hv : tm_v K A < 3) (hw : tm_w K A < 3) : tm_af (tm_ps K m d) d (tm_v K A) (tm_w K A) d 0 &&& tm_dom d = tm_at K A m d := by
  apply tm_mk_eq (by omega)
  intro i hi
  unfold tm_af
  rw [b_and, tm_dom_b h0 h3 hi, tm_mk_b _ 27 (by omega) i hi]
  by_cases h27 : i < 27
  · rw [decide_eq_true h27, Bool.true_and, Bool.true_and, Bool.true_and]
    cases hil : tm_il d i
    · rw [Bool.and_false, Bool.false_and]
    · rw [Bool.and_true, Bool.true_and]
      have x1 := tm_il_v hil hv
      have x2 := tm_il_v hil hw
      rw [decide_eq_true (Or.inl ⟨x1, x2⟩ : (tm_el i (tm_v K A) < d ∧ tm_el i (tm_w K A) < d) ∨ (tm_el i (tm_v K A) = d ∧ tm_el i (tm_w K A) < 0)), Bool.and_true]
      have hxy : K = 0 → tm_el i (tm_v K A) = tm_el i (tm_w K A) := by
        intro z; subst z; rfl
      revert x1 x2 hxy
      generalize tm_el i (tm_v K A) = x
      generalize tm_el i (tm_w K A) = y
      intro x1 x2 hxy
      unfold tm_ps tm_pr
      split
      · rename_i z
        have hxy := hxy z
        subst hxy
        unfold tm_ow
        rw [tm_mk_b _ 9 (by omega) _ (by omega), show (3 * x + x) / 3 = x by omega, show (3 * x + x) % 3 = x by omega, decide_eq_true (by omega : 3 * x + x < 9), decide_eq_true (by omega : x = x ∧ x < d)]
        rfl
      · split
        · unfold tm_rl
          rw [tm_mk_b _ 9 (by omega) _ (by omega), show (3 * x + y) / 3 = x by omega, show (3 * x + y) % 3 = y by omega, decide_eq_true (by omega : 3 * x + y < 9), decide_eq_true ⟨x1, x2⟩]
          simp
        · split
          · exact tm_273 x (by omega) y (by omega)
          · rw [tm_bN _ (by omega)]
            exact tm_clre _ (tm_rN_p m d).1 x (by omega) y (by omega)
  · rw [decide_eq_false h27]; simp
end
section
/-! formulas: tokens in the order in which they were put -/
def tm_tk (K : Nat) : Nat := if K < 4 then 0 else if 5 ≤ K ∧ K ≤ 8 then 2 else 1
def tm_ok (t : Nat × Nat) : Prop := t.1 ≤ 11 ∧ (t.1 = 0 ∨ t.1 = 9 ∨ t.1 = 10 → t.2 < 3) ∧ (1 ≤ t.1 ∧ t.1 ≤ 3 → t.2 < 9) ∧ (t.1 = 11 → t.2 < 6)
def tm_wf : List (Nat × Nat) → Nat → Nat → Prop
  | [], n, q => n = q
  | t :: r, n, q => tm_ok t ∧ tm_tk t.1 ≤ n ∧ tm_wf r (n - tm_tk t.1 + 1) q
theorem tm_wf_app : ∀ (a b : List (Nat × Nat)) (n k q : Nat), tm_wf a n k → tm_wf b k q → tm_wf (a ++ b) n q := by
  intro a
  induction a with
  | nil => intro b n k q h g; cases h; exact g
  | cons t r ih => intro b n k q h g; exact ⟨h.1, h.2.1, ih b _ k q h.2.2 g⟩
theorem tm_wf_sh : ∀ (a : List (Nat × Nat)) (n q c : Nat), tm_wf a n q → tm_wf a (n + c) (q + c) := by
  intro a
  induction a with
  | nil => intro n q c h; cases h; exact rfl
  | cons t r ih =>
    intro n q c h
    refine ⟨h.1, by have := h.2.1; omega, ?_⟩
    have := ih _ q c h.2.2
    have h1 := h.2.1
    rw [show n + c - tm_tk t.1 + 1 = n - tm_tk t.1 + 1 + c by omega]
    exact this
theorem tm_wf_1 {t : Nat × Nat} (h : tm_ok t) {n : Nat} (hn : tm_tk t.1 ≤ n) : tm_wf [t] n (n - tm_tk t.1 + 1) := ⟨h, hn, rfl⟩
/-- the cells of a formula that begins at b -/
def tm_ce (k a : Nat → Int32) : Nat → List (Nat × Nat) → Prop
  | _, [] => True
  | b, t :: r => (k b = nI t.1 ∧ (t.1 < 4 ∨ 8 < t.1 → a b = nI t.2)) ∧ tm_ce k a (b + 1) r
theorem tm_ce_app (k a : Nat → Int32) : ∀ (x y : List (Nat × Nat)) (b : Nat), tm_ce k a b x → tm_ce k a (b + x.length) y → tm_ce k a b (x ++ y) := by
  intro x
  induction x with
  | nil => intro y b _ g; exact g
  | cons t r ih =>
    intro y b h g
    refine ⟨h.1, ih y (b + 1) h.2 ?_⟩
    rw [show b + 1 + r.length = b + (t :: r).length by rw [List.length_cons]; omega]
    exact g
theorem tm_ce_cp {k a k' a' : Nat → Int32} : ∀ (x : List (Nat × Nat)) (b b' : Nat), (∀ j, j < x.length → k' (b' + j) = k (b + j) ∧ a' (b' + j) = a (b + j)) → tm_ce k a b x → tm_ce k' a' b' x := by
  intro x
  induction x with
  | nil => intro b b' _ _; exact True.intro
  | cons t r ih =>
    intro b b' h g
    have h0 := h 0 (by rw [List.length_cons]; omega)
    rw [Nat.add_zero, Nat.add_zero] at h0
    refine ⟨⟨h0.1.trans g.1.1, fun z => h0.2.trans (g.1.2 z)⟩, ih (b + 1) (b' + 1) (fun j hj => ?_) g.2⟩
    have h1 := h (j + 1) (by rw [List.length_cons]; omega)
    rw [show b' + 1 + j = b' + (j + 1) by omega, show b + 1 + j = b + (j + 1) by omega]
    exact h1
/-! values -/
def tm_ls (K A d : Nat) : Nat := if K = 9 then d else if K = 10 then 1 else 2 + A / 3
def tm_st (m : Int32) (d : Nat) (t : Nat × Nat) (s : List Int32) : List Int32 :=
  if t.1 < 4 then tm_at t.1 t.2 m d :: s
  else if t.1 = 4 then tm_not d (s.headD 0) :: s.tail
  else if t.1 < 9 then tm_cb d t.1 (s.tail.headD 0) (s.headD 0) :: s.tail.tail
  else tm_ct d (tm_ls t.1 t.2 d) (t.2 % 3) (s.headD 0) :: s.tail
def tm_ev (m : Int32) (d : Nat) : List (Nat × Nat) → List Int32 → List Int32
  | [], s => s
  | t :: r, s => tm_ev m d r (tm_st m d t s)
def tm_tv (m : Int32) (d : Nat) (L : List (Nat × Nat)) : Int32 := (tm_ev m d L []).headD 0
theorem tm_st_len (m : Int32) (d : Nat) (t : Nat × Nat) (s : List Int32) (h : tm_tk t.1 ≤ s.length) : (tm_st m d t s).length = s.length - tm_tk t.1 + 1 := by
  unfold tm_st tm_tk at *
  by_cases h1 : t.1 < 4
  · rw [if_pos h1, if_pos h1, List.length_cons]; omega
  · rw [if_neg h1, if_neg h1]
    rw [if_neg h1] at h
    by_cases h2 : t.1 = 4
    · rw [if_pos h2, if_neg (by omega), List.length_cons, List.length_tail]
    · rw [if_neg h2]
      by_cases h3 : t.1 < 9
      · rw [if_pos h3, if_pos (by omega), List.length_cons, List.length_tail, List.length_tail]
        omega
      · rw [if_neg h3, if_neg (by omega), List.length_cons, List.length_tail]
theorem tm_ev_len (m : Int32) (d : Nat) : ∀ (L : List (Nat × Nat)) (s : List Int32) (q : Nat), tm_wf L s.length q → (tm_ev m d L s).length = q := by
  intro L
  induction L with
  | nil => intro s q h; exact h
  | cons t r ih =>
    intro s q h
    refine ih _ q ?_
    rw [tm_st_len m d t s h.2.1]
    exact h.2.2
/-- the stack s in the cells of w -/
def tm_sk (w : Nat → Int32) : List Int32 → Prop
  | [] => True
  | x :: r => w r.length = x ∧ tm_sk w r
theorem tm_sk_up {w : Nat → Int32} {x : Int32} : ∀ (r : List Int32) (n : Nat), r.length ≤ n → tm_sk w r → tm_sk (upd w n x) r := by
  intro r
  induction r with
  | nil => intro n _ _; exact True.intro
  | cons y q ih =>
    intro n hn h
    rw [List.length_cons] at hn
    exact ⟨(pk_un (by omega)).trans h.1, ih n (by omega) h.2⟩
theorem tm_sk_push {w : Nat → Int32} {x : Int32} {r : List Int32} (h : tm_sk w r) : tm_sk (upd w r.length x) (x :: r) :=
  ⟨pk_us, tm_sk_up r r.length (Nat.le_refl _) h⟩
def tm_sb (d : Nat) (s : List Int32) : Prop := ∀ x, x ∈ s → x &&& tm_dom d = x
/-- the last value lies in cell 0 -/
theorem tm_sk_tv {w : Nat → Int32} {m : Int32} {d : Nat} {L : List (Nat × Nat)} (hw : tm_wf L 0 1) (h : tm_sk w (tm_ev m d L [])) : w 0 = tm_tv m d L := by
  have hl := tm_ev_len m d L [] 1 hw
  unfold tm_tv
  revert h hl
  generalize tm_ev m d L [] = s
  intro h hl
  match s, h, hl with
  | [x], h, _ => exact h.1
theorem tm_tk_le (K : Nat) : tm_tk K ≤ 2 := by unfold tm_tk; split <;> (try split) <;> omega
/-! truth of all rules, loops over interpretations -/
def tm_al (p : Nat → Bool) : Nat → Bool
  | 0 => true
  | n + 1 => tm_al p n && p n
theorem tm_al_t {p : Nat → Bool} : ∀ {n : Nat}, tm_al p n = true ↔ ∀ i, i < n → p i = true := by
  intro n
  induction n with
  | zero => exact ⟨fun _ i hi => absurd hi (by omega), fun _ => rfl⟩
  | succ n ih =>
    unfold tm_al
    rw [Bool.and_eq_true, ih]
    constructor
    · intro h i hi
      by_cases e : i = n
      · subst e; exact h.2
      · exact h.1 i (by omega)
    · intro h
      exact ⟨fun i hi => h i (by omega), h n (by omega)⟩
theorem tm_al_f {p : Nat → Bool} {n i : Nat} (hi : i < n) (h : p i = false) : tm_al p n = false := by
  cases e : tm_al p n
  · rfl
  · rw [tm_al_t.mp e i hi] at h; exact absurd h (by decide)
theorem tm_al_cg {p q : Nat → Bool} {n : Nat} (h : ∀ i, i < n → p i = q i) : tm_al p n = tm_al q n := by
  induction n with
  | zero => rfl
  | succ n ih => unfold tm_al; rw [ih (fun i hi => h i (by omega)), h n (by omega)]
def tm_bi (b : Bool) : Int32 := if b = true then 1 else 0
def tm_va (m : Int32) (d : Nat) (L : List (Nat × Nat)) : Bool := decide (tm_tv m d L = tm_dom d)
def tm_sa (F : Nat → List (Nat × Nat)) (x d : Nat) (ex : Int32) (m : Int32) : Bool := tm_al (fun i => decide (nI i = ex) || tm_va m d (F (6 + i))) x
def tm_N (d : Nat) : Nat := 2 ^ (d + d * d)
theorem tm_N_le : ∀ d, d < 4 → tm_N d ≤ 4096 := by decide +kernel
/-- the first number from i on, of k numbers -/
def tm_fi (p : Nat → Bool) : Nat → Nat → Int32
  | 0, _ => -2
  | k + 1, i => if p i = true then nI i else tm_fi p k (i + 1)
theorem tm_fi_s (p : Nat → Bool) (k i : Nat) : tm_fi p (k + 1) i = if p i = true then nI i else tm_fi p k (i + 1) := rfl
theorem tm_fi_cg {p q : Nat → Bool} : ∀ (k i : Nat), (∀ j, i ≤ j → j < i + k → p j = q j) → tm_fi p k i = tm_fi q k i := by
  intro k
  induction k with
  | zero => intro i _; rfl
  | succ k ih =>
    intro i h
    unfold tm_fi
    rw [h i (by omega) (by omega), ih (i + 1) (fun j h1 h2 => h j (by omega) (by omega))]
theorem tm_fi_sk {p : Nat → Bool} (c : Nat) : ∀ (a i : Nat), (∀ j, i ≤ j → j < i + a → p j = false) → tm_fi p (a + c) i = tm_fi p c (i + a) := by
  intro a
  induction a with
  | zero => intro i _; rw [Nat.zero_add, Nat.add_zero]
  | succ a ih =>
    intro i h
    rw [show a + 1 + c = (a + c) + 1 by omega, tm_fi_s, h i (by omega) (by omega), if_neg (by decide), ih (i + 1) (fun j h1 h2 => h j (by omega) (by omega)), show i + 1 + a = i + (a + 1) by omega]
theorem tm_fi_no {p : Nat → Bool} : ∀ (k i : Nat), (∀ j, i ≤ j → j < i + k → p j = false) → tm_fi p k i = -2 := by
  intro k i h
  rw [show k = k + 0 by omega, tm_fi_sk 0 k i h]; rfl
theorem tm_fi_in {p : Nat → Bool} : ∀ (k i : Nat), tm_fi p k i = -2 ∨ ∃ j, i ≤ j ∧ j < i + k ∧ p j = true ∧ tm_fi p k i = nI j := by
  intro k
  induction k with
  | zero => intro i; exact Or.inl rfl
  | succ k ih =>
    intro i
    unfold tm_fi
    by_cases h : p i = true
    · rw [if_pos h]; exact Or.inr ⟨i, by omega, by omega, h, rfl⟩
    · rw [if_neg h]
      rcases ih (i + 1) with z | ⟨j, a, b, c, e⟩
      · exact Or.inl z
      · exact Or.inr ⟨j, by omega, by omega, c, e⟩
/-! shapes -/
def tm_mi (m : Int32) (d : Nat) (π : Nat → Nat) (e : Nat) (r : Int32) (n : Nat) : Int32 := tm_it (fun f r => tm_set (bt m (d + d * e + f)) (d + d * π e + π f) r) r n
def tm_mv (m : Int32) (d : Nat) (π : Nat → Nat) (n : Nat) : Int32 := tm_it (fun e r => tm_mi m d π e (tm_set (bt m e) (π e) r) d) 0 n
theorem tm_mi_cg {m : Int32} {d : Nat} {π ρ : Nat → Nat} {e : Nat} (he : e < d) (h : ∀ i, i < d → π i = ρ i) (r : Int32) : ∀ n, n ≤ d → tm_mi m d π e r n = tm_mi m d ρ e r n := by
  intro n
  induction n with
  | zero => intro _; rfl
  | succ n ih =>
    intro hn
    unfold tm_mi at *
    unfold tm_it
    rw [ih (by omega), h e he, h n (by omega)]
theorem tm_mv_cg {m : Int32} {d : Nat} {π ρ : Nat → Nat} (h : ∀ i, i < d → π i = ρ i) : ∀ n, n ≤ d → tm_mv m d π n = tm_mv m d ρ n := by
  intro n
  induction n with
  | zero => intro _; rfl
  | succ n ih =>
    intro hn
    unfold tm_mv at *
    unfold tm_it
    rw [ih (by omega), h n (by omega)]
    exact tm_mi_cg (by omega) h _ d (Nat.le_refl _)
def tm_oo (p d : Nat) : Bool := decide (tm_el p 0 ≠ tm_el p 1) && (decide (tm_el p 0 ≠ tm_el p 2) && (decide (tm_el p 1 ≠ tm_el p 2) && ((decide (1 < d) || decide (tm_el p 1 = 1)) && (decide (2 < d) || decide (tm_el p 2 = 2)))))
def tm_np (d : Nat) : Nat := if d = 1 then 1 else if d = 2 then 2 else 6
def tm_pm (d p : Nat) : Nat := if d < 3 then (if p = 0 then 21 else 19) else if p = 0 then 21 else if p = 1 then 15 else if p = 2 then 19 else if p = 3 then 7 else if p = 4 then 11 else 5
theorem tm_cn_if (q : Nat → Bool) (o : Nat → Bool) (n : Nat) : tm_cn (fun i => o i && q i) (n + 1) = tm_cn (fun i => o i && q i) n + (if o n = true then (if q n = true then 1 else 0) else 0) := by
  rw [tm_cn_s]
  cases o n
  · rfl
  · rfl
theorem tm_cn_pm (q : Nat → Bool) {d : Nat} (h0 : 0 < d) (h3 : d ≤ 3) : tm_cn (fun i => tm_oo i d && q i) 27 = tm_cn (fun p => q (tm_pm d p)) (tm_np d) := by
  have z : tm_cn (fun i => tm_oo i d && q i) 0 = 0 := rfl
  rcases (by omega : d = 1 ∨ d = 2 ∨ d = 3) with rfl | rfl | rfl
  · have t : ∀ i, i < 27 → tm_oo i 1 = decide (i = 21) := by decide +kernel
    simp only [tm_cn_if q (fun i => tm_oo i 1), z, t, Nat.reduceLT]
    show _ = 0 + (if q 21 = true then 1 else 0)
    simp
  · have t : ∀ i, i < 27 → tm_oo i 2 = decide (i = 19 ∨ i = 21) := by decide +kernel
    simp only [tm_cn_if q (fun i => tm_oo i 2), z, t, Nat.reduceLT]
    show _ = 0 + (if q 21 = true then 1 else 0) + (if q 19 = true then 1 else 0)
    simp
    omega
  · have t : ∀ i, i < 27 → tm_oo i 3 = decide (i = 5 ∨ i = 7 ∨ i = 11 ∨ i = 15 ∨ i = 19 ∨ i = 21) := by decide +kernel
    simp only [tm_cn_if q (fun i => tm_oo i 3), z, t, Nat.reduceLT]
    show _ = 0 + (if q 21 = true then 1 else 0) + (if q 15 = true then 1 else 0) + (if q 19 = true then 1 else 0) + (if q 7 = true then 1 else 0) + (if q 11 = true then 1 else 0) + (if q 5 = true then 1 else 0)
    simp
    omega
end
section
/-! the store: slot s has its tokens from cell 24 s on -/
def tm_ar (k a l : Nat → Int32) (F : Nat → List (Nat × Nat)) (S : Nat → Prop) : Prop := ∀ s, S s → l s = nI (F s).length ∧ tm_ce k a (24 * s) (F s)
def tm_gd (F : Nat → List (Nat × Nat)) (S : Nat → Prop) : Prop := ∀ s, S s → s < 12 ∧ 1 ≤ (F s).length ∧ (F s).length ≤ 24 ∧ tm_wf (F s) 0 1
def tm_ff (F : Nat → List (Nat × Nat)) (to : Nat) (T : List (Nat × Nat)) : Nat → List (Nat × Nat) := fun s => if s = to then T else F s
theorem tm_ff_s (F : Nat → List (Nat × Nat)) (to : Nat) (T : List (Nat × Nat)) : tm_ff F to T to = T := if_pos rfl
theorem tm_ff_n (F : Nat → List (Nat × Nat)) {to s : Nat} (T : List (Nat × Nat)) (h : s ≠ to) : tm_ff F to T s = F s := if_neg h
theorem tm_ar_put {k a l k' a' l' : Nat → Int32} {F : Nat → List (Nat × Nat)} {S : Nat → Prop} {to : Nat} {T : List (Nat × Nat)} (h : tm_ar k a l F S) (hlen : ∀ s, S s → (F s).length ≤ 24)
    (hk : ∀ j, (j < 24 * to ∨ 24 * to + 24 ≤ j) → k' j = k j ∧ a' j = a j) (hl : ∀ s, s ≠ to → l' s = l s) (hT : tm_ce k' a' (24 * to) T) (hn : l' to = nI T.length) :
    tm_ar k' a' l' (tm_ff F to T) (fun s => S s ∨ s = to) := by
  intro s hs
  by_cases e : s = to
  · subst e
    rw [tm_ff_s]
    exact ⟨hn, hT⟩
  · rw [tm_ff_n F T e]
    have hS : S s := hs.resolve_right e
    refine ⟨(hl s e).trans (h s hS).1, tm_ce_cp (F s) (24 * s) (24 * s) (fun j hj => hk _ ?_) (h s hS).2⟩
    have := hlen s hS
    omega
theorem tm_ar_mono {k a l : Nat → Int32} {F : Nat → List (Nat × Nat)} {S T : Nat → Prop} (h : tm_ar k a l F S) (hs : ∀ s, T s → S s) : tm_ar k a l F T := fun s hT => h s (hs s hT)
theorem tm_gd_mono {F : Nat → List (Nat × Nat)} {S T : Nat → Prop} (h : tm_gd F S) (hs : ∀ s, T s → S s) : tm_gd F T := fun s hT => h s (hs s hT)
theorem tm_gd_put {F : Nat → List (Nat × Nat)} {S : Nat → Prop} {to : Nat} {T : List (Nat × Nat)} (h : tm_gd F S) (h12 : to < 12) (h1 : 1 ≤ T.length) (h24 : T.length ≤ 24) (hw : tm_wf T 0 1) : tm_gd (tm_ff F to T) (fun s => S s ∨ s = to) := by
  intro s hs
  by_cases e : s = to
  · subst e
    rw [tm_ff_s]
    exact ⟨h12, h1, h24, hw⟩
  · rw [tm_ff_n F T e]
    exact h s (hs.resolve_right e)
/-- n cells copied -/
def tm_cy (k : Nat → Int32) (src tgt n : Nat) : Nat → Int32 := fun j => if tgt ≤ j ∧ j < tgt + n then k (src + (j - tgt)) else k j
theorem tm_cy_0 (k : Nat → Int32) (src tgt : Nat) : tm_cy k src tgt 0 = k := by
  funext j
  unfold tm_cy
  rw [if_neg (by omega)]
theorem tm_cy_in {k : Nat → Int32} {src tgt n j : Nat} (h : j < n) : tm_cy k src tgt n (tgt + j) = k (src + j) := by
  unfold tm_cy
  rw [if_pos (by omega), show src + (tgt + j - tgt) = src + j by omega]
theorem tm_cy_out {k : Nat → Int32} {src tgt n j : Nat} (h : j < tgt ∨ tgt + n ≤ j) : tm_cy k src tgt n j = k j := by
  unfold tm_cy
  rw [if_neg (by omega)]
theorem tm_cy_s {k : Nat → Int32} {src tgt n : Nat} (h : src + n < tgt ∨ tgt + n ≤ src + n) : upd (tm_cy k src tgt n) (tgt + n) (tm_cy k src tgt n (src + n)) = tm_cy k src tgt (n + 1) := by
  funext j
  by_cases e : j = tgt + n
  · subst e
    rw [pk_us, tm_cy_in (by omega), tm_cy_out (by omega)]
  · rw [pk_un e]
    by_cases z : tgt ≤ j ∧ j < tgt + n
    · obtain ⟨i, rfl⟩ : ∃ i, j = tgt + i := ⟨j - tgt, by omega⟩
      rw [tm_cy_in (by omega), tm_cy_in (by omega)]
    · rw [tm_cy_out (by omega), tm_cy_out (by omega)]
/-- the copied tokens behind those that stand there -/
theorem tm_cy_ce {k a : Nat → Int32} {src b n : Nat} {T L : List (Nat × Nat)} (hn : L.length ≤ n) (hT : tm_ce k a b T) (hL : tm_ce k a src L) : tm_ce (tm_cy k src (b + T.length) n) (tm_cy a src (b + T.length) n) b (T ++ L) := by
  refine tm_ce_app _ _ T L b (tm_ce_cp T b b (fun j hj => ⟨tm_cy_out (by omega), tm_cy_out (by omega)⟩) hT) (tm_ce_cp L src _ (fun j hj => ⟨tm_cy_in (by omega), tm_cy_in (by omega)⟩) hL)
/-- one token behind those that stand there -/
theorem tm_ce_snoc {k a : Nat → Int32} {b n : Nat} {T : List (Nat × Nat)} {t : Nat × Nat} {x y : Int32} (hn : n = b + T.length) (hT : tm_ce k a b T) (hx : x = nI t.1) (hy : t.1 < 4 ∨ 8 < t.1 → y = nI t.2) : tm_ce (upd k n x) (upd a n y) b (T ++ [t]) := by
  subst hn
  refine tm_ce_app _ _ T [t] b (tm_ce_cp T b b (fun j hj => ⟨pk_un (by omega), pk_un (by omega)⟩) hT) ?_
  exact ⟨⟨pk_us.trans hx, fun z => pk_us.trans (hy z)⟩, True.intro⟩
def tm_lv (h x : Nat) : Nat → Prop := fun s => s < h ∨ (6 ≤ s ∧ s < 6 + x)
/-! small things -/
theorem tm_bi0 {b : Bool} : tm_bi b = 0 ↔ b = false := by
  cases b
  · exact ⟨fun _ => rfl, fun _ => rfl⟩
  · exact ⟨fun h => absurd h (by decide), fun h => absurd h (by decide)⟩
theorem tm_br {b : Bool} {A B : Prop} (f : b = false → A) (g : b = true → B) : (tm_bi b = 0 → A) ∧ (¬ tm_bi b = 0 → B) := by
  cases b
  · exact ⟨fun _ => f rfl, fun h => absurd rfl h⟩
  · exact ⟨fun h => absurd h (by decide), fun _ => g rfl⟩
theorem tm_IN : ∀ d, d < 4 → 0 < d → (1 : Int32) <<< ((nI d + nI d * nI d) &&& 31) = nI (tm_N d) := by decide +kernel
theorem tm_nn (b : Bool) : narrow .boolean (.int (tm_bi b)) = .int (tm_bi b) := by cases b <;> rfl
theorem tm_n0 : narrow .boolean (.int 0) = .int 0 := rfl
theorem tm_n1 : narrow .boolean (.int 1) = .int 1 := rfl
end
section
/-! the least number above 'after' -/
def tm_nx (p : Nat → Bool) (af : Int32) (N : Nat) : Int32 := tm_fi (fun i => decide (af < nI i) && p i) N 0
theorem tm_nx_neg {p : Nat → Bool} {af : Int32} {N : Nat} (hN : N ≤ 4096) (h : af < 0) : tm_nx p af N = tm_fi p N 0 := by
  unfold tm_nx
  apply tm_fi_cg
  intro j _ hj
  have h2 : af < nI j := Int32.lt_of_lt_of_le h (nI_pos' (by omega))
  rw [decide_eq_true h2, Bool.true_and]
theorem tm_nx_big {p : Nat → Bool} {af : Int32} {N : Nat} (hN : N ≤ 4096) (h : nI N ≤ af) : tm_nx p af N = -2 := by
  unfold tm_nx
  apply tm_fi_no
  intro j _ hj
  have h2 : ¬ af < nI j := by
    intro z
    have := Int32.lt_of_le_of_lt h z
    rw [nI_ltI (by omega) (by omega)] at this
    omega
  rw [decide_eq_false h2, Bool.false_and]
theorem tm_nx_in {p : Nat → Bool} {A N : Nat} (hN : N ≤ 4096) (h : A < N) : tm_nx p (nI A) N = tm_fi p (N - (A + 1)) (A + 1) := by
  unfold tm_nx
  have e : N = (A + 1) + (N - (A + 1)) := by omega
  rw [e, tm_fi_sk _ (A + 1) 0, Nat.zero_add, ← e]
  · apply tm_fi_cg
    intro j h1 h2
    have h3 : nI A < nI j := (nI_ltI (by omega) (by omega)).mpr (by omega)
    rw [decide_eq_true h3, Bool.true_and]
  · intro j _ h2
    have h3 : ¬ nI A < nI j := by rw [nI_ltI (by omega) (by omega)]; omega
    rw [decide_eq_false h3, Bool.false_and]
end
section
/-! the component's private methods without a state -/
theorem tx_int {post : Int32 → Prop} {d : Nat} (h0 : 0 < d) (h3 : d ≤ 3) (h : post (nI (tm_N d))) : wpX_interpretations post (nI d) := by
  unfold wpX_interpretations
  rw [tm_IN d (by omega) h0]
  exact h
theorem tx_dig {post : Int32 → Prop} {x y : Int32} (n : Nat) (hn : n < 32) (hy : y = nI n) (h : post (tm_bi (bt x n))) : wpX_hasDigit post x y := by
  subst hy
  unfold wpX_hasDigit
  rw [tm_dg1 x hn]
  cases hb : bt x n
  · rw [hb] at h; exact br_f (by decide) h
  · rw [hb] at h; exact br_t rfl h
theorem tx_lod {post : Int32 → Prop} {d : Nat} (h0 : 0 < d) (h3 : d ≤ 3) (h : post (tm_dom d)) : wpX_listsOfDomain post (nI d) := by
  unfold wpX_listsOfDomain
  rcases (by omega : d = 1 ∨ d = 2 ∨ d = 3) with rfl | rfl | rfl
  · exact br_t (by decide +kernel) h
  · exact br_f (by decide +kernel) (br_t (by decide +kernel) h)
  · exact br_f (by decide +kernel) (br_f (by decide +kernel) h)
theorem tx_tak {post : Int32 → Prop} {K : Nat} (hK : K ≤ 11) (h : post (nI (tm_tk K))) : wpX_takes post (nI K) := by
  unfold wpX_takes
  unfold tm_tk at h
  refine pk_lt 3 K (fun a => pk_lt K 5 (fun b => ?_) (fun b => pk_lt 8 K (fun c => ?_) (fun c => ?_))) (fun a => ?_)
  · rw [if_neg (by omega), if_neg (by omega)] at h; exact h
  · rw [if_neg (by omega), if_neg (by omega)] at h; exact h
  · rw [if_neg (by omega), if_pos (by omega)] at h; exact h
  · rw [if_pos (by omega)] at h; exact h
theorem tx_lw {post : Int32 → Prop} {v e : Nat} (hv : v < 3) (he : e < 3) (h : post (tm_lw v e)) : wpX_listsWith post (nI v) (nI e) := by
  unfold wpX_listsWith
  unfold tm_lw at h
  rcases (by omega : v = 0 ∨ v = 1 ∨ v = 2) with rfl | rfl | rfl
  · refine br_t (by decide +kernel) ?_
    rw [show e * tm_sp 0 = e from Nat.mul_one e] at h
    exact h
  · refine br_f (by decide +kernel) (br_t (by decide +kernel) ?_)
    rw [show e * tm_sp 1 = 3 * e from Nat.mul_comm e 3, ← pk_mul] at h
    exact h
  · refine br_f (by decide +kernel) (br_f (by decide +kernel) ?_)
    rw [show e * tm_sp 2 = 9 * e from Nat.mul_comm e 9, ← pk_mul] at h
    exact h
theorem tx_own {post : Int32 → Prop} {m : Int32} {d : Nat} (h3 : d ≤ 3) (h : post (tm_ow m d)) : wpX_ownersWithThemselves post m (nI d) := by
  unfold wpX_ownersWithThemselves
  refine loop_0 (fun n i s => wX_ownersWithThemselves_4 post m (nI d) n s (nI i)) (fun i s => s = tm_ow m i) d 0 (tm_ow_0 m).symm ?_ ?_
  · intro n s hs
    subst hs
    exact br_t (nI_le (Nat.le_refl d) (by omega)) h
  · intro n i s hi hs k
    subst hs
    refine br_f (nI_ge hi (by omega)) (nm_r ?_ (nm_r (nI_1 i) (k _ rfl)))
    have e : (3 * nI i) + nI i = nI (3 * i + i) := by rw [show (3 : Int32) = nI 3 from rfl, pk_mul, nI_add]
    rw [e, tm_dgs _ _ (by omega) (by omega), tm_ow_s m (by omega)]
theorem tx_rel12 {post : Int32 → Prop} {J : Int32 → Int32 → Prop} {m : Int32} {d e : Nat} (h3 : d ≤ 3) (he : e < d) (h : J (tm_rf m d (e + 1) 0) (nI (e + 1))) : ∃ n, wX_related_12 post J m (nI d) (nI e) n (tm_rf m d e 0) 0 := by
  refine loop_0 (fun n i s => wX_related_12 post J m (nI d) (nI e) n s (nI i)) (fun i s => s = tm_rf m d e i) d (tm_rf m d e 0) rfl ?_ ?_
  · intro n s hs
    subst hs
    rw [tm_rf_n]
    exact br_t (nI_le (Nat.le_refl d) (by omega)) (nm_r (nI_1 e) h)
  · intro n i s hi hs k
    subst hs
    refine br_f (nI_ge hi (by omega)) (nm_r ?_ (nm_r (nI_1 i) (k _ rfl)))
    have e1 : (3 * nI e) + nI i = nI (3 * e + i) := by rw [show (3 : Int32) = nI 3 from rfl, pk_mul, nI_add]
    have e2 : (nI d + (nI d * nI e)) + nI i = nI (d + d * e + i) := by rw [pk_mul, nI_add, nI_add]
    have e3 : d * e ≤ 3 * 2 := Nat.mul_le_mul h3 (by omega)
    rw [e1, e2, tm_dgs _ _ (by omega) (by omega), tm_rf_s m h3 he hi]
theorem tx_rel {post : Int32 → Prop} {m : Int32} {d : Nat} (h3 : d ≤ 3) (h : post (tm_rl m d)) : wpX_related post m (nI d) := by
  unfold wpX_related
  refine loop_0 (fun n i s => wX_related_4 post m (nI d) n s (nI i)) (fun i s => s = tm_rf m d i 0) d 0 (tm_rf_0 m d).symm ?_ ?_
  · intro n s hs
    subst hs
    rw [tm_rf_e]
    exact br_t (nI_le (Nat.le_refl d) (by omega)) h
  · intro n i s hi hs k
    subst hs
    exact br_f (nI_ge hi (by omega)) (tx_rel12 h3 hi (k _ rfl))
theorem tm_shl {a k : Nat} (hk : k < 32) (h : a * 2 ^ k < 2 ^ 32) : nI a <<< (nI k &&& 31) = nI (a <<< k) := by
  rw [pk_shlN _ k (s_l k hk) h, Nat.shiftLeft_eq]
theorem tm_shr {a k : Nat} (hk : k < 32) (h : a < 2 ^ 31) : nI a >>> (nI k &&& 31) = nI (a >>> k) := by
  rw [pk_shrN h _ k (s_l k hk), Nat.shiftRight_eq_div_pow]
theorem tx_clo25 {post : Int32 → Prop} {J : Int32 → Int32 → Prop} {via on q : Nat} (hv : via < 3) (ho : on < 8) (h : J (nI (tm_c1 via on q 3)) (nI (via + 1))) : ∃ n, wX_closed_25 post J (nI via) (nI on) n (nI q) 0 := by
  refine loop_0 (fun n i s => wX_closed_25 post J (nI via) (nI on) n s (nI i)) (fun i s => s = nI (tm_c1 via on q i)) 3 (nI q) rfl ?_ ?_
  · intro n s hs
    subst hs
    exact br_t (by decide +kernel) (nm_r (nI_1 via) h)
  · intro n i s hi hs k
    subst hs
    have e1 : (3 * nI i) + nI via = nI (3 * i + via) := by rw [show (3 : Int32) = nI 3 from rfl, pk_mul, nI_add]
    have e2 : 3 * nI i = nI (3 * i) := by rw [show (3 : Int32) = nI 3 from rfl, pk_mul]
    have e3 : on * 2 ^ (3 * i) < 2 ^ 32 := by
      have : 2 ^ (3 * i) ≤ 2 ^ 6 := Nat.pow_le_pow_right (by decide) (by omega)
      have : on * 2 ^ (3 * i) ≤ 8 * 2 ^ 6 := Nat.mul_le_mul (by omega) this
      omega
    have st : tm_c1 via on q (i + 1) = if (tm_c1 via on q i).testBit (3 * i + via) = true then tm_c1 via on q i ||| (on <<< (3 * i)) else tm_c1 via on q i := rfl
    refine br_f (nI_ge (b := 3) hi (by omega)) ?_
    rw [e1, e2, tm_dg1 _ (by omega), tm_bN _ (by omega), tm_shl (by omega) e3]
    refine br_c (fun hb => ?_) (fun hb => ?_)
    · refine nm_r (nx_or _ _) (nm_r (nI_1 i) (k _ ?_))
      rw [st, if_pos hb]
    · refine nm_r (nI_1 i) (k _ ?_)
      rw [st, if_neg hb]
theorem tx_clo {post : Int32 → Prop} {r : Nat} (hr : r < 512) (h : post (nI (tm_cl r 3))) : wpX_closed post (nI r) := by
  unfold wpX_closed
  refine nm_r (show nI r ||| 273 = nI (r ||| 273) from nx_or r 273) ?_
  refine loop_0 (fun n i s => wX_closed_8 post n s (nI i)) (fun i s => s = nI (tm_cl r i)) 3 (nI (r ||| 273)) rfl ?_ ?_
  · intro n s hs
    subst hs
    exact br_t (by decide +kernel) h
  · intro n i s hi hs k
    subst hs
    have e2 : 3 * nI i = nI (3 * i) := by rw [show (3 : Int32) = nI 3 from rfl, pk_mul]
    have hq := tm_cl_lt r hr i (by omega)
    refine br_f (nI_ge (b := 3) hi (by omega)) ?_
    rw [e2, tm_shr (by omega) (by omega)]
    refine nm_r (show nI (tm_cl r i >>> (3 * i)) &&& 7 = nI ((tm_cl r i >>> (3 * i)) &&& 7) from nx_and _ 7) ?_
    refine tx_clo25 hi (Nat.lt_of_le_of_lt Nat.and_le_right (by decide)) (k _ rfl)
theorem tx_at84 {post : Int32 → Prop} {J : Int32 → Int32 → Prop} {P : Int32} {d v w e : Nat} (h3 : d ≤ 3) (hv : v < 3) (hw : w < 3) (he : e < d) (h : J (tm_af P d v w (e + 1) 0) (nI (e + 1))) : ∃ n, wX_atom_84 post J (nI d) (nI v) (nI w) P (nI e) n (tm_af P d v w e 0) 0 := by
  refine loop_0 (fun n i s => wX_atom_84 post J (nI d) (nI v) (nI w) P (nI e) n s (nI i)) (fun i s => s = tm_af P d v w e i) d (tm_af P d v w e 0) rfl ?_ ?_
  · intro n s hs
    subst hs
    rw [tm_af_n]
    exact br_t (nI_le (Nat.le_refl d) (by omega)) (nm_r (nI_1 e) h)
  · intro n i s hi hs k
    subst hs
    have e1 : (3 * nI e) + nI i = nI (3 * e + i) := by rw [show (3 : Int32) = nI 3 from rfl, pk_mul, nI_add]
    have st := tm_af_s P h3 hv hw he hi
    refine br_f (nI_ge hi (by omega)) (tx_dig (3 * e + i) (by omega) e1 (tm_br (fun hb => ?_) (fun hb => ?_)))
    · refine nm_r (nI_1 i) (k _ ?_)
      rw [hb, if_neg (by decide)] at st
      exact st
    · refine tx_lw hv (by omega) (tx_lw hw (by omega) (nm_r ?_ (nm_r (nI_1 i) (k _ rfl))))
      rw [hb, if_pos rfl] at st
      exact st
theorem tx_at75 {post : Int32 → Prop} {P : Int32} {d v w : Nat} (h3 : d ≤ 3) (hv : v < 3) (hw : w < 3) (h : post (tm_af P d v w d 0)) : ∃ n, wX_atom_75 post (nI d) (nI v) (nI w) P n 0 0 := by
  refine loop_0 (fun n i s => wX_atom_75 post (nI d) (nI v) (nI w) P n s (nI i)) (fun i s => s = tm_af P d v w i 0) d 0 (tm_af_0 P d v w).symm ?_ ?_
  · intro n s hs
    subst hs
    exact br_t (nI_le (Nat.le_refl d) (by omega)) h
  · intro n i s hi hs k
    subst hs
    exact br_f (nI_ge hi (by omega)) (tx_at84 h3 hv hw hi (k _ rfl))
theorem tm_vw {K A : Nat} (h : tm_ok (K, A)) (hK : K < 4) : tm_v K A < 3 ∧ tm_w K A < 3 ∧ A < 9 := by
  unfold tm_ok at h
  dsimp only at h
  unfold tm_v tm_w
  by_cases z : K = 0
  · have := h.2.1 (Or.inl z)
    rw [if_pos z, if_pos z]
    omega
  · have := h.2.2.1 (by omega)
    rw [if_neg z, if_neg z]
    omega
theorem tx_atm {post : Int32 → Prop} {K A : Nat} {m : Int32} {d : Nat} (h3 : d ≤ 3) (hK : K < 4) (ok : tm_ok (K, A)) (h : post (tm_af (tm_ps K m d) d (tm_v K A) (tm_w K A) d 0)) : wpX_atom post (nI K) (nI A) m (nI d) := by
  have hvw := tm_vw ok hK
  have n3 : ¬ (3 : Int32) = 0 := by decide
  have ev : nI A / 3 = nI (A / 3) := pk_div (d := 3) (by omega) (by omega) (by omega)
  have ew : nI A - nI A / 3 * 3 = nI (A % 3) := pk_rem (d := 3) (by omega) (by omega) (by omega)
  unfold wpX_atom wX_atom_11 wX_atom_24 wX_atom_57
  rw [ev]
  rw [ev] at ew
  rw [ew]
  rcases (by omega : K = 0 ∨ K = 1 ∨ K = 2 ∨ K = 3) with rfl | rfl | rfl | rfl
  · refine br_t rfl (br_t rfl (br_t rfl (tx_own h3 (br_f (by decide +kernel) (tx_at75 h3 hvw.1 hvw.2.1 h)))))
  · refine br_f (by decide +kernel) ⟨n3, br_f (by decide +kernel) ⟨n3, br_f (by decide +kernel) (br_f (by decide +kernel) (tx_rel h3 (br_f (by decide +kernel) (tx_at75 h3 hvw.1 hvw.2.1 h))))⟩⟩
  · refine br_f (by decide +kernel) ⟨n3, br_f (by decide +kernel) ⟨n3, br_f (by decide +kernel) (br_t rfl (br_f (by decide +kernel) (tx_at75 h3 hvw.1 hvw.2.1 h)))⟩⟩
  · refine br_f (by decide +kernel) ⟨n3, br_f (by decide +kernel) ⟨n3, br_f (by decide +kernel) (br_f (by decide +kernel) (tx_rel h3 (br_t rfl ?_)))⟩⟩
    rw [(tm_rN_p m d).2]
    exact tx_clo (tm_rN_p m d).1 (tx_at75 h3 hvw.1 hvw.2.1 h)
theorem tx_jn {post : Int32 → Prop} {K : Nat} {f g : Int32} (h5 : 5 ≤ K) (h8 : K ≤ 8) (h : post (tm_jn K f g)) : wpX_joined post (nI K) f g := by
  unfold wpX_joined
  rcases (by omega : K = 5 ∨ K = 6 ∨ K = 7 ∨ K = 8) with rfl | rfl | rfl | rfl
  · exact br_f (by decide +kernel) (br_f (by decide +kernel) (br_t rfl h))
  · exact br_f (by decide +kernel) (br_f (by decide +kernel) (br_f (by decide +kernel) (br_t rfl h)))
  · exact br_f (by decide +kernel) (br_f (by decide +kernel) (br_f (by decide +kernel) (br_f (by decide +kernel) (br_t rfl h))))
  · exact br_f (by decide +kernel) (br_t (by decide +kernel) h)
theorem tx_need {post : Int32 → Prop} {K A d : Nat} (h9 : 9 ≤ K) (h11 : K ≤ 11) (hA : A < 6) (h : post (nI (tm_ls K A d))) : wpX_needed post (nI K) (nI A) (nI d) := by
  unfold wpX_needed
  rcases (by omega : K = 9 ∨ K = 10 ∨ K = 11) with rfl | rfl | rfl
  · exact br_t rfl h
  · exact br_f (by decide +kernel) (br_t rfl h)
  · refine br_f (by decide +kernel) (br_f (by decide +kernel) ⟨by decide, ?_⟩)
    have e : 2 + nI A / 3 = nI (2 + A / 3) := by
      rw [show nI A / 3 = nI (A / 3) from pk_div (d := 3) (by omega) (by omega) (by omega), show (2 : Int32) = nI 2 from rfl, nI_add]
    rw [e]
    exact h
theorem tm_lw0 : ∀ v, v < 3 → tm_lw v 0 = tm_Z v := by decide +kernel
theorem tm_fw_x (f : Int32) (v e : Nat) : (f >>> ((nI e * nI (tm_sp v)) &&& 31)) &&& tm_Z v = tm_fw f v e := by
  unfold tm_fw
  rw [pk_mul]
theorem tx_fal39 {post : Int32 → Prop} {k v : Nat} {f : Int32} (h1 : 1 ≤ k) (h3 : k ≤ 3) (h : post (tm_fr f k v)) : ∃ n, wX_forAtLeast_39 post (nI k) f (nI (tm_sp v)) (tm_Z v) n 0 0 0 0 := by
  have e2 : 2 * nI (tm_sp v) = nI (2 * tm_sp v) := pk_mul 2 _
  refine ⟨4, br_f (by decide +kernel) (nm_r (tm_fw_x f v 0) (nm_e (nm_e (nm_e (nm_r (nI_1 0) (br_f (by decide +kernel) (nm_r (tm_fw_x f v 1) (nm_e (nm_e (nm_e (nm_r (nI_1 1) (br_f (by decide +kernel) (nm_r (tm_fw_x f v 2) (nm_e (nm_e (nm_e (nm_r (nI_1 2) (br_t (by decide +kernel) ?_))))))))))))))))))⟩
  unfold wX_forAtLeast_111
  rw [e2]
  unfold tm_fr tm_fk at h
  rcases (by omega : k = 1 ∨ k = 2 ∨ k = 3) with rfl | rfl | rfl
  · exact br_t rfl h
  · exact br_f (by decide +kernel) (br_t rfl h)
  · exact br_f (by decide +kernel) (br_f (by decide +kernel) h)
theorem tx_fal {post : Int32 → Prop} {k v : Nat} {f : Int32} (hv : v < 3) (h1 : 1 ≤ k) (h3 : k ≤ 3) (h : post (tm_fr f k v)) : wpX_forAtLeast post (nI k) (nI v) f := by
  have g := tx_fal39 h1 h3 h
  rw [← tm_lw0 v hv] at g
  unfold wpX_forAtLeast wX_forAtLeast_19
  rcases (by omega : v = 0 ∨ v = 1 ∨ v = 2) with rfl | rfl | rfl
  · exact br_t rfl (tx_lw (e := 0) hv (by omega) g)
  · exact br_f (by decide +kernel) (br_t rfl (tx_lw (e := 0) hv (by omega) g))
  · exact br_f (by decide +kernel) (br_f (by decide +kernel) (tx_lw (e := 0) hv (by omega) g))
end
section
/-! the component: the value of a stored formula -/
theorem tx_168 {post : Int32 → SX → Prop} {J : Int32 → Int32 → (Nat → Int32) → (Nat → Int32) → (Nat → Int32) → (Nat → Int32) → Prop} {x1 x2 x3 x5 x11 val fe ff fa : Int32} {k a l w : Nat → Int32} {d : Nat} (p t : Nat) (hp : p < 24) (hv : x11 &&& tm_dom d = val) (h : J (nI (p + 1)) (nI (t + 1)) k a l (upd w p val)) : wX_truthOf_168 post J x1 x2 x3 (tm_dom d) x5 (nI p) (nI t) x11 fe ff fa k a l w := by
  unfold wX_truthOf_168
  exact ⟨vp_in_nI hp (by omega), nm_r (by rw [nI_clamp (by omega), hv]) (nm_r (nI_1 p) (nm_r (nI_1 t) h))⟩
theorem tm_sb_c {d : Nat} {x : Int32} {s : List Int32} (hx : x &&& tm_dom d = x) (hs : tm_sb d s) : tm_sb d (x :: s) := by
  intro y hy
  rcases List.mem_cons.mp hy with e | e
  · subst e; exact hx
  · exact hs y e
theorem tm_sb_t {d : Nat} {x : Int32} {s : List Int32} (h : tm_sb d (x :: s)) : tm_sb d s := fun y hy => h y (List.mem_cons_of_mem _ hy)
theorem tm_sb_h {d : Nat} {x : Int32} {s : List Int32} (h : tm_sb d (x :: s)) : x &&& tm_dom d = x := h x List.mem_cons_self
theorem tm_ls_r {K A d : Nat} (h0 : 0 < d) (h3 : d ≤ 3) (hA : A < 6) : 1 ≤ tm_ls K A d ∧ tm_ls K A d ≤ 3 := by
  unfold tm_ls
  split
  · omega
  · split <;> omega
theorem tx_tr20 {post : Int32 → SX → Prop} {fe ff fa m : Int32} {k a l : Nat → Int32} {sl d N : Nat} (hs : sl < 12) (h0 : 0 < d) (h3 : d ≤ 3) (hN : N ≤ 24) :
    ∀ (L : List (Nat × Nat)) (t : Nat) (s : List Int32) (w : Nat → Int32) (n : Nat), tm_ce k a (24 * sl + t) L → tm_wf L s.length 1 → s.length ≤ t → t + L.length = N → L.length < n → tm_sk w s → tm_sb d s →
      (∀ w', tm_sk w' (tm_ev m d L s) → post (w' 0) (fe, ff, fa, k, a, l, w')) → wX_truthOf_20 post (nI sl) m (nI d) (tm_dom d) (nI N) fe ff fa n (nI s.length) (nI t) k a l w := by
  intro L
  induction L with
  | nil =>
    intro t s w n hc hw ht hl hn hk hb hp
    rw [List.length_nil] at hl hn
    obtain ⟨n, rfl⟩ : ∃ q, n = q + 1 := ⟨n - 1, by omega⟩
    exact br_t (nI_le (by omega) (by omega)) (hp w hk)
  | cons tk r ih =>
    intro t s w n hc hw ht hl hn hk hb hp
    obtain ⟨K, A⟩ := tk
    rw [List.length_cons] at hl hn
    obtain ⟨n, rfl⟩ : ∃ q, n = q + 1 := ⟨n - 1, by omega⟩
    have e1 : (nI sl * 24) + nI t = nI (24 * sl + t) := by rw [show (24 : Int32) = nI 24 from rfl, pk_mul, nI_add, Nat.mul_comm]
    have hin : vp_in ((nI sl * 24) + nI t) 288 := by rw [e1]; exact vp_in_nI (by omega) (by omega)
    have ec : ((nI sl * 24) + nI t).toNatClampNeg = 24 * sl + t := by rw [e1]; exact nI_clamp (by omega)
    obtain ⟨⟨hK, hA⟩, hc'⟩ := hc
    obtain ⟨hok, htk, hw'⟩ := hw
    have hK11 := hok.1
    dsimp only at hK hA htk hw' hK11
    refine br_f (nI_ge (by omega) (by omega)) ⟨hin, nm_r (e' := nI K) (by rw [ec]; exact hK) ⟨hin, ?_⟩⟩
    intro y hy
    rw [ec] at hy
    refine tx_tak hK11 ?_
    by_cases c1 : K < 4
    · have z : tm_tk K = 0 := if_pos c1
      have hyA := hy.trans (hA (Or.inl c1))
      subst hyA
      rw [z] at hw' ⊢
      have es : tm_st m d (K, A) s = tm_at K A m d :: s := if_pos c1
      have hv := tm_at_x (m := m) h0 h3 (tm_vw hok c1).1 (tm_vw hok c1).2.1
      refine nm_r (show nI s.length - nI 0 = nI s.length from pk_sub (Nat.zero_le _)) (br_t rfl (tx_atm h3 c1 hok (tx_168 s.length t (by omega) hv ?_)))
      exact ih (t + 1) (tm_at K A m d :: s) _ n hc' hw' (by rw [List.length_cons]; omega) (by omega) (by omega) (tm_sk_push hk) (tm_sb_c (tm_sub_x hv) hb) (fun w' h' => hp w' (by
        show tm_sk w' (tm_ev m d r (tm_st m d (K, A) s))
        rw [es]; exact h'))
    · by_cases c2 : K = 4
      · subst c2
        match s, ht, hk, hb, hp, htk, hw' with
        | [], _, _, _, _, htk, _ => exact absurd htk (by decide)
        | x :: q, ht, hk, hb, hp, htk, hw' =>
          rw [List.length_cons] at ht
          have hv := tm_not_x d x
          refine nm_r (show nI (x :: q).length - nI 1 = nI q.length from nI_pred _) (br_f (by decide +kernel) (br_f (by decide +kernel) (br_t rfl ⟨vp_in_nI (by omega) (by omega), nm_r (by rw [nI_clamp (by omega), hk.1]) (tx_168 q.length t (by omega) hv ?_)⟩)))
          exact ih (t + 1) (tm_not d x :: q) _ n hc' hw' (by rw [List.length_cons]; omega) (by omega) (by omega) (tm_sk_push hk.2) (tm_sb_c (tm_sub_x hv) (tm_sb_t hb)) hp
      · by_cases c3 : K < 9
        · have z : tm_tk K = 2 := by unfold tm_tk; rw [if_neg c1, if_pos (by omega)]
          rw [z] at hw' htk ⊢
          match s, ht, hk, hb, hp, htk, hw' with
          | [], _, _, _, _, htk, _ => exact absurd htk (by decide)
          | [_], _, _, _, _, htk, _ => exact absurd htk (show ¬ 2 ≤ 1 by decide)
          | x :: v :: q, ht, hk, hb, hp, htk, hw' =>
            rw [List.length_cons, List.length_cons] at ht
            have hv := tm_jn_cb (K := K) (tm_sb_h (tm_sb_t hb)) (tm_sb_h hb)
            have es : tm_st m d (K, A) (x :: v :: q) = tm_cb d K v x :: q := by
              unfold tm_st
              rw [if_neg c1, if_neg c2, if_pos c3]
              rfl
            have w1 : w (nI q.length).toNatClampNeg = v := by rw [nI_clamp (by omega)]; exact hk.2.1
            have w2 : w (nI q.length + 1).toNatClampNeg = x := by rw [nI_1, nI_clamp (by omega)]; exact hk.1
            refine nm_r (show nI (x :: v :: q).length - nI 2 = nI q.length from pk_sub (a := q.length + 2) (by omega)) (br_f (by decide +kernel) (br_t rfl ⟨vp_in_nI (by omega) (by omega), ⟨by rw [nI_1]; exact vp_in_nI (by omega) (by omega), ?_⟩⟩))
            rw [w1, w2]
            refine tx_jn (by omega) (by omega) (tx_168 q.length t (by omega) hv ?_)
            exact ih (t + 1) (tm_cb d K v x :: q) _ n hc' hw' (by rw [List.length_cons]; omega) (by omega) (by omega) (tm_sk_push hk.2.2) (tm_sb_c (tm_sub_x hv) (tm_sb_t (tm_sb_t hb))) (fun w' h' => hp w' (by
              show tm_sk w' (tm_ev m d r (tm_st m d (K, A) (x :: v :: q)))
              rw [es]; exact h'))
        · have z : tm_tk K = 1 := by unfold tm_tk; rw [if_neg c1, if_neg (by omega)]
          have hA6 : A < 6 := by
            have a1 := hok.2.1
            have a2 := hok.2.2.2
            dsimp only at a1 a2
            rcases (by omega : K = 9 ∨ K = 10 ∨ K = 11) with e | e | e
            · have := a1 (Or.inr (Or.inl e)); omega
            · have := a1 (Or.inr (Or.inr e)); omega
            · exact a2 e
          have hyA := hy.trans (hA (Or.inr (by omega)))
          subst hyA
          rw [z] at hw' htk ⊢
          match s, ht, hk, hb, hp, htk, hw' with
          | [], _, _, _, _, htk, _ => exact absurd htk (by decide)
          | x :: q, ht, hk, hb, hp, htk, hw' =>
            rw [List.length_cons] at ht
            have hls := tm_ls_r (K := K) h0 h3 hA6
            have hv := tm_fr_ct (v := A % 3) h0 h3 hls.1 hls.2 (by omega) (tm_sb_h hb)
            have es : tm_st m d (K, A) (x :: q) = tm_ct d (tm_ls K A d) (A % 3) x :: q := by
              unfold tm_st
              rw [if_neg c1, if_neg c2, if_neg c3]
              rfl
            have w1 : w (nI q.length).toNatClampNeg = x := by rw [nI_clamp (by omega)]; exact hk.1
            have w3 : nI A - nI A / 3 * 3 = nI (A % 3) := pk_rem (d := 3) (by omega) (by omega) (by omega)
            refine nm_r (show nI (x :: q).length - nI 1 = nI q.length from nI_pred _) (br_f (by decide +kernel) (br_f (by decide +kernel) (br_f (by rw [show (4 : Int32) = nI 4 from rfl, nI_eq (by omega) (by omega)]; exact c2) (tx_need (by omega) hK11 hA6 ⟨by decide, vp_in_nI (by omega) (by omega), ?_⟩))))
            rw [w1, w3]
            refine tx_fal (by omega) hls.1 hls.2 (tx_168 q.length t (by omega) hv ?_)
            exact ih (t + 1) (tm_ct d (tm_ls K A d) (A % 3) x :: q) _ n hc' hw' (by rw [List.length_cons]; omega) (by omega) (by omega) (tm_sk_push hk.2) (tm_sb_c (tm_sub_x hv) (tm_sb_t hb)) (fun w' h' => hp w' (by
              show tm_sk w' (tm_ev m d r (tm_st m d (K, A) (x :: q)))
              rw [es]; exact h'))
theorem tx_tr {post : Int32 → SX → Prop} {fe ff fa m y : Int32} {k a l w : Nat → Int32} {d : Nat} {F : Nat → List (Nat × Nat)} {S : Nat → Prop} (sl : Nat) (hy : y = nI sl) (hS : S sl) (h0 : 0 < d) (h3 : d ≤ 3) (har : tm_ar k a l F S) (hgd : tm_gd F S) (h : ∀ w', post (tm_tv m d (F sl)) (fe, ff, fa, k, a, l, w')) : wpX_truthOf post (fe, ff, fa, k, a, l, w) y m (nI d) := by
  subst hy
  obtain ⟨hs, h1, h24, hw⟩ := hgd sl hS
  obtain ⟨hl, hc⟩ := har sl hS
  unfold wpX_truthOf
  refine tx_lod h0 h3 ⟨vp_in_nI hs (by omega), nm_r (by rw [nI_clamp (by omega), hl]) ⟨(F sl).length + 1, tx_tr20 hs h0 h3 h24 (F sl) 0 [] w _ hc hw (Nat.le_refl _) (Nat.zero_add _) (by omega) True.intro (fun _ hx => absurd hx List.not_mem_nil) (fun w' h' => ?_)⟩⟩
  rw [tm_sk_tv hw h']
  exact h w'
theorem tx_val {post : Int32 → SX → Prop} {fe ff fa m y : Int32} {k a l w : Nat → Int32} {d : Nat} {F : Nat → List (Nat × Nat)} {S : Nat → Prop} (sl : Nat) (hy : y = nI sl) (hS : S sl) (h0 : 0 < d) (h3 : d ≤ 3) (har : tm_ar k a l F S) (hgd : tm_gd F S) (h : ∀ w', post (tm_bi (tm_va m d (F sl))) (fe, ff, fa, k, a, l, w')) : wpX_isValid post (fe, ff, fa, k, a, l, w) y m (nI d) := by
  unfold wpX_isValid
  refine tx_tr sl hy hS h0 h3 har hgd (fun w' => tx_lod h0 h3 (br_c (fun e => ?_) (fun e => ?_)))
  · have g := h w'
    unfold tm_va at g
    rw [decide_eq_true e] at g
    exact g
  · have g := h w'
    unfold tm_va at g
    rw [decide_eq_false e] at g
    exact g
theorem tx_sat {post : Int32 → SX → Prop} {fe ff m ex : Int32} {k a l w : Nat → Int32} {x d : Nat} {F : Nat → List (Nat × Nat)} {S : Nat → Prop} (hx : x ≤ 6) (hS : ∀ i, i < x → S (6 + i)) (h0 : 0 < d) (h3 : d ≤ 3) (har : tm_ar k a l F S) (hgd : tm_gd F S) (h : ∀ w', post (tm_bi (tm_sa F x d ex m)) (fe, ff, nI x, k, a, l, w')) : wpX_satisfies post (fe, ff, nI x, k, a, l, w) m (nI d) ex := by
  unfold wpX_satisfies
  refine tx_lod h0 h3 ?_
  refine loop_0 (fun n i (s : Nat → Int32) => wX_satisfies_9 post m (nI d) ex (tm_dom d) n (nI i) fe ff (nI x) k a l s) (fun i _ => ∀ j, j < i → (decide (nI j = ex) || tm_va m d (F (6 + j))) = true) x w (fun j hj => absurd hj (by omega)) ?_ ?_
  · intro n s hI
    have e : tm_sa F x d ex m = true := tm_al_t.mpr hI
    have g := h s
    rw [e] at g
    exact br_t (nI_le (Nat.le_refl x) (by omega)) g
  · intro n i s hi hI kk
    refine br_f (nI_ge hi (by omega)) (br_c (fun e => ?_) (fun e => ?_))
    · refine nm_r (nI_1 i) (kk s (lt_s hI ?_))
      rw [decide_eq_true e]; rfl
    · refine tx_tr (6 + i) (nI_add 6 i) (hS i hi) h0 h3 har hgd (fun w' => br_c (fun z => ?_) (fun z => ?_))
      · refine nm_r (nI_1 i) (kk w' (lt_s hI ?_))
        unfold tm_va
        rw [decide_eq_true z, Bool.or_true]
      · have e2 : tm_sa F x d ex m = false := tm_al_f hi (by
          unfold tm_va
          rw [decide_eq_false e, decide_eq_false z]; rfl)
        have g := h w'
        rw [e2] at g
        exact g
end
section
/-! the reference's private methods that change nothing -/
section
variable {fh fa : Int32} {k a l w : Nat → Int32}
theorem ty_int {post : Int32 → Prop} {d : Nat} (h0 : 0 < d) (h3 : d ≤ 3) (h : post (nI (tm_N d))) : wpY_interpretations post (nI d, fh, fa, l, k, a, w) := by
  unfold wpY_interpretations
  dsimp only
  rw [tm_IN d (by omega) h0]
  exact h
theorem ty_rel {post : Int32 → Prop} {m : Int32} {d e f : Nat} (hb : d + d * e + f < 32) (h : post (tm_bi (bt m (d + d * e + f)))) : wpY_related post (nI d, fh, fa, l, k, a, w) m (nI e) (nI f) := by
  unfold wpY_related
  dsimp only
  rw [pk_mul, nI_add, nI_add, tm_dg1 m hb]
  cases hc : bt m (d + d * e + f)
  · rw [hc] at h; exact br_f (by decide) h
  · rw [hc] at h; exact br_t rfl h
theorem ty_el {post : Int32 → Prop} {u : SY} {i v : Nat} (hi : i < 27) (hv : v < 3) (h : post (nI (tm_el i v))) : wpY_element post u (nI i) (nI v) := by
  obtain ⟨f1, f2, f3, a1, a2, a3, a4⟩ := u
  have n3 : ¬ (3 : Int32) = 0 := by decide
  have e0 : nI i - nI i / 3 * 3 = nI (i % 3) := pk_rem (d := 3) (by omega) (by omega) (by omega)
  have e1 : nI i / 3 = nI (i / 3) := pk_div (d := 3) (by omega) (by omega) (by omega)
  have e2 : nI (i / 3) - nI (i / 3) / 3 * 3 = nI (i / 3 % 3) := pk_rem (d := 3) (by omega) (by omega) (by omega)
  have e3 : nI i / 9 = nI (i / 9) := pk_div (d := 9) (by omega) (by omega) (by omega)
  unfold wpY_element
  dsimp only
  rw [e0, e1, e2, e3]
  rcases (by omega : v = 0 ∨ v = 1 ∨ v = 2) with rfl | rfl | rfl
  · exact br_t rfl ⟨n3, h⟩
  · exact br_f (by decide +kernel) (br_t rfl ⟨n3, n3, h⟩)
  · exact br_f (by decide +kernel) (br_f (by decide +kernel) ⟨by decide, h⟩)
theorem ty_isl {post : Int32 → Prop} {d i : Nat} (h3 : d ≤ 3) (hi : i < 27) (h : post (tm_bi (tm_il d i))) : wpY_isList post (nI d, fh, fa, l, k, a, w) (nI i) := by
  unfold wpY_isList
  have l0 := tm_el_lt i hi 0 (by omega)
  have l1 := tm_el_lt i hi 1 (by omega)
  have l2 := tm_el_lt i hi 2 (by omega)
  unfold tm_il at h
  refine br_f (nI_pos (by omega)) (br_f (nI_ge (b := 27) hi (by omega)) (ty_el (v := 0) hi (by omega) (pk_le d (tm_el i 0) (fun c => ?_) (fun c => ty_el (v := 1) hi (by omega) (pk_le d (tm_el i 1) (fun c1 => ?_) (fun c1 => ty_el (v := 2) hi (by omega) (pk_le d (tm_el i 2) (fun c2 => ?_) (fun c2 => ?_))))))))
  · rw [decide_eq_false (by omega)] at h; exact h
  · rw [decide_eq_true c, decide_eq_false (by omega : ¬ tm_el i 1 < d)] at h; exact h
  · rw [decide_eq_true c, decide_eq_true c1, decide_eq_false (by omega : ¬ tm_el i 2 < d)] at h; exact h
  · rw [decide_eq_true c, decide_eq_true c1, decide_eq_true c2] at h; exact h
theorem tm_mk_s (p : Nat → Bool) (n : Nat) : tm_mk p (n + 1) = if p n = true then tm_mk p n ||| ((1 : Int32) <<< (nI n &&& 31)) else tm_mk p n := rfl
theorem ty_all {post : Int32 → Prop} {d : Nat} (h0 : 0 < d) (h3 : d ≤ 3) (h : post (tm_dom d)) : wpY_allLists post (nI d, fh, fa, l, k, a, w) := by
  unfold wpY_allLists
  rw [← tm_dom_mk d (by omega) h0] at h
  refine loop_0 (fun n i s => wY_allLists_4 post (nI d) fh fa l k a w n s (nI i)) (fun i s => s = tm_mk (tm_il d) i) 27 0 rfl ?_ ?_
  · intro n s hs
    subst hs
    exact br_t (by decide +kernel) h
  · intro n i s hi hs kk
    subst hs
    refine br_f (nI_ge (b := 27) hi (by omega)) (ty_isl h3 hi (tm_br (fun hb => nm_r (nI_1 i) (kk _ ?_)) (fun hb => nm_r ?_ (nm_r (nI_1 i) (kk _ rfl)))))
    · rw [tm_mk_s, if_neg (by rw [hb]; decide)]
    · rw [tm_mk_s, if_pos hb]
theorem ty_wi {post : Int32 → Prop} {u : SY} {i v e : Nat} (hi : i < 27) (hv : v < 3) (he : e < 3) (h : post (nI (tm_wi i v e))) : wpY_with post u (nI i) (nI v) (nI e) := by
  obtain ⟨f1, f2, f3, a1, a2, a3, a4⟩ := u
  have g := tm_wi_I i hi v hv e he
  rw [← g] at h
  unfold wpY_with wY_with_19
  rcases (by omega : v = 0 ∨ v = 1 ∨ v = 2) with rfl | rfl | rfl
  · exact br_t rfl (ty_el hi hv h)
  · exact br_f (by decide +kernel) (br_t rfl (ty_el hi hv h))
  · exact br_f (by decide +kernel) (br_f (by decide +kernel) (ty_el hi hv h))
theorem tm_r_b {m : Int32} {d x y : Nat} (hx : x < 3) (hy : y < 3) : (tm_rN m d).testBit (3 * x + y) = (bt m (d + d * x + y) && decide (x < d ∧ y < d)) := by
  rw [← tm_bN _ (by omega : 3 * x + y < 32), ← (tm_rN_p m d).2]
  unfold tm_rl
  rw [tm_mk_b _ 9 (by omega) _ (by omega), show (3 * x + y) / 3 = x by omega, show (3 * x + y) % 3 = y by omega, decide_eq_true (by omega : 3 * x + y < 9), Bool.true_and]
theorem tm_1s {y : Nat} (hy : y < 3) : (1 : Int32) <<< (nI y &&& 31) = nI (1 <<< y) := by
  rcases (by omega : y = 0 ∨ y = 1 ∨ y = 2) with rfl | rfl | rfl
  · decide +kernel
  · decide +kernel
  · decide +kernel
theorem ty_r75 {post : Int32 → Prop} {J : Int32 → Int32 → Prop} {x1 x3 x7 fd : Int32} {s i : Nat} (h : J (nI s) (nI (i + 1))) : wY_reaches_74 post J x1 x3 (nI s) (nI i) x7 fd fh fa l k a w := by
  unfold wY_reaches_74 wY_reaches_75
  exact br_t rfl (nm_r (nI_1 i) h)
theorem ty_rch {post : Int32 → Prop} {m : Int32} {d e f : Nat} (h3 : d ≤ 3) (he : e < 3) (hf : f < 3) (h : post (tm_bi ((tm_re (tm_rN m d) e 27).testBit f))) : wpY_reaches post (nI d, fh, fa, l, k, a, w) m (nI e) (nI f) := by
  have n3 : ¬ (3 : Int32) = 0 := by decide
  unfold wpY_reaches
  refine nm_r (tm_1s he) ?_
  refine loop_0 (fun n i s => wY_reaches_8 post m (nI f) (nI d) fh fa l k a w n s (nI i)) (fun i s => s = nI (tm_re (tm_rN m d) e i)) 27 (nI (1 <<< e)) rfl ?_ ?_
  · intro n s hs
    subst hs
    refine br_t (by decide +kernel) ?_
    rw [tm_dg1 _ (by omega), tm_bN _ (by omega)]
    cases hc : (tm_re (tm_rN m d) e 27).testBit f
    · rw [hc] at h; exact br_f (by decide) h
    · rw [hc] at h; exact br_t rfl h
  · intro n i s hi hs kk
    subst hs
    have e1 : nI i / 3 = nI (i / 3) := pk_div (d := 3) (by omega) (by omega) (by omega)
    have e2 : nI (i / 3) - nI (i / 3) / 3 * 3 = nI (i / 3 % 3) := pk_rem (d := 3) (by omega) (by omega) (by omega)
    have e0 : nI i - nI i / 3 * 3 = nI (i % 3) := pk_rem (d := 3) (by omega) (by omega) (by omega)
    have hx : i / 3 % 3 < 3 := Nat.mod_lt _ (by omega)
    have hy : i % 3 < 3 := Nat.mod_lt _ (by omega)
    have rb := tm_r_b (m := m) (d := d) hx hy
    have st : tm_re (tm_rN m d) e (i + 1) = if ((tm_re (tm_rN m d) e i).testBit (i / 3 % 3) && (tm_rN m d).testBit (3 * (i / 3 % 3) + i % 3)) = true then tm_re (tm_rN m d) e i ||| (1 <<< (i % 3)) else tm_re (tm_rN m d) e i := rfl
    have no : ((tm_re (tm_rN m d) e i).testBit (i / 3 % 3) && (tm_rN m d).testBit (3 * (i / 3 % 3) + i % 3)) = false → wY_reaches_74 post (wY_reaches_8 post m (nI f) (nI d) fh fa l k a w n) m (nI f) (nI (tm_re (tm_rN m d) e i)) (nI i) (nI (i % 3)) (nI d) fh fa l k a w := by
      intro z
      rw [z, if_neg (by decide)] at st
      exact ty_r75 (kk _ (by rw [st]))
    refine br_f (nI_ge (b := 27) hi (by omega)) ⟨n3, n3, nm_r (by rw [e1, e2]) ⟨n3, nm_r e0 (pk_le d (i / 3 % 3) (fun c => no ?_) (fun c => pk_le d (i % 3) (fun c1 => no ?_) (fun c1 => ?_)))⟩⟩
    · rw [rb, decide_eq_false (by omega), Bool.and_false, Bool.and_false]
    · rw [rb, decide_eq_false (by omega), Bool.and_false, Bool.and_false]
    · rw [decide_eq_true (by omega : i / 3 % 3 < d ∧ i % 3 < d), Bool.and_true] at rb
      rw [tm_dg1 _ (by omega), tm_bN _ (by omega)]
      have e3 : d * (i / 3 % 3) ≤ 3 * 2 := Nat.mul_le_mul h3 (by omega)
      refine br_c (fun c2 => ty_rel (by omega) (tm_br (fun hb => no ?_) (fun hb => ?_))) (fun c2 => no ?_)
      · rw [rb, hb, Bool.and_false]
      · unfold wY_reaches_75
        rw [rb, hb, c2, Bool.and_self, if_pos rfl] at st
        refine br_f (by decide) (nm_r ?_ (nm_r (nI_1 i) (kk _ rfl)))
        rw [tm_1s hy, nx_or, st]
      · rw [Bool.eq_false_iff.mpr c2, Bool.false_and]
theorem ty_atom {post : Int32 → Prop} {m : Int32} {d K A i : Nat} (h3 : d ≤ 3) (hK : K < 4) (ok : tm_ok (K, A)) (hi : i < 27) (hil : tm_il d i = true) (h : post (tm_bi (tm_pr K m d (tm_el i (tm_v K A)) (tm_el i (tm_w K A))))) : wpY_atom post (nI d, fh, fa, l, k, a, w) (nI K) (nI A) m (nI i) := by
  have n3 : ¬ (3 : Int32) = 0 := by decide
  obtain ⟨hv, hw, hA⟩ := tm_vw ok hK
  have ev : nI A / 3 = nI (A / 3) := pk_div (d := 3) (by omega) (by omega) (by omega)
  have ew : nI A - nI A / 3 * 3 = nI (A % 3) := pk_rem (d := 3) (by omega) (by omega) (by omega)
  have lv := tm_el_lt i hi _ hv
  have lw := tm_el_lt i hi _ hw
  have x1 := tm_il_v hil hv
  have x2 := tm_il_v hil hw
  unfold wpY_atom
  dsimp only
  rw [ev]
  rw [ev] at ew
  rw [ew]
  rcases (by omega : K = 0 ∨ K = 1 ∨ K = 2 ∨ K = 3) with rfl | rfl | rfl | rfl
  · refine br_t rfl (ty_el hi hv ?_)
    rw [tm_dg1 m (show tm_el i A < 32 from Nat.lt_trans lv (by decide))]
    have h : post (tm_bi (bt m (tm_el i A))) := h
    cases hc : bt m (tm_el i A)
    · rw [hc] at h
      exact br_f (by decide) h
    · rw [hc] at h
      exact br_t rfl h
  · have e3 : d * tm_el i (A / 3) ≤ 3 * 2 := Nat.mul_le_mul h3 (by have : tm_el i (A / 3) < 3 := lv; omega)
    have e4 : tm_el i (A % 3) < 3 := lw
    exact br_f (by decide +kernel) ⟨n3, ty_el hi hv ⟨n3, ty_el hi hw (br_t rfl (ty_rel (by omega) ⟨tm_nn _, h⟩))⟩⟩
  · refine br_f (by decide +kernel) ⟨n3, ty_el hi hv ⟨n3, ty_el hi hw (br_f (by decide +kernel) (br_t rfl ?_))⟩⟩
    have e3 : tm_el i (A / 3) < 3 := lv
    have e4 : tm_el i (A % 3) < 3 := lw
    have h : post (tm_bi (decide (tm_el i (A / 3) = tm_el i (A % 3)))) := h
    refine pk_eq (tm_el i (A / 3)) (tm_el i (A % 3)) (fun c => ?_) (fun c => ?_)
    · rw [decide_eq_true c] at h; exact h
    · rw [decide_eq_false c] at h; exact h
  · exact br_f (by decide +kernel) ⟨n3, ty_el hi hv ⟨n3, ty_el hi hw (br_f (by decide +kernel) (br_f (by decide +kernel) (ty_rch h3 lv lw ⟨tm_nn _, h⟩)))⟩⟩
theorem ty_atoms {post : Int32 → Prop} {m : Int32} {d K A : Nat} (h3 : d ≤ 3) (hK : K < 4) (ok : tm_ok (K, A)) (h : post (tm_at K A m d)) : wpY_atoms post (nI d, fh, fa, l, k, a, w) (nI K) (nI A) m := by
  unfold wpY_atoms
  refine loop_0 (fun n i s => wY_atoms_6 post (nI K) (nI A) m (nI d) fh fa l k a w n s (nI i)) (fun i s => s = tm_mk (fun i => tm_il d i && tm_pr K m d (tm_el i (tm_v K A)) (tm_el i (tm_w K A))) i) 27 0 rfl ?_ ?_
  · intro n s hs
    subst hs
    exact br_t (by decide +kernel) h
  · intro n i s hi hs kk
    subst hs
    refine br_f (nI_ge (b := 27) hi (by omega)) (ty_isl h3 hi (tm_br (fun hb => nm_r (nI_1 i) (kk _ ?_)) (fun hb => ty_atom h3 hK ok hi hb (tm_br (fun hc => nm_r (nI_1 i) (kk _ ?_)) (fun hc => nm_r ?_ (nm_r (nI_1 i) (kk _ rfl)))))))
    · rw [tm_mk_s, hb, Bool.false_and, if_neg (by decide)]
    · rw [tm_mk_s, hc, Bool.and_false, if_neg (by decide)]
    · rw [tm_mk_s, hb, hc, Bool.and_true, if_pos rfl]
theorem tm_addb (c : Nat) (b : Bool) : nI c + (if b = true then (1 : Int32) else 0) = nI (c + (if b = true then 1 else 0)) := by
  cases b
  · exact Int32.add_zero _
  · exact nI_1 c
theorem ty_cnt19 {post : Int32 → Prop} {J : Int32 → Int32 → Prop} {x s : Int32} {d v q i : Nat} (h3 : d ≤ 3) (hv : v < 3) (hq : q ≤ 3) (hi : i < 27)
    (h : J (tm_set (tm_il d i && decide (q ≤ tm_cn (fun e => bt x (tm_wi i v e)) d)) i s) (nI (i + 1))) : ∃ n, wY_counted_19 post J x (nI v) (nI q) s (nI i) (nI d) fh fa l k a w n 0 0 := by
  refine loop_0 (fun n j c => wY_counted_19 post J x (nI v) (nI q) s (nI i) (nI d) fh fa l k a w n c (nI j)) (fun j c => c = nI (tm_cn (fun e => bt x (tm_wi i v e)) j)) d 0 rfl ?_ ?_
  · intro n c hc
    subst hc
    have hl := tm_cn_le (fun e => bt x (tm_wi i v e)) d
    refine br_t (nI_le (Nat.le_refl d) (by omega)) (ty_isl h3 hi (tm_br (fun hb => nm_r (nI_1 i) ?_) (fun hb => pk_lt (tm_cn (fun e => bt x (tm_wi i v e)) d) q (fun z => nm_r (nI_1 i) ?_) (fun z => nm_e (nm_r (nI_1 i) ?_)))))
    · rw [hb] at h; exact h
    · rw [decide_eq_false (by omega), Bool.and_false] at h; exact h
    · rw [hb, decide_eq_true z] at h; exact h
  · intro n j c hj hc kk
    subst hc
    have hw := (tm_wi_el i hi v hv j (by omega)).2
    refine br_f (nI_ge hj (by omega)) (ty_wi hi hv (by omega) (nm_r ?_ (nm_r (nI_1 j) (kk _ rfl))))
    rw [tm_dg x (by omega), tm_addb, tm_cn_s]
theorem ty_cnt {post : Int32 → Prop} {x : Int32} {d v q : Nat} (h3 : d ≤ 3) (hv : v < 3) (hq : q ≤ 3) (h : post (tm_ct d q v x)) : wpY_counted post (nI d, fh, fa, l, k, a, w) x (nI v) (nI q) := by
  unfold wpY_counted
  refine loop_0 (fun n i s => wY_counted_6 post x (nI v) (nI q) (nI d) fh fa l k a w n s (nI i)) (fun i s => s = tm_mk (fun i => tm_il d i && decide (q ≤ tm_cn (fun e => bt x (tm_wi i v e)) d)) i) 27 0 rfl ?_ ?_
  · intro n s hs
    subst hs
    exact br_t (by decide +kernel) h
  · intro n i s hi hs kk
    subst hs
    exact br_f (nI_ge (b := 27) hi (by omega)) (ty_cnt19 h3 hv hq hi (kk _ rfl))
theorem ty_cmb {post : Int32 → Prop} {d K : Nat} {f g : Int32} (h0 : 0 < d) (h3 : d ≤ 3) (h5 : 5 ≤ K) (h8 : K ≤ 8) (h : post (tm_cb d K f g)) : wpY_combined post (nI d, fh, fa, l, k, a, w) (nI K) f g := by
  unfold wpY_combined
  refine ty_all h0 h3 ?_
  rcases (by omega : K = 5 ∨ K = 6 ∨ K = 7 ∨ K = 8) with rfl | rfl | rfl | rfl
  · exact br_f (by decide +kernel) (br_f (by decide +kernel) (br_t rfl h))
  · exact br_f (by decide +kernel) (br_f (by decide +kernel) (br_f (by decide +kernel) (br_t rfl h)))
  · exact br_f (by decide +kernel) (br_f (by decide +kernel) (br_f (by decide +kernel) (br_f (by decide +kernel) (br_t rfl h))))
  · exact br_f (by decide +kernel) (br_t (by decide +kernel) h)
end
end
section
/-! the reference: the value of a stored formula -/
theorem ty_lo11 {post : Int32 → SY → Prop} {fh fa m : Int32} {k a l : Nat → Int32} {sl d N : Nat} (hs : sl < 12) (h0 : 0 < d) (h3 : d ≤ 3) (hN : N ≤ 24) (hlN : l sl = nI N) :
    ∀ (L : List (Nat × Nat)) (t : Nat) (s : List Int32) (w : Nat → Int32) (n : Nat), tm_ce k a (24 * sl + t) L → tm_wf L s.length 1 → s.length ≤ t → t + L.length = N → L.length < n → tm_sk w s →
      (∀ w', tm_sk w' (tm_ev m d L s) → post (w' 0) (nI d, fh, fa, l, k, a, w')) → wY_listsOf_11 post (nI sl) m (tm_dom d) (nI d) fh fa n (nI s.length) (nI t) l k a w := by
  intro L
  induction L with
  | nil =>
    intro t s w n hc hw ht hl hn hk hp
    rw [List.length_nil] at hl hn
    obtain ⟨n, rfl⟩ : ∃ q, n = q + 1 := ⟨n - 1, by omega⟩
    refine ⟨vp_in_nI hs (by omega), br_t ?_ (hp w hk)⟩
    rw [nI_clamp (by omega), hlN]
    exact nI_le (by omega) (by omega)
  | cons tk r ih =>
    intro t s w n hc hw ht hl hn hk hp
    obtain ⟨K, A⟩ := tk
    rw [List.length_cons] at hl hn
    obtain ⟨n, rfl⟩ : ∃ q, n = q + 1 := ⟨n - 1, by omega⟩
    have e1 : (24 * nI sl) + nI t = nI (24 * sl + t) := by rw [show (24 : Int32) = nI 24 from rfl, pk_mul, nI_add]
    have hin : vp_in ((24 * nI sl) + nI t) 288 := by rw [e1]; exact vp_in_nI (by omega) (by omega)
    have ec : ((24 * nI sl) + nI t).toNatClampNeg = 24 * sl + t := by rw [e1]; exact nI_clamp (by omega)
    obtain ⟨⟨hK, hA⟩, hc'⟩ := hc
    obtain ⟨hok, htk, hw'⟩ := hw
    have hK11 := hok.1
    dsimp only at hK hA htk hw' hK11
    refine ⟨vp_in_nI hs (by omega), br_f ?_ ⟨hin, nm_r (e' := nI K) (by rw [ec]; exact hK) ⟨hin, ?_⟩⟩⟩
    · rw [nI_clamp (by omega), hlN]
      exact nI_ge (by omega) (by omega)
    intro y hy
    rw [ec] at hy
    by_cases c1 : K < 4
    · have z : tm_tk K = 0 := if_pos c1
      have hyA := hy.trans (hA (Or.inl c1))
      subst hyA
      rw [z] at hw'
      have es : tm_st m d (K, A) s = tm_at K A m d :: s := if_pos c1
      refine br_f (nI_ge (b := 4) c1 (by omega)) (ty_atoms h3 c1 hok ⟨vp_in_nI (by omega) (by omega), nm_r (by rw [nI_clamp (by omega)]) (nm_r (nI_1 _) (nm_r (nI_1 t) ?_))⟩)
      exact ih (t + 1) (tm_at K A m d :: s) _ n hc' hw' (by rw [List.length_cons]; omega) (by omega) (by omega) (tm_sk_push hk) (fun w' h' => hp w' (by
        show tm_sk w' (tm_ev m d r (tm_st m d (K, A) s))
        rw [es]; exact h'))
    · refine br_t (nI_le (a := 4) (by omega) (by omega)) ?_
      by_cases c2 : K = 4
      · subst c2
        match s, ht, hk, hp, htk, hw' with
        | [], _, _, _, htk, _ => exact absurd htk (by decide)
        | x :: q, ht, hk, hp, htk, hw' =>
          rw [List.length_cons] at ht
          have e3 : nI (x :: q).length - 1 = nI q.length := nI_pred _
          have w1 : w (nI q.length).toNatClampNeg = x := by rw [nI_clamp (by omega)]; exact hk.1
          refine br_t rfl ?_
          rw [e3, w1]
          refine ⟨vp_in_nI (by omega) (by omega), vp_in_nI (by omega) (by omega), nm_r (e' := upd w q.length (tm_not d x)) (by rw [nI_clamp (by omega)]; rfl) (nm_r (nI_1 t) ?_)⟩
          exact ih (t + 1) (tm_not d x :: q) _ n hc' hw' (by rw [List.length_cons]; omega) (by omega) (by omega) (tm_sk_push hk.2) hp
      · refine br_f (by rw [show (4 : Int32) = nI 4 from rfl, nI_eq (by omega) (by omega)]; exact c2) ?_
        by_cases c3 : K < 9
        · have z : tm_tk K = 2 := by unfold tm_tk; rw [if_neg c1, if_pos (by omega)]
          rw [z] at hw' htk
          match s, ht, hk, hp, htk, hw' with
          | [], _, _, _, htk, _ => exact absurd htk (by decide)
          | [_], _, _, _, htk, _ => exact absurd htk (show ¬ 2 ≤ 1 by decide)
          | x :: v :: q, ht, hk, hp, htk, hw' =>
            rw [List.length_cons, List.length_cons] at ht
            have es : tm_st m d (K, A) (x :: v :: q) = tm_cb d K v x :: q := by
              unfold tm_st
              rw [if_neg c1, if_neg c2, if_pos c3]
              rfl
            have e3 : nI (x :: v :: q).length - 1 = nI (q.length + 1) := nI_pred _
            have e4 : nI (x :: v :: q).length - 2 = nI q.length := pk_sub (a := q.length + 2) (b := 2) (by omega)
            have e5 : nI (x :: v :: q).length + (-1) = nI (q.length + 1) := pk_m1 _
            have w1 : w (nI q.length).toNatClampNeg = v := by rw [nI_clamp (by omega)]; exact hk.2.1
            have w2 : w (nI (q.length + 1)).toNatClampNeg = x := by rw [nI_clamp (by omega)]; exact hk.1
            refine br_f (nI_ge (b := 9) c3 (by omega)) ?_
            rw [e3, e4, w1, w2]
            refine ⟨vp_in_nI (by omega) (by omega), vp_in_nI (by omega) (by omega), ty_cmb h0 h3 (by omega) (by omega) ⟨vp_in_nI (by omega) (by omega), nm_r (by rw [nI_clamp (by omega)]) (nm_r e5 (nm_r (nI_1 t) ?_))⟩⟩
            exact ih (t + 1) (tm_cb d K v x :: q) _ n hc' hw' (by rw [List.length_cons]; omega) (by omega) (by omega) (tm_sk_push hk.2.2) (fun w' h' => hp w' (by
              show tm_sk w' (tm_ev m d r (tm_st m d (K, A) (x :: v :: q)))
              rw [es]; exact h'))
        · have z : tm_tk K = 1 := by unfold tm_tk; rw [if_neg c1, if_neg (by omega)]
          have hA6 : A < 6 := by
            have a1 := hok.2.1
            have a2 := hok.2.2.2
            dsimp only at a1 a2
            rcases (by omega : K = 9 ∨ K = 10 ∨ K = 11) with e | e | e
            · have := a1 (Or.inr (Or.inl e)); omega
            · have := a1 (Or.inr (Or.inr e)); omega
            · exact a2 e
          have hyA := hy.trans (hA (Or.inr (by omega)))
          subst hyA
          rw [z] at hw' htk
          match s, ht, hk, hp, htk, hw' with
          | [], _, _, _, htk, _ => exact absurd htk (by decide)
          | x :: q, ht, hk, hp, htk, hw' =>
            rw [List.length_cons] at ht
            have hls := tm_ls_r (K := K) h0 h3 hA6
            have es : tm_st m d (K, A) (x :: q) = tm_ct d (tm_ls K A d) (A % 3) x :: q := by
              unfold tm_st
              rw [if_neg c1, if_neg c2, if_neg c3]
              rfl
            have e3 : nI (x :: q).length - 1 = nI q.length := nI_pred _
            have w1 : w (nI q.length).toNatClampNeg = x := by rw [nI_clamp (by omega)]; exact hk.1
            have w3 : nI A - nI A / 3 * 3 = nI (A % 3) := pk_rem (d := 3) (by omega) (by omega) (by omega)
            have w4 : 2 + nI A / 3 = nI (2 + A / 3) := by
              rw [show nI A / 3 = nI (A / 3) from pk_div (d := 3) (by omega) (by omega) (by omega), show (2 : Int32) = nI 2 from rfl, nI_add]
            have g : wY_listsOf_181 post (wY_listsOf_11 post (nI sl) m (tm_dom d) (nI d) fh fa n) (nI sl) m (nI (x :: q).length) (tm_dom d) (nI t) (nI A) (nI (tm_ls K A d)) (nI d) fh fa l k a w := by
              unfold wY_listsOf_181
              rw [e3, w1, w3]
              refine ⟨vp_in_nI (by omega) (by omega), by decide, ty_cnt h3 (by omega) hls.2 ⟨vp_in_nI (by omega) (by omega), nm_r (by rw [nI_clamp (by omega)]) (nm_r (nI_1 t) ?_)⟩⟩
              exact ih (t + 1) (tm_ct d (tm_ls K A d) (A % 3) x :: q) _ n hc' hw' (by rw [List.length_cons]; omega) (by omega) (by omega) (tm_sk_push hk.2) (fun w' h' => hp w' (by
                show tm_sk w' (tm_ev m d r (tm_st m d (K, A) (x :: q)))
                rw [es]; exact h'))
            refine br_t (nI_le (a := 9) (by omega) (by omega)) ?_
            rcases (by omega : K = 9 ∨ K = 10 ∨ K = 11) with rfl | rfl | rfl
            · exact br_t rfl g
            · exact br_f (by decide +kernel) (br_t rfl g)
            · refine br_f (by decide +kernel) (br_f (by decide +kernel) ⟨by decide, ?_⟩)
              rw [w4]
              exact g
theorem ty_lo {post : Int32 → SY → Prop} {fh fa m y : Int32} {k a l w : Nat → Int32} {d : Nat} {F : Nat → List (Nat × Nat)} {S : Nat → Prop} (sl : Nat) (hy : y = nI sl) (hS : S sl) (h0 : 0 < d) (h3 : d ≤ 3) (har : tm_ar k a l F S) (hgd : tm_gd F S) (h : ∀ w', post (tm_tv m d (F sl)) (nI d, fh, fa, l, k, a, w')) : wpY_listsOf post (nI d, fh, fa, l, k, a, w) y m := by
  subst hy
  obtain ⟨hs, h1, h24, hw⟩ := hgd sl hS
  obtain ⟨hl, hc⟩ := har sl hS
  unfold wpY_listsOf
  refine ty_all h0 h3 ⟨(F sl).length + 1, ty_lo11 hs h0 h3 h24 hl (F sl) 0 [] w _ hc hw (Nat.le_refl _) (Nat.zero_add _) (by omega) True.intro (fun w' h' => ?_)⟩
  rw [tm_sk_tv hw h']
  exact h w'
theorem ty_val {post : Int32 → SY → Prop} {fh fa m y : Int32} {k a l w : Nat → Int32} {d : Nat} {F : Nat → List (Nat × Nat)} {S : Nat → Prop} (sl : Nat) (hy : y = nI sl) (hS : S sl) (h0 : 0 < d) (h3 : d ≤ 3) (har : tm_ar k a l F S) (hgd : tm_gd F S) (h : ∀ w', post (tm_bi (tm_va m d (F sl))) (nI d, fh, fa, l, k, a, w')) : wpY_isValid post (nI d, fh, fa, l, k, a, w) y m := by
  unfold wpY_isValid
  refine ty_lo sl hy hS h0 h3 har hgd (fun w' => ty_all h0 h3 (br_c (fun e => ?_) (fun e => ?_)))
  · have g := h w'
    unfold tm_va at g
    rw [decide_eq_true e] at g
    exact g
  · have g := h w'
    unfold tm_va at g
    rw [decide_eq_false e] at g
    exact g
theorem ty_fit {post : Int32 → SY → Prop} {fh m ex : Int32} {k a l w : Nat → Int32} {x d : Nat} {F : Nat → List (Nat × Nat)} {S : Nat → Prop} (hx : x ≤ 6) (hS : ∀ i, i < x → S (6 + i)) (h0 : 0 < d) (h3 : d ≤ 3) (har : tm_ar k a l F S) (hgd : tm_gd F S) (h : ∀ w', post (tm_bi (tm_sa F x d ex m)) (nI d, fh, nI x, l, k, a, w')) : wpY_fits post (nI d, fh, nI x, l, k, a, w) m ex := by
  unfold wpY_fits
  refine loop_0 (fun n i (s : Nat → Int32) => wY_fits_2 post m ex n (nI i) (nI d) fh (nI x) l k a s) (fun i _ => ∀ j, j < i → (decide (nI j = ex) || tm_va m d (F (6 + j))) = true) x w (fun j hj => absurd hj (by omega)) ?_ ?_
  · intro n s hI
    have e : tm_sa F x d ex m = true := tm_al_t.mpr hI
    have g := h s
    rw [e] at g
    exact br_t (nI_le (Nat.le_refl x) (by omega)) g
  · intro n i s hi hI kk
    refine br_f (nI_ge hi (by omega)) (br_c (fun e => ?_) (fun e => ?_))
    · refine nm_r (nI_1 i) (kk s (lt_s hI ?_))
      rw [decide_eq_true e]; rfl
    · refine ty_val (6 + i) (nI_add 6 i) (hS i hi) h0 h3 har hgd (fun w' => tm_br (fun z => ?_) (fun z => ?_))
      · have e2 : tm_sa F x d ex m = false := tm_al_f hi (by rw [decide_eq_false e, z]; rfl)
        have g := h w'
        rw [e2] at g
        exact g
      · refine nm_r (nI_1 i) (kk w' (lt_s hI ?_))
        rw [z, Bool.or_true]
end
section
/-! the component: loops over interpretations and maps -/
def tm_I (d h x : Nat) (F : Nat → List (Nat × Nat)) : Prop := 0 < d ∧ d ≤ 3 ∧ h ≤ 6 ∧ x ≤ 6 ∧ tm_gd F (tm_lv h x)
theorem tm_lvx (h : Nat) {x i : Nat} (hi : i < x) : tm_lv h x (6 + i) := Or.inr ⟨by omega, by omega⟩
theorem tm_cnf {p : Nat → Bool} {i : Nat} (hb : p i = false) : tm_cn p i = tm_cn p (i + 1) := by rw [tm_cn_s, hb]; rfl
theorem tm_cnt {p : Nat → Bool} {i : Nat} (hb : p i = true) : tm_cn p i + 1 = tm_cn p (i + 1) := by rw [tm_cn_s, hb]; rfl
def tm_an (p : Nat → Bool) : Nat → Bool
  | 0 => false
  | n + 1 => tm_an p n || p n
theorem tm_an_s (p : Nat → Bool) (n : Nat) : tm_an p (n + 1) = (tm_an p n || p n) := rfl
theorem tm_an_t {p : Nat → Bool} {n i : Nat} (hi : i < n) (h : p i = true) : tm_an p n = true := by
  induction n with
  | zero => omega
  | succ n ih =>
    rw [tm_an_s]
    by_cases e : i = n
    · subst e; rw [h, Bool.or_true]
    · rw [ih (by omega), Bool.true_or]
theorem tm_an_f {p : Nat → Bool} : ∀ {n : Nat}, (∀ i, i < n → p i = false) → tm_an p n = false := by
  intro n
  induction n with
  | zero => intro _; rfl
  | succ n ih => intro h; rw [tm_an_s, ih (fun i hi => h i (by omega)), h n (by omega)]; rfl
theorem tx_isI0 {post : Int32 → Prop} {d : Nat} {f2 f3 v1 : Int32} {k a l w : Nat → Int32} (h0 : 0 < d) (h3 : d ≤ 3) (hv : v1 < 0 ∨ nI (tm_N d) ≤ v1) (h : post 0) : wpX_isInterpretation post (nI d, f2, f3, k, a, l, w) v1 := by
  unfold wpX_isInterpretation
  refine br_c (fun _ => h) (fun z => tx_int h0 h3 (br_t (hv.resolve_left z) h))
theorem tx_isI1 {post : Int32 → Prop} {d M : Nat} {f2 f3 : Int32} {k a l w : Nat → Int32} (h0 : 0 < d) (h3 : d ≤ 3) (hv : M < tm_N d) (h : post 1) : wpX_isInterpretation post (nI d, f2, f3, k, a, l, w) (nI M) := by
  have hN := tm_N_le d (by omega)
  unfold wpX_isInterpretation
  exact br_f (nI_pos (by omega)) (tx_int h0 h3 (br_f (nI_ge hv (by omega)) h))
theorem tx_models {post : Int32 → SX → Prop} {d h x : Nat} {F : Nat → List (Nat × Nat)} {k a l w : Nat → Int32} (G : tm_I d h x F) (har : tm_ar k a l F (tm_lv h x))
    (hp : ∀ w', post (nI (tm_cn (fun m => tm_sa F x d (-1) (nI m)) (tm_N d))) (nI d, nI h, nI x, k, a, l, w')) : wpX_models post (nI d, nI h, nI x, k, a, l, w) := by
  obtain ⟨h0, h3, hh, hx, hgd⟩ := G
  have hN := tm_N_le d (by omega)
  unfold wpX_models
  refine tx_int h0 h3 ?_
  refine loop_0 (fun n i (s : Int32 × (Nat → Int32)) => wX_models_12 post (nI (tm_N d)) n s.1 (nI i) (nI d) (nI h) (nI x) k a l s.2) (fun i s => s.1 = nI (tm_cn (fun m => tm_sa F x d (-1) (nI m)) i)) (tm_N d) (0, w) rfl ?_ ?_
  · intro n s hs
    obtain ⟨c, w2⟩ := s
    cases (show c = _ from hs)
    exact br_t (nI_le (Nat.le_refl _) (by omega)) (hp w2)
  · intro n i s hi hs kk
    obtain ⟨c, w2⟩ := s
    cases (show c = _ from hs)
    refine br_f (nI_ge hi (by omega)) (tx_sat hx (fun i hi => tm_lvx h hi) h0 h3 har hgd (fun w3 => tm_br (fun hb => nm_r (nI_1 i) (kk (_, w3) ?_)) (fun hb => nm_r (nI_1 _) (nm_r (nI_1 i) (kk (_, w3) ?_)))))
    · exact congrArg nI (tm_cnf (p := fun m => tm_sa F x d (-1) (nI m)) hb)
    · exact congrArg nI (tm_cnt (p := fun m => tm_sa F x d (-1) (nI m)) hb)
theorem tx_least8 {post : Int32 → SX → Prop} {f1 f2 : Int32} {d h x : Nat} {F : Nat → List (Nat × Nat)} {k a l : Nat → Int32} (h0 : 0 < d) (h3 : d ≤ 3) (hx : x ≤ 6) (hgd : tm_gd F (tm_lv h x)) (har : tm_ar k a l F (tm_lv h x)) :
    ∀ (r i : Nat) (w : Nat → Int32) (n : Nat), i + r = tm_N d → r < n → (∀ w', post (tm_fi (fun m => tm_sa F x d (-1) (nI m)) r i) (f1, f2, nI x, k, a, l, w')) → wX_leastModel_8 post (nI d) (nI (tm_N d)) n (nI i) f1 f2 (nI x) k a l w := by
  have hN := tm_N_le d (by omega)
  intro r
  induction r with
  | zero =>
    intro i w n hi hn hp
    obtain ⟨n, rfl⟩ : ∃ q, n = q + 1 := ⟨n - 1, by omega⟩
    exact br_t (nI_le (by omega) (by omega)) (hp w)
  | succ r ih =>
    intro i w n hi hn hp
    obtain ⟨n, rfl⟩ : ∃ q, n = q + 1 := ⟨n - 1, by omega⟩
    refine br_f (nI_ge (by omega) (by omega)) (tx_sat hx (fun i hi => tm_lvx h hi) h0 h3 har hgd (fun w3 => tm_br (fun hb => nm_r (nI_1 i) (ih (i + 1) w3 n (by omega) (by omega) (fun w' => ?_))) (fun hb => ?_)))
    · have g := hp w'
      rw [tm_fi_s, if_neg (by rw [hb]; decide)] at g
      exact g
    · have g := hp w3
      rw [tm_fi_s, if_pos hb] at g
      exact g
theorem tx_least {post : Int32 → SX → Prop} {f1 f2 v1 : Int32} {d h x : Nat} {F : Nat → List (Nat × Nat)} {k a l w : Nat → Int32} (i : Nat) (hv : v1 = nI i) (hi : i ≤ tm_N d) (h0 : 0 < d) (h3 : d ≤ 3) (hx : x ≤ 6) (hgd : tm_gd F (tm_lv h x)) (har : tm_ar k a l F (tm_lv h x))
    (hp : ∀ w', post (tm_fi (fun m => tm_sa F x d (-1) (nI m)) (tm_N d - i) i) (f1, f2, nI x, k, a, l, w')) : wpX_leastModel post (f1, f2, nI x, k, a, l, w) v1 (nI d) := by
  subst hv
  unfold wpX_leastModel
  exact tx_int h0 h3 ⟨tm_N d + 1, tx_least8 h0 h3 hx hgd har (tm_N d - i) i w _ (by omega) (by omega) hp⟩
theorem tx_next {post : Int32 → SX → Prop} {v1 : Int32} {d h x : Nat} {F : Nat → List (Nat × Nat)} {k a l w : Nat → Int32} (G : tm_I d h x F) (har : tm_ar k a l F (tm_lv h x))
    (hp : ∀ w', post (tm_nx (fun m => tm_sa F x d (-1) (nI m)) v1 (tm_N d)) (nI d, nI h, nI x, k, a, l, w')) : wpX_next post (nI d, nI h, nI x, k, a, l, w) v1 := by
  obtain ⟨h0, h3, hh, hx, hgd⟩ := G
  have hN := tm_N_le d (by omega)
  unfold wpX_next
  rcases pk_ix v1 (n := tm_N d) (by omega) with c | c | ⟨j, hj, rfl⟩
  · rw [tm_nx_neg hN c] at hp
    exact br_f (Int32.not_le.mpr c) (tx_least 0 rfl (by omega) h0 h3 hx hgd har hp)
  · rw [tm_nx_big hN c] at hp
    exact br_t (Int32.le_trans (nI_pos' (n := tm_N d) (by omega)) c) (tx_int h0 h3 (br_f (Int32.not_lt.mpr c) (hp w)))
  · rw [tm_nx_in hN hj] at hp
    exact br_t (nI_pos' (by omega)) (tx_int h0 h3 (br_t (nI_lt hj (by omega)) (tx_least (j + 1) (nI_1 j) (by omega) h0 h3 hx hgd har hp)))
theorem tx_img {post : Int32 → Prop} {q e : Nat} (hq : q < 27) (he : e < 3) (h : post (nI (tm_el q e))) : wpX_image post (nI q) (nI e) := by
  have n3 : ¬ (3 : Int32) = 0 := by decide
  have e0 : nI q - nI q / 3 * 3 = nI (q % 3) := pk_rem (d := 3) (by omega) (by omega) (by omega)
  have e1 : nI q / 3 = nI (q / 3) := pk_div (d := 3) (by omega) (by omega) (by omega)
  have e2 : nI (q / 3) - nI (q / 3) / 3 * 3 = nI (q / 3 % 3) := pk_rem (d := 3) (by omega) (by omega) (by omega)
  have e3 : nI q / 9 = nI (q / 9) := pk_div (d := 9) (by omega) (by omega) (by omega)
  have e4 : nI (q / 9) - nI (q / 9) / 3 * 3 = nI (q / 9 % 3) := pk_rem (d := 3) (by omega) (by omega) (by omega)
  have e5 : q / 9 % 3 = q / 9 := by omega
  unfold wpX_image
  rw [e0, e1, e2, e3, e4, e5]
  rcases (by omega : e = 0 ∨ e = 1 ∨ e = 2) with rfl | rfl | rfl
  · exact br_t rfl ⟨n3, h⟩
  · exact br_f (by decide +kernel) (br_t rfl ⟨n3, n3, h⟩)
  · exact br_f (by decide +kernel) (br_f (by decide +kernel) ⟨by decide, n3, h⟩)
theorem tx_oo {post : Int32 → Prop} {q d : Nat} (hq : q < 27) (h3 : d ≤ 3) (h : post (tm_bi (tm_oo q d))) : wpX_isOneToOne post (nI q) (nI d) := by
  have l0 := tm_el_lt q hq 0 (by omega)
  have l1 := tm_el_lt q hq 1 (by omega)
  have l2 := tm_el_lt q hq 2 (by omega)
  unfold tm_oo at h
  unfold wpX_isOneToOne wX_isOneToOne_48
  refine tx_img (e := 0) hq (by omega) (tx_img (e := 1) hq (by omega) (tx_img (e := 2) hq (by omega) ?_))
  refine pk_eq (tm_el q 0) (tm_el q 1) (fun c => ?_) (fun c => pk_eq (tm_el q 0) (tm_el q 2) (fun c1 => ?_) (fun c1 => pk_eq (tm_el q 1) (tm_el q 2) (fun c2 => ?_) (fun c2 => pk_lt 1 d (fun c3 => pk_lt 2 d (fun c4 => ?_) (fun c4 => pk_eq (tm_el q 2) 2 (fun c5 => ?_) (fun c5 => ?_))) (fun c3 => pk_eq (tm_el q 1) 1 (fun c6 => pk_lt 2 d (fun c4 => ?_) (fun c4 => pk_eq (tm_el q 2) 2 (fun c5 => ?_) (fun c5 => ?_))) (fun c6 => ?_)))))
  · simpa [c, tm_bi] using h
  · simpa [c1, tm_bi] using h
  · simpa [c2, tm_bi] using h
  · simpa [c, c1, c2, c3, c4, tm_bi] using h
  · have y1 : ¬ tm_el q 0 = 2 := by omega
    have y2 : ¬ tm_el q 1 = 2 := by omega
    simpa [c, y1, y2, c3, c5, tm_bi] using h
  · have c4' : ¬ 2 < d := by omega
    simpa [c, c1, c2, c3, c4', c5, tm_bi] using h
  · omega
  · have y1 : ¬ tm_el q 0 = 2 := by omega
    have y2 : ¬ tm_el q 0 = 1 := by omega
    simpa [y1, y2, c5, c6, tm_bi] using h
  · have c4' : ¬ 2 < d := by omega
    simpa [c, c1, c2, c4', c5, tm_bi] using h
  · have c3' : ¬ 1 < d := by omega
    simpa [c, c1, c2, c3', c6, tm_bi] using h
theorem tx_mv34 {post : Int32 → Prop} {J : Int32 → Int32 → Prop} {m r : Int32} {q d e : Nat} (hq : q < 27) (h3 : d ≤ 3) (he : e < d) (h : J (tm_mi m d (tm_el q) e r d) (nI (e + 1))) : ∃ n, wX_moved_34 post J m (nI q) (nI d) (nI e) (nI (tm_el q e)) n r 0 := by
  refine loop_0 (fun n i s => wX_moved_34 post J m (nI q) (nI d) (nI e) (nI (tm_el q e)) n s (nI i)) (fun i s => s = tm_mi m d (tm_el q) e r i) d r rfl ?_ ?_
  · intro n s hs
    subst hs
    exact br_t (nI_le (Nat.le_refl d) (by omega)) (nm_r (nI_1 e) h)
  · intro n i s hi hs kk
    subst hs
    have e2 : (nI d + (nI d * nI e)) + nI i = nI (d + d * e + i) := by rw [pk_mul, nI_add, nI_add]
    have e4 : (nI d + (nI d * nI (tm_el q e))) + nI (tm_el q i) = nI (d + d * tm_el q e + tm_el q i) := by rw [pk_mul, nI_add, nI_add]
    have b1 : d * e ≤ 3 * 2 := Nat.mul_le_mul h3 (by omega)
    have l1 := tm_el_lt q hq e (by omega)
    have l2 := tm_el_lt q hq i (by omega)
    have b2 : d * tm_el q e ≤ 3 * 2 := Nat.mul_le_mul h3 (by omega)
    refine br_f (nI_ge hi (by omega)) (tx_img hq (by omega) (nm_e (nm_r ?_ (nm_r (nI_1 i) (kk _ rfl)))))
    rw [e2, e4, tm_dgs _ _ (by omega) (by omega)]
    rfl
theorem tx_mv {post : Int32 → Prop} {m : Int32} {q d : Nat} (hq : q < 27) (h3 : d ≤ 3) (h : post (tm_mv m d (tm_el q) d)) : wpX_moved post m (nI q) (nI d) := by
  unfold wpX_moved
  refine loop_0 (fun n i s => wX_moved_5 post m (nI q) (nI d) n s (nI i)) (fun i s => s = tm_mv m d (tm_el q) i) d 0 rfl ?_ ?_
  · intro n s hs
    subst hs
    exact br_t (nI_le (Nat.le_refl d) (by omega)) h
  · intro n i s hi hs kk
    subst hs
    have l1 := tm_el_lt q hq i (by omega)
    refine br_f (nI_ge hi (by omega)) (tx_img hq (by omega) (nm_r (tm_dgs _ _ (by omega) (by omega)) (tx_mv34 hq h3 hi (kk _ rfl))))
def tm_lm (d : Nat) (m : Int32) : Bool := decide (tm_cn (fun q => tm_oo q d && decide (tm_mv m d (tm_el q) d < m)) 27 = 0)
theorem tx_lm {post : Int32 → Prop} {m : Int32} {d : Nat} (h3 : d ≤ 3) (h : post (tm_bi (tm_lm d m))) : wpX_isLeastOfShape post m (nI d) := by
  unfold wpX_isLeastOfShape
  refine loop_0 (fun n i (_ : Unit) => wX_isLeastOfShape_2 post m (nI d) n (nI i)) (fun i _ => ∀ j, j < i → (tm_oo j d && decide (tm_mv m d (tm_el j) d < m)) = false) 27 () (fun j hj => absurd hj (by omega)) ?_ ?_
  · intro n _ hI
    have e : tm_lm d m = true := decide_eq_true (tm_cn_0.mpr hI)
    rw [e] at h
    exact br_t (by decide +kernel) h
  · intro n i _ hi hI kk
    refine br_f (nI_ge (b := 27) hi (by omega)) (tx_oo hi h3 (tm_br (fun hb => nm_r (nI_1 i) (kk () (lt_s hI ?_))) (fun hb => tx_mv hi h3 (br_c (fun z => nm_r (nI_1 i) (kk () (lt_s hI ?_))) (fun z => ?_)))))
    · rw [hb, Bool.false_and]
    · rw [decide_eq_false (Int32.not_lt.mpr z), Bool.and_false]
    · have e : tm_lm d m = false := decide_eq_false (fun y => by
        have g := tm_cn_0.mp y i hi
        rw [hb, decide_eq_true (Int32.not_le.mp z)] at g
        exact absurd g (by decide))
      rw [e] at h
      exact h
theorem tx_mt {post : Int32 → Prop} {m o : Int32} {d : Nat} (h3 : d ≤ 3) (h : post (nI (tm_cn (fun q => tm_oo q d && decide (tm_mv m d (tm_el q) d = o)) 27))) : wpX_mapsTo post m o (nI d) := by
  unfold wpX_mapsTo
  refine loop_0 (fun n i s => wX_mapsTo_5 post m o (nI d) n s (nI i)) (fun i s => s = nI (tm_cn (fun q => tm_oo q d && decide (tm_mv m d (tm_el q) d = o)) i)) 27 0 rfl ?_ ?_
  · intro n s hs
    subst hs
    exact br_t (by decide +kernel) h
  · intro n i s hi hs kk
    subst hs
    refine br_f (nI_ge (b := 27) hi (by omega)) (tx_oo hi h3 (tm_br (fun hb => nm_r (nI_1 i) (kk _ ?_)) (fun hb => tx_mv hi h3 (br_c (fun z => nm_r (nI_1 _) (nm_r (nI_1 i) (kk _ ?_))) (fun z => nm_r (nI_1 i) (kk _ ?_))))))
    · exact congrArg nI (tm_cnf (p := fun q => tm_oo q d && decide (tm_mv m d (tm_el q) d = o)) (by rw [hb, Bool.false_and]))
    · exact congrArg nI (tm_cnt (p := fun q => tm_oo q d && decide (tm_mv m d (tm_el q) d = o)) (by rw [hb, decide_eq_true z]; rfl))
    · exact congrArg nI (tm_cnf (p := fun q => tm_oo q d && decide (tm_mv m d (tm_el q) d = o)) (by rw [hb, decide_eq_false z]; rfl))
theorem tx_shapes {post : Int32 → SX → Prop} {d h x : Nat} {F : Nat → List (Nat × Nat)} {k a l w : Nat → Int32} (G : tm_I d h x F) (har : tm_ar k a l F (tm_lv h x))
    (hp : ∀ w', post (nI (tm_cn (fun m => tm_lm d (nI m) && tm_sa F x d (-1) (nI m)) (tm_N d))) (nI d, nI h, nI x, k, a, l, w')) : wpX_shapes post (nI d, nI h, nI x, k, a, l, w) := by
  obtain ⟨h0, h3, hh, hx, hgd⟩ := G
  have hN := tm_N_le d (by omega)
  unfold wpX_shapes
  refine tx_int h0 h3 ?_
  refine loop_0 (fun n i (s : Int32 × (Nat → Int32)) => wX_shapes_12 post (nI (tm_N d)) n s.1 (nI i) (nI d) (nI h) (nI x) k a l s.2) (fun i s => s.1 = nI (tm_cn (fun m => tm_lm d (nI m) && tm_sa F x d (-1) (nI m)) i)) (tm_N d) (0, w) rfl ?_ ?_
  · intro n s hs
    obtain ⟨c, w2⟩ := s
    cases (show c = _ from hs)
    exact br_t (nI_le (Nat.le_refl _) (by omega)) (hp w2)
  · intro n i s hi hs kk
    obtain ⟨c, w2⟩ := s
    cases (show c = _ from hs)
    refine br_f (nI_ge hi (by omega)) (tx_lm h3 (tm_br (fun hb => nm_r (nI_1 i) (kk (_, w2) ?_)) (fun hb => tx_sat hx (fun i hi => tm_lvx h hi) h0 h3 har hgd (fun w3 => tm_br (fun hc => nm_r (nI_1 i) (kk (_, w3) ?_)) (fun hc => nm_r (nI_1 _) (nm_r (nI_1 i) (kk (_, w3) ?_)))))))
    · exact congrArg nI (tm_cnf (p := fun m => tm_lm d (nI m) && tm_sa F x d (-1) (nI m)) (by rw [hb, Bool.false_and]))
    · exact congrArg nI (tm_cnf (p := fun m => tm_lm d (nI m) && tm_sa F x d (-1) (nI m)) (by rw [hc, Bool.and_false]))
    · exact congrArg nI (tm_cnt (p := fun m => tm_lm d (nI m) && tm_sa F x d (-1) (nI m)) (by rw [hb, hc]; rfl))
end
section
/-! the component: further loops -/
def tm_fo (z o : Bool) : Int32 := if (z && o) = true then 2 else if o = true then 1 else if z = true then 0 else 3
theorem tx_f117 {post : Int32 → SX → Prop} {z o : Bool} {f1 f2 f3 : Int32} {k a l w : Nat → Int32} (h : post (tm_fo z o) (f1, f2, f3, k, a, l, w)) :
    (tm_bi z = 0 → wX_forced_117 post (tm_bi z) (tm_bi o) f1 f2 f3 k a l w) ∧ (¬ tm_bi z = 0 → ((tm_bi o = 0 → wX_forced_117 post (tm_bi z) (tm_bi o) f1 f2 f3 k a l w) ∧ (¬ tm_bi o = 0 → post 2 (f1, f2, f3, k, a, l, w)))) := by
  unfold wX_forced_117
  cases z <;> cases o
  · exact br_t rfl (br_t rfl (br_t rfl h))
  · exact br_t rfl (br_f (by decide) h)
  · exact br_f (by decide) (br_t rfl (br_t rfl (br_f (by decide) h)))
  · exact br_f (by decide) (br_f (by decide) h)
theorem tx_f78 {post : Int32 → SX → Prop} {J : Int32 → Int32 → Int32 → Int32 → Int32 → Int32 → (Nat → Int32) → (Nat → Int32) → (Nat → Int32) → (Nat → Int32) → Prop} {b i : Nat} {x2 z0 f1 f2 f3 : Int32} {o : Bool} {k a l w : Nat → Int32} (hb : b < 32) (h : J z0 (tm_bi (o || bt (nI i) b)) (nI (i + 1)) f1 f2 f3 k a l w) : wX_forced_78 post J (nI b) x2 (tm_bi o) (nI i) z0 f1 f2 f3 k a l w := by
  unfold wX_forced_78
  refine tm_br (fun ho => tx_dig b hb rfl (tm_br (fun hd => nm_r (nI_1 i) ?_) (fun hd => nm_r (nI_1 i) ?_))) (fun ho => nm_r (nI_1 i) ?_)
  · rw [ho, hd] at h; exact h
  · rw [ho, hd] at h; exact h
  · rw [ho, Bool.true_or] at h; exact h
theorem tx_forced40 {post : Int32 → SX → Prop} {b d h x : Nat} {F : Nat → List (Nat × Nat)} {k a l w : Nat → Int32} (hb : b < 32) (G : tm_I d h x F) (har : tm_ar k a l F (tm_lv h x))
    (hp : ∀ w', post (tm_fo (tm_an (fun m => tm_sa F x d (-1) (nI m) && !(bt (nI m) b)) (tm_N d)) (tm_an (fun m => tm_sa F x d (-1) (nI m) && bt (nI m) b) (tm_N d))) (nI d, nI h, nI x, k, a, l, w')) :
    ∃ n, wX_forced_40 post (nI b) (nI (tm_N d)) n 0 0 0 (nI d) (nI h) (nI x) k a l w := by
  obtain ⟨h0, h3, hh, hx, hgd⟩ := G
  have hN := tm_N_le d (by omega)
  refine loop_0 (fun n i (s : Int32 × Int32 × (Nat → Int32)) => wX_forced_40 post (nI b) (nI (tm_N d)) n s.1 s.2.1 (nI i) (nI d) (nI h) (nI x) k a l s.2.2)
    (fun i s => s.1 = tm_bi (tm_an (fun m => tm_sa F x d (-1) (nI m) && !(bt (nI m) b)) i) ∧ s.2.1 = tm_bi (tm_an (fun m => tm_sa F x d (-1) (nI m) && bt (nI m) b) i)) (tm_N d) (0, 0, w) ⟨rfl, rfl⟩ ?_ ?_
  · intro n s hs
    obtain ⟨z, o, w2⟩ := s
    obtain ⟨hz, ho⟩ := hs
    cases (show z = _ from hz)
    cases (show o = _ from ho)
    exact br_t (nI_le (Nat.le_refl _) (by omega)) (tx_f117 (hp w2))
  · intro n i s hi hs kk
    obtain ⟨z, o, w2⟩ := s
    obtain ⟨hz, ho⟩ := hs
    cases (show z = _ from hz)
    cases (show o = _ from ho)
    refine br_f (nI_ge hi (by omega)) (tx_sat hx (fun i hi => tm_lvx h hi) h0 h3 har hgd (fun w3 => tm_br (fun hc => nm_r (nI_1 i) (kk (_, _, w3) ⟨?_, ?_⟩)) (fun hc => ?_)))
    · exact congrArg tm_bi (by rw [tm_an_s, hc, Bool.false_and, Bool.or_false])
    · exact congrArg tm_bi (by rw [tm_an_s, hc, Bool.false_and, Bool.or_false])
    · have g1 : (tm_an (fun m => tm_sa F x d (-1) (nI m) && !(bt (nI m) b)) i || !(bt (nI i) b)) = tm_an (fun m => tm_sa F x d (-1) (nI m) && !(bt (nI m) b)) (i + 1) := by rw [tm_an_s, hc, Bool.true_and]
      have g2 : (tm_an (fun m => tm_sa F x d (-1) (nI m) && bt (nI m) b) i || bt (nI i) b) = tm_an (fun m => tm_sa F x d (-1) (nI m) && bt (nI m) b) (i + 1) := by rw [tm_an_s, hc, Bool.true_and]
      refine tm_br (fun hz => tx_dig b hb rfl (tm_br (fun hd => ?_) (fun hd => ?_))) (fun hz => ?_)
      · unfold wX_forced_73
        refine tx_f78 hb (kk (1, _, w3) ⟨?_, congrArg tm_bi g2⟩)
        rw [← g1, hz, hd]; rfl
      · refine tx_f78 hb (kk (0, _, w3) ⟨?_, congrArg tm_bi g2⟩)
        rw [← g1, hz, hd]; rfl
      · unfold wX_forced_73
        refine tx_f78 hb (kk (1, _, w3) ⟨?_, congrArg tm_bi g2⟩)
        rw [← g1, hz]; rfl
theorem tx_lists38 {post : Int32 → SX → Prop} {t f1 f2 f3 : Int32} {k a l w : Nat → Int32} (hp : post (nI (tm_cn (fun i => bt t i) 27)) (f1, f2, f3, k, a, l, w)) : ∃ n, wX_lists_38 post t f1 f2 f3 k a l w n 0 0 := by
  refine loop_0 (fun n i s => wX_lists_38 post t f1 f2 f3 k a l w n s (nI i)) (fun i s => s = nI (tm_cn (fun i => bt t i) i)) 27 0 rfl ?_ ?_
  · intro n s hs
    subst hs
    exact br_t (by decide +kernel) hp
  · intro n i s hi hs kk
    subst hs
    refine br_f (nI_ge (b := 27) hi (by omega)) (tx_dig i (by omega) rfl (tm_br (fun hb => nm_r (nI_1 i) (kk _ ?_)) (fun hb => nm_r (nI_1 _) (nm_r (nI_1 i) (kk _ ?_)))))
    · exact congrArg nI (tm_cnf (p := fun i => bt t i) hb)
    · exact congrArg nI (tm_cnt (p := fun i => bt t i) hb)
theorem tm_top {h x : Nat} (hh : 0 < h) : tm_lv h x (h - 1) := Or.inl (by omega)
theorem tm_hI {h : Nat} (hh : 0 < h) : nI h - 1 = nI (h - 1) := pk_sub (b := 1) hh
theorem tx_follows19 {post : Int32 → SX → Prop} {d h x : Nat} {F : Nat → List (Nat × Nat)} {k a l w : Nat → Int32} (h1 : 0 < h) (G : tm_I d h x F) (har : tm_ar k a l F (tm_lv h x))
    (hp : ∀ w', post (tm_bi (tm_al (fun m => !(tm_sa F x d (-1) (nI m)) || tm_va (nI m) d (F (h - 1))) (tm_N d))) (nI d, nI h, nI x, k, a, l, w')) : ∃ n, wX_follows_19 post (nI (tm_N d)) n 0 (nI d) (nI h) (nI x) k a l w := by
  obtain ⟨h0, h3, hh, hx, hgd⟩ := G
  have hN := tm_N_le d (by omega)
  refine loop_0 (fun n i (s : Nat → Int32) => wX_follows_19 post (nI (tm_N d)) n (nI i) (nI d) (nI h) (nI x) k a l s) (fun i _ => ∀ j, j < i → (!(tm_sa F x d (-1) (nI j)) || tm_va (nI j) d (F (h - 1))) = true) (tm_N d) w (fun j hj => absurd hj (by omega)) ?_ ?_
  · intro n s hI
    have g := hp s
    rw [tm_al_t.mpr hI] at g
    exact br_t (nI_le (Nat.le_refl _) (by omega)) g
  · intro n i s hi hI kk
    refine br_f (nI_ge hi (by omega)) (tx_sat hx (fun i hi => tm_lvx h hi) h0 h3 har hgd (fun w3 => tm_br (fun hc => nm_r (nI_1 i) (kk w3 (lt_s hI ?_))) (fun hc => tx_val (h - 1) (tm_hI h1) (tm_top h1) h0 h3 har hgd (fun w4 => tm_br (fun he => ?_) (fun he => nm_r (nI_1 i) (kk w4 (lt_s hI ?_)))))))
    · rw [hc]; rfl
    · have g := hp w4
      rw [tm_al_f hi (by rw [hc, he]; rfl)] at g
      exact g
    · rw [he, Bool.or_true]
theorem tx_agreeing21 {post : Int32 → SX → Prop} {d h x : Nat} {F : Nat → List (Nat × Nat)} {k a l w : Nat → Int32} (h1 : 0 < h) (G : tm_I d h x F) (har : tm_ar k a l F (tm_lv h x))
    (hp : ∀ w', post (nI (tm_cn (fun m => tm_sa F x d (-1) (nI m) && tm_va (nI m) d (F (h - 1))) (tm_N d))) (nI d, nI h, nI x, k, a, l, w')) : ∃ n, wX_agreeing_21 post (nI (tm_N d)) n 0 0 (nI d) (nI h) (nI x) k a l w := by
  obtain ⟨h0, h3, hh, hx, hgd⟩ := G
  have hN := tm_N_le d (by omega)
  refine loop_0 (fun n i (s : Int32 × (Nat → Int32)) => wX_agreeing_21 post (nI (tm_N d)) n s.1 (nI i) (nI d) (nI h) (nI x) k a l s.2) (fun i s => s.1 = nI (tm_cn (fun m => tm_sa F x d (-1) (nI m) && tm_va (nI m) d (F (h - 1))) i)) (tm_N d) (0, w) rfl ?_ ?_
  · intro n s hs
    obtain ⟨c, w2⟩ := s
    cases (show c = _ from hs)
    exact br_t (nI_le (Nat.le_refl _) (by omega)) (hp w2)
  · intro n i s hi hs kk
    obtain ⟨c, w2⟩ := s
    cases (show c = _ from hs)
    refine br_f (nI_ge hi (by omega)) (tx_sat hx (fun i hi => tm_lvx h hi) h0 h3 har hgd (fun w3 => tm_br (fun hc => nm_r (nI_1 i) (kk (_, w3) ?_)) (fun hc => tx_val (h - 1) (tm_hI h1) (tm_top h1) h0 h3 har hgd (fun w4 => tm_br (fun he => nm_r (nI_1 i) (kk (_, w4) ?_)) (fun he => nm_r (nI_1 _) (nm_r (nI_1 i) (kk (_, w4) ?_)))))))
    · exact congrArg nI (tm_cnf (p := fun m => tm_sa F x d (-1) (nI m) && tm_va (nI m) d (F (h - 1))) (by rw [hc, Bool.false_and]))
    · exact congrArg nI (tm_cnf (p := fun m => tm_sa F x d (-1) (nI m) && tm_va (nI m) d (F (h - 1))) (by rw [he, Bool.and_false]))
    · exact congrArg nI (tm_cnt (p := fun m => tm_sa F x d (-1) (nI m) && tm_va (nI m) d (F (h - 1))) (by rw [hc, he]; rfl))
theorem tm_hI2 {h : Nat} (hh : 2 ≤ h) : nI h - 2 = nI (h - 2) := pk_sub (b := 2) hh
theorem tx_alike20 {post : Int32 → SX → Prop} {d h x : Nat} {F : Nat → List (Nat × Nat)} {k a l w : Nat → Int32} (h2 : 2 ≤ h) (G : tm_I d h x F) (har : tm_ar k a l F (tm_lv h x))
    (hp : ∀ w', post (tm_bi (tm_al (fun m => !(tm_sa F x d (-1) (nI m)) || decide (tm_tv (nI m) d (F (h - 1)) = tm_tv (nI m) d (F (h - 2)))) (tm_N d))) (nI d, nI h, nI x, k, a, l, w')) : ∃ n, wX_alike_20 post (nI (tm_N d)) n 0 (nI d) (nI h) (nI x) k a l w := by
  obtain ⟨h0, h3, hh, hx, hgd⟩ := G
  have hN := tm_N_le d (by omega)
  refine loop_0 (fun n i (s : Nat → Int32) => wX_alike_20 post (nI (tm_N d)) n (nI i) (nI d) (nI h) (nI x) k a l s) (fun i _ => ∀ j, j < i → (!(tm_sa F x d (-1) (nI j)) || decide (tm_tv (nI j) d (F (h - 1)) = tm_tv (nI j) d (F (h - 2)))) = true) (tm_N d) w (fun j hj => absurd hj (by omega)) ?_ ?_
  · intro n s hI
    have g := hp s
    rw [tm_al_t.mpr hI] at g
    exact br_t (nI_le (Nat.le_refl _) (by omega)) g
  · intro n i s hi hI kk
    refine br_f (nI_ge hi (by omega)) (tx_sat hx (fun i hi => tm_lvx h hi) h0 h3 har hgd (fun w3 => tm_br (fun hc => nm_r (nI_1 i) (kk w3 (lt_s hI ?_))) (fun hc => tx_tr (h - 1) (tm_hI (by omega)) (tm_top (by omega)) h0 h3 har hgd (fun w4 => tx_tr (h - 2) (tm_hI2 h2) (Or.inl (by omega)) h0 h3 har hgd (fun w5 => br_c (fun he => nm_r (nI_1 i) (kk w5 (lt_s hI ?_))) (fun he => ?_))))))
    · rw [hc]; rfl
    · rw [decide_eq_true he, Bool.or_true]
    · have g := hp w5
      rw [tm_al_f hi (by rw [hc, decide_eq_false he]; rfl)] at g
      exact g
theorem tx_indep24 {post : Int32 → SX → Prop} {d h x j : Nat} {F : Nat → List (Nat × Nat)} {k a l w : Nat → Int32} (hj : j < x) (G : tm_I d h x F) (har : tm_ar k a l F (tm_lv h x))
    (hp : ∀ w', post (tm_bi (tm_an (fun m => !(tm_va (nI m) d (F (6 + j))) && tm_sa F x d (nI j) (nI m)) (tm_N d))) (nI d, nI h, nI x, k, a, l, w')) : ∃ n, wX_independent_24 post (nI j) (nI (tm_N d)) n 0 (nI d) (nI h) (nI x) k a l w := by
  obtain ⟨h0, h3, hh, hx, hgd⟩ := G
  have hN := tm_N_le d (by omega)
  refine loop_0 (fun n i (s : Nat → Int32) => wX_independent_24 post (nI j) (nI (tm_N d)) n (nI i) (nI d) (nI h) (nI x) k a l s) (fun i _ => ∀ q, q < i → (!(tm_va (nI q) d (F (6 + j))) && tm_sa F x d (nI j) (nI q)) = false) (tm_N d) w (fun j hj => absurd hj (by omega)) ?_ ?_
  · intro n s hI
    have g := hp s
    rw [tm_an_f hI] at g
    exact br_t (nI_le (Nat.le_refl _) (by omega)) g
  · intro n i s hi hI kk
    refine br_f (nI_ge hi (by omega)) (tx_val (6 + j) (nI_add 6 j) (tm_lvx h hj) h0 h3 har hgd (fun w3 => tm_br (fun hc => tx_sat hx (fun i hi => tm_lvx h hi) h0 h3 har hgd (fun w4 => tm_br (fun he => nm_r (nI_1 i) (kk w4 (lt_s hI ?_))) (fun he => ?_))) (fun hc => nm_r (nI_1 i) (kk w3 (lt_s hI ?_)))))
    · rw [he, Bool.and_false]
    · have g := hp w4
      rw [tm_an_t hi (by rw [hc, he]; rfl)] at g
      exact g
    · rw [hc]; rfl
def tm_hm (F : Nat → List (Nat × Nat)) (x d : Nat) : Int32 := tm_fi (fun m => tm_sa F x d (-1) (nI m)) (tm_N d) 0
def tm_sm (F : Nat → List (Nat × Nat)) (x : Nat) : Int32 := if tm_hm F x 1 ≠ -2 then 1 else if tm_hm F x 2 ≠ -2 then 2 else if tm_hm F x 3 ≠ -2 then 3 else 0
theorem tx_smallest {post : Int32 → SX → Prop} {d h x : Nat} {F : Nat → List (Nat × Nat)} {k a l w : Nat → Int32} (G : tm_I d h x F) (har : tm_ar k a l F (tm_lv h x))
    (hp : ∀ w', post (tm_sm F x) (nI d, nI h, nI x, k, a, l, w')) : wpX_smallest post (nI d, nI h, nI x, k, a, l, w) := by
  obtain ⟨h0, h3, hh, hx, hgd⟩ := G
  unfold wpX_smallest
  unfold tm_sm at hp
  refine ⟨4, br_f (by decide +kernel) (tx_least (d := 1) 0 rfl (Nat.zero_le _) (by omega) (by omega) hx hgd har (fun w1 => br_c (fun z1 => nm_r (nI_1 1) (br_f (by decide +kernel) (tx_least (d := 2) 0 rfl (Nat.zero_le _) (by omega) (by omega) hx hgd har (fun w2 => br_c (fun z2 => nm_r (nI_1 2) (br_f (by decide +kernel) (tx_least (d := 3) 0 rfl (Nat.zero_le _) (by omega) (by omega) hx hgd har (fun w3 => br_c (fun z3 => nm_r (nI_1 3) (br_t (by decide +kernel) ?_)) (fun z3 => ?_))))) (fun z2 => ?_))))) (fun z1 => ?_)))⟩
  · have g := hp w3
    rw [if_neg (fun y => y z1), if_neg (fun y => y z2), if_neg (fun y => y z3)] at g
    exact g
  · have g := hp w3
    rw [if_neg (fun y => y z1), if_neg (fun y => y z2), if_pos (show tm_hm F x 3 ≠ -2 from z3)] at g
    exact g
  · have g := hp w2
    rw [if_neg (fun y => y z1), if_pos (show tm_hm F x 2 ≠ -2 from z2)] at g
    exact g
  · have g := hp w1
    rw [if_pos (show tm_hm F x 1 ≠ -2 from z1)] at g
    exact g
end
section
/-! the reference: loops over interpretations and maps -/
theorem ty_isI0 {post : Int32 → Prop} {d : Nat} {f2 f3 v1 : Int32} {k a l w : Nat → Int32} (h0 : 0 < d) (h3 : d ≤ 3) (hv : v1 < 0 ∨ nI (tm_N d) ≤ v1) (h : post 0) : wpY_isInterpretation post (nI d, f2, f3, l, k, a, w) v1 := by
  unfold wpY_isInterpretation
  refine br_c (fun _ => h) (fun z => ty_int h0 h3 (br_t (hv.resolve_left z) h))
theorem ty_isI1 {post : Int32 → Prop} {d M : Nat} {f2 f3 : Int32} {k a l w : Nat → Int32} (h0 : 0 < d) (h3 : d ≤ 3) (hv : M < tm_N d) (h : post 1) : wpY_isInterpretation post (nI d, f2, f3, l, k, a, w) (nI M) := by
  have hN := tm_N_le d (by omega)
  unfold wpY_isInterpretation
  exact br_f (nI_pos (by omega)) (ty_int h0 h3 (br_f (nI_ge hv (by omega)) h))
theorem ty_models {post : Int32 → SY → Prop} {d h x : Nat} {F : Nat → List (Nat × Nat)} {k a l w : Nat → Int32} (G : tm_I d h x F) (har : tm_ar k a l F (tm_lv h x))
    (hp : ∀ w', post (nI (tm_cn (fun m => tm_sa F x d (-1) (nI m)) (tm_N d))) (nI d, nI h, nI x, l, k, a, w')) : wpY_models post (nI d, nI h, nI x, l, k, a, w) := by
  obtain ⟨h0, h3, hh, hx, hgd⟩ := G
  have hN := tm_N_le d (by omega)
  unfold wpY_models
  refine loop_0 (fun n i (s : Int32 × (Nat → Int32)) => wY_models_4 post n s.1 (nI i) (nI d) (nI h) (nI x) l k a s.2) (fun i s => s.1 = nI (tm_cn (fun m => tm_sa F x d (-1) (nI m)) i)) (tm_N d) (0, w) rfl ?_ ?_
  · intro n s hs
    obtain ⟨c, w2⟩ := s
    cases (show c = _ from hs)
    dsimp only
    unfold wY_models_4
    refine ty_int h0 h3 ?_
    exact br_t (nI_le (Nat.le_refl _) (by omega)) (hp w2)
  · intro n i s hi hs kk
    obtain ⟨c, w2⟩ := s
    cases (show c = _ from hs)
    dsimp only
    unfold wY_models_4
    refine ty_int h0 h3 ?_
    refine br_f (nI_ge hi (by omega)) (ty_fit hx (fun i hi => tm_lvx h hi) h0 h3 har hgd (fun w3 => tm_br (fun hb => nm_r (nI_1 i) (kk (_, w3) ?_)) (fun hb => nm_r (nI_1 _) (nm_r (nI_1 i) (kk (_, w3) ?_)))))
    · exact congrArg nI (tm_cnf (p := fun m => tm_sa F x d (-1) (nI m)) hb)
    · exact congrArg nI (tm_cnt (p := fun m => tm_sa F x d (-1) (nI m)) hb)
theorem ty_next2 {post : Int32 → SY → Prop} {f2 v1 : Int32} {d h x : Nat} {F : Nat → List (Nat × Nat)} {k a l : Nat → Int32} (h0 : 0 < d) (h3 : d ≤ 3) (hx : x ≤ 6) (hgd : tm_gd F (tm_lv h x)) (har : tm_ar k a l F (tm_lv h x)) :
    ∀ (r i : Nat) (w : Nat → Int32) (n : Nat), i + r = tm_N d → r < n → (∀ w', post (tm_fi (fun m => decide (v1 < nI m) && tm_sa F x d (-1) (nI m)) r i) (nI d, f2, nI x, l, k, a, w')) → wY_next_2 post v1 n (nI i) (nI d) f2 (nI x) l k a w := by
  have hN := tm_N_le d (by omega)
  intro r
  induction r with
  | zero =>
    intro i w n hi hn hp
    obtain ⟨n, rfl⟩ : ∃ q, n = q + 1 := ⟨n - 1, by omega⟩
    unfold wY_next_2
    refine ty_int h0 h3 ?_
    exact br_t (nI_le (by omega) (by omega)) (hp w)
  | succ r ih =>
    intro i w n hi hn hp
    obtain ⟨n, rfl⟩ : ∃ q, n = q + 1 := ⟨n - 1, by omega⟩
    unfold wY_next_2
    refine ty_int h0 h3 ?_
    refine br_f (nI_ge (by omega) (by omega)) (br_c (fun z => nm_r (nI_1 i) (ih (i + 1) w n (by omega) (by omega) (fun w' => ?_))) (fun z => ty_fit hx (fun i hi => tm_lvx h hi) h0 h3 har hgd (fun w3 => tm_br (fun hb => nm_r (nI_1 i) (ih (i + 1) w3 n (by omega) (by omega) (fun w' => ?_))) (fun hb => ?_))))
    · have g := hp w'
      rw [tm_fi_s, decide_eq_false (Int32.not_lt.mpr z), Bool.false_and, if_neg (by decide)] at g
      exact g
    · have g := hp w'
      rw [tm_fi_s, hb, Bool.and_false, if_neg (by decide)] at g
      exact g
    · have g := hp w3
      rw [tm_fi_s, hb, decide_eq_true (Int32.not_le.mp z), if_pos (by decide)] at g
      exact g
theorem ty_next {post : Int32 → SY → Prop} {f2 v1 : Int32} {d h x : Nat} {F : Nat → List (Nat × Nat)} {k a l w : Nat → Int32} (h0 : 0 < d) (h3 : d ≤ 3) (hx : x ≤ 6) (hgd : tm_gd F (tm_lv h x)) (har : tm_ar k a l F (tm_lv h x))
    (hp : ∀ w', post (tm_nx (fun m => tm_sa F x d (-1) (nI m)) v1 (tm_N d)) (nI d, f2, nI x, l, k, a, w')) : wpY_next post (nI d, f2, nI x, l, k, a, w) v1 := by
  unfold wpY_next
  exact ⟨tm_N d + 1, ty_next2 h0 h3 hx hgd har (tm_N d) 0 w _ (by omega) (by omega) hp⟩
theorem tm_pst (post : Int32 → Prop) {x y : Int32} (e : x = y) (h : post x) : post y := e ▸ h
theorem ty_mov {post : Int32 → Prop} {f2 f3 : Int32} {d p e : Nat} {k a l w : Nat → Int32} (h0 : 0 < d) (h3 : d ≤ 3) (hp : p < tm_np d) (he : e < d) (h : post (nI (tm_el (tm_pm d p) e))) : wpY_moved post (nI d, f2, f3, l, k, a, w) (nI p) (nI e) := by
  unfold wpY_moved wY_moved_33 wY_moved_45 wY_moved_63 wY_moved_74
  dsimp only
  rcases (by omega : d = 1 ∨ d = 2 ∨ d = 3) with rfl | rfl | rfl
  · have hp : p < 1 := hp
    obtain rfl : p = 0 := by omega
    obtain rfl : e = 0 := by omega
    repeat first | exact tm_pst post (by decide +kernel) h | refine br_t (by decide +kernel) ?_ | refine br_f (by decide +kernel) ?_ | refine ⟨by decide +kernel, ?_⟩ | refine nm_e ?_
  · have hp : p < 2 := hp
    rcases (by omega : p = 0 ∨ p = 1) with rfl | rfl <;> rcases (by omega : e = 0 ∨ e = 1) with rfl | rfl <;>
    repeat first | exact tm_pst post (by decide +kernel) h | refine br_t (by decide +kernel) ?_ | refine br_f (by decide +kernel) ?_ | refine ⟨by decide +kernel, ?_⟩ | refine nm_e ?_
  · have hp : p < 6 := hp
    rcases (by omega : p = 0 ∨ p = 1 ∨ p = 2 ∨ p = 3 ∨ p = 4 ∨ p = 5) with rfl | rfl | rfl | rfl | rfl | rfl <;> rcases (by omega : e = 0 ∨ e = 1 ∨ e = 2) with rfl | rfl | rfl <;>
    repeat first | exact tm_pst post (by decide +kernel) h | refine br_t (by decide +kernel) ?_ | refine br_f (by decide +kernel) ?_ | refine ⟨by decide +kernel, ?_⟩ | refine nm_e ?_
theorem tm_pm_lt : ∀ d, d < 4 → ∀ p, p < 6 → tm_pm d p < 27 := by decide +kernel
theorem tm_np_le (d : Nat) : tm_np d ≤ 6 := by unfold tm_np; split <;> (try split) <;> omega
theorem ty_im47 {post : Int32 → Prop} {J : Int32 → Int32 → Prop} {m r f2 f3 : Int32} {p d e : Nat} {k a l w : Nat → Int32} (h0 : 0 < d) (h3 : d ≤ 3) (hp : p < tm_np d) (he : e < d) (h : J (tm_mi m d (tm_el (tm_pm d p)) e r d) (nI (e + 1))) : ∃ n, wY_image_47 post J (nI p) m (nI e) (nI (tm_el (tm_pm d p) e)) (nI d) f2 f3 l k a w n r 0 := by
  have hq := tm_pm_lt d (by omega) p (Nat.lt_of_lt_of_le hp (tm_np_le d))
  refine loop_0 (fun n i s => wY_image_47 post J (nI p) m (nI e) (nI (tm_el (tm_pm d p) e)) (nI d) f2 f3 l k a w n s (nI i)) (fun i s => s = tm_mi m d (tm_el (tm_pm d p)) e r i) d r rfl ?_ ?_
  · intro n s hs
    subst hs
    exact br_t (nI_le (Nat.le_refl d) (by omega)) (nm_r (nI_1 e) h)
  · intro n i s hi hs kk
    subst hs
    have e4 : (nI d + (nI d * nI (tm_el (tm_pm d p) e))) + nI (tm_el (tm_pm d p) i) = nI (d + d * tm_el (tm_pm d p) e + tm_el (tm_pm d p) i) := by rw [pk_mul, nI_add, nI_add]
    have b1 : d * e ≤ 3 * 2 := Nat.mul_le_mul h3 (by omega)
    have st : tm_mi m d (tm_el (tm_pm d p)) e r (i + 1) = tm_set (bt m (d + d * e + i)) (d + d * tm_el (tm_pm d p) e + tm_el (tm_pm d p) i) (tm_mi m d (tm_el (tm_pm d p)) e r i) := rfl
    refine br_f (nI_ge hi (by omega)) (ty_mov h0 h3 hp hi (ty_rel (by omega) (tm_br (fun hb => nm_r (nI_1 i) (kk _ ?_)) (fun hb => nm_r ?_ (nm_r (nI_1 i) (kk _ rfl))))))
    · rw [st, hb]; rfl
    · rw [st, hb, e4]; rfl
theorem ty_img {post : Int32 → Prop} {m f2 f3 : Int32} {p d : Nat} {k a l w : Nat → Int32} (h0 : 0 < d) (h3 : d ≤ 3) (hp : p < tm_np d) (h : post (tm_mv m d (tm_el (tm_pm d p)) d)) : wpY_image post (nI d, f2, f3, l, k, a, w) (nI p) m := by
  unfold wpY_image
  refine loop_0 (fun n i s => wY_image_5 post (nI p) m (nI d) f2 f3 l k a w n s (nI i)) (fun i s => s = tm_mv m d (tm_el (tm_pm d p)) i) d 0 rfl ?_ ?_
  · intro n s hs
    subst hs
    exact br_t (nI_le (Nat.le_refl d) (by omega)) h
  · intro n i s hi hs kk
    subst hs
    have st : tm_mv m d (tm_el (tm_pm d p)) (i + 1) = tm_mi m d (tm_el (tm_pm d p)) i (tm_set (bt m i) (tm_el (tm_pm d p) i) (tm_mv m d (tm_el (tm_pm d p)) i)) d := rfl
    refine br_f (nI_ge hi (by omega)) (ty_mov h0 h3 hp hi ?_)
    rw [tm_dg1 m (by omega)]
    refine br_c (fun hb => nm_e (ty_im47 h0 h3 hp hi (kk _ ?_))) (fun hb => ty_im47 h0 h3 hp hi (kk _ ?_))
    · rw [st, hb]; rfl
    · rw [st, Bool.eq_false_iff.mpr hb]; rfl
theorem ty_maps {post : Int32 → Prop} {f2 f3 : Int32} {d : Nat} {k a l w : Nat → Int32} (h0 : 0 < d) (h3 : d ≤ 3) (h : post (nI (tm_np d))) : wpY_maps post (nI d, f2, f3, l, k, a, w) := by
  unfold wpY_maps
  rcases (by omega : d = 1 ∨ d = 2 ∨ d = 3) with rfl | rfl | rfl
  · exact br_t rfl h
  · exact br_f (by decide +kernel) (br_t rfl h)
  · exact br_f (by decide +kernel) (br_f (by decide +kernel) h)
theorem ty_lm {post : Int32 → Prop} {m f2 f3 : Int32} {d : Nat} {k a l w : Nat → Int32} (h0 : 0 < d) (h3 : d ≤ 3) (h : post (tm_bi (tm_lm d m))) : wpY_isLeast post (nI d, f2, f3, l, k, a, w) m := by
  have hn := tm_np_le d
  have e : tm_lm d m = tm_al (fun p => !(decide (tm_mv m d (tm_el (tm_pm d p)) d < m))) (tm_np d) := by
    unfold tm_lm
    rw [tm_cn_pm (fun q => decide (tm_mv m d (tm_el q) d < m)) h0 h3]
    cases z : tm_al (fun p => !(decide (tm_mv m d (tm_el (tm_pm d p)) d < m))) (tm_np d)
    · apply decide_eq_false
      intro y
      have g := tm_cn_0.mp y
      rw [tm_al_t.mpr (fun i hi => by rw [g i hi]; rfl)] at z
      exact absurd z (by decide)
    · apply decide_eq_true
      apply tm_cn_0.mpr
      intro i hi
      have g := tm_al_t.mp z i hi
      cases y : decide (tm_mv m d (tm_el (tm_pm d i)) d < m)
      · rfl
      · rw [y] at g; exact absurd g (by decide)
  rw [e] at h
  unfold wpY_isLeast
  refine loop_0 (fun n i s => wY_isLeast_4 post m (nI d) f2 f3 l k a w n s (nI i)) (fun i s => s = tm_bi (tm_al (fun p => !(decide (tm_mv m d (tm_el (tm_pm d p)) d < m))) i)) (tm_np d) 1 rfl ?_ ?_
  · intro n s hs
    subst hs
    unfold wY_isLeast_4
    refine ty_maps h0 h3 ?_
    exact br_t (nI_le (Nat.le_refl _) (by omega)) ⟨tm_nn _, h⟩
  · intro n i s hi hs kk
    subst hs
    have st : tm_al (fun p => !(decide (tm_mv m d (tm_el (tm_pm d p)) d < m))) (i + 1) = (tm_al (fun p => !(decide (tm_mv m d (tm_el (tm_pm d p)) d < m))) i && !(decide (tm_mv m d (tm_el (tm_pm d i)) d < m))) := rfl
    unfold wY_isLeast_4
    refine ty_maps h0 h3 ?_
    refine br_f (nI_ge hi (by omega)) (tm_br (fun hb => nm_r (nI_1 i) (kk _ ?_)) (fun hb => ty_img h0 h3 hi (br_c (fun z => nm_r (nI_1 i) (kk _ ?_)) (fun z => nm_r (nI_1 i) (kk _ ?_)))))
    · rw [st, hb]; rfl
    · rw [st, decide_eq_true z, Bool.not_true, Bool.and_false]; rfl
    · rw [st, decide_eq_false z, hb]; rfl
theorem ty_mt {post : Int32 → Prop} {m o f2 f3 : Int32} {d : Nat} {k a l w : Nat → Int32} (h0 : 0 < d) (h3 : d ≤ 3) (h : post (nI (tm_cn (fun q => tm_oo q d && decide (tm_mv m d (tm_el q) d = o)) 27))) : wpY_mapsTo post (nI d, f2, f3, l, k, a, w) m o := by
  have hn := tm_np_le d
  rw [tm_cn_pm (fun q => decide (tm_mv m d (tm_el q) d = o)) h0 h3] at h
  unfold wpY_mapsTo
  refine loop_0 (fun n i s => wY_mapsTo_5 post m o (nI d) f2 f3 l k a w n s (nI i)) (fun i s => s = nI (tm_cn (fun p => decide (tm_mv m d (tm_el (tm_pm d p)) d = o)) i)) (tm_np d) 0 rfl ?_ ?_
  · intro n s hs
    subst hs
    unfold wY_mapsTo_5
    refine ty_maps h0 h3 ?_
    exact br_t (nI_le (Nat.le_refl _) (by omega)) h
  · intro n i s hi hs kk
    subst hs
    unfold wY_mapsTo_5
    refine ty_maps h0 h3 ?_
    refine br_f (nI_ge hi (by omega)) (ty_img h0 h3 hi (br_c (fun z => nm_r (nI_1 _) (nm_r (nI_1 i) (kk _ ?_))) (fun z => nm_r (nI_1 i) (kk _ ?_))))
    · exact congrArg nI (tm_cnt (p := fun p => decide (tm_mv m d (tm_el (tm_pm d p)) d = o)) (decide_eq_true z))
    · exact congrArg nI (tm_cnf (p := fun p => decide (tm_mv m d (tm_el (tm_pm d p)) d = o)) (decide_eq_false z))
theorem ty_shapes {post : Int32 → SY → Prop} {d h x : Nat} {F : Nat → List (Nat × Nat)} {k a l w : Nat → Int32} (G : tm_I d h x F) (har : tm_ar k a l F (tm_lv h x))
    (hp : ∀ w', post (nI (tm_cn (fun m => tm_lm d (nI m) && tm_sa F x d (-1) (nI m)) (tm_N d))) (nI d, nI h, nI x, l, k, a, w')) : wpY_shapes post (nI d, nI h, nI x, l, k, a, w) := by
  obtain ⟨h0, h3, hh, hx, hgd⟩ := G
  have hN := tm_N_le d (by omega)
  unfold wpY_shapes
  refine loop_0 (fun n i (s : Int32 × (Nat → Int32)) => wY_shapes_4 post n s.1 (nI i) (nI d) (nI h) (nI x) l k a s.2) (fun i s => s.1 = nI (tm_cn (fun m => tm_lm d (nI m) && tm_sa F x d (-1) (nI m)) i)) (tm_N d) (0, w) rfl ?_ ?_
  · intro n s hs
    obtain ⟨c, w2⟩ := s
    cases (show c = _ from hs)
    dsimp only
    unfold wY_shapes_4
    refine ty_int h0 h3 ?_
    exact br_t (nI_le (Nat.le_refl _) (by omega)) (hp w2)
  · intro n i s hi hs kk
    obtain ⟨c, w2⟩ := s
    cases (show c = _ from hs)
    dsimp only
    unfold wY_shapes_4
    refine ty_int h0 h3 ?_
    refine br_f (nI_ge hi (by omega)) (ty_lm h0 h3 (tm_br (fun hb => nm_r (nI_1 i) (kk (_, w2) ?_)) (fun hb => ty_fit hx (fun i hi => tm_lvx h hi) h0 h3 har hgd (fun w3 => tm_br (fun hc => nm_r (nI_1 i) (kk (_, w3) ?_)) (fun hc => nm_r (nI_1 _) (nm_r (nI_1 i) (kk (_, w3) ?_)))))))
    · exact congrArg nI (tm_cnf (p := fun m => tm_lm d (nI m) && tm_sa F x d (-1) (nI m)) (by rw [hb, Bool.false_and]))
    · exact congrArg nI (tm_cnf (p := fun m => tm_lm d (nI m) && tm_sa F x d (-1) (nI m)) (by rw [hc, Bool.and_false]))
    · exact congrArg nI (tm_cnt (p := fun m => tm_lm d (nI m) && tm_sa F x d (-1) (nI m)) (by rw [hb, hc]; rfl))
end
section
/-! the reference: further loops -/
theorem ty_f107 {post : Int32 → SY → Prop} {z o : Bool} {f1 f2 f3 : Int32} {k a l w : Nat → Int32} (h : post (tm_fo z o) (f1, f2, f3, l, k, a, w)) :
    (tm_bi z = 0 → wY_forced_107 post (tm_bi z) (tm_bi o) f1 f2 f3 l k a w) ∧ (¬ tm_bi z = 0 → ((tm_bi o = 0 → wY_forced_107 post (tm_bi z) (tm_bi o) f1 f2 f3 l k a w) ∧ (¬ tm_bi o = 0 → post 2 (f1, f2, f3, l, k, a, w)))) := by
  unfold wY_forced_107
  cases z <;> cases o
  · exact br_t rfl (br_t rfl (br_t rfl h))
  · exact br_t rfl (br_t rfl (br_f (by decide) h))
  · exact br_f (by decide) (br_t rfl (br_f (by decide) h))
  · exact br_f (by decide) (br_f (by decide) h)
theorem ty_f68 {post : Int32 → SY → Prop} {J : Int32 → Int32 → Int32 → Int32 → Int32 → Int32 → (Nat → Int32) → (Nat → Int32) → (Nat → Int32) → (Nat → Int32) → Prop} {b i : Nat} {z0 f1 f2 f3 : Int32} {o : Bool} {k a l w : Nat → Int32} (hb : b < 32) (h : J z0 (tm_bi (o || bt (nI i) b)) (nI (i + 1)) f1 f2 f3 l k a w) : wY_forced_68 post J (nI b) (tm_bi o) (nI i) z0 f1 f2 f3 l k a w := by
  unfold wY_forced_68
  rw [tm_dg1 _ hb]
  refine tm_br (fun ho => br_c (fun hd => nm_r (nI_1 i) ?_) (fun hd => nm_r (nI_1 i) ?_)) (fun ho => nm_r (nI_1 i) ?_)
  · rw [ho, hd] at h; exact h
  · rw [ho, Bool.eq_false_iff.mpr hd] at h; exact h
  · rw [ho, Bool.true_or] at h; exact h
theorem ty_forced31 {post : Int32 → SY → Prop} {b d h x : Nat} {F : Nat → List (Nat × Nat)} {k a l w : Nat → Int32} (hb : b < 32) (G : tm_I d h x F) (har : tm_ar k a l F (tm_lv h x))
    (hp : ∀ w', post (tm_fo (tm_an (fun m => tm_sa F x d (-1) (nI m) && !(bt (nI m) b)) (tm_N d)) (tm_an (fun m => tm_sa F x d (-1) (nI m) && bt (nI m) b) (tm_N d))) (nI d, nI h, nI x, l, k, a, w')) :
    ∃ n, wY_forced_31 post (nI b) n 0 0 0 (nI d) (nI h) (nI x) l k a w := by
  obtain ⟨h0, h3, hh, hx, hgd⟩ := G
  have hN := tm_N_le d (by omega)
  refine loop_0 (fun n i (s : Int32 × Int32 × (Nat → Int32)) => wY_forced_31 post (nI b) n s.1 s.2.1 (nI i) (nI d) (nI h) (nI x) l k a s.2.2)
    (fun i s => s.1 = tm_bi (tm_an (fun m => tm_sa F x d (-1) (nI m) && !(bt (nI m) b)) i) ∧ s.2.1 = tm_bi (tm_an (fun m => tm_sa F x d (-1) (nI m) && bt (nI m) b) i)) (tm_N d) (0, 0, w) ⟨rfl, rfl⟩ ?_ ?_
  · intro n s hs
    obtain ⟨z, o, w2⟩ := s
    obtain ⟨hz, ho⟩ := hs
    cases (show z = _ from hz)
    cases (show o = _ from ho)
    dsimp only
    unfold wY_forced_31
    refine ty_int h0 h3 ?_
    exact br_t (nI_le (Nat.le_refl _) (by omega)) (ty_f107 (hp w2))
  · intro n i s hi hs kk
    obtain ⟨z, o, w2⟩ := s
    obtain ⟨hz, ho⟩ := hs
    cases (show z = _ from hz)
    cases (show o = _ from ho)
    dsimp only
    unfold wY_forced_31
    refine ty_int h0 h3 ?_
    refine br_f (nI_ge hi (by omega)) (ty_fit hx (fun i hi => tm_lvx h hi) h0 h3 har hgd (fun w3 => tm_br (fun hc => nm_r (nI_1 i) (kk (_, _, w3) ⟨?_, ?_⟩)) (fun hc => ?_)))
    · exact congrArg tm_bi (by rw [tm_an_s, hc, Bool.false_and, Bool.or_false])
    · exact congrArg tm_bi (by rw [tm_an_s, hc, Bool.false_and, Bool.or_false])
    · have g1 : (tm_an (fun m => tm_sa F x d (-1) (nI m) && !(bt (nI m) b)) i || !(bt (nI i) b)) = tm_an (fun m => tm_sa F x d (-1) (nI m) && !(bt (nI m) b)) (i + 1) := by rw [tm_an_s, hc, Bool.true_and]
      have g2 : (tm_an (fun m => tm_sa F x d (-1) (nI m) && bt (nI m) b) i || bt (nI i) b) = tm_an (fun m => tm_sa F x d (-1) (nI m) && bt (nI m) b) (i + 1) := by rw [tm_an_s, hc, Bool.true_and]
      rw [tm_dg0 _ hb]
      refine tm_br (fun hz => br_c (fun hd => ?_) (fun hd => ?_)) (fun hz => ?_)
      · unfold wY_forced_63
        refine ty_f68 hb (kk (1, _, w3) ⟨?_, congrArg tm_bi g2⟩)
        rw [← g1, hz, hd]; rfl
      · refine ty_f68 hb (kk (0, _, w3) ⟨?_, congrArg tm_bi g2⟩)
        rw [← g1, hz, Bool.not_eq_false _ |>.mp hd]; rfl
      · unfold wY_forced_63
        refine ty_f68 hb (kk (1, _, w3) ⟨?_, congrArg tm_bi g2⟩)
        rw [← g1, hz]; rfl
theorem ty_lists34 {post : Int32 → SY → Prop} {t f1 f2 f3 : Int32} {k a l w : Nat → Int32} (hp : post (nI (tm_cn (fun i => bt t i) 27)) (f1, f2, f3, l, k, a, w)) : ∃ n, wY_lists_34 post t f1 f2 f3 l k a w n 0 0 := by
  refine loop_0 (fun n i s => wY_lists_34 post t f1 f2 f3 l k a w n s (nI i)) (fun i s => s = nI (tm_cn (fun i => bt t i) i)) 27 0 rfl ?_ ?_
  · intro n s hs
    subst hs
    exact br_t (by decide +kernel) hp
  · intro n i s hi hs kk
    subst hs
    refine br_f (nI_ge (b := 27) hi (by omega)) (nm_r ?_ (nm_r (nI_1 i) (kk _ rfl)))
    rw [tm_dg t (by omega), tm_addb, tm_cn_s]
theorem ty_follows11 {post : Int32 → SY → Prop} {d h x : Nat} {F : Nat → List (Nat × Nat)} {k a l w : Nat → Int32} (h1 : 0 < h) (G : tm_I d h x F) (har : tm_ar k a l F (tm_lv h x))
    (hp : ∀ w', post (tm_bi (tm_al (fun m => !(tm_sa F x d (-1) (nI m)) || tm_va (nI m) d (F (h - 1))) (tm_N d))) (nI d, nI h, nI x, l, k, a, w')) : ∃ n, wY_follows_11 post n 0 (nI d) (nI h) (nI x) l k a w := by
  obtain ⟨h0, h3, hh, hx, hgd⟩ := G
  have hN := tm_N_le d (by omega)
  refine loop_0 (fun n i (s : Nat → Int32) => wY_follows_11 post n (nI i) (nI d) (nI h) (nI x) l k a s) (fun i _ => ∀ j, j < i → (!(tm_sa F x d (-1) (nI j)) || tm_va (nI j) d (F (h - 1))) = true) (tm_N d) w (fun j hj => absurd hj (by omega)) ?_ ?_
  · intro n s hI
    have g := hp s
    rw [tm_al_t.mpr hI] at g
    unfold wY_follows_11
    refine ty_int h0 h3 ?_
    exact br_t (nI_le (Nat.le_refl _) (by omega)) g
  · intro n i s hi hI kk
    unfold wY_follows_11
    refine ty_int h0 h3 ?_
    refine br_f (nI_ge hi (by omega)) (ty_fit hx (fun i hi => tm_lvx h hi) h0 h3 har hgd (fun w3 => tm_br (fun hc => nm_r (nI_1 i) (kk w3 (lt_s hI ?_))) (fun hc => ty_val (h - 1) (tm_hI h1) (tm_top h1) h0 h3 har hgd (fun w4 => tm_br (fun he => ?_) (fun he => nm_r (nI_1 i) (kk w4 (lt_s hI ?_)))))))
    · rw [hc]; rfl
    · have g := hp w4
      rw [tm_al_f hi (by rw [hc, he]; rfl)] at g
      exact g
    · rw [he, Bool.or_true]
theorem ty_agreeing13 {post : Int32 → SY → Prop} {d h x : Nat} {F : Nat → List (Nat × Nat)} {k a l w : Nat → Int32} (h1 : 0 < h) (G : tm_I d h x F) (har : tm_ar k a l F (tm_lv h x))
    (hp : ∀ w', post (nI (tm_cn (fun m => tm_sa F x d (-1) (nI m) && tm_va (nI m) d (F (h - 1))) (tm_N d))) (nI d, nI h, nI x, l, k, a, w')) : ∃ n, wY_agreeing_13 post n 0 0 (nI d) (nI h) (nI x) l k a w := by
  obtain ⟨h0, h3, hh, hx, hgd⟩ := G
  have hN := tm_N_le d (by omega)
  refine loop_0 (fun n i (s : Int32 × (Nat → Int32)) => wY_agreeing_13 post n s.1 (nI i) (nI d) (nI h) (nI x) l k a s.2) (fun i s => s.1 = nI (tm_cn (fun m => tm_sa F x d (-1) (nI m) && tm_va (nI m) d (F (h - 1))) i)) (tm_N d) (0, w) rfl ?_ ?_
  · intro n s hs
    obtain ⟨c, w2⟩ := s
    cases (show c = _ from hs)
    dsimp only
    unfold wY_agreeing_13
    refine ty_int h0 h3 ?_
    exact br_t (nI_le (Nat.le_refl _) (by omega)) (hp w2)
  · intro n i s hi hs kk
    obtain ⟨c, w2⟩ := s
    cases (show c = _ from hs)
    dsimp only
    unfold wY_agreeing_13
    refine ty_int h0 h3 ?_
    refine br_f (nI_ge hi (by omega)) (ty_fit hx (fun i hi => tm_lvx h hi) h0 h3 har hgd (fun w3 => tm_br (fun hc => nm_r (nI_1 i) (kk (_, w3) ?_)) (fun hc => ty_val (h - 1) (tm_hI h1) (tm_top h1) h0 h3 har hgd (fun w4 => tm_br (fun he => nm_r (nI_1 i) (kk (_, w4) ?_)) (fun he => nm_r (nI_1 _) (nm_r (nI_1 i) (kk (_, w4) ?_)))))))
    · exact congrArg nI (tm_cnf (p := fun m => tm_sa F x d (-1) (nI m) && tm_va (nI m) d (F (h - 1))) (by rw [hc, Bool.false_and]))
    · exact congrArg nI (tm_cnf (p := fun m => tm_sa F x d (-1) (nI m) && tm_va (nI m) d (F (h - 1))) (by rw [he, Bool.and_false]))
    · exact congrArg nI (tm_cnt (p := fun m => tm_sa F x d (-1) (nI m) && tm_va (nI m) d (F (h - 1))) (by rw [hc, he]; rfl))
theorem ty_alike12 {post : Int32 → SY → Prop} {d h x : Nat} {F : Nat → List (Nat × Nat)} {k a l w : Nat → Int32} (h2 : 2 ≤ h) (G : tm_I d h x F) (har : tm_ar k a l F (tm_lv h x))
    (hp : ∀ w', post (tm_bi (tm_al (fun m => !(tm_sa F x d (-1) (nI m)) || decide (tm_tv (nI m) d (F (h - 1)) = tm_tv (nI m) d (F (h - 2)))) (tm_N d))) (nI d, nI h, nI x, l, k, a, w')) : ∃ n, wY_alike_12 post n 0 (nI d) (nI h) (nI x) l k a w := by
  obtain ⟨h0, h3, hh, hx, hgd⟩ := G
  have hN := tm_N_le d (by omega)
  refine loop_0 (fun n i (s : Nat → Int32) => wY_alike_12 post n (nI i) (nI d) (nI h) (nI x) l k a s) (fun i _ => ∀ j, j < i → (!(tm_sa F x d (-1) (nI j)) || decide (tm_tv (nI j) d (F (h - 1)) = tm_tv (nI j) d (F (h - 2)))) = true) (tm_N d) w (fun j hj => absurd hj (by omega)) ?_ ?_
  · intro n s hI
    have g := hp s
    rw [tm_al_t.mpr hI] at g
    unfold wY_alike_12
    refine ty_int h0 h3 ?_
    exact br_t (nI_le (Nat.le_refl _) (by omega)) g
  · intro n i s hi hI kk
    unfold wY_alike_12
    refine ty_int h0 h3 ?_
    refine br_f (nI_ge hi (by omega)) (ty_fit hx (fun i hi => tm_lvx h hi) h0 h3 har hgd (fun w3 => tm_br (fun hc => nm_r (nI_1 i) (kk w3 (lt_s hI ?_))) (fun hc => ty_lo (h - 1) (tm_hI (by omega)) (tm_top (by omega)) h0 h3 har hgd (fun w4 => ty_lo (h - 2) (tm_hI2 h2) (Or.inl (by omega)) h0 h3 har hgd (fun w5 => br_c (fun he => nm_r (nI_1 i) (kk w5 (lt_s hI ?_))) (fun he => ?_))))))
    · rw [hc]; rfl
    · rw [decide_eq_true he, Bool.or_true]
    · have g := hp w5
      rw [tm_al_f hi (by rw [hc, decide_eq_false he]; rfl)] at g
      exact g
theorem ty_indep16 {post : Int32 → SY → Prop} {d h x j : Nat} {F : Nat → List (Nat × Nat)} {k a l w : Nat → Int32} (hj : j < x) (G : tm_I d h x F) (har : tm_ar k a l F (tm_lv h x))
    (hp : ∀ w', post (tm_bi (tm_an (fun m => !(tm_va (nI m) d (F (6 + j))) && tm_sa F x d (nI j) (nI m)) (tm_N d))) (nI d, nI h, nI x, l, k, a, w')) : ∃ n, wY_independent_16 post (nI j) n 0 (nI d) (nI h) (nI x) l k a w := by
  obtain ⟨h0, h3, hh, hx, hgd⟩ := G
  have hN := tm_N_le d (by omega)
  refine loop_0 (fun n i (s : Nat → Int32) => wY_independent_16 post (nI j) n (nI i) (nI d) (nI h) (nI x) l k a s) (fun i _ => ∀ q, q < i → (!(tm_va (nI q) d (F (6 + j))) && tm_sa F x d (nI j) (nI q)) = false) (tm_N d) w (fun j hj => absurd hj (by omega)) ?_ ?_
  · intro n s hI
    have g := hp s
    rw [tm_an_f hI] at g
    unfold wY_independent_16
    refine ty_int h0 h3 ?_
    exact br_t (nI_le (Nat.le_refl _) (by omega)) g
  · intro n i s hi hI kk
    unfold wY_independent_16
    refine ty_int h0 h3 ?_
    refine br_f (nI_ge hi (by omega)) (ty_val (6 + j) (nI_add 6 j) (tm_lvx h hj) h0 h3 har hgd (fun w3 => tm_br (fun hc => ty_fit hx (fun i hi => tm_lvx h hi) h0 h3 har hgd (fun w4 => tm_br (fun he => nm_r (nI_1 i) (kk w4 (lt_s hI ?_))) (fun he => ?_))) (fun hc => nm_r (nI_1 i) (kk w3 (lt_s hI ?_)))))
    · rw [he, Bool.and_false]
    · have g := hp w4
      rw [tm_an_t hi (by rw [hc, he]; rfl)] at g
      exact g
    · rw [hc]; rfl
theorem tm_hm_neg (F : Nat → List (Nat × Nat)) {x d : Nat} (h3 : d ≤ 3) : (tm_hm F x d < 0 ↔ tm_hm F x d = -2) := by
  have hN := tm_N_le d (by omega)
  unfold tm_hm
  rcases tm_fi_in (p := fun m => tm_sa F x d (-1) (nI m)) (tm_N d) 0 with z | ⟨j, _, b, _, e⟩
  · rw [z]; exact ⟨fun _ => rfl, fun _ => by decide⟩
  · rw [e]
    refine ⟨fun z => absurd z (nI_pos (by omega)), fun z => ?_⟩
    have g := nI_pos (n := j) (by omega)
    rw [z] at g
    exact absurd (by decide) g
theorem ty_sm_s {post : Int32 → SY → Prop} {kp f2 y : Int32} {d h x n : Nat} {F : Nat → List (Nat × Nat)} {k a l w : Nat → Int32} {f1 : Int32} (h0 : 0 < d) (h3 : d ≤ 3) (hx : x ≤ 6) (hgd : tm_gd F (tm_lv h x)) (har : tm_ar k a l F (tm_lv h x))
    (hp : ∀ w', wY_smallest_9 post kp n (if tm_hm F x d ≠ -2 then nI d else y) (nI (d - 1)) (nI d) f2 (nI x) l k a w') : wY_smallest_9 post kp (n + 1) y (nI d) f1 f2 (nI x) l k a w := by
  have hN := tm_N_le d (by omega)
  have e : nI d + (-1) = nI (d - 1) := by
    obtain ⟨q, rfl⟩ : ∃ q, d = q + 1 := ⟨d - 1, by omega⟩
    exact pk_m1 q
  unfold wY_smallest_9
  refine br_f (nI_nle h0 (by omega)) (ty_next h0 h3 hx hgd har (fun w' => ?_))
  rw [tm_nx_neg hN (by decide)]
  show (tm_hm F x d < 0 → _) ∧ (¬ tm_hm F x d < 0 → _)
  rw [tm_hm_neg F h3]
  refine br_c (fun z => nm_r e ?_) (fun z => nm_r e ?_)
  · have g := hp w'
    rw [if_neg (fun t => t z)] at g
    exact g
  · have g := hp w'
    rw [if_pos z] at g
    exact g
theorem ty_smallest {post : Int32 → SY → Prop} {d h x : Nat} {F : Nat → List (Nat × Nat)} {k a l w : Nat → Int32} (G : tm_I d h x F) (har : tm_ar k a l F (tm_lv h x))
    (hp : ∀ w', post (tm_sm F x) (nI d, nI h, nI x, l, k, a, w')) : wpY_smallest post (nI d, nI h, nI x, l, k, a, w) := by
  obtain ⟨h0, h3, hh, hx, hgd⟩ := G
  unfold wpY_smallest
  refine ⟨4, ty_sm_s (d := 3) (by omega) (by omega) hx hgd har (fun w1 => ty_sm_s (d := 2) (by omega) (by omega) hx hgd har (fun w2 => ty_sm_s (d := 1) (by omega) (by omega) hx hgd har (fun w3 => br_t (by decide +kernel) ?_)))⟩
  exact hp w3
end
section
/-! the component: calls that write -/
theorem tx_app {post : SX → Prop} {f1 f2 f3 : Int32} {k a l w : Nat → Int32} {fr to nT nL : Nat} {y : Int32} (hf : fr < 12) (ht : to < 12) (hne : fr ≠ to) (hy : y = nI fr) (hlT : l to = nI nT) (hlL : l fr = nI nL) (hsz : nT + nL ≤ 24)
    (hp : post (f1, f2, f3, tm_cy k (24 * fr) (24 * to + nT) nL, tm_cy a (24 * fr) (24 * to + nT) nL, upd l to (nI (nT + nL)), w)) : wpX_append post (f1, f2, f3, k, a, l, w) y (nI to) := by
  subst hy
  have e1 : nI fr * 24 = nI (24 * fr) := by rw [show (24 : Int32) = nI 24 from rfl, pk_mul, Nat.mul_comm]
  have e2 : nI to * 24 + l (nI to).toNatClampNeg = nI (24 * to + nT) := by rw [nI_clamp (by omega), hlT, show (24 : Int32) = nI 24 from rfl, pk_mul, nI_add, Nat.mul_comm]
  have e3 : l (nI fr).toNatClampNeg = nI nL := by rw [nI_clamp (by omega), hlL]
  unfold wpX_append
  refine nm_r e1 ⟨vp_in_nI ht (by omega), nm_r e2 ⟨vp_in_nI hf (by omega), nm_r e3 ?_⟩⟩
  refine loop_0 (fun n i (s : (Nat → Int32) × (Nat → Int32)) => wX_append_29 post (nI to) (nI (24 * fr)) (nI (24 * to + nT)) (nI nL) f1 f2 f3 n (nI i) s.1 s.2 l w)
    (fun i s => s.1 = tm_cy k (24 * fr) (24 * to + nT) i ∧ s.2 = tm_cy a (24 * fr) (24 * to + nT) i) nL (k, a) ⟨(tm_cy_0 _ _ _).symm, (tm_cy_0 _ _ _).symm⟩ ?_ ?_
  · intro n s hs
    obtain ⟨k', a'⟩ := s
    cases (show k' = _ from hs.1)
    cases (show a' = _ from hs.2)
    refine br_t (nI_le (Nat.le_refl _) (by omega)) ⟨vp_in_nI ht (by omega), vp_in_nI ht (by omega), nm_r ?_ hp⟩
    rw [nI_clamp (by omega), hlT, nI_add]
  · intro n i s hi hs kk
    obtain ⟨k', a'⟩ := s
    cases (show k' = _ from hs.1)
    cases (show a' = _ from hs.2)
    have c1 : (nI (24 * fr) + nI i).toNatClampNeg = 24 * fr + i := by rw [nI_add, nI_clamp (by omega)]
    have c2 : (nI (24 * to + nT) + nI i).toNatClampNeg = 24 * to + nT + i := by rw [nI_add, nI_clamp (by omega)]
    have v1 : vp_in (nI (24 * fr) + nI i) 288 := by rw [nI_add]; exact vp_in_nI (by omega) (by omega)
    have v2 : vp_in (nI (24 * to + nT) + nI i) 288 := by rw [nI_add]; exact vp_in_nI (by omega) (by omega)
    refine br_f (nI_ge hi (by omega)) ⟨v1, v2, nm_r ?_ ⟨v1, v2, nm_r ?_ (nm_r (nI_1 i) (kk (_, _) ⟨rfl, rfl⟩))⟩⟩
    · rw [c1, c2]; exact tm_cy_s (by omega)
    · rw [c1, c2]; exact tm_cy_s (by omega)
theorem tx_rep {post : SX → Prop} {f1 f2 f3 y z : Int32} {k a l w : Nat → Int32} {fr to : Nat} {F : Nat → List (Nat × Nat)} {S : Nat → Prop} (hy : y = nI fr) (hz : z = nI to) (hS : S fr) (ht : to < 12) (hne : fr ≠ to) (har : tm_ar k a l F S) (hgd : tm_gd F S)
    (hp : ∀ k' a' l', tm_ar k' a' l' (tm_ff F to (F fr)) (fun s => S s ∨ s = to) → post (f1, f2, f3, k', a', l', w)) : wpX_replace post (f1, f2, f3, k, a, l, w) y z := by
  subst hz
  obtain ⟨hf, h1, h24, hw⟩ := hgd fr hS
  obtain ⟨hl, hc⟩ := har fr hS
  unfold wpX_replace
  refine ⟨vp_in_nI ht (by omega), nm_r (e' := upd l to (nI 0)) (by rw [nI_clamp (by omega)]; rfl) ?_⟩
  refine tx_app (nT := 0) (nL := (F fr).length) hf ht hne hy pk_us ((pk_un hne).trans hl) (by omega) (hp _ _ _ ?_)
  refine tm_ar_put har (fun s hs => (hgd s hs).2.2.1) (fun j hj => ⟨tm_cy_out (by omega), tm_cy_out (by omega)⟩) (fun s hs => (pk_un hs).trans (pk_un hs)) ?_ ?_
  · exact tm_cy_ce (T := []) (Nat.le_refl _) True.intro hc
  · rw [pk_us, Nat.zero_add]
theorem tx_109 {post : Int32 → SX → Prop} {f1 f2 f3 v2 : Int32} {k a l k1 a1 l1 w : Nat → Int32} {K A sl : Nat} {T : List (Nat × Nat)} {F : Nat → List (Nat × Nat)} {S : Nat → Prop} (hs : sl < 12) (hT24 : T.length < 24) (hv : K < 4 ∨ 8 < K → v2 = nI A)
    (hk1 : ∀ j, (j < 24 * sl ∨ 24 * sl + 24 ≤ j) → k1 j = k j ∧ a1 j = a j) (hl1 : ∀ s, s ≠ sl → l1 s = l s) (hT : tm_ce k1 a1 (24 * sl) T) (har : tm_ar k a l F S) (hgd : tm_gd F S)
    (hp : ∀ k' a' l', tm_ar k' a' l' (tm_ff F sl (T ++ [(K, A)])) (fun s => S s ∨ s = sl) → post (nI (sl + 1)) (f1, nI (sl + 1), f3, k', a', l', w)) : wX_token_109 post (nI K) v2 (nI sl) (nI (T.length + 1)) f1 f2 f3 k1 a1 l1 w := by
  have e1 : (nI sl * 24 + nI (T.length + 1)) - 1 = nI (24 * sl + T.length) := by
    rw [show (24 : Int32) = nI 24 from rfl, pk_mul, nI_add, Nat.mul_comm]
    exact nI_pred (24 * sl + T.length)
  unfold wX_token_109
  rw [e1]
  refine ⟨vp_in_nI (by omega) (by omega), nm_r (by rw [nI_clamp (by omega)]) ⟨vp_in_nI (by omega) (by omega), nm_r (by rw [nI_clamp (by omega)]) ⟨vp_in_nI hs (by omega), nm_r (by rw [nI_clamp (by omega)]) (nm_r (nI_1 sl) (hp _ _ _ ?_))⟩⟩⟩
  refine tm_ar_put har (fun s hs => (hgd s hs).2.2.1) (fun j hj => ⟨(pk_un (by omega)).trans (hk1 j hj).1, (pk_un (by omega)).trans (hk1 j hj).2⟩) (fun s hs => (pk_un hs).trans (hl1 s hs)) ?_ ?_
  · exact tm_ce_snoc (t := (K, A)) rfl hT rfl hv
  · rw [pk_us, List.length_append]; rfl
/-- what a token takes off the stack, put one behind the other -/
def tm_T0 (F : Nat → List (Nat × Nat)) (h t : Nat) : List (Nat × Nat) := if t = 0 then [] else if t = 1 then F (h - 1) else F (h - 2) ++ F (h - 1)
theorem tx_57 {post : Int32 → SX → Prop} {f1 f3 v2 : Int32} {k a l w : Nat → Int32} {K A h x t : Nat} {F : Nat → List (Nat × Nat)} (hh : h ≤ 6) (ht : t ≤ h) (ht2 : t ≤ 2) (h6 : t = 0 → h < 6) (hv : K < 4 ∨ 8 < K → v2 = nI A) (hx : x ≤ 6) (har : tm_ar k a l F (tm_lv h x)) (hgd : tm_gd F (tm_lv h x))
    (hp4 : 24 < (tm_T0 F h t).length + 1 → post (-4) (f1, nI h, f3, k, a, l, w))
    (hp : (tm_T0 F h t).length + 1 ≤ 24 → ∀ k' a' l', tm_ar k' a' l' (tm_ff F (h - t) (tm_T0 F h t ++ [(K, A)])) (fun s => tm_lv h x s ∨ s = h - t) → post (nI (h - t + 1)) (f1, nI (h - t + 1), f3, k', a', l', w)) : ∃ n, wX_token_57 post (nI K) v2 (nI t) (nI (h - t)) f1 (nI h) f3 k a l w n 1 (nI (h - t)) := by
  rcases (by omega : t = 0 ∨ t = 1 ∨ t = 2) with rfl | rfl | rfl
  · refine ⟨1, br_t (nI_le (by omega) (by omega)) (br_t (by decide +kernel) (br_f (by decide +kernel) ?_))⟩
    exact tx_109 (T := []) (by omega) (by decide) hv (fun _ _ => ⟨rfl, rfl⟩) (fun _ _ => rfl) True.intro har hgd (hp (show 0 + 1 ≤ 24 by decide))
  · have lv : tm_lv h x (h - 1) := tm_top (by omega)
    obtain ⟨hl, hc⟩ := har _ lv
    obtain ⟨_, g1, g2, _⟩ := hgd _ lv
    have e1 : 1 + l (nI (h - 1)).toNatClampNeg = nI ((F (h - 1)).length + 1) := by rw [nI_clamp (by omega), hl, show (1 : Int32) = nI 1 from rfl, nI_add, Nat.add_comm]
    have e2 : nI (h - 1) + 1 = nI h := by rw [nI_1, show h - 1 + 1 = h by omega]
    refine ⟨2, br_f (nI_ge (by omega) (by omega)) ⟨vp_in_nI (by omega) (by omega), nm_r e1 (nm_r e2 (br_t (nI_le (Nat.le_refl _) (by omega)) (pk_le ((F (h - 1)).length + 1) 24 (fun c => br_f (by decide +kernel) ?_) (fun c => hp4 c))))⟩⟩
    exact tx_109 (T := F (h - 1)) (by omega) (by omega) hv (fun _ _ => ⟨rfl, rfl⟩) (fun _ _ => rfl) hc har hgd (hp c)
  · have lv1 : tm_lv h x (h - 1) := tm_top (by omega)
    have lv2 : tm_lv h x (h - 2) := Or.inl (by omega)
    obtain ⟨hl, hc⟩ := har _ lv1
    obtain ⟨_, g1, g2, _⟩ := hgd _ lv1
    obtain ⟨hl2, hc2⟩ := har _ lv2
    obtain ⟨_, g3, g4, _⟩ := hgd _ lv2
    have eL : (tm_T0 F h 2).length = (F (h - 2)).length + (F (h - 1)).length := List.length_append
    have e1 : 1 + l (nI (h - 2)).toNatClampNeg = nI ((F (h - 2)).length + 1) := by rw [nI_clamp (by omega), hl2, show (1 : Int32) = nI 1 from rfl, nI_add, Nat.add_comm]
    have e2 : nI (h - 2) + 1 = nI (h - 1) := by rw [nI_1, show h - 2 + 1 = h - 1 by omega]
    have e3 : nI ((F (h - 2)).length + 1) + l (nI (h - 1)).toNatClampNeg = nI ((tm_T0 F h 2).length + 1) := by rw [nI_clamp (by omega), hl, nI_add, eL, show (F (h - 2)).length + 1 + (F (h - 1)).length = (F (h - 2)).length + (F (h - 1)).length + 1 by omega]
    have e4 : nI (h - 1) + 1 = nI h := by rw [nI_1, show h - 1 + 1 = h by omega]
    refine ⟨3, br_f (nI_ge (by omega) (by omega)) ⟨vp_in_nI (by omega) (by omega), nm_r e1 (nm_r e2 (br_f (nI_ge (by omega) (by omega)) ⟨vp_in_nI (by omega) (by omega), nm_r e3 (nm_r e4 (br_t (nI_le (Nat.le_refl _) (by omega)) (pk_le ((tm_T0 F h 2).length + 1) 24 (fun c => br_t rfl ?_) (fun c => hp4 c))))⟩))⟩⟩
    refine tx_app (fr := h - 1) (nT := (F (h - 2)).length) (nL := (F (h - 1)).length) (by omega) (by omega) (by omega) e2 hl2 hl (by omega) ?_
    refine tx_109 (T := tm_T0 F h 2) (by omega) (by omega) hv (fun j hj => ⟨tm_cy_out (by omega), tm_cy_out (by omega)⟩) (fun s hs => pk_un hs) ?_ har hgd (hp c)
    exact tm_cy_ce (Nat.le_refl _) hc2 hc
/-! which tokens there are -/
def tm_tb (K : Nat) : Nat := if K = 0 ∨ K = 9 ∨ K = 10 then 3 else if K = 11 then 6 else 9
theorem tm_tok (v1 v2 : Int32) : (∃ K A, v1 = nI K ∧ K ≤ 11 ∧ ((4 ≤ K ∧ K ≤ 8) ∨ ((K < 4 ∨ 8 < K) ∧ A < tm_tb K ∧ v2 = nI A))) ∨ (v1 < 0 ∨ nI 12 ≤ v1) ∨ (∃ K, v1 = nI K ∧ K ≤ 11 ∧ (K < 4 ∨ 8 < K) ∧ (v2 < 0 ∨ nI (tm_tb K) ≤ v2)) := by
  rcases pk_ix v1 (n := 12) (by omega) with c | c | ⟨K, hK, rfl⟩
  · exact Or.inr (Or.inl (Or.inl c))
  · exact Or.inr (Or.inl (Or.inr c))
  · by_cases z : 4 ≤ K ∧ K ≤ 8
    · exact Or.inl ⟨K, 0, rfl, by omega, Or.inl z⟩
    · have hb : tm_tb K < 2 ^ 31 := by unfold tm_tb; split <;> (try split) <;> omega
      rcases pk_ix v2 (n := tm_tb K) hb with c | c | ⟨A, hA, rfl⟩
      · exact Or.inr (Or.inr ⟨K, rfl, by omega, by omega, Or.inl c⟩)
      · exact Or.inr (Or.inr ⟨K, rfl, by omega, by omega, Or.inr c⟩)
      · exact Or.inl ⟨K, A, rfl, by omega, Or.inr ⟨by omega, hA, rfl⟩⟩
theorem tx_58_0 {post : Int32 → Prop} {v2 c : Int32} (hv : v2 < 0 ∨ c ≤ v2) (h : post 0) : wX_isToken_58 post v2 c := by
  unfold wX_isToken_58
  exact br_c (fun _ => h) (fun z => br_t (hv.resolve_left z) h)
theorem tx_58_1 {post : Int32 → Prop} {A b : Nat} (hb : b < 10) (hA : A < b) (h : post 1) : wX_isToken_58 post (nI A) (nI b) := by
  unfold wX_isToken_58
  exact br_f (nI_pos (by omega)) (br_f (nI_ge hA (by omega)) h)
theorem tx_25 {post : Int32 → Prop} {v2 : Int32} {K : Nat} (hK : K ≤ 11) (hk : K < 4 ∨ 8 < K) (h : wX_isToken_58 post v2 (nI (tm_tb K))) : wX_isToken_25 post (nI K) v2 := by
  unfold wX_isToken_25 wX_isToken_44
  rcases (by omega : K = 0 ∨ K = 1 ∨ K = 2 ∨ K = 3 ∨ K = 9 ∨ K = 10 ∨ K = 11) with rfl | rfl | rfl | rfl | rfl | rfl | rfl
  · exact br_t rfl h
  · exact br_f (by decide +kernel) (br_f (by decide +kernel) (br_f (by decide +kernel) (br_f (by decide +kernel) h)))
  · exact br_f (by decide +kernel) (br_f (by decide +kernel) (br_f (by decide +kernel) (br_f (by decide +kernel) h)))
  · exact br_f (by decide +kernel) (br_f (by decide +kernel) (br_f (by decide +kernel) (br_f (by decide +kernel) h)))
  · exact br_f (by decide +kernel) (br_t rfl h)
  · exact br_f (by decide +kernel) (br_f (by decide +kernel) (br_t rfl h))
  · exact br_f (by decide +kernel) (br_f (by decide +kernel) (br_f (by decide +kernel) (br_t rfl h)))
theorem tx_tok_k {post : Int32 → Prop} {v2 : Int32} {K : Nat} (hK : K ≤ 11) (hk : K < 4 ∨ 8 < K) (h : wX_isToken_58 post v2 (nI (tm_tb K))) : wpX_isToken post (nI K) v2 := by
  unfold wpX_isToken
  exact br_f (nI_pos (by omega)) (br_t (nI_le (b := 11) hK (by omega)) (pk_lt K 4 (fun _ => tx_25 hK hk h) (fun _ => pk_lt 8 K (fun _ => tx_25 hK hk h) (fun c => absurd hk (by omega)))))
theorem tx_tok_o {post : Int32 → Prop} {v1 v2 : Int32} (hv : v1 < 0 ∨ nI 12 ≤ v1) (h : post 0) : wpX_isToken post v1 v2 := by
  unfold wpX_isToken
  refine br_c (fun _ => h) (fun z => br_f (fun y => ?_) h)
  have a := Int32.le_trans (hv.resolve_left z) y
  exact absurd a (by decide +kernel)
theorem tx_tok_m {post : Int32 → Prop} {v2 : Int32} {K : Nat} (hk : 4 ≤ K ∧ K ≤ 8) (h : post 1) : wpX_isToken post (nI K) v2 := by
  unfold wpX_isToken
  exact br_f (nI_pos (by omega)) (br_t (nI_le (b := 11) (by omega) (by omega)) (pk_lt K 4 (fun c => absurd c (by omega)) (fun _ => pk_lt 8 K (fun c => absurd c (by omega)) (fun _ => h))))
theorem tm_tb_lt (K : Nat) : tm_tb K < 10 := by unfold tm_tb; split <;> (try split) <;> omega
end
section
/-! one taken out, the later ones one down; the reference: calls that write -/
def tm_rt (F : Nat → List (Nat × Nat)) (i : Nat) (n : Nat) : Nat → List (Nat × Nat) := tm_it (fun j G => tm_ff G (6 + (i + j)) (G (7 + (i + j)))) F n
theorem tm_rt_s (F : Nat → List (Nat × Nat)) (i n : Nat) : tm_rt F i (n + 1) = tm_ff (tm_rt F i n) (6 + (i + n)) (tm_rt F i n (7 + (i + n))) := rfl
theorem tm_rt_gd {F : Nat → List (Nat × Nat)} {h x i : Nat} (hx : x ≤ 6) (hgd : tm_gd F (tm_lv h x)) : ∀ n, i + n + 1 ≤ x → tm_gd (tm_rt F i n) (tm_lv h x) := by
  intro n
  induction n with
  | zero => intro _; exact hgd
  | succ n ih =>
    intro hn
    have g := ih (by omega)
    have lv : tm_lv h x (7 + (i + n)) := Or.inr ⟨by omega, by omega⟩
    obtain ⟨_, g1, g2, g3⟩ := g _ lv
    rw [tm_rt_s]
    refine tm_gd_mono (tm_gd_put g (by omega) g1 g2 g3) (fun s hs => Or.inl hs)
theorem tx_ret26 {post : Int32 → SX → Prop} {f1 f2 : Int32} {F : Nat → List (Nat × Nat)} {h x i : Nat} {w : Nat → Int32} (hx : x ≤ 6) (hi : i < x) (hgd : tm_gd F (tm_lv h x)) :
    ∀ (r j : Nat) (k a l : Nat → Int32) (n : Nat), i + j + r = x - 1 → r < n → tm_ar k a l (tm_rt F i j) (tm_lv h x) →
      (∀ k' a' l', tm_ar k' a' l' (tm_rt F i (j + r)) (tm_lv h x) → post (nI (x - 1)) (f1, f2, nI (x - 1), k', a', l', w)) → wX_retract_26 post n (nI (i + j)) f1 f2 (nI (x - 1)) k a l w := by
  intro r
  induction r with
  | zero =>
    intro j k a l n hj hn har hp
    obtain ⟨n, rfl⟩ : ∃ q, n = q + 1 := ⟨n - 1, by omega⟩
    exact br_t (nI_le (by omega) (by omega)) (hp k a l har)
  | succ r ih =>
    intro j k a l n hj hn har hp
    obtain ⟨n, rfl⟩ : ∃ q, n = q + 1 := ⟨n - 1, by omega⟩
    have e1 : (6 + nI (i + j)) + 1 = nI (7 + (i + j)) := by
      rw [show (6 : Int32) = nI 6 from rfl, nI_add, nI_1, show 6 + (i + j) + 1 = 7 + (i + j) by omega]
    have lv : tm_lv h x (7 + (i + j)) := Or.inr ⟨by omega, by omega⟩
    refine br_f (nI_ge (by omega) (by omega)) (tx_rep e1 (nI_add 6 (i + j)) lv (by omega) (by omega) har (tm_rt_gd hx hgd j (by omega)) (fun k' a' l' har' => nm_r (nI_1 (i + j)) (ih (j + 1) k' a' l' n (by omega) (by omega) ?_ (fun k2 a2 l2 h2 => hp k2 a2 l2 ?_))))
    · rw [tm_rt_s]
      exact tm_ar_mono har' (fun s hs => Or.inl hs)
    · rw [show j + (r + 1) = j + 1 + r by omega]; exact h2
theorem ty_cop {post : SY → Prop} {f1 f2 f3 y z : Int32} {k a l w : Nat → Int32} {fr to : Nat} {F : Nat → List (Nat × Nat)} {S : Nat → Prop} (hy : y = nI fr) (hz : z = nI to) (hS : S fr) (ht : to < 12) (hne : fr ≠ to) (har : tm_ar k a l F S) (hgd : tm_gd F S)
    (hp : ∀ k' a' l', tm_ar k' a' l' (tm_ff F to (F fr)) (fun s => S s ∨ s = to) → post (f1, f2, f3, l', k', a', w)) : wpY_copy post (f1, f2, f3, l, k, a, w) y z := by
  subst hy hz
  obtain ⟨hf, h1, h24, hw⟩ := hgd fr hS
  obtain ⟨hl, hc⟩ := har fr hS
  unfold wpY_copy
  refine ⟨vp_in_nI hf (by omega), vp_in_nI ht (by omega), nm_r (e' := upd l to (nI (F fr).length)) (by rw [nI_clamp (by omega), nI_clamp (by omega), hl]) ?_⟩
  refine loop_0 (fun n i (s : (Nat → Int32) × (Nat → Int32)) => wY_copy_14 post (nI fr) (nI to) f1 f2 f3 n (nI i) (upd l to (nI (F fr).length)) s.1 s.2 w)
    (fun i s => s.1 = tm_cy k (24 * fr) (24 * to) i ∧ s.2 = tm_cy a (24 * fr) (24 * to) i) 24 (k, a) ⟨(tm_cy_0 _ _ _).symm, (tm_cy_0 _ _ _).symm⟩ ?_ ?_
  · intro n s hs
    obtain ⟨k', a'⟩ := s
    cases (show k' = _ from hs.1)
    cases (show a' = _ from hs.2)
    refine br_t (by decide +kernel) (hp _ _ _ ?_)
    refine tm_ar_put har (fun s hs => (hgd s hs).2.2.1) (fun j hj => ⟨tm_cy_out (by omega), tm_cy_out (by omega)⟩) (fun s hs => pk_un hs) ?_ pk_us
    exact tm_cy_ce (T := []) h24 True.intro hc
  · intro n i s hi hs kk
    obtain ⟨k', a'⟩ := s
    cases (show k' = _ from hs.1)
    cases (show a' = _ from hs.2)
    have c1 : (24 * nI fr + nI i).toNatClampNeg = 24 * fr + i := by rw [show (24 : Int32) = nI 24 from rfl, pk_mul, nI_add, nI_clamp (by omega)]
    have c2 : (24 * nI to + nI i).toNatClampNeg = 24 * to + i := by rw [show (24 : Int32) = nI 24 from rfl, pk_mul, nI_add, nI_clamp (by omega)]
    have v1 : vp_in (24 * nI fr + nI i) 288 := by rw [show (24 : Int32) = nI 24 from rfl, pk_mul, nI_add]; exact vp_in_nI (by omega) (by omega)
    have v2 : vp_in (24 * nI to + nI i) 288 := by rw [show (24 : Int32) = nI 24 from rfl, pk_mul, nI_add]; exact vp_in_nI (by omega) (by omega)
    refine br_f (nI_ge (b := 24) hi (by omega)) ⟨v1, v2, nm_r ?_ ⟨v1, v2, nm_r ?_ (nm_r (nI_1 i) (kk (_, _) ⟨rfl, rfl⟩))⟩⟩
    · rw [c1, c2]; exact tm_cy_s (by omega)
    · rw [c1, c2]; exact tm_cy_s (by omega)
theorem ty_ret16 {post : Int32 → SY → Prop} {f1 f2 : Int32} {F : Nat → List (Nat × Nat)} {h x i : Nat} {w : Nat → Int32} (hx : x ≤ 6) (hi : i < x) (hgd : tm_gd F (tm_lv h x)) :
    ∀ (r j : Nat) (k a l : Nat → Int32) (n : Nat), i + j + r = x - 1 → r < n → tm_ar k a l (tm_rt F i j) (tm_lv h x) →
      (∀ k' a' l', tm_ar k' a' l' (tm_rt F i (j + r)) (tm_lv h x) → post (nI (x - 1)) (f1, f2, nI (x - 1), l', k', a', w)) → wY_retract_16 post n (nI (i + j)) f1 f2 (nI x) l k a w := by
  have ex : nI x - 1 = nI (x - 1) := tm_hI (by omega)
  intro r
  induction r with
  | zero =>
    intro j k a l n hj hn har hp
    obtain ⟨n, rfl⟩ : ∃ q, n = q + 1 := ⟨n - 1, by omega⟩
    unfold wY_retract_16
    rw [ex]
    exact br_t (nI_le (by omega) (by omega)) (nm_e (hp k a l har))
  | succ r ih =>
    intro j k a l n hj hn har hp
    obtain ⟨n, rfl⟩ : ∃ q, n = q + 1 := ⟨n - 1, by omega⟩
    have lv : tm_lv h x (7 + (i + j)) := Or.inr ⟨by omega, by omega⟩
    unfold wY_retract_16
    rw [ex]
    refine br_f (nI_ge (by omega) (by omega)) (ty_cop (nI_add 7 (i + j)) (nI_add 6 (i + j)) lv (by omega) (by omega) har (tm_rt_gd hx hgd j (by omega)) (fun k' a' l' har' => nm_r (nI_1 (i + j)) (ih (j + 1) k' a' l' n (by omega) (by omega) ?_ (fun k2 a2 l2 h2 => hp k2 a2 l2 ?_))))
    · rw [tm_rt_s]
      exact tm_ar_mono har' (fun s hs => Or.inl hs)
    · rw [show j + (r + 1) = j + 1 + r by omega]; exact h2
theorem ty_app {post : SY → Prop} {f1 f2 f3 y z : Int32} {k a l w : Nat → Int32} {sl n : Nat} (hs : sl < 12) (hn : n < 24) (hl : l sl = nI n) (hp : post (f1, f2, f3, upd l sl (nI (n + 1)), upd k (24 * sl + n) y, upd a (24 * sl + n) z, w)) : wpY_append post (f1, f2, f3, l, k, a, w) (nI sl) y z := by
  have c0 : (nI sl).toNatClampNeg = sl := nI_clamp (by omega)
  have e1 : 24 * nI sl + l (nI sl).toNatClampNeg = nI (24 * sl + n) := by rw [c0, hl, show (24 : Int32) = nI 24 from rfl, pk_mul, nI_add]
  have e2 : l (nI sl).toNatClampNeg + 1 = nI (n + 1) := by rw [c0, hl, nI_1]
  have v1 : vp_in (nI sl) 12 := vp_in_nI hs (by omega)
  have v2 : vp_in (nI (24 * sl + n)) 288 := vp_in_nI (by omega) (by omega)
  have c2 : (nI (24 * sl + n)).toNatClampNeg = 24 * sl + n := nI_clamp (by omega)
  unfold wpY_append
  dsimp only
  rw [e1, e2, c2, c0]
  exact ⟨v1, v2, nm_e ⟨v1, v2, nm_e ⟨v1, v1, nm_e hp⟩⟩⟩
theorem ty_198 {post : Int32 → SY → Prop} {f1 f2 f3 v2 : Int32} {k a l k1 a1 l1 w : Nat → Int32} {K A sl : Nat} {T : List (Nat × Nat)} {F : Nat → List (Nat × Nat)} {S : Nat → Prop} (hs : sl < 12) (hT24 : T.length < 24) (hv : K < 4 ∨ 8 < K → v2 = nI A)
    (hk1 : ∀ j, (j < 24 * sl ∨ 24 * sl + 24 ≤ j) → k1 j = k j ∧ a1 j = a j) (hl1 : ∀ s, s ≠ sl → l1 s = l s) (hlT : l1 sl = nI T.length) (hT : tm_ce k1 a1 (24 * sl) T) (har : tm_ar k a l F S) (hgd : tm_gd F S)
    (hp : ∀ k' a' l', tm_ar k' a' l' (tm_ff F sl (T ++ [(K, A)])) (fun s => S s ∨ s = sl) → post (nI (sl + 1)) (f1, nI (sl + 1), f3, l', k', a', w)) : wY_token_198 post (nI K) v2 (nI sl) f1 f2 f3 l1 k1 a1 w := by
  unfold wY_token_198
  refine ty_app hs hT24 hlT (nm_r (nI_1 sl) (hp _ _ _ ?_))
  refine tm_ar_put har (fun s hs => (hgd s hs).2.2.1) (fun j hj => ⟨(pk_un (by omega)).trans (hk1 j hj).1, (pk_un (by omega)).trans (hk1 j hj).2⟩) (fun s hs => (pk_un hs).trans (hl1 s hs)) ?_ ?_
  · exact tm_ce_snoc (t := (K, A)) rfl hT rfl hv
  · rw [pk_us, List.length_append]; rfl
theorem ty_135 {post : Int32 → SY → Prop} {f1 f2 f3 x1 x2 : Int32} {k a l w : Nat → Int32} {sl nT nL : Nat} (hs : sl < 11) (hsz : nT + nL ≤ 24) (hlT : l sl = nI nT) (hlL : l (sl + 1) = nI nL)
    (hp : ∀ l', (∀ s, s ≠ sl → l' s = l s) → l' sl = nI (nT + nL) → wY_token_198 post x1 x2 (nI sl) f1 f2 f3 l' (tm_cy k (24 * (sl + 1)) (24 * sl + nT) nL) (tm_cy a (24 * (sl + 1)) (24 * sl + nT) nL) w) : ∃ n, wY_token_135 post x1 x2 (nI 2) (nI sl) n 0 f1 f2 f3 l k a w := by
  have v0 : vp_in (nI sl + 1) 12 := by rw [nI_1]; exact vp_in_nI (by omega) (by omega)
  have c0 : (nI sl + 1).toNatClampNeg = sl + 1 := by rw [nI_1, nI_clamp (by omega)]
  refine loop_0 (fun n i (s : (Nat → Int32) × (Nat → Int32) × (Nat → Int32)) => wY_token_135 post x1 x2 (nI 2) (nI sl) n (nI i) f1 f2 f3 s.1 s.2.1 s.2.2 w)
    (fun i s => ((∀ q, q ≠ sl → s.1 q = l q) ∧ s.1 sl = nI (nT + i)) ∧ s.2.1 = tm_cy k (24 * (sl + 1)) (24 * sl + nT) i ∧ s.2.2 = tm_cy a (24 * (sl + 1)) (24 * sl + nT) i) nL (l, k, a) ⟨⟨fun _ _ => rfl, hlT⟩, (tm_cy_0 _ _ _).symm, (tm_cy_0 _ _ _).symm⟩ ?_ ?_
  · intro n s hs2
    obtain ⟨l', k', a'⟩ := s
    obtain ⟨⟨g1, g2⟩, g3, g4⟩ := hs2
    cases (show k' = _ from g3)
    cases (show a' = _ from g4)
    dsimp only at g1 g2
    refine br_t rfl ⟨v0, br_t ?_ (hp l' g1 g2)⟩
    rw [c0]
    dsimp only
    rw [g1 (sl + 1) (by omega), hlL]
    exact nI_le (Nat.le_refl _) (by omega)
  · intro n i s hi hs2 kk
    obtain ⟨l', k', a'⟩ := s
    obtain ⟨⟨g1, g2⟩, g3, g4⟩ := hs2
    cases (show k' = _ from g3)
    cases (show a' = _ from g4)
    dsimp only at g1 g2
    have e1 : (24 * nI sl + 24) + nI i = nI (24 * (sl + 1) + i) := by rw [show (24 : Int32) = nI 24 from rfl, pk_mul, nI_add, nI_add, show 24 * sl + 24 + i = 24 * (sl + 1) + i by omega]
    have v1 : vp_in ((24 * nI sl + 24) + nI i) 288 := by rw [e1]; exact vp_in_nI (by omega) (by omega)
    have c1 : ((24 * nI sl + 24) + nI i).toNatClampNeg = 24 * (sl + 1) + i := by rw [e1, nI_clamp (by omega)]
    refine br_t rfl ⟨v0, br_f ?_ ⟨v1, v1, ty_app (n := nT + i) (by omega) (by omega) g2 (nm_r (nI_1 i) (kk (_, _, _) ⟨⟨fun q hq => (pk_un hq).trans (g1 q hq), pk_us⟩, ?_, ?_⟩))⟩⟩
    · rw [c0]
      dsimp only
      rw [g1 (sl + 1) (by omega), hlL]
      exact nI_ge hi (by omega)
    · dsimp only
      rw [c1, ← Nat.add_assoc]
      exact tm_cy_s (by omega)
    · dsimp only
      rw [c1, ← Nat.add_assoc]
      exact tm_cy_s (by omega)
theorem ty_75 {post : Int32 → SY → Prop} {f1 f3 v2 : Int32} {k a l w : Nat → Int32} {K A h x t : Nat} {F : Nat → List (Nat × Nat)} (hh : h ≤ 6) (ht : t ≤ h) (ht2 : t ≤ 2) (h6 : t = 0 → h < 6) (hv : K < 4 ∨ 8 < K → v2 = nI A) (hx : x ≤ 6) (har : tm_ar k a l F (tm_lv h x)) (hgd : tm_gd F (tm_lv h x))
    (hp4 : 24 < (tm_T0 F h t).length + 1 → post (-4) (f1, nI h, f3, l, k, a, w))
    (hp : (tm_T0 F h t).length + 1 ≤ 24 → ∀ k' a' l', tm_ar k' a' l' (tm_ff F (h - t) (tm_T0 F h t ++ [(K, A)])) (fun s => tm_lv h x s ∨ s = h - t) → post (nI (h - t + 1)) (f1, nI (h - t + 1), f3, l', k', a', w)) : ∃ n, wY_token_75 post (nI K) v2 (nI t) f1 (nI h) f3 l k a w n 1 (nI (h - t)) := by
  have es : nI h - nI t = nI (h - t) := pk_sub ht
  rcases (by omega : t = 0 ∨ t = 1 ∨ t = 2) with rfl | rfl | rfl
  · refine ⟨1, br_t (nI_le (by omega) (by omega)) (br_t (by decide +kernel) (nm_r es (br_t rfl ⟨vp_in_nI (by omega) (by omega), nm_r (e' := upd l (h - 0) (nI 0)) (by rw [nI_clamp (by omega)]; rfl) ⟨1, br_f (by decide +kernel) ?_⟩⟩)))⟩
    exact ty_198 (T := []) (by omega) (by decide) hv (fun _ _ => ⟨rfl, rfl⟩) (fun _ hs => pk_un hs) pk_us True.intro har hgd (hp (show 0 + 1 ≤ 24 by decide))
  · have lv : tm_lv h x (h - 1) := tm_top (by omega)
    obtain ⟨hl, hc⟩ := har _ lv
    obtain ⟨_, g1, g2, _⟩ := hgd _ lv
    have e1 : 1 + l (nI (h - 1)).toNatClampNeg = nI ((F (h - 1)).length + 1) := by rw [nI_clamp (by omega), hl, show (1 : Int32) = nI 1 from rfl, nI_add, Nat.add_comm]
    have e2 : nI (h - 1) + 1 = nI h := by rw [nI_1, show h - 1 + 1 = h by omega]
    refine ⟨2, br_f (nI_ge (by omega) (by omega)) ⟨vp_in_nI (by omega) (by omega), nm_r e1 (nm_r e2 (br_t (nI_le (Nat.le_refl _) (by omega)) (pk_le ((F (h - 1)).length + 1) 24 (fun c => nm_r es (br_f (by decide +kernel) ⟨1, br_f (by decide +kernel) ?_⟩)) (fun c => hp4 c))))⟩⟩
    exact ty_198 (T := F (h - 1)) (by omega) (by omega) hv (fun _ _ => ⟨rfl, rfl⟩) (fun _ _ => rfl) hl hc har hgd (hp c)
  · have lv1 : tm_lv h x (h - 1) := tm_top (by omega)
    have lv2 : tm_lv h x (h - 2) := Or.inl (by omega)
    obtain ⟨hl, hc⟩ := har _ lv1
    obtain ⟨_, g1, g2, _⟩ := hgd _ lv1
    obtain ⟨hl2, hc2⟩ := har _ lv2
    obtain ⟨_, g3, g4, _⟩ := hgd _ lv2
    have eL : (tm_T0 F h 2).length = (F (h - 2)).length + (F (h - 1)).length := List.length_append
    have e1 : 1 + l (nI (h - 2)).toNatClampNeg = nI ((F (h - 2)).length + 1) := by rw [nI_clamp (by omega), hl2, show (1 : Int32) = nI 1 from rfl, nI_add, Nat.add_comm]
    have e2 : nI (h - 2) + 1 = nI (h - 1) := by rw [nI_1, show h - 2 + 1 = h - 1 by omega]
    have e3 : nI ((F (h - 2)).length + 1) + l (nI (h - 1)).toNatClampNeg = nI ((tm_T0 F h 2).length + 1) := by rw [nI_clamp (by omega), hl, nI_add, eL, show (F (h - 2)).length + 1 + (F (h - 1)).length = (F (h - 2)).length + (F (h - 1)).length + 1 by omega]
    have e4 : nI (h - 1) + 1 = nI h := by rw [nI_1, show h - 1 + 1 = h by omega]
    have e5 : h - 2 + 1 = h - 1 := by omega
    refine ⟨3, br_f (nI_ge (by omega) (by omega)) ⟨vp_in_nI (by omega) (by omega), nm_r e1 (nm_r e2 (br_f (nI_ge (by omega) (by omega)) ⟨vp_in_nI (by omega) (by omega), nm_r e3 (nm_r e4 (br_t (nI_le (Nat.le_refl _) (by omega)) (pk_le ((tm_T0 F h 2).length + 1) 24 (fun c => nm_r es (br_f (by decide +kernel) ?_)) (fun c => hp4 c))))⟩))⟩⟩
    refine ty_135 (nT := (F (h - 2)).length) (nL := (F (h - 1)).length) (by omega) (by omega) hl2 (by rw [e5]; exact hl) (fun l' q1 q2 => ?_)
    rw [e5]
    refine ty_198 (T := tm_T0 F h 2) (by omega) (by omega) hv (fun j hj => ⟨tm_cy_out (by omega), tm_cy_out (by omega)⟩) q1 (by rw [eL]; exact q2) ?_ har hgd (hp c)
    exact tm_cy_ce (Nat.le_refl _) hc2 hc
theorem ty_rg0 {post : Int32 → Prop} {v2 : Int32} {b : Nat} (hb : b < 10) (hv : v2 < 0 ∨ nI (b + 1) ≤ v2) (h : post 0) : (v2 < 0 → post 0) ∧ (¬ v2 < 0 → ((nI b < v2 → post 0) ∧ (¬ nI b < v2 → post 1))) :=
  br_c (fun _ => h) (fun z => br_t (Int32.lt_of_lt_of_le (nI_lt (Nat.lt_succ_self b) (by omega)) (hv.resolve_left z)) h)
theorem ty_rg1 {post : Int32 → Prop} {A b : Nat} (hb : b < 10) (hA : A < b + 1) (h : post 1) : (nI A < 0 → post 0) ∧ (¬ nI A < 0 → ((nI b < nI A → post 0) ∧ (¬ nI b < nI A → post 1))) :=
  br_f (nI_pos (by omega)) (br_f (nI_nlt (by omega) (by omega)) h)
theorem ty_tok_k {post : Int32 → Prop} {u : SY} {v2 : Int32} {K : Nat} (hK : K ≤ 11) (hk : K < 4 ∨ 8 < K) (h : ∀ b, b + 1 = tm_tb K → (v2 < 0 → post 0) ∧ (¬ v2 < 0 → ((nI b < v2 → post 0) ∧ (¬ nI b < v2 → post 1)))) : wpY_isToken post u (nI K) v2 := by
  obtain ⟨f1, f2, f3, a1, a2, a3, a4⟩ := u
  unfold wpY_isToken wY_isToken_16 wY_isToken_57
  rcases (by omega : K = 0 ∨ K = 1 ∨ K = 2 ∨ K = 3 ∨ K = 9 ∨ K = 10 ∨ K = 11) with rfl | rfl | rfl | rfl | rfl | rfl | rfl
  · exact br_t rfl (h 2 rfl)
  · exact br_f (by decide +kernel) (br_f (by decide +kernel) (br_f (by decide +kernel) (br_f (by decide +kernel) (br_f (by decide +kernel) (h 8 rfl)))))
  · exact br_f (by decide +kernel) (br_f (by decide +kernel) (br_f (by decide +kernel) (br_f (by decide +kernel) (br_f (by decide +kernel) (h 8 rfl)))))
  · exact br_f (by decide +kernel) (br_f (by decide +kernel) (br_f (by decide +kernel) (br_f (by decide +kernel) (br_f (by decide +kernel) (h 8 rfl)))))
  · exact br_f (by decide +kernel) (br_t rfl (h 2 rfl))
  · exact br_f (by decide +kernel) (br_f (by decide +kernel) (br_t rfl (h 2 rfl)))
  · exact br_f (by decide +kernel) (br_f (by decide +kernel) (br_f (by decide +kernel) (br_f (by decide +kernel) (br_t (by decide +kernel) (br_t rfl (h 5 rfl))))))
theorem ty_tok_m {post : Int32 → Prop} {u : SY} {v2 : Int32} {K : Nat} (hk : 4 ≤ K ∧ K ≤ 8) (h : post 1) : wpY_isToken post u (nI K) v2 := by
  obtain ⟨f1, f2, f3, a1, a2, a3, a4⟩ := u
  unfold wpY_isToken wY_isToken_57
  refine pk_eq K 0 (fun c => absurd c (by omega)) (fun _ => pk_eq K 9 (fun c => absurd c (by omega)) (fun _ => pk_eq K 10 (fun c => absurd c (by omega)) (fun _ => pk_lt K 1 (fun c => absurd c (by omega)) (fun _ => pk_lt 3 K (fun _ => pk_eq K 11 (fun c => absurd c (by omega)) (fun _ => pk_lt K 4 (fun c => absurd c (by omega)) (fun _ => pk_lt 8 K (fun c => absurd c (by omega)) (fun _ => h)))) (fun c => absurd c (by omega))))))
theorem ty_tok_o {post : Int32 → Prop} {u : SY} {v1 v2 : Int32} (hv : v1 < 0 ∨ nI 12 ≤ v1) (h : post 0) : wpY_isToken post u v1 v2 := by
  obtain ⟨f1, f2, f3, a1, a2, a3, a4⟩ := u
  have ne : ∀ q, q < 12 → ¬ v1 = nI q := by
    intro q hq e
    subst e
    rcases hv with c | c
    · exact absurd c (nI_pos (by omega))
    · rw [nI_leI (by omega) (by omega)] at c; omega
  have g : wY_isToken_57 post v1 v2 f1 f2 f3 a1 a2 a3 a4 := by
    unfold wY_isToken_57
    refine br_f (ne 11 (by omega)) (br_c (fun _ => h) (fun c => br_t ?_ h))
    rcases hv with z | z
    · exact absurd (Int32.lt_trans z (by decide)) c
    · exact Int32.lt_of_lt_of_le (by decide +kernel) z
  unfold wpY_isToken
  refine br_f (ne 0 (by omega)) (br_f (ne 9 (by omega)) (br_f (ne 10 (by omega)) (br_c (fun _ => g) (fun c => br_t ?_ g))))
  rcases hv with z | z
  · exact absurd (Int32.lt_trans z (by decide)) c
  · exact Int32.lt_of_lt_of_le (by decide +kernel) z
end
section
/-! token, both sides -/
theorem tm_ok_of {K A : Nat} (hK : K ≤ 11) (h : (4 ≤ K ∧ K ≤ 8) ∨ ((K < 4 ∨ 8 < K) ∧ A < tm_tb K)) : tm_ok (K, A) := by
  unfold tm_ok
  unfold tm_tb at h
  dsimp only
  refine ⟨hK, fun z => ?_, fun z => ?_, fun z => ?_⟩
  · rw [if_pos z] at h; omega
  · rw [if_neg (by omega), if_neg (by omega)] at h; omega
  · rw [if_neg (by omega), if_pos z] at h; omega
theorem tm_T0_wf {F : Nat → List (Nat × Nat)} {h x t : Nat} (ht : t ≤ h) (ht2 : t ≤ 2) (hgd : tm_gd F (tm_lv h x)) : tm_wf (tm_T0 F h t) 0 t := by
  rcases (by omega : t = 0 ∨ t = 1 ∨ t = 2) with rfl | rfl | rfl
  · exact rfl
  · exact (hgd (h - 1) (tm_top (by omega))).2.2.2
  · exact tm_wf_app _ _ 0 1 2 (hgd (h - 2) (Or.inl (by omega))).2.2.2 (tm_wf_sh _ 0 1 1 (hgd (h - 1) (tm_top (by omega))).2.2.2)
theorem tx_token {post : Int32 → SX → Prop} {v2 : Int32} {d h x K A : Nat} {F : Nat → List (Nat × Nat)} {k a l w : Nat → Int32} (G : tm_I d h x F) (har : tm_ar k a l F (tm_lv h x)) (hK : K ≤ 11) (htok : ∀ q : Int32 → Prop, q 1 → wpX_isToken q (nI K) v2) (hv : K < 4 ∨ 8 < K → v2 = nI A)
    (p2 : h < tm_tk K → post (-2) (nI d, nI h, nI x, k, a, l, w)) (p3 : tm_tk K = 0 → h = 6 → post (-3) (nI d, nI h, nI x, k, a, l, w))
    (p4 : tm_tk K ≤ h → (tm_tk K = 0 → h < 6) → 24 < (tm_T0 F h (tm_tk K)).length + 1 → post (-4) (nI d, nI h, nI x, k, a, l, w))
    (p5 : tm_tk K ≤ h → (tm_tk K = 0 → h < 6) → (tm_T0 F h (tm_tk K)).length + 1 ≤ 24 → ∀ k' a' l', tm_ar k' a' l' (tm_ff F (h - tm_tk K) (tm_T0 F h (tm_tk K) ++ [(K, A)])) (fun s => tm_lv h x s ∨ s = h - tm_tk K) → post (nI (h - tm_tk K + 1)) (nI d, nI (h - tm_tk K + 1), nI x, k', a', l', w)) :
    wpX_token post (nI d, nI h, nI x, k, a, l, w) (nI K) v2 := by
  obtain ⟨h0, h3, hh, hx, hgd⟩ := G
  have ht2 := tm_tk_le K
  unfold wpX_token
  refine htok _ (br_f (by decide) (tx_tak hK ?_))
  have g : tm_tk K ≤ h → (tm_tk K = 0 → h < 6) → wX_token_42 post (nI K) v2 (nI (tm_tk K)) (nI d) (nI h) (nI x) k a l w := by
    intro c c0
    unfold wX_token_42
    exact nm_r (pk_sub c) (tx_57 hh c ht2 c0 hv hx har hgd (p4 c c0) (p5 c c0))
  exact pk_le (tm_tk K) h (fun c => pk_eq (tm_tk K) 0 (fun c0 => pk_eq h 6 (fun c6 => p3 c0 c6) (fun c6 => g c (fun _ => by omega))) (fun c0 => g c (fun z => absurd z c0))) (fun c => p2 c)
theorem ty_token {post : Int32 → SY → Prop} {v2 : Int32} {d h x K A : Nat} {F : Nat → List (Nat × Nat)} {k a l w : Nat → Int32} (G : tm_I d h x F) (har : tm_ar k a l F (tm_lv h x)) (hK : K ≤ 11) (htok : ∀ q : Int32 → Prop, q 1 → wpY_isToken q (nI d, nI h, nI x, l, k, a, w) (nI K) v2) (hv : K < 4 ∨ 8 < K → v2 = nI A)
    (p2 : h < tm_tk K → post (-2) (nI d, nI h, nI x, l, k, a, w)) (p3 : tm_tk K = 0 → h = 6 → post (-3) (nI d, nI h, nI x, l, k, a, w))
    (p4 : tm_tk K ≤ h → (tm_tk K = 0 → h < 6) → 24 < (tm_T0 F h (tm_tk K)).length + 1 → post (-4) (nI d, nI h, nI x, l, k, a, w))
    (p5 : tm_tk K ≤ h → (tm_tk K = 0 → h < 6) → (tm_T0 F h (tm_tk K)).length + 1 ≤ 24 → ∀ k' a' l', tm_ar k' a' l' (tm_ff F (h - tm_tk K) (tm_T0 F h (tm_tk K) ++ [(K, A)])) (fun s => tm_lv h x s ∨ s = h - tm_tk K) → post (nI (h - tm_tk K + 1)) (nI d, nI (h - tm_tk K + 1), nI x, l', k', a', w)) :
    wpY_token post (nI d, nI h, nI x, l, k, a, w) (nI K) v2 := by
  obtain ⟨h0, h3, hh, hx, hgd⟩ := G
  have ht2 := tm_tk_le K
  have g : tm_tk K ≤ h → (tm_tk K = 0 → h < 6) → ∃ n, wY_token_75 post (nI K) v2 (nI (tm_tk K)) (nI d) (nI h) (nI x) l k a w n 1 (nI (h - tm_tk K)) := by
    intro c c0
    exact ty_75 hh c ht2 c0 hv hx har hgd (p4 c c0) (p5 c c0)
  have e : wY_token_36 post (nI K) v2 (nI (tm_tk K)) (nI d) (nI h) (nI x) l k a w := by
    unfold wY_token_36
    exact pk_le (tm_tk K) h (fun c => pk_eq (tm_tk K) 0 (fun c0 => pk_eq h 6 (fun c6 => p3 c0 c6) (fun c6 => nm_r (pk_sub c) (g c (fun _ => by omega)))) (fun c0 => nm_r (pk_sub c) (g c (fun z => absurd z c0)))) (fun c => p2 c)
  unfold wpY_token
  refine htok _ (br_f (by decide) ?_)
  unfold tm_tk at e
  refine pk_le 4 K (fun a => pk_lt K 5 (fun b => ?_) (fun b => pk_lt 8 K (fun c => ?_) (fun c => ?_))) (fun a => ?_)
  · rw [if_neg (by omega), if_neg (by omega)] at e; exact e
  · rw [if_neg (by omega), if_neg (by omega)] at e; exact e
  · rw [if_neg (by omega), if_pos (by omega)] at e; exact e
  · rw [if_pos (by omega)] at e; exact e
end
section
/-! the relation, and what is owed -/
def tm_X (u : SX) (d h x : Nat) (F : Nat → List (Nat × Nat)) : Prop := ∃ k a l w, u = (nI d, nI h, nI x, k, a, l, w) ∧ tm_ar k a l F (tm_lv h x)
def tm_Y (v : SY) (d h x : Nat) (F : Nat → List (Nat × Nat)) : Prop := ∃ k a l w, v = (nI d, nI h, nI x, l, k, a, w) ∧ tm_ar k a l F (tm_lv h x)
/-- the same d, the same numbers of formulas and rules, and in every slot in use the same well-formed tokens -/
def i_Rel (k : Nat) (u : SX) (v : SY) : Prop := ∃ d h x F, tm_X u d h x F ∧ tm_Y v d h x F ∧ tm_I d h x F
theorem i_up {k : Nat} {u : SX} {v : SY} (h : i_Rel k u v) : i_Rel (k + 3) u v := h
theorem tm_mkr {q d h x : Nat} {F : Nat → List (Nat × Nat)} {k a l w k' a' l' w' : Nat → Int32} (hX : tm_ar k a l F (tm_lv h x)) (hY : tm_ar k' a' l' F (tm_lv h x)) (G : tm_I d h x F) : i_Rel q (nI d, nI h, nI x, k, a, l, w) (nI d, nI h, nI x, l', k', a', w') :=
  ⟨d, h, x, F, ⟨k, a, l, w, rfl, hX⟩, ⟨k', a', l', w', rfl, hY⟩, G⟩
theorem i_vc0 : wpX_init (fun u => wpY_init (fun v => i_Rel 0 u v)) :=
  tm_mkr (q := 0) (d := 2) (h := 0) (x := 0) (F := fun _ => []) (fun s hs => by unfold tm_lv at hs; omega) (fun s hs => by unfold tm_lv at hs; omega) ⟨by omega, by omega, by omega, by omega, fun s hs => by unfold tm_lv at hs; omega⟩
theorem i_vc_domain {k : Nat} {u : SX} {v : SY} (I : i_Rel k u v) (hk : k + 3 ≤ 1536) (v1 : Int32) : wpX_domain (fun r u' => wpY_domain (fun r' v' => r' = r ∧ i_Rel (k + 3) u' v') v v1) u v1 := by
  obtain ⟨d, h, x, F, ⟨k1, a1, l1, w1, rfl, hX⟩, ⟨k2, a2, l2, w2, rfl, hY⟩, G⟩ := I
  by_cases c1 : v1 < 1
  · exact br_t c1 (br_t c1 ⟨rfl, tm_mkr hX hY G⟩)
  · by_cases c2 : v1 ≤ 3
    · obtain ⟨D, hD, rfl⟩ := nI_of (x := v1) (fun z => c1 (Int32.lt_trans z (by decide)))
      have d1 : 1 ≤ D := by
        rcases Nat.lt_or_ge D 1 with z | z
        · exact absurd (nI_lt (b := 1) z (by omega)) c1
        · exact z
      have d3 : D ≤ 3 := (nI_leI (b := 3) hD (by omega)).mp c2
      obtain ⟨h0, h3, hh, hx, hgd⟩ := G
      exact br_f c1 (br_t c2 (tx_int d1 d3 (br_f c1 (br_t c2 (ty_int d1 d3 ⟨rfl, tm_mkr hX hY ⟨d1, d3, hh, hx, hgd⟩⟩)))))
    · exact br_f c1 (br_f c2 (br_f c1 (br_f c2 ⟨rfl, tm_mkr hX hY G⟩)))
theorem i_vc_token {k : Nat} {u : SX} {v : SY} (I : i_Rel k u v) (hk : k + 3 ≤ 1536) (v1 : Int32) (v2 : Int32) : wpX_token (fun r u' => wpY_token (fun r' v' => r' = r ∧ i_Rel (k + 3) u' v') v v1 v2) u v1 v2 := by
  obtain ⟨d, h, x, F, ⟨k1, a1, l1, w1, rfl, hX⟩, ⟨k2, a2, l2, w2, rfl, hY⟩, G⟩ := I
  rcases tm_tok v1 v2 with ⟨K, A, rfl, hK, hc⟩ | c | ⟨K, rfl, hK, hk4, hc⟩
  · have hv : K < 4 ∨ 8 < K → v2 = nI A := by
      intro z
      rcases hc with c | c
      · omega
      · exact c.2.2
    have tX : ∀ q : Int32 → Prop, q 1 → wpX_isToken q (nI K) v2 := by
      intro q hq
      rcases hc with c | ⟨c1, c2, c3⟩
      · exact tx_tok_m c hq
      · subst c3
        exact tx_tok_k hK c1 (tx_58_1 (tm_tb_lt K) c2 hq)
    have tY : ∀ (q : Int32 → Prop), q 1 → wpY_isToken q (nI d, nI h, nI x, l2, k2, a2, w2) (nI K) v2 := by
      intro q hq
      rcases hc with c | ⟨c1, c2, c3⟩
      · exact ty_tok_m c hq
      · subst c3
        have hb := tm_tb_lt K
        exact ty_tok_k hK c1 (fun b eb => ty_rg1 (by omega) (by omega) hq)
    have hok : tm_ok (K, A) := tm_ok_of hK (hc.imp id (fun c => ⟨c.1, c.2.1⟩))
    obtain ⟨h0, h3, hh, hx, hgd⟩ := id G
    have ht2 := tm_tk_le K
    refine tx_token G hX hK tX hv (fun c => ?_) (fun c c' => ?_) (fun c c' c'' => ?_) (fun c c' c'' k3 a3 l3 hX3 => ?_)
    · exact ty_token G hY hK tY hv (fun _ => ⟨rfl, tm_mkr hX hY G⟩) (fun z _ => absurd z (by omega)) (fun z _ _ => absurd z (by omega)) (fun z _ _ => absurd z (by omega))
    · exact ty_token G hY hK tY hv (fun z => absurd z (by omega)) (fun _ _ => ⟨rfl, tm_mkr hX hY G⟩) (fun _ z _ => absurd (z c) (by omega)) (fun _ z _ => absurd (z c) (by omega))
    · exact ty_token G hY hK tY hv (fun z => absurd z (by omega)) (fun z y => absurd (c' z) (by omega)) (fun _ _ _ => ⟨rfl, tm_mkr hX hY G⟩) (fun _ _ z => absurd z (by omega))
    · refine ty_token G hY hK tY hv (fun z => absurd z (by omega)) (fun z y => absurd (c' z) (by omega)) (fun _ _ z => absurd z (by omega)) (fun _ _ _ k4 a4 l4 hY4 => ⟨rfl, ?_⟩)
      have live : ∀ s, tm_lv (h - tm_tk K + 1) x s → tm_lv h x s ∨ s = h - tm_tk K := by
        intro s hs
        unfold tm_lv at hs ⊢
        omega
      have wf : tm_wf (tm_T0 F h (tm_tk K) ++ [(K, A)]) 0 1 := by
        have g := tm_wf_app _ _ 0 (tm_tk K) _ (tm_T0_wf c ht2 hgd) (tm_wf_1 hok (Nat.le_refl (tm_tk K)))
        rw [Nat.sub_self] at g
        exact g
      have len : (tm_T0 F h (tm_tk K) ++ [(K, A)]).length = (tm_T0 F h (tm_tk K)).length + 1 := by rw [List.length_append]; rfl
      refine tm_mkr (tm_ar_mono hX3 live) (tm_ar_mono hY4 live) ⟨h0, h3, ?_, hx, tm_gd_mono (tm_gd_put hgd (by omega) (by omega) (by omega) wf) live⟩
      by_cases z : tm_tk K = 0
      · have := c' z; omega
      · omega
  · unfold wpX_token
    refine tx_tok_o c (br_t rfl ?_)
    unfold wpY_token
    refine ty_tok_o c (br_t rfl ?_)
    exact ⟨rfl, tm_mkr hX hY G⟩
  · have hb := tm_tb_lt K
    unfold wpX_token
    refine tx_tok_k hK hk4 (tx_58_0 hc (br_t rfl ?_))
    unfold wpY_token
    refine ty_tok_k hK hk4 (fun b eb => ?_)
    have hc' : v2 < 0 ∨ nI (b + 1) ≤ v2 := by rw [eb]; exact hc
    exact br_c (fun _ => br_t rfl ⟨rfl, tm_mkr hX hY G⟩) (fun z => br_t (Int32.lt_of_lt_of_le (nI_lt (Nat.lt_succ_self b) (by omega)) (hc'.resolve_left z)) (br_t rfl ⟨rfl, tm_mkr hX hY G⟩))
theorem i_vc_drop {k : Nat} {u : SX} {v : SY} (I : i_Rel k u v) (hk : k + 3 ≤ 1536) : wpX_drop (fun r u' => wpY_drop (fun r' v' => r' = r ∧ i_Rel (k + 3) u' v') v) u := by
  obtain ⟨d, h, x, F, ⟨k1, a1, l1, w1, rfl, hX⟩, ⟨k2, a2, l2, w2, rfl, hY⟩, G⟩ := I
  obtain ⟨h0, h3, hh, hx, hgd⟩ := id G
  unfold wpX_drop wpY_drop
  refine pk_eq h 0 (fun c => pk_eq h 0 (fun _ => ⟨rfl, tm_mkr hX hY G⟩) (fun z => absurd c z)) (fun c => nm_r (tm_hI (by omega)) (pk_eq h 0 (fun z => absurd z c) (fun _ => nm_r (tm_hI (by omega)) ⟨rfl, ?_⟩)))
  have live : ∀ s, tm_lv (h - 1) x s → tm_lv h x s := by
    intro s hs
    unfold tm_lv at hs ⊢
    omega
  exact tm_mkr (tm_ar_mono hX live) (tm_ar_mono hY live) ⟨h0, h3, by omega, hx, tm_gd_mono hgd live⟩
theorem i_vc_axiom {k : Nat} {u : SX} {v : SY} (I : i_Rel k u v) (hk : k + 3 ≤ 1536) : wpX_axiom (fun r u' => wpY_axiom (fun r' v' => r' = r ∧ i_Rel (k + 3) u' v') v) u := by
  obtain ⟨d, h, x, F, ⟨k1, a1, l1, w1, rfl, hX⟩, ⟨k2, a2, l2, w2, rfl, hY⟩, G⟩ := I
  obtain ⟨h0, h3, hh, hx, hgd⟩ := id G
  unfold wpX_axiom wpY_axiom
  refine pk_eq h 0 (fun c => pk_eq h 0 (fun _ => ⟨rfl, tm_mkr hX hY G⟩) (fun z => absurd c z)) (fun c => pk_eq x 6 (fun c6 => pk_eq h 0 (fun z => absurd z c) (fun _ => pk_eq x 6 (fun _ => ⟨rfl, tm_mkr hX hY G⟩) (fun z => absurd c6 z))) (fun c6 => nm_r (tm_hI (by omega)) ?_))
  have lv : tm_lv h x (h - 1) := tm_top (by omega)
  obtain ⟨_, g1, g2, g3⟩ := hgd _ lv
  refine tx_rep (fr := h - 1) (to := 6 + x) rfl (nI_add 6 x) lv (by omega) (by omega) hX hgd (fun k3 a3 l3 hX3 => nm_r (nI_1 x) ?_)
  refine pk_eq h 0 (fun z => absurd z c) (fun _ => pk_eq x 6 (fun z => absurd z c6) (fun _ => ?_))
  refine ty_cop (fr := h - 1) (to := 6 + x) (tm_hI (by omega)) (nI_add 6 x) lv (by omega) (by omega) hY hgd (fun k4 a4 l4 hY4 => nm_r (tm_hI (by omega)) (nm_r (nI_1 x) ⟨rfl, ?_⟩))
  have live : ∀ s, tm_lv (h - 1) (x + 1) s → tm_lv h x s ∨ s = 6 + x := by
    intro s hs
    unfold tm_lv at hs ⊢
    omega
  exact tm_mkr (tm_ar_mono hX3 live) (tm_ar_mono hY4 live) ⟨h0, h3, by omega, by omega, tm_gd_mono (tm_gd_put hgd (by omega) g1 g2 g3) live⟩
theorem i_vc_retract {k : Nat} {u : SX} {v : SY} (I : i_Rel k u v) (hk : k + 3 ≤ 1536) (v1 : Int32) : wpX_retract (fun r u' => wpY_retract (fun r' v' => r' = r ∧ i_Rel (k + 3) u' v') v v1) u v1 := by
  obtain ⟨d, h, x, F, ⟨k1, a1, l1, w1, rfl, hX⟩, ⟨k2, a2, l2, w2, rfl, hY⟩, G⟩ := I
  obtain ⟨h0, h3, hh, hx, hgd⟩ := id G
  rcases pk_ix v1 (n := x) (by omega) with c | c | ⟨i, hi, rfl⟩
  · exact br_t c (br_t c ⟨rfl, tm_mkr hX hY G⟩)
  · have z : ¬ v1 < 0 := Int32.not_lt.mpr (Int32.le_trans (nI_pos' (n := x) (by omega)) c)
    exact br_f z (br_f (Int32.not_lt.mpr c) (br_f z (br_f (Int32.not_lt.mpr c) ⟨rfl, tm_mkr hX hY G⟩)))
  · refine br_f (nI_pos (by omega)) (br_t (nI_lt hi (by omega)) (nm_r (tm_hI (by omega)) ⟨x + 1, tx_ret26 hx hi hgd (x - 1 - i) 0 k1 a1 l1 _ (by omega) (by omega) hX (fun k3 a3 l3 hX3 => ?_)⟩))
    refine br_f (nI_pos (by omega)) (br_t (nI_lt hi (by omega)) ⟨x + 1, ty_ret16 hx hi hgd (x - 1 - i) 0 k2 a2 l2 _ (by omega) (by omega) hY (fun k4 a4 l4 hY4 => ⟨rfl, ?_⟩)⟩)
    have live : ∀ s, tm_lv h (x - 1) s → tm_lv h x s := by
      intro s hs
      unfold tm_lv at hs ⊢
      omega
    exact tm_mkr (tm_ar_mono hX3 live) (tm_ar_mono hY4 live) ⟨h0, h3, hh, by omega, tm_gd_mono (tm_rt_gd hx hgd _ (by omega)) live⟩
theorem i_vc_models {k : Nat} {u : SX} {v : SY} (I : i_Rel k u v) (hk : k + 3 ≤ 1536) : wpX_models (fun r u' => wpY_models (fun r' v' => r' = r ∧ i_Rel (k + 3) u' v') v) u := by
  obtain ⟨d, h, x, F, ⟨k1, a1, l1, w1, rfl, hX⟩, ⟨k2, a2, l2, w2, rfl, hY⟩, G⟩ := I
  exact tx_models G hX (fun w3 => ty_models G hY (fun w4 => ⟨rfl, tm_mkr hX hY G⟩))
theorem i_vc_next {k : Nat} {u : SX} {v : SY} (I : i_Rel k u v) (hk : k + 3 ≤ 1536) (v1 : Int32) : wpX_next (fun r u' => wpY_next (fun r' v' => r' = r ∧ i_Rel (k + 3) u' v') v v1) u v1 := by
  obtain ⟨d, h, x, F, ⟨k1, a1, l1, w1, rfl, hX⟩, ⟨k2, a2, l2, w2, rfl, hY⟩, G⟩ := I
  obtain ⟨h0, h3, hh, hx, hgd⟩ := id G
  exact tx_next G hX (fun w3 => ty_next h0 h3 hx hgd hY (fun w4 => ⟨rfl, tm_mkr hX hY G⟩))
theorem i_vc_isModel {k : Nat} {u : SX} {v : SY} (I : i_Rel k u v) (hk : k + 3 ≤ 1536) (v1 : Int32) : wpX_isModel (fun r u' => wpY_isModel (fun r' v' => r' = r ∧ i_Rel (k + 3) u' v') v v1) u v1 := by
  obtain ⟨d, h, x, F, ⟨k1, a1, l1, w1, rfl, hX⟩, ⟨k2, a2, l2, w2, rfl, hY⟩, G⟩ := I
  obtain ⟨h0, h3, hh, hx, hgd⟩ := id G
  have hN := tm_N_le d (by omega)
  have no : (v1 < 0 ∨ nI (tm_N d) ≤ v1) → wpX_isModel (fun r u' => wpY_isModel (fun r' v' => r' = r ∧ i_Rel (k + 3) u' v') (nI d, nI h, nI x, l2, k2, a2, w2) v1) (nI d, nI h, nI x, k1, a1, l1, w1) v1 := by
    intro c
    unfold wpX_isModel wpY_isModel
    exact tx_isI0 h0 h3 c (br_t rfl (ty_isI0 h0 h3 c (br_t rfl ⟨rfl, tm_mkr hX hY G⟩)))
  rcases pk_ix v1 (n := tm_N d) (by omega) with c | c | ⟨i, hi, rfl⟩
  · exact no (Or.inl c)
  · exact no (Or.inr c)
  · unfold wpX_isModel wpY_isModel
    refine tx_isI1 h0 h3 hi (br_f (by decide) (tx_sat hx (fun i hi => tm_lvx h hi) h0 h3 hX hgd (fun w3 => tm_br (fun z => ?_) (fun z => ?_))))
    · exact ty_isI1 h0 h3 hi (br_f (by decide) (ty_fit hx (fun i hi => tm_lvx h hi) h0 h3 hY hgd (fun w4 => tm_br (fun _ => ⟨rfl, tm_mkr hX hY G⟩) (fun y => by rw [z] at y; exact absurd y (by decide)))))
    · exact ty_isI1 h0 h3 hi (br_f (by decide) (ty_fit hx (fun i hi => tm_lvx h hi) h0 h3 hY hgd (fun w4 => tm_br (fun y => by rw [z] at y; exact absurd y (by decide)) (fun _ => ⟨rfl, tm_mkr hX hY G⟩))))
theorem i_vc_shapes {k : Nat} {u : SX} {v : SY} (I : i_Rel k u v) (hk : k + 3 ≤ 1536) : wpX_shapes (fun r u' => wpY_shapes (fun r' v' => r' = r ∧ i_Rel (k + 3) u' v') v) u := by
  obtain ⟨d, h, x, F, ⟨k1, a1, l1, w1, rfl, hX⟩, ⟨k2, a2, l2, w2, rfl, hY⟩, G⟩ := I
  exact tx_shapes G hX (fun w3 => ty_shapes G hY (fun w4 => ⟨rfl, tm_mkr hX hY G⟩))
theorem i_vc_sameShape {k : Nat} {u : SX} {v : SY} (I : i_Rel k u v) (hk : k + 3 ≤ 1536) (v1 : Int32) (v2 : Int32) : wpX_sameShape (fun r => wpY_sameShape (fun r' => r' = r ∧ i_Rel (k + 3) u v) v v1 v2) u v1 v2 := by
  obtain ⟨d, h, x, F, ⟨k1, a1, l1, w1, rfl, hX⟩, ⟨k2, a2, l2, w2, rfl, hY⟩, G⟩ := I
  obtain ⟨h0, h3, hh, hx, hgd⟩ := id G
  have hN := tm_N_le d (by omega)
  have R : i_Rel (k + 3) (nI d, nI h, nI x, k1, a1, l1, w1) (nI d, nI h, nI x, l2, k2, a2, w2) := tm_mkr hX hY G
  have no : (v1 < 0 ∨ nI (tm_N d) ≤ v1) → wpX_sameShape (fun r => wpY_sameShape (fun r' => r' = r ∧ i_Rel (k + 3) (nI d, nI h, nI x, k1, a1, l1, w1) (nI d, nI h, nI x, l2, k2, a2, w2)) (nI d, nI h, nI x, l2, k2, a2, w2) v1 v2) (nI d, nI h, nI x, k1, a1, l1, w1) v1 v2 := by
    intro c
    unfold wpX_sameShape wpY_sameShape
    exact tx_isI0 h0 h3 c (br_t rfl (ty_isI0 h0 h3 c (br_t rfl ⟨rfl, R⟩)))
  rcases pk_ix v1 (n := tm_N d) (by omega) with c | c | ⟨i, hi, rfl⟩
  · exact no (Or.inl c)
  · exact no (Or.inr c)
  · have no2 : (v2 < 0 ∨ nI (tm_N d) ≤ v2) → wpX_sameShape (fun r => wpY_sameShape (fun r' => r' = r ∧ i_Rel (k + 3) (nI d, nI h, nI x, k1, a1, l1, w1) (nI d, nI h, nI x, l2, k2, a2, w2)) (nI d, nI h, nI x, l2, k2, a2, w2) (nI i) v2) (nI d, nI h, nI x, k1, a1, l1, w1) (nI i) v2 := by
      intro c
      unfold wpX_sameShape wpY_sameShape
      exact tx_isI1 h0 h3 hi (br_f (by decide) (tx_isI0 h0 h3 c (br_t rfl (ty_isI1 h0 h3 hi (br_f (by decide) (ty_isI0 h0 h3 c (br_t rfl ⟨rfl, R⟩)))))))
    rcases pk_ix v2 (n := tm_N d) (by omega) with c | c | ⟨j, hj, rfl⟩
    · exact no2 (Or.inl c)
    · exact no2 (Or.inr c)
    · unfold wpX_sameShape wpY_sameShape
      have hc := tm_cn_le (fun q => tm_oo q d && decide (tm_mv (nI i) d (tm_el q) d = nI j)) 27
      refine tx_isI1 h0 h3 hi (br_f (by decide) (tx_isI1 h0 h3 hj (br_f (by decide) (tx_mt h3 (br_c (fun z => ?_) (fun z => ?_))))))
      · exact ty_isI1 h0 h3 hi (br_f (by decide) (ty_isI1 h0 h3 hj (br_f (by decide) (ty_mt h0 h3 (br_t z ⟨rfl, R⟩)))))
      · exact ty_isI1 h0 h3 hi (br_f (by decide) (ty_isI1 h0 h3 hj (br_f (by decide) (ty_mt h0 h3 (br_f z ⟨rfl, R⟩)))))
theorem i_vc_symmetries {k : Nat} {u : SX} {v : SY} (I : i_Rel k u v) (hk : k + 3 ≤ 1536) (v1 : Int32) : wpX_symmetries (fun r => wpY_symmetries (fun r' => r' = r ∧ i_Rel (k + 3) u v) v v1) u v1 := by
  obtain ⟨d, h, x, F, ⟨k1, a1, l1, w1, rfl, hX⟩, ⟨k2, a2, l2, w2, rfl, hY⟩, G⟩ := I
  obtain ⟨h0, h3, hh, hx, hgd⟩ := id G
  have hN := tm_N_le d (by omega)
  have R : i_Rel (k + 3) (nI d, nI h, nI x, k1, a1, l1, w1) (nI d, nI h, nI x, l2, k2, a2, w2) := tm_mkr hX hY G
  unfold wpX_symmetries wpY_symmetries
  rcases pk_ix v1 (n := tm_N d) (by omega) with c | c | ⟨i, hi, rfl⟩
  · exact tx_isI0 h0 h3 (Or.inl c) (br_t rfl (ty_isI0 h0 h3 (Or.inl c) (br_t rfl ⟨rfl, R⟩)))
  · exact tx_isI0 h0 h3 (Or.inr c) (br_t rfl (ty_isI0 h0 h3 (Or.inr c) (br_t rfl ⟨rfl, R⟩)))
  · exact tx_isI1 h0 h3 hi (br_f (by decide) (tx_mt h3 (ty_isI1 h0 h3 hi (br_f (by decide) (ty_mt h0 h3 ⟨rfl, R⟩)))))
theorem i_vc_forced {k : Nat} {u : SX} {v : SY} (I : i_Rel k u v) (hk : k + 3 ≤ 1536) (v1 : Int32) : wpX_forced (fun r u' => wpY_forced (fun r' v' => r' = r ∧ i_Rel (k + 3) u' v') v v1) u v1 := by
  obtain ⟨d, h, x, F, ⟨k1, a1, l1, w1, rfl, hX⟩, ⟨k2, a2, l2, w2, rfl, hY⟩, G⟩ := I
  obtain ⟨h0, h3, hh, hx, hgd⟩ := id G
  have b1 : d * d ≤ 3 * 3 := Nat.mul_le_mul h3 h3
  have e : nI d + nI d * nI d = nI (d + d * d) := by rw [pk_mul, nI_add]
  unfold wpX_forced wpY_forced
  dsimp only
  rw [e]
  rcases pk_ix v1 (n := d + d * d) (by omega) with c | c | ⟨b, hb, rfl⟩
  · exact br_t c (br_t c ⟨rfl, tm_mkr hX hY G⟩)
  · have z : ¬ v1 < 0 := Int32.not_lt.mpr (Int32.le_trans (nI_pos' (n := d + d * d) (by omega)) c)
    exact br_f z (br_f (Int32.not_lt.mpr c) (br_f z (br_f (Int32.not_lt.mpr c) ⟨rfl, tm_mkr hX hY G⟩)))
  · have z : ¬ nI b < 0 := nI_pos (by omega)
    have z2 : nI b < nI (d + d * d) := nI_lt hb (by omega)
    exact br_f z (br_t z2 (tx_int h0 h3 (tx_forced40 (by omega) G hX (fun w3 => br_f z (br_t z2 (ty_forced31 (by omega) G hY (fun w4 => ⟨rfl, tm_mkr hX hY G⟩)))))))
theorem ty_isl0 {post : Int32 → Prop} {u : SY} {v2 : Int32} (hv : v2 < 0 ∨ nI 27 ≤ v2) (h : post 0) : wpY_isList post u v2 := by
  obtain ⟨f1, f2, f3, a1, a2, a3, a4⟩ := u
  unfold wpY_isList
  exact br_c (fun _ => h) (fun z => br_t (hv.resolve_left z) h)
theorem i_vc_holds {k : Nat} {u : SX} {v : SY} (I : i_Rel k u v) (hk : k + 3 ≤ 1536) (v1 : Int32) (v2 : Int32) : wpX_holds (fun r u' => wpY_holds (fun r' v' => r' = r ∧ i_Rel (k + 3) u' v') v v1 v2) u v1 v2 := by
  obtain ⟨d, h, x, F, ⟨k1, a1, l1, w1, rfl, hX⟩, ⟨k2, a2, l2, w2, rfl, hY⟩, G⟩ := I
  obtain ⟨h0, h3, hh, hx, hgd⟩ := id G
  have hN := tm_N_le d (by omega)
  unfold wpX_holds wpY_holds
  refine pk_eq h 0 (fun c => pk_eq h 0 (fun _ => ⟨rfl, tm_mkr hX hY G⟩) (fun z => absurd c z)) (fun c => ?_)
  have ne : ¬ nI h = 0 := nI_ne0 (by omega) (by omega)
  rcases pk_ix v1 (n := tm_N d) (by omega) with c1 | c1 | ⟨i, hi, rfl⟩
  · exact tx_isI0 h0 h3 (Or.inl c1) (br_t rfl (br_f ne (ty_isI0 h0 h3 (Or.inl c1) (br_t rfl ⟨rfl, tm_mkr hX hY G⟩))))
  · exact tx_isI0 h0 h3 (Or.inr c1) (br_t rfl (br_f ne (ty_isI0 h0 h3 (Or.inr c1) (br_t rfl ⟨rfl, tm_mkr hX hY G⟩))))
  · refine tx_isI1 h0 h3 hi (br_f (by decide) ?_)
    rcases pk_ix v2 (n := 27) (by omega) with c2 | c2 | ⟨j, hj, rfl⟩
    · exact br_t c2 (br_f ne (ty_isI1 h0 h3 hi (br_f (by decide) (ty_isl0 (Or.inl c2) (br_t rfl ⟨rfl, tm_mkr hX hY G⟩)))))
    · have z : ¬ v2 < 0 := Int32.not_lt.mpr (Int32.le_trans (nI_pos' (n := 27) (by omega)) c2)
      exact br_f z (br_f (Int32.not_lt.mpr c2) (br_f ne (ty_isI1 h0 h3 hi (br_f (by decide) (ty_isl0 (Or.inr c2) (br_t rfl ⟨rfl, tm_mkr hX hY G⟩))))))
    · have eb := tm_dom_b h0 h3 (i := j) (by omega)
      rw [decide_eq_true hj, Bool.true_and] at eb
      refine br_f (nI_pos (by omega)) (br_t (nI_lt (b := 27) hj (by omega)) (tx_lod h0 h3 (tx_dig j (by omega) rfl (tm_br (fun z => ?_) (fun z => ?_)))))
      · rw [eb] at z
        exact br_f ne (ty_isI1 h0 h3 hi (br_f (by decide) (ty_isl h3 hj (tm_br (fun _ => ⟨rfl, tm_mkr hX hY G⟩) (fun y => by rw [z] at y; exact absurd y (by decide))))))
      · rw [eb] at z
        refine tx_tr (h - 1) (tm_hI (by omega)) (tm_top (by omega)) h0 h3 hX hgd (fun w3 => tx_dig j (by omega) rfl (tm_br (fun y => ?_) (fun y => ?_)))
        · refine br_f ne (ty_isI1 h0 h3 hi (br_f (by decide) (ty_isl h3 hj (tm_br (fun q => by rw [z] at q; exact absurd q (by decide)) (fun _ => ty_lo (h - 1) (tm_hI (by omega)) (tm_top (by omega)) h0 h3 hY hgd (fun w4 => ⟨?_, tm_mkr hX hY G⟩))))))
          rw [tm_dg _ (by omega), y]; rfl
        · refine br_f ne (ty_isI1 h0 h3 hi (br_f (by decide) (ty_isl h3 hj (tm_br (fun q => by rw [z] at q; exact absurd q (by decide)) (fun _ => ty_lo (h - 1) (tm_hI (by omega)) (tm_top (by omega)) h0 h3 hY hgd (fun w4 => ⟨?_, tm_mkr hX hY G⟩))))))
          rw [tm_dg _ (by omega), y]; rfl
theorem i_vc_lists {k : Nat} {u : SX} {v : SY} (I : i_Rel k u v) (hk : k + 3 ≤ 1536) (v1 : Int32) : wpX_lists (fun r u' => wpY_lists (fun r' v' => r' = r ∧ i_Rel (k + 3) u' v') v v1) u v1 := by
  obtain ⟨d, h, x, F, ⟨k1, a1, l1, w1, rfl, hX⟩, ⟨k2, a2, l2, w2, rfl, hY⟩, G⟩ := I
  obtain ⟨h0, h3, hh, hx, hgd⟩ := id G
  have hN := tm_N_le d (by omega)
  unfold wpX_lists wpY_lists
  refine pk_eq h 0 (fun c => pk_eq h 0 (fun _ => ⟨rfl, tm_mkr hX hY G⟩) (fun z => absurd c z)) (fun c => ?_)
  have ne : ¬ nI h = 0 := nI_ne0 (by omega) (by omega)
  rcases pk_ix v1 (n := tm_N d) (by omega) with c1 | c1 | ⟨i, hi, rfl⟩
  · exact tx_isI0 h0 h3 (Or.inl c1) (br_t rfl (br_f ne (ty_isI0 h0 h3 (Or.inl c1) (br_t rfl ⟨rfl, tm_mkr hX hY G⟩))))
  · exact tx_isI0 h0 h3 (Or.inr c1) (br_t rfl (br_f ne (ty_isI0 h0 h3 (Or.inr c1) (br_t rfl ⟨rfl, tm_mkr hX hY G⟩))))
  · exact tx_isI1 h0 h3 hi (br_f (by decide) (tx_tr (h - 1) (tm_hI (by omega)) (tm_top (by omega)) h0 h3 hX hgd (fun w3 => tx_lists38 (br_f ne (ty_isI1 h0 h3 hi (br_f (by decide) (ty_lo (h - 1) (tm_hI (by omega)) (tm_top (by omega)) h0 h3 hY hgd (fun w4 => ty_lists34 ⟨rfl, tm_mkr hX hY G⟩))))))))
theorem i_vc_follows {k : Nat} {u : SX} {v : SY} (I : i_Rel k u v) (hk : k + 3 ≤ 1536) : wpX_follows (fun r u' => wpY_follows (fun r' v' => r' = r ∧ i_Rel (k + 3) u' v') v) u := by
  obtain ⟨d, h, x, F, ⟨k1, a1, l1, w1, rfl, hX⟩, ⟨k2, a2, l2, w2, rfl, hY⟩, G⟩ := I
  obtain ⟨h0, h3, hh, hx, hgd⟩ := id G
  unfold wpX_follows wpY_follows
  refine pk_eq h 0 (fun c => pk_eq h 0 (fun _ => ⟨rfl, tm_mkr hX hY G⟩) (fun z => absurd c z)) (fun c => tx_int h0 h3 (tx_follows19 (by omega) G hX (fun w3 => pk_eq h 0 (fun z => absurd z c) (fun _ => ty_follows11 (by omega) G hY (fun w4 => ⟨rfl, tm_mkr hX hY G⟩)))))
theorem i_vc_agreeing {k : Nat} {u : SX} {v : SY} (I : i_Rel k u v) (hk : k + 3 ≤ 1536) : wpX_agreeing (fun r u' => wpY_agreeing (fun r' v' => r' = r ∧ i_Rel (k + 3) u' v') v) u := by
  obtain ⟨d, h, x, F, ⟨k1, a1, l1, w1, rfl, hX⟩, ⟨k2, a2, l2, w2, rfl, hY⟩, G⟩ := I
  obtain ⟨h0, h3, hh, hx, hgd⟩ := id G
  unfold wpX_agreeing wpY_agreeing
  refine pk_eq h 0 (fun c => pk_eq h 0 (fun _ => ⟨rfl, tm_mkr hX hY G⟩) (fun z => absurd c z)) (fun c => tx_int h0 h3 (tx_agreeing21 (by omega) G hX (fun w3 => pk_eq h 0 (fun z => absurd z c) (fun _ => ty_agreeing13 (by omega) G hY (fun w4 => ⟨rfl, tm_mkr hX hY G⟩)))))
theorem i_vc_alike {k : Nat} {u : SX} {v : SY} (I : i_Rel k u v) (hk : k + 3 ≤ 1536) : wpX_alike (fun r u' => wpY_alike (fun r' v' => r' = r ∧ i_Rel (k + 3) u' v') v) u := by
  obtain ⟨d, h, x, F, ⟨k1, a1, l1, w1, rfl, hX⟩, ⟨k2, a2, l2, w2, rfl, hY⟩, G⟩ := I
  obtain ⟨h0, h3, hh, hx, hgd⟩ := id G
  unfold wpX_alike wpY_alike
  refine pk_le 2 h (fun c => tx_int h0 h3 (tx_alike20 c G hX (fun w3 => pk_le 2 h (fun _ => ty_alike12 c G hY (fun w4 => ⟨rfl, tm_mkr hX hY G⟩)) (fun z => absurd z (by omega))))) (fun c => pk_le 2 h (fun z => absurd z (by omega)) (fun _ => ⟨rfl, tm_mkr hX hY G⟩))
theorem i_vc_independent {k : Nat} {u : SX} {v : SY} (I : i_Rel k u v) (hk : k + 3 ≤ 1536) (v1 : Int32) : wpX_independent (fun r u' => wpY_independent (fun r' v' => r' = r ∧ i_Rel (k + 3) u' v') v v1) u v1 := by
  obtain ⟨d, h, x, F, ⟨k1, a1, l1, w1, rfl, hX⟩, ⟨k2, a2, l2, w2, rfl, hY⟩, G⟩ := I
  obtain ⟨h0, h3, hh, hx, hgd⟩ := id G
  unfold wpX_independent wpY_independent
  rcases pk_ix v1 (n := x) (by omega) with c | c | ⟨j, hj, rfl⟩
  · exact br_t c (br_t c ⟨rfl, tm_mkr hX hY G⟩)
  · have z : ¬ v1 < 0 := Int32.not_lt.mpr (Int32.le_trans (nI_pos' (n := x) (by omega)) c)
    exact br_f z (br_f (Int32.not_lt.mpr c) (br_f z (br_f (Int32.not_lt.mpr c) ⟨rfl, tm_mkr hX hY G⟩)))
  · have z : ¬ nI j < 0 := nI_pos (by omega)
    have z2 : nI j < nI x := nI_lt hj (by omega)
    exact br_f z (br_t z2 (tx_int h0 h3 (tx_indep24 hj G hX (fun w3 => br_f z (br_t z2 (ty_indep16 hj G hY (fun w4 => ⟨rfl, tm_mkr hX hY G⟩)))))))
theorem i_vc_smallest {k : Nat} {u : SX} {v : SY} (I : i_Rel k u v) (hk : k + 3 ≤ 1536) : wpX_smallest (fun r u' => wpY_smallest (fun r' v' => r' = r ∧ i_Rel (k + 3) u' v') v) u := by
  obtain ⟨d, h, x, F, ⟨k1, a1, l1, w1, rfl, hX⟩, ⟨k2, a2, l2, w2, rfl, hY⟩, G⟩ := I
  exact tx_smallest G hX (fun w3 => ty_smallest G hY (fun w4 => ⟨rfl, tm_mkr hX hY G⟩))
end
