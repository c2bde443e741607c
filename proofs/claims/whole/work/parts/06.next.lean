/-! the least number above 'after' -/
def tm_nx (p : Nat → Bool) (af : Int32) (N : Nat) : Int32 := tm_fi (fun i => decide (af < nI i) && p i) N 0
theorem tm_nx_neg {p : Nat → Bool} {af : Int32} {N : Nat} (hN : N ≤ 4096) (h : af < 0) : tm_nx p af N = tm_fi p N 0 := by
  unfold tm_nx
  apply tm_fi_cg
  intro j _ hj
  have h2 : af < nI j := Int32.lt_of_lt_of_le h (nI_pos' (by omega))
  rw [decide_eq_true h2, Bool.true_and]
theorem tm_nx_big {p : Nat → Bool} {af : Int32} {N : Nat} (hN : N ≤ 4096) (h : nI N ≤ af) : tm_nx p af N = -2 := by
  unfold tm_nx
  apply tm_fi_no
  intro j _ hj
  have h2 : ¬ af < nI j := by
    intro z
    have := Int32.lt_of_le_of_lt h z
    rw [nI_ltI (by omega) (by omega)] at this
    omega
  rw [decide_eq_false h2, Bool.false_and]
theorem tm_nx_in {p : Nat → Bool} {A N : Nat} (hN : N ≤ 4096) (h : A < N) : tm_nx p (nI A) N = tm_fi p (N - (A + 1)) (A + 1) := by
  unfold tm_nx
  have e : N = (A + 1) + (N - (A + 1)) := by omega
  rw [e, tm_fi_sk _ (A + 1) 0, Nat.zero_add, ← e]
  · apply tm_fi_cg
    intro j h1 h2
    have h3 : nI A < nI j := (nI_ltI (by omega) (by omega)).mpr (by omega)
    rw [decide_eq_true h3, Bool.true_and]
  · intro j _ h2
    have h3 : ¬ nI A < nI j := by rw [nI_ltI (by omega) (by omega)]; omega
    rw [decide_eq_false h3, Bool.false_and]
