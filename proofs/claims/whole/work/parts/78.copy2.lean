/-! a whole job copied -/
theorem c_lost (k : Mem → Option Res) {t0 t1 : Nat} (s : Mem) (hd : t1 + 3 ≠ t0 + 3) (hb : ∀ i, i < 8 → s (t1 + 3) i = 0 ∨ s (t1 + 3) i = 1) : LX5_copyFrom_24 t0 t1 k FU 0 s = k (sf s (t0 + 3) (cpy (s (t1 + 3)) (s (t0 + 3)) 8)) := by
  obtain ⟨F, hF⟩ : ∃ F, FU = F := ⟨_, rfl⟩
  have e : F = (F - 9) + 8 + 1 := (by have : F = 1000000 := hF.symm; omega)
  rw [hF, e]
  refine (c_lostL k hd 8 (F - 9) 0 s (by omega) hb).trans ?_
  congr 2
  funext i
  unfold cpy
  by_cases h : i < 8
  · rw [if_pos h, if_pos (by omega)]
  · rw [if_neg h, if_neg (by omega)]
def CPD (t0 t1 : Nat) (s s' : Mem) : Prop :=
  (∀ q, q < t0 ∨ t0 + 18 < q → s' q = s q) ∧ (s' (t0 + 1) 0 = s (t1 + 1) 0 ∧ s' (t0 + 1) 1 = s (t1 + 1) 1) ∧ (∀ i, i < 17 → s' (t0 + 2) i = s (t1 + 2) i) ∧
  (∀ i, i < 48 → s' (t0 + 3) i = s (t1 + 3) i ∧ s' (t0 + 5) i = s (t1 + 5) i ∧ s' (t0 + 10) i = s (t1 + 10) i ∧ s' (t0 + 11) i = s (t1 + 11) i) ∧
  (∀ i, i < 16 → s' (t0 + 4) i = s (t1 + 4) i ∧ s' (t0 + 6) i = s (t1 + 6) i ∧ s' (t0 + 12) i = s (t1 + 12) i ∧ s' (t0 + 13) i = s (t1 + 13) i) ∧
  (∀ i, i < 64 → s' (t0 + 7) i = s (t1 + 7) i ∧ s' (t0 + 8) i = s (t1 + 8) i ∧ s' (t0 + 9) i = s (t1 + 9) i) ∧
  (∀ i, i < 8 → s' (t0 + 15) i = s (t1 + 15) i ∧ s' (t0 + 16) i = s (t1 + 16) i ∧ s' (t0 + 17) i = s (t1 + 17) i) ∧ (∀ i, i < 15 → s' (t0 + 18) i = s (t1 + 18) i)
theorem c_cf_39_20 (s : Mem) (hb : ∀ i, i < 8 → s 37 i = 0 ∨ s 37 i = 1) : ∃ s', fX2_copyFrom 39 20 s = some (0, s') ∧ CPD 39 20 s s' := by
  unfold fX2_copyFrom fX6_copyFrom fX5_copyFrom
  simp only [Nat.reduceAdd, c_copy, bnd_some, lt_eq, sf_ne, up_ne, ne_eq, not_false_eq_true, Nat.reduceEqDiff]
  rw [c_lost _ _ (by omega) (by simp only [Nat.reduceAdd, sf_ne, up_ne, ne_eq, not_false_eq_true, Nat.reduceEqDiff]; exact hb)]
  simp only [Nat.reduceAdd, c_copy, bnd_some, lt_eq, sf_ne, up_ne, ne_eq, not_false_eq_true, Nat.reduceEqDiff]
  refine ⟨_, rfl, ?_⟩
  unfold CPD
  simp only [Nat.reduceAdd, sf_ne, sf_eq, up_ne, up_nj, up_at, ne_eq, not_false_eq_true, Nat.reduceEqDiff]
  refine ⟨fun q hq => ?_, ⟨?_, ?_⟩, fun i hi => cpy_in hi, fun i hi => ⟨cpy_in hi, cpy_in hi, cpy_in hi, cpy_in hi⟩, fun i hi => ⟨cpy_in hi, cpy_in hi, cpy_in hi, cpy_in hi⟩, fun i hi => ⟨cpy_in hi, cpy_in hi, cpy_in hi⟩, fun i hi => ⟨cpy_in hi, cpy_in hi, cpy_in hi⟩, fun i hi => cpy_in hi⟩
  · simp (disch := omega) only [sf_ne, up_ne]
  all_goals trivial
theorem c_cf_58_20 (s : Mem) (hb : ∀ i, i < 8 → s 37 i = 0 ∨ s 37 i = 1) : ∃ s', fX2_copyFrom 58 20 s = some (0, s') ∧ CPD 58 20 s s' := by
  unfold fX2_copyFrom fX6_copyFrom fX5_copyFrom
  simp only [Nat.reduceAdd, c_copy, bnd_some, lt_eq, sf_ne, up_ne, ne_eq, not_false_eq_true, Nat.reduceEqDiff]
  rw [c_lost _ _ (by omega) (by simp only [Nat.reduceAdd, sf_ne, up_ne, ne_eq, not_false_eq_true, Nat.reduceEqDiff]; exact hb)]
  simp only [Nat.reduceAdd, c_copy, bnd_some, lt_eq, sf_ne, up_ne, ne_eq, not_false_eq_true, Nat.reduceEqDiff]
  refine ⟨_, rfl, ?_⟩
  unfold CPD
  simp only [Nat.reduceAdd, sf_ne, sf_eq, up_ne, up_nj, up_at, ne_eq, not_false_eq_true, Nat.reduceEqDiff]
  refine ⟨fun q hq => ?_, ⟨?_, ?_⟩, fun i hi => cpy_in hi, fun i hi => ⟨cpy_in hi, cpy_in hi, cpy_in hi, cpy_in hi⟩, fun i hi => ⟨cpy_in hi, cpy_in hi, cpy_in hi, cpy_in hi⟩, fun i hi => ⟨cpy_in hi, cpy_in hi, cpy_in hi⟩, fun i hi => ⟨cpy_in hi, cpy_in hi, cpy_in hi⟩, fun i hi => cpy_in hi⟩
  · simp (disch := omega) only [sf_ne, up_ne]
  all_goals trivial
theorem c_cf_20_39 (s : Mem) (hb : ∀ i, i < 8 → s 56 i = 0 ∨ s 56 i = 1) : ∃ s', fX2_copyFrom 20 39 s = some (0, s') ∧ CPD 20 39 s s' := by
  unfold fX2_copyFrom fX6_copyFrom fX5_copyFrom
  simp only [Nat.reduceAdd, c_copy, bnd_some, lt_eq, sf_ne, up_ne, ne_eq, not_false_eq_true, Nat.reduceEqDiff]
  rw [c_lost _ _ (by omega) (by simp only [Nat.reduceAdd, sf_ne, up_ne, ne_eq, not_false_eq_true, Nat.reduceEqDiff]; exact hb)]
  simp only [Nat.reduceAdd, c_copy, bnd_some, lt_eq, sf_ne, up_ne, ne_eq, not_false_eq_true, Nat.reduceEqDiff]
  refine ⟨_, rfl, ?_⟩
  unfold CPD
  simp only [Nat.reduceAdd, sf_ne, sf_eq, up_ne, up_nj, up_at, ne_eq, not_false_eq_true, Nat.reduceEqDiff]
  refine ⟨fun q hq => ?_, ⟨?_, ?_⟩, fun i hi => cpy_in hi, fun i hi => ⟨cpy_in hi, cpy_in hi, cpy_in hi, cpy_in hi⟩, fun i hi => ⟨cpy_in hi, cpy_in hi, cpy_in hi, cpy_in hi⟩, fun i hi => ⟨cpy_in hi, cpy_in hi, cpy_in hi⟩, fun i hi => ⟨cpy_in hi, cpy_in hi, cpy_in hi⟩, fun i hi => cpy_in hi⟩
  · simp (disch := omega) only [sf_ne, up_ne]
  all_goals trivial
theorem c_cf_20_58 (s : Mem) (hb : ∀ i, i < 8 → s 75 i = 0 ∨ s 75 i = 1) : ∃ s', fX2_copyFrom 20 58 s = some (0, s') ∧ CPD 20 58 s s' := by
  unfold fX2_copyFrom fX6_copyFrom fX5_copyFrom
  simp only [Nat.reduceAdd, c_copy, bnd_some, lt_eq, sf_ne, up_ne, ne_eq, not_false_eq_true, Nat.reduceEqDiff]
  rw [c_lost _ _ (by omega) (by simp only [Nat.reduceAdd, sf_ne, up_ne, ne_eq, not_false_eq_true, Nat.reduceEqDiff]; exact hb)]
  simp only [Nat.reduceAdd, c_copy, bnd_some, lt_eq, sf_ne, up_ne, ne_eq, not_false_eq_true, Nat.reduceEqDiff]
  refine ⟨_, rfl, ?_⟩
  unfold CPD
  simp only [Nat.reduceAdd, sf_ne, sf_eq, up_ne, up_nj, up_at, ne_eq, not_false_eq_true, Nat.reduceEqDiff]
  refine ⟨fun q hq => ?_, ⟨?_, ?_⟩, fun i hi => cpy_in hi, fun i hi => ⟨cpy_in hi, cpy_in hi, cpy_in hi, cpy_in hi⟩, fun i hi => ⟨cpy_in hi, cpy_in hi, cpy_in hi, cpy_in hi⟩, fun i hi => ⟨cpy_in hi, cpy_in hi, cpy_in hi⟩, fun i hi => ⟨cpy_in hi, cpy_in hi, cpy_in hi⟩, fun i hi => cpy_in hi⟩
  · simp (disch := omega) only [sf_ne, up_ne]
  all_goals trivial
