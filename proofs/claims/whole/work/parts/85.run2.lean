/-! run: the wear of SPLICES on both sides -/
theorem up_sf (s : Mem) (p i : Nat) (v : Int) (f : Nat → Int) : up (sf s p f) p i v = sf s p (fun j => if j = i then v else f j) := by
  funext q
  by_cases h : q = p
  · subst h; rw [up_eq, sf_eq, sf_eq]
  · rw [up_ne _ _ _ _ h, sf_ne _ _ _ h, sf_ne _ _ _ h]
theorem c_wearL {s : Mem} {r3 : Int} (h : LTS s) (hr : RB (s 32) (s 33)) (h3 : 1 ≤ r3 ∧ r3 ≤ 20) (S : Nat → Bool) (w : Nat → Int) (hS : ∀ k, (S k = true) = SP (s 32) (s 33) (fun k => s 108 (16 + k)) k) (hw : ∀ k : Nat, (k : Int) + 1 < s 21 0 → (alj s k ∧ w k = r3) ∨ (¬ alj s k ∧ w k = r3 + 2)) :
    ∀ (j m k : Nat) (ho : Nat → Int), ((k + j + 1 : Nat) : Int) = s 21 0 → (∀ i, i < 15 → 0 ≤ ho i ∧ ho i ≤ 100) →
      LX2_wearSplices_2 20 r3 (fun s10 => some (s10 21 0, s10)) (m + j + 1) k (sf s 38 ho) = some (((wrn S w j k ho).1 : Int), sf s 38 (wrn S w j k ho).2) := by
  have hn := h.1.2.1
  intro j
  induction j with
  | zero =>
    intro m k ho hk hb
    rw [LX2_wearSplices_2]
    simp only [Nat.reduceAdd, ne_eq, not_false_eq_true, sf_ne, Nat.reduceEqDiff]
    rw [wr_ok (x := (k : Int) + 1) (by omega) (by omega), if_pos (by omega), ← hk]; rfl
  | succ j ih =>
    intro m k ho hk hb
    have b := hb k (by omega)
    rw [LX2_wearSplices_2]
    simp only [Nat.reduceAdd, ne_eq, not_false_eq_true, sf_ne, Nat.reduceEqDiff]
    have lf : LF ((sf s 38 ho) 21 0) ((sf s 38 ho) 22) (fun k => s 108 (16 + k)) := by
      simp only [ne_eq, not_false_eq_true, sf_ne, Nat.reduceEqDiff]; exact h.1
    have lt2 : LTS (sf s 38 ho) := by
      unfold LTS
      simp only [ne_eq, not_false_eq_true, sf_ne, Nat.reduceEqDiff]; exact h
    have k1 : (k : Int) + 1 < (sf s 38 ho) 21 0 := by rw [sf_ne _ _ _ (by omega)]; omega
    have sp := c_isSpliced (sf s 38 ho) lf (by simp only [ne_eq, not_false_eq_true, sf_ne, Nat.reduceEqDiff]; exact hr) k1
    simp only [ne_eq, not_false_eq_true, sf_ne, Nat.reduceEqDiff] at sp
    obtain ⟨J, j1, j2⟩ := c_jump lt2 k1
    have j3 : J < 10 ↔ alj s k := j2
    rw [wr_ok (x := (k : Int) + 1) (by omega) (by omega), if_neg (by omega), sp, bnd_some]
    simp only [tv_0]
    unfold wrn
    by_cases z : S k = true
    · have z' : SP (s 32) (s 33) (fun k => s 108 (16 + k)) k := by rw [← hS]; exact z
      rw [if_neg (fun y => y z'), if_pos z, j1, bnd_some, jn_eq]
      have fin : ∀ u : Int, w k = r3 + u → (u = 0 ∨ u = 2) → (rd ((sf s 38 ho) 38) (k : Int) 15 fun v7 => ST (sf s 38 ho) 38 (k : Int) 15 (mx 0 (wr (wr (v7 - r3) - u))) fun s8 => rd (s8 38) (k : Int) 15 fun v9 => if v9 ≠ 0 then LX2_wearSplices_2 20 r3 (fun s10 => some (s10 21 0, s10)) (m + j + 1) ((k : Int) + 1) s8 else some (((k : Int) + 1), s8)) = some ((((if ho k - w k ≤ 0 then (k + 1, fun i => if i = k then 0 else ho i) else wrn S w j (k + 1) (fun i => if i = k then ho k - w k else ho i)) : Nat × (Nat → Int)).1 : Int), sf s 38 ((if ho k - w k ≤ 0 then (k + 1, fun i => if i = k then 0 else ho i) else wrn S w j (k + 1) (fun i => if i = k then ho k - w k else ho i)) : Nat × (Nat → Int)).2) := by
        intro u hu hu2
        rw [sf_eq, rd_in (by omega) (by omega), Int.toNat_natCast, wr_ok (x := ho k - r3) (by omega) (by omega), wr_ok (x := ho k - r3 - u) (by omega) (by omega), ST_in (by omega) (by omega), Int.toNat_natCast, up_sf, sf_eq, rd_in (by omega) (by omega), Int.toNat_natCast, if_pos rfl]
        have ew : ho k - w k = ho k - r3 - u := by omega
        rw [ew]
        by_cases y : ho k - r3 - u ≤ 0
        · have em : mx 0 (ho k - r3 - u) = 0 := by unfold mx; rw [if_neg (by omega)]
          rw [em, if_neg (fun q => q rfl), if_pos y]
          rfl
        · have em : mx 0 (ho k - r3 - u) = ho k - r3 - u := by unfold mx; rw [if_pos (by omega)]
          rw [em, if_pos (by omega), if_neg y]
          exact ih m (k + 1) _ (by omega) (fun i hi => by
            have := hb i hi
            split <;> omega)
      have hwk := hw k (by omega)
      by_cases y : J < 10
      · rw [if_pos y]
        exact fin 0 (hwk.elim (fun q => by omega) (fun q => absurd (j3.1 y) q.1)) (Or.inl rfl)
      · rw [if_neg y]
        exact fin 2 (hwk.elim (fun q => absurd (j3.2 q.1) y) (fun q => q.2)) (Or.inr rfl)
    · have z' : ¬ SP (s 32) (s 33) (fun k => s 108 (16 + k)) k := by rw [← hS]; exact z
      rw [if_pos z', if_neg z]
      exact ih m (k + 1) ho (by omega) hb
