/-! drop -/
def s4 (s : Mem) (p1 p2 p3 p4 : Nat) (A B C D : Nat → Int) : Mem := fun q => if q = p1 then A else if q = p2 then B else if q = p3 then C else if q = p4 then D else s q
theorem s4_up (s : Mem) (p1 p2 p3 p4 i : Nat) (a b c d : Int) (A B C D : Nat → Int) : s4 (up (up (up (up s p1 i a) p2 i b) p3 i c) p4 i d) p1 p2 p3 p4 A B C D = s4 s p1 p2 p3 p4 A B C D := by
  funext q
  unfold s4
  by_cases h1 : q = p1
  · rw [if_pos h1, if_pos h1]
  rw [if_neg h1, if_neg h1]
  by_cases h2 : q = p2
  · rw [if_pos h2, if_pos h2]
  rw [if_neg h2, if_neg h2]
  by_cases h3 : q = p3
  · rw [if_pos h3, if_pos h3]
  rw [if_neg h3, if_neg h3]
  by_cases h4 : q = p4
  · rw [if_pos h4, if_pos h4]
  rw [if_neg h4, if_neg h4, up_ne _ _ _ _ h4, up_ne _ _ _ _ h3, up_ne _ _ _ _ h2, up_ne _ _ _ _ h1]
theorem s4_self (s : Mem) (p1 p2 p3 p4 : Nat) : s4 s p1 p2 p3 p4 (s p1) (s p2) (s p3) (s p4) = s := by
  funext q
  unfold s4
  repeat' split
  all_goals first | rfl | (rename_i h; rw [h])
theorem s4_ne (s : Mem) (p1 p2 p3 p4 : Nat) (A B C D : Nat → Int) {q : Nat} (h1 : q ≠ p1) (h2 : q ≠ p2) (h3 : q ≠ p3) (h4 : q ≠ p4) : s4 s p1 p2 p3 p4 A B C D q = s q := by
  unfold s4; rw [if_neg h1, if_neg h2, if_neg h3, if_neg h4]
def shf (f : Nat → Int) (a m : Nat) : Nat → Int := fun i => if a ≤ i ∧ i < m then f (i + 1) else f i
theorem shf_0 (f : Nat → Int) {a m : Nat} (h : m ≤ a) : shf f a m = f := by
  funext i; unfold shf; rw [if_neg (by omega)]
theorem shf_s (f : Nat → Int) {a m : Nat} (h : a < m) : shf (fun i => if i = a then f (a + 1) else f i) (a + 1) m = shf f a m := by
  funext i; unfold shf; dsimp only
  by_cases hi : i = a
  · subst hi
    rw [if_neg (by omega), if_pos rfl, if_pos (by omega)]
  · by_cases hz : a + 1 ≤ i ∧ i < m
    · rw [if_pos hz, if_neg (by omega), if_pos (by omega)]
    · rw [if_neg hz, if_neg hi, if_neg (by omega)]
theorem c_dropL (k : Mem → Option Res) : ∀ (j m e : Nat) (s : Mem), ((e + j : Nat) : Int) = s 89 4 → s 89 4 ≤ 7 →
    LX3_remove_12 k (m + j + 1) e s = k (s4 s 90 91 92 93 (shf (s 90) e (e + j)) (shf (s 91) e (e + j)) (shf (s 92) e (e + j)) (shf (s 93) e (e + j))) := by
  intro j
  induction j with
  | zero =>
    intro m e s he h7
    show (if s 89 4 ≤ (e : Int) then _ else _) = _
    rw [if_pos (by omega)]
    simp only [shf_0 _ (Nat.le_refl e), Nat.add_zero, s4_self]
  | succ j ih =>
    intro m e s he h7
    have t1 : ((e : Int) + 1).toNat = e + 1 := by omega
    show (if s 89 4 ≤ (e : Int) then _ else _) = _
    rw [if_neg (by omega), wr_ok (x := (e : Int) + 1) (by omega) (by omega)]
    rw [rd_in (by omega) (by omega), ST_in (by omega) (by omega), rd_in (by omega) (by omega), ST_in (by omega) (by omega), rd_in (by omega) (by omega), ST_in (by omega) (by omega), rd_in (by omega) (by omega), ST_in (by omega) (by omega)]
    simp only [t1, Int.toNat_natCast, ne_eq, not_false_eq_true, up_ne, Nat.reduceEqDiff]
    have i2 := ih m (e + 1) (up (up (up (up s 90 e (s 90 (e + 1))) 91 e (s 91 (e + 1))) 92 e (s 92 (e + 1))) 93 e (s 93 (e + 1)))
    rw [s4_up] at i2
    simp only [ne_eq, not_false_eq_true, up_ne, up_eq, Nat.reduceEqDiff, show e + 1 + j = e + (j + 1) by omega, shf_s _ (show e < e + (j + 1) by omega)] at i2
    exact i2 he h7
theorem r_dropL (k : Mem → Option Res) : ∀ (j m e : Nat) (s : Mem), ((e + 1 + j : Nat) : Int) = s 100 42 → s 100 42 ≤ 8 →
    LX11_drop_20 k (m + j + 1) ((e : Int) + 1) s = k (s4 s 131 132 133 134 (shf (s 131) e (e + j)) (shf (s 132) e (e + j)) (shf (s 133) e (e + j)) (shf (s 134) e (e + j))) := by
  intro j
  induction j with
  | zero =>
    intro m e s he h7
    show (if s 100 42 ≤ (e : Int) + 1 then _ else _) = _
    rw [if_pos (by omega)]
    simp only [shf_0 _ (Nat.le_refl e), Nat.add_zero, s4_self]
  | succ j ih =>
    intro m e s he h7
    have t1 : ((e : Int) + 1).toNat = e + 1 := by omega
    have t3 : (e : Int) + 1 - 1 = e := by omega
    show (if s 100 42 ≤ (e : Int) + 1 then _ else _) = _
    rw [if_neg (by omega), wr_ok (x := (e : Int) + 1 + 1) (by omega) (by omega), wr_ok (x := (e : Int) + 1 - 1) (by omega) (by omega), t3]
    rw [rd_in (by omega) (by omega), ST_in (by omega) (by omega), rd_in (by omega) (by omega), ST_in (by omega) (by omega), rd_in (by omega) (by omega), ST_in (by omega) (by omega), rd_in (by omega) (by omega), ST_in (by omega) (by omega)]
    simp only [t1, Int.toNat_natCast, ne_eq, not_false_eq_true, up_ne, Nat.reduceEqDiff]
    have i2 := ih m (e + 1) (up (up (up (up s 131 e (s 131 (e + 1))) 132 e (s 132 (e + 1))) 133 e (s 133 (e + 1))) 134 e (s 134 (e + 1)))
    rw [s4_up] at i2
    simp only [ne_eq, not_false_eq_true, up_ne, up_eq, Nat.reduceEqDiff, show e + 1 + j = e + (j + 1) by omega, shf_s _ (show e < e + (j + 1) by omega)] at i2
    exact i2 (by omega) h7
theorem op_drop (a1 : Int) : OP (fX10_drop a1) (fX11_drop a1) := by
  intro n s hn h
  have hR := h
  obtain ⟨h1, h2, h3, h4, h5, h6, h7, h8, h9, h10, h11, h12, h13, h14⟩ := h.mono
  have e0 := h12.1
  have e1 := h12.2.1
  have e2 := h12.2.2.1
  obtain ⟨F, hF⟩ : ∃ F, FU = F := ⟨_, rfl⟩
  by_cases hg : 0 ≤ a1 ∧ a1 ≤ s 89 4 - 1
  · obtain ⟨a, rfl⟩ : ∃ a : Nat, a1 = a := ⟨a1.toNat, by omega⟩
    obtain ⟨j, hj⟩ : ∃ j : Nat, ((a + 1 + j : Nat) : Int) = s 89 4 := ⟨(s 89 4 - 1 - a).toNat, by omega⟩
    have e : F = (F - j - 1) + j + 1 := (by have : F = 1000000 := hF.symm; omega)
    have m1 : (s 89 4 - 1).toNat = a + j := by omega
    have cK := c_dropL (fun s10 => some (0, s10)) j (F - j - 1) a (up s 89 4 (s 89 4 - 1))
    simp only [ne_eq, not_false_eq_true, up_ne, up_at, Nat.reduceEqDiff] at cK
    have cK := cK (by omega) (by omega)
    have cD : fX10_drop a s = some (s 89 4 - 1, s4 (up s 89 4 (s 89 4 - 1)) 90 91 92 93 (shf (s 90) a (a + j)) (shf (s 91) a (a + j)) (shf (s 92) a (a + j)) (shf (s 93) a (a + j))) := by
      unfold fX10_drop
      rw [wr_ok (x := s 89 4 - 1) (by omega) (by omega), sp_within, bnd_some]
      simp only [ne_eq, tv_0, Decidable.not_not]
      rw [if_pos hg]
      unfold fX3_remove
      rw [wr_ok (x := s 89 4 - 1) (by omega) (by omega), lt_eq, hF, e]
      refine (congrArg (fun x => bnd x _) cK).trans ?_
      rw [bnd_some, s4_ne _ _ _ _ _ _ _ _ _ (by omega) (by omega) (by omega) (by omega), up_at]
    have rK := r_dropL (fun s12 => lt (up s12 100 42 (wr ((s12 100 42) - 1))) (fun s13 => some (s13 100 42, s13))) j (F - j - 1) a (s4 (up s 89 4 (s 89 4 - 1)) 90 91 92 93 (shf (s 90) a (a + j)) (shf (s 91) a (a + j)) (shf (s 92) a (a + j)) (shf (s 93) a (a + j)))
    simp only [ne_eq, not_false_eq_true, s4_ne, up_ne, Nat.reduceEqDiff] at rK
    have rK := rK (by omega) (by omega)
    refine ⟨_, _, up (s4 (s4 (up s 89 4 (s 89 4 - 1)) 90 91 92 93 (shf (s 90) a (a + j)) (shf (s 91) a (a + j)) (shf (s 92) a (a + j)) (shf (s 93) a (a + j))) 131 132 133 134 (shf (s 131) a (a + j)) (shf (s 132) a (a + j)) (shf (s 133) a (a + j)) (shf (s 134) a (a + j))) 100 42 (s 89 4 - 1), cD, ?_, ?_⟩
    · unfold fX11_drop
      simp only [ne_eq, not_false_eq_true, s4_ne, up_ne, Nat.reduceEqDiff]
      rw [wr_ok (x := s 100 42 - 1) (by omega) (by omega), sp_in, bnd_some]
      simp only [ne_eq, tv_0, Decidable.not_not]
      rw [if_pos (by omega), wr_ok (x := (a : Int) + 1) (by omega) (by omega), lt_eq, hF, e]
      refine rK.trans ?_
      rw [← e0, wr_ok (x := s 89 4 - 1) (by omega) (by omega), lt_eq, up_at]
    · unfold Rel
      simp only [ne_eq, not_false_eq_true, up_nj, up_ne, up_at, s4_ne, Nat.reduceEqDiff]
      refine ⟨h1, h2, h3, h4, h5, h6, h7, h8, h9, h10, h11, ?_, h13, h14⟩
      have b3 := h12.2.2.2
      refine ⟨rfl, by omega, by omega, fun k hk => ?_⟩
      show shf (s 90) a (a + j) k = shf (s 131) a (a + j) k ∧ shf (s 91) a (a + j) k = shf (s 132) a (a + j) k ∧ shf (s 92) a (a + j) k = shf (s 133) a (a + j) k ∧ shf (s 93) a (a + j) k = shf (s 134) a (a + j) k ∧ 1 ≤ shf (s 90) a (a + j) k ∧ shf (s 90) a (a + j) k ≤ 40 ∧ 0 ≤ shf (s 91) a (a + j) k ∧ shf (s 91) a (a + j) k ≤ 400 ∧ 1 ≤ shf (s 92) a (a + j) k ∧ shf (s 92) a (a + j) k ≤ 20 ∧ 0 ≤ shf (s 93) a (a + j) k ∧ shf (s 93) a (a + j) k ≤ 5
      unfold shf
      by_cases hz : a ≤ k ∧ k < a + j
      · simp only [if_pos hz]
        exact b3 (k + 1) (by omega)
      · simp only [if_neg hz]
        exact b3 k (by omega)
  · refine OP.same hR (r := -1) ?_ ?_
    · unfold fX10_drop
      rw [wr_ok (x := s 89 4 - 1) (by omega) (by omega), sp_within, bnd_some]
      simp only [ne_eq, tv_0, Decidable.not_not]
      rw [if_neg hg]
    · unfold fX11_drop
      rw [wr_ok (x := s 100 42 - 1) (by omega) (by omega), sp_in, bnd_some]
      simp only [ne_eq, tv_0, Decidable.not_not]
      rw [if_neg (by omega)]
