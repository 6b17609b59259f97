/-! feet: one step of arithmetic against a loop over every foot -/
theorem up_self {s : Mem} {p i : Nat} {v : Int} (h : s p i = v) : up s p i v = s := by
  funext q j; unfold up; subst h
  by_cases hq : q = p
  · rw [if_pos hq, hq]; by_cases hj : j = i
    · simp [hj]
    · simp [hj]
  · rw [if_neg hq]
theorem up_twice (s : Mem) (p i : Nat) (v w : Int) : up (up s p i v) p i w = up s p i w := by
  funext q j; unfold up
  by_cases hq : q = p
  · simp only [hq, if_true]; by_cases hj : j = i
    · simp [hj]
    · simp [hj]
  · simp [hq]
theorem up_comm (s : Mem) {p q : Nat} (i j : Nat) (v w : Int) (h : p ≠ q) : up (up s p i v) q j w = up (up s q j w) p i v := by
  funext r k; unfold up
  by_cases h1 : r = p
  · subst h1
    simp [h]
  · by_cases h2 : r = q
    · subst h2; simp [h1]
    · simp [h1, h2]
theorem up_at (s : Mem) (p i : Nat) (v : Int) : up s p i v p i = v := by unfold up; simp
/-- STRENGTH behind j feet more *)-/
def stf (S T F : Int) (j : Int) : Int := mx 0 (S - ((F + j) / 100 - F / 100) * T)
theorem c_pass {b n : Int} (s : Mem) (hb : 0 ≤ b ∧ b ≤ 1) (hn : 1 ≤ n ∧ n ≤ 10000) (hS : 0 ≤ s 3 b.toNat ∧ s 3 b.toNat ≤ 1000) (hT : 1 ≤ s 4 b.toNat ∧ s 4 b.toNat ≤ 50) (hF : 0 ≤ s 5 b.toNat ∧ s 5 b.toNat ≤ 6000000) : fX9_pass b n s = some (0, up (up s 5 b.toNat (s 5 b.toNat + n)) 3 b.toNat (stf (s 3 b.toNat) (s 4 b.toNat) (s 5 b.toNat) n)) := by
  unfold fX9_pass
  rw [rd_in (by omega) (by omega), ST_in (by omega) (by omega), wr_ok (x := s 5 b.toNat + n) (by omega) (by omega), rd_in (by omega) (by omega), up_at, lt_eq, rd_in (by omega) (by omega), rd_in (by omega) (by omega), up_ne _ _ _ _ (show (3 : Nat) ≠ 5 by omega), up_ne _ _ _ _ (show (4 : Nat) ≠ 5 by omega)]
  rw [Int.tdiv_eq_ediv_of_nonneg (by omega), Int.tdiv_eq_ediv_of_nonneg (by omega), wr_ok (x := (s 5 b.toNat + n) / 100 - s 5 b.toNat / 100) (by omega) (by omega)]
  have hd : 0 ≤ (s 5 b.toNat + n) / 100 - s 5 b.toNat / 100 ∧ (s 5 b.toNat + n) / 100 - s 5 b.toNat / 100 ≤ 101 := by omega
  have h1 : 0 ≤ ((s 5 b.toNat + n) / 100 - s 5 b.toNat / 100) * s 4 b.toNat := Int.mul_nonneg hd.1 (by omega)
  have h2 : ((s 5 b.toNat + n) / 100 - s 5 b.toNat / 100) * s 4 b.toNat ≤ 101 * 50 := Int.mul_le_mul hd.2 hT.2 (by omega) (by omega)
  rw [wr_ok (x := _ * _) (by omega) (by omega), wr_ok (by omega) (by omega), ST_in (by omega) (by omega)]
  rfl
theorem stf_step {S T F j : Int} (hS : 0 ≤ S) (hT : 1 ≤ T) (hF : 0 ≤ F) (hj : 0 ≤ j) : stf S T F (j + 1) = if (F + j + 1) % 100 = 0 then (if stf S T F j ≤ T then 0 else stf S T F j - T) else stf S T F j := by
  unfold stf mx
  by_cases h : (F + j + 1) % 100 = 0
  · rw [if_pos h]
    have e : (F + (j + 1)) / 100 - F / 100 = ((F + j) / 100 - F / 100) + 1 := by omega
    rw [e, Int.add_mul, Int.one_mul]
    have q0 : 0 ≤ ((F + j) / 100 - F / 100) * T := Int.mul_nonneg (by omega) (by omega)
    generalize ((F + j) / 100 - F / 100) * T = Y at q0 ⊢
    repeat' split
    all_goals omega
  · rw [if_neg h]
    have e : (F + (j + 1)) / 100 - F / 100 = (F + j) / 100 - F / 100 := by omega
    rw [e]
theorem stf_b {S T F j : Int} (hS : 0 ≤ S ∧ S ≤ 1000) (hT : 1 ≤ T) (hF : 0 ≤ F) (hj : 0 ≤ j) : 0 ≤ stf S T F j ∧ stf S T F j ≤ 1000 := by
  unfold stf mx
  have q0 : 0 ≤ ((F + j) / 100 - F / 100) * T := Int.mul_nonneg (by omega) (by omega)
  generalize ((F + j) / 100 - F / 100) * T = Y at q0 ⊢
  split <;> omega
theorem r_goL {b n S T F : Int} (k : Mem → Option Res) (hb : 0 ≤ b ∧ b ≤ 1) (hn : n ≤ 10000) (hS : 0 ≤ S ∧ S ≤ 1000) (hT : 1 ≤ T ∧ T ≤ 50) (hF : 0 ≤ F ∧ F ≤ 6000000) : ∀ (j m : Nat) (i : Int) (s : Mem), i + j = n → 0 ≤ i → s 104 b.toNat = F + i → s 102 b.toNat = stf S T F i → s 103 b.toNat = T → LX11_go_2 b n k (m + j + 1) i s = k (up (up s 104 b.toNat (F + n)) 102 b.toNat (stf S T F n)) := by
  intro j
  induction j with
  | zero =>
    intro m i s hi h0 e1 e2 e3
    show (if n ≤ i then _ else _) = _
    have : i = n := by omega
    subst this
    rw [if_pos (by omega), up_self (s := s) (by omega), up_self (s := s) (by omega)]
  | succ j ih =>
    intro m i s hi h0 e1 e2 e3
    show (if n ≤ i then _ else _) = _
    rw [if_neg (by omega), rd_in (by omega) (by omega), ST_in (by omega) (by omega), e1, wr_ok (x := F + i + 1) (by omega) (by omega), rd_in (by omega) (by omega), up_at, wr_ok (x := i + 1) (by omega) (by omega)]
    have hb2 := stf_b (j := i) hS hT.1 hF.1 h0
    have hst := stf_step (j := i) hS.1 hT.1 hF.1 h0
    rw [Int.tmod_eq_emod_of_nonneg (by omega)]
    by_cases h : (F + i + 1) % 100 = 0
    · rw [if_neg (by omega), rd_in (by omega) (by omega), rd_in (by omega) (by omega), jn_eq, up_ne _ _ _ _ (by omega), up_ne _ _ _ _ (by omega), e2, e3]
      rw [if_pos h] at hst
      rw [rd_in (by omega) (by omega), rd_in (by omega) (by omega), e2, e3, wr_ok (x := stf S T F i - T) (by omega) (by omega)]
      have key : ∀ u : Int, u = stf S T F (i + 1) → (ST (up s 104 b.toNat (F + i + 1)) 102 b 2 u fun s8 => LX11_go_2 b n k (m + j + 1) (i + 1) s8) = k (up (up s 104 b.toNat (F + n)) 102 b.toNat (stf S T F n)) := by
        intro u hu
        rw [ST_in (by omega) (by omega)]
        refine (ih m (i + 1) _ (by omega) (by omega) ?_ ?_ ?_).trans ?_
        · rw [up_ne _ _ _ _ (by omega), up_at]; omega
        · rw [up_at]; exact hu
        · rw [up_ne _ _ _ _ (by omega), up_ne _ _ _ _ (by omega)]; exact e3
        · rw [up_comm _ _ _ _ _ (show (102 : Nat) ≠ 104 by omega), up_twice, up_twice]
      by_cases h2 : stf S T F i ≤ T
      · rw [if_pos h2]
        exact key 0 (by rw [hst, if_pos h2])
      · rw [if_neg h2]
        exact key _ (by rw [hst, if_neg h2])
    · rw [if_pos h]
      rw [if_neg h] at hst
      refine (ih m (i + 1) _ (by omega) (by omega) ?_ ?_ ?_).trans ?_
      · rw [up_at]; omega
      · rw [up_ne _ _ _ _ (by omega), e2, hst]
      · rw [up_ne _ _ _ _ (by omega)]; exact e3
      · rw [up_twice]
theorem r_go {b n : Int} (s : Mem) (hb : 0 ≤ b ∧ b ≤ 1) (hn : 1 ≤ n ∧ n ≤ 10000) (hS : 0 ≤ s 102 b.toNat ∧ s 102 b.toNat ≤ 1000) (hT : 1 ≤ s 103 b.toNat ∧ s 103 b.toNat ≤ 50) (hF : 0 ≤ s 104 b.toNat ∧ s 104 b.toNat ≤ 6000000) : fX11_go b n s = some (0, up (up s 104 b.toNat (s 104 b.toNat + n)) 102 b.toNat (stf (s 102 b.toNat) (s 103 b.toNat) (s 104 b.toNat) n)) := by
  unfold fX11_go
  have e : FU = (FU - n.toNat - 1) + n.toNat + 1 := by unfold FU; omega
  rw [e, r_goL _ hb hn.2 hS hT hF n.toNat _ 0 s (by omega) (by omega) (by omega) ?_ rfl]
  unfold stf mx
  rw [Int.add_zero, Int.sub_self, Int.zero_mul, Int.sub_zero]
  split <;> omega
