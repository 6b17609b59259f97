/-! order, reel, lose, from, shot -/
theorem c_order {a1 a2 a3 a4 : Int} (s : Mem) (hz : 0 ≤ s 89 4 ∧ s 89 4 ≤ 8) : fX10_order a1 a2 a3 a4 s = if (1 ≤ a1 ∧ a1 ≤ 40) ∧ (0 ≤ a2 ∧ a2 ≤ 400) ∧ (1 ≤ a3 ∧ a3 ≤ 20) ∧ (0 ≤ a4 ∧ a4 ≤ 5) then (if s 89 4 < 8 then some (s 89 4, up (up (up (up (up s 90 (s 89 4).toNat a1) 91 (s 89 4).toNat a2) 92 (s 89 4).toNat a3) 93 (s 89 4).toNat a4) 89 4 (s 89 4 + 1)) else some (-3, s)) else some (-1, s) := by
  unfold fX10_order fX3_add
  simp only [sp_within, bnd_some, tv_0, ne_eq, Decidable.not_not, zr_0, zr_1]
  by_cases h4 : s 89 4 < 8
  · have e : (ST s 90 (s 89 4) 8 a1 fun s1 => ST s1 91 (s1 89 4) 8 a2 fun s2 => ST s2 92 (s2 89 4) 8 a3 fun s3 => ST s3 93 (s3 89 4) 8 a4 fun s4 => lt (up s4 89 4 (wr (s4 89 4 + 1))) fun s5 => some ((1 : Int), s5)) = some (1, up (up (up (up (up s 90 (s 89 4).toNat a1) 91 (s 89 4).toNat a2) 92 (s 89 4).toNat a3) 93 (s 89 4).toNat a4) 89 4 (s 89 4 + 1)) := by
      rw [ST_in (by omega) (by omega)]
      simp only [ne_eq, not_false_eq_true, up_ne, Nat.reduceEqDiff]
      rw [ST_in (by omega) (by omega)]
      simp only [ne_eq, not_false_eq_true, up_ne, Nat.reduceEqDiff]
      rw [ST_in (by omega) (by omega)]
      simp only [ne_eq, not_false_eq_true, up_ne, Nat.reduceEqDiff]
      rw [ST_in (by omega) (by omega)]
      simp only [ne_eq, not_false_eq_true, up_ne, Nat.reduceEqDiff, lt_eq]
      rw [wr_ok (by omega) (by omega)]
    rw [e, if_pos h4]
    simp only [bnd_some, up_at, if_pos h4]
    rw [wr_ok (x := s 89 4 + 1 - 1) (by omega) (by omega), Int.add_sub_cancel]
    repeat' split
    all_goals first | rfl | (exfalso; omega) | (exfalso; simp_all; done) | (exfalso; simp_all; omega)
  · rw [if_neg h4]
    simp only [bnd_some, if_neg h4]
    repeat' split
    all_goals first | rfl | (exfalso; omega) | (exfalso; simp_all; done) | (exfalso; simp_all; omega)
theorem r_order {a1 a2 a3 a4 : Int} (s : Mem) (hz : 0 ≤ s 100 42 ∧ s 100 42 ≤ 8) : fX11_order a1 a2 a3 a4 s = if (1 ≤ a1 ∧ a1 ≤ 40) ∧ (0 ≤ a2 ∧ a2 ≤ 400) ∧ (1 ≤ a3 ∧ a3 ≤ 20) ∧ (0 ≤ a4 ∧ a4 ≤ 5) then (if s 100 42 < 8 then some (s 100 42, up (up (up (up (up s 131 (s 100 42).toNat a1) 132 (s 100 42).toNat a2) 133 (s 100 42).toNat a3) 134 (s 100 42).toNat a4) 100 42 (s 100 42 + 1)) else some (-3, s)) else some (-1, s) := by
  unfold fX11_order
  simp only [sp_in, bnd_some, tv_0, ne_eq, Decidable.not_not]
  by_cases h4 : s 100 42 < 8
  · have e : (ST s 131 (s 100 42) 8 a1 fun s9 => ST s9 132 (s9 100 42) 8 a2 fun s10 => ST s10 133 (s10 100 42) 8 a3 fun s11 => ST s11 134 (s11 100 42) 8 a4 fun s12 => lt (up s12 100 42 (wr (s12 100 42 + 1))) fun s13 => some (wr (s13 100 42 - 1), s13)) = some (s 100 42, up (up (up (up (up s 131 (s 100 42).toNat a1) 132 (s 100 42).toNat a2) 133 (s 100 42).toNat a3) 134 (s 100 42).toNat a4) 100 42 (s 100 42 + 1)) := by
      rw [ST_in (by omega) (by omega)]
      simp only [ne_eq, not_false_eq_true, up_ne, Nat.reduceEqDiff]
      rw [ST_in (by omega) (by omega)]
      simp only [ne_eq, not_false_eq_true, up_ne, Nat.reduceEqDiff]
      rw [ST_in (by omega) (by omega)]
      simp only [ne_eq, not_false_eq_true, up_ne, Nat.reduceEqDiff]
      rw [ST_in (by omega) (by omega)]
      simp only [ne_eq, not_false_eq_true, up_ne, Nat.reduceEqDiff, lt_eq, up_at]
      rw [wr_ok (x := s 100 42 + 1) (by omega) (by omega), wr_ok (by omega) (by omega), Int.add_sub_cancel]
    rw [e, if_pos h4]
    repeat' split
    all_goals first | rfl | (exfalso; omega) | (exfalso; simp_all; done) | (exfalso; simp_all; omega)
  · rw [if_neg h4]
    repeat' split
    all_goals first | rfl | (exfalso; omega) | (exfalso; simp_all; done) | (exfalso; simp_all; omega)
theorem op_order (a1 a2 a3 a4 : Int) : OP (fX10_order a1 a2 a3 a4) (fX11_order a1 a2 a3 a4) := by
  intro n s hn h
  obtain ⟨h1, h2, h3, h4, h5, h6, h7, h8, h9, h10, h11, h12, h13, h14⟩ := h.mono
  obtain ⟨hz, hz2, hz3, hz4⟩ := id h12
  have hc := c_order (a1 := a1) (a2 := a2) (a3 := a3) (a4 := a4) s ⟨hz2, hz3⟩
  by_cases hb : (1 ≤ a1 ∧ a1 ≤ 40) ∧ (0 ≤ a2 ∧ a2 ≤ 400) ∧ (1 ≤ a3 ∧ a3 ≤ 20) ∧ (0 ≤ a4 ∧ a4 ≤ 5)
  · rw [if_pos hb] at hc
    by_cases hq : s 89 4 < 8
    · rw [if_pos hq] at hc
      refine ⟨_, _, up (up (up (up (up (up (up (up (up (up s 90 (s 89 4).toNat a1) 91 (s 89 4).toNat a2) 92 (s 89 4).toNat a3) 93 (s 89 4).toNat a4) 89 4 (s 89 4 + 1)) 131 (s 89 4).toNat a1) 132 (s 89 4).toNat a2) 133 (s 89 4).toNat a3) 134 (s 89 4).toNat a4) 100 42 (s 89 4 + 1), hc, ?_, ?_⟩
      · rw [r_order]
        · simp only [ne_eq, not_false_eq_true, up_ne, Nat.reduceEqDiff]
          rw [if_pos hb, ← hz, if_pos hq]
        · simp only [ne_eq, not_false_eq_true, up_ne, Nat.reduceEqDiff]; omega
      · unfold Rel
        simp only [ne_eq, not_false_eq_true, up_ne, up_nj, up_at, Nat.reduceEqDiff]
        refine ⟨h1, h2, h3, h4, h5, h6, h7, h8, h9, h10, h11, ⟨rfl, by omega, by omega, fun k hk => ?_⟩, h13, h14⟩
        simp only [up_eq, up_ne, ne_eq, not_false_eq_true, Nat.reduceEqDiff]
        by_cases hi2 : k = (s 89 4).toNat
        · simp only [hi2, if_true]
          refine ⟨trivial, trivial, trivial, trivial, by omega, by omega, by omega, by omega, by omega, by omega, by omega, by omega⟩
        · simp only [hi2, if_false]
          exact hz4 k (by omega)
    · rw [if_neg hq] at hc
      refine OP.same h hc ?_
      rw [r_order _ (by omega), if_pos hb, if_neg (by omega)]
  · rw [if_neg hb] at hc
    exact OP.same h hc (by rw [r_order _ (by omega), if_neg hb])
theorem c_reel {a1 a2 a3 : Int} (s : Mem) : fX10_reel a1 a2 a3 s = if (0 ≤ a1 ∧ a1 ≤ 7) ∧ (0 ≤ a2 ∧ a2 ≤ 100000) ∧ (1 ≤ a3 ∧ a3 ≤ 2000) ∧ a2 + a3 ≤ 100001 then some (0, up (up (up s 35 a1.toNat a2) 36 a1.toNat a3) 37 a1.toNat 0) else some (-1, s) := by
  unfold fX10_reel fX5_tell
  simp only [sp_reel, sp_within, bnd_some, tv_0, ne_eq, Decidable.not_not, Nat.reduceAdd]
  by_cases hb : (0 ≤ a1 ∧ a1 ≤ 7) ∧ (0 ≤ a2 ∧ a2 ≤ 100000) ∧ (1 ≤ a3 ∧ a3 ≤ 2000)
  · rw [wr_ok (x := a2 + a3) (by omega) (by omega), wr_ok (by omega) (by omega), ST_in (by omega) (by omega), ST_in (by omega) (by omega), ST_in (by omega) (by omega)]
    unfold zp
    simp only [true_or, if_true, bnd_some]
    repeat' split
    all_goals first | rfl | (exfalso; omega) | (exfalso; simp_all; done) | (exfalso; simp_all; omega)
  · rw [if_neg (c := _ ∧ _ ∧ _ ∧ _) (by omega)]
    repeat' split
    all_goals first | rfl | (exfalso; omega) | (exfalso; simp_all; done) | (exfalso; simp_all; omega)
theorem r_reel {a1 a2 a3 : Int} (s : Mem) : fX11_reel a1 a2 a3 s = if (0 ≤ a1 ∧ a1 ≤ 7) ∧ (0 ≤ a2 ∧ a2 ≤ 100000) ∧ (1 ≤ a3 ∧ a3 ≤ 2000) ∧ a2 + a3 ≤ 100001 then some (0, up (up (up s 121 a1.toNat a2) 122 a1.toNat a3) 123 a1.toNat 1) else some (-1, s) := by
  unfold fX11_reel
  simp only [sp_in, bnd_some, tv_0, ne_eq, Decidable.not_not]
  by_cases hb : (0 ≤ a1 ∧ a1 ≤ 7) ∧ (0 ≤ a2 ∧ a2 ≤ 100000) ∧ (1 ≤ a3 ∧ a3 ≤ 2000)
  · rw [wr_ok (x := a2 + a3) (by omega) (by omega), wr_ok (by omega) (by omega), ST_in (by omega) (by omega), ST_in (by omega) (by omega), ST_in (by omega) (by omega)]
    repeat' split
    all_goals first | rfl | (exfalso; omega) | (exfalso; simp_all; done) | (exfalso; simp_all; omega)
  · rw [if_neg (c := _ ∧ _ ∧ _ ∧ _) (by omega)]
    repeat' split
    all_goals first | rfl | (exfalso; omega) | (exfalso; simp_all; done) | (exfalso; simp_all; omega)
theorem op_reel (a1 a2 a3 : Int) : OP (fX10_reel a1 a2 a3) (fX11_reel a1 a2 a3) := by
  intro n s hn h
  obtain ⟨h1, h2, h3, h4, h5, h6, h7, h8, h9, h10, h11, h12, h13, h14⟩ := h.mono
  have hc := c_reel (a1 := a1) (a2 := a2) (a3 := a3) s
  by_cases hb : (0 ≤ a1 ∧ a1 ≤ 7) ∧ (0 ≤ a2 ∧ a2 ≤ 100000) ∧ (1 ≤ a3 ∧ a3 ≤ 2000) ∧ a2 + a3 ≤ 100001
  · rw [if_pos hb] at hc
    refine ⟨_, _, up (up (up (up (up (up s 35 a1.toNat a2) 36 a1.toNat a3) 37 a1.toNat 0) 121 a1.toNat a2) 122 a1.toNat a3) 123 a1.toNat 1, hc, by rw [r_reel, if_pos hb], ?_⟩
    unfold Rel
    simp only [ne_eq, not_false_eq_true, up_ne, up_nj, up_at, Nat.reduceEqDiff]
    have fr : ∀ j : Nat, 0 < j → ∀ k, k < 8 → 8 * j + k ≠ a1.toNat := fun j hj k hk => by omega
    refine ⟨h1, h2, h3, h4, h5, h6, h7, ⟨h8.1, h8.2.1, fun k hk => ?_, h8.2.2.2⟩, ⟨h9.1, h9.2.1, fun k hk => ?_, h9.2.2.2⟩, ⟨h10.1, h10.2.1, fun k hk => ?_, h10.2.2.2⟩, h11, h12, h13, h14⟩
    · have := h8.2.2.1 k hk
      rw [show 8 * 0 + k = k by omega] at this ⊢
      simp only [up_eq, up_ne, ne_eq, not_false_eq_true, Nat.reduceEqDiff]
      by_cases hi2 : k = a1.toNat
      · simp only [hi2, if_true]
        refine ⟨trivial, trivial, by omega, by omega, by omega, by omega, Or.inr (Or.inl ⟨trivial, by omega, trivial⟩)⟩
      · simp only [hi2, if_false]; exact this
    · have := h9.2.2.1 k hk
      simp only [up_eq, up_ne, ne_eq, not_false_eq_true, Nat.reduceEqDiff, fr 1 (by omega) k hk, if_false]
      exact this
    · have := h10.2.2.1 k hk
      simp only [up_eq, up_ne, ne_eq, not_false_eq_true, Nat.reduceEqDiff, fr 2 (by omega) k hk, if_false]
      exact this
  · rw [if_neg hb] at hc
    exact OP.same h hc (by rw [r_reel, if_neg hb])
