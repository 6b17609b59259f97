/-! clear, strips, orders, reels, shots -/
theorem op_clear : OP fX10_clear fX11_clear := by
  intro n s hn h
  obtain ⟨h1, h2, h3, h4, h5, h6, h7, h8, h9, h10, h11, h12, h13, h14⟩ := h.mono
  refine ⟨s 8 1, up s 8 1 0, up (up s 8 1 0) 100 20 0, rfl, ?_, ?_⟩
  · unfold fX11_clear
    rw [lt_eq, lt_eq, up_ne _ _ _ _ (show (100 : Nat) ≠ 8 by omega), h3.1]
  · unfold Rel
    simp only [ne_eq, not_false_eq_true, up_ne, up_nj, up_at, Nat.reduceEqDiff]
    exact ⟨h1, h2, ⟨rfl, by omega, by omega, fun i hi => by omega⟩, h4, h5, h6, h7, h8, h9, h10, h11, h12, h13, h14⟩
theorem op_noStrips : OP fX10_noStrips fX11_noStrips := by
  intro n s hn h
  obtain ⟨h1, h2, h3, h4, h5, h6, h7, h8, h9, h10, h11, h12, h13, h14⟩ := h.mono
  refine ⟨s 83 3, up s 83 3 0, up (up s 83 3 0) 100 38 0, rfl, ?_, ?_⟩
  · unfold fX11_noStrips
    rw [lt_eq, lt_eq, up_ne _ _ _ _ (show (100 : Nat) ≠ 83 by omega), h11.1]
  · unfold Rel
    simp only [ne_eq, not_false_eq_true, up_ne, up_nj, up_at, Nat.reduceEqDiff]
    exact ⟨h1, h2, h3, h4, h5, h6, h7, h8, h9, h10, ⟨rfl, by omega, by omega, fun i hi => by omega⟩, h12, h13, h14⟩
def okStrip (a1 a2 a3 : Int) : Prop := (0 ≤ a1 ∧ a1 ≤ 99) ∧ (0 ≤ a2 ∧ a2 ≤ 2) ∧ (a3 = 100 ∨ (-10 ≤ a3 ∧ a3 ≤ 10))
theorem c_strip {a1 a2 a3 : Int} (s : Mem) (hz : 0 ≤ s 83 3 ∧ s 83 3 ≤ 20) : fX10_strip a1 a2 a3 s = if (0 ≤ a1 ∧ a1 ≤ 99) ∧ (0 ≤ a2 ∧ a2 ≤ 2) ∧ (a3 = 100 ∨ (-10 ≤ a3 ∧ a3 ≤ 10)) then (if s 83 3 < 20 then some (s 83 3 + 1, up (up (up (up s 84 (s 83 3).toNat a1) 85 (s 83 3).toNat a2) 86 (s 83 3).toNat a3) 83 3 (s 83 3 + 1)) else some (-3, s)) else some (-1, s) := by
  unfold fX10_strip fX7_add
  simp only [jn_eq, sp_within, sp_colour, bnd_some, tv_0, ne_eq, Decidable.not_not, zr_0, zr_1]
  by_cases h4 : s 83 3 < 20
  · have e : (ST s 84 (s 83 3) 20 a1 fun s1 => ST s1 85 (s1 83 3) 20 a2 fun s2 => ST s2 86 (s2 83 3) 20 a3 fun s3 => lt (up s3 83 3 (wr (s3 83 3 + 1))) fun s4 => some ((1 : Int), s4)) = some (1, up (up (up (up s 84 (s 83 3).toNat a1) 85 (s 83 3).toNat a2) 86 (s 83 3).toNat a3) 83 3 (s 83 3 + 1)) := by
      rw [ST_in (by omega) (by omega)]
      simp only [ne_eq, not_false_eq_true, up_ne, Nat.reduceEqDiff]
      rw [ST_in (by omega) (by omega)]
      simp only [ne_eq, not_false_eq_true, up_ne, Nat.reduceEqDiff]
      rw [ST_in (by omega) (by omega)]
      simp only [ne_eq, not_false_eq_true, up_ne, Nat.reduceEqDiff, lt_eq]
      rw [wr_ok (by omega) (by omega)]
    rw [e, if_pos h4]
    simp only [bnd_some, up_at, if_pos h4]
    repeat' split
    all_goals first | rfl | (exfalso; omega) | (exfalso; simp_all; done) | (exfalso; simp_all; omega)
  · rw [if_neg h4]
    simp only [bnd_some, if_neg h4]
    repeat' split
    all_goals first | rfl | (exfalso; omega) | (exfalso; simp_all; done) | (exfalso; simp_all; omega)
theorem r_strip {a1 a2 a3 : Int} (s : Mem) (hz : 0 ≤ s 100 38 ∧ s 100 38 ≤ 20) : fX11_strip a1 a2 a3 s = if (0 ≤ a1 ∧ a1 ≤ 99) ∧ (0 ≤ a2 ∧ a2 ≤ 2) ∧ (a3 = 100 ∨ (-10 ≤ a3 ∧ a3 ≤ 10)) then (if s 100 38 < 20 then some (s 100 38 + 1, up (up (up (up s 128 (s 100 38).toNat a1) 129 (s 100 38).toNat a2) 130 (s 100 38).toNat a3) 100 38 (s 100 38 + 1)) else some (-3, s)) else some (-1, s) := by
  unfold fX11_strip
  simp only [jn_eq, sp_in, bnd_some, tv_0, ne_eq, Decidable.not_not]
  by_cases h4 : s 100 38 < 20
  · have e : (ST s 128 (s 100 38) 20 a1 fun s8 => ST s8 129 (s8 100 38) 20 a2 fun s9 => ST s9 130 (s9 100 38) 20 a3 fun s10 => lt (up s10 100 38 (wr (s10 100 38 + 1))) fun s11 => some (s11 100 38, s11)) = some (s 100 38 + 1, up (up (up (up s 128 (s 100 38).toNat a1) 129 (s 100 38).toNat a2) 130 (s 100 38).toNat a3) 100 38 (s 100 38 + 1)) := by
      rw [ST_in (by omega) (by omega)]
      simp only [ne_eq, not_false_eq_true, up_ne, Nat.reduceEqDiff]
      rw [ST_in (by omega) (by omega)]
      simp only [ne_eq, not_false_eq_true, up_ne, Nat.reduceEqDiff]
      rw [ST_in (by omega) (by omega)]
      simp only [ne_eq, not_false_eq_true, up_ne, Nat.reduceEqDiff, lt_eq, up_at]
      rw [wr_ok (by omega) (by omega)]
    rw [e, if_pos h4]
    repeat' split
    all_goals first | rfl | (exfalso; omega) | (exfalso; simp_all; done) | (exfalso; simp_all; omega)
  · rw [if_neg h4]
    repeat' split
    all_goals first | rfl | (exfalso; omega) | (exfalso; simp_all; done) | (exfalso; simp_all; omega)
theorem op_strip (a1 a2 a3 : Int) : OP (fX10_strip a1 a2 a3) (fX11_strip a1 a2 a3) := by
  intro n s hn h
  obtain ⟨h1, h2, h3, h4, h5, h6, h7, h8, h9, h10, h11, h12, h13, h14⟩ := h.mono
  obtain ⟨hz, hz2, hz3, hz4⟩ := id h11
  have hc := c_strip (a1 := a1) (a2 := a2) (a3 := a3) s ⟨h11.2.1, h11.2.2.1⟩
  by_cases hb : (0 ≤ a1 ∧ a1 ≤ 99) ∧ (0 ≤ a2 ∧ a2 ≤ 2) ∧ (a3 = 100 ∨ (-10 ≤ a3 ∧ a3 ≤ 10))
  · rw [if_pos hb] at hc
    by_cases hq : s 83 3 < 20
    · rw [if_pos hq] at hc
      refine ⟨_, _, up (up (up (up (up (up (up (up s 84 (s 83 3).toNat a1) 85 (s 83 3).toNat a2) 86 (s 83 3).toNat a3) 83 3 (s 83 3 + 1)) 128 (s 83 3).toNat a1) 129 (s 83 3).toNat a2) 130 (s 83 3).toNat a3) 100 38 (s 83 3 + 1), hc, ?_, ?_⟩
      · rw [r_strip]
        · simp only [ne_eq, not_false_eq_true, up_ne, Nat.reduceEqDiff]
          rw [if_pos hb, ← hz, if_pos hq]
        · simp only [ne_eq, not_false_eq_true, up_ne, Nat.reduceEqDiff]; omega
      · unfold Rel
        simp only [ne_eq, not_false_eq_true, up_ne, up_nj, up_at, Nat.reduceEqDiff]
        refine ⟨h1, h2, h3, h4, h5, h6, h7, h8, h9, h10, ⟨rfl, by omega, by omega, fun k hk => ?_⟩, h12, h13, h14⟩
        simp only [up_eq, up_ne, ne_eq, not_false_eq_true, Nat.reduceEqDiff]
        by_cases hi2 : k = (s 83 3).toNat
        · simp only [hi2, if_true]
          refine ⟨trivial, trivial, trivial, by omega, by omega, by omega, by omega, hb.2.2⟩
        · simp only [hi2, if_false]
          exact hz4 k (by omega)
    · rw [if_neg hq] at hc
      refine OP.same h hc ?_
      rw [r_strip _ (by omega), if_pos hb, if_neg (by omega)]
  · rw [if_neg hb] at hc
    exact OP.same h hc (by rw [r_strip _ (by omega), if_neg hb])
