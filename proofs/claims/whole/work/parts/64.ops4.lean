/-! lose, from, shot -/
theorem c_told {a : Int} (s : Mem) (ha : 0 ≤ a ∧ a ≤ 7) : fX5_isTold 34 a s = some (tv (0 < s 36 a.toNat), s) := by
  unfold fX5_isTold tv
  rw [rd_in (by omega) (by omega)]
  simp only [Nat.reduceAdd]
  by_cases h : s 36 a.toNat ≤ 0
  · rw [if_pos h, if_neg (by omega)]; rfl
  · rw [if_neg h, if_pos (by omega)]; rfl
theorem op_lose (a1 a2 : Int) (h2 : a2 = 0 ∨ a2 = 1) : OP (fX10_lose a1 a2) (fX11_lose a1 a2) := by
  intro n s hn h
  obtain ⟨h1, hh2, h3, h4, h5, h6, h7, h8, h9, h10, h11, h12, h13, h14⟩ := h.mono
  by_cases hb : 0 ≤ a1 ∧ a1 ≤ 7
  · have g := h8.2.2.1 a1.toNat (by omega)
    rw [show 8 * 0 + a1.toNat = a1.toNat by omega] at g
    obtain ⟨g1, g2, g3, g4, g5, g6, g7⟩ := g
    by_cases ht : 0 < s 36 a1.toNat
    · have hc : fX10_lose a1 a2 s = some (s 123 a1.toNat - 1, up s 37 a1.toNat a2) := by
        unfold fX10_lose
        simp only [sp_reel, bnd_some, tv_0, ne_eq, Decidable.not_not, c_told s hb, jn_eq]
        rw [if_pos hb, if_pos ht, rd_in (by omega) (by omega), ST_in (by omega) (by omega), ST_in (by omega) (by omega)]
        unfold zp
        rw [if_pos h2]
        by_cases hl : s 37 a1.toNat = 0
        · rw [if_pos hl]; congr 2; omega
        · rw [if_neg hl, if_pos h2]; congr 2; omega
      refine ⟨_, _, up (up s 37 a1.toNat a2) 123 a1.toNat (a2 + 1), hc, ?_, ?_⟩
      · unfold fX11_lose
        simp only [sp_in, bnd_some, tv_0, ne_eq, Decidable.not_not, jn_eq]
        rw [if_pos hb, rd_in (by omega) (by omega), rd_in (by omega) (by omega)]
        simp only [ne_eq, not_false_eq_true, up_ne, Nat.reduceEqDiff, lt_eq]
        rw [if_pos (by omega), wr_ok (by omega) (by omega), ST_in (by omega) (by omega), ST_in (by omega) (by omega)]
        rcases h2 with rfl | rfl
        · rw [if_pos rfl]; rfl
        · rw [if_neg (by omega)]; rfl
      · unfold Rel
        simp only [ne_eq, not_false_eq_true, up_ne, up_nj, up_at, Nat.reduceEqDiff]
        have fr : ∀ j : Nat, 0 < j → ∀ k, k < 8 → 8 * j + k ≠ a1.toNat := fun j hj k hk => by omega
        refine ⟨h1, hh2, h3, h4, h5, h6, h7, ⟨h8.1, h8.2.1, fun k hk => ?_, h8.2.2.2⟩, ⟨h9.1, h9.2.1, fun k hk => ?_, h9.2.2.2⟩, ⟨h10.1, h10.2.1, fun k hk => ?_, h10.2.2.2⟩, h11, h12, h13, h14⟩
        · have := h8.2.2.1 k hk
          rw [show 8 * 0 + k = k by omega] at this ⊢
          simp only [up_eq, up_ne, ne_eq, not_false_eq_true, Nat.reduceEqDiff]
          by_cases hi2 : k = a1.toNat
          · subst hi2
            simp only [if_true]
            refine ⟨g1, g2, g3, g4, g5, g6, ?_⟩
            rcases h2 with rfl | rfl
            · exact Or.inr (Or.inl ⟨rfl, by omega, rfl⟩)
            · exact Or.inr (Or.inr ⟨rfl, by omega, rfl⟩)
          · simp only [hi2, if_false]; exact this
        · have := h9.2.2.1 k hk
          simp only [up_eq, up_ne, ne_eq, not_false_eq_true, Nat.reduceEqDiff, fr 1 (by omega) k hk, if_false]
          exact this
        · have := h10.2.2.1 k hk
          simp only [up_eq, up_ne, ne_eq, not_false_eq_true, Nat.reduceEqDiff, fr 2 (by omega) k hk, if_false]
          exact this
    · refine OP.same h (r := -2) ?_ ?_
      · unfold fX10_lose
        simp only [sp_reel, bnd_some, tv_0, ne_eq, Decidable.not_not, c_told s hb, jn_eq]
        rw [if_pos hb, if_neg ht]
      · unfold fX11_lose
        simp only [sp_in, bnd_some, tv_0, ne_eq, Decidable.not_not, jn_eq]
        rw [if_pos hb, rd_in (by omega) (by omega), if_neg (by omega)]
  · refine OP.same h (r := -1) ?_ ?_
    · unfold fX10_lose
      simp only [sp_reel, bnd_some, tv_0, ne_eq, Decidable.not_not]
      rw [if_neg hb]
    · unfold fX11_lose
      simp only [sp_in, bnd_some, tv_0, ne_eq, Decidable.not_not]
      rw [if_neg hb]
theorem op_from (a1 a2 a3 : Int) : OP (fX10_from a1 a2 a3) (fX11_from a1 a2 a3) := by
  intro n s hn h
  obtain ⟨h1, h2, h3, h4, h5, h6, h7, h8, h9, h10, h11, h12, h13, h14⟩ := h.mono
  by_cases hb : (0 ≤ a1 ∧ a1 ≤ 15) ∧ (-1 ≤ a2 ∧ a2 ≤ 7) ∧ (0 ≤ a3 ∧ a3 ≤ 100000)
  · have hT : 0 ≤ a2 → (0 < s 36 a2.toNat ↔ s 123 a2.toNat ≠ 0) := by
      intro h0
      have g := h8.2.2.1 a2.toNat (by omega)
      rw [show 8 * 0 + a2.toNat = a2.toNat by omega] at g
      obtain ⟨g1, g2, g3, g4, g5, g6, g7⟩ := g
      omega
    by_cases ht : a2 = -1 ∨ 0 < s 36 a2.toNat
    · have hc : fX10_from a1 a2 a3 s = some (0, up (up s 32 a1.toNat a2) 33 a1.toNat a3) := by
        unfold fX10_from
        simp only [sp_shot, sp_within, bnd_some, tv_0, ne_eq, Decidable.not_not, jn_eq]
        rw [if_neg (by omega), if_neg (by omega), if_pos hb.2.2, ST_in (by omega) (by omega), ST_in (by omega) (by omega)]
        by_cases q : a2 = -1
        · rw [if_pos q]
        · rw [if_neg q, c_told s (by omega), bnd_some]
          simp only [tv_0, Decidable.not_not]
          rw [if_pos (by omega), ST_in (by omega) (by omega), ST_in (by omega) (by omega)]
      refine ⟨_, _, up (up (up (up s 32 a1.toNat a2) 33 a1.toNat a3) 119 a1.toNat a2) 120 a1.toNat a3, hc, ?_, ?_⟩
      · unfold fX11_from
        simp only [sp_in, bnd_some, tv_0, ne_eq, Decidable.not_not, jn_eq]
        rw [if_neg (by omega), if_neg (by omega), if_pos hb.2.2, ST_in (by omega) (by omega), ST_in (by omega) (by omega)]
        by_cases q : a2 < 0
        · rw [if_pos q]
        · rw [if_neg q, rd_in (by omega) (by omega)]
          simp only [ne_eq, not_false_eq_true, up_ne, Nat.reduceEqDiff]
          rw [if_pos ((hT (by omega)).mp (by omega))]
      · unfold Rel
        simp only [ne_eq, not_false_eq_true, up_ne, up_nj, up_at, Nat.reduceEqDiff]
        have fr : ∀ j : Nat, 0 < j → ∀ k, k < 16 → 16 * j + k ≠ a1.toNat := fun j hj k hk => by omega
        refine ⟨h1, h2, h3, h4, h5, h6, h7, ⟨h8.1, fun k hk => ?_, h8.2.2.1, h8.2.2.2⟩, ⟨h9.1, fun k hk => ?_, h9.2.2.1, h9.2.2.2⟩, ⟨h10.1, fun k hk => ?_, h10.2.2.1, h10.2.2.2⟩, h11, h12, h13, h14⟩
        · have := h8.2.1 k hk
          rw [show 16 * 0 + k = k by omega] at this ⊢
          simp only [up_eq, up_ne, ne_eq, not_false_eq_true, Nat.reduceEqDiff]
          by_cases hi2 : k = a1.toNat
          · subst hi2
            simp only [if_true]
            exact ⟨trivial, by omega, by omega, trivial, by omega, by omega⟩
          · simp only [hi2, if_false]; exact this
        · have := h9.2.1 k hk
          simp only [up_eq, up_ne, ne_eq, not_false_eq_true, Nat.reduceEqDiff, fr 1 (by omega) k hk, if_false]
          exact this
        · have := h10.2.1 k hk
          simp only [up_eq, up_ne, ne_eq, not_false_eq_true, Nat.reduceEqDiff, fr 2 (by omega) k hk, if_false]
          exact this
    · refine OP.same h (r := -2) ?_ ?_
      · unfold fX10_from
        simp only [sp_shot, sp_within, bnd_some, tv_0, ne_eq, Decidable.not_not, jn_eq]
        rw [if_neg (by omega), if_neg (by omega), if_pos hb.2.2, if_neg (by omega), c_told s (by omega), bnd_some]
        simp only [tv_0, Decidable.not_not]
        rw [if_neg (by omega)]
      · unfold fX11_from
        simp only [sp_in, bnd_some, tv_0, ne_eq, Decidable.not_not, jn_eq]
        have := hT (by omega)
        rw [if_neg (by omega), if_neg (by omega), if_pos hb.2.2, if_neg (by omega), rd_in (by omega) (by omega), if_neg (by omega)]
  · refine OP.same h (r := -1) ?_ ?_
    · unfold fX10_from
      simp only [sp_shot, sp_within, bnd_some, tv_0, ne_eq, Decidable.not_not, jn_eq]
      by_cases q1 : 0 ≤ a1 ∧ a1 ≤ 15
      · rw [if_neg (by omega)]
        by_cases q2 : -1 ≤ a2 ∧ a2 ≤ 7
        · rw [if_neg (by omega), if_neg (by omega)]
        · rw [if_pos q2]
      · rw [if_pos q1]
    · unfold fX11_from
      simp only [sp_in, bnd_some, tv_0, ne_eq, Decidable.not_not, jn_eq]
      by_cases q1 : 0 ≤ a1 ∧ a1 ≤ 15
      · rw [if_neg (by omega)]
        by_cases q2 : -1 ≤ a2 ∧ a2 ≤ 7
        · rw [if_neg (by omega), if_neg (by omega)]
        · rw [if_pos q2]
      · rw [if_pos q1]
theorem c_shot {a1 a2 a3 a4 : Int} (s : Mem) : fX10_shot a1 a2 a3 a4 s = if (0 ≤ a1 ∧ a1 ≤ 15) ∧ (0 ≤ a2 ∧ a2 ≤ 2) then (if a3 = 0 ∧ 0 ≤ a4 ∧ a4 ≤ 60 then some (s 30 (3 * a1 + a2).toNat, up s 30 (3 * a1 + a2).toNat a4) else if a3 = 1 ∧ -1 ≤ a4 ∧ a4 ≤ 255 then some (s 31 (3 * a1 + a2).toNat, up s 31 (3 * a1 + a2).toNat a4) else some (-100, s)) else some (-100, s) := by
  unfold fX10_shot
  simp only [sp_shot, sp_colour, sp_within, bnd_some, tv_0, ne_eq, Decidable.not_not, jn_eq, lt_eq, bnd_id]
  by_cases hb : (0 ≤ a1 ∧ a1 ≤ 15) ∧ (0 ≤ a2 ∧ a2 ≤ 2)
  · have e0 : wr (wr (a1 * 3) + a2) = 3 * a1 + a2 := by
      rw [wr_ok (x := a1 * 3) (by omega) (by omega), wr_ok (by omega) (by omega)]; omega
    rw [e0, sp_swap _ (by omega) (by omega), sp_swap _ (by omega) (by omega), if_pos hb]
    repeat' split
    all_goals first | rfl | (exfalso; omega) | (exfalso; simp_all; done) | (exfalso; simp_all; omega)
  · rw [if_neg hb]
    repeat' split
    all_goals first | rfl | (exfalso; omega) | (exfalso; simp_all; done) | (exfalso; simp_all; omega)
theorem r_shot {a1 a2 a3 a4 : Int} (s : Mem) : fX11_shot a1 a2 a3 a4 s = if (0 ≤ a1 ∧ a1 ≤ 15) ∧ (0 ≤ a2 ∧ a2 ≤ 2) then (if a3 = 0 ∧ 0 ≤ a4 ∧ a4 ≤ 60 then some (s 117 (3 * a1 + a2).toNat, up s 117 (3 * a1 + a2).toNat a4) else if a3 = 1 ∧ -1 ≤ a4 ∧ a4 ≤ 255 then some (s 118 (3 * a1 + a2).toNat, up s 118 (3 * a1 + a2).toNat a4) else some (-100, s)) else some (-100, s) := by
  unfold fX11_shot
  simp only [sp_in, bnd_some, tv_0, ne_eq, Decidable.not_not, jn_eq, lt_eq, bnd_id]
  by_cases hb : (0 ≤ a1 ∧ a1 ≤ 15) ∧ (0 ≤ a2 ∧ a2 ≤ 2)
  · have e0 : wr (wr (3 * a1) + a2) = 3 * a1 + a2 := by
      rw [wr_ok (x := 3 * a1) (by omega) (by omega), wr_ok (by omega) (by omega)]
    rw [e0, if_pos hb]
    simp only [rd_in (β := Res) (i := 3 * a1 + a2) (n := 144) (by omega) (by omega), ST_in (β := Res) (i := 3 * a1 + a2) (n := 144) (by omega) (by omega)]
    repeat' split
    all_goals first | rfl | (exfalso; omega) | (exfalso; simp_all; done) | (exfalso; simp_all; omega)
  · rw [if_neg hb]
    by_cases q1 : 0 ≤ a1 ∧ a1 ≤ 15
    · rw [if_neg (by omega), if_pos (by omega)]
    · rw [if_pos q1]
theorem op_shot (a1 a2 a3 a4 : Int) : OP (fX10_shot a1 a2 a3 a4) (fX11_shot a1 a2 a3 a4) := by
  intro n s hn h
  obtain ⟨h1, h2, h3, h4, h5, h6, h7, h8, h9, h10, h11, h12, h13, h14⟩ := h.mono
  have hc := c_shot (a1 := a1) (a2 := a2) (a3 := a3) (a4 := a4) s
  by_cases hb : (0 ≤ a1 ∧ a1 ≤ 15) ∧ (0 ≤ a2 ∧ a2 ≤ 2)
  · have e := h8.1 (3 * a1 + a2).toNat (by omega)
    rw [show 48 * 0 + (3 * a1 + a2).toNat = (3 * a1 + a2).toNat by omega] at e
    have fr : ∀ j : Nat, 0 < j → ∀ k, k < 48 → 48 * j + k ≠ (3 * a1 + a2).toNat := fun j hj k hk => by omega
    rw [if_pos hb] at hc
    by_cases q1 : a3 = 0 ∧ 0 ≤ a4 ∧ a4 ≤ 60
    · rw [if_pos q1] at hc
      refine ⟨_, _, up (up s 30 (3 * a1 + a2).toNat a4) 117 (3 * a1 + a2).toNat a4, hc, ?_, ?_⟩
      · rw [r_shot, if_pos hb, if_pos q1, up_ne _ _ _ _ (show (117 : Nat) ≠ 30 by omega), e.1]
      · unfold Rel
        simp only [ne_eq, not_false_eq_true, up_ne, up_nj, up_at, Nat.reduceEqDiff]
        refine ⟨h1, h2, h3, h4, h5, h6, h7, ⟨fun k hk => ?_, h8.2⟩, ⟨fun k hk => ?_, h9.2⟩, ⟨fun k hk => ?_, h10.2⟩, h11, h12, h13, h14⟩
        · have := h8.1 k hk
          rw [show 48 * 0 + k = k by omega] at this ⊢
          simp only [up_eq, up_ne, ne_eq, not_false_eq_true, Nat.reduceEqDiff]
          by_cases hi2 : k = (3 * a1 + a2).toNat
          · subst hi2
            simp only [if_true]
            exact ⟨trivial, by omega, by omega, this.2.2.2⟩
          · simp only [hi2, if_false]; exact this
        · have := h9.1 k hk
          simp only [up_eq, up_ne, ne_eq, not_false_eq_true, Nat.reduceEqDiff, fr 1 (by omega) k hk, if_false]
          exact this
        · have := h10.1 k hk
          simp only [up_eq, up_ne, ne_eq, not_false_eq_true, Nat.reduceEqDiff, fr 2 (by omega) k hk, if_false]
          exact this
    · rw [if_neg q1] at hc
      by_cases q2 : a3 = 1 ∧ -1 ≤ a4 ∧ a4 ≤ 255
      · rw [if_pos q2] at hc
        refine ⟨_, _, up (up s 31 (3 * a1 + a2).toNat a4) 118 (3 * a1 + a2).toNat a4, hc, ?_, ?_⟩
        · rw [r_shot, if_pos hb, if_neg q1, if_pos q2, up_ne _ _ _ _ (show (118 : Nat) ≠ 31 by omega), e.2.2.2.1]
        · unfold Rel
          simp only [ne_eq, not_false_eq_true, up_ne, up_nj, up_at, Nat.reduceEqDiff]
          refine ⟨h1, h2, h3, h4, h5, h6, h7, ⟨fun k hk => ?_, h8.2⟩, ⟨fun k hk => ?_, h9.2⟩, ⟨fun k hk => ?_, h10.2⟩, h11, h12, h13, h14⟩
          · have := h8.1 k hk
            rw [show 48 * 0 + k = k by omega] at this ⊢
            simp only [up_eq, up_ne, ne_eq, not_false_eq_true, Nat.reduceEqDiff]
            by_cases hi2 : k = (3 * a1 + a2).toNat
            · subst hi2
              simp only [if_true]
              exact ⟨this.1, this.2.1, this.2.2.1, trivial, by omega, by omega⟩
            · simp only [hi2, if_false]; exact this
          · have := h9.1 k hk
            simp only [up_eq, up_ne, ne_eq, not_false_eq_true, Nat.reduceEqDiff, fr 1 (by omega) k hk, if_false]
            exact this
          · have := h10.1 k hk
            simp only [up_eq, up_ne, ne_eq, not_false_eq_true, Nat.reduceEqDiff, fr 2 (by omega) k hk, if_false]
            exact this
      · rw [if_neg q2] at hc
        exact OP.same h hc (by rw [r_shot, if_pos hb, if_neg q1, if_neg q2])
  · rw [if_neg hb] at hc
    exact OP.same h hc (by rw [r_shot, if_neg hb])
