/-! calls on tones -/
theorem if_both {c : Prop} [Decidable c] {α : Type} {a b : α} {P : α → Prop} (h1 : c → P a) (h2 : ¬ c → P b) : P (if c then a else b) := by
  by_cases h : c
  · rw [if_pos h]; exact h1 h
  · rw [if_neg h]; exact h2 h
theorem op_bath (a1 a2 a3 : Int) : OP (fX10_bath a1 a2 a3) (fX11_bath a1 a2 a3) := by
  intro n s hn h
  have tb := h.tb
  by_cases hb : 0 ≤ a1 ∧ a1 ≤ 1
  · have e0 := tb.2.2.2.1 a1.toNat (by omega)
    by_cases q1 : a2 = 0 ∧ 0 ≤ a3 ∧ a3 ≤ 1000
    · refine ⟨s 3 a1.toNat, _, up (up s 3 a1.toNat a3) 102 a1.toNat a3, by rw [c_bath, if_pos hb, if_pos q1], ?_, ?_⟩
      · rw [r_bath, if_pos hb, if_pos q1, up_ne _ _ _ _ (show (102 : Nat) ≠ 3 by omega), e0.1]
      · obtain ⟨h1, h2, h3, h4, h5, h6, h7, h8, h9, h10, h11, h12, h13, h14⟩ := h.mono
        unfold Rel
        simp only [ne_eq, not_false_eq_true, up_ne, Nat.reduceEqDiff]
        refine ⟨⟨h1.1, fun i hi => ?_, h1.2.2⟩, h2, h3, h4, h5, h6, h7, h8, h9, h10, h11, h12, h13, h14⟩
        have := h1.2.1 i hi
        simp only [up_eq, up_ne, ne_eq, not_false_eq_true, Nat.reduceEqDiff]
        by_cases hi2 : i = a1.toNat
        · rw [if_pos hi2, if_pos hi2]; omega
        · rw [if_neg hi2, if_neg hi2]; exact this
    · by_cases q2 : a2 = 1 ∧ 1 ≤ a3 ∧ a3 ≤ 50
      · refine ⟨s 4 a1.toNat, _, up (up s 4 a1.toNat a3) 103 a1.toNat a3, by rw [c_bath, if_pos hb, if_neg q1, if_pos q2], ?_, ?_⟩
        · rw [r_bath, if_pos hb, if_neg q1, if_pos q2, up_ne _ _ _ _ (show (103 : Nat) ≠ 4 by omega), e0.2.1]
        · obtain ⟨h1, h2, h3, h4, h5, h6, h7, h8, h9, h10, h11, h12, h13, h14⟩ := h.mono
          unfold Rel
          simp only [ne_eq, not_false_eq_true, up_ne, Nat.reduceEqDiff]
          refine ⟨⟨h1.1, fun i hi => ?_, h1.2.2⟩, h2, h3, h4, h5, h6, h7, h8, h9, h10, h11, h12, h13, h14⟩
          have := h1.2.1 i hi
          simp only [up_eq, up_ne, ne_eq, not_false_eq_true, Nat.reduceEqDiff]
          by_cases hi2 : i = a1.toNat
          · rw [if_pos hi2, if_pos hi2]; omega
          · rw [if_neg hi2, if_neg hi2]; exact this
      · exact OP.same h (r := -1) (by rw [c_bath, if_pos hb, if_neg q1, if_neg q2]) (by rw [r_bath, if_pos hb, if_neg q1, if_neg q2])
  · exact OP.same h (r := -1) (by rw [c_bath, if_neg hb]) (by rw [r_bath, if_neg hb])
theorem op_lamp (a1 a2 : Int) : OP (fX10_lamp a1 a2) (fX11_lamp a1 a2) := by
  intro n s hn h
  have tb := h.tb
  by_cases hb : (0 ≤ a1 ∧ a1 ≤ 2) ∧ 0 ≤ a2 ∧ a2 ≤ 20
  · have e0 := tb.2.2.2.2 a1.toNat (by omega)
    refine ⟨s 6 a1.toNat, _, up (up s 6 a1.toNat a2) 105 a1.toNat a2, by rw [c_lamp, if_pos hb], ?_, ?_⟩
    · rw [r_lamp, if_pos hb, up_ne _ _ _ _ (show (105 : Nat) ≠ 6 by omega), e0]
    · obtain ⟨h1, h2, h3, h4, h5, h6, h7, h8, h9, h10, h11, h12, h13, h14⟩ := h.mono
      unfold Rel
      simp only [ne_eq, not_false_eq_true, up_ne, Nat.reduceEqDiff]
      refine ⟨⟨h1.1, h1.2.1, fun i hi => ?_⟩, h2, h3, h4, h5, h6, h7, h8, h9, h10, h11, h12, h13, h14⟩
      have := h1.2.2 i hi
      simp only [up_eq, up_ne, ne_eq, not_false_eq_true, Nat.reduceEqDiff]
      by_cases hi2 : i = a1.toNat
      · rw [if_pos hi2, if_pos hi2]; omega
      · rw [if_neg hi2, if_neg hi2]; exact this
  · exact OP.same h (r := -1) (by rw [c_lamp, if_neg hb]) (by rw [r_lamp, if_neg hb])
theorem op_rule (a1 a2 : Int) : OP (fX10_rule a1 a2) (fX11_rule a1 a2) := by
  intro n s hn h
  by_cases hb : okRule a1 a2
  · obtain ⟨h1, h2, h3, h4, h5, h6, h7, h8, h9, h10, h11, h12, h13, h14⟩ := h.mono
    refine ⟨s 7 a1.toNat, _, up (up s 7 a1.toNat a2) 100 (5 + a1.toNat) a2, c_rule_in s hb, ?_, ?_⟩
    · rw [r_rule_in _ hb, up_ne _ _ _ _ (show (100 : Nat) ≠ 7 by omega)]
      congr 2
      unfold okRule at hb
      obtain ⟨⟨g0, -⟩, ⟨g1, -⟩, ⟨g2, -⟩, ⟨g3, -⟩⟩ := h2
      rcases hb with ⟨rfl, -⟩ | ⟨rfl, -⟩ | ⟨rfl, -⟩ | ⟨rfl, -⟩
      · exact g0.symm
      · exact g1.symm
      · exact g2.symm
      · exact g3.symm
    · unfold okRule at hb
      unfold Rel
      have hj : ∀ j : Nat, 8 < j → up (up s 7 a1.toNat a2) 100 (5 + a1.toNat) a2 100 j = s 100 j := fun j hj => by
        rw [up_nj _ _ _ _ (by omega), up_ne _ _ _ _ (by omega)]
      rw [hj 20 (by omega), hj 38 (by omega), hj 42 (by omega), hj 19 (by omega), hj 31 (by omega), hj 32 (by omega)]
      simp only [ne_eq, not_false_eq_true, up_ne, Nat.reduceEqDiff]
      refine ⟨h1, ?_, h3, h4, h5, h6, h7, h8, h9, h10, h11, h12, h13, h14⟩
      obtain ⟨g0, g1, g2, g3⟩ := h2
      rcases hb with ⟨rfl, hb⟩ | ⟨rfl, hb⟩ | ⟨rfl, hb⟩ | ⟨rfl, hb⟩
      · refine ⟨⟨?_, hb⟩, g1, g2, g3⟩; rfl
      · refine ⟨g0, ⟨?_, hb⟩, g2, g3⟩; rfl
      · refine ⟨g0, g1, ⟨?_, hb⟩, g3⟩; rfl
      · refine ⟨g0, g1, g2, ⟨?_, hb⟩⟩; rfl
  · exact OP.same h (r := -1) (c_rule_out s hb) (r_rule_out s hb)
theorem op_bathTold (a1 a2 : Int) : OP (fX10_bathTold a1 a2) (fX11_bathTold a1 a2) := by
  intro n s hn h
  have tb := h.tb
  by_cases hb : 0 ≤ a1 ∧ a1 ≤ 1
  · have e0 := tb.2.2.2.1 a1.toNat (by omega)
    have b1 := tb.1.2.2 a1.toNat (by omega)
    have b2 := tb.2.1.2.2 a1.toNat (by omega)
    have key : ∃ r, fX10_bathTold a1 a2 s = some (r, s) ∧ fX11_bathTold a1 a2 s = some (r, s) := by
      unfold fX10_bathTold fX11_bathTold
      simp only [sp_bath, sp_in, bnd_some, tv_0, ne_eq, bnd_id, Decidable.not_not]
      rw [if_pos hb, if_neg (show ¬ ¬ (0 ≤ a1 ∧ a1 ≤ 1) from fun h => h hb)]
      simp only [rd_in (β := Res) (i := a1) (n := 2) (by omega) (by omega)]
      rw [c_act s hb b1, r_act s hb b2, e0.1, e0.2.1, e0.2.2]
      by_cases q0 : a2 = 0
      · subst q0; exact ⟨s 102 a1.toNat, by simp, by simp⟩
      · by_cases q1 : a2 = 1
        · subst q1; exact ⟨s 103 a1.toNat, by simp, by simp⟩
        · by_cases q2 : a2 = 2
          · subst q2; exact ⟨s 104 a1.toNat, by simp, by simp⟩
          · by_cases q3 : a2 = 3
            · subst q3; exact ⟨(s 102 a1.toNat - 800) / 40, by simp, by simp⟩
            · refine ⟨-1000, by simp [q0, q1, q2, q3], ?_⟩
              rw [if_neg (by omega)]
    obtain ⟨r, k1, k2⟩ := key
    exact OP.same h k1 k2
  · refine OP.same h (r := -1000) ?_ ?_
    · unfold fX10_bathTold; rw [sp_bath, bnd_some]; simp only [ne_eq, tv_0, Decidable.not_not]; rw [if_neg hb]
    · unfold fX11_bathTold; rw [sp_in, bnd_some]; simp only [tv_0]; rw [if_pos hb]
theorem prt_eq {f g h f' g' h' : Nat → Int} {a c p d b : Int} (ha : 0 ≤ a ∧ a ≤ 2) (hc : 0 ≤ c ∧ c ≤ 2) (hb : 0 ≤ b ∧ b ≤ 1) (e1 : ∀ i, i < 81 → f i = f' i) (e2 : ∀ i, i < 3 → g i = g' i) (e3 : ∀ i, i < 2 → h i = h' i) : prt f g h a c p d b = prt f' g' h' a c p d b := by
  unfold prt
  rw [e2 c.toNat (by omega), e3 b.toNat (by omega)]
  unfold tonev
  repeat' split
  · exact e1 _ (by omega)
  · exact e1 _ (by omega)
  · rw [e1 _ (by omega), e1 (27 * a + 9 * c + _ + 1).toNat (by omega)]
theorem cop_eq {f g h f' g' h' : Nat → Int} {a c p b : Int} (ha : 0 ≤ a ∧ a ≤ 2) (hc : 0 ≤ c ∧ c ≤ 2) (hb : 0 ≤ b ∧ b ≤ 1) (e1 : ∀ i, i < 81 → f i = f' i) (e2 : ∀ i, i < 3 → g i = g' i) (e3 : ∀ i, i < 2 → h i = h' i) : ∀ (j : Nat) (v : Int), cop f g h a c p b j v = cop f' g' h' a c p b j v := by
  intro j
  induction j with
  | zero => intro v; rfl
  | succ j ih => intro v; unfold cop; rw [prt_eq ha hc hb e1 e2 e3, ih]
theorem op_exposure (a1 a2 a3 a4 : Int) : OP (fX10_exposure a1 a2 a3 a4) (fX11_exposure a1 a2 a3 a4) := by
  intro n s hn h
  have tb := h.tb
  by_cases hb : (0 ≤ a1 ∧ a1 ≤ 2) ∧ (1 ≤ a2 ∧ a2 ≤ 50) ∧ (0 ≤ a3 ∧ a3 ≤ 60) ∧ 0 ≤ a4 ∧ a4 ≤ 1
  · refine OP.same h (r := a2 + 20 - a3 - s 6 a1.toNat + (s 3 a4.toNat - 800) / 40) ?_ ?_
    · rw [c_exposure s tb.1, if_pos hb]
    · rw [r_exposure s tb.2.1, if_pos hb, tb.2.2.2.2 _ (by omega), (tb.2.2.2.1 a4.toNat (by omega)).1]
  · exact OP.same h (r := -1000) (by rw [c_exposure s tb.1, if_neg hb]) (by rw [r_exposure s tb.2.1, if_neg hb])
theorem op_tone (a1 a2 a3 a4 a5 a6 : Int) : OP (fX10_tone a1 a2 a3 a4 a5 a6) (fX11_tone a1 a2 a3 a4 a5 a6) := by
  intro n s hn h
  have tb := h.tb
  by_cases hb : (0 ≤ a1 ∧ a1 ≤ 2) ∧ (0 ≤ a2 ∧ a2 ≤ 2) ∧ (1 ≤ a3 ∧ a3 ≤ 50) ∧ (0 ≤ a4 ∧ a4 ≤ 60) ∧ (0 ≤ a5 ∧ a5 ≤ 1) ∧ 1 ≤ a6 ∧ a6 ≤ 5
  · have e3 : ∀ i, i < 2 → s 3 i = s 102 i := fun i hi => (tb.2.2.2.1 i hi).1
    refine OP.same h (r := cop (s 2) (s 6) (s 3) a1 a2 a3 a5 (a6 - 1).toNat (prt (s 2) (s 6) (s 3) a1 a2 a3 a4 a5)) ?_ ?_
    · rw [c_tone s tb.1, if_pos hb]
    · rw [r_tone s tb.2.1, if_pos hb, cop_eq hb.1 hb.2.1 hb.2.2.2.2.1 tb.2.2.1 tb.2.2.2.2 e3, prt_eq hb.1 hb.2.1 hb.2.2.2.2.1 tb.2.2.1 tb.2.2.2.2 e3]
  · exact OP.same h (r := -1) (by rw [c_tone s tb.1, if_neg hb]) (by rw [r_tone s tb.2.1, if_neg hb])
theorem op_feet (a1 a2 : Int) : OP (fX10_feet a1 a2) (fX11_feet a1 a2) := by
  intro n s hn h
  have tb := h.tb
  by_cases hb : (0 ≤ a1 ∧ a1 ≤ 1) ∧ 1 ≤ a2 ∧ a2 ≤ 10000
  · obtain ⟨h1, h2, h3, h4, h5, h6, h7, h8, h9, h10, h11, h12, h13, h14⟩ := id h
    have b1 := h1.2.1 a1.toNat (by omega)
    have b0 : stf (s 3 a1.toNat) (s 4 a1.toNat) (s 5 a1.toNat) a2 = stf (s 102 a1.toNat) (s 103 a1.toNat) (s 104 a1.toNat) a2 := by rw [b1.1, b1.2.1, b1.2.2.1]
    have b2 := stf_b (S := s 3 a1.toNat) (T := s 4 a1.toNat) (F := s 5 a1.toNat) (j := a2) (by omega) (by omega) (by omega) (by omega)
    refine ⟨stf (s 3 a1.toNat) (s 4 a1.toNat) (s 5 a1.toNat) a2, up (up s 5 a1.toNat (s 5 a1.toNat + a2)) 3 a1.toNat (stf (s 3 a1.toNat) (s 4 a1.toNat) (s 5 a1.toNat) a2), up (up (up (up s 5 a1.toNat (s 5 a1.toNat + a2)) 3 a1.toNat (stf (s 3 a1.toNat) (s 4 a1.toNat) (s 5 a1.toNat) a2)) 104 a1.toNat (s 104 a1.toNat + a2)) 102 a1.toNat (stf (s 102 a1.toNat) (s 103 a1.toNat) (s 104 a1.toNat) a2), ?_, ?_, ?_⟩
    · unfold fX10_feet
      simp only [sp_bath, sp_within, bnd_some, tv_0, ne_eq, Decidable.not_not]
      rw [if_neg (by omega), if_pos hb.2, c_pass s hb.1 hb.2 (by omega) (by omega) (by omega), bnd_some, rd_in (by omega) (by omega), up_at]
    · unfold fX11_feet
      simp only [sp_in, bnd_some, tv_0, ne_eq, Decidable.not_not]
      rw [if_neg (by omega), if_pos hb.2, r_go]
      · simp only [ne_eq, not_false_eq_true, up_ne, Nat.reduceEqDiff, bnd_some]
        rw [rd_in (by omega) (by omega), up_at, b0]
      · exact hb.1
      · exact hb.2
      · simp only [ne_eq, not_false_eq_true, up_ne, Nat.reduceEqDiff]; omega
      · simp only [ne_eq, not_false_eq_true, up_ne, Nat.reduceEqDiff]; omega
      · simp only [ne_eq, not_false_eq_true, up_ne, Nat.reduceEqDiff]; omega
    · unfold Rel
      simp only [ne_eq, not_false_eq_true, up_ne, Nat.reduceEqDiff]
      refine ⟨⟨h1.1, fun i hi => ?_, h1.2.2⟩, h2, h3, h4, h5, h6, h7, h8, h9, h10, h11, h12, h13, h14.mono⟩
      have := h1.2.1 i hi
      simp only [up_eq, up_ne, ne_eq, not_false_eq_true, Nat.reduceEqDiff]
      by_cases hi2 : i = a1.toNat
      · simp only [hi2, if_true]
        refine ⟨b0, b1.2.1, by omega, b2.1, b2.2, by omega, by omega, by omega, by omega⟩
      · simp only [hi2, if_false]
        omega
  · refine OP.same h (r := -1) ?_ ?_
    · unfold fX10_feet
      simp only [sp_bath, sp_within, bnd_some, tv_0, ne_eq, Decidable.not_not]
      by_cases q : 0 ≤ a1 ∧ a1 ≤ 1
      · rw [if_neg (by omega), if_neg (by omega)]
      · rw [if_pos q]
    · unfold fX11_feet
      simp only [sp_in, bnd_some, tv_0, ne_eq, Decidable.not_not]
      by_cases q : 0 ≤ a1 ∧ a1 ≤ 1
      · rw [if_neg (by omega), if_neg (by omega)]
      · rw [if_pos q]
