/-! edge, frameTone -/
theorem Rel.jb {n : Nat} {s : Mem} (h : Rel n s) : RJb 0 (s 21 0) (s 30) (s 31) (s 32) (s 33) (s 35) (s 36) (s 37) (s 38) (s 117) (s 118) (s 119) (s 120) (s 121) (s 122) (s 123) (s 124) := by
  obtain ⟨-, -, -, -, -, -, -, h8, -⟩ := h
  exact h8
theorem Rel.re {n : Nat} {s : Mem} (h : Rel n s) {k : Nat} (hk : k < 16) : s 32 k = s 119 k ∧ -1 ≤ s 32 k ∧ s 32 k ≤ 7 ∧ s 33 k = s 120 k ∧ 0 ≤ s 33 k ∧ s 33 k ≤ 100000 := by
  have := h.jb.2.1 k hk
  rw [show 16 * 0 + k = k by omega] at this
  exact this
theorem Rel.de {n : Nat} {s : Mem} (h : Rel n s) {k : Nat} (hk : k < 48) : s 30 k = s 117 k ∧ 0 ≤ s 30 k ∧ s 30 k ≤ 60 ∧ s 31 k = s 118 k ∧ -1 ≤ s 31 k ∧ s 31 k ≤ 255 := by
  have := h.jb.1 k hk
  rw [show 48 * 0 + k = k by omega] at this
  exact this
theorem op_edge (a1 : Int) (ha : InR a1) : OP (fX10_edge a1) (fX11_edge a1) := by
  intro n s hn h
  unfold InR at ha
  have l0 := h.lf
  by_cases h0 : 0 ≤ a1
  · rcases h.find (a := a1) (by omega) with ⟨q, q1, q2, q3, q4, q5, q6⟩ | ⟨p1, i, q, p2⟩
    · have hn2 := l0.2.1
      have b1 := l0.bd q (by omega)
      have b2 := l0.bd (q + 1) (by omega)
      have r := h.re (k := q) (by omega)
      have cE : fX10_edge a1 s = some (if s 32 q ≠ -1 then s 33 q + a1 - s 22 q else -4, s) := by
        unfold fX10_edge
        rw [if_pos h0, q4, bnd_some, if_neg (by omega)]
        unfold fX2_edgeAt
        rw [q5, bnd_some, rd_in (by omega) (by omega)]
        simp only [Nat.reduceAdd, Int.toNat_natCast]
        by_cases z : s 32 q ≠ -1
        · rw [if_pos z, if_pos z, rd_in (by omega) (by omega), rd_in (by omega) (by omega)]
          simp only [Int.toNat_natCast]
          rw [wr_ok (x := s 33 q + a1) (by omega) (by omega), wr_ok (by omega) (by omega)]; rfl
        · rw [if_neg z, if_neg z]; rfl
      have rE : fX11_edge a1 s = some (if s 32 q ≠ -1 then s 33 q + a1 - s 22 q else -4, fdm s (a1 - s 22 q) q) := by
        unfold fX11_edge
        rw [if_pos h0, q6, bnd_some, if_pos (by omega), fdm_35, fdm_36, fdm_ne _ _ _ (by omega), fdm_ne _ _ _ (by omega), rd_in (by omega) (by omega)]
        simp only [Int.toNat_natCast]
        by_cases z : s 32 q ≠ -1
        · rw [if_pos z, if_pos (by omega), rd_in (by omega) (by omega)]
          simp only [Int.toNat_natCast]
          rw [wr_ok (by omega) (by omega)]
          congr 2; omega
        · rw [if_neg z, if_neg (by omega)]
      exact ⟨_, _, _, cE, rE, (h.ffd _ _).mono⟩
    · refine ⟨-2, s, _, ?_, ?_, (h.ffd i q).mono⟩
      · unfold fX10_edge; rw [if_pos h0, p1, bnd_some, if_pos rfl]
      · unfold fX11_edge; rw [if_pos h0, p2, bnd_some, if_neg (by omega)]
  · exact OP.same h (r := -1) (by unfold fX10_edge; rw [if_neg h0]) (by unfold fX11_edge; rw [if_neg h0])
theorem op_frameTone (a1 a2 a3 a4 : Int) (ha : InR a4) : OP (fX10_frameTone a1 a2 a3 a4) (fX11_frameTone a1 a2 a3 a4) := by
  intro n s hn h
  unfold InR at ha
  have l0 := h.lf
  by_cases hg : (0 ≤ a1 ∧ a1 ≤ 2) ∧ (0 ≤ a2 ∧ a2 ≤ 1) ∧ (0 ≤ a3 ∧ a3 ≤ 2) ∧ 0 ≤ a4
  · obtain ⟨g1, g2, g3, g4⟩ := hg
    obtain ⟨c, rfl⟩ : ∃ c : Nat, a3 = c := ⟨a3.toNat, by omega⟩
    have cF : fX10_frameTone a1 a2 c a4 s = bnd (fX6_hasFrame 21 a4 s) (fun r7 s8 => if r7 ≠ 0 then bnd (fX6_shotAt 21 a4 s8) (fun r9 s10 => rd (s10 30) (wr ((wr (r9 * 3)) + c)) 48 (fun v11 => bnd (fX6_lightAt 21 a4 c s10) (fun r12 s13 => bnd (fX9_printed a1 c r12 v11 a2 s13) (fun r14 s15 => some (r14, s15))))) else some ((-2), s8)) := by
      unfold fX10_frameTone
      rw [sp_stock, bnd_some]
      simp only [tv_0]
      rw [if_neg (fun z => z g1), sp_bath, bnd_some]
      simp only [tv_0]
      rw [if_neg (fun z => z g2), sp_colour, bnd_some]
      simp only [tv_0]
      rw [if_neg (fun z => z g3), if_pos g4]
    have rF : fX11_frameTone a1 a2 c a4 s = bnd (fX11_find a4 s) (fun r7 s8 => if r7 = 0 then some ((-2), s8) else bnd (fX11_lightHere c s8) (fun r9 s10 => rd (s10 117) (wr ((wr (3 * (s10 100 35))) + c)) 144 (fun v11 => bnd (fX11_printed a1 c r9 v11 a2 s10) (fun r12 s13 => some (r12, s13))))) := by
      unfold fX11_frameTone
      rw [sp_in, bnd_some]
      simp only [tv_0]
      rw [if_neg (fun z => z g1), sp_in, bnd_some]
      simp only [tv_0]
      rw [if_neg (fun z => z g2), sp_in, bnd_some]
      simp only [tv_0]
      rw [if_neg (fun z => z g3), if_pos g4]
    rcases h.find (a := a4) (by omega) with ⟨q, q1, q2, q3, q4, q5, q6⟩ | ⟨p1, i, q, p2⟩
    · obtain ⟨v, v1, v2, v3, v4⟩ := h.lights (c := c) q1 (by omega) q2 q3 q5
      have hn2 := l0.2.1
      have d := h.de (k := 3 * q + c) (by omega)
      have tb := h.tb
      have tq : ((q : Int) * 3 + (c : Int)).toNat = 3 * q + c := by omega
      have tq2 : (3 * (q : Int) + (c : Int)).toNat = 3 * q + c := by omega
      refine ⟨prt (s 2) (s 6) (s 3) a1 c v (s 30 (3 * q + c)) a2, s, fdm s (a4 - s 22 q) q, ?_, ?_, (h.ffd _ _).mono⟩
      · rw [cF, q4, bnd_some, if_pos (by omega), q5, bnd_some, wr_ok (x := (q : Int) * 3) (by omega) (by omega), wr_ok (by omega) (by omega), rd_in (by omega) (by omega), tq, v3, bnd_some, c_printed s g1 g3 ⟨v1, v2⟩ (by omega) g2 tb.1]; rfl
      · rw [rF, q6, bnd_some, if_neg (by omega), v4, bnd_some, fdm_35, wr_ok (x := 3 * (q : Int)) (by omega) (by omega), wr_ok (by omega) (by omega), rd_in (by omega) (by omega), tq2, fdm_ne _ _ _ (show (117 : Nat) ≠ 100 by omega), ← d.1]
        rw [r_printed (fdm s (a4 - s 22 q) q) g1 g3 ⟨v1, v2⟩ (by omega) g2 (by simp only [fdm_ne, ne_eq, not_false_eq_true, Nat.reduceEqDiff]; exact tb.2.1)]
        simp only [fdm_ne, ne_eq, not_false_eq_true, Nat.reduceEqDiff, bnd_some]
        rw [prt_eq g1 g3 g2 tb.2.2.1 tb.2.2.2.2 (fun i hi => (tb.2.2.2.1 i hi).1)]
    · refine ⟨-2, s, _, ?_, ?_, (h.ffd i q).mono⟩
      · rw [cF, p1, bnd_some, if_neg (fun z => z rfl)]
      · rw [rF, p2, bnd_some, if_pos rfl]
  · refine OP.same h (r := -1) ?_ ?_
    · unfold fX10_frameTone
      simp only [sp_stock, sp_bath, sp_colour, bnd_some, tv_0]
      repeat' split
      all_goals first | rfl | (exfalso; omega) | (exfalso; simp_all; done) | (exfalso; simp_all; omega)
    · unfold fX11_frameTone
      simp only [sp_in, bnd_some, tv_0]
      repeat' split
      all_goals first | rfl | (exfalso; omega) | (exfalso; simp_all; done) | (exfalso; simp_all; omega)
