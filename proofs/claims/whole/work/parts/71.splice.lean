/-! SPLICES -/
abbrev SP (re ed fr : Nat → Int) (k : Nat) : Prop := re k = -1 ∨ re k ≠ re (k + 1) ∨ ed k + fr k ≠ ed (k + 1)
def RB (re ed : Nat → Int) : Prop := ∀ k, k < 16 → -1 ≤ re k ∧ re k ≤ 7 ∧ 0 ≤ ed k ∧ ed k ≤ 100000
theorem SP.congr {re ed fr re' ed' fr' : Nat → Int} {n : Int} (hn : n ≤ 16) (h1 : ∀ k, k < 16 → re k = re' k ∧ ed k = ed' k) (h2 : ∀ k : Nat, (k : Int) < n → fr k = fr' k) {k : Nat} (hk : (k : Int) + 1 < n) : SP re ed fr k = SP re' ed' fr' k := by
  unfold SP
  rw [(h1 k (by omega)).1, (h1 k (by omega)).2, (h1 (k + 1) (by omega)).1, (h1 (k + 1) (by omega)).2, h2 k (by omega)]
theorem c_isSpliced {fr : Nat → Int} (s : Mem) (h : LF (s 21 0) (s 22) fr) (hr : RB (s 32) (s 33)) {k : Nat} (hk : (k : Int) + 1 < s 21 0) : fX2_isSpliced 20 k s = some (tv (SP (s 32) (s 33) fr k), s) := by
  have hn := h.2.1
  have r1 := hr k (by omega)
  have r2 := hr (k + 1) (by omega)
  have f1 := h.2.2.2 k (by omega)
  have t1 : ((k : Int) + 1).toNat = k + 1 := by omega
  unfold fX2_isSpliced
  simp only [Nat.reduceAdd]
  rw [wr_ok (x := (k : Int) + 1) (by omega) (by omega), if_pos hk, rd_in (by omega) (by omega), jn_eq]
  simp only [Int.toNat_natCast]
  unfold tv SP
  by_cases z1 : s 32 k = -1
  · rw [if_pos z1, if_pos trivial, zr_1, if_pos (Or.inl z1)]
  · rw [if_neg z1, rd_in (by omega) (by omega), rd_in (by omega) (by omega)]
    simp only [Int.toNat_natCast, t1]
    by_cases z2 : s 32 k ≠ s 32 (k + 1)
    · rw [if_pos z2, if_pos trivial, zr_1, if_pos (Or.inr (Or.inl z2))]
    · rw [if_neg z2, if_neg (by omega), rd_in (by omega) (by omega), c_framesOf s h (by omega), bnd_some, rd_in (by omega) (by omega)]
      simp only [Int.toNat_natCast, t1]
      rw [wr_ok (x := s 33 k + fr k) (by omega) (by omega)]
      by_cases z3 : s 33 k + fr k = s 33 (k + 1)
      · rw [if_pos z3, zr_0, if_neg (by omega)]
      · rw [if_neg z3, zr_1, if_pos (by omega)]
theorem r_isSpliced {n : Int} {st : Nat → Int} (s : Mem) (h : LF n st (fun k => s 108 (16 + k))) (hr : RB (s 119) (s 120)) {k : Nat} (hk : (k : Int) + 1 < n) : fX11_isSpliced k s = some (tv (SP (s 119) (s 120) (fun k => s 108 (16 + k)) k), s) := by
  have hn := h.2.1
  have r1 := hr k (by omega)
  have r2 := hr (k + 1) (by omega)
  have f1 := h.2.2.2 k (by omega)
  dsimp only at f1
  have t1 : ((k : Int) + 1).toNat = k + 1 := by omega
  have t2 : (16 + (k : Int)).toNat = 16 + k := by omega
  unfold fX11_isSpliced
  rw [rd_in (by omega) (by omega)]
  simp only [Int.toNat_natCast]
  unfold tv SP
  by_cases z1 : s 119 k = -1
  · rw [if_pos (by omega), zr_1, if_pos (Or.inl z1)]
  · rw [if_neg (by omega), rd_in (by omega) (by omega), wr_ok (x := (k : Int) + 1) (by omega) (by omega), rd_in (by omega) (by omega)]
    simp only [Int.toNat_natCast, t1]
    by_cases z2 : s 119 k ≠ s 119 (k + 1)
    · rw [if_pos z2, zr_1, if_pos (Or.inr (Or.inl z2))]
    · rw [if_neg z2, rd_in (by omega) (by omega), rd_in (by omega) (by omega), wr_ok (x := 16 + (k : Int)) (by omega) (by omega), rd_in (by omega) (by omega)]
      simp only [Int.toNat_natCast, t1, t2]
      rw [wr_ok (x := s 120 k + s 108 (16 + k)) (by omega) (by omega)]
      by_cases z3 : s 120 (k + 1) = s 120 k + s 108 (16 + k)
      · rw [if_pos z3, zr_0, if_neg (by omega)]
      · rw [if_neg z3, zr_1, if_pos (by omega)]
theorem Rel.rb {n : Nat} {s : Mem} (h : Rel n s) : RB (s 32) (s 33) ∧ RB (s 119) (s 120) ∧ ∀ k, k < 16 → s 32 k = s 119 k ∧ s 33 k = s 120 k := by
  refine ⟨fun k hk => ?_, fun k hk => ?_, fun k hk => ?_⟩
  all_goals have r := h.re hk
  all_goals omega
theorem Rel.sp {n : Nat} {s : Mem} (h : Rel n s) {k : Nat} (hk : (k : Int) + 1 < s 21 0) : SP (s 32) (s 33) (fun k => s 108 (16 + k)) k = SP (s 119) (s 120) (fun k => s 108 (16 + k)) k := SP.congr h.lf.2.1 h.rb.2.2 (fun _ _ => rfl) hk
theorem Rel.ho {n : Nat} {s : Mem} (h : Rel n s) (h0 : 0 < s 21 0) {k : Nat} (hk : k < 15) : s 38 k = s 124 k ∧ 0 ≤ s 38 k ∧ s 38 k ≤ 100 := by
  have := h.jb.2.2.2 h0 k hk
  rw [show 16 * 0 + k = k by omega] at this
  exact this
theorem op_splice (a1 : Int) : OP (fX10_splice a1) (fX11_splice a1) := by
  intro n s hn h
  obtain ⟨l1, l2, l3⟩ := h.lfr
  have l0 := h.lf
  have hn2 := l0.2.1
  have hn0 := l0.1
  by_cases h0 : 0 ≤ a1 ∧ a1 ≤ 14
  · by_cases h1 : a1 + 1 < s 21 0
    · obtain ⟨k, rfl⟩ : ∃ k : Nat, a1 = k := ⟨a1.toNat, by omega⟩
      have ho := h.ho (by omega) (k := k) (by omega)
      refine OP.same h (r := if SP (s 32) (s 33) (fun k => s 108 (16 + k)) k then s 38 k else -4) ?_ ?_
      · unfold fX10_splice
        rw [sp_within, bnd_some]
        simp only [ne_eq, tv_0, Decidable.not_not]
        rw [if_pos h0, wr_ok (x := (k : Int) + 1) (by omega) (by omega), if_pos h1, c_isSpliced s l0 h.rb.1 h1, bnd_some]
        simp only [tv_0]
        by_cases z : SP (s 32) (s 33) (fun k => s 108 (16 + k)) k
        · rw [if_neg (fun w => w z), if_pos z, rd_in (by omega) (by omega), Int.toNat_natCast]
        · rw [if_pos z, if_neg z]
      · unfold fX11_splice
        rw [sp_in, bnd_some]
        simp only [ne_eq, tv_0, Decidable.not_not]
        rw [if_pos h0, if_neg (by unfold RLd at l3; omega), rd_in (by omega) (by omega), show ((1 : Int).toNat) = 1 from rfl, wr_ok (x := s 106 1 - 1) (by omega) (by omega), if_pos (by omega), r_isSpliced s l1 h.rb.2.1 (by omega), bnd_some]
        simp only [tv_0, ← h.sp h1]
        by_cases z : SP (s 32) (s 33) (fun k => s 108 (16 + k)) k
        · rw [if_neg (fun w => w z), if_pos z, rd_in (by omega) (by omega), Int.toNat_natCast, ho.1]
        · rw [if_pos z, if_neg z]
    · refine OP.same h (r := -2) ?_ ?_
      · unfold fX10_splice
        rw [sp_within, bnd_some]
        simp only [ne_eq, tv_0, Decidable.not_not]
        rw [if_pos h0, wr_ok (x := a1 + 1) (by omega) (by omega), if_neg h1]
      · unfold fX11_splice
        rw [sp_in, bnd_some]
        simp only [ne_eq, tv_0, Decidable.not_not]
        rw [if_pos h0]
        by_cases z : s 100 19 = 0
        · rw [if_pos z]
        · rw [if_neg z, rd_in (by omega) (by omega), show ((1 : Int).toNat) = 1 from rfl, wr_ok (x := s 106 1 - 1) (by omega) (by omega), if_neg (by omega)]
  · refine OP.same h (r := -1) ?_ ?_
    · unfold fX10_splice
      rw [sp_within, bnd_some]
      simp only [ne_eq, tv_0, Decidable.not_not]
      rw [if_neg h0]
    · unfold fX11_splice
      rw [sp_in, bnd_some]
      simp only [ne_eq, tv_0, Decidable.not_not]
      rw [if_neg h0]
