/-! shotOf, edge -/
theorem Rel.ffd {n : Nat} {s : Mem} (h : Rel n s) (i q : Int) : Rel n (fdm s i q) := by
  have hj : ∀ j : Nat, j ≠ 35 → j ≠ 36 → fdm s i q 100 j = s 100 j := fun j h1 h2 => by
    show up (up s 100 36 i) 100 35 q 100 j = _
    rw [up_nj _ _ _ _ h1, up_nj _ _ _ _ h2]
  have hp : ∀ p : Nat, p ≠ 100 → fdm s i q p = s p := fun p h1 => by
    show up (up s 100 36 i) 100 35 q p = _
    rw [up_ne _ _ _ _ h1, up_ne _ _ _ _ h1]
  unfold Rel
  rw [hj 5 (by omega) (by omega), hj 6 (by omega) (by omega), hj 7 (by omega) (by omega), hj 8 (by omega) (by omega), hj 19 (by omega) (by omega), hj 20 (by omega) (by omega), hj 31 (by omega) (by omega), hj 32 (by omega) (by omega), hj 38 (by omega) (by omega), hj 42 (by omega) (by omega)]
  simp only [hp, ne_eq, not_false_eq_true, Nat.reduceEqDiff]
  exact h
theorem Rel.lfr {n : Nat} {s : Mem} (h : Rel n s) : LF (s 106 1) (s 22) (fun k => s 108 (16 + k)) ∧ s 21 0 = s 106 1 ∧ RLd (s 100 19) (s 106 1) := by
  have h1 := h.lf
  obtain ⟨-, -, -, -, h5, -, -, -, -, -, -, -, h13, -⟩ := h
  have e : s 21 0 = s 106 1 := h5.1.1
  rw [e] at h1
  exact ⟨h1, e, h13⟩
theorem op_shotOf (a1 : Int) (ha : InR a1) : OP (fX10_shotOf a1) (fX11_shotOf a1) := by
  intro n s hn h
  obtain ⟨l1, l2, l3⟩ := h.lfr
  have l0 := h.lf
  unfold InR at ha
  by_cases h0 : 0 ≤ a1
  · by_cases hf : 0 < s 21 0 ∧ a1 < s 22 (s 21 0).toNat
    · obtain ⟨q, q1, q2, q3, q4⟩ := c_shotAt s l0 hf.1 h0 hf.2
      obtain ⟨q', p1, p2, p3, p4⟩ := (r_find (f := a1) s l1 l3 (by omega)).1 (by rw [← l2]; exact hf.2)
      have hqq : q = q' := l1.one (by omega) p1 q2 q3 p2 p3
      subst hqq
      refine ⟨q, s, fdm s (a1 - s 22 q) q, ?_, ?_, (h.ffd _ _).mono⟩
      · unfold fX10_shotOf
        rw [if_pos h0, c_hasFrame s l0 h0, bnd_some]
        simp only [tv_0]
        rw [if_neg (fun z => z hf), q4]; rfl
      · unfold fX11_shotOf
        rw [if_pos h0, p4, bnd_some, if_neg (by omega)]
        show some (up _ 100 35 (q : Int) 100 35, _) = _
        rw [up_at]
    · have hf2 : s 22 (s 106 1).toNat ≤ a1 := by
        rw [← l2]
        rcases l3 with ⟨_, z⟩ | ⟨_, z⟩
        · rw [l2, z, show ((0 : Int).toNat) = 0 from rfl, l1.2.2.1]; exact h0
        · omega
      have p := (r_find (f := a1) s l1 l3 (by omega)).2 hf2
      refine ⟨-2, s, _, ?_, ?_, (h.ffd (a1 - s 22 (s 106 1).toNat) (s 106 1)).mono⟩
      · unfold fX10_shotOf
        rw [if_pos h0, c_hasFrame s l0 h0, bnd_some]
        simp only [tv_0]
        rw [if_pos hf]
      · unfold fX11_shotOf
        rw [if_pos h0, p, bnd_some, if_pos rfl]
  · refine OP.same h (r := -1) ?_ ?_
    · unfold fX10_shotOf; rw [if_neg h0]
    · unfold fX11_shotOf; rw [if_neg h0]
