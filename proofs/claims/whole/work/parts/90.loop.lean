/-! the law's loop, over the calls; OPS: the calls whose relation is still owed -/
def OPS : Prop := OP fX10_fault fX11_fault ∧ OP fX10_load fX11_load ∧ (∀ a, InR a → OP (fX10_soon a) (fX11_soon a)) ∧ (∀ a, InR a → OP (fX10_list a) (fX11_list a)) ∧ (∀ a b c d, InR a → InR b → InR c → InR d → OP (fX10_grade a b c d) (fX11_grade a b c d)) ∧ (∀ a, InR a → OP (fX10_drift a) (fX11_drift a)) ∧ ∀ a, InR a → OP (fX10_plan a) (fX11_plan a)
set_option maxRecDepth 20000 in
set_option maxHeartbeats 4000000 in
theorem law_loop (O : OPS) (xs : Nat → Int) (L : Nat) (hx : ∀ i, InR (xs i)) (hL : L ≤ 3584) : ∀ (f x n : Nat) (s : Mem), Rel n s → x = 7 * n → x ≤ L → L + 8 ≤ x + 7 * f → ∃ s', LL_law_18 xs L (fun s292 => some (1, s292)) f x s = some (1, s') := by
  obtain ⟨o_fault, o_load, o_soon, o_list, o_grade, o_drift, o_plan⟩ := O
  intro f
  induction f with
  | zero => intro x n s h hn h1 h2; exact absurd h2 (by omega)
  | succ f ih =>
    intro x n s h hn h1 h2
    rw [LL_law_18]
    by_cases hz : (L : Int) - 7 < x
    · refine ⟨s, ?_⟩
      have e : wr ((L : Int) - 7) = (L : Int) - 7 := wr_ok (by omega) (by omega)
      simp only [e]
      rw [if_pos hz]
    · have go : ∀ {fc fr : Mem → Option Res}, OP fc fr → ∃ s', bnd (fc s) (fun r s7 => bnd (fr s7) (fun r2 s13 => if r = r2 then LL_law_18 xs L (fun s292 => some (1, s292)) f (wr ((x : Int) + 7)) s13 else none)) = some (1, s') := by
        intro fc fr hO
        obtain ⟨r, s1, s2, e1, e2, e3⟩ := hO n s (by omega) h
        rw [e1, bnd_some, e2, bnd_some, if_pos rfl, wr_ok (x := (x : Int) + 7) (by omega) (by omega)]
        exact ih (x + 7) (n + 1) s2 e3 (by omega) (by omega) (by omega)
      have e : wr ((L : Int) - 7) = (L : Int) - 7 := wr_ok (by omega) (by omega)
      have R0 : ∀ (k : Int → Option Res), rd xs (x : Int) L k = k (xs x) := fun k => by rw [rd_in (by omega) (by omega), Int.toNat_natCast]
      have R1 : ∀ (k : Int → Option Res), rd xs (wr ((x : Int) + 1)) L k = k (xs (x + 1)) := fun k => by rw [wr_ok (x := (x : Int) + 1) (by omega) (by omega), rd_in (by omega) (by omega), show ((x : Int) + 1).toNat = x + 1 by omega]
      have R2 : ∀ (k : Int → Option Res), rd xs (wr ((x : Int) + 2)) L k = k (xs (x + 2)) := fun k => by rw [wr_ok (x := (x : Int) + 2) (by omega) (by omega), rd_in (by omega) (by omega), show ((x : Int) + 2).toNat = x + 2 by omega]
      have R3 : ∀ (k : Int → Option Res), rd xs (wr ((x : Int) + 3)) L k = k (xs (x + 3)) := fun k => by rw [wr_ok (x := (x : Int) + 3) (by omega) (by omega), rd_in (by omega) (by omega), show ((x : Int) + 3).toNat = x + 3 by omega]
      have R4 : ∀ (k : Int → Option Res), rd xs (wr ((x : Int) + 4)) L k = k (xs (x + 4)) := fun k => by rw [wr_ok (x := (x : Int) + 4) (by omega) (by omega), rd_in (by omega) (by omega), show ((x : Int) + 4).toNat = x + 4 by omega]
      have R5 : ∀ (k : Int → Option Res), rd xs (wr ((x : Int) + 5)) L k = k (xs (x + 5)) := fun k => by rw [wr_ok (x := (x : Int) + 5) (by omega) (by omega), rd_in (by omega) (by omega), show ((x : Int) + 5).toNat = x + 5 by omega]
      have R6 : ∀ (k : Int → Option Res), rd xs (wr ((x : Int) + 6)) L k = k (xs (x + 6)) := fun k => by rw [wr_ok (x := (x : Int) + 6) (by omega) (by omega), rd_in (by omega) (by omega), show ((x : Int) + 6).toNat = x + 6 by omega]
      simp only [e, R0, R1, R2, R3, R4, R5, R6, jn_eq]
      rw [if_neg hz]
      by_cases c0 : ian (xs x) 63 = 0
      · rw [if_pos c0]; exact go (op_table _ _ _ _)
      rw [if_neg c0]
      by_cases c1 : ian (xs x) 63 = 1
      · rw [if_pos c1]; exact go (op_bath _ _ _)
      rw [if_neg c1]
      by_cases c2 : ian (xs x) 63 = 2
      · rw [if_pos c2]; exact go (op_lamp _ _)
      rw [if_neg c2]
      by_cases c3 : ian (xs x) 63 = 3
      · rw [if_pos c3]; exact go (op_rule _ _)
      rw [if_neg c3]
      by_cases c4 : ian (xs x) 63 = 4
      · rw [if_pos c4]; exact go (op_bathTold _ _)
      rw [if_neg c4]
      by_cases c5 : ian (xs x) 63 = 5
      · rw [if_pos c5]; exact go (op_feet _ _)
      rw [if_neg c5]
      by_cases c6 : ian (xs x) 63 = 6
      · rw [if_pos c6]; exact go (op_exposure _ _ _ _)
      rw [if_neg c6]
      by_cases c7 : ian (xs x) 63 = 7
      · rw [if_pos c7]; exact go (op_tone _ _ _ _ _ _)
      rw [if_neg c7]
      by_cases c8 : ian (xs x) 63 = 8
      · rw [if_pos c8]; exact go (op_write _ _)
      rw [if_neg c8]
      by_cases c9 : ian (xs x) 63 = 9
      · rw [if_pos c9]; exact go op_clear
      rw [if_neg c9]
      by_cases c10 : ian (xs x) 63 = 10
      · rw [if_pos c10]; exact go o_fault
      rw [if_neg c10]
      by_cases c11 : ian (xs x) 63 = 11
      · rw [if_pos c11]; exact go o_load
      rw [if_neg c11]
      by_cases c12 : ian (xs x) 63 = 12
      · rw [if_pos c12]; exact go (op_light _ _ (hx _))
      rw [if_neg c12]
      by_cases c13 : ian (xs x) 63 = 13
      · rw [if_pos c13]; exact go (op_shotOf _ (hx _))
      rw [if_neg c13]
      by_cases c14 : ian (xs x) 63 = 14
      · rw [if_pos c14]; exact go (o_soon _ (hx _))
      rw [if_neg c14]
      by_cases c15 : ian (xs x) 63 = 15
      · rw [if_pos c15]; exact go (o_list _ (hx _))
      rw [if_neg c15]
      by_cases c16 : ian (xs x) 63 = 16
      · rw [if_pos c16]; exact go (op_shot _ _ _ _)
      rw [if_neg c16]
      by_cases c17 : ian (xs x) 63 = 17
      · rw [if_pos c17]; exact go (o_grade _ _ _ _ (hx _) (hx _) (hx _) (hx _))
      rw [if_neg c17]
      by_cases c18 : ian (xs x) 63 = 18
      · rw [if_pos c18]; exact go (op_frameTone _ _ _ _ (hx _))
      rw [if_neg c18]
      by_cases c19 : ian (xs x) 63 = 19
      · rw [if_pos c19]; exact go (op_strip _ _ _)
      rw [if_neg c19]
      by_cases c20 : ian (xs x) 63 = 20
      · rw [if_pos c20]; exact go op_noStrips
      rw [if_neg c20]
      by_cases c21 : ian (xs x) 63 = 21
      · rw [if_pos c21]; exact go (o_drift _ (hx _))
      rw [if_neg c21]
      by_cases c22 : ian (xs x) 63 = 22
      · rw [if_pos c22]; exact go (op_reel _ _ _)
      rw [if_neg c22]
      by_cases c23 : ian (xs x) 63 = 23
      · rw [if_pos c23]
        by_cases z : xs (x + 2) = 0
        · simp only [if_pos z]
          exact go (op_lose _ 0 (Or.inl rfl))
        · simp only [if_neg z]
          exact go (op_lose _ 1 (Or.inr rfl))
      rw [if_neg c23]
      by_cases c24 : ian (xs x) 63 = 24
      · rw [if_pos c24]; exact go (op_from _ _ _)
      rw [if_neg c24]
      by_cases c25 : ian (xs x) 63 = 25
      · rw [if_pos c25]; exact go (op_edge _ (hx _))
      rw [if_neg c25]
      by_cases c26 : ian (xs x) 63 = 26
      · rw [if_pos c26]; exact go op_missing
      rw [if_neg c26]
      by_cases c27 : ian (xs x) 63 = 27
      · rw [if_pos c27]; exact go (op_where _ _)
      rw [if_neg c27]
      by_cases c28 : ian (xs x) 63 = 28
      · rw [if_pos c28]; exact go (op_splice _)
      rw [if_neg c28]
      by_cases c29 : ian (xs x) 63 = 29
      · rw [if_pos c29]; exact go (op_run _)
      rw [if_neg c29]
      by_cases c30 : ian (xs x) 63 = 30
      · rw [if_pos c30]; exact go op_mend
      rw [if_neg c30]
      by_cases c31 : ian (xs x) 63 = 31
      · rw [if_pos c31]; exact go (op_order _ _ _ _)
      rw [if_neg c31]
      by_cases c32 : ian (xs x) 63 = 32
      · rw [if_pos c32]; exact go (op_drop _)
      rw [if_neg c32]
      by_cases c33 : ian (xs x) 63 = 33
      · rw [if_pos c33]; exact go (o_plan _ (hx _))
      rw [if_neg c33]
      by_cases c34 : ian (xs x) 63 = 34
      · rw [if_pos c34]; exact go op_keep
      rw [if_neg c34]
      by_cases c35 : ian (xs x) 63 = 35
      · rw [if_pos c35]; exact go op_back
      rw [if_neg c35]
      by_cases c36 : ian (xs x) 63 = 36
      · rw [if_pos c36]; exact go (op_count _)
      rw [if_neg c36]
      rw [wr_ok (x := (x : Int) + 7) (by omega) (by omega)]
      exact ih (x + 7) (n + 1) s h.mono (by omega) (by omega) (by omega)
theorem law_all (O : OPS) (xs : Nat → Int) (L : Nat) (hx : ∀ i, InR (xs i)) (hL : L ≤ 3584) (s : Mem) (h : Rel 0 s) : ∃ s', fL_law xs L s = some (1, s') := by
  obtain ⟨F, hF⟩ : ∃ F, FU = F := ⟨_, rfl⟩
  unfold fL_law
  rw [hF]
  exact law_loop O xs L hx hL F 0 0 s h rfl (by omega) (by have : F = 1000000 := hF.symm; omega)
