/-! the pure part: words on programs -/
theorem wr_ok {x : Int} (h1 : -2147483648 ≤ x) (h2 : x < 2147483648) : wr x = x := wr_id ⟨h1, h2⟩
theorem bnd_some {β : Type} (r : Int) (s : Mem) (k : Int → Mem → Option β) : bnd (some (r, s)) k = k r s := rfl
theorem rd_in {β : Type} {f : Nat → Int} {i : Int} {n : Nat} {k : Int → Option β} (h0 : 0 ≤ i) (h1 : i < n) : rd f i n k = k (f i.toNat) := if_pos ⟨h0, h1⟩
theorem ST_in {β : Type} {sg : Mem} {p : Nat} {i : Int} {n : Nat} {v : Int} {k : Mem → Option β} (h0 : 0 ≤ i) (h1 : i < n) : ST sg p i n v k = k (up sg p i.toNat v) := if_pos ⟨h0, h1⟩
theorem bnd_id (x : Option Res) : bnd x (fun r s => some (r, s)) = x := by cases x <;> rfl
theorem zr_0 (s : Mem) : zr 0 s = some (0, s) := rfl
theorem zr_1 (s : Mem) : zr 1 s = some (1, s) := rfl
theorem lt_eq {α β : Type} (e : α) (k : α → β) : lt e k = k e := rfl
theorem jn_eq {γ β : Type} (kont : γ) (body : γ → β) : jn kont body = body kont := rfl
theorem up_ne (sg : Mem) (p i : Nat) (v : Int) {q : Nat} (h : q ≠ p) : up sg p i v q = sg q := if_neg h
theorem up_eq (sg : Mem) (p i : Nat) (v : Int) : up sg p i v p = fun j => if j = i then v else sg p j := if_pos rfl
/-- a truth as a number -/
def tv (c : Prop) [Decidable c] : Int := if c then 1 else 0
theorem sp_within (a l h : Int) (s : Mem) : fX10_isWithin a l h s = some (tv (l ≤ a ∧ a ≤ h), s) := by
  unfold fX10_isWithin tv
  by_cases h1 : a < l
  · rw [if_pos h1, if_neg (by omega)]; rfl
  · rw [if_neg h1]
    by_cases h2 : h < a
    · rw [if_pos h2, if_neg (by omega)]; rfl
    · rw [if_neg h2, if_pos (by omega)]; rfl
theorem sp_in (a l h : Int) (s : Mem) : fX11_in a l h s = some (tv (l ≤ a ∧ a ≤ h), s) := sp_within a l h s
theorem zr_tv (c : Prop) [Decidable c] (s : Mem) : zr (tv c) s = some (tv c, s) := by
  unfold tv; split <;> rfl
theorem tv_0 (c : Prop) [Decidable c] : (tv c = 0) = ¬ c := by
  unfold tv; by_cases h : c <;> simp [h]
theorem sp_stock (a : Int) (s : Mem) : fX10_isStock a s = some (tv (0 ≤ a ∧ a ≤ 2), s) := by unfold fX10_isStock; rw [sp_within, bnd_some, zr_tv]
theorem sp_colour (a : Int) (s : Mem) : fX10_isColour a s = some (tv (0 ≤ a ∧ a ≤ 2), s) := by unfold fX10_isColour; rw [sp_within, bnd_some, zr_tv]
theorem sp_bath (a : Int) (s : Mem) : fX10_isBath a s = some (tv (0 ≤ a ∧ a ≤ 1), s) := by unfold fX10_isBath; rw [sp_within, bnd_some, zr_tv]
theorem sp_shot (a : Int) (s : Mem) : fX10_isShot a s = some (tv (0 ≤ a ∧ a ≤ 15), s) := by unfold fX10_isShot; rw [sp_within, bnd_some, zr_tv]
theorem sp_reel (a : Int) (s : Mem) : fX10_isReel a s = some (tv (0 ≤ a ∧ a ≤ 7), s) := by unfold fX10_isReel; rw [sp_within, bnd_some, zr_tv]
theorem sp_swap {q n : Nat} {i v : Int} (s : Mem) (h0 : 0 ≤ i) (h1 : i < n) : fX10_swap q n i v s = some (s q i.toNat, up s q i.toNat v) := by
  unfold fX10_swap; rw [rd_in h0 h1, ST_in h0 h1]
theorem sp_tstart {a b : Int} (s : Mem) (ha : 0 ≤ a ∧ a ≤ 2) (hb : 0 ≤ b ∧ b ≤ 2) : fX9_tableStart a b s = some (27 * a + 9 * b, s) := by
  unfold fX9_tableStart
  simp (disch := omega) only [wr_ok]
  congr 2; omega
/-- both programs answer alike, and what relates the two objects is kept -/
def OPK (R : Mem → Prop) (R' : Mem → Prop) (fc fr : Mem → Option Res) : Prop := ∀ s, R s → ∃ r s1 s2, fc s = some (r, s1) ∧ fr s1 = some (r, s2) ∧ R' s2
/-- the tones -/
def RelT (n : Nat) (s : Mem) : Prop := (∀ i, i < 81 → s 2 i = s 101 i ∧ 0 ≤ s 2 i ∧ s 2 i ≤ 255) ∧ (∀ i, i < 2 → s 3 i = s 102 i ∧ s 4 i = s 103 i ∧ s 5 i = s 104 i ∧ 0 ≤ s 3 i ∧ s 3 i ≤ 1000 ∧ 1 ≤ s 4 i ∧ s 4 i ≤ 50 ∧ 0 ≤ s 5 i ∧ s 5 i ≤ 10000 * n) ∧ ∀ i, i < 3 → s 6 i = s 105 i ∧ 0 ≤ s 6 i ∧ s 6 i ≤ 20
theorem c_table {a1 a2 a3 a4 : Int} (s : Mem) : fX10_table a1 a2 a3 a4 s = if (0 ≤ a1 ∧ a1 ≤ 2) ∧ (0 ≤ a2 ∧ a2 ≤ 2) ∧ (0 ≤ a3 ∧ a3 ≤ 8) ∧ (0 ≤ a4 ∧ a4 ≤ 255) then
      (if (0 < a3 ∧ a4 < s 2 (27 * a1 + 9 * a2 + a3 - 1).toNat) ∨ (a3 < 8 ∧ s 2 (27 * a1 + 9 * a2 + a3 + 1).toNat < a4) then some (-2, s) else some (s 2 (27 * a1 + 9 * a2 + a3).toNat, up s 2 (27 * a1 + 9 * a2 + a3).toNat a4)) else some (-1, s) := by
  unfold fX10_table fX9_tell
  simp only [sp_stock, sp_colour, sp_within, bnd_some, tv_0, ne_eq, lt_eq, jn_eq, bnd_id]
  by_cases h1 : 0 ≤ a1 ∧ a1 ≤ 2
  · by_cases h2 : 0 ≤ a2 ∧ a2 ≤ 2
    · by_cases h3 : 0 ≤ a3 ∧ a3 ≤ 8
      · by_cases h4 : 0 ≤ a4 ∧ a4 ≤ 255
        · simp only [h1, h2, h3, h4, not_true_eq_false, if_false, not_false_eq_true, if_true, and_self, sp_tstart, bnd_some]
          have e0 : wr (27 * a1 + 9 * a2 + a3) = 27 * a1 + 9 * a2 + a3 := wr_ok (by omega) (by omega)
          rw [e0, wr_ok (x := 27 * a1 + 9 * a2 + a3 + 1) (by omega) (by omega), wr_ok (x := 27 * a1 + 9 * a2 + a3 - 1) (by omega) (by omega)]
          rw [sp_swap _ (by omega) (by omega)]
          by_cases q1 : a3 ≤ 0
          · rw [if_pos q1]
            by_cases q2 : 8 ≤ a3
            · omega
            · rw [if_neg q2, rd_in (by omega) (by omega)]
              by_cases q3 : a4 ≤ s 2 (27 * a1 + 9 * a2 + a3 + 1).toNat
              · rw [if_pos q3, if_neg (by omega)]
              · rw [if_neg q3, if_pos (by omega)]
          · rw [if_neg q1, rd_in (by omega) (by omega)]
            by_cases q4 : s 2 (27 * a1 + 9 * a2 + a3 - 1).toNat ≤ a4
            · rw [if_pos q4]
              by_cases q2 : 8 ≤ a3
              · rw [if_pos q2, if_neg (by omega)]
              · rw [if_neg q2, rd_in (by omega) (by omega)]
                by_cases q3 : a4 ≤ s 2 (27 * a1 + 9 * a2 + a3 + 1).toNat
                · rw [if_pos q3, if_neg (by omega)]
                · rw [if_neg q3, if_pos (by omega)]
            · rw [if_neg q4, if_pos (by omega)]
        · simp [h1, h2, h3, h4]
      · simp [h1, h2, h3]
    · simp [h1, h2]
  · simp [h1]
theorem r_table {a1 a2 a3 a4 : Int} (s : Mem) : fX11_table a1 a2 a3 a4 s = if (0 ≤ a1 ∧ a1 ≤ 2) ∧ (0 ≤ a2 ∧ a2 ≤ 2) ∧ (0 ≤ a3 ∧ a3 ≤ 8) ∧ (0 ≤ a4 ∧ a4 ≤ 255) then
      (if (0 < a3 ∧ a4 < s 101 (27 * a1 + 9 * a2 + a3 - 1).toNat) ∨ (a3 < 8 ∧ s 101 (27 * a1 + 9 * a2 + a3 + 1).toNat < a4) then some (-2, s) else some (s 101 (27 * a1 + 9 * a2 + a3).toNat, up s 101 (27 * a1 + 9 * a2 + a3).toNat a4)) else some (-1, s) := by
  unfold fX11_table
  simp only [sp_in, bnd_some, tv_0, ne_eq, lt_eq, jn_eq, bnd_id]
  by_cases h1 : 0 ≤ a1 ∧ a1 ≤ 2
  · by_cases h2 : 0 ≤ a2 ∧ a2 ≤ 2
    · by_cases h3 : 0 ≤ a3 ∧ a3 ≤ 8
      · by_cases h4 : 0 ≤ a4 ∧ a4 ≤ 255
        · simp only [h1, h2, h3, h4, not_true_eq_false, if_false, not_false_eq_true, if_true, and_self]
          have e0 : wr (wr (wr (27 * a1) + wr (9 * a2)) + a3) = 27 * a1 + 9 * a2 + a3 := by simp (disch := omega) only [wr_ok]
          rw [e0, wr_ok (x := 27 * a1 + 9 * a2 + a3 + 1) (by omega) (by omega), wr_ok (x := 27 * a1 + 9 * a2 + a3 - 1) (by omega) (by omega)]
          rw [rd_in (i := 27 * a1 + 9 * a2 + a3) (by omega) (by omega), ST_in (by omega) (by omega)]
          by_cases q1 : a3 ≤ 0
          · rw [if_pos q1]
            by_cases q2 : 8 ≤ a3
            · omega
            · rw [if_neg q2, rd_in (by omega) (by omega)]
              by_cases q3 : a4 ≤ s 101 (27 * a1 + 9 * a2 + a3 + 1).toNat
              · rw [if_pos q3, if_neg (by omega)]
              · rw [if_neg q3, if_pos (by omega)]
          · rw [if_neg q1, rd_in (by omega) (by omega)]
            by_cases q4 : s 101 (27 * a1 + 9 * a2 + a3 - 1).toNat ≤ a4
            · rw [if_neg (show ¬ a4 < s 101 (27 * a1 + 9 * a2 + a3 - 1).toNat by omega)]
              by_cases q2 : 8 ≤ a3
              · rw [if_pos q2, if_neg (by omega)]
              · rw [if_neg q2, rd_in (by omega) (by omega)]
                by_cases q3 : a4 ≤ s 101 (27 * a1 + 9 * a2 + a3 + 1).toNat
                · rw [if_pos q3, if_neg (by omega)]
                · rw [if_neg q3, if_pos (by omega)]
            · rw [if_pos (show a4 < s 101 (27 * a1 + 9 * a2 + a3 - 1).toNat by omega), if_pos (by omega)]
        · simp [h1, h2, h3, h4]
      · simp [h1, h2, h3]
    · simp [h1, h2]
  · simp [h1]
