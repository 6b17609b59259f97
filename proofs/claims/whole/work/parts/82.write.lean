/-! write -/
theorem bt1 (z : Int64) : (z &&& 255).toInt = ((z.toBitVec.toNat % 256 : Nat) : Int) := by
  show (z &&& 255).toBitVec.toInt = _
  rw [Int64.toBitVec_and]
  have e : (z.toBitVec &&& (255 : Int64).toBitVec).toNat = z.toBitVec.toNat % 256 := by
    rw [BitVec.toNat_and, show (255 : Int64).toBitVec.toNat = 2 ^ 8 - 1 from rfl, Nat.and_two_pow_sub_one_eq_mod]
  rw [BitVec.toInt_eq_toNat_cond, e, if_pos (by omega)]
theorem bt2 (z : Int64) : z.toInt % 256 = ((z.toBitVec.toNat % 256 : Nat) : Int) := by
  show z.toBitVec.toInt % 256 = _
  rw [BitVec.toInt_eq_toNat_cond]
  split <;> omega
theorem by_t (z : Int64) : 0 ≤ l2i (lan z 255) ∧ l2i (lan z 255) ≤ 255 ∧ ((l2i (lan z 255) ≤ 127 ∧ nby (nby (l2i z)) = l2i (lan z 255)) ∨ (128 ≤ l2i (lan z 255) ∧ nby (nby (l2i z)) = l2i (lan z 255) - 256)) := by
  have y : l2i (lan z 255) = z.toInt % 256 := by
    unfold l2i lan
    rw [Int64.toInt_toInt32, bt1, ← bt2]
    exact wr_ok (x := z.toInt % 256) (by omega) (by omega)
  have x : nby (nby (l2i z)) = Int.bmod z.toInt 256 := by
    unfold nby l2i
    rw [i32_bk, i32_bk, Int8.toInt8_toInt32, Int8.toInt_toInt32, Int32.toInt_toInt8, Int64.toInt_toInt32]
    exact Int.bmod_bmod_of_dvd (by decide)
  rw [x, y]
  unfold Int.bmod
  dsimp only
  split <;> omega
theorem up_slf (s : Mem) (p i : Nat) {v : Int} (h : s p i = v) : up s p i v = s := by
  funext q
  by_cases hq : q = p
  · subst hq
    rw [up_eq]
    funext j
    by_cases hj : j = i
    · rw [if_pos hj, hj, h]
    · rw [if_neg hj]
  · rw [up_ne _ _ _ _ hq]
def wtc (b : Nat → Int) (f : Nat → Int) (l j : Nat) : Nat → Int := fun i => if l ≤ i ∧ i < l + j then b (l + j - 1 - i) else f i
theorem wtc_0 (b f : Nat → Int) (l : Nat) : wtc b f l 0 = f := by
  funext i; unfold wtc; rw [if_neg (by omega)]
theorem wtc_s (b f : Nat → Int) (l j : Nat) : wtc b (fun i => if i = l then b j else f i) (l + 1) j = wtc b f l (j + 1) := by
  funext i; unfold wtc; dsimp only
  by_cases hi : i = l
  · subst hi
    rw [if_neg (by omega), if_pos rfl, if_pos (by omega), show i + (j + 1) - 1 - i = j by omega]
  · by_cases hz : l + 1 ≤ i ∧ i < l + 1 + j
    · rw [if_pos hz, if_pos (by omega), show l + 1 + j - 1 - i = l + (j + 1) - 1 - i by omega]
    · rw [if_neg hz, if_neg hi, if_neg (by omega)]
theorem wm (s : Mem) (p q i x : Nat) (v w w' : Int) (A : Nat → Int) : up (sf (up (up s p i v) q x w) p A) q x w' = up (sf s p A) q x w' := by
  funext r
  by_cases h1 : r = q
  · subst h1
    rw [up_eq, up_eq]
    funext j
    by_cases hj : j = x
    · rw [if_pos hj, if_pos hj]
    · rw [if_neg hj, if_neg hj]
      by_cases h2 : r = p
      · subst h2; rw [sf_eq, sf_eq]
      · rw [sf_ne _ _ _ h2, sf_ne _ _ _ h2, up_nj _ _ _ _ hj, up_ne _ _ _ _ h2]
  · rw [up_ne _ _ _ _ h1, up_ne _ _ _ _ h1]
    by_cases h2 : r = p
    · subst h2; rw [sf_eq, sf_eq]
    · rw [sf_ne _ _ _ h2, sf_ne _ _ _ h2, up_ne _ _ _ _ h1, up_ne _ _ _ _ h2]
theorem c_writeL (c : Int64) (k : Mem → Option Res) : ∀ (j m l : Nat) (s : Mem), s 8 1 = l → l + j ≤ 400 → j ≤ 8 →
    LX8_append_19 c k (m + j + 1) ((j : Int) - 1) s = k (up (sf s 9 (wtc (fun x => nby (nby (l2i (lsr c (wr (8 * (x : Int))))))) (s 9) l j)) 8 1 (l + j : Nat)) := by
  intro j
  induction j with
  | zero =>
    intro m l s hl h4 h8
    show k s = _
    rw [wtc_0, sf_self, up_slf _ _ _ (by omega)]
  | succ j ih =>
    intro m l s hl h4 h8
    show (if ((j + 1 : Nat) : Int) - 1 < 0 then _ else _) = _
    have e : ((j + 1 : Nat) : Int) - 1 = (j : Int) := by omega
    rw [e, if_neg (by omega), hl, ST_in (by omega) (by omega), Int.toNat_natCast, up_ne _ _ _ _ (show (8 : Nat) ≠ 9 by omega), hl, wr_ok (x := (l : Int) + 1) (by omega) (by omega), wr_ok (x := (j : Int) + (-1)) (by omega) (by omega), lt_eq]
    have i2 := ih m (l + 1) (up (up s 9 l (nby (nby (l2i (lsr c (wr (8 * (j : Int)))))))) 8 1 ((l : Int) + 1)) (by rw [up_at]; omega) (by omega) (by omega)
    rw [wm] at i2
    simp only [ne_eq, not_false_eq_true, up_ne, up_eq, Nat.reduceEqDiff] at i2
    rw [wtc_s (fun x => nby (nby (l2i (lsr c (wr (8 * (x : Int))))))) (s 9) l j, show l + 1 + j = l + (j + 1) by omega] at i2
    exact i2
theorem r_writeL (c : Int64) (k : Mem → Option Res) : ∀ (j m l : Nat) (s : Mem), s 100 20 = l → l + j ≤ 400 → j ≤ 8 →
    LX11_write_32 c k (m + j + 1) ((j : Int) - 1) s = k (up (sf s 116 (wtc (fun x => l2i (lan (lsr c (wr (8 * (x : Int)))) 255)) (s 116) l j)) 100 20 (l + j : Nat)) := by
  intro j
  induction j with
  | zero =>
    intro m l s hl h4 h8
    show k s = _
    rw [wtc_0, sf_self, up_slf _ _ _ (by omega)]
  | succ j ih =>
    intro m l s hl h4 h8
    show (if ((j + 1 : Nat) : Int) - 1 < 0 then _ else _) = _
    have e : ((j + 1 : Nat) : Int) - 1 = (j : Int) := by omega
    rw [e, if_neg (by omega), hl, ST_in (by omega) (by omega), Int.toNat_natCast, up_ne _ _ _ _ (show (100 : Nat) ≠ 116 by omega), hl, wr_ok (x := (l : Int) + 1) (by omega) (by omega), wr_ok (x := (j : Int) + (-1)) (by omega) (by omega), lt_eq]
    have i2 := ih m (l + 1) (up (up s 116 l (l2i (lan (lsr c (wr (8 * (j : Int)))) 255))) 100 20 ((l : Int) + 1)) (by rw [up_at]; omega) (by omega) (by omega)
    rw [wm] at i2
    simp only [ne_eq, not_false_eq_true, up_ne, up_eq, Nat.reduceEqDiff] at i2
    rw [wtc_s (fun x => l2i (lan (lsr c (wr (8 * (x : Int)))) 255)) (s 116) l j, show l + 1 + j = l + (j + 1) by omega] at i2
    exact i2
theorem op_write (a1 : Int) (a2 : Int64) : OP (fX10_write a1 a2) (fX11_write a1 a2) := by
  intro n s hn h
  obtain ⟨h1, h2, h3, h4, h5, h6, h7, h8, h9, h10, h11, h12, h13, h14⟩ := h.mono
  obtain ⟨F, hF⟩ : ∃ F, FU = F := ⟨_, rfl⟩
  have e0 := h3.1
  have e1 := h3.2.1
  have e2 := h3.2.2.1
  have e3 := h3.2.2.2
  by_cases hg : 1 ≤ a1 ∧ a1 ≤ 8
  · by_cases hr : s 8 1 + a1 ≤ 400
    · obtain ⟨l, hl⟩ : ∃ l : Nat, s 8 1 = l := ⟨(s 8 1).toNat, by omega⟩
      obtain ⟨j, rfl⟩ : ∃ j : Nat, a1 = j := ⟨a1.toNat, by omega⟩
      have e : F = (F - j - 1) + j + 1 := (by have : F = 1000000 := hF.symm; omega)
      have cK := c_writeL a2 (fun s4 => zr 1 s4) j (F - j - 1) l s hl (by omega) (by omega)
      obtain ⟨A, hA⟩ : ∃ A, A = wtc (fun x => nby (nby (l2i (lsr a2 (wr (8 * (x : Int))))))) (s 9) l j := ⟨_, rfl⟩
      obtain ⟨B, hB⟩ : ∃ B, B = wtc (fun x => l2i (lan (lsr a2 (wr (8 * (x : Int)))) 255)) (s 116) l j := ⟨_, rfl⟩
      rw [← hA] at cK
      have rK := r_writeL a2 (fun s6 => some (s6 100 20, s6)) j (F - j - 1) l (up (sf s 9 A) 8 1 (l + j : Nat)) (by rw [up_ne _ _ _ _ (by omega), sf_ne _ _ _ (by omega)]; omega) (by omega) (by omega)
      rw [up_ne _ _ _ _ (show (116 : Nat) ≠ 8 by omega), sf_ne _ _ _ (show (116 : Nat) ≠ 9 by omega), ← hB] at rK
      refine ⟨(l + j : Nat), up (sf s 9 A) 8 1 (l + j : Nat), up (sf (up (sf s 9 A) 8 1 (l + j : Nat)) 116 B) 100 20 (l + j : Nat), ?_, ?_, ?_⟩
      · unfold fX10_write
        rw [sp_within, bnd_some]
        simp only [ne_eq, tv_0, Decidable.not_not]
        rw [if_pos hg]
        unfold fX8_append
        rw [wr_ok (x := s 8 1 + (j : Int)) (by omega) (by omega), if_pos hr, wr_ok (x := (j : Int) - 1) (by omega) (by omega), lt_eq, hF, e]
        refine (congrArg (fun x => bnd x _) cK).trans ?_
        rw [zr_1, bnd_some, if_neg (by omega), up_at]
      · unfold fX11_write
        rw [sp_in, bnd_some]
        simp only [ne_eq, tv_0, Decidable.not_not]
        rw [if_pos hg, up_ne _ _ _ _ (show (100 : Nat) ≠ 8 by omega), sf_ne _ _ _ (show (100 : Nat) ≠ 9 by omega), ← e0, wr_ok (x := s 8 1 + (j : Int)) (by omega) (by omega), if_pos hr, wr_ok (x := (j : Int) - 1) (by omega) (by omega), lt_eq, hF, e]
        refine rK.trans ?_
        rw [up_at]
      · unfold Rel
        simp only [ne_eq, not_false_eq_true, sf_ne, sf_eq, up_ne, up_nj, up_at, Nat.reduceEqDiff]
        refine ⟨h1, h2, ⟨rfl, by omega, by omega, fun i hi => ?_⟩, h4, h5, h6, h7, h8, h9, h10, h11, h12, h13, h14⟩
        rw [hA, hB]
        unfold wtc
        by_cases z : l ≤ i ∧ i < l + j
        · simp only [if_pos z]
          exact by_t _
        · simp only [if_neg z]
          exact e3 i (by omega)
    · refine OP.same h (r := -3) ?_ ?_
      · unfold fX10_write
        rw [sp_within, bnd_some]
        simp only [ne_eq, tv_0, Decidable.not_not]
        rw [if_pos hg]
        unfold fX8_append
        rw [wr_ok (x := s 8 1 + a1) (by omega) (by omega), if_neg hr, zr_0, bnd_some, if_pos rfl]
      · unfold fX11_write
        rw [sp_in, bnd_some]
        simp only [ne_eq, tv_0, Decidable.not_not]
        rw [if_pos hg, ← e0, wr_ok (x := s 8 1 + a1) (by omega) (by omega), if_neg hr]
  · refine OP.same h (r := -1) ?_ ?_
    · unfold fX10_write
      rw [sp_within, bnd_some]
      simp only [ne_eq, tv_0, Decidable.not_not]
      rw [if_neg hg]
    · unfold fX11_write
      rw [sp_in, bnd_some]
      simp only [ne_eq, tv_0, Decidable.not_not]
      rw [if_neg hg]
