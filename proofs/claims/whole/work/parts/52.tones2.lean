/-! tones: printed, tone, bathTold, exposure, feet -/
theorem tdiv8m {d m : Int} (hd : -255 ≤ d ∧ d ≤ 255) (hm : 0 ≤ m ∧ m ≤ 7) : (0 ≤ d → 0 ≤ Int.tdiv (d * m) 8 ∧ Int.tdiv (d * m) 8 ≤ d) ∧ (d ≤ 0 → d ≤ Int.tdiv (d * m) 8 ∧ Int.tdiv (d * m) 8 ≤ 0) := by
  have h : m = 0 ∨ m = 1 ∨ m = 2 ∨ m = 3 ∨ m = 4 ∨ m = 5 ∨ m = 6 ∨ m = 7 := by omega
  refine ⟨fun h0 => ?_, fun h0 => ?_⟩
  · have g : 0 ≤ d * m := Int.mul_nonneg h0 hm.1
    rw [Int.tdiv_eq_ediv_of_nonneg g]
    rcases h with rfl | rfl | rfl | rfl | rfl | rfl | rfl | rfl <;> omega
  · have g : 0 ≤ (-d) * m := Int.mul_nonneg (by omega) hm.1
    have e : Int.tdiv (d * m) 8 = -((-d * m) / 8) := by
      rw [← Int.tdiv_eq_ediv_of_nonneg g, Int.neg_mul, Int.neg_tdiv, Int.neg_neg]
    rw [e]
    rcases h with rfl | rfl | rfl | rfl | rfl | rfl | rfl | rfl <;> omega
theorem tonev_in {f : Nat → Int} {t0 e : Int} (ht : 0 ≤ t0 ∧ t0 ≤ 72) (hT : ∀ i, i < 81 → 0 ≤ f i ∧ f i ≤ 255) : 0 ≤ tonev f t0 e ∧ tonev f t0 e ≤ 255 := by
  unfold tonev
  split
  · exact hT t0.toNat (by omega)
  · split
    · exact hT (t0 + 8).toNat (by omega)
    · have g1 := hT (t0 + e / 8).toNat (by omega)
      have g2 := hT (t0 + e / 8 + 1).toNat (by omega)
      have g3 := tdiv8m (d := f (t0 + e / 8 + 1).toNat - f (t0 + e / 8).toNat) (m := e % 8) (by omega) (by omega)
      rcases Int.le_total 0 (f (t0 + e / 8 + 1).toNat - f (t0 + e / 8).toNat) with h | h
      · have := g3.1 h; omega
      · have := g3.2 h; omega
/-- the TONE of a print: tables f, lamps g, strength h -/
def prt (f g h : Nat → Int) (a c p d b : Int) : Int := tonev f (27 * a + 9 * c) (p + 20 - d - g c.toNat + (h b.toNat - 800) / 40)
theorem prt_in {f g h : Nat → Int} {a c p d b : Int} (ha : 0 ≤ a ∧ a ≤ 2) (hc : 0 ≤ c ∧ c ≤ 2) (hT : ∀ i, i < 81 → 0 ≤ f i ∧ f i ≤ 255) : 0 ≤ prt f g h a c p d b ∧ prt f g h a c p d b ≤ 255 := tonev_in (by omega) hT
/-- what the tones need: tables, lamps, strength in their bounds -/
def TB (f g h : Nat → Int) : Prop := (∀ i, i < 81 → 0 ≤ f i ∧ f i ≤ 255) ∧ (∀ i, i < 3 → 0 ≤ g i ∧ g i ≤ 20) ∧ ∀ i, i < 2 → 0 ≤ h i ∧ h i ≤ 1000
theorem c_printed {a c p d b : Int} (s : Mem) (ha : 0 ≤ a ∧ a ≤ 2) (hc : 0 ≤ c ∧ c ≤ 2) (hp : 1 ≤ p ∧ p ≤ 50) (hd : 0 ≤ d ∧ d ≤ 60) (hb : 0 ≤ b ∧ b ≤ 1) (hT : TB (s 2) (s 6) (s 3)) : fX9_printed a c p d b s = some (prt (s 2) (s 6) (s 3) a c p d b, s) := by
  unfold fX9_printed
  have g1 := hT.2.1 c.toNat (by omega)
  have g2 := hT.2.2 b.toNat (by omega)
  rw [sp_tstart s ha hc, bnd_some, c_expo s hc hp hd hb g1 g2, bnd_some, bnd_id, c_toneAt s (by omega) (by omega) hT.1]
  rfl
theorem r_printed {a c p d b : Int} (s : Mem) (ha : 0 ≤ a ∧ a ≤ 2) (hc : 0 ≤ c ∧ c ≤ 2) (hp : 1 ≤ p ∧ p ≤ 50) (hd : 0 ≤ d ∧ d ≤ 60) (hb : 0 ≤ b ∧ b ≤ 1) (hT : TB (s 101) (s 105) (s 102)) : fX11_printed a c p d b s = some (prt (s 101) (s 105) (s 102) a c p d b, s) := by
  unfold fX11_printed
  have g1 := hT.2.1 c.toNat (by omega)
  have g2 := hT.2.2 b.toNat (by omega)
  rw [r_expo s hc hp hd hb g1 g2, bnd_some, bnd_id, r_toneAt s ha hc (by omega) hT.1]
  rfl
theorem sp_isPrint (p d : Int) (s : Mem) : fX10_isPrint p d s = some (tv ((1 ≤ p ∧ p ≤ 50) ∧ 0 ≤ d ∧ d ≤ 60), s) := by
  unfold fX10_isPrint
  simp only [sp_within, bnd_some, tv_0, zr_0, zr_1]
  unfold tv
  repeat' split
  all_goals first | rfl | (exfalso; omega)
theorem sp_isPrintM (c p d b : Int) (s : Mem) : fX11_isPrint c p d b s = some (tv ((0 ≤ c ∧ c ≤ 2) ∧ (1 ≤ p ∧ p ≤ 50) ∧ (0 ≤ d ∧ d ≤ 60) ∧ 0 ≤ b ∧ b ≤ 1), s) := by
  unfold fX11_isPrint
  simp only [sp_in, bnd_some, tv_0, zr_0, zr_1]
  unfold tv
  repeat' split
  all_goals first | rfl | (exfalso; omega)
theorem c_exposure {c p d b : Int} (s : Mem) (hT : TB (s 2) (s 6) (s 3)) : fX10_exposure c p d b s = if (0 ≤ c ∧ c ≤ 2) ∧ (1 ≤ p ∧ p ≤ 50) ∧ (0 ≤ d ∧ d ≤ 60) ∧ 0 ≤ b ∧ b ≤ 1 then some (p + 20 - d - s 6 c.toNat + (s 3 b.toNat - 800) / 40, s) else some (-1000, s) := by
  unfold fX10_exposure
  simp only [sp_colour, sp_isPrint, sp_bath, bnd_some, tv_0, ne_eq, bnd_id, Decidable.not_not]
  by_cases h : (0 ≤ c ∧ c ≤ 2) ∧ (1 ≤ p ∧ p ≤ 50) ∧ (0 ≤ d ∧ d ≤ 60) ∧ 0 ≤ b ∧ b ≤ 1
  · rw [if_pos h, if_neg (by omega), if_neg (by omega), if_pos (by omega), c_expo s h.1 h.2.1 h.2.2.1 h.2.2.2 (hT.2.1 _ (by omega)) (hT.2.2 _ (by omega))]
  · rw [if_neg h]
    repeat' split
    all_goals first | rfl | (exfalso; omega)
theorem r_exposure {c p d b : Int} (s : Mem) (hT : TB (s 101) (s 105) (s 102)) : fX11_exposure c p d b s = if (0 ≤ c ∧ c ≤ 2) ∧ (1 ≤ p ∧ p ≤ 50) ∧ (0 ≤ d ∧ d ≤ 60) ∧ 0 ≤ b ∧ b ≤ 1 then some (p + 20 - d - s 105 c.toNat + (s 102 b.toNat - 800) / 40, s) else some (-1000, s) := by
  unfold fX11_exposure
  simp only [sp_isPrintM, bnd_some, tv_0, ne_eq, bnd_id, Decidable.not_not]
  by_cases h : (0 ≤ c ∧ c ≤ 2) ∧ (1 ≤ p ∧ p ≤ 50) ∧ (0 ≤ d ∧ d ≤ 60) ∧ 0 ≤ b ∧ b ≤ 1
  · rw [if_pos h, if_neg (by simp only [h]; simp), r_expo s h.1 h.2.1 h.2.2.1 h.2.2.2 (hT.2.1 _ (by omega)) (hT.2.2 _ (by omega))]
  · rw [if_neg h, if_pos h]
/-- j copies more of a TONE v -/
def cop (f g h : Nat → Int) (a c p b : Int) : Nat → Int → Int
  | 0, v => v
  | j + 1, v => cop f g h a c p b j (prt f g h a c p (60 - v / 5) b)
theorem c_toneL {a c p b g : Int} (s : Mem) (k : Int → Mem → Option Res) (ha : 0 ≤ a ∧ a ≤ 2) (hc : 0 ≤ c ∧ c ≤ 2) (hp : 1 ≤ p ∧ p ≤ 50) (hb : 0 ≤ b ∧ b ≤ 1) (hT : TB (s 2) (s 6) (s 3)) : ∀ (j n : Nat) (v i : Int), 0 ≤ v ∧ v ≤ 255 → i + j = g + 1 → 2 ≤ i → g ≤ 5 → LX10_tone_64 a c p b g k (n + j + 1) v i s = k (cop (s 2) (s 6) (s 3) a c p b j v) s := by
  intro j
  induction j with
  | zero =>
    intro n v i hv hi h2 h5
    show (if g < i then _ else _) = _
    rw [if_pos (by omega)]; rfl
  | succ j ih =>
    intro n v i hv hi h2 h5
    show (if g < i then _ else _) = _
    rw [if_neg (by omega)]
    have e : fX9_densityOf v s = some (60 - v / 5, s) := by
      unfold fX9_densityOf mn
      rw [Int.tdiv_eq_ediv_of_nonneg hv.1, if_pos (by omega), wr_ok (by omega) (by omega)]
    rw [e, bnd_some, c_printed s ha hc hp (by omega) hb hT, bnd_some]
    rw [wr_ok (x := i + 1) (by omega) (by omega)]
    exact ih n _ (i + 1) (prt_in ha hc hT.1) (by omega) (by omega) h5
theorem r_toneL {a c p b g : Int} (s : Mem) (k : Int → Mem → Option Res) (ha : 0 ≤ a ∧ a ≤ 2) (hc : 0 ≤ c ∧ c ≤ 2) (hp : 1 ≤ p ∧ p ≤ 50) (hb : 0 ≤ b ∧ b ≤ 1) (hT : TB (s 101) (s 105) (s 102)) : ∀ (j n : Nat) (v i : Int), 0 ≤ v ∧ v ≤ 255 → i + j = g → 1 ≤ i → g ≤ 5 → LX11_tone_49 a c p b g k (n + j + 1) v i s = k (cop (s 101) (s 105) (s 102) a c p b j v) s := by
  intro j
  induction j with
  | zero =>
    intro n v i hv hi h2 h5
    show (if g ≤ i then _ else _) = _
    rw [if_pos (by omega)]; rfl
  | succ j ih =>
    intro n v i hv hi h2 h5
    show (if g ≤ i then _ else _) = _
    rw [if_neg (by omega)]
    rw [Int.tdiv_eq_ediv_of_nonneg hv.1, wr_ok (x := 60 - v / 5) (by omega) (by omega), r_printed s ha hc hp (by omega) hb hT, bnd_some]
    rw [wr_ok (x := i + 1) (by omega) (by omega)]
    exact ih n _ (i + 1) (prt_in ha hc hT.1) (by omega) (by omega) h5
theorem c_tone {a c p d b g : Int} (s : Mem) (hT : TB (s 2) (s 6) (s 3)) : fX10_tone a c p d b g s = if (0 ≤ a ∧ a ≤ 2) ∧ (0 ≤ c ∧ c ≤ 2) ∧ (1 ≤ p ∧ p ≤ 50) ∧ (0 ≤ d ∧ d ≤ 60) ∧ (0 ≤ b ∧ b ≤ 1) ∧ 1 ≤ g ∧ g ≤ 5 then some (cop (s 2) (s 6) (s 3) a c p b (g - 1).toNat (prt (s 2) (s 6) (s 3) a c p d b), s) else some (-1, s) := by
  unfold fX10_tone
  simp only [sp_stock, sp_colour, sp_isPrint, sp_bath, sp_within, bnd_some, tv_0, ne_eq, Decidable.not_not]
  by_cases h : (0 ≤ a ∧ a ≤ 2) ∧ (0 ≤ c ∧ c ≤ 2) ∧ (1 ≤ p ∧ p ≤ 50) ∧ (0 ≤ d ∧ d ≤ 60) ∧ (0 ≤ b ∧ b ≤ 1) ∧ 1 ≤ g ∧ g ≤ 5
  · rw [if_pos h]
    obtain ⟨ha, hc, hp, hd, hb, hg⟩ := h
    rw [if_neg (by omega), if_neg (by omega), if_neg (by omega), if_pos hb, if_pos hg, c_printed s ha hc hp hd hb hT, bnd_some]
    have e : FU = (FU - (g - 1).toNat - 1) + (g - 1).toNat + 1 := by unfold FU; omega
    rw [e, c_toneL s _ ha hc hp hb hT _ _ _ _ (prt_in ha hc hT.1) (by omega) (by omega) hg.2]
  · rw [if_neg h]
    repeat' split
    all_goals first | rfl | (exfalso; omega)
theorem r_tone {a c p d b g : Int} (s : Mem) (hT : TB (s 101) (s 105) (s 102)) : fX11_tone a c p d b g s = if (0 ≤ a ∧ a ≤ 2) ∧ (0 ≤ c ∧ c ≤ 2) ∧ (1 ≤ p ∧ p ≤ 50) ∧ (0 ≤ d ∧ d ≤ 60) ∧ (0 ≤ b ∧ b ≤ 1) ∧ 1 ≤ g ∧ g ≤ 5 then some (cop (s 101) (s 105) (s 102) a c p b (g - 1).toNat (prt (s 101) (s 105) (s 102) a c p d b), s) else some (-1, s) := by
  unfold fX11_tone
  simp only [sp_in, sp_isPrintM, bnd_some, tv_0, ne_eq, Decidable.not_not]
  by_cases h : (0 ≤ a ∧ a ≤ 2) ∧ (0 ≤ c ∧ c ≤ 2) ∧ (1 ≤ p ∧ p ≤ 50) ∧ (0 ≤ d ∧ d ≤ 60) ∧ (0 ≤ b ∧ b ≤ 1) ∧ 1 ≤ g ∧ g ≤ 5
  · rw [if_pos h]
    obtain ⟨ha, hc, hp, hd, hb, hg⟩ := h
    rw [if_neg (by omega), if_neg (by omega), if_pos hg, r_printed s ha hc hp hd hb hT, bnd_some]
    have e : FU = (FU - (g - 1).toNat - 1) + (g - 1).toNat + 1 := by unfold FU; omega
    rw [e, r_toneL s _ ha hc hp hb hT _ _ _ _ (prt_in ha hc hT.1) (by omega) (by omega) hg.2]
  · rw [if_neg h]
    repeat' split
    all_goals first | rfl | (exfalso; omega)
