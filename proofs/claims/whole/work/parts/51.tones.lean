/-! tones: closed forms on both sides -/
theorem c_bath {a1 a2 a3 : Int} (s : Mem) : fX10_bath a1 a2 a3 s = if 0 ≤ a1 ∧ a1 ≤ 1 then (if a2 = 0 ∧ 0 ≤ a3 ∧ a3 ≤ 1000 then some (s 3 a1.toNat, up s 3 a1.toNat a3) else if a2 = 1 ∧ 1 ≤ a3 ∧ a3 ≤ 50 then some (s 4 a1.toNat, up s 4 a1.toNat a3) else some (-1, s)) else some (-1, s) := by
  unfold fX10_bath
  simp only [sp_bath, sp_within, bnd_some, tv_0, ne_eq, lt_eq, jn_eq, bnd_id, Decidable.not_not]
  by_cases h1 : 0 ≤ a1 ∧ a1 ≤ 1
  · rw [if_pos h1, if_pos h1, sp_swap _ (by omega) (by omega), sp_swap _ (by omega) (by omega)]
    repeat' split
    all_goals first | rfl | (exfalso; omega)
  · rw [if_neg h1, if_neg h1]
theorem r_bath {a1 a2 a3 : Int} (s : Mem) : fX11_bath a1 a2 a3 s = if 0 ≤ a1 ∧ a1 ≤ 1 then (if a2 = 0 ∧ 0 ≤ a3 ∧ a3 ≤ 1000 then some (s 102 a1.toNat, up s 102 a1.toNat a3) else if a2 = 1 ∧ 1 ≤ a3 ∧ a3 ≤ 50 then some (s 103 a1.toNat, up s 103 a1.toNat a3) else some (-1, s)) else some (-1, s) := by
  unfold fX11_bath
  simp only [sp_in, bnd_some, tv_0, ne_eq, lt_eq, jn_eq, bnd_id, Decidable.not_not]
  by_cases h1 : 0 ≤ a1 ∧ a1 ≤ 1
  · rw [if_neg (by omega), if_pos h1]
    by_cases h2 : a2 = 0
    · subst h2
      by_cases h3 : 0 ≤ a3 ∧ a3 ≤ 1000
      · simp only [h3, rd_in (β := Res) (i := a1) (n := 2) (by omega) (by omega), ST_in (β := Res) (i := a1) (n := 2) (by omega) (by omega)]; simp
      · rw [if_neg (by omega), if_neg (by omega), if_neg (by omega), if_neg (by omega), if_neg (by omega)]
    · by_cases h3 : a2 = 1
      · subst h3
        by_cases h4 : 1 ≤ a3 ∧ a3 ≤ 50
        · simp only [h4, rd_in (β := Res) (i := a1) (n := 2) (by omega) (by omega), ST_in (β := Res) (i := a1) (n := 2) (by omega) (by omega)]; simp
        · rw [if_neg (by omega), if_pos (by omega), if_neg (by omega), if_neg (by omega), if_neg (by omega)]
      · rw [if_pos (by omega), if_neg (by omega), if_neg (by omega)]
  · rw [if_pos h1, if_neg h1]
theorem c_lamp {a1 a2 : Int} (s : Mem) : fX10_lamp a1 a2 s = if (0 ≤ a1 ∧ a1 ≤ 2) ∧ 0 ≤ a2 ∧ a2 ≤ 20 then some (s 6 a1.toNat, up s 6 a1.toNat a2) else some (-1, s) := by
  unfold fX10_lamp
  simp only [sp_colour, sp_within, bnd_some, tv_0, ne_eq, lt_eq, jn_eq, bnd_id, Decidable.not_not]
  by_cases h1 : 0 ≤ a1 ∧ a1 ≤ 2
  · rw [if_neg (by omega)]
    by_cases h2 : 0 ≤ a2 ∧ a2 ≤ 20
    · rw [if_pos h2, if_pos ⟨h1, h2⟩, sp_swap _ (by omega) (by omega)]
    · rw [if_neg h2, if_neg (by omega)]
  · rw [if_pos h1, if_neg (by omega)]
theorem r_lamp {a1 a2 : Int} (s : Mem) : fX11_lamp a1 a2 s = if (0 ≤ a1 ∧ a1 ≤ 2) ∧ 0 ≤ a2 ∧ a2 ≤ 20 then some (s 105 a1.toNat, up s 105 a1.toNat a2) else some (-1, s) := by
  unfold fX11_lamp
  simp only [sp_in, bnd_some, tv_0, ne_eq, lt_eq, jn_eq, bnd_id, Decidable.not_not]
  by_cases h1 : 0 ≤ a1 ∧ a1 ≤ 2
  · rw [if_neg (by omega)]
    by_cases h2 : 0 ≤ a2 ∧ a2 ≤ 20
    · rw [if_pos h2, if_pos ⟨h1, h2⟩, rd_in (by omega) (by omega), ST_in (by omega) (by omega)]
    · rw [if_neg h2, if_neg (by omega)]
  · rw [if_pos h1, if_neg (by omega)]
/-- the bounds of WAIT, NEAR, DOUBT, WEAR -/
def okRule (a1 a2 : Int) : Prop := (a1 = 0 ∧ 1 ≤ a2 ∧ a2 ≤ 48) ∨ (a1 = 1 ∧ 0 ≤ a2 ∧ a2 ≤ 60) ∨ (a1 = 2 ∧ 0 ≤ a2 ∧ a2 ≤ 3) ∨ (a1 = 3 ∧ 1 ≤ a2 ∧ a2 ≤ 20)
theorem c_rule_in {a1 a2 : Int} (s : Mem) (h : okRule a1 a2) : fX10_rule a1 a2 s = some (s 7 a1.toNat, up s 7 a1.toNat a2) := by
  unfold fX10_rule
  simp only [sp_within, bnd_some, tv_0, ne_eq, bnd_id, Decidable.not_not]
  unfold okRule at h
  rw [if_neg (by omega), rd_in (by omega) (by omega), rd_in (by omega) (by omega), sp_swap _ (by omega) (by omega)]
  rcases h with ⟨rfl, h⟩ | ⟨rfl, h⟩ | ⟨rfl, h⟩ | ⟨rfl, h⟩ <;> rw [if_pos]
  · show (1 : Int) ≤ a2 ∧ a2 ≤ 48; omega
  · show (0 : Int) ≤ a2 ∧ a2 ≤ 60; omega
  · show (0 : Int) ≤ a2 ∧ a2 ≤ 3; omega
  · show (1 : Int) ≤ a2 ∧ a2 ≤ 20; omega
theorem c_rule_out {a1 a2 : Int} (s : Mem) (h : ¬ okRule a1 a2) : fX10_rule a1 a2 s = some (-1, s) := by
  unfold fX10_rule
  simp only [sp_within, bnd_some, tv_0, ne_eq, bnd_id, Decidable.not_not]
  unfold okRule at h
  by_cases h1 : 0 ≤ a1 ∧ a1 ≤ 3
  · rw [if_neg (by omega), rd_in (by omega) (by omega), rd_in (by omega) (by omega)]
    have h2 : a1 = 0 ∨ a1 = 1 ∨ a1 = 2 ∨ a1 = 3 := by omega
    rcases h2 with rfl | rfl | rfl | rfl <;> rw [if_neg]
    · show ¬ ((1 : Int) ≤ a2 ∧ a2 ≤ 48); omega
    · show ¬ ((0 : Int) ≤ a2 ∧ a2 ≤ 60); omega
    · show ¬ ((0 : Int) ≤ a2 ∧ a2 ≤ 3); omega
    · show ¬ ((1 : Int) ≤ a2 ∧ a2 ≤ 20); omega
  · rw [if_pos h1]
theorem r_rule_in {a1 a2 : Int} (s : Mem) (h : okRule a1 a2) : fX11_rule a1 a2 s = some (s 100 (5 + a1.toNat), up s 100 (5 + a1.toNat) a2) := by
  unfold fX11_rule
  simp only [sp_in, bnd_some, tv_0, ne_eq, bnd_id, Decidable.not_not, lt_eq]
  unfold okRule at h
  rcases h with ⟨rfl, h⟩ | ⟨rfl, h⟩ | ⟨rfl, h⟩ | ⟨rfl, h⟩
  · rw [if_pos rfl, if_pos (by omega)]; rfl
  · rw [if_neg (by omega), if_pos rfl, if_pos (by omega)]; rfl
  · rw [if_neg (by omega), if_neg (by omega), if_pos rfl, if_pos (by omega)]; rfl
  · rw [if_neg (by omega), if_neg (by omega), if_neg (by omega), if_pos rfl, if_pos (by omega)]; rfl
theorem r_rule_out {a1 a2 : Int} (s : Mem) (h : ¬ okRule a1 a2) : fX11_rule a1 a2 s = some (-1, s) := by
  unfold fX11_rule
  simp only [sp_in, bnd_some, tv_0, ne_eq, bnd_id, Decidable.not_not, lt_eq]
  unfold okRule at h
  by_cases h1 : a1 = 0
  · rw [if_pos h1, if_neg (by omega)]
  · rw [if_neg h1]
    by_cases h2 : a1 = 1
    · rw [if_pos h2, if_neg (by omega)]
    · rw [if_neg h2]
      by_cases h3 : a1 = 2
      · rw [if_pos h3, if_neg (by omega)]
      · rw [if_neg h3]
        by_cases h4 : a1 = 3
        · rw [if_pos h4, if_neg (by omega)]
        · rw [if_neg h4]
/-! ACTIVITY -/
def fdc (a : Int) : Int := if 0 ≤ ixo a 40 then wr (a.tdiv 40) else if wr (wr (a.tdiv 40) * 40) = a then wr (a.tdiv 40) else wr (wr (a.tdiv 40) - 1)
def fdr (a : Int) : Int := if a < 0 then wr (-(Int.tdiv (wr (39 - a)) 40)) else Int.tdiv a 40
theorem fd_ok : ∀ k : Nat, k < 1001 → fdc ((k : Int) - 800) = ((k : Int) - 800) / 40 ∧ fdr ((k : Int) - 800) = ((k : Int) - 800) / 40 := by decide +kernel
theorem c_act {b : Int} (s : Mem) (hb : 0 ≤ b ∧ b ≤ 1) (hx : 0 ≤ s 3 b.toNat ∧ s 3 b.toNat ≤ 1000) : fX9_activity b s = some ((s 3 b.toNat - 800) / 40, s) := by
  unfold fX9_activity
  rw [rd_in (by omega) (by omega), bnd_id]
  generalize s 3 b.toNat = x at hx ⊢
  have h1 := (fd_ok x.toNat (by omega)).1
  rw [Int.toNat_of_nonneg hx.1] at h1
  rw [wr_ok (by omega) (by omega), ← h1]
  unfold fJ9_floorDiv_7cf53 dv fdc
  rw [if_neg (by omega)]
  show (if 0 ≤ ixo (x - 800) 40 then some (wr ((x - 800).tdiv 40), s) else if wr (wr ((x - 800).tdiv 40) * 40) = x - 800 then some (wr ((x - 800).tdiv 40), s) else some (wr (wr ((x - 800).tdiv 40) - 1), s)) = _
  repeat' split
  all_goals first | rfl | contradiction
theorem r_act {b : Int} (s : Mem) (hb : 0 ≤ b ∧ b ≤ 1) (hx : 0 ≤ s 102 b.toNat ∧ s 102 b.toNat ≤ 1000) : fX11_activity b s = some ((s 102 b.toNat - 800) / 40, s) := by
  unfold fX11_activity
  rw [rd_in (by omega) (by omega)]
  generalize s 102 b.toNat = x at hx ⊢
  have h1 := (fd_ok x.toNat (by omega)).2
  rw [Int.toNat_of_nonneg hx.1] at h1
  rw [lt_eq, wr_ok (by omega) (by omega), ← h1]
  unfold fdr
  split <;> rfl
theorem c_expo {c p d b : Int} (s : Mem) (hc : 0 ≤ c ∧ c ≤ 2) (hp : 1 ≤ p ∧ p ≤ 50) (hd : 0 ≤ d ∧ d ≤ 60) (hb : 0 ≤ b ∧ b ≤ 1) (hs : 0 ≤ s 6 c.toNat ∧ s 6 c.toNat ≤ 20) (hx : 0 ≤ s 3 b.toNat ∧ s 3 b.toNat ≤ 1000) : fX9_exposureOf c p d b s = some (p + 20 - d - s 6 c.toNat + (s 3 b.toNat - 800) / 40, s) := by
  unfold fX9_exposureOf
  rw [rd_in (by omega) (by omega), c_act s hb hx, bnd_some]
  simp (disch := omega) only [wr_ok]
theorem r_expo {c p d b : Int} (s : Mem) (hc : 0 ≤ c ∧ c ≤ 2) (hp : 1 ≤ p ∧ p ≤ 50) (hd : 0 ≤ d ∧ d ≤ 60) (hb : 0 ≤ b ∧ b ≤ 1) (hs : 0 ≤ s 105 c.toNat ∧ s 105 c.toNat ≤ 20) (hx : 0 ≤ s 102 b.toNat ∧ s 102 b.toNat ≤ 1000) : fX11_exposed c p d b s = some (p + 20 - d - s 105 c.toNat + (s 102 b.toNat - 800) / 40, s) := by
  unfold fX11_exposed
  rw [rd_in (by omega) (by omega), r_act s hb hx, bnd_some]
  simp (disch := omega) only [wr_ok]
/-- TONE out of a table that begins at t0 -/
def tonev (f : Nat → Int) (t0 e : Int) : Int := if e ≤ 0 then f t0.toNat else if 64 ≤ e then f (t0 + 8).toNat else f (t0 + e / 8).toNat + Int.tdiv ((f (t0 + e / 8 + 1).toNat - f (t0 + e / 8).toNat) * (e % 8)) 8
theorem tone_b {x y m : Int} (hx : 0 ≤ x ∧ x ≤ 255) (hy : 0 ≤ y ∧ y ≤ 255) (hm : 0 ≤ m ∧ m ≤ 7) : -2000 ≤ (y - x) * m ∧ (y - x) * m ≤ 2000 := by
  have h : m = 0 ∨ m = 1 ∨ m = 2 ∨ m = 3 ∨ m = 4 ∨ m = 5 ∨ m = 6 ∨ m = 7 := by omega
  rcases h with rfl | rfl | rfl | rfl | rfl | rfl | rfl | rfl <;> omega
theorem tdiv8 {z : Int} (h : -2000 ≤ z ∧ z ≤ 2000) : -250 ≤ Int.tdiv z 8 ∧ Int.tdiv z 8 ≤ 250 := by
  rcases Int.le_total 0 z with h0 | h0
  · rw [Int.tdiv_eq_ediv_of_nonneg h0]; omega
  · have : Int.tdiv z 8 = -Int.tdiv (-z) 8 := by rw [Int.neg_tdiv]; omega
    rw [this, Int.tdiv_eq_ediv_of_nonneg (by omega)]; omega
theorem c_toneAt {t0 e : Int} (s : Mem) (ht : 0 ≤ t0 ∧ t0 ≤ 72) (he : -1000 ≤ e ∧ e ≤ 1000) (hT : ∀ i, i < 81 → 0 ≤ s 2 i ∧ s 2 i ≤ 255) : fX9_toneAt t0 e s = some (tonev (s 2) t0 e, s) := by
  unfold fX9_toneAt tonev
  by_cases h1 : e ≤ 0
  · rw [if_neg (by omega), if_pos h1, rd_in (by omega) (by omega)]
  · rw [if_pos (by omega), if_neg h1]
    by_cases h2 : 64 ≤ e
    · rw [if_neg (by omega), if_pos h2, wr_ok (by omega) (by omega), rd_in (by omega) (by omega)]
    · rw [if_pos (by omega), if_neg h2, Int.tdiv_eq_ediv_of_nonneg (by omega), Int.tmod_eq_emod_of_nonneg (by omega), lt_eq]
      rw [wr_ok (x := t0 + e / 8) (by omega) (by omega), wr_ok (x := t0 + e / 8 + 1) (by omega) (by omega)]
      rw [rd_in (by omega) (by omega), rd_in (by omega) (by omega), rd_in (by omega) (by omega)]
      have g1 := hT (t0 + e / 8).toNat (by omega)
      have g2 := hT (t0 + e / 8 + 1).toNat (by omega)
      have g3 := tone_b g1 g2 (m := e % 8) (by omega)
      have g4 := tdiv8 g3
      rw [wr_ok (x := s 2 (t0 + e / 8 + 1).toNat - s 2 (t0 + e / 8).toNat) (by omega) (by omega), wr_ok (x := _ * _) (by omega) (by omega), wr_ok (by omega) (by omega)]
theorem r_toneAt {a b e : Int} (s : Mem) (ha : 0 ≤ a ∧ a ≤ 2) (hb : 0 ≤ b ∧ b ≤ 2) (he : -1000 ≤ e ∧ e ≤ 1000) (hT : ∀ i, i < 81 → 0 ≤ s 101 i ∧ s 101 i ≤ 255) : fX11_toneAt a b e s = some (tonev (s 101) (27 * a + 9 * b) e, s) := by
  unfold fX11_toneAt
  rw [jn_eq]
  have key : ∀ u : Int, 0 ≤ u ∧ u ≤ 64 → (lt (wr (wr (wr (27 * a) + wr (9 * b)) + Int.tdiv u 8)) fun v3 => if Int.tmod u 8 ≠ 0 then rd (s 101) v3 81 fun v4 => rd (s 101) (wr (v3 + 1)) 81 fun v5 => rd (s 101) v3 81 fun v6 => some (wr (v4 + Int.tdiv (wr (wr (v5 - v6) * Int.tmod u 8)) 8), s) else rd (s 101) v3 81 fun v7 => some (v7, s)) = some (s 101 (27 * a + 9 * b + u / 8).toNat + (if u % 8 = 0 then 0 else Int.tdiv ((s 101 (27 * a + 9 * b + u / 8 + 1).toNat - s 101 (27 * a + 9 * b + u / 8).toNat) * (u % 8)) 8), s) := by
    intro u hu
    rw [lt_eq, Int.tdiv_eq_ediv_of_nonneg hu.1, Int.tmod_eq_emod_of_nonneg hu.1]
    have e0 : wr (wr (wr (27 * a) + wr (9 * b)) + u / 8) = 27 * a + 9 * b + u / 8 := by simp (disch := omega) only [wr_ok]
    rw [e0]
    by_cases h : u % 8 = 0
    · rw [if_neg (by omega), if_pos h, rd_in (by omega) (by omega), Int.add_zero]
    · rw [if_pos h, if_neg h, wr_ok (x := 27 * a + 9 * b + u / 8 + 1) (by omega) (by omega), rd_in (by omega) (by omega), rd_in (by omega) (by omega), rd_in (by omega) (by omega)]
      have g1 := hT (27 * a + 9 * b + u / 8).toNat (by omega)
      have g2 := hT (27 * a + 9 * b + u / 8 + 1).toNat (by omega)
      have g3 := tone_b g1 g2 (m := u % 8) (by omega)
      have g4 := tdiv8 g3
      rw [wr_ok (x := s 101 (27 * a + 9 * b + u / 8 + 1).toNat - s 101 (27 * a + 9 * b + u / 8).toNat) (by omega) (by omega), wr_ok (x := _ * _) (by omega) (by omega), wr_ok (by omega) (by omega)]
  unfold tonev
  by_cases h1 : e ≤ 0
  · rw [if_pos h1]
    by_cases h2 : 0 ≤ e
    · have h3 : e = 0 := by omega
      subst h3
      rw [if_pos (by omega), if_pos (by omega)]
      refine (key 0 (by omega)).trans ?_
      simp
    · rw [if_neg h2]
      refine (key 0 (by omega)).trans ?_
      simp
  · rw [if_neg h1, if_pos (by omega)]
    by_cases h2 : 64 ≤ e
    · rw [if_pos h2]
      by_cases h3 : e ≤ 64
      · have h4 : e = 64 := by omega
        subst h4
        rw [if_pos h3]
        refine (key 64 (by omega)).trans ?_
        simp
      · rw [if_neg h3]
        refine (key 64 (by omega)).trans ?_
        simp
    · rw [if_neg h2, if_pos (by omega)]
      refine (key e (by omega)).trans ?_
      by_cases h : e % 8 = 0
      · rw [if_pos h, h]; simp
      · rw [if_neg h]
theorem tonev_b {f : Nat → Int} {t0 e : Int} (ht : 0 ≤ t0 ∧ t0 ≤ 72) (hT : ∀ i, i < 81 → 0 ≤ f i ∧ f i ≤ 255) : -250 ≤ tonev f t0 e ∧ tonev f t0 e ≤ 505 := by
  unfold tonev
  split
  · have := hT t0.toNat (by omega); omega
  · split
    · have := hT (t0 + 8).toNat (by omega); omega
    · have g1 := hT (t0 + e / 8).toNat (by omega)
      have g2 := hT (t0 + e / 8 + 1).toNat (by omega)
      have g3 := tone_b g1 g2 (m := e % 8) (by omega)
      have g4 := tdiv8 g3
      omega
