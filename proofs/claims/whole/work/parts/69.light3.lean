/-! light, edge, frameTone -/
theorem mul_b {d j : Int} (hd : -50 ≤ d ∧ d ≤ 50) (hj : 0 ≤ j ∧ j ≤ 400) : -20000 ≤ d * j ∧ d * j ≤ 20000 := by
  rcases Int.le_total 0 d with z | z
  · have p1 := Int.mul_nonneg z hj.1
    have p2 := Int.mul_le_mul hd.2 hj.2 hj.1 (by omega)
    omega
  · have p1 := Int.mul_nonneg (show 0 ≤ -d by omega) hj.1
    have p2 := Int.mul_le_mul (show -d ≤ 50 by omega) hj.2 hj.1 (by omega)
    rw [Int.neg_mul] at p1 p2
    omega
theorem r_lightHere {f a n i : Int} {ow ft e1 e2 e3 : Nat → Int} {q c : Nat} (s : Mem) (hq : q < 16) (hc : c < 3) (h35 : s 100 35 = q) (h36 : s 100 36 = i) (hi : 0 ≤ i ∧ i < f) (hb : LB f a n ow ft e1 e2 e3 q) (he : LE f a n ow ft e1 e2 e3 q (s 108) (s 109) (s 110) (s 111) (s 112) (s 113) (s 114) (s 115)) :
    fX11_lightHere c s = some (lit f a n ow ft e1 e2 e3 q i c, s) := by
  have hb' := hb
  have he' := he
  obtain ⟨b1, b2, b3, b4, b5, b6, b7, b8⟩ := hb
  obtain ⟨d1, d2, d3, d4, d5⟩ := he
  obtain ⟨F, hF⟩ : ∃ F, FU = F := ⟨_, rfl⟩
  have g := b7 c hc
  have d := d4 c hc
  have kk : ∀ v : Int, 1 ≤ v ∧ v ≤ 50 → LX11_lightHere_95 (16 + (q : Int)) (fun y s => some (y, s)) F v 0 s = some (eff e1 e2 e3 i n.toNat (4 * q) v, s) := by
    intro v hv
    have e : F = (F - n.toNat - 1) + n.toNat + 1 := (by have : F = 1000000 := hF.symm; omega)
    rw [e]
    exact r_effL (f := f) (a := a) (n := n) (i := i) s _ hq h35 h36 hb' he' n.toNat _ 0 v (by omega) hv
  have t1 : (16 + (q : Int)).toNat = 16 + q := by omega
  have t2 : (48 + 3 * (q : Int) + (c : Int)).toNat = 48 + (3 * q + c) := by omega
  have hl := lbs_b (f := f) (a := a) (o := ow (3 * q + c)) (t := ft (3 * q + c)) (i := i) ⟨g.1, g.2.1⟩ g.2.2 hi
  unfold fX11_lightHere lit
  rw [hF, h35, h36, wr_ok (x := 16 + (q : Int)) (by omega) (by omega), wr_ok (x := 3 * (q : Int)) (by omega) (by omega), wr_ok (x := 48 + 3 * (q : Int)) (by omega) (by omega), wr_ok (x := 48 + 3 * (q : Int) + (c : Int)) (by omega) (by omega), lt_eq]
  rw [rd_in (by omega) (by omega), rd_in (by omega) (by omega), rd_in (by omega) (by omega), t1, t2, d1, d2, d.1, wr_ok (x := f - a) (by omega) (by omega), wr_ok (x := i - (f - a)) (by omega) (by omega), wr_ok (x := i - (f - a) + 1) (by omega) (by omega), lt_eq, rd_in (by omega) (by omega), t1, d2]
  by_cases z1 : a ≤ 0
  · rw [if_pos z1]
    have e : lbs f a (ow (3 * q + c)) (ft (3 * q + c)) i = ow (3 * q + c) := by unfold lbs; rw [if_neg (by omega)]
    rw [e]
    exact kk _ ⟨g.1, g.2.1⟩
  · rw [if_neg z1]
    by_cases z2 : i - (f - a) + 1 ≤ 0
    · rw [if_pos z2]
      have e : lbs f a (ow (3 * q + c)) (ft (3 * q + c)) i = ow (3 * q + c) := by unfold lbs; rw [if_neg (by omega)]
      rw [e]
      exact kk _ ⟨g.1, g.2.1⟩
    · rw [if_neg z2, rd_in (by omega) (by omega), rd_in (by omega) (by omega), t1, t2, d2, d.2]
      have e : lbs f a (ow (3 * q + c)) (ft (3 * q + c)) i = ow (3 * q + c) + Int.tdiv ((ft (3 * q + c) - ow (3 * q + c)) * (i - (f - a) + 1)) a := by unfold lbs; rw [if_pos ⟨by omega, by omega⟩]
      rw [e] at hl ⊢
      have g3 := g.2.2 (by omega)
      have m1 := mul_b (d := ft (3 * q + c) - ow (3 * q + c)) (j := i - (f - a) + 1) (by omega) (by omega)
      rw [wr_ok (x := ft (3 * q + c) - ow (3 * q + c)) (by omega) (by omega), wr_ok (x := (ft (3 * q + c) - ow (3 * q + c)) * (i - (f - a) + 1)) (by omega) (by omega)]
      unfold dv
      rw [if_neg (by omega), wr_ok (x := Int.tdiv _ _) (by omega) (by omega)]
      have e5 : wr (ow (3 * q + c) + ((ft (3 * q + c) - ow (3 * q + c)) * (i - (f - a) + 1)).tdiv a) = ow (3 * q + c) + ((ft (3 * q + c) - ow (3 * q + c)) * (i - (f - a) + 1)).tdiv a := wr_ok (by omega) (by omega)
      simp only [lt_eq, e5]
      exact kk _ hl
theorem lit_b {f a n i : Int} {ow ft e1 e2 e3 : Nat → Int} {q c : Nat} (hc : c < 3) (hi : 0 ≤ i ∧ i < f) (hb : LB f a n ow ft e1 e2 e3 q) : 1 ≤ lit f a n ow ft e1 e2 e3 q i c ∧ lit f a n ow ft e1 e2 e3 q i c ≤ 50 := by
  obtain ⟨b1, b2, b3, b4, b5, b6, b7, b8⟩ := hb
  have g := b7 c hc
  have hl := lbs_b (f := f) (a := a) (o := ow (3 * q + c)) (t := ft (3 * q + c)) (i := i) ⟨g.1, g.2.1⟩ g.2.2 hi
  have key : ∀ (j e : Nat) (v : Int), ((e + j : Nat) : Int) = n → 1 ≤ v ∧ v ≤ 50 → 1 ≤ eff e1 e2 e3 i j (4 * q + e) v ∧ eff e1 e2 e3 i j (4 * q + e) v ≤ 50 := by
    intro j
    induction j with
    | zero => intro e v _ hv; exact hv
    | succ j ih =>
      intro e v hn hv
      have b := b8 e (by omega)
      unfold eff
      refine ih (e + 1) _ (by omega) ?_
      split
      · unfold mx; split <;> omega
      · exact hv
  exact key n.toNat 0 _ (by omega) hl
/-- LIGHT of a frame that is there -/
theorem Rel.lights {n : Nat} {s : Mem} (h : Rel n s) {q c : Nat} {a : Int} (hq : (q : Int) < s 21 0) (hc : c < 3) (q2 : s 22 q ≤ a) (q3 : a < s 22 (q + 1)) (q4 : fX6_shotAt 21 a s = some ((q : Int), s)) :
    ∃ v : Int, 1 ≤ v ∧ v ≤ 50 ∧ fX6_lightAt 21 a c s = some (v, s) ∧ fX11_lightHere c (fdm s (a - s 22 q) q) = some (v, fdm s (a - s 22 q) q) := by
  have l0 := h.lf
  have hn := l0.2.1
  have hb := h.lb hq
  have h2 := l0.2.2.2 q hq
  dsimp only at h2
  have b1 := l0.bd q (by omega)
  have hi : 0 ≤ a - s 22 q ∧ a - s 22 q < s 108 (16 + q) := by omega
  have he := h.le hq
  refine ⟨_, (lit_b hc hi hb).1, (lit_b hc hi hb).2, ?_, r_lightHere _ (by omega) hc (fdm_35 _ _ _) (fdm_36 _ _ _) hi hb ?_⟩
  · unfold fX6_lightAt
    rw [q4, bnd_some, rd_in (by omega) (by omega)]
    simp only [Nat.reduceAdd, Int.toNat_natCast]
    have e : wr (a - s 22 q) = a - s 22 q := wr_ok (by omega) (by omega)
    simp only [e]
    have := c_lightIn (fr := fun k => s 108 (16 + k)) s l0 (q := q) (c := c) (i := a - s 22 q) hq hc hi hb
    simp only [this, bnd_some]
  · simp only [fdm_ne, ne_eq, not_false_eq_true, Nat.reduceEqDiff]
    exact he
theorem op_light (a1 a2 : Int) (ha : InR a1) : OP (fX10_light a1 a2) (fX11_light a1 a2) := by
  intro n s hn h
  unfold InR at ha
  by_cases h0 : a1 < 0
  · exact OP.same h (r := -1) (by unfold fX10_light; rw [if_pos h0]) (by unfold fX11_light; rw [if_pos h0])
  · by_cases hc : 0 ≤ a2 ∧ a2 ≤ 2
    · obtain ⟨c, rfl⟩ : ∃ c : Nat, a2 = c := ⟨a2.toNat, by omega⟩
      rcases h.find (a := a1) (by omega) with ⟨q, q1, q2, q3, q4, q5, q6⟩ | ⟨p1, i, q, p2⟩
      · obtain ⟨v, v1, v2, v3, v4⟩ := h.lights (c := c) q1 (by omega) q2 q3 q5
        refine ⟨v, s, fdm s (a1 - s 22 q) q, ?_, ?_, (h.ffd _ _).mono⟩
        · unfold fX10_light
          rw [if_neg h0, sp_colour, bnd_some]
          simp only [ne_eq, tv_0, Decidable.not_not]
          rw [if_pos hc, q4, bnd_some, if_neg (by omega), v3]; rfl
        · unfold fX11_light
          rw [if_neg h0, sp_in, bnd_some]
          simp only [ne_eq, tv_0, Decidable.not_not]
          rw [if_pos hc, q6, bnd_some, if_neg (by omega), v4]; rfl
      · refine ⟨-2, s, _, ?_, ?_, (h.ffd i q).mono⟩
        · unfold fX10_light
          rw [if_neg h0, sp_colour, bnd_some]
          simp only [ne_eq, tv_0, Decidable.not_not]
          rw [if_pos hc, p1, bnd_some, if_pos rfl]
        · unfold fX11_light
          rw [if_neg h0, sp_in, bnd_some]
          simp only [ne_eq, tv_0, Decidable.not_not]
          rw [if_pos hc, p2, bnd_some, if_pos rfl]
    · refine OP.same h (r := -1) ?_ ?_
      · unfold fX10_light
        rw [if_neg h0, sp_colour, bnd_some]
        simp only [ne_eq, tv_0, Decidable.not_not]
        rw [if_neg hc]
      · unfold fX11_light
        rw [if_neg h0, sp_in, bnd_some]
        simp only [ne_eq, tv_0, Decidable.not_not]
        rw [if_neg hc]
