/-! LIGHT of a frame of THE LIST -/
def eff (e1 e2 e3 : Nat → Int) (i : Int) : Nat → Nat → Int → Int
  | 0, _, v => v
  | m + 1, e, v => eff e1 e2 e3 i m (e + 1) (if e1 e ≤ i ∧ i < e2 e then mx 1 (v - e3 e) else v)
def lbs (f a o t i : Int) : Int := if 0 < a ∧ f - a ≤ i then o + Int.tdiv ((t - o) * (i - (f - a) + 1)) a else o
theorem fade_b {d j a : Int} (ha : 0 < a) (hj : 0 ≤ j ∧ j ≤ a) : (0 ≤ d → 0 ≤ Int.tdiv (d * j) a ∧ Int.tdiv (d * j) a ≤ d) ∧ (d ≤ 0 → d ≤ Int.tdiv (d * j) a ∧ Int.tdiv (d * j) a ≤ 0) := by
  have pos : ∀ d : Int, 0 ≤ d → 0 ≤ Int.tdiv (d * j) a ∧ Int.tdiv (d * j) a ≤ d := by
    intro d h
    have g : 0 ≤ d * j := Int.mul_nonneg h hj.1
    rw [Int.tdiv_eq_ediv_of_nonneg g]
    refine ⟨Int.ediv_nonneg g (by omega), ?_⟩
    have h2 : d * j ≤ d * a := Int.mul_le_mul_of_nonneg_left hj.2 h
    have h3 := Int.ediv_le_ediv ha h2
    rw [Int.mul_ediv_cancel _ (by omega)] at h3
    exact h3
  refine ⟨pos d, fun h => ?_⟩
  have := pos (-d) (by omega)
  rw [Int.neg_mul, Int.neg_tdiv] at this
  omega
theorem lbs_b {f a o t i : Int} (ho : 1 ≤ o ∧ o ≤ 50) (ht : 0 < a → 1 ≤ t ∧ t ≤ 50) (hi : 0 ≤ i ∧ i < f) : 1 ≤ lbs f a o t i ∧ lbs f a o t i ≤ 50 := by
  unfold lbs
  split
  · rename_i h
    have h2 := ht h.1
    have g := fade_b (d := t - o) (j := i - (f - a) + 1) h.1 (by omega)
    rcases Int.le_total 0 (t - o) with z | z
    · have := g.1 z; omega
    · have := g.2 z; omega
  · exact ho
/-- the bounds of one SHOT's rows -/
def LB (f a n : Int) (ow ft e1 e2 e3 : Nat → Int) (q : Nat) : Prop := 1 ≤ f ∧ f ≤ 400 ∧ 0 ≤ a ∧ a ≤ f ∧ 0 ≤ n ∧ n ≤ 4 ∧ (∀ c, c < 3 → 1 ≤ ow (3 * q + c) ∧ ow (3 * q + c) ≤ 50 ∧ (0 < a → 1 ≤ ft (3 * q + c) ∧ ft (3 * q + c) ≤ 50)) ∧ ∀ e : Nat, (e : Int) < n → 0 ≤ e1 (4 * q + e) ∧ e1 (4 * q + e) < e2 (4 * q + e) ∧ e2 (4 * q + e) ≤ f ∧ 1 ≤ e3 (4 * q + e) ∧ e3 (4 * q + e) ≤ 40
theorem Rel.lb {n : Nat} {s : Mem} (h : Rel n s) {q : Nat} (hq : (q : Int) < s 21 0) : LB (s 108 (16 + q)) (s 24 q) (s 26 q) (s 23) (s 25) (s 27) (s 28) (s 29) q := by
  obtain ⟨-, -, -, -, h5, -⟩ := h
  have := h5.2.1 q hq
  rw [show 16 * 1 + q = 16 + q by omega] at this
  obtain ⟨-, a1, a2, a3, a4, a5, a6, a7, a8⟩ := this
  exact ⟨a1, a2, a3, a4, a5, a6, a7, a8⟩
def lit (f a n : Int) (ow ft e1 e2 e3 : Nat → Int) (q : Nat) (i : Int) (c : Nat) : Int := eff e1 e2 e3 i n.toNat (4 * q) (lbs f a (ow (3 * q + c)) (ft (3 * q + c)) i)
theorem c_effL {i en : Int} (s : Mem) (k : Int → Mem → Option Res) : ∀ (j m e : Nat) (v : Int), (e + j : Nat) = en → e + j ≤ 64 → 1 ≤ v ∧ v ≤ 50 → (∀ x : Nat, e ≤ x → x < e + j → 0 ≤ s 29 x ∧ s 29 x ≤ 40) → LX6_lightIn_99 21 i en k (m + j + 1) v e s = k (eff (s 27) (s 28) (s 29) i j e v) s := by
  intro j
  induction j with
  | zero =>
    intro m e v he h64 hv hb
    show (if en ≤ (e : Int) then _ else _) = _
    rw [if_pos (by omega)]; rfl
  | succ j ih =>
    intro m e v he h64 hv hb
    have b := hb e (by omega) (by omega)
    have nx : ∀ v' : Int, 1 ≤ v' ∧ v' ≤ 50 → LX6_lightIn_99 21 i en k (m + j + 1) v' ((e : Int) + 1) s = k (eff (s 27) (s 28) (s 29) i j (e + 1) v') s := fun v' hv' => ih m (e + 1) v' (by omega) (by omega) hv' (fun x h1 h2 => hb x (by omega) (by omega))
    show (if en ≤ (e : Int) then _ else _) = _
    rw [if_neg (by omega), wr_ok (x := (e : Int) + 1) (by omega) (by omega), rd_in (by omega) (by omega), rd_in (by omega) (by omega), rd_in (by omega) (by omega)]
    simp only [Nat.reduceAdd, Int.toNat_natCast]
    unfold eff
    by_cases h1 : i < s 27 e
    · rw [if_pos h1, if_neg (by omega)]
      exact nx v hv
    · rw [if_neg h1]
      by_cases h2 : s 28 e ≤ i
      · rw [if_pos h2, if_neg (by omega)]
        exact nx v hv
      · rw [if_neg h2, if_pos (by omega), lt_eq, wr_ok (by omega) (by omega)]
        exact nx _ (by unfold mx; split <;> omega)
theorem c_framesOf {fr : Nat → Int} (s : Mem) (h : LF (s 21 0) (s 22) fr) {q : Nat} (hq : (q : Int) < s 21 0) : fX6_framesOf 21 q s = some (fr q, s) := by
  unfold fX6_framesOf
  have h1 := h.2.1
  have h2 := h.2.2.2 q hq
  have b1 := h.bd q (by omega)
  have b2 := h.bd (q + 1) (by omega)
  rw [wr_ok (x := (q : Int) + 1) (by omega) (by omega), rd_in (by omega) (by omega), rd_in (by omega) (by omega)]
  simp only [Nat.reduceAdd, Int.toNat_natCast]
  rw [show ((q : Int) + 1).toNat = q + 1 by omega, wr_ok (by omega) (by omega)]
  congr 2; omega
theorem c_inFade {fr : Nat → Int} (s : Mem) (h : LF (s 21 0) (s 22) fr) {q : Nat} {i : Int} (hq : (q : Int) < s 21 0) (ha : 0 ≤ s 24 q ∧ s 24 q ≤ fr q) : fX6_isInFade 21 q i s = some (tv (fr q - s 24 q ≤ i), s) := by
  unfold fX6_isInFade
  have h1 := h.2.1
  have h2 := h.2.2.2 q hq
  rw [c_framesOf s h hq, bnd_some, rd_in (by omega) (by omega)]
  simp only [Nat.reduceAdd, Int.toNat_natCast]
  have e : wr (fr q - s 24 q) = fr q - s 24 q := wr_ok (by omega) (by omega)
  simp only [e]
  unfold tv
  by_cases z : i < fr q - s 24 q
  · rw [if_pos z, if_neg (by omega)]; rfl
  · rw [if_neg z, if_pos (by omega)]; rfl
theorem c_lightIn {fr : Nat → Int} (s : Mem) (h : LF (s 21 0) (s 22) fr) {q c : Nat} {i : Int} (hq : (q : Int) < s 21 0) (hc : c < 3) (hi : 0 ≤ i ∧ i < fr q) (hb : LB (fr q) (s 24 q) (s 26 q) (s 23) (s 25) (s 27) (s 28) (s 29) q) : fX6_lightIn 21 q i c s = some (lit (fr q) (s 24 q) (s 26 q) (s 23) (s 25) (s 27) (s 28) (s 29) q i c, s) := by
  obtain ⟨b1, b2, b3, b4, b5, b6, b7, b8⟩ := hb
  have hn := h.2.1
  obtain ⟨F, hF⟩ : ∃ F, FU = F := ⟨_, rfl⟩
  have g := b7 c hc
  have k82 : ∀ v : Int, 1 ≤ v ∧ v ≤ 50 → (rd (s 26) q 16 fun v7 => lt (wr (wr ((q : Int) * 4) + v7)) fun v8 => lt (wr ((q : Int) * 4)) fun v9 => LX6_lightIn_99 21 i v8 (fun y15 s14 => some (y15, s14)) F v v9 s) = some (eff (s 27) (s 28) (s 29) i (s 26 q).toNat (4 * q) v, s) := by
    intro v hv
    rw [rd_in (by omega) (by omega), Int.toNat_natCast, lt_eq, lt_eq, wr_ok (x := (q : Int) * 4) (by omega) (by omega), wr_ok (by omega) (by omega)]
    have e : F = (F - (s 26 q).toNat - 1) + (s 26 q).toNat + 1 := (by have : F = 1000000 := hF.symm; omega)
    rw [e, show (q : Int) * 4 = ((4 * q : Nat) : Int) by omega]
    refine c_effL s _ (s 26 q).toNat _ (4 * q) v (by omega) (by omega) hv (fun x h1 h2 => ?_)
    have := b8 (x - 4 * q) (by omega)
    rw [show 4 * q + (x - 4 * q) = x by omega] at this
    omega
  unfold fX6_lightIn lit
  rw [hF, lt_eq, wr_ok (x := (q : Int) * 3) (by omega) (by omega), wr_ok (by omega) (by omega), rd_in (by omega) (by omega), c_inFade s h hq ⟨b3, b4⟩, bnd_some, jn_eq]
  simp only [Nat.reduceAdd, show ((q : Int) * 3 + (c : Int)).toNat = 3 * q + c by omega]
  simp only [tv_0]
  have hl := lbs_b (f := fr q) (a := s 24 q) (o := s 23 (3 * q + c)) (t := s 25 (3 * q + c)) (i := i) ⟨g.1, g.2.1⟩ g.2.2 hi
  by_cases z1 : fr q - s 24 q ≤ i
  · rw [if_neg (fun z => z z1), rd_in (by omega) (by omega), Int.toNat_natCast]
    by_cases z2 : s 24 q ≤ 0
    · rw [if_pos z2]
      have e : lbs (fr q) (s 24 q) (s 23 (3 * q + c)) (s 25 (3 * q + c)) i = s 23 (3 * q + c) := by unfold lbs; rw [if_neg (by omega)]
      rw [e]
      exact k82 _ ⟨g.1, g.2.1⟩
    · rw [if_neg z2, c_framesOf s h hq, bnd_some, rd_in (by omega) (by omega), Int.toNat_natCast, lt_eq, rd_in (by omega) (by omega), rd_in (by omega) (by omega), rd_in (by omega) (by omega)]
      simp only [show ((q : Int) * 3 + (c : Int)).toNat = 3 * q + c by omega, Int.toNat_natCast, lt_eq]
      have e : lbs (fr q) (s 24 q) (s 23 (3 * q + c)) (s 25 (3 * q + c)) i = s 23 (3 * q + c) + Int.tdiv ((s 25 (3 * q + c) - s 23 (3 * q + c)) * (i - (fr q - s 24 q) + 1)) (s 24 q) := by unfold lbs; rw [if_pos ⟨by omega, z1⟩]
      rw [e] at hl ⊢
      have g3 := g.2.2 (by omega)
      have j0 : 0 ≤ i - (fr q - s 24 q) + 1 ∧ i - (fr q - s 24 q) + 1 ≤ 400 := by omega
      have m1 : -(50 * 400) ≤ (s 25 (3 * q + c) - s 23 (3 * q + c)) * (i - (fr q - s 24 q) + 1) ∧ (s 25 (3 * q + c) - s 23 (3 * q + c)) * (i - (fr q - s 24 q) + 1) ≤ 50 * 400 := by
        rcases Int.le_total 0 (s 25 (3 * q + c) - s 23 (3 * q + c)) with z | z
        · have p1 := Int.mul_nonneg z j0.1
          have p2 := Int.mul_le_mul (show s 25 (3 * q + c) - s 23 (3 * q + c) ≤ 50 by omega) j0.2 j0.1 (by omega)
          omega
        · have p1 := Int.mul_nonneg (show 0 ≤ -(s 25 (3 * q + c) - s 23 (3 * q + c)) by omega) j0.1
          have p2 := Int.mul_le_mul (show -(s 25 (3 * q + c) - s 23 (3 * q + c)) ≤ 50 by omega) j0.2 j0.1 (by omega)
          rw [Int.neg_mul] at p1 p2
          omega
      rw [wr_ok (x := fr q - s 24 q) (by omega) (by omega), wr_ok (x := i - (fr q - s 24 q)) (by omega) (by omega), wr_ok (x := i - (fr q - s 24 q) + 1) (by omega) (by omega), wr_ok (x := s 25 (3 * q + c) - s 23 (3 * q + c)) (by omega) (by omega), wr_ok (x := _ * _) (by omega) (by omega)]
      unfold dv
      rw [if_neg (by omega), wr_ok (x := Int.tdiv _ _) (by omega) (by omega)]
      have k := k82 _ hl
      have e4 : wr ((q : Int) * 4) = (q : Int) * 4 := wr_ok (by omega) (by omega)
      simp only [lt_eq, e4] at k
      have e5 : wr (s 23 (3 * q + c) + ((s 25 (3 * q + c) - s 23 (3 * q + c)) * (i - (fr q - s 24 q) + 1)).tdiv (s 24 q)) = s 23 (3 * q + c) + ((s 25 (3 * q + c) - s 23 (3 * q + c)) * (i - (fr q - s 24 q) + 1)).tdiv (s 24 q) := wr_ok (by omega) (by omega)
      simp only [e4, e5]
      exact k
  · rw [if_pos z1]
    have e : lbs (fr q) (s 24 q) (s 23 (3 * q + c)) (s 25 (3 * q + c)) i = s 23 (3 * q + c) := by unfold lbs; rw [if_neg (by omega)]
    rw [e]
    exact k82 _ ⟨g.1, g.2.1⟩
