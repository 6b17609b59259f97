/-! JUMP at a cut, on both sides -/
def ltq (s : Mem) (q : Nat) (i : Int) (c : Nat) : Int := lit (s 108 (16 + q)) (s 24 q) (s 26 q) (s 23) (s 25) (s 27) (s 28) (s 29) q i c
def djp (s : Mem) (k c : Nat) : Int := ltq s (k + 1) 0 c - ltq s k (s 108 (16 + k) - 1) c
/-- what the lights need of a memory -/
def LTS (s : Mem) : Prop := LF (s 21 0) (s 22) (fun k => s 108 (16 + k)) ∧ ∀ q : Nat, (q : Int) < s 21 0 → LB (s 108 (16 + q)) (s 24 q) (s 26 q) (s 23) (s 25) (s 27) (s 28) (s 29) q
theorem Rel.lts {n : Nat} {s : Mem} (h : Rel n s) : LTS s := ⟨h.lf, fun _ hq => h.lb hq⟩
theorem LTS.b {s : Mem} (h : LTS s) {q c : Nat} {i : Int} (hq : (q : Int) < s 21 0) (hc : c < 3) (hi : 0 ≤ i ∧ i < s 108 (16 + q)) : 1 ≤ ltq s q i c ∧ ltq s q i c ≤ 50 := lit_b hc hi (h.2 q hq)
theorem LTS.c {s : Mem} (h : LTS s) {q c : Nat} {i : Int} (hq : (q : Int) < s 21 0) (hc : c < 3) (hi : 0 ≤ i ∧ i < s 108 (16 + q)) : fX6_lightIn 21 q i c s = some (ltq s q i c, s) := c_lightIn (fr := fun k => s 108 (16 + k)) s h.1 hq hc hi (h.2 q hq)
theorem LTS.d {s : Mem} (h : LTS s) {k c : Nat} (hk : (k : Int) + 1 < s 21 0) (hc : c < 3) : -50 < djp s k c ∧ djp s k c < 50 := by
  have f1 := (h.1.2.2.2 k (by omega)).2
  have f2 := (h.1.2.2.2 (k + 1) (by omega)).2
  dsimp only at f1 f2
  have a1 := h.b (q := k + 1) (c := c) (i := 0) (by omega) hc (by omega)
  have a2 := h.b (q := k) (c := c) (i := s 108 (16 + k) - 1) (by omega) hc (by omega)
  unfold djp; omega
theorem c_jumpS {s : Mem} (h : LTS s) {k c : Nat} (hk : (k : Int) + 1 < s 21 0) (hc : c < 3) (kk : Int → Mem → Option Res) (m : Nat) (v : Int) : LX6_jumpBehind_4 21 k kk (m + 1) v c s = LX6_jumpBehind_4 21 k kk m (mx v (ab (djp s k c))) (c + 1 : Nat) s := by
  have hn := h.1.2.1
  have f1 := (h.1.2.2.2 k (by omega)).2
  have f2 := (h.1.2.2.2 (k + 1) (by omega)).2
  dsimp only at f1 f2
  have b := h.d hk hc
  show (if 3 ≤ (c : Int) then _ else _) = _
  rw [if_neg (by omega), c_framesOf s h.1 (by omega), bnd_some]
  rw [wr_ok (x := s 108 (16 + k) - 1) (by omega) (by omega), h.c (by omega) hc (by omega), bnd_some, wr_ok (x := (k : Int) + 1) (by omega) (by omega)]
  have e := h.c (q := k + 1) (c := c) (i := 0) (by omega) hc (by omega)
  rw [show ((k + 1 : Nat) : Int) = (k : Int) + 1 by omega] at e
  rw [e, bnd_some, wr_ok (x := (c : Int) + 1) (by omega) (by omega), lt_eq]
  rw [show ((c + 1 : Nat) : Int) = (c : Int) + 1 by omega]
  unfold djp at b ⊢
  rw [wr_ok (x := ltq s (k + 1) 0 c - ltq s k (s 108 (16 + k) - 1) c) (by omega) (by omega)]
theorem ab_s {x : Int} (h : -50 < x ∧ x < 50) : ab x = if 0 ≤ x then x else -x := by
  unfold ab
  split
  · rfl
  · rw [wr_ok (by omega) (by omega)]; omega
theorem c_jump {s : Mem} (h : LTS s) {k : Nat} (hk : (k : Int) + 1 < s 21 0) : ∃ J, fX6_jumpBehind 21 k s = some (J, s) ∧ (J < 10 ↔ ∀ c, c < 3 → -10 < djp s k c ∧ djp s k c < 10) := by
  obtain ⟨F, hF⟩ : ∃ F, FU = F := ⟨_, rfl⟩
  have e : F = (F - 4) + 1 + 1 + 1 + 1 := (by have : F = 1000000 := hF.symm; omega)
  have d0 := h.d hk (c := 0) (by omega)
  have d1 := h.d hk (c := 1) (by omega)
  have d2 := h.d hk (c := 2) (by omega)
  refine ⟨mx (mx (mx 0 (ab (djp s k 0))) (ab (djp s k 1))) (ab (djp s k 2)), ?_, ?_⟩
  · unfold fX6_jumpBehind
    rw [hF, e]
    refine (c_jumpS h hk (c := 0) (by omega) _ _ 0).trans ?_
    refine (c_jumpS h hk (c := 1) (by omega) _ _ _).trans ?_
    refine (c_jumpS h hk (c := 2) (by omega) _ _ _).trans ?_
    rfl
  · rw [ab_s d0, ab_s d1, ab_s d2]
    constructor
    · intro hj c hc
      unfold mx at hj
      have : c = 0 ∨ c = 1 ∨ c = 2 := by omega
      rcases this with rfl | rfl | rfl <;> (repeat' split at hj) <;> omega
    · intro hj
      have j0 := hj 0 (by omega)
      have j1 := hj 1 (by omega)
      have j2 := hj 2 (by omega)
      unfold mx
      repeat' split
      all_goals omega
/-- the reference's memory while it looks frames up: s before the call, s1 behind the class's call -/
def EQ (t s s1 : Mem) (v : Int) : Prop := (∀ q, 101 ≤ q → q ≠ 124 → t q = s q) ∧ (∀ j, j ≠ 35 → j ≠ 36 → j ≠ 32 → t 100 j = s 100 j) ∧ t 100 32 = v ∧ ∀ q, q < 100 → t q = s1 q
theorem EQ.fd {t s s1 : Mem} {v : Int} (h : EQ t s s1 v) (i q : Int) : EQ (fdm t i q) s s1 v := by
  refine ⟨fun p h1 h2 => by rw [fdm_ne _ _ _ (by omega)]; exact h.1 p h1 h2, fun j h1 h2 h3 => ?_, ?_, fun p h1 => by rw [fdm_ne _ _ _ (by omega)]; exact h.2.2.2 p h1⟩
  · unfold fdm
    rw [up_nj _ _ _ _ h1, up_nj _ _ _ _ h2]
    exact h.2.1 j h1 h2 h3
  · unfold fdm
    rw [up_nj _ _ _ _ (by omega), up_nj _ _ _ _ (by omega)]
    exact h.2.2.1
theorem r_lightOf {n : Nat} {s s1 t : Mem} {v : Int} (h : Rel n s) (he : EQ t s s1 v) {q c : Nat} {f : Int} (hq : (q : Int) < s 21 0) (hc : c < 3) (q2 : s 22 q ≤ f) (q3 : f < s 22 (q + 1)) : fX11_lightOf f c t = some (ltq s q (f - s 22 q) c, fdm t (f - s 22 q) q) := by
  obtain ⟨l1, l2, l3⟩ := h.lfr
  have hn := l1.2.1
  have f1 := h.lf.2.2.2 q hq
  dsimp only at f1
  have b0 := h.lf.bd q (by omega)
  have b1 := h.lf.bd (q + 1) (by omega)
  have t106 : t 106 = s 106 := he.1 106 (by omega) (by omega)
  have t108 : t 108 = s 108 := he.1 108 (by omega) (by omega)
  have t19 : t 100 19 = s 100 19 := he.2.1 19 (by omega) (by omega) (by omega)
  have mo := l1.mono ((s 106 1).toNat - (q + 1)) (q + 1) (by omega)
  rw [show q + 1 + ((s 106 1).toNat - (q + 1)) = (s 106 1).toNat by omega] at mo
  obtain ⟨q', p1, p2, p3, p4⟩ := (r_find (f := f) (st := s 22) t (by rw [t106, t108]; exact l1) (by rw [t106, t19]; exact l3) (by omega)).1 (by rw [t106]; omega)
  rw [t106] at p1
  have hqq : q' = q := l1.one p1 (by omega) p2 p3 q2 q3
  subst hqq
  unfold fX11_lightOf
  rw [p4, bnd_some]
  have k := r_lightHere (f := s 108 (16 + q')) (a := s 24 q') (n := s 26 q') (i := f - s 22 q') (ow := s 23) (ft := s 25) (e1 := s 27) (e2 := s 28) (e3 := s 29) (q := q') (c := c) (fdm t (f - s 22 q') q') (by omega) hc (fdm_35 _ _ _) (fdm_36 _ _ _) (by omega) (h.lb hq) (by
    have l := h.le hq
    simp only [fdm_ne, ne_eq, not_false_eq_true, Nat.reduceEqDiff]
    simp (disch := omega) only [he.1]
    exact l)
  rw [k, bnd_some]
  rfl
