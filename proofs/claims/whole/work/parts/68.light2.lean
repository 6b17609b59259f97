/-! LIGHT of a frame: the reference's side; light, edge, frameTone -/
theorem Rel.find {n : Nat} {s : Mem} (h : Rel n s) {a : Int} (h0 : 0 ≤ a ∧ a < 2147483648) :
    (∃ q : Nat, (q : Int) < s 21 0 ∧ s 22 q ≤ a ∧ a < s 22 (q + 1) ∧ fX6_hasFrame 21 a s = some (1, s) ∧ fX6_shotAt 21 a s = some ((q : Int), s) ∧ fX11_find a s = some (1, fdm s (a - s 22 q) q)) ∨
    (fX6_hasFrame 21 a s = some (0, s) ∧ ∃ i q, fX11_find a s = some (0, fdm s i q)) := by
  obtain ⟨l1, l2, l3⟩ := h.lfr
  have l0 := h.lf
  by_cases hf : 0 < s 21 0 ∧ a < s 22 (s 21 0).toNat
  · left
    obtain ⟨q, q1, q2, q3, q4⟩ := c_shotAt s l0 hf.1 h0.1 hf.2
    obtain ⟨q', p1, p2, p3, p4⟩ := (r_find (f := a) s l1 l3 h0).1 (by rw [← l2]; exact hf.2)
    have hqq : q = q' := l1.one (by omega) p1 q2 q3 p2 p3
    subst hqq
    refine ⟨q, q1, q2, q3, ?_, q4, p4⟩
    rw [c_hasFrame s l0 h0.1]; unfold tv; rw [if_pos hf]
  · right
    have hf2 : s 22 (s 106 1).toNat ≤ a := by
      rw [← l2]
      rcases l3 with ⟨_, z⟩ | ⟨_, z⟩
      · rw [l2, z, show ((0 : Int).toNat) = 0 from rfl, l1.2.2.1]; exact h0.1
      · omega
    refine ⟨?_, _, _, (r_find (f := a) s l1 l3 h0).2 hf2⟩
    rw [c_hasFrame s l0 h0.1]; unfold tv; rw [if_neg hf]
theorem fdm_35 (s : Mem) (i q : Int) : fdm s i q 100 35 = q := by unfold fdm; rw [up_at]
theorem fdm_36 (s : Mem) (i q : Int) : fdm s i q 100 36 = i := by unfold fdm; rw [up_nj _ _ _ _ (by omega), up_at]
theorem fdm_ne (s : Mem) (i q : Int) {p : Nat} (hp : p ≠ 100) : fdm s i q p = s p := by unfold fdm; rw [up_ne _ _ _ _ hp, up_ne _ _ _ _ hp]
/-- the rows of one SHOT on both sides -/
def LE (f a n : Int) (ow ft e1 e2 e3 : Nat → Int) (q : Nat) (y108 y109 y110 y111 y112 y113 y114 y115 : Nat → Int) : Prop :=
  y108 (16 + q) = f ∧ y110 (16 + q) = a ∧ y112 (16 + q) = n ∧ (∀ c, c < 3 → y109 (48 + (3 * q + c)) = ow (3 * q + c) ∧ y111 (48 + (3 * q + c)) = ft (3 * q + c)) ∧
  ∀ e, e < 4 → y113 (64 + (4 * q + e)) = e1 (4 * q + e) ∧ y113 (64 + (4 * q + e)) + y114 (64 + (4 * q + e)) = e2 (4 * q + e) ∧ y115 (64 + (4 * q + e)) = e3 (4 * q + e)
theorem Rel.le {n : Nat} {s : Mem} (h : Rel n s) {q : Nat} (hq : (q : Int) < s 21 0) : LE (s 108 (16 + q)) (s 24 q) (s 26 q) (s 23) (s 25) (s 27) (s 28) (s 29) q (s 108) (s 109) (s 110) (s 111) (s 112) (s 113) (s 114) (s 115) := by
  obtain ⟨-, -, -, -, h5, -⟩ := h
  have hn := h5.1
  obtain ⟨-, -, a1, a2, a3⟩ := h5
  have b := a2 q (by omega)
  refine ⟨rfl, b.1.symm, b.2.symm, fun c hc => ?_, fun e he => ?_⟩
  · have := a1 (3 * q + c) (by omega)
    exact ⟨this.1.symm, this.2.symm⟩
  · have := a3 (4 * q + e) (by omega)
    exact ⟨this.1.symm, this.2.1.symm, this.2.2.symm⟩
theorem r_effL {f a n i : Int} {ow ft e1 e2 e3 : Nat → Int} {q : Nat} (s : Mem) (k : Int → Mem → Option Res) (hq : q < 16) (h35 : s 100 35 = q) (h36 : s 100 36 = i) (hb : LB f a n ow ft e1 e2 e3 q) (he : LE f a n ow ft e1 e2 e3 q (s 108) (s 109) (s 110) (s 111) (s 112) (s 113) (s 114) (s 115)) :
    ∀ (j m e : Nat) (v : Int), ((e + j : Nat) : Int) = n → 1 ≤ v ∧ v ≤ 50 → LX11_lightHere_95 (16 + (q : Int)) k (m + j + 1) v e s = k (eff e1 e2 e3 i j (4 * q + e) v) s := by
  obtain ⟨b1, b2, b3, b4, b5, b6, b7, b8⟩ := hb
  obtain ⟨d1, d2, d3, d4, d5⟩ := he
  have t1 : (16 + (q : Int)).toNat = 16 + q := by omega
  intro j
  induction j with
  | zero =>
    intro m e v hn hv
    show (rd (s 112) (16 + (q : Int)) 64 fun v7 => if v7 ≤ (e : Int) then _ else _) = _
    rw [rd_in (by omega) (by omega), t1, d3, if_pos (by omega)]; rfl
  | succ j ih =>
    intro m e v hn hv
    have b := b8 e (by omega)
    have d := d5 e (by omega)
    have nx : ∀ v' : Int, 1 ≤ v' ∧ v' ≤ 50 → LX11_lightHere_95 (16 + (q : Int)) k (m + j + 1) v' ((e : Int) + 1) s = k (eff e1 e2 e3 i j (4 * q + e + 1) v') s := fun v' hv' => ih m (e + 1) v' (by omega) hv'
    have t2 : (64 + 4 * (q : Int) + (e : Int)).toNat = 64 + (4 * q + e) := by omega
    show (rd (s 112) (16 + (q : Int)) 64 fun v7 => if v7 ≤ (e : Int) then _ else _) = _
    rw [rd_in (by omega) (by omega), t1, d3, if_neg (by omega), h35, h36]
    rw [wr_ok (x := 4 * (q : Int)) (by omega) (by omega), wr_ok (x := 64 + 4 * (q : Int)) (by omega) (by omega), wr_ok (x := 64 + 4 * (q : Int) + (e : Int)) (by omega) (by omega), wr_ok (x := (e : Int) + 1) (by omega) (by omega), lt_eq]
    rw [rd_in (by omega) (by omega), rd_in (by omega) (by omega), rd_in (by omega) (by omega), t2, d.2.1, wr_ok (x := e2 (4 * q + e)) (by omega) (by omega), wr_ok (x := e2 (4 * q + e) - 1) (by omega) (by omega), d.1, sp_in, bnd_some]
    simp only [tv_0]
    unfold eff
    by_cases z : e1 (4 * q + e) ≤ i ∧ i ≤ e2 (4 * q + e) - 1
    · rw [if_neg (fun w => w z), if_pos (by omega), rd_in (by omega) (by omega), t2, d.2.2, wr_ok (x := v - e3 (4 * q + e)) (by omega) (by omega)]
      by_cases z2 : 1 ≤ v - e3 (4 * q + e)
      · rw [if_pos z2, rd_in (by omega) (by omega), t2, d.2.2, wr_ok (x := v - e3 (4 * q + e)) (by omega) (by omega), lt_eq]
        refine (nx _ (by omega)).trans ?_
        congr 2
        unfold mx; split <;> omega
      · rw [if_neg z2]
        refine (nx _ (by omega)).trans ?_
        congr 2
        unfold mx; split <;> omega
    · rw [if_pos z, if_neg (by omega)]
      exact nx v hv
