/-! run: the reference's loop -/
theorem EQ.h {t s s1 : Mem} {v : Int} (h : EQ t s s1 v) (k : Nat) (x : Int) : EQ (up t 124 k x) s s1 v := by
  refine ⟨fun p h1 h2 => by rw [up_ne _ _ _ _ h2]; exact h.1 p h1 h2, fun j h1 h2 h3 => by rw [up_ne _ _ _ _ (by omega)]; exact h.2.1 j h1 h2 h3, by rw [up_ne _ _ _ _ (by omega)]; exact h.2.2.1, fun p h1 => by rw [up_ne _ _ _ _ (by omega)]; exact h.2.2.2 p h1⟩
theorem r_runX (a1 : Int) (kk : Int → Int → Mem → Option Res) (m : Nat) (x y : Int) (t : Mem) : LX11_run_45 a1 kk (m + 1) x y 0 t = kk x y t := rfl
theorem r_runL {n0 : Nat} {s s1 : Mem} {v r3 : Int} (h : Rel n0 s) (h3 : 1 ≤ r3 ∧ r3 ≤ 20) (e3 : s 100 8 = r3) (a1 : Int) (kk : Int → Int → Mem → Option Res) (S : Nat → Bool) (w : Nat → Int) (hS : ∀ k, (S k = true) = SP (s 32) (s 33) (fun k => s 108 (16 + k)) k) (hw : ∀ k : Nat, (k : Int) + 1 < s 21 0 → (alj s k ∧ w k = r3) ∨ (¬ alj s k ∧ w k = r3 + 2)) :
    ∀ (j m k : Nat) (t : Mem), ((k + j + 1 : Nat) : Int) = s 21 0 → EQ t s s1 v → (∀ i, i < 15 → 0 ≤ t 124 i ∧ t 124 i ≤ 100) →
      ∃ t', LX11_run_45 a1 kk (m + j + 2) (s 22 k) k 1 t = kk (s 22 (wrn S w j k (t 124)).1) ((wrn S w j k (t 124)).1 : Int) t' ∧ EQ t' s s1 v ∧ t' 124 = (wrn S w j k (t 124)).2 := by
  obtain ⟨l1, l2, l3⟩ := h.lfr
  have l0 := h.lf
  have hn := l0.2.1
  have common : ∀ (m k : Nat) (t : Mem), (k : Int) < s 21 0 → EQ t s s1 v → LX11_run_45 a1 kk (m + 1) (s 22 k) k 1 t = if s 21 0 ≤ (k : Int) + 1 then LX11_run_45 a1 kk m (s 22 (k + 1)) ((k : Int) + 1) 0 t else
      bnd (fX11_isSpliced k t) (fun r11 s12 => if r11 = 0 then LX11_run_45 a1 kk m (s 22 (k + 1)) ((k : Int) + 1) 1 s12 else LX11_run_103 a1 (s 22 (k + 1)) ((k : Int) + 1) (fun y20 s19 => rd (s19 124) (k : Int) 48 (fun v21 => (fun k175 : Int → Mem → Option Res => if y20 = 0 then k175 0 s19 else k175 2 s19) (fun (u22 : Int) (s23 : Mem) => (fun v24 : Int => (fun k196 : Int → Mem → Option Res => if 0 ≤ v24 then k196 v24 s23 else k196 0 s23) (fun (u25 : Int) (s26 : Mem) => ST s26 124 (k : Int) 48 u25 (fun s27 => if v24 ≤ 0 then LX11_run_45 a1 kk m (s 22 (k + 1)) ((k : Int) + 1) 0 s27 else LX11_run_45 a1 kk m (s 22 (k + 1)) ((k : Int) + 1) 1 s27))) (wr (wr (v21 - s19 100 8) - u22))))) FU 0 0 s12) := by
    intro m k t hk he
    have f1 := l0.2.2.2 k hk
    dsimp only at f1
    have b1 := l0.bd k (by omega)
    have t106 : t 106 = s 106 := he.1 106 (by omega) (by omega)
    have t108 : t 108 = s 108 := he.1 108 (by omega) (by omega)
    rw [LX11_run_45]
    refine (if_neg (show ¬ ((1 : Int) = 0) by omega)).trans ?_
    rw [wr_ok (x := 16 + (k : Int)) (by omega) (by omega), rd_in (by omega) (by omega), show (16 + (k : Int)).toNat = 16 + k by omega, t108, wr_ok (x := s 22 k + s 108 (16 + k)) (by omega) (by omega), lt_eq, rd_in (by omega) (by omega), show ((1 : Int).toNat) = 1 from rfl, t106, ← l2, ← f1.1, wr_ok (x := (k : Int) + 1) (by omega) (by omega), jn_eq, wr_ok (x := (k : Int) + 1 - 1) (by omega) (by omega), show (k : Int) + 1 - 1 = k by omega]
    by_cases z : s 21 0 ≤ (k : Int) + 1
    · rw [if_pos z, if_pos z]
      exact if_pos rfl
    · rw [if_neg z, if_neg z]
      exact (if_neg (show ¬ ((1 : Int) = 0) by omega)).trans rfl
  intro j
  induction j with
  | zero =>
    intro m k t hk he hb
    refine ⟨t, ?_, he, rfl⟩
    rw [common (m + 1) k t (by omega) he, if_pos (by omega), r_runX]
    unfold wrn
    rw [show (((k + 1 : Nat), t 124) : Nat × (Nat → Int)).1 = k + 1 from rfl, show ((k + 1 : Nat) : Int) = (k : Int) + 1 by omega]
  | succ j ih =>
    intro m k t hk he hb
    have b := hb k (by omega)
    have k1 : (k : Int) + 1 < s 21 0 := by omega
    have t108 : t 108 = s 108 := he.1 108 (by omega) (by omega)
    have rb := h.rb
    have sp := r_isSpliced (n := s 21 0) (st := s 22) t (by rw [t108]; exact l0) (by rw [he.1 119 (by omega) (by omega), he.1 120 (by omega) (by omega)]; exact rb.2.1) k1
    rw [t108, he.1 119 (by omega) (by omega), he.1 120 (by omega) (by omega)] at sp
    simp only [← h.sp k1] at sp
    rw [show m + (j + 1) + 2 = (m + j + 2) + 1 by omega, common (m + j + 2) k t (by omega) he, if_neg (by omega), sp, bnd_some]
    simp only [tv_0]
    unfold wrn
    by_cases z : S k = true
    · have z' : SP (s 32) (s 33) (fun k => s 108 (16 + k)) k := by rw [← hS]; exact z
      rw [if_neg (fun y => y z'), if_pos z]
      obtain ⟨Y, t1, g1, g2, g3, g4, g5⟩ := r_jump h he k1 a1 ((k : Int) + 1) (fun y20 s19 => rd (s19 124) (k : Int) 48 (fun v21 => (fun k175 : Int → Mem → Option Res => if y20 = 0 then k175 0 s19 else k175 2 s19) (fun (u22 : Int) (s23 : Mem) => (fun v24 : Int => (fun k196 : Int → Mem → Option Res => if 0 ≤ v24 then k196 v24 s23 else k196 0 s23) (fun (u25 : Int) (s26 : Mem) => ST s26 124 (k : Int) 48 u25 (fun s27 => if v24 ≤ 0 then LX11_run_45 a1 kk (m + j + 2) (s 22 (k + 1)) ((k : Int) + 1) 0 s27 else LX11_run_45 a1 kk (m + j + 2) (s 22 (k + 1)) ((k : Int) + 1) 1 s27))) (wr (wr (v21 - s19 100 8) - u22)))))
      rw [g1, g5, rd_in (by omega) (by omega), Int.toNat_natCast, g4.2.1 8 (by omega) (by omega) (by omega), e3]
      have hwk := hw k k1
      have fin : ∀ u : Int, w k = r3 + u → (u = 0 ∨ u = 2) → ∃ t', (fun v24 : Int => (fun k196 : Int → Mem → Option Res => if 0 ≤ v24 then k196 v24 t1 else k196 0 t1) (fun (u25 : Int) (s26 : Mem) => ST s26 124 (k : Int) 48 u25 (fun s27 => if v24 ≤ 0 then LX11_run_45 a1 kk (m + j + 2) (s 22 (k + 1)) ((k : Int) + 1) 0 s27 else LX11_run_45 a1 kk (m + j + 2) (s 22 (k + 1)) ((k : Int) + 1) 1 s27))) (wr (wr (t 124 k - r3) - u)) = kk (s 22 ((if t 124 k - w k ≤ 0 then (k + 1, fun i => if i = k then 0 else t 124 i) else wrn S w j (k + 1) (fun i => if i = k then t 124 k - w k else t 124 i)) : Nat × (Nat → Int)).1) (((if t 124 k - w k ≤ 0 then (k + 1, fun i => if i = k then 0 else t 124 i) else wrn S w j (k + 1) (fun i => if i = k then t 124 k - w k else t 124 i)) : Nat × (Nat → Int)).1 : Int) t' ∧ EQ t' s s1 v ∧ t' 124 = ((if t 124 k - w k ≤ 0 then (k + 1, fun i => if i = k then 0 else t 124 i) else wrn S w j (k + 1) (fun i => if i = k then t 124 k - w k else t 124 i)) : Nat × (Nat → Int)).2 := by
        intro u hu hu2
        rw [wr_ok (x := t 124 k - r3) (by omega) (by omega), wr_ok (x := t 124 k - r3 - u) (by omega) (by omega)]
        have ew : t 124 k - w k = t 124 k - r3 - u := by omega
        rw [ew]
        have st : ∀ x : Int, (ST t1 124 (k : Int) 48 x (fun s27 => if t 124 k - r3 - u ≤ 0 then LX11_run_45 a1 kk (m + j + 2) (s 22 (k + 1)) ((k : Int) + 1) 0 s27 else LX11_run_45 a1 kk (m + j + 2) (s 22 (k + 1)) ((k : Int) + 1) 1 s27)) = if t 124 k - r3 - u ≤ 0 then LX11_run_45 a1 kk (m + j + 2) (s 22 (k + 1)) ((k : Int) + 1) 0 (up t1 124 k x) else LX11_run_45 a1 kk (m + j + 2) (s 22 (k + 1)) ((k : Int) + 1) 1 (up t1 124 k x) := fun x => by
          rw [ST_in (by omega) (by omega), Int.toNat_natCast]
        simp only [st]
        by_cases y : t 124 k - r3 - u ≤ 0
        · simp only [if_pos y]
          refine ⟨up t1 124 k 0, ?_, g4.h k 0, ?_⟩
          · have e0 : (if 0 ≤ t 124 k - r3 - u then LX11_run_45 a1 kk (m + j + 2) (s 22 (k + 1)) ((k : Int) + 1) 0 (up t1 124 k (t 124 k - r3 - u)) else LX11_run_45 a1 kk (m + j + 2) (s 22 (k + 1)) ((k : Int) + 1) 0 (up t1 124 k 0)) = LX11_run_45 a1 kk (m + j + 2) (s 22 (k + 1)) ((k : Int) + 1) 0 (up t1 124 k 0) := by
              by_cases y0 : 0 ≤ t 124 k - r3 - u
              · rw [if_pos y0, show t 124 k - r3 - u = 0 by omega]
              · rw [if_neg y0]
            rw [e0]
            exact (r_runX a1 kk (m + j + 1) _ _ _).trans rfl
          · rw [up_eq, g5]
        · simp only [if_neg y]
          rw [if_pos (by omega)]
          obtain ⟨t', q1, q2, q3⟩ := ih m (k + 1) (up t1 124 k (t 124 k - r3 - u)) (by omega) (g4.h k _) (by
            intro i hi
            have := hb i hi
            rw [up_eq, g5]
            dsimp only
            split <;> omega)
          rw [up_eq, g5] at q1 q3
          exact ⟨t', q1, q2, q3⟩
      rcases g2 with y | y
      · simp only [if_pos y]
        exact fin 0 (hwk.elim (fun q => by omega) (fun q => absurd (g3.1 y) q.1)) (Or.inl rfl)
      · simp only [if_neg (show ¬ Y = 0 by omega)]
        exact fin 2 (hwk.elim (fun q => by have := g3.2 q.1; omega) (fun q => q.2)) (Or.inr rfl)
    · have z' : ¬ SP (s 32) (s 33) (fun k => s 108 (16 + k)) k := by rw [← hS]; exact z
      rw [if_pos z', if_neg z]
      exact ih m (k + 1) t (by omega) he hb
