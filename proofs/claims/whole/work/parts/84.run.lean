/-! run -/
def alj (s : Mem) (k : Nat) : Prop := ∀ c, c < 3 → -10 < djp s k c ∧ djp s k c < 10
theorem r_jumpS {n : Nat} {s s1 t : Mem} {v : Int} (h : Rel n s) (he : EQ t s s1 v) {k c : Nat} (hk : (k : Int) + 1 < s 21 0) (hc : c < 3) (a c3 : Int) (kk : Int → Mem → Option Res) (m : Nat) {y : Int} (hy : y = 0 ∨ y = 1) :
    ∃ t', LX11_run_103 a (s 22 (k + 1)) c3 kk (m + 1) y c t = LX11_run_103 a (s 22 (k + 1)) c3 kk m (if y = 0 ∧ -10 < djp s k c ∧ djp s k c < 10 then 0 else 1) (c + 1 : Nat) t' ∧ EQ t' s s1 v ∧ t' 124 = t 124 := by
  have l0 := h.lf
  have hn := l0.2.1
  have f1 := l0.2.2.2 k (by omega)
  have f2 := l0.2.2.2 (k + 1) (by omega)
  dsimp only at f1 f2
  have b1 := l0.bd (k + 1) (by omega)
  have d := h.lts.d hk hc
  have ec : wr ((c : Int) + 1) = ((c + 1 : Nat) : Int) := by rw [wr_ok (by omega) (by omega)]; omega
  rcases hy with hy | hy
  · refine ⟨fdm (fdm t (s 22 (k + 1) - 1 - s 22 k) k) (s 22 (k + 1) - s 22 (k + 1)) (k + 1 : Nat), ?_, (he.fd _ _).fd _ _, by rw [fdm_ne _ _ _ (by omega), fdm_ne _ _ _ (by omega)]⟩
    show (if 3 ≤ (c : Int) then _ else _) = _
    rw [if_neg (by omega), if_neg (by omega), wr_ok (x := s 22 (k + 1) - 1) (by omega) (by omega), r_lightOf h he (q := k) (by omega) hc (by omega) (by omega), bnd_some, r_lightOf h (he.fd _ _) (q := k + 1) (by omega) hc (by omega) (by omega), bnd_some, ec]
    have e1 : s 22 (k + 1) - 1 - s 22 k = s 108 (16 + k) - 1 := by omega
    have e2 : s 22 (k + 1) - s 22 (k + 1) = 0 := by omega
    rw [e1, e2]
    have dd : djp s k c = ltq s (k + 1) 0 c - ltq s k (s 108 (16 + k) - 1) c := rfl
    unfold fX11_size
    rw [wr_ok (x := ltq s k (s 108 (16 + k) - 1) c - ltq s (k + 1) 0 c) (by omega) (by omega)]
    by_cases z : 0 ≤ ltq s k (s 108 (16 + k) - 1) c - ltq s (k + 1) 0 c
    · rw [if_pos z, bnd_some]
      by_cases z2 : ltq s k (s 108 (16 + k) - 1) c - ltq s (k + 1) 0 c < 10
      · rw [if_pos z2, if_pos ⟨hy, by omega, by omega⟩]
      · rw [if_neg z2, if_neg (fun w => by omega)]
    · rw [if_neg z, bnd_some, wr_ok (by omega) (by omega)]
      by_cases z2 : -(ltq s k (s 108 (16 + k) - 1) c - ltq s (k + 1) 0 c) < 10
      · rw [if_pos z2, if_pos ⟨hy, by omega, by omega⟩]
      · rw [if_neg z2, if_neg (fun w => by omega)]
  · refine ⟨t, ?_, he, rfl⟩
    show (if 3 ≤ (c : Int) then _ else _) = _
    rw [if_neg (by omega), if_pos (by omega), if_neg (fun w => by omega), ec]
theorem r_jump {n : Nat} {s s1 t : Mem} {v : Int} (h : Rel n s) (he : EQ t s s1 v) {k : Nat} (hk : (k : Int) + 1 < s 21 0) (a c3 : Int) (kk : Int → Mem → Option Res) :
    ∃ Y t', LX11_run_103 a (s 22 (k + 1)) c3 kk FU 0 0 t = kk Y t' ∧ (Y = 0 ∨ Y = 1) ∧ (Y = 0 ↔ alj s k) ∧ EQ t' s s1 v ∧ t' 124 = t 124 := by
  obtain ⟨F, hF⟩ : ∃ F, FU = F := ⟨_, rfl⟩
  have e : F = (F - 4) + 1 + 1 + 1 + 1 := (by have : F = 1000000 := hF.symm; omega)
  have y01 : ∀ (p : Prop) [Decidable p], (if p then (0 : Int) else 1) = 0 ∨ (if p then (0 : Int) else 1) = 1 := by
    intro p _; split
    · exact Or.inl rfl
    · exact Or.inr rfl
  have y0 : ∀ (p : Prop) [Decidable p], ((if p then (0 : Int) else 1) = 0) = p := by
    intro p _
    by_cases hp : p
    · rw [if_pos hp]; exact propext ⟨fun _ => hp, fun _ => rfl⟩
    · rw [if_neg hp]; exact propext ⟨fun w => absurd w (by omega), fun w => absurd w hp⟩
  obtain ⟨t1, g1, g2, g3⟩ := r_jumpS h he hk (c := 0) (by omega) a c3 kk (F - 4 + 1 + 1 + 1) (y := 0) (Or.inl rfl)
  obtain ⟨Y1, hY1⟩ : ∃ Y1 : Int, Y1 = if (0 : Int) = 0 ∧ -10 < djp s k 0 ∧ djp s k 0 < 10 then 0 else 1 := ⟨_, rfl⟩
  rw [← hY1] at g1
  obtain ⟨t2, k1, k2, k3⟩ := r_jumpS h g2 hk (c := 1) (by omega) a c3 kk (F - 4 + 1 + 1) (y := Y1) (by rw [hY1]; exact y01 _)
  obtain ⟨Y2, hY2⟩ : ∃ Y2 : Int, Y2 = if Y1 = 0 ∧ -10 < djp s k 1 ∧ djp s k 1 < 10 then 0 else 1 := ⟨_, rfl⟩
  rw [← hY2] at k1
  obtain ⟨t3, m1, m2, m3⟩ := r_jumpS h k2 hk (c := 2) (by omega) a c3 kk (F - 4 + 1) (y := Y2) (by rw [hY2]; exact y01 _)
  obtain ⟨Y3, hY3⟩ : ∃ Y3 : Int, Y3 = if Y2 = 0 ∧ -10 < djp s k 2 ∧ djp s k 2 < 10 then 0 else 1 := ⟨_, rfl⟩
  rw [← hY3] at m1
  refine ⟨Y3, t3, ?_, by rw [hY3]; exact y01 _, ?_, m2, by rw [m3, k3, g3]⟩
  · rw [hF, e]
    refine g1.trans (k1.trans (m1.trans ?_))
    rfl
  · rw [hY3, y0, hY2, y0, hY1, y0]
    unfold alj
    constructor
    · intro w c hc
      have : c = 0 ∨ c = 1 ∨ c = 2 := by omega
      rcases this with rfl | rfl | rfl
      · exact w.1.1.2
      · exact w.1.2
      · exact w.2
    · intro w
      exact ⟨⟨⟨rfl, w 0 (by omega)⟩, w 1 (by omega)⟩, w 2 (by omega)⟩
def wrn (S : Nat → Bool) (w : Nat → Int) : Nat → Nat → (Nat → Int) → Nat × (Nat → Int)
  | 0, k, ho => (k + 1, ho)
  | j + 1, k, ho => if S k = true then (if ho k - w k ≤ 0 then (k + 1, fun i => if i = k then 0 else ho i) else wrn S w j (k + 1) (fun i => if i = k then ho k - w k else ho i)) else wrn S w j (k + 1) ho
