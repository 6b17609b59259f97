/-! back -/
theorem back_39 {n : Nat} {s : Mem} (h : Rel n s) (hk : s 0 12 = 1) : ∃ r s1 s2, fX10_back s = some (r, s1) ∧ fX11_back s1 = some (r, s2) ∧ Rel (n + 1) s2 := by
  obtain ⟨h1, h2, h3, h4, h5, h6, h7, h8, h9, h10, h11, h12, h13, h14⟩ := h.mono
  have hk2 : s 100 31 = 1 := by have := h14.1; omega
  obtain ⟨sP, hP⟩ : ∃ x, x = up s 0 12 0 := ⟨_, rfl⟩
  have P1 : ∀ q, q ≠ 0 → sP q = s q := fun q hq => by rw [hP, up_ne _ _ _ _ hq]
  have P0 : sP 0 12 = 0 ∧ sP 0 13 = s 0 13 := by rw [hP, up_at, up_nj _ _ _ _ (by omega)]; exact ⟨rfl, rfl⟩
  have hb : ∀ i, i < 8 → sP 56 i = 0 ∨ sP 56 i = 1 := fun i hi => by rw [P1 56 (by omega)]; have := h9.2.2.1 i hi; omega
  obtain ⟨s1, c1, c2⟩ := c_cf_20_39 sP hb
  obtain ⟨c20, c21, c22, c23, c24, c25, c26, c27⟩ := c2
  simp only [Nat.reduceAdd, P1 40 (by omega), P1 41 (by omega), P1 42 (by omega), P1 43 (by omega), P1 44 (by omega), P1 45 (by omega), P1 46 (by omega), P1 47 (by omega), P1 48 (by omega), P1 49 (by omega), P1 50 (by omega), P1 51 (by omega), P1 52 (by omega), P1 53 (by omega), P1 54 (by omega), P1 55 (by omega), P1 56 (by omega), P1 57 (by omega)] at c20 c21 c22 c23 c24 c25 c26 c27
  have k12 : s1 0 12 = 0 := by rw [c20 0 (by omega)]; exact P0.1
  have S1 : ∀ q, q ≠ 0 → (q < 20 ∨ 38 < q) → s1 q = s q := fun q hq h2 => by rw [c20 q h2, P1 q hq]
  obtain ⟨sA, hA⟩ : ∃ x, x = up s1 100 31 0 := ⟨_, rfl⟩
  have A1 : ∀ q, q ≠ 100 → sA q = s1 q := fun q hq => by rw [hA, up_ne _ _ _ _ hq]
  have A31 : sA 100 31 = 0 := by rw [hA, up_at]
  have A100 : ∀ j, j ≠ 31 → sA 100 j = s 100 j := fun j hj => by rw [hA, up_nj _ _ _ _ hj, S1 100 (by omega) (by omega)]
  have A2 : ∀ q, q ≠ 0 → q ≠ 100 → (q < 20 ∨ 38 < q) → sA q = s q := fun q hq ha h2 => by rw [A1 q ha, S1 q hq h2]
  obtain ⟨sB, d1, d2⟩ := r_copyList (c1 := 2) (c2 := 1) (by omega) (by omega) (by omega) sA
  have B1 : ∀ q, q < 106 ∨ 115 < q → sB q = sA q := d2.1
  obtain ⟨sC, f1, f2⟩ := r_copyShots (c1 := 1) (c2 := 0) (by omega) (by omega) (by omega) sB
  have C1 : ∀ q, q < 117 ∨ 124 < q → sC q = sB q := f2.1
  have B100 : sB 100 = sA 100 := B1 100 (by omega)
  have C100 : sC 100 = sA 100 := by rw [C1 100 (by omega), B100]
  have C125 : sC 125 = s 125 := by rw [C1 125 (by omega), B1 125 (by omega), A2 125 (by omega) (by omega) (by omega)]
  obtain ⟨u, hu⟩ : ∃ u : Int, u = if s 125 0 ≠ 1 then 0 else 1 := ⟨_, rfl⟩
  obtain ⟨sF, hF⟩ : ∃ x, x = up sC 100 19 u := ⟨_, rfl⟩
  have lo := fun j (hj : j ≠ 1) => d2.out (s := s) (fun q hq => A2 q (by omega) (by omega) (by omega)) hj
  have li := d2.ins (s := s) (fun q hq => A2 q (by omega) (by omega) (by omega))
  have so := fun j (hj : j ≠ 0) => f2.out (s := s) (fun q hq => by rw [B1 q (by omega), A2 q (by omega) (by omega) (by omega)]) hj
  have si := f2.ins (s := s) (fun q hq => by rw [B1 q (by omega), A2 q (by omega) (by omega) (by omega)])
  have hu2 : u = 0 ∨ u = 1 := by rw [hu]; split <;> omega
  refine ⟨0, s1, sF, ?_, ?_, ?_⟩
  · unfold fX10_back
    rw [hk, if_pos (by omega), show wr (1 - 1) = 0 from rfl, lt_eq, ← hP, P0.1, if_neg (by omega), c1, bnd_some, k12]
  · unfold fX11_back
    rw [S1 100 (by omega) (by omega), hk2, if_pos (by omega), show wr (1 - 1) = 0 from rfl, lt_eq, ← hA, A31, show wr (2 + 0) = 2 from rfl]
    have d1' : fX11_copyList 2 1 sA = some (0, sB) := d1
    have f1' : fX11_copyShots 1 0 sB = some (0, sC) := f1
    rw [d1', bnd_some, B100, A31, show wr (1 + 0) = 1 from rfl, f1', bnd_some, C100, A31, C125, rd_in (by omega) (by omega), jn_eq, show ((0 : Int).toNat) = 0 from rfl]
    have fin : ∀ w : Int, w = u → (zp w (lt (up sC 100 19 w) fun s9 => some (s9 100 31, s9))) = some (0, sF) := by
      intro w hw
      rw [hw]
      unfold zp
      rw [if_pos hu2, lt_eq, up_nj _ _ _ _ (by omega), C100, A31, ← hF]
    by_cases z : s 125 0 ≠ 1
    · rw [if_pos z]; exact fin 0 (by rw [hu, if_pos z])
    · rw [if_neg z]; exact fin 1 (by rw [hu, if_neg z])
  · have E1 : ∀ q, q ≠ 0 → q ≠ 100 → (q < 20 ∨ 38 < q) → (q < 106 ∨ (115 < q ∧ q < 117) ∨ 124 < q) → sF q = s q := fun q a b c d => by rw [hF, up_ne _ _ _ _ b, C1 q (by omega), B1 q (by omega), A2 q a b c]
    have E2 : ∀ q, 20 ≤ q → q ≤ 38 → sF q = s1 q := fun q a b => by rw [hF, up_ne _ _ _ _ (by omega), C1 q (by omega), B1 q (by omega), A1 q (by omega)]
    have E3 : ∀ q, 106 ≤ q → q ≤ 115 → sF q = sB q := fun q a b => by rw [hF, up_ne _ _ _ _ (by omega), C1 q (by omega)]
    have E4 : ∀ q, 117 ≤ q → q ≤ 124 → sF q = sC q := fun q a b => by rw [hF, up_ne _ _ _ _ (by omega)]
    have E5 : ∀ j, j ≠ 31 → j ≠ 19 → sF 100 j = s 100 j := fun j hj h2 => by rw [hF, up_nj _ _ _ _ h2, C100, A100 j hj]
    have E6 : sF 100 31 = 0 ∧ sF 100 19 = u := by rw [hF, up_nj _ _ _ _ (by omega), up_at, C100, A31]; exact ⟨rfl, rfl⟩
    have E7 : sF 0 12 = 0 ∧ sF 0 13 = s 0 13 := by
      rw [hF, up_ne _ _ _ _ (by omega), C1 0 (by omega), B1 0 (by omega), A1 0 (by omega), c20 0 (by omega)]
      exact P0
    unfold Rel
    rw [E6.1, E6.2, E7.1, E7.2, E5 5 (by omega) (by omega), E5 6 (by omega) (by omega), E5 7 (by omega) (by omega), E5 8 (by omega) (by omega), E5 20 (by omega) (by omega), E5 32 (by omega) (by omega), E5 38 (by omega) (by omega), E5 42 (by omega) (by omega)]
    simp (disch := omega) only [E1, E2, E3, E4]
    obtain ⟨p1, p2, p3, p4, p5, p6, p7, p8⟩ := h14
    have hL : RLd u (s 106 2) := by
      rw [hu]
      have q := p7 (by omega)
      rcases q with ⟨a, b⟩ | ⟨a, b⟩
      · rw [if_pos (by omega)]; exact Or.inl ⟨rfl, b⟩
      · rw [if_neg (by omega)]; exact Or.inr ⟨rfl, b⟩
    refine ⟨h1, h2, h3, h4.to ⟨rfl, rfl, (lo 0 (by omega)).1.1, (lo 0 (by omega)).1.2⟩ (fun _ _ => rfl) (fun _ _ => ⟨rfl, rfl⟩) (fun _ _ => ⟨rfl, rfl⟩) (fun _ _ => ⟨rfl, rfl, rfl⟩) (lo 0 (by omega)).2.1 (lo 0 (by omega)).2.2.1 (lo 0 (by omega)).2.2.2, h6.to ⟨c21.1, c21.2, li.1.1, li.1.2⟩ c22 (fun i hi => ⟨(c23 i hi).1, (c23 i hi).2.1⟩) (fun i hi => ⟨(c24 i hi).1, (c24 i hi).2.1⟩) c25 li.2.1 li.2.2.1 li.2.2.2, h6.to ⟨rfl, rfl, (lo 2 (by omega)).1.1, (lo 2 (by omega)).1.2⟩ (fun _ _ => rfl) (fun _ _ => ⟨rfl, rfl⟩) (fun _ _ => ⟨rfl, rfl⟩) (fun _ _ => ⟨rfl, rfl, rfl⟩) (lo 2 (by omega)).2.1 (lo 2 (by omega)).2.2.1 (lo 2 (by omega)).2.2.2, h7.to ⟨rfl, rfl, (lo 3 (by omega)).1.1, (lo 3 (by omega)).1.2⟩ (fun _ _ => rfl) (fun _ _ => ⟨rfl, rfl⟩) (fun _ _ => ⟨rfl, rfl⟩) (fun _ _ => ⟨rfl, rfl, rfl⟩) (lo 3 (by omega)).2.1 (lo 3 (by omega)).2.2.1 (lo 3 (by omega)).2.2.2, h9.to c21.1 (fun i hi => (c23 i hi).2.2) (fun i hi => (c24 i hi).2.2) c26 c27 si.1 si.2.1 si.2.2, h9.to rfl (fun _ _ => ⟨rfl, rfl⟩) (fun _ _ => ⟨rfl, rfl⟩) (fun _ _ => ⟨rfl, rfl, rfl⟩) (fun _ _ => rfl) (so 1 (by omega)).1 (so 1 (by omega)).2.1 (so 1 (by omega)).2.2, h10.to rfl (fun _ _ => ⟨rfl, rfl⟩) (fun _ _ => ⟨rfl, rfl⟩) (fun _ _ => ⟨rfl, rfl, rfl⟩) (fun _ _ => rfl) (so 2 (by omega)).1 (so 2 (by omega)).2.1 (so 2 (by omega)).2.2, h11, h12, by rw [li.1.1]; exact hL, ?_⟩
    refine ⟨rfl, by omega, by omega, p4, p5, by omega, fun z => ?_, fun z => ?_⟩
    · exact absurd z (by omega)
    · exact absurd z (by omega)
theorem back_58 {n : Nat} {s : Mem} (h : Rel n s) (hk : s 0 12 = 2) : ∃ r s1 s2, fX10_back s = some (r, s1) ∧ fX11_back s1 = some (r, s2) ∧ Rel (n + 1) s2 := by
  obtain ⟨h1, h2, h3, h4, h5, h6, h7, h8, h9, h10, h11, h12, h13, h14⟩ := h.mono
  have hk2 : s 100 31 = 2 := by have := h14.1; omega
  obtain ⟨sP, hP⟩ : ∃ x, x = up s 0 12 1 := ⟨_, rfl⟩
  have P1 : ∀ q, q ≠ 0 → sP q = s q := fun q hq => by rw [hP, up_ne _ _ _ _ hq]
  have P0 : sP 0 12 = 1 ∧ sP 0 13 = s 0 13 := by rw [hP, up_at, up_nj _ _ _ _ (by omega)]; exact ⟨rfl, rfl⟩
  have hb : ∀ i, i < 8 → sP 75 i = 0 ∨ sP 75 i = 1 := fun i hi => by rw [P1 75 (by omega)]; have := h10.2.2.1 i hi; omega
  obtain ⟨s1, c1, c2⟩ := c_cf_20_58 sP hb
  obtain ⟨c20, c21, c22, c23, c24, c25, c26, c27⟩ := c2
  simp only [Nat.reduceAdd, P1 59 (by omega), P1 60 (by omega), P1 61 (by omega), P1 62 (by omega), P1 63 (by omega), P1 64 (by omega), P1 65 (by omega), P1 66 (by omega), P1 67 (by omega), P1 68 (by omega), P1 69 (by omega), P1 70 (by omega), P1 71 (by omega), P1 72 (by omega), P1 73 (by omega), P1 74 (by omega), P1 75 (by omega), P1 76 (by omega)] at c20 c21 c22 c23 c24 c25 c26 c27
  have k12 : s1 0 12 = 1 := by rw [c20 0 (by omega)]; exact P0.1
  have S1 : ∀ q, q ≠ 0 → (q < 20 ∨ 38 < q) → s1 q = s q := fun q hq h2 => by rw [c20 q h2, P1 q hq]
  obtain ⟨sA, hA⟩ : ∃ x, x = up s1 100 31 1 := ⟨_, rfl⟩
  have A1 : ∀ q, q ≠ 100 → sA q = s1 q := fun q hq => by rw [hA, up_ne _ _ _ _ hq]
  have A31 : sA 100 31 = 1 := by rw [hA, up_at]
  have A100 : ∀ j, j ≠ 31 → sA 100 j = s 100 j := fun j hj => by rw [hA, up_nj _ _ _ _ hj, S1 100 (by omega) (by omega)]
  have A2 : ∀ q, q ≠ 0 → q ≠ 100 → (q < 20 ∨ 38 < q) → sA q = s q := fun q hq ha h2 => by rw [A1 q ha, S1 q hq h2]
  obtain ⟨sB, d1, d2⟩ := r_copyList (c1 := 3) (c2 := 1) (by omega) (by omega) (by omega) sA
  have B1 : ∀ q, q < 106 ∨ 115 < q → sB q = sA q := d2.1
  obtain ⟨sC, f1, f2⟩ := r_copyShots (c1 := 2) (c2 := 0) (by omega) (by omega) (by omega) sB
  have C1 : ∀ q, q < 117 ∨ 124 < q → sC q = sB q := f2.1
  have B100 : sB 100 = sA 100 := B1 100 (by omega)
  have C100 : sC 100 = sA 100 := by rw [C1 100 (by omega), B100]
  have C125 : sC 125 = s 125 := by rw [C1 125 (by omega), B1 125 (by omega), A2 125 (by omega) (by omega) (by omega)]
  obtain ⟨u, hu⟩ : ∃ u : Int, u = if s 125 1 ≠ 1 then 0 else 1 := ⟨_, rfl⟩
  obtain ⟨sF, hF⟩ : ∃ x, x = up sC 100 19 u := ⟨_, rfl⟩
  have lo := fun j (hj : j ≠ 1) => d2.out (s := s) (fun q hq => A2 q (by omega) (by omega) (by omega)) hj
  have li := d2.ins (s := s) (fun q hq => A2 q (by omega) (by omega) (by omega))
  have so := fun j (hj : j ≠ 0) => f2.out (s := s) (fun q hq => by rw [B1 q (by omega), A2 q (by omega) (by omega) (by omega)]) hj
  have si := f2.ins (s := s) (fun q hq => by rw [B1 q (by omega), A2 q (by omega) (by omega) (by omega)])
  have hu2 : u = 0 ∨ u = 1 := by rw [hu]; split <;> omega
  refine ⟨1, s1, sF, ?_, ?_, ?_⟩
  · unfold fX10_back
    rw [hk, if_pos (by omega), show wr (2 - 1) = 1 from rfl, lt_eq, ← hP, P0.1, if_pos (by omega), c1, bnd_some, k12]
  · unfold fX11_back
    rw [S1 100 (by omega) (by omega), hk2, if_pos (by omega), show wr (2 - 1) = 1 from rfl, lt_eq, ← hA, A31, show wr (2 + 1) = 3 from rfl]
    have d1' : fX11_copyList 3 1 sA = some (0, sB) := d1
    have f1' : fX11_copyShots 2 0 sB = some (0, sC) := f1
    rw [d1', bnd_some, B100, A31, show wr (1 + 1) = 2 from rfl, f1', bnd_some, C100, A31, C125, rd_in (by omega) (by omega), jn_eq, show ((1 : Int).toNat) = 1 from rfl]
    have fin : ∀ w : Int, w = u → (zp w (lt (up sC 100 19 w) fun s9 => some (s9 100 31, s9))) = some (1, sF) := by
      intro w hw
      rw [hw]
      unfold zp
      rw [if_pos hu2, lt_eq, up_nj _ _ _ _ (by omega), C100, A31, ← hF]
    by_cases z : s 125 1 ≠ 1
    · rw [if_pos z]; exact fin 0 (by rw [hu, if_pos z])
    · rw [if_neg z]; exact fin 1 (by rw [hu, if_neg z])
  · have E1 : ∀ q, q ≠ 0 → q ≠ 100 → (q < 20 ∨ 38 < q) → (q < 106 ∨ (115 < q ∧ q < 117) ∨ 124 < q) → sF q = s q := fun q a b c d => by rw [hF, up_ne _ _ _ _ b, C1 q (by omega), B1 q (by omega), A2 q a b c]
    have E2 : ∀ q, 20 ≤ q → q ≤ 38 → sF q = s1 q := fun q a b => by rw [hF, up_ne _ _ _ _ (by omega), C1 q (by omega), B1 q (by omega), A1 q (by omega)]
    have E3 : ∀ q, 106 ≤ q → q ≤ 115 → sF q = sB q := fun q a b => by rw [hF, up_ne _ _ _ _ (by omega), C1 q (by omega)]
    have E4 : ∀ q, 117 ≤ q → q ≤ 124 → sF q = sC q := fun q a b => by rw [hF, up_ne _ _ _ _ (by omega)]
    have E5 : ∀ j, j ≠ 31 → j ≠ 19 → sF 100 j = s 100 j := fun j hj h2 => by rw [hF, up_nj _ _ _ _ h2, C100, A100 j hj]
    have E6 : sF 100 31 = 1 ∧ sF 100 19 = u := by rw [hF, up_nj _ _ _ _ (by omega), up_at, C100, A31]; exact ⟨rfl, rfl⟩
    have E7 : sF 0 12 = 1 ∧ sF 0 13 = s 0 13 := by
      rw [hF, up_ne _ _ _ _ (by omega), C1 0 (by omega), B1 0 (by omega), A1 0 (by omega), c20 0 (by omega)]
      exact P0
    unfold Rel
    rw [E6.1, E6.2, E7.1, E7.2, E5 5 (by omega) (by omega), E5 6 (by omega) (by omega), E5 7 (by omega) (by omega), E5 8 (by omega) (by omega), E5 20 (by omega) (by omega), E5 32 (by omega) (by omega), E5 38 (by omega) (by omega), E5 42 (by omega) (by omega)]
    simp (disch := omega) only [E1, E2, E3, E4]
    obtain ⟨p1, p2, p3, p4, p5, p6, p7, p8⟩ := h14
    have hL : RLd u (s 106 3) := by
      rw [hu]
      have q := p8 (by omega)
      rcases q with ⟨a, b⟩ | ⟨a, b⟩
      · rw [if_pos (by omega)]; exact Or.inl ⟨rfl, b⟩
      · rw [if_neg (by omega)]; exact Or.inr ⟨rfl, b⟩
    refine ⟨h1, h2, h3, h4.to ⟨rfl, rfl, (lo 0 (by omega)).1.1, (lo 0 (by omega)).1.2⟩ (fun _ _ => rfl) (fun _ _ => ⟨rfl, rfl⟩) (fun _ _ => ⟨rfl, rfl⟩) (fun _ _ => ⟨rfl, rfl, rfl⟩) (lo 0 (by omega)).2.1 (lo 0 (by omega)).2.2.1 (lo 0 (by omega)).2.2.2, h7.to ⟨c21.1, c21.2, li.1.1, li.1.2⟩ c22 (fun i hi => ⟨(c23 i hi).1, (c23 i hi).2.1⟩) (fun i hi => ⟨(c24 i hi).1, (c24 i hi).2.1⟩) c25 li.2.1 li.2.2.1 li.2.2.2, h6.to ⟨rfl, rfl, (lo 2 (by omega)).1.1, (lo 2 (by omega)).1.2⟩ (fun _ _ => rfl) (fun _ _ => ⟨rfl, rfl⟩) (fun _ _ => ⟨rfl, rfl⟩) (fun _ _ => ⟨rfl, rfl, rfl⟩) (lo 2 (by omega)).2.1 (lo 2 (by omega)).2.2.1 (lo 2 (by omega)).2.2.2, h7.to ⟨rfl, rfl, (lo 3 (by omega)).1.1, (lo 3 (by omega)).1.2⟩ (fun _ _ => rfl) (fun _ _ => ⟨rfl, rfl⟩) (fun _ _ => ⟨rfl, rfl⟩) (fun _ _ => ⟨rfl, rfl, rfl⟩) (lo 3 (by omega)).2.1 (lo 3 (by omega)).2.2.1 (lo 3 (by omega)).2.2.2, h10.to c21.1 (fun i hi => (c23 i hi).2.2) (fun i hi => (c24 i hi).2.2) c26 c27 si.1 si.2.1 si.2.2, h9.to rfl (fun _ _ => ⟨rfl, rfl⟩) (fun _ _ => ⟨rfl, rfl⟩) (fun _ _ => ⟨rfl, rfl, rfl⟩) (fun _ _ => rfl) (so 1 (by omega)).1 (so 1 (by omega)).2.1 (so 1 (by omega)).2.2, h10.to rfl (fun _ _ => ⟨rfl, rfl⟩) (fun _ _ => ⟨rfl, rfl⟩) (fun _ _ => ⟨rfl, rfl, rfl⟩) (fun _ _ => rfl) (so 2 (by omega)).1 (so 2 (by omega)).2.1 (so 2 (by omega)).2.2, h11, h12, by rw [li.1.1]; exact hL, ?_⟩
    refine ⟨rfl, by omega, by omega, p4, p5, by omega, fun z => ?_, fun z => ?_⟩
    · rw [(lo 2 (by omega)).1.1]; exact p7 (by omega)
    · exact absurd z (by omega)
theorem op_back : OP fX10_back fX11_back := by
  intro n s hn h
  have e : s 0 12 = s 100 31 ∧ 0 ≤ s 0 12 ∧ s 0 12 ≤ 2 := by
    obtain ⟨-, -, -, -, -, -, -, -, -, -, -, -, -, h14⟩ := h
    exact ⟨h14.1, h14.2.1, h14.2.2.1⟩
  by_cases z0 : s 0 12 = 1
  · exact back_39 h z0
  by_cases z1 : s 0 12 = 2
  · exact back_58 h z1
  refine OP.same h (r := -2) ?_ ?_
  · unfold fX10_back; rw [if_neg (by omega)]
  · unfold fX11_back; rw [if_neg (by omega)]
