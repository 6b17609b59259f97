/-! keep, back -/
theorem CLD.out {c1 c2 j : Nat} {s t s' : Mem} (H : CLD c1 c2 t s') (ht : ∀ q, 106 ≤ q → t q = s q) (h : j ≠ c2) : (s' 106 j = s 106 j ∧ s' 107 j = s 107 j) ∧ (∀ k, k < 16 → s' 108 (16 * j + k) = s 108 (16 * j + k) ∧ s' 110 (16 * j + k) = s 110 (16 * j + k) ∧ s' 112 (16 * j + k) = s 112 (16 * j + k)) ∧ (∀ k, k < 48 → s' 109 (48 * j + k) = s 109 (48 * j + k) ∧ s' 111 (48 * j + k) = s 111 (48 * j + k)) ∧
    (∀ k, k < 64 → s' 113 (64 * j + k) = s 113 (64 * j + k) ∧ s' 114 (64 * j + k) = s 114 (64 * j + k) ∧ s' 115 (64 * j + k) = s 115 (64 * j + k)) := by
  obtain ⟨-, -, a2, a3, a4, a5, a6, a7, a8, a9, a10⟩ := H
  refine ⟨?_, fun k hk => ?_, fun k hk => ?_, fun k hk => ?_⟩
  · rw [(a2 j h).1, (a2 j h).2, ht _ (by omega), ht _ (by omega)]; exact ⟨rfl, rfl⟩
  · rw [a3, a4, a5, blk_out (by omega), blk_out (by omega), blk_out (by omega), ht _ (by omega), ht _ (by omega), ht _ (by omega)]; exact ⟨rfl, rfl, rfl⟩
  · rw [a6, a7, blk_out (by omega), blk_out (by omega), ht _ (by omega), ht _ (by omega)]; exact ⟨rfl, rfl⟩
  · rw [a8, a9, a10, blk_out (by omega), blk_out (by omega), blk_out (by omega), ht _ (by omega), ht _ (by omega), ht _ (by omega)]; exact ⟨rfl, rfl, rfl⟩
theorem CLD.ins {c1 c2 : Nat} {s t s' : Mem} (H : CLD c1 c2 t s') (ht : ∀ q, 106 ≤ q → t q = s q) : (s' 106 c2 = s 106 c1 ∧ s' 107 c2 = s 107 c1) ∧ (∀ k, k < 16 → s' 108 (16 * c2 + k) = s 108 (16 * c1 + k) ∧ s' 110 (16 * c2 + k) = s 110 (16 * c1 + k) ∧ s' 112 (16 * c2 + k) = s 112 (16 * c1 + k)) ∧ (∀ k, k < 48 → s' 109 (48 * c2 + k) = s 109 (48 * c1 + k) ∧ s' 111 (48 * c2 + k) = s 111 (48 * c1 + k)) ∧
    (∀ k, k < 64 → s' 113 (64 * c2 + k) = s 113 (64 * c1 + k) ∧ s' 114 (64 * c2 + k) = s 114 (64 * c1 + k) ∧ s' 115 (64 * c2 + k) = s 115 (64 * c1 + k)) := by
  obtain ⟨-, a1, -, a3, a4, a5, a6, a7, a8, a9, a10⟩ := H
  refine ⟨?_, fun k hk => ?_, fun k hk => ?_, fun k hk => ?_⟩
  · rw [a1.1, a1.2, ht _ (by omega), ht _ (by omega)]; exact ⟨rfl, rfl⟩
  · rw [a3, a4, a5, blk_in hk, blk_in hk, blk_in hk, ht _ (by omega), ht _ (by omega), ht _ (by omega)]; exact ⟨rfl, rfl, rfl⟩
  · rw [a6, a7, blk_in hk, blk_in hk, ht _ (by omega), ht _ (by omega)]; exact ⟨rfl, rfl⟩
  · rw [a8, a9, a10, blk_in hk, blk_in hk, blk_in hk, ht _ (by omega), ht _ (by omega), ht _ (by omega)]; exact ⟨rfl, rfl, rfl⟩
theorem CSD.out {c1 c2 j : Nat} {s t s' : Mem} (H : CSD c1 c2 t s') (ht : ∀ q, 117 ≤ q → t q = s q) (h : j ≠ c2) : (∀ k, k < 48 → s' 117 (48 * j + k) = s 117 (48 * j + k) ∧ s' 118 (48 * j + k) = s 118 (48 * j + k)) ∧ (∀ k, k < 16 → s' 119 (16 * j + k) = s 119 (16 * j + k) ∧ s' 120 (16 * j + k) = s 120 (16 * j + k) ∧ s' 124 (16 * j + k) = s 124 (16 * j + k)) ∧
    (∀ k, k < 8 → s' 121 (8 * j + k) = s 121 (8 * j + k) ∧ s' 122 (8 * j + k) = s 122 (8 * j + k) ∧ s' 123 (8 * j + k) = s 123 (8 * j + k)) := by
  obtain ⟨-, a6, a7, a3, a4, a5, a8, a9, a10⟩ := H
  refine ⟨fun k hk => ?_, fun k hk => ?_, fun k hk => ?_⟩
  · rw [a6, a7, blk_out (by omega), blk_out (by omega), ht _ (by omega), ht _ (by omega)]; exact ⟨rfl, rfl⟩
  · rw [a3, a4, a5, blk_out (by omega), blk_out (by omega), blk_out (by omega), ht _ (by omega), ht _ (by omega), ht _ (by omega)]; exact ⟨rfl, rfl, rfl⟩
  · rw [a8, a9, a10, blk_out (by omega), blk_out (by omega), blk_out (by omega), ht _ (by omega), ht _ (by omega), ht _ (by omega)]; exact ⟨rfl, rfl, rfl⟩
theorem CSD.ins {c1 c2 : Nat} {s t s' : Mem} (H : CSD c1 c2 t s') (ht : ∀ q, 117 ≤ q → t q = s q) : (∀ k, k < 48 → s' 117 (48 * c2 + k) = s 117 (48 * c1 + k) ∧ s' 118 (48 * c2 + k) = s 118 (48 * c1 + k)) ∧ (∀ k, k < 16 → s' 119 (16 * c2 + k) = s 119 (16 * c1 + k) ∧ s' 120 (16 * c2 + k) = s 120 (16 * c1 + k) ∧ s' 124 (16 * c2 + k) = s 124 (16 * c1 + k)) ∧
    (∀ k, k < 8 → s' 121 (8 * c2 + k) = s 121 (8 * c1 + k) ∧ s' 122 (8 * c2 + k) = s 122 (8 * c1 + k) ∧ s' 123 (8 * c2 + k) = s 123 (8 * c1 + k)) := by
  obtain ⟨-, a6, a7, a3, a4, a5, a8, a9, a10⟩ := H
  refine ⟨fun k hk => ?_, fun k hk => ?_, fun k hk => ?_⟩
  · rw [a6, a7, blk_in hk, blk_in hk, ht _ (by omega), ht _ (by omega)]; exact ⟨rfl, rfl⟩
  · rw [a3, a4, a5, blk_in hk, blk_in hk, blk_in hk, ht _ (by omega), ht _ (by omega), ht _ (by omega)]; exact ⟨rfl, rfl, rfl⟩
  · rw [a8, a9, a10, blk_in hk, blk_in hk, blk_in hk, ht _ (by omega), ht _ (by omega), ht _ (by omega)]; exact ⟨rfl, rfl, rfl⟩
theorem keep_39 {n : Nat} {s : Mem} (h : Rel n s) (hk : s 0 12 = 0) : ∃ r s1 s2, fX10_keep s = some (r, s1) ∧ fX11_keep s1 = some (r, s2) ∧ Rel (n + 1) s2 := by
  obtain ⟨h1, h2, h3, h4, h5, h6, h7, h8, h9, h10, h11, h12, h13, h14⟩ := h.mono
  have hk2 : s 100 31 = 0 := by have := h14.1; omega
  have hb : ∀ i, i < 8 → s 37 i = 0 ∨ s 37 i = 1 := fun i hi => by have := h8.2.2.1 i hi; omega
  obtain ⟨s1, c1, c2⟩ := c_cf_39_20 s hb
  obtain ⟨c20, c21, c22, c23, c24, c25, c26, c27⟩ := c2
  simp only [Nat.reduceAdd] at c20 c21 c22 c23 c24 c25 c26 c27
  have k12 : s1 0 12 = 0 := by rw [c20 0 (by omega)]; exact hk
  obtain ⟨sA, hA⟩ : ∃ x, x = up s1 0 12 1 := ⟨_, rfl⟩
  have A1 : ∀ q, q ≠ 0 → sA q = s1 q := fun q hq => by rw [hA, up_ne _ _ _ _ hq]
  have A2 : ∀ q, q ≠ 0 → (q < 39 ∨ 57 < q) → sA q = s q := fun q hq h2 => by rw [A1 q hq, c20 q h2]
  obtain ⟨sB, d1, d2⟩ := r_copyList (c1 := 1) (c2 := 2) (by omega) (by omega) (by omega) sA
  have B1 : ∀ q, q < 106 ∨ 115 < q → sB q = sA q := d2.1
  obtain ⟨sC, f1, f2⟩ := r_copyShots (c1 := 0) (c2 := 1) (by omega) (by omega) (by omega) sB
  have C1 : ∀ q, q < 117 ∨ 124 < q → sC q = sB q := f2.1
  obtain ⟨u, hu⟩ : ∃ u : Int, u = if s 100 19 = 0 then 0 else 1 := ⟨_, rfl⟩
  obtain ⟨sF, hF⟩ : ∃ x, x = up (up sC 125 0 u) 100 31 1 := ⟨_, rfl⟩
  have C100 : sC 100 = s 100 := by rw [C1 100 (by omega), B1 100 (by omega), A2 100 (by omega) (by omega)]
  have A100 : sA 100 = s 100 := A2 100 (by omega) (by omega)
  have B100 : sB 100 = s 100 := by rw [B1 100 (by omega), A100]
  have lo := fun j (hj : j ≠ 2) => d2.out (s := s) (fun q hq => A2 q (by omega) (by omega)) hj
  have li := d2.ins (s := s) (fun q hq => A2 q (by omega) (by omega))
  have so := fun j (hj : j ≠ 1) => f2.out (s := s) (fun q hq => by rw [B1 q (by omega), A2 q (by omega) (by omega)]) hj
  have si := f2.ins (s := s) (fun q hq => by rw [B1 q (by omega), A2 q (by omega) (by omega)])
  refine ⟨1, sA, sF, ?_, ?_, ?_⟩
  · unfold fX10_keep
    rw [hk, if_pos (by omega), if_neg (by omega), c1, bnd_some, k12, show wr (0 + 1) = 1 from rfl, lt_eq, ← hA, hA, up_at]
  · unfold fX11_keep
    rw [A100, hk2, if_pos (by omega), show wr (2 + 0) = 2 from rfl]
    have d1' : fX11_copyList 1 2 sA = some (0, sB) := d1
    have f1' : fX11_copyShots 0 1 sB = some (0, sC) := f1
    rw [d1', bnd_some, B100, hk2, show wr (1 + 0) = 1 from rfl, f1', bnd_some, jn_eq, C100, hk2]
    have fin : ∀ w : Int, w = u → (ST sC 125 0 2 w fun s7 => lt (up s7 100 31 (wr (s7 100 31 + 1))) fun s8 => some (s8 100 31, s8)) = some (1, sF) := by
      intro w hw
      rw [hw, ST_in (by omega) (by omega), show ((0 : Int).toNat) = 0 from rfl, up_ne _ _ _ _ (by omega), C100, hk2, show wr (0 + 1) = 1 from rfl, lt_eq, up_at, ← hF]
    by_cases z : s 100 19 = 0
    · rw [if_pos z]; exact fin 0 (by rw [hu, if_pos z])
    · rw [if_neg z]; exact fin 1 (by rw [hu, if_neg z])
  · have E1 : ∀ q, q ≠ 0 → q ≠ 100 → (q < 39 ∨ 57 < q) → (q < 106 ∨ (115 < q ∧ q < 117) ∨ 125 < q) → sF q = s q := fun q a b c d => by rw [hF, up_ne _ _ _ _ b, up_ne _ _ _ _ (by omega), C1 q (by omega), B1 q (by omega), A2 q a c]
    have E2 : ∀ q, 39 ≤ q → q ≤ 57 → sF q = s1 q := fun q a b => by rw [hF, up_ne _ _ _ _ (by omega), up_ne _ _ _ _ (by omega), C1 q (by omega), B1 q (by omega), A1 q (by omega)]
    have E3 : ∀ q, 106 ≤ q → q ≤ 115 → sF q = sB q := fun q a b => by rw [hF, up_ne _ _ _ _ (by omega), up_ne _ _ _ _ (by omega), C1 q (by omega)]
    have E4 : ∀ q, 117 ≤ q → q ≤ 124 → sF q = sC q := fun q a b => by rw [hF, up_ne _ _ _ _ (by omega), up_ne _ _ _ _ (by omega)]
    have E5 : ∀ j, j ≠ 31 → sF 100 j = s 100 j := fun j hj => by rw [hF, up_nj _ _ _ _ hj, up_ne _ _ _ _ (by omega), C100]
    have E6 : sF 100 31 = 1 := by rw [hF, up_at]
    have E7 : sF 0 12 = 1 ∧ sF 0 13 = s 0 13 := by
      rw [hF, up_ne _ _ _ _ (by omega), up_ne _ _ _ _ (by omega), C1 0 (by omega), B1 0 (by omega), hA, up_at, up_nj _ _ _ _ (by omega), c20 0 (by omega)]
      exact ⟨rfl, rfl⟩
    have E8 : sF 125 0 = u ∧ sF 125 1 = s 125 1 := by
      rw [hF, up_ne _ _ _ _ (by omega), up_at, up_nj _ _ _ _ (by omega), C1 125 (by omega), B1 125 (by omega), A2 125 (by omega) (by omega)]
      exact ⟨rfl, rfl⟩
    have L1 := (lo 1 (by omega)).1.1
    unfold Rel
    rw [E6, E7.1, E7.2, E5 5 (by omega), E5 6 (by omega), E5 7 (by omega), E5 8 (by omega), E5 19 (by omega), E5 20 (by omega), E5 32 (by omega), E5 38 (by omega), E5 42 (by omega)]
    have E9 : ∃ w, w = sF 125 := ⟨_, rfl⟩
    obtain ⟨w, hw⟩ := E9
    rw [← hw] at E8 ⊢
    simp (disch := omega) only [E1, E2, E3, E4]
    refine ⟨h1, h2, h3, h4.to ⟨rfl, rfl, (lo 0 (by omega)).1.1, (lo 0 (by omega)).1.2⟩ (fun _ _ => rfl) (fun _ _ => ⟨rfl, rfl⟩) (fun _ _ => ⟨rfl, rfl⟩) (fun _ _ => ⟨rfl, rfl, rfl⟩) (lo 0 (by omega)).2.1 (lo 0 (by omega)).2.2.1 (lo 0 (by omega)).2.2.2, h5.to ⟨rfl, rfl, (lo 1 (by omega)).1.1, (lo 1 (by omega)).1.2⟩ (fun _ _ => rfl) (fun _ _ => ⟨rfl, rfl⟩) (fun _ _ => ⟨rfl, rfl⟩) (fun _ _ => ⟨rfl, rfl, rfl⟩) (lo 1 (by omega)).2.1 (lo 1 (by omega)).2.2.1 (lo 1 (by omega)).2.2.2, h5.to ⟨c21.1, c21.2, li.1.1, li.1.2⟩ c22 (fun i hi => ⟨(c23 i hi).1, (c23 i hi).2.1⟩) (fun i hi => ⟨(c24 i hi).1, (c24 i hi).2.1⟩) c25 li.2.1 li.2.2.1 li.2.2.2, h7.to ⟨rfl, rfl, (lo 3 (by omega)).1.1, (lo 3 (by omega)).1.2⟩ (fun _ _ => rfl) (fun _ _ => ⟨rfl, rfl⟩) (fun _ _ => ⟨rfl, rfl⟩) (fun _ _ => ⟨rfl, rfl, rfl⟩) (lo 3 (by omega)).2.1 (lo 3 (by omega)).2.2.1 (lo 3 (by omega)).2.2.2, h8.to rfl (fun _ _ => ⟨rfl, rfl⟩) (fun _ _ => ⟨rfl, rfl⟩) (fun _ _ => ⟨rfl, rfl, rfl⟩) (fun _ _ => rfl) (so 0 (by omega)).1 (so 0 (by omega)).2.1 (so 0 (by omega)).2.2, h8.to c21.1 (fun i hi => (c23 i hi).2.2) (fun i hi => (c24 i hi).2.2) c26 c27 si.1 si.2.1 si.2.2, h10.to rfl (fun _ _ => ⟨rfl, rfl⟩) (fun _ _ => ⟨rfl, rfl⟩) (fun _ _ => ⟨rfl, rfl, rfl⟩) (fun _ _ => rfl) (so 2 (by omega)).1 (so 2 (by omega)).2.1 (so 2 (by omega)).2.2, h11, h12, by rw [L1]; exact h13, ?_⟩
    obtain ⟨p1, p2, p3, p4, p5, p6, p7, p8⟩ := h14
    have hL : RLd u (s 106 1) := by
      rw [hu]
      rcases h13 with ⟨a, b⟩ | ⟨a, b⟩
      · rw [if_pos a]; exact Or.inl ⟨rfl, b⟩
      · rw [if_neg (by omega)]; exact Or.inr ⟨rfl, b⟩
    refine ⟨rfl, by omega, by omega, p4, p5, by omega, fun _ => ?_, fun z => ?_⟩
    · rw [E8.1, li.1.1]; exact hL
    · exact absurd z (by omega)
theorem keep_58 {n : Nat} {s : Mem} (h : Rel n s) (hk : s 0 12 = 1) : ∃ r s1 s2, fX10_keep s = some (r, s1) ∧ fX11_keep s1 = some (r, s2) ∧ Rel (n + 1) s2 := by
  obtain ⟨h1, h2, h3, h4, h5, h6, h7, h8, h9, h10, h11, h12, h13, h14⟩ := h.mono
  have hk2 : s 100 31 = 1 := by have := h14.1; omega
  have hb : ∀ i, i < 8 → s 37 i = 0 ∨ s 37 i = 1 := fun i hi => by have := h8.2.2.1 i hi; omega
  obtain ⟨s1, c1, c2⟩ := c_cf_58_20 s hb
  obtain ⟨c20, c21, c22, c23, c24, c25, c26, c27⟩ := c2
  simp only [Nat.reduceAdd] at c20 c21 c22 c23 c24 c25 c26 c27
  have k12 : s1 0 12 = 1 := by rw [c20 0 (by omega)]; exact hk
  obtain ⟨sA, hA⟩ : ∃ x, x = up s1 0 12 2 := ⟨_, rfl⟩
  have A1 : ∀ q, q ≠ 0 → sA q = s1 q := fun q hq => by rw [hA, up_ne _ _ _ _ hq]
  have A2 : ∀ q, q ≠ 0 → (q < 58 ∨ 76 < q) → sA q = s q := fun q hq h2 => by rw [A1 q hq, c20 q h2]
  obtain ⟨sB, d1, d2⟩ := r_copyList (c1 := 1) (c2 := 3) (by omega) (by omega) (by omega) sA
  have B1 : ∀ q, q < 106 ∨ 115 < q → sB q = sA q := d2.1
  obtain ⟨sC, f1, f2⟩ := r_copyShots (c1 := 0) (c2 := 2) (by omega) (by omega) (by omega) sB
  have C1 : ∀ q, q < 117 ∨ 124 < q → sC q = sB q := f2.1
  obtain ⟨u, hu⟩ : ∃ u : Int, u = if s 100 19 = 0 then 0 else 1 := ⟨_, rfl⟩
  obtain ⟨sF, hF⟩ : ∃ x, x = up (up sC 125 1 u) 100 31 2 := ⟨_, rfl⟩
  have C100 : sC 100 = s 100 := by rw [C1 100 (by omega), B1 100 (by omega), A2 100 (by omega) (by omega)]
  have A100 : sA 100 = s 100 := A2 100 (by omega) (by omega)
  have B100 : sB 100 = s 100 := by rw [B1 100 (by omega), A100]
  have lo := fun j (hj : j ≠ 3) => d2.out (s := s) (fun q hq => A2 q (by omega) (by omega)) hj
  have li := d2.ins (s := s) (fun q hq => A2 q (by omega) (by omega))
  have so := fun j (hj : j ≠ 2) => f2.out (s := s) (fun q hq => by rw [B1 q (by omega), A2 q (by omega) (by omega)]) hj
  have si := f2.ins (s := s) (fun q hq => by rw [B1 q (by omega), A2 q (by omega) (by omega)])
  refine ⟨2, sA, sF, ?_, ?_, ?_⟩
  · unfold fX10_keep
    rw [hk, if_pos (by omega), if_pos (by omega), c1, bnd_some, k12, show wr (1 + 1) = 2 from rfl, lt_eq, ← hA, hA, up_at]
  · unfold fX11_keep
    rw [A100, hk2, if_pos (by omega), show wr (2 + 1) = 3 from rfl]
    have d1' : fX11_copyList 1 3 sA = some (0, sB) := d1
    have f1' : fX11_copyShots 0 2 sB = some (0, sC) := f1
    rw [d1', bnd_some, B100, hk2, show wr (1 + 1) = 2 from rfl, f1', bnd_some, jn_eq, C100, hk2]
    have fin : ∀ w : Int, w = u → (ST sC 125 1 2 w fun s7 => lt (up s7 100 31 (wr (s7 100 31 + 1))) fun s8 => some (s8 100 31, s8)) = some (2, sF) := by
      intro w hw
      rw [hw, ST_in (by omega) (by omega), show ((1 : Int).toNat) = 1 from rfl, up_ne _ _ _ _ (by omega), C100, hk2, show wr (1 + 1) = 2 from rfl, lt_eq, up_at, ← hF]
    by_cases z : s 100 19 = 0
    · rw [if_pos z]; exact fin 0 (by rw [hu, if_pos z])
    · rw [if_neg z]; exact fin 1 (by rw [hu, if_neg z])
  · have E1 : ∀ q, q ≠ 0 → q ≠ 100 → (q < 58 ∨ 76 < q) → (q < 106 ∨ (115 < q ∧ q < 117) ∨ 125 < q) → sF q = s q := fun q a b c d => by rw [hF, up_ne _ _ _ _ b, up_ne _ _ _ _ (by omega), C1 q (by omega), B1 q (by omega), A2 q a c]
    have E2 : ∀ q, 58 ≤ q → q ≤ 76 → sF q = s1 q := fun q a b => by rw [hF, up_ne _ _ _ _ (by omega), up_ne _ _ _ _ (by omega), C1 q (by omega), B1 q (by omega), A1 q (by omega)]
    have E3 : ∀ q, 106 ≤ q → q ≤ 115 → sF q = sB q := fun q a b => by rw [hF, up_ne _ _ _ _ (by omega), up_ne _ _ _ _ (by omega), C1 q (by omega)]
    have E4 : ∀ q, 117 ≤ q → q ≤ 124 → sF q = sC q := fun q a b => by rw [hF, up_ne _ _ _ _ (by omega), up_ne _ _ _ _ (by omega)]
    have E5 : ∀ j, j ≠ 31 → sF 100 j = s 100 j := fun j hj => by rw [hF, up_nj _ _ _ _ hj, up_ne _ _ _ _ (by omega), C100]
    have E6 : sF 100 31 = 2 := by rw [hF, up_at]
    have E7 : sF 0 12 = 2 ∧ sF 0 13 = s 0 13 := by
      rw [hF, up_ne _ _ _ _ (by omega), up_ne _ _ _ _ (by omega), C1 0 (by omega), B1 0 (by omega), hA, up_at, up_nj _ _ _ _ (by omega), c20 0 (by omega)]
      exact ⟨rfl, rfl⟩
    have E8 : sF 125 1 = u ∧ sF 125 0 = s 125 0 := by
      rw [hF, up_ne _ _ _ _ (by omega), up_at, up_nj _ _ _ _ (by omega), C1 125 (by omega), B1 125 (by omega), A2 125 (by omega) (by omega)]
      exact ⟨rfl, rfl⟩
    have L1 := (lo 1 (by omega)).1.1
    unfold Rel
    rw [E6, E7.1, E7.2, E5 5 (by omega), E5 6 (by omega), E5 7 (by omega), E5 8 (by omega), E5 19 (by omega), E5 20 (by omega), E5 32 (by omega), E5 38 (by omega), E5 42 (by omega)]
    have E9 : ∃ w, w = sF 125 := ⟨_, rfl⟩
    obtain ⟨w, hw⟩ := E9
    rw [← hw] at E8 ⊢
    simp (disch := omega) only [E1, E2, E3, E4]
    refine ⟨h1, h2, h3, h4.to ⟨rfl, rfl, (lo 0 (by omega)).1.1, (lo 0 (by omega)).1.2⟩ (fun _ _ => rfl) (fun _ _ => ⟨rfl, rfl⟩) (fun _ _ => ⟨rfl, rfl⟩) (fun _ _ => ⟨rfl, rfl, rfl⟩) (lo 0 (by omega)).2.1 (lo 0 (by omega)).2.2.1 (lo 0 (by omega)).2.2.2, h5.to ⟨rfl, rfl, (lo 1 (by omega)).1.1, (lo 1 (by omega)).1.2⟩ (fun _ _ => rfl) (fun _ _ => ⟨rfl, rfl⟩) (fun _ _ => ⟨rfl, rfl⟩) (fun _ _ => ⟨rfl, rfl, rfl⟩) (lo 1 (by omega)).2.1 (lo 1 (by omega)).2.2.1 (lo 1 (by omega)).2.2.2, h6.to ⟨rfl, rfl, (lo 2 (by omega)).1.1, (lo 2 (by omega)).1.2⟩ (fun _ _ => rfl) (fun _ _ => ⟨rfl, rfl⟩) (fun _ _ => ⟨rfl, rfl⟩) (fun _ _ => ⟨rfl, rfl, rfl⟩) (lo 2 (by omega)).2.1 (lo 2 (by omega)).2.2.1 (lo 2 (by omega)).2.2.2, h5.to ⟨c21.1, c21.2, li.1.1, li.1.2⟩ c22 (fun i hi => ⟨(c23 i hi).1, (c23 i hi).2.1⟩) (fun i hi => ⟨(c24 i hi).1, (c24 i hi).2.1⟩) c25 li.2.1 li.2.2.1 li.2.2.2, h8.to rfl (fun _ _ => ⟨rfl, rfl⟩) (fun _ _ => ⟨rfl, rfl⟩) (fun _ _ => ⟨rfl, rfl, rfl⟩) (fun _ _ => rfl) (so 0 (by omega)).1 (so 0 (by omega)).2.1 (so 0 (by omega)).2.2, h9.to rfl (fun _ _ => ⟨rfl, rfl⟩) (fun _ _ => ⟨rfl, rfl⟩) (fun _ _ => ⟨rfl, rfl, rfl⟩) (fun _ _ => rfl) (so 1 (by omega)).1 (so 1 (by omega)).2.1 (so 1 (by omega)).2.2, h8.to c21.1 (fun i hi => (c23 i hi).2.2) (fun i hi => (c24 i hi).2.2) c26 c27 si.1 si.2.1 si.2.2, h11, h12, by rw [L1]; exact h13, ?_⟩
    obtain ⟨p1, p2, p3, p4, p5, p6, p7, p8⟩ := h14
    have hL : RLd u (s 106 1) := by
      rw [hu]
      rcases h13 with ⟨a, b⟩ | ⟨a, b⟩
      · rw [if_pos a]; exact Or.inl ⟨rfl, b⟩
      · rw [if_neg (by omega)]; exact Or.inr ⟨rfl, b⟩
    refine ⟨rfl, by omega, by omega, p4, p5, by omega, fun _ => ?_, fun z => ?_⟩
    · rw [E8.2, (lo 2 (by omega)).1.1]; exact p7 (by omega)
    · rw [E8.1, li.1.1]; exact hL
theorem op_keep : OP fX10_keep fX11_keep := by
  intro n s hn h
  have e : s 0 12 = s 100 31 ∧ 0 ≤ s 0 12 ∧ s 0 12 ≤ 2 := by
    obtain ⟨-, -, -, -, -, -, -, -, -, -, -, -, -, h14⟩ := h
    exact ⟨h14.1, h14.2.1, h14.2.2.1⟩
  by_cases z0 : s 0 12 = 0
  · exact keep_39 h z0
  by_cases z1 : s 0 12 = 1
  · exact keep_58 h z1
  refine OP.same h (r := -3) ?_ ?_
  · unfold fX10_keep; rw [if_neg (by omega)]
  · unfold fX11_keep; rw [if_neg (by omega)]
