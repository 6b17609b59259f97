/-! the reference's copies -/
def CLD (c1 c2 : Nat) (s s' : Mem) : Prop :=
  (∀ q, q < 106 ∨ 115 < q → s' q = s q) ∧ (s' 106 c2 = s 106 c1 ∧ s' 107 c2 = s 107 c1) ∧ (∀ i, i ≠ c2 → s' 106 i = s 106 i ∧ s' 107 i = s 107 i) ∧
  s' 108 = blk (s 108) (16 * c1) (16 * c2) 0 16 ∧ s' 110 = blk (s 110) (16 * c1) (16 * c2) 0 16 ∧ s' 112 = blk (s 112) (16 * c1) (16 * c2) 0 16 ∧
  s' 109 = blk (s 109) (48 * c1) (48 * c2) 0 48 ∧ s' 111 = blk (s 111) (48 * c1) (48 * c2) 0 48 ∧
  s' 113 = blk (s 113) (64 * c1) (64 * c2) 0 64 ∧ s' 114 = blk (s 114) (64 * c1) (64 * c2) 0 64 ∧ s' 115 = blk (s 115) (64 * c1) (64 * c2) 0 64
theorem r_copyList {c1 c2 : Nat} (h1 : c1 < 4) (h2 : c2 < 4) (hd : c1 ≠ c2) (s : Mem) : ∃ s', fX11_copyList c1 c2 s = some (0, s') ∧ CLD c1 c2 s s' := by
  obtain ⟨F, hF⟩ : ∃ F, FU = F := ⟨_, rfl⟩
  have e1 : F = (F - 17) + 16 + 1 := (by have : F = 1000000 := hF.symm; omega)
  have e2 : F = (F - 49) + 48 + 1 := (by have : F = 1000000 := hF.symm; omega)
  have e3 : F = (F - 65) + 64 + 1 := (by have : F = 1000000 := hF.symm; omega)
  have k1 : ∀ k s, LX11_copyList_26 c1 c2 k F 0 s = _ := fun k s => (congrArg (fun x => LX11_copyList_26 c1 c2 k x 0 s) e1).trans (r_cl26 k h1 h2 hd 16 (F - 17) 0 s (by omega))
  have k2 : ∀ k s, LX11_copyList_106 c1 c2 k F 0 s = _ := fun k s => (congrArg (fun x => LX11_copyList_106 c1 c2 k x 0 s) e2).trans (r_cl106 k h1 h2 hd 48 (F - 49) 0 s (by omega))
  have k3 : ∀ k s, LX11_copyList_164 c1 c2 k F 0 s = _ := fun k s => (congrArg (fun x => LX11_copyList_164 c1 c2 k x 0 s) e3).trans (r_cl164 k h1 h2 hd 64 (F - 65) 0 s (by omega))
  unfold fX11_copyList
  rw [hF, rd_in (by omega) (by omega), ST_in (by omega) (by omega), rd_in (by omega) (by omega), ST_in (by omega) (by omega)]
  simp only [Int.toNat_natCast, ne_eq, not_false_eq_true, up_ne, Nat.reduceEqDiff]
  rw [k1, k2, k3]
  refine ⟨_, rfl, ?_⟩
  unfold CLD
  simp only [sf_ne, sf_eq, up_ne, up_at, ne_eq, not_false_eq_true, Nat.reduceEqDiff]
  refine ⟨fun q hq => ?_, ⟨trivial, trivial⟩, fun i hi => ⟨up_nj _ _ _ _ hi, up_nj _ _ _ _ hi⟩, trivial, trivial, trivial, trivial, trivial, trivial, trivial, trivial⟩
  simp (disch := omega) only [sf_ne, up_ne]
def CSD (c1 c2 : Nat) (s s' : Mem) : Prop :=
  (∀ q, q < 117 ∨ 124 < q → s' q = s q) ∧ s' 117 = blk (s 117) (48 * c1) (48 * c2) 0 48 ∧ s' 118 = blk (s 118) (48 * c1) (48 * c2) 0 48 ∧
  s' 119 = blk (s 119) (16 * c1) (16 * c2) 0 16 ∧ s' 120 = blk (s 120) (16 * c1) (16 * c2) 0 16 ∧ s' 124 = blk (s 124) (16 * c1) (16 * c2) 0 16 ∧
  s' 121 = blk (s 121) (8 * c1) (8 * c2) 0 8 ∧ s' 122 = blk (s 122) (8 * c1) (8 * c2) 0 8 ∧ s' 123 = blk (s 123) (8 * c1) (8 * c2) 0 8
theorem r_copyShots {c1 c2 : Nat} (h1 : c1 < 3) (h2 : c2 < 3) (hd : c1 ≠ c2) (s : Mem) : ∃ s', fX11_copyShots c1 c2 s = some (0, s') ∧ CSD c1 c2 s s' := by
  obtain ⟨F, hF⟩ : ∃ F, FU = F := ⟨_, rfl⟩
  have e1 : F = (F - 49) + 48 + 1 := (by have : F = 1000000 := hF.symm; omega)
  have e2 : F = (F - 17) + 16 + 1 := (by have : F = 1000000 := hF.symm; omega)
  have e3 : F = (F - 9) + 8 + 1 := (by have : F = 1000000 := hF.symm; omega)
  have k1 : ∀ k s, LX11_copyShots_2 c1 c2 k F 0 s = _ := fun k s => (congrArg (fun x => LX11_copyShots_2 c1 c2 k x 0 s) e1).trans (r_cs2 k h1 h2 hd 48 (F - 49) 0 s (by omega))
  have k2 : ∀ k s, LX11_copyShots_60 c1 c2 k F 0 s = _ := fun k s => (congrArg (fun x => LX11_copyShots_60 c1 c2 k x 0 s) e2).trans (r_cs60 k h1 h2 hd 16 (F - 17) 0 s (by omega))
  have k3 : ∀ k s, LX11_copyShots_140 c1 c2 k F 0 s = _ := fun k s => (congrArg (fun x => LX11_copyShots_140 c1 c2 k x 0 s) e3).trans (r_cs140 k h1 h2 hd 8 (F - 9) 0 s (by omega))
  unfold fX11_copyShots
  rw [hF, k1, k2, k3]
  refine ⟨_, rfl, ?_⟩
  unfold CSD
  simp only [sf_ne, sf_eq, up_ne, up_at, ne_eq, not_false_eq_true, Nat.reduceEqDiff]
  refine ⟨fun q hq => ?_, trivial, trivial, trivial, trivial, trivial, trivial, trivial, trivial⟩
  simp (disch := omega) only [sf_ne, up_ne]
theorem RLi.to {j j' : Nat} {n cp : Int} {st ow fa ft ef e1 e2 e3 : Nat → Int} {n' cp' : Int} {fr ow' fa' ft' ef' a1 a2 a3 : Nat → Int} {m dp : Int} {st2 ow2 fa2 ft2 ef2 e12 e22 e32 : Nat → Int} {m' dp' : Int} {fr2 ow2' fa2' ft2' ef2' a12 a22 a32 : Nat → Int}
    (H : RLi j n cp st ow fa ft ef e1 e2 e3 n' cp' fr ow' fa' ft' ef' a1 a2 a3)
    (g0 : m = n ∧ dp = cp ∧ m' = n' ∧ dp' = cp') (g1 : ∀ i, i < 17 → st2 i = st i) (g2 : ∀ i, i < 48 → ow2 i = ow i ∧ ft2 i = ft i) (g3 : ∀ i, i < 16 → fa2 i = fa i ∧ ef2 i = ef i) (g4 : ∀ i, i < 64 → e12 i = e1 i ∧ e22 i = e2 i ∧ e32 i = e3 i)
    (g5 : ∀ k, k < 16 → fr2 (16 * j' + k) = fr (16 * j + k) ∧ fa2' (16 * j' + k) = fa' (16 * j + k) ∧ ef2' (16 * j' + k) = ef' (16 * j + k)) (g6 : ∀ k, k < 48 → ow2' (48 * j' + k) = ow' (48 * j + k) ∧ ft2' (48 * j' + k) = ft' (48 * j + k))
    (g7 : ∀ k, k < 64 → a12 (64 * j' + k) = a1 (64 * j + k) ∧ a22 (64 * j' + k) = a2 (64 * j + k) ∧ a32 (64 * j' + k) = a3 (64 * j + k)) :
    RLi j' m dp st2 ow2 fa2 ft2 ef2 e12 e22 e32 m' dp' fr2 ow2' fa2' ft2' ef2' a12 a22 a32 := by
  obtain ⟨r1, r2, r3, r4, r5⟩ := H
  obtain ⟨rfl, rfl, rfl, rfl⟩ := g0
  refine ⟨?_, fun k hk => ?_, fun k hk => ?_, fun k hk => ?_, fun k hk => ?_⟩
  · rw [g1 0 (by omega)]; exact r1
  · have q := r2 k hk
    have hk2 : k < 16 := by omega
    rw [g1 (k + 1) (by omega), g1 k (by omega), (g5 k hk2).1, (g3 k hk2).1, (g3 k hk2).2]
    refine ⟨q.1, q.2.1, q.2.2.1, q.2.2.2.1, q.2.2.2.2.1, q.2.2.2.2.2.1, q.2.2.2.2.2.2.1, fun c hc => ?_, fun e he => ?_⟩
    · rw [(g2 (3 * k + c) (by omega)).1, (g2 (3 * k + c) (by omega)).2]
      exact q.2.2.2.2.2.2.2.1 c hc
    · have := q.2.2.2.2.2.2.1
      rw [(g4 (4 * k + e) (by omega)).1, (g4 (4 * k + e) (by omega)).2.1, (g4 (4 * k + e) (by omega)).2.2]
      exact q.2.2.2.2.2.2.2.2 e he
  · rw [(g2 k hk).1, (g2 k hk).2, (g6 k hk).1, (g6 k hk).2]; exact r3 k hk
  · rw [(g3 k hk).1, (g3 k hk).2, (g5 k hk).2.1, (g5 k hk).2.2]; exact r4 k hk
  · rw [(g4 k hk).1, (g4 k hk).2.1, (g4 k hk).2.2, (g7 k hk).1, (g7 k hk).2.1, (g7 k hk).2.2]; exact r5 k hk
theorem RJb.to {j j' : Nat} {n m : Int} {de ai re ed fi fr lo ho de' ai' re' ed' fi' fr' sta ho' : Nat → Int} {de2 ai2 re2 ed2 fi2 fr2 lo2 ho2 de2' ai2' re2' ed2' fi2' fr2' sta2 ho2' : Nat → Int}
    (H : RJb j n de ai re ed fi fr lo ho de' ai' re' ed' fi' fr' sta ho') (g0 : m = n) (g1 : ∀ i, i < 48 → de2 i = de i ∧ ai2 i = ai i) (g2 : ∀ i, i < 16 → re2 i = re i ∧ ed2 i = ed i) (g3 : ∀ i, i < 8 → fi2 i = fi i ∧ fr2 i = fr i ∧ lo2 i = lo i) (g4 : ∀ i, i < 15 → ho2 i = ho i)
    (g5 : ∀ k, k < 48 → de2' (48 * j' + k) = de' (48 * j + k) ∧ ai2' (48 * j' + k) = ai' (48 * j + k)) (g6 : ∀ k, k < 16 → re2' (16 * j' + k) = re' (16 * j + k) ∧ ed2' (16 * j' + k) = ed' (16 * j + k) ∧ ho2' (16 * j' + k) = ho' (16 * j + k))
    (g7 : ∀ k, k < 8 → fi2' (8 * j' + k) = fi' (8 * j + k) ∧ fr2' (8 * j' + k) = fr' (8 * j + k) ∧ sta2 (8 * j' + k) = sta (8 * j + k)) : RJb j' m de2 ai2 re2 ed2 fi2 fr2 lo2 ho2 de2' ai2' re2' ed2' fi2' fr2' sta2 ho2' := by
  obtain ⟨r1, r2, r3, r4⟩ := H
  subst g0
  refine ⟨fun k hk => ?_, fun k hk => ?_, fun k hk => ?_, fun hz k hk => ?_⟩
  · rw [(g1 k hk).1, (g1 k hk).2, (g5 k hk).1, (g5 k hk).2]; exact r1 k hk
  · rw [(g2 k hk).1, (g2 k hk).2, (g6 k hk).1, (g6 k hk).2.1]; exact r2 k hk
  · rw [(g3 k hk).1, (g3 k hk).2.1, (g3 k hk).2.2, (g7 k hk).1, (g7 k hk).2.1, (g7 k hk).2.2]; exact r3 k hk
  · rw [g4 k hk, (g6 k (by omega)).2.2]; exact r4 hz k hk
