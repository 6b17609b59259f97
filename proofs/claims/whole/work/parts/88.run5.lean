theorem op_run (a1 : Int) : OP (fX10_run a1) (fX11_run a1) := by
  intro n s hn h
  obtain ⟨l1, l2, l3⟩ := h.lfr
  have l0 := h.lf
  have rb := h.rb
  have hn2 := l0.2.1
  have hn0 := l0.1
  obtain ⟨h1, h2, h3, h4, h5, h6, h7, h8, h9, h10, h11, h12, h13, h14⟩ := id h
  obtain ⟨F, hF⟩ : ∃ F, FU = F := ⟨_, rfl⟩
  by_cases hg : 0 ≤ a1 ∧ a1 ≤ 1
  · have cR : fX10_run a1 s = if s 21 0 = 0 then some ((-2), s) else bnd (fX2_countOpen 20 s) (fun r3 s4 => if r3 ≤ 0 then rd (s4 7) 3 4 (fun v5 => bnd (fX2_wearSplices 20 v5 s4) (fun r6 s7 => rd (s7 22) r6 17 (fun v8 => bnd (fX10_feetOf v8 s7) (fun r9 s10 => bnd (fX9_pass a1 r9 s10) (fun _ s12 => lt (up s12 0 13 (wr ((s12 0 13) + 1))) (fun s13 => some (r6, s13))))))) else some ((-2), s4)) := by
      unfold fX10_run
      rw [sp_bath, bnd_some]
      simp only [ne_eq, tv_0, Decidable.not_not]
      rw [if_pos hg]
    have rR : ∀ s, fX11_run a1 s = if s 100 19 = 0 then some ((-2), s) else bnd (fX11_openMany s) (fun r3 s4 => if r3 ≤ 0 then lt (up s4 100 32 (wr ((s4 100 32) + 1))) (fun s5 => LX11_run_45 a1 (fun y29 y30 s28 => bnd (fX11_go a1 (Int.tdiv (wr (y29 + 15)) 16) s28) (fun _ s32 => some (y30, s32))) FU 0 0 1 s5) else some ((-2), s4)) := by
      intro s
      unfold fX11_run
      rw [sp_in, bnd_some]
      simp only [ne_eq, tv_0, Decidable.not_not]
      rw [if_pos hg]
    rcases l3 with ⟨a, b⟩ | ⟨a, b⟩
    · exact OP.same h (r := -2) (by rw [cR, if_pos (by omega)]) (by rw [rR, if_pos a])
    · by_cases ho : opc (s 32) (s 33) (fun k => s 108 (16 + k)) (s 38) ((s 21 0).toNat - 1) 0 0 ≤ 0
      · have r3e : s 7 3 = s 100 8 ∧ 1 ≤ s 100 8 ∧ s 100 8 ≤ 20 := h2.2.2.2
        obtain ⟨S, hS⟩ : ∃ S : Nat → Bool, ∀ k, (S k = true) = SP (s 32) (s 33) (fun k => s 108 (16 + k)) k := ⟨fun k => decide (SP (s 32) (s 33) (fun k => s 108 (16 + k)) k), fun k => propext decide_eq_true_iff⟩
        obtain ⟨w, hw⟩ : ∃ w : Nat → Int, ∀ k, (alj s k ∧ w k = s 7 3) ∨ (¬ alj s k ∧ w k = s 7 3 + 2) := by
          classical
          refine ⟨fun k => if alj s k then s 7 3 else s 7 3 + 2, fun k => ?_⟩
          by_cases z : alj s k
          · left; exact ⟨z, if_pos z⟩
          · right; exact ⟨z, if_neg z⟩
        have hw0 : ∀ k, 0 ≤ w k := fun k => by rcases hw k with q | q <;> omega
        obtain ⟨j, hj⟩ : ∃ j : Nat, ((0 + j + 1 : Nat) : Int) = s 21 0 := ⟨(s 21 0).toNat - 1, by omega⟩
        have e : F = (F - j - 1) + j + 1 := (by have : F = 1000000 := hF.symm; omega)
        have e2 : F = (F - j - 2) + j + 2 := (by have : F = 1000000 := hF.symm; omega)
        have hob : ∀ i, i < 15 → s 38 i = s 124 i ∧ 0 ≤ s 38 i ∧ s 38 i ≤ 100 := fun i hi => h.ho (by omega) hi
        have cW := c_wearL (r3 := s 7 3) h.lts rb.1 (by omega) S w hS (fun k _ => hw k) j (F - j - 1) 0 (s 38) hj (fun i hi => (hob i hi).2)
        rw [sf_self] at cW
        obtain ⟨R, hR⟩ : ∃ R, R = (wrn S w j 0 (s 38)).1 := ⟨_, rfl⟩
        obtain ⟨H, hH⟩ : ∃ H, H = (wrn S w j 0 (s 38)).2 := ⟨_, rfl⟩
        obtain ⟨q1, q2, q3, q4, q5⟩ := wrn_p (S := S) hw0 j 0 (s 38) (s 124) (fun i _ hi => hob i (by omega))
        rw [← hR, ← hH] at cW
        rw [← hR] at q1 q2 q3
        have bR := l0.bd R (by omega)
        obtain ⟨ft, hft⟩ : ∃ ft, ft = Int.tdiv (s 22 R + 15) 16 := ⟨_, rfl⟩
        have ftb : 1 ≤ ft ∧ ft ≤ 10000 := by
          rw [hft, Int.tdiv_eq_ediv_of_nonneg (by omega)]; omega
        have b1 := h1.2.1 a1.toNat (by omega)
        have b0 : stf (s 3 a1.toNat) (s 4 a1.toNat) (s 5 a1.toNat) ft = stf (s 102 a1.toNat) (s 103 a1.toNat) (s 104 a1.toNat) ft := by rw [b1.1, b1.2.1, b1.2.2.1]
        have b2 := stf_b (S := s 3 a1.toNat) (T := s 4 a1.toNat) (F := s 5 a1.toNat) (j := ft) (by omega) (by omega) (by omega) (by omega)
        have rr := h14.2.2.2
        obtain ⟨s1, hs1⟩ : ∃ s1, s1 = up (up (up (sf s 38 H) 5 a1.toNat (s 5 a1.toNat + ft)) 3 a1.toNat (stf (s 3 a1.toNat) (s 4 a1.toNat) (s 5 a1.toNat) ft)) 0 13 (s 0 13 + 1) := ⟨_, rfl⟩
        have cF : fX10_run a1 s = some ((R : Int), s1) := by
          rw [cR, if_neg (by omega), c_countOpen s l0 rb.1, bnd_some, if_pos ho, rd_in (by omega) (by omega), show ((3 : Int).toNat) = 3 from rfl]
          unfold fX2_wearSplices
          rw [hF, e]
          refine (congrArg (fun x => bnd x _) cW).trans ?_
          rw [bnd_some, rd_in (by omega) (by omega), Int.toNat_natCast, sf_ne _ _ _ (by omega)]
          unfold fX10_feetOf
          rw [bnd_some, wr_ok (x := s 22 R + 16) (by omega) (by omega), wr_ok (x := s 22 R + 16 - 1) (by omega) (by omega), show s 22 R + 16 - 1 = s 22 R + 15 by omega, ← hft]
          have cp := c_pass (b := a1) (n := ft) (sf s 38 H) hg ftb
          simp only [ne_eq, not_false_eq_true, sf_ne, Nat.reduceEqDiff] at cp
          rw [cp (by omega) (by omega) (by omega), bnd_some]
          simp only [ne_eq, not_false_eq_true, sf_ne, up_ne, Nat.reduceEqDiff]
          rw [wr_ok (x := s 0 13 + 1) (by omega) (by omega), lt_eq, ← hs1]
        have s1p : ∀ q, 100 ≤ q → s1 q = s q := fun q hq => by rw [hs1, up_ne _ _ _ _ (by omega), up_ne _ _ _ _ (by omega), up_ne _ _ _ _ (by omega), sf_ne _ _ _ (by omega)]
        obtain ⟨t0, ht0⟩ : ∃ t0, t0 = up s1 100 32 (s 100 32 + 1) := ⟨_, rfl⟩
        have eq0 : EQ t0 s s1 (s 100 32 + 1) := by
          refine ⟨fun q a b => by rw [ht0, up_ne _ _ _ _ (by omega), s1p q (by omega)], fun j a b c => by rw [ht0, up_nj _ _ _ _ c, s1p 100 (by omega)], by rw [ht0, up_at], fun q a => by rw [ht0, up_ne _ _ _ _ (by omega)]⟩
        have t124 : t0 124 = s 124 := by rw [ht0, up_ne _ _ _ _ (by omega), s1p 124 (by omega)]
        obtain ⟨t', g1, g2, g3⟩ := r_runL (r3 := s 7 3) h (by omega) (by omega) a1 (fun y29 y30 s28 => bnd (fX11_go a1 (Int.tdiv (wr (y29 + 15)) 16) s28) (fun _ s32 => some (y30, s32))) S w hS (fun k _ => hw k) j (F - j - 2) 0 t0 hj eq0 (fun i hi => by rw [t124]; have := hob i hi; omega)
        rw [t124, ← q1, l0.2.2.1, ← e2] at g1
        rw [t124] at g3
        have t'p : ∀ q, 101 ≤ q → q ≠ 124 → t' q = s q := g2.1
        refine ⟨(R : Int), s1, up (up t' 104 a1.toNat (s 104 a1.toNat + ft)) 102 a1.toNat (stf (s 102 a1.toNat) (s 103 a1.toNat) (s 104 a1.toNat) ft), cF, ?_, ?_⟩
        · rw [rR, s1p 100 (by omega), if_neg (by omega)]
          have om := r_openMany (st := s 22) s1 (by rw [s1p 106 (by omega), s1p 108 (by omega)]; exact l1) (by rw [s1p 106 (by omega), s1p 100 (by omega)]; exact h13) (by rw [s1p 119 (by omega), s1p 120 (by omega)]; exact rb.2.1)
          rw [s1p 106 (by omega), s1p 108 (by omega), s1p 119 (by omega), s1p 120 (by omega), s1p 124 (by omega), h.opc] at om
          rw [om, bnd_some, if_pos ho, s1p 100 (by omega), wr_ok (x := s 100 32 + 1) (by omega) (by omega), lt_eq, ← ht0, hF]
          refine g1.trans ?_
          rw [wr_ok (x := s 22 R + 15) (by omega) (by omega), ← hft]
          have rg := r_go (b := a1) (n := ft) t' hg ftb
          rw [t'p 102 (by omega) (by omega), t'p 103 (by omega) (by omega), t'p 104 (by omega) (by omega)] at rg
          rw [rg (by omega) (by omega) (by omega), bnd_some]
        · obtain ⟨sF, hsF⟩ : ∃ sF, sF = up (up t' 104 a1.toNat (s 104 a1.toNat + ft)) 102 a1.toNat (stf (s 102 a1.toNat) (s 103 a1.toNat) (s 104 a1.toNat) ft) := ⟨_, rfl⟩
          rw [← hsF]
          have t'c : ∀ q, q < 100 → t' q = s1 q := g2.2.2.2
          have E1 : ∀ q, q ≠ 0 → q ≠ 3 → q ≠ 5 → q ≠ 38 → q ≠ 100 → q ≠ 102 → q ≠ 104 → q ≠ 124 → sF q = s q := fun q x0 x3 x5 x38 x100 x102 x104 x124 => by
            rw [hsF, up_ne _ _ _ _ x102, up_ne _ _ _ _ x104]
            by_cases hq : q < 100
            · rw [t'c q hq, hs1, up_ne _ _ _ _ x0, up_ne _ _ _ _ x3, up_ne _ _ _ _ x5, sf_ne _ _ _ x38]
            · exact t'p q (by omega) x124
          have E2 : sF 38 = H := by rw [hsF, up_ne _ _ _ _ (by omega), up_ne _ _ _ _ (by omega), t'c 38 (by omega), hs1, up_ne _ _ _ _ (by omega), up_ne _ _ _ _ (by omega), up_ne _ _ _ _ (by omega), sf_eq]
          have E3 : ∀ i, sF 3 i = if i = a1.toNat then stf (s 3 a1.toNat) (s 4 a1.toNat) (s 5 a1.toNat) ft else s 3 i := fun i => by rw [hsF, up_ne _ _ _ _ (by omega), up_ne _ _ _ _ (by omega), t'c 3 (by omega), hs1, up_ne _ _ _ _ (by omega), up_eq, up_ne _ _ _ _ (by omega), sf_ne _ _ _ (by omega)]
          have E4 : ∀ i, sF 5 i = if i = a1.toNat then s 5 a1.toNat + ft else s 5 i := fun i => by rw [hsF, up_ne _ _ _ _ (by omega), up_ne _ _ _ _ (by omega), t'c 5 (by omega), hs1, up_ne _ _ _ _ (by omega), up_ne _ _ _ _ (by omega), up_eq, sf_ne _ _ _ (by omega)]
          have E5 : ∀ i, sF 102 i = if i = a1.toNat then stf (s 102 a1.toNat) (s 103 a1.toNat) (s 104 a1.toNat) ft else s 102 i := fun i => by rw [hsF, up_eq, up_ne _ _ _ _ (by omega), t'p 102 (by omega) (by omega)]
          have E6 : ∀ i, sF 104 i = if i = a1.toNat then s 104 a1.toNat + ft else s 104 i := fun i => by rw [hsF, up_ne _ _ _ _ (by omega), up_eq, t'p 104 (by omega) (by omega)]
          have E7 : sF 0 12 = s 0 12 ∧ sF 0 13 = s 0 13 + 1 := by
            rw [hsF, up_ne _ _ _ _ (by omega), up_ne _ _ _ _ (by omega), t'c 0 (by omega), hs1, up_at, up_nj _ _ _ _ (by omega), up_ne _ _ _ _ (by omega), up_ne _ _ _ _ (by omega), sf_ne _ _ _ (by omega)]
            exact ⟨rfl, rfl⟩
          have E8 : ∀ j, j ≠ 35 → j ≠ 36 → j ≠ 32 → sF 100 j = s 100 j := fun j x y z => by rw [hsF, up_ne _ _ _ _ (by omega), up_ne _ _ _ _ (by omega)]; exact g2.2.1 j x y z
          have E9 : sF 100 32 = s 100 32 + 1 := by rw [hsF, up_ne _ _ _ _ (by omega), up_ne _ _ _ _ (by omega)]; exact g2.2.2.1
          have E10 : sF 124 = (wrn S w j 0 (s 124)).2 := by rw [hsF, up_ne _ _ _ _ (by omega), up_ne _ _ _ _ (by omega)]; exact g3
          rw [← hH] at q4 q5
          unfold Rel
          rw [E7.1, E7.2, E9, E2, E10, E8 5 (by omega) (by omega) (by omega), E8 6 (by omega) (by omega) (by omega), E8 7 (by omega) (by omega) (by omega), E8 8 (by omega) (by omega) (by omega), E8 19 (by omega) (by omega) (by omega), E8 20 (by omega) (by omega) (by omega), E8 31 (by omega) (by omega) (by omega), E8 38 (by omega) (by omega) (by omega), E8 42 (by omega) (by omega) (by omega)]
          simp (disch := omega) only [E1]
          refine ⟨⟨h1.1, fun i hi => ?_, h1.2.2⟩, h2, h3, h4, h5, h6, h7, ⟨h8.1, h8.2.1, h8.2.2.1, fun hz k hk => ?_⟩, ⟨h9.1, h9.2.1, h9.2.2.1, fun hz k hk => ?_⟩, ⟨h10.1, h10.2.1, h10.2.2.1, fun hz k hk => ?_⟩, h11, h12, h13, ?_⟩
          · have := h1.2.1 i hi
            rw [E3, E4, E5, E6]
            by_cases hi2 : i = a1.toNat
            · rw [if_pos hi2, if_pos hi2, if_pos hi2, if_pos hi2, hi2]
              refine ⟨b0, b1.2.1, by omega, b2.1, b2.2, by omega, by omega, by omega, by omega⟩
            · rw [if_neg hi2, if_neg hi2, if_neg hi2, if_neg hi2]
              omega
          · rw [show 16 * 0 + k = k by omega]
            by_cases hk2 : k < 0 + j
            · exact q4 k (by omega) hk2
            · have := q5 k (by omega)
              rw [this.1, this.2]
              exact hob k hk
          · rw [(q5 (16 * 1 + k) (by omega)).2]
            exact h9.2.2.2 hz k hk
          · rw [(q5 (16 * 2 + k) (by omega)).2]
            exact h10.2.2.2 hz k hk
          · obtain ⟨p1, p2, p3, p4, p5, p6, p7, p8⟩ := h14
            exact ⟨p1, p2, p3, by omega, by omega, by omega, p7, p8⟩
      · refine OP.same h (r := -2) ?_ ?_
        · rw [cR, if_neg (by omega), c_countOpen s l0 rb.1, bnd_some, if_neg ho]
        · rw [rR, if_neg (by omega), r_openMany s l1 h13 rb.2.1, h.opc, bnd_some, if_neg ho]
  · refine OP.same h (r := -1) ?_ ?_
    · unfold fX10_run
      rw [sp_bath, bnd_some]
      simp only [ne_eq, tv_0, Decidable.not_not]
      rw [if_neg hg]
    · unfold fX11_run
      rw [sp_in, bnd_some]
      simp only [ne_eq, tv_0, Decidable.not_not]
      rw [if_neg hg]
