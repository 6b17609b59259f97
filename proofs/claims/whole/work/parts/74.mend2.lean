/-! mend, the call -/
theorem mdf_b {re ed fr ho : Nat → Int} {e j k : Nat} (h : 0 ≤ ho k ∧ ho k ≤ 100) : 0 ≤ mdf re ed fr ho e j k ∧ mdf re ed fr ho e j k ≤ 100 := by
  unfold mdf; split <;> omega
theorem mdf_out {re ed fr ho : Nat → Int} {e j k : Nat} (h : e + j ≤ k) : mdf re ed fr ho e j k = ho k := by
  unfold mdf; rw [if_neg (fun w => by omega)]
theorem op_mend : OP fX10_mend fX11_mend := by
  intro n s hn h
  obtain ⟨l1, l2, l3⟩ := h.lfr
  have l0 := h.lf
  have rb := h.rb
  have hn2 := l0.2.1
  have hn0 := l0.1
  obtain ⟨F, hF⟩ : ∃ F, FU = F := ⟨_, rfl⟩
  have e : F = (F - ((s 21 0).toNat - 1) - 1) + ((s 21 0).toNat - 1) + 1 := (by have : F = 1000000 := hF.symm; omega)
  have cM : fX10_mend s = some (opc (s 32) (s 33) (fun k => s 108 (16 + k)) (s 38) ((s 21 0).toNat - 1) 0 0, sf s 38 (mdf (s 32) (s 33) (fun k => s 108 (16 + k)) (s 38) 0 ((s 21 0).toNat - 1))) := by
    unfold fX10_mend fX2_mendOpen
    rw [c_countOpen s l0 rb.1, bnd_some, hF, e]
    exact (congrArg (fun x => bnd x _) (c_mendL (fr := fun k => s 108 (16 + k)) (c := opc (s 32) (s 33) (fun k => s 108 (16 + k)) (s 38) ((s 21 0).toNat - 1) 0 0) (fun s6 => some (opc (s 32) (s 33) (fun k => s 108 (16 + k)) (s 38) ((s 21 0).toNat - 1) 0 0, s6)) ((s 21 0).toNat - 1) (F - ((s 21 0).toNat - 1) - 1) 0 s l0 rb.1 (by omega) (by omega))).trans rfl
  rcases l3 with ⟨a, b⟩ | ⟨a, b⟩
  · have z : (s 21 0).toNat - 1 = 0 := by omega
    rw [z, mdf_0, sf_self] at cM
    refine ⟨_, _, _, cM, ?_, h.mono⟩
    unfold fX11_mend
    rw [hF, e, z]
    show (if s 100 19 = 0 then _ else _) = _
    rw [if_pos a]; rfl
  · have key := r_mendL (n := s 106 1) (st := s 22) (fun y7 s6 => some (y7, s6)) ((s 21 0).toNat - 1) (F - ((s 21 0).toNat - 1) - 1) 0 0 (sf s 38 (mdf (s 32) (s 33) (fun k => s 108 (16 + k)) (s 38) 0 ((s 21 0).toNat - 1)))
    simp only [ne_eq, not_false_eq_true, sf_ne, Nat.reduceEqDiff] at key
    have k2 := key l1 trivial (by omega) b rb.2.1 (by omega) (by omega) (by omega)
    refine ⟨_, _, sf (sf s 38 (mdf (s 32) (s 33) (fun k => s 108 (16 + k)) (s 38) 0 ((s 21 0).toNat - 1))) 124 (mdf (s 119) (s 120) (fun k => s 108 (16 + k)) (s 124) 0 ((s 21 0).toNat - 1)), cM, ?_, ?_⟩
    · unfold fX11_mend
      rw [hF, e]
      refine k2.trans ?_
      have := h.opc
      rw [← l2] at this
      rw [this]
    · obtain ⟨h1, h2, h3, h4, h5, h6, h7, h8, h9, h10, h11, h12, h13, h14⟩ := h.mono
      unfold Rel
      simp only [ne_eq, not_false_eq_true, sf_ne, sf_eq, Nat.reduceEqDiff]
      refine ⟨h1, h2, h3, h4, h5, h6, h7, ⟨h8.1, h8.2.1, h8.2.2.1, fun hz k hk => ?_⟩, ⟨h9.1, h9.2.1, h9.2.2.1, fun hz k hk => ?_⟩, ⟨h10.1, h10.2.1, h10.2.2.1, fun hz k hk => ?_⟩, h11, h12, h13, h14⟩
      · have ho := h.ho hz hk
        rw [show 16 * 0 + k = k by omega]
        refine ⟨?_, mdf_b ho.2⟩
        by_cases hk2 : k < (s 21 0).toNat - 1
        · unfold mdf
          simp only [h.sp (k := k) (by omega), ho.1]
        · rw [mdf_out (by omega), mdf_out (by omega), ho.1]
      · rw [mdf_out (by omega)]
        exact h9.2.2.2 hz k hk
      · rw [mdf_out (by omega)]
        exact h10.2.2.2 hz k hk
/-! where -/
def whr (re ed fr st : Nat → Int) (r f : Int) : Nat → Nat → Int
  | 0, _ => -4
  | j + 1, e => if re e = r ∧ ed e ≤ f ∧ f < ed e + fr e then st e + f - ed e else whr re ed fr st r f j (e + 1)
theorem whr_congr {re ed re' ed' fr st : Nat → Int} {r f : Int} : ∀ (j e : Nat), (∀ k, e ≤ k → k < e + j → re k = re' k ∧ ed k = ed' k) → whr re ed fr st r f j e = whr re' ed' fr st r f j e := by
  intro j
  induction j with
  | zero => intro e _; rfl
  | succ j ih =>
    intro e h
    have h1 := h e (by omega) (by omega)
    unfold whr
    rw [ih (e + 1) (fun k a b => h k (by omega) (by omega)), h1.1, h1.2]
theorem c_whereL {fr : Nat → Int} {r f : Int} (s : Mem) (h : LF (s 21 0) (s 22) fr) (hr : RB (s 32) (s 33)) (hf : 0 ≤ f ∧ f ≤ 100000) : ∀ (j m e : Nat), ((e + j : Nat) : Int) = s 21 0 → LX2_frameWith_2 20 r f (fun s7 => some (-4, s7)) (m + j + 1) e s = some (whr (s 32) (s 33) fr (s 22) r f j e, s) := by
  have hn := h.2.1
  intro j
  induction j with
  | zero =>
    intro m e he
    show (if s (20 + 1) 0 ≤ (e : Int) then _ else _) = _
    simp only [Nat.reduceAdd]
    rw [if_pos (by omega)]; rfl
  | succ j ih =>
    intro m e he
    have b := hr e (by omega)
    have nx : LX2_frameWith_2 20 r f (fun s7 => some (-4, s7)) (m + j + 1) ((e : Int) + 1) s = some (whr (s 32) (s 33) fr (s 22) r f j (e + 1), s) := ih m (e + 1) (by omega)
    have f1 := h.2.2.2 e (by omega)
    have b1 := h.bd e (by omega)
    show (if s (20 + 1) 0 ≤ (e : Int) then _ else _) = _
    simp only [Nat.reduceAdd]
    rw [if_neg (by omega), rd_in (by omega) (by omega), Int.toNat_natCast, wr_ok (x := f - s 33 e) (by omega) (by omega), lt_eq, rd_in (by omega) (by omega), Int.toNat_natCast, wr_ok (x := (e : Int) + 1) (by omega) (by omega), c_framesOf s h (by omega), bnd_some]
    unfold whr
    by_cases z1 : s 32 e ≠ r
    · rw [if_pos z1, if_neg (fun w => z1 w.1)]; exact nx
    · rw [if_neg z1]
      by_cases z2 : f - s 33 e < 0
      · rw [if_pos z2, if_neg (fun w => by omega)]; exact nx
      · rw [if_neg z2]
        by_cases z3 : fr e ≤ f - s 33 e
        · rw [if_pos z3, if_neg (fun w => by omega)]; exact nx
        · rw [if_neg z3, if_pos ⟨by omega, by omega, by omega⟩, rd_in (by omega) (by omega), Int.toNat_natCast, wr_ok (by omega) (by omega)]
          congr 2; omega
theorem r_whereL {n : Int} {st : Nat → Int} {r f : Int} (s : Mem) (h : LF n st (fun k => s 108 (16 + k))) (hn1 : n = s 106 1) (hr : RB (s 119) (s 120)) (hf : 0 ≤ f ∧ f ≤ 100000) : ∀ (j m e : Nat), ((e + j : Nat) : Int) = n → LX11_where_37 r f (fun s7 => some (-4, s7)) (m + j + 1) (st e) e s = some (whr (s 119) (s 120) (fun k => s 108 (16 + k)) st r f j e, s) := by
  have hn := h.2.1
  intro j
  induction j with
  | zero =>
    intro m e he
    show (rd (s 106) 1 4 fun v5 => if v5 ≤ (e : Int) then _ else _) = _
    rw [rd_in (by omega) (by omega), show ((1 : Int).toNat) = 1 from rfl, if_pos (by omega)]; rfl
  | succ j ih =>
    intro m e he
    have b := hr e (by omega)
    have f1 := h.2.2.2 e (by omega)
    dsimp only at f1
    have b1 := h.bd e (by omega)
    have t2 : (16 + (e : Int)).toNat = 16 + e := by omega
    have nx : LX11_where_37 r f (fun s7 => some (-4, s7)) (m + j + 1) (st e + s 108 (16 + e)) ((e : Int) + 1) s = some (whr (s 119) (s 120) (fun k => s 108 (16 + k)) st r f j (e + 1), s) := by
      have := ih m (e + 1) (by omega)
      rw [f1.1] at this
      exact this
    show (rd (s 106) 1 4 fun v5 => if v5 ≤ (e : Int) then _ else _) = _
    rw [rd_in (by omega) (by omega), show ((1 : Int).toNat) = 1 from rfl, if_neg (by omega), rd_in (by omega) (by omega), Int.toNat_natCast, jn_eq]
    rw [wr_ok (x := 16 + (e : Int)) (by omega) (by omega), wr_ok (x := (e : Int) + 1) (by omega) (by omega)]
    have k105 : (rd (s 108) (16 + (e : Int)) 64 fun v8 => lt (wr (st e + v8)) fun v9 => LX11_where_37 r f (fun s7 => some (-4, s7)) (m + j + 1) v9 ((e : Int) + 1) s) = some (whr (s 119) (s 120) (fun k => s 108 (16 + k)) st r f j (e + 1), s) := by
      rw [rd_in (by omega) (by omega), t2, wr_ok (x := st e + s 108 (16 + e)) (by omega) (by omega), lt_eq]
      exact nx
    unfold whr
    by_cases z1 : s 119 e ≠ r
    · rw [if_pos z1, if_neg (fun w => z1 w.1)]
      exact k105
    · rw [if_neg z1, rd_in (by omega) (by omega), rd_in (by omega) (by omega), rd_in (by omega) (by omega), Int.toNat_natCast, t2, wr_ok (x := s 120 e + s 108 (16 + e)) (by omega) (by omega), wr_ok (x := s 120 e + s 108 (16 + e) - 1) (by omega) (by omega), sp_in, bnd_some]
      simp only [tv_0]
      by_cases z2 : s 120 e ≤ f ∧ f ≤ s 120 e + s 108 (16 + e) - 1
      · rw [if_neg (fun w => w z2), if_pos ⟨by omega, by omega, by omega⟩, rd_in (by omega) (by omega), Int.toNat_natCast, wr_ok (x := st e + f) (by omega) (by omega), wr_ok (by omega) (by omega)]
      · rw [if_pos z2, if_neg (fun w => by omega)]
        exact k105
theorem op_where (a1 a2 : Int) : OP (fX10_where a1 a2) (fX11_where a1 a2) := by
  intro n s hn h
  obtain ⟨l1, l2, l3⟩ := h.lfr
  have l0 := h.lf
  have rb := h.rb
  have hn2 := l0.2.1
  have hn0 := l0.1
  obtain ⟨F, hF⟩ : ∃ F, FU = F := ⟨_, rfl⟩
  by_cases hg : (0 ≤ a1 ∧ a1 ≤ 7) ∧ (0 ≤ a2 ∧ a2 ≤ 100000)
  · obtain ⟨g1, g2⟩ := hg
    have cW : fX10_where a1 a2 s = if s 21 0 ≠ 0 then bnd (fX2_frameWith 20 a1 a2 s) (fun r5 s6 => some (r5, s6)) else some (-2, s) := by
      unfold fX10_where
      rw [sp_reel, bnd_some]
      simp only [tv_0]
      rw [if_neg (fun z => z g1), sp_within, bnd_some]
      simp only [ne_eq, tv_0, Decidable.not_not]
      rw [if_pos g2]
    have rW : fX11_where a1 a2 s = if s 100 19 ≠ 0 then LX11_where_37 a1 a2 (fun s16 => some ((-4), s16)) FU 0 0 s else some (-2, s) := by
      unfold fX11_where
      rw [sp_in, bnd_some]
      simp only [tv_0]
      rw [if_neg (fun z => z g1), sp_in, bnd_some]
      simp only [ne_eq, tv_0, Decidable.not_not]
      rw [if_pos g2]
    have e : F = (F - (s 21 0).toNat - 1) + (s 21 0).toNat + 1 := (by have : F = 1000000 := hF.symm; omega)
    rcases l3 with ⟨a, b⟩ | ⟨a, b⟩
    · exact OP.same h (r := -2) (by rw [cW, if_neg (by omega)]) (by rw [rW, if_neg (by omega)])
    · refine OP.same h (r := whr (s 32) (s 33) (fun k => s 108 (16 + k)) (s 22) a1 a2 (s 21 0).toNat 0) ?_ ?_
      · rw [cW, if_pos (by omega)]
        unfold fX2_frameWith
        rw [hF, e]
        exact (congrArg (fun x => bnd x _) (c_whereL s l0 rb.1 g2 (s 21 0).toNat (F - (s 21 0).toNat - 1) 0 (by omega))).trans rfl
      · rw [rW, if_pos (by omega), hF, e]
        have key := r_whereL (r := a1) (f := a2) s l1 rfl rb.2.1 g2 (s 21 0).toNat (F - (s 21 0).toNat - 1) 0 (by omega)
        rw [l1.2.2.1] at key
        refine key.trans ?_
        rw [whr_congr (re := s 32) (ed := s 33) (s 21 0).toNat 0 (fun k _ hk => rb.2.2 k (by omega))]
  · refine OP.same h (r := -1) ?_ ?_
    · unfold fX10_where
      simp only [sp_reel, sp_within, bnd_some, tv_0, ne_eq, Decidable.not_not]
      repeat' split
      all_goals first | rfl | (exfalso; omega) | (exfalso; simp_all; done) | (exfalso; simp_all; omega)
    · unfold fX11_where
      simp only [sp_in, bnd_some, tv_0, ne_eq, Decidable.not_not]
      repeat' split
      all_goals first | rfl | (exfalso; omega) | (exfalso; simp_all; done) | (exfalso; simp_all; omega)
