/-! open SPLICES: how many -/
def opc (re ed fr ho : Nat → Int) : Nat → Nat → Int → Int
  | 0, _, v => v
  | j + 1, e, v => opc re ed fr ho j (e + 1) (if SP re ed fr e ∧ ho e = 0 then v + 1 else v)
theorem opc_congr {re ed fr ho re' ed' fr' ho' : Nat → Int} : ∀ (j e : Nat) (v : Int), (∀ k, e ≤ k → k < e + j → SP re ed fr k = SP re' ed' fr' k ∧ ho k = ho' k) → opc re ed fr ho j e v = opc re' ed' fr' ho' j e v := by
  intro j
  induction j with
  | zero => intro e v _; rfl
  | succ j ih =>
    intro e v h
    have h1 := h e (by omega) (by omega)
    unfold opc
    rw [ih (e + 1) _ (fun k a b => h k (by omega) (by omega))]
    congr 1
    simp only [h1.1, h1.2]
theorem c_isOpen {fr : Nat → Int} (s : Mem) (h : LF (s 21 0) (s 22) fr) (hr : RB (s 32) (s 33)) {k : Nat} (hk : (k : Int) + 1 < s 21 0) : fX2_isOpen 20 k s = some (tv (SP (s 32) (s 33) fr k ∧ s 38 k = 0), s) := by
  have hn := h.2.1
  unfold fX2_isOpen
  rw [c_isSpliced s h hr hk, bnd_some]
  simp only [tv_0, Nat.reduceAdd]
  unfold tv
  by_cases z : SP (s 32) (s 33) fr k
  · rw [if_neg (fun w => w z), rd_in (by omega) (by omega), Int.toNat_natCast]
    by_cases z2 : s 38 k = 0
    · rw [if_neg (fun w => w z2), if_pos ⟨z, z2⟩]; rfl
    · rw [if_pos z2, if_neg (fun w => z2 w.2)]; rfl
  · rw [if_pos z, if_neg (fun w => z w.1)]; rfl
theorem c_openL {fr : Nat → Int} (s : Mem) (k : Int → Mem → Option Res) (h : LF (s 21 0) (s 22) fr) (hr : RB (s 32) (s 33)) : ∀ (j m e : Nat) (v : Int), j = (s 21 0).toNat - 1 - e → 0 ≤ v ∧ v ≤ e → e < 16 → LX2_countOpen_4 20 k (m + j + 1) v e s = k (opc (s 32) (s 33) fr (s 38) j e v) s := by
  have hn := h.2.1
  intro j
  induction j with
  | zero =>
    intro m e v hj hv he
    rw [LX2_countOpen_4]
    simp only [Nat.reduceAdd]
    rw [wr_ok (x := (e : Int) + 1) (by omega) (by omega), if_pos (by omega)]; rfl
  | succ j ih =>
    intro m e v hj hv he
    have nx : ∀ v' : Int, 0 ≤ v' ∧ v' ≤ (e : Int) + 1 → LX2_countOpen_4 20 k (m + j + 1) v' ((e : Int) + 1) s = k (opc (s 32) (s 33) fr (s 38) j (e + 1) v') s := fun v' hv' => ih m (e + 1) v' (by omega) (by omega) (by omega)
    rw [LX2_countOpen_4]
    simp only [Nat.reduceAdd]
    rw [wr_ok (x := (e : Int) + 1) (by omega) (by omega), if_neg (by omega), c_isOpen s h hr (by omega), bnd_some, wr_ok (x := v + 1) (by omega) (by omega)]
    simp only [tv_0]
    unfold opc
    by_cases z : SP (s 32) (s 33) fr e ∧ s 38 e = 0
    · rw [if_neg (fun w => w z), if_pos z]
      exact nx _ (by omega)
    · rw [if_pos z, if_neg z]
      exact nx _ (by omega)
theorem c_countOpen {fr : Nat → Int} (s : Mem) (h : LF (s 21 0) (s 22) fr) (hr : RB (s 32) (s 33)) : fX2_countOpen 20 s = some (opc (s 32) (s 33) fr (s 38) ((s 21 0).toNat - 1) 0 0, s) := by
  have hn := h.2.1
  obtain ⟨F, hF⟩ : ∃ F, FU = F := ⟨_, rfl⟩
  unfold fX2_countOpen
  have e : F = (F - ((s 21 0).toNat - 1) - 1) + ((s 21 0).toNat - 1) + 1 := (by have : F = 1000000 := hF.symm; omega)
  rw [hF, e]
  exact c_openL s _ h hr ((s 21 0).toNat - 1) _ 0 0 (by omega) (by omega) (by omega)
theorem r_openL {n : Int} {st : Nat → Int} (s : Mem) (k : Int → Mem → Option Res) (h : LF n st (fun k => s 108 (16 + k))) (hn : n = s 106 1) (hl : s 100 19 ≠ 0) (h0 : 0 < n) (hr : RB (s 119) (s 120)) : ∀ (j m e : Nat) (v : Int), j = n.toNat - 1 - e → 0 ≤ v ∧ v ≤ e → e < 16 → LX11_openMany_4 k (m + j + 1) v e s = k (opc (s 119) (s 120) (fun k => s 108 (16 + k)) (s 124) j e v) s := by
  have hn2 := h.2.1
  intro j
  induction j with
  | zero =>
    intro m e v hj hv he
    show (if s 100 19 = 0 then _ else _) = _
    rw [if_neg hl, rd_in (by omega) (by omega), show ((1 : Int).toNat) = 1 from rfl, wr_ok (x := s 106 1 - 1) (by omega) (by omega), if_pos (by omega)]; rfl
  | succ j ih =>
    intro m e v hj hv he
    have nx : ∀ v' : Int, 0 ≤ v' ∧ v' ≤ (e : Int) + 1 → LX11_openMany_4 k (m + j + 1) v' ((e : Int) + 1) s = k (opc (s 119) (s 120) (fun k => s 108 (16 + k)) (s 124) j (e + 1) v') s := fun v' hv' => ih m (e + 1) v' (by omega) (by omega) (by omega)
    show (if s 100 19 = 0 then _ else _) = _
    rw [if_neg hl, rd_in (by omega) (by omega), show ((1 : Int).toNat) = 1 from rfl, wr_ok (x := s 106 1 - 1) (by omega) (by omega), if_neg (by omega), r_isSpliced s h hr (by omega), bnd_some, wr_ok (x := v + 1) (by omega) (by omega), wr_ok (x := v + 0) (by omega) (by omega), wr_ok (x := (e : Int) + 1) (by omega) (by omega)]
    simp only [tv_0, lt_eq, Int.add_zero]
    unfold opc
    by_cases z : SP (s 119) (s 120) (fun k => s 108 (16 + k)) e
    · rw [if_neg (fun w => w z), rd_in (by omega) (by omega), Int.toNat_natCast]
      by_cases z2 : s 124 e = 0
      · rw [if_neg (fun w => w z2), if_pos ⟨z, z2⟩]
        exact nx _ (by omega)
      · rw [if_pos z2, if_neg (fun w => z2 w.2)]
        exact nx _ (by omega)
    · rw [if_pos z, if_neg (fun w => z w.1)]
      exact nx _ (by omega)
theorem r_openMany {st : Nat → Int} (s : Mem) (h : LF (s 106 1) st (fun k => s 108 (16 + k))) (hl : RLd (s 100 19) (s 106 1)) (hr : RB (s 119) (s 120)) : fX11_openMany s = some (opc (s 119) (s 120) (fun k => s 108 (16 + k)) (s 124) ((s 106 1).toNat - 1) 0 0, s) := by
  have hn := h.2.1
  obtain ⟨F, hF⟩ : ∃ F, FU = F := ⟨_, rfl⟩
  unfold fX11_openMany
  have e : F = (F - ((s 106 1).toNat - 1) - 1) + ((s 106 1).toNat - 1) + 1 := (by have : F = 1000000 := hF.symm; omega)
  rw [hF, e]
  rcases hl with ⟨a, b⟩ | ⟨a, b⟩
  · show (if s 100 19 = 0 then _ else _) = _
    rw [if_pos a, b]; rfl
  · exact r_openL s _ h rfl (by omega) b hr ((s 106 1).toNat - 1) _ 0 0 (by omega) (by omega) (by omega)
theorem Rel.opc {n : Nat} {s : Mem} (h : Rel n s) : opc (s 119) (s 120) (fun k => s 108 (16 + k)) (s 124) ((s 106 1).toNat - 1) 0 0 = opc (s 32) (s 33) (fun k => s 108 (16 + k)) (s 38) ((s 21 0).toNat - 1) 0 0 := by
  obtain ⟨l1, l2, l3⟩ := h.lfr
  have hn2 := l1.2.1
  rw [← l2]
  exact opc_congr _ _ _ (fun k a b => ⟨(h.sp (by omega)).symm, (h.ho (by omega) (by omega)).1.symm⟩)
/-! count -/
def tol (f : Nat → Int) : Nat → Nat → Int → Int
  | 0, _, v => v
  | j + 1, e, v => tol f j (e + 1) (if 0 < f e then v + 1 else v)
theorem tol_congr {f g : Nat → Int} : ∀ (j e : Nat) (v : Int), (∀ k, e ≤ k → k < e + j → (0 < f k) = (0 < g k)) → tol f j e v = tol g j e v := by
  intro j
  induction j with
  | zero => intro e v _; rfl
  | succ j ih =>
    intro e v h
    unfold tol
    rw [ih (e + 1) _ (fun k a b => h k (by omega) (by omega))]
    congr 1
    simp only [h e (by omega) (by omega)]
theorem c_tolL (s : Mem) (k : Int → Mem → Option Res) : ∀ (j m e : Nat) (v : Int), e + j = 8 → 0 ≤ v ∧ v ≤ e → LX5_countTold_4 34 k (m + j + 1) v e s = k (tol (s 36) j e v) s := by
  intro j
  induction j with
  | zero =>
    intro m e v hj hv
    show (if 8 ≤ (e : Int) then _ else _) = _
    rw [if_pos (by omega)]; rfl
  | succ j ih =>
    intro m e v hj hv
    have nx : ∀ v' : Int, 0 ≤ v' ∧ v' ≤ (e : Int) + 1 → LX5_countTold_4 34 k (m + j + 1) v' ((e : Int) + 1) s = k (tol (s 36) j (e + 1) v') s := fun v' hv' => ih m (e + 1) v' (by omega) (by omega)
    show (if 8 ≤ (e : Int) then _ else _) = _
    rw [if_neg (by omega), wr_ok (x := v + 1) (by omega) (by omega), wr_ok (x := (e : Int) + 1) (by omega) (by omega)]
    unfold fX5_isTold
    rw [rd_in (by omega) (by omega), Int.toNat_natCast]
    simp only [Nat.reduceAdd]
    unfold tol
    by_cases z : s 36 e ≤ 0
    · rw [if_pos z, zr_0, bnd_some, if_pos rfl, if_neg (by omega)]
      exact nx _ (by omega)
    · rw [if_neg z, zr_1, bnd_some, if_neg (by omega), if_pos (by omega)]
      exact nx _ (by omega)
theorem r_tolL (s : Mem) (k : Int → Mem → Option Res) : ∀ (j m e : Nat) (v : Int), e + j = 8 → 0 ≤ v ∧ v ≤ e → LX11_count_56 k (m + j + 1) v e s = k (tol (s 123) j e v) s := by
  intro j
  induction j with
  | zero =>
    intro m e v hj hv
    show (if 8 ≤ (e : Int) then _ else _) = _
    rw [if_pos (by omega)]; rfl
  | succ j ih =>
    intro m e v hj hv
    have nx : ∀ v' : Int, 0 ≤ v' ∧ v' ≤ (e : Int) + 1 → LX11_count_56 k (m + j + 1) v' ((e : Int) + 1) s = k (tol (s 123) j (e + 1) v') s := fun v' hv' => ih m (e + 1) v' (by omega) (by omega)
    show (if 8 ≤ (e : Int) then _ else _) = _
    rw [if_neg (by omega), wr_ok (x := v + 1) (by omega) (by omega), wr_ok (x := v + 0) (by omega) (by omega), wr_ok (x := (e : Int) + 1) (by omega) (by omega), rd_in (by omega) (by omega), Int.toNat_natCast]
    simp only [lt_eq, Int.add_zero]
    unfold tol
    by_cases z : s 123 e ≤ 0
    · rw [if_pos z, if_neg (by omega)]
      exact nx _ (by omega)
    · rw [if_neg z, if_pos (by omega)]
      exact nx _ (by omega)
theorem op_count (a1 : Int) : OP (fX10_count a1) (fX11_count a1) := by
  intro n s hn h
  obtain ⟨l1, l2, l3⟩ := h.lfr
  have l0 := h.lf
  have jb := h.jb
  have op := h.opc
  have rb := h.rb
  have x1 : s 8 1 = s 100 20 ∧ s 83 3 = s 100 38 ∧ s 89 4 = s 100 42 ∧ s 0 12 = s 100 31 ∧ s 0 13 = s 100 32 := by
    obtain ⟨h1, h2, h3, h4, h5, h6, h7, h8, h9, h10, h11, h12, h13, h14⟩ := h
    exact ⟨h3.1, h11.1, h12.1, h14.1, h14.2.2.2.1⟩
  obtain ⟨F, hF⟩ : ∃ F, FU = F := ⟨_, rfl⟩
  have e : F = (F - 9) + 8 + 1 := (by have : F = 1000000 := hF.symm; omega)
  by_cases z0 : a1 = 0
  · exact OP.same h (r := s 8 1) (by unfold fX10_count; rw [if_pos z0]) (by unfold fX11_count; rw [if_pos z0, x1.1])
  by_cases z1 : a1 = 1
  · exact OP.same h (r := s 83 3) (by unfold fX10_count; rw [if_neg z0, if_pos z1]) (by unfold fX11_count; rw [if_neg z0, if_pos z1, x1.2.1])
  by_cases z2 : a1 = 2
  · refine OP.same h (r := tol (s 36) 8 0 0) ?_ ?_
    · unfold fX10_count fX5_countTold
      rw [if_neg z0, if_neg z1, if_pos z2, hF, e]
      exact (congrArg (fun x => bnd x _) (c_tolL s (fun y4 s3 => some (y4, s3)) 8 (F - 9) 0 0 (by omega) (by omega))).trans rfl
    · unfold fX11_count
      rw [if_neg z0, if_neg z1, if_pos z2, hF, e]
      refine (r_tolL s _ 8 (F - 9) 0 0 (by omega) (by omega)).trans ?_
      rw [tol_congr (f := s 36) (g := s 123) 8 0 0 (fun k _ hk => ?_)]
      have j3 := jb.2.2.1 k (by omega)
      rw [show 8 * 0 + k = k by omega] at j3
      apply propext
      constructor <;> intro _ <;> omega
  by_cases z3 : a1 = 3
  · exact OP.same h (r := s 89 4) (by unfold fX10_count; rw [if_neg z0, if_neg z1, if_neg z2, if_pos z3]) (by unfold fX11_count; rw [if_neg z0, if_neg z1, if_neg z2, if_pos z3, x1.2.2.1])
  by_cases z4 : a1 = 4
  · refine OP.same h (r := opc (s 32) (s 33) (fun k => s 108 (16 + k)) (s 38) ((s 21 0).toNat - 1) 0 0) ?_ ?_
    · unfold fX10_count
      rw [if_neg z0, if_neg z1, if_neg z2, if_neg z3, if_pos z4, c_countOpen s l0 rb.1]; rfl
    · unfold fX11_count
      rw [if_neg z0, if_neg z1, if_neg z2, if_neg z3, if_pos z4, r_openMany s l1 l3 rb.2.1, op]; rfl
  by_cases z5 : a1 = 5
  · exact OP.same h (r := s 0 12) (by unfold fX10_count; rw [if_neg z0, if_neg z1, if_neg z2, if_neg z3, if_neg z4, if_pos z5]) (by unfold fX11_count; rw [if_neg z0, if_neg z1, if_neg z2, if_neg z3, if_neg z4, if_pos z5, x1.2.2.2.1])
  by_cases z6 : a1 = 6
  · exact OP.same h (r := s 0 13) (by unfold fX10_count; rw [if_neg z0, if_neg z1, if_neg z2, if_neg z3, if_neg z4, if_neg z5, if_pos z6]) (by unfold fX11_count; rw [if_neg z0, if_neg z1, if_neg z2, if_neg z3, if_neg z4, if_neg z5, if_pos z6, x1.2.2.2.2])
  · exact OP.same h (r := -1) (by unfold fX10_count; rw [if_neg z0, if_neg z1, if_neg z2, if_neg z3, if_neg z4, if_neg z5, if_neg z6]) (by unfold fX11_count; rw [if_neg z0, if_neg z1, if_neg z2, if_neg z3, if_neg z4, if_neg z5, if_neg z6])
