/-! mend -/
def sf (s : Mem) (p : Nat) (f : Nat → Int) : Mem := fun q => if q = p then f else s q
theorem sf_ne (s : Mem) (p : Nat) (f : Nat → Int) {q : Nat} (h : q ≠ p) : sf s p f q = s q := if_neg h
theorem sf_eq (s : Mem) (p : Nat) (f : Nat → Int) : sf s p f p = f := if_pos rfl
theorem sf_up (s : Mem) (p i : Nat) (v : Int) (f : Nat → Int) : sf (up s p i v) p f = sf s p f := by
  funext q
  by_cases h : q = p
  · subst h; rw [sf_eq, sf_eq]
  · rw [sf_ne _ _ _ h, sf_ne _ _ _ h, up_ne _ _ _ _ h]
theorem sf_self (s : Mem) (p : Nat) : sf s p (s p) = s := by
  funext q
  by_cases h : q = p
  · subst h; rw [sf_eq]
  · rw [sf_ne _ _ _ h]
def mdf (re ed fr ho : Nat → Int) (e j : Nat) : Nat → Int := fun i => if e ≤ i ∧ i < e + j ∧ SP re ed fr i ∧ ho i = 0 then 80 else ho i
theorem mdf_0 (re ed fr ho : Nat → Int) (e : Nat) : mdf re ed fr ho e 0 = ho := by
  funext i; unfold mdf; rw [if_neg (fun h => by omega)]
theorem mdf_y {re ed fr ho : Nat → Int} {e j : Nat} (h : SP re ed fr e ∧ ho e = 0) : mdf re ed fr (fun i => if i = e then 80 else ho i) (e + 1) j = mdf re ed fr ho e (j + 1) := by
  funext i; unfold mdf
  by_cases hi : i = e
  · subst hi
    rw [if_neg (fun h => by omega), if_pos ⟨by omega, by omega, h⟩]
    show (if i = i then (80 : Int) else ho i) = 80
    rw [if_pos rfl]
  · simp only [if_neg hi]
    by_cases hz : e + 1 ≤ i ∧ i < e + 1 + j ∧ SP re ed fr i ∧ ho i = 0
    · rw [if_pos hz, if_pos ⟨by omega, by omega, hz.2.2⟩]
    · rw [if_neg hz, if_neg (fun w => hz ⟨by omega, by omega, w.2.2⟩)]
theorem mdf_n {re ed fr ho : Nat → Int} {e j : Nat} (h : ¬ (SP re ed fr e ∧ ho e = 0)) : mdf re ed fr ho (e + 1) j = mdf re ed fr ho e (j + 1) := by
  funext i; unfold mdf
  by_cases hi : i = e
  · subst hi
    rw [if_neg (fun h => by omega), if_neg (fun w => h w.2.2)]
  · by_cases hz : e + 1 ≤ i ∧ i < e + 1 + j ∧ SP re ed fr i ∧ ho i = 0
    · rw [if_pos hz, if_pos ⟨by omega, by omega, hz.2.2⟩]
    · rw [if_neg hz, if_neg (fun w => hz ⟨by omega, by omega, w.2.2⟩)]
theorem c_mendL {fr : Nat → Int} {c : Int} (k : Mem → Option Res) : ∀ (j m e : Nat) (s : Mem), LF (s 21 0) (s 22) fr → RB (s 32) (s 33) → j = (s 21 0).toNat - 1 - e → e < 16 → LX2_mendOpen_7 20 c k (m + j + 1) e s = k (sf s 38 (mdf (s 32) (s 33) fr (s 38) e j)) := by
  intro j
  induction j with
  | zero =>
    intro m e s h hr hj he
    have hn := h.2.1
    rw [LX2_mendOpen_7]
    simp only [Nat.reduceAdd]
    rw [wr_ok (x := (e : Int) + 1) (by omega) (by omega), if_pos (by omega), mdf_0, sf_self]
  | succ j ih =>
    intro m e s h hr hj he
    have hn := h.2.1
    rw [LX2_mendOpen_7]
    simp only [Nat.reduceAdd]
    rw [wr_ok (x := (e : Int) + 1) (by omega) (by omega), if_neg (by omega), c_isOpen s h hr (by omega), bnd_some]
    simp only [tv_0]
    by_cases z : SP (s 32) (s 33) fr e ∧ s 38 e = 0
    · rw [if_neg (fun w => w z), ST_in (by omega) (by omega), Int.toNat_natCast]
      have i2 := ih m (e + 1) (up s 38 e 80)
      simp only [ne_eq, not_false_eq_true, up_ne, up_eq, Nat.reduceEqDiff, sf_up, mdf_y z] at i2
      exact i2 h hr (by omega) (by omega)
    · rw [if_pos z, ← mdf_n z]
      exact ih m (e + 1) s h hr (by omega) (by omega)
theorem r_mendL {n : Int} {st : Nat → Int} (k : Int → Mem → Option Res) : ∀ (j m e : Nat) (v : Int) (s : Mem), LF n st (fun k => s 108 (16 + k)) → n = s 106 1 → s 100 19 ≠ 0 → 0 < n → RB (s 119) (s 120) → j = n.toNat - 1 - e → e < 16 → 0 ≤ v ∧ v ≤ e →
    LX11_mend_4 k (m + j + 1) v e s = k (opc (s 119) (s 120) (fun k => s 108 (16 + k)) (s 124) j e v) (sf s 124 (mdf (s 119) (s 120) (fun k => s 108 (16 + k)) (s 124) e j)) := by
  intro j
  induction j with
  | zero =>
    intro m e v s h hn hl h0 hr hj he hv
    have hn2 := h.2.1
    show (if s 100 19 = 0 then _ else _) = _
    rw [if_neg hl, rd_in (by omega) (by omega), show ((1 : Int).toNat) = 1 from rfl, wr_ok (x := s 106 1 - 1) (by omega) (by omega), if_pos (by omega), mdf_0, sf_self]; rfl
  | succ j ih =>
    intro m e v s h hn hl h0 hr hj he hv
    have hn2 := h.2.1
    show (if s 100 19 = 0 then _ else _) = _
    rw [if_neg hl, rd_in (by omega) (by omega), show ((1 : Int).toNat) = 1 from rfl, wr_ok (x := s 106 1 - 1) (by omega) (by omega), if_neg (by omega), r_isSpliced s h hr (by omega), bnd_some, wr_ok (x := v + 1) (by omega) (by omega), wr_ok (x := (e : Int) + 1) (by omega) (by omega)]
    simp only [tv_0]
    have no : ¬ (SP (s 119) (s 120) (fun k => s 108 (16 + k)) e ∧ s 124 e = 0) → LX11_mend_4 k (m + j + 1) v ((e : Int) + 1) s = k (opc (s 119) (s 120) (fun k => s 108 (16 + k)) (s 124) (j + 1) e v) (sf s 124 (mdf (s 119) (s 120) (fun k => s 108 (16 + k)) (s 124) e (j + 1))) := by
      intro z
      rw [← mdf_n z]
      unfold opc
      rw [if_neg z]
      exact ih m (e + 1) v s h hn hl h0 hr (by omega) (by omega) (by omega)
    by_cases z : SP (s 119) (s 120) (fun k => s 108 (16 + k)) e
    · rw [if_neg (fun w => w z), rd_in (by omega) (by omega), Int.toNat_natCast]
      by_cases z2 : s 124 e = 0
      · rw [if_neg (fun w => w z2), ST_in (by omega) (by omega), Int.toNat_natCast]
        have i2 := ih m (e + 1) (v + 1) (up s 124 e 80)
        simp only [ne_eq, not_false_eq_true, up_ne, up_eq, Nat.reduceEqDiff, sf_up] at i2
        rw [mdf_y ⟨z, z2⟩] at i2
        have i3 := i2 h hn hl h0 hr (by omega) (by omega) (by omega)
        refine i3.trans ?_
        have e1 : opc (s 119) (s 120) (fun k => s 108 (16 + k)) (s 124) (j + 1) e v = opc (s 119) (s 120) (fun k => s 108 (16 + k)) (fun i => if i = e then 80 else s 124 i) j (e + 1) (v + 1) := by
          rw [opc, if_pos ⟨z, z2⟩]
          exact opc_congr _ _ _ (fun k a b => ⟨rfl, by rw [if_neg (by omega)]⟩)
        rw [e1]
      · rw [if_pos z2]
        exact no (fun w => z2 w.2)
    · rw [if_pos z]
      exact no (fun w => z w.1)
