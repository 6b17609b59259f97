/-! missing -/
def ALL (re ed fr fi fn lo : Int) : Bool := decide ((0 ≤ re ∧ re ≤ 7) ∧ lo = 0 ∧ fi ≤ ed ∧ ed + fr ≤ fi + fn)
def mss (p : Nat → Bool) : Nat → Nat → Int → Int
  | 0, _, v => v
  | j + 1, e, v => mss p j (e + 1) (if p e = true then v else iir v (ish 1 e))
theorem iir_0 {v : Int} (h : ∃ x : Int32, v = x.toInt) : iir v 0 = v := by
  obtain ⟨x, rfl⟩ := h
  unfold iir
  rw [i32_bk, show i32 0 = 0 from rfl, Int32.or_zero]
/-- REELS on both sides -/
def RE8 (fi fn lo fi' fn' sta : Nat → Int) : Prop := ∀ k, k < 8 → fi k = fi' k ∧ fn k = fn' k ∧ 0 ≤ fi k ∧ fi k ≤ 100000 ∧ 0 ≤ fn k ∧ fn k ≤ 2000 ∧ ((sta k = 0 ∧ fn k = 0 ∧ lo k = 0) ∨ (sta k = 1 ∧ 1 ≤ fn k ∧ lo k = 0) ∨ (sta k = 2 ∧ 1 ≤ fn k ∧ lo k = 1))
theorem Rel.re8 {n : Nat} {s : Mem} (h : Rel n s) : RE8 (s 35) (s 36) (s 37) (s 121) (s 122) (s 123) := by
  intro k hk
  have := h.jb.2.2.1 k hk
  rw [show 8 * 0 + k = k by omega] at this
  exact this
theorem c_isMissing {fr : Nat → Int} (s : Mem) (h : LF (s 21 0) (s 22) fr) (hr : RB (s 32) (s 33)) (h8 : RE8 (s 35) (s 36) (s 37) (s 121) (s 122) (s 123)) {k : Nat} (hk : (k : Int) < s 21 0) :
    fX2_isMissing 20 k s = some (if ALL (s 32 k) (s 33 k) (fr k) (s 35 (s 32 k).toNat) (s 36 (s 32 k).toNat) (s 37 (s 32 k).toNat) = true then 0 else 1, s) := by
  have hn := h.2.1
  have r := hr k (by omega)
  have f1 := h.2.2.2 k hk
  unfold fX2_isMissing
  simp only [Nat.reduceAdd]
  rw [rd_in (by omega) (by omega), rd_in (by omega) (by omega), Int.toNat_natCast, c_framesOf s h hk, bnd_some]
  unfold fX5_hasAll
  simp only [Nat.reduceAdd]
  rw [sp_reel, bnd_some]
  simp only [tv_0]
  by_cases z1 : 0 ≤ s 32 k ∧ s 32 k ≤ 7
  · have q := h8 (s 32 k).toNat (by omega)
    rw [if_neg (fun w => w z1), rd_in (by omega) (by omega), rd_in (by omega) (by omega), rd_in (by omega) (by omega), rd_in (by omega) (by omega), wr_ok (x := s 35 (s 32 k).toNat + s 36 (s 32 k).toNat) (by omega) (by omega), wr_ok (x := s 33 k + fr k) (by omega) (by omega)]
    by_cases z : ALL (s 32 k) (s 33 k) (fr k) (s 35 (s 32 k).toNat) (s 36 (s 32 k).toNat) (s 37 (s 32 k).toNat) = true
    · rw [if_pos z]
      unfold ALL at z
      have z := of_decide_eq_true z
      rw [if_pos z.2.1, if_neg (by omega), if_neg (by omega), zr_1, bnd_some, if_pos (by omega)]; rfl
    · rw [if_neg z]
      unfold ALL at z
      have z : ¬ _ := fun w => z (decide_eq_true w)
      by_cases y1 : s 37 (s 32 k).toNat = 0
      · rw [if_pos y1]
        by_cases y2 : s 33 k < s 35 (s 32 k).toNat
        · rw [if_pos y2, zr_0, bnd_some, if_neg (by omega)]; rfl
        · rw [if_neg y2]
          by_cases y3 : s 35 (s 32 k).toNat + s 36 (s 32 k).toNat < s 33 k + fr k
          · rw [if_pos y3, zr_0, bnd_some, if_neg (by omega)]; rfl
          · exact absurd ⟨z1, y1, by omega, by omega⟩ z
      · rw [if_neg y1, zr_0, bnd_some, if_neg (by omega)]; rfl
  · rw [if_pos z1, zr_0, bnd_some, if_neg (by omega), if_neg]
    · rfl
    · intro w
      unfold ALL at w
      exact z1 (of_decide_eq_true w).1
theorem c_missL {fr : Nat → Int} (s : Mem) (k : Int → Mem → Option Res) (h : LF (s 21 0) (s 22) fr) (hr : RB (s 32) (s 33)) (h8 : RE8 (s 35) (s 36) (s 37) (s 121) (s 122) (s 123)) : ∀ (j m e : Nat) (v : Int), ((e + j : Nat) : Int) = s 21 0 →
    LX10_missing_20 k (m + j + 1) v e s = k (mss (fun k => ALL (s 32 k) (s 33 k) (fr k) (s 35 (s 32 k).toNat) (s 36 (s 32 k).toNat) (s 37 (s 32 k).toNat)) j e v) s := by
  have hn := h.2.1
  intro j
  induction j with
  | zero =>
    intro m e v he
    show (if s 21 0 ≤ (e : Int) then _ else _) = _
    rw [if_pos (by omega)]; rfl
  | succ j ih =>
    intro m e v he
    have nx : ∀ v' : Int, LX10_missing_20 k (m + j + 1) v' ((e : Int) + 1) s = k (mss (fun k => ALL (s 32 k) (s 33 k) (fr k) (s 35 (s 32 k).toNat) (s 36 (s 32 k).toNat) (s 37 (s 32 k).toNat)) j (e + 1) v') s := fun v' => ih m (e + 1) v' (by omega)
    show (if s 21 0 ≤ (e : Int) then _ else _) = _
    rw [if_neg (by omega), c_isMissing s h hr h8 (by omega), bnd_some, wr_ok (x := (e : Int) + 1) (by omega) (by omega), lt_eq]
    unfold mss
    by_cases z : ALL (s 32 e) (s 33 e) (fr e) (s 35 (s 32 e).toNat) (s 36 (s 32 e).toNat) (s 37 (s 32 e).toNat) = true
    · rw [if_pos z, if_pos rfl, if_pos z]
      exact nx v
    · rw [if_neg z, if_neg (by omega), if_neg z]
      exact nx _
theorem r_missL {n : Int} {st fi fn lo : Nat → Int} (s : Mem) (k : Int → Mem → Option Res) (h : LF n st (fun k => s 108 (16 + k))) (hn1 : n = s 106 1) (hr : RB (s 119) (s 120)) (h8 : RE8 fi fn lo (s 121) (s 122) (s 123)) : ∀ (j m e : Nat) (v : Int), ((e + j : Nat) : Int) = n → (∃ x : Int32, v = x.toInt) →
    LX11_missing_14 k (m + j + 1) v e s = k (mss (fun k => ALL (s 119 k) (s 120 k) (s 108 (16 + k)) (fi (s 119 k).toNat) (fn (s 119 k).toNat) (lo (s 119 k).toNat)) j e v) s := by
  have hn := h.2.1
  intro j
  induction j with
  | zero =>
    intro m e v he hv
    show (rd (s 106) 1 4 fun v1 => if v1 ≤ (e : Int) then _ else _) = _
    rw [rd_in (by omega) (by omega), show ((1 : Int).toNat) = 1 from rfl, if_pos (by omega)]; rfl
  | succ j ih =>
    intro m e v he hv
    have r := hr e (by omega)
    have f1 := h.2.2.2 e (by omega)
    dsimp only at f1
    have t2 : (16 + (e : Int)).toNat = 16 + e := by omega
    have nx : ∀ v' : Int, (∃ x : Int32, v' = x.toInt) → LX11_missing_14 k (m + j + 1) v' ((e : Int) + 1) s = k (mss (fun k => ALL (s 119 k) (s 120 k) (s 108 (16 + k)) (fi (s 119 k).toNat) (fn (s 119 k).toNat) (lo (s 119 k).toNat)) j (e + 1) v') s := fun v' hv' => ih m (e + 1) v' (by omega) hv'
    show (rd (s 106) 1 4 fun v1 => if v1 ≤ (e : Int) then _ else _) = _
    rw [rd_in (by omega) (by omega), show ((1 : Int).toNat) = 1 from rfl, if_neg (by omega), rd_in (by omega) (by omega), Int.toNat_natCast, jn_eq, wr_ok (x := (e : Int) + 1) (by omega) (by omega), wr_ok (x := 16 + (e : Int)) (by omega) (by omega)]
    simp only [lt_eq, iir_0 hv]
    unfold mss
    have no : ¬ (ALL (s 119 e) (s 120 e) (s 108 (16 + e)) (fi (s 119 e).toNat) (fn (s 119 e).toNat) (lo (s 119 e).toNat) = true) → (if (0 : Int) = 0 then LX11_missing_14 k (m + j + 1) (iir v (ish 1 e)) ((e : Int) + 1) s else LX11_missing_14 k (m + j + 1) v ((e : Int) + 1) s) = k (mss (fun k => ALL (s 119 k) (s 120 k) (s 108 (16 + k)) (fi (s 119 k).toNat) (fn (s 119 k).toNat) (lo (s 119 k).toNat)) j (e + 1) (if ALL (s 119 e) (s 120 e) (s 108 (16 + e)) (fi (s 119 e).toNat) (fn (s 119 e).toNat) (lo (s 119 e).toNat) = true then v else iir v (ish 1 e))) s := by
      intro z
      rw [if_pos rfl, if_neg z]
      exact nx _ ⟨_, rfl⟩
    have zz : ¬ ((0 ≤ s 119 e ∧ s 119 e ≤ 7) ∧ lo (s 119 e).toNat = 0 ∧ fi (s 119 e).toNat ≤ s 120 e ∧ s 120 e + s 108 (16 + e) ≤ fi (s 119 e).toNat + fn (s 119 e).toNat) → ¬ (ALL (s 119 e) (s 120 e) (s 108 (16 + e)) (fi (s 119 e).toNat) (fn (s 119 e).toNat) (lo (s 119 e).toNat) = true) := by
      intro a b
      unfold ALL at b
      exact a (of_decide_eq_true b)
    by_cases y0 : s 119 e < 0
    · rw [if_pos y0]
      exact no (zz (fun w => by omega))
    · have q := h8 (s 119 e).toNat (by omega)
      rw [if_neg y0, rd_in (by omega) (by omega)]
      by_cases y1 : s 123 (s 119 e).toNat ≠ 1
      · rw [if_pos y1]
        exact no (zz (fun w => by omega))
      · rw [if_neg y1, rd_in (by omega) (by omega), rd_in (by omega) (by omega), Int.toNat_natCast]
        by_cases y2 : s 120 e < s 121 (s 119 e).toNat
        · rw [if_pos y2]
          exact no (zz (fun w => by omega))
        · rw [if_neg y2, rd_in (by omega) (by omega), rd_in (by omega) (by omega), rd_in (by omega) (by omega), rd_in (by omega) (by omega), Int.toNat_natCast, t2, wr_ok (x := s 121 (s 119 e).toNat + s 122 (s 119 e).toNat) (by omega) (by omega), wr_ok (x := s 120 e + s 108 (16 + e)) (by omega) (by omega)]
          by_cases y3 : s 121 (s 119 e).toNat + s 122 (s 119 e).toNat < s 120 e + s 108 (16 + e)
          · rw [if_pos y3]
            exact no (zz (fun w => by omega))
          · rw [if_neg y3, if_neg (by omega), if_pos]
            · exact nx v hv
            · unfold ALL
              exact decide_eq_true ⟨⟨by omega, by omega⟩, by omega, by omega, by omega⟩
theorem mss_congr {p p' : Nat → Bool} : ∀ (j e : Nat) (v : Int), (∀ k, e ≤ k → k < e + j → p k = p' k) → mss p j e v = mss p' j e v := by
  intro j
  induction j with
  | zero => intro e v _; rfl
  | succ j ih =>
    intro e v h
    unfold mss
    rw [ih (e + 1) _ (fun k a b => h k (by omega) (by omega)), h e (by omega) (by omega)]
theorem op_missing : OP fX10_missing fX11_missing := by
  intro n s hn h
  obtain ⟨l1, l2, l3⟩ := h.lfr
  have l0 := h.lf
  have rb := h.rb
  have hn2 := l0.2.1
  have hn0 := l0.1
  obtain ⟨F, hF⟩ : ∃ F, FU = F := ⟨_, rfl⟩
  have e : F = (F - (s 21 0).toNat - 1) + (s 21 0).toNat + 1 := (by have : F = 1000000 := hF.symm; omega)
  rcases l3 with ⟨a, b⟩ | ⟨a, b⟩
  · exact OP.same h (r := -2) (by unfold fX10_missing; rw [if_neg (by omega)]) (by unfold fX11_missing; rw [if_neg (by omega)])
  · refine OP.same h (r := mss (fun k => ALL (s 32 k) (s 33 k) (s 108 (16 + k)) (s 35 (s 32 k).toNat) (s 36 (s 32 k).toNat) (s 37 (s 32 k).toNat)) (s 21 0).toNat 0 0) ?_ ?_
    · unfold fX10_missing
      rw [if_pos (by omega), hF, e]
      exact c_missL (fr := fun k => s 108 (16 + k)) s _ l0 rb.1 h.re8 (s 21 0).toNat _ 0 0 (by omega)
    · unfold fX11_missing
      rw [if_pos (by omega), hF, e]
      refine (r_missL s _ l1 rfl rb.2.1 h.re8 (s 21 0).toNat _ 0 0 (by omega) ⟨0, rfl⟩).trans ?_
      rw [mss_congr (p := fun k => ALL (s 32 k) (s 33 k) (s 108 (16 + k)) (s 35 (s 32 k).toNat) (s 36 (s 32 k).toNat) (s 37 (s 32 k).toNat)) (s 21 0).toNat 0 0 (fun k _ hk => ?_)]
      have := rb.2.2 k (by omega)
      rw [this.1, this.2]
