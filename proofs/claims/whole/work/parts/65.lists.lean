/-! frames and SHOTS of THE LIST -/
/-- what is used of THE LIST's rows -/
def LF (n : Int) (st fr : Nat → Int) : Prop := 0 ≤ n ∧ n ≤ 16 ∧ st 0 = 0 ∧ ∀ k : Nat, (k : Int) < n → st (k + 1) = st k + fr k ∧ 1 ≤ fr k ∧ fr k ≤ 400
theorem Rel.lf {n : Nat} {s : Mem} (h : Rel n s) : LF (s 21 0) (s 22) (fun k => s 108 (16 + k)) := by
  obtain ⟨-, -, -, -, h5, -⟩ := h
  obtain ⟨⟨-, -, a1, a2, -, -, a3⟩, b, -⟩ := h5
  refine ⟨a1, a2, a3, fun k hk => ?_⟩
  have := b k hk
  rw [show 16 * 1 + k = 16 + k by omega] at this
  exact ⟨this.1, this.2.1, this.2.2.1⟩
theorem LF.bd {n : Int} {st fr : Nat → Int} (h : LF n st fr) : ∀ k : Nat, (k : Int) ≤ n → (k : Int) ≤ st k ∧ st k ≤ 400 * k := by
  intro k
  induction k with
  | zero => intro _; rw [h.2.2.1]; omega
  | succ k ih =>
    intro hk
    have h1 := ih (by omega)
    have h2 := h.2.2.2 k (by omega)
    omega
theorem LF.mono {n : Int} {st fr : Nat → Int} (h : LF n st fr) : ∀ (d a : Nat), (a + d : Nat) ≤ n → st a + d ≤ st (a + d) := by
  intro d
  induction d with
  | zero => intro a _; simp
  | succ d ih =>
    intro a ha
    have h1 := ih a (by omega)
    have h2 := h.2.2.2 (a + d) (by omega)
    rw [show a + (d + 1) = a + d + 1 by omega]
    omega
theorem LF.lt {n : Int} {st fr : Nat → Int} (h : LF n st fr) {a b : Nat} (hab : a < b) (hb : (b : Int) ≤ n) : st a < st b := by
  have := h.mono (b - a) a (by omega)
  rw [show a + (b - a) = b by omega] at this
  omega
/-- the SHOT of a frame is one -/
theorem LF.one {n : Int} {st fr : Nat → Int} (h : LF n st fr) {a b : Nat} {f : Int} (ha : (a : Int) < n) (hb : (b : Int) < n) (a1 : st a ≤ f) (a2 : f < st (a + 1)) (b1 : st b ≤ f) (b2 : f < st (b + 1)) : a = b := by
  rcases Nat.lt_trichotomy a b with q | q | q
  · have : st (a + 1) ≤ st b := by
      rcases Nat.lt_or_ge (a + 1) b with z | z
      · have := h.lt z (by omega); omega
      · rw [show a + 1 = b by omega]; omega
    omega
  · exact q
  · have : st (b + 1) ≤ st a := by
      rcases Nat.lt_or_ge (b + 1) a with z | z
      · have := h.lt z (by omega); omega
      · rw [show b + 1 = a by omega]; omega
    omega
theorem c_shotL {f : Int} {fr : Nat → Int} (s : Mem) (k : Int → Mem → Option Res) (h : LF (s 21 0) (s 22) fr) (hf : f < s 22 (s 21 0).toNat) : ∀ (j m x : Nat), (x + j + 1 : Nat) = s 21 0 → s 22 x ≤ f → ∃ q : Nat, (q : Int) < s 21 0 ∧ s 22 q ≤ f ∧ f < s 22 (q + 1) ∧ LX6_shotAt_2 21 f k (m + j + 1) x s = k q s := by
  intro j
  induction j with
  | zero =>
    intro m x hx h1
    refine ⟨x, by omega, h1, ?_, ?_⟩
    · rw [show x + 1 = (s 21 0).toNat by omega]; exact hf
    · show (if wr (s 21 0 - 1) ≤ (x : Int) then _ else _) = _
      have := h.1; have := h.2.1
      rw [wr_ok (by omega) (by omega), if_pos (by omega)]
  | succ j ih =>
    intro m x hx h1
    have h2 := h.1; have h3 := h.2.1
    by_cases hq : f < s 22 (x + 1)
    · refine ⟨x, by omega, h1, hq, ?_⟩
      show (if wr (s 21 0 - 1) ≤ (x : Int) then _ else _) = _
      rw [wr_ok (by omega) (by omega), if_neg (by omega), wr_ok (x := (x : Int) + 1) (by omega) (by omega), rd_in (by omega) (by omega)]
      rw [show ((x : Int) + 1).toNat = x + 1 by omega]
      rw [if_pos hq]
    · obtain ⟨q, q1, q2, q3, q4⟩ := ih m (x + 1) (by omega) (by omega)
      refine ⟨q, q1, q2, q3, ?_⟩
      show (if wr (s 21 0 - 1) ≤ (x : Int) then _ else _) = _
      rw [wr_ok (by omega) (by omega), if_neg (by omega), wr_ok (x := (x : Int) + 1) (by omega) (by omega), rd_in (by omega) (by omega)]
      rw [show ((x : Int) + 1).toNat = x + 1 by omega]
      rw [if_neg hq, ← q4]
      rfl
theorem c_shotAt {f : Int} {fr : Nat → Int} (s : Mem) (h : LF (s 21 0) (s 22) fr) (h0 : 0 < s 21 0) (hf0 : 0 ≤ f) (hf : f < s 22 (s 21 0).toNat) : ∃ q : Nat, (q : Int) < s 21 0 ∧ s 22 q ≤ f ∧ f < s 22 (q + 1) ∧ fX6_shotAt 21 f s = some ((q : Int), s) := by
  unfold fX6_shotAt
  have := h.2.1
  have e : FU = (FU - (s 21 0).toNat) + ((s 21 0).toNat - 1) + 1 := by unfold FU; omega
  rw [e]
  exact c_shotL s _ h hf ((s 21 0).toNat - 1) _ 0 (by omega) (by rw [h.2.2.1]; exact hf0)
theorem c_hasFrame {f : Int} {fr : Nat → Int} (s : Mem) (h : LF (s 21 0) (s 22) fr) (hf0 : 0 ≤ f) : fX6_hasFrame 21 f s = some (tv (0 < s 21 0 ∧ f < s 22 (s 21 0).toNat), s) := by
  unfold fX6_hasFrame fX6_frames
  have := h.1; have := h.2.1
  rw [rd_in (by omega) (by omega)]
  simp only [bnd_some, Nat.reduceAdd, zr_0, zr_1]
  unfold tv
  repeat' split
  all_goals first | rfl | (exfalso; omega)
/-- the reference's find, from a frame with x SHOTS passed -/
theorem r_findL {f n : Int} {st : Nat → Int} (k : Mem → Option Res) (h0 : 0 ≤ f ∧ f < 2147483648) : ∀ (j m x : Nat) (s : Mem), LF n st (fun k => s 108 (16 + k)) → n = s 106 1 → (x + j : Nat) = n → st x ≤ f → s 100 35 = x → s 100 36 = f - st x →
    (f < st n.toNat → ∃ q : Nat, (q : Int) < n ∧ st q ≤ f ∧ f < st (q + 1) ∧ LX11_find_10 k (m + j + 1) s = k (up (up s 100 36 (f - st q)) 100 35 q)) ∧ (st n.toNat ≤ f → LX11_find_10 k (m + j + 1) s = k (up (up s 100 36 (f - st n.toNat)) 100 35 n)) := by
  intro j
  induction j with
  | zero =>
    intro m x s h e hx h1 e1 e2
    have hxn : n.toNat = x := by omega
    refine ⟨fun hf => ?_, fun hf => ?_⟩
    · rw [hxn] at hf; omega
    · show (rd (s 106) 1 4 fun v3 => _) = _
      rw [rd_in (by omega) (by omega), show ((1 : Int).toNat) = 1 from rfl, ← e, e1, if_pos (by omega), hxn, up_self e2, up_self (by omega)]
  | succ j ih =>
    intro m x s h e hx h1 e1 e2
    have hk : st (x + 1) = st x + s 108 (16 + x) ∧ 1 ≤ s 108 (16 + x) ∧ s 108 (16 + x) ≤ 400 := h.2.2.2 x (by omega)
    have b1 := h.bd x (by omega)
    have hn := h.2.1
    by_cases hq : f < st (x + 1)
    · refine ⟨fun hf => ⟨x, by omega, h1, hq, ?_⟩, fun hf => ?_⟩
      · show (rd (s 106) 1 4 fun v3 => _) = _
        rw [rd_in (by omega) (by omega), show ((1 : Int).toNat) = 1 from rfl, ← e, e1, if_neg (by omega), wr_ok (x := 16 + (x : Int)) (by omega) (by omega), rd_in (by omega) (by omega), show (16 + (x : Int)).toNat = 16 + x by omega, if_pos (by omega), up_self e2, up_self e1]
      · have : st (x + 1) ≤ st n.toNat := by
          rcases Nat.lt_or_ge (x + 1) n.toNat with z | z
          · have := h.lt z (by omega); omega
          · rw [show x + 1 = n.toNat by omega]; omega
        omega
    · have step : ∀ r : Option Res, LX11_find_10 k (m + j + 1) (up (up s 100 36 (f - st (x + 1))) 100 35 ((x + 1 : Nat) : Int)) = r → LX11_find_10 k (m + (j + 1) + 1) s = r := by
        intro r hr
        rw [← hr]
        show (rd (s 106) 1 4 fun v3 => _) = _
        rw [rd_in (by omega) (by omega), show ((1 : Int).toNat) = 1 from rfl, ← e, e1, if_neg (by omega), wr_ok (x := 16 + (x : Int)) (by omega) (by omega), rd_in (by omega) (by omega), show (16 + (x : Int)).toNat = 16 + x by omega, if_neg (by omega), rd_in (by omega) (by omega), show (16 + (x : Int)).toNat = 16 + x by omega]
        rw [lt_eq, lt_eq, up_nj _ _ _ _ (show (35 : Nat) ≠ 36 by omega), e1, e2, wr_ok (by omega) (by omega), wr_ok (by omega) (by omega), show f - st x - s 108 (16 + x) = f - st (x + 1) by omega, show ((x : Int) + 1) = ((x + 1 : Nat) : Int) by omega]
        rfl
      have hs108 : ∀ v w : Int, up (up s 100 36 v) 100 35 w 108 = s 108 := fun v w => by rw [up_ne _ _ _ _ (by omega), up_ne _ _ _ _ (by omega)]
      have hs106 : ∀ v w : Int, up (up s 100 36 v) 100 35 w 106 = s 106 := fun v w => by rw [up_ne _ _ _ _ (by omega), up_ne _ _ _ _ (by omega)]
      have ih2 := ih m (x + 1) (up (up s 100 36 (f - st (x + 1))) 100 35 ((x + 1 : Nat) : Int)) (by rw [hs108]; exact h) (by rw [hs106]; exact e) (by omega) (by omega) (by rw [up_at]) (by rw [up_nj _ _ _ _ (by omega), up_at])
      have over : ∀ v w : Int, up (up (up (up s 100 36 (f - st (x + 1))) 100 35 ((x + 1 : Nat) : Int)) 100 36 v) 100 35 w = up (up s 100 36 v) 100 35 w := by
        intro v w
        funext p i
        unfold up
        by_cases hp : p = 100
        · simp only [hp, if_true]
          by_cases h35 : i = 35
          · simp [h35]
          · by_cases h36 : i = 36
            · simp [h36]
            · simp [h35, h36]
        · simp [hp]
      refine ⟨fun hf => ?_, fun hf => ?_⟩
      · obtain ⟨q, q1, q2, q3, q4⟩ := ih2.1 hf
        exact ⟨q, q1, q2, q3, step _ (by rw [q4, over])⟩
      · exact step _ (by rw [ih2.2 hf, over])
/-- the memory behind find -/
def fdm (s : Mem) (i q : Int) : Mem := up (up s 100 36 i) 100 35 q
theorem r_find {f : Int} {st : Nat → Int} (s : Mem) (h : LF (s 106 1) st (fun k => s 108 (16 + k))) (hl : RLd (s 100 19) (s 106 1)) (h0 : 0 ≤ f ∧ f < 2147483648) :
    (f < st (s 106 1).toNat → ∃ q : Nat, (q : Int) < s 106 1 ∧ st q ≤ f ∧ f < st (q + 1) ∧ fX11_find f s = some (1, fdm s (f - st q) q)) ∧ (st (s 106 1).toNat ≤ f → fX11_find f s = some (0, fdm s (f - st (s 106 1).toNat) (s 106 1))) := by
  have hn := h.1
  have hn2 := h.2.1
  have e : FU = (FU - (s 106 1).toNat - 1) + (s 106 1).toNat + 1 := by unfold FU; omega
  have over : ∀ v w : Int, up (up (up (up s 100 36 f) 100 35 0) 100 36 v) 100 35 w = up (up s 100 36 v) 100 35 w := by
    intro v w
    funext p i
    unfold up
    by_cases hp : p = 100
    · simp only [hp, if_true]
      by_cases h35 : i = 35
      · simp [h35]
      · by_cases h36 : i = 36
        · simp [h36]
        · simp [h35, h36]
    · simp [hp]
  have key := fun k => r_findL (f := f) (n := s 106 1) (st := st) k h0 (s 106 1).toNat (FU - (s 106 1).toNat - 1) 0 (up (up s 100 36 f) 100 35 0) (by rw [up_ne _ _ _ _ (by omega), up_ne _ _ _ _ (by omega)]; exact h) (by rw [up_ne _ _ _ _ (by omega), up_ne _ _ _ _ (by omega)]) (by omega) (by rw [h.2.2.1]; exact h0.1) (by rw [up_at]; rfl) (by rw [up_nj _ _ _ _ (by omega), up_at, h.2.2.1]; omega)
  have g19 : ∀ v w : Int, up (up s 100 36 v) 100 35 w 100 19 = s 100 19 := fun v w => by rw [up_nj _ _ _ _ (by omega), up_nj _ _ _ _ (by omega)]
  have g106 : ∀ v w : Int, up (up s 100 36 v) 100 35 w 106 = s 106 := fun v w => by rw [up_ne _ _ _ _ (by omega), up_ne _ _ _ _ (by omega)]
  refine ⟨fun hf => ?_, fun hf => ?_⟩
  · unfold fX11_find fdm
    rw [lt_eq, lt_eq, e]
    obtain ⟨q, q1, q2, q3, q4⟩ := (key _).1 hf
    refine ⟨q, q1, q2, q3, ?_⟩
    rw [q4, over, g19, g106]
    rcases hl with ⟨l1, l2⟩ | ⟨l1, l2⟩
    · omega
    · rw [if_neg (by omega), rd_in (by omega) (by omega), up_at, show ((1 : Int).toNat) = 1 from rfl, if_neg (by omega)]; rfl
  · unfold fX11_find fdm
    rw [lt_eq, lt_eq, e, (key _).2 hf, over, g19, g106]
    rcases hl with ⟨l1, l2⟩ | ⟨l1, l2⟩
    · rw [if_pos l1]; rfl
    · rw [if_neg (by omega), rd_in (by omega) (by omega), up_at, show ((1 : Int).toNat) = 1 from rfl, if_pos (by omega)]; rfl
