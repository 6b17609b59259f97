/-! copies: keep and back -/
def cpy (f g : Nat → Int) (L : Nat) : Nat → Int := fun i => if i < L then f i else g i
theorem cpy_in {f g : Nat → Int} {L i : Nat} (h : i < L) : cpy f g L i = f i := if_pos h
def blk (f : Nat → Int) (a b e L : Nat) : Nat → Int := fun i => if b + e ≤ i ∧ i < b + L then f (a + (i - b)) else f i
theorem blk_in {f : Nat → Int} {a b L k : Nat} (h : k < L) : blk f a b 0 L (b + k) = f (a + k) := by
  unfold blk; rw [if_pos (by omega), show a + (b + k - b) = a + k by omega]
theorem blk_out {f : Nat → Int} {a b L i : Nat} (h : i < b ∨ b + L ≤ i) : blk f a b 0 L i = f i := by
  unfold blk; rw [if_neg (by omega)]
theorem blk_e (f : Nat → Int) (a b : Nat) {e L : Nat} (h : L ≤ e) : blk f a b e L = f := by
  funext i; unfold blk; rw [if_neg (by omega)]
theorem blk_s (f : Nat → Int) {a b e L : Nat} (h : e < L) (hd : a + L ≤ b ∨ b + L ≤ a) : blk (fun i => if i = b + e then f (a + e) else f i) a b (e + 1) L = blk f a b e L := by
  funext i; unfold blk; dsimp only
  by_cases hi : i = b + e
  · subst hi
    rw [if_neg (by omega), if_pos rfl, if_pos (by omega), show a + (b + e - b) = a + e by omega]
  · by_cases hz : b + (e + 1) ≤ i ∧ i < b + L
    · rw [if_pos hz, if_neg (by omega), if_pos (by omega)]
    · rw [if_neg hz, if_neg hi, if_neg (by omega)]
theorem sf3_up (s : Mem) (p1 p2 p3 i : Nat) (a b c : Int) (A B C : Nat → Int) : sf (sf (sf (up (up (up s p1 i a) p2 i b) p3 i c) p1 A) p2 B) p3 C = sf (sf (sf s p1 A) p2 B) p3 C := by
  funext q
  unfold sf
  by_cases h3 : q = p3
  · rw [if_pos h3, if_pos h3]
  rw [if_neg h3, if_neg h3]
  by_cases h2 : q = p2
  · rw [if_pos h2, if_pos h2]
  rw [if_neg h2, if_neg h2]
  by_cases h1 : q = p1
  · rw [if_pos h1, if_pos h1]
  rw [if_neg h1, if_neg h1, up_ne _ _ _ _ h3, up_ne _ _ _ _ h2, up_ne _ _ _ _ h1]
theorem sf2_up (s : Mem) (p1 p2 i : Nat) (a b : Int) (A B : Nat → Int) : sf (sf (up (up s p1 i a) p2 i b) p1 A) p2 B = sf (sf s p1 A) p2 B := by
  funext q
  unfold sf
  by_cases h2 : q = p2
  · rw [if_pos h2, if_pos h2]
  rw [if_neg h2, if_neg h2]
  by_cases h1 : q = p1
  · rw [if_pos h1, if_pos h1]
  rw [if_neg h1, if_neg h1, up_ne _ _ _ _ h2, up_ne _ _ _ _ h1]
theorem sf3_self (s : Mem) (p1 p2 p3 : Nat) : sf (sf (sf s p1 (s p1)) p2 (s p2)) p3 (s p3) = s := by
  rw [sf_self s p1, sf_self s p2, sf_self s p3]
theorem sf2_self (s : Mem) (p1 p2 : Nat) : sf (sf s p1 (s p1)) p2 (s p2) = s := by
  rw [sf_self s p1, sf_self s p2]
theorem c_copy (s : Mem) (q0 q1 z : Nat) : fX10_copy q0 z q1 z s = some (0, sf s q1 (cpy (s q0) (s q1) z)) := by
  have e : mn ((z : Nat) : Int) ((z : Nat) : Int) = z := by unfold mn; split <;> omega
  unfold fX10_copy acp
  rw [e, if_pos (by omega), Int.toNat_natCast, show ((0 : Int).toNat) = 0 from rfl]
  congr 2
  funext q
  unfold cpm sf
  by_cases h : q = q1
  · subst h
    rw [if_pos rfl, if_pos rfl]
    funext i
    unfold cpy va_cpy
    by_cases hi : i < z
    · rw [if_pos hi, if_pos (by omega)]; congr 1; omega
    · rw [if_neg hi, if_neg (by omega)]
  · rw [if_neg h, if_neg h]
theorem r_cl26 (k : Mem → Option Res) {c1 c2 : Nat} (h1 : c1 < 4) (h2 : c2 < 4) (hd : c1 ≠ c2) : ∀ (j m e : Nat) (s : Mem), e + j = 16 →
    LX11_copyList_26 c1 c2 k (m + j + 1) e s = k (sf (sf (sf s 108 (blk (s 108) (16 * c1) (16 * c2) e 16)) 110 (blk (s 110) (16 * c1) (16 * c2) e 16)) 112 (blk (s 112) (16 * c1) (16 * c2) e 16)) := by
  intro j
  induction j with
  | zero =>
    intro m e s he
    show (if 16 ≤ (e : Int) then _ else _) = _
    rw [if_pos (by omega), blk_e _ _ _ (by omega), blk_e _ _ _ (by omega), blk_e _ _ _ (by omega), sf3_self]
  | succ j ih =>
    intro m e s he
    have t1 : (16 * (c1 : Int) + (e : Int)).toNat = 16 * c1 + e := by omega
    have t2 : (16 * (c2 : Int) + (e : Int)).toNat = 16 * c2 + e := by omega
    show (if 16 ≤ (e : Int) then _ else _) = _
    rw [if_neg (by omega), wr_ok (x := (e : Int) + 1) (by omega) (by omega), wr_ok (x := 16 * (c1 : Int)) (by omega) (by omega), wr_ok (x := 16 * (c2 : Int)) (by omega) (by omega), wr_ok (x := 16 * (c1 : Int) + (e : Int)) (by omega) (by omega), wr_ok (x := 16 * (c2 : Int) + (e : Int)) (by omega) (by omega)]
    rw [rd_in (by omega) (by omega), ST_in (by omega) (by omega), rd_in (by omega) (by omega), ST_in (by omega) (by omega), rd_in (by omega) (by omega), ST_in (by omega) (by omega)]
    simp only [t1, t2, ne_eq, not_false_eq_true, up_ne, Nat.reduceEqDiff]
    have i2 := ih m (e + 1) (up (up (up s 108 (16 * c2 + e) (s 108 (16 * c1 + e))) 110 (16 * c2 + e) (s 110 (16 * c1 + e))) 112 (16 * c2 + e) (s 112 (16 * c1 + e))) (by omega)
    rw [sf3_up] at i2
    simp only [ne_eq, not_false_eq_true, up_ne, up_eq, Nat.reduceEqDiff, blk_s _ (show e < 16 by omega) (show 16 * c1 + 16 ≤ 16 * c2 ∨ 16 * c2 + 16 ≤ 16 * c1 by omega)] at i2
    exact i2
theorem r_cl106 (k : Mem → Option Res) {c1 c2 : Nat} (h1 : c1 < 4) (h2 : c2 < 4) (hd : c1 ≠ c2) : ∀ (j m e : Nat) (s : Mem), e + j = 48 →
    LX11_copyList_106 c1 c2 k (m + j + 1) e s = k (sf (sf s 109 (blk (s 109) (48 * c1) (48 * c2) e 48)) 111 (blk (s 111) (48 * c1) (48 * c2) e 48)) := by
  intro j
  induction j with
  | zero =>
    intro m e s he
    show (if 48 ≤ (e : Int) then _ else _) = _
    rw [if_pos (by omega), blk_e _ _ _ (by omega), blk_e _ _ _ (by omega), sf2_self]
  | succ j ih =>
    intro m e s he
    have t1 : (48 * (c1 : Int) + (e : Int)).toNat = 48 * c1 + e := by omega
    have t2 : (48 * (c2 : Int) + (e : Int)).toNat = 48 * c2 + e := by omega
    show (if 48 ≤ (e : Int) then _ else _) = _
    rw [if_neg (by omega), wr_ok (x := (e : Int) + 1) (by omega) (by omega), wr_ok (x := 48 * (c1 : Int)) (by omega) (by omega), wr_ok (x := 48 * (c2 : Int)) (by omega) (by omega), wr_ok (x := 48 * (c1 : Int) + (e : Int)) (by omega) (by omega), wr_ok (x := 48 * (c2 : Int) + (e : Int)) (by omega) (by omega)]
    rw [rd_in (by omega) (by omega), ST_in (by omega) (by omega), rd_in (by omega) (by omega), ST_in (by omega) (by omega)]
    simp only [t1, t2, ne_eq, not_false_eq_true, up_ne, Nat.reduceEqDiff]
    have i2 := ih m (e + 1) (up (up s 109 (48 * c2 + e) (s 109 (48 * c1 + e))) 111 (48 * c2 + e) (s 111 (48 * c1 + e))) (by omega)
    rw [sf2_up] at i2
    simp only [ne_eq, not_false_eq_true, up_ne, up_eq, Nat.reduceEqDiff, blk_s _ (show e < 48 by omega) (show 48 * c1 + 48 ≤ 48 * c2 ∨ 48 * c2 + 48 ≤ 48 * c1 by omega)] at i2
    exact i2
theorem r_cl164 (k : Mem → Option Res) {c1 c2 : Nat} (h1 : c1 < 4) (h2 : c2 < 4) (hd : c1 ≠ c2) : ∀ (j m e : Nat) (s : Mem), e + j = 64 →
    LX11_copyList_164 c1 c2 k (m + j + 1) e s = k (sf (sf (sf s 113 (blk (s 113) (64 * c1) (64 * c2) e 64)) 114 (blk (s 114) (64 * c1) (64 * c2) e 64)) 115 (blk (s 115) (64 * c1) (64 * c2) e 64)) := by
  intro j
  induction j with
  | zero =>
    intro m e s he
    show (if 64 ≤ (e : Int) then _ else _) = _
    rw [if_pos (by omega), blk_e _ _ _ (by omega), blk_e _ _ _ (by omega), blk_e _ _ _ (by omega), sf3_self]
  | succ j ih =>
    intro m e s he
    have t1 : (64 * (c1 : Int) + (e : Int)).toNat = 64 * c1 + e := by omega
    have t2 : (64 * (c2 : Int) + (e : Int)).toNat = 64 * c2 + e := by omega
    show (if 64 ≤ (e : Int) then _ else _) = _
    rw [if_neg (by omega), wr_ok (x := (e : Int) + 1) (by omega) (by omega), wr_ok (x := 64 * (c1 : Int)) (by omega) (by omega), wr_ok (x := 64 * (c2 : Int)) (by omega) (by omega), wr_ok (x := 64 * (c1 : Int) + (e : Int)) (by omega) (by omega), wr_ok (x := 64 * (c2 : Int) + (e : Int)) (by omega) (by omega)]
    rw [rd_in (by omega) (by omega), ST_in (by omega) (by omega), rd_in (by omega) (by omega), ST_in (by omega) (by omega), rd_in (by omega) (by omega), ST_in (by omega) (by omega)]
    simp only [t1, t2, ne_eq, not_false_eq_true, up_ne, Nat.reduceEqDiff]
    have i2 := ih m (e + 1) (up (up (up s 113 (64 * c2 + e) (s 113 (64 * c1 + e))) 114 (64 * c2 + e) (s 114 (64 * c1 + e))) 115 (64 * c2 + e) (s 115 (64 * c1 + e))) (by omega)
    rw [sf3_up] at i2
    simp only [ne_eq, not_false_eq_true, up_ne, up_eq, Nat.reduceEqDiff, blk_s _ (show e < 64 by omega) (show 64 * c1 + 64 ≤ 64 * c2 ∨ 64 * c2 + 64 ≤ 64 * c1 by omega)] at i2
    exact i2
theorem r_cs2 (k : Mem → Option Res) {c1 c2 : Nat} (h1 : c1 < 3) (h2 : c2 < 3) (hd : c1 ≠ c2) : ∀ (j m e : Nat) (s : Mem), e + j = 48 →
    LX11_copyShots_2 c1 c2 k (m + j + 1) e s = k (sf (sf s 117 (blk (s 117) (48 * c1) (48 * c2) e 48)) 118 (blk (s 118) (48 * c1) (48 * c2) e 48)) := by
  intro j
  induction j with
  | zero =>
    intro m e s he
    show (if 48 ≤ (e : Int) then _ else _) = _
    rw [if_pos (by omega), blk_e _ _ _ (by omega), blk_e _ _ _ (by omega), sf2_self]
  | succ j ih =>
    intro m e s he
    have t1 : (48 * (c1 : Int) + (e : Int)).toNat = 48 * c1 + e := by omega
    have t2 : (48 * (c2 : Int) + (e : Int)).toNat = 48 * c2 + e := by omega
    show (if 48 ≤ (e : Int) then _ else _) = _
    rw [if_neg (by omega), wr_ok (x := (e : Int) + 1) (by omega) (by omega), wr_ok (x := 48 * (c1 : Int)) (by omega) (by omega), wr_ok (x := 48 * (c2 : Int)) (by omega) (by omega), wr_ok (x := 48 * (c1 : Int) + (e : Int)) (by omega) (by omega), wr_ok (x := 48 * (c2 : Int) + (e : Int)) (by omega) (by omega)]
    rw [rd_in (by omega) (by omega), ST_in (by omega) (by omega), rd_in (by omega) (by omega), ST_in (by omega) (by omega)]
    simp only [t1, t2, ne_eq, not_false_eq_true, up_ne, Nat.reduceEqDiff]
    have i2 := ih m (e + 1) (up (up s 117 (48 * c2 + e) (s 117 (48 * c1 + e))) 118 (48 * c2 + e) (s 118 (48 * c1 + e))) (by omega)
    rw [sf2_up] at i2
    simp only [ne_eq, not_false_eq_true, up_ne, up_eq, Nat.reduceEqDiff, blk_s _ (show e < 48 by omega) (show 48 * c1 + 48 ≤ 48 * c2 ∨ 48 * c2 + 48 ≤ 48 * c1 by omega)] at i2
    exact i2
theorem r_cs60 (k : Mem → Option Res) {c1 c2 : Nat} (h1 : c1 < 3) (h2 : c2 < 3) (hd : c1 ≠ c2) : ∀ (j m e : Nat) (s : Mem), e + j = 16 →
    LX11_copyShots_60 c1 c2 k (m + j + 1) e s = k (sf (sf (sf s 119 (blk (s 119) (16 * c1) (16 * c2) e 16)) 120 (blk (s 120) (16 * c1) (16 * c2) e 16)) 124 (blk (s 124) (16 * c1) (16 * c2) e 16)) := by
  intro j
  induction j with
  | zero =>
    intro m e s he
    show (if 16 ≤ (e : Int) then _ else _) = _
    rw [if_pos (by omega), blk_e _ _ _ (by omega), blk_e _ _ _ (by omega), blk_e _ _ _ (by omega), sf3_self]
  | succ j ih =>
    intro m e s he
    have t1 : (16 * (c1 : Int) + (e : Int)).toNat = 16 * c1 + e := by omega
    have t2 : (16 * (c2 : Int) + (e : Int)).toNat = 16 * c2 + e := by omega
    show (if 16 ≤ (e : Int) then _ else _) = _
    rw [if_neg (by omega), wr_ok (x := (e : Int) + 1) (by omega) (by omega), wr_ok (x := 16 * (c1 : Int)) (by omega) (by omega), wr_ok (x := 16 * (c2 : Int)) (by omega) (by omega), wr_ok (x := 16 * (c1 : Int) + (e : Int)) (by omega) (by omega), wr_ok (x := 16 * (c2 : Int) + (e : Int)) (by omega) (by omega)]
    rw [rd_in (by omega) (by omega), ST_in (by omega) (by omega), rd_in (by omega) (by omega), ST_in (by omega) (by omega), rd_in (by omega) (by omega), ST_in (by omega) (by omega)]
    simp only [t1, t2, ne_eq, not_false_eq_true, up_ne, Nat.reduceEqDiff]
    have i2 := ih m (e + 1) (up (up (up s 119 (16 * c2 + e) (s 119 (16 * c1 + e))) 120 (16 * c2 + e) (s 120 (16 * c1 + e))) 124 (16 * c2 + e) (s 124 (16 * c1 + e))) (by omega)
    rw [sf3_up] at i2
    simp only [ne_eq, not_false_eq_true, up_ne, up_eq, Nat.reduceEqDiff, blk_s _ (show e < 16 by omega) (show 16 * c1 + 16 ≤ 16 * c2 ∨ 16 * c2 + 16 ≤ 16 * c1 by omega)] at i2
    exact i2
theorem r_cs140 (k : Mem → Option Res) {c1 c2 : Nat} (h1 : c1 < 3) (h2 : c2 < 3) (hd : c1 ≠ c2) : ∀ (j m e : Nat) (s : Mem), e + j = 8 →
    LX11_copyShots_140 c1 c2 k (m + j + 1) e s = k (sf (sf (sf s 121 (blk (s 121) (8 * c1) (8 * c2) e 8)) 122 (blk (s 122) (8 * c1) (8 * c2) e 8)) 123 (blk (s 123) (8 * c1) (8 * c2) e 8)) := by
  intro j
  induction j with
  | zero =>
    intro m e s he
    show (if 8 ≤ (e : Int) then _ else _) = _
    rw [if_pos (by omega), blk_e _ _ _ (by omega), blk_e _ _ _ (by omega), blk_e _ _ _ (by omega), sf3_self]
  | succ j ih =>
    intro m e s he
    have t1 : (8 * (c1 : Int) + (e : Int)).toNat = 8 * c1 + e := by omega
    have t2 : (8 * (c2 : Int) + (e : Int)).toNat = 8 * c2 + e := by omega
    show (if 8 ≤ (e : Int) then _ else _) = _
    rw [if_neg (by omega), wr_ok (x := (e : Int) + 1) (by omega) (by omega), wr_ok (x := 8 * (c1 : Int)) (by omega) (by omega), wr_ok (x := 8 * (c2 : Int)) (by omega) (by omega), wr_ok (x := 8 * (c1 : Int) + (e : Int)) (by omega) (by omega), wr_ok (x := 8 * (c2 : Int) + (e : Int)) (by omega) (by omega)]
    rw [rd_in (by omega) (by omega), ST_in (by omega) (by omega), rd_in (by omega) (by omega), ST_in (by omega) (by omega), rd_in (by omega) (by omega), ST_in (by omega) (by omega)]
    simp only [t1, t2, ne_eq, not_false_eq_true, up_ne, Nat.reduceEqDiff]
    have i2 := ih m (e + 1) (up (up (up s 121 (8 * c2 + e) (s 121 (8 * c1 + e))) 122 (8 * c2 + e) (s 122 (8 * c1 + e))) 123 (8 * c2 + e) (s 123 (8 * c1 + e))) (by omega)
    rw [sf3_up] at i2
    simp only [ne_eq, not_false_eq_true, up_ne, up_eq, Nat.reduceEqDiff, blk_s _ (show e < 8 by omega) (show 8 * c1 + 8 ≤ 8 * c2 ∨ 8 * c2 + 8 ≤ 8 * c1 by omega)] at i2
    exact i2
theorem c_lostL (k : Mem → Option Res) {t0 t1 : Nat} (hd : t1 + 3 ≠ t0 + 3) : ∀ (j m e : Nat) (s : Mem), e + j = 8 → (∀ i, i < 8 → s (t1 + 3) i = 0 ∨ s (t1 + 3) i = 1) →
    LX5_copyFrom_24 t0 t1 k (m + j + 1) e s = k (sf s (t0 + 3) (fun i => if e ≤ i ∧ i < 8 then s (t1 + 3) i else s (t0 + 3) i)) := by
  intro j
  induction j with
  | zero =>
    intro m e s he hb
    show (if 8 ≤ (e : Int) then _ else _) = _
    rw [if_pos (by omega)]
    congr 1
    rw [show (fun i => if e ≤ i ∧ i < 8 then s (t1 + 3) i else s (t0 + 3) i) = s (t0 + 3) from funext fun i => if_neg (by omega), sf_self]
  | succ j ih =>
    intro m e s he hb
    show (if 8 ≤ (e : Int) then _ else _) = _
    rw [if_neg (by omega), wr_ok (x := (e : Int) + 1) (by omega) (by omega), rd_in (by omega) (by omega), Int.toNat_natCast]
    unfold zp
    rw [if_pos (hb e (by omega)), ST_in (by omega) (by omega), Int.toNat_natCast]
    have i2 := ih m (e + 1) (up s (t0 + 3) e (s (t1 + 3) e)) (by omega) (by rw [up_ne _ _ _ _ hd]; exact hb)
    rw [sf_up, up_ne _ _ _ _ hd, up_eq] at i2
    refine i2.trans ?_
    congr 2
    funext i
    dsimp only
    by_cases hi : i = e
    · subst hi; rw [if_neg (by omega), if_pos rfl, if_pos (by omega)]
    · by_cases hz : e + 1 ≤ i ∧ i < 8
      · rw [if_pos hz, if_pos (by omega)]
      · rw [if_neg hz, if_neg hi, if_neg (by omega)]
