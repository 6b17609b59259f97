/-! what relates the two objects -/
theorem up_nj (s : Mem) (p i : Nat) (v : Int) {j : Nat} (h : j ≠ i) : up s p i v p j = s p j := by unfold up; simp [h]
def RT (n : Nat) (x2 x3 x4 x5 x6 y2 y3 y4 y5 y6 : Nat → Int) : Prop := (∀ i, i < 81 → x2 i = y2 i ∧ 0 ≤ x2 i ∧ x2 i ≤ 255) ∧ (∀ i, i < 2 → x3 i = y3 i ∧ x4 i = y4 i ∧ x5 i = y5 i ∧ 0 ≤ x3 i ∧ x3 i ≤ 1000 ∧ 1 ≤ x4 i ∧ x4 i ≤ 50 ∧ 0 ≤ x5 i ∧ x5 i ≤ 10000 * n) ∧ ∀ i, i < 3 → x6 i = y6 i ∧ 0 ≤ x6 i ∧ x6 i ≤ 20
def RRu (x : Nat → Int) (w0 w1 w2 w3 : Int) : Prop := (x 0 = w0 ∧ 1 ≤ w0 ∧ w0 ≤ 48) ∧ (x 1 = w1 ∧ 0 ≤ w1 ∧ w1 ≤ 60) ∧ (x 2 = w2 ∧ 0 ≤ w2 ∧ w2 ≤ 3) ∧ (x 3 = w3 ∧ 1 ≤ w3 ∧ w3 ≤ 20)
/-- a byte as the class has it (signed) and as the reference has it -/
def RTx (l : Int) (x : Nat → Int) (l' : Int) (y : Nat → Int) : Prop := l = l' ∧ 0 ≤ l ∧ l ≤ 400 ∧ ∀ i : Nat, (i : Int) < l → 0 ≤ y i ∧ y i ≤ 255 ∧ ((y i ≤ 127 ∧ x i = y i) ∨ (128 ≤ y i ∧ x i = y i - 256))
/-- THE LIST (or a draft of one): c the class's rows, m the reference's from slot j on -/
def RLi (j : Nat) (n cp : Int) (st ow fa ft ef e1 e2 e3 : Nat → Int) (n' cp' : Int) (fr ow' fa' ft' ef' a1 a2 a3 : Nat → Int) : Prop :=
  (n = n' ∧ cp = cp' ∧ 0 ≤ n ∧ n ≤ 16 ∧ 0 ≤ cp ∧ cp ≤ 999 ∧ st 0 = 0) ∧
  (∀ k : Nat, (k : Int) < n → st (k + 1) = st k + fr (16 * j + k) ∧ 1 ≤ fr (16 * j + k) ∧ fr (16 * j + k) ≤ 400 ∧ 0 ≤ fa k ∧ fa k ≤ fr (16 * j + k) ∧ 0 ≤ ef k ∧ ef k ≤ 4 ∧
    (∀ c, c < 3 → 1 ≤ ow (3 * k + c) ∧ ow (3 * k + c) ≤ 50 ∧ (0 < fa k → 1 ≤ ft (3 * k + c) ∧ ft (3 * k + c) ≤ 50)) ∧
    (∀ e : Nat, (e : Int) < ef k → 0 ≤ e1 (4 * k + e) ∧ e1 (4 * k + e) < e2 (4 * k + e) ∧ e2 (4 * k + e) ≤ fr (16 * j + k) ∧ 1 ≤ e3 (4 * k + e) ∧ e3 (4 * k + e) ≤ 40)) ∧
  (∀ k, k < 48 → ow k = ow' (48 * j + k) ∧ ft k = ft' (48 * j + k)) ∧ (∀ k, k < 16 → fa k = fa' (16 * j + k) ∧ ef k = ef' (16 * j + k)) ∧
  (∀ k, k < 64 → e1 k = a1 (64 * j + k) ∧ e2 k = a1 (64 * j + k) + a2 (64 * j + k) ∧ e3 k = a3 (64 * j + k))
/-- what is told of SHOTS and REELS, and HOLD: n the SHOTS of its LIST -/
def RJb (j : Nat) (n : Int) (de ai re ed fi fr lo ho : Nat → Int) (de' ai' re' ed' fi' fr' sta ho' : Nat → Int) : Prop :=
  (∀ k, k < 48 → de k = de' (48 * j + k) ∧ 0 ≤ de k ∧ de k ≤ 60 ∧ ai k = ai' (48 * j + k) ∧ -1 ≤ ai k ∧ ai k ≤ 255) ∧
  (∀ k, k < 16 → re k = re' (16 * j + k) ∧ -1 ≤ re k ∧ re k ≤ 7 ∧ ed k = ed' (16 * j + k) ∧ 0 ≤ ed k ∧ ed k ≤ 100000) ∧
  (∀ k, k < 8 → fi k = fi' (8 * j + k) ∧ fr k = fr' (8 * j + k) ∧ 0 ≤ fi k ∧ fi k ≤ 100000 ∧ 0 ≤ fr k ∧ fr k ≤ 2000 ∧ ((sta (8 * j + k) = 0 ∧ fr k = 0 ∧ lo k = 0) ∨ (sta (8 * j + k) = 1 ∧ 1 ≤ fr k ∧ lo k = 0) ∨ (sta (8 * j + k) = 2 ∧ 1 ≤ fr k ∧ lo k = 1))) ∧
  (0 < n → ∀ k, k < 15 → ho k = ho' (16 * j + k) ∧ 0 ≤ ho k ∧ ho k ≤ 100)
def RSt (n : Int) (h c o : Nat → Int) (n' : Int) (h' c' o' : Nat → Int) : Prop := n = n' ∧ 0 ≤ n ∧ n ≤ 20 ∧ ∀ k : Nat, (k : Int) < n → h k = h' k ∧ c k = c' k ∧ o k = o' k ∧ 0 ≤ h k ∧ h k ≤ 99 ∧ 0 ≤ c k ∧ c k ≤ 2 ∧ (o k = 100 ∨ (-10 ≤ o k ∧ o k ≤ 10))
def ROr (n : Int) (h d w g : Nat → Int) (n' : Int) (h' d' w' g' : Nat → Int) : Prop := n = n' ∧ 0 ≤ n ∧ n ≤ 8 ∧ ∀ k : Nat, (k : Int) < n → h k = h' k ∧ d k = d' k ∧ w k = w' k ∧ g k = g' k ∧ 1 ≤ h k ∧ h k ≤ 40 ∧ 0 ≤ d k ∧ d k ≤ 400 ∧ 1 ≤ w k ∧ w k ≤ 20 ∧ 0 ≤ g k ∧ g k ≤ 5
/-- isLoaded, wasLoaded -/
def RLd (l n : Int) : Prop := (l = 0 ∧ n = 0) ∨ (l = 1 ∧ 0 < n)
def RKp (k r k' r' : Int) (n : Nat) (wl : Nat → Int) (n2 n3 : Int) : Prop := k = k' ∧ 0 ≤ k ∧ k ≤ 2 ∧ r = r' ∧ 0 ≤ r ∧ r ≤ n ∧ (0 < k → RLd (wl 0) n2) ∧ (1 < k → RLd (wl 1) n3)
def Rel (n : Nat) (s : Mem) : Prop :=
  RT n (s 2) (s 3) (s 4) (s 5) (s 6) (s 101) (s 102) (s 103) (s 104) (s 105) ∧
  RRu (s 7) (s 100 5) (s 100 6) (s 100 7) (s 100 8) ∧
  RTx (s 8 1) (s 9) (s 100 20) (s 116) ∧
  RLi 0 (s 11 0) (s 11 1) (s 12) (s 13) (s 14) (s 15) (s 16) (s 17) (s 18) (s 19) (s 106 0) (s 107 0) (s 108) (s 109) (s 110) (s 111) (s 112) (s 113) (s 114) (s 115) ∧
  RLi 1 (s 21 0) (s 21 1) (s 22) (s 23) (s 24) (s 25) (s 26) (s 27) (s 28) (s 29) (s 106 1) (s 107 1) (s 108) (s 109) (s 110) (s 111) (s 112) (s 113) (s 114) (s 115) ∧
  RLi 2 (s 40 0) (s 40 1) (s 41) (s 42) (s 43) (s 44) (s 45) (s 46) (s 47) (s 48) (s 106 2) (s 107 2) (s 108) (s 109) (s 110) (s 111) (s 112) (s 113) (s 114) (s 115) ∧
  RLi 3 (s 59 0) (s 59 1) (s 60) (s 61) (s 62) (s 63) (s 64) (s 65) (s 66) (s 67) (s 106 3) (s 107 3) (s 108) (s 109) (s 110) (s 111) (s 112) (s 113) (s 114) (s 115) ∧
  RJb 0 (s 21 0) (s 30) (s 31) (s 32) (s 33) (s 35) (s 36) (s 37) (s 38) (s 117) (s 118) (s 119) (s 120) (s 121) (s 122) (s 123) (s 124) ∧
  RJb 1 (s 40 0) (s 49) (s 50) (s 51) (s 52) (s 54) (s 55) (s 56) (s 57) (s 117) (s 118) (s 119) (s 120) (s 121) (s 122) (s 123) (s 124) ∧
  RJb 2 (s 59 0) (s 68) (s 69) (s 70) (s 71) (s 73) (s 74) (s 75) (s 76) (s 117) (s 118) (s 119) (s 120) (s 121) (s 122) (s 123) (s 124) ∧
  RSt (s 83 3) (s 84) (s 85) (s 86) (s 100 38) (s 128) (s 129) (s 130) ∧
  ROr (s 89 4) (s 90) (s 91) (s 92) (s 93) (s 100 42) (s 131) (s 132) (s 133) (s 134) ∧
  RLd (s 100 19) (s 106 1) ∧
  RKp (s 0 12) (s 0 13) (s 100 31) (s 100 32) n (s 125) (s 106 2) (s 106 3)
theorem RT.mono {n : Nat} {x2 x3 x4 x5 x6 y2 y3 y4 y5 y6 : Nat → Int} (h : RT n x2 x3 x4 x5 x6 y2 y3 y4 y5 y6) : RT (n + 1) x2 x3 x4 x5 x6 y2 y3 y4 y5 y6 := ⟨h.1, fun i hi => by have := h.2.1 i hi; omega, h.2.2⟩
theorem RKp.mono {k r k' r' : Int} {n : Nat} {wl : Nat → Int} {n2 n3 : Int} (h : RKp k r k' r' n wl n2 n3) : RKp k r k' r' (n + 1) wl n2 n3 := by
  obtain ⟨h1, h2, h3, h4, h5, h6, h7⟩ := h
  exact ⟨h1, h2, h3, h4, h5, by omega, h7⟩
theorem Rel.mono {n : Nat} {s : Mem} (h : Rel n s) : Rel (n + 1) s := by
  obtain ⟨h1, h2, h3, h4, h5, h6, h7, h8, h9, h10, h11, h12, h13, h14⟩ := h
  exact ⟨h1.mono, h2, h3, h4, h5, h6, h7, h8, h9, h10, h11, h12, h13, h14.mono⟩
/-- one call -/
def OP (fc fr : Mem → Option Res) : Prop := ∀ (n : Nat) (s : Mem), n < 600 → Rel n s → ∃ r s1 s2, fc s = some (r, s1) ∧ fr s1 = some (r, s2) ∧ Rel (n + 1) s2
theorem OP.same {fc fr : Mem → Option Res} {n : Nat} {s : Mem} (h : Rel n s) {r : Int} (h1 : fc s = some (r, s)) (h2 : fr s = some (r, s)) : ∃ r s1 s2, fc s = some (r, s1) ∧ fr s1 = some (r, s2) ∧ Rel (n + 1) s2 := ⟨r, s, s, h1, h2, h.mono⟩
theorem Rel.tb {n : Nat} {s : Mem} (h : Rel n s) : TB (s 2) (s 6) (s 3) ∧ TB (s 101) (s 105) (s 102) ∧ (∀ i, i < 81 → s 2 i = s 101 i) ∧ (∀ i, i < 2 → s 3 i = s 102 i ∧ s 4 i = s 103 i ∧ s 5 i = s 104 i) ∧ ∀ i, i < 3 → s 6 i = s 105 i := by
  obtain ⟨h1, -⟩ := h
  refine ⟨⟨fun i hi => (h1.1 i hi).2, fun i hi => (h1.2.2 i hi).2, fun i hi => ?_⟩, ⟨fun i hi => ?_, fun i hi => ?_, fun i hi => ?_⟩, fun i hi => (h1.1 i hi).1, fun i hi => ?_, fun i hi => (h1.2.2 i hi).1⟩
  · have := h1.2.1 i hi; omega
  · have := h1.1 i hi; omega
  · have := h1.2.2 i hi; omega
  · have := h1.2.1 i hi; omega
  · have := h1.2.1 i hi; exact ⟨this.1, this.2.1, this.2.2.1⟩
theorem op_table (a1 a2 a3 a4 : Int) : OP (fX10_table a1 a2 a3 a4) (fX11_table a1 a2 a3 a4) := by
  intro n s hn h
  have tb := h.tb
  by_cases hb : (0 ≤ a1 ∧ a1 ≤ 2) ∧ (0 ≤ a2 ∧ a2 ≤ 2) ∧ (0 ≤ a3 ∧ a3 ≤ 8) ∧ (0 ≤ a4 ∧ a4 ≤ 255)
  · have e0 := tb.2.2.1 (27 * a1 + 9 * a2 + a3).toNat (by omega)
    by_cases hq : (0 < a3 ∧ a4 < s 2 (27 * a1 + 9 * a2 + a3 - 1).toNat) ∨ (a3 < 8 ∧ s 2 (27 * a1 + 9 * a2 + a3 + 1).toNat < a4)
    · refine OP.same h (r := -2) (by rw [c_table, if_pos hb, if_pos hq]) ?_
      rw [r_table, if_pos hb, if_pos]
      rcases hq with hq | hq
      · left; rw [← tb.2.2.1 _ (by omega)]; exact hq
      · right; rw [← tb.2.2.1 _ (by omega)]; exact hq
    · refine ⟨s 2 (27 * a1 + 9 * a2 + a3).toNat, _, up (up s 2 (27 * a1 + 9 * a2 + a3).toNat a4) 101 (27 * a1 + 9 * a2 + a3).toNat a4, by rw [c_table, if_pos hb, if_neg hq], ?_, ?_⟩
      · rw [r_table, if_pos hb, if_neg]
        · rw [up_ne _ _ _ _ (show (101 : Nat) ≠ 2 by omega), ← e0]
        · rw [up_ne _ _ _ _ (show (101 : Nat) ≠ 2 by omega)]
          intro hz
          apply hq
          rcases hz with hz | hz
          · left; rw [tb.2.2.1 _ (by omega)]; exact hz
          · right; rw [tb.2.2.1 _ (by omega)]; exact hz
      · obtain ⟨h1, h2, h3, h4, h5, h6, h7, h8, h9, h10, h11, h12, h13, h14⟩ := h.mono
        unfold Rel
        simp only [ne_eq, not_false_eq_true, up_ne, Nat.reduceEqDiff]
        refine ⟨?_, h2, h3, h4, h5, h6, h7, h8, h9, h10, h11, h12, h13, h14⟩
        refine ⟨fun i hi => ?_, h1.2.1, h1.2.2⟩
        have := h1.1 i hi
        simp only [up_eq, up_ne, ne_eq, not_false_eq_true, Nat.reduceEqDiff]
        by_cases hi2 : i = (27 * a1 + 9 * a2 + a3).toNat
        · rw [if_pos hi2, if_pos hi2]; omega
        · rw [if_neg hi2, if_neg hi2]; exact this
  · exact OP.same h (r := -1) (by rw [c_table, if_neg hb]) (by rw [r_table, if_neg hb])
