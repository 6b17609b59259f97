/-- the shape of every place: an array (its kind: 0 int, 1 byte, 2 boolean; its length), or an object (its class's number; a field: none a number, some the place that it refers to) -/
def SHL : List ((Nat × Nat) ⊕ (Nat × List (Option Nat))) := [
  .inr (10, [some 1, some 7, some 8, some 11, some 20, some 39, some 58, some 77, some 79, some 83, some 89, some 94, none, none]),
  .inr (9, [some 2, some 3, some 4, some 5, some 6]),
  .inl (0, 81),
  .inl (0, 2),
  .inl (0, 2),
  .inl (0, 2),
  .inl (0, 3),
  .inl (0, 4),
  .inr (8, [some 9, none, some 10, none]),
  .inl (1, 400),
  .inl (0, 5),
  .inr (6, [none, none, some 12, some 13, some 14, some 15, some 16, some 17, some 18, some 19]),
  .inl (0, 17),
  .inl (0, 48),
  .inl (0, 16),
  .inl (0, 48),
  .inl (0, 16),
  .inl (0, 64),
  .inl (0, 64),
  .inl (0, 64),
  .inr (2, [some 21, some 30, some 31, some 32, some 33, some 34, some 38]),
  .inr (6, [none, none, some 22, some 23, some 24, some 25, some 26, some 27, some 28, some 29]),
  .inl (0, 17),
  .inl (0, 48),
  .inl (0, 16),
  .inl (0, 48),
  .inl (0, 16),
  .inl (0, 64),
  .inl (0, 64),
  .inl (0, 64),
  .inl (0, 48),
  .inl (0, 48),
  .inl (0, 16),
  .inl (0, 16),
  .inr (5, [some 35, some 36, some 37]),
  .inl (0, 8),
  .inl (0, 8),
  .inl (2, 8),
  .inl (0, 15),
  .inr (2, [some 40, some 49, some 50, some 51, some 52, some 53, some 57]),
  .inr (6, [none, none, some 41, some 42, some 43, some 44, some 45, some 46, some 47, some 48]),
  .inl (0, 17),
  .inl (0, 48),
  .inl (0, 16),
  .inl (0, 48),
  .inl (0, 16),
  .inl (0, 64),
  .inl (0, 64),
  .inl (0, 64),
  .inl (0, 48),
  .inl (0, 48),
  .inl (0, 16),
  .inl (0, 16),
  .inr (5, [some 54, some 55, some 56]),
  .inl (0, 8),
  .inl (0, 8),
  .inl (2, 8),
  .inl (0, 15),
  .inr (2, [some 59, some 68, some 69, some 70, some 71, some 72, some 76]),
  .inr (6, [none, none, some 60, some 61, some 62, some 63, some 64, some 65, some 66, some 67]),
  .inl (0, 17),
  .inl (0, 48),
  .inl (0, 16),
  .inl (0, 48),
  .inl (0, 16),
  .inl (0, 64),
  .inl (0, 64),
  .inl (0, 64),
  .inl (0, 48),
  .inl (0, 48),
  .inl (0, 16),
  .inl (0, 16),
  .inr (5, [some 73, some 74, some 75]),
  .inl (0, 8),
  .inl (0, 8),
  .inl (2, 8),
  .inl (0, 15),
  .inr (0, [some 78, none, none, none]),
  .inl (0, 16),
  .inr (1, [some 80, some 81, some 82, none]),
  .inl (0, 800),
  .inl (0, 50),
  .inl (0, 16),
  .inr (7, [some 84, some 85, some 86, none, some 87, some 88, none]),
  .inl (0, 20),
  .inl (0, 20),
  .inl (0, 20),
  .inl (0, 20),
  .inl (0, 20),
  .inr (3, [some 90, some 91, some 92, some 93, none]),
  .inl (0, 8),
  .inl (0, 8),
  .inl (0, 8),
  .inl (0, 8),
  .inr (4, [some 95, some 96, some 97, some 98, some 99, none, none]),
  .inl (0, 256),
  .inl (0, 256),
  .inl (0, 256),
  .inl (0, 16),
  .inl (0, 2),
  .inr (11, [some 101, some 102, some 103, some 104, some 105, none, none, none, none, some 106, some 107, some 108, some 109, some 110, some 111, some 112, some 113, some 114, some 115, none, none, some 116, some 117, some 118, some 119, some 120, some 121, some 122, some 123, some 124, some 125, none, none, none, some 126, none, none, some 127, none, some 128, some 129, some 130, none, some 131, some 132, some 133, some 134, some 135, none]),
  .inl (0, 81),
  .inl (0, 2),
  .inl (0, 2),
  .inl (0, 2),
  .inl (0, 3),
  .inl (0, 4),
  .inl (0, 4),
  .inl (0, 64),
  .inl (0, 192),
  .inl (0, 64),
  .inl (0, 192),
  .inl (0, 64),
  .inl (0, 256),
  .inl (0, 256),
  .inl (0, 256),
  .inl (0, 400),
  .inl (0, 144),
  .inl (0, 144),
  .inl (0, 48),
  .inl (0, 48),
  .inl (0, 24),
  .inl (0, 24),
  .inl (0, 24),
  .inl (0, 48),
  .inl (0, 2),
  .inl (0, 5),
  .inl (0, 816),
  .inl (0, 20),
  .inl (0, 20),
  .inl (0, 20),
  .inl (0, 8),
  .inl (0, 8),
  .inl (0, 8),
  .inl (0, 8),
  .inl (0, 256)]
abbrev NP : Nat := 136
theorem SHL_len : SHL.length = NP := by decide +kernel
def SH (p : Nat) : Option ((Nat × Nat) ⊕ (Nat × List (Option Nat))) := SHL[p]?
theorem SH_lt {p : Nat} {x : (Nat × Nat) ⊕ (Nat × List (Option Nat))} (h : SH p = some x) : p < NP := by
  have := (List.getElem?_eq_some_iff.mp h).1
  rw [SHL_len] at this; exact this
/-! numbers -/
abbrev Mem : Type := Nat → Nat → Int
abbrev Res : Type := Int × Mem
abbrev V : Type := Int ⊕ (Int64 ⊕ Nat)
def InR (x : Int) : Prop := -2147483648 ≤ x ∧ x < 2147483648
def RG (sg : Mem) : Prop := ∀ p i, InR (sg p i)
def wr (x : Int) : Int := Int.bmod x 4294967296
def i32 (x : Int) : Int32 := Int32.ofInt x
theorem i32_ti (x : Int) : (i32 x).toInt = wr x := by
  show (Int32.ofInt x).toInt = _
  rw [Int32.toInt_ofInt]; rfl
theorem in_ti (z : Int32) : InR z.toInt := ⟨z.le_toInt, z.toInt_lt⟩
theorem wr_in (x : Int) : InR (wr x) := i32_ti x ▸ in_ti (i32 x)
theorem wr_id {x : Int} (h : InR x) : wr x = x := by
  unfold InR at h
  show Int.bmod x 4294967296 = x
  exact Int.bmod_eq_of_le (by omega) (by omega)
theorem i32_in {x : Int} (h : InR x) : (i32 x).toInt = x := (i32_ti x).trans (wr_id h)
theorem i32_bk (z : Int32) : i32 z.toInt = z := Int32.ofInt_toInt z
theorem i32_wr (x : Int) : i32 (wr x) = i32 x := by rw [← i32_ti, i32_bk]
theorem i32_add (a b : Int) : i32 (wr (a + b)) = i32 a + i32 b := by rw [i32_wr]; exact Int32.ofInt_add a b
theorem i32_sub (a b : Int) : i32 (wr (a - b)) = i32 a - i32 b := by rw [i32_wr]; exact Int32.ofInt_sub a b
theorem i32_mul (a b : Int) : i32 (wr (a * b)) = i32 a * i32 b := by rw [i32_wr]; exact Int32.ofInt_mul a b
theorem i32_neg (a : Int) : i32 (wr (-a)) = - i32 a := by rw [i32_wr]; exact (Int32.neg_ofInt (n := a)).symm
theorem i32_lt {a b : Int} (ha : InR a) (hb : InR b) : i32 a < i32 b ↔ a < b := by rw [Int32.lt_iff_toInt_lt, i32_in ha, i32_in hb]
theorem i32_le {a b : Int} (ha : InR a) (hb : InR b) : i32 a ≤ i32 b ↔ a ≤ b := by rw [Int32.le_iff_toInt_le, i32_in ha, i32_in hb]
theorem i32_eq {a b : Int} (ha : InR a) (hb : InR b) : i32 a = i32 b ↔ a = b := by rw [← Int32.toInt_inj, i32_in ha, i32_in hb]
theorem i32_0 : i32 0 = 0 := by decide +kernel
theorem in_0 : InR 0 := by unfold InR; omega
theorem in_1 : InR 1 := by unfold InR; omega
theorem i32_nat {a : Int} (ha : InR a) : (i32 a).toNatClampNeg = a.toNat := by rw [← Int32.toNat_toInt, i32_in ha]
theorem i32_ix {a : Int} (ha : InR a) {n : Nat} (h : 0 ≤ a ∧ a < n) : vp_in (i32 a) n := by rw [vp_in_iff, i32_in ha]; exact h
def ian (a b : Int) : Int := (i32 a &&& i32 b).toInt
def iir (a b : Int) : Int := (i32 a ||| i32 b).toInt
def ixo (a b : Int) : Int := (i32 a ^^^ i32 b).toInt
def ish (a b : Int) : Int := (i32 a <<< (i32 b &&& 31)).toInt
def isr (a b : Int) : Int := (i32 a >>> (i32 b &&& 31)).toInt
def ius (a b : Int) : Int := ((i32 a).toUInt32 >>> ((i32 b).toUInt32 &&& Int32.toUInt32 31)).toInt32.toInt
def nby (a : Int) : Int := (i32 a).toInt8.toInt32.toInt
def i2l (a : Int) : Int64 := (i32 a).toInt64
def l2i (x : Int64) : Int := x.toInt32.toInt
def lsr (x : Int64) (a : Int) : Int64 := x >>> ((i32 a).toInt64 &&& 63)
def lsl (x : Int64) (a : Int) : Int64 := x <<< ((i32 a).toInt64 &&& 63)
def lan (x y : Int64) : Int64 := x &&& y
def lir (x y : Int64) : Int64 := x ||| y
def mx (a b : Int) : Int := if a < b then b else a
def mn (a b : Int) : Int := if b < a then b else a
def ab (a : Int) : Int := if 0 ≤ a then a else wr (0 - a)
theorem i32_div {a b : Int} (ha : InR a) (hb : InR b) : i32 (wr (a.tdiv b)) = i32 a / i32 b := by
  apply Int32.toInt_inj.mp
  rw [i32_wr, Int32.toInt_div, i32_in ha, i32_in hb, i32_ti]; rfl
theorem in_tdiv {a b : Int} (ha : InR a) (hb : 0 < b) : InR (a.tdiv b) := by
  unfold InR at *
  have h1 : (a.tdiv b).natAbs ≤ a.natAbs := by rw [Int.natAbs_tdiv]; exact Nat.div_le_self _ _
  rcases Int.le_total 0 a with h | h
  · have := Int.tdiv_nonneg h (Int.le_of_lt hb); omega
  · have h2 := Int.tdiv_nonneg (a := -a) (by omega) (Int.le_of_lt hb)
    rw [Int.neg_tdiv] at h2; omega
theorem in_tmod {a b : Int} (ha : InR a) : InR (a.tmod b) := by
  unfold InR at *
  have h1 : (a.tmod b).natAbs ≤ a.natAbs := by rw [Int.natAbs_tmod]; exact Nat.mod_le _ _
  rcases Int.le_total 0 a with h | h
  · have := Int.tmod_nonneg b h; omega
  · have h2 := Int.tmod_nonneg (a := -a) b (by omega)
    rw [Int.neg_tmod] at h2; omega
theorem i32_mod {a b : Int} (ha : InR a) (hb : InR b) : i32 (a.tmod b) = i32 a - i32 a / i32 b * i32 b := by
  rw [← i32_div ha hb, ← i32_mul, ← i32_sub, i32_wr]
  have h : i32 (a - wr (wr (a.tdiv b) * b)) = i32 a - i32 (wr (wr (a.tdiv b) * b)) := by rw [← i32_sub, i32_wr]
  rw [h, i32_mul, i32_wr, ← i32_mul, ← i32_sub, i32_wr]
  have h2 : a - wr (a.tdiv b * b) = a - wr (a.tdiv b * b) := rfl
  have h3 : i32 (a - wr (a.tdiv b * b)) = i32 (a - a.tdiv b * b) := by rw [← i32_wr (a - wr _), i32_sub, i32_wr, ← i32_sub, i32_wr]
  rw [h3]
  congr 1
  have := Int.tmod_add_tdiv_mul a b
  omega
theorem in_mx {a b : Int} (ha : InR a) (hb : InR b) : InR (mx a b) := by unfold mx; split <;> assumption
theorem in_mn {a b : Int} (ha : InR a) (hb : InR b) : InR (mn a b) := by unfold mn; split <;> assumption
theorem in_ab {a : Int} (ha : InR a) : InR (ab a) := by
  unfold ab; split
  · exact ha
  · exact wr_in _
theorem i32_mx {a b : Int} (ha : InR a) (hb : InR b) : i32 (mx a b) = (if i32 a < i32 b then i32 b else i32 a) := by
  unfold mx
  by_cases q : a < b
  · rw [if_pos q, if_pos ((i32_lt ha hb).mpr q)]
  · rw [if_neg q, if_neg (fun z => q ((i32_lt ha hb).mp z))]
theorem i32_mn {a b : Int} (ha : InR a) (hb : InR b) : i32 (mn a b) = (if i32 b < i32 a then i32 b else i32 a) := by
  unfold mn
  by_cases q : b < a
  · rw [if_pos q, if_pos ((i32_lt hb ha).mpr q)]
  · rw [if_neg q, if_neg (fun z => q ((i32_lt hb ha).mp z))]
theorem i32_ab {a : Int} (ha : InR a) : i32 (ab a) = (if 0 ≤ i32 a then i32 a else 0 - i32 a) := by
  unfold ab
  rw [← i32_0]
  by_cases q : 0 ≤ a
  · rw [if_pos q, if_pos ((i32_le in_0 ha).mpr q)]
  · rw [if_neg q, if_neg (fun z => q ((i32_le in_0 ha).mp z)), i32_sub]
/-! memory -/
def up (sg : Mem) (p i : Nat) (v : Int) : Mem := fun q => if q = p then (fun j => if j = i then v else sg q j) else sg q
def cpm (sg : Mem) (p q sp dp n : Nat) : Mem := fun r => if r = q then va_cpy (sg p) (sg q) sp dp n else sg r
theorem RG_up {sg : Mem} (h : RG sg) (p i : Nat) {v : Int} (hv : InR v) : RG (up sg p i v) := by
  intro q j
  unfold up
  by_cases hq : q = p
  · rw [if_pos hq]; by_cases hj : j = i
    · simp only [hj, if_true]; exact hv
    · simp only [hj, if_false]; exact h q j
  · rw [if_neg hq]; exact h q j
theorem RG_cpm {sg : Mem} (h : RG sg) (p q sp dp n : Nat) : RG (cpm sg p q sp dp n) := by
  intro r j
  unfold cpm
  by_cases hr : r = q
  · rw [if_pos hr]; unfold va_cpy; split
    · exact h _ _
    · exact h _ _
  · rw [if_neg hr]; exact h r j
/-! the words of programs -/
def lt {α β : Type} (e : α) (k : α → β) : β := k e
def jn {γ β : Type} (kont : γ) (body : γ → β) : β := body kont
def rd {β : Type} (f : Nat → Int) (i : Int) (n : Nat) (k : Int → Option β) : Option β := if 0 ≤ i ∧ i < n then k (f i.toNat) else none
def ST {β : Type} (sg : Mem) (p : Nat) (i : Int) (n : Nat) (v : Int) (k : Mem → Option β) : Option β := if 0 ≤ i ∧ i < n then k (up sg p i.toNat v) else none
def dv {β : Type} (a b : Int) (k : Int → Option β) : Option β := if b = 0 then none else k (wr (a.tdiv b))
def bnd {β : Type} (x : Option Res) (k : Int → Mem → Option β) : Option β := match x with
  | none => none
  | some r => k r.1 r.2
def zr (v : Int) (sg : Mem) : Option Res := if v = 0 ∨ v = 1 then some (v, sg) else none
def zp {β : Type} (v : Int) (k : Option β) : Option β := if v = 0 ∨ v = 1 then k else none
def acp {β : Type} (sg : Mem) (p n0 : Nat) (sp : Int) (q n1 : Nat) (dp n : Int) (k : Mem → Option β) : Option β :=
  if 0 ≤ sp ∧ 0 ≤ dp ∧ 0 ≤ n ∧ sp.toNat + n.toNat ≤ n0 ∧ dp.toNat + n.toNat ≤ n1 then k (cpm sg p q sp.toNat dp.toNat n.toNat) else none
/-! the world -/
def vv (ad : Nat → Nat) : V → Value
  | .inl x => .int (i32 x)
  | .inr (.inl x) => .long x
  | .inr (.inr p) => .ref (ad p)
def vin : V → Prop
  | .inl x => InR x
  | .inr _ => True
def fval (ad : Nat → Nat) (sg : Mem) (p k : Nat) : Option Nat → Value
  | none => .int (i32 (sg p k))
  | some q => .ref (ad q)
def cellE (ad : Nat → Nat) (cA : Nat → ClassId) (sg : Mem) (p : Nat) : va_E := match SH p with
  | some (.inl a) => .inl (cA a.1, a.2, .inl (fun j => i32 (sg p j)))
  | some (.inr o) => .inr (o.1, o.2.mapIdx (fval ad sg p))
  | none => .inr (0, [])
def WS (ad : Nat → Nat) (cA : Nat → ClassId) (sg : Mem) : va_W := (List.range NP).map (fun p => (ad p, cellE ad cA sg p))
theorem WS_at (ad : Nat → Nat) (cA : Nat → ClassId) (sg : Mem) {p : Nat} (h : p < NP) : (WS ad cA sg)[p]? = some (ad p, cellE ad cA sg p) := by
  unfold WS
  rw [List.getElem?_map, List.getElem?_range h]; rfl
theorem WS_out (ad : Nat → Nat) (cA : Nat → ClassId) (sg : Mem) {p : Nat} (h : NP ≤ p) : (WS ad cA sg)[p]? = none := by
  unfold WS
  rw [List.getElem?_eq_none_iff, List.length_map, List.length_range]; exact h
theorem WS_some {ad : Nat → Nat} {cA : Nat → ClassId} {sg : Mem} {p : Nat} {x : Nat × va_E} (h : (WS ad cA sg)[p]? = some x) : p < NP ∧ x = (ad p, cellE ad cA sg p) := by
  by_cases hp : p < NP
  · rw [WS_at _ _ _ hp] at h; exact ⟨hp, (Option.some.inj h).symm⟩
  · rw [WS_out _ _ _ (Nat.not_lt.mp hp)] at h; cases h
theorem WS_arr (ad : Nat → Nat) (cA : Nat → ClassId) (sg : Mem) {p kd n : Nat} (h : SH p = some (.inl (kd, n))) : (WS ad cA sg)[p]? = some (ad p, .inl (cA kd, n, .inl (fun j => i32 (sg p j)))) := by
  rw [WS_at _ _ _ (SH_lt h)]; unfold cellE; rw [h]
theorem WS_obj (ad : Nat → Nat) (cA : Nat → ClassId) (sg : Mem) {p ci : Nat} {fs : List (Option Nat)} (h : SH p = some (.inr (ci, fs))) : (WS ad cA sg)[p]? = some (ad p, .inr (ci, fs.mapIdx (fval ad sg p))) := by
  rw [WS_at _ _ _ (SH_lt h)]; unfold cellE; rw [h]
theorem WS_len (ad : Nat → Nat) (cA : Nat → ClassId) (sg : Mem) : (WS ad cA sg).length = NP := by unfold WS; simp
theorem WS_set (ad : Nat → Nat) (cA : Nat → ClassId) (sg sg' : Mem) {p : Nat} (hp : p < NP) {e : va_E} (he : cellE ad cA sg' p = e) (ho : ∀ q, q ≠ p → sg' q = sg q) : (WS ad cA sg).set p (ad p, e) = WS ad cA sg' := by
  apply List.ext_getElem?
  intro q
  rw [List.getElem?_set]
  by_cases hq : p = q
  · subst hq
    rw [if_pos rfl, if_pos (by rw [WS_len]; exact hp), WS_at _ _ _ hp, he]
  · rw [if_neg hq]
    by_cases hl : q < NP
    · rw [WS_at _ _ _ hl, WS_at _ _ _ hl]
      have : cellE ad cA sg q = cellE ad cA sg' q := by
        unfold cellE
        rw [ho q (fun h => hq h.symm)]
        cases SH q with
        | none => rfl
        | some x => cases x with
          | inl a => rfl
          | inr o =>
            show Sum.inr (o.1, o.2.mapIdx (fval ad sg q)) = Sum.inr (o.1, o.2.mapIdx (fval ad sg' q))
            have e : fval ad sg q = fval ad sg' q := by
              funext k x; unfold fval; rw [ho q (fun h => hq h.symm)]
            rw [e]
      rw [this]
    · rw [WS_out _ _ _ (Nat.not_lt.mp hl), WS_out _ _ _ (Nat.not_lt.mp hl)]
theorem up_o {sg : Mem} {p i : Nat} {v : Int} (q : Nat) (h : q ≠ p) : up sg p i v q = sg q := if_neg h
theorem cpm_o {sg : Mem} {p q sp dp n : Nat} (r : Nat) (h : r ≠ q) : cpm sg p q sp dp n r = sg r := if_neg h
theorem WS_upA (ad : Nat → Nat) (cA : Nat → ClassId) (sg : Mem) {p kd n i : Nat} {v : Int} {x : Int32} (h : SH p = some (.inl (kd, n))) (hx : i32 v = x) : (WS ad cA sg).set p (ad p, .inl (cA kd, n, .inl (upd (fun j => i32 (sg p j)) i x))) = WS ad cA (up sg p i v) := by
  refine WS_set ad cA sg _ (SH_lt h) ?_ (fun q hq => up_o q hq)
  unfold cellE; rw [h]
  show Sum.inl (cA kd, n, Sum.inl (fun j => i32 (up sg p i v p j))) = _
  congr 3
  congr 1
  funext j
  subst hx
  unfold up upd
  rw [if_pos rfl]
  by_cases hj : j = i
  · simp [hj]
  · simp [hj]
theorem WS_cpA (ad : Nat → Nat) (cA : Nat → ClassId) (sg : Mem) {p q kd n sp dp m : Nat} (h : SH q = some (.inl (kd, n))) : (WS ad cA sg).set q (ad q, .inl (cA kd, n, .inl (va_cpy (fun j => i32 (sg p j)) (fun j => i32 (sg q j)) sp dp m))) = WS ad cA (cpm sg p q sp dp m) := by
  refine WS_set ad cA sg _ (SH_lt h) ?_ (fun r hr => cpm_o r hr)
  unfold cellE; rw [h]
  show Sum.inl (cA kd, n, Sum.inl (fun j => i32 (cpm sg p q sp dp m q j))) = _
  congr 3
  congr 1
  funext j
  unfold cpm va_cpy
  rw [if_pos rfl]
  split <;> rfl
theorem WS_upF (ad : Nat → Nat) (cA : Nat → ClassId) (sg : Mem) {p ci k : Nat} {fs : List (Option Nat)} {v : Int} (h : SH p = some (.inr (ci, fs))) (hk : fs[k]? = some none) : (WS ad cA sg).set p (ad p, .inr (ci, (fs.mapIdx (fval ad sg p)).set k (.int (i32 v)))) = WS ad cA (up sg p k v) := by
  refine WS_set ad cA sg _ (SH_lt h) ?_ (fun q hq => up_o q hq)
  unfold cellE; rw [h]
  show Sum.inr (ci, fs.mapIdx (fval ad (up sg p k v) p)) = _
  congr 2
  apply List.ext_getElem?
  intro j
  rw [List.getElem?_set, List.getElem?_mapIdx, List.getElem?_mapIdx]
  by_cases hj : k = j
  · subst hj
    have hl : k < fs.length := (List.getElem?_eq_some_iff.mp hk).1
    rw [if_pos rfl, if_pos (by rw [List.length_mapIdx]; exact hl), hk]
    show some (Value.int (i32 (up sg p k v p k))) = _
    unfold up; simp
  · rw [if_neg hj]
    cases fs[j]? with
    | none => rfl
    | some o => cases o with
      | none =>
        show some (Value.int (i32 (up sg p k v p j))) = some (Value.int (i32 (sg p j)))
        unfold up; simp [Ne.symm hj]
      | some q => rfl
theorem WS_D {A : Nat → Prop} {ad : Nat → Nat} {cA : Nat → ClassId} {sg : Mem} (hi : ∀ i j, i < NP → j < NP → ad i = ad j → i = j) (hA : ∀ k, k < NP → A (ad k)) : va_D A (WS ad cA sg) := by
  refine ⟨fun i j p q hp hq h => ?_, fun k q hq => ?_⟩
  · obtain ⟨h1, rfl⟩ := WS_some hp
    obtain ⟨h2, rfl⟩ := WS_some hq
    exact hi i j h1 h2 h
  · obtain ⟨h1, rfl⟩ := WS_some hq
    exact hA k h1
