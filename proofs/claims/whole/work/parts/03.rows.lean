abbrev KT : Type := Program × Launch × Env × State × MethodId × Array Value × List Frame × Method × Code × va_G × (Nat → Nat) × (Nat → ClassId) × (Nat → Prop) × (Nat × Nat) × (Res → State → Prop)
def kl (K : KT) : Launch := K.2.1
def kD (K : KT) : va_G := K.2.2.2.2.2.2.2.2.2.1
def kad (K : KT) : Nat → Nat := K.2.2.2.2.2.2.2.2.2.2.1
def kcA (K : KT) : Nat → ClassId := K.2.2.2.2.2.2.2.2.2.2.2.1
def isNest : Cond → Bool
  | .methodLinkNest .. => true
  | _ => false
def NW : List Cond := tables_1.filter isNest
theorem NW_i (i : Nat) {w : Cond} (h : tables_1[i]? = some w) (hg : isNest w = true) : w ∈ NW := List.mem_filter.mpr ⟨List.mem_of_getElem? h, hg⟩
def NWs (U : State) : Prop := ∀ w ∈ NW, va_Nw w U
theorem NWs.warm {s U : State} (hW : s.WarmedH U.vm) (h : NWs s) : NWs U := by
  intro w hw
  have h1 := h w hw
  have h2 := (List.mem_filter.mp hw).2
  cases w <;> first | (simp [isNest] at h2; done) | exact va_Nw.warmM hW h1
theorem NWs.same {u U : State} (e : u.vm = U.vm) (h : NWs u) : NWs U := by
  intro w hw
  have h1 := h w hw
  have h2 := (List.mem_filter.mp hw).2
  cases w <;> first | (simp [isNest] at h2; done) | exact va_Nw.same rfl e h1
abbrev tyA (cA : Nat → ClassId) : List (ClassId × FieldType) := [(cA 0, .int), (cA 1, .byte), (cA 2, .boolean)]
def rlo (j : Nat) : Int := [1, 0, 0, 1].getD j 0
def rhi (j : Nat) : Int := [48, 60, 3, 20].getD j 0
/-- the two static rows that are read behind the constructors: places 1000, 1001 -/
def SF (ad : Nat → Nat) (A : Nat → Prop) (U : State) (H : Heap) : Prop :=
  (va_Z RX10 "RULES_LOW" "[I" (.ref (ad 1000)) A U H ∧ va_T .int (ad 1000) 4 (fun j => .int (i32 (rlo j))) A U H) ∧
  (va_Z RX10 "RULES_HIGH" "[I" (.ref (ad 1001)) A U H ∧ va_T .int (ad 1001) 4 (fun j => .int (i32 (rhi j))) A U H)
theorem SF.moved {ad : Nat → Nat} {A : Nat → Prop} {u U : State} {H : Heap} (hvm : u.vm.Alike U.vm) (h : SF ad A u H) : SF ad A U H := ⟨⟨h.1.1.moved hvm, h.1.2.moved hvm⟩, ⟨h.2.1.moved hvm, h.2.2.moved hvm⟩⟩
theorem SF.kept {ad : Nat → Nat} {A : Nat → Prop} {U : State} {H H1 : Heap} (h : SF ad A U H) (hq : ∀ a : Nat, a < H.size → ¬ A a → H1[a]? = H[a]?) : SF ad A U H1 := ⟨⟨h.1.1.kept hq, h.1.2.kept hq⟩, ⟨h.2.1.kept hq, h.2.2.kept hq⟩⟩
theorem SF.narrow {ad : Nat → Nat} {A B : Nat → Prop} {U : State} {H : Heap} (h : SF ad A U H) (hAB : ∀ q, B q → A q) : SF ad B U H := ⟨⟨h.1.1.narrow hAB, h.1.2.narrow hAB⟩, ⟨h.2.1.narrow hAB, h.2.2.narrow hAB⟩⟩
def AdI (ad : Nat → Nat) : Prop := ∀ i j, i < NP → j < NP → ad i = ad j → i = j
def AG (ad : Nat → Nat) : Nat → Prop := fun q => ∃ k, k < NP ∧ q = ad k
def CX (K : KT) (rm : Room) (cc : ByteArray) (own : String) (nL : Nat) : Prop := match K with
  | (p, _, _, s, m, args, _, _, c, D, ad, cA, A, (cells, slots), _) =>
    p.tables.exec = Jvm.exec ∧ c.code = cc ∧ c.maxLocals = nL ∧ s.vm.findClass own = some m.cls ∧ (∀ w ∈ TT, w.before args s = true) ∧ va_K D vwCl (tyA cA) s ∧ AdI ad ∧ (∀ k, k < NP → A (ad k)) ∧ NWs s ∧ SF ad A s s.heap ∧ cells ≤ rm.cells ∧ slots ≤ rm.slots
def LH (ad : Nat → Nat) (la : Array Slot) (nL : Nat) (ls : List (Option V)) : Prop := la.size = nL ∧ lv_wf la ∧ ∀ (i : Nat) (v : V), ls[i]? = some (some v) → la[i]? = some (Slot.val (vv ad v))
def VL (ls : List (Option V)) : Prop := ∀ (i : Nat) (v : V), ls[i]? = some (some v) → vin v
def VS (st : List V) : Prop := ∀ v ∈ st, vin v
/-- at pc, with these locals, this stack, this memory: the machine comes to the end that the program x tells -/
def J (K : KT) (rm : Room) (cc : ByteArray) (own : String) (nL pc : Nat) (ls : List (Option V)) (st : List V) (sg : Mem) (x : Option Res) : Prop :=
  CX K rm cc own nL → VL ls → VS st → RG sg → ∀ r, x = some r → match K with
  | (p, l, e, s, m, args, below, meth, c, D, ad, cA, A, (cells, slots), Q) =>
    ∀ (H : Heap) (locs : List Loc) (la : Array Slot), LH ad la nL ls → va_P D vwCl (WS ad cA sg) H → va_S A s.heap H locs → W p l e rm s m args below meth c H locs cells slots (Q r) (F0 m pc la (st.map (vv ad)))
theorem VS.tl {v : V} {st : List V} (h : VS (v :: st)) : VS st := fun w hw => h w (List.mem_cons_of_mem _ hw)
theorem VS.hd {v : V} {st : List V} (h : VS (v :: st)) : vin v := h v List.mem_cons_self
theorem VS.cons {v : V} {st : List V} (hv : vin v) (h : VS st) : VS (v :: st) := fun w hw => (List.mem_cons.mp hw).elim (fun e => e ▸ hv) (h w)
theorem J_none {K : KT} {rm : Room} {cc : ByteArray} {own : String} {nL pc : Nat} {ls : List (Option V)} {st : List V} {sg : Mem} : J K rm cc own nL pc ls st sg none := by
  intro _ _ _ _ r h; cases h
def msk : List Bool → List (Option V) → List (Option V)
  | b :: bs, v :: vs => (match b with | true => v | false => none) :: msk bs vs
  | _, _ => []
theorem msk_at : ∀ (bs : List Bool) (ls : List (Option V)) (i : Nat) (v : V), (msk bs ls)[i]? = some (some v) → ls[i]? = some (some v)
  | [], _, i, v, h => by simp [msk] at h
  | _ :: _, [], i, v, h => by simp [msk] at h
  | b :: bs, w :: vs, 0, v, h => by
    cases b
    · simp [msk] at h
    · simpa [msk] using h
  | b :: bs, w :: vs, i + 1, v, h => by
    have h' : (msk bs vs)[i]? = some (some v) := by simpa [msk] using h
    have := msk_at bs vs i v h'
    simpa using this
theorem j_msk {K : KT} {rm : Room} {cc : ByteArray} {own : String} {nL pc : Nat} {ls : List (Option V)} {st : List V} {sg : Mem} {x : Option Res} (bs : List Bool) (k : J K rm cc own nL pc (msk bs ls) st sg x) : J K rm cc own nL pc ls st sg x := by
  obtain ⟨p, l, e, s, m, args, below, meth, c, D, ad, cA, A, ⟨cells, slots⟩, Q⟩ := K
  intro C hl hs hg r hr H locs la hla hP hS
  exact k C (fun i v h => hl i v (msk_at bs ls i v h)) hs hg r hr H locs la ⟨hla.1, hla.2.1, fun i v h => hla.2.2 i v (msk_at bs ls i v h)⟩ hP hS
theorem j_lt {α : Type} {K : KT} {rm : Room} {cc : ByteArray} {own : String} {nL pc : Nat} {ls : List (Option V)} {st : List V} {sg : Mem} {e : α} {k : α → Option Res} (h : J K rm cc own nL pc ls st sg (k e)) : J K rm cc own nL pc ls st sg (lt e k) := h
theorem j_jn {γ : Type} {K : KT} {rm : Room} {cc : ByteArray} {own : String} {nL pc : Nat} {ls : List (Option V)} {st : List V} {sg : Mem} {kont : γ} {body : γ → Option Res} (X : γ → Prop) (h1 : X kont) (h2 : ∀ k, X k → J K rm cc own nL pc ls st sg (body k)) : J K rm cc own nL pc ls st sg (jn kont body) := h2 kont h1
theorem j_if {K : KT} {rm : Room} {cc : ByteArray} {own : String} {nL pc : Nat} {ls : List (Option V)} {st : List V} {sg : Mem} {q : Prop} [Decidable q] {x y : Option Res} (h1 : q → J K rm cc own nL pc ls st sg x) (h2 : ¬ q → J K rm cc own nL pc ls st sg y) : J K rm cc own nL pc ls st sg (if q then x else y) := by
  by_cases h : q
  · rw [if_pos h]; exact h1 h
  · rw [if_neg h]; exact h2 h
section ROWS
variable {K : KT} {rm : Room} {cc : ByteArray} {own : String} {nL pc : Nat} {ls : List (Option V)} {st : List V} {sg : Mem} {x : Option Res}
theorem j_iconst {n : Int} (hd : decode cc pc = .ok (.iconst n, 1)) (hn : InR n) (k : J K rm cc own nL (pc + 1) ls (.inl n :: st) sg x) : J K rm cc own nL pc ls st sg x := by
  obtain ⟨p, l, e, s, m, args, below, meth, c, D, ad, cA, A, ⟨cells, slots⟩, Q⟩ := K
  intro C hl hs hg r hr H locs la hla hP hS
  obtain ⟨hx, hb, hml, hown, hts, hK, hI, hA, hN, hF, hc1, hc2⟩ := id C
  exact lv_iconst hx hb hd rfl (k C hl (hs.cons hn) hg r hr H locs la hla hP hS)
theorem j_bipush {n v : Int} (hd : decode cc pc = .ok (.bipush n, 2)) (hv : (Int8.ofInt n).toInt32 = i32 v) (hn : InR v) (k : J K rm cc own nL (pc + 2) ls (.inl v :: st) sg x) : J K rm cc own nL pc ls st sg x := by
  obtain ⟨p, l, e, s, m, args, below, meth, c, D, ad, cA, A, ⟨cells, slots⟩, Q⟩ := K
  intro C hl hs hg r hr H locs la hla hP hS
  obtain ⟨hx, hb, hml, hown, hts, hK, hI, hA, hN, hF, hc1, hc2⟩ := id C
  exact lv_bipush hx hb hd hv (k C hl (hs.cons hn) hg r hr H locs la hla hP hS)
theorem j_sipush {n v : Int} (hd : decode cc pc = .ok (.sipush n, 3)) (hv : (Int16.ofInt n).toInt32 = i32 v) (hn : InR v) (k : J K rm cc own nL (pc + 3) ls (.inl v :: st) sg x) : J K rm cc own nL pc ls st sg x := by
  obtain ⟨p, l, e, s, m, args, below, meth, c, D, ad, cA, A, ⟨cells, slots⟩, Q⟩ := K
  intro C hl hs hg r hr H locs la hla hP hS
  obtain ⟨hx, hb, hml, hown, hts, hK, hI, hA, hN, hF, hc1, hc2⟩ := id C
  exact lv_sipush hx hb hd hv (k C hl (hs.cons hn) hg r hr H locs la hla hP hS)
theorem j_ldc {i : Nat} {v : Int} (hd : decode cc pc = .ok (.ldc i, 2)) (hw : Cond.constant own i (i32 v) ∈ TT) (hn : InR v) (k : J K rm cc own nL (pc + 2) ls (.inl v :: st) sg x) : J K rm cc own nL pc ls st sg x := by
  obtain ⟨p, l, e, s, m, args, below, meth, c, D, ad, cA, A, ⟨cells, slots⟩, Q⟩ := K
  intro C hl hs hg r hr H locs la hla hP hS
  obtain ⟨hx, hb, hml, hown, hts, hK, hI, hA, hN, hF, hc1, hc2⟩ := id C
  exact lv_ldc hx hb hown (hts _ hw) hd (k C hl (hs.cons hn) hg r hr H locs la hla hP hS)
theorem j_ldcw {i : Nat} {v : Int} (hd : decode cc pc = .ok (.ldc_w i, 3)) (hw : Cond.constant own i (i32 v) ∈ TT) (hn : InR v) (k : J K rm cc own nL (pc + 3) ls (.inl v :: st) sg x) : J K rm cc own nL pc ls st sg x := by
  obtain ⟨p, l, e, s, m, args, below, meth, c, D, ad, cA, A, ⟨cells, slots⟩, Q⟩ := K
  intro C hl hs hg r hr H locs la hla hP hS
  obtain ⟨hx, hb, hml, hown, hts, hK, hI, hA, hN, hF, hc1, hc2⟩ := id C
  exact lv_ldcw hx hb hown (hts _ hw) hd (k C hl (hs.cons hn) hg r hr H locs la hla hP hS)
theorem j_ldc2 {i : Nat} {v : Int64} (hd : decode cc pc = .ok (.ldc2_w i, 3)) (hw : Cond.constantLong own i v ∈ TT) (k : J K rm cc own nL (pc + 3) ls (.inr (.inl v) :: st) sg x) : J K rm cc own nL pc ls st sg x := by
  obtain ⟨p, l, e, s, m, args, below, meth, c, D, ad, cA, A, ⟨cells, slots⟩, Q⟩ := K
  intro C hl hs hg r hr H locs la hla hP hS
  obtain ⟨hx, hb, hml, hown, hts, hK, hI, hA, hN, hF, hc1, hc2⟩ := id C
  exact lv_ldc2 hx hb hown (hts _ hw) hd (k C hl (hs.cons trivial) hg r hr H locs la hla hP hS)
theorem j_iload_n {kk : Fin 4} {i : Nat} {a : Int} (hd : decode cc pc = .ok (.iload_n kk, 1)) (hi : (kk : Nat) = i) (hv : ls[i]? = some (some (.inl a))) (k : J K rm cc own nL (pc + 1) ls (.inl a :: st) sg x) : J K rm cc own nL pc ls st sg x := by
  obtain ⟨p, l, e, s, m, args, below, meth, c, D, ad, cA, A, ⟨cells, slots⟩, Q⟩ := K
  intro C hl hs hg r hr H locs la hla hP hS
  obtain ⟨hx, hb, hml, hown, hts, hK, hI, hA, hN, hF, hc1, hc2⟩ := id C
  exact lv_iload_n hx hb hd hi (hla.2.2 _ _ hv) (k C hl (hs.cons (hl _ _ hv)) hg r hr H locs la hla hP hS)
theorem j_iload {i : Nat} {a : Int} (hd : decode cc pc = .ok (.iload i, 2)) (hv : ls[i]? = some (some (.inl a))) (k : J K rm cc own nL (pc + 2) ls (.inl a :: st) sg x) : J K rm cc own nL pc ls st sg x := by
  obtain ⟨p, l, e, s, m, args, below, meth, c, D, ad, cA, A, ⟨cells, slots⟩, Q⟩ := K
  intro C hl hs hg r hr H locs la hla hP hS
  obtain ⟨hx, hb, hml, hown, hts, hK, hI, hA, hN, hF, hc1, hc2⟩ := id C
  exact lv_iload hx hb hd (hla.2.2 _ _ hv) (k C hl (hs.cons (hl _ _ hv)) hg r hr H locs la hla hP hS)
theorem j_lload_n {kk : Fin 4} {i : Nat} {a : Int64} (hd : decode cc pc = .ok (.lload_n kk, 1)) (hi : (kk : Nat) = i) (hv : ls[i]? = some (some (.inr (.inl a)))) (k : J K rm cc own nL (pc + 1) ls (.inr (.inl a) :: st) sg x) : J K rm cc own nL pc ls st sg x := by
  obtain ⟨p, l, e, s, m, args, below, meth, c, D, ad, cA, A, ⟨cells, slots⟩, Q⟩ := K
  intro C hl hs hg r hr H locs la hla hP hS
  obtain ⟨hx, hb, hml, hown, hts, hK, hI, hA, hN, hF, hc1, hc2⟩ := id C
  exact lv_lload_n hx hb hd hi (hla.2.2 _ _ hv) (k C hl (hs.cons (hl _ _ hv)) hg r hr H locs la hla hP hS)
theorem j_lload {i : Nat} {a : Int64} (hd : decode cc pc = .ok (.lload i, 2)) (hv : ls[i]? = some (some (.inr (.inl a)))) (k : J K rm cc own nL (pc + 2) ls (.inr (.inl a) :: st) sg x) : J K rm cc own nL pc ls st sg x := by
  obtain ⟨p, l, e, s, m, args, below, meth, c, D, ad, cA, A, ⟨cells, slots⟩, Q⟩ := K
  intro C hl hs hg r hr H locs la hla hP hS
  obtain ⟨hx, hb, hml, hown, hts, hK, hI, hA, hN, hF, hc1, hc2⟩ := id C
  exact lv_lload hx hb hd (hla.2.2 _ _ hv) (k C hl (hs.cons (hl _ _ hv)) hg r hr H locs la hla hP hS)
theorem j_aload_n {kk : Fin 4} {i : Nat} {a : Nat} (hd : decode cc pc = .ok (.aload_n kk, 1)) (hi : (kk : Nat) = i) (hv : ls[i]? = some (some (.inr (.inr a)))) (k : J K rm cc own nL (pc + 1) ls (.inr (.inr a) :: st) sg x) : J K rm cc own nL pc ls st sg x := by
  obtain ⟨p, l, e, s, m, args, below, meth, c, D, ad, cA, A, ⟨cells, slots⟩, Q⟩ := K
  intro C hl hs hg r hr H locs la hla hP hS
  obtain ⟨hx, hb, hml, hown, hts, hK, hI, hA, hN, hF, hc1, hc2⟩ := id C
  exact lv_aload_n hx hb hd hi (hla.2.2 _ _ hv) (k C hl (hs.cons (hl _ _ hv)) hg r hr H locs la hla hP hS)
theorem j_aload {i : Nat} {a : Nat} (hd : decode cc pc = .ok (.aload i, 2)) (hv : ls[i]? = some (some (.inr (.inr a)))) (k : J K rm cc own nL (pc + 2) ls (.inr (.inr a) :: st) sg x) : J K rm cc own nL pc ls st sg x := by
  obtain ⟨p, l, e, s, m, args, below, meth, c, D, ad, cA, A, ⟨cells, slots⟩, Q⟩ := K
  intro C hl hs hg r hr H locs la hla hP hS
  obtain ⟨hx, hb, hml, hown, hts, hK, hI, hA, hN, hF, hc1, hc2⟩ := id C
  exact lv_aload hx hb hd (hla.2.2 _ _ hv) (k C hl (hs.cons (hl _ _ hv)) hg r hr H locs la hla hP hS)
theorem j_iadd {a b : Int} (hd : decode cc pc = .ok (.iadd, 1)) (k : J K rm cc own nL (pc + 1) ls (.inl (wr (a + b)) :: st) sg x) : J K rm cc own nL pc ls (.inl b :: .inl a :: st) sg x := by
  obtain ⟨p, l, e, s, m, args, below, meth, c, D, ad, cA, A, ⟨cells, slots⟩, Q⟩ := K
  intro C hl hs hg r hr H locs la hla hP hS
  obtain ⟨hx, hb, hml, hown, hts, hK, hI, hA, hN, hF, hc1, hc2⟩ := id C
  have ha : InR a := hs.tl.hd
  have hb2 : InR b := hs.hd
  have e0 := i32_add a b
  have h := k C hl (hs.tl.tl.cons (show InR (wr (a + b)) from wr_in _)) hg r hr H locs la hla hP hS
  have h : W p l e rm s m args below meth c H locs cells slots (Q r) (F0 m _ la (.int (i32 (wr (a + b))) :: st.map (vv ad))) := h
  rw [e0] at h
  exact lv_iadd hx hb hd h
theorem j_isub {a b : Int} (hd : decode cc pc = .ok (.isub, 1)) (k : J K rm cc own nL (pc + 1) ls (.inl (wr (a - b)) :: st) sg x) : J K rm cc own nL pc ls (.inl b :: .inl a :: st) sg x := by
  obtain ⟨p, l, e, s, m, args, below, meth, c, D, ad, cA, A, ⟨cells, slots⟩, Q⟩ := K
  intro C hl hs hg r hr H locs la hla hP hS
  obtain ⟨hx, hb, hml, hown, hts, hK, hI, hA, hN, hF, hc1, hc2⟩ := id C
  have ha : InR a := hs.tl.hd
  have hb2 : InR b := hs.hd
  have e0 := i32_sub a b
  have h := k C hl (hs.tl.tl.cons (show InR (wr (a - b)) from wr_in _)) hg r hr H locs la hla hP hS
  have h : W p l e rm s m args below meth c H locs cells slots (Q r) (F0 m _ la (.int (i32 (wr (a - b))) :: st.map (vv ad))) := h
  rw [e0] at h
  exact lv_isub hx hb hd h
theorem j_imul {a b : Int} (hd : decode cc pc = .ok (.imul, 1)) (k : J K rm cc own nL (pc + 1) ls (.inl (wr (a * b)) :: st) sg x) : J K rm cc own nL pc ls (.inl b :: .inl a :: st) sg x := by
  obtain ⟨p, l, e, s, m, args, below, meth, c, D, ad, cA, A, ⟨cells, slots⟩, Q⟩ := K
  intro C hl hs hg r hr H locs la hla hP hS
  obtain ⟨hx, hb, hml, hown, hts, hK, hI, hA, hN, hF, hc1, hc2⟩ := id C
  have ha : InR a := hs.tl.hd
  have hb2 : InR b := hs.hd
  have e0 := i32_mul a b
  have h := k C hl (hs.tl.tl.cons (show InR (wr (a * b)) from wr_in _)) hg r hr H locs la hla hP hS
  have h : W p l e rm s m args below meth c H locs cells slots (Q r) (F0 m _ la (.int (i32 (wr (a * b))) :: st.map (vv ad))) := h
  rw [e0] at h
  exact lv_imul hx hb hd h
theorem j_iand {a b : Int} (hd : decode cc pc = .ok (.iand, 1)) (k : J K rm cc own nL (pc + 1) ls (.inl (ian a b) :: st) sg x) : J K rm cc own nL pc ls (.inl b :: .inl a :: st) sg x := by
  obtain ⟨p, l, e, s, m, args, below, meth, c, D, ad, cA, A, ⟨cells, slots⟩, Q⟩ := K
  intro C hl hs hg r hr H locs la hla hP hS
  obtain ⟨hx, hb, hml, hown, hts, hK, hI, hA, hN, hF, hc1, hc2⟩ := id C
  have ha : InR a := hs.tl.hd
  have hb2 : InR b := hs.hd
  have e0 := (show i32 (ian a b) = i32 a &&& i32 b from i32_bk _)
  have h := k C hl (hs.tl.tl.cons (show InR (ian a b) from in_ti _)) hg r hr H locs la hla hP hS
  have h : W p l e rm s m args below meth c H locs cells slots (Q r) (F0 m _ la (.int (i32 (ian a b)) :: st.map (vv ad))) := h
  rw [e0] at h
  exact lv_iand hx hb hd h
theorem j_ior {a b : Int} (hd : decode cc pc = .ok (.ior, 1)) (k : J K rm cc own nL (pc + 1) ls (.inl (iir a b) :: st) sg x) : J K rm cc own nL pc ls (.inl b :: .inl a :: st) sg x := by
  obtain ⟨p, l, e, s, m, args, below, meth, c, D, ad, cA, A, ⟨cells, slots⟩, Q⟩ := K
  intro C hl hs hg r hr H locs la hla hP hS
  obtain ⟨hx, hb, hml, hown, hts, hK, hI, hA, hN, hF, hc1, hc2⟩ := id C
  have ha : InR a := hs.tl.hd
  have hb2 : InR b := hs.hd
  have e0 := (show i32 (iir a b) = i32 a ||| i32 b from i32_bk _)
  have h := k C hl (hs.tl.tl.cons (show InR (iir a b) from in_ti _)) hg r hr H locs la hla hP hS
  have h : W p l e rm s m args below meth c H locs cells slots (Q r) (F0 m _ la (.int (i32 (iir a b)) :: st.map (vv ad))) := h
  rw [e0] at h
  exact lv_ior hx hb hd h
theorem j_ixor {a b : Int} (hd : decode cc pc = .ok (.ixor, 1)) (k : J K rm cc own nL (pc + 1) ls (.inl (ixo a b) :: st) sg x) : J K rm cc own nL pc ls (.inl b :: .inl a :: st) sg x := by
  obtain ⟨p, l, e, s, m, args, below, meth, c, D, ad, cA, A, ⟨cells, slots⟩, Q⟩ := K
  intro C hl hs hg r hr H locs la hla hP hS
  obtain ⟨hx, hb, hml, hown, hts, hK, hI, hA, hN, hF, hc1, hc2⟩ := id C
  have ha : InR a := hs.tl.hd
  have hb2 : InR b := hs.hd
  have e0 := (show i32 (ixo a b) = i32 a ^^^ i32 b from i32_bk _)
  have h := k C hl (hs.tl.tl.cons (show InR (ixo a b) from in_ti _)) hg r hr H locs la hla hP hS
  have h : W p l e rm s m args below meth c H locs cells slots (Q r) (F0 m _ la (.int (i32 (ixo a b)) :: st.map (vv ad))) := h
  rw [e0] at h
  exact lv_ixor hx hb hd h
theorem j_ishl {a b : Int} (hd : decode cc pc = .ok (.ishl, 1)) (k : J K rm cc own nL (pc + 1) ls (.inl (ish a b) :: st) sg x) : J K rm cc own nL pc ls (.inl b :: .inl a :: st) sg x := by
  obtain ⟨p, l, e, s, m, args, below, meth, c, D, ad, cA, A, ⟨cells, slots⟩, Q⟩ := K
  intro C hl hs hg r hr H locs la hla hP hS
  obtain ⟨hx, hb, hml, hown, hts, hK, hI, hA, hN, hF, hc1, hc2⟩ := id C
  have ha : InR a := hs.tl.hd
  have hb2 : InR b := hs.hd
  have e0 := (show i32 (ish a b) = i32 a <<< (i32 b &&& 31) from i32_bk _)
  have h := k C hl (hs.tl.tl.cons (show InR (ish a b) from in_ti _)) hg r hr H locs la hla hP hS
  have h : W p l e rm s m args below meth c H locs cells slots (Q r) (F0 m _ la (.int (i32 (ish a b)) :: st.map (vv ad))) := h
  rw [e0] at h
  exact lv_ishl hx hb hd h
theorem j_ishr {a b : Int} (hd : decode cc pc = .ok (.ishr, 1)) (k : J K rm cc own nL (pc + 1) ls (.inl (isr a b) :: st) sg x) : J K rm cc own nL pc ls (.inl b :: .inl a :: st) sg x := by
  obtain ⟨p, l, e, s, m, args, below, meth, c, D, ad, cA, A, ⟨cells, slots⟩, Q⟩ := K
  intro C hl hs hg r hr H locs la hla hP hS
  obtain ⟨hx, hb, hml, hown, hts, hK, hI, hA, hN, hF, hc1, hc2⟩ := id C
  have ha : InR a := hs.tl.hd
  have hb2 : InR b := hs.hd
  have e0 := (show i32 (isr a b) = i32 a >>> (i32 b &&& 31) from i32_bk _)
  have h := k C hl (hs.tl.tl.cons (show InR (isr a b) from in_ti _)) hg r hr H locs la hla hP hS
  have h : W p l e rm s m args below meth c H locs cells slots (Q r) (F0 m _ la (.int (i32 (isr a b)) :: st.map (vv ad))) := h
  rw [e0] at h
  exact lv_ishr hx hb hd h
theorem j_iushr {a b : Int} (hd : decode cc pc = .ok (.iushr, 1)) (k : J K rm cc own nL (pc + 1) ls (.inl (ius a b) :: st) sg x) : J K rm cc own nL pc ls (.inl b :: .inl a :: st) sg x := by
  obtain ⟨p, l, e, s, m, args, below, meth, c, D, ad, cA, A, ⟨cells, slots⟩, Q⟩ := K
  intro C hl hs hg r hr H locs la hla hP hS
  obtain ⟨hx, hb, hml, hown, hts, hK, hI, hA, hN, hF, hc1, hc2⟩ := id C
  have ha : InR a := hs.tl.hd
  have hb2 : InR b := hs.hd
  have e0 := (show i32 (ius a b) = ((i32 a).toUInt32 >>> ((i32 b).toUInt32 &&& Int32.toUInt32 31)).toInt32 from i32_bk _)
  have h := k C hl (hs.tl.tl.cons (show InR (ius a b) from in_ti _)) hg r hr H locs la hla hP hS
  have h : W p l e rm s m args below meth c H locs cells slots (Q r) (F0 m _ la (.int (i32 (ius a b)) :: st.map (vv ad))) := h
  rw [e0] at h
  exact lv_iushr hx hb hd rfl h
theorem j_idiv_p {a b : Int} (hd : decode cc pc = .ok (.idiv, 1)) (hp : 0 < b) (k : J K rm cc own nL (pc + 1) ls (.inl (Int.tdiv a b) :: st) sg x) : J K rm cc own nL pc ls (.inl b :: .inl a :: st) sg x := by
  obtain ⟨p, l, e, s, m, args, below, meth, c, D, ad, cA, A, ⟨cells, slots⟩, Q⟩ := K
  intro C hl hs hg r hr H locs la hla hP hS
  obtain ⟨hx, hb, hml, hown, hts, hK, hI, hA, hN, hF, hc1, hc2⟩ := id C
  have ha : InR a := hs.tl.hd
  have hb2 : InR b := hs.hd
  have e0 := show i32 (Int.tdiv a b) = i32 a / i32 b by rw [← i32_wr, i32_div ha hb2]
  have h := k C hl (hs.tl.tl.cons (show InR (Int.tdiv a b) from in_tdiv ha hp)) hg r hr H locs la hla hP hS
  have h : W p l e rm s m args below meth c H locs cells slots (Q r) (F0 m _ la (.int (i32 (Int.tdiv a b)) :: st.map (vv ad))) := h
  rw [e0] at h
  exact lv_idiv hx hb hd (fun z => absurd ((i32_eq hb2 in_0).mp (z.trans i32_0.symm)) (by omega)) h
theorem j_irem_p {a b : Int} (hd : decode cc pc = .ok (.irem, 1)) (hp : 0 < b) (k : J K rm cc own nL (pc + 1) ls (.inl (Int.tmod a b) :: st) sg x) : J K rm cc own nL pc ls (.inl b :: .inl a :: st) sg x := by
  obtain ⟨p, l, e, s, m, args, below, meth, c, D, ad, cA, A, ⟨cells, slots⟩, Q⟩ := K
  intro C hl hs hg r hr H locs la hla hP hS
  obtain ⟨hx, hb, hml, hown, hts, hK, hI, hA, hN, hF, hc1, hc2⟩ := id C
  have ha : InR a := hs.tl.hd
  have hb2 : InR b := hs.hd
  have e0 := i32_mod ha hb2
  have h := k C hl (hs.tl.tl.cons (show InR (Int.tmod a b) from in_tmod ha)) hg r hr H locs la hla hP hS
  have h : W p l e rm s m args below meth c H locs cells slots (Q r) (F0 m _ la (.int (i32 (Int.tmod a b)) :: st.map (vv ad))) := h
  rw [e0] at h
  exact lv_irem hx hb hd (fun z => absurd ((i32_eq hb2 in_0).mp (z.trans i32_0.symm)) (by omega)) h
theorem j_idiv {a b : Int} {kk : Int → Option Res} (hd : decode cc pc = .ok (.idiv, 1)) (k : ∀ v, J K rm cc own nL (pc + 1) ls (.inl v :: st) sg (kk v)) : J K rm cc own nL pc ls (.inl b :: .inl a :: st) sg (dv a b kk) := by
  obtain ⟨p, l, e, s, m, args, below, meth, c, D, ad, cA, A, ⟨cells, slots⟩, Q⟩ := K
  intro C hl hs hg r hr H locs la hla hP hS
  obtain ⟨hx, hb, hml, hown, hts, hK, hI, hA, hN, hF, hc1, hc2⟩ := id C
  have ha : InR a := hs.tl.hd
  have hb2 : InR b := hs.hd
  unfold dv at hr
  by_cases hz : b = 0
  · rw [if_pos hz] at hr; cases hr
  · rw [if_neg hz] at hr
    have h := k _ C hl (hs.tl.tl.cons (show InR (wr (a.tdiv b)) from wr_in _)) hg r hr H locs la hla hP hS
    have h : W p l e rm s m args below meth c H locs cells slots (Q r) (F0 m _ la (.int (i32 (wr (a.tdiv b))) :: st.map (vv ad))) := h
    rw [i32_div ha hb2] at h
    exact lv_idiv hx hb hd (fun z => hz ((i32_eq hb2 in_0).mp (z.trans i32_0.symm))) h
theorem j_ineg {a : Int} (hd : decode cc pc = .ok (.ineg, 1)) (k : J K rm cc own nL (pc + 1) ls (.inl (wr (-a)) :: st) sg x) : J K rm cc own nL pc ls (.inl a :: st) sg x := by
  obtain ⟨p, l, e, s, m, args, below, meth, c, D, ad, cA, A, ⟨cells, slots⟩, Q⟩ := K
  intro C hl hs hg r hr H locs la hla hP hS
  obtain ⟨hx, hb, hml, hown, hts, hK, hI, hA, hN, hF, hc1, hc2⟩ := id C
  have h := k C hl (hs.tl.cons (show InR (wr (-a)) from wr_in _)) hg r hr H locs la hla hP hS
  have h : W p l e rm s m args below meth c H locs cells slots (Q r) (F0 m _ la (.int (i32 (wr (-a))) :: st.map (vv ad))) := h
  rw [i32_neg] at h
  exact lv_ineg hx hb hd h
theorem j_i2b {a : Int} (hd : decode cc pc = .ok (.i2b, 1)) (k : J K rm cc own nL (pc + 1) ls (.inl (nby a) :: st) sg x) : J K rm cc own nL pc ls (.inl a :: st) sg x := by
  obtain ⟨p, l, e, s, m, args, below, meth, c, D, ad, cA, A, ⟨cells, slots⟩, Q⟩ := K
  intro C hl hs hg r hr H locs la hla hP hS
  obtain ⟨hx, hb, hml, hown, hts, hK, hI, hA, hN, hF, hc1, hc2⟩ := id C
  exact lv_i2b hx hb hd (i32_bk _).symm (k C hl (hs.tl.cons (show InR (nby a) from in_ti _)) hg r hr H locs la hla hP hS)
theorem j_i2l {a : Int} (hd : decode cc pc = .ok (.i2l, 1)) (k : J K rm cc own nL (pc + 1) ls (.inr (.inl (i2l a)) :: st) sg x) : J K rm cc own nL pc ls (.inl a :: st) sg x := by
  obtain ⟨p, l, e, s, m, args, below, meth, c, D, ad, cA, A, ⟨cells, slots⟩, Q⟩ := K
  intro C hl hs hg r hr H locs la hla hP hS
  obtain ⟨hx, hb, hml, hown, hts, hK, hI, hA, hN, hF, hc1, hc2⟩ := id C
  exact lv_i2l hx hb hd rfl (k C hl (hs.tl.cons trivial) hg r hr H locs la hla hP hS)
theorem j_l2i {a : Int64} (hd : decode cc pc = .ok (.l2i, 1)) (k : J K rm cc own nL (pc + 1) ls (.inl (l2i a) :: st) sg x) : J K rm cc own nL pc ls (.inr (.inl a) :: st) sg x := by
  obtain ⟨p, l, e, s, m, args, below, meth, c, D, ad, cA, A, ⟨cells, slots⟩, Q⟩ := K
  intro C hl hs hg r hr H locs la hla hP hS
  obtain ⟨hx, hb, hml, hown, hts, hK, hI, hA, hN, hF, hc1, hc2⟩ := id C
  exact lv_l2i hx hb hd (i32_bk _).symm (k C hl (hs.tl.cons (show InR (l2i a) from in_ti _)) hg r hr H locs la hla hP hS)
theorem j_lshr {a : Int64} {b : Int} (hd : decode cc pc = .ok (.lshr, 1)) (k : J K rm cc own nL (pc + 1) ls (.inr (.inl (lsr a b)) :: st) sg x) : J K rm cc own nL pc ls (.inl b :: .inr (.inl a) :: st) sg x := by
  obtain ⟨p, l, e, s, m, args, below, meth, c, D, ad, cA, A, ⟨cells, slots⟩, Q⟩ := K
  intro C hl hs hg r hr H locs la hla hP hS
  obtain ⟨hx, hb, hml, hown, hts, hK, hI, hA, hN, hF, hc1, hc2⟩ := id C
  exact lv_lshr hx hb hd rfl (k C hl (hs.tl.tl.cons trivial) hg r hr H locs la hla hP hS)
theorem j_lshl {a : Int64} {b : Int} (hd : decode cc pc = .ok (.lshl, 1)) (k : J K rm cc own nL (pc + 1) ls (.inr (.inl (lsl a b)) :: st) sg x) : J K rm cc own nL pc ls (.inl b :: .inr (.inl a) :: st) sg x := by
  obtain ⟨p, l, e, s, m, args, below, meth, c, D, ad, cA, A, ⟨cells, slots⟩, Q⟩ := K
  intro C hl hs hg r hr H locs la hla hP hS
  obtain ⟨hx, hb, hml, hown, hts, hK, hI, hA, hN, hF, hc1, hc2⟩ := id C
  exact lv_lshl hx hb hd rfl (k C hl (hs.tl.tl.cons trivial) hg r hr H locs la hla hP hS)
theorem j_land {a b : Int64} (hd : decode cc pc = .ok (.land, 1)) (k : J K rm cc own nL (pc + 1) ls (.inr (.inl (lan a b)) :: st) sg x) : J K rm cc own nL pc ls (.inr (.inl b) :: .inr (.inl a) :: st) sg x := by
  obtain ⟨p, l, e, s, m, args, below, meth, c, D, ad, cA, A, ⟨cells, slots⟩, Q⟩ := K
  intro C hl hs hg r hr H locs la hla hP hS
  obtain ⟨hx, hb, hml, hown, hts, hK, hI, hA, hN, hF, hc1, hc2⟩ := id C
  exact lv_land hx hb hd (k C hl (hs.tl.tl.cons trivial) hg r hr H locs la hla hP hS)
theorem j_lor {a b : Int64} (hd : decode cc pc = .ok (.lor, 1)) (k : J K rm cc own nL (pc + 1) ls (.inr (.inl (lir a b)) :: st) sg x) : J K rm cc own nL pc ls (.inr (.inl b) :: .inr (.inl a) :: st) sg x := by
  obtain ⟨p, l, e, s, m, args, below, meth, c, D, ad, cA, A, ⟨cells, slots⟩, Q⟩ := K
  intro C hl hs hg r hr H locs la hla hP hS
  obtain ⟨hx, hb, hml, hown, hts, hK, hI, hA, hN, hF, hc1, hc2⟩ := id C
  exact lv_lor hx hb hd (k C hl (hs.tl.tl.cons trivial) hg r hr H locs la hla hP hS)
theorem j_dup {v : V} (hv : (vv (fun n => n) v).category = 1) (hd : decode cc pc = .ok (.dup, 1)) (k : J K rm cc own nL (pc + 1) ls (v :: v :: st) sg x) : J K rm cc own nL pc ls (v :: st) sg x := by
  obtain ⟨p, l, e, s, m, args, below, meth, c, D, ad, cA, A, ⟨cells, slots⟩, Q⟩ := K
  intro C hl hs hg r hr H locs la hla hP hS
  obtain ⟨hx, hb, hml, hown, hts, hK, hI, hA, hN, hF, hc1, hc2⟩ := id C
  exact lv_dup hx hb hd (by cases v with | inl _ => rfl | inr w => cases w with | inl _ => exact hv | inr _ => rfl) (k C hl (hs.cons hs.hd) hg r hr H locs la hla hP hS)
theorem j_dup2 {a b : Int} {q : Nat} (hd : decode cc pc = .ok (.dup2, 1)) (k : J K rm cc own nL (pc + 1) ls (.inl a :: .inr (.inr q) :: .inl a :: .inr (.inr q) :: st) sg x) : J K rm cc own nL pc ls (.inl a :: .inr (.inr q) :: st) sg x := by
  obtain ⟨p, l, e, s, m, args, below, meth, c, D, ad, cA, A, ⟨cells, slots⟩, Q⟩ := K
  intro C hl hs hg r hr H locs la hla hP hS
  obtain ⟨hx, hb, hml, hown, hts, hK, hI, hA, hN, hF, hc1, hc2⟩ := id C
  exact lv_dup2_11 hx hb hd rfl rfl (k C hl (VS.cons hs.hd (VS.cons trivial hs)) hg r hr H locs la hla hP hS)
theorem j_pop {a : Int} (hd : decode cc pc = .ok (.pop, 1)) (k : J K rm cc own nL (pc + 1) ls st sg x) : J K rm cc own nL pc ls (.inl a :: st) sg x := by
  obtain ⟨p, l, e, s, m, args, below, meth, c, D, ad, cA, A, ⟨cells, slots⟩, Q⟩ := K
  intro C hl hs hg r hr H locs la hla hP hS
  obtain ⟨hx, hb, hml, hown, hts, hK, hI, hA, hN, hF, hc1, hc2⟩ := id C
  exact lv_pop hx hb hd rfl (k C hl hs.tl hg r hr H locs la hla hP hS)
theorem j_goto {off : Int} {tgt : Nat} (hd : decode cc pc = .ok (.goto off, 3)) (ht : (pc : Int) + off = (tgt : Int)) (k : J K rm cc own nL tgt ls st sg x) : J K rm cc own nL pc ls st sg x := by
  obtain ⟨p, l, e, s, m, args, below, meth, c, D, ad, cA, A, ⟨cells, slots⟩, Q⟩ := K
  intro C hl hs hg r hr H locs la hla hP hS
  obtain ⟨hx, hb, hml, hown, hts, hK, hI, hA, hN, hF, hc1, hc2⟩ := id C
  exact lv_goto hx hb hd ht (k C hl hs hg r hr H locs la hla hP hS)
theorem j_icmp_eq {a b : Int} {y : Option Res} {off : Int} {tgt : Nat} (hd : decode cc pc = .ok (.if_icmp .eq off, 3)) (ht : (pc : Int) + off = (tgt : Int)) (k1 : J K rm cc own nL tgt ls st sg x) (k2 : J K rm cc own nL (pc + 3) ls st sg y) : J K rm cc own nL pc ls (.inl b :: .inl a :: st) sg (if a = b then x else y) := by
  obtain ⟨p, l, e, s, m, args, below, meth, c, D, ad, cA, A, ⟨cells, slots⟩, Q⟩ := K
  intro C hl hs hg r hr H locs la hla hP hS
  obtain ⟨hx, hb, hml, hown, hts, hK, hI, hA, hN, hF, hc1, hc2⟩ := id C
  have ha : InR a := hs.tl.hd
  have hb2 : InR b := hs.hd
  have e0 := i32_eq ha hb2
  refine lv_icmp_eq hx hb hd ht (fun hq => ?_) (fun hq => ?_)
  · rw [if_pos (e0.mp hq)] at hr
    exact k1 C hl hs.tl.tl hg r hr H locs la hla hP hS
  · rw [if_neg (fun z => hq (e0.mpr z))] at hr
    exact k2 C hl hs.tl.tl hg r hr H locs la hla hP hS
theorem j_if_eq {a : Int} {y : Option Res} {off : Int} {tgt : Nat} (hd : decode cc pc = .ok (.ifCond .eq off, 3)) (ht : (pc : Int) + off = (tgt : Int)) (k1 : J K rm cc own nL tgt ls st sg x) (k2 : J K rm cc own nL (pc + 3) ls st sg y) : J K rm cc own nL pc ls (.inl a :: st) sg (if a = 0 then x else y) := by
  obtain ⟨p, l, e, s, m, args, below, meth, c, D, ad, cA, A, ⟨cells, slots⟩, Q⟩ := K
  intro C hl hs hg r hr H locs la hla hP hS
  obtain ⟨hx, hb, hml, hown, hts, hK, hI, hA, hN, hF, hc1, hc2⟩ := id C
  have ha : InR a := hs.hd
  have e0 := i32_eq ha in_0
  rw [i32_0] at e0
  refine lv_if_eq hx hb hd ht (fun hq => ?_) (fun hq => ?_)
  · rw [if_pos (e0.mp hq)] at hr
    exact k1 C hl hs.tl hg r hr H locs la hla hP hS
  · rw [if_neg (fun z => hq (e0.mpr z))] at hr
    exact k2 C hl hs.tl hg r hr H locs la hla hP hS
theorem j_icmp_ne {a b : Int} {y : Option Res} {off : Int} {tgt : Nat} (hd : decode cc pc = .ok (.if_icmp .ne off, 3)) (ht : (pc : Int) + off = (tgt : Int)) (k1 : J K rm cc own nL tgt ls st sg x) (k2 : J K rm cc own nL (pc + 3) ls st sg y) : J K rm cc own nL pc ls (.inl b :: .inl a :: st) sg (if a ≠ b then x else y) := by
  obtain ⟨p, l, e, s, m, args, below, meth, c, D, ad, cA, A, ⟨cells, slots⟩, Q⟩ := K
  intro C hl hs hg r hr H locs la hla hP hS
  obtain ⟨hx, hb, hml, hown, hts, hK, hI, hA, hN, hF, hc1, hc2⟩ := id C
  have ha : InR a := hs.tl.hd
  have hb2 : InR b := hs.hd
  have e0 := i32_eq ha hb2
  refine lv_icmp_ne hx hb hd ht (fun hq => ?_) (fun hq => ?_)
  · rw [if_pos (show a ≠ b from fun z => hq (e0.mpr z))] at hr
    exact k1 C hl hs.tl.tl hg r hr H locs la hla hP hS
  · rw [if_neg (show ¬ (a ≠ b) from fun z => z (e0.mp hq))] at hr
    exact k2 C hl hs.tl.tl hg r hr H locs la hla hP hS
theorem j_if_ne {a : Int} {y : Option Res} {off : Int} {tgt : Nat} (hd : decode cc pc = .ok (.ifCond .ne off, 3)) (ht : (pc : Int) + off = (tgt : Int)) (k1 : J K rm cc own nL tgt ls st sg x) (k2 : J K rm cc own nL (pc + 3) ls st sg y) : J K rm cc own nL pc ls (.inl a :: st) sg (if a ≠ 0 then x else y) := by
  obtain ⟨p, l, e, s, m, args, below, meth, c, D, ad, cA, A, ⟨cells, slots⟩, Q⟩ := K
  intro C hl hs hg r hr H locs la hla hP hS
  obtain ⟨hx, hb, hml, hown, hts, hK, hI, hA, hN, hF, hc1, hc2⟩ := id C
  have ha : InR a := hs.hd
  have e0 := i32_eq ha in_0
  rw [i32_0] at e0
  refine lv_if_ne hx hb hd ht (fun hq => ?_) (fun hq => ?_)
  · rw [if_pos (show a ≠ 0 from fun z => hq (e0.mpr z))] at hr
    exact k1 C hl hs.tl hg r hr H locs la hla hP hS
  · rw [if_neg (show ¬ (a ≠ 0) from fun z => z (e0.mp hq))] at hr
    exact k2 C hl hs.tl hg r hr H locs la hla hP hS
theorem j_icmp_lt {a b : Int} {y : Option Res} {off : Int} {tgt : Nat} (hd : decode cc pc = .ok (.if_icmp .lt off, 3)) (ht : (pc : Int) + off = (tgt : Int)) (k1 : J K rm cc own nL tgt ls st sg x) (k2 : J K rm cc own nL (pc + 3) ls st sg y) : J K rm cc own nL pc ls (.inl b :: .inl a :: st) sg (if a < b then x else y) := by
  obtain ⟨p, l, e, s, m, args, below, meth, c, D, ad, cA, A, ⟨cells, slots⟩, Q⟩ := K
  intro C hl hs hg r hr H locs la hla hP hS
  obtain ⟨hx, hb, hml, hown, hts, hK, hI, hA, hN, hF, hc1, hc2⟩ := id C
  have ha : InR a := hs.tl.hd
  have hb2 : InR b := hs.hd
  have e0 := i32_lt ha hb2
  refine lv_icmp_lt hx hb hd ht (fun hq => ?_) (fun hq => ?_)
  · rw [if_pos (e0.mp hq)] at hr
    exact k1 C hl hs.tl.tl hg r hr H locs la hla hP hS
  · rw [if_neg (fun z => hq (e0.mpr z))] at hr
    exact k2 C hl hs.tl.tl hg r hr H locs la hla hP hS
theorem j_if_lt {a : Int} {y : Option Res} {off : Int} {tgt : Nat} (hd : decode cc pc = .ok (.ifCond .lt off, 3)) (ht : (pc : Int) + off = (tgt : Int)) (k1 : J K rm cc own nL tgt ls st sg x) (k2 : J K rm cc own nL (pc + 3) ls st sg y) : J K rm cc own nL pc ls (.inl a :: st) sg (if a < 0 then x else y) := by
  obtain ⟨p, l, e, s, m, args, below, meth, c, D, ad, cA, A, ⟨cells, slots⟩, Q⟩ := K
  intro C hl hs hg r hr H locs la hla hP hS
  obtain ⟨hx, hb, hml, hown, hts, hK, hI, hA, hN, hF, hc1, hc2⟩ := id C
  have ha : InR a := hs.hd
  have e0 := i32_lt ha in_0
  rw [i32_0] at e0
  refine lv_if_lt hx hb hd ht (fun hq => ?_) (fun hq => ?_)
  · rw [if_pos (e0.mp hq)] at hr
    exact k1 C hl hs.tl hg r hr H locs la hla hP hS
  · rw [if_neg (fun z => hq (e0.mpr z))] at hr
    exact k2 C hl hs.tl hg r hr H locs la hla hP hS
theorem j_icmp_ge {a b : Int} {y : Option Res} {off : Int} {tgt : Nat} (hd : decode cc pc = .ok (.if_icmp .ge off, 3)) (ht : (pc : Int) + off = (tgt : Int)) (k1 : J K rm cc own nL tgt ls st sg x) (k2 : J K rm cc own nL (pc + 3) ls st sg y) : J K rm cc own nL pc ls (.inl b :: .inl a :: st) sg (if b ≤ a then x else y) := by
  obtain ⟨p, l, e, s, m, args, below, meth, c, D, ad, cA, A, ⟨cells, slots⟩, Q⟩ := K
  intro C hl hs hg r hr H locs la hla hP hS
  obtain ⟨hx, hb, hml, hown, hts, hK, hI, hA, hN, hF, hc1, hc2⟩ := id C
  have ha : InR a := hs.tl.hd
  have hb2 : InR b := hs.hd
  have e0 := i32_le hb2 ha
  refine lv_icmp_ge hx hb hd ht (fun hq => ?_) (fun hq => ?_)
  · rw [if_pos (e0.mp hq)] at hr
    exact k1 C hl hs.tl.tl hg r hr H locs la hla hP hS
  · rw [if_neg (fun z => hq (e0.mpr z))] at hr
    exact k2 C hl hs.tl.tl hg r hr H locs la hla hP hS
theorem j_if_ge {a : Int} {y : Option Res} {off : Int} {tgt : Nat} (hd : decode cc pc = .ok (.ifCond .ge off, 3)) (ht : (pc : Int) + off = (tgt : Int)) (k1 : J K rm cc own nL tgt ls st sg x) (k2 : J K rm cc own nL (pc + 3) ls st sg y) : J K rm cc own nL pc ls (.inl a :: st) sg (if 0 ≤ a then x else y) := by
  obtain ⟨p, l, e, s, m, args, below, meth, c, D, ad, cA, A, ⟨cells, slots⟩, Q⟩ := K
  intro C hl hs hg r hr H locs la hla hP hS
  obtain ⟨hx, hb, hml, hown, hts, hK, hI, hA, hN, hF, hc1, hc2⟩ := id C
  have ha : InR a := hs.hd
  have e0 := i32_le in_0 ha
  rw [i32_0] at e0
  refine lv_if_ge hx hb hd ht (fun hq => ?_) (fun hq => ?_)
  · rw [if_pos (e0.mp hq)] at hr
    exact k1 C hl hs.tl hg r hr H locs la hla hP hS
  · rw [if_neg (fun z => hq (e0.mpr z))] at hr
    exact k2 C hl hs.tl hg r hr H locs la hla hP hS
theorem j_icmp_gt {a b : Int} {y : Option Res} {off : Int} {tgt : Nat} (hd : decode cc pc = .ok (.if_icmp .gt off, 3)) (ht : (pc : Int) + off = (tgt : Int)) (k1 : J K rm cc own nL tgt ls st sg x) (k2 : J K rm cc own nL (pc + 3) ls st sg y) : J K rm cc own nL pc ls (.inl b :: .inl a :: st) sg (if b < a then x else y) := by
  obtain ⟨p, l, e, s, m, args, below, meth, c, D, ad, cA, A, ⟨cells, slots⟩, Q⟩ := K
  intro C hl hs hg r hr H locs la hla hP hS
  obtain ⟨hx, hb, hml, hown, hts, hK, hI, hA, hN, hF, hc1, hc2⟩ := id C
  have ha : InR a := hs.tl.hd
  have hb2 : InR b := hs.hd
  have e0 := i32_lt hb2 ha
  refine lv_icmp_gt hx hb hd ht (fun hq => ?_) (fun hq => ?_)
  · rw [if_pos (e0.mp hq)] at hr
    exact k1 C hl hs.tl.tl hg r hr H locs la hla hP hS
  · rw [if_neg (fun z => hq (e0.mpr z))] at hr
    exact k2 C hl hs.tl.tl hg r hr H locs la hla hP hS
theorem j_if_gt {a : Int} {y : Option Res} {off : Int} {tgt : Nat} (hd : decode cc pc = .ok (.ifCond .gt off, 3)) (ht : (pc : Int) + off = (tgt : Int)) (k1 : J K rm cc own nL tgt ls st sg x) (k2 : J K rm cc own nL (pc + 3) ls st sg y) : J K rm cc own nL pc ls (.inl a :: st) sg (if 0 < a then x else y) := by
  obtain ⟨p, l, e, s, m, args, below, meth, c, D, ad, cA, A, ⟨cells, slots⟩, Q⟩ := K
  intro C hl hs hg r hr H locs la hla hP hS
  obtain ⟨hx, hb, hml, hown, hts, hK, hI, hA, hN, hF, hc1, hc2⟩ := id C
  have ha : InR a := hs.hd
  have e0 := i32_lt in_0 ha
  rw [i32_0] at e0
  refine lv_if_gt hx hb hd ht (fun hq => ?_) (fun hq => ?_)
  · rw [if_pos (e0.mp hq)] at hr
    exact k1 C hl hs.tl hg r hr H locs la hla hP hS
  · rw [if_neg (fun z => hq (e0.mpr z))] at hr
    exact k2 C hl hs.tl hg r hr H locs la hla hP hS
theorem j_icmp_le {a b : Int} {y : Option Res} {off : Int} {tgt : Nat} (hd : decode cc pc = .ok (.if_icmp .le off, 3)) (ht : (pc : Int) + off = (tgt : Int)) (k1 : J K rm cc own nL tgt ls st sg x) (k2 : J K rm cc own nL (pc + 3) ls st sg y) : J K rm cc own nL pc ls (.inl b :: .inl a :: st) sg (if a ≤ b then x else y) := by
  obtain ⟨p, l, e, s, m, args, below, meth, c, D, ad, cA, A, ⟨cells, slots⟩, Q⟩ := K
  intro C hl hs hg r hr H locs la hla hP hS
  obtain ⟨hx, hb, hml, hown, hts, hK, hI, hA, hN, hF, hc1, hc2⟩ := id C
  have ha : InR a := hs.tl.hd
  have hb2 : InR b := hs.hd
  have e0 := i32_le ha hb2
  refine lv_icmp_le hx hb hd ht (fun hq => ?_) (fun hq => ?_)
  · rw [if_pos (e0.mp hq)] at hr
    exact k1 C hl hs.tl.tl hg r hr H locs la hla hP hS
  · rw [if_neg (fun z => hq (e0.mpr z))] at hr
    exact k2 C hl hs.tl.tl hg r hr H locs la hla hP hS
theorem j_if_le {a : Int} {y : Option Res} {off : Int} {tgt : Nat} (hd : decode cc pc = .ok (.ifCond .le off, 3)) (ht : (pc : Int) + off = (tgt : Int)) (k1 : J K rm cc own nL tgt ls st sg x) (k2 : J K rm cc own nL (pc + 3) ls st sg y) : J K rm cc own nL pc ls (.inl a :: st) sg (if a ≤ 0 then x else y) := by
  obtain ⟨p, l, e, s, m, args, below, meth, c, D, ad, cA, A, ⟨cells, slots⟩, Q⟩ := K
  intro C hl hs hg r hr H locs la hla hP hS
  obtain ⟨hx, hb, hml, hown, hts, hK, hI, hA, hN, hF, hc1, hc2⟩ := id C
  have ha : InR a := hs.hd
  have e0 := i32_le ha in_0
  rw [i32_0] at e0
  refine lv_if_le hx hb hd ht (fun hq => ?_) (fun hq => ?_)
  · rw [if_pos (e0.mp hq)] at hr
    exact k1 C hl hs.tl hg r hr H locs la hla hP hS
  · rw [if_neg (fun z => hq (e0.mpr z))] at hr
    exact k2 C hl hs.tl hg r hr H locs la hla hP hS
theorem j_tsIn {a dflt lo hi off : Int} {offs : Array Int} {len tgt : Nat} (cv : Int) (hv : a = cv) (hd : decode cc pc = .ok (.tableswitch dflt lo hi offs, len)) (h1 : ¬ cv < lo) (h2 : ¬ hi < cv) (ho : offs[(cv - lo).toNat]? = some off) (ht : (pc : Int) + off = (tgt : Int)) (k : J K rm cc own nL tgt ls st sg x) : J K rm cc own nL pc ls (.inl a :: st) sg x := by
  obtain ⟨p, l, e, s, m, args, below, meth, c, D, ad, cA, A, ⟨cells, slots⟩, Q⟩ := K
  intro C hl hs hg r hr H locs la hla hP hS
  obtain ⟨hx, hb, hml, hown, hts, hK, hI, hA, hN, hF, hc1, hc2⟩ := id C
  have ha : InR a := hs.hd
  have e0 : (i32 a).toInt = cv := (i32_in ha).trans hv
  exact lv_tableIn hx hb hd (by rw [e0]; exact h1) (by rw [e0]; exact h2) (by rw [e0]; exact ho) ht (k C hl hs.tl hg r hr H locs la hla hP hS)
theorem j_tsOut {a dflt lo hi : Int} {offs : Array Int} {len tgt : Nat} (hd : decode cc pc = .ok (.tableswitch dflt lo hi offs, len)) (h : a < lo ∨ hi < a) (ht : (pc : Int) + dflt = (tgt : Int)) (k : J K rm cc own nL tgt ls st sg x) : J K rm cc own nL pc ls (.inl a :: st) sg x := by
  obtain ⟨p, l, e, s, m, args, below, meth, c, D, ad, cA, A, ⟨cells, slots⟩, Q⟩ := K
  intro C hl hs hg r hr H locs la hla hP hS
  obtain ⟨hx, hb, hml, hown, hts, hK, hI, hA, hN, hF, hc1, hc2⟩ := id C
  have ha : InR a := hs.hd
  exact lv_tableOut hx hb hd (by rw [i32_in ha]; exact h) ht (k C hl hs.tl hg r hr H locs la hla hP hS)
theorem j_lsw {a dflt off : Int} {ps : Array (Int × Int)} {len tgt : Nat} (hd : decode cc pc = .ok (.lookupswitch dflt ps, len)) (hp : (ps.toList.zip (ps.toList.drop 1)).all (fun (a, next) => a.1 < next.1) = true) (ho : Op.lookupswitch.offset ps.toList dflt a = off) (ht : (pc : Int) + off = (tgt : Int)) (k : J K rm cc own nL tgt ls st sg x) : J K rm cc own nL pc ls (.inl a :: st) sg x := by
  obtain ⟨p, l, e, s, m, args, below, meth, c, D, ad, cA, A, ⟨cells, slots⟩, Q⟩ := K
  intro C hl hs hg r hr H locs la hla hP hS
  obtain ⟨hx, hb, hml, hown, hts, hK, hI, hA, hN, hF, hc1, hc2⟩ := id C
  have ha : InR a := hs.hd
  exact lv_lookup hx hb hd hp (by rw [i32_in ha]; exact ho) ht (k C hl hs.tl hg r hr H locs la hla hP hS)
def okst (ls : List (Option V)) : Nat → Bool
  | 0 => true
  | i + 1 => match ls[i]? with
    | some (some (.inr (.inl _))) => false
    | _ => true
def prs (ad : Nat → Nat) (ls : List (Option V)) : List (Nat × Value) := (List.range ls.length).filterMap (fun i => match ls[i]? with
  | some (some v) => some (i, vv ad v)
  | _ => none)
theorem prs_mem {ad : Nat → Nat} {ls : List (Option V)} {i : Nat} {v : V} (h : ls[i]? = some (some v)) : (i, vv ad v) ∈ prs ad ls := by
  refine List.mem_filterMap.mpr ⟨i, List.mem_range.mpr (List.getElem?_eq_some_iff.mp h).1, ?_⟩
  rw [h]
theorem prs_of {ad : Nat → Nat} {ls : List (Option V)} {q : Nat × Value} (h : q ∈ prs ad ls) : ∃ v, ls[q.1]? = some (some v) ∧ q.2 = vv ad v := by
  obtain ⟨i, -, hi⟩ := List.mem_filterMap.mp h
  split at hi
  · rename_i v hv
    cases hi
    exact ⟨v, hv, rfl⟩
  · cases hi
theorem LH_has {ad : Nat → Nat} {la : Array Slot} {nL : Nat} {ls : List (Option V)} (h : LH ad la nL ls) : lv_has la nL (prs ad ls) := ⟨h.1, h.2.1, fun q hq => by
  obtain ⟨v, h1, h2⟩ := prs_of hq
  rw [h2]; exact h.2.2 _ _ h1⟩
theorem LH_set {ad : Nat → Nat} {la : Array Slot} {nL i : Nat} {ls : List (Option V)} {v : V} (ho : okst ls i = true)
    (h : lv_has la nL ((i, vv ad v) :: (prs ad ls).filter (fun q => !(q.1 == i) && !(q.1 + 1 == i && q.2.category == 2)))) : LH ad la nL (ls.set i (some v)) := by
  refine ⟨h.1, h.2.1, fun j w hj => ?_⟩
  rw [List.getElem?_set] at hj
  by_cases e : i = j
  · subst e
    rw [if_pos rfl] at hj
    split at hj
    · cases hj; exact h.2.2 _ List.mem_cons_self
    · cases hj
  · rw [if_neg e] at hj
    refine h.2.2 (j, vv ad w) (List.mem_cons_of_mem _ (List.mem_filter.mpr ⟨prs_mem hj, ?_⟩))
    have e' : ¬ j = i := fun z => e z.symm
    simp only [Bool.and_eq_true, Bool.not_eq_true', beq_eq_false_iff_ne, ne_eq, e', not_false_eq_true, true_and, Bool.and_eq_false_iff]
    by_cases e2 : j + 1 = i
    · right
      subst e2
      simp only [okst, hj] at ho
      cases w with
      | inl a => simp [vv, Value.category]
      | inr w => cases w with
        | inl a => simp at ho
        | inr a => simp [vv, Value.category]
    · left; exact e2
theorem VL_set {ls : List (Option V)} {i : Nat} {v : V} (h : VL ls) (hv : vin v) : VL (ls.set i (some v)) := by
  intro j w hj
  rw [List.getElem?_set] at hj
  by_cases e : i = j
  · subst e
    rw [if_pos rfl] at hj
    split at hj
    · cases hj; exact hv
    · cases hj
  · rw [if_neg e] at hj; exact h j w hj
theorem j_istore_n {kk : Fin 4} {i : Nat} {a : Int} (hd : decode cc pc = .ok (.istore_n kk, 1)) (hi : (kk : Nat) = i) (hn : i < nL) (ho : okst ls i = true) (k : J K rm cc own nL (pc + 1) (ls.set i (some (.inl a))) st sg x) : J K rm cc own nL pc ls (.inl a :: st) sg x := by
  obtain ⟨p, l, e, s, m, args, below, meth, c, D, ad, cA, A, ⟨cells, slots⟩, Q⟩ := K
  intro C hl hs hg r hr H locs la hla hP hS
  obtain ⟨hx, hb, hml, hown, hts, hK, hI, hA, hN, hF, hc1, hc2⟩ := id C
  exact lv_istore_n hx hb hd hi (LH_has hla) hn rfl (fun la2 h2 => k C (VL_set hl hs.hd) hs.tl hg r hr H locs la2 (LH_set ho h2) hP hS)
theorem j_istore {i : Nat} {a : Int} (hd : decode cc pc = .ok (.istore i, 2)) (hn : i < nL) (ho : okst ls i = true) (k : J K rm cc own nL (pc + 2) (ls.set i (some (.inl a))) st sg x) : J K rm cc own nL pc ls (.inl a :: st) sg x := by
  obtain ⟨p, l, e, s, m, args, below, meth, c, D, ad, cA, A, ⟨cells, slots⟩, Q⟩ := K
  intro C hl hs hg r hr H locs la hla hP hS
  obtain ⟨hx, hb, hml, hown, hts, hK, hI, hA, hN, hF, hc1, hc2⟩ := id C
  exact lv_istore hx hb hd (LH_has hla) hn rfl (fun la2 h2 => k C (VL_set hl hs.hd) hs.tl hg r hr H locs la2 (LH_set ho h2) hP hS)
theorem j_astore_n {kk : Fin 4} {i : Nat} {a : Nat} (hd : decode cc pc = .ok (.astore_n kk, 1)) (hi : (kk : Nat) = i) (hn : i < nL) (ho : okst ls i = true) (k : J K rm cc own nL (pc + 1) (ls.set i (some (.inr (.inr a)))) st sg x) : J K rm cc own nL pc ls (.inr (.inr a) :: st) sg x := by
  obtain ⟨p, l, e, s, m, args, below, meth, c, D, ad, cA, A, ⟨cells, slots⟩, Q⟩ := K
  intro C hl hs hg r hr H locs la hla hP hS
  obtain ⟨hx, hb, hml, hown, hts, hK, hI, hA, hN, hF, hc1, hc2⟩ := id C
  exact lv_astore_n hx hb hd hi (LH_has hla) hn rfl (fun la2 h2 => k C (VL_set hl hs.hd) hs.tl hg r hr H locs la2 (LH_set ho h2) hP hS)
theorem j_astore {i : Nat} {a : Nat} (hd : decode cc pc = .ok (.astore i, 2)) (hn : i < nL) (ho : okst ls i = true) (k : J K rm cc own nL (pc + 2) (ls.set i (some (.inr (.inr a)))) st sg x) : J K rm cc own nL pc ls (.inr (.inr a) :: st) sg x := by
  obtain ⟨p, l, e, s, m, args, below, meth, c, D, ad, cA, A, ⟨cells, slots⟩, Q⟩ := K
  intro C hl hs hg r hr H locs la hla hP hS
  obtain ⟨hx, hb, hml, hown, hts, hK, hI, hA, hN, hF, hc1, hc2⟩ := id C
  exact lv_astore hx hb hd (LH_has hla) hn rfl (fun la2 h2 => k C (VL_set hl hs.hd) hs.tl hg r hr H locs la2 (LH_set ho h2) hP hS)
theorem j_iinc {i : Nat} {n a : Int} (hd : decode cc pc = .ok (.iinc i n, 3)) (hv : ls[i]? = some (some (.inl a))) (hn : i < nL) (ho : okst ls i = true) (k : J K rm cc own nL (pc + 3) (ls.set i (some (.inl (wr (a + n))))) st sg x) : J K rm cc own nL pc ls st sg x := by
  obtain ⟨p, l, e, s, m, args, below, meth, c, D, ad, cA, A, ⟨cells, slots⟩, Q⟩ := K
  intro C hl hs hg r hr H locs la hla hP hS
  obtain ⟨hx, hb, hml, hown, hts, hK, hI, hA, hN, hF, hc1, hc2⟩ := id C
  obtain ⟨j, hj⟩ := List.mem_iff_getElem?.mp (prs_mem (ad := ad) hv)
  exact lv_iinc (x := i32 a) hx hb hd (LH_has hla) hj (show i32 a + Int32.ofInt n = i32 (wr (a + n)) from (i32_add a n).symm) hn rfl (fun la2 h2 => k C (VL_set hl (show InR (wr (a + n)) from wr_in _)) hs hg r hr H locs la2 (LH_set (v := .inl (wr (a + n))) ho h2) hP hS)
/-- a field of an own class, named from the class own by entry idx: field k of class ci -/
def FL (own : String) (idx ci k : Nat) : Prop := ∃ (C : String) (T : u_T) (N : Nat), vwCl[ci]? = some (C, T, N) ∧ (∀ w ∈ u_ws C T N, w ∈ TT) ∧ k < N ∧ Cond.fieldLink own idx C (T k).2.1 (T k).2.2.1 ∈ TT ∧ (T k).1 = C
def FP (own : String) (idx ci k : Nat) (ty : FieldType) : Prop := ∃ (C : String) (T : u_T) (N : Nat) (ty0 : Nat → FieldType), vwCl[ci]? = some (C, T, N) ∧ (∀ w ∈ u_ws C T N, w ∈ TT) ∧ k < N ∧ Cond.fieldLink own idx C (T k).2.1 (T k).2.2.1 ∈ TT ∧ (T k).1 = C ∧ (∀ k, k < N → parseFieldDescriptor (T k).2.2.1 = some (ty0 k)) ∧ (∀ a, a < N → ∀ b, b < N → a ≠ b → (T a).2.1 ≠ (T b).2.1) ∧ (T k).2.2.2 = false ∧ ty0 k = ty
theorem j_getI {idx ci kf t : Nat} {fs : List (Option Nat)} (hf : FL own idx ci kf) (hsh : SH t = some (.inr (ci, fs))) (hk : fs[kf]? = some none) (hd : decode cc pc = .ok (.getfield idx, 3)) (k : J K rm cc own nL (pc + 3) ls (.inl (sg t kf) :: st) sg x) : J K rm cc own nL pc ls (.inr (.inr t) :: st) sg x := by
  obtain ⟨p, l, e, s, m, args, below, meth, c, D, ad, cA, A, ⟨cells, slots⟩, Q⟩ := K
  intro C hl hs hg r hr H locs la hla hP hS
  obtain ⟨hx, hb, hml, hown, hts, hK, hI, hA, hN, hF, hc1, hc2⟩ := id C
  obtain ⟨C1, T, N, h1, h2, h3, h4, h5⟩ := hf
  refine va_get hx hb hts h2 hown hK hP t (WS_obj ad cA sg hsh) h1 kf h3 (hts _ h4) (fun y hy => by rw [h5] at hy; exact hy) (v := .int (i32 (sg t kf))) ?_ hd (k C hl (hs.tl.cons (hg t kf)) hg r hr H locs la hla hP hS)
  rw [List.getElem?_mapIdx, hk]; rfl
theorem j_getR {idx ci kf t q : Nat} {fs : List (Option Nat)} (hf : FL own idx ci kf) (hsh : SH t = some (.inr (ci, fs))) (hk : fs[kf]? = some (some q)) (hd : decode cc pc = .ok (.getfield idx, 3)) (k : J K rm cc own nL (pc + 3) ls (.inr (.inr q) :: st) sg x) : J K rm cc own nL pc ls (.inr (.inr t) :: st) sg x := by
  obtain ⟨p, l, e, s, m, args, below, meth, c, D, ad, cA, A, ⟨cells, slots⟩, Q⟩ := K
  intro C hl hs hg r hr H locs la hla hP hS
  obtain ⟨hx, hb, hml, hown, hts, hK, hI, hA, hN, hF, hc1, hc2⟩ := id C
  obtain ⟨C1, T, N, h1, h2, h3, h4, h5⟩ := hf
  refine va_get hx hb hts h2 hown hK hP t (WS_obj ad cA sg hsh) h1 kf h3 (hts _ h4) (fun y hy => by rw [h5] at hy; exact hy) (v := .ref (ad q)) ?_ hd (k C hl (hs.tl.cons trivial) hg r hr H locs la hla hP hS)
  rw [List.getElem?_mapIdx, hk]; rfl
theorem j_putI {idx ci kf t : Nat} {a : Int} {kk : Mem → Option Res} {fs : List (Option Nat)} (hf : FP own idx ci kf .int) (hsh : SH t = some (.inr (ci, fs))) (hk : fs[kf]? = some none) (hd : decode cc pc = .ok (.putfield idx, 3)) (k : ∀ sg2, J K rm cc own nL (pc + 3) ls st sg2 (kk sg2)) : J K rm cc own nL pc ls (.inl a :: .inr (.inr t) :: st) sg (lt (up sg t kf a) kk) := by
  obtain ⟨p, l, e, s, m, args, below, meth, c, D, ad, cA, A, ⟨cells, slots⟩, Q⟩ := K
  intro C hl hs hg r hr H locs la hla hP hS
  obtain ⟨hx, hb, hml, hown, hts, hK, hI, hA, hN, hF, hc1, hc2⟩ := id C
  obtain ⟨C1, T, N, ty0, h1, h2, h3, h4, h5, h6, h7, h8, h9⟩ := hf
  have hlen : kf < (fs.mapIdx (fval ad sg t)).length := by rw [List.length_mapIdx]; exact (List.getElem?_eq_some_iff.mp hk).1
  refine va_put hx hb hts h2 ty0 h6 h7 hown hK hP (WS_D hI hA) hS t (WS_obj ad cA sg hsh) h1 kf h3 (hts _ h4) (fun y hy => by rw [h5] at hy; exact hy) h8 (ty := .int) (v := .int (i32 a)) (by rw [h6 kf h3, h9]) rfl rfl hlen hd (fun H1 locs1 hP1 _ hS1 => ?_)
  rw [WS_upF ad cA sg hsh hk] at hP1
  exact k _ C hl hs.tl.tl (RG_up hg t kf hs.hd) r hr H1 locs1 la hla hP1 hS1
theorem nar_z {a : Int} (h : a = 0 ∨ a = 1) : narrow .boolean (.int (i32 a)) = .int (i32 a) ∧ fits .boolean (.int (i32 a)) = true := by
  rcases h with rfl | rfl <;> exact ⟨by decide +kernel, by decide +kernel⟩
theorem j_putZ {idx ci kf t : Nat} {a : Int} {kk : Mem → Option Res} {fs : List (Option Nat)} (hf : FP own idx ci kf .boolean) (hsh : SH t = some (.inr (ci, fs))) (hk : fs[kf]? = some none) (hd : decode cc pc = .ok (.putfield idx, 3)) (k : ∀ sg2, J K rm cc own nL (pc + 3) ls st sg2 (kk sg2)) : J K rm cc own nL pc ls (.inl a :: .inr (.inr t) :: st) sg (zp a (lt (up sg t kf a) kk)) := by
  obtain ⟨p, l, e, s, m, args, below, meth, c, D, ad, cA, A, ⟨cells, slots⟩, Q⟩ := K
  intro C hl hs hg r hr H locs la hla hP hS
  obtain ⟨hx, hb, hml, hown, hts, hK, hI, hA, hN, hF, hc1, hc2⟩ := id C
  unfold zp at hr
  by_cases hz : a = 0 ∨ a = 1
  · rw [if_pos hz] at hr
    have hnz := nar_z hz
    obtain ⟨C1, T, N, ty0, h1, h2, h3, h4, h5, h6, h7, h8, h9⟩ := hf
    have hlen : kf < (fs.mapIdx (fval ad sg t)).length := by rw [List.length_mapIdx]; exact (List.getElem?_eq_some_iff.mp hk).1
    refine va_put hx hb hts h2 ty0 h6 h7 hown hK hP (WS_D hI hA) hS t (WS_obj ad cA sg hsh) h1 kf h3 (hts _ h4) (fun y hy => by rw [h5] at hy; exact hy) h8 (ty := .boolean) (v := .int (i32 a)) (by rw [h6 kf h3, h9]) hnz.1 hnz.2 hlen hd (fun H1 locs1 hP1 _ hS1 => ?_)
    rw [WS_upF ad cA sg hsh hk] at hP1
    exact k _ C hl hs.tl.tl (RG_up hg t kf hs.hd) r hr H1 locs1 la hla hP1 hS1
  · rw [if_neg hz] at hr; cases hr
theorem j_iald {q n : Nat} {a : Int} {kk : Int → Option Res} (hsh : SH q = some (.inl (0, n))) (hd : decode cc pc = .ok (.iaload, 1)) (k : ∀ v, J K rm cc own nL (pc + 1) ls (.inl v :: st) sg (kk v)) : J K rm cc own nL pc ls (.inl a :: .inr (.inr q) :: st) sg (rd (sg q) a n kk) := by
  obtain ⟨p, l, e, s, m, args, below, meth, c, D, ad, cA, A, ⟨cells, slots⟩, Q⟩ := K
  intro C hl hs hg r hr H locs la hla hP hS
  obtain ⟨hx, hb, hml, hown, hts, hK, hI, hA, hN, hF, hc1, hc2⟩ := id C
  have ha : InR a := hs.hd
  unfold rd at hr
  by_cases hi : 0 ≤ a ∧ a < n
  · rw [if_pos hi] at hr
    refine va_iald hx hb hK hP q 0 (WS_arr ad cA sg hsh) rfl (i32_ix ha hi) hd ?_
    have h := k _ C hl (hs.tl.tl.cons (show InR (sg q a.toNat) from hg _ _)) hg r hr H locs la hla hP hS
    rw [i32_nat ha]; exact h
  · rw [if_neg hi] at hr; cases hr
theorem j_bald {q n : Nat} {a : Int} {kk : Int → Option Res} (hsh : SH q = some (.inl (1, n))) (hd : decode cc pc = .ok (.baload, 1)) (k : ∀ v, J K rm cc own nL (pc + 1) ls (.inl v :: st) sg (kk v)) : J K rm cc own nL pc ls (.inl a :: .inr (.inr q) :: st) sg (rd (sg q) a n kk) := by
  obtain ⟨p, l, e, s, m, args, below, meth, c, D, ad, cA, A, ⟨cells, slots⟩, Q⟩ := K
  intro C hl hs hg r hr H locs la hla hP hS
  obtain ⟨hx, hb, hml, hown, hts, hK, hI, hA, hN, hF, hc1, hc2⟩ := id C
  have ha : InR a := hs.hd
  unfold rd at hr
  by_cases hi : 0 ≤ a ∧ a < n
  · rw [if_pos hi] at hr
    refine va_bald hx hb hK hP q 1 (WS_arr ad cA sg hsh) rfl (i32_ix ha hi) hd ?_
    have h := k _ C hl (hs.tl.tl.cons (show InR (sg q a.toNat) from hg _ _)) hg r hr H locs la hla hP hS
    rw [i32_nat ha]; exact h
  · rw [if_neg hi] at hr; cases hr
theorem j_zald {q n : Nat} {a : Int} {kk : Int → Option Res} (hsh : SH q = some (.inl (2, n))) (hd : decode cc pc = .ok (.baload, 1)) (k : ∀ v, J K rm cc own nL (pc + 1) ls (.inl v :: st) sg (kk v)) : J K rm cc own nL pc ls (.inl a :: .inr (.inr q) :: st) sg (rd (sg q) a n kk) := by
  obtain ⟨p, l, e, s, m, args, below, meth, c, D, ad, cA, A, ⟨cells, slots⟩, Q⟩ := K
  intro C hl hs hg r hr H locs la hla hP hS
  obtain ⟨hx, hb, hml, hown, hts, hK, hI, hA, hN, hF, hc1, hc2⟩ := id C
  have ha : InR a := hs.hd
  unfold rd at hr
  by_cases hi : 0 ≤ a ∧ a < n
  · rw [if_pos hi] at hr
    refine va_zald hx hb hK hP q 2 (WS_arr ad cA sg hsh) rfl (i32_ix ha hi) hd ?_
    have h := k _ C hl (hs.tl.tl.cons (show InR (sg q a.toNat) from hg _ _)) hg r hr H locs la hla hP hS
    rw [i32_nat ha]; exact h
  · rw [if_neg hi] at hr; cases hr
theorem j_iast {q n : Nat} {a v : Int} {kk : Mem → Option Res} (hsh : SH q = some (.inl (0, n))) (hd : decode cc pc = .ok (.iastore, 1)) (k : ∀ sg2, J K rm cc own nL (pc + 1) ls st sg2 (kk sg2)) : J K rm cc own nL pc ls (.inl v :: .inl a :: .inr (.inr q) :: st) sg (ST sg q a n v kk) := by
  obtain ⟨p, l, e, s, m, args, below, meth, c, D, ad, cA, A, ⟨cells, slots⟩, Q⟩ := K
  intro C hl hs hg r hr H locs la hla hP hS
  obtain ⟨hx, hb, hml, hown, hts, hK, hI, hA, hN, hF, hc1, hc2⟩ := id C
  have ha : InR a := hs.tl.hd
  unfold ST at hr
  by_cases hi : 0 ≤ a ∧ a < n
  · rw [if_pos hi] at hr
    refine va_iast hx hb hK hP (WS_D hI hA) hS q 0 (WS_arr ad cA sg hsh) rfl (i32_ix ha hi) hd (fun H1 locs1 hP1 _ hS1 => ?_)
    rw [i32_nat ha, WS_upA ad cA sg hsh (v := v) rfl] at hP1
    exact k _ C hl hs.tl.tl.tl (RG_up hg q _ hs.hd) r hr H1 locs1 la hla hP1 hS1
  · rw [if_neg hi] at hr; cases hr
theorem j_bast {q n : Nat} {a v : Int} {kk : Mem → Option Res} (hsh : SH q = some (.inl (1, n))) (hd : decode cc pc = .ok (.bastore, 1)) (k : ∀ sg2, J K rm cc own nL (pc + 1) ls st sg2 (kk sg2)) : J K rm cc own nL pc ls (.inl v :: .inl a :: .inr (.inr q) :: st) sg (ST sg q a n (nby v) kk) := by
  obtain ⟨p, l, e, s, m, args, below, meth, c, D, ad, cA, A, ⟨cells, slots⟩, Q⟩ := K
  intro C hl hs hg r hr H locs la hla hP hS
  obtain ⟨hx, hb, hml, hown, hts, hK, hI, hA, hN, hF, hc1, hc2⟩ := id C
  have ha : InR a := hs.tl.hd
  unfold ST at hr
  by_cases hi : 0 ≤ a ∧ a < n
  · rw [if_pos hi] at hr
    refine va_bast hx hb hK hP (WS_D hI hA) hS q 1 (WS_arr ad cA sg hsh) rfl (i32_ix ha hi) hd (fun H1 locs1 hP1 _ hS1 => ?_)
    rw [i32_nat ha, WS_upA ad cA sg hsh (v := nby v) (show i32 (nby v) = vp_nar .byte (i32 v) from i32_bk _)] at hP1
    exact k _ C hl hs.tl.tl.tl (RG_up hg q _ (in_ti _)) r hr H1 locs1 la hla hP1 hS1
  · rw [if_neg hi] at hr; cases hr
theorem nar_zz {a : Int} (h : a = 0 ∨ a = 1) : vp_nar .boolean (i32 a) = i32 a := by
  rcases h with rfl | rfl <;> decide +kernel
theorem j_zast {q n : Nat} {a v : Int} {kk : Mem → Option Res} (hsh : SH q = some (.inl (2, n))) (hd : decode cc pc = .ok (.bastore, 1)) (k : ∀ sg2, J K rm cc own nL (pc + 1) ls st sg2 (kk sg2)) : J K rm cc own nL pc ls (.inl v :: .inl a :: .inr (.inr q) :: st) sg (zp v (ST sg q a n v kk)) := by
  obtain ⟨p, l, e, s, m, args, below, meth, c, D, ad, cA, A, ⟨cells, slots⟩, Q⟩ := K
  intro C hl hs hg r hr H locs la hla hP hS
  obtain ⟨hx, hb, hml, hown, hts, hK, hI, hA, hN, hF, hc1, hc2⟩ := id C
  unfold zp at hr
  by_cases hz : v = 0 ∨ v = 1
  · rw [if_pos hz] at hr
    have ha : InR a := hs.tl.hd
    unfold ST at hr
    by_cases hi : 0 ≤ a ∧ a < n
    · rw [if_pos hi] at hr
      refine va_zast hx hb hK hP (WS_D hI hA) hS q 2 (WS_arr ad cA sg hsh) rfl (i32_ix ha hi) hd (fun H1 locs1 hP1 _ hS1 => ?_)
      rw [i32_nat ha, WS_upA ad cA sg hsh (v := v) (nar_zz hz).symm] at hP1
      exact k _ C hl hs.tl.tl.tl (RG_up hg q _ hs.hd) r hr H1 locs1 la hla hP1 hS1
    · rw [if_neg hi] at hr; cases hr
  · rw [if_neg hz] at hr; cases hr
theorem j_alen {q n : Nat} (hsh : SH q = some (.inl (0, n))) (hn : n < 2147483648) (hd : decode cc pc = .ok (.arraylength, 1)) (k : J K rm cc own nL (pc + 1) ls (.inl (n : Int) :: st) sg x) : J K rm cc own nL pc ls (.inr (.inr q) :: st) sg x := by
  obtain ⟨p, l, e, s, m, args, below, meth, c, D, ad, cA, A, ⟨cells, slots⟩, Q⟩ := K
  intro C hl hs hg r hr H locs la hla hP hS
  obtain ⟨hx, hb, hml, hown, hts, hK, hI, hA, hN, hF, hc1, hc2⟩ := id C
  exact va_alen hx hb hK hP q 0 (WS_arr ad cA sg hsh) (ty := .int) rfl (v := i32 (n : Int)) (Int32.ofInt_eq_ofNat).symm hd (k C hl (hs.tl.cons (show InR (n : Int) by unfold InR; omega)) hg r hr H locs la hla hP hS)
theorem cat_vv (ad : Nat → Nat) (v : V) : (vv ad v).category = (vv (fun n => n) v).category := by
  cases v with
  | inl _ => rfl
  | inr w => cases w <;> rfl
theorem cat_map (ad : Nat → Nat) (st : List V) : ((st.map (vv ad)).map fun v => v.category).sum = (st.map fun v => (vv (fun n => n) v).category).sum := by
  rw [List.map_map]; congr 1; exact List.map_congr_left (fun v _ => cat_vv ad v)
theorem j_max {a b : Int} {idx : Nat} (hw : Cond.methodLink own idx Lib.Math.max.name ∈ TT ∧ Cond.static Lib.Math.max.name ∈ TT ∧ Cond.initialized "java/lang/Math" ∈ TT ∧ Cond.code Lib.Math.max.name Lib.Math.max.code 2 (some .int) ∈ TT) (hR : 1 ≤ rm.frames ∧ ((st.map fun v => (vv (fun n => n) v).category).sum + 13 ≤ rm.locals)) (hd : decode cc pc = .ok (.invokestatic idx, 3)) (k : J K rm cc own nL (pc + 3) ls (.inl (mx a b) :: st) sg x) : J K rm cc own nL pc ls (.inl b :: .inl a :: st) sg x := by
  obtain ⟨p, l, e, s, m, args, below, meth, c, D, ad, cA, A, ⟨cells, slots⟩, Q⟩ := K
  intro C hl hs hg r hr H locs la hla hP hS
  obtain ⟨hx, hb, hml, hown, hts, hK, hI, hA, hN, hF, hc1, hc2⟩ := id C
  have ha : InR a := hs.tl.hd
  have hb2 : InR b := hs.hd
  have h := k C hl (hs.tl.tl.cons (show InR (mx a b) from in_mx ha hb2)) hg r hr H locs la hla hP hS
  refine va_mmax hx hb (by rw [hml, hla.1]) hown (hts _ hw.1) (hts _ hw.2.1) (hts _ hw.2.2.1) (hts _ hw.2.2.2) hR.1 (by rw [cat_map]; exact hR.2) hc1 hc2 hd ?_
  have e0 : i32 (mx a b) = (if i32 a < i32 b then i32 b else i32 a) := i32_mx ha hb2
  rw [← e0]; exact h
theorem j_min {a b : Int} {idx : Nat} (hw : Cond.methodLink own idx Lib.Math.min.name ∈ TT ∧ Cond.static Lib.Math.min.name ∈ TT ∧ Cond.initialized "java/lang/Math" ∈ TT ∧ Cond.code Lib.Math.min.name Lib.Math.min.code 2 (some .int) ∈ TT) (hR : 1 ≤ rm.frames ∧ ((st.map fun v => (vv (fun n => n) v).category).sum + 13 ≤ rm.locals)) (hd : decode cc pc = .ok (.invokestatic idx, 3)) (k : J K rm cc own nL (pc + 3) ls (.inl (mn a b) :: st) sg x) : J K rm cc own nL pc ls (.inl b :: .inl a :: st) sg x := by
  obtain ⟨p, l, e, s, m, args, below, meth, c, D, ad, cA, A, ⟨cells, slots⟩, Q⟩ := K
  intro C hl hs hg r hr H locs la hla hP hS
  obtain ⟨hx, hb, hml, hown, hts, hK, hI, hA, hN, hF, hc1, hc2⟩ := id C
  have ha : InR a := hs.tl.hd
  have hb2 : InR b := hs.hd
  have h := k C hl (hs.tl.tl.cons (show InR (mn a b) from in_mn ha hb2)) hg r hr H locs la hla hP hS
  refine va_mmin hx hb (by rw [hml, hla.1]) hown (hts _ hw.1) (hts _ hw.2.1) (hts _ hw.2.2.1) (hts _ hw.2.2.2) hR.1 (by rw [cat_map]; exact hR.2) hc1 hc2 hd ?_
  have e0 : i32 (mn a b) = (if i32 b < i32 a then i32 b else i32 a) := i32_mn ha hb2
  rw [← e0]; exact h
theorem j_abs {a : Int} {idx : Nat} (hw : Cond.methodLink own idx Lib.Math.abs.name ∈ TT ∧ Cond.static Lib.Math.abs.name ∈ TT ∧ Cond.initialized "java/lang/Math" ∈ TT ∧ Cond.code Lib.Math.abs.name Lib.Math.abs.code 1 (some .int) ∈ TT) (hR : 1 ≤ rm.frames ∧ ((st.map fun v => (vv (fun n => n) v).category).sum + 13 ≤ rm.locals)) (hd : decode cc pc = .ok (.invokestatic idx, 3)) (k : J K rm cc own nL (pc + 3) ls (.inl (ab a) :: st) sg x) : J K rm cc own nL pc ls (.inl a :: st) sg x := by
  obtain ⟨p, l, e, s, m, args, below, meth, c, D, ad, cA, A, ⟨cells, slots⟩, Q⟩ := K
  intro C hl hs hg r hr H locs la hla hP hS
  obtain ⟨hx, hb, hml, hown, hts, hK, hI, hA, hN, hF, hc1, hc2⟩ := id C
  have ha : InR a := hs.hd
  have h := k C hl (hs.tl.cons (show InR (ab a) from in_ab ha)) hg r hr H locs la hla hP hS
  refine va_mabs hx hb (by rw [hml, hla.1]) hown (hts _ hw.1) (hts _ hw.2.1) (hts _ hw.2.2.1) (hts _ hw.2.2.2) hR.1 (by rw [cat_map]; exact hR.2) hc1 hc2 hd ?_
  have e0 : i32 (ab a) = (if 0 ≤ i32 a then i32 a else 0 - i32 a) := i32_ab ha
  rw [← e0]; exact h
end ROWS
