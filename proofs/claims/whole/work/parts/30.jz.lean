abbrev ZS : Type := (Nat × Nat) ⊕ (Nat × List (Option (Option Nat)))
def fvalZ (ad : Nat → Nat) (sg : Mem) (p k : Nat) : Option (Option Nat) → Value
  | none => .int (i32 (sg p k))
  | some none => .null
  | some (some q) => .ref (ad q)
def cellZ (ad : Nat → Nat) (cA : Nat → ClassId) (sg : Mem) (p : Nat) : ZS → va_E
  | .inl a => .inl (cA a.1, a.2, .inl (fun j => i32 (sg p j)))
  | .inr ob => .inr (ob.1, ob.2.mapIdx (fvalZ ad sg p))
def WZ (Z : List ZS) (ad : Nat → Nat) (cA : Nat → ClassId) (sg : Mem) : va_W := Z.mapIdx (fun p z => (ad p, cellZ ad cA sg p z))
theorem WZ_at (Z : List ZS) (ad : Nat → Nat) (cA : Nat → ClassId) (sg : Mem) (p : Nat) : (WZ Z ad cA sg)[p]? = Z[p]?.map (fun z => (ad p, cellZ ad cA sg p z)) := List.getElem?_mapIdx
theorem WZ_arr {Z : List ZS} (ad : Nat → Nat) (cA : Nat → ClassId) (sg : Mem) {p kd n : Nat} (h : Z[p]? = some (.inl (kd, n))) : (WZ Z ad cA sg)[p]? = some (ad p, .inl (cA kd, n, .inl (fun j => i32 (sg p j)))) := by
  rw [WZ_at, h]; rfl
theorem WZ_obj {Z : List ZS} (ad : Nat → Nat) (cA : Nat → ClassId) (sg : Mem) {p ci : Nat} {fs : List (Option (Option Nat))} (h : Z[p]? = some (.inr (ci, fs))) : (WZ Z ad cA sg)[p]? = some (ad p, .inr (ci, fs.mapIdx (fvalZ ad sg p))) := by
  rw [WZ_at, h]; rfl
theorem WZ_len (Z : List ZS) (ad : Nat → Nat) (cA : Nat → ClassId) (sg : Mem) : (WZ Z ad cA sg).length = Z.length := List.length_mapIdx
/-- every reference of Z goes to a place of Z -/
def okF (n : Nat) : Option (Option Nat) → Bool
  | some (some q) => decide (q < n)
  | _ => true
def okS (n : Nat) : ZS → Bool
  | .inl _ => true
  | .inr ob => ob.2.all (okF n)
def Zok (Z : List ZS) : Bool := Z.all (okS Z.length)
theorem cellZ_eq {ad ad' : Nat → Nat} {cA : Nat → ClassId} {sg sg' : Mem} {p n : Nat} {z : ZS} (hz : okS n z = true) (ha : ∀ i, i < n → ad i = ad' i) (hs : sg p = sg' p) : cellZ ad cA sg p z = cellZ ad' cA sg' p z := by
  cases z with
  | inl a => unfold cellZ; rw [hs]
  | inr ob =>
    show Sum.inr (ob.1, ob.2.mapIdx (fvalZ ad sg p)) = Sum.inr (ob.1, ob.2.mapIdx (fvalZ ad' sg' p))
    congr 2
    apply List.ext_getElem?
    intro k
    rw [List.getElem?_mapIdx, List.getElem?_mapIdx]
    cases hk : ob.2[k]? with
    | none => rfl
    | some f =>
      have hf : okF n f = true := List.all_eq_true.mp hz f (List.mem_of_getElem? hk)
      cases f with
      | none => simp [fvalZ, hs]
      | some g => cases g with
        | none => rfl
        | some q =>
          have hq : q < n := by simpa [okF] using hf
          simp [fvalZ, ha q hq]
theorem WZ_ext {Z : List ZS} {ad ad' : Nat → Nat} {cA : Nat → ClassId} {sg sg' : Mem} (hz : Zok Z = true) (ha : ∀ i, i < Z.length → ad i = ad' i) (hs : ∀ i, i < Z.length → sg i = sg' i) : WZ Z ad cA sg = WZ Z ad' cA sg' := by
  apply List.ext_getElem?
  intro p
  rw [WZ_at, WZ_at]
  cases hp : Z[p]? with
  | none => rfl
  | some z =>
    have hl := (List.getElem?_eq_some_iff.mp hp).1
    show some (ad p, _) = some (ad' p, _)
    rw [ha p hl, cellZ_eq (List.all_eq_true.mp hz z (List.mem_of_getElem? hp)) ha (hs p hl)]
def ext (ad : Nat → Nat) (n q : Nat) : Nat → Nat := fun i => if i = n then q else ad i
def zm (sg : Mem) (n : Nat) : Mem := fun i => if i = n then (fun _ => 0) else sg i
theorem WZ_new {Z : List ZS} {z : ZS} (ad : Nat → Nat) (cA : Nat → ClassId) (sg : Mem) (q : Nat) (hz : Zok Z = true) : WZ (Z ++ [z]) (ext ad Z.length q) cA (zm sg Z.length) = WZ Z ad cA sg ++ [(q, cellZ (ext ad Z.length q) cA (zm sg Z.length) Z.length z)] := by
  have h1 : WZ (Z ++ [z]) (ext ad Z.length q) cA (zm sg Z.length) = WZ Z (ext ad Z.length q) cA (zm sg Z.length) ++ [(ext ad Z.length q Z.length, cellZ (ext ad Z.length q) cA (zm sg Z.length) Z.length z)] := by
    unfold WZ; rw [List.mapIdx_append]; simp
  rw [h1]
  congr 1
  · refine WZ_ext hz (fun i hi => ?_) (fun i hi => ?_)
    · unfold ext; rw [if_neg (by omega)]
    · unfold zm; rw [if_neg (by omega)]
  · unfold ext; simp
theorem WZ_set {Z : List ZS} (ad : Nat → Nat) (cA : Nat → ClassId) (sg sg' : Mem) {p : Nat} {z : ZS} (hp : p < Z.length) {e : va_E} (he : cellZ ad cA sg' p z = e) (ho : ∀ q, q ≠ p → sg' q = sg q) : (WZ Z ad cA sg).set p (ad p, e) = WZ (Z.set p z) ad cA sg' := by
  apply List.ext_getElem?
  intro q
  rw [List.getElem?_set, WZ_at, WZ_at, List.getElem?_set]
  by_cases hq : p = q
  · subst hq
    rw [if_pos rfl, if_pos (by rw [WZ_len]; exact hp), if_pos rfl, if_pos hp, Option.map_some, he]
  · rw [if_neg hq, if_neg hq]
    cases hz : Z[q]? with
    | none => rfl
    | some z2 =>
      show some (ad q, cellZ ad cA sg q z2) = some (ad q, cellZ ad cA sg' q z2)
      have e1 := ho q (fun h => hq h.symm)
      cases z2 with
      | inl a => unfold cellZ; rw [e1]
      | inr ob =>
        have e2 : fvalZ ad sg q = fvalZ ad sg' q := by funext k f; unfold fvalZ; rw [e1]
        unfold cellZ; rw [e2]
theorem List_set_self {α : Type} {l : List α} {p : Nat} {x : α} (h : l[p]? = some x) : l.set p x = l := by
  apply List.ext_getElem?
  intro q
  rw [List.getElem?_set]
  by_cases hq : p = q
  · subst hq; rw [if_pos rfl, if_pos (List.getElem?_eq_some_iff.mp h).1, h]
  · rw [if_neg hq]
theorem WZ_upA {Z : List ZS} (ad : Nat → Nat) (cA : Nat → ClassId) (sg : Mem) {p kd n i : Nat} {v : Int} {x : Int32} (h : Z[p]? = some (.inl (kd, n))) (hx : i32 v = x) : (WZ Z ad cA sg).set p (ad p, .inl (cA kd, n, .inl (upd (fun j => i32 (sg p j)) i x))) = WZ Z ad cA (up sg p i v) := by
  rw [WZ_set (z := .inl (kd, n)) ad cA sg (up sg p i v) (List.getElem?_eq_some_iff.mp h).1 ?_ (fun q hq => up_o q hq), List_set_self h]
  unfold cellZ
  show Sum.inl (cA kd, n, Sum.inl (fun j => i32 (up sg p i v p j))) = _
  congr 3
  congr 1
  funext j
  subst hx
  unfold up upd
  rw [if_pos rfl]
  by_cases hj : j = i
  · simp [hj]
  · simp [hj]
theorem WZ_upF {Z : List ZS} (ad : Nat → Nat) (cA : Nat → ClassId) (sg : Mem) {p ci k : Nat} {fs : List (Option (Option Nat))} {v : Int} (h : Z[p]? = some (.inr (ci, fs))) (hk : fs[k]? = some none) : (WZ Z ad cA sg).set p (ad p, .inr (ci, (fs.mapIdx (fvalZ ad sg p)).set k (.int (i32 v)))) = WZ Z ad cA (up sg p k v) := by
  rw [WZ_set (z := .inr (ci, fs)) ad cA sg (up sg p k v) (List.getElem?_eq_some_iff.mp h).1 ?_ (fun q hq => up_o q hq), List_set_self h]
  unfold cellZ
  show Sum.inr (ci, fs.mapIdx (fvalZ ad (up sg p k v) p)) = _
  congr 2
  apply List.ext_getElem?
  intro j
  rw [List.getElem?_set, List.getElem?_mapIdx, List.getElem?_mapIdx]
  by_cases hj : k = j
  · subst hj
    rw [if_pos rfl, if_pos (by rw [List.length_mapIdx]; exact (List.getElem?_eq_some_iff.mp hk).1), hk]
    show some (Value.int (i32 (up sg p k v p k))) = _
    unfold up; simp
  · rw [if_neg hj]
    cases fs[j]? with
    | none => rfl
    | some f => cases f with
      | none =>
        show some (Value.int (i32 (up sg p k v p j))) = some (Value.int (i32 (sg p j)))
        unfold up; simp [Ne.symm hj]
      | some g => cases g <;> rfl
theorem WZ_upR {Z : List ZS} (ad : Nat → Nat) (cA : Nat → ClassId) (sg : Mem) {p ci k q : Nat} {fs : List (Option (Option Nat))} (h : Z[p]? = some (.inr (ci, fs))) (hk : k < fs.length) : (WZ Z ad cA sg).set p (ad p, .inr (ci, (fs.mapIdx (fvalZ ad sg p)).set k (.ref (ad q)))) = WZ (Z.set p (.inr (ci, fs.set k (some (some q))))) ad cA sg := by
  refine WZ_set ad cA sg sg (List.getElem?_eq_some_iff.mp h).1 ?_ (fun _ _ => rfl)
  show Sum.inr (ci, (fs.set k (some (some q))).mapIdx (fvalZ ad sg p)) = _
  congr 2
  apply List.ext_getElem?
  intro j
  rw [List.getElem?_set, List.getElem?_mapIdx, List.getElem?_mapIdx, List.getElem?_set]
  by_cases hj : k = j
  · subst hj
    rw [if_pos rfl, if_pos hk, if_pos rfl, if_pos (by rw [List.length_mapIdx]; exact hk)]; rfl
  · rw [if_neg hj, if_neg hj]
def ADZ (Z : List ZS) (ad : Nat → Nat) (A : Nat → Prop) : Prop := (∀ i j, i < Z.length → j < Z.length → ad i = ad j → i = j) ∧ ∀ k, k < Z.length → A (ad k)
theorem WZ_D {Z : List ZS} {A : Nat → Prop} {ad : Nat → Nat} {cA : Nat → ClassId} {sg : Mem} (h : ADZ Z ad A) : va_D A (WZ Z ad cA sg) := by
  have at' : ∀ {k : Nat} {x : Nat × va_E}, (WZ Z ad cA sg)[k]? = some x → k < Z.length ∧ x.1 = ad k := by
    intro k x hx
    rw [WZ_at] at hx
    cases hz : Z[k]? with
    | none => rw [hz] at hx; cases hx
    | some z => rw [hz] at hx; cases hx; exact ⟨(List.getElem?_eq_some_iff.mp hz).1, rfl⟩
  refine ⟨fun i j x y hx hy hxy => ?_, fun k x hx => ?_⟩
  · obtain ⟨a1, a2⟩ := at' hx
    obtain ⟨b1, b2⟩ := at' hy
    exact h.1 i j a1 b1 (by rw [← a2, ← b2]; exact hxy)
  · obtain ⟨a1, a2⟩ := at' hx
    rw [a2]; exact h.2 k a1
theorem ADZ_new {Z Z2 : List ZS} {ad : Nat → Nat} {A : Nat → Prop} {q : Nat} {e : va_E} {cA : Nat → ClassId} {sg : Mem} (h : ADZ Z ad A) (hZ : Z2.length = Z.length + 1) (hD : va_D A (WZ Z ad cA sg ++ [(q, e)])) : ADZ Z2 (ext ad Z.length q) A := by
  have hq : ∀ i, i < Z.length → ad i ≠ q := by
    intro i hi hh
    have hz : ∃ z, Z[i]? = some z := ⟨Z[i], List.getElem?_eq_getElem hi⟩
    obtain ⟨z, hz⟩ := hz
    have e1 : (WZ Z ad cA sg ++ [(q, e)])[i]? = some (ad i, cellZ ad cA sg i z) := by
      rw [List.getElem?_append_left (by rw [WZ_len]; exact hi), WZ_at, hz]; rfl
    have e2 : (WZ Z ad cA sg ++ [(q, e)])[Z.length]? = some (q, e) := by
      rw [List.getElem?_append_right (by rw [WZ_len]; exact Nat.le_refl _), WZ_len]; simp
    have := hD.1 i Z.length _ _ e1 e2 hh
    omega
  have hAq : A q := by
    have e2 : (WZ Z ad cA sg ++ [(q, e)])[Z.length]? = some (q, e) := by
      rw [List.getElem?_append_right (by rw [WZ_len]; exact Nat.le_refl _), WZ_len]; simp
    exact hD.2 _ _ e2
  refine ⟨fun i j hi hj => ?_, fun k hk => ?_⟩
  · unfold ext
    by_cases h1 : i = Z.length <;> by_cases h2 : j = Z.length
    · intro _; omega
    · rw [if_pos h1, if_neg h2]; intro hh; exact absurd hh.symm (hq j (by omega))
    · rw [if_neg h1, if_pos h2]; intro hh; exact absurd hh (hq i (by omega))
    · rw [if_neg h1, if_neg h2]; exact h.1 i j (by omega) (by omega)
  · unfold ext
    by_cases h1 : k = Z.length
    · rw [if_pos h1]; exact hAq
    · rw [if_neg h1]; exact h.2 k (by omega)
def rtf (j : Nat) : Int := [0, 4, 20, 60, 110, 160, 205, 235, 250].getD j 0
def rat (j : Nat) : Int := [6, 6, 0, 4].getD j 0
/-- an int array that is cloned: its class is the one that the name finds, its size is exact -/
def STc (t : Nat) (A : Nat → Prop) (U : State) (H : Heap) : Prop := ∃ cell : Cell, H[t]? = some cell ∧ (∀ k, cell.vm ≠ .statics k) ∧ cell.vm ≠ .unknown ∧ U.vm.findClass "[I" = some cell.cls ∧ cell.slots = (List.map (fun j => Value.int (i32 (rat j))) [0, 1, 2, 3]).toArray ∧ ¬ A t
theorem STc.moved {t : Nat} {A : Nat → Prop} {u U : State} {H : Heap} (hvm : u.vm.Alike U.vm) (h : STc t A u H) : STc t A U H := by
  obtain ⟨cell, h1, h2, h3, h4, h5⟩ := h
  exact ⟨cell, h1, h2, h3, by rw [hvm.findClass]; exact h4, h5⟩
theorem STc.kept {t : Nat} {A : Nat → Prop} {U : State} {H H1 : Heap} (h : STc t A U H) (hq : ∀ a : Nat, a < H.size → ¬ A a → H1[a]? = H[a]?) : STc t A U H1 := by
  obtain ⟨cell, h1, h2, h3, h4, h5, h6⟩ := h
  exact ⟨cell, by rw [hq t (Array.getElem?_eq_some_iff.mp h1).1 h6]; exact h1, h2, h3, h4, h5, h6⟩
theorem STc.narrow {t : Nat} {A B : Nat → Prop} {U : State} {H : Heap} (h : STc t A U H) (hAB : ∀ q, B q → A q) : STc t B U H := by
  obtain ⟨cell, h1, h2, h3, h4, h5, h6⟩ := h
  exact ⟨cell, h1, h2, h3, h4, h5, fun z => h6 (hAB _ z)⟩
/-- the four static rows: 1000, 1001 as SF has them, 1002 TABLE_AT_FIRST, 1003 RULES_AT_FIRST -/
def SFZ (ad : Nat → Nat) (A : Nat → Prop) (U : State) (H : Heap) : Prop := SF ad A U H ∧ (va_Z RX9 "TABLE_AT_FIRST" "[I" (.ref (ad 1002)) A U H ∧ va_T .int (ad 1002) 9 (fun j => .int (i32 (rtf j))) A U H) ∧ (va_Z RX10 "RULES_AT_FIRST" "[I" (.ref (ad 1003)) A U H ∧ STc (ad 1003) A U H)
theorem SFZ.moved {ad : Nat → Nat} {A : Nat → Prop} {u U : State} {H : Heap} (hvm : u.vm.Alike U.vm) (h : SFZ ad A u H) : SFZ ad A U H := ⟨h.1.moved hvm, ⟨h.2.1.1.moved hvm, h.2.1.2.moved hvm⟩, ⟨h.2.2.1.moved hvm, h.2.2.2.moved hvm⟩⟩
theorem SFZ.kept {ad : Nat → Nat} {A : Nat → Prop} {U : State} {H H1 : Heap} (h : SFZ ad A U H) (hq : ∀ a : Nat, a < H.size → ¬ A a → H1[a]? = H[a]?) : SFZ ad A U H1 := ⟨h.1.kept hq, ⟨h.2.1.1.kept hq, h.2.1.2.kept hq⟩, ⟨h.2.2.1.kept hq, h.2.2.2.kept hq⟩⟩
theorem SFZ.narrow {ad : Nat → Nat} {A B : Nat → Prop} {U : State} {H : Heap} (h : SFZ ad A U H) (hAB : ∀ q, B q → A q) : SFZ ad B U H := ⟨h.1.narrow hAB, ⟨h.2.1.1.narrow hAB, h.2.1.2.narrow hAB⟩, ⟨h.2.2.1.narrow hAB, h.2.2.2.narrow hAB⟩⟩
theorem SFZ.addr {ad ad' : Nat → Nat} {A : Nat → Prop} {U : State} {H : Heap} (h : SFZ ad A U H) (e : ∀ k, 1000 ≤ k → ad' k = ad k) : SFZ ad' A U H := by
  unfold SFZ SF at *
  rw [e 1000 (by omega), e 1001 (by omega), e 1002 (by omega), e 1003 (by omega)]; exact h
abbrev KZ : Type := Program × Launch × Env × State × MethodId × Array Value × List Frame × Method × Code × va_G × (Nat → ClassId) × (Nat → Prop) × (Nat → Nat) × Nat × (Res → State → Prop)
def zl (K : KZ) : Launch := K.2.1
def zD (K : KZ) : va_G := K.2.2.2.2.2.2.2.2.2.1
def zcA (K : KZ) : Nat → ClassId := K.2.2.2.2.2.2.2.2.2.2.1
def zn0 (K : KZ) : Nat := K.2.2.2.2.2.2.2.2.2.2.2.2.2.1
def cloneOK (U : State) : Prop := va_Nw (.castable "[I" "java/lang/Cloneable") U
def CXZ (K : KZ) (rm : Room) (cc : ByteArray) (own : String) (nL : Nat) : Prop := match K with
  | (p, _, _, s, m, args, _, _, c, D, cA, A, _, _, _) =>
    p.tables.exec = Jvm.exec ∧ c.code = cc ∧ c.maxLocals = nL ∧ s.vm.findClass own = some m.cls ∧ (∀ w ∈ TT, w.before args s = true) ∧ va_K D vwCl (tyA cA) s ∧ (∀ q, s.heap.size ≤ q → A q) ∧ NWs s ∧ cloneOK s
def vz (n : Nat) : V → Prop
  | .inl x => InR x
  | .inr (.inl _) => True
  | .inr (.inr p) => p < n ∨ 1000 ≤ p
def VLZ (n : Nat) (ls : List (Option V)) : Prop := ∀ (i : Nat) (v : V), ls[i]? = some (some v) → vz n v
def VSZ (n : Nat) (st : List V) : Prop := ∀ v ∈ st, vz n v
def AGR (a0 ad : Nat → Nat) (n0 : Nat) : Prop := ∀ k, (k < n0 ∨ 1000 ≤ k) → ad k = a0 k
def JZ (K : KZ) (rm : Room) (cc : ByteArray) (own : String) (nL : Nat) (Z : List ZS) (cs : Nat × Nat) (pc : Nat) (ls : List (Option V)) (st : List V) (sg : Mem) (x : Option Res) : Prop :=
  CXZ K rm cc own nL → VLZ Z.length ls → VSZ Z.length st → RG sg → zn0 K ≤ Z.length → Z.length < 900 → Zok Z = true → ∀ r, x = some r → match K with
  | (p, l, e, s, m, args, below, meth, c, D, cA, A, a0, n0, Q) =>
    ∀ (ad : Nat → Nat) (H : Heap) (locs : List Loc) (la : Array Slot), AGR a0 ad n0 → ADZ Z ad A → SFZ ad A s s.heap → LH ad la nL ls → va_P D vwCl (WZ Z ad cA sg) H → va_S A s.heap H locs → W p l e rm s m args below meth c H locs cs.1 cs.2 (Q r) (F0 m pc la (st.map (vv ad)))
theorem VSZ.tl {n : Nat} {v : V} {st : List V} (h : VSZ n (v :: st)) : VSZ n st := fun w hw => h w (List.mem_cons_of_mem _ hw)
theorem VSZ.hd {n : Nat} {v : V} {st : List V} (h : VSZ n (v :: st)) : vz n v := h v List.mem_cons_self
theorem VSZ.cons {n : Nat} {v : V} {st : List V} (hv : vz n v) (h : VSZ n st) : VSZ n (v :: st) := fun w hw => (List.mem_cons.mp hw).elim (fun e => e ▸ hv) (h w)
theorem vz_mono {n m : Nat} {v : V} (h : n ≤ m) (hv : vz n v) : vz m v := by
  cases v with
  | inl a => exact hv
  | inr w => cases w with
    | inl a => trivial
    | inr p => exact hv.elim (fun h1 => Or.inl (by omega)) Or.inr
theorem vv_eq {n : Nat} {ad ad' : Nat → Nat} {v : V} (hv : vz n v) (e : ∀ k, (k < n ∨ 1000 ≤ k) → ad' k = ad k) : vv ad' v = vv ad v := by
  cases v with
  | inl a => rfl
  | inr w => cases w with
    | inl a => rfl
    | inr p => show Value.ref (ad' p) = Value.ref (ad p); rw [e p hv]
theorem map_eq {n : Nat} {ad ad' : Nat → Nat} {st : List V} (hs : VSZ n st) (e : ∀ k, (k < n ∨ 1000 ≤ k) → ad' k = ad k) : st.map (vv ad') = st.map (vv ad) := List.map_congr_left (fun v hv => vv_eq (hs v hv) e)
theorem LH_eq {n nL : Nat} {ad ad' : Nat → Nat} {la : Array Slot} {ls : List (Option V)} (hl : VLZ n ls) (e : ∀ k, (k < n ∨ 1000 ≤ k) → ad' k = ad k) (h : LH ad la nL ls) : LH ad' la nL ls := ⟨h.1, h.2.1, fun i v hv => by rw [vv_eq (hl i v hv) e]; exact h.2.2 i v hv⟩
theorem ext_eq {ad : Nat → Nat} {n q : Nat} (hn : n < 900) : ∀ k, (k < n ∨ 1000 ≤ k) → ext ad n q k = ad k := fun k hk => by unfold ext; rw [if_neg (by omega)]
theorem JZ_none {K : KZ} {rm : Room} {cc : ByteArray} {own : String} {nL pc : Nat} {Z : List ZS} {cs : Nat × Nat} {ls : List (Option V)} {st : List V} {sg : Mem} : JZ K rm cc own nL Z cs pc ls st sg none := by
  intro _ _ _ _ _ _ _ r h; cases h
section ZROWS
variable {K : KZ} {rm : Room} {cc : ByteArray} {own : String} {nL pc : Nat} {Z : List ZS} {cs : Nat × Nat} {ls ls2 : List (Option V)} {st : List V} {sg : Mem} {x : Option Res}
theorem z_iconst {n : Int} (hd : decode cc pc = .ok (.iconst n, 1)) (hn : InR n) (k : JZ K rm cc own nL Z cs (pc + 1) ls (.inl n :: st) sg x) : JZ K rm cc own nL Z cs pc ls st sg x := by
  obtain ⟨p, l, e, s, m, args, below, meth, c, D, cA, A, a0, n0, Q⟩ := K
  intro C hl hs hg hn0 hn9 hzk r hr ad H locs la hag had hF hla hP hS
  obtain ⟨hx, hb, hml, hown, hts, hK, hA, hN, hco⟩ := id C
  exact lv_iconst hx hb hd rfl (k C hl (hs.cons (show vz _ (.inl n) from hn)) hg hn0 hn9 hzk r hr ad H locs la hag had hF hla hP hS)
theorem z_bipush {n v : Int} (hd : decode cc pc = .ok (.bipush n, 2)) (hv : (Int8.ofInt n).toInt32 = i32 v) (hn : InR v) (k : JZ K rm cc own nL Z cs (pc + 2) ls (.inl v :: st) sg x) : JZ K rm cc own nL Z cs pc ls st sg x := by
  obtain ⟨p, l, e, s, m, args, below, meth, c, D, cA, A, a0, n0, Q⟩ := K
  intro C hl hs hg hn0 hn9 hzk r hr ad H locs la hag had hF hla hP hS
  obtain ⟨hx, hb, hml, hown, hts, hK, hA, hN, hco⟩ := id C
  exact lv_bipush hx hb hd hv (k C hl (hs.cons (show vz _ (.inl v) from hn)) hg hn0 hn9 hzk r hr ad H locs la hag had hF hla hP hS)
theorem z_sipush {n v : Int} (hd : decode cc pc = .ok (.sipush n, 3)) (hv : (Int16.ofInt n).toInt32 = i32 v) (hn : InR v) (k : JZ K rm cc own nL Z cs (pc + 3) ls (.inl v :: st) sg x) : JZ K rm cc own nL Z cs pc ls st sg x := by
  obtain ⟨p, l, e, s, m, args, below, meth, c, D, cA, A, a0, n0, Q⟩ := K
  intro C hl hs hg hn0 hn9 hzk r hr ad H locs la hag had hF hla hP hS
  obtain ⟨hx, hb, hml, hown, hts, hK, hA, hN, hco⟩ := id C
  exact lv_sipush hx hb hd hv (k C hl (hs.cons (show vz _ (.inl v) from hn)) hg hn0 hn9 hzk r hr ad H locs la hag had hF hla hP hS)
theorem z_iload_n {kk : Fin 4} {i : Nat} {a : Int} (hd : decode cc pc = .ok (.iload_n kk, 1)) (hi : (kk : Nat) = i) (hv : ls[i]? = some (some (.inl a))) (k : JZ K rm cc own nL Z cs (pc + 1) ls (.inl a :: st) sg x) : JZ K rm cc own nL Z cs pc ls st sg x := by
  obtain ⟨p, l, e, s, m, args, below, meth, c, D, cA, A, a0, n0, Q⟩ := K
  intro C hl hs hg hn0 hn9 hzk r hr ad H locs la hag had hF hla hP hS
  obtain ⟨hx, hb, hml, hown, hts, hK, hA, hN, hco⟩ := id C
  exact lv_iload_n hx hb hd hi (hla.2.2 _ _ hv) (k C hl (hs.cons (hl _ _ hv)) hg hn0 hn9 hzk r hr ad H locs la hag had hF hla hP hS)
theorem z_aload_n {kk : Fin 4} {i : Nat} {a : Nat} (hd : decode cc pc = .ok (.aload_n kk, 1)) (hi : (kk : Nat) = i) (hv : ls[i]? = some (some (.inr (.inr a)))) (k : JZ K rm cc own nL Z cs (pc + 1) ls (.inr (.inr a) :: st) sg x) : JZ K rm cc own nL Z cs pc ls st sg x := by
  obtain ⟨p, l, e, s, m, args, below, meth, c, D, cA, A, a0, n0, Q⟩ := K
  intro C hl hs hg hn0 hn9 hzk r hr ad H locs la hag had hF hla hP hS
  obtain ⟨hx, hb, hml, hown, hts, hK, hA, hN, hco⟩ := id C
  exact lv_aload_n hx hb hd hi (hla.2.2 _ _ hv) (k C hl (hs.cons (hl _ _ hv)) hg hn0 hn9 hzk r hr ad H locs la hag had hF hla hP hS)
theorem z_iadd {a b : Int} (hd : decode cc pc = .ok (.iadd, 1)) (k : JZ K rm cc own nL Z cs (pc + 1) ls (.inl (wr (a + b)) :: st) sg x) : JZ K rm cc own nL Z cs pc ls (.inl b :: .inl a :: st) sg x := by
  obtain ⟨p, l, e, s, m, args, below, meth, c, D, cA, A, a0, n0, Q⟩ := K
  intro C hl hs hg hn0 hn9 hzk r hr ad H locs la hag had hF hla hP hS
  obtain ⟨hx, hb, hml, hown, hts, hK, hA, hN, hco⟩ := id C
  have h := k C hl (hs.tl.tl.cons (show vz _ (.inl (wr (a + b))) from wr_in _)) hg hn0 hn9 hzk r hr ad H locs la hag had hF hla hP hS
  have h : W p l e rm s m args below meth c H locs cs.1 cs.2 (Q r) (F0 m _ la (.int (i32 (wr (a + b))) :: st.map (vv ad))) := h
  rw [i32_add] at h
  exact lv_iadd hx hb hd h
theorem z_irem_p {a b : Int} (hd : decode cc pc = .ok (.irem, 1)) (hp : 0 < b) (k : JZ K rm cc own nL Z cs (pc + 1) ls (.inl (Int.tmod a b) :: st) sg x) : JZ K rm cc own nL Z cs pc ls (.inl b :: .inl a :: st) sg x := by
  obtain ⟨p, l, e, s, m, args, below, meth, c, D, cA, A, a0, n0, Q⟩ := K
  intro C hl hs hg hn0 hn9 hzk r hr ad H locs la hag had hF hla hP hS
  obtain ⟨hx, hb, hml, hown, hts, hK, hA, hN, hco⟩ := id C
  have ha : InR a := hs.tl.hd
  have hb2 : InR b := hs.hd
  have h := k C hl (hs.tl.tl.cons (show vz _ (.inl (Int.tmod a b)) from in_tmod ha)) hg hn0 hn9 hzk r hr ad H locs la hag had hF hla hP hS
  have h : W p l e rm s m args below meth c H locs cs.1 cs.2 (Q r) (F0 m _ la (.int (i32 (Int.tmod a b)) :: st.map (vv ad))) := h
  rw [i32_mod ha hb2] at h
  exact lv_irem hx hb hd (fun z => absurd ((i32_eq hb2 in_0).mp (z.trans i32_0.symm)) (by omega)) h
theorem z_dup {q : Nat} (hd : decode cc pc = .ok (.dup, 1)) (k : JZ K rm cc own nL Z cs (pc + 1) ls (.inr (.inr q) :: .inr (.inr q) :: st) sg x) : JZ K rm cc own nL Z cs pc ls (.inr (.inr q) :: st) sg x := by
  obtain ⟨p, l, e, s, m, args, below, meth, c, D, cA, A, a0, n0, Q⟩ := K
  intro C hl hs hg hn0 hn9 hzk r hr ad H locs la hag had hF hla hP hS
  obtain ⟨hx, hb, hml, hown, hts, hK, hA, hN, hco⟩ := id C
  exact lv_dup hx hb hd rfl (k C hl (hs.cons hs.hd) hg hn0 hn9 hzk r hr ad H locs la hag had hF hla hP hS)
theorem z_goto {off : Int} {tgt : Nat} (hd : decode cc pc = .ok (.goto off, 3)) (ht : (pc : Int) + off = (tgt : Int)) (k : JZ K rm cc own nL Z cs tgt ls st sg x) : JZ K rm cc own nL Z cs pc ls st sg x := by
  obtain ⟨p, l, e, s, m, args, below, meth, c, D, cA, A, a0, n0, Q⟩ := K
  intro C hl hs hg hn0 hn9 hzk r hr ad H locs la hag had hF hla hP hS
  obtain ⟨hx, hb, hml, hown, hts, hK, hA, hN, hco⟩ := id C
  exact lv_goto hx hb hd ht (k C hl hs hg hn0 hn9 hzk r hr ad H locs la hag had hF hla hP hS)
theorem z_icmp_ge {a b : Int} {y : Option Res} {off : Int} {tgt : Nat} (hd : decode cc pc = .ok (.if_icmp .ge off, 3)) (ht : (pc : Int) + off = (tgt : Int)) (k1 : JZ K rm cc own nL Z cs tgt ls st sg x) (k2 : JZ K rm cc own nL Z cs (pc + 3) ls st sg y) : JZ K rm cc own nL Z cs pc ls (.inl b :: .inl a :: st) sg (if b ≤ a then x else y) := by
  obtain ⟨p, l, e, s, m, args, below, meth, c, D, cA, A, a0, n0, Q⟩ := K
  intro C hl hs hg hn0 hn9 hzk r hr ad H locs la hag had hF hla hP hS
  obtain ⟨hx, hb, hml, hown, hts, hK, hA, hN, hco⟩ := id C
  have ha : InR a := hs.tl.hd
  have hb2 : InR b := hs.hd
  have e0 := i32_le hb2 ha
  refine lv_icmp_ge hx hb hd ht (fun hq => ?_) (fun hq => ?_)
  · rw [if_pos (e0.mp hq)] at hr
    exact k1 C hl hs.tl.tl hg hn0 hn9 hzk r hr ad H locs la hag had hF hla hP hS
  · rw [if_neg (fun z => hq (e0.mpr z))] at hr
    exact k2 C hl hs.tl.tl hg hn0 hn9 hzk r hr ad H locs la hag had hF hla hP hS
theorem z_icmp_lt {a b : Int} {y : Option Res} {off : Int} {tgt : Nat} (hd : decode cc pc = .ok (.if_icmp .lt off, 3)) (ht : (pc : Int) + off = (tgt : Int)) (k1 : JZ K rm cc own nL Z cs tgt ls st sg x) (k2 : JZ K rm cc own nL Z cs (pc + 3) ls st sg y) : JZ K rm cc own nL Z cs pc ls (.inl b :: .inl a :: st) sg (if a < b then x else y) := by
  obtain ⟨p, l, e, s, m, args, below, meth, c, D, cA, A, a0, n0, Q⟩ := K
  intro C hl hs hg hn0 hn9 hzk r hr ad H locs la hag had hF hla hP hS
  obtain ⟨hx, hb, hml, hown, hts, hK, hA, hN, hco⟩ := id C
  have ha : InR a := hs.tl.hd
  have hb2 : InR b := hs.hd
  have e0 := i32_lt ha hb2
  refine lv_icmp_lt hx hb hd ht (fun hq => ?_) (fun hq => ?_)
  · rw [if_pos (e0.mp hq)] at hr
    exact k1 C hl hs.tl.tl hg hn0 hn9 hzk r hr ad H locs la hag had hF hla hP hS
  · rw [if_neg (fun z => hq (e0.mpr z))] at hr
    exact k2 C hl hs.tl.tl hg hn0 hn9 hzk r hr ad H locs la hag had hF hla hP hS
theorem VLZ_set {n : Nat} {ls : List (Option V)} {i : Nat} {v : V} (h : VLZ n ls) (hv : vz n v) : VLZ n (ls.set i (some v)) := by
  intro j w hj
  rw [List.getElem?_set] at hj
  by_cases e : i = j
  · subst e
    rw [if_pos rfl] at hj
    split at hj
    · cases hj; exact hv
    · cases hj
  · rw [if_neg e] at hj; exact h j w hj
theorem z_istore_n {kk : Fin 4} {i : Nat} {a : Int} (hd : decode cc pc = .ok (.istore_n kk, 1)) (hi : (kk : Nat) = i) (hn : i < nL) (ho : okst ls i = true) (hll : ls.set i (some (.inl a)) = ls2) (k : JZ K rm cc own nL Z cs (pc + 1) ls2 st sg x) : JZ K rm cc own nL Z cs pc ls (.inl a :: st) sg x := by
  obtain ⟨p, l, e, s, m, args, below, meth, c, D, cA, A, a0, n0, Q⟩ := K
  intro C hl hs hg hn0 hn9 hzk r hr ad H locs la hag had hF hla hP hS
  obtain ⟨hx, hb, hml, hown, hts, hK, hA, hN, hco⟩ := id C
  subst hll
  exact lv_istore_n hx hb hd hi (LH_has hla) hn rfl (fun la2 h2 => k C (VLZ_set hl hs.hd) hs.tl hg hn0 hn9 hzk r hr ad H locs la2 hag had hF (LH_set ho h2) hP hS)
theorem z_astore_n {kk : Fin 4} {i : Nat} {a : Nat} (hd : decode cc pc = .ok (.astore_n kk, 1)) (hi : (kk : Nat) = i) (hn : i < nL) (ho : okst ls i = true) (hll : ls.set i (some (.inr (.inr a))) = ls2) (k : JZ K rm cc own nL Z cs (pc + 1) ls2 st sg x) : JZ K rm cc own nL Z cs pc ls (.inr (.inr a) :: st) sg x := by
  obtain ⟨p, l, e, s, m, args, below, meth, c, D, cA, A, a0, n0, Q⟩ := K
  intro C hl hs hg hn0 hn9 hzk r hr ad H locs la hag had hF hla hP hS
  obtain ⟨hx, hb, hml, hown, hts, hK, hA, hN, hco⟩ := id C
  subst hll
  exact lv_astore_n hx hb hd hi (LH_has hla) hn rfl (fun la2 h2 => k C (VLZ_set hl hs.hd) hs.tl hg hn0 hn9 hzk r hr ad H locs la2 hag had hF (LH_set ho h2) hP hS)
theorem z_istore {i : Nat} {a : Int} (hd : decode cc pc = .ok (.istore i, 2)) (hn : i < nL) (ho : okst ls i = true) (hll : ls.set i (some (.inl a)) = ls2) (k : JZ K rm cc own nL Z cs (pc + 2) ls2 st sg x) : JZ K rm cc own nL Z cs pc ls (.inl a :: st) sg x := by
  obtain ⟨p, l, e, s, m, args, below, meth, c, D, cA, A, a0, n0, Q⟩ := K
  intro C hl hs hg hn0 hn9 hzk r hr ad H locs la hag had hF hla hP hS
  obtain ⟨hx, hb, hml, hown, hts, hK, hA, hN, hco⟩ := id C
  subst hll
  exact lv_istore hx hb hd (LH_has hla) hn rfl (fun la2 h2 => k C (VLZ_set hl hs.hd) hs.tl hg hn0 hn9 hzk r hr ad H locs la2 hag had hF (LH_set ho h2) hP hS)
theorem z_iinc {i : Nat} {n a : Int} (hd : decode cc pc = .ok (.iinc i n, 3)) (hv : ls[i]? = some (some (.inl a))) (hn : i < nL) (ho : okst ls i = true) (hll : ls.set i (some (.inl (wr (a + n)))) = ls2) (k : JZ K rm cc own nL Z cs (pc + 3) ls2 st sg x) : JZ K rm cc own nL Z cs pc ls st sg x := by
  obtain ⟨p, l, e, s, m, args, below, meth, c, D, cA, A, a0, n0, Q⟩ := K
  intro C hl hs hg hn0 hn9 hzk r hr ad H locs la hag had hF hla hP hS
  obtain ⟨hx, hb, hml, hown, hts, hK, hA, hN, hco⟩ := id C
  subst hll
  obtain ⟨j, hj⟩ := List.mem_iff_getElem?.mp (prs_mem (ad := ad) hv)
  exact lv_iinc (x := i32 a) hx hb hd (LH_has hla) hj (show i32 a + Int32.ofInt n = i32 (wr (a + n)) from (i32_add a n).symm) hn rfl (fun la2 h2 => k C (VLZ_set hl (show vz _ (.inl (wr (a + n))) from wr_in _)) hs hg hn0 hn9 hzk r hr ad H locs la2 hag had hF (LH_set (v := .inl (wr (a + n))) ho h2) hP hS)
theorem z_getR {idx ci kf t q : Nat} {fs : List (Option (Option Nat))} (hf : FL own idx ci kf) (hsh : Z[t]? = some (.inr (ci, fs))) (hk : fs[kf]? = some (some (some q))) (hd : decode cc pc = .ok (.getfield idx, 3)) (k : JZ K rm cc own nL Z cs (pc + 3) ls (.inr (.inr q) :: st) sg x) : JZ K rm cc own nL Z cs pc ls (.inr (.inr t) :: st) sg x := by
  obtain ⟨p, l, e, s, m, args, below, meth, c, D, cA, A, a0, n0, Q⟩ := K
  intro C hl hs hg hn0 hn9 hzk r hr ad H locs la hag had hF hla hP hS
  obtain ⟨hx, hb, hml, hown, hts, hK, hA, hN, hco⟩ := id C
  obtain ⟨C1, T, N, h1, h2, h3, h4, h5⟩ := hf
  have hq : q < Z.length := by
    have g1 := List.all_eq_true.mp hzk _ (List.mem_of_getElem? hsh)
    have g2 := List.all_eq_true.mp g1 _ (List.mem_of_getElem? hk)
    simpa [okF] using g2
  refine va_get hx hb hts h2 hown hK hP t (WZ_obj ad cA sg hsh) h1 kf h3 (hts _ h4) (fun y hy => by rw [h5] at hy; exact hy) (v := .ref (ad q)) ?_ hd (k C hl (hs.tl.cons (Or.inl hq)) hg hn0 hn9 hzk r hr ad H locs la hag had hF hla hP hS)
  rw [List.getElem?_mapIdx, hk]; rfl
theorem z_putI {idx ci kf t : Nat} {a : Int} {kk : Mem → Option Res} {fs : List (Option (Option Nat))} (hf : FP own idx ci kf .int) (hsh : Z[t]? = some (.inr (ci, fs))) (hk : fs[kf]? = some none) (hd : decode cc pc = .ok (.putfield idx, 3)) (k : ∀ sg2, JZ K rm cc own nL Z cs (pc + 3) ls st sg2 (kk sg2)) : JZ K rm cc own nL Z cs pc ls (.inl a :: .inr (.inr t) :: st) sg (lt (up sg t kf a) kk) := by
  obtain ⟨p, l, e, s, m, args, below, meth, c, D, cA, A, a0, n0, Q⟩ := K
  intro C hl hs hg hn0 hn9 hzk r hr ad H locs la hag had hF hla hP hS
  obtain ⟨hx, hb, hml, hown, hts, hK, hA, hN, hco⟩ := id C
  obtain ⟨C1, T, N, ty0, h1, h2, h3, h4, h5, h6, h7, h8, h9⟩ := hf
  have hlen : kf < (fs.mapIdx (fvalZ ad sg t)).length := by rw [List.length_mapIdx]; exact (List.getElem?_eq_some_iff.mp hk).1
  refine va_put hx hb hts h2 ty0 h6 h7 hown hK hP (WZ_D had) hS t (WZ_obj ad cA sg hsh) h1 kf h3 (hts _ h4) (fun y hy => by rw [h5] at hy; exact hy) h8 (ty := .int) (v := .int (i32 a)) (by rw [h6 kf h3, h9]) rfl rfl hlen hd (fun H1 locs1 hP1 _ hS1 => ?_)
  rw [WZ_upF ad cA sg hsh hk] at hP1
  exact k _ C hl hs.tl.tl (RG_up hg t kf hs.hd) hn0 hn9 hzk r hr ad H1 locs1 la hag had hF hla hP1 hS1
/-- a final reference field -/
def FPR (own : String) (idx ci k : Nat) : Prop := ∃ (C : String) (T : u_T) (N : Nat) (ty0 : Nat → FieldType), vwCl[ci]? = some (C, T, N) ∧ (∀ w ∈ u_ws C T N, w ∈ TT) ∧ k < N ∧ Cond.fieldLink own idx C (T k).2.1 (T k).2.2.1 ∈ TT ∧ (T k).1 = C ∧ (∀ k, k < N → parseFieldDescriptor (T k).2.2.1 = some (ty0 k)) ∧ (∀ a, a < N → ∀ b, b < N → a ≠ b → (T a).2.1 ≠ (T b).2.1) ∧ (T k).2.2.2 = true ∧ C = own ∧ ((∃ n, ty0 k = .object n) ∨ ∃ t, ty0 k = .array t)
def inInit (K : KZ) : Prop := match K with
  | (_, _, _, _, _, _, _, meth, _, _, _, _, _, _, _) => meth.name = "<init>"
theorem z_putR {idx ci kf t q : Nat} {fs : List (Option (Option Nat))} {Z2 : List ZS} (hin : inInit K) (hf : FPR own idx ci kf) (hsh : Z[t]? = some (.inr (ci, fs))) (hk : kf < fs.length) (hZ : Z.set t (.inr (ci, fs.set kf (some (some q)))) = Z2) (hzk2 : Zok Z2 = true) (hd : decode cc pc = .ok (.putfield idx, 3)) (k : JZ K rm cc own nL Z2 cs (pc + 3) ls st sg x) : JZ K rm cc own nL Z cs pc ls (.inr (.inr q) :: .inr (.inr t) :: st) sg x := by
  obtain ⟨p, l, e, s, m, args, below, meth, c, D, cA, A, a0, n0, Q⟩ := K
  intro C hl hs hg hn0 hn9 hzk r hr ad H locs la hag had hF hla hP hS
  obtain ⟨hx, hb, hml, hown, hts, hK, hA, hN, hco⟩ := id C
  subst hZ
  obtain ⟨C1, T, N, ty0, h1, h2, h3, h4, h5, h6, h7, h8, h9, h10⟩ := hf
  have hin : meth.name = "<init>" := hin
  have hlen : kf < (fs.mapIdx (fvalZ ad sg t)).length := by rw [List.length_mapIdx]; exact hk
  have hnf : narrow (ty0 kf) (.ref (ad q)) = .ref (ad q) ∧ fits (ty0 kf) (.ref (ad q)) = true := by
    rcases h10 with ⟨n, h⟩ | ⟨n, h⟩ <;> rw [h] <;> exact ⟨rfl, rfl⟩
  refine va_putF hx hb hts h2 ty0 h6 h7 hown hK hP (WZ_D had) hS t (WZ_obj ad cA sg hsh) h1 kf h3 (hts _ h4) (fun y hy => by rw [h5] at hy; exact hy) h8 hin (by rw [h5, h9]) (ty := ty0 kf) (v := .ref (ad q)) (h6 kf h3) hnf.1 hnf.2 hlen hd (fun H1 locs1 hP1 _ hS1 => ?_)
  rw [WZ_upR ad cA sg hsh hk] at hP1
  have hL : (Z.set t (.inr (ci, fs.set kf (some (some q))))).length = Z.length := List.length_set ..
  refine k C (by rw [hL]; exact hl) (by rw [hL]; exact hs.tl.tl) hg (by rw [hL]; exact hn0) (by rw [hL]; exact hn9) hzk2 r hr ad H1 locs1 la hag (by unfold ADZ; rw [hL]; exact had) hF hla hP1 hS1
theorem z_iald {q n : Nat} {a : Int} {kk : Int → Option Res} (hsh : Z[q]? = some (.inl (0, n))) (hd : decode cc pc = .ok (.iaload, 1)) (k : ∀ v, JZ K rm cc own nL Z cs (pc + 1) ls (.inl v :: st) sg (kk v)) : JZ K rm cc own nL Z cs pc ls (.inl a :: .inr (.inr q) :: st) sg (rd (sg q) a n kk) := by
  obtain ⟨p, l, e, s, m, args, below, meth, c, D, cA, A, a0, n0, Q⟩ := K
  intro C hl hs hg hn0 hn9 hzk r hr ad H locs la hag had hF hla hP hS
  obtain ⟨hx, hb, hml, hown, hts, hK, hA, hN, hco⟩ := id C
  have ha : InR a := hs.hd
  unfold rd at hr
  by_cases hi : 0 ≤ a ∧ a < n
  · rw [if_pos hi] at hr
    refine va_iald hx hb hK hP q 0 (WZ_arr ad cA sg hsh) rfl (i32_ix ha hi) hd ?_
    have h := k _ C hl (hs.tl.tl.cons (show vz _ (.inl (sg q a.toNat)) from hg _ _)) hg hn0 hn9 hzk r hr ad H locs la hag had hF hla hP hS
    rw [i32_nat ha]; exact h
  · rw [if_neg hi] at hr; cases hr
theorem z_iast {q n : Nat} {a v : Int} {kk : Mem → Option Res} (hsh : Z[q]? = some (.inl (0, n))) (hd : decode cc pc = .ok (.iastore, 1)) (k : ∀ sg2, JZ K rm cc own nL Z cs (pc + 1) ls st sg2 (kk sg2)) : JZ K rm cc own nL Z cs pc ls (.inl v :: .inl a :: .inr (.inr q) :: st) sg (ST sg q a n v kk) := by
  obtain ⟨p, l, e, s, m, args, below, meth, c, D, cA, A, a0, n0, Q⟩ := K
  intro C hl hs hg hn0 hn9 hzk r hr ad H locs la hag had hF hla hP hS
  obtain ⟨hx, hb, hml, hown, hts, hK, hA, hN, hco⟩ := id C
  have ha : InR a := hs.tl.hd
  unfold ST at hr
  by_cases hi : 0 ≤ a ∧ a < n
  · rw [if_pos hi] at hr
    refine va_iast hx hb hK hP (WZ_D had) hS q 0 (WZ_arr ad cA sg hsh) rfl (i32_ix ha hi) hd (fun H1 locs1 hP1 _ hS1 => ?_)
    rw [i32_nat ha, WZ_upA ad cA sg hsh (v := v) rfl] at hP1
    exact k _ C hl hs.tl.tl.tl (RG_up hg q _ hs.hd) hn0 hn9 hzk r hr ad H1 locs1 la hag had hF hla hP1 hS1
  · rw [if_neg hi] at hr; cases hr
theorem z_alen {q n : Nat} (hsh : Z[q]? = some (.inl (0, n))) (hn : n < 2147483648) (hd : decode cc pc = .ok (.arraylength, 1)) (k : JZ K rm cc own nL Z cs (pc + 1) ls (.inl (n : Int) :: st) sg x) : JZ K rm cc own nL Z cs pc ls (.inr (.inr q) :: st) sg x := by
  obtain ⟨p, l, e, s, m, args, below, meth, c, D, cA, A, a0, n0, Q⟩ := K
  intro C hl hs hg hn0 hn9 hzk r hr ad H locs la hag had hF hla hP hS
  obtain ⟨hx, hb, hml, hown, hts, hK, hA, hN, hco⟩ := id C
  exact va_alen hx hb hK hP q 0 (WZ_arr ad cA sg hsh) (ty := .int) rfl (v := i32 (n : Int)) (Int32.ofInt_eq_ofNat).symm hd (k C hl (hs.tl.cons (show vz _ (.inl (n : Int)) from (show InR (n : Int) by unfold InR; omega))) hg hn0 hn9 hzk r hr ad H locs la hag had hF hla hP hS)
theorem z_gsT {idx : Nat} (hw : Cond.fieldLink own idx RX9 "TABLE_AT_FIRST" "[I" ∈ TT) (hd : decode cc pc = .ok (.getstatic idx, 3)) (k : JZ K rm cc own nL Z cs (pc + 3) ls (.inr (.inr 1002) :: st) sg x) : JZ K rm cc own nL Z cs pc ls st sg x := by
  obtain ⟨p, l, e, s, m, args, below, meth, c, D, cA, A, a0, n0, Q⟩ := K
  intro C hl hs hg hn0 hn9 hzk r hr ad H locs la hag had hF hla hP hS
  obtain ⟨hx, hb, hml, hown, hts, hK, hA, hN, hco⟩ := id C
  exact va_gets hx hb hF.2.1.1 hS hown (hts _ hw) (fun _ h => h) hd (k C hl (hs.cons (Or.inr (by omega))) hg hn0 hn9 hzk r hr ad H locs la hag had hF hla hP hS)
theorem z_gsR {idx : Nat} (hw : Cond.fieldLink own idx RX10 "RULES_AT_FIRST" "[I" ∈ TT) (hd : decode cc pc = .ok (.getstatic idx, 3)) (k : JZ K rm cc own nL Z cs (pc + 3) ls (.inr (.inr 1003) :: st) sg x) : JZ K rm cc own nL Z cs pc ls st sg x := by
  obtain ⟨p, l, e, s, m, args, below, meth, c, D, cA, A, a0, n0, Q⟩ := K
  intro C hl hs hg hn0 hn9 hzk r hr ad H locs la hag had hF hla hP hS
  obtain ⟨hx, hb, hml, hown, hts, hK, hA, hN, hco⟩ := id C
  exact va_gets hx hb hF.2.2.1 hS hown (hts _ hw) (fun _ h => h) hd (k C hl (hs.cons (Or.inr (by omega))) hg hn0 hn9 hzk r hr ad H locs la hag had hF hla hP hS)
theorem rtf_in (j : Nat) : InR (rtf j) := by
  unfold rtf InR
  match j with
  | 0 => decide
  | 1 => decide
  | 2 => decide
  | 3 => decide
  | 4 => decide
  | 5 => decide
  | 6 => decide
  | 7 => decide
  | 8 => decide
  | j + 9 => simp
theorem z_saT {a : Int} {kk : Int → Option Res} (hd : decode cc pc = .ok (.iaload, 1)) (k : ∀ v, JZ K rm cc own nL Z cs (pc + 1) ls (.inl v :: st) sg (kk v)) : JZ K rm cc own nL Z cs pc ls (.inl a :: .inr (.inr 1002) :: st) sg (rd rtf a 9 kk) := by
  obtain ⟨p, l, e, s, m, args, below, meth, c, D, cA, A, a0, n0, Q⟩ := K
  intro C hl hs hg hn0 hn9 hzk r hr ad H locs la hag had hF hla hP hS
  obtain ⟨hx, hb, hml, hown, hts, hK, hA, hN, hco⟩ := id C
  have ha : InR a := hs.hd
  unfold rd at hr
  by_cases hi : 0 ≤ a ∧ a < (9 : Nat)
  · rw [if_pos hi] at hr
    refine va_ti hx hb hF.2.1.2 hS (i32_ix ha hi) (v := .int (i32 (rtf a.toNat))) (by rw [i32_nat ha]) hd ?_
    exact k _ C hl (hs.tl.tl.cons (show vz _ (.inl (rtf a.toNat)) from rtf_in _)) hg hn0 hn9 hzk r hr ad H locs la hag had hF hla hP hS
  · rw [if_neg hi] at hr; cases hr
theorem z_slT (hd : decode cc pc = .ok (.arraylength, 1)) (k : JZ K rm cc own nL Z cs (pc + 1) ls (.inl 9 :: st) sg x) : JZ K rm cc own nL Z cs pc ls (.inr (.inr 1002) :: st) sg x := by
  obtain ⟨p, l, e, s, m, args, below, meth, c, D, cA, A, a0, n0, Q⟩ := K
  intro C hl hs hg hn0 hn9 hzk r hr ad H locs la hag had hF hla hP hS
  obtain ⟨hx, hb, hml, hown, hts, hK, hA, hN, hco⟩ := id C
  exact va_tlen hx hb hF.2.1.2 hS (v := i32 9) (by decide +kernel) hd (k C hl (hs.tl.cons (show vz _ (.inl 9) from inr_d rfl)) hg hn0 hn9 hzk r hr ad H locs la hag had hF hla hP hS)
theorem z_newa {at_ : ArrayType} {kd n N : Nat} {ty : FieldType} {nn : Int} {kk : Mem → Option Res} {Z2 : List ZS} {cs2 : Nat × Nat} (hw : Cond.arrayClass ty ∈ TT) (hty : newarray.typeOf at_ = ty) (hkd : (tyA (zcA K))[kd]? = some (zcA K kd, ty)) (hpr2 : ∀ s cB, va_RA s cB ty = (s.vm.findClass ("[" ++ ty.toString) = some cB)) (hdv : defaultValue ty = .int 0) (hnn : nn = (N : Int)) (hN : N < 100000) (hby : N * componentBytes ty ≤ 536870912) (hZn : Z.length = n) (hZ : Z ++ [.inl (kd, N)] = Z2) (hzk2 : Zok Z2 = true) (hn8 : n + 1 < 900) (hcs : (cs.1 + 1, cs.2 + N) = cs2) (hR : cs2.1 ≤ rm.cells ∧ cs2.2 ≤ rm.slots) (hd : decode cc pc = .ok (.newarray at_, 2)) (k : ∀ sg2, JZ K rm cc own nL Z2 cs2 (pc + 2) ls (.inr (.inr n) :: st) sg2 (kk sg2)) : JZ K rm cc own nL Z cs pc ls (.inl nn :: st) sg (lt (zm sg n) kk) := by
  obtain ⟨p, l, e, s, m, args, below, meth, c, D, cA, A, a0, n0, Q⟩ := K
  intro C hl hs hg hn0 hn9 hzk r hr ad H locs la hag had hF hla hP hS
  obtain ⟨hx, hb, hml, hown, hts, hK, hA, hN, hco⟩ := id C
  subst hZn
  subst hZ
  subst hcs
  subst hnn
  have hNN : InR (N : Int) := by unfold InR; omega
  refine va_newa (a0 := (N, .inl (fun _ => 0))) hx hb (by rw [hty]; exact hts _ hw) hty hK hP (WZ_D had) hS hA (fun c9 => by rw [vp_cell_i, hdv]) (fun z => by rw [← i32_0, i32_lt hNN in_0] at z; omega) (by rw [i32_nat hNN]; omega) hby hR.1 hR.2 hd (fun q cB H1 hK1 hP1 hD1 hS1 => ?_)
  have hcB : cB = cA kd := by
    have g1 := (hK1.2 3 (cB, ty) rfl).2
    have g2 := (hK.2 kd (cA kd, ty) hkd).2
    rw [hpr2] at g1
    have g2 : s.vm.findClass ("[" ++ ty.toString) = some (cA kd) := by
      have := hpr2 s (cA kd)
      rw [this] at g2; exact g2
    exact Option.some.inj (g1.symm.trans g2)
  subst hcB
  have hL : (Z ++ [Sum.inl (kd, N)]).length = Z.length + 1 := by simp
  have hE := ext_eq (ad := ad) (q := q) hn9
  have hW := WZ_new (z := Sum.inl (kd, N)) ad cA sg q hzk
  have hcell : cellZ (ext ad Z.length q) cA (zm sg Z.length) Z.length (Sum.inl (kd, N)) = Sum.inl (cA kd, N, Sum.inl (fun _ => 0)) := by
    unfold cellZ zm; simp only [if_true]; rw [i32_0]
  rw [hcell] at hW
  rw [← hW] at hP1
  have h9 := k (zm sg Z.length) C (fun i v h => vz_mono (by rw [hL]; omega) (hl i v h)) (VSZ.cons (Or.inl (by rw [hL]; omega)) (fun v hv => vz_mono (by rw [hL]; omega) (hs.tl v hv))) (fun a b => by unfold zm; split; exact in_0; exact hg a b) (by rw [hL]; exact Nat.le_succ_of_le hn0) (by rw [hL]; exact hn8) hzk2 r hr (ext ad Z.length q) H1 locs la (fun k hk => by rw [hE k (hk.elim (fun h => Or.inl (Nat.lt_of_lt_of_le h hn0)) Or.inr)]; exact hag k hk) (ADZ_new had hL hD1) (hF.addr (fun k hk => hE k (Or.inr hk))) (LH_eq hl hE hla) hP1 hS1
  have e2 : (Sum.inr (Sum.inr Z.length) :: st).map (vv (ext ad Z.length q)) = Value.ref q :: st.map (vv ad) := by
    rw [List.map_cons, map_eq hs.tl hE]
    show Value.ref (ext ad Z.length q Z.length) :: _ = _
    unfold ext; rw [if_pos rfl]
  rw [e2] at h9; exact h9
end ZROWS
