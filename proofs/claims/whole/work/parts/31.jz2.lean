def dfl (ty : Nat → FieldType) (fs : List (Option (Option Nat))) (N : Nat) : Bool := (List.range N).all (fun j => match fs[j]? with
  | some none => decide (defaultValue (ty j) = .int 0)
  | some (some none) => decide (defaultValue (ty j) = .null)
  | _ => false)
def AZ (Z0 : List ZS) (a0 : Nat → Nat) (sz : Nat) : Nat → Prop := fun q => (∃ k, k < Z0.length ∧ q = a0 k) ∨ sz ≤ q
def PcZ (D : va_G) (cA : Nat → ClassId) (Z0 : List ZS) (a0 : Nat → Nat) (sz : Nat) (sg : Mem) (av : List V) : Array Value → State → Prop := va_Pc (av.map (vv a0)) (fun U => U.heap.size = sz ∧ va_K D vwCl (tyA cA) U ∧ NWs U ∧ cloneOK U ∧ SFZ a0 (AZ Z0 a0 sz) U U.heap ∧ va_P D vwCl (WZ Z0 a0 cA sg) U.heap)
def QcZ (D : va_G) (cA : Nat → ClassId) (Z1 : List ZS) (a0 : Nat → Nat) (n0 : Nat) (r : Res) (A : Nat → Prop) : Array Value → State → Outcome → State → Prop := va_Qv (S := Nat → Nat) (fun ad => AGR a0 ad n0 ∧ RG r.2 ∧ ADZ Z1 ad A) (fun ad t => va_P D vwCl (WZ Z1 ad cA r.2) t.heap) A
/-- the contract of a constructor (or of a method over a growing world): world Z0 becomes world Z1 -/
def MKZ (l : Launch) (D : va_G) (cA : Nat → ClassId) (y : MethodName) (cc : ByteArray) (nL : Nat) (rm : Room) (cs : Nat × Nat) (Z0 Z1 : List ZS) (av : List V) (sg : Mem) (x : Option Res) : Prop :=
  VSZ Z0.length av → RG sg → ∀ r, x = some r → ∀ (a0 : Nat → Nat) (sz : Nat), (∀ i j, i < Z0.length → j < Z0.length → a0 i = a0 j → i = j) → Met l y (.code y cc nL none :: TT) rm (PcZ D cA Z0 a0 sz sg av) (QcZ D cA Z1 a0 Z0.length r (AZ Z0 a0 sz)) cs.1 cs.2 (AZ Z0 a0 sz)
def KZr (K : KZ) (Z1 : List ZS) (cs : Nat × Nat) : Prop := match K with
  | (_, _, _, s, _, args, below, meth, _, D, cA, A, a0, n0, Q) => meth.sig.returnType = none ∧ meth.locks = false ∧ Q = fun r => MQ below (QcZ D cA Z1 a0 n0 r A) args s cs.1 cs.2 A
theorem PcZ_blind {D : va_G} {cA : Nat → ClassId} {Z0 : List ZS} {a0 : Nat → Nat} {sz : Nat} {sg : Mem} {av : List V} : FrameBlind (PcZ D cA Z0 a0 sz sg av) := by
  intro a U g mk q
  obtain ⟨q0, q1, qK, qN, qc, qF, qP⟩ := q
  exact ⟨q0, q1, va_K.moved (u := U) (U := U.calling g mk a) (Vm.Alike.refl U.vm) qK, NWs.same (u := U) (U := U.calling g mk a) rfl qN, va_Nw.same rfl (rfl : U.vm = (U.calling g mk a).vm) qc, SFZ.moved (u := U) (U := U.calling g mk a) (Vm.Alike.refl U.vm) qF, qP⟩

theorem MKZ_of {l : Launch} {D : va_G} {cA : Nat → ClassId} {y : MethodName} {cc : ByteArray} {nL : Nat} {rm : Room} {own : String} {cs : Nat × Nat} {Z0 Z1 : List ZS} {av : List V} {sg : Mem} {x : Option Res} {ls : List (Option V)} (k : Nat) (hy : plainName y.cls = true) (ho : y.cls = own) (hls : ls = ent av ++ List.replicate k none) (hn : ∀ ad, (lg_sl (av.map (vv ad))).length ≤ nL) (hz9 : Z0.length < 900) (hzk : Zok Z0 = true)
    (h : ∀ K, (y.name = "<init>" → inInit K) → KZr K Z1 cs → JZ K rm cc own nL Z0 (0, 0) 0 ls [] sg x) : MKZ l D cA y cc nL rm cs Z0 Z1 av sg x := by
  subst ho
  intro hv hg r hr a0 sz hI
  refine Met.ofW (cc := cc) (maxL := nL) (ret := none) hy rfl ?_
  intro p e s m args below meth c s₁ B hml hPc
  obtain ⟨rfl, hsz, hK, hN, hco, hF, hP⟩ := hPc
  subst hsz
  have hts := atoms_spec (ws := .code y cc nL none :: TT) B.pre
  have hown : s.vm.findClass y.cls = some m.cls := findClass_of_methodNamed B.named
  have hl := lv_entry (av.map (vv a0)) (n := nL) (hn a0)
  rw [lg_entry_eq]
  generalize (lg_sl (av.map (vv a0)) ++ List.replicate (nL - (lg_sl (av.map (vv a0))).length) Slot.unset).toArray = la at hl ⊢
  refine h (p, l, e, s, m, (av.map (vv a0)).toArray, below, meth, c, D, cA, AZ Z0 a0 s.heap.size, a0, Z0.length, fun r => MQ below (QcZ D cA Z1 a0 Z0.length r (AZ Z0 a0 s.heap.size)) (av.map (vv a0)).toArray s cs.1 cs.2 (AZ Z0 a0 s.heap.size)) (fun hi => (name_of_methodNamed B.named B.method).1.trans hi) ⟨B.returns, B.notSynchronized, rfl⟩
    ⟨B.exec, B.bytes, hml, hown, fun w hw => hts w (List.mem_cons_of_mem _ hw), hK, fun q h => Or.inr h, hN, hco⟩ ?_ (fun _ h => by cases h) hg (Nat.le_refl _) hz9 hzk r hr a0 s.heap [] la (fun _ _ => rfl) ⟨hI, fun k hk => Or.inl ⟨k, hk, rfl⟩⟩ hF ⟨hl.1, hl.2.1, ?_⟩ hP va_S.rf
  · intro i v h1
    rw [hls] at h1
    exact hv v (ent_in av i v (ent_pad h1))
  · intro i v h1
    rw [hls] at h1
    have h2 := ent_has a0 av 0 i v (ent_pad h1)
    rw [Nat.zero_add] at h2
    exact hl.2.2 _ h2
theorem MKZ_ofF {l : Launch} {D : va_G} {cA : Nat → ClassId} {y : MethodName} {cc : ByteArray} {nL : Nat} {rm : Room} {own : String} {cs : Nat × Nat} {Z0 Z1 : List ZS} {av : List V} {sg : Mem} {x : Option Res} {ls : List (Option V)} (k : Nat) (hy : plainFor y = true) (ho : y.cls = own) (hls : ls = ent av ++ List.replicate k none) (hn : ∀ ad, (lg_sl (av.map (vv ad))).length ≤ nL) (hz9 : Z0.length < 900) (hzk : Zok Z0 = true)
    (h : ∀ K, (y.name = "<init>" → inInit K) → KZr K Z1 cs → JZ K rm cc own nL Z0 (0, 0) 0 ls [] sg x) : MKZ l D cA y cc nL rm cs Z0 Z1 av sg x := by
  subst ho
  intro hv hg r hr a0 sz hI
  refine va_MetF (cc := cc) (maxL := nL) (ret := none) hy rfl ?_
  intro p e s m args below meth c s₁ B hml hPc
  obtain ⟨rfl, hsz, hK, hN, hco, hF, hP⟩ := hPc
  subst hsz
  have hts := atoms_spec (ws := .code y cc nL none :: TT) B.pre
  have hown : s.vm.findClass y.cls = some m.cls := findClass_of_methodNamed B.named
  have hl := lv_entry (av.map (vv a0)) (n := nL) (hn a0)
  rw [lg_entry_eq]
  generalize (lg_sl (av.map (vv a0)) ++ List.replicate (nL - (lg_sl (av.map (vv a0))).length) Slot.unset).toArray = la at hl ⊢
  refine h (p, l, e, s, m, (av.map (vv a0)).toArray, below, meth, c, D, cA, AZ Z0 a0 s.heap.size, a0, Z0.length, fun r => MQ below (QcZ D cA Z1 a0 Z0.length r (AZ Z0 a0 s.heap.size)) (av.map (vv a0)).toArray s cs.1 cs.2 (AZ Z0 a0 s.heap.size)) (fun hi => (name_of_methodNamed B.named B.method).1.trans hi) ⟨B.returns, B.notSynchronized, rfl⟩
    ⟨B.exec, B.bytes, hml, hown, fun w hw => hts w (List.mem_cons_of_mem _ hw), hK, fun q h => Or.inr h, hN, hco⟩ ?_ (fun _ h => by cases h) hg (Nat.le_refl _) hz9 hzk r hr a0 s.heap [] la (fun _ _ => rfl) ⟨hI, fun k hk => Or.inl ⟨k, hk, rfl⟩⟩ hF ⟨hl.1, hl.2.1, ?_⟩ hP va_S.rf
  · intro i v h1
    rw [hls] at h1
    exact hv v (ent_in av i v (ent_pad h1))
  · intro i v h1
    rw [hls] at h1
    have h2 := ent_has a0 av 0 i v (ent_pad h1)
    rw [Nat.zero_add] at h2
    exact hl.2.2 _ h2
section ZROWS2
variable {K : KZ} {rm : Room} {cc : ByteArray} {own : String} {nL pc : Nat} {Z : List ZS} {cs : Nat × Nat} {ls ls2 : List (Option V)} {st : List V} {sg : Mem} {x : Option Res}
theorem z_objInit {idx t : Nat} (hw : Cond.methodLink own idx objectInit ∈ TT ∧ Cond.instanceMethod objectInit ∈ TT ∧ Cond.code objectInit ⟨#[0xb1]⟩ 1 none ∈ TT) (hR : 1 ≤ rm.frames ∧ 20 ≤ rm.locals) (hcat : (st.map fun v => (vv (fun n => n) v).category).sum ≤ 8) (hd : decode cc pc = .ok (.invokespecial idx, 3)) (k : JZ K rm cc own nL Z cs (pc + 3) ls st sg x) : JZ K rm cc own nL Z cs pc ls (.inr (.inr t) :: st) sg x := by
  obtain ⟨p, l, e, s, m, args, below, meth, c, D, cA, A, a0, n0, Q⟩ := K
  intro C hl hs hg hn0 hn9 hzk r hr ad H locs la hag had hF hla hP hS
  obtain ⟨hx, hb, hml, hown, hts, hK, hA, hN, hco⟩ := id C
  refine W.objInit hx hb hown (hts _ hw.1) (hts _ hw.2.1) (hts _ hw.2.2) rfl (by rw [hml]; exact hla.1) (a := ad t) (rest := st.map (vv ad)) rfl hd hR.1 ?_ (k C hl hs.tl hg hn0 hn9 hzk r hr ad H locs la hag had hF hla hP hS)
  rw [cat_map]; show 2 * 0 + _ + 12 ≤ _; omega
theorem z_vret (hq : KZr K Z cs) (hd : decode cc pc = .ok (.return_, 1)) : JZ K rm cc own nL Z cs pc ls [] sg (some (0, sg)) := by
  obtain ⟨p, l, e, s, m, args, below, meth, c, D, cA, A, a0, n0, Q⟩ := K
  intro C hl hs hg hn0 hn9 hzk r hr ad H locs la hag had hF hla hP hS
  obtain ⟨hx, hb, hml, hown, hts, hK, hA, hN, hco⟩ := id C
  obtain ⟨q1, q2, q3⟩ := hq
  subst q3
  cases hr
  exact W.vret hx hb q1 (fun t ht hW => ⟨⟨ad, rfl, ⟨hag, hg, had⟩, (by rw [← ht] at hP; exact hP)⟩, hS.F ht⟩) hS.2.2 hd q2
theorem z_new {idx ci N n : Nat} {C0 : String} {T : u_T} {ty0 : Nat → FieldType} {fs : List (Option (Option Nat))} {kk : Mem → Option Res} {Z2 : List ZS} {cs2 : Nat × Nat} (hw : Cond.classLink own idx C0 ∈ TT ∧ Cond.instantiable C0 N ∈ TT ∧ Cond.initialized C0 ∈ TT) (hci : vwCl[ci]? = some (C0, T, N)) (hly : ∀ w ∈ u_ws C0 T N, w ∈ TT) (hty : ∀ k, k < N → parseFieldDescriptor (T k).2.2.1 = some (ty0 k)) (hdf : dfl ty0 fs N = true) (hZn : Z.length = n) (hZ : Z ++ [.inr (ci, fs)] = Z2) (hzk2 : Zok Z2 = true) (hn8 : n + 1 < 900) (hcs : (cs.1 + 1, cs.2 + N) = cs2) (hR : cs2.1 ≤ rm.cells ∧ cs2.2 ≤ rm.slots) (hd : decode cc pc = .ok (.new idx, 3)) (k : ∀ sg2, JZ K rm cc own nL Z2 cs2 (pc + 3) ls (.inr (.inr n) :: st) sg2 (kk sg2)) : JZ K rm cc own nL Z cs pc ls st sg (lt (zm sg n) kk) := by
  obtain ⟨p, l, e, s, m, args, below, meth, c, D, cA, A, a0, n0, Q⟩ := K
  intro C hl hs hg hn0 hn9 hzk r hr ad H locs la hag had hF hla hP hS
  obtain ⟨hx, hb, hml, hown, hts, hK, hA, hN, hco⟩ := id C
  subst hZn
  subst hZ
  subst hcs
  have hfs : ∀ q : Nat, ∀ j, j < N → defaultValue (ty0 j) = vp_V (fs.mapIdx (fvalZ (ext ad Z.length q) (zm sg Z.length) Z.length)) j := by
    intro q j hj
    have h1 := List.all_eq_true.mp hdf j (List.mem_range.mpr hj)
    unfold vp_V
    rw [List.getD_eq_getElem?_getD, List.getElem?_mapIdx]
    cases hf : fs[j]? with
    | none => rw [hf] at h1; cases h1
    | some f =>
      rw [hf] at h1
      cases f with
      | none =>
        have h2 : defaultValue (ty0 j) = .int 0 := by simpa using h1
        rw [h2]
        show Value.int 0 = Value.int (i32 (zm sg Z.length Z.length j))
        unfold zm; simp only [if_true]; rw [i32_0]
      | some g => cases g with
        | none =>
          have h2 : defaultValue (ty0 j) = .null := by simpa using h1
          rw [h2]; rfl
        | some q => cases h1
  have hL : (Z ++ [Sum.inr (ci, fs)]).length = Z.length + 1 := by simp
  have key : ∀ (q : Nat) (H1 : Heap), va_P D vwCl (WZ Z ad cA sg ++ [(q, .inr (ci, fs.mapIdx (fvalZ (ext ad Z.length q) (zm sg Z.length) Z.length)))]) H1 → va_D A (WZ Z ad cA sg ++ [(q, .inr (ci, fs.mapIdx (fvalZ (ext ad Z.length q) (zm sg Z.length) Z.length)))]) → va_S A s.heap H1 locs → W p l e rm s m args below meth c H1 locs (cs.1 + 1) (cs.2 + N) (Q r) (F0 m (pc + 3) la (.ref q :: st.map (vv ad))) := by
    intro q H1 hP1 hD1 hS1
    have hE := ext_eq (ad := ad) (q := q) hn9
    have hW := WZ_new (z := Sum.inr (ci, fs)) ad cA sg q hzk
    have hW : WZ (Z ++ [Sum.inr (ci, fs)]) (ext ad Z.length q) cA (zm sg Z.length) = WZ Z ad cA sg ++ [(q, Sum.inr (ci, fs.mapIdx (fvalZ (ext ad Z.length q) (zm sg Z.length) Z.length)))] := hW
    rw [← hW] at hP1
    have h9 := k (zm sg Z.length) C (fun i v h => vz_mono (by rw [hL]; omega) (hl i v h)) (VSZ.cons (Or.inl (by rw [hL]; omega)) (fun v hv => vz_mono (by rw [hL]; omega) (hs v hv))) (fun a b => by unfold zm; split; exact in_0; exact hg a b) (by rw [hL]; exact Nat.le_succ_of_le hn0) (by rw [hL]; exact hn8) hzk2 r hr (ext ad Z.length q) H1 locs la (fun k hk => by rw [hE k (hk.elim (fun h => Or.inl (Nat.lt_of_lt_of_le h hn0)) Or.inr)]; exact hag k hk) (ADZ_new had hL hD1) (hF.addr (fun k hk => hE k (Or.inr hk))) (LH_eq hl hE hla) hP1 hS1
    have e2 : (Sum.inr (Sum.inr Z.length) :: st).map (vv (ext ad Z.length q)) = Value.ref q :: st.map (vv ad) := by
      rw [List.map_cons, map_eq hs hE]
      show Value.ref (ext ad Z.length q Z.length) :: _ = _
      unfold ext; rw [if_pos rfl]
    rw [e2] at h9; exact h9
  have hKn := hK.1 ci _ hci
  refine W.newcK hx hb hown (hts _ hw.1) (hts _ hw.2.1) (hts _ hw.2.2) rfl hd hR.1 hR.2 hKn.2.1 rfl fun H1 kC hkC e1 z1 o1 => ?_
  have hk : ∀ (k : Nat) (x : Nat × va_E), (WZ Z ad cA sg)[k]? = some x → H1[x.1]? = H[x.1]? := fun k x hx => o1 x.1 ((hP k x hx).lt)
  refine key H.size H1 ((hP.kept hk).app (fun k x hx => ?_)) ((WZ_D had).push hP rfl (hA _ hS.1)) ⟨Nat.le_trans hS.1 (by omega), fun x h1 h2 => (o1 x (Nat.lt_of_lt_of_le h1 hS.1)).trans (hS.2.1 x h1 h2), hS.2.2⟩
  have hz : k < 1 := (List.getElem?_eq_some_iff.mp hx).1
  rw [show k = 0 by omega] at hx
  cases hx
  exact ⟨_, hci, (u_born ty0 hts hly hKn hkC e1 hty).to (hfs H.size)⟩
theorem z_callI {y : MethodName} {cc2 : ByteArray} {nL2 idx t : Nat} {rm2 : Room} {mcs cs2 : Nat × Nat} {Z1 : List ZS} {xx : Option Res} {kk : Int → Mem → Option Res} (hM : MKZ (zl K) (zD K) (zcA K) y cc2 nL2 rm2 mcs Z Z1 [.inr (.inr t)] sg xx) (hw : Cond.methodLink own idx y ∈ TT ∧ Cond.instanceMethod y ∈ TT ∧ Cond.initialized y.cls ∈ TT ∧ Cond.code y cc2 nL2 none ∈ TT ∧ notMH y 0 ∧ y.name = "<init>") (hR : rm2.cells = mcs.1 ∧ rm2.slots = mcs.2 ∧ rm2.frames + 1 ≤ rm.frames ∧ 8 + (nL2 + 11) + rm2.locals ≤ rm.locals) (hcs : (cs.1 + mcs.1, cs.2 + mcs.2) = cs2) (hR2 : cs2.1 ≤ rm.cells ∧ cs2.2 ≤ rm.slots) (hz1 : Z.length ≤ Z1.length ∧ Z1.length < 900) (hzk2 : Zok Z1 = true) (hcat : (st.map fun v => (vv (fun n => n) v).category).sum ≤ 8) (hd : decode cc pc = .ok (.invokespecial idx, 3)) (k : ∀ r sg2, JZ K rm cc own nL Z1 cs2 (pc + 3) ls st sg2 (kk r sg2)) : JZ K rm cc own nL Z cs pc ls (.inr (.inr t) :: st) sg (bnd xx kk) := by
  obtain ⟨p, l, e, s, m, args, below, meth, c, D, cA, A, a0, n0, Q⟩ := K
  intro C hl hs hg hn0 hn9 hzk r hr ad H locs la hag had hF hla hP hS
  obtain ⟨hx, hb, hml, hown, hts, hK, hA, hN, hco⟩ := id C
  subst hcs
  cases hxx : xx with
  | none => rw [hxx] at hr; cases hr
  | some r0 =>
    rw [hxx] at hr
    have hr : kk r0.1 r0.2 = some r := hr
    have hAA : ∀ q, AZ Z ad H.size q → A q := fun q hq => hq.elim (fun ⟨k1, h1, e1⟩ => by rw [e1]; exact had.2 k1 h1) (fun h => hA q (Nat.le_trans hS.1 h))
    have hVa : VSZ Z.length [.inr (.inr t)] := fun v hv => by rw [List.mem_singleton.mp hv]; exact hs.hd
    have hVr : VSZ Z.length st := hs.tl
    have hm : Met l y (.code y cc2 nL2 none :: TT) rm2 (PcZ D cA Z ad H.size sg [.inr (.inr t)]) (QcZ D cA Z1 ad Z.length r0 (AZ Z ad H.size)) mcs.1 mcs.2 (AZ Z ad H.size) := hM hVa hg r0 hxx ad H.size had.1
    have hPre : ∀ U : State, U.heap = H → s.WarmedH U.vm → PcZ D cA Z ad H.size sg [.inr (.inr t)] ([.inr (.inr t)].map (vv ad)).toArray U := fun U hU hW =>
      ⟨rfl, by rw [hU], va_K.moved hW.alike hK, hN.warm hW, va_Nw.warmC hW hco, by rw [hU]; exact ((hF.kept hS.2.1).narrow hAA).moved hW.alike, by rw [hU]; exact hP⟩
    have hroom : 2 * (F0 m pc la ((.inr (.inr t) :: st).map (vv ad))).monitorRoom + ((st.map (vv ad)).map fun v => v.category).sum ≤ 8 := by
      rw [cat_map]; show 2 * 0 + _ ≤ 8; omega
    refine va_callv (va_runI (n := 0) (As := []) (rest := st.map (vv ad)) (b := ad t) (nL := nL) ⟨hx, hb, hml, hown, hts⟩ hm ⟨callB_of 0 hts (CN.good hw.2.2.2.1) rfl hR.1 hR.2.1 (hts _ hw.2.2.1) (hts _ hw.1) hw.2.2.2.2.1 ⟨hR.2.2.1, hR.2.2.2⟩, hw.2.2.2.2.2, hts _ hw.2.1⟩ ⟨PcZ_blind, hPre⟩ rfl rfl hla.1 rfl hroom hd hR2) hS (fun q _ h => hAA q h) hAA (fun ad1 t1 H1 locs1 ht hvm hp hB hzz hkk hS1 => ?_)
    have hE : ∀ k, (k < Z.length ∨ 1000 ≤ k) → ad1 k = ad k := hp.1
    have h9 := k _ _ C (fun i v h => vz_mono hz1.1 (hl i v h)) (fun v hv => vz_mono hz1.1 (hVr v hv)) hp.2.1 (Nat.le_trans hn0 hz1.1) hz1.2 hzk2 r hr ad1 H1 locs1 la (fun k hk => by rw [hE k (hk.elim (fun h => Or.inl (Nat.lt_of_lt_of_le h hn0)) Or.inr)]; exact hag k hk) ⟨hp.2.2.1, fun k hk => hAA _ (hp.2.2.2 k hk)⟩ (hF.addr (fun k hk => hE k (Or.inr hk))) (LH_eq hl hE hla) (by rw [← ht]; exact hB) hS1
    rw [map_eq hVr hE] at h9
    exact h9
theorem z_callN {y : MethodName} {cc2 : ByteArray} {nL2 idx t : Nat} {rm2 : Room} {mcs cs2 : Nat × Nat} {Z1 : List ZS} {xx : Option Res} {kk : Int → Mem → Option Res} {host : String} (hM : MKZ (zl K) (zD K) (zcA K) y cc2 nL2 rm2 mcs Z Z1 [.inr (.inr t)] sg xx) (hw : Cond.methodLinkNest own idx y host ∈ NW ∧ Cond.instanceMethod y ∈ TT ∧ Cond.initialized y.cls ∈ TT ∧ Cond.code y cc2 nL2 none ∈ TT ∧ notMH y 0 ∧ y.name = "<init>") (hR : rm2.cells = mcs.1 ∧ rm2.slots = mcs.2 ∧ rm2.frames + 1 ≤ rm.frames ∧ 8 + (nL2 + 11) + rm2.locals ≤ rm.locals) (hcs : (cs.1 + mcs.1, cs.2 + mcs.2) = cs2) (hR2 : cs2.1 ≤ rm.cells ∧ cs2.2 ≤ rm.slots) (hz1 : Z.length ≤ Z1.length ∧ Z1.length < 900) (hzk2 : Zok Z1 = true) (hcat : (st.map fun v => (vv (fun n => n) v).category).sum ≤ 8) (hd : decode cc pc = .ok (.invokespecial idx, 3)) (k : ∀ r sg2, JZ K rm cc own nL Z1 cs2 (pc + 3) ls st sg2 (kk r sg2)) : JZ K rm cc own nL Z cs pc ls (.inr (.inr t) :: st) sg (bnd xx kk) := by
  obtain ⟨p, l, e, s, m, args, below, meth, c, D, cA, A, a0, n0, Q⟩ := K
  intro C hl hs hg hn0 hn9 hzk r hr ad H locs la hag had hF hla hP hS
  obtain ⟨hx, hb, hml, hown, hts, hK, hA, hN, hco⟩ := id C
  subst hcs
  cases hxx : xx with
  | none => rw [hxx] at hr; cases hr
  | some r0 =>
    rw [hxx] at hr
    have hr : kk r0.1 r0.2 = some r := hr
    have hAA : ∀ q, AZ Z ad H.size q → A q := fun q hq => hq.elim (fun ⟨k1, h1, e1⟩ => by rw [e1]; exact had.2 k1 h1) (fun h => hA q (Nat.le_trans hS.1 h))
    have hVa : VSZ Z.length [.inr (.inr t)] := fun v hv => by rw [List.mem_singleton.mp hv]; exact hs.hd
    have hVr : VSZ Z.length st := hs.tl
    have hm : Met l y (.code y cc2 nL2 none :: TT) rm2 (PcZ D cA Z ad H.size sg [.inr (.inr t)]) (QcZ D cA Z1 ad Z.length r0 (AZ Z ad H.size)) mcs.1 mcs.2 (AZ Z ad H.size) := hM hVa hg r0 hxx ad H.size had.1
    have hPre : ∀ U : State, U.heap = H → s.WarmedH U.vm → PcZ D cA Z ad H.size sg [.inr (.inr t)] ([.inr (.inr t)].map (vv ad)).toArray U := fun U hU hW =>
      ⟨rfl, by rw [hU], va_K.moved hW.alike hK, hN.warm hW, va_Nw.warmC hW hco, by rw [hU]; exact ((hF.kept hS.2.1).narrow hAA).moved hW.alike, by rw [hU]; exact hP⟩
    have hroom : 2 * (F0 m pc la ((.inr (.inr t) :: st).map (vv ad))).monitorRoom + ((st.map (vv ad)).map fun v => v.category).sum ≤ 8 := by
      rw [cat_map]; show 2 * 0 + _ ≤ 8; omega
    refine va_callv (va_runIN (n := 0) (As := []) (rest := st.map (vv ad)) (b := ad t) (nL := nL) ⟨hx, hb, hml, hown, hts⟩ hm ⟨va_cnB 0 hts (CN.good hw.2.2.2.1) rfl hR.1 hR.2.1 (hN _ hw.1) (hts _ hw.2.2.1) hw.2.2.2.2.1 ⟨hR.2.2.1, hR.2.2.2⟩, hw.2.2.2.2.2, hts _ hw.2.1⟩ ⟨PcZ_blind, hPre⟩ rfl rfl hla.1 rfl hroom hd hR2) hS (fun q _ h => hAA q h) hAA (fun ad1 t1 H1 locs1 ht hvm hp hB hzz hkk hS1 => ?_)
    have hE : ∀ k, (k < Z.length ∨ 1000 ≤ k) → ad1 k = ad k := hp.1
    have h9 := k _ _ C (fun i v h => vz_mono hz1.1 (hl i v h)) (fun v hv => vz_mono hz1.1 (hVr v hv)) hp.2.1 (Nat.le_trans hn0 hz1.1) hz1.2 hzk2 r hr ad1 H1 locs1 la (fun k hk => by rw [hE k (hk.elim (fun h => Or.inl (Nat.lt_of_lt_of_le h hn0)) Or.inr)]; exact hag k hk) ⟨hp.2.2.1, fun k hk => hAA _ (hp.2.2.2 k hk)⟩ (hF.addr (fun k hk => hE k (Or.inr hk))) (LH_eq hl hE hla) (by rw [← ht]; exact hB) hS1
    rw [map_eq hVr hE] at h9
    exact h9
theorem z_callS {y : MethodName} {cc2 : ByteArray} {nL2 idx t : Nat} {rm2 : Room} {mcs cs2 : Nat × Nat} {Z1 : List ZS} {xx : Option Res} {kk : Int → Mem → Option Res} {b : Int} (hM : MKZ (zl K) (zD K) (zcA K) y cc2 nL2 rm2 mcs Z Z1 [.inr (.inr t), .inl b] sg xx) (hw : CS own idx y cc2 nL2 none 2) (hR : rm2.cells = mcs.1 ∧ rm2.slots = mcs.2 ∧ rm2.frames + 1 ≤ rm.frames ∧ 8 + (nL2 + 11) + rm2.locals ≤ rm.locals) (hcs : (cs.1 + mcs.1, cs.2 + mcs.2) = cs2) (hR2 : cs2.1 ≤ rm.cells ∧ cs2.2 ≤ rm.slots) (hz1 : Z.length ≤ Z1.length ∧ Z1.length < 900) (hzk2 : Zok Z1 = true) (hcat : (st.map fun v => (vv (fun n => n) v).category).sum ≤ 8) (hd : decode cc pc = .ok (.invokestatic idx, 3)) (k : ∀ r sg2, JZ K rm cc own nL Z1 cs2 (pc + 3) ls st sg2 (kk r sg2)) : JZ K rm cc own nL Z cs pc ls (.inl b :: .inr (.inr t) :: st) sg (bnd xx kk) := by
  obtain ⟨p, l, e, s, m, args, below, meth, c, D, cA, A, a0, n0, Q⟩ := K
  intro C hl hs hg hn0 hn9 hzk r hr ad H locs la hag had hF hla hP hS
  obtain ⟨hx, hb, hml, hown, hts, hK, hA, hN, hco⟩ := id C
  subst hcs
  cases hxx : xx with
  | none => rw [hxx] at hr; cases hr
  | some r0 =>
    rw [hxx] at hr
    have hr : kk r0.1 r0.2 = some r := hr
    have hAA : ∀ q, AZ Z ad H.size q → A q := fun q hq => hq.elim (fun ⟨k1, h1, e1⟩ => by rw [e1]; exact had.2 k1 h1) (fun h => hA q (Nat.le_trans hS.1 h))
    have hVa : VSZ Z.length [.inr (.inr t), .inl b] := VSZ.cons hs.tl.hd (VSZ.cons hs.hd (fun _ h => by cases h))
    have hVr : VSZ Z.length st := hs.tl.tl
    have hm : Met l y (.code y cc2 nL2 none :: TT) rm2 (PcZ D cA Z ad H.size sg [.inr (.inr t), .inl b]) (QcZ D cA Z1 ad Z.length r0 (AZ Z ad H.size)) mcs.1 mcs.2 (AZ Z ad H.size) := hM hVa hg r0 hxx ad H.size had.1
    have hPre : ∀ U : State, U.heap = H → s.WarmedH U.vm → PcZ D cA Z ad H.size sg [.inr (.inr t), .inl b] ([.inr (.inr t), .inl b].map (vv ad)).toArray U := fun U hU hW =>
      ⟨rfl, by rw [hU], va_K.moved hW.alike hK, hN.warm hW, va_Nw.warmC hW hco, by rw [hU]; exact ((hF.kept hS.2.1).narrow hAA).moved hW.alike, by rw [hU]; exact hP⟩
    have hroom : 2 * (F0 m pc la ((.inl b :: .inr (.inr t) :: st).map (vv ad))).monitorRoom + ((st.map (vv ad)).map fun v => v.category).sum ≤ 8 := by
      rw [cat_map]; show 2 * 0 + _ ≤ 8; omega
    refine va_callv (va_runS (n := 2) (As := [.ref (ad t), .int (i32 b)]) (rest := st.map (vv ad)) (nL := nL) ⟨hx, hb, hml, hown, hts⟩ hm (va_cwS 2 hts hw.good rfl hR.1 hR.2.1 hw.2.2.2.2 ⟨hR.2.2.1, hR.2.2.2⟩) ⟨PcZ_blind, hPre⟩ rfl rfl hla.1 rfl hroom hd hR2) hS (fun q _ h => hAA q h) hAA (fun ad1 t1 H1 locs1 ht hvm hp hB hzz hkk hS1 => ?_)
    have hE : ∀ k, (k < Z.length ∨ 1000 ≤ k) → ad1 k = ad k := hp.1
    have h9 := k _ _ C (fun i v h => vz_mono hz1.1 (hl i v h)) (fun v hv => vz_mono hz1.1 (hVr v hv)) hp.2.1 (Nat.le_trans hn0 hz1.1) hz1.2 hzk2 r hr ad1 H1 locs1 la (fun k hk => by rw [hE k (hk.elim (fun h => Or.inl (Nat.lt_of_lt_of_le h hn0)) Or.inr)]; exact hag k hk) ⟨hp.2.2.1, fun k hk => hAA _ (hp.2.2.2 k hk)⟩ (hF.addr (fun k hk => hE k (Or.inr hk))) (LH_eq hl hE hla) (by rw [← ht]; exact hB) hS1
    rw [map_eq hVr hE] at h9
    exact h9
end ZROWS2
